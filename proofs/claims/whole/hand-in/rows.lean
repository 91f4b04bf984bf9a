section
theorem pk_us {f : Nat → Int32} {k : Nat} {x : Int32} : upd f k x k = x := if_pos rfl
theorem pk_un {f : Nat → Int32} {k j : Nat} {x : Int32} (h : j ≠ k) : upd f k x j = f j := if_neg h
theorem pk_sub {a b : Nat} (h : b ≤ a) : nI a - nI b = nI (a - b) := by
  obtain ⟨c, rfl⟩ : ∃ c, a = c + b := ⟨a - b, by omega⟩
  rw [← nI_add, Int32.add_sub_cancel, Nat.add_sub_cancel]
theorem pk_m1 (n : Nat) : nI (n + 1) + (-1) = nI n := by
  rw [← nI_1, Int32.add_assoc, show (1 : Int32) + (-1) = 0 from rfl, Int32.add_zero]
theorem pk_mul (a b : Nat) : nI a * nI b = nI (a * b) := (Int32.ofNat_mul a b).symm
theorem pk_div {a d : Nat} (ha : a < 2 ^ 31) (h0 : 0 < d) (hd : d < 2 ^ 31) : nI a / nI d = nI (a / d) := by
  apply Int32.toInt_inj.mp
  rw [lg_idiv_nonneg (by rw [nI_toInt ha]; omega) (by rw [nI_toInt hd]; omega), nI_toInt ha, nI_toInt hd, nI_toInt (Nat.lt_of_le_of_lt (Nat.div_le_self a d) ha)]
  first | rfl | exact (Int.natCast_ediv _ _).symm
theorem pk_rem {a d : Nat} (ha : a < 2 ^ 31) (h0 : 0 < d) (hd : d < 2 ^ 31) : nI a - nI a / nI d * nI d = nI (a % d) := by
  rw [pk_div ha h0 hd, pk_mul, pk_sub (Nat.div_mul_le_self a d)]
  exact congrArg nI (by have := Nat.div_add_mod' a d; omega)
theorem pk_ix (x : Int32) {n : Nat} (hn : n < 2 ^ 31) : x < 0 ∨ nI n ≤ x ∨ ∃ j : Nat, j < n ∧ x = nI j := by
  by_cases h : x < 0
  · exact Or.inl h
  · obtain ⟨j, hj, rfl⟩ := nI_of h
    by_cases h2 : j < n
    · exact Or.inr (Or.inr ⟨j, h2, rfl⟩)
    · exact Or.inr (Or.inl (nI_le (by omega) hj))
theorem pk_tn {n : Nat} (h : n < 2 ^ 32) : (nI n).toBitVec.toNat = n := Nat.mod_eq_of_lt h
theorem pk_and (x : Int32) {m : Int32} (k : Nat) (hm : m.toBitVec.toNat = 2 ^ k - 1) : x &&& m = nI (x.toBitVec.toNat % 2 ^ k) := by
  apply Int32.toBitVec_inj.mp
  apply BitVec.eq_of_toNat_eq
  rw [Int32.toBitVec_and, BitVec.toNat_and, hm, Nat.and_two_pow_sub_one_eq_mod]
  show _ = (BitVec.ofNat 32 _).toNat
  rw [BitVec.toNat_ofNat]
  exact (Nat.mod_eq_of_lt (Nat.lt_of_le_of_lt (Nat.mod_le _ _) x.toBitVec.isLt)).symm
theorem pk_andN {n : Nat} (h : n < 2 ^ 32) {m : Int32} (k : Nat) (hm : m.toBitVec.toNat = 2 ^ k - 1) : nI n &&& m = nI (n % 2 ^ k) := by
  rw [pk_and _ k hm, pk_tn h]
theorem pk_shl (a s : Int32) (k : Nat) (hs : (s.toBitVec.smod 32).toNat = k) : (a <<< s).toBitVec.toNat = a.toBitVec.toNat * 2 ^ k % 2 ^ 32 := by
  show (a.toBitVec <<< (s.toBitVec.smod 32).toNat).toNat = _
  rw [hs, BitVec.toNat_shiftLeft, Nat.shiftLeft_eq]
theorem pk_shlN {n : Nat} (s : Int32) (k : Nat) (hs : (s.toBitVec.smod 32).toNat = k) (h : n * 2 ^ k < 2 ^ 32) : nI n <<< s = nI (n * 2 ^ k) := by
  apply Int32.toBitVec_inj.mp
  apply BitVec.eq_of_toNat_eq
  have hn : n < 2 ^ 32 := Nat.lt_of_le_of_lt (Nat.le_mul_of_pos_right n (Nat.two_pow_pos k)) h
  rw [pk_shl _ _ k hs, pk_tn hn, pk_tn h, Nat.mod_eq_of_lt h]
theorem pk_shr (a s : Int32) (k : Nat) (hs : (s.toBitVec.smod 32).toNat = k) : (a >>> s).toInt = a.toInt >>> k := by
  show (a.toBitVec.sshiftRight (s.toBitVec.smod 32).toNat).toInt = _
  rw [hs, BitVec.toInt_sshiftRight]
  rfl
theorem pk_shrN {n : Nat} (h : n < 2 ^ 31) (s : Int32) (k : Nat) (hs : (s.toBitVec.smod 32).toNat = k) : nI n >>> s = nI (n / 2 ^ k) := by
  apply Int32.toInt_inj.mp
  have h2 : n / 2 ^ k ≤ n := Nat.div_le_self _ _
  rw [pk_shr _ _ k hs, nI_toInt h, nI_toInt (by omega), Int.shiftRight_eq_div_pow]
  rfl
theorem pk_loop {σ : Type} (W : Nat → Nat → σ → Prop) (I : Nat → σ → Prop) (e i0 : Nat) (s : σ) (hi : i0 ≤ e) (h0 : I i0 s) (hx : ∀ n s, I e s → W (n + 1) e s)
    (hs : ∀ n i s, i < e → I i s → (∀ s', I (i + 1) s' → W n (i + 1) s') → W (n + 1) i s) : ∃ n, W n i0 s :=
  ⟨e + 1, loop_i W I e hx hs (e + 1) i0 s hi (by omega) h0⟩
theorem pk_loopD {σ : Type} (W : Nat → Nat → σ → Prop) (I : Nat → σ → Prop) (hx : ∀ n s, I 0 s → W (n + 1) 0 s)
    (hs : ∀ n i s, I (i + 1) s → (∀ s', I i s' → W n i s') → W (n + 1) (i + 1) s) : ∀ (e : Nat) (s : σ), I e s → W (e + 1) e s := by
  intro e
  induction e with
  | zero => exact fun s h => hx 0 s h
  | succ e ih => exact fun s h => hs (e + 1) e s h (fun s' h' => ih s' h')
theorem pk_least (P : Nat → Prop) (h : ∃ k, P k) : ∃ k, P k ∧ ∀ j, j < k → ¬ P j := by
  obtain ⟨k, hk⟩ := h
  induction k using Nat.strongRecOn with
  | ind k ih =>
    by_cases e : ∃ j, j < k ∧ P j
    · obtain ⟨j, hj, pj⟩ := e
      exact ih j hj pj
    · exact ⟨k, hk, fun j hj pj => e ⟨j, hj, pj⟩⟩
end
section
/-! 01: counted loops, digits, packed codes, masks, the table (pure; no printed name in it) -/
noncomputable def qd_it {α : Type} (f : Nat → α → α) (z : α) (n : Nat) : α := Nat.rec (motive := fun _ => α) z f n
theorem qd_it0 {α : Type} (f : Nat → α → α) (z : α) : qd_it f z 0 = z := rfl
theorem qd_itS {α : Type} (f : Nat → α → α) (z : α) (n : Nat) : qd_it f z (n + 1) = f n (qd_it f z n) := rfl
theorem qd_itC {α : Type} {f g : Nat → α → α} {z : α} : ∀ {n : Nat}, (∀ i r, i < n → f i r = g i r) → qd_it f z n = qd_it g z n := by
  intro n
  induction n with
  | zero => intro _; rfl
  | succ n ih =>
    intro h
    rw [qd_itS, qd_itS, ih (fun i r hi => h i r (by omega)), h n _ (by omega)]
noncomputable def qd_fo {α β : Type} (f : α → β → β) (z : β) (l : List α) : β := List.rec (motive := fun _ => β) z (fun a _ r => f a r) l
theorem qd_foN {α β : Type} (f : α → β → β) (z : β) : qd_fo f z [] = z := rfl
theorem qd_foC {α β : Type} (f : α → β → β) (z : β) (a : α) (l : List α) : qd_fo f z (a :: l) = f a (qd_fo f z l) := rfl
/-- b ? x : y -/
noncomputable def qd_bi {α : Type} (b : Bool) (x y : α) : α := Bool.rec (motive := fun _ => α) y x b
theorem qd_biT {α : Type} {x y : α} : qd_bi true x y = x := rfl
theorem qd_biF {α : Type} {x y : α} : qd_bi false x y = y := rfl
theorem qd_bi_t {α : Type} {b : Bool} {x y : α} (h : b = true) : qd_bi b x y = x := by rw [h]; rfl
theorem qd_bi_f {α : Type} {b : Bool} {x y : α} (h : ¬ b = true) : qd_bi b x y = y := by
  cases b with
  | true => exact absurd rfl h
  | false => rfl
theorem qd_biAnd {a b : Bool} : qd_bi a b false = true ↔ a = true ∧ b = true := by
  cases a <;> cases b <;> decide
theorem qd_biNot {a b : Bool} : qd_bi a false b = true ↔ ¬ a = true ∧ b = true := by
  cases a <;> cases b <;> decide
theorem qd_biImp {a b : Bool} : qd_bi a b true = true ↔ (a = true → b = true) := by
  cases a <;> cases b <;> decide
theorem qd_biOr {a b : Bool} : qd_bi a true b = true ↔ (a = true ∨ b = true) := by
  cases a <;> cases b <;> decide
noncomputable def qd_ex (p : Nat → Bool) (n : Nat) : Bool := qd_it (fun i r => qd_bi (p i) true r) false n
noncomputable def qd_al (p : Nat → Bool) (n : Nat) : Bool := qd_it (fun i r => qd_bi (p i) r false) true n
noncomputable def qd_ct (p : Nat → Bool) (n : Nat) : Nat := qd_it (fun i r => qd_bi (p i) (Nat.succ r) r) 0 n
noncomputable def qd_sm (f : Nat → Nat) (n : Nat) : Nat := qd_it (fun i r => Nat.add r (f i)) 0 n
theorem qd_smS (f : Nat → Nat) (n : Nat) : qd_sm f (n + 1) = qd_sm f n + f n := rfl
theorem qd_ctS (p : Nat → Bool) (n : Nat) : qd_ct p (n + 1) = qd_bi (p n) (qd_ct p n + 1) (qd_ct p n) := rfl
theorem qd_ex_iff {p : Nat → Bool} {n : Nat} : qd_ex p n = true ↔ ∃ i, i < n ∧ p i = true := by
  induction n with
  | zero =>
    constructor
    · intro h
      exact absurd (show (false : Bool) = true from h) (by decide)
    · rintro ⟨i, hi, _⟩
      omega
  | succ n ih =>
    have e : qd_ex p (n + 1) = qd_bi (p n) true (qd_ex p n) := rfl
    rw [e]
    by_cases hp : p n = true
    · rw [qd_bi_t hp]
      exact ⟨fun _ => ⟨n, by omega, hp⟩, fun _ => rfl⟩
    · rw [qd_bi_f hp, ih]
      constructor
      · rintro ⟨i, hi, h⟩
        exact ⟨i, by omega, h⟩
      · rintro ⟨i, hi, h⟩
        refine ⟨i, ?_, h⟩
        have : i ≠ n := fun e => hp (e ▸ h)
        omega
theorem qd_al_iff {p : Nat → Bool} {n : Nat} : qd_al p n = true ↔ ∀ i, i < n → p i = true := by
  induction n with
  | zero =>
    constructor
    · intro _ i hi
      omega
    · intro _
      rfl
  | succ n ih =>
    have e : qd_al p (n + 1) = qd_bi (p n) (qd_al p n) false := rfl
    rw [e]
    by_cases hp : p n = true
    · rw [qd_bi_t hp, ih]
      constructor
      · intro h i hi
        by_cases e : i = n
        · rw [e]; exact hp
        · exact h i (by omega)
      · intro h i hi
        exact h i (by omega)
    · rw [qd_bi_f hp]
      constructor
      · intro h
        exact absurd h (by decide)
      · intro h
        exact absurd (h n (by omega)) hp
theorem qd_exC {p q : Nat → Bool} {n : Nat} (h : ∀ i, i < n → p i = q i) : qd_ex p n = qd_ex q n :=
  qd_itC (fun i r hi => by rw [h i hi])
theorem qd_ctC {p q : Nat → Bool} {n : Nat} (h : ∀ i, i < n → p i = q i) : qd_ct p n = qd_ct q n :=
  qd_itC (fun i r hi => by rw [h i hi])
theorem qd_smC {f g : Nat → Nat} {n : Nat} (h : ∀ i, i < n → f i = g i) : qd_sm f n = qd_sm g n :=
  qd_itC (fun i r hi => by rw [h i hi])
/-- the first i below n with p, else n -/
noncomputable def qd_fi (p : Nat → Bool) (n : Nat) : Nat := qd_it (fun i r => qd_bi (Nat.beq r i) (qd_bi (p i) i (Nat.succ i)) r) 0 n
theorem qd_fiS (p : Nat → Bool) (n : Nat) : qd_fi p (n + 1) = qd_bi (Nat.beq (qd_fi p n) n) (qd_bi (p n) n (n + 1)) (qd_fi p n) := rfl
theorem qd_fi_no {p : Nat → Bool} {n : Nat} (h : ∀ i, i < n → ¬ p i = true) : qd_fi p n = n := by
  induction n with
  | zero => rfl
  | succ n ih =>
    rw [qd_fiS, ih (fun i hi => h i (by omega)), qd_bi_t (by rw [Nat.beq_eq]), qd_bi_f (h n (by omega))]
theorem qd_fi_at {p : Nat → Bool} {i : Nat} (h : ∀ j, j < i → ¬ p j = true) (hi : p i = true) : ∀ {n : Nat}, i < n → qd_fi p n = i := by
  intro n
  induction n with
  | zero => intro h; omega
  | succ n ih =>
    intro hn
    rw [qd_fiS]
    by_cases e : i = n
    · subst e
      rw [qd_fi_no h, qd_bi_t (by rw [Nat.beq_eq]), qd_bi_t hi]
    · rw [ih (by omega), qd_bi_f (by rw [Nat.beq_eq]; omega)]
/-- digit i of a code -/
def qd_g (c i : Nat) : Nat := Nat.mod (Nat.div c (Nat.pow 8 i)) 8
theorem qd_g_eq (c i : Nat) : qd_g c i = c / 8 ^ i % 8 := rfl
theorem qd_g8 (c i : Nat) : qd_g c i < 8 := Nat.mod_lt _ (by decide)
/-- the code with digits f -/
noncomputable def qd_pk (n : Nat) (f : Nat → Nat) : Nat := qd_it (fun i r => Nat.add r (Nat.mul (f i) (Nat.pow 8 i))) 0 n
theorem qd_pkS (n : Nat) (f : Nat → Nat) : qd_pk (n + 1) f = qd_pk n f + f n * 8 ^ n := rfl
theorem qd_pkC {n : Nat} {f g : Nat → Nat} (h : ∀ i, i < n → f i = g i) : qd_pk n f = qd_pk n g :=
  qd_itC (fun i r hi => by rw [h i hi])
theorem qd_pk_lt {n : Nat} {f : Nat → Nat} (h : ∀ i, i < n → f i < 8) : qd_pk n f < 8 ^ n := by
  induction n with
  | zero => exact Nat.zero_lt_one
  | succ n ih =>
    have h1 := ih (fun i hi => h i (by omega))
    have h2 : f n * 8 ^ n ≤ 7 * 8 ^ n := Nat.mul_le_mul_right _ (by have := h n (by omega); omega)
    rw [qd_pkS, Nat.pow_succ]
    omega
theorem qd_g_pk {n : Nat} {f : Nat → Nat} (h : ∀ i, i < n → f i < 8) : ∀ i, i < n → qd_g (qd_pk n f) i = f i := by
  induction n with
  | zero => intro i hi; omega
  | succ n ih =>
    intro i hi
    have hl := qd_pk_lt (n := n) (f := f) (fun i hi => h i (by omega))
    rw [qd_pkS, qd_g_eq]
    by_cases e : i = n
    · subst e
      have hp : 0 < 8 ^ i := Nat.pow_pos (by decide)
      rw [Nat.mul_comm, Nat.add_mul_div_left _ _ hp, Nat.div_eq_of_lt hl, Nat.zero_add, Nat.mod_eq_of_lt (h i (by omega))]
    · have hp : 0 < 8 ^ i := Nat.pow_pos (by decide)
      have e8 : 8 ^ n = 8 ^ i * (8 * 8 ^ (n - i - 1)) := by
        rw [← Nat.mul_assoc, ← Nat.pow_succ, ← Nat.pow_add]
        congr 1
        omega
      have e9 : f n * 8 ^ n = 8 ^ i * (8 * (f n * 8 ^ (n - i - 1))) := by
        rw [e8, Nat.mul_left_comm, Nat.mul_left_comm (f n) 8]
      rw [e9, Nat.add_mul_div_left _ _ hp, Nat.add_mul_mod_self_left, ← qd_g_eq]
      exact ih (fun i hi => h i (by omega)) i (by omega)
/-- how many blocks begin before n, in a row whose numbers go up without a gap -/
noncomputable def qd_bf (f : Nat → Nat) (n : Nat) : Nat := qd_it (fun i r => qd_bi (Nat.beq (f i) r) (Nat.succ r) r) 0 n
theorem qd_bfS (f : Nat → Nat) (n : Nat) : qd_bf f (n + 1) = qd_bi (Nat.beq (f n) (qd_bf f n)) (qd_bf f n + 1) (qd_bf f n) := rfl
theorem qd_bfC {f g : Nat → Nat} {n : Nat} (h : ∀ i, i < n → f i = g i) : qd_bf f n = qd_bf g n :=
  qd_itC (fun i r hi => by rw [h i hi])
theorem qd_bf_le {f : Nat → Nat} {n : Nat} : qd_bf f n ≤ n := by
  induction n with
  | zero => exact Nat.le_refl 0
  | succ n ih =>
    rw [qd_bfS]
    by_cases h : Nat.beq (f n) (qd_bf f n) = true
    · rw [qd_bi_t h]; omega
    · rw [qd_bi_f h]; omega
/-- the table of n points: all rows whose numbers go up without a gap, in their order -/
noncomputable def qd_T (n : Nat) : List Nat :=
  qd_it (fun n l => l.flatMap (fun c => (List.range (qd_bf (qd_g c) n + 1)).map (fun d => c + d * 8 ^ n))) [0] n
theorem qd_TS (n : Nat) : qd_T (n + 1) = (qd_T n).flatMap (fun c => (List.range (qd_bf (qd_g c) n + 1)).map (fun d => c + d * 8 ^ n)) := rfl
theorem qd_T_in {f : Nat → Nat} : ∀ {n : Nat}, n ≤ 7 → (∀ i, i < n → f i ≤ qd_bf f i) → qd_pk n f ∈ qd_T n := by
  intro n
  induction n with
  | zero => intro _ _; exact List.mem_singleton.mpr rfl
  | succ n ih =>
    intro hn h
    have h8 : ∀ i, i < n → f i < 8 := fun i hi => by
      have h1 := h i (by omega)
      have h2 := qd_bf_le (f := f) (n := i)
      omega
    rw [qd_TS, List.mem_flatMap]
    refine ⟨qd_pk n f, ih (by omega) (fun i hi => h i (by omega)), ?_⟩
    rw [List.mem_map]
    refine ⟨f n, ?_, rfl⟩
    rw [List.mem_range, qd_bfC (g := f) (fun i hi => qd_g_pk h8 i hi)]
    have h1 := h n (by omega)
    omega
/-- how many partitions of n points there are; the one at place k -/
noncomputable def qd_N (n : Nat) : Nat := (qd_T n).length
noncomputable def qd_t (n k : Nat) : Nat := (qd_T n).getD k 0
theorem qd_t_in {n k : Nat} (h : k < qd_N n) : qd_t n k ∈ qd_T n := by
  have e : qd_t n k = (qd_T n)[k]'h := by
    unfold qd_t
    rw [List.getD_eq_getElem?_getD, List.getElem?_eq_getElem h, Option.getD_some]
  rw [e]
  exact List.getElem_mem h
theorem qd_in_t {n c : Nat} (h : c ∈ qd_T n) : ∃ k, k < qd_N n ∧ qd_t n k = c := by
  obtain ⟨k, hk, e⟩ := List.getElem_of_mem h
  refine ⟨k, hk, ?_⟩
  unfold qd_t
  rw [List.getD_eq_getElem?_getD, List.getElem?_eq_getElem hk, Option.getD_some]
  exact e
/-- all of a list -/
noncomputable def qd_la (p : Nat → Bool) (l : List Nat) : Bool := qd_fo (fun a r => qd_bi (p a) r false) true l
theorem qd_la_iff {p : Nat → Bool} {l : List Nat} : qd_la p l = true ↔ ∀ a, a ∈ l → p a = true := by
  induction l with
  | nil =>
    constructor
    · intro _ a ha
      exact absurd ha (List.not_mem_nil)
    · intro _
      rfl
  | cons a l ih =>
    have e : qd_la p (a :: l) = qd_bi (p a) (qd_la p l) false := rfl
    rw [e]
    by_cases hp : p a = true
    · rw [qd_bi_t hp, ih]
      constructor
      · intro h b hb
        rcases List.mem_cons.mp hb with e | hb
        · rw [e]; exact hp
        · exact h b hb
      · intro h b hb
        exact h b (List.mem_cons_of_mem _ hb)
    · rw [qd_bi_f hp]
      constructor
      · intro h
        exact absurd h (by decide)
      · intro h
        exact absurd (h a List.mem_cons_self) hp
/-- equal lists, read at a place -/
theorem qd_mapAt {f : Nat → Nat} {l m : List Nat} (h : l.map f = m) {k : Nat} (hk : k < l.length) : f (l.getD k 0) = m.getD k 0 := by
  subst h
  rw [List.getD_eq_getElem?_getD, List.getD_eq_getElem?_getD, List.getElem?_map, List.getElem?_eq_getElem hk]
  rfl
/-- the mask of a relation on pairs i < j of n points: pair (i, j) has the bit i n + j - (i + 1)(i + 2) / 2 -/
def qd_bx (n i j : Nat) : Nat := Nat.sub (Nat.add (Nat.mul i n) j) (Nat.div (Nat.mul (Nat.succ i) (Nat.succ (Nat.succ i))) 2)
noncomputable def qd_pj (R : Nat → Nat → Bool) (n i : Nat) (z : Nat) (m : Nat) : Nat :=
  qd_it (fun j r => qd_bi (Nat.blt i j) (qd_bi (R i j) (Nat.lor r (Nat.pow 2 (qd_bx n i j))) r) r) z m
noncomputable def qd_pm (R : Nat → Nat → Bool) (n : Nat) : Nat := qd_it (fun i r => qd_pj R n i r n) 0 n
theorem qd_pmC {R S : Nat → Nat → Bool} {n : Nat} (h : ∀ i j, i < j → j < n → R i j = S i j) : qd_pm R n = qd_pm S n := by
  refine qd_itC (fun i r hi => qd_itC (fun j s hj => ?_))
  by_cases hl : Nat.blt i j = true
  · rw [qd_bi_t hl, qd_bi_t hl, h i j (by rw [Nat.blt_eq] at hl; exact hl) hj]
  · rw [qd_bi_f hl, qd_bi_f hl]
theorem qd_pj_bit {R : Nat → Nat → Bool} {n i z k : Nat} : ∀ {m : Nat}, (qd_pj R n i z m).testBit k = true ↔ z.testBit k = true ∨ ∃ j, j < m ∧ i < j ∧ R i j = true ∧ qd_bx n i j = k := by
  intro m
  induction m with
  | zero =>
    constructor
    · intro h; exact Or.inl h
    · rintro (h | ⟨j, hj, _⟩)
      · exact h
      · omega
  | succ m ih =>
    have e : qd_pj R n i z (m + 1) = qd_bi (Nat.blt i m) (qd_bi (R i m) (qd_pj R n i z m ||| 2 ^ qd_bx n i m) (qd_pj R n i z m)) (qd_pj R n i z m) := rfl
    have keep : ¬ (i < m ∧ R i m = true) → ((z.testBit k = true ∨ ∃ j, j < m ∧ i < j ∧ R i j = true ∧ qd_bx n i j = k) ↔ (z.testBit k = true ∨ ∃ j, j < m + 1 ∧ i < j ∧ R i j = true ∧ qd_bx n i j = k)) := by
      intro hn
      constructor
      · rintro (h | ⟨j, hj, h1, h2, h3⟩)
        · exact Or.inl h
        · exact Or.inr ⟨j, by omega, h1, h2, h3⟩
      · rintro (h | ⟨j, hj, h1, h2, h3⟩)
        · exact Or.inl h
        · refine Or.inr ⟨j, ?_, h1, h2, h3⟩
          have : j ≠ m := fun e => hn (e ▸ ⟨h1, h2⟩)
          omega
    rw [e]
    by_cases hl : Nat.blt i m = true
    · rw [qd_bi_t hl]
      rw [Nat.blt_eq] at hl
      by_cases hr : R i m = true
      · rw [qd_bi_t hr, Nat.testBit_or, Bool.or_eq_true, ih, Nat.testBit_two_pow, decide_eq_true_iff]
        constructor
        · rintro ((h | ⟨j, hj, h1, h2, h3⟩) | h)
          · exact Or.inl h
          · exact Or.inr ⟨j, by omega, h1, h2, h3⟩
          · exact Or.inr ⟨m, by omega, hl, hr, h⟩
        · rintro (h | ⟨j, hj, h1, h2, h3⟩)
          · exact Or.inl (Or.inl h)
          · by_cases ej : j = m
            · subst ej
              exact Or.inr h3
            · exact Or.inl (Or.inr ⟨j, by omega, h1, h2, h3⟩)
      · rw [qd_bi_f hr, ih]
        exact keep (fun h => hr h.2)
    · rw [qd_bi_f hl, ih]
      exact keep (fun h => hl (by rw [Nat.blt_eq]; exact h.1))
theorem qd_pm_bit' {R : Nat → Nat → Bool} {n k : Nat} : ∀ {m : Nat}, (qd_it (fun i r => qd_pj R n i r n) 0 m).testBit k = true ↔ ∃ i j, i < m ∧ j < n ∧ i < j ∧ R i j = true ∧ qd_bx n i j = k := by
  intro m
  induction m with
  | zero =>
    constructor
    · intro h
      rw [qd_it0, Nat.zero_testBit] at h
      exact absurd h (by decide)
    · rintro ⟨i, j, hi, _⟩
      omega
  | succ m ih =>
    rw [qd_itS, qd_pj_bit, ih]
    constructor
    · rintro (⟨i, j, hi, h⟩ | ⟨j, hj, h⟩)
      · exact ⟨i, j, by omega, h⟩
      · exact ⟨m, j, by omega, hj, h⟩
    · rintro ⟨i, j, hi, hj, h⟩
      by_cases e : i = m
      · subst e
        exact Or.inr ⟨j, hj, h⟩
      · exact Or.inl ⟨i, j, by omega, hj, h⟩
theorem qd_bx_ck : qd_al (fun n => qd_al (fun i => qd_al (fun j => qd_al (fun a => qd_al (fun b => qd_bi (Nat.blt i j) (qd_bi (Nat.blt a b) (qd_bi (Nat.beq (qd_bx n i j) (qd_bx n a b)) (qd_bi (Nat.beq i a) (Nat.beq j b) false) true) true) true) n) n) n) n) 8 = true := by
  decide +kernel
theorem qd_bx_inj (n : Nat) (hn : n < 8) (i : Nat) (hi : i < n) (j : Nat) (hj : j < n) (a : Nat) (ha : a < n) (b : Nat) (hb : b < n) (hij : i < j) (hab : a < b) (h : qd_bx n i j = qd_bx n a b) : i = a ∧ j = b := by
  have q := qd_bx_ck
  simp only [qd_al_iff, qd_biImp, qd_biAnd, Nat.blt_eq, Nat.beq_eq] at q
  exact q n hn i hi j hj a ha b hb hij hab h
theorem qd_bx_lt : ∀ n, n < 8 → ∀ i, i < n → ∀ j, j < n → i < j → qd_bx n i j < 21 := by
  decide +kernel
theorem qd_pm_bit {R : Nat → Nat → Bool} {n i j : Nat} (hn : n < 8) (hi : i < j) (hj : j < n) : (qd_pm R n).testBit (qd_bx n i j) = R i j := by
  have h : (qd_pm R n).testBit (qd_bx n i j) = true ↔ R i j = true := by
    unfold qd_pm
    rw [qd_pm_bit']
    constructor
    · rintro ⟨a, b, ha, hb, hab, hR, e⟩
      obtain ⟨rfl, rfl⟩ := qd_bx_inj n hn a ha b hb i (by omega) j hj hab hi e
      exact hR
    · intro h
      exact ⟨i, j, by omega, hj, hi, h, rfl⟩
  cases hR : R i j with
  | true => exact h.mpr hR
  | false =>
    cases hp : (qd_pm R n).testBit (qd_bx n i j) with
    | true => exact absurd (h.mp hp) (by rw [hR]; decide)
    | false => rfl
theorem qd_pm_lt {R : Nat → Nat → Bool} {n : Nat} (hn : n < 8) : qd_pm R n < 2 ^ 21 := by
  refine Nat.lt_pow_two_of_testBit _ (fun k hk => ?_)
  cases hp : (qd_pm R n).testBit k with
  | false => rfl
  | true =>
    exfalso
    unfold qd_pm at hp
    rw [qd_pm_bit'] at hp
    obtain ⟨a, b, ha, hb, hab, _, e⟩ := hp
    have := qd_bx_lt n hn a ha b hb hab
    omega
theorem qd_pm_le {R S : Nat → Nat → Bool} {n : Nat} (hn : n < 8) : qd_pm R n &&& qd_pm S n = qd_pm R n ↔ ∀ i j, i < j → j < n → R i j = true → S i j = true := by
  constructor
  · intro h i j hi hj hR
    have := congrArg (fun x => x.testBit (qd_bx n i j)) h
    simp only [Nat.testBit_and, qd_pm_bit hn hi hj, hR, Bool.true_and] at this
    exact this
  · intro h
    refine Nat.eq_of_testBit_eq (fun k => ?_)
    rw [Nat.testBit_and]
    cases hp : (qd_pm R n).testBit k with
    | false => rfl
    | true =>
      rw [Bool.true_and]
      unfold qd_pm at hp ⊢
      rw [qd_pm_bit'] at hp ⊢
      obtain ⟨a, b, ha, hb, hab, hR, e⟩ := hp
      exact ⟨a, b, ha, hb, hab, h a b hab hb hR, e⟩
theorem qd_pm_0 {R S : Nat → Nat → Bool} {n : Nat} (hn : n < 8) : qd_pm R n &&& qd_pm S n = 0 ↔ ∀ i j, i < j → j < n → R i j = true → ¬ S i j = true := by
  constructor
  · intro h i j hi hj hR hS
    have := congrArg (fun x => x.testBit (qd_bx n i j)) h
    simp only [Nat.testBit_and, qd_pm_bit hn hi hj, hR, hS, Nat.zero_testBit] at this
    exact absurd this (by decide)
  · intro h
    refine Nat.eq_of_testBit_eq (fun k => ?_)
    rw [Nat.testBit_and, Nat.zero_testBit]
    cases hp : (qd_pm R n).testBit k with
    | false => rfl
    | true =>
      cases hq : (qd_pm S n).testBit k with
      | false => rfl
      | true =>
        exfalso
        unfold qd_pm at hp hq
        rw [qd_pm_bit'] at hp hq
        obtain ⟨a, b, ha, hb, hab, hR, e⟩ := hp
        obtain ⟨a', b', ha', hb', hab', hS, e'⟩ := hq
        obtain ⟨rfl, rfl⟩ := qd_bx_inj n hn a ha b hb a' ha' b' hb' hab hab' (e.trans e'.symm)
        exact h a b hab hb hR hS
end
section
/-! 02: what the two sides reckon, as pure functions of codes (no printed name in it) -/
/-- points i and j of a code are alike -/
def qd_rl (c i j : Nat) : Bool := Nat.beq (qd_g c i) (qd_g c j)
/-- the mask, the number of blocks -/
noncomputable def qd_m (n c : Nat) : Nat := qd_pm (qd_rl c) n
noncomputable def qd_b (n c : Nat) : Nat := qd_bf (qd_g c) n
/-- the greatest digit before i, upward and downward -/
noncomputable def qd_mx (c i : Nat) : Nat := qd_it (fun j r => qd_bi (Nat.blt r (qd_g c j)) (qd_g c j) r) 0 i
noncomputable def qd_md (n c k : Nat) : Nat := qd_it (fun k r => qd_bi (Nat.blt r (qd_g c (Nat.sub (Nat.sub n 1) k))) (qd_g c (Nat.sub (Nat.sub n 1) k)) r) 0 k
noncomputable def qd_cd (n c k : Nat) : Nat := qd_it (fun k r => Nat.add (Nat.mul 8 r) (qd_g c (Nat.sub (Nat.sub n 1) k))) 0 k
/-- the next row: the last place that may go up (0: none) -/
noncomputable def qd_np (c i : Nat) : Nat := qd_it (fun i r => qd_bi (Nat.ble (qd_g c (Nat.succ i)) (qd_mx c (Nat.succ i))) (Nat.succ i) r) 0 i
noncomputable def qd_nc (n c i : Nat) : Nat := qd_pk n (fun j => qd_bi (Nat.blt j i) (qd_g c j) (qd_bi (Nat.beq j i) (Nat.succ (qd_g c j)) 0))
noncomputable def qd_nx (n c : Nat) : Nat := qd_bi (Nat.beq (qd_np c (Nat.sub n 1)) 0) (Nat.pow 8 n) (qd_nc n c (qd_np c (Nat.sub n 1)))
/-- a crossing of a relation on m points -/
noncomputable def qd_cr (R : Nat → Nat → Bool) (m : Nat) : Bool :=
  qd_ex (fun i => qd_ex (fun j => qd_bi (Nat.blt i j) (qd_bi (R i j) false (qd_ex (fun k => qd_bi (Nat.blt j k) (qd_bi (R i k) (qd_ex (fun l => qd_bi (Nat.blt k l) (R j l) false) m) false) false) m)) false) m) m
noncomputable def qd_x (n c : Nat) : Bool := qd_cr (qd_rl c) n
theorem qd_cr_iff {R : Nat → Nat → Bool} {m : Nat} : qd_cr R m = true ↔ ∃ i j k l, i < j ∧ j < k ∧ k < l ∧ l < m ∧ ¬ R i j = true ∧ R i k = true ∧ R j l = true := by
  unfold qd_cr
  simp only [qd_ex_iff, qd_biAnd, qd_biNot, Nat.blt_eq]
  constructor
  · rintro ⟨i, hi, j, hj, hij, hR, k, hk, hjk, hik, l, hl, hkl, hjl⟩
    exact ⟨i, j, k, l, hij, hjk, hkl, hl, hR, hik, hjl⟩
  · rintro ⟨i, j, k, l, hij, hjk, hkl, hl, hR, hik, hjl⟩
    exact ⟨i, by omega, j, by omega, hij, hR, k, by omega, hjk, hik, l, hl, hkl, hjl⟩
/-- in how many ways r points can follow u blocks -/
noncomputable def qd_eg (r : Nat) : Nat → Nat := qd_it (fun _ (f : Nat → Nat) u => Nat.add (Nat.mul u (f u)) (f (Nat.succ u))) (fun _ => 1) r
theorem qd_eg0 (u : Nat) : qd_eg 0 u = 1 := rfl
theorem qd_egS (r u : Nat) : qd_eg (r + 1) u = u * qd_eg r u + qd_eg r (u + 1) := rfl
noncomputable def qd_rk (n c : Nat) : Nat := qd_sm (fun i => Nat.mul (qd_g c i) (qd_eg (Nat.sub (Nat.sub n 1) i) (qd_bf (qd_g c) i))) n
/-- partition k: inner state (left, block); outer (sum, used, left) -/
noncomputable def qd_pi (each u : Nat) (s : Nat × Nat) : Nat × Nat := qd_it (fun _ s => qd_bi (Nat.ble each s.1) (Nat.sub s.1 each, Nat.succ s.2) s) s u
noncomputable def qd_po (n k i : Nat) : Nat × Nat × Nat :=
  qd_it (fun i s => (Nat.add s.1 (Nat.mul (qd_pi (qd_eg (Nat.sub (Nat.sub n 1) i) s.2.1) s.2.1 (s.2.2, 0)).2 (Nat.pow 8 i)),
    qd_bi (Nat.beq (qd_pi (qd_eg (Nat.sub (Nat.sub n 1) i) s.2.1) s.2.1 (s.2.2, 0)).2 s.2.1) (Nat.succ s.2.1) s.2.1,
    (qd_pi (qd_eg (Nat.sub (Nat.sub n 1) i) s.2.1) s.2.1 (s.2.2, 0)).1)) (0, 0, k) i
/-- the code of a mask -/
noncomputable def qd_rc (n m : Nat) : Nat :=
  qd_it (fun i r => Nat.add r (Nat.mul (qd_bi (Nat.beq (qd_fi (fun j => Nat.beq (Nat.mod (Nat.div m (Nat.pow 2 (qd_bx n j i))) 2) 1) i) i) (qd_bf (qd_g r) i) (qd_g r (qd_fi (fun j => Nat.beq (Nat.mod (Nat.div m (Nat.pow 2 (qd_bx n j i))) 2) 1) i))) (Nat.pow 8 i))) 0 n
noncomputable def qd_no (b : Bool) : Bool := qd_bi b false true
theorem qd_no_iff {b : Bool} : qd_no b = true ↔ ¬ b = true := by
  cases b <;> decide
/-- merging labels, the class's uncross -/
noncomputable def qd_mg (n c i j : Nat) : Nat := qd_pk n (fun p => qd_bi (Nat.beq (qd_g c p) (qd_g c j)) (qd_g c i) (qd_g c p))
noncomputable def qd_lc (n c i j : Nat) : Bool :=
  qd_bi (qd_rl c i j) false (qd_ex (fun k => qd_bi (Nat.blt j k) (qd_bi (qd_rl c k i) (qd_ex (fun l => qd_bi (Nat.blt k l) (qd_rl c l j) false) n) false) false) n)
noncomputable def qd_ui (n i : Nat) (c m : Nat) : Nat := qd_it (fun j r => qd_bi (Nat.blt i j) (qd_bi (qd_lc n r i j) (qd_mg n r i j) r) r) c m
noncomputable def qd_un (n c m : Nat) : Nat := qd_it (fun i r => qd_ui n i r n) c m
/-- the class's complement -/
noncomputable def qd_cl (n c a b : Nat) : Bool :=
  qd_al (fun x => qd_bi (Nat.ble a x) (qd_al (fun p => qd_bi (qd_bi (Nat.blt p a) true (Nat.blt b p)) (qd_no (qd_rl c x p)) true) n) true) (Nat.succ b)
noncomputable def qd_kp (n c j : Nat) : Nat := qd_fi (fun i => qd_cl n c (Nat.succ i) j) j
noncomputable def qd_kq (n c : Nat) : Nat := qd_pk n (qd_kp n c)
/-- pair (i, j) lies across a pair of c in the row of 2 n points -/
noncomputable def qd_cf (n c i j : Nat) : Bool :=
  qd_ex (fun a => qd_ex (fun b => qd_bi (Nat.blt a b) (qd_bi (qd_rl c a b)
    (qd_bi (qd_bi (Nat.ble a i) (qd_bi (Nat.blt i b) (Nat.ble b j) false) false) true (qd_bi (Nat.blt i a) (qd_bi (Nat.ble a j) (Nat.blt j b) false) false)) false) false) n) n
noncomputable def qd_cm (n c : Nat) : Nat := qd_pm (qd_cf n c) n
/-- catalan, points in a block, the class's uncrossed -/
noncomputable def qd_ca (k : Nat) : Nat := qd_it (fun s w => Nat.div (Nat.mul (Nat.mul w 2) (Nat.succ (Nat.mul 2 s))) (Nat.add s 2)) 1 k
noncomputable def qd_pb (n c b : Nat) : Nat := qd_ct (fun i => Nat.beq (qd_g c i) b) n
noncomputable def qd_uc (n c m : Nat) : Nat := qd_it (fun b r => Nat.mul r (qd_ca (qd_pb n c b))) 1 m
/-- the parts of q's blocks: q's digits at the least points of p's blocks -/
noncomputable def qd_pt (n p q b : Nat) : Nat := qd_ct (fun i => qd_bi (Nat.beq (qd_g p i) (qd_bf (qd_g p) i)) (Nat.beq (qd_g q i) b) false) n
noncomputable def qd_lp (n p : Nat) : List Nat := qd_it (fun i l => qd_bi (Nat.beq (qd_g p i) (qd_bf (qd_g p) i)) (i :: l) l) [] n
noncomputable def qd_lq (l : List Nat) (q b : Nat) : Nat := qd_fo (fun i r => qd_bi (Nat.beq (qd_g q i) b) (Nat.succ r) r) 0 l
theorem qd_lq_pt (p q b : Nat) : ∀ n, qd_lq (qd_lp n p) q b = qd_pt n p q b := by
  intro n
  induction n with
  | zero => rfl
  | succ n ih =>
    have e1 : qd_lp (n + 1) p = qd_bi (Nat.beq (qd_g p n) (qd_bf (qd_g p) n)) (n :: qd_lp n p) (qd_lp n p) := rfl
    have e2 : qd_pt (n + 1) p q b = qd_bi (qd_bi (Nat.beq (qd_g p n) (qd_bf (qd_g p) n)) (Nat.beq (qd_g q n) b) false) (qd_pt n p q b + 1) (qd_pt n p q b) := rfl
    rw [e1, e2]
    by_cases h : Nat.beq (qd_g p n) (qd_bf (qd_g p) n) = true
    · rw [qd_bi_t h, qd_bi_t h]
      have e3 : qd_lq (n :: qd_lp n p) q b = qd_bi (Nat.beq (qd_g q n) b) (qd_lq (qd_lp n p) q b + 1) (qd_lq (qd_lp n p) q b) := rfl
      rw [e3, ih]
    · rw [qd_bi_f h, qd_bi_f h]
      exact ih
/-- the class's interval, sign (modulo 2^32, -1 as 2^32 - 1) and fullChains, from the parts f -/
noncomputable def qd_iv (f : Nat → Nat) (m : Nat) : Nat := qd_it (fun b r => Nat.mul r (qd_eg (f b) 0)) 1 m
noncomputable def qd_si (z m : Nat) : Nat := qd_it (fun s r => Nat.mul r (Nat.mul 4294967295 (Nat.succ s))) z m
noncomputable def qd_sg (f : Nat → Nat) (m : Nat) : Nat := qd_it (fun b r => qd_si r (Nat.sub (f b) 1)) 1 m
noncomputable def qd_st (f : Nat → Nat) (m : Nat) : Nat := qd_it (fun b r => Nat.add r (Nat.sub (f b) 1)) 0 m
noncomputable def qd_hi (t z m : Nat) : Nat := qd_it (fun s r => Nat.mul (Nat.div (Nat.mul r (Nat.succ (Nat.add t s))) (Nat.succ s)) (Nat.div (Nat.mul (Nat.succ (Nat.succ s)) (Nat.succ s)) 2)) z m
noncomputable def qd_ch (f : Nat → Nat) (m : Nat) : Nat := qd_it (fun b r => qd_hi (qd_st f b) r (Nat.sub (f b) 1)) 1 m
/-- no step of fullChains leaves the ints -/
noncomputable def qd_cb (f : Nat → Nat) (n : Nat) : Bool := qd_al (fun b => qd_al (fun s => Nat.blt (Nat.mul (qd_hi (qd_st f b) (qd_ch f b) s) (Nat.succ (Nat.add (qd_st f b) s))) 2147483648) (Nat.sub (f b) 1)) n
theorem qd_ivC {f g : Nat → Nat} {m : Nat} (h : ∀ b, f b = g b) : qd_iv f m = qd_iv g m := by
  rw [show f = g from funext h]
/-- an entry: mask + 2^21 blocks + 2^24 crossed + 2^25 code -/
noncomputable def qd_en (n c : Nat) : Nat := Nat.add (Nat.add (Nat.add (qd_m n c) (Nat.mul 2097152 (qd_b n c))) (Nat.mul 16777216 (qd_bi (qd_x n c) 1 0))) (Nat.mul 33554432 c)
def qd_eM (a : Nat) : Nat := Nat.mod a 2097152
def qd_eB (a : Nat) : Nat := Nat.mod (Nat.div a 2097152) 8
def qd_eX (a : Nat) : Nat := Nat.mod (Nat.div a 16777216) 2
def qd_eC (a : Nat) : Nat := Nat.div a 33554432
theorem qd_en_all {n c : Nat} (hn : n < 8) : qd_eM (qd_en n c) = qd_m n c ∧ qd_eB (qd_en n c) = qd_b n c ∧ qd_eX (qd_en n c) = qd_bi (qd_x n c) 1 0 ∧ qd_eC (qd_en n c) = c := by
  have h1 : qd_m n c < 2097152 := qd_pm_lt hn
  have h2 : qd_b n c < 8 := Nat.lt_of_le_of_lt qd_bf_le hn
  have h3 : (qd_bi (qd_x n c) 1 0 : Nat) < 2 := by
    cases qd_x n c <;> decide
  have e : qd_en n c = qd_m n c + 2097152 * qd_b n c + 16777216 * qd_bi (qd_x n c) 1 0 + 33554432 * c := rfl
  have f1 : ∀ a, qd_eM a = a % 2097152 := fun _ => rfl
  have f2 : ∀ a, qd_eB a = a / 2097152 % 8 := fun _ => rfl
  have f3 : ∀ a, qd_eX a = a / 16777216 % 2 := fun _ => rfl
  have f4 : ∀ a, qd_eC a = a / 33554432 := fun _ => rfl
  rw [f1, f2, f3, f4, e]
  generalize qd_m n c = m at *
  generalize qd_b n c = b at *
  generalize (qd_bi (qd_x n c) 1 0 : Nat) = x at *
  omega
/-- forcing -/
noncomputable def qd_fr {α : Type} (x : Nat) (k : Nat → α) : α := Nat.rec (motive := fun _ => α) (k 0) (fun m _ => k (Nat.succ m)) x
theorem qd_fr_eq {α : Type} (x : Nat) (k : Nat → α) : qd_fr x k = k x := by
  cases x <;> rfl
noncomputable def qd_mf {α : Type} (f : Nat → Nat) (p : Nat → Bool) (l : List Nat) : (List Nat → α) → α :=
  List.rec (motive := fun _ => (List Nat → α) → α) (fun k => k []) (fun a _ ih k => qd_bi (p a) (qd_fr (f a) (fun v => ih (fun t => k (v :: t)))) (ih k)) l
theorem qd_mf_eq {α : Type} (f : Nat → Nat) (p : Nat → Bool) : ∀ (l : List Nat) (k : List Nat → α), qd_mf f p l k = k ((l.filter p).map f) := by
  intro l
  induction l with
  | nil => intro k; rfl
  | cons a l ih =>
    intro k
    have e : qd_mf f p (a :: l) k = qd_bi (p a) (qd_fr (f a) (fun v => qd_mf f p l (fun t => k (v :: t)))) (qd_mf f p l k) := rfl
    rw [e]
    by_cases h : p a = true
    · rw [qd_bi_t h, qd_fr_eq, ih, List.filter_cons_of_pos h, List.map_cons]
    · rw [qd_bi_f h, ih, List.filter_cons_of_neg h]
/-- some of a list -/
noncomputable def qd_lx (p : Nat → Bool) (l : List Nat) : Bool := qd_fo (fun a r => qd_bi (p a) true r) false l
theorem qd_lx_to {p : Nat → Bool} {l : List Nat} (h : qd_lx p l = true) : ∃ a, a ∈ l ∧ p a = true := by
  induction l with
  | nil => exact absurd (show (false : Bool) = true from h) (by decide)
  | cons a l ih =>
    have e : qd_lx p (a :: l) = qd_bi (p a) true (qd_lx p l) := rfl
    rw [e, qd_biOr] at h
    rcases h with h | h
    · exact ⟨a, List.mem_cons_self, h⟩
    · obtain ⟨b, hb, hp⟩ := ih h
      exact ⟨b, List.mem_cons_of_mem _ hb, hp⟩
theorem qd_crC {R S : Nat → Nat → Bool} {m : Nat} (h : ∀ i j, i < m → j < m → R i j = S i j) : qd_cr R m = qd_cr S m := by
  rw [Bool.eq_iff_iff, qd_cr_iff, qd_cr_iff]
  constructor
  · rintro ⟨i, j, k, l, h1, h2, h3, h4, h5, h6, h7⟩
    exact ⟨i, j, k, l, h1, h2, h3, h4, by rw [← h i j (by omega) (by omega)]; exact h5, by rw [← h i k (by omega) (by omega)]; exact h6, by rw [← h j l (by omega) (by omega)]; exact h7⟩
  · rintro ⟨i, j, k, l, h1, h2, h3, h4, h5, h6, h7⟩
    exact ⟨i, j, k, l, h1, h2, h3, h4, by rw [h i j (by omega) (by omega)]; exact h5, by rw [h i k (by omega) (by omega)]; exact h6, by rw [h j l (by omega) (by omega)]; exact h7⟩
end
section
/-! 03: the checks that the kernel reckons, and what each says -/
/-- uncross -/
noncomputable def qk_u1 (n : Nat) (l : List Nat) (e : Nat) : Bool :=
  qd_fr (qd_eM e) fun me => qd_fr (qd_m n (qd_un n (qd_eC e) n)) fun m =>
    qd_lx (fun a => qd_bi (Nat.beq (qd_eM a) m) (qd_bi (Nat.beq (qd_eX a) 0) (qd_bi (Nat.beq (Nat.land me (qd_eM a)) me)
      (qd_fr (qd_eB a) fun q => qd_la (fun b => qd_bi (Nat.beq (qd_eX b) 0) (qd_bi (Nat.beq (Nat.land me (qd_eM b)) me) (qd_bi (Nat.beq (qd_eM b) m) true (Nat.blt (qd_eB b) q)) true) true) l) false) false) false) l
theorem qk_u1_to {n : Nat} {l : List Nat} {e : Nat} (h : qk_u1 n l e = true) :
    ∃ a, a ∈ l ∧ qd_eM a = qd_m n (qd_un n (qd_eC e) n) ∧ qd_eX a = 0 ∧ qd_eM e &&& qd_eM a = qd_eM e ∧
      ∀ b, b ∈ l → qd_eX b = 0 → qd_eM e &&& qd_eM b = qd_eM e → qd_eM b = qd_eM a ∨ qd_eB b < qd_eB a := by
  unfold qk_u1 at h
  rw [qd_fr_eq, qd_fr_eq] at h
  obtain ⟨a, ha, h⟩ := qd_lx_to h
  simp only [qd_biAnd, qd_fr_eq, Nat.beq_eq, qd_la_iff, qd_biImp, qd_biOr, Nat.blt_eq] at h
  obtain ⟨h1, h2, h3, h4⟩ := h
  exact ⟨a, ha, h1, h2, h3, fun b hb hx hf => by rw [h1]; exact h4 b hb hx hf⟩
/-- complement -/
noncomputable def qk_k1 (n : Nat) (l : List Nat) (e : Nat) : Bool :=
  qd_bi (Nat.beq (qd_eX e) 0) (qd_fr (qd_cm n (qd_eC e)) fun cm => qd_fr (qd_m n (qd_kq n (qd_eC e))) fun m =>
    qd_lx (fun a => qd_bi (Nat.beq (qd_eM a) m) (qd_bi (Nat.beq (qd_eX a) 0) (qd_bi (Nat.beq (Nat.land (qd_eM a) cm) 0)
      (qd_fr (qd_eB a) fun q => qd_la (fun b => qd_bi (Nat.beq (qd_eX b) 0) (qd_bi (Nat.beq (Nat.land (qd_eM b) cm) 0) (qd_bi (Nat.beq (qd_eM b) m) true (Nat.blt q (qd_eB b))) true) true) l) false) false) false) l) true
theorem qk_k1_to {n : Nat} {l : List Nat} {e : Nat} (h : qk_k1 n l e = true) (hx : qd_eX e = 0) :
    ∃ a, a ∈ l ∧ qd_eM a = qd_m n (qd_kq n (qd_eC e)) ∧ qd_eX a = 0 ∧ qd_eM a &&& qd_cm n (qd_eC e) = 0 ∧
      ∀ b, b ∈ l → qd_eX b = 0 → qd_eM b &&& qd_cm n (qd_eC e) = 0 → qd_eM b = qd_eM a ∨ qd_eB a < qd_eB b := by
  unfold qk_k1 at h
  rw [qd_bi_t (by rw [Nat.beq_eq]; exact hx), qd_fr_eq, qd_fr_eq] at h
  obtain ⟨a, ha, h⟩ := qd_lx_to h
  simp only [qd_biAnd, qd_fr_eq, Nat.beq_eq, qd_la_iff, qd_biImp, qd_biOr, Nat.blt_eq] at h
  obtain ⟨h1, h2, h3, h4⟩ := h
  exact ⟨a, ha, h1, h2, h3, fun b hb hx hf => by rw [h1]; exact h4 b hb hx hf⟩
/-- conditional sums over a list, and by places -/
noncomputable def qd_cs (q : Nat → Bool) (v : Nat → Nat) (l : List Nat) : Nat := qd_fo (fun a s => qd_bi (q a) (Nat.add (v a) s) s) 0 l
theorem qd_csC (q : Nat → Bool) (v : Nat → Nat) (a : Nat) (l : List Nat) : qd_cs q v (a :: l) = qd_bi (q a) (v a + qd_cs q v l) (qd_cs q v l) := rfl
theorem qd_sm_sh (h : Nat → Nat) : ∀ n, qd_sm h (n + 1) = h 0 + qd_sm (fun k => h (k + 1)) n := by
  intro n
  induction n with
  | zero => rw [qd_smS]; exact Nat.add_comm _ _
  | succ n ih => rw [qd_smS, ih, qd_smS, Nat.add_assoc]
theorem qd_cs_sm (q : Nat → Bool) (v f : Nat → Nat) : ∀ l : List Nat, qd_cs q v (l.map f) = qd_sm (fun k => qd_bi (q (f (l.getD k 0))) (v (f (l.getD k 0))) 0) l.length := by
  intro l
  induction l with
  | nil => rfl
  | cons a l ih =>
    rw [List.map_cons, qd_csC, List.length_cons, qd_sm_sh, ih]
    have e1 : (a :: l).getD 0 0 = a := rfl
    have e2 : ∀ k, (a :: l).getD (k + 1) 0 = l.getD k 0 := fun _ => rfl
    simp only [e1, e2]
    by_cases h : q (f a) = true
    · rw [qd_bi_t h, qd_bi_t h]
    · rw [qd_bi_f h, qd_bi_f h, Nat.zero_add]
theorem qd_cs_fm (q p : Nat → Bool) (v w f : Nat → Nat) (hv : ∀ a, p a = true → v (f a) = w a) : ∀ l : List Nat, qd_cs q v ((l.filter p).map f) = qd_cs (fun a => qd_bi (p a) (q (f a)) false) w l := by
  intro l
  induction l with
  | nil => rfl
  | cons a l ih =>
    rw [qd_csC]
    by_cases h : p a = true
    · rw [List.filter_cons_of_pos h, List.map_cons, qd_csC, ih, qd_bi_t (b := p a) h, hv a h]
    · rw [List.filter_cons_of_neg h, ih, qd_bi_f (b := p a) h]
      rfl
theorem qd_cs_cg {q q' : Nat → Bool} {v v' : Nat → Nat} : ∀ {l : List Nat}, (∀ a, a ∈ l → q a = q' a ∧ (q a = true → v a = v' a)) → qd_cs q v l = qd_cs q' v' l := by
  intro l
  induction l with
  | nil => intro _; rfl
  | cons a l ih =>
    intro h
    have h1 := h a List.mem_cons_self
    have h2 := ih (fun b hb => h b (List.mem_cons_of_mem _ hb))
    rw [qd_csC, qd_csC, h2, ← h1.1]
    by_cases hq : q a = true
    · rw [qd_bi_t hq, qd_bi_t hq, h1.2 hq]
    · rw [qd_bi_f hq, qd_bi_f hq]
/-- uncrossed -/
noncomputable def qk_c1 (n : Nat) (l : List Nat) (e : Nat) : Bool :=
  qd_bi (Nat.beq (qd_eX e) 0) (qd_fr (qd_eM e) fun me =>
    Nat.beq (qd_cs (fun b => qd_bi (Nat.beq (qd_eX b) 0) (Nat.beq (Nat.land (qd_eM b) me) (qd_eM b)) false) (fun _ => 1) l) (qd_uc n (qd_eC e) n)) true
theorem qk_c1_to {n : Nat} {l : List Nat} {e : Nat} (h : qk_c1 n l e = true) (hx : qd_eX e = 0) :
    qd_cs (fun b => qd_bi (Nat.beq (qd_eX b) 0) (Nat.beq (Nat.land (qd_eM b) (qd_eM e)) (qd_eM b)) false) (fun _ => 1) l = qd_uc n (qd_eC e) n := by
  unfold qk_c1 at h
  rw [qd_bi_t (by rw [Nat.beq_eq]; exact hx), qd_fr_eq, Nat.beq_eq] at h
  exact h
/-- below r by r's complement -/
theorem qd_nr {x y : Nat} (hx : x < 2097152) (hy : y < 2097152) : x &&& (2097151 - y) = 0 ↔ x &&& y = x := by
  have e : 2097151 - y = 2 ^ 21 - (y + 1) := by omega
  have hb : ∀ i, (2097151 - y).testBit i = (decide (i < 21) && !y.testBit i) := by
    intro i
    rw [e]
    exact Nat.testBit_two_pow_sub_succ (n := 21) hy i
  constructor
  · intro h
    refine Nat.eq_of_testBit_eq (fun i => ?_)
    have hi := congrArg (fun z => z.testBit i) h
    simp only [Nat.testBit_and, hb, Nat.zero_testBit] at hi
    rw [Nat.testBit_and]
    by_cases h21 : i < 21
    · cases hxi : x.testBit i with
      | false => rfl
      | true =>
        rw [hxi] at hi
        simp only [h21, decide_true, Bool.true_and] at hi
        cases hyi : y.testBit i with
        | false => rw [hyi] at hi; exact absurd hi (by decide)
        | true => rfl
    · have : x.testBit i = false := Nat.testBit_lt_two_pow (Nat.lt_of_lt_of_le hx (Nat.pow_le_pow_right (n := 2) (by decide) (show 21 ≤ i by omega)))
      rw [this]; rfl
  · intro h
    refine Nat.eq_of_testBit_eq (fun i => ?_)
    have hi := congrArg (fun z => z.testBit i) h
    simp only [Nat.testBit_and] at hi
    rw [Nat.testBit_and, hb, Nat.zero_testBit]
    cases hxi : x.testBit i with
    | false => rfl
    | true =>
      rw [hxi] at hi
      rw [Bool.true_and] at hi
      rw [hi]
      cases decide (i < 21) <;> rfl
theorem qd_eM_lt (a : Nat) : qd_eM a < 2097152 := Nat.mod_lt _ (by decide)
theorem qd_filter_all (l : List Nat) : (l.filter (fun _ => true)).map (fun i => i) = l := by
  have h : l.filter (fun _ => true) = l := List.filter_eq_self.mpr (fun _ _ => rfl)
  rw [h, List.map_id']
/-- interval -/
noncomputable def qk_i1 (n : Nat) (l : List Nat) (e : Nat) : Bool :=
  qd_fr (qd_eM e) fun me => qd_mf (fun i => i) (fun _ => true) (qd_lp n (qd_eC e)) fun L =>
    qd_mf (fun a => a) (fun a => Nat.beq (Nat.land me (qd_eM a)) me) l fun W =>
      qd_la (fun r => qd_fr (Nat.sub 2097151 (qd_eM r)) fun nr =>
        Nat.beq (qd_cs (fun a => Nat.beq (Nat.land (qd_eM a) nr) 0) (fun _ => 1) W) (qd_iv (qd_lq L (qd_eC r)) n)) W
theorem qk_i1_to {n : Nat} {l : List Nat} {e : Nat} (h : qk_i1 n l e = true) (r : Nat) (hr : r ∈ l) (hf : qd_eM e &&& qd_eM r = qd_eM e) :
    qd_cs (fun a => qd_bi (Nat.beq (Nat.land (qd_eM e) (qd_eM a)) (qd_eM e)) (Nat.beq (Nat.land (qd_eM a) (qd_eM r)) (qd_eM a)) false) (fun _ => 1) l = qd_iv (qd_pt n (qd_eC e) (qd_eC r)) n := by
  unfold qk_i1 at h
  rw [qd_fr_eq, qd_mf_eq, qd_mf_eq, qd_filter_all, qd_la_iff] at h
  have h1 := h r (List.mem_map.mpr ⟨r, List.mem_filter.mpr ⟨hr, by rw [Nat.beq_eq]; exact hf⟩, rfl⟩)
  rw [qd_fr_eq, Nat.beq_eq, qd_cs_fm _ _ (fun _ => 1) (fun _ => 1) (fun a => a) (fun _ _ => rfl)] at h1
  rw [show qd_pt n (qd_eC e) (qd_eC r) = qd_lq (qd_lp n (qd_eC e)) (qd_eC r) from funext (fun b => (qd_lq_pt _ _ b n).symm)]
  refine Eq.trans (qd_cs_cg (fun a _ => ⟨?_, fun _ => rfl⟩)) h1
  refine congrArg (fun z => qd_bi (Nat.beq (Nat.land (qd_eM e) (qd_eM a)) (qd_eM e)) z false) ?_
  show Nat.beq (Nat.land (qd_eM a) (qd_eM r)) (qd_eM a) = Nat.beq (Nat.land (qd_eM a) (Nat.sub 2097151 (qd_eM r))) 0
  rw [Bool.eq_iff_iff, Nat.beq_eq, Nat.beq_eq]
  exact (qd_nr (qd_eM_lt a) (qd_eM_lt r)).symm
/-- sign and full chains -/
noncomputable def qk_h1 (V : (Nat → Nat) → Nat) (cmp : Nat → Nat → Bool) (fin : Nat → Nat → Bool) (n : Nat) (l : List Nat) (e : Nat) : Bool :=
  qd_fr (qd_eM e) fun me => qd_fr (qd_eB e) fun be => qd_mf (fun i => i) (fun _ => true) (qd_lp n (qd_eC e)) fun L =>
    qd_mf (fun a => Nat.add (Nat.mod a 16777216) (Nat.mul 16777216 (V (qd_lq L (qd_eC a))))) (fun a => Nat.beq (Nat.land me (qd_eM a)) me) l fun W =>
      qd_la (fun r => qd_fr (Nat.sub 2097151 (qd_eM r)) fun nr => qd_fr (qd_eB r) fun br =>
        qd_bi (Nat.ble br be) (qd_bi (Nat.beq (qd_eM r) me) (Nat.beq (Nat.div r 16777216) 1)
          (fin (qd_cs (fun a => qd_bi (Nat.beq (Nat.land (qd_eM a) nr) 0) (cmp (qd_eB a) br) false) (fun a => Nat.div a 16777216) W) (Nat.div r 16777216))) false) W
theorem qk_pack (a v : Nat) : qd_eM (Nat.add (Nat.mod a 16777216) (Nat.mul 16777216 v)) = qd_eM a ∧ qd_eB (Nat.add (Nat.mod a 16777216) (Nat.mul 16777216 v)) = qd_eB a ∧ Nat.div (Nat.add (Nat.mod a 16777216) (Nat.mul 16777216 v)) 16777216 = v := by
  have e : Nat.add (Nat.mod a 16777216) (Nat.mul 16777216 v) = a % 16777216 + 16777216 * v := rfl
  have f1 : ∀ a, qd_eM a = a % 2097152 := fun _ => rfl
  have f2 : ∀ a, qd_eB a = a / 2097152 % 8 := fun _ => rfl
  have f3 : ∀ a, Nat.div a 16777216 = a / 16777216 := fun _ => rfl
  rw [e, f1, f1, f2, f2, f3]
  omega
theorem qk_h1_to {V : (Nat → Nat) → Nat} {cmp : Nat → Nat → Bool} {fin : Nat → Nat → Bool} {n : Nat} {l : List Nat} {e : Nat} (h : qk_h1 V cmp fin n l e = true) (r : Nat) (hr : r ∈ l) (hf : qd_eM e &&& qd_eM r = qd_eM e) :
    qd_eB r ≤ qd_eB e ∧ (qd_eM r = qd_eM e → V (qd_pt n (qd_eC e) (qd_eC r)) = 1) ∧
    (¬ qd_eM r = qd_eM e → fin (qd_cs (fun a => qd_bi (Nat.beq (Nat.land (qd_eM e) (qd_eM a)) (qd_eM e)) (qd_bi (Nat.beq (Nat.land (qd_eM a) (qd_eM r)) (qd_eM a)) (cmp (qd_eB a) (qd_eB r)) false) false) (fun a => V (qd_pt n (qd_eC e) (qd_eC a))) l) (V (qd_pt n (qd_eC e) (qd_eC r))) = true) := by
  unfold qk_h1 at h
  rw [qd_fr_eq, qd_fr_eq, qd_mf_eq, qd_mf_eq, qd_filter_all, qd_la_iff] at h
  have h1 := h (Nat.add (Nat.mod r 16777216) (Nat.mul 16777216 (V (qd_lq (qd_lp n (qd_eC e)) (qd_eC r))))) (List.mem_map.mpr ⟨r, List.mem_filter.mpr ⟨hr, by rw [Nat.beq_eq]; exact hf⟩, rfl⟩)
  have eP : ∀ c, qd_pt n (qd_eC e) c = qd_lq (qd_lp n (qd_eC e)) c := fun c => funext (fun b => (qd_lq_pt _ _ b n).symm)
  have eV : ∀ a, Nat.div (Nat.add (Nat.mod a 16777216) (Nat.mul 16777216 (V (qd_lq (qd_lp n (qd_eC e)) (qd_eC a))))) 16777216 = V (qd_pt n (qd_eC e) (qd_eC a)) := by
    intro a
    rw [(qk_pack _ _).2.2, eP]
  rw [qd_fr_eq, qd_fr_eq, (qk_pack _ _).1, (qk_pack _ _).2.1, (qk_pack _ _).2.2, qd_biAnd, Nat.ble_eq,
    qd_cs_fm _ _ (fun a => Nat.div a 16777216) (fun a => V (qd_pt n (qd_eC e) (qd_eC a))) (fun a => Nat.add (Nat.mod a 16777216) (Nat.mul 16777216 (V (qd_lq (qd_lp n (qd_eC e)) (qd_eC a))))) (fun a _ => eV a)] at h1
  refine ⟨h1.1, ?_, ?_⟩
  · intro hm
    have h2 := h1.2
    rw [qd_bi_t (by rw [Nat.beq_eq]; exact hm), Nat.beq_eq] at h2
    rw [eP]
    exact h2
  · intro hm
    have h2 := h1.2
    rw [qd_bi_f (by rw [Nat.beq_eq]; exact hm)] at h2
    rw [eP (qd_eC r)]
    refine Eq.trans (congrArg (fun z => fin z (V (qd_lq (qd_lp n (qd_eC e)) (qd_eC r)))) (qd_cs_cg (fun a _ => ⟨?_, fun _ => rfl⟩))) h2
    refine congrArg (fun z => qd_bi (Nat.beq (Nat.land (qd_eM e) (qd_eM a)) (qd_eM e)) z false) ?_
    show qd_bi _ _ false = qd_bi (Nat.beq (Nat.land (qd_eM (Nat.add (Nat.mod a 16777216) (Nat.mul 16777216 (V (qd_lq (qd_lp n (qd_eC e)) (qd_eC a)))))) (Nat.sub 2097151 (qd_eM r))) 0) (cmp (qd_eB (Nat.add (Nat.mod a 16777216) (Nat.mul 16777216 (V (qd_lq (qd_lp n (qd_eC e)) (qd_eC a)))))) (qd_eB r)) false
    rw [(qk_pack _ _).1, (qk_pack _ _).2.1]
    refine congrArg (fun z => qd_bi z (cmp (qd_eB a) (qd_eB r)) false) ?_
    rw [Bool.eq_iff_iff, Nat.beq_eq, Nat.beq_eq]
    exact (qd_nr (qd_eM_lt a) (qd_eM_lt r)).symm
end
section
def qk_c1_0 (l : List Nat) : List Nat :=
  (nat_lit 2097152) ::
  l
def qk_t1 : List Nat := qk_c1_0 []
def qk_c2_0 (l : List Nat) : List Nat :=
  (nat_lit 2097153) :: (nat_lit 272629760) ::
  l
def qk_t2 : List Nat := qk_c2_0 []
def qk_c3_0 (l : List Nat) : List Nat :=
  (nat_lit 2097159) :: (nat_lit 2151677953) :: (nat_lit 272629762) :: (nat_lit 2420113412) :: (nat_lit 4569694208) ::
  l
def qk_t3 : List Nat := qk_c3_0 []
def qk_c4_0 (l : List Nat) : List Nat :=
  (nat_lit 2097215) :: (nat_lit 17184063499) :: (nat_lit 2151677973) :: (nat_lit 19331547169) :: (nat_lit 36513513473) :: (nat_lit 272629798) :: (nat_lit 17469276178) :: (nat_lit 34634465282) ::
  (nat_lit 2420113420) :: (nat_lit 19599982648) :: (nat_lit 36781948936) :: (nat_lit 4569694212) :: (nat_lit 21749563408) :: (nat_lit 38929432608) :: (nat_lit 56111398912) ::
  l
def qk_t4 : List Nat := qk_c4_0 []
def qk_c5_0 (l : List Nat) : List Nat :=
  (nat_lit 2098175) :: (nat_lit 137443147959) :: (nat_lit 17184063835) :: (nat_lit 154623017491) :: (nat_lit 292064067603) :: (nat_lit 2151678573) :: (nat_lit 139607408933) :: (nat_lit 277031682085) ::
  (nat_lit 19331547337) :: (nat_lit 156770501505) :: (nat_lit 294211551361) :: (nat_lit 36513513545) :: (nat_lit 173952467201) :: (nat_lit 311391420929) :: (nat_lit 448832471041) :: (nat_lit 272630670) ::
  (nat_lit 137728360646) :: (nat_lit 275152633990) :: (nat_lit 17469276458) :: (nat_lit 154908230242) :: (nat_lit 292349280290) :: (nat_lit 34634465546) :: (nat_lit 172090196034) :: (nat_lit 309512372738) ::
  (nat_lit 446953422850) :: (nat_lit 2420113948) :: (nat_lit 139875844436) :: (nat_lit 277300117524) :: (nat_lit 19599982776) :: (nat_lit 157038937072) :: (nat_lit 294479986864) :: (nat_lit 36781948952) ::
  (nat_lit 174220902736) :: (nat_lit 311659856400) :: (nat_lit 449100906512) :: (nat_lit 4569694732) :: (nat_lit 142025424964) :: (nat_lit 279464378628) :: (nat_lit 416888651780) :: (nat_lit 21749563432) ::
  l
def qk_c5_1 (l : List Nat) : List Nat :=
  (nat_lit 159188517472) :: (nat_lit 296644247840) :: (nat_lit 434068520992) :: (nat_lit 38929432712) :: (nat_lit 176368386240) :: (nat_lit 313807340416) :: (nat_lit 451248390272) :: (nat_lit 56111398920) ::
  (nat_lit 193550352448) :: (nat_lit 330989306112) :: (nat_lit 468428259840) :: (nat_lit 605869309952) ::
  l
def qk_t5 : List Nat := qk_c5_0 (qk_c5_1 [])
def qk_c6_0 (l : List Nat) : List Nat :=
  (nat_lit 2129919) :: (nat_lit 1099515827951) :: (nat_lit 137443158903) :: (nat_lit 1236954792551) :: (nat_lit 2336468501095) :: (nat_lit 17184083387) :: (nat_lit 1116712477867) :: (nat_lit 2216209417387) ::
  (nat_lit 154623023411) :: (nat_lit 1254134673443) :: (nat_lit 2353648373795) :: (nat_lit 292064069939) :: (nat_lit 1391575703587) :: (nat_lit 2491087339555) :: (nat_lit 3590601048099) :: (nat_lit 2151707101) ::
  (nat_lit 1101680089293) :: (nat_lit 2201177034957) :: (nat_lit 139607418197) :: (nat_lit 1239119055941) :: (nat_lit 2338632762437) :: (nat_lit 277031690581) :: (nat_lit 1376560089157) :: (nat_lit 2476054954053) ::
  (nat_lit 3575568662597) :: (nat_lit 19331564441) :: (nat_lit 1118859963017) :: (nat_lit 2218356900489) :: (nat_lit 156770506513) :: (nat_lit 1256282160641) :: (nat_lit 2355795858945) :: (nat_lit 294211552017) ::
  (nat_lit 1393723189761) :: (nat_lit 2493234823681) :: (nat_lit 3592748532225) :: (nat_lit 36513530265) :: (nat_lit 1136041920649) :: (nat_lit 2235553554569) :: (nat_lit 3335050494089) :: (nat_lit 173952468241) ::
  l
def qk_c6_1 (l : List Nat) : List Nat :=
  (nat_lit 1273464114177) :: (nat_lit 2372992508929) :: (nat_lit 3472489448449) :: (nat_lit 311391424785) :: (nat_lit 1410903054337) :: (nat_lit 2510414704641) :: (nat_lit 3609928404993) :: (nat_lit 448832471313) ::
  (nat_lit 1548344100865) :: (nat_lit 2647855734785) :: (nat_lit 3747367370753) :: (nat_lit 4846881079297) :: (nat_lit 272662046) :: (nat_lit 1099801040654) :: (nat_lit 2199297988110) :: (nat_lit 137728371350) ::
  (nat_lit 1237240005510) :: (nat_lit 2336753713798) :: (nat_lit 275152644630) :: (nat_lit 1374681039622) :: (nat_lit 2474175906310) :: (nat_lit 3573689614854) :: (nat_lit 17469295706) :: (nat_lit 1116980913482) ::
  (nat_lit 2216494629962) :: (nat_lit 154908235986) :: (nat_lit 1254419886530) :: (nat_lit 2353933586626) :: (nat_lit 292349282386) :: (nat_lit 1391860916546) :: (nat_lit 2491372552258) :: (nat_lit 3590886260802) ::
  (nat_lit 34634484762) :: (nat_lit 1134162871562) :: (nat_lit 2233674507274) :: (nat_lit 3333171446794) :: (nat_lit 172090198162) :: (nat_lit 1271601840514) :: (nat_lit 2371113459842) :: (nat_lit 3470627176578) ::
  l
def qk_c6_2 (l : List Nat) : List Nat :=
  (nat_lit 309512378386) :: (nat_lit 1409040781570) :: (nat_lit 2508535656450) :: (nat_lit 3608049356802) :: (nat_lit 446953424914) :: (nat_lit 1546481828098) :: (nat_lit 2645976686594) :: (nat_lit 3745488322562) ::
  (nat_lit 4845002031106) :: (nat_lit 2420142140) :: (nat_lit 1101948524844) :: (nat_lit 2201445470252) :: (nat_lit 139875853492) :: (nat_lit 1239387491748) :: (nat_lit 2338901197988) :: (nat_lit 277300125748) ::
  (nat_lit 1376828524836) :: (nat_lit 2476323389476) :: (nat_lit 3575837098020) :: (nat_lit 19599999608) :: (nat_lit 1119128398696) :: (nat_lit 2218625335912) :: (nat_lit 157038941936) :: (nat_lit 1256550596576) ::
  (nat_lit 2356064294624) :: (nat_lit 294479987312) :: (nat_lit 1393991625568) :: (nat_lit 2493503259232) :: (nat_lit 3593016967776) :: (nat_lit 36781965368) :: (nat_lit 1136310356264) :: (nat_lit 2235821989928) ::
  (nat_lit 3335318929448) :: (nat_lit 174220903600) :: (nat_lit 1273732550048) :: (nat_lit 2373260944544) :: (nat_lit 3472757884064) :: (nat_lit 311659860016) :: (nat_lit 1411171490080) :: (nat_lit 2510683140128) ::
  l
def qk_c6_3 (l : List Nat) : List Nat :=
  (nat_lit 3610196840480) :: (nat_lit 449100906544) :: (nat_lit 1548612536608) :: (nat_lit 2648124170272) :: (nat_lit 3747635806240) :: (nat_lit 4847149514784) :: (nat_lit 4569722908) :: (nat_lit 1104098103564) ::
  (nat_lit 2203609733132) :: (nat_lit 3303106678796) :: (nat_lit 142025433236) :: (nat_lit 1241537069444) :: (nat_lit 2341048682628) :: (nat_lit 3440562405508) :: (nat_lit 279464387604) :: (nat_lit 1378976007428) ::
  (nat_lit 2478487653380) :: (nat_lit 3578001359876) :: (nat_lit 416888659988) :: (nat_lit 1516417057028) :: (nat_lit 2615928686596) :: (nat_lit 3715423551492) :: (nat_lit 4814937260036) :: (nat_lit 21749579864) ::
  (nat_lit 1121277976904) :: (nat_lit 2220789598280) :: (nat_lit 3320286543944) :: (nat_lit 159188521168) :: (nat_lit 1258700173760) :: (nat_lit 2358228555968) :: (nat_lit 3457725501632) :: (nat_lit 296644248656) ::
  (nat_lit 1396155884864) :: (nat_lit 2495667522624) :: (nat_lit 3595181229120) :: (nat_lit 434068521040) :: (nat_lit 1533580157248) :: (nat_lit 2633108555840) :: (nat_lit 3732603420736) :: (nat_lit 4832117129280) ::
  l
def qk_c6_4 (l : List Nat) : List Nat :=
  (nat_lit 38929449496) :: (nat_lit 1138457838344) :: (nat_lit 2237969476104) :: (nat_lit 3337466413576) :: (nat_lit 176368386704) :: (nat_lit 1275880031104) :: (nat_lit 2375408429696) :: (nat_lit 3474905367168) ::
  (nat_lit 313807345168) :: (nat_lit 1413318973184) :: (nat_lit 2512830627328) :: (nat_lit 3612344325632) :: (nat_lit 451248390672) :: (nat_lit 1550760018688) :: (nat_lit 2650271656448) :: (nat_lit 3749783290368) ::
  (nat_lit 4849296998912) :: (nat_lit 56111415320) :: (nat_lit 1155639804168) :: (nat_lit 2255151433736) :: (nat_lit 3354663067656) :: (nat_lit 4454160007176) :: (nat_lit 193550352528) :: (nat_lit 1293061996928) ::
  (nat_lit 2392590387328) :: (nat_lit 3492102021248) :: (nat_lit 4591598960768) :: (nat_lit 330989306896) :: (nat_lit 1430500934912) :: (nat_lit 2530012580864) :: (nat_lit 3629540975616) :: (nat_lit 4729037915136) ::
  (nat_lit 468428263440) :: (nat_lit 1567939891456) :: (nat_lit 2667451521024) :: (nat_lit 3766963171328) :: (nat_lit 4866476871680) :: (nat_lit 605869309968) :: (nat_lit 1705380937984) :: (nat_lit 2804892567552) ::
  l
def qk_c6_5 (l : List Nat) : List Nat :=
  (nat_lit 3904404201472) :: (nat_lit 5003915837440) :: (nat_lit 6103429545984) ::
  l
def qk_t6 : List Nat := qk_c6_0 (qk_c6_1 (qk_c6_2 (qk_c6_3 (qk_c6_4 (qk_c6_5 [])))))
def qk_c7_0 (l : List Nat) : List Nat :=
  (nat_lit 4194303) :: (nat_lit 8796097592287) :: (nat_lit 1099516534255) :: (nat_lit 9895609932239) :: (nat_lit 18691704003023) :: (nat_lit 137444421367) :: (nat_lit 8933553547991) :: (nat_lit 17729631365847) ::
  (nat_lit 1236955188455) :: (nat_lit 10033049635015) :: (nat_lit 18829143181511) :: (nat_lit 2336468651239) :: (nat_lit 11132562049223) :: (nat_lit 19928655595719) :: (nat_lit 28724749666503) :: (nat_lit 17185929083) ::
  (nat_lit 8813294269275) :: (nat_lit 17609372480347) :: (nat_lit 1116713080171) :: (nat_lit 9912806740299) :: (nat_lit 18708900680011) :: (nat_lit 2216209962347) :: (nat_lit 11012319351115) :: (nat_lit 19808396513611) ::
  (nat_lit 28604490584395) :: (nat_lit 154624124531) :: (nat_lit 8950733513299) :: (nat_lit 17746811200083) :: (nat_lit 1254135022691) :: (nat_lit 10050229731395) :: (nat_lit 18846323146819) :: (nat_lit 2353648419939) ::
  (nat_lit 11149742080067) :: (nat_lit 19945835495491) :: (nat_lit 28741929566275) :: (nat_lit 292065142387) :: (nat_lit 9088174006867) :: (nat_lit 17884267422291) :: (nat_lit 26680345240147) :: (nat_lit 1391575778403) ::
  l
def qk_c7_1 (l : List Nat) : List Nat :=
  (nat_lit 10187669962819) :: (nat_lit 18983779106883) :: (nat_lit 27779856924739) :: (nat_lit 2491087602787) :: (nat_lit 11287180738627) :: (nat_lit 20083275202627) :: (nat_lit 28879368749123) :: (nat_lit 3590601065571) ::
  (nat_lit 12386694201411) :: (nat_lit 21182787616835) :: (nat_lit 29978881163331) :: (nat_lit 38774975234115) :: (nat_lit 2153744317) :: (nat_lit 8798261855133) :: (nat_lit 17594340180893) :: (nat_lit 1101680780717) ::
  (nat_lit 9897774211469) :: (nat_lit 18693868265869) :: (nat_lit 2201177720237) :: (nat_lit 10997286879629) :: (nat_lit 19793364156813) :: (nat_lit 28589458227597) :: (nat_lit 139608659637) :: (nat_lit 8935701041813) ::
  (nat_lit 17731795620501) :: (nat_lit 1239119443109) :: (nat_lit 10035213922437) :: (nat_lit 18831307452549) :: (nat_lit 2338632897701) :: (nat_lit 11134726328453) :: (nat_lit 19930819858565) :: (nat_lit 28726913929349) ::
  (nat_lit 277032928949) :: (nat_lit 9073141564053) :: (nat_lit 17869235094165) :: (nat_lit 26665312912021) :: (nat_lit 1376560227493) :: (nat_lit 10172654182533) :: (nat_lit 18968746664069) :: (nat_lit 27764841259141) ::
  l
def qk_c7_2 (l : List Nat) : List Nat :=
  (nat_lit 2476055332005) :: (nat_lit 11272165015685) :: (nat_lit 20068242817157) :: (nat_lit 28864336363653) :: (nat_lit 3575568794789) :: (nat_lit 12371678478469) :: (nat_lit 21167755231365) :: (nat_lit 29963848777861) ::
  (nat_lit 38759942848645) :: (nat_lit 19333386041) :: (nat_lit 8815441759001) :: (nat_lit 17611519953689) :: (nat_lit 1118860553513) :: (nat_lit 9914954246409) :: (nat_lit 18711048169737) :: (nat_lit 2218357427497) ::
  (nat_lit 11014466849033) :: (nat_lit 19810543995145) :: (nat_lit 28606638065929) :: (nat_lit 156771589681) :: (nat_lit 8952881011217) :: (nat_lit 17748958681617) :: (nat_lit 1256282504225) :: (nat_lit 10052377245697) ::
  (nat_lit 18848470644737) :: (nat_lit 2355795893281) :: (nat_lit 11151889586177) :: (nat_lit 19947982985217) :: (nat_lit 28744077056001) :: (nat_lit 294212603441) :: (nat_lit 9090321500689) :: (nat_lit 17886414899729) ::
  (nat_lit 26682492717585) :: (nat_lit 1393723255841) :: (nat_lit 10189817473025) :: (nat_lit 18985926600705) :: (nat_lit 27782004418561) :: (nat_lit 2493235072033) :: (nat_lit 11289328240641) :: (nat_lit 20085422688257) ::
  l
def qk_c7_3 (l : List Nat) : List Nat :=
  (nat_lit 28881516234753) :: (nat_lit 3592748534817) :: (nat_lit 12388841703425) :: (nat_lit 21184935102465) :: (nat_lit 29981028648961) :: (nat_lit 38777122719745) :: (nat_lit 36515350329) :: (nat_lit 8832623592217) ::
  (nat_lit 17628716729113) :: (nat_lit 26424794940185) :: (nat_lit 1136042452265) :: (nat_lit 9932136014089) :: (nat_lit 18728228102409) :: (nat_lit 27524323090697) :: (nat_lit 2235554137385) :: (nat_lit 11031646650633) ::
  (nat_lit 19827740836105) :: (nat_lit 28623834775817) :: (nat_lit 3335051019561) :: (nat_lit 12131160310025) :: (nat_lit 20927253446921) :: (nat_lit 29723330609417) :: (nat_lit 38519424680201) :: (nat_lit 173953521201) ::
  (nat_lit 8970062811665) :: (nat_lit 17766155424273) :: (nat_lit 26562233635345) :: (nat_lit 1273464370209) :: (nat_lit 10069558980609) :: (nat_lit 18865667321857) :: (nat_lit 27661745532929) :: (nat_lit 2372992570401) ::
  (nat_lit 11169086132225) :: (nat_lit 19965179793409) :: (nat_lit 28761273733121) :: (nat_lit 3472489452577) :: (nat_lit 12268583014401) :: (nat_lit 21064692404225) :: (nat_lit 29860769566721) :: (nat_lit 38656863637505) ::
  l
def qk_c7_4 (l : List Nat) : List Nat :=
  (nat_lit 311392503345) :: (nat_lit 9107501269521) :: (nat_lit 17903594930705) :: (nat_lit 26699672617489) :: (nat_lit 1410903090209) :: (nat_lit 10206997176321) :: (nat_lit 19003106566145) :: (nat_lit 27799184252929) ::
  (nat_lit 2510415037473) :: (nat_lit 11306508075009) :: (nat_lit 20102602784769) :: (nat_lit 28898696200193) :: (nat_lit 3609928434721) :: (nat_lit 12406021472257) :: (nat_lit 21202115133441) :: (nat_lit 29998208548865) ::
  (nat_lit 38794302619649) :: (nat_lit 448833521201) :: (nat_lit 9244942287377) :: (nat_lit 18041035424273) :: (nat_lit 26837128839697) :: (nat_lit 35633206657553) :: (nat_lit 1548344108065) :: (nat_lit 10344438194177) ::
  (nat_lit 19140547059713) :: (nat_lit 27936640475137) :: (nat_lit 36732718292993) :: (nat_lit 2647855793185) :: (nat_lit 11443948830721) :: (nat_lit 20240043016193) :: (nat_lit 29036152160257) :: (nat_lit 37832229978113) ::
  (nat_lit 3747367617569) :: (nat_lit 12543460655105) :: (nat_lit 21339553792001) :: (nat_lit 30135648256001) :: (nat_lit 38931741802497) :: (nat_lit 4846881080353) :: (nat_lit 13642974117889) :: (nat_lit 22439067254785) ::
  l
def qk_c7_5 (l : List Nat) : List Nat :=
  (nat_lit 31235160670209) :: (nat_lit 40031254216705) :: (nat_lit 48827348287489) :: (nat_lit 274724926) :: (nat_lit 8796382805022) :: (nat_lit 17592461146142) :: (nat_lit 1099801745966) :: (nat_lit 9895895145998) ::
  (nat_lit 18691989215758) :: (nat_lit 2199298693166) :: (nat_lit 10995407821838) :: (nat_lit 19791485114382) :: (nat_lit 28587579185166) :: (nat_lit 137729632566) :: (nat_lit 8933821984022) :: (nat_lit 17729916578070) ::
  (nat_lit 1237240400678) :: (nat_lit 10033334849286) :: (nat_lit 18829428394758) :: (nat_lit 2336753862950) :: (nat_lit 11132847262982) :: (nat_lit 19928940808454) :: (nat_lit 28725034879238) :: (nat_lit 275153905718) ::
  (nat_lit 9071262510102) :: (nat_lit 17867356055574) :: (nat_lit 26663433873430) :: (nat_lit 1374681188902) :: (nat_lit 10170775113222) :: (nat_lit 18966867610118) :: (nat_lit 27762962205190) :: (nat_lit 2474176301094) ::
  (nat_lit 11270285954054) :: (nat_lit 20066363770886) :: (nat_lit 28862457317382) :: (nat_lit 3573689763878) :: (nat_lit 12369799416838) :: (nat_lit 21165876185094) :: (nat_lit 29961969731590) :: (nat_lit 38758063802374) ::
  l
def qk_c7_6 (l : List Nat) : List Nat :=
  (nat_lit 17471140026) :: (nat_lit 8813562705050) :: (nat_lit 17609657692314) :: (nat_lit 1116981514922) :: (nat_lit 9913075177098) :: (nat_lit 18709169115786) :: (nat_lit 2216495173802) :: (nat_lit 11012587787402) ::
  (nat_lit 19808681726090) :: (nat_lit 28604775796874) :: (nat_lit 154909335986) :: (nat_lit 8951001949586) :: (nat_lit 17747096412562) :: (nat_lit 1254420235170) :: (nat_lit 10050514945922) :: (nat_lit 18846608360322) ::
  (nat_lit 2353933631906) :: (nat_lit 11150027294082) :: (nat_lit 19946120708482) :: (nat_lit 28742214779266) :: (nat_lit 292350353586) :: (nat_lit 9088442442898) :: (nat_lit 17884535857298) :: (nat_lit 26680630452370) ::
  (nat_lit 1391860990626) :: (nat_lit 10187955177090) :: (nat_lit 18984047542914) :: (nat_lit 27780142137986) :: (nat_lit 2491372814498) :: (nat_lit 11287465952386) :: (nat_lit 20083560415362) :: (nat_lit 28879653961858) ::
  (nat_lit 3590886277282) :: (nat_lit 12386979415170) :: (nat_lit 21183072829570) :: (nat_lit 29979166376066) :: (nat_lit 38775260446850) :: (nat_lit 34636329018) :: (nat_lit 8830744540186) :: (nat_lit 17626837692442) ::
  l
def qk_c7_7 (l : List Nat) : List Nat :=
  (nat_lit 26422915903514) :: (nat_lit 1134163415594) :: (nat_lit 9930256946698) :: (nat_lit 18726349050378) :: (nat_lit 27522444038666) :: (nat_lit 2233675108394) :: (nat_lit 11029767590922) :: (nat_lit 19825861791754) ::
  (nat_lit 28621955731466) :: (nat_lit 3333171990570) :: (nat_lit 12129281250314) :: (nat_lit 20925374402570) :: (nat_lit 29721451565066) :: (nat_lit 38517545635850) :: (nat_lit 172091269426) :: (nat_lit 8968183751954) ::
  (nat_lit 17764276379922) :: (nat_lit 26560371368210) :: (nat_lit 1271602103074) :: (nat_lit 10067696682754) :: (nat_lit 18863788262146) :: (nat_lit 27659883250434) :: (nat_lit 2371113533730) :: (nat_lit 11167207064834) ::
  (nat_lit 19963300741378) :: (nat_lit 28759394681090) :: (nat_lit 3470627193122) :: (nat_lit 12266720724226) :: (nat_lit 21062813352194) :: (nat_lit 29858907291906) :: (nat_lit 38655001362690) :: (nat_lit 309513478194) ::
  (nat_lit 9105622213650) :: (nat_lit 17901715890194) :: (nat_lit 26697793576978) :: (nat_lit 1409040826914) :: (nat_lit 10205134882306) :: (nat_lit 19001227510274) :: (nat_lit 27797321974274) :: (nat_lit 2508536004642) ::
  l
def qk_c7_8 (l : List Nat) : List Nat :=
  (nat_lit 11304645788674) :: (nat_lit 20100723736578) :: (nat_lit 28896817152002) :: (nat_lit 3608049401890) :: (nat_lit 12404159185922) :: (nat_lit 21200236085250) :: (nat_lit 29996329500674) :: (nat_lit 38792423571458) ::
  (nat_lit 446954496050) :: (nat_lit 9243063231506) :: (nat_lit 18039156383762) :: (nat_lit 26835249799186) :: (nat_lit 35631327617042) :: (nat_lit 1546481844770) :: (nat_lit 10342575900162) :: (nat_lit 19138668003842) ::
  (nat_lit 27934761419266) :: (nat_lit 36730856014338) :: (nat_lit 2645976760354) :: (nat_lit 11442086544386) :: (nat_lit 20238163968002) :: (nat_lit 29034273112066) :: (nat_lit 37830350929922) :: (nat_lit 3745488584738) ::
  (nat_lit 12541598368770) :: (nat_lit 21337674743810) :: (nat_lit 30133769207810) :: (nat_lit 38929862754306) :: (nat_lit 4845002047522) :: (nat_lit 13641111831554) :: (nat_lit 22437188206594) :: (nat_lit 31233281622018) ::
  (nat_lit 40029375168514) :: (nat_lit 48825469239298) :: (nat_lit 2422177916) :: (nat_lit 8798530290780) :: (nat_lit 17594608615516) :: (nat_lit 1101949215340) :: (nat_lit 9898042648140) :: (nat_lit 18694136701516) ::
  l
def qk_c7_9 (l : List Nat) : List Nat :=
  (nat_lit 2201446154348) :: (nat_lit 10997555315788) :: (nat_lit 19793632591948) :: (nat_lit 28589726662732) :: (nat_lit 139877093748) :: (nat_lit 8935969477972) :: (nat_lit 17732064055636) :: (nat_lit 1239387878244) ::
  (nat_lit 10035482359620) :: (nat_lit 18831575888708) :: (nat_lit 2338901332324) :: (nat_lit 11134994765124) :: (nat_lit 19931088294212) :: (nat_lit 28727182364996) :: (nat_lit 277301362804) :: (nat_lit 9073409999956) ::
  (nat_lit 17869503529044) :: (nat_lit 26665581346900) :: (nat_lit 1376828662372) :: (nat_lit 10172922619460) :: (nat_lit 18969015099972) :: (nat_lit 27765109695044) :: (nat_lit 2476323766372) :: (nat_lit 11272433452100) ::
  (nat_lit 20068511252548) :: (nat_lit 28864604799044) :: (nat_lit 3575837229156) :: (nat_lit 12371946914884) :: (nat_lit 21168023666756) :: (nat_lit 29964117213252) :: (nat_lit 38760211284036) :: (nat_lit 19601819896) ::
  (nat_lit 8815710194904) :: (nat_lit 17611788388568) :: (nat_lit 1119128988392) :: (nat_lit 9915222683336) :: (nat_lit 18711316605640) :: (nat_lit 2218625861864) :: (nat_lit 11014735285448) :: (nat_lit 19810812430536) ::
  l
def qk_c7_10 (l : List Nat) : List Nat :=
  (nat_lit 28606906501320) :: (nat_lit 157040024048) :: (nat_lit 8953149447632) :: (nat_lit 17749227117008) :: (nat_lit 1256550939616) :: (nat_lit 10052645683136) :: (nat_lit 18848739081152) :: (nat_lit 2356064328160) ::
  (nat_lit 11152158023104) :: (nat_lit 19948251421120) :: (nat_lit 28744345491904) :: (nat_lit 294481037552) :: (nat_lit 9090589936848) :: (nat_lit 17886683334864) :: (nat_lit 26682761152720) :: (nat_lit 1393991690976) ::
  (nat_lit 10190085910208) :: (nat_lit 18986195036864) :: (nat_lit 27782272854720) :: (nat_lit 2493503506656) :: (nat_lit 11289596677312) :: (nat_lit 20085691123904) :: (nat_lit 28881784670400) :: (nat_lit 3593016969440) ::
  (nat_lit 12389110140096) :: (nat_lit 21185203538112) :: (nat_lit 29981297084608) :: (nat_lit 38777391155392) :: (nat_lit 36783784056) :: (nat_lit 8832892027992) :: (nat_lit 17628985163864) :: (nat_lit 26425063374936) ::
  (nat_lit 1136310887016) :: (nat_lit 9932404450888) :: (nat_lit 18728496538184) :: (nat_lit 27524591526472) :: (nat_lit 2235822571624) :: (nat_lit 11031915086920) :: (nat_lit 19828009271368) :: (nat_lit 28624103211080) ::
  l
def qk_c7_11 (l : List Nat) : List Nat :=
  (nat_lit 3335319453800) :: (nat_lit 12131428746312) :: (nat_lit 20927521882184) :: (nat_lit 29723599044680) :: (nat_lit 38519693115464) :: (nat_lit 174221955440) :: (nat_lit 8970331247952) :: (nat_lit 17766423859536) ::
  (nat_lit 26562502070608) :: (nat_lit 1273732805472) :: (nat_lit 10069827417920) :: (nat_lit 18865935758144) :: (nat_lit 27662013969216) :: (nat_lit 2373261005152) :: (nat_lit 11169354569024) :: (nat_lit 19965448229184) ::
  (nat_lit 28761542168896) :: (nat_lit 3472757887328) :: (nat_lit 12268851451200) :: (nat_lit 21064960840000) :: (nat_lit 29861038002496) :: (nat_lit 38657132073280) :: (nat_lit 311660937328) :: (nat_lit 9107769705552) ::
  (nat_lit 17903863365712) :: (nat_lit 26699941052496) :: (nat_lit 1411171525216) :: (nat_lit 10207265613376) :: (nat_lit 19003375002176) :: (nat_lit 27799452688960) :: (nat_lit 2510683471968) :: (nat_lit 11306776511552) ::
  (nat_lit 20102871220288) :: (nat_lit 28898964635712) :: (nat_lit 3610196869216) :: (nat_lit 12406289908800) :: (nat_lit 21202383568960) :: (nat_lit 29998476984384) :: (nat_lit 38794571055168) :: (nat_lit 449101955184) ::
  l
def qk_c7_12 (l : List Nat) : List Nat :=
  (nat_lit 9245210723408) :: (nat_lit 18041303859280) :: (nat_lit 26837397274704) :: (nat_lit 35633475092560) :: (nat_lit 1548612543072) :: (nat_lit 10344706631232) :: (nat_lit 19140815495744) :: (nat_lit 27936908911168) ::
  (nat_lit 36732986729024) :: (nat_lit 2648124227680) :: (nat_lit 11444217267264) :: (nat_lit 20240311451712) :: (nat_lit 29036420595776) :: (nat_lit 37832498413632) :: (nat_lit 3747636052064) :: (nat_lit 12543729091648) ::
  (nat_lit 21339822227520) :: (nat_lit 30135916691520) :: (nat_lit 38932010238016) :: (nat_lit 4847149514848) :: (nat_lit 13643242554432) :: (nat_lit 22439335690304) :: (nat_lit 31235429105728) :: (nat_lit 40031522652224) ::
  (nat_lit 48827616723008) :: (nat_lit 4571758652) :: (nat_lit 8800679855132) :: (nat_lit 17596772892700) :: (nat_lit 26392851218460) :: (nat_lit 1104098787884) :: (nat_lit 9900192204300) :: (nat_lit 18696284193292) ::
  (nat_lit 27492379296268) :: (nat_lit 2203610423340) :: (nat_lit 10999702791180) :: (nat_lit 19795796877324) :: (nat_lit 28591890931724) :: (nat_lit 3303107362860) :: (nat_lit 12099216507916) :: (nat_lit 20895309545484) ::
  l
def qk_c7_13 (l : List Nat) : List Nat :=
  (nat_lit 29691386822668) :: (nat_lit 38487480893452) :: (nat_lit 142026670388) :: (nat_lit 8938119038228) :: (nat_lit 17734211551508) :: (nat_lit 26530306654484) :: (nat_lit 1241537446692) :: (nat_lit 10037631911684) ::
  (nat_lit 18833723376388) :: (nat_lit 27629818479364) :: (nat_lit 2341048820004) :: (nat_lit 11137142236420) :: (nat_lit 19933235798276) :: (nat_lit 28729329852676) :: (nat_lit 3440562536740) :: (nat_lit 12236655953156) ::
  (nat_lit 21032748466436) :: (nat_lit 29828842520836) :: (nat_lit 38624936591620) :: (nat_lit 279465627700) :: (nat_lit 9075557471252) :: (nat_lit 17871651033108) :: (nat_lit 26667745611796) :: (nat_lit 1378976141860) ::
  (nat_lit 10175070082564) :: (nat_lit 18971162595844) :: (nat_lit 27767257174532) :: (nat_lit 2478488039460) :: (nat_lit 11274580931588) :: (nat_lit 20070675542020) :: (nat_lit 28866769072132) :: (nat_lit 3578001494052) ::
  (nat_lit 12374094386180) :: (nat_lit 21170187948036) :: (nat_lit 29966281478148) :: (nat_lit 38762375548932) :: (nat_lit 416889897012) :: (nat_lit 9212998517780) :: (nat_lit 18009091555348) :: (nat_lit 26805185085460) ::
  l
def qk_c7_14 (l : List Nat) : List Nat :=
  (nat_lit 35601262903316) :: (nat_lit 1516417188388) :: (nat_lit 10312511129092) :: (nat_lit 19108603118084) :: (nat_lit 27904696648196) :: (nat_lit 36700791243268) :: (nat_lit 2615928823844) :: (nat_lit 11412021715972) ::
  (nat_lit 20208115802116) :: (nat_lit 29004208283652) :: (nat_lit 37800302878724) :: (nat_lit 3715423928356) :: (nat_lit 12511533597700) :: (nat_lit 21307626635268) :: (nat_lit 30103704436740) :: (nat_lit 38899797983236) ::
  (nat_lit 4814937391140) :: (nat_lit 13611047060484) :: (nat_lit 22407140098052) :: (nat_lit 31203216850948) :: (nat_lit 39999310397444) :: (nat_lit 48795404468228) :: (nat_lit 21751398584) :: (nat_lit 8817859757208) ::
  (nat_lit 17613952663704) :: (nat_lit 26410030989464) :: (nat_lit 1121278558888) :: (nat_lit 9917372237448) :: (nat_lit 18713464095368) :: (nat_lit 27509559198344) :: (nat_lit 2220790128808) :: (nat_lit 11016882758792) ::
  (nat_lit 19812976713864) :: (nat_lit 28609070768264) :: (nat_lit 3320287068328) :: (nat_lit 12116396475528) :: (nat_lit 20912489382024) :: (nat_lit 29708566659208) :: (nat_lit 38504660729992) :: (nat_lit 159189598640) ::
  l
def qk_c7_15 (l : List Nat) : List Nat :=
  (nat_lit 8955299005840) :: (nat_lit 17751391388048) :: (nat_lit 26547469713808) :: (nat_lit 1258700506016) :: (nat_lit 10054795233152) :: (nat_lit 18850903344000) :: (nat_lit 27646981669760) :: (nat_lit 2358228591008) ::
  (nat_lit 11154322269568) :: (nat_lit 19950415700352) :: (nat_lit 28746509754752) :: (nat_lit 3457725530528) :: (nat_lit 12253819209088) :: (nat_lit 21049928368512) :: (nat_lit 29846005645696) :: (nat_lit 38642099716480) ::
  (nat_lit 296645300400) :: (nat_lit 9092737406096) :: (nat_lit 17888830836880) :: (nat_lit 26684925415568) :: (nat_lit 1396155945632) :: (nat_lit 10192250148480) :: (nat_lit 18988342530688) :: (nat_lit 27784437109376) ::
  (nat_lit 2495667777696) :: (nat_lit 11291760931968) :: (nat_lit 20087855411328) :: (nat_lit 28883948941440) :: (nat_lit 3595181232288) :: (nat_lit 12391274386560) :: (nat_lit 21187367817344) :: (nat_lit 29983461347456) ::
  (nat_lit 38779555418240) :: (nat_lit 434069569712) :: (nat_lit 9230178452624) :: (nat_lit 18026271359120) :: (nat_lit 26822364889232) :: (nat_lit 35618442707088) :: (nat_lit 1533580214944) :: (nat_lit 10329674417792) ::
  l
def qk_c7_16 (l : List Nat) : List Nat :=
  (nat_lit 19125783052928) :: (nat_lit 27921876583040) :: (nat_lit 36717954400896) :: (nat_lit 2633108562080) :: (nat_lit 11429201716352) :: (nat_lit 20225295671424) :: (nat_lit 29021388152960) :: (nat_lit 37817482748032) ::
  (nat_lit 3732603666592) :: (nat_lit 12528696820864) :: (nat_lit 21324806504576) :: (nat_lit 30120884306048) :: (nat_lit 38916977852544) :: (nat_lit 4832117129376) :: (nat_lit 13628210283648) :: (nat_lit 22424319967360) ::
  (nat_lit 31220396720256) :: (nat_lit 40016490266752) :: (nat_lit 48812584337536) :: (nat_lit 38931269688) :: (nat_lit 8835039497240) :: (nat_lit 17631132665880) :: (nat_lit 26427210860568) :: (nat_lit 1138458364456) ::
  (nat_lit 9934551911944) :: (nat_lit 18730644032008) :: (nat_lit 27526739003912) :: (nat_lit 2237970065448) :: (nat_lit 11034062564360) :: (nat_lit 19830156781576) :: (nat_lit 28626250704904) :: (nat_lit 3337466939432) ::
  (nat_lit 12133576215560) :: (nat_lit 20929669384200) :: (nat_lit 29725746530312) :: (nat_lit 38521840601096) :: (nat_lit 176369436976) :: (nat_lit 8972478713104) :: (nat_lit 17768571357456) :: (nat_lit 26564649552144) ::
  l
def qk_c7_17 (l : List Nat) : List Nat :=
  (nat_lit 1275880278816) :: (nat_lit 10071974874880) :: (nat_lit 18868083247872) :: (nat_lit 27664161442560) :: (nat_lit 2375408494880) :: (nat_lit 11171502042368) :: (nat_lit 19967595735296) :: (nat_lit 28763689658624) ::
  (nat_lit 3474905368864) :: (nat_lit 12270998916352) :: (nat_lit 21067108337920) :: (nat_lit 29863185484032) :: (nat_lit 38659279554816) :: (nat_lit 313808427056) :: (nat_lit 9109917178896) :: (nat_lit 17906010871824) ::
  (nat_lit 26702088542224) :: (nat_lit 1413319006752) :: (nat_lit 10209413078528) :: (nat_lit 19005522500096) :: (nat_lit 27801600170496) :: (nat_lit 2512830969888) :: (nat_lit 11308923993088) :: (nat_lit 20105018734592) ::
  (nat_lit 28901112133632) :: (nat_lit 3612344358944) :: (nat_lit 12408437382144) :: (nat_lit 21204531075072) :: (nat_lit 30000624474112) :: (nat_lit 38796718544896) :: (nat_lit 451249440816) :: (nat_lit 9247358192656) ::
  (nat_lit 18043451361296) :: (nat_lit 26839544760336) :: (nat_lit 35635622578192) :: (nat_lit 1550760020512) :: (nat_lit 10346854092288) :: (nat_lit 19142962989568) :: (nat_lit 27939056388608) :: (nat_lit 36735134206464) ::
  l
def qk_c7_18 (l : List Nat) : List Nat :=
  (nat_lit 2650271721504) :: (nat_lit 11446364744704) :: (nat_lit 20242458961920) :: (nat_lit 29038568089600) :: (nat_lit 37834645907456) :: (nat_lit 3749783537696) :: (nat_lit 12545876560896) :: (nat_lit 21341969729536) ::
  (nat_lit 30138064177152) :: (nat_lit 38934157723648) :: (nat_lit 4849297000480) :: (nat_lit 13645390023680) :: (nat_lit 22441483192320) :: (nat_lit 31237576591360) :: (nat_lit 40033670137856) :: (nat_lit 48829764208640) ::
  (nat_lit 56113233976) :: (nat_lit 8852221461528) :: (nat_lit 17648314499096) :: (nat_lit 26444407635992) :: (nat_lit 35240485847064) :: (nat_lit 1155640328744) :: (nat_lit 9951733876232) :: (nat_lit 18747825865224) ::
  (nat_lit 27543919002120) :: (nat_lit 36340013990408) :: (nat_lit 2255151964200) :: (nat_lit 11051244463112) :: (nat_lit 19847338549256) :: (nat_lit 28643430637576) :: (nat_lit 37439525625864) :: (nat_lit 3354663649320) ::
  (nat_lit 12150756148232) :: (nat_lit 20946849185800) :: (nat_lit 29742943371272) :: (nat_lit 38539037310984) :: (nat_lit 4454160531496) :: (nat_lit 13250269807624) :: (nat_lit 22046362845192) :: (nat_lit 30842455982088) ::
  l
def qk_c7_19 (l : List Nat) : List Nat :=
  (nat_lit 39638533144584) :: (nat_lit 48434627215368) :: (nat_lit 193551401264) :: (nat_lit 8989660677392) :: (nat_lit 17785753190672) :: (nat_lit 26581846327568) :: (nat_lit 35377924538640) :: (nat_lit 1293062243104) ::
  (nat_lit 10089156839168) :: (nat_lit 18885265081088) :: (nat_lit 27681358217984) :: (nat_lit 36477436429056) :: (nat_lit 2392590393632) :: (nat_lit 11188683941120) :: (nat_lit 19984777502976) :: (nat_lit 28780869591296) ::
  (nat_lit 37576964579584) :: (nat_lit 3492102078752) :: (nat_lit 12288195626240) :: (nat_lit 21084288139520) :: (nat_lit 29880382324992) :: (nat_lit 38676476264704) :: (nat_lit 4591598960928) :: (nat_lit 13387692508416) ::
  (nat_lit 22183801798912) :: (nat_lit 30979894935808) :: (nat_lit 39775972098304) :: (nat_lit 48572066169088) :: (nat_lit 330990358576) :: (nat_lit 9127099110416) :: (nat_lit 17923192672272) :: (nat_lit 26719285284880) ::
  (nat_lit 35515363495952) :: (nat_lit 1430500938272) :: (nat_lit 10226595010048) :: (nat_lit 19022704300544) :: (nat_lit 27818796913152) :: (nat_lit 36614875124224) :: (nat_lit 2530012835872) :: (nat_lit 11326105859072) ::
  l
def qk_c7_20 (l : List Nat) : List Nat :=
  (nat_lit 20122200469504) :: (nat_lit 28918308810752) :: (nat_lit 37714387021824) :: (nat_lit 3629541036064) :: (nat_lit 12425634059264) :: (nat_lit 21221727621120) :: (nat_lit 30017821282304) :: (nat_lit 38813915222016) ::
  (nat_lit 4729037918240) :: (nat_lit 13525130941440) :: (nat_lit 22321224503296) :: (nat_lit 31117333893120) :: (nat_lit 39913411055616) :: (nat_lit 48709505126400) :: (nat_lit 468429340720) :: (nat_lit 9264538092560) ::
  (nat_lit 18060631130128) :: (nat_lit 26856724791312) :: (nat_lit 35652802478096) :: (nat_lit 1567939920416) :: (nat_lit 10364033992192) :: (nat_lit 19160142758400) :: (nat_lit 27956236419584) :: (nat_lit 36752314106368) ::
  (nat_lit 2667451555872) :: (nat_lit 11463544579072) :: (nat_lit 20259638665216) :: (nat_lit 29055748055040) :: (nat_lit 37851825741824) :: (nat_lit 3766963503136) :: (nat_lit 12563056526336) :: (nat_lit 21359149563904) ::
  (nat_lit 30155244273664) :: (nat_lit 38951337689088) :: (nat_lit 4866476900384) :: (nat_lit 13662569923584) :: (nat_lit 22458662961152) :: (nat_lit 31254756622336) :: (nat_lit 40050850037760) :: (nat_lit 48846944108544) ::
  l
def qk_c7_21 (l : List Nat) : List Nat :=
  (nat_lit 605870358576) :: (nat_lit 9401979110416) :: (nat_lit 18198072147984) :: (nat_lit 26994165284880) :: (nat_lit 35790258700304) :: (nat_lit 44586336518160) :: (nat_lit 1705380938272) :: (nat_lit 10501475010048) ::
  (nat_lit 19297583776256) :: (nat_lit 28093676913152) :: (nat_lit 36889770328576) :: (nat_lit 45685848146432) :: (nat_lit 2804892573728) :: (nat_lit 11600985596928) :: (nat_lit 20397079683072) :: (nat_lit 29193188548608) ::
  (nat_lit 37989281964032) :: (nat_lit 46785359781888) :: (nat_lit 3904404258848) :: (nat_lit 12700497282048) :: (nat_lit 21496590319616) :: (nat_lit 30292684505088) :: (nat_lit 39088793649152) :: (nat_lit 47884871467008) ::
  (nat_lit 5003916083232) :: (nat_lit 13800009106432) :: (nat_lit 22596102144000) :: (nat_lit 31392195280896) :: (nat_lit 40188289744896) :: (nat_lit 48984383291392) :: (nat_lit 6103429546016) :: (nat_lit 14899522569216) ::
  (nat_lit 23695615606784) :: (nat_lit 32491708743680) :: (nat_lit 41287802159104) :: (nat_lit 50083895705600) :: (nat_lit 58879989776384) ::
  l
def qk_t7 : List Nat := qk_c7_0 (qk_c7_1 (qk_c7_2 (qk_c7_3 (qk_c7_4 (qk_c7_5 (qk_c7_6 (qk_c7_7 (qk_c7_8 (qk_c7_9 (qk_c7_10 (qk_c7_11 (qk_c7_12 (qk_c7_13 (qk_c7_14 (qk_c7_15 (qk_c7_16 (qk_c7_17 (qk_c7_18 (qk_c7_19 (qk_c7_20 (qk_c7_21 [])))))))))))))))))))))
noncomputable def qk_tb (n : Nat) : List Nat := qd_bi (Nat.beq n 7) qk_t7 (qd_bi (Nat.beq n 6) qk_t6 (qd_bi (Nat.beq n 5) qk_t5 (qd_bi (Nat.beq n 4) qk_t4 (qd_bi (Nat.beq n 3) qk_t3 (qd_bi (Nat.beq n 2) qk_t2 qk_t1)))))
/-- equal lists, reckoned -/
noncomputable def qk_le (l : List Nat) : List Nat → Bool :=
  List.rec (motive := fun _ => List Nat → Bool) (fun m => List.rec (motive := fun _ => Bool) true (fun _ _ _ => false) m)
    (fun a _ ih m => List.rec (motive := fun _ => Bool) false (fun b t _ => qd_bi (Nat.beq a b) (ih t) false) m) l
theorem qk_le_eq : ∀ {l m : List Nat}, qk_le l m = true → l = m := by
  intro l
  induction l with
  | nil =>
    intro m h
    cases m with
    | nil => rfl
    | cons b t => exact absurd (show (false : Bool) = true from h) (by decide)
  | cons a l ih =>
    intro m h
    cases m with
    | nil => exact absurd (show (false : Bool) = true from h) (by decide)
    | cons b t =>
      have e : qk_le (a :: l) (b :: t) = qd_bi (Nat.beq a b) (qk_le l t) false := rfl
      rw [e, qd_biAnd, Nat.beq_eq] at h
      rw [h.1, ih h.2]
theorem qk_tbl : ∀ m, m < 7 → qk_le ((qd_T (m + 1)).map (qd_en (m + 1))) (qk_tb (m + 1)) = true := by decide +kernel
theorem qk_len : ∀ m, m < 7 → Nat.ble 1 (qd_N (m + 1)) = true ∧ Nat.ble (qd_N (m + 1)) 877 = true := by decide +kernel
theorem qk_lt : ∀ m, m < 7 → qd_la (fun c => Nat.blt c (Nat.pow 8 (m + 1))) (qd_T (m + 1)) = true := by decide +kernel
theorem qk_rg : ∀ m, m < 7 → qd_la (fun c => qd_al (fun i => Nat.ble (qd_g c i) (qd_bf (qd_g c) i)) (m + 1)) (qd_T (m + 1)) = true := by decide +kernel
theorem qk_d7 : ∀ m, m < 7 → qd_la (fun c => qd_al (fun i => Nat.blt (qd_g c i) 7) (m + 1)) (qd_T (m + 1)) = true := by decide +kernel
theorem qk_pk : ∀ m, m < 7 → qd_la (fun c => Nat.beq (qd_pk (m + 1) (qd_g c)) c) (qd_T (m + 1)) = true := by decide +kernel
theorem qk_cd : ∀ m, m < 7 → qd_la (fun c => Nat.beq (qd_cd (m + 1) c (m + 1)) c) (qd_T (m + 1)) = true := by decide +kernel
theorem qk_md : ∀ m, m < 7 → qd_la (fun c => Nat.beq (Nat.succ (qd_md (m + 1) c (m + 1))) (qd_b (m + 1) c)) (qd_T (m + 1)) = true := by decide +kernel
theorem qk_rk : ∀ m, m < 7 → qk_le ((qd_T (m + 1)).map (qd_rk (m + 1))) (List.range (qd_N (m + 1))) = true := by decide +kernel
theorem qk_po : ∀ m, m < 7 → qk_le ((List.range (qd_N (m + 1))).map (fun k => (qd_po (m + 1) k (m + 1)).1)) (qd_T (m + 1)) = true := by decide +kernel
theorem qk_rc : ∀ m, m < 7 → qd_la (fun c => Nat.beq (qd_rc (m + 1) (qd_m (m + 1) c)) c) (qd_T (m + 1)) = true := by decide +kernel
theorem qk_nx : ∀ m, m < 7 → qk_le ((qd_T (m + 1)).map (qd_nx (m + 1))) ((qd_T (m + 1) ++ [Nat.pow 8 (m + 1)]).drop 1) = true := by decide +kernel
theorem qk_t0 : ∀ m, m < 7 → Nat.beq ((qd_T (m + 1)).getD 0 1) 0 = true := by decide +kernel
theorem qk_tz : ∀ m, m < 7 → qd_al (fun i => Nat.beq (qd_g ((qd_T (m + 1)).getD (qd_N (m + 1) - 1) 0) i) i) (m + 1) = true := by decide +kernel
end
section
theorem qk_u6 : ∀ m, m < 6 → qd_la (qk_u1 (m + 1) (qk_tb (m + 1))) (qk_tb (m + 1)) = true := by decide +kernel
theorem qk_k6 : ∀ m, m < 6 → qd_la (qk_k1 (m + 1) (qk_tb (m + 1))) (qk_tb (m + 1)) = true := by decide +kernel
theorem qk_c6 : ∀ m, m < 6 → qd_la (qk_c1 (m + 1) (qk_tb (m + 1))) (qk_tb (m + 1)) = true := by decide +kernel
theorem qk_i6 : ∀ m, m < 6 → qd_la (qk_i1 (m + 1) (qk_tb (m + 1))) (qk_tb (m + 1)) = true := by decide +kernel
noncomputable def qk_sV (n : Nat) (f : Nat → Nat) : Nat := Nat.mod (qd_sg f n) 4294967296
noncomputable def qk_s1 (n : Nat) (l : List Nat) (e : Nat) : Bool := qk_h1 (qk_sV n) (fun a b => Nat.blt b a) (fun s v => Nat.beq (Nat.mod (Nat.add s v) 4294967296) 0) n l e
noncomputable def qk_fV (n : Nat) (f : Nat → Nat) : Nat := qd_bi (qd_cb f n) (qd_ch f n) 0
noncomputable def qk_f1 (n : Nat) (l : List Nat) (e : Nat) : Bool := qk_h1 (qk_fV n) (fun a b => Nat.beq a (Nat.succ b)) (fun s v => qd_bi (Nat.beq s v) (Nat.blt 0 v) false) n l e
theorem qk_s6 : ∀ m, m < 6 → qd_la (qk_s1 (m + 1) (qk_tb (m + 1))) (qk_tb (m + 1)) = true := by decide +kernel
theorem qk_f6 : ∀ m, m < 6 → qd_la (qk_f1 (m + 1) (qk_tb (m + 1))) (qk_tb (m + 1)) = true := by decide +kernel
/-- the checks of 7 points, cut by a selector -/
noncomputable def qk_se (f : Nat → List Nat → Nat → Bool) (s : Nat → Bool) : Bool := qd_la (fun e => qd_bi (s e) (f 7 qk_t7 e) true) qk_t7
end
section
theorem qk_u7 : qd_la (qk_u1 7 qk_t7) qk_t7 = true := by decide +kernel
theorem qk_k7 : qd_la (qk_k1 7 qk_t7) qk_t7 = true := by decide +kernel
theorem qk_c7 : qd_la (qk_c1 7 qk_t7) qk_t7 = true := by decide +kernel
end
section
/-! 06: what the checks say of the places -/
theorem qf_s {n : Nat} (h1 : 1 ≤ n) (h7 : n ≤ 7) : ∃ m, m < 7 ∧ n = m + 1 := ⟨n - 1, by omega, by omega⟩
theorem qf_la {f : Nat → Nat → Bool} (h : ∀ m, m < 7 → qd_la (f (m + 1)) (qd_T (m + 1)) = true) {n c : Nat} (h1 : 1 ≤ n) (h7 : n ≤ 7) (hc : c ∈ qd_T n) : f n c = true := by
  obtain ⟨m, hm, rfl⟩ := qf_s h1 h7
  exact qd_la_iff.mp (h m hm) c hc
section
variable {n k : Nat}
theorem qf_N1 (h1 : 1 ≤ n) (h7 : n ≤ 7) : 1 ≤ qd_N n ∧ qd_N n ≤ 877 := by
  obtain ⟨m, hm, rfl⟩ := qf_s h1 h7
  have h := qk_len m hm
  rw [Nat.ble_eq, Nat.ble_eq] at h
  exact h
theorem qf_lt (h1 : 1 ≤ n) (h7 : n ≤ 7) (hk : k < qd_N n) : qd_t n k < 8 ^ n := by
  have h := qf_la (f := fun n c => Nat.blt c (Nat.pow 8 n)) qk_lt h1 h7 (qd_t_in hk)
  rw [Nat.blt_eq] at h
  exact h
theorem qf_rg (h1 : 1 ≤ n) (h7 : n ≤ 7) (hk : k < qd_N n) {i : Nat} (hi : i < n) : qd_g (qd_t n k) i ≤ qd_bf (qd_g (qd_t n k)) i := by
  have h := qf_la (f := fun n c => qd_al (fun i => Nat.ble (qd_g c i) (qd_bf (qd_g c) i)) n) qk_rg h1 h7 (qd_t_in hk)
  rw [qd_al_iff] at h
  have := h i hi
  rw [Nat.ble_eq] at this
  exact this
theorem qf_d7 (h1 : 1 ≤ n) (h7 : n ≤ 7) (hk : k < qd_N n) {i : Nat} (hi : i < n) : qd_g (qd_t n k) i < 7 := by
  have h := qf_la (f := fun n c => qd_al (fun i => Nat.blt (qd_g c i) 7) n) qk_d7 h1 h7 (qd_t_in hk)
  rw [qd_al_iff] at h
  have := h i hi
  rw [Nat.blt_eq] at this
  exact this
theorem qf_pk (h1 : 1 ≤ n) (h7 : n ≤ 7) (hk : k < qd_N n) : qd_pk n (qd_g (qd_t n k)) = qd_t n k := by
  have h := qf_la (f := fun n c => Nat.beq (qd_pk n (qd_g c)) c) qk_pk h1 h7 (qd_t_in hk)
  rw [Nat.beq_eq] at h
  exact h
theorem qf_cd (h1 : 1 ≤ n) (h7 : n ≤ 7) (hk : k < qd_N n) : qd_cd n (qd_t n k) n = qd_t n k := by
  have h := qf_la (f := fun n c => Nat.beq (qd_cd n c n) c) qk_cd h1 h7 (qd_t_in hk)
  rw [Nat.beq_eq] at h
  exact h
theorem qf_md (h1 : 1 ≤ n) (h7 : n ≤ 7) (hk : k < qd_N n) : qd_md n (qd_t n k) n + 1 = qd_b n (qd_t n k) := by
  have h := qf_la (f := fun n c => Nat.beq (Nat.succ (qd_md n c n)) (qd_b n c)) qk_md h1 h7 (qd_t_in hk)
  rw [Nat.beq_eq] at h
  exact h
theorem qf_rk (h1 : 1 ≤ n) (h7 : n ≤ 7) (hk : k < qd_N n) : qd_rk n (qd_t n k) = k := by
  obtain ⟨m, hm, rfl⟩ := qf_s h1 h7
  have h := qd_mapAt (qk_le_eq (qk_rk m hm)) hk
  rw [List.getD_eq_getElem?_getD (l := List.range _), List.getElem?_range hk] at h
  exact h
theorem qf_po (h1 : 1 ≤ n) (h7 : n ≤ 7) (hk : k < qd_N n) : (qd_po n k n).1 = qd_t n k := by
  obtain ⟨m, hm, rfl⟩ := qf_s h1 h7
  have h := qd_mapAt (k := k) (qk_le_eq (qk_po m hm)) (by rw [List.length_range]; exact hk)
  rw [List.getD_eq_getElem?_getD (l := List.range _), List.getElem?_range hk] at h
  exact h
theorem qf_inj (h1 : 1 ≤ n) (h7 : n ≤ 7) {a b : Nat} (ha : a < qd_N n) (hb : b < qd_N n) (h : qd_t n a = qd_t n b) : a = b := by
  rw [← qf_rk h1 h7 ha, ← qf_rk h1 h7 hb, h]
theorem qf_minj (h1 : 1 ≤ n) (h7 : n ≤ 7) {a b : Nat} (ha : a < qd_N n) (hb : b < qd_N n) (h : qd_m n (qd_t n a) = qd_m n (qd_t n b)) : a = b := by
  have e := fun k hk => qf_la (f := fun n c => Nat.beq (qd_rc n (qd_m n c)) c) qk_rc h1 h7 (qd_t_in (n := n) (k := k) hk)
  have ea := e a ha
  have eb := e b hb
  rw [Nat.beq_eq] at ea eb
  exact qf_inj h1 h7 ha hb (by rw [← ea, ← eb, h])
/-- the rows one after another; behind the last one 8^n -/
theorem qf_nx (h1 : 1 ≤ n) (h7 : n ≤ 7) (hk : k < qd_N n) : qd_nx n (qd_t n k) = if k + 1 < qd_N n then qd_t n (k + 1) else 8 ^ n := by
  obtain ⟨m, hm, rfl⟩ := qf_s h1 h7
  have h := qd_mapAt (qk_le_eq (qk_nx m hm)) hk
  rw [List.getD_eq_getElem?_getD (l := List.drop _ _), List.getElem?_drop, List.getElem?_append, Nat.add_comm 1 k] at h
  rw [show qd_nx (m + 1) (qd_t (m + 1) k) = qd_nx (m + 1) ((qd_T (m + 1)).getD k 0) from rfl, h]
  by_cases hl : k + 1 < qd_N (m + 1)
  · rw [if_pos hl, if_pos (show k + 1 < (qd_T (m + 1)).length from hl)]
    unfold qd_t
    rw [List.getD_eq_getElem?_getD]
  · rw [if_neg hl, if_neg (show ¬ k + 1 < (qd_T (m + 1)).length from hl)]
    have e : k + 1 - (qd_T (m + 1)).length = 0 := by
      have : k < (qd_T (m + 1)).length := hk
      omega
    rw [e]
    rfl
theorem qf_t0 (h1 : 1 ≤ n) (h7 : n ≤ 7) : qd_t n 0 = 0 := by
  obtain ⟨m, hm, rfl⟩ := qf_s h1 h7
  have h := qk_t0 m hm
  rw [Nat.beq_eq] at h
  have hl : 0 < (qd_T (m + 1)).length := (qf_N1 (n := m + 1) (by omega) (by omega)).1
  unfold qd_t
  rw [List.getD_eq_getElem?_getD, List.getElem?_eq_getElem hl] at h ⊢
  exact h
theorem qf_tz (h1 : 1 ≤ n) (h7 : n ≤ 7) {i : Nat} (hi : i < n) : qd_g (qd_t n (qd_N n - 1)) i = i := by
  obtain ⟨m, hm, rfl⟩ := qf_s h1 h7
  have h := qd_al_iff.mp (qk_tz m hm) i hi
  rw [Nat.beq_eq] at h
  exact h
/-- entries -/
theorem qf_tb (h1 : 1 ≤ n) (h7 : n ≤ 7) : (qd_T n).map (qd_en n) = qk_tb n := by
  obtain ⟨m, hm, rfl⟩ := qf_s h1 h7
  exact qk_le_eq (qk_tbl m hm)
theorem qf_en (h1 : 1 ≤ n) (h7 : n ≤ 7) (hk : k < qd_N n) : qd_en n (qd_t n k) ∈ qk_tb n := by
  rw [← qf_tb h1 h7]
  exact List.mem_map.mpr ⟨_, qd_t_in hk, rfl⟩
theorem qf_ne (h1 : 1 ≤ n) (h7 : n ≤ 7) {a : Nat} (ha : a ∈ qk_tb n) : ∃ k, k < qd_N n ∧ a = qd_en n (qd_t n k) := by
  rw [← qf_tb h1 h7] at ha
  obtain ⟨c, hc, rfl⟩ := List.mem_map.mp ha
  obtain ⟨k, hk, rfl⟩ := qd_in_t hc
  exact ⟨k, hk, rfl⟩
end
/-- place p is finer than place q -/
def qd_F (n p q : Nat) : Prop := qd_m n (qd_t n p) &&& qd_m n (qd_t n q) = qd_m n (qd_t n p)
theorem qf_F {n p q : Nat} (h7 : n ≤ 7) : qd_F n p q ↔ ∀ i j, i < j → j < n → qd_g (qd_t n p) i = qd_g (qd_t n p) j → qd_g (qd_t n q) i = qd_g (qd_t n q) j := by
  unfold qd_F qd_m
  rw [qd_pm_le (by omega)]
  constructor
  · intro h i j hi hj e
    have := h i j hi hj (by unfold qd_rl; rw [Nat.beq_eq]; exact e)
    unfold qd_rl at this
    rw [Nat.beq_eq] at this
    exact this
  · intro h i j hi hj e
    unfold qd_rl at e ⊢
    rw [Nat.beq_eq] at e ⊢
    exact h i j hi hj e
theorem qd_F_refl (n p : Nat) : qd_F n p p := Nat.and_self _
theorem qd_F_trans {n p q r : Nat} (h7 : n ≤ 7) (h : qd_F n p q) (h' : qd_F n q r) : qd_F n p r := by
  rw [qf_F h7] at *
  exact fun i j hi hj e => h' i j hi hj (h i j hi hj e)
end
section
/-! 07: what the checks say of uncross, complement, uncrossed, interval, sign, full chains -/
section
variable {n k : Nat}
theorem qf_ck {f : Nat → List Nat → Nat → Bool} (h6 : ∀ m, m < 6 → qd_la (f (m + 1) (qk_tb (m + 1))) (qk_tb (m + 1)) = true) (h7' : qd_la (f 7 qk_t7) qk_t7 = true)
    (h1 : 1 ≤ n) (h7 : n ≤ 7) (hk : k < qd_N n) : f n (qk_tb n) (qd_en n (qd_t n k)) = true := by
  have hm := qf_en h1 h7 hk
  by_cases e : n = 7
  · subst e
    exact qd_la_iff.mp h7' _ hm
  · obtain ⟨m, rfl⟩ : ∃ m, n = m + 1 := ⟨n - 1, by omega⟩
    exact qd_la_iff.mp (h6 m (by omega)) _ hm
theorem qf_x0 (h7 : n ≤ 7) {c : Nat} : qd_eX (qd_en n c) = 0 ↔ qd_x n c = false := by
  rw [(qd_en_all (n := n) (c := c) (by omega)).2.2.1]
  cases qd_x n c with
  | true => exact ⟨fun h => absurd h (by decide), fun h => absurd h (by decide)⟩
  | false => exact ⟨fun _ => rfl, fun _ => rfl⟩
theorem qf_u (h1 : 1 ≤ n) (h7 : n ≤ 7) (hk : k < qd_N n) : ∃ q, q < qd_N n ∧ qd_m n (qd_t n q) = qd_m n (qd_un n (qd_t n k) n) ∧ qd_x n (qd_t n q) = false ∧ qd_F n k q ∧
    ∀ b, b < qd_N n → qd_x n (qd_t n b) = false → qd_F n k b → b = q ∨ qd_b n (qd_t n b) < qd_b n (qd_t n q) := by
  have h8 : n < 8 := by omega
  obtain ⟨a, ha, e1, e2, e3, e4⟩ := qk_u1_to (qf_ck qk_u6 qk_u7 h1 h7 hk)
  obtain ⟨q, hq, rfl⟩ := qf_ne h1 h7 ha
  rw [(qd_en_all h8).1, (qd_en_all h8).2.2.2] at e1
  rw [qf_x0 h7] at e2
  rw [(qd_en_all h8).1, (qd_en_all h8).1] at e3
  refine ⟨q, hq, e1, e2, e3, fun b hb hx hf => ?_⟩
  have := e4 _ (qf_en h1 h7 hb) ((qf_x0 h7).mpr hx) (by rw [(qd_en_all h8).1, (qd_en_all h8).1]; exact hf)
  rw [(qd_en_all h8).1, (qd_en_all h8).1, (qd_en_all h8).2.1, (qd_en_all h8).2.1] at this
  rcases this with h | h
  · exact Or.inl (qf_minj h1 h7 hb hq h)
  · exact Or.inr h
theorem qf_k (h1 : 1 ≤ n) (h7 : n ≤ 7) (hk : k < qd_N n) (hx : qd_x n (qd_t n k) = false) : ∃ q, q < qd_N n ∧ qd_m n (qd_t n q) = qd_m n (qd_kq n (qd_t n k)) ∧ qd_x n (qd_t n q) = false ∧
    qd_m n (qd_t n q) &&& qd_cm n (qd_t n k) = 0 ∧
    ∀ b, b < qd_N n → qd_x n (qd_t n b) = false → qd_m n (qd_t n b) &&& qd_cm n (qd_t n k) = 0 → b = q ∨ qd_b n (qd_t n q) < qd_b n (qd_t n b) := by
  have h8 : n < 8 := by omega
  obtain ⟨a, ha, e1, e2, e3, e4⟩ := qk_k1_to (qf_ck qk_k6 qk_k7 h1 h7 hk) ((qf_x0 h7).mpr hx)
  obtain ⟨q, hq, rfl⟩ := qf_ne h1 h7 ha
  rw [(qd_en_all h8).1, (qd_en_all h8).2.2.2] at e1
  rw [qf_x0 h7] at e2
  rw [(qd_en_all h8).1, (qd_en_all h8).2.2.2] at e3
  refine ⟨q, hq, e1, e2, e3, fun b hb hx hf => ?_⟩
  have := e4 _ (qf_en h1 h7 hb) ((qf_x0 h7).mpr hx) (by rw [(qd_en_all h8).1, (qd_en_all h8).2.2.2]; exact hf)
  rw [(qd_en_all h8).1, (qd_en_all h8).1, (qd_en_all h8).2.1, (qd_en_all h8).2.1] at this
  rcases this with h | h
  · exact Or.inl (qf_minj h1 h7 hb hq h)
  · exact Or.inr h
/-- finer, reckoned -/
noncomputable def qd_Fb (n p q : Nat) : Bool := Nat.beq (Nat.land (qd_m n (qd_t n p)) (qd_m n (qd_t n q))) (qd_m n (qd_t n p))
theorem qd_Fb_iff {p q : Nat} : qd_Fb n p q = true ↔ qd_F n p q := by
  unfold qd_Fb qd_F
  rw [Nat.beq_eq]
  exact Iff.rfl
theorem qf_c (h1 : 1 ≤ n) (h7 : n ≤ 7) (hk : k < qd_N n) (hx : qd_x n (qd_t n k) = false) :
    qd_sm (fun b => qd_bi (qd_bi (qd_x n (qd_t n b)) false (qd_Fb n b k)) 1 0) (qd_N n) = qd_uc n (qd_t n k) n := by
  have h8 : n < 8 := by omega
  have h := qk_c1_to (qf_ck qk_c6 qk_c7 h1 h7 hk) ((qf_x0 h7).mpr hx)
  rw [← qf_tb h1 h7, qd_cs_sm, (qd_en_all h8).2.2.2] at h
  rw [← h]
  refine qd_smC (fun b hb => ?_)
  show qd_bi (qd_bi (qd_x n (qd_t n b)) false (qd_Fb n b k)) 1 0 = qd_bi (qd_bi (Nat.beq (qd_eX (qd_en n (qd_t n b))) 0) (Nat.beq (Nat.land (qd_eM (qd_en n (qd_t n b))) (qd_eM (qd_en n (qd_t n k)))) (qd_eM (qd_en n (qd_t n b)))) false) 1 0
  rw [(qd_en_all h8).1, (qd_en_all h8).1, (qd_en_all h8).2.2.1]
  cases qd_x n (qd_t n b) <;> rfl
/-- the recursion of sign and of full chains, by places: V the value, cmp which places go before -/
theorem qf_h {V : (Nat → Nat) → Nat} {cmp fin : Nat → Nat → Bool} {q : Nat} (h1 : 1 ≤ n) (h7 : n ≤ 7)
    (hc : ∀ k, k < qd_N n → qk_h1 V cmp fin n (qk_tb n) (qd_en n (qd_t n k)) = true) (hk : k < qd_N n) (hq : q < qd_N n) (hf : qd_F n k q) :
    qd_b n (qd_t n q) ≤ qd_b n (qd_t n k) ∧ (q = k → V (qd_pt n (qd_t n k) (qd_t n q)) = 1) ∧
    (¬ q = k → fin (qd_sm (fun s => qd_bi (qd_bi (qd_Fb n k s) (qd_bi (qd_Fb n s q) (cmp (qd_b n (qd_t n s)) (qd_b n (qd_t n q))) false) false) (V (qd_pt n (qd_t n k) (qd_t n s))) 0) (qd_N n)) (V (qd_pt n (qd_t n k) (qd_t n q))) = true) := by
  have h8 : n < 8 := by omega
  have h := qk_h1_to (hc k hk) _ (qf_en h1 h7 hq) (by rw [(qd_en_all h8).1, (qd_en_all h8).1]; exact hf)
  rw [← qf_tb h1 h7, qd_cs_sm, (qd_en_all h8).2.2.2, (qd_en_all h8).2.2.2, (qd_en_all h8).2.1, (qd_en_all h8).2.1, (qd_en_all h8).1, (qd_en_all h8).1] at h
  refine ⟨h.1, fun e => h.2.1 (by rw [e]), fun e => ?_⟩
  have h2 := h.2.2 (fun em => e (qf_minj h1 h7 hq hk em))
  refine Eq.trans (congrArg (fun z => fin z (V (qd_pt n (qd_t n k) (qd_t n q)))) (qd_smC (fun b hb => ?_))) h2
  show _ = qd_bi (qd_bi (Nat.beq (Nat.land _ (qd_eM (qd_en n (qd_t n b)))) _) (qd_bi (Nat.beq (Nat.land (qd_eM (qd_en n (qd_t n b))) _) (qd_eM (qd_en n (qd_t n b)))) (cmp (qd_eB (qd_en n (qd_t n b))) _) false) false) (V (qd_pt n (qd_t n k) (qd_eC (qd_en n (qd_t n b))))) 0
  rw [(qd_en_all h8).1, (qd_en_all h8).2.1, (qd_en_all h8).2.2.2]
  rfl
end
/-- the row of 2 n points: points 2 i by c, 2 i + 1 by d -/
noncomputable def qd_R2 (c d : Nat) (x y : Nat) : Bool :=
  qd_bi (Nat.beq (Nat.mod x 2) (Nat.mod y 2)) (qd_bi (Nat.beq (Nat.mod x 2) 0) (qd_rl c (Nat.div x 2) (Nat.div y 2)) (qd_rl d (Nat.div x 2) (Nat.div y 2))) false
theorem qd_cf_iff {n c i j : Nat} : qd_cf n c i j = true ↔ ∃ a b, a < b ∧ b < n ∧ qd_rl c a b = true ∧ ((a ≤ i ∧ i < b ∧ b ≤ j) ∨ (i < a ∧ a ≤ j ∧ j < b)) := by
  unfold qd_cf
  simp only [qd_ex_iff, qd_biAnd, qd_biOr, Nat.blt_eq, Nat.ble_eq]
  constructor
  · rintro ⟨a, ha, b, hb, hab, hr, h⟩
    exact ⟨a, b, hab, hb, hr, h⟩
  · rintro ⟨a, b, hab, hb, hr, h⟩
    exact ⟨a, by omega, b, hb, hab, hr, h⟩
theorem qd_R2_iff {c d x y : Nat} : qd_R2 c d x y = true ↔ (x % 2 = 0 ∧ y % 2 = 0 ∧ qd_rl c (x / 2) (y / 2) = true) ∨ (x % 2 = 1 ∧ y % 2 = 1 ∧ qd_rl d (x / 2) (y / 2) = true) := by
  unfold qd_R2
  rw [qd_biAnd, Nat.beq_eq]
  have e1 : ∀ a, Nat.mod a 2 = a % 2 := fun _ => rfl
  have e2 : ∀ a, Nat.div a 2 = a / 2 := fun _ => rfl
  simp only [e1, e2]
  by_cases h : x % 2 = 0
  · rw [qd_bi_t (by rw [Nat.beq_eq]; exact h)]
    constructor
    · rintro ⟨h1, h2⟩
      exact Or.inl ⟨h, by omega, h2⟩
    · rintro (⟨h1, h2, h3⟩ | ⟨h1, h2, h3⟩)
      · exact ⟨by omega, h3⟩
      · omega
  · rw [qd_bi_f (by rw [Nat.beq_eq]; exact h)]
    constructor
    · rintro ⟨h1, h2⟩
      exact Or.inr ⟨by omega, by omega, h2⟩
    · rintro (⟨h1, h2, h3⟩ | ⟨h1, h2, h3⟩)
      · omega
      · exact ⟨by omega, h3⟩
theorem qd_cr2 {n c d : Nat} (hn : n < 8) : qd_cr (qd_R2 c d) (2 * n) = true ↔ qd_x n c = true ∨ qd_x n d = true ∨ ¬ qd_m n d &&& qd_cm n c = 0 := by
  have ec : ¬ qd_m n d &&& qd_cm n c = 0 ↔ ∃ i j, i < j ∧ j < n ∧ qd_rl d i j = true ∧ qd_cf n c i j = true := by
    unfold qd_m qd_cm
    rw [qd_pm_0 hn]
    constructor
    · intro h
      refine Classical.byContradiction (fun hh => h (fun i j hi hj hd hc => hh ⟨i, j, hi, hj, hd, hc⟩))
    · rintro ⟨i, j, hi, hj, hd, hc⟩ h
      exact h i j hi hj hd hc
  rw [ec]
  unfold qd_x
  rw [qd_cr_iff, qd_cr_iff, qd_cr_iff]
  constructor
  · rintro ⟨x, y, z, w, hxy, hyz, hzw, hw, hnR, hR1, hR2⟩
    rw [qd_R2_iff] at hnR hR1 hR2
    rcases hR1 with ⟨x0, z0, hr1⟩ | ⟨x1, z1, hr1⟩
    · rcases hR2 with ⟨y0, w0, hr2⟩ | ⟨y1, w1, hr2⟩
      · exact Or.inl ⟨x / 2, y / 2, z / 2, w / 2, by omega, by omega, by omega, by omega, fun h => hnR (Or.inl ⟨x0, y0, h⟩), hr1, hr2⟩
      · exact Or.inr (Or.inr ⟨y / 2, w / 2, by omega, by omega, hr2, qd_cf_iff.mpr ⟨x / 2, z / 2, by omega, by omega, hr1, Or.inl ⟨by omega, by omega, by omega⟩⟩⟩)
    · rcases hR2 with ⟨y0, w0, hr2⟩ | ⟨y1, w1, hr2⟩
      · exact Or.inr (Or.inr ⟨x / 2, z / 2, by omega, by omega, hr1, qd_cf_iff.mpr ⟨y / 2, w / 2, by omega, by omega, hr2, Or.inr ⟨by omega, by omega, by omega⟩⟩⟩)
      · exact Or.inr (Or.inl ⟨x / 2, y / 2, z / 2, w / 2, by omega, by omega, by omega, by omega, fun h => hnR (Or.inr ⟨x1, y1, h⟩), hr1, hr2⟩)
  · have d0 : ∀ a, 2 * a % 2 = 0 := fun a => by omega
    have d1 : ∀ a, (2 * a + 1) % 2 = 1 := fun a => by omega
    have q0 : ∀ a, 2 * a / 2 = a := fun a => by omega
    have q1 : ∀ a, (2 * a + 1) / 2 = a := fun a => by omega
    rintro (⟨i, j, k, l, hij, hjk, hkl, hl, h1, h2, h3⟩ | ⟨i, j, k, l, hij, hjk, hkl, hl, h1, h2, h3⟩ | ⟨i, j, hij, hj, hd, hc⟩)
    · refine ⟨2 * i, 2 * j, 2 * k, 2 * l, by omega, by omega, by omega, by omega, ?_, ?_, ?_⟩
      · rw [qd_R2_iff, d0, d0, q0, q0]
        rintro (⟨_, _, h⟩ | ⟨h, _⟩)
        · exact h1 h
        · omega
      · rw [qd_R2_iff, d0, d0, q0, q0]
        exact Or.inl ⟨rfl, rfl, h2⟩
      · rw [qd_R2_iff, d0, d0, q0, q0]
        exact Or.inl ⟨rfl, rfl, h3⟩
    · refine ⟨2 * i + 1, 2 * j + 1, 2 * k + 1, 2 * l + 1, by omega, by omega, by omega, by omega, ?_, ?_, ?_⟩
      · rw [qd_R2_iff, d1, d1, q1, q1]
        rintro (⟨h, _⟩ | ⟨_, _, h⟩)
        · omega
        · exact h1 h
      · rw [qd_R2_iff, d1, d1, q1, q1]
        exact Or.inr ⟨rfl, rfl, h2⟩
      · rw [qd_R2_iff, d1, d1, q1, q1]
        exact Or.inr ⟨rfl, rfl, h3⟩
    · rw [qd_cf_iff] at hc
      obtain ⟨a, b, hab, hb, hr, (⟨h1, h2, h3⟩ | ⟨h1, h2, h3⟩)⟩ := hc
      · refine ⟨2 * a, 2 * i + 1, 2 * b, 2 * j + 1, by omega, by omega, by omega, by omega, ?_, ?_, ?_⟩
        · rw [qd_R2_iff, d0, d1]
          rintro (⟨_, h, _⟩ | ⟨h, _⟩) <;> omega
        · rw [qd_R2_iff, d0, d0, q0, q0]
          exact Or.inl ⟨rfl, rfl, hr⟩
        · rw [qd_R2_iff, d1, d1, q1, q1]
          exact Or.inr ⟨rfl, rfl, hd⟩
      · refine ⟨2 * i + 1, 2 * a, 2 * j + 1, 2 * b, by omega, by omega, by omega, by omega, ?_, ?_, ?_⟩
        · rw [qd_R2_iff, d1, d0]
          rintro (⟨h, _⟩ | ⟨_, h, _⟩) <;> omega
        · rw [qd_R2_iff, d1, d1, q1, q1]
          exact Or.inr ⟨rfl, rfl, hd⟩
        · rw [qd_R2_iff, d0, d0, q0, q0]
          exact Or.inl ⟨rfl, rfl, hr⟩
end
section
/-! 10: the class's private methods -/
theorem qx_L (W : Nat → Nat → Prop) (I : Nat → Prop) (e i0 : Nat) (hi : i0 ≤ e) (h0 : I i0) (hx : ∀ n, I e → W (n + 1) e)
    (hs : ∀ n i, i < e → I i → (I (i + 1) → W n (i + 1)) → W (n + 1) i) : ∃ n, W n i0 :=
  pk_loop (σ := Unit) (fun n i _ => W n i) (fun i _ => I i) e i0 () hi h0 (fun n _ h => hx n h) (fun n i _ hl hI ih => hs n i hl hI (fun h => ih () h))
theorem qx_bc {x y x' y' : Int32} {A B : Prop} (ex : x = x') (ey : y = y') (a : x' = y' → A) (b : ¬ x' = y' → B) : (x = y → A) ∧ (¬ x = y → B) := by
  subst ex
  subst ey
  exact ⟨a, b⟩
theorem qx_c (a : Nat → Int32) {k : Nat} (h : k < 877) : a (nI k).toNatClampNeg = a k := by
  rw [nI_clamp (by omega)]
theorem qx_i7 {k : Nat} (h : k < 7) : vp_in (nI k) 7 := vp_in_nI h (by omega)
theorem qx_le {n : Nat} (h : n < 877) : nI n ≤ nI n := nI_le (Nat.le_refl n) (by omega)
theorem qx_ge {i n : Nat} (h : i < n) (hn : n < 878) : ¬ nI n ≤ nI i := nI_ge h (by omega)
/-- numbers by Booleans -/
def qx_b (b : Bool) : Int32 := if b = true then 1 else 0
theorem qx_bt {b : Bool} (h : b = true) : qx_b b = 1 := by rw [h]; rfl
theorem qx_bf {b : Bool} (h : ¬ b = true) : qx_b b = 0 := by
  cases b with
  | true => exact absurd rfl h
  | false => rfl
section
variable {n : Nat} {N L E : Nat → Int32}
theorem qx_elT {post : Int32 → Prop} {u : SX} {e : Nat} (he : e < 2) (h : post 1) : wpX_isElement post u (nI e) := by
  obtain ⟨f, a, b, c⟩ := u
  show ((nI e = 0 → post 1) ∧ (¬ nI e = 0 → ((nI e = 1 → post 1) ∧ (¬ nI e = 1 → post 0))))
  rcases (show e = 0 ∨ e = 1 by omega) with rfl | rfl
  · exact br_t rfl h
  · exact br_f (by decide) (br_t rfl h)
theorem qx_elF {post : Int32 → Prop} {u : SX} {e : Int32} (h0 : ¬ e = 0) (h1 : ¬ e = 1) (h : post 0) : wpX_isElement post u e := by
  obtain ⟨f, a, b, c⟩ := u
  exact br_f h0 (br_f h1 h)
theorem qx_ptT {post : Int32 → Prop} {i : Nat} (h7 : n ≤ 7) (hi : i < n) (h : post 1) : wpX_isPoint post (nI n, N, L, E) (nI i) :=
  br_f (nI_pos (by omega)) (br_f (qx_ge hi (by omega)) h)
theorem qx_ptF {post : Int32 → Prop} {i : Int32} (hi : i < 0 ∨ nI n ≤ i) (h : post 0) : wpX_isPoint post (nI n, N, L, E) i :=
  br_c (fun _ => h) (fun h0 => br_t (hi.resolve_left h0) h)
theorem qx_num {post : Int32 → Prop} {f : Int32} {e i : Nat} (he : e < 2) (hi : i < 7) (h : post (N (e * 7 + i))) : wpX_numberOf post (f, N, L, E) (nI e) (nI i) := by
  have e1 : nI e * 7 + nI i = nI (e * 7 + i) := by
    rw [show (7 : Int32) = nI 7 from rfl, pk_mul, nI_add]
  show vp_in (nI e * 7 + nI i) 14 ∧ post (N (nI e * 7 + nI i).toNatClampNeg)
  rw [e1, qx_c N (by omega)]
  exact ⟨vp_in_nI (by omega) (by omega), h⟩
theorem qx_first {post : Int32 → Prop} {f : Int32} {i : Nat} (hi : i < 7) (hA : ∀ j, j < i → L j = L i → post (nI j)) (hB : (∀ k, k < i → ¬ L k = L i) → post (nI i)) :
    wpX_firstAlike post (f, N, L, E) (nI i) := by
  show ∃ m, wX_firstAlike_2 post (nI i) f N L E m (nI 0)
  refine qx_L (fun m j => wX_firstAlike_2 post (nI i) f N L E m (nI j)) (fun j => ∀ k, k < j → ¬ L k = L i) i 0 (Nat.zero_le _) (fun k hk => absurd hk (Nat.not_lt_zero k)) ?_ ?_
  · intro m hI
    exact br_t (qx_le (by omega)) (hB hI)
  · intro m j hj hI ih
    refine br_f (qx_ge hj (by omega)) ⟨qx_i7 (by omega), qx_i7 hi, ?_⟩
    exact qx_bc (qx_c L (by omega)) (qx_c L (by omega)) (fun e => hA j hj e) (fun e => nm_r (nI_1 j) (ih (lt_s hI e)))
theorem qd_rg_lt {D : Nat → Nat} : ∀ {i : Nat}, (∀ j, j < i → D j ≤ qd_bf D j) → ∀ j, j < i → D j < qd_bf D i := by
  intro i
  induction i with
  | zero => intro _ j hj; omega
  | succ i ih =>
    intro h j hj
    rw [qd_bfS]
    have hi := h i (by omega)
    by_cases e : Nat.beq (D i) (qd_bf D i) = true
    · rw [qd_bi_t e]
      rw [Nat.beq_eq] at e
      by_cases ej : j = i
      · subst ej; omega
      · have := ih (fun k hk => h k (by omega)) j (by omega)
        omega
    · rw [qd_bi_f e]
      rw [Nat.beq_eq] at e
      by_cases ej : j = i
      · subst ej; omega
      · exact ih (fun k hk => h k (by omega)) j (by omega)
/-- D with v at i -/
def qd_up (D : Nat → Nat) (i v : Nat) : Nat → Nat := fun j => if j = i then v else D j
theorem qd_up_s {D : Nat → Nat} {i v : Nat} : qd_up D i v i = v := if_pos rfl
theorem qd_up_n {D : Nat → Nat} {i v j : Nat} (h : j ≠ i) : qd_up D i v j = D j := if_neg h
theorem qd_up_bf {D : Nat → Nat} {i v j : Nat} (h : j ≤ i) : qd_bf (qd_up D i v) j = qd_bf D j :=
  qd_bfC (fun k hk => qd_up_n (by omega))
/-- what takeLabels has done before point i -/
def qx_TI (n : Nat) (N L : Nat → Int32) (e i : Nat) (s : Int32 × (Nat → Int32)) : Prop :=
  ∃ D : Nat → Nat, s.1 = nI (qd_bf D i) ∧ (∀ j, j < i → s.2 (e * 7 + j) = nI (D j)) ∧ (∀ j, (∀ k, k < i → ¬ j = e * 7 + k) → s.2 j = N j) ∧
    (∀ j, j < i → D j ≤ qd_bf D j) ∧ (∀ j k, j < i → k < i → (D j = D k ↔ L j = L k))
theorem qx_TI_step {e i v : Nat} {D : Nat → Nat} {N0 : Nat → Int32} {x : Int32}
    (h2 : ∀ j, j < i → N0 (e * 7 + j) = nI (D j)) (h3 : ∀ j, (∀ k, k < i → ¬ j = e * 7 + k) → N0 j = N j)
    (h4 : ∀ j, j < i → D j ≤ qd_bf D j) (h5 : ∀ j k, j < i → k < i → (D j = D k ↔ L j = L k))
    (hv : v ≤ qd_bf D i) (hx : x = nI (qd_bi (Nat.beq v (qd_bf D i)) (qd_bf D i + 1) (qd_bf D i))) (hk : ∀ j, j < i → (D j = v ↔ L j = L i)) :
    qx_TI n N L e (i + 1) (x, upd N0 (e * 7 + i) (nI v)) := by
  refine ⟨qd_up D i v, ?_, ?_, ?_, ?_, ?_⟩
  · show x = _
    rw [hx, qd_bfS, qd_up_s, qd_up_bf (Nat.le_refl i)]
  · intro j hj
    show upd N0 (e * 7 + i) (nI v) (e * 7 + j) = _
    by_cases ej : j = i
    · subst ej
      rw [pk_us, qd_up_s]
    · rw [pk_un (by omega), qd_up_n ej, h2 j (by omega)]
  · intro j hj
    show upd N0 (e * 7 + i) (nI v) j = _
    rw [pk_un (hj i (by omega)), h3 j (fun k hk => hj k (by omega))]
  · intro j hj
    by_cases ej : j = i
    · subst ej
      rw [qd_up_s, qd_up_bf (Nat.le_refl j)]
      exact hv
    · rw [qd_up_n ej, qd_up_bf (by omega)]
      exact h4 j (by omega)
  · intro j k hj hk'
    by_cases ej : j = i
    · by_cases ek : k = i
      · rw [ej, ek]
        exact ⟨fun _ => rfl, fun _ => rfl⟩
      · rw [ej, qd_up_s, qd_up_n ek]
        have := hk k (by omega)
        exact ⟨fun h => (this.mp h.symm).symm, fun h => (this.mpr h.symm).symm⟩
    · by_cases ek : k = i
      · rw [ek, qd_up_s, qd_up_n ej]
        exact hk j (by omega)
      · rw [qd_up_n ej, qd_up_n ek]
        exact h5 j k (by omega) (by omega)
theorem qx_take {post : Int32 → SX → Prop} {e : Nat} (h7 : n ≤ 7) (he : e < 2)
    (H : ∀ (N' : Nat → Int32) (D : Nat → Nat), (∀ i, i < n → N' (e * 7 + i) = nI (D i)) → (∀ j, (∀ i, i < n → ¬ j = e * 7 + i) → N' j = N j) →
      (∀ i, i < n → D i ≤ qd_bf D i) → (∀ i j, i < n → j < n → (D i = D j ↔ L i = L j)) → post (nI (qd_bf D n)) (nI n, N', L, E)) :
    wpX_takeLabels post (nI n, N, L, E) (nI e) := by
  show ∃ m, wX_takeLabels_4 post (nI e) (nI n) m 0 (nI 0) N L E
  refine pk_loop (fun m i (s : Int32 × (Nat → Int32)) => wX_takeLabels_4 post (nI e) (nI n) m s.1 (nI i) s.2 L E) (qx_TI n N L e) n 0 ((0 : Int32), N) (Nat.zero_le _) ?_ ?_ ?_
  · exact ⟨fun _ => 0, rfl, fun j hj => absurd hj (Nat.not_lt_zero j), fun _ _ => rfl, fun j hj => absurd hj (Nat.not_lt_zero j), fun j _ hj => absurd hj (Nat.not_lt_zero j)⟩
  · rintro m s ⟨D, h1, h2, h3, h4, h5⟩
    refine br_t (qx_le (by omega)) ?_
    rw [h1]
    exact H s.2 D h2 h3 h4 h5
  · rintro m i ⟨x, N0⟩ hi ⟨D, h1, h2, h3, h4, h5⟩ ih
    have h1' : x = nI (qd_bf D i) := h1
    have h2' : ∀ j, j < i → N0 (e * 7 + j) = nI (D j) := h2
    have h3' : ∀ j, (∀ k, k < i → ¬ j = e * 7 + k) → N0 j = N j := h3
    subst h1'
    have hlt := qd_rg_lt h4
    have hb : qd_bf D i ≤ i := qd_bf_le
    have e1 : nI e * 7 + nI i = nI (e * 7 + i) := by
      rw [show (7 : Int32) = nI 7 from rfl, pk_mul, nI_add]
    have hin : vp_in (nI e * 7 + nI i) 14 := by
      rw [e1]; exact vp_in_nI (by omega) (by omega)
    have hcl : (nI e * 7 + nI i).toNatClampNeg = e * 7 + i := by
      rw [e1]; exact nI_clamp (by omega)
    refine br_f (qx_ge hi (by omega)) ?_
    refine qx_first (by omega) ?_ ?_
    · intro j hj hL
      refine br_f (fun h => absurd ((nI_eq (by omega) (by omega)).mp h) (by omega)) ?_
      refine qx_num he (by omega) ?_
      refine ⟨hin, nm_r (congrArg (fun k => upd N0 k (N0 (e * 7 + j))) hcl) (nm_r (nI_1 i) ?_)⟩
      refine ih (nI (qd_bf D i), upd N0 (e * 7 + i) (N0 (e * 7 + j))) ?_
      rw [h2' j hj]
      refine qx_TI_step h2' h3' h4 h5 (Nat.le_of_lt (hlt j hj)) ?_ ?_
      · rw [qd_bi_f (by rw [Nat.beq_eq]; have := hlt j hj; omega)]
      · intro k hk
        rw [← hL]
        exact h5 k j hk hj
    · intro hno
      refine br_t rfl ⟨hin, nm_r (congrArg (fun k => upd N0 k (nI (qd_bf D i))) hcl) (nm_r (nI_1 (qd_bf D i)) (nm_r (nI_1 i) ?_))⟩
      refine ih (nI (qd_bf D i + 1), upd N0 (e * 7 + i) (nI (qd_bf D i))) ?_
      refine qx_TI_step h2' h3' h4 h5 (Nat.le_refl _) ?_ ?_
      · rw [qd_bi_t (by rw [Nat.beq_eq])]
      · intro k hk
        constructor
        · intro h
          have := hlt k hk
          omega
        · intro h
          exact absurd h (hno k hk)
theorem qx_give {post : SX → Prop} {e : Nat} (h7 : n ≤ 7) (he : e < 2) (H : ∀ L' : Nat → Int32, (∀ i, i < n → L' i = N (e * 7 + i)) → post (nI n, N, L', E)) :
    wpX_giveLabels post (nI n, N, L, E) (nI e) := by
  show ∃ m, wX_giveLabels_2 post (nI e) (nI n) m (nI 0) N L E
  refine pk_loop (fun m i (s : Nat → Int32) => wX_giveLabels_2 post (nI e) (nI n) m (nI i) N s E) (fun i s => ∀ j, j < i → s j = N (e * 7 + j)) n 0 L (Nat.zero_le _) (fun j hj => absurd hj (Nat.not_lt_zero j)) ?_ ?_
  · intro m s h
    exact br_t (qx_le (by omega)) (H s h)
  · intro m i s hi h ih
    refine br_f (qx_ge hi (by omega)) (qx_num he (by omega) ⟨qx_i7 (by omega), ?_⟩)
    refine nm_r (congrArg (fun k => upd s k (N (e * 7 + i))) (nI_clamp (by omega))) (nm_r (nI_1 i) (ih _ ?_))
    intro j hj
    by_cases ej : j = i
    · subst ej; exact pk_us
    · rw [pk_un ej]; exact h j (by omega)
theorem qx_merge {post : SX → Prop} {i j : Nat} (h7 : n ≤ 7) (hi : i < n) (hj : j < n)
    (H : ∀ L' : Nat → Int32, (∀ p, p < n → L' p = if L p = L j then L i else L p) → post (nI n, N, L', E)) : wpX_mergeLabels post (nI n, N, L, E) (nI i) (nI j) := by
  refine ⟨qx_i7 (by omega), nm_r (qx_c L (by omega)) ⟨qx_i7 (by omega), nm_r (qx_c L (by omega)) ?_⟩⟩
  show ∃ m, wX_mergeLabels_18 post (L j) (L i) (nI n) m (nI 0) N L E
  refine pk_loop (fun m p (s : Nat → Int32) => wX_mergeLabels_18 post (L j) (L i) (nI n) m (nI p) N s E)
    (fun p s => (∀ q, q < p → s q = if L q = L j then L i else L q) ∧ ∀ q, p ≤ q → s q = L q) n 0 L (Nat.zero_le _) ⟨fun q hq => absurd hq (Nat.not_lt_zero q), fun _ _ => rfl⟩ ?_ ?_
  · intro m s h
    exact br_t (qx_le (by omega)) (H s h.1)
  · intro m p s hp h ih
    refine br_f (qx_ge hp (by omega)) ⟨qx_i7 (by omega), ?_⟩
    refine qx_bc ((qx_c s (by omega)).trans (h.2 p (Nat.le_refl p))) rfl ?_ ?_
    · intro e
      refine ⟨qx_i7 (by omega), nm_r (congrArg (fun k => upd s k (L i)) (nI_clamp (by omega))) (nm_r (nI_1 p) (ih _ ⟨?_, ?_⟩))⟩
      · intro q hq
        by_cases eq : q = p
        · subst eq; rw [pk_us, if_pos e]
        · rw [pk_un eq]; exact h.1 q (by omega)
      · intro q hq
        rw [pk_un (by omega)]
        exact h.2 q (by omega)
    · intro e
      refine nm_r (nI_1 p) (ih _ ⟨?_, fun q hq => h.2 q (by omega)⟩)
      intro q hq
      by_cases eq : q = p
      · subst eq; rw [h.2 q (Nat.le_refl q), if_neg e]
      · exact h.1 q (by omega)
/-- points i < j begin a crossing of the labels L -/
def qx_LC (n : Nat) (L : Nat → Int32) (i j : Nat) : Prop := ¬ L i = L j ∧ ∃ k l, j < k ∧ k < l ∧ l < n ∧ L k = L i ∧ L l = L j
theorem qx_lcI {post J : Int32 → Prop} {i j k : Nat} (h7 : n ≤ 7) (hi : i < n) (hj : j < n) (hk : k < n)
    (H1 : L k = L i → (∃ l, k < l ∧ l < n ∧ L l = L j) → post 1) (H0 : ¬ (L k = L i ∧ ∃ l, k < l ∧ l < n ∧ L l = L j) → J (nI (k + 1))) :
    ∃ m, wX_labelsCross_34 post J (nI i) (nI j) (nI k) (nI n) N L E m (nI (k + 1)) := by
  refine qx_L (fun m l => wX_labelsCross_34 post J (nI i) (nI j) (nI k) (nI n) N L E m (nI l)) (fun l => k < l ∧ ∀ l', k < l' → l' < l → ¬ (L k = L i ∧ L l' = L j)) n (k + 1) (by omega) ⟨by omega, fun l' h h' => by omega⟩ ?_ ?_
  · intro m hI
    refine br_t (qx_le (by omega)) (nm_r (nI_1 k) (H0 ?_))
    rintro ⟨h, l, h1, h2, h3⟩
    exact hI.2 l h1 h2 ⟨h, h3⟩
  · intro m l hl hI ih
    have step : ¬ (L k = L i ∧ L l = L j) → wX_labelsCross_34 post J (nI i) (nI j) (nI k) (nI n) N L E m (nI (l + 1)) := by
      intro hn
      refine ih ⟨by omega, fun l' h h' => ?_⟩
      by_cases el : l' = l
      · rw [el]; exact hn
      · exact hI.2 l' h (by omega)
    refine br_f (qx_ge hl (by omega)) ⟨qx_i7 (by omega), qx_i7 (by omega), ?_⟩
    refine qx_bc (qx_c L (by omega)) (qx_c L (by omega)) ?_ ?_
    · intro e
      refine ⟨qx_i7 (by omega), qx_i7 (by omega), ?_⟩
      refine qx_bc (qx_c L (by omega)) (qx_c L (by omega)) ?_ ?_
      · intro e2
        exact H1 e ⟨l, hI.1, hl, e2⟩
      · intro e2
        exact nm_r (nI_1 l) (step (fun h => e2 h.2))
    · intro e
      exact nm_r (nI_1 l) (step (fun h => e h.1))
theorem qx_lc {post : Int32 → Prop} {i j : Nat} (h7 : n ≤ 7) (hi : i < j) (hj : j < n) (H1 : qx_LC n L i j → post 1) (H0 : ¬ qx_LC n L i j → post 0) :
    wpX_labelsCross post (nI n, N, L, E) (nI i) (nI j) := by
  refine ⟨qx_i7 (by omega), qx_i7 (by omega), qx_bc (qx_c L (by omega)) (qx_c L (by omega)) (fun e => H0 (fun h => h.1 e)) (fun e => nm_r (nI_1 j) ?_)⟩
  refine qx_L (fun m k => wX_labelsCross_21 post (nI i) (nI j) (nI n) N L E m (nI k)) (fun k => j < k ∧ ∀ k' l, j < k' → k' < k → k' < l → l < n → ¬ (L k' = L i ∧ L l = L j)) n (j + 1) (by omega) ⟨by omega, fun k' l h h' => by omega⟩ ?_ ?_
  · intro m hI
    refine br_t (qx_le (by omega)) (H0 ?_)
    rintro ⟨_, k, l, h1, h2, h3, h4, h5⟩
    exact hI.2 k l h1 (by omega) h2 h3 ⟨h4, h5⟩
  · intro m k hk hI ih
    refine br_f (qx_ge hk (by omega)) (nm_r (nI_1 k) ?_)
    refine qx_lcI h7 (by omega) hj hk ?_ ?_
    · rintro e2 ⟨l, h1, h2, h3⟩
      exact H1 ⟨e, k, l, hI.1, h1, h2, e2, h3⟩
    · intro hn
      refine ih ⟨by omega, fun k' l h h' h1 h2 h3 => ?_⟩
      by_cases ek : k' = k
      · subst ek
        exact hn ⟨h3.1, l, h1, h2, h3.2⟩
      · exact hI.2 k' l h (by omega) h1 h2 h3
end
end
section
/-! 11: the class's private methods over the relation -/
/-- the numbers are the digits of the codes C 0, C 1; the table of endings -/
def qx_N (n : Nat) (C : Nat → Nat) (N : Nat → Int32) : Prop := ∀ e, e < 2 → ∀ i, i < n → N (e * 7 + i) = nI (qd_g (C e) i)
def qx_E (E : Nat → Int32) : Prop := ∀ u r, u + r ≤ 7 → E (u * 8 + r) = nI (qd_eg r u)
theorem qx_eq8 {a b : Nat} (ha : a < 8) (hb : b < 8) : nI a = nI b ↔ a = b := nI_eq (by omega) (by omega)
section
variable {n : Nat} {N L E : Nat → Int32} {C : Nat → Nat}
theorem qx_nu {post : Int32 → Prop} {f : Int32} {e i : Nat} (h7 : n ≤ 7) (hN : qx_N n C N) (he : e < 2) (hi : i < n) (h : post (nI (qd_g (C e) i))) : wpX_numberOf post (f, N, L, E) (nI e) (nI i) :=
  qx_num he (by omega) (by rw [hN e he i hi]; exact h)
theorem qx_tg {post : Int32 → Prop} {f : Int32} {e i j : Nat} (h7 : n ≤ 7) (hN : qx_N n C N) (he : e < 2) (hi : i < n) (hj : j < n)
    (H1 : qd_g (C e) i = qd_g (C e) j → post 1) (H0 : ¬ qd_g (C e) i = qd_g (C e) j → post 0) : wpX_together post (f, N, L, E) (nI e) (nI i) (nI j) := by
  show wpX_numberOf (fun r1 => wpX_numberOf (fun r6 => (r1 = r6 → post 1) ∧ (¬ r1 = r6 → post 0)) (f, N, L, E) (nI e) (nI j)) (f, N, L, E) (nI e) (nI i)
  refine qx_nu h7 hN he hi (qx_nu h7 hN he hj ?_)
  exact ⟨fun h => H1 ((qx_eq8 (qd_g8 _ _) (qd_g8 _ _)).mp h), fun h => H0 (fun e => h (by rw [e]))⟩
theorem qd_rl_iff {c i j : Nat} : qd_rl c i j = true ↔ qd_g c i = qd_g c j := by
  unfold qd_rl
  rw [Nat.beq_eq]
theorem qx_LCx {c : Nat} (hL : ∀ i, i < n → L i = nI (qd_g c i)) : qd_x n c = true ↔ ∃ i j, i < j ∧ j < n ∧ qx_LC n L i j := by
  have q : ∀ i j, i < n → j < n → (L i = L j ↔ qd_g c i = qd_g c j) := fun i j hi hj => by
    rw [hL i hi, hL j hj]; exact qx_eq8 (qd_g8 _ _) (qd_g8 _ _)
  unfold qd_x
  rw [qd_cr_iff]
  simp only [qd_rl_iff]
  constructor
  · rintro ⟨i, j, k, l, h1, h2, h3, h4, h5, h6, h7⟩
    exact ⟨i, j, h1, by omega, fun h => h5 ((q i j (by omega) (by omega)).mp h), k, l, h2, h3, h4, (q k i (by omega) (by omega)).mpr h6.symm, (q l j (by omega) (by omega)).mpr h7.symm⟩
  · rintro ⟨i, j, h1, h2, h3, k, l, h4, h5, h6, h7, h8⟩
    exact ⟨i, j, k, l, h1, h4, h5, h6, fun h => h3 ((q i j (by omega) (by omega)).mpr h), ((q k i (by omega) (by omega)).mp h7).symm, ((q l j (by omega) (by omega)).mp h8).symm⟩
theorem qx_cross {post : Int32 → SX → Prop} {e : Nat} (h7 : n ≤ 7) (hN : qx_N n C N) (he : e < 2)
    (H1 : ∀ L', qd_x n (C e) = true → post 1 (nI n, N, L', E)) (H0 : ∀ L', ¬ qd_x n (C e) = true → post 0 (nI n, N, L', E)) : wpX_hasCrossing post (nI n, N, L, E) (nI e) := by
  unfold wpX_hasCrossing
  refine qx_give h7 he (fun L' hL => ?_)
  have hL' : ∀ i, i < n → L' i = nI (qd_g (C e) i) := fun i hi => by rw [hL i hi, hN e he i hi]
  have hx := qx_LCx hL'
  show ∃ m, wX_hasCrossing_7 post (nI n) N L' E m (nI 0)
  refine qx_L (fun m i => wX_hasCrossing_7 post (nI n) N L' E m (nI i)) (fun i => ∀ i' j, i' < i → i' < j → j < n → ¬ qx_LC n L' i' j) n 0 (Nat.zero_le _) (fun i' j h => absurd h (Nat.not_lt_zero i')) ?_ ?_
  · intro m hI
    refine br_t (qx_le (by omega)) (H0 L' (fun h => ?_))
    obtain ⟨i, j, h1, h2, h3⟩ := hx.mp h
    exact hI i j (by omega) h1 h2 h3
  · intro m i hi hI ih
    refine br_f (qx_ge hi (by omega)) (nm_r (nI_1 i) ?_)
    refine qx_L (fun k j => wX_hasCrossing_19 post (wX_hasCrossing_7 post (nI n) N L' E m) (nI i) (nI n) N L' E k (nI j)) (fun j => i < j ∧ ∀ j', i < j' → j' < j → ¬ qx_LC n L' i j') n (i + 1) (by omega) ⟨by omega, fun j' h h' => by omega⟩ ?_ ?_
    · intro k hJ
      refine br_t (qx_le (by omega)) (nm_r (nI_1 i) (ih ?_))
      intro i' j h1 h2 h3
      by_cases ei : i' = i
      · subst ei; exact hJ.2 j h2 h3
      · exact hI i' j (by omega) h2 h3
    · intro k j hj hJ jh
      refine br_f (qx_ge hj (by omega)) (qx_lc h7 hJ.1 hj ?_ ?_)
      · intro h
        exact br_f (by decide) (H1 L' (hx.mpr ⟨i, j, hJ.1, hj, h⟩))
      · intro h
        refine br_t rfl (nm_r (nI_1 j) (jh ⟨by omega, fun j' h1 h2 => ?_⟩))
        by_cases ej : j' = j
        · rw [ej]; exact h
        · exact hJ.2 j' h1 (by omega)
theorem qd_cl_iff {c a b : Nat} : qd_cl n c a b = true ↔ ∀ x, a ≤ x → x ≤ b → ∀ p, p < n → (p < a ∨ b < p) → ¬ qd_g c x = qd_g c p := by
  unfold qd_cl
  simp only [qd_al_iff, qd_biImp, qd_biOr, qd_no_iff, Nat.ble_eq, Nat.blt_eq, qd_rl_iff]
  constructor
  · intro h x h1 h2 p hp ho
    exact h x (by omega) h1 p hp ho
  · intro h x hx h1 p hp ho
    exact h x h1 (by omega) p hp ho
theorem qx_clI {post J : Int32 → Prop} {e a b x : Nat} (h7 : n ≤ 7) (hN : qx_N n C N) (he : e < 2) (ha : a < 8) (hb : b < n) (hx : x < n)
    (H1 : (∀ p, p < n → (p < a ∨ b < p) → ¬ qd_g (C e) x = qd_g (C e) p) → J (nI (x + 1))) (H0 : ∀ p, p < n → (p < a ∨ b < p) → qd_g (C e) x = qd_g (C e) p → post 0) :
    ∃ m, wX_isClosed_12 post J (nI e) (nI a) (nI b) (nI x) (nI n) N L E m (nI 0) := by
  refine qx_L (fun m p => wX_isClosed_12 post J (nI e) (nI a) (nI b) (nI x) (nI n) N L E m (nI p)) (fun p => ∀ q, q < p → (q < a ∨ b < q) → ¬ qd_g (C e) x = qd_g (C e) q) n 0 (Nat.zero_le _) (fun q hq => absurd hq (Nat.not_lt_zero q)) ?_ ?_
  · intro m hI
    exact br_t (qx_le (by omega)) (nm_r (nI_1 x) (H1 hI))
  · intro m p hp hI ih
    have step : ((p < a ∨ b < p) → ¬ qd_g (C e) x = qd_g (C e) p) → wX_isClosed_12 post J (nI e) (nI a) (nI b) (nI x) (nI n) N L E m (nI (p + 1)) := by
      intro hn
      refine ih (fun q hq => ?_)
      by_cases eq : q = p
      · rw [eq]; exact hn
      · exact hI q (by omega)
    have out : (p < a ∨ b < p) → wX_isClosed_38 post J (wX_isClosed_12 post J (nI e) (nI a) (nI b) (nI x) (nI n) N L E m) (nI e) (nI a) (nI b) (nI x) (nI p) 1 (nI n) N L E := by
      intro ho
      refine br_f (by decide) (qx_tg h7 hN he hx hp ?_ ?_)
      · intro h
        exact br_f (by decide) (H0 p hp ho h)
      · intro h
        exact br_t rfl (nm_r (nI_1 p) (step (fun _ => h)))
    refine br_f (qx_ge hp (by omega)) ?_
    by_cases h1 : p < a
    · exact br_t (nI_lt h1 (by omega)) (out (Or.inl h1))
    · refine br_f (nI_nlt (by omega) (by omega)) ?_
      by_cases h2 : p ≤ b
      · exact br_t (nI_le h2 (by omega)) (br_t rfl (nm_r (nI_1 p) (step (fun h => by omega))))
      · exact br_f (nI_ge (by omega) (by omega)) (out (Or.inr (by omega)))
theorem qx_cl {post : Int32 → Prop} {e a b : Nat} {a' : Int32} (h7 : n ≤ 7) (hN : qx_N n C N) (he : e < 2) (ea : a' = nI a) (hab : a ≤ b + 1) (hb : b < n)
    (H1 : qd_cl n (C e) a b = true → post 1) (H0 : ¬ qd_cl n (C e) a b = true → post 0) : wpX_isClosed post (nI n, N, L, E) (nI e) a' (nI b) := by
  subst ea
  show ∃ m, wX_isClosed_3 post (nI e) (nI a) (nI b) (nI n) N L E m (nI a)
  refine qx_L (fun m x => wX_isClosed_3 post (nI e) (nI a) (nI b) (nI n) N L E m (nI x)) (fun x => a ≤ x ∧ ∀ y, a ≤ y → y < x → ∀ p, p < n → (p < a ∨ b < p) → ¬ qd_g (C e) y = qd_g (C e) p) (b + 1) a hab ⟨Nat.le_refl a, fun y h h' => by omega⟩ ?_ ?_
  · intro m hI
    refine br_t (nI_lt (by omega) (by omega)) (H1 (qd_cl_iff.mpr (fun x h1 h2 => hI.2 x h1 (by omega))))
  · intro m x hx hI ih
    refine br_f (nI_nlt (by omega) (by omega)) ?_
    refine qx_clI h7 hN he (by omega) hb (by omega) ?_ ?_
    · intro h
      refine ih ⟨by omega, fun y h1 h2 => ?_⟩
      by_cases ey : y = x
      · rw [ey]; exact h
      · exact hI.2 y h1 (by omega)
    · intro p hp ho h
      exact H0 (fun hc => qd_cl_iff.mp hc x hI.1 (by omega) p hp ho h)
theorem qx_lpa {post : Int32 → Prop} {e j : Nat} (h7 : n ≤ 7) (hN : qx_N n C N) (he : e < 2) (hj : j < n) (H : post (nI (qd_kp n (C e) j))) : wpX_leastPartner post (nI n, N, L, E) (nI e) (nI j) := by
  show ∃ m, wX_leastPartner_2 post (nI e) (nI j) (nI n) N L E m (nI 0)
  refine qx_L (fun m i => wX_leastPartner_2 post (nI e) (nI j) (nI n) N L E m (nI i)) (fun i => ∀ k, k < i → ¬ qd_cl n (C e) (Nat.succ k) j = true) j 0 (Nat.zero_le _) (fun k hk => absurd hk (Nat.not_lt_zero k)) ?_ ?_
  · intro m hI
    refine br_t (qx_le (by omega)) ?_
    have e1 : qd_kp n (C e) j = j := qd_fi_no hI
    rw [e1] at H
    exact H
  · intro m i hi hI ih
    refine br_f (qx_ge hi (by omega)) ?_
    refine qx_cl (a := i + 1) h7 hN he (nI_1 i) (by omega) hj ?_ ?_
    · intro h
      refine br_f (by decide) ?_
      have e1 : qd_kp n (C e) j = i := qd_fi_at hI h hi
      rw [e1] at H
      exact H
    · intro h
      exact br_t rfl (nm_r (nI_1 i) (ih (lt_s hI h)))
theorem qx_bb {post : Int32 → Prop} {e m : Nat} (h7 : n ≤ 7) (hN : qx_N n C N) (he : e < 2) (hm : m ≤ n) (H : post (nI (qd_bf (qd_g (C e)) m))) : wpX_blocksBefore post (nI n, N, L, E) (nI e) (nI m) := by
  show ∃ k, wX_blocksBefore_5 post (nI e) (nI m) (nI n) N L E k (nI (qd_bf (qd_g (C e)) 0)) (nI 0)
  refine qx_L (fun k i => wX_blocksBefore_5 post (nI e) (nI m) (nI n) N L E k (nI (qd_bf (qd_g (C e)) i)) (nI i)) (fun _ => True) m 0 (Nat.zero_le _) trivial ?_ ?_
  · intro k _
    exact br_t (qx_le (by omega)) H
  · intro k i hi _ ih
    have hb : qd_bf (qd_g (C e)) i ≤ i := qd_bf_le
    have ih' := ih trivial
    refine br_f (qx_ge hi (by omega)) (qx_nu h7 hN he (by omega) ?_)
    have h8 := qd_g8 (C e) i
    by_cases h : qd_g (C e) i = qd_bf (qd_g (C e)) i
    · rw [qd_bfS, qd_bi_t (by rw [Nat.beq_eq]; exact h)] at ih'
      exact br_t (by rw [h]) (nm_r (nI_1 _) (nm_r (nI_1 i) ih'))
    · rw [qd_bfS, qd_bi_f (by rw [Nat.beq_eq]; exact h)] at ih'
      exact br_f (fun h' => h ((nI_eq (by omega) (by omega)).mp h')) (nm_r (nI_1 i) ih')
theorem qx_pi {post : Int32 → Prop} {e b : Nat} (h7 : n ≤ 7) (hN : qx_N n C N) (he : e < 2) (hb : b < 8) (H : post (nI (qd_pb n (C e) b))) : wpX_pointsIn post (nI n, N, L, E) (nI e) (nI b) := by
  show ∃ k, wX_pointsIn_5 post (nI e) (nI b) (nI n) N L E k (nI (qd_pb 0 (C e) b)) (nI 0)
  refine qx_L (fun k i => wX_pointsIn_5 post (nI e) (nI b) (nI n) N L E k (nI (qd_pb i (C e) b)) (nI i)) (fun _ => True) n 0 (Nat.zero_le _) trivial ?_ ?_
  · intro k _
    exact br_t (qx_le (by omega)) H
  · intro k i hi _ ih
    have ih' := ih trivial
    have eS : qd_pb (i + 1) (C e) b = qd_bi (Nat.beq (qd_g (C e) i) b) (qd_pb i (C e) b + 1) (qd_pb i (C e) b) := rfl
    refine br_f (qx_ge hi (by omega)) (qx_nu h7 hN he (by omega) ?_)
    by_cases h : qd_g (C e) i = b
    · rw [eS, qd_bi_t (by rw [Nat.beq_eq]; exact h)] at ih'
      exact br_t (by rw [h]) (nm_r (nI_1 _) (nm_r (nI_1 i) ih'))
    · rw [eS, qd_bi_f (by rw [Nat.beq_eq]; exact h)] at ih'
      exact br_f (fun h' => h ((qx_eq8 (qd_g8 _ _) hb).mp h')) (nm_r (nI_1 i) ih')
theorem qx_en {post : Int32 → Prop} {f : Int32} {u r : Nat} {r' : Int32} (hE : qx_E E) (er : r' = nI r) (h : u + r ≤ 7) (H : post (nI (qd_eg r u))) : wpX_endingsOf post (f, N, L, E) (nI u) r' := by
  subst er
  have e1 : nI u * 8 + nI r = nI (u * 8 + r) := by
    rw [show (8 : Int32) = nI 8 from rfl, pk_mul, nI_add]
  show vp_in (nI u * 8 + nI r) 64 ∧ post (E (nI u * 8 + nI r).toNatClampNeg)
  rw [e1, qx_c E (by omega), hE u r h]
  exact ⟨vp_in_nI (by omega) (by omega), H⟩
theorem qx_pts {post : Int32 → Prop} {b : Nat} (h7 : n ≤ 7) (hN : qx_N n C N) (hb : b < 8) (H : post (nI (qd_pt n (C 0) (C 1) b))) : wpX_partsOf post (nI n, N, L, E) (nI b) := by
  show ∃ k, wX_partsOf_7 post (nI b) (nI n) N L E k (nI (qd_pt 0 (C 0) (C 1) b)) (nI (qd_bf (qd_g (C 0)) 0)) (nI 0)
  refine qx_L (fun k i => wX_partsOf_7 post (nI b) (nI n) N L E k (nI (qd_pt i (C 0) (C 1) b)) (nI (qd_bf (qd_g (C 0)) i)) (nI i)) (fun _ => True) n 0 (Nat.zero_le _) trivial ?_ ?_
  · intro k _
    exact br_t (qx_le (by omega)) H
  · intro k i hi _ ih
    have hbf : qd_bf (qd_g (C 0)) i ≤ i := qd_bf_le
    have h8 := qd_g8 (C 0) i
    have ih' := ih trivial
    have eS : qd_pt (i + 1) (C 0) (C 1) b = qd_bi (qd_bi (Nat.beq (qd_g (C 0) i) (qd_bf (qd_g (C 0)) i)) (Nat.beq (qd_g (C 1) i) b) false) (qd_pt i (C 0) (C 1) b + 1) (qd_pt i (C 0) (C 1) b) := rfl
    refine br_f (qx_ge hi (by omega)) (qx_nu (e := 0) h7 hN (by omega) hi ?_)
    rw [eS, qd_bfS] at ih'
    by_cases h : qd_g (C 0) i = qd_bf (qd_g (C 0)) i
    · rw [qd_bi_t (b := Nat.beq (qd_g (C 0) i) (qd_bf (qd_g (C 0)) i)) (by rw [Nat.beq_eq]; exact h), qd_bi_t (b := Nat.beq (qd_g (C 0) i) (qd_bf (qd_g (C 0)) i)) (by rw [Nat.beq_eq]; exact h)] at ih'
      refine br_t (by rw [h]) (nm_r (nI_1 _) (qx_nu (e := 1) h7 hN (by omega) hi ?_))
      by_cases h2 : qd_g (C 1) i = b
      · rw [qd_bi_t (by rw [Nat.beq_eq]; exact h2)] at ih'
        exact br_t (by rw [h2]) (nm_r (nI_1 _) (nm_r (nI_1 i) ih'))
      · rw [qd_bi_f (by rw [Nat.beq_eq]; exact h2)] at ih'
        exact br_f (fun h' => h2 ((qx_eq8 (qd_g8 _ _) hb).mp h')) (nm_r (nI_1 i) ih')
    · rw [qd_bi_f (b := Nat.beq (qd_g (C 0) i) (qd_bf (qd_g (C 0)) i)) (by rw [Nat.beq_eq]; exact h), qd_bi_f (b := Nat.beq (qd_g (C 0) i) (qd_bf (qd_g (C 0)) i)) (by rw [Nat.beq_eq]; exact h), qd_biF] at ih'
      exact br_f (fun h' => h ((nI_eq (by omega) (by omega)).mp h')) (nm_r (nI_1 i) ih')
/-- element 0 is finer than element 1, by digits -/
def qx_F (n : Nat) (C : Nat → Nat) : Prop := ∀ i j, i < j → j < n → qd_g (C 0) i = qd_g (C 0) j → qd_g (C 1) i = qd_g (C 1) j
theorem qx_fin {post : Int32 → Prop} (h7 : n ≤ 7) (hN : qx_N n C N) (H1 : qx_F n C → post 1) (H0 : ¬ qx_F n C → post 0) : wpX_isFiner post (nI n, N, L, E) := by
  show ∃ m, wX_isFiner_2 post (nI n) N L E m (nI 0)
  refine qx_L (fun m i => wX_isFiner_2 post (nI n) N L E m (nI i)) (fun i => ∀ i' j, i' < i → i' < j → j < n → qd_g (C 0) i' = qd_g (C 0) j → qd_g (C 1) i' = qd_g (C 1) j) n 0 (Nat.zero_le _) (fun i' j h => absurd h (Nat.not_lt_zero i')) ?_ ?_
  · intro m hI
    exact br_t (qx_le (by omega)) (H1 (fun i j h1 h2 => hI i j (by omega) h1 h2))
  · intro m i hi hI ih
    refine br_f (qx_ge hi (by omega)) (nm_r (nI_1 i) ?_)
    refine qx_L (fun k j => wX_isFiner_14 post (wX_isFiner_2 post (nI n) N L E m) (nI i) (nI n) N L E k (nI j)) (fun j => i < j ∧ ∀ j', i < j' → j' < j → qd_g (C 0) i = qd_g (C 0) j' → qd_g (C 1) i = qd_g (C 1) j') n (i + 1) (by omega) ⟨by omega, fun j' h h' => by omega⟩ ?_ ?_
    · intro k hJ
      refine br_t (qx_le (by omega)) (nm_r (nI_1 i) (ih ?_))
      intro i' j h1 h2 h3
      by_cases ei : i' = i
      · subst ei; exact hJ.2 j h2 h3
      · exact hI i' j (by omega) h2 h3
    · intro k j hj hJ jh
      have step : (qd_g (C 0) i = qd_g (C 0) j → qd_g (C 1) i = qd_g (C 1) j) → wX_isFiner_14 post (wX_isFiner_2 post (nI n) N L E m) (nI i) (nI n) N L E k (nI (j + 1)) := by
        intro h
        refine jh ⟨by omega, fun j' h1 h2 => ?_⟩
        by_cases ej : j' = j
        · rw [ej]; exact h
        · exact hJ.2 j' h1 (by omega)
      refine br_f (qx_ge hj (by omega)) (qx_tg (e := 0) h7 hN (by omega) hi hj ?_ ?_)
      · intro h
        refine br_f (by decide) (qx_tg (e := 1) h7 hN (by omega) hi hj ?_ ?_)
        · intro h2
          exact br_f (by decide) (nm_r (nI_1 j) (step (fun _ => h2)))
        · intro h2
          exact br_t rfl (H0 (fun hF => h2 (hF i j hJ.1 hj h)))
      · intro h
        exact br_t rfl (nm_r (nI_1 j) (step (fun h' => absurd h' h)))
theorem qx_ca_ok : ∀ s, s < 7 → qd_ca s * 2 * (2 * s + 1) < 2 ^ 31 := by decide +kernel
theorem qx_ca {post : Int32 → Prop} {u : SX} {k : Nat} (hk : k ≤ 7) (H : post (nI (qd_ca k))) : wpX_catalan post u (nI k) := by
  obtain ⟨f, N, L, E⟩ := u
  show ∃ m, wX_catalan_4 post (nI k) f N L E m (nI (qd_ca 0)) (nI 0)
  refine qx_L (fun m s => wX_catalan_4 post (nI k) f N L E m (nI (qd_ca s)) (nI s)) (fun _ => True) k 0 (Nat.zero_le _) trivial ?_ ?_
  · intro m _
    exact br_t (qx_le (by omega)) H
  · intro m s hs _ ih
    have e2 : nI s + 2 = nI (s + 2) := nI_add s 2
    have hok := qx_ca_ok s (by omega)
    have eS : qd_ca (s + 1) = qd_ca s * 2 * (2 * s + 1) / (s + 2) := rfl
    refine br_f (qx_ge hs (by omega)) ⟨by rw [e2]; exact nI_ne0 (by omega) (by omega), nm_r ?_ (nm_r (nI_1 s) (ih trivial))⟩
    have e3 : 2 * nI s + 1 = nI (2 * s + 1) := by
      rw [show (2 : Int32) = nI 2 from rfl, pk_mul, nI_1]
    rw [eS, e2, e3, show (2 : Int32) = nI 2 from rfl, pk_mul, pk_mul, pk_div hok (by omega) (by omega)]
end
end
section
/-! 12: the reference's private methods -/
theorem qy_or2 (a b : Nat) : nI a ||| nI b = nI (a ||| b) := by
  apply Int32.toBitVec_inj.1
  show BitVec.ofNat 32 a ||| BitVec.ofNat 32 b = BitVec.ofNat 32 (a ||| b)
  apply BitVec.eq_of_getLsbD_eq
  intro i hi
  simp [hi]
theorem qy_and2 (a b : Nat) : nI a &&& nI b = nI (a &&& b) := by
  apply Int32.toBitVec_inj.1
  show BitVec.ofNat 32 a &&& BitVec.ofNat 32 b = BitVec.ofNat 32 (a &&& b)
  apply BitVec.eq_of_getLsbD_eq
  intro i hi
  simp [hi]
theorem qy_xor2 (a b : Nat) : nI a ^^^ nI b = nI (a ^^^ b) := by
  apply Int32.toBitVec_inj.1
  show BitVec.ofNat 32 a ^^^ BitVec.ofNat 32 b = BitVec.ofNat 32 (a ^^^ b)
  apply BitVec.eq_of_getLsbD_eq
  intro i hi
  simp [hi]
theorem qy_sh : ∀ b, b < 21 → (1 : Int32) <<< (nI b &&& 31) = nI (2 ^ b) := by decide +kernel
theorem qy_bx1 : ∀ n, n < 8 → ∀ i, i < n → ∀ j, j < n → i < j → qd_bx n i (j + 1) = qd_bx n i j + 1 := by decide +kernel
theorem qy_bxr : ∀ n, n < 8 → ∀ i, i < n → qd_bx n i n = qd_bx n (i + 1) (i + 2) := by decide +kernel
theorem qd_pjS (R : Nat → Nat → Bool) (n i z m : Nat) : qd_pj R n i z (m + 1) = qd_bi (Nat.blt i m) (qd_bi (R i m) (qd_pj R n i z m ||| 2 ^ qd_bx n i m) (qd_pj R n i z m)) (qd_pj R n i z m) := rfl
theorem qd_pj_lo {R : Nat → Nat → Bool} {n i z : Nat} : ∀ {m : Nat}, m ≤ i + 1 → qd_pj R n i z m = z := by
  intro m
  induction m with
  | zero => intro _; rfl
  | succ m ih =>
    intro h
    rw [qd_pjS, qd_bi_f (by rw [Nat.blt_eq]; omega), ih (by omega)]
/-- points alike in an array -/
def qy_R (a : Nat → Int32) (i j : Nat) : Bool := decide (a i = a j)
theorem qy_R_iff {a : Nat → Int32} {i j : Nat} : qy_R a i j = true ↔ a i = a j := decide_eq_true_iff
section
variable {n M : Nat} {cd pr cn cx fd el ro ot nu tw : Nat → Int32}
theorem qy_badF {post : Int32 → Prop} {u : SY} {e : Nat} (he : e < 2) (h : post 0) : wpY_bad post u (nI e) := by
  obtain ⟨f1, f2, a1, a2, a3, a4, a5, a6, a7, a8, a9, a10⟩ := u
  exact br_f (nI_pos (by omega)) (br_t (nI_le (b := 1) (by omega) (by omega)) h)
theorem qy_badT {post : Int32 → Prop} {u : SY} {e : Int32} (h0 : ¬ e = 0) (h1 : ¬ e = 1) (h : post 1) : wpY_bad post u e := by
  obtain ⟨f1, f2, a1, a2, a3, a4, a5, a6, a7, a8, a9, a10⟩ := u
  refine br_c (fun _ => h) (fun hn => br_f (fun hl => ?_) h)
  obtain ⟨j, hj, rfl⟩ := nI_of2 (n := 1) (M := 1) rfl hn hl
  rcases (show j = 0 ∨ j = 1 by omega) with rfl | rfl
  · exact h0 rfl
  · exact h1 rfl
theorem qy_ptF {post : Int32 → Prop} {i : Nat} (h7 : n ≤ 7) (hi : i < n) (h : post 0) : wpY_noPoint post (nI n, nI M, cd, pr, cn, cx, fd, el, ro, ot, nu, tw) (nI i) :=
  br_f (nI_pos (by omega)) (br_t (nI_lt hi (by omega)) h)
theorem qy_ptT {post : Int32 → Prop} {i : Int32} (hi : i < 0 ∨ nI n ≤ i) (h : post 1) : wpY_noPoint post (nI n, nI M, cd, pr, cn, cx, fd, el, ro, ot, nu, tw) i :=
  br_c (fun _ => h) (fun h0 => br_f (fun hl => absurd (hi.resolve_left h0) (Int32.not_le.mpr hl)) h)
theorem qy_togI {post : Int32 → Prop} {J : Int32 → Int32 → Int32 → Prop} {i z : Nat} (h7 : n ≤ 7) (hi : i < n)
    (H : J (nI (qd_pj (qy_R ro) n i z n)) (nI (qd_bx n (i + 1) (i + 2))) (nI (i + 1))) :
    ∃ m, wY_together_19 post J (nI i) (nI n) (nI M) cd pr cn cx fd el ro ot nu tw m (nI z) (nI (qd_bx n i (i + 1))) (nI (i + 1)) := by
  suffices h : ∃ m, wY_together_19 post J (nI i) (nI n) (nI M) cd pr cn cx fd el ro ot nu tw m (nI (qd_pj (qy_R ro) n i z (i + 1))) (nI (qd_bx n i (i + 1))) (nI (i + 1)) by
    rw [qd_pj_lo (Nat.le_refl _)] at h
    exact h
  refine qx_L (fun m j => wY_together_19 post J (nI i) (nI n) (nI M) cd pr cn cx fd el ro ot nu tw m (nI (qd_pj (qy_R ro) n i z j)) (nI (qd_bx n i j)) (nI j)) (fun j => i < j) n (i + 1) (by omega) (by omega) ?_ ?_
  · intro m _
    refine br_t (qx_le (by omega)) (nm_r (nI_1 i) ?_)
    rw [qy_bxr n (by omega) i hi]
    exact H
  · intro m j hj hij ih
    have hb := qd_bx_lt n (by omega) i hi j hj hij
    have ih' := ih (by omega)
    rw [qd_pjS, qd_bi_t (by rw [Nat.blt_eq]; exact hij), qy_bx1 n (by omega) i hi j hj hij] at ih'
    refine br_f (qx_ge hj (by omega)) ⟨qx_i7 (by omega), qx_i7 (by omega), qx_bc (qx_c ro (by omega)) (qx_c ro (by omega)) ?_ ?_⟩
    · intro e
      rw [qd_bi_t (qy_R_iff.mpr e)] at ih'
      exact nm_r (by rw [qy_sh _ hb, qy_or2]) (nm_r (nI_1 _) (nm_r (nI_1 j) ih'))
    · intro e
      rw [qd_bi_f (fun h => e (qy_R_iff.mp h))] at ih'
      exact nm_r (nI_1 _) (nm_r (nI_1 j) ih')
theorem qy_tog {post : Int32 → Prop} (h7 : n ≤ 7) (H : post (nI (qd_pm (qy_R ro) n))) : wpY_together post (nI n, nI M, cd, pr, cn, cx, fd, el, ro, ot, nu, tw) := by
  have eb : qd_bx n 0 (0 + 1) = 0 := by
    show 0 * n + 1 - 1 = 0
    rw [Nat.zero_mul]
  suffices h : ∃ m, wY_together_6 post (nI n) (nI M) cd pr cn cx fd el ro ot nu tw m (nI (qd_it (fun i r => qd_pj (qy_R ro) n i r n) 0 0)) (nI (qd_bx n 0 (0 + 1))) (nI 0) by
    rw [eb] at h
    exact h
  refine qx_L (fun m i => wY_together_6 post (nI n) (nI M) cd pr cn cx fd el ro ot nu tw m (nI (qd_it (fun i r => qd_pj (qy_R ro) n i r n) 0 i)) (nI (qd_bx n i (i + 1))) (nI i)) (fun _ => True) n 0 (Nat.zero_le _) trivial ?_ ?_
  · intro m _
    exact br_t (qx_le (by omega)) H
  · intro m i hi _ ih
    exact br_f (qx_ge hi (by omega)) (nm_r (nI_1 i) (qy_togI h7 hi (ih trivial)))
theorem qy_i14 {k : Nat} (h : k < 14) : vp_in (nI k) 14 := vp_in_nI h (by omega)
theorem qy_i877 {k : Nat} (h : k < 877) : vp_in (nI k) 877 := vp_in_nI h (by omega)
/-- between i and k, and behind k, two points alike that are not alike to i -/
def qy_SP (tw : Nat → Int32) (i k m : Nat) : Prop := ∃ j l, i < j ∧ j < k ∧ k < l ∧ l < m ∧ tw j = tw l ∧ ¬ tw j = tw i
theorem qy_split {post : Int32 → Prop} {i k m : Nat} (hm : m ≤ 14) (hik : i < k) (hk : k < m) (H1 : qy_SP tw i k m → post 1) (H0 : ¬ qy_SP tw i k m → post 0) :
    wpY_split post (nI n, nI M, cd, pr, cn, cx, fd, el, ro, ot, nu, tw) (nI i) (nI k) (nI m) := by
  refine nm_r (nI_1 i) ?_
  refine qx_L (fun f j => wY_split_5 post (nI i) (nI k) (nI m) (nI n) (nI M) cd pr cn cx fd el ro ot nu tw f (nI j)) (fun j => i < j ∧ ∀ j' l, i < j' → j' < j → k < l → l < m → ¬ (tw j' = tw l ∧ ¬ tw j' = tw i)) k (i + 1) (by omega) ⟨by omega, fun j' l h h' => by omega⟩ ?_ ?_
  · intro f hI
    refine br_t (qx_le (by omega)) (H0 ?_)
    rintro ⟨j, l, h1, h2, h3, h4, h5⟩
    exact hI.2 j l h1 h2 h3 h4 h5
  · intro f j hj hI ih
    refine br_f (qx_ge hj (by omega)) (nm_r (nI_1 k) ?_)
    refine qx_L (fun g l => wY_split_16 post (wY_split_5 post (nI i) (nI k) (nI m) (nI n) (nI M) cd pr cn cx fd el ro ot nu tw f) (nI i) (nI k) (nI m) (nI j) (nI n) (nI M) cd pr cn cx fd el ro ot nu tw g (nI l)) (fun l => k < l ∧ ∀ l', k < l' → l' < l → ¬ (tw j = tw l' ∧ ¬ tw j = tw i)) m (k + 1) (by omega) ⟨by omega, fun l' h h' => by omega⟩ ?_ ?_
    · intro g hJ
      refine br_t (qx_le (by omega)) (nm_r (nI_1 j) (ih ⟨by omega, fun j' l h1 h2 h3 h4 => ?_⟩))
      by_cases ej : j' = j
      · rw [ej]; exact hJ.2 l h3 h4
      · exact hI.2 j' l h1 (by omega) h3 h4
    · intro g l hl hJ jh
      have step : ¬ (tw j = tw l ∧ ¬ tw j = tw i) → wY_split_16 post (wY_split_5 post (nI i) (nI k) (nI m) (nI n) (nI M) cd pr cn cx fd el ro ot nu tw f) (nI i) (nI k) (nI m) (nI j) (nI n) (nI M) cd pr cn cx fd el ro ot nu tw g (nI (l + 1)) := by
        intro hn
        refine jh ⟨by omega, fun l' h1 h2 => ?_⟩
        by_cases el' : l' = l
        · rw [el']; exact hn
        · exact hJ.2 l' h1 (by omega)
      refine br_f (qx_ge hl (by omega)) ⟨qy_i14 (by omega), qy_i14 (by omega), qx_bc (qx_c tw (by omega)) (qx_c tw (by omega)) ?_ ?_⟩
      · intro e
        refine ⟨qy_i14 (by omega), qy_i14 (by omega), qx_bc (qx_c tw (by omega)) (qx_c tw (by omega)) ?_ ?_⟩
        · intro e2
          exact nm_r (nI_1 l) (step (fun h => h.2 e2))
        · intro e2
          exact H1 ⟨j, l, hI.1, hj, hJ.1, hl, e, e2⟩
      · intro e
        exact nm_r (nI_1 l) (step (fun h => e h.1))
theorem qy_cr_sp {m : Nat} : qd_cr (qy_R tw) m = true ↔ ∃ i k, i + 2 ≤ k ∧ k < m ∧ tw i = tw k ∧ qy_SP tw i k m := by
  rw [qd_cr_iff]
  simp only [qy_R_iff]
  constructor
  · rintro ⟨i, j, k, l, h1, h2, h3, h4, h5, h6, h7⟩
    exact ⟨i, k, by omega, by omega, h6, j, l, h1, h2, h3, h4, h7, fun h => h5 h.symm⟩
  · rintro ⟨i, k, h1, h2, h3, j, l, h4, h5, h6, h7, h8, h9⟩
    exact ⟨i, j, k, l, h4, h5, h6, h7, fun h => h9 h.symm, h3, h8⟩
theorem qy_cr44 {post : Int32 → SY → Prop} {m : Nat} (hm : m ≤ 14) (H1 : qd_cr (qy_R tw) m = true → post 1 (nI n, nI M, cd, pr, cn, cx, fd, el, ro, ot, nu, tw)) (H0 : ¬ qd_cr (qy_R tw) m = true → post 0 (nI n, nI M, cd, pr, cn, cx, fd, el, ro, ot, nu, tw)) :
    ∃ f, wY_crossing_44 post (nI m) (nI n) (nI M) cd pr cn cx fd el ro ot nu tw f (nI 0) := by
  have hx := qy_cr_sp (tw := tw) (m := m)
  refine qx_L (fun f i => wY_crossing_44 post (nI m) (nI n) (nI M) cd pr cn cx fd el ro ot nu tw f (nI i)) (fun i => ∀ i' k, i' < i → i' + 2 ≤ k → k < m → tw i' = tw k → ¬ qy_SP tw i' k m) m 0 (Nat.zero_le _) (fun i' k h => absurd h (Nat.not_lt_zero i')) ?_ ?_
  · intro f hI
    refine br_t (qx_le (by omega)) (H0 (fun h => ?_))
    obtain ⟨i, k, h1, h2, h3, h4⟩ := hx.mp h
    exact hI i k (by omega) h1 h2 h3 h4
  · intro f i hi hI ih
    have e2 : nI i + 2 = nI (i + 2) := nI_add i 2
    refine br_f (qx_ge hi (by omega)) (nm_r e2 ?_)
    by_cases hb : i + 2 ≤ m
    · refine qx_L (fun g k => wY_crossing_53 post (wY_crossing_44 post (nI m) (nI n) (nI M) cd pr cn cx fd el ro ot nu tw f) (nI m) (nI i) (nI n) (nI M) cd pr cn cx fd el ro ot nu tw g (nI k)) (fun k => i + 2 ≤ k ∧ ∀ k', i + 2 ≤ k' → k' < k → tw i = tw k' → ¬ qy_SP tw i k' m) m (i + 2) hb ⟨Nat.le_refl _, fun k' h h' => by omega⟩ ?_ ?_
      · intro g hJ
        refine br_t (qx_le (by omega)) (nm_r (nI_1 i) (ih (fun i' k h1 h2 h3 => ?_)))
        by_cases ei : i' = i
        · subst ei; exact hJ.2 k h2 h3
        · exact hI i' k (by omega) h2 h3
      · intro g k hk hJ jh
        have step : (tw i = tw k → ¬ qy_SP tw i k m) → wY_crossing_53 post (wY_crossing_44 post (nI m) (nI n) (nI M) cd pr cn cx fd el ro ot nu tw f) (nI m) (nI i) (nI n) (nI M) cd pr cn cx fd el ro ot nu tw g (nI (k + 1)) := by
          intro hn
          refine jh ⟨by omega, fun k' h1 h2 => ?_⟩
          by_cases ek : k' = k
          · rw [ek]; exact hn
          · exact hJ.2 k' h1 (by omega)
        refine br_f (qx_ge hk (by omega)) ⟨qy_i14 (by omega), qy_i14 (by omega), qx_bc (qx_c tw (by omega)) (qx_c tw (by omega)) ?_ ?_⟩
        · intro e
          refine qy_split hm (by omega) hk ?_ ?_
          · intro hs
            exact br_f (by decide) (H1 (hx.mpr ⟨i, k, hJ.1, hk, e, hs⟩))
          · intro hs
            exact br_t rfl (nm_r (nI_1 k) (step (fun _ => hs)))
        · intro e
          exact nm_r (nI_1 k) (step (fun h => absurd h e))
    · refine ⟨1, br_t (nI_le (by omega) (by omega)) (nm_r (nI_1 i) (ih (fun i' k h1 h2 h3 => ?_)))⟩
      by_cases ei : i' = i
      · subst ei; omega
      · exact hI i' k (by omega) h2 h3
theorem qy_crN {post : Int32 → SY → Prop} (h7 : n ≤ 7) (H : ∀ tw', post (qx_b (qd_cr (qy_R ro) n)) (nI n, nI M, cd, pr, cn, cx, fd, el, ro, ot, nu, tw')) : wpY_crossing post (nI n, nI M, cd, pr, cn, cx, fd, el, ro, ot, nu, tw) (nI n) := by
  show ∃ f, wY_crossing_2 post (nI n) (nI n) (nI M) f (nI 0) cd pr cn cx fd el ro ot nu tw
  refine pk_loop (fun f i (s : Nat → Int32) => wY_crossing_2 post (nI n) (nI n) (nI M) f (nI i) cd pr cn cx fd el ro ot nu s) (fun i s => ∀ j, j < i → s j = ro j) n 0 tw (Nat.zero_le _) (fun j hj => absurd hj (Nat.not_lt_zero j)) ?_ ?_
  · intro f s h
    have hc : qd_cr (qy_R s) n = qd_cr (qy_R ro) n := qd_crC (fun i j hi hj => by unfold qy_R; rw [h i hi, h j hj])
    refine br_t (qx_le (by omega)) (qy_cr44 (by omega) (fun h1 => ?_) (fun h1 => ?_))
    · have := H s
      rw [← hc, qx_bt h1] at this
      exact this
    · have := H s
      rw [← hc, qx_bf h1] at this
      exact this
  · intro f i s hi h ih
    refine br_f (qx_ge hi (by omega)) (br_t rfl ⟨qx_i7 (by omega), qy_i14 (by omega), ?_⟩)
    refine nm_r (show upd s (nI i).toNatClampNeg (ro (nI i).toNatClampNeg) = upd s i (ro i) by rw [nI_clamp (by omega)]) (nm_r (nI_1 i) (ih _ ?_))
    intro j hj
    by_cases ej : j = i
    · subst ej; exact pk_us
    · rw [pk_un ej]; exact h j (by omega)
theorem qy_cr2n {post : Int32 → SY → Prop} {m' : Int32} (h1 : 1 ≤ n) (h7 : n ≤ 7) (em : m' = nI (2 * n)) (H : ∀ tw', post (qx_b (qd_cr (qy_R nu) (2 * n))) (nI n, nI M, cd, pr, cn, cx, fd, el, ro, ot, nu, tw')) : wpY_crossing post (nI n, nI M, cd, pr, cn, cx, fd, el, ro, ot, nu, tw) m' := by
  subst em
  show ∃ f, wY_crossing_2 post (nI (2 * n)) (nI n) (nI M) f (nI 0) cd pr cn cx fd el ro ot nu tw
  refine pk_loop (fun f i (s : Nat → Int32) => wY_crossing_2 post (nI (2 * n)) (nI n) (nI M) f (nI i) cd pr cn cx fd el ro ot nu s) (fun i s => ∀ j, j < i → s j = nu j) (2 * n) 0 tw (Nat.zero_le _) (fun j hj => absurd hj (Nat.not_lt_zero j)) ?_ ?_
  · intro f s h
    have hc : qd_cr (qy_R s) (2 * n) = qd_cr (qy_R nu) (2 * n) := qd_crC (fun i j hi hj => by unfold qy_R; rw [h i hi, h j hj])
    refine br_t (qx_le (by omega)) (qy_cr44 (by omega) (fun h1 => ?_) (fun h1 => ?_))
    · have := H s
      rw [← hc, qx_bt h1] at this
      exact this
    · have := H s
      rw [← hc, qx_bf h1] at this
      exact this
  · intro f i s hi h ih
    refine br_f (qx_ge hi (by omega)) (br_f (fun e => absurd ((nI_eq (by omega) (by omega)).mp e) (by omega)) ⟨qy_i14 (by omega), qy_i14 (by omega), ?_⟩)
    refine nm_r (show upd s (nI i).toNatClampNeg (nu (nI i).toNatClampNeg) = upd s i (nu i) by rw [nI_clamp (by omega)]) (nm_r (nI_1 i) (ih _ ?_))
    intro j hj
    by_cases ej : j = i
    · subst ej; exact pk_us
    · rw [pk_un ej]; exact h j (by omega)
theorem qy_take {post : SY → Prop} {k c : Nat} (h7 : n ≤ 7) (hk : k < 877) (hc : cd k = nI c) (hc8 : c < 8 ^ n) (H : ∀ ro', (∀ i, i < n → ro' i = nI (qd_g c i)) → post (nI n, nI M, cd, pr, cn, cx, fd, el, ro', ot, nu, tw)) : wpY_take post (nI n, nI M, cd, pr, cn, cx, fd, el, ro, ot, nu, tw) (nI k) := by
  have hc9 : c < 2 ^ 31 := Nat.lt_of_lt_of_le hc8 (Nat.le_trans (Nat.pow_le_pow_right (by decide) h7) (by decide))
  refine ⟨qy_i877 hk, nm_r ((qx_c cd hk).trans hc) ?_⟩
  have hS : ∀ i, c / 8 ^ i / 8 = c / 8 ^ (i + 1) := fun i => by rw [Nat.div_div_eq_div_mul, Nat.pow_succ]
  have h0 : c / 8 ^ 0 = c := by rw [Nat.pow_zero, Nat.div_one]
  suffices h : ∃ f, wY_take_9 post (nI n) (nI M) f (nI (c / 8 ^ 0)) (nI 0) cd pr cn cx fd el ro ot nu tw by
    rw [h0] at h
    exact h
  refine pk_loop (fun f i (s : Nat → Int32) => wY_take_9 post (nI n) (nI M) f (nI (c / 8 ^ i)) (nI i) cd pr cn cx fd el s ot nu tw) (fun i s => ∀ j, j < i → s j = nI (qd_g c j)) n 0 ro (Nat.zero_le _) (fun j hj => absurd hj (Nat.not_lt_zero j)) ?_ ?_
  · intro f s h
    exact br_t (qx_le (by omega)) (H s h)
  · intro f i s hi h ih
    have hl : c / 8 ^ i < 2 ^ 31 := Nat.lt_of_le_of_lt (Nat.div_le_self _ _) hc9
    have e8 : (8 : Int32) = nI 8 := rfl
    refine br_f (qx_ge hi (by omega)) ⟨by decide, qx_i7 (by omega), ?_⟩
    refine nm_r (show upd s (nI i).toNatClampNeg (nI (c / 8 ^ i) - nI (c / 8 ^ i) / 8 * 8) = upd s i (nI (qd_g c i)) by rw [nI_clamp (by omega), e8, pk_rem hl (by omega) (by omega), qd_g_eq]) ⟨by decide, ?_⟩
    refine nm_r (show nI (c / 8 ^ i) / 8 = nI (c / 8 ^ (i + 1)) by rw [e8, pk_div hl (by omega) (by omega), hS]) (nm_r (nI_1 i) (ih _ ?_))
    intro j hj
    by_cases ej : j = i
    · subst ej; exact pk_us
    · rw [pk_un ej]; exact h j (by omega)
theorem qy_keep {post : Int32 → SY → Prop} {e k0 : Nat} {mk : Nat → Nat} (h7 : n ≤ 7) (he : e < 2) (hM : M ≤ 877) (hk0 : k0 < M) (hp : ∀ k, k < M → pr k = nI (mk k)) (hm : ∀ k, k < M → mk k < 2 ^ 21)
    (hs : qd_pm (qy_R ro) n = mk k0) (hu : ∀ k, k < M → mk k = mk k0 → k = k0)
    (H : ∀ el', el' e = nI k0 → (∀ j, ¬ j = e → el' j = el j) → post (cn k0) (nI n, nI M, cd, pr, cn, cx, fd, el', ro, ot, nu, tw)) : wpY_keep post (nI n, nI M, cd, pr, cn, cx, fd, el, ro, ot, nu, tw) (nI e) := by
  unfold wpY_keep
  refine qy_tog h7 ?_
  rw [hs]
  show ∃ f, wY_keep_7 post (nI e) (nI (mk k0)) (nI n) (nI M) f (nI 0) cd pr cn cx fd el ro ot nu tw
  have h2 : vp_in (nI e) 2 := vp_in_nI he (by omega)
  refine pk_loop (fun f k (s : Nat → Int32) => wY_keep_7 post (nI e) (nI (mk k0)) (nI n) (nI M) f (nI k) cd pr cn cx fd s ro ot nu tw) (fun k s => (∀ j, ¬ j = e → s j = el j) ∧ (k0 < k → s e = nI k0)) M 0 el (Nat.zero_le _) ⟨fun _ _ => rfl, fun h => absurd h (Nat.not_lt_zero k0)⟩ ?_ ?_
  · intro f s h
    have es : s (nI e).toNatClampNeg = nI k0 := by rw [qx_c s (by omega), h.2 hk0]
    refine br_t (nI_le (Nat.le_refl M) (by omega)) ⟨h2, by rw [es]; exact qy_i877 (by omega), ?_⟩
    rw [es, qx_c cn (by omega)]
    exact H s (h.2 hk0) h.1
  · intro f k s hk h ih
    refine br_f (nI_ge hk (by omega)) ⟨qy_i877 (by omega), qx_bc ((qx_c pr (by omega)).trans (hp k hk)) rfl ?_ ?_⟩
    · intro e1
      have e2 : k = k0 := hu k hk ((nI_eq (Nat.lt_trans (hm k hk) (by decide)) (Nat.lt_trans (hm k0 hk0) (by decide))).mp e1)
      refine ⟨h2, nm_r (congrArg (fun j => upd s j (nI k)) (nI_clamp (by omega))) (nm_r (nI_1 k) (ih _ ⟨fun j hj => ?_, fun _ => ?_⟩))⟩
      · rw [pk_un hj]; exact h.1 j hj
      · rw [pk_us, e2]
    · intro e1
      refine nm_r (nI_1 k) (ih _ ⟨h.1, fun hlt => ?_⟩)
      refine h.2 ?_
      have : k0 ≠ k := fun e2 => e1 (by rw [← e2])
      omega
theorem qy_unite {post : SY → Prop} {x y : Int32} (h7 : n ≤ 7) (H : ∀ ro', (∀ p, p < n → ro' p = if ro p = x then y else ro p) → post (nI n, nI M, cd, pr, cn, cx, fd, el, ro', ot, nu, tw)) : wpY_unite post (nI n, nI M, cd, pr, cn, cx, fd, el, ro, ot, nu, tw) x y := by
  show ∃ f, wY_unite_2 post x y (nI n) (nI M) f (nI 0) cd pr cn cx fd el ro ot nu tw
  refine pk_loop (fun f p (s : Nat → Int32) => wY_unite_2 post x y (nI n) (nI M) f (nI p) cd pr cn cx fd el s ot nu tw)
    (fun p s => (∀ q, q < p → s q = if ro q = x then y else ro q) ∧ ∀ q, p ≤ q → s q = ro q) n 0 ro (Nat.zero_le _) ⟨fun q hq => absurd hq (Nat.not_lt_zero q), fun _ _ => rfl⟩ ?_ ?_
  · intro f s h
    exact br_t (qx_le (by omega)) (H s h.1)
  · intro f p s hp h ih
    refine br_f (qx_ge hp (by omega)) ⟨qx_i7 (by omega), qx_bc ((qx_c s (by omega)).trans (h.2 p (Nat.le_refl p))) rfl ?_ ?_⟩
    · intro e
      refine ⟨qx_i7 (by omega), nm_r (congrArg (fun k => upd s k y) (nI_clamp (by omega))) (nm_r (nI_1 p) (ih _ ⟨?_, ?_⟩))⟩
      · intro q hq
        by_cases eq : q = p
        · subst eq; rw [pk_us, if_pos e]
        · rw [pk_un eq]; exact h.1 q (by omega)
      · intro q hq
        rw [pk_un (by omega)]
        exact h.2 q (by omega)
    · intro e
      refine nm_r (nI_1 p) (ih _ ⟨?_, fun q hq => h.2 q (by omega)⟩)
      intro q hq
      by_cases eq : q = p
      · subst eq; rw [h.2 q (Nat.le_refl q), if_neg e]
      · exact h.1 q (by omega)
theorem qy_andn {a b : Nat} (ha : a < 2 ^ 21) (hb : b < 2 ^ 21) : nI a &&& (nI b ^^^ (-1)) = 0 ↔ a &&& b = a := by
  have e1 : (-1 : Int32) = nI 4294967295 := by decide
  rw [e1, qy_xor2, qy_and2, show (0 : Int32) = nI 0 from rfl, nI_eq (Nat.lt_of_le_of_lt Nat.and_le_left (Nat.lt_trans ha (by decide))) (by decide)]
  have hM : ∀ i, (4294967295 : Nat).testBit i = decide (i < 32) := fun i => Nat.testBit_two_pow_sub_one 32 i
  have hz : ∀ i, 21 ≤ i → a.testBit i = false := fun i hi => Nat.testBit_lt_two_pow (Nat.lt_of_lt_of_le ha (Nat.pow_le_pow_right (by decide) hi))
  constructor
  · intro h
    refine Nat.eq_of_testBit_eq (fun i => ?_)
    have hi := congrArg (fun z => z.testBit i) h
    simp only [Nat.testBit_and, Nat.testBit_xor, hM, Nat.zero_testBit] at hi
    rw [Nat.testBit_and]
    by_cases h21 : i < 21
    · rw [show decide (i < 32) = true from decide_eq_true (by omega)] at hi
      cases hx : a.testBit i <;> cases hy : b.testBit i <;> simp_all
    · rw [hz i (by omega)]; rfl
  · intro h
    refine Nat.eq_of_testBit_eq (fun i => ?_)
    have hi := congrArg (fun z => z.testBit i) h
    simp only [Nat.testBit_and] at hi
    rw [Nat.testBit_and, Nat.testBit_xor, hM, Nat.zero_testBit]
    by_cases h21 : i < 21
    · rw [show decide (i < 32) = true from decide_eq_true (by omega)]
      cases hx : a.testBit i <;> cases hy : b.testBit i <;> simp_all
    · rw [hz i (by omega)]; rfl
theorem qy_fin {post : Int32 → Prop} {p q a b : Nat} (hp : p < 877) (hq : q < 877) (ea : pr p = nI a) (eb : pr q = nI b) (ha : a < 2 ^ 21) (hb : b < 2 ^ 21)
    (H1 : a &&& b = a → post 1) (H0 : ¬ a &&& b = a → post 0) : wpY_isFiner post (nI n, nI M, cd, pr, cn, cx, fd, el, ro, ot, nu, tw) (nI p) (nI q) := by
  refine ⟨qy_i877 hp, qy_i877 hq, ?_⟩
  have e1 : pr (nI p).toNatClampNeg &&& (pr (nI q).toNatClampNeg ^^^ (-1)) = nI a &&& (nI b ^^^ (-1)) := by
    rw [qx_c pr hp, qx_c pr hq, ea, eb]
  exact qx_bc e1 rfl (fun h => H1 ((qy_andn ha hb).mp h)) (fun h => H0 (fun h' => h ((qy_andn ha hb).mpr h')))
end
end
section
/-! 13: the relation -/
/-- the reference's tables -/
def qr_Y (n : Nat) (cd pr cn cx : Nat → Int32) : Prop :=
  (∀ k, k < qd_N n → cd k = nI (qd_t n k)) ∧ (∀ k, k < qd_N n → pr k = nI (qd_m n (qd_t n k))) ∧ (∀ k, k < qd_N n → cn k = nI (qd_b n (qd_t n k))) ∧ (∀ k, k < qd_N n → cx k = qx_b (qd_x n (qd_t n k)))
/-- n points; elements 0 and 1 are the table's places P 0, P 1 -/
def qr_R (n : Nat) (P : Nat → Nat) (N E cd pr cn cx el : Nat → Int32) : Prop :=
  1 ≤ n ∧ n ≤ 7 ∧ (∀ e, e < 2 → P e < qd_N n) ∧ qx_N n (fun e => qd_t n (P e)) N ∧ qx_E E ∧ qr_Y n cd pr cn cx ∧ (∀ e, e < 2 → el e = nI (P e))
def i_Rel (_ : Nat) (u : SX) (v : SY) : Prop :=
  ∃ (n : Nat) (P : Nat → Nat) (N L E cd pr cn cx fd el ro ot nu tw : Nat → Int32), u = (nI n, N, L, E) ∧ v = (nI n, nI (qd_N n), cd, pr, cn, cx, fd, el, ro, ot, nu, tw) ∧ qr_R n P N E cd pr cn cx el
theorem i_up {k : Nat} {u : SX} {v : SY} (h : i_Rel k u v) : i_Rel (k + 4) u v := h
section
variable {n M : Nat} {P : Nat → Nat} {N L E cd pr cn cx fd el ro ot nu tw : Nat → Int32}
theorem qr_mk {k : Nat} (h : qr_R n P N E cd pr cn cx el) : i_Rel k (nI n, N, L, E) (nI n, nI (qd_N n), cd, pr, cn, cx, fd, el, ro, ot, nu, tw) :=
  ⟨n, P, N, L, E, cd, pr, cn, cx, fd, el, ro, ot, nu, tw, rfl, rfl, h⟩
/-- e at place q -/
def qr_P (P : Nat → Nat) (e q : Nat) : Nat → Nat := fun e' => if e' = e then q else P e'
theorem qr_upd {N' el' : Nat → Int32} {e q : Nat} (h : qr_R n P N E cd pr cn cx el) (he : e < 2) (hq : q < qd_N n)
    (h1 : ∀ i, i < n → N' (e * 7 + i) = nI (qd_g (qd_t n q) i)) (h2 : ∀ j, (∀ i, i < n → ¬ j = e * 7 + i) → N' j = N j)
    (h3 : el' e = nI q) (h4 : ∀ j, ¬ j = e → el' j = el j) : qr_R n (qr_P P e q) N' E cd pr cn cx el' := by
  obtain ⟨a1, a7, aP, aN, aE, aY, aL⟩ := h
  refine ⟨a1, a7, ?_, ?_, aE, aY, ?_⟩
  · intro e' he'
    unfold qr_P
    by_cases ee : e' = e
    · rw [if_pos ee]; exact hq
    · rw [if_neg ee]; exact aP e' he'
  · intro e' he' i hi
    show N' (e' * 7 + i) = nI (qd_g (qd_t n (qr_P P e q e')) i)
    unfold qr_P
    by_cases ee : e' = e
    · rw [if_pos ee, ee]; exact h1 i hi
    · rw [if_neg ee, h2 (e' * 7 + i) (fun k hk => by omega)]
      exact aN e' he' i hi
  · intro e' he'
    unfold qr_P
    by_cases ee : e' = e
    · rw [if_pos ee, ee]; exact h3
    · rw [if_neg ee, h4 e' ee]; exact aL e' he'
/-- a row whose numbers go up without a gap stands in the table; its mask is that of any labels with its kernel -/
theorem qr_place {D : Nat → Nat} {R : Nat → Nat → Bool} (h7 : n ≤ 7) (hD : ∀ i, i < n → D i ≤ qd_bf D i) (hR : ∀ i j, i < j → j < n → (D i = D j ↔ R i j = true)) :
    ∃ q, q < qd_N n ∧ (∀ i, i < n → D i = qd_g (qd_t n q) i) ∧ qd_pm R n = qd_m n (qd_t n q) ∧ qd_bf D n = qd_b n (qd_t n q) := by
  obtain ⟨q, hq, eq⟩ := qd_in_t (qd_T_in h7 hD)
  have h8 : ∀ i, i < n → D i < 8 := fun i hi => by
    have h1 := hD i hi
    have h2 := qd_bf_le (f := D) (n := i)
    omega
  have hg : ∀ i, i < n → D i = qd_g (qd_t n q) i := fun i hi => by rw [eq, qd_g_pk h8 i hi]
  refine ⟨q, hq, hg, ?_, ?_⟩
  · refine qd_pmC (fun i j hi hj => ?_)
    rw [Bool.eq_iff_iff, ← hR i j hi hj, qd_rl_iff, hg i (by omega), hg j hj]
  · exact qd_bfC hg
theorem qr_el (e : Int32) : (∃ a, a < 2 ∧ e = nI a) ∨ (¬ e = 0 ∧ ¬ e = 1) := by
  by_cases h0 : e = 0
  · exact Or.inl ⟨0, by omega, h0⟩
  · by_cases h1 : e = 1
    · exact Or.inl ⟨1, by omega, h1⟩
    · exact Or.inr ⟨h0, h1⟩
theorem qr_pt (h7 : n ≤ 7) (x : Int32) : (∃ a, a < n ∧ x = nI a) ∨ (x < 0 ∨ nI n ≤ x) := by
  rcases pk_ix x (n := n) (by omega) with h | h | h
  · exact Or.inr (Or.inl h)
  · exact Or.inr (Or.inr h)
  · exact Or.inl h
theorem qr_m21 (h7 : n ≤ 7) (c : Nat) : qd_m n c < 2 ^ 21 := qd_pm_lt (by omega)
/-- Y's take at element e; keep -/
theorem qr_take {post : SY → Prop} {e : Nat} {x : Int32} (h : qr_R n P N E cd pr cn cx el) (he : e < 2) (hx : x = nI (P e))
    (H : ∀ ro', (∀ i, i < n → ro' i = nI (qd_g (qd_t n (P e)) i)) → post (nI n, nI (qd_N n), cd, pr, cn, cx, fd, el, ro', ot, nu, tw)) : wpY_take post (nI n, nI (qd_N n), cd, pr, cn, cx, fd, el, ro, ot, nu, tw) x := by
  obtain ⟨a1, a7, aP, aN, aE, aY, aL⟩ := h
  subst hx
  exact qy_take a7 (Nat.lt_of_lt_of_le (aP e he) (qf_N1 a1 a7).2) (aY.1 _ (aP e he)) (qf_lt a1 a7 (aP e he)) H
theorem qr_keep {post : Int32 → SY → Prop} {e q : Nat} (h : qr_R n P N E cd pr cn cx el) (he : e < 2) (hq : q < qd_N n) (hm : qd_pm (qy_R ro) n = qd_m n (qd_t n q))
    (H : ∀ el', el' e = nI q → (∀ j, ¬ j = e → el' j = el j) → post (nI (qd_b n (qd_t n q))) (nI n, nI (qd_N n), cd, pr, cn, cx, fd, el', ro, ot, nu, tw)) : wpY_keep post (nI n, nI (qd_N n), cd, pr, cn, cx, fd, el, ro, ot, nu, tw) (nI e) := by
  obtain ⟨a1, a7, aP, aN, aE, aY, aL⟩ := h
  refine qy_keep (mk := fun k => qd_m n (qd_t n k)) a7 he (qf_N1 a1 a7).2 hq aY.2.1 (fun k _ => qr_m21 a7 _) hm (fun k hk e1 => qf_minj a1 a7 hk hq e1) (fun el' h1 h2 => ?_)
  rw [aY.2.2.1 q hq]
  exact H el' h1 h2
theorem qr_elc (h : qr_R n P N E cd pr cn cx el) {e : Nat} (he : e < 2) : el (nI e).toNatClampNeg = nI (P e) := by
  rw [qx_c el (by omega)]
  exact h.2.2.2.2.2.2 e he
/-- X's takeLabels, then Y from the start to its keep: K says what Y still does -/
theorem qr_lab {e : Nat} {post : Int32 → SX → Prop} (h : qr_R n P N E cd pr cn cx el) (he : e < 2) {Lx : Nat → Int32}
    (H : ∀ (N' : Nat → Int32) (q : Nat), q < qd_N n → (∀ i j, i < j → j < n → (qd_g (qd_t n q) i = qd_g (qd_t n q) j ↔ Lx i = Lx j)) →
      (∀ el', el' e = nI q → (∀ j, ¬ j = e → el' j = el j) → qr_R n (qr_P P e q) N' E cd pr cn cx el') →
      post (nI (qd_b n (qd_t n q))) (nI n, N', Lx, E)) : wpX_takeLabels post (nI n, N, Lx, E) (nI e) := by
  obtain ⟨a1, a7, aP, aN, aE, aY, aL⟩ := h
  refine qx_take a7 he (fun N' D h1 h2 h3 h4 => ?_)
  obtain ⟨q, hq, hg, _, hb⟩ := qr_place (R := qy_R Lx) a7 h3 (fun i j hi hj => by rw [h4 i j (by omega) hj, qy_R_iff])
  rw [hb]
  refine H N' q hq (fun i j hi hj => ?_) (fun el' h5 h6 => ?_)
  · rw [← hg i (by omega), ← hg j hj]
    exact h4 i j (by omega) hj
  · exact qr_upd ⟨a1, a7, aP, aN, aE, aY, aL⟩ he hq (fun i hi => by rw [h1 i hi, hg i hi]) h2 h5 h6
/-- Y's keep after X's takeLabels with the same kernel -/
theorem qr_kp {post : Int32 → SY → Prop} {e q : Nat} {Lx : Nat → Int32} (h : qr_R n P N E cd pr cn cx el) (he : e < 2) (hq : q < qd_N n)
    (hk : ∀ i j, i < j → j < n → (qd_g (qd_t n q) i = qd_g (qd_t n q) j ↔ Lx i = Lx j)) (hr : ∀ i j, i < j → j < n → (Lx i = Lx j ↔ ro i = ro j))
    (H : ∀ el', el' e = nI q → (∀ j, ¬ j = e → el' j = el j) → post (nI (qd_b n (qd_t n q))) (nI n, nI (qd_N n), cd, pr, cn, cx, fd, el', ro, ot, nu, tw)) : wpY_keep post (nI n, nI (qd_N n), cd, pr, cn, cx, fd, el, ro, ot, nu, tw) (nI e) := by
  refine qr_keep h he hq ?_ H
  refine qd_pmC (fun i j hi hj => ?_)
  rw [Bool.eq_iff_iff, qy_R_iff, qd_rl_iff, hk i j hi hj, hr i j hi hj]
end
end
section
/-! 14: merge, move, turn, meet -/
theorem qm_mrg (f : Nat → Int32) (i j a b : Nat) : ((if f a = f j then f i else f a) = (if f b = f j then f i else f b)) ↔ ((if f a = f i then f j else f a) = (if f b = f i then f j else f b)) := by
  generalize f a = A
  generalize f b = B
  generalize f i = X
  generalize f j = Y
  by_cases h1 : A = Y <;> by_cases h2 : B = Y <;> by_cases h3 : A = X <;> by_cases h4 : B = X <;> simp_all <;> grind
theorem i_vc_merge {k : Nat} {u : SX} {v : SY} (I : i_Rel k u v) (hk : k + 4 ≤ 2049) (v1 : Int32) (v2 : Int32) (v3 : Int32) : wpX_merge (fun r u' => wpY_merge (fun r' v' => r' = r ∧ i_Rel (k + 4) u' v') v v1 v2 v3) u v1 v2 v3 := by
  obtain ⟨n, P, N, L, E, cd, pr, cn, cx, fd, el, ro, ot, nu, tw, rfl, rfl, R⟩ := I
  have a1 := R.1
  have a7 := R.2.1
  unfold wpX_merge
  rcases qr_el v1 with ⟨e, he, rfl⟩ | ⟨h0, h1⟩
  · refine qx_elT he (br_f (by decide) ?_)
    rcases qr_pt a7 v2 with ⟨i, hi, rfl⟩ | hi
    · refine qx_ptT a7 hi (br_f (by decide) ?_)
      rcases qr_pt a7 v3 with ⟨j, hj, rfl⟩ | hj
      · refine qx_ptT a7 hj (br_f (by decide) ?_)
        refine qx_give a7 he (fun L1 hL1 => ?_)
        refine qx_merge a7 hi hj (fun L2 hL2 => ?_)
        refine qr_lab R he (fun N' q hq hK hR => ?_)
        show wpY_merge _ _ _ _ _
        unfold wpY_merge
        refine qy_badF he (br_t rfl (qy_ptF a7 hi (br_t rfl (qy_ptF a7 hj (br_t rfl ⟨vp_in_nI he (by omega), ?_⟩)))))
        refine qr_take R he (qr_elc R he) (fun r1 hr1 => ?_)
        refine ⟨qx_i7 (by omega), qx_i7 (by omega), ?_⟩
        refine qy_unite a7 (fun r2 hr2 => ?_)
        refine qr_kp (Lx := L2) R he hq hK (fun a b ha hb => ?_) (fun el' h1 h2 => ⟨rfl, qr_mk (hR el' h1 h2)⟩)
        have eL : ∀ p, p < n → L1 p = r1 p := fun p hp => by rw [hL1 p hp, hr1 p hp, R.2.2.2.1 e he p hp]
        rw [hL2 a (by omega), hL2 b hb, hr2 a (by omega), hr2 b hb, qx_c r1 (by omega), qx_c r1 (by omega), eL a (by omega), eL b hb, eL i hi, eL j hj]
        exact qm_mrg r1 i j a b
      · refine qx_ptF hj (br_t rfl ?_)
        show wpY_merge _ _ _ _ _
        unfold wpY_merge
        exact qy_badF he (br_t rfl (qy_ptF a7 hi (br_t rfl (qy_ptT hj (br_f (by decide) ⟨rfl, qr_mk R⟩)))))
    · refine qx_ptF hi (br_t rfl ?_)
      show wpY_merge _ _ _ _ _
      unfold wpY_merge
      exact qy_badF he (br_t rfl (qy_ptT hi (br_f (by decide) ⟨rfl, qr_mk R⟩)))
  · refine qx_elF h0 h1 (br_t rfl ?_)
    show wpY_merge _ _ _ _ _
    unfold wpY_merge
    exact qy_badT h0 h1 (br_f (by decide) ⟨rfl, qr_mk R⟩)
theorem i_vc_move {k : Nat} {u : SX} {v : SY} (I : i_Rel k u v) (hk : k + 4 ≤ 2049) (v1 : Int32) (v2 : Int32) (v3 : Int32) : wpX_move (fun r u' => wpY_move (fun r' v' => r' = r ∧ i_Rel (k + 4) u' v') v v1 v2 v3) u v1 v2 v3 := by
  obtain ⟨n, P, N, L, E, cd, pr, cn, cx, fd, el, ro, ot, nu, tw, rfl, rfl, R⟩ := I
  have a1 := R.1
  have a7 := R.2.1
  unfold wpX_move
  rcases qr_el v1 with ⟨e, he, rfl⟩ | ⟨h0, h1⟩
  · refine qx_elT he (br_f (by decide) ?_)
    rcases qr_pt a7 v2 with ⟨i, hi, rfl⟩ | hi
    · refine qx_ptT a7 hi (br_f (by decide) ?_)
      rcases qr_pt a7 v3 with ⟨j, hj, rfl⟩ | hj
      · refine qx_ptT a7 hj (br_f (by decide) ?_)
        refine qx_give a7 he (fun L1 hL1 => ?_)
        have go : ∀ x : Int32, (∀ r1 : Nat → Int32, (∀ p, p < n → r1 p = nI (qd_g (qd_t n (P e)) p)) → ∀ post, wY_move_58 post (nI e) x (nI i) (nI n) (nI (qd_N n)) cd pr cn cx fd el r1 ot nu tw → (((nI i = nI j → wY_move_58 post (nI e) 7 (nI i) (nI n) (nI (qd_N n)) cd pr cn cx fd el r1 ot nu tw) ∧ (¬ nI i = nI j → vp_in (nI j) 7 ∧ wY_move_58 post (nI e) (r1 (nI j).toNatClampNeg) (nI i) (nI n) (nI (qd_N n)) cd pr cn cx fd el r1 ot nu tw)))) →
            wX_move_53 (fun r u' => wpY_move (fun r' v' => r' = r ∧ i_Rel (k + 4) u' v') (nI n, nI (qd_N n), cd, pr, cn, cx, fd, el, ro, ot, nu, tw) (nI e) (nI i) (nI j)) (nI e) x (nI i) (nI n) N L1 E := by
          intro x hx
          refine ⟨qx_i7 (by omega), nm_r (congrArg (fun p => upd L1 p x) (nI_clamp (by omega))) ?_⟩
          refine qr_lab R he (fun N' q hq hK hR => ?_)
          show wpY_move _ _ _ _ _
          unfold wpY_move
          refine qy_badF he (br_t rfl (qy_ptF a7 hi (br_t rfl (qy_ptF a7 hj (br_t rfl ⟨vp_in_nI he (by omega), ?_⟩)))))
          refine qr_take R he (qr_elc R he) (fun r1 hr1 => ?_)
          refine hx r1 hr1 _ ?_
          refine ⟨qx_i7 (by omega), nm_r (congrArg (fun p => upd r1 p x) (nI_clamp (by omega))) ?_⟩
          refine qr_kp (Lx := upd L1 i x) R he hq hK (fun a b ha hb => ?_) (fun el' h1 h2 => ⟨rfl, qr_mk (hR el' h1 h2)⟩)
          have eU : ∀ p, p < n → upd L1 i x p = upd r1 i x p := fun p hp => by
            by_cases ep : p = i
            · rw [ep, pk_us, pk_us]
            · rw [pk_un ep, pk_un ep, hL1 p hp, hr1 p hp, R.2.2.2.1 e he p hp]
          rw [eU a (by omega), eU b hb]
        refine br_c (fun eij => go 7 (fun r1 _ post h => br_t eij h)) (fun eij => ⟨qx_i7 (by omega), ?_⟩)
        rw [qx_c L1 (by omega)]
        refine go _ (fun r1 hr1 post h => br_f eij ⟨qx_i7 (by omega), ?_⟩)
        rw [qx_c r1 (by omega), hr1 j hj]
        rw [hL1 j hj, R.2.2.2.1 e he j hj] at h
        exact h
      · refine qx_ptF hj (br_t rfl ?_)
        show wpY_move _ _ _ _ _
        unfold wpY_move
        exact qy_badF he (br_t rfl (qy_ptF a7 hi (br_t rfl (qy_ptT hj (br_f (by decide) ⟨rfl, qr_mk R⟩)))))
    · refine qx_ptF hi (br_t rfl ?_)
      show wpY_move _ _ _ _ _
      unfold wpY_move
      exact qy_badF he (br_t rfl (qy_ptT hi (br_f (by decide) ⟨rfl, qr_mk R⟩)))
  · refine qx_elF h0 h1 (br_t rfl ?_)
    show wpY_move _ _ _ _ _
    unfold wpY_move
    exact qy_badT h0 h1 (br_f (by decide) ⟨rfl, qr_mk R⟩)
theorem qm_t40 {post : Int32 → SY → Prop} {e x : Int32} {n M : Nat} {cd pr cn cx fd el ot nu tw : Nat → Int32} : ∀ (i : Nat) (s : Nat → Int32), i < 7 →
    (∀ s' : Nat → Int32, (∀ j, j < i → s' (j + 1) = s j) → (∀ j, i < j → s' j = s j) → s' 0 = x → wpY_keep (fun r u => match u with | (f1, f2, b1, b2, b3, b4, b5, b6, b7, b8, b9, b10) => post r (f1, f2, b1, b2, b3, b4, b5, b6, b7, b8, b9, b10)) (nI n, nI M, cd, pr, cn, cx, fd, el, s', ot, nu, tw) e) →
    wY_turn_40 post e x (nI n) (nI M) (i + 1) (nI i) cd pr cn cx fd el s ot nu tw := by
  intro i
  induction i with
  | zero =>
    intro s _ H
    exact br_t (show (0 : Int32) ≤ 0 by decide) (nm_e (H _ (fun j hj => absurd hj (Nat.not_lt_zero j)) (fun j hj => pk_un (by omega)) pk_us))
  | succ i ih =>
    intro s hi H
    have ep : nI (i + 1) - 1 = nI i := nI_pred i
    refine br_f (nI_nle (by omega) (by omega)) ⟨by rw [ep]; exact qx_i7 (by omega), qx_i7 hi, ?_⟩
    refine nm_r (show upd s (nI (i + 1)).toNatClampNeg (s (nI (i + 1) - 1).toNatClampNeg) = upd s (i + 1) (s i) by rw [nI_clamp (by omega), ep, qx_c s (by omega)]) (nm_r (pk_m1 i) ?_)
    refine ih _ (by omega) (fun s' h1 h2 h3 => H s' (fun j hj => ?_) (fun j hj => ?_) h3)
    · by_cases ej : j = i
      · rw [ej, h2 (i + 1) (by omega), pk_us]
      · rw [h1 j (by omega), pk_un (by omega)]
    · rw [h2 j (by omega), pk_un (by omega)]
section
variable {n : Nat} {P : Nat → Nat} {N L E cd pr cn cx fd el ro ot nu tw : Nat → Int32}
/-- what X hands over: a place q with the kernel of the labels s, and that the states are related once Y has q at e -/
def qm_H (n : Nat) (P : Nat → Nat) (E cd pr cn cx el : Nat → Int32) (e : Nat) (N' s : Nat → Int32) (q : Nat) : Prop :=
  q < qd_N n ∧ (∀ i j, i < j → j < n → (qd_g (qd_t n q) i = qd_g (qd_t n q) j ↔ s i = s j)) ∧
  (∀ el', el' e = nI q → (∀ j, ¬ j = e → el' j = el j) → qr_R n (qr_P P e q) N' E cd pr cn cx el')
theorem qm_lab {e : Nat} {post : Int32 → SX → Prop} {s : Nat → Int32} (R : qr_R n P N E cd pr cn cx el) (he : e < 2) (H : ∀ N' q, qm_H n P E cd pr cn cx el e N' s q → post (nI (qd_b n (qd_t n q))) (nI n, N', s, E)) : wpX_takeLabels post (nI n, N, s, E) (nI e) :=
  qr_lab R he (fun N' q h1 h2 h3 => H N' q ⟨h1, h2, h3⟩)
theorem qm_tX {post : Int32 → SX → Prop} {e : Nat} (R : qr_R n P N E cd pr cn cx el) (he : e < 2)
    (H : ∀ N' s q, qm_H n P E cd pr cn cx el e N' s q → (∀ j, j + 1 < n → s (j + 1) = N (e * 7 + j)) → s 0 = N (e * 7 + (n - 1)) → post (nI (qd_b n (qd_t n q))) (nI n, N', s, E)) : wpX_turn post (nI n, N, L, E) (nI e) := by
  have a1 := R.1
  have a7 := R.2.1
  unfold wpX_turn
  refine qx_elT he (br_f (by decide) ?_)
  refine pk_loop (fun m i (s : Nat → Int32) => wX_turn_13 post (nI e) (nI n) m (nI i) N s E) (fun i s => (∀ j, j < i → j + 1 < n → s (j + 1) = N (e * 7 + j)) ∧ (i = n → s 0 = N (e * 7 + (n - 1)))) n 0 L (Nat.zero_le _) ⟨fun j hj => absurd hj (Nat.not_lt_zero j), fun h => by omega⟩ ?_ ?_
  · intro m s hs
    exact br_t (qx_le (by omega)) (qm_lab R he (fun N' q h => H N' s q h (fun j hj => hs.1 j (by omega) hj) (hs.2 rfl)))
  · intro m i s hi hs ih
    refine br_f (qx_ge hi (by omega)) ?_
    by_cases hl : n ≤ i + 1
    · refine br_t (by rw [nI_1]; exact nI_le hl (by omega)) (qx_num he (by omega) ⟨qx_i7 (k := 0) (by omega), nm_e (nm_r (nI_1 i) (ih _ ⟨?_, ?_⟩))⟩)
      · intro j hj hjn
        show upd s 0 (N (e * 7 + i)) (j + 1) = _
        rw [pk_un (by omega)]
        exact hs.1 j (by omega) hjn
      · intro hin
        show upd s 0 (N (e * 7 + i)) 0 = _
        rw [pk_us]
        congr 2
        omega
    · refine br_f (by rw [nI_1]; exact nI_ge (by omega) (by omega)) (qx_num he (by omega) ⟨by rw [nI_1]; exact qx_i7 (by omega), nm_r (show upd s (nI i + 1).toNatClampNeg (N (e * 7 + i)) = upd s (i + 1) (N (e * 7 + i)) by rw [nI_1, nI_clamp (by omega)]) (nm_r (nI_1 i) (ih _ ⟨?_, ?_⟩))⟩)
      · intro j hj hjn
        by_cases ej : j = i
        · rw [ej, pk_us]
        · rw [pk_un (by omega)]
          exact hs.1 j (by omega) hjn
      · intro hin
        omega
/-- Y's keep at q, once its row has the kernel of s -/
theorem qm_kp {post : Int32 → SY → Prop} {e q : Nat} {N' s : Nat → Int32} (R : qr_R n P N E cd pr cn cx el) (he : e < 2) (h : qm_H n P E cd pr cn cx el e N' s q) (hr : ∀ i j, i < j → j < n → (s i = s j ↔ ro i = ro j))
    (H : ∀ el', qr_R n (qr_P P e q) N' E cd pr cn cx el' → post (nI (qd_b n (qd_t n q))) (nI n, nI (qd_N n), cd, pr, cn, cx, fd, el', ro, ot, nu, tw)) : wpY_keep post (nI n, nI (qd_N n), cd, pr, cn, cx, fd, el, ro, ot, nu, tw) (nI e) :=
  qr_kp R he h.1 h.2.1 hr (fun el' h1 h2 => H el' (h.2.2 el' h1 h2))
theorem qm_tY {post : Int32 → SY → Prop} {e q : Nat} {N' s : Nat → Int32} (R : qr_R n P N E cd pr cn cx el) (he : e < 2) (h : qm_H n P E cd pr cn cx el e N' s q) (hs : ∀ j, j + 1 < n → s (j + 1) = N (e * 7 + j)) (hz : s 0 = N (e * 7 + (n - 1)))
    (H : ∀ el' ro', qr_R n (qr_P P e q) N' E cd pr cn cx el' → post (nI (qd_b n (qd_t n q))) (nI n, nI (qd_N n), cd, pr, cn, cx, fd, el', ro', ot, nu, tw)) : wpY_turn post (nI n, nI (qd_N n), cd, pr, cn, cx, fd, el, ro, ot, nu, tw) (nI e) := by
  have a1 := R.1
  have a7 := R.2.1
  unfold wpY_turn
  refine qy_badF he (br_t rfl ⟨vp_in_nI he (by omega), ?_⟩)
  refine qr_take R he (qr_elc R he) (fun r1 hr1 => ?_)
  have en : nI n - 1 = nI (n - 1) := by
    have := nI_pred (n - 1)
    rw [Nat.sub_add_cancel a1] at this
    exact this
  refine ⟨by rw [en]; exact qx_i7 (by omega), nm_r (show r1 (nI n - 1).toNatClampNeg = r1 (n - 1) by rw [en, qx_c r1 (by omega)]) (nm_r en ⟨n - 1 + 1, ?_⟩)⟩
  refine qm_t40 (n - 1) r1 (by omega) (fun s' h1 h2 h3 => ?_)
  refine qm_kp R he h (fun a b ha hb => ?_) (fun el' h4 => H el' s' h4)
  have eU : ∀ p, p < n → s p = s' p := fun p hp => by
    cases p with
    | zero => rw [hz, h3, hr1 (n - 1) (by omega), R.2.2.2.1 e he (n - 1) (by omega)]
    | succ p => rw [hs p hp, h1 p (by omega), hr1 p (by omega), R.2.2.2.1 e he p (by omega)]
  rw [eU a (by omega), eU b hb]
end
theorem i_vc_turn {k : Nat} {u : SX} {v : SY} (I : i_Rel k u v) (hk : k + 4 ≤ 2049) (v1 : Int32) : wpX_turn (fun r u' => wpY_turn (fun r' v' => r' = r ∧ i_Rel (k + 4) u' v') v v1) u v1 := by
  obtain ⟨n, P, N, L, E, cd, pr, cn, cx, fd, el, ro, ot, nu, tw, rfl, rfl, R⟩ := I
  rcases qr_el v1 with ⟨e, he, rfl⟩ | ⟨h0, h1⟩
  · exact qm_tX R he (fun N' s q h hs hz => qm_tY R he h hs hz (fun el' ro' h' => ⟨rfl, qr_mk h'⟩))
  · unfold wpX_turn
    refine qx_elF h0 h1 (br_t rfl ?_)
    show wpY_turn _ _ _
    unfold wpY_turn
    exact qy_badT h0 h1 (br_f (by decide) ⟨rfl, qr_mk R⟩)
/-- Y copies row to other -/
theorem qm_m50 {post : Int32 → SY → Prop} {n M : Nat} {cd pr cn cx fd el ro ot nu tw : Nat → Int32} (h7 : n ≤ 7)
    (H : ∀ s' : Nat → Int32, (∀ j, j < n → s' j = 8 * ro j + ot j) → wpY_keep (fun r u => match u with | (f1, f2, b1, b2, b3, b4, b5, b6, b7, b8, b9, b10) => post r (f1, f2, b1, b2, b3, b4, b5, b6, b7, b8, b9, b10)) (nI n, nI M, cd, pr, cn, cx, fd, el, s', ot, nu, tw) 0) : ∃ m, wY_meet_50 post (nI n) (nI M) m (nI 0) cd pr cn cx fd el ro ot nu tw := by
  refine pk_loop (fun m i (s : Nat → Int32) => wY_meet_50 post (nI n) (nI M) m (nI i) cd pr cn cx fd el s ot nu tw) (fun i s => (∀ j, j < i → s j = 8 * ro j + ot j) ∧ ∀ j, i ≤ j → s j = ro j) n 0 ro (Nat.zero_le _) ⟨fun j hj => absurd hj (Nat.not_lt_zero j), fun _ _ => rfl⟩ ?_ ?_
  · intro m s hs
    exact br_t (qx_le (by omega)) (H s hs.1)
  · intro m i s hi hs ih
    refine br_f (qx_ge hi (by omega)) ⟨qx_i7 (by omega), qx_i7 (by omega), qx_i7 (by omega), ?_⟩
    refine nm_r (show upd s (nI i).toNatClampNeg (8 * s (nI i).toNatClampNeg + ot (nI i).toNatClampNeg) = upd s i (8 * ro i + ot i) by rw [nI_clamp (by omega), hs.2 i (Nat.le_refl i)]) (nm_r (nI_1 i) (ih _ ⟨fun j hj => ?_, fun j hj => ?_⟩))
    · by_cases ej : j = i
      · rw [ej, pk_us]
      · rw [pk_un ej]; exact hs.1 j (by omega)
    · rw [pk_un (by omega)]; exact hs.2 j (by omega)
section
variable {n : Nat} {P : Nat → Nat} {N L E cd pr cn cx fd el ro ot nu tw : Nat → Int32}
theorem qm_mX {post : Int32 → SX → Prop} (R : qr_R n P N E cd pr cn cx el)
    (H : ∀ N' s q, qm_H n P E cd pr cn cx el 0 N' s q → (∀ j, j < n → s j = nI (qd_g (qd_t n (P 0)) j * 7 + qd_g (qd_t n (P 1)) j)) → post (nI (qd_b n (qd_t n q))) (nI n, N', s, E)) : wpX_meet post (nI n, N, L, E) := by
  have a7 := R.2.1
  have e7 : (7 : Int32) = nI 7 := rfl
  refine pk_loop (fun m i (s : Nat → Int32) => wX_meet_2 post (nI n) m (nI i) N s E) (fun i s => ∀ j, j < i → s j = nI (qd_g (qd_t n (P 0)) j * 7 + qd_g (qd_t n (P 1)) j)) n 0 L (Nat.zero_le _) (fun j hj => absurd hj (Nat.not_lt_zero j)) ?_ ?_
  · intro m s hs
    exact br_t (qx_le (by omega)) (qm_lab (e := 0) R (by omega) (fun N' q h => H N' s q h hs))
  · intro m i s hi hs ih
    refine br_f (qx_ge hi (by omega)) (qx_nu (e := 0) a7 R.2.2.2.1 (by omega) hi (qx_nu (e := 1) a7 R.2.2.2.1 (by omega) hi ⟨qx_i7 (by omega), ?_⟩))
    refine nm_r (show upd s (nI i).toNatClampNeg (nI (qd_g (qd_t n (P 0)) i) * 7 + nI (qd_g (qd_t n (P 1)) i)) = upd s i (nI (qd_g (qd_t n (P 0)) i * 7 + qd_g (qd_t n (P 1)) i)) by rw [nI_clamp (by omega), e7, pk_mul, nI_add]) (nm_r (nI_1 i) (ih _ (fun j hj => ?_)))
    by_cases ej : j = i
    · rw [ej, pk_us]
    · rw [pk_un ej]; exact hs j (by omega)
theorem qm_mY {post : Int32 → SY → Prop} {q : Nat} {N' s : Nat → Int32} (R : qr_R n P N E cd pr cn cx el) (h : qm_H n P E cd pr cn cx el 0 N' s q) (hs : ∀ j, j < n → s j = nI (qd_g (qd_t n (P 0)) j * 7 + qd_g (qd_t n (P 1)) j))
    (H : ∀ el' ro' ot', qr_R n (qr_P P 0 q) N' E cd pr cn cx el' → post (nI (qd_b n (qd_t n q))) (nI n, nI (qd_N n), cd, pr, cn, cx, fd, el', ro', ot', nu, tw)) : wpY_meet post (nI n, nI (qd_N n), cd, pr, cn, cx, fd, el, ro, ot, nu, tw) := by
  have a1 := R.1
  have a7 := R.2.1
  have e8 : (8 : Int32) = nI 8 := rfl
  unfold wpY_meet
  refine qr_take (e := 1) R (by omega) (R.2.2.2.2.2.2 1 (by omega)) (fun r1 hr1 => ?_)
  refine pk_loop (fun m i (s : Nat → Int32) => wY_meet_12 post (nI n) (nI (qd_N n)) m (nI i) cd pr cn cx fd el r1 s nu tw) (fun i s => ∀ j, j < i → s j = r1 j) n 0 ot (Nat.zero_le _) (fun j hj => absurd hj (Nat.not_lt_zero j)) ?_ ?_
  · intro m2 o1 ho1
    refine br_t (qx_le (by omega)) ?_
    refine qr_take (e := 0) R (by omega) (R.2.2.2.2.2.2 0 (by omega)) (fun r2 hr2 => ?_)
    refine qm_m50 a7 (fun r3 hr3 => ?_)
    refine qm_kp (e := 0) R (by omega) h (fun a b ha hb => ?_) (fun el' h4 => H el' r3 o1 h4)
    have d0 := fun i hi => qf_d7 (i := i) a1 a7 (R.2.2.1 0 (by omega)) hi
    have d1 := fun i hi => qf_d7 (i := i) a1 a7 (R.2.2.1 1 (by omega)) hi
    have er : ∀ p, p < n → r3 p = nI (8 * qd_g (qd_t n (P 0)) p + qd_g (qd_t n (P 1)) p) := fun p hp => by
      rw [hr3 p hp, hr2 p hp, ho1 p hp, hr1 p hp, e8, pk_mul, nI_add]
    have q0 := d0 a (by omega)
    have q1 := d1 a (by omega)
    have q2 := d0 b hb
    have q3 := d1 b hb
    rw [hs a (by omega), hs b hb, er a (by omega), er b hb, nI_eq (by omega) (by omega), nI_eq (by omega) (by omega)]
    omega
  · intro m2 i s2 hi hs2 ih
    refine br_f (qx_ge hi (by omega)) ⟨qx_i7 (by omega), qx_i7 (by omega), ?_⟩
    refine nm_r (show upd s2 (nI i).toNatClampNeg (r1 (nI i).toNatClampNeg) = upd s2 i (r1 i) by rw [nI_clamp (by omega)]) (nm_r (nI_1 i) (ih _ (fun j hj => ?_)))
    by_cases ej : j = i
    · rw [ej, pk_us]
    · rw [pk_un ej]; exact hs2 j (by omega)
end
theorem i_vc_meet {k : Nat} {u : SX} {v : SY} (I : i_Rel k u v) (hk : k + 4 ≤ 2049) : wpX_meet (fun r u' => wpY_meet (fun r' v' => r' = r ∧ i_Rel (k + 4) u' v') v) u := by
  obtain ⟨n, P, N, L, E, cd, pr, cn, cx, fd, el, ro, ot, nu, tw, rfl, rfl, R⟩ := I
  exact qm_mX R (fun N' s q h hs => qm_mY R h hs (fun el' ro' ot' h' => ⟨rfl, qr_mk h'⟩))
end
section
/-! 15: join -/
/-- L holds the kernels of c0 and of the pairs S, and lies in each kernel that holds those of c0 and c1 -/
def qj_K (n c0 c1 : Nat) (L : Nat → Int32) (S : Nat → Nat → Prop) : Prop :=
  (∀ a b, a < n → b < n → qd_g c0 a = qd_g c0 b → L a = L b) ∧ (∀ a b, S a b → L a = L b) ∧
  (∀ F : Nat → Int32, (∀ a b, a < n → b < n → qd_g c0 a = qd_g c0 b → F a = F b) → (∀ a b, a < n → b < n → qd_g c1 a = qd_g c1 b → F a = F b) → ∀ a b, a < n → b < n → L a = L b → F a = F b)
section
variable {n c0 c1 : Nat} {L L' : Nat → Int32} {S S' : Nat → Nat → Prop}
theorem qj_0 (hL : ∀ i, i < n → L i = nI (qd_g c0 i)) (hS : ∀ a b, ¬ S a b) : qj_K n c0 c1 L S := by
  refine ⟨fun a b ha hb e => by rw [hL a ha, hL b hb, e], fun a b h => absurd h (hS a b), fun F h0 _ a b ha hb e => h0 a b ha hb ?_⟩
  rw [hL a ha, hL b hb] at e
  exact (qx_eq8 (qd_g8 _ _) (qd_g8 _ _)).mp e
theorem qj_w (h : qj_K n c0 c1 L S) (hS : ∀ a b, S' a b → L a = L b) : qj_K n c0 c1 L S' := ⟨h.1, hS, h.2.2⟩
theorem qj_step {i j : Nat} (h : qj_K n c0 c1 L S) (hS : ∀ a b, S a b → a < n ∧ b < n) (hi : i < n) (hj : j < n) (hc : qd_g c1 i = qd_g c1 j)
    (hL : ∀ p, p < n → L' p = if L p = L j then L i else L p) : qj_K n c0 c1 L' S ∧ L' i = L' j := by
  have mono : ∀ a b, a < n → b < n → L a = L b → L' a = L' b := fun a b ha hb e => by rw [hL a ha, hL b hb, e]
  have hij : L' i = L' j := by
    rw [hL i hi, hL j hj, if_pos rfl]
    by_cases e : L i = L j
    · rw [if_pos e]
    · rw [if_neg e]
  refine ⟨⟨fun a b ha hb e => mono a b ha hb (h.1 a b ha hb e), fun a b hs => mono a b (hS a b hs).1 (hS a b hs).2 (h.2.1 a b hs), fun F h0 h1 a b ha hb e => ?_⟩, hij⟩
  have hF := h.2.2 F h0 h1
  have hFij : F i = F j := h1 i j hi hj hc
  rw [hL a ha, hL b hb] at e
  by_cases ea : L a = L j
  · by_cases eb : L b = L j
    · exact hF a b ha hb (ea.trans eb.symm)
    · rw [if_pos ea, if_neg eb] at e
      rw [hF a j ha hj ea, ← hFij]
      exact hF i b hi hb e
  · by_cases eb : L b = L j
    · rw [if_neg ea, if_pos eb] at e
      rw [hF a i ha hi e, hFij]
      exact hF j b hj hb eb.symm
    · rw [if_neg ea, if_neg eb] at e
      exact hF a b ha hb e
theorem qj_eq {Lo : Nat → Int32} {T : Nat → Nat → Prop} (h : qj_K n c0 c1 L S) (h' : qj_K n c0 c1 Lo T) (hS : ∀ a b, a < b → b < n → qd_g c1 a = qd_g c1 b → S a b) (hT : ∀ a b, a < b → b < n → qd_g c1 a = qd_g c1 b → T a b) :
    ∀ a b, a < n → b < n → (L a = L b ↔ Lo a = Lo b) := by
  have all : ∀ {L : Nat → Int32} {S : Nat → Nat → Prop}, qj_K n c0 c1 L S → (∀ a b, a < b → b < n → qd_g c1 a = qd_g c1 b → S a b) → ∀ a b, a < n → b < n → qd_g c1 a = qd_g c1 b → L a = L b := by
    intro L S h hS a b ha hb e
    rcases Nat.lt_trichotomy a b with hl | he | hg
    · exact h.2.1 a b (hS a b hl hb e)
    · rw [he]
    · exact (h.2.1 b a (hS b a hg ha e.symm)).symm
  intro a b ha hb
  exact ⟨h.2.2 Lo h'.1 (all h' hT) a b ha hb, h'.2.2 L h.1 (all h hS) a b ha hb⟩
end
section
variable {n : Nat} {P : Nat → Nat} {N L E cd pr cn cx fd el ro ot nu tw : Nat → Int32}
theorem qj_X {post : Int32 → SX → Prop} (R : qr_R n P N E cd pr cn cx el)
    (H : ∀ N' s q, qm_H n P E cd pr cn cx el 0 N' s q → qj_K n (qd_t n (P 0)) (qd_t n (P 1)) s (fun a b => a < n ∧ a < b ∧ b < n ∧ qd_g (qd_t n (P 1)) a = qd_g (qd_t n (P 1)) b) → post (nI (qd_b n (qd_t n q))) (nI n, N', s, E)) : wpX_join post (nI n, N, L, E) := by
  have a7 := R.2.1
  have hN := R.2.2.2.1
  unfold wpX_join
  refine qx_give (e := 0) a7 (by omega) (fun L1 hL1 => ?_)
  have hL1' : ∀ i, i < n → L1 i = nI (qd_g (qd_t n (P 0)) i) := fun i hi => by rw [hL1 i hi]; exact hN 0 (by omega) i hi
  refine pk_loop (fun m i (s : Nat → Int32) => wX_join_7 post m (nI i) (nI n) N s E) (fun i s => qj_K n (qd_t n (P 0)) (qd_t n (P 1)) s (fun a b => a < i ∧ a < b ∧ b < n ∧ qd_g (qd_t n (P 1)) a = qd_g (qd_t n (P 1)) b)) n 0 L1 (Nat.zero_le _) (qj_0 hL1' (fun a b h => absurd h.1 (Nat.not_lt_zero a))) ?_ ?_
  · intro m s hs
    exact br_t (qx_le (by omega)) (qm_lab (e := 0) R (by omega) (fun N' q h => H N' s q h hs))
  · intro m i s hi hs ih
    refine br_f (qx_ge hi (by omega)) (nm_r (nI_1 i) ?_)
    refine pk_loop (fun m2 j (s : Nat → Int32) => wX_join_19 post (wX_join_7 post m) (nI i) m2 (nI j) (nI n) N s E) (fun j s => i < j ∧ qj_K n (qd_t n (P 0)) (qd_t n (P 1)) s (fun a b => (a < i ∨ (a = i ∧ b < j)) ∧ a < b ∧ b < n ∧ qd_g (qd_t n (P 1)) a = qd_g (qd_t n (P 1)) b)) n (i + 1) s (by omega) ⟨by omega, qj_w hs (fun a b h => hs.2.1 a b ⟨by omega, h.2⟩)⟩ ?_ ?_
    · intro m2 s2 hs2
      exact br_t (qx_le (by omega)) (nm_r (nI_1 i) (ih _ (qj_w hs2.2 (fun a b h => hs2.2.2.1 a b ⟨by omega, h.2⟩))))
    · intro m2 j s2 hj hs2 jh
      refine br_f (qx_ge hj (by omega)) (qx_tg (e := 1) a7 hN (by omega) hi hj ?_ ?_)
      · intro e
        refine br_f (by decide) (qx_merge a7 hi hj (fun s3 hs3 => ?_))
        have hst := qj_step (i := i) (j := j) hs2.2 (fun a b h => ⟨by omega, by omega⟩) hi hj e hs3
        refine nm_r (nI_1 j) (jh _ ⟨by omega, qj_w hst.1 (fun a b h => ?_)⟩)
        by_cases hab : a = i ∧ b = j
        · rw [hab.1, hab.2]; exact hst.2
        · exact hst.1.2.1 a b ⟨by omega, h.2⟩
      · intro e
        refine br_t rfl (nm_r (nI_1 j) (jh _ ⟨by omega, qj_w hs2.2 (fun a b h => ?_)⟩))
        by_cases hab : a = i ∧ b = j
        · exact absurd (by rw [← hab.1, ← hab.2]; exact h.2.2.2) e
        · exact hs2.2.2.1 a b ⟨by omega, h.2⟩
theorem qj_Y {post : Int32 → SY → Prop} {q : Nat} {N' s : Nat → Int32} (R : qr_R n P N E cd pr cn cx el) (h : qm_H n P E cd pr cn cx el 0 N' s q)
    (hs : qj_K n (qd_t n (P 0)) (qd_t n (P 1)) s (fun a b => a < n ∧ a < b ∧ b < n ∧ qd_g (qd_t n (P 1)) a = qd_g (qd_t n (P 1)) b))
    (H : ∀ el' ro' ot', qr_R n (qr_P P 0 q) N' E cd pr cn cx el' → post (nI (qd_b n (qd_t n q))) (nI n, nI (qd_N n), cd, pr, cn, cx, fd, el', ro', ot', nu, tw)) : wpY_join post (nI n, nI (qd_N n), cd, pr, cn, cx, fd, el, ro, ot, nu, tw) := by
  have a7 := R.2.1
  unfold wpY_join
  refine qr_take (e := 1) R (by omega) (R.2.2.2.2.2.2 1 (by omega)) (fun r1 hr1 => ?_)
  refine pk_loop (fun m i (s : Nat → Int32) => wY_join_12 post (nI n) (nI (qd_N n)) m (nI i) cd pr cn cx fd el r1 s nu tw) (fun i s => ∀ j, j < i → s j = r1 j) n 0 ot (Nat.zero_le _) (fun j hj => absurd hj (Nat.not_lt_zero j)) ?_ ?_
  · intro m2 o1 ho1
    refine br_t (qx_le (by omega)) ?_
    refine qr_take (e := 0) R (by omega) (R.2.2.2.2.2.2 0 (by omega)) (fun r2 hr2 => ?_)
    have ho : ∀ p, p < n → o1 p = nI (qd_g (qd_t n (P 1)) p) := fun p hp => by rw [ho1 p hp, hr1 p hp]
    refine pk_loop (fun m i (s : Nat → Int32) => wY_join_50 post m (nI i) (nI n) (nI (qd_N n)) cd pr cn cx fd el s o1 nu tw) (fun i s => qj_K n (qd_t n (P 0)) (qd_t n (P 1)) s (fun a b => a < i ∧ a < n ∧ b < n ∧ qd_g (qd_t n (P 1)) a = qd_g (qd_t n (P 1)) b)) n 0 r2 (Nat.zero_le _) (qj_0 hr2 (fun a b h => absurd h.1 (Nat.not_lt_zero a))) ?_ ?_
    · intro m3 s3 hs3
      refine br_t (qx_le (by omega)) ?_
      refine qm_kp (e := 0) R (by omega) h (fun a b ha hb => ?_) (fun el' h4 => H el' s3 o1 h4)
      exact qj_eq hs hs3 (fun a b h1 h2 h3 => ⟨by omega, h1, h2, h3⟩) (fun a b h1 h2 h3 => ⟨by omega, by omega, h2, h3⟩) a b (by omega) hb
    · intro m3 i s3 hi hs3 ih
      refine br_f (qx_ge hi (by omega)) ?_
      refine pk_loop (fun m j (s : Nat → Int32) => wY_join_60 post (wY_join_50 post m3) (nI i) m (nI j) (nI n) (nI (qd_N n)) cd pr cn cx fd el s o1 nu tw) (fun j s => qj_K n (qd_t n (P 0)) (qd_t n (P 1)) s (fun a b => (a < i ∨ (a = i ∧ b < j)) ∧ a < n ∧ b < n ∧ qd_g (qd_t n (P 1)) a = qd_g (qd_t n (P 1)) b)) n 0 s3 (Nat.zero_le _) (qj_w hs3 (fun a b h => hs3.2.1 a b ⟨by omega, h.2⟩)) ?_ ?_
      · intro m4 s4 hs4
        exact br_t (qx_le (by omega)) (nm_r (nI_1 i) (ih _ (qj_w hs4 (fun a b h => hs4.2.1 a b ⟨by omega, h.2⟩))))
      · intro m4 j s4 hj hs4 jh
        refine br_f (qx_ge hj (by omega)) ⟨qx_i7 (by omega), qx_i7 (by omega), qx_bc ((qx_c o1 (by omega)).trans (ho i hi)) ((qx_c o1 (by omega)).trans (ho j hj)) ?_ ?_⟩
        · intro e
          have e' := (qx_eq8 (qd_g8 _ _) (qd_g8 _ _)).mp e
          refine ⟨qx_i7 (by omega), qx_i7 (by omega), ?_⟩
          refine qy_unite a7 (fun s5 hs5 => ?_)
          rw [qx_c s4 (by omega), qx_c s4 (by omega)] at hs5
          have hst := qj_step (i := j) (j := i) hs4 (fun a b h => ⟨h.2.1, h.2.2.1⟩) hj hi e'.symm hs5
          refine nm_r (nI_1 j) (jh _ (qj_w hst.1 (fun a b h => ?_)))
          by_cases hab : a = i ∧ b = j
          · rw [hab.1, hab.2]; exact hst.2.symm
          · exact hst.1.2.1 a b ⟨by omega, h.2⟩
        · intro e
          refine nm_r (nI_1 j) (jh _ (qj_w hs4 (fun a b h => ?_)))
          by_cases hab : a = i ∧ b = j
          · exact absurd (by rw [← hab.1, ← hab.2, h.2.2.2]) e
          · exact hs4.2.1 a b ⟨by omega, h.2⟩
  · intro m2 i s2 hi hs2 ih
    refine br_f (qx_ge hi (by omega)) ⟨qx_i7 (by omega), qx_i7 (by omega), ?_⟩
    refine nm_r (show upd s2 (nI i).toNatClampNeg (r1 (nI i).toNatClampNeg) = upd s2 i (r1 i) by rw [nI_clamp (by omega)]) (nm_r (nI_1 i) (ih _ (fun j hj => ?_)))
    by_cases ej : j = i
    · rw [ej, pk_us]
    · rw [pk_un ej]; exact hs2 j (by omega)
end
theorem i_vc_join {k : Nat} {u : SX} {v : SY} (I : i_Rel k u v) (hk : k + 4 ≤ 2049) : wpX_join (fun r u' => wpY_join (fun r' v' => r' = r ∧ i_Rel (k + 4) u' v') v) u := by
  obtain ⟨n, P, N, L, E, cd, pr, cn, cx, fd, el, ro, ot, nu, tw, rfl, rfl, R⟩ := I
  exact qj_X R (fun N' s q h hs => qj_Y R h hs (fun el' ro' ot' h' => ⟨rfl, qr_mk h'⟩))
end
section
/-! 16: uncross, complement -/
theorem qd_lc_iff {n c i j : Nat} : qd_lc n c i j = true ↔ ¬ qd_g c i = qd_g c j ∧ ∃ k, k < n ∧ j < k ∧ qd_g c k = qd_g c i ∧ ∃ l, l < n ∧ k < l ∧ qd_g c l = qd_g c j := by
  unfold qd_lc
  simp only [qd_biNot, qd_biAnd, qd_ex_iff, Nat.blt_eq, qd_rl_iff]
theorem qu_lc {n c i j : Nat} {L : Nat → Int32} (hL : ∀ p, p < n → L p = nI (qd_g c p)) (hi : i < n) (hj : j < n) : qx_LC n L i j ↔ qd_lc n c i j = true := by
  have q : ∀ i j, i < n → j < n → (L i = L j ↔ qd_g c i = qd_g c j) := fun i j hi hj => by
    rw [hL i hi, hL j hj]; exact qx_eq8 (qd_g8 _ _) (qd_g8 _ _)
  rw [qd_lc_iff]
  constructor
  · rintro ⟨h1, k, l, h2, h3, h4, h5, h6⟩
    exact ⟨fun h => h1 ((q i j hi hj).mpr h), k, by omega, h2, (q k i (by omega) hi).mp h5, l, h4, h3, (q l j h4 hj).mp h6⟩
  · rintro ⟨h1, k, hk, h2, h3, l, hl, h4, h5⟩
    exact ⟨fun h => h1 ((q i j hi hj).mp h), k, l, h2, h4, hl, (q k i hk hi).mpr h3, (q l j hl hj).mpr h5⟩
theorem qd_uiS (n i c m : Nat) : qd_ui n i c (m + 1) = qd_bi (Nat.blt i m) (qd_bi (qd_lc n (qd_ui n i c m) i m) (qd_mg n (qd_ui n i c m) i m) (qd_ui n i c m)) (qd_ui n i c m) := rfl
theorem qd_ui_lo {n i c : Nat} : ∀ {m : Nat}, m ≤ i + 1 → qd_ui n i c m = c := by
  intro m
  induction m with
  | zero => intro _; rfl
  | succ m ih =>
    intro h
    rw [qd_uiS, qd_bi_f (by rw [Nat.blt_eq]; omega), ih (by omega)]
theorem qu_mg {n c i j : Nat} {L L' : Nat → Int32} (hL : ∀ p, p < n → L p = nI (qd_g c p)) (hi : i < n) (hj : j < n) (hL' : ∀ p, p < n → L' p = if L p = L j then L i else L p) :
    ∀ p, p < n → L' p = nI (qd_g (qd_mg n c i j) p) := by
  intro p hp
  have e : qd_g (qd_mg n c i j) p = qd_bi (Nat.beq (qd_g c p) (qd_g c j)) (qd_g c i) (qd_g c p) := by
    refine qd_g_pk (f := fun p => qd_bi (Nat.beq (qd_g c p) (qd_g c j)) (qd_g c i) (qd_g c p)) (fun p _ => ?_) p hp
    show qd_bi (Nat.beq (qd_g c p) (qd_g c j)) (qd_g c i) (qd_g c p) < 8
    by_cases h : Nat.beq (qd_g c p) (qd_g c j) = true
    · rw [qd_bi_t h]; exact qd_g8 _ _
    · rw [qd_bi_f h]; exact qd_g8 _ _
  rw [hL' p hp, e]
  by_cases h : qd_g c p = qd_g c j
  · rw [qd_bi_t (by rw [Nat.beq_eq]; exact h), if_pos (by rw [hL p hp, hL j hj, h]), hL i hi]
  · rw [qd_bi_f (by rw [Nat.beq_eq]; exact h), if_neg (fun h' => h (by rw [hL p hp, hL j hj] at h'; exact (qx_eq8 (qd_g8 _ _) (qd_g8 _ _)).mp h')), hL p hp]
/-- labels nI (digits of c) and the place q with this kernel have one mask -/
theorem qu_m {n c q : Nat} {L : Nat → Int32} (hL : ∀ p, p < n → L p = nI (qd_g c p)) (hK : ∀ i j, i < j → j < n → (qd_g (qd_t n q) i = qd_g (qd_t n q) j ↔ L i = L j)) : qd_m n (qd_t n q) = qd_m n c := by
  refine qd_pmC (fun i j hi hj => ?_)
  rw [Bool.eq_iff_iff, qd_rl_iff, qd_rl_iff, hK i j hi hj, hL i (by omega), hL j hj]
  exact qx_eq8 (qd_g8 _ _) (qd_g8 _ _)
theorem qu_0 {n p : Nat} (h1 : 1 ≤ n) (h7 : n ≤ 7) : qd_x n (qd_t n 0) = false ∧ qd_F n p 0 := by
  have hz : ∀ i, qd_g (qd_t n 0) i = 0 := fun i => by
    rw [qf_t0 h1 h7, qd_g_eq, Nat.zero_div]
  constructor
  · cases hx : qd_x n (qd_t n 0) with
    | false => rfl
    | true =>
      unfold qd_x at hx
      rw [qd_cr_iff] at hx
      obtain ⟨i, j, k, l, _, _, _, _, h, _⟩ := hx
      exact absurd (qd_rl_iff.mpr (by rw [hz, hz])) h
  · rw [qf_F h7]
    intro i j _ _ _
    rw [hz, hz]
section
variable {n : Nat} {P : Nat → Nat} {N L E cd pr cn cx fd el ro ot nu tw : Nat → Int32}
theorem qu_fin {post : Int32 → Prop} {p q : Nat} (R : qr_R n P N E cd pr cn cx el) (hp : p < qd_N n) (hq : q < qd_N n) (H1 : qd_F n p q → post 1) (H0 : ¬ qd_F n p q → post 0) : wpY_isFiner post (nI n, nI (qd_N n), cd, pr, cn, cx, fd, el, ro, ot, nu, tw) (nI p) (nI q) := by
  have a7 := R.2.1
  have hM := (qf_N1 R.1 a7).2
  exact qy_fin (by omega) (by omega) (R.2.2.2.2.2.1.2.1 p hp) (R.2.2.2.2.2.1.2.1 q hq) (qr_m21 a7 _) (qr_m21 a7 _) H1 H0
theorem qu_cx (R : qr_R n P N E cd pr cn cx el) {p : Nat} (hp : p < qd_N n) : cx (nI p).toNatClampNeg = qx_b (qd_x n (qd_t n p)) := by
  have hM := (qf_N1 R.1 R.2.1).2
  rw [qx_c cx (by omega)]
  exact R.2.2.2.2.2.1.2.2.2 p hp
theorem qu_cn (R : qr_R n P N E cd pr cn cx el) {p : Nat} (hp : p < qd_N n) : cn (nI p).toNatClampNeg = nI (qd_b n (qd_t n p)) := by
  have hM := (qf_N1 R.1 R.2.1).2
  rw [qx_c cn (by omega)]
  exact R.2.2.2.2.2.1.2.2.1 p hp
theorem qu_b8 (R : qr_R n P N E cd pr cn cx el) (p : Nat) : qd_b n (qd_t n p) < 8 := Nat.lt_of_le_of_lt qd_bf_le (by have := R.2.1; omega)
theorem qu_un {post : Int32 → SY → Prop} {e q : Nat} (R : qr_R n P N E cd pr cn cx el) (he : e < 2) (hq : q < qd_N n) (hx : qd_x n (qd_t n q) = false) (hF : qd_F n (P e) q)
    (hu : ∀ b, b < qd_N n → qd_x n (qd_t n b) = false → qd_F n (P e) b → b = q ∨ qd_b n (qd_t n b) < qd_b n (qd_t n q))
    (H : post (nI (qd_b n (qd_t n q))) (nI n, nI (qd_N n), cd, pr, cn, cx, fd, upd el e (nI q), ro, ot, nu, tw)) : wpY_uncross post (nI n, nI (qd_N n), cd, pr, cn, cx, fd, el, ro, ot, nu, tw) (nI e) := by
  have a1 := R.1
  have a7 := R.2.1
  have hM := (qf_N1 a1 a7).2
  have h2 : vp_in (nI e) 2 := vp_in_nI he (by omega)
  unfold wpY_uncross
  refine qy_badF he (br_t rfl ?_)
  refine pk_loop (fun m k (s : Nat) => wY_uncross_15 post (nI e) (nI n) (nI (qd_N n)) cd pr cn cx fd el ro ot nu tw m (nI s) (nI k)) (fun k s => s < qd_N n ∧ (s = q ∨ (k ≤ q ∧ qd_b n (qd_t n s) < qd_b n (qd_t n q)))) (qd_N n) 0 0 (Nat.zero_le _) ⟨by omega, ?_⟩ ?_ ?_
  · have h0 := qu_0 (p := P e) a1 a7
    rcases hu 0 (by omega) h0.1 h0.2 with h | h
    · exact Or.inl h
    · exact Or.inr ⟨Nat.zero_le _, h⟩
  · rintro m s ⟨hs, h⟩
    have es : s = q := by
      rcases h with h | h
      · exact h
      · omega
    subst es
    refine br_t (nI_le (Nat.le_refl _) (by omega)) ⟨h2, nm_r (congrArg (fun j => upd el j (nI s)) (nI_clamp (by omega))) ⟨qy_i877 (by omega), ?_⟩⟩
    rw [qu_cn R hs]
    exact H
  · rintro m k s hk ⟨hs, h⟩ ih
    have hb1 := qu_b8 R k
    have hb2 := qu_b8 R s
    have keep : (s = q ∨ (k + 1 ≤ q ∧ qd_b n (qd_t n s) < qd_b n (qd_t n q))) → wY_uncross_15 post (nI e) (nI n) (nI (qd_N n)) cd pr cn cx fd el ro ot nu tw m (nI s) (nI (k + 1)) := fun h => ih s ⟨hs, h⟩
    refine br_f (nI_ge hk (by omega)) ⟨qy_i877 (by omega), qx_bc (qu_cx R hk) rfl ?_ ?_⟩
    · intro e1
      have hxk : qd_x n (qd_t n k) = false := by
        cases hh : qd_x n (qd_t n k) with
        | false => rfl
        | true => rw [hh] at e1; exact absurd e1 (by decide)
      refine ⟨h2, ?_⟩
      rw [qr_elc R he]
      refine qu_fin R (R.2.2.1 e he) hk ?_ ?_
      · intro hf
        refine br_f (by decide) ⟨qy_i877 (by omega), qy_i877 (by omega), ?_⟩
        rw [qu_cn R hk, qu_cn R hs]
        by_cases hle : qd_b n (qd_t n k) ≤ qd_b n (qd_t n s)
        · refine br_t (nI_le hle (by omega)) (nm_r (nI_1 k) (keep ?_))
          rcases h with h | ⟨h, h'⟩
          · exact Or.inl h
          · refine Or.inr ⟨?_, h'⟩
            have : k ≠ q := fun ek => by subst ek; omega
            omega
        · refine br_f (nI_ge (by omega) (by omega)) (nm_r (nI_1 k) (ih k ⟨hk, ?_⟩))
          rcases hu k hk hxk hf with h3 | h3
          · exact Or.inl h3
          · rcases h with h | ⟨h, h'⟩
            · subst h; omega
            · refine Or.inr ⟨?_, h3⟩
              have : k ≠ q := fun ek => by subst ek; omega
              omega
      · intro hf
        refine br_t rfl (nm_r (nI_1 k) (keep ?_))
        rcases h with h | ⟨h, h'⟩
        · exact Or.inl h
        · refine Or.inr ⟨?_, h'⟩
          have : k ≠ q := fun ek => hf (ek ▸ hF)
          omega
    · intro e1
      refine nm_r (nI_1 k) (keep ?_)
      rcases h with h | ⟨h, h'⟩
      · exact Or.inl h
      · refine Or.inr ⟨?_, h'⟩
        have : k ≠ q := fun ek => e1 (by rw [ek, hx]; rfl)
        omega
theorem qu_X {post : Int32 → SX → Prop} {e : Nat} (R : qr_R n P N E cd pr cn cx el) (he : e < 2)
    (H : ∀ N' s q, qm_H n P E cd pr cn cx el e N' s q → qd_m n (qd_t n q) = qd_m n (qd_un n (qd_t n (P e)) n) → post (nI (qd_b n (qd_t n q))) (nI n, N', s, E)) : wpX_uncross post (nI n, N, L, E) (nI e) := by
  have a7 := R.2.1
  have hN := R.2.2.2.1
  unfold wpX_uncross
  refine qx_elT he (br_f (by decide) ?_)
  refine qx_give a7 he (fun L1 hL1 => ?_)
  have hL1' : ∀ i, i < n → L1 i = nI (qd_g (qd_t n (P e)) i) := fun i hi => by rw [hL1 i hi]; exact hN e he i hi
  refine pk_loop (fun m i (s : Nat → Int32) => wX_uncross_18 post (nI e) m (nI i) (nI n) N s E) (fun i s => ∀ p, p < n → s p = nI (qd_g (qd_un n (qd_t n (P e)) i) p)) n 0 L1 (Nat.zero_le _) hL1' ?_ ?_
  · intro m s hs
    exact br_t (qx_le (by omega)) (qm_lab R he (fun N' q h => H N' s q h (qu_m hs h.2.1)))
  · intro m i s hi hs ih
    refine br_f (qx_ge hi (by omega)) (nm_r (nI_1 i) ?_)
    refine pk_loop (fun m2 j (s : Nat → Int32) => wX_uncross_30 post (wX_uncross_18 post (nI e) m) (nI e) (nI i) m2 (nI j) (nI n) N s E) (fun j s => i < j ∧ ∀ p, p < n → s p = nI (qd_g (qd_ui n i (qd_un n (qd_t n (P e)) i) j) p)) n (i + 1) s (by omega) ⟨by omega, fun p hp => by rw [qd_ui_lo (Nat.le_refl _)]; exact hs p hp⟩ ?_ ?_
    · intro m2 s2 hs2
      exact br_t (qx_le (by omega)) (nm_r (nI_1 i) (ih _ hs2.2))
    · intro m2 j s2 hj hs2 jh
      have hlc := qu_lc hs2.2 hi hj
      refine br_f (qx_ge hj (by omega)) (qx_lc a7 hs2.1 hj ?_ ?_)
      · intro h
        refine br_f (by decide) (qx_merge a7 hi hj (fun s3 hs3 => nm_r (nI_1 j) (jh _ ⟨by omega, ?_⟩)))
        rw [qd_uiS, qd_bi_t (by rw [Nat.blt_eq]; exact hs2.1), qd_bi_t (hlc.mp h)]
        exact qu_mg hs2.2 hi hj hs3
      · intro h
        refine br_t rfl (nm_r (nI_1 j) (jh _ ⟨by omega, ?_⟩))
        rw [qd_uiS, qd_bi_t (by rw [Nat.blt_eq]; exact hs2.1), qd_bi_f (fun h' => h (hlc.mpr h'))]
        exact hs2.2
end
theorem i_vc_uncross {k : Nat} {u : SX} {v : SY} (I : i_Rel k u v) (hk : k + 4 ≤ 2049) (v1 : Int32) : wpX_uncross (fun r u' => wpY_uncross (fun r' v' => r' = r ∧ i_Rel (k + 4) u' v') v v1) u v1 := by
  obtain ⟨n, P, N, L, E, cd, pr, cn, cx, fd, el, ro, ot, nu, tw, rfl, rfl, R⟩ := I
  have a1 := R.1
  have a7 := R.2.1
  rcases qr_el v1 with ⟨e, he, rfl⟩ | ⟨h0, h1⟩
  · refine qu_X R he (fun N' s q h hm => ?_)
    obtain ⟨q', hq', hm', hx, hF, hu⟩ := qf_u a1 a7 (R.2.2.1 e he)
    have eq : q = q' := qf_minj a1 a7 h.1 hq' (by rw [hm, hm'])
    subst eq
    exact qu_un R he h.1 hx hF hu ⟨rfl, qr_mk (h.2.2 _ pk_us (fun j hj => pk_un hj))⟩
  · unfold wpX_uncross
    refine qx_elF h0 h1 (br_t rfl ?_)
    show wpY_uncross _ _ _
    unfold wpY_uncross
    exact qy_badT h0 h1 (br_f (by decide) ⟨rfl, qr_mk R⟩)
end
section
/-! 17: complement -/
theorem qd_fi_le (p : Nat → Bool) : ∀ n, qd_fi p n ≤ n := by
  intro n
  by_cases h : ∃ i, i < n ∧ p i = true
  · obtain ⟨i, ⟨hi, hp⟩, hm⟩ := pk_least (fun i => i < n ∧ p i = true) h
    rw [qd_fi_at (fun j hj hpj => hm j hj ⟨by omega, hpj⟩) hp hi]
    omega
  · rw [qd_fi_no (fun i hi hp => h ⟨i, hi, hp⟩)]
    exact Nat.le_refl n
theorem qc_kq {n c j : Nat} (h7 : n ≤ 7) (hj : j < n) : qd_g (qd_kq n c) j = qd_kp n c j :=
  qd_g_pk (f := qd_kp n c) (fun i hi => Nat.lt_of_le_of_lt (qd_fi_le _ i) (by omega)) j hj
section
variable {n M : Nat} {P : Nat → Nat} {N L E cd pr cn cx fd el ro ot nu tw : Nat → Int32}
theorem qc_X {post : Int32 → SX → Prop} {e : Nat} (R : qr_R n P N E cd pr cn cx el) (he : e < 2)
    (H0 : ∀ L', qd_x n (qd_t n (P e)) = true → post (-1000001) (nI n, N, L', E))
    (H : ∀ N' s q, ¬ qd_x n (qd_t n (P e)) = true → qm_H n P E cd pr cn cx el e N' s q → qd_m n (qd_t n q) = qd_m n (qd_kq n (qd_t n (P e))) → post (nI (qd_b n (qd_t n q))) (nI n, N', s, E)) : wpX_complement post (nI n, N, L, E) (nI e) := by
  have a7 := R.2.1
  have hN := R.2.2.2.1
  unfold wpX_complement
  refine qx_elT he (br_f (by decide) ?_)
  refine qx_cross a7 hN he (fun L' hx => br_f (by decide) (H0 L' hx)) (fun L' hx => br_t rfl ?_)
  refine pk_loop (fun m i (s : Nat → Int32) => wX_complement_24 post (nI e) (nI n) m (nI i) N s E) (fun i s => ∀ j, j < i → s j = nI (qd_kp n (qd_t n (P e)) j)) n 0 L' (Nat.zero_le _) (fun j hj => absurd hj (Nat.not_lt_zero j)) ?_ ?_
  · intro m s hs
    refine br_t (qx_le (by omega)) (qm_lab R he (fun N' q h => H N' s q hx h (qu_m (fun p hp => ?_) h.2.1)))
    rw [hs p hp, qc_kq a7 hp]
  · intro m i s hi hs ih
    refine br_f (qx_ge hi (by omega)) (qx_lpa a7 hN he hi ⟨qx_i7 (by omega), ?_⟩)
    refine nm_r (congrArg (fun j => upd s j _) (nI_clamp (by omega))) (nm_r (nI_1 i) (ih _ (fun j hj => ?_)))
    by_cases ej : j = i
    · rw [ej, pk_us]
    · rw [pk_un ej]; exact hs j (by omega)
theorem qc_112 {post : Int32 → SY → Prop} {J : Int32 → Int32 → Int32 → Int32 → (Nat → Int32) → (Nat → Int32) → (Nat → Int32) → (Nat → Int32) → (Nat → Int32) → (Nat → Int32) → (Nat → Int32) → (Nat → Int32) → (Nat → Int32) → (Nat → Int32) → Prop} {x1 x2 : Int32} {k : Nat} (h1 : 1 ≤ n) (h7 : n ≤ 7)
    (H : ∀ nu' tw', (∀ i, i < n → nu' (2 * i + 1) = 8 + ro i) → (∀ i, nu' (2 * i) = nu (2 * i)) →
      (qd_cr (qy_R nu') (2 * n) = false → J (nI k) (nI (k + 1)) (nI n) (nI M) cd pr cn cx fd el ro ot nu' tw') ∧ (qd_cr (qy_R nu') (2 * n) = true → J x2 (nI (k + 1)) (nI n) (nI M) cd pr cn cx fd el ro ot nu' tw')) :
    ∃ m, wY_complement_112 post J x1 x2 (nI k) (nI n) (nI M) m (nI 0) cd pr cn cx fd el ro ot nu tw := by
  refine pk_loop (fun m i (s : Nat → Int32) => wY_complement_112 post J x1 x2 (nI k) (nI n) (nI M) m (nI i) cd pr cn cx fd el ro ot s tw) (fun i s => (∀ j, j < i → s (2 * j + 1) = 8 + ro j) ∧ ∀ j, s (2 * j) = nu (2 * j)) n 0 nu (Nat.zero_le _) ⟨fun j hj => absurd hj (Nat.not_lt_zero j), fun _ => rfl⟩ ?_ ?_
  · intro m s hs
    refine br_t (qx_le (by omega)) (qy_cr2n h1 h7 (pk_mul 2 n) (fun tw' => ?_))
    have hH := H s tw' hs.1 hs.2
    cases hc : qd_cr (qy_R s) (2 * n) with
    | false => exact br_t rfl (nm_r (nI_1 k) (hH.1 hc))
    | true => exact br_f (by decide) (nm_r (nI_1 k) (hH.2 hc))
  · intro m i s hi hs ih
    have e2 : 2 * nI i + 1 = nI (2 * i + 1) := by
      rw [show (2 : Int32) = nI 2 from rfl, pk_mul, nI_1]
    refine br_f (qx_ge hi (by omega)) ⟨qx_i7 (by omega), by rw [e2]; exact qy_i14 (by omega), ?_⟩
    refine nm_r (show upd s (2 * nI i + 1).toNatClampNeg (8 + ro (nI i).toNatClampNeg) = upd s (2 * i + 1) (8 + ro i) by rw [e2, nI_clamp (by omega), qx_c ro (by omega)]) (nm_r (nI_1 i) (ih _ ⟨fun j hj => ?_, fun j => ?_⟩))
    · by_cases ej : j = i
      · rw [ej, pk_us]
      · rw [pk_un (by omega)]; exact hs.1 j (by omega)
    · rw [pk_un (by omega)]; exact hs.2 j
theorem qc_73 {post : Int32 → SY → Prop} {J : Int32 → Int32 → Int32 → Int32 → (Nat → Int32) → (Nat → Int32) → (Nat → Int32) → (Nat → Int32) → (Nat → Int32) → (Nat → Int32) → (Nat → Int32) → (Nat → Int32) → (Nat → Int32) → (Nat → Int32) → Prop} {x1 x2 : Int32} {k d : Nat} (h1 : 1 ≤ n) (h7 : n ≤ 7) (hk : k < 877) (hd : cd k = nI d) (hd8 : d < 8 ^ n)
    (H : ∀ nu' tw' ro', (∀ i, i < n → nu' (2 * i + 1) = 8 + nI (qd_g d i)) → (∀ i, i < n → nu' (2 * i) = ro i) →
      (qd_cr (qy_R nu') (2 * n) = false → J (nI k) (nI (k + 1)) (nI n) (nI M) cd pr cn cx fd el ro' ot nu' tw') ∧ (qd_cr (qy_R nu') (2 * n) = true → J x2 (nI (k + 1)) (nI n) (nI M) cd pr cn cx fd el ro' ot nu' tw')) :
    ∃ m, wY_complement_73 post J x1 x2 (nI k) (nI n) (nI M) m (nI 0) cd pr cn cx fd el ro ot nu tw := by
  refine pk_loop (fun m i (s : Nat → Int32) => wY_complement_73 post J x1 x2 (nI k) (nI n) (nI M) m (nI i) cd pr cn cx fd el ro ot s tw) (fun i s => ∀ j, j < i → s (2 * j) = ro j) n 0 nu (Nat.zero_le _) (fun j hj => absurd hj (Nat.not_lt_zero j)) ?_ ?_
  · intro m s hs
    refine br_t (qx_le (by omega)) (qy_take h7 hk hd hd8 (fun r2 hr2 => ?_))
    refine qc_112 h1 h7 (fun nu' tw' h3 h4 => H nu' tw' r2 (fun i hi => ?_) (fun i hi => ?_))
    · rw [h3 i hi, hr2 i hi]
    · rw [h4 i, hs i hi]
  · intro m i s hi hs ih
    have e2 : 2 * nI i = nI (2 * i) := pk_mul 2 i
    refine br_f (qx_ge hi (by omega)) ⟨qx_i7 (by omega), by rw [e2]; exact qy_i14 (by omega), ?_⟩
    refine nm_r (show upd s (2 * nI i).toNatClampNeg (ro (nI i).toNatClampNeg) = upd s (2 * i) (ro i) by rw [e2, nI_clamp (by omega), qx_c ro (by omega)]) (nm_r (nI_1 i) (ih _ (fun j hj => ?_)))
    by_cases ej : j = i
    · rw [ej, pk_us]
    · rw [pk_un (by omega)]; exact hs j (by omega)
theorem qc_R2 {c d : Nat} {nu' : Nat → Int32} (h0 : ∀ i, i < n → nu' (2 * i) = nI (qd_g c i)) (h1 : ∀ i, i < n → nu' (2 * i + 1) = nI (8 + qd_g d i)) : qd_cr (qy_R nu') (2 * n) = qd_cr (qd_R2 c d) (2 * n) := by
  refine qd_crC (fun x y hx hy => ?_)
  have v0 : ∀ x, x < 2 * n → x % 2 = 0 → nu' x = nI (qd_g c (x / 2)) := fun x hx e => by
    have := h0 (x / 2) (by omega)
    rw [show 2 * (x / 2) = x by omega] at this
    exact this
  have v1 : ∀ x, x < 2 * n → x % 2 = 1 → nu' x = nI (8 + qd_g d (x / 2)) := fun x hx e => by
    have := h1 (x / 2) (by omega)
    rw [show 2 * (x / 2) + 1 = x by omega] at this
    exact this
  rw [Bool.eq_iff_iff, qy_R_iff, qd_R2_iff, qd_rl_iff, qd_rl_iff]
  have c1 := qd_g8 c (x / 2)
  have c2 := qd_g8 c (y / 2)
  have d1 := qd_g8 d (x / 2)
  have d2 := qd_g8 d (y / 2)
  rcases Nat.mod_two_eq_zero_or_one x with ex | ex <;> rcases Nat.mod_two_eq_zero_or_one y with ey | ey
  · rw [v0 x hx ex, v0 y hy ey, nI_eq (by omega) (by omega)]; omega
  · rw [v0 x hx ex, v1 y hy ey, nI_eq (by omega) (by omega)]; omega
  · rw [v1 x hx ex, v0 y hy ey, nI_eq (by omega) (by omega)]; omega
  · rw [v1 x hx ex, v1 y hy ey, nI_eq (by omega) (by omega)]; omega
theorem qc_last (h1 : 1 ≤ n) (h7 : n ≤ 7) (c : Nat) : qd_x n (qd_t n (qd_N n - 1)) = false ∧ qd_m n (qd_t n (qd_N n - 1)) &&& qd_cm n c = 0 := by
  have hz : ∀ i j, i < j → j < n → ¬ qd_rl (qd_t n (qd_N n - 1)) i j = true := fun i j hi hj h => by
    rw [qd_rl_iff, qf_tz h1 h7 (show i < n by omega), qf_tz h1 h7 hj] at h
    omega
  constructor
  · cases hx : qd_x n (qd_t n (qd_N n - 1)) with
    | false => rfl
    | true =>
      unfold qd_x at hx
      rw [qd_cr_iff] at hx
      obtain ⟨i, j, k, l, e1, e2, e3, e4, _, h, _⟩ := hx
      exact absurd h (hz i k (by omega) (by omega))
  · unfold qd_m qd_cm
    rw [qd_pm_0 (by omega)]
    intro i j hi hj h
    exact absurd h (hz i j hi hj)
theorem qc_Y {post : Int32 → SY → Prop} {e q : Nat} (R : qr_R n P N E cd pr cn cx el) (he : e < 2) (hxe : qd_x n (qd_t n (P e)) = false) (hq : q < qd_N n) (hx : qd_x n (qd_t n q) = false) (hF : qd_m n (qd_t n q) &&& qd_cm n (qd_t n (P e)) = 0)
    (hu : ∀ b, b < qd_N n → qd_x n (qd_t n b) = false → qd_m n (qd_t n b) &&& qd_cm n (qd_t n (P e)) = 0 → b = q ∨ qd_b n (qd_t n q) < qd_b n (qd_t n b))
    (H : ∀ ro' nu' tw', post (nI (qd_b n (qd_t n q))) (nI n, nI (qd_N n), cd, pr, cn, cx, fd, upd el e (nI q), ro', ot, nu', tw')) : wpY_complement post (nI n, nI (qd_N n), cd, pr, cn, cx, fd, el, ro, ot, nu, tw) (nI e) := by
  have a1 := R.1
  have a7 := R.2.1
  have hM := qf_N1 a1 a7
  have hPe := R.2.2.1 e he
  have h2 : vp_in (nI e) 2 := vp_in_nI he (by omega)
  have en : nI (qd_N n) - 1 = nI (qd_N n - 1) := by
    have := nI_pred (qd_N n - 1)
    rw [Nat.sub_add_cancel hM.1] at this
    exact this
  unfold wpY_complement
  refine qy_badF he (br_t rfl ⟨h2, ?_⟩)
  rw [qr_elc R he, qu_cx R hPe, hxe]
  refine ⟨qy_i877 (by omega), br_t rfl (nm_r en ?_)⟩
  refine pk_loop (fun m k (s : Nat × (Nat → Int32) × (Nat → Int32) × (Nat → Int32)) => wY_complement_37 post (nI e) m (nI s.1) (nI k) (nI n) (nI (qd_N n)) cd pr cn cx fd el s.2.1 ot s.2.2.1 s.2.2.2) (fun k s => s.1 < qd_N n ∧ (s.1 = q ∨ (k ≤ q ∧ qd_b n (qd_t n q) < qd_b n (qd_t n s.1)))) (qd_N n) 0 (qd_N n - 1, ro, nu, tw) (Nat.zero_le _) ⟨by show qd_N n - 1 < qd_N n; omega, ?_⟩ ?_ ?_
  · have h0 := qc_last a1 a7 (qd_t n (P e))
    rcases hu (qd_N n - 1) (by omega) h0.1 h0.2 with h | h
    · exact Or.inl h
    · exact Or.inr ⟨Nat.zero_le _, h⟩
  · rintro m ⟨s, ro', nu', tw'⟩ ⟨hs, h⟩
    have hs' : s < qd_N n := hs
    have es : s = q := by
      rcases h with h | h
      · exact h
      · have := h.1; omega
    subst es
    refine br_t (nI_le (Nat.le_refl _) (by omega)) ⟨h2, nm_r (congrArg (fun j => upd el j (nI s)) (nI_clamp (by omega))) ⟨qy_i877 (by omega), ?_⟩⟩
    rw [qu_cn R hs']
    exact H ro' nu' tw'
  · rintro m k ⟨s, ro', nu', tw'⟩ hk ⟨hs, h⟩ ih
    have hs' : s < qd_N n := hs
    have h' : s = q ∨ (k ≤ q ∧ qd_b n (qd_t n q) < qd_b n (qd_t n s)) := h
    have hb1 := qu_b8 R k
    have hb2 := qu_b8 R s
    have keep : ∀ ro' nu' tw', (s = q ∨ (k + 1 ≤ q ∧ qd_b n (qd_t n q) < qd_b n (qd_t n s))) → wY_complement_37 post (nI e) m (nI s) (nI (k + 1)) (nI n) (nI (qd_N n)) cd pr cn cx fd el ro' ot nu' tw' := fun ro' nu' tw' h => ih (s, ro', nu', tw') ⟨hs', h⟩
    refine br_f (nI_ge hk (by omega)) ⟨qy_i877 (by omega), qy_i877 (by omega), ?_⟩
    rw [qu_cn R hk, qu_cn R hs']
    by_cases hle : qd_b n (qd_t n s) ≤ qd_b n (qd_t n k)
    · refine br_t (nI_le hle (by omega)) (nm_r (nI_1 k) (keep _ _ _ ?_))
      rcases h' with h | ⟨h, h'⟩
      · exact Or.inl h
      · refine Or.inr ⟨?_, h'⟩
        have : k ≠ q := fun ek => by subst ek; omega
        omega
    · refine br_f (nI_ge (by omega) (by omega)) ⟨h2, ?_⟩
      rw [qr_elc R he]
      refine qy_take a7 (by omega) (R.2.2.2.2.2.1.1 _ hPe) (qf_lt a1 a7 hPe) (fun r1 hr1 => ?_)
      refine qc_73 a1 a7 (by omega) (R.2.2.2.2.2.1.1 k hk) (qf_lt a1 a7 hk) (fun nu2 tw2 r2 h3 h4 => ?_)
      have e8 : ∀ i, i < n → nu2 (2 * i + 1) = nI (8 + qd_g (qd_t n k) i) := fun i hi => by
        rw [h3 i hi, show (8 : Int32) = nI 8 from rfl, nI_add]
      rw [qc_R2 (c := qd_t n (P e)) (d := qd_t n k) (fun i hi => by rw [h4 i hi, hr1 i hi]) e8]
      have hc2 := qd_cr2 (n := n) (c := qd_t n (P e)) (d := qd_t n k) (by omega)
      constructor
      · intro hc
        have hc3 : ¬ (qd_x n (qd_t n (P e)) = true ∨ qd_x n (qd_t n k) = true ∨ ¬ qd_m n (qd_t n k) &&& qd_cm n (qd_t n (P e)) = 0) := fun hh => by
          rw [hc2.mpr hh] at hc; exact absurd hc (by decide)
        have hxk : qd_x n (qd_t n k) = false := by
          cases hh : qd_x n (qd_t n k) with
          | false => rfl
          | true => exact absurd (Or.inr (Or.inl hh)) hc3
        have hmk : qd_m n (qd_t n k) &&& qd_cm n (qd_t n (P e)) = 0 := Classical.byContradiction (fun hh => hc3 (Or.inr (Or.inr hh)))
        refine ih (k, r2, nu2, tw2) ⟨hk, ?_⟩
        rcases hu k hk hxk hmk with h5 | h5
        · exact Or.inl h5
        · rcases h' with h | ⟨h, h'⟩
          · subst h; omega
          · refine Or.inr ⟨?_, h5⟩
            have : k ≠ q := fun ek => by subst ek; omega
            omega
      · intro hc
        refine keep r2 nu2 tw2 ?_
        rcases h' with h | ⟨h, h'⟩
        · exact Or.inl h
        · refine Or.inr ⟨?_, h'⟩
          have : k ≠ q := fun ek => by
            subst ek
            rcases hc2.mp hc with h5 | h5 | h5
            · rw [hxe] at h5; exact absurd h5 (by decide)
            · rw [hx] at h5; exact absurd h5 (by decide)
            · exact h5 hF
          omega
end
theorem i_vc_complement {k : Nat} {u : SX} {v : SY} (I : i_Rel k u v) (hk : k + 4 ≤ 2049) (v1 : Int32) : wpX_complement (fun r u' => wpY_complement (fun r' v' => r' = r ∧ i_Rel (k + 4) u' v') v v1) u v1 := by
  obtain ⟨n, P, N, L, E, cd, pr, cn, cx, fd, el, ro, ot, nu, tw, rfl, rfl, R⟩ := I
  have a1 := R.1
  have a7 := R.2.1
  rcases qr_el v1 with ⟨e, he, rfl⟩ | ⟨h0, h1⟩
  · have hPe := R.2.2.1 e he
    have hM := qf_N1 a1 a7
    refine qc_X R he (fun L' hx => ?_) (fun N' s q hx h hm => ?_)
    · show wpY_complement _ _ _
      unfold wpY_complement
      refine qy_badF he (br_t rfl ⟨vp_in_nI he (by omega), ?_⟩)
      rw [qr_elc R he, qu_cx R hPe, hx]
      exact ⟨qy_i877 (by omega), br_f (by decide) ⟨rfl, qr_mk R⟩⟩
    · have hx' : qd_x n (qd_t n (P e)) = false := by
        cases hh : qd_x n (qd_t n (P e)) with
        | false => rfl
        | true => exact absurd hh hx
      obtain ⟨q', hq', hm', hxq, hF, hu⟩ := qf_k a1 a7 hPe hx'
      have eq : q = q' := qf_minj a1 a7 h.1 hq' (by rw [hm, hm'])
      subst eq
      exact qc_Y R he hx' h.1 hxq hF hu (fun ro' nu' tw' => ⟨rfl, qr_mk (h.2.2 _ pk_us (fun j hj => pk_un hj))⟩)
  · unfold wpX_complement
    refine qx_elF h0 h1 (br_t rfl ?_)
    show wpY_complement _ _ _
    unfold wpY_complement
    exact qy_badT h0 h1 (br_f (by decide) ⟨rfl, qr_mk R⟩)
end
section
/-! 18: put, code, blocks, size, crosses, rank, partition, finer, interval, uncrossed -/
theorem qp_s : ∀ n, n < 8 → ((3 * nI n &&& 31).toBitVec.smod 32).toNat = 3 * n := by decide +kernel
theorem qp_28 (n : Nat) : 2 ^ (3 * n) = 8 ^ n := by rw [Nat.pow_mul]
theorem qp_8 {n : Nat} (h7 : n ≤ 7) : 8 ^ n ≤ 2097152 := Nat.le_trans (Nat.pow_le_pow_right (by decide) h7) (by decide)
theorem qd_pk_mod (c : Nat) : ∀ n, qd_pk n (qd_g c) = c % 8 ^ n := by
  intro n
  induction n with
  | zero => rw [Nat.pow_zero, Nat.mod_one]; rfl
  | succ n ih => rw [qd_pkS, ih, qd_g_eq, Nat.mod_pow_succ, Nat.mul_comm]
theorem qd_pk_g {c n : Nat} (h : c < 8 ^ n) : qd_pk n (qd_g c) = c := by rw [qd_pk_mod, Nat.mod_eq_of_lt h]
theorem qd_ct_le (p : Nat → Bool) : ∀ n, qd_ct p n ≤ n := by
  intro n
  induction n with
  | zero => exact Nat.le_refl 0
  | succ n ih =>
    rw [qd_ctS]
    by_cases h : p n = true
    · rw [qd_bi_t h]; omega
    · rw [qd_bi_f h]; omega
section
variable {n : Nat} {P : Nat → Nat} {N L E cd pr cn cx fd el ro ot nu tw : Nat → Int32}
theorem qp_dig {post : Int32 → Prop} {u : SX} {c i : Nat} (hc : c < 2 ^ 31) (hi : i < 8) (H : post (nI (qd_g c i))) : wpX_digit post u (nI c) (nI i) := by
  obtain ⟨f, a, b, d⟩ := u
  show post ((nI c >>> ((3 * nI i) &&& 31)) &&& 7)
  have hl : c / 8 ^ i < 2 ^ 31 := Nat.lt_of_le_of_lt (Nat.div_le_self _ _) hc
  rw [pk_shrN hc _ (3 * i) (qp_s i hi), qp_28, pk_andN (Nat.lt_trans hl (by decide)) 3 (by decide)]
  exact H
theorem qp_code {post : Int32 → Prop} {c : Nat} (h7 : n ≤ 7) (hc : c < 2 ^ 31) (H1 : c < 8 ^ n → (∀ i, i < n → qd_g c i ≤ qd_bf (qd_g c) i) → post 1) (H0 : ¬ (c < 8 ^ n ∧ ∀ i, i < n → qd_g c i ≤ qd_bf (qd_g c) i) → post 0) :
    wpX_isCode post (nI n, N, L, E) (nI c) := by
  refine br_f (nI_pos hc) ?_
  have es : nI c >>> ((3 * nI n) &&& 31) = nI (c / 8 ^ n) := by rw [pk_shrN hc _ (3 * n) (qp_s n (by omega)), qp_28]
  have hp : 0 < 8 ^ n := Nat.pow_pos (by decide)
  by_cases hl : c < 8 ^ n
  · refine br_t (by rw [es, Nat.div_eq_of_lt hl]; rfl) ?_
    refine qx_L (fun m i => wX_isCode_21 post (nI c) (nI n) N L E m (nI (qd_bf (qd_g c) i)) (nI i)) (fun i => ∀ j, j < i → qd_g c j ≤ qd_bf (qd_g c) j) n 0 (Nat.zero_le _) (fun j hj => absurd hj (Nat.not_lt_zero j)) ?_ ?_
    · intro m hI
      exact br_t (qx_le (by omega)) (H1 hl hI)
    · intro m i hi hI ih
      have hb : qd_bf (qd_g c) i ≤ i := qd_bf_le
      have h8 := qd_g8 c i
      refine br_f (qx_ge hi (by omega)) (qp_dig hc (by omega) ?_)
      by_cases hle : qd_g c i ≤ qd_bf (qd_g c) i
      · have ih' := ih (lt_s hI hle)
        refine br_t (nI_le hle (by omega)) ?_
        by_cases he : qd_g c i = qd_bf (qd_g c) i
        · rw [qd_bfS, qd_bi_t (by rw [Nat.beq_eq]; exact he)] at ih'
          exact br_t (by rw [he]) (nm_r (nI_1 _) (nm_r (nI_1 i) ih'))
        · rw [qd_bfS, qd_bi_f (by rw [Nat.beq_eq]; exact he)] at ih'
          exact br_f (fun h => he ((nI_eq (by omega) (by omega)).mp h)) (nm_r (nI_1 i) ih')
      · exact br_f (nI_ge (by omega) (by omega)) (H0 (fun h => hle (h.2 i hi)))
  · refine br_f (fun h => hl ?_) (H0 (fun h => hl h.1))
    rw [es] at h
    have hz := (nI_eq (Nat.lt_of_le_of_lt (Nat.div_le_self _ _) hc) (by decide)).mp (h.trans nI_0.symm)
    rcases Nat.div_eq_zero_iff.mp hz with h1 | h1
    · omega
    · exact h1
theorem qp_Y {post : Int32 → SY → Prop} {e : Nat} {x : Int32} (R : qr_R n P N E cd pr cn cx el) (he : e < 2)
    (H1 : ∀ q, q < qd_N n → nI (qd_t n q) = x → post (nI (qd_b n (qd_t n q))) (nI n, nI (qd_N n), cd, pr, cn, cx, fd, upd el e (nI q), ro, ot, nu, tw))
    (H0 : (∀ q, q < qd_N n → ¬ nI (qd_t n q) = x) → post (-1000000) (nI n, nI (qd_N n), cd, pr, cn, cx, fd, el, ro, ot, nu, tw)) : wpY_put post (nI n, nI (qd_N n), cd, pr, cn, cx, fd, el, ro, ot, nu, tw) (nI e) x := by
  have hM := qf_N1 R.1 R.2.1
  unfold wpY_put
  refine qy_badF he (br_t rfl ?_)
  refine qx_L (fun m k => wY_put_13 post (nI e) x (nI n) (nI (qd_N n)) cd pr cn cx fd el ro ot nu tw m (nI k)) (fun k => ∀ q, q < k → ¬ nI (qd_t n q) = x) (qd_N n) 0 (Nat.zero_le _) (fun j hj => absurd hj (Nat.not_lt_zero j)) ?_ ?_
  · intro m hI
    exact br_t (nI_le (Nat.le_refl _) (by omega)) (H0 hI)
  · intro m k hk hI ih
    refine br_f (nI_ge hk (by omega)) ⟨qy_i877 (by omega), qx_bc ((qx_c cd (by omega)).trans (R.2.2.2.2.2.1.1 k hk)) rfl ?_ ?_⟩
    · intro e1
      refine ⟨vp_in_nI he (by omega), nm_r (congrArg (fun j => upd el j (nI k)) (nI_clamp (by omega))) ⟨qy_i877 (by omega), ?_⟩⟩
      rw [qu_cn R hk]
      exact H1 k hk e1
    · intro e1
      exact nm_r (nI_1 k) (ih (lt_s hI e1))
theorem qp_X {post : Int32 → SX → Prop} {e c : Nat} (R : qr_R n P N E cd pr cn cx el) (he : e < 2) (hc : c < 2 ^ 31)
    (H1 : ∀ N' s q, qm_H n P E cd pr cn cx el e N' s q → c = qd_t n q → post (nI (qd_b n (qd_t n q))) (nI n, N', s, E))
    (H0 : (∀ q, q < qd_N n → ¬ qd_t n q = c) → post (-1000000) (nI n, N, L, E)) : wpX_put post (nI n, N, L, E) (nI e) (nI c) := by
  have a1 := R.1
  have a7 := R.2.1
  unfold wpX_put
  refine qx_elT he (br_f (by decide) (qp_code a7 hc (fun hl hg => br_f (by decide) ?_) (fun hn => br_t rfl (H0 (fun q hq e1 => hn ?_)))))
  · refine pk_loop (fun m i (s : Nat → Int32) => wX_put_21 post (nI e) (nI c) (nI n) m (nI i) N s E) (fun i s => ∀ j, j < i → s j = nI (qd_g c j)) n 0 L (Nat.zero_le _) (fun j hj => absurd hj (Nat.not_lt_zero j)) ?_ ?_
    · intro m s hs
      refine br_t (qx_le (by omega)) (qm_lab R he (fun N' q h => H1 N' s q h ?_))
      have hin := qd_T_in a7 hg
      rw [qd_pk_g hl] at hin
      obtain ⟨q', hq', e1⟩ := qd_in_t hin
      have eq : q = q' := qf_minj a1 a7 h.1 hq' (by rw [qu_m hs h.2.1, e1])
      rw [eq, e1]
    · intro m i s hi hs ih
      refine br_f (qx_ge hi (by omega)) (qp_dig hc (by omega) ⟨qx_i7 (by omega), ?_⟩)
      refine nm_r (congrArg (fun j => upd s j _) (nI_clamp (by omega))) (nm_r (nI_1 i) (ih _ (fun j hj => ?_)))
      by_cases ej : j = i
      · rw [ej, pk_us]
      · rw [pk_un ej]; exact hs j (by omega)
  · rw [← e1]
    exact ⟨qf_lt a1 a7 hq, fun i hi => qf_rg a1 a7 hq hi⟩
end
theorem i_vc_put {k : Nat} {u : SX} {v : SY} (I : i_Rel k u v) (hk : k + 4 ≤ 2049) (v1 : Int32) (v2 : Int32) : wpX_put (fun r u' => wpY_put (fun r' v' => r' = r ∧ i_Rel (k + 4) u' v') v v1 v2) u v1 v2 := by
  obtain ⟨n, P, N, L, E, cd, pr, cn, cx, fd, el, ro, ot, nu, tw, rfl, rfl, R⟩ := I
  have a1 := R.1
  have a7 := R.2.1
  have h8 := qp_8 a7
  rcases qr_el v1 with ⟨e, he, rfl⟩ | ⟨h0, h1⟩
  · by_cases hneg : v2 < 0
    · unfold wpX_put
      refine qx_elT he (br_f (by decide) ?_)
      refine br_t hneg (br_t rfl ?_)
      refine qp_Y R he (fun q hq e1 => ?_) (fun _ => ⟨rfl, qr_mk R⟩)
      have := qf_lt a1 a7 hq
      rw [← e1] at hneg
      exact absurd hneg (nI_pos (by omega))
    · obtain ⟨c, hc, rfl⟩ := nI_of hneg
      refine qp_X R he hc (fun N' s q h ec => ?_) (fun hno => ?_)
      · refine qp_Y R he (fun q' hq' e1 => ?_) (fun hn => absurd (by rw [ec]) (hn q h.1))
        have l1 := qf_lt a1 a7 hq'
        have e2 : qd_t n q' = qd_t n q := by rw [← ec]; exact (nI_eq (by omega) hc).mp e1
        have e3 := qf_inj a1 a7 hq' h.1 e2
        subst e3
        exact ⟨rfl, qr_mk (h.2.2 _ pk_us (fun j hj => pk_un hj))⟩
      · refine qp_Y R he (fun q' hq' e1 => ?_) (fun hn => ⟨rfl, qr_mk R⟩)
        have l1 := qf_lt a1 a7 hq'
        exact absurd ((nI_eq (by omega) hc).mp e1) (hno q' hq')
  · unfold wpX_put
    refine qx_elF h0 h1 (br_t rfl ?_)
    show wpY_put _ _ _ _
    unfold wpY_put
    exact qy_badT h0 h1 (br_f (by decide) ⟨rfl, qr_mk R⟩)
theorem i_vc_code {k : Nat} {u : SX} {v : SY} (I : i_Rel k u v) (hk : k + 4 ≤ 2049) (v1 : Int32) : wpX_code (fun r => wpY_code (fun r' => r' = r ∧ i_Rel (k + 4) u v) v v1) u v1 := by
  obtain ⟨n, P, N, L, E, cd, pr, cn, cx, fd, el, ro, ot, nu, tw, rfl, rfl, R⟩ := I
  have a1 := R.1
  have a7 := R.2.1
  have hM := qf_N1 a1 a7
  generalize hv : i_Rel (k + 4) (nI n, N, L, E) (nI n, nI (qd_N n), cd, pr, cn, cx, fd, el, ro, ot, nu, tw) = rel
  have hrel : rel := by rw [← hv]; exact qr_mk R
  rcases qr_el v1 with ⟨e, he, rfl⟩ | ⟨h0, h1⟩
  · have hPe := R.2.2.1 e he
    have hy : ∀ r, r = nI (qd_t n (P e)) → wpY_code (fun r' => r' = r ∧ rel) (nI n, nI (qd_N n), cd, pr, cn, cx, fd, el, ro, ot, nu, tw) (nI e) := by
      intro r er
      unfold wpY_code
      refine qy_badF he (br_t rfl ⟨vp_in_nI he (by omega), ?_⟩)
      rw [qr_elc R he, qx_c cd (by omega), R.2.2.2.2.2.1.1 _ hPe]
      exact ⟨qy_i877 (by omega), er.symm, hrel⟩
    unfold wpX_code
    refine qx_elT he (br_f (by decide) ?_)
    refine qx_L (fun m i => wX_code_15 (fun r => wpY_code (fun r' => r' = r ∧ rel) (nI n, nI (qd_N n), cd, pr, cn, cx, fd, el, ro, ot, nu, tw) (nI e)) (nI e) (nI n) N L E m (nI (qd_pk i (qd_g (qd_t n (P e))))) (nI i)) (fun _ => True) n 0 (Nat.zero_le _) trivial ?_ ?_
    · intro m _
      exact br_t (qx_le (by omega)) (hy _ (by rw [qf_pk a1 a7 hPe]))
    · intro m i hi _ ih
      have h8 := qd_g8 (qd_t n (P e)) i
      have hb : qd_g (qd_t n (P e)) i * 2 ^ (3 * i) < 2 ^ 32 := by
        rw [qp_28]
        have := qp_8 (n := i) (by omega)
        exact Nat.lt_of_le_of_lt (Nat.mul_le_mul (Nat.le_of_lt h8) this) (by decide)
      refine br_f (qx_ge hi (by omega)) (qx_nu a7 R.2.2.2.1 he hi (nm_r ?_ (nm_r (nI_1 i) (ih trivial))))
      rw [pk_shlN _ (3 * i) (qp_s i (by omega)) hb, nI_add, qp_28]
      rfl
  · unfold wpX_code
    refine qx_elF h0 h1 (br_t rfl ?_)
    show wpY_code _ _ _
    unfold wpY_code
    exact qy_badT h0 h1 (br_f (by decide) ⟨rfl, hrel⟩)
theorem i_vc_blocks {k : Nat} {u : SX} {v : SY} (I : i_Rel k u v) (hk : k + 4 ≤ 2049) (v1 : Int32) : wpX_blocks (fun r => wpY_blocks (fun r' => r' = r ∧ i_Rel (k + 4) u v) v v1) u v1 := by
  obtain ⟨n, P, N, L, E, cd, pr, cn, cx, fd, el, ro, ot, nu, tw, rfl, rfl, R⟩ := I
  have a1 := R.1
  have a7 := R.2.1
  have hM := qf_N1 a1 a7
  rcases qr_el v1 with ⟨e, he, rfl⟩ | ⟨h0, h1⟩
  · have hPe := R.2.2.1 e he
    unfold wpX_blocks
    refine qx_elT he (br_f (by decide) (qx_bb a7 R.2.2.2.1 he (Nat.le_refl n) ?_))
    show wpY_blocks _ _ _
    unfold wpY_blocks
    refine qy_badF he (br_t rfl ⟨vp_in_nI he (by omega), ?_⟩)
    rw [qr_elc R he, qu_cn R hPe]
    exact ⟨qy_i877 (by omega), rfl, qr_mk R⟩
  · unfold wpX_blocks
    refine qx_elF h0 h1 (br_t rfl ?_)
    show wpY_blocks _ _ _
    unfold wpY_blocks
    exact qy_badT h0 h1 (br_f (by decide) ⟨rfl, qr_mk R⟩)
section
variable {n : Nat} {P : Nat → Nat} {N L E cd pr cn cx fd el ro ot nu tw : Nat → Int32}
theorem qs_Y {post : Int32 → SY → Prop} {e i : Nat} (R : qr_R n P N E cd pr cn cx el) (he : e < 2) (hi : i < n)
    (H : ∀ ro', post (nI (qd_pb n (qd_t n (P e)) (qd_g (qd_t n (P e)) i))) (nI n, nI (qd_N n), cd, pr, cn, cx, fd, el, ro', ot, nu, tw)) : wpY_size post (nI n, nI (qd_N n), cd, pr, cn, cx, fd, el, ro, ot, nu, tw) (nI e) (nI i) := by
  have a7 := R.2.1
  unfold wpY_size
  refine qy_badF he (br_t rfl (qy_ptF a7 hi (br_t rfl ⟨vp_in_nI he (by omega), ?_⟩)))
  refine qr_take R he (qr_elc R he) (fun r1 hr1 => ?_)
  refine qx_L (fun m k => wY_size_34 post (nI i) (nI n) (nI (qd_N n)) cd pr cn cx fd el r1 ot nu tw m (nI (qd_pb k (qd_t n (P e)) (qd_g (qd_t n (P e)) i))) (nI k)) (fun _ => True) n 0 (Nat.zero_le _) trivial ?_ ?_
  · intro m _
    exact br_t (qx_le (by omega)) (H r1)
  · intro m k hk _ ih
    have ih' := ih trivial
    have eS : qd_pb (k + 1) (qd_t n (P e)) (qd_g (qd_t n (P e)) i) = qd_bi (Nat.beq (qd_g (qd_t n (P e)) k) (qd_g (qd_t n (P e)) i)) (qd_pb k (qd_t n (P e)) (qd_g (qd_t n (P e)) i) + 1) (qd_pb k (qd_t n (P e)) (qd_g (qd_t n (P e)) i)) := rfl
    refine br_f (qx_ge hk (by omega)) ⟨qx_i7 (by omega), qx_i7 (by omega), qx_bc ((qx_c r1 (by omega)).trans (hr1 k hk)) ((qx_c r1 (by omega)).trans (hr1 i hi)) ?_ ?_⟩
    · intro e1
      rw [eS, qd_bi_t (by rw [Nat.beq_eq]; exact (qx_eq8 (qd_g8 _ _) (qd_g8 _ _)).mp e1)] at ih'
      exact nm_r (nI_1 _) (nm_r (nI_1 k) ih')
    · intro e1
      rw [eS, qd_bi_f (by rw [Nat.beq_eq]; exact fun h => e1 (by rw [h]))] at ih'
      exact nm_r (nI_1 k) ih'
end
theorem i_vc_size {k : Nat} {u : SX} {v : SY} (I : i_Rel k u v) (hk : k + 4 ≤ 2049) (v1 : Int32) (v2 : Int32) : wpX_size (fun r => wpY_size (fun r' v' => r' = r ∧ i_Rel (k + 4) u v') v v1 v2) u v1 v2 := by
  obtain ⟨n, P, N, L, E, cd, pr, cn, cx, fd, el, ro, ot, nu, tw, rfl, rfl, R⟩ := I
  have a1 := R.1
  have a7 := R.2.1
  unfold wpX_size
  rcases qr_el v1 with ⟨e, he, rfl⟩ | ⟨h0, h1⟩
  · refine qx_elT he (br_f (by decide) ?_)
    rcases qr_pt a7 v2 with ⟨i, hi, rfl⟩ | hi
    · refine qx_ptT a7 hi (br_f (by decide) (qx_nu a7 R.2.2.2.1 he hi (qx_pi a7 R.2.2.2.1 he (qd_g8 _ _) ?_)))
      exact qs_Y R he hi (fun ro' => ⟨rfl, qr_mk R⟩)
    · refine qx_ptF hi (br_t rfl ?_)
      show wpY_size _ _ _ _
      unfold wpY_size
      exact qy_badF he (br_t rfl (qy_ptT hi (br_f (by decide) ⟨rfl, qr_mk R⟩)))
  · refine qx_elF h0 h1 (br_t rfl ?_)
    show wpY_size _ _ _ _
    unfold wpY_size
    exact qy_badT h0 h1 (br_f (by decide) ⟨rfl, qr_mk R⟩)
theorem i_vc_crosses {k : Nat} {u : SX} {v : SY} (I : i_Rel k u v) (hk : k + 4 ≤ 2049) (v1 : Int32) : wpX_crosses (fun r u' => wpY_crosses (fun r' => r' = r ∧ i_Rel (k + 4) u' v) v v1) u v1 := by
  obtain ⟨n, P, N, L, E, cd, pr, cn, cx, fd, el, ro, ot, nu, tw, rfl, rfl, R⟩ := I
  have a1 := R.1
  have a7 := R.2.1
  have hM := qf_N1 a1 a7
  unfold wpX_crosses
  rcases qr_el v1 with ⟨e, he, rfl⟩ | ⟨h0, h1⟩
  · have hPe := R.2.2.1 e he
    refine qx_elT he (br_f (by decide) (qx_cross a7 R.2.2.2.1 he (fun L' hx => br_f (by decide) ?_) (fun L' hx => br_t rfl ?_)))
    · show wpY_crosses _ _ _
      unfold wpY_crosses
      refine qy_badF he (br_t rfl ⟨vp_in_nI he (by omega), ?_⟩)
      rw [qr_elc R he, qu_cx R hPe, qx_bt hx]
      exact ⟨qy_i877 (by omega), br_f (by decide) ⟨rfl, qr_mk R⟩⟩
    · show wpY_crosses _ _ _
      unfold wpY_crosses
      refine qy_badF he (br_t rfl ⟨vp_in_nI he (by omega), ?_⟩)
      rw [qr_elc R he, qu_cx R hPe, qx_bf hx]
      exact ⟨qy_i877 (by omega), br_t rfl ⟨rfl, qr_mk R⟩⟩
  · refine qx_elF h0 h1 (br_t rfl ?_)
    show wpY_crosses _ _ _
    unfold wpY_crosses
    exact qy_badT h0 h1 (br_f (by decide) ⟨rfl, qr_mk R⟩)
theorem qn_sub {n i : Nat} (hi : i < n) : nI n - 1 - nI i = nI (n - 1 - i) := by
  have e : nI n - 1 = nI (n - 1) := by
    have := nI_pred (n - 1)
    rw [Nat.sub_add_cancel (by omega)] at this
    exact this
  rw [e, pk_sub (by omega)]
theorem i_vc_rank {k : Nat} {u : SX} {v : SY} (I : i_Rel k u v) (hk : k + 4 ≤ 2049) (v1 : Int32) : wpX_rank (fun r => wpY_rank (fun r' => r' = r ∧ i_Rel (k + 4) u v) v v1) u v1 := by
  obtain ⟨n, P, N, L, E, cd, pr, cn, cx, fd, el, ro, ot, nu, tw, rfl, rfl, R⟩ := I
  have a1 := R.1
  have a7 := R.2.1
  have hM := qf_N1 a1 a7
  generalize hv : i_Rel (k + 4) (nI n, N, L, E) (nI n, nI (qd_N n), cd, pr, cn, cx, fd, el, ro, ot, nu, tw) = rel
  have hrel : rel := by rw [← hv]; exact qr_mk R
  rcases qr_el v1 with ⟨e, he, rfl⟩ | ⟨h0, h1⟩
  · have hPe := R.2.2.1 e he
    have hy : ∀ r, r = nI (P e) → wpY_rank (fun r' => r' = r ∧ rel) (nI n, nI (qd_N n), cd, pr, cn, cx, fd, el, ro, ot, nu, tw) (nI e) := by
      intro r er
      unfold wpY_rank
      refine qy_badF he (br_t rfl ⟨vp_in_nI he (by omega), ?_⟩)
      rw [qr_elc R he]
      exact ⟨er.symm, hrel⟩
    unfold wpX_rank
    refine qx_elT he (br_f (by decide) ?_)
    refine qx_L (fun m i => wX_rank_15 (fun r => wpY_rank (fun r' => r' = r ∧ rel) (nI n, nI (qd_N n), cd, pr, cn, cx, fd, el, ro, ot, nu, tw) (nI e)) (nI e) (nI n) N L E m (nI (qd_sm (fun i => Nat.mul (qd_g (qd_t n (P e)) i) (qd_eg (Nat.sub (Nat.sub n 1) i) (qd_bf (qd_g (qd_t n (P e))) i))) i)) (nI i)) (fun _ => True) n 0 (Nat.zero_le _) trivial ?_ ?_
    · intro m _
      refine br_t (qx_le (by omega)) (hy _ ?_)
      exact congrArg nI (qf_rk a1 a7 hPe)
    · intro m i hi _ ih
      have hb : qd_bf (qd_g (qd_t n (P e))) i ≤ i := qd_bf_le
      refine br_f (qx_ge hi (by omega)) (qx_bb a7 R.2.2.2.1 he (by omega) (qx_nu a7 R.2.2.2.1 he hi (qx_en (r := n - 1 - i) R.2.2.2.2.1 (qn_sub hi) (by omega) (nm_r ?_ (nm_r (nI_1 i) (ih trivial))))))
      rw [pk_mul, nI_add]
      rfl
  · unfold wpX_rank
    refine qx_elF h0 h1 (br_t rfl ?_)
    show wpY_rank _ _ _
    unfold wpY_rank
    exact qy_badT h0 h1 (br_f (by decide) ⟨rfl, hrel⟩)
theorem i_vc_finer {k : Nat} {u : SX} {v : SY} (I : i_Rel k u v) (hk : k + 4 ≤ 2049) : wpX_finer (fun r => wpY_finer (fun r' => r' = r ∧ i_Rel (k + 4) u v) v) u := by
  obtain ⟨n, P, N, L, E, cd, pr, cn, cx, fd, el, ro, ot, nu, tw, rfl, rfl, R⟩ := I
  have a1 := R.1
  have a7 := R.2.1
  have hF : qx_F n (fun e => qd_t n (P e)) ↔ qd_F n (P 0) (P 1) := (qf_F a7).symm
  unfold wpX_finer
  refine qx_fin a7 R.2.2.2.1 (fun h => br_f (by decide) ?_) (fun h => br_t rfl ?_)
  · show wpY_finer _ _
    unfold wpY_finer
    dsimp only
    rw [R.2.2.2.2.2.2 0 (by omega), R.2.2.2.2.2.2 1 (by omega)]
    exact qu_fin R (R.2.2.1 0 (by omega)) (R.2.2.1 1 (by omega)) (fun _ => br_f (by decide) ⟨rfl, qr_mk R⟩) (fun hn => absurd (hF.mp h) hn)
  · show wpY_finer _ _
    unfold wpY_finer
    dsimp only
    rw [R.2.2.2.2.2.2 0 (by omega), R.2.2.2.2.2.2 1 (by omega)]
    exact qu_fin R (R.2.2.1 0 (by omega)) (R.2.2.1 1 (by omega)) (fun hf => absurd (hF.mpr hf) h) (fun _ => br_t rfl ⟨rfl, qr_mk R⟩)
end
section
theorem qk_i7_0 : qk_se qk_i1 (fun e => Nat.beq (qd_eB e) 7) = true := by decide +kernel
theorem qk_i7_1 : qk_se qk_i1 (fun e => Nat.beq (qd_eB e) 6) = true := by decide +kernel
theorem qk_i7_2 : qk_se qk_i1 (fun e => Nat.beq (qd_eB e) 5) = true := by decide +kernel
theorem qk_i7_3 : qk_se qk_i1 (fun e => Nat.blt (qd_eB e) 5) = true := by decide +kernel
theorem qk_i7 : qd_la (qk_i1 7 qk_t7) qk_t7 = true := by
  refine qd_la_iff.mpr (fun e he => ?_)
  have h0 := qd_biImp.mp (qd_la_iff.mp qk_i7_0 e he)
  have h1 := qd_biImp.mp (qd_la_iff.mp qk_i7_1 e he)
  have h2 := qd_biImp.mp (qd_la_iff.mp qk_i7_2 e he)
  have h3 := qd_biImp.mp (qd_la_iff.mp qk_i7_3 e he)
  simp only [Nat.beq_eq, Nat.blt_eq] at h0 h1 h2 h3
  have hb : qd_eB e < 8 := Nat.mod_lt _ (by decide)
  rcases (show qd_eB e = 7 ∨ qd_eB e = 6 ∨ qd_eB e = 5 ∨ qd_eB e < 5 by omega) with h | h | h | h
  · exact h0 h
  · exact h1 h
  · exact h2 h
  · exact h3 h
end
section
/-! 18w: interval by places -/
section
variable {n k : Nat}
theorem qf_i {q : Nat} (h1 : 1 ≤ n) (h7 : n ≤ 7) (hk : k < qd_N n) (hq : q < qd_N n) (hf : qd_F n k q) :
    qd_sm (fun r => qd_bi (qd_bi (qd_Fb n k r) (qd_Fb n r q) false) 1 0) (qd_N n) = qd_iv (qd_pt n (qd_t n k) (qd_t n q)) n := by
  have h8 : n < 8 := by omega
  have h := qk_i1_to (qf_ck qk_i6 qk_i7 h1 h7 hk) _ (qf_en h1 h7 hq) (by rw [(qd_en_all h8).1, (qd_en_all h8).1]; exact hf)
  rw [← qf_tb h1 h7, qd_cs_sm, (qd_en_all h8).2.2.2, (qd_en_all h8).2.2.2] at h
  rw [← h]
  refine qd_smC (fun b hb => ?_)
  show _ = qd_bi (qd_bi (Nat.beq (Nat.land (qd_eM (qd_en n (qd_t n k))) (qd_eM (qd_en n (qd_t n b)))) (qd_eM (qd_en n (qd_t n k)))) (Nat.beq (Nat.land (qd_eM (qd_en n (qd_t n b))) (qd_eM (qd_en n (qd_t n q)))) (qd_eM (qd_en n (qd_t n b)))) false) 1 0
  rw [(qd_en_all h8).1, (qd_en_all h8).1, (qd_en_all h8).1]
  rfl
end
end
section
/-! 19: partition, interval, uncrossed -/
theorem qt_N : ∀ m, m < 7 → Nat.beq (qd_eg (m + 1) 0) (qd_N (m + 1)) = true := by decide +kernel
theorem qt_eg : ∀ r, r < 8 → ∀ u, u < 8 → u + r ≤ 7 → qd_eg r u < 2 ^ 31 := by decide +kernel
theorem qt_egN {n : Nat} (h1 : 1 ≤ n) (h7 : n ≤ 7) : qd_eg n 0 = qd_N n := by
  obtain ⟨m, hm, rfl⟩ := qf_s h1 h7
  have := qt_N m hm
  rw [Nat.beq_eq] at this
  exact this
theorem qd_piS (each u : Nat) (s : Nat × Nat) : qd_pi each (u + 1) s = qd_bi (Nat.ble each (qd_pi each u s).1) ((qd_pi each u s).1 - each, (qd_pi each u s).2 + 1) (qd_pi each u s) := rfl
theorem qd_pi_le (each : Nat) (s : Nat × Nat) : ∀ u, (qd_pi each u s).1 ≤ s.1 ∧ (qd_pi each u s).2 ≤ s.2 + u := by
  intro u
  induction u with
  | zero => exact ⟨Nat.le_refl _, Nat.le_refl _⟩
  | succ u ih =>
    rw [qd_piS]
    by_cases h : Nat.ble each (qd_pi each u s).1 = true
    · rw [qd_bi_t h]
      exact ⟨Nat.le_trans (Nat.sub_le _ _) ih.1, by show (qd_pi each u s).2 + 1 ≤ _; omega⟩
    · rw [qd_bi_f h]
      exact ⟨ih.1, by omega⟩
section
variable {n : Nat} {P : Nat → Nat} {N L E cd pr cn cx fd el ro ot nu tw : Nat → Int32}
theorem qt_in {post : Int32 → Prop} {J : Int32 → Int32 → Int32 → Int32 → Prop} {sum us i each left : Nat} (hi : i < 7) (hu : us ≤ i) (he : each < 2 ^ 31) (hl : left < 2 ^ 31)
    (H : J (nI (sum + (qd_pi each us (left, 0)).2 * 8 ^ i)) (nI (qd_bi (Nat.beq (qd_pi each us (left, 0)).2 us) (us + 1) us)) (nI (qd_pi each us (left, 0)).1) (nI (i + 1))) :
    ∃ m, wX_partition_61 post J (nI sum) (nI us) (nI i) (nI each) (nI n) N L E m (nI left) 0 (nI 0) := by
  have hP := fun u => qd_pi_le each (left, 0) u
  refine qx_L (fun m b => wX_partition_61 post J (nI sum) (nI us) (nI i) (nI each) (nI n) N L E m (nI (qd_pi each b (left, 0)).1) (nI (qd_pi each b (left, 0)).2) (nI b)) (fun _ => True) us 0 (Nat.zero_le _) trivial ?_ ?_
  · intro m _
    have h2 := (hP us).2
    generalize hr : qd_pi each us (left, 0) = r at *
    have h2' : r.2 ≤ us := by simpa using h2
    have hb : r.2 * 2 ^ (3 * i) < 2 ^ 32 := by
      rw [qp_28]
      have := qp_8 (n := i) (by omega)
      exact Nat.lt_of_le_of_lt (Nat.mul_le_mul (show r.2 ≤ 7 by omega) this) (by decide)
    have fin : ∀ x : Nat, J (nI (sum + r.2 * 8 ^ i)) (nI x) (nI r.1) (nI (i + 1)) → wX_partition_99 post J (nI sum) (nI x) (nI r.1) (nI i) (nI r.2) (nI n) N L E := by
      intro x hx
      refine nm_r ?_ (nm_r (nI_1 i) hx)
      rw [pk_shlN _ (3 * i) (qp_s i (by omega)) hb, nI_add, qp_28]
    refine br_t (qx_le (by omega)) ?_
    by_cases h : r.2 = us
    · rw [qd_bi_t (by rw [Nat.beq_eq]; exact h)] at H
      exact br_t (by rw [h]) (nm_r (nI_1 us) (fin _ H))
    · rw [qd_bi_f (by rw [Nat.beq_eq]; exact h)] at H
      exact br_f (fun h' => h ((nI_eq (by omega) (by omega)).mp h')) (fin _ H)
  · intro m b hb _ ih
    have ih' := ih trivial
    have h1 := (hP b).1
    have h1' : (qd_pi each b (left, 0)).1 ≤ left := h1
    rw [qd_piS] at ih'
    refine br_f (qx_ge hb (by omega)) ?_
    by_cases h : each ≤ (qd_pi each b (left, 0)).1
    · rw [qd_bi_t (by rw [Nat.ble_eq]; exact h)] at ih'
      exact br_f (nI_nlt h (by omega)) (nm_r (pk_sub h) (nm_r (nI_1 _) (nm_r (nI_1 b) ih')))
    · rw [qd_bi_f (by rw [Nat.ble_eq]; exact h)] at ih'
      exact br_t (nI_lt (by omega) he) (nm_r (nI_1 b) ih')
theorem qd_poS (n k i : Nat) : qd_po n k (i + 1) = ((qd_po n k i).1 + (qd_pi (qd_eg (n - 1 - i) (qd_po n k i).2.1) (qd_po n k i).2.1 ((qd_po n k i).2.2, 0)).2 * 8 ^ i,
    qd_bi (Nat.beq (qd_pi (qd_eg (n - 1 - i) (qd_po n k i).2.1) (qd_po n k i).2.1 ((qd_po n k i).2.2, 0)).2 (qd_po n k i).2.1) ((qd_po n k i).2.1 + 1) (qd_po n k i).2.1,
    (qd_pi (qd_eg (n - 1 - i) (qd_po n k i).2.1) (qd_po n k i).2.1 ((qd_po n k i).2.2, 0)).1) := rfl
theorem qd_po_le (n k : Nat) : ∀ i, (qd_po n k i).2.1 ≤ i ∧ (qd_po n k i).2.2 ≤ k := by
  intro i
  induction i with
  | zero => exact ⟨Nat.le_refl 0, Nat.le_refl k⟩
  | succ i ih =>
    rw [qd_poS]
    generalize qd_po n k i = s at *
    have hp := qd_pi_le (qd_eg (n - 1 - i) s.2.1) (s.2.2, 0) s.2.1
    generalize qd_pi (qd_eg (n - 1 - i) s.2.1) s.2.1 (s.2.2, 0) = r at *
    have h1 : r.1 ≤ s.2.2 := hp.1
    refine ⟨?_, by show r.1 ≤ k; omega⟩
    show qd_bi (Nat.beq r.2 s.2.1) (s.2.1 + 1) s.2.1 ≤ i + 1
    by_cases h : Nat.beq r.2 s.2.1 = true
    · rw [qd_bi_t h]; omega
    · rw [qd_bi_f h]; omega
theorem qt_X {post : Int32 → Prop} {k : Nat} (R : qr_R n P N E cd pr cn cx el) (hk : k < qd_N n) (H : post (nI (qd_t n k))) : wpX_partition post (nI n, N, L, E) (nI k) := by
  have a1 := R.1
  have a7 := R.2.1
  have hM := qf_N1 a1 a7
  refine br_f (nI_pos (by omega)) (qx_en (u := 0) (r := n) R.2.2.2.2.1 rfl (by omega) ?_)
  rw [qt_egN a1 a7]
  refine br_t (nI_lt hk (by omega)) ?_
  refine qx_L (fun m i => wX_partition_30 post (nI n) N L E m (nI (qd_po n k i).1) (nI (qd_po n k i).2.1) (nI (qd_po n k i).2.2) (nI i)) (fun _ => True) n 0 (Nat.zero_le _) trivial ?_ ?_
  · intro m _
    refine br_t (qx_le (by omega)) ?_
    rw [qf_po a1 a7 hk]
    exact H
  · intro m i hi _ ih
    have hp := qd_po_le n k i
    have ih' := ih trivial
    rw [qd_poS] at ih'
    refine br_f (qx_ge hi (by omega)) (qx_en (r := n - 1 - i) R.2.2.2.2.1 (qn_sub hi) (by omega) ?_)
    exact qt_in (by omega) hp.1 (qt_eg _ (by omega) _ (by omega) (by omega)) (by omega) ih'
end
theorem i_vc_partition {k : Nat} {u : SX} {v : SY} (I : i_Rel k u v) (hk : k + 4 ≤ 2049) (v1 : Int32) : wpX_partition (fun r => wpY_partition (fun r' => r' = r ∧ i_Rel (k + 4) u v) v v1) u v1 := by
  obtain ⟨n, P, N, L, E, cd, pr, cn, cx, fd, el, ro, ot, nu, tw, rfl, rfl, R⟩ := I
  have a1 := R.1
  have a7 := R.2.1
  have hM := qf_N1 a1 a7
  rcases pk_ix v1 (n := qd_N n) (by omega) with h | h | ⟨j, hj, rfl⟩
  · exact br_t h (br_t h ⟨rfl, qr_mk R⟩)
  · have h0 : ¬ v1 < 0 := fun hn => absurd (Int32.lt_of_le_of_lt h hn) (nI_pos (by omega))
    refine br_f h0 (qx_en (u := 0) (r := n) R.2.2.2.2.1 rfl (by omega) ?_)
    rw [qt_egN a1 a7]
    exact br_f (Int32.not_lt.mpr h) (br_f h0 (br_f (Int32.not_lt.mpr h) ⟨rfl, qr_mk R⟩))
  · refine qt_X R hj ?_
    refine br_f (nI_pos (by omega)) (br_t (nI_lt hj (by omega)) ⟨qy_i877 (by omega), ?_⟩)
    rw [qx_c cd (by omega), R.2.2.2.2.2.1.1 j hj]
    exact ⟨rfl, qr_mk R⟩
section
variable {n : Nat} {P : Nat → Nat} {N L E cd pr cn cx fd el ro ot nu tw : Nat → Int32}
theorem qi_bet {post : Int32 → Prop} {r : Nat} (R : qr_R n P N E cd pr cn cx el) (hr : r < qd_N n) (H1 : qd_F n (P 0) r → qd_F n r (P 1) → post 1) (H0 : ¬ (qd_F n (P 0) r ∧ qd_F n r (P 1)) → post 0) : wpY_between post (nI n, nI (qd_N n), cd, pr, cn, cx, fd, el, ro, ot, nu, tw) (nI r) := by
  have p0 := R.2.2.1 0 (by omega)
  have p1 := R.2.2.1 1 (by omega)
  unfold wpY_between
  dsimp only
  rw [R.2.2.2.2.2.2 0 (by omega), R.2.2.2.2.2.2 1 (by omega)]
  refine qu_fin R p0 hr (fun h => br_f (by decide) (qu_fin R hr p1 (fun h' => br_f (by decide) (H1 h h')) (fun h' => br_t rfl (H0 (fun hh => h' hh.2))))) (fun h => br_t rfl (H0 (fun hh => h hh.1)))
theorem qi_Y {post : Int32 → Prop} (R : qr_R n P N E cd pr cn cx el) (H : post (nI (qd_sm (fun r => qd_bi (qd_bi (qd_Fb n (P 0) r) (qd_Fb n r (P 1)) false) 1 0) (qd_N n)))) : wpY_interval post (nI n, nI (qd_N n), cd, pr, cn, cx, fd, el, ro, ot, nu, tw) := by
  have hM := qf_N1 R.1 R.2.1
  refine qx_L (fun m r => wY_interval_4 post (nI n) (nI (qd_N n)) cd pr cn cx fd el ro ot nu tw m (nI (qd_sm (fun r => qd_bi (qd_bi (qd_Fb n (P 0) r) (qd_Fb n r (P 1)) false) 1 0) r)) (nI r)) (fun _ => True) (qd_N n) 0 (Nat.zero_le _) trivial ?_ ?_
  · intro m _
    exact br_t (nI_le (Nat.le_refl _) (by omega)) H
  · intro m r hr _ ih
    have ih' := ih trivial
    rw [qd_smS] at ih'
    refine br_f (nI_ge hr (by omega)) (qi_bet R hr (fun h h' => ?_) (fun h => ?_))
    · rw [qd_bi_t (b := qd_bi (qd_Fb n (P 0) r) (qd_Fb n r (P 1)) false) (qd_biAnd.mpr ⟨qd_Fb_iff.mpr h, qd_Fb_iff.mpr h'⟩)] at ih'
      exact br_f (by decide) (nm_r (nI_1 _) (nm_r (nI_1 r) ih'))
    · rw [qd_bi_f (b := qd_bi (qd_Fb n (P 0) r) (qd_Fb n r (P 1)) false) (fun hh => h ⟨qd_Fb_iff.mp (qd_biAnd.mp hh).1, qd_Fb_iff.mp (qd_biAnd.mp hh).2⟩), Nat.add_zero] at ih'
      exact br_t rfl (nm_r (nI_1 r) ih')
theorem qd_sm0 {f : Nat → Nat} : ∀ {m : Nat}, (∀ i, i < m → f i = 0) → qd_sm f m = 0 := by
  intro m
  induction m with
  | zero => intro _; rfl
  | succ m ih =>
    intro h
    rw [qd_smS, ih (fun i hi => h i (by omega)), h m (by omega)]
theorem qd_pt_le (n p q b : Nat) : qd_pt n p q b ≤ n := qd_ct_le _ n
theorem qi_X {post : Int32 → Prop} (R : qr_R n P N E cd pr cn cx el) (H1 : qd_F n (P 0) (P 1) → post (nI (qd_iv (qd_pt n (qd_t n (P 0)) (qd_t n (P 1))) n))) (H0 : ¬ qd_F n (P 0) (P 1) → post 0) : wpX_interval post (nI n, N, L, E) := by
  have a7 := R.2.1
  have hF : qx_F n (fun e => qd_t n (P e)) ↔ qd_F n (P 0) (P 1) := (qf_F a7).symm
  unfold wpX_interval
  refine qx_fin a7 R.2.2.2.1 (fun h => br_f (by decide) ?_) (fun h => br_t rfl (H0 (fun hf => h (hF.mpr hf))))
  refine qx_L (fun m b => wX_interval_13 post (nI n) N L E m (nI (qd_iv (qd_pt n (qd_t n (P 0)) (qd_t n (P 1))) b)) (nI b)) (fun _ => True) n 0 (Nat.zero_le _) trivial ?_ ?_
  · intro m _
    exact br_t (qx_le (by omega)) (H1 (hF.mp h))
  · intro m b hb _ ih
    have hp := qd_pt_le n (qd_t n (P 0)) (qd_t n (P 1)) b
    refine br_f (qx_ge hb (by omega)) (qx_pts a7 R.2.2.2.1 (by omega) (qx_en (u := 0) R.2.2.2.2.1 rfl (by omega) (nm_r (pk_mul _ _) (nm_r (nI_1 b) (ih trivial)))))
end
theorem i_vc_interval {k : Nat} {u : SX} {v : SY} (I : i_Rel k u v) (hk : k + 4 ≤ 2049) : wpX_interval (fun r => wpY_interval (fun r' => r' = r ∧ i_Rel (k + 4) u v) v) u := by
  obtain ⟨n, P, N, L, E, cd, pr, cn, cx, fd, el, ro, ot, nu, tw, rfl, rfl, R⟩ := I
  have a1 := R.1
  have a7 := R.2.1
  refine qi_X R (fun hf => qi_Y R ⟨?_, qr_mk R⟩) (fun hf => qi_Y R ⟨?_, qr_mk R⟩)
  · rw [qf_i a1 a7 (R.2.2.1 0 (by omega)) (R.2.2.1 1 (by omega)) hf]
  · rw [qd_sm0 (fun r hr => qd_bi_f (fun hh => hf ?_))]
    · rfl
    · rw [qd_biAnd, qd_Fb_iff, qd_Fb_iff] at hh
      exact qd_F_trans a7 hh.1 hh.2
section
variable {n : Nat} {P : Nat → Nat} {N L E cd pr cn cx fd el ro ot nu tw : Nat → Int32}
theorem qv_Y {post : Int32 → Prop} {e : Nat} (R : qr_R n P N E cd pr cn cx el) (he : e < 2) (hx : qd_x n (qd_t n (P e)) = false) (H : post (nI (qd_sm (fun b => qd_bi (qd_bi (qd_x n (qd_t n b)) false (qd_Fb n b (P e))) 1 0) (qd_N n)))) : wpY_uncrossed post (nI n, nI (qd_N n), cd, pr, cn, cx, fd, el, ro, ot, nu, tw) (nI e) := by
  have hM := qf_N1 R.1 R.2.1
  have hPe := R.2.2.1 e he
  have h2 : vp_in (nI e) 2 := vp_in_nI he (by omega)
  unfold wpY_uncrossed
  refine qy_badF he (br_t rfl ⟨h2, ?_⟩)
  rw [qr_elc R he, qu_cx R hPe, hx]
  refine ⟨qy_i877 (by omega), br_t rfl ?_⟩
  refine qx_L (fun m r => wY_uncrossed_32 post (nI e) (nI n) (nI (qd_N n)) cd pr cn cx fd el ro ot nu tw m (nI (qd_sm (fun b => qd_bi (qd_bi (qd_x n (qd_t n b)) false (qd_Fb n b (P e))) 1 0) r)) (nI r)) (fun _ => True) (qd_N n) 0 (Nat.zero_le _) trivial ?_ ?_
  · intro m _
    exact br_t (nI_le (Nat.le_refl _) (by omega)) H
  · intro m r hr _ ih
    have ih' := ih trivial
    rw [qd_smS] at ih'
    refine br_f (nI_ge hr (by omega)) ⟨qy_i877 (by omega), qx_bc (qu_cx R hr) rfl (fun e1 => ?_) (fun e1 => ?_)⟩
    · have hxr : qd_x n (qd_t n r) = false := by
        cases hh : qd_x n (qd_t n r) with
        | false => rfl
        | true => rw [hh] at e1; exact absurd e1 (by decide)
      rw [hxr, qd_biF] at ih'
      refine ⟨h2, ?_⟩
      rw [qr_elc R he]
      refine qu_fin R hr hPe (fun h => ?_) (fun h => ?_)
      · rw [qd_bi_t (qd_Fb_iff.mpr h)] at ih'
        exact br_f (by decide) (nm_r (nI_1 _) (nm_r (nI_1 r) ih'))
      · rw [qd_bi_f (fun hh => h (qd_Fb_iff.mp hh)), Nat.add_zero] at ih'
        exact br_t rfl (nm_r (nI_1 r) ih')
    · have hxr : qd_x n (qd_t n r) = true := by
        cases hh : qd_x n (qd_t n r) with
        | true => rfl
        | false => rw [hh] at e1; exact absurd rfl e1
      rw [hxr, qd_biT, qd_biF, Nat.add_zero] at ih'
      exact nm_r (nI_1 r) ih'
theorem qv_X {post : Int32 → SX → Prop} {e : Nat} (R : qr_R n P N E cd pr cn cx el) (he : e < 2)
    (H0 : ∀ L', qd_x n (qd_t n (P e)) = true → post (-1000001) (nI n, N, L', E)) (H1 : ∀ L', qd_x n (qd_t n (P e)) = false → post (nI (qd_uc n (qd_t n (P e)) n)) (nI n, N, L', E)) : wpX_uncrossed post (nI n, N, L, E) (nI e) := by
  have a7 := R.2.1
  unfold wpX_uncrossed
  refine qx_elT he (br_f (by decide) (qx_cross a7 R.2.2.2.1 he (fun L' hx => br_f (by decide) (H0 L' hx)) (fun L' hx => br_t rfl ?_)))
  have hx' : qd_x n (qd_t n (P e)) = false := by
    cases hh : qd_x n (qd_t n (P e)) with
    | false => rfl
    | true => exact absurd hh hx
  refine qx_L (fun m b => wX_uncrossed_26 post (nI e) (nI n) N L' E m (nI (qd_uc n (qd_t n (P e)) b)) (nI b)) (fun _ => True) n 0 (Nat.zero_le _) trivial ?_ ?_
  · intro m _
    exact br_t (qx_le (by omega)) (H1 L' hx')
  · intro m b hb _ ih
    have hp : qd_pb n (qd_t n (P e)) b ≤ n := qd_ct_le _ n
    exact br_f (qx_ge hb (by omega)) (qx_pi a7 R.2.2.2.1 he (by omega) (qx_ca (by omega) (nm_r (pk_mul _ _) (nm_r (nI_1 b) (ih trivial)))))
end
theorem i_vc_uncrossed {k : Nat} {u : SX} {v : SY} (I : i_Rel k u v) (hk : k + 4 ≤ 2049) (v1 : Int32) : wpX_uncrossed (fun r u' => wpY_uncrossed (fun r' => r' = r ∧ i_Rel (k + 4) u' v) v v1) u v1 := by
  obtain ⟨n, P, N, L, E, cd, pr, cn, cx, fd, el, ro, ot, nu, tw, rfl, rfl, R⟩ := I
  have a1 := R.1
  have a7 := R.2.1
  have hM := qf_N1 a1 a7
  rcases qr_el v1 with ⟨e, he, rfl⟩ | ⟨h0, h1⟩
  · have hPe := R.2.2.1 e he
    refine qv_X R he (fun L' hx => ?_) (fun L' hx => qv_Y R he hx ⟨?_, qr_mk R⟩)
    · show wpY_uncrossed _ _ _
      unfold wpY_uncrossed
      refine qy_badF he (br_t rfl ⟨vp_in_nI he (by omega), ?_⟩)
      rw [qr_elc R he, qu_cx R hPe, hx]
      exact ⟨qy_i877 (by omega), br_f (by decide) ⟨rfl, qr_mk R⟩⟩
    · rw [qf_c a1 a7 hPe hx]
  · unfold wpX_uncrossed
    refine qx_elF h0 h1 (br_t rfl ?_)
    show wpY_uncrossed _ _ _
    unfold wpY_uncrossed
    exact qy_badT h0 h1 (br_f (by decide) ⟨rfl, qr_mk R⟩)
end
section
theorem qk_s7_0 : qk_se qk_s1 (fun e => Nat.beq (qd_eB e) 7) = true := by decide +kernel
theorem qk_s7_1 : qk_se qk_s1 (fun e => Nat.beq (qd_eB e) 6) = true := by decide +kernel
theorem qk_s7_2 : qk_se qk_s1 (fun e => Nat.beq (qd_eB e) 5) = true := by decide +kernel
theorem qk_s7_3 : qk_se qk_s1 (fun e => Nat.blt (qd_eB e) 5) = true := by decide +kernel
theorem qk_s7 : qd_la (qk_s1 7 qk_t7) qk_t7 = true := by
  refine qd_la_iff.mpr (fun e he => ?_)
  have h0 := qd_biImp.mp (qd_la_iff.mp qk_s7_0 e he)
  have h1 := qd_biImp.mp (qd_la_iff.mp qk_s7_1 e he)
  have h2 := qd_biImp.mp (qd_la_iff.mp qk_s7_2 e he)
  have h3 := qd_biImp.mp (qd_la_iff.mp qk_s7_3 e he)
  simp only [Nat.beq_eq, Nat.blt_eq] at h0 h1 h2 h3
  have hb : qd_eB e < 8 := Nat.mod_lt _ (by decide)
  rcases (show qd_eB e = 7 ∨ qd_eB e = 6 ∨ qd_eB e = 5 ∨ qd_eB e < 5 by omega) with h | h | h | h
  · exact h0 h
  · exact h1 h
  · exact h2 h
  · exact h3 h
end
section
theorem qk_f7_0 : qk_se qk_f1 (fun e => Nat.beq (qd_eB e) 7) = true := by decide +kernel
theorem qk_f7_1 : qk_se qk_f1 (fun e => Nat.beq (qd_eB e) 6) = true := by decide +kernel
theorem qk_f7_2 : qk_se qk_f1 (fun e => Nat.beq (qd_eB e) 5) = true := by decide +kernel
theorem qk_f7_3 : qk_se qk_f1 (fun e => Nat.blt (qd_eB e) 5) = true := by decide +kernel
theorem qk_f7 : qd_la (qk_f1 7 qk_t7) qk_t7 = true := by
  refine qd_la_iff.mpr (fun e he => ?_)
  have h0 := qd_biImp.mp (qd_la_iff.mp qk_f7_0 e he)
  have h1 := qd_biImp.mp (qd_la_iff.mp qk_f7_1 e he)
  have h2 := qd_biImp.mp (qd_la_iff.mp qk_f7_2 e he)
  have h3 := qd_biImp.mp (qd_la_iff.mp qk_f7_3 e he)
  simp only [Nat.beq_eq, Nat.blt_eq] at h0 h1 h2 h3
  have hb : qd_eB e < 8 := Nat.mod_lt _ (by decide)
  rcases (show qd_eB e = 7 ∨ qd_eB e = 6 ∨ qd_eB e = 5 ∨ qd_eB e < 5 by omega) with h | h | h | h
  · exact h0 h
  · exact h1 h
  · exact h2 h
  · exact h3 h
end
section
/-! 20: sign and fullChains -/
theorem qw_mod (a : Nat) : nI (a % 4294967296) = nI a := by
  apply Int32.toBitVec_inj.1
  show BitVec.ofNat 32 (a % 4294967296) = BitVec.ofNat 32 a
  apply BitVec.eq_of_toNat_eq
  rw [BitVec.toNat_ofNat, BitVec.toNat_ofNat]
  exact Nat.mod_mod _ _
theorem qw_neg (z s : Nat) : nI z * -nI s = nI (Nat.mul z (Nat.mul 4294967295 s)) := by
  have e : (-1 : Int32) = nI 4294967295 := by decide
  show _ = nI (z * (4294967295 * s))
  rw [← pk_mul, ← pk_mul, ← e]
  grind
theorem qd_siK (K z m : Nat) : qd_it (fun s r => Nat.mul r (Nat.mul K (Nat.succ s))) z (m + 1) = Nat.mul (qd_it (fun s r => Nat.mul r (Nat.mul K (Nat.succ s))) z m) (Nat.mul K (Nat.succ m)) := rfl
theorem qd_siS (z m : Nat) : qd_si z (m + 1) = Nat.mul (qd_si z m) (Nat.mul 4294967295 (Nat.succ m)) := by
  unfold qd_si
  exact qd_siK 4294967295 z m
theorem qd_sgS (f : Nat → Nat) (b : Nat) : qd_sg f (b + 1) = qd_si (qd_sg f b) (Nat.sub (f b) 1) := rfl
theorem qw_add0 {a b : Int32} (h : a + b = 0) : b = -a := by
  grind
/-- before, and the sum's sign -/
noncomputable def qw_c (ch : Bool) (a b : Nat) : Bool := qd_bi ch (Nat.beq a (Nat.succ b)) (Nat.blt b a)
def qw_s (ch : Bool) (x : Int32) : Int32 := if ch = true then x else -x
section
variable {n : Nat} {P : Nat → Nat} {N L E cd pr cn cx fd el ro ot nu tw : Nat → Int32}
theorem qw_sX {post : Int32 → Prop} (R : qr_R n P N E cd pr cn cx el) (H1 : qd_F n (P 0) (P 1) → post (nI (qd_sg (qd_pt n (qd_t n (P 0)) (qd_t n (P 1))) n))) (H0 : ¬ qd_F n (P 0) (P 1) → post 0) : wpX_sign post (nI n, N, L, E) := by
  have a7 := R.2.1
  have hF : qx_F n (fun e => qd_t n (P e)) ↔ qd_F n (P 0) (P 1) := (qf_F a7).symm
  unfold wpX_sign
  refine qx_fin a7 R.2.2.2.1 (fun h => br_f (by decide) ?_) (fun h => br_t rfl (H0 (fun hf => h (hF.mpr hf))))
  have hpt := qd_pt_le n (qd_t n (P 0)) (qd_t n (P 1))
  have hpts := fun b (hb : b < 8) post H => qx_pts (post := post) (L := L) (E := E) (b := b) a7 R.2.2.2.1 hb H
  generalize qd_pt n (qd_t n (P 0)) (qd_t n (P 1)) = f at *
  refine qx_L (fun m b => wX_sign_13 post (nI n) N L E m (nI (qd_sg f b)) (nI b)) (fun _ => True) n 0 (Nat.zero_le _) trivial ?_ ?_
  · intro m _
    exact br_t (qx_le (by omega)) (H1 (hF.mp h))
  · intro m b hb _ ih
    have hp := hpt b
    refine br_f (qx_ge hb (by omega)) (hpts b (by omega) _ ?_)
    refine qx_L (fun m2 s => wX_sign_30 post (wX_sign_13 post (nI n) N L E m) (nI b) (nI (f b)) (nI n) N L E m2 (nI (qd_si (qd_sg f b) s)) (nI (s + 1))) (fun _ => True) (f b - 1) 0 (Nat.zero_le _) trivial ?_ ?_
    · intro m2 _
      have ih' := ih trivial
      rw [qd_sgS] at ih'
      exact br_t (nI_le (by omega) (by omega)) (nm_r (nI_1 b) ih')
    · intro m2 s hs _ jh
      have jh' := jh trivial
      rw [qd_siS] at jh'
      exact br_f (nI_ge (by omega) (by omega)) (nm_r (qw_neg _ (Nat.succ s)) (nm_r (nI_1 (s + 1)) jh'))
theorem qw_fX {post : Int32 → Prop} (R : qr_R n P N E cd pr cn cx el) (H1 : qd_F n (P 0) (P 1) → qd_cb (qd_pt n (qd_t n (P 0)) (qd_t n (P 1))) n = true ∧ post (nI (qd_ch (qd_pt n (qd_t n (P 0)) (qd_t n (P 1))) n))) (H0 : ¬ qd_F n (P 0) (P 1) → post 0) : wpX_fullChains post (nI n, N, L, E) := by
  have a7 := R.2.1
  have hF : qx_F n (fun e => qd_t n (P e)) ↔ qd_F n (P 0) (P 1) := (qf_F a7).symm
  unfold wpX_fullChains
  refine qx_fin a7 R.2.2.2.1 (fun h => br_f (by decide) ?_) (fun h => br_t rfl (H0 (fun hf => h (hF.mpr hf))))
  have hpt := qd_pt_le n (qd_t n (P 0)) (qd_t n (P 1))
  have hpts := fun b (hb : b < 8) post H => qx_pts (post := post) (L := L) (E := E) (b := b) a7 R.2.2.2.1 hb H
  have H2 := H1 (hF.mp h)
  generalize qd_pt n (qd_t n (P 0)) (qd_t n (P 1)) = f at *
  have hcb := H2.1
  unfold qd_cb at hcb
  rw [qd_al_iff] at hcb
  refine qx_L (fun m b => wX_fullChains_15 post (nI n) N L E m (nI (qd_ch f b)) (nI (qd_st f b)) (nI b)) (fun _ => True) n 0 (Nat.zero_le _) trivial ?_ ?_
  · intro m _
    exact br_t (qx_le (by omega)) H2.2
  · intro m b hb _ ih
    have hp := hpt b
    have hc := hcb b hb
    rw [qd_al_iff] at hc
    refine br_f (qx_ge hb (by omega)) (hpts b (by omega) _ ?_)
    refine qx_L (fun m2 s => wX_fullChains_33 post (wX_fullChains_15 post (nI n) N L E m) (nI b) (nI (f b)) (nI n) N L E m2 (nI (qd_hi (qd_st f b) (qd_ch f b) s)) (nI (qd_st f b + s)) (nI (s + 1))) (fun _ => True) (f b - 1) 0 (Nat.zero_le _) trivial ?_ ?_
    · intro m2 _
      exact br_t (nI_le (by omega) (by omega)) (nm_r (nI_1 b) (ih trivial))
    · intro m2 s hs _ jh
      have hl := hc s hs
      rw [Nat.blt_eq] at hl
      have hl' : qd_hi (qd_st f b) (qd_ch f b) s * (qd_st f b + s + 1) < 2 ^ 31 := hl
      have e1 : (nI (s + 1) + 1) * nI (s + 1) / 2 = nI ((s + 1 + 1) * (s + 1) / 2) := by
        have hs6 : s ≤ 6 := by omega
        have : (s + 1 + 1) * (s + 1) ≤ 8 * 7 := Nat.mul_le_mul (by omega) (by omega)
        rw [nI_1, pk_mul, show (2 : Int32) = nI 2 from rfl, pk_div (by omega) (by omega) (by omega)]
      refine br_f (nI_ge (by omega) (by omega)) (nm_r (nI_1 _) ⟨nI_ne0 (by omega) (by omega), nm_r (e' := nI (qd_hi (qd_st f b) (qd_ch f b) s * (qd_st f b + s + 1) / (s + 1))) ?_ ⟨by decide, nm_r ?_ (nm_r (nI_1 (s + 1)) (jh trivial))⟩⟩)
      · rw [pk_mul, pk_div hl' (by omega) (by omega)]
      · rw [e1, pk_mul]
        rfl
/-- the reference's work: g the value, by places -/
theorem qw_135 {post : Int32 → SY → Prop} {J33 J47 : Int32 → (Nat → Int32) → (Nat → Int32) → (Nat → Int32) → (Nat → Int32) → (Nat → Int32) → (Nat → Int32) → (Nat → Int32) → (Nat → Int32) → (Nat → Int32) → (Nat → Int32) → Prop} {J83 : Int32 → Int32 → Prop} {x1 x3 x4 : Int32} {p r s z g : Nat} {b : Bool}
    (R : qr_R n P N E cd pr cn cx el) (hp : p < qd_N n) (hr : r < qd_N n) (hs : s < qd_N n) (hg : b = true → qd_F n p s → qd_F n s r → fd s = nI g)
    (H : J83 (nI (z + qd_bi (qd_bi (qd_Fb n p s) (qd_bi (qd_Fb n s r) b false) false) g 0)) (nI (s + 1))) :
    wY_work_135 post J33 J47 J83 x1 (nI p) x3 x4 (nI r) (nI z) (nI s) (qx_b b) (nI n) (nI (qd_N n)) cd pr cn cx fd el ro ot nu tw := by
  have hM := qf_N1 R.1 R.2.1
  cases b with
  | false =>
    have e : qd_bi (qd_bi (qd_Fb n p s) (qd_bi (qd_Fb n s r) false false) false) g 0 = 0 := qd_bi_f (fun h => by
      have := (qd_biAnd.mp (qd_biAnd.mp h).2).2
      exact absurd this (by decide))
    rw [e, Nat.add_zero] at H
    exact br_t rfl (nm_r (nI_1 s) H)
  | true =>
    refine br_f (by decide) (qu_fin R hp hs (fun h1 => br_f (by decide) (qu_fin R hs hr (fun h2 => br_f (by decide) ⟨qy_i877 (by omega), ?_⟩) (fun h2 => ?_))) (fun h1 => ?_))
    · rw [qd_bi_t (qd_biAnd.mpr ⟨qd_Fb_iff.mpr h1, qd_biAnd.mpr ⟨qd_Fb_iff.mpr h2, rfl⟩⟩)] at H
      refine nm_r ?_ (nm_r (nI_1 s) H)
      rw [qx_c fd (by omega), hg rfl h1 h2, nI_add]
    · rw [qd_bi_f (fun h => h2 (qd_Fb_iff.mp (qd_biAnd.mp (qd_biAnd.mp h).2).1)), Nat.add_zero] at H
      exact br_t rfl (nm_r (nI_1 s) H)
    · rw [qd_bi_f (fun h => h1 (qd_Fb_iff.mp (qd_biAnd.mp h).1)), Nat.add_zero] at H
      exact br_t rfl (nm_r (nI_1 s) H)
theorem qw_83 {post : Int32 → SY → Prop} {J33 J47 : Int32 → (Nat → Int32) → (Nat → Int32) → (Nat → Int32) → (Nat → Int32) → (Nat → Int32) → (Nat → Int32) → (Nat → Int32) → (Nat → Int32) → (Nat → Int32) → (Nat → Int32) → Prop} {ch : Bool} {x3 : Int32} {p r : Nat} {g : Nat → Nat}
    (R : qr_R n P N E cd pr cn cx el) (hp : p < qd_N n) (hr : r < qd_N n)
    (hg : ∀ s, s < qd_N n → qw_c ch (qd_b n (qd_t n s)) (qd_b n (qd_t n r)) = true → qd_F n p s → qd_F n s r → fd s = nI (g s))
    (H : wY_work_190 post J33 J47 (qx_b ch) (nI p) x3 (nI (qd_b n (qd_t n r))) (nI r) (qw_s ch (nI (qd_sm (fun s => qd_bi (qd_bi (qd_Fb n p s) (qd_bi (qd_Fb n s r) (qw_c ch (qd_b n (qd_t n s)) (qd_b n (qd_t n r))) false) false) (g s) 0) (qd_N n)))) (nI n) (nI (qd_N n)) cd pr cn cx fd el ro ot nu tw) :
    ∃ m, wY_work_83 post J33 J47 (qx_b ch) (nI p) x3 (nI (qd_b n (qd_t n r))) (nI r) (nI n) (nI (qd_N n)) cd pr cn cx fd el ro ot nu tw m 0 (nI 0) := by
  have hM := qf_N1 R.1 R.2.1
  have hbr := qu_b8 R r
  refine qx_L (fun m s => wY_work_83 post J33 J47 (qx_b ch) (nI p) x3 (nI (qd_b n (qd_t n r))) (nI r) (nI n) (nI (qd_N n)) cd pr cn cx fd el ro ot nu tw m (nI (qd_sm (fun s => qd_bi (qd_bi (qd_Fb n p s) (qd_bi (qd_Fb n s r) (qw_c ch (qd_b n (qd_t n s)) (qd_b n (qd_t n r))) false) false) (g s) 0) s)) (nI s)) (fun _ => True) (qd_N n) 0 (Nat.zero_le _) trivial ?_ ?_
  · intro m _
    refine br_t (nI_le (Nat.le_refl _) (by omega)) ?_
    cases ch with
    | false => exact br_t rfl (nm_e H)
    | true => exact br_f (by decide) H
  · intro m s hs _ ih
    have hbs := qu_b8 R s
    have ih' := ih trivial
    rw [qd_smS] at ih'
    have go := qw_135 (post := post) (J33 := J33) (J47 := J47) (x1 := qx_b ch) (x3 := x3) (x4 := nI (qd_b n (qd_t n r))) (fd := fd) (ro := ro) (ot := ot) (nu := nu) (tw := tw) R hp hr hs (hg s hs) ih'
    refine br_f (nI_ge hs (by omega)) ?_
    cases ch with
    | false =>
      refine br_t rfl ⟨qy_i877 (by omega), ?_⟩
      rw [qu_cn R hs]
      by_cases hc : qd_b n (qd_t n r) < qd_b n (qd_t n s)
      · rw [show qw_c false (qd_b n (qd_t n s)) (qd_b n (qd_t n r)) = true from (Nat.blt_eq).mpr hc] at go
        exact br_f (nI_ge hc (by omega)) go
      · rw [show qw_c false (qd_b n (qd_t n s)) (qd_b n (qd_t n r)) = false from Bool.eq_false_iff.mpr (fun h => hc ((Nat.blt_eq).mp h))] at go
        exact br_t (nI_le (by omega) (by omega)) go
    | true =>
      refine br_f (by decide) ⟨qy_i877 (by omega), ?_⟩
      rw [qu_cn R hs, nI_1]
      by_cases hc : qd_b n (qd_t n s) = qd_b n (qd_t n r) + 1
      · rw [show qw_c true (qd_b n (qd_t n s)) (qd_b n (qd_t n r)) = true from (Nat.beq_eq).mpr hc] at go
        exact br_t (by rw [hc]) go
      · rw [show qw_c true (qd_b n (qd_t n s)) (qd_b n (qd_t n r)) = false from Bool.eq_false_iff.mpr (fun h => hc ((Nat.beq_eq).mp h))] at go
        exact br_f (fun h => hc ((nI_eq (by omega) (by omega)).mp h)) go
theorem qw_cb {ch : Bool} {a b : Nat} (h : qw_c ch a b = true) : b < a := by
  cases ch with
  | false => exact (Nat.blt_eq).mp h
  | true =>
    have : a = b + 1 := (Nat.beq_eq).mp h
    omega
/-- what is filled at level lv before place r -/
def qw_K (n : Nat) (P : Nat → Nat) (g : Nat → Nat) (lv r : Nat) (fd : Nat → Int32) : Prop :=
  ∀ s, s < qd_N n → qd_F n (P 0) s → qd_F n s (P 1) → (lv < qd_b n (qd_t n s) ∨ (qd_b n (qd_t n s) = lv ∧ s < r)) → fd s = nI (g s)
theorem qw_47 {post : Int32 → SY → Prop} {J33 : Int32 → (Nat → Int32) → (Nat → Int32) → (Nat → Int32) → (Nat → Int32) → (Nat → Int32) → (Nat → Int32) → (Nat → Int32) → (Nat → Int32) → (Nat → Int32) → (Nat → Int32) → Prop} {ch : Bool} {g : Nat → Nat} {lv : Nat}
    (R : qr_R n P N E cd pr cn cx el) (hlv : lv < 8)
    (hrec : ∀ r, r < qd_N n → qd_F n (P 0) r → qd_F n r (P 1) → (r = P 0 → g r = 1) ∧ (¬ r = P 0 → nI (g r) = qw_s ch (nI (qd_sm (fun s => qd_bi (qd_bi (qd_Fb n (P 0) s) (qd_bi (qd_Fb n s r) (qw_c ch (qd_b n (qd_t n s)) (qd_b n (qd_t n r))) false) false) (g s) 0) (qd_N n)))))
    (hK : qw_K n P g lv 0 fd) (H : ∀ fd', qw_K n P g lv (qd_N n) fd' → J33 (nI lv + (-1)) cd pr cn cx fd' el ro ot nu tw) :
    ∃ m, wY_work_47 post J33 (qx_b ch) (nI (P 0)) (nI (P 1)) (nI lv) (nI n) (nI (qd_N n)) m (nI 0) cd pr cn cx fd el ro ot nu tw := by
  have a7 := R.2.1
  have hM := qf_N1 R.1 a7
  have p0 := R.2.2.1 0 (by omega)
  refine pk_loop (fun m r (s : Nat → Int32) => wY_work_47 post J33 (qx_b ch) (nI (P 0)) (nI (P 1)) (nI lv) (nI n) (nI (qd_N n)) m (nI r) cd pr cn cx s el ro ot nu tw) (fun r s => qw_K n P g lv r s) (qd_N n) 0 fd (Nat.zero_le _) hK ?_ ?_
  · intro m s hs
    exact br_t (nI_le (Nat.le_refl _) (by omega)) (nm_e (H s hs))
  · intro m r s hr hs ih
    have hbr := qu_b8 R r
    have skip : ¬ (qd_b n (qd_t n r) = lv ∧ qd_F n (P 0) r ∧ qd_F n r (P 1)) → wY_work_47 post J33 (qx_b ch) (nI (P 0)) (nI (P 1)) (nI lv) (nI n) (nI (qd_N n)) m (nI (r + 1)) cd pr cn cx s el ro ot nu tw := by
      intro hn
      refine ih s (fun t ht h1 h2 h3 => ?_)
      refine hs t ht h1 h2 ?_
      rcases h3 with h3 | ⟨h3, h4⟩
      · exact Or.inl h3
      · refine Or.inr ⟨h3, ?_⟩
        have : t ≠ r := fun e => hn (e ▸ ⟨h3, h1, h2⟩)
        omega
    refine br_f (nI_ge hr (by omega)) ⟨qy_i877 (by omega), qx_bc (qu_cn R hr) rfl (fun e1 => ?_) (fun e1 => nm_r (nI_1 r) (skip (fun h => e1 (by rw [h.1]))))⟩
    have elv : qd_b n (qd_t n r) = lv := (nI_eq (by omega) (by omega)).mp e1
    refine qi_bet R hr (fun h1 h2 => br_f (by decide) ?_) (fun h => br_t rfl (nm_r (nI_1 r) (skip (fun hh => h hh.2))))
    subst elv
    refine qw_83 (g := g) R p0 hr (fun t ht hc h3 h4 => hs t ht h3 (qd_F_trans a7 h4 h2) (Or.inl (qw_cb hc))) ?_
    have hr1 := hrec r hr h1 h2
    have done : wY_work_47 post J33 (qx_b ch) (nI (P 0)) (nI (P 1)) (nI (qd_b n (qd_t n r))) (nI n) (nI (qd_N n)) m (nI (r + 1)) cd pr cn cx (upd s r (nI (g r))) el ro ot nu tw := by
      refine ih _ (fun t ht h3 h4 h5 => ?_)
      by_cases et : t = r
      · rw [et, pk_us]
      · rw [pk_un et]
        refine hs t ht h3 h4 ?_
        rcases h5 with h5 | ⟨h5, h6⟩
        · exact Or.inl h5
        · exact Or.inr ⟨h5, by omega⟩
    by_cases ep : r = P 0
    · rw [hr1.1 ep] at done
      refine br_t (by rw [ep]) ⟨qy_i877 (by omega), nm_r (congrArg (fun j => upd s j 1) (nI_clamp (by omega))) (nm_r (nI_1 r) done)⟩
    · rw [hr1.2 ep] at done
      refine br_f (fun h => ep ((nI_eq (by omega) (by omega)).mp h)) ⟨qy_i877 (by omega), nm_r (congrArg (fun j => upd s j _) (nI_clamp (by omega))) (nm_r (nI_1 r) done)⟩
theorem qw_Y {post : Int32 → SY → Prop} {ch : Bool} {g : Nat → Nat} (R : qr_R n P N E cd pr cn cx el) (hF : qd_F n (P 0) (P 1))
    (hb : ∀ r, r < qd_N n → qd_F n (P 0) r → qd_b n (qd_t n r) ≤ qd_b n (qd_t n (P 0)))
    (hrec : ∀ r, r < qd_N n → qd_F n (P 0) r → qd_F n r (P 1) → (r = P 0 → g r = 1) ∧ (¬ r = P 0 → nI (g r) = qw_s ch (nI (qd_sm (fun s => qd_bi (qd_bi (qd_Fb n (P 0) s) (qd_bi (qd_Fb n s r) (qw_c ch (qd_b n (qd_t n s)) (qd_b n (qd_t n r))) false) false) (g s) 0) (qd_N n)))))
    (H : ∀ fd', post (nI (g (P 1))) (nI n, nI (qd_N n), cd, pr, cn, cx, fd', el, ro, ot, nu, tw)) : wpY_work post (nI n, nI (qd_N n), cd, pr, cn, cx, fd, el, ro, ot, nu, tw) (qx_b ch) := by
  have a1 := R.1
  have a7 := R.2.1
  have hM := qf_N1 a1 a7
  have p0 := R.2.2.1 0 (by omega)
  have p1 := R.2.2.1 1 (by omega)
  have b0 := qu_b8 R (P 0)
  have b1 := qu_b8 R (P 1)
  have b2 := qf_md a1 a7 p1
  have b3 := hb _ p1 hF
  unfold wpY_work
  refine nm_r (R.2.2.2.2.2.2 0 (by omega)) (nm_r (R.2.2.2.2.2.2 1 (by omega)) (qu_fin R p0 p1 (fun _ => br_f (by decide) ⟨qy_i877 (by omega), nm_r (qu_cn R p0) ?_⟩) (fun h => absurd hF h)))
  have hD : ∀ (i : Nat) (s : Nat → Int32), (qd_b n (qd_t n (P 1)) - 1 + i < 8 ∧ qw_K n P g (qd_b n (qd_t n (P 1)) - 1 + i) 0 s) → wY_work_33 post (qx_b ch) (nI (P 0)) (nI (P 1)) (nI n) (nI (qd_N n)) (i + 1) (nI (qd_b n (qd_t n (P 1)) - 1 + i)) cd pr cn cx s el ro ot nu tw := by
    refine pk_loopD (fun m i (s : Nat → Int32) => wY_work_33 post (qx_b ch) (nI (P 0)) (nI (P 1)) (nI n) (nI (qd_N n)) m (nI (qd_b n (qd_t n (P 1)) - 1 + i)) cd pr cn cx s el ro ot nu tw) (fun i s => qd_b n (qd_t n (P 1)) - 1 + i < 8 ∧ qw_K n P g (qd_b n (qd_t n (P 1)) - 1 + i) 0 s) ?_ ?_
    · rintro m s ⟨_, hs⟩
      refine ⟨qy_i877 (by omega), ?_⟩
      rw [qu_cn R p1]
      refine br_t (nI_lt (by omega) (by omega)) ⟨qy_i877 (by omega), ?_⟩
      rw [qx_c s (by omega), hs (P 1) p1 hF (qd_F_refl n (P 1)) (Or.inl (by omega))]
      exact H s
    · rintro m i s ⟨hl, hs⟩ ih
      refine ⟨qy_i877 (by omega), ?_⟩
      rw [qu_cn R p1]
      refine br_f (nI_nlt (by omega) (by omega)) (qw_47 R hl hrec hs (fun fd' h' => ?_))
      rw [show qd_b n (qd_t n (P 1)) - 1 + (i + 1) = (qd_b n (qd_t n (P 1)) - 1 + i) + 1 by omega, pk_m1]
      refine ih fd' ⟨by omega, fun t ht h1 h2 h3 => h' t ht h1 h2 ?_⟩
      rcases h3 with h3 | h3
      · by_cases et : qd_b n (qd_t n t) = qd_b n (qd_t n (P 1)) - 1 + (i + 1)
        · exact Or.inr ⟨et, ht⟩
        · exact Or.inl (by omega)
      · omega
  have e : qd_b n (qd_t n (P 1)) - 1 + (qd_b n (qd_t n (P 0)) - (qd_b n (qd_t n (P 1)) - 1)) = qd_b n (qd_t n (P 0)) := by omega
  have hD1 := hD (qd_b n (qd_t n (P 0)) - (qd_b n (qd_t n (P 1)) - 1)) fd ⟨by omega, fun t ht h1 h2 h3 => by
    have := hb t ht h1
    rcases h3 with h3 | h3 <;> omega⟩
  rw [e] at hD1
  exact ⟨_, hD1⟩
theorem qw_Y0 {post : Int32 → SY → Prop} {x : Int32} (R : qr_R n P N E cd pr cn cx el) (hF : ¬ qd_F n (P 0) (P 1)) (H : post 0 (nI n, nI (qd_N n), cd, pr, cn, cx, fd, el, ro, ot, nu, tw)) : wpY_work post (nI n, nI (qd_N n), cd, pr, cn, cx, fd, el, ro, ot, nu, tw) x := by
  have p0 := R.2.2.1 0 (by omega)
  have p1 := R.2.2.1 1 (by omega)
  unfold wpY_work
  exact nm_r (R.2.2.2.2.2.2 0 (by omega)) (nm_r (R.2.2.2.2.2.2 1 (by omega)) (qu_fin R p0 p1 (fun h => absurd h hF) (fun _ => br_t rfl H)))
end
theorem i_vc_sign {k : Nat} {u : SX} {v : SY} (I : i_Rel k u v) (hk : k + 4 ≤ 2049) : wpX_sign (fun r => wpY_sign (fun r' v' => r' = r ∧ i_Rel (k + 4) u v') v) u := by
  obtain ⟨n, P, N, L, E, cd, pr, cn, cx, fd, el, ro, ot, nu, tw, rfl, rfl, R⟩ := I
  have a1 := R.1
  have a7 := R.2.1
  have p0 := R.2.2.1 0 (by omega)
  have hh := fun q hq hf => qf_h (q := q) (k := P 0) a1 a7 (fun k hk => qf_ck (f := qk_s1) qk_s6 qk_s7 a1 a7 hk) p0 hq hf
  refine qw_sX R (fun hF => ?_) (fun hF => ?_)
  · show wpY_sign _ _
    unfold wpY_sign
    refine qw_Y (ch := false) (g := fun r => qk_sV n (qd_pt n (qd_t n (P 0)) (qd_t n r))) R hF (fun r hr h => (hh r hr h).1) (fun r hr h1 h2 => ⟨(hh r hr h1).2.1, fun hn => ?_⟩) (fun fd' => ⟨?_, qr_mk R⟩)
    · have h3 := (hh r hr h1).2.2 hn
      rw [Nat.beq_eq] at h3
      refine qw_add0 ?_
      rw [nI_add, ← qw_mod]
      exact congrArg nI h3
    · exact qw_mod _
  · show wpY_sign _ _
    unfold wpY_sign
    exact qw_Y0 R hF ⟨rfl, qr_mk R⟩
theorem i_vc_fullChains {k : Nat} {u : SX} {v : SY} (I : i_Rel k u v) (hk : k + 4 ≤ 2049) : wpX_fullChains (fun r => wpY_fullChains (fun r' v' => r' = r ∧ i_Rel (k + 4) u v') v) u := by
  obtain ⟨n, P, N, L, E, cd, pr, cn, cx, fd, el, ro, ot, nu, tw, rfl, rfl, R⟩ := I
  have a1 := R.1
  have a7 := R.2.1
  have p0 := R.2.2.1 0 (by omega)
  have p1 := R.2.2.1 1 (by omega)
  have hh := fun q hq hf => qf_h (q := q) (k := P 0) a1 a7 (fun k hk => qf_ck (f := qk_f1) qk_f6 qk_f7 a1 a7 hk) p0 hq hf
  refine qw_fX R (fun hF => ?_) (fun hF => ?_)
  · have hpos : ¬ qk_fV n (qd_pt n (qd_t n (P 0)) (qd_t n (P 1))) = 0 := by
      by_cases e : P 1 = P 0
      · rw [(hh _ p1 hF).2.1 e]; decide
      · have h3 := (hh _ p1 hF).2.2 e
        rw [qd_biAnd, Nat.blt_eq] at h3
        have := h3.2
        omega
    have hcb : qd_cb (qd_pt n (qd_t n (P 0)) (qd_t n (P 1))) n = true := by
      cases hc : qd_cb (qd_pt n (qd_t n (P 0)) (qd_t n (P 1))) n with
      | true => rfl
      | false =>
        exfalso
        refine hpos ?_
        unfold qk_fV
        rw [hc]; rfl
    have hV : qk_fV n (qd_pt n (qd_t n (P 0)) (qd_t n (P 1))) = qd_ch (qd_pt n (qd_t n (P 0)) (qd_t n (P 1))) n := by
      unfold qk_fV
      rw [hcb]; rfl
    refine ⟨hcb, ?_⟩
    show wpY_fullChains _ _
    unfold wpY_fullChains
    refine qw_Y (ch := true) (g := fun r => qk_fV n (qd_pt n (qd_t n (P 0)) (qd_t n r))) R hF (fun r hr h => (hh r hr h).1) (fun r hr h1 h2 => ⟨(hh r hr h1).2.1, fun hn => ?_⟩) (fun fd' => ⟨?_, qr_mk R⟩)
    · have h3 := (hh r hr h1).2.2 hn
      rw [qd_biAnd, Nat.beq_eq] at h3
      exact congrArg nI h3.1.symm
    · exact congrArg nI hV
  · show wpY_fullChains _ _
    unfold wpY_fullChains
    exact qw_Y0 R hF ⟨rfl, qr_mk R⟩
end
section
/-! 21: the constructors -/
theorem qz_ix {u r : Nat} : nI u * 8 + nI r = nI (u * 8 + r) := by
  rw [show (8 : Int32) = nI 8 from rfl, pk_mul, nI_add]
theorem qz_34 {post : SX → Prop} {J : Int32 → (Nat → Int32) → (Nat → Int32) → (Nat → Int32) → Prop} {f : Int32} {N L E : Nat → Int32} {r : Nat} (hr1 : 1 ≤ r) (hr : r ≤ 7)
    (hE : ∀ r', r' < r → ∀ u, u + r' ≤ 7 → E (u * 8 + r') = nI (qd_eg r' u))
    (H : ∀ E', (∀ r', r' < r + 1 → ∀ u, u + r' ≤ 7 → E' (u * 8 + r') = nI (qd_eg r' u)) → J (nI (r + 1)) N L E') : ∃ m, wX_fillEndings_34 post J (nI r) f m (nI 0) N L E := by
  refine pk_loop (fun m u (s : Nat → Int32) => wX_fillEndings_34 post J (nI r) f m (nI u) N L s) (fun u s => (∀ r', r' < r → ∀ u', u' + r' ≤ 7 → s (u' * 8 + r') = nI (qd_eg r' u')) ∧ ∀ u', u' < u → s (u' * 8 + r) = nI (qd_eg r u')) (8 - r) 0 E (Nat.zero_le _) ⟨hE, fun u' hu' => absurd hu' (Nat.not_lt_zero u')⟩ ?_ ?_
  · intro m s hs
    refine br_t (by rw [nI_add]; exact nI_lt (a := 7) (by omega) (by omega)) (nm_r (nI_1 r) (H s (fun r' hr' u hu => ?_)))
    by_cases e : r' = r
    · rw [e]; exact hs.2 u (by omega)
    · exact hs.1 r' (by omega) u hu
  · intro m u s hu hs ih
    have e0 : nI u * 8 + nI r = nI (u * 8 + r) := qz_ix
    have e1 : nI u * 8 + nI r - 1 = nI (u * 8 + (r - 1)) := by
      rw [e0, show u * 8 + r = (u * 8 + (r - 1)) + 1 by omega, nI_pred]
    have e2 : (nI u + 1) * 8 + nI r - 1 = nI ((u + 1) * 8 + (r - 1)) := by
      rw [nI_1, qz_ix, show (u + 1) * 8 + r = ((u + 1) * 8 + (r - 1)) + 1 by omega, nI_pred]
    refine br_f (by rw [nI_add]; exact nI_nlt (a := 7) (by omega) (by omega)) ⟨by rw [e1]; exact vp_in_nI (by omega) (by omega), ?_⟩
    refine nm_r (e' := nI (qd_eg (r - 1) u)) (by rw [e1, qx_c s (by omega), hs.1 (r - 1) (by omega) u (by omega)]) ⟨by rw [e2]; exact vp_in_nI (by omega) (by omega), ?_⟩
    refine nm_r (e' := nI (qd_eg (r - 1) (u + 1))) (by rw [e2, qx_c s (by omega), hs.1 (r - 1) (by omega) (u + 1) (by omega)]) ⟨by rw [e0]; exact vp_in_nI (by omega) (by omega), ?_⟩
    refine nm_r (e' := upd s (u * 8 + r) (nI (qd_eg r u))) ?_ (nm_r (nI_1 u) (ih _ ⟨fun r' hr' u' hu' => ?_, fun u' hu' => ?_⟩))
    · rw [e0, nI_clamp (by omega), pk_mul, nI_add]
      have := qd_egS (r - 1) u
      rw [Nat.sub_add_cancel hr1] at this
      rw [this]
    · rw [pk_un (by omega)]; exact hs.1 r' hr' u' hu'
    · by_cases e : u' = u
      · rw [e, pk_us]
      · rw [pk_un (by omega)]; exact hs.2 u' (by omega)
theorem qz_fill {post : SX → Prop} {f : Int32} {N L E : Nat → Int32} (H : ∀ E', qx_E E' → post (f, N, L, E')) : wpX_fillEndings post (f, N, L, E) := by
  refine pk_loop (fun m u (s : Nat → Int32) => wX_fillEndings_2 post f m (nI u) N L s) (fun u s => ∀ u', u' < u → s (u' * 8) = nI 1) 8 0 E (Nat.zero_le _) (fun u' hu' => absurd hu' (Nat.not_lt_zero u')) ?_ ?_
  · intro m s hs
    refine br_t (nI_lt (a := 7) (by omega) (by omega)) ?_
    refine pk_loop (fun m r (s : Nat → Int32) => wX_fillEndings_26 post f m (nI r) N L s) (fun r s => 1 ≤ r ∧ ∀ r', r' < r → ∀ u, u + r' ≤ 7 → s (u * 8 + r') = nI (qd_eg r' u)) 8 1 s (by omega) ⟨Nat.le_refl 1, fun r' hr' u hu => ?_⟩ ?_ ?_
    · have e : r' = 0 := by omega
      rw [e, Nat.add_zero, hs u (by omega)]
      rfl
    · intro m2 s2 hs2
      exact br_t (nI_lt (a := 7) (by omega) (by omega)) (H s2 (fun u r hur => hs2.2 r (by omega) u hur))
    · intro m2 r s2 hr hs2 ih
      exact br_f (nI_nlt (a := 7) (by omega) (by omega)) (qz_34 hs2.1 (by omega) hs2.2 (fun E' hE' => ih E' ⟨by omega, hE'⟩))
  · intro m u s hu hs ih
    have e0 : nI u * 8 = nI (u * 8) := pk_mul u 8
    refine br_f (nI_nlt (a := 7) (by omega) (by omega)) ⟨by rw [e0]; exact vp_in_nI (by omega) (by omega), ?_⟩
    refine nm_r (e' := upd s (u * 8) (nI 1)) (by rw [e0, nI_clamp (by omega)]; rfl) (nm_r (nI_1 u) (ih _ (fun u' hu' => ?_)))
    by_cases e : u' = u
    · rw [e, pk_us]
    · rw [pk_un (by omega)]; exact hs u' (by omega)
theorem qz_X {post : SX → Prop} {n : Nat} {f : Int32} {N L E : Nat → Int32} (h7 : n ≤ 7) (H : ∀ N' E', qx_E E' → (∀ e, e < 2 → ∀ i, i < n → N' (e * 7 + i) = nI i) → post (nI n, N', L, E')) : wX_init_50 post (nI n) f N L E := by
  unfold wX_init_50
  refine qz_fill (fun E' hE' => ?_)
  refine pk_loop (fun m i (s : Nat → Int32) => wX_init_59 post (nI n) m (nI i) s L E') (fun i s => ∀ e, e < 2 → ∀ j, j < i → s (e * 7 + j) = nI j) n 0 N (Nat.zero_le _) (fun e _ j hj => absurd hj (Nat.not_lt_zero j)) ?_ ?_
  · intro m s hs
    exact br_t (qx_le (by omega)) (H s E' hE' hs)
  · intro m i s hi hs ih
    have e7 : 7 + nI i = nI (7 + i) := nI_add 7 i
    refine br_f (qx_ge hi (by omega)) ⟨qy_i14 (by omega), nm_r (congrArg (fun j => upd s j (nI i)) (nI_clamp (by omega))) ⟨by rw [e7]; exact qy_i14 (by omega), nm_r (e' := upd (upd s i (nI i)) (7 + i) (nI i)) (by rw [e7, nI_clamp (by omega)]) (nm_r (nI_1 i) (ih _ (fun e he j hj => ?_)))⟩⟩
    rcases (show e = 0 ∨ e = 1 by omega) with rfl | rfl
    · rw [pk_un (by omega)]
      by_cases ej : j = i
      · rw [ej, show 0 * 7 + i = i by omega, pk_us]
      · rw [pk_un (by omega)]; exact hs 0 (by omega) j (by omega)
    · by_cases ej : j = i
      · rw [ej, show 1 * 7 + i = 7 + i by omega, pk_us]
      · rw [pk_un (by omega), pk_un (by omega)]; exact hs 1 (by omega) j (by omega)
theorem qz_md8 (n c : Nat) : ∀ k, qd_md n c k < 8 := by
  intro k
  induction k with
  | zero => show 0 < 8; decide
  | succ k ih =>
    have e : qd_md n c (k + 1) = qd_bi (Nat.blt (qd_md n c k) (qd_g c (n - 1 - k))) (qd_g c (n - 1 - k)) (qd_md n c k) := rfl
    rw [e]
    by_cases h : Nat.blt (qd_md n c k) (qd_g c (n - 1 - k)) = true
    · rw [qd_bi_t h]; exact qd_g8 _ _
    · rw [qd_bi_f h]; exact ih
theorem qz_mx8 (c : Nat) : ∀ k, qd_mx c k < 8 := by
  intro k
  induction k with
  | zero => show 0 < 8; decide
  | succ k ih =>
    have e : qd_mx c (k + 1) = qd_bi (Nat.blt (qd_mx c k) (qd_g c k)) (qd_g c k) (qd_mx c k) := rfl
    rw [e]
    by_cases h : Nat.blt (qd_mx c k) (qd_g c k) = true
    · rw [qd_bi_t h]; exact qd_g8 _ _
    · rw [qd_bi_f h]; exact ih
theorem qz_nar (b : Bool) : vp_nar .boolean (qx_b b) = qx_b b := by
  cases b <;> rfl
section
variable {n : Nat} {cd pr cn cx fd el ro ot nu tw : Nat → Int32}
theorem qz_note {post : SY → Prop} {c k : Nat} (h1 : 1 ≤ n) (h7 : n ≤ 7) (hk : k < 877) (hro : ∀ i, i < n → ro i = nI (qd_g c i)) (hcd : qd_cd n c n = c) (hmd : qd_md n c n + 1 = qd_b n c)
    (H : ∀ tw', post (nI n, nI (k + 1), upd cd k (nI c), upd pr k (nI (qd_m n c)), upd cn k (nI (qd_b n c)), upd cx k (qx_b (qd_x n c)), fd, el, ro, ot, nu, tw')) : wpY_note post (nI n, nI k, cd, pr, cn, cx, fd, el, ro, ot, nu, tw) := by
  have hR : ∀ i j, i < n → j < n → qy_R ro i j = qd_rl c i j := fun i j hi hj => by
    rw [Bool.eq_iff_iff, qy_R_iff, qd_rl_iff, hro i hi, hro j hj]
    exact qx_eq8 (qd_g8 _ _) (qd_g8 _ _)
  have em : qd_pm (qy_R ro) n = qd_m n c := qd_pmC (fun i j hi hj => hR i j (by omega) hj)
  have ex : qd_cr (qy_R ro) n = qd_x n c := qd_crC hR
  have ik := qy_i877 hk
  have ck : (nI k).toNatClampNeg = k := nI_clamp (by omega)
  show ∀ x, x = nI n - 1 → ∃ m, wY_note_11 post (nI n) (nI k) cd pr cn cx fd el ro ot nu tw m (nI (qd_cd n c 0)) (nI (qd_md n c 0)) x
  refine nm_r (e' := nI (n - 0) - 1) (by rw [Nat.sub_zero]) ?_
  refine qx_L (fun m j => wY_note_11 post (nI n) (nI k) cd pr cn cx fd el ro ot nu tw m (nI (qd_cd n c j)) (nI (qd_md n c j)) (nI (n - j) - 1)) (fun _ => True) n 0 (Nat.zero_le _) trivial ?_ ?_
  · intro m _
    refine br_t (by rw [Nat.sub_self]; decide) ⟨ik, nm_r (e' := upd cd k (nI c)) (by rw [ck, hcd]) ⟨ik, nm_r (e' := upd cn k (nI (qd_b n c))) (by rw [ck, nI_1, hmd]) ?_⟩⟩
    refine qy_tog h7 ⟨ik, nm_r (e' := upd pr k (nI (qd_m n c))) (by rw [ck, em]) ?_⟩
    refine qy_crN h7 (fun tw' => ⟨ik, nm_r (e' := upd cx k (qx_b (qd_x n c))) (by rw [ck, ex, qz_nar]) (nm_r (nI_1 k) (H tw'))⟩)
  · intro m j hj _ ih
    have ih' := ih trivial
    have e1 : nI (n - j) - 1 = nI (n - 1 - j) := by
      rw [show n - j = (n - 1 - j) + 1 by omega, nI_pred]
    have e2 : nI (n - 1 - j) + (-1) = nI (n - (j + 1)) - 1 := by
      rw [show n - (j + 1) = n - 1 - j by omega, Int32.sub_eq_add_neg]
    have eC : qd_cd n c (j + 1) = 8 * qd_cd n c j + qd_g c (n - 1 - j) := rfl
    have eM : qd_md n c (j + 1) = qd_bi (Nat.blt (qd_md n c j) (qd_g c (n - 1 - j))) (qd_g c (n - 1 - j)) (qd_md n c j) := rfl
    have g8 := qd_g8 c (n - 1 - j)
    have m8 := qz_md8 n c j
    have er : ro (nI (n - 1 - j)).toNatClampNeg = nI (qd_g c (n - 1 - j)) := by rw [qx_c ro (by omega), hro _ (by omega)]
    show _ ∧ _
    rw [e1]
    refine br_f (nI_pos (by omega)) ⟨qx_i7 (by omega), nm_r (e' := nI (qd_cd n c (j + 1))) (by rw [er, eC, ← nI_add, ← pk_mul]; rfl) ⟨qx_i7 (by omega), ?_⟩⟩
    rw [er]
    by_cases h : qd_g c (n - 1 - j) ≤ qd_md n c j
    · rw [eM, qd_bi_f (by rw [Nat.blt_eq]; omega)] at ih'
      exact br_t (nI_le h (by omega)) (nm_r e2 ih')
    · rw [eM, qd_bi_t (by rw [Nat.blt_eq]; omega)] at ih'
      exact br_f (nI_ge (by omega) (by omega)) ⟨qx_i7 (by omega), nm_e (nm_r e2 ih')⟩
theorem qz_71 {post : Int32 → SY → Prop} {M j0 : Nat} (h7 : n ≤ 7) (hj : j0 ≤ n) (H : ∀ ro', (∀ j, j < j0 → ro' j = ro j) → (∀ j, j0 ≤ j → j < n → ro' j = nI 0) → post 1 (nI n, nI M, cd, pr, cn, cx, fd, el, ro', ot, nu, tw)) : ∃ m, wY_nextRow_71 post (nI n) (nI M) m (nI j0) cd pr cn cx fd el ro ot nu tw := by
  refine pk_loop (fun m j (s : Nat → Int32) => wY_nextRow_71 post (nI n) (nI M) m (nI j) cd pr cn cx fd el s ot nu tw) (fun j s => j0 ≤ j ∧ (∀ i, i < j0 → s i = ro i) ∧ ∀ i, j0 ≤ i → i < j → s i = nI 0) n j0 ro hj ⟨Nat.le_refl _, fun _ _ => rfl, fun i h h' => by omega⟩ ?_ ?_
  · intro m s hs
    exact br_t (qx_le (by omega)) (H s hs.2.1 hs.2.2)
  · intro m j s hjn hs ih
    refine br_f (qx_ge hjn (by omega)) ⟨qx_i7 (by omega), nm_r (e' := upd s j (nI 0)) (by rw [nI_clamp (by omega)]; rfl) (nm_r (nI_1 j) (ih _ ⟨by omega, fun i hi => ?_, fun i h1 h2 => ?_⟩))⟩
    · rw [pk_un (by omega)]; exact hs.2.1 i hi
    · by_cases e : i = j
      · rw [e, pk_us]
      · rw [pk_un e]; exact hs.2.2 i h1 (by omega)
theorem qz_next {post : Int32 → SY → Prop} {M c : Nat} (h1 : 1 ≤ n) (h7 : n ≤ 7) (hro : ∀ i, i < n → ro i = nI (qd_g c i)) (hd : ∀ i, i < n → qd_g c i < 7)
    (H1 : ∀ ro', ¬ qd_np c (n - 1) = 0 → (∀ i, i < n → ro' i = nI (qd_g (qd_nc n c (qd_np c (n - 1))) i)) → post 1 (nI n, nI M, cd, pr, cn, cx, fd, el, ro', ot, nu, tw)) (H0 : qd_np c (n - 1) = 0 → post 0 (nI n, nI M, cd, pr, cn, cx, fd, el, ro, ot, nu, tw)) : wpY_nextRow post (nI n, nI M, cd, pr, cn, cx, fd, el, ro, ot, nu, tw) := by
  have en : nI n - 1 = nI (n - 1) := by
    have := nI_pred (n - 1)
    rw [Nat.sub_add_cancel h1] at this
    exact this
  refine nm_r en ⟨n - 1 + 1, ?_⟩
  refine pk_loopD (fun m i (_ : Unit) => wY_nextRow_7 post (nI n) (nI M) cd pr cn cx fd el ro ot nu tw m (nI i)) (fun i _ => i < n ∧ qd_np c (n - 1) = qd_np c i) ?_ ?_ (n - 1) () ⟨by omega, rfl⟩
  · intro m _ hI
    exact br_t (show (0 : Int32) ≤ 0 by decide) (H0 hI.2)
  · rintro m i _ ⟨hi, hI⟩ ih
    have hnp : qd_np c (i + 1) = qd_bi (Nat.ble (qd_g c (i + 1)) (qd_mx c (i + 1))) (i + 1) (qd_np c i) := rfl
    refine br_f (nI_nle (by omega) (by omega)) ?_
    refine qx_L (fun m2 j => wY_nextRow_15 post (wY_nextRow_7 post (nI n) (nI M) cd pr cn cx fd el ro ot nu tw m) (nI (i + 1)) (nI n) (nI M) cd pr cn cx fd el ro ot nu tw m2 (nI (qd_mx c j)) (nI j)) (fun _ => True) (i + 1) 0 (Nat.zero_le _) trivial ?_ ?_
    · intro m2 _
      have g8 := qd_g8 c (i + 1)
      have m8 := qz_mx8 c (i + 1)
      have er : ro (nI (i + 1)).toNatClampNeg = nI (qd_g c (i + 1)) := by rw [qx_c ro (by omega), hro _ hi]
      refine br_t (nI_le (Nat.le_refl _) (by omega)) ⟨qx_i7 (by omega), ?_⟩
      rw [er]
      by_cases h : qd_mx c (i + 1) < qd_g c (i + 1)
      · rw [qd_bi_f (by rw [Nat.ble_eq]; omega)] at hnp
        exact br_t (nI_lt h (by omega)) (nm_r (pk_m1 i) (ih () ⟨by omega, by rw [hI, hnp]⟩))
      · rw [qd_bi_t (by rw [Nat.ble_eq]; omega)] at hnp
        have hnp' : qd_np c (n - 1) = i + 1 := by rw [hI, hnp]
        refine br_f (nI_nlt (by omega) (by omega)) ⟨qx_i7 (by omega), qx_i7 (by omega), nm_r (e' := upd ro (i + 1) (nI (qd_g c (i + 1) + 1))) (by rw [nI_clamp (by omega), nI_1]) (nm_r (nI_1 (i + 1)) ?_)⟩
        refine qz_71 h7 (by omega) (fun ro' h3 h4 => H1 ro' (by omega) (fun j hj => ?_))
        have hf : qd_g (qd_nc n c (i + 1)) j = qd_bi (Nat.blt j (i + 1)) (qd_g c j) (qd_bi (Nat.beq j (i + 1)) (qd_g c j + 1) 0) := by
          refine qd_g_pk (f := fun j => qd_bi (Nat.blt j (i + 1)) (qd_g c j) (qd_bi (Nat.beq j (i + 1)) (Nat.succ (qd_g c j)) 0)) (fun j hj => ?_) j hj
          show qd_bi (Nat.blt j (i + 1)) (qd_g c j) (qd_bi (Nat.beq j (i + 1)) (qd_g c j + 1) 0) < 8
          have := hd j hj
          by_cases e1 : Nat.blt j (i + 1) = true
          · rw [qd_bi_t e1]; omega
          · rw [qd_bi_f e1]
            by_cases e2 : Nat.beq j (i + 1) = true
            · rw [qd_bi_t e2]; omega
            · rw [qd_bi_f e2]; omega
        rw [hnp', hf]
        by_cases e1 : j < i + 1
        · rw [qd_bi_t (by rw [Nat.blt_eq]; exact e1), h3 j (by omega), pk_un (by omega), hro j hj]
        · rw [qd_bi_f (by rw [Nat.blt_eq]; exact e1)]
          by_cases e2 : j = i + 1
          · rw [qd_bi_t (by rw [Nat.beq_eq]; exact e2), e2, h3 (i + 1) (by omega), pk_us]
          · rw [qd_bi_f (by rw [Nat.beq_eq]; exact e2), h4 j (by omega) hj]
    · intro m2 j hj _ jh
      have jh' := jh trivial
      have g8 := qd_g8 c j
      have m8 := qz_mx8 c j
      have eM : qd_mx c (j + 1) = qd_bi (Nat.blt (qd_mx c j) (qd_g c j)) (qd_g c j) (qd_mx c j) := rfl
      have er : ro (nI j).toNatClampNeg = nI (qd_g c j) := by rw [qx_c ro (by omega), hro _ (by omega)]
      refine br_f (nI_ge hj (by omega)) ⟨qx_i7 (by omega), ?_⟩
      rw [er]
      by_cases h : qd_g c j ≤ qd_mx c j
      · rw [eM, qd_bi_f (by rw [Nat.blt_eq]; omega)] at jh'
        exact br_t (nI_le h (by omega)) (nm_r (nI_1 j) jh')
      · rw [eM, qd_bi_t (by rw [Nat.blt_eq]; omega)] at jh'
        exact br_f (nI_ge (by omega) (by omega)) ⟨qx_i7 (by omega), nm_e (nm_r (nI_1 j) jh')⟩
end
/-- the tables before place k -/
def qz_T (n k : Nat) (cd pr cn cx : Nat → Int32) : Prop :=
  ∀ j, j < k → cd j = nI (qd_t n j) ∧ pr j = nI (qd_m n (qd_t n j)) ∧ cn j = nI (qd_b n (qd_t n j)) ∧ cx j = qx_b (qd_x n (qd_t n j))
theorem qz_138 {post : SY → Prop} {n : Nat} (h1 : 1 ≤ n) (h7 : n ≤ 7)
    (H : ∀ cd pr cn cx fd el ro ot nu tw, qr_Y n cd pr cn cx → (∀ e, e < 2 → el e = nI (qd_N n - 1)) → post (nI n, nI (qd_N n), cd, pr, cn, cx, fd, el, ro, ot, nu, tw)) :
    ∀ (d k : Nat) (fl : Int32) (cd pr cn cx fd el ro ot nu tw : Nat → Int32), k + d = qd_N n → qz_T n k cd pr cn cx → (k < qd_N n → fl = 1 ∧ ∀ i, i < n → ro i = nI (qd_g (qd_t n k) i)) → (k = qd_N n → fl = 0) →
      wY_init_138 post (d + 1) fl (nI n) (nI k) cd pr cn cx fd el ro ot nu tw := by
  have hM := qf_N1 h1 h7
  intro d
  induction d with
  | zero =>
    intro k fl cd pr cn cx fd el ro ot nu tw hk hT _ h0
    have ek : k = qd_N n := by omega
    have e0 := h0 ek
    subst e0
    subst ek
    have en : nI (qd_N n) - 1 = nI (qd_N n - 1) := by
      have := nI_pred (qd_N n - 1)
      rw [Nat.sub_add_cancel hM.1] at this
      exact this
    refine br_t rfl (nm_e (nm_e (H _ _ _ _ _ _ _ _ _ _ ⟨fun j hj => (hT j hj).1, fun j hj => (hT j hj).2.1, fun j hj => (hT j hj).2.2.1, fun j hj => (hT j hj).2.2.2⟩ (fun e he => ?_))))
    rw [en]
    rcases (show e = 0 ∨ e = 1 by omega) with rfl | rfl
    · rw [pk_un (by omega), pk_us]
    · rw [pk_us]
  | succ d ih =>
    intro k fl cd pr cn cx fd el ro ot nu tw hk hT h1' _
    have hkN : k < qd_N n := by omega
    obtain ⟨rfl, hro⟩ := h1' hkN
    have hnx := qf_nx h1 h7 hkN
    unfold qd_nx at hnx
    have hsub : Nat.sub n 1 = n - 1 := rfl
    rw [hsub] at hnx
    have hT' : qz_T n (k + 1) (upd cd k (nI (qd_t n k))) (upd pr k (nI (qd_m n (qd_t n k)))) (upd cn k (nI (qd_b n (qd_t n k)))) (upd cx k (qx_b (qd_x n (qd_t n k)))) := by
      intro j hj
      by_cases ej : j = k
      · rw [ej, pk_us, pk_us, pk_us, pk_us]; exact ⟨rfl, rfl, rfl, rfl⟩
      · rw [pk_un ej, pk_un ej, pk_un ej, pk_un ej]; exact hT j (by omega)
    refine br_f (by decide) (qz_note h1 h7 (by omega) hro (qf_cd h1 h7 hkN) (qf_md h1 h7 hkN) (fun tw' => ?_))
    refine qz_next h1 h7 hro (fun i hi => qf_d7 h1 h7 hkN hi) (fun ro' hn hr => ?_) (fun hn => ?_)
    · rw [qd_bi_f (by rw [Nat.beq_eq]; exact hn)] at hnx
      have hlt : qd_nc n (qd_t n k) (qd_np (qd_t n k) (n - 1)) < 8 ^ n := by
        refine qd_pk_lt (fun j hj => ?_)
        have := qf_d7 h1 h7 hkN hj
        by_cases e1 : Nat.blt j (qd_np (qd_t n k) (n - 1)) = true
        · rw [qd_bi_t e1]; omega
        · rw [qd_bi_f e1]
          by_cases e2 : Nat.beq j (qd_np (qd_t n k) (n - 1)) = true
          · rw [qd_bi_t e2]; omega
          · rw [qd_bi_f e2]; omega
      have hk1 : k + 1 < qd_N n := Classical.byContradiction (fun hh => by
        rw [if_neg hh] at hnx
        omega)
      rw [if_pos hk1] at hnx
      rw [hnx] at hr
      exact ih (k + 1) 1 _ _ _ _ _ _ _ _ _ _ (by omega) hT' (fun _ => ⟨rfl, hr⟩) (fun e => by omega)
    · rw [qd_bi_t (by rw [Nat.beq_eq]; exact hn)] at hnx
      have hk1 : ¬ k + 1 < qd_N n := fun hh => by
        rw [if_pos hh] at hnx
        have := qf_lt h1 h7 hh
        have e8 : Nat.pow 8 n = 8 ^ n := rfl
        omega
      exact ih (k + 1) 0 _ _ _ _ _ _ _ _ _ _ (by omega) hT' (fun hh => absurd hh hk1) (fun _ => rfl)
theorem qz_Y {post : SY → Prop} {n : Nat} (h1 : 1 ≤ n) (h7 : n ≤ 7)
    (H : ∀ cd pr cn cx fd el ro ot nu tw, qr_Y n cd pr cn cx → (∀ e, e < 2 → el e = nI (qd_N n - 1)) → post (nI n, nI (qd_N n), cd, pr, cn, cx, fd, el, ro, ot, nu, tw)) :
    ∃ m, wY_init_115 post (nI n) 0 m 0 (fun _ => 0) (fun _ => 0) (fun _ => 0) (fun _ => 0) (fun _ => 0) (fun _ => 0) (fun _ => 0) (fun _ => 0) (fun _ => 0) (fun _ => 0) := by
  have hM := qf_N1 h1 h7
  refine pk_loop (fun m i (s : Nat → Int32) => wY_init_115 post (nI n) 0 m (nI i) (fun _ => 0) (fun _ => 0) (fun _ => 0) (fun _ => 0) (fun _ => 0) (fun _ => 0) s (fun _ => 0) (fun _ => 0) (fun _ => 0)) (fun i s => ∀ j, j < i → s j = nI 0) n 0 (fun _ => 0) (Nat.zero_le _) (fun j hj => absurd hj (Nat.not_lt_zero j)) ?_ ?_
  · intro m s hs
    refine br_t (qx_le (by omega)) ⟨qd_N n + 1, ?_⟩
    refine qz_138 h1 h7 H (qd_N n) 0 1 _ _ _ _ _ _ _ _ _ _ (by omega) (fun j hj => absurd hj (Nat.not_lt_zero j)) (fun _ => ⟨rfl, fun i hi => ?_⟩) (fun e => by omega)
    rw [hs i hi, qf_t0 h1 h7, qd_g_eq, Nat.zero_div]
  · intro m i s hi hs ih
    refine br_f (qx_ge hi (by omega)) ⟨qx_i7 (by omega), nm_r (e' := upd s i (nI 0)) (by rw [nI_clamp (by omega)]; rfl) (nm_r (nI_1 i) (ih _ (fun j hj => ?_)))⟩
    by_cases e : j = i
    · rw [e, pk_us]
    · rw [pk_un e]; exact hs j (by omega)
theorem qz_rel {n : Nat} {N L E cd pr cn cx fd el ro ot nu tw : Nat → Int32} (h1 : 1 ≤ n) (h7 : n ≤ 7) (hE : qx_E E) (hN : ∀ e, e < 2 → ∀ i, i < n → N (e * 7 + i) = nI i) (hY : qr_Y n cd pr cn cx) (hel : ∀ e, e < 2 → el e = nI (qd_N n - 1)) :
    i_Rel 1 (nI n, N, L, E) (nI n, nI (qd_N n), cd, pr, cn, cx, fd, el, ro, ot, nu, tw) := by
  have hM := qf_N1 h1 h7
  refine qr_mk (P := fun _ => qd_N n - 1) ⟨h1, h7, fun _ _ => by show qd_N n - 1 < qd_N n; omega, fun e he i hi => ?_, hE, hY, hel⟩
  show N (e * 7 + i) = nI (qd_g (qd_t n (qd_N n - 1)) i)
  rw [qf_tz h1 h7 hi]
  exact hN e he i hi
theorem i_vc0 (k0 : Int32) : wpX_init (fun u => wpY_init (fun v => i_Rel 1 u v) k0) k0 := by
  by_cases h1 : 1 ≤ k0
  · by_cases h7 : k0 ≤ 7
    · obtain ⟨n, hn, rfl⟩ := nI_of2 (n := 7) (M := 7) rfl (Int32.not_lt.mpr (Int32.le_trans (by decide) h1)) h7
      have hn1 : 1 ≤ n := (nI_leI (a := 1) (by omega) (by omega)).mp h1
      refine br_t h1 (br_t h7 (qz_X hn (fun N' E' hE hN => br_t h1 (br_t h7 (qz_Y hn1 hn (fun cd pr cn cx fd el ro ot nu tw hY hel => qz_rel hn1 hn hE hN hY hel))))))
    · refine br_t h1 (br_f h7 (qz_X (n := 7) (by omega) (fun N' E' hE hN => br_t h1 (br_f h7 (qz_Y (n := 7) (by omega) (by omega) (fun cd pr cn cx fd el ro ot nu tw hY hel => qz_rel (by omega) (by omega) hE hN hY hel))))))
  · refine br_f h1 (qz_X (n := 1) (by omega) (fun N' E' hE hN => br_f h1 (qz_Y (n := 1) (by omega) (by omega) (fun cd pr cn cx fd el ro ot nu tw hY hel => qz_rel (by omega) (by omega) hE hN hY hel))))
end
section
theorem qq_end : True := trivial
end
