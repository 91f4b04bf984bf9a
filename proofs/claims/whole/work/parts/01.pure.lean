/-! 01: counted loops, digits, packed codes, masks, the table (pure; no printed name in it) -/
noncomputable def qd_it {α : Type} (f : Nat → α → α) (z : α) (n : Nat) : α := Nat.rec (motive := fun _ => α) z f n
theorem qd_it0 {α : Type} (f : Nat → α → α) (z : α) : qd_it f z 0 = z := rfl
theorem qd_itS {α : Type} (f : Nat → α → α) (z : α) (n : Nat) : qd_it f z (n + 1) = f n (qd_it f z n) := rfl
theorem qd_itC {α : Type} {f g : Nat → α → α} {z : α} : ∀ {n : Nat}, (∀ i r, i < n → f i r = g i r) → qd_it f z n = qd_it g z n := by
  intro n
  induction n with
  | zero => intro _; rfl
  | succ n ih =>
    intro h
    rw [qd_itS, qd_itS, ih (fun i r hi => h i r (by omega)), h n _ (by omega)]
noncomputable def qd_fo {α β : Type} (f : α → β → β) (z : β) (l : List α) : β := List.rec (motive := fun _ => β) z (fun a _ r => f a r) l
theorem qd_foN {α β : Type} (f : α → β → β) (z : β) : qd_fo f z [] = z := rfl
theorem qd_foC {α β : Type} (f : α → β → β) (z : β) (a : α) (l : List α) : qd_fo f z (a :: l) = f a (qd_fo f z l) := rfl
/-- b ? x : y -/
noncomputable def qd_bi {α : Type} (b : Bool) (x y : α) : α := Bool.rec (motive := fun _ => α) y x b
theorem qd_biT {α : Type} {x y : α} : qd_bi true x y = x := rfl
theorem qd_biF {α : Type} {x y : α} : qd_bi false x y = y := rfl
theorem qd_bi_t {α : Type} {b : Bool} {x y : α} (h : b = true) : qd_bi b x y = x := by rw [h]; rfl
theorem qd_bi_f {α : Type} {b : Bool} {x y : α} (h : ¬ b = true) : qd_bi b x y = y := by
  cases b with
  | true => exact absurd rfl h
  | false => rfl
theorem qd_biAnd {a b : Bool} : qd_bi a b false = true ↔ a = true ∧ b = true := by
  cases a <;> cases b <;> decide
theorem qd_biNot {a b : Bool} : qd_bi a false b = true ↔ ¬ a = true ∧ b = true := by
  cases a <;> cases b <;> decide
theorem qd_biImp {a b : Bool} : qd_bi a b true = true ↔ (a = true → b = true) := by
  cases a <;> cases b <;> decide
theorem qd_biOr {a b : Bool} : qd_bi a true b = true ↔ (a = true ∨ b = true) := by
  cases a <;> cases b <;> decide
noncomputable def qd_ex (p : Nat → Bool) (n : Nat) : Bool := qd_it (fun i r => qd_bi (p i) true r) false n
noncomputable def qd_al (p : Nat → Bool) (n : Nat) : Bool := qd_it (fun i r => qd_bi (p i) r false) true n
noncomputable def qd_ct (p : Nat → Bool) (n : Nat) : Nat := qd_it (fun i r => qd_bi (p i) (Nat.succ r) r) 0 n
noncomputable def qd_sm (f : Nat → Nat) (n : Nat) : Nat := qd_it (fun i r => Nat.add r (f i)) 0 n
theorem qd_smS (f : Nat → Nat) (n : Nat) : qd_sm f (n + 1) = qd_sm f n + f n := rfl
theorem qd_ctS (p : Nat → Bool) (n : Nat) : qd_ct p (n + 1) = qd_bi (p n) (qd_ct p n + 1) (qd_ct p n) := rfl
theorem qd_ex_iff {p : Nat → Bool} {n : Nat} : qd_ex p n = true ↔ ∃ i, i < n ∧ p i = true := by
  induction n with
  | zero =>
    constructor
    · intro h
      exact absurd (show (false : Bool) = true from h) (by decide)
    · rintro ⟨i, hi, _⟩
      omega
  | succ n ih =>
    have e : qd_ex p (n + 1) = qd_bi (p n) true (qd_ex p n) := rfl
    rw [e]
    by_cases hp : p n = true
    · rw [qd_bi_t hp]
      exact ⟨fun _ => ⟨n, by omega, hp⟩, fun _ => rfl⟩
    · rw [qd_bi_f hp, ih]
      constructor
      · rintro ⟨i, hi, h⟩
        exact ⟨i, by omega, h⟩
      · rintro ⟨i, hi, h⟩
        refine ⟨i, ?_, h⟩
        have : i ≠ n := fun e => hp (e ▸ h)
        omega
theorem qd_al_iff {p : Nat → Bool} {n : Nat} : qd_al p n = true ↔ ∀ i, i < n → p i = true := by
  induction n with
  | zero =>
    constructor
    · intro _ i hi
      omega
    · intro _
      rfl
  | succ n ih =>
    have e : qd_al p (n + 1) = qd_bi (p n) (qd_al p n) false := rfl
    rw [e]
    by_cases hp : p n = true
    · rw [qd_bi_t hp, ih]
      constructor
      · intro h i hi
        by_cases e : i = n
        · rw [e]; exact hp
        · exact h i (by omega)
      · intro h i hi
        exact h i (by omega)
    · rw [qd_bi_f hp]
      constructor
      · intro h
        exact absurd h (by decide)
      · intro h
        exact absurd (h n (by omega)) hp
theorem qd_exC {p q : Nat → Bool} {n : Nat} (h : ∀ i, i < n → p i = q i) : qd_ex p n = qd_ex q n :=
  qd_itC (fun i r hi => by rw [h i hi])
theorem qd_ctC {p q : Nat → Bool} {n : Nat} (h : ∀ i, i < n → p i = q i) : qd_ct p n = qd_ct q n :=
  qd_itC (fun i r hi => by rw [h i hi])
theorem qd_smC {f g : Nat → Nat} {n : Nat} (h : ∀ i, i < n → f i = g i) : qd_sm f n = qd_sm g n :=
  qd_itC (fun i r hi => by rw [h i hi])
/-- the first i below n with p, else n -/
noncomputable def qd_fi (p : Nat → Bool) (n : Nat) : Nat := qd_it (fun i r => qd_bi (Nat.beq r i) (qd_bi (p i) i (Nat.succ i)) r) 0 n
theorem qd_fiS (p : Nat → Bool) (n : Nat) : qd_fi p (n + 1) = qd_bi (Nat.beq (qd_fi p n) n) (qd_bi (p n) n (n + 1)) (qd_fi p n) := rfl
theorem qd_fi_no {p : Nat → Bool} {n : Nat} (h : ∀ i, i < n → ¬ p i = true) : qd_fi p n = n := by
  induction n with
  | zero => rfl
  | succ n ih =>
    rw [qd_fiS, ih (fun i hi => h i (by omega)), qd_bi_t (by rw [Nat.beq_eq]), qd_bi_f (h n (by omega))]
theorem qd_fi_at {p : Nat → Bool} {i : Nat} (h : ∀ j, j < i → ¬ p j = true) (hi : p i = true) : ∀ {n : Nat}, i < n → qd_fi p n = i := by
  intro n
  induction n with
  | zero => intro h; omega
  | succ n ih =>
    intro hn
    rw [qd_fiS]
    by_cases e : i = n
    · subst e
      rw [qd_fi_no h, qd_bi_t (by rw [Nat.beq_eq]), qd_bi_t hi]
    · rw [ih (by omega), qd_bi_f (by rw [Nat.beq_eq]; omega)]
/-- digit i of a code -/
def qd_g (c i : Nat) : Nat := Nat.mod (Nat.div c (Nat.pow 8 i)) 8
theorem qd_g_eq (c i : Nat) : qd_g c i = c / 8 ^ i % 8 := rfl
theorem qd_g8 (c i : Nat) : qd_g c i < 8 := Nat.mod_lt _ (by decide)
/-- the code with digits f -/
noncomputable def qd_pk (n : Nat) (f : Nat → Nat) : Nat := qd_it (fun i r => Nat.add r (Nat.mul (f i) (Nat.pow 8 i))) 0 n
theorem qd_pkS (n : Nat) (f : Nat → Nat) : qd_pk (n + 1) f = qd_pk n f + f n * 8 ^ n := rfl
theorem qd_pkC {n : Nat} {f g : Nat → Nat} (h : ∀ i, i < n → f i = g i) : qd_pk n f = qd_pk n g :=
  qd_itC (fun i r hi => by rw [h i hi])
theorem qd_pk_lt {n : Nat} {f : Nat → Nat} (h : ∀ i, i < n → f i < 8) : qd_pk n f < 8 ^ n := by
  induction n with
  | zero => exact Nat.zero_lt_one
  | succ n ih =>
    have h1 := ih (fun i hi => h i (by omega))
    have h2 : f n * 8 ^ n ≤ 7 * 8 ^ n := Nat.mul_le_mul_right _ (by have := h n (by omega); omega)
    rw [qd_pkS, Nat.pow_succ]
    omega
theorem qd_g_pk {n : Nat} {f : Nat → Nat} (h : ∀ i, i < n → f i < 8) : ∀ i, i < n → qd_g (qd_pk n f) i = f i := by
  induction n with
  | zero => intro i hi; omega
  | succ n ih =>
    intro i hi
    have hl := qd_pk_lt (n := n) (f := f) (fun i hi => h i (by omega))
    rw [qd_pkS, qd_g_eq]
    by_cases e : i = n
    · subst e
      have hp : 0 < 8 ^ i := Nat.pow_pos (by decide)
      rw [Nat.mul_comm, Nat.add_mul_div_left _ _ hp, Nat.div_eq_of_lt hl, Nat.zero_add, Nat.mod_eq_of_lt (h i (by omega))]
    · have hp : 0 < 8 ^ i := Nat.pow_pos (by decide)
      have e8 : 8 ^ n = 8 ^ i * (8 * 8 ^ (n - i - 1)) := by
        rw [← Nat.mul_assoc, ← Nat.pow_succ, ← Nat.pow_add]
        congr 1
        omega
      have e9 : f n * 8 ^ n = 8 ^ i * (8 * (f n * 8 ^ (n - i - 1))) := by
        rw [e8, Nat.mul_left_comm, Nat.mul_left_comm (f n) 8]
      rw [e9, Nat.add_mul_div_left _ _ hp, Nat.add_mul_mod_self_left, ← qd_g_eq]
      exact ih (fun i hi => h i (by omega)) i (by omega)
/-- how many blocks begin before n, in a row whose numbers go up without a gap -/
noncomputable def qd_bf (f : Nat → Nat) (n : Nat) : Nat := qd_it (fun i r => qd_bi (Nat.beq (f i) r) (Nat.succ r) r) 0 n
theorem qd_bfS (f : Nat → Nat) (n : Nat) : qd_bf f (n + 1) = qd_bi (Nat.beq (f n) (qd_bf f n)) (qd_bf f n + 1) (qd_bf f n) := rfl
theorem qd_bfC {f g : Nat → Nat} {n : Nat} (h : ∀ i, i < n → f i = g i) : qd_bf f n = qd_bf g n :=
  qd_itC (fun i r hi => by rw [h i hi])
theorem qd_bf_le {f : Nat → Nat} {n : Nat} : qd_bf f n ≤ n := by
  induction n with
  | zero => exact Nat.le_refl 0
  | succ n ih =>
    rw [qd_bfS]
    by_cases h : Nat.beq (f n) (qd_bf f n) = true
    · rw [qd_bi_t h]; omega
    · rw [qd_bi_f h]; omega
/-- the table of n points: all rows whose numbers go up without a gap, in their order -/
noncomputable def qd_T (n : Nat) : List Nat :=
  qd_it (fun n l => l.flatMap (fun c => (List.range (qd_bf (qd_g c) n + 1)).map (fun d => c + d * 8 ^ n))) [0] n
theorem qd_TS (n : Nat) : qd_T (n + 1) = (qd_T n).flatMap (fun c => (List.range (qd_bf (qd_g c) n + 1)).map (fun d => c + d * 8 ^ n)) := rfl
theorem qd_T_in {f : Nat → Nat} : ∀ {n : Nat}, n ≤ 7 → (∀ i, i < n → f i ≤ qd_bf f i) → qd_pk n f ∈ qd_T n := by
  intro n
  induction n with
  | zero => intro _ _; exact List.mem_singleton.mpr rfl
  | succ n ih =>
    intro hn h
    have h8 : ∀ i, i < n → f i < 8 := fun i hi => by
      have h1 := h i (by omega)
      have h2 := qd_bf_le (f := f) (n := i)
      omega
    rw [qd_TS, List.mem_flatMap]
    refine ⟨qd_pk n f, ih (by omega) (fun i hi => h i (by omega)), ?_⟩
    rw [List.mem_map]
    refine ⟨f n, ?_, rfl⟩
    rw [List.mem_range, qd_bfC (g := f) (fun i hi => qd_g_pk h8 i hi)]
    have h1 := h n (by omega)
    omega
/-- how many partitions of n points there are; the one at place k -/
noncomputable def qd_N (n : Nat) : Nat := (qd_T n).length
noncomputable def qd_t (n k : Nat) : Nat := (qd_T n).getD k 0
theorem qd_t_in {n k : Nat} (h : k < qd_N n) : qd_t n k ∈ qd_T n := by
  have e : qd_t n k = (qd_T n)[k]'h := by
    unfold qd_t
    rw [List.getD_eq_getElem?_getD, List.getElem?_eq_getElem h, Option.getD_some]
  rw [e]
  exact List.getElem_mem h
theorem qd_in_t {n c : Nat} (h : c ∈ qd_T n) : ∃ k, k < qd_N n ∧ qd_t n k = c := by
  obtain ⟨k, hk, e⟩ := List.getElem_of_mem h
  refine ⟨k, hk, ?_⟩
  unfold qd_t
  rw [List.getD_eq_getElem?_getD, List.getElem?_eq_getElem hk, Option.getD_some]
  exact e
/-- all of a list -/
noncomputable def qd_la (p : Nat → Bool) (l : List Nat) : Bool := qd_fo (fun a r => qd_bi (p a) r false) true l
theorem qd_la_iff {p : Nat → Bool} {l : List Nat} : qd_la p l = true ↔ ∀ a, a ∈ l → p a = true := by
  induction l with
  | nil =>
    constructor
    · intro _ a ha
      exact absurd ha (List.not_mem_nil)
    · intro _
      rfl
  | cons a l ih =>
    have e : qd_la p (a :: l) = qd_bi (p a) (qd_la p l) false := rfl
    rw [e]
    by_cases hp : p a = true
    · rw [qd_bi_t hp, ih]
      constructor
      · intro h b hb
        rcases List.mem_cons.mp hb with e | hb
        · rw [e]; exact hp
        · exact h b hb
      · intro h b hb
        exact h b (List.mem_cons_of_mem _ hb)
    · rw [qd_bi_f hp]
      constructor
      · intro h
        exact absurd h (by decide)
      · intro h
        exact absurd (h a List.mem_cons_self) hp
/-- equal lists, read at a place -/
theorem qd_mapAt {f : Nat → Nat} {l m : List Nat} (h : l.map f = m) {k : Nat} (hk : k < l.length) : f (l.getD k 0) = m.getD k 0 := by
  subst h
  rw [List.getD_eq_getElem?_getD, List.getD_eq_getElem?_getD, List.getElem?_map, List.getElem?_eq_getElem hk]
  rfl
/-- the mask of a relation on pairs i < j of n points: pair (i, j) has the bit i n + j - (i + 1)(i + 2) / 2 -/
def qd_bx (n i j : Nat) : Nat := Nat.sub (Nat.add (Nat.mul i n) j) (Nat.div (Nat.mul (Nat.succ i) (Nat.succ (Nat.succ i))) 2)
noncomputable def qd_pj (R : Nat → Nat → Bool) (n i : Nat) (z : Nat) (m : Nat) : Nat :=
  qd_it (fun j r => qd_bi (Nat.blt i j) (qd_bi (R i j) (Nat.lor r (Nat.pow 2 (qd_bx n i j))) r) r) z m
noncomputable def qd_pm (R : Nat → Nat → Bool) (n : Nat) : Nat := qd_it (fun i r => qd_pj R n i r n) 0 n
theorem qd_pmC {R S : Nat → Nat → Bool} {n : Nat} (h : ∀ i j, i < j → j < n → R i j = S i j) : qd_pm R n = qd_pm S n := by
  refine qd_itC (fun i r hi => qd_itC (fun j s hj => ?_))
  by_cases hl : Nat.blt i j = true
  · rw [qd_bi_t hl, qd_bi_t hl, h i j (by rw [Nat.blt_eq] at hl; exact hl) hj]
  · rw [qd_bi_f hl, qd_bi_f hl]
theorem qd_pj_bit {R : Nat → Nat → Bool} {n i z k : Nat} : ∀ {m : Nat}, (qd_pj R n i z m).testBit k = true ↔ z.testBit k = true ∨ ∃ j, j < m ∧ i < j ∧ R i j = true ∧ qd_bx n i j = k := by
  intro m
  induction m with
  | zero =>
    constructor
    · intro h; exact Or.inl h
    · rintro (h | ⟨j, hj, _⟩)
      · exact h
      · omega
  | succ m ih =>
    have e : qd_pj R n i z (m + 1) = qd_bi (Nat.blt i m) (qd_bi (R i m) (qd_pj R n i z m ||| 2 ^ qd_bx n i m) (qd_pj R n i z m)) (qd_pj R n i z m) := rfl
    have keep : ¬ (i < m ∧ R i m = true) → ((z.testBit k = true ∨ ∃ j, j < m ∧ i < j ∧ R i j = true ∧ qd_bx n i j = k) ↔ (z.testBit k = true ∨ ∃ j, j < m + 1 ∧ i < j ∧ R i j = true ∧ qd_bx n i j = k)) := by
      intro hn
      constructor
      · rintro (h | ⟨j, hj, h1, h2, h3⟩)
        · exact Or.inl h
        · exact Or.inr ⟨j, by omega, h1, h2, h3⟩
      · rintro (h | ⟨j, hj, h1, h2, h3⟩)
        · exact Or.inl h
        · refine Or.inr ⟨j, ?_, h1, h2, h3⟩
          have : j ≠ m := fun e => hn (e ▸ ⟨h1, h2⟩)
          omega
    rw [e]
    by_cases hl : Nat.blt i m = true
    · rw [qd_bi_t hl]
      rw [Nat.blt_eq] at hl
      by_cases hr : R i m = true
      · rw [qd_bi_t hr, Nat.testBit_or, Bool.or_eq_true, ih, Nat.testBit_two_pow, decide_eq_true_iff]
        constructor
        · rintro ((h | ⟨j, hj, h1, h2, h3⟩) | h)
          · exact Or.inl h
          · exact Or.inr ⟨j, by omega, h1, h2, h3⟩
          · exact Or.inr ⟨m, by omega, hl, hr, h⟩
        · rintro (h | ⟨j, hj, h1, h2, h3⟩)
          · exact Or.inl (Or.inl h)
          · by_cases ej : j = m
            · subst ej
              exact Or.inr h3
            · exact Or.inl (Or.inr ⟨j, by omega, h1, h2, h3⟩)
      · rw [qd_bi_f hr, ih]
        exact keep (fun h => hr h.2)
    · rw [qd_bi_f hl, ih]
      exact keep (fun h => hl (by rw [Nat.blt_eq]; exact h.1))
theorem qd_pm_bit' {R : Nat → Nat → Bool} {n k : Nat} : ∀ {m : Nat}, (qd_it (fun i r => qd_pj R n i r n) 0 m).testBit k = true ↔ ∃ i j, i < m ∧ j < n ∧ i < j ∧ R i j = true ∧ qd_bx n i j = k := by
  intro m
  induction m with
  | zero =>
    constructor
    · intro h
      rw [qd_it0, Nat.zero_testBit] at h
      exact absurd h (by decide)
    · rintro ⟨i, j, hi, _⟩
      omega
  | succ m ih =>
    rw [qd_itS, qd_pj_bit, ih]
    constructor
    · rintro (⟨i, j, hi, h⟩ | ⟨j, hj, h⟩)
      · exact ⟨i, j, by omega, h⟩
      · exact ⟨m, j, by omega, hj, h⟩
    · rintro ⟨i, j, hi, hj, h⟩
      by_cases e : i = m
      · subst e
        exact Or.inr ⟨j, hj, h⟩
      · exact Or.inl ⟨i, j, by omega, hj, h⟩
theorem qd_bx_ck : qd_al (fun n => qd_al (fun i => qd_al (fun j => qd_al (fun a => qd_al (fun b => qd_bi (Nat.blt i j) (qd_bi (Nat.blt a b) (qd_bi (Nat.beq (qd_bx n i j) (qd_bx n a b)) (qd_bi (Nat.beq i a) (Nat.beq j b) false) true) true) true) n) n) n) n) 8 = true := by
  decide +kernel
theorem qd_bx_inj (n : Nat) (hn : n < 8) (i : Nat) (hi : i < n) (j : Nat) (hj : j < n) (a : Nat) (ha : a < n) (b : Nat) (hb : b < n) (hij : i < j) (hab : a < b) (h : qd_bx n i j = qd_bx n a b) : i = a ∧ j = b := by
  have q := qd_bx_ck
  simp only [qd_al_iff, qd_biImp, qd_biAnd, Nat.blt_eq, Nat.beq_eq] at q
  exact q n hn i hi j hj a ha b hb hij hab h
theorem qd_bx_lt : ∀ n, n < 8 → ∀ i, i < n → ∀ j, j < n → i < j → qd_bx n i j < 21 := by
  decide +kernel
theorem qd_pm_bit {R : Nat → Nat → Bool} {n i j : Nat} (hn : n < 8) (hi : i < j) (hj : j < n) : (qd_pm R n).testBit (qd_bx n i j) = R i j := by
  have h : (qd_pm R n).testBit (qd_bx n i j) = true ↔ R i j = true := by
    unfold qd_pm
    rw [qd_pm_bit']
    constructor
    · rintro ⟨a, b, ha, hb, hab, hR, e⟩
      obtain ⟨rfl, rfl⟩ := qd_bx_inj n hn a ha b hb i (by omega) j hj hab hi e
      exact hR
    · intro h
      exact ⟨i, j, by omega, hj, hi, h, rfl⟩
  cases hR : R i j with
  | true => exact h.mpr hR
  | false =>
    cases hp : (qd_pm R n).testBit (qd_bx n i j) with
    | true => exact absurd (h.mp hp) (by rw [hR]; decide)
    | false => rfl
theorem qd_pm_lt {R : Nat → Nat → Bool} {n : Nat} (hn : n < 8) : qd_pm R n < 2 ^ 21 := by
  refine Nat.lt_pow_two_of_testBit _ (fun k hk => ?_)
  cases hp : (qd_pm R n).testBit k with
  | false => rfl
  | true =>
    exfalso
    unfold qd_pm at hp
    rw [qd_pm_bit'] at hp
    obtain ⟨a, b, ha, hb, hab, _, e⟩ := hp
    have := qd_bx_lt n hn a ha b hb hab
    omega
theorem qd_pm_le {R S : Nat → Nat → Bool} {n : Nat} (hn : n < 8) : qd_pm R n &&& qd_pm S n = qd_pm R n ↔ ∀ i j, i < j → j < n → R i j = true → S i j = true := by
  constructor
  · intro h i j hi hj hR
    have := congrArg (fun x => x.testBit (qd_bx n i j)) h
    simp only [Nat.testBit_and, qd_pm_bit hn hi hj, hR, Bool.true_and] at this
    exact this
  · intro h
    refine Nat.eq_of_testBit_eq (fun k => ?_)
    rw [Nat.testBit_and]
    cases hp : (qd_pm R n).testBit k with
    | false => rfl
    | true =>
      rw [Bool.true_and]
      unfold qd_pm at hp ⊢
      rw [qd_pm_bit'] at hp ⊢
      obtain ⟨a, b, ha, hb, hab, hR, e⟩ := hp
      exact ⟨a, b, ha, hb, hab, h a b hab hb hR, e⟩
theorem qd_pm_0 {R S : Nat → Nat → Bool} {n : Nat} (hn : n < 8) : qd_pm R n &&& qd_pm S n = 0 ↔ ∀ i j, i < j → j < n → R i j = true → ¬ S i j = true := by
  constructor
  · intro h i j hi hj hR hS
    have := congrArg (fun x => x.testBit (qd_bx n i j)) h
    simp only [Nat.testBit_and, qd_pm_bit hn hi hj, hR, hS, Nat.zero_testBit] at this
    exact absurd this (by decide)
  · intro h
    refine Nat.eq_of_testBit_eq (fun k => ?_)
    rw [Nat.testBit_and, Nat.zero_testBit]
    cases hp : (qd_pm R n).testBit k with
    | false => rfl
    | true =>
      cases hq : (qd_pm S n).testBit k with
      | false => rfl
      | true =>
        exfalso
        unfold qd_pm at hp hq
        rw [qd_pm_bit'] at hp hq
        obtain ⟨a, b, ha, hb, hab, hR, e⟩ := hp
        obtain ⟨a', b', ha', hb', hab', hS, e'⟩ := hq
        obtain ⟨rfl, rfl⟩ := qd_bx_inj n hn a ha b hb a' ha' b' hb' hab hab' (e.trans e'.symm)
        exact h a b hab hb hR hS
