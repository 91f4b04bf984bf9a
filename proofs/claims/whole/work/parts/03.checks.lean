/-! 03: the checks that the kernel reckons, and what each says -/
/-- uncross -/
noncomputable def qk_u1 (n : Nat) (l : List Nat) (e : Nat) : Bool :=
  qd_fr (qd_eM e) fun me => qd_fr (qd_m n (qd_un n (qd_eC e) n)) fun m =>
    qd_lx (fun a => qd_bi (Nat.beq (qd_eM a) m) (qd_bi (Nat.beq (qd_eX a) 0) (qd_bi (Nat.beq (Nat.land me (qd_eM a)) me)
      (qd_fr (qd_eB a) fun q => qd_la (fun b => qd_bi (Nat.beq (qd_eX b) 0) (qd_bi (Nat.beq (Nat.land me (qd_eM b)) me) (qd_bi (Nat.beq (qd_eM b) m) true (Nat.blt (qd_eB b) q)) true) true) l) false) false) false) l
theorem qk_u1_to {n : Nat} {l : List Nat} {e : Nat} (h : qk_u1 n l e = true) :
    ∃ a, a ∈ l ∧ qd_eM a = qd_m n (qd_un n (qd_eC e) n) ∧ qd_eX a = 0 ∧ qd_eM e &&& qd_eM a = qd_eM e ∧
      ∀ b, b ∈ l → qd_eX b = 0 → qd_eM e &&& qd_eM b = qd_eM e → qd_eM b = qd_eM a ∨ qd_eB b < qd_eB a := by
  unfold qk_u1 at h
  rw [qd_fr_eq, qd_fr_eq] at h
  obtain ⟨a, ha, h⟩ := qd_lx_to h
  simp only [qd_biAnd, qd_fr_eq, Nat.beq_eq, qd_la_iff, qd_biImp, qd_biOr, Nat.blt_eq] at h
  obtain ⟨h1, h2, h3, h4⟩ := h
  exact ⟨a, ha, h1, h2, h3, fun b hb hx hf => by rw [h1]; exact h4 b hb hx hf⟩
/-- complement -/
noncomputable def qk_k1 (n : Nat) (l : List Nat) (e : Nat) : Bool :=
  qd_bi (Nat.beq (qd_eX e) 0) (qd_fr (qd_cm n (qd_eC e)) fun cm => qd_fr (qd_m n (qd_kq n (qd_eC e))) fun m =>
    qd_lx (fun a => qd_bi (Nat.beq (qd_eM a) m) (qd_bi (Nat.beq (qd_eX a) 0) (qd_bi (Nat.beq (Nat.land (qd_eM a) cm) 0)
      (qd_fr (qd_eB a) fun q => qd_la (fun b => qd_bi (Nat.beq (qd_eX b) 0) (qd_bi (Nat.beq (Nat.land (qd_eM b) cm) 0) (qd_bi (Nat.beq (qd_eM b) m) true (Nat.blt q (qd_eB b))) true) true) l) false) false) false) l) true
theorem qk_k1_to {n : Nat} {l : List Nat} {e : Nat} (h : qk_k1 n l e = true) (hx : qd_eX e = 0) :
    ∃ a, a ∈ l ∧ qd_eM a = qd_m n (qd_kq n (qd_eC e)) ∧ qd_eX a = 0 ∧ qd_eM a &&& qd_cm n (qd_eC e) = 0 ∧
      ∀ b, b ∈ l → qd_eX b = 0 → qd_eM b &&& qd_cm n (qd_eC e) = 0 → qd_eM b = qd_eM a ∨ qd_eB a < qd_eB b := by
  unfold qk_k1 at h
  rw [qd_bi_t (by rw [Nat.beq_eq]; exact hx), qd_fr_eq, qd_fr_eq] at h
  obtain ⟨a, ha, h⟩ := qd_lx_to h
  simp only [qd_biAnd, qd_fr_eq, Nat.beq_eq, qd_la_iff, qd_biImp, qd_biOr, Nat.blt_eq] at h
  obtain ⟨h1, h2, h3, h4⟩ := h
  exact ⟨a, ha, h1, h2, h3, fun b hb hx hf => by rw [h1]; exact h4 b hb hx hf⟩
/-- conditional sums over a list, and by places -/
noncomputable def qd_cs (q : Nat → Bool) (v : Nat → Nat) (l : List Nat) : Nat := qd_fo (fun a s => qd_bi (q a) (Nat.add (v a) s) s) 0 l
theorem qd_csC (q : Nat → Bool) (v : Nat → Nat) (a : Nat) (l : List Nat) : qd_cs q v (a :: l) = qd_bi (q a) (v a + qd_cs q v l) (qd_cs q v l) := rfl
theorem qd_sm_sh (h : Nat → Nat) : ∀ n, qd_sm h (n + 1) = h 0 + qd_sm (fun k => h (k + 1)) n := by
  intro n
  induction n with
  | zero => rw [qd_smS]; exact Nat.add_comm _ _
  | succ n ih => rw [qd_smS, ih, qd_smS, Nat.add_assoc]
theorem qd_cs_sm (q : Nat → Bool) (v f : Nat → Nat) : ∀ l : List Nat, qd_cs q v (l.map f) = qd_sm (fun k => qd_bi (q (f (l.getD k 0))) (v (f (l.getD k 0))) 0) l.length := by
  intro l
  induction l with
  | nil => rfl
  | cons a l ih =>
    rw [List.map_cons, qd_csC, List.length_cons, qd_sm_sh, ih]
    have e1 : (a :: l).getD 0 0 = a := rfl
    have e2 : ∀ k, (a :: l).getD (k + 1) 0 = l.getD k 0 := fun _ => rfl
    simp only [e1, e2]
    by_cases h : q (f a) = true
    · rw [qd_bi_t h, qd_bi_t h]
    · rw [qd_bi_f h, qd_bi_f h, Nat.zero_add]
theorem qd_cs_fm (q p : Nat → Bool) (v w f : Nat → Nat) (hv : ∀ a, p a = true → v (f a) = w a) : ∀ l : List Nat, qd_cs q v ((l.filter p).map f) = qd_cs (fun a => qd_bi (p a) (q (f a)) false) w l := by
  intro l
  induction l with
  | nil => rfl
  | cons a l ih =>
    rw [qd_csC]
    by_cases h : p a = true
    · rw [List.filter_cons_of_pos h, List.map_cons, qd_csC, ih, qd_bi_t (b := p a) h, hv a h]
    · rw [List.filter_cons_of_neg h, ih, qd_bi_f (b := p a) h]
      rfl
theorem qd_cs_cg {q q' : Nat → Bool} {v v' : Nat → Nat} : ∀ {l : List Nat}, (∀ a, a ∈ l → q a = q' a ∧ (q a = true → v a = v' a)) → qd_cs q v l = qd_cs q' v' l := by
  intro l
  induction l with
  | nil => intro _; rfl
  | cons a l ih =>
    intro h
    have h1 := h a List.mem_cons_self
    have h2 := ih (fun b hb => h b (List.mem_cons_of_mem _ hb))
    rw [qd_csC, qd_csC, h2, ← h1.1]
    by_cases hq : q a = true
    · rw [qd_bi_t hq, qd_bi_t hq, h1.2 hq]
    · rw [qd_bi_f hq, qd_bi_f hq]
/-- uncrossed -/
noncomputable def qk_c1 (n : Nat) (l : List Nat) (e : Nat) : Bool :=
  qd_bi (Nat.beq (qd_eX e) 0) (qd_fr (qd_eM e) fun me =>
    Nat.beq (qd_cs (fun b => qd_bi (Nat.beq (qd_eX b) 0) (Nat.beq (Nat.land (qd_eM b) me) (qd_eM b)) false) (fun _ => 1) l) (qd_uc n (qd_eC e) n)) true
theorem qk_c1_to {n : Nat} {l : List Nat} {e : Nat} (h : qk_c1 n l e = true) (hx : qd_eX e = 0) :
    qd_cs (fun b => qd_bi (Nat.beq (qd_eX b) 0) (Nat.beq (Nat.land (qd_eM b) (qd_eM e)) (qd_eM b)) false) (fun _ => 1) l = qd_uc n (qd_eC e) n := by
  unfold qk_c1 at h
  rw [qd_bi_t (by rw [Nat.beq_eq]; exact hx), qd_fr_eq, Nat.beq_eq] at h
  exact h
/-- below r by r's complement -/
theorem qd_nr {x y : Nat} (hx : x < 2097152) (hy : y < 2097152) : x &&& (2097151 - y) = 0 ↔ x &&& y = x := by
  have e : 2097151 - y = 2 ^ 21 - (y + 1) := by omega
  have hb : ∀ i, (2097151 - y).testBit i = (decide (i < 21) && !y.testBit i) := by
    intro i
    rw [e]
    exact Nat.testBit_two_pow_sub_succ (n := 21) hy i
  constructor
  · intro h
    refine Nat.eq_of_testBit_eq (fun i => ?_)
    have hi := congrArg (fun z => z.testBit i) h
    simp only [Nat.testBit_and, hb, Nat.zero_testBit] at hi
    rw [Nat.testBit_and]
    by_cases h21 : i < 21
    · cases hxi : x.testBit i with
      | false => rfl
      | true =>
        rw [hxi] at hi
        simp only [h21, decide_true, Bool.true_and] at hi
        cases hyi : y.testBit i with
        | false => rw [hyi] at hi; exact absurd hi (by decide)
        | true => rfl
    · have : x.testBit i = false := Nat.testBit_lt_two_pow (Nat.lt_of_lt_of_le hx (Nat.pow_le_pow_right (n := 2) (by decide) (show 21 ≤ i by omega)))
      rw [this]; rfl
  · intro h
    refine Nat.eq_of_testBit_eq (fun i => ?_)
    have hi := congrArg (fun z => z.testBit i) h
    simp only [Nat.testBit_and] at hi
    rw [Nat.testBit_and, hb, Nat.zero_testBit]
    cases hxi : x.testBit i with
    | false => rfl
    | true =>
      rw [hxi] at hi
      rw [Bool.true_and] at hi
      rw [hi]
      cases decide (i < 21) <;> rfl
theorem qd_eM_lt (a : Nat) : qd_eM a < 2097152 := Nat.mod_lt _ (by decide)
theorem qd_filter_all (l : List Nat) : (l.filter (fun _ => true)).map (fun i => i) = l := by
  have h : l.filter (fun _ => true) = l := List.filter_eq_self.mpr (fun _ _ => rfl)
  rw [h, List.map_id']
/-- interval -/
noncomputable def qk_i1 (n : Nat) (l : List Nat) (e : Nat) : Bool :=
  qd_fr (qd_eM e) fun me => qd_mf (fun i => i) (fun _ => true) (qd_lp n (qd_eC e)) fun L =>
    qd_mf (fun a => a) (fun a => Nat.beq (Nat.land me (qd_eM a)) me) l fun W =>
      qd_la (fun r => qd_fr (Nat.sub 2097151 (qd_eM r)) fun nr =>
        Nat.beq (qd_cs (fun a => Nat.beq (Nat.land (qd_eM a) nr) 0) (fun _ => 1) W) (qd_iv (qd_lq L (qd_eC r)) n)) W
theorem qk_i1_to {n : Nat} {l : List Nat} {e : Nat} (h : qk_i1 n l e = true) (r : Nat) (hr : r ∈ l) (hf : qd_eM e &&& qd_eM r = qd_eM e) :
    qd_cs (fun a => qd_bi (Nat.beq (Nat.land (qd_eM e) (qd_eM a)) (qd_eM e)) (Nat.beq (Nat.land (qd_eM a) (qd_eM r)) (qd_eM a)) false) (fun _ => 1) l = qd_iv (qd_pt n (qd_eC e) (qd_eC r)) n := by
  unfold qk_i1 at h
  rw [qd_fr_eq, qd_mf_eq, qd_mf_eq, qd_filter_all, qd_la_iff] at h
  have h1 := h r (List.mem_map.mpr ⟨r, List.mem_filter.mpr ⟨hr, by rw [Nat.beq_eq]; exact hf⟩, rfl⟩)
  rw [qd_fr_eq, Nat.beq_eq, qd_cs_fm _ _ (fun _ => 1) (fun _ => 1) (fun a => a) (fun _ _ => rfl)] at h1
  rw [show qd_pt n (qd_eC e) (qd_eC r) = qd_lq (qd_lp n (qd_eC e)) (qd_eC r) from funext (fun b => (qd_lq_pt _ _ b n).symm)]
  refine Eq.trans (qd_cs_cg (fun a _ => ⟨?_, fun _ => rfl⟩)) h1
  refine congrArg (fun z => qd_bi (Nat.beq (Nat.land (qd_eM e) (qd_eM a)) (qd_eM e)) z false) ?_
  show Nat.beq (Nat.land (qd_eM a) (qd_eM r)) (qd_eM a) = Nat.beq (Nat.land (qd_eM a) (Nat.sub 2097151 (qd_eM r))) 0
  rw [Bool.eq_iff_iff, Nat.beq_eq, Nat.beq_eq]
  exact (qd_nr (qd_eM_lt a) (qd_eM_lt r)).symm
/-- sign and full chains -/
noncomputable def qk_h1 (V : (Nat → Nat) → Nat) (cmp : Nat → Nat → Bool) (fin : Nat → Nat → Bool) (n : Nat) (l : List Nat) (e : Nat) : Bool :=
  qd_fr (qd_eM e) fun me => qd_fr (qd_eB e) fun be => qd_mf (fun i => i) (fun _ => true) (qd_lp n (qd_eC e)) fun L =>
    qd_mf (fun a => Nat.add (Nat.mod a 16777216) (Nat.mul 16777216 (V (qd_lq L (qd_eC a))))) (fun a => Nat.beq (Nat.land me (qd_eM a)) me) l fun W =>
      qd_la (fun r => qd_fr (Nat.sub 2097151 (qd_eM r)) fun nr => qd_fr (qd_eB r) fun br =>
        qd_bi (Nat.ble br be) (qd_bi (Nat.beq (qd_eM r) me) (Nat.beq (Nat.div r 16777216) 1)
          (fin (qd_cs (fun a => qd_bi (Nat.beq (Nat.land (qd_eM a) nr) 0) (cmp (qd_eB a) br) false) (fun a => Nat.div a 16777216) W) (Nat.div r 16777216))) false) W
theorem qk_pack (a v : Nat) : qd_eM (Nat.add (Nat.mod a 16777216) (Nat.mul 16777216 v)) = qd_eM a ∧ qd_eB (Nat.add (Nat.mod a 16777216) (Nat.mul 16777216 v)) = qd_eB a ∧ Nat.div (Nat.add (Nat.mod a 16777216) (Nat.mul 16777216 v)) 16777216 = v := by
  have e : Nat.add (Nat.mod a 16777216) (Nat.mul 16777216 v) = a % 16777216 + 16777216 * v := rfl
  have f1 : ∀ a, qd_eM a = a % 2097152 := fun _ => rfl
  have f2 : ∀ a, qd_eB a = a / 2097152 % 8 := fun _ => rfl
  have f3 : ∀ a, Nat.div a 16777216 = a / 16777216 := fun _ => rfl
  rw [e, f1, f1, f2, f2, f3]
  omega
theorem qk_h1_to {V : (Nat → Nat) → Nat} {cmp : Nat → Nat → Bool} {fin : Nat → Nat → Bool} {n : Nat} {l : List Nat} {e : Nat} (h : qk_h1 V cmp fin n l e = true) (r : Nat) (hr : r ∈ l) (hf : qd_eM e &&& qd_eM r = qd_eM e) :
    qd_eB r ≤ qd_eB e ∧ (qd_eM r = qd_eM e → V (qd_pt n (qd_eC e) (qd_eC r)) = 1) ∧
    (¬ qd_eM r = qd_eM e → fin (qd_cs (fun a => qd_bi (Nat.beq (Nat.land (qd_eM e) (qd_eM a)) (qd_eM e)) (qd_bi (Nat.beq (Nat.land (qd_eM a) (qd_eM r)) (qd_eM a)) (cmp (qd_eB a) (qd_eB r)) false) false) (fun a => V (qd_pt n (qd_eC e) (qd_eC a))) l) (V (qd_pt n (qd_eC e) (qd_eC r))) = true) := by
  unfold qk_h1 at h
  rw [qd_fr_eq, qd_fr_eq, qd_mf_eq, qd_mf_eq, qd_filter_all, qd_la_iff] at h
  have h1 := h (Nat.add (Nat.mod r 16777216) (Nat.mul 16777216 (V (qd_lq (qd_lp n (qd_eC e)) (qd_eC r))))) (List.mem_map.mpr ⟨r, List.mem_filter.mpr ⟨hr, by rw [Nat.beq_eq]; exact hf⟩, rfl⟩)
  have eP : ∀ c, qd_pt n (qd_eC e) c = qd_lq (qd_lp n (qd_eC e)) c := fun c => funext (fun b => (qd_lq_pt _ _ b n).symm)
  have eV : ∀ a, Nat.div (Nat.add (Nat.mod a 16777216) (Nat.mul 16777216 (V (qd_lq (qd_lp n (qd_eC e)) (qd_eC a))))) 16777216 = V (qd_pt n (qd_eC e) (qd_eC a)) := by
    intro a
    rw [(qk_pack _ _).2.2, eP]
  rw [qd_fr_eq, qd_fr_eq, (qk_pack _ _).1, (qk_pack _ _).2.1, (qk_pack _ _).2.2, qd_biAnd, Nat.ble_eq,
    qd_cs_fm _ _ (fun a => Nat.div a 16777216) (fun a => V (qd_pt n (qd_eC e) (qd_eC a))) (fun a => Nat.add (Nat.mod a 16777216) (Nat.mul 16777216 (V (qd_lq (qd_lp n (qd_eC e)) (qd_eC a))))) (fun a _ => eV a)] at h1
  refine ⟨h1.1, ?_, ?_⟩
  · intro hm
    have h2 := h1.2
    rw [qd_bi_t (by rw [Nat.beq_eq]; exact hm), Nat.beq_eq] at h2
    rw [eP]
    exact h2
  · intro hm
    have h2 := h1.2
    rw [qd_bi_f (by rw [Nat.beq_eq]; exact hm)] at h2
    rw [eP (qd_eC r)]
    refine Eq.trans (congrArg (fun z => fin z (V (qd_lq (qd_lp n (qd_eC e)) (qd_eC r)))) (qd_cs_cg (fun a _ => ⟨?_, fun _ => rfl⟩))) h2
    refine congrArg (fun z => qd_bi (Nat.beq (Nat.land (qd_eM e) (qd_eM a)) (qd_eM e)) z false) ?_
    show qd_bi _ _ false = qd_bi (Nat.beq (Nat.land (qd_eM (Nat.add (Nat.mod a 16777216) (Nat.mul 16777216 (V (qd_lq (qd_lp n (qd_eC e)) (qd_eC a)))))) (Nat.sub 2097151 (qd_eM r))) 0) (cmp (qd_eB (Nat.add (Nat.mod a 16777216) (Nat.mul 16777216 (V (qd_lq (qd_lp n (qd_eC e)) (qd_eC a)))))) (qd_eB r)) false
    rw [(qk_pack _ _).1, (qk_pack _ _).2.1]
    refine congrArg (fun z => qd_bi z (cmp (qd_eB a) (qd_eB r)) false) ?_
    rw [Bool.eq_iff_iff, Nat.beq_eq, Nat.beq_eq]
    exact (qd_nr (qd_eM_lt a) (qd_eM_lt r)).symm
