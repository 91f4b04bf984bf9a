/-! 20: sign and fullChains -/
theorem qw_mod (a : Nat) : nI (a % 4294967296) = nI a := by
  apply Int32.toBitVec_inj.1
  show BitVec.ofNat 32 (a % 4294967296) = BitVec.ofNat 32 a
  apply BitVec.eq_of_toNat_eq
  rw [BitVec.toNat_ofNat, BitVec.toNat_ofNat]
  exact Nat.mod_mod _ _
theorem qw_neg (z s : Nat) : nI z * -nI s = nI (Nat.mul z (Nat.mul 4294967295 s)) := by
  have e : (-1 : Int32) = nI 4294967295 := by decide
  show _ = nI (z * (4294967295 * s))
  rw [← pk_mul, ← pk_mul, ← e]
  grind
theorem qd_siK (K z m : Nat) : qd_it (fun s r => Nat.mul r (Nat.mul K (Nat.succ s))) z (m + 1) = Nat.mul (qd_it (fun s r => Nat.mul r (Nat.mul K (Nat.succ s))) z m) (Nat.mul K (Nat.succ m)) := rfl
theorem qd_siS (z m : Nat) : qd_si z (m + 1) = Nat.mul (qd_si z m) (Nat.mul 4294967295 (Nat.succ m)) := by
  unfold qd_si
  exact qd_siK 4294967295 z m
theorem qd_sgS (f : Nat → Nat) (b : Nat) : qd_sg f (b + 1) = qd_si (qd_sg f b) (Nat.sub (f b) 1) := rfl
theorem qw_add0 {a b : Int32} (h : a + b = 0) : b = -a := by
  grind
/-- before, and the sum's sign -/
noncomputable def qw_c (ch : Bool) (a b : Nat) : Bool := qd_bi ch (Nat.beq a (Nat.succ b)) (Nat.blt b a)
def qw_s (ch : Bool) (x : Int32) : Int32 := if ch = true then x else -x
section
variable {n : Nat} {P : Nat → Nat} {N L E cd pr cn cx fd el ro ot nu tw : Nat → Int32}
theorem qw_sX {post : Int32 → Prop} (R : qr_R n P N E cd pr cn cx el) (H1 : qd_F n (P 0) (P 1) → post (nI (qd_sg (qd_pt n (qd_t n (P 0)) (qd_t n (P 1))) n))) (H0 : ¬ qd_F n (P 0) (P 1) → post 0) : wpX_sign post (nI n, N, L, E) := by
  have a7 := R.2.1
  have hF : qx_F n (fun e => qd_t n (P e)) ↔ qd_F n (P 0) (P 1) := (qf_F a7).symm
  unfold wpX_sign
  refine qx_fin a7 R.2.2.2.1 (fun h => br_f (by decide) ?_) (fun h => br_t rfl (H0 (fun hf => h (hF.mpr hf))))
  have hpt := qd_pt_le n (qd_t n (P 0)) (qd_t n (P 1))
  have hpts := fun b (hb : b < 8) post H => qx_pts (post := post) (L := L) (E := E) (b := b) a7 R.2.2.2.1 hb H
  generalize qd_pt n (qd_t n (P 0)) (qd_t n (P 1)) = f at *
  refine qx_L (fun m b => wX_sign_13 post (nI n) N L E m (nI (qd_sg f b)) (nI b)) (fun _ => True) n 0 (Nat.zero_le _) trivial ?_ ?_
  · intro m _
    exact br_t (qx_le (by omega)) (H1 (hF.mp h))
  · intro m b hb _ ih
    have hp := hpt b
    refine br_f (qx_ge hb (by omega)) (hpts b (by omega) _ ?_)
    refine qx_L (fun m2 s => wX_sign_30 post (wX_sign_13 post (nI n) N L E m) (nI b) (nI (f b)) (nI n) N L E m2 (nI (qd_si (qd_sg f b) s)) (nI (s + 1))) (fun _ => True) (f b - 1) 0 (Nat.zero_le _) trivial ?_ ?_
    · intro m2 _
      have ih' := ih trivial
      rw [qd_sgS] at ih'
      exact br_t (nI_le (by omega) (by omega)) (nm_r (nI_1 b) ih')
    · intro m2 s hs _ jh
      have jh' := jh trivial
      rw [qd_siS] at jh'
      exact br_f (nI_ge (by omega) (by omega)) (nm_r (qw_neg _ (Nat.succ s)) (nm_r (nI_1 (s + 1)) jh'))
theorem qw_fX {post : Int32 → Prop} (R : qr_R n P N E cd pr cn cx el) (H1 : qd_F n (P 0) (P 1) → qd_cb (qd_pt n (qd_t n (P 0)) (qd_t n (P 1))) n = true ∧ post (nI (qd_ch (qd_pt n (qd_t n (P 0)) (qd_t n (P 1))) n))) (H0 : ¬ qd_F n (P 0) (P 1) → post 0) : wpX_fullChains post (nI n, N, L, E) := by
  have a7 := R.2.1
  have hF : qx_F n (fun e => qd_t n (P e)) ↔ qd_F n (P 0) (P 1) := (qf_F a7).symm
  unfold wpX_fullChains
  refine qx_fin a7 R.2.2.2.1 (fun h => br_f (by decide) ?_) (fun h => br_t rfl (H0 (fun hf => h (hF.mpr hf))))
  have hpt := qd_pt_le n (qd_t n (P 0)) (qd_t n (P 1))
  have hpts := fun b (hb : b < 8) post H => qx_pts (post := post) (L := L) (E := E) (b := b) a7 R.2.2.2.1 hb H
  have H2 := H1 (hF.mp h)
  generalize qd_pt n (qd_t n (P 0)) (qd_t n (P 1)) = f at *
  have hcb := H2.1
  unfold qd_cb at hcb
  rw [qd_al_iff] at hcb
  refine qx_L (fun m b => wX_fullChains_15 post (nI n) N L E m (nI (qd_ch f b)) (nI (qd_st f b)) (nI b)) (fun _ => True) n 0 (Nat.zero_le _) trivial ?_ ?_
  · intro m _
    exact br_t (qx_le (by omega)) H2.2
  · intro m b hb _ ih
    have hp := hpt b
    have hc := hcb b hb
    rw [qd_al_iff] at hc
    refine br_f (qx_ge hb (by omega)) (hpts b (by omega) _ ?_)
    refine qx_L (fun m2 s => wX_fullChains_33 post (wX_fullChains_15 post (nI n) N L E m) (nI b) (nI (f b)) (nI n) N L E m2 (nI (qd_hi (qd_st f b) (qd_ch f b) s)) (nI (qd_st f b + s)) (nI (s + 1))) (fun _ => True) (f b - 1) 0 (Nat.zero_le _) trivial ?_ ?_
    · intro m2 _
      exact br_t (nI_le (by omega) (by omega)) (nm_r (nI_1 b) (ih trivial))
    · intro m2 s hs _ jh
      have hl := hc s hs
      rw [Nat.blt_eq] at hl
      have hl' : qd_hi (qd_st f b) (qd_ch f b) s * (qd_st f b + s + 1) < 2 ^ 31 := hl
      have e1 : (nI (s + 1) + 1) * nI (s + 1) / 2 = nI ((s + 1 + 1) * (s + 1) / 2) := by
        have hs6 : s ≤ 6 := by omega
        have : (s + 1 + 1) * (s + 1) ≤ 8 * 7 := Nat.mul_le_mul (by omega) (by omega)
        rw [nI_1, pk_mul, show (2 : Int32) = nI 2 from rfl, pk_div (by omega) (by omega) (by omega)]
      refine br_f (nI_ge (by omega) (by omega)) (nm_r (nI_1 _) ⟨nI_ne0 (by omega) (by omega), nm_r (e' := nI (qd_hi (qd_st f b) (qd_ch f b) s * (qd_st f b + s + 1) / (s + 1))) ?_ ⟨by decide, nm_r ?_ (nm_r (nI_1 (s + 1)) (jh trivial))⟩⟩)
      · rw [pk_mul, pk_div hl' (by omega) (by omega)]
      · rw [e1, pk_mul]
        rfl
/-- the reference's work: g the value, by places -/
theorem qw_135 {post : Int32 → SY → Prop} {J33 J47 : Int32 → (Nat → Int32) → (Nat → Int32) → (Nat → Int32) → (Nat → Int32) → (Nat → Int32) → (Nat → Int32) → (Nat → Int32) → (Nat → Int32) → (Nat → Int32) → (Nat → Int32) → Prop} {J83 : Int32 → Int32 → Prop} {x1 x3 x4 : Int32} {p r s z g : Nat} {b : Bool}
    (R : qr_R n P N E cd pr cn cx el) (hp : p < qd_N n) (hr : r < qd_N n) (hs : s < qd_N n) (hg : b = true → qd_F n p s → qd_F n s r → fd s = nI g)
    (H : J83 (nI (z + qd_bi (qd_bi (qd_Fb n p s) (qd_bi (qd_Fb n s r) b false) false) g 0)) (nI (s + 1))) :
    wY_work_135 post J33 J47 J83 x1 (nI p) x3 x4 (nI r) (nI z) (nI s) (qx_b b) (nI n) (nI (qd_N n)) cd pr cn cx fd el ro ot nu tw := by
  have hM := qf_N1 R.1 R.2.1
  cases b with
  | false =>
    have e : qd_bi (qd_bi (qd_Fb n p s) (qd_bi (qd_Fb n s r) false false) false) g 0 = 0 := qd_bi_f (fun h => by
      have := (qd_biAnd.mp (qd_biAnd.mp h).2).2
      exact absurd this (by decide))
    rw [e, Nat.add_zero] at H
    exact br_t rfl (nm_r (nI_1 s) H)
  | true =>
    refine br_f (by decide) (qu_fin R hp hs (fun h1 => br_f (by decide) (qu_fin R hs hr (fun h2 => br_f (by decide) ⟨qy_i877 (by omega), ?_⟩) (fun h2 => ?_))) (fun h1 => ?_))
    · rw [qd_bi_t (qd_biAnd.mpr ⟨qd_Fb_iff.mpr h1, qd_biAnd.mpr ⟨qd_Fb_iff.mpr h2, rfl⟩⟩)] at H
      refine nm_r ?_ (nm_r (nI_1 s) H)
      rw [qx_c fd (by omega), hg rfl h1 h2, nI_add]
    · rw [qd_bi_f (fun h => h2 (qd_Fb_iff.mp (qd_biAnd.mp (qd_biAnd.mp h).2).1)), Nat.add_zero] at H
      exact br_t rfl (nm_r (nI_1 s) H)
    · rw [qd_bi_f (fun h => h1 (qd_Fb_iff.mp (qd_biAnd.mp h).1)), Nat.add_zero] at H
      exact br_t rfl (nm_r (nI_1 s) H)
theorem qw_83 {post : Int32 → SY → Prop} {J33 J47 : Int32 → (Nat → Int32) → (Nat → Int32) → (Nat → Int32) → (Nat → Int32) → (Nat → Int32) → (Nat → Int32) → (Nat → Int32) → (Nat → Int32) → (Nat → Int32) → (Nat → Int32) → Prop} {ch : Bool} {x3 : Int32} {p r : Nat} {g : Nat → Nat}
    (R : qr_R n P N E cd pr cn cx el) (hp : p < qd_N n) (hr : r < qd_N n)
    (hg : ∀ s, s < qd_N n → qw_c ch (qd_b n (qd_t n s)) (qd_b n (qd_t n r)) = true → qd_F n p s → qd_F n s r → fd s = nI (g s))
    (H : wY_work_190 post J33 J47 (qx_b ch) (nI p) x3 (nI (qd_b n (qd_t n r))) (nI r) (qw_s ch (nI (qd_sm (fun s => qd_bi (qd_bi (qd_Fb n p s) (qd_bi (qd_Fb n s r) (qw_c ch (qd_b n (qd_t n s)) (qd_b n (qd_t n r))) false) false) (g s) 0) (qd_N n)))) (nI n) (nI (qd_N n)) cd pr cn cx fd el ro ot nu tw) :
    ∃ m, wY_work_83 post J33 J47 (qx_b ch) (nI p) x3 (nI (qd_b n (qd_t n r))) (nI r) (nI n) (nI (qd_N n)) cd pr cn cx fd el ro ot nu tw m 0 (nI 0) := by
  have hM := qf_N1 R.1 R.2.1
  have hbr := qu_b8 R r
  refine qx_L (fun m s => wY_work_83 post J33 J47 (qx_b ch) (nI p) x3 (nI (qd_b n (qd_t n r))) (nI r) (nI n) (nI (qd_N n)) cd pr cn cx fd el ro ot nu tw m (nI (qd_sm (fun s => qd_bi (qd_bi (qd_Fb n p s) (qd_bi (qd_Fb n s r) (qw_c ch (qd_b n (qd_t n s)) (qd_b n (qd_t n r))) false) false) (g s) 0) s)) (nI s)) (fun _ => True) (qd_N n) 0 (Nat.zero_le _) trivial ?_ ?_
  · intro m _
    refine br_t (nI_le (Nat.le_refl _) (by omega)) ?_
    cases ch with
    | false => exact br_t rfl (nm_e H)
    | true => exact br_f (by decide) H
  · intro m s hs _ ih
    have hbs := qu_b8 R s
    have ih' := ih trivial
    rw [qd_smS] at ih'
    have go := qw_135 (post := post) (J33 := J33) (J47 := J47) (x1 := qx_b ch) (x3 := x3) (x4 := nI (qd_b n (qd_t n r))) (fd := fd) (ro := ro) (ot := ot) (nu := nu) (tw := tw) R hp hr hs (hg s hs) ih'
    refine br_f (nI_ge hs (by omega)) ?_
    cases ch with
    | false =>
      refine br_t rfl ⟨qy_i877 (by omega), ?_⟩
      rw [qu_cn R hs]
      by_cases hc : qd_b n (qd_t n r) < qd_b n (qd_t n s)
      · rw [show qw_c false (qd_b n (qd_t n s)) (qd_b n (qd_t n r)) = true from (Nat.blt_eq).mpr hc] at go
        exact br_f (nI_ge hc (by omega)) go
      · rw [show qw_c false (qd_b n (qd_t n s)) (qd_b n (qd_t n r)) = false from Bool.eq_false_iff.mpr (fun h => hc ((Nat.blt_eq).mp h))] at go
        exact br_t (nI_le (by omega) (by omega)) go
    | true =>
      refine br_f (by decide) ⟨qy_i877 (by omega), ?_⟩
      rw [qu_cn R hs, nI_1]
      by_cases hc : qd_b n (qd_t n s) = qd_b n (qd_t n r) + 1
      · rw [show qw_c true (qd_b n (qd_t n s)) (qd_b n (qd_t n r)) = true from (Nat.beq_eq).mpr hc] at go
        exact br_t (by rw [hc]) go
      · rw [show qw_c true (qd_b n (qd_t n s)) (qd_b n (qd_t n r)) = false from Bool.eq_false_iff.mpr (fun h => hc ((Nat.beq_eq).mp h))] at go
        exact br_f (fun h => hc ((nI_eq (by omega) (by omega)).mp h)) go
theorem qw_cb {ch : Bool} {a b : Nat} (h : qw_c ch a b = true) : b < a := by
  cases ch with
  | false => exact (Nat.blt_eq).mp h
  | true =>
    have : a = b + 1 := (Nat.beq_eq).mp h
    omega
/-- what is filled at level lv before place r -/
def qw_K (n : Nat) (P : Nat → Nat) (g : Nat → Nat) (lv r : Nat) (fd : Nat → Int32) : Prop :=
  ∀ s, s < qd_N n → qd_F n (P 0) s → qd_F n s (P 1) → (lv < qd_b n (qd_t n s) ∨ (qd_b n (qd_t n s) = lv ∧ s < r)) → fd s = nI (g s)
theorem qw_47 {post : Int32 → SY → Prop} {J33 : Int32 → (Nat → Int32) → (Nat → Int32) → (Nat → Int32) → (Nat → Int32) → (Nat → Int32) → (Nat → Int32) → (Nat → Int32) → (Nat → Int32) → (Nat → Int32) → (Nat → Int32) → Prop} {ch : Bool} {g : Nat → Nat} {lv : Nat}
    (R : qr_R n P N E cd pr cn cx el) (hlv : lv < 8)
    (hrec : ∀ r, r < qd_N n → qd_F n (P 0) r → qd_F n r (P 1) → (r = P 0 → g r = 1) ∧ (¬ r = P 0 → nI (g r) = qw_s ch (nI (qd_sm (fun s => qd_bi (qd_bi (qd_Fb n (P 0) s) (qd_bi (qd_Fb n s r) (qw_c ch (qd_b n (qd_t n s)) (qd_b n (qd_t n r))) false) false) (g s) 0) (qd_N n)))))
    (hK : qw_K n P g lv 0 fd) (H : ∀ fd', qw_K n P g lv (qd_N n) fd' → J33 (nI lv + (-1)) cd pr cn cx fd' el ro ot nu tw) :
    ∃ m, wY_work_47 post J33 (qx_b ch) (nI (P 0)) (nI (P 1)) (nI lv) (nI n) (nI (qd_N n)) m (nI 0) cd pr cn cx fd el ro ot nu tw := by
  have a7 := R.2.1
  have hM := qf_N1 R.1 a7
  have p0 := R.2.2.1 0 (by omega)
  refine pk_loop (fun m r (s : Nat → Int32) => wY_work_47 post J33 (qx_b ch) (nI (P 0)) (nI (P 1)) (nI lv) (nI n) (nI (qd_N n)) m (nI r) cd pr cn cx s el ro ot nu tw) (fun r s => qw_K n P g lv r s) (qd_N n) 0 fd (Nat.zero_le _) hK ?_ ?_
  · intro m s hs
    exact br_t (nI_le (Nat.le_refl _) (by omega)) (nm_e (H s hs))
  · intro m r s hr hs ih
    have hbr := qu_b8 R r
    have skip : ¬ (qd_b n (qd_t n r) = lv ∧ qd_F n (P 0) r ∧ qd_F n r (P 1)) → wY_work_47 post J33 (qx_b ch) (nI (P 0)) (nI (P 1)) (nI lv) (nI n) (nI (qd_N n)) m (nI (r + 1)) cd pr cn cx s el ro ot nu tw := by
      intro hn
      refine ih s (fun t ht h1 h2 h3 => ?_)
      refine hs t ht h1 h2 ?_
      rcases h3 with h3 | ⟨h3, h4⟩
      · exact Or.inl h3
      · refine Or.inr ⟨h3, ?_⟩
        have : t ≠ r := fun e => hn (e ▸ ⟨h3, h1, h2⟩)
        omega
    refine br_f (nI_ge hr (by omega)) ⟨qy_i877 (by omega), qx_bc (qu_cn R hr) rfl (fun e1 => ?_) (fun e1 => nm_r (nI_1 r) (skip (fun h => e1 (by rw [h.1]))))⟩
    have elv : qd_b n (qd_t n r) = lv := (nI_eq (by omega) (by omega)).mp e1
    refine qi_bet R hr (fun h1 h2 => br_f (by decide) ?_) (fun h => br_t rfl (nm_r (nI_1 r) (skip (fun hh => h hh.2))))
    subst elv
    refine qw_83 (g := g) R p0 hr (fun t ht hc h3 h4 => hs t ht h3 (qd_F_trans a7 h4 h2) (Or.inl (qw_cb hc))) ?_
    have hr1 := hrec r hr h1 h2
    have done : wY_work_47 post J33 (qx_b ch) (nI (P 0)) (nI (P 1)) (nI (qd_b n (qd_t n r))) (nI n) (nI (qd_N n)) m (nI (r + 1)) cd pr cn cx (upd s r (nI (g r))) el ro ot nu tw := by
      refine ih _ (fun t ht h3 h4 h5 => ?_)
      by_cases et : t = r
      · rw [et, pk_us]
      · rw [pk_un et]
        refine hs t ht h3 h4 ?_
        rcases h5 with h5 | ⟨h5, h6⟩
        · exact Or.inl h5
        · exact Or.inr ⟨h5, by omega⟩
    by_cases ep : r = P 0
    · rw [hr1.1 ep] at done
      refine br_t (by rw [ep]) ⟨qy_i877 (by omega), nm_r (congrArg (fun j => upd s j 1) (nI_clamp (by omega))) (nm_r (nI_1 r) done)⟩
    · rw [hr1.2 ep] at done
      refine br_f (fun h => ep ((nI_eq (by omega) (by omega)).mp h)) ⟨qy_i877 (by omega), nm_r (congrArg (fun j => upd s j _) (nI_clamp (by omega))) (nm_r (nI_1 r) done)⟩
theorem qw_Y {post : Int32 → SY → Prop} {ch : Bool} {g : Nat → Nat} (R : qr_R n P N E cd pr cn cx el) (hF : qd_F n (P 0) (P 1))
    (hb : ∀ r, r < qd_N n → qd_F n (P 0) r → qd_b n (qd_t n r) ≤ qd_b n (qd_t n (P 0)))
    (hrec : ∀ r, r < qd_N n → qd_F n (P 0) r → qd_F n r (P 1) → (r = P 0 → g r = 1) ∧ (¬ r = P 0 → nI (g r) = qw_s ch (nI (qd_sm (fun s => qd_bi (qd_bi (qd_Fb n (P 0) s) (qd_bi (qd_Fb n s r) (qw_c ch (qd_b n (qd_t n s)) (qd_b n (qd_t n r))) false) false) (g s) 0) (qd_N n)))))
    (H : ∀ fd', post (nI (g (P 1))) (nI n, nI (qd_N n), cd, pr, cn, cx, fd', el, ro, ot, nu, tw)) : wpY_work post (nI n, nI (qd_N n), cd, pr, cn, cx, fd, el, ro, ot, nu, tw) (qx_b ch) := by
  have a1 := R.1
  have a7 := R.2.1
  have hM := qf_N1 a1 a7
  have p0 := R.2.2.1 0 (by omega)
  have p1 := R.2.2.1 1 (by omega)
  have b0 := qu_b8 R (P 0)
  have b1 := qu_b8 R (P 1)
  have b2 := qf_md a1 a7 p1
  have b3 := hb _ p1 hF
  unfold wpY_work
  refine nm_r (R.2.2.2.2.2.2 0 (by omega)) (nm_r (R.2.2.2.2.2.2 1 (by omega)) (qu_fin R p0 p1 (fun _ => br_f (by decide) ⟨qy_i877 (by omega), nm_r (qu_cn R p0) ?_⟩) (fun h => absurd hF h)))
  have hD : ∀ (i : Nat) (s : Nat → Int32), (qd_b n (qd_t n (P 1)) - 1 + i < 8 ∧ qw_K n P g (qd_b n (qd_t n (P 1)) - 1 + i) 0 s) → wY_work_33 post (qx_b ch) (nI (P 0)) (nI (P 1)) (nI n) (nI (qd_N n)) (i + 1) (nI (qd_b n (qd_t n (P 1)) - 1 + i)) cd pr cn cx s el ro ot nu tw := by
    refine pk_loopD (fun m i (s : Nat → Int32) => wY_work_33 post (qx_b ch) (nI (P 0)) (nI (P 1)) (nI n) (nI (qd_N n)) m (nI (qd_b n (qd_t n (P 1)) - 1 + i)) cd pr cn cx s el ro ot nu tw) (fun i s => qd_b n (qd_t n (P 1)) - 1 + i < 8 ∧ qw_K n P g (qd_b n (qd_t n (P 1)) - 1 + i) 0 s) ?_ ?_
    · rintro m s ⟨_, hs⟩
      refine ⟨qy_i877 (by omega), ?_⟩
      rw [qu_cn R p1]
      refine br_t (nI_lt (by omega) (by omega)) ⟨qy_i877 (by omega), ?_⟩
      rw [qx_c s (by omega), hs (P 1) p1 hF (qd_F_refl n (P 1)) (Or.inl (by omega))]
      exact H s
    · rintro m i s ⟨hl, hs⟩ ih
      refine ⟨qy_i877 (by omega), ?_⟩
      rw [qu_cn R p1]
      refine br_f (nI_nlt (by omega) (by omega)) (qw_47 R hl hrec hs (fun fd' h' => ?_))
      rw [show qd_b n (qd_t n (P 1)) - 1 + (i + 1) = (qd_b n (qd_t n (P 1)) - 1 + i) + 1 by omega, pk_m1]
      refine ih fd' ⟨by omega, fun t ht h1 h2 h3 => h' t ht h1 h2 ?_⟩
      rcases h3 with h3 | h3
      · by_cases et : qd_b n (qd_t n t) = qd_b n (qd_t n (P 1)) - 1 + (i + 1)
        · exact Or.inr ⟨et, ht⟩
        · exact Or.inl (by omega)
      · omega
  have e : qd_b n (qd_t n (P 1)) - 1 + (qd_b n (qd_t n (P 0)) - (qd_b n (qd_t n (P 1)) - 1)) = qd_b n (qd_t n (P 0)) := by omega
  have hD1 := hD (qd_b n (qd_t n (P 0)) - (qd_b n (qd_t n (P 1)) - 1)) fd ⟨by omega, fun t ht h1 h2 h3 => by
    have := hb t ht h1
    rcases h3 with h3 | h3 <;> omega⟩
  rw [e] at hD1
  exact ⟨_, hD1⟩
theorem qw_Y0 {post : Int32 → SY → Prop} {x : Int32} (R : qr_R n P N E cd pr cn cx el) (hF : ¬ qd_F n (P 0) (P 1)) (H : post 0 (nI n, nI (qd_N n), cd, pr, cn, cx, fd, el, ro, ot, nu, tw)) : wpY_work post (nI n, nI (qd_N n), cd, pr, cn, cx, fd, el, ro, ot, nu, tw) x := by
  have p0 := R.2.2.1 0 (by omega)
  have p1 := R.2.2.1 1 (by omega)
  unfold wpY_work
  exact nm_r (R.2.2.2.2.2.2 0 (by omega)) (nm_r (R.2.2.2.2.2.2 1 (by omega)) (qu_fin R p0 p1 (fun h => absurd h hF) (fun _ => br_t rfl H)))
end
theorem i_vc_sign {k : Nat} {u : SX} {v : SY} (I : i_Rel k u v) (hk : k + 4 ≤ 2049) : wpX_sign (fun r => wpY_sign (fun r' v' => r' = r ∧ i_Rel (k + 4) u v') v) u := by
  obtain ⟨n, P, N, L, E, cd, pr, cn, cx, fd, el, ro, ot, nu, tw, rfl, rfl, R⟩ := I
  have a1 := R.1
  have a7 := R.2.1
  have p0 := R.2.2.1 0 (by omega)
  have hh := fun q hq hf => qf_h (q := q) (k := P 0) a1 a7 (fun k hk => qf_ck (f := qk_s1) qk_s6 qk_s7 a1 a7 hk) p0 hq hf
  refine qw_sX R (fun hF => ?_) (fun hF => ?_)
  · show wpY_sign _ _
    unfold wpY_sign
    refine qw_Y (ch := false) (g := fun r => qk_sV n (qd_pt n (qd_t n (P 0)) (qd_t n r))) R hF (fun r hr h => (hh r hr h).1) (fun r hr h1 h2 => ⟨(hh r hr h1).2.1, fun hn => ?_⟩) (fun fd' => ⟨?_, qr_mk R⟩)
    · have h3 := (hh r hr h1).2.2 hn
      rw [Nat.beq_eq] at h3
      refine qw_add0 ?_
      rw [nI_add, ← qw_mod]
      exact congrArg nI h3
    · exact qw_mod _
  · show wpY_sign _ _
    unfold wpY_sign
    exact qw_Y0 R hF ⟨rfl, qr_mk R⟩
theorem i_vc_fullChains {k : Nat} {u : SX} {v : SY} (I : i_Rel k u v) (hk : k + 4 ≤ 2049) : wpX_fullChains (fun r => wpY_fullChains (fun r' v' => r' = r ∧ i_Rel (k + 4) u v') v) u := by
  obtain ⟨n, P, N, L, E, cd, pr, cn, cx, fd, el, ro, ot, nu, tw, rfl, rfl, R⟩ := I
  have a1 := R.1
  have a7 := R.2.1
  have p0 := R.2.2.1 0 (by omega)
  have p1 := R.2.2.1 1 (by omega)
  have hh := fun q hq hf => qf_h (q := q) (k := P 0) a1 a7 (fun k hk => qf_ck (f := qk_f1) qk_f6 qk_f7 a1 a7 hk) p0 hq hf
  refine qw_fX R (fun hF => ?_) (fun hF => ?_)
  · have hpos : ¬ qk_fV n (qd_pt n (qd_t n (P 0)) (qd_t n (P 1))) = 0 := by
      by_cases e : P 1 = P 0
      · rw [(hh _ p1 hF).2.1 e]; decide
      · have h3 := (hh _ p1 hF).2.2 e
        rw [qd_biAnd, Nat.blt_eq] at h3
        have := h3.2
        omega
    have hcb : qd_cb (qd_pt n (qd_t n (P 0)) (qd_t n (P 1))) n = true := by
      cases hc : qd_cb (qd_pt n (qd_t n (P 0)) (qd_t n (P 1))) n with
      | true => rfl
      | false =>
        exfalso
        refine hpos ?_
        unfold qk_fV
        rw [hc]; rfl
    have hV : qk_fV n (qd_pt n (qd_t n (P 0)) (qd_t n (P 1))) = qd_ch (qd_pt n (qd_t n (P 0)) (qd_t n (P 1))) n := by
      unfold qk_fV
      rw [hcb]; rfl
    refine ⟨hcb, ?_⟩
    show wpY_fullChains _ _
    unfold wpY_fullChains
    refine qw_Y (ch := true) (g := fun r => qk_fV n (qd_pt n (qd_t n (P 0)) (qd_t n r))) R hF (fun r hr h => (hh r hr h).1) (fun r hr h1 h2 => ⟨(hh r hr h1).2.1, fun hn => ?_⟩) (fun fd' => ⟨?_, qr_mk R⟩)
    · have h3 := (hh r hr h1).2.2 hn
      rw [qd_biAnd, Nat.beq_eq] at h3
      exact congrArg nI h3.1.symm
    · exact congrArg nI hV
  · show wpY_fullChains _ _
    unfold wpY_fullChains
    exact qw_Y0 R hF ⟨rfl, qr_mk R⟩
