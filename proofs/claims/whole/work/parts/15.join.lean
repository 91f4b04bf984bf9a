/-! 15: join -/
/-- L holds the kernels of c0 and of the pairs S, and lies in each kernel that holds those of c0 and c1 -/
def qj_K (n c0 c1 : Nat) (L : Nat → Int32) (S : Nat → Nat → Prop) : Prop :=
  (∀ a b, a < n → b < n → qd_g c0 a = qd_g c0 b → L a = L b) ∧ (∀ a b, S a b → L a = L b) ∧
  (∀ F : Nat → Int32, (∀ a b, a < n → b < n → qd_g c0 a = qd_g c0 b → F a = F b) → (∀ a b, a < n → b < n → qd_g c1 a = qd_g c1 b → F a = F b) → ∀ a b, a < n → b < n → L a = L b → F a = F b)
section
variable {n c0 c1 : Nat} {L L' : Nat → Int32} {S S' : Nat → Nat → Prop}
theorem qj_0 (hL : ∀ i, i < n → L i = nI (qd_g c0 i)) (hS : ∀ a b, ¬ S a b) : qj_K n c0 c1 L S := by
  refine ⟨fun a b ha hb e => by rw [hL a ha, hL b hb, e], fun a b h => absurd h (hS a b), fun F h0 _ a b ha hb e => h0 a b ha hb ?_⟩
  rw [hL a ha, hL b hb] at e
  exact (qx_eq8 (qd_g8 _ _) (qd_g8 _ _)).mp e
theorem qj_w (h : qj_K n c0 c1 L S) (hS : ∀ a b, S' a b → L a = L b) : qj_K n c0 c1 L S' := ⟨h.1, hS, h.2.2⟩
theorem qj_step {i j : Nat} (h : qj_K n c0 c1 L S) (hS : ∀ a b, S a b → a < n ∧ b < n) (hi : i < n) (hj : j < n) (hc : qd_g c1 i = qd_g c1 j)
    (hL : ∀ p, p < n → L' p = if L p = L j then L i else L p) : qj_K n c0 c1 L' S ∧ L' i = L' j := by
  have mono : ∀ a b, a < n → b < n → L a = L b → L' a = L' b := fun a b ha hb e => by rw [hL a ha, hL b hb, e]
  have hij : L' i = L' j := by
    rw [hL i hi, hL j hj, if_pos rfl]
    by_cases e : L i = L j
    · rw [if_pos e]
    · rw [if_neg e]
  refine ⟨⟨fun a b ha hb e => mono a b ha hb (h.1 a b ha hb e), fun a b hs => mono a b (hS a b hs).1 (hS a b hs).2 (h.2.1 a b hs), fun F h0 h1 a b ha hb e => ?_⟩, hij⟩
  have hF := h.2.2 F h0 h1
  have hFij : F i = F j := h1 i j hi hj hc
  rw [hL a ha, hL b hb] at e
  by_cases ea : L a = L j
  · by_cases eb : L b = L j
    · exact hF a b ha hb (ea.trans eb.symm)
    · rw [if_pos ea, if_neg eb] at e
      rw [hF a j ha hj ea, ← hFij]
      exact hF i b hi hb e
  · by_cases eb : L b = L j
    · rw [if_neg ea, if_pos eb] at e
      rw [hF a i ha hi e, hFij]
      exact hF j b hj hb eb.symm
    · rw [if_neg ea, if_neg eb] at e
      exact hF a b ha hb e
theorem qj_eq {Lo : Nat → Int32} {T : Nat → Nat → Prop} (h : qj_K n c0 c1 L S) (h' : qj_K n c0 c1 Lo T) (hS : ∀ a b, a < b → b < n → qd_g c1 a = qd_g c1 b → S a b) (hT : ∀ a b, a < b → b < n → qd_g c1 a = qd_g c1 b → T a b) :
    ∀ a b, a < n → b < n → (L a = L b ↔ Lo a = Lo b) := by
  have all : ∀ {L : Nat → Int32} {S : Nat → Nat → Prop}, qj_K n c0 c1 L S → (∀ a b, a < b → b < n → qd_g c1 a = qd_g c1 b → S a b) → ∀ a b, a < n → b < n → qd_g c1 a = qd_g c1 b → L a = L b := by
    intro L S h hS a b ha hb e
    rcases Nat.lt_trichotomy a b with hl | he | hg
    · exact h.2.1 a b (hS a b hl hb e)
    · rw [he]
    · exact (h.2.1 b a (hS b a hg ha e.symm)).symm
  intro a b ha hb
  exact ⟨h.2.2 Lo h'.1 (all h' hT) a b ha hb, h'.2.2 L h.1 (all h hS) a b ha hb⟩
end
section
variable {n : Nat} {P : Nat → Nat} {N L E cd pr cn cx fd el ro ot nu tw : Nat → Int32}
theorem qj_X {post : Int32 → SX → Prop} (R : qr_R n P N E cd pr cn cx el)
    (H : ∀ N' s q, qm_H n P E cd pr cn cx el 0 N' s q → qj_K n (qd_t n (P 0)) (qd_t n (P 1)) s (fun a b => a < n ∧ a < b ∧ b < n ∧ qd_g (qd_t n (P 1)) a = qd_g (qd_t n (P 1)) b) → post (nI (qd_b n (qd_t n q))) (nI n, N', s, E)) : wpX_join post (nI n, N, L, E) := by
  have a7 := R.2.1
  have hN := R.2.2.2.1
  unfold wpX_join
  refine qx_give (e := 0) a7 (by omega) (fun L1 hL1 => ?_)
  have hL1' : ∀ i, i < n → L1 i = nI (qd_g (qd_t n (P 0)) i) := fun i hi => by rw [hL1 i hi]; exact hN 0 (by omega) i hi
  refine pk_loop (fun m i (s : Nat → Int32) => wX_join_7 post m (nI i) (nI n) N s E) (fun i s => qj_K n (qd_t n (P 0)) (qd_t n (P 1)) s (fun a b => a < i ∧ a < b ∧ b < n ∧ qd_g (qd_t n (P 1)) a = qd_g (qd_t n (P 1)) b)) n 0 L1 (Nat.zero_le _) (qj_0 hL1' (fun a b h => absurd h.1 (Nat.not_lt_zero a))) ?_ ?_
  · intro m s hs
    exact br_t (qx_le (by omega)) (qm_lab (e := 0) R (by omega) (fun N' q h => H N' s q h hs))
  · intro m i s hi hs ih
    refine br_f (qx_ge hi (by omega)) (nm_r (nI_1 i) ?_)
    refine pk_loop (fun m2 j (s : Nat → Int32) => wX_join_19 post (wX_join_7 post m) (nI i) m2 (nI j) (nI n) N s E) (fun j s => i < j ∧ qj_K n (qd_t n (P 0)) (qd_t n (P 1)) s (fun a b => (a < i ∨ (a = i ∧ b < j)) ∧ a < b ∧ b < n ∧ qd_g (qd_t n (P 1)) a = qd_g (qd_t n (P 1)) b)) n (i + 1) s (by omega) ⟨by omega, qj_w hs (fun a b h => hs.2.1 a b ⟨by omega, h.2⟩)⟩ ?_ ?_
    · intro m2 s2 hs2
      exact br_t (qx_le (by omega)) (nm_r (nI_1 i) (ih _ (qj_w hs2.2 (fun a b h => hs2.2.2.1 a b ⟨by omega, h.2⟩))))
    · intro m2 j s2 hj hs2 jh
      refine br_f (qx_ge hj (by omega)) (qx_tg (e := 1) a7 hN (by omega) hi hj ?_ ?_)
      · intro e
        refine br_f (by decide) (qx_merge a7 hi hj (fun s3 hs3 => ?_))
        have hst := qj_step (i := i) (j := j) hs2.2 (fun a b h => ⟨by omega, by omega⟩) hi hj e hs3
        refine nm_r (nI_1 j) (jh _ ⟨by omega, qj_w hst.1 (fun a b h => ?_)⟩)
        by_cases hab : a = i ∧ b = j
        · rw [hab.1, hab.2]; exact hst.2
        · exact hst.1.2.1 a b ⟨by omega, h.2⟩
      · intro e
        refine br_t rfl (nm_r (nI_1 j) (jh _ ⟨by omega, qj_w hs2.2 (fun a b h => ?_)⟩))
        by_cases hab : a = i ∧ b = j
        · exact absurd (by rw [← hab.1, ← hab.2]; exact h.2.2.2) e
        · exact hs2.2.2.1 a b ⟨by omega, h.2⟩
theorem qj_Y {post : Int32 → SY → Prop} {q : Nat} {N' s : Nat → Int32} (R : qr_R n P N E cd pr cn cx el) (h : qm_H n P E cd pr cn cx el 0 N' s q)
    (hs : qj_K n (qd_t n (P 0)) (qd_t n (P 1)) s (fun a b => a < n ∧ a < b ∧ b < n ∧ qd_g (qd_t n (P 1)) a = qd_g (qd_t n (P 1)) b))
    (H : ∀ el' ro' ot', qr_R n (qr_P P 0 q) N' E cd pr cn cx el' → post (nI (qd_b n (qd_t n q))) (nI n, nI (qd_N n), cd, pr, cn, cx, fd, el', ro', ot', nu, tw)) : wpY_join post (nI n, nI (qd_N n), cd, pr, cn, cx, fd, el, ro, ot, nu, tw) := by
  have a7 := R.2.1
  unfold wpY_join
  refine qr_take (e := 1) R (by omega) (R.2.2.2.2.2.2 1 (by omega)) (fun r1 hr1 => ?_)
  refine pk_loop (fun m i (s : Nat → Int32) => wY_join_12 post (nI n) (nI (qd_N n)) m (nI i) cd pr cn cx fd el r1 s nu tw) (fun i s => ∀ j, j < i → s j = r1 j) n 0 ot (Nat.zero_le _) (fun j hj => absurd hj (Nat.not_lt_zero j)) ?_ ?_
  · intro m2 o1 ho1
    refine br_t (qx_le (by omega)) ?_
    refine qr_take (e := 0) R (by omega) (R.2.2.2.2.2.2 0 (by omega)) (fun r2 hr2 => ?_)
    have ho : ∀ p, p < n → o1 p = nI (qd_g (qd_t n (P 1)) p) := fun p hp => by rw [ho1 p hp, hr1 p hp]
    refine pk_loop (fun m i (s : Nat → Int32) => wY_join_50 post m (nI i) (nI n) (nI (qd_N n)) cd pr cn cx fd el s o1 nu tw) (fun i s => qj_K n (qd_t n (P 0)) (qd_t n (P 1)) s (fun a b => a < i ∧ a < n ∧ b < n ∧ qd_g (qd_t n (P 1)) a = qd_g (qd_t n (P 1)) b)) n 0 r2 (Nat.zero_le _) (qj_0 hr2 (fun a b h => absurd h.1 (Nat.not_lt_zero a))) ?_ ?_
    · intro m3 s3 hs3
      refine br_t (qx_le (by omega)) ?_
      refine qm_kp (e := 0) R (by omega) h (fun a b ha hb => ?_) (fun el' h4 => H el' s3 o1 h4)
      exact qj_eq hs hs3 (fun a b h1 h2 h3 => ⟨by omega, h1, h2, h3⟩) (fun a b h1 h2 h3 => ⟨by omega, by omega, h2, h3⟩) a b (by omega) hb
    · intro m3 i s3 hi hs3 ih
      refine br_f (qx_ge hi (by omega)) ?_
      refine pk_loop (fun m j (s : Nat → Int32) => wY_join_60 post (wY_join_50 post m3) (nI i) m (nI j) (nI n) (nI (qd_N n)) cd pr cn cx fd el s o1 nu tw) (fun j s => qj_K n (qd_t n (P 0)) (qd_t n (P 1)) s (fun a b => (a < i ∨ (a = i ∧ b < j)) ∧ a < n ∧ b < n ∧ qd_g (qd_t n (P 1)) a = qd_g (qd_t n (P 1)) b)) n 0 s3 (Nat.zero_le _) (qj_w hs3 (fun a b h => hs3.2.1 a b ⟨by omega, h.2⟩)) ?_ ?_
      · intro m4 s4 hs4
        exact br_t (qx_le (by omega)) (nm_r (nI_1 i) (ih _ (qj_w hs4 (fun a b h => hs4.2.1 a b ⟨by omega, h.2⟩))))
      · intro m4 j s4 hj hs4 jh
        refine br_f (qx_ge hj (by omega)) ⟨qx_i7 (by omega), qx_i7 (by omega), qx_bc ((qx_c o1 (by omega)).trans (ho i hi)) ((qx_c o1 (by omega)).trans (ho j hj)) ?_ ?_⟩
        · intro e
          have e' := (qx_eq8 (qd_g8 _ _) (qd_g8 _ _)).mp e
          refine ⟨qx_i7 (by omega), qx_i7 (by omega), ?_⟩
          refine qy_unite a7 (fun s5 hs5 => ?_)
          rw [qx_c s4 (by omega), qx_c s4 (by omega)] at hs5
          have hst := qj_step (i := j) (j := i) hs4 (fun a b h => ⟨h.2.1, h.2.2.1⟩) hj hi e'.symm hs5
          refine nm_r (nI_1 j) (jh _ (qj_w hst.1 (fun a b h => ?_)))
          by_cases hab : a = i ∧ b = j
          · rw [hab.1, hab.2]; exact hst.2.symm
          · exact hst.1.2.1 a b ⟨by omega, h.2⟩
        · intro e
          refine nm_r (nI_1 j) (jh _ (qj_w hs4 (fun a b h => ?_)))
          by_cases hab : a = i ∧ b = j
          · exact absurd (by rw [← hab.1, ← hab.2, h.2.2.2]) e
          · exact hs4.2.1 a b ⟨by omega, h.2⟩
  · intro m2 i s2 hi hs2 ih
    refine br_f (qx_ge hi (by omega)) ⟨qx_i7 (by omega), qx_i7 (by omega), ?_⟩
    refine nm_r (show upd s2 (nI i).toNatClampNeg (r1 (nI i).toNatClampNeg) = upd s2 i (r1 i) by rw [nI_clamp (by omega)]) (nm_r (nI_1 i) (ih _ (fun j hj => ?_)))
    by_cases ej : j = i
    · rw [ej, pk_us]
    · rw [pk_un ej]; exact hs2 j (by omega)
end
theorem i_vc_join {k : Nat} {u : SX} {v : SY} (I : i_Rel k u v) (hk : k + 4 ≤ 2049) : wpX_join (fun r u' => wpY_join (fun r' v' => r' = r ∧ i_Rel (k + 4) u' v') v) u := by
  obtain ⟨n, P, N, L, E, cd, pr, cn, cx, fd, el, ro, ot, nu, tw, rfl, rfl, R⟩ := I
  exact qj_X R (fun N' s q h hs => qj_Y R h hs (fun el' ro' ot' h' => ⟨rfl, qr_mk h'⟩))
