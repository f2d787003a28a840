/-! the class: a plan of the tree in a game within -/
theorem fo_planFrom {σ : gS} {F : Fr} (h : WF F) (hc : CR σ F) (z : jn F ≠ 0) {m pl p : Nat} (hm : m < jn F) (hsub : ∀ s, ins F m s = true → ins F (jn F - 1) s = true) (hpl : pl < 2) (hp : p < 100000) : f_Fo_planFrom σ (nI m) (nI pl) (nI p) = some (nI (inn (rdF F (jn F - 1) pl) (rdF F m pl) (jk F) p (jk F))) := by
  have hk := h.1.2
  have hl := h.1.1
  have hq := fun t => qd_le (rdF F (jn F - 1) pl) (jk F) p t
  have hroot : f_Fo_root σ = some (nI (jn F - 1)) := by
    unfold f_Fo_root b_Fo_root_0
    rw [hc.1.1, rt_1 z]
  unfold f_Fo_planFrom b_Fo_planFrom_0 l_Fo_planFrom_17
  rw [bnd_e, hc.1.2.1]
  refine lpF_go (fun t => (nI m, nI pl, nI (qd (rdF F (jn F - 1) pl) (jk F) p t), nI (inn (rdF F (jn F - 1) pl) (rdF F m pl) (jk F) p t), nI (wt (rdF F m pl) (jk F) t), nI (jk F - t) - 1)) (jk F) (fun t ht k => ?_) (fun k => ?_) (by omega)
  · show b_Fo_planFrom_17 σ k (nI m) (nI pl) (nI (qd (rdF F (jn F - 1) pl) (jk F) p t)) (nI (inn (rdF F (jn F - 1) pl) (rdF F m pl) (jk F) p t)) (nI (wt (rdF F m pl) (jk F) t)) (nI (jk F - t) - 1) = k (nI m, nI pl, nI (qd (rdF F (jn F - 1) pl) (jk F) p t / rdF F (jn F - 1) pl (jk F - 1 - t)), nI (inn (rdF F (jn F - 1) pl) (rdF F m pl) (jk F) p t + qd (rdF F (jn F - 1) pl) (jk F) p t % rdF F m pl (jk F - 1 - t) * wt (rdF F m pl) (jk F) t), nI (wt (rdF F m pl) (jk F) t * rdF F m pl (jk F - 1 - t)), nI (jk F - (t + 1)) - 1)
    obtain ⟨i, hi⟩ : ∃ i, jk F - t = i + 1 := ⟨jk F - t - 1, by omega⟩
    have hik : i < jk F := by omega
    have e1 : jk F - 1 - t = i := by omega
    have haci := (h.2.1 i hik).2
    have hqt := hq t
    rw [e1, show jk F - (t + 1) = i by omega, hi, nI_pred]
    generalize qd (rdF F (jn F - 1) pl) (jk F) p t = x at hqt ⊢
    generalize inn (rdF F (jn F - 1) pl) (rdF F m pl) (jk F) p t = u
    generalize wt (rdF F m pl) (jk F) t = v
    have o5 := okI_lt (k := 5) (n := i) (L := 10) rfl rfl (by omega) (by decide)
    unfold b_Fo_planFrom_17
    rw [if_neg (nI_pos (by omega)), hroot, Option.bind_some, f_played h hc (by omega) hpl hik, Option.bind_some]
    by_cases y : (ins F (jn F - 1) i && decide (jow F i = pl)) = true
    · have y' : ins F (jn F - 1) i = true ∧ jow F i = pl := by simpa using y
      have e9 : rdF F (jn F - 1) pl i = jac F i := if_pos y'
      rw [if_neg (bi_ne y), ck_t o5, nI_c (n := i) (by omega), hc.1.2.2.2.2.2.2.2.2.2.2 i hik, if_neg (nI_nle (by omega) (by omega)), ck_t (okI_lt (k := 12) (n := m) (L := 40) rfl rfl (by omega) (by decide)), nI_c (n := m) (by omega), f_hasBit _ (by omega), Option.bind_some, ti_tb _ (by omega), hc.2.2.2.1 m hm i (by omega), e9]
      have e91 : ∀ a b, b_Fo_planFrom_91 σ k (nI m) (nI pl) (nI x) a b (nI i) = k (nI m, nI pl, nI (x / jac F i), a, b, nI i - 1) := fun a b => by
        unfold b_Fo_planFrom_91 b_Fo_planFrom_103
        rw [ck_t o5, nI_c (n := i) (by omega), hc.1.2.2.2.2.2.2.2.2.2.2 i hik, ck_t (nz_nI (by omega) (by omega)), bnd_e, bnd_e, pk_div (by omega) (by omega) (by omega), nI_m1]
      by_cases w : ins F m i = true
      · have e8 : rdF F m pl i = jac F i := if_pos ⟨w, y'.2⟩
        rw [if_neg (bi_ne w), ck_t o5, ck_t (nz_nI (by omega) (by omega)), bnd_e, ck_t o5, bnd_e, e91, e8, pk_rem (by omega) (by omega) (by omega), pk_mul, nI_add, pk_mul]
      · have e8 : rdF F m pl i = 1 := if_neg (fun q => w q.1)
        rw [if_pos (bi_eq w), e91, e8, Nat.mod_one, Nat.zero_mul, Nat.add_zero, Nat.mul_one]
    · have y' : ¬ (ins F (jn F - 1) i = true ∧ jow F i = pl) := fun q => y (by simpa using q)
      have e9 : rdF F (jn F - 1) pl i = 1 := if_neg y'
      have e8 : rdF F m pl i = 1 := if_neg (fun q => y' ⟨hsub i q.1, q.2⟩)
      rw [if_pos (bi_eq y), e9, e8, Nat.div_one, Nat.mod_one, Nat.zero_mul, Nat.add_zero, Nat.mul_one]
      unfold b_Fo_planFrom_103
      rw [bnd_e, nI_m1]
  · show b_Fo_planFrom_17 σ k (nI m) (nI pl) _ (nI (inn (rdF F (jn F - 1) pl) (rdF F m pl) (jk F) p (jk F))) _ (nI (jk F - jk F) - 1) = _
    unfold b_Fo_planFrom_17
    rw [Nat.sub_self, if_pos (show nI 0 - 1 < 0 from by decide)]
