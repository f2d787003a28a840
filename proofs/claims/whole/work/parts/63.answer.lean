/-! answer and act -/
theorem i01_nI {pl : Nat} (h : pl < 2) : i01 (nI pl) = true := by
  rcases (show pl = 0 ∨ pl = 1 by omega) with rfl | rfl <;> decide
noncomputable def ansA (F : Fr) (x1 x2 : Int32) : Int32 := cif (jn F = 0) (-1000000) (cif (i01 x1 = true ∧ isP F (1 - x1.toNatClampNeg) x2 = true) (nI (amx (fun a => va (tF F (jn F - 1)) x1.toNatClampNeg a x2.toNatClampNeg) (pls F (jn F - 1) x1.toNatClampNeg))) (-2))
theorem ga_answer {σ : gS} {F : Fr} (h : WF F) (hc : CR σ F) (h22 : S0 σ) (ht : TC σ F) (x1 x2 : Int32) : ∃ τ, f_Ga_answer σ x1 x2 = some (ansA F x1 x2, τ) ∧ TK σ F τ := by
  unfold f_Ga_answer b_Ga_answer_0 ansA
  rw [f_isEmpty h hc, Option.bind_some]
  by_cases z : jn F = 0
  · rw [if_neg (bi_ne (by simpa using z)), cif_t z]
    exact ⟨σ, rfl, TK_rf h22 ht⟩
  · rw [if_pos (bi_eq (by simpa using z)), cif_f z, f_isPlayer, Option.bind_some]
    by_cases q1 : i01 x1 = true
    · obtain ⟨pl, epl, hpl, epl2⟩ := i01_nat q1
      rw [if_neg (bi_ne q1), f_otherThan, Option.bind_some, epl2, epl, ot_pl hpl, f_isPlan h hc z, Option.bind_some, i01_nI (by omega), Bool.true_and, nI_c (by omega)]
      by_cases q2 : isP F (1 - pl) x2 = true
      · rw [if_neg (bi_ne q2), cif_t ⟨i01_nI hpl, q2⟩]
        obtain ⟨τ, e1, e2, -, -, e5⟩ := ta_whole h hc z h22 ht
        obtain ⟨q, hq, eq, eq2⟩ := isP_ok h z (by omega) q2
        rw [e1, Option.bind_some, eq2, eq, c_best e2 (nb_F h (by omega)) hpl hq, Option.bind_some]
        exact ⟨τ, rfl, e5⟩
      · rw [if_pos (bi_eq q2), cif_f (fun y => q2 y.2)]
        exact ⟨σ, rfl, TK_rf h22 ht⟩
    · rw [if_pos (bi_eq q1), cif_f (fun y => q1 y.1)]
      exact ⟨σ, rfl, TK_rf h22 ht⟩
theorem mo_answer {σ : gS} {F : Fr} (h : WF F) (hm : MR σ F) (x1 x2 : Int32) : ∃ τ, f_Mo_answer σ x1 x2 = some (ansA F x1 x2, τ) ∧ MR τ F ∧ sm (fun c => c < 46) σ τ := by
  unfold f_Mo_answer b_Mo_answer_0 ansA
  rw [hm.1]
  by_cases z : jn F = 0
  · rw [if_pos ((n_0 h).mpr z), cif_t z]
    exact ⟨σ, rfl, hm, sm_rf _ _⟩
  · rw [if_neg (fun e => z ((n_0 h).mp e)), cif_f z, f_isFrom, Option.bind_some, i01_am]
    by_cases q1 : i01 x1 = true
    · obtain ⟨pl, epl, hpl, epl2⟩ := i01_nat q1
      obtain ⟨τ, e1, e2, e3, e4⟩ := mo_whole h hm z
      have hmτ := kpM_MR e4 hm
      rw [if_neg (bi_ne q1), f_moRoot hm z, Option.bind_some, e1, Option.bind_some, epl2, epl, ot_pl hpl, m_many e2 (by omega), Option.bind_some, f_isFrom, Option.bind_some]
      by_cases q2 : isP F (1 - pl) x2 = true
      · rw [if_neg (bi_ne (show am x2 0 (nI (pls F (jn F - 1) (1 - pl)) - 1) = true from q2)), cif_t ⟨i01_nI hpl, q2⟩]
        obtain ⟨q, hq, eq, eq2⟩ := isP_ok h z (by omega) q2
        rw [eq2, eq, m_best e2 (nb_F h (by omega)) hpl hq, Option.bind_some]
        exact ⟨τ, rfl, hmτ, kpM_46 e4⟩
      · rw [if_pos (bi_eq (show ¬ am x2 0 (nI (pls F (jn F - 1) (1 - pl)) - 1) = true from q2)), cif_f (fun y => q2 y.2)]
        exact ⟨τ, rfl, hmτ, kpM_46 e4⟩
    · rw [if_pos (bi_eq q1), cif_f (fun y => q1 y.1)]
      exact ⟨σ, rfl, hm, sm_rf _ _⟩
theorem fo_actNamed {σ : gS} {F : Fr} (h : WF F) (hc : CR σ F) (z : jn F ≠ 0) {pl p s : Nat} (hpl : pl < 2) (hp : p < 100000) (hs : s < jk F) : f_Fo_actNamed σ (nI pl) (nI p) (nI s) = some (if ins F (jn F - 1) s = true ∧ jow F s = pl then nI (qd (rdF F (jn F - 1) pl) (jk F) p (jk F - 1 - s) % jac F s) else -1) := by
  have hk := h.1.2
  have hl := h.1.1
  have hq := fun t => qd_le (rdF F (jn F - 1) pl) (jk F) p t
  have hroot : f_Fo_root σ = some (nI (jn F - 1)) := by
    unfold f_Fo_root b_Fo_root_0
    rw [hc.1.1, rt_1 z]
  -- a step over a set that is not the one, or that is not played
  have step : ∀ t, t < jk F → (jk F - 1 - t ≠ s ∨ ¬ (ins F (jn F - 1) s = true ∧ jow F s = pl)) → ∀ k, b_Fo_actNamed_11 σ k (nI pl) (nI s) (nI (qd (rdF F (jn F - 1) pl) (jk F) p t)) (nI (jk F - t) - 1) = k (nI pl, nI s, nI (qd (rdF F (jn F - 1) pl) (jk F) p (t + 1)), nI (jk F - (t + 1)) - 1) := by
    intro t ht hne k
    obtain ⟨i, hi⟩ : ∃ i, jk F - t = i + 1 := ⟨jk F - t - 1, by omega⟩
    have hik : i < jk F := by omega
    have e1 : jk F - 1 - t = i := by omega
    have haci := (h.2.1 i hik).2
    have hqt := hq t
    have enext : qd (rdF F (jn F - 1) pl) (jk F) p (t + 1) = qd (rdF F (jn F - 1) pl) (jk F) p t / rdF F (jn F - 1) pl (jk F - 1 - t) := rfl
    rw [enext, e1, show jk F - (t + 1) = i by omega, hi, nI_pred]
    unfold b_Fo_actNamed_11
    rw [if_neg (nI_pos (by omega)), hroot, Option.bind_some, f_played h hc (by omega) hpl hik, Option.bind_some]
    by_cases y : (ins F (jn F - 1) i && decide (jow F i = pl)) = true
    · have y' : ins F (jn F - 1) i = true ∧ jow F i = pl := by simpa using y
      have e9 : rdF F (jn F - 1) pl i = jac F i := if_pos y'
      have his : i ≠ s := by
        rcases hne with w | w
        · omega
        · intro e
          rw [e] at y'
          exact w y'
      have o5 := okI_lt (k := 5) (n := i) (L := 10) rfl rfl (by omega) (by decide)
      rw [if_neg (bi_ne y), ck_t o5, nI_c (n := i) (by omega), hc.1.2.2.2.2.2.2.2.2.2.2 i hik, if_neg (nI_nle (by omega) (by omega)), if_neg (fun e => his ((nI_eq (by omega) (by omega)).mp e)), ck_t o5, ck_t (nz_nI (by omega) (by omega)), bnd_e, pk_div (by omega) (by omega) (by omega), e9]
      unfold b_Fo_actNamed_69
      rw [bnd_e, nI_m1]
    · have e9 : rdF F (jn F - 1) pl i = 1 := if_neg (fun w => y (by simpa using w))
      rw [if_pos (bi_eq y), e9, Nat.div_one]
      unfold b_Fo_actNamed_69
      rw [bnd_e, nI_m1]
  unfold f_Fo_actNamed b_Fo_actNamed_0 l_Fo_actNamed_11
  rw [bnd_e, hc.1.2.1]
  by_cases y : ins F (jn F - 1) s = true ∧ jow F s = pl
  · rw [if_pos y]
    have hacs := (h.2.1 s hs).2
    refine lpF_go (fun t => (nI pl, nI s, nI (qd (rdF F (jn F - 1) pl) (jk F) p t), nI (jk F - t) - 1)) (jk F - 1 - s) (fun t ht k => step t (by omega) (Or.inl (by omega)) k) (fun k => ?_) (by omega)
    show b_Fo_actNamed_11 σ k (nI pl) (nI s) (nI (qd (rdF F (jn F - 1) pl) (jk F) p (jk F - 1 - s))) (nI (jk F - (jk F - 1 - s)) - 1) = _
    have hqt := hq (jk F - 1 - s)
    have o5 := okI_lt (k := 5) (n := s) (L := 10) rfl rfl (by omega) (by decide)
    rw [show jk F - (jk F - 1 - s) = s + 1 by omega, nI_pred]
    unfold b_Fo_actNamed_11
    rw [if_neg (nI_pos (by omega)), hroot, Option.bind_some, f_played h hc (by omega) hpl hs, Option.bind_some, if_neg (bi_ne (show (ins F (jn F - 1) s && decide (jow F s = pl)) = true by simpa using y)), ck_t o5, nI_c (n := s) (by omega), hc.1.2.2.2.2.2.2.2.2.2.2 s hs, if_neg (nI_nle (by omega) (by omega)), if_pos rfl, ck_t o5, ck_t (nz_nI (by omega) (by omega)), pk_rem (by omega) (by omega) (by omega)]
  · rw [if_neg y]
    refine lpF_go (fun t => (nI pl, nI s, nI (qd (rdF F (jn F - 1) pl) (jk F) p t), nI (jk F - t) - 1)) (jk F) (fun t ht k => step t ht (Or.inr y) k) (fun k => ?_) (by omega)
    show b_Fo_actNamed_11 σ k (nI pl) (nI s) (nI (qd (rdF F (jn F - 1) pl) (jk F) p (jk F))) (nI (jk F - jk F) - 1) = _
    unfold b_Fo_actNamed_11
    rw [Nat.sub_self, if_pos (show nI 0 - 1 < 0 from by decide)]
noncomputable def actA (F : Fr) (x1 x2 x3 : Int32) : Int32 := cif (jn F = 0) (-1000000) (cif (i01 x1 = true ∧ isP F x1.toNatClampNeg x2 = true ∧ am x3 0 (nI (jk F) - 1) = true) (if ins F (jn F - 1) x3.toNatClampNeg = true ∧ jow F x3.toNatClampNeg = x1.toNatClampNeg then nI (qd (rdF F (jn F - 1) x1.toNatClampNeg) (jk F) x2.toNatClampNeg (jk F - 1 - x3.toNatClampNeg) % jac F x3.toNatClampNeg) else -1) (-2))
theorem ga_act {σ : gS} {F : Fr} (h : WF F) (hc : CR σ F) (x1 x2 x3 : Int32) : f_Ga_act σ x1 x2 x3 = some (actA F x1 x2 x3) := by
  have hk := h.1.2
  unfold f_Ga_act b_Ga_act_0 actA
  rw [f_isEmpty h hc, Option.bind_some]
  by_cases z : jn F = 0
  · rw [if_neg (bi_ne (by simpa using z)), cif_t z]
  · rw [if_pos (bi_eq (by simpa using z)), cif_f z, f_isPlan h hc z, Option.bind_some, f_hasSet hc.1.2.1 (by omega), Option.bind_some]
    by_cases q : (i01 x1 && isP F x1.toNatClampNeg x2) = true
    · rw [if_neg (bi_ne q)]
      rw [Bool.and_eq_true] at q
      by_cases q3 : am x3 0 (nI (jk F) - 1) = true
      · rw [if_neg (bi_ne q3), cif_t ⟨q.1, q.2, q3⟩]
        obtain ⟨pl, epl, hpl, epl2⟩ := i01_nat q.1
        have q2 := q.2
        rw [epl2] at q2
        have hb := h.2.2.2.2.2.2.2 (jn F - 1) (by omega) pl hpl
        obtain ⟨p, hp, ep, ep2⟩ := isP_ok h z hpl q2
        obtain ⟨s, hs, es⟩ := (am_nI (by omega)).mp q3
        have es2 : x3.toNatClampNeg = s := by rw [es, nI_c (by omega)]
        rw [epl2, ep2, es2, epl, ep, es, fo_actNamed h hc z hpl (by omega) hs, Option.bind_some]
      · rw [if_pos (bi_eq q3), cif_f (fun y => q3 y.2.2)]
    · rw [if_pos (bi_eq q), cif_f (fun y => q (by rw [Bool.and_eq_true]; exact ⟨y.1, y.2.1⟩))]
theorem mo_act {σ : gS} {F : Fr} (h : WF F) (hm : MR σ F) (x1 x2 x3 : Int32) : ∃ τ, f_Mo_act σ x1 x2 x3 = some (actA F x1 x2 x3, τ) ∧ MR τ F ∧ sm (fun c => c < 46) σ τ := by
  have hk := h.1.2
  unfold f_Mo_act b_Mo_act_0 actA
  rw [hm.1]
  by_cases z : jn F = 0
  · rw [if_pos ((n_0 h).mpr z), cif_t z]
    exact ⟨σ, rfl, hm, sm_rf _ _⟩
  · rw [if_neg (fun e => z ((n_0 h).mp e)), cif_f z, f_isFrom, Option.bind_some, i01_am, f_isFrom, Option.bind_some, hm.2.1]
    by_cases q1 : i01 x1 = true
    · rw [if_neg (bi_ne q1)]
      by_cases q3 : am x3 0 (nI (jk F) - 1) = true
      · obtain ⟨pl, epl, hpl, epl2⟩ := i01_nat q1
        obtain ⟨σ1, f1, f2, f3, f4⟩ := mo_tree h hm
        have k1 : kpM σ σ1 := kpM_sm f4 (fun c hc => by omega)
        have hm1 := kpM_MR k1 hm
        have ht1 : TR σ1 F := ⟨f2, f3⟩
        have hb := h.2.2.2.2.2.2.2 (jn F - 1) (by omega) pl hpl
        rw [if_neg (bi_ne q3), f1, Option.bind_some, epl2, epl, mo_plans h hm1 ht1 hpl, Option.bind_some, f_isFrom, Option.bind_some]
        by_cases q2 : isP F pl x2 = true
        · rw [if_neg (bi_ne (show am x2 0 (nI (pls F (jn F - 1) pl) - 1) = true from q2)), cif_t ⟨i01_nI hpl, q2, q3⟩]
          obtain ⟨p, hp, ep, ep2⟩ := isP_ok h z hpl q2
          obtain ⟨s, hs, es⟩ := (am_nI (by omega)).mp q3
          have es2 : x3.toNatClampNeg = s := by rw [es, nI_c (by omega)]
          have ho := (h.2.1 s hs).1
          rw [es2, ep2, es, ep, ck_t (okI_lt (k := 54) (n := s) (L := 10) rfl rfl (by omega) (by decide)), hm1.2.2.2.2.2.2.2.2.2.1 s hs]
          by_cases y : jow F s = pl
          · rw [if_pos (by rw [y]), ck_t (okZ_lt (k := 57) (n := s) (L := 10) rfl rfl (by omega) (by decide)), ht1.2 s (by omega)]
            by_cases y2 : ins F (jn F - 1) s = true
            · rw [if_neg (bi_ne y2), if_pos ⟨y2, y⟩, mo_actOf h hm1 ht1 hpl (by omega) hs, Option.bind_some]
              exact ⟨σ1, rfl, hm1, kpM_46 k1⟩
            · rw [if_pos (bi_eq y2), if_neg (fun w => y2 w.1)]
              exact ⟨σ1, rfl, hm1, kpM_46 k1⟩
          · rw [if_neg (fun e => y ((nI_eq (by omega) (by omega)).mp e)), if_neg (fun w => y w.2)]
            exact ⟨σ1, rfl, hm1, kpM_46 k1⟩
        · rw [if_pos (bi_eq (show ¬ am x2 0 (nI (pls F (jn F - 1) pl) - 1) = true from q2)), cif_f (fun y => q2 y.2.1)]
          exact ⟨σ1, rfl, hm1, kpM_46 k1⟩
      · rw [if_pos (bi_eq q3), cif_f (fun y => q3 y.2.2)]
        exact ⟨σ, rfl, hm, sm_rf _ _⟩
    · rw [if_pos (bi_eq q1), cif_f (fun y => q1 y.1)]
      exact ⟨σ, rfl, hm, sm_rf _ _⟩
