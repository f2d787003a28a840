/-! the class: the next plan in the row of acts -/
theorem nI_m1 (j : Nat) : nI j + (-1) = nI j - 1 := by
  cases j with
  | zero => decide
  | succ j => rw [pk_m1, nI_pred]
theorem f_played {σ : gS} {F : Fr} (h : WF F) (hc : CR σ F) {m pl s : Nat} (hm : m < jn F) (hpl : pl < 2) (hs : s < jk F) : f_Fo_isPlayedFrom σ (nI m) (nI pl) (nI s) = some (bi (ins F m s && decide (jow F s = pl))) := by
  have hl := h.1.1
  have hk := h.1.2
  have ho := (h.2.1 s hs).1
  unfold f_Fo_isPlayedFrom b_Fo_isPlayedFrom_0
  rw [ck_t (okI_lt (k := 13) (n := s) (L := 10) rfl rfl (by omega) (by decide)), nI_c (n := s) (by omega), hc.1.2.2.2.2.2.2.2.2.2.1 s hs]
  by_cases z : jow F s = pl
  · rw [if_pos (by rw [z]), ck_t (okI_lt (k := 12) (n := m) (L := 40) rfl rfl (by omega) (by decide)), nI_c (by omega), f_hasBit _ (by omega), Option.bind_some, ti_tb _ (by omega), hc.2.2.2.1 m hm s (by omega)]
    by_cases z2 : ins F m s = true
    · rw [if_neg (bi_ne z2), z2]
      simp [z]
      rfl
    · rw [if_pos (bi_eq z2)]
      have : ins F m s = false := by simpa using z2
      rw [this]
      rfl
  · rw [if_neg (fun e => z ((nI_eq (by omega) (by omega)).mp e))]
    simp [z]
    rfl
theorem fo_step {σ : gS} {F : Fr} (h : WF F) (hc : CR σ F) {m pl p : Nat} (hm : m < jn F) (hpl : pl < 2) (hr : ∀ s, s < jk F → jow F s = pl → gI σ 21 s = nI (dg (rdF F m pl) (jk F) p s)) :
    ∃ τ, f_Fo_stepPlan σ (nI m) (nI pl) 21 = some τ ∧ (∀ s, s < jk F → jow F s = pl → gI τ 21 s = nI (dg (rdF F m pl) (jk F) (p + 1) s)) ∧ (∀ s, s < jk F → jow F s ≠ pl → gI τ 21 s = gI σ 21 s) ∧ sm (fun c => c ≠ 21) σ τ := by
  have hl := h.1.1
  have hk := h.1.2
  have hrd := rdF_pos h m pl
  have main : ∀ (d t N : Nat) (ρ : gS), t + d = jk F → d < N → qd (rdF F m pl) (jk F) (p + 1) t = qd (rdF F m pl) (jk F) p t + 1 → (∀ s, s < jk F → jow F s = pl → gI ρ 21 s = nI (if jk F - t ≤ s then dg (rdF F m pl) (jk F) (p + 1) s else dg (rdF F m pl) (jk F) p s)) → (∀ s, s < jk F → jow F s ≠ pl → gI ρ 21 s = gI σ 21 s) → sm (fun c => c ≠ 21) σ ρ → ∃ τ, lpF (fun k x => b_Fo_stepPlan_8 k x.1 x.2.1 x.2.2.1 x.2.2.2.1 x.2.2.2.2) N (nI m, nI pl, 21, nI (jk F - t) - 1, ρ) = some τ ∧ (∀ s, s < jk F → jow F s = pl → gI τ 21 s = nI (dg (rdF F m pl) (jk F) (p + 1) s)) ∧ (∀ s, s < jk F → jow F s ≠ pl → gI τ 21 s = gI σ 21 s) ∧ sm (fun c => c ≠ 21) σ τ := by
    intro d
    induction d with
    | zero =>
      intro t N ρ ht hN h1 h2 h3 h4
      obtain ⟨N, rfl⟩ : ∃ N', N = N' + 1 := ⟨N - 1, by omega⟩
      refine ⟨ρ, ?_, fun s hs ho => ?_, h3, h4⟩
      · rw [lpF_s]
        show b_Fo_stepPlan_8 _ (nI m) (nI pl) 21 (nI (jk F - t) - 1) ρ = _
        unfold b_Fo_stepPlan_8
        rw [show jk F - t = 0 by omega, if_pos (show nI 0 - 1 < 0 from by decide)]
      · rw [h2 s hs ho, if_pos (by omega)]
    | succ d ih =>
      intro t N ρ ht hN h1 h2 h3 h4
      obtain ⟨N, rfl⟩ : ∃ N', N = N' + 1 := ⟨N - 1, by omega⟩
      obtain ⟨s, hs⟩ : ∃ s, jk F - t = s + 1 := ⟨jk F - t - 1, by omega⟩
      have hsk : s < jk F := by omega
      have hst : jk F - 1 - t = s := by omega
      have hts : jk F - 1 - s = t := by omega
      have hcρ : CR ρ F := CR_sm (h4.less (fun c hc => by have : c < 15 := hc; omega)) hc
      have go : ∀ ρ', (qd (rdF F m pl) (jk F) (p + 1) (t + 1) = qd (rdF F m pl) (jk F) p (t + 1) + 1) → (jow F s = pl → gI ρ' 21 s = nI (dg (rdF F m pl) (jk F) (p + 1) s)) → (jow F s ≠ pl → gI ρ' 21 s = gI ρ 21 s) → (∀ s', s' ≠ s → gI ρ' 21 s' = gI ρ 21 s') → sm (fun c => c ≠ 21) ρ ρ' → ∃ τ, lpF (fun k x => b_Fo_stepPlan_8 k x.1 x.2.1 x.2.2.1 x.2.2.2.1 x.2.2.2.2) N (nI m, nI pl, 21, nI s - 1, ρ') = some τ ∧ (∀ s, s < jk F → jow F s = pl → gI τ 21 s = nI (dg (rdF F m pl) (jk F) (p + 1) s)) ∧ (∀ s, s < jk F → jow F s ≠ pl → gI τ 21 s = gI σ 21 s) ∧ sm (fun c => c ≠ 21) σ τ := by
        intro ρ' k1 k2 k2' k3 k4
        have := ih (t + 1) N ρ' (by omega) (by omega) k1 (fun s' hs' ho => ?_) (fun s' hs' ho => ?_) (h4.tr k4)
        · rw [show jk F - (t + 1) = s by omega] at this
          exact this
        · by_cases z : s' = s
          · subst z
            rw [k2 ho, if_pos (by omega)]
          · rw [k3 s' z, h2 s' hs' ho]
            by_cases z2 : jk F - t ≤ s'
            · rw [if_pos z2, if_pos (by omega)]
            · rw [if_neg z2, if_neg (by omega)]
        · by_cases z : s' = s
          · subst z
            rw [k2' ho, h3 s' hs' ho]
          · rw [k3 s' z, h3 s' hs' ho]
      have e : lpF (fun k x => b_Fo_stepPlan_8 k x.1 x.2.1 x.2.2.1 x.2.2.2.1 x.2.2.2.2) (N + 1) (nI m, nI pl, 21, nI (jk F - t) - 1, ρ) = b_Fo_stepPlan_8 (lpF (fun k x => b_Fo_stepPlan_8 k x.1 x.2.1 x.2.2.1 x.2.2.2.1 x.2.2.2.2) N) (nI m) (nI pl) 21 (nI s) ρ := by
        rw [lpF_s, hs, nI_pred]
      rw [e]
      unfold b_Fo_stepPlan_8
      rw [if_neg (nI_pos (by omega)), f_played h hcρ hm hpl hsk, Option.bind_some]
      by_cases z : (ins F m s && decide (jow F s = pl)) = true
      · rw [if_neg (bi_ne z)]
        simp only [Bool.and_eq_true, decide_eq_true_eq] at z
        have hra : rdF F m pl s = jac F s := if_pos z
        have hdig : dg (rdF F m pl) (jk F) p s = qd (rdF F m pl) (jk F) p t % rdF F m pl s := by unfold dg; rw [hts]
        have hdig' : dg (rdF F m pl) (jk F) (p + 1) s = (qd (rdF F m pl) (jk F) p t + 1) % rdF F m pl s := by unfold dg; rw [hts, h1]
        have hold : gI ρ 21 s = nI (dg (rdF F m pl) (jk F) p s) := by rw [h2 s hsk z.2, if_neg (by omega)]
        have o21 := okI_lt (k := 21) (n := s) (L := 10) rfl rfl (by omega) (by decide)
        have hlt := dg_lt hrd (jk F) p s
        have ha := (h.2.1 s hsk).2
        rw [ck_t o21, ck_t o21, bnd_e, ck_t o21, ck_t (okI_lt (k := 5) (n := s) (L := 10) rfl rfl (by omega) (by decide)), nI_c (by omega), gI_same, gI_cell _ _ _ _ (by decide), hcρ.1.2.2.2.2.2.2.2.2.2.2 s hsk, hold, nI_1]
        by_cases z2 : jac F s ≤ dg (rdF F m pl) (jk F) p s + 1
        · rw [if_pos (nI_le z2 (by omega)), ck_t o21, bnd_e]
          obtain ⟨c1, c2⟩ := qd_carry hst (hrd s) h1 (by rw [← hdig, hra]; exact z2)
          unfold b_Fo_stepPlan_52
          rw [bnd_e, nI_m1]
          refine go _ c1 (fun _ => ?_) (fun w => absurd z.2 w) (fun s' hs' => ?_) ?_
          · rw [gI_same, hdig', c2]; rfl
          · rw [gI_place _ _ _ hs', gI_place _ _ _ hs']
          · exact (sm_sI _ _ _ (fun w => w rfl)).tr (sm_sI _ _ _ (fun w => w rfl))
        · rw [if_neg (nI_ge (by omega) (by omega))]
          obtain ⟨c1, c2⟩ := qd_end hst h1 (by rw [← hdig, hra]; omega)
          refine ⟨_, rfl, fun s' hs' ho => ?_, fun s' hs' ho => ?_, h4.tr (sm_sI _ _ _ (fun w => w rfl))⟩
          · by_cases z3 : s' = s
            · subst z3
              rw [gI_same, hdig', c2, hdig]
            · rw [gI_place _ _ _ z3, h2 s' hs' ho]
              by_cases z4 : jk F - t ≤ s'
              · rw [if_pos z4]
              · rw [if_neg z4]
                have e9 : dg (rdF F m pl) (jk F) (p + 1) s' = dg (rdF F m pl) (jk F) p s' := by
                  unfold dg
                  have e8 := qd_congr c1 (jk F - 1 - s' - (t + 1))
                  rw [show t + 1 + (jk F - 1 - s' - (t + 1)) = jk F - 1 - s' by omega] at e8
                  rw [e8]
                rw [e9]
          · rw [gI_place _ _ _ (fun w => ho (by rw [w]; exact z.2)), h3 s' hs' ho]
      · rw [if_pos (bi_eq z)]
        have hra : rdF F m pl s = 1 := if_neg (fun w => z (by simp [w.1, w.2]))
        unfold b_Fo_stepPlan_52
        rw [bnd_e, nI_m1]
        refine go ρ ?_ (fun ho => ?_) (fun _ => rfl) (fun _ _ => rfl) (sm_rf _ _)
        · show qd (rdF F m pl) (jk F) (p + 1) t / rdF F m pl (jk F - 1 - t) = qd (rdF F m pl) (jk F) p t / rdF F m pl (jk F - 1 - t) + 1
          rw [hst, hra, Nat.div_one, Nat.div_one, h1]
        · rw [h2 s hsk ho, if_neg (by omega), dg_1 hra, dg_1 hra]
  unfold f_Fo_stepPlan b_Fo_stepPlan_0 l_Fo_stepPlan_8
  rw [bnd_e, hc.1.2.1]
  exact main (jk F) 0 gF σ (by omega) (by show jk F < 5000; omega) rfl (fun s hs ho => by rw [hr s hs ho, if_neg (by omega)]) (fun _ _ _ => rfl) (sm_rf _ _)
