/-! plans that are there; worth and answer -/
theorem CR_n {σ : gS} {F : Fr} (hc : CR σ F) : gI σ 1 0 = nI (jn F) := hc.1.1
theorem n_0 {F : Fr} (h : WF F) : nI (jn F) = 0 ↔ jn F = 0 := by
  have := h.1.1
  exact nI_eq (b := 0) (by omega) (by decide)
theorem f_isEmpty {σ : gS} {F : Fr} (h : WF F) (hc : CR σ F) : f_Ga_isEmpty σ = some (bi (decide (jn F = 0))) := by
  unfold f_Ga_isEmpty b_Ga_isEmpty_0
  rw [hc.1.1]
  by_cases z : jn F = 0
  · rw [if_pos ((n_0 h).mpr z)]
    simp [z]
    rfl
  · rw [if_neg (fun e => z ((n_0 h).mp e))]
    simp [z]
    rfl
theorem rt_1 {F : Fr} (z : jn F ≠ 0) : nI (jn F) - 1 = nI (jn F - 1) := by
  obtain ⟨m, e⟩ : ∃ m, jn F = m + 1 := ⟨jn F - 1, by omega⟩
  rw [e, nI_pred]
  rfl
theorem fo_plansOf {σ : gS} {F : Fr} (h : WF F) (hc : CR σ F) (z : jn F ≠ 0) {pl : Nat} (hpl : pl < 2) : f_Fo_plansOf σ (nI pl) = some (nI (pls F (jn F - 1) pl)) := by
  have hl := h.1.1
  have e := fo_plansFrom h hc (m := jn F - 1) (by omega) hpl
  unfold f_Fo_plansFrom b_Fo_plansFrom_0 at e
  have o := okI_lt (k := 12) (n := jn F - 1) (L := 40) rfl rfl (by omega) (by decide)
  rw [ck_t o] at e
  unfold f_Fo_plansOf b_Fo_plansOf_0 f_Fo_setsInTree b_Fo_setsInTree_0 f_Fo_root b_Fo_root_0
  rw [hc.1.1, if_neg (fun q => z ((n_0 h).mp q)), Option.bind_some, rt_1 z, ck_t o, Option.bind_some]
  exact e
/-- is it a plan of a player in the tree -/
def isP (F : Fr) (pl : Nat) (x : Int32) : Bool := am x 0 (nI (pls F (jn F - 1) pl) - 1)
theorem isP_ok {F : Fr} (h : WF F) (z : jn F ≠ 0) {pl : Nat} (hpl : pl < 2) {x : Int32} (q : isP F pl x = true) : ∃ p, p < pls F (jn F - 1) pl ∧ x = nI p ∧ x.toNatClampNeg = p := by
  have hb := h.2.2.2.2.2.2.2 (jn F - 1) (by omega) pl hpl
  obtain ⟨p, hp, e⟩ := (am_nI (by omega)).mp q
  exact ⟨p, hp, e, by rw [e, nI_c (by omega)]⟩
theorem f_isPlan {σ : gS} {F : Fr} (h : WF F) (hc : CR σ F) (z : jn F ≠ 0) (x1 x2 : Int32) : f_Ga_isPlan σ x1 x2 = some (bi (i01 x1 && isP F x1.toNatClampNeg x2)) := by
  unfold f_Ga_isPlan b_Ga_isPlan_0
  rw [f_isPlayer, Option.bind_some]
  by_cases q : i01 x1 = true
  · obtain ⟨pl, e, hpl, e2⟩ := i01_nat q
    have hb := h.2.2.2.2.2.2.2 (jn F - 1) (by omega) pl hpl
    rw [if_neg (bi_ne q), q, e2, e, fo_plansOf h hc z hpl, Option.bind_some]
    unfold isP
    have hP : ∀ {b : Bool}, b = am x2 0 (nI (pls F (jn F - 1) pl) - 1) → bi (true && am x2 0 (nI (pls F (jn F - 1) pl) - 1)) = bi b := fun q => by rw [← q, Bool.true_and]
    rcases pk_ix x2 (n := pls F (jn F - 1) pl) (by omega) with w | w | ⟨j, hj, w⟩
    · rw [if_pos w]
      have : am x2 0 (nI (pls F (jn F - 1) pl) - 1) = false := by
        cases hq : am x2 0 (nI (pls F (jn F - 1) pl) - 1) with
        | false => rfl
        | true =>
          obtain ⟨j, hj, e9⟩ := (am_nI (by omega)).mp hq
          rw [e9] at w
          exact absurd w (nI_pos (by omega))
      rw [this]
      rfl
    · have this : am x2 0 (nI (pls F (jn F - 1) pl) - 1) = false := by
        cases hq : am x2 0 (nI (pls F (jn F - 1) pl) - 1) with
        | false => rfl
        | true =>
          obtain ⟨j, hj, e9⟩ := (am_nI (by omega)).mp hq
          rw [e9] at w
          exact absurd w (nI_ge hj (by omega))
      rw [this]
      by_cases w0 : x2 < 0
      · rw [if_pos w0]; rfl
      · rw [if_neg w0, if_pos w]; rfl
    · have this : am x2 0 (nI (pls F (jn F - 1) pl) - 1) = true := (am_nI (by omega)).mpr ⟨j, hj, w⟩
      rw [this, w, if_neg (nI_pos (by omega)), if_neg (nI_ge hj (by omega))]
      rfl
  · rw [if_pos (bi_eq q)]
    have : i01 x1 = false := by simpa using q
    rw [this]
    rfl
/-- what a question may change on the class's side, when it fills the table -/
def TK (σ : gS) (F : Fr) (τ : gS) : Prop := S0 τ ∧ TC τ F ∧ (gI τ 16 5 = gI σ 16 5 ∨ gI τ 16 5 = gI σ 1 2) ∧ sm (fun c => c < 16 ∨ 23 ≤ c) σ τ
theorem TK_rf {σ : gS} {F : Fr} (h1 : S0 σ) (h2 : TC σ F) : TK σ F σ := ⟨h1, h2, Or.inl rfl, sm_rf _ _⟩
theorem ta_whole {σ : gS} {F : Fr} (h : WF F) (hc : CR σ F) (z : jn F ≠ 0) (h22 : S0 σ) (ht : TC σ F) : ∃ τ, f_Ta_fillWhole σ = some τ ∧ VC τ (pls F (jn F - 1)) (tF F (jn F - 1)) ∧ gI τ 16 5 = gI σ 1 2 ∧ gI τ 16 6 = nI (jn F - 1) ∧ TK σ F τ := by
  obtain ⟨τ, e1, e2, e3, e4, e5, e6, e7⟩ := ta_fillFrom h hc (m := jn F - 1) (by omega) h22 ht
  refine ⟨τ, ?_, e2, e5, e6, e3, e4, Or.inr e5, e7⟩
  unfold f_Ta_fillWhole b_Ta_fillWhole_0 f_Fo_root b_Fo_root_0
  rw [Option.bind_some, hc.1.1, rt_1 z, e1, Option.bind_some]
theorem mo_whole {σ : gS} {F : Fr} (h : WF F) (hm : MR σ F) (z : jn F ≠ 0) : ∃ τ, f_Mo_workAll σ (nI (jn F - 1)) = some τ ∧ VM τ (pls F (jn F - 1)) (tF F (jn F - 1)) ∧ TR τ F ∧ kpM σ τ := mo_workAll h hm (x := jn F - 1) (by omega) (bl_self F _)
theorem kpM_46 {σ τ : gS} (h : kpM σ τ) : sm (fun c => c < 46) σ τ := h.2.less (fun c hc => Or.inl hc)
theorem f_moRoot {σ : gS} {F : Fr} (hm : MR σ F) (z : jn F ≠ 0) : f_Mo_root σ = some (nI (jn F - 1)) := by
  unfold f_Mo_root b_Mo_root_0
  rw [hm.1, rt_1 z]
/-- worth -/
noncomputable def worA (F : Fr) (a b w : Int32) : Int32 := cif (jn F ≠ 0 ∧ isP F 0 a = true ∧ isP F 1 b = true ∧ i01 w = true) (tF F (jn F - 1) w.toNatClampNeg a.toNatClampNeg b.toNatClampNeg) (-1000000)
theorem ga_worth {σ : gS} {F : Fr} (h : WF F) (hc : CR σ F) (h22 : S0 σ) (ht : TC σ F) (a b w : Int32) : ∃ τ, f_Ga_worth σ a b w = some (worA F a b w, τ) ∧ TK σ F τ := by
  unfold f_Ga_worth b_Ga_worth_0 worA
  rw [f_isEmpty h hc, Option.bind_some]
  by_cases z : jn F = 0
  · rw [if_neg (bi_ne (by simpa using z)), cif_f (fun q => q.1 z)]
    exact ⟨σ, rfl, TK_rf h22 ht⟩
  · rw [if_pos (bi_eq (by simpa using z)), f_isPlan h hc z, Option.bind_some, f_isPlan h hc z, Option.bind_some, f_isPlayer, Option.bind_some]
    by_cases q1 : isP F 0 a = true
    · rw [if_neg (bi_ne (show (i01 0 && isP F (0 : Int32).toNatClampNeg a) = true by show (true && isP F 0 a) = true; rw [q1]; rfl))]
      by_cases q2 : isP F 1 b = true
      · rw [if_neg (bi_ne (show (i01 1 && isP F (1 : Int32).toNatClampNeg b) = true by show (true && isP F 1 b) = true; rw [q2]; rfl))]
        by_cases q3 : i01 w = true
        · rw [if_neg (bi_ne q3), cif_t ⟨z, q1, q2, q3⟩]
          obtain ⟨τ, e1, e2, -, -, e5⟩ := ta_whole h hc z h22 ht
          obtain ⟨p, hp, ep, ep2⟩ := isP_ok h z (by decide) q1
          obtain ⟨q, hq, eq, eq2⟩ := isP_ok h z (by decide) q2
          obtain ⟨pl, epl, hpl, epl2⟩ := i01_nat q3
          have hn := nb_F h (m := jn F - 1) (by omega)
          obtain ⟨⟨-, n0⟩, ⟨-, n1⟩⟩ := hn
          rw [e1, Option.bind_some, ep2, eq2, epl2, ep, eq, epl]
          refine ⟨τ, ?_, e5⟩
          unfold f_Ta_valueOfPair b_Ta_valueOfPair_0
          rw [n64, nI_c (n := pl) (by omega), nI_c (n := 64 * p + q) (by omega)]
          rcases (show pl = 0 ∨ pl = 1 by omega) with rfl | rfl
          · rw [ck_t (show inb (nI 0) 2 = true from rfl), ck_t (okI_lt (k := 19) (n := 64 * p + q) (L := 4096) rfl rfl (by omega) (by decide)), Option.bind_some, (e2.2.2 p q hp hq).1]
          · rw [ck_t (show inb (nI 1) 2 = true from rfl), ck_t (okI_lt (k := 20) (n := 64 * p + q) (L := 4096) rfl rfl (by omega) (by decide)), Option.bind_some, (e2.2.2 p q hp hq).2]
        · rw [if_pos (bi_eq q3), cif_f (fun y => q3 y.2.2.2)]
          exact ⟨σ, rfl, TK_rf h22 ht⟩
      · rw [if_pos (bi_eq (show ¬ (i01 1 && isP F (1 : Int32).toNatClampNeg b) = true from fun y => q2 (by rw [Bool.and_eq_true] at y; exact y.2))), cif_f (fun y => q2 y.2.2.1)]
        exact ⟨σ, rfl, TK_rf h22 ht⟩
    · rw [if_pos (bi_eq (show ¬ (i01 0 && isP F (0 : Int32).toNatClampNeg a) = true from fun y => q1 (by rw [Bool.and_eq_true] at y; exact y.2))), cif_f (fun y => q1 y.2.1)]
      exact ⟨σ, rfl, TK_rf h22 ht⟩
theorem mo_worth {σ : gS} {F : Fr} (h : WF F) (hm : MR σ F) (a b w : Int32) : ∃ τ, f_Mo_worth σ a b w = some (worA F a b w, τ) ∧ MR τ F ∧ sm (fun c => c < 46) σ τ := by
  unfold f_Mo_worth b_Mo_worth_0 worA
  rw [f_isFrom, Option.bind_some, i01_am, hm.1]
  by_cases q3 : i01 w = true
  · rw [if_neg (bi_ne q3)]
    by_cases z : jn F = 0
    · rw [if_pos ((n_0 h).mpr z), cif_f (fun q => q.1 z)]
      exact ⟨σ, rfl, hm, sm_rf _ _⟩
    · rw [if_neg (fun e => z ((n_0 h).mp e)), f_moRoot hm z, Option.bind_some]
      obtain ⟨τ, e1, e2, e3, e4⟩ := mo_whole h hm z
      have hmτ := kpM_MR e4 hm
      rw [e1, Option.bind_some, f_isFrom, Option.bind_some, f_isFrom, Option.bind_some, e2.1, e2.2.1]
      by_cases q1 : isP F 0 a = true
      · rw [if_neg (bi_ne (show am a 0 (nI (pls F (jn F - 1) 0) - 1) = true from q1))]
        by_cases q2 : isP F 1 b = true
        · rw [if_neg (bi_ne (show am b 0 (nI (pls F (jn F - 1) 1) - 1) = true from q2)), cif_t ⟨z, q1, q2, q3⟩]
          obtain ⟨p, hp, ep, ep2⟩ := isP_ok h z (by decide) q1
          obtain ⟨q, hq, eq, eq2⟩ := isP_ok h z (by decide) q2
          obtain ⟨pl, epl, hpl, epl2⟩ := i01_nat q3
          have hn := nb_F h (m := jn F - 1) (by omega)
          refine ⟨τ, ?_, hmτ, kpM_46 e4⟩
          rw [ep2, eq2, epl2, ep, eq, epl]
          rcases (show pl = 0 ∨ pl = 1 by omega) with rfl | rfl
          · rw [if_pos (show nI 0 = 0 from rfl)]
            unfold b_Mo_worth_66 b_Mo_worth_75
            rw [if_pos (show nI 0 = 0 from rfl), m_value e2 hn (by decide) hp hq, Option.bind_some]
            rfl
          · rw [if_neg (show ¬ nI 1 = 0 by decide)]
            unfold b_Mo_worth_66 b_Mo_worth_75
            rw [if_neg (show ¬ nI 1 = 0 by decide), m_value e2 hn (by decide) hq hp, Option.bind_some]
            rfl
        · rw [if_pos (bi_eq (show ¬ am b 0 (nI (pls F (jn F - 1) 1) - 1) = true from q2)), cif_f (fun y => q2 y.2.2.1)]
          exact ⟨τ, rfl, hmτ, kpM_46 e4⟩
      · rw [if_pos (bi_eq (show ¬ am a 0 (nI (pls F (jn F - 1) 0) - 1) = true from q1)), cif_f (fun y => q1 y.2.1)]
        exact ⟨τ, rfl, hmτ, kpM_46 e4⟩
  · rw [if_pos (bi_eq q3), cif_f (fun y => q3 y.2.2.2)]
    exact ⟨σ, rfl, hm, sm_rf _ _⟩
