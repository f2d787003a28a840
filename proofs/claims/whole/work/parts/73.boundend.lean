/-! taken and bound: both sides -/
def ACF (σ : gS) (F : Fr) : Prop := jn F ≠ 0 → AC σ (pls F (jn F - 1)) (tF F (jn F - 1))
/-- what a question may change on the class's side, when it plays rounds -/
def AK (σ : gS) (F : Fr) (τ : gS) : Prop := S0 τ ∧ TC τ F ∧ ACF τ F ∧ (gI τ 16 5 = gI σ 16 5 ∨ gI τ 16 5 = gI σ 1 2) ∧ (gI τ 39 5 = gI σ 39 5 ∨ gI τ 39 5 = gI σ 1 2) ∧ sm (fun c => c < 16 ∨ (23 ≤ c ∧ c < 39) ∨ 46 ≤ c) σ τ
theorem AK_rf {σ : gS} {F : Fr} (h1 : S0 σ) (h2 : TC σ F) (h3 : ACF σ F) : AK σ F σ := ⟨h1, h2, h3, Or.inl rfl, Or.inl rfl, sm_rf _ _⟩
theorem AC_s {σ τ : gS} {n : Nat → Nat} {T : Tb} {P : Nat → Prop} (hs : sm P σ τ) (h1 : P 1) (h39 : P 39) (h41 : P 41) (h42 : P 42) (h44 : P 44) (h45 : P 45) (h : AC σ n T) : AC τ n T := fun z => by
  rw [hs.i h39, hs.i h1] at z
  obtain ⟨r, hr, h4, a1, a2, a3⟩ := h z
  exact ⟨r, hr, by rw [hs.i h39, h4], fun i hi => by rw [hs.i h41, hs.i h42]; exact a1 i hi, fun a ha => by rw [hs.i h44]; exact a2 a ha, fun a ha => by rw [hs.i h45]; exact a3 a ha⟩
theorem TC_s {σ τ : gS} {F : Fr} {P : Nat → Prop} (hs : sm P σ τ) (h1 : P 1) (h16 : P 16) (h17 : P 17) (h19 : P 19) (h20 : P 20) (h : TC σ F) : TC τ F := fun z m hm e => by
  rw [hs.i h16, hs.i h1] at z
  rw [hs.i h16] at e
  exact VC_s hs h17 h19 h20 (TB_VC (h z m hm e))
theorem ga_play {σ : gS} {F : Fr} (h : WF F) (hc : CR σ F) (z : jn F ≠ 0) (h22 : S0 σ) (ht : TC σ F) (ha : ACF σ F) {R : Nat} (hR : R ≤ 200) : ∃ τ1 τ r, f_Ta_fillWhole σ = some τ1 ∧ f_An_playTo τ1 (nI R) = some τ ∧ R ≤ r ∧ r ≤ 200 ∧ AP τ (pls F (jn F - 1)) (tF F (jn F - 1)) r ∧ VC τ (pls F (jn F - 1)) (tF F (jn F - 1)) ∧ AK σ F τ := by
  obtain ⟨τ1, e1, e2, e3, e4, e5, e6, e7, e8⟩ := ta_whole h hc z h22 ht
  have hn := nb_F h (m := jn F - 1) (by omega)
  have ha1 : AC τ1 (pls F (jn F - 1)) (tF F (jn F - 1)) := AC_s e8 (by decide) (by decide) (by decide) (by decide) (by decide) (by decide) (ha z)
  obtain ⟨τ, r, f1, f2, f3, f4, f5, f6, f7⟩ := an_play e2 hn ha1 hR
  have hv : gI τ1 1 2 = gI σ 1 2 := e8.i (by decide) 2
  refine ⟨τ1, τ, r, e1, f1, f2, f3, f5, VC_s f7 (by decide) (by decide) (by decide) e2, fun i hi => by rw [f7.i (by decide), e5 i hi], TC_s f7 (by decide) (by decide) (by decide) (by decide) (by decide) e6, fun _ _ => ⟨r, f3, f4, f5⟩, ?_, Or.inr (by rw [f6, hv]), ?_⟩
  · rw [f7.i (by decide)]; exact e7
  · exact (e8.less (fun c hc => by have : c < 16 ∨ (23 ≤ c ∧ c < 39) ∨ 46 ≤ c := hc; show c < 16 ∨ 23 ≤ c; omega)).tr (f7.less (fun c hc => by have : c < 16 ∨ (23 ≤ c ∧ c < 39) ∨ 46 ≤ c := hc; show c < 39 ∨ 46 ≤ c; omega))
theorem am_200 {x : Int32} (h : am x 1 200 = true) : ∃ R, R ≤ 200 ∧ x = nI R ∧ x.toNatClampNeg = R := by
  obtain ⟨j, e1, e2, e3, e4, e5⟩ := am_nat h (by decide)
  have : (200 : Int32).toInt = 200 := by decide
  exact ⟨j, by omega, e1, e5⟩
noncomputable def takA (F : Fr) (x1 x2 x3 : Int32) : Int32 := cif (jn F = 0) (-1000000) (cif (am x1 1 200 = true ∧ i01 x2 = true ∧ isP F x2.toNatClampNeg x3 = true) (nI (tkn (tF F (jn F - 1)) (pls F (jn F - 1)) x2.toNatClampNeg x3.toNatClampNeg x1.toNatClampNeg)) (-2))
theorem ga_taken {σ : gS} {F : Fr} (h : WF F) (hc : CR σ F) (h22 : S0 σ) (ht : TC σ F) (ha : ACF σ F) (x1 x2 x3 : Int32) : ∃ τ, f_Ga_taken σ x1 x2 x3 = some (takA F x1 x2 x3, τ) ∧ AK σ F τ := by
  unfold f_Ga_taken b_Ga_taken_0 takA
  rw [f_isEmpty h hc, Option.bind_some]
  by_cases z : jn F = 0
  · rw [if_neg (bi_ne (by simpa using z)), cif_t z]
    exact ⟨σ, rfl, AK_rf h22 ht ha⟩
  · rw [if_pos (bi_eq (by simpa using z)), cif_f z, f_isAmong, Option.bind_some, f_isPlan h hc z, Option.bind_some]
    by_cases q1 : am x1 1 200 = true
    · rw [if_neg (bi_ne q1)]
      by_cases q : (i01 x2 && isP F x2.toNatClampNeg x3) = true
      · rw [if_neg (bi_ne q)]
        rw [Bool.and_eq_true] at q
        rw [cif_t ⟨q1, q.1, q.2⟩]
        obtain ⟨R, hR, eR, eR2⟩ := am_200 q1
        obtain ⟨pl, epl, hpl, epl2⟩ := i01_nat q.1
        have q2 := q.2
        rw [epl2] at q2
        obtain ⟨p, hp, ep, ep2⟩ := isP_ok h z hpl q2
        have hn := nb_F h (m := jn F - 1) (by omega)
        have hb := nb_le hn hpl
        obtain ⟨τ1, τ, r, e1, e2, e3, e4, e5, e6, e7⟩ := ga_play h hc z h22 ht ha hR
        rw [eR2, epl2, ep2, eR, epl, ep, e1, Option.bind_some, e2, Option.bind_some, c_times e5 hn e3 e4 hpl (by omega), Option.bind_some]
        exact ⟨τ, rfl, e7⟩
      · rw [if_pos (bi_eq q), cif_f (fun y => q (by rw [Bool.and_eq_true]; exact y.2))]
        exact ⟨σ, rfl, AK_rf h22 ht ha⟩
    · rw [if_pos (bi_eq q1), cif_f (fun y => q1 y.1)]
      exact ⟨σ, rfl, AK_rf h22 ht ha⟩
theorem mo_play {σ : gS} {F : Fr} (h : WF F) (hm : MR σ F) (z : jn F ≠ 0) {R : Nat} (hR : R ≤ 200) : ∃ τ, f_Mo_answerAll σ (nI R) = some τ ∧ VM τ (pls F (jn F - 1)) (tF F (jn F - 1)) ∧ MP τ (pls F (jn F - 1)) (tF F (jn F - 1)) R ∧ MR τ F ∧ sm (fun c => c < 46) σ τ := by
  obtain ⟨τ1, e1, e2, e3, e4⟩ := mo_whole h hm z
  obtain ⟨τ, f1, f2, f3⟩ := m_rounds e2 (nb_F h (m := jn F - 1) (by omega)) hR
  refine ⟨τ, ?_, VM_s f3 (by decide) (by decide) e2, f2, MR_s f3 (fun c h1 h2 => by omega) (kpM_MR e4 hm), (kpM_46 e4).tr (f3.less (fun c hc => by have : c < 46 := hc; omega))⟩
  unfold f_Mo_answerAll b_Mo_answerAll_0
  rw [f_moRoot hm z, Option.bind_some, e1, Option.bind_some, f1]
theorem mo_taken {σ : gS} {F : Fr} (h : WF F) (hm : MR σ F) (x1 x2 x3 : Int32) : ∃ τ, f_Mo_taken σ x1 x2 x3 = some (takA F x1 x2 x3, τ) ∧ MR τ F ∧ sm (fun c => c < 46) σ τ := by
  unfold f_Mo_taken b_Mo_taken_0 takA
  rw [hm.1]
  by_cases z : jn F = 0
  · rw [if_pos ((n_0 h).mpr z), cif_t z]
    exact ⟨σ, rfl, hm, sm_rf _ _⟩
  · rw [if_neg (fun e => z ((n_0 h).mp e)), cif_f z, f_isFrom, Option.bind_some, f_isFrom, Option.bind_some, i01_am]
    by_cases q1 : am x1 1 200 = true
    · rw [if_neg (bi_ne q1)]
      by_cases q2 : i01 x2 = true
      · obtain ⟨R, hR, eR, eR2⟩ := am_200 q1
        obtain ⟨pl, epl, hpl, epl2⟩ := i01_nat q2
        obtain ⟨τ, e1, e2, e3, e4, e5⟩ := mo_play h hm z hR
        rw [if_neg (bi_ne q2), eR2, epl2, epl, eR, e1, Option.bind_some, m_many e2 hpl, Option.bind_some, f_isFrom, Option.bind_some]
        by_cases q3 : isP F pl x3 = true
        · rw [if_neg (bi_ne (show am x3 0 (nI (pls F (jn F - 1) pl) - 1) = true from q3)), cif_t ⟨by rw [← eR]; exact q1, i01_nI hpl, q3⟩]
          obtain ⟨p, hp, ep, ep2⟩ := isP_ok h z hpl q3
          have hb := nb_le (nb_F h (m := jn F - 1) (by omega)) hpl
          rw [ep2, ep, n64, ck_t (okI_lt (k := 65) (n := 64 * pl + p) (L := 128) rfl rfl (by omega) (by decide)), nI_c (by omega), (e3 pl hpl p hp).1]
          exact ⟨τ, rfl, e4, e5⟩
        · rw [if_pos (bi_eq (show ¬ am x3 0 (nI (pls F (jn F - 1) pl) - 1) = true from q3)), cif_f (fun y => q3 y.2.2)]
          exact ⟨τ, rfl, e4, e5⟩
      · rw [if_pos (bi_eq q2), cif_f (fun y => q2 y.2.1)]
        exact ⟨σ, rfl, hm, sm_rf _ _⟩
    · rw [if_pos (bi_eq q1), cif_f (fun y => q1 y.1)]
      exact ⟨σ, rfl, hm, sm_rf _ _⟩
noncomputable def bouA (F : Fr) (x1 x2 : Int32) : Int32 := cif (jn F ≠ 0 ∧ am x1 1 200 = true ∧ i01 x2 = true) (if x2 = 0 then mn (fun q => smA (tF F (jn F - 1)) (pls F (jn F - 1)) q x1.toNatClampNeg) (pls F (jn F - 1) 1) else mxv (fun p => sms (tF F (jn F - 1)) (pls F (jn F - 1)) x1.toNatClampNeg 0 p) (pls F (jn F - 1) 0)) (-1000000)
theorem ga_bound {σ : gS} {F : Fr} (h : WF F) (hc : CR σ F) (h22 : S0 σ) (ht : TC σ F) (ha : ACF σ F) (x1 x2 : Int32) : ∃ τ, f_Ga_bound σ x1 x2 = some (bouA F x1 x2, τ) ∧ AK σ F τ := by
  unfold f_Ga_bound b_Ga_bound_0 bouA
  rw [f_isEmpty h hc, Option.bind_some]
  by_cases z : jn F = 0
  · rw [if_neg (bi_ne (by simpa using z)), cif_f (fun q => q.1 z)]
    exact ⟨σ, rfl, AK_rf h22 ht ha⟩
  · rw [if_pos (bi_eq (by simpa using z)), f_isAmong, Option.bind_some, f_isAmong, Option.bind_some, i01_am]
    by_cases q1 : am x1 1 200 = true
    · rw [if_neg (bi_ne q1)]
      by_cases q2 : i01 x2 = true
      · rw [if_neg (bi_ne q2), cif_t ⟨z, q1, q2⟩]
        obtain ⟨R, hR, eR, eR2⟩ := am_200 q1
        have hn := nb_F h (m := jn F - 1) (by omega)
        obtain ⟨τ1, τ, r, e1, e2, e3, e4, e5, e6, e7⟩ := ga_play h hc z h22 ht ha hR
        rw [eR2, eR, e1, Option.bind_some, e2, Option.bind_some]
        refine ⟨τ, ?_, e7⟩
        by_cases y : x2 = 0
        · rw [if_pos y, if_pos y, c_low e6 hn e5 e3 e4, Option.bind_some]
        · rw [if_neg y, if_neg y, c_high e6 hn e5 e3 e4, Option.bind_some]
      · rw [if_pos (bi_eq q2), cif_f (fun y => q2 y.2.2)]
        exact ⟨σ, rfl, AK_rf h22 ht ha⟩
    · rw [if_pos (bi_eq q1), cif_f (fun y => q1 y.2.1)]
      exact ⟨σ, rfl, AK_rf h22 ht ha⟩
theorem mo_bound {σ : gS} {F : Fr} (h : WF F) (hm : MR σ F) (x1 x2 : Int32) : ∃ τ, f_Mo_bound σ x1 x2 = some (bouA F x1 x2, τ) ∧ MR τ F ∧ sm (fun c => c < 46) σ τ := by
  unfold f_Mo_bound b_Mo_bound_0 bouA
  rw [f_isFrom, Option.bind_some, f_isFrom, Option.bind_some, i01_am, hm.1]
  by_cases q1 : am x1 1 200 = true
  · rw [if_neg (bi_ne q1)]
    by_cases q2 : i01 x2 = true
    · rw [if_neg (bi_ne q2)]
      by_cases z : jn F = 0
      · rw [if_pos ((n_0 h).mpr z), cif_f (fun q => q.1 z)]
        exact ⟨σ, rfl, hm, sm_rf _ _⟩
      · obtain ⟨R, hR, eR, eR2⟩ := am_200 q1
        obtain ⟨pl, epl, hpl, epl2⟩ := i01_nat q2
        have hn := nb_F h (m := jn F - 1) (by omega)
        have hb := nb_le hn (show 0 < 2 by decide)
        obtain ⟨τ, e1, e2, e3, e4, e5⟩ := mo_play h hm z hR
        rw [if_neg (fun e => z ((n_0 h).mp e)), cif_t ⟨z, q1, q2⟩, eR2, eR, e1, Option.bind_some, epl]
        rcases (show pl = 0 ∨ pl = 1 by omega) with rfl | rfl
        · rw [if_neg (show ¬ nI 0 = 1 by decide), if_pos (show nI 0 = 0 from rfl), m_low e2 hn hR e3]
          exact ⟨τ, rfl, e4, e5⟩
        · have hA := amx_lt (fun a => gI τ 66 (64 * 0 + a)) hb.1
          have ec : amx (fun a => gI τ 66 (64 * 0 + a)) (pls F (jn F - 1) 0) = amx (sms (tF F (jn F - 1)) (pls F (jn F - 1)) R 0) (pls F (jn F - 1) 0) := amx_congr (fun j hj => (e3 0 (by decide) j hj).2)
          have ev : gI τ 66 (amx (fun a => gI τ 66 (64 * 0 + a)) (pls F (jn F - 1) 0)) = mxv (fun p => sms (tF F (jn F - 1)) (pls F (jn F - 1)) R 0 p) (pls F (jn F - 1) 0) := by
            have e9 := (e3 0 (by decide) _ hA).2
            rw [show 64 * 0 + amx (fun a => gI τ 66 (64 * 0 + a)) (pls F (jn F - 1) 0) = amx (fun a => gI τ 66 (64 * 0 + a)) (pls F (jn F - 1) 0) by omega] at e9
            rw [e9, ec]
            exact mxv_amx _ hb.1
          rw [if_pos (show nI 1 = 1 from rfl), if_neg (show ¬ nI 1 = 0 by decide), show f_Mo_bestOf τ 0 = _ from m_bestOf e2 hn (pl := 0) (by decide), Option.bind_some, ck_t (okI_lt (k := 66) (n := amx (fun a => gI τ 66 (64 * 0 + a)) (pls F (jn F - 1) 0)) (L := 128) rfl rfl (by omega) (by decide)), nI_c (by omega), ev]
          exact ⟨τ, rfl, e4, e5⟩
    · rw [if_pos (bi_eq q2), cif_f (fun y => q2 y.2.2)]
      exact ⟨σ, rfl, hm, sm_rf _ _⟩
  · rw [if_pos (bi_eq q1), cif_f (fun y => q1 y.2.1)]
    exact ⟨σ, rfl, hm, sm_rf _ _⟩
