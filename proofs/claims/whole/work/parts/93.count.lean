/-! what questions keep on the class's side, all together; count on both sides -/
def CA (σ : gS) (F : Fr) : Prop := S0 σ ∧ TC σ F ∧ PCF σ F ∧ LCF σ F ∧ ACF σ F
/-- a cell that says for which version something was made -/
def mfc (c i : Nat) : Prop := (c = 16 ∧ i = 5) ∨ (c = 27 ∧ i < 2) ∨ (c = 34 ∧ i = 4) ∨ (c = 39 ∧ i = 5)
def GK (σ : gS) (F : Fr) (τ : gS) : Prop := CA τ F ∧ (∀ c i, mfc c i → gI τ c i = gI σ c i ∨ gI τ c i = gI σ 1 2) ∧ sm (fun c => c < 16 ∨ 46 ≤ c) σ τ
theorem GK_rf {σ : gS} {F : Fr} (h : CA σ F) : GK σ F σ := ⟨h, fun _ _ _ => Or.inl rfl, sm_rf _ _⟩
theorem PCF_s {σ τ : gS} {F : Fr} {P : Nat → Prop} (hs : sm P σ τ) (h1 : P 1) (h25 : P 25) (h26 : P 26) (h27 : P 27) (h : PCF σ F) : PCF τ F := fun z pf e => by
  rw [hs.i h27, hs.i h1] at e
  refine RW_s hs ?_ (h z pf e)
  cases pf
  · exact h25
  · exact h26
theorem LCF_s {σ τ : gS} {F : Fr} {P : Nat → Prop} (hs : sm P σ τ) (h1 : P 1) (h34 : P 34) (h36 : P 36) (h37 : P 37) (h38 : P 38) (h : LCF σ F) : LCF τ F := fun z => LC_s hs h1 h34 h36 h37 h38 (h z)
theorem ACF_s {σ τ : gS} {F : Fr} {P : Nat → Prop} (hs : sm P σ τ) (h1 : P 1) (h39 : P 39) (h41 : P 41) (h42 : P 42) (h44 : P 44) (h45 : P 45) (h : ACF σ F) : ACF τ F := fun z => AC_s hs h1 h39 h41 h42 h44 h45 (h z)
theorem TK_GK {σ τ : gS} {F : Fr} (h : CA σ F) (k : TK σ F τ) : GK σ F τ := by
  obtain ⟨k1, k2, k3, k4⟩ := k
  refine ⟨⟨k1, k2, PCF_s k4 (by decide) (by decide) (by decide) (by decide) h.2.2.1, LCF_s k4 (by decide) (by decide) (by decide) (by decide) (by decide) h.2.2.2.1, ACF_s k4 (by decide) (by decide) (by decide) (by decide) (by decide) (by decide) h.2.2.2.2⟩, ?_, k4.less (fun c hc => by have : c < 16 ∨ 46 ≤ c := hc; show c < 16 ∨ 23 ≤ c; omega)⟩
  rintro c i (⟨rfl, rfl⟩ | ⟨rfl, hi⟩ | ⟨rfl, rfl⟩ | ⟨rfl, rfl⟩)
  · exact k3
  · exact Or.inl (k4.i (by decide) i)
  · exact Or.inl (k4.i (by decide) 4)
  · exact Or.inl (k4.i (by decide) 5)
theorem AK_GK {σ τ : gS} {F : Fr} (h : CA σ F) (k : AK σ F τ) : GK σ F τ := by
  obtain ⟨k1, k2, k3, k5, k6, k4⟩ := k
  refine ⟨⟨k1, k2, PCF_s k4 (by decide) (by decide) (by decide) (by decide) h.2.2.1, LCF_s k4 (by decide) (by decide) (by decide) (by decide) (by decide) h.2.2.2.1, k3⟩, ?_, k4.less (fun c hc => by have : c < 16 ∨ 46 ≤ c := hc; show c < 16 ∨ (23 ≤ c ∧ c < 39) ∨ 46 ≤ c; omega)⟩
  rintro c i (⟨rfl, rfl⟩ | ⟨rfl, hi⟩ | ⟨rfl, rfl⟩ | ⟨rfl, rfl⟩)
  · exact k5
  · exact Or.inl (k4.i (by decide) i)
  · exact Or.inl (k4.i (by decide) 4)
  · exact k6
theorem LK_GK {σ τ : gS} {F : Fr} (h : CA σ F) (k : LK σ F τ) : GK σ F τ := by
  obtain ⟨k1, k2, k3, k5, k6, k4⟩ := k
  refine ⟨⟨k1, k2, PCF_s k4 (by decide) (by decide) (by decide) (by decide) h.2.2.1, k3, ACF_s k4 (by decide) (by decide) (by decide) (by decide) (by decide) (by decide) h.2.2.2.2⟩, ?_, k4.less (fun c hc => by have : c < 16 ∨ 46 ≤ c := hc; show c < 16 ∨ (23 ≤ c ∧ c < 34) ∨ 39 ≤ c; omega)⟩
  rintro c i (⟨rfl, rfl⟩ | ⟨rfl, hi⟩ | ⟨rfl, rfl⟩ | ⟨rfl, rfl⟩)
  · exact k5
  · exact Or.inl (k4.i (by decide) i)
  · exact k6
  · exact Or.inl (k4.i (by decide) 5)
theorem PK_GK {σ τ : gS} {F : Fr} (h : CA σ F) (k : PK σ F τ) : GK σ F τ := by
  obtain ⟨k1, k2, k3, k5, k6, k4⟩ := k
  refine ⟨⟨k1, k2, k3, LCF_s k4 (by decide) (by decide) (by decide) (by decide) (by decide) h.2.2.2.1, ACF_s k4 (by decide) (by decide) (by decide) (by decide) (by decide) (by decide) h.2.2.2.2⟩, ?_, k4.less (fun c hc => by have : c < 16 ∨ 46 ≤ c := hc; show c < 16 ∨ 34 ≤ c; omega)⟩
  rintro c i (⟨rfl, rfl⟩ | ⟨rfl, hi⟩ | ⟨rfl, rfl⟩ | ⟨rfl, rfl⟩)
  · exact k5
  · rcases (show i = 0 ∨ i = 1 by omega) with rfl | rfl
    · exact k6 false
    · exact k6 true
  · exact Or.inl (k4.i (by decide) 4)
  · exact Or.inl (k4.i (by decide) 5)
noncomputable def couN (F : Fr) : Nat → Int32
  | 0 => nI (jn F)
  | 1 => nI (jk F)
  | 2 => nI (cntB (bl F (jn F - 1)) (jn F))
  | 3 => cif (jn F = 0) (-1000000) (nI (pls F (jn F - 1) 0))
  | 4 => cif (jn F = 0) (-1000000) (nI (pls F (jn F - 1) 1))
  | 5 => cif (jn F = 0) (-1000000) (nI (cS (PT F false) (pls F (jn F - 1) 1) (pls F (jn F - 1) 0)))
  | 6 => cif (jn F = 0) (-1000000) (nI (cS (PT F true) (pls F (jn F - 1) 1) (pls F (jn F - 1) 0)))
  | 7 => cif (jn F = 0) (-1000000) (nI (cntB (gm F) (jn F)))
  | 8 => cif (jn F = 0) (-1000000) (nI (cntB (lf (tF F (jn F - 1)) (pls F (jn F - 1)) (rs (tF F (jn F - 1)) (pls F (jn F - 1))) 0) (pls F (jn F - 1) 0)) * nI (cntB (lf (tF F (jn F - 1)) (pls F (jn F - 1)) (rs (tF F (jn F - 1)) (pls F (jn F - 1))) 1) (pls F (jn F - 1) 1)))
  | _ => cif (jn F = 0) (-1000000) (nI (jhe F (jn F - 1)))
noncomputable def couA (F : Fr) (x : Int32) : Int32 := cif (am x 0 9 = true) (couN F x.toNatClampNeg) (-2)
theorem am9 {x : Int32} (h : am x 0 9 = true) : ∃ j, j < 10 ∧ x = nI j := (am_nI (n := 10) (by decide)).mp (show am x 0 (nI 10 - 1) = true from h)
theorem ga_count {σ : gS} {F : Fr} (h : WF F) (hc : CR σ F) (hA : CA σ F) (x : Int32) : ∃ τ, f_Ga_count σ x = some (couA F x, τ) ∧ GK σ F τ := by
  have hl := h.1.1
  unfold f_Ga_count b_Ga_count_0 couA
  rw [f_isAmong, Option.bind_some]
  by_cases q : am x 0 9 = true
  · rw [if_neg (bi_ne q), cif_t q]
    obtain ⟨j, hj, rfl⟩ := am9 q
    rw [nI_c (n := j) (by omega), f_isEmpty h hc, Option.bind_some]
    -- one of the last seven
    have big : ∀ {j : Nat} {v : Int32}, 3 ≤ j → j < 10 → couN F j = cif (jn F = 0) (-1000000) v → (jn F ≠ 0 → ∃ τ, b_Ga_count_28 (nI j) σ = some (v, τ) ∧ GK σ F τ) → ∃ τ, (if nI j ≤ 2 then b_Ga_count_28 (nI j) σ else if bi (decide (jn F = 0)) = 0 then b_Ga_count_28 (nI j) σ else some (-1000000, σ)) = some (couN F j, τ) ∧ GK σ F τ := by
      intro j v h3 h10 ev f
      rw [if_neg (show ¬ nI j ≤ 2 from nI_ge (a := 2) (by omega) (by omega)), ev]
      by_cases z : jn F = 0
      · rw [if_neg (bi_ne (by simpa using z)), cif_t z]
        exact ⟨σ, rfl, GK_rf hA⟩
      · rw [if_pos (bi_eq (by simpa using z)), cif_f z]
        exact f z
    rcases (show j = 0 ∨ j = 1 ∨ j = 2 ∨ j = 3 ∨ j = 4 ∨ j = 5 ∨ j = 6 ∨ j = 7 ∨ j = 8 ∨ j = 9 by omega) with rfl | rfl | rfl | rfl | rfl | rfl | rfl | rfl | rfl | rfl
    · refine ⟨σ, ?_, GK_rf hA⟩
      rw [if_pos (show nI 0 ≤ 2 by decide)]
      show some (gI σ 1 0, σ) = some (nI (jn F), σ)
      rw [hc.1.1]
    · refine ⟨σ, ?_, GK_rf hA⟩
      rw [if_pos (show nI 1 ≤ 2 by decide)]
      show some (gI σ 1 1, σ) = some (nI (jk F), σ)
      rw [hc.1.2.1]
    · refine ⟨σ, ?_, GK_rf hA⟩
      rw [if_pos (show nI 2 ≤ 2 by decide)]
      show ((f_Fo_nodesInTree σ).bind fun r_8 => (f_Lo_bitCount r_8).bind fun r_9 => some (r_9, σ)) = some (nI (cntB (bl F (jn F - 1)) (jn F)), σ)
      by_cases z : jn F = 0
      · have e : f_Fo_nodesInTree σ = some 0 := by
          unfold f_Fo_nodesInTree b_Fo_nodesInTree_0
          rw [hc.1.1, if_pos ((n_0 h).mpr z)]
        rw [e, Option.bind_some, f_bitCount, Option.bind_some, z, cntB_cut (f := tb 0) (g := bl F (0 - 1)) (n := 0) 64 (fun j hj => by rw [tb_0, decide_eq_false (Nat.not_lt_zero j), Bool.false_and])]
      · rw [fo_inTree h hc z, Option.bind_some, f_bitCount, Option.bind_some]
        have := cntB_cut (f := tb (gL σ 11 (jn F - 1))) (g := bl F (jn F - 1)) (n := jn F) (64 - jn F) (fun j hj => hc.2.2.1 (jn F - 1) (by omega) j (by omega))
        rw [show jn F + (64 - jn F) = 64 by omega] at this
        rw [this]
    · refine big (by decide) (by decide) rfl (fun z => ⟨σ, ?_, GK_rf hA⟩)
      show ((f_Fo_plansOf σ 0).bind fun r_11 => some (r_11, σ)) = _
      rw [show f_Fo_plansOf σ 0 = _ from fo_plansOf h hc z (pl := 0) (by decide), Option.bind_some]
    · refine big (by decide) (by decide) rfl (fun z => ⟨σ, ?_, GK_rf hA⟩)
      show ((f_Fo_plansOf σ 1).bind fun r_11 => some (r_11, σ)) = _
      rw [show f_Fo_plansOf σ 1 = _ from fo_plansOf h hc z (pl := 1) (by decide), Option.bind_some]
    · refine big (by decide) (by decide) rfl (fun z => ?_)
      obtain ⟨τ, e1, e2, e3⟩ := po_find h hc z hA.1 hA.2.1 hA.2.2.1 false
      have hcτ : CR τ F := CB_sm e3.2.2.2.2.2 (fun c hc => Or.inl (by omega)) hc
      refine ⟨τ, ?_, PK_GK hA e3⟩
      show ((f_Po_find σ 0).bind fun r_15 => (f_Po_howMany r_15 0).bind fun r_16 => some (r_16, r_15)) = _
      rw [show f_Po_find σ 0 = _ from e1, Option.bind_some, show f_Po_howMany τ 0 = _ from po_many h hcτ z e2, Option.bind_some]
    · refine big (by decide) (by decide) rfl (fun z => ?_)
      obtain ⟨τ, e1, e2, e3⟩ := po_find h hc z hA.1 hA.2.1 hA.2.2.1 true
      have hcτ : CR τ F := CB_sm e3.2.2.2.2.2 (fun c hc => Or.inl (by omega)) hc
      refine ⟨τ, ?_, PK_GK hA e3⟩
      show ((f_Po_find σ 1).bind fun r_15 => (f_Po_howMany r_15 1).bind fun r_16 => some (r_16, r_15)) = _
      rw [show f_Po_find σ 1 = _ from e1, Option.bind_some, show f_Po_howMany τ 1 = _ from po_many h hcτ z e2, Option.bind_some]
    · refine big (by decide) (by decide) rfl (fun z => ⟨σ, ?_, GK_rf hA⟩)
      obtain ⟨y, e1, e2⟩ := ga_games h hc z
      show ((f_Fo_gamesWithin σ).bind fun r_21 => (f_Lo_bitCount r_21).bind fun r_22 => some (r_22, σ)) = _
      rw [e1, Option.bind_some, e2, Option.bind_some]
    · refine big (by decide) (by decide) rfl (fun z => ?_)
      obtain ⟨τ1, τ, e1, e2, e3, e4⟩ := ga_leave h hc z hA.1 hA.2.1 hA.2.2.2.1
      refine ⟨τ, ?_, LK_GK hA e4⟩
      show ((f_Ta_fillWhole σ).bind fun r_24 => (f_Le_playAll r_24).bind fun r_25 => (f_Le_pairsLeft r_25).bind fun r_26 => some (r_26, r_25)) = _
      rw [e1, Option.bind_some, e2, Option.bind_some, c_pairs (nb_F h (by omega)) e3, Option.bind_some]
    · refine big (by decide) (by decide) rfl (fun z => ⟨σ, ?_, GK_rf hA⟩)
      show ((f_Fo_depthOfTree σ).bind fun r_1 => some (r_1, σ)) = _
      unfold f_Fo_depthOfTree b_Fo_depthOfTree_0
      rw [hc.1.1, if_neg (fun e => z ((n_0 h).mp e)), fo_root hc z, Option.bind_some, ck_t (okI_lt (k := 9) (n := jn F - 1) (L := 40) rfl rfl (by omega) (by decide)), nI_c (n := jn F - 1) (by omega), Option.bind_some, hc.1.2.2.2.2.2.2.2.1 (jn F - 1) (by omega)]
  · rw [if_pos (bi_eq q), cif_f q]
    exact ⟨σ, rfl, GK_rf hA⟩
theorem mo_count {σ : gS} {F : Fr} (h : WF F) (hm : MR σ F) (x : Int32) : ∃ τ, f_Mo_count σ x = some (couA F x, τ) ∧ MR τ F ∧ sm (fun c => c < 46) σ τ := by
  have hl := h.1.1
  unfold f_Mo_count couA b_Mo_count_0
  rw [f_isFrom, Option.bind_some]
  by_cases q : am x 0 9 = true
  · rw [cif_t q, if_neg (bi_ne q)]
    obtain ⟨j, hj, rfl⟩ := am9 q
    rw [nI_c (n := j) (by omega)]
    obtain ⟨σ1, f1, f2, f3, f4⟩ := mo_tree h hm
    have hm1 : MR σ1 F := MR_s f4 (fun c h1 h2 => by omega) hm
    have ht1 : TR σ1 F := ⟨f2, f3⟩
    have k1 : sm (fun c => c < 46) σ σ1 := f4.less (fun c hc => by have : c < 46 := hc; omega)
    have big : ∀ {v : Int32} {b : Option (Int32 × gS)}, (jn F ≠ 0 → ∃ τ, b = some (v, τ) ∧ MR τ F ∧ sm (fun c => c < 46) σ1 τ) → ∃ τ, (if nI (jn F) = 0 then some (-1000000, σ1) else b) = some (cif (jn F = 0) (-1000000) v, τ) ∧ MR τ F ∧ sm (fun c => c < 46) σ τ := by
      intro v b f
      by_cases z : jn F = 0
      · rw [if_pos ((n_0 h).mpr z), cif_t z]
        exact ⟨σ1, rfl, hm1, k1⟩
      · rw [if_neg (fun e => z ((n_0 h).mp e)), cif_f z]
        obtain ⟨τ, e1, e2, e3⟩ := f z
        exact ⟨τ, e1, e2, k1.tr e3⟩
    rcases (show j = 0 ∨ j = 1 ∨ j = 2 ∨ j = 3 ∨ j = 4 ∨ j = 5 ∨ j = 6 ∨ j = 7 ∨ j = 8 ∨ j = 9 by omega) with rfl | rfl | rfl | rfl | rfl | rfl | rfl | rfl | rfl | rfl
    · refine ⟨σ, ?_, hm, sm_rf _ _⟩
      rw [if_pos (show nI 0 = 0 from rfl), hm.1]
      rfl
    · refine ⟨σ, ?_, hm, sm_rf _ _⟩
      rw [if_neg (show ¬ nI 1 = 0 by decide), if_pos (show nI 1 = 1 from rfl), hm.2.1]
      rfl
    · refine ⟨σ1, ?_, hm1, k1⟩
      rw [if_neg (show ¬ nI 2 = 0 by decide), if_neg (show ¬ nI 2 = 1 by decide), f1, Option.bind_some, if_pos (show nI 2 = 2 from rfl), show couN F 2 = nI (cntB (bl F (jn F - 1)) (jn F)) from rfl]
      unfold l_Mo_count_45
      refine lpF_go (fun i => (nI (cntB (bl F (jn F - 1)) i), nI i, σ1)) (jn F) (fun i hi k => ?_) (fun k => ?_) (by omega)
      · show b_Mo_count_45 k (nI (cntB (bl F (jn F - 1)) i)) (nI i) σ1 = k (nI (cntB (bl F (jn F - 1)) (i + 1)), nI (i + 1), σ1)
        unfold b_Mo_count_45
        rw [hm1.1, if_neg (nI_ge hi (by omega)), ck_t (okZ_lt (k := 56) (n := i) (L := 40) rfl rfl (by omega) (by decide)), nI_c (n := i) (by omega), f2 i hi, cntB_s]
        by_cases w : bl F (jn F - 1) i = true
        · rw [if_neg (bi_ne w), if_pos w]
          unfold b_Mo_count_69
          rw [bnd_e, nI_1, nI_1]
        · rw [if_pos (bi_eq w), if_neg w, Nat.add_zero]
          unfold b_Mo_count_69
          rw [bnd_e, nI_1]
      · show b_Mo_count_45 k (nI (cntB (bl F (jn F - 1)) (jn F))) (nI (jn F)) σ1 = _
        unfold b_Mo_count_45
        rw [hm1.1, if_pos (nI_le (Nat.le_refl _) (by omega))]
    · rw [if_neg (show ¬ nI 3 = 0 by decide), if_neg (show ¬ nI 3 = 1 by decide), f1, Option.bind_some, if_neg (show ¬ nI 3 = 2 by decide), hm1.1, show couN F 3 = cif (jn F = 0) (-1000000) (nI (pls F (jn F - 1) 0)) from rfl]
      refine big (fun z => ?_)
      rw [if_neg (show ¬ nI 3 < 3 by decide), if_neg (show ¬ (8 : Int32) < nI 3 by decide), if_pos (show nI 3 = 3 from rfl)]
      exact ⟨σ1, by rw [show f_Mo_plansOf σ1 0 = _ from mo_plans h hm1 ht1 (pl := 0) (by decide), Option.bind_some], hm1, sm_rf _ _⟩
    · rw [if_neg (show ¬ nI 4 = 0 by decide), if_neg (show ¬ nI 4 = 1 by decide), f1, Option.bind_some, if_neg (show ¬ nI 4 = 2 by decide), hm1.1, show couN F 4 = cif (jn F = 0) (-1000000) (nI (pls F (jn F - 1) 1)) from rfl]
      refine big (fun z => ?_)
      rw [if_neg (show ¬ nI 4 < 3 by decide), if_neg (show ¬ (8 : Int32) < nI 4 by decide), if_neg (show ¬ nI 4 = 3 by decide), if_pos (show nI 4 = 4 from rfl)]
      exact ⟨σ1, by rw [show f_Mo_plansOf σ1 1 = _ from mo_plans h hm1 ht1 (pl := 1) (by decide), Option.bind_some], hm1, sm_rf _ _⟩
    · rw [if_neg (show ¬ nI 5 = 0 by decide), if_neg (show ¬ nI 5 = 1 by decide), f1, Option.bind_some, if_neg (show ¬ nI 5 = 2 by decide), hm1.1, show couN F 5 = cif (jn F = 0) (-1000000) (nI (cS (PT F false) (pls F (jn F - 1) 1) (pls F (jn F - 1) 0))) from rfl]
      refine big (fun z => ?_)
      rw [if_neg (show ¬ nI 5 < 3 by decide), if_neg (show ¬ (8 : Int32) < nI 5 by decide), if_neg (show ¬ nI 5 = 3 by decide), if_neg (show ¬ nI 5 = 4 by decide), if_pos (show nI 5 = 5 from rfl)]
      obtain ⟨τ, e1, -, e3, e4⟩ := mo_countP h hm1 z false (-1)
      have e1' : f_Mo_countPoints σ1 0 (-1) = some (nI (cS (PT F false) (pls F (jn F - 1) 1) (pls F (jn F - 1) 0)), τ) := e1
      exact ⟨τ, by rw [e1', Option.bind_some], e3, e4⟩
    · rw [if_neg (show ¬ nI 6 = 0 by decide), if_neg (show ¬ nI 6 = 1 by decide), f1, Option.bind_some, if_neg (show ¬ nI 6 = 2 by decide), hm1.1, show couN F 6 = cif (jn F = 0) (-1000000) (nI (cS (PT F true) (pls F (jn F - 1) 1) (pls F (jn F - 1) 0))) from rfl]
      refine big (fun z => ?_)
      rw [if_neg (show ¬ nI 6 < 3 by decide), if_neg (show ¬ (8 : Int32) < nI 6 by decide), if_neg (show ¬ nI 6 = 3 by decide), if_neg (show ¬ nI 6 = 4 by decide), if_neg (show ¬ nI 6 = 5 by decide), if_pos (show nI 6 = 6 from rfl)]
      obtain ⟨τ, e1, -, e3, e4⟩ := mo_countP h hm1 z true (-1)
      have e1' : f_Mo_countPoints σ1 1 (-1) = some (nI (cS (PT F true) (pls F (jn F - 1) 1) (pls F (jn F - 1) 0)), τ) := e1
      exact ⟨τ, by rw [e1', Option.bind_some], e3, e4⟩
    · rw [if_neg (show ¬ nI 7 = 0 by decide), if_neg (show ¬ nI 7 = 1 by decide), f1, Option.bind_some, if_neg (show ¬ nI 7 = 2 by decide), hm1.1, show couN F 7 = cif (jn F = 0) (-1000000) (nI (cntB (gm F) (jn F))) from rfl]
      refine big (fun z => ?_)
      rw [if_neg (show ¬ nI 7 < 3 by decide), if_neg (show ¬ (8 : Int32) < nI 7 by decide), if_neg (show ¬ nI 7 = 3 by decide), if_neg (show ¬ nI 7 = 4 by decide), if_neg (show ¬ nI 7 = 5 by decide), if_neg (show ¬ nI 7 = 6 by decide), if_pos (show nI 7 = 7 from rfl)]
      obtain ⟨τ, e1, -, e3, e4⟩ := mo_games h hm1 z (-1)
      exact ⟨τ, by rw [e1, Option.bind_some], e3, e4⟩
    · rw [if_neg (show ¬ nI 8 = 0 by decide), if_neg (show ¬ nI 8 = 1 by decide), f1, Option.bind_some, if_neg (show ¬ nI 8 = 2 by decide), hm1.1, show couN F 8 = cif (jn F = 0) (-1000000) (nI (cntB (lf (tF F (jn F - 1)) (pls F (jn F - 1)) (rs (tF F (jn F - 1)) (pls F (jn F - 1))) 0) (pls F (jn F - 1) 0)) * nI (cntB (lf (tF F (jn F - 1)) (pls F (jn F - 1)) (rs (tF F (jn F - 1)) (pls F (jn F - 1))) 1) (pls F (jn F - 1) 1))) from rfl]
      refine big (fun z => ?_)
      rw [if_neg (show ¬ nI 8 < 3 by decide), if_neg (show ¬ (8 : Int32) < nI 8 by decide), if_neg (show ¬ nI 8 = 3 by decide), if_neg (show ¬ nI 8 = 4 by decide), if_neg (show ¬ nI 8 = 5 by decide), if_neg (show ¬ nI 8 = 6 by decide), if_neg (show ¬ nI 8 = 7 by decide), if_pos (show nI 8 = 8 from rfl)]
      obtain ⟨τ, e1, -, -, e3, e4⟩ := mo_do h hm1 z
      exact ⟨τ, by rw [e1, Option.bind_some], e3, e4⟩
    · rw [if_neg (show ¬ nI 9 = 0 by decide), if_neg (show ¬ nI 9 = 1 by decide), f1, Option.bind_some, if_neg (show ¬ nI 9 = 2 by decide), hm1.1, show couN F 9 = cif (jn F = 0) (-1000000) (nI (jhe F (jn F - 1))) from rfl]
      refine big (fun z => ?_)
      rw [if_neg (show ¬ nI 9 < 3 by decide), if_pos (show (8 : Int32) < nI 9 by decide)]
      exact ⟨σ1, by rw [f_moRoot hm1 z, Option.bind_some, ck_t (okI_lt (k := 52) (n := jn F - 1) (L := 40) rfl rfl (by omega) (by decide)), nI_c (n := jn F - 1) (by omega), hm1.2.2.2.2.2.2.2.1 (jn F - 1) (by omega)], hm1, sm_rf _ _⟩
  · rw [if_pos (bi_eq q), cif_f q]
    exact ⟨σ, rfl, hm, sm_rf _ _⟩
