/-! within: both sides -/
theorem mo_games {σ : gS} {F : Fr} (h : WF F) (hm : MR σ F) (z : jn F ≠ 0) (k : Int32) : ∃ τ, f_Mo_games σ k = some (nI (cntB (gm F) (jn F)), τ) ∧ gI τ 46 20 = nth (gm F) k (jn F) ∧ MR τ F ∧ sm (fun c => c < 46) σ τ := by
  have hl := h.1.1
  obtain ⟨σ1, f1, f2, f3, f4⟩ := mo_tree h hm
  have hm1 : MR σ1 F := MR_s f4 (fun c h1 h2 => by omega) hm
  let I : Nat → (Int32 × Int32 × Int32 × gS) → Prop := fun i x => ∃ υ : gS, x = (k, nI (cntB (gm F) i), nI i, υ) ∧ gI υ 46 20 = nth (gm F) k i ∧ (∀ j, j ≠ 20 → gI υ 46 j = gI σ1 46 j) ∧ sm (fun c => c ≠ 46) σ1 υ
  have hMR : ∀ υ : gS, (∀ j, j ≠ 20 → gI υ 46 j = gI σ1 46 j) → sm (fun c => c ≠ 46) σ1 υ → MR υ F := fun υ a b => MR_of hm1 (a 0 (by decide)) (a 1 (by decide)) (fun c h1 h2 i => b.i (by show c ≠ 46; omega) i)
  have hTR : ∀ υ : gS, sm (fun c => c ≠ 46) σ1 υ → TR υ F := fun υ b => TR_s b (by decide) (by decide) ⟨f2, f3⟩
  have hs : ∀ i, i < jn F → ∀ x, I i x → ∃ x', I (i + 1) x' ∧ ∀ kk, b_Mo_games_13 kk x.1 x.2.1 x.2.2.1 x.2.2.2 = kk x' := by
    rintro i hi x ⟨υ, rfl, e1, e2, e3⟩
    have hmυ := hMR υ e2 e3
    have head : ∀ kk, b_Mo_games_13 kk k (nI (cntB (gm F) i)) (nI i) υ = if bi (gm F i) = 0 then b_Mo_games_49 kk k (nI (cntB (gm F) i)) (nI i) υ else if nI (cntB (gm F) i) = k then b_Mo_games_43 kk k (nI (cntB (gm F) i)) (nI i) (nI i) υ else b_Mo_games_43 kk k (nI (cntB (gm F) i)) (nI i) (gI υ 46 20) υ := fun kk => by
      unfold b_Mo_games_13
      rw [hmυ.1, if_neg (nI_ge hi (by omega)), mo_isGame h hmυ (hTR υ e3) hi, Option.bind_some]
    by_cases g : gm F i = true
    · refine ⟨(k, nI (cntB (gm F) (i + 1)), nI (i + 1), sI υ 46 20 (nth (gm F) k (i + 1))), ⟨_, rfl, gI_same _ _ _ _, fun j hj => by rw [gI_place _ _ _ hj, e2 j hj], e3.tr (sm_sI _ _ _ (fun w => w rfl))⟩, fun kk => ?_⟩
      show b_Mo_games_13 kk k (nI (cntB (gm F) i)) (nI i) υ = _
      rw [head kk, if_neg (bi_ne g), cntB_s, if_pos g, nth_s (by omega)]
      by_cases w : nI (cntB (gm F) i) = k
      · rw [if_pos w, if_pos ⟨g, w⟩]
        unfold b_Mo_games_43 b_Mo_games_49
        rw [bnd_e, bnd_e, bnd_e, nI_1, nI_1]
      · rw [if_neg w, if_neg (fun y => w y.2), e1]
        unfold b_Mo_games_43 b_Mo_games_49
        rw [bnd_e, bnd_e, bnd_e, nI_1, nI_1]
    · refine ⟨(k, nI (cntB (gm F) (i + 1)), nI (i + 1), υ), ⟨_, rfl, by rw [nth_s (by omega), if_neg (fun y => g y.1), e1], e2, e3⟩, fun kk => ?_⟩
      show b_Mo_games_13 kk k (nI (cntB (gm F) i)) (nI i) υ = _
      rw [head kk, if_pos (bi_eq g), cntB_s, if_neg g, Nat.add_zero]
      unfold b_Mo_games_49
      rw [bnd_e, nI_1]
  obtain ⟨x', kk, ⟨υ, rfl, e1, e2, e3⟩, e⟩ := lpF_in I (jn F) (k, 0, 0, sI σ1 46 20 (-1)) ⟨_, rfl, gI_same _ _ _ _, fun j hj => gI_place _ _ _ hj, sm_sI _ _ _ (fun w => w rfl)⟩ hs (by omega)
  refine ⟨υ, ?_, e1, hMR υ e2 e3, (f4.less (fun c hc => by have : c < 46 := hc; omega)).tr (e3.less (fun c hc => by have : c < 46 := hc; show c ≠ 46; omega))⟩
  unfold f_Mo_games b_Mo_games_0
  rw [f1, Option.bind_some, bnd_e]
  unfold l_Mo_games_13
  refine e.trans ?_
  show b_Mo_games_13 kk k (nI (cntB (gm F) (jn F))) (nI (jn F)) υ = _
  unfold b_Mo_games_13
  rw [(hMR υ e2 e3).1, if_pos (nI_le (Nat.le_refl _) (by omega))]
noncomputable def witA (F : Fr) (k : Int32) : Int32 := cif (jn F = 0) (-1000000) (nth (gm F) k (jn F))
theorem mo_within {σ : gS} {F : Fr} (h : WF F) (hm : MR σ F) (k : Int32) : ∃ τ, f_Mo_within σ k = some (witA F k, τ) ∧ MR τ F ∧ sm (fun c => c < 46) σ τ := by
  unfold f_Mo_within b_Mo_within_0 witA
  rw [hm.1]
  by_cases z : jn F = 0
  · rw [if_pos ((n_0 h).mpr z), cif_t z]
    exact ⟨σ, rfl, hm, sm_rf _ _⟩
  · obtain ⟨τ, e1, e2, e3, e4⟩ := mo_games h hm z k
    rw [if_neg (fun e => z ((n_0 h).mp e)), cif_f z, e1, Option.bind_some]
    exact ⟨τ, by rw [e2], e3, e4⟩
theorem ga_within {σ : gS} {F : Fr} (h : WF F) (hc : CR σ F) (k : Int32) : f_Ga_within σ k = some (witA F k) := by
  have hl := h.1.1
  unfold f_Ga_within b_Ga_within_0 witA
  rw [f_isEmpty h hc, Option.bind_some]
  by_cases z : jn F = 0
  · rw [if_neg (bi_ne (by simpa using z)), cif_t z]
  · obtain ⟨y, e1, e2⟩ := fo_games h hc z
    rw [if_pos (bi_eq (by simpa using z)), cif_f z, e1, Option.bind_some, f_bitAt, Option.bind_some, nth_cut (by omega) e2]
/-- how many games within there are -/
theorem ga_games {σ : gS} {F : Fr} (h : WF F) (hc : CR σ F) (z : jn F ≠ 0) : ∃ y, f_Fo_gamesWithin σ = some y ∧ f_Lo_bitCount y = some (nI (cntB (gm F) (jn F))) := by
  have hl := h.1.1
  obtain ⟨y, e1, e2⟩ := fo_games h hc z
  refine ⟨y, e1, ?_⟩
  rw [f_bitCount]
  have := cntB_cut (f := tb y) (g := gm F) (n := jn F) (64 - jn F) (fun j hj => e2 j (by omega))
  rw [show jn F + (64 - jn F) = 64 by omega] at this
  rw [this]
