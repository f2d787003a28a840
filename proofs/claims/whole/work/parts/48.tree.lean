/-! the reference: the tree, plans -/
theorem isB_bi (b : Bool) : isB (bi b) = true := bi_isB b
/-- findTree -/
theorem mo_tree {σ : gS} {F : Fr} {B : Nat} (h : WFB B F) (hm : MR σ F) : ∃ τ, f_Mo_findTree σ = some τ ∧ (∀ i, i < jn F → gI τ 56 i = bi (bl F (jn F - 1) i)) ∧ (∀ k, k < 10 → gI τ 57 k = bi (ins F (jn F - 1) k)) ∧ sm (fun c => c ≠ 56 ∧ c ≠ 57) σ τ := by
  have hl := h.1.1
  obtain ⟨m0, m1, m2, m3, m4, m5, m6, m7, m8, m9, m10⟩ := id hm
  have nn : ∀ a : Nat, a < 100000 → ¬ nI a = -1 := fun a ha e => by
    have := congrArg Int32.toInt e
    rw [nI_toInt (by omega)] at this
    have h2 : (-1 : Int32).toInt = -1 := by decide
    omega
  -- the row of sets is cleared
  let I : Nat → (Int32 × gS) → Prop := fun i x => ∃ υ : gS, x = (nI i, υ) ∧ (∀ k, k < i → gI υ 57 k = 0) ∧ sm (fun c => c ≠ 56 ∧ c ≠ 57) σ υ
  have hs : ∀ i, i < 10 → ∀ x, I i x → ∃ x', I (i + 1) x' ∧ ∀ k, b_Mo_findTree_2 k x.1 x.2 = k x' := by
    rintro i hi x ⟨υ, rfl, e1, e2⟩
    refine ⟨(nI (i + 1), sI υ 57 i 0), ⟨_, rfl, fun k hk => ?_, e2.tr (sm_sI _ _ _ (fun z => z.2 rfl))⟩, fun k => ?_⟩
    · rw [gI_sI]
      by_cases q : k = i
      · rw [if_pos ⟨rfl, q⟩]
      · rw [if_neg (fun z => q z.2), e1 k (by omega)]
    · show b_Mo_findTree_2 k (nI i) υ = _
      unfold b_Mo_findTree_2
      rw [if_neg (show ¬ (10 : Int32) ≤ nI i from nI_ge (b := 10) hi (by decide)), ck_t (okZ_lt (k := 57) (n := i) (L := 10) rfl rfl hi (by decide)), ck_t (show isB 0 = true from rfl), bnd_e, bnd_e, nI_c (by omega), nI_1]
  obtain ⟨x', k0, ⟨υ0, rfl, u1, u2⟩, e0⟩ := lpF_in I 10 (0, σ) ⟨σ, rfl, fun k hk => absurd hk (Nat.not_lt_zero k), sm_rf _ _⟩ hs (by decide)
  have hm0 : MR υ0 F := BR_sm u2 hm (by decide) (by decide) (by decide) (by decide) (by decide) (by decide) (by decide) (by decide) (by decide) (by decide)
  -- the nodes, from the root down
  let J : Nat → (Int32 × gS) → Prop := fun t x => ∃ υ : gS, x = (nI (jn F - t) - 1, υ) ∧ t ≤ jn F ∧ (∀ i, i < jn F → jn F - t ≤ i → gI υ 56 i = bi (bl F (jn F - 1) i)) ∧ (∀ k, k < 10 → (gI υ 57 k = 0 ∨ gI υ 57 k = 1) ∧ (gI υ 57 k = 1 ↔ ∃ i, i < jn F ∧ jn F - t ≤ i ∧ bl F (jn F - 1) i = true ∧ jso F i = 2 ∧ jse F i = k)) ∧ sm (fun c => c ≠ 56 ∧ c ≠ 57) σ υ
  have hJ0 : J 0 (gI υ0 46 0 - 1, υ0) := by
    refine ⟨υ0, ?_, Nat.zero_le _, fun i hi q => absurd hi (by omega), fun k hk => ⟨Or.inl (u1 k hk), ?_⟩, u2⟩
    · rw [hm0.1]; rfl
    · rw [u1 k hk]
      exact ⟨fun z => absurd z (by decide), fun ⟨i, h1, h2, _⟩ => absurd h1 (by omega)⟩
  have hsJ : ∀ t, t < jn F → ∀ x, J t x → ∃ x', J (t + 1) x' ∧ ∀ k, b_Mo_findTree_28 k x.1 x.2 = k x' := by
    rintro t ht x ⟨υ, rfl, -, e1, e2, e3⟩
    obtain ⟨j, hj⟩ : ∃ j, jn F - t = j + 1 := ⟨jn F - t - 1, by omega⟩
    have hjn : j < jn F := by omega
    have hmυ : MR υ F := BR_sm e3 hm (by decide) (by decide) (by decide) (by decide) (by decide) (by decide) (by decide) (by decide) (by decide) (by decide)
    obtain ⟨g0, g1, g2, g3, g4, g5, g6, g7, g8, g9, g10⟩ := hmυ
    have o56 := okZ_lt (k := 56) (n := j) (L := 40) rfl rfl (by omega) (by decide)
    have cj := nI_c (n := j) (by omega)
    -- the second half
    have second : ∀ (bb : Bool), bb = bl F (jn F - 1) j → ∃ x', J (t + 1) x' ∧ ∀ k, b_Mo_findTree_76 k (nI j) (nI j) (bi bb) υ = k x' := by
      intro bb hbb
      have key : ∀ (τ : gS) (hτ56 : ∀ i, gI τ 56 i = if i = j then bi bb else gI υ 56 i) (hτ57 : ∀ k, k < 10 → gI τ 57 k = if bb = true ∧ jso F j = 2 ∧ jse F j = k then 1 else gI υ 57 k) (hsm : sm (fun c => c ≠ 56 ∧ c ≠ 57) υ τ), J (t + 1) (nI j - 1, τ) := by
        intro τ h56 h57 hsm
        refine ⟨τ, ?_, by omega, fun i hi q => ?_, fun k hk => ?_, e3.tr hsm⟩
        · rw [show jn F - (t + 1) = j by omega]
        · rw [h56 i]
          by_cases z : i = j
          · rw [if_pos z, hbb, z]
          · rw [if_neg z, e1 i hi (by omega)]
        · rw [h57 k hk]
          obtain ⟨a1, a2⟩ := e2 k hk
          by_cases z : bb = true ∧ jso F j = 2 ∧ jse F j = k
          · rw [if_pos z]
            exact ⟨Or.inr rfl, fun _ => ⟨j, hjn, by omega, by rw [← hbb]; exact z.1, z.2.1, z.2.2⟩, fun _ => rfl⟩
          · rw [if_neg z]
            refine ⟨a1, a2.trans ⟨fun ⟨i, b1, b2, b3⟩ => ⟨i, b1, by omega, b3⟩, fun ⟨i, b1, b2, b3, b4, b5⟩ => ?_⟩⟩
            by_cases z2 : i = j
            · subst z2
              exact absurd ⟨by rw [hbb]; exact b3, b4, b5⟩ z
            · exact ⟨i, b1, by omega, b3, b4, b5⟩
      have m1' : nI j + (-1) = nI j - 1 := by
        cases j with
        | zero => decide
        | succ j => rw [pk_m1, nI_pred]
      unfold b_Mo_findTree_76
      simp only [ck_t o56, ck_t (isB_bi bb), bnd_e, cj, gI_same]
      by_cases z : bb = true
      · by_cases z2 : jso F j = 2
        · have hse := ((h.2.2.1 j hjn).2.2.2.2 z2).1
          have hk := h.1.2
          refine ⟨_, key (sI (sI υ 56 j (bi bb)) 57 (jse F j) 1) ?_ ?_ ?_, fun k => ?_⟩
          · intro i; simp [gI_sI]
          · intro k hk9
            simp only [gI_sI, true_and, show ¬ (57 : Nat) = 56 by decide, false_and, if_false]
            by_cases z3 : k = jse F j
            · rw [if_pos z3, if_pos ⟨z, z2, z3.symm⟩]
            · rw [if_neg z3, if_neg (fun w => z3 w.2.2.symm)]
          · exact (sm_sI _ _ _ (fun w => w.1 rfl)).tr (sm_sI _ _ _ (fun w => w.2 rfl))
          · rw [if_neg (bi_ne z), ck_t (okI_lt (k := 47) (n := j) (L := 40) rfl rfl (by omega) (by decide))]
            simp only [gI_sI, show ¬ (47 : Nat) = 56 by decide, show ¬ (48 : Nat) = 56 by decide, false_and, if_false]
            rw [g2 j hjn, z2, if_pos (show nI 2 = 2 from rfl), ck_t (okI_lt (k := 48) (n := j) (L := 40) rfl rfl (by omega) (by decide)), g3 j hjn, if_pos z2, ck_t (okZ_lt (k := 57) (n := jse F j) (L := 10) rfl rfl (by omega) (by decide)), ck_t (show isB 1 = true from rfl), nI_c (by omega)]
            unfold b_Mo_findTree_108
            rw [bnd_e, m1']
        · refine ⟨_, key (sI υ 56 j (bi bb)) ?_ ?_ ?_, fun k => ?_⟩
          · intro i; simp [gI_sI]
          · intro k hk9
            rw [if_neg (fun w => z2 w.2.1), gI_cell _ _ _ _ (by decide)]
          · exact sm_sI _ _ _ (fun w => w.1 rfl)
          · rw [if_neg (bi_ne z), ck_t (okI_lt (k := 47) (n := j) (L := 40) rfl rfl (by omega) (by decide)), gI_cell _ _ _ _ (by decide), g2 j hjn, if_neg (show ¬ nI (jso F j) = 2 from fun e => z2 ((nI_eq (b := 2) (by have := (h.2.2.1 j hjn).1; omega) (by decide)).mp e))]
            unfold b_Mo_findTree_108
            rw [bnd_e, m1']
      · refine ⟨_, key (sI υ 56 j (bi bb)) ?_ ?_ ?_, fun k => ?_⟩
        · intro i; simp [gI_sI]
        · intro k hk9
          rw [if_neg (fun w => z w.1), gI_cell _ _ _ _ (by decide)]
        · exact sm_sI _ _ _ (fun w => w.1 rfl)
        · rw [if_pos (bi_eq z)]
          unfold b_Mo_findTree_108
          rw [bnd_e, m1']
    -- the first half
    have first : ∀ k, b_Mo_findTree_28 k (nI j) υ = b_Mo_findTree_76 k (nI j) (nI j) (bi (bl F (jn F - 1) j)) υ := by
      intro k
      unfold b_Mo_findTree_28
      rw [if_neg (nI_pos (by omega)), g0]
      obtain ⟨n', hn'⟩ : ∃ n', jn F = n' + 1 := ⟨jn F - 1, by omega⟩
      rw [hn', nI_pred, show n' + 1 - 1 = n' by omega]
      rw [bl_eq h n' hjn]
      by_cases z : j = n'
      · subst z
        rw [if_pos rfl]
        simp
        rfl
      · rw [if_neg (fun e => z ((nI_eq (by omega) (by omega)).mp e)), ck_t (okI_lt (k := 51) (n := j) (L := 40) rfl rfl (by omega) (by decide)), cj, g6 j hjn]
        have hz : (j == n') = false := by simp; exact z
        rw [hz]
        by_cases z2 : jpa F j < 40
        · obtain ⟨up1, up2⟩ := h.up hjn z2
          rw [if_pos z2, if_neg (nn _ (by omega)), ck_t (okI_lt (k := 51) (n := j) (L := 40) rfl rfl (by omega) (by decide)), ck_t (okZ_lt (k := 56) (n := jpa F j) (L := 40) rfl rfl z2 (by decide)), nI_c (by omega), e1 _ up2 (by omega), hn', show n' + 1 - 1 = n' by omega]
          by_cases z3 : bl F n' (jpa F j) = true
          · rw [if_neg (bi_ne z3), z3]
            simp [z2]
            rfl
          · rw [if_pos (bi_eq z3)]
            have : bl F n' (jpa F j) = false := by simpa using z3
            rw [this]
            simp
            rfl
        · rw [if_neg z2, if_pos rfl]
          simp [z2]
          rfl
    obtain ⟨x', hx', e⟩ := second _ rfl
    refine ⟨x', hx', fun k => ?_⟩
    show b_Mo_findTree_28 k (nI (jn F - t) - 1) υ = _
    rw [hj, nI_pred, first k, e k]
  obtain ⟨x', k1, ⟨τ, rfl, -, t1, t2, t3⟩, e1⟩ := lpF_in J (jn F) _ hJ0 hsJ (by omega)
  refine ⟨τ, ?_, fun i hi => t1 i hi (by omega), fun k hk => ?_, t3⟩
  · unfold f_Mo_findTree b_Mo_findTree_0 l_Mo_findTree_2
    refine e0.trans ?_
    show b_Mo_findTree_2 k0 (nI 10) υ0 = _
    unfold b_Mo_findTree_2
    rw [if_pos (show (10 : Int32) ≤ nI 10 from by decide), bnd_e]
    unfold l_Mo_findTree_28
    refine e1.trans ?_
    show b_Mo_findTree_28 k1 (nI (jn F - jn F) - 1) τ = _
    unfold b_Mo_findTree_28
    rw [Nat.sub_self, if_pos (show nI 0 - 1 < 0 from by decide)]
  · obtain ⟨a1, a2⟩ := t2 k hk
    have key : ins F (jn F - 1) k = true ↔ gI τ 57 k = 1 := by
      rw [ins_iff F hl, a2]
      exact ⟨fun ⟨i, b1, b2⟩ => ⟨i, b1, by omega, b2⟩, fun ⟨i, b1, _, b2⟩ => ⟨i, b1, b2⟩⟩
    by_cases z : ins F (jn F - 1) k = true
    · rw [key.mp z, z]; rfl
    · rcases a1 with w | w
      · rw [w, bi_eq z]
      · exact absurd (key.mpr w) z
/-- plansOf -/
theorem mo_plansOf {τ : gS} {s : Nat} {ow ac : Nat → Nat} {b : Nat → Bool} {pl : Nat} (hk : gI τ 46 1 = nI s) (hs : s ≤ 10) (ho : ∀ k, k < s → gI τ 54 k = nI (ow k) ∧ ow k < 2) (ha : ∀ k, k < s → gI τ 55 k = nI (ac k)) (hy : ∀ k, k < s → gI τ 57 k = bi (b k)) (hp : pl < 2) : f_Mo_plansOf τ (nI pl) = some (nI (prd b ow ac pl s)) := by
  unfold f_Mo_plansOf b_Mo_plansOf_0 l_Mo_plansOf_4
  refine lpF_go (fun i => (nI pl, nI (prd b ow ac pl i), nI i)) s (fun i hi k => ?_) (fun k => ?_) (by omega)
  · show b_Mo_plansOf_4 τ k (nI pl) (nI (prd b ow ac pl i)) (nI i) = _
    unfold b_Mo_plansOf_4
    rw [hk, if_neg (nI_ge hi (by omega)), ck_t (okZ_lt (k := 57) (n := i) (L := 10) rfl rfl (by omega) (by decide)), nI_c (by omega), hy i hi]
    have hnext : k (nI pl, nI (prd b ow ac pl (i + 1)), nI (i + 1)) = k (nI pl, nI (prd b ow ac pl i * (if b i = true ∧ ow i = pl then ac i else 1)), nI (i + 1)) := rfl
    rw [hnext]
    by_cases q2 : b i = true
    · rw [if_neg (bi_ne q2), ck_t (okI_lt (k := 54) (n := i) (L := 10) rfl rfl (by omega) (by decide)), (ho i hi).1]
      by_cases q : ow i = pl
      · rw [if_pos (by rw [q]), if_pos ⟨q2, q⟩, ck_t (okI_lt (k := 55) (n := i) (L := 10) rfl rfl (by omega) (by decide)), ha i hi, pk_mul]
        unfold b_Mo_plansOf_43
        rw [bnd_e, nI_1]
      · have h2 := (ho i hi).2
        rw [if_neg (fun e => q ((nI_eq (by omega) (by omega)).mp e)), if_neg (fun z => q z.2), Nat.mul_one]
        unfold b_Mo_plansOf_42 b_Mo_plansOf_43
        rw [bnd_e, nI_1]
    · rw [if_pos (bi_eq q2), if_neg (fun z => q2 z.1), Nat.mul_one]
      unfold b_Mo_plansOf_42 b_Mo_plansOf_43
      rw [bnd_e, nI_1]
  · show b_Mo_plansOf_4 τ k (nI pl) (nI (prd b ow ac pl s)) (nI s) = _
    unfold b_Mo_plansOf_4
    rw [hk, if_pos (nI_le (Nat.le_refl _) (by omega))]
