/-! answering rounds: the reference -/
def tkn (T : Tb) (n : Nat → Nat) (pl a : Nat) : Nat → Nat
  | 0 => 0
  | r + 1 => tkn T n pl a r + (if pik T n r pl = a then 1 else 0)
theorem tkn_le (T : Tb) (n : Nat → Nat) (pl a : Nat) : ∀ r, tkn T n pl a r ≤ r
  | 0 => Nat.le_refl _
  | r + 1 => by
    have := tkn_le T n pl a r
    show tkn T n pl a r + (if pik T n r pl = a then 1 else 0) ≤ r + 1
    split <;> omega
/-- the reference's rounds -/
def MP (σ : gS) (n : Nat → Nat) (T : Tb) (r : Nat) : Prop := ∀ pl, pl < 2 → ∀ a, a < n pl → gI σ 65 (64 * pl + a) = nI (tkn T n pl a r) ∧ gI σ 66 (64 * pl + a) = sms T n r pl a
section MA
variable {σ : gS} {n : Nat → Nat} {T : Tb}
theorem m_bestOf (h : VM σ n T) (hn : nb n) {pl : Nat} (hpl : pl < 2) : f_Mo_bestOf σ (nI pl) = some (nI (amx (fun a => gI σ 66 (64 * pl + a)) (n pl))) := by
  have hl := nb_le hn hpl
  have ok : ∀ a, a < 64 → okI 66 (nI (64 * pl + a)) = true := fun a ha => okI_lt (k := 66) (n := 64 * pl + a) (L := 128) rfl rfl (by omega) (by decide)
  unfold f_Mo_bestOf b_Mo_bestOf_0 l_Mo_bestOf_4
  rw [show (nI pl, (0 : Int32), (1 : Int32)) = (fun t => (nI pl, nI (amx (fun a => gI σ 66 (64 * pl + a)) (t + 1)), nI (t + 1))) 0 from by show _ = (nI pl, nI (amx (fun a => gI σ 66 (64 * pl + a)) 1), nI 1); rw [amx_1]; rfl]
  refine lpF_go (fun t => (nI pl, nI (amx (fun a => gI σ 66 (64 * pl + a)) (t + 1)), nI (t + 1))) (n pl - 1) (fun t ht k => ?_) (fun k => ?_) (by omega)
  · show b_Mo_bestOf_4 σ k (nI pl) (nI (amx (fun a => gI σ 66 (64 * pl + a)) (t + 1))) (nI (t + 1)) = k (nI pl, nI (if gI σ 66 (64 * pl + (t + 1)) ≤ gI σ 66 (64 * pl + (amx (fun a => gI σ 66 (64 * pl + a)) (t + 1))) then amx (fun a => gI σ 66 (64 * pl + a)) (t + 1) else t + 1), nI (t + 1 + 1))
    have hA := amx_lt (fun a => gI σ 66 (64 * pl + a)) (show 1 ≤ t + 1 by omega)
    unfold b_Mo_bestOf_4
    rw [m_many h hpl, Option.bind_some, if_neg (nI_ge (by omega) (by omega)), n64, n64, ck_t (ok _ (by omega)), ck_t (ok _ (by omega)), nI_c (by omega), nI_c (by omega)]
    by_cases z : gI σ 66 (64 * pl + (t + 1)) ≤ gI σ 66 (64 * pl + (amx (fun a => gI σ 66 (64 * pl + a)) (t + 1)))
    · rw [if_pos z, if_pos z]
      unfold b_Mo_bestOf_43
      rw [bnd_e, nI_1]
    · rw [if_neg z, if_neg z]
      unfold b_Mo_bestOf_43
      rw [bnd_e, nI_1]
  · show b_Mo_bestOf_4 σ k (nI pl) (nI (amx (fun a => gI σ 66 (64 * pl + a)) (n pl - 1 + 1))) (nI (n pl - 1 + 1)) = _
    unfold b_Mo_bestOf_4
    rw [m_many h hpl, Option.bind_some, show n pl - 1 + 1 = n pl by omega, if_pos (nI_le (Nat.le_refl _) (by omega))]
theorem m_take (h : VM σ n T) (hn : nb n) {pl b : Nat} (hpl : pl < 2) (hb : b < n pl) : ∃ τ, f_Mo_take σ (nI pl) (nI b) = some τ ∧ (∀ i, gI τ 65 i = if i = 64 * pl + b then gI σ 65 i + 1 else gI σ 65 i) ∧ (∀ a, a < n (1 - pl) → gI τ 66 (64 * (1 - pl) + a) = gI σ 66 (64 * (1 - pl) + a) + va T (1 - pl) a b) ∧ (∀ a, a < 64 → gI τ 66 (64 * pl + a) = gI σ 66 (64 * pl + a)) ∧ sm (fun c => c ≠ 65 ∧ c ≠ 66) σ τ := by
  have hl := nb_le hn hpl
  have hl2 := nb_le hn (show 1 - pl < 2 by omega)
  have ok : ∀ a, a < 64 → okI 66 (nI (64 * (1 - pl) + a)) = true := fun a ha => okI_lt (k := 66) (n := 64 * (1 - pl) + a) (L := 128) rfl rfl (by omega) (by decide)
  have o65 := okI_lt (k := 65) (n := 64 * pl + b) (L := 128) rfl rfl (by omega) (by decide)
  unfold f_Mo_take b_Mo_take_0
  rw [n64, ck_t o65, ck_t o65, bnd_e, nI_c (by omega)]
  generalize hσ3 : sI σ 65 (64 * pl + b) (gI σ 65 (64 * pl + b) + 1) = σ3
  have s3 : sm (fun c => c ≠ 65) σ σ3 := by rw [← hσ3]; exact sm_sI _ _ _ (fun w => w rfl)
  let I : Nat → (Int32 × Int32 × Int32 × gS) → Prop := fun i x => ∃ υ : gS, x = (nI pl, nI b, nI i, υ) ∧ (∀ j, gI υ 66 j = if 64 * (1 - pl) ≤ j ∧ j < 64 * (1 - pl) + i then gI σ3 66 j + va T (1 - pl) (j - 64 * (1 - pl)) b else gI σ3 66 j) ∧ sm (fun c => c ≠ 66) σ3 υ
  have hs : ∀ i, i < n (1 - pl) → ∀ x, I i x → ∃ x', I (i + 1) x' ∧ ∀ k, b_Mo_take_17 k x.1 x.2.1 x.2.2.1 x.2.2.2 = k x' := by
    rintro i hi x ⟨υ, rfl, e1, e2⟩
    have hv : VM υ n T := VM_s e2 (by decide) (by decide) (VM_s s3 (by decide) (by decide) h)
    have hval : f_Mo_worthTo υ (nI (1 - pl)) (nI i) (nI b) = some (va T (1 - pl) i b) := m_value hv hn (by omega) hi (by rw [show 1 - (1 - pl) = pl by omega]; exact hb)
    refine ⟨(nI pl, nI b, nI (i + 1), sI υ 66 (64 * (1 - pl) + i) (gI υ 66 (64 * (1 - pl) + i) + va T (1 - pl) i b)), ⟨_, rfl, fun j => ?_, e2.tr (sm_sI _ _ _ (fun w => w rfl))⟩, fun k => ?_⟩
    · rw [gI_sI]
      by_cases z : j = 64 * (1 - pl) + i
      · rw [if_pos ⟨rfl, z⟩, if_pos (by omega), e1, if_neg (by omega), z, show 64 * (1 - pl) + i - 64 * (1 - pl) = i by omega]
      · rw [if_neg (fun w => z w.2), e1]
        by_cases z2 : 64 * (1 - pl) ≤ j ∧ j < 64 * (1 - pl) + i
        · rw [if_pos z2, if_pos (by omega)]
        · rw [if_neg z2, if_neg (by omega)]
    · show b_Mo_take_17 k (nI pl) (nI b) (nI i) υ = _
      unfold b_Mo_take_17
      rw [ot_pl hpl, m_many hv (by omega), Option.bind_some, if_neg (nI_ge hi (by omega)), n64, ck_t (ok i (by omega)), hval, Option.bind_some, ck_t (ok i (by omega)), bnd_e, bnd_e, nI_c (by omega), nI_1]
  obtain ⟨x', k, ⟨υ, rfl, e1, e2⟩, e⟩ := lpF_in I (n (1 - pl)) (nI pl, nI b, 0, σ3) ⟨σ3, rfl, fun j => by rw [if_neg (by omega)], sm_rf _ _⟩ hs (by omega)
  refine ⟨υ, ?_, fun i => ?_, fun a ha => ?_, fun a ha => ?_, ?_⟩
  · unfold l_Mo_take_17
    refine e.trans ?_
    show b_Mo_take_17 k (nI pl) (nI b) (nI (n (1 - pl))) υ = _
    unfold b_Mo_take_17
    rw [ot_pl hpl, m_many (VM_s e2 (by decide) (by decide) (VM_s s3 (by decide) (by decide) h)) (by omega), Option.bind_some, if_pos (nI_le (Nat.le_refl _) (by omega))]
  · rw [e2.i (by decide), ← hσ3, gI_sI]
    by_cases z : i = 64 * pl + b
    · rw [if_pos ⟨rfl, z⟩, if_pos z, z]
    · rw [if_neg (fun w => z w.2), if_neg z]
  · rw [e1, if_pos (by omega), s3.i (by decide), show 64 * (1 - pl) + a - 64 * (1 - pl) = a by omega]
  · rw [e1, if_neg (by omega), s3.i (by decide)]
  · exact (s3.less (fun c hc => hc.1)).tr (e2.less (fun c hc => hc.2))
end MA
theorem m_rounds {σ : gS} {n : Nat → Nat} {T : Tb} (h : VM σ n T) (hn : nb n) {R : Nat} (hR : R ≤ 200) : ∃ τ, l_Mo_answerAll_10 (nI R, 0, σ) = some τ ∧ MP τ n T R ∧ sm (fun c => c ≠ 65 ∧ c ≠ 66) σ τ := by
  have n0 := nb_le hn (show 0 < 2 by decide)
  have n1 := nb_le hn (show 1 < 2 by decide)
  let I : Nat → (Int32 × Int32 × gS) → Prop := fun i x => ∃ υ : gS, x = (nI R, nI i, υ) ∧ (∀ j, j < i → gI υ 65 j = 0 ∧ gI υ 66 j = 0) ∧ sm (fun c => c ≠ 65 ∧ c ≠ 66) σ υ
  have hs : ∀ i, i < 128 → ∀ x, I i x → ∃ x', I (i + 1) x' ∧ ∀ k, b_Mo_answerAll_10 k x.1 x.2.1 x.2.2 = k x' := by
    rintro i hi x ⟨υ, rfl, e1, e2⟩
    refine ⟨(nI R, nI (i + 1), sI (sI υ 65 i 0) 66 i 0), ⟨_, rfl, fun j hj => ?_, (e2.tr (sm_sI _ _ _ (fun w => w.1 rfl))).tr (sm_sI _ _ _ (fun w => w.2 rfl))⟩, fun k => ?_⟩
    · rw [gI_cell _ _ _ _ (by decide), gI_sI, gI_sI]
      by_cases z : j = i
      · rw [if_pos ⟨rfl, z⟩, if_pos ⟨rfl, z⟩]
        exact ⟨rfl, rfl⟩
      · rw [if_neg (fun w => z w.2), if_neg (fun w => z w.2), gI_cell _ _ _ _ (by decide)]
        exact e1 j (by omega)
    · show b_Mo_answerAll_10 k (nI R) (nI i) υ = _
      unfold b_Mo_answerAll_10
      rw [if_neg (show ¬ (128 : Int32) ≤ nI i from nI_ge (b := 128) hi (by decide)), ck_t (okI_lt (k := 65) (n := i) (L := 128) rfl rfl hi (by decide)), bnd_e, ck_t (okI_lt (k := 66) (n := i) (L := 128) rfl rfl hi (by decide)), bnd_e, bnd_e, nI_c (by omega), nI_1]
  obtain ⟨x', k, ⟨υ0, rfl, u1, u2⟩, e⟩ := lpF_in I 128 (nI R, 0, σ) ⟨σ, rfl, fun j hj => absurd hj (Nat.not_lt_zero j), sm_rf _ _⟩ hs (by decide)
  let J : Nat → (Int32 × Int32 × gS) → Prop := fun r x => ∃ υ : gS, x = (nI R, nI r, υ) ∧ MP υ n T r ∧ sm (fun c => c ≠ 65 ∧ c ≠ 66) σ υ
  have hsJ : ∀ r, r < R → ∀ x, J r x → ∃ x', J (r + 1) x' ∧ ∀ k, b_Mo_answerAll_39 k x.1 x.2.1 x.2.2 = k x' := by
    rintro r hr x ⟨υ, rfl, e1, e2⟩
    have hv : VM υ n T := VM_s e2 (by decide) (by decide) h
    have bst : ∀ pl, pl < 2 → f_Mo_bestOf υ (nI pl) = some (nI (pik T n r pl)) := fun pl hpl => by
      rw [m_bestOf hv hn hpl]
      exact congrArg (fun z => some (nI z)) (amx_congr (fun j hj => (e1 pl hpl j hj).2))
    have p0 := pik_lt T hn r (show 0 < 2 by decide)
    have p1 := pik_lt T hn r (show 1 < 2 by decide)
    obtain ⟨υ4, g1, g2, g3, g4, g5⟩ := m_take hv hn (pl := 0) (by decide) p0
    have hv4 : VM υ4 n T := VM_s g5 (by decide) (by decide) hv
    obtain ⟨υ5, k1, k2, k3, k4, k5⟩ := m_take hv4 hn (pl := 1) (by decide) p1
    refine ⟨(nI R, nI (r + 1), υ5), ⟨υ5, rfl, fun pl hpl a ha => ?_, e2.tr (g5.tr k5)⟩, fun k => ?_⟩
    · obtain ⟨q1, q2⟩ := e1 pl hpl a ha
      have tk : nI (tkn T n pl a (r + 1)) = nI (tkn T n pl a r + (if pik T n r pl = a then 1 else 0)) := rfl
      rcases (show pl = 0 ∨ pl = 1 by omega) with rfl | rfl
      · refine ⟨?_, ?_⟩
        · rw [k2, if_neg (by omega), g2, q1, tk]
          by_cases z : pik T n r 0 = a
          · rw [if_pos (by omega), if_pos z, nI_1]
          · rw [if_neg (by omega), if_neg z]
            rfl
        · rw [show gI υ5 66 (64 * 0 + a) = _ from k3 a ha]
          show gI υ4 66 (64 * 0 + a) + _ = _
          rw [g4 a (by omega), q2]
          rfl
      · refine ⟨?_, ?_⟩
        · rw [k2, g2, if_neg (show ¬ 64 * 1 + a = 64 * 0 + pik T n r 0 by omega), q1, tk]
          by_cases z : pik T n r 1 = a
          · rw [if_pos (by omega), if_pos z, nI_1]
          · rw [if_neg (by omega), if_neg z]
            rfl
        · rw [k4 a (by omega), show gI υ4 66 (64 * 1 + a) = _ from g3 a ha]
          show gI υ 66 (64 * 1 + a) + _ = _
          rw [q2]
          rfl
    · show b_Mo_answerAll_39 k (nI R) (nI r) υ = _
      unfold b_Mo_answerAll_39
      rw [if_neg (nI_ge hr (by omega)), show f_Mo_bestOf υ 0 = _ from bst 0 (by decide), Option.bind_some, show f_Mo_bestOf υ 1 = _ from bst 1 (by decide), Option.bind_some, show f_Mo_take υ 0 (nI (pik T n r 0)) = some υ4 from g1, Option.bind_some, show f_Mo_take υ4 1 (nI (pik T n r 1)) = some υ5 from k1, Option.bind_some, bnd_e, nI_1]
  obtain ⟨x', k', ⟨υ, rfl, v1, v2⟩, e'⟩ := lpF_in J R (nI R, 0, υ0) ⟨υ0, rfl, fun pl hpl a ha => by
    have hb := nb_le hn hpl
    exact u1 _ (by omega), u2⟩ hsJ (by omega)
  refine ⟨υ, ?_, v1, v2⟩
  unfold l_Mo_answerAll_10
  refine e.trans ?_
  show b_Mo_answerAll_10 k (nI R) (nI 128) υ0 = _
  unfold b_Mo_answerAll_10
  rw [if_pos (show (128 : Int32) ≤ nI 128 from by decide)]
  unfold l_Mo_answerAll_39
  refine e'.trans ?_
  show b_Mo_answerAll_39 k' (nI R) (nI R) υ = _
  unfold b_Mo_answerAll_39
  rw [if_pos (nI_le (Nat.le_refl _) (by omega))]
