/-! the reference: a round to its end, and all rounds -/
theorem gpl_at {T : Tb} {n : Nat → Nat} {r pl a : Nat} (ha : a < n pl) (h64 : a < 64) : gpl T n r (64 * pl + a) = gob T n r pl a := by
  unfold gpl
  rw [show (64 * pl + a) / 64 = pl by omega, show (64 * pl + a) % 64 = a by omega, decide_eq_true ha, Bool.true_and]
theorem gpl_any {T : Tb} {n : Nat → Nat} (hn : nb n) {r : Nat} : anyB (gpl T n r) 128 = true ↔ ¬ stp T n r := by
  rw [anyB_iff]
  constructor
  · rintro ⟨i, hi, q⟩ hst
    unfold gpl at q
    rw [Bool.and_eq_true, decide_eq_true_eq] at q
    rw [hst (i / 64) (by omega) (i % 64) q.1] at q
    exact absurd q.2 (by decide)
  · intro h
    by_cases h2 : ∃ pl, pl < 2 ∧ ∃ a, a < n pl ∧ gob T n r pl a = true
    · obtain ⟨pl, hpl, a, ha, q⟩ := h2
      have hb := nb_le hn hpl
      exact ⟨64 * pl + a, by omega, by rw [gpl_at ha (by omega)]; exact q⟩
    · refine absurd (fun pl hpl a ha => ?_) h
      cases e : gob T n r pl a with
      | false => rfl
      | true => exact absurd ⟨pl, hpl, a, ha, e⟩ h2
/-- the second half of a round: they go -/
theorem m_away {σ : gS} {n : Nat → Nat} {T : Tb} (hn : nb n) {r : Nat} (hp : MLP σ n T r) (hg : ∀ i, i < 128 → gI σ 64 i = bi (gpl T n r i)) (x1 : Int32) : ∃ τ, MLP τ n T (r + 1) ∧ sm (fun c => c ≠ 62 ∧ c ≠ 63) σ τ ∧ ∀ k16, l_Mo_doRounds_108 k16 (x1, nI (r + 1), 0, σ) = k16 (x1, nI (r + 1 + 1), τ) := by
  let I : Nat → (Int32 × Int32 × Int32 × gS) → Prop := fun i x => ∃ υ : gS, x = (x1, nI (r + 1), nI i, υ) ∧ (∀ j, gI υ 62 j = if j < i then (if gI σ 62 j = 0 then 0 else bi (!gpl T n r j)) else gI σ 62 j) ∧ (∀ j, gI υ 63 j = if j < i then (if gpl T n r j = true then nI (r + 1) else gI σ 63 j) else gI σ 63 j) ∧ sm (fun c => c ≠ 62 ∧ c ≠ 63) σ υ
  have hs : ∀ i, i < 128 → ∀ x, I i x → ∃ x', I (i + 1) x' ∧ ∀ k16 k, b_Mo_doRounds_108 k16 k x.1 x.2.1 x.2.2.1 x.2.2.2 = k x' := by
    rintro i hi x ⟨υ, rfl, e1, e2, e3⟩
    have o62 := okZ_lt (k := 62) (n := i) (L := 128) rfl rfl hi (by decide)
    have o63 := okI_lt (k := 63) (n := i) (L := 128) rfl rfl hi (by decide)
    have o64 := okZ_lt (k := 64) (n := i) (L := 128) rfl rfl hi (by decide)
    have ci := nI_c (n := i) (by omega)
    have h64 : gI υ 64 i = bi (gpl T n r i) := by rw [e3.i (by decide), hg i hi]
    have h62 : gI υ 62 i = gI σ 62 i := by rw [e1, if_neg (by omega)]
    have h63 : gI υ 63 i = gI σ 63 i := by rw [e2, if_neg (by omega)]
    have fin : ∀ k16 k (y : Bool), bi y = (if gI σ 62 i = 0 then 0 else bi (!gpl T n r i)) → b_Mo_doRounds_143 k16 k x1 (nI (r + 1)) (nI i) (nI i) (bi y) υ = k (x1, nI (r + 1), nI (i + 1), sI (sI υ 62 i (if gI σ 62 i = 0 then 0 else bi (!gpl T n r i))) 63 i (if gpl T n r i = true then nI (r + 1) else gI σ 63 i)) := fun k16 k y hy => by
      unfold b_Mo_doRounds_143 b_Mo_doRounds_168
      rw [ck_t o62, ck_t (isB_bi _), bnd_e, ck_t o64, ci, gI_cell _ _ _ _ (by decide), h64, ck_t o63, ck_t o63, ck_t o63, gI_cell _ _ _ _ (by decide), h63, hy, bnd_e, bnd_e, bnd_e, nI_1]
      by_cases z : gpl T n r i = true
      · rw [if_neg (bi_ne z), if_pos z]
        rfl
      · rw [if_pos (bi_eq z), if_neg z]
    refine ⟨(x1, nI (r + 1), nI (i + 1), sI (sI υ 62 i (if gI σ 62 i = 0 then 0 else bi (!gpl T n r i))) 63 i (if gpl T n r i = true then nI (r + 1) else gI σ 63 i)), ⟨_, rfl, fun j => ?_, fun j => ?_, (e3.tr (sm_sI _ _ _ (fun w => w.1 rfl))).tr (sm_sI _ _ _ (fun w => w.2 rfl))⟩, fun k16 k => ?_⟩
    · rw [gI_cell _ _ _ _ (by decide), gI_sI]
      by_cases z : j = i
      · rw [if_pos ⟨rfl, z⟩, if_pos (show j < i + 1 by omega), z]
      · rw [if_neg (fun w => z w.2), e1]
        by_cases z2 : j < i
        · rw [if_pos z2, if_pos (show j < i + 1 by omega)]
        · rw [if_neg z2, if_neg (show ¬ j < i + 1 by omega)]
    · rw [gI_sI]
      by_cases z : j = i
      · rw [if_pos ⟨rfl, z⟩, if_pos (show j < i + 1 by omega), z]
      · rw [if_neg (fun w => z w.2), gI_cell _ _ _ _ (by decide), e2]
        by_cases z2 : j < i
        · rw [if_pos z2, if_pos (show j < i + 1 by omega)]
        · rw [if_neg z2, if_neg (show ¬ j < i + 1 by omega)]
    · show b_Mo_doRounds_108 k16 k x1 (nI (r + 1)) (nI i) υ = _
      unfold b_Mo_doRounds_108 b_Mo_doRounds_142
      rw [if_neg (show ¬ (128 : Int32) ≤ nI i from nI_ge (b := 128) hi (by decide)), ck_t o62, ci, h62, ck_t o64, h64]
      by_cases z : gI σ 62 i = 0
      · rw [if_pos z]
        exact fin k16 k false (by rw [if_pos z]; rfl)
      · rw [if_neg z]
        by_cases z2 : gpl T n r i = true
        · rw [if_neg (bi_ne z2)]
          exact fin k16 k false (by rw [if_neg z, z2]; rfl)
        · have z2' : gpl T n r i = false := by simpa using z2
          rw [if_pos (bi_eq z2)]
          exact fin k16 k true (by rw [if_neg z, z2']; rfl)
  obtain ⟨x', ⟨υ, rfl, e1, e2, e3⟩, e⟩ := lpF_in2 (body := fun k16 k x => b_Mo_doRounds_108 k16 k x.1 x.2.1 x.2.2.1 x.2.2.2) I 128 (x1, nI (r + 1), 0, σ) ⟨σ, rfl, fun j => by rw [if_neg (Nat.not_lt_zero j)], fun j => by rw [if_neg (Nat.not_lt_zero j)], sm_rf _ _⟩ hs (by decide)
  refine ⟨υ, fun pl hpl a ha => ?_, e3, fun k16 => ?_⟩
  · have hb := nb_le hn hpl
    obtain ⟨q1, q2⟩ := hp pl hpl a ha
    refine ⟨?_, ?_⟩
    · rw [e1, if_pos (by omega), q1, gpl_at ha (by omega), lf_s]
      cases lf T n r pl a <;> cases gob T n r pl a <;> rfl
    · rw [e2, if_pos (by omega), q2, gpl_at ha (by omega)]
      rfl
  · obtain ⟨k, ek⟩ := e k16
    have fin2 : b_Mo_doRounds_108 k16 k x1 (nI (r + 1)) (nI 128) υ = k16 (x1, nI (r + 1 + 1), υ) := by
      unfold b_Mo_doRounds_108
      rw [if_pos (show (128 : Int32) ≤ nI 128 from by decide), bnd_e, nI_1]
    unfold l_Mo_doRounds_108
    exact ek.trans fin2
