/-! the reference: the rounds are played -/
theorem lp_any2 {α : Type} {body : (α → Option Int32) → α → Option Int32} (st fl : Nat → α) (n : Nat) (f : Nat → Bool) (hs : ∀ i, i < n → f i = false → ∀ k, body k (st i) = k (st (i + 1))) (hf : ∀ i, i < n → f i = true → ∀ k, body k (st i) = k (fl (i + 1))) (hz : ∀ i, i < n → ∀ k, body k (fl (i + 1)) = some 1) (he : ∀ k, body k (st n) = some 0) (hn : n < 999) : lpF body gF (st 0) = some (bi (anyB f n)) := by
  rcases fst_or f n with h | ⟨i, h1, h2, h3⟩
  · have e : anyB f n = false := by
      cases e : anyB f n with
      | false => rfl
      | true =>
        obtain ⟨j, hj, q⟩ := (anyB_iff f n).mp e
        rw [h j hj] at q
        exact absurd q (by decide)
    rw [e]
    exact lpF_go st n (fun i hi k => hs i hi (h i hi) k) he (by omega)
  · rw [(anyB_iff f n).mpr ⟨i, h1, h2⟩]
    have e0 : st 0 = (fun j => if j ≤ i then st j else fl j) 0 := by
      show _ = (if 0 ≤ i then st 0 else fl 0)
      rw [if_pos (Nat.zero_le _)]
    rw [e0]
    refine lpF_go (fun j => if j ≤ i then st j else fl j) (i + 1) (fun j hj k => ?_) (fun k => ?_) (by omega)
    · show body k (if j ≤ i then st j else fl j) = k (if j + 1 ≤ i then st (j + 1) else fl (j + 1))
      rw [if_pos (by omega)]
      by_cases z : j = i
      · rw [if_neg (by omega), z]
        exact hf i h1 h2 k
      · rw [if_pos (by omega)]
        exact hs j (by omega) (h3 j (by omega)) k
    · show body k (if i + 1 ≤ i then st (i + 1) else fl (i + 1)) = _
      rw [if_neg (by omega)]
      exact hz i h1 k
/-- the reference's rows behind r rounds -/
def MLP (σ : gS) (n : Nat → Nat) (T : Tb) (r : Nat) : Prop := ∀ pl, pl < 2 → ∀ a, a < n pl → gI σ 62 (64 * pl + a) = bi (lf T n r pl a) ∧ gI σ 63 (64 * pl + a) = gn T n r pl a
section ML
variable {σ : gS} {n : Nat → Nat} {T : Tb}
theorem m_worst (h : VM σ n T) (hn : nb n) {r : Nat} (hp : ∀ pl, pl < 2 → ∀ a, a < n pl → gI σ 62 (64 * pl + a) = bi (lf T n r pl a)) {pl a : Nat} (hpl : pl < 2) (ha : a < n pl) : f_Mo_isWorst σ (nI pl) (nI a) = some (bi (anyB (fun c => lf T n r pl c && wrB T n (lf T n r (1 - pl)) pl a c) (n pl))) := by
  have hl := nb_le hn hpl
  have hl2 := nb_le hn (show 1 - pl < 2 by omega)
  unfold f_Mo_isWorst b_Mo_isWorst_0 l_Mo_isWorst_5
  have pre : ∀ i, i < n pl → ∀ k, b_Mo_isWorst_5 σ k (nI pl) (nI a) 0 (nI i) = if (lf T n r pl i && wrB T n (lf T n r (1 - pl)) pl a i) = true then k (nI pl, nI a, 1, nI (i + 1)) else k (nI pl, nI a, 0, nI (i + 1)) := fun i hi k => by
    unfold b_Mo_isWorst_5
    rw [m_many h hpl, Option.bind_some, if_neg (nI_ge hi (by omega)), if_pos rfl, m_left hpl (by omega) (hp pl hpl i hi), Option.bind_some, m_worse (O := lf T n r (1 - pl)) h hn hpl (fun b hb => hp (1 - pl) (by omega) b hb) ha hi, Option.bind_some]
    by_cases z : lf T n r pl i = true
    · rw [if_neg (bi_ne z), z, Bool.true_and]
      by_cases z2 : wrB T n (lf T n r (1 - pl)) pl a i = true
      · rw [if_neg (bi_ne z2), if_pos z2]
        unfold b_Mo_isWorst_45
        rw [bnd_e, nI_1]
      · rw [if_pos (bi_eq z2), if_neg z2]
        unfold b_Mo_isWorst_44 b_Mo_isWorst_45
        rw [bnd_e, nI_1]
    · have z' : lf T n r pl i = false := by simpa using z
      rw [if_pos (bi_eq z), z', Bool.false_and, if_neg (by decide)]
      unfold b_Mo_isWorst_44 b_Mo_isWorst_45
      rw [bnd_e, nI_1]
  refine lp_any2 (fun i => (nI pl, nI a, 0, nI i)) (fun i => (nI pl, nI a, 1, nI i)) (n pl) _ (fun i hi hf k => ?_) (fun i hi hf k => ?_) (fun i hi k => ?_) (fun k => ?_) (by omega)
  · exact (pre i hi k).trans (if_neg (by rw [hf]; decide))
  · exact (pre i hi k).trans (if_pos hf)
  · show b_Mo_isWorst_5 σ k (nI pl) (nI a) 1 (nI (i + 1)) = _
    unfold b_Mo_isWorst_5
    rw [m_many h hpl, Option.bind_some, if_neg (show ¬ (1 : Int32) = 0 by decide), ite_self]
    rfl
  · show b_Mo_isWorst_5 σ k (nI pl) (nI a) 0 (nI (n pl)) = _
    unfold b_Mo_isWorst_5
    rw [m_many h hpl, Option.bind_some, if_pos (nI_le (Nat.le_refl _) (by omega))]
    rfl
theorem m_leftOf (h : VM σ n T) (hn : nb n) {r : Nat} (hp : ∀ pl, pl < 2 → ∀ a, a < n pl → gI σ 62 (64 * pl + a) = bi (lf T n r pl a)) {pl : Nat} (hpl : pl < 2) : f_Mo_leftOf σ (nI pl) = some (nI (cntB (lf T n r pl) (n pl))) := by
  have hl := nb_le hn hpl
  unfold f_Mo_leftOf b_Mo_leftOf_0 l_Mo_leftOf_4
  refine lpF_go (fun i => (nI pl, nI (cntB (lf T n r pl) i), nI i)) (n pl) (fun i hi k => ?_) (fun k => ?_) (by omega)
  · show b_Mo_leftOf_4 σ k (nI pl) (nI (cntB (lf T n r pl) i)) (nI i) = k (nI pl, nI (cntB (lf T n r pl) i + (if lf T n r pl i = true then 1 else 0)), nI (i + 1))
    unfold b_Mo_leftOf_4
    rw [m_many h hpl, Option.bind_some, if_neg (nI_ge hi (by omega)), m_left hpl (by omega) (hp pl hpl i hi), Option.bind_some]
    by_cases z : lf T n r pl i = true
    · rw [if_neg (bi_ne z), if_pos z]
      unfold b_Mo_leftOf_29
      rw [bnd_e, nI_1, nI_1]
    · rw [if_pos (bi_eq z), if_neg z]
      unfold b_Mo_leftOf_29
      rw [bnd_e, nI_1]
      rfl
  · show b_Mo_leftOf_4 σ k (nI pl) (nI (cntB (lf T n r pl) (n pl))) (nI (n pl)) = _
    unfold b_Mo_leftOf_4
    rw [m_many h hpl, Option.bind_some, if_pos (nI_le (Nat.le_refl _) (by omega))]
end ML
/-- who goes, by place -/
def gpl (T : Tb) (n : Nat → Nat) (r i : Nat) : Bool := decide (i % 64 < n (i / 64)) && gob T n r (i / 64) (i % 64)
/-- the first half of a round: who goes is marked -/
theorem m_mark {σ : gS} {n : Nat → Nat} {T : Tb} (h : VM σ n T) (hn : nb n) {r : Nat} (hr : r ≤ 128) (hp : MLP σ n T r) : ∃ τ, (∀ i, i < 128 → gI τ 64 i = bi (gpl T n r i)) ∧ sm (fun c => c ≠ 64) σ τ ∧ ∀ k16, l_Mo_doRounds_24 k16 (0, nI (r + 1), 0, σ) = l_Mo_doRounds_108 k16 (bi (anyB (gpl T n r) 128), nI (r + 1), 0, τ) := by
  let I : Nat → (Int32 × Int32 × Int32 × gS) → Prop := fun i x => ∃ υ : gS, x = (bi (anyB (gpl T n r) i), nI (r + 1), nI i, υ) ∧ (∀ j, j < i → gI υ 64 j = bi (gpl T n r j)) ∧ sm (fun c => c ≠ 64) σ υ
  have hs : ∀ i, i < 128 → ∀ x, I i x → ∃ x', I (i + 1) x' ∧ ∀ k16 k, b_Mo_doRounds_24 k16 k x.1 x.2.1 x.2.2.1 x.2.2.2 = k x' := by
    rintro i hi x ⟨υ, rfl, e1, e2⟩
    have hv : VM υ n T := VM_s e2 (by decide) (by decide) h
    have hpl : i / 64 < 2 := by omega
    have hb := nb_le hn hpl
    have h62 : ∀ pl, pl < 2 → ∀ a, a < n pl → gI υ 62 (64 * pl + a) = bi (lf T n r pl a) := fun pl hpl a ha => by rw [e2.i (by decide), (hp pl hpl a ha).1]
    have o64 := okZ_lt (k := 64) (n := i) (L := 128) rfl rfl hi (by decide)
    have edm : 64 * (i / 64) + i % 64 = i := by omega
    have eanyB : anyB (gpl T n r) (i + 1) = (anyB (gpl T n r) i || gpl T n r i) := rfl
    have fin : ∀ k16 k (g : Bool), g = gpl T n r i → b_Mo_doRounds_80 k16 k (bi (anyB (gpl T n r) i)) (nI (r + 1)) (nI i) (nI i) (bi g) υ = k (bi (anyB (gpl T n r) (i + 1)), nI (r + 1), nI (i + 1), sI υ 64 i (bi (gpl T n r i))) := fun k16 k g hg => by
      unfold b_Mo_doRounds_80
      rw [ck_t o64, ck_t (isB_bi _), bnd_e, nI_c (by omega), eanyB, ← hg, gI_same]
      by_cases z : anyB (gpl T n r) i = true
      · rw [if_neg (bi_ne z), z, Bool.true_or]
        unfold b_Mo_doRounds_94 b_Mo_doRounds_99
        rw [bnd_e, nI_1]
        rfl
      · have z' : anyB (gpl T n r) i = false := by simpa using z
        rw [if_pos (bi_eq z), z', Bool.false_or, ck_t o64]
        cases g
        · rw [if_pos (show bi false = 0 from rfl)]
          unfold b_Mo_doRounds_99
          rw [bnd_e, nI_1]
          rfl
        · rw [if_neg (show ¬ bi true = 0 by decide)]
          unfold b_Mo_doRounds_94 b_Mo_doRounds_99
          rw [bnd_e, nI_1]
          rfl
    refine ⟨(bi (anyB (gpl T n r) (i + 1)), nI (r + 1), nI (i + 1), sI υ 64 i (bi (gpl T n r i))), ⟨_, rfl, fun j hj => ?_, e2.tr (sm_sI _ _ _ (fun w => w rfl))⟩, fun k16 k => ?_⟩
    · rw [gI_sI]
      by_cases z : j = i
      · rw [if_pos ⟨rfl, z⟩, z]
      · rw [if_neg (fun w => z w.2), e1 j (by omega)]
    · show b_Mo_doRounds_24 k16 k (bi (anyB (gpl T n r) i)) (nI (r + 1)) (nI i) υ = _
      unfold b_Mo_doRounds_24 b_Mo_doRounds_79
      rw [if_neg (show ¬ (128 : Int32) ≤ nI i from nI_ge (b := 128) hi (by decide)), ck_t (show nz 64 = true from rfl), ck_t (show nz 64 = true from rfl), show (64 : Int32) = nI 64 from rfl, pk_rem (by omega) (by decide) (by decide), pk_div (by omega) (by decide) (by decide), m_many hv hpl, Option.bind_some]
      by_cases z : i % 64 < n (i / 64)
      · rw [if_neg (nI_ge z (by omega)), ck_t (okZ_lt (k := 62) (n := i) (L := 128) rfl rfl hi (by decide)), nI_c (by omega)]
        have e62 := h62 (i / 64) hpl (i % 64) z
        rw [edm] at e62
        rw [e62]
        by_cases z2 : lf T n r (i / 64) (i % 64) = true
        · rw [if_neg (bi_ne z2), ck_t (show nz (nI 64) = true from rfl), ck_t (show nz (nI 64) = true from rfl), m_worst hv hn h62 hpl z, Option.bind_some]
          by_cases z3 : anyB (fun c => lf T n r (i / 64) c && wrB T n (lf T n r (1 - i / 64)) (i / 64) (i % 64) c) (n (i / 64)) = true
          · rw [if_neg (bi_ne z3)]
            refine fin k16 k true ?_
            unfold gpl gob
            rw [decide_eq_true z, z2, z3]
            rfl
          · have z3' : anyB (fun c => lf T n r (i / 64) c && wrB T n (lf T n r (1 - i / 64)) (i / 64) (i % 64) c) (n (i / 64)) = false := by simpa using z3
            rw [if_pos (bi_eq z3)]
            refine fin k16 k false ?_
            unfold gpl gob
            rw [z3', Bool.and_false, Bool.and_false]
        · have z2' : lf T n r (i / 64) (i % 64) = false := by simpa using z2
          rw [if_pos (bi_eq z2)]
          refine fin k16 k false ?_
          unfold gpl gob
          rw [z2', Bool.false_and, Bool.and_false]
      · rw [if_pos (nI_le (by omega) (by omega))]
        refine fin k16 k false ?_
        unfold gpl
        rw [decide_eq_false z, Bool.false_and]
  obtain ⟨x', ⟨υ, rfl, e1, e2⟩, e⟩ := lpF_in2 (body := fun k16 k x => b_Mo_doRounds_24 k16 k x.1 x.2.1 x.2.2.1 x.2.2.2) I 128 (0, nI (r + 1), 0, σ) ⟨σ, rfl, fun j hj => absurd hj (Nat.not_lt_zero j), sm_rf _ _⟩ hs (by decide)
  refine ⟨υ, e1, e2, fun k16 => ?_⟩
  obtain ⟨k, ek⟩ := e k16
  have fin2 : ∀ A : Int32, b_Mo_doRounds_24 k16 k A (nI (r + 1)) (nI 128) υ = l_Mo_doRounds_108 k16 (A, nI (r + 1), 0, υ) := fun A => by
    unfold b_Mo_doRounds_24
    rw [if_pos (show (128 : Int32) ≤ nI 128 from by decide)]
  generalize anyB (gpl T n r) 128 = A at ek ⊢
  unfold l_Mo_doRounds_24
  exact ek.trans (fin2 (bi A))
