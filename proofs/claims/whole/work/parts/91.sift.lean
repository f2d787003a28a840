/-! points: the reference's sieve -/
theorem lpF_in5 {α ρ : Type} {body : (α → Option ρ) → α → Option ρ} (I : Nat → α → Prop) (T : Nat) (x : α) (h0 : I 0 x) (hs : ∀ i, i < T → ∀ x, I i x → ∃ x', I (i + 1) x' ∧ ∀ k, body k x = k x') (hT : T < 5000) : ∃ x' k, I T x' ∧ lpF body gF x = body k x' := lpF_inv I T hs T 0 gF x (by omega) hT h0
def ptA1 (T : Tb) (n : Nat → Nat) (p q : Nat) : Bool := decide (va T 1 q p = va T 1 (amx (fun a => va T 1 a p) (n 1)) p)
def ptA0 (T : Tb) (n : Nat → Nat) (p q : Nat) : Bool := decide (va T 0 p q = va T 0 (amx (fun a => va T 0 a q) (n 0)) q)
def ZB (σ : gS) (n : Nat → Nat) (W : Nat → Nat → Bool) : Prop := ∀ p q, p < n 0 → q < n 1 → gI σ 61 (64 * p + q) = bi (W p q)
theorem ok61 {p q : Nat} (hp : p < 64) (hq : q < 64) : okZ 61 (nI (64 * p + q)) = true := okZ_lt (k := 61) (n := 64 * p + q) (L := 4096) rfl rfl (by omega) (by decide)
theorem bef_n (p q : Nat) : bef p q p q = false := by
  unfold bef
  simp
theorem bef_t (p q : Nat) : bef p (q + 1) p q = true := by
  unfold bef
  simp
theorem m_sift2 {σ : gS} {n : Nat → Nat} {T : Tb} (h : VM σ n T) (hn : nb n) {P : Nat → Nat → Bool} (hP : ZB σ n P) : ∃ τ, l_Mo_sift_88 (0, σ) = some τ ∧ ZB τ n (fun p q => P p q && ptA0 T n p q) ∧ sm (fun c => c ≠ 61) σ τ := by
  obtain ⟨⟨m0, n0⟩, ⟨m1, n1⟩⟩ := hn
  have hn : nb n := ⟨⟨m0, n0⟩, ⟨m1, n1⟩⟩
  let A : Nat → Nat → gS → Prop := fun q p υ => ZB υ n (fun p' q' => P p' q' && (!bef q p q' p' || ptA0 T n p' q')) ∧ sm (fun c => c ≠ 61) σ υ
  let J : Nat → (Int32 × gS) → Prop := fun q x => ∃ υ : gS, x = (nI q, υ) ∧ A q 0 υ
  have hsJ : ∀ q, q < n 1 → ∀ x, J q x → ∃ x', J (q + 1) x' ∧ ∀ kk, b_Mo_sift_88 kk x.1 x.2 = kk x' := by
    rintro q hq x ⟨υ, rfl, hA⟩
    generalize hbest : va T 0 (amx (fun a => va T 0 a q) (n 0)) q = best
    let I : Nat → (Int32 × Int32 × Int32 × gS) → Prop := fun p x => ∃ υ : gS, x = (nI q, best, nI p, υ) ∧ A q p υ
    have hsI : ∀ p, p < n 0 → ∀ x, I p x → ∃ x', I (p + 1) x' ∧ ∀ k88 kk, b_Mo_sift_111 k88 kk x.1 x.2.1 x.2.2.1 x.2.2.2 = kk x' := by
      rintro p hp x ⟨υ, rfl, a1, a2⟩
      have hv : VM υ n T := VM_s a2 (by decide) (by decide) h
      have hbit : gI υ 61 (64 * p + q) = bi (P p q) := by
        rw [a1 p q hp hq]
        show bi (P p q && (!bef q p q p || ptA0 T n p q)) = _
        rw [bef_n, Bool.not_false, Bool.true_or, Bool.and_true]
      refine ⟨(nI q, best, nI (p + 1), sI υ 61 (64 * p + q) (bi (P p q && ptA0 T n p q))), ⟨_, rfl, fun p' q' hp' hq' => ?_, a2.tr (sm_sI _ _ _ (fun w => w rfl))⟩, fun k88 kk => ?_⟩
      · rw [gI_sI]
        by_cases y : p' = p ∧ q' = q
        · rw [y.1, y.2, if_pos ⟨rfl, rfl⟩]
          show _ = bi (P p q && (!bef q (p + 1) q p || ptA0 T n p q))
          rw [bef_t, Bool.not_true, Bool.false_or]
        · rw [if_neg (fun w => y ⟨by omega, by omega⟩), a1 p' q' hp' hq']
          show bi (P p' q' && (!bef q p q' p' || ptA0 T n p' q')) = bi (P p' q' && (!bef q (p + 1) q' p' || ptA0 T n p' q'))
          rw [bef_s (fun w => y ⟨w.2, w.1⟩)]
      · show b_Mo_sift_111 k88 kk (nI q) best (nI p) υ = _
        have e159 : ∀ b, b_Mo_sift_159 k88 kk (nI q) best (nI p) (nI (64 * p + q)) (bi b) υ = kk (nI q, best, nI (p + 1), sI υ 61 (64 * p + q) (bi b)) := fun b => by
          unfold b_Mo_sift_159
          rw [ck_t (ok61 (by omega) (by omega)), ck_t (bi_isB b), bnd_e, bnd_e, nI_c (n := 64 * p + q) (by omega), nI_1]
        have e158 : b_Mo_sift_158 k88 kk (nI q) best (nI p) (nI (64 * p + q)) υ = kk (nI q, best, nI (p + 1), sI υ 61 (64 * p + q) (bi false)) := e159 false
        unfold b_Mo_sift_111
        rw [hv.1, if_neg (nI_ge hp (by omega)), n64, ck_t (ok61 (by omega) (by omega)), nI_c (n := 64 * p + q) (by omega), hbit]
        by_cases u : P p q = true
        · rw [if_neg (bi_ne u), show f_Mo_worthTo υ 0 (nI p) (nI q) = _ from m_value hv hn (pl := 0) (by decide) hp hq, Option.bind_some, u, Bool.true_and]
          unfold ptA0
          rw [hbest]
          by_cases v : va T 0 p q = best
          · rw [if_pos v, decide_eq_true v]
            exact e159 true
          · rw [if_neg v, decide_eq_false v, e158]
        · have u' : P p q = false := by simpa using u
          rw [if_pos (bi_eq u), e158, u', Bool.false_and]
    obtain ⟨x', ⟨υ', rfl, a1, a2⟩, e⟩ := lpF_in2 (body := fun k88 kk (x : Int32 × Int32 × Int32 × gS) => b_Mo_sift_111 k88 kk x.1 x.2.1 x.2.2.1 x.2.2.2) I (n 0) (nI q, best, 0, υ) ⟨υ, rfl, hA⟩ hsI (by omega)
    have hv : VM υ n T := VM_s hA.2 (by decide) (by decide) h
    have hv' : VM υ' n T := VM_s a2 (by decide) (by decide) h
    refine ⟨(nI (q + 1), υ'), ⟨υ', rfl, fun p' q' hp' hq' => ?_, a2⟩, fun kk => ?_⟩
    · rw [a1 p' q' hp' hq']
      show bi (P p' q' && (!bef q (n 0) q' p' || ptA0 T n p' q')) = bi (P p' q' && (!bef (q + 1) 0 q' p' || ptA0 T n p' q'))
      rw [show bef q (n 0) q' p' = bef (q + 1) 0 q' p' from by
        unfold bef
        refine b_of ?_
        simp only [Bool.or_eq_true, Bool.and_eq_true, decide_eq_true_eq]
        omega]
    · show b_Mo_sift_88 kk (nI q) υ = _
      unfold b_Mo_sift_88
      rw [hv.2.1, if_neg (nI_ge hq (by omega)), show f_Mo_answerOf υ 0 (nI q) = _ from m_best hv hn (pl := 0) (by decide) hq, Option.bind_some, show f_Mo_worthTo υ 0 (nI (amx (fun a => va T 0 a q) (n 0))) (nI q) = _ from m_value hv hn (pl := 0) (by decide) (amx_lt _ m0) hq, Option.bind_some, hbest]
      obtain ⟨kk', ek⟩ := e kk
      unfold l_Mo_sift_111
      refine ek.trans ?_
      show b_Mo_sift_111 kk kk' (nI q) best (nI (n 0)) υ' = _
      unfold b_Mo_sift_111
      rw [hv'.1, if_pos (nI_le (Nat.le_refl _) (by omega)), bnd_e, nI_1]
  obtain ⟨x', kk, ⟨τ, rfl, t1, t2⟩, e⟩ := lpF_in J (n 1) (0, σ) ⟨σ, rfl, fun p' q' hp' hq' => by
    rw [hP p' q' hp' hq']
    unfold bef
    simp, sm_rf _ _⟩ hsJ (by omega)
  have hv : VM τ n T := VM_s t2 (by decide) (by decide) h
  refine ⟨τ, ?_, fun p q hp hq => ?_, t2⟩
  · unfold l_Mo_sift_88
    refine e.trans ?_
    show b_Mo_sift_88 kk (nI (n 1)) τ = _
    unfold b_Mo_sift_88
    rw [hv.2.1, if_pos (nI_le (Nat.le_refl _) (by omega))]
  · rw [t1 p q hp hq]
    show bi (P p q && (!bef (n 1) 0 q p || ptA0 T n p q)) = _
    rw [show bef (n 1) 0 q p = true from by unfold bef; rw [decide_eq_true hq]; rfl]
    rfl
theorem m_sift {σ : gS} {n : Nat → Nat} {T : Tb} (h : VM σ n T) (hn : nb n) {P : Nat → Nat → Bool} (hP : ZB σ n P) : ∃ τ, f_Mo_sift σ = some τ ∧ ZB τ n (fun p q => P p q && ptB T n p q) ∧ sm (fun c => c ≠ 61) σ τ := by
  obtain ⟨⟨m0, n0⟩, ⟨m1, n1⟩⟩ := hn
  have hn : nb n := ⟨⟨m0, n0⟩, ⟨m1, n1⟩⟩
  let A : Nat → Nat → gS → Prop := fun p q υ => ZB υ n (fun p' q' => P p' q' && (!bef p q p' q' || ptA1 T n p' q')) ∧ sm (fun c => c ≠ 61) σ υ
  let J : Nat → (Int32 × gS) → Prop := fun p x => ∃ υ : gS, x = (nI p, υ) ∧ A p 0 υ
  have hsJ : ∀ p, p < n 0 → ∀ x, J p x → ∃ x', J (p + 1) x' ∧ ∀ kk, b_Mo_sift_2 kk x.1 x.2 = kk x' := by
    rintro p hp x ⟨υ, rfl, hA⟩
    generalize hbest : va T 1 (amx (fun a => va T 1 a p) (n 1)) p = best
    let I : Nat → (Int32 × Int32 × Int32 × gS) → Prop := fun q x => ∃ υ : gS, x = (nI p, best, nI q, υ) ∧ A p q υ
    have hsI : ∀ q, q < n 1 → ∀ x, I q x → ∃ x', I (q + 1) x' ∧ ∀ k2 kk, b_Mo_sift_25 k2 kk x.1 x.2.1 x.2.2.1 x.2.2.2 = kk x' := by
      rintro q hq x ⟨υ, rfl, a1, a2⟩
      have hv : VM υ n T := VM_s a2 (by decide) (by decide) h
      have hbit : gI υ 61 (64 * p + q) = bi (P p q) := by
        rw [a1 p q hp hq]
        show bi (P p q && (!bef p q p q || ptA1 T n p q)) = _
        rw [bef_n, Bool.not_false, Bool.true_or, Bool.and_true]
      refine ⟨(nI p, best, nI (q + 1), sI υ 61 (64 * p + q) (bi (P p q && ptA1 T n p q))), ⟨_, rfl, fun p' q' hp' hq' => ?_, a2.tr (sm_sI _ _ _ (fun w => w rfl))⟩, fun k2 kk => ?_⟩
      · rw [gI_sI]
        by_cases y : p' = p ∧ q' = q
        · rw [y.1, y.2, if_pos ⟨rfl, rfl⟩]
          show _ = bi (P p q && (!bef p (q + 1) p q || ptA1 T n p q))
          rw [bef_t, Bool.not_true, Bool.false_or]
        · rw [if_neg (fun w => y ⟨by omega, by omega⟩), a1 p' q' hp' hq']
          show bi (P p' q' && (!bef p q p' q' || ptA1 T n p' q')) = bi (P p' q' && (!bef p (q + 1) p' q' || ptA1 T n p' q'))
          rw [bef_s y]
      · show b_Mo_sift_25 k2 kk (nI p) best (nI q) υ = _
        have e73 : ∀ b, b_Mo_sift_73 k2 kk (nI p) best (nI q) (nI (64 * p + q)) (bi b) υ = kk (nI p, best, nI (q + 1), sI υ 61 (64 * p + q) (bi b)) := fun b => by
          unfold b_Mo_sift_73
          rw [ck_t (ok61 (by omega) (by omega)), ck_t (bi_isB b), bnd_e, bnd_e, nI_c (n := 64 * p + q) (by omega), nI_1]
        have e72 : b_Mo_sift_72 k2 kk (nI p) best (nI q) (nI (64 * p + q)) υ = kk (nI p, best, nI (q + 1), sI υ 61 (64 * p + q) (bi false)) := e73 false
        unfold b_Mo_sift_25
        rw [hv.2.1, if_neg (nI_ge hq (by omega)), n64, ck_t (ok61 (by omega) (by omega)), nI_c (n := 64 * p + q) (by omega), hbit]
        by_cases u : P p q = true
        · rw [if_neg (bi_ne u), show f_Mo_worthTo υ 1 (nI q) (nI p) = _ from m_value hv hn (pl := 1) (by decide) hq hp, Option.bind_some, u, Bool.true_and]
          unfold ptA1
          rw [hbest]
          by_cases v : va T 1 q p = best
          · rw [if_pos v, decide_eq_true v]
            exact e73 true
          · rw [if_neg v, decide_eq_false v, e72]
        · have u' : P p q = false := by simpa using u
          rw [if_pos (bi_eq u), e72, u', Bool.false_and]
    obtain ⟨x', ⟨υ', rfl, a1, a2⟩, e⟩ := lpF_in2 (body := fun k2 kk (x : Int32 × Int32 × Int32 × gS) => b_Mo_sift_25 k2 kk x.1 x.2.1 x.2.2.1 x.2.2.2) I (n 1) (nI p, best, 0, υ) ⟨υ, rfl, hA⟩ hsI (by omega)
    have hv : VM υ n T := VM_s hA.2 (by decide) (by decide) h
    have hv' : VM υ' n T := VM_s a2 (by decide) (by decide) h
    refine ⟨(nI (p + 1), υ'), ⟨υ', rfl, fun p' q' hp' hq' => ?_, a2⟩, fun kk => ?_⟩
    · rw [a1 p' q' hp' hq']
      show bi (P p' q' && (!bef p (n 1) p' q' || ptA1 T n p' q')) = bi (P p' q' && (!bef (p + 1) 0 p' q' || ptA1 T n p' q'))
      rw [show bef p (n 1) p' q' = bef (p + 1) 0 p' q' from by
        unfold bef
        refine b_of ?_
        simp only [Bool.or_eq_true, Bool.and_eq_true, decide_eq_true_eq]
        omega]
    · show b_Mo_sift_2 kk (nI p) υ = _
      unfold b_Mo_sift_2
      rw [hv.1, if_neg (nI_ge hp (by omega)), show f_Mo_answerOf υ 1 (nI p) = _ from m_best hv hn (pl := 1) (by decide) hp, Option.bind_some, show f_Mo_worthTo υ 1 (nI (amx (fun a => va T 1 a p) (n 1))) (nI p) = _ from m_value hv hn (pl := 1) (by decide) (amx_lt _ m1) hp, Option.bind_some, hbest]
      obtain ⟨kk', ek⟩ := e kk
      unfold l_Mo_sift_25
      refine ek.trans ?_
      show b_Mo_sift_25 kk kk' (nI p) best (nI (n 1)) υ' = _
      unfold b_Mo_sift_25
      rw [hv'.2.1, if_pos (nI_le (Nat.le_refl _) (by omega)), bnd_e, nI_1]
  obtain ⟨x', kk, ⟨τ, rfl, t1, t2⟩, e⟩ := lpF_in J (n 0) (0, σ) ⟨σ, rfl, fun p' q' hp' hq' => by
    rw [hP p' q' hp' hq']
    unfold bef
    simp, sm_rf _ _⟩ hsJ (by omega)
  have hv : VM τ n T := VM_s t2 (by decide) (by decide) h
  have hZ : ZB τ n (fun p q => P p q && ptA1 T n p q) := fun p q hp hq => by
    rw [t1 p q hp hq]
    show bi (P p q && (!bef (n 0) 0 p q || ptA1 T n p q)) = _
    rw [show bef (n 0) 0 p q = true from by unfold bef; rw [decide_eq_true hp]; rfl]
    rfl
  obtain ⟨υ, g1, g2, g3⟩ := m_sift2 hv hn hZ
  refine ⟨υ, ?_, fun p q hp hq => ?_, t2.tr g3⟩
  · unfold f_Mo_sift b_Mo_sift_0 l_Mo_sift_2
    refine e.trans ?_
    show b_Mo_sift_2 kk (nI (n 0)) τ = _
    unfold b_Mo_sift_2
    rw [hv.1, if_pos (nI_le (Nat.le_refl _) (by omega)), g1]
  · rw [g2 p q hp hq]
    show bi (P p q && ptA1 T n p q && ptA0 T n p q) = bi (P p q && (ptA1 T n p q && ptA0 T n p q))
    rw [Bool.and_assoc]
