/-! than: both sides -/
theorem VM_s {σ τ : gS} {n : Nat → Nat} {T : Tb} {P : Nat → Prop} (hs : sm P σ τ) (h46 : P 46) (h59 : P 59) (h : VM σ n T) : VM τ n T := ⟨by rw [hs.i h46, h.1], by rw [hs.i h46, h.2.1], fun p q hp hq => by rw [hs.i h59, hs.i h59]; exact h.2.2 p q hp hq⟩
theorem m_allLeft (σ : gS) : ∃ τ, f_Mo_allLeft σ = some τ ∧ (∀ i, i < 128 → gI τ 62 i = 1) ∧ (∀ i, i < 128 → gI τ 63 i = -1) ∧ sm (fun c => c ≠ 62 ∧ c ≠ 63) σ τ := by
  let I : Nat → (Int32 × gS) → Prop := fun i x => ∃ υ : gS, x = (nI i, υ) ∧ (∀ j, j < i → gI υ 62 j = 1) ∧ (∀ j, j < i → gI υ 63 j = -1) ∧ sm (fun c => c ≠ 62 ∧ c ≠ 63) σ υ
  have hs : ∀ i, i < 128 → ∀ x, I i x → ∃ x', I (i + 1) x' ∧ ∀ k, b_Mo_allLeft_2 k x.1 x.2 = k x' := by
    rintro i hi x ⟨υ, rfl, e1, e2, e3⟩
    refine ⟨(nI (i + 1), sI (sI υ 62 i 1) 63 i (-1)), ⟨_, rfl, fun j hj => ?_, fun j hj => ?_, (e3.tr (sm_sI _ _ _ (fun w => w.1 rfl))).tr (sm_sI _ _ _ (fun w => w.2 rfl))⟩, fun k => ?_⟩
    · rw [gI_cell _ _ _ _ (by decide), gI_sI]
      by_cases z : j = i
      · rw [if_pos ⟨rfl, z⟩]
      · rw [if_neg (fun w => z w.2), e1 j (by omega)]
    · rw [gI_sI]
      by_cases z : j = i
      · rw [if_pos ⟨rfl, z⟩]
      · rw [if_neg (fun w => z w.2), gI_cell _ _ _ _ (by decide), e2 j (by omega)]
    · show b_Mo_allLeft_2 k (nI i) υ = _
      unfold b_Mo_allLeft_2
      rw [if_neg (show ¬ (128 : Int32) ≤ nI i from nI_ge (b := 128) hi (by decide)), ck_t (okZ_lt (k := 62) (n := i) (L := 128) rfl rfl hi (by decide)), ck_t (show isB 1 = true from rfl), bnd_e, ck_t (okI_lt (k := 63) (n := i) (L := 128) rfl rfl hi (by decide)), bnd_e, bnd_e, nI_c (by omega), nI_1]
  obtain ⟨x', k, ⟨υ, rfl, e1, e2, e3⟩, e⟩ := lpF_in I 128 (0, σ) ⟨σ, rfl, fun j hj => absurd hj (Nat.not_lt_zero j), fun j hj => absurd hj (Nat.not_lt_zero j), sm_rf _ _⟩ hs (by decide)
  refine ⟨υ, ?_, e1, e2, e3⟩
  unfold f_Mo_allLeft b_Mo_allLeft_0 l_Mo_allLeft_2
  refine e.trans ?_
  show b_Mo_allLeft_2 k (nI 128) υ = _
  unfold b_Mo_allLeft_2
  rw [if_pos (show (128 : Int32) ≤ nI 128 from by decide)]
def thB (T : Tb) (n : Nat → Nat) (pl a w c : Nat) : Bool := if w = 0 then wrB T n (fun _ => true) pl a c else if w = 1 then wkB T n pl a c else onB T n pl a c
theorem m_than {σ : gS} {n : Nat → Nat} {T : Tb} (h : VM σ n T) (hn : nb n) (hO : ∀ i, i < 128 → gI σ 62 i = 1) {pl a w : Nat} (hpl : pl < 2) (ha : a < n pl) (hw : w < 3) : l_Mo_than_67 (nI pl, nI a, nI w, -1, 0, σ) = some (ff (thB T n pl a w) (n pl), σ) := by
  have hl := nb_le hn hpl
  have hl2 := nb_le hn (show 1 - pl < 2 by omega)
  unfold l_Mo_than_67
  refine lp_fst2 (body := fun k x => b_Mo_than_67 k x.1 x.2.1 x.2.2.1 x.2.2.2.1 x.2.2.2.2.1 x.2.2.2.2.2) (fun i v => (nI pl, nI a, nI w, v, nI i, σ)) (n pl) (thB T n pl a w) (fun v => (v, σ)) (fun i hi k => ?_) (fun i hi k => ?_) (fun k => ?_) (by omega)
  · show b_Mo_than_67 k (nI pl) (nI a) (nI w) (-1) (nI i) σ = k (nI pl, nI a, nI w, (if thB T n pl a w i = true then nI i else -1), nI (i + 1), σ)
    have e122 : ∀ g : Bool, b_Mo_than_122 k (nI pl) (nI a) (nI w) (-1) (nI i) (bi g) σ = k (nI pl, nI a, nI w, (if g = true then nI i else -1), nI (i + 1), σ) := fun g => by
      unfold b_Mo_than_122 b_Mo_than_136
      by_cases z : g = true
      · rw [if_neg (bi_ne z), if_pos z, bnd_e, nI_1]
      · rw [if_pos (bi_eq z), if_neg z, bnd_e, nI_1]
    unfold b_Mo_than_67 thB
    rw [m_many h hpl, Option.bind_some, if_neg (nI_ge hi (by omega)), if_pos rfl]
    rcases (show w = 0 ∨ w = 1 ∨ w = 2 by omega) with rfl | rfl | rfl
    · rw [if_pos (show nI 0 = 0 from rfl), if_pos (show (0 : Nat) = 0 from rfl), m_worse (O := fun _ => true) h hn hpl (fun b hb => by rw [hO _ (by omega)]; rfl) ha hi, Option.bind_some, e122]
    · rw [if_neg (show ¬ nI 1 = 0 by decide), if_pos (show nI 1 = 1 from rfl), if_neg (show ¬ (1 : Nat) = 0 by decide), if_pos (show (1 : Nat) = 1 from rfl), m_weak h hn hpl ha hi, Option.bind_some, e122]
    · rw [if_neg (show ¬ nI 2 = 0 by decide), if_neg (show ¬ nI 2 = 1 by decide), if_neg (show ¬ (2 : Nat) = 0 by decide), if_neg (show ¬ (2 : Nat) = 1 by decide), m_one h hn hpl ha hi, Option.bind_some, e122]
  · show b_Mo_than_67 k (nI pl) (nI a) (nI w) (nI i) (nI (i + 1)) σ = _
    unfold b_Mo_than_67
    rw [m_many h hpl, Option.bind_some, if_neg (nm1 (by omega)), ite_self]
  · show b_Mo_than_67 k (nI pl) (nI a) (nI w) (-1) (nI (n pl)) σ = _
    unfold b_Mo_than_67
    rw [m_many h hpl, Option.bind_some, if_pos (nI_le (Nat.le_refl _) (by omega))]
noncomputable def thaA (F : Fr) (x1 x2 x3 : Int32) : Int32 := cif (jn F = 0) (-1000000) (cif (i01 x1 = true ∧ isP F x1.toNatClampNeg x2 = true ∧ am x3 0 2 = true) (ff (thB (tF F (jn F - 1)) (pls F (jn F - 1)) x1.toNatClampNeg x2.toNatClampNeg x3.toNatClampNeg) (pls F (jn F - 1) x1.toNatClampNeg)) (-2))
theorem am_2 {y : Int32} (h : am y 0 2 = true) : ∃ j, j < 3 ∧ y = nI j := (am_nI (n := 3) (by decide)).mp h
theorem ga_than {σ : gS} {F : Fr} (h : WF F) (hc : CR σ F) (h22 : S0 σ) (ht : TC σ F) (x1 x2 x3 : Int32) : ∃ τ, f_Ga_than σ x1 x2 x3 = some (thaA F x1 x2 x3, τ) ∧ TK σ F τ := by
  unfold f_Ga_than b_Ga_than_0 thaA
  rw [f_isEmpty h hc, Option.bind_some]
  by_cases z : jn F = 0
  · rw [if_neg (bi_ne (by simpa using z)), cif_t z]
    exact ⟨σ, rfl, TK_rf h22 ht⟩
  · rw [if_pos (bi_eq (by simpa using z)), cif_f z, f_isPlan h hc z, Option.bind_some, f_isAmong, Option.bind_some]
    by_cases q : (i01 x1 && isP F x1.toNatClampNeg x2) = true
    · rw [if_neg (bi_ne q)]
      rw [Bool.and_eq_true] at q
      by_cases q3 : am x3 0 2 = true
      · rw [if_neg (bi_ne q3), cif_t ⟨q.1, q.2, q3⟩]
        obtain ⟨pl, epl, hpl, epl2⟩ := i01_nat q.1
        have q2 := q.2
        rw [epl2] at q2
        obtain ⟨p, hp, ep, ep2⟩ := isP_ok h z hpl q2
        obtain ⟨w, hw, ew⟩ := am_2 q3
        have ew2 : x3.toNatClampNeg = w := by rw [ew, nI_c (by omega)]
        obtain ⟨τ, e1, e2, -, -, e5⟩ := ta_whole h hc z h22 ht
        have hn := nb_F h (m := jn F - 1) (by omega)
        rw [epl2, ep2, ew2, epl, ep, ew, e1, Option.bind_some]
        refine ⟨τ, ?_, e5⟩
        unfold thB
        rcases (show w = 0 ∨ w = 1 ∨ w = 2 by omega) with rfl | rfl | rfl
        · rw [if_neg (show ¬ nI 0 = 2 by decide), if_pos (show nI 0 = 0 from rfl), c_better e2 hn hpl hp, Option.bind_some]
          rfl
        · rw [if_neg (show ¬ nI 1 = 2 by decide), if_neg (show ¬ nI 1 = 0 by decide), c_weaker e2 hn hpl hp, Option.bind_some]
          rfl
        · rw [if_pos (show nI 2 = 2 from rfl), c_oneWith e2 hn hpl hp, Option.bind_some]
          rfl
      · rw [if_pos (bi_eq q3), cif_f (fun y => q3 y.2.2)]
        exact ⟨σ, rfl, TK_rf h22 ht⟩
    · rw [if_pos (bi_eq q), cif_f (fun y => q (by rw [Bool.and_eq_true]; exact ⟨y.1, y.2.1⟩))]
      exact ⟨σ, rfl, TK_rf h22 ht⟩
theorem mo_than {σ : gS} {F : Fr} (h : WF F) (hm : MR σ F) (x1 x2 x3 : Int32) : ∃ τ, f_Mo_than σ x1 x2 x3 = some (thaA F x1 x2 x3, τ) ∧ MR τ F ∧ sm (fun c => c < 46) σ τ := by
  unfold f_Mo_than b_Mo_than_0 thaA
  rw [hm.1]
  by_cases z : jn F = 0
  · rw [if_pos ((n_0 h).mpr z), cif_t z]
    exact ⟨σ, rfl, hm, sm_rf _ _⟩
  · rw [if_neg (fun e => z ((n_0 h).mp e)), cif_f z, f_isFrom, Option.bind_some, i01_am, f_isFrom, Option.bind_some]
    by_cases q1 : i01 x1 = true
    · rw [if_neg (bi_ne q1)]
      by_cases q3 : am x3 0 2 = true
      · obtain ⟨pl, epl, hpl, epl2⟩ := i01_nat q1
        obtain ⟨τ, e1, e2, e3, e4⟩ := mo_whole h hm z
        have hmτ := kpM_MR e4 hm
        rw [if_neg (bi_ne q3), f_moRoot hm z, Option.bind_some, e1, Option.bind_some, epl2, epl, m_many e2 hpl, Option.bind_some, f_isFrom, Option.bind_some]
        by_cases q2 : isP F pl x2 = true
        · rw [if_neg (bi_ne (show am x2 0 (nI (pls F (jn F - 1) pl) - 1) = true from q2)), cif_t ⟨i01_nI hpl, q2, q3⟩]
          obtain ⟨p, hp, ep, ep2⟩ := isP_ok h z hpl q2
          obtain ⟨w, hw, ew⟩ := am_2 q3
          have ew2 : x3.toNatClampNeg = w := by rw [ew, nI_c (by omega)]
          obtain ⟨τ2, g1, g2, g3, g4⟩ := m_allLeft τ
          rw [ep2, ew2, ep, ew, g1, Option.bind_some, m_than (VM_s g4 (by decide) (by decide) e2) (nb_F h (by omega)) g2 hpl hp hw]
          exact ⟨τ2, rfl, MR_s g4 (fun c h1 h2 => by omega) hmτ, (kpM_46 e4).tr (g4.less (fun c hc => by have : c < 46 := hc; omega))⟩
        · rw [if_pos (bi_eq (show ¬ am x2 0 (nI (pls F (jn F - 1) pl) - 1) = true from q2)), cif_f (fun y => q2 y.2.1)]
          exact ⟨τ, rfl, hmτ, kpM_46 e4⟩
      · rw [if_pos (bi_eq q3), cif_f (fun y => q3 y.2.2)]
        exact ⟨σ, rfl, hm, sm_rf _ _⟩
    · rw [if_pos (bi_eq q1), cif_f (fun y => q1 y.1)]
      exact ⟨σ, rfl, hm, sm_rf _ _⟩
