/-! goes: the reference -/
theorem lf_stop {T : Tb} {n : Nat → Nat} {r : Nat} (h : stp T n r) {pl : Nat} (hpl : pl < 2) {a : Nat} (ha : a < n pl) : lf T n (r + 1) pl a = lf T n r pl a ∧ gn T n (r + 1) pl a = gn T n r pl a := by
  have e := h pl hpl a ha
  refine ⟨?_, ?_⟩
  · rw [lf_s, e]
    simp
  · show (if gob T n r pl a = true then nI (r + 1) else gn T n r pl a) = _
    rw [if_neg (by rw [e]; decide)]
theorem m_do {σ : gS} {n : Nat → Nat} {T : Tb} (h : VM σ n T) (hn : nb n) (hp : MLP σ n T 0) : ∃ τ, l_Mo_doRounds_16 (1, 1, σ) = some (nI (cntB (lf T n (rs T n) 0) (n 0)) * nI (cntB (lf T n (rs T n) 1) (n 1)), τ) ∧ MLP τ n T (rs T n) ∧ sm (fun c => c ≠ 62 ∧ c ≠ 63 ∧ c ≠ 64) σ τ := by
  obtain ⟨r1, r2, r3⟩ := rs_ok T hn
  let J : Nat → (Int32 × Int32 × gS) → Prop := fun r x => ∃ υ : gS, x = ((if r ≤ rs T n then 1 else 0), nI (r + 1), υ) ∧ MLP υ n T r ∧ sm (fun c => c ≠ 62 ∧ c ≠ 63 ∧ c ≠ 64) σ υ
  have hs : ∀ r, r < rs T n + 1 → ∀ x, J r x → ∃ x', J (r + 1) x' ∧ ∀ k, b_Mo_doRounds_16 k x.1 x.2.1 x.2.2 = k x' := by
    rintro r hr x ⟨υ, rfl, e1, e2⟩
    have hv : VM υ n T := VM_s e2 (by decide) (by decide) h
    obtain ⟨υ1, f1, f2, f3⟩ := m_mark hv hn (by omega) e1
    have e1' : MLP υ1 n T r := fun pl hpl a ha => by rw [f2.i (by decide), f2.i (by decide)]; exact e1 pl hpl a ha
    obtain ⟨υ2, g1, g2, g3⟩ := m_away hn e1' f1 (bi (anyB (gpl T n r) 128))
    have hfl : bi (anyB (gpl T n r) 128) = if r + 1 ≤ rs T n then 1 else 0 := by
      by_cases z : r + 1 ≤ rs T n
      · rw [if_pos z, (gpl_any hn).mpr (r3 r (by omega))]
        rfl
      · rw [if_neg z]
        have : r = rs T n := by omega
        refine bi_eq (fun q => ?_)
        rw [this] at q
        exact (gpl_any hn).mp q r2
    refine ⟨((if r + 1 ≤ rs T n then 1 else 0), nI (r + 1 + 1), υ2), ⟨υ2, rfl, g1, e2.tr ((f2.less (fun c hc => hc.2.2)).tr (g2.less (fun c hc => ⟨hc.1, hc.2.1⟩)))⟩, fun k => ?_⟩
    show b_Mo_doRounds_16 k (if r ≤ rs T n then 1 else 0) (nI (r + 1)) υ = _
    unfold b_Mo_doRounds_16
    rw [if_pos (show r ≤ rs T n by omega), if_neg (show ¬ (1 : Int32) = 0 by decide), f3 k, g3 k, hfl]
  obtain ⟨x', k, ⟨υ, rfl, e1, e2⟩, e⟩ := lpF_in J (rs T n + 1) (1, 1, σ) ⟨σ, by rw [if_pos (Nat.zero_le _)]; rfl, hp, sm_rf _ _⟩ hs (by omega)
  have hv : VM υ n T := VM_s e2 (by decide) (by decide) h
  have e1' : MLP υ n T (rs T n) := fun pl hpl a ha => by
    obtain ⟨q1, q2⟩ := e1 pl hpl a ha
    obtain ⟨w1, w2⟩ := lf_stop r2 hpl ha
    rw [q1, q2, w1, w2]
    exact ⟨rfl, rfl⟩
  refine ⟨υ, ?_, e1', e2⟩
  unfold l_Mo_doRounds_16
  refine e.trans ?_
  show b_Mo_doRounds_16 k (if rs T n + 1 ≤ rs T n then 1 else 0) (nI (rs T n + 1 + 1)) υ = _
  unfold b_Mo_doRounds_16
  rw [if_neg (show ¬ rs T n + 1 ≤ rs T n by omega), if_pos rfl, show f_Mo_leftOf υ 0 = _ from m_leftOf hv hn (fun pl hpl a ha => (e1' pl hpl a ha).1) (pl := 0) (by decide), Option.bind_some, show f_Mo_leftOf υ 1 = _ from m_leftOf hv hn (fun pl hpl a ha => (e1' pl hpl a ha).1) (pl := 1) (by decide), Option.bind_some]
theorem mo_do {σ : gS} {F : Fr} (h : WF F) (hm : MR σ F) (z : jn F ≠ 0) : ∃ τ, f_Mo_doRounds σ = some (nI (cntB (lf (tF F (jn F - 1)) (pls F (jn F - 1)) (rs (tF F (jn F - 1)) (pls F (jn F - 1))) 0) (pls F (jn F - 1) 0)) * nI (cntB (lf (tF F (jn F - 1)) (pls F (jn F - 1)) (rs (tF F (jn F - 1)) (pls F (jn F - 1))) 1) (pls F (jn F - 1) 1)), τ) ∧ MLP τ (pls F (jn F - 1)) (tF F (jn F - 1)) (rs (tF F (jn F - 1)) (pls F (jn F - 1))) ∧ VM τ (pls F (jn F - 1)) (tF F (jn F - 1)) ∧ MR τ F ∧ sm (fun c => c < 46) σ τ := by
  obtain ⟨τ1, e1, e2, e3, e4⟩ := mo_whole h hm z
  obtain ⟨τ2, g1, g2, g3, g4⟩ := m_allLeft τ1
  have hn := nb_F h (m := jn F - 1) (by omega)
  have hv2 := VM_s g4 (by decide) (by decide) e2
  obtain ⟨τ, f1, f2, f3⟩ := m_do hv2 hn (fun pl hpl a ha => by
    have hb := nb_le hn hpl
    rw [g2 _ (by omega), g3 _ (by omega)]
    exact ⟨rfl, rfl⟩)
  refine ⟨τ, ?_, f2, VM_s f3 (by decide) (by decide) hv2, MR_s f3 (fun c h1 h2 => by omega) (MR_s g4 (fun c h1 h2 => by omega) (kpM_MR e4 hm)), ((kpM_46 e4).tr (g4.less (fun c hc => by have : c < 46 := hc; omega))).tr (f3.less (fun c hc => by have : c < 46 := hc; omega))⟩
  unfold f_Mo_doRounds b_Mo_doRounds_0
  rw [f_moRoot hm z, Option.bind_some, e1, Option.bind_some, g1, Option.bind_some, f1]
noncomputable def goeA (F : Fr) (x1 x2 : Int32) : Int32 := cif (jn F = 0) (-1000000) (cif (i01 x1 = true ∧ isP F x1.toNatClampNeg x2 = true) (gn (tF F (jn F - 1)) (pls F (jn F - 1)) (rs (tF F (jn F - 1)) (pls F (jn F - 1))) x1.toNatClampNeg x2.toNatClampNeg) (-2))
theorem mo_goes {σ : gS} {F : Fr} (h : WF F) (hm : MR σ F) (x1 x2 : Int32) : ∃ τ, f_Mo_goes σ x1 x2 = some (goeA F x1 x2, τ) ∧ MR τ F ∧ sm (fun c => c < 46) σ τ := by
  unfold f_Mo_goes b_Mo_goes_0 goeA
  rw [hm.1]
  by_cases z : jn F = 0
  · rw [if_pos ((n_0 h).mpr z), cif_t z]
    exact ⟨σ, rfl, hm, sm_rf _ _⟩
  · rw [if_neg (fun e => z ((n_0 h).mp e)), cif_f z, f_isFrom, Option.bind_some, i01_am]
    by_cases q1 : i01 x1 = true
    · obtain ⟨pl, epl, hpl, epl2⟩ := i01_nat q1
      obtain ⟨τ, e1, e2, e3, e4, e5⟩ := mo_do h hm z
      rw [if_neg (bi_ne q1), e1, Option.bind_some, epl2, epl, m_many e3 hpl, Option.bind_some, f_isFrom, Option.bind_some]
      by_cases q2 : isP F pl x2 = true
      · rw [if_neg (bi_ne (show am x2 0 (nI (pls F (jn F - 1) pl) - 1) = true from q2)), cif_t ⟨i01_nI hpl, q2⟩]
        obtain ⟨p, hp, ep, ep2⟩ := isP_ok h z hpl q2
        have hb := nb_le (nb_F h (m := jn F - 1) (by omega)) hpl
        rw [ep2, ep, n64, ck_t (okI_lt (k := 63) (n := 64 * pl + p) (L := 128) rfl rfl (by omega) (by decide)), nI_c (by omega), (e2 pl hpl p hp).2]
        exact ⟨τ, rfl, e4, e5⟩
      · rw [if_pos (bi_eq (show ¬ am x2 0 (nI (pls F (jn F - 1) pl) - 1) = true from q2)), cif_f (fun y => q2 y.2)]
        exact ⟨τ, rfl, e4, e5⟩
    · rw [if_pos (bi_eq q1), cif_f (fun y => q1 y.1)]
      exact ⟨σ, rfl, hm, sm_rf _ _⟩
