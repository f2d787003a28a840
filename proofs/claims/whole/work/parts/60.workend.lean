/-! the reference: workAll -/
/-- the reference's table is that of the game from x, in plans of the tree -/
def MT (σ : gS) (F : Fr) (x : Nat) : Prop := gI σ 46 16 = nI (pls F (jn F - 1) 0) ∧ gI σ 46 17 = nI (pls F (jn F - 1) 1) ∧ ∀ p q, p < pls F (jn F - 1) 0 → q < pls F (jn F - 1) 1 → gI σ 59 (64 * p + q) = iI (val F (chP F (jn F - 1) p q) 0 x) ∧ gI σ 59 (4096 + 64 * p + q) = iI (val F (chP F (jn F - 1) p q) 1 x)
theorem mo_plans {σ : gS} {F : Fr} (h : WF F) (hm : MR σ F) (ht : TR σ F) {pl : Nat} (hpl : pl < 2) : f_Mo_plansOf σ (nI pl) = some (nI (pls F (jn F - 1) pl)) := by
  rw [← prd_10 h (jn F - 1) pl]
  exact mo_plansOf (b := ins F (jn F - 1)) hm.2.1 h.1.2 (fun k hk => ⟨hm.2.2.2.2.2.2.2.2.2.1 k hk, (h.2.1 k hk).1⟩) (fun k hk => hm.2.2.2.2.2.2.2.2.2.2 k hk) (fun k hk => ht.2 k (by have := h.1.2; omega)) hpl
/-- what is kept: all but the tree, the values, the table and the choices; and of the object all but the two numbers -/
def kpM (σ τ : gS) : Prop := (∀ i, i ≠ 16 → i ≠ 17 → gI τ 46 i = gI σ 46 i) ∧ sm (fun c => c < 46 ∨ (47 ≤ c ∧ c ≤ 55) ∨ 61 ≤ c) σ τ
theorem kpM.tr {σ τ υ : gS} (h1 : kpM σ τ) (h2 : kpM τ υ) : kpM σ υ := ⟨fun i a b => by rw [h2.1 i a b, h1.1 i a b], h1.2.tr h2.2⟩
theorem kpM_sm {σ τ : gS} {P : Nat → Prop} (h : sm P σ τ) (hP : ∀ c, c ≤ 55 ∨ 61 ≤ c → P c) : kpM σ τ := ⟨fun i _ _ => h.i (hP 46 (by decide)) i, h.less (fun c hc => hP c (by have : c < 46 ∨ (47 ≤ c ∧ c ≤ 55) ∨ 61 ≤ c := hc; omega))⟩
theorem kpM_MR {σ τ : gS} {F : Fr} (h : kpM σ τ) (hm : MR σ F) : MR τ F := MR_of hm (h.1 0 (by decide) (by decide)) (h.1 1 (by decide) (by decide)) (fun c h1 h2 i => h.2.i (by show c < 46 ∨ (47 ≤ c ∧ c ≤ 55) ∨ 61 ≤ c; omega) i)
theorem bl_lt {F : Fr} (h : WF F) {x : Nat} (hx : x < jn F) : x ≤ jn F - 1 := by omega
theorem mo_workAll {σ : gS} {F : Fr} (h : WF F) (hm : MR σ F) {x : Nat} (hx : x < jn F) (hbx : bl F (jn F - 1) x = true) : ∃ τ, f_Mo_workAll σ (nI x) = some τ ∧ MT τ F x ∧ TR τ F ∧ kpM σ τ := by
  have hl := h.1.1
  have hb := h.2.2.2.2.2.2.2 (jn F - 1) (by omega)
  have b0 := hb 0 (by decide)
  have b1 := hb 1 (by decide)
  obtain ⟨σ1, f1, f2, f3, f4⟩ := mo_tree h hm
  have k1 : kpM σ σ1 := kpM_sm f4 (fun c hc => by omega)
  have hm1 := kpM_MR k1 hm
  have ht1 : TR σ1 F := ⟨f2, f3⟩
  unfold f_Mo_workAll b_Mo_workAll_0
  rw [f1, Option.bind_some, show f_Mo_plansOf σ1 0 = _ from mo_plans h hm1 ht1 (pl := 0) (by decide), Option.bind_some, bnd_e]
  generalize hσ3 : sI σ1 46 16 (nI (pls F (jn F - 1) 0)) = σ3
  have k3 : kpM σ1 σ3 := by
    rw [← hσ3]
    exact ⟨fun i a b => gI_place _ _ _ a, sm_sI _ _ _ (by omega)⟩
  have ht3 : TR σ3 F := by
    rw [← hσ3]
    exact ⟨fun i hi => by rw [gI_cell _ _ _ _ (by decide), ht1.1 i hi], fun k hk => by rw [gI_cell _ _ _ _ (by decide), ht1.2 k hk]⟩
  have hm3 := kpM_MR k3 hm1
  rw [show f_Mo_plansOf σ3 1 = _ from mo_plans h hm3 ht3 (pl := 1) (by decide), Option.bind_some, bnd_e]
  generalize hσ5 : sI σ3 46 17 (nI (pls F (jn F - 1) 1)) = σ5
  have k5 : kpM σ3 σ5 := by
    rw [← hσ5]
    exact ⟨fun i a b => gI_place _ _ _ b, sm_sI _ _ _ (by omega)⟩
  have ht5 : TR σ5 F := by
    rw [← hσ5]
    exact ⟨fun i hi => by rw [gI_cell _ _ _ _ (by decide), ht3.1 i hi], fun k hk => by rw [gI_cell _ _ _ _ (by decide), ht3.2 k hk]⟩
  have hm5 := kpM_MR k5 hm3
  have q1 : gI σ5 46 17 = nI (pls F (jn F - 1) 1) := by rw [← hσ5, gI_same]
  have q0 : gI σ5 46 16 = nI (pls F (jn F - 1) 0) := by rw [← hσ5, gI_place _ _ _ (by decide), ← hσ3, gI_same]
  let A : Nat → Nat → gS → Prop := fun p q υ => (∀ p' q', q' < pls F (jn F - 1) 1 → (p' < p ∨ p' = p ∧ q' < q) → gI υ 59 (64 * p' + q') = iI (val F (chP F (jn F - 1) p' q') 0 x) ∧ gI υ 59 (4096 + 64 * p' + q') = iI (val F (chP F (jn F - 1) p' q') 1 x)) ∧ sm (fun c => c ≠ 58 ∧ c ≠ 59 ∧ c ≠ 60) σ5 υ
  let J : Nat → (Int32 × Int32 × gS) → Prop := fun p y => ∃ υ : gS, y = (nI x, nI p, υ) ∧ A p 0 υ
  have hsJ : ∀ p, p < pls F (jn F - 1) 0 → ∀ y, J p y → ∃ y', J (p + 1) y' ∧ ∀ k, b_Mo_workAll_24 k y.1 y.2.1 y.2.2 = k y' := by
    rintro p hp y ⟨υ, rfl, hA⟩
    let I : Nat → (Int32 × Int32 × Int32 × gS) → Prop := fun q y => ∃ υ : gS, y = (nI x, nI p, nI q, υ) ∧ A p q υ
    have hsI : ∀ q, q < pls F (jn F - 1) 1 → ∀ y, I q y → ∃ y', I (q + 1) y' ∧ ∀ k24 k, b_Mo_workAll_34 k24 k y.1 y.2.1 y.2.2.1 y.2.2.2 = k y' := by
      rintro q hq y ⟨υ, rfl, a1, a2⟩
      have hmυ : MR υ F := MR_s a2 (fun c h1 h2 => by omega) hm5
      have htυ : TR υ F := TR_s a2 (by decide) (by decide) ht5
      obtain ⟨υ1, w1, w2, w3⟩ := mo_work h hmυ htυ hx hbx (p := p) (q := q) (by omega) (by omega)
      refine ⟨(nI x, nI p, nI (q + 1), υ1), ⟨υ1, rfl, fun p' q' hq' w => ?_, a2.tr w3⟩, fun k24 k => ?_⟩
      · have hp' : p' < 64 := by omega
        rw [w2, w2, if_neg (show ¬ 64 * p' + q' = 4096 + 64 * p + q by omega), if_neg (show ¬ 4096 + 64 * p' + q' = 64 * p + q by omega)]
        by_cases z : 64 * p' + q' = 64 * p + q
        · have e1 : p' = p := by omega
          have e2 : q' = q := by omega
          rw [if_pos z, if_pos (by omega), e1, e2]
          exact ⟨rfl, rfl⟩
        · rw [if_neg z, if_neg (by omega)]
          exact a1 p' q' hq' (by
            rcases w with w | ⟨w, w'⟩
            · exact Or.inl w
            · exact Or.inr ⟨w, by
                by_cases y : q' = q
                · subst y; subst w; exact absurd rfl z
                · omega⟩)
      · show b_Mo_workAll_34 k24 k (nI x) (nI p) (nI q) υ = _
        unfold b_Mo_workAll_34
        rw [a2.i (by decide), q1, if_neg (nI_ge hq (by omega)), w1, Option.bind_some, bnd_e, nI_1]
    obtain ⟨y', ⟨υ', rfl, hA'⟩, e⟩ := lpF_in2 (body := fun k24 k y => b_Mo_workAll_34 k24 k y.1 y.2.1 y.2.2.1 y.2.2.2) I (pls F (jn F - 1) 1) (nI x, nI p, 0, υ) ⟨υ, rfl, hA⟩ hsI (by omega)
    refine ⟨(nI x, nI (p + 1), υ'), ⟨υ', rfl, fun p' q' hq' w => hA'.1 p' q' hq' (by omega), hA'.2⟩, fun k => ?_⟩
    show b_Mo_workAll_24 k (nI x) (nI p) υ = _
    unfold b_Mo_workAll_24
    rw [hA.2.i (by decide), q0, if_neg (nI_ge hp (by omega))]
    obtain ⟨kk, ek⟩ := e k
    unfold l_Mo_workAll_34
    refine ek.trans ?_
    show b_Mo_workAll_34 k kk (nI x) (nI p) (nI (pls F (jn F - 1) 1)) υ' = _
    unfold b_Mo_workAll_34
    rw [hA'.2.i (by decide), q1, if_pos (nI_le (Nat.le_refl _) (by omega)), bnd_e, nI_1]
  obtain ⟨y', k, ⟨τ, rfl, t1, t2⟩, e⟩ := lpF_in J (pls F (jn F - 1) 0) (nI x, 0, σ5) ⟨σ5, rfl, fun p' q' _ w => by omega, sm_rf _ _⟩ hsJ (by omega)
  refine ⟨τ, ?_, ⟨by rw [t2.i (by decide), q0], by rw [t2.i (by decide), q1], fun p q hp hq => t1 p q hq (Or.inl hp)⟩, TR_s t2 (by decide) (by decide) ht5, ((k1.tr k3).tr k5).tr (kpM_sm t2 (fun c hc => by omega))⟩
  unfold l_Mo_workAll_24
  refine e.trans ?_
  show b_Mo_workAll_24 k (nI x) (nI (pls F (jn F - 1) 0)) τ = _
  unfold b_Mo_workAll_24
  rw [t2.i (by decide), q0, if_pos (nI_le (Nat.le_refl _) (by omega))]
