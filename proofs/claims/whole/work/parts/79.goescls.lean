/-! goes: the class -/
def LCF (σ : gS) (F : Fr) : Prop := jn F ≠ 0 → LC σ (pls F (jn F - 1)) (tF F (jn F - 1))
/-- what a question may change on the class's side, when it plays the rounds in which plans go -/
def LK (σ : gS) (F : Fr) (τ : gS) : Prop := S0 τ ∧ TC τ F ∧ LCF τ F ∧ (gI τ 16 5 = gI σ 16 5 ∨ gI τ 16 5 = gI σ 1 2) ∧ (gI τ 34 4 = gI σ 34 4 ∨ gI τ 34 4 = gI σ 1 2) ∧ sm (fun c => c < 16 ∨ (23 ≤ c ∧ c < 34) ∨ 39 ≤ c) σ τ
theorem LK_rf {σ : gS} {F : Fr} (h1 : S0 σ) (h2 : TC σ F) (h3 : LCF σ F) : LK σ F σ := ⟨h1, h2, h3, Or.inl rfl, Or.inl rfl, sm_rf _ _⟩
theorem LC_s {σ τ : gS} {n : Nat → Nat} {T : Tb} {P : Nat → Prop} (hs : sm P σ τ) (h1 : P 1) (h34 : P 34) (h36 : P 36) (h37 : P 37) (h38 : P 38) (h : LC σ n T) : LC τ n T := fun z => by
  rw [hs.i h34, hs.i h1] at z
  obtain ⟨a1, a2⟩ := h z
  refine ⟨fun pl hpl a ha => ?_, fun pl hpl a ha => by rw [hs.l h38]; exact a2 pl hpl a ha⟩
  rw [← a1 pl hpl a ha]
  rcases (show pl = 0 ∨ pl = 1 by omega) with rfl | rfl
  · exact hs.i h36 a
  · exact hs.i h37 a
theorem ga_leave {σ : gS} {F : Fr} (h : WF F) (hc : CR σ F) (z : jn F ≠ 0) (h22 : S0 σ) (ht : TC σ F) (hL : LCF σ F) : ∃ τ1 τ, f_Ta_fillWhole σ = some τ1 ∧ f_Le_playAll τ1 = some τ ∧ LeP τ (pls F (jn F - 1)) (tF F (jn F - 1)) (rs (tF F (jn F - 1)) (pls F (jn F - 1))) ∧ LK σ F τ := by
  obtain ⟨τ1, e1, e2, e3, e4, e5, e6, e7, e8⟩ := ta_whole h hc z h22 ht
  have hn := nb_F h (m := jn F - 1) (by omega)
  obtain ⟨τ, f1, f2, f3, f4⟩ := le_play e2 hn (LC_s e8 (by decide) (by decide) (by decide) (by decide) (by decide) (hL z))
  have hv : gI τ1 1 2 = gI σ 1 2 := e8.i (by decide) 2
  refine ⟨τ1, τ, e1, f1, f2, fun i hi => by rw [f4.i (by decide), e5 i hi], TC_s f4 (by decide) (by decide) (by decide) (by decide) (by decide) e6, fun _ _ => f2, ?_, Or.inr (by rw [f3, hv]), ?_⟩
  · rw [f4.i (by decide)]; exact e7
  · exact (e8.less (fun c hc => by have : c < 16 ∨ (23 ≤ c ∧ c < 34) ∨ 39 ≤ c := hc; show c < 16 ∨ 23 ≤ c; omega)).tr (f4.less (fun c hc => by have : c < 16 ∨ (23 ≤ c ∧ c < 34) ∨ 39 ≤ c := hc; show c < 34 ∨ 39 ≤ c; omega))
theorem ga_goes {σ : gS} {F : Fr} (h : WF F) (hc : CR σ F) (h22 : S0 σ) (ht : TC σ F) (hL : LCF σ F) (x1 x2 : Int32) : ∃ τ, f_Ga_goes σ x1 x2 = some (goeA F x1 x2, τ) ∧ LK σ F τ := by
  unfold f_Ga_goes b_Ga_goes_0 goeA
  rw [f_isEmpty h hc, Option.bind_some]
  by_cases z : jn F = 0
  · rw [if_neg (bi_ne (by simpa using z)), cif_t z]
    exact ⟨σ, rfl, LK_rf h22 ht hL⟩
  · rw [if_pos (bi_eq (by simpa using z)), cif_f z, f_isPlan h hc z, Option.bind_some]
    by_cases q : (i01 x1 && isP F x1.toNatClampNeg x2) = true
    · rw [if_neg (bi_ne q)]
      rw [Bool.and_eq_true] at q
      rw [cif_t q]
      obtain ⟨pl, epl, hpl, epl2⟩ := i01_nat q.1
      have q2 := q.2
      rw [epl2] at q2
      obtain ⟨p, hp, ep, ep2⟩ := isP_ok h z hpl q2
      have hb := nb_le (nb_F h (m := jn F - 1) (by omega)) hpl
      obtain ⟨τ1, τ, e1, e2, e3, e4⟩ := ga_leave h hc z h22 ht hL
      rw [epl2, ep2, epl, ep, e1, Option.bind_some, e2, Option.bind_some]
      refine ⟨τ, ?_, e4⟩
      unfold f_Le_roundOf b_Le_roundOf_0
      rw [ck_t (inb_nI hpl (by decide)), nI_c (n := pl) (by omega), ck_t (ok36 hpl (by omega)), nI_c (n := p) (by omega), Option.bind_some, e3.1 pl hpl p hp]
    · rw [if_pos (bi_eq q), cif_f (fun y => q (by rw [Bool.and_eq_true]; exact y))]
      exact ⟨σ, rfl, LK_rf h22 ht hL⟩
