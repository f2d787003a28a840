/-! chance and node, the class -/
def x3f (a b c : Int32) (j : Nat) : Int32 := if j = 0 then a else if j = 1 then b else c
def c3f (a b c : Int32) (j : Nat) : Nat := (x3f a b c j).toNatClampNeg
theorem c3f_ok {n : Nat} (hn : n ≤ 40) (a b c : Int32) (j : Nat) (h : am (x3f a b c j) 0 (nI n - 1) = true) : x3f a b c j = nI (c3f a b c j) ∧ c3f a b c j < n := by
  obtain ⟨i, hi, e⟩ := (am_nI (by omega)).mp h
  unfold c3f
  rw [e, nI_c (by omega)]
  exact ⟨rfl, hi⟩
def chC (b c : Int32) : Nat := if c = -1 then (if b = -1 then 1 else 2) else 3
noncomputable def chaS (F : Fr) (a b c : Int32) : Int32 × Fr := parS F 1 0 (chC b c) (x3f a b c) (c3f a b c)
theorem chC_A (F : Fr) (b c : Int32) : parA F 1 0 (chC b c) := by
  unfold parA chC
  refine ⟨?_, ?_, Or.inl ⟨rfl, rfl⟩⟩ <;> (split <;> (try split) <;> omega)
theorem WF_chaS {F : Fr} (h : WF F) (a b c : Int32) : WF (chaS F a b c).2 := WF_parS h (chC_A F b c) (fun j _ q => c3f_ok h.1.1 a b c j q)
theorem f_offer (σ : gS) (a b c : Int32) : ∃ τ, f_Fo_offer σ a b c = some τ ∧ (∀ j, j < 3 → gI τ 15 j = x3f a b c j) ∧ sm (fun k => k ≠ 15) σ τ := by
  refine ⟨sI (sI (sI σ 15 0 a) 15 1 b) 15 2 c, rfl, ?_, ?_⟩
  · intro j hj
    unfold x3f
    rcases (show j = 0 ∨ j = 1 ∨ j = 2 by omega) with rfl | rfl | rfl <;> simp [gI_sI]
  · exact ((sm_sI _ _ _ (fun z => z rfl)).tr (sm_sI _ _ _ (fun z => z rfl))).tr (sm_sI _ _ _ (fun z => z rfl))
theorem ga_chance {σ : gS} {F : Fr} (h : WF F) (hc : CR σ F) (a b c : Int32) : ∃ τ, f_Ga_chance σ a b c = some ((chaS F a b c).1, τ) ∧ CR τ (chaS F a b c).2 ∧ (gI τ 1 2 = gI σ 1 2 ∧ (chaS F a b c).2 = F ∨ gI τ 1 2 = gI σ 1 2 + 1) ∧ sm (fun c => 16 ≤ c) σ τ := by
  have e : f_Ga_chance σ a b c = (f_Fo_offer σ a b c).bind fun r_1 => (f_Fo_addParent r_1 (-1) (nI (chC b c))).bind fun r_2 => some (r_2.1, r_2.2) := by
    unfold f_Ga_chance b_Ga_chance_0 chC
    by_cases q1 : c = -1
    · rw [if_pos q1, if_pos q1]
      by_cases q2 : b = -1
      · rw [if_pos q2, if_pos q2]; rfl
      · rw [if_neg q2, if_neg q2]; rfl
    · rw [if_neg q1, if_neg q1]; rfl
  obtain ⟨υ, e1, e2, e3⟩ := f_offer σ a b c
  obtain ⟨τ, f1, f2, f3, f4⟩ := fo_par (x1 := -1) h (CR_sm (e3.less (fun k hk => by have : k < 15 := hk; omega)) hc) (chC_A F b c) e2 (fun j _ q => c3f_ok h.1.1 a b c j q) rfl
  rw [e, e1, Option.bind_some, f1, Option.bind_some]
  have hv : gI υ 1 2 = gI σ 1 2 := e3.i (by decide) 2
  refine ⟨τ, rfl, f2, ?_, ?_⟩
  · rcases f3 with ⟨z1, z2⟩ | z
    · exact Or.inl ⟨by rw [z1, hv], z2⟩
    · exact Or.inr (by rw [z, hv])
  · exact (e3.less (fun k hk => by have : 16 ≤ k := hk; omega)).tr (f4.less (fun k hk => by have : 16 ≤ k := hk; show 15 ≤ k; omega))
noncomputable def nodS (F : Fr) (x a b c : Int32) : Int32 × Fr := if am x 0 (nI (jk F) - 1) = true then parS F 2 x.toNatClampNeg (jac F x.toNatClampNeg) (x3f a b c) (c3f a b c) else (-2, F)
theorem nodA {F : Fr} (h : WF F) {x : Int32} (q : am x 0 (nI (jk F) - 1) = true) : ∃ k, k < jk F ∧ x = nI k ∧ x.toNatClampNeg = k ∧ parA F 2 k (jac F k) := by
  have hl := h.1.2
  obtain ⟨k, hk, e⟩ := (am_nI (by omega)).mp q
  refine ⟨k, hk, e, by rw [e, nI_c (by omega)], ?_⟩
  have := (h.2.1 k hk).2
  exact ⟨by omega, by omega, Or.inr ⟨rfl, hk, rfl⟩⟩
theorem WF_nodS {F : Fr} (h : WF F) (x a b c : Int32) : WF (nodS F x a b c).2 := by
  unfold nodS
  split
  · rename_i q
    obtain ⟨k, hk, e, e2, hA⟩ := nodA h q
    rw [e2]
    exact WF_parS h hA (fun j _ q => c3f_ok h.1.1 a b c j q)
  · exact h
theorem f_hasSet {σ : gS} {n : Nat} (hn : gI σ 1 1 = nI n) (hl : n ≤ 40) (x : Int32) : f_Fo_hasSet σ x = some (bi (am x 0 (nI n - 1))) := by
  have e : f_Fo_hasSet σ x = f_Fo_hasNode (sI σ 1 0 (gI σ 1 1)) x := by
    unfold f_Fo_hasSet b_Fo_hasSet_0 f_Fo_hasNode b_Fo_hasNode_0
    rw [gI_same]
  rw [e]
  exact f_hasNode (by rw [gI_same]; exact hn) hl x
theorem ga_node {σ : gS} {F : Fr} (h : WF F) (hc : CR σ F) (x a b c : Int32) : ∃ τ, f_Ga_node σ x a b c = some ((nodS F x a b c).1, τ) ∧ CR τ (nodS F x a b c).2 ∧ (gI τ 1 2 = gI σ 1 2 ∧ (nodS F x a b c).2 = F ∨ gI τ 1 2 = gI σ 1 2 + 1) ∧ sm (fun c => 16 ≤ c) σ τ := by
  unfold f_Ga_node b_Ga_node_0 nodS
  rw [f_hasSet hc.1.2.1 (by have := h.1.2; omega), Option.bind_some]
  by_cases q : am x 0 (nI (jk F) - 1) = true
  · rw [if_neg (bi_ne q), if_pos q]
    obtain ⟨k, hk, e, e2, hA⟩ := nodA h q
    obtain ⟨υ, g1, g2, g3⟩ := f_offer σ a b c
    have hk10 : k < 10 := by have := h.1.2; omega
    rw [e2, g1, Option.bind_some, e, ck_t (okI_lt (k := 5) (n := k) (L := 10) rfl rfl hk10 (by decide)), g3.i (by decide), hc.1.2.2.2.2.2.2.2.2.2.2 k hk]
    obtain ⟨τ, f1, f2, f3, f4⟩ := fo_par (x1 := nI k) h (CR_sm (g3.less (fun k hk => by have : k < 15 := hk; omega)) hc) hA g2 (fun j _ q => c3f_ok h.1.1 a b c j q) rfl
    rw [f1, Option.bind_some]
    have hv : gI υ 1 2 = gI σ 1 2 := g3.i (by decide) 2
    refine ⟨τ, rfl, f2, ?_, ?_⟩
    · rcases f3 with ⟨z1, z2⟩ | z
      · exact Or.inl ⟨by rw [z1, hv], z2⟩
      · exact Or.inr (by rw [z, hv])
    · exact (g3.less (fun k hk => by have : 16 ≤ k := hk; omega)).tr (f4.less (fun k hk => by have : 16 ≤ k := hk; show 15 ≤ k; omega))
  · rw [if_pos (bi_eq q), if_neg q]
    exact ⟨σ, rfl, hc, Or.inl ⟨rfl, rfl⟩, sm_rf _ _⟩
