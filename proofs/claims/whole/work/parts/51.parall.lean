/-! chance and node, the reference: whole -/
theorem f_isNode {σ : gS} {n : Nat} (hn : gI σ 46 0 = nI n) (x : Int32) : f_Mo_isNode σ x = some (bi (am x 0 (nI n - 1))) := by
  unfold f_Mo_isNode b_Mo_isNode_0
  rw [f_isFrom, Option.bind_some, hn, ck_t (bi_isB _)]
theorem parT_iff {F : Fr} {cnt : Nat} {a b c : Int32} (h1 : 1 ≤ cnt) (h3 : cnt ≤ 3) : parT F cnt (x3f a b c) ↔ am a 0 (nI (jn F) - 1) = true ∧ (2 ≤ cnt → am b 0 (nI (jn F) - 1) = true) ∧ (3 ≤ cnt → am c 0 (nI (jn F) - 1) = true) := by
  constructor
  · intro h
    exact ⟨h 0 (by omega), fun z => h 1 (by omega), fun z => h 2 (by omega)⟩
  · rintro ⟨q1, q2, q3⟩ j hj
    rcases (show j = 0 ∨ j = 1 ∨ j = 2 by omega) with rfl | rfl | rfl
    · exact q1
    · exact q2 (by omega)
    · exact q3 (by omega)
theorem nI_inj40 {n : Nat} (h : n ≤ 40) : nI n = 40 ↔ n = 40 := by
  constructor
  · intro e
    have := congrArg Int32.toInt e
    rw [nI_toInt (by omega)] at this
    have h2 : (40 : Int32).toInt = 40 := by decide
    omega
  · rintro rfl; rfl
theorem bar_0 {p q : Prop} : (cif p (-4 : Int32) (cif q (-5) 0) = 0) ↔ ¬ p ∧ ¬ q := by
  by_cases h1 : p
  · rw [cif_t h1]; exact ⟨fun z => absurd z (by decide), fun z => absurd h1 z.1⟩
  · rw [cif_f h1]
    by_cases h2 : q
    · rw [cif_t h2]; exact ⟨fun z => absurd z (by decide), fun z => absurd h2 z.2⟩
    · rw [cif_f h2]; exact ⟨fun _ => ⟨h1, h2⟩, fun _ => rfl⟩
theorem mo_chance {σ : gS} {F : Fr} (h : WF F) (hm : MR σ F) (a b c : Int32) : ∃ τ, f_Mo_chance σ a b c = some ((chaS F a b c).1, τ) ∧ MR τ (chaS F a b c).2 ∧ sm (fun c => c < 46 ∨ 58 ≤ c) σ τ := by
  have hA := chC_A F b c
  unfold chaS
  have e : f_Mo_chance σ a b c = b_Mo_chance_19 a b c (nI (chC b c)) σ := by
    unfold f_Mo_chance b_Mo_chance_0 chC
    by_cases q1 : c = -1
    · rw [if_pos q1, if_pos q1]
      by_cases q2 : b = -1
      · rw [if_pos q2, if_pos q2]; rfl
      · rw [if_neg q2, if_neg q2]; rfl
    · rw [if_neg q1, if_neg q1]; rfl
  rw [e]
  generalize chC b c = cnt at hA ⊢
  obtain ⟨a1, a2, -⟩ := id hA
  have hl := h.1.1
  have T : parT F cnt (x3f a b c) ↔ _ := parT_iff a1 a2
  have e2 : b_Mo_chance_19 a b c (nI cnt) σ = cif (parT F cnt (x3f a b c)) (b_Mo_chance_62 a b c (nI cnt) 1 σ) (b_Mo_chance_62 a b c (nI cnt) 0 σ) := by
    unfold b_Mo_chance_19 b_Mo_chance_43 b_Mo_chance_57 b_Mo_chance_61
    rw [f_isNode hm.1, Option.bind_some, f_isNode hm.1, Option.bind_some, f_isNode hm.1, Option.bind_some]
    by_cases q1 : am a 0 (nI (jn F) - 1) = true
    · rw [if_neg (bi_ne q1)]
      by_cases z2 : cnt < 2
      · rw [if_pos (show nI cnt < (2 : Int32) from nI_lt (b := 2) z2 (by decide)), if_pos (show nI cnt < (3 : Int32) from nI_lt (b := 3) (by omega) (by decide)), cif_t (T.mpr ⟨q1, fun z => by omega, fun z => by omega⟩)]
      · rw [if_neg (show ¬ nI cnt < (2 : Int32) from nI_nlt (b := 2) (by omega) (by omega))]
        by_cases q2 : am b 0 (nI (jn F) - 1) = true
        · rw [if_neg (bi_ne q2)]
          by_cases z3 : cnt < 3
          · rw [if_pos (show nI cnt < (3 : Int32) from nI_lt (b := 3) z3 (by decide)), cif_t (T.mpr ⟨q1, fun _ => q2, fun z => by omega⟩)]
          · rw [if_neg (show ¬ nI cnt < (3 : Int32) from nI_nlt (b := 3) (by omega) (by omega))]
            by_cases q3 : am c 0 (nI (jn F) - 1) = true
            · rw [if_neg (bi_ne q3), cif_t (T.mpr ⟨q1, fun _ => q2, fun _ => q3⟩)]
            · rw [if_pos (bi_eq q3), cif_f (fun z => q3 ((T.mp z).2.2 (by omega)))]
        · rw [if_pos (bi_eq q2), cif_f (fun z => q2 ((T.mp z).2.1 (by omega)))]
    · rw [if_pos (bi_eq q1), cif_f (fun z => q1 (T.mp z).1)]
  rw [e2]
  unfold parS
  by_cases q1 : parT F cnt (x3f a b c)
  · rw [cif_t q1, cif_t q1]
    have hx : ∀ j, j < cnt → x3f a b c j = nI (c3f a b c j) ∧ c3f a b c j < jn F := fun j hj => c3f_ok hl a b c j (q1 j hj)
    unfold b_Mo_chance_62
    rw [if_neg (show ¬ (1 : Int32) = 0 by decide), hm.1]
    by_cases q2 : jn F < 40
    · rw [cif_t q2, if_neg (fun z => by have := (nI_inj40 hl).mp z; omega), show (1 : Int32) = nI (if (1 : Nat) = 1 then 1 else 0) from rfl, mo_bar h hm hA hx, Option.bind_some]
      by_cases q3 : parK F cnt (c3f a b c)
      · rw [cif_t q3, cif_t q3, if_neg (by decide)]
        exact ⟨σ, rfl, hm, sm_rf _ _⟩
      · rw [cif_f q3, cif_f q3]
        by_cases q4 : parD F 1 cnt (c3f a b c)
        · rw [cif_t q4, cif_t q4, if_neg (by decide)]
          exact ⟨σ, rfl, hm, sm_rf _ _⟩
        · rw [cif_f q4, cif_f q4, if_pos rfl]
          obtain ⟨ρ, p1, p2, p3, p4, p5, p6, p7, p8, p9, p10, p11, p12⟩ := mk_node σ hm.1 q2 (nI (if (1 : Nat) = 1 then 1 else 0))
          rw [p1, Option.bind_some]
          exact mo_core h hm hA hx q2 q3 q4 p2 p3 p4 (fun i => by rw [p5, if_neg (show ¬ (1 : Nat) = 2 by decide)]) (fun i hi v hv => by rw [p6, if_neg (by omega), if_neg (by omega)]) p7 p8 p9 p10 p11 p12
    · rw [cif_f q2, if_pos ((nI_inj40 hl).mpr (by omega))]
      exact ⟨σ, rfl, hm, sm_rf _ _⟩
  · rw [cif_f q1, cif_f q1]
    exact ⟨σ, rfl, hm, sm_rf _ _⟩
theorem mo_node {σ : gS} {F : Fr} (h : WF F) (hm : MR σ F) (x a b c : Int32) : ∃ τ, f_Mo_node σ x a b c = some ((nodS F x a b c).1, τ) ∧ MR τ (nodS F x a b c).2 ∧ sm (fun c => c < 46 ∨ 58 ≤ c) σ τ := by
  unfold f_Mo_node b_Mo_node_0 nodS
  rw [f_isFrom, Option.bind_some, hm.2.1]
  by_cases q : am x 0 (nI (jk F) - 1) = true
  · rw [if_neg (bi_ne q), if_pos q]
    obtain ⟨k, hk, e, e2, hA⟩ := nodA h q
    have hk10 : k < 10 := by have := h.1.2; omega
    rw [e2, e, f_isNode hm.1, Option.bind_some, f_isNode hm.1, Option.bind_some, f_isNode hm.1, Option.bind_some, ck_t (okI_lt (k := 55) (n := k) (L := 10) rfl rfl hk10 (by decide)), hm.2.2.2.2.2.2.2.2.2.2 k hk]
    have hac := (h.2.1 k hk).2
    generalize hcn : jac F k = cnt at hA hac ⊢
    obtain ⟨a1, a2, -⟩ := id hA
    have hl := h.1.1
    have T : parT F cnt (x3f a b c) ↔ _ := parT_iff a1 a2
    have e3 : (if bi (am a 0 (nI (jn F) - 1)) = 0 then some ((-2 : Int32), σ) else if bi (am b 0 (nI (jn F) - 1)) = 0 then some (-2, σ) else if nI cnt ≤ 2 then b_Mo_node_52 (nI k) a b c σ else if bi (am c 0 (nI (jn F) - 1)) = 0 then some (-2, σ) else b_Mo_node_52 (nI k) a b c σ) = cif (parT F cnt (x3f a b c)) (b_Mo_node_52 (nI k) a b c σ) (some (-2, σ)) := by
      by_cases q1 : am a 0 (nI (jn F) - 1) = true
      · rw [if_neg (bi_ne q1)]
        by_cases q2 : am b 0 (nI (jn F) - 1) = true
        · rw [if_neg (bi_ne q2)]
          by_cases z3 : cnt ≤ 2
          · rw [if_pos (show nI cnt ≤ (2 : Int32) from nI_le (b := 2) z3 (by decide)), cif_t (T.mpr ⟨q1, fun _ => q2, fun z => by omega⟩)]
          · rw [if_neg (show ¬ nI cnt ≤ (2 : Int32) from nI_ge (a := 2) (by omega) (by omega))]
            by_cases q3 : am c 0 (nI (jn F) - 1) = true
            · rw [if_neg (bi_ne q3), cif_t (T.mpr ⟨q1, fun _ => q2, fun _ => q3⟩)]
            · rw [if_pos (bi_eq q3), cif_f (fun z => q3 ((T.mp z).2.2 (by omega)))]
        · rw [if_pos (bi_eq q2), cif_f (fun z => q2 ((T.mp z).2.1 (by omega)))]
      · rw [if_pos (bi_eq q1), cif_f (fun z => q1 (T.mp z).1)]
    rw [e3]
    unfold parS
    by_cases q1 : parT F cnt (x3f a b c)
    · rw [cif_t q1, cif_t q1]
      have hx : ∀ j, j < cnt → x3f a b c j = nI (c3f a b c j) ∧ c3f a b c j < jn F := fun j hj => c3f_ok hl a b c j (q1 j hj)
      unfold b_Mo_node_52
      rw [hm.1]
      by_cases q2 : jn F < 40
      · rw [cif_t q2, if_neg (fun z => by have := (nI_inj40 hl).mp z; omega), ck_t (okI_lt (k := 55) (n := k) (L := 10) rfl rfl hk10 (by decide)), bnd_e, nI_c (by omega), hm.2.2.2.2.2.2.2.2.2.2 k hk, hcn, show (0 : Int32) = nI (if (2 : Nat) = 1 then 1 else 0) from rfl, mo_bar h hm hA hx, Option.bind_some]
        by_cases q3 : parK F cnt (c3f a b c)
        · rw [cif_t q3, cif_t q3, if_neg (by decide)]
          exact ⟨σ, rfl, hm, sm_rf _ _⟩
        · rw [cif_f q3, cif_f q3]
          by_cases q4 : parD F 2 cnt (c3f a b c)
          · rw [cif_t q4, cif_t q4, if_neg (by decide)]
            exact ⟨σ, rfl, hm, sm_rf _ _⟩
          · rw [cif_f q4, cif_f q4, if_pos (show (0 : Int32) = nI (if (2 : Nat) = 1 then 1 else 0) from rfl)]
            obtain ⟨ρ, p1, p2, p3, p4, p5, p6, p7, p8, p9, p10, p11, p12⟩ := mk_node σ hm.1 q2 2
            rw [p1, Option.bind_some, bnd_e, ck_t (okI_lt (k := 48) (n := jn F) (L := 40) rfl rfl q2 (by decide)), bnd_e, nI_c (by omega)]
            refine mo_core (ρ := sI ρ 48 (jn F) (nI k)) h hm hA hx q2 q3 q4 ?_ ?_ ?_ ?_ ?_ ?_ ?_ ?_ ?_ ?_ ?_
            · rw [gI_cell _ _ _ _ (by decide)]; exact p2
            · rw [gI_cell _ _ _ _ (by decide)]; exact p3
            · intro i; rw [gI_cell _ _ _ _ (by decide)]; exact p4 i
            · intro i
              rw [gI_sI]
              by_cases z : i = jn F
              · rw [if_pos ⟨rfl, z⟩, if_pos z]; rfl
              · rw [if_neg (fun w => z w.2), if_neg z, p5, if_neg z]
            · intro i hi v hv; rw [gI_cell _ _ _ _ (by decide), p6, if_neg (by omega), if_neg (by omega)]
            · intro i; rw [gI_cell _ _ _ _ (by decide)]; exact p7 i
            · intro i; rw [gI_cell _ _ _ _ (by decide)]; exact p8 i
            · intro i; rw [gI_cell _ _ _ _ (by decide)]; exact p9 i
            · intro j hj; rw [gI_cell _ _ _ _ (by decide)]; exact p10 j hj
            · intro i hi; rw [gI_cell _ _ _ _ (by decide)]; exact p11 i hi
            · exact p12.tr (sm_sI _ _ _ (by decide))
      · rw [cif_f q2, if_pos ((nI_inj40 hl).mpr (by omega))]
        exact ⟨σ, rfl, hm, sm_rf _ _⟩
    · rw [cif_f q1, cif_f q1]
      exact ⟨σ, rfl, hm, sm_rf _ _⟩
  · rw [if_pos (bi_eq q), if_neg q]
    exact ⟨σ, rfl, hm, sm_rf _ _⟩
