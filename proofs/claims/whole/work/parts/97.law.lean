/-! the law, call by call -/
theorem law_more {L i : Nat} (hi : 5 * i + 5 ≤ L) (hL : L ≤ 2560) : ¬ (Int32.ofNat L - 5 < nI (5 * i)) := by
  show ¬ (nI L - nI 5 < nI (5 * i))
  rw [Int32.lt_iff_toInt_lt, pk_sub_toInt (by omega) (by decide), nI_toInt (by omega)]
  omega
theorem law_done {L : Nat} (hL : L ≤ 2560) : Int32.ofNat L - 5 < nI (5 * (L / 5)) := by
  show nI L - nI 5 < nI (5 * (L / 5))
  rw [Int32.lt_iff_toInt_lt, pk_sub_toInt (by omega) (by decide), nI_toInt (by omega)]
  omega
theorem law_next (L : Nat) (xs : Nat → Int32) (k : Int32 × gS → Option (Int32 × gS)) (i : Nat) (σ : gS) : b_La_law_740 L xs k (nI (5 * i)) σ = k (nI (5 * (i + 1)), σ) := by
  unfold b_La_law_740
  rw [bnd_e]
  exact congrArg (fun x => k (x, σ)) (nI_add (5 * i) 5)
theorem law_op_0 {L : Nat} {xs : Nat → Int32} {i : Nat} (hi : 5 * i + 5 ≤ L) (hL : L ≤ 2560) {σ : gS} {F : Fr} {t : Nat} (ht : t < 1000) (I : IvG σ F t) (hy : xs (5 * i) &&& 31 = nI 0) : ∃ τ F', IvG τ F' (t + 1) ∧ ∀ k, b_La_law_18 L xs k (nI (5 * i)) σ = k (nI (5 * (i + 1)), τ) := by
  obtain ⟨τ1, e1, c1, v1, s1⟩ := ga_clear I.2.2.1
  have m1 : MR τ1 F := MR_sm (s1.less (fun c hc => by have : 46 ≤ c := hc; show c ≠ 1; omega)) I.2.1
  obtain ⟨τ2, e2, m2, s2⟩ := mo_clear m1
  refine ⟨τ2, clrS F, Inv_m ht I (WF_clr F) c1 (Or.inr v1) (s1.less (fun c hc => by have : 16 ≤ c := hc; show c ≠ 1; omega)) m2 (s2.less (fun c hc => by have : c < 46 := hc; show c ≠ 46; omega)), fun k => ?_⟩
  unfold b_La_law_18
  rw [if_neg (law_more hi hL), ck_t (inb_nI (n := 5 * i) (N := L) (by omega) (by omega)), nI_c (n := 5 * i) (by omega), hy, if_neg (show ¬ nI 0 < 0 by decide), if_neg (show ¬ (17 : Int32) < nI 0 by decide), if_pos (show nI 0 = 0 from rfl)]
  rw [e1, Option.bind_some, e2, Option.bind_some, if_pos rfl, law_next]
theorem law_op_1 {L : Nat} {xs : Nat → Int32} {i : Nat} (hi : 5 * i + 5 ≤ L) (hL : L ≤ 2560) {σ : gS} {F : Fr} {t : Nat} (ht : t < 1000) (I : IvG σ F t) (hy : xs (5 * i) &&& 31 = nI 1) : ∃ τ F', IvG τ F' (t + 1) ∧ ∀ k, b_La_law_18 L xs k (nI (5 * i)) σ = k (nI (5 * (i + 1)), τ) := by
  obtain ⟨τ1, e1, c1, v1, s1⟩ := ga_set I.1 I.2.2.1 (xs (5 * i + 1)) (xs (5 * i + 2))
  have m1 : MR τ1 F := MR_sm (s1.less (fun c hc => by have : 46 ≤ c := hc; show 15 ≤ c; omega)) I.2.1
  obtain ⟨τ2, e2, m2, s2⟩ := mo_set I.1 m1 (xs (5 * i + 1)) (xs (5 * i + 2))
  refine ⟨τ2, _, Inv_set I (xs (5 * i + 1)) (xs (5 * i + 2)) c1 v1 s1 m2 (s2.less (fun c hc => Or.inl hc)), fun k => ?_⟩
  unfold b_La_law_18
  rw [if_neg (law_more hi hL), ck_t (inb_nI (n := 5 * i) (N := L) (by omega) (by omega)), nI_c (n := 5 * i) (by omega), hy, if_neg (show ¬ nI 1 < 0 by decide), if_neg (show ¬ (17 : Int32) < nI 1 by decide), if_neg (show ¬ nI 1 = 0 by decide), if_pos (show nI 1 = 1 from rfl)]
  simp only [show nI (5 * i) + 1 = nI (5 * i + 1) from nI_add (5 * i) 1, show nI (5 * i) + 2 = nI (5 * i + 2) from nI_add (5 * i) 2, ck_t (inb_nI (n := 5 * i + 1) (N := L) (by omega) (by omega)), ck_t (inb_nI (n := 5 * i + 2) (N := L) (by omega) (by omega)), nI_c (n := 5 * i + 1) (by omega), nI_c (n := 5 * i + 2) (by omega)]
  rw [e1, Option.bind_some, e2, Option.bind_some, if_pos rfl, law_next]
theorem law_op_2 {L : Nat} {xs : Nat → Int32} {i : Nat} (hi : 5 * i + 5 ≤ L) (hL : L ≤ 2560) {σ : gS} {F : Fr} {t : Nat} (ht : t < 1000) (I : IvG σ F t) (hy : xs (5 * i) &&& 31 = nI 2) : ∃ τ F', IvG τ F' (t + 1) ∧ ∀ k, b_La_law_18 L xs k (nI (5 * i)) σ = k (nI (5 * (i + 1)), τ) := by
  obtain ⟨τ1, e1, c1, v1, s1⟩ := ga_end I.1 I.2.2.1 (xs (5 * i + 1)) (xs (5 * i + 2))
  have m1 : MR τ1 F := MR_sm (s1.less (fun c hc => by have : 46 ≤ c := hc; show 15 ≤ c; omega)) I.2.1
  obtain ⟨τ2, e2, m2, s2⟩ := mo_end I.1 m1 (xs (5 * i + 1)) (xs (5 * i + 2))
  refine ⟨τ2, _, Inv_m ht I (WF_endS I.1 (xs (5 * i + 1)) (xs (5 * i + 2))) c1 (v1.imp (fun q => ⟨by rw [q.1], q.2⟩) id) (s1.less (fun c hc => by have : 16 ≤ c := hc; show 15 ≤ c; omega)) m2 (s2.less (fun c hc => Or.inl hc)), fun k => ?_⟩
  unfold b_La_law_18
  rw [if_neg (law_more hi hL), ck_t (inb_nI (n := 5 * i) (N := L) (by omega) (by omega)), nI_c (n := 5 * i) (by omega), hy, if_neg (show ¬ nI 2 < 0 by decide), if_neg (show ¬ (17 : Int32) < nI 2 by decide), if_neg (show ¬ nI 2 = 0 by decide), if_neg (show ¬ nI 2 = 1 by decide), if_pos (show nI 2 = 2 from rfl)]
  simp only [show nI (5 * i) + 1 = nI (5 * i + 1) from nI_add (5 * i) 1, show nI (5 * i) + 2 = nI (5 * i + 2) from nI_add (5 * i) 2, ck_t (inb_nI (n := 5 * i + 1) (N := L) (by omega) (by omega)), ck_t (inb_nI (n := 5 * i + 2) (N := L) (by omega) (by omega)), nI_c (n := 5 * i + 1) (by omega), nI_c (n := 5 * i + 2) (by omega)]
  rw [e1, Option.bind_some, e2, Option.bind_some, if_pos rfl, law_next]
theorem law_op_3 {L : Nat} {xs : Nat → Int32} {i : Nat} (hi : 5 * i + 5 ≤ L) (hL : L ≤ 2560) {σ : gS} {F : Fr} {t : Nat} (ht : t < 1000) (I : IvG σ F t) (hy : xs (5 * i) &&& 31 = nI 3) : ∃ τ F', IvG τ F' (t + 1) ∧ ∀ k, b_La_law_18 L xs k (nI (5 * i)) σ = k (nI (5 * (i + 1)), τ) := by
  obtain ⟨τ1, e1, c1, v1, s1⟩ := ga_chance I.1 I.2.2.1 (xs (5 * i + 1)) (xs (5 * i + 2)) (xs (5 * i + 3))
  have m1 : MR τ1 F := MR_sm (s1.less (fun c hc => by have : 46 ≤ c := hc; show 16 ≤ c; omega)) I.2.1
  obtain ⟨τ2, e2, m2, s2⟩ := mo_chance I.1 m1 (xs (5 * i + 1)) (xs (5 * i + 2)) (xs (5 * i + 3))
  refine ⟨τ2, _, Inv_m ht I (WF_chaS I.1 (xs (5 * i + 1)) (xs (5 * i + 2)) (xs (5 * i + 3))) c1 v1 s1 m2 (s2.less (fun c hc => Or.inl hc)), fun k => ?_⟩
  unfold b_La_law_18
  rw [if_neg (law_more hi hL), ck_t (inb_nI (n := 5 * i) (N := L) (by omega) (by omega)), nI_c (n := 5 * i) (by omega), hy, if_neg (show ¬ nI 3 < 0 by decide), if_neg (show ¬ (17 : Int32) < nI 3 by decide), if_neg (show ¬ nI 3 = 0 by decide), if_neg (show ¬ nI 3 = 1 by decide), if_neg (show ¬ nI 3 = 2 by decide), if_pos (show nI 3 = 3 from rfl)]
  simp only [show nI (5 * i) + 1 = nI (5 * i + 1) from nI_add (5 * i) 1, show nI (5 * i) + 2 = nI (5 * i + 2) from nI_add (5 * i) 2, show nI (5 * i) + 3 = nI (5 * i + 3) from nI_add (5 * i) 3, ck_t (inb_nI (n := 5 * i + 1) (N := L) (by omega) (by omega)), ck_t (inb_nI (n := 5 * i + 2) (N := L) (by omega) (by omega)), ck_t (inb_nI (n := 5 * i + 3) (N := L) (by omega) (by omega)), nI_c (n := 5 * i + 1) (by omega), nI_c (n := 5 * i + 2) (by omega), nI_c (n := 5 * i + 3) (by omega)]
  rw [e1, Option.bind_some, e2, Option.bind_some, if_pos rfl, law_next]
theorem law_op_4 {L : Nat} {xs : Nat → Int32} {i : Nat} (hi : 5 * i + 5 ≤ L) (hL : L ≤ 2560) {σ : gS} {F : Fr} {t : Nat} (ht : t < 1000) (I : IvG σ F t) (hy : xs (5 * i) &&& 31 = nI 4) : ∃ τ F', IvG τ F' (t + 1) ∧ ∀ k, b_La_law_18 L xs k (nI (5 * i)) σ = k (nI (5 * (i + 1)), τ) := by
  obtain ⟨τ1, e1, c1, v1, s1⟩ := ga_node I.1 I.2.2.1 (xs (5 * i + 1)) (xs (5 * i + 2)) (xs (5 * i + 3)) (xs (5 * i + 4))
  have m1 : MR τ1 F := MR_sm (s1.less (fun c hc => by have : 46 ≤ c := hc; show 16 ≤ c; omega)) I.2.1
  obtain ⟨τ2, e2, m2, s2⟩ := mo_node I.1 m1 (xs (5 * i + 1)) (xs (5 * i + 2)) (xs (5 * i + 3)) (xs (5 * i + 4))
  refine ⟨τ2, _, Inv_m ht I (WF_nodS I.1 (xs (5 * i + 1)) (xs (5 * i + 2)) (xs (5 * i + 3)) (xs (5 * i + 4))) c1 v1 s1 m2 (s2.less (fun c hc => Or.inl hc)), fun k => ?_⟩
  unfold b_La_law_18
  rw [if_neg (law_more hi hL), ck_t (inb_nI (n := 5 * i) (N := L) (by omega) (by omega)), nI_c (n := 5 * i) (by omega), hy, if_neg (show ¬ nI 4 < 0 by decide), if_neg (show ¬ (17 : Int32) < nI 4 by decide), if_neg (show ¬ nI 4 = 0 by decide), if_neg (show ¬ nI 4 = 1 by decide), if_neg (show ¬ nI 4 = 2 by decide), if_neg (show ¬ nI 4 = 3 by decide), if_pos (show nI 4 = 4 from rfl)]
  simp only [show nI (5 * i) + 1 = nI (5 * i + 1) from nI_add (5 * i) 1, show nI (5 * i) + 2 = nI (5 * i + 2) from nI_add (5 * i) 2, show nI (5 * i) + 3 = nI (5 * i + 3) from nI_add (5 * i) 3, show nI (5 * i) + 4 = nI (5 * i + 4) from nI_add (5 * i) 4, ck_t (inb_nI (n := 5 * i + 1) (N := L) (by omega) (by omega)), ck_t (inb_nI (n := 5 * i + 2) (N := L) (by omega) (by omega)), ck_t (inb_nI (n := 5 * i + 3) (N := L) (by omega) (by omega)), ck_t (inb_nI (n := 5 * i + 4) (N := L) (by omega) (by omega)), nI_c (n := 5 * i + 1) (by omega), nI_c (n := 5 * i + 2) (by omega), nI_c (n := 5 * i + 3) (by omega), nI_c (n := 5 * i + 4) (by omega)]
  rw [e1, Option.bind_some, e2, Option.bind_some, if_pos rfl, law_next]
theorem law_op_5 {L : Nat} {xs : Nat → Int32} {i : Nat} (hi : 5 * i + 5 ≤ L) (hL : L ≤ 2560) {σ : gS} {F : Fr} {t : Nat} (ht : t < 1000) (I : IvG σ F t) (hy : xs (5 * i) &&& 31 = nI 5) : ∃ τ F', IvG τ F' (t + 1) ∧ ∀ k, b_La_law_18 L xs k (nI (5 * i)) σ = k (nI (5 * (i + 1)), τ) := by
  obtain ⟨τ1, e1, q1⟩ := ga_count I.1 I.2.2.1 I.2.2.2.1 (xs (5 * i + 1))
  have g1 : GK σ F τ1 := q1
  obtain ⟨τ2, e2, m2, s2⟩ := mo_count I.1 (GK_MR I g1) (xs (5 * i + 1))
  refine ⟨τ2, F, Inv_q I g1 m2 s2, fun k => ?_⟩
  unfold b_La_law_18
  rw [if_neg (law_more hi hL), ck_t (inb_nI (n := 5 * i) (N := L) (by omega) (by omega)), nI_c (n := 5 * i) (by omega), hy, if_neg (show ¬ nI 5 < 0 by decide), if_neg (show ¬ (17 : Int32) < nI 5 by decide), if_neg (show ¬ nI 5 = 0 by decide), if_neg (show ¬ nI 5 = 1 by decide), if_neg (show ¬ nI 5 = 2 by decide), if_neg (show ¬ nI 5 = 3 by decide), if_neg (show ¬ nI 5 = 4 by decide), if_pos (show nI 5 = 5 from rfl)]
  simp only [show nI (5 * i) + 1 = nI (5 * i + 1) from nI_add (5 * i) 1, ck_t (inb_nI (n := 5 * i + 1) (N := L) (by omega) (by omega)), nI_c (n := 5 * i + 1) (by omega)]
  rw [e1, Option.bind_some, e2, Option.bind_some, if_pos rfl, law_next]
theorem law_op_6 {L : Nat} {xs : Nat → Int32} {i : Nat} (hi : 5 * i + 5 ≤ L) (hL : L ≤ 2560) {σ : gS} {F : Fr} {t : Nat} (ht : t < 1000) (I : IvG σ F t) (hy : xs (5 * i) &&& 31 = nI 6) : ∃ τ F', IvG τ F' (t + 1) ∧ ∀ k, b_La_law_18 L xs k (nI (5 * i)) σ = k (nI (5 * (i + 1)), τ) := by
  have e1 := ga_told I.1 I.2.2.1 (xs (5 * i + 1)) (xs (5 * i + 2))
  have e2 := mo_told I.1 I.2.1 (xs (5 * i + 1)) (xs (5 * i + 2))
  refine ⟨σ, F, Inv_up I, fun k => ?_⟩
  unfold b_La_law_18
  rw [if_neg (law_more hi hL), ck_t (inb_nI (n := 5 * i) (N := L) (by omega) (by omega)), nI_c (n := 5 * i) (by omega), hy, if_neg (show ¬ nI 6 < 0 by decide), if_neg (show ¬ (17 : Int32) < nI 6 by decide), if_neg (show ¬ nI 6 = 0 by decide), if_neg (show ¬ nI 6 = 1 by decide), if_neg (show ¬ nI 6 = 2 by decide), if_neg (show ¬ nI 6 = 3 by decide), if_neg (show ¬ nI 6 = 4 by decide), if_neg (show ¬ nI 6 = 5 by decide), if_pos (show nI 6 = 6 from rfl)]
  simp only [show nI (5 * i) + 1 = nI (5 * i + 1) from nI_add (5 * i) 1, show nI (5 * i) + 2 = nI (5 * i + 2) from nI_add (5 * i) 2, ck_t (inb_nI (n := 5 * i + 1) (N := L) (by omega) (by omega)), ck_t (inb_nI (n := 5 * i + 2) (N := L) (by omega) (by omega)), nI_c (n := 5 * i + 1) (by omega), nI_c (n := 5 * i + 2) (by omega)]
  rw [e1, Option.bind_some, e2, Option.bind_some, if_pos rfl, law_next]
theorem law_op_7 {L : Nat} {xs : Nat → Int32} {i : Nat} (hi : 5 * i + 5 ≤ L) (hL : L ≤ 2560) {σ : gS} {F : Fr} {t : Nat} (ht : t < 1000) (I : IvG σ F t) (hy : xs (5 * i) &&& 31 = nI 7) : ∃ τ F', IvG τ F' (t + 1) ∧ ∀ k, b_La_law_18 L xs k (nI (5 * i)) σ = k (nI (5 * (i + 1)), τ) := by
  have e1 := ga_act I.1 I.2.2.1 (xs (5 * i + 1)) (xs (5 * i + 2)) (xs (5 * i + 3))
  have g1 : GK σ F σ := GK_rf I.2.2.2.1
  obtain ⟨τ2, e2, m2, s2⟩ := mo_act I.1 (GK_MR I g1) (xs (5 * i + 1)) (xs (5 * i + 2)) (xs (5 * i + 3))
  refine ⟨τ2, F, Inv_q I g1 m2 s2, fun k => ?_⟩
  unfold b_La_law_18
  rw [if_neg (law_more hi hL), ck_t (inb_nI (n := 5 * i) (N := L) (by omega) (by omega)), nI_c (n := 5 * i) (by omega), hy, if_neg (show ¬ nI 7 < 0 by decide), if_neg (show ¬ (17 : Int32) < nI 7 by decide), if_neg (show ¬ nI 7 = 0 by decide), if_neg (show ¬ nI 7 = 1 by decide), if_neg (show ¬ nI 7 = 2 by decide), if_neg (show ¬ nI 7 = 3 by decide), if_neg (show ¬ nI 7 = 4 by decide), if_neg (show ¬ nI 7 = 5 by decide), if_neg (show ¬ nI 7 = 6 by decide), if_pos (show nI 7 = 7 from rfl)]
  simp only [show nI (5 * i) + 1 = nI (5 * i + 1) from nI_add (5 * i) 1, show nI (5 * i) + 2 = nI (5 * i + 2) from nI_add (5 * i) 2, show nI (5 * i) + 3 = nI (5 * i + 3) from nI_add (5 * i) 3, ck_t (inb_nI (n := 5 * i + 1) (N := L) (by omega) (by omega)), ck_t (inb_nI (n := 5 * i + 2) (N := L) (by omega) (by omega)), ck_t (inb_nI (n := 5 * i + 3) (N := L) (by omega) (by omega)), nI_c (n := 5 * i + 1) (by omega), nI_c (n := 5 * i + 2) (by omega), nI_c (n := 5 * i + 3) (by omega)]
  rw [e1, Option.bind_some, e2, Option.bind_some, if_pos rfl, law_next]
theorem law_op_8 {L : Nat} {xs : Nat → Int32} {i : Nat} (hi : 5 * i + 5 ≤ L) (hL : L ≤ 2560) {σ : gS} {F : Fr} {t : Nat} (ht : t < 1000) (I : IvG σ F t) (hy : xs (5 * i) &&& 31 = nI 8) : ∃ τ F', IvG τ F' (t + 1) ∧ ∀ k, b_La_law_18 L xs k (nI (5 * i)) σ = k (nI (5 * (i + 1)), τ) := by
  obtain ⟨τ1, e1, q1⟩ := ga_worth I.1 I.2.2.1 I.2.2.2.1.1 I.2.2.2.1.2.1 (xs (5 * i + 1)) (xs (5 * i + 2)) (xs (5 * i + 3))
  have g1 : GK σ F τ1 := TK_GK I.2.2.2.1 q1
  obtain ⟨τ2, e2, m2, s2⟩ := mo_worth I.1 (GK_MR I g1) (xs (5 * i + 1)) (xs (5 * i + 2)) (xs (5 * i + 3))
  refine ⟨τ2, F, Inv_q I g1 m2 s2, fun k => ?_⟩
  unfold b_La_law_18
  rw [if_neg (law_more hi hL), ck_t (inb_nI (n := 5 * i) (N := L) (by omega) (by omega)), nI_c (n := 5 * i) (by omega), hy, if_neg (show ¬ nI 8 < 0 by decide), if_neg (show ¬ (17 : Int32) < nI 8 by decide), if_neg (show ¬ nI 8 = 0 by decide), if_neg (show ¬ nI 8 = 1 by decide), if_neg (show ¬ nI 8 = 2 by decide), if_neg (show ¬ nI 8 = 3 by decide), if_neg (show ¬ nI 8 = 4 by decide), if_neg (show ¬ nI 8 = 5 by decide), if_neg (show ¬ nI 8 = 6 by decide), if_neg (show ¬ nI 8 = 7 by decide), if_pos (show nI 8 = 8 from rfl)]
  simp only [show nI (5 * i) + 1 = nI (5 * i + 1) from nI_add (5 * i) 1, show nI (5 * i) + 2 = nI (5 * i + 2) from nI_add (5 * i) 2, show nI (5 * i) + 3 = nI (5 * i + 3) from nI_add (5 * i) 3, ck_t (inb_nI (n := 5 * i + 1) (N := L) (by omega) (by omega)), ck_t (inb_nI (n := 5 * i + 2) (N := L) (by omega) (by omega)), ck_t (inb_nI (n := 5 * i + 3) (N := L) (by omega) (by omega)), nI_c (n := 5 * i + 1) (by omega), nI_c (n := 5 * i + 2) (by omega), nI_c (n := 5 * i + 3) (by omega)]
  rw [e1, Option.bind_some, e2, Option.bind_some, if_pos rfl, law_next]
theorem law_op_9 {L : Nat} {xs : Nat → Int32} {i : Nat} (hi : 5 * i + 5 ≤ L) (hL : L ≤ 2560) {σ : gS} {F : Fr} {t : Nat} (ht : t < 1000) (I : IvG σ F t) (hy : xs (5 * i) &&& 31 = nI 9) : ∃ τ F', IvG τ F' (t + 1) ∧ ∀ k, b_La_law_18 L xs k (nI (5 * i)) σ = k (nI (5 * (i + 1)), τ) := by
  obtain ⟨τ1, e1, q1⟩ := ga_answer I.1 I.2.2.1 I.2.2.2.1.1 I.2.2.2.1.2.1 (xs (5 * i + 1)) (xs (5 * i + 2))
  have g1 : GK σ F τ1 := TK_GK I.2.2.2.1 q1
  obtain ⟨τ2, e2, m2, s2⟩ := mo_answer I.1 (GK_MR I g1) (xs (5 * i + 1)) (xs (5 * i + 2))
  refine ⟨τ2, F, Inv_q I g1 m2 s2, fun k => ?_⟩
  unfold b_La_law_18
  rw [if_neg (law_more hi hL), ck_t (inb_nI (n := 5 * i) (N := L) (by omega) (by omega)), nI_c (n := 5 * i) (by omega), hy, if_neg (show ¬ nI 9 < 0 by decide), if_neg (show ¬ (17 : Int32) < nI 9 by decide), if_neg (show ¬ nI 9 = 0 by decide), if_neg (show ¬ nI 9 = 1 by decide), if_neg (show ¬ nI 9 = 2 by decide), if_neg (show ¬ nI 9 = 3 by decide), if_neg (show ¬ nI 9 = 4 by decide), if_neg (show ¬ nI 9 = 5 by decide), if_neg (show ¬ nI 9 = 6 by decide), if_neg (show ¬ nI 9 = 7 by decide), if_neg (show ¬ nI 9 = 8 by decide), if_pos (show nI 9 = 9 from rfl)]
  simp only [show nI (5 * i) + 1 = nI (5 * i + 1) from nI_add (5 * i) 1, show nI (5 * i) + 2 = nI (5 * i + 2) from nI_add (5 * i) 2, ck_t (inb_nI (n := 5 * i + 1) (N := L) (by omega) (by omega)), ck_t (inb_nI (n := 5 * i + 2) (N := L) (by omega) (by omega)), nI_c (n := 5 * i + 1) (by omega), nI_c (n := 5 * i + 2) (by omega)]
  rw [e1, Option.bind_some, e2, Option.bind_some, if_pos rfl, law_next]
theorem law_op_10 {L : Nat} {xs : Nat → Int32} {i : Nat} (hi : 5 * i + 5 ≤ L) (hL : L ≤ 2560) {σ : gS} {F : Fr} {t : Nat} (ht : t < 1000) (I : IvG σ F t) (hy : xs (5 * i) &&& 31 = nI 10) : ∃ τ F', IvG τ F' (t + 1) ∧ ∀ k, b_La_law_18 L xs k (nI (5 * i)) σ = k (nI (5 * (i + 1)), τ) := by
  have main : ∀ pf : Bool, ∃ τ1 τ2, f_Ga_point σ (bi pf) (xs (5 * i + 2)) = some (poiA F pf (xs (5 * i + 2)), τ1) ∧ f_Mo_point τ1 (bi pf) (xs (5 * i + 2)) = some (poiA F pf (xs (5 * i + 2)), τ2) ∧ IvG τ2 F (t + 1) := fun pf => by
    obtain ⟨τ1, e1, q1⟩ := ga_point I.1 I.2.2.1 I.2.2.2.1.1 I.2.2.2.1.2.1 I.2.2.2.1.2.2.1 pf (xs (5 * i + 2))
    have g1 : GK σ F τ1 := PK_GK I.2.2.2.1 q1
    obtain ⟨τ2, e2, m2, s2⟩ := mo_point I.1 (GK_MR I g1) pf (xs (5 * i + 2))
    exact ⟨τ1, τ2, e1, e2, Inv_q I g1 m2 s2⟩
  by_cases z : xs (5 * i + 1) = 0
  · obtain ⟨τ1, τ2, e1, e2, J⟩ := main false
    refine ⟨τ2, F, J, fun k => ?_⟩
    unfold b_La_law_18
    rw [if_neg (law_more hi hL), ck_t (inb_nI (n := 5 * i) (N := L) (by omega) (by omega)), nI_c (n := 5 * i) (by omega), hy, if_neg (show ¬ nI 10 < 0 by decide), if_neg (show ¬ (17 : Int32) < nI 10 by decide), if_neg (show ¬ nI 10 = 0 by decide), if_neg (show ¬ nI 10 = 1 by decide), if_neg (show ¬ nI 10 = 2 by decide), if_neg (show ¬ nI 10 = 3 by decide), if_neg (show ¬ nI 10 = 4 by decide), if_neg (show ¬ nI 10 = 5 by decide), if_neg (show ¬ nI 10 = 6 by decide), if_neg (show ¬ nI 10 = 7 by decide), if_neg (show ¬ nI 10 = 8 by decide), if_neg (show ¬ nI 10 = 9 by decide), if_pos (show nI 10 = 10 from rfl)]
    simp only [show nI (5 * i) + 1 = nI (5 * i + 1) from nI_add (5 * i) 1, show nI (5 * i) + 2 = nI (5 * i + 2) from nI_add (5 * i) 2, ck_t (inb_nI (n := 5 * i + 1) (N := L) (by omega) (by omega)), ck_t (inb_nI (n := 5 * i + 2) (N := L) (by omega) (by omega)), nI_c (n := 5 * i + 1) (by omega), nI_c (n := 5 * i + 2) (by omega)]
    rw [if_pos z]
    unfold b_La_law_484
    simp only [show nI (5 * i) + 1 = nI (5 * i + 1) from nI_add (5 * i) 1, show nI (5 * i) + 2 = nI (5 * i + 2) from nI_add (5 * i) 2, ck_t (inb_nI (n := 5 * i + 1) (N := L) (by omega) (by omega)), ck_t (inb_nI (n := 5 * i + 2) (N := L) (by omega) (by omega)), nI_c (n := 5 * i + 1) (by omega), nI_c (n := 5 * i + 2) (by omega)]
    rw [show f_Ga_point σ 0 (xs (5 * i + 2)) = _ from e1, Option.bind_some, if_pos z]
    unfold b_La_law_506
    simp only [show nI (5 * i) + 1 = nI (5 * i + 1) from nI_add (5 * i) 1, show nI (5 * i) + 2 = nI (5 * i + 2) from nI_add (5 * i) 2, ck_t (inb_nI (n := 5 * i + 1) (N := L) (by omega) (by omega)), ck_t (inb_nI (n := 5 * i + 2) (N := L) (by omega) (by omega)), nI_c (n := 5 * i + 1) (by omega), nI_c (n := 5 * i + 2) (by omega)]
    rw [show f_Mo_point τ1 0 (xs (5 * i + 2)) = _ from e2, Option.bind_some, if_pos rfl, law_next]
  · obtain ⟨τ1, τ2, e1, e2, J⟩ := main true
    refine ⟨τ2, F, J, fun k => ?_⟩
    unfold b_La_law_18
    rw [if_neg (law_more hi hL), ck_t (inb_nI (n := 5 * i) (N := L) (by omega) (by omega)), nI_c (n := 5 * i) (by omega), hy, if_neg (show ¬ nI 10 < 0 by decide), if_neg (show ¬ (17 : Int32) < nI 10 by decide), if_neg (show ¬ nI 10 = 0 by decide), if_neg (show ¬ nI 10 = 1 by decide), if_neg (show ¬ nI 10 = 2 by decide), if_neg (show ¬ nI 10 = 3 by decide), if_neg (show ¬ nI 10 = 4 by decide), if_neg (show ¬ nI 10 = 5 by decide), if_neg (show ¬ nI 10 = 6 by decide), if_neg (show ¬ nI 10 = 7 by decide), if_neg (show ¬ nI 10 = 8 by decide), if_neg (show ¬ nI 10 = 9 by decide), if_pos (show nI 10 = 10 from rfl)]
    simp only [show nI (5 * i) + 1 = nI (5 * i + 1) from nI_add (5 * i) 1, show nI (5 * i) + 2 = nI (5 * i + 2) from nI_add (5 * i) 2, ck_t (inb_nI (n := 5 * i + 1) (N := L) (by omega) (by omega)), ck_t (inb_nI (n := 5 * i + 2) (N := L) (by omega) (by omega)), nI_c (n := 5 * i + 1) (by omega), nI_c (n := 5 * i + 2) (by omega)]
    rw [if_neg z]
    unfold b_La_law_484
    simp only [show nI (5 * i) + 1 = nI (5 * i + 1) from nI_add (5 * i) 1, show nI (5 * i) + 2 = nI (5 * i + 2) from nI_add (5 * i) 2, ck_t (inb_nI (n := 5 * i + 1) (N := L) (by omega) (by omega)), ck_t (inb_nI (n := 5 * i + 2) (N := L) (by omega) (by omega)), nI_c (n := 5 * i + 1) (by omega), nI_c (n := 5 * i + 2) (by omega)]
    rw [show f_Ga_point σ 1 (xs (5 * i + 2)) = _ from e1, Option.bind_some, if_neg z]
    unfold b_La_law_506
    simp only [show nI (5 * i) + 1 = nI (5 * i + 1) from nI_add (5 * i) 1, show nI (5 * i) + 2 = nI (5 * i + 2) from nI_add (5 * i) 2, ck_t (inb_nI (n := 5 * i + 1) (N := L) (by omega) (by omega)), ck_t (inb_nI (n := 5 * i + 2) (N := L) (by omega) (by omega)), nI_c (n := 5 * i + 1) (by omega), nI_c (n := 5 * i + 2) (by omega)]
    rw [show f_Mo_point τ1 1 (xs (5 * i + 2)) = _ from e2, Option.bind_some, if_pos rfl, law_next]
theorem law_op_11 {L : Nat} {xs : Nat → Int32} {i : Nat} (hi : 5 * i + 5 ≤ L) (hL : L ≤ 2560) {σ : gS} {F : Fr} {t : Nat} (ht : t < 1000) (I : IvG σ F t) (hy : xs (5 * i) &&& 31 = nI 11) : ∃ τ F', IvG τ F' (t + 1) ∧ ∀ k, b_La_law_18 L xs k (nI (5 * i)) σ = k (nI (5 * (i + 1)), τ) := by
  have e1 := ga_within I.1 I.2.2.1 (xs (5 * i + 1))
  have g1 : GK σ F σ := GK_rf I.2.2.2.1
  obtain ⟨τ2, e2, m2, s2⟩ := mo_within I.1 (GK_MR I g1) (xs (5 * i + 1))
  refine ⟨τ2, F, Inv_q I g1 m2 s2, fun k => ?_⟩
  unfold b_La_law_18
  rw [if_neg (law_more hi hL), ck_t (inb_nI (n := 5 * i) (N := L) (by omega) (by omega)), nI_c (n := 5 * i) (by omega), hy, if_neg (show ¬ nI 11 < 0 by decide), if_neg (show ¬ (17 : Int32) < nI 11 by decide), if_neg (show ¬ nI 11 = 0 by decide), if_neg (show ¬ nI 11 = 1 by decide), if_neg (show ¬ nI 11 = 2 by decide), if_neg (show ¬ nI 11 = 3 by decide), if_neg (show ¬ nI 11 = 4 by decide), if_neg (show ¬ nI 11 = 5 by decide), if_neg (show ¬ nI 11 = 6 by decide), if_neg (show ¬ nI 11 = 7 by decide), if_neg (show ¬ nI 11 = 8 by decide), if_neg (show ¬ nI 11 = 9 by decide), if_neg (show ¬ nI 11 = 10 by decide), if_pos (show nI 11 = 11 from rfl)]
  simp only [show nI (5 * i) + 1 = nI (5 * i + 1) from nI_add (5 * i) 1, ck_t (inb_nI (n := 5 * i + 1) (N := L) (by omega) (by omega)), nI_c (n := 5 * i + 1) (by omega)]
  rw [e1, Option.bind_some, e2, Option.bind_some, if_pos rfl, law_next]
theorem law_op_12 {L : Nat} {xs : Nat → Int32} {i : Nat} (hi : 5 * i + 5 ≤ L) (hL : L ≤ 2560) {σ : gS} {F : Fr} {t : Nat} (ht : t < 1000) (I : IvG σ F t) (hy : xs (5 * i) &&& 31 = nI 12) : ∃ τ F', IvG τ F' (t + 1) ∧ ∀ k, b_La_law_18 L xs k (nI (5 * i)) σ = k (nI (5 * (i + 1)), τ) := by
  obtain ⟨τ1, e1, q1⟩ := ga_than I.1 I.2.2.1 I.2.2.2.1.1 I.2.2.2.1.2.1 (xs (5 * i + 1)) (xs (5 * i + 2)) (xs (5 * i + 3))
  have g1 : GK σ F τ1 := TK_GK I.2.2.2.1 q1
  obtain ⟨τ2, e2, m2, s2⟩ := mo_than I.1 (GK_MR I g1) (xs (5 * i + 1)) (xs (5 * i + 2)) (xs (5 * i + 3))
  refine ⟨τ2, F, Inv_q I g1 m2 s2, fun k => ?_⟩
  unfold b_La_law_18
  rw [if_neg (law_more hi hL), ck_t (inb_nI (n := 5 * i) (N := L) (by omega) (by omega)), nI_c (n := 5 * i) (by omega), hy, if_neg (show ¬ nI 12 < 0 by decide), if_neg (show ¬ (17 : Int32) < nI 12 by decide), if_neg (show ¬ nI 12 = 0 by decide), if_neg (show ¬ nI 12 = 1 by decide), if_neg (show ¬ nI 12 = 2 by decide), if_neg (show ¬ nI 12 = 3 by decide), if_neg (show ¬ nI 12 = 4 by decide), if_neg (show ¬ nI 12 = 5 by decide), if_neg (show ¬ nI 12 = 6 by decide), if_neg (show ¬ nI 12 = 7 by decide), if_neg (show ¬ nI 12 = 8 by decide), if_neg (show ¬ nI 12 = 9 by decide), if_neg (show ¬ nI 12 = 10 by decide), if_neg (show ¬ nI 12 = 11 by decide), if_pos (show nI 12 = 12 from rfl)]
  simp only [show nI (5 * i) + 1 = nI (5 * i + 1) from nI_add (5 * i) 1, show nI (5 * i) + 2 = nI (5 * i + 2) from nI_add (5 * i) 2, show nI (5 * i) + 3 = nI (5 * i + 3) from nI_add (5 * i) 3, ck_t (inb_nI (n := 5 * i + 1) (N := L) (by omega) (by omega)), ck_t (inb_nI (n := 5 * i + 2) (N := L) (by omega) (by omega)), ck_t (inb_nI (n := 5 * i + 3) (N := L) (by omega) (by omega)), nI_c (n := 5 * i + 1) (by omega), nI_c (n := 5 * i + 2) (by omega), nI_c (n := 5 * i + 3) (by omega)]
  rw [e1, Option.bind_some, e2, Option.bind_some, if_pos rfl, law_next]
theorem law_op_13 {L : Nat} {xs : Nat → Int32} {i : Nat} (hi : 5 * i + 5 ≤ L) (hL : L ≤ 2560) {σ : gS} {F : Fr} {t : Nat} (ht : t < 1000) (I : IvG σ F t) (hy : xs (5 * i) &&& 31 = nI 13) : ∃ τ F', IvG τ F' (t + 1) ∧ ∀ k, b_La_law_18 L xs k (nI (5 * i)) σ = k (nI (5 * (i + 1)), τ) := by
  obtain ⟨τ1, e1, q1⟩ := ga_goes I.1 I.2.2.1 I.2.2.2.1.1 I.2.2.2.1.2.1 I.2.2.2.1.2.2.2.1 (xs (5 * i + 1)) (xs (5 * i + 2))
  have g1 : GK σ F τ1 := LK_GK I.2.2.2.1 q1
  obtain ⟨τ2, e2, m2, s2⟩ := mo_goes I.1 (GK_MR I g1) (xs (5 * i + 1)) (xs (5 * i + 2))
  refine ⟨τ2, F, Inv_q I g1 m2 s2, fun k => ?_⟩
  unfold b_La_law_18
  rw [if_neg (law_more hi hL), ck_t (inb_nI (n := 5 * i) (N := L) (by omega) (by omega)), nI_c (n := 5 * i) (by omega), hy, if_neg (show ¬ nI 13 < 0 by decide), if_neg (show ¬ (17 : Int32) < nI 13 by decide), if_neg (show ¬ nI 13 = 0 by decide), if_neg (show ¬ nI 13 = 1 by decide), if_neg (show ¬ nI 13 = 2 by decide), if_neg (show ¬ nI 13 = 3 by decide), if_neg (show ¬ nI 13 = 4 by decide), if_neg (show ¬ nI 13 = 5 by decide), if_neg (show ¬ nI 13 = 6 by decide), if_neg (show ¬ nI 13 = 7 by decide), if_neg (show ¬ nI 13 = 8 by decide), if_neg (show ¬ nI 13 = 9 by decide), if_neg (show ¬ nI 13 = 10 by decide), if_neg (show ¬ nI 13 = 11 by decide), if_neg (show ¬ nI 13 = 12 by decide), if_pos (show nI 13 = 13 from rfl)]
  simp only [show nI (5 * i) + 1 = nI (5 * i + 1) from nI_add (5 * i) 1, show nI (5 * i) + 2 = nI (5 * i + 2) from nI_add (5 * i) 2, ck_t (inb_nI (n := 5 * i + 1) (N := L) (by omega) (by omega)), ck_t (inb_nI (n := 5 * i + 2) (N := L) (by omega) (by omega)), nI_c (n := 5 * i + 1) (by omega), nI_c (n := 5 * i + 2) (by omega)]
  rw [e1, Option.bind_some, e2, Option.bind_some, if_pos rfl, law_next]
theorem law_op_14 {L : Nat} {xs : Nat → Int32} {i : Nat} (hi : 5 * i + 5 ≤ L) (hL : L ≤ 2560) {σ : gS} {F : Fr} {t : Nat} (ht : t < 1000) (I : IvG σ F t) (hy : xs (5 * i) &&& 31 = nI 14) : ∃ τ F', IvG τ F' (t + 1) ∧ ∀ k, b_La_law_18 L xs k (nI (5 * i)) σ = k (nI (5 * (i + 1)), τ) := by
  obtain ⟨τ1, e1, q1⟩ := ga_sure I.1 I.2.2.1 I.2.2.2.1.1 I.2.2.2.1.2.1 (xs (5 * i + 1))
  have g1 : GK σ F τ1 := TK_GK I.2.2.2.1 q1
  obtain ⟨τ2, e2, m2, s2⟩ := mo_sure I.1 (GK_MR I g1) (xs (5 * i + 1))
  refine ⟨τ2, F, Inv_q I g1 m2 s2, fun k => ?_⟩
  unfold b_La_law_18
  rw [if_neg (law_more hi hL), ck_t (inb_nI (n := 5 * i) (N := L) (by omega) (by omega)), nI_c (n := 5 * i) (by omega), hy, if_neg (show ¬ nI 14 < 0 by decide), if_neg (show ¬ (17 : Int32) < nI 14 by decide), if_neg (show ¬ nI 14 = 0 by decide), if_neg (show ¬ nI 14 = 1 by decide), if_neg (show ¬ nI 14 = 2 by decide), if_neg (show ¬ nI 14 = 3 by decide), if_neg (show ¬ nI 14 = 4 by decide), if_neg (show ¬ nI 14 = 5 by decide), if_neg (show ¬ nI 14 = 6 by decide), if_neg (show ¬ nI 14 = 7 by decide), if_neg (show ¬ nI 14 = 8 by decide), if_neg (show ¬ nI 14 = 9 by decide), if_neg (show ¬ nI 14 = 10 by decide), if_neg (show ¬ nI 14 = 11 by decide), if_neg (show ¬ nI 14 = 12 by decide), if_neg (show ¬ nI 14 = 13 by decide), if_pos (show nI 14 = 14 from rfl)]
  simp only [show nI (5 * i) + 1 = nI (5 * i + 1) from nI_add (5 * i) 1, ck_t (inb_nI (n := 5 * i + 1) (N := L) (by omega) (by omega)), nI_c (n := 5 * i + 1) (by omega)]
  rw [e1, Option.bind_some, e2, Option.bind_some, if_pos rfl, law_next]
theorem law_op_15 {L : Nat} {xs : Nat → Int32} {i : Nat} (hi : 5 * i + 5 ≤ L) (hL : L ≤ 2560) {σ : gS} {F : Fr} {t : Nat} (ht : t < 1000) (I : IvG σ F t) (hy : xs (5 * i) &&& 31 = nI 15) : ∃ τ F', IvG τ F' (t + 1) ∧ ∀ k, b_La_law_18 L xs k (nI (5 * i)) σ = k (nI (5 * (i + 1)), τ) := by
  have e1 := ga_remembered I.1 I.2.2.1 (xs (5 * i + 1))
  have g1 : GK σ F σ := GK_rf I.2.2.2.1
  obtain ⟨τ2, e2, m2, s2⟩ := mo_remembered I.1 (GK_MR I g1) (xs (5 * i + 1))
  refine ⟨τ2, F, Inv_q I g1 m2 s2, fun k => ?_⟩
  unfold b_La_law_18
  rw [if_neg (law_more hi hL), ck_t (inb_nI (n := 5 * i) (N := L) (by omega) (by omega)), nI_c (n := 5 * i) (by omega), hy, if_neg (show ¬ nI 15 < 0 by decide), if_neg (show ¬ (17 : Int32) < nI 15 by decide), if_neg (show ¬ nI 15 = 0 by decide), if_neg (show ¬ nI 15 = 1 by decide), if_neg (show ¬ nI 15 = 2 by decide), if_neg (show ¬ nI 15 = 3 by decide), if_neg (show ¬ nI 15 = 4 by decide), if_neg (show ¬ nI 15 = 5 by decide), if_neg (show ¬ nI 15 = 6 by decide), if_neg (show ¬ nI 15 = 7 by decide), if_neg (show ¬ nI 15 = 8 by decide), if_neg (show ¬ nI 15 = 9 by decide), if_neg (show ¬ nI 15 = 10 by decide), if_neg (show ¬ nI 15 = 11 by decide), if_neg (show ¬ nI 15 = 12 by decide), if_neg (show ¬ nI 15 = 13 by decide), if_neg (show ¬ nI 15 = 14 by decide), if_pos (show nI 15 = 15 from rfl)]
  simp only [show nI (5 * i) + 1 = nI (5 * i + 1) from nI_add (5 * i) 1, ck_t (inb_nI (n := 5 * i + 1) (N := L) (by omega) (by omega)), nI_c (n := 5 * i + 1) (by omega)]
  rw [e1, Option.bind_some, e2, Option.bind_some, if_pos rfl, law_next]
theorem law_op_16 {L : Nat} {xs : Nat → Int32} {i : Nat} (hi : 5 * i + 5 ≤ L) (hL : L ≤ 2560) {σ : gS} {F : Fr} {t : Nat} (ht : t < 1000) (I : IvG σ F t) (hy : xs (5 * i) &&& 31 = nI 16) : ∃ τ F', IvG τ F' (t + 1) ∧ ∀ k, b_La_law_18 L xs k (nI (5 * i)) σ = k (nI (5 * (i + 1)), τ) := by
  obtain ⟨τ1, e1, q1⟩ := ga_taken I.1 I.2.2.1 I.2.2.2.1.1 I.2.2.2.1.2.1 I.2.2.2.1.2.2.2.2 (xs (5 * i + 1)) (xs (5 * i + 2)) (xs (5 * i + 3))
  have g1 : GK σ F τ1 := AK_GK I.2.2.2.1 q1
  obtain ⟨τ2, e2, m2, s2⟩ := mo_taken I.1 (GK_MR I g1) (xs (5 * i + 1)) (xs (5 * i + 2)) (xs (5 * i + 3))
  refine ⟨τ2, F, Inv_q I g1 m2 s2, fun k => ?_⟩
  unfold b_La_law_18
  rw [if_neg (law_more hi hL), ck_t (inb_nI (n := 5 * i) (N := L) (by omega) (by omega)), nI_c (n := 5 * i) (by omega), hy, if_neg (show ¬ nI 16 < 0 by decide), if_neg (show ¬ (17 : Int32) < nI 16 by decide), if_neg (show ¬ nI 16 = 0 by decide), if_neg (show ¬ nI 16 = 1 by decide), if_neg (show ¬ nI 16 = 2 by decide), if_neg (show ¬ nI 16 = 3 by decide), if_neg (show ¬ nI 16 = 4 by decide), if_neg (show ¬ nI 16 = 5 by decide), if_neg (show ¬ nI 16 = 6 by decide), if_neg (show ¬ nI 16 = 7 by decide), if_neg (show ¬ nI 16 = 8 by decide), if_neg (show ¬ nI 16 = 9 by decide), if_neg (show ¬ nI 16 = 10 by decide), if_neg (show ¬ nI 16 = 11 by decide), if_neg (show ¬ nI 16 = 12 by decide), if_neg (show ¬ nI 16 = 13 by decide), if_neg (show ¬ nI 16 = 14 by decide), if_neg (show ¬ nI 16 = 15 by decide), if_pos (show nI 16 = 16 from rfl)]
  simp only [show nI (5 * i) + 1 = nI (5 * i + 1) from nI_add (5 * i) 1, show nI (5 * i) + 2 = nI (5 * i + 2) from nI_add (5 * i) 2, show nI (5 * i) + 3 = nI (5 * i + 3) from nI_add (5 * i) 3, ck_t (inb_nI (n := 5 * i + 1) (N := L) (by omega) (by omega)), ck_t (inb_nI (n := 5 * i + 2) (N := L) (by omega) (by omega)), ck_t (inb_nI (n := 5 * i + 3) (N := L) (by omega) (by omega)), nI_c (n := 5 * i + 1) (by omega), nI_c (n := 5 * i + 2) (by omega), nI_c (n := 5 * i + 3) (by omega)]
  rw [e1, Option.bind_some, e2, Option.bind_some, if_pos rfl, law_next]
theorem law_op_17 {L : Nat} {xs : Nat → Int32} {i : Nat} (hi : 5 * i + 5 ≤ L) (hL : L ≤ 2560) {σ : gS} {F : Fr} {t : Nat} (ht : t < 1000) (I : IvG σ F t) (hy : xs (5 * i) &&& 31 = nI 17) : ∃ τ F', IvG τ F' (t + 1) ∧ ∀ k, b_La_law_18 L xs k (nI (5 * i)) σ = k (nI (5 * (i + 1)), τ) := by
  obtain ⟨τ1, e1, q1⟩ := ga_bound I.1 I.2.2.1 I.2.2.2.1.1 I.2.2.2.1.2.1 I.2.2.2.1.2.2.2.2 (xs (5 * i + 1)) (xs (5 * i + 2))
  have g1 : GK σ F τ1 := AK_GK I.2.2.2.1 q1
  obtain ⟨τ2, e2, m2, s2⟩ := mo_bound I.1 (GK_MR I g1) (xs (5 * i + 1)) (xs (5 * i + 2))
  refine ⟨τ2, F, Inv_q I g1 m2 s2, fun k => ?_⟩
  unfold b_La_law_18
  rw [if_neg (law_more hi hL), ck_t (inb_nI (n := 5 * i) (N := L) (by omega) (by omega)), nI_c (n := 5 * i) (by omega), hy, if_neg (show ¬ nI 17 < 0 by decide), if_neg (show ¬ (17 : Int32) < nI 17 by decide), if_neg (show ¬ nI 17 = 0 by decide), if_neg (show ¬ nI 17 = 1 by decide), if_neg (show ¬ nI 17 = 2 by decide), if_neg (show ¬ nI 17 = 3 by decide), if_neg (show ¬ nI 17 = 4 by decide), if_neg (show ¬ nI 17 = 5 by decide), if_neg (show ¬ nI 17 = 6 by decide), if_neg (show ¬ nI 17 = 7 by decide), if_neg (show ¬ nI 17 = 8 by decide), if_neg (show ¬ nI 17 = 9 by decide), if_neg (show ¬ nI 17 = 10 by decide), if_neg (show ¬ nI 17 = 11 by decide), if_neg (show ¬ nI 17 = 12 by decide), if_neg (show ¬ nI 17 = 13 by decide), if_neg (show ¬ nI 17 = 14 by decide), if_neg (show ¬ nI 17 = 15 by decide), if_neg (show ¬ nI 17 = 16 by decide), if_pos (show nI 17 = 17 from rfl)]
  simp only [show nI (5 * i) + 1 = nI (5 * i + 1) from nI_add (5 * i) 1, show nI (5 * i) + 2 = nI (5 * i + 2) from nI_add (5 * i) 2, ck_t (inb_nI (n := 5 * i + 1) (N := L) (by omega) (by omega)), ck_t (inb_nI (n := 5 * i + 2) (N := L) (by omega) (by omega)), nI_c (n := 5 * i + 1) (by omega), nI_c (n := 5 * i + 2) (by omega)]
  rw [e1, Option.bind_some, e2, Option.bind_some, if_pos rfl, law_next]
theorem law_turn {L : Nat} {xs : Nat → Int32} {i : Nat} (hi : 5 * i + 5 ≤ L) (hL : L ≤ 2560) {σ : gS} {F : Fr} {t : Nat} (ht : t < 1000) (I : IvG σ F t) : ∃ τ F', IvG τ F' (t + 1) ∧ ∀ k, b_La_law_18 L xs k (nI (5 * i)) σ = k (nI (5 * (i + 1)), τ) := by
  obtain ⟨j, hj, hy⟩ := pk_andE (xs (5 * i)) (m := 31) 5 (by decide)
  by_cases h17 : 17 < j
  · refine ⟨σ, F, Inv_up I, fun k => ?_⟩
    unfold b_La_law_18
    rw [if_neg (law_more hi hL), ck_t (inb_nI (n := 5 * i) (N := L) (by omega) (by omega)), nI_c (n := 5 * i) (by omega), hy, if_neg (show ¬ nI j < 0 from nI_pos (by omega)), if_pos (show (17 : Int32) < nI j from nI_lt (a := 17) h17 (by omega)), law_next]
  · rcases (show j = 0 ∨ j = 1 ∨ j = 2 ∨ j = 3 ∨ j = 4 ∨ j = 5 ∨ j = 6 ∨ j = 7 ∨ j = 8 ∨ j = 9 ∨ j = 10 ∨ j = 11 ∨ j = 12 ∨ j = 13 ∨ j = 14 ∨ j = 15 ∨ j = 16 ∨ j = 17 by omega) with rfl | rfl | rfl | rfl | rfl | rfl | rfl | rfl | rfl | rfl | rfl | rfl | rfl | rfl | rfl | rfl | rfl | rfl
    · exact law_op_0 hi hL ht I hy
    · exact law_op_1 hi hL ht I hy
    · exact law_op_2 hi hL ht I hy
    · exact law_op_3 hi hL ht I hy
    · exact law_op_4 hi hL ht I hy
    · exact law_op_5 hi hL ht I hy
    · exact law_op_6 hi hL ht I hy
    · exact law_op_7 hi hL ht I hy
    · exact law_op_8 hi hL ht I hy
    · exact law_op_9 hi hL ht I hy
    · exact law_op_10 hi hL ht I hy
    · exact law_op_11 hi hL ht I hy
    · exact law_op_12 hi hL ht I hy
    · exact law_op_13 hi hL ht I hy
    · exact law_op_14 hi hL ht I hy
    · exact law_op_15 hi hL ht I hy
    · exact law_op_16 hi hL ht I hy
    · exact law_op_17 hi hL ht I hy
theorem law_pure (L : Nat) (xs : Nat → Int32) (hL : L ≤ 2560) : ∃ σ, l_La_law_18 L xs (0, gs0) = some (1, σ) := by
  let J : Nat → (Int32 × gS) → Prop := fun i x => ∃ σ F, x = (nI (5 * i), σ) ∧ IvG σ F i
  have hs : ∀ i, i < L / 5 → ∀ x, J i x → ∃ x', J (i + 1) x' ∧ ∀ k, b_La_law_18 L xs k x.1 x.2 = k x' := by
    rintro i hi x ⟨σ, F, rfl, I⟩
    obtain ⟨τ, F', h1, h2⟩ := law_turn (xs := xs) (show 5 * i + 5 ≤ L by omega) hL (show i < 1000 by omega) I
    exact ⟨(nI (5 * (i + 1)), τ), ⟨τ, F', rfl, h1⟩, fun k => h2 k⟩
  obtain ⟨x', k, ⟨σ, F, rfl, -⟩, e⟩ := lpF_in J (L / 5) (0, gs0) ⟨gs0, jF0, rfl, Inv_0⟩ hs (by omega)
  refine ⟨σ, ?_⟩
  unfold l_La_law_18
  refine e.trans ?_
  show b_La_law_18 L xs k (nI (5 * (L / 5))) σ = _
  unfold b_La_law_18
  rw [if_pos (law_done hL)]
  rfl
