/-! told -/
def tolN (F : Fr) (n j : Nat) : Int32 :=
  if j = 0 then nI (jso F n) else if j = 1 then (if jso F n = 0 then jwo F n 0 else if jso F n = 2 then nI (jse F n) else -1) else if j = 2 then (if jpa F n < 40 then nI (jpa F n) else -1)
  else if j = 3 ∧ jso F n = 0 then jwo F n 1 else if j - 3 < jcn F n then nI (jch F n (j - 3)) else -1
noncomputable def tolA (F : Fr) (x y : Int32) : Int32 := cif (am x 0 (nI (jn F) - 1) = true ∧ am y 0 5 = true) (tolN F x.toNatClampNeg y.toNatClampNeg) (-1000000)
theorem am_5 {y : Int32} (h : am y 0 5 = true) : ∃ j, j < 6 ∧ y = nI j := (am_nI (n := 6) (by decide)).mp h
theorem so_0 {F : Fr} (h : WF F) {n : Nat} (hn : n < jn F) : nI (jso F n) = 0 ↔ jso F n = 0 := by
  have := (h.2.2.1 n hn).1
  exact nI_eq (b := 0) (by omega) (by decide)
theorem ga_told {σ : gS} {F : Fr} (h : WF F) (hc : CR σ F) (x y : Int32) : f_Ga_told σ x y = some (tolA F x y) := by
  have hl := h.1.1
  unfold f_Ga_told b_Ga_told_0 tolA
  rw [f_isEmpty h hc, Option.bind_some, f_hasNode hc.1.1 hl, Option.bind_some, f_isAmong, Option.bind_some]
  by_cases q1 : am x 0 (nI (jn F) - 1) = true
  · obtain ⟨n, hn, e⟩ := (am_nI (by omega)).mp q1
    have z : ¬ jn F = 0 := by omega
    rw [if_pos (bi_eq (by simpa using z)), if_neg (bi_ne q1)]
    by_cases q2 : am y 0 5 = true
    · obtain ⟨j, hj, ej⟩ := am_5 q2
      rw [if_neg (bi_ne q2), cif_t ⟨q1, q2⟩, e, ej, ck_t (okI_lt (k := 2) (n := n) (L := 40) rfl rfl (by omega) (by decide)), nI_c (by omega), nI_c (by omega), hc.1.2.2.1 n hn]
      have o2 := okI_lt (k := 2) (n := n) (L := 40) rfl rfl (by omega) (by decide)
      have o3 := okI_lt (k := 3) (n := n) (L := 40) rfl rfl (by omega) (by decide)
      have o4 := okI_lt (k := 4) (n := n) (L := 40) rfl rfl (by omega) (by decide)
      have cn := nI_c (n := n) (by omega)
      have child : ∀ i, i < 3 → f_Fo_childAt σ (nI n) (nI i) = some (if i < jcn F n then nI (jch F n i) else -1) := fun i hi => by
        unfold f_Fo_childAt b_Fo_childAt_0
        rw [nI_3, ck_t (okI_lt (k := 7) (n := 3 * n + i) (L := 120) rfl rfl (by omega) (by decide)), nI_c (by omega), hc.1.2.2.2.2.2.1 n hn i hi]
      have e47 : (if nI (jso F n) = 0 then b_Ga_told_47 σ (nI n) (nI j) 1 else b_Ga_told_47 σ (nI n) (nI j) 0) = b_Ga_told_47 σ (nI n) (nI j) (if jso F n = 0 then 1 else 0) := by
        by_cases w : jso F n = 0
        · rw [if_pos ((so_0 h hn).mpr w), if_pos w]
        · rw [if_neg (fun q => w ((so_0 h hn).mp q)), if_neg w]
      rw [e47]
      unfold b_Ga_told_47 tolN b_Ga_told_127
      rcases (show j = 0 ∨ j = 1 ∨ j = 2 ∨ j = 3 ∨ j = 4 ∨ j = 5 by omega) with rfl | rfl | rfl | rfl | rfl | rfl
      · rw [if_pos (show nI 0 = 0 from rfl), if_pos rfl, ck_t o2, cn, hc.1.2.2.1 n hn]
      · rw [if_neg (show ¬ nI 1 = 0 by decide), if_pos (show nI 1 = 1 from rfl), if_neg (show ¬ 1 = 0 by decide), if_pos rfl]
        by_cases w : jso F n = 0
        · rw [if_pos w, if_neg (show ¬ (1 : Int32) = 0 by decide), if_pos w, show f_Fo_worthAt σ (nI n) 0 = some (jwo F n 0) from f_worthAt h hc.1 hn (w := 0) (by decide) w, Option.bind_some]
        · rw [if_neg w, if_pos rfl, if_neg w, ck_t o3, cn, hc.1.2.2.2.1 n hn]
      · rw [if_neg (show ¬ nI 2 = 0 by decide), if_neg (show ¬ nI 2 = 1 by decide), if_pos (show nI 2 = 2 from rfl), if_neg (show ¬ 2 = 0 by decide), if_neg (show ¬ 2 = 1 by decide), if_pos rfl, ck_t o4, cn, hc.1.2.2.2.2.2.2.1 n hn]
      · rw [if_neg (show ¬ nI 3 = 0 by decide), if_neg (show ¬ nI 3 = 1 by decide), if_neg (show ¬ nI 3 = 2 by decide), if_pos (show nI 3 = 3 from rfl), if_neg (show ¬ 3 = 0 by decide), if_neg (show ¬ 3 = 1 by decide), if_neg (show ¬ 3 = 2 by decide)]
        by_cases w : jso F n = 0
        · rw [if_pos w, if_neg (show ¬ (1 : Int32) = 0 by decide), if_pos ⟨rfl, w⟩, show f_Fo_worthAt σ (nI n) 1 = some (jwo F n 1) from f_worthAt h hc.1 hn (w := 1) (by decide) w, Option.bind_some]
        · rw [if_neg w, if_pos rfl, if_neg (fun q => w q.2), show nI 3 - 3 = nI 0 from by decide, child 0 (by decide), Option.bind_some]
      · rw [if_neg (show ¬ nI 4 = 0 by decide), if_neg (show ¬ nI 4 = 1 by decide), if_neg (show ¬ nI 4 = 2 by decide), if_neg (show ¬ nI 4 = 3 by decide), if_neg (show ¬ 4 = 0 by decide), if_neg (show ¬ 4 = 1 by decide), if_neg (show ¬ 4 = 2 by decide), if_neg (show ¬ (4 = 3 ∧ jso F n = 0) from fun q => absurd q.1 (by decide)), show nI 4 - 3 = nI 1 from by decide, child 1 (by decide), Option.bind_some]
      · rw [if_neg (show ¬ nI 5 = 0 by decide), if_neg (show ¬ nI 5 = 1 by decide), if_neg (show ¬ nI 5 = 2 by decide), if_neg (show ¬ nI 5 = 3 by decide), if_neg (show ¬ 5 = 0 by decide), if_neg (show ¬ 5 = 1 by decide), if_neg (show ¬ 5 = 2 by decide), if_neg (show ¬ (5 = 3 ∧ jso F n = 0) from fun q => absurd q.1 (by decide)), show nI 5 - 3 = nI 2 from by decide, child 2 (by decide), Option.bind_some]
    · rw [if_pos (bi_eq q2), cif_f (fun w => q2 w.2)]
  · rw [cif_f (fun w => q1 w.1)]
    by_cases z : jn F = 0
    · rw [if_neg (bi_ne (by simpa using z))]
    · rw [if_pos (bi_eq (by simpa using z)), if_pos (bi_eq q1)]
theorem mo_told {σ : gS} {F : Fr} (h : WF F) (hm : MR σ F) (x y : Int32) : f_Mo_told σ x y = some (tolA F x y) := by
  have hl := h.1.1
  unfold f_Mo_told b_Mo_told_0 tolA
  rw [f_isNode hm.1, Option.bind_some, f_isFrom, Option.bind_some]
  by_cases q1 : am x 0 (nI (jn F) - 1) = true
  · obtain ⟨n, hn, e⟩ := (am_nI (by omega)).mp q1
    rw [if_neg (bi_ne q1)]
    by_cases q2 : am y 0 5 = true
    · obtain ⟨j, hj, ej⟩ := am_5 q2
      have o47 := okI_lt (k := 47) (n := n) (L := 40) rfl rfl (by omega) (by decide)
      have o48 := okI_lt (k := 48) (n := n) (L := 40) rfl rfl (by omega) (by decide)
      have o51 := okI_lt (k := 51) (n := n) (L := 40) rfl rfl (by omega) (by decide)
      have cn := nI_c (n := n) (by omega)
      have so : ∀ {α : Type} (a b : α), (if nI (jso F n) = 0 then a else b) = if jso F n = 0 then a else b := fun a b => by
        by_cases w : jso F n = 0
        · rw [if_pos ((so_0 h hn).mpr w), if_pos w]
        · rw [if_neg (fun q => w ((so_0 h hn).mp q)), if_neg w]
      have e116 : ∀ i, i < 3 → b_Mo_told_116 σ (nI n) (nI (i + 3)) = some (if i < jcn F n then nI (jch F n i) else -1) := fun i hi => by
        unfold b_Mo_told_116
        rw [nI_3, show (3 : Int32) = nI 3 from rfl, pk_sub (by omega), show 3 * n + (i + 3) - 3 = 3 * n + i by omega, ck_t (okI_lt (k := 50) (n := 3 * n + i) (L := 120) rfl rfl (by omega) (by decide)), nI_c (by omega), hm.2.2.2.2.2.1 n hn i hi]
      have m2 : (2 : Int32) * nI n = nI (2 * n) := by rw [show (2 : Int32) = nI 2 from rfl, pk_mul]
      rw [if_neg (bi_ne q2), cif_t ⟨q1, q2⟩, e, ej, nI_c (n := j) (by omega), cn, if_neg (nI_pos (by omega)), hm.2.2.1 n hn]
      unfold tolN
      rcases (show j = 0 ∨ j = 1 ∨ j = 2 ∨ j = 3 ∨ j = 4 ∨ j = 5 by omega) with rfl | rfl | rfl | rfl | rfl | rfl
      · rw [if_neg (show ¬ (2 : Int32) < nI 0 by decide), if_pos (show nI 0 = 0 from rfl), if_pos rfl, ck_t o47]
      · rw [if_neg (show ¬ (2 : Int32) < nI 1 by decide), if_neg (show ¬ nI 1 = 0 by decide), if_pos (show nI 1 = 1 from rfl), if_neg (show ¬ 1 = 0 by decide), if_pos rfl, ck_t o47, so]
        by_cases w : jso F n = 0
        · rw [if_pos w, if_pos w, m2, ck_t (okI_lt (k := 49) (n := 2 * n) (L := 80) rfl rfl (by omega) (by decide)), nI_c (by omega), show gI σ 49 (2 * n) = jwo F n 0 from hm.2.2.2.2.1 n hn w 0 (by decide)]
        · rw [if_neg w, if_neg w, ck_t o48, hm.2.2.2.1 n hn]
      · rw [if_neg (show ¬ (2 : Int32) < nI 2 by decide), if_neg (show ¬ nI 2 = 0 by decide), if_neg (show ¬ nI 2 = 1 by decide), if_pos (show nI 2 = 2 from rfl), if_neg (show ¬ 2 = 0 by decide), if_neg (show ¬ 2 = 1 by decide), if_pos rfl, ck_t o51, hm.2.2.2.2.2.2.1 n hn]
      · rw [if_pos (show (2 : Int32) < nI 3 by decide), if_neg (show ¬ 3 = 0 by decide), if_neg (show ¬ 3 = 1 by decide), if_neg (show ¬ 3 = 2 by decide), ck_t o47, so]
        by_cases w : jso F n = 0
        · rw [if_pos w, if_pos (show nI 3 = 3 from rfl), if_pos ⟨rfl, w⟩, m2, nI_1, ck_t (okI_lt (k := 49) (n := 2 * n + 1) (L := 80) rfl rfl (by omega) (by decide)), nI_c (by omega), hm.2.2.2.2.1 n hn w 1 (by decide)]
        · rw [if_neg w, if_neg (fun q => w q.2), e116 0 (by decide)]
      · rw [if_pos (show (2 : Int32) < nI 4 by decide), if_neg (show ¬ 4 = 0 by decide), if_neg (show ¬ 4 = 1 by decide), if_neg (show ¬ 4 = 2 by decide), ck_t o47, so, if_neg (show ¬ nI 4 = 3 by decide), if_neg (show ¬ (4 = 3 ∧ jso F n = 0) from fun q => absurd q.1 (by decide)), e116 1 (by decide), ite_self]
      · rw [if_pos (show (2 : Int32) < nI 5 by decide), if_neg (show ¬ 5 = 0 by decide), if_neg (show ¬ 5 = 1 by decide), if_neg (show ¬ 5 = 2 by decide), ck_t o47, so, if_neg (show ¬ nI 5 = 3 by decide), if_neg (show ¬ (5 = 3 ∧ jso F n = 0) from fun q => absurd q.1 (by decide)), e116 2 (by decide), ite_self]
    · rw [if_pos (bi_eq q2), cif_f (fun w => q2 w.2)]
  · rw [if_pos (bi_eq q1), cif_f (fun w => q1 w.1)]
