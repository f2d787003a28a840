/-! remembered: both sides -/
/-- two nodes of one set of the player, both in the tree -/
def sib (F : Fr) (pl i j : Nat) : Prop := bl F (jn F - 1) i = true ∧ bl F (jn F - 1) j = true ∧ jso F i = 2 ∧ jso F j = 2 ∧ jse F i = jse F j ∧ jow F (jse F i) = pl
def RM (F : Fr) (pl : Nat) : Prop := ∀ i j, i < jn F → j < jn F → sib F pl i j → wv F pl i = wv F pl j
noncomputable def rmb (F : Fr) (pl : Nat) : Bool := @decide (RM F pl) (Classical.propDecidable _)
theorem rmb_iff (F : Fr) (pl : Nat) : rmb F pl = true ↔ RM F pl := @decide_eq_true_iff _ (Classical.propDecidable _)
theorem enc31 {F : Fr} (h : WF F) (pl : Nat) {i j : Nat} (hi : i < jn F) (hj : j < jn F) : lN (enc 31 c31 (wv F pl i)) = lN (enc 31 c31 (wv F pl j)) ↔ wv F pl i = wv F pl j := enc_eq h pl hi hj (by decide) c31_ok c31_inj
theorem enc40 {F : Fr} (h : WF F) (pl : Nat) {i j : Nat} (hi : i < jn F) (hj : j < jn F) : lN (enc 40 c40 (wv F pl i)) = lN (enc 40 c40 (wv F pl j)) ↔ wv F pl i = wv F pl j := enc_eq h pl hi hj (by decide) c40_ok c40_inj
theorem enc_m1 {F : Fr} (h : WF F) (pl : Nat) {i : Nat} (hi : i < jn F) : lN (enc 31 c31 (wv F pl i)) ≠ -1 := fun e => by
  have := congrArg Int64.toInt e
  rw [pk_lT (enc_bd h pl hi (by decide) c31_ok)] at this
  have h2 : (-1 : Int64).toInt = -1 := by decide
  omega
def thr (F : Fr) (s i : Nat) : Bool := (decide (i < jn F) && (jso F i == 2 && jse F i == s)) && (decide (i < jn F) && bl F (jn F - 1) i)
def bfr (F : Fr) (pl s : Nat) : Nat → Int64
  | 0 => -1
  | i + 1 => if thr F s i = true then lN (enc 31 c31 (wv F pl i)) else bfr F pl s i
noncomputable def alk (F : Fr) (pl s i : Nat) : Bool := @decide (thr F s i = true → bfr F pl s i = -1 ∨ lN (enc 31 c31 (wv F pl i)) = bfr F pl s i) (Classical.propDecidable _)
theorem alk_iff (F : Fr) (pl s i : Nat) : alk F pl s i = true ↔ (thr F s i = true → bfr F pl s i = -1 ∨ lN (enc 31 c31 (wv F pl i)) = bfr F pl s i) := @decide_eq_true_iff _ (Classical.propDecidable _)
theorem bfr_or (F : Fr) (pl s : Nat) : ∀ i, bfr F pl s i = -1 ∨ ∃ j, j < i ∧ thr F s j = true ∧ bfr F pl s i = lN (enc 31 c31 (wv F pl j))
  | 0 => Or.inl rfl
  | i + 1 => by
    show (if thr F s i = true then lN (enc 31 c31 (wv F pl i)) else bfr F pl s i) = -1 ∨ ∃ j, j < i + 1 ∧ thr F s j = true ∧ (if thr F s i = true then lN (enc 31 c31 (wv F pl i)) else bfr F pl s i) = lN (enc 31 c31 (wv F pl j))
    by_cases w : thr F s i = true
    · rw [if_pos w]
      exact Or.inr ⟨i, by omega, w, rfl⟩
    · rw [if_neg w]
      rcases bfr_or F pl s i with e | ⟨j, j1, j2, j3⟩
      · exact Or.inl e
      · exact Or.inr ⟨j, by omega, j2, j3⟩
theorem bfr_all {F : Fr} (h : WF F) (pl s : Nat) : ∀ i, i ≤ jn F → (∀ j, j < i → alk F pl s j = true) → ∀ j, j < i → thr F s j = true → bfr F pl s i = lN (enc 31 c31 (wv F pl j))
  | 0, _, _, j, hj, _ => absurd hj (Nat.not_lt_zero j)
  | i + 1, hi, g, j, hj, tj => by
    show (if thr F s i = true then lN (enc 31 c31 (wv F pl i)) else bfr F pl s i) = _
    have ih := bfr_all h pl s i (by omega) (fun j hj => g j (by omega))
    by_cases w : thr F s i = true
    · rw [if_pos w]
      by_cases e : j = i
      · rw [e]
      · have b := ih j (by omega) tj
        rcases (alk_iff F pl s i).mp (g i (by omega)) w with q | q
        · rw [b] at q
          exact absurd q (enc_m1 h pl (by omega))
        · rw [q, b]
    · rw [if_neg w]
      exact ih j (by
        by_cases e : j = i
        · rw [e] at tj; exact absurd tj w
        · omega) tj
theorem alk_all {F : Fr} (h : WF F) (pl s : Nat) : allB (alk F pl s) (jn F) = true ↔ ∀ i j, thr F s i = true → thr F s j = true → wv F pl i = wv F pl j := by
  have lt : ∀ i, thr F s i = true → i < jn F := fun i q => by
    unfold thr at q
    simp only [Bool.and_eq_true, decide_eq_true_eq] at q
    exact q.1.1
  rw [allB_iff]
  constructor
  · intro g i j ti tj
    have e1 := bfr_all h pl s (jn F) (Nat.le_refl _) g i (lt i ti) ti
    have e2 := bfr_all h pl s (jn F) (Nat.le_refl _) g j (lt j tj) tj
    exact (enc31 h pl (lt i ti) (lt j tj)).mp (e1.symm.trans e2)
  · intro g i hi
    rw [alk_iff]
    intro ti
    rcases bfr_or F pl s i with e | ⟨j, j1, j2, j3⟩
    · exact Or.inl e
    · exact Or.inr (by rw [j3, g i j ti j2])
theorem fo_alike {σ : gS} {F : Fr} (h : WF F) (hc : CR σ F) (z : jn F ≠ 0) {pl s : Nat} (hpl : pl < 2) (hs : s < jk F) : f_Fo_areWaysAlike σ (nI pl) (nI s) = some (bi (allB (alk F pl s) (jn F))) := by
  have hl := h.1.1
  have hk := h.1.2
  unfold f_Fo_areWaysAlike b_Fo_areWaysAlike_0
  rw [ck_t (okJ_lt (k := 14) (n := s) (L := 10) rfl rfl (by omega) (by decide)), fo_inTree h hc z, Option.bind_some, bnd_e, nI_c (n := s) (by omega)]
  generalize hX : (gL σ 14 s &&& gL σ 11 (jn F - 1)) = X
  have hb : ∀ i, i < 64 → tb X i = thr F s i := fun i hi => by
    rw [← hX, tb_and, hc.2.2.2.2 s hs i hi, hc.2.2.1 (jn F - 1) (by omega) i hi]
    rfl
  unfold l_Fo_areWaysAlike_20
  have head : ∀ i, i < jn F → ∀ k, b_Fo_areWaysAlike_20 σ k (nI pl) X (bfr F pl s i) (nI i) = if bi (thr F s i) = 0 then b_Fo_areWaysAlike_70 σ k (nI pl) X (bfr F pl s i) (nI i) else if lg_cmp (bfr F pl s i) (-1) = 0 then b_Fo_areWaysAlike_66 σ k (nI pl) X (nI i) (lN (enc 31 c31 (wv F pl i))) else if lg_cmp (lN (enc 31 c31 (wv F pl i))) (bfr F pl s i) = 0 then b_Fo_areWaysAlike_66 σ k (nI pl) X (nI i) (lN (enc 31 c31 (wv F pl i))) else ck (isB 0) (some 0) := fun i hi k => by
    unfold b_Fo_areWaysAlike_20
    rw [hc.1.1, if_neg (nI_ge hi (by omega)), f_hasBit _ (by omega), Option.bind_some, hb i (by omega), fo_way h hc hpl hi, Option.bind_some]
  have e70 : ∀ k i y, b_Fo_areWaysAlike_70 σ k (nI pl) X y (nI i) = k (nI pl, X, y, nI (i + 1)) := fun k i y => by
    unfold b_Fo_areWaysAlike_70
    rw [bnd_e, nI_1]
  have e66 : ∀ k i y, b_Fo_areWaysAlike_66 σ k (nI pl) X (nI i) y = k (nI pl, X, y, nI (i + 1)) := fun k i y => e70 k i y
  refine lp_all (body := fun k (x : Int32 × Int64 × Int64 × Int32) => b_Fo_areWaysAlike_20 σ k x.1 x.2.1 x.2.2.1 x.2.2.2) (fun i => (nI pl, X, bfr F pl s i, nI i)) (jn F) (alk F pl s) (fun i hi q k => ?_) (fun i hi q k => ?_) (fun k => ?_) (by omega)
  · show b_Fo_areWaysAlike_20 σ k (nI pl) X (bfr F pl s i) (nI i) = k (nI pl, X, (if thr F s i = true then lN (enc 31 c31 (wv F pl i)) else bfr F pl s i), nI (i + 1))
    rw [head i hi]
    by_cases w : thr F s i = true
    · rw [if_neg (bi_ne w), if_pos w]
      by_cases v : bfr F pl s i = -1
      · rw [if_pos ((lg_cmp_0 _ _).mpr v), e66]
      · rw [if_neg (fun e => v ((lg_cmp_0 _ _).mp e))]
        rcases (alk_iff F pl s i).mp q w with e | e
        · exact absurd e v
        · rw [if_pos ((lg_cmp_0 _ _).mpr e), e66]
    · rw [if_pos (bi_eq w), if_neg w, e70]
  · show b_Fo_areWaysAlike_20 σ k (nI pl) X (bfr F pl s i) (nI i) = some 0
    have q' : ¬ (thr F s i = true → bfr F pl s i = -1 ∨ lN (enc 31 c31 (wv F pl i)) = bfr F pl s i) := fun g => by
      rw [(alk_iff F pl s i).mpr g] at q
      exact absurd q (by decide)
    have w : thr F s i = true := Classical.byContradiction (fun w => q' (fun y => absurd y w))
    have v1 : ¬ bfr F pl s i = -1 := fun e => q' (fun _ => Or.inl e)
    have v2 : ¬ lN (enc 31 c31 (wv F pl i)) = bfr F pl s i := fun e => q' (fun _ => Or.inr e)
    rw [head i hi, if_neg (bi_ne w), if_neg (fun e => v1 ((lg_cmp_0 _ _).mp e)), if_neg (fun e => v2 ((lg_cmp_0 _ _).mp e))]
    rfl
  · show b_Fo_areWaysAlike_20 σ k (nI pl) X (bfr F pl s (jn F)) (nI (jn F)) = some 1
    unfold b_Fo_areWaysAlike_20
    rw [hc.1.1, if_pos (nI_le (Nat.le_refl _) (by omega))]
    rfl
theorem fo_remembers {σ : gS} {F : Fr} (h : WF F) (hc : CR σ F) (z : jn F ≠ 0) {pl : Nat} (hpl : pl < 2) : f_Fo_remembersAll σ (nI pl) = some (bi (rmb F pl)) := by
  have hl := h.1.1
  have hk := h.1.2
  have key := lp_all (body := fun k (x : Int32 × Int32) => b_Fo_remembersAll_2 σ k x.1 x.2) (fun s => (nI pl, nI s)) (jk F) (fun s => !decide (jow F s = pl) || allB (alk F pl s) (jn F)) (fun s hs q k => by
    show b_Fo_remembersAll_2 σ k (nI pl) (nI s) = k (nI pl, nI (s + 1))
    have q' : (!decide (jow F s = pl) || allB (alk F pl s) (jn F)) = true := q
    have how := (h.2.1 s hs).1
    unfold b_Fo_remembersAll_2
    rw [hc.1.2.1, if_neg (nI_ge hs (by omega)), ck_t (okI_lt (k := 13) (n := s) (L := 10) rfl rfl (by omega) (by decide)), nI_c (n := s) (by omega), hc.1.2.2.2.2.2.2.2.2.2.1 s hs]
    by_cases w : jow F s = pl
    · rw [decide_eq_true w, Bool.not_true, Bool.false_or] at q'
      rw [if_pos (by rw [w]), fo_alike h hc z hpl hs, Option.bind_some, if_neg (bi_ne q')]
      unfold b_Fo_remembersAll_31
      rw [bnd_e, nI_1]
    · rw [if_neg (fun e => w ((nI_eq (by omega) (by omega)).mp e))]
      unfold b_Fo_remembersAll_31
      rw [bnd_e, nI_1]) (fun s hs q k => by
    show b_Fo_remembersAll_2 σ k (nI pl) (nI s) = some 0
    have q' : (!decide (jow F s = pl) || allB (alk F pl s) (jn F)) = false := q
    rw [Bool.or_eq_false_iff, Bool.not_eq_false', decide_eq_true_eq] at q'
    unfold b_Fo_remembersAll_2
    rw [hc.1.2.1, if_neg (nI_ge hs (by omega)), ck_t (okI_lt (k := 13) (n := s) (L := 10) rfl rfl (by omega) (by decide)), nI_c (n := s) (by omega), hc.1.2.2.2.2.2.2.2.2.2.1 s hs, if_pos (by rw [q'.1]), fo_alike h hc z hpl hs, Option.bind_some, if_pos (by rw [q'.2]; rfl)]
    rfl) (fun k => by
    show b_Fo_remembersAll_2 σ k (nI pl) (nI (jk F)) = some 1
    unfold b_Fo_remembersAll_2
    rw [hc.1.2.1, if_pos (nI_le (Nat.le_refl _) (by omega))]
    rfl) (by omega)
  unfold f_Fo_remembersAll b_Fo_remembersAll_0 l_Fo_remembersAll_2
  refine key.trans (congrArg (fun b => some (bi b)) (b_of ?_))
  rw [allB_iff, rmb_iff]
  constructor
  · intro g i j hi hj ⟨w1, w2, w3, w4, w5, w6⟩
    have hs := ((h.2.2.1 i hi).2.2.2.2 w3).1
    have := g (jse F i) hs
    rw [decide_eq_true w6, Bool.not_true, Bool.false_or, alk_all h] at this
    refine this i j ?_ ?_
    · unfold thr
      rw [decide_eq_true hi, w1, w3]
      simp
    · unfold thr
      rw [decide_eq_true hj, w2, w4, w5]
      simp
  · intro g s hs
    by_cases w : jow F s = pl
    · rw [decide_eq_true w, Bool.not_true, Bool.false_or, alk_all h]
      intro i j ti tj
      unfold thr at ti tj
      simp only [Bool.and_eq_true, decide_eq_true_eq, beq_iff_eq] at ti tj
      exact g i j ti.1.1 tj.1.1 ⟨ti.2.2, tj.2.2, ti.1.2.1, tj.1.2.1, by rw [ti.1.2.2, tj.1.2.2], by rw [ti.1.2.2, w]⟩
    · rw [decide_eq_false w]
      rfl
noncomputable def remA (F : Fr) (x : Int32) : Int32 := cif (jn F = 0) (-1000000) (cif (i01 x = true) (bi (rmb F x.toNatClampNeg)) (-2))
theorem ga_remembered {σ : gS} {F : Fr} (h : WF F) (hc : CR σ F) (x : Int32) : f_Ga_remembered σ x = some (remA F x) := by
  unfold f_Ga_remembered b_Ga_remembered_0 remA
  rw [f_isEmpty h hc, Option.bind_some]
  by_cases z : jn F = 0
  · rw [if_neg (bi_ne (by simpa using z)), cif_t z]
  · rw [if_pos (bi_eq (by simpa using z)), cif_f z, f_isPlayer, Option.bind_some]
    by_cases q : i01 x = true
    · obtain ⟨pl, epl, hpl, epl2⟩ := i01_nat q
      rw [if_neg (bi_ne q), cif_t q, epl2, epl, fo_remembers h hc z hpl, Option.bind_some]
      cases rmb F pl <;> rfl
    · rw [if_pos (bi_eq q), cif_f q]
noncomputable def sibB (F : Fr) (pl i j : Nat) : Bool := @decide (sib F pl i j → wv F pl i = wv F pl j) (Classical.propDecidable _)
theorem sibB_iff (F : Fr) (pl i j : Nat) : sibB F pl i j = true ↔ (sib F pl i j → wv F pl i = wv F pl j) := @decide_eq_true_iff _ (Classical.propDecidable _)
theorem mo_rem2 {σ : gS} {F : Fr} (h : WF F) (hm : MR σ F) (ht : TR σ F) {pl i : Nat} (hpl : pl < 2) (hi : i < jn F) (c : Bool) (k30 : Int32 × Int32 × Int32 × gS → Option (Int32 × gS)) : l_Mo_remembered_41 k30 (nI pl, bi c, nI i, 0, σ) = k30 (nI pl, bi (c && allB (sibB F pl i) i), nI (i + 1), σ) := by
  have hl := h.1.1
  have hk := h.1.2
  unfold l_Mo_remembered_41
  rw [show (nI pl, bi c, nI i, (0 : Int32), σ) = (fun j => (nI pl, bi (c && allB (sibB F pl i) j), nI i, nI j, σ)) 0 from by
    show _ = (nI pl, bi (c && true), nI i, nI 0, σ)
    rw [Bool.and_true]
    rfl]
  refine lpF_go (fun j => (nI pl, bi (c && allB (sibB F pl i) j), nI i, nI j, σ)) i (fun j hj k => ?_) (fun k => ?_) (by omega)
  · show b_Mo_remembered_41 k30 k (nI pl) (bi (c && allB (sibB F pl i) j)) (nI i) (nI j) σ = k (nI pl, bi (c && (allB (sibB F pl i) j && sibB F pl i j)), nI i, nI (j + 1), σ)
    rw [← Bool.and_assoc]
    generalize (c && allB (sibB F pl i) j) = b
    have hj' : j < jn F := by omega
    have e155 : b_Mo_remembered_155 k30 k (nI pl) (nI i) (nI j) σ = k (nI pl, bi false, nI i, nI (j + 1), σ) := by
      unfold b_Mo_remembered_155 b_Mo_remembered_156
      rw [bnd_e, nI_1]
      rfl
    have e151 : b_Mo_remembered_151 k30 k (nI pl) (nI i) (nI j) σ = k (nI pl, bi true, nI i, nI (j + 1), σ) := by
      unfold b_Mo_remembered_151 b_Mo_remembered_156
      rw [bnd_e, nI_1]
      rfl
    have no : ¬ sib F pl i j → b_Mo_remembered_122 k30 k (nI pl) (bi b) (nI i) (nI j) σ = k (nI pl, bi (b && sibB F pl i j), nI i, nI (j + 1), σ) := fun n => by
      rw [(sibB_iff F pl i j).mpr (fun w => absurd w n), Bool.and_true]
      unfold b_Mo_remembered_122 b_Mo_remembered_123
      by_cases w : b = true
      · rw [if_neg (bi_ne w), if_pos rfl, e151, w]
      · have w' : b = false := by simpa using w
        rw [if_pos (bi_eq w), e155, w']
    unfold b_Mo_remembered_41
    rw [if_neg (nI_ge hj (by omega)), ck_t (okZ_lt (k := 56) (n := i) (L := 40) rfl rfl (by omega) (by decide)), nI_c (n := i) (by omega), ht.1 i hi]
    by_cases w1 : bl F (jn F - 1) i = true
    · rw [if_neg (bi_ne w1), ck_t (okZ_lt (k := 56) (n := j) (L := 40) rfl rfl (by omega) (by decide)), nI_c (n := j) (by omega), ht.1 j hj']
      by_cases w2 : bl F (jn F - 1) j = true
      · rw [if_neg (bi_ne w2), ck_t (okI_lt (k := 47) (n := i) (L := 40) rfl rfl (by omega) (by decide)), hm.2.2.1 i hi]
        have hsi := (h.2.2.1 i hi).1
        have hsj := (h.2.2.1 j hj').1
        by_cases w3 : jso F i = 2
        · rw [if_pos (show nI (jso F i) = 2 by rw [w3]; rfl), ck_t (okI_lt (k := 47) (n := j) (L := 40) rfl rfl (by omega) (by decide)), hm.2.2.1 j hj']
          by_cases w4 : jso F j = 2
          · have ei : gI σ 48 i = nI (jse F i) := by rw [hm.2.2.2.1 i hi, if_pos w3]
            have ej : gI σ 48 j = nI (jse F j) := by rw [hm.2.2.2.1 j hj', if_pos w4]
            have ki := ((h.2.2.1 i hi).2.2.2.2 w3).1
            have kj := ((h.2.2.1 j hj').2.2.2.2 w4).1
            have how := (h.2.1 _ ki).1
            rw [if_pos (show nI (jso F j) = 2 by rw [w4]; rfl), ck_t (okI_lt (k := 48) (n := i) (L := 40) rfl rfl (by omega) (by decide)), ck_t (okI_lt (k := 48) (n := j) (L := 40) rfl rfl (by omega) (by decide)), ei, ej]
            by_cases w5 : jse F i = jse F j
            · rw [if_pos (show nI (jse F i) = nI (jse F j) by rw [w5]), ck_t (okI_lt (k := 48) (n := i) (L := 40) rfl rfl (by omega) (by decide)), ck_t (okI_lt (k := 54) (n := jse F i) (L := 10) rfl rfl (by omega) (by decide)), nI_c (n := jse F i) (by omega), hm.2.2.2.2.2.2.2.2.2.1 _ ki]
              by_cases w6 : jow F (jse F i) = pl
              · rw [if_pos (show nI (jow F (jse F i)) = nI pl by rw [w6])]
                unfold b_Mo_remembered_123
                by_cases w : b = true
                · rw [if_neg (bi_ne w), if_neg (show ¬ (1 : Int32) = 0 by decide), mo_way h hm hpl hi, Option.bind_some, mo_way h hm hpl hj', Option.bind_some, w, Bool.true_and]
                  by_cases v : wv F pl i = wv F pl j
                  · rw [if_pos ((lg_cmp_0 _ _).mpr (by rw [v])), e151, (sibB_iff F pl i j).mpr (fun _ => v)]
                  · have v' : sibB F pl i j = false := by
                      cases q : sibB F pl i j with
                      | false => rfl
                      | true => exact absurd ((sibB_iff F pl i j).mp q ⟨w1, w2, w3, w4, w5, w6⟩) v
                    rw [if_neg (fun e => v ((enc40 h pl hi hj').mp ((lg_cmp_0 _ _).mp e))), e155, v']
                · have w' : b = false := by simpa using w
                  rw [if_pos (bi_eq w), e155, w', Bool.false_and]
              · rw [if_neg (show ¬ nI (jow F (jse F i)) = nI pl from fun e => w6 ((nI_eq (by omega) (by omega)).mp e))]
                exact no (fun q => w6 q.2.2.2.2.2)
            · rw [if_neg (show ¬ nI (jse F i) = nI (jse F j) from fun e => w5 ((nI_eq (by omega) (by omega)).mp e))]
              exact no (fun q => w5 q.2.2.2.2.1)
          · rw [if_neg (show ¬ nI (jso F j) = 2 from fun e => w4 ((nI_eq (b := 2) (by omega) (by decide)).mp e))]
            exact no (fun q => w4 q.2.2.2.1)
        · rw [if_neg (show ¬ nI (jso F i) = 2 from fun e => w3 ((nI_eq (b := 2) (by omega) (by decide)).mp e))]
          exact no (fun q => w3 q.2.2.1)
      · rw [if_pos (bi_eq w2)]
        exact no (fun q => w2 q.2.1)
    · rw [if_pos (bi_eq w1)]
      exact no (fun q => w1 q.1)
  · show b_Mo_remembered_41 k30 k (nI pl) (bi (c && allB (sibB F pl i) i)) (nI i) (nI i) σ = _
    unfold b_Mo_remembered_41
    rw [if_pos (nI_le (Nat.le_refl _) (by omega)), bnd_e, nI_1]
theorem mo_remembered {σ : gS} {F : Fr} (h : WF F) (hm : MR σ F) (x : Int32) : ∃ τ, f_Mo_remembered σ x = some (remA F x, τ) ∧ MR τ F ∧ sm (fun c => c < 46) σ τ := by
  have hl := h.1.1
  unfold f_Mo_remembered b_Mo_remembered_0 remA
  rw [hm.1]
  by_cases z : jn F = 0
  · rw [if_pos ((n_0 h).mpr z), cif_t z]
    exact ⟨σ, rfl, hm, sm_rf _ _⟩
  · rw [if_neg (fun e => z ((n_0 h).mp e)), cif_f z, f_isFrom, Option.bind_some, i01_am]
    by_cases q : i01 x = true
    · obtain ⟨pl, epl, hpl, epl2⟩ := i01_nat q
      obtain ⟨σ1, f1, f2, f3, f4⟩ := mo_tree h hm
      have hm1 : MR σ1 F := MR_s f4 (fun c h1 h2 => by omega) hm
      refine ⟨σ1, ?_, hm1, f4.less (fun c hc => by have : c < 46 := hc; omega)⟩
      rw [if_neg (bi_ne q), cif_t q, f1, Option.bind_some, epl2, epl]
      unfold l_Mo_remembered_30
      have e : rmb F pl = allB (fun i => allB (sibB F pl i) i) (jn F) := by
        refine b_of ?_
        rw [rmb_iff, allB_iff]
        constructor
        · intro g i hi
          rw [allB_iff]
          intro j hj
          exact (sibB_iff F pl i j).mpr (fun w => g i j hi (by omega) w)
        · intro g
          have half : ∀ i j, i < jn F → j < i → sib F pl i j → wv F pl i = wv F pl j := fun i j hi hj w => (sibB_iff F pl i j).mp ((allB_iff _ _).mp (g i hi) j hj) w
          intro i j hi hj w
          rcases (show i = j ∨ j < i ∨ i < j by omega) with e | e | e
          · rw [e]
          · exact half i j hi e w
          · exact (half j i hj e ⟨w.2.1, w.1, w.2.2.2.1, w.2.2.1, w.2.2.2.2.1.symm, by rw [← w.2.2.2.2.1]; exact w.2.2.2.2.2⟩).symm
      rw [e]
      refine lpF_go (fun i => (nI pl, bi (allB (fun i => allB (sibB F pl i) i) i), nI i, σ1)) (jn F) (fun i hi k => ?_) (fun k => ?_) (by omega)
      · show b_Mo_remembered_30 k (nI pl) (bi (allB (fun i => allB (sibB F pl i) i) i)) (nI i) σ1 = k (nI pl, bi (allB (fun i => allB (sibB F pl i) i) i && allB (sibB F pl i) i), nI (i + 1), σ1)
        unfold b_Mo_remembered_30
        rw [hm1.1, if_neg (nI_ge hi (by omega)), mo_rem2 h hm1 ⟨f2, f3⟩ hpl hi]
      · show b_Mo_remembered_30 k (nI pl) (bi (allB (fun i => allB (sibB F pl i) i) (jn F))) (nI (jn F)) σ1 = _
        unfold b_Mo_remembered_30
        rw [hm1.1, if_pos (nI_le (Nat.le_refl _) (by omega))]
        cases allB (fun i => allB (sibB F pl i) i) (jn F) <;> rfl
    · rw [if_pos (bi_eq q), cif_f q]
      exact ⟨σ, rfl, hm, sm_rf _ _⟩
