/-! chance and node, the reference: to their ends -/
theorem mx_add {f : Nat → Nat} (q : Nat) : ∀ {k : Nat}, 1 ≤ k → mx k (fun j => f j + q) = mx k f + q
  | 0, h => by omega
  | 1, _ => by
    show max 0 (f 0 + q) = max 0 (f 0) + q
    omega
  | k + 2, _ => by
    have ih := mx_add (f := f) q (show 1 ≤ k + 1 by omega)
    show max (mx (k + 1) (fun j => f j + q)) (f (k + 1) + q) = max (mx (k + 1) f) (f (k + 1)) + q
    rw [ih]
    omega
theorem mo_undo {ρ : gS} {n cnt : Nat} {a b c : Int32} {cc : Nat → Nat} (hc : cnt ≤ 3) (h0 : gI ρ 46 0 = nI (n + 1)) (hx : ∀ j, j < cnt → x3f a b c j = nI (cc j) ∧ cc j < 40) : ∃ τ, f_Mo_undo ρ (nI cnt) a b c = some τ ∧ gI τ 46 0 = nI n ∧ (∀ i, i ≠ 0 → gI τ 46 i = gI ρ 46 i) ∧ (∀ i, gI τ 51 i = if isC cnt cc i = true then -1 else gI ρ 51 i) ∧ sm (fun c => c ≠ 46 ∧ c ≠ 51) ρ τ := by
  let I : Nat → (Int32 × Int32 × Int32 × Int32 × Int32 × gS) → Prop := fun i x => ∃ υ : gS, x = (nI cnt, a, b, c, nI i, υ) ∧ (∀ m, gI υ 51 m = if isC i cc m = true then -1 else gI ρ 51 m) ∧ sm (fun c => c ≠ 51) ρ υ
  have hs : ∀ i, i < cnt → ∀ x, I i x → ∃ x', I (i + 1) x' ∧ ∀ k, b_Mo_undo_3 k x.1 x.2.1 x.2.2.1 x.2.2.2.1 x.2.2.2.2.1 x.2.2.2.2.2 = k x' := by
    rintro i hi x ⟨υ, rfl, e1, e2⟩
    have hci := (hx i hi).2
    refine ⟨(nI cnt, a, b, c, nI (i + 1), sI υ 51 (cc i) (-1)), ⟨_, rfl, fun m => ?_, e2.tr (sm_sI _ _ _ (fun z => z rfl))⟩, fun k => ?_⟩
    · have key : isC (i + 1) cc m = true ↔ cc i = m ∨ isC i cc m = true := by
        rw [isC_iff (by omega), isC_iff (by omega)]
        constructor
        · rintro ⟨j, hj, e⟩
          by_cases z : j = i
          · subst z; exact Or.inl e
          · exact Or.inr ⟨j, by omega, e⟩
        · rintro (e | ⟨j, hj, e⟩)
          · exact ⟨i, by omega, e⟩
          · exact ⟨j, by omega, e⟩
      rw [gI_sI]
      by_cases z : m = cc i
      · rw [if_pos ⟨rfl, z⟩, if_pos (key.mpr (Or.inl z.symm))]
      · rw [if_neg (fun w => z w.2), e1 m]
        by_cases z2 : isC i cc m = true
        · rw [if_pos z2, if_pos (key.mpr (Or.inr z2))]
        · rw [if_neg z2, if_neg (fun w => (key.mp w).elim (fun e => z e.symm) z2)]
    · show b_Mo_undo_3 k (nI cnt) a b c (nI i) υ = _
      unfold b_Mo_undo_3
      rw [if_neg (nI_ge hi (by omega)), f_third a b c (by omega), Option.bind_some, (hx i hi).1, ck_t (okI_lt (k := 51) (n := cc i) (L := 40) rfl rfl hci (by decide)), bnd_e, bnd_e, nI_c (by omega), nI_1]
  obtain ⟨x', k, ⟨υ, rfl, e1, e2⟩, e⟩ := lpF_in I cnt (nI cnt, a, b, c, 0, ρ) ⟨ρ, rfl, fun m => by rw [if_neg (by unfold isC; simp)], sm_rf _ _⟩ hs (by omega)
  refine ⟨sI υ 46 0 (nI n), ?_, gI_same _ _ _ _, fun i hi => ?_, fun i => ?_, ?_⟩
  · unfold f_Mo_undo b_Mo_undo_0 l_Mo_undo_3
    refine e.trans ?_
    show b_Mo_undo_3 k (nI cnt) a b c (nI cnt) υ = _
    unfold b_Mo_undo_3
    rw [if_pos (nI_le (Nat.le_refl _) (by omega)), bnd_e, e2.i (by decide), h0, nI_pred]
  · rw [gI_sI, if_neg (fun w => hi w.2), e2.i (by decide)]
  · rw [gI_cell _ _ _ _ (by decide), e1]
  · exact (e2.less (fun c hc => hc.2)).tr (sm_sI _ _ _ (fun z => z.1 rfl))
theorem mo_core {σ ρ : gS} {F : Fr} (h : WF F) (hm : MR σ F) {sort set cnt : Nat} (ha : parA F sort set cnt) {a b c : Int32} (hx : ∀ j, j < cnt → x3f a b c j = nI (c3f a b c j) ∧ c3f a b c j < jn F) (hn : jn F < 40) (hK : ¬ parK F cnt (c3f a b c)) (hD : ¬ parD F sort cnt (c3f a b c))
    (r1 : gI ρ 46 0 = nI (jn F + 1)) (r2 : gI ρ 46 1 = gI σ 46 1) (r47 : ∀ i, gI ρ 47 i = if i = jn F then nI sort else gI σ 47 i) (r48 : ∀ i, gI ρ 48 i = if i = jn F then (if sort = 2 then nI set else -1) else gI σ 48 i) (r49 : ∀ i, i < jn F → ∀ v, v < 2 → gI ρ 49 (2 * i + v) = gI σ 49 (2 * i + v)) (r51 : ∀ i, gI ρ 51 i = if i = jn F then -1 else gI σ 51 i) (r52 : ∀ i, gI ρ 52 i = if i = jn F then 0 else gI σ 52 i) (r53 : ∀ i, gI ρ 53 i = if i = jn F then 0 else gI σ 53 i) (r50 : ∀ j, j < 3 → gI ρ 50 (3 * jn F + j) = -1) (r50' : ∀ i, (∀ j, j < 3 → i ≠ 3 * jn F + j) → gI ρ 50 i = gI σ 50 i) (rs : sm (fun c => c < 46 ∨ 54 ≤ c) σ ρ) :
    ∃ τ, ((f_Mo_adopt ρ (nI (jn F)) (nI cnt) a b c (nI (if sort = 1 then 1 else 0))).bind fun r_7 => (f_Mo_tooMany r_7).bind fun r_8 => if r_8.1 = 0 then some (nI (jn F), r_8.2) else (f_Mo_undo r_8.2 (nI cnt) a b c).bind fun r_10 => some ((-6 : Int32), r_10)) = some ((cif (parW F sort set cnt (c3f a b c)) (-6, F) (nI (jn F), parF F sort set cnt (c3f a b c))).1, τ) ∧ MR τ (cif (parW F sort set cnt (c3f a b c)) (-6, F) (nI (jn F), parF F sort set cnt (c3f a b c))).2 ∧ sm (fun c => c < 46 ∨ 58 ≤ c) σ τ := by
  obtain ⟨a1, a2, a3⟩ := id ha
  obtain ⟨m0, m1, m2, m3, m4, m5, m6, m7, m8, m9, m10⟩ := id hm
  have hl := h.1.1
  generalize hcc : c3f a b c = cc at hx hK hD ⊢
  have hk := par_ok ha hn (fun j hj => (hx j hj).2) hK hD
  have hq1 : (if sort = 1 then 1 else 0) ≤ 1 := by split <;> omega
  obtain ⟨τ1, f1, f2, f3, f4, f5, f6, f7⟩ := mo_adopt (ρ := ρ) (n := jn F) (cnt := cnt) (q := if sort = 1 then 1 else 0) (a := a) (b := b) (c := c) (cc := cc) (he := jhe F) (ch := jcc F) hn a2 hq1 hx (by rw [r52, if_pos rfl]) (by rw [r53, if_pos rfl]) (fun j hj => ⟨by rw [r52, if_neg (by have := (hx j hj).2; omega), m7 _ (hx j hj).2], (h.2.2.2.2.2.1 _ (hx j hj).2).1⟩) (fun j hj => ⟨by rw [r53, if_neg (by have := (hx j hj).2; omega), m8 _ (hx j hj).2], (h.2.2.2.2.2.1 _ (hx j hj).2).2.1⟩)
  rw [f1, Option.bind_some]
  -- the state with the new node
  have hM : MR τ1 (parF F sort set cnt cc) := by
    refine BR_add hm hk ?_ ?_ ?_ ?_ ?_ ?_ ?_ ?_ ?_ ?_ ?_ ?_ ?_ ?_ ?_ ?_ ?_ ?_
    · rw [f7.i (by decide), r1]
    · rw [f7.i (by decide), r2]
    · intro i hi; rw [f7.i (by decide), r47, if_neg (by omega)]
    · rw [f7.i (by decide), r47, if_pos rfl]
    · intro i hi; rw [f7.i (by decide), r48, if_neg (by omega)]
    · rw [f7.i (by decide), r48, if_pos rfl]
    · intro i hi v hv; rw [f7.i (by decide), r49 i hi v hv]
    · intro e0
      have : sort = 1 ∨ sort = 2 := a3.elim (fun z => Or.inl z.1) (fun z => Or.inr z.1)
      omega
    · intro i hi j hj; rw [f3 _ (fun j' hj' => by omega), r50' _ (fun j' hj' => by omega)]
    · intro j hj; rw [f2 j hj, r50 j hj]
    · intro i hi; rw [f4 i, r51, if_neg (show ¬ i = jn F by omega)]
    · rw [f4 (jn F), if_neg (fun z => by
        obtain ⟨j, hj, e9⟩ := (isC_iff a2 cc _).mp z
        have := (hx j hj).2
        omega), r51, if_pos rfl]
    · intro i hi; rw [f5, if_neg (by omega), r52, if_neg (by omega)]
    · rw [f5, if_pos rfl, mx_add 1 a1, Nat.add_comm]
    · intro i hi; rw [f6, if_neg (by omega), r53, if_neg (by omega)]
    · rw [f6, if_pos rfl, mx_add _ a1]
    · intro k hk9; rw [f7.i (by decide), rs.i (by decide)]
    · intro k hk9; rw [f7.i (by decide), rs.i (by decide)]
  have hW0 : WFB 100000 F := by
    obtain ⟨w1, w2, w3, w4, w5, w6, w7, w8⟩ := h
    exact ⟨w1, w2, w3, w4, w5, w6, w7, fun m hm pl hpl => by have := w8 m hm pl hpl; omega⟩
  have hsmall : ∀ pl, pls (parF F sort set cnt cc) (jn F) pl < 100000 := fun pl => by
    have h1 : pls (parF F sort set cnt cc) (jn F) pl ≤ 3 ^ 10 := prd_le _ (fun k _ q => by
      have hk9 : k < jk F := by
        rcases (ins_new h hk k).mp q with ⟨z1, z2⟩ | ⟨j, hj, z⟩
        · have := (hk.2.2.2.2.2.1 z1).1
          omega
        · exact ins_lt h z
      have := (h.2.1 k hk9).2
      show jac F k ≤ 3
      omega)
    have h3 : (3 : Nat) ^ 10 = 59049 := by decide
    omega
  have hW1 : WFB 100000 (parF F sort set cnt cc) := WF_add hW0 hk (fun pl _ => Nat.le_of_lt (hsmall pl))
  obtain ⟨τ2, g1, g2, g3, g4⟩ := mo_tree hW1 hM
  have hM2 : MR τ2 (parF F sort set cnt cc) := BR_sm g4 hM (by decide) (by decide) (by decide) (by decide) (by decide) (by decide) (by decide) (by decide) (by decide) (by decide)
  have hpw : ∀ pl, pl < 2 → f_Mo_plansOf τ2 (nI pl) = some (nI (pls (parF F sort set cnt cc) (jn F) pl)) := fun pl hpl => by
    have e := prd_10 hW1 (jn F) pl
    rw [← e]
    refine mo_plansOf (b := ins (parF F sort set cnt cc) (jn F)) hM2.2.1 h.1.2 (fun k hk9 => ⟨hM2.2.2.2.2.2.2.2.2.2.1 k hk9, (h.2.1 k hk9).1⟩) (fun k hk9 => hM2.2.2.2.2.2.2.2.2.2.2 k hk9) (fun k hk9 => ?_) hpl
    have hk10 : k < 10 := by
      have h1 : k < jk F := hk9
      have := h.1.2
      omega
    rw [g3 k hk10]
    rfl
  have p0 := hpw 0 (by decide)
  have p1 := hpw 1 (by decide)
  have s0 := hsmall 0
  have s1 := hsmall 1
  have sm0 : sm (fun c => c < 46 ∨ 58 ≤ c) σ τ2 := by
    refine ((rs.less (fun k hk9 => ?_)).tr (f7.less (fun k hk9 => ?_))).tr (g4.less (fun k hk9 => ?_))
    · have : k < 46 ∨ 58 ≤ k := hk9
      show k < 46 ∨ 54 ≤ k
      omega
    · have : k < 46 ∨ 58 ≤ k := hk9
      omega
    · have : k < 46 ∨ 58 ≤ k := hk9
      omega
  have too : f_Mo_tooMany τ1 = some (bi (decide (64 < pls (parF F sort set cnt cc) (jn F) 0) || decide (64 < pls (parF F sort set cnt cc) (jn F) 1)), τ2) := by
    unfold f_Mo_tooMany b_Mo_tooMany_0
    rw [g1, Option.bind_some, show f_Mo_plansOf τ2 0 = f_Mo_plansOf τ2 (nI 0) from rfl, p0, Option.bind_some, show f_Mo_plansOf τ2 1 = f_Mo_plansOf τ2 (nI 1) from rfl, p1, Option.bind_some]
    by_cases z : 64 < pls (parF F sort set cnt cc) (jn F) 0
    · rw [if_pos (show (64 : Int32) < nI _ from nI_lt (a := 64) z (by omega))]
      simp [z]
      rfl
    · rw [if_neg (show ¬ (64 : Int32) < nI _ from nI_nlt (a := 64) (by omega) (by decide))]
      by_cases z2 : 64 < pls (parF F sort set cnt cc) (jn F) 1
      · rw [if_neg (show ¬ nI _ ≤ (64 : Int32) from nI_ge (a := 64) z2 (by omega))]
        simp [z2]
        rfl
      · rw [if_pos (show nI _ ≤ (64 : Int32) from nI_le (b := 64) (by omega) (by decide))]
        simp [z, z2]
        rfl
  rw [too, Option.bind_some]
  by_cases z : parW F sort set cnt cc
  · rw [cif_t z, if_neg (bi_ne (by unfold parW at z; simpa using z))]
    obtain ⟨τ3, t1, t2, t3, t4, t5⟩ := mo_undo (n := jn F) (cc := cc) (a := a) (b := b) (c := c) a2 hM2.1 (fun j hj => ⟨(hx j hj).1, by have := (hx j hj).2; omega⟩)
    have e : ((f_Mo_undo τ2 (nI cnt) a b c).bind fun r_10 => some ((-6 : Int32), r_10)) = some (-6, τ3) := by rw [t1]; rfl
    refine ⟨τ3, e, ?_, ?_⟩
    · have back : ∀ k i, k ≠ 46 → k ≠ 51 → k ≠ 56 → k ≠ 57 → k ≠ 50 → k ≠ 52 → k ≠ 53 → gI τ3 k i = gI ρ k i := fun k i q1 q2 q3 q4 q5 q6 q7 => by
        rw [t5.i ⟨q1, q2⟩, g4.i ⟨q3, q4⟩, f7.i ⟨q5, q2, q6, q7⟩]
      show MR τ3 F
      refine ⟨t2, ?_, fun i hi => ?_, fun i hi => ?_, fun i hi h0 v hv => ?_, fun i hi j hj => ?_, fun i hi => ?_, fun i hi => ?_, fun i hi => ?_, fun k hk9 => ?_, fun k hk9 => ?_⟩
      · rw [t3 1 (by decide), g4.i (by decide), f7.i (by decide), r2, m1]
      · rw [back 47 i (by decide) (by decide) (by decide) (by decide) (by decide) (by decide) (by decide), r47, if_neg (by omega), m2 i hi]
      · rw [back 48 i (by decide) (by decide) (by decide) (by decide) (by decide) (by decide) (by decide), r48, if_neg (by omega), m3 i hi]
      · rw [back 49 _ (by decide) (by decide) (by decide) (by decide) (by decide) (by decide) (by decide), r49 i hi v hv, m4 i hi h0 v hv]
      · rw [t5.i (by decide), g4.i (by decide), f3 _ (fun j' hj' => by omega), r50' _ (fun j' hj' => by omega), m5 i hi j hj]
      · rw [t4]
        by_cases w : isC cnt cc i = true
        · rw [if_pos w]
          obtain ⟨j, hj, e9⟩ := (isC_iff a2 cc i).mp w
          rw [if_neg (fun w2 => hK ⟨j, hj, Or.inl (by rw [e9]; exact w2)⟩)]
        · rw [if_neg w, g4.i (by decide), f4, if_neg w, r51, if_neg (by omega), m6 i hi]
      · rw [t5.i (by decide), g4.i (by decide), f5, if_neg (by omega), r52, if_neg (by omega), m7 i hi]
      · rw [t5.i (by decide), g4.i (by decide), f6, if_neg (by omega), r53, if_neg (by omega), m8 i hi]
      · rw [back 54 k (by decide) (by decide) (by decide) (by decide) (by decide) (by decide) (by decide), rs.i (by decide), m9 k hk9]
      · rw [back 55 k (by decide) (by decide) (by decide) (by decide) (by decide) (by decide) (by decide), rs.i (by decide), m10 k hk9]
    · exact sm0.tr (t5.less (fun k hk9 => by have : k < 46 ∨ 58 ≤ k := hk9; omega))
  · rw [cif_f z, if_pos (bi_eq (by unfold parW at z; simpa using z))]
    exact ⟨τ2, rfl, hM2, sm0⟩
