/-! clear, set, end: what they come to, in numbers; both sides -/
def clrS (F : Fr) : Fr := ((0, 0), F.2)
theorem WF_clr (F : Fr) : WF (clrS F) := ⟨⟨Nat.zero_le _, Nat.zero_le _⟩, fun k h => absurd h (Nat.not_lt_zero k), fun i h => absurd h (Nat.not_lt_zero i), fun i h => absurd h (Nat.not_lt_zero i), fun i h => absurd h (Nat.not_lt_zero i), fun i h => absurd h (Nat.not_lt_zero i), fun i h => absurd h (Nat.not_lt_zero i), fun i h => absurd h (Nat.not_lt_zero i)⟩
theorem BR_clr {σ : gS} {F : Fr} {o a1 a2 a3 a4 a5 a6 a7 a8 a9 : Nat} (h0 : gI σ o 0 = 0) (h1 : gI σ o 1 = 0) : BR σ (clrS F) o a1 a2 a3 a4 a5 a6 a7 a8 a9 :=
  ⟨h0, h1, fun i h => absurd h (Nat.not_lt_zero i), fun i h => absurd h (Nat.not_lt_zero i), fun i h => absurd h (Nat.not_lt_zero i), fun i h => absurd h (Nat.not_lt_zero i), fun i h => absurd h (Nat.not_lt_zero i), fun i h => absurd h (Nat.not_lt_zero i), fun i h => absurd h (Nat.not_lt_zero i), fun i h => absurd h (Nat.not_lt_zero i), fun i h => absurd h (Nat.not_lt_zero i)⟩
theorem ga_clear {σ : gS} {F : Fr} (hc : CR σ F) : ∃ τ, f_Ga_clear σ = some (nI (jn F), τ) ∧ CR τ (clrS F) ∧ gI τ 1 2 = gI σ 1 2 + 1 ∧ sm (fun c => c ≠ 1) σ τ := by
  refine ⟨sI (sI (sI σ 1 0 0) 1 1 0) 1 2 (gI (sI (sI σ 1 0 0) 1 1 0) 1 2 + 1), ?_, ⟨BR_clr ?_ ?_, fun i h => absurd h (Nat.not_lt_zero i), fun i h => absurd h (Nat.not_lt_zero i), fun i h => absurd h (Nat.not_lt_zero i), fun i h => absurd h (Nat.not_lt_zero i)⟩, ?_, ?_⟩
  · show some (gI σ 1 0, _) = _
    rw [hc.1.1]
  · simp [gI_sI]
  · simp [gI_sI]
  · simp [gI_sI]
  · exact ((sm_sI σ 0 0 (fun h => h rfl)).tr (sm_sI _ 1 0 (fun h => h rfl))).tr (sm_sI _ 2 _ (fun h => h rfl))
theorem mo_clear {σ : gS} {F : Fr} (hm : MR σ F) : ∃ τ, f_Mo_clear σ = some (nI (jn F), τ) ∧ MR τ (clrS F) ∧ sm (fun c => c ≠ 46) σ τ := by
  refine ⟨sI (sI σ 46 0 0) 46 1 0, ?_, BR_clr ?_ ?_, ?_⟩
  · show some (gI σ 46 0, _) = _
    rw [hm.1]
  · simp [gI_sI]
  · simp [gI_sI]
  · exact (sm_sI σ 0 0 (fun h => h rfl)).tr (sm_sI _ 1 0 (fun h => h rfl))
/-- a set more -/
def addS (F : Fr) (pl a : Nat) : Fr := ((jn F, jk F + 1), F.2.1, F.2.2.1, (va_up (jow F) (jk F) pl, va_up (jac F) (jk F) a, jwo F))
theorem bl_set (F : Fr) (pl a m i : Nat) : bl (addS F pl a) m i = bl F m i := rfl
theorem ins_set (F : Fr) (pl a m k : Nat) : ins (addS F pl a) m k = ins F m k := rfl
theorem pls_set {F : Fr} (h : WF F) (pl a m p : Nat) : pls (addS F pl a) m p = pls F m p := by
  unfold pls
  refine prd_congr 10 (fun k _ => ⟨rfl, fun q => ?_⟩)
  have := ins_lt h (show ins F m k = true from q)
  exact ⟨va_up_ne _ _ (by omega), va_up_ne _ _ (by omega)⟩
theorem WF_set {F : Fr} (h : WF F) {pl a : Nat} (hp : pl < 2) (ha : a = 2 ∨ a = 3) (hk : jk F < 10) : WF (addS F pl a) := by
  obtain ⟨w1, w2, w3, w4, w5, w6, w7, w8⟩ := id h
  refine ⟨⟨w1.1, hk⟩, fun k hk => ?_, fun i hi => ?_, w4, w5, w6, w7, fun m hm p hp => ?_⟩
  · have hk' : k < jk F + 1 := hk
    by_cases q : k = jk F
    · subst q
      show va_up (jow F) (jk F) pl (jk F) < 2 ∧ (va_up (jac F) (jk F) a (jk F) = 2 ∨ va_up (jac F) (jk F) a (jk F) = 3)
      rw [va_up_self, va_up_self]
      exact ⟨hp, ha⟩
    · show va_up (jow F) (jk F) pl k < 2 ∧ (va_up (jac F) (jk F) a k = 2 ∨ va_up (jac F) (jk F) a k = 3)
      rw [va_up_ne _ _ q, va_up_ne _ _ q]
      exact w2 k (by omega)
  · obtain ⟨g1, g2, g3, g4, g5⟩ := w3 i hi
    refine ⟨g1, g2, g3, g4, fun z => ?_⟩
    obtain ⟨g6, g7⟩ := g5 z
    refine ⟨show jse F i < jk F + 1 by omega, ?_⟩
    show jcn F i = va_up (jac F) (jk F) a (jse F i)
    rw [va_up_ne _ _ (by omega)]
    exact g7
  · rw [pls_set h]
    exact w8 m hm p hp
def setS (F : Fr) (x1 x2 : Int32) : Int32 × Fr := if (i01 x1 && am x2 2 3) = true then (if jk F < 10 then (nI (jk F), addS F x1.toNatClampNeg x2.toNatClampNeg) else (-3, F)) else (-2, F)
theorem WF_setS {F : Fr} (h : WF F) (x1 x2 : Int32) : WF (setS F x1 x2).2 := by
  unfold setS
  split
  · rename_i q
    split
    · rename_i q2
      simp only [Bool.and_eq_true] at q
      refine WF_set h ?_ ?_ q2
      · have := q.1
        unfold i01 at this
        simp only [Bool.or_eq_true, decide_eq_true_eq] at this
        rcases this with e | e <;> rw [e] <;> decide
      · have := q.2
        unfold am at this
        simp only [Bool.and_eq_true, decide_eq_true_eq, Int32.le_iff_toInt_le] at this
        have h2 : (2 : Int32).toInt = 2 := by decide
        have h3 : (3 : Int32).toInt = 3 := by decide
        show x2.toInt.toNat = 2 ∨ x2.toInt.toNat = 3
        omega
    · exact h
  · exact h
theorem BR_set {σ τ : gS} {F : Fr} {o cSo cSe cWo cCh cPa cHe cCc cOw cAc pl a : Nat} (hb : BR σ F o cSo cSe cWo cCh cPa cHe cCc cOw cAc) (e0 : gI τ o 0 = gI σ o 0) (e1 : gI τ o 1 = nI (jk F + 1)) {P : Nat → Prop} (hs : sm P σ τ) (n1 : P cSo) (n2 : P cSe) (n3 : P cWo) (n4 : P cCh) (n5 : P cPa) (n6 : P cHe) (n7 : P cCc)
    (e9 : ∀ k, k < jk F → gI τ cOw k = gI σ cOw k) (f9 : gI τ cOw (jk F) = nI pl) (e10 : ∀ k, k < jk F → gI τ cAc k = gI σ cAc k) (f10 : gI τ cAc (jk F) = nI a) : BR τ (addS F pl a) o cSo cSe cWo cCh cPa cHe cCc cOw cAc := by
  obtain ⟨b0, b1, b2, b3, b4, b5, b6, b7, b8, b9, b10⟩ := hb
  refine ⟨e0.trans b0, e1, ?_, ?_, ?_, ?_, ?_, ?_, ?_, fun k hk => ?_, fun k hk => ?_⟩
  · simp only [hs.i n1]; exact b2
  · simp only [hs.i n2]; exact b3
  · simp only [hs.i n3]; exact b4
  · simp only [hs.i n4]; exact b5
  · simp only [hs.i n5]; exact b6
  · simp only [hs.i n6]; exact b7
  · simp only [hs.i n7]; exact b8
  · have hk' : k < jk F + 1 := hk
    show gI τ cOw k = nI (va_up (jow F) (jk F) pl k)
    by_cases q : k = jk F
    · subst q; rw [va_up_self, f9]
    · rw [va_up_ne _ _ q, e9 k (by omega), b9 k (by omega)]
  · have hk' : k < jk F + 1 := hk
    show gI τ cAc k = nI (va_up (jac F) (jk F) a k)
    by_cases q : k = jk F
    · subst q; rw [va_up_self, f10]
    · rw [va_up_ne _ _ q, e10 k (by omega), b10 k (by omega)]
theorem bi_ne {b : Bool} (h : b = true) : ¬ bi b = 0 := by rw [h]; decide
theorem bi_eq {b : Bool} (h : ¬ b = true) : bi b = 0 := by
  have : b = false := by simpa using h
  rw [this]; rfl
theorem am_nat {x a b : Int32} (h : am x a b = true) (ha : 0 ≤ a.toInt) : ∃ j : Nat, x = nI j ∧ (j : Int) = x.toInt ∧ a.toInt ≤ j ∧ (j : Int) ≤ b.toInt ∧ x.toNatClampNeg = j := by
  unfold am at h
  simp only [Bool.and_eq_true, decide_eq_true_eq, Int32.le_iff_toInt_le] at h
  obtain ⟨j, hj, rfl⟩ := nI_of (x := x) (fun z => by
    rw [Int32.lt_iff_toInt_lt] at z
    have h0 : (0 : Int32).toInt = 0 := by decide
    omega)
  have := nI_toInt hj
  exact ⟨j, rfl, this.symm, by omega, by omega, nI_clamp hj⟩
theorem i01_nat {x : Int32} (h : i01 x = true) : ∃ j : Nat, x = nI j ∧ j < 2 ∧ x.toNatClampNeg = j := by
  unfold i01 at h
  simp only [Bool.or_eq_true, decide_eq_true_eq] at h
  rcases h with rfl | rfl
  · exact ⟨0, rfl, by decide, rfl⟩
  · exact ⟨1, rfl, by decide, rfl⟩
theorem ga_set {σ : gS} {F : Fr} (h : WF F) (hc : CR σ F) (x1 x2 : Int32) : ∃ τ, f_Ga_set σ x1 x2 = some ((setS F x1 x2).1, τ) ∧ CR τ (setS F x1 x2).2 ∧ gI τ 1 2 = gI σ 1 2 ∧ sm (fun c => 15 ≤ c) σ τ := by
  unfold f_Ga_set b_Ga_set_0 setS
  simp only [f_isPlayer, f_isAmong, Option.bind_some]
  by_cases q1 : i01 x1 = true
  · rw [if_neg (bi_ne q1)]
    by_cases q2 : am x2 2 3 = true
    · rw [if_neg (bi_ne q2), if_pos (by rw [q1, q2]; rfl)]
      unfold f_Fo_addSet b_Fo_addSet_0
      have hk := hc.1.2.1
      by_cases q3 : jk F < 10
      · obtain ⟨p, rfl, hp, cp⟩ := i01_nat q1
        obtain ⟨a, rfl, -, -, -, ca⟩ := am_nat q2 (by decide)
        have o13 := okI_lt (k := 13) (n := jk F) (L := 10) rfl rfl q3 (by decide)
        have o5 := okI_lt (k := 5) (n := jk F) (L := 10) rfl rfl q3 (by decide)
        have o14 := okJ_lt (k := 14) (n := jk F) (L := 10) rfl rfl q3 (by decide)
        have cn := nI_c (n := jk F) (by omega)
        rw [hk, if_pos (show nI (jk F) < 10 from nI_lt (b := 10) q3 (by decide)), if_pos q3, cp, ca]
        simp only [bnd_e, gI_sI, gI_sL, hk, ck_t o13, ck_t o5, ck_t o14, cn, nI_1, show ¬ (1 : Nat) = 13 by decide, show ¬ (1 : Nat) = 5 by decide, false_and, if_false, Option.bind_some]
        refine ⟨_, rfl, ⟨BR_set (P := fun c => c ≠ 1 ∧ c ≠ 13 ∧ c ≠ 5 ∧ c ≠ 14) hc.1 ?_ ?_ ?_ (by decide) (by decide) (by decide) (by decide) (by decide) (by decide) (by decide) ?_ ?_ ?_ ?_, ?_, ?_, ?_, ?_⟩, ?_, ?_⟩
        · simp [gI_sI, gI_sL]
        · simp [gI_sI, gI_sL]
        · intro c hc9
          obtain ⟨q1, q2, q3, q4⟩ := hc9
          constructor <;> simp [sI, sL, va_up, q1, q2, q3, q4]
        · intro k hk; simp [gI_sI, gI_sL]; omega
        · simp [gI_sI, gI_sL]
        · intro k hk; simp [gI_sI, gI_sL]; omega
        · simp [gI_sI, gI_sL]
        · intro i hi; simp [gI_sI, gI_sL]; exact hc.2.1 i hi
        · intro m hm i hi; simp [gL_sI, gL_sL]; exact hc.2.2.1 m hm i hi
        · intro m hm k hk; simp [gI_sI, gI_sL]; exact hc.2.2.2.1 m hm k hk
        · intro k hk i hi
          have hk' : k < jk F + 1 := hk
          show _ = (decide (i < jn F) && (jso F i == 2 && jse F i == k))
          by_cases q : k = jk F
          · subst q
            simp only [gL_sI, gL_same, tb_0]
            cases z : (decide (i < jn F) && (jso F i == 2 && jse F i == jk F)) with
            | false => rfl
            | true =>
              simp only [Bool.and_eq_true, decide_eq_true_eq, beq_iff_eq] at z
              have := ((h.2.2.1 i z.1).2.2.2.2 z.2.1).1
              omega
          · simp only [gL_sI, gL_place _ _ _ q]
            exact hc.2.2.2.2 k (by omega) i hi
        · simp [gI_sI, gI_sL]
        · intro c hc9
          have q : c ≠ 1 ∧ c ≠ 13 ∧ c ≠ 5 ∧ c ≠ 14 := by
            have : 15 ≤ c := hc9
            omega
          obtain ⟨q1, q2, q3, q4⟩ := q
          constructor <;> simp [sI, sL, va_up, q1, q2, q3, q4]
      · rw [hk, if_neg (show ¬ nI (jk F) < 10 from nI_nlt (b := 10) (by omega) (by have := h.1.2; omega)), if_neg q3]
        exact ⟨σ, rfl, hc, rfl, sm_rf _ _⟩
    · rw [if_pos (bi_eq q2), if_neg (by rw [q1]; simpa using q2)]
      exact ⟨σ, rfl, hc, rfl, sm_rf _ _⟩
  · rw [if_pos (bi_eq q1), if_neg (by simp only [Bool.and_eq_true]; exact fun z => q1 z.1)]
    exact ⟨σ, rfl, hc, rfl, sm_rf _ _⟩
theorem mo_set {σ : gS} {F : Fr} (h : WF F) (hm : MR σ F) (x1 x2 : Int32) : ∃ τ, f_Mo_set σ x1 x2 = some ((setS F x1 x2).1, τ) ∧ MR τ (setS F x1 x2).2 ∧ sm (fun c => c < 46 ∨ 56 ≤ c) σ τ := by
  unfold f_Mo_set b_Mo_set_0 setS
  simp only [f_isFrom, i01_am, Option.bind_some]
  by_cases q1 : i01 x1 = true
  · rw [if_neg (bi_ne q1)]
    by_cases q2 : am x2 2 3 = true
    · rw [if_neg (bi_ne q2), if_pos (show (i01 x1 && am x2 2 3) = true by rw [q1, q2]; rfl)]
      have hk := hm.2.1
      by_cases q3 : jk F < 10
      · obtain ⟨p, rfl, hp, cp⟩ := i01_nat q1
        obtain ⟨a, rfl, -, -, -, ca⟩ := am_nat q2 (by decide)
        have o54 := okI_lt (k := 54) (n := jk F) (L := 10) rfl rfl q3 (by decide)
        have o55 := okI_lt (k := 55) (n := jk F) (L := 10) rfl rfl q3 (by decide)
        have cn := nI_c (n := jk F) (by omega)
        rw [hk, if_neg (show ¬ nI (jk F) = 10 from fun e => by have := (nI_eq (b := 10) (by omega) (by decide)).mp e; omega), if_pos q3, cp, ca]
        simp only [bnd_e, gI_sI, hk, ck_t o54, ck_t o55, cn, nI_1, show ¬ (46 : Nat) = 54 by decide, show ¬ (46 : Nat) = 55 by decide, false_and, if_false, and_self, if_true, nI_pred]
        refine ⟨_, rfl, BR_set (P := fun c => c ≠ 46 ∧ c ≠ 54 ∧ c ≠ 55) hm ?_ ?_ ?_ (by decide) (by decide) (by decide) (by decide) (by decide) (by decide) (by decide) ?_ ?_ ?_ ?_, ?_⟩
        · simp [gI_sI]
        · simp [gI_sI]
        · intro c hc9
          obtain ⟨q1, q2, q3⟩ := hc9
          constructor <;> simp [sI, va_up, q1, q2, q3]
        · intro k hk; simp [gI_sI]; omega
        · simp [gI_sI]
        · intro k hk; simp [gI_sI]; omega
        · simp [gI_sI]
        · intro c hc9
          have q : c ≠ 46 ∧ c ≠ 54 ∧ c ≠ 55 := by
            have : c < 46 ∨ 56 ≤ c := hc9
            omega
          obtain ⟨q1, q2, q3⟩ := q
          constructor <;> simp [sI, va_up, q1, q2, q3]
      · have e : jk F = 10 := by have := h.1.2; omega
        rw [hk, if_pos (show nI (jk F) = 10 by rw [e]; rfl), if_neg q3]
        exact ⟨σ, rfl, hm, sm_rf _ _⟩
    · rw [if_pos (bi_eq q2), if_neg (by rw [q1]; simpa using q2)]
      exact ⟨σ, rfl, hm, sm_rf _ _⟩
  · rw [if_pos (bi_eq q1), if_neg (by simp only [Bool.and_eq_true]; exact fun z => q1 z.1)]
    exact ⟨σ, rfl, hm, sm_rf _ _⟩
/-- an end more -/
def endF (F : Fr) (x1 x2 : Int32) : Fr := addN F 0 0 0 (fun _ => 0) 0 0 (fun v => if v = 0 then x1 else x2)
def endS (F : Fr) (x1 x2 : Int32) : Int32 × Fr := if (am x1 (-100) 100 && am x2 (-100) 100) = true then (if jn F < 40 then (nI (jn F), endF F x1 x2) else (-3, F)) else (-2, F)
theorem am_100 {x : Int32} (h : am x (-100) 100 = true) : -100 ≤ x.toInt ∧ x.toInt ≤ 100 := by
  unfold am at h
  simp only [Bool.and_eq_true, decide_eq_true_eq, Int32.le_iff_toInt_le] at h
  have h1 : (-100 : Int32).toInt = -100 := by decide
  have h2 : (100 : Int32).toInt = 100 := by decide
  omega
theorem ok_end {F : Fr} (hn : jn F < 40) {x1 x2 : Int32} (h1 : am x1 (-100) 100 = true) (h2 : am x2 (-100) 100 = true) : okN F 0 0 0 (fun _ => 0) 0 0 (fun v => if v = 0 then x1 else x2) :=
  ⟨hn, by decide, by decide, fun _ => rfl, fun e => absurd e (by decide), fun e => absurd e (by decide), fun j hj => absurd hj (Nat.not_lt_zero j), by decide, by decide, fun _ v _ => by
    show -100 ≤ (if v = 0 then x1 else x2).toInt ∧ (if v = 0 then x1 else x2).toInt ≤ 100
    by_cases q : v = 0
    · rw [if_pos q]; exact am_100 h1
    · rw [if_neg q]; exact am_100 h2⟩
theorem WF_endS {F : Fr} (h : WF F) (x1 x2 : Int32) : WF (endS F x1 x2).2 := by
  unfold endS
  split
  · rename_i q
    simp only [Bool.and_eq_true] at q
    split
    · rename_i q2
      have hk := ok_end q2 q.1 q.2
      refine WF_add h hk (fun pl _ => ?_)
      have e : pls (addN F 0 0 0 (fun _ => 0) 0 0 (fun v => if v = 0 then x1 else x2)) (jn F) pl = prd (fun _ => false) (jow F) (jac F) pl 10 := by
        unfold pls
        refine prd_congr 10 (fun k _ => ⟨?_, fun z => ⟨rfl, rfl⟩⟩)
        cases z : ins (addN F 0 0 0 (fun _ => 0) 0 0 (fun v => if v = 0 then x1 else x2)) (jn F) k with
        | false => rfl
        | true =>
          rcases (ins_new h hk k).mp z with ⟨e, -⟩ | ⟨j, hj, -⟩
          · cases e
          · exact absurd hj (Nat.not_lt_zero j)
      rw [e, show prd (fun _ => false) (jow F) (jac F) pl 10 = prd (fun _ => false) (jow F) (jac F) pl (0 + 10) from rfl, prd_more 10 (fun _ _ => rfl)]
      show 1 ≤ 64
      decide
    · exact h
  · exact h
theorem ga_end {σ : gS} {F : Fr} (h : WF F) (hc : CR σ F) (x1 x2 : Int32) : ∃ τ, f_Ga_end σ x1 x2 = some ((endS F x1 x2).1, τ) ∧ CR τ (endS F x1 x2).2 ∧ (τ = σ ∧ (endS F x1 x2).2 = F ∨ gI τ 1 2 = gI σ 1 2 + 1) ∧ sm (fun c => 15 ≤ c) σ τ := by
  unfold f_Ga_end b_Ga_end_0 endS
  simp only [f_isAmong, Option.bind_some]
  by_cases q1 : am x1 (-100) 100 = true
  · rw [if_neg (bi_ne q1)]
    by_cases q2 : am x2 (-100) 100 = true
    · rw [if_neg (bi_ne q2), if_pos (show (am x1 (-100) 100 && am x2 (-100) 100) = true by rw [q1, q2]; rfl)]
      unfold f_Fo_addEnd b_Fo_addEnd_0
      have hn := hc.1.1
      by_cases q3 : jn F < 40
      · have hk := ok_end q3 q1 q2
        rw [if_pos q3, hn, if_pos (show nI (jn F) < 40 from nI_lt (b := 40) q3 (by decide))]
        obtain ⟨ρ, e, a1, a2, a3, a4, a5, a6, a7, a8, a9, a10, a11, a12⟩ := st_node σ hn q3 0 (-1) (Or.inl rfl)
        have o6 := okI_lt (k := 6) (n := 2 * jn F) (L := 80) rfl rfl (by omega) (by decide)
        have o6' := okI_lt (k := 6) (n := 2 * jn F + 1) (L := 80) rfl rfl (by omega) (by decide)
        have o9 := okI_lt (k := 9) (n := jn F) rfl rfl q3 (by decide)
        have o10 := okI_lt (k := 10) (n := jn F) rfl rfl q3 (by decide)
        have o12 := okI_lt (k := 12) (n := jn F) rfl rfl q3 (by decide)
        have cn := nI_c (n := jn F) (by omega)
        have cn2 := nI_c (n := 2 * jn F) (by omega)
        have cn3 := nI_c (n := 2 * jn F + 1) (by omega)
        have m2 : (2 : Int32) * nI (jn F) = nI (2 * jn F) := by rw [show (2 : Int32) = nI 2 from rfl, pk_mul]
        simp only [e, Option.bind_some, bnd_e, m2, nI_1, ck_t o6, ck_t o6', ck_t o9, ck_t o10, ck_t o12, cn, cn2, cn3]
        have hb : ∀ τ : gS, τ = sI (sI (sI (sI (sI ρ 6 (2 * jn F) x1) 6 (2 * jn F + 1) x2) 9 (jn F) 0) 10 (jn F) 0) 12 (jn F) 0 → CR τ (endF F x1 x2) := by
          intro τ hτ
          have hs : ∀ c i, c ≠ 6 → c ≠ 9 → c ≠ 10 → c ≠ 12 → gI τ c i = gI ρ c i := fun c i g1 g2 g3 g4 => by rw [hτ]; simp [gI_sI, g1, g2, g3, g4]
          have hl : ∀ c i, gL τ c i = gL ρ c i := fun c i => by rw [hτ]; rfl
          refine CR_add h hc hk (BR_add hc.1 hk ?_ ?_ ?_ ?_ ?_ ?_ ?_ ?_ ?_ ?_ ?_ ?_ ?_ ?_ ?_ ?_ ?_ ?_) ?_ ?_ ?_ ?_ ?_ ?_ ?_
          · rw [hs 1 0 (by decide) (by decide) (by decide) (by decide), a1]
          · rw [hs 1 1 (by decide) (by decide) (by decide) (by decide), a2]
          · intro i hi; rw [hs 2 i (by decide) (by decide) (by decide) (by decide), a4, if_neg (by omega)]
          · rw [hs 2 _ (by decide) (by decide) (by decide) (by decide), a4, if_pos rfl]; rfl
          · intro i hi; rw [hs 3 i (by decide) (by decide) (by decide) (by decide), a5, if_neg (by omega)]
          · rw [hs 3 _ (by decide) (by decide) (by decide) (by decide), a5, if_pos rfl, if_neg (by decide)]
          · intro i hi v hv
            rw [hτ]
            simp only [gI_sI, show ¬ (6 : Nat) = 9 by decide, show ¬ (6 : Nat) = 10 by decide, show ¬ (6 : Nat) = 12 by decide, false_and, if_false, true_and]
            rw [if_neg (by omega), if_neg (by omega)]
            exact a12.i (by decide) _
          · intro _ v hv
            rw [hτ]
            rcases (show v = 0 ∨ v = 1 by omega) with rfl | rfl
            · simp [gI_sI]
            · simp [gI_sI]
          · intro i hi j hj
            rw [hs 7 _ (by decide) (by decide) (by decide) (by decide), a11 _ (fun j' hj' => by omega)]
          · intro j hj
            rw [hs 7 _ (by decide) (by decide) (by decide) (by decide), a10 j hj, if_neg (by omega)]
          · intro i hi
            rw [hs 4 _ (by decide) (by decide) (by decide) (by decide), a7, if_neg (by omega), if_neg (by unfold isC; simp)]
          · rw [hs 4 _ (by decide) (by decide) (by decide) (by decide), a7, if_pos rfl]
          · intro i hi
            rw [hτ]
            simp only [gI_sI, show ¬ (9 : Nat) = 6 by decide, show ¬ (9 : Nat) = 10 by decide, show ¬ (9 : Nat) = 12 by decide, false_and, if_false, true_and]
            rw [if_neg (by omega)]
            exact a12.i (by decide) _
          · rw [hτ]; simp [gI_sI]; rfl
          · intro i hi
            rw [hτ]
            simp only [gI_sI, show ¬ (10 : Nat) = 6 by decide, show ¬ (10 : Nat) = 9 by decide, show ¬ (10 : Nat) = 12 by decide, false_and, if_false, true_and]
            rw [if_neg (by omega)]
            exact a12.i (by decide) _
          · rw [hτ]; simp [gI_sI]; rfl
          · intro k hk9
            rw [hs 13 _ (by decide) (by decide) (by decide) (by decide)]
            exact a12.i (by decide) _
          · intro k hk9
            rw [hs 5 _ (by decide) (by decide) (by decide) (by decide)]
            exact a12.i (by decide) _
          · intro i hi; rw [hs 8 i (by decide) (by decide) (by decide) (by decide), a6, if_neg (by omega)]
          · rw [hs 8 _ (by decide) (by decide) (by decide) (by decide), a6, if_pos rfl]; rfl
          · intro m hm; rw [hl, a8, if_neg (by omega)]
          · intro i hi
            rw [hl, a8, if_pos rfl, tb_one (by omega)]
            simp only [decide_eq_true_eq]
            exact ⟨Or.inl, fun z => z.elim id (fun ⟨j, hj, _⟩ => absurd hj (Nat.not_lt_zero j))⟩
          · intro m hm
            rw [hτ]
            simp only [gI_sI, show ¬ (12 : Nat) = 6 by decide, show ¬ (12 : Nat) = 9 by decide, show ¬ (12 : Nat) = 10 by decide, false_and, if_false, true_and]
            rw [if_neg (by omega)]
            exact a12.i (by decide) _
          · intro k hk9
            rw [hτ, gI_same, ti_0]
            exact ⟨fun z => (by cases z), fun z => z.elim (fun e => absurd e.1 (by decide)) (fun ⟨j, hj, _⟩ => absurd hj (Nat.not_lt_zero j))⟩
          · intro k hk9 i hi
            have hk10 : k < 10 := by have := h.1.2; omega
            rw [hl, a9 k hk10, if_neg (fun e => by
              have := congrArg Int32.toInt e
              rw [nI_toInt (by omega)] at this
              have h2 : (-1 : Int32).toInt = -1 := by decide
              omega)]
            exact ⟨Or.inl, fun z => z.elim id (fun ⟨_, e, _⟩ => absurd e (by decide))⟩
        refine ⟨_, rfl, hb _ rfl, Or.inr ?_, ?_⟩
        · simp [gI_sI, a3]
        · refine (a12.less (fun c hc9 => ?_)).tr ?_
          · have : 15 ≤ c := hc9
            omega
          · intro c hc9
            have q : c ≠ 6 ∧ c ≠ 9 ∧ c ≠ 10 ∧ c ≠ 12 := by
              have : 15 ≤ c := hc9
              omega
            obtain ⟨q1, q2, q3, q4⟩ := q
            constructor <;> simp [sI, va_up, q1, q2, q3, q4]
      · rw [hn, if_neg (show ¬ nI (jn F) < 40 from nI_nlt (b := 40) (by omega) (by have := h.1.1; omega)), if_neg q3]
        exact ⟨σ, rfl, hc, Or.inl ⟨rfl, rfl⟩, sm_rf _ _⟩
    · rw [if_pos (bi_eq q2), if_neg (by rw [q1]; simpa using q2)]
      exact ⟨σ, rfl, hc, Or.inl ⟨rfl, rfl⟩, sm_rf _ _⟩
  · rw [if_pos (bi_eq q1), if_neg (by simp only [Bool.and_eq_true]; exact fun z => q1 z.1)]
    exact ⟨σ, rfl, hc, Or.inl ⟨rfl, rfl⟩, sm_rf _ _⟩
theorem mo_end {σ : gS} {F : Fr} (h : WF F) (hm : MR σ F) (x1 x2 : Int32) : ∃ τ, f_Mo_end σ x1 x2 = some ((endS F x1 x2).1, τ) ∧ MR τ (endS F x1 x2).2 ∧ sm (fun c => c < 46 ∨ 54 ≤ c) σ τ := by
  unfold f_Mo_end b_Mo_end_0 endS
  simp only [f_isFrom, Option.bind_some]
  by_cases q1 : am x1 (-100) 100 = true
  · rw [if_neg (bi_ne q1)]
    by_cases q2 : am x2 (-100) 100 = true
    · rw [if_neg (bi_ne q2), if_pos (show (am x1 (-100) 100 && am x2 (-100) 100) = true by rw [q1, q2]; rfl)]
      have hn := hm.1
      by_cases q3 : jn F < 40
      · have hk := ok_end q3 q1 q2
        rw [if_pos q3, hn, if_neg (show ¬ nI (jn F) = 40 from fun e => by have := (nI_eq (b := 40) (by omega) (by decide)).mp e; omega)]
        obtain ⟨ρ, e, a1, a2, a3, a4, a5, a6, a7, a8, a9, a10, a11⟩ := mk_node σ hn q3 0
        have o49 := okI_lt (k := 49) (n := 2 * jn F) (L := 80) rfl rfl (by omega) (by decide)
        have o49' := okI_lt (k := 49) (n := 2 * jn F + 1) (L := 80) rfl rfl (by omega) (by decide)
        have cn2 := nI_c (n := 2 * jn F) (by omega)
        have cn3 := nI_c (n := 2 * jn F + 1) (by omega)
        have m2 : (2 : Int32) * nI (jn F) = nI (2 * jn F) := by rw [show (2 : Int32) = nI 2 from rfl, pk_mul]
        simp only [e, Option.bind_some, bnd_e, m2, nI_1, ck_t o49, ck_t o49', cn2, cn3]
        have hb : ∀ τ : gS, τ = sI (sI ρ 49 (2 * jn F) x1) 49 (2 * jn F + 1) x2 → MR τ (endF F x1 x2) := by
          intro τ hτ
          have hs : ∀ c i, c ≠ 49 → gI τ c i = gI ρ c i := fun c i g1 => by rw [hτ]; simp [gI_sI, g1]
          refine BR_add hm hk ?_ ?_ ?_ ?_ ?_ ?_ ?_ ?_ ?_ ?_ ?_ ?_ ?_ ?_ ?_ ?_ ?_ ?_
          · rw [hs 46 0 (by decide), a1]
          · rw [hs 46 1 (by decide), a2]
          · intro i hi; rw [hs 47 i (by decide), a3, if_neg (by omega)]
          · rw [hs 47 _ (by decide), a3, if_pos rfl]; rfl
          · intro i hi; rw [hs 48 i (by decide), a4, if_neg (by omega)]
          · rw [hs 48 _ (by decide), a4, if_pos rfl, if_neg (by decide)]
          · intro i hi v hv
            rw [hτ]
            simp only [gI_sI, true_and]
            rw [if_neg (by omega), if_neg (by omega), a5, if_neg (by omega), if_neg (by omega)]
          · intro _ v hv
            rw [hτ]
            rcases (show v = 0 ∨ v = 1 by omega) with rfl | rfl
            · simp [gI_sI]
            · simp [gI_sI]
          · intro i hi j hj
            rw [hs 50 _ (by decide), a10 _ (fun j' hj' => by omega)]
          · intro j hj
            rw [hs 50 _ (by decide), a9 j hj, if_neg (by omega)]
          · intro i hi
            rw [hs 51 _ (by decide), a6, if_neg (by omega), if_neg (by unfold isC; simp)]
          · rw [hs 51 _ (by decide), a6, if_pos rfl]
          · intro i hi; rw [hs 52 i (by decide), a7, if_neg (by omega)]
          · rw [hs 52 _ (by decide), a7, if_pos rfl]; rfl
          · intro i hi; rw [hs 53 i (by decide), a8, if_neg (by omega)]
          · rw [hs 53 _ (by decide), a8, if_pos rfl]; rfl
          · intro k hk9; rw [hs 54 _ (by decide)]; exact a11.i (by decide) _
          · intro k hk9; rw [hs 55 _ (by decide)]; exact a11.i (by decide) _
        refine ⟨_, rfl, hb _ rfl, a11.tr ?_⟩
        intro c hc9
        have q : c ≠ 49 := by
          have : c < 46 ∨ 54 ≤ c := hc9
          omega
        constructor <;> simp [sI, va_up, q]
      · have e : jn F = 40 := by have := h.1.1; omega
        rw [hn, if_pos (show nI (jn F) = 40 by rw [e]; rfl), if_neg q3]
        exact ⟨σ, rfl, hm, sm_rf _ _⟩
    · rw [if_pos (bi_eq q2), if_neg (by rw [q1]; simpa using q2)]
      exact ⟨σ, rfl, hm, sm_rf _ _⟩
  · rw [if_pos (bi_eq q1), if_neg (by simp only [Bool.and_eq_true]; exact fun z => q1 z.1)]
    exact ⟨σ, rfl, hm, sm_rf _ _⟩
