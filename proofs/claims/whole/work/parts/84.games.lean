/-! the one with a number of others before it; games within: the class -/
theorem cntB_s (f : Nat → Bool) (k : Nat) : cntB f (k + 1) = cntB f k + (if f k = true then 1 else 0) := rfl
theorem cntB_up (f : Nat → Bool) (i : Nat) : ∀ d, cntB f i ≤ cntB f (i + d)
  | 0 => Nat.le_refl _
  | d + 1 => by
    have := cntB_up f i d
    rw [← Nat.add_assoc, cntB_s]
    omega
theorem cntB_in {f : Nat → Bool} {j i : Nat} (hj : j < i) (h : f j = true) : cntB f j < cntB f i := by
  have := cntB_up f (j + 1) (i - (j + 1))
  rw [show j + 1 + (i - (j + 1)) = i by omega, cntB_s, if_pos h] at this
  omega
def nth (f : Nat → Bool) (k : Int32) (n : Nat) : Int32 := ff (fun i => f i && decide (nI (cntB f i) = k)) n
theorem nth_0 (f : Nat → Bool) (k : Int32) : nth f k 0 = -1 := rfl
theorem nth_no {f : Nat → Bool} {k : Int32} {i : Nat} (hi : i < 100000) (h : f i = true) (e : nI (cntB f i) = k) : nth f k i = -1 := by
  refine ff_no (fun j hj => ?_)
  cases q : (f j && decide (nI (cntB f j) = k)) with
  | false => rfl
  | true =>
    rw [Bool.and_eq_true, decide_eq_true_eq] at q
    have h1 := cntB_in hj q.1
    have h2 := cntB_le f i
    have := (nI_eq (a := cntB f j) (b := cntB f i) (by omega) (by omega)).mp (q.2.trans e.symm)
    omega
theorem nth_s {f : Nat → Bool} {k : Int32} {i : Nat} (hi : i < 100000) : nth f k (i + 1) = if f i = true ∧ nI (cntB f i) = k then nI i else nth f k i := by
  show (if nth f k i = -1 then (if (f i && decide (nI (cntB f i) = k)) = true then nI i else -1) else nth f k i) = _
  by_cases q : f i = true ∧ nI (cntB f i) = k
  · rw [if_pos q, if_pos (nth_no hi q.1 q.2), if_pos (by rw [Bool.and_eq_true, decide_eq_true_eq]; exact q)]
  · have q' : ¬ (f i && decide (nI (cntB f i) = k)) = true := fun w => q (by rw [Bool.and_eq_true, decide_eq_true_eq] at w; exact w)
    rw [if_neg q, if_neg q']
    split
    · rename_i w; exact w.symm
    · rfl
theorem nth_cut {f g : Nat → Bool} {k : Int32} {n : Nat} (hn : n ≤ 64) (h : ∀ j, j < 64 → f j = (decide (j < n) && g j)) : nth f k 64 = nth g k n := by
  have low : ∀ i, i ≤ n → cntB f i = cntB g i := fun i hi => cntB_congr (fun j hj => by rw [h j (by omega), decide_eq_true (show j < n by omega), Bool.true_and])
  have e1 : nth f k n = nth g k n := ff_congr (fun j hj => by
    show (f j && decide (nI (cntB f j) = k)) = (g j && decide (nI (cntB g j) = k))
    rw [low j (by omega), h j (by omega), decide_eq_true hj, Bool.true_and])
  have e2 : ∀ d, n + d ≤ 64 → nth f k (n + d) = nth f k n := by
    intro d
    induction d with
    | zero => intro _; rfl
    | succ d ih =>
      intro hd
      rw [← Nat.add_assoc, nth_s (by omega), if_neg (fun w => by
        have := h (n + d) (by omega)
        rw [w.1, decide_eq_false (by omega), Bool.false_and] at this
        exact absurd this (by decide)), ih (by omega)]
  rw [← e1, ← e2 (64 - n) (by omega), show n + (64 - n) = 64 by omega]
theorem f_bitAt (x : Int64) (k : Int32) : f_Ga_bitAt x k = some (nth (tb x) k 64) := by
  have key := lp_fst (body := fun kk (y : Int64 × Int32 × Int32 × Int32) => b_Ga_bitAt_5 kk y.1 y.2.1 y.2.2.1 y.2.2.2) (fun i => (x, k, nI (cntB (tb x) i), nI i)) 64 (fun i => tb x i && decide (nI (cntB (tb x) i) = k)) (e := -1) (fun i hi q kk => by
    show b_Ga_bitAt_5 kk x k (nI (cntB (tb x) i)) (nI i) = kk (x, k, nI (cntB (tb x) (i + 1)), nI (i + 1))
    unfold b_Ga_bitAt_5
    rw [if_neg (show ¬ (64 : Int32) ≤ nI i from nI_ge (b := 64) hi (by decide)), f_hasBit x hi, Option.bind_some, cntB_s]
    by_cases w : tb x i = true
    · have q2 : ¬ nI (cntB (tb x) i) = k := fun e => by
        have q' : (tb x i && decide (nI (cntB (tb x) i) = k)) = false := q
        rw [w, Bool.true_and, decide_eq_true e] at q'
        exact absurd q' (by decide)
      rw [if_neg (bi_ne w), if_neg q2, bnd_e, if_pos w]
      unfold b_Ga_bitAt_32
      rw [bnd_e, nI_1, nI_1]
    · rw [if_pos (bi_eq w), if_neg w, Nat.add_zero]
      unfold b_Ga_bitAt_32
      rw [bnd_e, nI_1]) (fun i hi q kk => by
    show b_Ga_bitAt_5 kk x k (nI (cntB (tb x) i)) (nI i) = some (nI i)
    have q' : (tb x i && decide (nI (cntB (tb x) i) = k)) = true := q
    rw [Bool.and_eq_true, decide_eq_true_eq] at q'
    unfold b_Ga_bitAt_5
    rw [if_neg (show ¬ (64 : Int32) ≤ nI i from nI_ge (b := 64) hi (by decide)), f_hasBit x hi, Option.bind_some, if_neg (bi_ne q'.1), if_pos q'.2]) (fun kk => rfl) (by decide)
  unfold f_Ga_bitAt b_Ga_bitAt_0 l_Ga_bitAt_5
  refine key.trans ?_
  show some (if nth (tb x) k 64 = -1 then -1 else nth (tb x) k 64) = _
  split
  · rename_i w; rw [w]
  · rfl
/-- a game within begins there -/
def GM (F : Fr) (x : Nat) : Prop := bl F (jn F - 1) x = true ∧ jso F x = 2 ∧ (∀ i, i < jn F → bl F (jn F - 1) i = true → jso F i = 2 → jse F i = jse F x → i = x) ∧ (∀ s, ins F x s = true → ∀ i, i < jn F → bl F (jn F - 1) i = true → jso F i = 2 → jse F i = s → bl F x i = true)
noncomputable def gm (F : Fr) (x : Nat) : Bool := @decide (x = jn F - 1 ∨ GM F x) (Classical.propDecidable _)
theorem gm_iff (F : Fr) (x : Nat) : gm F x = true ↔ x = jn F - 1 ∨ GM F x := @decide_eq_true_iff _ (Classical.propDecidable _)
theorem b_of {a b : Bool} (h : a = true ↔ b = true) : a = b := by
  cases a <;> cases b <;> simp_all
theorem fo_inTree {σ : gS} {F : Fr} (h : WF F) (hc : CR σ F) (z : jn F ≠ 0) : f_Fo_nodesInTree σ = some (gL σ 11 (jn F - 1)) := by
  have hl := h.1.1
  unfold f_Fo_nodesInTree b_Fo_nodesInTree_0 f_Fo_root b_Fo_root_0
  rw [hc.1.1, if_neg (fun e => z ((n_0 h).mp e)), Option.bind_some, rt_1 z, ck_t (okJ_lt (k := 11) (n := jn F - 1) (L := 40) rfl rfl (by omega) (by decide)), nI_c (by omega)]
theorem fo_root {σ : gS} {F : Fr} (hc : CR σ F) (z : jn F ≠ 0) : f_Fo_root σ = some (nI (jn F - 1)) := by
  unfold f_Fo_root b_Fo_root_0
  rw [hc.1.1, rt_1 z]
theorem fo_isGame {σ : gS} {F : Fr} (h : WF F) (hc : CR σ F) {x : Nat} (hx : x < jn F - 1) (hb : bl F (jn F - 1) x = true) (h2 : jso F x = 2) : f_Fo_isGameWithin σ (nI x) = some (bi (gm F x)) := by
  have hl := h.1.1
  have hk := h.1.2
  have hs := ((h.2.2.1 x (by omega)).2.2.2.2 h2).1
  have e3 : gI σ 3 x = nI (jse F x) := by rw [hc.1.2.2.2.1 x (by omega), if_pos h2]
  have bt : ∀ s, s < jk F → ∀ j, j < 64 → tb (gL σ 14 s &&& gL σ 11 (jn F - 1)) j = (decide (j < jn F) && (jso F j == 2 && jse F j == s) && (decide (j < jn F) && bl F (jn F - 1) j)) := fun s hs j hj => by
    rw [tb_and, hc.2.2.2.2 s hs j hj, hc.2.2.1 (jn F - 1) (by omega) j hj]
  have alone : (gL σ 14 (jse F x) &&& gL σ 11 (jn F - 1)) = ((1 : Int64) <<< ((nI x).toInt64 &&& 63)) ↔ ∀ i, i < jn F → bl F (jn F - 1) i = true → jso F i = 2 → jse F i = jse F x → i = x := by
    constructor
    · intro e i hi h1 h3 h4
      have : tb (gL σ 14 (jse F x) &&& gL σ 11 (jn F - 1)) i = tb ((1 : Int64) <<< ((nI x).toInt64 &&& 63)) i := congrArg (fun y => tb y i) e
      rw [bt _ hs i (by omega), tb_one (by omega), h1, h3, h4, decide_eq_true hi] at this
      simpa using this.symm
    · intro g
      refine tb_ext (fun j hj => ?_)
      rw [bt _ hs j hj, tb_one (by omega)]
      refine b_of ?_
      simp only [Bool.and_eq_true, decide_eq_true_eq, beq_iff_eq]
      constructor
      · rintro ⟨⟨w1, w2, w3⟩, -, w4⟩
        exact g j w1 w4 w2 w3
      · rintro rfl
        exact ⟨⟨by omega, h2, rfl⟩, by omega, hb⟩
  unfold f_Fo_isGameWithin b_Fo_isGameWithin_0
  rw [ck_t (okI_lt (k := 3) (n := x) (L := 40) rfl rfl (by omega) (by decide)), nI_c (n := x) (by omega), e3, ck_t (okJ_lt (k := 14) (n := jse F x) (L := 10) rfl rfl (by omega) (by decide)), nI_c (n := jse F x) (by omega), fo_inTree h hc (by omega), Option.bind_some]
  by_cases A : (gL σ 14 (jse F x) &&& gL σ 11 (jn F - 1)) = ((1 : Int64) <<< ((nI x).toInt64 &&& 63))
  · rw [if_pos ((lg_cmp_0 _ _).mpr A), Option.bind_some, ck_t (okJ_lt (k := 11) (n := x) (L := 40) rfl rfl (by omega) (by decide)), bnd_e]
    generalize hE : (gL σ 11 (jn F - 1) &&& (gL σ 11 x ^^^ (-1))) = E
    have be : ∀ s, s < jk F → ∀ j, j < 64 → tb (gL σ 14 s &&& E) j = (decide (j < jn F) && (jso F j == 2 && jse F j == s) && (decide (j < jn F) && bl F (jn F - 1) j && !(decide (j < jn F) && bl F x j))) := fun s hs j hj => by
      rw [← hE, tb_and, tb_and, tb_xor, tb_m1 j hj, hc.2.2.2.2 s hs j hj, hc.2.2.1 (jn F - 1) (by omega) j hj, hc.2.2.1 x (by omega) j hj, Bool.xor_true]
    have key := lp_all (body := fun kk (y : Int32 × Int64 × Int32) => b_Fo_isGameWithin_44 σ kk y.1 y.2.1 y.2.2) (fun s => (nI x, E, nI s)) (jk F) (fun s => !ins F x s || decide (lg_cmp (gL σ 14 s &&& E) 0 = 0)) (fun s hs q kk => by
      show b_Fo_isGameWithin_44 σ kk (nI x) E (nI s) = kk (nI x, E, nI (s + 1))
      unfold b_Fo_isGameWithin_44
      rw [hc.1.2.1, if_neg (nI_ge hs (by omega)), ck_t (okI_lt (k := 12) (n := x) (L := 40) rfl rfl (by omega) (by decide)), nI_c (n := x) (by omega), f_hasBit _ (by omega), Option.bind_some, ti_tb _ (by omega), hc.2.2.2.1 x (by omega) s (by omega)]
      by_cases w : ins F x s = true
      · have q' : lg_cmp (gL σ 14 s &&& E) 0 = 0 := by
          have : (!ins F x s || decide (lg_cmp (gL σ 14 s &&& E) 0 = 0)) = true := q
          rw [w] at this
          simpa using this
        rw [if_neg (bi_ne w), ck_t (okJ_lt (k := 14) (n := s) (L := 10) rfl rfl (by omega) (by decide)), nI_c (n := s) (by omega), if_pos q']
        unfold b_Fo_isGameWithin_84
        rw [bnd_e, nI_1]
      · rw [if_pos (bi_eq w)]
        unfold b_Fo_isGameWithin_84
        rw [bnd_e, nI_1]) (fun s hs q kk => by
      show b_Fo_isGameWithin_44 σ kk (nI x) E (nI s) = some 0
      have q' : (!ins F x s || decide (lg_cmp (gL σ 14 s &&& E) 0 = 0)) = false := q
      rw [Bool.or_eq_false_iff, Bool.not_eq_false', decide_eq_false_iff_not] at q'
      unfold b_Fo_isGameWithin_44
      rw [hc.1.2.1, if_neg (nI_ge hs (by omega)), ck_t (okI_lt (k := 12) (n := x) (L := 40) rfl rfl (by omega) (by decide)), nI_c (n := x) (by omega), f_hasBit _ (by omega), Option.bind_some, ti_tb _ (by omega), hc.2.2.2.1 x (by omega) s (by omega), if_neg (bi_ne q'.1), ck_t (okJ_lt (k := 14) (n := s) (L := 10) rfl rfl (by omega) (by decide)), nI_c (n := s) (by omega), if_neg q'.2]
      rfl) (fun kk => by
      show b_Fo_isGameWithin_44 σ kk (nI x) E (nI (jk F)) = some 1
      unfold b_Fo_isGameWithin_44
      rw [hc.1.2.1, if_pos (nI_le (Nat.le_refl _) (by omega))]
      rfl) (by omega)
    unfold l_Fo_isGameWithin_44
    refine key.trans (congrArg (fun b => some (bi b)) (b_of ?_))
    rw [gm_iff, allB_iff]
    constructor
    · intro g
      refine Or.inr ⟨hb, h2, alone.mp A, fun s hs i hi g1 g2 g3 => ?_⟩
      have hsk := ins_lt h hs
      have := g s hsk
      rw [hs, Bool.not_true, Bool.false_or, decide_eq_true_eq] at this
      have := (z_bits (be s hsk)).mp this i (by omega)
      rw [g1, g2, g3, decide_eq_true hi] at this
      simpa using this
    · rintro (g | g) s hs
      · omega
      · cases w : ins F x s with
        | false => rfl
        | true =>
          rw [Bool.not_true, Bool.false_or, decide_eq_true_eq]
          refine (z_bits (be s hs)).mpr (fun j hj => ?_)
          cases y : (decide (j < jn F) && (jso F j == 2 && jse F j == s) && (decide (j < jn F) && bl F (jn F - 1) j && !(decide (j < jn F) && bl F x j))) with
          | false => rfl
          | true =>
            simp only [Bool.and_eq_true, decide_eq_true_eq, beq_iff_eq, Bool.not_eq_true', Bool.and_eq_false_iff, decide_eq_false_iff_not] at y
            obtain ⟨⟨y1, y2, y3⟩, ⟨-, y4⟩, y5⟩ := y
            have := g.2.2.2 s w j y1 y4 y2 y3
            rcases y5 with y5 | y5
            · exact absurd y1 y5
            · rw [this] at y5
              exact absurd y5 (by decide)
  · rw [if_neg (fun e => A ((lg_cmp_0 _ _).mp e))]
    have : ¬ gm F x = true := fun g => by
      rcases (gm_iff F x).mp g with g | g
      · omega
      · exact A (alone.mpr g.2.2.1)
    rw [bi_eq this]
    rfl
theorem fo_games {σ : gS} {F : Fr} (h : WF F) (hc : CR σ F) (z : jn F ≠ 0) : ∃ y, f_Fo_gamesWithin σ = some y ∧ ∀ j, j < 64 → tb y j = (decide (j < jn F) && gm F j) := by
  have hl := h.1.1
  let I : Nat → (Int64 × Int32) → Prop := fun i x => ∃ y, x = (y, nI i) ∧ ∀ j, j < 64 → tb y j = (decide (j = jn F - 1) || (decide (j < i) && gm F j))
  have hs : ∀ i, i < jn F - 1 → ∀ x, I i x → ∃ x', I (i + 1) x' ∧ ∀ k, b_Fo_gamesWithin_20 σ k x.1 x.2 = k x' := by
    rintro i hi x ⟨y, rfl, hy⟩
    have e2 := hc.1.2.2.1 i (by omega)
    have ht := hc.2.2.1 (jn F - 1) (by omega) i (by omega)
    rw [decide_eq_true (show i < jn F by omega), Bool.true_and] at ht
    have head : ∀ k, b_Fo_gamesWithin_20 σ k y (nI i) = if bi (bl F (jn F - 1) i) = 0 then b_Fo_gamesWithin_63 σ k y (nI i) else ck (okI 2 (nI i)) (if nI (jso F i) = 2 then (f_Fo_isGameWithin σ (nI i)).bind fun r_8 => if r_8 = 0 then b_Fo_gamesWithin_63 σ k y (nI i) else bnd (y ||| ((1 : Int64) <<< ((nI i).toInt64 &&& 63))) fun x1_10 => b_Fo_gamesWithin_63 σ k x1_10 (nI i) else b_Fo_gamesWithin_63 σ k y (nI i)) := fun k => by
      unfold b_Fo_gamesWithin_20
      rw [fo_root hc z, Option.bind_some, if_neg (nI_ge hi (by omega)), fo_inTree h hc z, Option.bind_some, f_hasBit _ (by omega), Option.bind_some, ht, nI_c (n := i) (by omega), e2]
    have no : gm F i = false → ∃ x', I (i + 1) x' ∧ ∀ k, b_Fo_gamesWithin_63 σ k y (nI i) = k x' := fun g => by
      refine ⟨(y, nI (i + 1)), ⟨y, rfl, fun j hj => ?_⟩, fun k => by unfold b_Fo_gamesWithin_63; rw [bnd_e, nI_1]⟩
      rw [hy j hj]
      by_cases w : j = i
      · rw [w, g, Bool.and_false, Bool.and_false]
      · rw [show decide (j < i + 1) = decide (j < i) from by
          by_cases v : j < i
          · rw [decide_eq_true v, decide_eq_true (by omega)]
          · rw [decide_eq_false v, decide_eq_false (by omega)]]
    have ng : ∀ {P : Prop}, (GM F i → P) → ¬ P → gm F i = false := fun f n => by
      cases g : gm F i with
      | false => rfl
      | true =>
        rcases (gm_iff F i).mp g with g | g
        · omega
        · exact absurd (f g) n
    by_cases hb : bl F (jn F - 1) i = true
    · by_cases h2 : jso F i = 2
      · by_cases g : gm F i = true
        · refine ⟨(y ||| ((1 : Int64) <<< ((nI i).toInt64 &&& 63)), nI (i + 1)), ⟨_, rfl, fun j hj => ?_⟩, fun k => ?_⟩
          · rw [tb_or, hy j hj, tb_one (by omega)]
            by_cases w : j = i
            · rw [w, g, decide_eq_true (show i < i + 1 by omega), decide_eq_true (show i = i from rfl)]
              simp
            · rw [decide_eq_false w, Bool.or_false, show decide (j < i + 1) = decide (j < i) from by
                by_cases v : j < i
                · rw [decide_eq_true v, decide_eq_true (by omega)]
                · rw [decide_eq_false v, decide_eq_false (by omega)]]
          · show b_Fo_gamesWithin_20 σ k y (nI i) = _
            rw [head k, if_neg (bi_ne hb), ck_t (okI_lt (k := 2) (n := i) (L := 40) rfl rfl (by omega) (by decide)), h2, if_pos (show nI 2 = 2 from rfl), fo_isGame h hc hi hb h2, Option.bind_some, if_neg (bi_ne g), bnd_e]
            unfold b_Fo_gamesWithin_63
            rw [bnd_e, nI_1]
        · obtain ⟨x', q1, q2⟩ := no (by simpa using g)
          refine ⟨x', q1, fun k => ?_⟩
          show b_Fo_gamesWithin_20 σ k y (nI i) = _
          rw [head k, if_neg (bi_ne hb), ck_t (okI_lt (k := 2) (n := i) (L := 40) rfl rfl (by omega) (by decide)), h2, if_pos (show nI 2 = 2 from rfl), fo_isGame h hc hi hb h2, Option.bind_some, if_pos (bi_eq g), q2]
      · obtain ⟨x', q1, q2⟩ := no (ng (fun g => g.2.1) h2)
        refine ⟨x', q1, fun k => ?_⟩
        show b_Fo_gamesWithin_20 σ k y (nI i) = _
        have hso := (h.2.2.1 i (by omega)).1
        rw [head k, if_neg (bi_ne hb), ck_t (okI_lt (k := 2) (n := i) (L := 40) rfl rfl (by omega) (by decide)), if_neg (show ¬ nI (jso F i) = 2 from fun e => h2 ((nI_eq (b := 2) (by omega) (by decide)).mp e)), q2]
    · obtain ⟨x', q1, q2⟩ := no (ng (fun g => g.1) hb)
      refine ⟨x', q1, fun k => ?_⟩
      show b_Fo_gamesWithin_20 σ k y (nI i) = _
      rw [head k, if_pos (bi_eq hb), q2]
  obtain ⟨x', k, ⟨y, rfl, hy⟩, e⟩ := lpF_in I (jn F - 1) ((1 : Int64) <<< ((nI (jn F - 1)).toInt64 &&& 63), 0) ⟨_, rfl, fun j hj => by rw [tb_one (by omega), decide_eq_false (Nat.not_lt_zero j), Bool.false_and, Bool.or_false]⟩ hs (by omega)
  refine ⟨y, ?_, fun j hj => ?_⟩
  · unfold f_Fo_gamesWithin b_Fo_gamesWithin_0
    rw [hc.1.1, if_neg (fun e => z ((n_0 h).mp e)), fo_root hc z, Option.bind_some]
    unfold b_Fo_gamesWithin_17 l_Fo_gamesWithin_20
    refine e.trans ?_
    show b_Fo_gamesWithin_20 σ k y (nI (jn F - 1)) = _
    unfold b_Fo_gamesWithin_20
    rw [fo_root hc z, Option.bind_some, if_pos (nI_le (Nat.le_refl _) (by omega))]
  · rw [hy j hj]
    by_cases w : j = jn F - 1
    · rw [decide_eq_true w, Bool.true_or, w, (gm_iff F _).mpr (Or.inl rfl), decide_eq_true (by omega), Bool.true_and]
    · rw [decide_eq_false w, Bool.false_or, show decide (j < jn F - 1) = decide (j < jn F) from by
        by_cases v : j < jn F
        · rw [decide_eq_true v, decide_eq_true (by omega)]
        · rw [decide_eq_false v, decide_eq_false (by omega)]]
