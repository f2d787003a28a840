/-! games within: the reference -/
theorem bl_trans {F : Fr} (h : WF F) {m x : Nat} (hmx : bl F m x = true) : ∀ (d i : Nat), i < jn F → 40 - i ≤ d → bl F x i = true → bl F m i = true
  | 0, i, hi, hd, _ => by have := h.1.1; omega
  | d + 1, i, hi, hd, q => by
    rw [bl_eq h x hi] at q
    simp only [Bool.or_eq_true, Bool.and_eq_true, beq_iff_eq, decide_eq_true_eq] at q
    rcases q with rfl | ⟨q1, q2⟩
    · exact hmx
    · obtain ⟨h1, h2⟩ := h.up hi q1
      rw [bl_eq h m hi, decide_eq_true q1, bl_trans h hmx d (jpa F i) h2 (by omega) q2]
      simp
theorem mo_below {σ : gS} {F : Fr} (h : WF F) (hm : MR σ F) {x : Nat} (hx : x < jn F) {i : Nat} (hi : i < jn F) : f_Mo_isBelow σ (nI i) (nI x) = some (bi (bl F x i)) := by
  have hl := h.1.1
  have main : ∀ (d i N : Nat), i < jn F → 40 - i ≤ d → d + 1 < N → lpF (fun k (y : Int32 × Int32) => b_Mo_isBelow_2 σ k y.1 y.2) N (nI x, nI i) = some (bi (bl F x i)) := by
    intro d
    induction d with
    | zero => intro i N hi hd; omega
    | succ d ih =>
      intro i N hi hd hN
      obtain ⟨N, rfl⟩ : ∃ M, N = M + 1 := ⟨N - 1, by omega⟩
      rw [lpF_s]
      show b_Mo_isBelow_2 σ _ (nI x) (nI i) = _
      unfold b_Mo_isBelow_2
      rw [if_neg (nm1 (by omega)), bl_eq h x hi]
      by_cases e : i = x
      · rw [if_pos (by rw [e])]
        unfold b_Mo_isBelow_22
        rw [if_pos (by rw [e]), e]
        simp
        rfl
      · rw [if_neg (fun w => e ((nI_eq (by omega) (by omega)).mp w)), ck_t (okI_lt (k := 51) (n := i) (L := 40) rfl rfl (by omega) (by decide)), bnd_e, nI_c (n := i) (by omega), hm.2.2.2.2.2.2.1 i hi]
        have en : (i == x) = false := by simpa using e
        rw [en, Bool.false_or]
        by_cases hp : jpa F i < 40
        · obtain ⟨h1, h2⟩ := h.up hi hp
          rw [if_pos hp, decide_eq_true hp, Bool.true_and]
          exact ih (jpa F i) N h2 (by omega) (by omega)
        · rw [if_neg hp, decide_eq_false hp, Bool.false_and]
          obtain ⟨N, rfl⟩ : ∃ M, N = M + 1 := ⟨N - 1, by omega⟩
          rw [lpF_s]
          show b_Mo_isBelow_2 σ _ (nI x) (-1) = _
          unfold b_Mo_isBelow_2 b_Mo_isBelow_22
          rw [if_pos rfl, if_neg (fun w => nm1 (a := x) (by omega) w.symm)]
          rfl
  unfold f_Mo_isBelow b_Mo_isBelow_0 l_Mo_isBelow_2
  exact main 40 i gF hi (by omega) (by decide)
def gI1 (F : Fr) (x i : Nat) : Bool := bl F (jn F - 1) i && (jso F i == 2) && !(i == x)
def gI2 (F : Fr) (x i j : Nat) : Bool := !(bl F (jn F - 1) j && (jso F j == 2) && (jse F j == jse F i) && !bl F x j)
def gI3 (F : Fr) (x i : Nat) : Bool := !(gI1 F x i && (jse F i == jse F x)) && (!(gI1 F x i && bl F x i) || allB (gI2 F x i) (jn F))
theorem bi_t {b : Bool} (h : b = true) : bi b = 1 := by rw [h]; rfl
theorem mo_game2 {σ : gS} {F : Fr} (h : WF F) (hm : MR σ F) (ht : TR σ F) {x i : Nat} (hx : x < jn F) (hi : i < jn F) (c : Bool) (k35 : Int32 × Int32 × Int32 → Option Int32) : l_Mo_isGame_107 σ k35 (nI x, bi c, nI i, bi (gI1 F x i), 0) = k35 (nI x, bi (c && (!(gI1 F x i && bl F x i) || allB (gI2 F x i) (jn F))), nI (i + 1)) := by
  have hl := h.1.1
  have e193 : ∀ a, b_Mo_isGame_193 σ k35 (nI x) a (nI i) = k35 (nI x, a, nI (i + 1)) := fun a => by
    unfold b_Mo_isGame_193
    rw [bnd_e, nI_1]
  by_cases q : (gI1 F x i && bl F x i) = true
  · rw [Bool.and_eq_true] at q
    have h2i : jso F i = 2 := by
      have := q.1
      unfold gI1 at this
      simp only [Bool.and_eq_true, beq_iff_eq] at this
      exact this.1.2
    have hsei : gI σ 48 i = nI (jse F i) := by rw [hm.2.2.2.1 i hi, if_pos h2i]
    have hski := ((h.2.2.1 i hi).2.2.2.2 h2i).1
    rw [q.1, q.2, Bool.and_self, Bool.not_true, Bool.false_or]
    unfold l_Mo_isGame_107
    rw [show (nI x, bi c, nI i, bi true, (0 : Int32)) = (fun j => (nI x, bi (c && allB (gI2 F x i) j), nI i, bi true, nI j)) 0 from by
      show _ = (nI x, bi (c && true), nI i, bi true, nI 0)
      rw [Bool.and_true]
      rfl]
    refine lpF_go (fun j => (nI x, bi (c && allB (gI2 F x i) j), nI i, bi true, nI j)) (jn F) (fun j hj k => ?_) (fun k => ?_) (by omega)
    · show b_Mo_isGame_107 σ k35 k (nI x) (bi (c && allB (gI2 F x i) j)) (nI i) (bi true) (nI j) = k (nI x, bi (c && (allB (gI2 F x i) j && gI2 F x i j)), nI i, bi true, nI (j + 1))
      have e85 : b_Mo_isGame_185 σ k35 k (nI x) (nI i) (bi true) (nI j) = k (nI x, bi false, nI i, bi true, nI (j + 1)) := by
        unfold b_Mo_isGame_185 b_Mo_isGame_186
        rw [bnd_e, nI_1]
        rfl
      have e81 : b_Mo_isGame_181 σ k35 k (nI x) (nI i) (bi true) (nI j) = k (nI x, bi true, nI i, bi true, nI (j + 1)) := by
        unfold b_Mo_isGame_181 b_Mo_isGame_186
        rw [bnd_e, nI_1]
        rfl
      unfold b_Mo_isGame_107
      rw [hm.1, if_neg (nI_ge hj (by omega)), if_neg (bi_ne rfl), mo_below h hm hx hi, Option.bind_some, if_neg (bi_ne q.2), ← Bool.and_assoc]
      by_cases w : (c && allB (gI2 F x i) j) = true
      · rw [if_neg (bi_ne w), w, Bool.true_and, ck_t (okZ_lt (k := 56) (n := j) (L := 40) rfl rfl (by omega) (by decide)), nI_c (n := j) (by omega), ht.1 j hj]
        unfold gI2
        by_cases w1 : bl F (jn F - 1) j = true
        · rw [if_neg (bi_ne w1), w1, ck_t (okI_lt (k := 47) (n := j) (L := 40) rfl rfl (by omega) (by decide)), hm.2.2.1 j hj]
          have hso := (h.2.2.1 j hj).1
          by_cases w2 : jso F j = 2
          · have hsej : gI σ 48 j = nI (jse F j) := by rw [hm.2.2.2.1 j hj, if_pos w2]
            have hskj := ((h.2.2.1 j hj).2.2.2.2 w2).1
            have hk := h.1.2
            rw [w2, if_pos (show nI 2 = 2 from rfl), ck_t (okI_lt (k := 48) (n := j) (L := 40) rfl rfl (by omega) (by decide)), ck_t (okI_lt (k := 48) (n := i) (L := 40) rfl rfl (by omega) (by decide)), nI_c (n := i) (by omega), hsej, hsei]
            by_cases w3 : jse F j = jse F i
            · rw [if_pos (by rw [w3]), w3, mo_below h hm hx hj, Option.bind_some]
              by_cases w4 : bl F x j = true
              · rw [if_neg (bi_ne w4), w4, e81]
                simp
              · have w4' : bl F x j = false := by simpa using w4
                rw [if_pos (bi_eq w4), w4', e85]
                simp
            · have w3' : (jse F j == jse F i) = false := by simpa using w3
              rw [if_neg (fun e => w3 ((nI_eq (by omega) (by omega)).mp e)), w3', e81]
              simp
          · have w2' : (jso F j == 2) = false := by simpa using w2
            rw [if_neg (show ¬ nI (jso F j) = 2 from fun e => w2 ((nI_eq (b := 2) (by omega) (by decide)).mp e)), w2', e81]
            simp
        · have w1' : bl F (jn F - 1) j = false := by simpa using w1
          rw [if_pos (bi_eq w1), w1', e81]
          simp
      · have w' : (c && allB (gI2 F x i) j) = false := by simpa using w
        rw [if_pos (bi_eq w), w', Bool.false_and, e85]
    · show b_Mo_isGame_107 σ k35 k (nI x) (bi (c && allB (gI2 F x i) (jn F))) (nI i) (bi true) (nI (jn F)) = _
      unfold b_Mo_isGame_107
      rw [hm.1, if_pos (nI_le (Nat.le_refl _) (by omega)), e193]
  · have q' : (gI1 F x i && bl F x i) = false := by simpa using q
    rw [q', Bool.not_false, Bool.true_or, Bool.and_true]
    unfold l_Mo_isGame_107
    rw [lp_gF]
    show b_Mo_isGame_107 σ k35 _ (nI x) (bi c) (nI i) (bi (gI1 F x i)) (nI 0) = _
    unfold b_Mo_isGame_107
    rw [hm.1, if_neg (nI_ge (show 0 < jn F by omega) (by omega))]
    by_cases w : gI1 F x i = true
    · have w2 : ¬ bl F x i = true := fun e => q (by rw [w, e]; rfl)
      rw [if_neg (bi_ne w), mo_below h hm hx hi, Option.bind_some, if_pos (bi_eq w2), e193]
    · rw [if_pos (bi_eq w), e193]
theorem mo_isGame {σ : gS} {F : Fr} (h : WF F) (hm : MR σ F) (ht : TR σ F) {x : Nat} (hx : x < jn F) : f_Mo_isGame σ (nI x) = some (bi (gm F x)) := by
  have hl := h.1.1
  have hk := h.1.2
  unfold f_Mo_isGame b_Mo_isGame_0
  rw [f_moRoot hm (by omega), Option.bind_some]
  by_cases z : x = jn F - 1
  · rw [if_pos (by rw [z]), (gm_iff F x).mpr (Or.inl z)]
    rfl
  · rw [if_neg (fun e => z ((nI_eq (by omega) (by omega)).mp e)), ck_t (okZ_lt (k := 56) (n := x) (L := 40) rfl rfl (by omega) (by decide)), nI_c (n := x) (by omega), ht.1 x hx]
    have no : ∀ {P : Prop}, (GM F x → P) → ¬ P → ck (isB 0) (some (0 : Int32)) = some (bi (gm F x)) := fun f n => by
      rw [bi_eq (fun g => by
        rcases (gm_iff F x).mp g with g | g
        · exact z g
        · exact n (f g))]
      rfl
    by_cases hb : bl F (jn F - 1) x = true
    · rw [if_neg (bi_ne hb), ck_t (okI_lt (k := 47) (n := x) (L := 40) rfl rfl (by omega) (by decide)), hm.2.2.1 x hx]
      have hso := (h.2.2.1 x hx).1
      by_cases h2 : jso F x = 2
      · have hsx := ((h.2.2.1 x hx).2.2.2.2 h2).1
        have esx : gI σ 48 x = nI (jse F x) := by rw [hm.2.2.2.1 x hx, if_pos h2]
        rw [h2, if_pos (show nI 2 = 2 from rfl)]
        unfold l_Mo_isGame_35
        rw [show (nI x, (1 : Int32), (0 : Int32)) = (fun i => (nI x, bi (allB (gI3 F x) i), nI i)) 0 from rfl]
        have key : bi (gm F x) = bi (allB (gI3 F x) (jn F)) := by
          refine congrArg bi (b_of ?_)
          rw [gm_iff, allB_iff]
          constructor
          · rintro (g | g) i hi
            · exact absurd g z
            · unfold gI3
              rw [Bool.and_eq_true]
              constructor
              · cases w : (gI1 F x i && (jse F i == jse F x)) with
                | false => rfl
                | true =>
                  unfold gI1 at w
                  simp only [Bool.and_eq_true, beq_iff_eq, Bool.not_eq_true', beq_eq_false_iff_ne] at w
                  exact absurd (g.2.2.1 i hi w.1.1.1 w.1.1.2 w.2) w.1.2
              · cases w : (gI1 F x i && bl F x i) with
                | false => rfl
                | true =>
                  unfold gI1 at w
                  simp only [Bool.and_eq_true, beq_iff_eq, Bool.not_eq_true', beq_eq_false_iff_ne] at w
                  rw [Bool.not_true, Bool.false_or, allB_iff]
                  intro j hj
                  unfold gI2
                  cases v : (bl F (jn F - 1) j && (jso F j == 2) && (jse F j == jse F i) && !bl F x j) with
                  | false => rfl
                  | true =>
                    simp only [Bool.and_eq_true, beq_iff_eq, Bool.not_eq_true'] at v
                    have := g.2.2.2 (jse F i) ((ins_iff F hl x _).mpr ⟨i, hi, w.2, w.1.1.2, rfl⟩) j hj v.1.1.1 v.1.1.2 v.1.2
                    rw [this] at v
                    exact absurd v.2 (by decide)
          · intro g
            have g3 : ∀ i, i < jn F → bl F (jn F - 1) i = true → jso F i = 2 → jse F i = jse F x → i = x := fun i hi w1 w2 w3 => by
              by_cases e : i = x
              · exact e
              · have := g i hi
                unfold gI3 gI1 at this
                rw [w1, w2, w3] at this
                simp [e] at this
            refine Or.inr ⟨hb, h2, g3, fun s hs j hj w1 w2 w3 => ?_⟩
            obtain ⟨i, i1, i2, i3, i4⟩ := (ins_iff F hl x s).mp hs
            by_cases e : i = x
            · rw [g3 j hj w1 w2 (by rw [w3, ← i4, e])]
              exact bl_self F x
            · have := g i i1
              unfold gI3 at this
              rw [Bool.and_eq_true] at this
              have g1 : gI1 F x i = true := by
                unfold gI1
                rw [bl_trans h hb 40 i i1 (by omega) i2, i3]
                simp [e]
              rw [g1, i2, Bool.and_self, Bool.not_true, Bool.false_or] at this
              have := (allB_iff _ _).mp this.2 j hj
              unfold gI2 at this
              rw [w1, w2, w3, i4] at this
              simpa using this
        rw [key]
        refine lpF_go (fun i => (nI x, bi (allB (gI3 F x) i), nI i)) (jn F) (fun i hi k => ?_) (fun k => ?_) (by omega)
        · show b_Mo_isGame_35 σ k (nI x) (bi (allB (gI3 F x) i)) (nI i) = k (nI x, bi (allB (gI3 F x) i && gI3 F x i), nI (i + 1))
          have hsoi := (h.2.2.1 i hi).1
          have e72 : ∀ y0, y0 = bi (gI1 F x i) → b_Mo_isGame_72 σ k (nI x) (bi (allB (gI3 F x) i)) (nI i) y0 = k (nI x, bi (allB (gI3 F x) i && gI3 F x i), nI (i + 1)) := by
            rintro y0 rfl
            have e103 : ∀ c, b_Mo_isGame_103 σ k (nI x) (nI i) (bi (gI1 F x i)) (bi c) = k (nI x, bi (c && (!(gI1 F x i && bl F x i) || allB (gI2 F x i) (jn F))), nI (i + 1)) := fun c => mo_game2 h hm ht hx hi c k
            unfold b_Mo_isGame_72
            by_cases w : allB (gI3 F x) i = true
            · rw [if_neg (bi_ne w), w, Bool.true_and]
              by_cases w1 : gI1 F x i = true
              · have h2i : jso F i = 2 := by
                  have := w1
                  unfold gI1 at this
                  simp only [Bool.and_eq_true, beq_iff_eq] at this
                  exact this.1.2
                have esi : gI σ 48 i = nI (jse F i) := by rw [hm.2.2.2.1 i hi, if_pos h2i]
                have hski := ((h.2.2.1 i hi).2.2.2.2 h2i).1
                rw [if_neg (bi_ne w1), ck_t (okI_lt (k := 48) (n := i) (L := 40) rfl rfl (by omega) (by decide)), ck_t (okI_lt (k := 48) (n := x) (L := 40) rfl rfl (by omega) (by decide)), nI_c (n := i) (by omega), nI_c (n := x) (by omega), esi, esx]
                unfold gI3
                by_cases w2 : jse F i = jse F x
                · rw [if_pos (by rw [w2])]
                  refine (e103 false).trans ?_
                  rw [w1, w2]
                  simp
                · rw [if_neg (fun e => w2 ((nI_eq (by omega) (by omega)).mp e))]
                  refine (e103 true).trans ?_
                  have w2' : (jse F i == jse F x) = false := by simpa using w2
                  rw [w2', Bool.and_false, Bool.not_false]
              · rw [if_pos (bi_eq w1)]
                refine (e103 true).trans ?_
                have w1' : gI1 F x i = false := by simpa using w1
                unfold gI3
                rw [w1', Bool.false_and, Bool.not_false]
                rfl
            · rw [if_pos (bi_eq w)]
              refine (e103 false).trans ?_
              have w' : allB (gI3 F x) i = false := by simpa using w
              rw [w', Bool.false_and, Bool.false_and]
          unfold b_Mo_isGame_35
          rw [hm.1, if_neg (nI_ge hi (by omega)), ck_t (okZ_lt (k := 56) (n := i) (L := 40) rfl rfl (by omega) (by decide)), nI_c (n := i) (by omega), ht.1 i hi]
          by_cases v1 : bl F (jn F - 1) i = true
          · rw [if_neg (bi_ne v1), ck_t (okI_lt (k := 47) (n := i) (L := 40) rfl rfl (by omega) (by decide)), hm.2.2.1 i hi]
            by_cases v2 : jso F i = 2
            · rw [if_pos (show nI (jso F i) = 2 by rw [v2]; rfl)]
              by_cases v3 : i = x
              · rw [if_pos (by rw [v3])]
                exact e72 0 (by unfold gI1; rw [v3]; simp; rfl)
              · rw [if_neg (fun e => v3 ((nI_eq (by omega) (by omega)).mp e))]
                exact e72 1 (by have v3' : (i == x) = false := by simpa using v3
                                unfold gI1; rw [v1, v2, v3']; rfl)
            · rw [if_neg (show ¬ nI (jso F i) = 2 from fun e => v2 ((nI_eq (b := 2) (by omega) (by decide)).mp e))]
              exact e72 0 (by unfold gI1; have v2' : (jso F i == 2) = false := by simpa using v2
                              rw [v2']; simp; rfl)
          · rw [if_pos (bi_eq v1)]
            have v1' : bl F (jn F - 1) i = false := by simpa using v1
            exact e72 0 (by unfold gI1; rw [v1']; simp; rfl)
        · show b_Mo_isGame_35 σ k (nI x) (bi (allB (gI3 F x) (jn F))) (nI (jn F)) = _
          unfold b_Mo_isGame_35
          rw [hm.1, if_pos (nI_le (Nat.le_refl _) (by omega)), ck_t (bi_isB _)]
      · rw [if_neg (show ¬ nI (jso F x) = 2 from fun e => h2 ((nI_eq (b := 2) (by omega) (by decide)).mp e))]
        exact no (fun g => g.2.1) h2
    · rw [if_pos (bi_eq hb)]
      exact no (fun g => g.1) hb
