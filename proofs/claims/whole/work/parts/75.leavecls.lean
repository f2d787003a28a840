/-! the class: the rounds are played -/
theorem le_take {σ : gS} {n : Nat → Nat} {T : Tb} (h : VC σ n T) (hn : nb n) {pl : Nat} (hpl : pl < 2) (y : Int64) (v : Int32) : ∃ τ, f_Le_takeAway σ (nI pl) y v = some τ ∧ (∀ a, a < n pl → gI τ (35 + 1 + pl) a = if tb y a = true then v else gI σ (35 + 1 + pl) a) ∧ gL τ 38 pl = gL σ 38 pl &&& (y ^^^ (-1)) ∧ (∀ i, i ≠ pl → gL τ 38 i = gL σ 38 i) ∧ sm (fun c => c ≠ 38 ∧ c ≠ 35 + 1 + pl) σ τ := by
  have hl := nb_le hn hpl
  have ib : inb (nI pl) 2 = true := inb_nI hpl (by decide)
  let I : Nat → (Int32 × Int64 × Int32 × Int32 × gS) → Prop := fun i x => ∃ υ : gS, x = (nI pl, y, v, nI i, υ) ∧ (∀ a, gI υ (35 + 1 + pl) a = if a < i ∧ tb y a = true then v else gI σ (35 + 1 + pl) a) ∧ sm (fun c => c ≠ 35 + 1 + pl) σ υ
  have hs : ∀ i, i < n pl → ∀ x, I i x → ∃ x', I (i + 1) x' ∧ ∀ k, b_Le_takeAway_3 k x.1 x.2.1 x.2.2.1 x.2.2.2.1 x.2.2.2.2 = k x' := by
    rintro i hi x ⟨υ, rfl, e1, e2⟩
    have hv : VC υ n T := VC_s e2 (by omega) (by omega) (by omega) h
    by_cases z : tb y i = true
    · refine ⟨(nI pl, y, v, nI (i + 1), sI υ (35 + 1 + pl) i v), ⟨_, rfl, fun a => ?_, e2.tr (sm_sI _ _ _ (fun w => w rfl))⟩, fun k => ?_⟩
      · rw [gI_sI]
        by_cases w : a = i
        · rw [if_pos ⟨rfl, w⟩, if_pos ⟨by omega, by rw [w]; exact z⟩]
        · rw [if_neg (fun q => w q.2), e1]
          by_cases w2 : a < i ∧ tb y a = true
          · rw [if_pos w2, if_pos ⟨by omega, w2.2⟩]
          · rw [if_neg w2, if_neg (fun q => w2 ⟨by omega, q.2⟩)]
      · show b_Le_takeAway_3 k (nI pl) y v (nI i) υ = _
        unfold b_Le_takeAway_3
        rw [ck_t (ok17 hpl), nI_c (n := pl) (by omega), c_n hv hpl, if_neg (nI_ge hi (by omega)), f_hasBit _ (by omega), Option.bind_some, if_neg (bi_ne z), ck_t ib, ck_t (ok36 hpl (by omega)), bnd_e, nI_c (n := i) (by omega)]
        unfold b_Le_takeAway_37
        rw [bnd_e, nI_1]
    · refine ⟨(nI pl, y, v, nI (i + 1), υ), ⟨_, rfl, fun a => ?_, e2⟩, fun k => ?_⟩
      · rw [e1]
        by_cases w2 : a < i ∧ tb y a = true
        · rw [if_pos w2, if_pos ⟨by omega, w2.2⟩]
        · rw [if_neg w2, if_neg (fun q => w2 ⟨by
            have : a ≠ i := fun e => z (by rw [← e]; exact q.2)
            omega, q.2⟩)]
      · show b_Le_takeAway_3 k (nI pl) y v (nI i) υ = _
        unfold b_Le_takeAway_3
        rw [ck_t (ok17 hpl), nI_c (n := pl) (by omega), c_n hv hpl, if_neg (nI_ge hi (by omega)), f_hasBit _ (by omega), Option.bind_some, if_pos (bi_eq z)]
        unfold b_Le_takeAway_37
        rw [bnd_e, nI_1]
  obtain ⟨x', k, ⟨υ, rfl, e1, e2⟩, e⟩ := lpF_in I (n pl) (nI pl, y, v, 0, σ) ⟨σ, rfl, fun a => by rw [if_neg (fun q => Nat.not_lt_zero a q.1)], sm_rf _ _⟩ hs (by omega)
  have hv : VC υ n T := VC_s e2 (by omega) (by omega) (by omega) h
  refine ⟨sL υ 38 pl (gL υ 38 pl &&& (y ^^^ (-1))), ?_, fun a ha => ?_, ?_, fun i hi => ?_, ?_⟩
  · unfold f_Le_takeAway b_Le_takeAway_0 l_Le_takeAway_3
    refine e.trans ?_
    show b_Le_takeAway_3 k (nI pl) y v (nI (n pl)) υ = _
    unfold b_Le_takeAway_3
    rw [ck_t (ok17 hpl), nI_c (n := pl) (by omega), c_n hv hpl, if_pos (nI_le (Nat.le_refl _) (by omega)), ck_t (ok38 hpl), ck_t (ok38 hpl), bnd_e]
  · rw [gI_sL, e1]
    by_cases w : tb y a = true
    · rw [if_pos w, if_pos ⟨ha, w⟩]
    · rw [if_neg w, if_neg (fun q => w q.2)]
  · rw [gL_same, e2.l (by omega)]
  · rw [gL_place _ _ _ hi, e2.l (by omega)]
  · exact (e2.less (fun c hc => hc.2)).tr (sm_sL _ _ _ (fun w => w.1 rfl))
/-- the class's rows behind r rounds -/
def LeP (σ : gS) (n : Nat → Nat) (T : Tb) (r : Nat) : Prop := (∀ pl, pl < 2 → ∀ a, a < n pl → gI σ (35 + 1 + pl) a = gn T n r pl a) ∧ ∀ pl, pl < 2 → ∀ a, a < 64 → tb (gL σ 38 pl) a = (decide (a < n pl) && lf T n r pl a)
def LC (σ : gS) (n : Nat → Nat) (T : Tb) : Prop := gI σ 34 4 = gI σ 1 2 → LeP σ n T (rs T n)
theorem z_bits {y : Int64} {f : Nat → Bool} (hy : ∀ a, a < 64 → tb y a = f a) : lg_cmp y 0 = 0 ↔ ∀ a, a < 64 → f a = false := by
  rw [lg_cmp_0]
  constructor
  · intro e a ha
    rw [← hy a ha, e, tb_0]
  · intro h
    exact tb_ext (fun a ha => by rw [hy a ha, h a ha, tb_0])
theorem le_go {σ : gS} {n : Nat → Nat} {T : Tb} (h : VC σ n T) (hn : nb n) (hp : LeP σ n T 0) : ∃ τ, l_Le_playAll_69 (1, σ) = some τ ∧ LeP τ n T (rs T n) ∧ sm (fun c => c ≠ 36 ∧ c ≠ 37 ∧ c ≠ 38) σ τ := by
  have n0 := nb_le hn (show 0 < 2 by decide)
  have n1 := nb_le hn (show 1 < 2 by decide)
  obtain ⟨r1, r2, r3⟩ := rs_ok T hn
  let J : Nat → (Int32 × gS) → Prop := fun r x => ∃ υ : gS, x = (nI (r + 1), υ) ∧ LeP υ n T r ∧ sm (fun c => c ≠ 36 ∧ c ≠ 37 ∧ c ≠ 38) σ υ
  -- what is seen of those that go
  have stopI : ∀ {r : Nat} {y0 y1 : Int64}, (∀ a, a < 64 → tb y0 a = (decide (a < n 0) && gob T n r 0 a)) → (∀ a, a < 64 → tb y1 a = (decide (a < n 1) && gob T n r 1 a)) → ((lg_cmp y0 0 = 0 ∧ lg_cmp y1 0 = 0) ↔ stp T n r) := fun {r y0 y1} h0 h1 => by
    rw [z_bits h0, z_bits h1]
    constructor
    · rintro ⟨q0, q1⟩ pl hpl a ha
      rcases (show pl = 0 ∨ pl = 1 by omega) with rfl | rfl
      · have := q0 a (by omega)
        rw [decide_eq_true ha, Bool.true_and] at this
        exact this
      · have := q1 a (by omega)
        rw [decide_eq_true ha, Bool.true_and] at this
        exact this
    · intro q
      have key : ∀ pl, pl < 2 → ∀ a, (decide (a < n pl) && gob T n r pl a) = false := fun pl hpl a => by
        by_cases z : a < n pl
        · rw [q pl hpl a z, Bool.and_false]
        · rw [decide_eq_false z, Bool.false_and]
      exact ⟨fun a _ => key 0 (by decide) a, fun a _ => key 1 (by decide) a⟩
  have hsJ : ∀ r, r < rs T n → ∀ x, J r x → ∃ x', J (r + 1) x' ∧ ∀ k, b_Le_playAll_69 k x.1 x.2 = k x' := by
    rintro r hr x ⟨υ, rfl, ⟨e1, e2⟩, e3⟩
    have hv : VC υ n T := VC_s e3 (by decide) (by decide) (by decide) h
    obtain ⟨y0, f0, g0⟩ := le_those hv hn e2 (pl := 0) (by decide)
    obtain ⟨y1, f1, g1⟩ := le_those hv hn e2 (pl := 1) (by decide)
    obtain ⟨τ1, a1, a2, a3, a4, a5⟩ := le_take hv hn (pl := 0) (by decide) y0 (nI (r + 1))
    have hv1 : VC τ1 n T := VC_s a5 (by decide) (by decide) (by decide) hv
    obtain ⟨τ2, b1, b2, b3, b4, b5⟩ := le_take hv1 hn (pl := 1) (by decide) y1 (nI (r + 1))
    have bits : ∀ (x y : Int64) pl, (∀ a, a < 64 → tb x a = (decide (a < n pl) && lf T n r pl a)) → (∀ a, a < 64 → tb y a = (decide (a < n pl) && gob T n r pl a)) → ∀ a, a < 64 → tb (x &&& (y ^^^ (-1))) a = (decide (a < n pl) && lf T n (r + 1) pl a) := fun x y pl hx hy a ha => by
      rw [tb_and, tb_xor, tb_m1 a ha, hx a ha, hy a ha, lf_s]
      cases decide (a < n pl) <;> cases lf T n r pl a <;> cases gob T n r pl a <;> rfl
    have gone : ∀ pl a, nI (r + 1) = nI (r + 1) → gn T n (r + 1) pl a = if gob T n r pl a = true then nI (r + 1) else gn T n r pl a := fun pl a _ => rfl
    refine ⟨(nI (r + 1 + 1), τ2), ⟨τ2, rfl, ⟨fun pl hpl a ha => ?_, fun pl hpl a ha => ?_⟩, ?_⟩, fun k => ?_⟩
    · rw [gone pl a rfl]
      rcases (show pl = 0 ∨ pl = 1 by omega) with rfl | rfl
      · rw [b5.i (show (35 + 1 + 0 : Nat) ≠ 38 ∧ 35 + 1 + 0 ≠ 35 + 1 + 1 by decide), a2 a ha, g0 a (by omega), decide_eq_true ha, Bool.true_and, e1 0 (by decide) a ha]
      · rw [b2 a ha, g1 a (by omega), decide_eq_true ha, Bool.true_and, a5.i (show (35 + 1 + 1 : Nat) ≠ 38 ∧ 35 + 1 + 1 ≠ 35 + 1 + 0 by decide), e1 1 (by decide) a ha]
    · rcases (show pl = 0 ∨ pl = 1 by omega) with rfl | rfl
      · rw [b4 0 (by decide), a3]
        exact bits _ _ 0 (e2 0 (by decide)) g0 a ha
      · rw [b3, a4 1 (by decide)]
        exact bits _ _ 1 (e2 1 (by decide)) g1 a ha
    · refine e3.tr ((a5.less (fun c hc => ?_)).tr (b5.less (fun c hc => ?_)))
      · exact ⟨hc.2.2, hc.1⟩
      · exact ⟨hc.2.2, hc.2.1⟩
    · have go : b_Le_playAll_105 k (nI (r + 1)) y0 y1 υ = k (nI (r + 1 + 1), τ2) := by
        unfold b_Le_playAll_105
        rw [show f_Le_takeAway υ 0 y0 (nI (r + 1)) = some τ1 from a1, Option.bind_some, show f_Le_takeAway τ1 1 y1 (nI (r + 1)) = some τ2 from b1, Option.bind_some, bnd_e, nI_1]
      show b_Le_playAll_69 k (nI (r + 1)) υ = _
      unfold b_Le_playAll_69
      rw [if_neg (show ¬ (128 : Int32) < nI (r + 1) from nI_nlt (a := 128) (by omega) (by decide)), show f_Le_thoseThatGo υ 0 = some y0 from f0, Option.bind_some, show f_Le_thoseThatGo υ 1 = some y1 from f1, Option.bind_some, go]
      have ns := r3 r hr
      by_cases w : lg_cmp y0 0 = 0
      · rw [if_pos w, if_neg (fun w1 => ns ((stopI g0 g1).mp ⟨w, w1⟩))]
      · rw [if_neg w]
  obtain ⟨x', k, ⟨υ, rfl, ⟨e1, e2⟩, e3⟩, e⟩ := lpF_in J (rs T n) (1, σ) ⟨σ, rfl, hp, sm_rf _ _⟩ hsJ (by omega)
  refine ⟨υ, ?_, ⟨e1, e2⟩, e3⟩
  unfold l_Le_playAll_69
  refine e.trans ?_
  show b_Le_playAll_69 k (nI (rs T n + 1)) υ = _
  unfold b_Le_playAll_69
  by_cases z : 128 < rs T n + 1
  · rw [if_pos (show (128 : Int32) < nI (rs T n + 1) from nI_lt (a := 128) z (by omega))]
  · have hv : VC υ n T := VC_s e3 (by decide) (by decide) (by decide) h
    obtain ⟨y0, f0, g0⟩ := le_those hv hn e2 (pl := 0) (by decide)
    obtain ⟨y1, f1, g1⟩ := le_those hv hn e2 (pl := 1) (by decide)
    obtain ⟨w0, w1⟩ := (stopI g0 g1).mpr r2
    rw [if_neg (show ¬ (128 : Int32) < nI (rs T n + 1) from nI_nlt (a := 128) (by omega) (by decide)), show f_Le_thoseThatGo υ 0 = some y0 from f0, Option.bind_some, show f_Le_thoseThatGo υ 1 = some y1 from f1, Option.bind_some, if_pos w0, if_pos w1]
theorem le_play {σ : gS} {n : Nat → Nat} {T : Tb} (h : VC σ n T) (hn : nb n) (hL : LC σ n T) : ∃ τ, f_Le_playAll σ = some τ ∧ LeP τ n T (rs T n) ∧ gI τ 34 4 = gI σ 1 2 ∧ sm (fun c => c < 34 ∨ 39 ≤ c) σ τ := by
  unfold f_Le_playAll b_Le_playAll_0
  by_cases z : gI σ 34 4 = gI σ 1 2
  · rw [if_pos z]
    exact ⟨σ, rfl, hL z, z, sm_rf _ _⟩
  · rw [if_neg z, bnd_e]
    generalize hσ2 : sI σ 34 4 (gI σ 1 2) = σ2
    have s2 : sm (fun c => c ≠ 34) σ σ2 := by rw [← hσ2]; exact sm_sI _ _ _ (fun w => w rfl)
    let I : Nat → (Int32 × gS) → Prop := fun i x => ∃ υ : gS, x = (nI i, υ) ∧ (∀ pl, pl < i → (∀ a, a < 64 → gI υ (35 + 1 + pl) a = -1) ∧ ∀ a, a < 64 → tb (gL υ 38 pl) a = decide (a < n pl)) ∧ sm (fun c => c ≠ 36 ∧ c ≠ 37 ∧ c ≠ 38) σ2 υ
    have hs : ∀ i, i < 2 → ∀ x, I i x → ∃ x', I (i + 1) x' ∧ ∀ k, b_Le_playAll_28 k x.1 x.2 = k x' := by
      rintro i hi x ⟨υ, rfl, e1, e2⟩
      have hv : VC υ n T := VC_s e2 (by decide) (by decide) (by decide) (VC_s s2 (by decide) (by decide) (by decide) h)
      have hb := nb_le hn hi
      obtain ⟨υ3, f1, f2, f3⟩ : ∃ τ, f_Ar_fillI υ (35 + 1 + i) (-1) = some τ ∧ (∀ j, j < 64 → gI τ (35 + 1 + i) j = -1) ∧ sm (fun c => c ≠ 35 + 1 + i) υ τ := by
        rcases (show i = 0 ∨ i = 1 by omega) with rfl | rfl
        · exact f_fillI υ (k := 36) (L := 64) rfl rfl (by decide) (-1)
        · exact f_fillI υ (k := 37) (L := 64) rfl rfl (by decide) (-1)
      obtain ⟨y, g1, g2⟩ := f_firstBits hb.1 hb.2
      have hv3 : VC υ3 n T := VC_s f3 (by omega) (by omega) (by omega) hv
      refine ⟨(nI (i + 1), sL υ3 38 i y), ⟨_, rfl, fun pl hpl => ⟨fun a ha => ?_, fun a ha => ?_⟩, ?_⟩, fun k => ?_⟩
      · rw [gI_sL]
        by_cases w : pl = i
        · rw [w, f2 a ha]
        · rw [f3.i (show 35 + 1 + pl ≠ 35 + 1 + i by omega), (e1 pl (by omega)).1 a ha]
      · by_cases w : pl = i
        · rw [w, gL_same, g2 a ha]
        · rw [gL_place _ _ _ w, f3.l (show (38 : Nat) ≠ 35 + 1 + i by omega), (e1 pl (by omega)).2 a ha]
      · refine e2.tr ((f3.less (fun c hc => ?_)).tr (sm_sL _ _ _ (fun w => w.2.2 rfl)))
        have : c ≠ 36 ∧ c ≠ 37 ∧ c ≠ 38 := hc
        omega
      · show b_Le_playAll_28 k (nI i) υ = _
        unfold b_Le_playAll_28
        rw [if_neg (show ¬ (2 : Int32) ≤ nI i from nI_ge (b := 2) hi (by decide)), ck_t (inb_nI hi (by decide)), nI_c (n := i) (by omega), f1, Option.bind_some, ck_t (ok17 hi), c_n hv3 hi, g1, Option.bind_some, ck_t (ok38 hi), bnd_e, bnd_e, nI_1]
    obtain ⟨x', k, ⟨υ, rfl, e1, e2⟩, e⟩ := lpF_in I 2 (0, σ2) ⟨σ2, rfl, fun pl hpl => absurd hpl (Nat.not_lt_zero pl), sm_rf _ _⟩ hs (by decide)
    have hv : VC υ n T := VC_s e2 (by decide) (by decide) (by decide) (VC_s s2 (by decide) (by decide) (by decide) h)
    have hp : LeP υ n T 0 := ⟨fun pl hpl a ha => by
      have hb := nb_le hn hpl
      rw [(e1 pl hpl).1 a (by omega)]
      rfl, fun pl hpl a ha => by
      rw [(e1 pl hpl).2 a ha]
      show _ = (decide (a < n pl) && true)
      rw [Bool.and_true]⟩
    obtain ⟨τ, t1, t2, t3⟩ := le_go hv hn hp
    refine ⟨τ, ?_, t2, ?_, ?_⟩
    · unfold l_Le_playAll_28
      refine e.trans ?_
      show b_Le_playAll_28 k (nI 2) υ = _
      unfold b_Le_playAll_28
      rw [if_pos (show (2 : Int32) ≤ nI 2 from by decide), t1]
    · rw [t3.i (by decide), e2.i (by decide), ← hσ2, gI_same]
    · refine ((s2.less (fun c hc => ?_)).tr (e2.less (fun c hc => ?_))).tr (t3.less (fun c hc => ?_)) <;> (have : c < 34 ∨ 39 ≤ c := hc; omega)
