/-! the reference: the table of worths -/
theorem n64 (p q : Nat) : (64 : Int32) * nI p + nI q = nI (64 * p + q) := by rw [show (64 : Int32) = nI 64 from rfl, pk_mul, nI_add]
theorem n4096 (p q : Nat) : (4096 : Int32) + 64 * nI p + nI q = nI (4096 + 64 * p + q) := by rw [show (64 : Int32) = nI 64 from rfl, show (4096 : Int32) = nI 4096 from rfl, pk_mul, nI_add, nI_add]
theorem mo_choice {σ : gS} {F : Fr} (h : WF F) (hm : MR σ F) (ht : TR σ F) {p q : Nat} (hp : p < 100000) (hq : q < 100000) (x : Int32) : ∃ τ, f_Mo_work σ x (nI p) (nI q) = l_Mo_work_70 (x, nI p, nI q, 0, τ) ∧ (∀ s, s < jk F → gI τ 60 s = nI (chP F (jn F - 1) p q s)) ∧ sm (fun c => c ≠ 60) σ τ := by
  have hk := h.1.2
  let I : Nat → (Int32 × Int32 × Int32 × Int32 × gS) → Prop := fun s y => ∃ υ : gS, y = (x, nI p, nI q, nI s, υ) ∧ (∀ s', s' < s → gI υ 60 s' = nI (chP F (jn F - 1) p q s')) ∧ sm (fun c => c ≠ 60) σ υ
  have hs : ∀ s, s < jk F → ∀ y, I s y → ∃ y', I (s + 1) y' ∧ ∀ k, b_Mo_work_3 k y.1 y.2.1 y.2.2.1 y.2.2.2.1 y.2.2.2.2 = k y' := by
    rintro s hs y ⟨υ, rfl, e1, e2⟩
    have hmυ : MR υ F := MR_s e2 (fun c h1 h2 => by omega) hm
    have htυ : TR υ F := TR_s e2 (by decide) (by decide) ht
    have ho := (h.2.1 s hs).1
    have o60 := okI_lt (k := 60) (n := s) (L := 10) rfl rfl (by omega) (by decide)
    have o54 := okI_lt (k := 54) (n := s) (L := 10) rfl rfl (by omega) (by decide)
    have cs := nI_c (n := s) (by omega)
    refine ⟨(x, nI p, nI q, nI (s + 1), sI υ 60 s (nI (chP F (jn F - 1) p q s))), ⟨_, rfl, fun s' hs' => ?_, e2.tr (sm_sI _ _ _ (fun w => w rfl))⟩, fun k => ?_⟩
    · rw [gI_sI]
      by_cases z : s' = s
      · rw [if_pos ⟨rfl, z⟩, z]
      · rw [if_neg (fun w => z w.2), e1 s' (by omega)]
    · show b_Mo_work_3 k x (nI p) (nI q) (nI s) υ = _
      have fin : ∀ v, v = nI (chP F (jn F - 1) p q s) → b_Mo_work_60 k x (nI p) (nI q) (nI s) (nI s) v υ = k (x, nI p, nI q, nI (s + 1), sI υ 60 s (nI (chP F (jn F - 1) p q s))) := fun v hv => by
        unfold b_Mo_work_60
        rw [ck_t o60, bnd_e, bnd_e, cs, nI_1, hv]
      unfold b_Mo_work_3
      rw [hmυ.2.1, if_neg (nI_ge hs (by omega)), ck_t (okZ_lt (k := 57) (n := s) (L := 10) rfl rfl (by omega) (by decide)), cs, htυ.2 s (by omega)]
      by_cases z : ins F (jn F - 1) s = true
      · rw [if_neg (bi_ne z), ck_t o54, ck_t o54, hmυ.2.2.2.2.2.2.2.2.2.1 s hs]
        by_cases z2 : jow F s = 0
        · have e9 : rdF F (jn F - 1) 0 s = jac F s := if_pos ⟨z, z2⟩
          rw [z2, if_pos (show nI 0 = 0 from rfl)]
          unfold b_Mo_work_51
          rw [mo_actOf h hmυ htυ (by decide) hp hs, Option.bind_some]
          refine fin _ ?_
          unfold chP dg
          rw [if_pos z2, e9]
        · have z3 : jow F s = 1 := by omega
          have e9 : rdF F (jn F - 1) 1 s = jac F s := if_pos ⟨z, z3⟩
          rw [z3, if_neg (show ¬ nI 1 = 0 by decide)]
          unfold b_Mo_work_51
          rw [mo_actOf h hmυ htυ (by decide) hq hs, Option.bind_some]
          refine fin _ ?_
          unfold chP dg
          rw [if_neg z2, e9]
      · rw [if_pos (bi_eq z)]
        refine fin _ ?_
        unfold chP
        have e8 : ∀ pl, rdF F (jn F - 1) pl s = 1 := fun pl => if_neg (fun w => z w.1)
        rw [dg_1 (e8 0), dg_1 (e8 1)]
        split <;> rfl
  obtain ⟨y', k, ⟨υ, rfl, e1, e2⟩, e⟩ := lpF_in I (jk F) (x, nI p, nI q, 0, σ) ⟨σ, rfl, fun s' hs' => absurd hs' (Nat.not_lt_zero s'), sm_rf _ _⟩ hs (by omega)
  refine ⟨υ, ?_, e1, e2⟩
  unfold f_Mo_work b_Mo_work_0 l_Mo_work_3
  refine e.trans ?_
  show b_Mo_work_3 k x (nI p) (nI q) (nI (jk F)) υ = _
  unfold b_Mo_work_3
  rw [e2.i (by decide), hm.2.1, if_pos (nI_le (Nat.le_refl _) (by omega))]
theorem mo_work {σ : gS} {F : Fr} (h : WF F) (hm : MR σ F) (ht : TR σ F) {x p q : Nat} (hx : x < jn F) (hbx : bl F (jn F - 1) x = true) (hp : p < 64) (hq : q < 64) : ∃ τ, f_Mo_work σ (nI x) (nI p) (nI q) = some τ ∧ (∀ i, gI τ 59 i = if i = 4096 + 64 * p + q then iI (val F (chP F (jn F - 1) p q) 1 x) else if i = 64 * p + q then iI (val F (chP F (jn F - 1) p q) 0 x) else gI σ 59 i) ∧ sm (fun c => c ≠ 58 ∧ c ≠ 59 ∧ c ≠ 60) σ τ := by
  have hl := h.1.1
  have hk := h.1.2
  obtain ⟨σ1, f1, f2, f3⟩ := mo_choice h hm ht (p := p) (q := q) (by omega) (by omega) (nI x)
  rw [f1]
  have hok := chP_ok h (jn F - 1) p q
  generalize chP F (jn F - 1) p q = ch at f2 hok ⊢
  have hm1 : MR σ1 F := MR_s f3 (fun c h1 h2 => by omega) hm
  have ht1 : TR σ1 F := TR_s f3 (by decide) (by decide) ht
  let V : Nat → gS → Prop := fun i υ => ∀ i', i' < i → bl F (jn F - 1) i' = true → ∀ w, w < 2 → gI υ 58 (2 * i' + w) = iI (val F ch w i')
  let I : Nat → (Int32 × Int32 × Int32 × Int32 × gS) → Prop := fun i y => ∃ υ : gS, y = (nI x, nI p, nI q, nI i, υ) ∧ V i υ ∧ sm (fun c => c ≠ 58) σ1 υ
  have hs : ∀ i, i < x + 1 → ∀ y, I i y → ∃ y', I (i + 1) y' ∧ ∀ k, b_Mo_work_70 k y.1 y.2.1 y.2.2.1 y.2.2.2.1 y.2.2.2.2 = k y' := by
    rintro i hi y ⟨υ, rfl, e1, e2⟩
    have hin : i < jn F := by omega
    have ci := nI_c (n := i) (by omega)
    have pre : ∀ k, b_Mo_work_70 k (nI x) (nI p) (nI q) (nI i) υ = l_Mo_work_79 k (nI x, nI p, nI q, nI i, 0, υ) := fun k => by
      unfold b_Mo_work_70
      rw [if_neg (nI_nlt (by omega) (by omega))]
    have o56 := okZ_lt (k := 56) (n := i) (L := 40) rfl rfl (by omega) (by decide)
    by_cases z : bl F (jn F - 1) i = true
    · let W : Nat → (Int32 × Int32 × Int32 × Int32 × Int32 × gS) → Prop := fun w y => ∃ υ' : gS, y = (nI x, nI p, nI q, nI i, nI w, υ') ∧ (∀ w', w' < w → gI υ' 58 (2 * i + w') = iI (val F ch w' i)) ∧ V i υ' ∧ sm (fun c => c ≠ 58) σ1 υ'
      have hsW : ∀ w, w < 2 → ∀ y, W w y → ∃ y', W (w + 1) y' ∧ ∀ k70 k, b_Mo_work_79 k70 k y.1 y.2.1 y.2.2.1 y.2.2.2.1 y.2.2.2.2.1 y.2.2.2.2.2 = k y' := by
        rintro w hw y ⟨υ', rfl, a1, a2, a3⟩
        have hmυ : MR υ' F := MR_s a3 (fun c h1 h2 => by omega) hm1
        have htυ : TR υ' F := TR_s a3 (by decide) (by decide) ht1
        have o47 := okI_lt (k := 47) (n := i) (L := 40) rfl rfl (by omega) (by decide)
        have o58 := okI_lt (k := 58) (n := 2 * i + w) (L := 80) rfl rfl (by omega) (by decide)
        obtain ⟨c1, c2, c3, c4, c5⟩ := h.2.2.1 i hin
        have hch : ∀ j, j < jcn F i → gI υ' 58 (2 * jch F i j + w) = iI (val F ch w (jch F i j)) := fun j hj => a2 _ (h.2.2.2.1 i hin j hj).1 (bl_ch h hin z hj) w hw
        refine ⟨(nI x, nI p, nI q, nI i, nI (w + 1), sI υ' 58 (2 * i + w) (iI (val F ch w i))), ⟨_, rfl, fun w' hw' => ?_, fun i' hi' hb w' hw' => ?_, a3.tr (sm_sI _ _ _ (fun y => y rfl))⟩, fun k70 k => ?_⟩
        · rw [gI_sI]
          by_cases y : w' = w
          · rw [if_pos ⟨rfl, by omega⟩, y]
          · rw [if_neg (fun y2 => by omega), a1 w' (by omega)]
        · rw [gI_sI, if_neg (fun y2 => by omega), a2 i' hi' hb w' hw']
        · show b_Mo_work_79 k70 k (nI x) (nI p) (nI q) (nI i) (nI w) υ' = _
          have fin : ∀ v, v = iI (val F ch w i) → b_Mo_work_189 k70 k (nI x) (nI p) (nI q) (nI i) (nI w) (nI (2 * i + w)) v υ' = k (nI x, nI p, nI q, nI i, nI (w + 1), sI υ' 58 (2 * i + w) (iI (val F ch w i))) := fun v hv => by
            unfold b_Mo_work_189
            rw [ck_t o58, bnd_e, bnd_e, nI_c (by omega), nI_1, hv]
          unfold b_Mo_work_79
          rw [if_neg (show ¬ (2 : Int32) ≤ nI w from nI_ge (b := 2) hw (by decide)), ck_t o56, ci, htυ.1 i hin, if_neg (bi_ne z), ck_t o47, hmυ.2.2.1 i hin, nI_2]
          rcases (show jso F i = 0 ∨ jso F i = 1 ∨ jso F i = 2 by omega) with y | y | y
          · rw [y, if_pos (show nI 0 = 0 from rfl), ck_t (okI_lt (k := 49) (n := 2 * i + w) (L := 80) rfl rfl (by omega) (by decide)), nI_c (by omega), hmυ.2.2.2.2.1 i hin y w hw]
            refine fin _ ?_
            rw [val_0 ch w y, ← iI_mul, iI_toInt, Int32.mul_comm]
            rfl
          · rw [y, if_neg (show ¬ nI 1 = 0 by decide), ck_t o47, if_pos (show nI 1 = 1 from rfl), mo_mean h hmυ hok hin hw y hch, Option.bind_some]
            exact fin _ rfl
          · have hj := okC_in h hok hin y
            obtain ⟨s1, s2⟩ := c5 y
            have hcl := (h.2.2.2.1 i hin _ hj).1
            rw [y, if_neg (show ¬ nI 2 = 0 by decide), ck_t o47, if_neg (show ¬ nI 2 = 1 by decide), ck_t (okI_lt (k := 48) (n := i) (L := 40) rfl rfl (by omega) (by decide)), hmυ.2.2.2.1 i hin, if_pos y, ck_t (okI_lt (k := 60) (n := jse F i) (L := 10) rfl rfl (by omega) (by decide)), nI_c (n := jse F i) (by omega), a3.i (by decide), f2 _ s1, nI_3, ck_t (okI_lt (k := 50) (n := 3 * i + ch (jse F i)) (L := 120) rfl rfl (by omega) (by decide)), nI_c (n := 3 * i + ch (jse F i)) (by omega), hmυ.2.2.2.2.2.1 i hin _ (by omega), if_pos hj, nI_2, ck_t (okI_lt (k := 58) (n := 2 * jch F i (ch (jse F i)) + w) (L := 80) rfl rfl (by omega) (by decide)), nI_c (n := 2 * jch F i (ch (jse F i)) + w) (by omega), hch _ hj]
            exact fin _ (by rw [val_2 h hok w hin y])
      obtain ⟨y', ⟨υ', rfl, a1, a2, a3⟩, e⟩ := lpF_in2 (body := fun k70 k y => b_Mo_work_79 k70 k y.1 y.2.1 y.2.2.1 y.2.2.2.1 y.2.2.2.2.1 y.2.2.2.2.2) W 2 (nI x, nI p, nI q, nI i, 0, υ) ⟨υ, rfl, fun w' hw' => absurd hw' (Nat.not_lt_zero w'), e1, e2⟩ hsW (by decide)
      refine ⟨(nI x, nI p, nI q, nI (i + 1), υ'), ⟨υ', rfl, fun i' hi' hb w hw => ?_, a3⟩, fun k => ?_⟩
      · by_cases y : i' = i
        · rw [y]; exact a1 w hw
        · exact a2 i' (by omega) hb w hw
      · refine (pre k).trans ?_
        obtain ⟨kk, ek⟩ := e k
        unfold l_Mo_work_79
        refine ek.trans ?_
        show b_Mo_work_79 k kk (nI x) (nI p) (nI q) (nI i) (nI 2) υ' = _
        unfold b_Mo_work_79
        rw [if_pos (show (2 : Int32) ≤ nI 2 from by decide)]
        unfold b_Mo_work_196
        rw [bnd_e, nI_1]
    · refine ⟨(nI x, nI p, nI q, nI (i + 1), υ), ⟨υ, rfl, fun i' hi' hb w hw => ?_, e2⟩, fun k => ?_⟩
      · by_cases y : i' = i
        · rw [y] at hb; exact absurd hb z
        · exact e1 i' (by omega) hb w hw
      · refine (pre k).trans ?_
        have htυ : TR υ F := TR_s e2 (by decide) (by decide) ht1
        unfold l_Mo_work_79
        rw [lp_gF]
        show b_Mo_work_79 k _ (nI x) (nI p) (nI q) (nI i) 0 υ = _
        unfold b_Mo_work_79
        rw [if_neg (show ¬ (2 : Int32) ≤ 0 by decide), ck_t o56, ci, htυ.1 i hin, if_pos (bi_eq z)]
        unfold b_Mo_work_196
        rw [bnd_e, nI_1]
  obtain ⟨y', k, ⟨υ, rfl, e1, e2⟩, e⟩ := lpF_in I (x + 1) (nI x, nI p, nI q, 0, σ1) ⟨σ1, rfl, fun i' hi' => absurd hi' (Nat.not_lt_zero i'), sm_rf _ _⟩ hs (by omega)
  have v0 := e1 x (by omega) hbx 0 (by decide)
  have v1 := e1 x (by omega) hbx 1 (by decide)
  refine ⟨sI (sI υ 59 (64 * p + q) (iI (val F ch 0 x))) 59 (4096 + 64 * p + q) (iI (val F ch 1 x)), ?_, fun i => ?_, ?_⟩
  · unfold l_Mo_work_70
    refine e.trans ?_
    show b_Mo_work_70 k (nI x) (nI p) (nI q) (nI (x + 1)) υ = _
    unfold b_Mo_work_70
    rw [if_pos (nI_lt (by omega) (by omega)), show (2 : Int32) * nI x = nI (2 * x) from by rw [show (2 : Int32) = nI 2 from rfl, pk_mul], ck_t (okI_lt (k := 58) (n := 2 * x) (L := 80) rfl rfl (by omega) (by decide)), n64, ck_t (okI_lt (k := 59) (n := 64 * p + q) (L := 8192) rfl rfl (by omega) (by decide)), bnd_e, nI_1, ck_t (okI_lt (k := 58) (n := 2 * x + 1) (L := 80) rfl rfl (by omega) (by decide)), n4096, ck_t (okI_lt (k := 59) (n := 4096 + 64 * p + q) (L := 8192) rfl rfl (by omega) (by decide)), bnd_e, nI_c (n := 2 * x) (by omega), nI_c (n := 64 * p + q) (by omega), nI_c (n := 2 * x + 1) (by omega), nI_c (n := 4096 + 64 * p + q) (by omega), gI_cell _ _ _ _ (by decide), v1, show gI υ 58 (2 * x) = _ from v0]
  · rw [gI_sI]
    by_cases y : i = 4096 + 64 * p + q
    · rw [if_pos ⟨rfl, y⟩, if_pos y]
    · rw [if_neg (fun w => y w.2), if_neg y, gI_sI]
      by_cases y2 : i = 64 * p + q
      · rw [if_pos ⟨rfl, y2⟩, if_pos y2]
      · rw [if_neg (fun w => y2 w.2), if_neg y2, e2.i (by decide), f3.i (by decide)]
  · exact (((f3.less (fun c hc => hc.2.2)).tr (e2.less (fun c hc => hc.1))).tr (sm_sI _ _ _ (fun w => w.2.1 rfl))).tr (sm_sI _ _ _ (fun w => w.2.1 rfl))
