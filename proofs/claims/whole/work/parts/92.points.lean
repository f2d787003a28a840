/-! points: the reference; point and count on both sides -/
theorem sta_rt (F : Fr) (pf : Bool) : sta F pf (jn F - 1) = true := by
  unfold sta
  split
  · exact (gm_iff F _).mpr (Or.inl rfl)
  · exact decide_eq_true rfl
theorem PT_rt {F : Fr} (z : jn F ≠ 0) (pf : Bool) (p q : Nat) : PT F pf p q = (PTi F pf (jn F - 1) p q && ptB (tM F (jn F - 1)) (pls F (jn F - 1)) p q) := by
  have e : jn F = (jn F - 1) + 1 := by omega
  unfold PT
  generalize hr : jn F - 1 = r at e ⊢
  rw [e]
  show (PTi F pf r p q && (!sta F pf r || ptB (tM F r) (pls F (jn F - 1)) p q)) = _
  rw [← hr, sta_rt]
  rfl
theorem PTi_no (F : Fr) (p q : Nat) : PTi F false (jn F - 1) p q = true := by
  unfold PTi
  rw [allB_iff]
  intro m hm
  have : sta F false m = false := by
    show (if false = true then gm F m else decide (m = jn F - 1)) = false
    rw [if_neg (by decide), decide_eq_false (by omega)]
  rw [this]
  rfl
theorem mo_find {σ : gS} {F : Fr} (h : WF F) (hm : MR σ F) (z : jn F ≠ 0) (pf : Bool) : ∃ τ, f_Mo_findPoints σ (bi pf) = some τ ∧ ZB τ (pls F (jn F - 1)) (PT F pf) ∧ gI τ 46 16 = nI (pls F (jn F - 1) 0) ∧ gI τ 46 17 = nI (pls F (jn F - 1) 1) ∧ MR τ F ∧ sm (fun c => c < 46) σ τ := by
  have hl := h.1.1
  have hn := nb_F h (m := jn F - 1) (by omega)
  obtain ⟨⟨m0, n0⟩, ⟨m1, n1⟩⟩ := nb_F h (m := jn F - 1) (by omega)
  -- all are put down
  let I0 : Nat → (Int32 × Int32 × gS) → Prop := fun i x => ∃ υ : gS, x = (bi pf, nI i, υ) ∧ (∀ j, j < i → gI υ 61 j = 1) ∧ sm (fun c => c ≠ 61) σ υ
  have hs0 : ∀ i, i < 4096 → ∀ x, I0 i x → ∃ x', I0 (i + 1) x' ∧ ∀ k, b_Mo_findPoints_2 k x.1 x.2.1 x.2.2 = k x' := by
    rintro i hi x ⟨υ, rfl, e1, e2⟩
    refine ⟨(bi pf, nI (i + 1), sI υ 61 i 1), ⟨_, rfl, fun j hj => ?_, e2.tr (sm_sI _ _ _ (fun w => w rfl))⟩, fun k => ?_⟩
    · rw [gI_sI]
      by_cases w : j = i
      · rw [if_pos ⟨rfl, w⟩]
      · rw [if_neg (fun y => w y.2), e1 j (by omega)]
    · show b_Mo_findPoints_2 k (bi pf) (nI i) υ = _
      unfold b_Mo_findPoints_2
      rw [if_neg (show ¬ (4096 : Int32) ≤ nI i from nI_ge (b := 4096) hi (by decide)), ck_t (okZ_lt (k := 61) (n := i) (L := 4096) rfl rfl hi (by decide)), ck_t (show isB 1 = true from rfl), bnd_e, bnd_e, nI_c (n := i) (by omega), nI_1]
  obtain ⟨x', k, ⟨σ1, rfl, a1, a2⟩, e⟩ := lpF_in5 I0 4096 (bi pf, 0, σ) ⟨σ, rfl, fun j hj => absurd hj (Nat.not_lt_zero j), sm_rf _ _⟩ hs0 (by decide)
  have hm1 : MR σ1 F := MR_s a2 (fun c h1 h2 => by show c ≠ 61; omega) hm
  obtain ⟨σ2, b1, b2, b3, b4⟩ := mo_workAll h hm1 (x := jn F - 1) (by omega) (bl_self F _)
  have hm2 := kpM_MR b4 hm1
  have hz2 : ZB σ2 (pls F (jn F - 1)) (fun _ _ => true) := fun p q hp hq => by rw [b4.2.i (Or.inr (Or.inr (by decide))), a1 _ (by omega)]; rfl
  obtain ⟨σ3, c1, c2, c3⟩ := m_sift (MT_VM b2) hn hz2
  have hm3 : MR σ3 F := MR_s c3 (fun c h1 h2 => by show c ≠ 61; omega) hm2
  have ht3 : TR σ3 F := TR_s c3 (by decide) (by decide) b3
  have f3 : sm (fun c => c < 46) σ σ3 := ((a2.less (fun c hc => by have : c < 46 := hc; show c ≠ 61; omega)).tr (kpM_46 b4)).tr (c3.less (fun c hc => by have : c < 46 := hc; show c ≠ 61; omega))
  -- the games within
  let I : Nat → (Int32 × Int32 × gS) → Prop := fun i x => ∃ υ : gS, x = (bi pf, nI i, υ) ∧ ZB υ (pls F (jn F - 1)) (fun p q => ptB (tM F (jn F - 1)) (pls F (jn F - 1)) p q && PTi F true i p q) ∧ gI υ 46 16 = nI (pls F (jn F - 1) 0) ∧ gI υ 46 17 = nI (pls F (jn F - 1) 1) ∧ MR υ F ∧ TR υ F ∧ sm (fun c => c < 46) σ υ
  have hI0 : I 0 (bi pf, 0, σ3) := by
    refine ⟨σ3, rfl, fun p q hp hq => ?_, by rw [c3.i (by decide)]; exact b2.1, by rw [c3.i (by decide)]; exact b2.2.1, hm3, ht3, f3⟩
    rw [c2 p q hp hq]
    show bi (true && ptB (tM F (jn F - 1)) (pls F (jn F - 1)) p q) = bi (ptB (tM F (jn F - 1)) (pls F (jn F - 1)) p q && true)
    rw [Bool.true_and, Bool.and_true]
  have hloop : ∃ τ, l_Mo_findPoints_36 (bi pf, 0, σ3) = some τ ∧ ZB τ (pls F (jn F - 1)) (PT F pf) ∧ gI τ 46 16 = nI (pls F (jn F - 1) 0) ∧ gI τ 46 17 = nI (pls F (jn F - 1) 1) ∧ MR τ F ∧ sm (fun c => c < 46) σ τ := by
    cases pf with
    | false =>
      obtain ⟨υ, q0, q1, q2, q3, q4, q5, q6⟩ := hI0
      have : υ = σ3 := by
        have := congrArg (fun x : Int32 × Int32 × gS => x.2.2) q0
        exact this.symm
      subst this
      refine ⟨υ, ?_, fun p q hp hq => ?_, q2, q3, q4, q6⟩
      · unfold l_Mo_findPoints_36
        rw [lp_gF]
        show b_Mo_findPoints_36 _ (bi false) 0 υ = _
        unfold b_Mo_findPoints_36
        rw [f_moRoot q4 z, Option.bind_some, if_pos (show bi false = 0 from rfl)]
        split <;> rfl
      · rw [q1 p q hp hq, PT_rt z, PTi_no, Bool.true_and]
        show bi (ptB (tM F (jn F - 1)) (pls F (jn F - 1)) p q && true) = _
        rw [Bool.and_true]
    | true =>
      have hs : ∀ i, i < jn F - 1 → ∀ x, I i x → ∃ x', I (i + 1) x' ∧ ∀ k, b_Mo_findPoints_36 k x.1 x.2.1 x.2.2 = k x' := by
        rintro i hi x ⟨υ, rfl, q1, q2, q3, q4, q5, q6⟩
        have head : ∀ k, b_Mo_findPoints_36 k (bi true) (nI i) υ = if bi (gm F i) = 0 then b_Mo_findPoints_65 k (bi true) (nI i) υ else (f_Mo_workAll υ (nI i)).bind fun r_6 => (f_Mo_sift r_6).bind fun r_7 => b_Mo_findPoints_65 k (bi true) (nI i) r_7 := fun k => by
          unfold b_Mo_findPoints_36
          rw [f_moRoot q4 z, Option.bind_some, if_neg (nI_ge hi (by omega)), if_neg (show ¬ bi true = 0 by decide), mo_isGame h q4 q5 (by omega), Option.bind_some]
        have e65 : ∀ k ρ, b_Mo_findPoints_65 k (bi true) (nI i) ρ = k (bi true, nI (i + 1), ρ) := fun k ρ => by
          unfold b_Mo_findPoints_65
          rw [bnd_e, nI_1]
        have ep : ∀ p q, PTi F true (i + 1) p q = (PTi F true i p q && (!gm F i || ptB (tM F i) (pls F (jn F - 1)) p q)) := fun p q => rfl
        by_cases g : gm F i = true
        · obtain ⟨υ1, d1, d2, d3, d4⟩ := mo_workAll h q4 (x := i) (by omega) (sta_bl (pf := true) (show sta F true i = true from g))
          have hmd := kpM_MR d4 q4
          have hzd : ZB υ1 (pls F (jn F - 1)) (fun p q => ptB (tM F (jn F - 1)) (pls F (jn F - 1)) p q && PTi F true i p q) := fun p q hp hq => by rw [d4.2.i (Or.inr (Or.inr (by decide)))]; exact q1 p q hp hq
          obtain ⟨υ2, g1, g2, g3⟩ := m_sift (MT_VM d2) hn hzd
          refine ⟨(bi true, nI (i + 1), υ2), ⟨υ2, rfl, fun p q hp hq => ?_, by rw [g3.i (by decide)]; exact d2.1, by rw [g3.i (by decide)]; exact d2.2.1, MR_s g3 (fun c h1 h2 => by show c ≠ 61; omega) hmd, TR_s g3 (by decide) (by decide) d3, (q6.tr (kpM_46 d4)).tr (g3.less (fun c hc => by have : c < 46 := hc; show c ≠ 61; omega))⟩, fun k => ?_⟩
          · rw [g2 p q hp hq]
            show bi (ptB (tM F (jn F - 1)) (pls F (jn F - 1)) p q && PTi F true i p q && ptB (tM F i) (pls F (jn F - 1)) p q) = bi (ptB (tM F (jn F - 1)) (pls F (jn F - 1)) p q && PTi F true (i + 1) p q)
            rw [ep, g, Bool.not_true, Bool.false_or, Bool.and_assoc]
          · show b_Mo_findPoints_36 k (bi true) (nI i) υ = _
            rw [head, if_neg (bi_ne g), d1, Option.bind_some, g1, Option.bind_some, e65]
        · refine ⟨(bi true, nI (i + 1), υ), ⟨υ, rfl, fun p q hp hq => ?_, q2, q3, q4, q5, q6⟩, fun k => ?_⟩
          · have g' : gm F i = false := by simpa using g
            rw [q1 p q hp hq]
            show bi (ptB (tM F (jn F - 1)) (pls F (jn F - 1)) p q && PTi F true i p q) = bi (ptB (tM F (jn F - 1)) (pls F (jn F - 1)) p q && PTi F true (i + 1) p q)
            rw [ep, g', Bool.not_false, Bool.true_or, Bool.and_true]
          · show b_Mo_findPoints_36 k (bi true) (nI i) υ = _
            rw [head, if_pos (bi_eq g), e65]
      obtain ⟨x', k, ⟨υ, rfl, q1, q2, q3, q4, q5, q6⟩, e⟩ := lpF_in I (jn F - 1) (bi true, 0, σ3) hI0 hs (by omega)
      refine ⟨υ, ?_, fun p q hp hq => ?_, q2, q3, q4, q6⟩
      · unfold l_Mo_findPoints_36
        refine e.trans ?_
        show b_Mo_findPoints_36 k (bi true) (nI (jn F - 1)) υ = _
        unfold b_Mo_findPoints_36
        rw [f_moRoot q4 z, Option.bind_some, if_pos (nI_le (Nat.le_refl _) (by omega))]
      · rw [q1 p q hp hq, PT_rt z, Bool.and_comm]
  obtain ⟨τ, t1, t2, t3, t4, t5, t6⟩ := hloop
  refine ⟨τ, ?_, t2, t3, t4, t5, t6⟩
  unfold f_Mo_findPoints b_Mo_findPoints_0 l_Mo_findPoints_2
  refine e.trans ?_
  show b_Mo_findPoints_2 k (bi pf) (nI 4096) σ1 = _
  unfold b_Mo_findPoints_2
  rw [if_pos (show (4096 : Int32) ≤ nI 4096 from nI_le (a := 4096) (Nat.le_refl _) (by decide)), f_moRoot hm1 z, Option.bind_some, b1, Option.bind_some, c1, Option.bind_some, t1]
theorem Pb_skip {f : Nat → Nat → Bool} {n1 p q : Nat} {k y : Int32} (w : f p q = true → nI (nbr f n1 p q) ≠ k) (h : Pb f n1 k p q y) : Pb f n1 k p (q + 1) y := by
  rcases h with ⟨p', q', a1, a2, a3, a4⟩ | ⟨a1, a2⟩
  · exact Or.inl ⟨p', q', by omega, a2, a3, a4⟩
  · refine Or.inr ⟨fun p' q' hb hf => ?_, a2⟩
    by_cases e : p' = p ∧ q' = q
    · rw [e.1, e.2] at hf ⊢
      exact w hf
    · exact a1 p' q' (by omega) hf
theorem Pb_row {f : Nat → Nat → Bool} {n1 p : Nat} {k y : Int32} (h : Pb f n1 k p n1 y) : Pb f n1 k (p + 1) 0 y := by
  rcases h with ⟨p', q', a1, a2, a3, a4⟩ | ⟨a1, a2⟩
  · exact Or.inl ⟨p', q', by omega, a2, a3, a4⟩
  · exact Or.inr ⟨fun p' q' hb hf => a1 p' q' (by omega) hf, a2⟩
theorem mo_countP {σ : gS} {F : Fr} (h : WF F) (hm : MR σ F) (z : jn F ≠ 0) (pf : Bool) (k : Int32) : ∃ τ, f_Mo_countPoints σ (bi pf) k = some (nI (cS (PT F pf) (pls F (jn F - 1) 1) (pls F (jn F - 1) 0)), τ) ∧ gI τ 46 19 = pnt (PT F pf) (pls F (jn F - 1) 1) k (pls F (jn F - 1) 0) ∧ MR τ F ∧ sm (fun c => c < 46) σ τ := by
  obtain ⟨⟨m0, n0⟩, ⟨m1, n1⟩⟩ := nb_F h (m := jn F - 1) (by omega)
  obtain ⟨σ1, f1, f2, f3, f4, f5, f6⟩ := mo_find h hm z pf
  have hZ : ∀ p q, p < pls F (jn F - 1) 0 → q < pls F (jn F - 1) 1 → gI σ1 61 (64 * p + q) = bi (PT F pf p q) := f2
  generalize hN0 : pls F (jn F - 1) 0 = N0 at *
  generalize hN1 : pls F (jn F - 1) 1 = N1 at *
  generalize hf : PT F pf = f at *
  let A : Nat → Nat → gS → Prop := fun p q υ => Pb f N1 k p q (gI υ 46 19) ∧ (∀ j, j ≠ 19 → gI υ 46 j = gI σ1 46 j) ∧ sm (fun c => c ≠ 46) σ1 υ
  let J : Nat → (Int32 × Int32 × Int32 × gS) → Prop := fun p x => ∃ υ : gS, x = (k, nI (nbr f N1 p 0), nI p, υ) ∧ A p 0 υ
  have hsJ : ∀ p, p < N0 → ∀ x, J p x → ∃ x', J (p + 1) x' ∧ ∀ kk, b_Mo_countPoints_15 kk x.1 x.2.1 x.2.2.1 x.2.2.2 = kk x' := by
    rintro p hp x ⟨υ, rfl, hA⟩
    let I : Nat → (Int32 × Int32 × Int32 × Int32 × gS) → Prop := fun q x => ∃ υ : gS, x = (k, nI (nbr f N1 p q), nI p, nI q, υ) ∧ A p q υ
    have hsI : ∀ q, q < N1 → ∀ x, I q x → ∃ x', I (q + 1) x' ∧ ∀ k15 kk, b_Mo_countPoints_27 k15 kk x.1 x.2.1 x.2.2.1 x.2.2.2.1 x.2.2.2.2 = kk x' := by
      rintro q hq x ⟨υ, rfl, a1, a2, a3⟩
      have head : ∀ k15 kk, b_Mo_countPoints_27 k15 kk k (nI (nbr f N1 p q)) (nI p) (nI q) υ = if bi (f p q) = 0 then b_Mo_countPoints_79 k15 kk k (nI (nbr f N1 p q)) (nI p) (nI q) υ else if nI (nbr f N1 p q) = k then b_Mo_countPoints_73 k15 kk k (nI (nbr f N1 p q)) (nI p) (nI q) (nI (64 * p + q)) υ else b_Mo_countPoints_73 k15 kk k (nI (nbr f N1 p q)) (nI p) (nI q) (gI υ 46 19) υ := fun k15 kk => by
        unfold b_Mo_countPoints_27
        rw [a2 17 (by decide), f4, if_neg (nI_ge hq (by omega)), n64, ck_t (ok61 (by omega) (by omega)), nI_c (n := 64 * p + q) (by omega), a3.i (by decide), hZ p q hp hq]
      have e79 : ∀ k15 kk a ρ, b_Mo_countPoints_79 k15 kk k a (nI p) (nI q) ρ = kk (k, a, nI p, nI (q + 1), ρ) := fun k15 kk a ρ => by
        unfold b_Mo_countPoints_79
        rw [bnd_e, nI_1]
      have e73 : ∀ k15 kk v, b_Mo_countPoints_73 k15 kk k (nI (nbr f N1 p q)) (nI p) (nI q) v υ = kk (k, nI (nbr f N1 p q + 1), nI p, nI (q + 1), sI υ 46 19 v) := fun k15 kk v => by
        unfold b_Mo_countPoints_73
        rw [bnd_e, bnd_e, e79, nI_1]
      by_cases u : f p q = true
      · by_cases v : nI (nbr f N1 p q) = k
        · refine ⟨(k, nI (nbr f N1 p (q + 1)), nI p, nI (q + 1), sI υ 46 19 (nI (64 * p + q))), ⟨_, rfl, Or.inl ⟨p, q, Or.inr ⟨rfl, by omega⟩, u, v, gI_same _ _ _ _⟩, fun j hj => by rw [gI_place _ _ _ hj, a2 j hj], a3.tr (sm_sI _ _ _ (fun w => w rfl))⟩, fun k15 kk => ?_⟩
          show b_Mo_countPoints_27 k15 kk k (nI (nbr f N1 p q)) (nI p) (nI q) υ = _
          rw [head, if_neg (bi_ne u), if_pos v, e73, nbr_s, if_pos u]
        · refine ⟨(k, nI (nbr f N1 p (q + 1)), nI p, nI (q + 1), sI υ 46 19 (gI υ 46 19)), ⟨_, rfl, by rw [gI_same]; exact Pb_skip (fun _ => v) a1, fun j hj => by rw [gI_place _ _ _ hj, a2 j hj], a3.tr (sm_sI _ _ _ (fun w => w rfl))⟩, fun k15 kk => ?_⟩
          show b_Mo_countPoints_27 k15 kk k (nI (nbr f N1 p q)) (nI p) (nI q) υ = _
          rw [head, if_neg (bi_ne u), if_neg v, e73, nbr_s, if_pos u]
      · refine ⟨(k, nI (nbr f N1 p (q + 1)), nI p, nI (q + 1), υ), ⟨υ, rfl, Pb_skip (fun w => absurd w u) a1, a2, a3⟩, fun k15 kk => ?_⟩
        show b_Mo_countPoints_27 k15 kk k (nI (nbr f N1 p q)) (nI p) (nI q) υ = _
        rw [head, if_pos (bi_eq u), e79, nbr_s, if_neg u]
        rfl
    obtain ⟨x', ⟨υ', rfl, a1, a2, a3⟩, e⟩ := lpF_in2 (body := fun k15 kk (x : Int32 × Int32 × Int32 × Int32 × gS) => b_Mo_countPoints_27 k15 kk x.1 x.2.1 x.2.2.1 x.2.2.2.1 x.2.2.2.2) I N1 (k, nI (nbr f N1 p 0), nI p, 0, υ) ⟨υ, rfl, hA⟩ hsI (by omega)
    refine ⟨(k, nI (nbr f N1 (p + 1) 0), nI (p + 1), υ'), ⟨υ', rfl, Pb_row a1, a2, a3⟩, fun kk => ?_⟩
    show b_Mo_countPoints_15 kk k (nI (nbr f N1 p 0)) (nI p) υ = _
    unfold b_Mo_countPoints_15
    rw [hA.2.1 16 (by decide), f3, if_neg (nI_ge hp (by omega))]
    obtain ⟨kk', ek⟩ := e kk
    unfold l_Mo_countPoints_27
    refine ek.trans ?_
    show b_Mo_countPoints_27 kk kk' k (nI (nbr f N1 p N1)) (nI p) (nI N1) υ' = _
    unfold b_Mo_countPoints_27
    rw [a2 17 (by decide), f4, if_pos (nI_le (Nat.le_refl _) (by omega)), bnd_e, nI_1, nbr_end]
  obtain ⟨x', kk, ⟨τ, rfl, t1, t2, t3⟩, e⟩ := lpF_in J N0 (k, 0, 0, sI σ1 46 19 (-1)) ⟨_, rfl, Or.inr ⟨fun p q hb => by omega, gI_same _ _ _ _⟩, fun j hj => gI_place _ _ _ hj, sm_sI _ _ _ (fun w => w rfl)⟩ hsJ (by omega)
  refine ⟨τ, ?_, pnt_eq n1 n0 t1, MR_of f5 (t2 0 (by decide)) (t2 1 (by decide)) (fun c h1 h2 i => t3.i (by show c ≠ 46; omega) i), f6.tr (t3.less (fun c hc => by have : c < 46 := hc; show c ≠ 46; omega))⟩
  unfold f_Mo_countPoints b_Mo_countPoints_0
  rw [f1, Option.bind_some, bnd_e]
  unfold l_Mo_countPoints_15
  refine e.trans ?_
  show b_Mo_countPoints_15 kk k (nI (nbr f N1 N0 0)) (nI N0) τ = _
  unfold b_Mo_countPoints_15
  rw [t2 16 (by decide), f3, if_pos (nI_le (Nat.le_refl _) (by omega))]
  rfl
noncomputable def poiA (F : Fr) (pf : Bool) (k : Int32) : Int32 := cif (jn F = 0) (-1000000) (pnt (PT F pf) (pls F (jn F - 1) 1) k (pls F (jn F - 1) 0))
theorem mo_point {σ : gS} {F : Fr} (h : WF F) (hm : MR σ F) (pf : Bool) (k : Int32) : ∃ τ, f_Mo_point σ (bi pf) k = some (poiA F pf k, τ) ∧ MR τ F ∧ sm (fun c => c < 46) σ τ := by
  unfold f_Mo_point b_Mo_point_0 poiA
  rw [hm.1]
  by_cases z : jn F = 0
  · rw [if_pos ((n_0 h).mpr z), cif_t z]
    exact ⟨σ, rfl, hm, sm_rf _ _⟩
  · obtain ⟨τ, e1, e2, e3, e4⟩ := mo_countP h hm z pf k
    rw [if_neg (fun e => z ((n_0 h).mp e)), cif_f z, e1, Option.bind_some]
    exact ⟨τ, by rw [e2], e3, e4⟩
theorem ga_point {σ : gS} {F : Fr} (h : WF F) (hc : CR σ F) (h22 : S0 σ) (ht : TC σ F) (hP : PCF σ F) (pf : Bool) (k : Int32) : ∃ τ, f_Ga_point σ (bi pf) k = some (poiA F pf k, τ) ∧ PK σ F τ := by
  unfold f_Ga_point b_Ga_point_0 poiA
  rw [f_isEmpty h hc, Option.bind_some]
  by_cases z : jn F = 0
  · rw [if_neg (bi_ne (by simpa using z)), cif_t z]
    exact ⟨σ, rfl, PK_rf h22 ht hP⟩
  · obtain ⟨τ, e1, e2, e3⟩ := po_find h hc z h22 ht hP pf
    have hcτ : CR τ F := CB_sm e3.2.2.2.2.2 (fun c hc => Or.inl (by omega)) hc
    rw [if_pos (bi_eq (by simpa using z)), cif_f z, e1, Option.bind_some, po_at h hcτ z e2 k, Option.bind_some]
    exact ⟨τ, rfl, e3⟩
