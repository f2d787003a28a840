/-! points: the class finds them -/
noncomputable def sta (F : Fr) (pf : Bool) (j : Nat) : Bool := if pf = true then gm F j else decide (j = jn F - 1)
theorem sta_bl {F : Fr} {pf : Bool} {j : Nat} (h : sta F pf j = true) : bl F (jn F - 1) j = true := by
  unfold sta at h
  split at h
  · rcases (gm_iff F j).mp h with e | e
    · rw [e]; exact bl_self F _
    · exact e.1
  · rw [decide_eq_true_eq] at h
    rw [h]; exact bl_self F _
noncomputable def PTi (F : Fr) (pf : Bool) (i p q : Nat) : Bool := allB (fun m => !sta F pf m || ptB (tM F m) (pls F (jn F - 1)) p q) i
/-- the pairs that are points; perfect ones -/
noncomputable def PT (F : Fr) (pf : Bool) (p q : Nat) : Bool := PTi F pf (jn F) p q
def ix (pf : Bool) : Nat := if pf = true then 1 else 0
theorem ix_lt (pf : Bool) : ix pf < 2 := by cases pf <;> decide
theorem RW_s {σ τ : gS} {F : Fr} {k : Nat} {P : Nat → Nat → Bool} {C : Nat → Prop} (hs : sm C σ τ) (hk : C k) (h : RW σ F k P) : RW τ F k P := fun p hp q hq => by rw [hs.l hk]; exact h p hp q hq
theorem po_keep {σ : gS} {F : Fr} (h : WF F) (hc : CR σ F) {m : Nat} (hm : m < jn F) (hb : bl F (jn F - 1) m = true) {k : Nat} (hk : k = 25 ∨ k = 26) {P : Nat → Nat → Bool} (h22 : S0 σ) (ht : TC σ F) (hR : RW σ F k P) :
    ∃ τ, f_Po_keepPoints σ (nI m) k = some τ ∧ RW τ F k (fun p q => P p q && ptB (tM F m) (pls F (jn F - 1)) p q) ∧ S0 τ ∧ TC τ F ∧ gI τ 16 5 = gI σ 1 2 ∧ sm (fun c => c < 16 ∨ 34 ≤ c ∨ c = 27 ∨ (c = 25 ∧ k = 26) ∨ (c = 26 ∧ k = 25)) σ τ := by
  have hn := nb_F h hm
  obtain ⟨σ1, a1, a2, a3, a4, a5, a6, a7⟩ := ta_fillFrom h hc hm h22 ht
  have hc1 : CR σ1 F := CB_sm a7 (fun c hc => Or.inl (by omega)) hc
  obtain ⟨σ2, b1, b2, b3⟩ := po_inner h hc1 hm hb (pl := 0) (by decide)
  have hc2 : CR σ2 F := CB_sm b3 (fun c hc => by omega) hc1
  obtain ⟨σ3, c1, c2, c3⟩ := po_inner h hc2 hm hb (pl := 1) (by decide)
  have hv3 : VC σ3 (pls F m) (tF F m) := VC_s c3 (by decide) (by decide) (by decide) (VC_s b3 (by decide) (by decide) (by decide) (TB_VC a2))
  obtain ⟨σ4, d1, d2, d3⟩ := po_best hv3 hn (pl := 0) (by decide)
  have hv4 : VC σ4 (pls F m) (tF F m) := VC_s d3 (by decide) (by decide) (by decide) hv3
  obtain ⟨σ5, e1, e2, e3⟩ := po_best hv4 hn (pl := 1) (by decide)
  have hv5 : VC σ5 (pls F m) (tF F m) := VC_s e3 (by decide) (by decide) (by decide) hv4
  have hR5 : RW σ5 F k P := RW_s e3 (show k ≠ 28 + 1 + 1 by omega) (RW_s d3 (show k ≠ 28 + 1 + 0 by omega) (RW_s c3 (show k ≠ 31 + 1 + 1 by omega) (RW_s b3 (show k ≠ 31 + 1 + 0 by omega) (RW_s a7 (show k < 16 ∨ 23 ≤ k by omega) hR))))
  obtain ⟨τ, f1, f2, f3⟩ := po_rows h hm hb hk hv5 (fun q hq => by rw [e3.i (by decide)]; exact d2 q hq) (fun p hp => e2 p hp) (fun p hp => by rw [e3.i (by decide), d3.i (by decide), c3.i (by decide)]; exact b2 p hp) (fun q hq => by rw [e3.i (by decide), d3.i (by decide)]; exact c2 q hq) hR5
  -- from the table on nothing but rows 29, 30, 32, 33 and the place's changes
  have fr : sm (fun c => c ≠ 32 ∧ c ≠ 33 ∧ c ≠ 29 ∧ c ≠ 30 ∧ c ≠ k) σ1 τ := ((((b3.less (fun c hc => hc.1)).tr (c3.less (fun c hc => hc.2.1))).tr (d3.less (fun c hc => hc.2.2.1))).tr (e3.less (fun c hc => hc.2.2.2.1))).tr (f3.less (fun c hc => hc.2.2.2.2))
  have k16 : ∀ c, c < 23 → c ≠ 32 ∧ c ≠ 33 ∧ c ≠ 29 ∧ c ≠ 30 ∧ c ≠ k := fun c hc => by omega
  refine ⟨τ, ?_, f2, fun i hi => by rw [fr.i (k16 22 (by decide)), a3 i hi], TC_s fr (k16 1 (by decide)) (k16 16 (by decide)) (k16 17 (by decide)) (k16 19 (by decide)) (k16 20 (by decide)) a4, by rw [fr.i (k16 16 (by decide)), a5], (a7.less (fun c hc => ?_)).tr (fr.less (fun c hc => ?_))⟩
  · unfold f_Po_keepPoints b_Po_keepPoints_0
    rw [a1, Option.bind_some, show f_Po_findInner σ1 0 (nI m) = _ from b1, Option.bind_some, bnd_e, show f_Po_findInner σ2 1 (nI m) = _ from c1, Option.bind_some, bnd_e, show f_Po_findBest σ3 0 = _ from d1, Option.bind_some, show f_Po_findBest σ4 1 = _ from e1, Option.bind_some, f1]
  · have : c < 16 ∨ 34 ≤ c ∨ c = 27 ∨ (c = 25 ∧ k = 26) ∨ (c = 26 ∧ k = 25) := hc
    show c < 16 ∨ 23 ≤ c
    omega
  · have : c < 16 ∨ 34 ≤ c ∨ c = 27 ∨ (c = 25 ∧ k = 26) ∨ (c = 26 ∧ k = 25) := hc
    show c ≠ 32 ∧ c ≠ 33 ∧ c ≠ 29 ∧ c ≠ 30 ∧ c ≠ k
    omega
/-- the cache of the points -/
def PC (σ : gS) (F : Fr) (pf : Bool) : Prop := gI σ 27 (ix pf) = gI σ 1 2 → RW σ F (24 + 1 + ix pf) (PT F pf)
def PCF (σ : gS) (F : Fr) : Prop := jn F ≠ 0 → ∀ pf, PC σ F pf
/-- what a question may change on the class's side, when it finds points -/
def PK (σ : gS) (F : Fr) (τ : gS) : Prop := S0 τ ∧ TC τ F ∧ PCF τ F ∧ (gI τ 16 5 = gI σ 16 5 ∨ gI τ 16 5 = gI σ 1 2) ∧ (∀ pf, gI τ 27 (ix pf) = gI σ 27 (ix pf) ∨ gI τ 27 (ix pf) = gI σ 1 2) ∧ sm (fun c => c < 16 ∨ 34 ≤ c) σ τ
theorem PK_rf {σ : gS} {F : Fr} (h1 : S0 σ) (h2 : TC σ F) (h3 : PCF σ F) : PK σ F σ := ⟨h1, h2, h3, Or.inl rfl, fun _ => Or.inl rfl, sm_rf _ _⟩
theorem f_place (pf : Bool) : f_Po_placeOf (bi pf) = some (nI (ix pf)) := by cases pf <;> rfl
theorem ix_ne {pf pf' : Bool} (h : pf' ≠ pf) : ix pf' ≠ ix pf := by
  cases pf <;> cases pf' <;> first | exact absurd rfl h | decide
theorem po_loop {σ : gS} {F : Fr} (h : WF F) (hc : CR σ F) (pf : Bool) (S : Int64) (hS : ∀ j, j < 64 → tb S j = (decide (j < jn F) && sta F pf j)) (h22 : S0 σ) (ht : TC σ F) (hR : RW σ F (24 + 1 + ix pf) (PTi F pf 0)) :
    ∃ τ, b_Po_find_78 (nI (ix pf)) S σ = some τ ∧ RW τ F (24 + 1 + ix pf) (PT F pf) ∧ S0 τ ∧ TC τ F ∧ (gI τ 16 5 = gI σ 16 5 ∨ gI τ 16 5 = gI σ 1 2) ∧ sm (fun c => c < 16 ∨ 34 ≤ c ∨ c = 27 ∨ (c = 25 ∧ ix pf = 1) ∨ (c = 26 ∧ ix pf = 0)) σ τ := by
  have hl := h.1.1
  have hix := ix_lt pf
  let I : Nat → (Int32 × Int64 × Int32 × gS) → Prop := fun i x => ∃ υ : gS, x = (nI (ix pf), S, nI i, υ) ∧ RW υ F (24 + 1 + ix pf) (PTi F pf i) ∧ S0 υ ∧ TC υ F ∧ (gI υ 16 5 = gI σ 16 5 ∨ gI υ 16 5 = gI σ 1 2) ∧ sm (fun c => c < 16 ∨ 34 ≤ c ∨ c = 27 ∨ (c = 25 ∧ ix pf = 1) ∨ (c = 26 ∧ ix pf = 0)) σ υ
  have hs : ∀ i, i < jn F → ∀ x, I i x → ∃ x', I (i + 1) x' ∧ ∀ k, b_Po_find_82 k x.1 x.2.1 x.2.2.1 x.2.2.2 = k x' := by
    rintro i hi x ⟨υ, rfl, e1, e2, e3, e4, e5⟩
    have hcυ : CR υ F := CB_sm e5 (fun c hc => Or.inl (by omega)) hc
    have hbit : tb S i = sta F pf i := by rw [hS i (by omega), decide_eq_true hi, Bool.true_and]
    have head : ∀ k, b_Po_find_82 k (nI (ix pf)) S (nI i) υ = if bi (sta F pf i) = 0 then b_Po_find_115 k (nI (ix pf)) S (nI i) υ else (f_Po_keepPoints υ (nI i) (24 + 1 + ix pf)).bind fun r_5 => b_Po_find_115 k (nI (ix pf)) S (nI i) r_5 := fun k => by
      unfold b_Po_find_82
      rw [hcυ.1.1, if_neg (nI_ge hi (by omega)), f_hasBit _ (by omega), Option.bind_some, hbit, ck_t (inb_nI hix (by decide)), nI_c (n := ix pf) (by omega)]
    have e115 : ∀ k ρ, b_Po_find_115 k (nI (ix pf)) S (nI i) ρ = k (nI (ix pf), S, nI (i + 1), ρ) := fun k ρ => by
      unfold b_Po_find_115
      rw [bnd_e, nI_1]
    have ep : ∀ p q, PTi F pf (i + 1) p q = (PTi F pf i p q && (!sta F pf i || ptB (tM F i) (pls F (jn F - 1)) p q)) := fun p q => rfl
    by_cases w : sta F pf i = true
    · obtain ⟨υ1, f1, f2, f3, f4, f5, f6⟩ := po_keep h hcυ hi (sta_bl w) (k := 24 + 1 + ix pf) (by omega) e2 e3 e1
      have hv : gI υ 1 2 = gI σ 1 2 := e5.i (Or.inl (by decide)) 2
      refine ⟨(nI (ix pf), S, nI (i + 1), υ1), ⟨υ1, rfl, fun p hp q hq => ?_, f3, f4, Or.inr (by rw [f5, hv]), e5.tr (f6.less (fun c hc => ?_))⟩, fun k => ?_⟩
      · rw [f2 p hp q hq, ep, w, Bool.not_true, Bool.false_or]
      · have : c < 16 ∨ 34 ≤ c ∨ c = 27 ∨ (c = 25 ∧ ix pf = 1) ∨ (c = 26 ∧ ix pf = 0) := hc
        show c < 16 ∨ 34 ≤ c ∨ c = 27 ∨ (c = 25 ∧ 24 + 1 + ix pf = 26) ∨ (c = 26 ∧ 24 + 1 + ix pf = 25)
        omega
      · show b_Po_find_82 k (nI (ix pf)) S (nI i) υ = _
        rw [head, if_neg (bi_ne w), f1, Option.bind_some, e115]
    · refine ⟨(nI (ix pf), S, nI (i + 1), υ), ⟨υ, rfl, fun p hp q hq => ?_, e2, e3, e4, e5⟩, fun k => ?_⟩
      · have w' : sta F pf i = false := by simpa using w
        rw [e1 p hp q hq, ep, w', Bool.not_false, Bool.true_or, Bool.and_true]
      · show b_Po_find_82 k (nI (ix pf)) S (nI i) υ = _
        rw [head, if_pos (bi_eq w), e115]
  obtain ⟨x', k, ⟨υ, rfl, e1, e2, e3, e4, e5⟩, e⟩ := lpF_in I (jn F) (nI (ix pf), S, 0, σ) ⟨σ, rfl, hR, h22, ht, Or.inl rfl, sm_rf _ _⟩ hs (by omega)
  refine ⟨υ, ?_, e1, e2, e3, e4, e5⟩
  unfold b_Po_find_78 l_Po_find_82
  refine e.trans ?_
  show b_Po_find_82 k (nI (ix pf)) S (nI (jn F)) υ = _
  have hcυ : CR υ F := CB_sm e5 (fun c hc => Or.inl (by omega)) hc
  unfold b_Po_find_82
  rw [hcυ.1.1, if_pos (nI_le (Nat.le_refl _) (by omega))]
theorem po_find {σ : gS} {F : Fr} (h : WF F) (hc : CR σ F) (z : jn F ≠ 0) (h22 : S0 σ) (ht : TC σ F) (hP : PCF σ F) (pf : Bool) : ∃ τ, f_Po_find σ (bi pf) = some τ ∧ RW τ F (24 + 1 + ix pf) (PT F pf) ∧ PK σ F τ := by
  have hl := h.1.1
  have hix := ix_lt pf
  obtain ⟨⟨-, n0⟩, ⟨m1, n1⟩⟩ := nb_F h (m := jn F - 1) (by omega)
  unfold f_Po_find b_Po_find_0
  have o27 := okI_lt (k := 27) (n := ix pf) (L := 2) rfl rfl hix (by decide)
  rw [f_place, Option.bind_some, ck_t o27, nI_c (n := ix pf) (by omega)]
  by_cases v : gI σ 27 (ix pf) = gI σ 1 2
  · rw [if_pos v]
    exact ⟨σ, rfl, hP z pf v, PK_rf h22 ht hP⟩
  · rw [if_neg v, ck_t o27, bnd_e, ck_t (inb_nI hix (by decide))]
    generalize hσ5 : sI σ 27 (ix pf) (gI σ 1 2) = σ5
    have s5 : sm (fun c => c ≠ 27) σ σ5 := by
      rw [← hσ5]
      exact sm_sI _ _ _ (fun w => w rfl)
    have hc5 : CR σ5 F := CB_sm s5 (fun c hc => by omega) hc
    obtain ⟨y, y1, y2⟩ := f_firstBits m1 n1
    obtain ⟨σ6, g1, g2, g3⟩ := f_fillJ σ5 (k := 24 + 1 + ix pf) (L := 64) (by cases pf <;> rfl) (by cases pf <;> rfl) (by decide) y
    have hc6 : CR σ6 F := CB_sm g3 (fun c hc => by omega) hc5
    have s6 : sm (fun c => c ≠ 27 ∧ c ≠ 24 + 1 + ix pf) σ σ6 := (s5.less (fun c hc => hc.1)).tr (g3.less (fun c hc => hc.2))
    have k6 : ∀ c, c < 23 → c ≠ 27 ∧ c ≠ 24 + 1 + ix pf := fun c hc => by omega
    have h226 : S0 σ6 := fun i hi => by rw [s6.i (k6 22 (by decide)), h22 i hi]
    have ht6 : TC σ6 F := TC_s s6 (k6 1 (by decide)) (k6 16 (by decide)) (k6 17 (by decide)) (k6 19 (by decide)) (k6 20 (by decide)) ht
    have hR6 : RW σ6 F (24 + 1 + ix pf) (PTi F pf 0) := fun p hp q hq => by
      rw [g2 p (by omega), y2 q hq]
      show _ = (_ && true)
      rw [Bool.and_true]
    have hgo : ∃ S, (∀ j, j < 64 → tb S j = (decide (j < jn F) && sta F pf j)) ∧ (if bi pf = 0 then (f_Fo_root σ6).bind fun r_11 => b_Po_find_78 (nI (ix pf)) ((1 : Int64) <<< (r_11.toInt64 &&& 63)) σ6 else (f_Fo_gamesWithin σ6).bind fun r_12 => b_Po_find_78 (nI (ix pf)) r_12 σ6) = b_Po_find_78 (nI (ix pf)) S σ6 := by
      cases pf with
      | false =>
        refine ⟨(1 : Int64) <<< ((nI (jn F - 1)).toInt64 &&& 63), fun j hj => ?_, ?_⟩
        · rw [tb_one (by omega)]
          show _ = (decide (j < jn F) && decide (j = jn F - 1))
          by_cases w : j = jn F - 1
          · rw [decide_eq_true w, decide_eq_true (show j < jn F by omega)]
            rfl
          · rw [decide_eq_false w, Bool.and_false]
        · rw [if_pos (show bi false = 0 from rfl), fo_root hc6 z, Option.bind_some]
      | true =>
        obtain ⟨y, q1, q2⟩ := fo_games h hc6 z
        refine ⟨y, fun j hj => q2 j hj, ?_⟩
        rw [if_neg (show ¬ bi true = 0 by decide), q1, Option.bind_some]
    obtain ⟨S, hS, hE⟩ := hgo
    obtain ⟨τ, t1, t2, t3, t4, t5, t6⟩ := po_loop h hc6 pf S hS h226 ht6 hR6
    rw [show f_Fo_plansOf σ5 1 = _ from fo_plansOf h hc5 z (pl := 1) (by decide), Option.bind_some, y1, Option.bind_some, g1, Option.bind_some, hE, t1]
    have hv6 : gI σ6 1 2 = gI σ 1 2 := s6.i (k6 1 (by decide)) 2
    have hvτ : gI τ 1 2 = gI σ 1 2 := by rw [t6.i (Or.inl (by decide)), hv6]
    have h27 : ∀ pf', gI τ 27 (ix pf') = if pf' = pf then gI σ 1 2 else gI σ 27 (ix pf') := fun pf' => by
      rw [t6.i (Or.inr (Or.inr (Or.inl rfl))), g3.i (show 27 ≠ 24 + 1 + ix pf by omega), ← hσ5]
      by_cases e : pf' = pf
      · rw [if_pos e, e, gI_same]
      · rw [if_neg e, gI_place _ _ _ (ix_ne e)]
    refine ⟨τ, rfl, t2, t3, t4, fun _ pf' e => ?_, ?_, fun pf' => ?_, (s6.less (fun c hc => ?_)).tr (t6.less (fun c hc => ?_))⟩
    · by_cases w : pf' = pf
      · rw [w]; exact t2
      · rw [h27, if_neg w, hvτ] at e
        have hne := ix_ne w
        have hix' := ix_lt pf'
        refine RW_s t6 ?_ (RW_s s6 ?_ (hP z pf' e))
        · show 24 + 1 + ix pf' < 16 ∨ 34 ≤ 24 + 1 + ix pf' ∨ 24 + 1 + ix pf' = 27 ∨ (24 + 1 + ix pf' = 25 ∧ ix pf = 1) ∨ (24 + 1 + ix pf' = 26 ∧ ix pf = 0)
          omega
        · show 24 + 1 + ix pf' ≠ 27 ∧ 24 + 1 + ix pf' ≠ 24 + 1 + ix pf
          omega
    · rcases t5 with w | w
      · exact Or.inl (by rw [w, s6.i (k6 16 (by decide))])
      · exact Or.inr (by rw [w, hv6])
    · rw [h27]
      by_cases w : pf' = pf
      · rw [if_pos w]; exact Or.inr rfl
      · rw [if_neg w]; exact Or.inl rfl
    · have : c < 16 ∨ 34 ≤ c := hc
      show c ≠ 27 ∧ c ≠ 24 + 1 + ix pf
      omega
    · have : c < 16 ∨ 34 ≤ c := hc
      show c < 16 ∨ 34 ≤ c ∨ c = 27 ∨ (c = 25 ∧ ix pf = 1) ∨ (c = 26 ∧ ix pf = 0)
      omega
