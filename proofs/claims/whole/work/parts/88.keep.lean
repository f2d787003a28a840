/-! points: the class keeps those of one game -/
theorem f_fillJ (σ : gS) {k L : Nat} (hk : oaJ k = true) (hL : kLen k = L) (hl : L < 1000) (v : Int64) : ∃ τ, f_Ar_fillJ σ k v = some τ ∧ (∀ i, i < L → gL τ k i = v) ∧ sm (fun c => c ≠ k) σ τ := by
  unfold f_Ar_fillJ b_Ar_fillJ_0
  rw [ck_t hk, bnd_e, hL]
  let I : Nat → (Nat × Int64 × Int32 × Int32 × gS) → Prop := fun i x => ∃ υ : gS, x = (k, v, nI i, Int32.ofNat L, υ) ∧ (∀ j, j < i → gL υ k j = v) ∧ sm (fun c => c ≠ k) σ υ
  have hs : ∀ i, i < L → ∀ x, I i x → ∃ x', I (i + 1) x' ∧ ∀ k, b_Ar_fillJ_6 k x.1 x.2.1 x.2.2.1 x.2.2.2.1 x.2.2.2.2 = k x' := by
    rintro i hi x ⟨υ, rfl, e1, e2⟩
    refine ⟨(k, v, nI (i + 1), Int32.ofNat L, sL υ k i v), ⟨_, rfl, fun j hj => ?_, e2.tr (sm_sL _ _ _ (fun w => w rfl))⟩, fun kk => ?_⟩
    · rw [gL_sL]
      by_cases z : j = i
      · rw [if_pos ⟨rfl, z⟩]
      · rw [if_neg (fun w => z w.2), e1 j (by omega)]
    · show b_Ar_fillJ_6 kk k v (nI i) (nI L) υ = _
      unfold b_Ar_fillJ_6
      rw [if_neg (nI_ge hi (by omega)), ck_t (okJ_lt (n := i) hk hL hi (by omega)), bnd_e, bnd_e, nI_c (by omega), nI_1]
      rfl
  obtain ⟨x', kk, ⟨υ, rfl, e1, e2⟩, e⟩ := lpF_in I L (k, v, 0, Int32.ofNat L, σ) ⟨σ, rfl, fun j hj => absurd hj (Nat.not_lt_zero j), sm_rf _ _⟩ hs hl
  refine ⟨υ, ?_, e1, e2⟩
  unfold l_Ar_fillJ_6
  refine e.trans ?_
  show b_Ar_fillJ_6 kk k v (nI L) (nI L) υ = _
  unfold b_Ar_fillJ_6
  rw [if_pos (nI_le (Nat.le_refl _) (by omega))]
theorem ok32 {pl p : Nat} (hpl : pl < 2) (hp : p < 64) : okI (31 + 1 + pl) (nI p) = true := by
  rcases (show pl = 0 ∨ pl = 1 by omega) with rfl | rfl
  · exact okI_lt (k := 32) (n := p) (L := 64) rfl rfl hp (by decide)
  · exact okI_lt (k := 33) (n := p) (L := 64) rfl rfl hp (by decide)
theorem ok29 {pl p : Nat} (hpl : pl < 2) (hp : p < 64) : okI (28 + 1 + pl) (nI p) = true := by
  rcases (show pl = 0 ∨ pl = 1 by omega) with rfl | rfl
  · exact okI_lt (k := 29) (n := p) (L := 64) rfl rfl hp (by decide)
  · exact okI_lt (k := 30) (n := p) (L := 64) rfl rfl hp (by decide)
theorem po_inner {σ : gS} {F : Fr} (h : WF F) (hc : CR σ F) {m pl : Nat} (hm : m < jn F) (hb : bl F (jn F - 1) m = true) (hpl : pl < 2) : ∃ τ, f_Po_findInner σ (nI pl) (nI m) = some (nI (pls F (jn F - 1) pl), τ) ∧ (∀ p, p < pls F (jn F - 1) pl → gI τ (31 + 1 + pl) p = nI (ip F m pl p)) ∧ sm (fun c => c ≠ 31 + 1 + pl) σ τ := by
  have hl := h.1.1
  have hn := nb_le (nb_F h (m := jn F - 1) (by omega)) hpl
  let I : Nat → (Int32 × Int32 × Int32 × Int32 × gS) → Prop := fun i x => ∃ υ : gS, x = (nI pl, nI m, nI (pls F (jn F - 1) pl), nI i, υ) ∧ (∀ p, p < i → gI υ (31 + 1 + pl) p = nI (ip F m pl p)) ∧ sm (fun c => c ≠ 31 + 1 + pl) σ υ
  have hs : ∀ i, i < pls F (jn F - 1) pl → ∀ x, I i x → ∃ x', I (i + 1) x' ∧ ∀ k, b_Po_findInner_12 k x.1 x.2.1 x.2.2.1 x.2.2.2.1 x.2.2.2.2 = k x' := by
    rintro i hi x ⟨υ, rfl, e1, e2⟩
    have hcυ : CR υ F := CB_sm e2 (fun c hc => by omega) hc
    refine ⟨(nI pl, nI m, nI (pls F (jn F - 1) pl), nI (i + 1), sI υ (31 + 1 + pl) i (nI (ip F m pl i))), ⟨_, rfl, fun p hp => ?_, e2.tr (sm_sI _ _ _ (fun w => w rfl))⟩, fun k => ?_⟩
    · rw [gI_sI]
      by_cases w : p = i
      · rw [if_pos ⟨rfl, w⟩, w]
      · rw [if_neg (fun y => w y.2), e1 p (by omega)]
    · show b_Po_findInner_12 k (nI pl) (nI m) (nI (pls F (jn F - 1) pl)) (nI i) υ = _
      unfold b_Po_findInner_12
      rw [if_neg (nI_ge hi (by omega)), ck_t (inb_nI hpl (by decide)), fo_planFrom h hcυ (by omega) hm (sub_of h hb) hpl (by omega), Option.bind_some, nI_c (n := pl) (by omega), ck_t (ok32 hpl (by omega)), bnd_e, bnd_e, nI_c (n := i) (by omega), nI_1]
      rfl
  obtain ⟨x', k, ⟨υ, rfl, e1, e2⟩, e⟩ := lpF_in I (pls F (jn F - 1) pl) (nI pl, nI m, nI (pls F (jn F - 1) pl), 0, σ) ⟨σ, rfl, fun p hp => absurd hp (Nat.not_lt_zero p), sm_rf _ _⟩ hs (by omega)
  refine ⟨υ, ?_, e1, e2⟩
  unfold f_Po_findInner b_Po_findInner_0
  rw [fo_plansOf h hc (by omega) hpl, Option.bind_some]
  unfold l_Po_findInner_12
  refine e.trans ?_
  show b_Po_findInner_12 k (nI pl) (nI m) (nI (pls F (jn F - 1) pl)) (nI (pls F (jn F - 1) pl)) υ = _
  unfold b_Po_findInner_12
  rw [if_pos (nI_le (Nat.le_refl _) (by omega))]
theorem po_best {σ : gS} {n : Nat → Nat} {T : Tb} (h : VC σ n T) (hn : nb n) {pl : Nat} (hpl : pl < 2) : ∃ τ, f_Po_findBest σ (nI pl) = some τ ∧ (∀ q, q < n (1 - pl) → gI τ (28 + 1 + pl) q = va T pl (amx (fun a => va T pl a q) (n pl)) q) ∧ sm (fun c => c ≠ 28 + 1 + pl) σ τ := by
  have hb := nb_le hn hpl
  have hb' := nb_le hn (show 1 - pl < 2 by omega)
  let I : Nat → (Int32 × Int32 × gS) → Prop := fun i x => ∃ υ : gS, x = (nI pl, nI i, υ) ∧ (∀ q, q < i → gI υ (28 + 1 + pl) q = va T pl (amx (fun a => va T pl a q) (n pl)) q) ∧ sm (fun c => c ≠ 28 + 1 + pl) σ υ
  have hs : ∀ i, i < n (1 - pl) → ∀ x, I i x → ∃ x', I (i + 1) x' ∧ ∀ k, b_Po_findBest_2 k x.1 x.2.1 x.2.2 = k x' := by
    rintro i hi x ⟨υ, rfl, e1, e2⟩
    have hv : VC υ n T := VC_s e2 (by show 17 ≠ 28 + 1 + pl; omega) (by show 19 ≠ 28 + 1 + pl; omega) (by show 20 ≠ 28 + 1 + pl; omega) h
    refine ⟨(nI pl, nI (i + 1), sI υ (28 + 1 + pl) i (va T pl (amx (fun a => va T pl a i) (n pl)) i)), ⟨_, rfl, fun q hq => ?_, e2.tr (sm_sI _ _ _ (fun w => w rfl))⟩, fun k => ?_⟩
    · rw [gI_sI]
      by_cases w : q = i
      · rw [if_pos ⟨rfl, w⟩, w]
      · rw [if_neg (fun y => w y.2), e1 q (by omega)]
    · show b_Po_findBest_2 k (nI pl) (nI i) υ = _
      unfold b_Po_findBest_2
      rw [f_otherThan, Option.bind_some, ot_pl hpl, ck_t (ok17 (by omega)), nI_c (n := 1 - pl) (by omega), c_n hv (by omega), if_neg (nI_ge hi (by omega)), ck_t (inb_nI hpl (by decide)), c_best hv hn hpl hi, Option.bind_some, c_value hv hn hpl (amx_lt _ hb.1) hi, Option.bind_some, nI_c (n := pl) (by omega), ck_t (ok29 hpl (by omega)), bnd_e, bnd_e, nI_c (n := i) (by omega), nI_1]
  obtain ⟨x', k, ⟨υ, rfl, e1, e2⟩, e⟩ := lpF_in I (n (1 - pl)) (nI pl, 0, σ) ⟨σ, rfl, fun p hp => absurd hp (Nat.not_lt_zero p), sm_rf _ _⟩ hs (by omega)
  refine ⟨υ, ?_, e1, e2⟩
  have hv : VC υ n T := VC_s e2 (by show 17 ≠ 28 + 1 + pl; omega) (by show 19 ≠ 28 + 1 + pl; omega) (by show 20 ≠ 28 + 1 + pl; omega) h
  unfold f_Po_findBest b_Po_findBest_0 l_Po_findBest_2
  refine e.trans ?_
  show b_Po_findBest_2 k (nI pl) (nI (n (1 - pl))) υ = _
  unfold b_Po_findBest_2
  rw [f_otherThan, Option.bind_some, ot_pl hpl, ck_t (ok17 (by omega)), nI_c (n := 1 - pl) (by omega), c_n hv (by omega), if_pos (nI_le (Nat.le_refl _) (by omega))]
theorem po_is {σ : gS} {n : Nat → Nat} {T : Tb} (h : VC σ n T) (hn : nb n) (h29 : ∀ q, q < n 1 → gI σ 29 q = va T 0 (amx (fun a => va T 0 a q) (n 0)) q) (h30 : ∀ p, p < n 0 → gI σ 30 p = va T 1 (amx (fun a => va T 1 a p) (n 1)) p) {p q : Nat} (hp : p < n 0) (hq : q < n 1) : f_Po_isPoint σ (nI p) (nI q) = some (bi (ptB T n p q)) := by
  have hb0 := nb_le hn (pl := 0) (by decide)
  have hb1 := nb_le hn (pl := 1) (by decide)
  unfold f_Po_isPoint b_Po_isPoint_0 ptB
  rw [show f_Ta_value σ 0 (nI p) (nI q) = _ from c_value h hn (pl := 0) (by decide) hp hq, Option.bind_some, ck_t (show inb 0 2 = true from rfl), ck_t (okI_lt (k := 29) (n := q) (L := 64) rfl rfl (by omega) (by decide)), nI_c (n := q) (by omega), h29 q hq]
  by_cases w : va T 0 p q = va T 0 (amx (fun a => va T 0 a q) (n 0)) q
  · rw [if_pos w, show f_Ta_value σ 1 (nI q) (nI p) = _ from c_value h hn (pl := 1) (by decide) hq hp, Option.bind_some, ck_t (show inb 1 2 = true from rfl), ck_t (okI_lt (k := 30) (n := p) (L := 64) rfl rfl (by omega) (by decide)), nI_c (n := p) (by omega), h30 p hp]
    by_cases v : va T 1 q p = va T 1 (amx (fun a => va T 1 a p) (n 1)) p
    · rw [if_pos v, decide_eq_true v, decide_eq_true w]
      rfl
    · rw [if_neg v, decide_eq_false v]
      rfl
  · rw [if_neg w, decide_eq_false w, Bool.and_false]
    rfl
/-- the rows of a place hold the pairs of P -/
def RW (σ : gS) (F : Fr) (k : Nat) (P : Nat → Nat → Bool) : Prop := ∀ p, p < pls F (jn F - 1) 0 → ∀ q, q < 64 → tb (gL σ k p) q = (decide (q < pls F (jn F - 1) 1) && P p q)
theorem ok25 {k p : Nat} (hk : k = 25 ∨ k = 26) (hp : p < 64) : okJ k (nI p) = true := by
  rcases hk with rfl | rfl
  · exact okJ_lt (k := 25) (n := p) (L := 64) rfl rfl hp (by decide)
  · exact okJ_lt (k := 26) (n := p) (L := 64) rfl rfl hp (by decide)
/-- the pair (p', q') comes before (p, q) -/
def bef (p q p' q' : Nat) : Bool := decide (p' < p) || (decide (p' = p) && decide (q' < q))
theorem bef_s {p q p' q' : Nat} (h : ¬ (p' = p ∧ q' = q)) : bef p (q + 1) p' q' = bef p q p' q' := by
  unfold bef
  by_cases e : p' = p
  · rw [show decide (q' < q + 1) = decide (q' < q) from by
      by_cases v : q' < q
      · rw [decide_eq_true v, decide_eq_true (by omega)]
      · rw [decide_eq_false v, decide_eq_false (fun w => h ⟨e, by omega⟩)]]
  · rw [decide_eq_false e, Bool.false_and, Bool.false_and]
theorem po_rows {σ : gS} {F : Fr} (h : WF F) {m : Nat} (hm : m < jn F) (hb : bl F (jn F - 1) m = true) {k : Nat} (hk : k = 25 ∨ k = 26) {P : Nat → Nat → Bool} (hv : VC σ (pls F m) (tF F m)) (h29 : ∀ q, q < pls F m 1 → gI σ 29 q = va (tF F m) 0 (amx (fun a => va (tF F m) 0 a q) (pls F m 0)) q) (h30 : ∀ p, p < pls F m 0 → gI σ 30 p = va (tF F m) 1 (amx (fun a => va (tF F m) 1 a p) (pls F m 1)) p)
    (h32 : ∀ p, p < pls F (jn F - 1) 0 → gI σ 32 p = nI (ip F m 0 p)) (h33 : ∀ q, q < pls F (jn F - 1) 1 → gI σ 33 q = nI (ip F m 1 q)) (hR : RW σ F k P) :
    ∃ τ, l_Po_keepPoints_36 (k, nI (pls F (jn F - 1) 0), nI (pls F (jn F - 1) 1), 0, σ) = some τ ∧ RW τ F k (fun p q => P p q && ptB (tM F m) (pls F (jn F - 1)) p q) ∧ sm (fun c => c ≠ k) σ τ := by
  have hn := nb_F h hm
  obtain ⟨⟨-, n0⟩, ⟨-, n1⟩⟩ := nb_F h (m := jn F - 1) (by omega)
  let A : Nat → Nat → gS → Prop := fun p q υ => (∀ p', p' < pls F (jn F - 1) 0 → ∀ q', q' < 64 → tb (gL υ k p') q' = (decide (q' < pls F (jn F - 1) 1) && (P p' q' && (!bef p q p' q' || ptB (tM F m) (pls F (jn F - 1)) p' q')))) ∧ sm (fun c => c ≠ k) σ υ
  let J : Nat → (Nat × Int32 × Int32 × Int32 × gS) → Prop := fun p x => ∃ υ : gS, x = (k, nI (pls F (jn F - 1) 0), nI (pls F (jn F - 1) 1), nI p, υ) ∧ A p 0 υ
  have hsJ : ∀ p, p < pls F (jn F - 1) 0 → ∀ x, J p x → ∃ x', J (p + 1) x' ∧ ∀ kk, b_Po_keepPoints_36 kk x.1 x.2.1 x.2.2.1 x.2.2.2.1 x.2.2.2.2 = kk x' := by
    rintro p hp x ⟨υ, rfl, hA⟩
    let I : Nat → (Nat × Int32 × Int32 × Int32 × Int32 × gS) → Prop := fun q x => ∃ υ : gS, x = (k, nI (pls F (jn F - 1) 0), nI (pls F (jn F - 1) 1), nI p, nI q, υ) ∧ A p q υ
    have hsI : ∀ q, q < pls F (jn F - 1) 1 → ∀ x, I q x → ∃ x', I (q + 1) x' ∧ ∀ k36 kk, b_Po_keepPoints_45 k36 kk x.1 x.2.1 x.2.2.1 x.2.2.2.1 x.2.2.2.2.1 x.2.2.2.2.2 = kk x' := by
      rintro q hq x ⟨υ, rfl, a1, a2⟩
      have hvυ : VC υ (pls F m) (tF F m) := VC_s a2 (by show 17 ≠ k; omega) (by show 19 ≠ k; omega) (by show 20 ≠ k; omega) hv
      have hbit : tb (gL υ k p) q = P p q := by
        rw [a1 p hp q (by omega), decide_eq_true hq]
        unfold bef
        simp
      have hpt : f_Po_isPoint υ (nI (ip F m 0 p)) (nI (ip F m 1 q)) = some (bi (ptB (tM F m) (pls F (jn F - 1)) p q)) := by
        rw [po_is hvυ hn (fun q hq => by rw [a2.i (by show 29 ≠ k; omega), h29 q hq]) (fun p hp => by rw [a2.i (by show 30 ≠ k; omega), h30 p hp]) (ip_lt h m 0 p) (ip_lt h m 1 q), ptB_ip h hm hb]
      have head : ∀ k36 kk, b_Po_keepPoints_45 k36 kk k (nI (pls F (jn F - 1) 0)) (nI (pls F (jn F - 1) 1)) (nI p) (nI q) υ = if bi (P p q) = 0 then b_Po_keepPoints_104 k36 kk k (nI (pls F (jn F - 1) 0)) (nI (pls F (jn F - 1) 1)) (nI p) (nI q) υ else if bi (ptB (tM F m) (pls F (jn F - 1)) p q) = 0 then b_Po_keepPoints_104 k36 kk k (nI (pls F (jn F - 1) 0)) (nI (pls F (jn F - 1) 1)) (nI p) (nI q) (sL υ k p (gL υ k p &&& (((1 : Int64) <<< ((nI q).toInt64 &&& 63)) ^^^ (-1)))) else b_Po_keepPoints_104 k36 kk k (nI (pls F (jn F - 1) 0)) (nI (pls F (jn F - 1) 1)) (nI p) (nI q) υ := fun k36 kk => by
        unfold b_Po_keepPoints_45
        rw [if_neg (nI_ge hq (by omega)), ck_t (ok25 hk (by omega)), nI_c (n := p) (by omega), nI_c (n := q) (by omega), f_hasBit _ (by omega), Option.bind_some, hbit, ck_t (show inb 0 2 = true from rfl), ck_t (okI_lt (k := 32) (n := p) (L := 64) rfl rfl (by omega) (by decide)), ck_t (show inb 1 2 = true from rfl), ck_t (okI_lt (k := 33) (n := q) (L := 64) rfl rfl (by omega) (by decide)), a2.i (by show 32 ≠ k; omega), h32 p hp, a2.i (by show 33 ≠ k; omega), h33 q hq, hpt, Option.bind_some, ck_t (ok25 hk (by omega)), ck_t (ok25 hk (by omega)), bnd_e]
      have e104 : ∀ k36 kk ρ, b_Po_keepPoints_104 k36 kk k (nI (pls F (jn F - 1) 0)) (nI (pls F (jn F - 1) 1)) (nI p) (nI q) ρ = kk (k, nI (pls F (jn F - 1) 0), nI (pls F (jn F - 1) 1), nI p, nI (q + 1), ρ) := fun k36 kk ρ => by
        unfold b_Po_keepPoints_104
        rw [bnd_e, nI_1]
      have hself : bef p (q + 1) p q = true := by
        unfold bef
        simp
      have hselfn : bef p q p q = false := by
        unfold bef
        simp
      -- nothing is taken away
      have keep : (P p q = true → ptB (tM F m) (pls F (jn F - 1)) p q = true) → A p (q + 1) υ := fun w => ⟨fun p' hp' q' hq' => by
        rw [a1 p' hp' q' hq']
        by_cases y : p' = p ∧ q' = q
        · rw [y.1, y.2, hself, hselfn]
          cases u : P p q with
          | false => rfl
          | true => rw [w u]; rfl
        · rw [bef_s y], a2⟩
      by_cases u : P p q = true
      · by_cases v : ptB (tM F m) (pls F (jn F - 1)) p q = true
        · refine ⟨_, ⟨υ, rfl, keep (fun _ => v)⟩, fun k36 kk => ?_⟩
          show b_Po_keepPoints_45 k36 kk k (nI (pls F (jn F - 1) 0)) (nI (pls F (jn F - 1) 1)) (nI p) (nI q) υ = _
          rw [head, if_neg (bi_ne u), if_neg (bi_ne v), e104]
        · refine ⟨_, ⟨sL υ k p (gL υ k p &&& (((1 : Int64) <<< ((nI q).toInt64 &&& 63)) ^^^ (-1))), rfl, fun p' hp' q' hq' => ?_, a2.tr (sm_sL _ _ _ (fun w => w rfl))⟩, fun k36 kk => ?_⟩
          · rw [gL_sL]
            have v' : ptB (tM F m) (pls F (jn F - 1)) p q = false := by simpa using v
            by_cases y : p' = p
            · rw [if_pos ⟨rfl, y⟩, tb_and, tb_xor, tb_one (by omega), tb_m1 q' hq', y, a1 p hp q' hq']
              by_cases y2 : q' = q
              · rw [y2, hself, v', decide_eq_true (show q = q from rfl)]
                simp
              · rw [bef_s (fun w => y2 w.2), decide_eq_false y2]
                simp
            · rw [if_neg (fun w => y w.2), a1 p' hp' q' hq', bef_s (fun w => y w.1)]
          · show b_Po_keepPoints_45 k36 kk k (nI (pls F (jn F - 1) 0)) (nI (pls F (jn F - 1) 1)) (nI p) (nI q) υ = _
            rw [head, if_neg (bi_ne u), if_pos (bi_eq v), e104]
      · refine ⟨_, ⟨υ, rfl, keep (fun w => absurd w u)⟩, fun k36 kk => ?_⟩
        show b_Po_keepPoints_45 k36 kk k (nI (pls F (jn F - 1) 0)) (nI (pls F (jn F - 1) 1)) (nI p) (nI q) υ = _
        rw [head, if_pos (bi_eq u), e104]
    obtain ⟨x', ⟨υ', rfl, a1, a2⟩, e⟩ := lpF_in2 (body := fun k36 kk (x : Nat × Int32 × Int32 × Int32 × Int32 × gS) => b_Po_keepPoints_45 k36 kk x.1 x.2.1 x.2.2.1 x.2.2.2.1 x.2.2.2.2.1 x.2.2.2.2.2) I (pls F (jn F - 1) 1) (k, nI (pls F (jn F - 1) 0), nI (pls F (jn F - 1) 1), nI p, 0, υ) ⟨υ, rfl, hA⟩ hsI (by omega)
    refine ⟨(k, nI (pls F (jn F - 1) 0), nI (pls F (jn F - 1) 1), nI (p + 1), υ'), ⟨υ', rfl, fun p' hp' q' hq' => ?_, a2⟩, fun kk => ?_⟩
    · rw [a1 p' hp' q' hq']
      by_cases y : q' < pls F (jn F - 1) 1
      · rw [show bef p (pls F (jn F - 1) 1) p' q' = bef (p + 1) 0 p' q' from by
          unfold bef
          refine b_of ?_
          simp only [Bool.or_eq_true, Bool.and_eq_true, decide_eq_true_eq]
          omega]
      · rw [decide_eq_false y, Bool.false_and, Bool.false_and]
    · show b_Po_keepPoints_36 kk k (nI (pls F (jn F - 1) 0)) (nI (pls F (jn F - 1) 1)) (nI p) υ = _
      unfold b_Po_keepPoints_36
      rw [if_neg (nI_ge hp (by omega))]
      obtain ⟨kk', ek⟩ := e kk
      unfold l_Po_keepPoints_45
      refine ek.trans ?_
      show b_Po_keepPoints_45 kk kk' k (nI (pls F (jn F - 1) 0)) (nI (pls F (jn F - 1) 1)) (nI p) (nI (pls F (jn F - 1) 1)) υ' = _
      unfold b_Po_keepPoints_45
      rw [if_pos (nI_le (Nat.le_refl _) (by omega)), bnd_e, nI_1]
  obtain ⟨x', kk, ⟨τ, rfl, t1, t2⟩, e⟩ := lpF_in J (pls F (jn F - 1) 0) (k, nI (pls F (jn F - 1) 0), nI (pls F (jn F - 1) 1), 0, σ) ⟨σ, rfl, fun p' hp' q' hq' => by
    rw [hR p' hp' q' hq']
    unfold bef
    simp, sm_rf _ _⟩ hsJ (by omega)
  refine ⟨τ, ?_, fun p hp q hq => ?_, t2⟩
  · unfold l_Po_keepPoints_36
    refine e.trans ?_
    show b_Po_keepPoints_36 kk k (nI (pls F (jn F - 1) 0)) (nI (pls F (jn F - 1) 1)) (nI (pls F (jn F - 1) 0)) τ = _
    unfold b_Po_keepPoints_36
    rw [if_pos (nI_le (Nat.le_refl _) (by omega))]
  · rw [t1 p hp q hq, show bef (pls F (jn F - 1) 0) 0 p q = true from by unfold bef; rw [decide_eq_true hp]; rfl]
    rfl
