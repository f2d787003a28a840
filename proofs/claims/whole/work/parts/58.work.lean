/-! the reference: what plans are worth -/
theorem MR_of {σ τ : gS} {F : Fr} (hm : MR σ F) (h0 : gI τ 46 0 = gI σ 46 0) (h1 : gI τ 46 1 = gI σ 46 1) (hs : ∀ c, 47 ≤ c → c ≤ 55 → ∀ i, gI τ c i = gI σ c i) : MR τ F := by
  obtain ⟨m0, m1, m2, m3, m4, m5, m6, m7, m8, m9, m10⟩ := hm
  refine ⟨by rw [h0, m0], by rw [h1, m1], fun i hi => ?_, fun i hi => ?_, fun i hi z w hw => ?_, fun i hi j hj => ?_, fun i hi => ?_, fun i hi => ?_, fun i hi => ?_, fun k hk => ?_, fun k hk => ?_⟩
  · rw [hs 47 (by decide) (by decide), m2 i hi]
  · rw [hs 48 (by decide) (by decide), m3 i hi]
  · rw [hs 49 (by decide) (by decide), m4 i hi z w hw]
  · rw [hs 50 (by decide) (by decide), m5 i hi j hj]
  · rw [hs 51 (by decide) (by decide), m6 i hi]
  · rw [hs 52 (by decide) (by decide), m7 i hi]
  · rw [hs 53 (by decide) (by decide), m8 i hi]
  · rw [hs 54 (by decide) (by decide), m9 k hk]
  · rw [hs 55 (by decide) (by decide), m10 k hk]
theorem MR_s {σ τ : gS} {F : Fr} {P : Nat → Prop} (hs : sm P σ τ) (hP : ∀ c, 46 ≤ c → c ≤ 55 → P c) (hm : MR σ F) : MR τ F := MR_of hm (hs.i (hP 46 (by decide) (by decide)) 0) (hs.i (hP 46 (by decide) (by decide)) 1) (fun c h1 h2 i => hs.i (hP c (by omega) h2) i)
/-- the tree is found -/
def TR (σ : gS) (F : Fr) : Prop := (∀ i, i < jn F → gI σ 56 i = bi (bl F (jn F - 1) i)) ∧ (∀ k, k < 10 → gI σ 57 k = bi (ins F (jn F - 1) k))
theorem TR_s {σ τ : gS} {F : Fr} {P : Nat → Prop} (hs : sm P σ τ) (h6 : P 56) (h7 : P 57) (ht : TR σ F) : TR τ F := ⟨fun i hi => by rw [hs.i h6, ht.1 i hi], fun k hk => by rw [hs.i h7, ht.2 k hk]⟩
theorem nz_nI {n : Nat} (h0 : 0 < n) (h : n < 2 ^ 31) : nz (nI n) = true := by
  unfold nz
  simpa using nI_ne0 h0 h
theorem qd_le (rd : Nat → Nat) (K p : Nat) : ∀ t, qd rd K p t ≤ p
  | 0 => Nat.le_refl _
  | t + 1 => Nat.le_trans (Nat.div_le_self _ _) (qd_le rd K p t)
theorem mo_actOf {σ : gS} {F : Fr} (h : WF F) (hm : MR σ F) (ht : TR σ F) {pl p s : Nat} (hpl : pl < 2) (hp : p < 100000) (hs : s < jk F) : f_Mo_actOf σ (nI pl) (nI p) (nI s) = some (nI (qd (rdF F (jn F - 1) pl) (jk F) p (jk F - 1 - s) % jac F s)) := by
  have hk := h.1.2
  have hac := (h.2.1 s hs).2
  have hq := fun t => qd_le (rdF F (jn F - 1) pl) (jk F) p t
  unfold f_Mo_actOf b_Mo_actOf_0 l_Mo_actOf_11
  rw [bnd_e, hm.2.1]
  have e0 : nI (jk F) - 1 = nI (jk F - 1 - 0) := by
    obtain ⟨m, e⟩ : ∃ m, jk F = m + 1 := ⟨jk F - 1, by omega⟩
    rw [e, nI_pred]; rfl
  rw [e0]
  refine lpF_go (fun t => (nI pl, nI s, nI (qd (rdF F (jn F - 1) pl) (jk F) p t), nI (jk F - 1 - t))) (jk F - 1 - s) (fun t ht' k => ?_) (fun k => ?_) (by omega)
  · show b_Mo_actOf_11 σ k (nI pl) (nI s) (nI (qd (rdF F (jn F - 1) pl) (jk F) p t)) (nI (jk F - 1 - t)) = _
    obtain ⟨i, hi⟩ : ∃ i, jk F - 1 - t = i + 1 := ⟨jk F - 1 - t - 1, by omega⟩
    have hi2 : jk F - 1 - (t + 1) = i := by omega
    have hik : i + 1 < jk F := by omega
    have haci := (h.2.1 (i + 1) hik).2
    have hoi := (h.2.1 (i + 1) hik).1
    have enext : k (nI pl, nI s, nI (qd (rdF F (jn F - 1) pl) (jk F) p (t + 1)), nI (jk F - 1 - (t + 1))) = k (nI pl, nI s, nI (qd (rdF F (jn F - 1) pl) (jk F) p t / rdF F (jn F - 1) pl (jk F - 1 - t)), nI (jk F - 1 - (t + 1))) := rfl
    rw [enext, hi, hi2]
    have hqt := hq t
    have c1 := nI_c (n := i + 1) (by omega)
    unfold b_Mo_actOf_11
    rw [if_neg (nI_ge (by omega) (by omega)), ck_t (okZ_lt (k := 57) (n := i + 1) (L := 10) rfl rfl (by omega) (by decide)), c1, ht.2 (i + 1) (by omega)]
    by_cases z : ins F (jn F - 1) (i + 1) = true
    · rw [if_neg (bi_ne z), ck_t (okI_lt (k := 54) (n := i + 1) (L := 10) rfl rfl (by omega) (by decide)), hm.2.2.2.2.2.2.2.2.2.1 (i + 1) hik]
      by_cases z2 : jow F (i + 1) = pl
      · have e1 : rdF F (jn F - 1) pl (i + 1) = jac F (i + 1) := if_pos ⟨z, z2⟩
        rw [if_pos (by rw [z2]), ck_t (okI_lt (k := 55) (n := i + 1) (L := 10) rfl rfl (by omega) (by decide)), hm.2.2.2.2.2.2.2.2.2.2 (i + 1) hik, ck_t (nz_nI (by omega) (by omega)), pk_div (by omega) (by omega) (by omega), e1]
        unfold b_Mo_actOf_53
        rw [bnd_e, pk_m1]
      · have e1 : rdF F (jn F - 1) pl (i + 1) = 1 := if_neg (fun w => z2 w.2)
        rw [if_neg (fun e => z2 ((nI_eq (by omega) (by omega)).mp e)), e1, Nat.div_one]
        unfold b_Mo_actOf_51 b_Mo_actOf_53
        rw [bnd_e, pk_m1]
    · have e1 : rdF F (jn F - 1) pl (i + 1) = 1 := if_neg (fun w => z w.1)
      rw [if_pos (bi_eq z), e1, Nat.div_one]
      unfold b_Mo_actOf_51 b_Mo_actOf_53
      rw [bnd_e, pk_m1]
  · show b_Mo_actOf_11 σ k (nI pl) (nI s) (nI (qd (rdF F (jn F - 1) pl) (jk F) p (jk F - 1 - s))) (nI (jk F - 1 - (jk F - 1 - s))) = _
    have hqt := hq (jk F - 1 - s)
    unfold b_Mo_actOf_11
    rw [show jk F - 1 - (jk F - 1 - s) = s by omega, if_pos (nI_le (Nat.le_refl _) (by omega)), ck_t (okI_lt (k := 55) (n := s) (L := 10) rfl rfl (by omega) (by decide)), nI_c (by omega), hm.2.2.2.2.2.2.2.2.2.2 s hs, ck_t (nz_nI (by omega) (by omega)), pk_rem (by omega) (by omega) (by omega)]
theorem iI_val {z : Int} (h1 : -2 ^ 31 ≤ z) (h2 : z < 2 ^ 31) : (iI z).toInt = z := Int32.toInt_ofInt_of_le h1 h2
theorem iI_div {c : Nat} {v : Int} (h1 : 1 ≤ c) (h3 : c ≤ 3) (hv : -777600 ≤ v ∧ v ≤ 777600) : iI ((c : Int) * v) / nI c = iI v := by
  have hcv : -2332800 ≤ (c : Int) * v ∧ (c : Int) * v ≤ 2332800 := by
    rcases (show c = 1 ∨ c = 2 ∨ c = 3 by omega) with rfl | rfl | rfl <;> omega
  apply Int32.toInt_inj.mp
  rw [Int32.toInt_div, iI_val (by omega) (by omega), nI_toInt (by omega), iI_val (by omega) (by omega), Int.mul_tdiv_cancel_left _ (by omega)]
  exact Int.bmod_eq_of_le (by omega) (by omega)
theorem mo_mean {σ : gS} {F : Fr} (h : WF F) (hm : MR σ F) {ch : Nat → Nat} (hok : okC F ch) {n w : Nat} (hn : n < jn F) (hw : w < 2) (z : jso F n = 1) (hv : ∀ j, j < jcn F n → gI σ 58 (2 * jch F n j + w) = iI (val F ch w (jch F n j))) : f_Mo_mean σ (nI n) (nI w) = some (iI (val F ch w n)) := by
  have hl := h.1.1
  obtain ⟨c1, c2, c3, c4, c5⟩ := h.2.2.1 n hn
  have hpos := c4 z
  have nn : ∀ a : Nat, a < 100000 → ¬ nI a = -1 := fun a ha e => by
    have := congrArg Int32.toInt e
    rw [nI_toInt (by omega)] at this
    have h2 : (-1 : Int32).toInt = -1 := by decide
    omega
  unfold f_Mo_mean b_Mo_mean_0 l_Mo_mean_8
  refine lpF_go (fun j => (nI n, nI w, iI (sumN (fun j => val F ch w (jch F n j)) (min j (jcn F n))), nI (min j (jcn F n)), nI j)) 3 (fun j hj k => ?_) (fun k => ?_) (by omega)
  · show b_Mo_mean_8 σ k (nI n) (nI w) (iI (sumN (fun j => val F ch w (jch F n j)) (min j (jcn F n)))) (nI (min j (jcn F n))) (nI j) = _
    have o50 := okI_lt (k := 50) (n := 3 * n + j) (L := 120) rfl rfl (by omega) (by decide)
    unfold b_Mo_mean_8
    rw [if_neg (show ¬ (3 : Int32) ≤ nI j from nI_ge (b := 3) hj (by decide)), nI_3, ck_t o50, nI_c (by omega), hm.2.2.2.2.2.1 n hn j hj]
    by_cases y : j < jcn F n
    · have hcl := (h.2.2.2.1 n hn j y).1
      rw [if_pos y, if_neg (nn _ (by omega)), ck_t o50, nI_2, ck_t (okI_lt (k := 58) (n := 2 * jch F n j + w) (L := 80) rfl rfl (by omega) (by decide)), bnd_e, bnd_e, nI_c (by omega), hv j y, iI_add, nI_1]
      unfold b_Mo_mean_55
      rw [bnd_e, nI_1, show min j (jcn F n) = j by omega, show min (j + 1) (jcn F n) = j + 1 by omega]
      rfl
    · rw [if_neg y, if_pos rfl]
      unfold b_Mo_mean_55
      rw [bnd_e, nI_1, show min j (jcn F n) = jcn F n by omega, show min (j + 1) (jcn F n) = jcn F n by omega]
  · show b_Mo_mean_8 σ k (nI n) (nI w) (iI (sumN (fun j => val F ch w (jch F n j)) (min 3 (jcn F n)))) (nI (min 3 (jcn F n))) (nI 3) = _
    unfold b_Mo_mean_8
    rw [if_pos (show (3 : Int32) ≤ nI 3 from by decide), show min 3 (jcn F n) = jcn F n by omega, ck_t (nz_nI (by omega) (by omega)), ← val_1 h hok hw hn z, iI_div hpos c2 (val_bd h hok hw hn)]
