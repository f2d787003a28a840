/-! sure -/
def mn (f : Nat → Int32) : Nat → Int32
  | 0 => f 0
  | k + 1 => if f k < mn f k then f k else mn f k
def mxv (f : Nat → Int32) : Nat → Int32
  | 0 => f 0
  | k + 1 => if mxv f k < f k then f k else mxv f k
theorem mn_1 (f : Nat → Int32) : mn f 1 = f 0 := by
  show (if f 0 < f 0 then f 0 else f 0) = f 0
  split <;> rfl
theorem mxv_1 (f : Nat → Int32) : mxv f 1 = f 0 := by
  show (if f 0 < f 0 then f 0 else f 0) = f 0
  split <;> rfl
theorem mn_is (f : Nat → Int32) : ∀ {n : Nat}, 1 ≤ n → ∃ j, j < n ∧ mn f n = f j
  | 1, _ => ⟨0, by decide, mn_1 f⟩
  | n + 2, _ => by
    obtain ⟨j, hj, e⟩ := mn_is f (show 1 ≤ n + 1 by omega)
    have e2 : mn f (n + 2) = if f (n + 1) < mn f (n + 1) then f (n + 1) else mn f (n + 1) := rfl
    rw [e2]
    split
    · exact ⟨n + 1, by omega, rfl⟩
    · exact ⟨j, by omega, e⟩
theorem c_min (a b : Int32) : f_Ma_min a b = some (if b < a then b else a) := by
  unfold f_Ma_min b_Ma_min_0
  split <;> rfl
theorem c_max (a b : Int32) : f_Ma_max a b = some (if a < b then b else a) := by
  unfold f_Ma_max b_Ma_max_0
  by_cases z : a < b
  · rw [if_pos z]
    first
      | rw [if_neg (by rw [Int32.not_le]; exact z)]
      | rw [if_pos z]
  · rw [if_neg z]
    first
      | rw [if_pos (by rw [← Int32.not_lt]; exact z)]
      | rw [if_neg z]
theorem c_least {σ : gS} {n : Nat → Nat} {T : Tb} (h : VC σ n T) (hn : nb n) {pl a : Nat} (hpl : pl < 2) (ha : a < n pl) : f_Ta_leastOf σ (nI pl) (nI a) = some (mn (fun b => va T pl a b) (n (1 - pl))) := by
  have hl := nb_le hn (show 1 - pl < 2 by omega)
  unfold f_Ta_leastOf b_Ta_leastOf_0 l_Ta_leastOf_11
  rw [show f_Ta_value σ (nI pl) (nI a) 0 = _ from c_value h hn (b := 0) hpl ha (by omega), Option.bind_some]
  rw [show (nI pl, nI a, va T pl a 0, (1 : Int32)) = (fun t => (nI pl, nI a, mn (fun b => va T pl a b) (t + 1), nI (t + 1))) 0 from by show _ = (nI pl, nI a, mn (fun b => va T pl a b) 1, nI 1); rw [mn_1]; rfl]
  refine lpF_go (fun t => (nI pl, nI a, mn (fun b => va T pl a b) (t + 1), nI (t + 1))) (n (1 - pl) - 1) (fun t ht k => ?_) (fun k => ?_) (by omega)
  · show b_Ta_leastOf_11 σ k (nI pl) (nI a) (mn (fun b => va T pl a b) (t + 1)) (nI (t + 1)) = _
    unfold b_Ta_leastOf_11
    rw [f_otherThan, Option.bind_some, ot_pl hpl, ck_t (ok17 (by omega)), nI_c (by omega), c_n h (by omega), if_neg (nI_ge (by omega) (by omega)), c_value h hn hpl ha (by omega), Option.bind_some, c_min, Option.bind_some, bnd_e, nI_1]
    rfl
  · show b_Ta_leastOf_11 σ k (nI pl) (nI a) (mn (fun b => va T pl a b) (n (1 - pl) - 1 + 1)) (nI (n (1 - pl) - 1 + 1)) = _
    unfold b_Ta_leastOf_11
    rw [f_otherThan, Option.bind_some, ot_pl hpl, ck_t (ok17 (by omega)), nI_c (by omega), c_n h (by omega), show n (1 - pl) - 1 + 1 = n (1 - pl) by omega, if_pos (nI_le (Nat.le_refl _) (by omega))]
theorem c_sure {σ : gS} {n : Nat → Nat} {T : Tb} (h : VC σ n T) (hn : nb n) {pl : Nat} (hpl : pl < 2) : f_Ta_sureOf σ (nI pl) = some (mxv (fun a => mn (fun b => va T pl a b) (n (1 - pl))) (n pl)) := by
  have hl := nb_le hn hpl
  unfold f_Ta_sureOf b_Ta_sureOf_0 l_Ta_sureOf_9
  rw [show f_Ta_leastOf σ (nI pl) 0 = _ from c_least h hn (a := 0) hpl (by omega), Option.bind_some]
  rw [show (nI pl, mn (fun b => va T pl 0 b) (n (1 - pl)), (1 : Int32)) = (fun t => (nI pl, mxv (fun a => mn (fun b => va T pl a b) (n (1 - pl))) (t + 1), nI (t + 1))) 0 from by show _ = (nI pl, mxv (fun a => mn (fun b => va T pl a b) (n (1 - pl))) 1, nI 1); rw [mxv_1]; rfl]
  refine lpF_go (fun t => (nI pl, mxv (fun a => mn (fun b => va T pl a b) (n (1 - pl))) (t + 1), nI (t + 1))) (n pl - 1) (fun t ht k => ?_) (fun k => ?_) (by omega)
  · show b_Ta_sureOf_9 σ k (nI pl) (mxv (fun a => mn (fun b => va T pl a b) (n (1 - pl))) (t + 1)) (nI (t + 1)) = _
    unfold b_Ta_sureOf_9
    rw [ck_t (ok17 hpl), nI_c (by omega), c_n h hpl, if_neg (nI_ge (by omega) (by omega)), c_least h hn hpl (by omega), Option.bind_some, c_max, Option.bind_some, bnd_e, nI_1]
    rfl
  · show b_Ta_sureOf_9 σ k (nI pl) (mxv (fun a => mn (fun b => va T pl a b) (n (1 - pl))) (n pl - 1 + 1)) (nI (n pl - 1 + 1)) = _
    unfold b_Ta_sureOf_9
    rw [ck_t (ok17 hpl), nI_c (by omega), c_n h hpl, show n pl - 1 + 1 = n pl by omega, if_pos (nI_le (Nat.le_refl _) (by omega))]
/-- the reference begins below all -/
def mxr (f : Nat → Int32) (k : Nat) : Int32 := if k = 0 then -1000000 else mxv f k
theorem mxr_s {f : Nat → Int32} {k : Nat} (h : ¬ f 0 ≤ -1000000) : mxr f (k + 1) = if f k ≤ mxr f k then mxr f k else f k := by
  unfold mxr
  rw [if_neg (by omega)]
  by_cases z : k = 0
  · subst z
    rw [if_pos rfl, if_neg h, mxv_1]
  · rw [if_neg z]
    show (if mxv f k < f k then f k else mxv f k) = _
    by_cases y : mxv f k < f k
    · rw [if_pos y, if_neg (by rw [Int32.not_le]; exact y)]
    · rw [if_neg y, if_pos (by rw [← Int32.not_lt]; exact y)]
theorem m_sure {σ : gS} {n : Nat → Nat} {T : Tb} (h : VM σ n T) (hn : nb n) {pl : Nat} (hpl : pl < 2) (hT : ∀ a b, a < n pl → b < n (1 - pl) → ¬ va T pl a b ≤ -1000000) : l_Mo_sure_32 (nI pl, -1000000, 0, σ) = some (mxv (fun a => mn (fun b => va T pl a b) (n (1 - pl))) (n pl), σ) := by
  have hl := nb_le hn hpl
  have hl2 := nb_le hn (show 1 - pl < 2 by omega)
  let g : Nat → Int32 := fun a => mn (fun b => va T pl a b) (n (1 - pl))
  have hg : ∀ a, a < n pl → ¬ g a ≤ -1000000 := fun a ha => by
    obtain ⟨j, hj, e⟩ := mn_is (fun b => va T pl a b) hl2.1
    show ¬ mn (fun b => va T pl a b) (n (1 - pl)) ≤ -1000000
    rw [e]
    exact hT a j ha hj
  unfold l_Mo_sure_32
  rw [show (nI pl, (-1000000 : Int32), (0 : Int32), σ) = (fun t => (nI pl, mxr g t, nI t, σ)) 0 from rfl]
  refine lpF_go (fun t => (nI pl, mxr g t, nI t, σ)) (n pl) (fun t ht k => ?_) (fun k => ?_) (by omega)
  · show b_Mo_sure_32 k (nI pl) (mxr g t) (nI t) σ = k (nI pl, mxr g (t + 1), nI (t + 1), σ)
    unfold b_Mo_sure_32
    rw [m_many h hpl, Option.bind_some, if_neg (nI_ge ht (by omega)), show f_Mo_worthTo σ (nI pl) (nI t) 0 = _ from m_value h hn (b := 0) hpl ht (by omega), Option.bind_some]
    unfold l_Mo_sure_53
    rw [show (nI pl, mxr g t, nI t, va T pl t 0, (1 : Int32), σ) = (fun u => (nI pl, mxr g t, nI t, mn (fun b => va T pl t b) (u + 1), nI (u + 1), σ)) 0 from by show _ = (nI pl, mxr g t, nI t, mn (fun b => va T pl t b) 1, nI 1, σ); rw [mn_1]; rfl]
    refine lpF_go (fun u => (nI pl, mxr g t, nI t, mn (fun b => va T pl t b) (u + 1), nI (u + 1), σ)) (n (1 - pl) - 1) (fun u hu k' => ?_) (fun k' => ?_) (by omega)
    · show b_Mo_sure_53 k k' (nI pl) (mxr g t) (nI t) (mn (fun b => va T pl t b) (u + 1)) (nI (u + 1)) σ = k' (nI pl, mxr g t, nI t, (if va T pl t (u + 1) < mn (fun b => va T pl t b) (u + 1) then va T pl t (u + 1) else mn (fun b => va T pl t b) (u + 1)), nI (u + 1 + 1), σ)
      unfold b_Mo_sure_53
      rw [ot_pl hpl, m_many h (by omega), Option.bind_some, if_neg (nI_ge (by omega) (by omega)), m_value h hn hpl ht (by omega), Option.bind_some, Option.bind_some]
      by_cases y : va T pl t (u + 1) < mn (fun b => va T pl t b) (u + 1)
      · rw [if_pos y, if_neg (by rw [Int32.not_le]; exact y)]
        unfold b_Mo_sure_91
        rw [bnd_e, nI_1]
      · rw [if_neg y, if_pos (by rw [← Int32.not_lt]; exact y)]
        unfold b_Mo_sure_91
        rw [bnd_e, nI_1]
    · show b_Mo_sure_53 k k' (nI pl) (mxr g t) (nI t) (mn (fun b => va T pl t b) (n (1 - pl) - 1 + 1)) (nI (n (1 - pl) - 1 + 1)) σ = _
      unfold b_Mo_sure_53
      rw [ot_pl hpl, m_many h (by omega), Option.bind_some, show n (1 - pl) - 1 + 1 = n (1 - pl) by omega, if_pos (nI_le (Nat.le_refl _) (by omega)), mxr_s (hg 0 (by omega))]
      show (if g t ≤ mxr g t then _ else _) = _
      by_cases y : g t ≤ mxr g t
      · rw [if_pos y, if_pos y]
        unfold b_Mo_sure_111
        rw [bnd_e, nI_1]
      · rw [if_neg y, if_neg y]
        unfold b_Mo_sure_111
        rw [bnd_e, nI_1]
  · show b_Mo_sure_32 k (nI pl) (mxr g (n pl)) (nI (n pl)) σ = _
    unfold b_Mo_sure_32
    rw [m_many h hpl, Option.bind_some, if_pos (nI_le (Nat.le_refl _) (by omega))]
    unfold mxr
    rw [if_neg (by omega)]
theorem tF_low {F : Fr} (h : WF F) {m : Nat} (hm : m < jn F) {pl : Nat} (hpl : pl < 2) (a b : Nat) : ¬ va (tF F m) pl a b ≤ -1000000 := by
  have key : ∀ w p q, w < 2 → ¬ tF F m w p q ≤ -1000000 := fun w p q hw e => by
    have hb := val_bd h (chP_ok h m p q) hw hm
    rw [Int32.le_iff_toInt_le] at e
    unfold tF at e
    rw [iI_val (by omega) (by omega), show (-1000000 : Int32).toInt = -1000000 from by decide] at e
    omega
  unfold va
  split
  · exact key _ _ _ (by decide)
  · exact key _ _ _ (by decide)
noncomputable def surA (F : Fr) (x : Int32) : Int32 := cif (jn F ≠ 0 ∧ i01 x = true) (mxv (fun a => mn (fun b => va (tF F (jn F - 1)) x.toNatClampNeg a b) (pls F (jn F - 1) (1 - x.toNatClampNeg))) (pls F (jn F - 1) x.toNatClampNeg)) (-1000000)
theorem ga_sure {σ : gS} {F : Fr} (h : WF F) (hc : CR σ F) (h22 : S0 σ) (ht : TC σ F) (x : Int32) : ∃ τ, f_Ga_sure σ x = some (surA F x, τ) ∧ TK σ F τ := by
  unfold f_Ga_sure b_Ga_sure_0 surA
  rw [f_isEmpty h hc, Option.bind_some]
  by_cases z : jn F = 0
  · rw [if_neg (bi_ne (by simpa using z)), cif_f (fun q => q.1 z)]
    exact ⟨σ, rfl, TK_rf h22 ht⟩
  · rw [if_pos (bi_eq (by simpa using z)), f_isPlayer, Option.bind_some]
    by_cases q1 : i01 x = true
    · obtain ⟨pl, epl, hpl, epl2⟩ := i01_nat q1
      obtain ⟨τ, e1, e2, -, -, e5⟩ := ta_whole h hc z h22 ht
      rw [if_neg (bi_ne q1), cif_t ⟨z, q1⟩, epl2, epl, e1, Option.bind_some, c_sure e2 (nb_F h (by omega)) hpl, Option.bind_some]
      exact ⟨τ, rfl, e5⟩
    · rw [if_pos (bi_eq q1), cif_f (fun y => q1 y.2)]
      exact ⟨σ, rfl, TK_rf h22 ht⟩
theorem mo_sure {σ : gS} {F : Fr} (h : WF F) (hm : MR σ F) (x : Int32) : ∃ τ, f_Mo_sure σ x = some (surA F x, τ) ∧ MR τ F ∧ sm (fun c => c < 46) σ τ := by
  unfold f_Mo_sure b_Mo_sure_0 surA
  rw [f_isFrom, Option.bind_some, i01_am, hm.1]
  by_cases q1 : i01 x = true
  · rw [if_neg (bi_ne q1)]
    by_cases z : jn F = 0
    · rw [if_pos ((n_0 h).mpr z), cif_f (fun q => q.1 z)]
      exact ⟨σ, rfl, hm, sm_rf _ _⟩
    · obtain ⟨pl, epl, hpl, epl2⟩ := i01_nat q1
      obtain ⟨τ, e1, e2, e3, e4⟩ := mo_whole h hm z
      rw [if_neg (fun e => z ((n_0 h).mp e)), f_moRoot hm z, Option.bind_some, e1, Option.bind_some, cif_t ⟨z, q1⟩, epl2, epl, m_sure e2 (nb_F h (by omega)) hpl (fun a b _ _ => tF_low h (by omega) hpl a b)]
      exact ⟨τ, rfl, kpM_MR e4 hm, kpM_46 e4⟩
  · rw [if_pos (bi_eq q1), cif_f (fun y => q1 y.2)]
    exact ⟨σ, rfl, hm, sm_rf _ _⟩
