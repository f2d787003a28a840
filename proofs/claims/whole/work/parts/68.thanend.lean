/-! one, and than -/
section TE
variable {σ : gS} {n : Nat → Nat} {T : Tb}
theorem on_ref (T : Tb) (n : Nat → Nat) (pl a : Nat) : onB T n pl a a = true := by
  unfold onB
  rw [allB_iff]
  intro j hj
  simp
theorem c_one (h : VC σ n T) (hn : nb n) {pl a c : Nat} (hpl : pl < 2) (ha : a < n pl) (hc : c < n pl) : f_Ta_areOne σ (nI pl) (nI a) (nI c) = some (bi (onB T n pl a c)) := by
  have hl := nb_le hn (show 1 - pl < 2 by omega)
  have hl2 := nb_le hn hpl
  unfold f_Ta_areOne b_Ta_areOne_0 l_Ta_areOne_3 onB
  have e61 : ∀ (k : Int32 × Int32 × Int32 × Int32 → Option Int32) (i u v : Nat), u < 4096 → v < 4096 → b_Ta_areOne_61 σ k (nI pl) (nI a) (nI c) (nI i) (nI u) (nI v) = if gI σ 19 u = gI σ 19 v ∧ gI σ 20 u = gI σ 20 v then k (nI pl, nI a, nI c, nI (i + 1)) else some 0 := fun k i u v hu hv => by
    unfold b_Ta_areOne_61
    rw [ck_t (show inb 0 2 = true from rfl), ck_t (okI_lt (k := 19) (n := u) (L := 4096) rfl rfl hu (by decide)), ck_t (show inb 0 2 = true from rfl), ck_t (okI_lt (k := 19) (n := v) (L := 4096) rfl rfl hv (by decide)), nI_c (n := u) (by omega), nI_c (n := v) (by omega)]
    by_cases z : gI σ 19 u = gI σ 19 v
    · rw [if_pos z, ck_t (show inb 1 2 = true from rfl), ck_t (okI_lt (k := 20) (n := u) (L := 4096) rfl rfl hu (by decide)), ck_t (show inb 1 2 = true from rfl), ck_t (okI_lt (k := 20) (n := v) (L := 4096) rfl rfl hv (by decide))]
      by_cases z2 : gI σ 20 u = gI σ 20 v
      · rw [if_pos z2, if_pos ⟨z, z2⟩, bnd_e, nI_1]
      · rw [if_neg z2, if_neg (fun w => z2 w.2)]
        rfl
    · rw [if_neg z, if_neg (fun w => z w.1)]
      rfl
  have pre : ∀ i, i < n (1 - pl) → ∀ k, b_Ta_areOne_3 σ k (nI pl) (nI a) (nI c) (nI i) = if ((if pl = 0 then T 0 a i else T 0 i a) = (if pl = 0 then T 0 c i else T 0 i c) ∧ (if pl = 0 then T 1 a i else T 1 i a) = (if pl = 0 then T 1 c i else T 1 i c)) then k (nI pl, nI a, nI c, nI (i + 1)) else some 0 := fun i hi k => by
    unfold b_Ta_areOne_3 b_Ta_areOne_38
    rw [f_otherThan, Option.bind_some, ot_pl hpl, ck_t (ok17 (by omega)), nI_c (n := 1 - pl) (by omega), c_n h (by omega), if_neg (nI_ge hi (by omega))]
    rcases (show pl = 0 ∨ pl = 1 by omega) with rfl | rfl
    · replace hi : i < n 1 := hi
      have n1 := hn.2.2
      rw [if_pos (show nI 0 = 0 from rfl), if_pos (show nI 0 = 0 from rfl), n64, n64, e61 k i _ _ (by omega) (by omega), (h.2.2 a i ha hi).1, (h.2.2 c i hc hi).1, (h.2.2 a i ha hi).2, (h.2.2 c i hc hi).2]
      simp only [if_true]
    · replace hi : i < n 0 := hi
      have n1 := hn.1.2
      rw [if_neg (show ¬ nI 1 = 0 by decide), if_neg (show ¬ nI 1 = 0 by decide), n64, n64, e61 k i _ _ (by omega) (by omega), (h.2.2 i a hi ha).1, (h.2.2 i c hi hc).1, (h.2.2 i a hi ha).2, (h.2.2 i c hi hc).2]
      simp only [show ¬ (1 : Nat) = 0 by decide, if_false]
  refine lp_all (fun i => (nI pl, nI a, nI c, nI i)) (n (1 - pl)) _ (fun i hi hf k => ?_) (fun i hi hf k => ?_) (fun k => ?_) (by omega)
  · exact (pre i hi k).trans (if_pos (of_decide_eq_true hf))
  · exact (pre i hi k).trans (if_neg (of_decide_eq_false hf))
  · show b_Ta_areOne_3 σ k (nI pl) (nI a) (nI c) (nI (n (1 - pl))) = _
    unfold b_Ta_areOne_3
    rw [f_otherThan, Option.bind_some, ot_pl hpl, ck_t (ok17 (by omega)), nI_c (by omega), c_n h (by omega), if_pos (nI_le (Nat.le_refl _) (by omega))]
    rfl
theorem m_one (h : VM σ n T) (hn : nb n) {pl a c : Nat} (hpl : pl < 2) (ha : a < n pl) (hc : c < n pl) : f_Mo_isOne σ (nI pl) (nI a) (nI c) = some (bi (onB T n pl a c)) := by
  have hl := nb_le hn (show 1 - pl < 2 by omega)
  have hl2 := nb_le hn hpl
  unfold f_Mo_isOne b_Mo_isOne_0 l_Mo_isOne_6 onB
  generalize hf : (fun b => decide ((if pl = 0 then T 0 a b else T 0 b a) = (if pl = 0 then T 0 c b else T 0 b c) ∧ (if pl = 0 then T 1 a b else T 1 b a) = (if pl = 0 then T 1 c b else T 1 b c))) = f
  have hf' : ∀ b, f b = decide ((if pl = 0 then T 0 a b else T 0 b a) = (if pl = 0 then T 0 c b else T 0 b c) ∧ (if pl = 0 then T 1 a b else T 1 b a) = (if pl = 0 then T 1 c b else T 1 b c)) := fun b => by rw [← hf]
  have e62 : ∀ (k : Int32 × Int32 × Int32 × Int32 × Int32 → Option Int32) (g : Bool) (i u v : Nat), u < 4096 → v < 4096 → b_Mo_isOne_62 σ k (nI pl) (nI a) (nI c) (bi g) (nI i) (nI u) (nI v) = k (nI pl, nI a, nI c, bi (g && decide (gI σ 59 u = gI σ 59 v ∧ gI σ 59 (4096 + u) = gI σ 59 (4096 + v))), nI (i + 1)) := fun k g i u v hu hv => by
    unfold b_Mo_isOne_62 b_Mo_isOne_115 b_Mo_isOne_116
    have m4 : ∀ x : Nat, (4096 : Int32) + nI x = nI (4096 + x) := fun x => by rw [show (4096 : Int32) = nI 4096 from rfl, nI_add]
    by_cases z0 : g = true
    · rw [if_neg (bi_ne z0), z0, Bool.true_and, m4, m4, ck_t (okI_lt (k := 59) (n := u) (L := 8192) rfl rfl (by omega) (by decide)), ck_t (okI_lt (k := 59) (n := v) (L := 8192) rfl rfl (by omega) (by decide)), nI_c (n := u) (by omega), nI_c (n := v) (by omega)]
      by_cases z : gI σ 59 u = gI σ 59 v
      · rw [if_pos z, ck_t (okI_lt (k := 59) (n := 4096 + u) (L := 8192) rfl rfl (by omega) (by decide)), ck_t (okI_lt (k := 59) (n := 4096 + v) (L := 8192) rfl rfl (by omega) (by decide)), nI_c (n := 4096 + u) (by omega), nI_c (n := 4096 + v) (by omega)]
        by_cases z2 : gI σ 59 (4096 + u) = gI σ 59 (4096 + v)
        · rw [if_pos z2, decide_eq_true ⟨z, z2⟩, bnd_e, nI_1]
          rfl
        · rw [if_neg z2, decide_eq_false (fun w => z2 w.2), bnd_e, nI_1]
          rfl
      · rw [if_neg z, decide_eq_false (fun w => z w.1), bnd_e, nI_1]
        rfl
    · have z' : g = false := by simpa using z0
      rw [if_pos (bi_eq z0), z', Bool.false_and, bnd_e, nI_1]
      rfl
  refine lpF_go (fun i => (nI pl, nI a, nI c, bi (allB f i), nI i)) (n (1 - pl)) (fun i hi k => ?_) (fun k => ?_) (by omega)
  · show b_Mo_isOne_6 σ k (nI pl) (nI a) (nI c) (bi (allB f i)) (nI i) = k (nI pl, nI a, nI c, bi (allB f i && f i), nI (i + 1))
    unfold b_Mo_isOne_6 b_Mo_isOne_39
    rw [ot_pl hpl, m_many h (by omega), Option.bind_some, if_neg (nI_ge hi (by omega)), hf']
    rcases (show pl = 0 ∨ pl = 1 by omega) with rfl | rfl
    · replace hi : i < n 1 := hi
      have n1 := hn.2.2
      rw [if_pos (show nI 0 = 0 from rfl), if_pos (show nI 0 = 0 from rfl), n64, n64, e62 k _ i _ _ (by omega) (by omega), ← Nat.add_assoc, ← Nat.add_assoc, (h.2.2 a i ha hi).1, (h.2.2 c i hc hi).1, (h.2.2 a i ha hi).2, (h.2.2 c i hc hi).2]
      simp only [if_true]
    · replace hi : i < n 0 := hi
      have n1 := hn.1.2
      rw [if_neg (show ¬ nI 1 = 0 by decide), if_neg (show ¬ nI 1 = 0 by decide), n64, n64, e62 k _ i _ _ (by omega) (by omega), ← Nat.add_assoc, ← Nat.add_assoc, (h.2.2 i a hi ha).1, (h.2.2 i c hi hc).1, (h.2.2 i a hi ha).2, (h.2.2 i c hi hc).2]
      simp only [show ¬ (1 : Nat) = 0 by decide, if_false]
  · show b_Mo_isOne_6 σ k (nI pl) (nI a) (nI c) (bi (allB f (n (1 - pl)))) (nI (n (1 - pl))) = _
    unfold b_Mo_isOne_6
    rw [ot_pl hpl, m_many h (by omega), Option.bind_some, if_pos (nI_le (Nat.le_refl _) (by omega)), ck_t (isB_bi _)]
/-- the least better among those that are left -/
theorem c_among (h : VC σ n T) (hn : nb n) {O P : Nat → Bool} {x y : Int64} (hx : ∀ j, j < 64 → tb x j = P j) (hy : ∀ j, j < 64 → tb y j = O j) {pl a : Nat} (hpl : pl < 2) (ha : a < n pl) : f_Ta_leastBetterAmong σ (nI pl) (nI a) x y = some (ff (fun c => P c && wrB T n O pl a c) (n pl)) := by
  have hl := nb_le hn hpl
  unfold f_Ta_leastBetterAmong b_Ta_leastBetterAmong_0 l_Ta_leastBetterAmong_3
  have pre : ∀ i, i < n pl → ∀ k, b_Ta_leastBetterAmong_3 σ k (nI pl) (nI a) x y (nI i) = if (P i && wrB T n O pl a i) = true then some (nI i) else k (nI pl, nI a, x, y, nI (i + 1)) := fun i hi k => by
    unfold b_Ta_leastBetterAmong_3
    rw [ck_t (ok17 hpl), nI_c (by omega), c_n h hpl, if_neg (nI_ge hi (by omega)), f_hasBit _ (by omega), Option.bind_some, hx i (by omega), c_worse h hn hy hpl ha hi, Option.bind_some]
    by_cases z : P i = true
    · rw [if_neg (bi_ne z), z, Bool.true_and]
      by_cases z2 : wrB T n O pl a i = true
      · rw [if_neg (bi_ne z2), if_pos z2]
      · rw [if_pos (bi_eq z2), if_neg z2]
        unfold b_Ta_leastBetterAmong_39
        rw [bnd_e, nI_1]
    · have z' : P i = false := by simpa using z
      rw [if_pos (bi_eq z), z', Bool.false_and, if_neg (by decide)]
      unfold b_Ta_leastBetterAmong_39
      rw [bnd_e, nI_1]
  have e := lp_fst (body := fun k x => b_Ta_leastBetterAmong_3 σ k x.1 x.2.1 x.2.2.1 x.2.2.2.1 x.2.2.2.2) (fun i => (nI pl, nI a, x, y, nI i)) (n pl) (fun c => P c && wrB T n O pl a c) (e := -1) (fun i hi hf k => (pre i hi k).trans (if_neg (by rw [show (P i && wrB T n O pl a i) = false from hf]; decide))) (fun i hi hf k => (pre i hi k).trans (if_pos hf)) (fun k => by
    show b_Ta_leastBetterAmong_3 σ k (nI pl) (nI a) x y (nI (n pl)) = _
    unfold b_Ta_leastBetterAmong_3
    rw [ck_t (ok17 hpl), nI_c (by omega), c_n h hpl, if_pos (nI_le (Nat.le_refl _) (by omega))]) (by omega)
  refine e.trans ?_
  by_cases z : ff (fun c => P c && wrB T n O pl a c) (n pl) = -1
  · rw [if_pos z, z]
  · rw [if_neg z]
theorem c_better (h : VC σ n T) (hn : nb n) {pl a : Nat} (hpl : pl < 2) (ha : a < n pl) : f_Ta_leastBetter σ (nI pl) (nI a) = some (ff (fun c => wrB T n (fun _ => true) pl a c) (n pl)) := by
  have hl := nb_le hn hpl
  have hl2 := nb_le hn (show 1 - pl < 2 by omega)
  obtain ⟨x, e1, e2⟩ := f_firstBits hl.1 hl.2
  obtain ⟨y, e3, e4⟩ := f_firstBits hl2.1 hl2.2
  unfold f_Ta_leastBetter b_Ta_leastBetter_0
  rw [ck_t (ok17 hpl), nI_c (by omega), c_n h hpl, e1, Option.bind_some, f_otherThan, Option.bind_some, ot_pl hpl, ck_t (ok17 (by omega)), nI_c (by omega), c_n h (by omega), e3, Option.bind_some, c_among h hn e2 e4 hpl ha, Option.bind_some]
  refine congrArg some (ff_congr (fun c hc => ?_))
  rw [decide_eq_true hc, Bool.true_and]
  unfold wrB
  refine allB_congr (fun b hb => ?_)
  show (!decide (b < n (1 - pl)) || decide (va T pl a b < va T pl c b)) = (!true || decide (va T pl a b < va T pl c b))
  rw [decide_eq_true hb]
theorem c_weaker (h : VC σ n T) (hn : nb n) {pl a : Nat} (hpl : pl < 2) (ha : a < n pl) : f_Ta_leastWeaklyBetter σ (nI pl) (nI a) = some (ff (fun c => wkB T n pl a c) (n pl)) := by
  have hl := nb_le hn hpl
  unfold f_Ta_leastWeaklyBetter b_Ta_leastWeaklyBetter_0 l_Ta_leastWeaklyBetter_2
  have pre : ∀ i, i < n pl → ∀ k, b_Ta_leastWeaklyBetter_2 σ k (nI pl) (nI a) (nI i) = if wkB T n pl a i = true then some (nI i) else k (nI pl, nI a, nI (i + 1)) := fun i hi k => by
    unfold b_Ta_leastWeaklyBetter_2
    rw [ck_t (ok17 hpl), nI_c (by omega), c_n h hpl, if_neg (nI_ge hi (by omega)), c_weak h hn hpl ha hi, Option.bind_some]
    by_cases z2 : wkB T n pl a i = true
    · rw [if_neg (bi_ne z2), if_pos z2]
    · rw [if_pos (bi_eq z2), if_neg z2, bnd_e, nI_1]
  have e := lp_fst (body := fun k x => b_Ta_leastWeaklyBetter_2 σ k x.1 x.2.1 x.2.2) (fun i => (nI pl, nI a, nI i)) (n pl) (fun c => wkB T n pl a c) (e := -1) (fun i hi hf k => (pre i hi k).trans (if_neg (by rw [show wkB T n pl a i = false from hf]; decide))) (fun i hi hf k => (pre i hi k).trans (if_pos hf)) (fun k => by
    show b_Ta_leastWeaklyBetter_2 σ k (nI pl) (nI a) (nI (n pl)) = _
    unfold b_Ta_leastWeaklyBetter_2
    rw [ck_t (ok17 hpl), nI_c (by omega), c_n h hpl, if_pos (nI_le (Nat.le_refl _) (by omega))]) (by omega)
  refine e.trans ?_
  by_cases z : ff (fun c => wkB T n pl a c) (n pl) = -1
  · rw [if_pos z, z]
  · rw [if_neg z]
theorem c_oneWith (h : VC σ n T) (hn : nb n) {pl a : Nat} (hpl : pl < 2) (ha : a < n pl) : f_Ta_leastOneWith σ (nI pl) (nI a) = some (ff (fun c => onB T n pl a c) (n pl)) := by
  have hl := nb_le hn hpl
  unfold f_Ta_leastOneWith b_Ta_leastOneWith_0 l_Ta_leastOneWith_2
  have pre : ∀ i, i < a → ∀ k, b_Ta_leastOneWith_2 σ k (nI pl) (nI a) (nI i) = if onB T n pl a i = true then some (nI i) else k (nI pl, nI a, nI (i + 1)) := fun i hi k => by
    unfold b_Ta_leastOneWith_2
    rw [if_neg (nI_ge hi (by omega)), c_one h hn hpl ha (by omega), Option.bind_some]
    by_cases z2 : onB T n pl a i = true
    · rw [if_neg (bi_ne z2), if_pos z2]
    · rw [if_pos (bi_eq z2), if_neg z2, bnd_e, nI_1]
  have e := lp_fst (body := fun k x => b_Ta_leastOneWith_2 σ k x.1 x.2.1 x.2.2) (fun i => (nI pl, nI a, nI i)) a (fun c => onB T n pl a c) (e := nI a) (fun i hi hf k => (pre i hi k).trans (if_neg (by rw [show onB T n pl a i = false from hf]; decide))) (fun i hi hf k => (pre i hi k).trans (if_pos hf)) (fun k => by
    show b_Ta_leastOneWith_2 σ k (nI pl) (nI a) (nI a) = _
    unfold b_Ta_leastOneWith_2
    rw [if_pos (nI_le (Nat.le_refl _) (by omega))]) (by omega)
  refine e.trans (congrArg some ?_)
  rcases fst_or (fun c => onB T n pl a c) a with w | ⟨i, h1, h2, h3⟩
  · rw [ff_no w, if_pos rfl, ff_lt (f := fun c => onB T n pl a c) (i := a) (on_ref T n pl a) ha (by omega) w]
  · rw [ff_lt h2 h1 (by omega) h3, if_neg (nm1 (by omega)), ff_lt h2 (by omega) (by omega) h3]
end TE
