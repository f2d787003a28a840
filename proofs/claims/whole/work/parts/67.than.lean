/-! worse, weaker, one: both sides -/
def wrB (T : Tb) (n : Nat → Nat) (O : Nat → Bool) (pl a c : Nat) : Bool := allB (fun b => !O b || decide (va T pl a b < va T pl c b)) (n (1 - pl))
def wkB (T : Tb) (n : Nat → Nat) (pl a c : Nat) : Bool := allB (fun b => decide (va T pl a b ≤ va T pl c b)) (n (1 - pl)) && anyB (fun b => decide (va T pl a b < va T pl c b)) (n (1 - pl))
def onB (T : Tb) (n : Nat → Nat) (pl a c : Nat) : Bool := allB (fun b => decide ((if pl = 0 then T 0 a b else T 0 b a) = (if pl = 0 then T 0 c b else T 0 b c) ∧ (if pl = 0 then T 1 a b else T 1 b a) = (if pl = 0 then T 1 c b else T 1 b c))) (n (1 - pl))
section TH
variable {σ : gS} {n : Nat → Nat} {T : Tb}
theorem c_worse (h : VC σ n T) (hn : nb n) {O : Nat → Bool} {x : Int64} (hx : ∀ j, j < 64 → tb x j = O j) {pl a c : Nat} (hpl : pl < 2) (ha : a < n pl) (hc : c < n pl) : f_Ta_isWorse σ (nI pl) (nI a) (nI c) x = some (bi (wrB T n O pl a c)) := by
  have hl := nb_le hn (show 1 - pl < 2 by omega)
  unfold f_Ta_isWorse b_Ta_isWorse_0 l_Ta_isWorse_3 wrB
  refine lp_all (fun i => (nI pl, nI a, nI c, x, nI i)) (n (1 - pl)) _ (fun i hi hf k => ?_) (fun i hi hf k => ?_) (fun k => ?_) (by omega)
  · show b_Ta_isWorse_3 σ k (nI pl) (nI a) (nI c) x (nI i) = _
    unfold b_Ta_isWorse_3
    rw [f_otherThan, Option.bind_some, ot_pl hpl, ck_t (ok17 (by omega)), nI_c (by omega), c_n h (by omega), if_neg (nI_ge hi (by omega)), f_hasBit _ (by omega), Option.bind_some, hx i (by omega)]
    by_cases z : O i = true
    · rw [if_neg (bi_ne z), c_value h hn hpl ha hi, Option.bind_some, c_value h hn hpl hc hi, Option.bind_some, if_pos (by simpa [z] using hf)]
      unfold b_Ta_isWorse_48
      rw [bnd_e, nI_1]
    · rw [if_pos (bi_eq z)]
      unfold b_Ta_isWorse_48
      rw [bnd_e, nI_1]
  · show b_Ta_isWorse_3 σ k (nI pl) (nI a) (nI c) x (nI i) = _
    have hf' : O i = true ∧ ¬ va T pl a i < va T pl c i := by simpa using hf
    unfold b_Ta_isWorse_3
    rw [f_otherThan, Option.bind_some, ot_pl hpl, ck_t (ok17 (by omega)), nI_c (by omega), c_n h (by omega), if_neg (nI_ge hi (by omega)), f_hasBit _ (by omega), Option.bind_some, hx i (by omega), if_neg (bi_ne hf'.1), c_value h hn hpl ha hi, Option.bind_some, c_value h hn hpl hc hi, Option.bind_some, if_neg hf'.2]
    rfl
  · show b_Ta_isWorse_3 σ k (nI pl) (nI a) (nI c) x (nI (n (1 - pl))) = _
    unfold b_Ta_isWorse_3
    rw [f_otherThan, Option.bind_some, ot_pl hpl, ck_t (ok17 (by omega)), nI_c (by omega), c_n h (by omega), if_pos (nI_le (Nat.le_refl _) (by omega))]
    rfl
theorem m_left {O : Nat → Bool} {pl : Nat} (hpl : pl < 2) {b : Nat} (hb : b < 64) (hO : gI σ 62 (64 * pl + b) = bi (O b)) : f_Mo_isLeft σ (nI pl) (nI b) = some (bi (O b)) := by
  unfold f_Mo_isLeft b_Mo_isLeft_0
  rw [n64, ck_t (okZ_lt (k := 62) (n := 64 * pl + b) (L := 128) rfl rfl (by omega) (by decide)), nI_c (by omega), hO, ck_t (isB_bi _)]
theorem m_worse (h : VM σ n T) (hn : nb n) {O : Nat → Bool} {pl a c : Nat} (hpl : pl < 2) (hO : ∀ b, b < n (1 - pl) → gI σ 62 (64 * (1 - pl) + b) = bi (O b)) (ha : a < n pl) (hc : c < n pl) : f_Mo_isWorse σ (nI pl) (nI a) (nI c) = some (bi (wrB T n O pl a c)) := by
  have hl := nb_le hn (show 1 - pl < 2 by omega)
  unfold f_Mo_isWorse b_Mo_isWorse_0 l_Mo_isWorse_6 wrB
  refine lp_all2 (fun i => (nI pl, nI a, nI c, 1, nI i)) (fun i => (nI pl, nI a, nI c, 0, nI i)) (n (1 - pl)) _ (fun i hi hf k => ?_) (fun i hi hf k => ?_) (fun i hi k => ?_) (fun k => ?_) (by omega)
  · show b_Mo_isWorse_6 σ k (nI pl) (nI a) (nI c) 1 (nI i) = _
    unfold b_Mo_isWorse_6
    rw [ot_pl hpl, m_many h (by omega), Option.bind_some, if_neg (nI_ge hi (by omega)), if_neg (show ¬ (1 : Int32) = 0 by decide), m_left (by omega) (by omega) (hO i hi), Option.bind_some]
    by_cases z : O i = true
    · rw [if_neg (bi_ne z), m_value h hn hpl ha hi, Option.bind_some, m_value h hn hpl hc hi, Option.bind_some, if_neg (by rw [Int32.not_le]; simpa [z] using hf)]
      unfold b_Mo_isWorse_54 b_Mo_isWorse_59
      rw [bnd_e, nI_1]
    · rw [if_pos (bi_eq z)]
      unfold b_Mo_isWorse_54 b_Mo_isWorse_59
      rw [bnd_e, nI_1]
  · show b_Mo_isWorse_6 σ k (nI pl) (nI a) (nI c) 1 (nI i) = _
    have hf' : O i = true ∧ ¬ va T pl a i < va T pl c i := by simpa using hf
    unfold b_Mo_isWorse_6
    rw [ot_pl hpl, m_many h (by omega), Option.bind_some, if_neg (nI_ge hi (by omega)), if_neg (show ¬ (1 : Int32) = 0 by decide), m_left (by omega) (by omega) (hO i hi), Option.bind_some, if_neg (bi_ne hf'.1), m_value h hn hpl ha hi, Option.bind_some, m_value h hn hpl hc hi, Option.bind_some, if_pos (by rw [← Int32.not_lt]; exact hf'.2)]
    unfold b_Mo_isWorse_59
    rw [bnd_e, nI_1]
  · show b_Mo_isWorse_6 σ k (nI pl) (nI a) (nI c) 0 (nI (i + 1)) = _
    unfold b_Mo_isWorse_6
    rw [ot_pl hpl, m_many h (by omega), Option.bind_some, if_pos rfl, ite_self]
    rfl
  · show b_Mo_isWorse_6 σ k (nI pl) (nI a) (nI c) 1 (nI (n (1 - pl))) = _
    unfold b_Mo_isWorse_6
    rw [ot_pl hpl, m_many h (by omega), Option.bind_some, if_pos (nI_le (Nat.le_refl _) (by omega))]
    rfl
theorem c_weak (h : VC σ n T) (hn : nb n) {pl a c : Nat} (hpl : pl < 2) (ha : a < n pl) (hc : c < n pl) : f_Ta_isWeaklyWorse σ (nI pl) (nI a) (nI c) = some (bi (wkB T n pl a c)) := by
  have hl := nb_le hn (show 1 - pl < 2 by omega)
  unfold f_Ta_isWeaklyWorse b_Ta_isWeaklyWorse_0 l_Ta_isWeaklyWorse_6 wkB
  generalize hle : (fun b => decide (va T pl a b ≤ va T pl c b)) = le
  generalize hlt : (fun b => decide (va T pl a b < va T pl c b)) = lt
  have hle' : ∀ b, le b = decide (va T pl a b ≤ va T pl c b) := fun b => by rw [← hle]
  have hlt' : ∀ b, lt b = decide (va T pl a b < va T pl c b) := fun b => by rw [← hlt]
  have pre : ∀ i, i < n (1 - pl) → ∀ k f, b_Ta_isWeaklyWorse_6 σ k (nI pl) (nI a) (nI c) (bi f) (nI i) = if va T pl a i ≤ va T pl c i then k (nI pl, nI a, nI c, bi (f || lt i), nI (i + 1)) else some 0 := fun i hi k f => by
    unfold b_Ta_isWeaklyWorse_6
    rw [f_otherThan, Option.bind_some, ot_pl hpl, ck_t (ok17 (by omega)), nI_c (by omega), c_n h (by omega), if_neg (nI_ge hi (by omega)), c_value h hn hpl ha hi, Option.bind_some, c_value h hn hpl hc hi, Option.bind_some]
    by_cases z : va T pl a i ≤ va T pl c i
    · rw [if_pos z, if_pos z]
      by_cases z2 : va T pl c i ≤ va T pl a i
      · have e : lt i = false := by rw [hlt']; simpa using z2
        rw [if_pos z2, e]
        unfold b_Ta_isWeaklyWorse_63
        rw [bnd_e, bnd_e, nI_1, show (0 : Int32) = bi false from rfl, bi_or]
      · have e : lt i = true := by rw [hlt']; simpa using z2
        rw [if_neg z2, e]
        unfold b_Ta_isWeaklyWorse_63
        rw [bnd_e, bnd_e, nI_1, show (1 : Int32) = bi true from rfl, bi_or]
    · rw [if_neg z, if_neg z]
      rfl
  rcases fst_or (fun j => !le j) (n (1 - pl)) with w | ⟨i, h1, h2, h3⟩
  · have w' : ∀ j, j < n (1 - pl) → va T pl a j ≤ va T pl c j := fun j hj => by
      have := w j hj
      rw [hle'] at this
      simpa using this
    rw [(allB_iff le _).mpr (fun j hj => by rw [hle']; simpa using w' j hj), Bool.true_and]
    refine lpF_go (fun i => (nI pl, nI a, nI c, bi (anyB lt i), nI i)) (n (1 - pl)) (fun i hi k => ?_) (fun k => ?_) (by omega)
    · exact (pre i hi k (anyB lt i)).trans (if_pos (w' i hi))
    · show b_Ta_isWeaklyWorse_6 σ k (nI pl) (nI a) (nI c) (bi (anyB lt (n (1 - pl)))) (nI (n (1 - pl))) = _
      unfold b_Ta_isWeaklyWorse_6
      rw [f_otherThan, Option.bind_some, ot_pl hpl, ck_t (ok17 (by omega)), nI_c (by omega), c_n h (by omega), if_pos (nI_le (Nat.le_refl _) (by omega)), ck_t (isB_bi _)]
  · have h2' : le i = false := by simpa using h2
    have e : allB le (n (1 - pl)) = false := by
      cases e : allB le (n (1 - pl)) with
      | false => rfl
      | true => exact absurd ((allB_iff le _).mp e i h1) (by rw [h2']; decide)
    rw [e, Bool.false_and]
    refine lpF_go (fun i => (nI pl, nI a, nI c, bi (anyB lt i), nI i)) i (fun j hj k => ?_) (fun k => ?_) (by omega)
    · have h3' : le j = true := by simpa using h3 j hj
      rw [hle'] at h3'
      exact (pre j (by omega) k (anyB lt j)).trans (if_pos (by simpa using h3'))
    · rw [hle'] at h2'
      exact (pre i h1 k (anyB lt i)).trans (if_neg (fun y => by simp [y] at h2'))
theorem m_weak (h : VM σ n T) (hn : nb n) {pl a c : Nat} (hpl : pl < 2) (ha : a < n pl) (hc : c < n pl) : f_Mo_isWeaker σ (nI pl) (nI a) (nI c) = some (bi (wkB T n pl a c)) := by
  have hl := nb_le hn (show 1 - pl < 2 by omega)
  unfold f_Mo_isWeaker b_Mo_isWeaker_0 l_Mo_isWeaker_9 wkB
  generalize hle : (fun b => decide (va T pl a b ≤ va T pl c b)) = le
  generalize hlt : (fun b => decide (va T pl a b < va T pl c b)) = lt
  have hle' : ∀ b, le b = decide (va T pl a b ≤ va T pl c b) := fun b => by rw [← hle]
  have hlt' : ∀ b, lt b = decide (va T pl a b < va T pl c b) := fun b => by rw [← hlt]
  refine lpF_go (fun i => (nI pl, nI a, nI c, bi (allB le i), bi (anyB lt i), nI i)) (n (1 - pl)) (fun i hi k => ?_) (fun k => ?_) (by omega)
  · show b_Mo_isWeaker_9 σ k (nI pl) (nI a) (nI c) (bi (allB le i)) (bi (anyB lt i)) (nI i) = k (nI pl, nI a, nI c, bi (allB le i && le i), bi (anyB lt i || lt i), nI (i + 1))
    have e50 : ∀ y, b_Mo_isWeaker_50 σ k (nI pl) (nI a) (nI c) (bi (anyB lt i)) (nI i) y = k (nI pl, nI a, nI c, y, bi (anyB lt i || lt i), nI (i + 1)) := fun y => by
      unfold b_Mo_isWeaker_50
      by_cases z : anyB lt i = true
      · rw [if_neg (bi_ne z), z, Bool.true_or]
        unfold b_Mo_isWeaker_76 b_Mo_isWeaker_81
        rw [bnd_e, nI_1]
        rfl
      · have z' : anyB lt i = false := by simpa using z
        rw [if_pos (bi_eq z), z', Bool.false_or, m_value h hn hpl ha hi, Option.bind_some, m_value h hn hpl hc hi, Option.bind_some]
        by_cases z2 : va T pl c i ≤ va T pl a i
        · have e : lt i = false := by rw [hlt']; simpa using z2
          rw [if_pos z2, e]
          unfold b_Mo_isWeaker_81
          rw [bnd_e, nI_1]
          rfl
        · have e : lt i = true := by rw [hlt']; simpa using z2
          rw [if_neg z2, e]
          unfold b_Mo_isWeaker_76 b_Mo_isWeaker_81
          rw [bnd_e, nI_1]
          rfl
    unfold b_Mo_isWeaker_9 b_Mo_isWeaker_49
    rw [ot_pl hpl, m_many h (by omega), Option.bind_some, if_neg (nI_ge hi (by omega)), e50, e50, m_value h hn hpl ha hi, Option.bind_some, m_value h hn hpl hc hi, Option.bind_some]
    by_cases z : allB le i = true
    · rw [if_neg (bi_ne z), z, Bool.true_and]
      by_cases z2 : va T pl c i < va T pl a i
      · have e : le i = false := by rw [hle']; simpa using z2
        rw [if_pos z2, e]
        rfl
      · have e : le i = true := by rw [hle']; simpa using z2
        rw [if_neg z2, e]
        rfl
    · have z' : allB le i = false := by simpa using z
      rw [if_pos (bi_eq z), z', Bool.false_and]
      rfl
  · show b_Mo_isWeaker_9 σ k (nI pl) (nI a) (nI c) (bi (allB le (n (1 - pl)))) (bi (anyB lt (n (1 - pl)))) (nI (n (1 - pl))) = _
    unfold b_Mo_isWeaker_9
    rw [ot_pl hpl, m_many h (by omega), Option.bind_some, if_pos (nI_le (Nat.le_refl _) (by omega))]
    cases allB le (n (1 - pl)) <;> cases anyB lt (n (1 - pl)) <;> rfl
end TH
