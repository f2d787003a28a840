/-! bits, small functions -/
def tb (x : Int64) (j : Nat) : Bool := x.toBitVec.getLsbD j
def bi (b : Bool) : Int32 := if b = true then 1 else 0
theorem bi_isB (b : Bool) : isB (bi b) = true := by cases b <;> decide
theorem bi_0 (b : Bool) : bi b = 0 ↔ b = false := by cases b <;> decide
theorem bi_1 (b : Bool) : bi b = 1 ↔ b = true := by cases b <;> decide
theorem lg_cmp_0 (x y : Int64) : lg_cmp x y = 0 ↔ x = y := by
  unfold lg_cmp
  by_cases h : x > y
  · rw [if_pos h]
    refine ⟨fun q => absurd q (by decide), fun q => ?_⟩
    subst q
    exact absurd h (by simp)
  · rw [if_neg h]
    by_cases h2 : x = y
    · rw [if_pos h2]
      exact ⟨fun _ => h2, fun _ => rfl⟩
    · rw [if_neg h2]
      exact ⟨fun q => absurd q (by decide), fun q => absurd q h2⟩
theorem sh_cu : ∀ k, k < 64 → ((nI k).toInt64.toUInt64 &&& Int64.toUInt64 63).toNat = k := by decide +kernel
theorem sh_c : ∀ k, k < 64 → ((1 : Int64) <<< ((nI k).toInt64 &&& 63)).toBitVec = BitVec.twoPow 64 k := by decide +kernel
theorem tb_bit {w : Int64} {s : UInt64} {j : Nat} (hj : j < 64) (hs : s.toNat = j) : ((w.toUInt64 >>> s).toInt64 &&& 1) = 0 ↔ tb w j = false := by
  have e : (w.toUInt64 >>> s).toInt64.toBitVec = w.toBitVec >>> j := by
    apply BitVec.eq_of_toNat_eq
    show (w.toUInt64 >>> s).toNat = _
    rw [UInt64.toNat_shiftRight, hs, Nat.mod_eq_of_lt hj, BitVec.toNat_ushiftRight]
    rfl
  rw [← Int64.toBitVec_inj, Int64.toBitVec_and, e]
  show w.toBitVec >>> j &&& 1#64 = 0#64 ↔ w.toBitVec.getLsbD j = false
  constructor
  · intro h
    have t := congrArg (fun x => x.getLsbD 0) h
    simpa using t
  · intro h
    apply BitVec.eq_of_getLsbD_eq
    intro i hi
    cases i with
    | zero => simp [h]
    | succ i => simp
theorem f_hasBit (x : Int64) {j : Nat} (hj : j < 64) : f_Ga_hasBit x (nI j) = some (bi (tb x j)) := by
  unfold f_Ga_hasBit b_Ga_hasBit_0
  have h := tb_bit (w := x) hj (sh_cu j hj)
  by_cases q : tb x j = false
  · rw [if_pos ((lg_cmp_0 _ _).mpr (h.mpr q)), q]
    rfl
  · rw [if_neg (fun z => q (h.mp ((lg_cmp_0 _ _).mp z)))]
    have : tb x j = true := by simpa using q
    rw [this]
    rfl
theorem tb_or (x y : Int64) (j : Nat) : tb (x ||| y) j = (tb x j || tb y j) := by
  unfold tb
  rw [Int64.toBitVec_or, BitVec.getLsbD_or]
theorem tb_and (x y : Int64) (j : Nat) : tb (x &&& y) j = (tb x j && tb y j) := by
  unfold tb
  rw [Int64.toBitVec_and, BitVec.getLsbD_and]
theorem tb_xor (x y : Int64) (j : Nat) : tb (x ^^^ y) j = (tb x j ^^ tb y j) := by
  unfold tb
  rw [Int64.toBitVec_xor, BitVec.getLsbD_xor]
theorem tb_m1 : ∀ j, j < 64 → tb (-1) j = true := by decide +kernel
theorem tb_0 (j : Nat) : tb 0 j = false := by
  show (0#64).getLsbD j = false
  simp
theorem tb_one {k : Nat} (hk : k < 64) (j : Nat) : tb ((1 : Int64) <<< ((nI k).toInt64 &&& 63)) j = decide (j = k) := by
  unfold tb
  rw [sh_c k hk, BitVec.getLsbD_twoPow]
  by_cases h : j = k
  · subst h
    simp [hk]
  · have h2 : ¬ k = j := fun q => h q.symm
    simp [h, h2]
theorem tb_ext {x y : Int64} (h : ∀ j, j < 64 → tb x j = tb y j) : x = y := by
  apply Int64.toBitVec_inj.mp
  exact BitVec.eq_of_getLsbD_eq h
theorem tb_big (x : Int64) {j : Nat} (h : 64 ≤ j) : tb x j = false := BitVec.getLsbD_of_ge x.toBitVec j h
/-- ints as rows of bits -/
def ti (x : Int32) (j : Nat) : Bool := x.toBitVec.getLsbD j
theorem ti_or (x y : Int32) (j : Nat) : ti (x ||| y) j = (ti x j || ti y j) := by
  unfold ti
  rw [Int32.toBitVec_or, BitVec.getLsbD_or]
theorem ti_0 (j : Nat) : ti 0 j = false := by
  show (0#32).getLsbD j = false
  simp
theorem sh_i : ∀ k, k < 32 → ((1 : Int32) <<< (nI k &&& 31)).toBitVec = BitVec.twoPow 32 k := by decide +kernel
theorem ti_one {k : Nat} (hk : k < 32) (j : Nat) : ti ((1 : Int32) <<< (nI k &&& 31)) j = decide (j = k) := by
  unfold ti
  rw [sh_i k hk, BitVec.getLsbD_twoPow]
  by_cases h : j = k
  · subst h
    simp [hk]
  · have h2 : ¬ k = j := fun q => h q.symm
    simp [h, h2]
theorem ti_tb (x : Int32) {j : Nat} (hj : j < 32) : tb x.toInt64 j = ti x j := by
  unfold tb ti
  show (x.toBitVec.signExtend 64).getLsbD j = _
  rw [BitVec.getLsbD_signExtend]
  simp [hj]
  omega
/-- between two numbers -/
def am (x a b : Int32) : Bool := decide (a ≤ x) && decide (x ≤ b)
theorem f_isAmong (x a b : Int32) : f_Ga_isAmong x a b = some (bi (am x a b)) := by
  unfold f_Ga_isAmong b_Ga_isAmong_0 am
  by_cases h1 : x < a
  · rw [if_pos h1]
    have : ¬ a ≤ x := Int32.not_le.mpr h1
    simp [this]
    rfl
  · rw [if_neg h1]
    have h1' : a ≤ x := Int32.not_lt.mp h1
    by_cases h2 : b < x
    · rw [if_pos h2]
      have : ¬ x ≤ b := Int32.not_le.mpr h2
      simp [this]
      rfl
    · rw [if_neg h2]
      have h2' : x ≤ b := Int32.not_lt.mp h2
      simp [h1', h2']
      rfl
theorem f_isFrom (x a b : Int32) : f_Mo_isFrom x a b = some (bi (am x a b)) := f_isAmong x a b
def i01 (x : Int32) : Bool := decide (x = 0) || decide (x = 1)
theorem f_isPlayer (x : Int32) : f_Ga_isPlayer x = some (bi (i01 x)) := by
  unfold f_Ga_isPlayer b_Ga_isPlayer_0 i01
  by_cases h1 : x = 0
  · rw [if_pos h1]
    simp [h1]
    rfl
  · rw [if_neg h1]
    by_cases h2 : x = 1
    · rw [if_pos h2]
      simp [h2]
      rfl
    · rw [if_neg h2]
      simp [h1, h2]
      rfl
theorem i01_am (x : Int32) : am x 0 1 = i01 x := by
  unfold am i01
  rw [Bool.eq_iff_iff]
  simp only [Bool.and_eq_true, Bool.or_eq_true, decide_eq_true_eq, Int32.le_iff_toInt_le, ← Int32.toInt_inj]
  show (0 : Int) ≤ x.toInt ∧ x.toInt ≤ 1 ↔ x.toInt = 0 ∨ x.toInt = 1
  omega
theorem f_otherThan (x : Int32) : f_Ga_otherThan x = some (1 - x) := rfl
/-- a number among 0 .. n-1 -/
theorem am_nI {x : Int32} {n : Nat} (hn : n < 2 ^ 31) : am x 0 (nI n - 1) = true ↔ ∃ j, j < n ∧ x = nI j := by
  unfold am
  simp only [Bool.and_eq_true, decide_eq_true_eq]
  constructor
  · rintro ⟨h1, h2⟩
    obtain ⟨j, hj, rfl⟩ := nI_of (x := x) (Int32.not_lt.mpr h1)
    refine ⟨j, ?_, rfl⟩
    rw [Int32.le_iff_toInt_le, nI_toInt hj] at h2
    cases n with
    | zero =>
      have : (nI 0 - 1).toInt = -1 := by decide
      omega
    | succ n =>
      rw [nI_pred, nI_toInt (by omega)] at h2
      omega
  · rintro ⟨j, hj, rfl⟩
    refine ⟨nI_pos' (by omega), ?_⟩
    cases n with
    | zero => omega
    | succ n =>
      rw [nI_pred]
      exact nI_le (by omega) (by omega)
