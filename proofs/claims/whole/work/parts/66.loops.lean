/-! loops that say whether all are so, and which is the first -/
def allB (f : Nat → Bool) : Nat → Bool
  | 0 => true
  | k + 1 => allB f k && f k
def anyB (f : Nat → Bool) : Nat → Bool
  | 0 => false
  | k + 1 => anyB f k || f k
def ff (f : Nat → Bool) : Nat → Int32
  | 0 => -1
  | k + 1 => if ff f k = -1 then (if f k = true then nI k else -1) else ff f k
theorem allB_iff (f : Nat → Bool) : ∀ n, allB f n = true ↔ ∀ j, j < n → f j = true
  | 0 => ⟨fun _ j hj => absurd hj (Nat.not_lt_zero j), fun _ => rfl⟩
  | k + 1 => by
    show (allB f k && f k) = true ↔ _
    rw [Bool.and_eq_true, allB_iff f k]
    constructor
    · rintro ⟨h1, h2⟩ j hj
      by_cases z : j = k
      · rw [z]; exact h2
      · exact h1 j (by omega)
    · intro h
      exact ⟨fun j hj => h j (by omega), h k (by omega)⟩
theorem anyB_iff (f : Nat → Bool) : ∀ n, anyB f n = true ↔ ∃ j, j < n ∧ f j = true
  | 0 => ⟨fun h => absurd (show (false : Bool) = true from h) (by decide), fun ⟨j, hj, _⟩ => absurd hj (Nat.not_lt_zero j)⟩
  | k + 1 => by
    show (anyB f k || f k) = true ↔ _
    rw [Bool.or_eq_true, anyB_iff f k]
    constructor
    · rintro (⟨j, hj, h⟩ | h)
      · exact ⟨j, by omega, h⟩
      · exact ⟨k, by omega, h⟩
    · rintro ⟨j, hj, h⟩
      by_cases z : j = k
      · rw [z] at h; exact Or.inr h
      · exact Or.inl ⟨j, by omega, h⟩
theorem allB_congr {f g : Nat → Bool} : ∀ {n : Nat}, (∀ j, j < n → f j = g j) → allB f n = allB g n
  | 0, _ => rfl
  | k + 1, h => by
    show (allB f k && f k) = (allB g k && g k)
    rw [allB_congr (fun j hj => h j (by omega)), h k (by omega)]
theorem nm1 {a : Nat} (ha : a < 100000) : ¬ nI a = -1 := fun e => by
  have := congrArg Int32.toInt e
  rw [nI_toInt (by omega)] at this
  have h2 : (-1 : Int32).toInt = -1 := by decide
  omega
theorem ff_no {f : Nat → Bool} : ∀ {n : Nat}, (∀ j, j < n → f j = false) → ff f n = -1
  | 0, _ => rfl
  | k + 1, h => by
    show (if ff f k = -1 then (if f k = true then nI k else -1) else ff f k) = -1
    rw [if_pos (ff_no (fun j hj => h j (by omega))), if_neg (by rw [h k (by omega)]; decide)]
theorem ff_at {f : Nat → Bool} {i : Nat} (hi : f i = true) (hb : i < 100000) (h : ∀ j, j < i → f j = false) : ∀ d, ff f (i + 1 + d) = nI i
  | 0 => by
    show (if ff f i = -1 then (if f i = true then nI i else -1) else ff f i) = nI i
    rw [if_pos (ff_no h), if_pos hi]
  | d + 1 => by
    show (if ff f (i + 1 + d) = -1 then (if f (i + 1 + d) = true then nI (i + 1 + d) else -1) else ff f (i + 1 + d)) = nI i
    rw [ff_at hi hb h d, if_neg (nm1 hb)]
theorem ff_lt {f : Nat → Bool} {i n : Nat} (hi : f i = true) (hn : i < n) (hb : n < 100000) (h : ∀ j, j < i → f j = false) : ff f n = nI i := by
  have := ff_at hi (by omega) h (n - (i + 1))
  rw [show i + 1 + (n - (i + 1)) = n by omega] at this
  exact this
theorem fst_or (f : Nat → Bool) (n : Nat) : (∀ j, j < n → f j = false) ∨ ∃ i, i < n ∧ f i = true ∧ ∀ j, j < i → f j = false := by
  by_cases h : ∃ i, i < n ∧ f i = true
  · obtain ⟨i, ⟨h1, h2⟩, h3⟩ := pk_least (fun i => i < n ∧ f i = true) h
    refine Or.inr ⟨i, h1, h2, fun j hj => ?_⟩
    cases e : f j with
    | false => rfl
    | true => exact absurd ⟨by omega, e⟩ (h3 j hj)
  · refine Or.inl (fun j hj => ?_)
    cases e : f j with
    | false => rfl
    | true => exact absurd ⟨j, hj, e⟩ h
theorem ff_congr {f g : Nat → Bool} : ∀ {n : Nat}, (∀ j, j < n → f j = g j) → ff f n = ff g n
  | 0, _ => rfl
  | k + 1, h => by
    show (if ff f k = -1 then (if f k = true then nI k else -1) else ff f k) = (if ff g k = -1 then (if g k = true then nI k else -1) else ff g k)
    rw [ff_congr (fun j hj => h j (by omega)), h k (by omega)]
/-- all: it stops at the first that is not so -/
theorem lp_all {α : Type} {body : (α → Option Int32) → α → Option Int32} (st : Nat → α) (n : Nat) (f : Nat → Bool) (hs : ∀ i, i < n → f i = true → ∀ k, body k (st i) = k (st (i + 1))) (hf : ∀ i, i < n → f i = false → ∀ k, body k (st i) = some 0) (he : ∀ k, body k (st n) = some 1) (hn : n < 1000) : lpF body gF (st 0) = some (bi (allB f n)) := by
  rcases fst_or (fun j => !f j) n with h | ⟨i, h1, h2, h3⟩
  · have h' : ∀ j, j < n → f j = true := fun j hj => by simpa using h j hj
    rw [(allB_iff f n).mpr h']
    exact lpF_go st n (fun i hi k => hs i hi (h' i hi) k) he hn
  · have hi : f i = false := by simpa using h2
    have e : allB f n = false := by
      cases e : allB f n with
      | false => rfl
      | true => exact absurd ((allB_iff f n).mp e i h1) (by rw [hi]; decide)
    rw [e]
    exact lpF_go st i (fun j hj k => hs j (by omega) (by simpa using h3 j hj) k) (hf i h1 hi) (by omega)
/-- all: a flag is put down, and the next turn stops -/
theorem lp_all2 {α : Type} {body : (α → Option Int32) → α → Option Int32} (st fl : Nat → α) (n : Nat) (f : Nat → Bool) (hs : ∀ i, i < n → f i = true → ∀ k, body k (st i) = k (st (i + 1))) (hf : ∀ i, i < n → f i = false → ∀ k, body k (st i) = k (fl (i + 1))) (hz : ∀ i, i < n → ∀ k, body k (fl (i + 1)) = some 0) (he : ∀ k, body k (st n) = some 1) (hn : n < 999) : lpF body gF (st 0) = some (bi (allB f n)) := by
  rcases fst_or (fun j => !f j) n with h | ⟨i, h1, h2, h3⟩
  · have h' : ∀ j, j < n → f j = true := fun j hj => by simpa using h j hj
    rw [(allB_iff f n).mpr h']
    exact lpF_go st n (fun i hi k => hs i hi (h' i hi) k) he (by omega)
  · have hi : f i = false := by simpa using h2
    have e : allB f n = false := by
      cases e : allB f n with
      | false => rfl
      | true => exact absurd ((allB_iff f n).mp e i h1) (by rw [hi]; decide)
    rw [e]
    have e0 : st 0 = (fun j => if j ≤ i then st j else fl j) 0 := by
      show _ = (if 0 ≤ i then st 0 else fl 0)
      rw [if_pos (Nat.zero_le _)]
    rw [e0]
    refine lpF_go (fun j => if j ≤ i then st j else fl j) (i + 1) (fun j hj k => ?_) (fun k => ?_) (by omega)
    · show body k (if j ≤ i then st j else fl j) = k (if j + 1 ≤ i then st (j + 1) else fl (j + 1))
      rw [if_pos (by omega)]
      by_cases z : j = i
      · rw [if_neg (by omega), z]
        exact hf i h1 hi k
      · rw [if_pos (by omega)]
        exact hs j (by omega) (by simpa using h3 j (by omega)) k
    · show body k (if i + 1 ≤ i then st (i + 1) else fl (i + 1)) = _
      rw [if_neg (by omega)]
      exact hz i h1 k
/-- the first: it stops there -/
theorem lp_fst {α : Type} {body : (α → Option Int32) → α → Option Int32} (st : Nat → α) (n : Nat) (f : Nat → Bool) {e : Int32} (hs : ∀ i, i < n → f i = false → ∀ k, body k (st i) = k (st (i + 1))) (hf : ∀ i, i < n → f i = true → ∀ k, body k (st i) = some (nI i)) (he : ∀ k, body k (st n) = some e) (hn : n < 1000) : lpF body gF (st 0) = some (if ff f n = -1 then e else ff f n) := by
  rcases fst_or f n with h | ⟨i, h1, h2, h3⟩
  · rw [ff_no h, if_pos rfl]
    exact lpF_go st n (fun i hi k => hs i hi (h i hi) k) he hn
  · rw [ff_lt h2 h1 (by omega) h3, if_neg (nm1 (by omega))]
    exact lpF_go st i (fun j hj k => hs j (by omega) (h3 j hj) k) (hf i h1 h2) (by omega)
/-- the first: what was found is kept, and the next turn stops -/
theorem lp_fst2 {α ρ : Type} {body : (α → Option ρ) → α → Option ρ} (st : Nat → Int32 → α) (n : Nat) (f : Nat → Bool) (out : Int32 → ρ) (hs : ∀ i, i < n → ∀ k, body k (st i (-1)) = k (st (i + 1) (if f i = true then nI i else -1))) (hz : ∀ i, i < n → ∀ k, body k (st (i + 1) (nI i)) = some (out (nI i))) (he : ∀ k, body k (st n (-1)) = some (out (-1))) (hn : n < 999) : lpF body gF (st 0 (-1)) = some (out (ff f n)) := by
  rcases fst_or f n with h | ⟨i, h1, h2, h3⟩
  · rw [ff_no h]
    exact lpF_go (fun i => st i (-1)) n (fun i hi k => by rw [hs i hi k, if_neg (by rw [h i hi]; decide)]) he (by omega)
  · rw [ff_lt h2 h1 (by omega) h3]
    have e0 : st 0 (-1) = (fun j => if j ≤ i then st j (-1) else st j (nI i)) 0 := by
      show _ = (if 0 ≤ i then st 0 (-1) else st 0 (nI i))
      rw [if_pos (Nat.zero_le _)]
    rw [e0]
    refine lpF_go (fun j => if j ≤ i then st j (-1) else st j (nI i)) (i + 1) (fun j hj k => ?_) (fun k => ?_) (by omega)
    · show body k (if j ≤ i then st j (-1) else st j (nI i)) = k (if j + 1 ≤ i then st (j + 1) (-1) else st (j + 1) (nI i))
      rw [if_pos (by omega), hs j (by omega) k]
      by_cases z : j = i
      · rw [if_neg (show ¬ j + 1 ≤ i by omega), z, if_pos h2]
      · rw [if_pos (show j + 1 ≤ i by omega), if_neg (by rw [h3 j (by omega)]; decide)]
    · show body k (if i + 1 ≤ i then st (i + 1) (-1) else st (i + 1) (nI i)) = _
      rw [if_neg (by omega)]
      exact hz i h1 k
theorem fb_all : ∀ n, n < 65 → 1 ≤ n → ∀ j, j < 64 → tb (((-1 : Int64).toUInt64 >>> (((64 : Int32) - nI n).toInt64.toUInt64 &&& Int64.toUInt64 63)).toInt64) j = decide (j < n) := by decide +kernel
theorem f_firstBits {n : Nat} (h1 : 1 ≤ n) (h2 : n ≤ 64) : ∃ y, f_Ga_firstBits (nI n) = some y ∧ ∀ j, j < 64 → tb y j = decide (j < n) := ⟨_, rfl, fb_all n (by omega) h1⟩
theorem bi_or (a b : Bool) : bi a ||| bi b = bi (a || b) := by cases a <;> cases b <;> decide
