/-! a forest in numbers: (nodes, sets), (sort, set, children's number, parent; 40: none), (height, chances, children), (owner, acts, worths) -/
abbrev Fr : Type := (Nat × Nat) × ((Nat → Nat) × (Nat → Nat) × (Nat → Nat) × (Nat → Nat)) × ((Nat → Nat) × (Nat → Nat) × (Nat → Nat → Nat)) × ((Nat → Nat) × (Nat → Nat) × (Nat → Nat → Int32))
abbrev jn (F : Fr) : Nat := F.1.1
abbrev jk (F : Fr) : Nat := F.1.2
abbrev jso (F : Fr) : Nat → Nat := F.2.1.1
abbrev jse (F : Fr) : Nat → Nat := F.2.1.2.1
abbrev jcn (F : Fr) : Nat → Nat := F.2.1.2.2.1
abbrev jpa (F : Fr) : Nat → Nat := F.2.1.2.2.2
abbrev jhe (F : Fr) : Nat → Nat := F.2.2.1.1
abbrev jcc (F : Fr) : Nat → Nat := F.2.2.1.2.1
abbrev jch (F : Fr) : Nat → Nat → Nat := F.2.2.1.2.2
abbrev jow (F : Fr) : Nat → Nat := F.2.2.2.1
abbrev jac (F : Fr) : Nat → Nat := F.2.2.2.2.1
abbrev jwo (F : Fr) : Nat → Nat → Int32 := F.2.2.2.2.2
/-- i lies at m or below it -/
def bel (pa : Nat → Nat) (m : Nat) : Nat → Nat → Bool
  | 0, i => i == m
  | f + 1, i => i == m || (decide (pa i < 40) && bel pa m f (pa i))
def bl (F : Fr) (m i : Nat) : Bool := bel (jpa F) m 40 i
/-- a set has a node at m or below -/
def ins (F : Fr) (m k : Nat) : Bool := (List.range 40).any fun i => decide (i < jn F) && (bl F m i && (jso F i == 2 && jse F i == k))
/-- the product of the acts of a player's sets among the first ones -/
def prd (b : Nat → Bool) (ow ac : Nat → Nat) (pl : Nat) : Nat → Nat
  | 0 => 1
  | k + 1 => prd b ow ac pl k * (if b k = true ∧ ow k = pl then ac k else 1)
def pls (F : Fr) (m pl : Nat) : Nat := prd (ins F m) (jow F) (jac F) pl 10
def WFB (B : Nat) (F : Fr) : Prop :=
  (jn F ≤ 40 ∧ jk F ≤ 10) ∧ (∀ k, k < jk F → jow F k < 2 ∧ (jac F k = 2 ∨ jac F k = 3)) ∧
  (∀ i, i < jn F → jso F i ≤ 2 ∧ jcn F i ≤ 3 ∧ (jso F i = 0 → jcn F i = 0) ∧ (jso F i = 1 → 1 ≤ jcn F i) ∧ (jso F i = 2 → jse F i < jk F ∧ jcn F i = jac F (jse F i))) ∧
  (∀ i, i < jn F → ∀ j, j < jcn F i → jch F i j < i ∧ jpa F (jch F i j) = i ∧ ∀ j', j' < jcn F i → jch F i j' = jch F i j → j' = j) ∧
  (∀ i, i < jn F → jpa F i < 40 → jpa F i < jn F ∧ ∃ j, j < jcn F (jpa F i) ∧ jch F (jpa F i) j = i) ∧
  (∀ i, i < jn F → jhe F i ≤ 8 ∧ jcc F i ≤ 5 ∧ ∀ j, j < jcn F i → jhe F (jch F i j) < jhe F i ∧ jcc F (jch F i j) + (if jso F i = 1 then 1 else 0) ≤ jcc F i) ∧
  (∀ i, i < jn F → jso F i = 0 → ∀ w, w < 2 → -100 ≤ (jwo F i w).toInt ∧ (jwo F i w).toInt ≤ 100) ∧
  (∀ m, m < jn F → ∀ pl, pl < 2 → pls F m pl ≤ B)
abbrev WF (F : Fr) : Prop := WFB 64 F
theorem WFB.up {F : Fr} {B : Nat} (h : WFB B F) {i : Nat} (hi : i < jn F) (hp : jpa F i < 40) : i < jpa F i ∧ jpa F i < jn F := by
  obtain ⟨h1, j, hj, e⟩ := h.2.2.2.2.1 i hi hp
  have h2 := (h.2.2.2.1 _ h1 j hj).1
  rw [e] at h2
  exact ⟨h2, h1⟩
theorem bel_st {F : Fr} {B : Nat} (h : WFB B F) (m : Nat) : ∀ (f i : Nat), i < jn F → 40 - i ≤ f → bel (jpa F) m f i = bel (jpa F) m (f + 1) i
  | 0, i, hi, hf => by have := h.1.1; omega
  | f + 1, i, hi, hf => by
    show (i == m || (decide (jpa F i < 40) && bel (jpa F) m f (jpa F i))) = (i == m || (decide (jpa F i < 40) && bel (jpa F) m (f + 1) (jpa F i)))
    by_cases hp : jpa F i < 40
    · obtain ⟨h1, h2⟩ := h.up hi hp
      rw [bel_st h m f (jpa F i) h2 (by omega)]
    · simp [hp]
theorem bel_ge {F : Fr} {B : Nat} (h : WFB B F) (m : Nat) {i : Nat} (hi : i < jn F) : ∀ (d f : Nat), 40 - i ≤ f → bel (jpa F) m (f + d) i = bel (jpa F) m f i
  | 0, f, hf => rfl
  | d + 1, f, hf => by
    rw [← Nat.add_assoc, ← bel_st h m (f + d) i hi (by omega)]
    exact bel_ge h m hi d f hf
theorem bl_eq {F : Fr} {B : Nat} (h : WFB B F) (m : Nat) {i : Nat} (hi : i < jn F) : bl F m i = (i == m || (decide (jpa F i < 40) && bl F m (jpa F i))) := by
  unfold bl
  show (i == m || (decide (jpa F i < 40) && bel (jpa F) m 39 (jpa F i))) = _
  by_cases hp : jpa F i < 40
  · obtain ⟨h1, h2⟩ := h.up hi hp
    rw [← bel_ge h m h2 1 39 (by omega)]
  · simp [hp]
theorem bl_self (F : Fr) (m : Nat) : bl F m m = true := by
  unfold bl
  show (m == m || _) = true
  simp
/-- a node lies at or below only such as are not lesser -/
theorem bl_le {F : Fr} {B : Nat} (h : WFB B F) {m : Nat} : ∀ (d i : Nat), i < jn F → 40 - i ≤ d → bl F m i = true → i ≤ m
  | 0, i, hi, hd, _ => by have := h.1.1; omega
  | d + 1, i, hi, hd, q => by
    rw [bl_eq h m hi] at q
    simp only [Bool.or_eq_true, Bool.and_eq_true, beq_iff_eq, decide_eq_true_eq] at q
    rcases q with q | ⟨q1, q2⟩
    · omega
    · obtain ⟨h1, h2⟩ := h.up hi q1
      have := bl_le h d (jpa F i) h2 (by omega) q2
      omega
theorem ins_iff (F : Fr) (h : jn F ≤ 40) (m k : Nat) : ins F m k = true ↔ ∃ i, i < jn F ∧ bl F m i = true ∧ jso F i = 2 ∧ jse F i = k := by
  unfold ins
  rw [List.any_eq_true]
  constructor
  · rintro ⟨i, -, q⟩
    simp only [Bool.and_eq_true, beq_iff_eq, decide_eq_true_eq] at q
    exact ⟨i, q.1, q.2.1, q.2.2.1, q.2.2.2⟩
  · rintro ⟨i, q1, q2, q3, q4⟩
    refine ⟨i, List.mem_range.mpr (by omega), ?_⟩
    simp only [Bool.and_eq_true, beq_iff_eq, decide_eq_true_eq]
    exact ⟨q1, q2, q3, q4⟩
theorem ins_lt {F : Fr} {B : Nat} (h : WFB B F) {m k : Nat} (q : ins F m k = true) : k < jk F := by
  obtain ⟨i, h1, -, h2, h3⟩ := (ins_iff F h.1.1 m k).mp q
  have := ((h.2.2.1 i h1).2.2.2.2 h2).1
  omega
theorem prd_congr {b b' : Nat → Bool} {ow ow' ac ac' : Nat → Nat} {pl : Nat} : ∀ (s : Nat), (∀ k, k < s → b k = b' k ∧ (b k = true → ow k = ow' k ∧ ac k = ac' k)) → prd b ow ac pl s = prd b' ow' ac' pl s
  | 0, _ => rfl
  | s + 1, h => by
    show prd b ow ac pl s * _ = prd b' ow' ac' pl s * _
    rw [prd_congr s (fun k hk => h k (by omega))]
    obtain ⟨h1, h2⟩ := h s (by omega)
    by_cases q : b s = true
    · obtain ⟨h3, h4⟩ := h2 q
      rw [← h1, h3, h4]
    · rw [if_neg (fun z => q z.1), if_neg (fun z => q (h1.trans z.1))]
theorem prd_more {b : Nat → Bool} {ow ac : Nat → Nat} {pl s : Nat} : ∀ (d : Nat), (∀ k, s ≤ k → b k = false) → prd b ow ac pl (s + d) = prd b ow ac pl s
  | 0, _ => rfl
  | d + 1, h => by
    have e : prd b ow ac pl (s + (d + 1)) = prd b ow ac pl (s + d) * (if b (s + d) = true ∧ ow (s + d) = pl then ac (s + d) else 1) := rfl
    rw [e, prd_more d h, if_neg (fun z => by rw [h (s + d) (by omega)] at z; exact absurd z.1 (by decide)), Nat.mul_one]
theorem prd_10 {F : Fr} {B : Nat} (h : WFB B F) (m pl : Nat) : prd (ins F m) (jow F) (jac F) pl (jk F) = pls F m pl := by
  unfold pls
  have e : 10 = jk F + (10 - jk F) := by have := h.1.2; omega
  rw [e]
  refine (prd_more _ (fun k hk => ?_)).symm
  cases q : ins F m k with
  | false => rfl
  | true =>
    have := ins_lt h q
    omega
theorem prd_pos {b : Nat → Bool} {ow ac : Nat → Nat} {pl : Nat} : ∀ (s : Nat), (∀ k, k < s → b k = true → 1 ≤ ac k) → 1 ≤ prd b ow ac pl s
  | 0, _ => Nat.le_refl 1
  | s + 1, h => by
    show 1 ≤ prd b ow ac pl s * _
    have h1 := prd_pos (pl := pl) (ow := ow) s (fun k hk => h k (by omega))
    split
    · rename_i q
      exact Nat.mul_pos h1 (h s (by omega) q.1)
    · omega
theorem prd_le {b : Nat → Bool} {ow ac : Nat → Nat} {pl : Nat} : ∀ (s : Nat), (∀ k, k < s → b k = true → ac k ≤ 3) → prd b ow ac pl s ≤ 3 ^ s
  | 0, _ => Nat.le_refl 1
  | s + 1, h => by
    show prd b ow ac pl s * _ ≤ 3 ^ s * 3
    have h1 := prd_le (pl := pl) (ow := ow) s (fun k hk => h k (by omega))
    refine Nat.mul_le_mul h1 ?_
    split
    · rename_i q
      exact h s (by omega) q.1
    · omega
/-- a node more -/
def isC (cnt : Nat) (c : Nat → Nat) (i : Nat) : Bool := (decide (0 < cnt) && c 0 == i) || ((decide (1 < cnt) && c 1 == i) || (decide (2 < cnt) && c 2 == i))
theorem isC_iff {cnt : Nat} (h : cnt ≤ 3) (c : Nat → Nat) (i : Nat) : isC cnt c i = true ↔ ∃ j, j < cnt ∧ c j = i := by
  unfold isC
  simp only [Bool.or_eq_true, Bool.and_eq_true, beq_iff_eq, decide_eq_true_eq]
  constructor
  · rintro (q | q | q)
    · exact ⟨0, q⟩
    · exact ⟨1, q⟩
    · exact ⟨2, q⟩
  · rintro ⟨j, h1, h2⟩
    rcases (show j = 0 ∨ j = 1 ∨ j = 2 by omega) with rfl | rfl | rfl
    · exact Or.inl ⟨h1, h2⟩
    · exact Or.inr (Or.inl ⟨h1, h2⟩)
    · exact Or.inr (Or.inr ⟨h1, h2⟩)
def addN (F : Fr) (sort set cnt : Nat) (c : Nat → Nat) (hei cch : Nat) (w : Nat → Int32) : Fr :=
  ((jn F + 1, jk F), (va_up (jso F) (jn F) sort, va_up (jse F) (jn F) set, va_up (jcn F) (jn F) cnt, fun i => if i = jn F then 40 else if isC cnt c i = true then jn F else jpa F i), (va_up (jhe F) (jn F) hei, va_up (jcc F) (jn F) cch, va_up (jch F) (jn F) c), (jow F, jac F, va_up (jwo F) (jn F) w))
/-- what a new node must keep to -/
def okN (F : Fr) (sort set cnt : Nat) (c : Nat → Nat) (hei cch : Nat) (w : Nat → Int32) : Prop :=
  jn F < 40 ∧ sort ≤ 2 ∧ cnt ≤ 3 ∧ (sort = 0 → cnt = 0) ∧ (sort = 1 → 1 ≤ cnt) ∧ (sort = 2 → set < jk F ∧ cnt = jac F set) ∧
  (∀ j, j < cnt → c j < jn F ∧ ¬ jpa F (c j) < 40 ∧ (∀ j', j' < cnt → c j' = c j → j' = j) ∧ jhe F (c j) < hei ∧ jcc F (c j) + (if sort = 1 then 1 else 0) ≤ cch) ∧ hei ≤ 8 ∧ cch ≤ 5 ∧ (sort = 0 → ∀ v, v < 2 → -100 ≤ (w v).toInt ∧ (w v).toInt ≤ 100)
section AD
variable {F : Fr} {sort set cnt : Nat} {c : Nat → Nat} {hei cch : Nat} {w : Nat → Int32}
theorem ad_old {B : Nat} (h : WFB B F) (hk : okN F sort set cnt c hei cch w) {m : Nat} (hm : m < jn F) : ∀ (f i : Nat), i < jn F → bel (jpa (addN F sort set cnt c hei cch w)) m f i = bel (jpa F) m f i
  | 0, i, hi => rfl
  | f + 1, i, hi => by
    show (i == m || (decide (jpa (addN F sort set cnt c hei cch w) i < 40) && bel _ m f (jpa (addN F sort set cnt c hei cch w) i))) = (i == m || (decide (jpa F i < 40) && bel (jpa F) m f (jpa F i)))
    have e0 : jpa (addN F sort set cnt c hei cch w) i = if i = jn F then 40 else if isC cnt c i = true then jn F else jpa F i := rfl
    rw [if_neg (by omega)] at e0
    by_cases q : isC cnt c i = true
    · rw [if_pos q] at e0
      obtain ⟨j, hj, rfl⟩ := (isC_iff hk.2.2.1 c i).mp q
      have hp := (hk.2.2.2.2.2.2.1 j hj).2.1
      rw [e0]
      have hz : bel (jpa (addN F sort set cnt c hei cch w)) m f (jn F) = false := by
        have e1 : jpa (addN F sort set cnt c hei cch w) (jn F) = 40 := if_pos rfl
        have e2 : (jn F == m) = false := by simp; omega
        cases f with
        | zero => exact e2
        | succ f =>
          show (jn F == m || (decide (jpa (addN F sort set cnt c hei cch w) (jn F) < 40) && _)) = false
          rw [e1, e2]
          rfl
      rw [hz]
      simp [hp]
    · rw [if_neg q] at e0
      rw [e0]
      by_cases hp : jpa F i < 40
      · rw [ad_old h hk hm f (jpa F i) (h.up hi hp).2]
      · simp [hp]
theorem ad_new {B : Nat} (h : WFB B F) (hk : okN F sort set cnt c hei cch w) : ∀ (f i : Nat), i < jn F → (bel (jpa (addN F sort set cnt c hei cch w)) (jn F) (f + 1) i = true ↔ ∃ j, j < cnt ∧ bel (jpa F) (c j) f i = true)
  | f, i, hi => by
    have e0 : jpa (addN F sort set cnt c hei cch w) i = if i = jn F then 40 else if isC cnt c i = true then jn F else jpa F i := rfl
    rw [if_neg (by omega)] at e0
    have e3 : (i == jn F) = false := by simp; omega
    have e4 : bel (jpa (addN F sort set cnt c hei cch w)) (jn F) (f + 1) i = (decide (jpa (addN F sort set cnt c hei cch w) i < 40) && bel (jpa (addN F sort set cnt c hei cch w)) (jn F) f (jpa (addN F sort set cnt c hei cch w) i)) := by
      show (i == jn F || _) = _
      rw [e3]
      rfl
    rw [e4]
    by_cases q : isC cnt c i = true
    · rw [if_pos q] at e0
      have q' := (isC_iff hk.2.2.1 c i).mp q
      obtain ⟨j, hj, hji⟩ := q'
      have hs : ∀ f, bel (jpa (addN F sort set cnt c hei cch w)) (jn F) f (jn F) = true := by
        intro f
        cases f with
        | zero => show (jn F == jn F) = true; simp
        | succ f => show (jn F == jn F || _) = true; simp
      have hs2 : bel (jpa F) (c j) f i = true := by
        rw [hji]
        cases f with
        | zero => show (i == i) = true; simp
        | succ f => show (i == i || _) = true; simp
      rw [e0, hs]
      have := hk.1
      simp only [this, decide_true, Bool.and_self, true_iff]
      exact ⟨j, hj, hs2⟩
    · rw [if_neg q] at e0
      rw [e0]
      have hne : ∀ j, j < cnt → (i == c j) = false := fun j hj => by
        simp only [beq_eq_false_iff_ne, ne_eq]
        exact fun z => q ((isC_iff hk.2.2.1 c i).mpr ⟨j, hj, z.symm⟩)
      by_cases hp : jpa F i < 40
      · have hup := (h.up hi hp)
        simp only [hp, decide_true, Bool.true_and]
        cases f with
        | zero =>
          have : bel (jpa (addN F sort set cnt c hei cch w)) (jn F) 0 (jpa F i) = false := by
            show (jpa F i == jn F) = false
            simp
            omega
          rw [this]
          refine ⟨fun z => (by cases z), ?_⟩
          rintro ⟨j, hj, z⟩
          have z' : (i == c j) = true := z
          rw [hne j hj] at z'
          cases z'
        | succ f =>
          rw [ad_new h hk f (jpa F i) hup.2]
          constructor
          · rintro ⟨j, hj, z⟩
            refine ⟨j, hj, ?_⟩
            show (i == c j || (decide (jpa F i < 40) && bel (jpa F) (c j) f (jpa F i))) = true
            rw [z]
            simp [hp]
          · rintro ⟨j, hj, z⟩
            refine ⟨j, hj, ?_⟩
            have z' : (i == c j || (decide (jpa F i < 40) && bel (jpa F) (c j) f (jpa F i))) = true := z
            rw [hne j hj] at z'
            simpa [hp] using z'
      · simp only [hp, decide_false, Bool.false_and]
        refine ⟨fun z => (by cases z), ?_⟩
        rintro ⟨j, hj, z⟩
        cases f with
        | zero =>
          have z' : (i == c j) = true := z
          rw [hne j hj] at z'
          cases z'
        | succ f =>
          have z' : (i == c j || (decide (jpa F i < 40) && bel (jpa F) (c j) f (jpa F i))) = true := z
          rw [hne j hj] at z'
          simp [hp] at z'
theorem bl_old {B : Nat} (h : WFB B F) (hk : okN F sort set cnt c hei cch w) {m : Nat} (hm : m < jn F) {i : Nat} (hi : i < jn F) : bl (addN F sort set cnt c hei cch w) m i = bl F m i := ad_old h hk hm 40 i hi
theorem bl_top (hk : okN F sort set cnt c hei cch w) {m : Nat} (hm : m < jn F) : bl (addN F sort set cnt c hei cch w) m (jn F) = false := by
  have e1 : jpa (addN F sort set cnt c hei cch w) (jn F) = 40 := if_pos rfl
  have e2 : (jn F == m) = false := by simp; omega
  show (jn F == m || (decide (jpa (addN F sort set cnt c hei cch w) (jn F) < 40) && _)) = false
  rw [e1, e2]
  rfl
theorem bl_new {B : Nat} (h : WFB B F) (hk : okN F sort set cnt c hei cch w) {i : Nat} (hi : i < jn F) : bl (addN F sort set cnt c hei cch w) (jn F) i = true ↔ ∃ j, j < cnt ∧ bl F (c j) i = true := by
  unfold bl
  rw [ad_new h hk 39 i hi]
  refine exists_congr fun j => and_congr_right fun hj => ?_
  have hcj := (hk.2.2.2.2.2.2.1 j hj).1
  by_cases q : i = 0 ∧ jn F = 40
  · have := hk.1
    omega
  · by_cases hi0 : i = 0
    · -- fuel 39 is enough: the way from 0 has less than 40 nodes
      have key : ∀ (f i' : Nat), i' < jn F → jn F - i' ≤ f → bel (jpa F) (c j) f i' = bel (jpa F) (c j) (f + 1) i' := by
        intro f
        induction f with
        | zero => intro i' h1 h2; omega
        | succ f ih =>
          intro i' h1 h2
          show (i' == c j || (decide (jpa F i' < 40) && bel (jpa F) (c j) f (jpa F i'))) = (i' == c j || (decide (jpa F i' < 40) && bel (jpa F) (c j) (f + 1) (jpa F i')))
          by_cases hp : jpa F i' < 40
          · obtain ⟨g1, g2⟩ := h.up h1 hp
            rw [ih (jpa F i') g2 (by omega)]
          · simp [hp]
      rw [key 39 i hi (by have := hk.1; omega)]
    · rw [← bel_ge h (c j) hi 1 39 (by omega)]
theorem ins_old {B : Nat} (h : WFB B F) (hk : okN F sort set cnt c hei cch w) {m : Nat} (hm : m < jn F) (k : Nat) : ins (addN F sort set cnt c hei cch w) m k = ins F m k := by
  rw [Bool.eq_iff_iff, ins_iff _ (show jn F + 1 ≤ 40 from hk.1), ins_iff _ h.1.1]
  constructor
  · rintro ⟨i, h1, h2, h3, h4⟩
    have h1' : i < jn F + 1 := h1
    by_cases q : i = jn F
    · subst q
      rw [bl_top hk hm] at h2
      cases h2
    · refine ⟨i, by omega, ?_, ?_, ?_⟩
      · rw [bl_old h hk hm (by omega)] at h2
        exact h2
      · rw [← h3]; exact (va_up_ne _ _ q).symm
      · rw [← h4]; exact (va_up_ne _ _ q).symm
  · rintro ⟨i, h1, h2, h3, h4⟩
    refine ⟨i, show i < jn F + 1 by omega, ?_, ?_, ?_⟩
    · rw [bl_old h hk hm h1]; exact h2
    · rw [← h3]; exact va_up_ne _ _ (by omega)
    · rw [← h4]; exact va_up_ne _ _ (by omega)
theorem ins_new {B : Nat} (h : WFB B F) (hk : okN F sort set cnt c hei cch w) (k : Nat) : ins (addN F sort set cnt c hei cch w) (jn F) k = true ↔ (sort = 2 ∧ set = k) ∨ ∃ j, j < cnt ∧ ins F (c j) k = true := by
  rw [ins_iff _ (show jn F + 1 ≤ 40 from hk.1)]
  constructor
  · rintro ⟨i, h1, h2, h3, h4⟩
    have h1' : i < jn F + 1 := h1
    by_cases q : i = jn F
    · subst q
      left
      rw [← h3, ← h4]
      exact ⟨(va_up_self _ _ _).symm, (va_up_self _ _ _).symm⟩
    · right
      obtain ⟨j, hj, hb⟩ := (bl_new h hk (by omega)).mp h2
      refine ⟨j, hj, (ins_iff _ h.1.1 _ _).mpr ⟨i, by omega, hb, ?_, ?_⟩⟩
      · rw [← h3]; exact (va_up_ne _ _ q).symm
      · rw [← h4]; exact (va_up_ne _ _ q).symm
  · rintro (⟨rfl, rfl⟩ | ⟨j, hj, q⟩)
    · refine ⟨jn F, show jn F < jn F + 1 by omega, bl_self _ _, ?_, ?_⟩
      · exact va_up_self _ _ _
      · exact va_up_self _ _ _
    · obtain ⟨i, h1, h2, h3, h4⟩ := (ins_iff _ h.1.1 _ _).mp q
      refine ⟨i, show i < jn F + 1 by omega, (bl_new h hk h1).mpr ⟨j, hj, h2⟩, ?_, ?_⟩
      · rw [← h3]; exact va_up_ne _ _ (by omega)
      · rw [← h4]; exact va_up_ne _ _ (by omega)
theorem pls_old {B : Nat} (h : WFB B F) (hk : okN F sort set cnt c hei cch w) {m : Nat} (hm : m < jn F) (pl : Nat) : pls (addN F sort set cnt c hei cch w) m pl = pls F m pl := by
  unfold pls
  exact prd_congr 10 (fun k _ => ⟨ins_old h hk hm k, fun _ => ⟨rfl, rfl⟩⟩)
theorem WF_add {B : Nat} (h : WFB B F) (hk : okN F sort set cnt c hei cch w) (hp : ∀ pl, pl < 2 → pls (addN F sort set cnt c hei cch w) (jn F) pl ≤ B) : WFB B (addN F sort set cnt c hei cch w) := by
  obtain ⟨k1, k2, k3, k4, k5, k6, k7, k8, k9, k10⟩ := id hk
  obtain ⟨w1, w2, w3, w4, w5, w6, w7, w8⟩ := id h
  have up : ∀ {α : Type} (f : Nat → α) (v : α) {i : Nat}, i < jn F → va_up f (jn F) v i = f i := fun f v i hi => va_up_ne _ _ (by omega)
  have us : ∀ {α : Type} (f : Nat → α) (v : α), va_up f (jn F) v (jn F) = v := fun f v => va_up_self _ _ _
  have pao : ∀ i, i < jn F → isC cnt c i = false → jpa (addN F sort set cnt c hei cch w) i = jpa F i := fun i hi q => by
    show (if i = jn F then 40 else if isC cnt c i = true then jn F else jpa F i) = _
    rw [if_neg (by omega), if_neg (by rw [q]; decide)]
  have pac : ∀ i, i < jn F → isC cnt c i = true → jpa (addN F sort set cnt c hei cch w) i = jn F := fun i hi q => by
    show (if i = jn F then 40 else if isC cnt c i = true then jn F else jpa F i) = _
    rw [if_neg (by omega), if_pos q]
  have sp : ∀ i, i < jn (addN F sort set cnt c hei cch w) → i < jn F ∨ i = jn F := fun i hi => by
    have : i < jn F + 1 := hi
    omega
  refine ⟨⟨k1, w1.2⟩, w2, fun i hi => ?_, fun i hi => ?_, fun i hi => ?_, fun i hi => ?_, fun i hi => ?_, fun m hm pl hpl => ?_⟩
  · rcases sp i hi with q | rfl
    · have := w3 i q
      show va_up (jso F) (jn F) sort i ≤ 2 ∧ va_up (jcn F) (jn F) cnt i ≤ 3 ∧ (va_up (jso F) (jn F) sort i = 0 → va_up (jcn F) (jn F) cnt i = 0) ∧ (va_up (jso F) (jn F) sort i = 1 → 1 ≤ va_up (jcn F) (jn F) cnt i) ∧ (va_up (jso F) (jn F) sort i = 2 → va_up (jse F) (jn F) set i < jk F ∧ va_up (jcn F) (jn F) cnt i = jac F (va_up (jse F) (jn F) set i))
      rw [up _ _ q, up _ _ q, up _ _ q]
      exact this
    · show va_up (jso F) (jn F) sort (jn F) ≤ 2 ∧ va_up (jcn F) (jn F) cnt (jn F) ≤ 3 ∧ (va_up (jso F) (jn F) sort (jn F) = 0 → va_up (jcn F) (jn F) cnt (jn F) = 0) ∧ (va_up (jso F) (jn F) sort (jn F) = 1 → 1 ≤ va_up (jcn F) (jn F) cnt (jn F)) ∧ (va_up (jso F) (jn F) sort (jn F) = 2 → va_up (jse F) (jn F) set (jn F) < jk F ∧ va_up (jcn F) (jn F) cnt (jn F) = jac F (va_up (jse F) (jn F) set (jn F)))
      rw [us, us, us]
      exact ⟨k2, k3, k4, k5, k6⟩
  · rcases sp i hi with q | rfl
    · intro j hj
      have hj' : j < jcn F i := by
        have : j < va_up (jcn F) (jn F) cnt i := hj
        rwa [up _ _ q] at this
      have ec : ∀ j, jch (addN F sort set cnt c hei cch w) i j = jch F i j := fun j => by
        show va_up (jch F) (jn F) c i j = _
        rw [up _ _ q]
      obtain ⟨g1, g2, g3⟩ := w4 i q j hj'
      rw [ec]
      refine ⟨g1, ?_, fun j' hj2 e => ?_⟩
      · rw [pao _ (by omega) ?_]
        · exact g2
        · cases z : isC cnt c (jch F i j) with
          | false => rfl
          | true =>
            obtain ⟨j2, hj2, e2⟩ := (isC_iff k3 c _).mp z
            have := (k7 j2 hj2).2.1
            rw [e2] at this
            omega
      · have hj2' : j' < jcn F i := by
          have : j' < va_up (jcn F) (jn F) cnt i := hj2
          rwa [up _ _ q] at this
        rw [ec] at e
        exact g3 j' hj2' e
    · intro j hj
      have hj' : j < cnt := by
        have : j < va_up (jcn F) (jn F) cnt (jn F) := hj
        rwa [us] at this
      have ec : ∀ j, jch (addN F sort set cnt c hei cch w) (jn F) j = c j := fun j => by
        show va_up (jch F) (jn F) c (jn F) j = _
        rw [us]
      obtain ⟨g1, g2, g3, -⟩ := k7 j hj'
      rw [ec]
      refine ⟨g1, pac _ g1 ((isC_iff k3 c _).mpr ⟨j, hj', rfl⟩), fun j' hj2 e => ?_⟩
      have hj2' : j' < cnt := by
        have : j' < va_up (jcn F) (jn F) cnt (jn F) := hj2
        rwa [us] at this
      rw [ec] at e
      exact g3 j' hj2' e
  · intro hpa
    rcases sp i hi with q | rfl
    · cases z : isC cnt c i with
      | true =>
        rw [pac i q z]
        obtain ⟨j, hj, e⟩ := (isC_iff k3 c _).mp z
        refine ⟨show jn F < jn F + 1 by omega, j, ?_, ?_⟩
        · show j < va_up (jcn F) (jn F) cnt (jn F)
          rw [us]; exact hj
        · show va_up (jch F) (jn F) c (jn F) j = i
          rw [us]; exact e
      | false =>
        rw [pao i q z] at hpa ⊢
        obtain ⟨g1, j, g2, g3⟩ := w5 i q hpa
        refine ⟨show jpa F i < jn F + 1 by omega, j, ?_, ?_⟩
        · show j < va_up (jcn F) (jn F) cnt (jpa F i)
          rw [up _ _ g1]; exact g2
        · show va_up (jch F) (jn F) c (jpa F i) j = i
          rw [up _ _ g1]; exact g3
    · have e1 : jpa (addN F sort set cnt c hei cch w) (jn F) = 40 := if_pos rfl
      omega
  · rcases sp i hi with q | rfl
    · obtain ⟨g1, g2, g3⟩ := w6 i q
      show va_up (jhe F) (jn F) hei i ≤ 8 ∧ va_up (jcc F) (jn F) cch i ≤ 5 ∧ ∀ j, j < va_up (jcn F) (jn F) cnt i → va_up (jhe F) (jn F) hei (va_up (jch F) (jn F) c i j) < va_up (jhe F) (jn F) hei i ∧ va_up (jcc F) (jn F) cch (va_up (jch F) (jn F) c i j) + (if va_up (jso F) (jn F) sort i = 1 then 1 else 0) ≤ va_up (jcc F) (jn F) cch i
      rw [up _ _ q, up _ _ q, up _ _ q, up _ _ q, up _ _ q]
      refine ⟨g1, g2, fun j hj => ?_⟩
      have hl := (w4 i q j hj).1
      rw [up _ _ (show jch F i j < jn F by omega), up _ _ (show jch F i j < jn F by omega)]
      exact g3 j hj
    · show va_up (jhe F) (jn F) hei (jn F) ≤ 8 ∧ va_up (jcc F) (jn F) cch (jn F) ≤ 5 ∧ ∀ j, j < va_up (jcn F) (jn F) cnt (jn F) → va_up (jhe F) (jn F) hei (va_up (jch F) (jn F) c (jn F) j) < va_up (jhe F) (jn F) hei (jn F) ∧ va_up (jcc F) (jn F) cch (va_up (jch F) (jn F) c (jn F) j) + (if va_up (jso F) (jn F) sort (jn F) = 1 then 1 else 0) ≤ va_up (jcc F) (jn F) cch (jn F)
      rw [us, us, us, us, us]
      refine ⟨k8, k9, fun j hj => ?_⟩
      obtain ⟨g1, -, -, g4, g5⟩ := k7 j hj
      rw [up _ _ g1, up _ _ g1]
      exact ⟨g4, g5⟩
  · rcases sp i hi with q | rfl
    · show va_up (jso F) (jn F) sort i = 0 → ∀ v, v < 2 → -100 ≤ (va_up (jwo F) (jn F) w i v).toInt ∧ (va_up (jwo F) (jn F) w i v).toInt ≤ 100
      rw [up _ _ q, up _ _ q]
      exact w7 i q
    · show va_up (jso F) (jn F) sort (jn F) = 0 → ∀ v, v < 2 → -100 ≤ (va_up (jwo F) (jn F) w (jn F) v).toInt ∧ (va_up (jwo F) (jn F) w (jn F) v).toInt ≤ 100
      rw [us, us]
      exact k10
  · rcases sp m hm with q | rfl
    · rw [pls_old h hk q]
      exact w8 m q pl hpl
    · exact hp pl hpl
end AD
