/-! the class: what is offered -/
theorem lpF_inv {α ρ : Type} {body : (α → Option ρ) → α → Option ρ} (I : Nat → α → Prop) (T : Nat) (hs : ∀ i, i < T → ∀ x, I i x → ∃ x', I (i + 1) x' ∧ ∀ k, body k x = k x') : ∀ (d i N : Nat) (x : α), i + d = T → d < N → I i x → ∃ x' k, I T x' ∧ lpF body N x = body k x'
  | 0, i, N, x, hi, hN, h => by
    obtain ⟨M, rfl⟩ : ∃ M, N = M + 1 := ⟨N - 1, by omega⟩
    have : i = T := by omega
    subst this
    exact ⟨x, lpF body M, h, rfl⟩
  | d + 1, i, N, x, hi, hN, h => by
    obtain ⟨M, rfl⟩ : ∃ M, N = M + 1 := ⟨N - 1, by omega⟩
    obtain ⟨x', h', e⟩ := hs i (by omega) x h
    rw [lpF_s, e]
    exact lpF_inv I T hs d (i + 1) M x' (by omega) (by omega) h'
theorem lpF_in {α ρ : Type} {body : (α → Option ρ) → α → Option ρ} (I : Nat → α → Prop) (T : Nat) (x : α) (h0 : I 0 x) (hs : ∀ i, i < T → ∀ x, I i x → ∃ x', I (i + 1) x' ∧ ∀ k, body k x = k x') (hT : T < 1000) : ∃ x' k, I T x' ∧ lpF body gF x = body k x' := lpF_inv I T hs T 0 gF x (by omega) (Nat.lt_trans hT (by decide)) h0
def mx : Nat → (Nat → Nat) → Nat
  | 0, _ => 0
  | k + 1, f => max (mx k f) (f k)
theorem mx_ge {f : Nat → Nat} : ∀ {k j : Nat}, j < k → f j ≤ mx k f
  | 0, j, h => absurd h (Nat.not_lt_zero j)
  | k + 1, j, h => by
    show f j ≤ max (mx k f) (f k)
    by_cases q : j = k
    · subst q; omega
    · have := mx_ge (f := f) (show j < k by omega)
      omega
theorem mx_le {f : Nat → Nat} {b : Nat} : ∀ {k : Nat}, (∀ j, j < k → f j ≤ b) → mx k f ≤ b
  | 0, _ => Nat.zero_le _
  | k + 1, h => by
    show max (mx k f) (f k) ≤ b
    have h1 := mx_le (f := f) (k := k) (fun j hj => h j (by omega))
    have h2 := h k (by omega)
    omega
theorem f_max {a b : Nat} (ha : a < 100000) (hb : b < 100000) : f_Ma_max (nI a) (nI b) = some (nI (max a b)) := by
  unfold f_Ma_max b_Ma_max_0
  by_cases q : a < b
  · rw [if_pos (nI_lt q (by omega)), Nat.max_eq_right (by omega)]
  · rw [if_neg (nI_nlt (by omega) (by omega)), Nat.max_eq_left (by omega)]
theorem f_hasNode {σ : gS} {n : Nat} (hn : gI σ 1 0 = nI n) (hl : n ≤ 40) (x : Int32) : f_Fo_hasNode σ x = some (bi (am x 0 (nI n - 1))) := by
  have key : am x 0 (nI n - 1) = true ↔ ¬ x < 0 ∧ ¬ nI n ≤ x := by
    rw [am_nI (by omega)]
    constructor
    · rintro ⟨j, hj, rfl⟩
      exact ⟨nI_pos (by omega), nI_ge hj (by omega)⟩
    · rintro ⟨h1, h2⟩
      obtain ⟨j, hj, rfl⟩ := nI_of h1
      refine ⟨j, ?_, rfl⟩
      rw [nI_leI (by omega) hj] at h2
      omega
  unfold f_Fo_hasNode b_Fo_hasNode_0
  rw [hn]
  by_cases q1 : x < 0
  · rw [if_pos q1, bi_eq (fun z => (key.mp z).1 q1)]
    rfl
  · rw [if_neg q1]
    by_cases q2 : nI n ≤ x
    · rw [if_pos q2, bi_eq (fun z => (key.mp z).2 q2)]
      rfl
    · rw [if_neg q2, key.mpr ⟨q1, q2⟩]
      rfl
section OF
variable {σ : gS} {n cnt : Nat} {x : Nat → Int32} {c : Nat → Nat}
theorem f_there (hn : gI σ 1 0 = nI n) (hl : n ≤ 40) (hx : ∀ j, j < 3 → gI σ 15 j = x j) (hc : cnt ≤ 3) : ∃ b : Bool, f_Fo_areOfferedThere σ (nI cnt) = some (bi b) ∧ (b = true ↔ ∀ j, j < cnt → am (x j) 0 (nI n - 1) = true) := by
  have st : ∀ (k : Int32 × Int32 → Option Int32) (i : Nat), i < cnt → b_Fo_areOfferedThere_2 σ k (nI cnt) (nI i) = if am (x i) 0 (nI n - 1) = true then k (nI cnt, nI (i + 1)) else some 0 := by
    intro k i hi
    unfold b_Fo_areOfferedThere_2
    rw [if_neg (nI_ge hi (by omega)), ck_t (okI_lt (k := 15) (n := i) (L := 3) rfl rfl (by omega) (by decide)), nI_c (by omega), hx i (by omega), f_hasNode hn hl, Option.bind_some]
    by_cases q : am (x i) 0 (nI n - 1) = true
    · rw [if_neg (bi_ne q), if_pos q, bnd_e, nI_1]
    · rw [if_pos (bi_eq q), if_neg q]
      rfl
  unfold f_Fo_areOfferedThere b_Fo_areOfferedThere_0 l_Fo_areOfferedThere_2
  by_cases q : ∃ j, j < cnt ∧ ¬ am (x j) 0 (nI n - 1) = true
  · obtain ⟨b, ⟨hb1, hb2⟩, hb3⟩ := pk_least _ q
    refine ⟨false, ?_, ⟨fun z => (by cases z), fun z => absurd (z b hb1) hb2⟩⟩
    refine lpF_go (fun i => (nI cnt, nI i)) b (fun i hi k => ?_) (fun k => ?_) (by omega)
    · show b_Fo_areOfferedThere_2 σ k (nI cnt) (nI i) = _
      rw [st k i (by omega), if_pos (by
        by_cases z : am (x i) 0 (nI n - 1) = true
        · exact z
        · exact absurd ⟨by omega, z⟩ (hb3 i hi))]
    · show b_Fo_areOfferedThere_2 σ k (nI cnt) (nI b) = _
      rw [st k b hb1, if_neg hb2]
      rfl
  · refine ⟨true, ?_, ⟨fun _ j hj => ?_, fun _ => rfl⟩⟩
    · refine lpF_go (fun i => (nI cnt, nI i)) cnt (fun i hi k => ?_) (fun k => ?_) (by omega)
      · show b_Fo_areOfferedThere_2 σ k (nI cnt) (nI i) = _
        rw [st k i hi, if_pos (by
          by_cases z : am (x i) 0 (nI n - 1) = true
          · exact z
          · exact absurd ⟨i, hi, z⟩ q)]
      · show b_Fo_areOfferedThere_2 σ k (nI cnt) (nI cnt) = _
        unfold b_Fo_areOfferedThere_2
        rw [if_pos (nI_le (Nat.le_refl _) (by omega))]
        rfl
    · by_cases z : am (x j) 0 (nI n - 1) = true
      · exact z
      · exact absurd ⟨j, hj, z⟩ q
theorem f_taken {pa : Nat → Nat} (hx : ∀ j, j < cnt → gI σ 15 j = nI (c j)) (hcn : ∀ j, j < cnt → c j < 40) (hpa : ∀ j, j < cnt → gI σ 4 (c j) = if pa (c j) < 40 then nI (pa (c j)) else -1) (hc : cnt ≤ 3) : ∃ b : Bool, f_Fo_isOfferedTaken σ (nI cnt) = some (bi b) ∧ (b = true ↔ ∃ i, i < cnt ∧ (pa (c i) < 40 ∨ ∃ j, j < i ∧ c j = c i)) := by
  have nn : ∀ a : Nat, a < 100000 → ¬ nI a = -1 := fun a ha e => by
    have := congrArg Int32.toInt e
    rw [nI_toInt (by omega)] at this
    have h2 : (-1 : Int32).toInt = -1 := by decide
    omega
  have inner : ∀ (k2 : Int32 × Int32 → Option Int32) (i : Nat), i < cnt → (∃ j, j < i ∧ c j = c i) → l_Fo_isOfferedTaken_26 σ k2 (nI cnt, nI i, 0) = some 1 := by
    intro k2 i hi q
    obtain ⟨b, ⟨hb1, hb2⟩, hb3⟩ := pk_least _ q
    unfold l_Fo_isOfferedTaken_26
    refine lpF_go (fun j => (nI cnt, nI i, nI j)) b (fun j hj k => ?_) (fun k => ?_) (by omega)
    · show b_Fo_isOfferedTaken_26 σ k2 k (nI cnt) (nI i) (nI j) = _
      unfold b_Fo_isOfferedTaken_26
      rw [if_neg (nI_ge (by omega) (by omega)), ck_t (okI_lt (k := 15) (n := i) (L := 3) rfl rfl (by omega) (by decide)), ck_t (okI_lt (k := 15) (n := j) (L := 3) rfl rfl (by omega) (by decide)), nI_c (by omega), nI_c (by omega), hx i hi, hx j (by omega)]
      have h1 := hcn i hi
      have h2 := hcn j (by omega)
      rw [if_neg (fun e => hb3 j hj ⟨by omega, ((nI_eq (by omega) (by omega)).mp e).symm⟩), bnd_e, nI_1]
    · show b_Fo_isOfferedTaken_26 σ k2 k (nI cnt) (nI i) (nI b) = _
      unfold b_Fo_isOfferedTaken_26
      rw [if_neg (nI_ge (by omega) (by omega)), ck_t (okI_lt (k := 15) (n := i) (L := 3) rfl rfl (by omega) (by decide)), ck_t (okI_lt (k := 15) (n := b) (L := 3) rfl rfl (by omega) (by decide)), nI_c (by omega), nI_c (by omega), hx i hi, hx b (by omega), if_pos (by rw [hb2])]
      rfl
  have inner2 : ∀ (k2 : Int32 × Int32 → Option Int32) (i : Nat), i < cnt → ¬ (∃ j, j < i ∧ c j = c i) → l_Fo_isOfferedTaken_26 σ k2 (nI cnt, nI i, 0) = k2 (nI cnt, nI (i + 1)) := by
    intro k2 i hi q
    unfold l_Fo_isOfferedTaken_26
    refine lpF_go (fun j => (nI cnt, nI i, nI j)) i (fun j hj k => ?_) (fun k => ?_) (by omega)
    · show b_Fo_isOfferedTaken_26 σ k2 k (nI cnt) (nI i) (nI j) = _
      unfold b_Fo_isOfferedTaken_26
      rw [if_neg (nI_ge hj (by omega)), ck_t (okI_lt (k := 15) (n := i) (L := 3) rfl rfl (by omega) (by decide)), ck_t (okI_lt (k := 15) (n := j) (L := 3) rfl rfl (by omega) (by decide)), nI_c (by omega), nI_c (by omega), hx i hi, hx j (by omega)]
      have h1 := hcn i hi
      have h2 := hcn j (by omega)
      rw [if_neg (fun e => q ⟨j, hj, ((nI_eq (by omega) (by omega)).mp e).symm⟩), bnd_e, nI_1]
    · show b_Fo_isOfferedTaken_26 σ k2 k (nI cnt) (nI i) (nI i) = _
      unfold b_Fo_isOfferedTaken_26
      rw [if_pos (nI_le (Nat.le_refl _) (by omega)), bnd_e, nI_1]
  have st : ∀ (k : Int32 × Int32 → Option Int32) (i : Nat), i < cnt → (b_Fo_isOfferedTaken_2 σ k (nI cnt) (nI i) = some 1 ∧ (pa (c i) < 40 ∨ ∃ j, j < i ∧ c j = c i)) ∨ (b_Fo_isOfferedTaken_2 σ k (nI cnt) (nI i) = k (nI cnt, nI (i + 1)) ∧ ¬ (pa (c i) < 40 ∨ ∃ j, j < i ∧ c j = c i)) := by
    intro k i hi
    unfold b_Fo_isOfferedTaken_2
    rw [if_neg (nI_ge hi (by omega)), ck_t (okI_lt (k := 15) (n := i) (L := 3) rfl rfl (by omega) (by decide)), nI_c (by omega), hx i hi, ck_t (okI_lt (k := 4) (n := c i) (L := 40) rfl rfl (hcn i hi) (by decide)), nI_c (by have := hcn i hi; omega), hpa i hi]
    by_cases q : pa (c i) < 40
    · rw [if_pos q, if_neg (nn _ (by omega))]
      exact Or.inl ⟨rfl, Or.inl q⟩
    · rw [if_neg q, if_pos rfl]
      by_cases q2 : ∃ j, j < i ∧ c j = c i
      · rw [inner k i hi q2]
        exact Or.inl ⟨rfl, Or.inr q2⟩
      · rw [inner2 k i hi q2]
        exact Or.inr ⟨rfl, fun z => z.elim q q2⟩
  unfold f_Fo_isOfferedTaken b_Fo_isOfferedTaken_0 l_Fo_isOfferedTaken_2
  by_cases q : ∃ i, i < cnt ∧ (pa (c i) < 40 ∨ ∃ j, j < i ∧ c j = c i)
  · obtain ⟨b, ⟨hb1, hb2⟩, hb3⟩ := pk_least _ q
    refine ⟨true, ?_, ⟨fun _ => q, fun _ => rfl⟩⟩
    refine lpF_go (fun i => (nI cnt, nI i)) b (fun i hi k => ?_) (fun k => ?_) (by omega)
    · show b_Fo_isOfferedTaken_2 σ k (nI cnt) (nI i) = _
      rcases st k i (by omega) with ⟨-, z⟩ | ⟨z, -⟩
      · exact absurd ⟨by omega, z⟩ (hb3 i hi)
      · exact z
    · show b_Fo_isOfferedTaken_2 σ k (nI cnt) (nI b) = _
      rcases st k b hb1 with ⟨z, -⟩ | ⟨-, z⟩
      · exact z
      · exact absurd hb2 z
  · refine ⟨false, ?_, ⟨fun z => (by cases z), fun z => absurd z q⟩⟩
    refine lpF_go (fun i => (nI cnt, nI i)) cnt (fun i hi k => ?_) (fun k => ?_) (by omega)
    · show b_Fo_isOfferedTaken_2 σ k (nI cnt) (nI i) = _
      rcases st k i hi with ⟨-, z⟩ | ⟨z, -⟩
      · exact absurd ⟨i, hi, z⟩ q
      · exact z
    · show b_Fo_isOfferedTaken_2 σ k (nI cnt) (nI cnt) = _
      unfold b_Fo_isOfferedTaken_2
      rw [if_pos (nI_le (Nat.le_refl _) (by omega))]
      rfl
theorem f_great {a : Nat} {g : Nat → Nat} (ha : a = 9 ∨ a = 10) (hx : ∀ j, j < cnt → gI σ 15 j = nI (c j)) (hcn : ∀ j, j < cnt → c j < 40) (hg : ∀ j, j < cnt → gI σ a (c j) = nI (g (c j)) ∧ g (c j) ≤ 8) (hc : cnt ≤ 3) : f_Fo_greatestOffered σ a (nI cnt) = some (nI (mx cnt (fun j => g (c j)))) := by
  have oa : ∀ j, j < cnt → okI a (nI (c j)) = true := fun j hj => by
    rcases ha with rfl | rfl
    · exact okI_lt (k := 9) (L := 40) rfl rfl (hcn j hj) (by decide)
    · exact okI_lt (k := 10) (L := 40) rfl rfl (hcn j hj) (by decide)
  have hm : ∀ i, i ≤ cnt → mx i (fun j => g (c j)) ≤ 8 := fun i hi => mx_le (fun j hj => (hg j (by omega)).2)
  unfold f_Fo_greatestOffered b_Fo_greatestOffered_0 l_Fo_greatestOffered_5
  refine lpF_go (fun i => (a, nI cnt, nI (mx i (fun j => g (c j))), nI i)) cnt (fun i hi k => ?_) (fun k => ?_) (by omega)
  · show b_Fo_greatestOffered_5 σ k a (nI cnt) (nI (mx i _)) (nI i) = _
    unfold b_Fo_greatestOffered_5
    rw [if_neg (nI_ge hi (by omega)), ck_t (okI_lt (k := 15) (n := i) (L := 3) rfl rfl (by omega) (by decide)), nI_c (by omega), hx i hi, ck_t (oa i hi), nI_c (by have := hcn i hi; omega), (hg i hi).1, f_max (by have := hm i (by omega); omega) (by have := (hg i hi).2; omega), Option.bind_some, bnd_e, nI_1]
    rfl
  · show b_Fo_greatestOffered_5 σ k a (nI cnt) (nI (mx cnt _)) (nI cnt) = _
    unfold b_Fo_greatestOffered_5
    rw [if_pos (nI_le (Nat.le_refl _) (by omega))]
theorem f_setsOff (hx : ∀ j, j < cnt → gI σ 15 j = nI (c j)) (hcn : ∀ j, j < cnt → c j < 40) (hc : cnt ≤ 3) : ∃ y : Int32, f_Fo_setsOffered σ (nI cnt) = some y ∧ ∀ k, ti y k = true ↔ ∃ j, j < cnt ∧ ti (gI σ 12 (c j)) k = true := by
  let orr : Nat → Int32 := fun i => Nat.rec 0 (fun i y => y ||| gI σ 12 (c i)) i
  have ho : ∀ i k, ti (orr i) k = true ↔ ∃ j, j < i ∧ ti (gI σ 12 (c j)) k = true := by
    intro i k
    induction i with
    | zero =>
      show ti 0 k = true ↔ _
      rw [ti_0]
      exact ⟨fun z => (by cases z), fun ⟨j, hj, _⟩ => absurd hj (Nat.not_lt_zero j)⟩
    | succ i ih =>
      show ti (orr i ||| gI σ 12 (c i)) k = true ↔ _
      rw [ti_or, Bool.or_eq_true, ih]
      constructor
      · rintro (⟨j, hj, z⟩ | z)
        · exact ⟨j, by omega, z⟩
        · exact ⟨i, by omega, z⟩
      · rintro ⟨j, hj, z⟩
        by_cases q : j = i
        · subst q; exact Or.inr z
        · exact Or.inl ⟨j, by omega, z⟩
  refine ⟨orr cnt, ?_, ho cnt⟩
  unfold f_Fo_setsOffered b_Fo_setsOffered_0 l_Fo_setsOffered_4
  refine lpF_go (fun i => (nI cnt, orr i, nI i)) cnt (fun i hi k => ?_) (fun k => ?_) (by omega)
  · show b_Fo_setsOffered_4 σ k (nI cnt) (orr i) (nI i) = _
    unfold b_Fo_setsOffered_4
    rw [if_neg (nI_ge hi (by omega)), ck_t (okI_lt (k := 15) (n := i) (L := 3) rfl rfl (by omega) (by decide)), nI_c (by omega), hx i hi, ck_t (okI_lt (k := 12) (n := c i) (L := 40) rfl rfl (hcn i hi) (by decide)), nI_c (by have := hcn i hi; omega), bnd_e, bnd_e, nI_1]
  · show b_Fo_setsOffered_4 σ k (nI cnt) (orr cnt) (nI cnt) = _
    unfold b_Fo_setsOffered_4
    rw [if_pos (nI_le (Nat.le_refl _) (by omega))]
end OF
theorem f_plansWith {σ : gS} {s : Nat} {ow ac : Nat → Nat} {b : Nat → Bool} {y : Int32} {pl : Nat} (hk : gI σ 1 1 = nI s) (hs : s ≤ 10) (ho : ∀ k, k < s → gI σ 13 k = nI (ow k) ∧ ow k < 2) (ha : ∀ k, k < s → gI σ 5 k = nI (ac k)) (hy : ∀ k, k < s → ti y k = b k) (hp : pl < 2) : f_Fo_plansWith σ (nI pl) y = some (nI (prd b ow ac pl s)) := by
  unfold f_Fo_plansWith b_Fo_plansWith_0 l_Fo_plansWith_5
  refine lpF_go (fun i => (nI pl, y, nI (prd b ow ac pl i), nI i)) s (fun i hi k => ?_) (fun k => ?_) (by omega)
  · show b_Fo_plansWith_5 σ k (nI pl) y (nI (prd b ow ac pl i)) (nI i) = _
    unfold b_Fo_plansWith_5
    rw [hk, if_neg (nI_ge hi (by omega)), ck_t (okI_lt (k := 13) (n := i) (L := 10) rfl rfl (by omega) (by decide)), nI_c (by omega), (ho i hi).1]
    have hnext : k (nI pl, y, nI (prd b ow ac pl (i + 1)), nI (i + 1)) = k (nI pl, y, nI (prd b ow ac pl i * (if b i = true ∧ ow i = pl then ac i else 1)), nI (i + 1)) := rfl
    rw [hnext]
    by_cases q : ow i = pl
    · rw [if_pos (by rw [q]), f_hasBit _ (by omega), Option.bind_some, ti_tb _ (by omega), hy i hi]
      by_cases q2 : b i = true
      · rw [if_neg (bi_ne q2), if_pos ⟨q2, q⟩, ck_t (okI_lt (k := 5) (n := i) (L := 10) rfl rfl (by omega) (by decide)), bnd_e, ha i hi, pk_mul]
        unfold b_Fo_plansWith_45
        rw [bnd_e, nI_1]
      · rw [if_pos (bi_eq q2), if_neg (fun z => q2 z.1), Nat.mul_one]
        unfold b_Fo_plansWith_45
        rw [bnd_e, nI_1]
    · have h2 := (ho i hi).2
      rw [if_neg (fun e => q ((nI_eq (by omega) (by omega)).mp e)), if_neg (fun z => q z.2), Nat.mul_one]
      unfold b_Fo_plansWith_45
      rw [bnd_e, nI_1]
  · show b_Fo_plansWith_5 σ k (nI pl) y (nI (prd b ow ac pl s)) (nI s) = _
    unfold b_Fo_plansWith_5
    rw [hk, if_pos (nI_le (Nat.le_refl _) (by omega))]
