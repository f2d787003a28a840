/-! chance and node, the reference -/
theorem f_third (a b c : Int32) {k : Nat} (hk : k < 3) : f_Mo_third a b c (nI k) = some (x3f a b c k) := by
  unfold f_Mo_third b_Mo_third_0 x3f
  rcases (show k = 0 ∨ k = 1 ∨ k = 2 by omega) with rfl | rfl | rfl <;> rfl
def tkd (pa : Nat → Nat) (c : Nat → Nat) : Nat → Bool
  | 0 => false
  | i + 1 => tkd pa c i || decide (pa (c i) < 40)
theorem tkd_iff {pa c : Nat → Nat} : ∀ {i : Nat}, tkd pa c i = true ↔ ∃ j, j < i ∧ pa (c j) < 40
  | 0 => ⟨fun z => (by cases z), fun ⟨j, hj, _⟩ => absurd hj (Nat.not_lt_zero j)⟩
  | i + 1 => by
    show (tkd pa c i || decide (pa (c i) < 40)) = true ↔ _
    rw [Bool.or_eq_true, tkd_iff, decide_eq_true_eq]
    constructor
    · rintro (⟨j, hj, z⟩ | z)
      · exact ⟨j, by omega, z⟩
      · exact ⟨i, by omega, z⟩
    · rintro ⟨j, hj, z⟩
      by_cases q : j = i
      · subst q; exact Or.inr z
      · exact Or.inl ⟨j, by omega, z⟩
theorem mo_bar {σ : gS} {F : Fr} (h : WF F) (hm : MR σ F) {sort set cnt : Nat} (ha : parA F sort set cnt) {a b c : Int32} (hx : ∀ j, j < cnt → x3f a b c j = nI (c3f a b c j) ∧ c3f a b c j < jn F) :
    f_Mo_bar σ (nI cnt) a b c (nI (if sort = 1 then 1 else 0)) = some (cif (parK F cnt (c3f a b c)) (-4) (cif (parD F sort cnt (c3f a b c)) (-5) 0)) := by
  obtain ⟨a1, a2, a3⟩ := id ha
  obtain ⟨m0, m1, m2, m3, m4, m5, m6, m7, m8, m9, m10⟩ := id hm
  have hl := h.1.1
  generalize hcc : c3f a b c = cc at hx ⊢
  have nn : ∀ a : Nat, a < 100000 → ¬ nI a = -1 := fun a ha e => by
    have := congrArg Int32.toInt e
    rw [nI_toInt (by omega)] at this
    have h2 : (-1 : Int32).toInt = -1 := by decide
    omega
  have hhe : ∀ j, j < cnt → gI σ 52 (cc j) = nI (jhe F (cc j)) ∧ jhe F (cc j) ≤ 8 := fun j hj => ⟨m7 _ (hx j hj).2, (h.2.2.2.2.2.1 _ (hx j hj).2).1⟩
  have hch : ∀ j, j < cnt → gI σ 53 (cc j) = nI (jcc F (cc j)) ∧ jcc F (cc j) ≤ 5 := fun j hj => ⟨m8 _ (hx j hj).2, (h.2.2.2.2.2.1 _ (hx j hj).2).2.1⟩
  have b1 : ∀ i, i ≤ cnt → mx i (fun j => jhe F (cc j)) ≤ 8 := fun i hi => mx_le (fun j hj => (hhe j (by omega)).2)
  have b2 : ∀ i, i ≤ cnt → mx i (fun j => jcc F (cc j)) ≤ 5 := fun i hi => mx_le (fun j hj => (hch j (by omega)).2)
  generalize hq : (if sort = 1 then 1 else 0) = q
  have hq1 : q ≤ 1 := by rw [← hq]; split <;> omega
  -- a turn
  have st : ∀ (t0 : Bool) (i : Nat), i < cnt → ∀ k, b_Mo_bar_43 σ k (nI cnt) a b c (nI q) (bi (t0 || tkd (jpa F) cc i)) (nI (mx i (fun j => jhe F (cc j)))) (nI (mx i (fun j => jcc F (cc j)))) (nI i) = k (nI cnt, a, b, c, nI q, bi (t0 || tkd (jpa F) cc (i + 1)), nI (mx (i + 1) (fun j => jhe F (cc j))), nI (mx (i + 1) (fun j => jcc F (cc j))), nI (i + 1)) := by
    intro t0 i hi k
    have hci := (hx i hi).2
    have o52 := okI_lt (k := 52) (n := cc i) (L := 40) rfl rfl (by omega) (by decide)
    have o53 := okI_lt (k := 53) (n := cc i) (L := 40) rfl rfl (by omega) (by decide)
    have ci := nI_c (n := cc i) (by omega)
    have step : ∀ y : Int32, b_Mo_bar_81 σ k (nI cnt) a b c (nI q) (nI (mx i (fun j => jhe F (cc j)))) (nI (mx i (fun j => jcc F (cc j)))) (nI i) (nI (cc i)) y = k (nI cnt, a, b, c, nI q, y, nI (mx (i + 1) (fun j => jhe F (cc j))), nI (mx (i + 1) (fun j => jcc F (cc j))), nI (i + 1)) := by
      intro y
      have e1 : mx (i + 1) (fun j => jhe F (cc j)) = max (mx i (fun j => jhe F (cc j))) (jhe F (cc i)) := rfl
      have e2 : mx (i + 1) (fun j => jcc F (cc j)) = max (mx i (fun j => jcc F (cc j))) (jcc F (cc i)) := rfl
      have g1 := b1 i (by omega)
      have g2 := b2 i (by omega)
      have g3 := (hhe i hi).2
      have g4 := (hch i hi).2
      have s2 : ∀ z : Int32, b_Mo_bar_107 σ k (nI cnt) a b c (nI q) y (nI (mx i (fun j => jcc F (cc j)))) (nI i) (nI (cc i)) z = k (nI cnt, a, b, c, nI q, y, z, nI (mx (i + 1) (fun j => jcc F (cc j))), nI (i + 1)) := by
        intro z
        unfold b_Mo_bar_107
        rw [ck_t o53, ci, (hch i hi).1]
        by_cases w : jcc F (cc i) ≤ mx i (fun j => jcc F (cc j))
        · rw [if_pos (nI_le w (by omega)), e2, Nat.max_eq_left w]
          unfold b_Mo_bar_133
          rw [bnd_e, nI_1]
        · rw [if_neg (nI_ge (by omega) (by omega)), ck_t o53, e2, Nat.max_eq_right (by omega)]
          unfold b_Mo_bar_133
          rw [bnd_e, nI_1]
      unfold b_Mo_bar_81
      rw [ck_t o52, ci, (hhe i hi).1]
      by_cases w : jhe F (cc i) ≤ mx i (fun j => jhe F (cc j))
      · rw [if_pos (nI_le w (by omega)), s2, e1, Nat.max_eq_left w]
      · rw [if_neg (nI_ge (by omega) (by omega)), ck_t o52, s2, e1, Nat.max_eq_right (by omega)]
    unfold b_Mo_bar_43
    rw [if_neg (nI_ge hi (by omega)), f_third a b c (by omega), Option.bind_some, (hx i hi).1]
    have et : tkd (jpa F) cc (i + 1) = (tkd (jpa F) cc i || decide (jpa F (cc i) < 40)) := rfl
    by_cases w : (t0 || tkd (jpa F) cc i) = true
    · rw [if_neg (bi_ne w)]
      unfold b_Mo_bar_76
      rw [step]
      have : (t0 || tkd (jpa F) cc (i + 1)) = true := by
        rw [et, ← Bool.or_assoc, w]; rfl
      rw [this]
      rfl
    · have w' : (t0 || tkd (jpa F) cc i) = false := by simpa using w
      rw [if_pos (bi_eq w), ck_t (okI_lt (k := 51) (n := cc i) (L := 40) rfl rfl (by omega) (by decide)), ci, m6 _ hci]
      by_cases w2 : jpa F (cc i) < 40
      · rw [if_pos w2, if_neg (nn _ (by omega))]
        unfold b_Mo_bar_76
        rw [step]
        have : (t0 || tkd (jpa F) cc (i + 1)) = true := by
          rw [et, ← Bool.or_assoc]; simp [w2]
        rw [this]
        rfl
      · rw [if_neg w2, if_pos rfl, step]
        have : (t0 || tkd (jpa F) cc (i + 1)) = false := by
          rw [et, ← Bool.or_assoc, w']; simp [w2]
        rw [this]
        rfl
  -- the loop
  have lp : ∀ t0 : Bool, b_Mo_bar_32 σ (nI cnt) a b c (nI q) (bi t0) = some (cif (t0 = true ∨ ∃ j, j < cnt ∧ jpa F (cc j) < 40) (-4) (cif (parD F sort cnt cc) (-5) 0)) := by
    intro t0
    unfold b_Mo_bar_32 l_Mo_bar_43
    have e0 : bi t0 = bi (t0 || tkd (jpa F) cc 0) := by
      show bi t0 = bi (t0 || false)
      rw [Bool.or_false]
    rw [e0]
    refine lpF_go (fun i => (nI cnt, a, b, c, nI q, bi (t0 || tkd (jpa F) cc i), nI (mx i (fun j => jhe F (cc j))), nI (mx i (fun j => jcc F (cc j))), nI i)) cnt (fun i hi k => st t0 i hi k) (fun k => ?_) (by omega)
    show b_Mo_bar_43 σ k (nI cnt) a b c (nI q) (bi (t0 || tkd (jpa F) cc cnt)) (nI (mx cnt (fun j => jhe F (cc j)))) (nI (mx cnt (fun j => jcc F (cc j)))) (nI cnt) = _
    unfold b_Mo_bar_43
    rw [if_pos (nI_le (Nat.le_refl _) (by omega))]
    have g1 := b1 cnt (Nat.le_refl _)
    have g2 := b2 cnt (Nat.le_refl _)
    by_cases w : (t0 || tkd (jpa F) cc cnt) = true
    · rw [if_neg (bi_ne w), cif_t (by rw [Bool.or_eq_true, tkd_iff] at w; exact w)]
    · rw [if_pos (bi_eq w), cif_f (by rw [Bool.or_eq_true, tkd_iff] at w; exact w), nI_1, nI_add]
      by_cases w2 : parD F sort cnt cc
      · rw [cif_t w2]
        unfold parD at w2
        rw [hq] at w2
        by_cases w3 : 8 < mx cnt (fun j => jhe F (cc j)) + 1
        · rw [if_pos (show (8 : Int32) < nI _ from nI_lt (a := 8) w3 (by omega))]
        · rw [if_neg (show ¬ (8 : Int32) < nI _ from nI_nlt (a := 8) (by omega) (by decide)), if_neg (show ¬ nI _ ≤ (5 : Int32) from nI_ge (a := 5) (by omega) (by omega))]
      · rw [cif_f w2]
        unfold parD at w2
        rw [hq] at w2
        rw [if_neg (show ¬ (8 : Int32) < nI _ from nI_nlt (a := 8) (by omega) (by decide)), if_pos (show nI _ ≤ (5 : Int32) from nI_le (b := 5) (by omega) (by decide))]
  -- the beginning
  have fin : ∀ t0 : Bool, (t0 = true ↔ ∃ i, i < cnt ∧ ∃ j, j < i ∧ cc j = cc i) → some (cif (t0 = true ∨ ∃ j, j < cnt ∧ jpa F (cc j) < 40) (-4) (cif (parD F sort cnt cc) (-5) 0)) = some (cif (parK F cnt cc) (-4 : Int32) (cif (parD F sort cnt cc) (-5) 0)) := by
    intro t0 ht
    have e : (t0 = true ∨ ∃ j, j < cnt ∧ jpa F (cc j) < 40) = parK F cnt cc := by
      apply propext
      rw [ht]
      unfold parK
      constructor
      · rintro (⟨i, hi, z⟩ | ⟨i, hi, z⟩)
        · exact ⟨i, hi, Or.inr z⟩
        · exact ⟨i, hi, Or.inl z⟩
      · rintro ⟨i, hi, z | z⟩
        · exact Or.inr ⟨i, hi, z⟩
        · exact Or.inl ⟨i, hi, z⟩
    rw [e]
  have c0 : a = nI (cc 0) ∧ cc 0 < 40 := by have := hx 0 (by omega); exact ⟨this.1, by omega⟩
  have c1 : 1 < cnt → b = nI (cc 1) ∧ cc 1 < 40 := fun z => by have := hx 1 z; exact ⟨this.1, by omega⟩
  have c2 : 2 < cnt → c = nI (cc 2) ∧ cc 2 < 40 := fun z => by have := hx 2 z; exact ⟨this.1, by omega⟩
  have f27 : b_Mo_bar_27 σ (nI cnt) a b c (nI q) = b_Mo_bar_32 σ (nI cnt) a b c (nI q) (bi true) := rfl
  have f31 : b_Mo_bar_31 σ (nI cnt) a b c (nI q) = b_Mo_bar_32 σ (nI cnt) a b c (nI q) (bi false) := rfl
  have two : ∀ {i j : Nat}, i < cnt → j < i → (i = 1 ∧ j = 0) ∨ (i = 2 ∧ j = 0) ∨ (i = 2 ∧ j = 1) := fun h1 h2 => by omega
  unfold f_Mo_bar b_Mo_bar_0
  by_cases w1 : cnt ≤ 1
  · rw [if_pos (show nI cnt ≤ (1 : Int32) from nI_le (b := 1) w1 (by decide))]
    unfold b_Mo_bar_10
    rw [if_pos (show nI cnt ≤ (2 : Int32) from nI_le (b := 2) (by omega) (by decide)), f31, lp]
    exact fin false ⟨fun z => (by cases z), fun ⟨i, hi, j, hj, _⟩ => by omega⟩
  · obtain ⟨rb, hb⟩ := c1 (by omega)
    rw [if_neg (show ¬ nI cnt ≤ (1 : Int32) from nI_ge (a := 1) (by omega) (by omega))]
    by_cases w2 : cc 0 = cc 1
    · rw [if_pos (by rw [c0.1, rb, w2]), f27, lp]
      exact fin true ⟨fun _ => ⟨1, by omega, 0, by decide, w2⟩, fun _ => rfl⟩
    · rw [if_neg (show ¬ a = b from fun e => w2 (by rw [c0.1, rb] at e; exact (nI_eq (by omega) (by omega)).mp e))]
      unfold b_Mo_bar_10
      by_cases w3 : cnt ≤ 2
      · rw [if_pos (show nI cnt ≤ (2 : Int32) from nI_le (b := 2) w3 (by decide)), f31, lp]
        refine fin false ⟨fun z => (by cases z), fun ⟨i, hi, j, hj, e⟩ => ?_⟩
        rcases two hi hj with ⟨rfl, rfl⟩ | ⟨rfl, rfl⟩ | ⟨rfl, rfl⟩
        · exact absurd e w2
        · omega
        · omega
      · obtain ⟨rc, hcx⟩ := c2 (by omega)
        rw [if_neg (show ¬ nI cnt ≤ (2 : Int32) from nI_ge (a := 2) (by omega) (by omega))]
        by_cases w4 : cc 0 = cc 2
        · rw [if_pos (by rw [c0.1, rc, w4]), f27, lp]
          exact fin true ⟨fun _ => ⟨2, by omega, 0, by decide, w4⟩, fun _ => rfl⟩
        · rw [if_neg (show ¬ a = c from fun e => w4 (by rw [c0.1, rc] at e; exact (nI_eq (by omega) (by omega)).mp e))]
          by_cases w5 : cc 1 = cc 2
          · rw [if_pos (by rw [rb, rc, w5]), f27, lp]
            exact fin true ⟨fun _ => ⟨2, by omega, 1, by decide, w5⟩, fun _ => rfl⟩
          · rw [if_neg (show ¬ b = c from fun e => w5 (by rw [rb, rc] at e; exact (nI_eq (by omega) (by omega)).mp e)), f31, lp]
            refine fin false ⟨fun z => (by cases z), fun ⟨i, hi, j, hj, e⟩ => ?_⟩
            rcases two hi hj with ⟨rfl, rfl⟩ | ⟨rfl, rfl⟩ | ⟨rfl, rfl⟩
            · exact absurd e w2
            · exact absurd e w4
            · exact absurd e w5
/-- adopt -/
theorem mo_adopt {ρ : gS} {n cnt q : Nat} {a b c : Int32} {cc he ch : Nat → Nat} (hn : n < 40) (hc : cnt ≤ 3) (hq : q ≤ 1) (hx : ∀ j, j < cnt → x3f a b c j = nI (cc j) ∧ cc j < n) (h52 : gI ρ 52 n = 0) (h53 : gI ρ 53 n = 0) (hhe : ∀ j, j < cnt → gI ρ 52 (cc j) = nI (he (cc j)) ∧ he (cc j) ≤ 8) (hch : ∀ j, j < cnt → gI ρ 53 (cc j) = nI (ch (cc j)) ∧ ch (cc j) ≤ 5) :
    ∃ τ, f_Mo_adopt ρ (nI n) (nI cnt) a b c (nI q) = some τ ∧ (∀ j, j < 3 → gI τ 50 (3 * n + j) = if j < cnt then nI (cc j) else gI ρ 50 (3 * n + j)) ∧ (∀ i, (∀ j, j < 3 → i ≠ 3 * n + j) → gI τ 50 i = gI ρ 50 i) ∧ (∀ i, gI τ 51 i = if isC cnt cc i = true then nI n else gI ρ 51 i) ∧ (∀ i, gI τ 52 i = if i = n then nI (mx cnt (fun j => he (cc j) + 1)) else gI ρ 52 i) ∧ (∀ i, gI τ 53 i = if i = n then nI (mx cnt (fun j => ch (cc j) + q)) else gI ρ 53 i) ∧ sm (fun c => c ≠ 50 ∧ c ≠ 51 ∧ c ≠ 52 ∧ c ≠ 53) ρ τ := by
  have o52n := okI_lt (k := 52) (n := n) (L := 40) rfl rfl hn (by decide)
  have o53n := okI_lt (k := 53) (n := n) (L := 40) rfl rfl hn (by decide)
  have cn := nI_c (n := n) (by omega)
  unfold f_Mo_adopt b_Mo_adopt_0
  let I : Nat → (Int32 × Int32 × Int32 × Int32 × Int32 × Int32 × Int32 × gS) → Prop := fun i x => ∃ υ : gS, x = (nI n, nI cnt, a, b, c, nI q, nI i, υ) ∧ (∀ j, j < 3 → gI υ 50 (3 * n + j) = if j < i then nI (cc j) else gI ρ 50 (3 * n + j)) ∧ (∀ m, (∀ j, j < 3 → m ≠ 3 * n + j) → gI υ 50 m = gI ρ 50 m) ∧ (∀ m, gI υ 51 m = if isC i cc m = true then nI n else gI ρ 51 m) ∧ (∀ m, gI υ 52 m = if m = n then nI (mx i (fun j => he (cc j) + 1)) else gI ρ 52 m) ∧ (∀ m, gI υ 53 m = if m = n then nI (mx i (fun j => ch (cc j) + q)) else gI ρ 53 m) ∧ sm (fun c => c ≠ 50 ∧ c ≠ 51 ∧ c ≠ 52 ∧ c ≠ 53) ρ υ
  have h0 : I 0 (nI n, nI cnt, a, b, c, nI q, 0, ρ) := by
    refine ⟨ρ, rfl, fun j hj => ?_, fun m _ => rfl, fun m => ?_, fun m => ?_, fun m => ?_, sm_rf _ _⟩
    · rw [if_neg (Nat.not_lt_zero j)]
    · rw [if_neg (by unfold isC; simp)]
    · by_cases z : m = n
      · rw [if_pos z, z, h52]; rfl
      · rw [if_neg z]
    · by_cases z : m = n
      · rw [if_pos z, z, h53]; rfl
      · rw [if_neg z]
  have hs : ∀ i, i < cnt → ∀ x, I i x → ∃ x', I (i + 1) x' ∧ ∀ k, b_Mo_adopt_3 k x.1 x.2.1 x.2.2.1 x.2.2.2.1 x.2.2.2.2.1 x.2.2.2.2.2.1 x.2.2.2.2.2.2.1 x.2.2.2.2.2.2.2 = k x' := by
    rintro i hi x ⟨υ, rfl, e2, e3, e4, e5, e6, e7⟩
    have hci := (hx i hi).2
    have o50 := okI_lt (k := 50) (n := 3 * n + i) (L := 120) rfl rfl (by omega) (by decide)
    have o51 := okI_lt (k := 51) (n := cc i) (L := 40) rfl rfl (by omega) (by decide)
    have o52 := okI_lt (k := 52) (n := cc i) (L := 40) rfl rfl (by omega) (by decide)
    have o53 := okI_lt (k := 53) (n := cc i) (L := 40) rfl rfl (by omega) (by decide)
    have ccl := nI_c (n := cc i) (by omega)
    have c3 := nI_c (n := 3 * n + i) (by omega)
    have g1 : mx i (fun j => he (cc j) + 1) ≤ 9 := mx_le (fun j hj => by have := (hhe j (by omega)).2; omega)
    have g2 : mx i (fun j => ch (cc j) + q) ≤ 6 := mx_le (fun j hj => by have := (hch j (by omega)).2; omega)
    have g3 := hhe i hi
    have g4 := hch i hi
    have ne : ¬ cc i = n := by omega
    have v52 : gI υ 52 (cc i) = nI (he (cc i)) := by rw [e5, if_neg ne, g3.1]
    have v52n : gI υ 52 n = nI (mx i (fun j => he (cc j) + 1)) := by rw [e5, if_pos rfl]
    have v53 : gI υ 53 (cc i) = nI (ch (cc i)) := by rw [e6, if_neg ne, g4.1]
    have v53n : gI υ 53 n = nI (mx i (fun j => ch (cc j) + q)) := by rw [e6, if_pos rfl]
    have m1 : mx (i + 1) (fun j => he (cc j) + 1) = max (mx i (fun j => he (cc j) + 1)) (he (cc i) + 1) := rfl
    have m2 : mx (i + 1) (fun j => ch (cc j) + q) = max (mx i (fun j => ch (cc j) + q)) (ch (cc i) + q) := rfl
    refine ⟨(nI n, nI cnt, a, b, c, nI q, nI (i + 1), sI (sI (sI (sI υ 50 (3 * n + i) (nI (cc i))) 51 (cc i) (nI n)) 52 n (nI (mx (i + 1) (fun j => he (cc j) + 1)))) 53 n (nI (mx (i + 1) (fun j => ch (cc j) + q)))), ⟨_, rfl, ?_, ?_, ?_, ?_, ?_, ?_⟩, ?_⟩
    · intro j hj
      simp only [gI_sI, show ¬ (50 : Nat) = 51 by decide, show ¬ (50 : Nat) = 52 by decide, show ¬ (50 : Nat) = 53 by decide, false_and, if_false, true_and]
      by_cases z : j = i
      · subst z
        rw [if_pos rfl, if_pos (by omega)]
      · rw [if_neg (by omega), e2 j hj]
        by_cases z2 : j < i
        · rw [if_pos z2, if_pos (by omega)]
        · rw [if_neg z2, if_neg (by omega)]
    · intro m hm
      have := hm i (by omega)
      simp [gI_sI, this, e3 m hm]
    · intro m
      simp only [gI_sI, true_and, show ¬ (51 : Nat) = 50 by decide, show ¬ (51 : Nat) = 52 by decide, show ¬ (51 : Nat) = 53 by decide, false_and, if_false]
      have key : isC (i + 1) cc m = true ↔ cc i = m ∨ isC i cc m = true := by
        rw [isC_iff (by omega), isC_iff (by omega)]
        constructor
        · rintro ⟨j, hj, e⟩
          by_cases z : j = i
          · subst z; exact Or.inl e
          · exact Or.inr ⟨j, by omega, e⟩
        · rintro (e | ⟨j, hj, e⟩)
          · exact ⟨i, by omega, e⟩
          · exact ⟨j, by omega, e⟩
      by_cases z : m = cc i
      · rw [if_pos z, if_pos (key.mpr (Or.inl z.symm))]
      · rw [if_neg z, e4 m]
        by_cases z2 : isC i cc m = true
        · rw [if_pos z2, if_pos (key.mpr (Or.inr z2))]
        · rw [if_neg z2, if_neg (fun w => (key.mp w).elim (fun e => z e.symm) z2)]
    · intro m
      simp only [gI_sI, true_and, show ¬ (52 : Nat) = 50 by decide, show ¬ (52 : Nat) = 51 by decide, show ¬ (52 : Nat) = 53 by decide, false_and, if_false]
      by_cases z : m = n
      · rw [if_pos z, if_pos z]
      · rw [if_neg z, if_neg z, e5, if_neg z]
    · intro m
      simp only [gI_sI, true_and, show ¬ (53 : Nat) = 50 by decide, show ¬ (53 : Nat) = 51 by decide, show ¬ (53 : Nat) = 52 by decide, false_and, if_false]
      by_cases z : m = n
      · rw [if_pos z, if_pos z]
      · rw [if_neg z, if_neg z, e6, if_neg z]
    · exact (((e7.tr (sm_sI _ _ _ (fun z => z.1 rfl))).tr (sm_sI _ _ _ (fun z => z.2.1 rfl))).tr (sm_sI _ _ _ (fun z => z.2.2.1 rfl))).tr (sm_sI _ _ _ (fun z => z.2.2.2 rfl))
    · intro k
      show b_Mo_adopt_3 k (nI n) (nI cnt) a b c (nI q) (nI i) υ = _
      -- the second half
      have sec : ∀ (hh : Nat) (φ : gS), φ = sI (sI υ 50 (3 * n + i) (nI (cc i))) 51 (cc i) (nI n) → b_Mo_adopt_83 k (nI n) (nI cnt) a b c (nI q) (nI i) (nI (cc i)) (nI n) (nI hh) φ = k (nI n, nI cnt, a, b, c, nI q, nI (i + 1), sI (sI φ 52 n (nI hh)) 53 n (nI (mx (i + 1) (fun j => ch (cc j) + q)))) := by
        intro hh φ hφ
        have w1 : gI (sI φ 52 n (nI hh)) 53 (cc i) = nI (ch (cc i)) := by rw [hφ]; simp [gI_sI, v53]
        have w2 : gI (sI φ 52 n (nI hh)) 53 n = nI (mx i (fun j => ch (cc j) + q)) := by rw [hφ]; simp [gI_sI, v53n]
        unfold b_Mo_adopt_83
        simp only [ck_t o52n, bnd_e, cn, ck_t o53, ck_t o53n, ccl, w1, w2, nI_add]
        by_cases z : ch (cc i) + q ≤ mx i (fun j => ch (cc j) + q)
        · rw [if_pos (nI_le z (by omega)), m2, Nat.max_eq_left z]
          unfold b_Mo_adopt_127
          simp only [ck_t o53n, bnd_e, cn, nI_1]
        · rw [if_neg (nI_ge (by omega) (by have := g4.2; omega)), m2, Nat.max_eq_right (by omega)]
          unfold b_Mo_adopt_127
          simp only [ck_t o53n, bnd_e, cn, nI_1]
      unfold b_Mo_adopt_3
      rw [if_neg (nI_ge hi (by omega)), f_third a b c (by omega), Option.bind_some, (hx i hi).1, nI_3]
      simp only [ck_t o50, bnd_e, c3, ck_t o51, ccl, ck_t o52, ck_t o52n, cn, gI_sI, show ¬ (52 : Nat) = 50 by decide, show ¬ (52 : Nat) = 51 by decide, false_and, if_false, v52, v52n, nI_1]
      by_cases z : he (cc i) + 1 ≤ mx i (fun j => he (cc j) + 1)
      · rw [if_pos (nI_le z (by omega)), sec _ _ rfl, m1, Nat.max_eq_left z]
      · rw [if_neg (nI_ge (by omega) (by have := g3.2; omega)), sec _ _ rfl, m1, Nat.max_eq_right (by omega)]
  obtain ⟨x', k, ⟨υ, rfl, e2, e3, e4, e5, e6, e7⟩, e⟩ := lpF_in I cnt _ h0 hs (by omega)
  refine ⟨υ, ?_, e2, e3, e4, e5, e6, e7⟩
  unfold l_Mo_adopt_3
  refine e.trans ?_
  show b_Mo_adopt_3 k (nI n) (nI cnt) a b c (nI q) (nI cnt) υ = _
  unfold b_Mo_adopt_3
  rw [if_pos (nI_le (Nat.le_refl _) (by omega))]
