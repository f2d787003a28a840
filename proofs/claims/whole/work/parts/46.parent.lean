/-! a parent more: what it comes to, and the class's side -/
noncomputable def cif {α : Type} (p : Prop) (a b : α) : α := @ite α p (Classical.propDecidable p) a b
theorem cif_t {α : Type} {p : Prop} {a b : α} (h : p) : cif p a b = a := @if_pos p (Classical.propDecidable p) h α a b
theorem cif_f {α : Type} {p : Prop} {a b : α} (h : ¬ p) : cif p a b = b := @if_neg p (Classical.propDecidable p) h α a b
def parF (F : Fr) (sort set cnt : Nat) (c : Nat → Nat) : Fr := addN F sort set cnt c (1 + mx cnt (fun j => jhe F (c j))) (mx cnt (fun j => jcc F (c j)) + (if sort = 1 then 1 else 0)) (fun _ => 0)
def parT (F : Fr) (cnt : Nat) (x : Nat → Int32) : Prop := ∀ j, j < cnt → am (x j) 0 (nI (jn F) - 1) = true
def parK (F : Fr) (cnt : Nat) (c : Nat → Nat) : Prop := ∃ i, i < cnt ∧ (jpa F (c i) < 40 ∨ ∃ j, j < i ∧ c j = c i)
def parD (F : Fr) (sort cnt : Nat) (c : Nat → Nat) : Prop := 8 < 1 + mx cnt (fun j => jhe F (c j)) ∨ 5 < mx cnt (fun j => jcc F (c j)) + (if sort = 1 then 1 else 0)
def parW (F : Fr) (sort set cnt : Nat) (c : Nat → Nat) : Prop := 64 < pls (parF F sort set cnt c) (jn F) 0 ∨ 64 < pls (parF F sort set cnt c) (jn F) 1
noncomputable def parS (F : Fr) (sort set cnt : Nat) (x : Nat → Int32) (c : Nat → Nat) : Int32 × Fr :=
  cif (parT F cnt x) (cif (jn F < 40) (cif (parK F cnt c) (-4, F) (cif (parD F sort cnt c) (-5, F) (cif (parW F sort set cnt c) (-6, F) (nI (jn F), parF F sort set cnt c)))) (-3, F)) (-2, F)
/-- what a call asks for: a chance, or a node of a set -/
def parA (F : Fr) (sort set cnt : Nat) : Prop := 1 ≤ cnt ∧ cnt ≤ 3 ∧ ((sort = 1 ∧ set = 0) ∨ (sort = 2 ∧ set < jk F ∧ cnt = jac F set))
theorem par_ok {F : Fr} {sort set cnt : Nat} {c : Nat → Nat} (ha : parA F sort set cnt) (hn : jn F < 40) (hc : ∀ j, j < cnt → c j < jn F) (hk : ¬ parK F cnt c) (hd : ¬ parD F sort cnt c) : okN F sort set cnt c (1 + mx cnt (fun j => jhe F (c j))) (mx cnt (fun j => jcc F (c j)) + (if sort = 1 then 1 else 0)) (fun _ => 0) := by
  obtain ⟨a1, a2, a3⟩ := ha
  have hs : sort = 1 ∨ sort = 2 := a3.elim (fun z => Or.inl z.1) (fun z => Or.inr z.1)
  refine ⟨hn, by omega, a2, fun e => by omega, fun _ => a1, fun e => ?_, fun j hj => ⟨hc j hj, ?_, fun j' hj' e => ?_, ?_, ?_⟩, ?_, ?_, fun e => by omega⟩
  · rcases a3 with z | z
    · omega
    · exact z.2
  · exact fun z => hk ⟨j, hj, Or.inl z⟩
  · by_cases q : j' = j
    · exact q
    · rcases Nat.lt_or_ge j' j with z | z
      · exact absurd ⟨j, hj, Or.inr ⟨j', z, e⟩⟩ hk
      · exact absurd ⟨j', hj', Or.inr ⟨j, by omega, e.symm⟩⟩ hk
  · have := mx_ge (f := fun j => jhe F (c j)) hj
    show jhe F (c j) < _
    have h2 : (fun j => jhe F (c j)) j = jhe F (c j) := rfl
    omega
  · have := mx_ge (f := fun j => jcc F (c j)) hj
    have h2 : (fun j => jcc F (c j)) j = jcc F (c j) := rfl
    omega
  · unfold parD at hd
    omega
  · unfold parD at hd
    omega
theorem f_adopt {ρ : gS} {n cnt : Nat} {c : Nat → Nat} (hn : n < 40) (hc : cnt ≤ 3) (hx : ∀ j, j < cnt → gI ρ 15 j = nI (c j)) (hcn : ∀ j, j < cnt → c j < n) :
    ∃ τ, f_Fo_adoptOffered ρ (nI n) (nI cnt) = some τ ∧ (∀ i, gI τ 8 i = if i = n then nI cnt else gI ρ 8 i) ∧ (∀ j, j < 3 → gI τ 7 (3 * n + j) = if j < cnt then nI (c j) else gI ρ 7 (3 * n + j)) ∧ (∀ i, (∀ j, j < 3 → i ≠ 3 * n + j) → gI τ 7 i = gI ρ 7 i) ∧ (∀ i, gI τ 4 i = if isC cnt c i = true then nI n else gI ρ 4 i) ∧ (∀ m, m ≠ n → gL τ 11 m = gL ρ 11 m) ∧ (∀ i, tb (gL τ 11 n) i = true ↔ tb (gL ρ 11 n) i = true ∨ ∃ j, j < cnt ∧ tb (gL ρ 11 (c j)) i = true) ∧ sm (fun c => c ≠ 8 ∧ c ≠ 7 ∧ c ≠ 4 ∧ c ≠ 11) ρ τ := by
  have o8 := okI_lt (k := 8) (n := n) (L := 40) rfl rfl hn (by decide)
  have o11 := okJ_lt (k := 11) (n := n) (L := 40) rfl rfl hn (by decide)
  have cn := nI_c (n := n) (by omega)
  unfold f_Fo_adoptOffered b_Fo_adoptOffered_0
  rw [ck_t o8, bnd_e, cn]
  let I : Nat → (Int32 × Int32 × Int32 × gS) → Prop := fun i x => ∃ υ : gS, x = (nI n, nI cnt, nI i, υ) ∧ (∀ m, gI υ 8 m = if m = n then nI cnt else gI ρ 8 m) ∧ (∀ j, j < 3 → gI υ 7 (3 * n + j) = if j < i then nI (c j) else gI ρ 7 (3 * n + j)) ∧ (∀ m, (∀ j, j < 3 → m ≠ 3 * n + j) → gI υ 7 m = gI ρ 7 m) ∧ (∀ m, gI υ 4 m = if isC i c m = true then nI n else gI ρ 4 m) ∧ (∀ m, m ≠ n → gL υ 11 m = gL ρ 11 m) ∧ (∀ m, tb (gL υ 11 n) m = true ↔ tb (gL ρ 11 n) m = true ∨ ∃ j, j < i ∧ tb (gL ρ 11 (c j)) m = true) ∧ sm (fun c => c ≠ 8 ∧ c ≠ 7 ∧ c ≠ 4 ∧ c ≠ 11) ρ υ
  have h0 : I 0 (nI n, nI cnt, 0, sI ρ 8 n (nI cnt)) := by
    refine ⟨_, rfl, ?_, ?_, ?_, ?_, ?_, ?_, ?_⟩
    · intro m; simp [gI_sI]
    · intro j hj; simp [gI_sI]
    · intro m _; simp [gI_sI]
    · intro m; simp [gI_sI, isC]
    · intro m _; rfl
    · intro m
      exact ⟨Or.inl, fun z => z.elim id (fun ⟨j, hj, _⟩ => absurd hj (Nat.not_lt_zero j))⟩
    · exact sm_sI _ _ _ (fun z => z.1 rfl)
  have hs : ∀ i, i < cnt → ∀ x, I i x → ∃ x', I (i + 1) x' ∧ ∀ k, b_Fo_adoptOffered_9 k x.1 x.2.1 x.2.2.1 x.2.2.2 = k x' := by
    rintro i hi x ⟨υ, rfl, e1, e2, e3, e4, e5, e6, e7⟩
    have hci := hcn i hi
    have o15 := okI_lt (k := 15) (n := i) (L := 3) rfl rfl (by omega) (by decide)
    have o7 := okI_lt (k := 7) (n := 3 * n + i) (L := 120) rfl rfl (by omega) (by decide)
    have o4 := okI_lt (k := 4) (n := c i) (L := 40) rfl rfl (by omega) (by decide)
    have o11c := okJ_lt (k := 11) (n := c i) (L := 40) rfl rfl (by omega) (by decide)
    have ci := nI_c (n := i) (by omega)
    have cc := nI_c (n := c i) (by omega)
    have c3 := nI_c (n := 3 * n + i) (by omega)
    have h15 : gI υ 15 i = nI (c i) := by rw [e7.i (by decide), hx i hi]
    refine ⟨(nI n, nI cnt, nI (i + 1), sL (sI (sI υ 7 (3 * n + i) (nI (c i))) 4 (c i) (nI n)) 11 n (gL υ 11 n ||| gL υ 11 (c i))), ⟨_, rfl, ?_, ?_, ?_, ?_, ?_, ?_, ?_⟩, ?_⟩
    · intro m; simp [gI_sI, gI_sL, e1]
    · intro j hj
      simp only [gI_sI, gI_sL, show ¬ (7 : Nat) = 4 by decide, false_and, if_false, true_and]
      by_cases q : j = i
      · subst q
        rw [if_pos rfl, if_pos (by omega)]
      · rw [if_neg (by omega), e2 j hj]
        by_cases q2 : j < i
        · rw [if_pos q2, if_pos (by omega)]
        · rw [if_neg q2, if_neg (by omega)]
    · intro m hm
      have := hm i (by omega)
      simp [gI_sI, gI_sL, this, e3 m hm]
    · intro m
      simp only [gI_sI, gI_sL, true_and, show ¬ (4 : Nat) = 7 by decide, false_and, if_false]
      have key : isC (i + 1) c m = true ↔ c i = m ∨ isC i c m = true := by
        rw [isC_iff (by omega), isC_iff (by omega)]
        constructor
        · rintro ⟨j, hj, e⟩
          by_cases q : j = i
          · subst q; exact Or.inl e
          · exact Or.inr ⟨j, by omega, e⟩
        · rintro (e | ⟨j, hj, e⟩)
          · exact ⟨i, by omega, e⟩
          · exact ⟨j, by omega, e⟩
      by_cases q : m = c i
      · rw [if_pos q, if_pos (key.mpr (Or.inl q.symm))]
      · rw [if_neg q, e4 m]
        by_cases q2 : isC i c m = true
        · rw [if_pos q2, if_pos (key.mpr (Or.inr q2))]
        · rw [if_neg q2, if_neg (fun z => (key.mp z).elim (fun e => q e.symm) q2)]
    · intro m hm
      rw [gL_place _ _ _ hm]
      exact e5 m hm
    · intro m
      rw [gL_same, tb_or, Bool.or_eq_true, e6 m, e5 (c i) (by omega)]
      constructor
      · rintro ((z | ⟨j, hj, z⟩) | z)
        · exact Or.inl z
        · exact Or.inr ⟨j, by omega, z⟩
        · exact Or.inr ⟨i, by omega, z⟩
      · rintro (z | ⟨j, hj, z⟩)
        · exact Or.inl (Or.inl z)
        · by_cases q : j = i
          · subst q; exact Or.inr z
          · exact Or.inl (Or.inr ⟨j, by omega, z⟩)
    · exact ((e7.tr (sm_sI _ _ _ (fun z => z.2.1 rfl))).tr (sm_sI _ _ _ (fun z => z.2.2.1 rfl))).tr (sm_sL _ _ _ (fun z => z.2.2.2 rfl))
    · intro k
      show b_Fo_adoptOffered_9 k (nI n) (nI cnt) (nI i) υ = _
      unfold b_Fo_adoptOffered_9
      rw [if_neg (nI_ge hi (by omega)), nI_3]
      simp only [ck_t o15, ck_t o7, bnd_e, ci, c3, gI_sI, h15, show ¬ (15 : Nat) = 7 by decide, show ¬ (15 : Nat) = 4 by decide, false_and, if_false, ck_t o4, cc, ck_t o11, ck_t o11c, cn, nI_1, gL_sI]
  obtain ⟨x', k, ⟨υ, rfl, e1, e2, e3, e4, e5, e6, e7⟩, e⟩ := lpF_in I cnt _ h0 hs (by omega)
  refine ⟨υ, ?_, e1, e2, e3, e4, e5, e6, e7⟩
  unfold l_Fo_adoptOffered_9
  refine e.trans ?_
  show b_Fo_adoptOffered_9 k (nI n) (nI cnt) (nI cnt) υ = _
  unfold b_Fo_adoptOffered_9
  rw [if_pos (nI_le (Nat.le_refl _) (by omega))]
theorem parF_bits {F : Fr} {sort set cnt : Nat} {c : Nat → Nat} (h : WF F) (hk : okN F sort set cnt c (1 + mx cnt (fun j => jhe F (c j))) (mx cnt (fun j => jcc F (c j)) + (if sort = 1 then 1 else 0)) (fun _ => 0)) {b : Nat → Bool} (hb : ∀ k, k < 10 → (b k = true ↔ (sort = 2 ∧ set = k) ∨ ∃ j, j < cnt ∧ ins F (c j) k = true)) (pl : Nat) : prd b (jow F) (jac F) pl (jk F) = pls (parF F sort set cnt c) (jn F) pl := by
  have e : prd b (jow F) (jac F) pl (jk F) = prd (ins (parF F sort set cnt c) (jn F)) (jow F) (jac F) pl (jk F) := by
    refine prd_congr _ (fun k hk9 => ⟨?_, fun _ => ⟨rfl, rfl⟩⟩)
    have := h.1.2
    rw [Bool.eq_iff_iff, hb k (by omega)]
    exact (ins_new h hk k).symm
  rw [e]
  unfold pls
  have e2 : 10 = jk F + (10 - jk F) := by have := h.1.2; omega
  show _ = prd (ins (parF F sort set cnt c) (jn F)) (jow F) (jac F) pl 10
  rw [e2]
  refine (prd_more _ (fun k hk9 => ?_)).symm
  cases q : ins (parF F sort set cnt c) (jn F) k with
  | false => rfl
  | true =>
    rcases (ins_new h hk k).mp q with ⟨z1, z2⟩ | ⟨j, hj, z⟩
    · have := (hk.2.2.2.2.2.1 z1).1
      omega
    · have := ins_lt h z
      omega
theorem pls_small {F : Fr} (h : WF F) {b : Nat → Bool} (pl : Nat) : prd b (jow F) (jac F) pl (jk F) < 100000 := by
  have h1 : prd b (jow F) (jac F) pl (jk F) ≤ 3 ^ jk F := prd_le _ (fun k hk _ => by have := (h.2.1 k hk).2; omega)
  have h2 : 3 ^ jk F ≤ 3 ^ 10 := Nat.pow_le_pow_right (by decide) h.1.2
  have h3 : (3 : Nat) ^ 10 = 59049 := by decide
  omega
theorem WF_parS {F : Fr} {sort set cnt : Nat} {x : Nat → Int32} {c : Nat → Nat} (h : WF F) (ha : parA F sort set cnt) (hx : ∀ j, j < cnt → am (x j) 0 (nI (jn F) - 1) = true → x j = nI (c j) ∧ c j < jn F) : WF (parS F sort set cnt x c).2 := by
  unfold parS
  by_cases q1 : parT F cnt x
  · rw [cif_t q1]
    by_cases q2 : jn F < 40
    · rw [cif_t q2]
      by_cases q3 : parK F cnt c
      · rw [cif_t q3]; exact h
      · rw [cif_f q3]
        by_cases q4 : parD F sort cnt c
        · rw [cif_t q4]; exact h
        · rw [cif_f q4]
          by_cases q5 : parW F sort set cnt c
          · rw [cif_t q5]; exact h
          · rw [cif_f q5]
            have hk := par_ok ha q2 (fun j hj => (hx j hj (q1 j hj)).2) q3 q4
            refine WF_add h hk (fun pl hpl => ?_)
            unfold parW parF at q5
            rcases (show pl = 0 ∨ pl = 1 by omega) with rfl | rfl <;> omega
    · rw [cif_f q2]; exact h
  · rw [cif_f q1]; exact h
theorem fo_par {σ : gS} {F : Fr} (h : WF F) (hc : CR σ F) {sort set cnt : Nat} (ha : parA F sort set cnt) {x : Nat → Int32} {c : Nat → Nat} (h15 : ∀ j, j < 3 → gI σ 15 j = x j) (hx : ∀ j, j < cnt → am (x j) 0 (nI (jn F) - 1) = true → x j = nI (c j) ∧ c j < jn F) {x1 : Int32} (h1 : x1 = if sort = 1 then -1 else nI set) :
    ∃ τ, f_Fo_addParent σ x1 (nI cnt) = some ((parS F sort set cnt x c).1, τ) ∧ CR τ (parS F sort set cnt x c).2 ∧ (τ = σ ∧ (parS F sort set cnt x c).2 = F ∨ gI τ 1 2 = gI σ 1 2 + 1) ∧ sm (fun c => 15 ≤ c) σ τ := by
  obtain ⟨a1, a2, a3⟩ := id ha
  have hn := hc.1.1
  have hl := h.1.1
  have hs : sort = 1 ∨ sort = 2 := a3.elim (fun z => Or.inl z.1) (fun z => Or.inr z.1)
  have hset : set < 10 := by
    rcases a3 with z | z
    · omega
    · have := h.1.2; omega
  have nn : ∀ a : Nat, a < 100000 → ¬ nI a = -1 := fun a ha e => by
    have := congrArg Int32.toInt e
    rw [nI_toInt (by omega)] at this
    have h2 : (-1 : Int32).toInt = -1 := by decide
    omega
  have hx1 : (x1 = -1 ↔ sort = 1) := by
    rw [h1]
    rcases hs with z | z
    · rw [if_pos z]; exact ⟨fun _ => z, fun _ => rfl⟩
    · rw [if_neg (by omega)]; exact ⟨fun e => absurd e (nn set (by omega)), fun e => by omega⟩
  unfold f_Fo_addParent b_Fo_addParent_0 parS
  obtain ⟨b, e1, e2⟩ := f_there (cnt := cnt) hn hl h15 a2
  rw [e1, Option.bind_some]
  by_cases q1 : parT F cnt x
  · rw [cif_t q1, if_neg (bi_ne (e2.mpr q1))]
    have hcc : ∀ j, j < cnt → x j = nI (c j) ∧ c j < jn F := fun j hj => hx j hj (q1 j hj)
    by_cases q2 : jn F < 40
    · rw [cif_t q2, hn, if_pos (show nI (jn F) < 40 from nI_lt (b := 40) q2 (by decide))]
      have hof : ∀ j, j < cnt → gI σ 15 j = nI (c j) := fun j hj => by rw [h15 j (by omega)]; exact (hcc j hj).1
      have hc40 : ∀ j, j < cnt → c j < 40 := fun j hj => by have := (hcc j hj).2; omega
      obtain ⟨b2, e3, e4⟩ := f_taken (pa := jpa F) hof hc40 (fun j hj => hc.1.2.2.2.2.2.2.1 _ (hcc j hj).2) a2
      rw [e3, Option.bind_some]
      by_cases q3 : parK F cnt c
      · rw [cif_t q3, if_neg (bi_ne (e4.mpr q3))]
        exact ⟨σ, rfl, hc, Or.inl ⟨rfl, rfl⟩, sm_rf _ _⟩
      · rw [cif_f q3, if_pos (bi_eq (fun z => q3 (e4.mp z)))]
        have hhe : ∀ j, j < cnt → gI σ 9 (c j) = nI (jhe F (c j)) ∧ jhe F (c j) ≤ 8 := fun j hj => ⟨hc.1.2.2.2.2.2.2.2.1 _ (hcc j hj).2, (h.2.2.2.2.2.1 _ (hcc j hj).2).1⟩
        have hch : ∀ j, j < cnt → gI σ 10 (c j) = nI (jcc F (c j)) ∧ jcc F (c j) ≤ 8 := fun j hj => ⟨hc.1.2.2.2.2.2.2.2.2.1 _ (hcc j hj).2, by have := (h.2.2.2.2.2.1 _ (hcc j hj).2).2.1; omega⟩
        rw [f_great (g := jhe F) (Or.inl rfl) hof hc40 hhe a2, Option.bind_some, bnd_e, f_great (g := jcc F) (Or.inr rfl) hof hc40 hch a2, Option.bind_some]
        have m1 : mx cnt (fun j => jhe F (c j)) ≤ 8 := mx_le (fun j hj => (hhe j hj).2)
        have m2 : mx cnt (fun j => jcc F (c j)) ≤ 8 := mx_le (fun j hj => (hch j hj).2)
        have go : (if x1 = -1 then b_Fo_addParent_65 x1 (nI cnt) (1 + nI (mx cnt (fun j => jhe F (c j)))) (nI (mx cnt (fun j => jcc F (c j)))) 1 σ else b_Fo_addParent_65 x1 (nI cnt) (1 + nI (mx cnt (fun j => jhe F (c j)))) (nI (mx cnt (fun j => jcc F (c j)))) 0 σ) = b_Fo_addParent_65 x1 (nI cnt) (nI (1 + mx cnt (fun j => jhe F (c j)))) (nI (mx cnt (fun j => jcc F (c j)))) (nI (if sort = 1 then 1 else 0)) σ := by
          rw [show (1 : Int32) + nI (mx cnt (fun j => jhe F (c j))) = nI (1 + mx cnt (fun j => jhe F (c j))) from nI_add 1 _]
          by_cases z : sort = 1
          · rw [if_pos (hx1.mpr z), if_pos z]; rfl
          · rw [if_neg (fun e => z (hx1.mp e)), if_neg z]; rfl
        rw [go]
        unfold b_Fo_addParent_65
        rw [bnd_e, nI_add]
        by_cases q4 : parD F sort cnt c
        · rw [cif_t q4]
          have : (if 8 < nI (1 + mx cnt (fun j => jhe F (c j))) then some ((-5 : Int32), σ) else if nI (mx cnt (fun j => jcc F (c j)) + (if sort = 1 then 1 else 0)) ≤ 5 then (f_Fo_setsOffered σ (nI cnt)).bind fun r_4 => if x1 = -1 then b_Fo_addParent_100 x1 (nI cnt) (nI (1 + mx cnt (fun j => jhe F (c j)))) (nI (mx cnt (fun j => jcc F (c j)) + (if sort = 1 then 1 else 0))) r_4 0 σ else b_Fo_addParent_100 x1 (nI cnt) (nI (1 + mx cnt (fun j => jhe F (c j)))) (nI (mx cnt (fun j => jcc F (c j)) + (if sort = 1 then 1 else 0))) r_4 (1 <<< (x1 &&& 31)) σ else some ((-5 : Int32), σ)) = some ((-5 : Int32), σ) := by
            rcases q4 with z | z
            · rw [if_pos (show (8 : Int32) < nI _ from nI_lt (a := 8) z (by omega))]
            · by_cases z2 : 8 < 1 + mx cnt (fun j => jhe F (c j))
              · rw [if_pos (show (8 : Int32) < nI _ from nI_lt (a := 8) z2 (by omega))]
              · rw [if_neg (show ¬ (8 : Int32) < nI _ from nI_nlt (a := 8) (by omega) (by decide)), if_neg (show ¬ nI _ ≤ (5 : Int32) from nI_ge (a := 5) z (by split <;> omega))]
          rw [this]
          exact ⟨σ, rfl, hc, Or.inl ⟨rfl, rfl⟩, sm_rf _ _⟩
        · rw [cif_f q4]
          have d1 : 1 + mx cnt (fun j => jhe F (c j)) ≤ 8 := by unfold parD at q4; omega
          have d2 : mx cnt (fun j => jcc F (c j)) + (if sort = 1 then 1 else 0) ≤ 5 := by unfold parD at q4; omega
          have hk := par_ok ha q2 (fun j hj => (hcc j hj).2) q3 q4
          rw [if_neg (show ¬ (8 : Int32) < nI _ from nI_nlt (a := 8) d1 (by decide)), if_pos (show nI _ ≤ (5 : Int32) from nI_le (b := 5) d2 (by decide))]
          obtain ⟨y, e5, e6⟩ := f_setsOff hof hc40 a2
          rw [e5, Option.bind_some]
          have hins : ∀ k, k < 32 → (ti y k = true ↔ ∃ j, j < cnt ∧ ins F (c j) k = true) := fun k hk9 => by
            rw [e6 k]
            refine exists_congr fun j => and_congr_right fun hj => ?_
            rw [hc.2.2.2.1 _ (hcc j hj).2 k hk9]
          obtain ⟨y2, hy2, go2⟩ : ∃ y2 : Int32, (∀ k, k < 32 → (ti y2 k = true ↔ (sort = 2 ∧ set = k) ∨ ∃ j, j < cnt ∧ ins F (c j) k = true)) ∧ (if x1 = -1 then b_Fo_addParent_100 x1 (nI cnt) (nI (1 + mx cnt (fun j => jhe F (c j)))) (nI (mx cnt (fun j => jcc F (c j)) + (if sort = 1 then 1 else 0))) y 0 σ else b_Fo_addParent_100 x1 (nI cnt) (nI (1 + mx cnt (fun j => jhe F (c j)))) (nI (mx cnt (fun j => jcc F (c j)) + (if sort = 1 then 1 else 0))) y (1 <<< (x1 &&& 31)) σ) = ((f_Fo_plansWith σ 0 y2).bind fun r_2 => if 64 < r_2 then some ((-6 : Int32), σ) else (f_Fo_plansWith σ 1 y2).bind fun r_4 => if r_4 ≤ 64 then (if x1 = -1 then b_Fo_addParent_141 x1 (nI cnt) (nI (1 + mx cnt (fun j => jhe F (c j)))) (nI (mx cnt (fun j => jcc F (c j)) + (if sort = 1 then 1 else 0))) y2 1 σ else b_Fo_addParent_141 x1 (nI cnt) (nI (1 + mx cnt (fun j => jhe F (c j)))) (nI (mx cnt (fun j => jcc F (c j)) + (if sort = 1 then 1 else 0))) y2 2 σ) else some ((-6 : Int32), σ)) := by
            by_cases z : sort = 1
            · refine ⟨y ||| 0, fun k hk9 => ?_, ?_⟩
              · rw [ti_or, ti_0, Bool.or_false, hins k hk9]
                exact ⟨Or.inr, fun w => w.elim (fun e => by omega) id⟩
              · rw [if_pos (hx1.mpr z)]; rfl
            · refine ⟨y ||| (1 <<< (x1 &&& 31)), fun k hk9 => ?_, ?_⟩
              · have hx1' : x1 = nI set := by rw [h1, if_neg z]
                rw [ti_or, hx1', ti_one (by omega), Bool.or_eq_true, decide_eq_true_eq, hins k hk9]
                constructor
                · rintro (w | w)
                  · exact Or.inr w
                  · exact Or.inl ⟨hs.resolve_left z, w.symm⟩
                · rintro (w | w)
                  · exact Or.inr w.2.symm
                  · exact Or.inl w
              · rw [if_neg (fun e => z (hx1.mp e))]; rfl
          rw [go2]
          have hpw : ∀ pl, pl < 2 → f_Fo_plansWith σ (nI pl) y2 = some (nI (pls (parF F sort set cnt c) (jn F) pl)) ∧ pls (parF F sort set cnt c) (jn F) pl < 100000 := fun pl hpl => by
            have e := parF_bits h hk (b := fun k => ti y2 k) (fun k hk9 => hy2 k (by omega)) pl
            have sm9 := pls_small h (b := fun k => ti y2 k) pl
            rw [e] at sm9
            rw [← e]
            refine ⟨f_plansWith hc.1.2.1 h.1.2 (fun k hk9 => ⟨hc.1.2.2.2.2.2.2.2.2.2.1 k hk9, (h.2.1 k hk9).1⟩) (fun k hk9 => hc.1.2.2.2.2.2.2.2.2.2.2 k hk9) (fun k hk9 => rfl) hpl, ?_⟩
            rw [e]; exact sm9
          have p0 := hpw 0 (by decide)
          have p1 := hpw 1 (by decide)
          rw [show (0 : Int32) = nI 0 from rfl, p0.1, Option.bind_some, show f_Fo_plansWith σ 1 y2 = f_Fo_plansWith σ (nI 1) y2 from rfl, p1.1, Option.bind_some]
          by_cases q5 : parW F sort set cnt c
          · rw [cif_t q5]
            have : (if 64 < nI (pls (parF F sort set cnt c) (jn F) 0) then some ((-6 : Int32), σ) else if nI (pls (parF F sort set cnt c) (jn F) 1) ≤ 64 then (if x1 = -1 then b_Fo_addParent_141 x1 (nI cnt) (nI (1 + mx cnt (fun j => jhe F (c j)))) (nI (mx cnt (fun j => jcc F (c j)) + (if sort = 1 then 1 else 0))) y2 1 σ else b_Fo_addParent_141 x1 (nI cnt) (nI (1 + mx cnt (fun j => jhe F (c j)))) (nI (mx cnt (fun j => jcc F (c j)) + (if sort = 1 then 1 else 0))) y2 2 σ) else some ((-6 : Int32), σ)) = some ((-6 : Int32), σ) := by
              by_cases z : 64 < pls (parF F sort set cnt c) (jn F) 0
              · rw [if_pos (show (64 : Int32) < nI _ from nI_lt (a := 64) z (by omega))]
              · rw [if_neg (show ¬ (64 : Int32) < nI _ from nI_nlt (a := 64) (by omega) (by decide)), if_neg (show ¬ nI _ ≤ (64 : Int32) from nI_ge (a := 64) (by unfold parW at q5; omega) (by omega))]
            rw [this]
            exact ⟨σ, rfl, hc, Or.inl ⟨rfl, rfl⟩, sm_rf _ _⟩
          · rw [cif_f q5]
            unfold parW at q5
            rw [if_neg (show ¬ (64 : Int32) < nI _ from nI_nlt (a := 64) (by omega) (by decide)), if_pos (show nI _ ≤ (64 : Int32) from nI_le (b := 64) (by omega) (by decide))]
            have go3 : (if x1 = -1 then b_Fo_addParent_141 x1 (nI cnt) (nI (1 + mx cnt (fun j => jhe F (c j)))) (nI (mx cnt (fun j => jcc F (c j)) + (if sort = 1 then 1 else 0))) y2 1 σ else b_Fo_addParent_141 x1 (nI cnt) (nI (1 + mx cnt (fun j => jhe F (c j)))) (nI (mx cnt (fun j => jcc F (c j)) + (if sort = 1 then 1 else 0))) y2 2 σ) = b_Fo_addParent_141 x1 (nI cnt) (nI (1 + mx cnt (fun j => jhe F (c j)))) (nI (mx cnt (fun j => jcc F (c j)) + (if sort = 1 then 1 else 0))) y2 (nI sort) σ := by
              rcases hs with z | z
              · rw [if_pos (hx1.mpr z), z]; rfl
              · rw [if_neg (fun e => by have := hx1.mp e; omega), z]; rfl
            rw [go3]
            unfold b_Fo_addParent_141
            have hxx : x1 = -1 ∨ ∃ k, k < 10 ∧ x1 = nI k := by
              rcases hs with z | z
              · exact Or.inl (hx1.mpr z)
              · exact Or.inr ⟨set, hset, by rw [h1, if_neg (by omega)]⟩
            obtain ⟨ρ, e, b1, b2', b3, b4, b5, b6, b7, b8, b9, b10, b11, b12⟩ := st_node σ hn q2 (nI sort) x1 hxx
            have o9 := okI_lt (k := 9) (n := jn F) (L := 40) rfl rfl q2 (by decide)
            have o10 := okI_lt (k := 10) (n := jn F) (L := 40) rfl rfl q2 (by decide)
            have o12 := okI_lt (k := 12) (n := jn F) (L := 40) rfl rfl q2 (by decide)
            have cn := nI_c (n := jn F) (by omega)
            generalize hhei : 1 + mx cnt (fun j => jhe F (c j)) = hei at hk d1 ⊢
            generalize hcch : mx cnt (fun j => jcc F (c j)) + (if sort = 1 then 1 else 0) = cch at hk d2 ⊢
            simp only [e, Option.bind_some, bnd_e, ck_t o9, ck_t o10, ck_t o12, cn]
            have hx15 : ∀ j, j < cnt → gI (sI (sI (sI ρ 9 (jn F) (nI hei)) 10 (jn F) (nI cch)) 12 (jn F) y2) 15 j = nI (c j) := fun j hj => by
              simp only [gI_sI, show ¬ (15 : Nat) = 9 by decide, show ¬ (15 : Nat) = 10 by decide, show ¬ (15 : Nat) = 12 by decide, false_and, if_false]
              rw [b12.i (by decide), hof j hj]
            obtain ⟨τ, f1, f2, f3, f4, f5, f6, f7, f8⟩ := f_adopt (ρ := sI (sI (sI ρ 9 (jn F) (nI hei)) 10 (jn F) (nI cch)) 12 (jn F) y2) q2 a2 hx15 (fun j hj => (hcc j hj).2)
            rw [f1, Option.bind_some]
            have hs9 : ∀ k i, k ≠ 8 → k ≠ 7 → k ≠ 4 → k ≠ 11 → k ≠ 9 → k ≠ 10 → k ≠ 12 → gI τ k i = gI ρ k i := fun k i g1 g2 g3 g4 g5 g6 g7 => by
              rw [f8.i ⟨g1, g2, g3, g4⟩]
              simp [gI_sI, g5, g6, g7]
            refine ⟨τ, rfl, CR_add h hc (by rw [hhei, hcch]; exact hk) (BR_add hc.1 (by rw [hhei, hcch]; exact hk) ?_ ?_ ?_ ?_ ?_ ?_ ?_ ?_ ?_ ?_ ?_ ?_ ?_ ?_ ?_ ?_ ?_ ?_) ?_ ?_ ?_ ?_ ?_ ?_ ?_, Or.inr ?_, ?_⟩
            · rw [hs9 1 0 (by decide) (by decide) (by decide) (by decide) (by decide) (by decide) (by decide), b1]
            · rw [hs9 1 1 (by decide) (by decide) (by decide) (by decide) (by decide) (by decide) (by decide), b2']
            · intro i hi; rw [hs9 2 i (by decide) (by decide) (by decide) (by decide) (by decide) (by decide) (by decide), b4, if_neg (by omega)]
            · rw [hs9 2 _ (by decide) (by decide) (by decide) (by decide) (by decide) (by decide) (by decide), b4, if_pos rfl]
            · intro i hi; rw [hs9 3 i (by decide) (by decide) (by decide) (by decide) (by decide) (by decide) (by decide), b5, if_neg (by omega)]
            · rw [hs9 3 _ (by decide) (by decide) (by decide) (by decide) (by decide) (by decide) (by decide), b5, if_pos rfl, h1]
              rcases hs with z | z
              · rw [if_pos z, if_neg (by omega)]
              · rw [if_neg (by omega), if_pos z]
            · intro i hi v hv
              rw [hs9 6 _ (by decide) (by decide) (by decide) (by decide) (by decide) (by decide) (by decide)]
              exact b12.i (by decide) _
            · intro e0; omega
            · intro i hi j hj
              rw [f4 _ (fun j' hj' => by omega)]
              simp only [gI_sI, show ¬ (7 : Nat) = 9 by decide, show ¬ (7 : Nat) = 10 by decide, show ¬ (7 : Nat) = 12 by decide, false_and, if_false]
              exact b11 _ (fun j' hj' => by omega)
            · intro j hj
              rw [f3 j hj]
              simp only [gI_sI, show ¬ (7 : Nat) = 9 by decide, show ¬ (7 : Nat) = 10 by decide, show ¬ (7 : Nat) = 12 by decide, false_and, if_false]
              rw [b10 j hj]
            · intro i hi
              rw [f5 i]
              simp only [gI_sI, show ¬ (4 : Nat) = 9 by decide, show ¬ (4 : Nat) = 10 by decide, show ¬ (4 : Nat) = 12 by decide, false_and, if_false]
              rw [b7, if_neg (show ¬ i = jn F by omega)]
            · rw [f5 (jn F)]
              simp only [gI_sI, show ¬ (4 : Nat) = 9 by decide, show ¬ (4 : Nat) = 10 by decide, show ¬ (4 : Nat) = 12 by decide, false_and, if_false]
              rw [b7, if_pos rfl, if_neg (fun z => by
                obtain ⟨j, hj, e9⟩ := (isC_iff a2 c _).mp z
                have := (hcc j hj).2
                omega)]
            · intro i hi
              rw [f8.i (by decide)]
              simp only [gI_sI, show ¬ (9 : Nat) = 10 by decide, show ¬ (9 : Nat) = 12 by decide, false_and, if_false, true_and]
              rw [if_neg (by omega)]
              exact b12.i (by decide) _
            · rw [f8.i (by decide)]
              simp [gI_sI, hhei]
            · intro i hi
              rw [f8.i (by decide)]
              simp only [gI_sI, show ¬ (10 : Nat) = 9 by decide, show ¬ (10 : Nat) = 12 by decide, false_and, if_false, true_and]
              rw [if_neg (by omega)]
              exact b12.i (by decide) _
            · rw [f8.i (by decide)]
              simp [gI_sI, hcch]
            · intro k hk9
              rw [hs9 13 _ (by decide) (by decide) (by decide) (by decide) (by decide) (by decide) (by decide)]
              exact b12.i (by decide) _
            · intro k hk9
              rw [hs9 5 _ (by decide) (by decide) (by decide) (by decide) (by decide) (by decide) (by decide)]
              exact b12.i (by decide) _
            · intro i hi
              rw [f2 i, if_neg (by omega)]
              simp only [gI_sI, show ¬ (8 : Nat) = 9 by decide, show ¬ (8 : Nat) = 10 by decide, show ¬ (8 : Nat) = 12 by decide, false_and, if_false]
              rw [b6, if_neg (by omega)]
            · rw [f2 (jn F), if_pos rfl]
            · intro m hm
              rw [f6 m (by omega)]
              show gL ρ 11 m = _
              rw [b8, if_neg (by omega)]
            · intro i hi
              rw [f7 i]
              show tb (gL ρ 11 (jn F)) i = true ∨ (∃ j, j < cnt ∧ tb (gL ρ 11 (c j)) i = true) ↔ _
              rw [b8, if_pos rfl, tb_one (by omega), decide_eq_true_eq]
              refine or_congr Iff.rfl (exists_congr fun j => and_congr_right fun hj => ?_)
              rw [b8, if_neg (by have := (hcc j hj).2; omega)]
            · intro m hm
              rw [f8.i (by decide)]
              simp only [gI_sI, show ¬ (12 : Nat) = 9 by decide, show ¬ (12 : Nat) = 10 by decide, false_and, if_false, true_and]
              rw [if_neg (by omega)]
              exact b12.i (by decide) _
            · intro k hk9
              rw [f8.i (by decide), gI_same, hy2 k hk9]
              refine or_congr Iff.rfl (exists_congr fun j => and_congr_right fun hj => ?_)
              rw [hc.2.2.2.1 _ (hcc j hj).2 k hk9]
            · intro k hk9 i hi
              have hk10 : k < 10 := by have := h.1.2; omega
              rw [f8.l (by decide)]
              show tb (gL ρ 14 k) i = true ↔ _
              rw [b9 k hk10]
              rcases hs with z | z
              · rw [if_neg (fun e9 => nn k (by omega) (by rw [← e9]; exact hx1.mpr z))]
                exact ⟨Or.inl, fun w => w.elim id (fun w => by omega)⟩
              · have hx1' : x1 = nI set := by rw [h1, if_neg (by omega)]
                by_cases z2 : set = k
                · rw [if_pos (by rw [hx1', z2]), tb_or, Bool.or_eq_true, tb_one (by omega), decide_eq_true_eq]
                  exact or_congr Iff.rfl ⟨fun w => ⟨w, z, z2⟩, fun w => w.1⟩
                · rw [if_neg (fun e9 => z2 ((nI_eq (by omega) (by omega)).mp (hx1'.symm.trans e9)))]
                  exact ⟨Or.inl, fun w => w.elim id (fun w => absurd w.2.2 z2)⟩
            · rw [hs9 1 2 (by decide) (by decide) (by decide) (by decide) (by decide) (by decide) (by decide), b3]
            · refine ((b12.less (fun k hk9 => ?_)).tr ?_).tr (f8.less (fun k hk9 => ?_))
              · have : 15 ≤ k := hk9
                omega
              · intro k hk9
                have q : k ≠ 9 ∧ k ≠ 10 ∧ k ≠ 12 := by
                  have : 15 ≤ k := hk9
                  omega
                obtain ⟨g1, g2, g3⟩ := q
                constructor <;> simp [sI, va_up, g1, g2, g3]
              · have : 15 ≤ k := hk9
                omega
    · rw [cif_f q2, hn, if_neg (show ¬ nI (jn F) < 40 from nI_nlt (b := 40) (by omega) (by omega))]
      exact ⟨σ, rfl, hc, Or.inl ⟨rfl, rfl⟩, sm_rf _ _⟩
  · rw [cif_f q1, if_pos (bi_eq (fun z => q1 (e2.mp z)))]
    exact ⟨σ, rfl, hc, Or.inl ⟨rfl, rfl⟩, sm_rf _ _⟩
