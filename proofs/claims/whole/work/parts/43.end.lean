/-! a node more, in states -/
section BA
variable {σ τ : gS} {F : Fr} {o cSo cSe cWo cCh cPa cHe cCc cOw cAc : Nat} {sort set cnt : Nat} {c : Nat → Nat} {hei cch : Nat} {w : Nat → Int32}
theorem BR_add (hb : BR σ F o cSo cSe cWo cCh cPa cHe cCc cOw cAc) (hk : okN F sort set cnt c hei cch w)
    (e0 : gI τ o 0 = nI (jn F + 1)) (e1 : gI τ o 1 = gI σ o 1) (e2 : ∀ i, i < jn F → gI τ cSo i = gI σ cSo i) (f2 : gI τ cSo (jn F) = nI sort) (e3 : ∀ i, i < jn F → gI τ cSe i = gI σ cSe i) (f3 : gI τ cSe (jn F) = if sort = 2 then nI set else -1)
    (e4 : ∀ i, i < jn F → ∀ v, v < 2 → gI τ cWo (2 * i + v) = gI σ cWo (2 * i + v)) (f4 : sort = 0 → ∀ v, v < 2 → gI τ cWo (2 * jn F + v) = w v) (e5 : ∀ i, i < jn F → ∀ j, j < 3 → gI τ cCh (3 * i + j) = gI σ cCh (3 * i + j)) (f5 : ∀ j, j < 3 → gI τ cCh (3 * jn F + j) = if j < cnt then nI (c j) else -1)
    (e6 : ∀ i, i < jn F → gI τ cPa i = if isC cnt c i = true then nI (jn F) else gI σ cPa i) (f6 : gI τ cPa (jn F) = -1) (e7 : ∀ i, i < jn F → gI τ cHe i = gI σ cHe i) (f7 : gI τ cHe (jn F) = nI hei) (e8 : ∀ i, i < jn F → gI τ cCc i = gI σ cCc i) (f8 : gI τ cCc (jn F) = nI cch)
    (e9 : ∀ k, k < jk F → gI τ cOw k = gI σ cOw k) (e10 : ∀ k, k < jk F → gI τ cAc k = gI σ cAc k) : BR τ (addN F sort set cnt c hei cch w) o cSo cSe cWo cCh cPa cHe cCc cOw cAc := by
  obtain ⟨b0, b1, b2, b3, b4, b5, b6, b7, b8, b9, b10⟩ := hb
  have up : ∀ {α : Type} (f : Nat → α) (v : α) {i : Nat}, i < jn F → va_up f (jn F) v i = f i := fun f v i hi => va_up_ne _ _ (by omega)
  have us : ∀ {α : Type} (f : Nat → α) (v : α), va_up f (jn F) v (jn F) = v := fun f v => va_up_self _ _ _
  have sp : ∀ i, i < jn (addN F sort set cnt c hei cch w) → i < jn F ∨ i = jn F := fun i hi => by
    have : i < jn F + 1 := hi
    omega
  refine ⟨e0, e1.trans b1, fun i hi => ?_, fun i hi => ?_, fun i hi => ?_, fun i hi => ?_, fun i hi => ?_, fun i hi => ?_, fun i hi => ?_, fun k hk => ?_, fun k hk => ?_⟩
  · show gI τ cSo i = nI (va_up (jso F) (jn F) sort i)
    rcases sp i hi with q | rfl
    · rw [up _ _ q, e2 i q, b2 i q]
    · rw [us, f2]
  · show gI τ cSe i = if va_up (jso F) (jn F) sort i = 2 then nI (va_up (jse F) (jn F) set i) else -1
    rcases sp i hi with q | rfl
    · rw [up _ _ q, up _ _ q, e3 i q, b3 i q]
    · rw [us, us, f3]
  · show va_up (jso F) (jn F) sort i = 0 → ∀ v, v < 2 → gI τ cWo (2 * i + v) = va_up (jwo F) (jn F) w i v
    rcases sp i hi with q | rfl
    · rw [up _ _ q, up _ _ q]
      intro h0 v hv
      rw [e4 i q v hv, b4 i q h0 v hv]
    · rw [us, us]
      exact f4
  · show ∀ j, j < 3 → gI τ cCh (3 * i + j) = if j < va_up (jcn F) (jn F) cnt i then nI (va_up (jch F) (jn F) c i j) else -1
    rcases sp i hi with q | rfl
    · rw [up _ _ q, up _ _ q]
      intro j hj
      rw [e5 i q j hj, b5 i q j hj]
    · rw [us, us]
      exact f5
  · show gI τ cPa i = if (if i = jn F then 40 else if isC cnt c i = true then jn F else jpa F i) < 40 then nI (if i = jn F then 40 else if isC cnt c i = true then jn F else jpa F i) else -1
    rcases sp i hi with q | rfl
    · rw [if_neg (show ¬ i = jn F by omega), e6 i q]
      by_cases z : isC cnt c i = true
      · rw [if_pos z, if_pos z, if_pos hk.1]
      · rw [if_neg z, if_neg z, b6 i q]
    · rw [if_pos rfl, f6]
      rfl
  · show gI τ cHe i = nI (va_up (jhe F) (jn F) hei i)
    rcases sp i hi with q | rfl
    · rw [up _ _ q, e7 i q, b7 i q]
    · rw [us, f7]
  · show gI τ cCc i = nI (va_up (jcc F) (jn F) cch i)
    rcases sp i hi with q | rfl
    · rw [up _ _ q, e8 i q, b8 i q]
    · rw [us, f8]
  · exact (e9 k hk).trans (b9 k hk)
  · exact (e10 k hk).trans (b10 k hk)
theorem CR_add (h : WF F) (hc : CR σ F) (hk : okN F sort set cnt c hei cch w) (hb : CB τ (addN F sort set cnt c hei cch w))
    (e8 : ∀ i, i < jn F → gI τ 8 i = gI σ 8 i) (f8 : gI τ 8 (jn F) = nI cnt) (e11 : ∀ m, m < jn F → gL τ 11 m = gL σ 11 m) (f11 : ∀ i, i < 64 → (tb (gL τ 11 (jn F)) i = true ↔ i = jn F ∨ ∃ j, j < cnt ∧ tb (gL σ 11 (c j)) i = true))
    (e12 : ∀ m, m < jn F → gI τ 12 m = gI σ 12 m) (f12 : ∀ k, k < 32 → (ti (gI τ 12 (jn F)) k = true ↔ (sort = 2 ∧ set = k) ∨ ∃ j, j < cnt ∧ ti (gI σ 12 (c j)) k = true))
    (f14 : ∀ k, k < jk F → ∀ i, i < 64 → (tb (gL τ 14 k) i = true ↔ tb (gL σ 14 k) i = true ∨ (i = jn F ∧ sort = 2 ∧ set = k))) : CR τ (addN F sort set cnt c hei cch w) := by
  obtain ⟨b0, b1, b2, b3, b4⟩ := hc
  have up : ∀ {α : Type} (f : Nat → α) (v : α) {i : Nat}, i < jn F → va_up f (jn F) v i = f i := fun f v i hi => va_up_ne _ _ (by omega)
  have us : ∀ {α : Type} (f : Nat → α) (v : α), va_up f (jn F) v (jn F) = v := fun f v => va_up_self _ _ _
  have sp : ∀ i, i < jn (addN F sort set cnt c hei cch w) → i < jn F ∨ i = jn F := fun i hi => by
    have : i < jn F + 1 := hi
    omega
  refine ⟨hb, fun i hi => ?_, fun m hm i hi => ?_, fun m hm k hk9 => ?_, fun k hk9 i hi => ?_⟩
  · show gI τ 8 i = nI (va_up (jcn F) (jn F) cnt i)
    rcases sp i hi with q | rfl
    · rw [up _ _ q, e8 i q, b1 i q]
    · rw [us, f8]
  · rcases sp m hm with q | rfl
    · rw [e11 m q, b2 m q i hi]
      show (decide (i < jn F) && bl F m i) = (decide (i < jn F + 1) && bl (addN F sort set cnt c hei cch w) m i)
      by_cases z : i < jn F
      · rw [bl_old h hk q z]
        simp [z, show i < jn F + 1 by omega]
      · by_cases z2 : i = jn F
        · subst z2
          rw [bl_top hk q]
          simp
        · simp [z, show ¬ i < jn F + 1 by omega]
    · rw [Bool.eq_iff_iff, f11 i hi]
      show _ ↔ (decide (i < jn F + 1) && bl (addN F sort set cnt c hei cch w) (jn F) i) = true
      simp only [Bool.and_eq_true, decide_eq_true_eq]
      by_cases z2 : i = jn F
      · subst z2
        exact ⟨fun _ => ⟨by omega, bl_self _ _⟩, fun _ => Or.inl rfl⟩
      · constructor
        · rintro (q | ⟨j, hj, q⟩)
          · exact absurd q z2
          · have hcj := (hk.2.2.2.2.2.2.1 j hj).1
            rw [b2 _ hcj i hi] at q
            simp only [Bool.and_eq_true, decide_eq_true_eq] at q
            exact ⟨by omega, (bl_new h hk q.1).mpr ⟨j, hj, q.2⟩⟩
        · rintro ⟨q1, q2⟩
          obtain ⟨j, hj, q3⟩ := (bl_new h hk (by omega)).mp q2
          have hcj := (hk.2.2.2.2.2.2.1 j hj).1
          refine Or.inr ⟨j, hj, ?_⟩
          rw [b2 _ hcj i hi]
          simp only [Bool.and_eq_true, decide_eq_true_eq]
          exact ⟨by omega, q3⟩
  · rcases sp m hm with q | rfl
    · rw [e12 m q, b3 m q k hk9, ins_old h hk q]
    · rw [Bool.eq_iff_iff, f12 k hk9, ins_new h hk]
      refine or_congr Iff.rfl (exists_congr fun j => and_congr_right fun hj => ?_)
      rw [b3 _ (hk.2.2.2.2.2.2.1 j hj).1 k hk9]
  · have hk9' : k < jk F := hk9
    rw [Bool.eq_iff_iff, f14 k hk9' i hi, b4 k hk9' i hi]
    show _ ↔ (decide (i < jn F + 1) && (va_up (jso F) (jn F) sort i == 2 && va_up (jse F) (jn F) set i == k)) = true
    simp only [Bool.and_eq_true, decide_eq_true_eq, beq_iff_eq]
    by_cases z : i < jn F
    · rw [up _ _ z, up _ _ z]
      constructor
      · rintro (⟨q1, q2⟩ | ⟨q1, -⟩)
        · exact ⟨by omega, q2⟩
        · omega
      · rintro ⟨q1, q2⟩
        exact Or.inl ⟨z, q2⟩
    · by_cases z2 : i = jn F
      · subst z2
        rw [us, us]
        constructor
        · rintro (⟨q1, -⟩ | ⟨-, q⟩)
          · omega
          · exact ⟨by omega, q⟩
        · rintro ⟨-, q⟩
          exact Or.inr ⟨rfl, q⟩
      · constructor
        · rintro (⟨q1, -⟩ | ⟨q1, -⟩)
          · omega
          · exact absurd q1 z2
        · rintro ⟨q1, -⟩
          omega
end BA
/-- the reference: a node begins -/
theorem mk_node (σ : gS) {n : Nat} (hn : gI σ 46 0 = nI n) (h : n < 40) (x1 : Int32) :
    ∃ τ, f_Mo_make σ x1 = some (nI n, τ) ∧ gI τ 46 0 = nI (n + 1) ∧ gI τ 46 1 = gI σ 46 1 ∧ (∀ i, gI τ 47 i = if i = n then x1 else gI σ 47 i) ∧ (∀ i, gI τ 48 i = if i = n then -1 else gI σ 48 i) ∧ (∀ i, gI τ 49 i = if i = 2 * n + 1 then 0 else if i = 2 * n then 0 else gI σ 49 i) ∧ (∀ i, gI τ 51 i = if i = n then -1 else gI σ 51 i) ∧
      (∀ i, gI τ 52 i = if i = n then 0 else gI σ 52 i) ∧ (∀ i, gI τ 53 i = if i = n then 0 else gI σ 53 i) ∧ (∀ j, j < 3 → gI τ 50 (3 * n + j) = -1) ∧ (∀ i, (∀ j, j < 3 → i ≠ 3 * n + j) → gI τ 50 i = gI σ 50 i) ∧ sm (fun c => c < 46 ∨ 54 ≤ c) σ τ := by
  have o47 := okI_lt (k := 47) (n := n) rfl rfl h (by decide)
  have o48 := okI_lt (k := 48) (n := n) rfl rfl h (by decide)
  have o49 := okI_lt (k := 49) (n := 2 * n) (L := 80) rfl rfl (by omega) (by decide)
  have o49' := okI_lt (k := 49) (n := 2 * n + 1) (L := 80) rfl rfl (by omega) (by decide)
  have o51 := okI_lt (k := 51) (n := n) rfl rfl h (by decide)
  have o52 := okI_lt (k := 52) (n := n) rfl rfl h (by decide)
  have o53 := okI_lt (k := 53) (n := n) rfl rfl h (by decide)
  have cn := nI_c (n := n) (by omega)
  have cn2 := nI_c (n := 2 * n) (by omega)
  have cn3 := nI_c (n := 2 * n + 1) (by omega)
  have m2 : (2 : Int32) * nI n = nI (2 * n) := by rw [show (2 : Int32) = nI 2 from rfl, pk_mul]
  have lp : ∀ ρ : gS, gI ρ 46 0 = nI n → l_Mo_make_78 (0, ρ) = b_Mo_make_78 (fun x => none) 3 (sI (sI (sI ρ 50 (3 * n + 0) (-1)) 50 (3 * n + 1) (-1)) 50 (3 * n + 2) (-1)) := by
    intro ρ hρ
    have ok : ∀ j, j < 3 → okI 50 (nI (3 * n + j)) = true := fun j hj => okI_lt (k := 50) (L := 120) rfl rfl (by omega) (by decide)
    have st : ∀ (k : Int32 × gS → Option (Int32 × gS)) (j : Nat) (ρ : gS), j < 3 → gI ρ 46 0 = nI n → b_Mo_make_78 k (nI j) ρ = k (nI (j + 1), sI ρ 50 (3 * n + j) (-1)) := by
      intro k j ρ hj hρ
      unfold b_Mo_make_78
      rw [if_neg (show ¬ (3 : Int32) ≤ nI j from nI_ge (b := 3) hj (by decide)), hρ, nI_3, ck_t (ok j hj)]
      simp only [bnd_e, nI_c (show 3 * n + j < 100000 by omega), nI_1]
    have kp : ∀ (ρ : gS) (i : Nat), gI ρ 46 0 = nI n → gI (sI ρ 50 i (-1)) 46 0 = nI n := fun ρ i q => by rw [gI_cell ρ i (-1) 0 (by decide)]; exact q
    unfold l_Mo_make_78
    rw [lp_gF]
    show b_Mo_make_78 _ (nI 0) ρ = _
    rw [st _ 0 _ (by decide) hρ]
    show b_Mo_make_78 _ (nI 1) _ = _
    rw [st _ 1 _ (by decide) (kp _ _ hρ)]
    show b_Mo_make_78 _ (nI 2) _ = _
    rw [st _ 2 _ (by decide) (kp _ _ (kp _ _ hρ))]
    rfl
  have fin : ∀ (k : Int32 × gS → Option (Int32 × gS)) (ρ : gS), gI ρ 46 0 = nI n → b_Mo_make_78 k 3 ρ = some (nI n, sI ρ 46 0 (nI (n + 1))) := fun k ρ q => by
    show some (gI (sI ρ 46 0 (gI ρ 46 0 + 1)) 46 0 - 1, sI ρ 46 0 (gI ρ 46 0 + 1)) = _
    rw [gI_same, q, nI_1, nI_pred]
  unfold f_Mo_make b_Mo_make_0
  simp only [bnd_e, gI_sI, hn, m2, nI_1, ck_t o47, ck_t o48, ck_t o49, ck_t o49', ck_t o51, ck_t o52, ck_t o53, cn, cn2, cn3, show ¬ (46 : Nat) = 47 by decide, show ¬ (46 : Nat) = 48 by decide, show ¬ (46 : Nat) = 49 by decide, show ¬ (46 : Nat) = 51 by decide, show ¬ (46 : Nat) = 52 by decide, false_and, if_false]
  rw [lp _ (by simp [gI_sI, hn]), fin _ _ (by simp [gI_sI, hn])]
  refine ⟨_, rfl, ?_, ?_, ?_, ?_, ?_, ?_, ?_, ?_, ?_, ?_, ?_⟩
  · simp [gI_sI, hn, nI_1]
  · simp [gI_sI]
  · intro i; simp [gI_sI]
  · intro i; simp [gI_sI]
  · intro i; simp [gI_sI]
  · intro i; simp [gI_sI]
  · intro i; simp [gI_sI]
  · intro i; simp [gI_sI]
  · intro j hj
    rcases (show j = 0 ∨ j = 1 ∨ j = 2 by omega) with rfl | rfl | rfl <;> simp [gI_sI]
  · intro i hi
    have h0 := hi 0 (by decide); have h1 := hi 1 (by decide); have h2 := hi 2 (by decide)
    simp [gI_sI, h0, h1, h2]
    intro q; exact absurd q h0
  · intro c hc
    have q : c ≠ 46 ∧ c ≠ 47 ∧ c ≠ 48 ∧ c ≠ 49 ∧ c ≠ 50 ∧ c ≠ 51 ∧ c ≠ 52 ∧ c ≠ 53 := by
      have : c < 46 ∨ 54 ≤ c := hc
      omega
    obtain ⟨q1, q2, q3, q4, q5, q6, q7, q8⟩ := q
    constructor <;> simp [sI, va_up, q1, q2, q3, q4, q5, q6, q7, q8]
