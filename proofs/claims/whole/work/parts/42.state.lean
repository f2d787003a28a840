/-! states and forests -/
def BR (σ : gS) (F : Fr) (o cSo cSe cWo cCh cPa cHe cCc cOw cAc : Nat) : Prop :=
  gI σ o 0 = nI (jn F) ∧ gI σ o 1 = nI (jk F) ∧ (∀ i, i < jn F → gI σ cSo i = nI (jso F i)) ∧ (∀ i, i < jn F → gI σ cSe i = if jso F i = 2 then nI (jse F i) else -1) ∧
  (∀ i, i < jn F → jso F i = 0 → ∀ w, w < 2 → gI σ cWo (2 * i + w) = jwo F i w) ∧ (∀ i, i < jn F → ∀ j, j < 3 → gI σ cCh (3 * i + j) = if j < jcn F i then nI (jch F i j) else -1) ∧
  (∀ i, i < jn F → gI σ cPa i = if jpa F i < 40 then nI (jpa F i) else -1) ∧ (∀ i, i < jn F → gI σ cHe i = nI (jhe F i)) ∧ (∀ i, i < jn F → gI σ cCc i = nI (jcc F i)) ∧
  (∀ k, k < jk F → gI σ cOw k = nI (jow F k)) ∧ (∀ k, k < jk F → gI σ cAc k = nI (jac F k))
abbrev MR (σ : gS) (F : Fr) : Prop := BR σ F 46 47 48 49 50 51 52 53 54 55
abbrev CB (σ : gS) (F : Fr) : Prop := BR σ F 1 2 3 6 7 4 9 10 13 5
def CR (σ : gS) (F : Fr) : Prop := CB σ F ∧ (∀ i, i < jn F → gI σ 8 i = nI (jcn F i)) ∧ (∀ m, m < jn F → ∀ i, i < 64 → tb (gL σ 11 m) i = (decide (i < jn F) && bl F m i)) ∧ (∀ m, m < jn F → ∀ k, k < 32 → ti (gI σ 12 m) k = ins F m k) ∧
  (∀ k, k < jk F → ∀ i, i < 64 → tb (gL σ 14 k) i = (decide (i < jn F) && (jso F i == 2 && jse F i == k)))
/-- nothing changes in the cells of P -/
def sm (P : Nat → Prop) (σ τ : gS) : Prop := ∀ c, P c → τ.1 c = σ.1 c ∧ τ.2 c = σ.2 c
theorem sm_rf (P : Nat → Prop) (σ : gS) : sm P σ σ := fun _ _ => ⟨rfl, rfl⟩
theorem sm.tr {P : Nat → Prop} {σ τ υ : gS} (h1 : sm P σ τ) (h2 : sm P τ υ) : sm P σ υ := fun c hc => ⟨(h2 c hc).1.trans (h1 c hc).1, (h2 c hc).2.trans (h1 c hc).2⟩
theorem sm.less {P Q : Nat → Prop} {σ τ : gS} (h : sm P σ τ) (hq : ∀ c, Q c → P c) : sm Q σ τ := fun c hc => h c (hq c hc)
theorem sm.i {P : Nat → Prop} {σ τ : gS} (h : sm P σ τ) {c : Nat} (hc : P c) (i : Nat) : gI τ c i = gI σ c i := congrFun (h c hc).1 i
theorem sm.l {P : Nat → Prop} {σ τ : gS} (h : sm P σ τ) {c : Nat} (hc : P c) (i : Nat) : gL τ c i = gL σ c i := congrFun (h c hc).2 i
theorem sm_sI {P : Nat → Prop} (σ : gS) {k : Nat} (i : Nat) (v : Int32) (hk : ¬ P k) : sm P σ (sI σ k i v) := fun c hc => ⟨va_up_ne _ _ (fun e => hk (e ▸ hc)), rfl⟩
theorem sm_sL {P : Nat → Prop} (σ : gS) {k : Nat} (i : Nat) (v : Int64) (hk : ¬ P k) : sm P σ (sL σ k i v) := fun c hc => ⟨rfl, va_up_ne _ _ (fun e => hk (e ▸ hc))⟩
theorem BR_sm {P : Nat → Prop} {σ τ : gS} {F : Fr} {o a1 a2 a3 a4 a5 a6 a7 a8 a9 : Nat} (h : sm P σ τ) (hb : BR σ F o a1 a2 a3 a4 a5 a6 a7 a8 a9) (h0 : P o) (h1 : P a1) (h2 : P a2) (h3 : P a3) (h4 : P a4) (h5 : P a5) (h6 : P a6) (h7 : P a7) (h8 : P a8) (h9 : P a9) : BR τ F o a1 a2 a3 a4 a5 a6 a7 a8 a9 := by
  unfold BR at hb ⊢
  simp only [h.i h0, h.i h1, h.i h2, h.i h3, h.i h4, h.i h5, h.i h6, h.i h7, h.i h8, h.i h9]
  exact hb
theorem MR_sm {σ τ : gS} {F : Fr} (h : sm (fun c => 46 ≤ c) σ τ) (hb : MR σ F) : MR τ F := BR_sm h hb (by decide) (by decide) (by decide) (by decide) (by decide) (by decide) (by decide) (by decide) (by decide) (by decide)
theorem CR_sm {σ τ : gS} {F : Fr} (h : sm (fun c => c < 15) σ τ) (hb : CR σ F) : CR τ F := by
  obtain ⟨b0, b1, b2, b3, b4⟩ := hb
  refine ⟨BR_sm h b0 (by decide) (by decide) (by decide) (by decide) (by decide) (by decide) (by decide) (by decide) (by decide) (by decide), ?_, ?_, ?_, ?_⟩
  · simp only [h.i (show 8 < 15 by decide)]; exact b1
  · simp only [h.l (show 11 < 15 by decide)]; exact b2
  · simp only [h.i (show 12 < 15 by decide)]; exact b3
  · simp only [h.l (show 14 < 15 by decide)]; exact b4
theorem okI_lt {k n L : Nat} (hk : oaI k = true) (hL : kLen k = L) (h : n < L) (hb : L < 100000) : okI k (nI n) = true := okI_of (by omega) hk (by omega)
theorem okJ_lt {k n L : Nat} (hk : oaJ k = true) (hL : kLen k = L) (h : n < L) (hb : L < 100000) : okJ k (nI n) = true := okJ_of (by omega) hk (by omega)
theorem okZ_lt {k n L : Nat} (hk : oaZ k = true) (hL : kLen k = L) (h : n < L) (hb : L < 100000) : okZ k (nI n) = true := by
  unfold okZ
  rw [hk, inb_nI (by omega) (by omega)]
  rfl
theorem nI_c {n : Nat} (h : n < 100000) : (nI n).toNatClampNeg = n := nI_clamp (by omega)
theorem lp_gF {α ρ : Type} (body : (α → Option ρ) → α → Option ρ) (x : α) : lpF body gF x = body (lpF body 4999) x := rfl
theorem nI_3 (n j : Nat) : (3 : Int32) * nI n + nI j = nI (3 * n + j) := by
  rw [show (3 : Int32) = nI 3 from rfl, pk_mul, nI_add]
theorem nI_2 (n j : Nat) : (2 : Int32) * nI n + nI j = nI (2 * n + j) := by
  rw [show (2 : Int32) = nI 2 from rfl, pk_mul, nI_add]
/-- the class: a node begins -/
theorem st_node (σ : gS) {n : Nat} (hn : gI σ 1 0 = nI n) (h : n < 40) (x1 x2 : Int32) (hx : x2 = -1 ∨ ∃ k, k < 10 ∧ x2 = nI k) :
    ∃ τ, f_Fo_startNode σ x1 x2 = some (nI n, τ) ∧ gI τ 1 0 = nI (n + 1) ∧ gI τ 1 1 = gI σ 1 1 ∧ gI τ 1 2 = gI σ 1 2 + 1 ∧ (∀ i, gI τ 2 i = if i = n then x1 else gI σ 2 i) ∧ (∀ i, gI τ 3 i = if i = n then x2 else gI σ 3 i) ∧ (∀ i, gI τ 8 i = if i = n then 0 else gI σ 8 i) ∧ (∀ i, gI τ 4 i = if i = n then -1 else gI σ 4 i) ∧
      (∀ i, gL τ 11 i = if i = n then (1 : Int64) <<< ((nI n).toInt64 &&& 63) else gL σ 11 i) ∧ (∀ k, k < 10 → gL τ 14 k = if x2 = nI k then gL σ 14 k ||| ((1 : Int64) <<< ((nI n).toInt64 &&& 63)) else gL σ 14 k) ∧ (∀ j, j < 3 → gI τ 7 (3 * n + j) = -1) ∧ (∀ i, (∀ j, j < 3 → i ≠ 3 * n + j) → gI τ 7 i = gI σ 7 i) ∧ sm (fun c => c ≠ 1 ∧ c ≠ 2 ∧ c ≠ 3 ∧ c ≠ 8 ∧ c ≠ 4 ∧ c ≠ 11 ∧ c ≠ 14 ∧ c ≠ 7) σ τ := by
  have o2 := okI_lt (k := 2) (n := n) rfl rfl h (by decide)
  have o3 := okI_lt (k := 3) (n := n) rfl rfl h (by decide)
  have o8 := okI_lt (k := 8) (n := n) rfl rfl h (by decide)
  have o4 := okI_lt (k := 4) (n := n) rfl rfl h (by decide)
  have o11 := okJ_lt (k := 11) (n := n) rfl rfl h (by decide)
  have cn := nI_c (n := n) (by omega)
  have lp : ∀ ρ : gS, l_Fo_startNode_62 (nI n, 0, ρ) = b_Fo_startNode_62 (fun x => none) (nI n) 3 (sI (sI (sI ρ 7 (3 * n + 0) (-1)) 7 (3 * n + 1) (-1)) 7 (3 * n + 2) (-1)) := by
    intro ρ
    have ok : ∀ j, j < 3 → okI 7 (nI (3 * n + j)) = true := fun j hj => okI_lt (k := 7) (L := 120) rfl rfl (by omega) (by decide)
    have st : ∀ (k : Int32 × Int32 × gS → Option (Int32 × gS)) (j : Nat) (ρ : gS), j < 3 → b_Fo_startNode_62 k (nI n) (nI j) ρ = k (nI n, nI (j + 1), sI ρ 7 (3 * n + j) (-1)) := by
      intro k j ρ hj
      unfold b_Fo_startNode_62
      rw [if_neg (show ¬ (3 : Int32) ≤ nI j from nI_ge (b := 3) hj (by decide)), nI_3, ck_t (ok j hj)]
      simp only [bnd_e, nI_c (show 3 * n + j < 100000 by omega), nI_1]
    unfold l_Fo_startNode_62
    rw [lp_gF]
    show b_Fo_startNode_62 _ (nI n) (nI 0) ρ = _
    rw [st _ 0 _ (by decide)]
    show b_Fo_startNode_62 _ (nI n) (nI 1) _ = _
    rw [st _ 1 _ (by decide)]
    show b_Fo_startNode_62 _ (nI n) (nI 2) _ = _
    rw [st _ 2 _ (by decide)]
    rfl
  unfold f_Fo_startNode b_Fo_startNode_0
  simp only [bnd_e, hn, ck_t o2, ck_t o3, ck_t o8, ck_t o4, ck_t o11, cn]
  unfold b_Fo_startNode_59
  simp only [lp]
  have fin : ∀ (k : Int32 × Int32 × gS → Option (Int32 × gS)) (ρ : gS), b_Fo_startNode_62 k (nI n) 3 ρ = some (nI n, sI (sI ρ 1 0 (gI ρ 1 0 + 1)) 1 2 (gI (sI ρ 1 0 (gI ρ 1 0 + 1)) 1 2 + 1)) := fun k ρ => rfl
  simp only [fin]
  have ne : ∀ j j', j ≠ j' → 3 * n + j ≠ 3 * n + j' := fun j j' q => by omega
  rcases hx with rfl | ⟨k, hk, rfl⟩
  · rw [if_pos rfl]
    refine ⟨_, rfl, ?_, ?_, ?_, ?_, ?_, ?_, ?_, ?_, ?_, ?_, ?_, ?_⟩
    · simp [gI_sI, gI_sL, hn, nI_1]
    · simp [gI_sI, gI_sL]
    · simp [gI_sI, gI_sL]
    · intro i; simp [gI_sI, gI_sL]
    · intro i; simp [gI_sI, gI_sL]
    · intro i; simp [gI_sI, gI_sL]
    · intro i; simp [gI_sI, gI_sL]
    · intro i; simp [gL_sI, gL_sL]
    · intro k hk
      rw [if_neg (fun e => by
        have := congrArg Int32.toInt e
        rw [nI_toInt (by omega)] at this
        have h2 : (-1 : Int32).toInt = -1 := by decide
        omega)]
      simp [gL_sI, gL_sL]
    · intro j hj
      rcases (show j = 0 ∨ j = 1 ∨ j = 2 by omega) with rfl | rfl | rfl <;> simp [gI_sI, gI_sL]
    · intro i hi
      have h0 := hi 0 (by decide); have h1 := hi 1 (by decide); have h2 := hi 2 (by decide)
      simp [gI_sI, gI_sL, h0, h1, h2]
      intro q; exact absurd q h0
    · intro c hc
      obtain ⟨q1, q2, q3, q4, q5, q6, q7, q8⟩ := hc
      constructor <;> simp [sI, sL, va_up, q1, q2, q3, q4, q5, q6, q7, q8]
  · have hne : ¬ nI k = -1 := fun e => by
      have := congrArg Int32.toInt e
      rw [nI_toInt (by omega)] at this
      have h2 : (-1 : Int32).toInt = -1 := by decide
      omega
    have o14 := okJ_lt (k := 14) (n := k) (L := 10) rfl rfl hk (by decide)
    rw [if_neg hne]
    simp only [ck_t o14, bnd_e, nI_c (show k < 100000 by omega)]
    refine ⟨_, rfl, ?_, ?_, ?_, ?_, ?_, ?_, ?_, ?_, ?_, ?_, ?_, ?_⟩
    · simp [gI_sI, gI_sL, hn, nI_1]
    · simp [gI_sI, gI_sL]
    · simp [gI_sI, gI_sL]
    · intro i; simp [gI_sI, gI_sL]
    · intro i; simp [gI_sI, gI_sL]
    · intro i; simp [gI_sI, gI_sL]
    · intro i; simp [gI_sI, gI_sL]
    · intro i; simp [gL_sI, gL_sL]
    · intro k' hk'
      by_cases q : k' = k
      · subst q
        simp [gL_sI, gL_sL]
      · rw [if_neg (fun e => q ((nI_eq (by omega) (by omega)).mp e).symm)]
        simp [gL_sI, gL_sL, q]
    · intro j hj
      rcases (show j = 0 ∨ j = 1 ∨ j = 2 by omega) with rfl | rfl | rfl <;> simp [gI_sI, gI_sL]
    · intro i hi
      have h0 := hi 0 (by decide); have h1 := hi 1 (by decide); have h2 := hi 2 (by decide)
      simp [gI_sI, gI_sL, h0, h1, h2]
      intro q; exact absurd q h0
    · intro c hc
      obtain ⟨q1, q2, q3, q4, q5, q6, q7, q8⟩ := hc
      constructor <;> simp [sI, sL, va_up, q1, q2, q3, q4, q5, q6, q7, q8]
