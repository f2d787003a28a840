/-! the class: the table is filled -/
theorem lpF_inv2 {α β ρ : Type} {body : β → (α → Option ρ) → α → Option ρ} (I : Nat → α → Prop) (T : Nat) (hs : ∀ i, i < T → ∀ x, I i x → ∃ x', I (i + 1) x' ∧ ∀ b k, body b k x = k x') : ∀ (d i N : Nat) (x : α), i + d = T → d < N → I i x → ∃ x', I T x' ∧ ∀ b, ∃ k, lpF (body b) N x = body b k x'
  | 0, i, N, x, hd, hN, h0 => by
    obtain ⟨N, rfl⟩ : ∃ N', N = N' + 1 := ⟨N - 1, by omega⟩
    obtain rfl : i = T := by omega
    exact ⟨x, h0, fun b => ⟨lpF (body b) N, rfl⟩⟩
  | d + 1, i, N, x, hd, hN, h0 => by
    obtain ⟨N, rfl⟩ : ∃ N', N = N' + 1 := ⟨N - 1, by omega⟩
    obtain ⟨x1, h1, e1⟩ := hs i (by omega) x h0
    obtain ⟨x', h', e'⟩ := lpF_inv2 I T hs d (i + 1) N x1 (by omega) (by omega) h1
    refine ⟨x', h', fun b => ?_⟩
    obtain ⟨k, e⟩ := e' b
    exact ⟨k, by rw [lpF_s, e1 b, e]⟩
theorem lpF_in2 {α β ρ : Type} {body : β → (α → Option ρ) → α → Option ρ} (I : Nat → α → Prop) (T : Nat) (x : α) (h0 : I 0 x) (hs : ∀ i, i < T → ∀ x, I i x → ∃ x', I (i + 1) x' ∧ ∀ b k, body b k x = k x') (hT : T < 1000) : ∃ x', I T x' ∧ ∀ b, ∃ k, lpF (body b) gF x = body b k x' := lpF_inv2 I T hs T 0 gF x (by omega) (Nat.lt_trans hT (by decide)) h0
theorem f_fillI (σ : gS) {k L : Nat} (hk : oaI k = true) (hL : kLen k = L) (hl : L < 1000) (v : Int32) : ∃ τ, f_Ar_fillI σ k v = some τ ∧ (∀ i, i < L → gI τ k i = v) ∧ sm (fun c => c ≠ k) σ τ := by
  unfold f_Ar_fillI b_Ar_fillI_0
  rw [ck_t hk, bnd_e, hL]
  let I : Nat → (Nat × Int32 × Int32 × Int32 × gS) → Prop := fun i x => ∃ υ : gS, x = (k, v, nI i, Int32.ofNat L, υ) ∧ (∀ j, j < i → gI υ k j = v) ∧ sm (fun c => c ≠ k) σ υ
  have hs : ∀ i, i < L → ∀ x, I i x → ∃ x', I (i + 1) x' ∧ ∀ k, b_Ar_fillI_5 k x.1 x.2.1 x.2.2.1 x.2.2.2.1 x.2.2.2.2 = k x' := by
    rintro i hi x ⟨υ, rfl, e1, e2⟩
    refine ⟨(k, v, nI (i + 1), Int32.ofNat L, sI υ k i v), ⟨_, rfl, fun j hj => ?_, e2.tr (sm_sI _ _ _ (fun w => w rfl))⟩, fun kk => ?_⟩
    · rw [gI_sI]
      by_cases z : j = i
      · rw [if_pos ⟨rfl, z⟩]
      · rw [if_neg (fun w => z w.2), e1 j (by omega)]
    · show b_Ar_fillI_5 kk k v (nI i) (nI L) υ = _
      unfold b_Ar_fillI_5
      rw [if_neg (nI_ge hi (by omega)), ck_t (okI_lt (n := i) hk hL hi (by omega)), bnd_e, bnd_e, nI_c (by omega), nI_1]
      rfl
  obtain ⟨x', kk, ⟨υ, rfl, e1, e2⟩, e⟩ := lpF_in I L (k, v, 0, Int32.ofNat L, σ) ⟨σ, rfl, fun j hj => absurd hj (Nat.not_lt_zero j), sm_rf _ _⟩ hs hl
  refine ⟨υ, ?_, e1, e2⟩
  unfold l_Ar_fillI_5
  refine e.trans ?_
  show b_Ar_fillI_5 kk k v (nI L) (nI L) υ = _
  unfold b_Ar_fillI_5
  rw [if_pos (nI_le (Nat.le_refl _) (by omega))]
theorem fo_plansFrom {σ : gS} {F : Fr} (h : WF F) (hc : CR σ F) {m pl : Nat} (hm : m < jn F) (hpl : pl < 2) : f_Fo_plansFrom σ (nI m) (nI pl) = some (nI (pls F m pl)) := by
  have hl := h.1.1
  have hk := h.1.2
  unfold f_Fo_plansFrom b_Fo_plansFrom_0
  rw [ck_t (okI_lt (k := 12) (n := m) (L := 40) rfl rfl (by omega) (by decide)), nI_c (by omega), f_plansWith (b := ins F m) (ow := jow F) (ac := jac F) hc.1.2.1 hk (fun k hk9 => ⟨hc.1.2.2.2.2.2.2.2.2.2.1 k hk9, (h.2.1 k hk9).1⟩) (fun k hk9 => hc.1.2.2.2.2.2.2.2.2.2.2 k hk9) (fun k hk9 => hc.2.2.2.1 m hm k (by omega)) hpl, Option.bind_some, prd_10 h]
/-- the class's table is that of the game from m -/
def TB (σ : gS) (F : Fr) (m : Nat) : Prop := gI σ 17 0 = nI (pls F m 0) ∧ gI σ 17 1 = nI (pls F m 1) ∧ ∀ p q, p < pls F m 0 → q < pls F m 1 → gI σ 19 (64 * p + q) = iI (val F (chP F m p q) 0 m) ∧ gI σ 20 (64 * p + q) = iI (val F (chP F m p q) 1 m)
def S0 (σ : gS) : Prop := ∀ i, i < 40 → gI σ 22 i = 0
theorem chP_s0 {F : Fr} {m p q p' q' s : Nat} (h0 : jow F s = 0 → dg (rdF F m 0) (jk F) p s = dg (rdF F m 0) (jk F) p' s) (h1 : jow F s ≠ 0 → dg (rdF F m 1) (jk F) q s = dg (rdF F m 1) (jk F) q' s) : chP F m p q s = chP F m p' q' s := by
  unfold chP
  by_cases z : jow F s = 0
  · rw [if_pos z, if_pos z, h0 z]
  · rw [if_neg z, if_neg z, h1 z]
theorem ta_fill {σ : gS} {F : Fr} (h : WF F) (hc : CR σ F) {m : Nat} (hm : m < jn F) (h22 : S0 σ) : ∃ τ, b_Ta_fillFrom_23 (nI m) σ = some τ ∧ TB τ F m ∧ S0 τ ∧ gI τ 16 5 = gI σ 1 2 ∧ gI τ 16 6 = nI m ∧ sm (fun c => c < 16 ∨ 23 ≤ c) σ τ := by
  have hl := h.1.1
  have hk := h.1.2
  have hb := h.2.2.2.2.2.2.2 m hm
  have b0 := hb 0 (by decide)
  have b1 := hb 1 (by decide)
  have CRk : ∀ {υ : gS}, sm (fun c => c < 16 ∨ 23 ≤ c) σ υ → CR υ F := fun q => CB_sm q (fun c hc => by omega) hc
  unfold b_Ta_fillFrom_23
  rw [bnd_e, bnd_e]
  generalize hσ2 : sI (sI σ 16 5 (gI σ 1 2)) 16 6 (nI m) = σ2
  have s2 : sm (fun c => c < 16 ∨ 23 ≤ c) σ σ2 := by
    rw [← hσ2]
    exact (sm_sI _ _ _ (by decide)).tr (sm_sI _ _ _ (by decide))
  rw [show f_Fo_plansFrom σ2 (nI m) 0 = some (nI (pls F m 0)) from fo_plansFrom h (CRk s2) hm (pl := 0) (by decide), Option.bind_some, ck_t (show okI 17 0 = true from rfl), bnd_e]
  generalize hσ5 : sI σ2 17 (0 : Int32).toNatClampNeg (nI (pls F m 0)) = σ5
  have s5 : sm (fun c => c < 16 ∨ 23 ≤ c) σ σ5 := by
    rw [← hσ5]
    exact s2.tr (sm_sI _ _ _ (by decide))
  rw [show f_Fo_plansFrom σ5 (nI m) 1 = some (nI (pls F m 1)) from fo_plansFrom h (CRk s5) hm (pl := 1) (by decide), Option.bind_some, ck_t (show okI 17 1 = true from rfl), bnd_e]
  generalize hσ8 : sI σ5 17 (1 : Int32).toNatClampNeg (nI (pls F m 1)) = σ8
  have s8 : sm (fun c => c < 16 ∨ 23 ≤ c) σ σ8 := by
    rw [← hσ8]
    exact s5.tr (sm_sI _ _ _ (by decide))
  have q0 : gI σ8 17 0 = nI (pls F m 0) := by
    rw [← hσ8, gI_place _ _ _ (by decide), ← hσ5]
    exact gI_same _ _ _ _
  have q1 : gI σ8 17 1 = nI (pls F m 1) := by
    rw [← hσ8]
    exact gI_same _ _ _ _
  have q5 : gI σ8 16 5 = gI σ 1 2 := by
    rw [← hσ8, gI_cell _ _ _ _ (by decide), ← hσ5, gI_cell _ _ _ _ (by decide), ← hσ2, gI_place _ _ _ (by decide), gI_same]
  have q6 : gI σ8 16 6 = nI m := by
    rw [← hσ8, gI_cell _ _ _ _ (by decide), ← hσ5, gI_cell _ _ _ _ (by decide), ← hσ2, gI_same]
  have q22 : S0 σ8 := fun i hi => by
    rw [← hσ8, gI_cell _ _ _ _ (by decide), ← hσ5, gI_cell _ _ _ _ (by decide), ← hσ2, gI_cell _ _ _ _ (by decide), gI_cell _ _ _ _ (by decide), h22 i hi]
  obtain ⟨σ9, f1, f2, f3⟩ := f_fillI σ8 (k := 21) (L := 10) rfl rfl (by decide) 0
  rw [f1, Option.bind_some]
  -- what holds at a pair
  let A : Nat → Nat → gS → Prop := fun p q υ => (∀ s, s < jk F → gI υ 21 s = nI (chP F m p q s)) ∧ (∀ p' q', q' < pls F m 1 → (p' < p ∨ p' = p ∧ q' < q) → gI υ 19 (64 * p' + q') = iI (val F (chP F m p' q') 0 m) ∧ gI υ 20 (64 * p' + q') = iI (val F (chP F m p' q') 1 m)) ∧ S0 υ ∧ sm (fun c => c ≠ 19 ∧ c ≠ 20 ∧ c ≠ 21 ∧ c ≠ 22) σ8 υ
  have A16 : ∀ {υ : gS}, sm (fun c => c ≠ 19 ∧ c ≠ 20 ∧ c ≠ 21 ∧ c ≠ 22) σ8 υ → sm (fun c => c < 16 ∨ 23 ≤ c) σ υ := fun q => s8.tr (q.less (fun c hc => by have : c < 16 ∨ 23 ≤ c := hc; omega))
  let J : Nat → (Int32 × Int32 × gS) → Prop := fun p x => ∃ υ : gS, x = (nI m, nI p, υ) ∧ A p 0 υ
  have hJ0 : J 0 (nI m, 0, σ9) := by
    refine ⟨σ9, rfl, fun s hs => ?_, fun p' q' hq' w => by omega, fun i hi => ?_, f3.less (fun c hc => hc.2.2.1)⟩
    · rw [f2 s (by omega)]
      unfold chP
      rw [dg_0, dg_0]
      split <;> rfl
    · rw [f3.i (by decide), q22 i hi]
  have hsJ : ∀ p, p < pls F m 0 → ∀ x, J p x → ∃ x', J (p + 1) x' ∧ ∀ k, b_Ta_fillFrom_79 k x.1 x.2.1 x.2.2 = k x' := by
    rintro p hp x ⟨υ, rfl, hA⟩
    -- the inner loop
    let I : Nat → (Int32 × Int32 × Int32 × gS) → Prop := fun q x => ∃ υ : gS, x = (nI m, nI p, nI q, υ) ∧ A p q υ
    have hsI : ∀ q, q < pls F m 1 → ∀ x, I q x → ∃ x', I (q + 1) x' ∧ ∀ k79 k, b_Ta_fillFrom_91 k79 k x.1 x.2.1 x.2.2.1 x.2.2.2 = k x' := by
      rintro q hq x ⟨υ, rfl, a1, a2, a3, a4⟩
      have hcυ := CRk (A16 a4)
      obtain ⟨υ1, w1, w2, w3, w4, w5⟩ := ta_weigh h hcυ (chP_ok h m p q) a1 hm (pair := 64 * p + q) (by omega) a3
      have hcυ1 : CR υ1 F := CB_sm w5 (fun c hc => by omega) hcυ
      obtain ⟨υ2, v1, v2, v3, v4⟩ := fo_step (pl := 1) (p := q) h hcυ1 hm (by decide) (fun s hs ho => by
        rw [w5.i (by decide), a1 s hs]
        unfold chP
        rw [if_neg (by omega)])
      refine ⟨_, ⟨υ2, rfl, fun s hs => ?_, fun p' q' hq' w => ?_, fun i hi => by rw [v4.i (by decide), w4 i hi], a4.tr ((w5.less (fun c hc => ⟨hc.1, hc.2.1, hc.2.2.2⟩)).tr (v4.less (fun c hc => hc.2.2.1)))⟩, fun k79 k => ?_⟩
      · have ho := (h.2.1 s hs).1
        by_cases z : jow F s = 1
        · rw [v2 s hs z]
          unfold chP
          rw [if_neg (by omega)]
        · rw [v3 s hs z, w5.i (by decide), a1 s hs, chP_s0 (fun _ => rfl) (fun y => absurd (show jow F s = 1 by omega) z)]
      · rw [v4.i (by decide), v4.i (by decide), w2, w3]
        by_cases z : 64 * p' + q' = 64 * p + q
        · have e1 : p' = p := by omega
          have e2 : q' = q := by omega
          rw [if_pos z, if_pos z, e1, e2]
          exact ⟨rfl, rfl⟩
        · rw [if_neg z, if_neg z]
          exact a2 p' q' hq' (by
            rcases w with w | ⟨w, w'⟩
            · exact Or.inl w
            · exact Or.inr ⟨w, by
                by_cases y : q' = q
                · subst y; subst w; exact absurd rfl z
                · omega⟩)
      · show b_Ta_fillFrom_91 k79 k (nI m) (nI p) (nI q) υ = _
        unfold b_Ta_fillFrom_91
        rw [ck_t (show okI 17 1 = true from rfl), show (1 : Int32).toNatClampNeg = 1 from rfl, a4.i (by decide), q1, if_neg (nI_ge hq (by omega)), show (64 : Int32) * nI p + nI q = nI (64 * p + q) from by rw [show (64 : Int32) = nI 64 from rfl, pk_mul, nI_add], w1, Option.bind_some, show f_Fo_stepPlan υ1 (nI m) 1 21 = some υ2 from v1, Option.bind_some, bnd_e, nI_1]
    -- the end of the row
    have hend : ∀ υ, A p (pls F m 1) υ → ∃ x', J (p + 1) x' ∧ ∀ k k', b_Ta_fillFrom_91 k k' (nI m) (nI p) (nI (pls F m 1)) υ = k x' := by
      rintro υ ⟨a1, a2, a3, a4⟩
      have hcυ := CRk (A16 a4)
      obtain ⟨υ2, v1, v2, v3, v4⟩ := fo_step (pl := 0) (p := p) h hcυ hm (by decide) (fun s hs ho => by
        rw [a1 s hs]
        unfold chP
        rw [if_pos ho])
      refine ⟨(nI m, nI (p + 1), υ2), ⟨υ2, rfl, fun s hs => ?_, fun p' q' hq' w => ?_, fun i hi => by rw [v4.i (by decide), a3 i hi], a4.tr (v4.less (fun c hc => hc.2.2.1))⟩, fun k k' => ?_⟩
      · by_cases z : jow F s = 0
        · rw [v2 s hs z]
          unfold chP
          rw [if_pos z]
        · rw [v3 s hs z, a1 s hs]
          unfold chP
          rw [if_neg z, if_neg z, dg_0, ← rdF_pls h m 1, dg_all (rdF_pos h m 1) hs]
      · rw [v4.i (by decide), v4.i (by decide)]
        exact a2 p' q' hq' (by omega)
      · unfold b_Ta_fillFrom_91
        rw [ck_t (show okI 17 1 = true from rfl), show (1 : Int32).toNatClampNeg = 1 from rfl, a4.i (by decide), q1, if_pos (nI_le (Nat.le_refl _) (by omega)), show f_Fo_stepPlan υ (nI m) 0 21 = some υ2 from v1, Option.bind_some, bnd_e, nI_1]
    obtain ⟨x', ⟨υ', rfl, hA'⟩, e⟩ := lpF_in2 (body := fun k79 k x => b_Ta_fillFrom_91 k79 k x.1 x.2.1 x.2.2.1 x.2.2.2) I (pls F m 1) (nI m, nI p, 0, υ) ⟨υ, rfl, hA⟩ hsI (by omega)
    obtain ⟨x', hx', e'⟩ := hend υ' hA'
    refine ⟨x', hx', fun k => ?_⟩
    show b_Ta_fillFrom_79 k (nI m) (nI p) υ = _
    unfold b_Ta_fillFrom_79
    rw [ck_t (show okI 17 0 = true from rfl), show (0 : Int32).toNatClampNeg = 0 from rfl, hA.2.2.2.i (by decide), q0, if_neg (nI_ge hp (by omega))]
    obtain ⟨kk, ek⟩ := e k
    unfold l_Ta_fillFrom_91
    exact ek.trans (e' k kk)
  obtain ⟨x', k, ⟨τ, rfl, t1, t2, t3, t4⟩, e⟩ := lpF_in J (pls F m 0) _ hJ0 hsJ (by omega)
  refine ⟨τ, ?_, ⟨by rw [t4.i (by decide), q0], by rw [t4.i (by decide), q1], fun p q hp hq => t2 p q hq (Or.inl hp)⟩, t3, by rw [t4.i (by decide), q5], by rw [t4.i (by decide), q6], A16 t4⟩
  unfold l_Ta_fillFrom_79
  refine e.trans ?_
  show b_Ta_fillFrom_79 k (nI m) (nI (pls F m 0)) τ = _
  unfold b_Ta_fillFrom_79
  rw [ck_t (show okI 17 0 = true from rfl), show (0 : Int32).toNatClampNeg = 0 from rfl, t4.i (by decide), q0, if_pos (nI_le (Nat.le_refl _) (by omega))]
/-- the cache of the table -/
def TC (σ : gS) (F : Fr) : Prop := gI σ 16 5 = gI σ 1 2 → ∀ m, m < jn F → gI σ 16 6 = nI m → TB σ F m
theorem ta_fillFrom {σ : gS} {F : Fr} (h : WF F) (hc : CR σ F) {m : Nat} (hm : m < jn F) (h22 : S0 σ) (ht : TC σ F) : ∃ τ, f_Ta_fillFrom σ (nI m) = some τ ∧ TB τ F m ∧ S0 τ ∧ TC τ F ∧ gI τ 16 5 = gI σ 1 2 ∧ gI τ 16 6 = nI m ∧ sm (fun c => c < 16 ∨ 23 ≤ c) σ τ := by
  have hl := h.1.1
  have mk : ∀ τ, TB τ F m → gI τ 16 6 = nI m → TC τ F := fun τ q1 q2 _ m' hm' e => by
    rw [q2] at e
    have := (nI_eq (by omega) (by omega)).mp e
    rw [← this]
    exact q1
  have full : ∃ τ, b_Ta_fillFrom_23 (nI m) σ = some τ ∧ TB τ F m ∧ S0 τ ∧ TC τ F ∧ gI τ 16 5 = gI σ 1 2 ∧ gI τ 16 6 = nI m ∧ sm (fun c => c < 16 ∨ 23 ≤ c) σ τ := by
    obtain ⟨τ, e1, e2, e3, e4, e5, e6⟩ := ta_fill h hc hm h22
    exact ⟨τ, e1, e2, e3, mk τ e2 e5, e4, e5, e6⟩
  unfold f_Ta_fillFrom b_Ta_fillFrom_0
  by_cases z : gI σ 16 5 = gI σ 1 2
  · rw [if_pos z]
    by_cases z2 : gI σ 16 6 = nI m
    · rw [if_pos z2]
      exact ⟨σ, rfl, ht z m hm z2, h22, ht, z, z2, sm_rf _ _⟩
    · rw [if_neg z2]
      exact full
  · rw [if_neg z]
    exact full
