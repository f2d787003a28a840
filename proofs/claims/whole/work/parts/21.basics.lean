/-! pure rows: states, checks, loops -/
theorem gI_sI (σ : gS) (k i : Nat) (v : Int32) (k' i' : Nat) : gI (sI σ k i v) k' i' = if k' = k ∧ i' = i then v else gI σ k' i' := by
  unfold gI sI va_up upd
  by_cases h : k' = k
  · subst h
    by_cases h2 : i' = i <;> simp [h2]
  · simp [h]
theorem gL_sL (σ : gS) (k i : Nat) (v : Int64) (k' i' : Nat) : gL (sL σ k i v) k' i' = if k' = k ∧ i' = i then v else gL σ k' i' := by
  unfold gL sL va_up vp_updL
  by_cases h : k' = k
  · subst h
    by_cases h2 : i' = i <;> simp [h2]
  · simp [h]
theorem gL_sI (σ : gS) (k i : Nat) (v : Int32) (k' i' : Nat) : gL (sI σ k i v) k' i' = gL σ k' i' := rfl
theorem gI_sL (σ : gS) (k i : Nat) (v : Int64) (k' i' : Nat) : gI (sL σ k i v) k' i' = gI σ k' i' := rfl
theorem gI_same (σ : gS) (k i : Nat) (v : Int32) : gI (sI σ k i v) k i = v := by rw [gI_sI, if_pos ⟨rfl, rfl⟩]
theorem gI_cell (σ : gS) {k k' : Nat} (i : Nat) (v : Int32) (i' : Nat) (h : k' ≠ k) : gI (sI σ k i v) k' i' = gI σ k' i' := by rw [gI_sI, if_neg (fun q => h q.1)]
theorem gI_place (σ : gS) (k : Nat) {k' i i' : Nat} (v : Int32) (h : i' ≠ i) : gI (sI σ k i v) k' i' = gI σ k' i' := by rw [gI_sI, if_neg (fun q => h q.2)]
theorem gL_same (σ : gS) (k i : Nat) (v : Int64) : gL (sL σ k i v) k i = v := by rw [gL_sL, if_pos ⟨rfl, rfl⟩]
theorem gL_cell (σ : gS) {k k' : Nat} (i : Nat) (v : Int64) (i' : Nat) (h : k' ≠ k) : gL (sL σ k i v) k' i' = gL σ k' i' := by rw [gL_sL, if_neg (fun q => h q.1)]
theorem gL_place (σ : gS) (k : Nat) {k' i i' : Nat} (v : Int64) (h : i' ≠ i) : gL (sL σ k i v) k' i' = gL σ k' i' := by rw [gL_sL, if_neg (fun q => h q.2)]
theorem ck_t {α : Type} {b : Bool} {x : Option α} (h : b = true) : ck b x = x := if_pos h
theorem ck_tt {α : Type} {x : Option α} : ck true x = x := rfl
theorem bnd_e {α β : Type} (x : α) (f : α → β) : bnd x f = f x := rfl
theorem lpF_s {α ρ : Type} (body : (α → Option ρ) → α → Option ρ) (n : Nat) (x : α) : lpF body (n + 1) x = body (lpF body n) x := rfl
/-- a loop whose state behind i turns is f i: T turns, then its end -/
theorem lpF_run {α ρ : Type} {body : (α → Option ρ) → α → Option ρ} {res : Option ρ} (f : Nat → α) (T : Nat) (hs : ∀ i, i < T → ∀ k, body k (f i) = k (f (i + 1))) (he : ∀ k, body k (f T) = res) : ∀ (N i : Nat), i ≤ T → T - i < N → lpF body N (f i) = res
  | 0, i, _, h => absurd h (Nat.not_lt_zero _)
  | N + 1, i, hi, h => by
    rw [lpF_s]
    by_cases q : i = T
    · subst q
      exact he _
    · rw [hs i (by omega)]
      exact lpF_run f T hs he N (i + 1) (by omega) (by omega)
theorem lpF_go {α ρ : Type} {body : (α → Option ρ) → α → Option ρ} {res : Option ρ} (f : Nat → α) (T : Nat) (hs : ∀ i, i < T → ∀ k, body k (f i) = k (f (i + 1))) (he : ∀ k, body k (f T) = res) (hT : T < 1000) : lpF body gF (f 0) = res := lpF_run f T hs he gF 0 (Nat.zero_le _) (Nat.lt_trans hT (by decide))
theorem lpF_go5 {α ρ : Type} {body : (α → Option ρ) → α → Option ρ} {res : Option ρ} (f : Nat → α) (T : Nat) (hs : ∀ i, i < T → ∀ k, body k (f i) = k (f (i + 1))) (he : ∀ k, body k (f T) = res) (hT : T < 5000) : lpF body gF (f 0) = res := lpF_run f T hs he gF 0 (Nat.zero_le _) hT
theorem inb_nI {n N : Nat} (h : n < N) (hN : N < 2 ^ 31) : inb (nI n) N = true := by
  unfold inb
  rw [nI_toInt (by omega)]
  simp
  omega
theorem okI_of {k n : Nat} (h : n < kLen k) (hk : oaI k = true) (hN : kLen k < 2 ^ 31) : okI k (nI n) = true := by
  unfold okI
  rw [hk, inb_nI h hN]
  rfl
theorem okJ_of {k n : Nat} (h : n < kLen k) (hk : oaJ k = true) (hN : kLen k < 2 ^ 31) : okJ k (nI n) = true := by
  unfold okJ
  rw [hk, inb_nI h hN]
  rfl
