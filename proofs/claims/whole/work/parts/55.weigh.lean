/-! the class: what a pair of plans is worth -/
def iI (z : Int) : Int32 := Int32.ofInt z
theorem iI_add (a b : Int) : iI a + iI b = iI (a + b) := (Int32.ofInt_add a b).symm
theorem iI_mul (a b : Int) : iI a * iI b = iI (a * b) := (Int32.ofInt_mul a b).symm
theorem iI_toInt (x : Int32) : iI x.toInt = x := Int32.ofInt_toInt x
theorem iI_nI (n : Nat) : nI n = iI (n : Int) := rfl
theorem sumN_mul {f : Nat → Int} (u : Int) : ∀ (n : Nat), sumN (fun j => u * f j) n = u * sumN f n
  | 0 => (Int.mul_zero u).symm
  | n + 1 => by
    show sumN (fun j => u * f j) n + u * f n = u * (sumN f n + f n)
    rw [sumN_mul u n, Int.mul_add]
theorem sumN_up {f g : Nat → Int} {c : Nat} : ∀ {n : Nat}, c < n → (∀ m, m < n → m ≠ c → f m = g m) → sumN f n = sumN g n - g c + f c
  | 0, hc, _ => absurd hc (Nat.not_lt_zero c)
  | n + 1, hc, he => by
    show sumN f n + f n = sumN g n + g n - g c + f c
    by_cases z : c = n
    · subst z
      rw [sumN_congr (f := f) (g := g) (fun j hj => he j (by omega) (by omega))]
      omega
    · rw [sumN_up (f := f) (g := g) (show c < n by omega) (fun m hm => he m (by omega)), he n (by omega) (fun e => z e.symm)]
      omega
theorem sum_isC {c : Nat → Nat} {n : Nat} {sh : Nat → Nat} {u : Nat} {V : Nat → Int} : ∀ {cnt : Nat}, cnt ≤ 3 → (∀ j, j < cnt → c j < n) → (∀ j, j < cnt → ∀ j', j' < cnt → c j' = c j → j' = j) → (∀ j, j < cnt → sh (c j) = 0) → sumN (fun m => ((if isC cnt c m = true then u else sh m : Nat) : Int) * V m) n = sumN (fun m => (sh m : Int) * V m) n + sumN (fun j => (u : Int) * V (c j)) cnt
  | 0, _, _, _, _ => by
    show _ = sumN (fun m => (sh m : Int) * V m) n + 0
    rw [Int.add_zero]
    exact sumN_congr (fun m hm => by rw [if_neg (by unfold isC; simp)])
  | k + 1, h3, hlt, inj, hz => by
    have ih := sum_isC (cnt := k) (V := V) (u := u) (by omega) (fun j hj => hlt j (by omega)) (fun j hj j' hj' => inj j (by omega) j' (by omega)) (fun j hj => hz j (by omega))
    have key : ∀ m, isC (k + 1) c m = true ↔ c k = m ∨ isC k c m = true := fun m => by
      rw [isC_iff (by omega), isC_iff (by omega)]
      constructor
      · rintro ⟨j, hj, e⟩
        by_cases z : j = k
        · subst z; exact Or.inl e
        · exact Or.inr ⟨j, by omega, e⟩
      · rintro (e | ⟨j, hj, e⟩)
        · exact ⟨k, by omega, e⟩
        · exact ⟨j, by omega, e⟩
    have hk : ¬ isC k c (c k) = true := fun w => by
      obtain ⟨j, hj, e⟩ := (isC_iff (by omega) c _).mp w
      have := inj k (by omega) j (by omega) e
      omega
    rw [sumN_up (c := c k) (g := fun m => ((if isC k c m = true then u else sh m : Nat) : Int) * V m) (hlt k (by omega)) (fun m hm z => ?_), ih]
    · show sumN (fun m => (sh m : Int) * V m) n + sumN (fun j => (u : Int) * V (c j)) k - ((if isC k c (c k) = true then u else sh (c k) : Nat) : Int) * V (c k) + ((if isC (k + 1) c (c k) = true then u else sh (c k) : Nat) : Int) * V (c k) = sumN (fun m => (sh m : Int) * V m) n + (sumN (fun j => (u : Int) * V (c j)) k + (u : Int) * V (c k))
      rw [if_neg hk, if_pos ((key _).mpr (Or.inl rfl)), hz k (by omega)]
      have : ((0 : Nat) : Int) * V (c k) = 0 := Int.zero_mul _
      rw [this]
      omega
    · show ((if isC (k + 1) c m = true then u else sh m : Nat) : Int) * V m = ((if isC k c m = true then u else sh m : Nat) : Int) * V m
      by_cases w : isC k c m = true
      · rw [if_pos w, if_pos ((key m).mpr (Or.inr w))]
      · rw [if_neg w, if_neg (fun w2 => ((key m).mp w2).elim (fun e => z e.symm) w)]
theorem f_childAt {σ : gS} {F : Fr} (h : WF F) (hc : CB σ F) {n j : Nat} (hn : n < jn F) (hj : j < jcn F n) : f_Fo_childAt σ (nI n) (nI j) = some (nI (jch F n j)) := by
  have hl := h.1.1
  have h3 := (h.2.2.1 n hn).2.1
  unfold f_Fo_childAt b_Fo_childAt_0
  rw [nI_3, ck_t (okI_lt (k := 7) (n := 3 * n + j) (L := 120) rfl rfl (by omega) (by decide)), nI_c (by omega), hc.2.2.2.2.2.1 n hn j (by omega), if_pos hj]
theorem f_worthAt {σ : gS} {F : Fr} (h : WF F) (hc : CB σ F) {n w : Nat} (hn : n < jn F) (hw : w < 2) (z : jso F n = 0) : f_Fo_worthAt σ (nI n) (nI w) = some (jwo F n w) := by
  have hl := h.1.1
  unfold f_Fo_worthAt b_Fo_worthAt_0
  rw [nI_2, ck_t (okI_lt (k := 6) (n := 2 * n + w) (L := 80) rfl rfl (by omega) (by decide)), nI_c (by omega), hc.2.2.2.2.1 n hn z w hw]
theorem CB_sm {σ τ : gS} {F : Fr} {P : Nat → Prop} (h : sm P σ τ) (hP : ∀ c, c < 15 → P c) (hb : CR σ F) : CR τ F := CR_sm (h.less hP) hb
theorem ta_share {σ : gS} {F : Fr} (h : WF F) (hc : CR σ F) {n v : Nat} {sh : Nat → Nat} (hn : n < jn F) (z : jso F n = 1) (hv : v ≤ 7776) (hsh : ∀ i, i < 40 → gI σ 22 i = nI (sh i)) :
    ∃ τ, f_Ta_shareAmongAll σ (nI n) (nI v) = some τ ∧ (∀ i, i < 40 → gI τ 22 i = nI (if isC (jcn F n) (jch F n) i = true then v / jcn F n else sh i)) ∧ sm (fun c => c ≠ 22) σ τ := by
  have hl := h.1.1
  obtain ⟨c1, c2, c3, c4, c5⟩ := h.2.2.1 n hn
  have hpos := c4 z
  have hch : ∀ j, j < jcn F n → jch F n j < 40 := fun j hj => by have := (h.2.2.2.1 n hn j hj).1; omega
  unfold f_Ta_shareAmongAll b_Ta_shareAmongAll_0
  rw [ck_t (okI_lt (k := 8) (n := n) (L := 40) rfl rfl (by omega) (by decide)), bnd_e, nI_c (by omega), hc.2.1 n hn]
  let I : Nat → (Int32 × Int32 × Int32 × Int32 × gS) → Prop := fun i x => ∃ υ : gS, x = (nI n, nI v, nI (jcn F n), nI i, υ) ∧ (∀ m, m < 40 → gI υ 22 m = nI (if isC i (jch F n) m = true then v / jcn F n else sh m)) ∧ sm (fun c => c ≠ 22) σ υ
  have hs : ∀ i, i < jcn F n → ∀ x, I i x → ∃ x', I (i + 1) x' ∧ ∀ k, b_Ta_shareAmongAll_13 k x.1 x.2.1 x.2.2.1 x.2.2.2.1 x.2.2.2.2 = k x' := by
    rintro i hi x ⟨υ, rfl, e1, e2⟩
    have hcυ := CB_sm e2 (fun c hc => by omega) hc
    have hci := hch i hi
    refine ⟨(nI n, nI v, nI (jcn F n), nI (i + 1), sI υ 22 (jch F n i) (nI (v / jcn F n))), ⟨_, rfl, fun m hm => ?_, e2.tr (sm_sI _ _ _ (fun w => w rfl))⟩, fun k => ?_⟩
    · have key : isC (i + 1) (jch F n) m = true ↔ jch F n i = m ∨ isC i (jch F n) m = true := by
        rw [isC_iff (by omega), isC_iff (by omega)]
        constructor
        · rintro ⟨j, hj, e⟩
          by_cases w : j = i
          · subst w; exact Or.inl e
          · exact Or.inr ⟨j, by omega, e⟩
        · rintro (e | ⟨j, hj, e⟩)
          · exact ⟨i, by omega, e⟩
          · exact ⟨j, by omega, e⟩
      rw [gI_sI]
      by_cases w : m = jch F n i
      · rw [if_pos ⟨rfl, w⟩, if_pos (key.mpr (Or.inl w.symm))]
      · rw [if_neg (fun q => w q.2), e1 m hm]
        by_cases w2 : isC i (jch F n) m = true
        · rw [if_pos w2, if_pos (key.mpr (Or.inr w2))]
        · rw [if_neg w2, if_neg (fun q => (key.mp q).elim (fun e => w e.symm) w2)]
    · show b_Ta_shareAmongAll_13 k (nI n) (nI v) (nI (jcn F n)) (nI i) υ = _
      unfold b_Ta_shareAmongAll_13
      rw [if_neg (nI_ge hi (by omega)), f_childAt h hcυ.1 hn hi, Option.bind_some, ck_t (show nz (nI (jcn F n)) = true from by unfold nz; simpa using nI_ne0 hpos (by omega)), ck_t (okI_lt (k := 22) (n := jch F n i) (L := 40) rfl rfl hci (by decide)), bnd_e, bnd_e, nI_c (by omega), pk_div (by omega) hpos (by omega), nI_1]
  obtain ⟨x', k, ⟨υ, rfl, e1, e2⟩, e⟩ := lpF_in I (jcn F n) (nI n, nI v, nI (jcn F n), 0, σ) ⟨σ, rfl, fun m hm => by rw [if_neg (by unfold isC; simp), hsh m hm], sm_rf _ _⟩ hs (by omega)
  refine ⟨υ, ?_, e1, e2⟩
  unfold l_Ta_shareAmongAll_13
  refine e.trans ?_
  show b_Ta_shareAmongAll_13 k (nI n) (nI v) (nI (jcn F n)) (nI (jcn F n)) υ = _
  unfold b_Ta_shareAmongAll_13
  rw [if_pos (nI_le (Nat.le_refl _) (by omega))]
