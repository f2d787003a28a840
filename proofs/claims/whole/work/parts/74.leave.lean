/-! rounds in which plans go: what they are -/
def lf (T : Tb) (n : Nat → Nat) : Nat → Nat → Nat → Bool
  | 0, _, _ => true
  | r + 1, pl, a => lf T n r pl a && !(anyB (fun c => lf T n r pl c && wrB T n (lf T n r (1 - pl)) pl a c) (n pl))
def gob (T : Tb) (n : Nat → Nat) (r pl a : Nat) : Bool := lf T n r pl a && anyB (fun c => lf T n r pl c && wrB T n (lf T n r (1 - pl)) pl a c) (n pl)
theorem lf_s (T : Tb) (n : Nat → Nat) (r pl a : Nat) : lf T n (r + 1) pl a = (lf T n r pl a && !gob T n r pl a) := by
  show (lf T n r pl a && !(anyB (fun c => lf T n r pl c && wrB T n (lf T n r (1 - pl)) pl a c) (n pl))) = _
  unfold gob
  cases lf T n r pl a <;> cases anyB (fun c => lf T n r pl c && wrB T n (lf T n r (1 - pl)) pl a c) (n pl) <;> rfl
def gn (T : Tb) (n : Nat → Nat) : Nat → Nat → Nat → Int32
  | 0, _, _ => -1
  | r + 1, pl, a => if gob T n r pl a = true then nI (r + 1) else gn T n r pl a
def stp (T : Tb) (n : Nat → Nat) (r : Nat) : Prop := ∀ pl, pl < 2 → ∀ a, a < n pl → gob T n r pl a = false
def cntB (f : Nat → Bool) : Nat → Nat
  | 0 => 0
  | k + 1 => cntB f k + (if f k = true then 1 else 0)
theorem cntB_le (f : Nat → Bool) : ∀ k, cntB f k ≤ k
  | 0 => Nat.le_refl _
  | k + 1 => by
    have := cntB_le f k
    show cntB f k + (if f k = true then 1 else 0) ≤ k + 1
    split <;> omega
theorem cntB_mono {f g : Nat → Bool} : ∀ {k : Nat}, (∀ j, j < k → f j = true → g j = true) → cntB f k ≤ cntB g k
  | 0, _ => Nat.le_refl _
  | k + 1, h => by
    have ih := cntB_mono (f := f) (g := g) (k := k) (fun j hj => h j (by omega))
    have hk := h k (by omega)
    show cntB f k + (if f k = true then 1 else 0) ≤ cntB g k + (if g k = true then 1 else 0)
    by_cases z : f k = true
    · rw [if_pos z, if_pos (hk z)]; omega
    · rw [if_neg z]; omega
theorem cntB_lt {f g : Nat → Bool} {i : Nat} (hf : f i = false) (hg : g i = true) : ∀ {k : Nat}, i < k → (∀ j, j < k → f j = true → g j = true) → cntB f k < cntB g k
  | 0, hi, _ => absurd hi (Nat.not_lt_zero i)
  | k + 1, hi, h => by
    show cntB f k + (if f k = true then 1 else 0) < cntB g k + (if g k = true then 1 else 0)
    by_cases z : i = k
    · subst z
      have := cntB_mono (f := f) (g := g) (k := i) (fun j hj => h j (by omega))
      rw [if_neg (by rw [hf]; decide), if_pos hg]
      omega
    · have ih := cntB_lt hf hg (k := k) (by omega) (fun j hj => h j (by omega))
      have hk := h k (by omega)
      by_cases y : f k = true
      · rw [if_pos y, if_pos (hk y)]; omega
      · rw [if_neg y]; omega
theorem cntB_congr {f g : Nat → Bool} : ∀ {k : Nat}, (∀ j, j < k → f j = g j) → cntB f k = cntB g k
  | 0, _ => rfl
  | k + 1, h => by
    show cntB f k + (if f k = true then 1 else 0) = cntB g k + (if g k = true then 1 else 0)
    rw [cntB_congr (k := k) (fun j hj => h j (by omega)), h k (by omega)]
theorem lf_down {T : Tb} {n : Nat → Nat} {r pl a : Nat} (h : lf T n (r + 1) pl a = true) : lf T n r pl a = true := by
  rw [lf_s, Bool.and_eq_true] at h
  exact h.1
theorem lf_less {T : Tb} {n : Nat → Nat} {r : Nat} (h : ¬ stp T n r) : cntB (lf T n (r + 1) 0) (n 0) + cntB (lf T n (r + 1) 1) (n 1) < cntB (lf T n r 0) (n 0) + cntB (lf T n r 1) (n 1) := by
  have hm : ∀ pl, cntB (lf T n (r + 1) pl) (n pl) ≤ cntB (lf T n r pl) (n pl) := fun pl => cntB_mono (fun j _ q => lf_down q)
  have m0 := hm 0
  have m1 := hm 1
  have key : ∀ pl a, a < n pl → gob T n r pl a = true → cntB (lf T n (r + 1) pl) (n pl) < cntB (lf T n r pl) (n pl) := fun pl a ha q => by
    have q1 : lf T n r pl a = true := by
      unfold gob at q
      rw [Bool.and_eq_true] at q
      exact q.1
    have q2 : lf T n (r + 1) pl a = false := by
      rw [lf_s, q]
      simp
    exact cntB_lt q2 q1 ha (fun j _ q => lf_down q)
  by_cases h2 : ∃ pl, pl < 2 ∧ ∃ a, a < n pl ∧ gob T n r pl a = true
  · obtain ⟨pl, hpl, a, ha, q⟩ := h2
    have := key pl a ha q
    rcases (show pl = 0 ∨ pl = 1 by omega) with rfl | rfl <;> omega
  · refine absurd (fun pl hpl a ha => ?_) h
    cases e : gob T n r pl a with
    | false => rfl
    | true => exact absurd ⟨pl, hpl, a, ha, e⟩ h2
theorem stp_ex (T : Tb) {n : Nat → Nat} (hn : nb n) : ∃ r, (r ≤ 128 ∧ stp T n r) ∧ ∀ j, j < r → ¬ (j ≤ 128 ∧ stp T n j) := by
  refine pk_least _ ?_
  by_cases h : ∃ r, r ≤ 128 ∧ stp T n r
  · exact h
  · have h' : ∀ r, r ≤ 128 → ¬ stp T n r := fun r hr q => h ⟨r, hr, q⟩
    have key : ∀ r, r ≤ 129 → cntB (lf T n r 0) (n 0) + cntB (lf T n r 1) (n 1) + r ≤ 128 := fun r => by
      induction r with
      | zero =>
        intro _
        have h0 := cntB_le (lf T n 0 0) (n 0)
        have h1 := cntB_le (lf T n 0 1) (n 1)
        have := hn.1.2
        have := hn.2.2
        omega
      | succ r ih =>
        intro hr
        have := ih (by omega)
        have := lf_less (h' r (by omega))
        omega
    have := key 129 (by omega)
    omega
/-- the round before which it stops -/
noncomputable def rs (T : Tb) (n : Nat → Nat) : Nat := Classical.epsilon (fun r => (r ≤ 128 ∧ stp T n r) ∧ ∀ j, j < r → ¬ (j ≤ 128 ∧ stp T n j))
theorem rs_ok (T : Tb) {n : Nat → Nat} (hn : nb n) : rs T n ≤ 128 ∧ stp T n (rs T n) ∧ ∀ j, j < rs T n → ¬ stp T n j := by
  have h := Classical.epsilon_spec (stp_ex T hn)
  have h2 : rs T n ≤ 128 := h.1.1
  exact ⟨h2, h.1.2, fun j hj q => h.2 j hj ⟨by omega, q⟩⟩
theorem ok36 {pl a : Nat} (hpl : pl < 2) (ha : a < 64) : okI (35 + 1 + pl) (nI a) = true := by
  rcases (show pl = 0 ∨ pl = 1 by omega) with rfl | rfl
  · exact okI_lt (k := 36) (n := a) (L := 64) rfl rfl ha (by decide)
  · exact okI_lt (k := 37) (n := a) (L := 64) rfl rfl ha (by decide)
theorem ok38 {pl : Nat} (hpl : pl < 2) : okJ 38 (nI pl) = true := okJ_lt (k := 38) (n := pl) (L := 2) rfl rfl hpl (by decide)
/-- the class: which ones go -/
theorem le_those {σ : gS} {n : Nat → Nat} {T : Tb} (h : VC σ n T) (hn : nb n) {r : Nat} (hL : ∀ pl, pl < 2 → ∀ a, a < 64 → tb (gL σ 38 pl) a = (decide (a < n pl) && lf T n r pl a)) {pl : Nat} (hpl : pl < 2) : ∃ y, f_Le_thoseThatGo σ (nI pl) = some y ∧ ∀ a, a < 64 → tb y a = (decide (a < n pl) && gob T n r pl a) := by
  have hl := nb_le hn hpl
  let I : Nat → (Int32 × Int64 × Int32) → Prop := fun i x => ∃ y : Int64, x = (nI pl, y, nI i) ∧ ∀ a, a < 64 → tb y a = (decide (a < i) && gob T n r pl a)
  have hs : ∀ i, i < n pl → ∀ x, I i x → ∃ x', I (i + 1) x' ∧ ∀ k, b_Le_thoseThatGo_5 σ k x.1 x.2.1 x.2.2 = k x' := by
    rintro i hi x ⟨y, rfl, e1⟩
    have am := c_among (O := fun a => decide (a < n (1 - pl)) && lf T n r (1 - pl) a) (P := fun a => decide (a < n pl) && lf T n r pl a) h hn (hL pl hpl) (hL (1 - pl) (by omega)) hpl hi
    have efg : ff (fun c => (decide (c < n pl) && lf T n r pl c) && wrB T n (fun a => decide (a < n (1 - pl)) && lf T n r (1 - pl) a) pl i c) (n pl) = ff (fun c => lf T n r pl c && wrB T n (lf T n r (1 - pl)) pl i c) (n pl) := by
      refine ff_congr (fun c hc => ?_)
      have e2 : wrB T n (fun a => decide (a < n (1 - pl)) && lf T n r (1 - pl) a) pl i c = wrB T n (lf T n r (1 - pl)) pl i c := by
        unfold wrB
        refine allB_congr (fun b hb => ?_)
        show (!(decide (b < n (1 - pl)) && lf T n r (1 - pl) b) || _) = _
        rw [decide_eq_true hb, Bool.true_and]
      rw [decide_eq_true hc, Bool.true_and, e2]
    have am2 : f_Ta_leastBetterAmong σ (nI pl) (nI i) (gL σ 38 pl) (gL σ 38 (1 - pl)) = some (ff (fun c => lf T n r pl c && wrB T n (lf T n r (1 - pl)) pl i c) (n pl)) := by
      rw [← efg]; exact am
    have hff : ff (fun c => lf T n r pl c && wrB T n (lf T n r (1 - pl)) pl i c) (n pl) = -1 ↔ ¬ anyB (fun c => lf T n r pl c && wrB T n (lf T n r (1 - pl)) pl i c) (n pl) = true := by
      rcases fst_or (fun c => lf T n r pl c && wrB T n (lf T n r (1 - pl)) pl i c) (n pl) with w | ⟨j, w1, w2, w3⟩
      · rw [ff_no w, anyB_iff]
        exact ⟨fun _ ⟨j, hj, q⟩ => by rw [w j hj] at q; exact absurd q (by decide), fun _ => rfl⟩
      · rw [ff_lt w2 w1 (by omega) w3, anyB_iff]
        exact ⟨fun q => absurd q (nm1 (by omega)), fun q => absurd ⟨j, w1, w2⟩ q⟩
    have nx : ∀ (y' : Int64), (∀ a, a < 64 → tb y' a = (tb y a || (decide (a = i) && gob T n r pl i))) → I (i + 1) (nI pl, y', nI (i + 1)) := fun y' hy' => by
      refine ⟨y', rfl, fun a ha => ?_⟩
      rw [hy' a ha, e1 a ha]
      by_cases z : a = i
      · subst z
        simp
      · by_cases z2 : a < i
        · simp [z, z2, show a < i + 1 by omega]
        · simp [z, z2, show ¬ a < i + 1 by omega]
    have pre : ∀ k, b_Le_thoseThatGo_5 σ k (nI pl) y (nI i) = if gob T n r pl i = true then k (nI pl, y ||| ((1 : Int64) <<< ((nI i).toInt64 &&& 63)), nI (i + 1)) else k (nI pl, y, nI (i + 1)) := fun k => by
      unfold b_Le_thoseThatGo_5
      rw [ck_t (ok17 hpl), nI_c (n := pl) (by omega), c_n h hpl, if_neg (nI_ge hi (by omega)), ck_t (ok38 hpl), f_hasBit _ (by omega), Option.bind_some, hL pl hpl i (by omega), decide_eq_true hi, Bool.true_and]
      by_cases z : lf T n r pl i = true
      · rw [if_neg (bi_ne z), ck_t (ok38 hpl), f_otherThan, Option.bind_some, ot_pl hpl, ck_t (ok38 (by omega)), nI_c (n := 1 - pl) (by omega), am2, Option.bind_some]
        by_cases z2 : anyB (fun c => lf T n r pl c && wrB T n (lf T n r (1 - pl)) pl i c) (n pl) = true
        · have eg : gob T n r pl i = true := by unfold gob; rw [z, z2]; rfl
          rw [if_neg (fun q => (hff.mp q) z2), if_pos eg, bnd_e]
          unfold b_Le_thoseThatGo_69
          rw [bnd_e, nI_1]
        · have eg : ¬ gob T n r pl i = true := fun q => by unfold gob at q; rw [Bool.and_eq_true] at q; exact z2 q.2
          rw [if_pos (hff.mpr z2), if_neg eg]
          unfold b_Le_thoseThatGo_69
          rw [bnd_e, nI_1]
      · have eg : ¬ gob T n r pl i = true := fun q => by unfold gob at q; rw [Bool.and_eq_true] at q; exact z q.1
        rw [if_pos (bi_eq z), if_neg eg]
        unfold b_Le_thoseThatGo_69
        rw [bnd_e, nI_1]
    by_cases eg : gob T n r pl i = true
    · refine ⟨_, nx (y ||| ((1 : Int64) <<< ((nI i).toInt64 &&& 63))) (fun a ha => ?_), fun k => (pre k).trans (if_pos eg)⟩
      rw [tb_or, tb_one (by omega), eg, Bool.and_true]
    · refine ⟨_, nx y (fun a ha => ?_), fun k => (pre k).trans (if_neg eg)⟩
      have eg' : gob T n r pl i = false := by simpa using eg
      rw [eg', Bool.and_false, Bool.or_false]
  obtain ⟨x', k, ⟨y, rfl, e1⟩, e⟩ := lpF_in I (n pl) (nI pl, 0, 0) ⟨0, rfl, fun a ha => by rw [tb_0]; simp⟩ hs (by omega)
  refine ⟨y, ?_, e1⟩
  unfold f_Le_thoseThatGo b_Le_thoseThatGo_0 l_Le_thoseThatGo_5
  refine e.trans ?_
  show b_Le_thoseThatGo_5 σ k (nI pl) y (nI (n pl)) = _
  unfold b_Le_thoseThatGo_5
  rw [ck_t (ok17 hpl), nI_c (n := pl) (by omega), c_n h hpl, if_pos (nI_le (Nat.le_refl _) (by omega))]
