/-! answering rounds: the class -/
def sms (T : Tb) (n : Nat → Nat) : Nat → Nat → Nat → Int32
  | 0, _, _ => 0
  | r + 1, pl, a => sms T n r pl a + va T pl a (amx (sms T n r (1 - pl)) (n (1 - pl)))
def pik (T : Tb) (n : Nat → Nat) (r pl : Nat) : Nat := amx (sms T n r pl) (n pl)
theorem amx_congr {f g : Nat → Int32} : ∀ {k : Nat}, (∀ j, j < k → f j = g j) → amx f k = amx g k
  | 0, _ => rfl
  | k + 1, h => by
    have ih := amx_congr (f := f) (g := g) (k := k) (fun j hj => h j (by omega))
    show (if f k ≤ f (amx f k) then amx f k else k) = (if g k ≤ g (amx g k) then amx g k else k)
    cases k with
    | zero =>
      show (if f 0 ≤ f 0 then 0 else 0) = (if g 0 ≤ g 0 then 0 else 0)
      rw [ite_self, ite_self]
    | succ k =>
      have h2 := amx_lt g (show 1 ≤ k + 1 by omega)
      rw [ih, h (k + 1) (by omega), h (amx g (k + 1)) (by omega)]
theorem pik_lt (T : Tb) {n : Nat → Nat} (hn : nb n) (r : Nat) {pl : Nat} (hpl : pl < 2) : pik T n r pl < n pl := amx_lt _ (nb_le hn hpl).1
theorem ok44 {pl a : Nat} (hpl : pl < 2) (ha : a < 64) : okI (43 + 1 + pl) (nI a) = true := by
  rcases (show pl = 0 ∨ pl = 1 by omega) with rfl | rfl
  · exact okI_lt (k := 44) (n := a) (L := 64) rfl rfl ha (by decide)
  · exact okI_lt (k := 45) (n := a) (L := 64) rfl rfl ha (by decide)
theorem ok41 {pl a : Nat} (hpl : pl < 2) (ha : a < 200) : okI (40 + 1 + pl) (nI a) = true := by
  rcases (show pl = 0 ∨ pl = 1 by omega) with rfl | rfl
  · exact okI_lt (k := 41) (n := a) (L := 200) rfl rfl ha (by decide)
  · exact okI_lt (k := 42) (n := a) (L := 200) rfl rfl ha (by decide)
section AN
variable {σ : gS} {n : Nat → Nat} {T : Tb}
theorem VC_s {τ : gS} {P : Nat → Prop} (hs : sm P σ τ) (h17 : P 17) (h19 : P 19) (h20 : P 20) (h : VC σ n T) : VC τ n T := ⟨by rw [hs.i h17, h.1], by rw [hs.i h17, h.2.1], fun p q hp hq => by rw [hs.i h19, hs.i h20]; exact h.2.2 p q hp hq⟩
theorem an_best (h : VC σ n T) (hn : nb n) {pl : Nat} (hpl : pl < 2) : f_An_leastOfGreatest σ (nI pl) = some (nI (amx (fun a => gI σ (43 + 1 + pl) a) (n pl))) := by
  have hl := nb_le hn hpl
  have ib : inb (nI pl) 2 = true := inb_nI hpl (by decide)
  unfold f_An_leastOfGreatest b_An_leastOfGreatest_0 l_An_leastOfGreatest_4
  rw [show (nI pl, (0 : Int32), (1 : Int32)) = (fun t => (nI pl, nI (amx (fun a => gI σ (43 + 1 + pl) a) (t + 1)), nI (t + 1))) 0 from by show _ = (nI pl, nI (amx (fun a => gI σ (43 + 1 + pl) a) 1), nI 1); rw [amx_1]; rfl]
  refine lpF_go (fun t => (nI pl, nI (amx (fun a => gI σ (43 + 1 + pl) a) (t + 1)), nI (t + 1))) (n pl - 1) (fun t ht k => ?_) (fun k => ?_) (by omega)
  · show b_An_leastOfGreatest_4 σ k (nI pl) (nI (amx (fun a => gI σ (43 + 1 + pl) a) (t + 1))) (nI (t + 1)) = k (nI pl, nI (if gI σ (43 + 1 + pl) (t + 1) ≤ gI σ (43 + 1 + pl) (amx (fun a => gI σ (43 + 1 + pl) a) (t + 1)) then amx (fun a => gI σ (43 + 1 + pl) a) (t + 1) else t + 1), nI (t + 1 + 1))
    have hA := amx_lt (fun a => gI σ (43 + 1 + pl) a) (show 1 ≤ t + 1 by omega)
    unfold b_An_leastOfGreatest_4
    rw [ck_t (ok17 hpl), nI_c (n := pl) (by omega), c_n h hpl, if_neg (nI_ge (by omega) (by omega)), ck_t ib, ck_t (ok44 hpl (by omega)), ck_t ib, ck_t (ok44 hpl (by omega)), nI_c (by omega), nI_c (by omega)]
    by_cases z : gI σ (43 + 1 + pl) (t + 1) ≤ gI σ (43 + 1 + pl) (amx (fun a => gI σ (43 + 1 + pl) a) (t + 1))
    · rw [if_pos z, if_pos z]
      unfold b_An_leastOfGreatest_38
      rw [bnd_e, nI_1]
    · rw [if_neg z, if_neg z]
      unfold b_An_leastOfGreatest_38
      rw [bnd_e, nI_1]
  · show b_An_leastOfGreatest_4 σ k (nI pl) (nI (amx (fun a => gI σ (43 + 1 + pl) a) (n pl - 1 + 1))) (nI (n pl - 1 + 1)) = _
    unfold b_An_leastOfGreatest_4
    rw [ck_t (ok17 hpl), nI_c (n := pl) (by omega), c_n h hpl, show n pl - 1 + 1 = n pl by omega, if_pos (nI_le (Nat.le_refl _) (by omega))]
theorem an_add (h : VC σ n T) (hn : nb n) {pl b : Nat} (hpl : pl < 2) (hb : b < n (1 - pl)) : ∃ τ, f_An_addUp σ (nI pl) (nI b) = some τ ∧ (∀ a, a < n pl → gI τ (43 + 1 + pl) a = gI σ (43 + 1 + pl) a + va T pl a b) ∧ sm (fun c => c ≠ 43 + 1 + pl) σ τ := by
  have hl := nb_le hn hpl
  have ib : inb (nI pl) 2 = true := inb_nI hpl (by decide)
  let I : Nat → (Int32 × Int32 × Int32 × gS) → Prop := fun i x => ∃ υ : gS, x = (nI pl, nI b, nI i, υ) ∧ (∀ a, gI υ (43 + 1 + pl) a = if a < i then gI σ (43 + 1 + pl) a + va T pl a b else gI σ (43 + 1 + pl) a) ∧ sm (fun c => c ≠ 43 + 1 + pl) σ υ
  have hs : ∀ i, i < n pl → ∀ x, I i x → ∃ x', I (i + 1) x' ∧ ∀ k, b_An_addUp_2 k x.1 x.2.1 x.2.2.1 x.2.2.2 = k x' := by
    rintro i hi x ⟨υ, rfl, e1, e2⟩
    have hv : VC υ n T := VC_s e2 (by omega) (by omega) (by omega) h
    refine ⟨(nI pl, nI b, nI (i + 1), sI υ (43 + 1 + pl) i (gI υ (43 + 1 + pl) i + va T pl i b)), ⟨_, rfl, fun a => ?_, e2.tr (sm_sI _ _ _ (fun w => w rfl))⟩, fun k => ?_⟩
    · rw [gI_sI]
      by_cases z : a = i
      · rw [if_pos ⟨rfl, z⟩, if_pos (by omega), e1, if_neg (by omega), z]
      · rw [if_neg (fun w => z w.2), e1]
        by_cases z2 : a < i
        · rw [if_pos z2, if_pos (by omega)]
        · rw [if_neg z2, if_neg (by omega)]
    · show b_An_addUp_2 k (nI pl) (nI b) (nI i) υ = _
      unfold b_An_addUp_2
      rw [ck_t (ok17 hpl), nI_c (n := pl) (by omega), c_n hv hpl, if_neg (nI_ge hi (by omega)), ck_t ib, ck_t (ok44 hpl (by omega)), c_value hv hn hpl hi hb, Option.bind_some, ck_t (ok44 hpl (by omega)), bnd_e, bnd_e, nI_c (by omega), nI_1]
  obtain ⟨x', k, ⟨υ, rfl, e1, e2⟩, e⟩ := lpF_in I (n pl) (nI pl, nI b, 0, σ) ⟨σ, rfl, fun a => by rw [if_neg (Nat.not_lt_zero a)], sm_rf _ _⟩ hs (by omega)
  refine ⟨υ, ?_, fun a ha => by rw [e1, if_pos ha], e2⟩
  unfold f_An_addUp b_An_addUp_0 l_An_addUp_2
  refine e.trans ?_
  show b_An_addUp_2 k (nI pl) (nI b) (nI (n pl)) υ = _
  unfold b_An_addUp_2
  rw [ck_t (ok17 hpl), nI_c (n := pl) (by omega), e2.i (show (17 : Nat) ≠ 43 + 1 + pl by omega), c_n h hpl, if_pos (nI_le (Nat.le_refl _) (by omega))]
end AN
/-- the class's rounds, as far as they were played -/
def AP (σ : gS) (n : Nat → Nat) (T : Tb) (r : Nat) : Prop := (∀ i, i < r → gI σ 41 i = nI (pik T n i 0) ∧ gI σ 42 i = nI (pik T n i 1)) ∧ (∀ a, a < n 0 → gI σ 44 a = sms T n r 0 a) ∧ (∀ a, a < n 1 → gI σ 45 a = sms T n r 1 a)
def AC (σ : gS) (n : Nat → Nat) (T : Tb) : Prop := gI σ 39 5 = gI σ 1 2 → ∃ r, r ≤ 200 ∧ gI σ 39 4 = nI r ∧ AP σ n T r
theorem an_go {σ : gS} {n : Nat → Nat} {T : Tb} (h : VC σ n T) (hn : nb n) {r R : Nat} (hr : r ≤ 200) (hR : R ≤ 200) (h4 : gI σ 39 4 = nI r) (hp : AP σ n T r) : ∃ τ, b_An_playTo_50 (nI R) σ = some τ ∧ gI τ 39 4 = nI (max r R) ∧ AP τ n T (max r R) ∧ gI τ 39 5 = gI σ 39 5 ∧ sm (fun c => c < 39 ∨ 46 ≤ c) σ τ := by
  have n0 := nb_le hn (show 0 < 2 by decide)
  have n1 := nb_le hn (show 1 < 2 by decide)
  unfold b_An_playTo_50
  rw [bnd_e, h4]
  let I : Nat → (Int32 × Int32 × gS) → Prop := fun i x => ∃ υ : gS, x = (nI R, nI (r + i), υ) ∧ AP υ n T (r + i) ∧ sm (fun c => c ≤ 39 ∨ 46 ≤ c) σ υ
  have hs : ∀ i, i < R - r → ∀ x, I i x → ∃ x', I (i + 1) x' ∧ ∀ k, b_An_playTo_55 k x.1 x.2.1 x.2.2 = k x' := by
    rintro i hi x ⟨υ, rfl, ⟨e1, e2, e3⟩, e4⟩
    have hri : r + i < 200 := by omega
    have hv : VC υ n T := VC_s e4 (by decide) (by decide) (by decide) h
    have f0 : f_An_leastOfGreatest υ 0 = some (nI (pik T n (r + i) 0)) := by
      rw [show f_An_leastOfGreatest υ 0 = _ from an_best hv hn (pl := 0) (by decide)]
      refine congrArg (fun z => some (nI z)) (amx_congr (fun j hj => e2 j hj))
    generalize hυ7 : sI υ 41 (r + i) (nI (pik T n (r + i) 0)) = υ7
    have s7 : sm (fun c => c ≠ 41) υ υ7 := by rw [← hυ7]; exact sm_sI _ _ _ (fun w => w rfl)
    have hv7 : VC υ7 n T := VC_s s7 (by decide) (by decide) (by decide) hv
    have f1 : f_An_leastOfGreatest υ7 1 = some (nI (pik T n (r + i) 1)) := by
      rw [show f_An_leastOfGreatest υ7 1 = _ from an_best hv7 hn (pl := 1) (by decide)]
      refine congrArg (fun z => some (nI z)) (amx_congr (fun j hj => ?_))
      show gI υ7 45 j = _
      rw [s7.i (by decide), e3 j hj]
    generalize hυ11 : sI υ7 42 (r + i) (nI (pik T n (r + i) 1)) = υ11
    have s11 : sm (fun c => c ≠ 42) υ7 υ11 := by rw [← hυ11]; exact sm_sI _ _ _ (fun w => w rfl)
    have hv11 : VC υ11 n T := VC_s s11 (by decide) (by decide) (by decide) hv7
    have p0 := pik_lt T hn (r + i) (show 0 < 2 by decide)
    have p1 := pik_lt T hn (r + i) (show 1 < 2 by decide)
    obtain ⟨υ14, g1, g2, g3⟩ := an_add hv11 hn (pl := 0) (b := pik T n (r + i) 1) (by decide) p1
    have hv14 : VC υ14 n T := VC_s g3 (by decide) (by decide) (by decide) hv11
    obtain ⟨υ17, k1, k2, k3⟩ := an_add hv14 hn (pl := 1) (b := pik T n (r + i) 0) (by decide) p0
    have q42 : gI υ11 42 (r + i) = nI (pik T n (r + i) 1) := by rw [← hυ11, gI_same]
    have q41 : gI υ14 41 (r + i) = nI (pik T n (r + i) 0) := by rw [g3.i (by decide), s11.i (by decide), ← hυ7, gI_same]
    refine ⟨(nI R, nI (r + (i + 1)), υ17), ⟨υ17, rfl, ⟨fun j hj => ?_, fun a ha => ?_, fun a ha => ?_⟩, ?_⟩, fun k => ?_⟩
    · rw [k3.i (show (41 : Nat) ≠ 43 + 1 + 1 by decide), k3.i (show (42 : Nat) ≠ 43 + 1 + 1 by decide), g3.i (show (41 : Nat) ≠ 43 + 1 + 0 by decide), g3.i (show (42 : Nat) ≠ 43 + 1 + 0 by decide), s11.i (show (41 : Nat) ≠ 42 by decide)]
      by_cases z : j = r + i
      · rw [z, q42, ← hυ7, gI_same]
        exact ⟨rfl, rfl⟩
      · rw [← hυ11, gI_place _ _ _ z, ← hυ7, gI_place _ _ _ z, gI_cell _ _ _ _ (by decide)]
        exact e1 j (by omega)
    · rw [k3.i (show (44 : Nat) ≠ 43 + 1 + 1 by decide), show gI υ14 44 a = _ from g2 a ha, s11.i (show (44 : Nat) ≠ 42 by decide), s7.i (show (44 : Nat) ≠ 41 by decide), e2 a ha]
      rfl
    · rw [show gI υ17 45 a = _ from k2 a ha]
      rw [g3.i (show (45 : Nat) ≠ 43 + 1 + 0 by decide), s11.i (show (45 : Nat) ≠ 42 by decide), s7.i (show (45 : Nat) ≠ 41 by decide), e3 a ha]
      rfl
    · refine e4.tr ((((s7.less (fun c hc => ?_)).tr (s11.less (fun c hc => ?_))).tr (g3.less (fun c hc => ?_))).tr (k3.less (fun c hc => ?_))) <;> (have : c ≤ 39 ∨ 46 ≤ c := hc; omega)
    · show b_An_playTo_55 k (nI R) (nI (r + i)) υ = _
      unfold b_An_playTo_55
      rw [if_neg (nI_ge (by omega) (by omega)), ck_t (show inb 0 2 = true from rfl), f0, Option.bind_some, ck_t (ok41 (pl := 0) (by decide) hri), bnd_e, nI_c (by omega), hυ7, ck_t (show inb 1 2 = true from rfl), f1, Option.bind_some, ck_t (ok41 (pl := 1) (by decide) hri), bnd_e, hυ11, ck_t (show inb 1 2 = true from rfl), ck_t (ok41 (pl := 1) (by decide) hri), q42, show f_An_addUp υ11 0 (nI (pik T n (r + i) 1)) = some υ14 from g1, Option.bind_some, ck_t (show inb 0 2 = true from rfl), ck_t (ok41 (pl := 0) (by decide) hri), q41, show f_An_addUp υ14 1 (nI (pik T n (r + i) 0)) = some υ17 from k1, Option.bind_some, bnd_e, nI_1]
      rfl
  obtain ⟨x', k, ⟨υ, rfl, e1, e2⟩, e⟩ := lpF_in I (R - r) (nI R, nI r, σ) ⟨σ, rfl, hp, sm_rf _ _⟩ hs (by omega)
  have hmax : r + (R - r) = max r R := by omega
  refine ⟨sI υ 39 4 (nI (max r R)), ?_, gI_same _ _ _ _, ?_, ?_, ?_⟩
  · unfold l_An_playTo_55
    refine e.trans ?_
    show b_An_playTo_55 k (nI R) (nI (r + (R - r))) υ = _
    unfold b_An_playTo_55
    rw [if_pos (nI_le (by omega) (by omega)), e2.i (by decide), h4, f_max (by omega) (by omega), Option.bind_some, bnd_e]
  · rw [hmax] at e1
    obtain ⟨a1, a2, a3⟩ := e1
    exact ⟨fun i hi => by rw [gI_cell _ _ _ _ (by decide), gI_cell _ _ _ _ (by decide)]; exact a1 i hi, fun a ha => by rw [gI_cell _ _ _ _ (by decide)]; exact a2 a ha, fun a ha => by rw [gI_cell _ _ _ _ (by decide)]; exact a3 a ha⟩
  · rw [gI_place _ _ _ (by decide), e2.i (by decide)]
  · exact (e2.less (fun c hc => by have : c < 39 ∨ 46 ≤ c := hc; show c ≤ 39 ∨ 46 ≤ c; omega)).tr (sm_sI _ _ _ (by decide))
theorem an_play {σ : gS} {n : Nat → Nat} {T : Tb} (h : VC σ n T) (hn : nb n) (ha : AC σ n T) {R : Nat} (hR : R ≤ 200) : ∃ τ r, f_An_playTo σ (nI R) = some τ ∧ R ≤ r ∧ r ≤ 200 ∧ gI τ 39 4 = nI r ∧ AP τ n T r ∧ gI τ 39 5 = gI σ 1 2 ∧ sm (fun c => c < 39 ∨ 46 ≤ c) σ τ := by
  have n0 := nb_le hn (show 0 < 2 by decide)
  have n1 := nb_le hn (show 1 < 2 by decide)
  unfold f_An_playTo b_An_playTo_0
  by_cases z : gI σ 39 5 = gI σ 1 2
  · rw [if_pos z]
    obtain ⟨r, hr, h4, hp⟩ := ha z
    obtain ⟨τ, e1, e2, e3, e4, e5⟩ := an_go h hn hr hR h4 hp
    exact ⟨τ, max r R, e1, by omega, by omega, e2, e3, by rw [e4, z], e5⟩
  · rw [if_neg z, bnd_e, bnd_e]
    generalize hσ3 : sI (sI σ 39 5 (gI σ 1 2)) 39 4 0 = σ3
    have s3 : sm (fun c => c ≠ 39) σ σ3 := by rw [← hσ3]; exact (sm_sI _ _ _ (fun w => w rfl)).tr (sm_sI _ _ _ (fun w => w rfl))
    obtain ⟨σ5, f1, f2, f3⟩ := f_fillI σ3 (k := 44) (L := 64) rfl rfl (by decide) 0
    obtain ⟨σ7, g1, g2, g3⟩ := f_fillI σ5 (k := 45) (L := 64) rfl rfl (by decide) 0
    rw [ck_t (show inb 0 2 = true from rfl), f1, Option.bind_some, ck_t (show inb 1 2 = true from rfl), g1, Option.bind_some]
    have hv : VC σ7 n T := VC_s g3 (by decide) (by decide) (by decide) (VC_s f3 (by decide) (by decide) (by decide) (VC_s s3 (by decide) (by decide) (by decide) h))
    have q4 : gI σ7 39 4 = nI 0 := by rw [g3.i (by decide), f3.i (by decide), ← hσ3, gI_same]; rfl
    have q5 : gI σ7 39 5 = gI σ 1 2 := by rw [g3.i (by decide), f3.i (by decide), ← hσ3, gI_place _ _ _ (by decide), gI_same]
    have hp : AP σ7 n T 0 := ⟨fun i hi => absurd hi (Nat.not_lt_zero i), fun a ha => by rw [g3.i (by decide), f2 a (by omega)]; rfl, fun a ha => by rw [g2 a (by omega)]; rfl⟩
    obtain ⟨τ, e1, e2, e3, e4, e5⟩ := an_go hv hn (Nat.zero_le _) hR q4 hp
    refine ⟨τ, max 0 R, e1, by omega, by omega, e2, e3, by rw [e4, q5], ?_⟩
    exact (((s3.less (fun c hc => by have : c < 39 ∨ 46 ≤ c := hc; omega)).tr (f3.less (fun c hc => by have : c < 39 ∨ 46 ≤ c := hc; omega))).tr (g3.less (fun c hc => by have : c < 39 ∨ 46 ≤ c := hc; omega))).tr e5
