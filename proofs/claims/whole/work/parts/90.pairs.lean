/-! points: how many, and the one with a number: the class -/
def cS (f : Nat → Nat → Bool) (n1 : Nat) : Nat → Nat
  | 0 => 0
  | p + 1 => cS f n1 p + cntB (f p) n1
theorem cS_s (f : Nat → Nat → Bool) (n1 p : Nat) : cS f n1 (p + 1) = cS f n1 p + cntB (f p) n1 := rfl
theorem cS_up (f : Nat → Nat → Bool) (n1 i : Nat) : ∀ d, cS f n1 i ≤ cS f n1 (i + d)
  | 0 => Nat.le_refl _
  | d + 1 => by
    have := cS_up f n1 i d
    rw [← Nat.add_assoc, cS_s]
    omega
theorem cS_le (f : Nat → Nat → Bool) {n1 : Nat} (h : n1 ≤ 64) : ∀ p, cS f n1 p ≤ 64 * p
  | 0 => Nat.le_refl _
  | p + 1 => by
    have h1 := cS_le f h p
    have h2 := cntB_le (f p) n1
    rw [cS_s]
    omega
def nbr (f : Nat → Nat → Bool) (n1 p q : Nat) : Nat := cS f n1 p + cntB (f p) q
theorem nbr_end (f : Nat → Nat → Bool) (n1 p : Nat) : nbr f n1 p n1 = nbr f n1 (p + 1) 0 := rfl
theorem nbr_s (f : Nat → Nat → Bool) (n1 p q : Nat) : nbr f n1 p (q + 1) = nbr f n1 p q + (if f p q = true then 1 else 0) := (Nat.add_assoc _ _ _).symm
theorem nbr_row {f : Nat → Nat → Bool} {n1 p q : Nat} (h : f p q = true) (hq : q < n1) : nbr f n1 p q < cS f n1 (p + 1) := by
  have := cntB_in hq h
  rw [cS_s]
  unfold nbr
  omega
theorem nbr_lt {f : Nat → Nat → Bool} {n1 p q p' q' : Nat} (h : f p q = true) (hq : q < n1) (hb : p < p' ∨ p = p' ∧ q < q') : nbr f n1 p q < nbr f n1 p' q' := by
  rcases hb with hb | ⟨rfl, hb⟩
  · have h1 := nbr_row h hq
    have h2 := cS_up f n1 (p + 1) (p' - (p + 1))
    rw [show p + 1 + (p' - (p + 1)) = p' by omega] at h2
    have h3 : nbr f n1 p' q' = cS f n1 p' + cntB (f p') q' := rfl
    omega
  · have := cntB_in hb h
    unfold nbr
    omega
theorem nbr_le (f : Nat → Nat → Bool) {n1 p q : Nat} (h1 : n1 ≤ 64) (hp : p ≤ 64) (hq : q ≤ 64) : nbr f n1 p q < 100000 := by
  have := cS_le f h1 p
  have := cntB_le (f p) q
  unfold nbr
  omega
/-- what was found before a pair -/
def Pb (f : Nat → Nat → Bool) (n1 : Nat) (k : Int32) (p q : Nat) (y : Int32) : Prop := (∃ p' q', (p' < p ∧ q' < n1 ∨ p' = p ∧ q' < q) ∧ f p' q' = true ∧ nI (nbr f n1 p' q') = k ∧ y = nI (64 * p' + q')) ∨ ((∀ p' q', (p' < p ∧ q' < n1 ∨ p' = p ∧ q' < q) → f p' q' = true → nI (nbr f n1 p' q') ≠ k) ∧ y = -1)
theorem Pb_one {f : Nat → Nat → Bool} {n1 n0 : Nat} {k y y' : Int32} (h1 : n1 ≤ 64) (h0 : n0 ≤ 64) (h : Pb f n1 k n0 0 y) (h' : Pb f n1 k n0 0 y') : y = y' := by
  rcases h with ⟨p, q, a1, a2, a3, a4⟩ | ⟨a1, a2⟩
  · rcases h' with ⟨p', q', b1, b2, b3, b4⟩ | ⟨b1, b2⟩
    · have l1 := nbr_le f (p := p) (q := q) h1 (by omega) (by omega)
      have l2 := nbr_le f (p := p') (q := q') h1 (by omega) (by omega)
      have e := (nI_eq (by omega) (by omega)).mp (a3.trans b3.symm)
      have key : p = p' ∧ q = q' := by
        rcases (show (p = p' ∧ q = q') ∨ (p < p' ∨ p = p' ∧ q < q') ∨ (p' < p ∨ p' = p ∧ q' < q) by omega) with w | w | w
        · exact w
        · have := nbr_lt a2 (n1 := n1) (by omega) w
          omega
        · have := nbr_lt b2 (n1 := n1) (by omega) w
          omega
      rw [a4, b4, key.1, key.2]
    · exact absurd a3 (b1 p q a1 a2)
  · rcases h' with ⟨p', q', b1, b2, b3, b4⟩ | ⟨b1, b2⟩
    · exact absurd b3 (a1 p' q' b1 b2)
    · rw [a2, b2]
noncomputable def pnt (f : Nat → Nat → Bool) (n1 : Nat) (k : Int32) (n0 : Nat) : Int32 := Classical.epsilon (fun y => Pb f n1 k n0 0 y)
theorem pnt_eq {f : Nat → Nat → Bool} {n1 n0 : Nat} {k y : Int32} (h1 : n1 ≤ 64) (h0 : n0 ≤ 64) (h : Pb f n1 k n0 0 y) : y = pnt f n1 k n0 := Pb_one h1 h0 h (Classical.epsilon_spec (p := fun y => Pb f n1 k n0 0 y) ⟨y, h⟩)
theorem nth_at {g : Nat → Bool} {c : Nat} : ∀ (n : Nat), n < 100000 → c < cntB g n → ∃ q, q < n ∧ g q = true ∧ cntB g q = c ∧ nth g (nI c) n = nI q
  | 0, _, h => absurd h (Nat.not_lt_zero c)
  | n + 1, hn, h => by
    have hle := cntB_le g n
    by_cases w : c < cntB g n
    · obtain ⟨q, q1, q2, q3, q4⟩ := nth_at n (by omega) w
      refine ⟨q, by omega, q2, q3, ?_⟩
      rw [nth_s (by omega), if_neg (fun y => by
        have := (nI_eq (a := cntB g n) (b := c) (by omega) (by omega)).mp y.2
        omega), q4]
    · rw [cntB_s] at h
      have hg : g n = true := by
        by_cases v : g n = true
        · exact v
        · rw [if_neg v] at h; omega
      rw [if_pos hg] at h
      have e : cntB g n = c := by omega
      refine ⟨n, by omega, hg, e, ?_⟩
      rw [nth_s (by omega), if_pos ⟨hg, by rw [e]⟩]
theorem rw_cnt {σ : gS} {F : Fr} (h : WF F) (z : jn F ≠ 0) {k : Nat} {P : Nat → Nat → Bool} (hR : RW σ F k P) {p : Nat} (hp : p < pls F (jn F - 1) 0) : f_Lo_bitCount (gL σ k p) = some (nI (cntB (P p) (pls F (jn F - 1) 1))) := by
  obtain ⟨-, ⟨-, n1⟩⟩ := nb_F h (m := jn F - 1) (by omega)
  rw [f_bitCount]
  have := cntB_cut (f := tb (gL σ k p)) (g := P p) (n := pls F (jn F - 1) 1) (64 - pls F (jn F - 1) 1) (fun j hj => hR p hp j (by omega))
  rw [show pls F (jn F - 1) 1 + (64 - pls F (jn F - 1) 1) = 64 by omega] at this
  rw [this]
theorem po_many {σ : gS} {F : Fr} (h : WF F) (hc : CR σ F) (z : jn F ≠ 0) {pf : Bool} {P : Nat → Nat → Bool} (hR : RW σ F (24 + 1 + ix pf) P) : f_Po_howMany σ (bi pf) = some (nI (cS P (pls F (jn F - 1) 1) (pls F (jn F - 1) 0))) := by
  have hix := ix_lt pf
  obtain ⟨⟨-, n0⟩, ⟨-, n1⟩⟩ := nb_F h (m := jn F - 1) (by omega)
  unfold f_Po_howMany b_Po_howMany_0
  rw [f_place, Option.bind_some, ck_t (inb_nI hix (by decide)), show f_Fo_plansOf σ 0 = _ from fo_plansOf h hc z (pl := 0) (by decide), Option.bind_some, nI_c (n := ix pf) (by omega)]
  unfold l_Po_howMany_25
  refine lpF_go (fun p => (24 + 1 + ix pf, nI (pls F (jn F - 1) 0), nI (cS P (pls F (jn F - 1) 1) p), nI p)) (pls F (jn F - 1) 0) (fun p hp k => ?_) (fun k => ?_) (by omega)
  · show b_Po_howMany_25 σ k (24 + 1 + ix pf) (nI (pls F (jn F - 1) 0)) (nI (cS P (pls F (jn F - 1) 1) p)) (nI p) = k (24 + 1 + ix pf, nI (pls F (jn F - 1) 0), nI (cS P (pls F (jn F - 1) 1) (p + 1)), nI (p + 1))
    unfold b_Po_howMany_25
    rw [if_neg (nI_ge hp (by omega)), ck_t (ok25 (by omega) (by omega)), nI_c (n := p) (by omega), rw_cnt h z hR hp, Option.bind_some, bnd_e, bnd_e, nI_add, nI_1, cS_s]
  · show b_Po_howMany_25 σ k (24 + 1 + ix pf) (nI (pls F (jn F - 1) 0)) (nI (cS P (pls F (jn F - 1) 1) (pls F (jn F - 1) 0))) (nI (pls F (jn F - 1) 0)) = _
    unfold b_Po_howMany_25
    rw [if_pos (nI_le (Nat.le_refl _) (by omega))]
theorem po_at {σ : gS} {F : Fr} (h : WF F) (hc : CR σ F) (z : jn F ≠ 0) {pf : Bool} {P : Nat → Nat → Bool} (hR : RW σ F (24 + 1 + ix pf) P) (k : Int32) : f_Po_pointAt σ (bi pf) k = some (pnt P (pls F (jn F - 1) 1) k (pls F (jn F - 1) 0)) := by
  have hix := ix_lt pf
  obtain ⟨⟨m0, n0⟩, ⟨-, n1⟩⟩ := nb_F h (m := jn F - 1) (by omega)
  unfold f_Po_pointAt b_Po_pointAt_0
  rw [f_place, Option.bind_some, ck_t (inb_nI hix (by decide)), show f_Fo_plansOf σ 0 = _ from fo_plansOf h hc z (pl := 0) (by decide), Option.bind_some, nI_c (n := ix pf) (by omega)]
  unfold l_Po_pointAt_26
  have hR' := hR
  generalize hN0 : pls F (jn F - 1) 0 = N0 at m0 n0
  generalize hN1 : pls F (jn F - 1) 1 = N1 at n1
  have hcnt : ∀ p, p < N0 → f_Lo_bitCount (gL σ (24 + 1 + ix pf) p) = some (nI (cntB (P p) N1)) := fun p hp => by
    rw [← hN1]
    exact rw_cnt h z hR (by omega)
  by_cases w : k < 0
  · rw [← pnt_eq (y := -1) n1 n0 (Or.inr ⟨fun p q hb hf e => by
      have := nbr_le P (n1 := N1) (p := p) (q := q) n1 (by omega) (by omega)
      rw [← e] at w
      exact absurd w (nI_pos (by omega)), rfl⟩), lp_gF]
    show b_Po_pointAt_26 σ _ (24 + 1 + ix pf) (nI N0) k 0 = _
    unfold b_Po_pointAt_26
    rw [if_neg (show ¬ nI N0 ≤ 0 from nI_nle (by omega) (by omega)), if_pos w]
  · obtain ⟨c, hc31, rfl⟩ := nI_of w
    have step : ∀ p, p < N0 → cS P N1 (p + 1) ≤ c → ∀ kk, b_Po_pointAt_26 σ kk (24 + 1 + ix pf) (nI N0) (nI (c - cS P N1 p)) (nI p) = kk (24 + 1 + ix pf, nI N0, nI (c - cS P N1 (p + 1)), nI (p + 1)) := fun p hp hle kk => by
      have hb := cntB_le (P p) N1
      rw [cS_s] at hle
      unfold b_Po_pointAt_26
      rw [if_neg (nI_ge hp (by omega)), if_neg (nI_pos (by omega)), ck_t (ok25 (by omega) (by omega)), nI_c (n := p) (by omega), hcnt p hp, Option.bind_some, if_pos (nI_le (by omega) (by omega)), bnd_e, bnd_e, pk_sub (by omega), nI_1, cS_s, show c - cS P N1 p - cntB (P p) N1 = c - (cS P N1 p + cntB (P p) N1) by omega]
    have start : ((24 + 1 + ix pf, nI N0, nI c, (0 : Int32)) : Nat × Int32 × Int32 × Int32) = (fun p => (24 + 1 + ix pf, nI N0, nI (c - cS P N1 p), nI p)) 0 := rfl
    rw [start]
    rcases fst_or (fun p => decide (c < cS P N1 (p + 1))) N0 with g | ⟨i, i1, i2, i3⟩
    · have g' : ∀ p, p < N0 → cS P N1 (p + 1) ≤ c := fun p hp => by
        have := of_decide_eq_false (g p hp)
        omega
      rw [← pnt_eq (y := -1) n1 n0 (Or.inr ⟨fun p q hb hf e => by
        have l := nbr_le P (n1 := N1) (p := p) (q := q) n1 (by omega) (by omega)
        have e' := (nI_eq (by omega) (by omega)).mp e
        have h1 := nbr_row hf (n1 := N1) (by omega)
        have h2 := g' p (by omega)
        omega, rfl⟩)]
      refine lpF_go (fun p => (24 + 1 + ix pf, nI N0, nI (c - cS P N1 p), nI p)) N0 (fun p hp kk => step p hp (g' p hp) kk) (fun kk => ?_) (by omega)
      show b_Po_pointAt_26 σ kk (24 + 1 + ix pf) (nI N0) (nI (c - cS P N1 N0)) (nI N0) = _
      unfold b_Po_pointAt_26
      rw [if_pos (nI_le (Nat.le_refl _) (by omega))]
    · have i3' : ∀ p, p < i → cS P N1 (p + 1) ≤ c := fun p hp => by
        have := of_decide_eq_false (i3 p hp)
        omega
      have i2' : c < cS P N1 (i + 1) := of_decide_eq_true i2
      have hi0 : cS P N1 i ≤ c := by
        cases i with
        | zero => exact Nat.zero_le _
        | succ i => exact i3' i (by omega)
      rw [cS_s] at i2'
      have hb := cntB_le (P i) N1
      obtain ⟨q, q1, q2, q3, q4⟩ := nth_at (g := P i) (c := c - cS P N1 i) N1 (by omega) (by omega)
      rw [← pnt_eq (y := nI (64 * i + q)) n1 n0 (Or.inl ⟨i, q, Or.inl ⟨i1, q1⟩, q2, by unfold nbr; rw [q3, show cS P N1 i + (c - cS P N1 i) = c by omega], rfl⟩)]
      refine lpF_go (fun p => (24 + 1 + ix pf, nI N0, nI (c - cS P N1 p), nI p)) i (fun p hp kk => step p (by omega) (i3' p hp) kk) (fun kk => ?_) (by omega)
      show b_Po_pointAt_26 σ kk (24 + 1 + ix pf) (nI N0) (nI (c - cS P N1 i)) (nI i) = _
      unfold b_Po_pointAt_26
      rw [if_neg (nI_ge i1 (by omega)), if_neg (nI_pos (by omega)), ck_t (ok25 (by omega) (by omega)), nI_c (n := i) (by omega), hcnt i i1, Option.bind_some, if_neg (nI_ge (by omega) (by omega)), ck_t (ok25 (by omega) (by omega)), f_bitAt, Option.bind_some, nth_cut (f := tb (gL σ (24 + 1 + ix pf) i)) (g := P i) (n := N1) n1 (fun j hj => by rw [← hN1]; exact hR' i (by omega) j hj), q4, n64]
