/-! every plan of a game within is what some plan of the tree is there; the best of both tables -/
theorem inn_add {rR rS : Nat → Nat} (hp : ∀ s, 1 ≤ rR s) (hr : ∀ s, rS s = 1 ∨ rS s = rR s) (K p c : Nat) : ∀ (t d : Nat), inn rR rS K (p + c * wt rR K (t + d)) t = inn rR rS K p t
  | 0, _ => rfl
  | t + 1, d => by
    have ih := inn_add hp hr K p c t (d + 1)
    rw [show t + (d + 1) = t + 1 + d by omega] at ih
    show inn rR rS K (p + c * wt rR K (t + 1 + d)) t + qd rR K (p + c * wt rR K (t + 1 + d)) t % rS (K - 1 - t) * wt rS K t = inn rR rS K p t + qd rR K p t % rS (K - 1 - t) * wt rS K t
    rw [ih]
    obtain ⟨m, em⟩ := wt_dvd rR K (t + 1) d
    have e : qd rR K (p + c * wt rR K (t + 1 + d)) t % rS (K - 1 - t) = qd rR K p t % rS (K - 1 - t) := by
      rw [qd_wt, qd_wt, em]
      have e1 : c * (wt rR K (t + 1) * m) = wt rR K t * (rR (K - 1 - t) * (c * m)) := by
        show c * (wt rR K t * rR (K - 1 - t) * m) = _
        simp only [Nat.mul_assoc, Nat.mul_comm, Nat.mul_left_comm]
      rw [e1, Nat.add_mul_div_left _ _ (wt_pos hp K t)]
      rcases hr (K - 1 - t) with w | w
      · rw [w, Nat.mod_one, Nat.mod_one]
      · rw [w, Nat.add_mul_mod_self_left]
    rw [e]
theorem inn_onto {rR rS : Nat → Nat} (hp : ∀ s, 1 ≤ rR s) (hq : ∀ s, 1 ≤ rS s) (hr : ∀ s, rS s = 1 ∨ rS s = rR s) (K p' : Nat) : ∀ t, ∃ p, p < wt rR K t ∧ inn rR rS K p t = p' % wt rS K t
  | 0 => ⟨0, Nat.lt_succ_self 0, by show 0 = p' % 1; rw [Nat.mod_one]⟩
  | t + 1 => by
    obtain ⟨p, h1, h2⟩ := inn_onto hp hq hr K p' t
    have hd : p' / wt rS K t % rS (K - 1 - t) < rS (K - 1 - t) := Nat.mod_lt _ (hq _)
    generalize hdd : p' / wt rS K t % rS (K - 1 - t) = dd at hd
    have hle : dd < rR (K - 1 - t) := by
      have := hp (K - 1 - t)
      rcases hr (K - 1 - t) with w | w <;> omega
    refine ⟨p + dd * wt rR K t, ?_, ?_⟩
    · show _ < wt rR K t * rR (K - 1 - t)
      have h3 : (dd + 1) * wt rR K t ≤ rR (K - 1 - t) * wt rR K t := Nat.mul_le_mul_right _ hle
      rw [Nat.add_mul, Nat.one_mul] at h3
      rw [Nat.mul_comm (wt rR K t)]
      omega
    · show inn rR rS K (p + dd * wt rR K t) t + qd rR K (p + dd * wt rR K t) t % rS (K - 1 - t) * wt rS K t = p' % (wt rS K t * rS (K - 1 - t))
      have e1 := inn_add hp hr K p dd t 0
      rw [Nat.add_zero] at e1
      rw [e1, h2, qd_wt, Nat.mul_comm dd, Nat.add_mul_div_left _ _ (wt_pos hp K t), Nat.div_eq_of_lt h1, Nat.zero_add, Nat.mod_eq_of_lt hd, Nat.mod_mul, hdd, Nat.mul_comm dd]
abbrev rt (F : Fr) : Nat := jn F - 1
/-- a plan of the tree, in the game from m -/
def ip (F : Fr) (m pl p : Nat) : Nat := inn (rdF F (jn F - 1) pl) (rdF F m pl) (jk F) p (jk F)
theorem sub_of {F : Fr} (h : WF F) {m : Nat} (hb : bl F (jn F - 1) m = true) : ∀ s, ins F m s = true → ins F (jn F - 1) s = true := fun s q => by
  obtain ⟨i, i1, i2, i3, i4⟩ := (ins_iff F h.1.1 m s).mp q
  exact (ins_iff F h.1.1 _ s).mpr ⟨i, i1, bl_trans h hb 40 i i1 (by omega) i2, i3, i4⟩
theorem ip_lt {F : Fr} (h : WF F) (m pl p : Nat) : ip F m pl p < pls F m pl := by
  rw [← rdF_pls h, ← wt_pr]
  exact inn_lt (rdF_pos h m pl) _ _ _
theorem ip_onto {F : Fr} (h : WF F) {m : Nat} (hb : bl F (jn F - 1) m = true) {pl p' : Nat} (hp : p' < pls F m pl) : ∃ p, p < pls F (jn F - 1) pl ∧ ip F m pl p = p' := by
  have hs := sub_of h hb
  obtain ⟨p, h1, h2⟩ := inn_onto (rdF_pos h (jn F - 1) pl) (rdF_pos h m pl) (fun s => by
    unfold rdF
    by_cases w : ins F m s = true ∧ jow F s = pl
    · rw [if_pos w, if_pos ⟨hs s w.1, w.2⟩]
      exact Or.inr rfl
    · rw [if_neg w]
      exact Or.inl rfl) (jk F) p' (jk F)
  rw [wt_pr, rdF_pls h] at h1 h2
  rw [Nat.mod_eq_of_lt hp] at h2
  exact ⟨p, h1, h2⟩
theorem tM_ip {F : Fr} (h : WF F) {m : Nat} (hm : m < jn F) (hb : bl F (jn F - 1) m = true) (w p q : Nat) : tM F m w p q = tF F m w (ip F m 0 p) (ip F m 1 q) := by
  unfold tM tF
  refine congrArg iI (val_congr h (chP_ok h _ _ _) (chP_ok h _ _ _) w (m := m) (fun s hs => ?_) (m + 1) m (by omega) hm (bl_self F m))
  exact (chP_inn h (sub_of h hb) p q s hs).symm
theorem amx_ge (f : Nat → Int32) : ∀ (n i : Nat), i < n → f i ≤ f (amx f n)
  | n + 1, i, hi => by
    show f i ≤ f (if f n ≤ f (amx f n) then amx f n else n)
    by_cases z : f n ≤ f (amx f n)
    · rw [if_pos z]
      by_cases e : i = n
      · rw [e]; exact z
      · exact amx_ge f n i (by omega)
    · rw [if_neg z]
      by_cases e : i = n
      · rw [e]; exact Int32.le_refl _
      · have h1 := amx_ge f n i (by omega)
        rw [Int32.le_iff_toInt_le] at h1 z ⊢
        omega
theorem amx_same {f g : Nat → Int32} {n m : Nat} (hn : 1 ≤ n) (hm : 1 ≤ m) (h1 : ∀ i, i < n → ∃ j, j < m ∧ f i = g j) (h2 : ∀ j, j < m → ∃ i, i < n ∧ f i = g j) : f (amx f n) = g (amx g m) := by
  obtain ⟨j, hj, ej⟩ := h1 _ (amx_lt f hn)
  obtain ⟨i, hi, ei⟩ := h2 _ (amx_lt g hm)
  have a := amx_ge g m j hj
  have b := amx_ge f n i hi
  rw [← ej] at a
  rw [ei] at b
  rw [Int32.le_iff_toInt_le] at a b
  exact Int32.toInt_inj.mp (by omega)
/-- none would leave alone -/
def ptB (T : Tb) (n : Nat → Nat) (p q : Nat) : Bool := decide (va T 1 q p = va T 1 (amx (fun a => va T 1 a p) (n 1)) p) && decide (va T 0 p q = va T 0 (amx (fun a => va T 0 a q) (n 0)) q)
theorem ptB_ip {F : Fr} (h : WF F) {m : Nat} (hm : m < jn F) (hb : bl F (jn F - 1) m = true) (p q : Nat) : ptB (tF F m) (pls F m) (ip F m 0 p) (ip F m 1 q) = ptB (tM F m) (pls F (jn F - 1)) p q := by
  have e0 : ∀ p q, va (tM F m) 0 p q = va (tF F m) 0 (ip F m 0 p) (ip F m 1 q) := fun p q => tM_ip h hm hb 0 p q
  have e1 : ∀ p q, va (tM F m) 1 q p = va (tF F m) 1 (ip F m 1 q) (ip F m 0 p) := fun p q => tM_ip h hm hb 1 p q
  have b0 : va (tM F m) 0 (amx (fun a => va (tM F m) 0 a q) (pls F (jn F - 1) 0)) q = va (tF F m) 0 (amx (fun a => va (tF F m) 0 a (ip F m 1 q)) (pls F m 0)) (ip F m 1 q) :=
    amx_same (f := fun a => va (tM F m) 0 a q) (g := fun a => va (tF F m) 0 a (ip F m 1 q)) (pls_pos h _ 0) (pls_pos h _ 0) (fun i _ => ⟨ip F m 0 i, ip_lt h m 0 i, e0 i q⟩) (fun j hj => by
      obtain ⟨i, hi, ei⟩ := ip_onto h hb hj
      exact ⟨i, hi, by rw [← ei]; exact e0 i q⟩)
  have b1 : va (tM F m) 1 (amx (fun a => va (tM F m) 1 a p) (pls F (jn F - 1) 1)) p = va (tF F m) 1 (amx (fun a => va (tF F m) 1 a (ip F m 0 p)) (pls F m 1)) (ip F m 0 p) :=
    amx_same (f := fun a => va (tM F m) 1 a p) (g := fun a => va (tF F m) 1 a (ip F m 0 p)) (pls_pos h _ 1) (pls_pos h _ 1) (fun i _ => ⟨ip F m 1 i, ip_lt h m 1 i, e1 p i⟩) (fun j hj => by
      obtain ⟨i, hi, ei⟩ := ip_onto h hb hj
      exact ⟨i, hi, by rw [← ei]; exact e1 p i⟩)
  unfold ptB
  rw [b0, b1, e0, e1]
