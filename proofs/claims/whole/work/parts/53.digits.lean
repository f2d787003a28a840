/-! plans as digits: the radix of each set, the rests from the greatest set on -/
def qd (rd : Nat → Nat) (K p : Nat) : Nat → Nat
  | 0 => p
  | t + 1 => qd rd K p t / rd (K - 1 - t)
def dg (rd : Nat → Nat) (K p s : Nat) : Nat := qd rd K p (K - 1 - s) % rd s
def wt (rd : Nat → Nat) (K : Nat) : Nat → Nat
  | 0 => 1
  | t + 1 => wt rd K t * rd (K - 1 - t)
theorem wt_pos {rd : Nat → Nat} (h : ∀ s, 1 ≤ rd s) (K : Nat) : ∀ t, 1 ≤ wt rd K t
  | 0 => Nat.le_refl _
  | t + 1 => Nat.mul_pos (wt_pos h K t) (h _)
theorem qd_wt (rd : Nat → Nat) (K p : Nat) : ∀ t, qd rd K p t = p / wt rd K t
  | 0 => (Nat.div_one p).symm
  | t + 1 => by
    show qd rd K p t / rd (K - 1 - t) = p / (wt rd K t * rd (K - 1 - t))
    rw [qd_wt rd K p t, Nat.div_div_eq_div_mul]
theorem qd_congr {rd : Nat → Nat} {K p p' t : Nat} (e : qd rd K p t = qd rd K p' t) : ∀ d, qd rd K p (t + d) = qd rd K p' (t + d)
  | 0 => e
  | d + 1 => by
    show qd rd K p (t + d) / _ = qd rd K p' (t + d) / _
    rw [qd_congr e d]
theorem dg_lt {rd : Nat → Nat} (h : ∀ s, 1 ≤ rd s) (K p s : Nat) : dg rd K p s < rd s := Nat.mod_lt _ (h s)
theorem dg_1 {rd : Nat → Nat} {s : Nat} (h : rd s = 1) (K p : Nat) : dg rd K p s = 0 := by
  unfold dg
  rw [h, Nat.mod_one]
theorem qd_0 (rd : Nat → Nat) (K : Nat) : ∀ t, qd rd K 0 t = 0
  | 0 => rfl
  | t + 1 => by
    show qd rd K 0 t / _ = 0
    rw [qd_0 rd K t, Nat.zero_div]
theorem dg_0 (rd : Nat → Nat) (K s : Nat) : dg rd K 0 s = 0 := by
  unfold dg
  rw [qd_0, Nat.zero_mod]
/-- one more: a digit without a carry -/
theorem qd_end {rd : Nat → Nat} {K p t s : Nat} (hs : K - 1 - t = s) (hc : qd rd K (p + 1) t = qd rd K p t + 1) (hd : qd rd K p t % rd s + 1 < rd s) : qd rd K (p + 1) (t + 1) = qd rd K p (t + 1) ∧ (qd rd K p t + 1) % rd s = qd rd K p t % rd s + 1 := by
  have hpos : 0 < rd s := by omega
  generalize hx : qd rd K p t = x at hc hd ⊢
  have e := Nat.div_add_mod x (rd s)
  have e2 : x + 1 = rd s * (x / rd s) + (x % rd s + 1) := by omega
  constructor
  · show qd rd K (p + 1) t / rd (K - 1 - t) = qd rd K p t / rd (K - 1 - t)
    rw [hs, hc, hx]
    rw [e2, Nat.mul_add_div hpos, Nat.div_eq_of_lt hd, Nat.add_zero]
  · rw [e2, Nat.mul_add_mod, Nat.mod_eq_of_lt hd]
theorem qd_carry {rd : Nat → Nat} {K p t s : Nat} (hs : K - 1 - t = s) (hpos : 1 ≤ rd s) (hc : qd rd K (p + 1) t = qd rd K p t + 1) (hd : rd s ≤ qd rd K p t % rd s + 1) : qd rd K (p + 1) (t + 1) = qd rd K p (t + 1) + 1 ∧ (qd rd K p t + 1) % rd s = 0 := by
  have hlt := Nat.mod_lt (qd rd K p t) hpos
  generalize hx : qd rd K p t = x at hc hd hlt ⊢
  have e := Nat.div_add_mod x (rd s)
  have e2 : x + 1 = rd s * (x / rd s) + rd s := by omega
  constructor
  · show qd rd K (p + 1) t / rd (K - 1 - t) = qd rd K p t / rd (K - 1 - t) + 1
    rw [hs, hc, hx]
    rw [e2, Nat.mul_add_div hpos, Nat.div_self hpos]
  · rw [e2, Nat.mul_add_mod, Nat.mod_self]
/-- the product from below -/
def pr (rd : Nat → Nat) : Nat → Nat
  | 0 => 1
  | k + 1 => pr rd k * rd k
theorem pr_wt (rd : Nat → Nat) (K : Nat) : ∀ t, t ≤ K → pr rd (K - t) * wt rd K t = pr rd K
  | 0, _ => Nat.mul_one _
  | t + 1, h => by
    have ih := pr_wt rd K t (by omega)
    obtain ⟨m, hm⟩ : ∃ m, K - t = m + 1 := ⟨K - t - 1, by omega⟩
    rw [hm] at ih
    rw [show K - (t + 1) = m by omega, ← ih]
    show pr rd m * (wt rd K t * rd (K - 1 - t)) = pr rd m * rd m * wt rd K t
    rw [show K - 1 - t = m by omega, Nat.mul_assoc, Nat.mul_comm (rd m)]
theorem wt_pr (rd : Nat → Nat) (K : Nat) : wt rd K K = pr rd K := by
  have := pr_wt rd K K (Nat.le_refl _)
  rw [Nat.sub_self] at this
  show _ = _
  rw [← this]
  exact (Nat.one_mul _).symm
theorem dg_all {rd : Nat → Nat} (h : ∀ s, 1 ≤ rd s) {K s : Nat} (hs : s < K) : dg rd K (pr rd K) s = 0 := by
  unfold dg
  rw [qd_wt, ← pr_wt rd K (K - 1 - s) (by omega), Nat.mul_div_cancel _ (wt_pos h K _), show K - (K - 1 - s) = s + 1 by omega]
  exact Nat.mul_mod_left _ _
/-- the plan of a game within -/
def inn (rR rS : Nat → Nat) (K p : Nat) : Nat → Nat
  | 0 => 0
  | t + 1 => inn rR rS K p t + qd rR K p t % rS (K - 1 - t) * wt rS K t
theorem inn_lt {rR rS : Nat → Nat} (h : ∀ s, 1 ≤ rS s) (K p : Nat) : ∀ t, inn rR rS K p t < wt rS K t
  | 0 => Nat.lt_succ_self 0
  | t + 1 => by
    have ih := inn_lt (rR := rR) h K p t
    have h2 := Nat.mod_lt (qd rR K p t) (h (K - 1 - t))
    show inn rR rS K p t + qd rR K p t % rS (K - 1 - t) * wt rS K t < wt rS K t * rS (K - 1 - t)
    have h3 : (qd rR K p t % rS (K - 1 - t) + 1) * wt rS K t ≤ rS (K - 1 - t) * wt rS K t := Nat.mul_le_mul_right _ h2
    rw [Nat.add_mul, Nat.one_mul] at h3
    rw [Nat.mul_comm (wt rS K t)]
    omega
theorem wt_dvd (rd : Nat → Nat) (K t : Nat) : ∀ d, ∃ m, wt rd K (t + d) = wt rd K t * m
  | 0 => ⟨1, (Nat.mul_one _).symm⟩
  | d + 1 => by
    obtain ⟨m, e⟩ := wt_dvd rd K t d
    exact ⟨m * rd (K - 1 - (t + d)), by show wt rd K (t + d) * rd (K - 1 - (t + d)) = _; rw [e, Nat.mul_assoc]⟩
theorem inn_mod {rR rS : Nat → Nat} (h : ∀ s, 1 ≤ rS s) (K p t : Nat) : ∀ d, inn rR rS K p (t + d) % wt rS K t = inn rR rS K p t
  | 0 => Nat.mod_eq_of_lt (inn_lt h K p t)
  | d + 1 => by
    show (inn rR rS K p (t + d) + qd rR K p (t + d) % rS (K - 1 - (t + d)) * wt rS K (t + d)) % wt rS K t = _
    obtain ⟨m, e⟩ := wt_dvd rS K t d
    rw [e, Nat.mul_left_comm, Nat.add_mul_mod_self_left]
    exact inn_mod h K p t d
theorem dg_inn {rR rS : Nat → Nat} (h : ∀ s, 1 ≤ rS s) {K s : Nat} (p : Nat) (hs : s < K) : dg rS K (inn rR rS K p K) s = qd rR K p (K - 1 - s) % rS s := by
  unfold dg
  rw [qd_wt]
  have ht : K - 1 - (K - 1 - s) = s := by omega
  generalize hT : K - 1 - s = t at ht ⊢
  have e1 : K = t + 1 + s := by omega
  have e2 : inn rR rS K p K % wt rS K (t + 1) = inn rR rS K p (t + 1) := by
    have := inn_mod (rR := rR) h K p (t + 1) s
    rw [← e1] at this
    exact this
  have e3 : inn rR rS K p K % wt rS K t = inn rR rS K p t := by
    have := inn_mod (rR := rR) h K p t (s + 1)
    rw [show t + (s + 1) = K by omega] at this
    exact this
  have e4 : inn rR rS K p (t + 1) = inn rR rS K p t + qd rR K p t % rS (K - 1 - t) * wt rS K t := rfl
  have e5 : wt rS K (t + 1) = wt rS K t * rS (K - 1 - t) := rfl
  rw [e5, Nat.mod_mul, e3, e4, ht, Nat.mul_comm (wt rS K t)] at e2
  have e6 := Nat.add_left_cancel e2
  exact Nat.eq_of_mul_eq_mul_right (wt_pos h K t) e6
/-- the radix of a set in the game from a node -/
def rdF (F : Fr) (m pl k : Nat) : Nat := if ins F m k = true ∧ jow F k = pl then jac F k else 1
theorem rdF_pos {F : Fr} (h : WF F) (m pl k : Nat) : 1 ≤ rdF F m pl k := by
  unfold rdF
  split
  · rename_i q
    have := (h.2.1 k (ins_lt h q.1)).2
    omega
  · exact Nat.le_refl _
theorem rdF_pr (F : Fr) (m pl : Nat) : ∀ k, pr (rdF F m pl) k = prd (ins F m) (jow F) (jac F) pl k
  | 0 => rfl
  | k + 1 => by
    show pr (rdF F m pl) k * rdF F m pl k = prd (ins F m) (jow F) (jac F) pl k * _
    rw [rdF_pr F m pl k]
    rfl
theorem rdF_pls {F : Fr} (h : WF F) (m pl : Nat) : pr (rdF F m pl) (jk F) = pls F m pl := by rw [rdF_pr, prd_10 h]
theorem pls_pos {F : Fr} (h : WF F) (m pl : Nat) : 1 ≤ pls F m pl := by
  rw [← rdF_pls h, ← wt_pr]
  exact wt_pos (rdF_pos h m pl) _ _
/-- the choice that two plans name -/
def chP (F : Fr) (m p q s : Nat) : Nat := if jow F s = 0 then dg (rdF F m 0) (jk F) p s else dg (rdF F m 1) (jk F) q s
theorem chP_ok {F : Fr} (h : WF F) (m p q : Nat) : okC F (chP F m p q) := by
  intro s hs
  have hj := (h.2.1 s hs).2
  have key : ∀ pl x, dg (rdF F m pl) (jk F) x s < jac F s := fun pl x => by
    have := dg_lt (rdF_pos h m pl) (jk F) x s
    unfold rdF at this ⊢
    split at this <;> omega
  unfold chP
  split
  · exact key _ _
  · exact key _ _
/-- plans of the tree, in a game within -/
theorem chP_inn {F : Fr} (h : WF F) {m r : Nat} (hsub : ∀ s, ins F m s = true → ins F r s = true) (p q s : Nat) (hs : ins F m s = true) : chP F m (inn (rdF F r 0) (rdF F m 0) (jk F) p (jk F)) (inn (rdF F r 1) (rdF F m 1) (jk F) q (jk F)) s = chP F r p q s := by
  have hk := ins_lt h hs
  have key : ∀ pl x, jow F s = pl → dg (rdF F m pl) (jk F) (inn (rdF F r pl) (rdF F m pl) (jk F) x (jk F)) s = dg (rdF F r pl) (jk F) x s := fun pl x e => by
    rw [dg_inn (rdF_pos h m pl) x hk]
    unfold dg
    have e1 : rdF F m pl s = jac F s := if_pos ⟨hs, e⟩
    have e2 : rdF F r pl s = jac F s := if_pos ⟨hsub s hs, e⟩
    rw [e1, e2]
  have ho := (h.2.1 s hk).1
  unfold chP
  by_cases z : jow F s = 0
  · rw [if_pos z, if_pos z, key 0 p z]
  · rw [if_neg z, if_neg z, key 1 q (by omega)]
