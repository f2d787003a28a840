/-! values of nodes: for a choice at each set -/
def sumN (f : Nat → Int) : Nat → Int
  | 0 => 0
  | n + 1 => sumN f n + f n
theorem sumN_congr {f g : Nat → Int} : ∀ {n : Nat}, (∀ j, j < n → f j = g j) → sumN f n = sumN g n
  | 0, _ => rfl
  | n + 1, h => by
    show sumN f n + f n = sumN g n + g n
    rw [sumN_congr (fun j hj => h j (by omega)), h n (by omega)]
theorem sumN_dvd {f : Nat → Int} {d : Int} : ∀ {n : Nat}, (∀ j, j < n → d ∣ f j) → d ∣ sumN f n
  | 0, _ => ⟨0, by rw [Int.mul_zero]; rfl⟩
  | n + 1, h => Int.dvd_add (sumN_dvd (fun j hj => h j (by omega))) (h n (by omega))
theorem sumN_bd {f : Nat → Int} {B : Int} : ∀ {n : Nat}, (∀ j, j < n → -B ≤ f j ∧ f j ≤ B) → -(n * B) ≤ sumN f n ∧ sumN f n ≤ n * B
  | 0, _ => by
    show -((0 : Nat) * B) ≤ 0 ∧ (0 : Int) ≤ (0 : Nat) * B
    simp
  | n + 1, h => by
    have ih := sumN_bd (n := n) (fun j hj => h j (show j < n + 1 by omega))
    have h2 := h n (by omega)
    show -((n + 1 : Nat) * B) ≤ sumN f n + f n ∧ sumN f n + f n ≤ (n + 1 : Nat) * B
    have e : ((n + 1 : Nat) : Int) * B = n * B + B := by
      rw [Int.natCast_succ, Int.add_mul, Int.one_mul]
    rw [e]
    omega
def valF (F : Fr) (ch : Nat → Nat) (w : Nat) : Nat → Nat → Int
  | 0, _ => 0
  | f + 1, n => if jso F n = 0 then 7776 * (jwo F n w).toInt else if jso F n = 1 then sumN (fun j => valF F ch w f (jch F n j)) (jcn F n) / (jcn F n : Int) else valF F ch w f (jch F n (ch (jse F n)))
def val (F : Fr) (ch : Nat → Nat) (w n : Nat) : Int := valF F ch w 41 n
def okC (F : Fr) (ch : Nat → Nat) : Prop := ∀ s, s < jk F → ch s < jac F s
theorem okC_in {F : Fr} (h : WF F) {ch : Nat → Nat} (hc : okC F ch) {n : Nat} (hn : n < jn F) (h2 : jso F n = 2) : ch (jse F n) < jcn F n := by
  obtain ⟨q1, q2⟩ := (h.2.2.1 n hn).2.2.2.2 h2
  rw [q2]
  exact hc _ q1
theorem valF_st {F : Fr} (h : WF F) {ch : Nat → Nat} (hc : okC F ch) (w : Nat) : ∀ (f n : Nat), n < jn F → n < f → valF F ch w f n = valF F ch w (f + 1) n
  | 0, n, hn, hf => absurd hf (Nat.not_lt_zero n)
  | f + 1, n, hn, hf => by
    show (if jso F n = 0 then 7776 * (jwo F n w).toInt else if jso F n = 1 then sumN (fun j => valF F ch w f (jch F n j)) (jcn F n) / (jcn F n : Int) else valF F ch w f (jch F n (ch (jse F n)))) = (if jso F n = 0 then 7776 * (jwo F n w).toInt else if jso F n = 1 then sumN (fun j => valF F ch w (f + 1) (jch F n j)) (jcn F n) / (jcn F n : Int) else valF F ch w (f + 1) (jch F n (ch (jse F n))))
    have hk : ∀ j, j < jcn F n → valF F ch w f (jch F n j) = valF F ch w (f + 1) (jch F n j) := fun j hj => by
      have := (h.2.2.2.1 n hn j hj).1
      exact valF_st h hc w f _ (by omega) (by omega)
    by_cases z : jso F n = 0
    · rw [if_pos z, if_pos z]
    · rw [if_neg z, if_neg z]
      by_cases z1 : jso F n = 1
      · rw [if_pos z1, if_pos z1, sumN_congr hk]
      · rw [if_neg z1, if_neg z1]
        have z2 : jso F n = 2 := by have := (h.2.2.1 n hn).1; omega
        exact hk _ (okC_in h hc hn z2)
theorem val_ch {F : Fr} (h : WF F) {ch : Nat → Nat} (hc : okC F ch) (w : Nat) {n : Nat} (hn : n < jn F) {j : Nat} (hj : j < jcn F n) : valF F ch w 40 (jch F n j) = val F ch w (jch F n j) := by
  have := (h.2.2.2.1 n hn j hj).1
  have := h.1.1
  exact valF_st h hc w 40 _ (by omega) (by omega)
theorem val_0 {F : Fr} (ch : Nat → Nat) (w : Nat) {n : Nat} (z : jso F n = 0) : val F ch w n = 7776 * (jwo F n w).toInt := if_pos z
theorem val_1' {F : Fr} (h : WF F) {ch : Nat → Nat} (hc : okC F ch) (w : Nat) {n : Nat} (hn : n < jn F) (z : jso F n = 1) : val F ch w n = sumN (fun j => val F ch w (jch F n j)) (jcn F n) / (jcn F n : Int) := by
  have e : val F ch w n = if jso F n = 0 then 7776 * (jwo F n w).toInt else if jso F n = 1 then sumN (fun j => valF F ch w 40 (jch F n j)) (jcn F n) / (jcn F n : Int) else valF F ch w 40 (jch F n (ch (jse F n))) := rfl
  rw [e, if_neg (by omega), if_pos z, sumN_congr (fun j hj => val_ch h hc w hn hj)]
theorem val_2 {F : Fr} (h : WF F) {ch : Nat → Nat} (hc : okC F ch) (w : Nat) {n : Nat} (hn : n < jn F) (z : jso F n = 2) : val F ch w n = val F ch w (jch F n (ch (jse F n))) := by
  have e : val F ch w n = if jso F n = 0 then 7776 * (jwo F n w).toInt else if jso F n = 1 then sumN (fun j => valF F ch w 40 (jch F n j)) (jcn F n) / (jcn F n : Int) else valF F ch w 40 (jch F n (ch (jse F n))) := rfl
  rw [e, if_neg (by omega), if_neg (by omega), val_ch h hc w hn (okC_in h hc hn z)]
theorem dvd6 {c : Nat} (h1 : 1 ≤ c) (h3 : c ≤ 3) : ∃ d : Nat, 6 = c * d := by
  rcases (show c = 1 ∨ c = 2 ∨ c = 3 by omega) with rfl | rfl | rfl
  · exact ⟨6, rfl⟩
  · exact ⟨3, rfl⟩
  · exact ⟨2, rfl⟩
theorem pow6_le {a b : Nat} (h : a ≤ b) : ∃ d : Nat, 6 ^ b = 6 ^ a * d := by
  obtain ⟨c, rfl⟩ : ∃ c, b = a + c := ⟨b - a, by omega⟩
  exact ⟨6 ^ c, Nat.pow_add 6 a c⟩
theorem pow6_dvd {a b : Nat} (h : a ≤ b) {z : Int} (hz : ((6 ^ b : Nat) : Int) ∣ z) : ((6 ^ a : Nat) : Int) ∣ z := by
  obtain ⟨d, e⟩ := pow6_le h
  obtain ⟨q, rfl⟩ := hz
  exact ⟨d * q, by rw [e, Int.natCast_mul, Int.mul_assoc]⟩
/-- all that comes with a division that leaves nothing -/
theorem val_all {F : Fr} (h : WF F) {ch : Nat → Nat} (hc : okC F ch) (w : Nat) (hw : w < 2) : ∀ (m n : Nat), n < m → n < jn F → ((6 ^ (5 - jcc F n) : Nat) : Int) ∣ val F ch w n ∧ (-777600 ≤ val F ch w n ∧ val F ch w n ≤ 777600) ∧ (jso F n = 1 → (jcn F n : Int) * val F ch w n = sumN (fun j => val F ch w (jch F n j)) (jcn F n))
  | 0, n, hm, _ => absurd hm (Nat.not_lt_zero n)
  | m + 1, n, hm, hn => by
    have ih : ∀ j, j < jcn F n → ((6 ^ (5 - jcc F (jch F n j)) : Nat) : Int) ∣ val F ch w (jch F n j) ∧ (-777600 ≤ val F ch w (jch F n j) ∧ val F ch w (jch F n j) ≤ 777600) := fun j hj => by
      have h1 := (h.2.2.2.1 n hn j hj).1
      have := val_all h hc w hw m (jch F n j) (by omega) (by omega)
      exact ⟨this.1, this.2.1⟩
    obtain ⟨b1, b2, b3⟩ := h.2.2.2.2.2.1 n hn
    obtain ⟨c1, c2, c3, c4, c5⟩ := h.2.2.1 n hn
    rcases (show jso F n = 0 ∨ jso F n = 1 ∨ jso F n = 2 by omega) with z | z | z
    · have hb := h.2.2.2.2.2.2.1 n hn z w hw
      rw [val_0 ch w z]
      refine ⟨?_, by omega, fun z1 => by omega⟩
      refine pow6_dvd (b := 5) (by omega) ⟨(jwo F n w).toInt, rfl⟩
    · have hcn := c4 z
      obtain ⟨d, hd⟩ := dvd6 hcn c2
      have hdv : ((6 ^ (5 - jcc F n + 1) : Nat) : Int) ∣ sumN (fun j => val F ch w (jch F n j)) (jcn F n) := sumN_dvd (fun j hj => by
        have h2 := (b3 j hj).2
        rw [if_pos z] at h2
        exact pow6_dvd (by omega) (ih j hj).1)
      have hbd := sumN_bd (B := 777600) (fun j hj => (ih j hj).2)
      obtain ⟨q, hq⟩ := hdv
      have e6 : ((6 ^ (5 - jcc F n + 1) : Nat) : Int) = (jcn F n : Int) * (((6 ^ (5 - jcc F n) : Nat) : Int) * d) := by
        have e7 : 6 ^ (5 - jcc F n + 1) = jcn F n * (6 ^ (5 - jcc F n) * d) := by
          calc 6 ^ (5 - jcc F n + 1) = 6 ^ (5 - jcc F n) * 6 := Nat.pow_succ _ _
            _ = 6 ^ (5 - jcc F n) * (jcn F n * d) := by rw [← hd]
            _ = _ := by rw [Nat.mul_left_comm]
        rw [e7, Int.natCast_mul, Int.natCast_mul]
      have hpos : (jcn F n : Int) ≠ 0 := by omega
      have ev : val F ch w n = ((6 ^ (5 - jcc F n) : Nat) : Int) * d * q := by
        rw [val_1' h hc w hn z, hq, e6, Int.mul_assoc, Int.mul_ediv_cancel_left _ hpos]
      have ex : (jcn F n : Int) * val F ch w n = sumN (fun j => val F ch w (jch F n j)) (jcn F n) := by
        rw [ev, hq, e6, Int.mul_assoc, Int.mul_assoc, Int.mul_assoc]
      refine ⟨⟨d * q, by rw [ev, Int.mul_assoc]⟩, ?_, fun _ => ex⟩
      rw [← ex] at hbd
      generalize val F ch w n = v at hbd ⊢
      rcases (show jcn F n = 1 ∨ jcn F n = 2 ∨ jcn F n = 3 by omega) with y | y | y <;> rw [y] at hbd <;> omega
    · have hj := okC_in h hc hn z
      rw [val_2 h hc w hn z]
      refine ⟨?_, (ih _ hj).2, fun z1 => by omega⟩
      have h2 := (b3 _ hj).2
      exact pow6_dvd (by omega) (ih _ hj).1
theorem val_1 {F : Fr} (h : WF F) {ch : Nat → Nat} (hc : okC F ch) {w : Nat} (hw : w < 2) {n : Nat} (hn : n < jn F) (z : jso F n = 1) : (jcn F n : Int) * val F ch w n = sumN (fun j => val F ch w (jch F n j)) (jcn F n) := (val_all h hc w hw (n + 1) n (by omega) hn).2.2 z
theorem val_bd {F : Fr} (h : WF F) {ch : Nat → Nat} (hc : okC F ch) {w : Nat} (hw : w < 2) {n : Nat} (hn : n < jn F) : -777600 ≤ val F ch w n ∧ val F ch w n ≤ 777600 := (val_all h hc w hw (n + 1) n (by omega) hn).2.1
theorem bl_ch {F : Fr} (h : WF F) {m n : Nat} (hn : n < jn F) (hb : bl F m n = true) {j : Nat} (hj : j < jcn F n) : bl F m (jch F n j) = true := by
  obtain ⟨q1, q2, -⟩ := h.2.2.2.1 n hn j hj
  rw [bl_eq h m (by omega), q2, hb]
  have : n < 40 := by have := h.1.1; omega
  simp [this]
theorem val_congr {F : Fr} (h : WF F) {ch ch' : Nat → Nat} (hc : okC F ch) (hc' : okC F ch') (w : Nat) {m : Nat} (e : ∀ s, ins F m s = true → ch s = ch' s) : ∀ (t n : Nat), n < t → n < jn F → bl F m n = true → val F ch w n = val F ch' w n
  | 0, n, ht, _, _ => absurd ht (Nat.not_lt_zero n)
  | t + 1, n, ht, hn, hb => by
    have ih : ∀ j, j < jcn F n → val F ch w (jch F n j) = val F ch' w (jch F n j) := fun j hj => by
      have h1 := (h.2.2.2.1 n hn j hj).1
      exact val_congr h hc hc' w e t _ (by omega) (by omega) (bl_ch h hn hb hj)
    have c1 := (h.2.2.1 n hn).1
    rcases (show jso F n = 0 ∨ jso F n = 1 ∨ jso F n = 2 by omega) with z | z | z
    · rw [val_0 ch w z, val_0 ch' w z]
    · rw [val_1' h hc w hn z, val_1' h hc' w hn z, sumN_congr ih]
    · have he := e (jse F n) ((ins_iff F h.1.1 m _).mpr ⟨n, hn, hb, z, rfl⟩)
      rw [val_2 h hc w hn z, val_2 h hc' w hn z, ← he]
      exact ih _ (okC_in h hc hn z)
