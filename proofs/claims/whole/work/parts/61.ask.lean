/-! what both sides ask of their tables -/
abbrev Tb : Type := Nat → Nat → Nat → Int32
def tF (F : Fr) (m w p q : Nat) : Int32 := iI (val F (chP F m p q) w m)
def tM (F : Fr) (x w p q : Nat) : Int32 := iI (val F (chP F (jn F - 1) p q) w x)
def VC (σ : gS) (n : Nat → Nat) (T : Tb) : Prop := gI σ 17 0 = nI (n 0) ∧ gI σ 17 1 = nI (n 1) ∧ ∀ p q, p < n 0 → q < n 1 → gI σ 19 (64 * p + q) = T 0 p q ∧ gI σ 20 (64 * p + q) = T 1 p q
def VM (σ : gS) (n : Nat → Nat) (T : Tb) : Prop := gI σ 46 16 = nI (n 0) ∧ gI σ 46 17 = nI (n 1) ∧ ∀ p q, p < n 0 → q < n 1 → gI σ 59 (64 * p + q) = T 0 p q ∧ gI σ 59 (4096 + 64 * p + q) = T 1 p q
theorem TB_VC {σ : gS} {F : Fr} {m : Nat} (h : TB σ F m) : VC σ (pls F m) (tF F m) := h
theorem MT_VM {σ : gS} {F : Fr} {x : Nat} (h : MT σ F x) : VM σ (pls F (jn F - 1)) (tM F x) := h
def nb (n : Nat → Nat) : Prop := (1 ≤ n 0 ∧ n 0 ≤ 64) ∧ (1 ≤ n 1 ∧ n 1 ≤ 64)
theorem nb_F {F : Fr} (h : WF F) {m : Nat} (hm : m < jn F) : nb (pls F m) := ⟨⟨pls_pos h m 0, h.2.2.2.2.2.2.2 m hm 0 (by decide)⟩, ⟨pls_pos h m 1, h.2.2.2.2.2.2.2 m hm 1 (by decide)⟩⟩
/-- for a player: an own plan against another -/
def va (T : Tb) (pl own oth : Nat) : Int32 := if pl = 0 then T 0 own oth else T 1 oth own
theorem ot_pl {pl : Nat} (h : pl < 2) : (1 : Int32) - nI pl = nI (1 - pl) := by
  rcases (show pl = 0 ∨ pl = 1 by omega) with rfl | rfl <;> decide
theorem c_value {σ : gS} {n : Nat → Nat} {T : Tb} (h : VC σ n T) (hn : nb n) {pl a b : Nat} (hpl : pl < 2) (ha : a < n pl) (hb : b < n (1 - pl)) : f_Ta_value σ (nI pl) (nI a) (nI b) = some (va T pl a b) := by
  obtain ⟨⟨-, n0⟩, ⟨-, n1⟩⟩ := hn
  unfold f_Ta_value b_Ta_value_0 va
  rcases (show pl = 0 ∨ pl = 1 by omega) with rfl | rfl
  · replace hb : b < n 1 := hb
    rw [if_pos (show nI 0 = 0 from rfl), if_pos rfl, ck_t (show inb 0 2 = true from rfl), n64, ck_t (okI_lt (k := 19) (n := 64 * a + b) (L := 4096) rfl rfl (by omega) (by decide)), nI_c (by omega), (h.2.2 a b ha hb).1]
  · rw [if_neg (show ¬ nI 1 = 0 by decide), if_neg (show ¬ 1 = 0 by decide), ck_t (show inb 1 2 = true from rfl), n64, ck_t (okI_lt (k := 20) (n := 64 * b + a) (L := 4096) rfl rfl (by simp at hb; omega) (by decide)), nI_c (by simp at hb; omega), (h.2.2 b a hb ha).2]
theorem m_value {σ : gS} {n : Nat → Nat} {T : Tb} (h : VM σ n T) (hn : nb n) {pl a b : Nat} (hpl : pl < 2) (ha : a < n pl) (hb : b < n (1 - pl)) : f_Mo_worthTo σ (nI pl) (nI a) (nI b) = some (va T pl a b) := by
  obtain ⟨⟨-, n0⟩, ⟨-, n1⟩⟩ := hn
  unfold f_Mo_worthTo b_Mo_worthTo_0 va
  rcases (show pl = 0 ∨ pl = 1 by omega) with rfl | rfl
  · replace hb : b < n 1 := hb
    rw [if_pos (show nI 0 = 0 from rfl), if_pos rfl, n64, ck_t (okI_lt (k := 59) (n := 64 * a + b) (L := 8192) rfl rfl (by omega) (by decide)), nI_c (by omega), (h.2.2 a b ha hb).1]
  · rw [if_neg (show ¬ nI 1 = 0 by decide), if_neg (show ¬ 1 = 0 by decide), n4096, ck_t (okI_lt (k := 59) (n := 4096 + 64 * b + a) (L := 8192) rfl rfl (by simp at hb; omega) (by decide)), nI_c (by simp at hb; omega), (h.2.2 b a hb ha).2]
theorem c_n {σ : gS} {n : Nat → Nat} {T : Tb} (h : VC σ n T) {pl : Nat} (hpl : pl < 2) : gI σ 17 pl = nI (n pl) := by
  rcases (show pl = 0 ∨ pl = 1 by omega) with rfl | rfl
  · exact h.1
  · exact h.2.1
theorem m_many {σ : gS} {n : Nat → Nat} {T : Tb} (h : VM σ n T) {pl : Nat} (hpl : pl < 2) : f_Mo_many σ (nI pl) = some (nI (n pl)) := by
  unfold f_Mo_many b_Mo_many_0
  rcases (show pl = 0 ∨ pl = 1 by omega) with rfl | rfl
  · rw [if_pos (show nI 0 = 0 from rfl), h.1]
  · rw [if_neg (show ¬ nI 1 = 0 by decide), h.2.1]
theorem ok17 {pl : Nat} (h : pl < 2) : okI 17 (nI pl) = true := okI_lt (k := 17) (n := pl) (L := 2) rfl rfl h (by decide)
theorem nb_le {n : Nat → Nat} (h : nb n) {pl : Nat} (hpl : pl < 2) : 1 ≤ n pl ∧ n pl ≤ 64 := by
  rcases (show pl = 0 ∨ pl = 1 by omega) with rfl | rfl
  · exact h.1
  · exact h.2
/-- the first of the greatest -/
def amx (f : Nat → Int32) : Nat → Nat
  | 0 => 0
  | n + 1 => if f n ≤ f (amx f n) then amx f n else n
theorem amx_lt (f : Nat → Int32) : ∀ {n : Nat}, 1 ≤ n → amx f n < n
  | 1, _ => by
    show (if f 0 ≤ f 0 then 0 else 0) < 1
    split <;> decide
  | n + 2, _ => by
    have := amx_lt f (show 1 ≤ n + 1 by omega)
    show (if f (n + 1) ≤ f (amx f (n + 1)) then amx f (n + 1) else n + 1) < n + 2
    split <;> omega
theorem amx_1 (f : Nat → Int32) : amx f 1 = 0 := by
  show (if f 0 ≤ f 0 then 0 else 0) = 0
  split <;> rfl
theorem c_best {σ : gS} {n : Nat → Nat} {T : Tb} (h : VC σ n T) (hn : nb n) {pl b : Nat} (hpl : pl < 2) (hb : b < n (1 - pl)) : f_Ta_bestAgainst σ (nI pl) (nI b) = some (nI (amx (fun a => va T pl a b) (n pl))) := by
  have hl := nb_le hn hpl
  unfold f_Ta_bestAgainst b_Ta_bestAgainst_0 l_Ta_bestAgainst_5
  rw [show (nI pl, nI b, (0 : Int32), (1 : Int32)) = (fun t => (nI pl, nI b, nI (amx (fun a => va T pl a b) (t + 1)), nI (t + 1))) 0 from by show _ = (nI pl, nI b, nI (amx (fun a => va T pl a b) 1), nI 1); rw [amx_1]; rfl]
  refine lpF_go (fun t => (nI pl, nI b, nI (amx (fun a => va T pl a b) (t + 1)), nI (t + 1))) (n pl - 1) (fun t ht k => ?_) (fun k => ?_) (by omega)
  · show b_Ta_bestAgainst_5 σ k (nI pl) (nI b) (nI (amx (fun a => va T pl a b) (t + 1))) (nI (t + 1)) = _
    have hA := amx_lt (fun a => va T pl a b) (show 1 ≤ t + 1 by omega)
    have enext : k (nI pl, nI b, nI (amx (fun a => va T pl a b) (t + 1 + 1)), nI (t + 1 + 1)) = k (nI pl, nI b, nI (if va T pl (t + 1) b ≤ va T pl (amx (fun a => va T pl a b) (t + 1)) b then amx (fun a => va T pl a b) (t + 1) else t + 1), nI (t + 1 + 1)) := rfl
    rw [enext]
    unfold b_Ta_bestAgainst_5
    rw [ck_t (ok17 hpl), nI_c (by omega), c_n h hpl, if_neg (nI_ge (by omega) (by omega)), c_value h hn hpl (by omega) hb, Option.bind_some, c_value h hn hpl (by omega) hb, Option.bind_some]
    by_cases z : va T pl (t + 1) b ≤ va T pl (amx (fun a => va T pl a b) (t + 1)) b
    · rw [if_pos z, if_pos z]
      unfold b_Ta_bestAgainst_37
      rw [bnd_e, nI_1]
    · rw [if_neg z, if_neg z]
      unfold b_Ta_bestAgainst_37
      rw [bnd_e, nI_1]
  · show b_Ta_bestAgainst_5 σ k (nI pl) (nI b) (nI (amx (fun a => va T pl a b) (n pl - 1 + 1))) (nI (n pl - 1 + 1)) = _
    unfold b_Ta_bestAgainst_5
    rw [ck_t (ok17 hpl), nI_c (by omega), c_n h hpl, show n pl - 1 + 1 = n pl by omega, if_pos (nI_le (Nat.le_refl _) (by omega))]
theorem m_best {σ : gS} {n : Nat → Nat} {T : Tb} (h : VM σ n T) (hn : nb n) {pl b : Nat} (hpl : pl < 2) (hb : b < n (1 - pl)) : f_Mo_answerOf σ (nI pl) (nI b) = some (nI (amx (fun a => va T pl a b) (n pl))) := by
  have hl := nb_le hn hpl
  unfold f_Mo_answerOf b_Mo_answerOf_0 l_Mo_answerOf_5
  rw [show (nI pl, nI b, (0 : Int32), (1 : Int32)) = (fun t => (nI pl, nI b, nI (amx (fun a => va T pl a b) (t + 1)), nI (t + 1))) 0 from by show _ = (nI pl, nI b, nI (amx (fun a => va T pl a b) 1), nI 1); rw [amx_1]; rfl]
  refine lpF_go (fun t => (nI pl, nI b, nI (amx (fun a => va T pl a b) (t + 1)), nI (t + 1))) (n pl - 1) (fun t ht k => ?_) (fun k => ?_) (by omega)
  · show b_Mo_answerOf_5 σ k (nI pl) (nI b) (nI (amx (fun a => va T pl a b) (t + 1))) (nI (t + 1)) = _
    have hA := amx_lt (fun a => va T pl a b) (show 1 ≤ t + 1 by omega)
    have enext : k (nI pl, nI b, nI (amx (fun a => va T pl a b) (t + 1 + 1)), nI (t + 1 + 1)) = k (nI pl, nI b, nI (if va T pl (t + 1) b ≤ va T pl (amx (fun a => va T pl a b) (t + 1)) b then amx (fun a => va T pl a b) (t + 1) else t + 1), nI (t + 1 + 1)) := rfl
    rw [enext]
    unfold b_Mo_answerOf_5
    rw [m_many h hpl, Option.bind_some, if_neg (nI_ge (by omega) (by omega)), m_value h hn hpl (by omega) hb, Option.bind_some, m_value h hn hpl (by omega) hb, Option.bind_some]
    by_cases z : va T pl (t + 1) b ≤ va T pl (amx (fun a => va T pl a b) (t + 1)) b
    · rw [if_pos z, if_pos z]
      unfold b_Mo_answerOf_39
      rw [bnd_e, nI_1]
    · rw [if_neg z, if_neg z]
      unfold b_Mo_answerOf_39
      rw [bnd_e, nI_1]
  · show b_Mo_answerOf_5 σ k (nI pl) (nI b) (nI (amx (fun a => va T pl a b) (n pl - 1 + 1))) (nI (n pl - 1 + 1)) = _
    unfold b_Mo_answerOf_5
    rw [m_many h hpl, Option.bind_some, show n pl - 1 + 1 = n pl by omega, if_pos (nI_le (Nat.le_refl _) (by omega))]
