/-! the library's bit count, on Nat: bytes apart -/
theorem pc_and (a b c d : Nat) (hb : b < 256) (hd : d < 256) : (256 * a + b) &&& (256 * c + d) = 256 * (a &&& c) + (b &&& d) := by
  have hbd : b &&& d < 2 ^ 8 := Nat.lt_of_le_of_lt Nat.and_le_left hb
  apply Nat.eq_of_testBit_eq
  intro i
  rw [Nat.testBit_and, show (256 : Nat) = 2 ^ 8 from rfl, Nat.testBit_two_pow_mul_add a (show b < 2 ^ 8 from hb), Nat.testBit_two_pow_mul_add c (show d < 2 ^ 8 from hd), Nat.testBit_two_pow_mul_add _ hbd, Nat.testBit_and, Nat.testBit_and]
  split <;> rfl
def pc1 (M n : Nat) : Nat := n - ((n / 2) &&& M)
def pc2 (M n : Nat) : Nat := (n &&& M) + ((n / 4) &&& M)
def pc3 (M n : Nat) : Nat := (n + n / 16) &&& M
theorem pc1_d : ∀ l, l < 256 → (128 + l / 2) &&& 85 = (l / 2) &&& 85 := by decide +kernel
theorem pc1_s (M h l : Nat) (hl : l < 256) : pc1 (256 * M + 85) (256 * h + l) = 256 * pc1 M h + pc1 85 l := by
  unfold pc1
  have e1 : (256 * h + l) / 2 = 256 * (h / 2) + (128 * (h % 2) + l / 2) := by omega
  have e2 : (128 * (h % 2) + l / 2) &&& 85 = (l / 2) &&& 85 := by
    rcases Nat.mod_two_eq_zero_or_one h with q | q <;> rw [q]
    · simp
    · exact pc1_d l hl
  rw [e1, pc_and _ _ _ _ (by omega) (by omega), e2]
  have h1 : (h / 2) &&& M ≤ h / 2 := Nat.and_le_left
  have h2 : (l / 2) &&& 85 ≤ l / 2 := Nat.and_le_left
  omega
theorem pc2_d : ∀ k, k < 4 → ∀ l, l < 256 → (64 * k + l / 4) &&& 51 = (l / 4) &&& 51 := by decide +kernel
theorem pc2_s (M h l : Nat) (hl : l < 256) : pc2 (256 * M + 51) (256 * h + l) = 256 * pc2 M h + pc2 51 l := by
  unfold pc2
  have e1 : (256 * h + l) / 4 = 256 * (h / 4) + (64 * (h % 4) + l / 4) := by omega
  have e2 : (64 * (h % 4) + l / 4) &&& 51 = (l / 4) &&& 51 := pc2_d _ (Nat.mod_lt _ (by omega)) l hl
  rw [e1, pc_and _ _ _ _ hl (by omega), pc_and _ _ _ _ (by omega) (by omega), e2]
  omega
theorem pc_15 (x : Nat) : x &&& 15 = x % 16 := Nat.and_two_pow_sub_one_eq_mod x 4
theorem pc3_s (M h l : Nat) (hl : l % 16 ≤ 4 ∧ l / 16 ≤ 4) (hh : h % 16 ≤ 4) : pc3 (256 * M + 15) (256 * h + l) = 256 * pc3 M h + pc3 15 l := by
  unfold pc3
  have e1 : 256 * h + l + (256 * h + l) / 16 = 256 * (h + h / 16) + (l + l / 16 + 16 * (h % 16)) := by omega
  rw [e1, pc_and _ _ _ _ (by omega) (by omega), pc_15, pc_15]
  omega
def pcM (b : Nat) : Nat → Nat
  | 0 => 0
  | k + 1 => 256 * pcM b k + b
def pcn : Nat → Nat → Nat
  | 0, _ => 0
  | k + 1, n => n % 2 + pcn k (n / 2)
def pcS : Nat → Nat → Nat
  | 0, _ => 0
  | k + 1, n => 256 * pcS k (n / 256) + pcn 8 (n % 256)
theorem pc_byte : ∀ l, l < 256 → (pc2 51 (pc1 85 l) % 16 ≤ 4 ∧ pc2 51 (pc1 85 l) / 16 ≤ 4) ∧ pc1 85 l < 256 ∧ pc3 15 (pc2 51 (pc1 85 l)) = pcn 8 l ∧ pcn 8 l ≤ 8 := by decide +kernel
theorem pc_all : ∀ (k n : Nat), n < 256 ^ k → pc2 (pcM 51 k) (pc1 (pcM 85 k) n) % 16 ≤ 4 ∧ pc3 (pcM 15 k) (pc2 (pcM 51 k) (pc1 (pcM 85 k) n)) = pcS k n
  | 0, n, h => by
    have : n = 0 := by simpa using h
    subst this
    decide
  | k + 1, n, h => by
    have hn : n / 256 < 256 ^ k := by
      rw [Nat.pow_succ] at h
      omega
    obtain ⟨i1, i2⟩ := pc_all k (n / 256) hn
    have hl : n % 256 < 256 := Nat.mod_lt _ (by omega)
    obtain ⟨b1, b2, b3, b4⟩ := pc_byte _ hl
    have e : n = 256 * (n / 256) + n % 256 := by omega
    have s1 : pc1 (pcM 85 (k + 1)) n = 256 * pc1 (pcM 85 k) (n / 256) + pc1 85 (n % 256) := by
      have := pc1_s (pcM 85 k) (n / 256) (n % 256) hl
      rw [← e] at this
      exact this
    have s2 : pc2 (pcM 51 (k + 1)) (pc1 (pcM 85 (k + 1)) n) = 256 * pc2 (pcM 51 k) (pc1 (pcM 85 k) (n / 256)) + pc2 51 (pc1 85 (n % 256)) := by
      rw [s1]
      exact pc2_s _ _ _ b2
    refine ⟨?_, ?_⟩
    · rw [s2]
      omega
    · rw [s2]
      show pc3 (256 * pcM 15 k + 15) _ = 256 * pcS k (n / 256) + pcn 8 (n % 256)
      rw [pc3_s _ _ _ b1 i1, i2, b3]
theorem pcn_add : ∀ (j k n : Nat), pcn (j + k) n = pcn j (n % 2 ^ j) + pcn k (n / 2 ^ j)
  | 0, k, n => by simp [pcn, Nat.mod_one]
  | j + 1, k, n => by
    rw [show j + 1 + k = (j + k) + 1 by omega]
    show n % 2 + pcn (j + k) (n / 2) = (n % 2 ^ (j + 1)) % 2 + pcn j (n % 2 ^ (j + 1) / 2) + _
    rw [pcn_add j k (n / 2)]
    have e1 : n % 2 ^ (j + 1) % 2 = n % 2 := Nat.mod_mod_of_dvd n ⟨2 ^ j, by rw [Nat.pow_succ]; omega⟩
    have e2 : n % 2 ^ (j + 1) / 2 = n / 2 % 2 ^ j := by
      rw [Nat.pow_succ, Nat.mul_comm, Nat.mod_mul_right_div_self]
    have e3 : n / 2 / 2 ^ j = n / 2 ^ (j + 1) := by rw [Nat.div_div_eq_div_mul, Nat.pow_succ, Nat.mul_comm]
    rw [e1, e2, e3]
    omega
theorem pc_fin (n : Nat) (h : n < 2 ^ 64) : ∃ c0 c1 c2 c3 c4 c5 c6 c7 : Nat, c0 ≤ 8 ∧ c1 ≤ 8 ∧ c2 ≤ 8 ∧ c3 ≤ 8 ∧ c4 ≤ 8 ∧ c5 ≤ 8 ∧ c6 ≤ 8 ∧ c7 ≤ 8 ∧ pcS 8 n = c0 + 256 * (c1 + 256 * (c2 + 256 * (c3 + 256 * (c4 + 256 * (c5 + 256 * (c6 + 256 * c7)))))) ∧ pcn 64 n = c0 + c1 + c2 + c3 + c4 + c5 + c6 + c7 := by
  have hb : ∀ m, pcn 8 (m % 256) ≤ 8 := fun m => (pc_byte _ (Nat.mod_lt _ (by omega))).2.2.2
  refine ⟨_, _, _, _, _, _, _, _, hb n, hb (n / 256), hb (n / 256 / 256), hb (n / 256 / 256 / 256), hb (n / 256 / 256 / 256 / 256), hb (n / 256 / 256 / 256 / 256 / 256), hb (n / 256 / 256 / 256 / 256 / 256 / 256), hb (n / 256 / 256 / 256 / 256 / 256 / 256 / 256), ?_, ?_⟩
  · simp only [pcS]
    omega
  · have s : ∀ k m, pcn (8 + k) m = pcn 8 (m % 256) + pcn k (m / 256) := fun k m => pcn_add 8 k m
    rw [show 64 = 8 + 56 from rfl, s, show 56 = 8 + 48 from rfl, s, show 48 = 8 + 40 from rfl, s, show 40 = 8 + 32 from rfl, s, show 32 = 8 + 24 from rfl, s, show 24 = 8 + 16 from rfl, s, show 16 = 8 + 8 from rfl, s]
    have h7 : n / 256 / 256 / 256 / 256 / 256 / 256 / 256 % 256 = n / 256 / 256 / 256 / 256 / 256 / 256 / 256 := by omega
    rw [h7]
    omega
/-- the whole count -/
theorem pc_count (n n1 n2 n3 n4 n5 n6 : Nat) (h : n < 2 ^ 64) (h1 : n1 = pc1 6148914691236517205 n) (h2 : n2 = pc2 3689348814741910323 n1) (h3 : n3 = pc3 1085102592571150095 n2) (h4 : n4 = n3 + n3 / 256) (h5 : n5 = n4 + n4 / 65536) (h6 : n6 = n5 + n5 / 4294967296) : n6 % 128 = pcn 64 n ∧ n6 < 2 ^ 64 := by
  have e := (pc_all 8 n (by simpa using h)).2
  have m1 : pcM 85 8 = 6148914691236517205 := by decide +kernel
  have m2 : pcM 51 8 = 3689348814741910323 := by decide +kernel
  have m3 : pcM 15 8 = 1085102592571150095 := by decide +kernel
  rw [m1, m2, m3, ← h1, ← h2, ← h3] at e
  obtain ⟨c0, c1, c2, c3, c4, c5, c6, c7, g0, g1, g2, g3, g4, g5, g6, g7, g8, g9⟩ := pc_fin n h
  rw [g8] at e
  have q1 : n3 / 256 = c1 + 256 * (c2 + 256 * (c3 + 256 * (c4 + 256 * (c5 + 256 * (c6 + 256 * c7))))) := by omega
  have q2 : n4 = (c0 + c1) + 256 * ((c1 + c2) + 256 * ((c2 + c3) + 256 * ((c3 + c4) + 256 * ((c4 + c5) + 256 * ((c5 + c6) + 256 * ((c6 + c7) + 256 * c7)))))) := by omega
  clear h4 q1 e h3
  have q3 : n4 / 65536 = (c2 + c3) + 256 * ((c3 + c4) + 256 * ((c4 + c5) + 256 * ((c5 + c6) + 256 * ((c6 + c7) + 256 * c7)))) := by omega
  have q4 : n5 = (c0 + c1 + c2 + c3) + 256 * ((c1 + c2 + c3 + c4) + 256 * ((c2 + c3 + c4 + c5) + 256 * ((c3 + c4 + c5 + c6) + 256 * ((c4 + c5 + c6 + c7) + 256 * ((c5 + c6 + c7) + 256 * ((c6 + c7) + 256 * c7)))))) := by omega
  clear h5 q2 q3
  have q5 : n5 / 4294967296 = (c4 + c5 + c6 + c7) + 256 * ((c5 + c6 + c7) + 256 * ((c6 + c7) + 256 * c7)) := by omega
  have q6 : n6 = (c0 + c1 + c2 + c3 + c4 + c5 + c6 + c7) + 256 * ((c1 + c2 + c3 + c4 + (c5 + c6 + c7)) + 256 * ((c2 + c3 + c4 + c5 + (c6 + c7)) + 256 * ((c3 + c4 + c5 + c6 + c7) + 256 * ((c4 + c5 + c6 + c7) + 256 * ((c5 + c6 + c7) + 256 * ((c6 + c7) + 256 * c7)))))) := by omega
  clear h6 q4 q5
  refine ⟨?_, by omega⟩
  rw [g9]
  omega
