/-! counting bits -/
theorem cntB_low (f : Nat → Bool) : ∀ k, cntB f (k + 1) = (if f 0 = true then 1 else 0) + cntB (fun j => f (j + 1)) k
  | 0 => by
    show 0 + (if f 0 = true then 1 else 0) = (if f 0 = true then 1 else 0) + 0
    omega
  | k + 1 => by
    have ih := cntB_low f k
    show cntB f (k + 1) + (if f (k + 1) = true then 1 else 0) = (if f 0 = true then 1 else 0) + (cntB (fun j => f (j + 1)) k + (if f (k + 1) = true then 1 else 0))
    omega
theorem pcn_bits : ∀ (k m : Nat), pcn k m = cntB (fun j => m.testBit j) k
  | 0, _ => rfl
  | k + 1, m => by
    rw [cntB_low]
    show m % 2 + pcn k (m / 2) = _
    rw [pcn_bits k (m / 2)]
    have e : cntB (fun j => (m / 2).testBit j) k = cntB (fun j => m.testBit (j + 1)) k := cntB_congr (fun j _ => by rw [Nat.testBit_succ])
    rw [e, Nat.testBit_zero]
    rcases (show m % 2 = 0 ∨ m % 2 = 1 by omega) with w | w <;> simp [w]
theorem pcn_tb (x : Int64) : pcn 64 x.toBitVec.toNat = cntB (tb x) 64 := pcn_bits 64 x.toBitVec.toNat
/-- bits beyond the number of plans count nothing -/
theorem cntB_cut {f g : Nat → Bool} {n : Nat} : ∀ d, (∀ j, j < n + d → f j = (decide (j < n) && g j)) → cntB f (n + d) = cntB g n
  | 0, h => cntB_congr (fun j hj => by rw [h j hj, decide_eq_true (show j < n from hj), Bool.true_and])
  | d + 1, h => by
    show cntB f (n + d) + (if f (n + d) = true then 1 else 0) = _
    rw [cntB_cut d (fun j hj => h j (by omega)), h (n + d) (by omega), decide_eq_false (by omega), Bool.false_and, if_neg (by decide)]
    rfl
