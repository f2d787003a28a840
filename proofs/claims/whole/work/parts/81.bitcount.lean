/-! bitCount -/
theorem sh_n (x : Int64) {s : UInt64} {k : Nat} (hk : k < 64) (hs : s.toNat = k) : ((x.toUInt64 >>> s).toInt64).toBitVec.toNat = x.toBitVec.toNat / 2 ^ k := by
  have e : ((x.toUInt64 >>> s).toInt64).toBitVec = x.toBitVec >>> (s.toBitVec % 64#64) := rfl
  have e2 : (s.toBitVec % 64#64).toNat = k := by
    rw [BitVec.toNat_umod]
    have : s.toBitVec.toNat = k := hs
    rw [this]
    exact Nat.mod_eq_of_lt hk
  rw [e]
  show (x.toBitVec >>> (s.toBitVec % 64#64)).toNat = _
  rw [BitVec.ushiftRight_eq', BitVec.toNat_ushiftRight, e2, Nat.shiftRight_eq_div_pow]
theorem l_and (x y : Int64) : (x &&& y).toBitVec.toNat = x.toBitVec.toNat &&& y.toBitVec.toNat := by
  rw [Int64.toBitVec_and, BitVec.toNat_and]
theorem l_add {x y : Int64} (h : x.toBitVec.toNat + y.toBitVec.toNat < 2 ^ 64) : (x + y).toBitVec.toNat = x.toBitVec.toNat + y.toBitVec.toNat := by
  rw [Int64.toBitVec_add, BitVec.toNat_add]
  exact Nat.mod_eq_of_lt h
theorem l_sub {x y : Int64} (h : y.toBitVec.toNat ≤ x.toBitVec.toNat) : (x - y).toBitVec.toNat = x.toBitVec.toNat - y.toBitVec.toNat := by
  rw [Int64.toBitVec_sub]
  exact BitVec.toNat_sub_of_le h
theorem bnd_x {α β : Type} {x : α} {f : α → β} {r : β} (h : ∀ y, y = x → f y = r) : bnd x f = r := h x rfl
theorem f_bitCount (x : Int64) : f_Lo_bitCount x = some (nI (cntB (tb x) 64)) := by
  have hx : x.toBitVec.toNat < 2 ^ 64 := x.toBitVec.isLt
  unfold f_Lo_bitCount b_Lo_bitCount_0
  refine bnd_x (fun x1 h1 => ?_)
  refine bnd_x (fun x2 h2 => ?_)
  refine bnd_x (fun x3 h3 => ?_)
  refine bnd_x (fun x4 h4 => ?_)
  refine bnd_x (fun x5 h5 => ?_)
  refine bnd_x (fun x6 h6 => ?_)
  have a1 : x1.toBitVec.toNat = pc1 6148914691236517205 x.toBitVec.toNat := by
    have e1 := sh_n x (s := (1 : Int32).toInt64.toUInt64 &&& Int64.toUInt64 63) (k := 1) (by decide) (by decide)
    have e2 := l_and ((x.toUInt64 >>> ((1 : Int32).toInt64.toUInt64 &&& Int64.toUInt64 63)).toInt64) 6148914691236517205
    rw [e1, show (6148914691236517205 : Int64).toBitVec.toNat = 6148914691236517205 from by decide +kernel] at e2
    have e3 : x.toBitVec.toNat / 2 ^ 1 &&& 6148914691236517205 ≤ x.toBitVec.toNat / 2 ^ 1 := Nat.and_le_left
    rw [h1, l_sub (by rw [e2]; omega), e2]
    rfl
  have a2 : x2.toBitVec.toNat = pc2 3689348814741910323 x1.toBitVec.toNat := by
    have e1 := sh_n x1 (s := (2 : Int32).toInt64.toUInt64 &&& Int64.toUInt64 63) (k := 2) (by decide) (by decide)
    have e2 := l_and ((x1.toUInt64 >>> ((2 : Int32).toInt64.toUInt64 &&& Int64.toUInt64 63)).toInt64) 3689348814741910323
    have e4 := l_and x1 3689348814741910323
    rw [e1, show (3689348814741910323 : Int64).toBitVec.toNat = 3689348814741910323 from by decide +kernel] at e2
    rw [show (3689348814741910323 : Int64).toBitVec.toNat = 3689348814741910323 from by decide +kernel] at e4
    have e3 : x1.toBitVec.toNat / 2 ^ 2 &&& 3689348814741910323 ≤ 3689348814741910323 := Nat.and_le_right
    have e5 : x1.toBitVec.toNat &&& 3689348814741910323 ≤ 3689348814741910323 := Nat.and_le_right
    rw [h2, l_add (by rw [e2, e4]; omega), e2, e4]
    rfl
  have b2 : x2.toBitVec.toNat ≤ 7378697629483820646 := by
    rw [a2]
    unfold pc2
    have e3 : x1.toBitVec.toNat / 4 &&& 3689348814741910323 ≤ 3689348814741910323 := Nat.and_le_right
    have e5 : x1.toBitVec.toNat &&& 3689348814741910323 ≤ 3689348814741910323 := Nat.and_le_right
    omega
  have a3 : x3.toBitVec.toNat = pc3 1085102592571150095 x2.toBitVec.toNat := by
    have e1 := sh_n x2 (s := (4 : Int32).toInt64.toUInt64 &&& Int64.toUInt64 63) (k := 4) (by decide) (by decide)
    rw [h3, l_and, l_add (by rw [e1]; omega), e1, show (1085102592571150095 : Int64).toBitVec.toNat = 1085102592571150095 from by decide +kernel]
    rfl
  have b3 : x3.toBitVec.toNat ≤ 1085102592571150095 := by
    rw [a3]
    unfold pc3
    exact Nat.and_le_right
  have a4 : x4.toBitVec.toNat = x3.toBitVec.toNat + x3.toBitVec.toNat / 256 := by
    have e1 := sh_n x3 (s := (8 : Int32).toInt64.toUInt64 &&& Int64.toUInt64 63) (k := 8) (by decide) (by decide)
    rw [h4, l_add (by rw [e1]; omega), e1]
  have a5 : x5.toBitVec.toNat = x4.toBitVec.toNat + x4.toBitVec.toNat / 65536 := by
    have e1 := sh_n x4 (s := (16 : Int32).toInt64.toUInt64 &&& Int64.toUInt64 63) (k := 16) (by decide) (by decide)
    rw [h5, l_add (by rw [e1]; omega), e1]
  have a6 : x6.toBitVec.toNat = x5.toBitVec.toNat + x5.toBitVec.toNat / 4294967296 := by
    have e1 := sh_n x5 (s := (32 : Int32).toInt64.toUInt64 &&& Int64.toUInt64 63) (k := 32) (by decide) (by decide)
    rw [h6, l_add (by rw [e1]; omega), e1]
  have fin := (pc_count _ _ _ _ _ _ _ hx a1 a2 a3 a4 a5 a6).1
  rw [pk_and x6.toInt32 (m := 127) 7 (by decide), ← pcn_tb, ← fin]
  have e7 : x6.toInt32.toBitVec.toNat = x6.toBitVec.toNat % 2 ^ 32 := by
    have : x6.toInt32.toBitVec = x6.toBitVec.signExtend 32 := rfl
    rw [this, BitVec.signExtend_eq_setWidth_of_le _ (by decide), BitVec.toNat_setWidth]
  rw [e7]
  exact congrArg (fun z => some (nI z)) (by omega)
