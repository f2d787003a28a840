def b_Fo_dropAll_0 (σ : gS) : Option (Int32 × gS) :=
  bnd (gI σ 1 0) fun x1_1 =>
  bnd (sI σ 1 0 0) fun σ_2 =>
  bnd (sI σ_2 1 1 0) fun σ_3 =>
  bnd (sI σ_3 1 2 ((gI σ_3 1 2) + 1)) fun σ_4 =>
  some (x1_1, σ_4)
def f_Fo_dropAll (σ : gS) : Option (Int32 × gS) := b_Fo_dropAll_0 σ
def b_Ga_clear_0 (σ : gS) : Option (Int32 × gS) :=
  (f_Fo_dropAll σ).bind fun r_1 =>
  some (r_1.1, r_1.2)
def f_Ga_clear (σ : gS) : Option (Int32 × gS) := b_Ga_clear_0 σ
def b_Ga_isPlayer_0 (x0 : Int32) : Option Int32 :=
  if x0 = 0 then (
    ck (isB 1) <| some 1
  ) else (
    if x0 = 1 then (
      ck (isB 1) <| some 1
    ) else (
      ck (isB 0) <| some 0
    )
  )
def f_Ga_isPlayer (x0 : Int32) : Option Int32 := b_Ga_isPlayer_0 x0
def b_Ga_isAmong_0 (x0 : Int32) (x1 : Int32) (x2 : Int32) : Option Int32 :=
  if x0 < x1 then (
    ck (isB 0) <| some 0
  ) else (
    if x2 < x0 then (
      ck (isB 0) <| some 0
    ) else (
      ck (isB 1) <| some 1
    )
  )
def f_Ga_isAmong (x0 : Int32) (x1 : Int32) (x2 : Int32) : Option Int32 := b_Ga_isAmong_0 x0 x1 x2
def b_Fo_addSet_0 (x1 : Int32) (x2 : Int32) (σ : gS) : Option (Int32 × gS) :=
  if (gI σ 1 1) < 10 then (
    ck (okI 13 (gI σ 1 1)) <|
    bnd (sI σ 13 (gI σ 1 1).toNatClampNeg x1) fun σ_3 =>
    ck (okI 5 (gI σ_3 1 1)) <|
    bnd (sI σ_3 5 (gI σ_3 1 1).toNatClampNeg x2) fun σ_5 =>
    ck (okJ 14 (gI σ_5 1 1)) <|
    bnd (sL σ_5 14 (gI σ_5 1 1).toNatClampNeg 0) fun σ_7 =>
    bnd (sI σ_7 1 1 ((gI σ_7 1 1) + 1)) fun σ_8 =>
    some (gI σ_7 1 1, σ_8)
  ) else (
    some ((-3), σ)
  )
def f_Fo_addSet (σ : gS) (x1 : Int32) (x2 : Int32) : Option (Int32 × gS) := b_Fo_addSet_0 x1 x2 σ
def b_Ga_set_0 (x1 : Int32) (x2 : Int32) (σ : gS) : Option (Int32 × gS) :=
  (f_Ga_isPlayer x1).bind fun r_1 =>
  if r_1 = 0 then (
    some ((-2), σ)
  ) else (
    (f_Ga_isAmong x2 2 3).bind fun r_3 =>
    if r_3 = 0 then (
      some ((-2), σ)
    ) else (
      (f_Fo_addSet σ x1 x2).bind fun r_5 =>
      some (r_5.1, r_5.2)
    )
  )
def f_Ga_set (σ : gS) (x1 : Int32) (x2 : Int32) : Option (Int32 × gS) := b_Ga_set_0 x1 x2 σ
def b_Fo_startNode_62 (k62 : Int32 × Int32 × gS → Option (Int32 × gS)) (x3 : Int32) (x4 : Int32) (σ : gS) : Option (Int32 × gS) :=
  if 3 ≤ x4 then (
    bnd (sI σ 1 0 ((gI σ 1 0) + 1)) fun σ_2 =>
    bnd (sI σ_2 1 2 ((gI σ_2 1 2) + 1)) fun σ_3 =>
    some (x3, σ_3)
  ) else (
    ck (okI 7 ((3 * x3) + x4)) <|
    bnd (sI σ 7 ((3 * x3) + x4).toNatClampNeg (-1)) fun σ_5 =>
    bnd (x4 + 1) fun x4_6 =>
    k62 (x3, x4_6, σ_5)
  )
def l_Fo_startNode_62  : Int32 × Int32 × gS → Option (Int32 × gS) := lpF (fun k x => b_Fo_startNode_62 k x.1 x.2.1 x.2.2) gF
def b_Fo_startNode_59 (x3 : Int32) (σ : gS) : Option (Int32 × gS) :=
  l_Fo_startNode_62 (x3, 0, σ)
def b_Fo_startNode_0 (x1 : Int32) (x2 : Int32) (σ : gS) : Option (Int32 × gS) :=
  bnd (gI σ 1 0) fun x3_1 =>
  ck (okI 2 x3_1) <|
  bnd (sI σ 2 x3_1.toNatClampNeg x1) fun σ_3 =>
  ck (okI 3 x3_1) <|
  bnd (sI σ_3 3 x3_1.toNatClampNeg x2) fun σ_5 =>
  ck (okI 8 x3_1) <|
  bnd (sI σ_5 8 x3_1.toNatClampNeg 0) fun σ_7 =>
  ck (okI 4 x3_1) <|
  bnd (sI σ_7 4 x3_1.toNatClampNeg (-1)) fun σ_9 =>
  ck (okJ 11 x3_1) <|
  bnd (sL σ_9 11 x3_1.toNatClampNeg ((1 : Int64) <<< (x3_1.toInt64 &&& 63))) fun σ_11 =>
  if x2 = (-1) then (
    b_Fo_startNode_59 x3_1 σ_11
  ) else (
    ck (okJ 14 x2) <|
    ck (okJ 14 x2) <|
    bnd (sL σ_11 14 x2.toNatClampNeg ((gL σ_11 14 x2.toNatClampNeg) ||| ((1 : Int64) <<< (x3_1.toInt64 &&& 63)))) fun σ_15 =>
    b_Fo_startNode_59 x3_1 σ_15
  )
def f_Fo_startNode (σ : gS) (x1 : Int32) (x2 : Int32) : Option (Int32 × gS) := b_Fo_startNode_0 x1 x2 σ
def b_Fo_addEnd_0 (x1 : Int32) (x2 : Int32) (σ : gS) : Option (Int32 × gS) :=
  if (gI σ 1 0) < 40 then (
    (f_Fo_startNode σ 0 (-1)).bind fun r_2 =>
    bnd (r_2.1) fun x3_3 =>
    ck (okI 6 (2 * x3_3)) <|
    bnd (sI r_2.2 6 (2 * x3_3).toNatClampNeg x1) fun σ_5 =>
    ck (okI 6 ((2 * x3_3) + 1)) <|
    bnd (sI σ_5 6 ((2 * x3_3) + 1).toNatClampNeg x2) fun σ_7 =>
    ck (okI 9 x3_3) <|
    bnd (sI σ_7 9 x3_3.toNatClampNeg 0) fun σ_9 =>
    ck (okI 10 x3_3) <|
    bnd (sI σ_9 10 x3_3.toNatClampNeg 0) fun σ_11 =>
    ck (okI 12 x3_3) <|
    bnd (sI σ_11 12 x3_3.toNatClampNeg 0) fun σ_13 =>
    some (x3_3, σ_13)
  ) else (
    some ((-3), σ)
  )
def f_Fo_addEnd (σ : gS) (x1 : Int32) (x2 : Int32) : Option (Int32 × gS) := b_Fo_addEnd_0 x1 x2 σ
def b_Ga_end_0 (x1 : Int32) (x2 : Int32) (σ : gS) : Option (Int32 × gS) :=
  (f_Ga_isAmong x1 (-100) 100).bind fun r_1 =>
  if r_1 = 0 then (
    some ((-2), σ)
  ) else (
    (f_Ga_isAmong x2 (-100) 100).bind fun r_3 =>
    if r_3 = 0 then (
      some ((-2), σ)
    ) else (
      (f_Fo_addEnd σ x1 x2).bind fun r_5 =>
      some (r_5.1, r_5.2)
    )
  )
def f_Ga_end (σ : gS) (x1 : Int32) (x2 : Int32) : Option (Int32 × gS) := b_Ga_end_0 x1 x2 σ
def b_Fo_offer_0 (x1 : Int32) (x2 : Int32) (x3 : Int32) (σ : gS) : Option gS :=
  ck (okI 15 0) <|
  bnd (sI σ 15 (0 : Int32).toNatClampNeg x1) fun σ_2 =>
  ck (okI 15 1) <|
  bnd (sI σ_2 15 (1 : Int32).toNatClampNeg x2) fun σ_4 =>
  ck (okI 15 2) <|
  bnd (sI σ_4 15 (2 : Int32).toNatClampNeg x3) fun σ_6 =>
  some σ_6
def f_Fo_offer (σ : gS) (x1 : Int32) (x2 : Int32) (x3 : Int32) : Option gS := b_Fo_offer_0 x1 x2 x3 σ
def b_Fo_hasNode_0 (σ : gS) (x1 : Int32) : Option Int32 :=
  if x1 < 0 then (
    ck (isB 0) <| some 0
  ) else (
    if (gI σ 1 0) ≤ x1 then (
      ck (isB 0) <| some 0
    ) else (
      ck (isB 1) <| some 1
    )
  )
def f_Fo_hasNode (σ : gS) (x1 : Int32) : Option Int32 := b_Fo_hasNode_0 σ x1
def b_Fo_areOfferedThere_2 (σ : gS) (k2 : Int32 × Int32 → Option Int32) (x1 : Int32) (x2 : Int32) : Option Int32 :=
  if x1 ≤ x2 then (
    ck (isB 1) <| some 1
  ) else (
    ck (okI 15 x2) <|
    (f_Fo_hasNode σ (gI σ 15 x2.toNatClampNeg)).bind fun r_3 =>
    if r_3 = 0 then (
      ck (isB 0) <| some 0
    ) else (
      bnd (x2 + 1) fun x2_5 =>
      k2 (x1, x2_5)
    )
  )
def l_Fo_areOfferedThere_2 (σ : gS) : Int32 × Int32 → Option Int32 := lpF (fun k x => b_Fo_areOfferedThere_2 σ k x.1 x.2) gF
def b_Fo_areOfferedThere_0 (σ : gS) (x1 : Int32) : Option Int32 :=
  l_Fo_areOfferedThere_2 σ (x1, 0)
def f_Fo_areOfferedThere (σ : gS) (x1 : Int32) : Option Int32 := b_Fo_areOfferedThere_0 σ x1
def b_Fo_isOfferedTaken_26 (σ : gS) (k2 : Int32 × Int32 → Option Int32) (k26 : Int32 × Int32 × Int32 → Option Int32) (x1 : Int32) (x2 : Int32) (x3 : Int32) : Option Int32 :=
  if x2 ≤ x3 then (
    bnd (x2 + 1) fun x2_2 =>
    k2 (x1, x2_2)
  ) else (
    ck (okI 15 x2) <|
    ck (okI 15 x3) <|
    if (gI σ 15 x2.toNatClampNeg) = (gI σ 15 x3.toNatClampNeg) then (
      ck (isB 1) <| some 1
    ) else (
      bnd (x3 + 1) fun x3_6 =>
      k26 (x1, x2, x3_6)
    )
  )
def l_Fo_isOfferedTaken_26 (σ : gS) (k2 : Int32 × Int32 → Option Int32) : Int32 × Int32 × Int32 → Option Int32 := lpF (fun k x => b_Fo_isOfferedTaken_26 σ k2 k x.1 x.2.1 x.2.2) gF
def b_Fo_isOfferedTaken_2 (σ : gS) (k2 : Int32 × Int32 → Option Int32) (x1 : Int32) (x2 : Int32) : Option Int32 :=
  if x1 ≤ x2 then (
    ck (isB 0) <| some 0
  ) else (
    ck (okI 15 x2) <|
    ck (okI 4 (gI σ 15 x2.toNatClampNeg)) <|
    if (gI σ 4 (gI σ 15 x2.toNatClampNeg).toNatClampNeg) = (-1) then (
      l_Fo_isOfferedTaken_26 σ k2 (x1, x2, 0)
    ) else (
      ck (isB 1) <| some 1
    )
  )
def l_Fo_isOfferedTaken_2 (σ : gS) : Int32 × Int32 → Option Int32 := lpF (fun k x => b_Fo_isOfferedTaken_2 σ k x.1 x.2) gF
def b_Fo_isOfferedTaken_0 (σ : gS) (x1 : Int32) : Option Int32 :=
  l_Fo_isOfferedTaken_2 σ (x1, 0)
def f_Fo_isOfferedTaken (σ : gS) (x1 : Int32) : Option Int32 := b_Fo_isOfferedTaken_0 σ x1
def b_Ma_max_0 (x0 : Int32) (x1 : Int32) : Option Int32 :=
  if x0 < x1 then (
    some x1
  ) else (
    some x0
  )
def f_Ma_max (x0 : Int32) (x1 : Int32) : Option Int32 := b_Ma_max_0 x0 x1
def b_Fo_greatestOffered_5 (σ : gS) (k5 : Nat × Int32 × Int32 × Int32 → Option Int32) (x1 : Nat) (x2 : Int32) (x3 : Int32) (x4 : Int32) : Option Int32 :=
  if x2 ≤ x4 then (
    some x3
  ) else (
    ck (okI 15 x4) <|
    ck (okI x1 (gI σ 15 x4.toNatClampNeg)) <|
    (f_Ma_max x3 (gI σ x1 (gI σ 15 x4.toNatClampNeg).toNatClampNeg)).bind fun r_4 =>
    bnd (x4 + 1) fun x4_5 =>
    k5 (x1, x2, r_4, x4_5)
  )
def l_Fo_greatestOffered_5 (σ : gS) : Nat × Int32 × Int32 × Int32 → Option Int32 := lpF (fun k x => b_Fo_greatestOffered_5 σ k x.1 x.2.1 x.2.2.1 x.2.2.2) gF
def b_Fo_greatestOffered_0 (σ : gS) (x1 : Nat) (x2 : Int32) : Option Int32 :=
  l_Fo_greatestOffered_5 σ (x1, x2, 0, 0)
def f_Fo_greatestOffered (σ : gS) (x1 : Nat) (x2 : Int32) : Option Int32 := b_Fo_greatestOffered_0 σ x1 x2
def b_Fo_setsOffered_4 (σ : gS) (k4 : Int32 × Int32 × Int32 → Option Int32) (x1 : Int32) (x2 : Int32) (x3 : Int32) : Option Int32 :=
  if x1 ≤ x3 then (
    some x2
  ) else (
    ck (okI 15 x3) <|
    ck (okI 12 (gI σ 15 x3.toNatClampNeg)) <|
    bnd (x2 ||| (gI σ 12 (gI σ 15 x3.toNatClampNeg).toNatClampNeg)) fun x2_4 =>
    bnd (x3 + 1) fun x3_5 =>
    k4 (x1, x2_4, x3_5)
  )
def l_Fo_setsOffered_4 (σ : gS) : Int32 × Int32 × Int32 → Option Int32 := lpF (fun k x => b_Fo_setsOffered_4 σ k x.1 x.2.1 x.2.2) gF
def b_Fo_setsOffered_0 (σ : gS) (x1 : Int32) : Option Int32 :=
  l_Fo_setsOffered_4 σ (x1, 0, 0)
def f_Fo_setsOffered (σ : gS) (x1 : Int32) : Option Int32 := b_Fo_setsOffered_0 σ x1
def b_Ga_hasBit_0 (x0 : Int64) (x2 : Int32) : Option Int32 :=
  if (lg_cmp (((x0.toUInt64 >>> (x2.toInt64.toUInt64 &&& Int64.toUInt64 63)).toInt64) &&& 1) 0) = 0 then (
    ck (isB 0) <| some 0
  ) else (
    ck (isB 1) <| some 1
  )
def f_Ga_hasBit (x0 : Int64) (x2 : Int32) : Option Int32 := b_Ga_hasBit_0 x0 x2
def b_Fo_plansWith_45 (σ : gS) (k5 : Int32 × Int32 × Int32 × Int32 → Option Int32) (x1 : Int32) (x2 : Int32) (x3 : Int32) (x4 : Int32) : Option Int32 :=
  bnd (x4 + 1) fun x4_1 =>
  k5 (x1, x2, x3, x4_1)
def b_Fo_plansWith_5 (σ : gS) (k5 : Int32 × Int32 × Int32 × Int32 → Option Int32) (x1 : Int32) (x2 : Int32) (x3 : Int32) (x4 : Int32) : Option Int32 :=
  if (gI σ 1 1) ≤ x4 then (
    some x3
  ) else (
    ck (okI 13 x4) <|
    if (gI σ 13 x4.toNatClampNeg) = x1 then (
      (f_Ga_hasBit x2.toInt64 x4).bind fun r_4 =>
      if r_4 = 0 then (
        b_Fo_plansWith_45 σ k5 x1 x2 x3 x4
      ) else (
        ck (okI 5 x4) <|
        bnd (x3 * (gI σ 5 x4.toNatClampNeg)) fun x3_7 =>
        b_Fo_plansWith_45 σ k5 x1 x2 x3_7 x4
      )
    ) else (
      b_Fo_plansWith_45 σ k5 x1 x2 x3 x4
    )
  )
def l_Fo_plansWith_5 (σ : gS) : Int32 × Int32 × Int32 × Int32 → Option Int32 := lpF (fun k x => b_Fo_plansWith_5 σ k x.1 x.2.1 x.2.2.1 x.2.2.2) gF
def b_Fo_plansWith_0 (σ : gS) (x1 : Int32) (x2 : Int32) : Option Int32 :=
  l_Fo_plansWith_5 σ (x1, x2, 1, 0)
def f_Fo_plansWith (σ : gS) (x1 : Int32) (x2 : Int32) : Option Int32 := b_Fo_plansWith_0 σ x1 x2
def b_Fo_adoptOffered_9 (k9 : Int32 × Int32 × Int32 × gS → Option gS) (x1 : Int32) (x2 : Int32) (x3 : Int32) (σ : gS) : Option gS :=
  if x2 ≤ x3 then (
    some σ
  ) else (
    ck (okI 15 x3) <|
    ck (okI 7 ((3 * x1) + x3)) <|
    bnd (sI σ 7 ((3 * x1) + x3).toNatClampNeg (gI σ 15 x3.toNatClampNeg)) fun σ_4 =>
    ck (okI 15 x3) <|
    ck (okI 4 (gI σ_4 15 x3.toNatClampNeg)) <|
    bnd (sI σ_4 4 (gI σ_4 15 x3.toNatClampNeg).toNatClampNeg x1) fun σ_7 =>
    ck (okJ 11 x1) <|
    ck (okI 15 x3) <|
    ck (okJ 11 (gI σ_7 15 x3.toNatClampNeg)) <|
    ck (okJ 11 x1) <|
    bnd (sL σ_7 11 x1.toNatClampNeg ((gL σ_7 11 x1.toNatClampNeg) ||| (gL σ_7 11 (gI σ_7 15 x3.toNatClampNeg).toNatClampNeg))) fun σ_12 =>
    bnd (x3 + 1) fun x3_13 =>
    k9 (x1, x2, x3_13, σ_12)
  )
def l_Fo_adoptOffered_9  : Int32 × Int32 × Int32 × gS → Option gS := lpF (fun k x => b_Fo_adoptOffered_9 k x.1 x.2.1 x.2.2.1 x.2.2.2) gF
def b_Fo_adoptOffered_0 (x1 : Int32) (x2 : Int32) (σ : gS) : Option gS :=
  ck (okI 8 x1) <|
  bnd (sI σ 8 x1.toNatClampNeg x2) fun σ_2 =>
  l_Fo_adoptOffered_9 (x1, x2, 0, σ_2)
def f_Fo_adoptOffered (σ : gS) (x1 : Int32) (x2 : Int32) : Option gS := b_Fo_adoptOffered_0 x1 x2 σ
def b_Fo_addParent_141 (x1 : Int32) (x2 : Int32) (x3 : Int32) (x4 : Int32) (x5 : Int32) (y1 : Int32) (σ : gS) : Option (Int32 × gS) :=
  (f_Fo_startNode σ y1 x1).bind fun r_1 =>
  bnd (r_1.1) fun x6_2 =>
  ck (okI 9 x6_2) <|
  bnd (sI r_1.2 9 x6_2.toNatClampNeg x3) fun σ_4 =>
  ck (okI 10 x6_2) <|
  bnd (sI σ_4 10 x6_2.toNatClampNeg x4) fun σ_6 =>
  ck (okI 12 x6_2) <|
  bnd (sI σ_6 12 x6_2.toNatClampNeg x5) fun σ_8 =>
  (f_Fo_adoptOffered σ_8 x6_2 x2).bind fun r_9 =>
  some (x6_2, r_9)
def b_Fo_addParent_100 (x1 : Int32) (x2 : Int32) (x3 : Int32) (x4 : Int32) (y0 : Int32) (y1 : Int32) (σ : gS) : Option (Int32 × gS) :=
  bnd (y0 ||| y1) fun x5_1 =>
  (f_Fo_plansWith σ 0 x5_1).bind fun r_2 =>
  if 64 < r_2 then (
    some ((-6), σ)
  ) else (
    (f_Fo_plansWith σ 1 x5_1).bind fun r_4 =>
    if r_4 ≤ 64 then (
      if x1 = (-1) then (
        b_Fo_addParent_141 x1 x2 x3 x4 x5_1 1 σ
      ) else (
        b_Fo_addParent_141 x1 x2 x3 x4 x5_1 2 σ
      )
    ) else (
      some ((-6), σ)
    )
  )
def b_Fo_addParent_65 (x1 : Int32) (x2 : Int32) (x3 : Int32) (y0 : Int32) (y1 : Int32) (σ : gS) : Option (Int32 × gS) :=
  bnd (y0 + y1) fun x4_1 =>
  if 8 < x3 then (
    some ((-5), σ)
  ) else (
    if x4_1 ≤ 5 then (
      (f_Fo_setsOffered σ x2).bind fun r_4 =>
      if x1 = (-1) then (
        b_Fo_addParent_100 x1 x2 x3 x4_1 r_4 0 σ
      ) else (
        b_Fo_addParent_100 x1 x2 x3 x4_1 r_4 (1 <<< (x1 &&& 31)) σ
      )
    ) else (
      some ((-5), σ)
    )
  )
def b_Fo_addParent_0 (x1 : Int32) (x2 : Int32) (σ : gS) : Option (Int32 × gS) :=
  (f_Fo_areOfferedThere σ x2).bind fun r_1 =>
  if r_1 = 0 then (
    some ((-2), σ)
  ) else (
    if (gI σ 1 0) < 40 then (
      (f_Fo_isOfferedTaken σ x2).bind fun r_4 =>
      if r_4 = 0 then (
        (f_Fo_greatestOffered σ 9 x2).bind fun r_6 =>
        bnd (1 + r_6) fun x3_7 =>
        (f_Fo_greatestOffered σ 10 x2).bind fun r_8 =>
        if x1 = (-1) then (
          b_Fo_addParent_65 x1 x2 x3_7 r_8 1 σ
        ) else (
          b_Fo_addParent_65 x1 x2 x3_7 r_8 0 σ
        )
      ) else (
        some ((-4), σ)
      )
    ) else (
      some ((-3), σ)
    )
  )
def f_Fo_addParent (σ : gS) (x1 : Int32) (x2 : Int32) : Option (Int32 × gS) := b_Fo_addParent_0 x1 x2 σ
def b_Ga_chance_19 (x1 : Int32) (x2 : Int32) (x3 : Int32) (y0 : Int32) (σ : gS) : Option (Int32 × gS) :=
  (f_Fo_offer σ x1 x2 x3).bind fun r_1 =>
  (f_Fo_addParent r_1 (-1) y0).bind fun r_2 =>
  some (r_2.1, r_2.2)
def b_Ga_chance_0 (x1 : Int32) (x2 : Int32) (x3 : Int32) (σ : gS) : Option (Int32 × gS) :=
  if x3 = (-1) then (
    if x2 = (-1) then (
      b_Ga_chance_19 x1 x2 x3 1 σ
    ) else (
      b_Ga_chance_19 x1 x2 x3 2 σ
    )
  ) else (
    b_Ga_chance_19 x1 x2 x3 3 σ
  )
def f_Ga_chance (σ : gS) (x1 : Int32) (x2 : Int32) (x3 : Int32) : Option (Int32 × gS) := b_Ga_chance_0 x1 x2 x3 σ
def b_Fo_hasSet_0 (σ : gS) (x1 : Int32) : Option Int32 :=
  if x1 < 0 then (
    ck (isB 0) <| some 0
  ) else (
    if (gI σ 1 1) ≤ x1 then (
      ck (isB 0) <| some 0
    ) else (
      ck (isB 1) <| some 1
    )
  )
def f_Fo_hasSet (σ : gS) (x1 : Int32) : Option Int32 := b_Fo_hasSet_0 σ x1
def b_Ga_node_0 (x1 : Int32) (x2 : Int32) (x3 : Int32) (x4 : Int32) (σ : gS) : Option (Int32 × gS) :=
  (f_Fo_hasSet σ x1).bind fun r_1 =>
  if r_1 = 0 then (
    some ((-2), σ)
  ) else (
    (f_Fo_offer σ x2 x3 x4).bind fun r_3 =>
    ck (okI 5 x1) <|
    (f_Fo_addParent r_3 x1 (gI r_3 5 x1.toNatClampNeg)).bind fun r_5 =>
    some (r_5.1, r_5.2)
  )
def f_Ga_node (σ : gS) (x1 : Int32) (x2 : Int32) (x3 : Int32) (x4 : Int32) : Option (Int32 × gS) := b_Ga_node_0 x1 x2 x3 x4 σ
def b_Ga_isEmpty_0 (σ : gS) : Option Int32 :=
  if (gI σ 1 0) = 0 then (
    ck (isB 1) <| some 1
  ) else (
    ck (isB 0) <| some 0
  )
def f_Ga_isEmpty (σ : gS) : Option Int32 := b_Ga_isEmpty_0 σ
def b_Fo_root_0 (σ : gS) : Option Int32 :=
  some ((gI σ 1 0) - 1)
def f_Fo_root (σ : gS) : Option Int32 := b_Fo_root_0 σ
def b_Fo_nodesInTree_0 (σ : gS) : Option Int64 :=
  if (gI σ 1 0) = 0 then (
    some 0
  ) else (
    (f_Fo_root σ).bind fun r_2 =>
    ck (okJ 11 r_2) <|
    some (gL σ 11 r_2.toNatClampNeg)
  )
def f_Fo_nodesInTree (σ : gS) : Option Int64 := b_Fo_nodesInTree_0 σ
def b_Lo_bitCount_0 (x0 : Int64) : Option Int32 :=
  bnd (x0 - (((x0.toUInt64 >>> ((1 : Int32).toInt64.toUInt64 &&& Int64.toUInt64 63)).toInt64) &&& 6148914691236517205)) fun x0_1 =>
  bnd ((x0_1 &&& 3689348814741910323) + (((x0_1.toUInt64 >>> ((2 : Int32).toInt64.toUInt64 &&& Int64.toUInt64 63)).toInt64) &&& 3689348814741910323)) fun x0_2 =>
  bnd ((x0_2 + ((x0_2.toUInt64 >>> ((4 : Int32).toInt64.toUInt64 &&& Int64.toUInt64 63)).toInt64)) &&& 1085102592571150095) fun x0_3 =>
  bnd (x0_3 + ((x0_3.toUInt64 >>> ((8 : Int32).toInt64.toUInt64 &&& Int64.toUInt64 63)).toInt64)) fun x0_4 =>
  bnd (x0_4 + ((x0_4.toUInt64 >>> ((16 : Int32).toInt64.toUInt64 &&& Int64.toUInt64 63)).toInt64)) fun x0_5 =>
  bnd (x0_5 + ((x0_5.toUInt64 >>> ((32 : Int32).toInt64.toUInt64 &&& Int64.toUInt64 63)).toInt64)) fun x0_6 =>
  some (x0_6.toInt32 &&& 127)
def f_Lo_bitCount (x0 : Int64) : Option Int32 := b_Lo_bitCount_0 x0
def b_Fo_setsInTree_0 (σ : gS) : Option Int32 :=
  if (gI σ 1 0) = 0 then (
    some 0
  ) else (
    (f_Fo_root σ).bind fun r_2 =>
    ck (okI 12 r_2) <|
    some (gI σ 12 r_2.toNatClampNeg)
  )
def f_Fo_setsInTree (σ : gS) : Option Int32 := b_Fo_setsInTree_0 σ
def b_Fo_plansOf_0 (σ : gS) (x1 : Int32) : Option Int32 :=
  (f_Fo_setsInTree σ).bind fun r_1 =>
  (f_Fo_plansWith σ x1 r_1).bind fun r_2 =>
  some r_2
def f_Fo_plansOf (σ : gS) (x1 : Int32) : Option Int32 := b_Fo_plansOf_0 σ x1
def b_Po_placeOf_0 (x0 : Int32) : Option Int32 :=
  if x0 = 0 then (
    some 0
  ) else (
    some 1
  )
def f_Po_placeOf (x0 : Int32) : Option Int32 := b_Po_placeOf_0 x0
def b_Ga_firstBits_0 (x0 : Int32) : Option Int64 :=
  some ((((-1) : Int64).toUInt64 >>> ((64 - x0).toInt64.toUInt64 &&& Int64.toUInt64 63)).toInt64)
def f_Ga_firstBits (x0 : Int32) : Option Int64 := b_Ga_firstBits_0 x0
def b_Ar_fillJ_6 (k6 : Nat × Int64 × Int32 × Int32 × gS → Option gS) (x0 : Nat) (x1 : Int64) (x3 : Int32) (x4 : Int32) (σ : gS) : Option gS :=
  if x4 ≤ x3 then (
    some σ
  ) else (
    ck (okJ x0 x3) <|
    bnd (sL σ x0 x3.toNatClampNeg x1) fun σ_3 =>
    bnd (x3 + 1) fun x3_4 =>
    k6 (x0, x1, x3_4, x4, σ_3)
  )
def l_Ar_fillJ_6  : Nat × Int64 × Int32 × Int32 × gS → Option gS := lpF (fun k x => b_Ar_fillJ_6 k x.1 x.2.1 x.2.2.1 x.2.2.2.1 x.2.2.2.2) gF
def b_Ar_fillJ_0 (x0 : Nat) (x1 : Int64) (σ : gS) : Option gS :=
  ck (oaJ x0) <|
  bnd (Int32.ofNat (kLen x0)) fun x4_2 =>
  l_Ar_fillJ_6 (x0, x1, 0, x4_2, σ)
def f_Ar_fillJ (σ : gS) (x0 : Nat) (x1 : Int64) : Option gS := b_Ar_fillJ_0 x0 x1 σ
def b_Fo_isGameWithin_84 (σ : gS) (k44 : Int32 × Int64 × Int32 → Option Int32) (x1 : Int32) (x2 : Int64) (x4 : Int32) : Option Int32 :=
  bnd (x4 + 1) fun x4_1 =>
  k44 (x1, x2, x4_1)
def b_Fo_isGameWithin_44 (σ : gS) (k44 : Int32 × Int64 × Int32 → Option Int32) (x1 : Int32) (x2 : Int64) (x4 : Int32) : Option Int32 :=
  if (gI σ 1 1) ≤ x4 then (
    ck (isB 1) <| some 1
  ) else (
    ck (okI 12 x1) <|
    (f_Ga_hasBit ((gI σ 12 x1.toNatClampNeg).toInt64) x4).bind fun r_3 =>
    if r_3 = 0 then (
      b_Fo_isGameWithin_84 σ k44 x1 x2 x4
    ) else (
      ck (okJ 14 x4) <|
      if (lg_cmp ((gL σ 14 x4.toNatClampNeg) &&& x2) 0) = 0 then (
        b_Fo_isGameWithin_84 σ k44 x1 x2 x4
      ) else (
        ck (isB 0) <| some 0
      )
    )
  )
def l_Fo_isGameWithin_44 (σ : gS) : Int32 × Int64 × Int32 → Option Int32 := lpF (fun k x => b_Fo_isGameWithin_44 σ k x.1 x.2.1 x.2.2) gF
def b_Fo_isGameWithin_0 (σ : gS) (x1 : Int32) : Option Int32 :=
  ck (okI 3 x1) <|
  ck (okJ 14 (gI σ 3 x1.toNatClampNeg)) <|
  (f_Fo_nodesInTree σ).bind fun r_3 =>
  if (lg_cmp ((gL σ 14 (gI σ 3 x1.toNatClampNeg).toNatClampNeg) &&& r_3) ((1 : Int64) <<< (x1.toInt64 &&& 63))) = 0 then (
    (f_Fo_nodesInTree σ).bind fun r_5 =>
    ck (okJ 11 x1) <|
    bnd (r_5 &&& ((gL σ 11 x1.toNatClampNeg) ^^^ (-1))) fun x2_7 =>
    l_Fo_isGameWithin_44 σ (x1, x2_7, 0)
  ) else (
    ck (isB 0) <| some 0
  )
def f_Fo_isGameWithin (σ : gS) (x1 : Int32) : Option Int32 := b_Fo_isGameWithin_0 σ x1
def b_Fo_gamesWithin_63 (σ : gS) (k20 : Int64 × Int32 → Option Int64) (x1 : Int64) (x3 : Int32) : Option Int64 :=
  bnd (x3 + 1) fun x3_1 =>
  k20 (x1, x3_1)
def b_Fo_gamesWithin_20 (σ : gS) (k20 : Int64 × Int32 → Option Int64) (x1 : Int64) (x3 : Int32) : Option Int64 :=
  (f_Fo_root σ).bind fun r_1 =>
  if r_1 ≤ x3 then (
    some x1
  ) else (
    (f_Fo_nodesInTree σ).bind fun r_3 =>
    (f_Ga_hasBit r_3 x3).bind fun r_4 =>
    if r_4 = 0 then (
      b_Fo_gamesWithin_63 σ k20 x1 x3
    ) else (
      ck (okI 2 x3) <|
      if (gI σ 2 x3.toNatClampNeg) = 2 then (
        (f_Fo_isGameWithin σ x3).bind fun r_8 =>
        if r_8 = 0 then (
          b_Fo_gamesWithin_63 σ k20 x1 x3
        ) else (
          bnd (x1 ||| ((1 : Int64) <<< (x3.toInt64 &&& 63))) fun x1_10 =>
          b_Fo_gamesWithin_63 σ k20 x1_10 x3
        )
      ) else (
        b_Fo_gamesWithin_63 σ k20 x1 x3
      )
    )
  )
def l_Fo_gamesWithin_20 (σ : gS) : Int64 × Int32 → Option Int64 := lpF (fun k x => b_Fo_gamesWithin_20 σ k x.1 x.2) gF
def b_Fo_gamesWithin_17 (σ : gS) (y0 : Int64) : Option Int64 :=
  l_Fo_gamesWithin_20 σ (y0, 0)
def b_Fo_gamesWithin_0 (σ : gS) : Option Int64 :=
  if (gI σ 1 0) = 0 then (
    b_Fo_gamesWithin_17 σ 0
  ) else (
    (f_Fo_root σ).bind fun r_2 =>
    b_Fo_gamesWithin_17 σ ((1 : Int64) <<< (r_2.toInt64 &&& 63))
  )
def f_Fo_gamesWithin (σ : gS) : Option Int64 := b_Fo_gamesWithin_0 σ
def b_Fo_plansFrom_0 (σ : gS) (x1 : Int32) (x2 : Int32) : Option Int32 :=
  ck (okI 12 x1) <|
  (f_Fo_plansWith σ x2 (gI σ 12 x1.toNatClampNeg)).bind fun r_2 =>
  some r_2
def f_Fo_plansFrom (σ : gS) (x1 : Int32) (x2 : Int32) : Option Int32 := b_Fo_plansFrom_0 σ x1 x2
def b_Ar_fillI_5 (k5 : Nat × Int32 × Int32 × Int32 × gS → Option gS) (x0 : Nat) (x1 : Int32) (x2 : Int32) (x3 : Int32) (σ : gS) : Option gS :=
  if x3 ≤ x2 then (
    some σ
  ) else (
    ck (okI x0 x2) <|
    bnd (sI σ x0 x2.toNatClampNeg x1) fun σ_3 =>
    bnd (x2 + 1) fun x2_4 =>
    k5 (x0, x1, x2_4, x3, σ_3)
  )
def l_Ar_fillI_5  : Nat × Int32 × Int32 × Int32 × gS → Option gS := lpF (fun k x => b_Ar_fillI_5 k x.1 x.2.1 x.2.2.1 x.2.2.2.1 x.2.2.2.2) gF
def b_Ar_fillI_0 (x0 : Nat) (x1 : Int32) (σ : gS) : Option gS :=
  ck (oaI x0) <|
  bnd (Int32.ofNat (kLen x0)) fun x3_2 =>
  l_Ar_fillI_5 (x0, x1, 0, x3_2, σ)
def f_Ar_fillI (σ : gS) (x0 : Nat) (x1 : Int32) : Option gS := b_Ar_fillI_0 x0 x1 σ
def b_Fo_worthAt_0 (σ : gS) (x1 : Int32) (x2 : Int32) : Option Int32 :=
  ck (okI 6 ((2 * x1) + x2)) <|
  some (gI σ 6 ((2 * x1) + x2).toNatClampNeg)
def f_Fo_worthAt (σ : gS) (x1 : Int32) (x2 : Int32) : Option Int32 := b_Fo_worthAt_0 σ x1 x2
def b_Fo_childAt_0 (σ : gS) (x1 : Int32) (x2 : Int32) : Option Int32 :=
  ck (okI 7 ((3 * x1) + x2)) <|
  some (gI σ 7 ((3 * x1) + x2).toNatClampNeg)
def f_Fo_childAt (σ : gS) (x1 : Int32) (x2 : Int32) : Option Int32 := b_Fo_childAt_0 σ x1 x2
def b_Ta_shareAmongAll_13 (k13 : Int32 × Int32 × Int32 × Int32 × gS → Option gS) (x1 : Int32) (x2 : Int32) (x3 : Int32) (x4 : Int32) (σ : gS) : Option gS :=
  if x3 ≤ x4 then (
    some σ
  ) else (
    (f_Fo_childAt σ x1 x4).bind fun r_2 =>
    ck (nz x3) <|
    ck (okI 22 r_2) <|
    bnd (sI σ 22 r_2.toNatClampNeg (x2 / x3)) fun σ_5 =>
    bnd (x4 + 1) fun x4_6 =>
    k13 (x1, x2, x3, x4_6, σ_5)
  )
def l_Ta_shareAmongAll_13  : Int32 × Int32 × Int32 × Int32 × gS → Option gS := lpF (fun k x => b_Ta_shareAmongAll_13 k x.1 x.2.1 x.2.2.1 x.2.2.2.1 x.2.2.2.2) gF
def b_Ta_shareAmongAll_0 (x1 : Int32) (x2 : Int32) (σ : gS) : Option gS :=
  ck (okI 8 x1) <|
  bnd (gI σ 8 x1.toNatClampNeg) fun x3_2 =>
  l_Ta_shareAmongAll_13 (x1, x2, x3_2, 0, σ)
def f_Ta_shareAmongAll (σ : gS) (x1 : Int32) (x2 : Int32) : Option gS := b_Ta_shareAmongAll_0 x1 x2 σ
def b_Ta_weighPair_150 (k17 : Int32 × Int32 × Int32 × Int32 × gS → Option gS) (x2 : Int32) (x3 : Int32) (x4 : Int32) (x5 : Int32) (σ : gS) : Option gS :=
  bnd (x5 + (-1)) fun x5_1 =>
  k17 (x2, x3, x4, x5_1, σ)
def b_Ta_weighPair_17 (k17 : Int32 × Int32 × Int32 × Int32 × gS → Option gS) (x2 : Int32) (x3 : Int32) (x4 : Int32) (x5 : Int32) (σ : gS) : Option gS :=
  if x5 < 0 then (
    ck (inb 0 2) <|
    ck (okI 19 x2) <|
    bnd (sI σ 19 x2.toNatClampNeg x3) fun σ_4 =>
    ck (inb 1 2) <|
    ck (okI 20 x2) <|
    bnd (sI σ_4 20 x2.toNatClampNeg x4) fun σ_7 =>
    some σ_7
  ) else (
    ck (okI 22 x5) <|
    bnd (gI σ 22 x5.toNatClampNeg) fun x6_9 =>
    if x6_9 = 0 then (
      b_Ta_weighPair_150 k17 x2 x3 x4 x5 σ
    ) else (
      ck (okI 22 x5) <|
      bnd (sI σ 22 x5.toNatClampNeg 0) fun σ_12 =>
      ck (okI 2 x5) <|
      if (gI σ_12 2 x5.toNatClampNeg) = 0 then (
        (f_Fo_worthAt σ_12 x5 0).bind fun r_23 =>
        bnd (x3 + (x6_9 * r_23)) fun x3_24 =>
        (f_Fo_worthAt σ_12 x5 1).bind fun r_25 =>
        bnd (x4 + (x6_9 * r_25)) fun x4_26 =>
        b_Ta_weighPair_150 k17 x2 x3_24 x4_26 x5 σ_12
      ) else (
        ck (okI 2 x5) <|
        if (gI σ_12 2 x5.toNatClampNeg) = 1 then (
          (f_Ta_shareAmongAll σ_12 x5 x6_9).bind fun r_22 =>
          b_Ta_weighPair_150 k17 x2 x3 x4 x5 r_22
        ) else (
          ck (okI 3 x5) <|
          ck (okI 21 (gI σ_12 3 x5.toNatClampNeg)) <|
          (f_Fo_childAt σ_12 x5 (gI σ_12 21 (gI σ_12 3 x5.toNatClampNeg).toNatClampNeg)).bind fun r_19 =>
          ck (okI 22 r_19) <|
          bnd (sI σ_12 22 r_19.toNatClampNeg x6_9) fun σ_21 =>
          b_Ta_weighPair_150 k17 x2 x3 x4 x5 σ_21
        )
      )
    )
  )
def l_Ta_weighPair_17  : Int32 × Int32 × Int32 × Int32 × gS → Option gS := lpF (fun k x => b_Ta_weighPair_17 k x.1 x.2.1 x.2.2.1 x.2.2.2.1 x.2.2.2.2) gF
def b_Ta_weighPair_0 (x1 : Int32) (x2 : Int32) (σ : gS) : Option gS :=
  ck (okI 22 x1) <|
  bnd (sI σ 22 x1.toNatClampNeg 7776) fun σ_2 =>
  l_Ta_weighPair_17 (x2, 0, 0, x1, σ_2)
def f_Ta_weighPair (σ : gS) (x1 : Int32) (x2 : Int32) : Option gS := b_Ta_weighPair_0 x1 x2 σ
def b_Fo_isPlayedFrom_0 (σ : gS) (x1 : Int32) (x2 : Int32) (x3 : Int32) : Option Int32 :=
  ck (okI 13 x3) <|
  if (gI σ 13 x3.toNatClampNeg) = x2 then (
    ck (okI 12 x1) <|
    (f_Ga_hasBit ((gI σ 12 x1.toNatClampNeg).toInt64) x3).bind fun r_4 =>
    if r_4 = 0 then (
      ck (isB 0) <| some 0
    ) else (
      ck (isB 1) <| some 1
    )
  ) else (
    ck (isB 0) <| some 0
  )
def f_Fo_isPlayedFrom (σ : gS) (x1 : Int32) (x2 : Int32) (x3 : Int32) : Option Int32 := b_Fo_isPlayedFrom_0 σ x1 x2 x3
def b_Fo_stepPlan_52 (k8 : Int32 × Int32 × Nat × Int32 × gS → Option gS) (x1 : Int32) (x2 : Int32) (x3 : Nat) (x4 : Int32) (σ : gS) : Option gS :=
  bnd (x4 + (-1)) fun x4_1 =>
  k8 (x1, x2, x3, x4_1, σ)
def b_Fo_stepPlan_8 (k8 : Int32 × Int32 × Nat × Int32 × gS → Option gS) (x1 : Int32) (x2 : Int32) (x3 : Nat) (x4 : Int32) (σ : gS) : Option gS :=
  if x4 < 0 then (
    some σ
  ) else (
    (f_Fo_isPlayedFrom σ x1 x2 x4).bind fun r_2 =>
    if r_2 = 0 then (
      b_Fo_stepPlan_52 k8 x1 x2 x3 x4 σ
    ) else (
      ck (okI x3 x4) <|
      ck (okI x3 x4) <|
      bnd (sI σ x3 x4.toNatClampNeg ((gI σ x3 x4.toNatClampNeg) + 1)) fun σ_6 =>
      ck (okI x3 x4) <|
      ck (okI 5 x4) <|
      if (gI σ_6 5 x4.toNatClampNeg) ≤ (gI σ_6 x3 x4.toNatClampNeg) then (
        ck (okI x3 x4) <|
        bnd (sI σ_6 x3 x4.toNatClampNeg 0) fun σ_11 =>
        b_Fo_stepPlan_52 k8 x1 x2 x3 x4 σ_11
      ) else (
        some σ_6
      )
    )
  )
def l_Fo_stepPlan_8  : Int32 × Int32 × Nat × Int32 × gS → Option gS := lpF (fun k x => b_Fo_stepPlan_8 k x.1 x.2.1 x.2.2.1 x.2.2.2.1 x.2.2.2.2) gF
def b_Fo_stepPlan_0 (x1 : Int32) (x2 : Int32) (x3 : Nat) (σ : gS) : Option gS :=
  bnd ((gI σ 1 1) - 1) fun x4_1 =>
  l_Fo_stepPlan_8 (x1, x2, x3, x4_1, σ)
def f_Fo_stepPlan (σ : gS) (x1 : Int32) (x2 : Int32) (x3 : Nat) : Option gS := b_Fo_stepPlan_0 x1 x2 x3 σ
def b_Ta_fillFrom_91 (k79 : Int32 × Int32 × gS → Option gS) (k91 : Int32 × Int32 × Int32 × gS → Option gS) (x1 : Int32) (x2 : Int32) (x3 : Int32) (σ : gS) : Option gS :=
  ck (okI 17 1) <|
  if (gI σ 17 (1 : Int32).toNatClampNeg) ≤ x3 then (
    (f_Fo_stepPlan σ x1 0 21).bind fun r_3 =>
    bnd (x2 + 1) fun x2_4 =>
    k79 (x1, x2_4, r_3)
  ) else (
    (f_Ta_weighPair σ x1 ((64 * x2) + x3)).bind fun r_5 =>
    (f_Fo_stepPlan r_5 x1 1 21).bind fun r_6 =>
    bnd (x3 + 1) fun x3_7 =>
    k91 (x1, x2, x3_7, r_6)
  )
def l_Ta_fillFrom_91 (k79 : Int32 × Int32 × gS → Option gS) : Int32 × Int32 × Int32 × gS → Option gS := lpF (fun k x => b_Ta_fillFrom_91 k79 k x.1 x.2.1 x.2.2.1 x.2.2.2) gF
def b_Ta_fillFrom_79 (k79 : Int32 × Int32 × gS → Option gS) (x1 : Int32) (x2 : Int32) (σ : gS) : Option gS :=
  ck (okI 17 0) <|
  if (gI σ 17 (0 : Int32).toNatClampNeg) ≤ x2 then (
    some σ
  ) else (
    l_Ta_fillFrom_91 k79 (x1, x2, 0, σ)
  )
def l_Ta_fillFrom_79  : Int32 × Int32 × gS → Option gS := lpF (fun k x => b_Ta_fillFrom_79 k x.1 x.2.1 x.2.2) gF
def b_Ta_fillFrom_23 (x1 : Int32) (σ : gS) : Option gS :=
  bnd (sI σ 16 5 (gI σ 1 2)) fun σ_1 =>
  bnd (sI σ_1 16 6 x1) fun σ_2 =>
  (f_Fo_plansFrom σ_2 x1 0).bind fun r_3 =>
  ck (okI 17 0) <|
  bnd (sI σ_2 17 (0 : Int32).toNatClampNeg r_3) fun σ_5 =>
  (f_Fo_plansFrom σ_5 x1 1).bind fun r_6 =>
  ck (okI 17 1) <|
  bnd (sI σ_5 17 (1 : Int32).toNatClampNeg r_6) fun σ_8 =>
  (f_Ar_fillI σ_8 21 0).bind fun r_9 =>
  l_Ta_fillFrom_79 (x1, 0, r_9)
def b_Ta_fillFrom_0 (x1 : Int32) (σ : gS) : Option gS :=
  if (gI σ 16 5) = (gI σ 1 2) then (
    if (gI σ 16 6) = x1 then (
      some σ
    ) else (
      b_Ta_fillFrom_23 x1 σ
    )
  ) else (
    b_Ta_fillFrom_23 x1 σ
  )
def f_Ta_fillFrom (σ : gS) (x1 : Int32) : Option gS := b_Ta_fillFrom_0 x1 σ
def b_Fo_planFrom_103 (σ : gS) (k17 : Int32 × Int32 × Int32 × Int32 × Int32 × Int32 → Option Int32) (x1 : Int32) (x2 : Int32) (x4 : Int32) (x5 : Int32) (x6 : Int32) (x7 : Int32) : Option Int32 :=
  bnd (x7 + (-1)) fun x7_1 =>
  k17 (x1, x2, x4, x5, x6, x7_1)
def b_Fo_planFrom_91 (σ : gS) (k17 : Int32 × Int32 × Int32 × Int32 × Int32 × Int32 → Option Int32) (x1 : Int32) (x2 : Int32) (x4 : Int32) (x5 : Int32) (x6 : Int32) (x7 : Int32) : Option Int32 :=
  ck (okI 5 x7) <|
  ck (nz (gI σ 5 x7.toNatClampNeg)) <|
  bnd (x4 / (gI σ 5 x7.toNatClampNeg)) fun x4_3 =>
  b_Fo_planFrom_103 σ k17 x1 x2 x4_3 x5 x6 x7
def b_Fo_planFrom_17 (σ : gS) (k17 : Int32 × Int32 × Int32 × Int32 × Int32 × Int32 → Option Int32) (x1 : Int32) (x2 : Int32) (x4 : Int32) (x5 : Int32) (x6 : Int32) (x7 : Int32) : Option Int32 :=
  if x7 < 0 then (
    some x5
  ) else (
    (f_Fo_root σ).bind fun r_2 =>
    (f_Fo_isPlayedFrom σ r_2 x2 x7).bind fun r_3 =>
    if r_3 = 0 then (
      b_Fo_planFrom_103 σ k17 x1 x2 x4 x5 x6 x7
    ) else (
      ck (okI 5 x7) <|
      if (gI σ 5 x7.toNatClampNeg) ≤ 0 then (
        b_Fo_planFrom_103 σ k17 x1 x2 x4 x5 x6 x7
      ) else (
        ck (okI 12 x1) <|
        (f_Ga_hasBit ((gI σ 12 x1.toNatClampNeg).toInt64) x7).bind fun r_8 =>
        if r_8 = 0 then (
          b_Fo_planFrom_91 σ k17 x1 x2 x4 x5 x6 x7
        ) else (
          ck (okI 5 x7) <|
          ck (nz (gI σ 5 x7.toNatClampNeg)) <|
          bnd (x5 + ((x4 - x4 / (gI σ 5 x7.toNatClampNeg) * (gI σ 5 x7.toNatClampNeg)) * x6)) fun x5_12 =>
          ck (okI 5 x7) <|
          bnd (x6 * (gI σ 5 x7.toNatClampNeg)) fun x6_14 =>
          b_Fo_planFrom_91 σ k17 x1 x2 x4 x5_12 x6_14 x7
        )
      )
    )
  )
def l_Fo_planFrom_17 (σ : gS) : Int32 × Int32 × Int32 × Int32 × Int32 × Int32 → Option Int32 := lpF (fun k x => b_Fo_planFrom_17 σ k x.1 x.2.1 x.2.2.1 x.2.2.2.1 x.2.2.2.2.1 x.2.2.2.2.2) gF
def b_Fo_planFrom_0 (σ : gS) (x1 : Int32) (x2 : Int32) (x3 : Int32) : Option Int32 :=
  bnd ((gI σ 1 1) - 1) fun x7_1 =>
  l_Fo_planFrom_17 σ (x1, x2, x3, 0, 1, x7_1)
def f_Fo_planFrom (σ : gS) (x1 : Int32) (x2 : Int32) (x3 : Int32) : Option Int32 := b_Fo_planFrom_0 σ x1 x2 x3
def b_Po_findInner_12 (k12 : Int32 × Int32 × Int32 × Int32 × gS → Option (Int32 × gS)) (x1 : Int32) (x2 : Int32) (x3 : Int32) (x4 : Int32) (σ : gS) : Option (Int32 × gS) :=
  if x3 ≤ x4 then (
    some (x3, σ)
  ) else (
    ck (inb x1 2) <|
    (f_Fo_planFrom σ x2 x1 x4).bind fun r_3 =>
    ck (okI (31 + 1 + x1.toNatClampNeg) x4) <|
    bnd (sI σ (31 + 1 + x1.toNatClampNeg) x4.toNatClampNeg r_3) fun σ_5 =>
    bnd (x4 + 1) fun x4_6 =>
    k12 (x1, x2, x3, x4_6, σ_5)
  )
def l_Po_findInner_12  : Int32 × Int32 × Int32 × Int32 × gS → Option (Int32 × gS) := lpF (fun k x => b_Po_findInner_12 k x.1 x.2.1 x.2.2.1 x.2.2.2.1 x.2.2.2.2) gF
def b_Po_findInner_0 (x1 : Int32) (x2 : Int32) (σ : gS) : Option (Int32 × gS) :=
  (f_Fo_plansOf σ x1).bind fun r_1 =>
  l_Po_findInner_12 (x1, x2, r_1, 0, σ)
def f_Po_findInner (σ : gS) (x1 : Int32) (x2 : Int32) : Option (Int32 × gS) := b_Po_findInner_0 x1 x2 σ
def b_Ga_otherThan_0 (x0 : Int32) : Option Int32 :=
  some (1 - x0)
def f_Ga_otherThan (x0 : Int32) : Option Int32 := b_Ga_otherThan_0 x0
def b_Ta_value_0 (σ : gS) (x1 : Int32) (x2 : Int32) (x3 : Int32) : Option Int32 :=
  if x1 = 0 then (
    ck (inb 0 2) <|
    ck (okI 19 ((64 * x2) + x3)) <|
    some (gI σ 19 ((64 * x2) + x3).toNatClampNeg)
  ) else (
    ck (inb 1 2) <|
    ck (okI 20 ((64 * x3) + x2)) <|
    some (gI σ 20 ((64 * x3) + x2).toNatClampNeg)
  )
def f_Ta_value (σ : gS) (x1 : Int32) (x2 : Int32) (x3 : Int32) : Option Int32 := b_Ta_value_0 σ x1 x2 x3
def b_Ta_bestAgainst_37 (σ : gS) (k5 : Int32 × Int32 × Int32 × Int32 → Option Int32) (x1 : Int32) (x2 : Int32) (x3 : Int32) (x4 : Int32) : Option Int32 :=
  bnd (x4 + 1) fun x4_1 =>
  k5 (x1, x2, x3, x4_1)
def b_Ta_bestAgainst_5 (σ : gS) (k5 : Int32 × Int32 × Int32 × Int32 → Option Int32) (x1 : Int32) (x2 : Int32) (x3 : Int32) (x4 : Int32) : Option Int32 :=
  ck (okI 17 x1) <|
  if (gI σ 17 x1.toNatClampNeg) ≤ x4 then (
    some x3
  ) else (
    (f_Ta_value σ x1 x4 x2).bind fun r_3 =>
    (f_Ta_value σ x1 x3 x2).bind fun r_4 =>
    if r_3 ≤ r_4 then (
      b_Ta_bestAgainst_37 σ k5 x1 x2 x3 x4
    ) else (
      b_Ta_bestAgainst_37 σ k5 x1 x2 x4 x4
    )
  )
def l_Ta_bestAgainst_5 (σ : gS) : Int32 × Int32 × Int32 × Int32 → Option Int32 := lpF (fun k x => b_Ta_bestAgainst_5 σ k x.1 x.2.1 x.2.2.1 x.2.2.2) gF
def b_Ta_bestAgainst_0 (σ : gS) (x1 : Int32) (x2 : Int32) : Option Int32 :=
  l_Ta_bestAgainst_5 σ (x1, x2, 0, 1)
def f_Ta_bestAgainst (σ : gS) (x1 : Int32) (x2 : Int32) : Option Int32 := b_Ta_bestAgainst_0 σ x1 x2
def b_Po_findBest_2 (k2 : Int32 × Int32 × gS → Option gS) (x1 : Int32) (x2 : Int32) (σ : gS) : Option gS :=
  (f_Ga_otherThan x1).bind fun r_1 =>
  ck (okI 17 r_1) <|
  if (gI σ 17 r_1.toNatClampNeg) ≤ x2 then (
    some σ
  ) else (
    ck (inb x1 2) <|
    (f_Ta_bestAgainst σ x1 x2).bind fun r_5 =>
    (f_Ta_value σ x1 r_5 x2).bind fun r_6 =>
    ck (okI (28 + 1 + x1.toNatClampNeg) x2) <|
    bnd (sI σ (28 + 1 + x1.toNatClampNeg) x2.toNatClampNeg r_6) fun σ_8 =>
    bnd (x2 + 1) fun x2_9 =>
    k2 (x1, x2_9, σ_8)
  )
def l_Po_findBest_2  : Int32 × Int32 × gS → Option gS := lpF (fun k x => b_Po_findBest_2 k x.1 x.2.1 x.2.2) gF
def b_Po_findBest_0 (x1 : Int32) (σ : gS) : Option gS :=
  l_Po_findBest_2 (x1, 0, σ)
def f_Po_findBest (σ : gS) (x1 : Int32) : Option gS := b_Po_findBest_0 x1 σ
def b_Po_isPoint_0 (σ : gS) (x1 : Int32) (x2 : Int32) : Option Int32 :=
  (f_Ta_value σ 0 x1 x2).bind fun r_1 =>
  ck (inb 0 2) <|
  ck (okI 29 x2) <|
  if r_1 = (gI σ 29 x2.toNatClampNeg) then (
    (f_Ta_value σ 1 x2 x1).bind fun r_5 =>
    ck (inb 1 2) <|
    ck (okI 30 x1) <|
    if r_5 = (gI σ 30 x1.toNatClampNeg) then (
      ck (isB 1) <| some 1
    ) else (
      ck (isB 0) <| some 0
    )
  ) else (
    ck (isB 0) <| some 0
  )
def f_Po_isPoint (σ : gS) (x1 : Int32) (x2 : Int32) : Option Int32 := b_Po_isPoint_0 σ x1 x2
def b_Po_keepPoints_104 (k36 : Nat × Int32 × Int32 × Int32 × gS → Option gS) (k45 : Nat × Int32 × Int32 × Int32 × Int32 × gS → Option gS) (x2 : Nat) (x3 : Int32) (x4 : Int32) (x5 : Int32) (x6 : Int32) (σ : gS) : Option gS :=
  bnd (x6 + 1) fun x6_1 =>
  k45 (x2, x3, x4, x5, x6_1, σ)
def b_Po_keepPoints_45 (k36 : Nat × Int32 × Int32 × Int32 × gS → Option gS) (k45 : Nat × Int32 × Int32 × Int32 × Int32 × gS → Option gS) (x2 : Nat) (x3 : Int32) (x4 : Int32) (x5 : Int32) (x6 : Int32) (σ : gS) : Option gS :=
  if x4 ≤ x6 then (
    bnd (x5 + 1) fun x5_2 =>
    k36 (x2, x3, x4, x5_2, σ)
  ) else (
    ck (okJ x2 x5) <|
    (f_Ga_hasBit (gL σ x2 x5.toNatClampNeg) x6).bind fun r_4 =>
    if r_4 = 0 then (
      b_Po_keepPoints_104 k36 k45 x2 x3 x4 x5 x6 σ
    ) else (
      ck (inb 0 2) <|
      ck (okI 32 x5) <|
      ck (inb 1 2) <|
      ck (okI 33 x6) <|
      (f_Po_isPoint σ (gI σ 32 x5.toNatClampNeg) (gI σ 33 x6.toNatClampNeg)).bind fun r_10 =>
      if r_10 = 0 then (
        ck (okJ x2 x5) <|
        ck (okJ x2 x5) <|
        bnd (sL σ x2 x5.toNatClampNeg ((gL σ x2 x5.toNatClampNeg) &&& (((1 : Int64) <<< (x6.toInt64 &&& 63)) ^^^ (-1)))) fun σ_14 =>
        b_Po_keepPoints_104 k36 k45 x2 x3 x4 x5 x6 σ_14
      ) else (
        b_Po_keepPoints_104 k36 k45 x2 x3 x4 x5 x6 σ
      )
    )
  )
def l_Po_keepPoints_45 (k36 : Nat × Int32 × Int32 × Int32 × gS → Option gS) : Nat × Int32 × Int32 × Int32 × Int32 × gS → Option gS := lpF (fun k x => b_Po_keepPoints_45 k36 k x.1 x.2.1 x.2.2.1 x.2.2.2.1 x.2.2.2.2.1 x.2.2.2.2.2) gF
def b_Po_keepPoints_36 (k36 : Nat × Int32 × Int32 × Int32 × gS → Option gS) (x2 : Nat) (x3 : Int32) (x4 : Int32) (x5 : Int32) (σ : gS) : Option gS :=
  if x3 ≤ x5 then (
    some σ
  ) else (
    l_Po_keepPoints_45 k36 (x2, x3, x4, x5, 0, σ)
  )
def l_Po_keepPoints_36  : Nat × Int32 × Int32 × Int32 × gS → Option gS := lpF (fun k x => b_Po_keepPoints_36 k x.1 x.2.1 x.2.2.1 x.2.2.2.1 x.2.2.2.2) gF
def b_Po_keepPoints_0 (x1 : Int32) (x2 : Nat) (σ : gS) : Option gS :=
  (f_Ta_fillFrom σ x1).bind fun r_1 =>
  (f_Po_findInner r_1 0 x1).bind fun r_2 =>
  bnd (r_2.1) fun x3_3 =>
  (f_Po_findInner r_2.2 1 x1).bind fun r_4 =>
  bnd (r_4.1) fun x4_5 =>
  (f_Po_findBest r_4.2 0).bind fun r_6 =>
  (f_Po_findBest r_6 1).bind fun r_7 =>
  l_Po_keepPoints_36 (x2, x3_3, x4_5, 0, r_7)
def f_Po_keepPoints (σ : gS) (x1 : Int32) (x2 : Nat) : Option gS := b_Po_keepPoints_0 x1 x2 σ
def b_Po_find_115 (k82 : Int32 × Int64 × Int32 × gS → Option gS) (x2 : Int32) (x3 : Int64) (x5 : Int32) (σ : gS) : Option gS :=
  bnd (x5 + 1) fun x5_1 =>
  k82 (x2, x3, x5_1, σ)
def b_Po_find_82 (k82 : Int32 × Int64 × Int32 × gS → Option gS) (x2 : Int32) (x3 : Int64) (x5 : Int32) (σ : gS) : Option gS :=
  if (gI σ 1 0) ≤ x5 then (
    some σ
  ) else (
    (f_Ga_hasBit x3 x5).bind fun r_2 =>
    if r_2 = 0 then (
      b_Po_find_115 k82 x2 x3 x5 σ
    ) else (
      ck (inb x2 2) <|
      (f_Po_keepPoints σ x5 (24 + 1 + x2.toNatClampNeg)).bind fun r_5 =>
      b_Po_find_115 k82 x2 x3 x5 r_5
    )
  )
def l_Po_find_82  : Int32 × Int64 × Int32 × gS → Option gS := lpF (fun k x => b_Po_find_82 k x.1 x.2.1 x.2.2.1 x.2.2.2) gF
def b_Po_find_78 (x2 : Int32) (y0 : Int64) (σ : gS) : Option gS :=
  l_Po_find_82 (x2, y0, 0, σ)
def b_Po_find_0 (x1 : Int32) (σ : gS) : Option gS :=
  (f_Po_placeOf x1).bind fun r_1 =>
  ck (okI 27 r_1) <|
  if (gI σ 27 r_1.toNatClampNeg) = (gI σ 1 2) then (
    some σ
  ) else (
    ck (okI 27 r_1) <|
    bnd (sI σ 27 r_1.toNatClampNeg (gI σ 1 2)) fun σ_5 =>
    ck (inb r_1 2) <|
    (f_Fo_plansOf σ_5 1).bind fun r_7 =>
    (f_Ga_firstBits r_7).bind fun r_8 =>
    (f_Ar_fillJ σ_5 (24 + 1 + r_1.toNatClampNeg) r_8).bind fun r_9 =>
    if x1 = 0 then (
      (f_Fo_root r_9).bind fun r_11 =>
      b_Po_find_78 r_1 ((1 : Int64) <<< (r_11.toInt64 &&& 63)) r_9
    ) else (
      (f_Fo_gamesWithin r_9).bind fun r_12 =>
      b_Po_find_78 r_1 r_12 r_9
    )
  )
def f_Po_find (σ : gS) (x1 : Int32) : Option gS := b_Po_find_0 x1 σ
def b_Po_howMany_25 (σ : gS) (k25 : Nat × Int32 × Int32 × Int32 → Option Int32) (x2 : Nat) (x3 : Int32) (x4 : Int32) (x5 : Int32) : Option Int32 :=
  if x3 ≤ x5 then (
    some x4
  ) else (
    ck (okJ x2 x5) <|
    (f_Lo_bitCount (gL σ x2 x5.toNatClampNeg)).bind fun r_3 =>
    bnd (x4 + r_3) fun x4_4 =>
    bnd (x5 + 1) fun x5_5 =>
    k25 (x2, x3, x4_4, x5_5)
  )
def l_Po_howMany_25 (σ : gS) : Nat × Int32 × Int32 × Int32 → Option Int32 := lpF (fun k x => b_Po_howMany_25 σ k x.1 x.2.1 x.2.2.1 x.2.2.2) gF
def b_Po_howMany_0 (σ : gS) (x1 : Int32) : Option Int32 :=
  (f_Po_placeOf x1).bind fun r_1 =>
  ck (inb r_1 2) <|
  (f_Fo_plansOf σ 0).bind fun r_3 =>
  l_Po_howMany_25 σ ((24 + 1 + r_1.toNatClampNeg), r_3, 0, 0)
def f_Po_howMany (σ : gS) (x1 : Int32) : Option Int32 := b_Po_howMany_0 σ x1
def b_Ta_fillWhole_0 (σ : gS) : Option gS :=
  (f_Fo_root σ).bind fun r_1 =>
  (f_Ta_fillFrom σ r_1).bind fun r_2 =>
  some r_2
def f_Ta_fillWhole (σ : gS) : Option gS := b_Ta_fillWhole_0 σ
def b_Ta_isWorse_48 (σ : gS) (k3 : Int32 × Int32 × Int32 × Int64 × Int32 → Option Int32) (x1 : Int32) (x2 : Int32) (x3 : Int32) (x4 : Int64) (x6 : Int32) : Option Int32 :=
  bnd (x6 + 1) fun x6_1 =>
  k3 (x1, x2, x3, x4, x6_1)
def b_Ta_isWorse_3 (σ : gS) (k3 : Int32 × Int32 × Int32 × Int64 × Int32 → Option Int32) (x1 : Int32) (x2 : Int32) (x3 : Int32) (x4 : Int64) (x6 : Int32) : Option Int32 :=
  (f_Ga_otherThan x1).bind fun r_1 =>
  ck (okI 17 r_1) <|
  if (gI σ 17 r_1.toNatClampNeg) ≤ x6 then (
    ck (isB 1) <| some 1
  ) else (
    (f_Ga_hasBit x4 x6).bind fun r_4 =>
    if r_4 = 0 then (
      b_Ta_isWorse_48 σ k3 x1 x2 x3 x4 x6
    ) else (
      (f_Ta_value σ x1 x2 x6).bind fun r_6 =>
      (f_Ta_value σ x1 x3 x6).bind fun r_7 =>
      if r_6 < r_7 then (
        b_Ta_isWorse_48 σ k3 x1 x2 x3 x4 x6
      ) else (
        ck (isB 0) <| some 0
      )
    )
  )
def l_Ta_isWorse_3 (σ : gS) : Int32 × Int32 × Int32 × Int64 × Int32 → Option Int32 := lpF (fun k x => b_Ta_isWorse_3 σ k x.1 x.2.1 x.2.2.1 x.2.2.2.1 x.2.2.2.2) gF
def b_Ta_isWorse_0 (σ : gS) (x1 : Int32) (x2 : Int32) (x3 : Int32) (x4 : Int64) : Option Int32 :=
  l_Ta_isWorse_3 σ (x1, x2, x3, x4, 0)
def f_Ta_isWorse (σ : gS) (x1 : Int32) (x2 : Int32) (x3 : Int32) (x4 : Int64) : Option Int32 := b_Ta_isWorse_0 σ x1 x2 x3 x4
def b_Ta_leastBetterAmong_39 (σ : gS) (k3 : Int32 × Int32 × Int64 × Int64 × Int32 → Option Int32) (x1 : Int32) (x2 : Int32) (x3 : Int64) (x5 : Int64) (x7 : Int32) : Option Int32 :=
  bnd (x7 + 1) fun x7_1 =>
  k3 (x1, x2, x3, x5, x7_1)
def b_Ta_leastBetterAmong_3 (σ : gS) (k3 : Int32 × Int32 × Int64 × Int64 × Int32 → Option Int32) (x1 : Int32) (x2 : Int32) (x3 : Int64) (x5 : Int64) (x7 : Int32) : Option Int32 :=
  ck (okI 17 x1) <|
  if (gI σ 17 x1.toNatClampNeg) ≤ x7 then (
    some (-1)
  ) else (
    (f_Ga_hasBit x3 x7).bind fun r_3 =>
    if r_3 = 0 then (
      b_Ta_leastBetterAmong_39 σ k3 x1 x2 x3 x5 x7
    ) else (
      (f_Ta_isWorse σ x1 x2 x7 x5).bind fun r_5 =>
      if r_5 = 0 then (
        b_Ta_leastBetterAmong_39 σ k3 x1 x2 x3 x5 x7
      ) else (
        some x7
      )
    )
  )
def l_Ta_leastBetterAmong_3 (σ : gS) : Int32 × Int32 × Int64 × Int64 × Int32 → Option Int32 := lpF (fun k x => b_Ta_leastBetterAmong_3 σ k x.1 x.2.1 x.2.2.1 x.2.2.2.1 x.2.2.2.2) gF
def b_Ta_leastBetterAmong_0 (σ : gS) (x1 : Int32) (x2 : Int32) (x3 : Int64) (x5 : Int64) : Option Int32 :=
  l_Ta_leastBetterAmong_3 σ (x1, x2, x3, x5, 0)
def f_Ta_leastBetterAmong (σ : gS) (x1 : Int32) (x2 : Int32) (x3 : Int64) (x5 : Int64) : Option Int32 := b_Ta_leastBetterAmong_0 σ x1 x2 x3 x5
def b_Le_thoseThatGo_69 (σ : gS) (k5 : Int32 × Int64 × Int32 → Option Int64) (x1 : Int32) (x2 : Int64) (x4 : Int32) : Option Int64 :=
  bnd (x4 + 1) fun x4_1 =>
  k5 (x1, x2, x4_1)
def b_Le_thoseThatGo_5 (σ : gS) (k5 : Int32 × Int64 × Int32 → Option Int64) (x1 : Int32) (x2 : Int64) (x4 : Int32) : Option Int64 :=
  ck (okI 17 x1) <|
  if (gI σ 17 x1.toNatClampNeg) ≤ x4 then (
    some x2
  ) else (
    ck (okJ 38 x1) <|
    (f_Ga_hasBit (gL σ 38 x1.toNatClampNeg) x4).bind fun r_4 =>
    if r_4 = 0 then (
      b_Le_thoseThatGo_69 σ k5 x1 x2 x4
    ) else (
      ck (okJ 38 x1) <|
      (f_Ga_otherThan x1).bind fun r_7 =>
      ck (okJ 38 r_7) <|
      (f_Ta_leastBetterAmong σ x1 x4 (gL σ 38 x1.toNatClampNeg) (gL σ 38 r_7.toNatClampNeg)).bind fun r_9 =>
      if r_9 = (-1) then (
        b_Le_thoseThatGo_69 σ k5 x1 x2 x4
      ) else (
        bnd (x2 ||| ((1 : Int64) <<< (x4.toInt64 &&& 63))) fun x2_11 =>
        b_Le_thoseThatGo_69 σ k5 x1 x2_11 x4
      )
    )
  )
def l_Le_thoseThatGo_5 (σ : gS) : Int32 × Int64 × Int32 → Option Int64 := lpF (fun k x => b_Le_thoseThatGo_5 σ k x.1 x.2.1 x.2.2) gF
def b_Le_thoseThatGo_0 (σ : gS) (x1 : Int32) : Option Int64 :=
  l_Le_thoseThatGo_5 σ (x1, 0, 0)
def f_Le_thoseThatGo (σ : gS) (x1 : Int32) : Option Int64 := b_Le_thoseThatGo_0 σ x1
def b_Le_takeAway_37 (k3 : Int32 × Int64 × Int32 × Int32 × gS → Option gS) (x1 : Int32) (x2 : Int64) (x4 : Int32) (x5 : Int32) (σ : gS) : Option gS :=
  bnd (x5 + 1) fun x5_1 =>
  k3 (x1, x2, x4, x5_1, σ)
def b_Le_takeAway_3 (k3 : Int32 × Int64 × Int32 × Int32 × gS → Option gS) (x1 : Int32) (x2 : Int64) (x4 : Int32) (x5 : Int32) (σ : gS) : Option gS :=
  ck (okI 17 x1) <|
  if (gI σ 17 x1.toNatClampNeg) ≤ x5 then (
    ck (okJ 38 x1) <|
    ck (okJ 38 x1) <|
    bnd (sL σ 38 x1.toNatClampNeg ((gL σ 38 x1.toNatClampNeg) &&& (x2 ^^^ (-1)))) fun σ_5 =>
    some σ_5
  ) else (
    (f_Ga_hasBit x2 x5).bind fun r_6 =>
    if r_6 = 0 then (
      b_Le_takeAway_37 k3 x1 x2 x4 x5 σ
    ) else (
      ck (inb x1 2) <|
      ck (okI (35 + 1 + x1.toNatClampNeg) x5) <|
      bnd (sI σ (35 + 1 + x1.toNatClampNeg) x5.toNatClampNeg x4) fun σ_10 =>
      b_Le_takeAway_37 k3 x1 x2 x4 x5 σ_10
    )
  )
def l_Le_takeAway_3  : Int32 × Int64 × Int32 × Int32 × gS → Option gS := lpF (fun k x => b_Le_takeAway_3 k x.1 x.2.1 x.2.2.1 x.2.2.2.1 x.2.2.2.2) gF
def b_Le_takeAway_0 (x1 : Int32) (x2 : Int64) (x4 : Int32) (σ : gS) : Option gS :=
  l_Le_takeAway_3 (x1, x2, x4, 0, σ)
def f_Le_takeAway (σ : gS) (x1 : Int32) (x2 : Int64) (x4 : Int32) : Option gS := b_Le_takeAway_0 x1 x2 x4 σ
def b_Le_playAll_105 (k69 : Int32 × gS → Option gS) (x1 : Int32) (x2 : Int64) (x4 : Int64) (σ : gS) : Option gS :=
  (f_Le_takeAway σ 0 x2 x1).bind fun r_1 =>
  (f_Le_takeAway r_1 1 x4 x1).bind fun r_2 =>
  bnd (x1 + 1) fun x1_3 =>
  k69 (x1_3, r_2)
def b_Le_playAll_69 (k69 : Int32 × gS → Option gS) (x1 : Int32) (σ : gS) : Option gS :=
  if 128 < x1 then (
    some σ
  ) else (
    (f_Le_thoseThatGo σ 0).bind fun r_2 =>
    (f_Le_thoseThatGo σ 1).bind fun r_3 =>
    if (lg_cmp r_2 0) = 0 then (
      if (lg_cmp r_3 0) = 0 then (
        some σ
      ) else (
        b_Le_playAll_105 k69 x1 r_2 r_3 σ
      )
    ) else (
      b_Le_playAll_105 k69 x1 r_2 r_3 σ
    )
  )
def l_Le_playAll_69  : Int32 × gS → Option gS := lpF (fun k x => b_Le_playAll_69 k x.1 x.2) gF
def b_Le_playAll_28 (k28 : Int32 × gS → Option gS) (x1 : Int32) (σ : gS) : Option gS :=
  if 2 ≤ x1 then (
    l_Le_playAll_69 (1, σ)
  ) else (
    ck (inb x1 2) <|
    (f_Ar_fillI σ (35 + 1 + x1.toNatClampNeg) (-1)).bind fun r_3 =>
    ck (okI 17 x1) <|
    (f_Ga_firstBits (gI r_3 17 x1.toNatClampNeg)).bind fun r_5 =>
    ck (okJ 38 x1) <|
    bnd (sL r_3 38 x1.toNatClampNeg r_5) fun σ_7 =>
    bnd (x1 + 1) fun x1_8 =>
    k28 (x1_8, σ_7)
  )
def l_Le_playAll_28  : Int32 × gS → Option gS := lpF (fun k x => b_Le_playAll_28 k x.1 x.2) gF
def b_Le_playAll_0 (σ : gS) : Option gS :=
  if (gI σ 34 4) = (gI σ 1 2) then (
    some σ
  ) else (
    bnd (sI σ 34 4 (gI σ 1 2)) fun σ_2 =>
    l_Le_playAll_28 (0, σ_2)
  )
def f_Le_playAll (σ : gS) : Option gS := b_Le_playAll_0 σ
def b_Le_pairsLeft_0 (σ : gS) : Option Int32 :=
  ck (okJ 38 0) <|
  (f_Lo_bitCount (gL σ 38 (0 : Int32).toNatClampNeg)).bind fun r_2 =>
  ck (okJ 38 1) <|
  (f_Lo_bitCount (gL σ 38 (1 : Int32).toNatClampNeg)).bind fun r_4 =>
  some (r_2 * r_4)
def f_Le_pairsLeft (σ : gS) : Option Int32 := b_Le_pairsLeft_0 σ
def b_Fo_depthOfTree_0 (σ : gS) : Option Int32 :=
  if (gI σ 1 0) = 0 then (
    some 0
  ) else (
    (f_Fo_root σ).bind fun r_2 =>
    ck (okI 9 r_2) <|
    some (gI σ 9 r_2.toNatClampNeg)
  )
def f_Fo_depthOfTree (σ : gS) : Option Int32 := b_Fo_depthOfTree_0 σ
def b_Ga_count_28 (x1 : Int32) (σ : gS) : Option (Int32 × gS) :=
  if x1 < 0 then (
    (f_Fo_depthOfTree σ).bind fun r_1 =>
    some (r_1, σ)
  ) else
  if 8 < x1 then (
    (f_Fo_depthOfTree σ).bind fun r_4 =>
    some (r_4, σ)
  ) else
  if x1 = 0 then (
    some (gI σ 1 0, σ)
  ) else
  if x1 = 1 then (
    some (gI σ 1 1, σ)
  ) else
  if x1 = 2 then (
    (f_Fo_nodesInTree σ).bind fun r_8 =>
    (f_Lo_bitCount r_8).bind fun r_9 =>
    some (r_9, σ)
  ) else
  if x1 = 3 then (
    (f_Fo_plansOf σ 0).bind fun r_11 =>
    some (r_11, σ)
  ) else
  if x1 = 4 then (
    (f_Fo_plansOf σ 1).bind fun r_13 =>
    some (r_13, σ)
  ) else
  if x1 = 5 then (
    (f_Po_find σ 0).bind fun r_15 =>
    (f_Po_howMany r_15 0).bind fun r_16 =>
    some (r_16, r_15)
  ) else
  if x1 = 6 then (
    (f_Po_find σ 1).bind fun r_18 =>
    (f_Po_howMany r_18 1).bind fun r_19 =>
    some (r_19, r_18)
  ) else
  if x1 = 7 then (
    (f_Fo_gamesWithin σ).bind fun r_21 =>
    (f_Lo_bitCount r_21).bind fun r_22 =>
    some (r_22, σ)
  ) else
  if x1 = 8 then (
    (f_Ta_fillWhole σ).bind fun r_24 =>
    (f_Le_playAll r_24).bind fun r_25 =>
    (f_Le_pairsLeft r_25).bind fun r_26 =>
    some (r_26, r_25)
  ) else
  none
def b_Ga_count_0 (x1 : Int32) (σ : gS) : Option (Int32 × gS) :=
  (f_Ga_isAmong x1 0 9).bind fun r_1 =>
  if r_1 = 0 then (
    some ((-2), σ)
  ) else (
    if x1 ≤ 2 then (
      b_Ga_count_28 x1 σ
    ) else (
      (f_Ga_isEmpty σ).bind fun r_4 =>
      if r_4 = 0 then (
        b_Ga_count_28 x1 σ
      ) else (
        some ((-1000000), σ)
      )
    )
  )
def f_Ga_count (σ : gS) (x1 : Int32) : Option (Int32 × gS) := b_Ga_count_0 x1 σ
def b_Ga_told_127 (σ : gS) (x1 : Int32) (x2 : Int32) : Option Int32 :=
  (f_Fo_childAt σ x1 (x2 - 3)).bind fun r_1 =>
  some r_1
def b_Ga_told_47 (σ : gS) (x1 : Int32) (x2 : Int32) (y0 : Int32) : Option Int32 :=
  if x2 = 0 then (
    ck (okI 2 x1) <|
    some (gI σ 2 x1.toNatClampNeg)
  ) else (
    if x2 = 1 then (
      if y0 = 0 then (
        ck (okI 3 x1) <|
        some (gI σ 3 x1.toNatClampNeg)
      ) else (
        (f_Fo_worthAt σ x1 0).bind fun r_10 =>
        some r_10
      )
    ) else (
      if x2 = 2 then (
        ck (okI 4 x1) <|
        some (gI σ 4 x1.toNatClampNeg)
      ) else (
        if x2 = 3 then (
          if y0 = 0 then (
            b_Ga_told_127 σ x1 x2
          ) else (
            (f_Fo_worthAt σ x1 1).bind fun r_6 =>
            some r_6
          )
        ) else (
          b_Ga_told_127 σ x1 x2
        )
      )
    )
  )
def b_Ga_told_0 (σ : gS) (x1 : Int32) (x2 : Int32) : Option Int32 :=
  (f_Ga_isEmpty σ).bind fun r_1 =>
  if r_1 = 0 then (
    (f_Fo_hasNode σ x1).bind fun r_3 =>
    if r_3 = 0 then (
      some (-1000000)
    ) else (
      (f_Ga_isAmong x2 0 5).bind fun r_5 =>
      if r_5 = 0 then (
        some (-1000000)
      ) else (
        ck (okI 2 x1) <|
        if (gI σ 2 x1.toNatClampNeg) = 0 then (
          b_Ga_told_47 σ x1 x2 1
        ) else (
          b_Ga_told_47 σ x1 x2 0
        )
      )
    )
  ) else (
    some (-1000000)
  )
def f_Ga_told (σ : gS) (x1 : Int32) (x2 : Int32) : Option Int32 := b_Ga_told_0 σ x1 x2
def b_Ga_isPlan_0 (σ : gS) (x1 : Int32) (x2 : Int32) : Option Int32 :=
  (f_Ga_isPlayer x1).bind fun r_1 =>
  if r_1 = 0 then (
    ck (isB 0) <| some 0
  ) else (
    if x2 < 0 then (
      ck (isB 0) <| some 0
    ) else (
      (f_Fo_plansOf σ x1).bind fun r_4 =>
      if r_4 ≤ x2 then (
        ck (isB 0) <| some 0
      ) else (
        ck (isB 1) <| some 1
      )
    )
  )
def f_Ga_isPlan (σ : gS) (x1 : Int32) (x2 : Int32) : Option Int32 := b_Ga_isPlan_0 σ x1 x2
def b_Fo_actNamed_69 (σ : gS) (k11 : Int32 × Int32 × Int32 × Int32 → Option Int32) (x1 : Int32) (x3 : Int32) (x4 : Int32) (x5 : Int32) : Option Int32 :=
  bnd (x5 + (-1)) fun x5_1 =>
  k11 (x1, x3, x4, x5_1)
def b_Fo_actNamed_11 (σ : gS) (k11 : Int32 × Int32 × Int32 × Int32 → Option Int32) (x1 : Int32) (x3 : Int32) (x4 : Int32) (x5 : Int32) : Option Int32 :=
  if x5 < 0 then (
    some (-1)
  ) else (
    (f_Fo_root σ).bind fun r_2 =>
    (f_Fo_isPlayedFrom σ r_2 x1 x5).bind fun r_3 =>
    if r_3 = 0 then (
      b_Fo_actNamed_69 σ k11 x1 x3 x4 x5
    ) else (
      ck (okI 5 x5) <|
      if (gI σ 5 x5.toNatClampNeg) ≤ 0 then (
        b_Fo_actNamed_69 σ k11 x1 x3 x4 x5
      ) else (
        if x5 = x3 then (
          ck (okI 5 x5) <|
          ck (nz (gI σ 5 x5.toNatClampNeg)) <|
          some (x4 - x4 / (gI σ 5 x5.toNatClampNeg) * (gI σ 5 x5.toNatClampNeg))
        ) else (
          ck (okI 5 x5) <|
          ck (nz (gI σ 5 x5.toNatClampNeg)) <|
          bnd (x4 / (gI σ 5 x5.toNatClampNeg)) fun x4_10 =>
          b_Fo_actNamed_69 σ k11 x1 x3 x4_10 x5
        )
      )
    )
  )
def l_Fo_actNamed_11 (σ : gS) : Int32 × Int32 × Int32 × Int32 → Option Int32 := lpF (fun k x => b_Fo_actNamed_11 σ k x.1 x.2.1 x.2.2.1 x.2.2.2) gF
def b_Fo_actNamed_0 (σ : gS) (x1 : Int32) (x2 : Int32) (x3 : Int32) : Option Int32 :=
  bnd ((gI σ 1 1) - 1) fun x5_1 =>
  l_Fo_actNamed_11 σ (x1, x3, x2, x5_1)
def f_Fo_actNamed (σ : gS) (x1 : Int32) (x2 : Int32) (x3 : Int32) : Option Int32 := b_Fo_actNamed_0 σ x1 x2 x3
def b_Ga_act_0 (σ : gS) (x1 : Int32) (x2 : Int32) (x3 : Int32) : Option Int32 :=
  (f_Ga_isEmpty σ).bind fun r_1 =>
  if r_1 = 0 then (
    (f_Ga_isPlan σ x1 x2).bind fun r_3 =>
    if r_3 = 0 then (
      some (-2)
    ) else (
      (f_Fo_hasSet σ x3).bind fun r_5 =>
      if r_5 = 0 then (
        some (-2)
      ) else (
        (f_Fo_actNamed σ x1 x2 x3).bind fun r_7 =>
        some r_7
      )
    )
  ) else (
    some (-1000000)
  )
def f_Ga_act (σ : gS) (x1 : Int32) (x2 : Int32) (x3 : Int32) : Option Int32 := b_Ga_act_0 σ x1 x2 x3
def b_Ta_valueOfPair_0 (σ : gS) (x1 : Int32) (x2 : Int32) (x3 : Int32) : Option Int32 :=
  ck (inb x1 2) <|
  ck (okI (18 + 1 + x1.toNatClampNeg) ((64 * x2) + x3)) <|
  some (gI σ (18 + 1 + x1.toNatClampNeg) ((64 * x2) + x3).toNatClampNeg)
def f_Ta_valueOfPair (σ : gS) (x1 : Int32) (x2 : Int32) (x3 : Int32) : Option Int32 := b_Ta_valueOfPair_0 σ x1 x2 x3
def b_Ga_worth_0 (x1 : Int32) (x2 : Int32) (x3 : Int32) (σ : gS) : Option (Int32 × gS) :=
  (f_Ga_isEmpty σ).bind fun r_1 =>
  if r_1 = 0 then (
    (f_Ga_isPlan σ 0 x1).bind fun r_3 =>
    if r_3 = 0 then (
      some ((-1000000), σ)
    ) else (
      (f_Ga_isPlan σ 1 x2).bind fun r_5 =>
      if r_5 = 0 then (
        some ((-1000000), σ)
      ) else (
        (f_Ga_isPlayer x3).bind fun r_7 =>
        if r_7 = 0 then (
          some ((-1000000), σ)
        ) else (
          (f_Ta_fillWhole σ).bind fun r_9 =>
          (f_Ta_valueOfPair r_9 x3 x1 x2).bind fun r_10 =>
          some (r_10, r_9)
        )
      )
    )
  ) else (
    some ((-1000000), σ)
  )
def f_Ga_worth (σ : gS) (x1 : Int32) (x2 : Int32) (x3 : Int32) : Option (Int32 × gS) := b_Ga_worth_0 x1 x2 x3 σ
def b_Ga_answer_0 (x1 : Int32) (x2 : Int32) (σ : gS) : Option (Int32 × gS) :=
  (f_Ga_isEmpty σ).bind fun r_1 =>
  if r_1 = 0 then (
    (f_Ga_isPlayer x1).bind fun r_3 =>
    if r_3 = 0 then (
      some ((-2), σ)
    ) else (
      (f_Ga_otherThan x1).bind fun r_5 =>
      (f_Ga_isPlan σ r_5 x2).bind fun r_6 =>
      if r_6 = 0 then (
        some ((-2), σ)
      ) else (
        (f_Ta_fillWhole σ).bind fun r_8 =>
        (f_Ta_bestAgainst r_8 x1 x2).bind fun r_9 =>
        some (r_9, r_8)
      )
    )
  ) else (
    some ((-1000000), σ)
  )
def f_Ga_answer (σ : gS) (x1 : Int32) (x2 : Int32) : Option (Int32 × gS) := b_Ga_answer_0 x1 x2 σ
def b_Ga_bitAt_32 (k5 : Int64 × Int32 × Int32 × Int32 → Option Int32) (x0 : Int64) (x2 : Int32) (x3 : Int32) (x4 : Int32) : Option Int32 :=
  bnd (x4 + 1) fun x4_1 =>
  k5 (x0, x2, x3, x4_1)
def b_Ga_bitAt_5 (k5 : Int64 × Int32 × Int32 × Int32 → Option Int32) (x0 : Int64) (x2 : Int32) (x3 : Int32) (x4 : Int32) : Option Int32 :=
  if 64 ≤ x4 then (
    some (-1)
  ) else (
    (f_Ga_hasBit x0 x4).bind fun r_2 =>
    if r_2 = 0 then (
      b_Ga_bitAt_32 k5 x0 x2 x3 x4
    ) else (
      if x3 = x2 then (
        some x4
      ) else (
        bnd (x3 + 1) fun x3_5 =>
        b_Ga_bitAt_32 k5 x0 x2 x3_5 x4
      )
    )
  )
def l_Ga_bitAt_5  : Int64 × Int32 × Int32 × Int32 → Option Int32 := lpF (fun k x => b_Ga_bitAt_5 k x.1 x.2.1 x.2.2.1 x.2.2.2) gF
def b_Ga_bitAt_0 (x0 : Int64) (x2 : Int32) : Option Int32 :=
  l_Ga_bitAt_5 (x0, x2, 0, 0)
def f_Ga_bitAt (x0 : Int64) (x2 : Int32) : Option Int32 := b_Ga_bitAt_0 x0 x2
def b_Po_pointAt_26 (σ : gS) (k26 : Nat × Int32 × Int32 × Int32 → Option Int32) (x3 : Nat) (x4 : Int32) (x5 : Int32) (x6 : Int32) : Option Int32 :=
  if x4 ≤ x6 then (
    some (-1)
  ) else (
    if x5 < 0 then (
      some (-1)
    ) else (
      ck (okJ x3 x6) <|
      (f_Lo_bitCount (gL σ x3 x6.toNatClampNeg)).bind fun r_4 =>
      if r_4 ≤ x5 then (
        bnd (x5 - r_4) fun x5_6 =>
        bnd (x6 + 1) fun x6_7 =>
        k26 (x3, x4, x5_6, x6_7)
      ) else (
        ck (okJ x3 x6) <|
        (f_Ga_bitAt (gL σ x3 x6.toNatClampNeg) x5).bind fun r_9 =>
        some ((64 * x6) + r_9)
      )
    )
  )
def l_Po_pointAt_26 (σ : gS) : Nat × Int32 × Int32 × Int32 → Option Int32 := lpF (fun k x => b_Po_pointAt_26 σ k x.1 x.2.1 x.2.2.1 x.2.2.2) gF
def b_Po_pointAt_0 (σ : gS) (x1 : Int32) (x2 : Int32) : Option Int32 :=
  (f_Po_placeOf x1).bind fun r_1 =>
  ck (inb r_1 2) <|
  (f_Fo_plansOf σ 0).bind fun r_3 =>
  l_Po_pointAt_26 σ ((24 + 1 + r_1.toNatClampNeg), r_3, x2, 0)
def f_Po_pointAt (σ : gS) (x1 : Int32) (x2 : Int32) : Option Int32 := b_Po_pointAt_0 σ x1 x2
def b_Ga_point_0 (x1 : Int32) (x2 : Int32) (σ : gS) : Option (Int32 × gS) :=
  (f_Ga_isEmpty σ).bind fun r_1 =>
  if r_1 = 0 then (
    (f_Po_find σ x1).bind fun r_3 =>
    (f_Po_pointAt r_3 x1 x2).bind fun r_4 =>
    some (r_4, r_3)
  ) else (
    some ((-1000000), σ)
  )
def f_Ga_point (σ : gS) (x1 : Int32) (x2 : Int32) : Option (Int32 × gS) := b_Ga_point_0 x1 x2 σ
def b_Ga_within_0 (σ : gS) (x1 : Int32) : Option Int32 :=
  (f_Ga_isEmpty σ).bind fun r_1 =>
  if r_1 = 0 then (
    (f_Fo_gamesWithin σ).bind fun r_3 =>
    (f_Ga_bitAt r_3 x1).bind fun r_4 =>
    some r_4
  ) else (
    some (-1000000)
  )
def f_Ga_within (σ : gS) (x1 : Int32) : Option Int32 := b_Ga_within_0 σ x1
def b_Ta_areOne_61 (σ : gS) (k3 : Int32 × Int32 × Int32 × Int32 → Option Int32) (x1 : Int32) (x2 : Int32) (x3 : Int32) (x4 : Int32) (x5 : Int32) (y0 : Int32) : Option Int32 :=
  ck (inb 0 2) <|
  ck (okI 19 x5) <|
  ck (inb 0 2) <|
  ck (okI 19 y0) <|
  if (gI σ 19 x5.toNatClampNeg) = (gI σ 19 y0.toNatClampNeg) then (
    ck (inb 1 2) <|
    ck (okI 20 x5) <|
    ck (inb 1 2) <|
    ck (okI 20 y0) <|
    if (gI σ 20 x5.toNatClampNeg) = (gI σ 20 y0.toNatClampNeg) then (
      bnd (x4 + 1) fun x4_11 =>
      k3 (x1, x2, x3, x4_11)
    ) else (
      ck (isB 0) <| some 0
    )
  ) else (
    ck (isB 0) <| some 0
  )
def b_Ta_areOne_38 (σ : gS) (k3 : Int32 × Int32 × Int32 × Int32 → Option Int32) (x1 : Int32) (x2 : Int32) (x3 : Int32) (x4 : Int32) (y0 : Int32) : Option Int32 :=
  if x1 = 0 then (
    b_Ta_areOne_61 σ k3 x1 x2 x3 x4 y0 ((64 * x3) + x4)
  ) else (
    b_Ta_areOne_61 σ k3 x1 x2 x3 x4 y0 ((64 * x4) + x3)
  )
def b_Ta_areOne_3 (σ : gS) (k3 : Int32 × Int32 × Int32 × Int32 → Option Int32) (x1 : Int32) (x2 : Int32) (x3 : Int32) (x4 : Int32) : Option Int32 :=
  (f_Ga_otherThan x1).bind fun r_1 =>
  ck (okI 17 r_1) <|
  if (gI σ 17 r_1.toNatClampNeg) ≤ x4 then (
    ck (isB 1) <| some 1
  ) else (
    if x1 = 0 then (
      b_Ta_areOne_38 σ k3 x1 x2 x3 x4 ((64 * x2) + x4)
    ) else (
      b_Ta_areOne_38 σ k3 x1 x2 x3 x4 ((64 * x4) + x2)
    )
  )
def l_Ta_areOne_3 (σ : gS) : Int32 × Int32 × Int32 × Int32 → Option Int32 := lpF (fun k x => b_Ta_areOne_3 σ k x.1 x.2.1 x.2.2.1 x.2.2.2) gF
def b_Ta_areOne_0 (σ : gS) (x1 : Int32) (x2 : Int32) (x3 : Int32) : Option Int32 :=
  l_Ta_areOne_3 σ (x1, x2, x3, 0)
def f_Ta_areOne (σ : gS) (x1 : Int32) (x2 : Int32) (x3 : Int32) : Option Int32 := b_Ta_areOne_0 σ x1 x2 x3
def b_Ta_leastOneWith_2 (σ : gS) (k2 : Int32 × Int32 × Int32 → Option Int32) (x1 : Int32) (x2 : Int32) (x3 : Int32) : Option Int32 :=
  if x2 ≤ x3 then (
    some x2
  ) else (
    (f_Ta_areOne σ x1 x2 x3).bind fun r_2 =>
    if r_2 = 0 then (
      bnd (x3 + 1) fun x3_4 =>
      k2 (x1, x2, x3_4)
    ) else (
      some x3
    )
  )
def l_Ta_leastOneWith_2 (σ : gS) : Int32 × Int32 × Int32 → Option Int32 := lpF (fun k x => b_Ta_leastOneWith_2 σ k x.1 x.2.1 x.2.2) gF
def b_Ta_leastOneWith_0 (σ : gS) (x1 : Int32) (x2 : Int32) : Option Int32 :=
  l_Ta_leastOneWith_2 σ (x1, x2, 0)
def f_Ta_leastOneWith (σ : gS) (x1 : Int32) (x2 : Int32) : Option Int32 := b_Ta_leastOneWith_0 σ x1 x2
def b_Ta_leastBetter_0 (σ : gS) (x1 : Int32) (x2 : Int32) : Option Int32 :=
  ck (okI 17 x1) <|
  (f_Ga_firstBits (gI σ 17 x1.toNatClampNeg)).bind fun r_2 =>
  (f_Ga_otherThan x1).bind fun r_3 =>
  ck (okI 17 r_3) <|
  (f_Ga_firstBits (gI σ 17 r_3.toNatClampNeg)).bind fun r_5 =>
  (f_Ta_leastBetterAmong σ x1 x2 r_2 r_5).bind fun r_6 =>
  some r_6
def f_Ta_leastBetter (σ : gS) (x1 : Int32) (x2 : Int32) : Option Int32 := b_Ta_leastBetter_0 σ x1 x2
def b_Ta_isWeaklyWorse_63 (σ : gS) (k6 : Int32 × Int32 × Int32 × Int32 × Int32 → Option Int32) (x1 : Int32) (x2 : Int32) (x3 : Int32) (x5 : Int32) (y0 : Int32) (y1 : Int32) : Option Int32 :=
  bnd (y0 ||| y1) fun x4_1 =>
  bnd (x5 + 1) fun x5_2 =>
  k6 (x1, x2, x3, x4_1, x5_2)
def b_Ta_isWeaklyWorse_6 (σ : gS) (k6 : Int32 × Int32 × Int32 × Int32 × Int32 → Option Int32) (x1 : Int32) (x2 : Int32) (x3 : Int32) (x4 : Int32) (x5 : Int32) : Option Int32 :=
  (f_Ga_otherThan x1).bind fun r_1 =>
  ck (okI 17 r_1) <|
  if (gI σ 17 r_1.toNatClampNeg) ≤ x5 then (
    ck (isB x4) <| some x4
  ) else (
    (f_Ta_value σ x1 x2 x5).bind fun r_4 =>
    (f_Ta_value σ x1 x3 x5).bind fun r_5 =>
    if r_4 ≤ r_5 then (
      if r_5 ≤ r_4 then (
        b_Ta_isWeaklyWorse_63 σ k6 x1 x2 x3 x5 x4 0
      ) else (
        b_Ta_isWeaklyWorse_63 σ k6 x1 x2 x3 x5 x4 1
      )
    ) else (
      ck (isB 0) <| some 0
    )
  )
def l_Ta_isWeaklyWorse_6 (σ : gS) : Int32 × Int32 × Int32 × Int32 × Int32 → Option Int32 := lpF (fun k x => b_Ta_isWeaklyWorse_6 σ k x.1 x.2.1 x.2.2.1 x.2.2.2.1 x.2.2.2.2) gF
def b_Ta_isWeaklyWorse_0 (σ : gS) (x1 : Int32) (x2 : Int32) (x3 : Int32) : Option Int32 :=
  l_Ta_isWeaklyWorse_6 σ (x1, x2, x3, 0, 0)
def f_Ta_isWeaklyWorse (σ : gS) (x1 : Int32) (x2 : Int32) (x3 : Int32) : Option Int32 := b_Ta_isWeaklyWorse_0 σ x1 x2 x3
def b_Ta_leastWeaklyBetter_2 (σ : gS) (k2 : Int32 × Int32 × Int32 → Option Int32) (x1 : Int32) (x2 : Int32) (x3 : Int32) : Option Int32 :=
  ck (okI 17 x1) <|
  if (gI σ 17 x1.toNatClampNeg) ≤ x3 then (
    some (-1)
  ) else (
    (f_Ta_isWeaklyWorse σ x1 x2 x3).bind fun r_3 =>
    if r_3 = 0 then (
      bnd (x3 + 1) fun x3_5 =>
      k2 (x1, x2, x3_5)
    ) else (
      some x3
    )
  )
def l_Ta_leastWeaklyBetter_2 (σ : gS) : Int32 × Int32 × Int32 → Option Int32 := lpF (fun k x => b_Ta_leastWeaklyBetter_2 σ k x.1 x.2.1 x.2.2) gF
def b_Ta_leastWeaklyBetter_0 (σ : gS) (x1 : Int32) (x2 : Int32) : Option Int32 :=
  l_Ta_leastWeaklyBetter_2 σ (x1, x2, 0)
def f_Ta_leastWeaklyBetter (σ : gS) (x1 : Int32) (x2 : Int32) : Option Int32 := b_Ta_leastWeaklyBetter_0 σ x1 x2
def b_Ga_than_0 (x1 : Int32) (x2 : Int32) (x3 : Int32) (σ : gS) : Option (Int32 × gS) :=
  (f_Ga_isEmpty σ).bind fun r_1 =>
  if r_1 = 0 then (
    (f_Ga_isPlan σ x1 x2).bind fun r_3 =>
    if r_3 = 0 then (
      some ((-2), σ)
    ) else (
      (f_Ga_isAmong x3 0 2).bind fun r_5 =>
      if r_5 = 0 then (
        some ((-2), σ)
      ) else (
        (f_Ta_fillWhole σ).bind fun r_7 =>
        if x3 = 2 then (
          (f_Ta_leastOneWith r_7 x1 x2).bind fun r_12 =>
          some (r_12, r_7)
        ) else (
          if x3 = 0 then (
            (f_Ta_leastBetter r_7 x1 x2).bind fun r_11 =>
            some (r_11, r_7)
          ) else (
            (f_Ta_leastWeaklyBetter r_7 x1 x2).bind fun r_10 =>
            some (r_10, r_7)
          )
        )
      )
    )
  ) else (
    some ((-1000000), σ)
  )
def f_Ga_than (σ : gS) (x1 : Int32) (x2 : Int32) (x3 : Int32) : Option (Int32 × gS) := b_Ga_than_0 x1 x2 x3 σ
def b_Le_roundOf_0 (σ : gS) (x1 : Int32) (x2 : Int32) : Option Int32 :=
  ck (inb x1 2) <|
  ck (okI (35 + 1 + x1.toNatClampNeg) x2) <|
  some (gI σ (35 + 1 + x1.toNatClampNeg) x2.toNatClampNeg)
def f_Le_roundOf (σ : gS) (x1 : Int32) (x2 : Int32) : Option Int32 := b_Le_roundOf_0 σ x1 x2
def b_Ga_goes_0 (x1 : Int32) (x2 : Int32) (σ : gS) : Option (Int32 × gS) :=
  (f_Ga_isEmpty σ).bind fun r_1 =>
  if r_1 = 0 then (
    (f_Ga_isPlan σ x1 x2).bind fun r_3 =>
    if r_3 = 0 then (
      some ((-2), σ)
    ) else (
      (f_Ta_fillWhole σ).bind fun r_5 =>
      (f_Le_playAll r_5).bind fun r_6 =>
      (f_Le_roundOf r_6 x1 x2).bind fun r_7 =>
      some (r_7, r_6)
    )
  ) else (
    some ((-1000000), σ)
  )
def f_Ga_goes (σ : gS) (x1 : Int32) (x2 : Int32) : Option (Int32 × gS) := b_Ga_goes_0 x1 x2 σ
def b_Ma_min_0 (x0 : Int32) (x1 : Int32) : Option Int32 :=
  if x1 < x0 then (
    some x1
  ) else (
    some x0
  )
def f_Ma_min (x0 : Int32) (x1 : Int32) : Option Int32 := b_Ma_min_0 x0 x1
def b_Ta_leastOf_11 (σ : gS) (k11 : Int32 × Int32 × Int32 × Int32 → Option Int32) (x1 : Int32) (x2 : Int32) (x3 : Int32) (x4 : Int32) : Option Int32 :=
  (f_Ga_otherThan x1).bind fun r_1 =>
  ck (okI 17 r_1) <|
  if (gI σ 17 r_1.toNatClampNeg) ≤ x4 then (
    some x3
  ) else (
    (f_Ta_value σ x1 x2 x4).bind fun r_4 =>
    (f_Ma_min x3 r_4).bind fun r_5 =>
    bnd (x4 + 1) fun x4_6 =>
    k11 (x1, x2, r_5, x4_6)
  )
def l_Ta_leastOf_11 (σ : gS) : Int32 × Int32 × Int32 × Int32 → Option Int32 := lpF (fun k x => b_Ta_leastOf_11 σ k x.1 x.2.1 x.2.2.1 x.2.2.2) gF
def b_Ta_leastOf_0 (σ : gS) (x1 : Int32) (x2 : Int32) : Option Int32 :=
  (f_Ta_value σ x1 x2 0).bind fun r_1 =>
  l_Ta_leastOf_11 σ (x1, x2, r_1, 1)
def f_Ta_leastOf (σ : gS) (x1 : Int32) (x2 : Int32) : Option Int32 := b_Ta_leastOf_0 σ x1 x2
def b_Ta_sureOf_9 (σ : gS) (k9 : Int32 × Int32 × Int32 → Option Int32) (x1 : Int32) (x2 : Int32) (x3 : Int32) : Option Int32 :=
  ck (okI 17 x1) <|
  if (gI σ 17 x1.toNatClampNeg) ≤ x3 then (
    some x2
  ) else (
    (f_Ta_leastOf σ x1 x3).bind fun r_3 =>
    (f_Ma_max x2 r_3).bind fun r_4 =>
    bnd (x3 + 1) fun x3_5 =>
    k9 (x1, r_4, x3_5)
  )
def l_Ta_sureOf_9 (σ : gS) : Int32 × Int32 × Int32 → Option Int32 := lpF (fun k x => b_Ta_sureOf_9 σ k x.1 x.2.1 x.2.2) gF
def b_Ta_sureOf_0 (σ : gS) (x1 : Int32) : Option Int32 :=
  (f_Ta_leastOf σ x1 0).bind fun r_1 =>
  l_Ta_sureOf_9 σ (x1, r_1, 1)
def f_Ta_sureOf (σ : gS) (x1 : Int32) : Option Int32 := b_Ta_sureOf_0 σ x1
def b_Ga_sure_0 (x1 : Int32) (σ : gS) : Option (Int32 × gS) :=
  (f_Ga_isEmpty σ).bind fun r_1 =>
  if r_1 = 0 then (
    (f_Ga_isPlayer x1).bind fun r_3 =>
    if r_3 = 0 then (
      some ((-1000000), σ)
    ) else (
      (f_Ta_fillWhole σ).bind fun r_5 =>
      (f_Ta_sureOf r_5 x1).bind fun r_6 =>
      some (r_6, r_5)
    )
  ) else (
    some ((-1000000), σ)
  )
def f_Ga_sure (σ : gS) (x1 : Int32) : Option (Int32 × gS) := b_Ga_sure_0 x1 σ
def b_Fo_actTo_30 (σ : gS) (k5 : Int32 × Int32 × Int32 × Int32 → Option Int32) (x1 : Int32) (x2 : Int32) (x3 : Int32) (x4 : Int32) : Option Int32 :=
  bnd (x4 + 1) fun x4_1 =>
  k5 (x1, x2, x3, x4_1)
def b_Fo_actTo_5 (σ : gS) (k5 : Int32 × Int32 × Int32 × Int32 → Option Int32) (x1 : Int32) (x2 : Int32) (x3 : Int32) (x4 : Int32) : Option Int32 :=
  ck (okI 8 x1) <|
  if (gI σ 8 x1.toNatClampNeg) ≤ x4 then (
    some x3
  ) else (
    (f_Fo_childAt σ x1 x4).bind fun r_3 =>
    if r_3 = x2 then (
      b_Fo_actTo_30 σ k5 x1 x2 x4 x4
    ) else (
      b_Fo_actTo_30 σ k5 x1 x2 x3 x4
    )
  )
def l_Fo_actTo_5 (σ : gS) : Int32 × Int32 × Int32 × Int32 → Option Int32 := lpF (fun k x => b_Fo_actTo_5 σ k x.1 x.2.1 x.2.2.1 x.2.2.2) gF
def b_Fo_actTo_0 (σ : gS) (x1 : Int32) (x2 : Int32) : Option Int32 :=
  l_Fo_actTo_5 σ (x1, x2, 0, 0)
def f_Fo_actTo (σ : gS) (x1 : Int32) (x2 : Int32) : Option Int32 := b_Fo_actTo_0 σ x1 x2
def b_Fo_wayTo_79 (σ : gS) (k16 : Int32 × Int64 × Int32 × Int32 × Int32 → Option Int64) (x1 : Int32) (x3 : Int64) (x6 : Int32) (x7 : Int32) : Option Int64 :=
  ck (okI 4 x6) <|
  bnd (gI σ 4 x6.toNatClampNeg) fun x6_2 =>
  bnd (x7 + 1) fun x7_3 =>
  k16 (x1, x3, x6, x6_2, x7_3)
def b_Fo_wayTo_16 (σ : gS) (k16 : Int32 × Int64 × Int32 × Int32 × Int32 → Option Int64) (x1 : Int32) (x3 : Int64) (x5 : Int32) (x6 : Int32) (x7 : Int32) : Option Int64 :=
  if 8 ≤ x7 then (
    some x3
  ) else (
    if x6 = (-1) then (
      some x3
    ) else (
      ck (okI 3 x6) <|
      bnd (gI σ 3 x6.toNatClampNeg) fun x8_4 =>
      if x8_4 = (-1) then (
        b_Fo_wayTo_79 σ k16 x1 x3 x6 x7
      ) else (
        ck (okI 13 x8_4) <|
        if (gI σ 13 x8_4.toNatClampNeg) = x1 then (
          (f_Fo_actTo σ x6 x5).bind fun r_8 =>
          bnd ((((x3 * 31) + 1) + ((3 * x8_4).toInt64)) + r_8.toInt64) fun x3_9 =>
          b_Fo_wayTo_79 σ k16 x1 x3_9 x6 x7
        ) else (
          b_Fo_wayTo_79 σ k16 x1 x3 x6 x7
        )
      )
    )
  )
def l_Fo_wayTo_16 (σ : gS) : Int32 × Int64 × Int32 × Int32 × Int32 → Option Int64 := lpF (fun k x => b_Fo_wayTo_16 σ k x.1 x.2.1 x.2.2.1 x.2.2.2.1 x.2.2.2.2) gF
def b_Fo_wayTo_0 (σ : gS) (x1 : Int32) (x2 : Int32) : Option Int64 :=
  ck (okI 4 x2) <|
  bnd (gI σ 4 x2.toNatClampNeg) fun x6_2 =>
  l_Fo_wayTo_16 σ (x1, 0, x2, x6_2, 0)
def f_Fo_wayTo (σ : gS) (x1 : Int32) (x2 : Int32) : Option Int64 := b_Fo_wayTo_0 σ x1 x2
def b_Fo_areWaysAlike_70 (σ : gS) (k20 : Int32 × Int64 × Int64 × Int32 → Option Int32) (x1 : Int32) (x3 : Int64) (x5 : Int64) (x7 : Int32) : Option Int32 :=
  bnd (x7 + 1) fun x7_1 =>
  k20 (x1, x3, x5, x7_1)
def b_Fo_areWaysAlike_66 (σ : gS) (k20 : Int32 × Int64 × Int64 × Int32 → Option Int32) (x1 : Int32) (x3 : Int64) (x7 : Int32) (x8 : Int64) : Option Int32 :=
  b_Fo_areWaysAlike_70 σ k20 x1 x3 x8 x7
def b_Fo_areWaysAlike_20 (σ : gS) (k20 : Int32 × Int64 × Int64 × Int32 → Option Int32) (x1 : Int32) (x3 : Int64) (x5 : Int64) (x7 : Int32) : Option Int32 :=
  if (gI σ 1 0) ≤ x7 then (
    ck (isB 1) <| some 1
  ) else (
    (f_Ga_hasBit x3 x7).bind fun r_2 =>
    if r_2 = 0 then (
      b_Fo_areWaysAlike_70 σ k20 x1 x3 x5 x7
    ) else (
      (f_Fo_wayTo σ x1 x7).bind fun r_4 =>
      if (lg_cmp x5 (-1)) = 0 then (
        b_Fo_areWaysAlike_66 σ k20 x1 x3 x7 r_4
      ) else (
        if (lg_cmp r_4 x5) = 0 then (
          b_Fo_areWaysAlike_66 σ k20 x1 x3 x7 r_4
        ) else (
          ck (isB 0) <| some 0
        )
      )
    )
  )
def l_Fo_areWaysAlike_20 (σ : gS) : Int32 × Int64 × Int64 × Int32 → Option Int32 := lpF (fun k x => b_Fo_areWaysAlike_20 σ k x.1 x.2.1 x.2.2.1 x.2.2.2) gF
def b_Fo_areWaysAlike_0 (σ : gS) (x1 : Int32) (x2 : Int32) : Option Int32 :=
  ck (okJ 14 x2) <|
  (f_Fo_nodesInTree σ).bind fun r_2 =>
  bnd ((gL σ 14 x2.toNatClampNeg) &&& r_2) fun x3_3 =>
  l_Fo_areWaysAlike_20 σ (x1, x3_3, (-1), 0)
def f_Fo_areWaysAlike (σ : gS) (x1 : Int32) (x2 : Int32) : Option Int32 := b_Fo_areWaysAlike_0 σ x1 x2
def b_Fo_remembersAll_31 (σ : gS) (k2 : Int32 × Int32 → Option Int32) (x1 : Int32) (x2 : Int32) : Option Int32 :=
  bnd (x2 + 1) fun x2_1 =>
  k2 (x1, x2_1)
def b_Fo_remembersAll_2 (σ : gS) (k2 : Int32 × Int32 → Option Int32) (x1 : Int32) (x2 : Int32) : Option Int32 :=
  if (gI σ 1 1) ≤ x2 then (
    ck (isB 1) <| some 1
  ) else (
    ck (okI 13 x2) <|
    if (gI σ 13 x2.toNatClampNeg) = x1 then (
      (f_Fo_areWaysAlike σ x1 x2).bind fun r_4 =>
      if r_4 = 0 then (
        ck (isB 0) <| some 0
      ) else (
        b_Fo_remembersAll_31 σ k2 x1 x2
      )
    ) else (
      b_Fo_remembersAll_31 σ k2 x1 x2
    )
  )
def l_Fo_remembersAll_2 (σ : gS) : Int32 × Int32 → Option Int32 := lpF (fun k x => b_Fo_remembersAll_2 σ k x.1 x.2) gF
def b_Fo_remembersAll_0 (σ : gS) (x1 : Int32) : Option Int32 :=
  l_Fo_remembersAll_2 σ (x1, 0)
def f_Fo_remembersAll (σ : gS) (x1 : Int32) : Option Int32 := b_Fo_remembersAll_0 σ x1
def b_Ga_remembered_0 (σ : gS) (x1 : Int32) : Option Int32 :=
  (f_Ga_isEmpty σ).bind fun r_1 =>
  if r_1 = 0 then (
    (f_Ga_isPlayer x1).bind fun r_3 =>
    if r_3 = 0 then (
      some (-2)
    ) else (
      (f_Fo_remembersAll σ x1).bind fun r_5 =>
      if r_5 = 0 then (
        some 0
      ) else (
        some 1
      )
    )
  ) else (
    some (-1000000)
  )
def f_Ga_remembered (σ : gS) (x1 : Int32) : Option Int32 := b_Ga_remembered_0 σ x1
def b_An_leastOfGreatest_38 (σ : gS) (k4 : Int32 × Int32 × Int32 → Option Int32) (x1 : Int32) (x2 : Int32) (x3 : Int32) : Option Int32 :=
  bnd (x3 + 1) fun x3_1 =>
  k4 (x1, x2, x3_1)
def b_An_leastOfGreatest_4 (σ : gS) (k4 : Int32 × Int32 × Int32 → Option Int32) (x1 : Int32) (x2 : Int32) (x3 : Int32) : Option Int32 :=
  ck (okI 17 x1) <|
  if (gI σ 17 x1.toNatClampNeg) ≤ x3 then (
    some x2
  ) else (
    ck (inb x1 2) <|
    ck (okI (43 + 1 + x1.toNatClampNeg) x3) <|
    ck (inb x1 2) <|
    ck (okI (43 + 1 + x1.toNatClampNeg) x2) <|
    if (gI σ (43 + 1 + x1.toNatClampNeg) x3.toNatClampNeg) ≤ (gI σ (43 + 1 + x1.toNatClampNeg) x2.toNatClampNeg) then (
      b_An_leastOfGreatest_38 σ k4 x1 x2 x3
    ) else (
      b_An_leastOfGreatest_38 σ k4 x1 x3 x3
    )
  )
def l_An_leastOfGreatest_4 (σ : gS) : Int32 × Int32 × Int32 → Option Int32 := lpF (fun k x => b_An_leastOfGreatest_4 σ k x.1 x.2.1 x.2.2) gF
def b_An_leastOfGreatest_0 (σ : gS) (x1 : Int32) : Option Int32 :=
  l_An_leastOfGreatest_4 σ (x1, 0, 1)
def f_An_leastOfGreatest (σ : gS) (x1 : Int32) : Option Int32 := b_An_leastOfGreatest_0 σ x1
def b_An_addUp_2 (k2 : Int32 × Int32 × Int32 × gS → Option gS) (x1 : Int32) (x2 : Int32) (x3 : Int32) (σ : gS) : Option gS :=
  ck (okI 17 x1) <|
  if (gI σ 17 x1.toNatClampNeg) ≤ x3 then (
    some σ
  ) else (
    ck (inb x1 2) <|
    ck (okI (43 + 1 + x1.toNatClampNeg) x3) <|
    (f_Ta_value σ x1 x3 x2).bind fun r_5 =>
    ck (okI (43 + 1 + x1.toNatClampNeg) x3) <|
    bnd (sI σ (43 + 1 + x1.toNatClampNeg) x3.toNatClampNeg ((gI σ (43 + 1 + x1.toNatClampNeg) x3.toNatClampNeg) + r_5)) fun σ_7 =>
    bnd (x3 + 1) fun x3_8 =>
    k2 (x1, x2, x3_8, σ_7)
  )
def l_An_addUp_2  : Int32 × Int32 × Int32 × gS → Option gS := lpF (fun k x => b_An_addUp_2 k x.1 x.2.1 x.2.2.1 x.2.2.2) gF
def b_An_addUp_0 (x1 : Int32) (x2 : Int32) (σ : gS) : Option gS :=
  l_An_addUp_2 (x1, x2, 0, σ)
def f_An_addUp (σ : gS) (x1 : Int32) (x2 : Int32) : Option gS := b_An_addUp_0 x1 x2 σ
def b_An_playTo_55 (k55 : Int32 × Int32 × gS → Option gS) (x1 : Int32) (x2 : Int32) (σ : gS) : Option gS :=
  if x1 ≤ x2 then (
    (f_Ma_max (gI σ 39 4) x1).bind fun r_2 =>
    bnd (sI σ 39 4 r_2) fun σ_3 =>
    some σ_3
  ) else (
    ck (inb 0 2) <|
    (f_An_leastOfGreatest σ 0).bind fun r_5 =>
    ck (okI 41 x2) <|
    bnd (sI σ 41 x2.toNatClampNeg r_5) fun σ_7 =>
    ck (inb 1 2) <|
    (f_An_leastOfGreatest σ_7 1).bind fun r_9 =>
    ck (okI 42 x2) <|
    bnd (sI σ_7 42 x2.toNatClampNeg r_9) fun σ_11 =>
    ck (inb 1 2) <|
    ck (okI 42 x2) <|
    (f_An_addUp σ_11 0 (gI σ_11 42 x2.toNatClampNeg)).bind fun r_14 =>
    ck (inb 0 2) <|
    ck (okI 41 x2) <|
    (f_An_addUp r_14 1 (gI r_14 41 x2.toNatClampNeg)).bind fun r_17 =>
    bnd (x2 + 1) fun x2_18 =>
    k55 (x1, x2_18, r_17)
  )
def l_An_playTo_55  : Int32 × Int32 × gS → Option gS := lpF (fun k x => b_An_playTo_55 k x.1 x.2.1 x.2.2) gF
def b_An_playTo_50 (x1 : Int32) (σ : gS) : Option gS :=
  bnd (gI σ 39 4) fun x2_1 =>
  l_An_playTo_55 (x1, x2_1, σ)
def b_An_playTo_0 (x1 : Int32) (σ : gS) : Option gS :=
  if (gI σ 39 5) = (gI σ 1 2) then (
    b_An_playTo_50 x1 σ
  ) else (
    bnd (sI σ 39 5 (gI σ 1 2)) fun σ_2 =>
    bnd (sI σ_2 39 4 0) fun σ_3 =>
    ck (inb 0 2) <|
    (f_Ar_fillI σ_3 44 0).bind fun r_5 =>
    ck (inb 1 2) <|
    (f_Ar_fillI r_5 45 0).bind fun r_7 =>
    b_An_playTo_50 x1 r_7
  )
def f_An_playTo (σ : gS) (x1 : Int32) : Option gS := b_An_playTo_0 x1 σ
def b_An_timesTaken_28 (σ : gS) (k6 : Int32 × Int32 × Int32 × Int32 × Int32 → Option Int32) (x1 : Int32) (x2 : Int32) (x3 : Int32) (x4 : Int32) (x5 : Int32) : Option Int32 :=
  bnd (x5 + 1) fun x5_1 =>
  k6 (x1, x2, x3, x4, x5_1)
def b_An_timesTaken_6 (σ : gS) (k6 : Int32 × Int32 × Int32 × Int32 × Int32 → Option Int32) (x1 : Int32) (x2 : Int32) (x3 : Int32) (x4 : Int32) (x5 : Int32) : Option Int32 :=
  if x1 ≤ x5 then (
    some x4
  ) else (
    ck (inb x2 2) <|
    ck (okI (40 + 1 + x2.toNatClampNeg) x5) <|
    if (gI σ (40 + 1 + x2.toNatClampNeg) x5.toNatClampNeg) = x3 then (
      bnd (x4 + 1) fun x4_5 =>
      b_An_timesTaken_28 σ k6 x1 x2 x3 x4_5 x5
    ) else (
      b_An_timesTaken_28 σ k6 x1 x2 x3 x4 x5
    )
  )
def l_An_timesTaken_6 (σ : gS) : Int32 × Int32 × Int32 × Int32 × Int32 → Option Int32 := lpF (fun k x => b_An_timesTaken_6 σ k x.1 x.2.1 x.2.2.1 x.2.2.2.1 x.2.2.2.2) gF
def b_An_timesTaken_0 (σ : gS) (x1 : Int32) (x2 : Int32) (x3 : Int32) : Option Int32 :=
  l_An_timesTaken_6 σ (x1, x2, x3, 0, 0)
def f_An_timesTaken (σ : gS) (x1 : Int32) (x2 : Int32) (x3 : Int32) : Option Int32 := b_An_timesTaken_0 σ x1 x2 x3
def b_Ga_taken_0 (x1 : Int32) (x2 : Int32) (x3 : Int32) (σ : gS) : Option (Int32 × gS) :=
  (f_Ga_isEmpty σ).bind fun r_1 =>
  if r_1 = 0 then (
    (f_Ga_isAmong x1 1 200).bind fun r_3 =>
    if r_3 = 0 then (
      some ((-2), σ)
    ) else (
      (f_Ga_isPlan σ x2 x3).bind fun r_5 =>
      if r_5 = 0 then (
        some ((-2), σ)
      ) else (
        (f_Ta_fillWhole σ).bind fun r_7 =>
        (f_An_playTo r_7 x1).bind fun r_8 =>
        (f_An_timesTaken r_8 x1 x2 x3).bind fun r_9 =>
        some (r_9, r_8)
      )
    )
  ) else (
    some ((-1000000), σ)
  )
def f_Ga_taken (σ : gS) (x1 : Int32) (x2 : Int32) (x3 : Int32) : Option (Int32 × gS) := b_Ga_taken_0 x1 x2 x3 σ
def b_An_sumAgainst_5 (σ : gS) (k5 : Int32 × Int32 × Int32 × Int32 → Option Int32) (x1 : Int32) (x2 : Int32) (x3 : Int32) (x4 : Int32) : Option Int32 :=
  if x2 ≤ x4 then (
    some x3
  ) else (
    ck (inb 0 2) <|
    ck (okI 41 x4) <|
    (f_Ta_valueOfPair σ 0 (gI σ 41 x4.toNatClampNeg) x1).bind fun r_4 =>
    bnd (x3 + r_4) fun x3_5 =>
    bnd (x4 + 1) fun x4_6 =>
    k5 (x1, x2, x3_5, x4_6)
  )
def l_An_sumAgainst_5 (σ : gS) : Int32 × Int32 × Int32 × Int32 → Option Int32 := lpF (fun k x => b_An_sumAgainst_5 σ k x.1 x.2.1 x.2.2.1 x.2.2.2) gF
def b_An_sumAgainst_0 (σ : gS) (x1 : Int32) (x2 : Int32) : Option Int32 :=
  l_An_sumAgainst_5 σ (x1, x2, 0, 0)
def f_An_sumAgainst (σ : gS) (x1 : Int32) (x2 : Int32) : Option Int32 := b_An_sumAgainst_0 σ x1 x2
def b_An_lowBehind_9 (σ : gS) (k9 : Int32 × Int32 × Int32 → Option Int32) (x1 : Int32) (x2 : Int32) (x3 : Int32) : Option Int32 :=
  ck (okI 17 1) <|
  if (gI σ 17 (1 : Int32).toNatClampNeg) ≤ x3 then (
    some x2
  ) else (
    (f_An_sumAgainst σ x3 x1).bind fun r_3 =>
    (f_Ma_min x2 r_3).bind fun r_4 =>
    bnd (x3 + 1) fun x3_5 =>
    k9 (x1, r_4, x3_5)
  )
def l_An_lowBehind_9 (σ : gS) : Int32 × Int32 × Int32 → Option Int32 := lpF (fun k x => b_An_lowBehind_9 σ k x.1 x.2.1 x.2.2) gF
def b_An_lowBehind_0 (σ : gS) (x1 : Int32) : Option Int32 :=
  (f_An_sumAgainst σ 0 x1).bind fun r_1 =>
  l_An_lowBehind_9 σ (x1, r_1, 1)
def f_An_lowBehind (σ : gS) (x1 : Int32) : Option Int32 := b_An_lowBehind_0 σ x1
def b_An_sumFor_5 (σ : gS) (k5 : Int32 × Int32 × Int32 × Int32 → Option Int32) (x1 : Int32) (x2 : Int32) (x3 : Int32) (x4 : Int32) : Option Int32 :=
  if x2 ≤ x4 then (
    some x3
  ) else (
    ck (inb 1 2) <|
    ck (okI 42 x4) <|
    (f_Ta_valueOfPair σ 0 x1 (gI σ 42 x4.toNatClampNeg)).bind fun r_4 =>
    bnd (x3 + r_4) fun x3_5 =>
    bnd (x4 + 1) fun x4_6 =>
    k5 (x1, x2, x3_5, x4_6)
  )
def l_An_sumFor_5 (σ : gS) : Int32 × Int32 × Int32 × Int32 → Option Int32 := lpF (fun k x => b_An_sumFor_5 σ k x.1 x.2.1 x.2.2.1 x.2.2.2) gF
def b_An_sumFor_0 (σ : gS) (x1 : Int32) (x2 : Int32) : Option Int32 :=
  l_An_sumFor_5 σ (x1, x2, 0, 0)
def f_An_sumFor (σ : gS) (x1 : Int32) (x2 : Int32) : Option Int32 := b_An_sumFor_0 σ x1 x2
def b_An_highBehind_9 (σ : gS) (k9 : Int32 × Int32 × Int32 → Option Int32) (x1 : Int32) (x2 : Int32) (x3 : Int32) : Option Int32 :=
  ck (okI 17 0) <|
  if (gI σ 17 (0 : Int32).toNatClampNeg) ≤ x3 then (
    some x2
  ) else (
    (f_An_sumFor σ x3 x1).bind fun r_3 =>
    (f_Ma_max x2 r_3).bind fun r_4 =>
    bnd (x3 + 1) fun x3_5 =>
    k9 (x1, r_4, x3_5)
  )
def l_An_highBehind_9 (σ : gS) : Int32 × Int32 × Int32 → Option Int32 := lpF (fun k x => b_An_highBehind_9 σ k x.1 x.2.1 x.2.2) gF
def b_An_highBehind_0 (σ : gS) (x1 : Int32) : Option Int32 :=
  (f_An_sumFor σ 0 x1).bind fun r_1 =>
  l_An_highBehind_9 σ (x1, r_1, 1)
def f_An_highBehind (σ : gS) (x1 : Int32) : Option Int32 := b_An_highBehind_0 σ x1
def b_Ga_bound_0 (x1 : Int32) (x2 : Int32) (σ : gS) : Option (Int32 × gS) :=
  (f_Ga_isEmpty σ).bind fun r_1 =>
  if r_1 = 0 then (
    (f_Ga_isAmong x1 1 200).bind fun r_3 =>
    if r_3 = 0 then (
      some ((-1000000), σ)
    ) else (
      (f_Ga_isAmong x2 0 1).bind fun r_5 =>
      if r_5 = 0 then (
        some ((-1000000), σ)
      ) else (
        (f_Ta_fillWhole σ).bind fun r_7 =>
        (f_An_playTo r_7 x1).bind fun r_8 =>
        if x2 = 0 then (
          (f_An_lowBehind r_8 x1).bind fun r_11 =>
          some (r_11, r_8)
        ) else (
          (f_An_highBehind r_8 x1).bind fun r_10 =>
          some (r_10, r_8)
        )
      )
    )
  ) else (
    some ((-1000000), σ)
  )
def f_Ga_bound (σ : gS) (x1 : Int32) (x2 : Int32) : Option (Int32 × gS) := b_Ga_bound_0 x1 x2 σ
def b_Mo_clear_0 (σ : gS) : Option (Int32 × gS) :=
  bnd (gI σ 46 0) fun x1_1 =>
  bnd (sI σ 46 0 0) fun σ_2 =>
  bnd (sI σ_2 46 1 0) fun σ_3 =>
  some (x1_1, σ_3)
def f_Mo_clear (σ : gS) : Option (Int32 × gS) := b_Mo_clear_0 σ
def b_Mo_isFrom_0 (x0 : Int32) (x1 : Int32) (x2 : Int32) : Option Int32 :=
  if x0 < x1 then (
    ck (isB 0) <| some 0
  ) else (
    if x2 < x0 then (
      ck (isB 0) <| some 0
    ) else (
      ck (isB 1) <| some 1
    )
  )
def f_Mo_isFrom (x0 : Int32) (x1 : Int32) (x2 : Int32) : Option Int32 := b_Mo_isFrom_0 x0 x1 x2
def b_Mo_set_0 (x1 : Int32) (x2 : Int32) (σ : gS) : Option (Int32 × gS) :=
  (f_Mo_isFrom x1 0 1).bind fun r_1 =>
  if r_1 = 0 then (
    some ((-2), σ)
  ) else (
    (f_Mo_isFrom x2 2 3).bind fun r_3 =>
    if r_3 = 0 then (
      some ((-2), σ)
    ) else (
      if (gI σ 46 1) = 10 then (
        some ((-3), σ)
      ) else (
        ck (okI 54 (gI σ 46 1)) <|
        bnd (sI σ 54 (gI σ 46 1).toNatClampNeg x1) fun σ_7 =>
        ck (okI 55 (gI σ_7 46 1)) <|
        bnd (sI σ_7 55 (gI σ_7 46 1).toNatClampNeg x2) fun σ_9 =>
        bnd (sI σ_9 46 1 ((gI σ_9 46 1) + 1)) fun σ_10 =>
        some ((gI σ_10 46 1) - 1, σ_10)
      )
    )
  )
def f_Mo_set (σ : gS) (x1 : Int32) (x2 : Int32) : Option (Int32 × gS) := b_Mo_set_0 x1 x2 σ
def b_Mo_make_78 (k78 : Int32 × gS → Option (Int32 × gS)) (x2 : Int32) (σ : gS) : Option (Int32 × gS) :=
  if 3 ≤ x2 then (
    bnd (sI σ 46 0 ((gI σ 46 0) + 1)) fun σ_2 =>
    some ((gI σ_2 46 0) - 1, σ_2)
  ) else (
    ck (okI 50 ((3 * (gI σ 46 0)) + x2)) <|
    bnd (sI σ 50 ((3 * (gI σ 46 0)) + x2).toNatClampNeg (-1)) fun σ_4 =>
    bnd (x2 + 1) fun x2_5 =>
    k78 (x2_5, σ_4)
  )
def l_Mo_make_78  : Int32 × gS → Option (Int32 × gS) := lpF (fun k x => b_Mo_make_78 k x.1 x.2) gF
def b_Mo_make_0 (x1 : Int32) (σ : gS) : Option (Int32 × gS) :=
  ck (okI 47 (gI σ 46 0)) <|
  bnd (sI σ 47 (gI σ 46 0).toNatClampNeg x1) fun σ_2 =>
  ck (okI 48 (gI σ_2 46 0)) <|
  bnd (sI σ_2 48 (gI σ_2 46 0).toNatClampNeg (-1)) fun σ_4 =>
  ck (okI 49 (2 * (gI σ_4 46 0))) <|
  bnd (sI σ_4 49 (2 * (gI σ_4 46 0)).toNatClampNeg 0) fun σ_6 =>
  ck (okI 49 ((2 * (gI σ_6 46 0)) + 1)) <|
  bnd (sI σ_6 49 ((2 * (gI σ_6 46 0)) + 1).toNatClampNeg 0) fun σ_8 =>
  ck (okI 51 (gI σ_8 46 0)) <|
  bnd (sI σ_8 51 (gI σ_8 46 0).toNatClampNeg (-1)) fun σ_10 =>
  ck (okI 52 (gI σ_10 46 0)) <|
  bnd (sI σ_10 52 (gI σ_10 46 0).toNatClampNeg 0) fun σ_12 =>
  ck (okI 53 (gI σ_12 46 0)) <|
  bnd (sI σ_12 53 (gI σ_12 46 0).toNatClampNeg 0) fun σ_14 =>
  l_Mo_make_78 (0, σ_14)
def f_Mo_make (σ : gS) (x1 : Int32) : Option (Int32 × gS) := b_Mo_make_0 x1 σ
def b_Mo_end_0 (x1 : Int32) (x2 : Int32) (σ : gS) : Option (Int32 × gS) :=
  (f_Mo_isFrom x1 (-100) 100).bind fun r_1 =>
  if r_1 = 0 then (
    some ((-2), σ)
  ) else (
    (f_Mo_isFrom x2 (-100) 100).bind fun r_3 =>
    if r_3 = 0 then (
      some ((-2), σ)
    ) else (
      if (gI σ 46 0) = 40 then (
        some ((-3), σ)
      ) else (
        (f_Mo_make σ 0).bind fun r_6 =>
        bnd (r_6.1) fun x3_7 =>
        ck (okI 49 (2 * x3_7)) <|
        bnd (sI r_6.2 49 (2 * x3_7).toNatClampNeg x1) fun σ_9 =>
        ck (okI 49 ((2 * x3_7) + 1)) <|
        bnd (sI σ_9 49 ((2 * x3_7) + 1).toNatClampNeg x2) fun σ_11 =>
        some (x3_7, σ_11)
      )
    )
  )
def f_Mo_end (σ : gS) (x1 : Int32) (x2 : Int32) : Option (Int32 × gS) := b_Mo_end_0 x1 x2 σ
def b_Mo_isNode_0 (σ : gS) (x1 : Int32) : Option Int32 :=
  (f_Mo_isFrom x1 0 ((gI σ 46 0) - 1)).bind fun r_1 =>
  ck (isB r_1) <| some r_1
def f_Mo_isNode (σ : gS) (x1 : Int32) : Option Int32 := b_Mo_isNode_0 σ x1
def b_Mo_third_0 (x0 : Int32) (x1 : Int32) (x2 : Int32) (x3 : Int32) : Option Int32 :=
  if x3 = 0 then (
    some x0
  ) else (
    if x3 = 1 then (
      some x1
    ) else (
      some x2
    )
  )
def f_Mo_third (x0 : Int32) (x1 : Int32) (x2 : Int32) (x3 : Int32) : Option Int32 := b_Mo_third_0 x0 x1 x2 x3
def b_Mo_bar_133 (σ : gS) (k43 : Int32 × Int32 × Int32 × Int32 × Int32 × Int32 × Int32 × Int32 × Int32 → Option Int32) (x1 : Int32) (x2 : Int32) (x3 : Int32) (x4 : Int32) (x5 : Int32) (x6 : Int32) (x7 : Int32) (x9 : Int32) (y0 : Int32) : Option Int32 :=
  bnd (x9 + 1) fun x9_1 =>
  k43 (x1, x2, x3, x4, x5, x6, x7, y0, x9_1)
def b_Mo_bar_107 (σ : gS) (k43 : Int32 × Int32 × Int32 × Int32 × Int32 × Int32 × Int32 × Int32 × Int32 → Option Int32) (x1 : Int32) (x2 : Int32) (x3 : Int32) (x4 : Int32) (x5 : Int32) (x6 : Int32) (x8 : Int32) (x9 : Int32) (x10 : Int32) (y0 : Int32) : Option Int32 :=
  ck (okI 53 x10) <|
  if (gI σ 53 x10.toNatClampNeg) ≤ x8 then (
    b_Mo_bar_133 σ k43 x1 x2 x3 x4 x5 x6 y0 x9 x8
  ) else (
    ck (okI 53 x10) <|
    b_Mo_bar_133 σ k43 x1 x2 x3 x4 x5 x6 y0 x9 (gI σ 53 x10.toNatClampNeg)
  )
def b_Mo_bar_81 (σ : gS) (k43 : Int32 × Int32 × Int32 × Int32 × Int32 × Int32 × Int32 × Int32 × Int32 → Option Int32) (x1 : Int32) (x2 : Int32) (x3 : Int32) (x4 : Int32) (x5 : Int32) (x7 : Int32) (x8 : Int32) (x9 : Int32) (x10 : Int32) (y0 : Int32) : Option Int32 :=
  ck (okI 52 x10) <|
  if (gI σ 52 x10.toNatClampNeg) ≤ x7 then (
    b_Mo_bar_107 σ k43 x1 x2 x3 x4 x5 y0 x8 x9 x10 x7
  ) else (
    ck (okI 52 x10) <|
    b_Mo_bar_107 σ k43 x1 x2 x3 x4 x5 y0 x8 x9 x10 (gI σ 52 x10.toNatClampNeg)
  )
def b_Mo_bar_76 (σ : gS) (k43 : Int32 × Int32 × Int32 × Int32 × Int32 × Int32 × Int32 × Int32 × Int32 → Option Int32) (x1 : Int32) (x2 : Int32) (x3 : Int32) (x4 : Int32) (x5 : Int32) (x7 : Int32) (x8 : Int32) (x9 : Int32) (x10 : Int32) : Option Int32 :=
  b_Mo_bar_81 σ k43 x1 x2 x3 x4 x5 x7 x8 x9 x10 1
def b_Mo_bar_43 (σ : gS) (k43 : Int32 × Int32 × Int32 × Int32 × Int32 × Int32 × Int32 × Int32 × Int32 → Option Int32) (x1 : Int32) (x2 : Int32) (x3 : Int32) (x4 : Int32) (x5 : Int32) (x6 : Int32) (x7 : Int32) (x8 : Int32) (x9 : Int32) : Option Int32 :=
  if x1 ≤ x9 then (
    if x6 = 0 then (
      if 8 < (x7 + 1) then (
        some (-5)
      ) else (
        if (x8 + x5) ≤ 5 then (
          some 0
        ) else (
          some (-5)
        )
      )
    ) else (
      some (-4)
    )
  ) else (
    (f_Mo_third x2 x3 x4 x9).bind fun r_5 =>
    if x6 = 0 then (
      ck (okI 51 r_5) <|
      if (gI σ 51 r_5.toNatClampNeg) = (-1) then (
        b_Mo_bar_81 σ k43 x1 x2 x3 x4 x5 x7 x8 x9 r_5 0
      ) else (
        b_Mo_bar_76 σ k43 x1 x2 x3 x4 x5 x7 x8 x9 r_5
      )
    ) else (
      b_Mo_bar_76 σ k43 x1 x2 x3 x4 x5 x7 x8 x9 r_5
    )
  )
def l_Mo_bar_43 (σ : gS) : Int32 × Int32 × Int32 × Int32 × Int32 × Int32 × Int32 × Int32 × Int32 → Option Int32 := lpF (fun k x => b_Mo_bar_43 σ k x.1 x.2.1 x.2.2.1 x.2.2.2.1 x.2.2.2.2.1 x.2.2.2.2.2.1 x.2.2.2.2.2.2.1 x.2.2.2.2.2.2.2.1 x.2.2.2.2.2.2.2.2) gF
def b_Mo_bar_32 (σ : gS) (x1 : Int32) (x2 : Int32) (x3 : Int32) (x4 : Int32) (x5 : Int32) (y0 : Int32) : Option Int32 :=
  l_Mo_bar_43 σ (x1, x2, x3, x4, x5, y0, 0, 0, 0)
def b_Mo_bar_31 (σ : gS) (x1 : Int32) (x2 : Int32) (x3 : Int32) (x4 : Int32) (x5 : Int32) : Option Int32 :=
  b_Mo_bar_32 σ x1 x2 x3 x4 x5 0
def b_Mo_bar_27 (σ : gS) (x1 : Int32) (x2 : Int32) (x3 : Int32) (x4 : Int32) (x5 : Int32) : Option Int32 :=
  b_Mo_bar_32 σ x1 x2 x3 x4 x5 1
def b_Mo_bar_10 (σ : gS) (x1 : Int32) (x2 : Int32) (x3 : Int32) (x4 : Int32) (x5 : Int32) : Option Int32 :=
  if x1 ≤ 2 then (
    b_Mo_bar_31 σ x1 x2 x3 x4 x5
  ) else (
    if x2 = x4 then (
      b_Mo_bar_27 σ x1 x2 x3 x4 x5
    ) else (
      if x3 = x4 then (
        b_Mo_bar_27 σ x1 x2 x3 x4 x5
      ) else (
        b_Mo_bar_31 σ x1 x2 x3 x4 x5
      )
    )
  )
def b_Mo_bar_0 (σ : gS) (x1 : Int32) (x2 : Int32) (x3 : Int32) (x4 : Int32) (x5 : Int32) : Option Int32 :=
  if x1 ≤ 1 then (
    b_Mo_bar_10 σ x1 x2 x3 x4 x5
  ) else (
    if x2 = x3 then (
      b_Mo_bar_27 σ x1 x2 x3 x4 x5
    ) else (
      b_Mo_bar_10 σ x1 x2 x3 x4 x5
    )
  )
def f_Mo_bar (σ : gS) (x1 : Int32) (x2 : Int32) (x3 : Int32) (x4 : Int32) (x5 : Int32) : Option Int32 := b_Mo_bar_0 σ x1 x2 x3 x4 x5
def b_Mo_adopt_127 (k3 : Int32 × Int32 × Int32 × Int32 × Int32 × Int32 × Int32 × gS → Option gS) (x1 : Int32) (x2 : Int32) (x3 : Int32) (x4 : Int32) (x5 : Int32) (x6 : Int32) (x7 : Int32) (y1 : Int32) (y2 : Int32) (σ : gS) : Option gS :=
  ck (okI 53 y1) <|
  bnd (sI σ 53 y1.toNatClampNeg y2) fun σ_2 =>
  bnd (x7 + 1) fun x7_3 =>
  k3 (x1, x2, x3, x4, x5, x6, x7_3, σ_2)
def b_Mo_adopt_83 (k3 : Int32 × Int32 × Int32 × Int32 × Int32 × Int32 × Int32 × gS → Option gS) (x1 : Int32) (x2 : Int32) (x3 : Int32) (x4 : Int32) (x5 : Int32) (x6 : Int32) (x7 : Int32) (x8 : Int32) (y1 : Int32) (y2 : Int32) (σ : gS) : Option gS :=
  ck (okI 52 y1) <|
  bnd (sI σ 52 y1.toNatClampNeg y2) fun σ_2 =>
  ck (okI 53 x8) <|
  ck (okI 53 x1) <|
  if ((gI σ_2 53 x8.toNatClampNeg) + x6) ≤ (gI σ_2 53 x1.toNatClampNeg) then (
    ck (okI 53 x1) <|
    b_Mo_adopt_127 k3 x1 x2 x3 x4 x5 x6 x7 x1 (gI σ_2 53 x1.toNatClampNeg) σ_2
  ) else (
    ck (okI 53 x8) <|
    b_Mo_adopt_127 k3 x1 x2 x3 x4 x5 x6 x7 x1 ((gI σ_2 53 x8.toNatClampNeg) + x6) σ_2
  )
def b_Mo_adopt_3 (k3 : Int32 × Int32 × Int32 × Int32 × Int32 × Int32 × Int32 × gS → Option gS) (x1 : Int32) (x2 : Int32) (x3 : Int32) (x4 : Int32) (x5 : Int32) (x6 : Int32) (x7 : Int32) (σ : gS) : Option gS :=
  if x2 ≤ x7 then (
    some σ
  ) else (
    (f_Mo_third x3 x4 x5 x7).bind fun r_2 =>
    ck (okI 50 ((3 * x1) + x7)) <|
    bnd (sI σ 50 ((3 * x1) + x7).toNatClampNeg r_2) fun σ_4 =>
    ck (okI 51 r_2) <|
    bnd (sI σ_4 51 r_2.toNatClampNeg x1) fun σ_6 =>
    ck (okI 52 r_2) <|
    ck (okI 52 x1) <|
    if ((gI σ_6 52 r_2.toNatClampNeg) + 1) ≤ (gI σ_6 52 x1.toNatClampNeg) then (
      ck (okI 52 x1) <|
      b_Mo_adopt_83 k3 x1 x2 x3 x4 x5 x6 x7 r_2 x1 (gI σ_6 52 x1.toNatClampNeg) σ_6
    ) else (
      ck (okI 52 r_2) <|
      b_Mo_adopt_83 k3 x1 x2 x3 x4 x5 x6 x7 r_2 x1 ((gI σ_6 52 r_2.toNatClampNeg) + 1) σ_6
    )
  )
def l_Mo_adopt_3  : Int32 × Int32 × Int32 × Int32 × Int32 × Int32 × Int32 × gS → Option gS := lpF (fun k x => b_Mo_adopt_3 k x.1 x.2.1 x.2.2.1 x.2.2.2.1 x.2.2.2.2.1 x.2.2.2.2.2.1 x.2.2.2.2.2.2.1 x.2.2.2.2.2.2.2) gF
def b_Mo_adopt_0 (x1 : Int32) (x2 : Int32) (x3 : Int32) (x4 : Int32) (x5 : Int32) (x6 : Int32) (σ : gS) : Option gS :=
  l_Mo_adopt_3 (x1, x2, x3, x4, x5, x6, 0, σ)
def f_Mo_adopt (σ : gS) (x1 : Int32) (x2 : Int32) (x3 : Int32) (x4 : Int32) (x5 : Int32) (x6 : Int32) : Option gS := b_Mo_adopt_0 x1 x2 x3 x4 x5 x6 σ
def b_Mo_findTree_108 (k28 : Int32 × gS → Option gS) (x1 : Int32) (σ : gS) : Option gS :=
  bnd (x1 + (-1)) fun x1_1 =>
  k28 (x1_1, σ)
def b_Mo_findTree_76 (k28 : Int32 × gS → Option gS) (x1 : Int32) (y1 : Int32) (y2 : Int32) (σ : gS) : Option gS :=
  ck (okZ 56 y1) <|
  ck (isB y2) <|
  bnd (sI σ 56 y1.toNatClampNeg y2) fun σ_2 =>
  ck (okZ 56 x1) <|
  if (gI σ_2 56 x1.toNatClampNeg) = 0 then (
    b_Mo_findTree_108 k28 x1 σ_2
  ) else (
    ck (okI 47 x1) <|
    if (gI σ_2 47 x1.toNatClampNeg) = 2 then (
      ck (okI 48 x1) <|
      ck (okZ 57 (gI σ_2 48 x1.toNatClampNeg)) <|
      ck (isB 1) <|
      bnd (sI σ_2 57 (gI σ_2 48 x1.toNatClampNeg).toNatClampNeg 1) fun σ_10 =>
      b_Mo_findTree_108 k28 x1 σ_10
    ) else (
      b_Mo_findTree_108 k28 x1 σ_2
    )
  )
def b_Mo_findTree_75 (k28 : Int32 × gS → Option gS) (x1 : Int32) (y1 : Int32) (σ : gS) : Option gS :=
  b_Mo_findTree_76 k28 x1 y1 0 σ
def b_Mo_findTree_71 (k28 : Int32 × gS → Option gS) (x1 : Int32) (y1 : Int32) (σ : gS) : Option gS :=
  b_Mo_findTree_76 k28 x1 y1 1 σ
def b_Mo_findTree_28 (k28 : Int32 × gS → Option gS) (x1 : Int32) (σ : gS) : Option gS :=
  if x1 < 0 then (
    some σ
  ) else (
    if x1 = ((gI σ 46 0) - 1) then (
      b_Mo_findTree_71 k28 x1 x1 σ
    ) else (
      ck (okI 51 x1) <|
      if (gI σ 51 x1.toNatClampNeg) = (-1) then (
        b_Mo_findTree_75 k28 x1 x1 σ
      ) else (
        ck (okI 51 x1) <|
        ck (okZ 56 (gI σ 51 x1.toNatClampNeg)) <|
        if (gI σ 56 (gI σ 51 x1.toNatClampNeg).toNatClampNeg) = 0 then (
          b_Mo_findTree_75 k28 x1 x1 σ
        ) else (
          b_Mo_findTree_71 k28 x1 x1 σ
        )
      )
    )
  )
def l_Mo_findTree_28  : Int32 × gS → Option gS := lpF (fun k x => b_Mo_findTree_28 k x.1 x.2) gF
def b_Mo_findTree_2 (k2 : Int32 × gS → Option gS) (x1 : Int32) (σ : gS) : Option gS :=
  if 10 ≤ x1 then (
    bnd ((gI σ 46 0) - 1) fun x1_2 =>
    l_Mo_findTree_28 (x1_2, σ)
  ) else (
    ck (okZ 57 x1) <|
    ck (isB 0) <|
    bnd (sI σ 57 x1.toNatClampNeg 0) fun σ_4 =>
    bnd (x1 + 1) fun x1_6 =>
    k2 (x1_6, σ_4)
  )
def l_Mo_findTree_2  : Int32 × gS → Option gS := lpF (fun k x => b_Mo_findTree_2 k x.1 x.2) gF
def b_Mo_findTree_0 (σ : gS) : Option gS :=
  l_Mo_findTree_2 (0, σ)
def f_Mo_findTree (σ : gS) : Option gS := b_Mo_findTree_0 σ
def b_Mo_plansOf_43 (σ : gS) (k4 : Int32 × Int32 × Int32 → Option Int32) (x1 : Int32) (x3 : Int32) (y0 : Int32) : Option Int32 :=
  bnd (x3 + 1) fun x3_1 =>
  k4 (x1, y0, x3_1)
def b_Mo_plansOf_42 (σ : gS) (k4 : Int32 × Int32 × Int32 → Option Int32) (x1 : Int32) (x2 : Int32) (x3 : Int32) : Option Int32 :=
  b_Mo_plansOf_43 σ k4 x1 x3 x2
def b_Mo_plansOf_4 (σ : gS) (k4 : Int32 × Int32 × Int32 → Option Int32) (x1 : Int32) (x2 : Int32) (x3 : Int32) : Option Int32 :=
  if (gI σ 46 1) ≤ x3 then (
    some x2
  ) else (
    ck (okZ 57 x3) <|
    if (gI σ 57 x3.toNatClampNeg) = 0 then (
      b_Mo_plansOf_42 σ k4 x1 x2 x3
    ) else (
      ck (okI 54 x3) <|
      if (gI σ 54 x3.toNatClampNeg) = x1 then (
        ck (okI 55 x3) <|
        b_Mo_plansOf_43 σ k4 x1 x3 (x2 * (gI σ 55 x3.toNatClampNeg))
      ) else (
        b_Mo_plansOf_42 σ k4 x1 x2 x3
      )
    )
  )
def l_Mo_plansOf_4 (σ : gS) : Int32 × Int32 × Int32 → Option Int32 := lpF (fun k x => b_Mo_plansOf_4 σ k x.1 x.2.1 x.2.2) gF
def b_Mo_plansOf_0 (σ : gS) (x1 : Int32) : Option Int32 :=
  l_Mo_plansOf_4 σ (x1, 1, 0)
def f_Mo_plansOf (σ : gS) (x1 : Int32) : Option Int32 := b_Mo_plansOf_0 σ x1
def b_Mo_tooMany_0 (σ : gS) : Option (Int32 × gS) :=
  (f_Mo_findTree σ).bind fun r_1 =>
  (f_Mo_plansOf r_1 0).bind fun r_2 =>
  if 64 < r_2 then (
    ck (isB 1) <| some (1, r_1)
  ) else (
    (f_Mo_plansOf r_1 1).bind fun r_4 =>
    if r_4 ≤ 64 then (
      ck (isB 0) <| some (0, r_1)
    ) else (
      ck (isB 1) <| some (1, r_1)
    )
  )
def f_Mo_tooMany (σ : gS) : Option (Int32 × gS) := b_Mo_tooMany_0 σ
def b_Mo_undo_3 (k3 : Int32 × Int32 × Int32 × Int32 × Int32 × gS → Option gS) (x1 : Int32) (x2 : Int32) (x3 : Int32) (x4 : Int32) (x5 : Int32) (σ : gS) : Option gS :=
  if x1 ≤ x5 then (
    bnd (sI σ 46 0 ((gI σ 46 0) - 1)) fun σ_2 =>
    some σ_2
  ) else (
    (f_Mo_third x2 x3 x4 x5).bind fun r_3 =>
    ck (okI 51 r_3) <|
    bnd (sI σ 51 r_3.toNatClampNeg (-1)) fun σ_5 =>
    bnd (x5 + 1) fun x5_6 =>
    k3 (x1, x2, x3, x4, x5_6, σ_5)
  )
def l_Mo_undo_3  : Int32 × Int32 × Int32 × Int32 × Int32 × gS → Option gS := lpF (fun k x => b_Mo_undo_3 k x.1 x.2.1 x.2.2.1 x.2.2.2.1 x.2.2.2.2.1 x.2.2.2.2.2) gF
def b_Mo_undo_0 (x1 : Int32) (x2 : Int32) (x3 : Int32) (x4 : Int32) (σ : gS) : Option gS :=
  l_Mo_undo_3 (x1, x2, x3, x4, 0, σ)
def f_Mo_undo (σ : gS) (x1 : Int32) (x2 : Int32) (x3 : Int32) (x4 : Int32) : Option gS := b_Mo_undo_0 x1 x2 x3 x4 σ
def b_Mo_chance_62 (x1 : Int32) (x2 : Int32) (x3 : Int32) (x4 : Int32) (y0 : Int32) (σ : gS) : Option (Int32 × gS) :=
  if y0 = 0 then (
    some ((-2), σ)
  ) else (
    if (gI σ 46 0) = 40 then (
      some ((-3), σ)
    ) else (
      (f_Mo_bar σ x4 x1 x2 x3 1).bind fun r_3 =>
      if r_3 = 0 then (
        (f_Mo_make σ 1).bind fun r_5 =>
        bnd (r_5.1) fun x7_6 =>
        (f_Mo_adopt r_5.2 x7_6 x4 x1 x2 x3 1).bind fun r_7 =>
        (f_Mo_tooMany r_7).bind fun r_8 =>
        if r_8.1 = 0 then (
          some (x7_6, r_8.2)
        ) else (
          (f_Mo_undo r_8.2 x4 x1 x2 x3).bind fun r_10 =>
          some ((-6), r_10)
        )
      ) else (
        some (r_3, σ)
      )
    )
  )
def b_Mo_chance_61 (x1 : Int32) (x2 : Int32) (x3 : Int32) (x4 : Int32) (σ : gS) : Option (Int32 × gS) :=
  b_Mo_chance_62 x1 x2 x3 x4 0 σ
def b_Mo_chance_57 (x1 : Int32) (x2 : Int32) (x3 : Int32) (x4 : Int32) (σ : gS) : Option (Int32 × gS) :=
  b_Mo_chance_62 x1 x2 x3 x4 1 σ
def b_Mo_chance_43 (x1 : Int32) (x2 : Int32) (x3 : Int32) (x4 : Int32) (σ : gS) : Option (Int32 × gS) :=
  if x4 < 3 then (
    b_Mo_chance_57 x1 x2 x3 x4 σ
  ) else (
    (f_Mo_isNode σ x3).bind fun r_2 =>
    if r_2 = 0 then (
      b_Mo_chance_61 x1 x2 x3 x4 σ
    ) else (
      b_Mo_chance_57 x1 x2 x3 x4 σ
    )
  )
def b_Mo_chance_19 (x1 : Int32) (x2 : Int32) (x3 : Int32) (y0 : Int32) (σ : gS) : Option (Int32 × gS) :=
  (f_Mo_isNode σ x1).bind fun r_1 =>
  if r_1 = 0 then (
    b_Mo_chance_61 x1 x2 x3 y0 σ
  ) else (
    if y0 < 2 then (
      b_Mo_chance_43 x1 x2 x3 y0 σ
    ) else (
      (f_Mo_isNode σ x2).bind fun r_4 =>
      if r_4 = 0 then (
        b_Mo_chance_61 x1 x2 x3 y0 σ
      ) else (
        b_Mo_chance_43 x1 x2 x3 y0 σ
      )
    )
  )
def b_Mo_chance_0 (x1 : Int32) (x2 : Int32) (x3 : Int32) (σ : gS) : Option (Int32 × gS) :=
  if x3 = (-1) then (
    if x2 = (-1) then (
      b_Mo_chance_19 x1 x2 x3 1 σ
    ) else (
      b_Mo_chance_19 x1 x2 x3 2 σ
    )
  ) else (
    b_Mo_chance_19 x1 x2 x3 3 σ
  )
def f_Mo_chance (σ : gS) (x1 : Int32) (x2 : Int32) (x3 : Int32) : Option (Int32 × gS) := b_Mo_chance_0 x1 x2 x3 σ
def b_Mo_node_52 (x1 : Int32) (x2 : Int32) (x3 : Int32) (x4 : Int32) (σ : gS) : Option (Int32 × gS) :=
  if (gI σ 46 0) = 40 then (
    some ((-3), σ)
  ) else (
    ck (okI 55 x1) <|
    bnd (gI σ 55 x1.toNatClampNeg) fun x5_3 =>
    (f_Mo_bar σ x5_3 x2 x3 x4 0).bind fun r_4 =>
    if r_4 = 0 then (
      (f_Mo_make σ 2).bind fun r_6 =>
      bnd (r_6.1) fun x7_7 =>
      ck (okI 48 x7_7) <|
      bnd (sI r_6.2 48 x7_7.toNatClampNeg x1) fun σ_9 =>
      (f_Mo_adopt σ_9 x7_7 x5_3 x2 x3 x4 0).bind fun r_10 =>
      (f_Mo_tooMany r_10).bind fun r_11 =>
      if r_11.1 = 0 then (
        some (x7_7, r_11.2)
      ) else (
        (f_Mo_undo r_11.2 x5_3 x2 x3 x4).bind fun r_13 =>
        some ((-6), r_13)
      )
    ) else (
      some (r_4, σ)
    )
  )
def b_Mo_node_0 (x1 : Int32) (x2 : Int32) (x3 : Int32) (x4 : Int32) (σ : gS) : Option (Int32 × gS) :=
  (f_Mo_isFrom x1 0 ((gI σ 46 1) - 1)).bind fun r_1 =>
  if r_1 = 0 then (
    some ((-2), σ)
  ) else (
    (f_Mo_isNode σ x2).bind fun r_3 =>
    if r_3 = 0 then (
      some ((-2), σ)
    ) else (
      (f_Mo_isNode σ x3).bind fun r_5 =>
      if r_5 = 0 then (
        some ((-2), σ)
      ) else (
        ck (okI 55 x1) <|
        if (gI σ 55 x1.toNatClampNeg) ≤ 2 then (
          b_Mo_node_52 x1 x2 x3 x4 σ
        ) else (
          (f_Mo_isNode σ x4).bind fun r_9 =>
          if r_9 = 0 then (
            some ((-2), σ)
          ) else (
            b_Mo_node_52 x1 x2 x3 x4 σ
          )
        )
      )
    )
  )
def f_Mo_node (σ : gS) (x1 : Int32) (x2 : Int32) (x3 : Int32) (x4 : Int32) : Option (Int32 × gS) := b_Mo_node_0 x1 x2 x3 x4 σ
def b_Mo_root_0 (σ : gS) : Option Int32 :=
  some ((gI σ 46 0) - 1)
def f_Mo_root (σ : gS) : Option Int32 := b_Mo_root_0 σ
def b_Mo_actOf_53 (σ : gS) (k11 : Int32 × Int32 × Int32 × Int32 → Option Int32) (x1 : Int32) (x3 : Int32) (x5 : Int32) (y0 : Int32) : Option Int32 :=
  bnd (x5 + (-1)) fun x5_1 =>
  k11 (x1, x3, y0, x5_1)
def b_Mo_actOf_51 (σ : gS) (k11 : Int32 × Int32 × Int32 × Int32 → Option Int32) (x1 : Int32) (x3 : Int32) (x4 : Int32) (x5 : Int32) : Option Int32 :=
  b_Mo_actOf_53 σ k11 x1 x3 x5 x4
def b_Mo_actOf_11 (σ : gS) (k11 : Int32 × Int32 × Int32 × Int32 → Option Int32) (x1 : Int32) (x3 : Int32) (x4 : Int32) (x5 : Int32) : Option Int32 :=
  if x5 ≤ x3 then (
    ck (okI 55 x3) <|
    ck (nz (gI σ 55 x3.toNatClampNeg)) <|
    some (x4 - x4 / (gI σ 55 x3.toNatClampNeg) * (gI σ 55 x3.toNatClampNeg))
  ) else (
    ck (okZ 57 x5) <|
    if (gI σ 57 x5.toNatClampNeg) = 0 then (
      b_Mo_actOf_51 σ k11 x1 x3 x4 x5
    ) else (
      ck (okI 54 x5) <|
      if (gI σ 54 x5.toNatClampNeg) = x1 then (
        ck (okI 55 x5) <|
        ck (nz (gI σ 55 x5.toNatClampNeg)) <|
        b_Mo_actOf_53 σ k11 x1 x3 x5 (x4 / (gI σ 55 x5.toNatClampNeg))
      ) else (
        b_Mo_actOf_51 σ k11 x1 x3 x4 x5
      )
    )
  )
def l_Mo_actOf_11 (σ : gS) : Int32 × Int32 × Int32 × Int32 → Option Int32 := lpF (fun k x => b_Mo_actOf_11 σ k x.1 x.2.1 x.2.2.1 x.2.2.2) gF
def b_Mo_actOf_0 (σ : gS) (x1 : Int32) (x2 : Int32) (x3 : Int32) : Option Int32 :=
  bnd ((gI σ 46 1) - 1) fun x5_1 =>
  l_Mo_actOf_11 σ (x1, x3, x2, x5_1)
def f_Mo_actOf (σ : gS) (x1 : Int32) (x2 : Int32) (x3 : Int32) : Option Int32 := b_Mo_actOf_0 σ x1 x2 x3
def b_Mo_mean_55 (σ : gS) (k8 : Int32 × Int32 × Int32 × Int32 × Int32 → Option Int32) (x1 : Int32) (x2 : Int32) (x3 : Int32) (x4 : Int32) (x5 : Int32) : Option Int32 :=
  bnd (x5 + 1) fun x5_1 =>
  k8 (x1, x2, x3, x4, x5_1)
def b_Mo_mean_8 (σ : gS) (k8 : Int32 × Int32 × Int32 × Int32 × Int32 → Option Int32) (x1 : Int32) (x2 : Int32) (x3 : Int32) (x4 : Int32) (x5 : Int32) : Option Int32 :=
  if 3 ≤ x5 then (
    ck (nz x4) <|
    some (x3 / x4)
  ) else (
    ck (okI 50 ((3 * x1) + x5)) <|
    if (gI σ 50 ((3 * x1) + x5).toNatClampNeg) = (-1) then (
      b_Mo_mean_55 σ k8 x1 x2 x3 x4 x5
    ) else (
      ck (okI 50 ((3 * x1) + x5)) <|
      ck (okI 58 ((2 * (gI σ 50 ((3 * x1) + x5).toNatClampNeg)) + x2)) <|
      bnd (x3 + (gI σ 58 ((2 * (gI σ 50 ((3 * x1) + x5).toNatClampNeg)) + x2).toNatClampNeg)) fun x3_7 =>
      bnd (x4 + 1) fun x4_8 =>
      b_Mo_mean_55 σ k8 x1 x2 x3_7 x4_8 x5
    )
  )
def l_Mo_mean_8 (σ : gS) : Int32 × Int32 × Int32 × Int32 × Int32 → Option Int32 := lpF (fun k x => b_Mo_mean_8 σ k x.1 x.2.1 x.2.2.1 x.2.2.2.1 x.2.2.2.2) gF
def b_Mo_mean_0 (σ : gS) (x1 : Int32) (x2 : Int32) : Option Int32 :=
  l_Mo_mean_8 σ (x1, x2, 0, 0, 0)
def f_Mo_mean (σ : gS) (x1 : Int32) (x2 : Int32) : Option Int32 := b_Mo_mean_0 σ x1 x2
def b_Mo_work_196 (k70 : Int32 × Int32 × Int32 × Int32 × gS → Option gS) (x1 : Int32) (x2 : Int32) (x3 : Int32) (x4 : Int32) (σ : gS) : Option gS :=
  bnd (x4 + 1) fun x4_1 =>
  k70 (x1, x2, x3, x4_1, σ)
def b_Mo_work_189 (k70 : Int32 × Int32 × Int32 × Int32 × gS → Option gS) (k79 : Int32 × Int32 × Int32 × Int32 × Int32 × gS → Option gS) (x1 : Int32) (x2 : Int32) (x3 : Int32) (x4 : Int32) (x5 : Int32) (y1 : Int32) (y2 : Int32) (σ : gS) : Option gS :=
  ck (okI 58 y1) <|
  bnd (sI σ 58 y1.toNatClampNeg y2) fun σ_2 =>
  bnd (x5 + 1) fun x5_3 =>
  k79 (x1, x2, x3, x4, x5_3, σ_2)
def b_Mo_work_79 (k70 : Int32 × Int32 × Int32 × Int32 × gS → Option gS) (k79 : Int32 × Int32 × Int32 × Int32 × Int32 × gS → Option gS) (x1 : Int32) (x2 : Int32) (x3 : Int32) (x4 : Int32) (x5 : Int32) (σ : gS) : Option gS :=
  if 2 ≤ x5 then (
    b_Mo_work_196 k70 x1 x2 x3 x4 σ
  ) else (
    ck (okZ 56 x4) <|
    if (gI σ 56 x4.toNatClampNeg) = 0 then (
      b_Mo_work_196 k70 x1 x2 x3 x4 σ
    ) else (
      ck (okI 47 x4) <|
      if (gI σ 47 x4.toNatClampNeg) = 0 then (
        ck (okI 49 ((2 * x4) + x5)) <|
        b_Mo_work_189 k70 k79 x1 x2 x3 x4 x5 ((2 * x4) + x5) ((gI σ 49 ((2 * x4) + x5).toNatClampNeg) * 7776) σ
      ) else (
        ck (okI 47 x4) <|
        if (gI σ 47 x4.toNatClampNeg) = 1 then (
          (f_Mo_mean σ x4 x5).bind fun r_12 =>
          b_Mo_work_189 k70 k79 x1 x2 x3 x4 x5 ((2 * x4) + x5) r_12 σ
        ) else (
          ck (okI 48 x4) <|
          ck (okI 60 (gI σ 48 x4.toNatClampNeg)) <|
          ck (okI 50 ((3 * x4) + (gI σ 60 (gI σ 48 x4.toNatClampNeg).toNatClampNeg))) <|
          ck (okI 58 ((2 * (gI σ 50 ((3 * x4) + (gI σ 60 (gI σ 48 x4.toNatClampNeg).toNatClampNeg)).toNatClampNeg)) + x5)) <|
          b_Mo_work_189 k70 k79 x1 x2 x3 x4 x5 ((2 * x4) + x5) (gI σ 58 ((2 * (gI σ 50 ((3 * x4) + (gI σ 60 (gI σ 48 x4.toNatClampNeg).toNatClampNeg)).toNatClampNeg)) + x5).toNatClampNeg) σ
        )
      )
    )
  )
def l_Mo_work_79 (k70 : Int32 × Int32 × Int32 × Int32 × gS → Option gS) : Int32 × Int32 × Int32 × Int32 × Int32 × gS → Option gS := lpF (fun k x => b_Mo_work_79 k70 k x.1 x.2.1 x.2.2.1 x.2.2.2.1 x.2.2.2.2.1 x.2.2.2.2.2) gF
def b_Mo_work_70 (k70 : Int32 × Int32 × Int32 × Int32 × gS → Option gS) (x1 : Int32) (x2 : Int32) (x3 : Int32) (x4 : Int32) (σ : gS) : Option gS :=
  if x1 < x4 then (
    ck (okI 58 (2 * x1)) <|
    ck (okI 59 ((64 * x2) + x3)) <|
    bnd (sI σ 59 ((64 * x2) + x3).toNatClampNeg (gI σ 58 (2 * x1).toNatClampNeg)) fun σ_4 =>
    ck (okI 58 ((2 * x1) + 1)) <|
    ck (okI 59 ((4096 + (64 * x2)) + x3)) <|
    bnd (sI σ_4 59 ((4096 + (64 * x2)) + x3).toNatClampNeg (gI σ_4 58 ((2 * x1) + 1).toNatClampNeg)) fun σ_7 =>
    some σ_7
  ) else (
    l_Mo_work_79 k70 (x1, x2, x3, x4, 0, σ)
  )
def l_Mo_work_70  : Int32 × Int32 × Int32 × Int32 × gS → Option gS := lpF (fun k x => b_Mo_work_70 k x.1 x.2.1 x.2.2.1 x.2.2.2.1 x.2.2.2.2) gF
def b_Mo_work_60 (k3 : Int32 × Int32 × Int32 × Int32 × gS → Option gS) (x1 : Int32) (x2 : Int32) (x3 : Int32) (x4 : Int32) (y1 : Int32) (y2 : Int32) (σ : gS) : Option gS :=
  ck (okI 60 y1) <|
  bnd (sI σ 60 y1.toNatClampNeg y2) fun σ_2 =>
  bnd (x4 + 1) fun x4_3 =>
  k3 (x1, x2, x3, x4_3, σ_2)
def b_Mo_work_51 (k3 : Int32 × Int32 × Int32 × Int32 × gS → Option gS) (x1 : Int32) (x2 : Int32) (x3 : Int32) (x4 : Int32) (y1 : Int32) (y3 : Int32) (y4 : Int32) (σ : gS) : Option gS :=
  (f_Mo_actOf σ y3 y4 x4).bind fun r_1 =>
  b_Mo_work_60 k3 x1 x2 x3 x4 y1 r_1 σ
def b_Mo_work_3 (k3 : Int32 × Int32 × Int32 × Int32 × gS → Option gS) (x1 : Int32) (x2 : Int32) (x3 : Int32) (x4 : Int32) (σ : gS) : Option gS :=
  if (gI σ 46 1) ≤ x4 then (
    l_Mo_work_70 (x1, x2, x3, 0, σ)
  ) else (
    ck (okZ 57 x4) <|
    if (gI σ 57 x4.toNatClampNeg) = 0 then (
      b_Mo_work_60 k3 x1 x2 x3 x4 x4 0 σ
    ) else (
      ck (okI 54 x4) <|
      ck (okI 54 x4) <|
      if (gI σ 54 x4.toNatClampNeg) = 0 then (
        b_Mo_work_51 k3 x1 x2 x3 x4 x4 (gI σ 54 x4.toNatClampNeg) x2 σ
      ) else (
        b_Mo_work_51 k3 x1 x2 x3 x4 x4 (gI σ 54 x4.toNatClampNeg) x3 σ
      )
    )
  )
def l_Mo_work_3  : Int32 × Int32 × Int32 × Int32 × gS → Option gS := lpF (fun k x => b_Mo_work_3 k x.1 x.2.1 x.2.2.1 x.2.2.2.1 x.2.2.2.2) gF
def b_Mo_work_0 (x1 : Int32) (x2 : Int32) (x3 : Int32) (σ : gS) : Option gS :=
  l_Mo_work_3 (x1, x2, x3, 0, σ)
def f_Mo_work (σ : gS) (x1 : Int32) (x2 : Int32) (x3 : Int32) : Option gS := b_Mo_work_0 x1 x2 x3 σ
def b_Mo_workAll_34 (k24 : Int32 × Int32 × gS → Option gS) (k34 : Int32 × Int32 × Int32 × gS → Option gS) (x1 : Int32) (x2 : Int32) (x3 : Int32) (σ : gS) : Option gS :=
  if (gI σ 46 17) ≤ x3 then (
    bnd (x2 + 1) fun x2_2 =>
    k24 (x1, x2_2, σ)
  ) else (
    (f_Mo_work σ x1 x2 x3).bind fun r_3 =>
    bnd (x3 + 1) fun x3_4 =>
    k34 (x1, x2, x3_4, r_3)
  )
def l_Mo_workAll_34 (k24 : Int32 × Int32 × gS → Option gS) : Int32 × Int32 × Int32 × gS → Option gS := lpF (fun k x => b_Mo_workAll_34 k24 k x.1 x.2.1 x.2.2.1 x.2.2.2) gF
def b_Mo_workAll_24 (k24 : Int32 × Int32 × gS → Option gS) (x1 : Int32) (x2 : Int32) (σ : gS) : Option gS :=
  if (gI σ 46 16) ≤ x2 then (
    some σ
  ) else (
    l_Mo_workAll_34 k24 (x1, x2, 0, σ)
  )
def l_Mo_workAll_24  : Int32 × Int32 × gS → Option gS := lpF (fun k x => b_Mo_workAll_24 k x.1 x.2.1 x.2.2) gF
def b_Mo_workAll_0 (x1 : Int32) (σ : gS) : Option gS :=
  (f_Mo_findTree σ).bind fun r_1 =>
  (f_Mo_plansOf r_1 0).bind fun r_2 =>
  bnd (sI r_1 46 16 r_2) fun σ_3 =>
  (f_Mo_plansOf σ_3 1).bind fun r_4 =>
  bnd (sI σ_3 46 17 r_4) fun σ_5 =>
  l_Mo_workAll_24 (x1, 0, σ_5)
def f_Mo_workAll (σ : gS) (x1 : Int32) : Option gS := b_Mo_workAll_0 x1 σ
def b_Mo_worthTo_0 (σ : gS) (x1 : Int32) (x2 : Int32) (x3 : Int32) : Option Int32 :=
  if x1 = 0 then (
    ck (okI 59 ((64 * x2) + x3)) <|
    some (gI σ 59 ((64 * x2) + x3).toNatClampNeg)
  ) else (
    ck (okI 59 ((4096 + (64 * x3)) + x2)) <|
    some (gI σ 59 ((4096 + (64 * x3)) + x2).toNatClampNeg)
  )
def f_Mo_worthTo (σ : gS) (x1 : Int32) (x2 : Int32) (x3 : Int32) : Option Int32 := b_Mo_worthTo_0 σ x1 x2 x3
def b_Mo_worth_75 (y1 : Int32) (y2 : Int32) (y3 : Int32) (σ : gS) : Option (Int32 × gS) :=
  (f_Mo_worthTo σ y1 y2 y3).bind fun r_1 =>
  some (r_1, σ)
def b_Mo_worth_66 (x1 : Int32) (x2 : Int32) (x3 : Int32) (y1 : Int32) (y2 : Int32) (σ : gS) : Option (Int32 × gS) :=
  if x3 = 0 then (
    b_Mo_worth_75 y1 y2 x2 σ
  ) else (
    b_Mo_worth_75 y1 y2 x1 σ
  )
def b_Mo_worth_0 (x1 : Int32) (x2 : Int32) (x3 : Int32) (σ : gS) : Option (Int32 × gS) :=
  (f_Mo_isFrom x3 0 1).bind fun r_1 =>
  if r_1 = 0 then (
    some ((-1000000), σ)
  ) else (
    if (gI σ 46 0) = 0 then (
      some ((-1000000), σ)
    ) else (
      (f_Mo_root σ).bind fun r_4 =>
      (f_Mo_workAll σ r_4).bind fun r_5 =>
      (f_Mo_isFrom x1 0 ((gI r_5 46 16) - 1)).bind fun r_6 =>
      if r_6 = 0 then (
        some ((-1000000), r_5)
      ) else (
        (f_Mo_isFrom x2 0 ((gI r_5 46 17) - 1)).bind fun r_8 =>
        if r_8 = 0 then (
          some ((-1000000), r_5)
        ) else (
          if x3 = 0 then (
            b_Mo_worth_66 x1 x2 x3 x3 x1 r_5
          ) else (
            b_Mo_worth_66 x1 x2 x3 x3 x2 r_5
          )
        )
      )
    )
  )
def f_Mo_worth (σ : gS) (x1 : Int32) (x2 : Int32) (x3 : Int32) : Option (Int32 × gS) := b_Mo_worth_0 x1 x2 x3 σ
def b_Mo_act_0 (x1 : Int32) (x2 : Int32) (x3 : Int32) (σ : gS) : Option (Int32 × gS) :=
  if (gI σ 46 0) = 0 then (
    some ((-1000000), σ)
  ) else (
    (f_Mo_isFrom x1 0 1).bind fun r_2 =>
    if r_2 = 0 then (
      some ((-2), σ)
    ) else (
      (f_Mo_isFrom x3 0 ((gI σ 46 1) - 1)).bind fun r_4 =>
      if r_4 = 0 then (
        some ((-2), σ)
      ) else (
        (f_Mo_findTree σ).bind fun r_6 =>
        (f_Mo_plansOf r_6 x1).bind fun r_7 =>
        (f_Mo_isFrom x2 0 (r_7 - 1)).bind fun r_8 =>
        if r_8 = 0 then (
          some ((-2), r_6)
        ) else (
          ck (okI 54 x3) <|
          if (gI r_6 54 x3.toNatClampNeg) = x1 then (
            ck (okZ 57 x3) <|
            if (gI r_6 57 x3.toNatClampNeg) = 0 then (
              some ((-1), r_6)
            ) else (
              (f_Mo_actOf r_6 x1 x2 x3).bind fun r_14 =>
              some (r_14, r_6)
            )
          ) else (
            some ((-1), r_6)
          )
        )
      )
    )
  )
def f_Mo_act (σ : gS) (x1 : Int32) (x2 : Int32) (x3 : Int32) : Option (Int32 × gS) := b_Mo_act_0 x1 x2 x3 σ
def b_Mo_many_0 (σ : gS) (x1 : Int32) : Option Int32 :=
  if x1 = 0 then (
    some (gI σ 46 16)
  ) else (
    some (gI σ 46 17)
  )
def f_Mo_many (σ : gS) (x1 : Int32) : Option Int32 := b_Mo_many_0 σ x1
def b_Mo_answerOf_39 (σ : gS) (k5 : Int32 × Int32 × Int32 × Int32 → Option Int32) (x1 : Int32) (x2 : Int32) (x4 : Int32) (y0 : Int32) : Option Int32 :=
  bnd (x4 + 1) fun x4_1 =>
  k5 (x1, x2, y0, x4_1)
def b_Mo_answerOf_5 (σ : gS) (k5 : Int32 × Int32 × Int32 × Int32 → Option Int32) (x1 : Int32) (x2 : Int32) (x3 : Int32) (x4 : Int32) : Option Int32 :=
  (f_Mo_many σ x1).bind fun r_1 =>
  if r_1 ≤ x4 then (
    some x3
  ) else (
    (f_Mo_worthTo σ x1 x4 x2).bind fun r_3 =>
    (f_Mo_worthTo σ x1 x3 x2).bind fun r_4 =>
    if r_3 ≤ r_4 then (
      b_Mo_answerOf_39 σ k5 x1 x2 x4 x3
    ) else (
      b_Mo_answerOf_39 σ k5 x1 x2 x4 x4
    )
  )
def l_Mo_answerOf_5 (σ : gS) : Int32 × Int32 × Int32 × Int32 → Option Int32 := lpF (fun k x => b_Mo_answerOf_5 σ k x.1 x.2.1 x.2.2.1 x.2.2.2) gF
def b_Mo_answerOf_0 (σ : gS) (x1 : Int32) (x2 : Int32) : Option Int32 :=
  l_Mo_answerOf_5 σ (x1, x2, 0, 1)
def f_Mo_answerOf (σ : gS) (x1 : Int32) (x2 : Int32) : Option Int32 := b_Mo_answerOf_0 σ x1 x2
def b_Mo_answer_0 (x1 : Int32) (x2 : Int32) (σ : gS) : Option (Int32 × gS) :=
  if (gI σ 46 0) = 0 then (
    some ((-1000000), σ)
  ) else (
    (f_Mo_isFrom x1 0 1).bind fun r_2 =>
    if r_2 = 0 then (
      some ((-2), σ)
    ) else (
      (f_Mo_root σ).bind fun r_4 =>
      (f_Mo_workAll σ r_4).bind fun r_5 =>
      (f_Mo_many r_5 (1 - x1)).bind fun r_6 =>
      (f_Mo_isFrom x2 0 (r_6 - 1)).bind fun r_7 =>
      if r_7 = 0 then (
        some ((-2), r_5)
      ) else (
        (f_Mo_answerOf r_5 x1 x2).bind fun r_9 =>
        some (r_9, r_5)
      )
    )
  )
def f_Mo_answer (σ : gS) (x1 : Int32) (x2 : Int32) : Option (Int32 × gS) := b_Mo_answer_0 x1 x2 σ
def b_Mo_sift_159 (k88 : Int32 × gS → Option gS) (k111 : Int32 × Int32 × Int32 × gS → Option gS) (x1 : Int32) (x2 : Int32) (x3 : Int32) (y1 : Int32) (y2 : Int32) (σ : gS) : Option gS :=
  ck (okZ 61 y1) <|
  ck (isB y2) <|
  bnd (sI σ 61 y1.toNatClampNeg y2) fun σ_2 =>
  bnd (x3 + 1) fun x3_4 =>
  k111 (x1, x2, x3_4, σ_2)
def b_Mo_sift_158 (k88 : Int32 × gS → Option gS) (k111 : Int32 × Int32 × Int32 × gS → Option gS) (x1 : Int32) (x2 : Int32) (x3 : Int32) (y1 : Int32) (σ : gS) : Option gS :=
  b_Mo_sift_159 k88 k111 x1 x2 x3 y1 0 σ
def b_Mo_sift_111 (k88 : Int32 × gS → Option gS) (k111 : Int32 × Int32 × Int32 × gS → Option gS) (x1 : Int32) (x2 : Int32) (x3 : Int32) (σ : gS) : Option gS :=
  if (gI σ 46 16) ≤ x3 then (
    bnd (x1 + 1) fun x1_2 =>
    k88 (x1_2, σ)
  ) else (
    ck (okZ 61 ((64 * x3) + x1)) <|
    if (gI σ 61 ((64 * x3) + x1).toNatClampNeg) = 0 then (
      b_Mo_sift_158 k88 k111 x1 x2 x3 ((64 * x3) + x1) σ
    ) else (
      (f_Mo_worthTo σ 0 x3 x1).bind fun r_5 =>
      if r_5 = x2 then (
        b_Mo_sift_159 k88 k111 x1 x2 x3 ((64 * x3) + x1) 1 σ
      ) else (
        b_Mo_sift_158 k88 k111 x1 x2 x3 ((64 * x3) + x1) σ
      )
    )
  )
def l_Mo_sift_111 (k88 : Int32 × gS → Option gS) : Int32 × Int32 × Int32 × gS → Option gS := lpF (fun k x => b_Mo_sift_111 k88 k x.1 x.2.1 x.2.2.1 x.2.2.2) gF
def b_Mo_sift_88 (k88 : Int32 × gS → Option gS) (x1 : Int32) (σ : gS) : Option gS :=
  if (gI σ 46 17) ≤ x1 then (
    some σ
  ) else (
    (f_Mo_answerOf σ 0 x1).bind fun r_2 =>
    (f_Mo_worthTo σ 0 r_2 x1).bind fun r_3 =>
    l_Mo_sift_111 k88 (x1, r_3, 0, σ)
  )
def l_Mo_sift_88  : Int32 × gS → Option gS := lpF (fun k x => b_Mo_sift_88 k x.1 x.2) gF
def b_Mo_sift_73 (k2 : Int32 × gS → Option gS) (k25 : Int32 × Int32 × Int32 × gS → Option gS) (x1 : Int32) (x2 : Int32) (x3 : Int32) (y1 : Int32) (y2 : Int32) (σ : gS) : Option gS :=
  ck (okZ 61 y1) <|
  ck (isB y2) <|
  bnd (sI σ 61 y1.toNatClampNeg y2) fun σ_2 =>
  bnd (x3 + 1) fun x3_4 =>
  k25 (x1, x2, x3_4, σ_2)
def b_Mo_sift_72 (k2 : Int32 × gS → Option gS) (k25 : Int32 × Int32 × Int32 × gS → Option gS) (x1 : Int32) (x2 : Int32) (x3 : Int32) (y1 : Int32) (σ : gS) : Option gS :=
  b_Mo_sift_73 k2 k25 x1 x2 x3 y1 0 σ
def b_Mo_sift_25 (k2 : Int32 × gS → Option gS) (k25 : Int32 × Int32 × Int32 × gS → Option gS) (x1 : Int32) (x2 : Int32) (x3 : Int32) (σ : gS) : Option gS :=
  if (gI σ 46 17) ≤ x3 then (
    bnd (x1 + 1) fun x1_2 =>
    k2 (x1_2, σ)
  ) else (
    ck (okZ 61 ((64 * x1) + x3)) <|
    if (gI σ 61 ((64 * x1) + x3).toNatClampNeg) = 0 then (
      b_Mo_sift_72 k2 k25 x1 x2 x3 ((64 * x1) + x3) σ
    ) else (
      (f_Mo_worthTo σ 1 x3 x1).bind fun r_5 =>
      if r_5 = x2 then (
        b_Mo_sift_73 k2 k25 x1 x2 x3 ((64 * x1) + x3) 1 σ
      ) else (
        b_Mo_sift_72 k2 k25 x1 x2 x3 ((64 * x1) + x3) σ
      )
    )
  )
def l_Mo_sift_25 (k2 : Int32 × gS → Option gS) : Int32 × Int32 × Int32 × gS → Option gS := lpF (fun k x => b_Mo_sift_25 k2 k x.1 x.2.1 x.2.2.1 x.2.2.2) gF
def b_Mo_sift_2 (k2 : Int32 × gS → Option gS) (x1 : Int32) (σ : gS) : Option gS :=
  if (gI σ 46 16) ≤ x1 then (
    l_Mo_sift_88 (0, σ)
  ) else (
    (f_Mo_answerOf σ 1 x1).bind fun r_2 =>
    (f_Mo_worthTo σ 1 r_2 x1).bind fun r_3 =>
    l_Mo_sift_25 k2 (x1, r_3, 0, σ)
  )
def l_Mo_sift_2  : Int32 × gS → Option gS := lpF (fun k x => b_Mo_sift_2 k x.1 x.2) gF
def b_Mo_sift_0 (σ : gS) : Option gS :=
  l_Mo_sift_2 (0, σ)
def f_Mo_sift (σ : gS) : Option gS := b_Mo_sift_0 σ
def b_Mo_isBelow_22 (σ : gS) (x2 : Int32) (x3 : Int32) : Option Int32 :=
  if x3 = x2 then (
    ck (isB 1) <| some 1
  ) else (
    ck (isB 0) <| some 0
  )
def b_Mo_isBelow_2 (σ : gS) (k2 : Int32 × Int32 → Option Int32) (x2 : Int32) (x3 : Int32) : Option Int32 :=
  if x3 = (-1) then (
    b_Mo_isBelow_22 σ x2 x3
  ) else (
    if x3 = x2 then (
      b_Mo_isBelow_22 σ x2 x3
    ) else (
      ck (okI 51 x3) <|
      bnd (gI σ 51 x3.toNatClampNeg) fun x3_4 =>
      k2 (x2, x3_4)
    )
  )
def l_Mo_isBelow_2 (σ : gS) : Int32 × Int32 → Option Int32 := lpF (fun k x => b_Mo_isBelow_2 σ k x.1 x.2) gF
def b_Mo_isBelow_0 (σ : gS) (x1 : Int32) (x2 : Int32) : Option Int32 :=
  l_Mo_isBelow_2 σ (x2, x1)
def f_Mo_isBelow (σ : gS) (x1 : Int32) (x2 : Int32) : Option Int32 := b_Mo_isBelow_0 σ x1 x2
def b_Mo_isGame_193 (σ : gS) (k35 : Int32 × Int32 × Int32 → Option Int32) (x1 : Int32) (x2 : Int32) (x3 : Int32) : Option Int32 :=
  bnd (x3 + 1) fun x3_1 =>
  k35 (x1, x2, x3_1)
def b_Mo_isGame_186 (σ : gS) (k35 : Int32 × Int32 × Int32 → Option Int32) (k107 : Int32 × Int32 × Int32 × Int32 × Int32 → Option Int32) (x1 : Int32) (x3 : Int32) (x4 : Int32) (x5 : Int32) (y0 : Int32) : Option Int32 :=
  bnd (x5 + 1) fun x5_1 =>
  k107 (x1, y0, x3, x4, x5_1)
def b_Mo_isGame_185 (σ : gS) (k35 : Int32 × Int32 × Int32 → Option Int32) (k107 : Int32 × Int32 × Int32 × Int32 × Int32 → Option Int32) (x1 : Int32) (x3 : Int32) (x4 : Int32) (x5 : Int32) : Option Int32 :=
  b_Mo_isGame_186 σ k35 k107 x1 x3 x4 x5 0
def b_Mo_isGame_181 (σ : gS) (k35 : Int32 × Int32 × Int32 → Option Int32) (k107 : Int32 × Int32 × Int32 × Int32 × Int32 → Option Int32) (x1 : Int32) (x3 : Int32) (x4 : Int32) (x5 : Int32) : Option Int32 :=
  b_Mo_isGame_186 σ k35 k107 x1 x3 x4 x5 1
def b_Mo_isGame_107 (σ : gS) (k35 : Int32 × Int32 × Int32 → Option Int32) (k107 : Int32 × Int32 × Int32 × Int32 × Int32 → Option Int32) (x1 : Int32) (x2 : Int32) (x3 : Int32) (x4 : Int32) (x5 : Int32) : Option Int32 :=
  if (gI σ 46 0) ≤ x5 then (
    b_Mo_isGame_193 σ k35 x1 x2 x3
  ) else (
    if x4 = 0 then (
      b_Mo_isGame_193 σ k35 x1 x2 x3
    ) else (
      (f_Mo_isBelow σ x3 x1).bind fun r_3 =>
      if r_3 = 0 then (
        b_Mo_isGame_193 σ k35 x1 x2 x3
      ) else (
        if x2 = 0 then (
          b_Mo_isGame_185 σ k35 k107 x1 x3 x4 x5
        ) else (
          ck (okZ 56 x5) <|
          if (gI σ 56 x5.toNatClampNeg) = 0 then (
            b_Mo_isGame_181 σ k35 k107 x1 x3 x4 x5
          ) else (
            ck (okI 47 x5) <|
            if (gI σ 47 x5.toNatClampNeg) = 2 then (
              ck (okI 48 x5) <|
              ck (okI 48 x3) <|
              if (gI σ 48 x5.toNatClampNeg) = (gI σ 48 x3.toNatClampNeg) then (
                (f_Mo_isBelow σ x5 x1).bind fun r_13 =>
                if r_13 = 0 then (
                  b_Mo_isGame_185 σ k35 k107 x1 x3 x4 x5
                ) else (
                  b_Mo_isGame_181 σ k35 k107 x1 x3 x4 x5
                )
              ) else (
                b_Mo_isGame_181 σ k35 k107 x1 x3 x4 x5
              )
            ) else (
              b_Mo_isGame_181 σ k35 k107 x1 x3 x4 x5
            )
          )
        )
      )
    )
  )
def l_Mo_isGame_107 (σ : gS) (k35 : Int32 × Int32 × Int32 → Option Int32) : Int32 × Int32 × Int32 × Int32 × Int32 → Option Int32 := lpF (fun k x => b_Mo_isGame_107 σ k35 k x.1 x.2.1 x.2.2.1 x.2.2.2.1 x.2.2.2.2) gF
def b_Mo_isGame_103 (σ : gS) (k35 : Int32 × Int32 × Int32 → Option Int32) (x1 : Int32) (x3 : Int32) (x4 : Int32) (y0 : Int32) : Option Int32 :=
  l_Mo_isGame_107 σ k35 (x1, y0, x3, x4, 0)
def b_Mo_isGame_102 (σ : gS) (k35 : Int32 × Int32 × Int32 → Option Int32) (x1 : Int32) (x3 : Int32) (x4 : Int32) : Option Int32 :=
  b_Mo_isGame_103 σ k35 x1 x3 x4 0
def b_Mo_isGame_98 (σ : gS) (k35 : Int32 × Int32 × Int32 → Option Int32) (x1 : Int32) (x3 : Int32) (x4 : Int32) : Option Int32 :=
  b_Mo_isGame_103 σ k35 x1 x3 x4 1
def b_Mo_isGame_72 (σ : gS) (k35 : Int32 × Int32 × Int32 → Option Int32) (x1 : Int32) (x2 : Int32) (x3 : Int32) (y0 : Int32) : Option Int32 :=
  if x2 = 0 then (
    b_Mo_isGame_102 σ k35 x1 x3 y0
  ) else (
    if y0 = 0 then (
      b_Mo_isGame_98 σ k35 x1 x3 y0
    ) else (
      ck (okI 48 x3) <|
      ck (okI 48 x1) <|
      if (gI σ 48 x3.toNatClampNeg) = (gI σ 48 x1.toNatClampNeg) then (
        b_Mo_isGame_102 σ k35 x1 x3 y0
      ) else (
        b_Mo_isGame_98 σ k35 x1 x3 y0
      )
    )
  )
def b_Mo_isGame_71 (σ : gS) (k35 : Int32 × Int32 × Int32 → Option Int32) (x1 : Int32) (x2 : Int32) (x3 : Int32) : Option Int32 :=
  b_Mo_isGame_72 σ k35 x1 x2 x3 0
def b_Mo_isGame_35 (σ : gS) (k35 : Int32 × Int32 × Int32 → Option Int32) (x1 : Int32) (x2 : Int32) (x3 : Int32) : Option Int32 :=
  if (gI σ 46 0) ≤ x3 then (
    ck (isB x2) <| some x2
  ) else (
    ck (okZ 56 x3) <|
    if (gI σ 56 x3.toNatClampNeg) = 0 then (
      b_Mo_isGame_71 σ k35 x1 x2 x3
    ) else (
      ck (okI 47 x3) <|
      if (gI σ 47 x3.toNatClampNeg) = 2 then (
        if x3 = x1 then (
          b_Mo_isGame_71 σ k35 x1 x2 x3
        ) else (
          b_Mo_isGame_72 σ k35 x1 x2 x3 1
        )
      ) else (
        b_Mo_isGame_71 σ k35 x1 x2 x3
      )
    )
  )
def l_Mo_isGame_35 (σ : gS) : Int32 × Int32 × Int32 → Option Int32 := lpF (fun k x => b_Mo_isGame_35 σ k x.1 x.2.1 x.2.2) gF
def b_Mo_isGame_0 (σ : gS) (x1 : Int32) : Option Int32 :=
  (f_Mo_root σ).bind fun r_1 =>
  if x1 = r_1 then (
    ck (isB 1) <| some 1
  ) else (
    ck (okZ 56 x1) <|
    if (gI σ 56 x1.toNatClampNeg) = 0 then (
      ck (isB 0) <| some 0
    ) else (
      ck (okI 47 x1) <|
      if (gI σ 47 x1.toNatClampNeg) = 2 then (
        l_Mo_isGame_35 σ (x1, 1, 0)
      ) else (
        ck (isB 0) <| some 0
      )
    )
  )
def f_Mo_isGame (σ : gS) (x1 : Int32) : Option Int32 := b_Mo_isGame_0 σ x1
def b_Mo_findPoints_65 (k36 : Int32 × Int32 × gS → Option gS) (x1 : Int32) (x2 : Int32) (σ : gS) : Option gS :=
  bnd (x2 + 1) fun x2_1 =>
  k36 (x1, x2_1, σ)
def b_Mo_findPoints_36 (k36 : Int32 × Int32 × gS → Option gS) (x1 : Int32) (x2 : Int32) (σ : gS) : Option gS :=
  (f_Mo_root σ).bind fun r_1 =>
  if r_1 ≤ x2 then (
    some σ
  ) else (
    if x1 = 0 then (
      some σ
    ) else (
      (f_Mo_isGame σ x2).bind fun r_4 =>
      if r_4 = 0 then (
        b_Mo_findPoints_65 k36 x1 x2 σ
      ) else (
        (f_Mo_workAll σ x2).bind fun r_6 =>
        (f_Mo_sift r_6).bind fun r_7 =>
        b_Mo_findPoints_65 k36 x1 x2 r_7
      )
    )
  )
def l_Mo_findPoints_36  : Int32 × Int32 × gS → Option gS := lpF (fun k x => b_Mo_findPoints_36 k x.1 x.2.1 x.2.2) gF
def b_Mo_findPoints_2 (k2 : Int32 × Int32 × gS → Option gS) (x1 : Int32) (x2 : Int32) (σ : gS) : Option gS :=
  if 4096 ≤ x2 then (
    (f_Mo_root σ).bind fun r_2 =>
    (f_Mo_workAll σ r_2).bind fun r_3 =>
    (f_Mo_sift r_3).bind fun r_4 =>
    l_Mo_findPoints_36 (x1, 0, r_4)
  ) else (
    ck (okZ 61 x2) <|
    ck (isB 1) <|
    bnd (sI σ 61 x2.toNatClampNeg 1) fun σ_6 =>
    bnd (x2 + 1) fun x2_8 =>
    k2 (x1, x2_8, σ_6)
  )
def l_Mo_findPoints_2  : Int32 × Int32 × gS → Option gS := lpF (fun k x => b_Mo_findPoints_2 k x.1 x.2.1 x.2.2) gF
def b_Mo_findPoints_0 (x1 : Int32) (σ : gS) : Option gS :=
  l_Mo_findPoints_2 (x1, 0, σ)
def f_Mo_findPoints (σ : gS) (x1 : Int32) : Option gS := b_Mo_findPoints_0 x1 σ
def b_Mo_countPoints_79 (k15 : Int32 × Int32 × Int32 × gS → Option (Int32 × gS)) (k27 : Int32 × Int32 × Int32 × Int32 × gS → Option (Int32 × gS)) (x2 : Int32) (x3 : Int32) (x4 : Int32) (x5 : Int32) (σ : gS) : Option (Int32 × gS) :=
  bnd (x5 + 1) fun x5_1 =>
  k27 (x2, x3, x4, x5_1, σ)
def b_Mo_countPoints_73 (k15 : Int32 × Int32 × Int32 × gS → Option (Int32 × gS)) (k27 : Int32 × Int32 × Int32 × Int32 × gS → Option (Int32 × gS)) (x2 : Int32) (x3 : Int32) (x4 : Int32) (x5 : Int32) (y1 : Int32) (σ : gS) : Option (Int32 × gS) :=
  bnd (sI σ 46 19 y1) fun σ_1 =>
  bnd (x3 + 1) fun x3_2 =>
  b_Mo_countPoints_79 k15 k27 x2 x3_2 x4 x5 σ_1
def b_Mo_countPoints_27 (k15 : Int32 × Int32 × Int32 × gS → Option (Int32 × gS)) (k27 : Int32 × Int32 × Int32 × Int32 × gS → Option (Int32 × gS)) (x2 : Int32) (x3 : Int32) (x4 : Int32) (x5 : Int32) (σ : gS) : Option (Int32 × gS) :=
  if (gI σ 46 17) ≤ x5 then (
    bnd (x4 + 1) fun x4_2 =>
    k15 (x2, x3, x4_2, σ)
  ) else (
    ck (okZ 61 ((64 * x4) + x5)) <|
    if (gI σ 61 ((64 * x4) + x5).toNatClampNeg) = 0 then (
      b_Mo_countPoints_79 k15 k27 x2 x3 x4 x5 σ
    ) else (
      if x3 = x2 then (
        b_Mo_countPoints_73 k15 k27 x2 x3 x4 x5 ((64 * x4) + x5) σ
      ) else (
        b_Mo_countPoints_73 k15 k27 x2 x3 x4 x5 (gI σ 46 19) σ
      )
    )
  )
def l_Mo_countPoints_27 (k15 : Int32 × Int32 × Int32 × gS → Option (Int32 × gS)) : Int32 × Int32 × Int32 × Int32 × gS → Option (Int32 × gS) := lpF (fun k x => b_Mo_countPoints_27 k15 k x.1 x.2.1 x.2.2.1 x.2.2.2.1 x.2.2.2.2) gF
def b_Mo_countPoints_15 (k15 : Int32 × Int32 × Int32 × gS → Option (Int32 × gS)) (x2 : Int32) (x3 : Int32) (x4 : Int32) (σ : gS) : Option (Int32 × gS) :=
  if (gI σ 46 16) ≤ x4 then (
    some (x3, σ)
  ) else (
    l_Mo_countPoints_27 k15 (x2, x3, x4, 0, σ)
  )
def l_Mo_countPoints_15  : Int32 × Int32 × Int32 × gS → Option (Int32 × gS) := lpF (fun k x => b_Mo_countPoints_15 k x.1 x.2.1 x.2.2.1 x.2.2.2) gF
def b_Mo_countPoints_0 (x1 : Int32) (x2 : Int32) (σ : gS) : Option (Int32 × gS) :=
  (f_Mo_findPoints σ x1).bind fun r_1 =>
  bnd (sI r_1 46 19 (-1)) fun σ_2 =>
  l_Mo_countPoints_15 (x2, 0, 0, σ_2)
def f_Mo_countPoints (σ : gS) (x1 : Int32) (x2 : Int32) : Option (Int32 × gS) := b_Mo_countPoints_0 x1 x2 σ
def b_Mo_point_0 (x1 : Int32) (x2 : Int32) (σ : gS) : Option (Int32 × gS) :=
  if (gI σ 46 0) = 0 then (
    some ((-1000000), σ)
  ) else (
    (f_Mo_countPoints σ x1 x2).bind fun r_2 =>
    some (gI r_2.2 46 19, r_2.2)
  )
def f_Mo_point (σ : gS) (x1 : Int32) (x2 : Int32) : Option (Int32 × gS) := b_Mo_point_0 x1 x2 σ
def b_Mo_games_49 (k13 : Int32 × Int32 × Int32 × gS → Option (Int32 × gS)) (x1 : Int32) (x2 : Int32) (x3 : Int32) (σ : gS) : Option (Int32 × gS) :=
  bnd (x3 + 1) fun x3_1 =>
  k13 (x1, x2, x3_1, σ)
def b_Mo_games_43 (k13 : Int32 × Int32 × Int32 × gS → Option (Int32 × gS)) (x1 : Int32) (x2 : Int32) (x3 : Int32) (y1 : Int32) (σ : gS) : Option (Int32 × gS) :=
  bnd (sI σ 46 20 y1) fun σ_1 =>
  bnd (x2 + 1) fun x2_2 =>
  b_Mo_games_49 k13 x1 x2_2 x3 σ_1
def b_Mo_games_13 (k13 : Int32 × Int32 × Int32 × gS → Option (Int32 × gS)) (x1 : Int32) (x2 : Int32) (x3 : Int32) (σ : gS) : Option (Int32 × gS) :=
  if (gI σ 46 0) ≤ x3 then (
    some (x2, σ)
  ) else (
    (f_Mo_isGame σ x3).bind fun r_2 =>
    if r_2 = 0 then (
      b_Mo_games_49 k13 x1 x2 x3 σ
    ) else (
      if x2 = x1 then (
        b_Mo_games_43 k13 x1 x2 x3 x3 σ
      ) else (
        b_Mo_games_43 k13 x1 x2 x3 (gI σ 46 20) σ
      )
    )
  )
def l_Mo_games_13  : Int32 × Int32 × Int32 × gS → Option (Int32 × gS) := lpF (fun k x => b_Mo_games_13 k x.1 x.2.1 x.2.2.1 x.2.2.2) gF
def b_Mo_games_0 (x1 : Int32) (σ : gS) : Option (Int32 × gS) :=
  (f_Mo_findTree σ).bind fun r_1 =>
  bnd (sI r_1 46 20 (-1)) fun σ_2 =>
  l_Mo_games_13 (x1, 0, 0, σ_2)
def f_Mo_games (σ : gS) (x1 : Int32) : Option (Int32 × gS) := b_Mo_games_0 x1 σ
def b_Mo_within_0 (x1 : Int32) (σ : gS) : Option (Int32 × gS) :=
  if (gI σ 46 0) = 0 then (
    some ((-1000000), σ)
  ) else (
    (f_Mo_games σ x1).bind fun r_2 =>
    some (gI r_2.2 46 20, r_2.2)
  )
def f_Mo_within (σ : gS) (x1 : Int32) : Option (Int32 × gS) := b_Mo_within_0 x1 σ
def b_Mo_allLeft_2 (k2 : Int32 × gS → Option gS) (x1 : Int32) (σ : gS) : Option gS :=
  if 128 ≤ x1 then (
    some σ
  ) else (
    ck (okZ 62 x1) <|
    ck (isB 1) <|
    bnd (sI σ 62 x1.toNatClampNeg 1) fun σ_3 =>
    ck (okI 63 x1) <|
    bnd (sI σ_3 63 x1.toNatClampNeg (-1)) fun σ_6 =>
    bnd (x1 + 1) fun x1_7 =>
    k2 (x1_7, σ_6)
  )
def l_Mo_allLeft_2  : Int32 × gS → Option gS := lpF (fun k x => b_Mo_allLeft_2 k x.1 x.2) gF
def b_Mo_allLeft_0 (σ : gS) : Option gS :=
  l_Mo_allLeft_2 (0, σ)
def f_Mo_allLeft (σ : gS) : Option gS := b_Mo_allLeft_0 σ
def b_Mo_isLeft_0 (σ : gS) (x1 : Int32) (x2 : Int32) : Option Int32 :=
  ck (okZ 62 ((64 * x1) + x2)) <|
  ck (isB (gI σ 62 ((64 * x1) + x2).toNatClampNeg)) <| some (gI σ 62 ((64 * x1) + x2).toNatClampNeg)
def f_Mo_isLeft (σ : gS) (x1 : Int32) (x2 : Int32) : Option Int32 := b_Mo_isLeft_0 σ x1 x2
def b_Mo_isWorse_59 (σ : gS) (k6 : Int32 × Int32 × Int32 × Int32 × Int32 → Option Int32) (x1 : Int32) (x2 : Int32) (x3 : Int32) (x5 : Int32) (y0 : Int32) : Option Int32 :=
  bnd (x5 + 1) fun x5_1 =>
  k6 (x1, x2, x3, y0, x5_1)
def b_Mo_isWorse_54 (σ : gS) (k6 : Int32 × Int32 × Int32 × Int32 × Int32 → Option Int32) (x1 : Int32) (x2 : Int32) (x3 : Int32) (x5 : Int32) : Option Int32 :=
  b_Mo_isWorse_59 σ k6 x1 x2 x3 x5 1
def b_Mo_isWorse_6 (σ : gS) (k6 : Int32 × Int32 × Int32 × Int32 × Int32 → Option Int32) (x1 : Int32) (x2 : Int32) (x3 : Int32) (x4 : Int32) (x5 : Int32) : Option Int32 :=
  (f_Mo_many σ (1 - x1)).bind fun r_1 =>
  if r_1 ≤ x5 then (
    ck (isB x4) <| some x4
  ) else (
    if x4 = 0 then (
      ck (isB x4) <| some x4
    ) else (
      (f_Mo_isLeft σ (1 - x1) x5).bind fun r_4 =>
      if r_4 = 0 then (
        b_Mo_isWorse_54 σ k6 x1 x2 x3 x5
      ) else (
        (f_Mo_worthTo σ x1 x2 x5).bind fun r_6 =>
        (f_Mo_worthTo σ x1 x3 x5).bind fun r_7 =>
        if r_7 ≤ r_6 then (
          b_Mo_isWorse_59 σ k6 x1 x2 x3 x5 0
        ) else (
          b_Mo_isWorse_54 σ k6 x1 x2 x3 x5
        )
      )
    )
  )
def l_Mo_isWorse_6 (σ : gS) : Int32 × Int32 × Int32 × Int32 × Int32 → Option Int32 := lpF (fun k x => b_Mo_isWorse_6 σ k x.1 x.2.1 x.2.2.1 x.2.2.2.1 x.2.2.2.2) gF
def b_Mo_isWorse_0 (σ : gS) (x1 : Int32) (x2 : Int32) (x3 : Int32) : Option Int32 :=
  l_Mo_isWorse_6 σ (x1, x2, x3, 1, 0)
def f_Mo_isWorse (σ : gS) (x1 : Int32) (x2 : Int32) (x3 : Int32) : Option Int32 := b_Mo_isWorse_0 σ x1 x2 x3
def b_Mo_isWeaker_81 (σ : gS) (k9 : Int32 × Int32 × Int32 × Int32 × Int32 × Int32 → Option Int32) (x1 : Int32) (x2 : Int32) (x3 : Int32) (x4 : Int32) (x6 : Int32) (y0 : Int32) : Option Int32 :=
  bnd (x6 + 1) fun x6_1 =>
  k9 (x1, x2, x3, x4, y0, x6_1)
def b_Mo_isWeaker_76 (σ : gS) (k9 : Int32 × Int32 × Int32 × Int32 × Int32 × Int32 → Option Int32) (x1 : Int32) (x2 : Int32) (x3 : Int32) (x4 : Int32) (x6 : Int32) : Option Int32 :=
  b_Mo_isWeaker_81 σ k9 x1 x2 x3 x4 x6 1
def b_Mo_isWeaker_50 (σ : gS) (k9 : Int32 × Int32 × Int32 × Int32 × Int32 × Int32 → Option Int32) (x1 : Int32) (x2 : Int32) (x3 : Int32) (x5 : Int32) (x6 : Int32) (y0 : Int32) : Option Int32 :=
  if x5 = 0 then (
    (f_Mo_worthTo σ x1 x2 x6).bind fun r_2 =>
    (f_Mo_worthTo σ x1 x3 x6).bind fun r_3 =>
    if r_3 ≤ r_2 then (
      b_Mo_isWeaker_81 σ k9 x1 x2 x3 y0 x6 0
    ) else (
      b_Mo_isWeaker_76 σ k9 x1 x2 x3 y0 x6
    )
  ) else (
    b_Mo_isWeaker_76 σ k9 x1 x2 x3 y0 x6
  )
def b_Mo_isWeaker_49 (σ : gS) (k9 : Int32 × Int32 × Int32 × Int32 × Int32 × Int32 → Option Int32) (x1 : Int32) (x2 : Int32) (x3 : Int32) (x5 : Int32) (x6 : Int32) : Option Int32 :=
  b_Mo_isWeaker_50 σ k9 x1 x2 x3 x5 x6 0
def b_Mo_isWeaker_9 (σ : gS) (k9 : Int32 × Int32 × Int32 × Int32 × Int32 × Int32 → Option Int32) (x1 : Int32) (x2 : Int32) (x3 : Int32) (x4 : Int32) (x5 : Int32) (x6 : Int32) : Option Int32 :=
  (f_Mo_many σ (1 - x1)).bind fun r_1 =>
  if r_1 ≤ x6 then (
    if x4 = 0 then (
      ck (isB 0) <| some 0
    ) else (
      if x5 = 0 then (
        ck (isB 0) <| some 0
      ) else (
        ck (isB 1) <| some 1
      )
    )
  ) else (
    if x4 = 0 then (
      b_Mo_isWeaker_49 σ k9 x1 x2 x3 x5 x6
    ) else (
      (f_Mo_worthTo σ x1 x2 x6).bind fun r_6 =>
      (f_Mo_worthTo σ x1 x3 x6).bind fun r_7 =>
      if r_7 < r_6 then (
        b_Mo_isWeaker_49 σ k9 x1 x2 x3 x5 x6
      ) else (
        b_Mo_isWeaker_50 σ k9 x1 x2 x3 x5 x6 1
      )
    )
  )
def l_Mo_isWeaker_9 (σ : gS) : Int32 × Int32 × Int32 × Int32 × Int32 × Int32 → Option Int32 := lpF (fun k x => b_Mo_isWeaker_9 σ k x.1 x.2.1 x.2.2.1 x.2.2.2.1 x.2.2.2.2.1 x.2.2.2.2.2) gF
def b_Mo_isWeaker_0 (σ : gS) (x1 : Int32) (x2 : Int32) (x3 : Int32) : Option Int32 :=
  l_Mo_isWeaker_9 σ (x1, x2, x3, 1, 0, 0)
def f_Mo_isWeaker (σ : gS) (x1 : Int32) (x2 : Int32) (x3 : Int32) : Option Int32 := b_Mo_isWeaker_0 σ x1 x2 x3
def b_Mo_isOne_116 (σ : gS) (k6 : Int32 × Int32 × Int32 × Int32 × Int32 → Option Int32) (x1 : Int32) (x2 : Int32) (x3 : Int32) (x5 : Int32) (y0 : Int32) : Option Int32 :=
  bnd (x5 + 1) fun x5_1 =>
  k6 (x1, x2, x3, y0, x5_1)
def b_Mo_isOne_115 (σ : gS) (k6 : Int32 × Int32 × Int32 × Int32 × Int32 → Option Int32) (x1 : Int32) (x2 : Int32) (x3 : Int32) (x5 : Int32) : Option Int32 :=
  b_Mo_isOne_116 σ k6 x1 x2 x3 x5 0
def b_Mo_isOne_62 (σ : gS) (k6 : Int32 × Int32 × Int32 × Int32 × Int32 → Option Int32) (x1 : Int32) (x2 : Int32) (x3 : Int32) (x4 : Int32) (x5 : Int32) (x6 : Int32) (y0 : Int32) : Option Int32 :=
  if x4 = 0 then (
    b_Mo_isOne_115 σ k6 x1 x2 x3 x5
  ) else (
    ck (okI 59 x6) <|
    ck (okI 59 y0) <|
    if (gI σ 59 x6.toNatClampNeg) = (gI σ 59 y0.toNatClampNeg) then (
      ck (okI 59 (4096 + x6)) <|
      ck (okI 59 (4096 + y0)) <|
      if (gI σ 59 (4096 + x6).toNatClampNeg) = (gI σ 59 (4096 + y0).toNatClampNeg) then (
        b_Mo_isOne_116 σ k6 x1 x2 x3 x5 1
      ) else (
        b_Mo_isOne_115 σ k6 x1 x2 x3 x5
      )
    ) else (
      b_Mo_isOne_115 σ k6 x1 x2 x3 x5
    )
  )
def b_Mo_isOne_39 (σ : gS) (k6 : Int32 × Int32 × Int32 × Int32 × Int32 → Option Int32) (x1 : Int32) (x2 : Int32) (x3 : Int32) (x4 : Int32) (x5 : Int32) (y0 : Int32) : Option Int32 :=
  if x1 = 0 then (
    b_Mo_isOne_62 σ k6 x1 x2 x3 x4 x5 y0 ((64 * x3) + x5)
  ) else (
    b_Mo_isOne_62 σ k6 x1 x2 x3 x4 x5 y0 ((64 * x5) + x3)
  )
def b_Mo_isOne_6 (σ : gS) (k6 : Int32 × Int32 × Int32 × Int32 × Int32 → Option Int32) (x1 : Int32) (x2 : Int32) (x3 : Int32) (x4 : Int32) (x5 : Int32) : Option Int32 :=
  (f_Mo_many σ (1 - x1)).bind fun r_1 =>
  if r_1 ≤ x5 then (
    ck (isB x4) <| some x4
  ) else (
    if x1 = 0 then (
      b_Mo_isOne_39 σ k6 x1 x2 x3 x4 x5 ((64 * x2) + x5)
    ) else (
      b_Mo_isOne_39 σ k6 x1 x2 x3 x4 x5 ((64 * x5) + x2)
    )
  )
def l_Mo_isOne_6 (σ : gS) : Int32 × Int32 × Int32 × Int32 × Int32 → Option Int32 := lpF (fun k x => b_Mo_isOne_6 σ k x.1 x.2.1 x.2.2.1 x.2.2.2.1 x.2.2.2.2) gF
def b_Mo_isOne_0 (σ : gS) (x1 : Int32) (x2 : Int32) (x3 : Int32) : Option Int32 :=
  l_Mo_isOne_6 σ (x1, x2, x3, 1, 0)
def f_Mo_isOne (σ : gS) (x1 : Int32) (x2 : Int32) (x3 : Int32) : Option Int32 := b_Mo_isOne_0 σ x1 x2 x3
def b_Mo_than_136 (k67 : Int32 × Int32 × Int32 × Int32 × Int32 × gS → Option (Int32 × gS)) (x1 : Int32) (x2 : Int32) (x3 : Int32) (x5 : Int32) (y0 : Int32) (σ : gS) : Option (Int32 × gS) :=
  bnd (x5 + 1) fun x5_1 =>
  k67 (x1, x2, x3, y0, x5_1, σ)
def b_Mo_than_122 (k67 : Int32 × Int32 × Int32 × Int32 × Int32 × gS → Option (Int32 × gS)) (x1 : Int32) (x2 : Int32) (x3 : Int32) (x4 : Int32) (x5 : Int32) (y0 : Int32) (σ : gS) : Option (Int32 × gS) :=
  if y0 = 0 then (
    b_Mo_than_136 k67 x1 x2 x3 x5 x4 σ
  ) else (
    b_Mo_than_136 k67 x1 x2 x3 x5 x5 σ
  )
def b_Mo_than_67 (k67 : Int32 × Int32 × Int32 × Int32 × Int32 × gS → Option (Int32 × gS)) (x1 : Int32) (x2 : Int32) (x3 : Int32) (x4 : Int32) (x5 : Int32) (σ : gS) : Option (Int32 × gS) :=
  (f_Mo_many σ x1).bind fun r_1 =>
  if r_1 ≤ x5 then (
    some (x4, σ)
  ) else (
    if x4 = (-1) then (
      if x3 = 0 then (
        (f_Mo_isWorse σ x1 x2 x5).bind fun r_8 =>
        b_Mo_than_122 k67 x1 x2 x3 x4 x5 r_8 σ
      ) else (
        if x3 = 1 then (
          (f_Mo_isWeaker σ x1 x2 x5).bind fun r_7 =>
          b_Mo_than_122 k67 x1 x2 x3 x4 x5 r_7 σ
        ) else (
          (f_Mo_isOne σ x1 x2 x5).bind fun r_6 =>
          b_Mo_than_122 k67 x1 x2 x3 x4 x5 r_6 σ
        )
      )
    ) else (
      some (x4, σ)
    )
  )
def l_Mo_than_67  : Int32 × Int32 × Int32 × Int32 × Int32 × gS → Option (Int32 × gS) := lpF (fun k x => b_Mo_than_67 k x.1 x.2.1 x.2.2.1 x.2.2.2.1 x.2.2.2.2.1 x.2.2.2.2.2) gF
def b_Mo_than_0 (x1 : Int32) (x2 : Int32) (x3 : Int32) (σ : gS) : Option (Int32 × gS) :=
  if (gI σ 46 0) = 0 then (
    some ((-1000000), σ)
  ) else (
    (f_Mo_isFrom x1 0 1).bind fun r_2 =>
    if r_2 = 0 then (
      some ((-2), σ)
    ) else (
      (f_Mo_isFrom x3 0 2).bind fun r_4 =>
      if r_4 = 0 then (
        some ((-2), σ)
      ) else (
        (f_Mo_root σ).bind fun r_6 =>
        (f_Mo_workAll σ r_6).bind fun r_7 =>
        (f_Mo_many r_7 x1).bind fun r_8 =>
        (f_Mo_isFrom x2 0 (r_8 - 1)).bind fun r_9 =>
        if r_9 = 0 then (
          some ((-2), r_7)
        ) else (
          (f_Mo_allLeft r_7).bind fun r_11 =>
          l_Mo_than_67 (x1, x2, x3, (-1), 0, r_11)
        )
      )
    )
  )
def f_Mo_than (σ : gS) (x1 : Int32) (x2 : Int32) (x3 : Int32) : Option (Int32 × gS) := b_Mo_than_0 x1 x2 x3 σ
def b_Mo_isWorst_45 (σ : gS) (k5 : Int32 × Int32 × Int32 × Int32 → Option Int32) (x1 : Int32) (x2 : Int32) (x4 : Int32) (y0 : Int32) : Option Int32 :=
  bnd (x4 + 1) fun x4_1 =>
  k5 (x1, x2, y0, x4_1)
def b_Mo_isWorst_44 (σ : gS) (k5 : Int32 × Int32 × Int32 × Int32 → Option Int32) (x1 : Int32) (x2 : Int32) (x4 : Int32) : Option Int32 :=
  b_Mo_isWorst_45 σ k5 x1 x2 x4 0
def b_Mo_isWorst_5 (σ : gS) (k5 : Int32 × Int32 × Int32 × Int32 → Option Int32) (x1 : Int32) (x2 : Int32) (x3 : Int32) (x4 : Int32) : Option Int32 :=
  (f_Mo_many σ x1).bind fun r_1 =>
  if r_1 ≤ x4 then (
    ck (isB x3) <| some x3
  ) else (
    if x3 = 0 then (
      (f_Mo_isLeft σ x1 x4).bind fun r_4 =>
      if r_4 = 0 then (
        b_Mo_isWorst_44 σ k5 x1 x2 x4
      ) else (
        (f_Mo_isWorse σ x1 x2 x4).bind fun r_6 =>
        if r_6 = 0 then (
          b_Mo_isWorst_44 σ k5 x1 x2 x4
        ) else (
          b_Mo_isWorst_45 σ k5 x1 x2 x4 1
        )
      )
    ) else (
      ck (isB x3) <| some x3
    )
  )
def l_Mo_isWorst_5 (σ : gS) : Int32 × Int32 × Int32 × Int32 → Option Int32 := lpF (fun k x => b_Mo_isWorst_5 σ k x.1 x.2.1 x.2.2.1 x.2.2.2) gF
def b_Mo_isWorst_0 (σ : gS) (x1 : Int32) (x2 : Int32) : Option Int32 :=
  l_Mo_isWorst_5 σ (x1, x2, 0, 0)
def f_Mo_isWorst (σ : gS) (x1 : Int32) (x2 : Int32) : Option Int32 := b_Mo_isWorst_0 σ x1 x2
def b_Mo_leftOf_29 (σ : gS) (k4 : Int32 × Int32 × Int32 → Option Int32) (x1 : Int32) (x3 : Int32) (y0 : Int32) : Option Int32 :=
  bnd (x3 + 1) fun x3_1 =>
  k4 (x1, y0, x3_1)
def b_Mo_leftOf_4 (σ : gS) (k4 : Int32 × Int32 × Int32 → Option Int32) (x1 : Int32) (x2 : Int32) (x3 : Int32) : Option Int32 :=
  (f_Mo_many σ x1).bind fun r_1 =>
  if r_1 ≤ x3 then (
    some x2
  ) else (
    (f_Mo_isLeft σ x1 x3).bind fun r_3 =>
    if r_3 = 0 then (
      b_Mo_leftOf_29 σ k4 x1 x3 x2
    ) else (
      b_Mo_leftOf_29 σ k4 x1 x3 (x2 + 1)
    )
  )
def l_Mo_leftOf_4 (σ : gS) : Int32 × Int32 × Int32 → Option Int32 := lpF (fun k x => b_Mo_leftOf_4 σ k x.1 x.2.1 x.2.2) gF
def b_Mo_leftOf_0 (σ : gS) (x1 : Int32) : Option Int32 :=
  l_Mo_leftOf_4 σ (x1, 0, 0)
def f_Mo_leftOf (σ : gS) (x1 : Int32) : Option Int32 := b_Mo_leftOf_0 σ x1
def b_Mo_doRounds_168 (k16 : Int32 × Int32 × gS → Option (Int32 × gS)) (k108 : Int32 × Int32 × Int32 × gS → Option (Int32 × gS)) (x1 : Int32) (x2 : Int32) (x3 : Int32) (y1 : Int32) (y2 : Int32) (σ : gS) : Option (Int32 × gS) :=
  ck (okI 63 y1) <|
  bnd (sI σ 63 y1.toNatClampNeg y2) fun σ_2 =>
  bnd (x3 + 1) fun x3_3 =>
  k108 (x1, x2, x3_3, σ_2)
def b_Mo_doRounds_143 (k16 : Int32 × Int32 × gS → Option (Int32 × gS)) (k108 : Int32 × Int32 × Int32 × gS → Option (Int32 × gS)) (x1 : Int32) (x2 : Int32) (x3 : Int32) (y1 : Int32) (y2 : Int32) (σ : gS) : Option (Int32 × gS) :=
  ck (okZ 62 y1) <|
  ck (isB y2) <|
  bnd (sI σ 62 y1.toNatClampNeg y2) fun σ_2 =>
  ck (okZ 64 x3) <|
  if (gI σ_2 64 x3.toNatClampNeg) = 0 then (
    ck (okI 63 x3) <|
    b_Mo_doRounds_168 k16 k108 x1 x2 x3 x3 (gI σ_2 63 x3.toNatClampNeg) σ_2
  ) else (
    b_Mo_doRounds_168 k16 k108 x1 x2 x3 x3 x2 σ_2
  )
def b_Mo_doRounds_142 (k16 : Int32 × Int32 × gS → Option (Int32 × gS)) (k108 : Int32 × Int32 × Int32 × gS → Option (Int32 × gS)) (x1 : Int32) (x2 : Int32) (x3 : Int32) (y1 : Int32) (σ : gS) : Option (Int32 × gS) :=
  b_Mo_doRounds_143 k16 k108 x1 x2 x3 y1 0 σ
def b_Mo_doRounds_108 (k16 : Int32 × Int32 × gS → Option (Int32 × gS)) (k108 : Int32 × Int32 × Int32 × gS → Option (Int32 × gS)) (x1 : Int32) (x2 : Int32) (x3 : Int32) (σ : gS) : Option (Int32 × gS) :=
  if 128 ≤ x3 then (
    bnd (x2 + 1) fun x2_2 =>
    k16 (x1, x2_2, σ)
  ) else (
    ck (okZ 62 x3) <|
    if (gI σ 62 x3.toNatClampNeg) = 0 then (
      b_Mo_doRounds_142 k16 k108 x1 x2 x3 x3 σ
    ) else (
      ck (okZ 64 x3) <|
      if (gI σ 64 x3.toNatClampNeg) = 0 then (
        b_Mo_doRounds_143 k16 k108 x1 x2 x3 x3 1 σ
      ) else (
        b_Mo_doRounds_142 k16 k108 x1 x2 x3 x3 σ
      )
    )
  )
def l_Mo_doRounds_108 (k16 : Int32 × Int32 × gS → Option (Int32 × gS)) : Int32 × Int32 × Int32 × gS → Option (Int32 × gS) := lpF (fun k x => b_Mo_doRounds_108 k16 k x.1 x.2.1 x.2.2.1 x.2.2.2) gF
def b_Mo_doRounds_99 (k16 : Int32 × Int32 × gS → Option (Int32 × gS)) (k24 : Int32 × Int32 × Int32 × gS → Option (Int32 × gS)) (x2 : Int32) (x3 : Int32) (y0 : Int32) (σ : gS) : Option (Int32 × gS) :=
  bnd (x3 + 1) fun x3_1 =>
  k24 (y0, x2, x3_1, σ)
def b_Mo_doRounds_94 (k16 : Int32 × Int32 × gS → Option (Int32 × gS)) (k24 : Int32 × Int32 × Int32 × gS → Option (Int32 × gS)) (x2 : Int32) (x3 : Int32) (σ : gS) : Option (Int32 × gS) :=
  b_Mo_doRounds_99 k16 k24 x2 x3 1 σ
def b_Mo_doRounds_80 (k16 : Int32 × Int32 × gS → Option (Int32 × gS)) (k24 : Int32 × Int32 × Int32 × gS → Option (Int32 × gS)) (x1 : Int32) (x2 : Int32) (x3 : Int32) (y1 : Int32) (y2 : Int32) (σ : gS) : Option (Int32 × gS) :=
  ck (okZ 64 y1) <|
  ck (isB y2) <|
  bnd (sI σ 64 y1.toNatClampNeg y2) fun σ_2 =>
  if x1 = 0 then (
    ck (okZ 64 x3) <|
    if (gI σ_2 64 x3.toNatClampNeg) = 0 then (
      b_Mo_doRounds_99 k16 k24 x2 x3 0 σ_2
    ) else (
      b_Mo_doRounds_94 k16 k24 x2 x3 σ_2
    )
  ) else (
    b_Mo_doRounds_94 k16 k24 x2 x3 σ_2
  )
def b_Mo_doRounds_79 (k16 : Int32 × Int32 × gS → Option (Int32 × gS)) (k24 : Int32 × Int32 × Int32 × gS → Option (Int32 × gS)) (x1 : Int32) (x2 : Int32) (x3 : Int32) (y1 : Int32) (σ : gS) : Option (Int32 × gS) :=
  b_Mo_doRounds_80 k16 k24 x1 x2 x3 y1 0 σ
def b_Mo_doRounds_24 (k16 : Int32 × Int32 × gS → Option (Int32 × gS)) (k24 : Int32 × Int32 × Int32 × gS → Option (Int32 × gS)) (x1 : Int32) (x2 : Int32) (x3 : Int32) (σ : gS) : Option (Int32 × gS) :=
  if 128 ≤ x3 then (
    l_Mo_doRounds_108 k16 (x1, x2, 0, σ)
  ) else (
    ck (nz 64) <|
    ck (nz 64) <|
    (f_Mo_many σ (x3 / 64)).bind fun r_4 =>
    if r_4 ≤ (x3 - x3 / 64 * 64) then (
      b_Mo_doRounds_79 k16 k24 x1 x2 x3 x3 σ
    ) else (
      ck (okZ 62 x3) <|
      if (gI σ 62 x3.toNatClampNeg) = 0 then (
        b_Mo_doRounds_79 k16 k24 x1 x2 x3 x3 σ
      ) else (
        ck (nz 64) <|
        ck (nz 64) <|
        (f_Mo_isWorst σ (x3 / 64) (x3 - x3 / 64 * 64)).bind fun r_10 =>
        if r_10 = 0 then (
          b_Mo_doRounds_79 k16 k24 x1 x2 x3 x3 σ
        ) else (
          b_Mo_doRounds_80 k16 k24 x1 x2 x3 x3 1 σ
        )
      )
    )
  )
def l_Mo_doRounds_24 (k16 : Int32 × Int32 × gS → Option (Int32 × gS)) : Int32 × Int32 × Int32 × gS → Option (Int32 × gS) := lpF (fun k x => b_Mo_doRounds_24 k16 k x.1 x.2.1 x.2.2.1 x.2.2.2) gF
def b_Mo_doRounds_16 (k16 : Int32 × Int32 × gS → Option (Int32 × gS)) (x1 : Int32) (x2 : Int32) (σ : gS) : Option (Int32 × gS) :=
  if x1 = 0 then (
    (f_Mo_leftOf σ 0).bind fun r_2 =>
    (f_Mo_leftOf σ 1).bind fun r_3 =>
    some (r_2 * r_3, σ)
  ) else (
    l_Mo_doRounds_24 k16 (0, x2, 0, σ)
  )
def l_Mo_doRounds_16  : Int32 × Int32 × gS → Option (Int32 × gS) := lpF (fun k x => b_Mo_doRounds_16 k x.1 x.2.1 x.2.2) gF
def b_Mo_doRounds_0 (σ : gS) : Option (Int32 × gS) :=
  (f_Mo_root σ).bind fun r_1 =>
  (f_Mo_workAll σ r_1).bind fun r_2 =>
  (f_Mo_allLeft r_2).bind fun r_3 =>
  l_Mo_doRounds_16 (1, 1, r_3)
def f_Mo_doRounds (σ : gS) : Option (Int32 × gS) := b_Mo_doRounds_0 σ
def b_Mo_goes_0 (x1 : Int32) (x2 : Int32) (σ : gS) : Option (Int32 × gS) :=
  if (gI σ 46 0) = 0 then (
    some ((-1000000), σ)
  ) else (
    (f_Mo_isFrom x1 0 1).bind fun r_2 =>
    if r_2 = 0 then (
      some ((-2), σ)
    ) else (
      (f_Mo_doRounds σ).bind fun r_4 =>
      (f_Mo_many r_4.2 x1).bind fun r_5 =>
      (f_Mo_isFrom x2 0 (r_5 - 1)).bind fun r_6 =>
      if r_6 = 0 then (
        some ((-2), r_4.2)
      ) else (
        ck (okI 63 ((64 * x1) + x2)) <|
        some (gI r_4.2 63 ((64 * x1) + x2).toNatClampNeg, r_4.2)
      )
    )
  )
def f_Mo_goes (σ : gS) (x1 : Int32) (x2 : Int32) : Option (Int32 × gS) := b_Mo_goes_0 x1 x2 σ
def b_Mo_sure_111 (k32 : Int32 × Int32 × Int32 × gS → Option (Int32 × gS)) (x1 : Int32) (x3 : Int32) (y0 : Int32) (σ : gS) : Option (Int32 × gS) :=
  bnd (x3 + 1) fun x3_1 =>
  k32 (x1, y0, x3_1, σ)
def b_Mo_sure_91 (k32 : Int32 × Int32 × Int32 × gS → Option (Int32 × gS)) (k53 : Int32 × Int32 × Int32 × Int32 × Int32 × gS → Option (Int32 × gS)) (x1 : Int32) (x2 : Int32) (x3 : Int32) (x5 : Int32) (y0 : Int32) (σ : gS) : Option (Int32 × gS) :=
  bnd (x5 + 1) fun x5_1 =>
  k53 (x1, x2, x3, y0, x5_1, σ)
def b_Mo_sure_53 (k32 : Int32 × Int32 × Int32 × gS → Option (Int32 × gS)) (k53 : Int32 × Int32 × Int32 × Int32 × Int32 × gS → Option (Int32 × gS)) (x1 : Int32) (x2 : Int32) (x3 : Int32) (x4 : Int32) (x5 : Int32) (σ : gS) : Option (Int32 × gS) :=
  (f_Mo_many σ (1 - x1)).bind fun r_1 =>
  if r_1 ≤ x5 then (
    if x4 ≤ x2 then (
      b_Mo_sure_111 k32 x1 x3 x2 σ
    ) else (
      b_Mo_sure_111 k32 x1 x3 x4 σ
    )
  ) else (
    (f_Mo_worthTo σ x1 x3 x5).bind fun r_4 =>
    if x4 ≤ r_4 then (
      b_Mo_sure_91 k32 k53 x1 x2 x3 x5 x4 σ
    ) else (
      (f_Mo_worthTo σ x1 x3 x5).bind fun r_6 =>
      b_Mo_sure_91 k32 k53 x1 x2 x3 x5 r_6 σ
    )
  )
def l_Mo_sure_53 (k32 : Int32 × Int32 × Int32 × gS → Option (Int32 × gS)) : Int32 × Int32 × Int32 × Int32 × Int32 × gS → Option (Int32 × gS) := lpF (fun k x => b_Mo_sure_53 k32 k x.1 x.2.1 x.2.2.1 x.2.2.2.1 x.2.2.2.2.1 x.2.2.2.2.2) gF
def b_Mo_sure_32 (k32 : Int32 × Int32 × Int32 × gS → Option (Int32 × gS)) (x1 : Int32) (x2 : Int32) (x3 : Int32) (σ : gS) : Option (Int32 × gS) :=
  (f_Mo_many σ x1).bind fun r_1 =>
  if r_1 ≤ x3 then (
    some (x2, σ)
  ) else (
    (f_Mo_worthTo σ x1 x3 0).bind fun r_3 =>
    l_Mo_sure_53 k32 (x1, x2, x3, r_3, 1, σ)
  )
def l_Mo_sure_32  : Int32 × Int32 × Int32 × gS → Option (Int32 × gS) := lpF (fun k x => b_Mo_sure_32 k x.1 x.2.1 x.2.2.1 x.2.2.2) gF
def b_Mo_sure_0 (x1 : Int32) (σ : gS) : Option (Int32 × gS) :=
  (f_Mo_isFrom x1 0 1).bind fun r_1 =>
  if r_1 = 0 then (
    some ((-1000000), σ)
  ) else (
    if (gI σ 46 0) = 0 then (
      some ((-1000000), σ)
    ) else (
      (f_Mo_root σ).bind fun r_4 =>
      (f_Mo_workAll σ r_4).bind fun r_5 =>
      l_Mo_sure_32 (x1, (-1000000), 0, r_5)
    )
  )
def f_Mo_sure (σ : gS) (x1 : Int32) : Option (Int32 × gS) := b_Mo_sure_0 x1 σ
def b_Mo_memory_110 (σ : gS) (k13 : Int32 × Int64 × Int32 × Int32 → Option Int64) (x1 : Int32) (x3 : Int64) (x6 : Int32) : Option Int64 :=
  ck (okI 51 x6) <|
  bnd (gI σ 51 x6.toNatClampNeg) fun x6_2 =>
  k13 (x1, x3, x6, x6_2)
def b_Mo_memory_85 (σ : gS) (k13 : Int32 × Int64 × Int32 × Int32 → Option Int64) (x1 : Int32) (x3 : Int64) (x6 : Int32) (y0 : Int32) : Option Int64 :=
  ck (okI 48 x6) <|
  bnd (((x3 * 40) + (4 * ((gI σ 48 x6.toNatClampNeg).toInt64))) + y0.toInt64) fun x3_2 =>
  b_Mo_memory_110 σ k13 x1 x3_2 x6
def b_Mo_memory_13 (σ : gS) (k13 : Int32 × Int64 × Int32 × Int32 → Option Int64) (x1 : Int32) (x3 : Int64) (x5 : Int32) (x6 : Int32) : Option Int64 :=
  if x6 = (-1) then (
    some x3
  ) else (
    ck (okI 47 x6) <|
    if (gI σ 47 x6.toNatClampNeg) = 2 then (
      ck (okI 48 x6) <|
      ck (okI 54 (gI σ 48 x6.toNatClampNeg)) <|
      if (gI σ 54 (gI σ 48 x6.toNatClampNeg).toNatClampNeg) = x1 then (
        ck (okI 50 (3 * x6)) <|
        if (gI σ 50 (3 * x6).toNatClampNeg) = x5 then (
          b_Mo_memory_85 σ k13 x1 x3 x6 1
        ) else (
          ck (okI 50 ((3 * x6) + 1)) <|
          if (gI σ 50 ((3 * x6) + 1).toNatClampNeg) = x5 then (
            b_Mo_memory_85 σ k13 x1 x3 x6 2
          ) else (
            b_Mo_memory_85 σ k13 x1 x3 x6 3
          )
        )
      ) else (
        b_Mo_memory_110 σ k13 x1 x3 x6
      )
    ) else (
      b_Mo_memory_110 σ k13 x1 x3 x6
    )
  )
def l_Mo_memory_13 (σ : gS) : Int32 × Int64 × Int32 × Int32 → Option Int64 := lpF (fun k x => b_Mo_memory_13 σ k x.1 x.2.1 x.2.2.1 x.2.2.2) gF
def b_Mo_memory_0 (σ : gS) (x1 : Int32) (x2 : Int32) : Option Int64 :=
  ck (okI 51 x2) <|
  bnd (gI σ 51 x2.toNatClampNeg) fun x6_2 =>
  l_Mo_memory_13 σ (x1, 0, x2, x6_2)
def f_Mo_memory (σ : gS) (x1 : Int32) (x2 : Int32) : Option Int64 := b_Mo_memory_0 σ x1 x2
def b_Mo_remembered_156 (k30 : Int32 × Int32 × Int32 × gS → Option (Int32 × gS)) (k41 : Int32 × Int32 × Int32 × Int32 × gS → Option (Int32 × gS)) (x1 : Int32) (x3 : Int32) (x4 : Int32) (y0 : Int32) (σ : gS) : Option (Int32 × gS) :=
  bnd (x4 + 1) fun x4_1 =>
  k41 (x1, y0, x3, x4_1, σ)
def b_Mo_remembered_155 (k30 : Int32 × Int32 × Int32 × gS → Option (Int32 × gS)) (k41 : Int32 × Int32 × Int32 × Int32 × gS → Option (Int32 × gS)) (x1 : Int32) (x3 : Int32) (x4 : Int32) (σ : gS) : Option (Int32 × gS) :=
  b_Mo_remembered_156 k30 k41 x1 x3 x4 0 σ
def b_Mo_remembered_151 (k30 : Int32 × Int32 × Int32 × gS → Option (Int32 × gS)) (k41 : Int32 × Int32 × Int32 × Int32 × gS → Option (Int32 × gS)) (x1 : Int32) (x3 : Int32) (x4 : Int32) (σ : gS) : Option (Int32 × gS) :=
  b_Mo_remembered_156 k30 k41 x1 x3 x4 1 σ
def b_Mo_remembered_123 (k30 : Int32 × Int32 × Int32 × gS → Option (Int32 × gS)) (k41 : Int32 × Int32 × Int32 × Int32 × gS → Option (Int32 × gS)) (x1 : Int32) (x2 : Int32) (x3 : Int32) (x4 : Int32) (y0 : Int32) (σ : gS) : Option (Int32 × gS) :=
  if x2 = 0 then (
    b_Mo_remembered_155 k30 k41 x1 x3 x4 σ
  ) else (
    if y0 = 0 then (
      b_Mo_remembered_151 k30 k41 x1 x3 x4 σ
    ) else (
      (f_Mo_memory σ x1 x3).bind fun r_3 =>
      (f_Mo_memory σ x1 x4).bind fun r_4 =>
      if (lg_cmp r_3 r_4) = 0 then (
        b_Mo_remembered_151 k30 k41 x1 x3 x4 σ
      ) else (
        b_Mo_remembered_155 k30 k41 x1 x3 x4 σ
      )
    )
  )
def b_Mo_remembered_122 (k30 : Int32 × Int32 × Int32 × gS → Option (Int32 × gS)) (k41 : Int32 × Int32 × Int32 × Int32 × gS → Option (Int32 × gS)) (x1 : Int32) (x2 : Int32) (x3 : Int32) (x4 : Int32) (σ : gS) : Option (Int32 × gS) :=
  b_Mo_remembered_123 k30 k41 x1 x2 x3 x4 0 σ
def b_Mo_remembered_41 (k30 : Int32 × Int32 × Int32 × gS → Option (Int32 × gS)) (k41 : Int32 × Int32 × Int32 × Int32 × gS → Option (Int32 × gS)) (x1 : Int32) (x2 : Int32) (x3 : Int32) (x4 : Int32) (σ : gS) : Option (Int32 × gS) :=
  if x3 ≤ x4 then (
    bnd (x3 + 1) fun x3_2 =>
    k30 (x1, x2, x3_2, σ)
  ) else (
    ck (okZ 56 x3) <|
    if (gI σ 56 x3.toNatClampNeg) = 0 then (
      b_Mo_remembered_122 k30 k41 x1 x2 x3 x4 σ
    ) else (
      ck (okZ 56 x4) <|
      if (gI σ 56 x4.toNatClampNeg) = 0 then (
        b_Mo_remembered_122 k30 k41 x1 x2 x3 x4 σ
      ) else (
        ck (okI 47 x3) <|
        if (gI σ 47 x3.toNatClampNeg) = 2 then (
          ck (okI 47 x4) <|
          if (gI σ 47 x4.toNatClampNeg) = 2 then (
            ck (okI 48 x3) <|
            ck (okI 48 x4) <|
            if (gI σ 48 x3.toNatClampNeg) = (gI σ 48 x4.toNatClampNeg) then (
              ck (okI 48 x3) <|
              ck (okI 54 (gI σ 48 x3.toNatClampNeg)) <|
              if (gI σ 54 (gI σ 48 x3.toNatClampNeg).toNatClampNeg) = x1 then (
                b_Mo_remembered_123 k30 k41 x1 x2 x3 x4 1 σ
              ) else (
                b_Mo_remembered_122 k30 k41 x1 x2 x3 x4 σ
              )
            ) else (
              b_Mo_remembered_122 k30 k41 x1 x2 x3 x4 σ
            )
          ) else (
            b_Mo_remembered_122 k30 k41 x1 x2 x3 x4 σ
          )
        ) else (
          b_Mo_remembered_122 k30 k41 x1 x2 x3 x4 σ
        )
      )
    )
  )
def l_Mo_remembered_41 (k30 : Int32 × Int32 × Int32 × gS → Option (Int32 × gS)) : Int32 × Int32 × Int32 × Int32 × gS → Option (Int32 × gS) := lpF (fun k x => b_Mo_remembered_41 k30 k x.1 x.2.1 x.2.2.1 x.2.2.2.1 x.2.2.2.2) gF
def b_Mo_remembered_30 (k30 : Int32 × Int32 × Int32 × gS → Option (Int32 × gS)) (x1 : Int32) (x2 : Int32) (x3 : Int32) (σ : gS) : Option (Int32 × gS) :=
  if (gI σ 46 0) ≤ x3 then (
    if x2 = 0 then (
      some (0, σ)
    ) else (
      some (1, σ)
    )
  ) else (
    l_Mo_remembered_41 k30 (x1, x2, x3, 0, σ)
  )
def l_Mo_remembered_30  : Int32 × Int32 × Int32 × gS → Option (Int32 × gS) := lpF (fun k x => b_Mo_remembered_30 k x.1 x.2.1 x.2.2.1 x.2.2.2) gF
def b_Mo_remembered_0 (x1 : Int32) (σ : gS) : Option (Int32 × gS) :=
  if (gI σ 46 0) = 0 then (
    some ((-1000000), σ)
  ) else (
    (f_Mo_isFrom x1 0 1).bind fun r_2 =>
    if r_2 = 0 then (
      some ((-2), σ)
    ) else (
      (f_Mo_findTree σ).bind fun r_4 =>
      l_Mo_remembered_30 (x1, 1, 0, r_4)
    )
  )
def f_Mo_remembered (σ : gS) (x1 : Int32) : Option (Int32 × gS) := b_Mo_remembered_0 x1 σ
def b_Mo_bestOf_43 (σ : gS) (k4 : Int32 × Int32 × Int32 → Option Int32) (x1 : Int32) (x3 : Int32) (y0 : Int32) : Option Int32 :=
  bnd (x3 + 1) fun x3_1 =>
  k4 (x1, y0, x3_1)
def b_Mo_bestOf_4 (σ : gS) (k4 : Int32 × Int32 × Int32 → Option Int32) (x1 : Int32) (x2 : Int32) (x3 : Int32) : Option Int32 :=
  (f_Mo_many σ x1).bind fun r_1 =>
  if r_1 ≤ x3 then (
    some x2
  ) else (
    ck (okI 66 ((64 * x1) + x3)) <|
    ck (okI 66 ((64 * x1) + x2)) <|
    if (gI σ 66 ((64 * x1) + x3).toNatClampNeg) ≤ (gI σ 66 ((64 * x1) + x2).toNatClampNeg) then (
      b_Mo_bestOf_43 σ k4 x1 x3 x2
    ) else (
      b_Mo_bestOf_43 σ k4 x1 x3 x3
    )
  )
def l_Mo_bestOf_4 (σ : gS) : Int32 × Int32 × Int32 → Option Int32 := lpF (fun k x => b_Mo_bestOf_4 σ k x.1 x.2.1 x.2.2) gF
def b_Mo_bestOf_0 (σ : gS) (x1 : Int32) : Option Int32 :=
  l_Mo_bestOf_4 σ (x1, 0, 1)
def f_Mo_bestOf (σ : gS) (x1 : Int32) : Option Int32 := b_Mo_bestOf_0 σ x1
def b_Mo_take_17 (k17 : Int32 × Int32 × Int32 × gS → Option gS) (x1 : Int32) (x2 : Int32) (x3 : Int32) (σ : gS) : Option gS :=
  (f_Mo_many σ (1 - x1)).bind fun r_1 =>
  if r_1 ≤ x3 then (
    some σ
  ) else (
    ck (okI 66 ((64 * (1 - x1)) + x3)) <|
    (f_Mo_worthTo σ (1 - x1) x3 x2).bind fun r_4 =>
    ck (okI 66 ((64 * (1 - x1)) + x3)) <|
    bnd (sI σ 66 ((64 * (1 - x1)) + x3).toNatClampNeg ((gI σ 66 ((64 * (1 - x1)) + x3).toNatClampNeg) + r_4)) fun σ_6 =>
    bnd (x3 + 1) fun x3_7 =>
    k17 (x1, x2, x3_7, σ_6)
  )
def l_Mo_take_17  : Int32 × Int32 × Int32 × gS → Option gS := lpF (fun k x => b_Mo_take_17 k x.1 x.2.1 x.2.2.1 x.2.2.2) gF
def b_Mo_take_0 (x1 : Int32) (x2 : Int32) (σ : gS) : Option gS :=
  ck (okI 65 ((64 * x1) + x2)) <|
  ck (okI 65 ((64 * x1) + x2)) <|
  bnd (sI σ 65 ((64 * x1) + x2).toNatClampNeg ((gI σ 65 ((64 * x1) + x2).toNatClampNeg) + 1)) fun σ_3 =>
  l_Mo_take_17 (x1, x2, 0, σ_3)
def f_Mo_take (σ : gS) (x1 : Int32) (x2 : Int32) : Option gS := b_Mo_take_0 x1 x2 σ
def b_Mo_answerAll_39 (k39 : Int32 × Int32 × gS → Option gS) (x1 : Int32) (x2 : Int32) (σ : gS) : Option gS :=
  if x1 ≤ x2 then (
    some σ
  ) else (
    (f_Mo_bestOf σ 0).bind fun r_2 =>
    (f_Mo_bestOf σ 1).bind fun r_3 =>
    (f_Mo_take σ 0 r_2).bind fun r_4 =>
    (f_Mo_take r_4 1 r_3).bind fun r_5 =>
    bnd (x2 + 1) fun x2_6 =>
    k39 (x1, x2_6, r_5)
  )
def l_Mo_answerAll_39  : Int32 × Int32 × gS → Option gS := lpF (fun k x => b_Mo_answerAll_39 k x.1 x.2.1 x.2.2) gF
def b_Mo_answerAll_10 (k10 : Int32 × Int32 × gS → Option gS) (x1 : Int32) (x2 : Int32) (σ : gS) : Option gS :=
  if 128 ≤ x2 then (
    l_Mo_answerAll_39 (x1, 0, σ)
  ) else (
    ck (okI 65 x2) <|
    bnd (sI σ 65 x2.toNatClampNeg 0) fun σ_3 =>
    ck (okI 66 x2) <|
    bnd (sI σ_3 66 x2.toNatClampNeg 0) fun σ_5 =>
    bnd (x2 + 1) fun x2_6 =>
    k10 (x1, x2_6, σ_5)
  )
def l_Mo_answerAll_10  : Int32 × Int32 × gS → Option gS := lpF (fun k x => b_Mo_answerAll_10 k x.1 x.2.1 x.2.2) gF
def b_Mo_answerAll_0 (x1 : Int32) (σ : gS) : Option gS :=
  (f_Mo_root σ).bind fun r_1 =>
  (f_Mo_workAll σ r_1).bind fun r_2 =>
  l_Mo_answerAll_10 (x1, 0, r_2)
def f_Mo_answerAll (σ : gS) (x1 : Int32) : Option gS := b_Mo_answerAll_0 x1 σ
def b_Mo_taken_0 (x1 : Int32) (x2 : Int32) (x3 : Int32) (σ : gS) : Option (Int32 × gS) :=
  if (gI σ 46 0) = 0 then (
    some ((-1000000), σ)
  ) else (
    (f_Mo_isFrom x1 1 200).bind fun r_2 =>
    if r_2 = 0 then (
      some ((-2), σ)
    ) else (
      (f_Mo_isFrom x2 0 1).bind fun r_4 =>
      if r_4 = 0 then (
        some ((-2), σ)
      ) else (
        (f_Mo_answerAll σ x1).bind fun r_6 =>
        (f_Mo_many r_6 x2).bind fun r_7 =>
        (f_Mo_isFrom x3 0 (r_7 - 1)).bind fun r_8 =>
        if r_8 = 0 then (
          some ((-2), r_6)
        ) else (
          ck (okI 65 ((64 * x2) + x3)) <|
          some (gI r_6 65 ((64 * x2) + x3).toNatClampNeg, r_6)
        )
      )
    )
  )
def f_Mo_taken (σ : gS) (x1 : Int32) (x2 : Int32) (x3 : Int32) : Option (Int32 × gS) := b_Mo_taken_0 x1 x2 x3 σ
def b_Mo_bound_125 (k56 : Int32 × Int32 × gS → Option (Int32 × gS)) (x4 : Int32) (y0 : Int32) (σ : gS) : Option (Int32 × gS) :=
  bnd (x4 + 1) fun x4_1 =>
  k56 (y0, x4_1, σ)
def b_Mo_bound_119 (k56 : Int32 × Int32 × gS → Option (Int32 × gS)) (x4 : Int32) (x5 : Int32) (σ : gS) : Option (Int32 × gS) :=
  b_Mo_bound_125 k56 x4 x5 σ
def b_Mo_bound_71 (k56 : Int32 × Int32 × gS → Option (Int32 × gS)) (k71 : Int32 × Int32 × Int32 × Int32 × gS → Option (Int32 × gS)) (x3 : Int32) (x4 : Int32) (x5 : Int32) (x6 : Int32) (σ : gS) : Option (Int32 × gS) :=
  if (gI σ 46 16) ≤ x6 then (
    if x4 = 0 then (
      b_Mo_bound_119 k56 x4 x5 σ
    ) else (
      if x3 ≤ x5 then (
        b_Mo_bound_125 k56 x4 x3 σ
      ) else (
        b_Mo_bound_119 k56 x4 x5 σ
      )
    )
  ) else (
    ck (okI 65 x6) <|
    (f_Mo_worthTo σ 0 x6 x4).bind fun r_5 =>
    bnd (x5 + ((gI σ 65 x6.toNatClampNeg) * r_5)) fun x5_6 =>
    bnd (x6 + 1) fun x6_7 =>
    k71 (x3, x4, x5_6, x6_7, σ)
  )
def l_Mo_bound_71 (k56 : Int32 × Int32 × gS → Option (Int32 × gS)) : Int32 × Int32 × Int32 × Int32 × gS → Option (Int32 × gS) := lpF (fun k x => b_Mo_bound_71 k56 k x.1 x.2.1 x.2.2.1 x.2.2.2.1 x.2.2.2.2) gF
def b_Mo_bound_56 (k56 : Int32 × Int32 × gS → Option (Int32 × gS)) (x3 : Int32) (x4 : Int32) (σ : gS) : Option (Int32 × gS) :=
  if (gI σ 46 17) ≤ x4 then (
    some (x3, σ)
  ) else (
    l_Mo_bound_71 k56 (x3, x4, 0, 0, σ)
  )
def l_Mo_bound_56  : Int32 × Int32 × gS → Option (Int32 × gS) := lpF (fun k x => b_Mo_bound_56 k x.1 x.2.1 x.2.2) gF
def b_Mo_bound_0 (x1 : Int32) (x2 : Int32) (σ : gS) : Option (Int32 × gS) :=
  (f_Mo_isFrom x1 1 200).bind fun r_1 =>
  if r_1 = 0 then (
    some ((-1000000), σ)
  ) else (
    (f_Mo_isFrom x2 0 1).bind fun r_3 =>
    if r_3 = 0 then (
      some ((-1000000), σ)
    ) else (
      if (gI σ 46 0) = 0 then (
        some ((-1000000), σ)
      ) else (
        (f_Mo_answerAll σ x1).bind fun r_6 =>
        if x2 = 1 then (
          (f_Mo_bestOf r_6 0).bind fun r_8 =>
          ck (okI 66 r_8) <|
          some (gI r_6 66 r_8.toNatClampNeg, r_6)
        ) else (
          l_Mo_bound_56 (0, 0, r_6)
        )
      )
    )
  )
def f_Mo_bound (σ : gS) (x1 : Int32) (x2 : Int32) : Option (Int32 × gS) := b_Mo_bound_0 x1 x2 σ
def b_Mo_told_116 (σ : gS) (x1 : Int32) (x2 : Int32) : Option Int32 :=
  ck (okI 50 (((3 * x1) + x2) - 3)) <|
  some (gI σ 50 (((3 * x1) + x2) - 3).toNatClampNeg)
def b_Mo_told_0 (σ : gS) (x1 : Int32) (x2 : Int32) : Option Int32 :=
  (f_Mo_isNode σ x1).bind fun r_1 =>
  if r_1 = 0 then (
    some (-1000000)
  ) else (
    (f_Mo_isFrom x2 0 5).bind fun r_3 =>
    if r_3 = 0 then (
      some (-1000000)
    ) else (
      if x2 < 0 then (
        ck (okI 47 x1) <|
        if (gI σ 47 x1.toNatClampNeg) = 0 then (
          if x2 = 3 then (
            ck (okI 49 ((2 * x1) + 1)) <|
            some (gI σ 49 ((2 * x1) + 1).toNatClampNeg)
          ) else (
            b_Mo_told_116 σ x1 x2
          )
        ) else (
          b_Mo_told_116 σ x1 x2
        )
      ) else
      if 2 < x2 then (
        ck (okI 47 x1) <|
        if (gI σ 47 x1.toNatClampNeg) = 0 then (
          if x2 = 3 then (
            ck (okI 49 ((2 * x1) + 1)) <|
            some (gI σ 49 ((2 * x1) + 1).toNatClampNeg)
          ) else (
            b_Mo_told_116 σ x1 x2
          )
        ) else (
          b_Mo_told_116 σ x1 x2
        )
      ) else
      if x2 = 0 then (
        ck (okI 47 x1) <|
        some (gI σ 47 x1.toNatClampNeg)
      ) else
      if x2 = 1 then (
        ck (okI 47 x1) <|
        if (gI σ 47 x1.toNatClampNeg) = 0 then (
          ck (okI 49 (2 * x1)) <|
          some (gI σ 49 (2 * x1).toNatClampNeg)
        ) else (
          ck (okI 48 x1) <|
          some (gI σ 48 x1.toNatClampNeg)
        )
      ) else
      if x2 = 2 then (
        ck (okI 51 x1) <|
        some (gI σ 51 x1.toNatClampNeg)
      ) else
      none
    )
  )
def f_Mo_told (σ : gS) (x1 : Int32) (x2 : Int32) : Option Int32 := b_Mo_told_0 σ x1 x2
def b_Mo_count_69 (k45 : Int32 × Int32 × gS → Option (Int32 × gS)) (x3 : Int32) (y0 : Int32) (σ : gS) : Option (Int32 × gS) :=
  bnd (x3 + 1) fun x3_1 =>
  k45 (y0, x3_1, σ)
def b_Mo_count_45 (k45 : Int32 × Int32 × gS → Option (Int32 × gS)) (x2 : Int32) (x3 : Int32) (σ : gS) : Option (Int32 × gS) :=
  if (gI σ 46 0) ≤ x3 then (
    some (x2, σ)
  ) else (
    ck (okZ 56 x3) <|
    if (gI σ 56 x3.toNatClampNeg) = 0 then (
      b_Mo_count_69 k45 x3 x2 σ
    ) else (
      b_Mo_count_69 k45 x3 (x2 + 1) σ
    )
  )
def l_Mo_count_45  : Int32 × Int32 × gS → Option (Int32 × gS) := lpF (fun k x => b_Mo_count_45 k x.1 x.2.1 x.2.2) gF
def b_Mo_count_0 (x1 : Int32) (σ : gS) : Option (Int32 × gS) :=
  (f_Mo_isFrom x1 0 9).bind fun r_1 =>
  if r_1 = 0 then (
    some ((-2), σ)
  ) else (
    if x1 = 0 then (
      some (gI σ 46 0, σ)
    ) else (
      if x1 = 1 then (
        some (gI σ 46 1, σ)
      ) else (
        (f_Mo_findTree σ).bind fun r_5 =>
        if x1 = 2 then (
          l_Mo_count_45 (0, 0, r_5)
        ) else (
          if (gI r_5 46 0) = 0 then (
            some ((-1000000), r_5)
          ) else (
            if x1 < 3 then (
              (f_Mo_root r_5).bind fun r_8 =>
              ck (okI 52 r_8) <|
              some (gI r_5 52 r_8.toNatClampNeg, r_5)
            ) else
            if 8 < x1 then (
              (f_Mo_root r_5).bind fun r_12 =>
              ck (okI 52 r_12) <|
              some (gI r_5 52 r_12.toNatClampNeg, r_5)
            ) else
            if x1 = 3 then (
              (f_Mo_plansOf r_5 0).bind fun r_15 =>
              some (r_15, r_5)
            ) else
            if x1 = 4 then (
              (f_Mo_plansOf r_5 1).bind fun r_17 =>
              some (r_17, r_5)
            ) else
            if x1 = 5 then (
              (f_Mo_countPoints r_5 0 (-1)).bind fun r_19 =>
              some (r_19.1, r_19.2)
            ) else
            if x1 = 6 then (
              (f_Mo_countPoints r_5 1 (-1)).bind fun r_21 =>
              some (r_21.1, r_21.2)
            ) else
            if x1 = 7 then (
              (f_Mo_games r_5 (-1)).bind fun r_23 =>
              some (r_23.1, r_23.2)
            ) else
            if x1 = 8 then (
              (f_Mo_doRounds r_5).bind fun r_25 =>
              some (r_25.1, r_25.2)
            ) else
            none
          )
        )
      )
    )
  )
def f_Mo_count (σ : gS) (x1 : Int32) : Option (Int32 × gS) := b_Mo_count_0 x1 σ
def b_La_law_740 (L : Nat) (xs : Nat → Int32) (k18 : Int32 × gS → Option (Int32 × gS)) (x3 : Int32) (σ : gS) : Option (Int32 × gS) :=
  bnd (x3 + 5) fun x3_1 =>
  k18 (x3_1, σ)
def b_La_law_506 (L : Nat) (xs : Nat → Int32) (k18 : Int32 × gS → Option (Int32 × gS)) (x3 : Int32) (y0 : Int32) (y2 : Int32) (σ : gS) : Option (Int32 × gS) :=
  ck (inb (x3 + 2) L) <|
  (f_Mo_point σ y2 (xs (x3 + 2).toNatClampNeg)).bind fun r_2 =>
  if y0 = r_2.1 then (
    b_La_law_740 L xs k18 x3 r_2.2
  ) else (
    ck (isB 0) <| some (0, r_2.2)
  )
def b_La_law_484 (L : Nat) (xs : Nat → Int32) (k18 : Int32 × gS → Option (Int32 × gS)) (x3 : Int32) (y1 : Int32) (σ : gS) : Option (Int32 × gS) :=
  ck (inb (x3 + 2) L) <|
  (f_Ga_point σ y1 (xs (x3 + 2).toNatClampNeg)).bind fun r_2 =>
  ck (inb (x3 + 1) L) <|
  if (xs (x3 + 1).toNatClampNeg) = 0 then (
    b_La_law_506 L xs k18 x3 r_2.1 0 r_2.2
  ) else (
    b_La_law_506 L xs k18 x3 r_2.1 1 r_2.2
  )
def b_La_law_18 (L : Nat) (xs : Nat → Int32) (k18 : Int32 × gS → Option (Int32 × gS)) (x3 : Int32) (σ : gS) : Option (Int32 × gS) :=
  if ((Int32.ofNat L) - 5) < x3 then (
    ck (isB 1) <| some (1, σ)
  ) else (
    ck (inb x3 L) <|
    if ((xs x3.toNatClampNeg) &&& 31) < 0 then (
      b_La_law_740 L xs k18 x3 σ
    ) else
    if 17 < ((xs x3.toNatClampNeg) &&& 31) then (
      b_La_law_740 L xs k18 x3 σ
    ) else
    if ((xs x3.toNatClampNeg) &&& 31) = 0 then (
      (f_Ga_clear σ).bind fun r_6 =>
      (f_Mo_clear r_6.2).bind fun r_7 =>
      if r_6.1 = r_7.1 then (
        b_La_law_740 L xs k18 x3 r_7.2
      ) else (
        ck (isB 0) <| some (0, r_7.2)
      )
    ) else
    if ((xs x3.toNatClampNeg) &&& 31) = 1 then (
      ck (inb (x3 + 1) L) <|
      ck (inb (x3 + 2) L) <|
      (f_Ga_set σ (xs (x3 + 1).toNatClampNeg) (xs (x3 + 2).toNatClampNeg)).bind fun r_12 =>
      ck (inb (x3 + 1) L) <|
      ck (inb (x3 + 2) L) <|
      (f_Mo_set r_12.2 (xs (x3 + 1).toNatClampNeg) (xs (x3 + 2).toNatClampNeg)).bind fun r_15 =>
      if r_12.1 = r_15.1 then (
        b_La_law_740 L xs k18 x3 r_15.2
      ) else (
        ck (isB 0) <| some (0, r_15.2)
      )
    ) else
    if ((xs x3.toNatClampNeg) &&& 31) = 2 then (
      ck (inb (x3 + 1) L) <|
      ck (inb (x3 + 2) L) <|
      (f_Ga_end σ (xs (x3 + 1).toNatClampNeg) (xs (x3 + 2).toNatClampNeg)).bind fun r_20 =>
      ck (inb (x3 + 1) L) <|
      ck (inb (x3 + 2) L) <|
      (f_Mo_end r_20.2 (xs (x3 + 1).toNatClampNeg) (xs (x3 + 2).toNatClampNeg)).bind fun r_23 =>
      if r_20.1 = r_23.1 then (
        b_La_law_740 L xs k18 x3 r_23.2
      ) else (
        ck (isB 0) <| some (0, r_23.2)
      )
    ) else
    if ((xs x3.toNatClampNeg) &&& 31) = 3 then (
      ck (inb (x3 + 1) L) <|
      ck (inb (x3 + 2) L) <|
      ck (inb (x3 + 3) L) <|
      (f_Ga_chance σ (xs (x3 + 1).toNatClampNeg) (xs (x3 + 2).toNatClampNeg) (xs (x3 + 3).toNatClampNeg)).bind fun r_29 =>
      ck (inb (x3 + 1) L) <|
      ck (inb (x3 + 2) L) <|
      ck (inb (x3 + 3) L) <|
      (f_Mo_chance r_29.2 (xs (x3 + 1).toNatClampNeg) (xs (x3 + 2).toNatClampNeg) (xs (x3 + 3).toNatClampNeg)).bind fun r_33 =>
      if r_29.1 = r_33.1 then (
        b_La_law_740 L xs k18 x3 r_33.2
      ) else (
        ck (isB 0) <| some (0, r_33.2)
      )
    ) else
    if ((xs x3.toNatClampNeg) &&& 31) = 4 then (
      ck (inb (x3 + 1) L) <|
      ck (inb (x3 + 2) L) <|
      ck (inb (x3 + 3) L) <|
      ck (inb (x3 + 4) L) <|
      (f_Ga_node σ (xs (x3 + 1).toNatClampNeg) (xs (x3 + 2).toNatClampNeg) (xs (x3 + 3).toNatClampNeg) (xs (x3 + 4).toNatClampNeg)).bind fun r_40 =>
      ck (inb (x3 + 1) L) <|
      ck (inb (x3 + 2) L) <|
      ck (inb (x3 + 3) L) <|
      ck (inb (x3 + 4) L) <|
      (f_Mo_node r_40.2 (xs (x3 + 1).toNatClampNeg) (xs (x3 + 2).toNatClampNeg) (xs (x3 + 3).toNatClampNeg) (xs (x3 + 4).toNatClampNeg)).bind fun r_45 =>
      if r_40.1 = r_45.1 then (
        b_La_law_740 L xs k18 x3 r_45.2
      ) else (
        ck (isB 0) <| some (0, r_45.2)
      )
    ) else
    if ((xs x3.toNatClampNeg) &&& 31) = 5 then (
      ck (inb (x3 + 1) L) <|
      (f_Ga_count σ (xs (x3 + 1).toNatClampNeg)).bind fun r_49 =>
      ck (inb (x3 + 1) L) <|
      (f_Mo_count r_49.2 (xs (x3 + 1).toNatClampNeg)).bind fun r_51 =>
      if r_49.1 = r_51.1 then (
        b_La_law_740 L xs k18 x3 r_51.2
      ) else (
        ck (isB 0) <| some (0, r_51.2)
      )
    ) else
    if ((xs x3.toNatClampNeg) &&& 31) = 6 then (
      ck (inb (x3 + 1) L) <|
      ck (inb (x3 + 2) L) <|
      (f_Ga_told σ (xs (x3 + 1).toNatClampNeg) (xs (x3 + 2).toNatClampNeg)).bind fun r_56 =>
      ck (inb (x3 + 1) L) <|
      ck (inb (x3 + 2) L) <|
      (f_Mo_told σ (xs (x3 + 1).toNatClampNeg) (xs (x3 + 2).toNatClampNeg)).bind fun r_59 =>
      if r_56 = r_59 then (
        b_La_law_740 L xs k18 x3 σ
      ) else (
        ck (isB 0) <| some (0, σ)
      )
    ) else
    if ((xs x3.toNatClampNeg) &&& 31) = 7 then (
      ck (inb (x3 + 1) L) <|
      ck (inb (x3 + 2) L) <|
      ck (inb (x3 + 3) L) <|
      (f_Ga_act σ (xs (x3 + 1).toNatClampNeg) (xs (x3 + 2).toNatClampNeg) (xs (x3 + 3).toNatClampNeg)).bind fun r_65 =>
      ck (inb (x3 + 1) L) <|
      ck (inb (x3 + 2) L) <|
      ck (inb (x3 + 3) L) <|
      (f_Mo_act σ (xs (x3 + 1).toNatClampNeg) (xs (x3 + 2).toNatClampNeg) (xs (x3 + 3).toNatClampNeg)).bind fun r_69 =>
      if r_65 = r_69.1 then (
        b_La_law_740 L xs k18 x3 r_69.2
      ) else (
        ck (isB 0) <| some (0, r_69.2)
      )
    ) else
    if ((xs x3.toNatClampNeg) &&& 31) = 8 then (
      ck (inb (x3 + 1) L) <|
      ck (inb (x3 + 2) L) <|
      ck (inb (x3 + 3) L) <|
      (f_Ga_worth σ (xs (x3 + 1).toNatClampNeg) (xs (x3 + 2).toNatClampNeg) (xs (x3 + 3).toNatClampNeg)).bind fun r_75 =>
      ck (inb (x3 + 1) L) <|
      ck (inb (x3 + 2) L) <|
      ck (inb (x3 + 3) L) <|
      (f_Mo_worth r_75.2 (xs (x3 + 1).toNatClampNeg) (xs (x3 + 2).toNatClampNeg) (xs (x3 + 3).toNatClampNeg)).bind fun r_79 =>
      if r_75.1 = r_79.1 then (
        b_La_law_740 L xs k18 x3 r_79.2
      ) else (
        ck (isB 0) <| some (0, r_79.2)
      )
    ) else
    if ((xs x3.toNatClampNeg) &&& 31) = 9 then (
      ck (inb (x3 + 1) L) <|
      ck (inb (x3 + 2) L) <|
      (f_Ga_answer σ (xs (x3 + 1).toNatClampNeg) (xs (x3 + 2).toNatClampNeg)).bind fun r_84 =>
      ck (inb (x3 + 1) L) <|
      ck (inb (x3 + 2) L) <|
      (f_Mo_answer r_84.2 (xs (x3 + 1).toNatClampNeg) (xs (x3 + 2).toNatClampNeg)).bind fun r_87 =>
      if r_84.1 = r_87.1 then (
        b_La_law_740 L xs k18 x3 r_87.2
      ) else (
        ck (isB 0) <| some (0, r_87.2)
      )
    ) else
    if ((xs x3.toNatClampNeg) &&& 31) = 10 then (
      ck (inb (x3 + 1) L) <|
      if (xs (x3 + 1).toNatClampNeg) = 0 then (
        b_La_law_484 L xs k18 x3 0 σ
      ) else (
        b_La_law_484 L xs k18 x3 1 σ
      )
    ) else
    if ((xs x3.toNatClampNeg) &&& 31) = 11 then (
      ck (inb (x3 + 1) L) <|
      (f_Ga_within σ (xs (x3 + 1).toNatClampNeg)).bind fun r_94 =>
      ck (inb (x3 + 1) L) <|
      (f_Mo_within σ (xs (x3 + 1).toNatClampNeg)).bind fun r_96 =>
      if r_94 = r_96.1 then (
        b_La_law_740 L xs k18 x3 r_96.2
      ) else (
        ck (isB 0) <| some (0, r_96.2)
      )
    ) else
    if ((xs x3.toNatClampNeg) &&& 31) = 12 then (
      ck (inb (x3 + 1) L) <|
      ck (inb (x3 + 2) L) <|
      ck (inb (x3 + 3) L) <|
      (f_Ga_than σ (xs (x3 + 1).toNatClampNeg) (xs (x3 + 2).toNatClampNeg) (xs (x3 + 3).toNatClampNeg)).bind fun r_102 =>
      ck (inb (x3 + 1) L) <|
      ck (inb (x3 + 2) L) <|
      ck (inb (x3 + 3) L) <|
      (f_Mo_than r_102.2 (xs (x3 + 1).toNatClampNeg) (xs (x3 + 2).toNatClampNeg) (xs (x3 + 3).toNatClampNeg)).bind fun r_106 =>
      if r_102.1 = r_106.1 then (
        b_La_law_740 L xs k18 x3 r_106.2
      ) else (
        ck (isB 0) <| some (0, r_106.2)
      )
    ) else
    if ((xs x3.toNatClampNeg) &&& 31) = 13 then (
      ck (inb (x3 + 1) L) <|
      ck (inb (x3 + 2) L) <|
      (f_Ga_goes σ (xs (x3 + 1).toNatClampNeg) (xs (x3 + 2).toNatClampNeg)).bind fun r_111 =>
      ck (inb (x3 + 1) L) <|
      ck (inb (x3 + 2) L) <|
      (f_Mo_goes r_111.2 (xs (x3 + 1).toNatClampNeg) (xs (x3 + 2).toNatClampNeg)).bind fun r_114 =>
      if r_111.1 = r_114.1 then (
        b_La_law_740 L xs k18 x3 r_114.2
      ) else (
        ck (isB 0) <| some (0, r_114.2)
      )
    ) else
    if ((xs x3.toNatClampNeg) &&& 31) = 14 then (
      ck (inb (x3 + 1) L) <|
      (f_Ga_sure σ (xs (x3 + 1).toNatClampNeg)).bind fun r_118 =>
      ck (inb (x3 + 1) L) <|
      (f_Mo_sure r_118.2 (xs (x3 + 1).toNatClampNeg)).bind fun r_120 =>
      if r_118.1 = r_120.1 then (
        b_La_law_740 L xs k18 x3 r_120.2
      ) else (
        ck (isB 0) <| some (0, r_120.2)
      )
    ) else
    if ((xs x3.toNatClampNeg) &&& 31) = 15 then (
      ck (inb (x3 + 1) L) <|
      (f_Ga_remembered σ (xs (x3 + 1).toNatClampNeg)).bind fun r_124 =>
      ck (inb (x3 + 1) L) <|
      (f_Mo_remembered σ (xs (x3 + 1).toNatClampNeg)).bind fun r_126 =>
      if r_124 = r_126.1 then (
        b_La_law_740 L xs k18 x3 r_126.2
      ) else (
        ck (isB 0) <| some (0, r_126.2)
      )
    ) else
    if ((xs x3.toNatClampNeg) &&& 31) = 16 then (
      ck (inb (x3 + 1) L) <|
      ck (inb (x3 + 2) L) <|
      ck (inb (x3 + 3) L) <|
      (f_Ga_taken σ (xs (x3 + 1).toNatClampNeg) (xs (x3 + 2).toNatClampNeg) (xs (x3 + 3).toNatClampNeg)).bind fun r_132 =>
      ck (inb (x3 + 1) L) <|
      ck (inb (x3 + 2) L) <|
      ck (inb (x3 + 3) L) <|
      (f_Mo_taken r_132.2 (xs (x3 + 1).toNatClampNeg) (xs (x3 + 2).toNatClampNeg) (xs (x3 + 3).toNatClampNeg)).bind fun r_136 =>
      if r_132.1 = r_136.1 then (
        b_La_law_740 L xs k18 x3 r_136.2
      ) else (
        ck (isB 0) <| some (0, r_136.2)
      )
    ) else
    if ((xs x3.toNatClampNeg) &&& 31) = 17 then (
      ck (inb (x3 + 1) L) <|
      ck (inb (x3 + 2) L) <|
      (f_Ga_bound σ (xs (x3 + 1).toNatClampNeg) (xs (x3 + 2).toNatClampNeg)).bind fun r_141 =>
      ck (inb (x3 + 1) L) <|
      ck (inb (x3 + 2) L) <|
      (f_Mo_bound r_141.2 (xs (x3 + 1).toNatClampNeg) (xs (x3 + 2).toNatClampNeg)).bind fun r_144 =>
      if r_141.1 = r_144.1 then (
        b_La_law_740 L xs k18 x3 r_144.2
      ) else (
        ck (isB 0) <| some (0, r_144.2)
      )
    ) else
    none
  )
def l_La_law_18 (L : Nat) (xs : Nat → Int32) : Int32 × gS → Option (Int32 × gS) := lpF (fun k x => b_La_law_18 L xs k x.1 x.2) gF
