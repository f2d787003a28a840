def gs0 : gS := (fun k => match k with
  | 16 => (fun i => match i with | 5 => -1 | 6 => -1 | _ => 0)
  | 27 => upd (upd (fun _ => 0) (0 : Int32).toNatClampNeg (-1)) (1 : Int32).toNatClampNeg (-1)
  | 34 => (fun i => match i with | 4 => -1 | _ => 0)
  | 39 => (fun i => match i with | 5 => -1 | _ => 0)
  | _ => fun _ => 0, fun _ _ => 0)
def gOut (T : Nat) (z : Nat → ClassId) (a : Nat → Nat) (cf : Nat → va_E) (k : Nat) : va_E := if k < T then cf k else gCel z a (gs0.1 k) (gs0.2 k) k
theorem mna_I (c : ClassId) (K : Nat) : Jvm.Free.Multi.innerC c K (defaultValue .int) = vp_cell c (K, .inl (fun _ => 0)) := by
  rw [vp_cell_i]
  exact arrV_new _ _ _
theorem mna_J (c : ClassId) (K : Nat) : Jvm.Free.Multi.innerC c K (defaultValue .long) = vp_cell c (K, .inr (.inl (fun _ => 0))) := by
  rw [vp_cell_l]
  exact arrV_new _ _ _
set_option maxRecDepth 100000 in
theorem mc_0 : Cond.instanceMethod Lib.objectInit ∈ BIG := List.mem_filter.mpr ⟨List.mem_append_right _ (List.mem_of_getElem? (i := 17) rfl), rfl⟩
set_option maxRecDepth 100000 in
theorem mc_1 : Cond.code Lib.objectInit ⟨#[0xb1]⟩ 1 none ∈ BIG := List.mem_filter.mpr ⟨List.mem_append_right _ (List.mem_of_getElem? (i := 18) rfl), rfl⟩
set_option maxRecDepth 100000 in
theorem mc_2 : Cond.methodLink R_Fo 3 Lib.objectInit ∈ BIG := List.mem_filter.mpr ⟨List.mem_append_right _ (List.mem_of_getElem? (i := 24) rfl), rfl⟩
set_option maxRecDepth 100000 in
theorem mc_3 : Cond.fieldLink R_Fo 9 (T_Fo 0).1 (T_Fo 0).2.1 (T_Fo 0).2.2.1 ∈ BIG := List.mem_filter.mpr ⟨List.mem_append_right _ (List.mem_of_getElem? (i := 25) rfl), rfl⟩
set_option maxRecDepth 100000 in
theorem mc_4 : Cond.fieldLink R_Fo 15 (T_Fo 1).1 (T_Fo 1).2.1 (T_Fo 1).2.2.1 ∈ BIG := List.mem_filter.mpr ⟨List.mem_append_right _ (List.mem_of_getElem? (i := 28) rfl), rfl⟩
set_option maxRecDepth 100000 in
theorem mc_5 : Cond.fieldLink R_Fo 18 (T_Fo 2).1 (T_Fo 2).2.1 (T_Fo 2).2.2.1 ∈ BIG := List.mem_filter.mpr ⟨List.mem_append_right _ (List.mem_of_getElem? (i := 30) rfl), rfl⟩
set_option maxRecDepth 100000 in
theorem mc_6 : Cond.arrayClass .int ∈ BIG := List.mem_filter.mpr ⟨List.mem_append_right _ (List.mem_of_getElem? (i := 91) rfl), rfl⟩
set_option maxRecDepth 100000 in
theorem mc_7 : Cond.fieldLink R_Fo 21 (T_Fo 3).1 (T_Fo 3).2.1 (T_Fo 3).2.2.1 ∈ BIG := List.mem_filter.mpr ⟨List.mem_append_right _ (List.mem_of_getElem? (i := 35) rfl), rfl⟩
set_option maxRecDepth 100000 in
theorem mc_8 : Cond.fieldLink R_Fo 25 (T_Fo 4).1 (T_Fo 4).2.1 (T_Fo 4).2.2.1 ∈ BIG := List.mem_filter.mpr ⟨List.mem_append_right _ (List.mem_of_getElem? (i := 38) rfl), rfl⟩
set_option maxRecDepth 100000 in
theorem mc_9 : Cond.fieldLink R_Fo 28 (T_Fo 5).1 (T_Fo 5).2.1 (T_Fo 5).2.2.1 ∈ BIG := List.mem_filter.mpr ⟨List.mem_append_right _ (List.mem_of_getElem? (i := 41) rfl), rfl⟩
set_option maxRecDepth 100000 in
theorem mc_10 : Cond.fieldLink R_Fo 31 (T_Fo 6).1 (T_Fo 6).2.1 (T_Fo 6).2.2.1 ∈ BIG := List.mem_filter.mpr ⟨List.mem_append_right _ (List.mem_of_getElem? (i := 43) rfl), rfl⟩
set_option maxRecDepth 100000 in
theorem mc_11 : Cond.fieldLink R_Fo 34 (T_Fo 7).1 (T_Fo 7).2.1 (T_Fo 7).2.2.1 ∈ BIG := List.mem_filter.mpr ⟨List.mem_append_right _ (List.mem_of_getElem? (i := 45) rfl), rfl⟩
set_option maxRecDepth 100000 in
theorem mc_12 : Cond.fieldLink R_Fo 37 (T_Fo 8).1 (T_Fo 8).2.1 (T_Fo 8).2.2.1 ∈ BIG := List.mem_filter.mpr ⟨List.mem_append_right _ (List.mem_of_getElem? (i := 46) rfl), rfl⟩
set_option maxRecDepth 100000 in
theorem mc_13 : Cond.fieldLink R_Fo 40 (T_Fo 9).1 (T_Fo 9).2.1 (T_Fo 9).2.2.1 ∈ BIG := List.mem_filter.mpr ⟨List.mem_append_right _ (List.mem_of_getElem? (i := 47) rfl), rfl⟩
set_option maxRecDepth 100000 in
theorem mc_14 : Cond.fieldLink R_Fo 43 (T_Fo 10).1 (T_Fo 10).2.1 (T_Fo 10).2.2.1 ∈ BIG := List.mem_filter.mpr ⟨List.mem_append_right _ (List.mem_of_getElem? (i := 49) rfl), rfl⟩
set_option maxRecDepth 100000 in
theorem mc_15 : Cond.fieldLink R_Fo 46 (T_Fo 11).1 (T_Fo 11).2.1 (T_Fo 11).2.2.1 ∈ BIG := List.mem_filter.mpr ⟨List.mem_append_right _ (List.mem_of_getElem? (i := 50) rfl), rfl⟩
set_option maxRecDepth 100000 in
theorem mc_16 : Cond.arrayClass .long ∈ BIG := List.mem_filter.mpr ⟨List.mem_append_right _ (List.mem_of_getElem? (i := 92) rfl), rfl⟩
set_option maxRecDepth 100000 in
theorem mc_17 : Cond.fieldLink R_Fo 49 (T_Fo 12).1 (T_Fo 12).2.1 (T_Fo 12).2.2.1 ∈ BIG := List.mem_filter.mpr ⟨List.mem_append_right _ (List.mem_of_getElem? (i := 51) rfl), rfl⟩
set_option maxRecDepth 100000 in
theorem mc_18 : Cond.fieldLink R_Fo 53 (T_Fo 13).1 (T_Fo 13).2.1 (T_Fo 13).2.2.1 ∈ BIG := List.mem_filter.mpr ⟨List.mem_append_right _ (List.mem_of_getElem? (i := 52) rfl), rfl⟩
set_option maxRecDepth 100000 in
theorem mc_19 : Cond.fieldLink R_Fo 56 (T_Fo 14).1 (T_Fo 14).2.1 (T_Fo 14).2.2.1 ∈ BIG := List.mem_filter.mpr ⟨List.mem_append_right _ (List.mem_of_getElem? (i := 53) rfl), rfl⟩
set_option maxRecDepth 100000 in
theorem mc_20 : Cond.fieldLink R_Fo 59 (T_Fo 15).1 (T_Fo 15).2.1 (T_Fo 15).2.2.1 ∈ BIG := List.mem_filter.mpr ⟨List.mem_append_right _ (List.mem_of_getElem? (i := 54) rfl), rfl⟩
set_option maxRecDepth 100000 in
theorem mc_21 : Cond.fieldLink R_Fo 62 (T_Fo 16).1 (T_Fo 16).2.1 (T_Fo 16).2.2.1 ∈ BIG := List.mem_filter.mpr ⟨List.mem_append_right _ (List.mem_of_getElem? (i := 55) rfl), rfl⟩
set_option maxRecDepth 100000 in
theorem mc_22 : Cond.instanceMethod y_Fo_init ∈ BIG := List.mem_filter.mpr ⟨List.mem_append_right _ (List.mem_of_getElem? (i := 22) rfl), rfl⟩
set_option maxRecDepth 100000 in
theorem mc_23 : Cond.initialized R_Fo ∈ BIG := List.mem_filter.mpr ⟨List.mem_append_right _ (List.mem_of_getElem? (i := 2) rfl), rfl⟩
set_option maxRecDepth 100000 in
theorem mc_24 : Cond.code y_Fo_init b_Fo_init_c 1 none ∈ BIG := List.mem_filter.mpr ⟨List.mem_append_right _ (List.mem_of_getElem? (i := 23) rfl), rfl⟩
set_option maxRecDepth 100000 in
theorem mc_25 : Cond.methodLink R_Ta 3 Lib.objectInit ∈ BIG := List.mem_filter.mpr ⟨List.mem_append_right _ (List.mem_of_getElem? (i := 98) rfl), rfl⟩
set_option maxRecDepth 100000 in
theorem mc_26 : Cond.fieldLink R_Ta 9 (T_Ta 0).1 (T_Ta 0).2.1 (T_Ta 0).2.2.1 ∈ BIG := List.mem_filter.mpr ⟨List.mem_append_right _ (List.mem_of_getElem? (i := 101) rfl), rfl⟩
set_option maxRecDepth 100000 in
theorem mc_27 : Cond.classLink R_Ta 15 "[[I" ∈ BIG := List.mem_filter.mpr ⟨List.mem_append_right _ (List.mem_of_getElem? (i := 99) rfl), rfl⟩
set_option maxRecDepth 100000 in
theorem mc_28 : Cond.fieldLink R_Ta 17 (T_Ta 2).1 (T_Ta 2).2.1 (T_Ta 2).2.2.1 ∈ BIG := List.mem_filter.mpr ⟨List.mem_append_right _ (List.mem_of_getElem? (i := 106) rfl), rfl⟩
set_option maxRecDepth 100000 in
theorem mc_29 : Cond.fieldLink R_Ta 20 (T_Ta 3).1 (T_Ta 3).2.1 (T_Ta 3).2.2.1 ∈ BIG := List.mem_filter.mpr ⟨List.mem_append_right _ (List.mem_of_getElem? (i := 107) rfl), rfl⟩
set_option maxRecDepth 100000 in
theorem mc_30 : Cond.fieldLink R_Ta 23 (T_Ta 4).1 (T_Ta 4).2.1 (T_Ta 4).2.2.1 ∈ BIG := List.mem_filter.mpr ⟨List.mem_append_right _ (List.mem_of_getElem? (i := 108) rfl), rfl⟩
set_option maxRecDepth 100000 in
theorem mc_31 : Cond.fieldLink R_Ta 26 (T_Ta 5).1 (T_Ta 5).2.1 (T_Ta 5).2.2.1 ∈ BIG := List.mem_filter.mpr ⟨List.mem_append_right _ (List.mem_of_getElem? (i := 109) rfl), rfl⟩
set_option maxRecDepth 100000 in
theorem mc_32 : Cond.fieldLink R_Ta 30 (T_Ta 6).1 (T_Ta 6).2.1 (T_Ta 6).2.2.1 ∈ BIG := List.mem_filter.mpr ⟨List.mem_append_right _ (List.mem_of_getElem? (i := 110) rfl), rfl⟩
set_option maxRecDepth 100000 in
theorem mc_33 : Cond.fieldLink R_Ta 33 (T_Ta 1).1 (T_Ta 1).2.1 (T_Ta 1).2.2.1 ∈ BIG := List.mem_filter.mpr ⟨List.mem_append_right _ (List.mem_of_getElem? (i := 105) rfl), rfl⟩
set_option maxRecDepth 100000 in
theorem mc_34 : Cond.instanceMethod y_Ta_init ∈ BIG := List.mem_filter.mpr ⟨List.mem_append_right _ (List.mem_of_getElem? (i := 96) rfl), rfl⟩
set_option maxRecDepth 100000 in
theorem mc_35 : Cond.initialized R_Ta ∈ BIG := List.mem_filter.mpr ⟨List.mem_append_right _ (List.mem_of_getElem? (i := 3) rfl), rfl⟩
set_option maxRecDepth 100000 in
theorem mc_36 : Cond.code y_Ta_init b_Ta_init_c 2 none ∈ BIG := List.mem_filter.mpr ⟨List.mem_append_right _ (List.mem_of_getElem? (i := 97) rfl), rfl⟩
set_option maxRecDepth 100000 in
theorem mc_37 : Cond.methodLink R_Po 3 Lib.objectInit ∈ BIG := List.mem_filter.mpr ⟨List.mem_append_right _ (List.mem_of_getElem? (i := 131) rfl), rfl⟩
set_option maxRecDepth 100000 in
theorem mc_38 : Cond.classLink R_Po 9 "[[J" ∈ BIG := List.mem_filter.mpr ⟨List.mem_append_right _ (List.mem_of_getElem? (i := 132) rfl), rfl⟩
set_option maxRecDepth 100000 in
theorem mc_39 : Cond.fieldLink R_Po 11 (T_Po 2).1 (T_Po 2).2.1 (T_Po 2).2.2.1 ∈ BIG := List.mem_filter.mpr ⟨List.mem_append_right _ (List.mem_of_getElem? (i := 137) rfl), rfl⟩
set_option maxRecDepth 100000 in
theorem mc_40 : Cond.fieldLink R_Po 16 (T_Po 3).1 (T_Po 3).2.1 (T_Po 3).2.2.1 ∈ BIG := List.mem_filter.mpr ⟨List.mem_append_right _ (List.mem_of_getElem? (i := 138) rfl), rfl⟩
set_option maxRecDepth 100000 in
theorem mc_41 : Cond.classLink R_Po 20 "[[I" ∈ BIG := List.mem_filter.mpr ⟨List.mem_append_right _ (List.mem_of_getElem? (i := 134) rfl), rfl⟩
set_option maxRecDepth 100000 in
theorem mc_42 : Cond.fieldLink R_Po 22 (T_Po 4).1 (T_Po 4).2.1 (T_Po 4).2.2.1 ∈ BIG := List.mem_filter.mpr ⟨List.mem_append_right _ (List.mem_of_getElem? (i := 139) rfl), rfl⟩
set_option maxRecDepth 100000 in
theorem mc_43 : Cond.fieldLink R_Po 25 (T_Po 5).1 (T_Po 5).2.1 (T_Po 5).2.2.1 ∈ BIG := List.mem_filter.mpr ⟨List.mem_append_right _ (List.mem_of_getElem? (i := 140) rfl), rfl⟩
set_option maxRecDepth 100000 in
theorem mc_44 : Cond.fieldLink R_Po 28 (T_Po 0).1 (T_Po 0).2.1 (T_Po 0).2.2.1 ∈ BIG := List.mem_filter.mpr ⟨List.mem_append_right _ (List.mem_of_getElem? (i := 135) rfl), rfl⟩
set_option maxRecDepth 100000 in
theorem mc_45 : Cond.fieldLink R_Po 32 (T_Po 1).1 (T_Po 1).2.1 (T_Po 1).2.2.1 ∈ BIG := List.mem_filter.mpr ⟨List.mem_append_right _ (List.mem_of_getElem? (i := 136) rfl), rfl⟩
set_option maxRecDepth 100000 in
theorem mc_46 : Cond.instanceMethod y_Po_init ∈ BIG := List.mem_filter.mpr ⟨List.mem_append_right _ (List.mem_of_getElem? (i := 129) rfl), rfl⟩
set_option maxRecDepth 100000 in
theorem mc_47 : Cond.initialized R_Po ∈ BIG := List.mem_filter.mpr ⟨List.mem_append_right _ (List.mem_of_getElem? (i := 4) rfl), rfl⟩
set_option maxRecDepth 100000 in
theorem mc_48 : Cond.code y_Po_init b_Po_init_c 3 none ∈ BIG := List.mem_filter.mpr ⟨List.mem_append_right _ (List.mem_of_getElem? (i := 130) rfl), rfl⟩
set_option maxRecDepth 100000 in
theorem mc_49 : Cond.methodLink R_Le 3 Lib.objectInit ∈ BIG := List.mem_filter.mpr ⟨List.mem_append_right _ (List.mem_of_getElem? (i := 159) rfl), rfl⟩
set_option maxRecDepth 100000 in
theorem mc_50 : Cond.classLink R_Le 9 "[[I" ∈ BIG := List.mem_filter.mpr ⟨List.mem_append_right _ (List.mem_of_getElem? (i := 160) rfl), rfl⟩
set_option maxRecDepth 100000 in
theorem mc_51 : Cond.fieldLink R_Le 11 (T_Le 2).1 (T_Le 2).2.1 (T_Le 2).2.2.1 ∈ BIG := List.mem_filter.mpr ⟨List.mem_append_right _ (List.mem_of_getElem? (i := 163) rfl), rfl⟩
set_option maxRecDepth 100000 in
theorem mc_52 : Cond.fieldLink R_Le 16 (T_Le 3).1 (T_Le 3).2.1 (T_Le 3).2.2.1 ∈ BIG := List.mem_filter.mpr ⟨List.mem_append_right _ (List.mem_of_getElem? (i := 164) rfl), rfl⟩
set_option maxRecDepth 100000 in
theorem mc_53 : Cond.fieldLink R_Le 20 (T_Le 4).1 (T_Le 4).2.1 (T_Le 4).2.2.1 ∈ BIG := List.mem_filter.mpr ⟨List.mem_append_right _ (List.mem_of_getElem? (i := 165) rfl), rfl⟩
set_option maxRecDepth 100000 in
theorem mc_54 : Cond.fieldLink R_Le 24 (T_Le 0).1 (T_Le 0).2.1 (T_Le 0).2.2.1 ∈ BIG := List.mem_filter.mpr ⟨List.mem_append_right _ (List.mem_of_getElem? (i := 161) rfl), rfl⟩
set_option maxRecDepth 100000 in
theorem mc_55 : Cond.fieldLink R_Le 28 (T_Le 1).1 (T_Le 1).2.1 (T_Le 1).2.2.1 ∈ BIG := List.mem_filter.mpr ⟨List.mem_append_right _ (List.mem_of_getElem? (i := 162) rfl), rfl⟩
set_option maxRecDepth 100000 in
theorem mc_56 : Cond.instanceMethod y_Le_init ∈ BIG := List.mem_filter.mpr ⟨List.mem_append_right _ (List.mem_of_getElem? (i := 157) rfl), rfl⟩
set_option maxRecDepth 100000 in
theorem mc_57 : Cond.initialized R_Le ∈ BIG := List.mem_filter.mpr ⟨List.mem_append_right _ (List.mem_of_getElem? (i := 5) rfl), rfl⟩
set_option maxRecDepth 100000 in
theorem mc_58 : Cond.code y_Le_init b_Le_init_c 3 none ∈ BIG := List.mem_filter.mpr ⟨List.mem_append_right _ (List.mem_of_getElem? (i := 158) rfl), rfl⟩
set_option maxRecDepth 100000 in
theorem mc_59 : Cond.methodLink R_An 3 Lib.objectInit ∈ BIG := List.mem_filter.mpr ⟨List.mem_append_right _ (List.mem_of_getElem? (i := 182) rfl), rfl⟩
set_option maxRecDepth 100000 in
theorem mc_60 : Cond.classLink R_An 9 "[[I" ∈ BIG := List.mem_filter.mpr ⟨List.mem_append_right _ (List.mem_of_getElem? (i := 183) rfl), rfl⟩
set_option maxRecDepth 100000 in
theorem mc_61 : Cond.fieldLink R_An 11 (T_An 2).1 (T_An 2).2.1 (T_An 2).2.2.1 ∈ BIG := List.mem_filter.mpr ⟨List.mem_append_right _ (List.mem_of_getElem? (i := 186) rfl), rfl⟩
set_option maxRecDepth 100000 in
theorem mc_62 : Cond.fieldLink R_An 16 (T_An 3).1 (T_An 3).2.1 (T_An 3).2.2.1 ∈ BIG := List.mem_filter.mpr ⟨List.mem_append_right _ (List.mem_of_getElem? (i := 187) rfl), rfl⟩
set_option maxRecDepth 100000 in
theorem mc_63 : Cond.fieldLink R_An 19 (T_An 4).1 (T_An 4).2.1 (T_An 4).2.2.1 ∈ BIG := List.mem_filter.mpr ⟨List.mem_append_right _ (List.mem_of_getElem? (i := 188) rfl), rfl⟩
set_option maxRecDepth 100000 in
theorem mc_64 : Cond.fieldLink R_An 23 (T_An 5).1 (T_An 5).2.1 (T_An 5).2.2.1 ∈ BIG := List.mem_filter.mpr ⟨List.mem_append_right _ (List.mem_of_getElem? (i := 189) rfl), rfl⟩
set_option maxRecDepth 100000 in
theorem mc_65 : Cond.fieldLink R_An 26 (T_An 0).1 (T_An 0).2.1 (T_An 0).2.2.1 ∈ BIG := List.mem_filter.mpr ⟨List.mem_append_right _ (List.mem_of_getElem? (i := 184) rfl), rfl⟩
set_option maxRecDepth 100000 in
theorem mc_66 : Cond.fieldLink R_An 30 (T_An 1).1 (T_An 1).2.1 (T_An 1).2.2.1 ∈ BIG := List.mem_filter.mpr ⟨List.mem_append_right _ (List.mem_of_getElem? (i := 185) rfl), rfl⟩
set_option maxRecDepth 100000 in
theorem mc_67 : Cond.instanceMethod y_An_init ∈ BIG := List.mem_filter.mpr ⟨List.mem_append_right _ (List.mem_of_getElem? (i := 180) rfl), rfl⟩
set_option maxRecDepth 100000 in
theorem mc_68 : Cond.initialized R_An ∈ BIG := List.mem_filter.mpr ⟨List.mem_append_right _ (List.mem_of_getElem? (i := 6) rfl), rfl⟩
set_option maxRecDepth 100000 in
theorem mc_69 : Cond.code y_An_init b_An_init_c 3 none ∈ BIG := List.mem_filter.mpr ⟨List.mem_append_right _ (List.mem_of_getElem? (i := 181) rfl), rfl⟩
set_option maxRecDepth 100000 in
theorem mc_70 : Cond.methodLink R_Ga 1 Lib.objectInit ∈ BIG := List.mem_filter.mpr ⟨List.mem_append_right _ (List.mem_of_getElem? (i := 16) rfl), rfl⟩
set_option maxRecDepth 100000 in
theorem mc_71 : Cond.classLink R_Ga 7 R_Fo ∈ BIG := List.mem_filter.mpr ⟨List.mem_append_right _ (List.mem_of_getElem? (i := 19) rfl), rfl⟩
set_option maxRecDepth 100000 in
theorem mc_72 : Cond.instantiable R_Fo 17 ∈ BIG := List.mem_filter.mpr ⟨List.mem_append_right _ (List.mem_of_getElem? (i := 20) rfl), rfl⟩
set_option maxRecDepth 100000 in
theorem mc_73 : Cond.fieldLink R_Ga 10 (T_Ga 0).1 (T_Ga 0).2.1 (T_Ga 0).2.2.1 ∈ BIG := List.mem_filter.mpr ⟨List.mem_append_right _ (List.mem_of_getElem? (i := 203) rfl), rfl⟩
set_option maxRecDepth 100000 in
theorem mc_74 : Cond.classLink R_Ga 16 R_Ta ∈ BIG := List.mem_filter.mpr ⟨List.mem_append_right _ (List.mem_of_getElem? (i := 93) rfl), rfl⟩
set_option maxRecDepth 100000 in
theorem mc_75 : Cond.instantiable R_Ta 7 ∈ BIG := List.mem_filter.mpr ⟨List.mem_append_right _ (List.mem_of_getElem? (i := 94) rfl), rfl⟩
set_option maxRecDepth 100000 in
theorem mc_76 : Cond.methodLink R_Ga 18 y_Ta_init ∈ BIG := List.mem_filter.mpr ⟨List.mem_append_right _ (List.mem_of_getElem? (i := 95) rfl), rfl⟩
set_option maxRecDepth 100000 in
theorem mc_77 : Cond.fieldLink R_Ga 21 (T_Ga 1).1 (T_Ga 1).2.1 (T_Ga 1).2.2.1 ∈ BIG := List.mem_filter.mpr ⟨List.mem_append_right _ (List.mem_of_getElem? (i := 204) rfl), rfl⟩
set_option maxRecDepth 100000 in
theorem mc_78 : Cond.classLink R_Ga 25 R_Po ∈ BIG := List.mem_filter.mpr ⟨List.mem_append_right _ (List.mem_of_getElem? (i := 126) rfl), rfl⟩
set_option maxRecDepth 100000 in
theorem mc_79 : Cond.instantiable R_Po 6 ∈ BIG := List.mem_filter.mpr ⟨List.mem_append_right _ (List.mem_of_getElem? (i := 127) rfl), rfl⟩
set_option maxRecDepth 100000 in
theorem mc_80 : Cond.methodLink R_Ga 27 y_Po_init ∈ BIG := List.mem_filter.mpr ⟨List.mem_append_right _ (List.mem_of_getElem? (i := 128) rfl), rfl⟩
set_option maxRecDepth 100000 in
theorem mc_81 : Cond.fieldLink R_Ga 30 (T_Ga 2).1 (T_Ga 2).2.1 (T_Ga 2).2.2.1 ∈ BIG := List.mem_filter.mpr ⟨List.mem_append_right _ (List.mem_of_getElem? (i := 205) rfl), rfl⟩
set_option maxRecDepth 100000 in
theorem mc_82 : Cond.classLink R_Ga 34 R_Le ∈ BIG := List.mem_filter.mpr ⟨List.mem_append_right _ (List.mem_of_getElem? (i := 154) rfl), rfl⟩
set_option maxRecDepth 100000 in
theorem mc_83 : Cond.instantiable R_Le 5 ∈ BIG := List.mem_filter.mpr ⟨List.mem_append_right _ (List.mem_of_getElem? (i := 155) rfl), rfl⟩
set_option maxRecDepth 100000 in
theorem mc_84 : Cond.methodLink R_Ga 36 y_Le_init ∈ BIG := List.mem_filter.mpr ⟨List.mem_append_right _ (List.mem_of_getElem? (i := 156) rfl), rfl⟩
set_option maxRecDepth 100000 in
theorem mc_85 : Cond.fieldLink R_Ga 37 (T_Ga 3).1 (T_Ga 3).2.1 (T_Ga 3).2.2.1 ∈ BIG := List.mem_filter.mpr ⟨List.mem_append_right _ (List.mem_of_getElem? (i := 206) rfl), rfl⟩
set_option maxRecDepth 100000 in
theorem mc_86 : Cond.classLink R_Ga 41 R_An ∈ BIG := List.mem_filter.mpr ⟨List.mem_append_right _ (List.mem_of_getElem? (i := 177) rfl), rfl⟩
set_option maxRecDepth 100000 in
theorem mc_87 : Cond.instantiable R_An 6 ∈ BIG := List.mem_filter.mpr ⟨List.mem_append_right _ (List.mem_of_getElem? (i := 178) rfl), rfl⟩
set_option maxRecDepth 100000 in
theorem mc_88 : Cond.methodLink R_Ga 43 y_An_init ∈ BIG := List.mem_filter.mpr ⟨List.mem_append_right _ (List.mem_of_getElem? (i := 179) rfl), rfl⟩
set_option maxRecDepth 100000 in
theorem mc_89 : Cond.fieldLink R_Ga 44 (T_Ga 4).1 (T_Ga 4).2.1 (T_Ga 4).2.2.1 ∈ BIG := List.mem_filter.mpr ⟨List.mem_append_right _ (List.mem_of_getElem? (i := 207) rfl), rfl⟩
set_option maxRecDepth 100000 in
theorem mc_90 : Cond.instanceMethod y_Ga_init ∈ BIG := List.mem_filter.mpr ⟨List.mem_append_right _ (List.mem_of_getElem? (i := 14) rfl), rfl⟩
set_option maxRecDepth 100000 in
theorem mc_91 : Cond.initialized R_Ga ∈ BIG := List.mem_filter.mpr ⟨List.mem_append_right _ (List.mem_of_getElem? (i := 1) rfl), rfl⟩
set_option maxRecDepth 100000 in
theorem mc_92 : Cond.code y_Ga_init b_Ga_init_c 1 none ∈ BIG := List.mem_filter.mpr ⟨List.mem_append_right _ (List.mem_of_getElem? (i := 15) rfl), rfl⟩
set_option maxRecDepth 100000 in
theorem mc_93 : Cond.methodLink R_Mo 1 Lib.objectInit ∈ BIG := List.mem_filter.mpr ⟨List.mem_append_right _ (List.mem_of_getElem? (i := 653) rfl), rfl⟩
set_option maxRecDepth 100000 in
theorem mc_94 : Cond.fieldLink R_Mo 7 (T_Mo 2).1 (T_Mo 2).2.1 (T_Mo 2).2.2.1 ∈ BIG := List.mem_filter.mpr ⟨List.mem_append_right _ (List.mem_of_getElem? (i := 656) rfl), rfl⟩
set_option maxRecDepth 100000 in
theorem mc_95 : Cond.fieldLink R_Mo 13 (T_Mo 3).1 (T_Mo 3).2.1 (T_Mo 3).2.2.1 ∈ BIG := List.mem_filter.mpr ⟨List.mem_append_right _ (List.mem_of_getElem? (i := 657) rfl), rfl⟩
set_option maxRecDepth 100000 in
theorem mc_96 : Cond.fieldLink R_Mo 16 (T_Mo 4).1 (T_Mo 4).2.1 (T_Mo 4).2.2.1 ∈ BIG := List.mem_filter.mpr ⟨List.mem_append_right _ (List.mem_of_getElem? (i := 658) rfl), rfl⟩
set_option maxRecDepth 100000 in
theorem mc_97 : Cond.fieldLink R_Mo 19 (T_Mo 5).1 (T_Mo 5).2.1 (T_Mo 5).2.2.1 ∈ BIG := List.mem_filter.mpr ⟨List.mem_append_right _ (List.mem_of_getElem? (i := 659) rfl), rfl⟩
set_option maxRecDepth 100000 in
theorem mc_98 : Cond.fieldLink R_Mo 22 (T_Mo 6).1 (T_Mo 6).2.1 (T_Mo 6).2.2.1 ∈ BIG := List.mem_filter.mpr ⟨List.mem_append_right _ (List.mem_of_getElem? (i := 660) rfl), rfl⟩
set_option maxRecDepth 100000 in
theorem mc_99 : Cond.fieldLink R_Mo 25 (T_Mo 7).1 (T_Mo 7).2.1 (T_Mo 7).2.2.1 ∈ BIG := List.mem_filter.mpr ⟨List.mem_append_right _ (List.mem_of_getElem? (i := 661) rfl), rfl⟩
set_option maxRecDepth 100000 in
theorem mc_100 : Cond.fieldLink R_Mo 28 (T_Mo 8).1 (T_Mo 8).2.1 (T_Mo 8).2.2.1 ∈ BIG := List.mem_filter.mpr ⟨List.mem_append_right _ (List.mem_of_getElem? (i := 662) rfl), rfl⟩
set_option maxRecDepth 100000 in
theorem mc_101 : Cond.fieldLink R_Mo 31 (T_Mo 9).1 (T_Mo 9).2.1 (T_Mo 9).2.2.1 ∈ BIG := List.mem_filter.mpr ⟨List.mem_append_right _ (List.mem_of_getElem? (i := 663) rfl), rfl⟩
set_option maxRecDepth 100000 in
theorem mc_102 : Cond.fieldLink R_Mo 34 (T_Mo 10).1 (T_Mo 10).2.1 (T_Mo 10).2.2.1 ∈ BIG := List.mem_filter.mpr ⟨List.mem_append_right _ (List.mem_of_getElem? (i := 664) rfl), rfl⟩
set_option maxRecDepth 100000 in
theorem mc_103 : Cond.arrayClass .boolean ∈ BIG := List.mem_filter.mpr ⟨List.mem_append_right _ (List.mem_of_getElem? (i := 733) rfl), rfl⟩
set_option maxRecDepth 100000 in
theorem mc_104 : Cond.fieldLink R_Mo 37 (T_Mo 11).1 (T_Mo 11).2.1 (T_Mo 11).2.2.1 ∈ BIG := List.mem_filter.mpr ⟨List.mem_append_right _ (List.mem_of_getElem? (i := 665) rfl), rfl⟩
set_option maxRecDepth 100000 in
theorem mc_105 : Cond.fieldLink R_Mo 41 (T_Mo 12).1 (T_Mo 12).2.1 (T_Mo 12).2.2.1 ∈ BIG := List.mem_filter.mpr ⟨List.mem_append_right _ (List.mem_of_getElem? (i := 666) rfl), rfl⟩
set_option maxRecDepth 100000 in
theorem mc_106 : Cond.fieldLink R_Mo 44 (T_Mo 13).1 (T_Mo 13).2.1 (T_Mo 13).2.2.1 ∈ BIG := List.mem_filter.mpr ⟨List.mem_append_right _ (List.mem_of_getElem? (i := 667) rfl), rfl⟩
set_option maxRecDepth 100000 in
theorem mc_107 : Cond.fieldLink R_Mo 47 (T_Mo 14).1 (T_Mo 14).2.1 (T_Mo 14).2.2.1 ∈ BIG := List.mem_filter.mpr ⟨List.mem_append_right _ (List.mem_of_getElem? (i := 668) rfl), rfl⟩
set_option maxRecDepth 100000 in
theorem mc_108 : Cond.fieldLink R_Mo 50 (T_Mo 15).1 (T_Mo 15).2.1 (T_Mo 15).2.2.1 ∈ BIG := List.mem_filter.mpr ⟨List.mem_append_right _ (List.mem_of_getElem? (i := 669) rfl), rfl⟩
set_option maxRecDepth 100000 in
theorem mc_109 : Cond.fieldLink R_Mo 53 (T_Mo 18).1 (T_Mo 18).2.1 (T_Mo 18).2.2.1 ∈ BIG := List.mem_filter.mpr ⟨List.mem_append_right _ (List.mem_of_getElem? (i := 672) rfl), rfl⟩
set_option maxRecDepth 100000 in
theorem mc_110 : Cond.fieldLink R_Mo 56 (T_Mo 21).1 (T_Mo 21).2.1 (T_Mo 21).2.2.1 ∈ BIG := List.mem_filter.mpr ⟨List.mem_append_right _ (List.mem_of_getElem? (i := 675) rfl), rfl⟩
set_option maxRecDepth 100000 in
theorem mc_111 : Cond.fieldLink R_Mo 59 (T_Mo 22).1 (T_Mo 22).2.1 (T_Mo 22).2.2.1 ∈ BIG := List.mem_filter.mpr ⟨List.mem_append_right _ (List.mem_of_getElem? (i := 676) rfl), rfl⟩
set_option maxRecDepth 100000 in
theorem mc_112 : Cond.fieldLink R_Mo 62 (T_Mo 23).1 (T_Mo 23).2.1 (T_Mo 23).2.2.1 ∈ BIG := List.mem_filter.mpr ⟨List.mem_append_right _ (List.mem_of_getElem? (i := 677) rfl), rfl⟩
set_option maxRecDepth 100000 in
theorem mc_113 : Cond.fieldLink R_Mo 65 (T_Mo 24).1 (T_Mo 24).2.1 (T_Mo 24).2.2.1 ∈ BIG := List.mem_filter.mpr ⟨List.mem_append_right _ (List.mem_of_getElem? (i := 678) rfl), rfl⟩
set_option maxRecDepth 100000 in
theorem mc_114 : Cond.fieldLink R_Mo 68 (T_Mo 25).1 (T_Mo 25).2.1 (T_Mo 25).2.2.1 ∈ BIG := List.mem_filter.mpr ⟨List.mem_append_right _ (List.mem_of_getElem? (i := 679) rfl), rfl⟩
set_option maxRecDepth 100000 in
theorem mc_115 : Cond.fieldLink R_Mo 71 (T_Mo 0).1 (T_Mo 0).2.1 (T_Mo 0).2.2.1 ∈ BIG := List.mem_filter.mpr ⟨List.mem_append_right _ (List.mem_of_getElem? (i := 654) rfl), rfl⟩
set_option maxRecDepth 100000 in
theorem mc_116 : Cond.instanceMethod y_Mo_init ∈ BIG := List.mem_filter.mpr ⟨List.mem_append_right _ (List.mem_of_getElem? (i := 651) rfl), rfl⟩
set_option maxRecDepth 100000 in
theorem mc_117 : Cond.initialized R_Mo ∈ BIG := List.mem_filter.mpr ⟨List.mem_append_right _ (List.mem_of_getElem? (i := 7) rfl), rfl⟩
set_option maxRecDepth 100000 in
theorem mc_118 : Cond.code y_Mo_init b_Mo_init_c 1 none ∈ BIG := List.mem_filter.mpr ⟨List.mem_append_right _ (List.mem_of_getElem? (i := 652) rfl), rfl⟩
theorem bl_Ga : ∀ j, j < 5 → defaultValue (ty_Ga j) = vp_V [.null, .null, .null, .null, .null] j := by
  intro j hj
  match j, hj with
  | 0, _ => rfl
  | 1, _ => rfl
  | 2, _ => rfl
  | 3, _ => rfl
  | 4, _ => rfl
  | k + 5, h => exact absurd h (by omega)
theorem bl_Fo : ∀ j, j < 17 → defaultValue (ty_Fo j) = vp_V [.int 0, .int 0, .int 0, .null, .null, .null, .null, .null, .null, .null, .null, .null, .null, .null, .null, .null, .null] j := by
  intro j hj
  match j, hj with
  | 0, _ => rfl
  | 1, _ => rfl
  | 2, _ => rfl
  | 3, _ => rfl
  | 4, _ => rfl
  | 5, _ => rfl
  | 6, _ => rfl
  | 7, _ => rfl
  | 8, _ => rfl
  | 9, _ => rfl
  | 10, _ => rfl
  | 11, _ => rfl
  | 12, _ => rfl
  | 13, _ => rfl
  | 14, _ => rfl
  | 15, _ => rfl
  | 16, _ => rfl
  | k + 17, h => exact absurd h (by omega)
theorem bl_Ta : ∀ j, j < 7 → defaultValue (ty_Ta j) = vp_V [.null, .null, .null, .null, .null, .int 0, .int 0] j := by
  intro j hj
  match j, hj with
  | 0, _ => rfl
  | 1, _ => rfl
  | 2, _ => rfl
  | 3, _ => rfl
  | 4, _ => rfl
  | 5, _ => rfl
  | 6, _ => rfl
  | k + 7, h => exact absurd h (by omega)
theorem bl_Po : ∀ j, j < 6 → defaultValue (ty_Po j) = vp_V [.null, .null, .null, .null, .null, .null] j := by
  intro j hj
  match j, hj with
  | 0, _ => rfl
  | 1, _ => rfl
  | 2, _ => rfl
  | 3, _ => rfl
  | 4, _ => rfl
  | 5, _ => rfl
  | k + 6, h => exact absurd h (by omega)
theorem bl_Le : ∀ j, j < 5 → defaultValue (ty_Le j) = vp_V [.null, .null, .null, .null, .int 0] j := by
  intro j hj
  match j, hj with
  | 0, _ => rfl
  | 1, _ => rfl
  | 2, _ => rfl
  | 3, _ => rfl
  | 4, _ => rfl
  | k + 5, h => exact absurd h (by omega)
theorem bl_An : ∀ j, j < 6 → defaultValue (ty_An j) = vp_V [.null, .null, .null, .null, .int 0, .int 0] j := by
  intro j hj
  match j, hj with
  | 0, _ => rfl
  | 1, _ => rfl
  | 2, _ => rfl
  | 3, _ => rfl
  | 4, _ => rfl
  | 5, _ => rfl
  | k + 6, h => exact absurd h (by omega)
theorem bl_Mo : ∀ j, j < 26 → defaultValue (ty_Mo j) = vp_V [.int 0, .int 0, .null, .null, .null, .null, .null, .null, .null, .null, .null, .null, .null, .null, .null, .null, .int 0, .int 0, .null, .int 0, .int 0, .null, .null, .null, .null, .null] j := by
  intro j hj
  match j, hj with
  | 0, _ => rfl
  | 1, _ => rfl
  | 2, _ => rfl
  | 3, _ => rfl
  | 4, _ => rfl
  | 5, _ => rfl
  | 6, _ => rfl
  | 7, _ => rfl
  | 8, _ => rfl
  | 9, _ => rfl
  | 10, _ => rfl
  | 11, _ => rfl
  | 12, _ => rfl
  | 13, _ => rfl
  | 14, _ => rfl
  | 15, _ => rfl
  | 16, _ => rfl
  | 17, _ => rfl
  | 18, _ => rfl
  | 19, _ => rfl
  | 20, _ => rfl
  | 21, _ => rfl
  | 22, _ => rfl
  | 23, _ => rfl
  | 24, _ => rfl
  | 25, _ => rfl
  | k + 26, h => exact absurd h (by omega)
theorem d_Fo_init_0 : decode b_Fo_init_c 0 = .ok (.aload_n 0, 1) := by decide +kernel
theorem d_Fo_init_1 : decode b_Fo_init_c 1 = .ok (.invokespecial 3, 3) := by decide +kernel
theorem d_Fo_init_4 : decode b_Fo_init_c 4 = .ok (.aload_n 0, 1) := by decide +kernel
theorem d_Fo_init_5 : decode b_Fo_init_c 5 = .ok (.iconst 0, 1) := by decide +kernel
theorem d_Fo_init_6 : decode b_Fo_init_c 6 = .ok (.putfield 9, 3) := by decide +kernel
theorem d_Fo_init_9 : decode b_Fo_init_c 9 = .ok (.aload_n 0, 1) := by decide +kernel
theorem d_Fo_init_10 : decode b_Fo_init_c 10 = .ok (.iconst 0, 1) := by decide +kernel
theorem d_Fo_init_11 : decode b_Fo_init_c 11 = .ok (.putfield 15, 3) := by decide +kernel
theorem d_Fo_init_14 : decode b_Fo_init_c 14 = .ok (.aload_n 0, 1) := by decide +kernel
theorem d_Fo_init_15 : decode b_Fo_init_c 15 = .ok (.iconst 0, 1) := by decide +kernel
theorem d_Fo_init_16 : decode b_Fo_init_c 16 = .ok (.putfield 18, 3) := by decide +kernel
theorem d_Fo_init_19 : decode b_Fo_init_c 19 = .ok (.aload_n 0, 1) := by decide +kernel
theorem d_Fo_init_20 : decode b_Fo_init_c 20 = .ok (.bipush 40, 2) := by decide +kernel
theorem d_Fo_init_22 : decode b_Fo_init_c 22 = .ok (.newarray .int, 2) := by decide +kernel
theorem d_Fo_init_24 : decode b_Fo_init_c 24 = .ok (.putfield 21, 3) := by decide +kernel
theorem d_Fo_init_27 : decode b_Fo_init_c 27 = .ok (.aload_n 0, 1) := by decide +kernel
theorem d_Fo_init_28 : decode b_Fo_init_c 28 = .ok (.bipush 40, 2) := by decide +kernel
theorem d_Fo_init_30 : decode b_Fo_init_c 30 = .ok (.newarray .int, 2) := by decide +kernel
theorem d_Fo_init_32 : decode b_Fo_init_c 32 = .ok (.putfield 25, 3) := by decide +kernel
theorem d_Fo_init_35 : decode b_Fo_init_c 35 = .ok (.aload_n 0, 1) := by decide +kernel
theorem d_Fo_init_36 : decode b_Fo_init_c 36 = .ok (.bipush 40, 2) := by decide +kernel
theorem d_Fo_init_38 : decode b_Fo_init_c 38 = .ok (.newarray .int, 2) := by decide +kernel
theorem d_Fo_init_40 : decode b_Fo_init_c 40 = .ok (.putfield 28, 3) := by decide +kernel
theorem d_Fo_init_43 : decode b_Fo_init_c 43 = .ok (.aload_n 0, 1) := by decide +kernel
theorem d_Fo_init_44 : decode b_Fo_init_c 44 = .ok (.bipush 10, 2) := by decide +kernel
theorem d_Fo_init_46 : decode b_Fo_init_c 46 = .ok (.newarray .int, 2) := by decide +kernel
theorem d_Fo_init_48 : decode b_Fo_init_c 48 = .ok (.putfield 31, 3) := by decide +kernel
theorem d_Fo_init_51 : decode b_Fo_init_c 51 = .ok (.aload_n 0, 1) := by decide +kernel
theorem d_Fo_init_52 : decode b_Fo_init_c 52 = .ok (.bipush 80, 2) := by decide +kernel
theorem d_Fo_init_54 : decode b_Fo_init_c 54 = .ok (.newarray .int, 2) := by decide +kernel
theorem d_Fo_init_56 : decode b_Fo_init_c 56 = .ok (.putfield 34, 3) := by decide +kernel
theorem d_Fo_init_59 : decode b_Fo_init_c 59 = .ok (.aload_n 0, 1) := by decide +kernel
theorem d_Fo_init_60 : decode b_Fo_init_c 60 = .ok (.bipush 120, 2) := by decide +kernel
theorem d_Fo_init_62 : decode b_Fo_init_c 62 = .ok (.newarray .int, 2) := by decide +kernel
theorem d_Fo_init_64 : decode b_Fo_init_c 64 = .ok (.putfield 37, 3) := by decide +kernel
theorem d_Fo_init_67 : decode b_Fo_init_c 67 = .ok (.aload_n 0, 1) := by decide +kernel
theorem d_Fo_init_68 : decode b_Fo_init_c 68 = .ok (.bipush 40, 2) := by decide +kernel
theorem d_Fo_init_70 : decode b_Fo_init_c 70 = .ok (.newarray .int, 2) := by decide +kernel
theorem d_Fo_init_72 : decode b_Fo_init_c 72 = .ok (.putfield 40, 3) := by decide +kernel
theorem d_Fo_init_75 : decode b_Fo_init_c 75 = .ok (.aload_n 0, 1) := by decide +kernel
theorem d_Fo_init_76 : decode b_Fo_init_c 76 = .ok (.bipush 40, 2) := by decide +kernel
theorem d_Fo_init_78 : decode b_Fo_init_c 78 = .ok (.newarray .int, 2) := by decide +kernel
theorem d_Fo_init_80 : decode b_Fo_init_c 80 = .ok (.putfield 43, 3) := by decide +kernel
theorem d_Fo_init_83 : decode b_Fo_init_c 83 = .ok (.aload_n 0, 1) := by decide +kernel
theorem d_Fo_init_84 : decode b_Fo_init_c 84 = .ok (.bipush 40, 2) := by decide +kernel
theorem d_Fo_init_86 : decode b_Fo_init_c 86 = .ok (.newarray .int, 2) := by decide +kernel
theorem d_Fo_init_88 : decode b_Fo_init_c 88 = .ok (.putfield 46, 3) := by decide +kernel
theorem d_Fo_init_91 : decode b_Fo_init_c 91 = .ok (.aload_n 0, 1) := by decide +kernel
theorem d_Fo_init_92 : decode b_Fo_init_c 92 = .ok (.bipush 40, 2) := by decide +kernel
theorem d_Fo_init_94 : decode b_Fo_init_c 94 = .ok (.newarray .long, 2) := by decide +kernel
theorem d_Fo_init_96 : decode b_Fo_init_c 96 = .ok (.putfield 49, 3) := by decide +kernel
theorem d_Fo_init_99 : decode b_Fo_init_c 99 = .ok (.aload_n 0, 1) := by decide +kernel
theorem d_Fo_init_100 : decode b_Fo_init_c 100 = .ok (.bipush 40, 2) := by decide +kernel
theorem d_Fo_init_102 : decode b_Fo_init_c 102 = .ok (.newarray .int, 2) := by decide +kernel
theorem d_Fo_init_104 : decode b_Fo_init_c 104 = .ok (.putfield 53, 3) := by decide +kernel
theorem d_Fo_init_107 : decode b_Fo_init_c 107 = .ok (.aload_n 0, 1) := by decide +kernel
theorem d_Fo_init_108 : decode b_Fo_init_c 108 = .ok (.bipush 10, 2) := by decide +kernel
theorem d_Fo_init_110 : decode b_Fo_init_c 110 = .ok (.newarray .int, 2) := by decide +kernel
theorem d_Fo_init_112 : decode b_Fo_init_c 112 = .ok (.putfield 56, 3) := by decide +kernel
theorem d_Fo_init_115 : decode b_Fo_init_c 115 = .ok (.aload_n 0, 1) := by decide +kernel
theorem d_Fo_init_116 : decode b_Fo_init_c 116 = .ok (.bipush 10, 2) := by decide +kernel
theorem d_Fo_init_118 : decode b_Fo_init_c 118 = .ok (.newarray .long, 2) := by decide +kernel
theorem d_Fo_init_120 : decode b_Fo_init_c 120 = .ok (.putfield 59, 3) := by decide +kernel
theorem d_Fo_init_123 : decode b_Fo_init_c 123 = .ok (.aload_n 0, 1) := by decide +kernel
theorem d_Fo_init_124 : decode b_Fo_init_c 124 = .ok (.iconst 3, 1) := by decide +kernel
theorem d_Fo_init_125 : decode b_Fo_init_c 125 = .ok (.newarray .int, 2) := by decide +kernel
theorem d_Fo_init_127 : decode b_Fo_init_c 127 = .ok (.putfield 62, 3) := by decide +kernel
theorem d_Fo_init_130 : decode b_Fo_init_c 130 = .ok (.return_, 1) := by decide +kernel
theorem kI_Fo : gCalI y_Fo_init b_Fo_init_c 1 0 := ⟨mc_22, mc_23, mc_24, by decide +kernel, by decide +kernel, by decide +kernel, rfl⟩
set_option maxHeartbeats 8000000 in
set_option maxRecDepth 100000 in
theorem w_Fo (l : Launch) : gMetC l y_Fo_init b_Fo_init_c 1 1 20 14 553 (fun a => [.ref (a 1)]) 2 (fun cf => cf 1 = .inr (1, [.int 0, .int 0, .int 0, .null, .null, .null, .null, .null, .null, .null, .null, .null, .null, .null, .null, .null, .null])) 16 (gOut 1) := by
  refine gMetC_of (by decide +kernel) rfl (fun a => Nat.le_of_ble_eq_true rfl) (fun X b0 cf hcf C hin hR => ?_)
  show GC X 0 0 0 [(0, .ref (gA X 1))] [] 2 cf
  refine c_aload_n C 0 d_Fo_init_0 rfl rfl ?_
  refine c_obj C mc_2 mc_0 mc_1 (by decide) (Nat.le_of_ble_eq_true rfl) d_Fo_init_1 ?_
  refine c_aload_n C 0 d_Fo_init_4 rfl rfl ?_
  refine c_iconst C (v := 0) d_Fo_init_5 (by decide) ?_
  refine c_put C (k := 1) (fs := [.int 0, .int 0, .int 0, .null, .null, .null, .null, .null, .null, .null, .null, .null, .null, .null, .null, .null, .null]) (fs' := [.int 0, .int 0, .int 0, .null, .null, .null, .null, .null, .null, .null, .null, .null, .null, .null, .null, .null, .null]) (ty := ty_Fo 0) ty_Fo ty_Fo_ok nm_Fo 0 (by decide) hcf rfl in_Fo (by decide) mc_3 rfl (ty_Fo_ok 0 (by decide)) rfl rfl (Nat.le_of_ble_eq_true rfl) rfl d_Fo_init_6 ?_
  refine c_aload_n C 0 d_Fo_init_9 rfl rfl ?_
  refine c_iconst C (v := 0) d_Fo_init_10 (by decide) ?_
  refine c_put C (k := 1) (fs := [.int 0, .int 0, .int 0, .null, .null, .null, .null, .null, .null, .null, .null, .null, .null, .null, .null, .null, .null]) (fs' := [.int 0, .int 0, .int 0, .null, .null, .null, .null, .null, .null, .null, .null, .null, .null, .null, .null, .null, .null]) (ty := ty_Fo 1) ty_Fo ty_Fo_ok nm_Fo 1 (by decide) rfl rfl in_Fo (by decide) mc_4 rfl (ty_Fo_ok 1 (by decide)) rfl rfl (Nat.le_of_ble_eq_true rfl) rfl d_Fo_init_11 ?_
  refine c_aload_n C 0 d_Fo_init_14 rfl rfl ?_
  refine c_iconst C (v := 0) d_Fo_init_15 (by decide) ?_
  refine c_put C (k := 1) (fs := [.int 0, .int 0, .int 0, .null, .null, .null, .null, .null, .null, .null, .null, .null, .null, .null, .null, .null, .null]) (fs' := [.int 0, .int 0, .int 0, .null, .null, .null, .null, .null, .null, .null, .null, .null, .null, .null, .null, .null, .null]) (ty := ty_Fo 2) ty_Fo ty_Fo_ok nm_Fo 2 (by decide) rfl rfl in_Fo (by decide) mc_5 rfl (ty_Fo_ok 2 (by decide)) rfl rfl (Nat.le_of_ble_eq_true rfl) rfl d_Fo_init_16 ?_
  refine c_aload_n C 0 d_Fo_init_19 rfl rfl ?_
  refine c_bipush C (v := 40) d_Fo_init_20 (by decide) ?_
  refine c_newa C (t := 0) (N' := 40) (a0 := (40, .inl (fun _ => 0))) (ty := .int) mc_6 rfl (fun _ => rfl) (fun _ h => by cases h) (fun _ => rfl) (by decide) (by decide) (by decide) (by decide) (by decide) d_Fo_init_22 ?_
  refine c_putF C (k := 1) (fs := [.int 0, .int 0, .int 0, .null, .null, .null, .null, .null, .null, .null, .null, .null, .null, .null, .null, .null, .null]) (fs' := [.int 0, .int 0, .int 0, .ref (gA X 2), .null, .null, .null, .null, .null, .null, .null, .null, .null, .null, .null, .null, .null]) (ty := ty_Fo 3) ty_Fo ty_Fo_ok nm_Fo 3 (by decide) rfl rfl in_Fo (by decide) mc_7 rfl hin rfl (ty_Fo_ok 3 (by decide)) rfl rfl (Nat.le_of_ble_eq_true rfl) rfl d_Fo_init_24 ?_
  refine c_aload_n C 0 d_Fo_init_27 rfl rfl ?_
  refine c_bipush C (v := 40) d_Fo_init_28 (by decide) ?_
  refine c_newa C (t := 0) (N' := 40) (a0 := (40, .inl (fun _ => 0))) (ty := .int) mc_6 rfl (fun _ => rfl) (fun _ h => by cases h) (fun _ => rfl) (by decide) (by decide) (by decide) (by decide) (by decide) d_Fo_init_30 ?_
  refine c_putF C (k := 1) (fs := [.int 0, .int 0, .int 0, .ref (gA X 2), .null, .null, .null, .null, .null, .null, .null, .null, .null, .null, .null, .null, .null]) (fs' := [.int 0, .int 0, .int 0, .ref (gA X 2), .ref (gA X 3), .null, .null, .null, .null, .null, .null, .null, .null, .null, .null, .null, .null]) (ty := ty_Fo 4) ty_Fo ty_Fo_ok nm_Fo 4 (by decide) rfl rfl in_Fo (by decide) mc_8 rfl hin rfl (ty_Fo_ok 4 (by decide)) rfl rfl (Nat.le_of_ble_eq_true rfl) rfl d_Fo_init_32 ?_
  refine c_aload_n C 0 d_Fo_init_35 rfl rfl ?_
  refine c_bipush C (v := 40) d_Fo_init_36 (by decide) ?_
  refine c_newa C (t := 0) (N' := 40) (a0 := (40, .inl (fun _ => 0))) (ty := .int) mc_6 rfl (fun _ => rfl) (fun _ h => by cases h) (fun _ => rfl) (by decide) (by decide) (by decide) (by decide) (by decide) d_Fo_init_38 ?_
  refine c_putF C (k := 1) (fs := [.int 0, .int 0, .int 0, .ref (gA X 2), .ref (gA X 3), .null, .null, .null, .null, .null, .null, .null, .null, .null, .null, .null, .null]) (fs' := [.int 0, .int 0, .int 0, .ref (gA X 2), .ref (gA X 3), .ref (gA X 4), .null, .null, .null, .null, .null, .null, .null, .null, .null, .null, .null]) (ty := ty_Fo 5) ty_Fo ty_Fo_ok nm_Fo 5 (by decide) rfl rfl in_Fo (by decide) mc_9 rfl hin rfl (ty_Fo_ok 5 (by decide)) rfl rfl (Nat.le_of_ble_eq_true rfl) rfl d_Fo_init_40 ?_
  refine c_aload_n C 0 d_Fo_init_43 rfl rfl ?_
  refine c_bipush C (v := 10) d_Fo_init_44 (by decide) ?_
  refine c_newa C (t := 0) (N' := 10) (a0 := (10, .inl (fun _ => 0))) (ty := .int) mc_6 rfl (fun _ => rfl) (fun _ h => by cases h) (fun _ => rfl) (by decide) (by decide) (by decide) (by decide) (by decide) d_Fo_init_46 ?_
  refine c_putF C (k := 1) (fs := [.int 0, .int 0, .int 0, .ref (gA X 2), .ref (gA X 3), .ref (gA X 4), .null, .null, .null, .null, .null, .null, .null, .null, .null, .null, .null]) (fs' := [.int 0, .int 0, .int 0, .ref (gA X 2), .ref (gA X 3), .ref (gA X 4), .ref (gA X 5), .null, .null, .null, .null, .null, .null, .null, .null, .null, .null]) (ty := ty_Fo 6) ty_Fo ty_Fo_ok nm_Fo 6 (by decide) rfl rfl in_Fo (by decide) mc_10 rfl hin rfl (ty_Fo_ok 6 (by decide)) rfl rfl (Nat.le_of_ble_eq_true rfl) rfl d_Fo_init_48 ?_
  refine c_aload_n C 0 d_Fo_init_51 rfl rfl ?_
  refine c_bipush C (v := 80) d_Fo_init_52 (by decide) ?_
  refine c_newa C (t := 0) (N' := 80) (a0 := (80, .inl (fun _ => 0))) (ty := .int) mc_6 rfl (fun _ => rfl) (fun _ h => by cases h) (fun _ => rfl) (by decide) (by decide) (by decide) (by decide) (by decide) d_Fo_init_54 ?_
  refine c_putF C (k := 1) (fs := [.int 0, .int 0, .int 0, .ref (gA X 2), .ref (gA X 3), .ref (gA X 4), .ref (gA X 5), .null, .null, .null, .null, .null, .null, .null, .null, .null, .null]) (fs' := [.int 0, .int 0, .int 0, .ref (gA X 2), .ref (gA X 3), .ref (gA X 4), .ref (gA X 5), .ref (gA X 6), .null, .null, .null, .null, .null, .null, .null, .null, .null]) (ty := ty_Fo 7) ty_Fo ty_Fo_ok nm_Fo 7 (by decide) rfl rfl in_Fo (by decide) mc_11 rfl hin rfl (ty_Fo_ok 7 (by decide)) rfl rfl (Nat.le_of_ble_eq_true rfl) rfl d_Fo_init_56 ?_
  refine c_aload_n C 0 d_Fo_init_59 rfl rfl ?_
  refine c_bipush C (v := 120) d_Fo_init_60 (by decide) ?_
  refine c_newa C (t := 0) (N' := 120) (a0 := (120, .inl (fun _ => 0))) (ty := .int) mc_6 rfl (fun _ => rfl) (fun _ h => by cases h) (fun _ => rfl) (by decide) (by decide) (by decide) (by decide) (by decide) d_Fo_init_62 ?_
  refine c_putF C (k := 1) (fs := [.int 0, .int 0, .int 0, .ref (gA X 2), .ref (gA X 3), .ref (gA X 4), .ref (gA X 5), .ref (gA X 6), .null, .null, .null, .null, .null, .null, .null, .null, .null]) (fs' := [.int 0, .int 0, .int 0, .ref (gA X 2), .ref (gA X 3), .ref (gA X 4), .ref (gA X 5), .ref (gA X 6), .ref (gA X 7), .null, .null, .null, .null, .null, .null, .null, .null]) (ty := ty_Fo 8) ty_Fo ty_Fo_ok nm_Fo 8 (by decide) rfl rfl in_Fo (by decide) mc_12 rfl hin rfl (ty_Fo_ok 8 (by decide)) rfl rfl (Nat.le_of_ble_eq_true rfl) rfl d_Fo_init_64 ?_
  refine c_aload_n C 0 d_Fo_init_67 rfl rfl ?_
  refine c_bipush C (v := 40) d_Fo_init_68 (by decide) ?_
  refine c_newa C (t := 0) (N' := 40) (a0 := (40, .inl (fun _ => 0))) (ty := .int) mc_6 rfl (fun _ => rfl) (fun _ h => by cases h) (fun _ => rfl) (by decide) (by decide) (by decide) (by decide) (by decide) d_Fo_init_70 ?_
  refine c_putF C (k := 1) (fs := [.int 0, .int 0, .int 0, .ref (gA X 2), .ref (gA X 3), .ref (gA X 4), .ref (gA X 5), .ref (gA X 6), .ref (gA X 7), .null, .null, .null, .null, .null, .null, .null, .null]) (fs' := [.int 0, .int 0, .int 0, .ref (gA X 2), .ref (gA X 3), .ref (gA X 4), .ref (gA X 5), .ref (gA X 6), .ref (gA X 7), .ref (gA X 8), .null, .null, .null, .null, .null, .null, .null]) (ty := ty_Fo 9) ty_Fo ty_Fo_ok nm_Fo 9 (by decide) rfl rfl in_Fo (by decide) mc_13 rfl hin rfl (ty_Fo_ok 9 (by decide)) rfl rfl (Nat.le_of_ble_eq_true rfl) rfl d_Fo_init_72 ?_
  refine c_aload_n C 0 d_Fo_init_75 rfl rfl ?_
  refine c_bipush C (v := 40) d_Fo_init_76 (by decide) ?_
  refine c_newa C (t := 0) (N' := 40) (a0 := (40, .inl (fun _ => 0))) (ty := .int) mc_6 rfl (fun _ => rfl) (fun _ h => by cases h) (fun _ => rfl) (by decide) (by decide) (by decide) (by decide) (by decide) d_Fo_init_78 ?_
  refine c_putF C (k := 1) (fs := [.int 0, .int 0, .int 0, .ref (gA X 2), .ref (gA X 3), .ref (gA X 4), .ref (gA X 5), .ref (gA X 6), .ref (gA X 7), .ref (gA X 8), .null, .null, .null, .null, .null, .null, .null]) (fs' := [.int 0, .int 0, .int 0, .ref (gA X 2), .ref (gA X 3), .ref (gA X 4), .ref (gA X 5), .ref (gA X 6), .ref (gA X 7), .ref (gA X 8), .ref (gA X 9), .null, .null, .null, .null, .null, .null]) (ty := ty_Fo 10) ty_Fo ty_Fo_ok nm_Fo 10 (by decide) rfl rfl in_Fo (by decide) mc_14 rfl hin rfl (ty_Fo_ok 10 (by decide)) rfl rfl (Nat.le_of_ble_eq_true rfl) rfl d_Fo_init_80 ?_
  refine c_aload_n C 0 d_Fo_init_83 rfl rfl ?_
  refine c_bipush C (v := 40) d_Fo_init_84 (by decide) ?_
  refine c_newa C (t := 0) (N' := 40) (a0 := (40, .inl (fun _ => 0))) (ty := .int) mc_6 rfl (fun _ => rfl) (fun _ h => by cases h) (fun _ => rfl) (by decide) (by decide) (by decide) (by decide) (by decide) d_Fo_init_86 ?_
  refine c_putF C (k := 1) (fs := [.int 0, .int 0, .int 0, .ref (gA X 2), .ref (gA X 3), .ref (gA X 4), .ref (gA X 5), .ref (gA X 6), .ref (gA X 7), .ref (gA X 8), .ref (gA X 9), .null, .null, .null, .null, .null, .null]) (fs' := [.int 0, .int 0, .int 0, .ref (gA X 2), .ref (gA X 3), .ref (gA X 4), .ref (gA X 5), .ref (gA X 6), .ref (gA X 7), .ref (gA X 8), .ref (gA X 9), .ref (gA X 10), .null, .null, .null, .null, .null]) (ty := ty_Fo 11) ty_Fo ty_Fo_ok nm_Fo 11 (by decide) rfl rfl in_Fo (by decide) mc_15 rfl hin rfl (ty_Fo_ok 11 (by decide)) rfl rfl (Nat.le_of_ble_eq_true rfl) rfl d_Fo_init_88 ?_
  refine c_aload_n C 0 d_Fo_init_91 rfl rfl ?_
  refine c_bipush C (v := 40) d_Fo_init_92 (by decide) ?_
  refine c_newa C (t := 1) (N' := 40) (a0 := (40, .inr (.inl (fun _ => 0)))) (ty := .long) mc_16 rfl (fun _ => rfl) (fun _ h => by cases h) (fun _ => rfl) (by decide) (by decide) (by decide) (by decide) (by decide) d_Fo_init_94 ?_
  refine c_putF C (k := 1) (fs := [.int 0, .int 0, .int 0, .ref (gA X 2), .ref (gA X 3), .ref (gA X 4), .ref (gA X 5), .ref (gA X 6), .ref (gA X 7), .ref (gA X 8), .ref (gA X 9), .ref (gA X 10), .null, .null, .null, .null, .null]) (fs' := [.int 0, .int 0, .int 0, .ref (gA X 2), .ref (gA X 3), .ref (gA X 4), .ref (gA X 5), .ref (gA X 6), .ref (gA X 7), .ref (gA X 8), .ref (gA X 9), .ref (gA X 10), .ref (gA X 11), .null, .null, .null, .null]) (ty := ty_Fo 12) ty_Fo ty_Fo_ok nm_Fo 12 (by decide) rfl rfl in_Fo (by decide) mc_17 rfl hin rfl (ty_Fo_ok 12 (by decide)) rfl rfl (Nat.le_of_ble_eq_true rfl) rfl d_Fo_init_96 ?_
  refine c_aload_n C 0 d_Fo_init_99 rfl rfl ?_
  refine c_bipush C (v := 40) d_Fo_init_100 (by decide) ?_
  refine c_newa C (t := 0) (N' := 40) (a0 := (40, .inl (fun _ => 0))) (ty := .int) mc_6 rfl (fun _ => rfl) (fun _ h => by cases h) (fun _ => rfl) (by decide) (by decide) (by decide) (by decide) (by decide) d_Fo_init_102 ?_
  refine c_putF C (k := 1) (fs := [.int 0, .int 0, .int 0, .ref (gA X 2), .ref (gA X 3), .ref (gA X 4), .ref (gA X 5), .ref (gA X 6), .ref (gA X 7), .ref (gA X 8), .ref (gA X 9), .ref (gA X 10), .ref (gA X 11), .null, .null, .null, .null]) (fs' := [.int 0, .int 0, .int 0, .ref (gA X 2), .ref (gA X 3), .ref (gA X 4), .ref (gA X 5), .ref (gA X 6), .ref (gA X 7), .ref (gA X 8), .ref (gA X 9), .ref (gA X 10), .ref (gA X 11), .ref (gA X 12), .null, .null, .null]) (ty := ty_Fo 13) ty_Fo ty_Fo_ok nm_Fo 13 (by decide) rfl rfl in_Fo (by decide) mc_18 rfl hin rfl (ty_Fo_ok 13 (by decide)) rfl rfl (Nat.le_of_ble_eq_true rfl) rfl d_Fo_init_104 ?_
  refine c_aload_n C 0 d_Fo_init_107 rfl rfl ?_
  refine c_bipush C (v := 10) d_Fo_init_108 (by decide) ?_
  refine c_newa C (t := 0) (N' := 10) (a0 := (10, .inl (fun _ => 0))) (ty := .int) mc_6 rfl (fun _ => rfl) (fun _ h => by cases h) (fun _ => rfl) (by decide) (by decide) (by decide) (by decide) (by decide) d_Fo_init_110 ?_
  refine c_putF C (k := 1) (fs := [.int 0, .int 0, .int 0, .ref (gA X 2), .ref (gA X 3), .ref (gA X 4), .ref (gA X 5), .ref (gA X 6), .ref (gA X 7), .ref (gA X 8), .ref (gA X 9), .ref (gA X 10), .ref (gA X 11), .ref (gA X 12), .null, .null, .null]) (fs' := [.int 0, .int 0, .int 0, .ref (gA X 2), .ref (gA X 3), .ref (gA X 4), .ref (gA X 5), .ref (gA X 6), .ref (gA X 7), .ref (gA X 8), .ref (gA X 9), .ref (gA X 10), .ref (gA X 11), .ref (gA X 12), .ref (gA X 13), .null, .null]) (ty := ty_Fo 14) ty_Fo ty_Fo_ok nm_Fo 14 (by decide) rfl rfl in_Fo (by decide) mc_19 rfl hin rfl (ty_Fo_ok 14 (by decide)) rfl rfl (Nat.le_of_ble_eq_true rfl) rfl d_Fo_init_112 ?_
  refine c_aload_n C 0 d_Fo_init_115 rfl rfl ?_
  refine c_bipush C (v := 10) d_Fo_init_116 (by decide) ?_
  refine c_newa C (t := 1) (N' := 10) (a0 := (10, .inr (.inl (fun _ => 0)))) (ty := .long) mc_16 rfl (fun _ => rfl) (fun _ h => by cases h) (fun _ => rfl) (by decide) (by decide) (by decide) (by decide) (by decide) d_Fo_init_118 ?_
  refine c_putF C (k := 1) (fs := [.int 0, .int 0, .int 0, .ref (gA X 2), .ref (gA X 3), .ref (gA X 4), .ref (gA X 5), .ref (gA X 6), .ref (gA X 7), .ref (gA X 8), .ref (gA X 9), .ref (gA X 10), .ref (gA X 11), .ref (gA X 12), .ref (gA X 13), .null, .null]) (fs' := [.int 0, .int 0, .int 0, .ref (gA X 2), .ref (gA X 3), .ref (gA X 4), .ref (gA X 5), .ref (gA X 6), .ref (gA X 7), .ref (gA X 8), .ref (gA X 9), .ref (gA X 10), .ref (gA X 11), .ref (gA X 12), .ref (gA X 13), .ref (gA X 14), .null]) (ty := ty_Fo 15) ty_Fo ty_Fo_ok nm_Fo 15 (by decide) rfl rfl in_Fo (by decide) mc_20 rfl hin rfl (ty_Fo_ok 15 (by decide)) rfl rfl (Nat.le_of_ble_eq_true rfl) rfl d_Fo_init_120 ?_
  refine c_aload_n C 0 d_Fo_init_123 rfl rfl ?_
  refine c_iconst C (v := 3) d_Fo_init_124 (by decide) ?_
  refine c_newa C (t := 0) (N' := 3) (a0 := (3, .inl (fun _ => 0))) (ty := .int) mc_6 rfl (fun _ => rfl) (fun _ h => by cases h) (fun _ => rfl) (by decide) (by decide) (by decide) (by decide) (by decide) d_Fo_init_125 ?_
  refine c_putF C (k := 1) (fs := [.int 0, .int 0, .int 0, .ref (gA X 2), .ref (gA X 3), .ref (gA X 4), .ref (gA X 5), .ref (gA X 6), .ref (gA X 7), .ref (gA X 8), .ref (gA X 9), .ref (gA X 10), .ref (gA X 11), .ref (gA X 12), .ref (gA X 13), .ref (gA X 14), .null]) (fs' := [.int 0, .int 0, .int 0, .ref (gA X 2), .ref (gA X 3), .ref (gA X 4), .ref (gA X 5), .ref (gA X 6), .ref (gA X 7), .ref (gA X 8), .ref (gA X 9), .ref (gA X 10), .ref (gA X 11), .ref (gA X 12), .ref (gA X 13), .ref (gA X 14), .ref (gA X 15)]) (ty := ty_Fo 16) ty_Fo ty_Fo_ok nm_Fo 16 (by decide) rfl rfl in_Fo (by decide) mc_21 rfl hin rfl (ty_Fo_ok 16 (by decide)) rfl rfl (Nat.le_of_ble_eq_true rfl) rfl d_Fo_init_127 ?_
  refine hR _ _ _ (fun k hk => ?_) d_Fo_init_130
  match k, hk with
  | 0, _ => rfl
  | 1, _ => rfl
  | 2, _ => rfl
  | 3, _ => rfl
  | 4, _ => rfl
  | 5, _ => rfl
  | 6, _ => rfl
  | 7, _ => rfl
  | 8, _ => rfl
  | 9, _ => rfl
  | 10, _ => rfl
  | 11, _ => rfl
  | 12, _ => rfl
  | 13, _ => rfl
  | 14, _ => rfl
  | 15, _ => rfl
  | k + 16, h => exact absurd h (by omega)
theorem d_Ta_init_0 : decode b_Ta_init_c 0 = .ok (.aload_n 0, 1) := by decide +kernel
theorem d_Ta_init_1 : decode b_Ta_init_c 1 = .ok (.invokespecial 3, 3) := by decide +kernel
theorem d_Ta_init_4 : decode b_Ta_init_c 4 = .ok (.aload_n 0, 1) := by decide +kernel
theorem d_Ta_init_5 : decode b_Ta_init_c 5 = .ok (.iconst 2, 1) := by decide +kernel
theorem d_Ta_init_6 : decode b_Ta_init_c 6 = .ok (.newarray .int, 2) := by decide +kernel
theorem d_Ta_init_8 : decode b_Ta_init_c 8 = .ok (.putfield 9, 3) := by decide +kernel
theorem d_Ta_init_11 : decode b_Ta_init_c 11 = .ok (.aload_n 0, 1) := by decide +kernel
theorem d_Ta_init_12 : decode b_Ta_init_c 12 = .ok (.iconst 2, 1) := by decide +kernel
theorem d_Ta_init_13 : decode b_Ta_init_c 13 = .ok (.sipush 4096, 3) := by decide +kernel
theorem d_Ta_init_16 : decode b_Ta_init_c 16 = .ok (.multianewarray 15 2, 4) := by decide +kernel
theorem d_Ta_init_20 : decode b_Ta_init_c 20 = .ok (.putfield 17, 3) := by decide +kernel
theorem d_Ta_init_23 : decode b_Ta_init_c 23 = .ok (.aload_n 0, 1) := by decide +kernel
theorem d_Ta_init_24 : decode b_Ta_init_c 24 = .ok (.bipush 10, 2) := by decide +kernel
theorem d_Ta_init_26 : decode b_Ta_init_c 26 = .ok (.newarray .int, 2) := by decide +kernel
theorem d_Ta_init_28 : decode b_Ta_init_c 28 = .ok (.putfield 20, 3) := by decide +kernel
theorem d_Ta_init_31 : decode b_Ta_init_c 31 = .ok (.aload_n 0, 1) := by decide +kernel
theorem d_Ta_init_32 : decode b_Ta_init_c 32 = .ok (.bipush 40, 2) := by decide +kernel
theorem d_Ta_init_34 : decode b_Ta_init_c 34 = .ok (.newarray .int, 2) := by decide +kernel
theorem d_Ta_init_36 : decode b_Ta_init_c 36 = .ok (.putfield 23, 3) := by decide +kernel
theorem d_Ta_init_39 : decode b_Ta_init_c 39 = .ok (.aload_n 0, 1) := by decide +kernel
theorem d_Ta_init_40 : decode b_Ta_init_c 40 = .ok (.iconst (-1), 1) := by decide +kernel
theorem d_Ta_init_41 : decode b_Ta_init_c 41 = .ok (.putfield 26, 3) := by decide +kernel
theorem d_Ta_init_44 : decode b_Ta_init_c 44 = .ok (.aload_n 0, 1) := by decide +kernel
theorem d_Ta_init_45 : decode b_Ta_init_c 45 = .ok (.iconst (-1), 1) := by decide +kernel
theorem d_Ta_init_46 : decode b_Ta_init_c 46 = .ok (.putfield 30, 3) := by decide +kernel
theorem d_Ta_init_49 : decode b_Ta_init_c 49 = .ok (.aload_n 0, 1) := by decide +kernel
theorem d_Ta_init_50 : decode b_Ta_init_c 50 = .ok (.aload_n 1, 1) := by decide +kernel
theorem d_Ta_init_51 : decode b_Ta_init_c 51 = .ok (.putfield 33, 3) := by decide +kernel
theorem d_Ta_init_54 : decode b_Ta_init_c 54 = .ok (.return_, 1) := by decide +kernel
theorem kI_Ta : gCalI y_Ta_init b_Ta_init_c 2 1 := ⟨mc_34, mc_35, mc_36, by decide +kernel, by decide +kernel, by decide +kernel, rfl⟩
set_option maxHeartbeats 8000000 in
set_option maxRecDepth 100000 in
theorem w_Ta (l : Launch) : gMetC l y_Ta_init b_Ta_init_c 2 1 20 6 8246 (fun a => [.ref (a 16), .ref (a 1)]) 17 (fun cf => cf 16 = .inr (2, [.null, .null, .null, .null, .null, .int 0, .int 0])) 23 (gOut 16) := by
  refine gMetC_of (by decide +kernel) rfl (fun a => Nat.le_of_ble_eq_true rfl) (fun X b0 cf hcf C hin hR => ?_)
  show GC X 0 0 0 [(0, .ref (gA X 16)), (1, .ref (gA X 1))] [] 17 cf
  refine c_aload_n C 0 d_Ta_init_0 rfl rfl ?_
  refine c_obj C mc_25 mc_0 mc_1 (by decide) (Nat.le_of_ble_eq_true rfl) d_Ta_init_1 ?_
  refine c_aload_n C 0 d_Ta_init_4 rfl rfl ?_
  refine c_iconst C (v := 2) d_Ta_init_5 (by decide) ?_
  refine c_newa C (t := 0) (N' := 2) (a0 := (2, .inl (fun _ => 0))) (ty := .int) mc_6 rfl (fun _ => rfl) (fun _ h => by cases h) (fun _ => rfl) (by decide) (by decide) (by decide) (by decide) (by decide) d_Ta_init_6 ?_
  refine c_putF C (k := 16) (fs := [.null, .null, .null, .null, .null, .int 0, .int 0]) (fs' := [.ref (gA X 17), .null, .null, .null, .null, .int 0, .int 0]) (ty := ty_Ta 0) ty_Ta ty_Ta_ok nm_Ta 0 (by decide) hcf rfl in_Ta (by decide) mc_26 rfl hin rfl (ty_Ta_ok 0 (by decide)) rfl rfl (Nat.le_of_ble_eq_true rfl) rfl d_Ta_init_8 ?_
  refine c_aload_n C 0 d_Ta_init_11 rfl rfl ?_
  refine c_iconst C (v := 2) d_Ta_init_12 (by decide) ?_
  refine c_sipush C (v := 4096) d_Ta_init_13 (by decide) ?_
  refine c_mna C (t := 2) (u := 0) (K' := 4096) (a0 := (4096, .inl (fun _ => 0))) (ty := .int) C.2.2.2.2.2.2.2.2.1.1 mc_6 (by rw [show ("[" ++ (FieldType.array .int).toString) = "[[I" by decide]; exact mc_27) (fun _ => rfl) (fun _ => rfl) (fun _ _ h => h) (by decide) (by decide) (by decide) (by decide) (by decide) (by decide) (by decide) (by decide) (fun c => mna_I c 4096) d_Ta_init_16 ?_
  refine c_putF C (k := 16) (fs := [.ref (gA X 17), .null, .null, .null, .null, .int 0, .int 0]) (fs' := [.ref (gA X 17), .null, .ref (gA X 18), .null, .null, .int 0, .int 0]) (ty := ty_Ta 2) ty_Ta ty_Ta_ok nm_Ta 2 (by decide) rfl rfl in_Ta (by decide) mc_28 rfl hin rfl (ty_Ta_ok 2 (by decide)) rfl rfl (Nat.le_of_ble_eq_true rfl) rfl d_Ta_init_20 ?_
  refine c_aload_n C 0 d_Ta_init_23 rfl rfl ?_
  refine c_bipush C (v := 10) d_Ta_init_24 (by decide) ?_
  refine c_newa C (t := 0) (N' := 10) (a0 := (10, .inl (fun _ => 0))) (ty := .int) mc_6 rfl (fun _ => rfl) (fun _ h => by cases h) (fun _ => rfl) (by decide) (by decide) (by decide) (by decide) (by decide) d_Ta_init_26 ?_
  refine c_putF C (k := 16) (fs := [.ref (gA X 17), .null, .ref (gA X 18), .null, .null, .int 0, .int 0]) (fs' := [.ref (gA X 17), .null, .ref (gA X 18), .ref (gA X 21), .null, .int 0, .int 0]) (ty := ty_Ta 3) ty_Ta ty_Ta_ok nm_Ta 3 (by decide) rfl rfl in_Ta (by decide) mc_29 rfl hin rfl (ty_Ta_ok 3 (by decide)) rfl rfl (Nat.le_of_ble_eq_true rfl) rfl d_Ta_init_28 ?_
  refine c_aload_n C 0 d_Ta_init_31 rfl rfl ?_
  refine c_bipush C (v := 40) d_Ta_init_32 (by decide) ?_
  refine c_newa C (t := 0) (N' := 40) (a0 := (40, .inl (fun _ => 0))) (ty := .int) mc_6 rfl (fun _ => rfl) (fun _ h => by cases h) (fun _ => rfl) (by decide) (by decide) (by decide) (by decide) (by decide) d_Ta_init_34 ?_
  refine c_putF C (k := 16) (fs := [.ref (gA X 17), .null, .ref (gA X 18), .ref (gA X 21), .null, .int 0, .int 0]) (fs' := [.ref (gA X 17), .null, .ref (gA X 18), .ref (gA X 21), .ref (gA X 22), .int 0, .int 0]) (ty := ty_Ta 4) ty_Ta ty_Ta_ok nm_Ta 4 (by decide) rfl rfl in_Ta (by decide) mc_30 rfl hin rfl (ty_Ta_ok 4 (by decide)) rfl rfl (Nat.le_of_ble_eq_true rfl) rfl d_Ta_init_36 ?_
  refine c_aload_n C 0 d_Ta_init_39 rfl rfl ?_
  refine c_iconst C (v := (-1)) d_Ta_init_40 (by decide) ?_
  refine c_put C (k := 16) (fs := [.ref (gA X 17), .null, .ref (gA X 18), .ref (gA X 21), .ref (gA X 22), .int 0, .int 0]) (fs' := [.ref (gA X 17), .null, .ref (gA X 18), .ref (gA X 21), .ref (gA X 22), .int (-1), .int 0]) (ty := ty_Ta 5) ty_Ta ty_Ta_ok nm_Ta 5 (by decide) rfl rfl in_Ta (by decide) mc_31 rfl (ty_Ta_ok 5 (by decide)) rfl rfl (Nat.le_of_ble_eq_true rfl) rfl d_Ta_init_41 ?_
  refine c_aload_n C 0 d_Ta_init_44 rfl rfl ?_
  refine c_iconst C (v := (-1)) d_Ta_init_45 (by decide) ?_
  refine c_put C (k := 16) (fs := [.ref (gA X 17), .null, .ref (gA X 18), .ref (gA X 21), .ref (gA X 22), .int (-1), .int 0]) (fs' := [.ref (gA X 17), .null, .ref (gA X 18), .ref (gA X 21), .ref (gA X 22), .int (-1), .int (-1)]) (ty := ty_Ta 6) ty_Ta ty_Ta_ok nm_Ta 6 (by decide) rfl rfl in_Ta (by decide) mc_32 rfl (ty_Ta_ok 6 (by decide)) rfl rfl (Nat.le_of_ble_eq_true rfl) rfl d_Ta_init_46 ?_
  refine c_aload_n C 0 d_Ta_init_49 rfl rfl ?_
  refine c_aload_n C 1 d_Ta_init_50 rfl rfl ?_
  refine c_putF C (k := 16) (fs := [.ref (gA X 17), .null, .ref (gA X 18), .ref (gA X 21), .ref (gA X 22), .int (-1), .int (-1)]) (fs' := [.ref (gA X 17), .ref (gA X 1), .ref (gA X 18), .ref (gA X 21), .ref (gA X 22), .int (-1), .int (-1)]) (ty := ty_Ta 1) ty_Ta ty_Ta_ok nm_Ta 1 (by decide) rfl rfl in_Ta (by decide) mc_33 rfl hin rfl (ty_Ta_ok 1 (by decide)) rfl rfl (Nat.le_of_ble_eq_true rfl) rfl d_Ta_init_51 ?_
  refine hR _ _ _ (fun k hk => ?_) d_Ta_init_54
  match k, hk with
  | 0, _ => rfl
  | 1, _ => rfl
  | 2, _ => rfl
  | 3, _ => rfl
  | 4, _ => rfl
  | 5, _ => rfl
  | 6, _ => rfl
  | 7, _ => rfl
  | 8, _ => rfl
  | 9, _ => rfl
  | 10, _ => rfl
  | 11, _ => rfl
  | 12, _ => rfl
  | 13, _ => rfl
  | 14, _ => rfl
  | 15, _ => rfl
  | 16, _ => rfl
  | 17, _ => rfl
  | 18, _ => rfl
  | 19, _ => rfl
  | 20, _ => rfl
  | 21, _ => rfl
  | 22, _ => rfl
  | k + 23, h => exact absurd h (by omega)
theorem d_Po_init_0 : decode b_Po_init_c 0 = .ok (.aload_n 0, 1) := by decide +kernel
theorem d_Po_init_1 : decode b_Po_init_c 1 = .ok (.invokespecial 3, 3) := by decide +kernel
theorem d_Po_init_4 : decode b_Po_init_c 4 = .ok (.aload_n 0, 1) := by decide +kernel
theorem d_Po_init_5 : decode b_Po_init_c 5 = .ok (.iconst 2, 1) := by decide +kernel
theorem d_Po_init_6 : decode b_Po_init_c 6 = .ok (.bipush 64, 2) := by decide +kernel
theorem d_Po_init_8 : decode b_Po_init_c 8 = .ok (.multianewarray 9 2, 4) := by decide +kernel
theorem d_Po_init_12 : decode b_Po_init_c 12 = .ok (.putfield 11, 3) := by decide +kernel
theorem d_Po_init_15 : decode b_Po_init_c 15 = .ok (.aload_n 0, 1) := by decide +kernel
theorem d_Po_init_16 : decode b_Po_init_c 16 = .ok (.iconst 2, 1) := by decide +kernel
theorem d_Po_init_17 : decode b_Po_init_c 17 = .ok (.newarray .int, 2) := by decide +kernel
theorem d_Po_init_19 : decode b_Po_init_c 19 = .ok (.dup, 1) := by decide +kernel
theorem d_Po_init_20 : decode b_Po_init_c 20 = .ok (.iconst 0, 1) := by decide +kernel
theorem d_Po_init_21 : decode b_Po_init_c 21 = .ok (.iconst (-1), 1) := by decide +kernel
theorem d_Po_init_22 : decode b_Po_init_c 22 = .ok (.iastore, 1) := by decide +kernel
theorem d_Po_init_23 : decode b_Po_init_c 23 = .ok (.dup, 1) := by decide +kernel
theorem d_Po_init_24 : decode b_Po_init_c 24 = .ok (.iconst 1, 1) := by decide +kernel
theorem d_Po_init_25 : decode b_Po_init_c 25 = .ok (.iconst (-1), 1) := by decide +kernel
theorem d_Po_init_26 : decode b_Po_init_c 26 = .ok (.iastore, 1) := by decide +kernel
theorem d_Po_init_27 : decode b_Po_init_c 27 = .ok (.putfield 16, 3) := by decide +kernel
theorem d_Po_init_30 : decode b_Po_init_c 30 = .ok (.aload_n 0, 1) := by decide +kernel
theorem d_Po_init_31 : decode b_Po_init_c 31 = .ok (.iconst 2, 1) := by decide +kernel
theorem d_Po_init_32 : decode b_Po_init_c 32 = .ok (.bipush 64, 2) := by decide +kernel
theorem d_Po_init_34 : decode b_Po_init_c 34 = .ok (.multianewarray 20 2, 4) := by decide +kernel
theorem d_Po_init_38 : decode b_Po_init_c 38 = .ok (.putfield 22, 3) := by decide +kernel
theorem d_Po_init_41 : decode b_Po_init_c 41 = .ok (.aload_n 0, 1) := by decide +kernel
theorem d_Po_init_42 : decode b_Po_init_c 42 = .ok (.iconst 2, 1) := by decide +kernel
theorem d_Po_init_43 : decode b_Po_init_c 43 = .ok (.bipush 64, 2) := by decide +kernel
theorem d_Po_init_45 : decode b_Po_init_c 45 = .ok (.multianewarray 20 2, 4) := by decide +kernel
theorem d_Po_init_49 : decode b_Po_init_c 49 = .ok (.putfield 25, 3) := by decide +kernel
theorem d_Po_init_52 : decode b_Po_init_c 52 = .ok (.aload_n 0, 1) := by decide +kernel
theorem d_Po_init_53 : decode b_Po_init_c 53 = .ok (.aload_n 1, 1) := by decide +kernel
theorem d_Po_init_54 : decode b_Po_init_c 54 = .ok (.putfield 28, 3) := by decide +kernel
theorem d_Po_init_57 : decode b_Po_init_c 57 = .ok (.aload_n 0, 1) := by decide +kernel
theorem d_Po_init_58 : decode b_Po_init_c 58 = .ok (.aload_n 2, 1) := by decide +kernel
theorem d_Po_init_59 : decode b_Po_init_c 59 = .ok (.putfield 32, 3) := by decide +kernel
theorem d_Po_init_62 : decode b_Po_init_c 62 = .ok (.return_, 1) := by decide +kernel
theorem kI_Po : gCalI y_Po_init b_Po_init_c 3 2 := ⟨mc_46, mc_47, mc_48, by decide +kernel, by decide +kernel, by decide +kernel, rfl⟩
set_option maxHeartbeats 8000000 in
set_option maxRecDepth 100000 in
theorem w_Po (l : Launch) : gMetC l y_Po_init b_Po_init_c 3 1 20 10 392 (fun a => [.ref (a 23), .ref (a 1), .ref (a 16)]) 24 (fun cf => cf 23 = .inr (3, [.null, .null, .null, .null, .null, .null])) 34 (gOut 23) := by
  refine gMetC_of (by decide +kernel) rfl (fun a => Nat.le_of_ble_eq_true rfl) (fun X b0 cf hcf C hin hR => ?_)
  show GC X 0 0 0 [(0, .ref (gA X 23)), (1, .ref (gA X 1)), (2, .ref (gA X 16))] [] 24 cf
  refine c_aload_n C 0 d_Po_init_0 rfl rfl ?_
  refine c_obj C mc_37 mc_0 mc_1 (by decide) (Nat.le_of_ble_eq_true rfl) d_Po_init_1 ?_
  refine c_aload_n C 0 d_Po_init_4 rfl rfl ?_
  refine c_iconst C (v := 2) d_Po_init_5 (by decide) ?_
  refine c_bipush C (v := 64) d_Po_init_6 (by decide) ?_
  refine c_mna C (t := 3) (u := 1) (K' := 64) (a0 := (64, .inr (.inl (fun _ => 0)))) (ty := .long) C.2.2.2.2.2.2.2.2.1.2 mc_16 (by rw [show ("[" ++ (FieldType.array .long).toString) = "[[J" by decide]; exact mc_38) (fun _ => rfl) (fun _ => rfl) (fun _ _ h => h) (by decide) (by decide) (by decide) (by decide) (by decide) (by decide) (by decide) (by decide) (fun c => mna_J c 64) d_Po_init_8 ?_
  refine c_putF C (k := 23) (fs := [.null, .null, .null, .null, .null, .null]) (fs' := [.null, .null, .ref (gA X 24), .null, .null, .null]) (ty := ty_Po 2) ty_Po ty_Po_ok nm_Po 2 (by decide) hcf rfl in_Po (by decide) mc_39 rfl hin rfl (ty_Po_ok 2 (by decide)) rfl rfl (Nat.le_of_ble_eq_true rfl) rfl d_Po_init_12 ?_
  refine c_aload_n C 0 d_Po_init_15 rfl rfl ?_
  refine c_iconst C (v := 2) d_Po_init_16 (by decide) ?_
  refine c_newa C (t := 0) (N' := 2) (a0 := (2, .inl (fun _ => 0))) (ty := .int) mc_6 rfl (fun _ => rfl) (fun _ h => by cases h) (fun _ => rfl) (by decide) (by decide) (by decide) (by decide) (by decide) d_Po_init_17 ?_
  refine c_dup C d_Po_init_19 rfl ?_
  refine c_iconst C (v := 0) d_Po_init_20 (by decide) ?_
  refine c_iconst C (v := (-1)) d_Po_init_21 (by decide) ?_
  refine c_iast C (k := 27) (N := 2) (by decide) rfl (by decide) d_Po_init_22 ?_
  refine c_dup C d_Po_init_23 rfl ?_
  refine c_iconst C (v := 1) d_Po_init_24 (by decide) ?_
  refine c_iconst C (v := (-1)) d_Po_init_25 (by decide) ?_
  refine c_iast C (k := 27) (N := 2) (by decide) rfl (by decide) d_Po_init_26 ?_
  refine c_putF C (k := 23) (fs := [.null, .null, .ref (gA X 24), .null, .null, .null]) (fs' := [.null, .null, .ref (gA X 24), .ref (gA X 27), .null, .null]) (ty := ty_Po 3) ty_Po ty_Po_ok nm_Po 3 (by decide) rfl rfl in_Po (by decide) mc_40 rfl hin rfl (ty_Po_ok 3 (by decide)) rfl rfl (Nat.le_of_ble_eq_true rfl) rfl d_Po_init_27 ?_
  refine c_aload_n C 0 d_Po_init_30 rfl rfl ?_
  refine c_iconst C (v := 2) d_Po_init_31 (by decide) ?_
  refine c_bipush C (v := 64) d_Po_init_32 (by decide) ?_
  refine c_mna C (t := 2) (u := 0) (K' := 64) (a0 := (64, .inl (fun _ => 0))) (ty := .int) C.2.2.2.2.2.2.2.2.1.1 mc_6 (by rw [show ("[" ++ (FieldType.array .int).toString) = "[[I" by decide]; exact mc_41) (fun _ => rfl) (fun _ => rfl) (fun _ _ h => h) (by decide) (by decide) (by decide) (by decide) (by decide) (by decide) (by decide) (by decide) (fun c => mna_I c 64) d_Po_init_34 ?_
  refine c_putF C (k := 23) (fs := [.null, .null, .ref (gA X 24), .ref (gA X 27), .null, .null]) (fs' := [.null, .null, .ref (gA X 24), .ref (gA X 27), .ref (gA X 28), .null]) (ty := ty_Po 4) ty_Po ty_Po_ok nm_Po 4 (by decide) rfl rfl in_Po (by decide) mc_42 rfl hin rfl (ty_Po_ok 4 (by decide)) rfl rfl (Nat.le_of_ble_eq_true rfl) rfl d_Po_init_38 ?_
  refine c_aload_n C 0 d_Po_init_41 rfl rfl ?_
  refine c_iconst C (v := 2) d_Po_init_42 (by decide) ?_
  refine c_bipush C (v := 64) d_Po_init_43 (by decide) ?_
  refine c_mna C (t := 2) (u := 0) (K' := 64) (a0 := (64, .inl (fun _ => 0))) (ty := .int) C.2.2.2.2.2.2.2.2.1.1 mc_6 (by rw [show ("[" ++ (FieldType.array .int).toString) = "[[I" by decide]; exact mc_41) (fun _ => rfl) (fun _ => rfl) (fun _ _ h => h) (by decide) (by decide) (by decide) (by decide) (by decide) (by decide) (by decide) (by decide) (fun c => mna_I c 64) d_Po_init_45 ?_
  refine c_putF C (k := 23) (fs := [.null, .null, .ref (gA X 24), .ref (gA X 27), .ref (gA X 28), .null]) (fs' := [.null, .null, .ref (gA X 24), .ref (gA X 27), .ref (gA X 28), .ref (gA X 31)]) (ty := ty_Po 5) ty_Po ty_Po_ok nm_Po 5 (by decide) rfl rfl in_Po (by decide) mc_43 rfl hin rfl (ty_Po_ok 5 (by decide)) rfl rfl (Nat.le_of_ble_eq_true rfl) rfl d_Po_init_49 ?_
  refine c_aload_n C 0 d_Po_init_52 rfl rfl ?_
  refine c_aload_n C 1 d_Po_init_53 rfl rfl ?_
  refine c_putF C (k := 23) (fs := [.null, .null, .ref (gA X 24), .ref (gA X 27), .ref (gA X 28), .ref (gA X 31)]) (fs' := [.ref (gA X 1), .null, .ref (gA X 24), .ref (gA X 27), .ref (gA X 28), .ref (gA X 31)]) (ty := ty_Po 0) ty_Po ty_Po_ok nm_Po 0 (by decide) rfl rfl in_Po (by decide) mc_44 rfl hin rfl (ty_Po_ok 0 (by decide)) rfl rfl (Nat.le_of_ble_eq_true rfl) rfl d_Po_init_54 ?_
  refine c_aload_n C 0 d_Po_init_57 rfl rfl ?_
  refine c_aload_n C 2 d_Po_init_58 rfl rfl ?_
  refine c_putF C (k := 23) (fs := [.ref (gA X 1), .null, .ref (gA X 24), .ref (gA X 27), .ref (gA X 28), .ref (gA X 31)]) (fs' := [.ref (gA X 1), .ref (gA X 16), .ref (gA X 24), .ref (gA X 27), .ref (gA X 28), .ref (gA X 31)]) (ty := ty_Po 1) ty_Po ty_Po_ok nm_Po 1 (by decide) rfl rfl in_Po (by decide) mc_45 rfl hin rfl (ty_Po_ok 1 (by decide)) rfl rfl (Nat.le_of_ble_eq_true rfl) rfl d_Po_init_59 ?_
  refine hR _ _ _ (fun k hk => ?_) d_Po_init_62
  match k, hk with
  | 0, _ => rfl
  | 1, _ => rfl
  | 2, _ => rfl
  | 3, _ => rfl
  | 4, _ => rfl
  | 5, _ => rfl
  | 6, _ => rfl
  | 7, _ => rfl
  | 8, _ => rfl
  | 9, _ => rfl
  | 10, _ => rfl
  | 11, _ => rfl
  | 12, _ => rfl
  | 13, _ => rfl
  | 14, _ => rfl
  | 15, _ => rfl
  | 16, _ => rfl
  | 17, _ => rfl
  | 18, _ => rfl
  | 19, _ => rfl
  | 20, _ => rfl
  | 21, _ => rfl
  | 22, _ => rfl
  | 23, _ => rfl
  | 24, _ => rfl
  | 25, _ => rfl
  | 26, _ => rfl
  | 27, _ => rfl
  | 28, _ => rfl
  | 29, _ => rfl
  | 30, _ => rfl
  | 31, _ => rfl
  | 32, _ => rfl
  | 33, _ => rfl
  | k + 34, h => exact absurd h (by omega)
theorem d_Le_init_0 : decode b_Le_init_c 0 = .ok (.aload_n 0, 1) := by decide +kernel
theorem d_Le_init_1 : decode b_Le_init_c 1 = .ok (.invokespecial 3, 3) := by decide +kernel
theorem d_Le_init_4 : decode b_Le_init_c 4 = .ok (.aload_n 0, 1) := by decide +kernel
theorem d_Le_init_5 : decode b_Le_init_c 5 = .ok (.iconst 2, 1) := by decide +kernel
theorem d_Le_init_6 : decode b_Le_init_c 6 = .ok (.bipush 64, 2) := by decide +kernel
theorem d_Le_init_8 : decode b_Le_init_c 8 = .ok (.multianewarray 9 2, 4) := by decide +kernel
theorem d_Le_init_12 : decode b_Le_init_c 12 = .ok (.putfield 11, 3) := by decide +kernel
theorem d_Le_init_15 : decode b_Le_init_c 15 = .ok (.aload_n 0, 1) := by decide +kernel
theorem d_Le_init_16 : decode b_Le_init_c 16 = .ok (.iconst 2, 1) := by decide +kernel
theorem d_Le_init_17 : decode b_Le_init_c 17 = .ok (.newarray .long, 2) := by decide +kernel
theorem d_Le_init_19 : decode b_Le_init_c 19 = .ok (.putfield 16, 3) := by decide +kernel
theorem d_Le_init_22 : decode b_Le_init_c 22 = .ok (.aload_n 0, 1) := by decide +kernel
theorem d_Le_init_23 : decode b_Le_init_c 23 = .ok (.iconst (-1), 1) := by decide +kernel
theorem d_Le_init_24 : decode b_Le_init_c 24 = .ok (.putfield 20, 3) := by decide +kernel
theorem d_Le_init_27 : decode b_Le_init_c 27 = .ok (.aload_n 0, 1) := by decide +kernel
theorem d_Le_init_28 : decode b_Le_init_c 28 = .ok (.aload_n 1, 1) := by decide +kernel
theorem d_Le_init_29 : decode b_Le_init_c 29 = .ok (.putfield 24, 3) := by decide +kernel
theorem d_Le_init_32 : decode b_Le_init_c 32 = .ok (.aload_n 0, 1) := by decide +kernel
theorem d_Le_init_33 : decode b_Le_init_c 33 = .ok (.aload_n 2, 1) := by decide +kernel
theorem d_Le_init_34 : decode b_Le_init_c 34 = .ok (.putfield 28, 3) := by decide +kernel
theorem d_Le_init_37 : decode b_Le_init_c 37 = .ok (.return_, 1) := by decide +kernel
theorem kI_Le : gCalI y_Le_init b_Le_init_c 3 2 := ⟨mc_56, mc_57, mc_58, by decide +kernel, by decide +kernel, by decide +kernel, rfl⟩
set_option maxHeartbeats 8000000 in
set_option maxRecDepth 100000 in
theorem w_Le (l : Launch) : gMetC l y_Le_init b_Le_init_c 3 1 20 4 132 (fun a => [.ref (a 34), .ref (a 1), .ref (a 16)]) 35 (fun cf => cf 34 = .inr (4, [.null, .null, .null, .null, .int 0])) 39 (gOut 34) := by
  refine gMetC_of (by decide +kernel) rfl (fun a => Nat.le_of_ble_eq_true rfl) (fun X b0 cf hcf C hin hR => ?_)
  show GC X 0 0 0 [(0, .ref (gA X 34)), (1, .ref (gA X 1)), (2, .ref (gA X 16))] [] 35 cf
  refine c_aload_n C 0 d_Le_init_0 rfl rfl ?_
  refine c_obj C mc_49 mc_0 mc_1 (by decide) (Nat.le_of_ble_eq_true rfl) d_Le_init_1 ?_
  refine c_aload_n C 0 d_Le_init_4 rfl rfl ?_
  refine c_iconst C (v := 2) d_Le_init_5 (by decide) ?_
  refine c_bipush C (v := 64) d_Le_init_6 (by decide) ?_
  refine c_mna C (t := 2) (u := 0) (K' := 64) (a0 := (64, .inl (fun _ => 0))) (ty := .int) C.2.2.2.2.2.2.2.2.1.1 mc_6 (by rw [show ("[" ++ (FieldType.array .int).toString) = "[[I" by decide]; exact mc_50) (fun _ => rfl) (fun _ => rfl) (fun _ _ h => h) (by decide) (by decide) (by decide) (by decide) (by decide) (by decide) (by decide) (by decide) (fun c => mna_I c 64) d_Le_init_8 ?_
  refine c_putF C (k := 34) (fs := [.null, .null, .null, .null, .int 0]) (fs' := [.null, .null, .ref (gA X 35), .null, .int 0]) (ty := ty_Le 2) ty_Le ty_Le_ok nm_Le 2 (by decide) hcf rfl in_Le (by decide) mc_51 rfl hin rfl (ty_Le_ok 2 (by decide)) rfl rfl (Nat.le_of_ble_eq_true rfl) rfl d_Le_init_12 ?_
  refine c_aload_n C 0 d_Le_init_15 rfl rfl ?_
  refine c_iconst C (v := 2) d_Le_init_16 (by decide) ?_
  refine c_newa C (t := 1) (N' := 2) (a0 := (2, .inr (.inl (fun _ => 0)))) (ty := .long) mc_16 rfl (fun _ => rfl) (fun _ h => by cases h) (fun _ => rfl) (by decide) (by decide) (by decide) (by decide) (by decide) d_Le_init_17 ?_
  refine c_putF C (k := 34) (fs := [.null, .null, .ref (gA X 35), .null, .int 0]) (fs' := [.null, .null, .ref (gA X 35), .ref (gA X 38), .int 0]) (ty := ty_Le 3) ty_Le ty_Le_ok nm_Le 3 (by decide) rfl rfl in_Le (by decide) mc_52 rfl hin rfl (ty_Le_ok 3 (by decide)) rfl rfl (Nat.le_of_ble_eq_true rfl) rfl d_Le_init_19 ?_
  refine c_aload_n C 0 d_Le_init_22 rfl rfl ?_
  refine c_iconst C (v := (-1)) d_Le_init_23 (by decide) ?_
  refine c_put C (k := 34) (fs := [.null, .null, .ref (gA X 35), .ref (gA X 38), .int 0]) (fs' := [.null, .null, .ref (gA X 35), .ref (gA X 38), .int (-1)]) (ty := ty_Le 4) ty_Le ty_Le_ok nm_Le 4 (by decide) rfl rfl in_Le (by decide) mc_53 rfl (ty_Le_ok 4 (by decide)) rfl rfl (Nat.le_of_ble_eq_true rfl) rfl d_Le_init_24 ?_
  refine c_aload_n C 0 d_Le_init_27 rfl rfl ?_
  refine c_aload_n C 1 d_Le_init_28 rfl rfl ?_
  refine c_putF C (k := 34) (fs := [.null, .null, .ref (gA X 35), .ref (gA X 38), .int (-1)]) (fs' := [.ref (gA X 1), .null, .ref (gA X 35), .ref (gA X 38), .int (-1)]) (ty := ty_Le 0) ty_Le ty_Le_ok nm_Le 0 (by decide) rfl rfl in_Le (by decide) mc_54 rfl hin rfl (ty_Le_ok 0 (by decide)) rfl rfl (Nat.le_of_ble_eq_true rfl) rfl d_Le_init_29 ?_
  refine c_aload_n C 0 d_Le_init_32 rfl rfl ?_
  refine c_aload_n C 2 d_Le_init_33 rfl rfl ?_
  refine c_putF C (k := 34) (fs := [.ref (gA X 1), .null, .ref (gA X 35), .ref (gA X 38), .int (-1)]) (fs' := [.ref (gA X 1), .ref (gA X 16), .ref (gA X 35), .ref (gA X 38), .int (-1)]) (ty := ty_Le 1) ty_Le ty_Le_ok nm_Le 1 (by decide) rfl rfl in_Le (by decide) mc_55 rfl hin rfl (ty_Le_ok 1 (by decide)) rfl rfl (Nat.le_of_ble_eq_true rfl) rfl d_Le_init_34 ?_
  refine hR _ _ _ (fun k hk => ?_) d_Le_init_37
  match k, hk with
  | 0, _ => rfl
  | 1, _ => rfl
  | 2, _ => rfl
  | 3, _ => rfl
  | 4, _ => rfl
  | 5, _ => rfl
  | 6, _ => rfl
  | 7, _ => rfl
  | 8, _ => rfl
  | 9, _ => rfl
  | 10, _ => rfl
  | 11, _ => rfl
  | 12, _ => rfl
  | 13, _ => rfl
  | 14, _ => rfl
  | 15, _ => rfl
  | 16, _ => rfl
  | 17, _ => rfl
  | 18, _ => rfl
  | 19, _ => rfl
  | 20, _ => rfl
  | 21, _ => rfl
  | 22, _ => rfl
  | 23, _ => rfl
  | 24, _ => rfl
  | 25, _ => rfl
  | 26, _ => rfl
  | 27, _ => rfl
  | 28, _ => rfl
  | 29, _ => rfl
  | 30, _ => rfl
  | 31, _ => rfl
  | 32, _ => rfl
  | 33, _ => rfl
  | 34, _ => rfl
  | 35, _ => rfl
  | 36, _ => rfl
  | 37, _ => rfl
  | 38, _ => rfl
  | k + 39, h => exact absurd h (by omega)
theorem d_An_init_0 : decode b_An_init_c 0 = .ok (.aload_n 0, 1) := by decide +kernel
theorem d_An_init_1 : decode b_An_init_c 1 = .ok (.invokespecial 3, 3) := by decide +kernel
theorem d_An_init_4 : decode b_An_init_c 4 = .ok (.aload_n 0, 1) := by decide +kernel
theorem d_An_init_5 : decode b_An_init_c 5 = .ok (.iconst 2, 1) := by decide +kernel
theorem d_An_init_6 : decode b_An_init_c 6 = .ok (.sipush 200, 3) := by decide +kernel
theorem d_An_init_9 : decode b_An_init_c 9 = .ok (.multianewarray 9 2, 4) := by decide +kernel
theorem d_An_init_13 : decode b_An_init_c 13 = .ok (.putfield 11, 3) := by decide +kernel
theorem d_An_init_16 : decode b_An_init_c 16 = .ok (.aload_n 0, 1) := by decide +kernel
theorem d_An_init_17 : decode b_An_init_c 17 = .ok (.iconst 2, 1) := by decide +kernel
theorem d_An_init_18 : decode b_An_init_c 18 = .ok (.bipush 64, 2) := by decide +kernel
theorem d_An_init_20 : decode b_An_init_c 20 = .ok (.multianewarray 9 2, 4) := by decide +kernel
theorem d_An_init_24 : decode b_An_init_c 24 = .ok (.putfield 16, 3) := by decide +kernel
theorem d_An_init_27 : decode b_An_init_c 27 = .ok (.aload_n 0, 1) := by decide +kernel
theorem d_An_init_28 : decode b_An_init_c 28 = .ok (.iconst 0, 1) := by decide +kernel
theorem d_An_init_29 : decode b_An_init_c 29 = .ok (.putfield 19, 3) := by decide +kernel
theorem d_An_init_32 : decode b_An_init_c 32 = .ok (.aload_n 0, 1) := by decide +kernel
theorem d_An_init_33 : decode b_An_init_c 33 = .ok (.iconst (-1), 1) := by decide +kernel
theorem d_An_init_34 : decode b_An_init_c 34 = .ok (.putfield 23, 3) := by decide +kernel
theorem d_An_init_37 : decode b_An_init_c 37 = .ok (.aload_n 0, 1) := by decide +kernel
theorem d_An_init_38 : decode b_An_init_c 38 = .ok (.aload_n 1, 1) := by decide +kernel
theorem d_An_init_39 : decode b_An_init_c 39 = .ok (.putfield 26, 3) := by decide +kernel
theorem d_An_init_42 : decode b_An_init_c 42 = .ok (.aload_n 0, 1) := by decide +kernel
theorem d_An_init_43 : decode b_An_init_c 43 = .ok (.aload_n 2, 1) := by decide +kernel
theorem d_An_init_44 : decode b_An_init_c 44 = .ok (.putfield 30, 3) := by decide +kernel
theorem d_An_init_47 : decode b_An_init_c 47 = .ok (.return_, 1) := by decide +kernel
theorem kI_An : gCalI y_An_init b_An_init_c 3 2 := ⟨mc_67, mc_68, mc_69, by decide +kernel, by decide +kernel, by decide +kernel, rfl⟩
set_option maxHeartbeats 8000000 in
set_option maxRecDepth 100000 in
theorem w_An (l : Launch) : gMetC l y_An_init b_An_init_c 3 1 20 6 532 (fun a => [.ref (a 39), .ref (a 1), .ref (a 16)]) 40 (fun cf => cf 39 = .inr (5, [.null, .null, .null, .null, .int 0, .int 0])) 46 (gOut 39) := by
  refine gMetC_of (by decide +kernel) rfl (fun a => Nat.le_of_ble_eq_true rfl) (fun X b0 cf hcf C hin hR => ?_)
  show GC X 0 0 0 [(0, .ref (gA X 39)), (1, .ref (gA X 1)), (2, .ref (gA X 16))] [] 40 cf
  refine c_aload_n C 0 d_An_init_0 rfl rfl ?_
  refine c_obj C mc_59 mc_0 mc_1 (by decide) (Nat.le_of_ble_eq_true rfl) d_An_init_1 ?_
  refine c_aload_n C 0 d_An_init_4 rfl rfl ?_
  refine c_iconst C (v := 2) d_An_init_5 (by decide) ?_
  refine c_sipush C (v := 200) d_An_init_6 (by decide) ?_
  refine c_mna C (t := 2) (u := 0) (K' := 200) (a0 := (200, .inl (fun _ => 0))) (ty := .int) C.2.2.2.2.2.2.2.2.1.1 mc_6 (by rw [show ("[" ++ (FieldType.array .int).toString) = "[[I" by decide]; exact mc_60) (fun _ => rfl) (fun _ => rfl) (fun _ _ h => h) (by decide) (by decide) (by decide) (by decide) (by decide) (by decide) (by decide) (by decide) (fun c => mna_I c 200) d_An_init_9 ?_
  refine c_putF C (k := 39) (fs := [.null, .null, .null, .null, .int 0, .int 0]) (fs' := [.null, .null, .ref (gA X 40), .null, .int 0, .int 0]) (ty := ty_An 2) ty_An ty_An_ok nm_An 2 (by decide) hcf rfl in_An (by decide) mc_61 rfl hin rfl (ty_An_ok 2 (by decide)) rfl rfl (Nat.le_of_ble_eq_true rfl) rfl d_An_init_13 ?_
  refine c_aload_n C 0 d_An_init_16 rfl rfl ?_
  refine c_iconst C (v := 2) d_An_init_17 (by decide) ?_
  refine c_bipush C (v := 64) d_An_init_18 (by decide) ?_
  refine c_mna C (t := 2) (u := 0) (K' := 64) (a0 := (64, .inl (fun _ => 0))) (ty := .int) C.2.2.2.2.2.2.2.2.1.1 mc_6 (by rw [show ("[" ++ (FieldType.array .int).toString) = "[[I" by decide]; exact mc_60) (fun _ => rfl) (fun _ => rfl) (fun _ _ h => h) (by decide) (by decide) (by decide) (by decide) (by decide) (by decide) (by decide) (by decide) (fun c => mna_I c 64) d_An_init_20 ?_
  refine c_putF C (k := 39) (fs := [.null, .null, .ref (gA X 40), .null, .int 0, .int 0]) (fs' := [.null, .null, .ref (gA X 40), .ref (gA X 43), .int 0, .int 0]) (ty := ty_An 3) ty_An ty_An_ok nm_An 3 (by decide) rfl rfl in_An (by decide) mc_62 rfl hin rfl (ty_An_ok 3 (by decide)) rfl rfl (Nat.le_of_ble_eq_true rfl) rfl d_An_init_24 ?_
  refine c_aload_n C 0 d_An_init_27 rfl rfl ?_
  refine c_iconst C (v := 0) d_An_init_28 (by decide) ?_
  refine c_put C (k := 39) (fs := [.null, .null, .ref (gA X 40), .ref (gA X 43), .int 0, .int 0]) (fs' := [.null, .null, .ref (gA X 40), .ref (gA X 43), .int 0, .int 0]) (ty := ty_An 4) ty_An ty_An_ok nm_An 4 (by decide) rfl rfl in_An (by decide) mc_63 rfl (ty_An_ok 4 (by decide)) rfl rfl (Nat.le_of_ble_eq_true rfl) rfl d_An_init_29 ?_
  refine c_aload_n C 0 d_An_init_32 rfl rfl ?_
  refine c_iconst C (v := (-1)) d_An_init_33 (by decide) ?_
  refine c_put C (k := 39) (fs := [.null, .null, .ref (gA X 40), .ref (gA X 43), .int 0, .int 0]) (fs' := [.null, .null, .ref (gA X 40), .ref (gA X 43), .int 0, .int (-1)]) (ty := ty_An 5) ty_An ty_An_ok nm_An 5 (by decide) rfl rfl in_An (by decide) mc_64 rfl (ty_An_ok 5 (by decide)) rfl rfl (Nat.le_of_ble_eq_true rfl) rfl d_An_init_34 ?_
  refine c_aload_n C 0 d_An_init_37 rfl rfl ?_
  refine c_aload_n C 1 d_An_init_38 rfl rfl ?_
  refine c_putF C (k := 39) (fs := [.null, .null, .ref (gA X 40), .ref (gA X 43), .int 0, .int (-1)]) (fs' := [.ref (gA X 1), .null, .ref (gA X 40), .ref (gA X 43), .int 0, .int (-1)]) (ty := ty_An 0) ty_An ty_An_ok nm_An 0 (by decide) rfl rfl in_An (by decide) mc_65 rfl hin rfl (ty_An_ok 0 (by decide)) rfl rfl (Nat.le_of_ble_eq_true rfl) rfl d_An_init_39 ?_
  refine c_aload_n C 0 d_An_init_42 rfl rfl ?_
  refine c_aload_n C 2 d_An_init_43 rfl rfl ?_
  refine c_putF C (k := 39) (fs := [.ref (gA X 1), .null, .ref (gA X 40), .ref (gA X 43), .int 0, .int (-1)]) (fs' := [.ref (gA X 1), .ref (gA X 16), .ref (gA X 40), .ref (gA X 43), .int 0, .int (-1)]) (ty := ty_An 1) ty_An ty_An_ok nm_An 1 (by decide) rfl rfl in_An (by decide) mc_66 rfl hin rfl (ty_An_ok 1 (by decide)) rfl rfl (Nat.le_of_ble_eq_true rfl) rfl d_An_init_44 ?_
  refine hR _ _ _ (fun k hk => ?_) d_An_init_47
  match k, hk with
  | 0, _ => rfl
  | 1, _ => rfl
  | 2, _ => rfl
  | 3, _ => rfl
  | 4, _ => rfl
  | 5, _ => rfl
  | 6, _ => rfl
  | 7, _ => rfl
  | 8, _ => rfl
  | 9, _ => rfl
  | 10, _ => rfl
  | 11, _ => rfl
  | 12, _ => rfl
  | 13, _ => rfl
  | 14, _ => rfl
  | 15, _ => rfl
  | 16, _ => rfl
  | 17, _ => rfl
  | 18, _ => rfl
  | 19, _ => rfl
  | 20, _ => rfl
  | 21, _ => rfl
  | 22, _ => rfl
  | 23, _ => rfl
  | 24, _ => rfl
  | 25, _ => rfl
  | 26, _ => rfl
  | 27, _ => rfl
  | 28, _ => rfl
  | 29, _ => rfl
  | 30, _ => rfl
  | 31, _ => rfl
  | 32, _ => rfl
  | 33, _ => rfl
  | 34, _ => rfl
  | 35, _ => rfl
  | 36, _ => rfl
  | 37, _ => rfl
  | 38, _ => rfl
  | 39, _ => rfl
  | 40, _ => rfl
  | 41, _ => rfl
  | 42, _ => rfl
  | 43, _ => rfl
  | 44, _ => rfl
  | 45, _ => rfl
  | k + 46, h => exact absurd h (by omega)
theorem d_Ga_init_0 : decode b_Ga_init_c 0 = .ok (.aload_n 0, 1) := by decide +kernel
theorem d_Ga_init_1 : decode b_Ga_init_c 1 = .ok (.invokespecial 1, 3) := by decide +kernel
theorem d_Ga_init_4 : decode b_Ga_init_c 4 = .ok (.aload_n 0, 1) := by decide +kernel
theorem d_Ga_init_5 : decode b_Ga_init_c 5 = .ok (.new 7, 3) := by decide +kernel
theorem d_Ga_init_8 : decode b_Ga_init_c 8 = .ok (.dup, 1) := by decide +kernel
theorem d_Ga_init_9 : decode b_Ga_init_c 9 = .ok (.invokespecial 9, 3) := by decide +kernel
theorem d_Ga_init_12 : decode b_Ga_init_c 12 = .ok (.putfield 10, 3) := by decide +kernel
theorem d_Ga_init_15 : decode b_Ga_init_c 15 = .ok (.aload_n 0, 1) := by decide +kernel
theorem d_Ga_init_16 : decode b_Ga_init_c 16 = .ok (.new 16, 3) := by decide +kernel
theorem d_Ga_init_19 : decode b_Ga_init_c 19 = .ok (.dup, 1) := by decide +kernel
theorem d_Ga_init_20 : decode b_Ga_init_c 20 = .ok (.aload_n 0, 1) := by decide +kernel
theorem d_Ga_init_21 : decode b_Ga_init_c 21 = .ok (.getfield 10, 3) := by decide +kernel
theorem d_Ga_init_24 : decode b_Ga_init_c 24 = .ok (.invokespecial 18, 3) := by decide +kernel
theorem d_Ga_init_27 : decode b_Ga_init_c 27 = .ok (.putfield 21, 3) := by decide +kernel
theorem d_Ga_init_30 : decode b_Ga_init_c 30 = .ok (.aload_n 0, 1) := by decide +kernel
theorem d_Ga_init_31 : decode b_Ga_init_c 31 = .ok (.new 25, 3) := by decide +kernel
theorem d_Ga_init_34 : decode b_Ga_init_c 34 = .ok (.dup, 1) := by decide +kernel
theorem d_Ga_init_35 : decode b_Ga_init_c 35 = .ok (.aload_n 0, 1) := by decide +kernel
theorem d_Ga_init_36 : decode b_Ga_init_c 36 = .ok (.getfield 10, 3) := by decide +kernel
theorem d_Ga_init_39 : decode b_Ga_init_c 39 = .ok (.aload_n 0, 1) := by decide +kernel
theorem d_Ga_init_40 : decode b_Ga_init_c 40 = .ok (.getfield 21, 3) := by decide +kernel
theorem d_Ga_init_43 : decode b_Ga_init_c 43 = .ok (.invokespecial 27, 3) := by decide +kernel
theorem d_Ga_init_46 : decode b_Ga_init_c 46 = .ok (.putfield 30, 3) := by decide +kernel
theorem d_Ga_init_49 : decode b_Ga_init_c 49 = .ok (.aload_n 0, 1) := by decide +kernel
theorem d_Ga_init_50 : decode b_Ga_init_c 50 = .ok (.new 34, 3) := by decide +kernel
theorem d_Ga_init_53 : decode b_Ga_init_c 53 = .ok (.dup, 1) := by decide +kernel
theorem d_Ga_init_54 : decode b_Ga_init_c 54 = .ok (.aload_n 0, 1) := by decide +kernel
theorem d_Ga_init_55 : decode b_Ga_init_c 55 = .ok (.getfield 10, 3) := by decide +kernel
theorem d_Ga_init_58 : decode b_Ga_init_c 58 = .ok (.aload_n 0, 1) := by decide +kernel
theorem d_Ga_init_59 : decode b_Ga_init_c 59 = .ok (.getfield 21, 3) := by decide +kernel
theorem d_Ga_init_62 : decode b_Ga_init_c 62 = .ok (.invokespecial 36, 3) := by decide +kernel
theorem d_Ga_init_65 : decode b_Ga_init_c 65 = .ok (.putfield 37, 3) := by decide +kernel
theorem d_Ga_init_68 : decode b_Ga_init_c 68 = .ok (.aload_n 0, 1) := by decide +kernel
theorem d_Ga_init_69 : decode b_Ga_init_c 69 = .ok (.new 41, 3) := by decide +kernel
theorem d_Ga_init_72 : decode b_Ga_init_c 72 = .ok (.dup, 1) := by decide +kernel
theorem d_Ga_init_73 : decode b_Ga_init_c 73 = .ok (.aload_n 0, 1) := by decide +kernel
theorem d_Ga_init_74 : decode b_Ga_init_c 74 = .ok (.getfield 10, 3) := by decide +kernel
theorem d_Ga_init_77 : decode b_Ga_init_c 77 = .ok (.aload_n 0, 1) := by decide +kernel
theorem d_Ga_init_78 : decode b_Ga_init_c 78 = .ok (.getfield 21, 3) := by decide +kernel
theorem d_Ga_init_81 : decode b_Ga_init_c 81 = .ok (.invokespecial 43, 3) := by decide +kernel
theorem d_Ga_init_84 : decode b_Ga_init_c 84 = .ok (.putfield 44, 3) := by decide +kernel
theorem d_Ga_init_87 : decode b_Ga_init_c 87 = .ok (.return_, 1) := by decide +kernel
theorem kI_Ga : gCalI y_Ga_init b_Ga_init_c 1 0 := ⟨mc_90, mc_91, mc_92, by decide +kernel, by decide +kernel, by decide +kernel, rfl⟩
set_option maxHeartbeats 8000000 in
set_option maxRecDepth 100000 in
theorem w_Ga (l : Launch) : gMetC l y_Ga_init b_Ga_init_c 1 2 42 45 9896 (fun a => [.ref (a 0)]) 1 (fun cf => cf 0 = .inr (0, [.null, .null, .null, .null, .null])) 46 (gOut 0) := by
  refine gMetC_of (by decide +kernel) rfl (fun a => Nat.le_of_ble_eq_true rfl) (fun X b0 cf hcf C hin hR => ?_)
  show GC X 0 0 0 [(0, .ref (gA X 0))] [] 1 cf
  refine c_aload_n C 0 d_Ga_init_0 rfl rfl ?_
  refine c_obj C mc_70 mc_0 mc_1 (by decide) (Nat.le_of_ble_eq_true rfl) d_Ga_init_1 ?_
  refine c_aload_n C 0 d_Ga_init_4 rfl rfl ?_
  refine c_new C (ci := 1) (fs := [.int 0, .int 0, .int 0, .null, .null, .null, .null, .null, .null, .null, .null, .null, .null, .null, .null, .null, .null]) ty_Fo ty_Fo_ok in_Fo mc_71 mc_72 mc_23 rfl bl_Fo (by decide) (by decide) d_Ga_init_5 ?_
  refine c_dup C d_Ga_init_8 rfl ?_
  refine c_callN C (host := "GameRows") (k := 1) (As := []) (rest := [.ref (gA X 1), .ref (gA X 0)]) (w_Fo X.1.2.1) kI_Fo (List.mem_of_getElem? (i := 0) rfl) rfl rfl rfl rfl (Nat.le_of_ble_eq_true rfl) ⟨Nat.le_of_ble_eq_true rfl, Nat.le_of_ble_eq_true rfl⟩ (by decide) (by decide) d_Ga_init_9 ?_
  refine c_putF C (k := 0) (fs := [.null, .null, .null, .null, .null]) (fs' := [.ref (gA X 1), .null, .null, .null, .null]) (ty := ty_Ga 0) ty_Ga ty_Ga_ok nm_Ga 0 (by decide) hcf rfl in_Ga (by decide) mc_73 rfl hin rfl (ty_Ga_ok 0 (by decide)) rfl rfl (Nat.le_of_ble_eq_true rfl) rfl d_Ga_init_12 ?_
  refine c_aload_n C 0 d_Ga_init_15 rfl rfl ?_
  refine c_new C (ci := 2) (fs := [.null, .null, .null, .null, .null, .int 0, .int 0]) ty_Ta ty_Ta_ok in_Ta mc_74 mc_75 mc_35 rfl bl_Ta (by decide) (by decide) d_Ga_init_16 ?_
  refine c_dup C d_Ga_init_19 rfl ?_
  refine c_aload_n C 0 d_Ga_init_20 rfl rfl ?_
  refine c_get C (k := 0) (fs := [.ref (gA X 1), .null, .null, .null, .null]) 0 (by decide) rfl rfl in_Ga (by decide) mc_73 rfl d_Ga_init_21 ?_
  refine c_callP C (k := 16) (As := [.ref (gA X 1)]) (rest := [.ref (gA X 16), .ref (gA X 0)]) (w_Ta X.1.2.1) kI_Ta mc_76 rfl rfl rfl rfl (Nat.le_of_ble_eq_true rfl) ⟨Nat.le_of_ble_eq_true rfl, Nat.le_of_ble_eq_true rfl⟩ (by decide) (by decide) d_Ga_init_24 ?_
  refine c_putF C (k := 0) (fs := [.ref (gA X 1), .null, .null, .null, .null]) (fs' := [.ref (gA X 1), .ref (gA X 16), .null, .null, .null]) (ty := ty_Ga 1) ty_Ga ty_Ga_ok nm_Ga 1 (by decide) rfl rfl in_Ga (by decide) mc_77 rfl hin rfl (ty_Ga_ok 1 (by decide)) rfl rfl (Nat.le_of_ble_eq_true rfl) rfl d_Ga_init_27 ?_
  refine c_aload_n C 0 d_Ga_init_30 rfl rfl ?_
  refine c_new C (ci := 3) (fs := [.null, .null, .null, .null, .null, .null]) ty_Po ty_Po_ok in_Po mc_78 mc_79 mc_47 rfl bl_Po (by decide) (by decide) d_Ga_init_31 ?_
  refine c_dup C d_Ga_init_34 rfl ?_
  refine c_aload_n C 0 d_Ga_init_35 rfl rfl ?_
  refine c_get C (k := 0) (fs := [.ref (gA X 1), .ref (gA X 16), .null, .null, .null]) 0 (by decide) rfl rfl in_Ga (by decide) mc_73 rfl d_Ga_init_36 ?_
  refine c_aload_n C 0 d_Ga_init_39 rfl rfl ?_
  refine c_get C (k := 0) (fs := [.ref (gA X 1), .ref (gA X 16), .null, .null, .null]) 1 (by decide) rfl rfl in_Ga (by decide) mc_77 rfl d_Ga_init_40 ?_
  refine c_callP C (k := 23) (As := [.ref (gA X 1), .ref (gA X 16)]) (rest := [.ref (gA X 23), .ref (gA X 0)]) (w_Po X.1.2.1) kI_Po mc_80 rfl rfl rfl rfl (Nat.le_of_ble_eq_true rfl) ⟨Nat.le_of_ble_eq_true rfl, Nat.le_of_ble_eq_true rfl⟩ (by decide) (by decide) d_Ga_init_43 ?_
  refine c_putF C (k := 0) (fs := [.ref (gA X 1), .ref (gA X 16), .null, .null, .null]) (fs' := [.ref (gA X 1), .ref (gA X 16), .ref (gA X 23), .null, .null]) (ty := ty_Ga 2) ty_Ga ty_Ga_ok nm_Ga 2 (by decide) rfl rfl in_Ga (by decide) mc_81 rfl hin rfl (ty_Ga_ok 2 (by decide)) rfl rfl (Nat.le_of_ble_eq_true rfl) rfl d_Ga_init_46 ?_
  refine c_aload_n C 0 d_Ga_init_49 rfl rfl ?_
  refine c_new C (ci := 4) (fs := [.null, .null, .null, .null, .int 0]) ty_Le ty_Le_ok in_Le mc_82 mc_83 mc_57 rfl bl_Le (by decide) (by decide) d_Ga_init_50 ?_
  refine c_dup C d_Ga_init_53 rfl ?_
  refine c_aload_n C 0 d_Ga_init_54 rfl rfl ?_
  refine c_get C (k := 0) (fs := [.ref (gA X 1), .ref (gA X 16), .ref (gA X 23), .null, .null]) 0 (by decide) rfl rfl in_Ga (by decide) mc_73 rfl d_Ga_init_55 ?_
  refine c_aload_n C 0 d_Ga_init_58 rfl rfl ?_
  refine c_get C (k := 0) (fs := [.ref (gA X 1), .ref (gA X 16), .ref (gA X 23), .null, .null]) 1 (by decide) rfl rfl in_Ga (by decide) mc_77 rfl d_Ga_init_59 ?_
  refine c_callP C (k := 34) (As := [.ref (gA X 1), .ref (gA X 16)]) (rest := [.ref (gA X 34), .ref (gA X 0)]) (w_Le X.1.2.1) kI_Le mc_84 rfl rfl rfl rfl (Nat.le_of_ble_eq_true rfl) ⟨Nat.le_of_ble_eq_true rfl, Nat.le_of_ble_eq_true rfl⟩ (by decide) (by decide) d_Ga_init_62 ?_
  refine c_putF C (k := 0) (fs := [.ref (gA X 1), .ref (gA X 16), .ref (gA X 23), .null, .null]) (fs' := [.ref (gA X 1), .ref (gA X 16), .ref (gA X 23), .ref (gA X 34), .null]) (ty := ty_Ga 3) ty_Ga ty_Ga_ok nm_Ga 3 (by decide) rfl rfl in_Ga (by decide) mc_85 rfl hin rfl (ty_Ga_ok 3 (by decide)) rfl rfl (Nat.le_of_ble_eq_true rfl) rfl d_Ga_init_65 ?_
  refine c_aload_n C 0 d_Ga_init_68 rfl rfl ?_
  refine c_new C (ci := 5) (fs := [.null, .null, .null, .null, .int 0, .int 0]) ty_An ty_An_ok in_An mc_86 mc_87 mc_68 rfl bl_An (by decide) (by decide) d_Ga_init_69 ?_
  refine c_dup C d_Ga_init_72 rfl ?_
  refine c_aload_n C 0 d_Ga_init_73 rfl rfl ?_
  refine c_get C (k := 0) (fs := [.ref (gA X 1), .ref (gA X 16), .ref (gA X 23), .ref (gA X 34), .null]) 0 (by decide) rfl rfl in_Ga (by decide) mc_73 rfl d_Ga_init_74 ?_
  refine c_aload_n C 0 d_Ga_init_77 rfl rfl ?_
  refine c_get C (k := 0) (fs := [.ref (gA X 1), .ref (gA X 16), .ref (gA X 23), .ref (gA X 34), .null]) 1 (by decide) rfl rfl in_Ga (by decide) mc_77 rfl d_Ga_init_78 ?_
  refine c_callP C (k := 39) (As := [.ref (gA X 1), .ref (gA X 16)]) (rest := [.ref (gA X 39), .ref (gA X 0)]) (w_An X.1.2.1) kI_An mc_88 rfl rfl rfl rfl (Nat.le_of_ble_eq_true rfl) ⟨Nat.le_of_ble_eq_true rfl, Nat.le_of_ble_eq_true rfl⟩ (by decide) (by decide) d_Ga_init_81 ?_
  refine c_putF C (k := 0) (fs := [.ref (gA X 1), .ref (gA X 16), .ref (gA X 23), .ref (gA X 34), .null]) (fs' := [.ref (gA X 1), .ref (gA X 16), .ref (gA X 23), .ref (gA X 34), .ref (gA X 39)]) (ty := ty_Ga 4) ty_Ga ty_Ga_ok nm_Ga 4 (by decide) rfl rfl in_Ga (by decide) mc_89 rfl hin rfl (ty_Ga_ok 4 (by decide)) rfl rfl (Nat.le_of_ble_eq_true rfl) rfl d_Ga_init_84 ?_
  refine hR _ _ _ (fun k hk => ?_) d_Ga_init_87
  match k, hk with
  | 0, _ => rfl
  | 1, _ => rfl
  | 2, _ => rfl
  | 3, _ => rfl
  | 4, _ => rfl
  | 5, _ => rfl
  | 6, _ => rfl
  | 7, _ => rfl
  | 8, _ => rfl
  | 9, _ => rfl
  | 10, _ => rfl
  | 11, _ => rfl
  | 12, _ => rfl
  | 13, _ => rfl
  | 14, _ => rfl
  | 15, _ => rfl
  | 16, _ => rfl
  | 17, _ => rfl
  | 18, _ => rfl
  | 19, _ => rfl
  | 20, _ => rfl
  | 21, _ => rfl
  | 22, _ => rfl
  | 23, _ => rfl
  | 24, _ => rfl
  | 25, _ => rfl
  | 26, _ => rfl
  | 27, _ => rfl
  | 28, _ => rfl
  | 29, _ => rfl
  | 30, _ => rfl
  | 31, _ => rfl
  | 32, _ => rfl
  | 33, _ => rfl
  | 34, _ => rfl
  | 35, _ => rfl
  | 36, _ => rfl
  | 37, _ => rfl
  | 38, _ => rfl
  | 39, _ => rfl
  | 40, _ => rfl
  | 41, _ => rfl
  | 42, _ => rfl
  | 43, _ => rfl
  | 44, _ => rfl
  | 45, _ => rfl
  | k + 46, h => exact absurd h (by omega)
theorem d_Mo_init_0 : decode b_Mo_init_c 0 = .ok (.aload_n 0, 1) := by decide +kernel
theorem d_Mo_init_1 : decode b_Mo_init_c 1 = .ok (.invokespecial 1, 3) := by decide +kernel
theorem d_Mo_init_4 : decode b_Mo_init_c 4 = .ok (.aload_n 0, 1) := by decide +kernel
theorem d_Mo_init_5 : decode b_Mo_init_c 5 = .ok (.bipush 40, 2) := by decide +kernel
theorem d_Mo_init_7 : decode b_Mo_init_c 7 = .ok (.newarray .int, 2) := by decide +kernel
theorem d_Mo_init_9 : decode b_Mo_init_c 9 = .ok (.putfield 7, 3) := by decide +kernel
theorem d_Mo_init_12 : decode b_Mo_init_c 12 = .ok (.aload_n 0, 1) := by decide +kernel
theorem d_Mo_init_13 : decode b_Mo_init_c 13 = .ok (.bipush 40, 2) := by decide +kernel
theorem d_Mo_init_15 : decode b_Mo_init_c 15 = .ok (.newarray .int, 2) := by decide +kernel
theorem d_Mo_init_17 : decode b_Mo_init_c 17 = .ok (.putfield 13, 3) := by decide +kernel
theorem d_Mo_init_20 : decode b_Mo_init_c 20 = .ok (.aload_n 0, 1) := by decide +kernel
theorem d_Mo_init_21 : decode b_Mo_init_c 21 = .ok (.bipush 80, 2) := by decide +kernel
theorem d_Mo_init_23 : decode b_Mo_init_c 23 = .ok (.newarray .int, 2) := by decide +kernel
theorem d_Mo_init_25 : decode b_Mo_init_c 25 = .ok (.putfield 16, 3) := by decide +kernel
theorem d_Mo_init_28 : decode b_Mo_init_c 28 = .ok (.aload_n 0, 1) := by decide +kernel
theorem d_Mo_init_29 : decode b_Mo_init_c 29 = .ok (.bipush 120, 2) := by decide +kernel
theorem d_Mo_init_31 : decode b_Mo_init_c 31 = .ok (.newarray .int, 2) := by decide +kernel
theorem d_Mo_init_33 : decode b_Mo_init_c 33 = .ok (.putfield 19, 3) := by decide +kernel
theorem d_Mo_init_36 : decode b_Mo_init_c 36 = .ok (.aload_n 0, 1) := by decide +kernel
theorem d_Mo_init_37 : decode b_Mo_init_c 37 = .ok (.bipush 40, 2) := by decide +kernel
theorem d_Mo_init_39 : decode b_Mo_init_c 39 = .ok (.newarray .int, 2) := by decide +kernel
theorem d_Mo_init_41 : decode b_Mo_init_c 41 = .ok (.putfield 22, 3) := by decide +kernel
theorem d_Mo_init_44 : decode b_Mo_init_c 44 = .ok (.aload_n 0, 1) := by decide +kernel
theorem d_Mo_init_45 : decode b_Mo_init_c 45 = .ok (.bipush 40, 2) := by decide +kernel
theorem d_Mo_init_47 : decode b_Mo_init_c 47 = .ok (.newarray .int, 2) := by decide +kernel
theorem d_Mo_init_49 : decode b_Mo_init_c 49 = .ok (.putfield 25, 3) := by decide +kernel
theorem d_Mo_init_52 : decode b_Mo_init_c 52 = .ok (.aload_n 0, 1) := by decide +kernel
theorem d_Mo_init_53 : decode b_Mo_init_c 53 = .ok (.bipush 40, 2) := by decide +kernel
theorem d_Mo_init_55 : decode b_Mo_init_c 55 = .ok (.newarray .int, 2) := by decide +kernel
theorem d_Mo_init_57 : decode b_Mo_init_c 57 = .ok (.putfield 28, 3) := by decide +kernel
theorem d_Mo_init_60 : decode b_Mo_init_c 60 = .ok (.aload_n 0, 1) := by decide +kernel
theorem d_Mo_init_61 : decode b_Mo_init_c 61 = .ok (.bipush 10, 2) := by decide +kernel
theorem d_Mo_init_63 : decode b_Mo_init_c 63 = .ok (.newarray .int, 2) := by decide +kernel
theorem d_Mo_init_65 : decode b_Mo_init_c 65 = .ok (.putfield 31, 3) := by decide +kernel
theorem d_Mo_init_68 : decode b_Mo_init_c 68 = .ok (.aload_n 0, 1) := by decide +kernel
theorem d_Mo_init_69 : decode b_Mo_init_c 69 = .ok (.bipush 10, 2) := by decide +kernel
theorem d_Mo_init_71 : decode b_Mo_init_c 71 = .ok (.newarray .int, 2) := by decide +kernel
theorem d_Mo_init_73 : decode b_Mo_init_c 73 = .ok (.putfield 34, 3) := by decide +kernel
theorem d_Mo_init_76 : decode b_Mo_init_c 76 = .ok (.aload_n 0, 1) := by decide +kernel
theorem d_Mo_init_77 : decode b_Mo_init_c 77 = .ok (.bipush 40, 2) := by decide +kernel
theorem d_Mo_init_79 : decode b_Mo_init_c 79 = .ok (.newarray .boolean, 2) := by decide +kernel
theorem d_Mo_init_81 : decode b_Mo_init_c 81 = .ok (.putfield 37, 3) := by decide +kernel
theorem d_Mo_init_84 : decode b_Mo_init_c 84 = .ok (.aload_n 0, 1) := by decide +kernel
theorem d_Mo_init_85 : decode b_Mo_init_c 85 = .ok (.bipush 10, 2) := by decide +kernel
theorem d_Mo_init_87 : decode b_Mo_init_c 87 = .ok (.newarray .boolean, 2) := by decide +kernel
theorem d_Mo_init_89 : decode b_Mo_init_c 89 = .ok (.putfield 41, 3) := by decide +kernel
theorem d_Mo_init_92 : decode b_Mo_init_c 92 = .ok (.aload_n 0, 1) := by decide +kernel
theorem d_Mo_init_93 : decode b_Mo_init_c 93 = .ok (.bipush 80, 2) := by decide +kernel
theorem d_Mo_init_95 : decode b_Mo_init_c 95 = .ok (.newarray .int, 2) := by decide +kernel
theorem d_Mo_init_97 : decode b_Mo_init_c 97 = .ok (.putfield 44, 3) := by decide +kernel
theorem d_Mo_init_100 : decode b_Mo_init_c 100 = .ok (.aload_n 0, 1) := by decide +kernel
theorem d_Mo_init_101 : decode b_Mo_init_c 101 = .ok (.sipush 8192, 3) := by decide +kernel
theorem d_Mo_init_104 : decode b_Mo_init_c 104 = .ok (.newarray .int, 2) := by decide +kernel
theorem d_Mo_init_106 : decode b_Mo_init_c 106 = .ok (.putfield 47, 3) := by decide +kernel
theorem d_Mo_init_109 : decode b_Mo_init_c 109 = .ok (.aload_n 0, 1) := by decide +kernel
theorem d_Mo_init_110 : decode b_Mo_init_c 110 = .ok (.bipush 10, 2) := by decide +kernel
theorem d_Mo_init_112 : decode b_Mo_init_c 112 = .ok (.newarray .int, 2) := by decide +kernel
theorem d_Mo_init_114 : decode b_Mo_init_c 114 = .ok (.putfield 50, 3) := by decide +kernel
theorem d_Mo_init_117 : decode b_Mo_init_c 117 = .ok (.aload_n 0, 1) := by decide +kernel
theorem d_Mo_init_118 : decode b_Mo_init_c 118 = .ok (.sipush 4096, 3) := by decide +kernel
theorem d_Mo_init_121 : decode b_Mo_init_c 121 = .ok (.newarray .boolean, 2) := by decide +kernel
theorem d_Mo_init_123 : decode b_Mo_init_c 123 = .ok (.putfield 53, 3) := by decide +kernel
theorem d_Mo_init_126 : decode b_Mo_init_c 126 = .ok (.aload_n 0, 1) := by decide +kernel
theorem d_Mo_init_127 : decode b_Mo_init_c 127 = .ok (.sipush 128, 3) := by decide +kernel
theorem d_Mo_init_130 : decode b_Mo_init_c 130 = .ok (.newarray .boolean, 2) := by decide +kernel
theorem d_Mo_init_132 : decode b_Mo_init_c 132 = .ok (.putfield 56, 3) := by decide +kernel
theorem d_Mo_init_135 : decode b_Mo_init_c 135 = .ok (.aload_n 0, 1) := by decide +kernel
theorem d_Mo_init_136 : decode b_Mo_init_c 136 = .ok (.sipush 128, 3) := by decide +kernel
theorem d_Mo_init_139 : decode b_Mo_init_c 139 = .ok (.newarray .int, 2) := by decide +kernel
theorem d_Mo_init_141 : decode b_Mo_init_c 141 = .ok (.putfield 59, 3) := by decide +kernel
theorem d_Mo_init_144 : decode b_Mo_init_c 144 = .ok (.aload_n 0, 1) := by decide +kernel
theorem d_Mo_init_145 : decode b_Mo_init_c 145 = .ok (.sipush 128, 3) := by decide +kernel
theorem d_Mo_init_148 : decode b_Mo_init_c 148 = .ok (.newarray .boolean, 2) := by decide +kernel
theorem d_Mo_init_150 : decode b_Mo_init_c 150 = .ok (.putfield 62, 3) := by decide +kernel
theorem d_Mo_init_153 : decode b_Mo_init_c 153 = .ok (.aload_n 0, 1) := by decide +kernel
theorem d_Mo_init_154 : decode b_Mo_init_c 154 = .ok (.sipush 128, 3) := by decide +kernel
theorem d_Mo_init_157 : decode b_Mo_init_c 157 = .ok (.newarray .int, 2) := by decide +kernel
theorem d_Mo_init_159 : decode b_Mo_init_c 159 = .ok (.putfield 65, 3) := by decide +kernel
theorem d_Mo_init_162 : decode b_Mo_init_c 162 = .ok (.aload_n 0, 1) := by decide +kernel
theorem d_Mo_init_163 : decode b_Mo_init_c 163 = .ok (.sipush 128, 3) := by decide +kernel
theorem d_Mo_init_166 : decode b_Mo_init_c 166 = .ok (.newarray .int, 2) := by decide +kernel
theorem d_Mo_init_168 : decode b_Mo_init_c 168 = .ok (.putfield 68, 3) := by decide +kernel
theorem d_Mo_init_171 : decode b_Mo_init_c 171 = .ok (.aload_n 0, 1) := by decide +kernel
theorem d_Mo_init_172 : decode b_Mo_init_c 172 = .ok (.iconst 0, 1) := by decide +kernel
theorem d_Mo_init_173 : decode b_Mo_init_c 173 = .ok (.putfield 71, 3) := by decide +kernel
theorem d_Mo_init_176 : decode b_Mo_init_c 176 = .ok (.return_, 1) := by decide +kernel
theorem kI_Mo : gCalI y_Mo_init b_Mo_init_c 1 0 := ⟨mc_116, mc_117, mc_118, by decide +kernel, by decide +kernel, by decide +kernel, rfl⟩
set_option maxHeartbeats 8000000 in
set_option maxRecDepth 100000 in
theorem w_Mo (l : Launch) : gMetC l y_Mo_init b_Mo_init_c 1 1 20 20 13488 (fun a => [.ref (a 46)]) 47 (fun cf => cf 46 = .inr (6, [.int 0, .int 0, .null, .null, .null, .null, .null, .null, .null, .null, .null, .null, .null, .null, .null, .null, .int 0, .int 0, .null, .int 0, .int 0, .null, .null, .null, .null, .null])) 67 (gOut 46) := by
  refine gMetC_of (by decide +kernel) rfl (fun a => Nat.le_of_ble_eq_true rfl) (fun X b0 cf hcf C hin hR => ?_)
  show GC X 0 0 0 [(0, .ref (gA X 46))] [] 47 cf
  refine c_aload_n C 0 d_Mo_init_0 rfl rfl ?_
  refine c_obj C mc_93 mc_0 mc_1 (by decide) (Nat.le_of_ble_eq_true rfl) d_Mo_init_1 ?_
  refine c_aload_n C 0 d_Mo_init_4 rfl rfl ?_
  refine c_bipush C (v := 40) d_Mo_init_5 (by decide) ?_
  refine c_newa C (t := 0) (N' := 40) (a0 := (40, .inl (fun _ => 0))) (ty := .int) mc_6 rfl (fun _ => rfl) (fun _ h => by cases h) (fun _ => rfl) (by decide) (by decide) (by decide) (by decide) (by decide) d_Mo_init_7 ?_
  refine c_putF C (k := 46) (fs := [.int 0, .int 0, .null, .null, .null, .null, .null, .null, .null, .null, .null, .null, .null, .null, .null, .null, .int 0, .int 0, .null, .int 0, .int 0, .null, .null, .null, .null, .null]) (fs' := [.int 0, .int 0, .ref (gA X 47), .null, .null, .null, .null, .null, .null, .null, .null, .null, .null, .null, .null, .null, .int 0, .int 0, .null, .int 0, .int 0, .null, .null, .null, .null, .null]) (ty := ty_Mo 2) ty_Mo ty_Mo_ok nm_Mo 2 (by decide) hcf rfl in_Mo (by decide) mc_94 rfl hin rfl (ty_Mo_ok 2 (by decide)) rfl rfl (Nat.le_of_ble_eq_true rfl) rfl d_Mo_init_9 ?_
  refine c_aload_n C 0 d_Mo_init_12 rfl rfl ?_
  refine c_bipush C (v := 40) d_Mo_init_13 (by decide) ?_
  refine c_newa C (t := 0) (N' := 40) (a0 := (40, .inl (fun _ => 0))) (ty := .int) mc_6 rfl (fun _ => rfl) (fun _ h => by cases h) (fun _ => rfl) (by decide) (by decide) (by decide) (by decide) (by decide) d_Mo_init_15 ?_
  refine c_putF C (k := 46) (fs := [.int 0, .int 0, .ref (gA X 47), .null, .null, .null, .null, .null, .null, .null, .null, .null, .null, .null, .null, .null, .int 0, .int 0, .null, .int 0, .int 0, .null, .null, .null, .null, .null]) (fs' := [.int 0, .int 0, .ref (gA X 47), .ref (gA X 48), .null, .null, .null, .null, .null, .null, .null, .null, .null, .null, .null, .null, .int 0, .int 0, .null, .int 0, .int 0, .null, .null, .null, .null, .null]) (ty := ty_Mo 3) ty_Mo ty_Mo_ok nm_Mo 3 (by decide) rfl rfl in_Mo (by decide) mc_95 rfl hin rfl (ty_Mo_ok 3 (by decide)) rfl rfl (Nat.le_of_ble_eq_true rfl) rfl d_Mo_init_17 ?_
  refine c_aload_n C 0 d_Mo_init_20 rfl rfl ?_
  refine c_bipush C (v := 80) d_Mo_init_21 (by decide) ?_
  refine c_newa C (t := 0) (N' := 80) (a0 := (80, .inl (fun _ => 0))) (ty := .int) mc_6 rfl (fun _ => rfl) (fun _ h => by cases h) (fun _ => rfl) (by decide) (by decide) (by decide) (by decide) (by decide) d_Mo_init_23 ?_
  refine c_putF C (k := 46) (fs := [.int 0, .int 0, .ref (gA X 47), .ref (gA X 48), .null, .null, .null, .null, .null, .null, .null, .null, .null, .null, .null, .null, .int 0, .int 0, .null, .int 0, .int 0, .null, .null, .null, .null, .null]) (fs' := [.int 0, .int 0, .ref (gA X 47), .ref (gA X 48), .ref (gA X 49), .null, .null, .null, .null, .null, .null, .null, .null, .null, .null, .null, .int 0, .int 0, .null, .int 0, .int 0, .null, .null, .null, .null, .null]) (ty := ty_Mo 4) ty_Mo ty_Mo_ok nm_Mo 4 (by decide) rfl rfl in_Mo (by decide) mc_96 rfl hin rfl (ty_Mo_ok 4 (by decide)) rfl rfl (Nat.le_of_ble_eq_true rfl) rfl d_Mo_init_25 ?_
  refine c_aload_n C 0 d_Mo_init_28 rfl rfl ?_
  refine c_bipush C (v := 120) d_Mo_init_29 (by decide) ?_
  refine c_newa C (t := 0) (N' := 120) (a0 := (120, .inl (fun _ => 0))) (ty := .int) mc_6 rfl (fun _ => rfl) (fun _ h => by cases h) (fun _ => rfl) (by decide) (by decide) (by decide) (by decide) (by decide) d_Mo_init_31 ?_
  refine c_putF C (k := 46) (fs := [.int 0, .int 0, .ref (gA X 47), .ref (gA X 48), .ref (gA X 49), .null, .null, .null, .null, .null, .null, .null, .null, .null, .null, .null, .int 0, .int 0, .null, .int 0, .int 0, .null, .null, .null, .null, .null]) (fs' := [.int 0, .int 0, .ref (gA X 47), .ref (gA X 48), .ref (gA X 49), .ref (gA X 50), .null, .null, .null, .null, .null, .null, .null, .null, .null, .null, .int 0, .int 0, .null, .int 0, .int 0, .null, .null, .null, .null, .null]) (ty := ty_Mo 5) ty_Mo ty_Mo_ok nm_Mo 5 (by decide) rfl rfl in_Mo (by decide) mc_97 rfl hin rfl (ty_Mo_ok 5 (by decide)) rfl rfl (Nat.le_of_ble_eq_true rfl) rfl d_Mo_init_33 ?_
  refine c_aload_n C 0 d_Mo_init_36 rfl rfl ?_
  refine c_bipush C (v := 40) d_Mo_init_37 (by decide) ?_
  refine c_newa C (t := 0) (N' := 40) (a0 := (40, .inl (fun _ => 0))) (ty := .int) mc_6 rfl (fun _ => rfl) (fun _ h => by cases h) (fun _ => rfl) (by decide) (by decide) (by decide) (by decide) (by decide) d_Mo_init_39 ?_
  refine c_putF C (k := 46) (fs := [.int 0, .int 0, .ref (gA X 47), .ref (gA X 48), .ref (gA X 49), .ref (gA X 50), .null, .null, .null, .null, .null, .null, .null, .null, .null, .null, .int 0, .int 0, .null, .int 0, .int 0, .null, .null, .null, .null, .null]) (fs' := [.int 0, .int 0, .ref (gA X 47), .ref (gA X 48), .ref (gA X 49), .ref (gA X 50), .ref (gA X 51), .null, .null, .null, .null, .null, .null, .null, .null, .null, .int 0, .int 0, .null, .int 0, .int 0, .null, .null, .null, .null, .null]) (ty := ty_Mo 6) ty_Mo ty_Mo_ok nm_Mo 6 (by decide) rfl rfl in_Mo (by decide) mc_98 rfl hin rfl (ty_Mo_ok 6 (by decide)) rfl rfl (Nat.le_of_ble_eq_true rfl) rfl d_Mo_init_41 ?_
  refine c_aload_n C 0 d_Mo_init_44 rfl rfl ?_
  refine c_bipush C (v := 40) d_Mo_init_45 (by decide) ?_
  refine c_newa C (t := 0) (N' := 40) (a0 := (40, .inl (fun _ => 0))) (ty := .int) mc_6 rfl (fun _ => rfl) (fun _ h => by cases h) (fun _ => rfl) (by decide) (by decide) (by decide) (by decide) (by decide) d_Mo_init_47 ?_
  refine c_putF C (k := 46) (fs := [.int 0, .int 0, .ref (gA X 47), .ref (gA X 48), .ref (gA X 49), .ref (gA X 50), .ref (gA X 51), .null, .null, .null, .null, .null, .null, .null, .null, .null, .int 0, .int 0, .null, .int 0, .int 0, .null, .null, .null, .null, .null]) (fs' := [.int 0, .int 0, .ref (gA X 47), .ref (gA X 48), .ref (gA X 49), .ref (gA X 50), .ref (gA X 51), .ref (gA X 52), .null, .null, .null, .null, .null, .null, .null, .null, .int 0, .int 0, .null, .int 0, .int 0, .null, .null, .null, .null, .null]) (ty := ty_Mo 7) ty_Mo ty_Mo_ok nm_Mo 7 (by decide) rfl rfl in_Mo (by decide) mc_99 rfl hin rfl (ty_Mo_ok 7 (by decide)) rfl rfl (Nat.le_of_ble_eq_true rfl) rfl d_Mo_init_49 ?_
  refine c_aload_n C 0 d_Mo_init_52 rfl rfl ?_
  refine c_bipush C (v := 40) d_Mo_init_53 (by decide) ?_
  refine c_newa C (t := 0) (N' := 40) (a0 := (40, .inl (fun _ => 0))) (ty := .int) mc_6 rfl (fun _ => rfl) (fun _ h => by cases h) (fun _ => rfl) (by decide) (by decide) (by decide) (by decide) (by decide) d_Mo_init_55 ?_
  refine c_putF C (k := 46) (fs := [.int 0, .int 0, .ref (gA X 47), .ref (gA X 48), .ref (gA X 49), .ref (gA X 50), .ref (gA X 51), .ref (gA X 52), .null, .null, .null, .null, .null, .null, .null, .null, .int 0, .int 0, .null, .int 0, .int 0, .null, .null, .null, .null, .null]) (fs' := [.int 0, .int 0, .ref (gA X 47), .ref (gA X 48), .ref (gA X 49), .ref (gA X 50), .ref (gA X 51), .ref (gA X 52), .ref (gA X 53), .null, .null, .null, .null, .null, .null, .null, .int 0, .int 0, .null, .int 0, .int 0, .null, .null, .null, .null, .null]) (ty := ty_Mo 8) ty_Mo ty_Mo_ok nm_Mo 8 (by decide) rfl rfl in_Mo (by decide) mc_100 rfl hin rfl (ty_Mo_ok 8 (by decide)) rfl rfl (Nat.le_of_ble_eq_true rfl) rfl d_Mo_init_57 ?_
  refine c_aload_n C 0 d_Mo_init_60 rfl rfl ?_
  refine c_bipush C (v := 10) d_Mo_init_61 (by decide) ?_
  refine c_newa C (t := 0) (N' := 10) (a0 := (10, .inl (fun _ => 0))) (ty := .int) mc_6 rfl (fun _ => rfl) (fun _ h => by cases h) (fun _ => rfl) (by decide) (by decide) (by decide) (by decide) (by decide) d_Mo_init_63 ?_
  refine c_putF C (k := 46) (fs := [.int 0, .int 0, .ref (gA X 47), .ref (gA X 48), .ref (gA X 49), .ref (gA X 50), .ref (gA X 51), .ref (gA X 52), .ref (gA X 53), .null, .null, .null, .null, .null, .null, .null, .int 0, .int 0, .null, .int 0, .int 0, .null, .null, .null, .null, .null]) (fs' := [.int 0, .int 0, .ref (gA X 47), .ref (gA X 48), .ref (gA X 49), .ref (gA X 50), .ref (gA X 51), .ref (gA X 52), .ref (gA X 53), .ref (gA X 54), .null, .null, .null, .null, .null, .null, .int 0, .int 0, .null, .int 0, .int 0, .null, .null, .null, .null, .null]) (ty := ty_Mo 9) ty_Mo ty_Mo_ok nm_Mo 9 (by decide) rfl rfl in_Mo (by decide) mc_101 rfl hin rfl (ty_Mo_ok 9 (by decide)) rfl rfl (Nat.le_of_ble_eq_true rfl) rfl d_Mo_init_65 ?_
  refine c_aload_n C 0 d_Mo_init_68 rfl rfl ?_
  refine c_bipush C (v := 10) d_Mo_init_69 (by decide) ?_
  refine c_newa C (t := 0) (N' := 10) (a0 := (10, .inl (fun _ => 0))) (ty := .int) mc_6 rfl (fun _ => rfl) (fun _ h => by cases h) (fun _ => rfl) (by decide) (by decide) (by decide) (by decide) (by decide) d_Mo_init_71 ?_
  refine c_putF C (k := 46) (fs := [.int 0, .int 0, .ref (gA X 47), .ref (gA X 48), .ref (gA X 49), .ref (gA X 50), .ref (gA X 51), .ref (gA X 52), .ref (gA X 53), .ref (gA X 54), .null, .null, .null, .null, .null, .null, .int 0, .int 0, .null, .int 0, .int 0, .null, .null, .null, .null, .null]) (fs' := [.int 0, .int 0, .ref (gA X 47), .ref (gA X 48), .ref (gA X 49), .ref (gA X 50), .ref (gA X 51), .ref (gA X 52), .ref (gA X 53), .ref (gA X 54), .ref (gA X 55), .null, .null, .null, .null, .null, .int 0, .int 0, .null, .int 0, .int 0, .null, .null, .null, .null, .null]) (ty := ty_Mo 10) ty_Mo ty_Mo_ok nm_Mo 10 (by decide) rfl rfl in_Mo (by decide) mc_102 rfl hin rfl (ty_Mo_ok 10 (by decide)) rfl rfl (Nat.le_of_ble_eq_true rfl) rfl d_Mo_init_73 ?_
  refine c_aload_n C 0 d_Mo_init_76 rfl rfl ?_
  refine c_bipush C (v := 40) d_Mo_init_77 (by decide) ?_
  refine c_newa C (t := 4) (N' := 40) (a0 := (40, .inl (fun _ => 0))) (ty := .boolean) mc_103 rfl (fun _ => rfl) (fun _ h => by cases h) (fun _ => rfl) (by decide) (by decide) (by decide) (by decide) (by decide) d_Mo_init_79 ?_
  refine c_putF C (k := 46) (fs := [.int 0, .int 0, .ref (gA X 47), .ref (gA X 48), .ref (gA X 49), .ref (gA X 50), .ref (gA X 51), .ref (gA X 52), .ref (gA X 53), .ref (gA X 54), .ref (gA X 55), .null, .null, .null, .null, .null, .int 0, .int 0, .null, .int 0, .int 0, .null, .null, .null, .null, .null]) (fs' := [.int 0, .int 0, .ref (gA X 47), .ref (gA X 48), .ref (gA X 49), .ref (gA X 50), .ref (gA X 51), .ref (gA X 52), .ref (gA X 53), .ref (gA X 54), .ref (gA X 55), .ref (gA X 56), .null, .null, .null, .null, .int 0, .int 0, .null, .int 0, .int 0, .null, .null, .null, .null, .null]) (ty := ty_Mo 11) ty_Mo ty_Mo_ok nm_Mo 11 (by decide) rfl rfl in_Mo (by decide) mc_104 rfl hin rfl (ty_Mo_ok 11 (by decide)) rfl rfl (Nat.le_of_ble_eq_true rfl) rfl d_Mo_init_81 ?_
  refine c_aload_n C 0 d_Mo_init_84 rfl rfl ?_
  refine c_bipush C (v := 10) d_Mo_init_85 (by decide) ?_
  refine c_newa C (t := 4) (N' := 10) (a0 := (10, .inl (fun _ => 0))) (ty := .boolean) mc_103 rfl (fun _ => rfl) (fun _ h => by cases h) (fun _ => rfl) (by decide) (by decide) (by decide) (by decide) (by decide) d_Mo_init_87 ?_
  refine c_putF C (k := 46) (fs := [.int 0, .int 0, .ref (gA X 47), .ref (gA X 48), .ref (gA X 49), .ref (gA X 50), .ref (gA X 51), .ref (gA X 52), .ref (gA X 53), .ref (gA X 54), .ref (gA X 55), .ref (gA X 56), .null, .null, .null, .null, .int 0, .int 0, .null, .int 0, .int 0, .null, .null, .null, .null, .null]) (fs' := [.int 0, .int 0, .ref (gA X 47), .ref (gA X 48), .ref (gA X 49), .ref (gA X 50), .ref (gA X 51), .ref (gA X 52), .ref (gA X 53), .ref (gA X 54), .ref (gA X 55), .ref (gA X 56), .ref (gA X 57), .null, .null, .null, .int 0, .int 0, .null, .int 0, .int 0, .null, .null, .null, .null, .null]) (ty := ty_Mo 12) ty_Mo ty_Mo_ok nm_Mo 12 (by decide) rfl rfl in_Mo (by decide) mc_105 rfl hin rfl (ty_Mo_ok 12 (by decide)) rfl rfl (Nat.le_of_ble_eq_true rfl) rfl d_Mo_init_89 ?_
  refine c_aload_n C 0 d_Mo_init_92 rfl rfl ?_
  refine c_bipush C (v := 80) d_Mo_init_93 (by decide) ?_
  refine c_newa C (t := 0) (N' := 80) (a0 := (80, .inl (fun _ => 0))) (ty := .int) mc_6 rfl (fun _ => rfl) (fun _ h => by cases h) (fun _ => rfl) (by decide) (by decide) (by decide) (by decide) (by decide) d_Mo_init_95 ?_
  refine c_putF C (k := 46) (fs := [.int 0, .int 0, .ref (gA X 47), .ref (gA X 48), .ref (gA X 49), .ref (gA X 50), .ref (gA X 51), .ref (gA X 52), .ref (gA X 53), .ref (gA X 54), .ref (gA X 55), .ref (gA X 56), .ref (gA X 57), .null, .null, .null, .int 0, .int 0, .null, .int 0, .int 0, .null, .null, .null, .null, .null]) (fs' := [.int 0, .int 0, .ref (gA X 47), .ref (gA X 48), .ref (gA X 49), .ref (gA X 50), .ref (gA X 51), .ref (gA X 52), .ref (gA X 53), .ref (gA X 54), .ref (gA X 55), .ref (gA X 56), .ref (gA X 57), .ref (gA X 58), .null, .null, .int 0, .int 0, .null, .int 0, .int 0, .null, .null, .null, .null, .null]) (ty := ty_Mo 13) ty_Mo ty_Mo_ok nm_Mo 13 (by decide) rfl rfl in_Mo (by decide) mc_106 rfl hin rfl (ty_Mo_ok 13 (by decide)) rfl rfl (Nat.le_of_ble_eq_true rfl) rfl d_Mo_init_97 ?_
  refine c_aload_n C 0 d_Mo_init_100 rfl rfl ?_
  refine c_sipush C (v := 8192) d_Mo_init_101 (by decide) ?_
  refine c_newa C (t := 0) (N' := 8192) (a0 := (8192, .inl (fun _ => 0))) (ty := .int) mc_6 rfl (fun _ => rfl) (fun _ h => by cases h) (fun _ => rfl) (by decide) (by decide) (by decide) (by decide) (by decide) d_Mo_init_104 ?_
  refine c_putF C (k := 46) (fs := [.int 0, .int 0, .ref (gA X 47), .ref (gA X 48), .ref (gA X 49), .ref (gA X 50), .ref (gA X 51), .ref (gA X 52), .ref (gA X 53), .ref (gA X 54), .ref (gA X 55), .ref (gA X 56), .ref (gA X 57), .ref (gA X 58), .null, .null, .int 0, .int 0, .null, .int 0, .int 0, .null, .null, .null, .null, .null]) (fs' := [.int 0, .int 0, .ref (gA X 47), .ref (gA X 48), .ref (gA X 49), .ref (gA X 50), .ref (gA X 51), .ref (gA X 52), .ref (gA X 53), .ref (gA X 54), .ref (gA X 55), .ref (gA X 56), .ref (gA X 57), .ref (gA X 58), .ref (gA X 59), .null, .int 0, .int 0, .null, .int 0, .int 0, .null, .null, .null, .null, .null]) (ty := ty_Mo 14) ty_Mo ty_Mo_ok nm_Mo 14 (by decide) rfl rfl in_Mo (by decide) mc_107 rfl hin rfl (ty_Mo_ok 14 (by decide)) rfl rfl (Nat.le_of_ble_eq_true rfl) rfl d_Mo_init_106 ?_
  refine c_aload_n C 0 d_Mo_init_109 rfl rfl ?_
  refine c_bipush C (v := 10) d_Mo_init_110 (by decide) ?_
  refine c_newa C (t := 0) (N' := 10) (a0 := (10, .inl (fun _ => 0))) (ty := .int) mc_6 rfl (fun _ => rfl) (fun _ h => by cases h) (fun _ => rfl) (by decide) (by decide) (by decide) (by decide) (by decide) d_Mo_init_112 ?_
  refine c_putF C (k := 46) (fs := [.int 0, .int 0, .ref (gA X 47), .ref (gA X 48), .ref (gA X 49), .ref (gA X 50), .ref (gA X 51), .ref (gA X 52), .ref (gA X 53), .ref (gA X 54), .ref (gA X 55), .ref (gA X 56), .ref (gA X 57), .ref (gA X 58), .ref (gA X 59), .null, .int 0, .int 0, .null, .int 0, .int 0, .null, .null, .null, .null, .null]) (fs' := [.int 0, .int 0, .ref (gA X 47), .ref (gA X 48), .ref (gA X 49), .ref (gA X 50), .ref (gA X 51), .ref (gA X 52), .ref (gA X 53), .ref (gA X 54), .ref (gA X 55), .ref (gA X 56), .ref (gA X 57), .ref (gA X 58), .ref (gA X 59), .ref (gA X 60), .int 0, .int 0, .null, .int 0, .int 0, .null, .null, .null, .null, .null]) (ty := ty_Mo 15) ty_Mo ty_Mo_ok nm_Mo 15 (by decide) rfl rfl in_Mo (by decide) mc_108 rfl hin rfl (ty_Mo_ok 15 (by decide)) rfl rfl (Nat.le_of_ble_eq_true rfl) rfl d_Mo_init_114 ?_
  refine c_aload_n C 0 d_Mo_init_117 rfl rfl ?_
  refine c_sipush C (v := 4096) d_Mo_init_118 (by decide) ?_
  refine c_newa C (t := 4) (N' := 4096) (a0 := (4096, .inl (fun _ => 0))) (ty := .boolean) mc_103 rfl (fun _ => rfl) (fun _ h => by cases h) (fun _ => rfl) (by decide) (by decide) (by decide) (by decide) (by decide) d_Mo_init_121 ?_
  refine c_putF C (k := 46) (fs := [.int 0, .int 0, .ref (gA X 47), .ref (gA X 48), .ref (gA X 49), .ref (gA X 50), .ref (gA X 51), .ref (gA X 52), .ref (gA X 53), .ref (gA X 54), .ref (gA X 55), .ref (gA X 56), .ref (gA X 57), .ref (gA X 58), .ref (gA X 59), .ref (gA X 60), .int 0, .int 0, .null, .int 0, .int 0, .null, .null, .null, .null, .null]) (fs' := [.int 0, .int 0, .ref (gA X 47), .ref (gA X 48), .ref (gA X 49), .ref (gA X 50), .ref (gA X 51), .ref (gA X 52), .ref (gA X 53), .ref (gA X 54), .ref (gA X 55), .ref (gA X 56), .ref (gA X 57), .ref (gA X 58), .ref (gA X 59), .ref (gA X 60), .int 0, .int 0, .ref (gA X 61), .int 0, .int 0, .null, .null, .null, .null, .null]) (ty := ty_Mo 18) ty_Mo ty_Mo_ok nm_Mo 18 (by decide) rfl rfl in_Mo (by decide) mc_109 rfl hin rfl (ty_Mo_ok 18 (by decide)) rfl rfl (Nat.le_of_ble_eq_true rfl) rfl d_Mo_init_123 ?_
  refine c_aload_n C 0 d_Mo_init_126 rfl rfl ?_
  refine c_sipush C (v := 128) d_Mo_init_127 (by decide) ?_
  refine c_newa C (t := 4) (N' := 128) (a0 := (128, .inl (fun _ => 0))) (ty := .boolean) mc_103 rfl (fun _ => rfl) (fun _ h => by cases h) (fun _ => rfl) (by decide) (by decide) (by decide) (by decide) (by decide) d_Mo_init_130 ?_
  refine c_putF C (k := 46) (fs := [.int 0, .int 0, .ref (gA X 47), .ref (gA X 48), .ref (gA X 49), .ref (gA X 50), .ref (gA X 51), .ref (gA X 52), .ref (gA X 53), .ref (gA X 54), .ref (gA X 55), .ref (gA X 56), .ref (gA X 57), .ref (gA X 58), .ref (gA X 59), .ref (gA X 60), .int 0, .int 0, .ref (gA X 61), .int 0, .int 0, .null, .null, .null, .null, .null]) (fs' := [.int 0, .int 0, .ref (gA X 47), .ref (gA X 48), .ref (gA X 49), .ref (gA X 50), .ref (gA X 51), .ref (gA X 52), .ref (gA X 53), .ref (gA X 54), .ref (gA X 55), .ref (gA X 56), .ref (gA X 57), .ref (gA X 58), .ref (gA X 59), .ref (gA X 60), .int 0, .int 0, .ref (gA X 61), .int 0, .int 0, .ref (gA X 62), .null, .null, .null, .null]) (ty := ty_Mo 21) ty_Mo ty_Mo_ok nm_Mo 21 (by decide) rfl rfl in_Mo (by decide) mc_110 rfl hin rfl (ty_Mo_ok 21 (by decide)) rfl rfl (Nat.le_of_ble_eq_true rfl) rfl d_Mo_init_132 ?_
  refine c_aload_n C 0 d_Mo_init_135 rfl rfl ?_
  refine c_sipush C (v := 128) d_Mo_init_136 (by decide) ?_
  refine c_newa C (t := 0) (N' := 128) (a0 := (128, .inl (fun _ => 0))) (ty := .int) mc_6 rfl (fun _ => rfl) (fun _ h => by cases h) (fun _ => rfl) (by decide) (by decide) (by decide) (by decide) (by decide) d_Mo_init_139 ?_
  refine c_putF C (k := 46) (fs := [.int 0, .int 0, .ref (gA X 47), .ref (gA X 48), .ref (gA X 49), .ref (gA X 50), .ref (gA X 51), .ref (gA X 52), .ref (gA X 53), .ref (gA X 54), .ref (gA X 55), .ref (gA X 56), .ref (gA X 57), .ref (gA X 58), .ref (gA X 59), .ref (gA X 60), .int 0, .int 0, .ref (gA X 61), .int 0, .int 0, .ref (gA X 62), .null, .null, .null, .null]) (fs' := [.int 0, .int 0, .ref (gA X 47), .ref (gA X 48), .ref (gA X 49), .ref (gA X 50), .ref (gA X 51), .ref (gA X 52), .ref (gA X 53), .ref (gA X 54), .ref (gA X 55), .ref (gA X 56), .ref (gA X 57), .ref (gA X 58), .ref (gA X 59), .ref (gA X 60), .int 0, .int 0, .ref (gA X 61), .int 0, .int 0, .ref (gA X 62), .ref (gA X 63), .null, .null, .null]) (ty := ty_Mo 22) ty_Mo ty_Mo_ok nm_Mo 22 (by decide) rfl rfl in_Mo (by decide) mc_111 rfl hin rfl (ty_Mo_ok 22 (by decide)) rfl rfl (Nat.le_of_ble_eq_true rfl) rfl d_Mo_init_141 ?_
  refine c_aload_n C 0 d_Mo_init_144 rfl rfl ?_
  refine c_sipush C (v := 128) d_Mo_init_145 (by decide) ?_
  refine c_newa C (t := 4) (N' := 128) (a0 := (128, .inl (fun _ => 0))) (ty := .boolean) mc_103 rfl (fun _ => rfl) (fun _ h => by cases h) (fun _ => rfl) (by decide) (by decide) (by decide) (by decide) (by decide) d_Mo_init_148 ?_
  refine c_putF C (k := 46) (fs := [.int 0, .int 0, .ref (gA X 47), .ref (gA X 48), .ref (gA X 49), .ref (gA X 50), .ref (gA X 51), .ref (gA X 52), .ref (gA X 53), .ref (gA X 54), .ref (gA X 55), .ref (gA X 56), .ref (gA X 57), .ref (gA X 58), .ref (gA X 59), .ref (gA X 60), .int 0, .int 0, .ref (gA X 61), .int 0, .int 0, .ref (gA X 62), .ref (gA X 63), .null, .null, .null]) (fs' := [.int 0, .int 0, .ref (gA X 47), .ref (gA X 48), .ref (gA X 49), .ref (gA X 50), .ref (gA X 51), .ref (gA X 52), .ref (gA X 53), .ref (gA X 54), .ref (gA X 55), .ref (gA X 56), .ref (gA X 57), .ref (gA X 58), .ref (gA X 59), .ref (gA X 60), .int 0, .int 0, .ref (gA X 61), .int 0, .int 0, .ref (gA X 62), .ref (gA X 63), .ref (gA X 64), .null, .null]) (ty := ty_Mo 23) ty_Mo ty_Mo_ok nm_Mo 23 (by decide) rfl rfl in_Mo (by decide) mc_112 rfl hin rfl (ty_Mo_ok 23 (by decide)) rfl rfl (Nat.le_of_ble_eq_true rfl) rfl d_Mo_init_150 ?_
  refine c_aload_n C 0 d_Mo_init_153 rfl rfl ?_
  refine c_sipush C (v := 128) d_Mo_init_154 (by decide) ?_
  refine c_newa C (t := 0) (N' := 128) (a0 := (128, .inl (fun _ => 0))) (ty := .int) mc_6 rfl (fun _ => rfl) (fun _ h => by cases h) (fun _ => rfl) (by decide) (by decide) (by decide) (by decide) (by decide) d_Mo_init_157 ?_
  refine c_putF C (k := 46) (fs := [.int 0, .int 0, .ref (gA X 47), .ref (gA X 48), .ref (gA X 49), .ref (gA X 50), .ref (gA X 51), .ref (gA X 52), .ref (gA X 53), .ref (gA X 54), .ref (gA X 55), .ref (gA X 56), .ref (gA X 57), .ref (gA X 58), .ref (gA X 59), .ref (gA X 60), .int 0, .int 0, .ref (gA X 61), .int 0, .int 0, .ref (gA X 62), .ref (gA X 63), .ref (gA X 64), .null, .null]) (fs' := [.int 0, .int 0, .ref (gA X 47), .ref (gA X 48), .ref (gA X 49), .ref (gA X 50), .ref (gA X 51), .ref (gA X 52), .ref (gA X 53), .ref (gA X 54), .ref (gA X 55), .ref (gA X 56), .ref (gA X 57), .ref (gA X 58), .ref (gA X 59), .ref (gA X 60), .int 0, .int 0, .ref (gA X 61), .int 0, .int 0, .ref (gA X 62), .ref (gA X 63), .ref (gA X 64), .ref (gA X 65), .null]) (ty := ty_Mo 24) ty_Mo ty_Mo_ok nm_Mo 24 (by decide) rfl rfl in_Mo (by decide) mc_113 rfl hin rfl (ty_Mo_ok 24 (by decide)) rfl rfl (Nat.le_of_ble_eq_true rfl) rfl d_Mo_init_159 ?_
  refine c_aload_n C 0 d_Mo_init_162 rfl rfl ?_
  refine c_sipush C (v := 128) d_Mo_init_163 (by decide) ?_
  refine c_newa C (t := 0) (N' := 128) (a0 := (128, .inl (fun _ => 0))) (ty := .int) mc_6 rfl (fun _ => rfl) (fun _ h => by cases h) (fun _ => rfl) (by decide) (by decide) (by decide) (by decide) (by decide) d_Mo_init_166 ?_
  refine c_putF C (k := 46) (fs := [.int 0, .int 0, .ref (gA X 47), .ref (gA X 48), .ref (gA X 49), .ref (gA X 50), .ref (gA X 51), .ref (gA X 52), .ref (gA X 53), .ref (gA X 54), .ref (gA X 55), .ref (gA X 56), .ref (gA X 57), .ref (gA X 58), .ref (gA X 59), .ref (gA X 60), .int 0, .int 0, .ref (gA X 61), .int 0, .int 0, .ref (gA X 62), .ref (gA X 63), .ref (gA X 64), .ref (gA X 65), .null]) (fs' := [.int 0, .int 0, .ref (gA X 47), .ref (gA X 48), .ref (gA X 49), .ref (gA X 50), .ref (gA X 51), .ref (gA X 52), .ref (gA X 53), .ref (gA X 54), .ref (gA X 55), .ref (gA X 56), .ref (gA X 57), .ref (gA X 58), .ref (gA X 59), .ref (gA X 60), .int 0, .int 0, .ref (gA X 61), .int 0, .int 0, .ref (gA X 62), .ref (gA X 63), .ref (gA X 64), .ref (gA X 65), .ref (gA X 66)]) (ty := ty_Mo 25) ty_Mo ty_Mo_ok nm_Mo 25 (by decide) rfl rfl in_Mo (by decide) mc_114 rfl hin rfl (ty_Mo_ok 25 (by decide)) rfl rfl (Nat.le_of_ble_eq_true rfl) rfl d_Mo_init_168 ?_
  refine c_aload_n C 0 d_Mo_init_171 rfl rfl ?_
  refine c_iconst C (v := 0) d_Mo_init_172 (by decide) ?_
  refine c_put C (k := 46) (fs := [.int 0, .int 0, .ref (gA X 47), .ref (gA X 48), .ref (gA X 49), .ref (gA X 50), .ref (gA X 51), .ref (gA X 52), .ref (gA X 53), .ref (gA X 54), .ref (gA X 55), .ref (gA X 56), .ref (gA X 57), .ref (gA X 58), .ref (gA X 59), .ref (gA X 60), .int 0, .int 0, .ref (gA X 61), .int 0, .int 0, .ref (gA X 62), .ref (gA X 63), .ref (gA X 64), .ref (gA X 65), .ref (gA X 66)]) (fs' := [.int 0, .int 0, .ref (gA X 47), .ref (gA X 48), .ref (gA X 49), .ref (gA X 50), .ref (gA X 51), .ref (gA X 52), .ref (gA X 53), .ref (gA X 54), .ref (gA X 55), .ref (gA X 56), .ref (gA X 57), .ref (gA X 58), .ref (gA X 59), .ref (gA X 60), .int 0, .int 0, .ref (gA X 61), .int 0, .int 0, .ref (gA X 62), .ref (gA X 63), .ref (gA X 64), .ref (gA X 65), .ref (gA X 66)]) (ty := ty_Mo 0) ty_Mo ty_Mo_ok nm_Mo 0 (by decide) rfl rfl in_Mo (by decide) mc_115 rfl (ty_Mo_ok 0 (by decide)) rfl rfl (Nat.le_of_ble_eq_true rfl) rfl d_Mo_init_173 ?_
  refine hR _ _ _ (fun k hk => ?_) d_Mo_init_176
  match k, hk with
  | 0, _ => rfl
  | 1, _ => rfl
  | 2, _ => rfl
  | 3, _ => rfl
  | 4, _ => rfl
  | 5, _ => rfl
  | 6, _ => rfl
  | 7, _ => rfl
  | 8, _ => rfl
  | 9, _ => rfl
  | 10, _ => rfl
  | 11, _ => rfl
  | 12, _ => rfl
  | 13, _ => rfl
  | 14, _ => rfl
  | 15, _ => rfl
  | 16, _ => rfl
  | 17, _ => rfl
  | 18, _ => rfl
  | 19, _ => rfl
  | 20, _ => rfl
  | 21, _ => rfl
  | 22, _ => rfl
  | 23, _ => rfl
  | 24, _ => rfl
  | 25, _ => rfl
  | 26, _ => rfl
  | 27, _ => rfl
  | 28, _ => rfl
  | 29, _ => rfl
  | 30, _ => rfl
  | 31, _ => rfl
  | 32, _ => rfl
  | 33, _ => rfl
  | 34, _ => rfl
  | 35, _ => rfl
  | 36, _ => rfl
  | 37, _ => rfl
  | 38, _ => rfl
  | 39, _ => rfl
  | 40, _ => rfl
  | 41, _ => rfl
  | 42, _ => rfl
  | 43, _ => rfl
  | 44, _ => rfl
  | 45, _ => rfl
  | 46, _ => rfl
  | 47, _ => rfl
  | 48, _ => rfl
  | 49, _ => rfl
  | 50, _ => rfl
  | 51, _ => rfl
  | 52, _ => rfl
  | 53, _ => rfl
  | 54, _ => rfl
  | 55, _ => rfl
  | 56, _ => rfl
  | 57, _ => rfl
  | 58, _ => rfl
  | 59, _ => rfl
  | 60, _ => rfl
  | 61, _ => rfl
  | 62, _ => rfl
  | 63, _ => rfl
  | 64, _ => rfl
  | 65, _ => rfl
  | 66, _ => rfl
  | k + 67, h => exact absurd h (by omega)
