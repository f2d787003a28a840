theorem cel_Ga : ∀ z a f g, gCel z a f g 0 = .inr (0, fl_Ga a f) := fun _ _ _ _ => rfl
theorem cel_Fo : ∀ z a f g, gCel z a f g 1 = .inr (1, fl_Fo a f) := fun _ _ _ _ => rfl
theorem cel_Ta : ∀ z a f g, gCel z a f g 16 = .inr (2, fl_Ta a f) := fun _ _ _ _ => rfl
theorem cel_Po : ∀ z a f g, gCel z a f g 23 = .inr (3, fl_Po a f) := fun _ _ _ _ => rfl
theorem cel_Le : ∀ z a f g, gCel z a f g 34 = .inr (4, fl_Le a f) := fun _ _ _ _ => rfl
theorem cel_An : ∀ z a f g, gCel z a f g 39 = .inr (5, fl_An a f) := fun _ _ _ _ => rfl
theorem cel_Mo : ∀ z a f g, gCel z a f g 46 = .inr (6, fl_Mo a f) := fun _ _ _ _ => rfl
set_option maxRecDepth 100000 in
theorem m_0 : Cond.fieldLink R_Fo 9 (T_Fo 0).1 (T_Fo 0).2.1 (T_Fo 0).2.2.1 ∈ BIG := List.mem_filter.mpr ⟨List.mem_append_right _ (List.mem_of_getElem? (i := 25) rfl), rfl⟩
set_option maxRecDepth 100000 in
theorem m_1 : Cond.fieldLink R_Fo 15 (T_Fo 1).1 (T_Fo 1).2.1 (T_Fo 1).2.2.1 ∈ BIG := List.mem_filter.mpr ⟨List.mem_append_right _ (List.mem_of_getElem? (i := 28) rfl), rfl⟩
set_option maxRecDepth 100000 in
theorem m_2 : Cond.fieldLink R_Fo 18 (T_Fo 2).1 (T_Fo 2).2.1 (T_Fo 2).2.2.1 ∈ BIG := List.mem_filter.mpr ⟨List.mem_append_right _ (List.mem_of_getElem? (i := 30) rfl), rfl⟩
set_option maxRecDepth 100000 in
theorem m_3 : Cond.fieldLink R_Ga 10 (T_Ga 0).1 (T_Ga 0).2.1 (T_Ga 0).2.2.1 ∈ BIG := List.mem_filter.mpr ⟨List.mem_append_right _ (List.mem_of_getElem? (i := 203) rfl), rfl⟩
set_option maxRecDepth 100000 in
theorem m_4 : Cond.methodLink R_Ga 48 y_Fo_dropAll ∈ BIG := List.mem_filter.mpr ⟨List.mem_append_right _ (List.mem_of_getElem? (i := 223) rfl), rfl⟩
set_option maxRecDepth 100000 in
theorem m_5 : Cond.initialized R_Fo ∈ BIG := List.mem_filter.mpr ⟨List.mem_append_right _ (List.mem_of_getElem? (i := 2) rfl), rfl⟩
set_option maxRecDepth 100000 in
theorem m_6 : Cond.code y_Fo_dropAll b_Fo_dropAll_c 2 (some .int) ∈ BIG := List.mem_filter.mpr ⟨List.mem_append_right _ (List.mem_of_getElem? (i := 226) rfl), rfl⟩
set_option maxRecDepth 100000 in
theorem m_7 : Cond.instanceMethod y_Fo_dropAll ∈ BIG := List.mem_filter.mpr ⟨List.mem_append_right _ (List.mem_of_getElem? (i := 224) rfl), rfl⟩
set_option maxRecDepth 100000 in
theorem m_8 : Cond.selects R_Fo y_Fo_dropAll y_Fo_dropAll ∈ BIG := List.mem_filter.mpr ⟨List.mem_append_right _ (List.mem_of_getElem? (i := 225) rfl), rfl⟩
set_option maxRecDepth 100000 in
theorem m_9 : Cond.fieldLink R_Fo 56 (T_Fo 14).1 (T_Fo 14).2.1 (T_Fo 14).2.2.1 ∈ BIG := List.mem_filter.mpr ⟨List.mem_append_right _ (List.mem_of_getElem? (i := 53) rfl), rfl⟩
set_option maxRecDepth 100000 in
theorem m_10 : Cond.fieldLink R_Fo 31 (T_Fo 6).1 (T_Fo 6).2.1 (T_Fo 6).2.2.1 ∈ BIG := List.mem_filter.mpr ⟨List.mem_append_right _ (List.mem_of_getElem? (i := 43) rfl), rfl⟩
set_option maxRecDepth 100000 in
theorem m_11 : Cond.fieldLink R_Fo 59 (T_Fo 15).1 (T_Fo 15).2.1 (T_Fo 15).2.2.1 ∈ BIG := List.mem_filter.mpr ⟨List.mem_append_right _ (List.mem_of_getElem? (i := 54) rfl), rfl⟩
set_option maxRecDepth 100000 in
theorem m_12 : Cond.methodLink R_Ga 52 y_Ga_isPlayer ∈ BIG := List.mem_filter.mpr ⟨List.mem_append_right _ (List.mem_of_getElem? (i := 231) rfl), rfl⟩
set_option maxRecDepth 100000 in
theorem m_13 : Cond.initialized R_Ga ∈ BIG := List.mem_filter.mpr ⟨List.mem_append_right _ (List.mem_of_getElem? (i := 1) rfl), rfl⟩
set_option maxRecDepth 100000 in
theorem m_14 : Cond.code y_Ga_isPlayer b_Ga_isPlayer_c 1 (some .boolean) ∈ BIG := List.mem_filter.mpr ⟨List.mem_append_right _ (List.mem_of_getElem? (i := 233) rfl), rfl⟩
set_option maxRecDepth 100000 in
theorem m_15 : Cond.static y_Ga_isPlayer ∈ BIG := List.mem_filter.mpr ⟨List.mem_append_right _ (List.mem_of_getElem? (i := 232) rfl), rfl⟩
set_option maxRecDepth 100000 in
theorem m_16 : Cond.methodLink R_Ga 56 y_Ga_isAmong ∈ BIG := List.mem_filter.mpr ⟨List.mem_append_right _ (List.mem_of_getElem? (i := 234) rfl), rfl⟩
set_option maxRecDepth 100000 in
theorem m_17 : Cond.code y_Ga_isAmong b_Ga_isAmong_c 3 (some .boolean) ∈ BIG := List.mem_filter.mpr ⟨List.mem_append_right _ (List.mem_of_getElem? (i := 236) rfl), rfl⟩
set_option maxRecDepth 100000 in
theorem m_18 : Cond.static y_Ga_isAmong ∈ BIG := List.mem_filter.mpr ⟨List.mem_append_right _ (List.mem_of_getElem? (i := 235) rfl), rfl⟩
set_option maxRecDepth 100000 in
theorem m_19 : Cond.methodLink R_Ga 60 y_Fo_addSet ∈ BIG := List.mem_filter.mpr ⟨List.mem_append_right _ (List.mem_of_getElem? (i := 237) rfl), rfl⟩
set_option maxRecDepth 100000 in
theorem m_20 : Cond.code y_Fo_addSet b_Fo_addSet_c 3 (some .int) ∈ BIG := List.mem_filter.mpr ⟨List.mem_append_right _ (List.mem_of_getElem? (i := 240) rfl), rfl⟩
set_option maxRecDepth 100000 in
theorem m_21 : Cond.instanceMethod y_Fo_addSet ∈ BIG := List.mem_filter.mpr ⟨List.mem_append_right _ (List.mem_of_getElem? (i := 238) rfl), rfl⟩
set_option maxRecDepth 100000 in
theorem m_22 : Cond.selects R_Fo y_Fo_addSet y_Fo_addSet ∈ BIG := List.mem_filter.mpr ⟨List.mem_append_right _ (List.mem_of_getElem? (i := 239) rfl), rfl⟩
set_option maxRecDepth 100000 in
theorem m_23 : Cond.fieldLink R_Fo 37 (T_Fo 8).1 (T_Fo 8).2.1 (T_Fo 8).2.2.1 ∈ BIG := List.mem_filter.mpr ⟨List.mem_append_right _ (List.mem_of_getElem? (i := 46) rfl), rfl⟩
set_option maxRecDepth 100000 in
theorem m_24 : Cond.fieldLink R_Fo 21 (T_Fo 3).1 (T_Fo 3).2.1 (T_Fo 3).2.2.1 ∈ BIG := List.mem_filter.mpr ⟨List.mem_append_right _ (List.mem_of_getElem? (i := 35) rfl), rfl⟩
set_option maxRecDepth 100000 in
theorem m_25 : Cond.fieldLink R_Fo 25 (T_Fo 4).1 (T_Fo 4).2.1 (T_Fo 4).2.2.1 ∈ BIG := List.mem_filter.mpr ⟨List.mem_append_right _ (List.mem_of_getElem? (i := 38) rfl), rfl⟩
set_option maxRecDepth 100000 in
theorem m_26 : Cond.fieldLink R_Fo 40 (T_Fo 9).1 (T_Fo 9).2.1 (T_Fo 9).2.2.1 ∈ BIG := List.mem_filter.mpr ⟨List.mem_append_right _ (List.mem_of_getElem? (i := 47) rfl), rfl⟩
set_option maxRecDepth 100000 in
theorem m_27 : Cond.fieldLink R_Fo 28 (T_Fo 5).1 (T_Fo 5).2.1 (T_Fo 5).2.2.1 ∈ BIG := List.mem_filter.mpr ⟨List.mem_append_right _ (List.mem_of_getElem? (i := 41) rfl), rfl⟩
set_option maxRecDepth 100000 in
theorem m_28 : Cond.fieldLink R_Fo 49 (T_Fo 12).1 (T_Fo 12).2.1 (T_Fo 12).2.2.1 ∈ BIG := List.mem_filter.mpr ⟨List.mem_append_right _ (List.mem_of_getElem? (i := 51) rfl), rfl⟩
set_option maxRecDepth 100000 in
theorem m_29 : Cond.methodLink R_Fo 65 y_Fo_startNode ∈ BIG := List.mem_filter.mpr ⟨List.mem_append_right _ (List.mem_of_getElem? (i := 249) rfl), rfl⟩
set_option maxRecDepth 100000 in
theorem m_30 : Cond.code y_Fo_startNode b_Fo_startNode_c 5 (some .int) ∈ BIG := List.mem_filter.mpr ⟨List.mem_append_right _ (List.mem_of_getElem? (i := 252) rfl), rfl⟩
set_option maxRecDepth 100000 in
theorem m_31 : Cond.instanceMethod y_Fo_startNode ∈ BIG := List.mem_filter.mpr ⟨List.mem_append_right _ (List.mem_of_getElem? (i := 251) rfl), rfl⟩
set_option maxRecDepth 100000 in
theorem m_32 : Cond.selects R_Fo y_Fo_startNode y_Fo_startNode ∈ BIG := List.mem_filter.mpr ⟨List.mem_append_left _ (List.mem_of_getElem? (i := 0) rfl), rfl⟩
set_option maxRecDepth 100000 in
theorem m_33 : Cond.fieldLink R_Fo 34 (T_Fo 7).1 (T_Fo 7).2.1 (T_Fo 7).2.2.1 ∈ BIG := List.mem_filter.mpr ⟨List.mem_append_right _ (List.mem_of_getElem? (i := 45) rfl), rfl⟩
set_option maxRecDepth 100000 in
theorem m_34 : Cond.fieldLink R_Fo 43 (T_Fo 10).1 (T_Fo 10).2.1 (T_Fo 10).2.2.1 ∈ BIG := List.mem_filter.mpr ⟨List.mem_append_right _ (List.mem_of_getElem? (i := 49) rfl), rfl⟩
set_option maxRecDepth 100000 in
theorem m_35 : Cond.fieldLink R_Fo 46 (T_Fo 11).1 (T_Fo 11).2.1 (T_Fo 11).2.2.1 ∈ BIG := List.mem_filter.mpr ⟨List.mem_append_right _ (List.mem_of_getElem? (i := 50) rfl), rfl⟩
set_option maxRecDepth 100000 in
theorem m_36 : Cond.fieldLink R_Fo 53 (T_Fo 13).1 (T_Fo 13).2.1 (T_Fo 13).2.2.1 ∈ BIG := List.mem_filter.mpr ⟨List.mem_append_right _ (List.mem_of_getElem? (i := 52) rfl), rfl⟩
set_option maxRecDepth 100000 in
theorem m_37 : Cond.methodLink R_Ga 64 y_Fo_addEnd ∈ BIG := List.mem_filter.mpr ⟨List.mem_append_right _ (List.mem_of_getElem? (i := 245) rfl), rfl⟩
set_option maxRecDepth 100000 in
theorem m_38 : Cond.code y_Fo_addEnd b_Fo_addEnd_c 4 (some .int) ∈ BIG := List.mem_filter.mpr ⟨List.mem_append_right _ (List.mem_of_getElem? (i := 248) rfl), rfl⟩
set_option maxRecDepth 100000 in
theorem m_39 : Cond.instanceMethod y_Fo_addEnd ∈ BIG := List.mem_filter.mpr ⟨List.mem_append_right _ (List.mem_of_getElem? (i := 246) rfl), rfl⟩
set_option maxRecDepth 100000 in
theorem m_40 : Cond.selects R_Fo y_Fo_addEnd y_Fo_addEnd ∈ BIG := List.mem_filter.mpr ⟨List.mem_append_right _ (List.mem_of_getElem? (i := 247) rfl), rfl⟩
set_option maxRecDepth 100000 in
theorem m_41 : Cond.fieldLink R_Fo 62 (T_Fo 16).1 (T_Fo 16).2.1 (T_Fo 16).2.2.1 ∈ BIG := List.mem_filter.mpr ⟨List.mem_append_right _ (List.mem_of_getElem? (i := 55) rfl), rfl⟩
set_option maxRecDepth 100000 in
theorem m_42 : Cond.methodLink R_Fo 91 y_Fo_hasNode ∈ BIG := List.mem_filter.mpr ⟨List.mem_append_right _ (List.mem_of_getElem? (i := 269) rfl), rfl⟩
set_option maxRecDepth 100000 in
theorem m_43 : Cond.code y_Fo_hasNode b_Fo_hasNode_c 2 (some .boolean) ∈ BIG := List.mem_filter.mpr ⟨List.mem_append_right _ (List.mem_of_getElem? (i := 272) rfl), rfl⟩
set_option maxRecDepth 100000 in
theorem m_44 : Cond.instanceMethod y_Fo_hasNode ∈ BIG := List.mem_filter.mpr ⟨List.mem_append_right _ (List.mem_of_getElem? (i := 270) rfl), rfl⟩
set_option maxRecDepth 100000 in
theorem m_45 : Cond.selects R_Fo y_Fo_hasNode y_Fo_hasNode ∈ BIG := List.mem_filter.mpr ⟨List.mem_append_right _ (List.mem_of_getElem? (i := 271) rfl), rfl⟩
set_option maxRecDepth 100000 in
theorem m_46 : Cond.methodLink R_Fo 94 y_Ma_max ∈ BIG := List.mem_filter.mpr ⟨List.mem_append_right _ (List.mem_of_getElem? (i := 281) rfl), rfl⟩
set_option maxRecDepth 100000 in
theorem m_47 : Cond.initialized R_Ma ∈ BIG := List.mem_filter.mpr ⟨List.mem_append_right _ (List.mem_of_getElem? (i := 8) rfl), rfl⟩
set_option maxRecDepth 100000 in
theorem m_48 : Cond.code y_Ma_max b_Ma_max_c 2 (some .int) ∈ BIG := List.mem_filter.mpr ⟨List.mem_append_right _ (List.mem_of_getElem? (i := 283) rfl), rfl⟩
set_option maxRecDepth 100000 in
theorem m_49 : Cond.static y_Ma_max ∈ BIG := List.mem_filter.mpr ⟨List.mem_append_right _ (List.mem_of_getElem? (i := 282) rfl), rfl⟩
set_option maxRecDepth 100000 in
theorem m_50 : Cond.code y_Ga_hasBit b_Ga_hasBit_c 3 (some .boolean) ∈ BIG := List.mem_filter.mpr ⟨List.mem_append_right _ (List.mem_of_getElem? (i := 294) rfl), rfl⟩
set_option maxRecDepth 100000 in
theorem m_51 : Cond.static y_Ga_hasBit ∈ BIG := List.mem_filter.mpr ⟨List.mem_append_right _ (List.mem_of_getElem? (i := 293) rfl), rfl⟩
set_option maxRecDepth 100000 in
theorem m_52 : Cond.methodLink R_Fo 87 y_Fo_adoptOffered ∈ BIG := List.mem_filter.mpr ⟨List.mem_append_right _ (List.mem_of_getElem? (i := 295) rfl), rfl⟩
set_option maxRecDepth 100000 in
theorem m_53 : Cond.code y_Fo_adoptOffered b_Fo_adoptOffered_c 4 none ∈ BIG := List.mem_filter.mpr ⟨List.mem_append_right _ (List.mem_of_getElem? (i := 298) rfl), rfl⟩
set_option maxRecDepth 100000 in
theorem m_54 : Cond.instanceMethod y_Fo_adoptOffered ∈ BIG := List.mem_filter.mpr ⟨List.mem_append_right _ (List.mem_of_getElem? (i := 297) rfl), rfl⟩
set_option maxRecDepth 100000 in
theorem m_55 : Cond.selects R_Fo y_Fo_adoptOffered y_Fo_adoptOffered ∈ BIG := List.mem_filter.mpr ⟨List.mem_append_left _ (List.mem_of_getElem? (i := 6) rfl), rfl⟩
set_option maxRecDepth 100000 in
theorem m_56 : Cond.methodLink R_Fo 84 y_Fo_plansWith ∈ BIG := List.mem_filter.mpr ⟨List.mem_append_right _ (List.mem_of_getElem? (i := 288) rfl), rfl⟩
set_option maxRecDepth 100000 in
theorem m_57 : Cond.code y_Fo_plansWith b_Fo_plansWith_c 5 (some .int) ∈ BIG := List.mem_filter.mpr ⟨List.mem_append_right _ (List.mem_of_getElem? (i := 291) rfl), rfl⟩
set_option maxRecDepth 100000 in
theorem m_58 : Cond.instanceMethod y_Fo_plansWith ∈ BIG := List.mem_filter.mpr ⟨List.mem_append_right _ (List.mem_of_getElem? (i := 290) rfl), rfl⟩
set_option maxRecDepth 100000 in
theorem m_59 : Cond.selects R_Fo y_Fo_plansWith y_Fo_plansWith ∈ BIG := List.mem_filter.mpr ⟨List.mem_append_left _ (List.mem_of_getElem? (i := 5) rfl), rfl⟩
set_option maxRecDepth 100000 in
theorem m_60 : Cond.methodLink R_Fo 80 y_Fo_setsOffered ∈ BIG := List.mem_filter.mpr ⟨List.mem_append_right _ (List.mem_of_getElem? (i := 284) rfl), rfl⟩
set_option maxRecDepth 100000 in
theorem m_61 : Cond.code y_Fo_setsOffered b_Fo_setsOffered_c 4 (some .int) ∈ BIG := List.mem_filter.mpr ⟨List.mem_append_right _ (List.mem_of_getElem? (i := 287) rfl), rfl⟩
set_option maxRecDepth 100000 in
theorem m_62 : Cond.instanceMethod y_Fo_setsOffered ∈ BIG := List.mem_filter.mpr ⟨List.mem_append_right _ (List.mem_of_getElem? (i := 286) rfl), rfl⟩
set_option maxRecDepth 100000 in
theorem m_63 : Cond.selects R_Fo y_Fo_setsOffered y_Fo_setsOffered ∈ BIG := List.mem_filter.mpr ⟨List.mem_append_left _ (List.mem_of_getElem? (i := 4) rfl), rfl⟩
set_option maxRecDepth 100000 in
theorem m_64 : Cond.methodLink R_Fo 69 y_Fo_areOfferedThere ∈ BIG := List.mem_filter.mpr ⟨List.mem_append_right _ (List.mem_of_getElem? (i := 265) rfl), rfl⟩
set_option maxRecDepth 100000 in
theorem m_65 : Cond.code y_Fo_areOfferedThere b_Fo_areOfferedThere_c 3 (some .boolean) ∈ BIG := List.mem_filter.mpr ⟨List.mem_append_right _ (List.mem_of_getElem? (i := 268) rfl), rfl⟩
set_option maxRecDepth 100000 in
theorem m_66 : Cond.instanceMethod y_Fo_areOfferedThere ∈ BIG := List.mem_filter.mpr ⟨List.mem_append_right _ (List.mem_of_getElem? (i := 267) rfl), rfl⟩
set_option maxRecDepth 100000 in
theorem m_67 : Cond.selects R_Fo y_Fo_areOfferedThere y_Fo_areOfferedThere ∈ BIG := List.mem_filter.mpr ⟨List.mem_append_left _ (List.mem_of_getElem? (i := 1) rfl), rfl⟩
set_option maxRecDepth 100000 in
theorem m_68 : Cond.methodLink R_Fo 73 y_Fo_isOfferedTaken ∈ BIG := List.mem_filter.mpr ⟨List.mem_append_right _ (List.mem_of_getElem? (i := 273) rfl), rfl⟩
set_option maxRecDepth 100000 in
theorem m_69 : Cond.code y_Fo_isOfferedTaken b_Fo_isOfferedTaken_c 4 (some .boolean) ∈ BIG := List.mem_filter.mpr ⟨List.mem_append_right _ (List.mem_of_getElem? (i := 276) rfl), rfl⟩
set_option maxRecDepth 100000 in
theorem m_70 : Cond.instanceMethod y_Fo_isOfferedTaken ∈ BIG := List.mem_filter.mpr ⟨List.mem_append_right _ (List.mem_of_getElem? (i := 275) rfl), rfl⟩
set_option maxRecDepth 100000 in
theorem m_71 : Cond.selects R_Fo y_Fo_isOfferedTaken y_Fo_isOfferedTaken ∈ BIG := List.mem_filter.mpr ⟨List.mem_append_left _ (List.mem_of_getElem? (i := 2) rfl), rfl⟩
set_option maxRecDepth 100000 in
theorem m_72 : Cond.methodLink R_Fo 76 y_Fo_greatestOffered ∈ BIG := List.mem_filter.mpr ⟨List.mem_append_right _ (List.mem_of_getElem? (i := 277) rfl), rfl⟩
set_option maxRecDepth 100000 in
theorem m_73 : Cond.code y_Fo_greatestOffered b_Fo_greatestOffered_c 5 (some .int) ∈ BIG := List.mem_filter.mpr ⟨List.mem_append_right _ (List.mem_of_getElem? (i := 280) rfl), rfl⟩
set_option maxRecDepth 100000 in
theorem m_74 : Cond.instanceMethod y_Fo_greatestOffered ∈ BIG := List.mem_filter.mpr ⟨List.mem_append_right _ (List.mem_of_getElem? (i := 279) rfl), rfl⟩
set_option maxRecDepth 100000 in
theorem m_75 : Cond.selects R_Fo y_Fo_greatestOffered y_Fo_greatestOffered ∈ BIG := List.mem_filter.mpr ⟨List.mem_append_left _ (List.mem_of_getElem? (i := 3) rfl), rfl⟩
set_option maxRecDepth 100000 in
theorem m_76 : Cond.methodLink R_Ga 67 y_Fo_offer ∈ BIG := List.mem_filter.mpr ⟨List.mem_append_right _ (List.mem_of_getElem? (i := 257) rfl), rfl⟩
set_option maxRecDepth 100000 in
theorem m_77 : Cond.code y_Fo_offer b_Fo_offer_c 4 none ∈ BIG := List.mem_filter.mpr ⟨List.mem_append_right _ (List.mem_of_getElem? (i := 260) rfl), rfl⟩
set_option maxRecDepth 100000 in
theorem m_78 : Cond.instanceMethod y_Fo_offer ∈ BIG := List.mem_filter.mpr ⟨List.mem_append_right _ (List.mem_of_getElem? (i := 258) rfl), rfl⟩
set_option maxRecDepth 100000 in
theorem m_79 : Cond.selects R_Fo y_Fo_offer y_Fo_offer ∈ BIG := List.mem_filter.mpr ⟨List.mem_append_right _ (List.mem_of_getElem? (i := 259) rfl), rfl⟩
set_option maxRecDepth 100000 in
theorem m_80 : Cond.methodLink R_Ga 71 y_Fo_addParent ∈ BIG := List.mem_filter.mpr ⟨List.mem_append_right _ (List.mem_of_getElem? (i := 261) rfl), rfl⟩
set_option maxRecDepth 100000 in
theorem m_81 : Cond.code y_Fo_addParent b_Fo_addParent_c 7 (some .int) ∈ BIG := List.mem_filter.mpr ⟨List.mem_append_right _ (List.mem_of_getElem? (i := 264) rfl), rfl⟩
set_option maxRecDepth 100000 in
theorem m_82 : Cond.instanceMethod y_Fo_addParent ∈ BIG := List.mem_filter.mpr ⟨List.mem_append_right _ (List.mem_of_getElem? (i := 262) rfl), rfl⟩
set_option maxRecDepth 100000 in
theorem m_83 : Cond.selects R_Fo y_Fo_addParent y_Fo_addParent ∈ BIG := List.mem_filter.mpr ⟨List.mem_append_right _ (List.mem_of_getElem? (i := 263) rfl), rfl⟩
set_option maxRecDepth 100000 in
theorem m_84 : Cond.methodLink R_Ga 74 y_Fo_hasSet ∈ BIG := List.mem_filter.mpr ⟨List.mem_append_right _ (List.mem_of_getElem? (i := 303) rfl), rfl⟩
set_option maxRecDepth 100000 in
theorem m_85 : Cond.code y_Fo_hasSet b_Fo_hasSet_c 2 (some .boolean) ∈ BIG := List.mem_filter.mpr ⟨List.mem_append_right _ (List.mem_of_getElem? (i := 306) rfl), rfl⟩
set_option maxRecDepth 100000 in
theorem m_86 : Cond.instanceMethod y_Fo_hasSet ∈ BIG := List.mem_filter.mpr ⟨List.mem_append_right _ (List.mem_of_getElem? (i := 304) rfl), rfl⟩
set_option maxRecDepth 100000 in
theorem m_87 : Cond.selects R_Fo y_Fo_hasSet y_Fo_hasSet ∈ BIG := List.mem_filter.mpr ⟨List.mem_append_right _ (List.mem_of_getElem? (i := 305) rfl), rfl⟩
set_option maxRecDepth 100000 in
theorem m_88 : Cond.fieldLink R_Ga 77 (T_Fo 6).1 (T_Fo 6).2.1 (T_Fo 6).2.2.1 ∈ BIG := List.mem_filter.mpr ⟨List.mem_append_right _ (List.mem_of_getElem? (i := 44) rfl), rfl⟩
set_option maxRecDepth 100000 in
theorem m_89 : Cond.fieldLink R_Ga 86 (T_Fo 0).1 (T_Fo 0).2.1 (T_Fo 0).2.2.1 ∈ BIG := List.mem_filter.mpr ⟨List.mem_append_right _ (List.mem_of_getElem? (i := 27) rfl), rfl⟩
set_option maxRecDepth 100000 in
theorem m_90 : Cond.methodLink R_Fo 99 y_Fo_root ∈ BIG := List.mem_filter.mpr ⟨List.mem_append_right _ (List.mem_of_getElem? (i := 320) rfl), rfl⟩
set_option maxRecDepth 100000 in
theorem m_91 : Cond.code y_Fo_root b_Fo_root_c 1 (some .int) ∈ BIG := List.mem_filter.mpr ⟨List.mem_append_right _ (List.mem_of_getElem? (i := 323) rfl), rfl⟩
set_option maxRecDepth 100000 in
theorem m_92 : Cond.instanceMethod y_Fo_root ∈ BIG := List.mem_filter.mpr ⟨List.mem_append_right _ (List.mem_of_getElem? (i := 321) rfl), rfl⟩
set_option maxRecDepth 100000 in
theorem m_93 : Cond.selects R_Fo y_Fo_root y_Fo_root ∈ BIG := List.mem_filter.mpr ⟨List.mem_append_right _ (List.mem_of_getElem? (i := 322) rfl), rfl⟩
set_option maxRecDepth 100000 in
theorem m_94 : Cond.constantLong R_Lo 314 6148914691236517205 ∈ BIG := List.mem_filter.mpr ⟨List.mem_append_right _ (List.mem_of_getElem? (i := 327) rfl), rfl⟩
set_option maxRecDepth 100000 in
theorem m_95 : Cond.constantLong R_Lo 316 3689348814741910323 ∈ BIG := List.mem_filter.mpr ⟨List.mem_append_right _ (List.mem_of_getElem? (i := 328) rfl), rfl⟩
set_option maxRecDepth 100000 in
theorem m_96 : Cond.constantLong R_Lo 318 1085102592571150095 ∈ BIG := List.mem_filter.mpr ⟨List.mem_append_right _ (List.mem_of_getElem? (i := 329) rfl), rfl⟩
set_option maxRecDepth 100000 in
theorem m_97 : Cond.methodLink R_Fo 103 y_Fo_setsInTree ∈ BIG := List.mem_filter.mpr ⟨List.mem_append_right _ (List.mem_of_getElem? (i := 334) rfl), rfl⟩
set_option maxRecDepth 100000 in
theorem m_98 : Cond.code y_Fo_setsInTree b_Fo_setsInTree_c 1 (some .int) ∈ BIG := List.mem_filter.mpr ⟨List.mem_append_right _ (List.mem_of_getElem? (i := 337) rfl), rfl⟩
set_option maxRecDepth 100000 in
theorem m_99 : Cond.instanceMethod y_Fo_setsInTree ∈ BIG := List.mem_filter.mpr ⟨List.mem_append_right _ (List.mem_of_getElem? (i := 336) rfl), rfl⟩
set_option maxRecDepth 100000 in
theorem m_100 : Cond.selects R_Fo y_Fo_setsInTree y_Fo_setsInTree ∈ BIG := List.mem_filter.mpr ⟨List.mem_append_left _ (List.mem_of_getElem? (i := 8) rfl), rfl⟩
set_option maxRecDepth 100000 in
theorem m_101 : Cond.constantLong R_Ga 204 (-1) ∈ BIG := List.mem_filter.mpr ⟨List.mem_append_right _ (List.mem_of_getElem? (i := 349) rfl), rfl⟩
set_option maxRecDepth 100000 in
theorem m_102 : Cond.methodLink R_Fo 114 y_Fo_nodesInTree ∈ BIG := List.mem_filter.mpr ⟨List.mem_append_right _ (List.mem_of_getElem? (i := 357) rfl), rfl⟩
set_option maxRecDepth 100000 in
theorem m_103 : Cond.code y_Fo_nodesInTree b_Fo_nodesInTree_c 1 (some .long) ∈ BIG := List.mem_filter.mpr ⟨List.mem_append_right _ (List.mem_of_getElem? (i := 319) rfl), rfl⟩
set_option maxRecDepth 100000 in
theorem m_104 : Cond.instanceMethod y_Fo_nodesInTree ∈ BIG := List.mem_filter.mpr ⟨List.mem_append_right _ (List.mem_of_getElem? (i := 317) rfl), rfl⟩
set_option maxRecDepth 100000 in
theorem m_105 : Cond.selects R_Fo y_Fo_nodesInTree y_Fo_nodesInTree ∈ BIG := List.mem_filter.mpr ⟨List.mem_append_right _ (List.mem_of_getElem? (i := 318) rfl), rfl⟩
set_option maxRecDepth 100000 in
theorem m_106 : Cond.constantLong R_Fo 121 (-1) ∈ BIG := List.mem_filter.mpr ⟨List.mem_append_right _ (List.mem_of_getElem? (i := 362) rfl), rfl⟩
set_option maxRecDepth 100000 in
theorem m_107 : Cond.methodLink R_Fo 118 y_Fo_isGameWithin ∈ BIG := List.mem_filter.mpr ⟨List.mem_append_right _ (List.mem_of_getElem? (i := 358) rfl), rfl⟩
set_option maxRecDepth 100000 in
theorem m_108 : Cond.code y_Fo_isGameWithin b_Fo_isGameWithin_c 5 (some .boolean) ∈ BIG := List.mem_filter.mpr ⟨List.mem_append_right _ (List.mem_of_getElem? (i := 361) rfl), rfl⟩
set_option maxRecDepth 100000 in
theorem m_109 : Cond.instanceMethod y_Fo_isGameWithin ∈ BIG := List.mem_filter.mpr ⟨List.mem_append_right _ (List.mem_of_getElem? (i := 360) rfl), rfl⟩
set_option maxRecDepth 100000 in
theorem m_110 : Cond.selects R_Fo y_Fo_isGameWithin y_Fo_isGameWithin ∈ BIG := List.mem_filter.mpr ⟨List.mem_append_left _ (List.mem_of_getElem? (i := 9) rfl), rfl⟩
set_option maxRecDepth 100000 in
theorem m_111 : Cond.fieldLink R_Ta 23 (T_Ta 4).1 (T_Ta 4).2.1 (T_Ta 4).2.2.1 ∈ BIG := List.mem_filter.mpr ⟨List.mem_append_right _ (List.mem_of_getElem? (i := 108) rfl), rfl⟩
set_option maxRecDepth 100000 in
theorem m_112 : Cond.fieldLink R_Ta 33 (T_Ta 1).1 (T_Ta 1).2.1 (T_Ta 1).2.2.1 ∈ BIG := List.mem_filter.mpr ⟨List.mem_append_right _ (List.mem_of_getElem? (i := 105) rfl), rfl⟩
set_option maxRecDepth 100000 in
theorem m_113 : Cond.methodLink R_Ta 80 y_Fo_childAt ∈ BIG := List.mem_filter.mpr ⟨List.mem_append_right _ (List.mem_of_getElem? (i := 392) rfl), rfl⟩
set_option maxRecDepth 100000 in
theorem m_114 : Cond.code y_Fo_childAt b_Fo_childAt_c 3 (some .int) ∈ BIG := List.mem_filter.mpr ⟨List.mem_append_right _ (List.mem_of_getElem? (i := 395) rfl), rfl⟩
set_option maxRecDepth 100000 in
theorem m_115 : Cond.instanceMethod y_Fo_childAt ∈ BIG := List.mem_filter.mpr ⟨List.mem_append_right _ (List.mem_of_getElem? (i := 393) rfl), rfl⟩
set_option maxRecDepth 100000 in
theorem m_116 : Cond.selects R_Fo y_Fo_childAt y_Fo_childAt ∈ BIG := List.mem_filter.mpr ⟨List.mem_append_right _ (List.mem_of_getElem? (i := 394) rfl), rfl⟩
set_option maxRecDepth 100000 in
theorem m_117 : Cond.fieldLink R_Ta 83 (T_Fo 9).1 (T_Fo 9).2.1 (T_Fo 9).2.2.1 ∈ BIG := List.mem_filter.mpr ⟨List.mem_append_right _ (List.mem_of_getElem? (i := 48) rfl), rfl⟩
set_option maxRecDepth 100000 in
theorem m_118 : Cond.fieldLink R_Ta 17 (T_Ta 2).1 (T_Ta 2).2.1 (T_Ta 2).2.2.1 ∈ BIG := List.mem_filter.mpr ⟨List.mem_append_right _ (List.mem_of_getElem? (i := 106) rfl), rfl⟩
set_option maxRecDepth 100000 in
theorem m_119 : Cond.fieldLink R_Ta 68 (T_Fo 3).1 (T_Fo 3).2.1 (T_Fo 3).2.2.1 ∈ BIG := List.mem_filter.mpr ⟨List.mem_append_right _ (List.mem_of_getElem? (i := 36) rfl), rfl⟩
set_option maxRecDepth 100000 in
theorem m_120 : Cond.fieldLink R_Ta 20 (T_Ta 3).1 (T_Ta 3).2.1 (T_Ta 3).2.2.1 ∈ BIG := List.mem_filter.mpr ⟨List.mem_append_right _ (List.mem_of_getElem? (i := 107) rfl), rfl⟩
set_option maxRecDepth 100000 in
theorem m_121 : Cond.fieldLink R_Ta 77 (T_Fo 4).1 (T_Fo 4).2.1 (T_Fo 4).2.2.1 ∈ BIG := List.mem_filter.mpr ⟨List.mem_append_right _ (List.mem_of_getElem? (i := 39) rfl), rfl⟩
set_option maxRecDepth 100000 in
theorem m_122 : Cond.methodLink R_Ta 74 y_Ta_shareAmongAll ∈ BIG := List.mem_filter.mpr ⟨List.mem_append_right _ (List.mem_of_getElem? (i := 388) rfl), rfl⟩
set_option maxRecDepth 100000 in
theorem m_123 : Cond.initialized R_Ta ∈ BIG := List.mem_filter.mpr ⟨List.mem_append_right _ (List.mem_of_getElem? (i := 3) rfl), rfl⟩
set_option maxRecDepth 100000 in
theorem m_124 : Cond.code y_Ta_shareAmongAll b_Ta_shareAmongAll_c 5 none ∈ BIG := List.mem_filter.mpr ⟨List.mem_append_right _ (List.mem_of_getElem? (i := 391) rfl), rfl⟩
set_option maxRecDepth 100000 in
theorem m_125 : Cond.instanceMethod y_Ta_shareAmongAll ∈ BIG := List.mem_filter.mpr ⟨List.mem_append_right _ (List.mem_of_getElem? (i := 390) rfl), rfl⟩
set_option maxRecDepth 100000 in
theorem m_126 : Cond.selects R_Ta y_Ta_shareAmongAll y_Ta_shareAmongAll ∈ BIG := List.mem_filter.mpr ⟨List.mem_append_left _ (List.mem_of_getElem? (i := 12) rfl), rfl⟩
set_option maxRecDepth 100000 in
theorem m_127 : Cond.methodLink R_Ta 71 y_Fo_worthAt ∈ BIG := List.mem_filter.mpr ⟨List.mem_append_right _ (List.mem_of_getElem? (i := 384) rfl), rfl⟩
set_option maxRecDepth 100000 in
theorem m_128 : Cond.code y_Fo_worthAt b_Fo_worthAt_c 3 (some .int) ∈ BIG := List.mem_filter.mpr ⟨List.mem_append_right _ (List.mem_of_getElem? (i := 387) rfl), rfl⟩
set_option maxRecDepth 100000 in
theorem m_129 : Cond.instanceMethod y_Fo_worthAt ∈ BIG := List.mem_filter.mpr ⟨List.mem_append_right _ (List.mem_of_getElem? (i := 385) rfl), rfl⟩
set_option maxRecDepth 100000 in
theorem m_130 : Cond.selects R_Fo y_Fo_worthAt y_Fo_worthAt ∈ BIG := List.mem_filter.mpr ⟨List.mem_append_right _ (List.mem_of_getElem? (i := 386) rfl), rfl⟩
set_option maxRecDepth 100000 in
theorem m_131 : Cond.methodLink R_Fo 110 y_Fo_isPlayedFrom ∈ BIG := List.mem_filter.mpr ⟨List.mem_append_right _ (List.mem_of_getElem? (i := 400) rfl), rfl⟩
set_option maxRecDepth 100000 in
theorem m_132 : Cond.code y_Fo_isPlayedFrom b_Fo_isPlayedFrom_c 4 (some .boolean) ∈ BIG := List.mem_filter.mpr ⟨List.mem_append_right _ (List.mem_of_getElem? (i := 403) rfl), rfl⟩
set_option maxRecDepth 100000 in
theorem m_133 : Cond.instanceMethod y_Fo_isPlayedFrom ∈ BIG := List.mem_filter.mpr ⟨List.mem_append_right _ (List.mem_of_getElem? (i := 402) rfl), rfl⟩
set_option maxRecDepth 100000 in
theorem m_134 : Cond.selects R_Fo y_Fo_isPlayedFrom y_Fo_isPlayedFrom ∈ BIG := List.mem_filter.mpr ⟨List.mem_append_left _ (List.mem_of_getElem? (i := 13) rfl), rfl⟩
set_option maxRecDepth 100000 in
theorem m_135 : Cond.fieldLink R_Ta 9 (T_Ta 0).1 (T_Ta 0).2.1 (T_Ta 0).2.2.1 ∈ BIG := List.mem_filter.mpr ⟨List.mem_append_right _ (List.mem_of_getElem? (i := 101) rfl), rfl⟩
set_option maxRecDepth 100000 in
theorem m_136 : Cond.methodLink R_Ta 64 y_Fo_stepPlan ∈ BIG := List.mem_filter.mpr ⟨List.mem_append_right _ (List.mem_of_getElem? (i := 396) rfl), rfl⟩
set_option maxRecDepth 100000 in
theorem m_137 : Cond.code y_Fo_stepPlan b_Fo_stepPlan_c 5 none ∈ BIG := List.mem_filter.mpr ⟨List.mem_append_right _ (List.mem_of_getElem? (i := 399) rfl), rfl⟩
set_option maxRecDepth 100000 in
theorem m_138 : Cond.instanceMethod y_Fo_stepPlan ∈ BIG := List.mem_filter.mpr ⟨List.mem_append_right _ (List.mem_of_getElem? (i := 397) rfl), rfl⟩
set_option maxRecDepth 100000 in
theorem m_139 : Cond.selects R_Fo y_Fo_stepPlan y_Fo_stepPlan ∈ BIG := List.mem_filter.mpr ⟨List.mem_append_right _ (List.mem_of_getElem? (i := 398) rfl), rfl⟩
set_option maxRecDepth 100000 in
theorem m_140 : Cond.methodLink R_Ta 60 y_Ta_weighPair ∈ BIG := List.mem_filter.mpr ⟨List.mem_append_right _ (List.mem_of_getElem? (i := 380) rfl), rfl⟩
set_option maxRecDepth 100000 in
theorem m_141 : Cond.code y_Ta_weighPair b_Ta_weighPair_c 7 none ∈ BIG := List.mem_filter.mpr ⟨List.mem_append_right _ (List.mem_of_getElem? (i := 383) rfl), rfl⟩
set_option maxRecDepth 100000 in
theorem m_142 : Cond.instanceMethod y_Ta_weighPair ∈ BIG := List.mem_filter.mpr ⟨List.mem_append_right _ (List.mem_of_getElem? (i := 382) rfl), rfl⟩
set_option maxRecDepth 100000 in
theorem m_143 : Cond.selects R_Ta y_Ta_weighPair y_Ta_weighPair ∈ BIG := List.mem_filter.mpr ⟨List.mem_append_left _ (List.mem_of_getElem? (i := 11) rfl), rfl⟩
set_option maxRecDepth 100000 in
theorem m_144 : Cond.fieldLink R_Ta 47 (T_Fo 2).1 (T_Fo 2).2.1 (T_Fo 2).2.2.1 ∈ BIG := List.mem_filter.mpr ⟨List.mem_append_right _ (List.mem_of_getElem? (i := 32) rfl), rfl⟩
set_option maxRecDepth 100000 in
theorem m_145 : Cond.fieldLink R_Ta 26 (T_Ta 5).1 (T_Ta 5).2.1 (T_Ta 5).2.2.1 ∈ BIG := List.mem_filter.mpr ⟨List.mem_append_right _ (List.mem_of_getElem? (i := 109) rfl), rfl⟩
set_option maxRecDepth 100000 in
theorem m_146 : Cond.fieldLink R_Ta 30 (T_Ta 6).1 (T_Ta 6).2.1 (T_Ta 6).2.2.1 ∈ BIG := List.mem_filter.mpr ⟨List.mem_append_right _ (List.mem_of_getElem? (i := 110) rfl), rfl⟩
set_option maxRecDepth 100000 in
theorem m_147 : Cond.methodLink R_Ta 50 y_Fo_plansFrom ∈ BIG := List.mem_filter.mpr ⟨List.mem_append_right _ (List.mem_of_getElem? (i := 373) rfl), rfl⟩
set_option maxRecDepth 100000 in
theorem m_148 : Cond.code y_Fo_plansFrom b_Fo_plansFrom_c 3 (some .int) ∈ BIG := List.mem_filter.mpr ⟨List.mem_append_right _ (List.mem_of_getElem? (i := 376) rfl), rfl⟩
set_option maxRecDepth 100000 in
theorem m_149 : Cond.instanceMethod y_Fo_plansFrom ∈ BIG := List.mem_filter.mpr ⟨List.mem_append_right _ (List.mem_of_getElem? (i := 374) rfl), rfl⟩
set_option maxRecDepth 100000 in
theorem m_150 : Cond.selects R_Fo y_Fo_plansFrom y_Fo_plansFrom ∈ BIG := List.mem_filter.mpr ⟨List.mem_append_right _ (List.mem_of_getElem? (i := 375) rfl), rfl⟩
set_option maxRecDepth 100000 in
theorem m_151 : Cond.methodLink R_Ta 54 y_Ar_fillI ∈ BIG := List.mem_filter.mpr ⟨List.mem_append_right _ (List.mem_of_getElem? (i := 377) rfl), rfl⟩
set_option maxRecDepth 100000 in
theorem m_152 : Cond.initialized R_Ar ∈ BIG := List.mem_filter.mpr ⟨List.mem_append_right _ (List.mem_of_getElem? (i := 10) rfl), rfl⟩
set_option maxRecDepth 100000 in
theorem m_153 : Cond.code y_Ar_fillI b_Ar_fillI_c 4 none ∈ BIG := List.mem_filter.mpr ⟨List.mem_append_right _ (List.mem_of_getElem? (i := 379) rfl), rfl⟩
set_option maxRecDepth 100000 in
theorem m_154 : Cond.static y_Ar_fillI ∈ BIG := List.mem_filter.mpr ⟨List.mem_append_right _ (List.mem_of_getElem? (i := 378) rfl), rfl⟩
set_option maxRecDepth 100000 in
theorem m_155 : Cond.fieldLink R_Po 25 (T_Po 5).1 (T_Po 5).2.1 (T_Po 5).2.2.1 ∈ BIG := List.mem_filter.mpr ⟨List.mem_append_right _ (List.mem_of_getElem? (i := 140) rfl), rfl⟩
set_option maxRecDepth 100000 in
theorem m_156 : Cond.fieldLink R_Po 28 (T_Po 0).1 (T_Po 0).2.1 (T_Po 0).2.2.1 ∈ BIG := List.mem_filter.mpr ⟨List.mem_append_right _ (List.mem_of_getElem? (i := 135) rfl), rfl⟩
set_option maxRecDepth 100000 in
theorem m_157 : Cond.methodLink R_Po 108 y_Fo_planFrom ∈ BIG := List.mem_filter.mpr ⟨List.mem_append_right _ (List.mem_of_getElem? (i := 408) rfl), rfl⟩
set_option maxRecDepth 100000 in
theorem m_158 : Cond.code y_Fo_planFrom b_Fo_planFrom_c 8 (some .int) ∈ BIG := List.mem_filter.mpr ⟨List.mem_append_right _ (List.mem_of_getElem? (i := 411) rfl), rfl⟩
set_option maxRecDepth 100000 in
theorem m_159 : Cond.instanceMethod y_Fo_planFrom ∈ BIG := List.mem_filter.mpr ⟨List.mem_append_right _ (List.mem_of_getElem? (i := 409) rfl), rfl⟩
set_option maxRecDepth 100000 in
theorem m_160 : Cond.selects R_Fo y_Fo_planFrom y_Fo_planFrom ∈ BIG := List.mem_filter.mpr ⟨List.mem_append_right _ (List.mem_of_getElem? (i := 410) rfl), rfl⟩
set_option maxRecDepth 100000 in
theorem m_161 : Cond.methodLink R_Po 46 y_Fo_plansOf ∈ BIG := List.mem_filter.mpr ⟨List.mem_append_right _ (List.mem_of_getElem? (i := 345) rfl), rfl⟩
set_option maxRecDepth 100000 in
theorem m_162 : Cond.code y_Fo_plansOf b_Fo_plansOf_c 2 (some .int) ∈ BIG := List.mem_filter.mpr ⟨List.mem_append_right _ (List.mem_of_getElem? (i := 333) rfl), rfl⟩
set_option maxRecDepth 100000 in
theorem m_163 : Cond.instanceMethod y_Fo_plansOf ∈ BIG := List.mem_filter.mpr ⟨List.mem_append_right _ (List.mem_of_getElem? (i := 331) rfl), rfl⟩
set_option maxRecDepth 100000 in
theorem m_164 : Cond.selects R_Fo y_Fo_plansOf y_Fo_plansOf ∈ BIG := List.mem_filter.mpr ⟨List.mem_append_right _ (List.mem_of_getElem? (i := 332) rfl), rfl⟩
set_option maxRecDepth 100000 in
theorem m_165 : Cond.methodLink R_Ta 86 y_Ta_value ∈ BIG := List.mem_filter.mpr ⟨List.mem_append_right _ (List.mem_of_getElem? (i := 423) rfl), rfl⟩
set_option maxRecDepth 100000 in
theorem m_166 : Cond.code y_Ta_value b_Ta_value_c 4 (some .int) ∈ BIG := List.mem_filter.mpr ⟨List.mem_append_right _ (List.mem_of_getElem? (i := 426) rfl), rfl⟩
set_option maxRecDepth 100000 in
theorem m_167 : Cond.instanceMethod y_Ta_value ∈ BIG := List.mem_filter.mpr ⟨List.mem_append_right _ (List.mem_of_getElem? (i := 424) rfl), rfl⟩
set_option maxRecDepth 100000 in
theorem m_168 : Cond.selects R_Ta y_Ta_value y_Ta_value ∈ BIG := List.mem_filter.mpr ⟨List.mem_append_right _ (List.mem_of_getElem? (i := 425) rfl), rfl⟩
set_option maxRecDepth 100000 in
theorem m_169 : Cond.fieldLink R_Po 32 (T_Po 1).1 (T_Po 1).2.1 (T_Po 1).2.2.1 ∈ BIG := List.mem_filter.mpr ⟨List.mem_append_right _ (List.mem_of_getElem? (i := 136) rfl), rfl⟩
set_option maxRecDepth 100000 in
theorem m_170 : Cond.fieldLink R_Po 115 (T_Ta 0).1 (T_Ta 0).2.1 (T_Ta 0).2.2.1 ∈ BIG := List.mem_filter.mpr ⟨List.mem_append_right _ (List.mem_of_getElem? (i := 104) rfl), rfl⟩
set_option maxRecDepth 100000 in
theorem m_171 : Cond.code y_Ga_otherThan b_Ga_otherThan_c 1 (some .int) ∈ BIG := List.mem_filter.mpr ⟨List.mem_append_right _ (List.mem_of_getElem? (i := 418) rfl), rfl⟩
set_option maxRecDepth 100000 in
theorem m_172 : Cond.static y_Ga_otherThan ∈ BIG := List.mem_filter.mpr ⟨List.mem_append_right _ (List.mem_of_getElem? (i := 417) rfl), rfl⟩
set_option maxRecDepth 100000 in
theorem m_173 : Cond.fieldLink R_Po 22 (T_Po 4).1 (T_Po 4).2.1 (T_Po 4).2.2.1 ∈ BIG := List.mem_filter.mpr ⟨List.mem_append_right _ (List.mem_of_getElem? (i := 139) rfl), rfl⟩
set_option maxRecDepth 100000 in
theorem m_174 : Cond.methodLink R_Po 121 y_Ta_bestAgainst ∈ BIG := List.mem_filter.mpr ⟨List.mem_append_right _ (List.mem_of_getElem? (i := 419) rfl), rfl⟩
set_option maxRecDepth 100000 in
theorem m_175 : Cond.code y_Ta_bestAgainst b_Ta_bestAgainst_c 5 (some .int) ∈ BIG := List.mem_filter.mpr ⟨List.mem_append_right _ (List.mem_of_getElem? (i := 422) rfl), rfl⟩
set_option maxRecDepth 100000 in
theorem m_176 : Cond.instanceMethod y_Ta_bestAgainst ∈ BIG := List.mem_filter.mpr ⟨List.mem_append_right _ (List.mem_of_getElem? (i := 420) rfl), rfl⟩
set_option maxRecDepth 100000 in
theorem m_177 : Cond.selects R_Ta y_Ta_bestAgainst y_Ta_bestAgainst ∈ BIG := List.mem_filter.mpr ⟨List.mem_append_right _ (List.mem_of_getElem? (i := 421) rfl), rfl⟩
set_option maxRecDepth 100000 in
theorem m_178 : Cond.methodLink R_Po 112 y_Ta_value ∈ BIG := List.mem_filter.mpr ⟨List.mem_append_right _ (List.mem_of_getElem? (i := 427) rfl), rfl⟩
set_option maxRecDepth 100000 in
theorem m_179 : Cond.methodLink R_Po 102 y_Po_isPoint ∈ BIG := List.mem_filter.mpr ⟨List.mem_append_right _ (List.mem_of_getElem? (i := 428) rfl), rfl⟩
set_option maxRecDepth 100000 in
theorem m_180 : Cond.initialized R_Po ∈ BIG := List.mem_filter.mpr ⟨List.mem_append_right _ (List.mem_of_getElem? (i := 4) rfl), rfl⟩
set_option maxRecDepth 100000 in
theorem m_181 : Cond.code y_Po_isPoint b_Po_isPoint_c 3 (some .boolean) ∈ BIG := List.mem_filter.mpr ⟨List.mem_append_right _ (List.mem_of_getElem? (i := 431) rfl), rfl⟩
set_option maxRecDepth 100000 in
theorem m_182 : Cond.instanceMethod y_Po_isPoint ∈ BIG := List.mem_filter.mpr ⟨List.mem_append_right _ (List.mem_of_getElem? (i := 430) rfl), rfl⟩
set_option maxRecDepth 100000 in
theorem m_183 : Cond.selects R_Po y_Po_isPoint y_Po_isPoint ∈ BIG := List.mem_filter.mpr ⟨List.mem_append_left _ (List.mem_of_getElem? (i := 16) rfl), rfl⟩
set_option maxRecDepth 100000 in
theorem m_184 : Cond.constantLong R_Po 106 (-1) ∈ BIG := List.mem_filter.mpr ⟨List.mem_append_right _ (List.mem_of_getElem? (i := 432) rfl), rfl⟩
set_option maxRecDepth 100000 in
theorem m_185 : Cond.methodLink R_Po 89 y_Ta_fillFrom ∈ BIG := List.mem_filter.mpr ⟨List.mem_append_right _ (List.mem_of_getElem? (i := 369) rfl), rfl⟩
set_option maxRecDepth 100000 in
theorem m_186 : Cond.code y_Ta_fillFrom b_Ta_fillFrom_c 4 none ∈ BIG := List.mem_filter.mpr ⟨List.mem_append_right _ (List.mem_of_getElem? (i := 372) rfl), rfl⟩
set_option maxRecDepth 100000 in
theorem m_187 : Cond.instanceMethod y_Ta_fillFrom ∈ BIG := List.mem_filter.mpr ⟨List.mem_append_right _ (List.mem_of_getElem? (i := 370) rfl), rfl⟩
set_option maxRecDepth 100000 in
theorem m_188 : Cond.selects R_Ta y_Ta_fillFrom y_Ta_fillFrom ∈ BIG := List.mem_filter.mpr ⟨List.mem_append_right _ (List.mem_of_getElem? (i := 371) rfl), rfl⟩
set_option maxRecDepth 100000 in
theorem m_189 : Cond.methodLink R_Po 95 y_Po_findInner ∈ BIG := List.mem_filter.mpr ⟨List.mem_append_right _ (List.mem_of_getElem? (i := 404) rfl), rfl⟩
set_option maxRecDepth 100000 in
theorem m_190 : Cond.code y_Po_findInner b_Po_findInner_c 5 (some .int) ∈ BIG := List.mem_filter.mpr ⟨List.mem_append_right _ (List.mem_of_getElem? (i := 407) rfl), rfl⟩
set_option maxRecDepth 100000 in
theorem m_191 : Cond.instanceMethod y_Po_findInner ∈ BIG := List.mem_filter.mpr ⟨List.mem_append_right _ (List.mem_of_getElem? (i := 406) rfl), rfl⟩
set_option maxRecDepth 100000 in
theorem m_192 : Cond.selects R_Po y_Po_findInner y_Po_findInner ∈ BIG := List.mem_filter.mpr ⟨List.mem_append_left _ (List.mem_of_getElem? (i := 14) rfl), rfl⟩
set_option maxRecDepth 100000 in
theorem m_193 : Cond.methodLink R_Po 99 y_Po_findBest ∈ BIG := List.mem_filter.mpr ⟨List.mem_append_right _ (List.mem_of_getElem? (i := 412) rfl), rfl⟩
set_option maxRecDepth 100000 in
theorem m_194 : Cond.code y_Po_findBest b_Po_findBest_c 3 none ∈ BIG := List.mem_filter.mpr ⟨List.mem_append_right _ (List.mem_of_getElem? (i := 415) rfl), rfl⟩
set_option maxRecDepth 100000 in
theorem m_195 : Cond.instanceMethod y_Po_findBest ∈ BIG := List.mem_filter.mpr ⟨List.mem_append_right _ (List.mem_of_getElem? (i := 414) rfl), rfl⟩
set_option maxRecDepth 100000 in
theorem m_196 : Cond.selects R_Po y_Po_findBest y_Po_findBest ∈ BIG := List.mem_filter.mpr ⟨List.mem_append_left _ (List.mem_of_getElem? (i := 15) rfl), rfl⟩
set_option maxRecDepth 100000 in
theorem m_197 : Cond.fieldLink R_Po 68 (T_Fo 0).1 (T_Fo 0).2.1 (T_Fo 0).2.2.1 ∈ BIG := List.mem_filter.mpr ⟨List.mem_append_right _ (List.mem_of_getElem? (i := 26) rfl), rfl⟩
set_option maxRecDepth 100000 in
theorem m_198 : Cond.fieldLink R_Po 11 (T_Po 2).1 (T_Po 2).2.1 (T_Po 2).2.2.1 ∈ BIG := List.mem_filter.mpr ⟨List.mem_append_right _ (List.mem_of_getElem? (i := 137) rfl), rfl⟩
set_option maxRecDepth 100000 in
theorem m_199 : Cond.methodLink R_Po 75 y_Po_keepPoints ∈ BIG := List.mem_filter.mpr ⟨List.mem_append_right _ (List.mem_of_getElem? (i := 365) rfl), rfl⟩
set_option maxRecDepth 100000 in
theorem m_200 : Cond.code y_Po_keepPoints b_Po_keepPoints_c 7 none ∈ BIG := List.mem_filter.mpr ⟨List.mem_append_right _ (List.mem_of_getElem? (i := 368) rfl), rfl⟩
set_option maxRecDepth 100000 in
theorem m_201 : Cond.instanceMethod y_Po_keepPoints ∈ BIG := List.mem_filter.mpr ⟨List.mem_append_right _ (List.mem_of_getElem? (i := 367) rfl), rfl⟩
set_option maxRecDepth 100000 in
theorem m_202 : Cond.selects R_Po y_Po_keepPoints y_Po_keepPoints ∈ BIG := List.mem_filter.mpr ⟨List.mem_append_left _ (List.mem_of_getElem? (i := 10) rfl), rfl⟩
set_option maxRecDepth 100000 in
theorem m_203 : Cond.methodLink R_Po 36 y_Po_placeOf ∈ BIG := List.mem_filter.mpr ⟨List.mem_append_right _ (List.mem_of_getElem? (i := 342) rfl), rfl⟩
set_option maxRecDepth 100000 in
theorem m_204 : Cond.code y_Po_placeOf b_Po_placeOf_c 1 (some .int) ∈ BIG := List.mem_filter.mpr ⟨List.mem_append_right _ (List.mem_of_getElem? (i := 344) rfl), rfl⟩
set_option maxRecDepth 100000 in
theorem m_205 : Cond.static y_Po_placeOf ∈ BIG := List.mem_filter.mpr ⟨List.mem_append_right _ (List.mem_of_getElem? (i := 343) rfl), rfl⟩
set_option maxRecDepth 100000 in
theorem m_206 : Cond.fieldLink R_Po 16 (T_Po 3).1 (T_Po 3).2.1 (T_Po 3).2.2.1 ∈ BIG := List.mem_filter.mpr ⟨List.mem_append_right _ (List.mem_of_getElem? (i := 138) rfl), rfl⟩
set_option maxRecDepth 100000 in
theorem m_207 : Cond.fieldLink R_Po 40 (T_Fo 2).1 (T_Fo 2).2.1 (T_Fo 2).2.2.1 ∈ BIG := List.mem_filter.mpr ⟨List.mem_append_right _ (List.mem_of_getElem? (i := 31) rfl), rfl⟩
set_option maxRecDepth 100000 in
theorem m_208 : Cond.code y_Ga_firstBits b_Ga_firstBits_c 1 (some .long) ∈ BIG := List.mem_filter.mpr ⟨List.mem_append_right _ (List.mem_of_getElem? (i := 348) rfl), rfl⟩
set_option maxRecDepth 100000 in
theorem m_209 : Cond.static y_Ga_firstBits ∈ BIG := List.mem_filter.mpr ⟨List.mem_append_right _ (List.mem_of_getElem? (i := 347) rfl), rfl⟩
set_option maxRecDepth 100000 in
theorem m_210 : Cond.methodLink R_Po 54 y_Ar_fillJ ∈ BIG := List.mem_filter.mpr ⟨List.mem_append_right _ (List.mem_of_getElem? (i := 350) rfl), rfl⟩
set_option maxRecDepth 100000 in
theorem m_211 : Cond.code y_Ar_fillJ b_Ar_fillJ_c 5 none ∈ BIG := List.mem_filter.mpr ⟨List.mem_append_right _ (List.mem_of_getElem? (i := 352) rfl), rfl⟩
set_option maxRecDepth 100000 in
theorem m_212 : Cond.static y_Ar_fillJ ∈ BIG := List.mem_filter.mpr ⟨List.mem_append_right _ (List.mem_of_getElem? (i := 351) rfl), rfl⟩
set_option maxRecDepth 100000 in
theorem m_213 : Cond.methodLink R_Po 64 y_Fo_root ∈ BIG := List.mem_filter.mpr ⟨List.mem_append_right _ (List.mem_of_getElem? (i := 363) rfl), rfl⟩
set_option maxRecDepth 100000 in
theorem m_214 : Cond.methodLink R_Po 60 y_Fo_gamesWithin ∈ BIG := List.mem_filter.mpr ⟨List.mem_append_right _ (List.mem_of_getElem? (i := 353) rfl), rfl⟩
set_option maxRecDepth 100000 in
theorem m_215 : Cond.code y_Fo_gamesWithin b_Fo_gamesWithin_c 4 (some .long) ∈ BIG := List.mem_filter.mpr ⟨List.mem_append_right _ (List.mem_of_getElem? (i := 356) rfl), rfl⟩
set_option maxRecDepth 100000 in
theorem m_216 : Cond.instanceMethod y_Fo_gamesWithin ∈ BIG := List.mem_filter.mpr ⟨List.mem_append_right _ (List.mem_of_getElem? (i := 354) rfl), rfl⟩
set_option maxRecDepth 100000 in
theorem m_217 : Cond.selects R_Fo y_Fo_gamesWithin y_Fo_gamesWithin ∈ BIG := List.mem_filter.mpr ⟨List.mem_append_right _ (List.mem_of_getElem? (i := 355) rfl), rfl⟩
set_option maxRecDepth 100000 in
theorem m_218 : Cond.methodLink R_Po 79 y_Lo_bitCount ∈ BIG := List.mem_filter.mpr ⟨List.mem_append_right _ (List.mem_of_getElem? (i := 437) rfl), rfl⟩
set_option maxRecDepth 100000 in
theorem m_219 : Cond.initialized R_Lo ∈ BIG := List.mem_filter.mpr ⟨List.mem_append_right _ (List.mem_of_getElem? (i := 9) rfl), rfl⟩
set_option maxRecDepth 100000 in
theorem m_220 : Cond.code y_Lo_bitCount b_Lo_bitCount_c 2 (some .int) ∈ BIG := List.mem_filter.mpr ⟨List.mem_append_right _ (List.mem_of_getElem? (i := 326) rfl), rfl⟩
set_option maxRecDepth 100000 in
theorem m_221 : Cond.static y_Lo_bitCount ∈ BIG := List.mem_filter.mpr ⟨List.mem_append_right _ (List.mem_of_getElem? (i := 325) rfl), rfl⟩
set_option maxRecDepth 100000 in
theorem m_222 : Cond.methodLink R_Ta 37 y_Fo_root ∈ BIG := List.mem_filter.mpr ⟨List.mem_append_right _ (List.mem_of_getElem? (i := 443) rfl), rfl⟩
set_option maxRecDepth 100000 in
theorem m_223 : Cond.methodLink R_Ta 43 y_Ta_fillFrom ∈ BIG := List.mem_filter.mpr ⟨List.mem_append_right _ (List.mem_of_getElem? (i := 444) rfl), rfl⟩
set_option maxRecDepth 100000 in
theorem m_224 : Cond.methodLink R_Ta 117 y_Ta_isWorse ∈ BIG := List.mem_filter.mpr ⟨List.mem_append_right _ (List.mem_of_getElem? (i := 462) rfl), rfl⟩
set_option maxRecDepth 100000 in
theorem m_225 : Cond.code y_Ta_isWorse b_Ta_isWorse_c 7 (some .boolean) ∈ BIG := List.mem_filter.mpr ⟨List.mem_append_right _ (List.mem_of_getElem? (i := 465) rfl), rfl⟩
set_option maxRecDepth 100000 in
theorem m_226 : Cond.instanceMethod y_Ta_isWorse ∈ BIG := List.mem_filter.mpr ⟨List.mem_append_right _ (List.mem_of_getElem? (i := 464) rfl), rfl⟩
set_option maxRecDepth 100000 in
theorem m_227 : Cond.selects R_Ta y_Ta_isWorse y_Ta_isWorse ∈ BIG := List.mem_filter.mpr ⟨List.mem_append_left _ (List.mem_of_getElem? (i := 18) rfl), rfl⟩
set_option maxRecDepth 100000 in
theorem m_228 : Cond.fieldLink R_Le 28 (T_Le 1).1 (T_Le 1).2.1 (T_Le 1).2.2.1 ∈ BIG := List.mem_filter.mpr ⟨List.mem_append_right _ (List.mem_of_getElem? (i := 162) rfl), rfl⟩
set_option maxRecDepth 100000 in
theorem m_229 : Cond.fieldLink R_Le 49 (T_Ta 0).1 (T_Ta 0).2.1 (T_Ta 0).2.2.1 ∈ BIG := List.mem_filter.mpr ⟨List.mem_append_right _ (List.mem_of_getElem? (i := 103) rfl), rfl⟩
set_option maxRecDepth 100000 in
theorem m_230 : Cond.fieldLink R_Le 16 (T_Le 3).1 (T_Le 3).2.1 (T_Le 3).2.2.1 ∈ BIG := List.mem_filter.mpr ⟨List.mem_append_right _ (List.mem_of_getElem? (i := 164) rfl), rfl⟩
set_option maxRecDepth 100000 in
theorem m_231 : Cond.methodLink R_Le 74 y_Ta_leastBetterAmong ∈ BIG := List.mem_filter.mpr ⟨List.mem_append_right _ (List.mem_of_getElem? (i := 457) rfl), rfl⟩
set_option maxRecDepth 100000 in
theorem m_232 : Cond.code y_Ta_leastBetterAmong b_Ta_leastBetterAmong_c 8 (some .int) ∈ BIG := List.mem_filter.mpr ⟨List.mem_append_right _ (List.mem_of_getElem? (i := 460) rfl), rfl⟩
set_option maxRecDepth 100000 in
theorem m_233 : Cond.instanceMethod y_Ta_leastBetterAmong ∈ BIG := List.mem_filter.mpr ⟨List.mem_append_right _ (List.mem_of_getElem? (i := 458) rfl), rfl⟩
set_option maxRecDepth 100000 in
theorem m_234 : Cond.selects R_Ta y_Ta_leastBetterAmong y_Ta_leastBetterAmong ∈ BIG := List.mem_filter.mpr ⟨List.mem_append_right _ (List.mem_of_getElem? (i := 459) rfl), rfl⟩
set_option maxRecDepth 100000 in
theorem m_235 : Cond.constantLong R_Le 78 (-1) ∈ BIG := List.mem_filter.mpr ⟨List.mem_append_right _ (List.mem_of_getElem? (i := 471) rfl), rfl⟩
set_option maxRecDepth 100000 in
theorem m_236 : Cond.fieldLink R_Le 11 (T_Le 2).1 (T_Le 2).2.1 (T_Le 2).2.2.1 ∈ BIG := List.mem_filter.mpr ⟨List.mem_append_right _ (List.mem_of_getElem? (i := 163) rfl), rfl⟩
set_option maxRecDepth 100000 in
theorem m_237 : Cond.methodLink R_Le 62 y_Le_takeAway ∈ BIG := List.mem_filter.mpr ⟨List.mem_append_right _ (List.mem_of_getElem? (i := 467) rfl), rfl⟩
set_option maxRecDepth 100000 in
theorem m_238 : Cond.initialized R_Le ∈ BIG := List.mem_filter.mpr ⟨List.mem_append_right _ (List.mem_of_getElem? (i := 5) rfl), rfl⟩
set_option maxRecDepth 100000 in
theorem m_239 : Cond.code y_Le_takeAway b_Le_takeAway_c 6 none ∈ BIG := List.mem_filter.mpr ⟨List.mem_append_right _ (List.mem_of_getElem? (i := 470) rfl), rfl⟩
set_option maxRecDepth 100000 in
theorem m_240 : Cond.instanceMethod y_Le_takeAway ∈ BIG := List.mem_filter.mpr ⟨List.mem_append_right _ (List.mem_of_getElem? (i := 469) rfl), rfl⟩
set_option maxRecDepth 100000 in
theorem m_241 : Cond.selects R_Le y_Le_takeAway y_Le_takeAway ∈ BIG := List.mem_filter.mpr ⟨List.mem_append_left _ (List.mem_of_getElem? (i := 19) rfl), rfl⟩
set_option maxRecDepth 100000 in
theorem m_242 : Cond.methodLink R_Le 59 y_Le_thoseThatGo ∈ BIG := List.mem_filter.mpr ⟨List.mem_append_right _ (List.mem_of_getElem? (i := 451) rfl), rfl⟩
set_option maxRecDepth 100000 in
theorem m_243 : Cond.code y_Le_thoseThatGo b_Le_thoseThatGo_c 5 (some .long) ∈ BIG := List.mem_filter.mpr ⟨List.mem_append_right _ (List.mem_of_getElem? (i := 454) rfl), rfl⟩
set_option maxRecDepth 100000 in
theorem m_244 : Cond.instanceMethod y_Le_thoseThatGo ∈ BIG := List.mem_filter.mpr ⟨List.mem_append_right _ (List.mem_of_getElem? (i := 453) rfl), rfl⟩
set_option maxRecDepth 100000 in
theorem m_245 : Cond.selects R_Le y_Le_thoseThatGo y_Le_thoseThatGo ∈ BIG := List.mem_filter.mpr ⟨List.mem_append_left _ (List.mem_of_getElem? (i := 17) rfl), rfl⟩
set_option maxRecDepth 100000 in
theorem m_246 : Cond.methodLink R_Le 43 y_Ar_fillI ∈ BIG := List.mem_filter.mpr ⟨List.mem_append_right _ (List.mem_of_getElem? (i := 449) rfl), rfl⟩
set_option maxRecDepth 100000 in
theorem m_247 : Cond.fieldLink R_Le 20 (T_Le 4).1 (T_Le 4).2.1 (T_Le 4).2.2.1 ∈ BIG := List.mem_filter.mpr ⟨List.mem_append_right _ (List.mem_of_getElem? (i := 165) rfl), rfl⟩
set_option maxRecDepth 100000 in
theorem m_248 : Cond.fieldLink R_Le 24 (T_Le 0).1 (T_Le 0).2.1 (T_Le 0).2.2.1 ∈ BIG := List.mem_filter.mpr ⟨List.mem_append_right _ (List.mem_of_getElem? (i := 161) rfl), rfl⟩
set_option maxRecDepth 100000 in
theorem m_249 : Cond.fieldLink R_Le 38 (T_Fo 2).1 (T_Fo 2).2.1 (T_Fo 2).2.2.1 ∈ BIG := List.mem_filter.mpr ⟨List.mem_append_right _ (List.mem_of_getElem? (i := 33) rfl), rfl⟩
set_option maxRecDepth 100000 in
theorem m_250 : Cond.methodLink R_Le 32 y_Lo_bitCount ∈ BIG := List.mem_filter.mpr ⟨List.mem_append_right _ (List.mem_of_getElem? (i := 476) rfl), rfl⟩
set_option maxRecDepth 100000 in
theorem m_251 : Cond.methodLink R_Ga 127 y_Fo_depthOfTree ∈ BIG := List.mem_filter.mpr ⟨List.mem_append_right _ (List.mem_of_getElem? (i := 477) rfl), rfl⟩
set_option maxRecDepth 100000 in
theorem m_252 : Cond.code y_Fo_depthOfTree b_Fo_depthOfTree_c 1 (some .int) ∈ BIG := List.mem_filter.mpr ⟨List.mem_append_right _ (List.mem_of_getElem? (i := 480) rfl), rfl⟩
set_option maxRecDepth 100000 in
theorem m_253 : Cond.instanceMethod y_Fo_depthOfTree ∈ BIG := List.mem_filter.mpr ⟨List.mem_append_right _ (List.mem_of_getElem? (i := 478) rfl), rfl⟩
set_option maxRecDepth 100000 in
theorem m_254 : Cond.selects R_Fo y_Fo_depthOfTree y_Fo_depthOfTree ∈ BIG := List.mem_filter.mpr ⟨List.mem_append_right _ (List.mem_of_getElem? (i := 479) rfl), rfl⟩
set_option maxRecDepth 100000 in
theorem m_255 : Cond.fieldLink R_Ga 90 (T_Fo 1).1 (T_Fo 1).2.1 (T_Fo 1).2.2.1 ∈ BIG := List.mem_filter.mpr ⟨List.mem_append_right _ (List.mem_of_getElem? (i := 29) rfl), rfl⟩
set_option maxRecDepth 100000 in
theorem m_256 : Cond.methodLink R_Ga 93 y_Fo_nodesInTree ∈ BIG := List.mem_filter.mpr ⟨List.mem_append_right _ (List.mem_of_getElem? (i := 316) rfl), rfl⟩
set_option maxRecDepth 100000 in
theorem m_257 : Cond.methodLink R_Ga 97 y_Lo_bitCount ∈ BIG := List.mem_filter.mpr ⟨List.mem_append_right _ (List.mem_of_getElem? (i := 324) rfl), rfl⟩
set_option maxRecDepth 100000 in
theorem m_258 : Cond.methodLink R_Ga 103 y_Fo_plansOf ∈ BIG := List.mem_filter.mpr ⟨List.mem_append_right _ (List.mem_of_getElem? (i := 330) rfl), rfl⟩
set_option maxRecDepth 100000 in
theorem m_259 : Cond.fieldLink R_Ga 30 (T_Ga 2).1 (T_Ga 2).2.1 (T_Ga 2).2.2.1 ∈ BIG := List.mem_filter.mpr ⟨List.mem_append_right _ (List.mem_of_getElem? (i := 205) rfl), rfl⟩
set_option maxRecDepth 100000 in
theorem m_260 : Cond.methodLink R_Ga 107 y_Po_find ∈ BIG := List.mem_filter.mpr ⟨List.mem_append_right _ (List.mem_of_getElem? (i := 338) rfl), rfl⟩
set_option maxRecDepth 100000 in
theorem m_261 : Cond.code y_Po_find b_Po_find_c 6 none ∈ BIG := List.mem_filter.mpr ⟨List.mem_append_right _ (List.mem_of_getElem? (i := 341) rfl), rfl⟩
set_option maxRecDepth 100000 in
theorem m_262 : Cond.instanceMethod y_Po_find ∈ BIG := List.mem_filter.mpr ⟨List.mem_append_right _ (List.mem_of_getElem? (i := 339) rfl), rfl⟩
set_option maxRecDepth 100000 in
theorem m_263 : Cond.selects R_Po y_Po_find y_Po_find ∈ BIG := List.mem_filter.mpr ⟨List.mem_append_right _ (List.mem_of_getElem? (i := 340) rfl), rfl⟩
set_option maxRecDepth 100000 in
theorem m_264 : Cond.methodLink R_Ga 111 y_Po_howMany ∈ BIG := List.mem_filter.mpr ⟨List.mem_append_right _ (List.mem_of_getElem? (i := 433) rfl), rfl⟩
set_option maxRecDepth 100000 in
theorem m_265 : Cond.code y_Po_howMany b_Po_howMany_c 6 (some .int) ∈ BIG := List.mem_filter.mpr ⟨List.mem_append_right _ (List.mem_of_getElem? (i := 436) rfl), rfl⟩
set_option maxRecDepth 100000 in
theorem m_266 : Cond.instanceMethod y_Po_howMany ∈ BIG := List.mem_filter.mpr ⟨List.mem_append_right _ (List.mem_of_getElem? (i := 434) rfl), rfl⟩
set_option maxRecDepth 100000 in
theorem m_267 : Cond.selects R_Po y_Po_howMany y_Po_howMany ∈ BIG := List.mem_filter.mpr ⟨List.mem_append_right _ (List.mem_of_getElem? (i := 435) rfl), rfl⟩
set_option maxRecDepth 100000 in
theorem m_268 : Cond.methodLink R_Ga 115 y_Fo_gamesWithin ∈ BIG := List.mem_filter.mpr ⟨List.mem_append_right _ (List.mem_of_getElem? (i := 438) rfl), rfl⟩
set_option maxRecDepth 100000 in
theorem m_269 : Cond.fieldLink R_Ga 21 (T_Ga 1).1 (T_Ga 1).2.1 (T_Ga 1).2.2.1 ∈ BIG := List.mem_filter.mpr ⟨List.mem_append_right _ (List.mem_of_getElem? (i := 204) rfl), rfl⟩
set_option maxRecDepth 100000 in
theorem m_270 : Cond.methodLink R_Ga 118 y_Ta_fillWhole ∈ BIG := List.mem_filter.mpr ⟨List.mem_append_right _ (List.mem_of_getElem? (i := 439) rfl), rfl⟩
set_option maxRecDepth 100000 in
theorem m_271 : Cond.code y_Ta_fillWhole b_Ta_fillWhole_c 1 none ∈ BIG := List.mem_filter.mpr ⟨List.mem_append_right _ (List.mem_of_getElem? (i := 442) rfl), rfl⟩
set_option maxRecDepth 100000 in
theorem m_272 : Cond.instanceMethod y_Ta_fillWhole ∈ BIG := List.mem_filter.mpr ⟨List.mem_append_right _ (List.mem_of_getElem? (i := 440) rfl), rfl⟩
set_option maxRecDepth 100000 in
theorem m_273 : Cond.selects R_Ta y_Ta_fillWhole y_Ta_fillWhole ∈ BIG := List.mem_filter.mpr ⟨List.mem_append_right _ (List.mem_of_getElem? (i := 441) rfl), rfl⟩
set_option maxRecDepth 100000 in
theorem m_274 : Cond.fieldLink R_Ga 37 (T_Ga 3).1 (T_Ga 3).2.1 (T_Ga 3).2.2.1 ∈ BIG := List.mem_filter.mpr ⟨List.mem_append_right _ (List.mem_of_getElem? (i := 206) rfl), rfl⟩
set_option maxRecDepth 100000 in
theorem m_275 : Cond.methodLink R_Ga 121 y_Le_playAll ∈ BIG := List.mem_filter.mpr ⟨List.mem_append_right _ (List.mem_of_getElem? (i := 445) rfl), rfl⟩
set_option maxRecDepth 100000 in
theorem m_276 : Cond.code y_Le_playAll b_Le_playAll_c 6 none ∈ BIG := List.mem_filter.mpr ⟨List.mem_append_right _ (List.mem_of_getElem? (i := 448) rfl), rfl⟩
set_option maxRecDepth 100000 in
theorem m_277 : Cond.instanceMethod y_Le_playAll ∈ BIG := List.mem_filter.mpr ⟨List.mem_append_right _ (List.mem_of_getElem? (i := 446) rfl), rfl⟩
set_option maxRecDepth 100000 in
theorem m_278 : Cond.selects R_Le y_Le_playAll y_Le_playAll ∈ BIG := List.mem_filter.mpr ⟨List.mem_append_right _ (List.mem_of_getElem? (i := 447) rfl), rfl⟩
set_option maxRecDepth 100000 in
theorem m_279 : Cond.methodLink R_Ga 124 y_Le_pairsLeft ∈ BIG := List.mem_filter.mpr ⟨List.mem_append_right _ (List.mem_of_getElem? (i := 472) rfl), rfl⟩
set_option maxRecDepth 100000 in
theorem m_280 : Cond.code y_Le_pairsLeft b_Le_pairsLeft_c 1 (some .int) ∈ BIG := List.mem_filter.mpr ⟨List.mem_append_right _ (List.mem_of_getElem? (i := 475) rfl), rfl⟩
set_option maxRecDepth 100000 in
theorem m_281 : Cond.instanceMethod y_Le_pairsLeft ∈ BIG := List.mem_filter.mpr ⟨List.mem_append_right _ (List.mem_of_getElem? (i := 473) rfl), rfl⟩
set_option maxRecDepth 100000 in
theorem m_282 : Cond.selects R_Le y_Le_pairsLeft y_Le_pairsLeft ∈ BIG := List.mem_filter.mpr ⟨List.mem_append_right _ (List.mem_of_getElem? (i := 474) rfl), rfl⟩
set_option maxRecDepth 100000 in
theorem m_283 : Cond.methodLink R_Ga 81 y_Ga_isEmpty ∈ BIG := List.mem_filter.mpr ⟨List.mem_append_right _ (List.mem_of_getElem? (i := 311) rfl), rfl⟩
set_option maxRecDepth 100000 in
theorem m_284 : Cond.code y_Ga_isEmpty b_Ga_isEmpty_c 1 (some .boolean) ∈ BIG := List.mem_filter.mpr ⟨List.mem_append_right _ (List.mem_of_getElem? (i := 314) rfl), rfl⟩
set_option maxRecDepth 100000 in
theorem m_285 : Cond.instanceMethod y_Ga_isEmpty ∈ BIG := List.mem_filter.mpr ⟨List.mem_append_right _ (List.mem_of_getElem? (i := 313) rfl), rfl⟩
set_option maxRecDepth 100000 in
theorem m_286 : Cond.selects R_Ga y_Ga_isEmpty y_Ga_isEmpty ∈ BIG := List.mem_filter.mpr ⟨List.mem_append_left _ (List.mem_of_getElem? (i := 7) rfl), rfl⟩
set_option maxRecDepth 100000 in
theorem m_287 : Cond.constant R_Ga 85 (-1000000) ∈ BIG := List.mem_filter.mpr ⟨List.mem_append_right _ (List.mem_of_getElem? (i := 315) rfl), rfl⟩
set_option maxRecDepth 100000 in
theorem m_288 : Cond.methodLink R_Ga 145 y_Fo_childAt ∈ BIG := List.mem_filter.mpr ⟨List.mem_append_right _ (List.mem_of_getElem? (i := 487) rfl), rfl⟩
set_option maxRecDepth 100000 in
theorem m_289 : Cond.methodLink R_Ga 136 y_Fo_worthAt ∈ BIG := List.mem_filter.mpr ⟨List.mem_append_right _ (List.mem_of_getElem? (i := 486) rfl), rfl⟩
set_option maxRecDepth 100000 in
theorem m_290 : Cond.fieldLink R_Ga 142 (T_Fo 5).1 (T_Fo 5).2.1 (T_Fo 5).2.2.1 ∈ BIG := List.mem_filter.mpr ⟨List.mem_append_right _ (List.mem_of_getElem? (i := 42) rfl), rfl⟩
set_option maxRecDepth 100000 in
theorem m_291 : Cond.fieldLink R_Ga 139 (T_Fo 4).1 (T_Fo 4).2.1 (T_Fo 4).2.2.1 ∈ BIG := List.mem_filter.mpr ⟨List.mem_append_right _ (List.mem_of_getElem? (i := 40) rfl), rfl⟩
set_option maxRecDepth 100000 in
theorem m_292 : Cond.fieldLink R_Ga 133 (T_Fo 3).1 (T_Fo 3).2.1 (T_Fo 3).2.2.1 ∈ BIG := List.mem_filter.mpr ⟨List.mem_append_right _ (List.mem_of_getElem? (i := 37) rfl), rfl⟩
set_option maxRecDepth 100000 in
theorem m_293 : Cond.methodLink R_Ga 130 y_Fo_hasNode ∈ BIG := List.mem_filter.mpr ⟨List.mem_append_right _ (List.mem_of_getElem? (i := 485) rfl), rfl⟩
set_option maxRecDepth 100000 in
theorem m_294 : Cond.methodLink R_Ga 148 y_Ga_isPlan ∈ BIG := List.mem_filter.mpr ⟨List.mem_append_right _ (List.mem_of_getElem? (i := 492) rfl), rfl⟩
set_option maxRecDepth 100000 in
theorem m_295 : Cond.code y_Ga_isPlan b_Ga_isPlan_c 3 (some .boolean) ∈ BIG := List.mem_filter.mpr ⟨List.mem_append_right _ (List.mem_of_getElem? (i := 495) rfl), rfl⟩
set_option maxRecDepth 100000 in
theorem m_296 : Cond.instanceMethod y_Ga_isPlan ∈ BIG := List.mem_filter.mpr ⟨List.mem_append_right _ (List.mem_of_getElem? (i := 494) rfl), rfl⟩
set_option maxRecDepth 100000 in
theorem m_297 : Cond.selects R_Ga y_Ga_isPlan y_Ga_isPlan ∈ BIG := List.mem_filter.mpr ⟨List.mem_append_left _ (List.mem_of_getElem? (i := 20) rfl), rfl⟩
set_option maxRecDepth 100000 in
theorem m_298 : Cond.methodLink R_Ga 152 y_Fo_actNamed ∈ BIG := List.mem_filter.mpr ⟨List.mem_append_right _ (List.mem_of_getElem? (i := 496) rfl), rfl⟩
set_option maxRecDepth 100000 in
theorem m_299 : Cond.code y_Fo_actNamed b_Fo_actNamed_c 6 (some .int) ∈ BIG := List.mem_filter.mpr ⟨List.mem_append_right _ (List.mem_of_getElem? (i := 499) rfl), rfl⟩
set_option maxRecDepth 100000 in
theorem m_300 : Cond.instanceMethod y_Fo_actNamed ∈ BIG := List.mem_filter.mpr ⟨List.mem_append_right _ (List.mem_of_getElem? (i := 497) rfl), rfl⟩
set_option maxRecDepth 100000 in
theorem m_301 : Cond.selects R_Fo y_Fo_actNamed y_Fo_actNamed ∈ BIG := List.mem_filter.mpr ⟨List.mem_append_right _ (List.mem_of_getElem? (i := 498) rfl), rfl⟩
set_option maxRecDepth 100000 in
theorem m_302 : Cond.methodLink R_Ga 156 y_Ta_valueOfPair ∈ BIG := List.mem_filter.mpr ⟨List.mem_append_right _ (List.mem_of_getElem? (i := 504) rfl), rfl⟩
set_option maxRecDepth 100000 in
theorem m_303 : Cond.code y_Ta_valueOfPair b_Ta_valueOfPair_c 4 (some .int) ∈ BIG := List.mem_filter.mpr ⟨List.mem_append_right _ (List.mem_of_getElem? (i := 507) rfl), rfl⟩
set_option maxRecDepth 100000 in
theorem m_304 : Cond.instanceMethod y_Ta_valueOfPair ∈ BIG := List.mem_filter.mpr ⟨List.mem_append_right _ (List.mem_of_getElem? (i := 505) rfl), rfl⟩
set_option maxRecDepth 100000 in
theorem m_305 : Cond.selects R_Ta y_Ta_valueOfPair y_Ta_valueOfPair ∈ BIG := List.mem_filter.mpr ⟨List.mem_append_right _ (List.mem_of_getElem? (i := 506) rfl), rfl⟩
set_option maxRecDepth 100000 in
theorem m_306 : Cond.methodLink R_Ga 159 y_Ga_otherThan ∈ BIG := List.mem_filter.mpr ⟨List.mem_append_right _ (List.mem_of_getElem? (i := 512) rfl), rfl⟩
set_option maxRecDepth 100000 in
theorem m_307 : Cond.methodLink R_Ga 162 y_Ta_bestAgainst ∈ BIG := List.mem_filter.mpr ⟨List.mem_append_right _ (List.mem_of_getElem? (i := 513) rfl), rfl⟩
set_option maxRecDepth 100000 in
theorem m_308 : Cond.methodLink R_Ga 206 y_Ga_hasBit ∈ BIG := List.mem_filter.mpr ⟨List.mem_append_right _ (List.mem_of_getElem? (i := 525) rfl), rfl⟩
set_option maxRecDepth 100000 in
theorem m_309 : Cond.code y_Ga_bitAt b_Ga_bitAt_c 5 (some .int) ∈ BIG := List.mem_filter.mpr ⟨List.mem_append_right _ (List.mem_of_getElem? (i := 524) rfl), rfl⟩
set_option maxRecDepth 100000 in
theorem m_310 : Cond.static y_Ga_bitAt ∈ BIG := List.mem_filter.mpr ⟨List.mem_append_right _ (List.mem_of_getElem? (i := 523) rfl), rfl⟩
set_option maxRecDepth 100000 in
theorem m_311 : Cond.methodLink R_Ga 165 y_Po_pointAt ∈ BIG := List.mem_filter.mpr ⟨List.mem_append_right _ (List.mem_of_getElem? (i := 518) rfl), rfl⟩
set_option maxRecDepth 100000 in
theorem m_312 : Cond.code y_Po_pointAt b_Po_pointAt_c 8 (some .int) ∈ BIG := List.mem_filter.mpr ⟨List.mem_append_right _ (List.mem_of_getElem? (i := 521) rfl), rfl⟩
set_option maxRecDepth 100000 in
theorem m_313 : Cond.instanceMethod y_Po_pointAt ∈ BIG := List.mem_filter.mpr ⟨List.mem_append_right _ (List.mem_of_getElem? (i := 519) rfl), rfl⟩
set_option maxRecDepth 100000 in
theorem m_314 : Cond.selects R_Po y_Po_pointAt y_Po_pointAt ∈ BIG := List.mem_filter.mpr ⟨List.mem_append_right _ (List.mem_of_getElem? (i := 520) rfl), rfl⟩
set_option maxRecDepth 100000 in
theorem m_315 : Cond.methodLink R_Ga 169 y_Ga_bitAt ∈ BIG := List.mem_filter.mpr ⟨List.mem_append_right _ (List.mem_of_getElem? (i := 530) rfl), rfl⟩
set_option maxRecDepth 100000 in
theorem m_316 : Cond.methodLink R_Ta 125 y_Ta_areOne ∈ BIG := List.mem_filter.mpr ⟨List.mem_append_right _ (List.mem_of_getElem? (i := 539) rfl), rfl⟩
set_option maxRecDepth 100000 in
theorem m_317 : Cond.code y_Ta_areOne b_Ta_areOne_c 7 (some .boolean) ∈ BIG := List.mem_filter.mpr ⟨List.mem_append_right _ (List.mem_of_getElem? (i := 542) rfl), rfl⟩
set_option maxRecDepth 100000 in
theorem m_318 : Cond.instanceMethod y_Ta_areOne ∈ BIG := List.mem_filter.mpr ⟨List.mem_append_right _ (List.mem_of_getElem? (i := 541) rfl), rfl⟩
set_option maxRecDepth 100000 in
theorem m_319 : Cond.selects R_Ta y_Ta_areOne y_Ta_areOne ∈ BIG := List.mem_filter.mpr ⟨List.mem_append_left _ (List.mem_of_getElem? (i := 21) rfl), rfl⟩
set_option maxRecDepth 100000 in
theorem m_320 : Cond.methodLink R_Ta 109 y_Ta_leastBetterAmong ∈ BIG := List.mem_filter.mpr ⟨List.mem_append_right _ (List.mem_of_getElem? (i := 548) rfl), rfl⟩
set_option maxRecDepth 100000 in
theorem m_321 : Cond.methodLink R_Ta 121 y_Ta_isWeaklyWorse ∈ BIG := List.mem_filter.mpr ⟨List.mem_append_right _ (List.mem_of_getElem? (i := 553) rfl), rfl⟩
set_option maxRecDepth 100000 in
theorem m_322 : Cond.code y_Ta_isWeaklyWorse b_Ta_isWeaklyWorse_c 8 (some .boolean) ∈ BIG := List.mem_filter.mpr ⟨List.mem_append_right _ (List.mem_of_getElem? (i := 556) rfl), rfl⟩
set_option maxRecDepth 100000 in
theorem m_323 : Cond.instanceMethod y_Ta_isWeaklyWorse ∈ BIG := List.mem_filter.mpr ⟨List.mem_append_right _ (List.mem_of_getElem? (i := 555) rfl), rfl⟩
set_option maxRecDepth 100000 in
theorem m_324 : Cond.selects R_Ta y_Ta_isWeaklyWorse y_Ta_isWeaklyWorse ∈ BIG := List.mem_filter.mpr ⟨List.mem_append_left _ (List.mem_of_getElem? (i := 22) rfl), rfl⟩
set_option maxRecDepth 100000 in
theorem m_325 : Cond.methodLink R_Ga 179 y_Ta_leastWeaklyBetter ∈ BIG := List.mem_filter.mpr ⟨List.mem_append_right _ (List.mem_of_getElem? (i := 549) rfl), rfl⟩
set_option maxRecDepth 100000 in
theorem m_326 : Cond.code y_Ta_leastWeaklyBetter b_Ta_leastWeaklyBetter_c 4 (some .int) ∈ BIG := List.mem_filter.mpr ⟨List.mem_append_right _ (List.mem_of_getElem? (i := 552) rfl), rfl⟩
set_option maxRecDepth 100000 in
theorem m_327 : Cond.instanceMethod y_Ta_leastWeaklyBetter ∈ BIG := List.mem_filter.mpr ⟨List.mem_append_right _ (List.mem_of_getElem? (i := 550) rfl), rfl⟩
set_option maxRecDepth 100000 in
theorem m_328 : Cond.selects R_Ta y_Ta_leastWeaklyBetter y_Ta_leastWeaklyBetter ∈ BIG := List.mem_filter.mpr ⟨List.mem_append_right _ (List.mem_of_getElem? (i := 551) rfl), rfl⟩
set_option maxRecDepth 100000 in
theorem m_329 : Cond.methodLink R_Ga 176 y_Ta_leastBetter ∈ BIG := List.mem_filter.mpr ⟨List.mem_append_right _ (List.mem_of_getElem? (i := 543) rfl), rfl⟩
set_option maxRecDepth 100000 in
theorem m_330 : Cond.code y_Ta_leastBetter b_Ta_leastBetter_c 3 (some .int) ∈ BIG := List.mem_filter.mpr ⟨List.mem_append_right _ (List.mem_of_getElem? (i := 546) rfl), rfl⟩
set_option maxRecDepth 100000 in
theorem m_331 : Cond.instanceMethod y_Ta_leastBetter ∈ BIG := List.mem_filter.mpr ⟨List.mem_append_right _ (List.mem_of_getElem? (i := 544) rfl), rfl⟩
set_option maxRecDepth 100000 in
theorem m_332 : Cond.selects R_Ta y_Ta_leastBetter y_Ta_leastBetter ∈ BIG := List.mem_filter.mpr ⟨List.mem_append_right _ (List.mem_of_getElem? (i := 545) rfl), rfl⟩
set_option maxRecDepth 100000 in
theorem m_333 : Cond.methodLink R_Ga 173 y_Ta_leastOneWith ∈ BIG := List.mem_filter.mpr ⟨List.mem_append_right _ (List.mem_of_getElem? (i := 535) rfl), rfl⟩
set_option maxRecDepth 100000 in
theorem m_334 : Cond.code y_Ta_leastOneWith b_Ta_leastOneWith_c 4 (some .int) ∈ BIG := List.mem_filter.mpr ⟨List.mem_append_right _ (List.mem_of_getElem? (i := 538) rfl), rfl⟩
set_option maxRecDepth 100000 in
theorem m_335 : Cond.instanceMethod y_Ta_leastOneWith ∈ BIG := List.mem_filter.mpr ⟨List.mem_append_right _ (List.mem_of_getElem? (i := 536) rfl), rfl⟩
set_option maxRecDepth 100000 in
theorem m_336 : Cond.selects R_Ta y_Ta_leastOneWith y_Ta_leastOneWith ∈ BIG := List.mem_filter.mpr ⟨List.mem_append_right _ (List.mem_of_getElem? (i := 537) rfl), rfl⟩
set_option maxRecDepth 100000 in
theorem m_337 : Cond.methodLink R_Ga 182 y_Le_roundOf ∈ BIG := List.mem_filter.mpr ⟨List.mem_append_right _ (List.mem_of_getElem? (i := 561) rfl), rfl⟩
set_option maxRecDepth 100000 in
theorem m_338 : Cond.code y_Le_roundOf b_Le_roundOf_c 3 (some .int) ∈ BIG := List.mem_filter.mpr ⟨List.mem_append_right _ (List.mem_of_getElem? (i := 564) rfl), rfl⟩
set_option maxRecDepth 100000 in
theorem m_339 : Cond.instanceMethod y_Le_roundOf ∈ BIG := List.mem_filter.mpr ⟨List.mem_append_right _ (List.mem_of_getElem? (i := 562) rfl), rfl⟩
set_option maxRecDepth 100000 in
theorem m_340 : Cond.selects R_Le y_Le_roundOf y_Le_roundOf ∈ BIG := List.mem_filter.mpr ⟨List.mem_append_right _ (List.mem_of_getElem? (i := 563) rfl), rfl⟩
set_option maxRecDepth 100000 in
theorem m_341 : Cond.methodLink R_Ta 102 y_Ma_min ∈ BIG := List.mem_filter.mpr ⟨List.mem_append_right _ (List.mem_of_getElem? (i := 577) rfl), rfl⟩
set_option maxRecDepth 100000 in
theorem m_342 : Cond.code y_Ma_min b_Ma_min_c 2 (some .int) ∈ BIG := List.mem_filter.mpr ⟨List.mem_append_right _ (List.mem_of_getElem? (i := 579) rfl), rfl⟩
set_option maxRecDepth 100000 in
theorem m_343 : Cond.static y_Ma_min ∈ BIG := List.mem_filter.mpr ⟨List.mem_append_right _ (List.mem_of_getElem? (i := 578) rfl), rfl⟩
set_option maxRecDepth 100000 in
theorem m_344 : Cond.methodLink R_Ta 90 y_Ta_leastOf ∈ BIG := List.mem_filter.mpr ⟨List.mem_append_right _ (List.mem_of_getElem? (i := 573) rfl), rfl⟩
set_option maxRecDepth 100000 in
theorem m_345 : Cond.code y_Ta_leastOf b_Ta_leastOf_c 5 (some .int) ∈ BIG := List.mem_filter.mpr ⟨List.mem_append_right _ (List.mem_of_getElem? (i := 576) rfl), rfl⟩
set_option maxRecDepth 100000 in
theorem m_346 : Cond.instanceMethod y_Ta_leastOf ∈ BIG := List.mem_filter.mpr ⟨List.mem_append_right _ (List.mem_of_getElem? (i := 575) rfl), rfl⟩
set_option maxRecDepth 100000 in
theorem m_347 : Cond.selects R_Ta y_Ta_leastOf y_Ta_leastOf ∈ BIG := List.mem_filter.mpr ⟨List.mem_append_left _ (List.mem_of_getElem? (i := 23) rfl), rfl⟩
set_option maxRecDepth 100000 in
theorem m_348 : Cond.methodLink R_Ta 93 y_Ma_max ∈ BIG := List.mem_filter.mpr ⟨List.mem_append_right _ (List.mem_of_getElem? (i := 580) rfl), rfl⟩
set_option maxRecDepth 100000 in
theorem m_349 : Cond.methodLink R_Ga 185 y_Ta_sureOf ∈ BIG := List.mem_filter.mpr ⟨List.mem_append_right _ (List.mem_of_getElem? (i := 569) rfl), rfl⟩
set_option maxRecDepth 100000 in
theorem m_350 : Cond.code y_Ta_sureOf b_Ta_sureOf_c 4 (some .int) ∈ BIG := List.mem_filter.mpr ⟨List.mem_append_right _ (List.mem_of_getElem? (i := 572) rfl), rfl⟩
set_option maxRecDepth 100000 in
theorem m_351 : Cond.instanceMethod y_Ta_sureOf ∈ BIG := List.mem_filter.mpr ⟨List.mem_append_right _ (List.mem_of_getElem? (i := 570) rfl), rfl⟩
set_option maxRecDepth 100000 in
theorem m_352 : Cond.selects R_Ta y_Ta_sureOf y_Ta_sureOf ∈ BIG := List.mem_filter.mpr ⟨List.mem_append_right _ (List.mem_of_getElem? (i := 571) rfl), rfl⟩
set_option maxRecDepth 100000 in
theorem m_353 : Cond.methodLink R_Fo 136 y_Fo_childAt ∈ BIG := List.mem_filter.mpr ⟨List.mem_append_right _ (List.mem_of_getElem? (i := 602) rfl), rfl⟩
set_option maxRecDepth 100000 in
theorem m_354 : Cond.constantLong R_Fo 131 31 ∈ BIG := List.mem_filter.mpr ⟨List.mem_append_right _ (List.mem_of_getElem? (i := 597) rfl), rfl⟩
set_option maxRecDepth 100000 in
theorem m_355 : Cond.methodLink R_Fo 133 y_Fo_actTo ∈ BIG := List.mem_filter.mpr ⟨List.mem_append_right _ (List.mem_of_getElem? (i := 598) rfl), rfl⟩
set_option maxRecDepth 100000 in
theorem m_356 : Cond.code y_Fo_actTo b_Fo_actTo_c 5 (some .int) ∈ BIG := List.mem_filter.mpr ⟨List.mem_append_right _ (List.mem_of_getElem? (i := 601) rfl), rfl⟩
set_option maxRecDepth 100000 in
theorem m_357 : Cond.instanceMethod y_Fo_actTo ∈ BIG := List.mem_filter.mpr ⟨List.mem_append_right _ (List.mem_of_getElem? (i := 600) rfl), rfl⟩
set_option maxRecDepth 100000 in
theorem m_358 : Cond.selects R_Fo y_Fo_actTo y_Fo_actTo ∈ BIG := List.mem_filter.mpr ⟨List.mem_append_left _ (List.mem_of_getElem? (i := 26) rfl), rfl⟩
set_option maxRecDepth 100000 in
theorem m_359 : Cond.methodLink R_Fo 127 y_Fo_wayTo ∈ BIG := List.mem_filter.mpr ⟨List.mem_append_right _ (List.mem_of_getElem? (i := 593) rfl), rfl⟩
set_option maxRecDepth 100000 in
theorem m_360 : Cond.code y_Fo_wayTo b_Fo_wayTo_c 9 (some .long) ∈ BIG := List.mem_filter.mpr ⟨List.mem_append_right _ (List.mem_of_getElem? (i := 596) rfl), rfl⟩
set_option maxRecDepth 100000 in
theorem m_361 : Cond.instanceMethod y_Fo_wayTo ∈ BIG := List.mem_filter.mpr ⟨List.mem_append_right _ (List.mem_of_getElem? (i := 595) rfl), rfl⟩
set_option maxRecDepth 100000 in
theorem m_362 : Cond.selects R_Fo y_Fo_wayTo y_Fo_wayTo ∈ BIG := List.mem_filter.mpr ⟨List.mem_append_left _ (List.mem_of_getElem? (i := 25) rfl), rfl⟩
set_option maxRecDepth 100000 in
theorem m_363 : Cond.methodLink R_Fo 123 y_Fo_areWaysAlike ∈ BIG := List.mem_filter.mpr ⟨List.mem_append_right _ (List.mem_of_getElem? (i := 589) rfl), rfl⟩
set_option maxRecDepth 100000 in
theorem m_364 : Cond.code y_Fo_areWaysAlike b_Fo_areWaysAlike_c 10 (some .boolean) ∈ BIG := List.mem_filter.mpr ⟨List.mem_append_right _ (List.mem_of_getElem? (i := 592) rfl), rfl⟩
set_option maxRecDepth 100000 in
theorem m_365 : Cond.instanceMethod y_Fo_areWaysAlike ∈ BIG := List.mem_filter.mpr ⟨List.mem_append_right _ (List.mem_of_getElem? (i := 591) rfl), rfl⟩
set_option maxRecDepth 100000 in
theorem m_366 : Cond.selects R_Fo y_Fo_areWaysAlike y_Fo_areWaysAlike ∈ BIG := List.mem_filter.mpr ⟨List.mem_append_left _ (List.mem_of_getElem? (i := 24) rfl), rfl⟩
set_option maxRecDepth 100000 in
theorem m_367 : Cond.methodLink R_Ga 188 y_Fo_remembersAll ∈ BIG := List.mem_filter.mpr ⟨List.mem_append_right _ (List.mem_of_getElem? (i := 585) rfl), rfl⟩
set_option maxRecDepth 100000 in
theorem m_368 : Cond.code y_Fo_remembersAll b_Fo_remembersAll_c 3 (some .boolean) ∈ BIG := List.mem_filter.mpr ⟨List.mem_append_right _ (List.mem_of_getElem? (i := 588) rfl), rfl⟩
set_option maxRecDepth 100000 in
theorem m_369 : Cond.instanceMethod y_Fo_remembersAll ∈ BIG := List.mem_filter.mpr ⟨List.mem_append_right _ (List.mem_of_getElem? (i := 586) rfl), rfl⟩
set_option maxRecDepth 100000 in
theorem m_370 : Cond.selects R_Fo y_Fo_remembersAll y_Fo_remembersAll ∈ BIG := List.mem_filter.mpr ⟨List.mem_append_right _ (List.mem_of_getElem? (i := 587) rfl), rfl⟩
set_option maxRecDepth 100000 in
theorem m_371 : Cond.fieldLink R_An 30 (T_An 1).1 (T_An 1).2.1 (T_An 1).2.2.1 ∈ BIG := List.mem_filter.mpr ⟨List.mem_append_right _ (List.mem_of_getElem? (i := 185) rfl), rfl⟩
set_option maxRecDepth 100000 in
theorem m_372 : Cond.fieldLink R_An 38 (T_Ta 0).1 (T_Ta 0).2.1 (T_Ta 0).2.2.1 ∈ BIG := List.mem_filter.mpr ⟨List.mem_append_right _ (List.mem_of_getElem? (i := 102) rfl), rfl⟩
set_option maxRecDepth 100000 in
theorem m_373 : Cond.fieldLink R_An 16 (T_An 3).1 (T_An 3).2.1 (T_An 3).2.2.1 ∈ BIG := List.mem_filter.mpr ⟨List.mem_append_right _ (List.mem_of_getElem? (i := 187) rfl), rfl⟩
set_option maxRecDepth 100000 in
theorem m_374 : Cond.methodLink R_An 78 y_Ta_value ∈ BIG := List.mem_filter.mpr ⟨List.mem_append_right _ (List.mem_of_getElem? (i := 620) rfl), rfl⟩
set_option maxRecDepth 100000 in
theorem m_375 : Cond.fieldLink R_An 19 (T_An 4).1 (T_An 4).2.1 (T_An 4).2.2.1 ∈ BIG := List.mem_filter.mpr ⟨List.mem_append_right _ (List.mem_of_getElem? (i := 188) rfl), rfl⟩
set_option maxRecDepth 100000 in
theorem m_376 : Cond.methodLink R_An 52 y_Ma_max ∈ BIG := List.mem_filter.mpr ⟨List.mem_append_right _ (List.mem_of_getElem? (i := 621) rfl), rfl⟩
set_option maxRecDepth 100000 in
theorem m_377 : Cond.fieldLink R_An 11 (T_An 2).1 (T_An 2).2.1 (T_An 2).2.2.1 ∈ BIG := List.mem_filter.mpr ⟨List.mem_append_right _ (List.mem_of_getElem? (i := 186) rfl), rfl⟩
set_option maxRecDepth 100000 in
theorem m_378 : Cond.methodLink R_An 70 y_An_leastOfGreatest ∈ BIG := List.mem_filter.mpr ⟨List.mem_append_right _ (List.mem_of_getElem? (i := 612) rfl), rfl⟩
set_option maxRecDepth 100000 in
theorem m_379 : Cond.initialized R_An ∈ BIG := List.mem_filter.mpr ⟨List.mem_append_right _ (List.mem_of_getElem? (i := 6) rfl), rfl⟩
set_option maxRecDepth 100000 in
theorem m_380 : Cond.code y_An_leastOfGreatest b_An_leastOfGreatest_c 4 (some .int) ∈ BIG := List.mem_filter.mpr ⟨List.mem_append_right _ (List.mem_of_getElem? (i := 615) rfl), rfl⟩
set_option maxRecDepth 100000 in
theorem m_381 : Cond.instanceMethod y_An_leastOfGreatest ∈ BIG := List.mem_filter.mpr ⟨List.mem_append_right _ (List.mem_of_getElem? (i := 614) rfl), rfl⟩
set_option maxRecDepth 100000 in
theorem m_382 : Cond.selects R_An y_An_leastOfGreatest y_An_leastOfGreatest ∈ BIG := List.mem_filter.mpr ⟨List.mem_append_left _ (List.mem_of_getElem? (i := 27) rfl), rfl⟩
set_option maxRecDepth 100000 in
theorem m_383 : Cond.methodLink R_An 74 y_An_addUp ∈ BIG := List.mem_filter.mpr ⟨List.mem_append_right _ (List.mem_of_getElem? (i := 616) rfl), rfl⟩
set_option maxRecDepth 100000 in
theorem m_384 : Cond.code y_An_addUp b_An_addUp_c 4 none ∈ BIG := List.mem_filter.mpr ⟨List.mem_append_right _ (List.mem_of_getElem? (i := 619) rfl), rfl⟩
set_option maxRecDepth 100000 in
theorem m_385 : Cond.instanceMethod y_An_addUp ∈ BIG := List.mem_filter.mpr ⟨List.mem_append_right _ (List.mem_of_getElem? (i := 618) rfl), rfl⟩
set_option maxRecDepth 100000 in
theorem m_386 : Cond.selects R_An y_An_addUp y_An_addUp ∈ BIG := List.mem_filter.mpr ⟨List.mem_append_left _ (List.mem_of_getElem? (i := 28) rfl), rfl⟩
set_option maxRecDepth 100000 in
theorem m_387 : Cond.fieldLink R_An 23 (T_An 5).1 (T_An 5).2.1 (T_An 5).2.2.1 ∈ BIG := List.mem_filter.mpr ⟨List.mem_append_right _ (List.mem_of_getElem? (i := 189) rfl), rfl⟩
set_option maxRecDepth 100000 in
theorem m_388 : Cond.fieldLink R_An 26 (T_An 0).1 (T_An 0).2.1 (T_An 0).2.2.1 ∈ BIG := List.mem_filter.mpr ⟨List.mem_append_right _ (List.mem_of_getElem? (i := 184) rfl), rfl⟩
set_option maxRecDepth 100000 in
theorem m_389 : Cond.fieldLink R_An 59 (T_Fo 2).1 (T_Fo 2).2.1 (T_Fo 2).2.2.1 ∈ BIG := List.mem_filter.mpr ⟨List.mem_append_right _ (List.mem_of_getElem? (i := 34) rfl), rfl⟩
set_option maxRecDepth 100000 in
theorem m_390 : Cond.methodLink R_An 64 y_Ar_fillI ∈ BIG := List.mem_filter.mpr ⟨List.mem_append_right _ (List.mem_of_getElem? (i := 611) rfl), rfl⟩
set_option maxRecDepth 100000 in
theorem m_391 : Cond.fieldLink R_Ga 44 (T_Ga 4).1 (T_Ga 4).2.1 (T_Ga 4).2.2.1 ∈ BIG := List.mem_filter.mpr ⟨List.mem_append_right _ (List.mem_of_getElem? (i := 207) rfl), rfl⟩
set_option maxRecDepth 100000 in
theorem m_392 : Cond.methodLink R_Ga 191 y_An_playTo ∈ BIG := List.mem_filter.mpr ⟨List.mem_append_right _ (List.mem_of_getElem? (i := 607) rfl), rfl⟩
set_option maxRecDepth 100000 in
theorem m_393 : Cond.code y_An_playTo b_An_playTo_c 3 none ∈ BIG := List.mem_filter.mpr ⟨List.mem_append_right _ (List.mem_of_getElem? (i := 610) rfl), rfl⟩
set_option maxRecDepth 100000 in
theorem m_394 : Cond.instanceMethod y_An_playTo ∈ BIG := List.mem_filter.mpr ⟨List.mem_append_right _ (List.mem_of_getElem? (i := 608) rfl), rfl⟩
set_option maxRecDepth 100000 in
theorem m_395 : Cond.selects R_An y_An_playTo y_An_playTo ∈ BIG := List.mem_filter.mpr ⟨List.mem_append_right _ (List.mem_of_getElem? (i := 609) rfl), rfl⟩
set_option maxRecDepth 100000 in
theorem m_396 : Cond.methodLink R_Ga 195 y_An_timesTaken ∈ BIG := List.mem_filter.mpr ⟨List.mem_append_right _ (List.mem_of_getElem? (i := 622) rfl), rfl⟩
set_option maxRecDepth 100000 in
theorem m_397 : Cond.code y_An_timesTaken b_An_timesTaken_c 6 (some .int) ∈ BIG := List.mem_filter.mpr ⟨List.mem_append_right _ (List.mem_of_getElem? (i := 625) rfl), rfl⟩
set_option maxRecDepth 100000 in
theorem m_398 : Cond.instanceMethod y_An_timesTaken ∈ BIG := List.mem_filter.mpr ⟨List.mem_append_right _ (List.mem_of_getElem? (i := 623) rfl), rfl⟩
set_option maxRecDepth 100000 in
theorem m_399 : Cond.selects R_An y_An_timesTaken y_An_timesTaken ∈ BIG := List.mem_filter.mpr ⟨List.mem_append_right _ (List.mem_of_getElem? (i := 624) rfl), rfl⟩
set_option maxRecDepth 100000 in
theorem m_400 : Cond.methodLink R_An 55 y_Ta_valueOfPair ∈ BIG := List.mem_filter.mpr ⟨List.mem_append_right _ (List.mem_of_getElem? (i := 638) rfl), rfl⟩
set_option maxRecDepth 100000 in
theorem m_401 : Cond.methodLink R_An 34 y_An_sumAgainst ∈ BIG := List.mem_filter.mpr ⟨List.mem_append_right _ (List.mem_of_getElem? (i := 634) rfl), rfl⟩
set_option maxRecDepth 100000 in
theorem m_402 : Cond.code y_An_sumAgainst b_An_sumAgainst_c 5 (some .int) ∈ BIG := List.mem_filter.mpr ⟨List.mem_append_right _ (List.mem_of_getElem? (i := 637) rfl), rfl⟩
set_option maxRecDepth 100000 in
theorem m_403 : Cond.instanceMethod y_An_sumAgainst ∈ BIG := List.mem_filter.mpr ⟨List.mem_append_right _ (List.mem_of_getElem? (i := 636) rfl), rfl⟩
set_option maxRecDepth 100000 in
theorem m_404 : Cond.selects R_An y_An_sumAgainst y_An_sumAgainst ∈ BIG := List.mem_filter.mpr ⟨List.mem_append_left _ (List.mem_of_getElem? (i := 29) rfl), rfl⟩
set_option maxRecDepth 100000 in
theorem m_405 : Cond.methodLink R_An 44 y_Ma_min ∈ BIG := List.mem_filter.mpr ⟨List.mem_append_right _ (List.mem_of_getElem? (i := 639) rfl), rfl⟩
set_option maxRecDepth 100000 in
theorem m_406 : Cond.methodLink R_An 49 y_An_sumFor ∈ BIG := List.mem_filter.mpr ⟨List.mem_append_right _ (List.mem_of_getElem? (i := 644) rfl), rfl⟩
set_option maxRecDepth 100000 in
theorem m_407 : Cond.code y_An_sumFor b_An_sumFor_c 5 (some .int) ∈ BIG := List.mem_filter.mpr ⟨List.mem_append_right _ (List.mem_of_getElem? (i := 647) rfl), rfl⟩
set_option maxRecDepth 100000 in
theorem m_408 : Cond.instanceMethod y_An_sumFor ∈ BIG := List.mem_filter.mpr ⟨List.mem_append_right _ (List.mem_of_getElem? (i := 646) rfl), rfl⟩
set_option maxRecDepth 100000 in
theorem m_409 : Cond.selects R_An y_An_sumFor y_An_sumFor ∈ BIG := List.mem_filter.mpr ⟨List.mem_append_left _ (List.mem_of_getElem? (i := 30) rfl), rfl⟩
set_option maxRecDepth 100000 in
theorem m_410 : Cond.methodLink R_Ga 201 y_An_highBehind ∈ BIG := List.mem_filter.mpr ⟨List.mem_append_right _ (List.mem_of_getElem? (i := 640) rfl), rfl⟩
set_option maxRecDepth 100000 in
theorem m_411 : Cond.code y_An_highBehind b_An_highBehind_c 4 (some .int) ∈ BIG := List.mem_filter.mpr ⟨List.mem_append_right _ (List.mem_of_getElem? (i := 643) rfl), rfl⟩
set_option maxRecDepth 100000 in
theorem m_412 : Cond.instanceMethod y_An_highBehind ∈ BIG := List.mem_filter.mpr ⟨List.mem_append_right _ (List.mem_of_getElem? (i := 641) rfl), rfl⟩
set_option maxRecDepth 100000 in
theorem m_413 : Cond.selects R_An y_An_highBehind y_An_highBehind ∈ BIG := List.mem_filter.mpr ⟨List.mem_append_right _ (List.mem_of_getElem? (i := 642) rfl), rfl⟩
set_option maxRecDepth 100000 in
theorem m_414 : Cond.methodLink R_Ga 198 y_An_lowBehind ∈ BIG := List.mem_filter.mpr ⟨List.mem_append_right _ (List.mem_of_getElem? (i := 630) rfl), rfl⟩
set_option maxRecDepth 100000 in
theorem m_415 : Cond.code y_An_lowBehind b_An_lowBehind_c 4 (some .int) ∈ BIG := List.mem_filter.mpr ⟨List.mem_append_right _ (List.mem_of_getElem? (i := 633) rfl), rfl⟩
set_option maxRecDepth 100000 in
theorem m_416 : Cond.instanceMethod y_An_lowBehind ∈ BIG := List.mem_filter.mpr ⟨List.mem_append_right _ (List.mem_of_getElem? (i := 631) rfl), rfl⟩
set_option maxRecDepth 100000 in
theorem m_417 : Cond.selects R_An y_An_lowBehind y_An_lowBehind ∈ BIG := List.mem_filter.mpr ⟨List.mem_append_right _ (List.mem_of_getElem? (i := 632) rfl), rfl⟩
set_option maxRecDepth 100000 in
theorem m_418 : Cond.fieldLink R_Mo 71 (T_Mo 0).1 (T_Mo 0).2.1 (T_Mo 0).2.2.1 ∈ BIG := List.mem_filter.mpr ⟨List.mem_append_right _ (List.mem_of_getElem? (i := 654) rfl), rfl⟩
set_option maxRecDepth 100000 in
theorem m_419 : Cond.fieldLink R_Mo 75 (T_Mo 1).1 (T_Mo 1).2.1 (T_Mo 1).2.2.1 ∈ BIG := List.mem_filter.mpr ⟨List.mem_append_right _ (List.mem_of_getElem? (i := 655) rfl), rfl⟩
set_option maxRecDepth 100000 in
theorem m_420 : Cond.methodLink R_Mo 78 y_Mo_isFrom ∈ BIG := List.mem_filter.mpr ⟨List.mem_append_right _ (List.mem_of_getElem? (i := 742) rfl), rfl⟩
set_option maxRecDepth 100000 in
theorem m_421 : Cond.initialized R_Mo ∈ BIG := List.mem_filter.mpr ⟨List.mem_append_right _ (List.mem_of_getElem? (i := 7) rfl), rfl⟩
set_option maxRecDepth 100000 in
theorem m_422 : Cond.code y_Mo_isFrom b_Mo_isFrom_c 3 (some .boolean) ∈ BIG := List.mem_filter.mpr ⟨List.mem_append_right _ (List.mem_of_getElem? (i := 744) rfl), rfl⟩
set_option maxRecDepth 100000 in
theorem m_423 : Cond.static y_Mo_isFrom ∈ BIG := List.mem_filter.mpr ⟨List.mem_append_right _ (List.mem_of_getElem? (i := 743) rfl), rfl⟩
set_option maxRecDepth 100000 in
theorem m_424 : Cond.fieldLink R_Mo 31 (T_Mo 9).1 (T_Mo 9).2.1 (T_Mo 9).2.2.1 ∈ BIG := List.mem_filter.mpr ⟨List.mem_append_right _ (List.mem_of_getElem? (i := 663) rfl), rfl⟩
set_option maxRecDepth 100000 in
theorem m_425 : Cond.fieldLink R_Mo 34 (T_Mo 10).1 (T_Mo 10).2.1 (T_Mo 10).2.2.1 ∈ BIG := List.mem_filter.mpr ⟨List.mem_append_right _ (List.mem_of_getElem? (i := 664) rfl), rfl⟩
set_option maxRecDepth 100000 in
theorem m_426 : Cond.fieldLink R_Mo 19 (T_Mo 5).1 (T_Mo 5).2.1 (T_Mo 5).2.2.1 ∈ BIG := List.mem_filter.mpr ⟨List.mem_append_right _ (List.mem_of_getElem? (i := 659) rfl), rfl⟩
set_option maxRecDepth 100000 in
theorem m_427 : Cond.fieldLink R_Mo 7 (T_Mo 2).1 (T_Mo 2).2.1 (T_Mo 2).2.2.1 ∈ BIG := List.mem_filter.mpr ⟨List.mem_append_right _ (List.mem_of_getElem? (i := 656) rfl), rfl⟩
set_option maxRecDepth 100000 in
theorem m_428 : Cond.fieldLink R_Mo 13 (T_Mo 3).1 (T_Mo 3).2.1 (T_Mo 3).2.2.1 ∈ BIG := List.mem_filter.mpr ⟨List.mem_append_right _ (List.mem_of_getElem? (i := 657) rfl), rfl⟩
set_option maxRecDepth 100000 in
theorem m_429 : Cond.fieldLink R_Mo 16 (T_Mo 4).1 (T_Mo 4).2.1 (T_Mo 4).2.2.1 ∈ BIG := List.mem_filter.mpr ⟨List.mem_append_right _ (List.mem_of_getElem? (i := 658) rfl), rfl⟩
set_option maxRecDepth 100000 in
theorem m_430 : Cond.fieldLink R_Mo 22 (T_Mo 6).1 (T_Mo 6).2.1 (T_Mo 6).2.2.1 ∈ BIG := List.mem_filter.mpr ⟨List.mem_append_right _ (List.mem_of_getElem? (i := 660) rfl), rfl⟩
set_option maxRecDepth 100000 in
theorem m_431 : Cond.fieldLink R_Mo 25 (T_Mo 7).1 (T_Mo 7).2.1 (T_Mo 7).2.2.1 ∈ BIG := List.mem_filter.mpr ⟨List.mem_append_right _ (List.mem_of_getElem? (i := 661) rfl), rfl⟩
set_option maxRecDepth 100000 in
theorem m_432 : Cond.fieldLink R_Mo 28 (T_Mo 8).1 (T_Mo 8).2.1 (T_Mo 8).2.2.1 ∈ BIG := List.mem_filter.mpr ⟨List.mem_append_right _ (List.mem_of_getElem? (i := 662) rfl), rfl⟩
set_option maxRecDepth 100000 in
theorem m_433 : Cond.methodLink R_Mo 82 y_Mo_make ∈ BIG := List.mem_filter.mpr ⟨List.mem_append_right _ (List.mem_of_getElem? (i := 749) rfl), rfl⟩
set_option maxRecDepth 100000 in
theorem m_434 : Cond.code y_Mo_make b_Mo_make_c 3 (some .int) ∈ BIG := List.mem_filter.mpr ⟨List.mem_append_right _ (List.mem_of_getElem? (i := 752) rfl), rfl⟩
set_option maxRecDepth 100000 in
theorem m_435 : Cond.instanceMethod y_Mo_make ∈ BIG := List.mem_filter.mpr ⟨List.mem_append_right _ (List.mem_of_getElem? (i := 751) rfl), rfl⟩
set_option maxRecDepth 100000 in
theorem m_436 : Cond.selects R_Mo y_Mo_make y_Mo_make ∈ BIG := List.mem_filter.mpr ⟨List.mem_append_left _ (List.mem_of_getElem? (i := 31) rfl), rfl⟩
set_option maxRecDepth 100000 in
theorem m_437 : Cond.methodLink R_Mo 86 y_Mo_third ∈ BIG := List.mem_filter.mpr ⟨List.mem_append_right _ (List.mem_of_getElem? (i := 765) rfl), rfl⟩
set_option maxRecDepth 100000 in
theorem m_438 : Cond.code y_Mo_third b_Mo_third_c 4 (some .int) ∈ BIG := List.mem_filter.mpr ⟨List.mem_append_right _ (List.mem_of_getElem? (i := 767) rfl), rfl⟩
set_option maxRecDepth 100000 in
theorem m_439 : Cond.static y_Mo_third ∈ BIG := List.mem_filter.mpr ⟨List.mem_append_right _ (List.mem_of_getElem? (i := 766) rfl), rfl⟩
set_option maxRecDepth 100000 in
theorem m_440 : Cond.fieldLink R_Mo 37 (T_Mo 11).1 (T_Mo 11).2.1 (T_Mo 11).2.2.1 ∈ BIG := List.mem_filter.mpr ⟨List.mem_append_right _ (List.mem_of_getElem? (i := 665) rfl), rfl⟩
set_option maxRecDepth 100000 in
theorem m_441 : Cond.fieldLink R_Mo 41 (T_Mo 12).1 (T_Mo 12).2.1 (T_Mo 12).2.2.1 ∈ BIG := List.mem_filter.mpr ⟨List.mem_append_right _ (List.mem_of_getElem? (i := 666) rfl), rfl⟩
set_option maxRecDepth 100000 in
theorem m_442 : Cond.methodLink R_Mo 110 y_Mo_findTree ∈ BIG := List.mem_filter.mpr ⟨List.mem_append_right _ (List.mem_of_getElem? (i := 776) rfl), rfl⟩
set_option maxRecDepth 100000 in
theorem m_443 : Cond.code y_Mo_findTree b_Mo_findTree_c 2 none ∈ BIG := List.mem_filter.mpr ⟨List.mem_append_right _ (List.mem_of_getElem? (i := 779) rfl), rfl⟩
set_option maxRecDepth 100000 in
theorem m_444 : Cond.instanceMethod y_Mo_findTree ∈ BIG := List.mem_filter.mpr ⟨List.mem_append_right _ (List.mem_of_getElem? (i := 778) rfl), rfl⟩
set_option maxRecDepth 100000 in
theorem m_445 : Cond.selects R_Mo y_Mo_findTree y_Mo_findTree ∈ BIG := List.mem_filter.mpr ⟨List.mem_append_left _ (List.mem_of_getElem? (i := 36) rfl), rfl⟩
set_option maxRecDepth 100000 in
theorem m_446 : Cond.methodLink R_Mo 113 y_Mo_plansOf ∈ BIG := List.mem_filter.mpr ⟨List.mem_append_right _ (List.mem_of_getElem? (i := 780) rfl), rfl⟩
set_option maxRecDepth 100000 in
theorem m_447 : Cond.code y_Mo_plansOf b_Mo_plansOf_c 4 (some .int) ∈ BIG := List.mem_filter.mpr ⟨List.mem_append_right _ (List.mem_of_getElem? (i := 783) rfl), rfl⟩
set_option maxRecDepth 100000 in
theorem m_448 : Cond.instanceMethod y_Mo_plansOf ∈ BIG := List.mem_filter.mpr ⟨List.mem_append_right _ (List.mem_of_getElem? (i := 782) rfl), rfl⟩
set_option maxRecDepth 100000 in
theorem m_449 : Cond.selects R_Mo y_Mo_plansOf y_Mo_plansOf ∈ BIG := List.mem_filter.mpr ⟨List.mem_append_left _ (List.mem_of_getElem? (i := 37) rfl), rfl⟩
set_option maxRecDepth 100000 in
theorem m_450 : Cond.methodLink R_Mo 94 y_Mo_bar ∈ BIG := List.mem_filter.mpr ⟨List.mem_append_right _ (List.mem_of_getElem? (i := 761) rfl), rfl⟩
set_option maxRecDepth 100000 in
theorem m_451 : Cond.code y_Mo_bar b_Mo_bar_c 11 (some .int) ∈ BIG := List.mem_filter.mpr ⟨List.mem_append_right _ (List.mem_of_getElem? (i := 764) rfl), rfl⟩
set_option maxRecDepth 100000 in
theorem m_452 : Cond.instanceMethod y_Mo_bar ∈ BIG := List.mem_filter.mpr ⟨List.mem_append_right _ (List.mem_of_getElem? (i := 763) rfl), rfl⟩
set_option maxRecDepth 100000 in
theorem m_453 : Cond.selects R_Mo y_Mo_bar y_Mo_bar ∈ BIG := List.mem_filter.mpr ⟨List.mem_append_left _ (List.mem_of_getElem? (i := 33) rfl), rfl⟩
set_option maxRecDepth 100000 in
theorem m_454 : Cond.methodLink R_Mo 98 y_Mo_adopt ∈ BIG := List.mem_filter.mpr ⟨List.mem_append_right _ (List.mem_of_getElem? (i := 768) rfl), rfl⟩
set_option maxRecDepth 100000 in
theorem m_455 : Cond.code y_Mo_adopt b_Mo_adopt_c 9 none ∈ BIG := List.mem_filter.mpr ⟨List.mem_append_right _ (List.mem_of_getElem? (i := 771) rfl), rfl⟩
set_option maxRecDepth 100000 in
theorem m_456 : Cond.instanceMethod y_Mo_adopt ∈ BIG := List.mem_filter.mpr ⟨List.mem_append_right _ (List.mem_of_getElem? (i := 770) rfl), rfl⟩
set_option maxRecDepth 100000 in
theorem m_457 : Cond.selects R_Mo y_Mo_adopt y_Mo_adopt ∈ BIG := List.mem_filter.mpr ⟨List.mem_append_left _ (List.mem_of_getElem? (i := 34) rfl), rfl⟩
set_option maxRecDepth 100000 in
theorem m_458 : Cond.methodLink R_Mo 102 y_Mo_tooMany ∈ BIG := List.mem_filter.mpr ⟨List.mem_append_right _ (List.mem_of_getElem? (i := 772) rfl), rfl⟩
set_option maxRecDepth 100000 in
theorem m_459 : Cond.code y_Mo_tooMany b_Mo_tooMany_c 1 (some .boolean) ∈ BIG := List.mem_filter.mpr ⟨List.mem_append_right _ (List.mem_of_getElem? (i := 775) rfl), rfl⟩
set_option maxRecDepth 100000 in
theorem m_460 : Cond.instanceMethod y_Mo_tooMany ∈ BIG := List.mem_filter.mpr ⟨List.mem_append_right _ (List.mem_of_getElem? (i := 774) rfl), rfl⟩
set_option maxRecDepth 100000 in
theorem m_461 : Cond.selects R_Mo y_Mo_tooMany y_Mo_tooMany ∈ BIG := List.mem_filter.mpr ⟨List.mem_append_left _ (List.mem_of_getElem? (i := 35) rfl), rfl⟩
set_option maxRecDepth 100000 in
theorem m_462 : Cond.methodLink R_Mo 106 y_Mo_undo ∈ BIG := List.mem_filter.mpr ⟨List.mem_append_right _ (List.mem_of_getElem? (i := 784) rfl), rfl⟩
set_option maxRecDepth 100000 in
theorem m_463 : Cond.code y_Mo_undo b_Mo_undo_c 6 none ∈ BIG := List.mem_filter.mpr ⟨List.mem_append_right _ (List.mem_of_getElem? (i := 787) rfl), rfl⟩
set_option maxRecDepth 100000 in
theorem m_464 : Cond.instanceMethod y_Mo_undo ∈ BIG := List.mem_filter.mpr ⟨List.mem_append_right _ (List.mem_of_getElem? (i := 786) rfl), rfl⟩
set_option maxRecDepth 100000 in
theorem m_465 : Cond.selects R_Mo y_Mo_undo y_Mo_undo ∈ BIG := List.mem_filter.mpr ⟨List.mem_append_left _ (List.mem_of_getElem? (i := 38) rfl), rfl⟩
set_option maxRecDepth 100000 in
theorem m_466 : Cond.methodLink R_Mo 90 y_Mo_isNode ∈ BIG := List.mem_filter.mpr ⟨List.mem_append_right _ (List.mem_of_getElem? (i := 757) rfl), rfl⟩
set_option maxRecDepth 100000 in
theorem m_467 : Cond.code y_Mo_isNode b_Mo_isNode_c 2 (some .boolean) ∈ BIG := List.mem_filter.mpr ⟨List.mem_append_right _ (List.mem_of_getElem? (i := 760) rfl), rfl⟩
set_option maxRecDepth 100000 in
theorem m_468 : Cond.instanceMethod y_Mo_isNode ∈ BIG := List.mem_filter.mpr ⟨List.mem_append_right _ (List.mem_of_getElem? (i := 759) rfl), rfl⟩
set_option maxRecDepth 100000 in
theorem m_469 : Cond.selects R_Mo y_Mo_isNode y_Mo_isNode ∈ BIG := List.mem_filter.mpr ⟨List.mem_append_left _ (List.mem_of_getElem? (i := 32) rfl), rfl⟩
set_option maxRecDepth 100000 in
theorem m_470 : Cond.fieldLink R_Mo 44 (T_Mo 13).1 (T_Mo 13).2.1 (T_Mo 13).2.2.1 ∈ BIG := List.mem_filter.mpr ⟨List.mem_append_right _ (List.mem_of_getElem? (i := 667) rfl), rfl⟩
set_option maxRecDepth 100000 in
theorem m_471 : Cond.fieldLink R_Mo 50 (T_Mo 15).1 (T_Mo 15).2.1 (T_Mo 15).2.2.1 ∈ BIG := List.mem_filter.mpr ⟨List.mem_append_right _ (List.mem_of_getElem? (i := 669) rfl), rfl⟩
set_option maxRecDepth 100000 in
theorem m_472 : Cond.methodLink R_Mo 120 y_Mo_mean ∈ BIG := List.mem_filter.mpr ⟨List.mem_append_right _ (List.mem_of_getElem? (i := 813) rfl), rfl⟩
set_option maxRecDepth 100000 in
theorem m_473 : Cond.code y_Mo_mean b_Mo_mean_c 6 (some .int) ∈ BIG := List.mem_filter.mpr ⟨List.mem_append_right _ (List.mem_of_getElem? (i := 816) rfl), rfl⟩
set_option maxRecDepth 100000 in
theorem m_474 : Cond.instanceMethod y_Mo_mean ∈ BIG := List.mem_filter.mpr ⟨List.mem_append_right _ (List.mem_of_getElem? (i := 815) rfl), rfl⟩
set_option maxRecDepth 100000 in
theorem m_475 : Cond.selects R_Mo y_Mo_mean y_Mo_mean ∈ BIG := List.mem_filter.mpr ⟨List.mem_append_left _ (List.mem_of_getElem? (i := 43) rfl), rfl⟩
set_option maxRecDepth 100000 in
theorem m_476 : Cond.fieldLink R_Mo 47 (T_Mo 14).1 (T_Mo 14).2.1 (T_Mo 14).2.2.1 ∈ BIG := List.mem_filter.mpr ⟨List.mem_append_right _ (List.mem_of_getElem? (i := 668) rfl), rfl⟩
set_option maxRecDepth 100000 in
theorem m_477 : Cond.methodLink R_Mo 116 y_Mo_actOf ∈ BIG := List.mem_filter.mpr ⟨List.mem_append_right _ (List.mem_of_getElem? (i := 809) rfl), rfl⟩
set_option maxRecDepth 100000 in
theorem m_478 : Cond.code y_Mo_actOf b_Mo_actOf_c 6 (some .int) ∈ BIG := List.mem_filter.mpr ⟨List.mem_append_right _ (List.mem_of_getElem? (i := 812) rfl), rfl⟩
set_option maxRecDepth 100000 in
theorem m_479 : Cond.instanceMethod y_Mo_actOf ∈ BIG := List.mem_filter.mpr ⟨List.mem_append_right _ (List.mem_of_getElem? (i := 811) rfl), rfl⟩
set_option maxRecDepth 100000 in
theorem m_480 : Cond.selects R_Mo y_Mo_actOf y_Mo_actOf ∈ BIG := List.mem_filter.mpr ⟨List.mem_append_left _ (List.mem_of_getElem? (i := 42) rfl), rfl⟩
set_option maxRecDepth 100000 in
theorem m_481 : Cond.fieldLink R_Mo 127 (T_Mo 17).1 (T_Mo 17).2.1 (T_Mo 17).2.2.1 ∈ BIG := List.mem_filter.mpr ⟨List.mem_append_right _ (List.mem_of_getElem? (i := 671) rfl), rfl⟩
set_option maxRecDepth 100000 in
theorem m_482 : Cond.methodLink R_Mo 130 y_Mo_work ∈ BIG := List.mem_filter.mpr ⟨List.mem_append_right _ (List.mem_of_getElem? (i := 805) rfl), rfl⟩
set_option maxRecDepth 100000 in
theorem m_483 : Cond.code y_Mo_work b_Mo_work_c 6 none ∈ BIG := List.mem_filter.mpr ⟨List.mem_append_right _ (List.mem_of_getElem? (i := 808) rfl), rfl⟩
set_option maxRecDepth 100000 in
theorem m_484 : Cond.instanceMethod y_Mo_work ∈ BIG := List.mem_filter.mpr ⟨List.mem_append_right _ (List.mem_of_getElem? (i := 807) rfl), rfl⟩
set_option maxRecDepth 100000 in
theorem m_485 : Cond.selects R_Mo y_Mo_work y_Mo_work ∈ BIG := List.mem_filter.mpr ⟨List.mem_append_left _ (List.mem_of_getElem? (i := 41) rfl), rfl⟩
set_option maxRecDepth 100000 in
theorem m_486 : Cond.fieldLink R_Mo 124 (T_Mo 16).1 (T_Mo 16).2.1 (T_Mo 16).2.2.1 ∈ BIG := List.mem_filter.mpr ⟨List.mem_append_right _ (List.mem_of_getElem? (i := 670) rfl), rfl⟩
set_option maxRecDepth 100000 in
theorem m_487 : Cond.methodLink R_Mo 143 y_Mo_worthTo ∈ BIG := List.mem_filter.mpr ⟨List.mem_append_right _ (List.mem_of_getElem? (i := 817) rfl), rfl⟩
set_option maxRecDepth 100000 in
theorem m_488 : Cond.code y_Mo_worthTo b_Mo_worthTo_c 4 (some .int) ∈ BIG := List.mem_filter.mpr ⟨List.mem_append_right _ (List.mem_of_getElem? (i := 820) rfl), rfl⟩
set_option maxRecDepth 100000 in
theorem m_489 : Cond.instanceMethod y_Mo_worthTo ∈ BIG := List.mem_filter.mpr ⟨List.mem_append_right _ (List.mem_of_getElem? (i := 819) rfl), rfl⟩
set_option maxRecDepth 100000 in
theorem m_490 : Cond.selects R_Mo y_Mo_worthTo y_Mo_worthTo ∈ BIG := List.mem_filter.mpr ⟨List.mem_append_left _ (List.mem_of_getElem? (i := 44) rfl), rfl⟩
set_option maxRecDepth 100000 in
theorem m_491 : Cond.constant R_Mo 134 (-1000000) ∈ BIG := List.mem_filter.mpr ⟨List.mem_append_right _ (List.mem_of_getElem? (i := 796) rfl), rfl⟩
set_option maxRecDepth 100000 in
theorem m_492 : Cond.methodLink R_Mo 135 y_Mo_root ∈ BIG := List.mem_filter.mpr ⟨List.mem_append_right _ (List.mem_of_getElem? (i := 797) rfl), rfl⟩
set_option maxRecDepth 100000 in
theorem m_493 : Cond.code y_Mo_root b_Mo_root_c 1 (some .int) ∈ BIG := List.mem_filter.mpr ⟨List.mem_append_right _ (List.mem_of_getElem? (i := 800) rfl), rfl⟩
set_option maxRecDepth 100000 in
theorem m_494 : Cond.instanceMethod y_Mo_root ∈ BIG := List.mem_filter.mpr ⟨List.mem_append_right _ (List.mem_of_getElem? (i := 799) rfl), rfl⟩
set_option maxRecDepth 100000 in
theorem m_495 : Cond.selects R_Mo y_Mo_root y_Mo_root ∈ BIG := List.mem_filter.mpr ⟨List.mem_append_left _ (List.mem_of_getElem? (i := 39) rfl), rfl⟩
set_option maxRecDepth 100000 in
theorem m_496 : Cond.methodLink R_Mo 139 y_Mo_workAll ∈ BIG := List.mem_filter.mpr ⟨List.mem_append_right _ (List.mem_of_getElem? (i := 801) rfl), rfl⟩
set_option maxRecDepth 100000 in
theorem m_497 : Cond.code y_Mo_workAll b_Mo_workAll_c 4 none ∈ BIG := List.mem_filter.mpr ⟨List.mem_append_right _ (List.mem_of_getElem? (i := 804) rfl), rfl⟩
set_option maxRecDepth 100000 in
theorem m_498 : Cond.instanceMethod y_Mo_workAll ∈ BIG := List.mem_filter.mpr ⟨List.mem_append_right _ (List.mem_of_getElem? (i := 803) rfl), rfl⟩
set_option maxRecDepth 100000 in
theorem m_499 : Cond.selects R_Mo y_Mo_workAll y_Mo_workAll ∈ BIG := List.mem_filter.mpr ⟨List.mem_append_left _ (List.mem_of_getElem? (i := 40) rfl), rfl⟩
set_option maxRecDepth 100000 in
theorem m_500 : Cond.methodLink R_Mo 146 y_Mo_many ∈ BIG := List.mem_filter.mpr ⟨List.mem_append_right _ (List.mem_of_getElem? (i := 829) rfl), rfl⟩
set_option maxRecDepth 100000 in
theorem m_501 : Cond.code y_Mo_many b_Mo_many_c 2 (some .int) ∈ BIG := List.mem_filter.mpr ⟨List.mem_append_right _ (List.mem_of_getElem? (i := 832) rfl), rfl⟩
set_option maxRecDepth 100000 in
theorem m_502 : Cond.instanceMethod y_Mo_many ∈ BIG := List.mem_filter.mpr ⟨List.mem_append_right _ (List.mem_of_getElem? (i := 831) rfl), rfl⟩
set_option maxRecDepth 100000 in
theorem m_503 : Cond.selects R_Mo y_Mo_many y_Mo_many ∈ BIG := List.mem_filter.mpr ⟨List.mem_append_left _ (List.mem_of_getElem? (i := 45) rfl), rfl⟩
set_option maxRecDepth 100000 in
theorem m_504 : Cond.methodLink R_Mo 149 y_Mo_answerOf ∈ BIG := List.mem_filter.mpr ⟨List.mem_append_right _ (List.mem_of_getElem? (i := 833) rfl), rfl⟩
set_option maxRecDepth 100000 in
theorem m_505 : Cond.code y_Mo_answerOf b_Mo_answerOf_c 5 (some .int) ∈ BIG := List.mem_filter.mpr ⟨List.mem_append_right _ (List.mem_of_getElem? (i := 836) rfl), rfl⟩
set_option maxRecDepth 100000 in
theorem m_506 : Cond.instanceMethod y_Mo_answerOf ∈ BIG := List.mem_filter.mpr ⟨List.mem_append_right _ (List.mem_of_getElem? (i := 835) rfl), rfl⟩
set_option maxRecDepth 100000 in
theorem m_507 : Cond.selects R_Mo y_Mo_answerOf y_Mo_answerOf ∈ BIG := List.mem_filter.mpr ⟨List.mem_append_left _ (List.mem_of_getElem? (i := 46) rfl), rfl⟩
set_option maxRecDepth 100000 in
theorem m_508 : Cond.fieldLink R_Mo 53 (T_Mo 18).1 (T_Mo 18).2.1 (T_Mo 18).2.2.1 ∈ BIG := List.mem_filter.mpr ⟨List.mem_append_right _ (List.mem_of_getElem? (i := 672) rfl), rfl⟩
set_option maxRecDepth 100000 in
theorem m_509 : Cond.methodLink R_Mo 152 y_Mo_isBelow ∈ BIG := List.mem_filter.mpr ⟨List.mem_append_right _ (List.mem_of_getElem? (i := 857) rfl), rfl⟩
set_option maxRecDepth 100000 in
theorem m_510 : Cond.code y_Mo_isBelow b_Mo_isBelow_c 4 (some .boolean) ∈ BIG := List.mem_filter.mpr ⟨List.mem_append_right _ (List.mem_of_getElem? (i := 860) rfl), rfl⟩
set_option maxRecDepth 100000 in
theorem m_511 : Cond.instanceMethod y_Mo_isBelow ∈ BIG := List.mem_filter.mpr ⟨List.mem_append_right _ (List.mem_of_getElem? (i := 859) rfl), rfl⟩
set_option maxRecDepth 100000 in
theorem m_512 : Cond.selects R_Mo y_Mo_isBelow y_Mo_isBelow ∈ BIG := List.mem_filter.mpr ⟨List.mem_append_left _ (List.mem_of_getElem? (i := 51) rfl), rfl⟩
set_option maxRecDepth 100000 in
theorem m_513 : Cond.methodLink R_Mo 159 y_Mo_isGame ∈ BIG := List.mem_filter.mpr ⟨List.mem_append_right _ (List.mem_of_getElem? (i := 853) rfl), rfl⟩
set_option maxRecDepth 100000 in
theorem m_514 : Cond.code y_Mo_isGame b_Mo_isGame_c 6 (some .boolean) ∈ BIG := List.mem_filter.mpr ⟨List.mem_append_right _ (List.mem_of_getElem? (i := 856) rfl), rfl⟩
set_option maxRecDepth 100000 in
theorem m_515 : Cond.instanceMethod y_Mo_isGame ∈ BIG := List.mem_filter.mpr ⟨List.mem_append_right _ (List.mem_of_getElem? (i := 855) rfl), rfl⟩
set_option maxRecDepth 100000 in
theorem m_516 : Cond.selects R_Mo y_Mo_isGame y_Mo_isGame ∈ BIG := List.mem_filter.mpr ⟨List.mem_append_left _ (List.mem_of_getElem? (i := 50) rfl), rfl⟩
set_option maxRecDepth 100000 in
theorem m_517 : Cond.methodLink R_Mo 156 y_Mo_sift ∈ BIG := List.mem_filter.mpr ⟨List.mem_append_right _ (List.mem_of_getElem? (i := 849) rfl), rfl⟩
set_option maxRecDepth 100000 in
theorem m_518 : Cond.code y_Mo_sift b_Mo_sift_c 4 none ∈ BIG := List.mem_filter.mpr ⟨List.mem_append_right _ (List.mem_of_getElem? (i := 852) rfl), rfl⟩
set_option maxRecDepth 100000 in
theorem m_519 : Cond.instanceMethod y_Mo_sift ∈ BIG := List.mem_filter.mpr ⟨List.mem_append_right _ (List.mem_of_getElem? (i := 851) rfl), rfl⟩
set_option maxRecDepth 100000 in
theorem m_520 : Cond.selects R_Mo y_Mo_sift y_Mo_sift ∈ BIG := List.mem_filter.mpr ⟨List.mem_append_left _ (List.mem_of_getElem? (i := 49) rfl), rfl⟩
set_option maxRecDepth 100000 in
theorem m_521 : Cond.fieldLink R_Mo 166 (T_Mo 19).1 (T_Mo 19).2.1 (T_Mo 19).2.2.1 ∈ BIG := List.mem_filter.mpr ⟨List.mem_append_right _ (List.mem_of_getElem? (i := 673) rfl), rfl⟩
set_option maxRecDepth 100000 in
theorem m_522 : Cond.methodLink R_Mo 162 y_Mo_findPoints ∈ BIG := List.mem_filter.mpr ⟨List.mem_append_right _ (List.mem_of_getElem? (i := 845) rfl), rfl⟩
set_option maxRecDepth 100000 in
theorem m_523 : Cond.code y_Mo_findPoints b_Mo_findPoints_c 3 none ∈ BIG := List.mem_filter.mpr ⟨List.mem_append_right _ (List.mem_of_getElem? (i := 848) rfl), rfl⟩
set_option maxRecDepth 100000 in
theorem m_524 : Cond.instanceMethod y_Mo_findPoints ∈ BIG := List.mem_filter.mpr ⟨List.mem_append_right _ (List.mem_of_getElem? (i := 847) rfl), rfl⟩
set_option maxRecDepth 100000 in
theorem m_525 : Cond.selects R_Mo y_Mo_findPoints y_Mo_findPoints ∈ BIG := List.mem_filter.mpr ⟨List.mem_append_left _ (List.mem_of_getElem? (i := 48) rfl), rfl⟩
set_option maxRecDepth 100000 in
theorem m_526 : Cond.methodLink R_Mo 169 y_Mo_countPoints ∈ BIG := List.mem_filter.mpr ⟨List.mem_append_right _ (List.mem_of_getElem? (i := 841) rfl), rfl⟩
set_option maxRecDepth 100000 in
theorem m_527 : Cond.code y_Mo_countPoints b_Mo_countPoints_c 6 (some .int) ∈ BIG := List.mem_filter.mpr ⟨List.mem_append_right _ (List.mem_of_getElem? (i := 844) rfl), rfl⟩
set_option maxRecDepth 100000 in
theorem m_528 : Cond.instanceMethod y_Mo_countPoints ∈ BIG := List.mem_filter.mpr ⟨List.mem_append_right _ (List.mem_of_getElem? (i := 843) rfl), rfl⟩
set_option maxRecDepth 100000 in
theorem m_529 : Cond.selects R_Mo y_Mo_countPoints y_Mo_countPoints ∈ BIG := List.mem_filter.mpr ⟨List.mem_append_left _ (List.mem_of_getElem? (i := 47) rfl), rfl⟩
set_option maxRecDepth 100000 in
theorem m_530 : Cond.fieldLink R_Mo 173 (T_Mo 20).1 (T_Mo 20).2.1 (T_Mo 20).2.2.1 ∈ BIG := List.mem_filter.mpr ⟨List.mem_append_right _ (List.mem_of_getElem? (i := 674) rfl), rfl⟩
set_option maxRecDepth 100000 in
theorem m_531 : Cond.methodLink R_Mo 176 y_Mo_games ∈ BIG := List.mem_filter.mpr ⟨List.mem_append_right _ (List.mem_of_getElem? (i := 865) rfl), rfl⟩
set_option maxRecDepth 100000 in
theorem m_532 : Cond.code y_Mo_games b_Mo_games_c 4 (some .int) ∈ BIG := List.mem_filter.mpr ⟨List.mem_append_right _ (List.mem_of_getElem? (i := 868) rfl), rfl⟩
set_option maxRecDepth 100000 in
theorem m_533 : Cond.instanceMethod y_Mo_games ∈ BIG := List.mem_filter.mpr ⟨List.mem_append_right _ (List.mem_of_getElem? (i := 867) rfl), rfl⟩
set_option maxRecDepth 100000 in
theorem m_534 : Cond.selects R_Mo y_Mo_games y_Mo_games ∈ BIG := List.mem_filter.mpr ⟨List.mem_append_left _ (List.mem_of_getElem? (i := 52) rfl), rfl⟩
set_option maxRecDepth 100000 in
theorem m_535 : Cond.fieldLink R_Mo 56 (T_Mo 21).1 (T_Mo 21).2.1 (T_Mo 21).2.2.1 ∈ BIG := List.mem_filter.mpr ⟨List.mem_append_right _ (List.mem_of_getElem? (i := 675) rfl), rfl⟩
set_option maxRecDepth 100000 in
theorem m_536 : Cond.fieldLink R_Mo 59 (T_Mo 22).1 (T_Mo 22).2.1 (T_Mo 22).2.2.1 ∈ BIG := List.mem_filter.mpr ⟨List.mem_append_right _ (List.mem_of_getElem? (i := 676) rfl), rfl⟩
set_option maxRecDepth 100000 in
theorem m_537 : Cond.methodLink R_Mo 179 y_Mo_isLeft ∈ BIG := List.mem_filter.mpr ⟨List.mem_append_right _ (List.mem_of_getElem? (i := 881) rfl), rfl⟩
set_option maxRecDepth 100000 in
theorem m_538 : Cond.code y_Mo_isLeft b_Mo_isLeft_c 3 (some .boolean) ∈ BIG := List.mem_filter.mpr ⟨List.mem_append_right _ (List.mem_of_getElem? (i := 884) rfl), rfl⟩
set_option maxRecDepth 100000 in
theorem m_539 : Cond.instanceMethod y_Mo_isLeft ∈ BIG := List.mem_filter.mpr ⟨List.mem_append_right _ (List.mem_of_getElem? (i := 883) rfl), rfl⟩
set_option maxRecDepth 100000 in
theorem m_540 : Cond.selects R_Mo y_Mo_isLeft y_Mo_isLeft ∈ BIG := List.mem_filter.mpr ⟨List.mem_append_left _ (List.mem_of_getElem? (i := 55) rfl), rfl⟩
set_option maxRecDepth 100000 in
theorem m_541 : Cond.methodLink R_Mo 191 y_Mo_isOne ∈ BIG := List.mem_filter.mpr ⟨List.mem_append_right _ (List.mem_of_getElem? (i := 889) rfl), rfl⟩
set_option maxRecDepth 100000 in
theorem m_542 : Cond.code y_Mo_isOne b_Mo_isOne_c 8 (some .boolean) ∈ BIG := List.mem_filter.mpr ⟨List.mem_append_right _ (List.mem_of_getElem? (i := 892) rfl), rfl⟩
set_option maxRecDepth 100000 in
theorem m_543 : Cond.instanceMethod y_Mo_isOne ∈ BIG := List.mem_filter.mpr ⟨List.mem_append_right _ (List.mem_of_getElem? (i := 891) rfl), rfl⟩
set_option maxRecDepth 100000 in
theorem m_544 : Cond.selects R_Mo y_Mo_isOne y_Mo_isOne ∈ BIG := List.mem_filter.mpr ⟨List.mem_append_left _ (List.mem_of_getElem? (i := 57) rfl), rfl⟩
set_option maxRecDepth 100000 in
theorem m_545 : Cond.methodLink R_Mo 188 y_Mo_isWeaker ∈ BIG := List.mem_filter.mpr ⟨List.mem_append_right _ (List.mem_of_getElem? (i := 885) rfl), rfl⟩
set_option maxRecDepth 100000 in
theorem m_546 : Cond.code y_Mo_isWeaker b_Mo_isWeaker_c 7 (some .boolean) ∈ BIG := List.mem_filter.mpr ⟨List.mem_append_right _ (List.mem_of_getElem? (i := 888) rfl), rfl⟩
set_option maxRecDepth 100000 in
theorem m_547 : Cond.instanceMethod y_Mo_isWeaker ∈ BIG := List.mem_filter.mpr ⟨List.mem_append_right _ (List.mem_of_getElem? (i := 887) rfl), rfl⟩
set_option maxRecDepth 100000 in
theorem m_548 : Cond.selects R_Mo y_Mo_isWeaker y_Mo_isWeaker ∈ BIG := List.mem_filter.mpr ⟨List.mem_append_left _ (List.mem_of_getElem? (i := 56) rfl), rfl⟩
set_option maxRecDepth 100000 in
theorem m_549 : Cond.methodLink R_Mo 185 y_Mo_isWorse ∈ BIG := List.mem_filter.mpr ⟨List.mem_append_right _ (List.mem_of_getElem? (i := 877) rfl), rfl⟩
set_option maxRecDepth 100000 in
theorem m_550 : Cond.code y_Mo_isWorse b_Mo_isWorse_c 6 (some .boolean) ∈ BIG := List.mem_filter.mpr ⟨List.mem_append_right _ (List.mem_of_getElem? (i := 880) rfl), rfl⟩
set_option maxRecDepth 100000 in
theorem m_551 : Cond.instanceMethod y_Mo_isWorse ∈ BIG := List.mem_filter.mpr ⟨List.mem_append_right _ (List.mem_of_getElem? (i := 879) rfl), rfl⟩
set_option maxRecDepth 100000 in
theorem m_552 : Cond.selects R_Mo y_Mo_isWorse y_Mo_isWorse ∈ BIG := List.mem_filter.mpr ⟨List.mem_append_left _ (List.mem_of_getElem? (i := 54) rfl), rfl⟩
set_option maxRecDepth 100000 in
theorem m_553 : Cond.methodLink R_Mo 182 y_Mo_allLeft ∈ BIG := List.mem_filter.mpr ⟨List.mem_append_right _ (List.mem_of_getElem? (i := 873) rfl), rfl⟩
set_option maxRecDepth 100000 in
theorem m_554 : Cond.code y_Mo_allLeft b_Mo_allLeft_c 2 none ∈ BIG := List.mem_filter.mpr ⟨List.mem_append_right _ (List.mem_of_getElem? (i := 876) rfl), rfl⟩
set_option maxRecDepth 100000 in
theorem m_555 : Cond.instanceMethod y_Mo_allLeft ∈ BIG := List.mem_filter.mpr ⟨List.mem_append_right _ (List.mem_of_getElem? (i := 875) rfl), rfl⟩
set_option maxRecDepth 100000 in
theorem m_556 : Cond.selects R_Mo y_Mo_allLeft y_Mo_allLeft ∈ BIG := List.mem_filter.mpr ⟨List.mem_append_left _ (List.mem_of_getElem? (i := 53) rfl), rfl⟩
set_option maxRecDepth 100000 in
theorem m_557 : Cond.fieldLink R_Mo 62 (T_Mo 23).1 (T_Mo 23).2.1 (T_Mo 23).2.2.1 ∈ BIG := List.mem_filter.mpr ⟨List.mem_append_right _ (List.mem_of_getElem? (i := 677) rfl), rfl⟩
set_option maxRecDepth 100000 in
theorem m_558 : Cond.methodLink R_Mo 194 y_Mo_isWorst ∈ BIG := List.mem_filter.mpr ⟨List.mem_append_right _ (List.mem_of_getElem? (i := 901) rfl), rfl⟩
set_option maxRecDepth 100000 in
theorem m_559 : Cond.code y_Mo_isWorst b_Mo_isWorst_c 5 (some .boolean) ∈ BIG := List.mem_filter.mpr ⟨List.mem_append_right _ (List.mem_of_getElem? (i := 904) rfl), rfl⟩
set_option maxRecDepth 100000 in
theorem m_560 : Cond.instanceMethod y_Mo_isWorst ∈ BIG := List.mem_filter.mpr ⟨List.mem_append_right _ (List.mem_of_getElem? (i := 903) rfl), rfl⟩
set_option maxRecDepth 100000 in
theorem m_561 : Cond.selects R_Mo y_Mo_isWorst y_Mo_isWorst ∈ BIG := List.mem_filter.mpr ⟨List.mem_append_left _ (List.mem_of_getElem? (i := 59) rfl), rfl⟩
set_option maxRecDepth 100000 in
theorem m_562 : Cond.methodLink R_Mo 197 y_Mo_leftOf ∈ BIG := List.mem_filter.mpr ⟨List.mem_append_right _ (List.mem_of_getElem? (i := 905) rfl), rfl⟩
set_option maxRecDepth 100000 in
theorem m_563 : Cond.code y_Mo_leftOf b_Mo_leftOf_c 4 (some .int) ∈ BIG := List.mem_filter.mpr ⟨List.mem_append_right _ (List.mem_of_getElem? (i := 908) rfl), rfl⟩
set_option maxRecDepth 100000 in
theorem m_564 : Cond.instanceMethod y_Mo_leftOf ∈ BIG := List.mem_filter.mpr ⟨List.mem_append_right _ (List.mem_of_getElem? (i := 907) rfl), rfl⟩
set_option maxRecDepth 100000 in
theorem m_565 : Cond.selects R_Mo y_Mo_leftOf y_Mo_leftOf ∈ BIG := List.mem_filter.mpr ⟨List.mem_append_left _ (List.mem_of_getElem? (i := 60) rfl), rfl⟩
set_option maxRecDepth 100000 in
theorem m_566 : Cond.methodLink R_Mo 200 y_Mo_doRounds ∈ BIG := List.mem_filter.mpr ⟨List.mem_append_right _ (List.mem_of_getElem? (i := 897) rfl), rfl⟩
set_option maxRecDepth 100000 in
theorem m_567 : Cond.code y_Mo_doRounds b_Mo_doRounds_c 4 (some .int) ∈ BIG := List.mem_filter.mpr ⟨List.mem_append_right _ (List.mem_of_getElem? (i := 900) rfl), rfl⟩
set_option maxRecDepth 100000 in
theorem m_568 : Cond.instanceMethod y_Mo_doRounds ∈ BIG := List.mem_filter.mpr ⟨List.mem_append_right _ (List.mem_of_getElem? (i := 899) rfl), rfl⟩
set_option maxRecDepth 100000 in
theorem m_569 : Cond.selects R_Mo y_Mo_doRounds y_Mo_doRounds ∈ BIG := List.mem_filter.mpr ⟨List.mem_append_left _ (List.mem_of_getElem? (i := 58) rfl), rfl⟩
set_option maxRecDepth 100000 in
theorem m_570 : Cond.constantLong R_Mo 203 40 ∈ BIG := List.mem_filter.mpr ⟨List.mem_append_right _ (List.mem_of_getElem? (i := 921) rfl), rfl⟩
set_option maxRecDepth 100000 in
theorem m_571 : Cond.constantLong R_Mo 205 4 ∈ BIG := List.mem_filter.mpr ⟨List.mem_append_right _ (List.mem_of_getElem? (i := 922) rfl), rfl⟩
set_option maxRecDepth 100000 in
theorem m_572 : Cond.methodLink R_Mo 207 y_Mo_memory ∈ BIG := List.mem_filter.mpr ⟨List.mem_append_right _ (List.mem_of_getElem? (i := 917) rfl), rfl⟩
set_option maxRecDepth 100000 in
theorem m_573 : Cond.code y_Mo_memory b_Mo_memory_c 8 (some .long) ∈ BIG := List.mem_filter.mpr ⟨List.mem_append_right _ (List.mem_of_getElem? (i := 920) rfl), rfl⟩
set_option maxRecDepth 100000 in
theorem m_574 : Cond.instanceMethod y_Mo_memory ∈ BIG := List.mem_filter.mpr ⟨List.mem_append_right _ (List.mem_of_getElem? (i := 919) rfl), rfl⟩
set_option maxRecDepth 100000 in
theorem m_575 : Cond.selects R_Mo y_Mo_memory y_Mo_memory ∈ BIG := List.mem_filter.mpr ⟨List.mem_append_left _ (List.mem_of_getElem? (i := 61) rfl), rfl⟩
set_option maxRecDepth 100000 in
theorem m_576 : Cond.fieldLink R_Mo 68 (T_Mo 25).1 (T_Mo 25).2.1 (T_Mo 25).2.2.1 ∈ BIG := List.mem_filter.mpr ⟨List.mem_append_right _ (List.mem_of_getElem? (i := 679) rfl), rfl⟩
set_option maxRecDepth 100000 in
theorem m_577 : Cond.fieldLink R_Mo 65 (T_Mo 24).1 (T_Mo 24).2.1 (T_Mo 24).2.2.1 ∈ BIG := List.mem_filter.mpr ⟨List.mem_append_right _ (List.mem_of_getElem? (i := 678) rfl), rfl⟩
set_option maxRecDepth 100000 in
theorem m_578 : Cond.methodLink R_Mo 211 y_Mo_bestOf ∈ BIG := List.mem_filter.mpr ⟨List.mem_append_right _ (List.mem_of_getElem? (i := 931) rfl), rfl⟩
set_option maxRecDepth 100000 in
theorem m_579 : Cond.code y_Mo_bestOf b_Mo_bestOf_c 4 (some .int) ∈ BIG := List.mem_filter.mpr ⟨List.mem_append_right _ (List.mem_of_getElem? (i := 934) rfl), rfl⟩
set_option maxRecDepth 100000 in
theorem m_580 : Cond.instanceMethod y_Mo_bestOf ∈ BIG := List.mem_filter.mpr ⟨List.mem_append_right _ (List.mem_of_getElem? (i := 933) rfl), rfl⟩
set_option maxRecDepth 100000 in
theorem m_581 : Cond.selects R_Mo y_Mo_bestOf y_Mo_bestOf ∈ BIG := List.mem_filter.mpr ⟨List.mem_append_left _ (List.mem_of_getElem? (i := 63) rfl), rfl⟩
set_option maxRecDepth 100000 in
theorem m_582 : Cond.methodLink R_Mo 214 y_Mo_take ∈ BIG := List.mem_filter.mpr ⟨List.mem_append_right _ (List.mem_of_getElem? (i := 935) rfl), rfl⟩
set_option maxRecDepth 100000 in
theorem m_583 : Cond.code y_Mo_take b_Mo_take_c 4 none ∈ BIG := List.mem_filter.mpr ⟨List.mem_append_right _ (List.mem_of_getElem? (i := 938) rfl), rfl⟩
set_option maxRecDepth 100000 in
theorem m_584 : Cond.instanceMethod y_Mo_take ∈ BIG := List.mem_filter.mpr ⟨List.mem_append_right _ (List.mem_of_getElem? (i := 937) rfl), rfl⟩
set_option maxRecDepth 100000 in
theorem m_585 : Cond.selects R_Mo y_Mo_take y_Mo_take ∈ BIG := List.mem_filter.mpr ⟨List.mem_append_left _ (List.mem_of_getElem? (i := 64) rfl), rfl⟩
set_option maxRecDepth 100000 in
theorem m_586 : Cond.methodLink R_Mo 218 y_Mo_answerAll ∈ BIG := List.mem_filter.mpr ⟨List.mem_append_right _ (List.mem_of_getElem? (i := 927) rfl), rfl⟩
set_option maxRecDepth 100000 in
theorem m_587 : Cond.code y_Mo_answerAll b_Mo_answerAll_c 5 none ∈ BIG := List.mem_filter.mpr ⟨List.mem_append_right _ (List.mem_of_getElem? (i := 930) rfl), rfl⟩
set_option maxRecDepth 100000 in
theorem m_588 : Cond.instanceMethod y_Mo_answerAll ∈ BIG := List.mem_filter.mpr ⟨List.mem_append_right _ (List.mem_of_getElem? (i := 929) rfl), rfl⟩
set_option maxRecDepth 100000 in
theorem m_589 : Cond.selects R_Mo y_Mo_answerAll y_Mo_answerAll ∈ BIG := List.mem_filter.mpr ⟨List.mem_append_left _ (List.mem_of_getElem? (i := 62) rfl), rfl⟩
set_option maxRecDepth 100000 in
theorem m_590 : Cond.methodLink R_La 62 y_Mo_point ∈ BIG := List.mem_filter.mpr ⟨List.mem_append_right _ (List.mem_of_getElem? (i := 837) rfl), rfl⟩
set_option maxRecDepth 100000 in
theorem m_591 : Cond.code y_Mo_point b_Mo_point_c 3 (some .int) ∈ BIG := List.mem_filter.mpr ⟨List.mem_append_right _ (List.mem_of_getElem? (i := 840) rfl), rfl⟩
set_option maxRecDepth 100000 in
theorem m_592 : Cond.instanceMethod y_Mo_point ∈ BIG := List.mem_filter.mpr ⟨List.mem_append_right _ (List.mem_of_getElem? (i := 838) rfl), rfl⟩
set_option maxRecDepth 100000 in
theorem m_593 : Cond.selects R_Mo y_Mo_point y_Mo_point ∈ BIG := List.mem_filter.mpr ⟨List.mem_append_right _ (List.mem_of_getElem? (i := 839) rfl), rfl⟩
set_option maxRecDepth 100000 in
theorem m_594 : Cond.methodLink R_La 58 y_Ga_point ∈ BIG := List.mem_filter.mpr ⟨List.mem_append_right _ (List.mem_of_getElem? (i := 514) rfl), rfl⟩
set_option maxRecDepth 100000 in
theorem m_595 : Cond.code y_Ga_point b_Ga_point_c 3 (some .int) ∈ BIG := List.mem_filter.mpr ⟨List.mem_append_right _ (List.mem_of_getElem? (i := 517) rfl), rfl⟩
set_option maxRecDepth 100000 in
theorem m_596 : Cond.instanceMethod y_Ga_point ∈ BIG := List.mem_filter.mpr ⟨List.mem_append_right _ (List.mem_of_getElem? (i := 515) rfl), rfl⟩
set_option maxRecDepth 100000 in
theorem m_597 : Cond.selects R_Ga y_Ga_point y_Ga_point ∈ BIG := List.mem_filter.mpr ⟨List.mem_append_right _ (List.mem_of_getElem? (i := 516) rfl), rfl⟩
set_option maxRecDepth 100000 in
theorem m_598 : Cond.methodLink R_La 13 y_Ga_clear ∈ BIG := List.mem_filter.mpr ⟨List.mem_append_right _ (List.mem_of_getElem? (i := 219) rfl), rfl⟩
set_option maxRecDepth 100000 in
theorem m_599 : Cond.code y_Ga_clear b_Ga_clear_c 1 (some .int) ∈ BIG := List.mem_filter.mpr ⟨List.mem_append_right _ (List.mem_of_getElem? (i := 222) rfl), rfl⟩
set_option maxRecDepth 100000 in
theorem m_600 : Cond.instanceMethod y_Ga_clear ∈ BIG := List.mem_filter.mpr ⟨List.mem_append_right _ (List.mem_of_getElem? (i := 220) rfl), rfl⟩
set_option maxRecDepth 100000 in
theorem m_601 : Cond.selects R_Ga y_Ga_clear y_Ga_clear ∈ BIG := List.mem_filter.mpr ⟨List.mem_append_right _ (List.mem_of_getElem? (i := 221) rfl), rfl⟩
set_option maxRecDepth 100000 in
theorem m_602 : Cond.methodLink R_La 17 y_Mo_clear ∈ BIG := List.mem_filter.mpr ⟨List.mem_append_right _ (List.mem_of_getElem? (i := 734) rfl), rfl⟩
set_option maxRecDepth 100000 in
theorem m_603 : Cond.code y_Mo_clear b_Mo_clear_c 2 (some .int) ∈ BIG := List.mem_filter.mpr ⟨List.mem_append_right _ (List.mem_of_getElem? (i := 737) rfl), rfl⟩
set_option maxRecDepth 100000 in
theorem m_604 : Cond.instanceMethod y_Mo_clear ∈ BIG := List.mem_filter.mpr ⟨List.mem_append_right _ (List.mem_of_getElem? (i := 735) rfl), rfl⟩
set_option maxRecDepth 100000 in
theorem m_605 : Cond.selects R_Mo y_Mo_clear y_Mo_clear ∈ BIG := List.mem_filter.mpr ⟨List.mem_append_right _ (List.mem_of_getElem? (i := 736) rfl), rfl⟩
set_option maxRecDepth 100000 in
theorem m_606 : Cond.methodLink R_La 18 y_Ga_set ∈ BIG := List.mem_filter.mpr ⟨List.mem_append_right _ (List.mem_of_getElem? (i := 227) rfl), rfl⟩
set_option maxRecDepth 100000 in
theorem m_607 : Cond.code y_Ga_set b_Ga_set_c 3 (some .int) ∈ BIG := List.mem_filter.mpr ⟨List.mem_append_right _ (List.mem_of_getElem? (i := 230) rfl), rfl⟩
set_option maxRecDepth 100000 in
theorem m_608 : Cond.instanceMethod y_Ga_set ∈ BIG := List.mem_filter.mpr ⟨List.mem_append_right _ (List.mem_of_getElem? (i := 228) rfl), rfl⟩
set_option maxRecDepth 100000 in
theorem m_609 : Cond.selects R_Ga y_Ga_set y_Ga_set ∈ BIG := List.mem_filter.mpr ⟨List.mem_append_right _ (List.mem_of_getElem? (i := 229) rfl), rfl⟩
set_option maxRecDepth 100000 in
theorem m_610 : Cond.methodLink R_La 22 y_Mo_set ∈ BIG := List.mem_filter.mpr ⟨List.mem_append_right _ (List.mem_of_getElem? (i := 738) rfl), rfl⟩
set_option maxRecDepth 100000 in
theorem m_611 : Cond.code y_Mo_set b_Mo_set_c 3 (some .int) ∈ BIG := List.mem_filter.mpr ⟨List.mem_append_right _ (List.mem_of_getElem? (i := 741) rfl), rfl⟩
set_option maxRecDepth 100000 in
theorem m_612 : Cond.instanceMethod y_Mo_set ∈ BIG := List.mem_filter.mpr ⟨List.mem_append_right _ (List.mem_of_getElem? (i := 739) rfl), rfl⟩
set_option maxRecDepth 100000 in
theorem m_613 : Cond.selects R_Mo y_Mo_set y_Mo_set ∈ BIG := List.mem_filter.mpr ⟨List.mem_append_right _ (List.mem_of_getElem? (i := 740) rfl), rfl⟩
set_option maxRecDepth 100000 in
theorem m_614 : Cond.methodLink R_La 23 y_Ga_end ∈ BIG := List.mem_filter.mpr ⟨List.mem_append_right _ (List.mem_of_getElem? (i := 241) rfl), rfl⟩
set_option maxRecDepth 100000 in
theorem m_615 : Cond.code y_Ga_end b_Ga_end_c 3 (some .int) ∈ BIG := List.mem_filter.mpr ⟨List.mem_append_right _ (List.mem_of_getElem? (i := 244) rfl), rfl⟩
set_option maxRecDepth 100000 in
theorem m_616 : Cond.instanceMethod y_Ga_end ∈ BIG := List.mem_filter.mpr ⟨List.mem_append_right _ (List.mem_of_getElem? (i := 242) rfl), rfl⟩
set_option maxRecDepth 100000 in
theorem m_617 : Cond.selects R_Ga y_Ga_end y_Ga_end ∈ BIG := List.mem_filter.mpr ⟨List.mem_append_right _ (List.mem_of_getElem? (i := 243) rfl), rfl⟩
set_option maxRecDepth 100000 in
theorem m_618 : Cond.methodLink R_La 26 y_Mo_end ∈ BIG := List.mem_filter.mpr ⟨List.mem_append_right _ (List.mem_of_getElem? (i := 745) rfl), rfl⟩
set_option maxRecDepth 100000 in
theorem m_619 : Cond.code y_Mo_end b_Mo_end_c 4 (some .int) ∈ BIG := List.mem_filter.mpr ⟨List.mem_append_right _ (List.mem_of_getElem? (i := 748) rfl), rfl⟩
set_option maxRecDepth 100000 in
theorem m_620 : Cond.instanceMethod y_Mo_end ∈ BIG := List.mem_filter.mpr ⟨List.mem_append_right _ (List.mem_of_getElem? (i := 746) rfl), rfl⟩
set_option maxRecDepth 100000 in
theorem m_621 : Cond.selects R_Mo y_Mo_end y_Mo_end ∈ BIG := List.mem_filter.mpr ⟨List.mem_append_right _ (List.mem_of_getElem? (i := 747) rfl), rfl⟩
set_option maxRecDepth 100000 in
theorem m_622 : Cond.methodLink R_La 27 y_Ga_chance ∈ BIG := List.mem_filter.mpr ⟨List.mem_append_right _ (List.mem_of_getElem? (i := 253) rfl), rfl⟩
set_option maxRecDepth 100000 in
theorem m_623 : Cond.code y_Ga_chance b_Ga_chance_c 5 (some .int) ∈ BIG := List.mem_filter.mpr ⟨List.mem_append_right _ (List.mem_of_getElem? (i := 256) rfl), rfl⟩
set_option maxRecDepth 100000 in
theorem m_624 : Cond.instanceMethod y_Ga_chance ∈ BIG := List.mem_filter.mpr ⟨List.mem_append_right _ (List.mem_of_getElem? (i := 254) rfl), rfl⟩
set_option maxRecDepth 100000 in
theorem m_625 : Cond.selects R_Ga y_Ga_chance y_Ga_chance ∈ BIG := List.mem_filter.mpr ⟨List.mem_append_right _ (List.mem_of_getElem? (i := 255) rfl), rfl⟩
set_option maxRecDepth 100000 in
theorem m_626 : Cond.methodLink R_La 31 y_Mo_chance ∈ BIG := List.mem_filter.mpr ⟨List.mem_append_right _ (List.mem_of_getElem? (i := 753) rfl), rfl⟩
set_option maxRecDepth 100000 in
theorem m_627 : Cond.code y_Mo_chance b_Mo_chance_c 8 (some .int) ∈ BIG := List.mem_filter.mpr ⟨List.mem_append_right _ (List.mem_of_getElem? (i := 756) rfl), rfl⟩
set_option maxRecDepth 100000 in
theorem m_628 : Cond.instanceMethod y_Mo_chance ∈ BIG := List.mem_filter.mpr ⟨List.mem_append_right _ (List.mem_of_getElem? (i := 754) rfl), rfl⟩
set_option maxRecDepth 100000 in
theorem m_629 : Cond.selects R_Mo y_Mo_chance y_Mo_chance ∈ BIG := List.mem_filter.mpr ⟨List.mem_append_right _ (List.mem_of_getElem? (i := 755) rfl), rfl⟩
set_option maxRecDepth 100000 in
theorem m_630 : Cond.methodLink R_La 32 y_Ga_node ∈ BIG := List.mem_filter.mpr ⟨List.mem_append_right _ (List.mem_of_getElem? (i := 299) rfl), rfl⟩
set_option maxRecDepth 100000 in
theorem m_631 : Cond.code y_Ga_node b_Ga_node_c 5 (some .int) ∈ BIG := List.mem_filter.mpr ⟨List.mem_append_right _ (List.mem_of_getElem? (i := 302) rfl), rfl⟩
set_option maxRecDepth 100000 in
theorem m_632 : Cond.instanceMethod y_Ga_node ∈ BIG := List.mem_filter.mpr ⟨List.mem_append_right _ (List.mem_of_getElem? (i := 300) rfl), rfl⟩
set_option maxRecDepth 100000 in
theorem m_633 : Cond.selects R_Ga y_Ga_node y_Ga_node ∈ BIG := List.mem_filter.mpr ⟨List.mem_append_right _ (List.mem_of_getElem? (i := 301) rfl), rfl⟩
set_option maxRecDepth 100000 in
theorem m_634 : Cond.methodLink R_La 36 y_Mo_node ∈ BIG := List.mem_filter.mpr ⟨List.mem_append_right _ (List.mem_of_getElem? (i := 788) rfl), rfl⟩
set_option maxRecDepth 100000 in
theorem m_635 : Cond.code y_Mo_node b_Mo_node_c 8 (some .int) ∈ BIG := List.mem_filter.mpr ⟨List.mem_append_right _ (List.mem_of_getElem? (i := 791) rfl), rfl⟩
set_option maxRecDepth 100000 in
theorem m_636 : Cond.instanceMethod y_Mo_node ∈ BIG := List.mem_filter.mpr ⟨List.mem_append_right _ (List.mem_of_getElem? (i := 789) rfl), rfl⟩
set_option maxRecDepth 100000 in
theorem m_637 : Cond.selects R_Mo y_Mo_node y_Mo_node ∈ BIG := List.mem_filter.mpr ⟨List.mem_append_right _ (List.mem_of_getElem? (i := 790) rfl), rfl⟩
set_option maxRecDepth 100000 in
theorem m_638 : Cond.methodLink R_La 37 y_Ga_count ∈ BIG := List.mem_filter.mpr ⟨List.mem_append_right _ (List.mem_of_getElem? (i := 307) rfl), rfl⟩
set_option maxRecDepth 100000 in
theorem m_639 : Cond.code y_Ga_count b_Ga_count_c 2 (some .int) ∈ BIG := List.mem_filter.mpr ⟨List.mem_append_right _ (List.mem_of_getElem? (i := 310) rfl), rfl⟩
set_option maxRecDepth 100000 in
theorem m_640 : Cond.instanceMethod y_Ga_count ∈ BIG := List.mem_filter.mpr ⟨List.mem_append_right _ (List.mem_of_getElem? (i := 308) rfl), rfl⟩
set_option maxRecDepth 100000 in
theorem m_641 : Cond.selects R_Ga y_Ga_count y_Ga_count ∈ BIG := List.mem_filter.mpr ⟨List.mem_append_right _ (List.mem_of_getElem? (i := 309) rfl), rfl⟩
set_option maxRecDepth 100000 in
theorem m_642 : Cond.methodLink R_La 41 y_Mo_count ∈ BIG := List.mem_filter.mpr ⟨List.mem_append_right _ (List.mem_of_getElem? (i := 947) rfl), rfl⟩
set_option maxRecDepth 100000 in
theorem m_643 : Cond.code y_Mo_count b_Mo_count_c 4 (some .int) ∈ BIG := List.mem_filter.mpr ⟨List.mem_append_right _ (List.mem_of_getElem? (i := 950) rfl), rfl⟩
set_option maxRecDepth 100000 in
theorem m_644 : Cond.instanceMethod y_Mo_count ∈ BIG := List.mem_filter.mpr ⟨List.mem_append_right _ (List.mem_of_getElem? (i := 948) rfl), rfl⟩
set_option maxRecDepth 100000 in
theorem m_645 : Cond.selects R_Mo y_Mo_count y_Mo_count ∈ BIG := List.mem_filter.mpr ⟨List.mem_append_right _ (List.mem_of_getElem? (i := 949) rfl), rfl⟩
set_option maxRecDepth 100000 in
theorem m_646 : Cond.methodLink R_La 42 y_Ga_told ∈ BIG := List.mem_filter.mpr ⟨List.mem_append_right _ (List.mem_of_getElem? (i := 481) rfl), rfl⟩
set_option maxRecDepth 100000 in
theorem m_647 : Cond.code y_Ga_told b_Ga_told_c 4 (some .int) ∈ BIG := List.mem_filter.mpr ⟨List.mem_append_right _ (List.mem_of_getElem? (i := 484) rfl), rfl⟩
set_option maxRecDepth 100000 in
theorem m_648 : Cond.instanceMethod y_Ga_told ∈ BIG := List.mem_filter.mpr ⟨List.mem_append_right _ (List.mem_of_getElem? (i := 482) rfl), rfl⟩
set_option maxRecDepth 100000 in
theorem m_649 : Cond.selects R_Ga y_Ga_told y_Ga_told ∈ BIG := List.mem_filter.mpr ⟨List.mem_append_right _ (List.mem_of_getElem? (i := 483) rfl), rfl⟩
set_option maxRecDepth 100000 in
theorem m_650 : Cond.methodLink R_La 45 y_Mo_told ∈ BIG := List.mem_filter.mpr ⟨List.mem_append_right _ (List.mem_of_getElem? (i := 943) rfl), rfl⟩
set_option maxRecDepth 100000 in
theorem m_651 : Cond.code y_Mo_told b_Mo_told_c 3 (some .int) ∈ BIG := List.mem_filter.mpr ⟨List.mem_append_right _ (List.mem_of_getElem? (i := 946) rfl), rfl⟩
set_option maxRecDepth 100000 in
theorem m_652 : Cond.instanceMethod y_Mo_told ∈ BIG := List.mem_filter.mpr ⟨List.mem_append_right _ (List.mem_of_getElem? (i := 944) rfl), rfl⟩
set_option maxRecDepth 100000 in
theorem m_653 : Cond.selects R_Mo y_Mo_told y_Mo_told ∈ BIG := List.mem_filter.mpr ⟨List.mem_append_right _ (List.mem_of_getElem? (i := 945) rfl), rfl⟩
set_option maxRecDepth 100000 in
theorem m_654 : Cond.methodLink R_La 46 y_Ga_act ∈ BIG := List.mem_filter.mpr ⟨List.mem_append_right _ (List.mem_of_getElem? (i := 488) rfl), rfl⟩
set_option maxRecDepth 100000 in
theorem m_655 : Cond.code y_Ga_act b_Ga_act_c 4 (some .int) ∈ BIG := List.mem_filter.mpr ⟨List.mem_append_right _ (List.mem_of_getElem? (i := 491) rfl), rfl⟩
set_option maxRecDepth 100000 in
theorem m_656 : Cond.instanceMethod y_Ga_act ∈ BIG := List.mem_filter.mpr ⟨List.mem_append_right _ (List.mem_of_getElem? (i := 489) rfl), rfl⟩
set_option maxRecDepth 100000 in
theorem m_657 : Cond.selects R_Ga y_Ga_act y_Ga_act ∈ BIG := List.mem_filter.mpr ⟨List.mem_append_right _ (List.mem_of_getElem? (i := 490) rfl), rfl⟩
set_option maxRecDepth 100000 in
theorem m_658 : Cond.methodLink R_La 49 y_Mo_act ∈ BIG := List.mem_filter.mpr ⟨List.mem_append_right _ (List.mem_of_getElem? (i := 821) rfl), rfl⟩
set_option maxRecDepth 100000 in
theorem m_659 : Cond.code y_Mo_act b_Mo_act_c 4 (some .int) ∈ BIG := List.mem_filter.mpr ⟨List.mem_append_right _ (List.mem_of_getElem? (i := 824) rfl), rfl⟩
set_option maxRecDepth 100000 in
theorem m_660 : Cond.instanceMethod y_Mo_act ∈ BIG := List.mem_filter.mpr ⟨List.mem_append_right _ (List.mem_of_getElem? (i := 822) rfl), rfl⟩
set_option maxRecDepth 100000 in
theorem m_661 : Cond.selects R_Mo y_Mo_act y_Mo_act ∈ BIG := List.mem_filter.mpr ⟨List.mem_append_right _ (List.mem_of_getElem? (i := 823) rfl), rfl⟩
set_option maxRecDepth 100000 in
theorem m_662 : Cond.methodLink R_La 50 y_Ga_worth ∈ BIG := List.mem_filter.mpr ⟨List.mem_append_right _ (List.mem_of_getElem? (i := 500) rfl), rfl⟩
set_option maxRecDepth 100000 in
theorem m_663 : Cond.code y_Ga_worth b_Ga_worth_c 4 (some .int) ∈ BIG := List.mem_filter.mpr ⟨List.mem_append_right _ (List.mem_of_getElem? (i := 503) rfl), rfl⟩
set_option maxRecDepth 100000 in
theorem m_664 : Cond.instanceMethod y_Ga_worth ∈ BIG := List.mem_filter.mpr ⟨List.mem_append_right _ (List.mem_of_getElem? (i := 501) rfl), rfl⟩
set_option maxRecDepth 100000 in
theorem m_665 : Cond.selects R_Ga y_Ga_worth y_Ga_worth ∈ BIG := List.mem_filter.mpr ⟨List.mem_append_right _ (List.mem_of_getElem? (i := 502) rfl), rfl⟩
set_option maxRecDepth 100000 in
theorem m_666 : Cond.methodLink R_La 53 y_Mo_worth ∈ BIG := List.mem_filter.mpr ⟨List.mem_append_right _ (List.mem_of_getElem? (i := 792) rfl), rfl⟩
set_option maxRecDepth 100000 in
theorem m_667 : Cond.code y_Mo_worth b_Mo_worth_c 4 (some .int) ∈ BIG := List.mem_filter.mpr ⟨List.mem_append_right _ (List.mem_of_getElem? (i := 795) rfl), rfl⟩
set_option maxRecDepth 100000 in
theorem m_668 : Cond.instanceMethod y_Mo_worth ∈ BIG := List.mem_filter.mpr ⟨List.mem_append_right _ (List.mem_of_getElem? (i := 793) rfl), rfl⟩
set_option maxRecDepth 100000 in
theorem m_669 : Cond.selects R_Mo y_Mo_worth y_Mo_worth ∈ BIG := List.mem_filter.mpr ⟨List.mem_append_right _ (List.mem_of_getElem? (i := 794) rfl), rfl⟩
set_option maxRecDepth 100000 in
theorem m_670 : Cond.methodLink R_La 54 y_Ga_answer ∈ BIG := List.mem_filter.mpr ⟨List.mem_append_right _ (List.mem_of_getElem? (i := 508) rfl), rfl⟩
set_option maxRecDepth 100000 in
theorem m_671 : Cond.code y_Ga_answer b_Ga_answer_c 3 (some .int) ∈ BIG := List.mem_filter.mpr ⟨List.mem_append_right _ (List.mem_of_getElem? (i := 511) rfl), rfl⟩
set_option maxRecDepth 100000 in
theorem m_672 : Cond.instanceMethod y_Ga_answer ∈ BIG := List.mem_filter.mpr ⟨List.mem_append_right _ (List.mem_of_getElem? (i := 509) rfl), rfl⟩
set_option maxRecDepth 100000 in
theorem m_673 : Cond.selects R_Ga y_Ga_answer y_Ga_answer ∈ BIG := List.mem_filter.mpr ⟨List.mem_append_right _ (List.mem_of_getElem? (i := 510) rfl), rfl⟩
set_option maxRecDepth 100000 in
theorem m_674 : Cond.methodLink R_La 57 y_Mo_answer ∈ BIG := List.mem_filter.mpr ⟨List.mem_append_right _ (List.mem_of_getElem? (i := 825) rfl), rfl⟩
set_option maxRecDepth 100000 in
theorem m_675 : Cond.code y_Mo_answer b_Mo_answer_c 3 (some .int) ∈ BIG := List.mem_filter.mpr ⟨List.mem_append_right _ (List.mem_of_getElem? (i := 828) rfl), rfl⟩
set_option maxRecDepth 100000 in
theorem m_676 : Cond.instanceMethod y_Mo_answer ∈ BIG := List.mem_filter.mpr ⟨List.mem_append_right _ (List.mem_of_getElem? (i := 826) rfl), rfl⟩
set_option maxRecDepth 100000 in
theorem m_677 : Cond.selects R_Mo y_Mo_answer y_Mo_answer ∈ BIG := List.mem_filter.mpr ⟨List.mem_append_right _ (List.mem_of_getElem? (i := 827) rfl), rfl⟩
set_option maxRecDepth 100000 in
theorem m_678 : Cond.methodLink R_La 63 y_Ga_within ∈ BIG := List.mem_filter.mpr ⟨List.mem_append_right _ (List.mem_of_getElem? (i := 526) rfl), rfl⟩
set_option maxRecDepth 100000 in
theorem m_679 : Cond.code y_Ga_within b_Ga_within_c 2 (some .int) ∈ BIG := List.mem_filter.mpr ⟨List.mem_append_right _ (List.mem_of_getElem? (i := 529) rfl), rfl⟩
set_option maxRecDepth 100000 in
theorem m_680 : Cond.instanceMethod y_Ga_within ∈ BIG := List.mem_filter.mpr ⟨List.mem_append_right _ (List.mem_of_getElem? (i := 527) rfl), rfl⟩
set_option maxRecDepth 100000 in
theorem m_681 : Cond.selects R_Ga y_Ga_within y_Ga_within ∈ BIG := List.mem_filter.mpr ⟨List.mem_append_right _ (List.mem_of_getElem? (i := 528) rfl), rfl⟩
set_option maxRecDepth 100000 in
theorem m_682 : Cond.methodLink R_La 66 y_Mo_within ∈ BIG := List.mem_filter.mpr ⟨List.mem_append_right _ (List.mem_of_getElem? (i := 861) rfl), rfl⟩
set_option maxRecDepth 100000 in
theorem m_683 : Cond.code y_Mo_within b_Mo_within_c 2 (some .int) ∈ BIG := List.mem_filter.mpr ⟨List.mem_append_right _ (List.mem_of_getElem? (i := 864) rfl), rfl⟩
set_option maxRecDepth 100000 in
theorem m_684 : Cond.instanceMethod y_Mo_within ∈ BIG := List.mem_filter.mpr ⟨List.mem_append_right _ (List.mem_of_getElem? (i := 862) rfl), rfl⟩
set_option maxRecDepth 100000 in
theorem m_685 : Cond.selects R_Mo y_Mo_within y_Mo_within ∈ BIG := List.mem_filter.mpr ⟨List.mem_append_right _ (List.mem_of_getElem? (i := 863) rfl), rfl⟩
set_option maxRecDepth 100000 in
theorem m_686 : Cond.methodLink R_La 67 y_Ga_than ∈ BIG := List.mem_filter.mpr ⟨List.mem_append_right _ (List.mem_of_getElem? (i := 531) rfl), rfl⟩
set_option maxRecDepth 100000 in
theorem m_687 : Cond.code y_Ga_than b_Ga_than_c 4 (some .int) ∈ BIG := List.mem_filter.mpr ⟨List.mem_append_right _ (List.mem_of_getElem? (i := 534) rfl), rfl⟩
set_option maxRecDepth 100000 in
theorem m_688 : Cond.instanceMethod y_Ga_than ∈ BIG := List.mem_filter.mpr ⟨List.mem_append_right _ (List.mem_of_getElem? (i := 532) rfl), rfl⟩
set_option maxRecDepth 100000 in
theorem m_689 : Cond.selects R_Ga y_Ga_than y_Ga_than ∈ BIG := List.mem_filter.mpr ⟨List.mem_append_right _ (List.mem_of_getElem? (i := 533) rfl), rfl⟩
set_option maxRecDepth 100000 in
theorem m_690 : Cond.methodLink R_La 70 y_Mo_than ∈ BIG := List.mem_filter.mpr ⟨List.mem_append_right _ (List.mem_of_getElem? (i := 869) rfl), rfl⟩
set_option maxRecDepth 100000 in
theorem m_691 : Cond.code y_Mo_than b_Mo_than_c 7 (some .int) ∈ BIG := List.mem_filter.mpr ⟨List.mem_append_right _ (List.mem_of_getElem? (i := 872) rfl), rfl⟩
set_option maxRecDepth 100000 in
theorem m_692 : Cond.instanceMethod y_Mo_than ∈ BIG := List.mem_filter.mpr ⟨List.mem_append_right _ (List.mem_of_getElem? (i := 870) rfl), rfl⟩
set_option maxRecDepth 100000 in
theorem m_693 : Cond.selects R_Mo y_Mo_than y_Mo_than ∈ BIG := List.mem_filter.mpr ⟨List.mem_append_right _ (List.mem_of_getElem? (i := 871) rfl), rfl⟩
set_option maxRecDepth 100000 in
theorem m_694 : Cond.methodLink R_La 71 y_Ga_goes ∈ BIG := List.mem_filter.mpr ⟨List.mem_append_right _ (List.mem_of_getElem? (i := 557) rfl), rfl⟩
set_option maxRecDepth 100000 in
theorem m_695 : Cond.code y_Ga_goes b_Ga_goes_c 3 (some .int) ∈ BIG := List.mem_filter.mpr ⟨List.mem_append_right _ (List.mem_of_getElem? (i := 560) rfl), rfl⟩
set_option maxRecDepth 100000 in
theorem m_696 : Cond.instanceMethod y_Ga_goes ∈ BIG := List.mem_filter.mpr ⟨List.mem_append_right _ (List.mem_of_getElem? (i := 558) rfl), rfl⟩
set_option maxRecDepth 100000 in
theorem m_697 : Cond.selects R_Ga y_Ga_goes y_Ga_goes ∈ BIG := List.mem_filter.mpr ⟨List.mem_append_right _ (List.mem_of_getElem? (i := 559) rfl), rfl⟩
set_option maxRecDepth 100000 in
theorem m_698 : Cond.methodLink R_La 74 y_Mo_goes ∈ BIG := List.mem_filter.mpr ⟨List.mem_append_right _ (List.mem_of_getElem? (i := 893) rfl), rfl⟩
set_option maxRecDepth 100000 in
theorem m_699 : Cond.code y_Mo_goes b_Mo_goes_c 3 (some .int) ∈ BIG := List.mem_filter.mpr ⟨List.mem_append_right _ (List.mem_of_getElem? (i := 896) rfl), rfl⟩
set_option maxRecDepth 100000 in
theorem m_700 : Cond.instanceMethod y_Mo_goes ∈ BIG := List.mem_filter.mpr ⟨List.mem_append_right _ (List.mem_of_getElem? (i := 894) rfl), rfl⟩
set_option maxRecDepth 100000 in
theorem m_701 : Cond.selects R_Mo y_Mo_goes y_Mo_goes ∈ BIG := List.mem_filter.mpr ⟨List.mem_append_right _ (List.mem_of_getElem? (i := 895) rfl), rfl⟩
set_option maxRecDepth 100000 in
theorem m_702 : Cond.methodLink R_La 75 y_Ga_sure ∈ BIG := List.mem_filter.mpr ⟨List.mem_append_right _ (List.mem_of_getElem? (i := 565) rfl), rfl⟩
set_option maxRecDepth 100000 in
theorem m_703 : Cond.code y_Ga_sure b_Ga_sure_c 2 (some .int) ∈ BIG := List.mem_filter.mpr ⟨List.mem_append_right _ (List.mem_of_getElem? (i := 568) rfl), rfl⟩
set_option maxRecDepth 100000 in
theorem m_704 : Cond.instanceMethod y_Ga_sure ∈ BIG := List.mem_filter.mpr ⟨List.mem_append_right _ (List.mem_of_getElem? (i := 566) rfl), rfl⟩
set_option maxRecDepth 100000 in
theorem m_705 : Cond.selects R_Ga y_Ga_sure y_Ga_sure ∈ BIG := List.mem_filter.mpr ⟨List.mem_append_right _ (List.mem_of_getElem? (i := 567) rfl), rfl⟩
set_option maxRecDepth 100000 in
theorem m_706 : Cond.methodLink R_La 78 y_Mo_sure ∈ BIG := List.mem_filter.mpr ⟨List.mem_append_right _ (List.mem_of_getElem? (i := 909) rfl), rfl⟩
set_option maxRecDepth 100000 in
theorem m_707 : Cond.code y_Mo_sure b_Mo_sure_c 6 (some .int) ∈ BIG := List.mem_filter.mpr ⟨List.mem_append_right _ (List.mem_of_getElem? (i := 912) rfl), rfl⟩
set_option maxRecDepth 100000 in
theorem m_708 : Cond.instanceMethod y_Mo_sure ∈ BIG := List.mem_filter.mpr ⟨List.mem_append_right _ (List.mem_of_getElem? (i := 910) rfl), rfl⟩
set_option maxRecDepth 100000 in
theorem m_709 : Cond.selects R_Mo y_Mo_sure y_Mo_sure ∈ BIG := List.mem_filter.mpr ⟨List.mem_append_right _ (List.mem_of_getElem? (i := 911) rfl), rfl⟩
set_option maxRecDepth 100000 in
theorem m_710 : Cond.methodLink R_La 79 y_Ga_remembered ∈ BIG := List.mem_filter.mpr ⟨List.mem_append_right _ (List.mem_of_getElem? (i := 581) rfl), rfl⟩
set_option maxRecDepth 100000 in
theorem m_711 : Cond.code y_Ga_remembered b_Ga_remembered_c 2 (some .int) ∈ BIG := List.mem_filter.mpr ⟨List.mem_append_right _ (List.mem_of_getElem? (i := 584) rfl), rfl⟩
set_option maxRecDepth 100000 in
theorem m_712 : Cond.instanceMethod y_Ga_remembered ∈ BIG := List.mem_filter.mpr ⟨List.mem_append_right _ (List.mem_of_getElem? (i := 582) rfl), rfl⟩
set_option maxRecDepth 100000 in
theorem m_713 : Cond.selects R_Ga y_Ga_remembered y_Ga_remembered ∈ BIG := List.mem_filter.mpr ⟨List.mem_append_right _ (List.mem_of_getElem? (i := 583) rfl), rfl⟩
set_option maxRecDepth 100000 in
theorem m_714 : Cond.methodLink R_La 82 y_Mo_remembered ∈ BIG := List.mem_filter.mpr ⟨List.mem_append_right _ (List.mem_of_getElem? (i := 913) rfl), rfl⟩
set_option maxRecDepth 100000 in
theorem m_715 : Cond.code y_Mo_remembered b_Mo_remembered_c 6 (some .int) ∈ BIG := List.mem_filter.mpr ⟨List.mem_append_right _ (List.mem_of_getElem? (i := 916) rfl), rfl⟩
set_option maxRecDepth 100000 in
theorem m_716 : Cond.instanceMethod y_Mo_remembered ∈ BIG := List.mem_filter.mpr ⟨List.mem_append_right _ (List.mem_of_getElem? (i := 914) rfl), rfl⟩
set_option maxRecDepth 100000 in
theorem m_717 : Cond.selects R_Mo y_Mo_remembered y_Mo_remembered ∈ BIG := List.mem_filter.mpr ⟨List.mem_append_right _ (List.mem_of_getElem? (i := 915) rfl), rfl⟩
set_option maxRecDepth 100000 in
theorem m_718 : Cond.methodLink R_La 83 y_Ga_taken ∈ BIG := List.mem_filter.mpr ⟨List.mem_append_right _ (List.mem_of_getElem? (i := 603) rfl), rfl⟩
set_option maxRecDepth 100000 in
theorem m_719 : Cond.code y_Ga_taken b_Ga_taken_c 4 (some .int) ∈ BIG := List.mem_filter.mpr ⟨List.mem_append_right _ (List.mem_of_getElem? (i := 606) rfl), rfl⟩
set_option maxRecDepth 100000 in
theorem m_720 : Cond.instanceMethod y_Ga_taken ∈ BIG := List.mem_filter.mpr ⟨List.mem_append_right _ (List.mem_of_getElem? (i := 604) rfl), rfl⟩
set_option maxRecDepth 100000 in
theorem m_721 : Cond.selects R_Ga y_Ga_taken y_Ga_taken ∈ BIG := List.mem_filter.mpr ⟨List.mem_append_right _ (List.mem_of_getElem? (i := 605) rfl), rfl⟩
set_option maxRecDepth 100000 in
theorem m_722 : Cond.methodLink R_La 86 y_Mo_taken ∈ BIG := List.mem_filter.mpr ⟨List.mem_append_right _ (List.mem_of_getElem? (i := 923) rfl), rfl⟩
set_option maxRecDepth 100000 in
theorem m_723 : Cond.code y_Mo_taken b_Mo_taken_c 4 (some .int) ∈ BIG := List.mem_filter.mpr ⟨List.mem_append_right _ (List.mem_of_getElem? (i := 926) rfl), rfl⟩
set_option maxRecDepth 100000 in
theorem m_724 : Cond.instanceMethod y_Mo_taken ∈ BIG := List.mem_filter.mpr ⟨List.mem_append_right _ (List.mem_of_getElem? (i := 924) rfl), rfl⟩
set_option maxRecDepth 100000 in
theorem m_725 : Cond.selects R_Mo y_Mo_taken y_Mo_taken ∈ BIG := List.mem_filter.mpr ⟨List.mem_append_right _ (List.mem_of_getElem? (i := 925) rfl), rfl⟩
set_option maxRecDepth 100000 in
theorem m_726 : Cond.methodLink R_La 87 y_Ga_bound ∈ BIG := List.mem_filter.mpr ⟨List.mem_append_right _ (List.mem_of_getElem? (i := 626) rfl), rfl⟩
set_option maxRecDepth 100000 in
theorem m_727 : Cond.code y_Ga_bound b_Ga_bound_c 3 (some .int) ∈ BIG := List.mem_filter.mpr ⟨List.mem_append_right _ (List.mem_of_getElem? (i := 629) rfl), rfl⟩
set_option maxRecDepth 100000 in
theorem m_728 : Cond.instanceMethod y_Ga_bound ∈ BIG := List.mem_filter.mpr ⟨List.mem_append_right _ (List.mem_of_getElem? (i := 627) rfl), rfl⟩
set_option maxRecDepth 100000 in
theorem m_729 : Cond.selects R_Ga y_Ga_bound y_Ga_bound ∈ BIG := List.mem_filter.mpr ⟨List.mem_append_right _ (List.mem_of_getElem? (i := 628) rfl), rfl⟩
set_option maxRecDepth 100000 in
theorem m_730 : Cond.methodLink R_La 90 y_Mo_bound ∈ BIG := List.mem_filter.mpr ⟨List.mem_append_right _ (List.mem_of_getElem? (i := 939) rfl), rfl⟩
set_option maxRecDepth 100000 in
theorem m_731 : Cond.code y_Mo_bound b_Mo_bound_c 7 (some .int) ∈ BIG := List.mem_filter.mpr ⟨List.mem_append_right _ (List.mem_of_getElem? (i := 942) rfl), rfl⟩
set_option maxRecDepth 100000 in
theorem m_732 : Cond.instanceMethod y_Mo_bound ∈ BIG := List.mem_filter.mpr ⟨List.mem_append_right _ (List.mem_of_getElem? (i := 940) rfl), rfl⟩
set_option maxRecDepth 100000 in
theorem m_733 : Cond.selects R_Mo y_Mo_bound y_Mo_bound ∈ BIG := List.mem_filter.mpr ⟨List.mem_append_right _ (List.mem_of_getElem? (i := 941) rfl), rfl⟩
set_option maxRecDepth 100000 in
theorem m_734 : Cond.laysFinal R_Ga "GameRows" "forest" "LGameRows$Forest;" ∈ BIG := List.mem_filter.mpr ⟨List.mem_append_right _ (List.mem_of_getElem? (i := 208) rfl), rfl⟩
set_option maxRecDepth 100000 in
theorem m_735 : Cond.laysFinal R_Ga "GameRows" "table" "LGameRows$Table;" ∈ BIG := List.mem_filter.mpr ⟨List.mem_append_right _ (List.mem_of_getElem? (i := 210) rfl), rfl⟩
set_option maxRecDepth 100000 in
theorem m_736 : Cond.laysFinal R_Ga "GameRows" "points" "LGameRows$Points;" ∈ BIG := List.mem_filter.mpr ⟨List.mem_append_right _ (List.mem_of_getElem? (i := 212) rfl), rfl⟩
set_option maxRecDepth 100000 in
theorem m_737 : Cond.laysFinal R_Ga "GameRows" "leaving" "LGameRows$Leaving;" ∈ BIG := List.mem_filter.mpr ⟨List.mem_append_right _ (List.mem_of_getElem? (i := 214) rfl), rfl⟩
set_option maxRecDepth 100000 in
theorem m_738 : Cond.laysFinal R_Ga "GameRows" "answering" "LGameRows$Answering;" ∈ BIG := List.mem_filter.mpr ⟨List.mem_append_right _ (List.mem_of_getElem? (i := 216) rfl), rfl⟩
set_option maxRecDepth 100000 in
theorem m_739 : Cond.lays R_Fo "GameRows$Forest" "nodes" "I" ∈ BIG := List.mem_filter.mpr ⟨List.mem_append_right _ (List.mem_of_getElem? (i := 56) rfl), rfl⟩
set_option maxRecDepth 100000 in
theorem m_740 : Cond.lays R_Fo "GameRows$Forest" "sets" "I" ∈ BIG := List.mem_filter.mpr ⟨List.mem_append_right _ (List.mem_of_getElem? (i := 58) rfl), rfl⟩
set_option maxRecDepth 100000 in
theorem m_741 : Cond.lays R_Fo "GameRows$Forest" "version" "I" ∈ BIG := List.mem_filter.mpr ⟨List.mem_append_right _ (List.mem_of_getElem? (i := 60) rfl), rfl⟩
set_option maxRecDepth 100000 in
theorem m_742 : Cond.laysFinal R_Fo "GameRows$Forest" "sorts" "[I" ∈ BIG := List.mem_filter.mpr ⟨List.mem_append_right _ (List.mem_of_getElem? (i := 62) rfl), rfl⟩
set_option maxRecDepth 100000 in
theorem m_743 : Cond.laysFinal R_Fo "GameRows$Forest" "setOf" "[I" ∈ BIG := List.mem_filter.mpr ⟨List.mem_append_right _ (List.mem_of_getElem? (i := 64) rfl), rfl⟩
set_option maxRecDepth 100000 in
theorem m_744 : Cond.laysFinal R_Fo "GameRows$Forest" "parents" "[I" ∈ BIG := List.mem_filter.mpr ⟨List.mem_append_right _ (List.mem_of_getElem? (i := 66) rfl), rfl⟩
set_option maxRecDepth 100000 in
theorem m_745 : Cond.laysFinal R_Fo "GameRows$Forest" "actsOf" "[I" ∈ BIG := List.mem_filter.mpr ⟨List.mem_append_right _ (List.mem_of_getElem? (i := 68) rfl), rfl⟩
set_option maxRecDepth 100000 in
theorem m_746 : Cond.laysFinal R_Fo "GameRows$Forest" "worths" "[I" ∈ BIG := List.mem_filter.mpr ⟨List.mem_append_right _ (List.mem_of_getElem? (i := 70) rfl), rfl⟩
set_option maxRecDepth 100000 in
theorem m_747 : Cond.laysFinal R_Fo "GameRows$Forest" "children" "[I" ∈ BIG := List.mem_filter.mpr ⟨List.mem_append_right _ (List.mem_of_getElem? (i := 72) rfl), rfl⟩
set_option maxRecDepth 100000 in
theorem m_748 : Cond.laysFinal R_Fo "GameRows$Forest" "sizes" "[I" ∈ BIG := List.mem_filter.mpr ⟨List.mem_append_right _ (List.mem_of_getElem? (i := 74) rfl), rfl⟩
set_option maxRecDepth 100000 in
theorem m_749 : Cond.laysFinal R_Fo "GameRows$Forest" "depthsBelow" "[I" ∈ BIG := List.mem_filter.mpr ⟨List.mem_append_right _ (List.mem_of_getElem? (i := 76) rfl), rfl⟩
set_option maxRecDepth 100000 in
theorem m_750 : Cond.laysFinal R_Fo "GameRows$Forest" "chancesBelow" "[I" ∈ BIG := List.mem_filter.mpr ⟨List.mem_append_right _ (List.mem_of_getElem? (i := 78) rfl), rfl⟩
set_option maxRecDepth 100000 in
theorem m_751 : Cond.laysFinal R_Fo "GameRows$Forest" "nodesFrom" "[J" ∈ BIG := List.mem_filter.mpr ⟨List.mem_append_right _ (List.mem_of_getElem? (i := 80) rfl), rfl⟩
set_option maxRecDepth 100000 in
theorem m_752 : Cond.laysFinal R_Fo "GameRows$Forest" "setsFrom" "[I" ∈ BIG := List.mem_filter.mpr ⟨List.mem_append_right _ (List.mem_of_getElem? (i := 82) rfl), rfl⟩
set_option maxRecDepth 100000 in
theorem m_753 : Cond.laysFinal R_Fo "GameRows$Forest" "ownerOf" "[I" ∈ BIG := List.mem_filter.mpr ⟨List.mem_append_right _ (List.mem_of_getElem? (i := 84) rfl), rfl⟩
set_option maxRecDepth 100000 in
theorem m_754 : Cond.laysFinal R_Fo "GameRows$Forest" "nodesOf" "[J" ∈ BIG := List.mem_filter.mpr ⟨List.mem_append_right _ (List.mem_of_getElem? (i := 86) rfl), rfl⟩
set_option maxRecDepth 100000 in
theorem m_755 : Cond.laysFinal R_Fo "GameRows$Forest" "offered" "[I" ∈ BIG := List.mem_filter.mpr ⟨List.mem_append_right _ (List.mem_of_getElem? (i := 88) rfl), rfl⟩
set_option maxRecDepth 100000 in
theorem m_756 : Cond.laysFinal R_Ta "GameRows$Table" "plans" "[I" ∈ BIG := List.mem_filter.mpr ⟨List.mem_append_right _ (List.mem_of_getElem? (i := 111) rfl), rfl⟩
set_option maxRecDepth 100000 in
theorem m_757 : Cond.laysFinal R_Ta "GameRows$Table" "forest" "LGameRows$Forest;" ∈ BIG := List.mem_filter.mpr ⟨List.mem_append_right _ (List.mem_of_getElem? (i := 113) rfl), rfl⟩
set_option maxRecDepth 100000 in
theorem m_758 : Cond.laysFinal R_Ta "GameRows$Table" "worths" "[[I" ∈ BIG := List.mem_filter.mpr ⟨List.mem_append_right _ (List.mem_of_getElem? (i := 115) rfl), rfl⟩
set_option maxRecDepth 100000 in
theorem m_759 : Cond.laysFinal R_Ta "GameRows$Table" "acts" "[I" ∈ BIG := List.mem_filter.mpr ⟨List.mem_append_right _ (List.mem_of_getElem? (i := 117) rfl), rfl⟩
set_option maxRecDepth 100000 in
theorem m_760 : Cond.laysFinal R_Ta "GameRows$Table" "shares" "[I" ∈ BIG := List.mem_filter.mpr ⟨List.mem_append_right _ (List.mem_of_getElem? (i := 119) rfl), rfl⟩
set_option maxRecDepth 100000 in
theorem m_761 : Cond.lays R_Ta "GameRows$Table" "madeFor" "I" ∈ BIG := List.mem_filter.mpr ⟨List.mem_append_right _ (List.mem_of_getElem? (i := 121) rfl), rfl⟩
set_option maxRecDepth 100000 in
theorem m_762 : Cond.lays R_Ta "GameRows$Table" "madeFrom" "I" ∈ BIG := List.mem_filter.mpr ⟨List.mem_append_right _ (List.mem_of_getElem? (i := 123) rfl), rfl⟩
set_option maxRecDepth 100000 in
theorem m_763 : Cond.laysFinal R_Po "GameRows$Points" "forest" "LGameRows$Forest;" ∈ BIG := List.mem_filter.mpr ⟨List.mem_append_right _ (List.mem_of_getElem? (i := 141) rfl), rfl⟩
set_option maxRecDepth 100000 in
theorem m_764 : Cond.laysFinal R_Po "GameRows$Points" "table" "LGameRows$Table;" ∈ BIG := List.mem_filter.mpr ⟨List.mem_append_right _ (List.mem_of_getElem? (i := 143) rfl), rfl⟩
set_option maxRecDepth 100000 in
theorem m_765 : Cond.laysFinal R_Po "GameRows$Points" "rows" "[[J" ∈ BIG := List.mem_filter.mpr ⟨List.mem_append_right _ (List.mem_of_getElem? (i := 145) rfl), rfl⟩
set_option maxRecDepth 100000 in
theorem m_766 : Cond.laysFinal R_Po "GameRows$Points" "madeFor" "[I" ∈ BIG := List.mem_filter.mpr ⟨List.mem_append_right _ (List.mem_of_getElem? (i := 147) rfl), rfl⟩
set_option maxRecDepth 100000 in
theorem m_767 : Cond.laysFinal R_Po "GameRows$Points" "best" "[[I" ∈ BIG := List.mem_filter.mpr ⟨List.mem_append_right _ (List.mem_of_getElem? (i := 149) rfl), rfl⟩
set_option maxRecDepth 100000 in
theorem m_768 : Cond.laysFinal R_Po "GameRows$Points" "inner" "[[I" ∈ BIG := List.mem_filter.mpr ⟨List.mem_append_right _ (List.mem_of_getElem? (i := 151) rfl), rfl⟩
set_option maxRecDepth 100000 in
theorem m_769 : Cond.laysFinal R_Le "GameRows$Leaving" "forest" "LGameRows$Forest;" ∈ BIG := List.mem_filter.mpr ⟨List.mem_append_right _ (List.mem_of_getElem? (i := 166) rfl), rfl⟩
set_option maxRecDepth 100000 in
theorem m_770 : Cond.laysFinal R_Le "GameRows$Leaving" "table" "LGameRows$Table;" ∈ BIG := List.mem_filter.mpr ⟨List.mem_append_right _ (List.mem_of_getElem? (i := 168) rfl), rfl⟩
set_option maxRecDepth 100000 in
theorem m_771 : Cond.laysFinal R_Le "GameRows$Leaving" "goneIn" "[[I" ∈ BIG := List.mem_filter.mpr ⟨List.mem_append_right _ (List.mem_of_getElem? (i := 170) rfl), rfl⟩
set_option maxRecDepth 100000 in
theorem m_772 : Cond.laysFinal R_Le "GameRows$Leaving" "left" "[J" ∈ BIG := List.mem_filter.mpr ⟨List.mem_append_right _ (List.mem_of_getElem? (i := 172) rfl), rfl⟩
set_option maxRecDepth 100000 in
theorem m_773 : Cond.lays R_Le "GameRows$Leaving" "madeFor" "I" ∈ BIG := List.mem_filter.mpr ⟨List.mem_append_right _ (List.mem_of_getElem? (i := 174) rfl), rfl⟩
set_option maxRecDepth 100000 in
theorem m_774 : Cond.laysFinal R_An "GameRows$Answering" "forest" "LGameRows$Forest;" ∈ BIG := List.mem_filter.mpr ⟨List.mem_append_right _ (List.mem_of_getElem? (i := 190) rfl), rfl⟩
set_option maxRecDepth 100000 in
theorem m_775 : Cond.laysFinal R_An "GameRows$Answering" "table" "LGameRows$Table;" ∈ BIG := List.mem_filter.mpr ⟨List.mem_append_right _ (List.mem_of_getElem? (i := 192) rfl), rfl⟩
set_option maxRecDepth 100000 in
theorem m_776 : Cond.laysFinal R_An "GameRows$Answering" "picks" "[[I" ∈ BIG := List.mem_filter.mpr ⟨List.mem_append_right _ (List.mem_of_getElem? (i := 194) rfl), rfl⟩
set_option maxRecDepth 100000 in
theorem m_777 : Cond.laysFinal R_An "GameRows$Answering" "sums" "[[I" ∈ BIG := List.mem_filter.mpr ⟨List.mem_append_right _ (List.mem_of_getElem? (i := 196) rfl), rfl⟩
set_option maxRecDepth 100000 in
theorem m_778 : Cond.lays R_An "GameRows$Answering" "played" "I" ∈ BIG := List.mem_filter.mpr ⟨List.mem_append_right _ (List.mem_of_getElem? (i := 198) rfl), rfl⟩
set_option maxRecDepth 100000 in
theorem m_779 : Cond.lays R_An "GameRows$Answering" "madeFor" "I" ∈ BIG := List.mem_filter.mpr ⟨List.mem_append_right _ (List.mem_of_getElem? (i := 200) rfl), rfl⟩
set_option maxRecDepth 100000 in
theorem m_780 : Cond.lays R_Mo "GameRowsModel" "nodes" "I" ∈ BIG := List.mem_filter.mpr ⟨List.mem_append_right _ (List.mem_of_getElem? (i := 680) rfl), rfl⟩
set_option maxRecDepth 100000 in
theorem m_781 : Cond.lays R_Mo "GameRowsModel" "sets" "I" ∈ BIG := List.mem_filter.mpr ⟨List.mem_append_right _ (List.mem_of_getElem? (i := 682) rfl), rfl⟩
set_option maxRecDepth 100000 in
theorem m_782 : Cond.laysFinal R_Mo "GameRowsModel" "sort" "[I" ∈ BIG := List.mem_filter.mpr ⟨List.mem_append_right _ (List.mem_of_getElem? (i := 684) rfl), rfl⟩
set_option maxRecDepth 100000 in
theorem m_783 : Cond.laysFinal R_Mo "GameRowsModel" "setOf" "[I" ∈ BIG := List.mem_filter.mpr ⟨List.mem_append_right _ (List.mem_of_getElem? (i := 686) rfl), rfl⟩
set_option maxRecDepth 100000 in
theorem m_784 : Cond.laysFinal R_Mo "GameRowsModel" "worthOf" "[I" ∈ BIG := List.mem_filter.mpr ⟨List.mem_append_right _ (List.mem_of_getElem? (i := 688) rfl), rfl⟩
set_option maxRecDepth 100000 in
theorem m_785 : Cond.laysFinal R_Mo "GameRowsModel" "child" "[I" ∈ BIG := List.mem_filter.mpr ⟨List.mem_append_right _ (List.mem_of_getElem? (i := 690) rfl), rfl⟩
set_option maxRecDepth 100000 in
theorem m_786 : Cond.laysFinal R_Mo "GameRowsModel" "parent" "[I" ∈ BIG := List.mem_filter.mpr ⟨List.mem_append_right _ (List.mem_of_getElem? (i := 692) rfl), rfl⟩
set_option maxRecDepth 100000 in
theorem m_787 : Cond.laysFinal R_Mo "GameRowsModel" "height" "[I" ∈ BIG := List.mem_filter.mpr ⟨List.mem_append_right _ (List.mem_of_getElem? (i := 694) rfl), rfl⟩
set_option maxRecDepth 100000 in
theorem m_788 : Cond.laysFinal R_Mo "GameRowsModel" "chances" "[I" ∈ BIG := List.mem_filter.mpr ⟨List.mem_append_right _ (List.mem_of_getElem? (i := 696) rfl), rfl⟩
set_option maxRecDepth 100000 in
theorem m_789 : Cond.laysFinal R_Mo "GameRowsModel" "playerOf" "[I" ∈ BIG := List.mem_filter.mpr ⟨List.mem_append_right _ (List.mem_of_getElem? (i := 698) rfl), rfl⟩
set_option maxRecDepth 100000 in
theorem m_790 : Cond.laysFinal R_Mo "GameRowsModel" "acts" "[I" ∈ BIG := List.mem_filter.mpr ⟨List.mem_append_right _ (List.mem_of_getElem? (i := 700) rfl), rfl⟩
set_option maxRecDepth 100000 in
theorem m_791 : Cond.laysFinal R_Mo "GameRowsModel" "inTree" "[Z" ∈ BIG := List.mem_filter.mpr ⟨List.mem_append_right _ (List.mem_of_getElem? (i := 702) rfl), rfl⟩
set_option maxRecDepth 100000 in
theorem m_792 : Cond.laysFinal R_Mo "GameRowsModel" "isIn" "[Z" ∈ BIG := List.mem_filter.mpr ⟨List.mem_append_right _ (List.mem_of_getElem? (i := 704) rfl), rfl⟩
set_option maxRecDepth 100000 in
theorem m_793 : Cond.laysFinal R_Mo "GameRowsModel" "value" "[I" ∈ BIG := List.mem_filter.mpr ⟨List.mem_append_right _ (List.mem_of_getElem? (i := 706) rfl), rfl⟩
set_option maxRecDepth 100000 in
theorem m_794 : Cond.laysFinal R_Mo "GameRowsModel" "worths" "[I" ∈ BIG := List.mem_filter.mpr ⟨List.mem_append_right _ (List.mem_of_getElem? (i := 708) rfl), rfl⟩
set_option maxRecDepth 100000 in
theorem m_795 : Cond.laysFinal R_Mo "GameRowsModel" "choice" "[I" ∈ BIG := List.mem_filter.mpr ⟨List.mem_append_right _ (List.mem_of_getElem? (i := 710) rfl), rfl⟩
set_option maxRecDepth 100000 in
theorem m_796 : Cond.lays R_Mo "GameRowsModel" "plans0" "I" ∈ BIG := List.mem_filter.mpr ⟨List.mem_append_right _ (List.mem_of_getElem? (i := 712) rfl), rfl⟩
set_option maxRecDepth 100000 in
theorem m_797 : Cond.lays R_Mo "GameRowsModel" "plans1" "I" ∈ BIG := List.mem_filter.mpr ⟨List.mem_append_right _ (List.mem_of_getElem? (i := 714) rfl), rfl⟩
set_option maxRecDepth 100000 in
theorem m_798 : Cond.laysFinal R_Mo "GameRowsModel" "isPoint" "[Z" ∈ BIG := List.mem_filter.mpr ⟨List.mem_append_right _ (List.mem_of_getElem? (i := 716) rfl), rfl⟩
set_option maxRecDepth 100000 in
theorem m_799 : Cond.lays R_Mo "GameRowsModel" "pointFound" "I" ∈ BIG := List.mem_filter.mpr ⟨List.mem_append_right _ (List.mem_of_getElem? (i := 718) rfl), rfl⟩
set_option maxRecDepth 100000 in
theorem m_800 : Cond.lays R_Mo "GameRowsModel" "gameFound" "I" ∈ BIG := List.mem_filter.mpr ⟨List.mem_append_right _ (List.mem_of_getElem? (i := 720) rfl), rfl⟩
set_option maxRecDepth 100000 in
theorem m_801 : Cond.laysFinal R_Mo "GameRowsModel" "left" "[Z" ∈ BIG := List.mem_filter.mpr ⟨List.mem_append_right _ (List.mem_of_getElem? (i := 722) rfl), rfl⟩
set_option maxRecDepth 100000 in
theorem m_802 : Cond.laysFinal R_Mo "GameRowsModel" "gone" "[I" ∈ BIG := List.mem_filter.mpr ⟨List.mem_append_right _ (List.mem_of_getElem? (i := 724) rfl), rfl⟩
set_option maxRecDepth 100000 in
theorem m_803 : Cond.laysFinal R_Mo "GameRowsModel" "goes" "[Z" ∈ BIG := List.mem_filter.mpr ⟨List.mem_append_right _ (List.mem_of_getElem? (i := 726) rfl), rfl⟩
set_option maxRecDepth 100000 in
theorem m_804 : Cond.laysFinal R_Mo "GameRowsModel" "took" "[I" ∈ BIG := List.mem_filter.mpr ⟨List.mem_append_right _ (List.mem_of_getElem? (i := 728) rfl), rfl⟩
set_option maxRecDepth 100000 in
theorem m_805 : Cond.laysFinal R_Mo "GameRowsModel" "against" "[I" ∈ BIG := List.mem_filter.mpr ⟨List.mem_append_right _ (List.mem_of_getElem? (i := 730) rfl), rfl⟩
theorem in_Ga : ∀ w ∈ u_ws R_Ga T_Ga 5, w ∈ BIG := by
  intro w hw
  obtain ⟨k, hk, rfl⟩ := List.mem_map.mp hw
  have hk := List.mem_range.mp hk
  match k, hk with
  | 0, _ => exact m_734
  | 1, _ => exact m_735
  | 2, _ => exact m_736
  | 3, _ => exact m_737
  | 4, _ => exact m_738
  | k + 5, h => exact absurd h (by omega)
theorem in_Fo : ∀ w ∈ u_ws R_Fo T_Fo 17, w ∈ BIG := by
  intro w hw
  obtain ⟨k, hk, rfl⟩ := List.mem_map.mp hw
  have hk := List.mem_range.mp hk
  match k, hk with
  | 0, _ => exact m_739
  | 1, _ => exact m_740
  | 2, _ => exact m_741
  | 3, _ => exact m_742
  | 4, _ => exact m_743
  | 5, _ => exact m_744
  | 6, _ => exact m_745
  | 7, _ => exact m_746
  | 8, _ => exact m_747
  | 9, _ => exact m_748
  | 10, _ => exact m_749
  | 11, _ => exact m_750
  | 12, _ => exact m_751
  | 13, _ => exact m_752
  | 14, _ => exact m_753
  | 15, _ => exact m_754
  | 16, _ => exact m_755
  | k + 17, h => exact absurd h (by omega)
theorem in_Ta : ∀ w ∈ u_ws R_Ta T_Ta 7, w ∈ BIG := by
  intro w hw
  obtain ⟨k, hk, rfl⟩ := List.mem_map.mp hw
  have hk := List.mem_range.mp hk
  match k, hk with
  | 0, _ => exact m_756
  | 1, _ => exact m_757
  | 2, _ => exact m_758
  | 3, _ => exact m_759
  | 4, _ => exact m_760
  | 5, _ => exact m_761
  | 6, _ => exact m_762
  | k + 7, h => exact absurd h (by omega)
theorem in_Po : ∀ w ∈ u_ws R_Po T_Po 6, w ∈ BIG := by
  intro w hw
  obtain ⟨k, hk, rfl⟩ := List.mem_map.mp hw
  have hk := List.mem_range.mp hk
  match k, hk with
  | 0, _ => exact m_763
  | 1, _ => exact m_764
  | 2, _ => exact m_765
  | 3, _ => exact m_766
  | 4, _ => exact m_767
  | 5, _ => exact m_768
  | k + 6, h => exact absurd h (by omega)
theorem in_Le : ∀ w ∈ u_ws R_Le T_Le 5, w ∈ BIG := by
  intro w hw
  obtain ⟨k, hk, rfl⟩ := List.mem_map.mp hw
  have hk := List.mem_range.mp hk
  match k, hk with
  | 0, _ => exact m_769
  | 1, _ => exact m_770
  | 2, _ => exact m_771
  | 3, _ => exact m_772
  | 4, _ => exact m_773
  | k + 5, h => exact absurd h (by omega)
theorem in_An : ∀ w ∈ u_ws R_An T_An 6, w ∈ BIG := by
  intro w hw
  obtain ⟨k, hk, rfl⟩ := List.mem_map.mp hw
  have hk := List.mem_range.mp hk
  match k, hk with
  | 0, _ => exact m_774
  | 1, _ => exact m_775
  | 2, _ => exact m_776
  | 3, _ => exact m_777
  | 4, _ => exact m_778
  | 5, _ => exact m_779
  | k + 6, h => exact absurd h (by omega)
theorem in_Mo : ∀ w ∈ u_ws R_Mo T_Mo 26, w ∈ BIG := by
  intro w hw
  obtain ⟨k, hk, rfl⟩ := List.mem_map.mp hw
  have hk := List.mem_range.mp hk
  match k, hk with
  | 0, _ => exact m_780
  | 1, _ => exact m_781
  | 2, _ => exact m_782
  | 3, _ => exact m_783
  | 4, _ => exact m_784
  | 5, _ => exact m_785
  | 6, _ => exact m_786
  | 7, _ => exact m_787
  | 8, _ => exact m_788
  | 9, _ => exact m_789
  | 10, _ => exact m_790
  | 11, _ => exact m_791
  | 12, _ => exact m_792
  | 13, _ => exact m_793
  | 14, _ => exact m_794
  | 15, _ => exact m_795
  | 16, _ => exact m_796
  | 17, _ => exact m_797
  | 18, _ => exact m_798
  | 19, _ => exact m_799
  | 20, _ => exact m_800
  | 21, _ => exact m_801
  | 22, _ => exact m_802
  | 23, _ => exact m_803
  | 24, _ => exact m_804
  | 25, _ => exact m_805
  | k + 26, h => exact absurd h (by omega)
theorem q_Fo_9 {X : gX} {cc : ByteArray} {nL fr lo pc : Nat} {lv : List (Nat × Value)} {st : List Value} {σ : gS} (C : gC X cc R_Fo nL fr lo) (d : decode cc pc = .ok (.getfield 9, 3)) (kk : G X (pc + 3) lv (.int (gI σ 1 0) :: st) σ) : G X pc lv (.ref (gA X 1) :: st) σ := r_get C (T := T_Fo) (N := 17) (ci := 1) (F := fl_Fo) 0 (by decide) cel_Fo rfl in_Fo (by decide) m_0 rfl d kk
theorem p_Fo_9 {X : gX} {cc : ByteArray} {nL fr lo pc : Nat} {lv : List (Nat × Value)} {st : List Value} {σ σ' : gS} {v : Int32} (C : gC X cc R_Fo nL fr lo) (e : σ' = sI σ 1 0 v) (d : decode cc pc = .ok (.putfield 9, 3)) (kk : G X (pc + 3) lv st σ') : G X pc lv (.int v :: .ref (gA X 1) :: st) σ := r_put C (T := T_Fo) (N := 17) (ci := 1) (F := fl_Fo) ty_Fo ty_Fo_ok nm_Fo 0 (by decide) cel_Fo rfl in_Fo (by decide) m_0 rfl (by decide +kernel) (fun a f => ⟨Nat.le_of_ble_eq_true rfl, rfl⟩) e d kk
theorem p_Fo_15 {X : gX} {cc : ByteArray} {nL fr lo pc : Nat} {lv : List (Nat × Value)} {st : List Value} {σ σ' : gS} {v : Int32} (C : gC X cc R_Fo nL fr lo) (e : σ' = sI σ 1 1 v) (d : decode cc pc = .ok (.putfield 15, 3)) (kk : G X (pc + 3) lv st σ') : G X pc lv (.int v :: .ref (gA X 1) :: st) σ := r_put C (T := T_Fo) (N := 17) (ci := 1) (F := fl_Fo) ty_Fo ty_Fo_ok nm_Fo 1 (by decide) cel_Fo rfl in_Fo (by decide) m_1 rfl (by decide +kernel) (fun a f => ⟨Nat.le_of_ble_eq_true rfl, rfl⟩) e d kk
theorem q_Fo_18 {X : gX} {cc : ByteArray} {nL fr lo pc : Nat} {lv : List (Nat × Value)} {st : List Value} {σ : gS} (C : gC X cc R_Fo nL fr lo) (d : decode cc pc = .ok (.getfield 18, 3)) (kk : G X (pc + 3) lv (.int (gI σ 1 2) :: st) σ) : G X pc lv (.ref (gA X 1) :: st) σ := r_get C (T := T_Fo) (N := 17) (ci := 1) (F := fl_Fo) 2 (by decide) cel_Fo rfl in_Fo (by decide) m_2 rfl d kk
theorem p_Fo_18 {X : gX} {cc : ByteArray} {nL fr lo pc : Nat} {lv : List (Nat × Value)} {st : List Value} {σ σ' : gS} {v : Int32} (C : gC X cc R_Fo nL fr lo) (e : σ' = sI σ 1 2 v) (d : decode cc pc = .ok (.putfield 18, 3)) (kk : G X (pc + 3) lv st σ') : G X pc lv (.int v :: .ref (gA X 1) :: st) σ := r_put C (T := T_Fo) (N := 17) (ci := 1) (F := fl_Fo) ty_Fo ty_Fo_ok nm_Fo 2 (by decide) cel_Fo rfl in_Fo (by decide) m_2 rfl (by decide +kernel) (fun a f => ⟨Nat.le_of_ble_eq_true rfl, rfl⟩) e d kk
theorem q_Ga_10 {X : gX} {cc : ByteArray} {nL fr lo pc : Nat} {lv : List (Nat × Value)} {st : List Value} {σ : gS} (C : gC X cc R_Ga nL fr lo) (d : decode cc pc = .ok (.getfield 10, 3)) (kk : G X (pc + 3) lv (.ref (gA X 1) :: st) σ) : G X pc lv (.ref (gA X 0) :: st) σ := r_get C (T := T_Ga) (N := 5) (ci := 0) (F := fl_Ga) 0 (by decide) cel_Ga rfl in_Ga (by decide) m_3 rfl d kk
theorem q_Fo_15 {X : gX} {cc : ByteArray} {nL fr lo pc : Nat} {lv : List (Nat × Value)} {st : List Value} {σ : gS} (C : gC X cc R_Fo nL fr lo) (d : decode cc pc = .ok (.getfield 15, 3)) (kk : G X (pc + 3) lv (.int (gI σ 1 1) :: st) σ) : G X pc lv (.ref (gA X 1) :: st) σ := r_get C (T := T_Fo) (N := 17) (ci := 1) (F := fl_Fo) 1 (by decide) cel_Fo rfl in_Fo (by decide) m_1 rfl d kk
theorem q_Fo_56 {X : gX} {cc : ByteArray} {nL fr lo pc : Nat} {lv : List (Nat × Value)} {st : List Value} {σ : gS} (C : gC X cc R_Fo nL fr lo) (d : decode cc pc = .ok (.getfield 56, 3)) (kk : G X (pc + 3) lv (.ref (gA X 13) :: st) σ) : G X pc lv (.ref (gA X 1) :: st) σ := r_get C (T := T_Fo) (N := 17) (ci := 1) (F := fl_Fo) 14 (by decide) cel_Fo rfl in_Fo (by decide) m_9 rfl d kk
theorem q_Fo_31 {X : gX} {cc : ByteArray} {nL fr lo pc : Nat} {lv : List (Nat × Value)} {st : List Value} {σ : gS} (C : gC X cc R_Fo nL fr lo) (d : decode cc pc = .ok (.getfield 31, 3)) (kk : G X (pc + 3) lv (.ref (gA X 5) :: st) σ) : G X pc lv (.ref (gA X 1) :: st) σ := r_get C (T := T_Fo) (N := 17) (ci := 1) (F := fl_Fo) 6 (by decide) cel_Fo rfl in_Fo (by decide) m_10 rfl d kk
theorem q_Fo_59 {X : gX} {cc : ByteArray} {nL fr lo pc : Nat} {lv : List (Nat × Value)} {st : List Value} {σ : gS} (C : gC X cc R_Fo nL fr lo) (d : decode cc pc = .ok (.getfield 59, 3)) (kk : G X (pc + 3) lv (.ref (gA X 14) :: st) σ) : G X pc lv (.ref (gA X 1) :: st) σ := r_get C (T := T_Fo) (N := 17) (ci := 1) (F := fl_Fo) 15 (by decide) cel_Fo rfl in_Fo (by decide) m_11 rfl d kk
theorem q_Fo_37 {X : gX} {cc : ByteArray} {nL fr lo pc : Nat} {lv : List (Nat × Value)} {st : List Value} {σ : gS} (C : gC X cc R_Fo nL fr lo) (d : decode cc pc = .ok (.getfield 37, 3)) (kk : G X (pc + 3) lv (.ref (gA X 7) :: st) σ) : G X pc lv (.ref (gA X 1) :: st) σ := r_get C (T := T_Fo) (N := 17) (ci := 1) (F := fl_Fo) 8 (by decide) cel_Fo rfl in_Fo (by decide) m_23 rfl d kk
theorem q_Fo_21 {X : gX} {cc : ByteArray} {nL fr lo pc : Nat} {lv : List (Nat × Value)} {st : List Value} {σ : gS} (C : gC X cc R_Fo nL fr lo) (d : decode cc pc = .ok (.getfield 21, 3)) (kk : G X (pc + 3) lv (.ref (gA X 2) :: st) σ) : G X pc lv (.ref (gA X 1) :: st) σ := r_get C (T := T_Fo) (N := 17) (ci := 1) (F := fl_Fo) 3 (by decide) cel_Fo rfl in_Fo (by decide) m_24 rfl d kk
theorem q_Fo_25 {X : gX} {cc : ByteArray} {nL fr lo pc : Nat} {lv : List (Nat × Value)} {st : List Value} {σ : gS} (C : gC X cc R_Fo nL fr lo) (d : decode cc pc = .ok (.getfield 25, 3)) (kk : G X (pc + 3) lv (.ref (gA X 3) :: st) σ) : G X pc lv (.ref (gA X 1) :: st) σ := r_get C (T := T_Fo) (N := 17) (ci := 1) (F := fl_Fo) 4 (by decide) cel_Fo rfl in_Fo (by decide) m_25 rfl d kk
theorem q_Fo_40 {X : gX} {cc : ByteArray} {nL fr lo pc : Nat} {lv : List (Nat × Value)} {st : List Value} {σ : gS} (C : gC X cc R_Fo nL fr lo) (d : decode cc pc = .ok (.getfield 40, 3)) (kk : G X (pc + 3) lv (.ref (gA X 8) :: st) σ) : G X pc lv (.ref (gA X 1) :: st) σ := r_get C (T := T_Fo) (N := 17) (ci := 1) (F := fl_Fo) 9 (by decide) cel_Fo rfl in_Fo (by decide) m_26 rfl d kk
theorem q_Fo_28 {X : gX} {cc : ByteArray} {nL fr lo pc : Nat} {lv : List (Nat × Value)} {st : List Value} {σ : gS} (C : gC X cc R_Fo nL fr lo) (d : decode cc pc = .ok (.getfield 28, 3)) (kk : G X (pc + 3) lv (.ref (gA X 4) :: st) σ) : G X pc lv (.ref (gA X 1) :: st) σ := r_get C (T := T_Fo) (N := 17) (ci := 1) (F := fl_Fo) 5 (by decide) cel_Fo rfl in_Fo (by decide) m_27 rfl d kk
theorem q_Fo_49 {X : gX} {cc : ByteArray} {nL fr lo pc : Nat} {lv : List (Nat × Value)} {st : List Value} {σ : gS} (C : gC X cc R_Fo nL fr lo) (d : decode cc pc = .ok (.getfield 49, 3)) (kk : G X (pc + 3) lv (.ref (gA X 11) :: st) σ) : G X pc lv (.ref (gA X 1) :: st) σ := r_get C (T := T_Fo) (N := 17) (ci := 1) (F := fl_Fo) 12 (by decide) cel_Fo rfl in_Fo (by decide) m_28 rfl d kk
theorem q_Fo_34 {X : gX} {cc : ByteArray} {nL fr lo pc : Nat} {lv : List (Nat × Value)} {st : List Value} {σ : gS} (C : gC X cc R_Fo nL fr lo) (d : decode cc pc = .ok (.getfield 34, 3)) (kk : G X (pc + 3) lv (.ref (gA X 6) :: st) σ) : G X pc lv (.ref (gA X 1) :: st) σ := r_get C (T := T_Fo) (N := 17) (ci := 1) (F := fl_Fo) 7 (by decide) cel_Fo rfl in_Fo (by decide) m_33 rfl d kk
theorem q_Fo_43 {X : gX} {cc : ByteArray} {nL fr lo pc : Nat} {lv : List (Nat × Value)} {st : List Value} {σ : gS} (C : gC X cc R_Fo nL fr lo) (d : decode cc pc = .ok (.getfield 43, 3)) (kk : G X (pc + 3) lv (.ref (gA X 9) :: st) σ) : G X pc lv (.ref (gA X 1) :: st) σ := r_get C (T := T_Fo) (N := 17) (ci := 1) (F := fl_Fo) 10 (by decide) cel_Fo rfl in_Fo (by decide) m_34 rfl d kk
theorem q_Fo_46 {X : gX} {cc : ByteArray} {nL fr lo pc : Nat} {lv : List (Nat × Value)} {st : List Value} {σ : gS} (C : gC X cc R_Fo nL fr lo) (d : decode cc pc = .ok (.getfield 46, 3)) (kk : G X (pc + 3) lv (.ref (gA X 10) :: st) σ) : G X pc lv (.ref (gA X 1) :: st) σ := r_get C (T := T_Fo) (N := 17) (ci := 1) (F := fl_Fo) 11 (by decide) cel_Fo rfl in_Fo (by decide) m_35 rfl d kk
theorem q_Fo_53 {X : gX} {cc : ByteArray} {nL fr lo pc : Nat} {lv : List (Nat × Value)} {st : List Value} {σ : gS} (C : gC X cc R_Fo nL fr lo) (d : decode cc pc = .ok (.getfield 53, 3)) (kk : G X (pc + 3) lv (.ref (gA X 12) :: st) σ) : G X pc lv (.ref (gA X 1) :: st) σ := r_get C (T := T_Fo) (N := 17) (ci := 1) (F := fl_Fo) 13 (by decide) cel_Fo rfl in_Fo (by decide) m_36 rfl d kk
theorem q_Fo_62 {X : gX} {cc : ByteArray} {nL fr lo pc : Nat} {lv : List (Nat × Value)} {st : List Value} {σ : gS} (C : gC X cc R_Fo nL fr lo) (d : decode cc pc = .ok (.getfield 62, 3)) (kk : G X (pc + 3) lv (.ref (gA X 15) :: st) σ) : G X pc lv (.ref (gA X 1) :: st) σ := r_get C (T := T_Fo) (N := 17) (ci := 1) (F := fl_Fo) 16 (by decide) cel_Fo rfl in_Fo (by decide) m_41 rfl d kk
theorem q_Ga_77 {X : gX} {cc : ByteArray} {nL fr lo pc : Nat} {lv : List (Nat × Value)} {st : List Value} {σ : gS} (C : gC X cc R_Ga nL fr lo) (d : decode cc pc = .ok (.getfield 77, 3)) (kk : G X (pc + 3) lv (.ref (gA X 5) :: st) σ) : G X pc lv (.ref (gA X 1) :: st) σ := r_get C (T := T_Fo) (N := 17) (ci := 1) (F := fl_Fo) 6 (by decide) cel_Fo rfl in_Fo (by decide) m_88 rfl d kk
theorem q_Ga_86 {X : gX} {cc : ByteArray} {nL fr lo pc : Nat} {lv : List (Nat × Value)} {st : List Value} {σ : gS} (C : gC X cc R_Ga nL fr lo) (d : decode cc pc = .ok (.getfield 86, 3)) (kk : G X (pc + 3) lv (.int (gI σ 1 0) :: st) σ) : G X pc lv (.ref (gA X 1) :: st) σ := r_get C (T := T_Fo) (N := 17) (ci := 1) (F := fl_Fo) 0 (by decide) cel_Fo rfl in_Fo (by decide) m_89 rfl d kk
theorem q_Ta_23 {X : gX} {cc : ByteArray} {nL fr lo pc : Nat} {lv : List (Nat × Value)} {st : List Value} {σ : gS} (C : gC X cc R_Ta nL fr lo) (d : decode cc pc = .ok (.getfield 23, 3)) (kk : G X (pc + 3) lv (.ref (gA X 22) :: st) σ) : G X pc lv (.ref (gA X 16) :: st) σ := r_get C (T := T_Ta) (N := 7) (ci := 2) (F := fl_Ta) 4 (by decide) cel_Ta rfl in_Ta (by decide) m_111 rfl d kk
theorem q_Ta_33 {X : gX} {cc : ByteArray} {nL fr lo pc : Nat} {lv : List (Nat × Value)} {st : List Value} {σ : gS} (C : gC X cc R_Ta nL fr lo) (d : decode cc pc = .ok (.getfield 33, 3)) (kk : G X (pc + 3) lv (.ref (gA X 1) :: st) σ) : G X pc lv (.ref (gA X 16) :: st) σ := r_get C (T := T_Ta) (N := 7) (ci := 2) (F := fl_Ta) 1 (by decide) cel_Ta rfl in_Ta (by decide) m_112 rfl d kk
theorem q_Ta_83 {X : gX} {cc : ByteArray} {nL fr lo pc : Nat} {lv : List (Nat × Value)} {st : List Value} {σ : gS} (C : gC X cc R_Ta nL fr lo) (d : decode cc pc = .ok (.getfield 83, 3)) (kk : G X (pc + 3) lv (.ref (gA X 8) :: st) σ) : G X pc lv (.ref (gA X 1) :: st) σ := r_get C (T := T_Fo) (N := 17) (ci := 1) (F := fl_Fo) 9 (by decide) cel_Fo rfl in_Fo (by decide) m_117 rfl d kk
theorem q_Ta_17 {X : gX} {cc : ByteArray} {nL fr lo pc : Nat} {lv : List (Nat × Value)} {st : List Value} {σ : gS} (C : gC X cc R_Ta nL fr lo) (d : decode cc pc = .ok (.getfield 17, 3)) (kk : G X (pc + 3) lv (.ref (gA X 18) :: st) σ) : G X pc lv (.ref (gA X 16) :: st) σ := r_get C (T := T_Ta) (N := 7) (ci := 2) (F := fl_Ta) 2 (by decide) cel_Ta rfl in_Ta (by decide) m_118 rfl d kk
theorem q_Ta_68 {X : gX} {cc : ByteArray} {nL fr lo pc : Nat} {lv : List (Nat × Value)} {st : List Value} {σ : gS} (C : gC X cc R_Ta nL fr lo) (d : decode cc pc = .ok (.getfield 68, 3)) (kk : G X (pc + 3) lv (.ref (gA X 2) :: st) σ) : G X pc lv (.ref (gA X 1) :: st) σ := r_get C (T := T_Fo) (N := 17) (ci := 1) (F := fl_Fo) 3 (by decide) cel_Fo rfl in_Fo (by decide) m_119 rfl d kk
theorem q_Ta_20 {X : gX} {cc : ByteArray} {nL fr lo pc : Nat} {lv : List (Nat × Value)} {st : List Value} {σ : gS} (C : gC X cc R_Ta nL fr lo) (d : decode cc pc = .ok (.getfield 20, 3)) (kk : G X (pc + 3) lv (.ref (gA X 21) :: st) σ) : G X pc lv (.ref (gA X 16) :: st) σ := r_get C (T := T_Ta) (N := 7) (ci := 2) (F := fl_Ta) 3 (by decide) cel_Ta rfl in_Ta (by decide) m_120 rfl d kk
theorem q_Ta_77 {X : gX} {cc : ByteArray} {nL fr lo pc : Nat} {lv : List (Nat × Value)} {st : List Value} {σ : gS} (C : gC X cc R_Ta nL fr lo) (d : decode cc pc = .ok (.getfield 77, 3)) (kk : G X (pc + 3) lv (.ref (gA X 3) :: st) σ) : G X pc lv (.ref (gA X 1) :: st) σ := r_get C (T := T_Fo) (N := 17) (ci := 1) (F := fl_Fo) 4 (by decide) cel_Fo rfl in_Fo (by decide) m_121 rfl d kk
theorem q_Ta_9 {X : gX} {cc : ByteArray} {nL fr lo pc : Nat} {lv : List (Nat × Value)} {st : List Value} {σ : gS} (C : gC X cc R_Ta nL fr lo) (d : decode cc pc = .ok (.getfield 9, 3)) (kk : G X (pc + 3) lv (.ref (gA X 17) :: st) σ) : G X pc lv (.ref (gA X 16) :: st) σ := r_get C (T := T_Ta) (N := 7) (ci := 2) (F := fl_Ta) 0 (by decide) cel_Ta rfl in_Ta (by decide) m_135 rfl d kk
theorem q_Ta_47 {X : gX} {cc : ByteArray} {nL fr lo pc : Nat} {lv : List (Nat × Value)} {st : List Value} {σ : gS} (C : gC X cc R_Ta nL fr lo) (d : decode cc pc = .ok (.getfield 47, 3)) (kk : G X (pc + 3) lv (.int (gI σ 1 2) :: st) σ) : G X pc lv (.ref (gA X 1) :: st) σ := r_get C (T := T_Fo) (N := 17) (ci := 1) (F := fl_Fo) 2 (by decide) cel_Fo rfl in_Fo (by decide) m_144 rfl d kk
theorem p_Ta_26 {X : gX} {cc : ByteArray} {nL fr lo pc : Nat} {lv : List (Nat × Value)} {st : List Value} {σ σ' : gS} {v : Int32} (C : gC X cc R_Ta nL fr lo) (e : σ' = sI σ 16 5 v) (d : decode cc pc = .ok (.putfield 26, 3)) (kk : G X (pc + 3) lv st σ') : G X pc lv (.int v :: .ref (gA X 16) :: st) σ := r_put C (T := T_Ta) (N := 7) (ci := 2) (F := fl_Ta) ty_Ta ty_Ta_ok nm_Ta 5 (by decide) cel_Ta rfl in_Ta (by decide) m_145 rfl (by decide +kernel) (fun a f => ⟨Nat.le_of_ble_eq_true rfl, rfl⟩) e d kk
theorem p_Ta_30 {X : gX} {cc : ByteArray} {nL fr lo pc : Nat} {lv : List (Nat × Value)} {st : List Value} {σ σ' : gS} {v : Int32} (C : gC X cc R_Ta nL fr lo) (e : σ' = sI σ 16 6 v) (d : decode cc pc = .ok (.putfield 30, 3)) (kk : G X (pc + 3) lv st σ') : G X pc lv (.int v :: .ref (gA X 16) :: st) σ := r_put C (T := T_Ta) (N := 7) (ci := 2) (F := fl_Ta) ty_Ta ty_Ta_ok nm_Ta 6 (by decide) cel_Ta rfl in_Ta (by decide) m_146 rfl (by decide +kernel) (fun a f => ⟨Nat.le_of_ble_eq_true rfl, rfl⟩) e d kk
theorem q_Ta_26 {X : gX} {cc : ByteArray} {nL fr lo pc : Nat} {lv : List (Nat × Value)} {st : List Value} {σ : gS} (C : gC X cc R_Ta nL fr lo) (d : decode cc pc = .ok (.getfield 26, 3)) (kk : G X (pc + 3) lv (.int (gI σ 16 5) :: st) σ) : G X pc lv (.ref (gA X 16) :: st) σ := r_get C (T := T_Ta) (N := 7) (ci := 2) (F := fl_Ta) 5 (by decide) cel_Ta rfl in_Ta (by decide) m_145 rfl d kk
theorem q_Ta_30 {X : gX} {cc : ByteArray} {nL fr lo pc : Nat} {lv : List (Nat × Value)} {st : List Value} {σ : gS} (C : gC X cc R_Ta nL fr lo) (d : decode cc pc = .ok (.getfield 30, 3)) (kk : G X (pc + 3) lv (.int (gI σ 16 6) :: st) σ) : G X pc lv (.ref (gA X 16) :: st) σ := r_get C (T := T_Ta) (N := 7) (ci := 2) (F := fl_Ta) 6 (by decide) cel_Ta rfl in_Ta (by decide) m_146 rfl d kk
theorem q_Po_25 {X : gX} {cc : ByteArray} {nL fr lo pc : Nat} {lv : List (Nat × Value)} {st : List Value} {σ : gS} (C : gC X cc R_Po nL fr lo) (d : decode cc pc = .ok (.getfield 25, 3)) (kk : G X (pc + 3) lv (.ref (gA X 31) :: st) σ) : G X pc lv (.ref (gA X 23) :: st) σ := r_get C (T := T_Po) (N := 6) (ci := 3) (F := fl_Po) 5 (by decide) cel_Po rfl in_Po (by decide) m_155 rfl d kk
theorem q_Po_28 {X : gX} {cc : ByteArray} {nL fr lo pc : Nat} {lv : List (Nat × Value)} {st : List Value} {σ : gS} (C : gC X cc R_Po nL fr lo) (d : decode cc pc = .ok (.getfield 28, 3)) (kk : G X (pc + 3) lv (.ref (gA X 1) :: st) σ) : G X pc lv (.ref (gA X 23) :: st) σ := r_get C (T := T_Po) (N := 6) (ci := 3) (F := fl_Po) 0 (by decide) cel_Po rfl in_Po (by decide) m_156 rfl d kk
theorem q_Po_32 {X : gX} {cc : ByteArray} {nL fr lo pc : Nat} {lv : List (Nat × Value)} {st : List Value} {σ : gS} (C : gC X cc R_Po nL fr lo) (d : decode cc pc = .ok (.getfield 32, 3)) (kk : G X (pc + 3) lv (.ref (gA X 16) :: st) σ) : G X pc lv (.ref (gA X 23) :: st) σ := r_get C (T := T_Po) (N := 6) (ci := 3) (F := fl_Po) 1 (by decide) cel_Po rfl in_Po (by decide) m_169 rfl d kk
theorem q_Po_115 {X : gX} {cc : ByteArray} {nL fr lo pc : Nat} {lv : List (Nat × Value)} {st : List Value} {σ : gS} (C : gC X cc R_Po nL fr lo) (d : decode cc pc = .ok (.getfield 115, 3)) (kk : G X (pc + 3) lv (.ref (gA X 17) :: st) σ) : G X pc lv (.ref (gA X 16) :: st) σ := r_get C (T := T_Ta) (N := 7) (ci := 2) (F := fl_Ta) 0 (by decide) cel_Ta rfl in_Ta (by decide) m_170 rfl d kk
theorem q_Po_22 {X : gX} {cc : ByteArray} {nL fr lo pc : Nat} {lv : List (Nat × Value)} {st : List Value} {σ : gS} (C : gC X cc R_Po nL fr lo) (d : decode cc pc = .ok (.getfield 22, 3)) (kk : G X (pc + 3) lv (.ref (gA X 28) :: st) σ) : G X pc lv (.ref (gA X 23) :: st) σ := r_get C (T := T_Po) (N := 6) (ci := 3) (F := fl_Po) 4 (by decide) cel_Po rfl in_Po (by decide) m_173 rfl d kk
theorem q_Po_68 {X : gX} {cc : ByteArray} {nL fr lo pc : Nat} {lv : List (Nat × Value)} {st : List Value} {σ : gS} (C : gC X cc R_Po nL fr lo) (d : decode cc pc = .ok (.getfield 68, 3)) (kk : G X (pc + 3) lv (.int (gI σ 1 0) :: st) σ) : G X pc lv (.ref (gA X 1) :: st) σ := r_get C (T := T_Fo) (N := 17) (ci := 1) (F := fl_Fo) 0 (by decide) cel_Fo rfl in_Fo (by decide) m_197 rfl d kk
theorem q_Po_11 {X : gX} {cc : ByteArray} {nL fr lo pc : Nat} {lv : List (Nat × Value)} {st : List Value} {σ : gS} (C : gC X cc R_Po nL fr lo) (d : decode cc pc = .ok (.getfield 11, 3)) (kk : G X (pc + 3) lv (.ref (gA X 24) :: st) σ) : G X pc lv (.ref (gA X 23) :: st) σ := r_get C (T := T_Po) (N := 6) (ci := 3) (F := fl_Po) 2 (by decide) cel_Po rfl in_Po (by decide) m_198 rfl d kk
theorem q_Po_16 {X : gX} {cc : ByteArray} {nL fr lo pc : Nat} {lv : List (Nat × Value)} {st : List Value} {σ : gS} (C : gC X cc R_Po nL fr lo) (d : decode cc pc = .ok (.getfield 16, 3)) (kk : G X (pc + 3) lv (.ref (gA X 27) :: st) σ) : G X pc lv (.ref (gA X 23) :: st) σ := r_get C (T := T_Po) (N := 6) (ci := 3) (F := fl_Po) 3 (by decide) cel_Po rfl in_Po (by decide) m_206 rfl d kk
theorem q_Po_40 {X : gX} {cc : ByteArray} {nL fr lo pc : Nat} {lv : List (Nat × Value)} {st : List Value} {σ : gS} (C : gC X cc R_Po nL fr lo) (d : decode cc pc = .ok (.getfield 40, 3)) (kk : G X (pc + 3) lv (.int (gI σ 1 2) :: st) σ) : G X pc lv (.ref (gA X 1) :: st) σ := r_get C (T := T_Fo) (N := 17) (ci := 1) (F := fl_Fo) 2 (by decide) cel_Fo rfl in_Fo (by decide) m_207 rfl d kk
theorem q_Le_28 {X : gX} {cc : ByteArray} {nL fr lo pc : Nat} {lv : List (Nat × Value)} {st : List Value} {σ : gS} (C : gC X cc R_Le nL fr lo) (d : decode cc pc = .ok (.getfield 28, 3)) (kk : G X (pc + 3) lv (.ref (gA X 16) :: st) σ) : G X pc lv (.ref (gA X 34) :: st) σ := r_get C (T := T_Le) (N := 5) (ci := 4) (F := fl_Le) 1 (by decide) cel_Le rfl in_Le (by decide) m_228 rfl d kk
theorem q_Le_49 {X : gX} {cc : ByteArray} {nL fr lo pc : Nat} {lv : List (Nat × Value)} {st : List Value} {σ : gS} (C : gC X cc R_Le nL fr lo) (d : decode cc pc = .ok (.getfield 49, 3)) (kk : G X (pc + 3) lv (.ref (gA X 17) :: st) σ) : G X pc lv (.ref (gA X 16) :: st) σ := r_get C (T := T_Ta) (N := 7) (ci := 2) (F := fl_Ta) 0 (by decide) cel_Ta rfl in_Ta (by decide) m_229 rfl d kk
theorem q_Le_16 {X : gX} {cc : ByteArray} {nL fr lo pc : Nat} {lv : List (Nat × Value)} {st : List Value} {σ : gS} (C : gC X cc R_Le nL fr lo) (d : decode cc pc = .ok (.getfield 16, 3)) (kk : G X (pc + 3) lv (.ref (gA X 38) :: st) σ) : G X pc lv (.ref (gA X 34) :: st) σ := r_get C (T := T_Le) (N := 5) (ci := 4) (F := fl_Le) 3 (by decide) cel_Le rfl in_Le (by decide) m_230 rfl d kk
theorem q_Le_11 {X : gX} {cc : ByteArray} {nL fr lo pc : Nat} {lv : List (Nat × Value)} {st : List Value} {σ : gS} (C : gC X cc R_Le nL fr lo) (d : decode cc pc = .ok (.getfield 11, 3)) (kk : G X (pc + 3) lv (.ref (gA X 35) :: st) σ) : G X pc lv (.ref (gA X 34) :: st) σ := r_get C (T := T_Le) (N := 5) (ci := 4) (F := fl_Le) 2 (by decide) cel_Le rfl in_Le (by decide) m_236 rfl d kk
theorem q_Le_20 {X : gX} {cc : ByteArray} {nL fr lo pc : Nat} {lv : List (Nat × Value)} {st : List Value} {σ : gS} (C : gC X cc R_Le nL fr lo) (d : decode cc pc = .ok (.getfield 20, 3)) (kk : G X (pc + 3) lv (.int (gI σ 34 4) :: st) σ) : G X pc lv (.ref (gA X 34) :: st) σ := r_get C (T := T_Le) (N := 5) (ci := 4) (F := fl_Le) 4 (by decide) cel_Le rfl in_Le (by decide) m_247 rfl d kk
theorem q_Le_24 {X : gX} {cc : ByteArray} {nL fr lo pc : Nat} {lv : List (Nat × Value)} {st : List Value} {σ : gS} (C : gC X cc R_Le nL fr lo) (d : decode cc pc = .ok (.getfield 24, 3)) (kk : G X (pc + 3) lv (.ref (gA X 1) :: st) σ) : G X pc lv (.ref (gA X 34) :: st) σ := r_get C (T := T_Le) (N := 5) (ci := 4) (F := fl_Le) 0 (by decide) cel_Le rfl in_Le (by decide) m_248 rfl d kk
theorem q_Le_38 {X : gX} {cc : ByteArray} {nL fr lo pc : Nat} {lv : List (Nat × Value)} {st : List Value} {σ : gS} (C : gC X cc R_Le nL fr lo) (d : decode cc pc = .ok (.getfield 38, 3)) (kk : G X (pc + 3) lv (.int (gI σ 1 2) :: st) σ) : G X pc lv (.ref (gA X 1) :: st) σ := r_get C (T := T_Fo) (N := 17) (ci := 1) (F := fl_Fo) 2 (by decide) cel_Fo rfl in_Fo (by decide) m_249 rfl d kk
theorem p_Le_20 {X : gX} {cc : ByteArray} {nL fr lo pc : Nat} {lv : List (Nat × Value)} {st : List Value} {σ σ' : gS} {v : Int32} (C : gC X cc R_Le nL fr lo) (e : σ' = sI σ 34 4 v) (d : decode cc pc = .ok (.putfield 20, 3)) (kk : G X (pc + 3) lv st σ') : G X pc lv (.int v :: .ref (gA X 34) :: st) σ := r_put C (T := T_Le) (N := 5) (ci := 4) (F := fl_Le) ty_Le ty_Le_ok nm_Le 4 (by decide) cel_Le rfl in_Le (by decide) m_247 rfl (by decide +kernel) (fun a f => ⟨Nat.le_of_ble_eq_true rfl, rfl⟩) e d kk
theorem q_Ga_90 {X : gX} {cc : ByteArray} {nL fr lo pc : Nat} {lv : List (Nat × Value)} {st : List Value} {σ : gS} (C : gC X cc R_Ga nL fr lo) (d : decode cc pc = .ok (.getfield 90, 3)) (kk : G X (pc + 3) lv (.int (gI σ 1 1) :: st) σ) : G X pc lv (.ref (gA X 1) :: st) σ := r_get C (T := T_Fo) (N := 17) (ci := 1) (F := fl_Fo) 1 (by decide) cel_Fo rfl in_Fo (by decide) m_255 rfl d kk
theorem q_Ga_30 {X : gX} {cc : ByteArray} {nL fr lo pc : Nat} {lv : List (Nat × Value)} {st : List Value} {σ : gS} (C : gC X cc R_Ga nL fr lo) (d : decode cc pc = .ok (.getfield 30, 3)) (kk : G X (pc + 3) lv (.ref (gA X 23) :: st) σ) : G X pc lv (.ref (gA X 0) :: st) σ := r_get C (T := T_Ga) (N := 5) (ci := 0) (F := fl_Ga) 2 (by decide) cel_Ga rfl in_Ga (by decide) m_259 rfl d kk
theorem q_Ga_21 {X : gX} {cc : ByteArray} {nL fr lo pc : Nat} {lv : List (Nat × Value)} {st : List Value} {σ : gS} (C : gC X cc R_Ga nL fr lo) (d : decode cc pc = .ok (.getfield 21, 3)) (kk : G X (pc + 3) lv (.ref (gA X 16) :: st) σ) : G X pc lv (.ref (gA X 0) :: st) σ := r_get C (T := T_Ga) (N := 5) (ci := 0) (F := fl_Ga) 1 (by decide) cel_Ga rfl in_Ga (by decide) m_269 rfl d kk
theorem q_Ga_37 {X : gX} {cc : ByteArray} {nL fr lo pc : Nat} {lv : List (Nat × Value)} {st : List Value} {σ : gS} (C : gC X cc R_Ga nL fr lo) (d : decode cc pc = .ok (.getfield 37, 3)) (kk : G X (pc + 3) lv (.ref (gA X 34) :: st) σ) : G X pc lv (.ref (gA X 0) :: st) σ := r_get C (T := T_Ga) (N := 5) (ci := 0) (F := fl_Ga) 3 (by decide) cel_Ga rfl in_Ga (by decide) m_274 rfl d kk
theorem q_Ga_142 {X : gX} {cc : ByteArray} {nL fr lo pc : Nat} {lv : List (Nat × Value)} {st : List Value} {σ : gS} (C : gC X cc R_Ga nL fr lo) (d : decode cc pc = .ok (.getfield 142, 3)) (kk : G X (pc + 3) lv (.ref (gA X 4) :: st) σ) : G X pc lv (.ref (gA X 1) :: st) σ := r_get C (T := T_Fo) (N := 17) (ci := 1) (F := fl_Fo) 5 (by decide) cel_Fo rfl in_Fo (by decide) m_290 rfl d kk
theorem q_Ga_139 {X : gX} {cc : ByteArray} {nL fr lo pc : Nat} {lv : List (Nat × Value)} {st : List Value} {σ : gS} (C : gC X cc R_Ga nL fr lo) (d : decode cc pc = .ok (.getfield 139, 3)) (kk : G X (pc + 3) lv (.ref (gA X 3) :: st) σ) : G X pc lv (.ref (gA X 1) :: st) σ := r_get C (T := T_Fo) (N := 17) (ci := 1) (F := fl_Fo) 4 (by decide) cel_Fo rfl in_Fo (by decide) m_291 rfl d kk
theorem q_Ga_133 {X : gX} {cc : ByteArray} {nL fr lo pc : Nat} {lv : List (Nat × Value)} {st : List Value} {σ : gS} (C : gC X cc R_Ga nL fr lo) (d : decode cc pc = .ok (.getfield 133, 3)) (kk : G X (pc + 3) lv (.ref (gA X 2) :: st) σ) : G X pc lv (.ref (gA X 1) :: st) σ := r_get C (T := T_Fo) (N := 17) (ci := 1) (F := fl_Fo) 3 (by decide) cel_Fo rfl in_Fo (by decide) m_292 rfl d kk
theorem q_An_30 {X : gX} {cc : ByteArray} {nL fr lo pc : Nat} {lv : List (Nat × Value)} {st : List Value} {σ : gS} (C : gC X cc R_An nL fr lo) (d : decode cc pc = .ok (.getfield 30, 3)) (kk : G X (pc + 3) lv (.ref (gA X 16) :: st) σ) : G X pc lv (.ref (gA X 39) :: st) σ := r_get C (T := T_An) (N := 6) (ci := 5) (F := fl_An) 1 (by decide) cel_An rfl in_An (by decide) m_371 rfl d kk
theorem q_An_38 {X : gX} {cc : ByteArray} {nL fr lo pc : Nat} {lv : List (Nat × Value)} {st : List Value} {σ : gS} (C : gC X cc R_An nL fr lo) (d : decode cc pc = .ok (.getfield 38, 3)) (kk : G X (pc + 3) lv (.ref (gA X 17) :: st) σ) : G X pc lv (.ref (gA X 16) :: st) σ := r_get C (T := T_Ta) (N := 7) (ci := 2) (F := fl_Ta) 0 (by decide) cel_Ta rfl in_Ta (by decide) m_372 rfl d kk
theorem q_An_16 {X : gX} {cc : ByteArray} {nL fr lo pc : Nat} {lv : List (Nat × Value)} {st : List Value} {σ : gS} (C : gC X cc R_An nL fr lo) (d : decode cc pc = .ok (.getfield 16, 3)) (kk : G X (pc + 3) lv (.ref (gA X 43) :: st) σ) : G X pc lv (.ref (gA X 39) :: st) σ := r_get C (T := T_An) (N := 6) (ci := 5) (F := fl_An) 3 (by decide) cel_An rfl in_An (by decide) m_373 rfl d kk
theorem q_An_19 {X : gX} {cc : ByteArray} {nL fr lo pc : Nat} {lv : List (Nat × Value)} {st : List Value} {σ : gS} (C : gC X cc R_An nL fr lo) (d : decode cc pc = .ok (.getfield 19, 3)) (kk : G X (pc + 3) lv (.int (gI σ 39 4) :: st) σ) : G X pc lv (.ref (gA X 39) :: st) σ := r_get C (T := T_An) (N := 6) (ci := 5) (F := fl_An) 4 (by decide) cel_An rfl in_An (by decide) m_375 rfl d kk
theorem p_An_19 {X : gX} {cc : ByteArray} {nL fr lo pc : Nat} {lv : List (Nat × Value)} {st : List Value} {σ σ' : gS} {v : Int32} (C : gC X cc R_An nL fr lo) (e : σ' = sI σ 39 4 v) (d : decode cc pc = .ok (.putfield 19, 3)) (kk : G X (pc + 3) lv st σ') : G X pc lv (.int v :: .ref (gA X 39) :: st) σ := r_put C (T := T_An) (N := 6) (ci := 5) (F := fl_An) ty_An ty_An_ok nm_An 4 (by decide) cel_An rfl in_An (by decide) m_375 rfl (by decide +kernel) (fun a f => ⟨Nat.le_of_ble_eq_true rfl, rfl⟩) e d kk
theorem q_An_11 {X : gX} {cc : ByteArray} {nL fr lo pc : Nat} {lv : List (Nat × Value)} {st : List Value} {σ : gS} (C : gC X cc R_An nL fr lo) (d : decode cc pc = .ok (.getfield 11, 3)) (kk : G X (pc + 3) lv (.ref (gA X 40) :: st) σ) : G X pc lv (.ref (gA X 39) :: st) σ := r_get C (T := T_An) (N := 6) (ci := 5) (F := fl_An) 2 (by decide) cel_An rfl in_An (by decide) m_377 rfl d kk
theorem q_An_23 {X : gX} {cc : ByteArray} {nL fr lo pc : Nat} {lv : List (Nat × Value)} {st : List Value} {σ : gS} (C : gC X cc R_An nL fr lo) (d : decode cc pc = .ok (.getfield 23, 3)) (kk : G X (pc + 3) lv (.int (gI σ 39 5) :: st) σ) : G X pc lv (.ref (gA X 39) :: st) σ := r_get C (T := T_An) (N := 6) (ci := 5) (F := fl_An) 5 (by decide) cel_An rfl in_An (by decide) m_387 rfl d kk
theorem q_An_26 {X : gX} {cc : ByteArray} {nL fr lo pc : Nat} {lv : List (Nat × Value)} {st : List Value} {σ : gS} (C : gC X cc R_An nL fr lo) (d : decode cc pc = .ok (.getfield 26, 3)) (kk : G X (pc + 3) lv (.ref (gA X 1) :: st) σ) : G X pc lv (.ref (gA X 39) :: st) σ := r_get C (T := T_An) (N := 6) (ci := 5) (F := fl_An) 0 (by decide) cel_An rfl in_An (by decide) m_388 rfl d kk
theorem q_An_59 {X : gX} {cc : ByteArray} {nL fr lo pc : Nat} {lv : List (Nat × Value)} {st : List Value} {σ : gS} (C : gC X cc R_An nL fr lo) (d : decode cc pc = .ok (.getfield 59, 3)) (kk : G X (pc + 3) lv (.int (gI σ 1 2) :: st) σ) : G X pc lv (.ref (gA X 1) :: st) σ := r_get C (T := T_Fo) (N := 17) (ci := 1) (F := fl_Fo) 2 (by decide) cel_Fo rfl in_Fo (by decide) m_389 rfl d kk
theorem p_An_23 {X : gX} {cc : ByteArray} {nL fr lo pc : Nat} {lv : List (Nat × Value)} {st : List Value} {σ σ' : gS} {v : Int32} (C : gC X cc R_An nL fr lo) (e : σ' = sI σ 39 5 v) (d : decode cc pc = .ok (.putfield 23, 3)) (kk : G X (pc + 3) lv st σ') : G X pc lv (.int v :: .ref (gA X 39) :: st) σ := r_put C (T := T_An) (N := 6) (ci := 5) (F := fl_An) ty_An ty_An_ok nm_An 5 (by decide) cel_An rfl in_An (by decide) m_387 rfl (by decide +kernel) (fun a f => ⟨Nat.le_of_ble_eq_true rfl, rfl⟩) e d kk
theorem q_Ga_44 {X : gX} {cc : ByteArray} {nL fr lo pc : Nat} {lv : List (Nat × Value)} {st : List Value} {σ : gS} (C : gC X cc R_Ga nL fr lo) (d : decode cc pc = .ok (.getfield 44, 3)) (kk : G X (pc + 3) lv (.ref (gA X 39) :: st) σ) : G X pc lv (.ref (gA X 0) :: st) σ := r_get C (T := T_Ga) (N := 5) (ci := 0) (F := fl_Ga) 4 (by decide) cel_Ga rfl in_Ga (by decide) m_391 rfl d kk
theorem q_Mo_71 {X : gX} {cc : ByteArray} {nL fr lo pc : Nat} {lv : List (Nat × Value)} {st : List Value} {σ : gS} (C : gC X cc R_Mo nL fr lo) (d : decode cc pc = .ok (.getfield 71, 3)) (kk : G X (pc + 3) lv (.int (gI σ 46 0) :: st) σ) : G X pc lv (.ref (gA X 46) :: st) σ := r_get C (T := T_Mo) (N := 26) (ci := 6) (F := fl_Mo) 0 (by decide) cel_Mo rfl in_Mo (by decide) m_418 rfl d kk
theorem p_Mo_71 {X : gX} {cc : ByteArray} {nL fr lo pc : Nat} {lv : List (Nat × Value)} {st : List Value} {σ σ' : gS} {v : Int32} (C : gC X cc R_Mo nL fr lo) (e : σ' = sI σ 46 0 v) (d : decode cc pc = .ok (.putfield 71, 3)) (kk : G X (pc + 3) lv st σ') : G X pc lv (.int v :: .ref (gA X 46) :: st) σ := r_put C (T := T_Mo) (N := 26) (ci := 6) (F := fl_Mo) ty_Mo ty_Mo_ok nm_Mo 0 (by decide) cel_Mo rfl in_Mo (by decide) m_418 rfl (by decide +kernel) (fun a f => ⟨Nat.le_of_ble_eq_true rfl, rfl⟩) e d kk
theorem p_Mo_75 {X : gX} {cc : ByteArray} {nL fr lo pc : Nat} {lv : List (Nat × Value)} {st : List Value} {σ σ' : gS} {v : Int32} (C : gC X cc R_Mo nL fr lo) (e : σ' = sI σ 46 1 v) (d : decode cc pc = .ok (.putfield 75, 3)) (kk : G X (pc + 3) lv st σ') : G X pc lv (.int v :: .ref (gA X 46) :: st) σ := r_put C (T := T_Mo) (N := 26) (ci := 6) (F := fl_Mo) ty_Mo ty_Mo_ok nm_Mo 1 (by decide) cel_Mo rfl in_Mo (by decide) m_419 rfl (by decide +kernel) (fun a f => ⟨Nat.le_of_ble_eq_true rfl, rfl⟩) e d kk
theorem q_Mo_75 {X : gX} {cc : ByteArray} {nL fr lo pc : Nat} {lv : List (Nat × Value)} {st : List Value} {σ : gS} (C : gC X cc R_Mo nL fr lo) (d : decode cc pc = .ok (.getfield 75, 3)) (kk : G X (pc + 3) lv (.int (gI σ 46 1) :: st) σ) : G X pc lv (.ref (gA X 46) :: st) σ := r_get C (T := T_Mo) (N := 26) (ci := 6) (F := fl_Mo) 1 (by decide) cel_Mo rfl in_Mo (by decide) m_419 rfl d kk
theorem q_Mo_31 {X : gX} {cc : ByteArray} {nL fr lo pc : Nat} {lv : List (Nat × Value)} {st : List Value} {σ : gS} (C : gC X cc R_Mo nL fr lo) (d : decode cc pc = .ok (.getfield 31, 3)) (kk : G X (pc + 3) lv (.ref (gA X 54) :: st) σ) : G X pc lv (.ref (gA X 46) :: st) σ := r_get C (T := T_Mo) (N := 26) (ci := 6) (F := fl_Mo) 9 (by decide) cel_Mo rfl in_Mo (by decide) m_424 rfl d kk
theorem q_Mo_34 {X : gX} {cc : ByteArray} {nL fr lo pc : Nat} {lv : List (Nat × Value)} {st : List Value} {σ : gS} (C : gC X cc R_Mo nL fr lo) (d : decode cc pc = .ok (.getfield 34, 3)) (kk : G X (pc + 3) lv (.ref (gA X 55) :: st) σ) : G X pc lv (.ref (gA X 46) :: st) σ := r_get C (T := T_Mo) (N := 26) (ci := 6) (F := fl_Mo) 10 (by decide) cel_Mo rfl in_Mo (by decide) m_425 rfl d kk
theorem q_Mo_19 {X : gX} {cc : ByteArray} {nL fr lo pc : Nat} {lv : List (Nat × Value)} {st : List Value} {σ : gS} (C : gC X cc R_Mo nL fr lo) (d : decode cc pc = .ok (.getfield 19, 3)) (kk : G X (pc + 3) lv (.ref (gA X 50) :: st) σ) : G X pc lv (.ref (gA X 46) :: st) σ := r_get C (T := T_Mo) (N := 26) (ci := 6) (F := fl_Mo) 5 (by decide) cel_Mo rfl in_Mo (by decide) m_426 rfl d kk
theorem q_Mo_7 {X : gX} {cc : ByteArray} {nL fr lo pc : Nat} {lv : List (Nat × Value)} {st : List Value} {σ : gS} (C : gC X cc R_Mo nL fr lo) (d : decode cc pc = .ok (.getfield 7, 3)) (kk : G X (pc + 3) lv (.ref (gA X 47) :: st) σ) : G X pc lv (.ref (gA X 46) :: st) σ := r_get C (T := T_Mo) (N := 26) (ci := 6) (F := fl_Mo) 2 (by decide) cel_Mo rfl in_Mo (by decide) m_427 rfl d kk
theorem q_Mo_13 {X : gX} {cc : ByteArray} {nL fr lo pc : Nat} {lv : List (Nat × Value)} {st : List Value} {σ : gS} (C : gC X cc R_Mo nL fr lo) (d : decode cc pc = .ok (.getfield 13, 3)) (kk : G X (pc + 3) lv (.ref (gA X 48) :: st) σ) : G X pc lv (.ref (gA X 46) :: st) σ := r_get C (T := T_Mo) (N := 26) (ci := 6) (F := fl_Mo) 3 (by decide) cel_Mo rfl in_Mo (by decide) m_428 rfl d kk
theorem q_Mo_16 {X : gX} {cc : ByteArray} {nL fr lo pc : Nat} {lv : List (Nat × Value)} {st : List Value} {σ : gS} (C : gC X cc R_Mo nL fr lo) (d : decode cc pc = .ok (.getfield 16, 3)) (kk : G X (pc + 3) lv (.ref (gA X 49) :: st) σ) : G X pc lv (.ref (gA X 46) :: st) σ := r_get C (T := T_Mo) (N := 26) (ci := 6) (F := fl_Mo) 4 (by decide) cel_Mo rfl in_Mo (by decide) m_429 rfl d kk
theorem q_Mo_22 {X : gX} {cc : ByteArray} {nL fr lo pc : Nat} {lv : List (Nat × Value)} {st : List Value} {σ : gS} (C : gC X cc R_Mo nL fr lo) (d : decode cc pc = .ok (.getfield 22, 3)) (kk : G X (pc + 3) lv (.ref (gA X 51) :: st) σ) : G X pc lv (.ref (gA X 46) :: st) σ := r_get C (T := T_Mo) (N := 26) (ci := 6) (F := fl_Mo) 6 (by decide) cel_Mo rfl in_Mo (by decide) m_430 rfl d kk
theorem q_Mo_25 {X : gX} {cc : ByteArray} {nL fr lo pc : Nat} {lv : List (Nat × Value)} {st : List Value} {σ : gS} (C : gC X cc R_Mo nL fr lo) (d : decode cc pc = .ok (.getfield 25, 3)) (kk : G X (pc + 3) lv (.ref (gA X 52) :: st) σ) : G X pc lv (.ref (gA X 46) :: st) σ := r_get C (T := T_Mo) (N := 26) (ci := 6) (F := fl_Mo) 7 (by decide) cel_Mo rfl in_Mo (by decide) m_431 rfl d kk
theorem q_Mo_28 {X : gX} {cc : ByteArray} {nL fr lo pc : Nat} {lv : List (Nat × Value)} {st : List Value} {σ : gS} (C : gC X cc R_Mo nL fr lo) (d : decode cc pc = .ok (.getfield 28, 3)) (kk : G X (pc + 3) lv (.ref (gA X 53) :: st) σ) : G X pc lv (.ref (gA X 46) :: st) σ := r_get C (T := T_Mo) (N := 26) (ci := 6) (F := fl_Mo) 8 (by decide) cel_Mo rfl in_Mo (by decide) m_432 rfl d kk
theorem q_Mo_37 {X : gX} {cc : ByteArray} {nL fr lo pc : Nat} {lv : List (Nat × Value)} {st : List Value} {σ : gS} (C : gC X cc R_Mo nL fr lo) (d : decode cc pc = .ok (.getfield 37, 3)) (kk : G X (pc + 3) lv (.ref (gA X 56) :: st) σ) : G X pc lv (.ref (gA X 46) :: st) σ := r_get C (T := T_Mo) (N := 26) (ci := 6) (F := fl_Mo) 11 (by decide) cel_Mo rfl in_Mo (by decide) m_440 rfl d kk
theorem q_Mo_41 {X : gX} {cc : ByteArray} {nL fr lo pc : Nat} {lv : List (Nat × Value)} {st : List Value} {σ : gS} (C : gC X cc R_Mo nL fr lo) (d : decode cc pc = .ok (.getfield 41, 3)) (kk : G X (pc + 3) lv (.ref (gA X 57) :: st) σ) : G X pc lv (.ref (gA X 46) :: st) σ := r_get C (T := T_Mo) (N := 26) (ci := 6) (F := fl_Mo) 12 (by decide) cel_Mo rfl in_Mo (by decide) m_441 rfl d kk
theorem q_Mo_44 {X : gX} {cc : ByteArray} {nL fr lo pc : Nat} {lv : List (Nat × Value)} {st : List Value} {σ : gS} (C : gC X cc R_Mo nL fr lo) (d : decode cc pc = .ok (.getfield 44, 3)) (kk : G X (pc + 3) lv (.ref (gA X 58) :: st) σ) : G X pc lv (.ref (gA X 46) :: st) σ := r_get C (T := T_Mo) (N := 26) (ci := 6) (F := fl_Mo) 13 (by decide) cel_Mo rfl in_Mo (by decide) m_470 rfl d kk
theorem q_Mo_50 {X : gX} {cc : ByteArray} {nL fr lo pc : Nat} {lv : List (Nat × Value)} {st : List Value} {σ : gS} (C : gC X cc R_Mo nL fr lo) (d : decode cc pc = .ok (.getfield 50, 3)) (kk : G X (pc + 3) lv (.ref (gA X 60) :: st) σ) : G X pc lv (.ref (gA X 46) :: st) σ := r_get C (T := T_Mo) (N := 26) (ci := 6) (F := fl_Mo) 15 (by decide) cel_Mo rfl in_Mo (by decide) m_471 rfl d kk
theorem q_Mo_47 {X : gX} {cc : ByteArray} {nL fr lo pc : Nat} {lv : List (Nat × Value)} {st : List Value} {σ : gS} (C : gC X cc R_Mo nL fr lo) (d : decode cc pc = .ok (.getfield 47, 3)) (kk : G X (pc + 3) lv (.ref (gA X 59) :: st) σ) : G X pc lv (.ref (gA X 46) :: st) σ := r_get C (T := T_Mo) (N := 26) (ci := 6) (F := fl_Mo) 14 (by decide) cel_Mo rfl in_Mo (by decide) m_476 rfl d kk
theorem q_Mo_127 {X : gX} {cc : ByteArray} {nL fr lo pc : Nat} {lv : List (Nat × Value)} {st : List Value} {σ : gS} (C : gC X cc R_Mo nL fr lo) (d : decode cc pc = .ok (.getfield 127, 3)) (kk : G X (pc + 3) lv (.int (gI σ 46 17) :: st) σ) : G X pc lv (.ref (gA X 46) :: st) σ := r_get C (T := T_Mo) (N := 26) (ci := 6) (F := fl_Mo) 17 (by decide) cel_Mo rfl in_Mo (by decide) m_481 rfl d kk
theorem q_Mo_124 {X : gX} {cc : ByteArray} {nL fr lo pc : Nat} {lv : List (Nat × Value)} {st : List Value} {σ : gS} (C : gC X cc R_Mo nL fr lo) (d : decode cc pc = .ok (.getfield 124, 3)) (kk : G X (pc + 3) lv (.int (gI σ 46 16) :: st) σ) : G X pc lv (.ref (gA X 46) :: st) σ := r_get C (T := T_Mo) (N := 26) (ci := 6) (F := fl_Mo) 16 (by decide) cel_Mo rfl in_Mo (by decide) m_486 rfl d kk
theorem p_Mo_124 {X : gX} {cc : ByteArray} {nL fr lo pc : Nat} {lv : List (Nat × Value)} {st : List Value} {σ σ' : gS} {v : Int32} (C : gC X cc R_Mo nL fr lo) (e : σ' = sI σ 46 16 v) (d : decode cc pc = .ok (.putfield 124, 3)) (kk : G X (pc + 3) lv st σ') : G X pc lv (.int v :: .ref (gA X 46) :: st) σ := r_put C (T := T_Mo) (N := 26) (ci := 6) (F := fl_Mo) ty_Mo ty_Mo_ok nm_Mo 16 (by decide) cel_Mo rfl in_Mo (by decide) m_486 rfl (by decide +kernel) (fun a f => ⟨Nat.le_of_ble_eq_true rfl, rfl⟩) e d kk
theorem p_Mo_127 {X : gX} {cc : ByteArray} {nL fr lo pc : Nat} {lv : List (Nat × Value)} {st : List Value} {σ σ' : gS} {v : Int32} (C : gC X cc R_Mo nL fr lo) (e : σ' = sI σ 46 17 v) (d : decode cc pc = .ok (.putfield 127, 3)) (kk : G X (pc + 3) lv st σ') : G X pc lv (.int v :: .ref (gA X 46) :: st) σ := r_put C (T := T_Mo) (N := 26) (ci := 6) (F := fl_Mo) ty_Mo ty_Mo_ok nm_Mo 17 (by decide) cel_Mo rfl in_Mo (by decide) m_481 rfl (by decide +kernel) (fun a f => ⟨Nat.le_of_ble_eq_true rfl, rfl⟩) e d kk
theorem q_Mo_53 {X : gX} {cc : ByteArray} {nL fr lo pc : Nat} {lv : List (Nat × Value)} {st : List Value} {σ : gS} (C : gC X cc R_Mo nL fr lo) (d : decode cc pc = .ok (.getfield 53, 3)) (kk : G X (pc + 3) lv (.ref (gA X 61) :: st) σ) : G X pc lv (.ref (gA X 46) :: st) σ := r_get C (T := T_Mo) (N := 26) (ci := 6) (F := fl_Mo) 18 (by decide) cel_Mo rfl in_Mo (by decide) m_508 rfl d kk
theorem p_Mo_166 {X : gX} {cc : ByteArray} {nL fr lo pc : Nat} {lv : List (Nat × Value)} {st : List Value} {σ σ' : gS} {v : Int32} (C : gC X cc R_Mo nL fr lo) (e : σ' = sI σ 46 19 v) (d : decode cc pc = .ok (.putfield 166, 3)) (kk : G X (pc + 3) lv st σ') : G X pc lv (.int v :: .ref (gA X 46) :: st) σ := r_put C (T := T_Mo) (N := 26) (ci := 6) (F := fl_Mo) ty_Mo ty_Mo_ok nm_Mo 19 (by decide) cel_Mo rfl in_Mo (by decide) m_521 rfl (by decide +kernel) (fun a f => ⟨Nat.le_of_ble_eq_true rfl, rfl⟩) e d kk
theorem q_Mo_166 {X : gX} {cc : ByteArray} {nL fr lo pc : Nat} {lv : List (Nat × Value)} {st : List Value} {σ : gS} (C : gC X cc R_Mo nL fr lo) (d : decode cc pc = .ok (.getfield 166, 3)) (kk : G X (pc + 3) lv (.int (gI σ 46 19) :: st) σ) : G X pc lv (.ref (gA X 46) :: st) σ := r_get C (T := T_Mo) (N := 26) (ci := 6) (F := fl_Mo) 19 (by decide) cel_Mo rfl in_Mo (by decide) m_521 rfl d kk
theorem p_Mo_173 {X : gX} {cc : ByteArray} {nL fr lo pc : Nat} {lv : List (Nat × Value)} {st : List Value} {σ σ' : gS} {v : Int32} (C : gC X cc R_Mo nL fr lo) (e : σ' = sI σ 46 20 v) (d : decode cc pc = .ok (.putfield 173, 3)) (kk : G X (pc + 3) lv st σ') : G X pc lv (.int v :: .ref (gA X 46) :: st) σ := r_put C (T := T_Mo) (N := 26) (ci := 6) (F := fl_Mo) ty_Mo ty_Mo_ok nm_Mo 20 (by decide) cel_Mo rfl in_Mo (by decide) m_530 rfl (by decide +kernel) (fun a f => ⟨Nat.le_of_ble_eq_true rfl, rfl⟩) e d kk
theorem q_Mo_173 {X : gX} {cc : ByteArray} {nL fr lo pc : Nat} {lv : List (Nat × Value)} {st : List Value} {σ : gS} (C : gC X cc R_Mo nL fr lo) (d : decode cc pc = .ok (.getfield 173, 3)) (kk : G X (pc + 3) lv (.int (gI σ 46 20) :: st) σ) : G X pc lv (.ref (gA X 46) :: st) σ := r_get C (T := T_Mo) (N := 26) (ci := 6) (F := fl_Mo) 20 (by decide) cel_Mo rfl in_Mo (by decide) m_530 rfl d kk
theorem q_Mo_56 {X : gX} {cc : ByteArray} {nL fr lo pc : Nat} {lv : List (Nat × Value)} {st : List Value} {σ : gS} (C : gC X cc R_Mo nL fr lo) (d : decode cc pc = .ok (.getfield 56, 3)) (kk : G X (pc + 3) lv (.ref (gA X 62) :: st) σ) : G X pc lv (.ref (gA X 46) :: st) σ := r_get C (T := T_Mo) (N := 26) (ci := 6) (F := fl_Mo) 21 (by decide) cel_Mo rfl in_Mo (by decide) m_535 rfl d kk
theorem q_Mo_59 {X : gX} {cc : ByteArray} {nL fr lo pc : Nat} {lv : List (Nat × Value)} {st : List Value} {σ : gS} (C : gC X cc R_Mo nL fr lo) (d : decode cc pc = .ok (.getfield 59, 3)) (kk : G X (pc + 3) lv (.ref (gA X 63) :: st) σ) : G X pc lv (.ref (gA X 46) :: st) σ := r_get C (T := T_Mo) (N := 26) (ci := 6) (F := fl_Mo) 22 (by decide) cel_Mo rfl in_Mo (by decide) m_536 rfl d kk
theorem q_Mo_62 {X : gX} {cc : ByteArray} {nL fr lo pc : Nat} {lv : List (Nat × Value)} {st : List Value} {σ : gS} (C : gC X cc R_Mo nL fr lo) (d : decode cc pc = .ok (.getfield 62, 3)) (kk : G X (pc + 3) lv (.ref (gA X 64) :: st) σ) : G X pc lv (.ref (gA X 46) :: st) σ := r_get C (T := T_Mo) (N := 26) (ci := 6) (F := fl_Mo) 23 (by decide) cel_Mo rfl in_Mo (by decide) m_557 rfl d kk
theorem q_Mo_68 {X : gX} {cc : ByteArray} {nL fr lo pc : Nat} {lv : List (Nat × Value)} {st : List Value} {σ : gS} (C : gC X cc R_Mo nL fr lo) (d : decode cc pc = .ok (.getfield 68, 3)) (kk : G X (pc + 3) lv (.ref (gA X 66) :: st) σ) : G X pc lv (.ref (gA X 46) :: st) σ := r_get C (T := T_Mo) (N := 26) (ci := 6) (F := fl_Mo) 25 (by decide) cel_Mo rfl in_Mo (by decide) m_576 rfl d kk
theorem q_Mo_65 {X : gX} {cc : ByteArray} {nL fr lo pc : Nat} {lv : List (Nat × Value)} {st : List Value} {σ : gS} (C : gC X cc R_Mo nL fr lo) (d : decode cc pc = .ok (.getfield 65, 3)) (kk : G X (pc + 3) lv (.ref (gA X 65) :: st) σ) : G X pc lv (.ref (gA X 46) :: st) σ := r_get C (T := T_Mo) (N := 26) (ci := 6) (F := fl_Mo) 24 (by decide) cel_Mo rfl in_Mo (by decide) m_577 rfl d kk
theorem k_Fo_dropAll : gCalV y_Fo_dropAll b_Fo_dropAll_c 2 (some .int) 0 := ⟨m_7, m_8, m_5, m_6, by decide +kernel, by decide +kernel, by decide +kernel⟩
theorem k_Ga_isPlayer : gCalS y_Ga_isPlayer b_Ga_isPlayer_c 1 (some .boolean) 1 := ⟨m_15, m_13, m_14, by decide +kernel, by decide +kernel, by decide +kernel⟩
theorem k_Ga_isAmong : gCalS y_Ga_isAmong b_Ga_isAmong_c 3 (some .boolean) 3 := ⟨m_18, m_13, m_17, by decide +kernel, by decide +kernel, by decide +kernel⟩
theorem k_Fo_addSet : gCalV y_Fo_addSet b_Fo_addSet_c 3 (some .int) 2 := ⟨m_21, m_22, m_5, m_20, by decide +kernel, by decide +kernel, by decide +kernel⟩
theorem k_Fo_startNode : gCalV y_Fo_startNode b_Fo_startNode_c 5 (some .int) 2 := ⟨m_31, m_32, m_5, m_30, by decide +kernel, by decide +kernel, by decide +kernel⟩
theorem k_Fo_addEnd : gCalV y_Fo_addEnd b_Fo_addEnd_c 4 (some .int) 2 := ⟨m_39, m_40, m_5, m_38, by decide +kernel, by decide +kernel, by decide +kernel⟩
theorem k_Fo_hasNode : gCalV y_Fo_hasNode b_Fo_hasNode_c 2 (some .boolean) 1 := ⟨m_44, m_45, m_5, m_43, by decide +kernel, by decide +kernel, by decide +kernel⟩
theorem k_Ma_max : gCalS y_Ma_max b_Ma_max_c 2 (some .int) 2 := ⟨m_49, m_47, m_48, by decide +kernel, by decide +kernel, by decide +kernel⟩
theorem n_Fo_106 : (R_Fo, 106, y_Ga_hasBit, "GameRows") ∈ gNwM := List.mem_of_getElem? (i := 1) rfl
theorem k_Ga_hasBit : gCalS y_Ga_hasBit b_Ga_hasBit_c 3 (some .boolean) 2 := ⟨m_51, m_13, m_50, by decide +kernel, by decide +kernel, by decide +kernel⟩
theorem k_Fo_adoptOffered : gCalV y_Fo_adoptOffered b_Fo_adoptOffered_c 4 none 2 := ⟨m_54, m_55, m_5, m_53, by decide +kernel, by decide +kernel, by decide +kernel⟩
theorem k_Fo_plansWith : gCalV y_Fo_plansWith b_Fo_plansWith_c 5 (some .int) 2 := ⟨m_58, m_59, m_5, m_57, by decide +kernel, by decide +kernel, by decide +kernel⟩
theorem k_Fo_setsOffered : gCalV y_Fo_setsOffered b_Fo_setsOffered_c 4 (some .int) 1 := ⟨m_62, m_63, m_5, m_61, by decide +kernel, by decide +kernel, by decide +kernel⟩
theorem k_Fo_areOfferedThere : gCalV y_Fo_areOfferedThere b_Fo_areOfferedThere_c 3 (some .boolean) 1 := ⟨m_66, m_67, m_5, m_65, by decide +kernel, by decide +kernel, by decide +kernel⟩
theorem k_Fo_isOfferedTaken : gCalV y_Fo_isOfferedTaken b_Fo_isOfferedTaken_c 4 (some .boolean) 1 := ⟨m_70, m_71, m_5, m_69, by decide +kernel, by decide +kernel, by decide +kernel⟩
theorem k_Fo_greatestOffered : gCalV y_Fo_greatestOffered b_Fo_greatestOffered_c 5 (some .int) 2 := ⟨m_74, m_75, m_5, m_73, by decide +kernel, by decide +kernel, by decide +kernel⟩
theorem k_Fo_offer : gCalV y_Fo_offer b_Fo_offer_c 4 none 3 := ⟨m_78, m_79, m_5, m_77, by decide +kernel, by decide +kernel, by decide +kernel⟩
theorem k_Fo_addParent : gCalV y_Fo_addParent b_Fo_addParent_c 7 (some .int) 2 := ⟨m_82, m_83, m_5, m_81, by decide +kernel, by decide +kernel, by decide +kernel⟩
theorem k_Fo_hasSet : gCalV y_Fo_hasSet b_Fo_hasSet_c 2 (some .boolean) 1 := ⟨m_86, m_87, m_5, m_85, by decide +kernel, by decide +kernel, by decide +kernel⟩
theorem k_Fo_root : gCalV y_Fo_root b_Fo_root_c 1 (some .int) 0 := ⟨m_92, m_93, m_5, m_91, by decide +kernel, by decide +kernel, by decide +kernel⟩
theorem k_Fo_setsInTree : gCalV y_Fo_setsInTree b_Fo_setsInTree_c 1 (some .int) 0 := ⟨m_99, m_100, m_5, m_98, by decide +kernel, by decide +kernel, by decide +kernel⟩
theorem k_Fo_nodesInTree : gCalV y_Fo_nodesInTree b_Fo_nodesInTree_c 1 (some .long) 0 := ⟨m_104, m_105, m_5, m_103, by decide +kernel, by decide +kernel, by decide +kernel⟩
theorem k_Fo_isGameWithin : gCalV y_Fo_isGameWithin b_Fo_isGameWithin_c 5 (some .boolean) 1 := ⟨m_109, m_110, m_5, m_108, by decide +kernel, by decide +kernel, by decide +kernel⟩
theorem k_Fo_childAt : gCalV y_Fo_childAt b_Fo_childAt_c 3 (some .int) 2 := ⟨m_115, m_116, m_5, m_114, by decide +kernel, by decide +kernel, by decide +kernel⟩
theorem k_Ta_shareAmongAll : gCalV y_Ta_shareAmongAll b_Ta_shareAmongAll_c 5 none 2 := ⟨m_125, m_126, m_123, m_124, by decide +kernel, by decide +kernel, by decide +kernel⟩
theorem k_Fo_worthAt : gCalV y_Fo_worthAt b_Fo_worthAt_c 3 (some .int) 2 := ⟨m_129, m_130, m_5, m_128, by decide +kernel, by decide +kernel, by decide +kernel⟩
theorem k_Fo_isPlayedFrom : gCalV y_Fo_isPlayedFrom b_Fo_isPlayedFrom_c 4 (some .boolean) 3 := ⟨m_133, m_134, m_5, m_132, by decide +kernel, by decide +kernel, by decide +kernel⟩
theorem k_Fo_stepPlan : gCalV y_Fo_stepPlan b_Fo_stepPlan_c 5 none 3 := ⟨m_138, m_139, m_5, m_137, by decide +kernel, by decide +kernel, by decide +kernel⟩
theorem k_Ta_weighPair : gCalV y_Ta_weighPair b_Ta_weighPair_c 7 none 2 := ⟨m_142, m_143, m_123, m_141, by decide +kernel, by decide +kernel, by decide +kernel⟩
theorem k_Fo_plansFrom : gCalV y_Fo_plansFrom b_Fo_plansFrom_c 3 (some .int) 2 := ⟨m_149, m_150, m_5, m_148, by decide +kernel, by decide +kernel, by decide +kernel⟩
theorem k_Ar_fillI : gCalS y_Ar_fillI b_Ar_fillI_c 4 none 2 := ⟨m_154, m_152, m_153, by decide +kernel, by decide +kernel, by decide +kernel⟩
theorem k_Fo_planFrom : gCalV y_Fo_planFrom b_Fo_planFrom_c 8 (some .int) 3 := ⟨m_159, m_160, m_5, m_158, by decide +kernel, by decide +kernel, by decide +kernel⟩
theorem k_Fo_plansOf : gCalV y_Fo_plansOf b_Fo_plansOf_c 2 (some .int) 1 := ⟨m_163, m_164, m_5, m_162, by decide +kernel, by decide +kernel, by decide +kernel⟩
theorem k_Ta_value : gCalV y_Ta_value b_Ta_value_c 4 (some .int) 3 := ⟨m_167, m_168, m_123, m_166, by decide +kernel, by decide +kernel, by decide +kernel⟩
theorem n_Po_118 : (R_Po, 118, y_Ga_otherThan, "GameRows") ∈ gNwM := List.mem_of_getElem? (i := 8) rfl
theorem k_Ga_otherThan : gCalS y_Ga_otherThan b_Ga_otherThan_c 1 (some .int) 1 := ⟨m_172, m_13, m_171, by decide +kernel, by decide +kernel, by decide +kernel⟩
theorem k_Ta_bestAgainst : gCalV y_Ta_bestAgainst b_Ta_bestAgainst_c 5 (some .int) 2 := ⟨m_176, m_177, m_123, m_175, by decide +kernel, by decide +kernel, by decide +kernel⟩
theorem n_Po_71 : (R_Po, 71, y_Ga_hasBit, "GameRows") ∈ gNwM := List.mem_of_getElem? (i := 6) rfl
theorem k_Po_isPoint : gCalV y_Po_isPoint b_Po_isPoint_c 3 (some .boolean) 2 := ⟨m_182, m_183, m_180, m_181, by decide +kernel, by decide +kernel, by decide +kernel⟩
theorem k_Ta_fillFrom : gCalV y_Ta_fillFrom b_Ta_fillFrom_c 4 none 1 := ⟨m_187, m_188, m_123, m_186, by decide +kernel, by decide +kernel, by decide +kernel⟩
theorem k_Po_findInner : gCalV y_Po_findInner b_Po_findInner_c 5 (some .int) 2 := ⟨m_191, m_192, m_180, m_190, by decide +kernel, by decide +kernel, by decide +kernel⟩
theorem k_Po_findBest : gCalV y_Po_findBest b_Po_findBest_c 3 none 1 := ⟨m_195, m_196, m_180, m_194, by decide +kernel, by decide +kernel, by decide +kernel⟩
theorem k_Po_keepPoints : gCalV y_Po_keepPoints b_Po_keepPoints_c 7 none 2 := ⟨m_201, m_202, m_180, m_200, by decide +kernel, by decide +kernel, by decide +kernel⟩
theorem k_Po_placeOf : gCalS y_Po_placeOf b_Po_placeOf_c 1 (some .int) 1 := ⟨m_205, m_180, m_204, by decide +kernel, by decide +kernel, by decide +kernel⟩
theorem n_Po_50 : (R_Po, 50, y_Ga_firstBits, "GameRows") ∈ gNwM := List.mem_of_getElem? (i := 5) rfl
theorem k_Ga_firstBits : gCalS y_Ga_firstBits b_Ga_firstBits_c 1 (some .long) 1 := ⟨m_209, m_13, m_208, by decide +kernel, by decide +kernel, by decide +kernel⟩
theorem k_Ar_fillJ : gCalS y_Ar_fillJ b_Ar_fillJ_c 5 none 2 := ⟨m_212, m_152, m_211, by decide +kernel, by decide +kernel, by decide +kernel⟩
theorem k_Fo_gamesWithin : gCalV y_Fo_gamesWithin b_Fo_gamesWithin_c 4 (some .long) 0 := ⟨m_216, m_217, m_5, m_215, by decide +kernel, by decide +kernel, by decide +kernel⟩
theorem k_Lo_bitCount : gCalS y_Lo_bitCount b_Lo_bitCount_c 2 (some .int) 1 := ⟨m_221, m_219, m_220, by decide +kernel, by decide +kernel, by decide +kernel⟩
theorem n_Ta_98 : (R_Ta, 98, y_Ga_otherThan, "GameRows") ∈ gNwM := List.mem_of_getElem? (i := 9) rfl
theorem n_Ta_113 : (R_Ta, 113, y_Ga_hasBit, "GameRows") ∈ gNwM := List.mem_of_getElem? (i := 11) rfl
theorem k_Ta_isWorse : gCalV y_Ta_isWorse b_Ta_isWorse_c 7 (some .boolean) 4 := ⟨m_226, m_227, m_123, m_225, by decide +kernel, by decide +kernel, by decide +kernel⟩
theorem n_Le_66 : (R_Le, 66, y_Ga_hasBit, "GameRows") ∈ gNwM := List.mem_of_getElem? (i := 3) rfl
theorem n_Le_70 : (R_Le, 70, y_Ga_otherThan, "GameRows") ∈ gNwM := List.mem_of_getElem? (i := 4) rfl
theorem k_Ta_leastBetterAmong : gCalV y_Ta_leastBetterAmong b_Ta_leastBetterAmong_c 8 (some .int) 4 := ⟨m_233, m_234, m_123, m_232, by decide +kernel, by decide +kernel, by decide +kernel⟩
theorem k_Le_takeAway : gCalV y_Le_takeAway b_Le_takeAway_c 6 none 3 := ⟨m_240, m_241, m_238, m_239, by decide +kernel, by decide +kernel, by decide +kernel⟩
theorem k_Le_thoseThatGo : gCalV y_Le_thoseThatGo b_Le_thoseThatGo_c 5 (some .long) 1 := ⟨m_244, m_245, m_238, m_243, by decide +kernel, by decide +kernel, by decide +kernel⟩
theorem n_Le_55 : (R_Le, 55, y_Ga_firstBits, "GameRows") ∈ gNwM := List.mem_of_getElem? (i := 2) rfl
theorem k_Fo_depthOfTree : gCalV y_Fo_depthOfTree b_Fo_depthOfTree_c 1 (some .int) 0 := ⟨m_253, m_254, m_5, m_252, by decide +kernel, by decide +kernel, by decide +kernel⟩
theorem k_Po_find : gCalV y_Po_find b_Po_find_c 6 none 1 := ⟨m_262, m_263, m_180, m_261, by decide +kernel, by decide +kernel, by decide +kernel⟩
theorem k_Po_howMany : gCalV y_Po_howMany b_Po_howMany_c 6 (some .int) 1 := ⟨m_266, m_267, m_180, m_265, by decide +kernel, by decide +kernel, by decide +kernel⟩
theorem k_Ta_fillWhole : gCalV y_Ta_fillWhole b_Ta_fillWhole_c 1 none 0 := ⟨m_272, m_273, m_123, m_271, by decide +kernel, by decide +kernel, by decide +kernel⟩
theorem k_Le_playAll : gCalV y_Le_playAll b_Le_playAll_c 6 none 0 := ⟨m_277, m_278, m_238, m_276, by decide +kernel, by decide +kernel, by decide +kernel⟩
theorem k_Le_pairsLeft : gCalV y_Le_pairsLeft b_Le_pairsLeft_c 1 (some .int) 0 := ⟨m_281, m_282, m_238, m_280, by decide +kernel, by decide +kernel, by decide +kernel⟩
theorem k_Ga_isEmpty : gCalV y_Ga_isEmpty b_Ga_isEmpty_c 1 (some .boolean) 0 := ⟨m_285, m_286, m_13, m_284, by decide +kernel, by decide +kernel, by decide +kernel⟩
theorem k_Ga_isPlan : gCalV y_Ga_isPlan b_Ga_isPlan_c 3 (some .boolean) 2 := ⟨m_296, m_297, m_13, m_295, by decide +kernel, by decide +kernel, by decide +kernel⟩
theorem k_Fo_actNamed : gCalV y_Fo_actNamed b_Fo_actNamed_c 6 (some .int) 3 := ⟨m_300, m_301, m_5, m_299, by decide +kernel, by decide +kernel, by decide +kernel⟩
theorem k_Ta_valueOfPair : gCalV y_Ta_valueOfPair b_Ta_valueOfPair_c 4 (some .int) 3 := ⟨m_304, m_305, m_123, m_303, by decide +kernel, by decide +kernel, by decide +kernel⟩
theorem n_Po_85 : (R_Po, 85, y_Ga_bitAt, "GameRows") ∈ gNwM := List.mem_of_getElem? (i := 7) rfl
theorem k_Ga_bitAt : gCalS y_Ga_bitAt b_Ga_bitAt_c 5 (some .int) 2 := ⟨m_310, m_13, m_309, by decide +kernel, by decide +kernel, by decide +kernel⟩
theorem k_Po_pointAt : gCalV y_Po_pointAt b_Po_pointAt_c 8 (some .int) 2 := ⟨m_313, m_314, m_180, m_312, by decide +kernel, by decide +kernel, by decide +kernel⟩
theorem k_Ta_areOne : gCalV y_Ta_areOne b_Ta_areOne_c 7 (some .boolean) 3 := ⟨m_318, m_319, m_123, m_317, by decide +kernel, by decide +kernel, by decide +kernel⟩
theorem n_Ta_105 : (R_Ta, 105, y_Ga_firstBits, "GameRows") ∈ gNwM := List.mem_of_getElem? (i := 10) rfl
theorem k_Ta_isWeaklyWorse : gCalV y_Ta_isWeaklyWorse b_Ta_isWeaklyWorse_c 8 (some .boolean) 3 := ⟨m_323, m_324, m_123, m_322, by decide +kernel, by decide +kernel, by decide +kernel⟩
theorem k_Ta_leastWeaklyBetter : gCalV y_Ta_leastWeaklyBetter b_Ta_leastWeaklyBetter_c 4 (some .int) 2 := ⟨m_327, m_328, m_123, m_326, by decide +kernel, by decide +kernel, by decide +kernel⟩
theorem k_Ta_leastBetter : gCalV y_Ta_leastBetter b_Ta_leastBetter_c 3 (some .int) 2 := ⟨m_331, m_332, m_123, m_330, by decide +kernel, by decide +kernel, by decide +kernel⟩
theorem k_Ta_leastOneWith : gCalV y_Ta_leastOneWith b_Ta_leastOneWith_c 4 (some .int) 2 := ⟨m_335, m_336, m_123, m_334, by decide +kernel, by decide +kernel, by decide +kernel⟩
theorem k_Le_roundOf : gCalV y_Le_roundOf b_Le_roundOf_c 3 (some .int) 2 := ⟨m_339, m_340, m_238, m_338, by decide +kernel, by decide +kernel, by decide +kernel⟩
theorem k_Ma_min : gCalS y_Ma_min b_Ma_min_c 2 (some .int) 2 := ⟨m_343, m_47, m_342, by decide +kernel, by decide +kernel, by decide +kernel⟩
theorem k_Ta_leastOf : gCalV y_Ta_leastOf b_Ta_leastOf_c 5 (some .int) 2 := ⟨m_346, m_347, m_123, m_345, by decide +kernel, by decide +kernel, by decide +kernel⟩
theorem k_Ta_sureOf : gCalV y_Ta_sureOf b_Ta_sureOf_c 4 (some .int) 1 := ⟨m_351, m_352, m_123, m_350, by decide +kernel, by decide +kernel, by decide +kernel⟩
theorem k_Fo_actTo : gCalV y_Fo_actTo b_Fo_actTo_c 5 (some .int) 2 := ⟨m_357, m_358, m_5, m_356, by decide +kernel, by decide +kernel, by decide +kernel⟩
theorem k_Fo_wayTo : gCalV y_Fo_wayTo b_Fo_wayTo_c 9 (some .long) 2 := ⟨m_361, m_362, m_5, m_360, by decide +kernel, by decide +kernel, by decide +kernel⟩
theorem k_Fo_areWaysAlike : gCalV y_Fo_areWaysAlike b_Fo_areWaysAlike_c 10 (some .boolean) 2 := ⟨m_365, m_366, m_5, m_364, by decide +kernel, by decide +kernel, by decide +kernel⟩
theorem k_Fo_remembersAll : gCalV y_Fo_remembersAll b_Fo_remembersAll_c 3 (some .boolean) 1 := ⟨m_369, m_370, m_5, m_368, by decide +kernel, by decide +kernel, by decide +kernel⟩
theorem k_An_leastOfGreatest : gCalV y_An_leastOfGreatest b_An_leastOfGreatest_c 4 (some .int) 1 := ⟨m_381, m_382, m_379, m_380, by decide +kernel, by decide +kernel, by decide +kernel⟩
theorem k_An_addUp : gCalV y_An_addUp b_An_addUp_c 4 none 2 := ⟨m_385, m_386, m_379, m_384, by decide +kernel, by decide +kernel, by decide +kernel⟩
theorem k_An_playTo : gCalV y_An_playTo b_An_playTo_c 3 none 1 := ⟨m_394, m_395, m_379, m_393, by decide +kernel, by decide +kernel, by decide +kernel⟩
theorem k_An_timesTaken : gCalV y_An_timesTaken b_An_timesTaken_c 6 (some .int) 3 := ⟨m_398, m_399, m_379, m_397, by decide +kernel, by decide +kernel, by decide +kernel⟩
theorem k_An_sumAgainst : gCalV y_An_sumAgainst b_An_sumAgainst_c 5 (some .int) 2 := ⟨m_403, m_404, m_379, m_402, by decide +kernel, by decide +kernel, by decide +kernel⟩
theorem k_An_sumFor : gCalV y_An_sumFor b_An_sumFor_c 5 (some .int) 2 := ⟨m_408, m_409, m_379, m_407, by decide +kernel, by decide +kernel, by decide +kernel⟩
theorem k_An_highBehind : gCalV y_An_highBehind b_An_highBehind_c 4 (some .int) 1 := ⟨m_412, m_413, m_379, m_411, by decide +kernel, by decide +kernel, by decide +kernel⟩
theorem k_An_lowBehind : gCalV y_An_lowBehind b_An_lowBehind_c 4 (some .int) 1 := ⟨m_416, m_417, m_379, m_415, by decide +kernel, by decide +kernel, by decide +kernel⟩
theorem k_Mo_isFrom : gCalS y_Mo_isFrom b_Mo_isFrom_c 3 (some .boolean) 3 := ⟨m_423, m_421, m_422, by decide +kernel, by decide +kernel, by decide +kernel⟩
theorem k_Mo_make : gCalV y_Mo_make b_Mo_make_c 3 (some .int) 1 := ⟨m_435, m_436, m_421, m_434, by decide +kernel, by decide +kernel, by decide +kernel⟩
theorem k_Mo_third : gCalS y_Mo_third b_Mo_third_c 4 (some .int) 4 := ⟨m_439, m_421, m_438, by decide +kernel, by decide +kernel, by decide +kernel⟩
theorem k_Mo_findTree : gCalV y_Mo_findTree b_Mo_findTree_c 2 none 0 := ⟨m_444, m_445, m_421, m_443, by decide +kernel, by decide +kernel, by decide +kernel⟩
theorem k_Mo_plansOf : gCalV y_Mo_plansOf b_Mo_plansOf_c 4 (some .int) 1 := ⟨m_448, m_449, m_421, m_447, by decide +kernel, by decide +kernel, by decide +kernel⟩
theorem k_Mo_bar : gCalV y_Mo_bar b_Mo_bar_c 11 (some .int) 5 := ⟨m_452, m_453, m_421, m_451, by decide +kernel, by decide +kernel, by decide +kernel⟩
theorem k_Mo_adopt : gCalV y_Mo_adopt b_Mo_adopt_c 9 none 6 := ⟨m_456, m_457, m_421, m_455, by decide +kernel, by decide +kernel, by decide +kernel⟩
theorem k_Mo_tooMany : gCalV y_Mo_tooMany b_Mo_tooMany_c 1 (some .boolean) 0 := ⟨m_460, m_461, m_421, m_459, by decide +kernel, by decide +kernel, by decide +kernel⟩
theorem k_Mo_undo : gCalV y_Mo_undo b_Mo_undo_c 6 none 4 := ⟨m_464, m_465, m_421, m_463, by decide +kernel, by decide +kernel, by decide +kernel⟩
theorem k_Mo_isNode : gCalV y_Mo_isNode b_Mo_isNode_c 2 (some .boolean) 1 := ⟨m_468, m_469, m_421, m_467, by decide +kernel, by decide +kernel, by decide +kernel⟩
theorem k_Mo_mean : gCalV y_Mo_mean b_Mo_mean_c 6 (some .int) 2 := ⟨m_474, m_475, m_421, m_473, by decide +kernel, by decide +kernel, by decide +kernel⟩
theorem k_Mo_actOf : gCalV y_Mo_actOf b_Mo_actOf_c 6 (some .int) 3 := ⟨m_479, m_480, m_421, m_478, by decide +kernel, by decide +kernel, by decide +kernel⟩
theorem k_Mo_work : gCalV y_Mo_work b_Mo_work_c 6 none 3 := ⟨m_484, m_485, m_421, m_483, by decide +kernel, by decide +kernel, by decide +kernel⟩
theorem k_Mo_worthTo : gCalV y_Mo_worthTo b_Mo_worthTo_c 4 (some .int) 3 := ⟨m_489, m_490, m_421, m_488, by decide +kernel, by decide +kernel, by decide +kernel⟩
theorem k_Mo_root : gCalV y_Mo_root b_Mo_root_c 1 (some .int) 0 := ⟨m_494, m_495, m_421, m_493, by decide +kernel, by decide +kernel, by decide +kernel⟩
theorem k_Mo_workAll : gCalV y_Mo_workAll b_Mo_workAll_c 4 none 1 := ⟨m_498, m_499, m_421, m_497, by decide +kernel, by decide +kernel, by decide +kernel⟩
theorem k_Mo_many : gCalV y_Mo_many b_Mo_many_c 2 (some .int) 1 := ⟨m_502, m_503, m_421, m_501, by decide +kernel, by decide +kernel, by decide +kernel⟩
theorem k_Mo_answerOf : gCalV y_Mo_answerOf b_Mo_answerOf_c 5 (some .int) 2 := ⟨m_506, m_507, m_421, m_505, by decide +kernel, by decide +kernel, by decide +kernel⟩
theorem k_Mo_isBelow : gCalV y_Mo_isBelow b_Mo_isBelow_c 4 (some .boolean) 2 := ⟨m_511, m_512, m_421, m_510, by decide +kernel, by decide +kernel, by decide +kernel⟩
theorem k_Mo_isGame : gCalV y_Mo_isGame b_Mo_isGame_c 6 (some .boolean) 1 := ⟨m_515, m_516, m_421, m_514, by decide +kernel, by decide +kernel, by decide +kernel⟩
theorem k_Mo_sift : gCalV y_Mo_sift b_Mo_sift_c 4 none 0 := ⟨m_519, m_520, m_421, m_518, by decide +kernel, by decide +kernel, by decide +kernel⟩
theorem k_Mo_findPoints : gCalV y_Mo_findPoints b_Mo_findPoints_c 3 none 1 := ⟨m_524, m_525, m_421, m_523, by decide +kernel, by decide +kernel, by decide +kernel⟩
theorem k_Mo_countPoints : gCalV y_Mo_countPoints b_Mo_countPoints_c 6 (some .int) 2 := ⟨m_528, m_529, m_421, m_527, by decide +kernel, by decide +kernel, by decide +kernel⟩
theorem k_Mo_games : gCalV y_Mo_games b_Mo_games_c 4 (some .int) 1 := ⟨m_533, m_534, m_421, m_532, by decide +kernel, by decide +kernel, by decide +kernel⟩
theorem k_Mo_isLeft : gCalV y_Mo_isLeft b_Mo_isLeft_c 3 (some .boolean) 2 := ⟨m_539, m_540, m_421, m_538, by decide +kernel, by decide +kernel, by decide +kernel⟩
theorem k_Mo_isOne : gCalV y_Mo_isOne b_Mo_isOne_c 8 (some .boolean) 3 := ⟨m_543, m_544, m_421, m_542, by decide +kernel, by decide +kernel, by decide +kernel⟩
theorem k_Mo_isWeaker : gCalV y_Mo_isWeaker b_Mo_isWeaker_c 7 (some .boolean) 3 := ⟨m_547, m_548, m_421, m_546, by decide +kernel, by decide +kernel, by decide +kernel⟩
theorem k_Mo_isWorse : gCalV y_Mo_isWorse b_Mo_isWorse_c 6 (some .boolean) 3 := ⟨m_551, m_552, m_421, m_550, by decide +kernel, by decide +kernel, by decide +kernel⟩
theorem k_Mo_allLeft : gCalV y_Mo_allLeft b_Mo_allLeft_c 2 none 0 := ⟨m_555, m_556, m_421, m_554, by decide +kernel, by decide +kernel, by decide +kernel⟩
theorem k_Mo_isWorst : gCalV y_Mo_isWorst b_Mo_isWorst_c 5 (some .boolean) 2 := ⟨m_560, m_561, m_421, m_559, by decide +kernel, by decide +kernel, by decide +kernel⟩
theorem k_Mo_leftOf : gCalV y_Mo_leftOf b_Mo_leftOf_c 4 (some .int) 1 := ⟨m_564, m_565, m_421, m_563, by decide +kernel, by decide +kernel, by decide +kernel⟩
theorem k_Mo_doRounds : gCalV y_Mo_doRounds b_Mo_doRounds_c 4 (some .int) 0 := ⟨m_568, m_569, m_421, m_567, by decide +kernel, by decide +kernel, by decide +kernel⟩
theorem k_Mo_memory : gCalV y_Mo_memory b_Mo_memory_c 8 (some .long) 2 := ⟨m_574, m_575, m_421, m_573, by decide +kernel, by decide +kernel, by decide +kernel⟩
theorem k_Mo_bestOf : gCalV y_Mo_bestOf b_Mo_bestOf_c 4 (some .int) 1 := ⟨m_580, m_581, m_421, m_579, by decide +kernel, by decide +kernel, by decide +kernel⟩
theorem k_Mo_take : gCalV y_Mo_take b_Mo_take_c 4 none 2 := ⟨m_584, m_585, m_421, m_583, by decide +kernel, by decide +kernel, by decide +kernel⟩
theorem k_Mo_answerAll : gCalV y_Mo_answerAll b_Mo_answerAll_c 5 none 1 := ⟨m_588, m_589, m_421, m_587, by decide +kernel, by decide +kernel, by decide +kernel⟩
theorem k_Mo_point : gCalV y_Mo_point b_Mo_point_c 3 (some .int) 2 := ⟨m_592, m_593, m_421, m_591, by decide +kernel, by decide +kernel, by decide +kernel⟩
theorem k_Ga_point : gCalV y_Ga_point b_Ga_point_c 3 (some .int) 2 := ⟨m_596, m_597, m_13, m_595, by decide +kernel, by decide +kernel, by decide +kernel⟩
theorem k_Ga_clear : gCalV y_Ga_clear b_Ga_clear_c 1 (some .int) 0 := ⟨m_600, m_601, m_13, m_599, by decide +kernel, by decide +kernel, by decide +kernel⟩
theorem k_Mo_clear : gCalV y_Mo_clear b_Mo_clear_c 2 (some .int) 0 := ⟨m_604, m_605, m_421, m_603, by decide +kernel, by decide +kernel, by decide +kernel⟩
theorem k_Ga_set : gCalV y_Ga_set b_Ga_set_c 3 (some .int) 2 := ⟨m_608, m_609, m_13, m_607, by decide +kernel, by decide +kernel, by decide +kernel⟩
theorem k_Mo_set : gCalV y_Mo_set b_Mo_set_c 3 (some .int) 2 := ⟨m_612, m_613, m_421, m_611, by decide +kernel, by decide +kernel, by decide +kernel⟩
theorem k_Ga_end : gCalV y_Ga_end b_Ga_end_c 3 (some .int) 2 := ⟨m_616, m_617, m_13, m_615, by decide +kernel, by decide +kernel, by decide +kernel⟩
theorem k_Mo_end : gCalV y_Mo_end b_Mo_end_c 4 (some .int) 2 := ⟨m_620, m_621, m_421, m_619, by decide +kernel, by decide +kernel, by decide +kernel⟩
theorem k_Ga_chance : gCalV y_Ga_chance b_Ga_chance_c 5 (some .int) 3 := ⟨m_624, m_625, m_13, m_623, by decide +kernel, by decide +kernel, by decide +kernel⟩
theorem k_Mo_chance : gCalV y_Mo_chance b_Mo_chance_c 8 (some .int) 3 := ⟨m_628, m_629, m_421, m_627, by decide +kernel, by decide +kernel, by decide +kernel⟩
theorem k_Ga_node : gCalV y_Ga_node b_Ga_node_c 5 (some .int) 4 := ⟨m_632, m_633, m_13, m_631, by decide +kernel, by decide +kernel, by decide +kernel⟩
theorem k_Mo_node : gCalV y_Mo_node b_Mo_node_c 8 (some .int) 4 := ⟨m_636, m_637, m_421, m_635, by decide +kernel, by decide +kernel, by decide +kernel⟩
theorem k_Ga_count : gCalV y_Ga_count b_Ga_count_c 2 (some .int) 1 := ⟨m_640, m_641, m_13, m_639, by decide +kernel, by decide +kernel, by decide +kernel⟩
theorem k_Mo_count : gCalV y_Mo_count b_Mo_count_c 4 (some .int) 1 := ⟨m_644, m_645, m_421, m_643, by decide +kernel, by decide +kernel, by decide +kernel⟩
theorem k_Ga_told : gCalV y_Ga_told b_Ga_told_c 4 (some .int) 2 := ⟨m_648, m_649, m_13, m_647, by decide +kernel, by decide +kernel, by decide +kernel⟩
theorem k_Mo_told : gCalV y_Mo_told b_Mo_told_c 3 (some .int) 2 := ⟨m_652, m_653, m_421, m_651, by decide +kernel, by decide +kernel, by decide +kernel⟩
theorem k_Ga_act : gCalV y_Ga_act b_Ga_act_c 4 (some .int) 3 := ⟨m_656, m_657, m_13, m_655, by decide +kernel, by decide +kernel, by decide +kernel⟩
theorem k_Mo_act : gCalV y_Mo_act b_Mo_act_c 4 (some .int) 3 := ⟨m_660, m_661, m_421, m_659, by decide +kernel, by decide +kernel, by decide +kernel⟩
theorem k_Ga_worth : gCalV y_Ga_worth b_Ga_worth_c 4 (some .int) 3 := ⟨m_664, m_665, m_13, m_663, by decide +kernel, by decide +kernel, by decide +kernel⟩
theorem k_Mo_worth : gCalV y_Mo_worth b_Mo_worth_c 4 (some .int) 3 := ⟨m_668, m_669, m_421, m_667, by decide +kernel, by decide +kernel, by decide +kernel⟩
theorem k_Ga_answer : gCalV y_Ga_answer b_Ga_answer_c 3 (some .int) 2 := ⟨m_672, m_673, m_13, m_671, by decide +kernel, by decide +kernel, by decide +kernel⟩
theorem k_Mo_answer : gCalV y_Mo_answer b_Mo_answer_c 3 (some .int) 2 := ⟨m_676, m_677, m_421, m_675, by decide +kernel, by decide +kernel, by decide +kernel⟩
theorem k_Ga_within : gCalV y_Ga_within b_Ga_within_c 2 (some .int) 1 := ⟨m_680, m_681, m_13, m_679, by decide +kernel, by decide +kernel, by decide +kernel⟩
theorem k_Mo_within : gCalV y_Mo_within b_Mo_within_c 2 (some .int) 1 := ⟨m_684, m_685, m_421, m_683, by decide +kernel, by decide +kernel, by decide +kernel⟩
theorem k_Ga_than : gCalV y_Ga_than b_Ga_than_c 4 (some .int) 3 := ⟨m_688, m_689, m_13, m_687, by decide +kernel, by decide +kernel, by decide +kernel⟩
theorem k_Mo_than : gCalV y_Mo_than b_Mo_than_c 7 (some .int) 3 := ⟨m_692, m_693, m_421, m_691, by decide +kernel, by decide +kernel, by decide +kernel⟩
theorem k_Ga_goes : gCalV y_Ga_goes b_Ga_goes_c 3 (some .int) 2 := ⟨m_696, m_697, m_13, m_695, by decide +kernel, by decide +kernel, by decide +kernel⟩
theorem k_Mo_goes : gCalV y_Mo_goes b_Mo_goes_c 3 (some .int) 2 := ⟨m_700, m_701, m_421, m_699, by decide +kernel, by decide +kernel, by decide +kernel⟩
theorem k_Ga_sure : gCalV y_Ga_sure b_Ga_sure_c 2 (some .int) 1 := ⟨m_704, m_705, m_13, m_703, by decide +kernel, by decide +kernel, by decide +kernel⟩
theorem k_Mo_sure : gCalV y_Mo_sure b_Mo_sure_c 6 (some .int) 1 := ⟨m_708, m_709, m_421, m_707, by decide +kernel, by decide +kernel, by decide +kernel⟩
theorem k_Ga_remembered : gCalV y_Ga_remembered b_Ga_remembered_c 2 (some .int) 1 := ⟨m_712, m_713, m_13, m_711, by decide +kernel, by decide +kernel, by decide +kernel⟩
theorem k_Mo_remembered : gCalV y_Mo_remembered b_Mo_remembered_c 6 (some .int) 1 := ⟨m_716, m_717, m_421, m_715, by decide +kernel, by decide +kernel, by decide +kernel⟩
theorem k_Ga_taken : gCalV y_Ga_taken b_Ga_taken_c 4 (some .int) 3 := ⟨m_720, m_721, m_13, m_719, by decide +kernel, by decide +kernel, by decide +kernel⟩
theorem k_Mo_taken : gCalV y_Mo_taken b_Mo_taken_c 4 (some .int) 3 := ⟨m_724, m_725, m_421, m_723, by decide +kernel, by decide +kernel, by decide +kernel⟩
theorem k_Ga_bound : gCalV y_Ga_bound b_Ga_bound_c 3 (some .int) 2 := ⟨m_728, m_729, m_13, m_727, by decide +kernel, by decide +kernel, by decide +kernel⟩
theorem k_Mo_bound : gCalV y_Mo_bound b_Mo_bound_c 7 (some .int) 2 := ⟨m_732, m_733, m_421, m_731, by decide +kernel, by decide +kernel, by decide +kernel⟩
theorem o_18 {X : gX} {cc : ByteArray} {own : String} {nL fr lo pc : Nat} {lv : List (Nat × Value)} {st : List Value} {σ : gS} {i : Int32} {k' : Nat} (C : gC X cc own nL fr lo) (hi : inb i 2 = true) (hk' : 18 + 1 + i.toNatClampNeg = k') (d : decode cc pc = .ok (.aaload, 1)) (kk : G X (pc + 1) lv (.ref (gA X k') :: st) σ) : G X pc lv (.int i :: .ref (gA X 18) :: st) σ := r_aald C (k := 18) (n := 2) (t := 2) (ty := .int) (by decide) (fun _ _ _ _ => rfl) (fun _ => rfl) hi hk' d kk
theorem o_24 {X : gX} {cc : ByteArray} {own : String} {nL fr lo pc : Nat} {lv : List (Nat × Value)} {st : List Value} {σ : gS} {i : Int32} {k' : Nat} (C : gC X cc own nL fr lo) (hi : inb i 2 = true) (hk' : 24 + 1 + i.toNatClampNeg = k') (d : decode cc pc = .ok (.aaload, 1)) (kk : G X (pc + 1) lv (.ref (gA X k') :: st) σ) : G X pc lv (.int i :: .ref (gA X 24) :: st) σ := r_aald C (k := 24) (n := 2) (t := 3) (ty := .long) (by decide) (fun _ _ _ _ => rfl) (fun _ => rfl) hi hk' d kk
theorem o_28 {X : gX} {cc : ByteArray} {own : String} {nL fr lo pc : Nat} {lv : List (Nat × Value)} {st : List Value} {σ : gS} {i : Int32} {k' : Nat} (C : gC X cc own nL fr lo) (hi : inb i 2 = true) (hk' : 28 + 1 + i.toNatClampNeg = k') (d : decode cc pc = .ok (.aaload, 1)) (kk : G X (pc + 1) lv (.ref (gA X k') :: st) σ) : G X pc lv (.int i :: .ref (gA X 28) :: st) σ := r_aald C (k := 28) (n := 2) (t := 2) (ty := .int) (by decide) (fun _ _ _ _ => rfl) (fun _ => rfl) hi hk' d kk
theorem o_31 {X : gX} {cc : ByteArray} {own : String} {nL fr lo pc : Nat} {lv : List (Nat × Value)} {st : List Value} {σ : gS} {i : Int32} {k' : Nat} (C : gC X cc own nL fr lo) (hi : inb i 2 = true) (hk' : 31 + 1 + i.toNatClampNeg = k') (d : decode cc pc = .ok (.aaload, 1)) (kk : G X (pc + 1) lv (.ref (gA X k') :: st) σ) : G X pc lv (.int i :: .ref (gA X 31) :: st) σ := r_aald C (k := 31) (n := 2) (t := 2) (ty := .int) (by decide) (fun _ _ _ _ => rfl) (fun _ => rfl) hi hk' d kk
theorem o_35 {X : gX} {cc : ByteArray} {own : String} {nL fr lo pc : Nat} {lv : List (Nat × Value)} {st : List Value} {σ : gS} {i : Int32} {k' : Nat} (C : gC X cc own nL fr lo) (hi : inb i 2 = true) (hk' : 35 + 1 + i.toNatClampNeg = k') (d : decode cc pc = .ok (.aaload, 1)) (kk : G X (pc + 1) lv (.ref (gA X k') :: st) σ) : G X pc lv (.int i :: .ref (gA X 35) :: st) σ := r_aald C (k := 35) (n := 2) (t := 2) (ty := .int) (by decide) (fun _ _ _ _ => rfl) (fun _ => rfl) hi hk' d kk
theorem o_40 {X : gX} {cc : ByteArray} {own : String} {nL fr lo pc : Nat} {lv : List (Nat × Value)} {st : List Value} {σ : gS} {i : Int32} {k' : Nat} (C : gC X cc own nL fr lo) (hi : inb i 2 = true) (hk' : 40 + 1 + i.toNatClampNeg = k') (d : decode cc pc = .ok (.aaload, 1)) (kk : G X (pc + 1) lv (.ref (gA X k') :: st) σ) : G X pc lv (.int i :: .ref (gA X 40) :: st) σ := r_aald C (k := 40) (n := 2) (t := 2) (ty := .int) (by decide) (fun _ _ _ _ => rfl) (fun _ => rfl) hi hk' d kk
theorem o_43 {X : gX} {cc : ByteArray} {own : String} {nL fr lo pc : Nat} {lv : List (Nat × Value)} {st : List Value} {σ : gS} {i : Int32} {k' : Nat} (C : gC X cc own nL fr lo) (hi : inb i 2 = true) (hk' : 43 + 1 + i.toNatClampNeg = k') (d : decode cc pc = .ok (.aaload, 1)) (kk : G X (pc + 1) lv (.ref (gA X k') :: st) σ) : G X pc lv (.int i :: .ref (gA X 43) :: st) σ := r_aald C (k := 43) (n := 2) (t := 2) (ty := .int) (by decide) (fun _ _ _ _ => rfl) (fun _ => rfl) hi hk' d kk
