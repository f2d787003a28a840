section
-- ===== PART A: goes FIRST, ahead of the names: the tables' words, and 'selects' of the private methods out of them =====
/-- a private method of a class that the tables say can be made, by its rows of tables_1 -/
def lw_okq (q : MethodName × Nat) : Prop := (q.1.cls ≠ "java/lang/invoke/MethodHandle" ∧ q.1.cls ≠ "java/lang/invoke/VarHandle") ∧ Cond.instantiable q.1.cls q.2 ∈ tables_1 ∧ Cond.privateMethod q.1 ∈ tables_1 ∧ Cond.instanceMethod q.1 ∈ tables_1
theorem lw_p0 : lw_okq (⟨"GameRows$Forest", "startNode", "(II)I"⟩, 17) := ⟨⟨by decide +kernel, by decide +kernel⟩, List.mem_of_getElem? (i := 20) (by decide +kernel), List.mem_of_getElem? (i := 250) (by decide +kernel), List.mem_of_getElem? (i := 251) (by decide +kernel)⟩
theorem lw_p1 : lw_okq (⟨"GameRows$Forest", "areOfferedThere", "(I)Z"⟩, 17) := ⟨⟨by decide +kernel, by decide +kernel⟩, List.mem_of_getElem? (i := 20) (by decide +kernel), List.mem_of_getElem? (i := 266) (by decide +kernel), List.mem_of_getElem? (i := 267) (by decide +kernel)⟩
theorem lw_p2 : lw_okq (⟨"GameRows$Forest", "isOfferedTaken", "(I)Z"⟩, 17) := ⟨⟨by decide +kernel, by decide +kernel⟩, List.mem_of_getElem? (i := 20) (by decide +kernel), List.mem_of_getElem? (i := 274) (by decide +kernel), List.mem_of_getElem? (i := 275) (by decide +kernel)⟩
theorem lw_p3 : lw_okq (⟨"GameRows$Forest", "greatestOffered", "([II)I"⟩, 17) := ⟨⟨by decide +kernel, by decide +kernel⟩, List.mem_of_getElem? (i := 20) (by decide +kernel), List.mem_of_getElem? (i := 278) (by decide +kernel), List.mem_of_getElem? (i := 279) (by decide +kernel)⟩
theorem lw_p4 : lw_okq (⟨"GameRows$Forest", "setsOffered", "(I)I"⟩, 17) := ⟨⟨by decide +kernel, by decide +kernel⟩, List.mem_of_getElem? (i := 20) (by decide +kernel), List.mem_of_getElem? (i := 285) (by decide +kernel), List.mem_of_getElem? (i := 286) (by decide +kernel)⟩
theorem lw_p5 : lw_okq (⟨"GameRows$Forest", "plansWith", "(II)I"⟩, 17) := ⟨⟨by decide +kernel, by decide +kernel⟩, List.mem_of_getElem? (i := 20) (by decide +kernel), List.mem_of_getElem? (i := 289) (by decide +kernel), List.mem_of_getElem? (i := 290) (by decide +kernel)⟩
theorem lw_p6 : lw_okq (⟨"GameRows$Forest", "adoptOffered", "(II)V"⟩, 17) := ⟨⟨by decide +kernel, by decide +kernel⟩, List.mem_of_getElem? (i := 20) (by decide +kernel), List.mem_of_getElem? (i := 296) (by decide +kernel), List.mem_of_getElem? (i := 297) (by decide +kernel)⟩
theorem lw_p7 : lw_okq (⟨"GameRows", "isEmpty", "()Z"⟩, 5) := ⟨⟨by decide +kernel, by decide +kernel⟩, List.mem_of_getElem? (i := 12) (by decide +kernel), List.mem_of_getElem? (i := 312) (by decide +kernel), List.mem_of_getElem? (i := 313) (by decide +kernel)⟩
theorem lw_p8 : lw_okq (⟨"GameRows$Forest", "setsInTree", "()I"⟩, 17) := ⟨⟨by decide +kernel, by decide +kernel⟩, List.mem_of_getElem? (i := 20) (by decide +kernel), List.mem_of_getElem? (i := 335) (by decide +kernel), List.mem_of_getElem? (i := 336) (by decide +kernel)⟩
theorem lw_p9 : lw_okq (⟨"GameRows$Forest", "isGameWithin", "(I)Z"⟩, 17) := ⟨⟨by decide +kernel, by decide +kernel⟩, List.mem_of_getElem? (i := 20) (by decide +kernel), List.mem_of_getElem? (i := 359) (by decide +kernel), List.mem_of_getElem? (i := 360) (by decide +kernel)⟩
theorem lw_p10 : lw_okq (⟨"GameRows$Points", "keepPoints", "(I[J)V"⟩, 6) := ⟨⟨by decide +kernel, by decide +kernel⟩, List.mem_of_getElem? (i := 127) (by decide +kernel), List.mem_of_getElem? (i := 366) (by decide +kernel), List.mem_of_getElem? (i := 367) (by decide +kernel)⟩
theorem lw_p11 : lw_okq (⟨"GameRows$Table", "weighPair", "(II)V"⟩, 7) := ⟨⟨by decide +kernel, by decide +kernel⟩, List.mem_of_getElem? (i := 94) (by decide +kernel), List.mem_of_getElem? (i := 381) (by decide +kernel), List.mem_of_getElem? (i := 382) (by decide +kernel)⟩
theorem lw_p12 : lw_okq (⟨"GameRows$Table", "shareAmongAll", "(II)V"⟩, 7) := ⟨⟨by decide +kernel, by decide +kernel⟩, List.mem_of_getElem? (i := 94) (by decide +kernel), List.mem_of_getElem? (i := 389) (by decide +kernel), List.mem_of_getElem? (i := 390) (by decide +kernel)⟩
theorem lw_p13 : lw_okq (⟨"GameRows$Forest", "isPlayedFrom", "(III)Z"⟩, 17) := ⟨⟨by decide +kernel, by decide +kernel⟩, List.mem_of_getElem? (i := 20) (by decide +kernel), List.mem_of_getElem? (i := 401) (by decide +kernel), List.mem_of_getElem? (i := 402) (by decide +kernel)⟩
theorem lw_p14 : lw_okq (⟨"GameRows$Points", "findInner", "(II)I"⟩, 6) := ⟨⟨by decide +kernel, by decide +kernel⟩, List.mem_of_getElem? (i := 127) (by decide +kernel), List.mem_of_getElem? (i := 405) (by decide +kernel), List.mem_of_getElem? (i := 406) (by decide +kernel)⟩
theorem lw_p15 : lw_okq (⟨"GameRows$Points", "findBest", "(I)V"⟩, 6) := ⟨⟨by decide +kernel, by decide +kernel⟩, List.mem_of_getElem? (i := 127) (by decide +kernel), List.mem_of_getElem? (i := 413) (by decide +kernel), List.mem_of_getElem? (i := 414) (by decide +kernel)⟩
def lw_privs_1 : List (MethodName × Nat) := [(⟨"GameRows$Forest", "startNode", "(II)I"⟩, 17), (⟨"GameRows$Forest", "areOfferedThere", "(I)Z"⟩, 17), (⟨"GameRows$Forest", "isOfferedTaken", "(I)Z"⟩, 17), (⟨"GameRows$Forest", "greatestOffered", "([II)I"⟩, 17), (⟨"GameRows$Forest", "setsOffered", "(I)I"⟩, 17), (⟨"GameRows$Forest", "plansWith", "(II)I"⟩, 17), (⟨"GameRows$Forest", "adoptOffered", "(II)V"⟩, 17), (⟨"GameRows", "isEmpty", "()Z"⟩, 5), (⟨"GameRows$Forest", "setsInTree", "()I"⟩, 17), (⟨"GameRows$Forest", "isGameWithin", "(I)Z"⟩, 17), (⟨"GameRows$Points", "keepPoints", "(I[J)V"⟩, 6), (⟨"GameRows$Table", "weighPair", "(II)V"⟩, 7), (⟨"GameRows$Table", "shareAmongAll", "(II)V"⟩, 7), (⟨"GameRows$Forest", "isPlayedFrom", "(III)Z"⟩, 17), (⟨"GameRows$Points", "findInner", "(II)I"⟩, 6), (⟨"GameRows$Points", "findBest", "(I)V"⟩, 6)]
theorem lw_r1 : ∀ q ∈ lw_privs_1, lw_okq q := List.forall_mem_cons.mpr ⟨lw_p0, List.forall_mem_cons.mpr ⟨lw_p1, List.forall_mem_cons.mpr ⟨lw_p2, List.forall_mem_cons.mpr ⟨lw_p3, List.forall_mem_cons.mpr ⟨lw_p4, List.forall_mem_cons.mpr ⟨lw_p5, List.forall_mem_cons.mpr ⟨lw_p6, List.forall_mem_cons.mpr ⟨lw_p7, List.forall_mem_cons.mpr ⟨lw_p8, List.forall_mem_cons.mpr ⟨lw_p9, List.forall_mem_cons.mpr ⟨lw_p10, List.forall_mem_cons.mpr ⟨lw_p11, List.forall_mem_cons.mpr ⟨lw_p12, List.forall_mem_cons.mpr ⟨lw_p13, List.forall_mem_cons.mpr ⟨lw_p14, List.forall_mem_cons.mpr ⟨lw_p15, fun _ h => absurd h List.not_mem_nil⟩⟩⟩⟩⟩⟩⟩⟩⟩⟩⟩⟩⟩⟩⟩⟩
theorem lw_p16 : lw_okq (⟨"GameRows$Points", "isPoint", "(II)Z"⟩, 6) := ⟨⟨by decide +kernel, by decide +kernel⟩, List.mem_of_getElem? (i := 127) (by decide +kernel), List.mem_of_getElem? (i := 429) (by decide +kernel), List.mem_of_getElem? (i := 430) (by decide +kernel)⟩
theorem lw_p17 : lw_okq (⟨"GameRows$Leaving", "thoseThatGo", "(I)J"⟩, 5) := ⟨⟨by decide +kernel, by decide +kernel⟩, List.mem_of_getElem? (i := 155) (by decide +kernel), List.mem_of_getElem? (i := 452) (by decide +kernel), List.mem_of_getElem? (i := 453) (by decide +kernel)⟩
theorem lw_p18 : lw_okq (⟨"GameRows$Table", "isWorse", "(IIIJ)Z"⟩, 7) := ⟨⟨by decide +kernel, by decide +kernel⟩, List.mem_of_getElem? (i := 94) (by decide +kernel), List.mem_of_getElem? (i := 463) (by decide +kernel), List.mem_of_getElem? (i := 464) (by decide +kernel)⟩
theorem lw_p19 : lw_okq (⟨"GameRows$Leaving", "takeAway", "(IJI)V"⟩, 5) := ⟨⟨by decide +kernel, by decide +kernel⟩, List.mem_of_getElem? (i := 155) (by decide +kernel), List.mem_of_getElem? (i := 468) (by decide +kernel), List.mem_of_getElem? (i := 469) (by decide +kernel)⟩
theorem lw_p20 : lw_okq (⟨"GameRows", "isPlan", "(II)Z"⟩, 5) := ⟨⟨by decide +kernel, by decide +kernel⟩, List.mem_of_getElem? (i := 12) (by decide +kernel), List.mem_of_getElem? (i := 493) (by decide +kernel), List.mem_of_getElem? (i := 494) (by decide +kernel)⟩
theorem lw_p21 : lw_okq (⟨"GameRows$Table", "areOne", "(III)Z"⟩, 7) := ⟨⟨by decide +kernel, by decide +kernel⟩, List.mem_of_getElem? (i := 94) (by decide +kernel), List.mem_of_getElem? (i := 540) (by decide +kernel), List.mem_of_getElem? (i := 541) (by decide +kernel)⟩
theorem lw_p22 : lw_okq (⟨"GameRows$Table", "isWeaklyWorse", "(III)Z"⟩, 7) := ⟨⟨by decide +kernel, by decide +kernel⟩, List.mem_of_getElem? (i := 94) (by decide +kernel), List.mem_of_getElem? (i := 554) (by decide +kernel), List.mem_of_getElem? (i := 555) (by decide +kernel)⟩
theorem lw_p23 : lw_okq (⟨"GameRows$Table", "leastOf", "(II)I"⟩, 7) := ⟨⟨by decide +kernel, by decide +kernel⟩, List.mem_of_getElem? (i := 94) (by decide +kernel), List.mem_of_getElem? (i := 574) (by decide +kernel), List.mem_of_getElem? (i := 575) (by decide +kernel)⟩
theorem lw_p24 : lw_okq (⟨"GameRows$Forest", "areWaysAlike", "(II)Z"⟩, 17) := ⟨⟨by decide +kernel, by decide +kernel⟩, List.mem_of_getElem? (i := 20) (by decide +kernel), List.mem_of_getElem? (i := 590) (by decide +kernel), List.mem_of_getElem? (i := 591) (by decide +kernel)⟩
theorem lw_p25 : lw_okq (⟨"GameRows$Forest", "wayTo", "(II)J"⟩, 17) := ⟨⟨by decide +kernel, by decide +kernel⟩, List.mem_of_getElem? (i := 20) (by decide +kernel), List.mem_of_getElem? (i := 594) (by decide +kernel), List.mem_of_getElem? (i := 595) (by decide +kernel)⟩
theorem lw_p26 : lw_okq (⟨"GameRows$Forest", "actTo", "(II)I"⟩, 17) := ⟨⟨by decide +kernel, by decide +kernel⟩, List.mem_of_getElem? (i := 20) (by decide +kernel), List.mem_of_getElem? (i := 599) (by decide +kernel), List.mem_of_getElem? (i := 600) (by decide +kernel)⟩
theorem lw_p27 : lw_okq (⟨"GameRows$Answering", "leastOfGreatest", "(I)I"⟩, 6) := ⟨⟨by decide +kernel, by decide +kernel⟩, List.mem_of_getElem? (i := 178) (by decide +kernel), List.mem_of_getElem? (i := 613) (by decide +kernel), List.mem_of_getElem? (i := 614) (by decide +kernel)⟩
theorem lw_p28 : lw_okq (⟨"GameRows$Answering", "addUp", "(II)V"⟩, 6) := ⟨⟨by decide +kernel, by decide +kernel⟩, List.mem_of_getElem? (i := 178) (by decide +kernel), List.mem_of_getElem? (i := 617) (by decide +kernel), List.mem_of_getElem? (i := 618) (by decide +kernel)⟩
theorem lw_p29 : lw_okq (⟨"GameRows$Answering", "sumAgainst", "(II)I"⟩, 6) := ⟨⟨by decide +kernel, by decide +kernel⟩, List.mem_of_getElem? (i := 178) (by decide +kernel), List.mem_of_getElem? (i := 635) (by decide +kernel), List.mem_of_getElem? (i := 636) (by decide +kernel)⟩
theorem lw_p30 : lw_okq (⟨"GameRows$Answering", "sumFor", "(II)I"⟩, 6) := ⟨⟨by decide +kernel, by decide +kernel⟩, List.mem_of_getElem? (i := 178) (by decide +kernel), List.mem_of_getElem? (i := 645) (by decide +kernel), List.mem_of_getElem? (i := 646) (by decide +kernel)⟩
theorem lw_p31 : lw_okq (⟨"GameRowsModel", "make", "(I)I"⟩, 26) := ⟨⟨by decide +kernel, by decide +kernel⟩, List.mem_of_getElem? (i := 649) (by decide +kernel), List.mem_of_getElem? (i := 750) (by decide +kernel), List.mem_of_getElem? (i := 751) (by decide +kernel)⟩
def lw_privs_2 : List (MethodName × Nat) := [(⟨"GameRows$Points", "isPoint", "(II)Z"⟩, 6), (⟨"GameRows$Leaving", "thoseThatGo", "(I)J"⟩, 5), (⟨"GameRows$Table", "isWorse", "(IIIJ)Z"⟩, 7), (⟨"GameRows$Leaving", "takeAway", "(IJI)V"⟩, 5), (⟨"GameRows", "isPlan", "(II)Z"⟩, 5), (⟨"GameRows$Table", "areOne", "(III)Z"⟩, 7), (⟨"GameRows$Table", "isWeaklyWorse", "(III)Z"⟩, 7), (⟨"GameRows$Table", "leastOf", "(II)I"⟩, 7), (⟨"GameRows$Forest", "areWaysAlike", "(II)Z"⟩, 17), (⟨"GameRows$Forest", "wayTo", "(II)J"⟩, 17), (⟨"GameRows$Forest", "actTo", "(II)I"⟩, 17), (⟨"GameRows$Answering", "leastOfGreatest", "(I)I"⟩, 6), (⟨"GameRows$Answering", "addUp", "(II)V"⟩, 6), (⟨"GameRows$Answering", "sumAgainst", "(II)I"⟩, 6), (⟨"GameRows$Answering", "sumFor", "(II)I"⟩, 6), (⟨"GameRowsModel", "make", "(I)I"⟩, 26)]
theorem lw_r2 : ∀ q ∈ lw_privs_2, lw_okq q := List.forall_mem_cons.mpr ⟨lw_p16, List.forall_mem_cons.mpr ⟨lw_p17, List.forall_mem_cons.mpr ⟨lw_p18, List.forall_mem_cons.mpr ⟨lw_p19, List.forall_mem_cons.mpr ⟨lw_p20, List.forall_mem_cons.mpr ⟨lw_p21, List.forall_mem_cons.mpr ⟨lw_p22, List.forall_mem_cons.mpr ⟨lw_p23, List.forall_mem_cons.mpr ⟨lw_p24, List.forall_mem_cons.mpr ⟨lw_p25, List.forall_mem_cons.mpr ⟨lw_p26, List.forall_mem_cons.mpr ⟨lw_p27, List.forall_mem_cons.mpr ⟨lw_p28, List.forall_mem_cons.mpr ⟨lw_p29, List.forall_mem_cons.mpr ⟨lw_p30, List.forall_mem_cons.mpr ⟨lw_p31, fun _ h => absurd h List.not_mem_nil⟩⟩⟩⟩⟩⟩⟩⟩⟩⟩⟩⟩⟩⟩⟩⟩
theorem lw_p32 : lw_okq (⟨"GameRowsModel", "isNode", "(I)Z"⟩, 26) := ⟨⟨by decide +kernel, by decide +kernel⟩, List.mem_of_getElem? (i := 649) (by decide +kernel), List.mem_of_getElem? (i := 758) (by decide +kernel), List.mem_of_getElem? (i := 759) (by decide +kernel)⟩
theorem lw_p33 : lw_okq (⟨"GameRowsModel", "bar", "(IIIII)I"⟩, 26) := ⟨⟨by decide +kernel, by decide +kernel⟩, List.mem_of_getElem? (i := 649) (by decide +kernel), List.mem_of_getElem? (i := 762) (by decide +kernel), List.mem_of_getElem? (i := 763) (by decide +kernel)⟩
theorem lw_p34 : lw_okq (⟨"GameRowsModel", "adopt", "(IIIIII)V"⟩, 26) := ⟨⟨by decide +kernel, by decide +kernel⟩, List.mem_of_getElem? (i := 649) (by decide +kernel), List.mem_of_getElem? (i := 769) (by decide +kernel), List.mem_of_getElem? (i := 770) (by decide +kernel)⟩
theorem lw_p35 : lw_okq (⟨"GameRowsModel", "tooMany", "()Z"⟩, 26) := ⟨⟨by decide +kernel, by decide +kernel⟩, List.mem_of_getElem? (i := 649) (by decide +kernel), List.mem_of_getElem? (i := 773) (by decide +kernel), List.mem_of_getElem? (i := 774) (by decide +kernel)⟩
theorem lw_p36 : lw_okq (⟨"GameRowsModel", "findTree", "()V"⟩, 26) := ⟨⟨by decide +kernel, by decide +kernel⟩, List.mem_of_getElem? (i := 649) (by decide +kernel), List.mem_of_getElem? (i := 777) (by decide +kernel), List.mem_of_getElem? (i := 778) (by decide +kernel)⟩
theorem lw_p37 : lw_okq (⟨"GameRowsModel", "plansOf", "(I)I"⟩, 26) := ⟨⟨by decide +kernel, by decide +kernel⟩, List.mem_of_getElem? (i := 649) (by decide +kernel), List.mem_of_getElem? (i := 781) (by decide +kernel), List.mem_of_getElem? (i := 782) (by decide +kernel)⟩
theorem lw_p38 : lw_okq (⟨"GameRowsModel", "undo", "(IIII)V"⟩, 26) := ⟨⟨by decide +kernel, by decide +kernel⟩, List.mem_of_getElem? (i := 649) (by decide +kernel), List.mem_of_getElem? (i := 785) (by decide +kernel), List.mem_of_getElem? (i := 786) (by decide +kernel)⟩
theorem lw_p39 : lw_okq (⟨"GameRowsModel", "root", "()I"⟩, 26) := ⟨⟨by decide +kernel, by decide +kernel⟩, List.mem_of_getElem? (i := 649) (by decide +kernel), List.mem_of_getElem? (i := 798) (by decide +kernel), List.mem_of_getElem? (i := 799) (by decide +kernel)⟩
theorem lw_p40 : lw_okq (⟨"GameRowsModel", "workAll", "(I)V"⟩, 26) := ⟨⟨by decide +kernel, by decide +kernel⟩, List.mem_of_getElem? (i := 649) (by decide +kernel), List.mem_of_getElem? (i := 802) (by decide +kernel), List.mem_of_getElem? (i := 803) (by decide +kernel)⟩
theorem lw_p41 : lw_okq (⟨"GameRowsModel", "work", "(III)V"⟩, 26) := ⟨⟨by decide +kernel, by decide +kernel⟩, List.mem_of_getElem? (i := 649) (by decide +kernel), List.mem_of_getElem? (i := 806) (by decide +kernel), List.mem_of_getElem? (i := 807) (by decide +kernel)⟩
theorem lw_p42 : lw_okq (⟨"GameRowsModel", "actOf", "(III)I"⟩, 26) := ⟨⟨by decide +kernel, by decide +kernel⟩, List.mem_of_getElem? (i := 649) (by decide +kernel), List.mem_of_getElem? (i := 810) (by decide +kernel), List.mem_of_getElem? (i := 811) (by decide +kernel)⟩
theorem lw_p43 : lw_okq (⟨"GameRowsModel", "mean", "(II)I"⟩, 26) := ⟨⟨by decide +kernel, by decide +kernel⟩, List.mem_of_getElem? (i := 649) (by decide +kernel), List.mem_of_getElem? (i := 814) (by decide +kernel), List.mem_of_getElem? (i := 815) (by decide +kernel)⟩
theorem lw_p44 : lw_okq (⟨"GameRowsModel", "worthTo", "(III)I"⟩, 26) := ⟨⟨by decide +kernel, by decide +kernel⟩, List.mem_of_getElem? (i := 649) (by decide +kernel), List.mem_of_getElem? (i := 818) (by decide +kernel), List.mem_of_getElem? (i := 819) (by decide +kernel)⟩
theorem lw_p45 : lw_okq (⟨"GameRowsModel", "many", "(I)I"⟩, 26) := ⟨⟨by decide +kernel, by decide +kernel⟩, List.mem_of_getElem? (i := 649) (by decide +kernel), List.mem_of_getElem? (i := 830) (by decide +kernel), List.mem_of_getElem? (i := 831) (by decide +kernel)⟩
theorem lw_p46 : lw_okq (⟨"GameRowsModel", "answerOf", "(II)I"⟩, 26) := ⟨⟨by decide +kernel, by decide +kernel⟩, List.mem_of_getElem? (i := 649) (by decide +kernel), List.mem_of_getElem? (i := 834) (by decide +kernel), List.mem_of_getElem? (i := 835) (by decide +kernel)⟩
theorem lw_p47 : lw_okq (⟨"GameRowsModel", "countPoints", "(ZI)I"⟩, 26) := ⟨⟨by decide +kernel, by decide +kernel⟩, List.mem_of_getElem? (i := 649) (by decide +kernel), List.mem_of_getElem? (i := 842) (by decide +kernel), List.mem_of_getElem? (i := 843) (by decide +kernel)⟩
def lw_privs_3 : List (MethodName × Nat) := [(⟨"GameRowsModel", "isNode", "(I)Z"⟩, 26), (⟨"GameRowsModel", "bar", "(IIIII)I"⟩, 26), (⟨"GameRowsModel", "adopt", "(IIIIII)V"⟩, 26), (⟨"GameRowsModel", "tooMany", "()Z"⟩, 26), (⟨"GameRowsModel", "findTree", "()V"⟩, 26), (⟨"GameRowsModel", "plansOf", "(I)I"⟩, 26), (⟨"GameRowsModel", "undo", "(IIII)V"⟩, 26), (⟨"GameRowsModel", "root", "()I"⟩, 26), (⟨"GameRowsModel", "workAll", "(I)V"⟩, 26), (⟨"GameRowsModel", "work", "(III)V"⟩, 26), (⟨"GameRowsModel", "actOf", "(III)I"⟩, 26), (⟨"GameRowsModel", "mean", "(II)I"⟩, 26), (⟨"GameRowsModel", "worthTo", "(III)I"⟩, 26), (⟨"GameRowsModel", "many", "(I)I"⟩, 26), (⟨"GameRowsModel", "answerOf", "(II)I"⟩, 26), (⟨"GameRowsModel", "countPoints", "(ZI)I"⟩, 26)]
theorem lw_r3 : ∀ q ∈ lw_privs_3, lw_okq q := List.forall_mem_cons.mpr ⟨lw_p32, List.forall_mem_cons.mpr ⟨lw_p33, List.forall_mem_cons.mpr ⟨lw_p34, List.forall_mem_cons.mpr ⟨lw_p35, List.forall_mem_cons.mpr ⟨lw_p36, List.forall_mem_cons.mpr ⟨lw_p37, List.forall_mem_cons.mpr ⟨lw_p38, List.forall_mem_cons.mpr ⟨lw_p39, List.forall_mem_cons.mpr ⟨lw_p40, List.forall_mem_cons.mpr ⟨lw_p41, List.forall_mem_cons.mpr ⟨lw_p42, List.forall_mem_cons.mpr ⟨lw_p43, List.forall_mem_cons.mpr ⟨lw_p44, List.forall_mem_cons.mpr ⟨lw_p45, List.forall_mem_cons.mpr ⟨lw_p46, List.forall_mem_cons.mpr ⟨lw_p47, fun _ h => absurd h List.not_mem_nil⟩⟩⟩⟩⟩⟩⟩⟩⟩⟩⟩⟩⟩⟩⟩⟩
theorem lw_p48 : lw_okq (⟨"GameRowsModel", "findPoints", "(Z)V"⟩, 26) := ⟨⟨by decide +kernel, by decide +kernel⟩, List.mem_of_getElem? (i := 649) (by decide +kernel), List.mem_of_getElem? (i := 846) (by decide +kernel), List.mem_of_getElem? (i := 847) (by decide +kernel)⟩
theorem lw_p49 : lw_okq (⟨"GameRowsModel", "sift", "()V"⟩, 26) := ⟨⟨by decide +kernel, by decide +kernel⟩, List.mem_of_getElem? (i := 649) (by decide +kernel), List.mem_of_getElem? (i := 850) (by decide +kernel), List.mem_of_getElem? (i := 851) (by decide +kernel)⟩
theorem lw_p50 : lw_okq (⟨"GameRowsModel", "isGame", "(I)Z"⟩, 26) := ⟨⟨by decide +kernel, by decide +kernel⟩, List.mem_of_getElem? (i := 649) (by decide +kernel), List.mem_of_getElem? (i := 854) (by decide +kernel), List.mem_of_getElem? (i := 855) (by decide +kernel)⟩
theorem lw_p51 : lw_okq (⟨"GameRowsModel", "isBelow", "(II)Z"⟩, 26) := ⟨⟨by decide +kernel, by decide +kernel⟩, List.mem_of_getElem? (i := 649) (by decide +kernel), List.mem_of_getElem? (i := 858) (by decide +kernel), List.mem_of_getElem? (i := 859) (by decide +kernel)⟩
theorem lw_p52 : lw_okq (⟨"GameRowsModel", "games", "(I)I"⟩, 26) := ⟨⟨by decide +kernel, by decide +kernel⟩, List.mem_of_getElem? (i := 649) (by decide +kernel), List.mem_of_getElem? (i := 866) (by decide +kernel), List.mem_of_getElem? (i := 867) (by decide +kernel)⟩
theorem lw_p53 : lw_okq (⟨"GameRowsModel", "allLeft", "()V"⟩, 26) := ⟨⟨by decide +kernel, by decide +kernel⟩, List.mem_of_getElem? (i := 649) (by decide +kernel), List.mem_of_getElem? (i := 874) (by decide +kernel), List.mem_of_getElem? (i := 875) (by decide +kernel)⟩
theorem lw_p54 : lw_okq (⟨"GameRowsModel", "isWorse", "(III)Z"⟩, 26) := ⟨⟨by decide +kernel, by decide +kernel⟩, List.mem_of_getElem? (i := 649) (by decide +kernel), List.mem_of_getElem? (i := 878) (by decide +kernel), List.mem_of_getElem? (i := 879) (by decide +kernel)⟩
theorem lw_p55 : lw_okq (⟨"GameRowsModel", "isLeft", "(II)Z"⟩, 26) := ⟨⟨by decide +kernel, by decide +kernel⟩, List.mem_of_getElem? (i := 649) (by decide +kernel), List.mem_of_getElem? (i := 882) (by decide +kernel), List.mem_of_getElem? (i := 883) (by decide +kernel)⟩
theorem lw_p56 : lw_okq (⟨"GameRowsModel", "isWeaker", "(III)Z"⟩, 26) := ⟨⟨by decide +kernel, by decide +kernel⟩, List.mem_of_getElem? (i := 649) (by decide +kernel), List.mem_of_getElem? (i := 886) (by decide +kernel), List.mem_of_getElem? (i := 887) (by decide +kernel)⟩
theorem lw_p57 : lw_okq (⟨"GameRowsModel", "isOne", "(III)Z"⟩, 26) := ⟨⟨by decide +kernel, by decide +kernel⟩, List.mem_of_getElem? (i := 649) (by decide +kernel), List.mem_of_getElem? (i := 890) (by decide +kernel), List.mem_of_getElem? (i := 891) (by decide +kernel)⟩
theorem lw_p58 : lw_okq (⟨"GameRowsModel", "doRounds", "()I"⟩, 26) := ⟨⟨by decide +kernel, by decide +kernel⟩, List.mem_of_getElem? (i := 649) (by decide +kernel), List.mem_of_getElem? (i := 898) (by decide +kernel), List.mem_of_getElem? (i := 899) (by decide +kernel)⟩
theorem lw_p59 : lw_okq (⟨"GameRowsModel", "isWorst", "(II)Z"⟩, 26) := ⟨⟨by decide +kernel, by decide +kernel⟩, List.mem_of_getElem? (i := 649) (by decide +kernel), List.mem_of_getElem? (i := 902) (by decide +kernel), List.mem_of_getElem? (i := 903) (by decide +kernel)⟩
theorem lw_p60 : lw_okq (⟨"GameRowsModel", "leftOf", "(I)I"⟩, 26) := ⟨⟨by decide +kernel, by decide +kernel⟩, List.mem_of_getElem? (i := 649) (by decide +kernel), List.mem_of_getElem? (i := 906) (by decide +kernel), List.mem_of_getElem? (i := 907) (by decide +kernel)⟩
theorem lw_p61 : lw_okq (⟨"GameRowsModel", "memory", "(II)J"⟩, 26) := ⟨⟨by decide +kernel, by decide +kernel⟩, List.mem_of_getElem? (i := 649) (by decide +kernel), List.mem_of_getElem? (i := 918) (by decide +kernel), List.mem_of_getElem? (i := 919) (by decide +kernel)⟩
theorem lw_p62 : lw_okq (⟨"GameRowsModel", "answerAll", "(I)V"⟩, 26) := ⟨⟨by decide +kernel, by decide +kernel⟩, List.mem_of_getElem? (i := 649) (by decide +kernel), List.mem_of_getElem? (i := 928) (by decide +kernel), List.mem_of_getElem? (i := 929) (by decide +kernel)⟩
theorem lw_p63 : lw_okq (⟨"GameRowsModel", "bestOf", "(I)I"⟩, 26) := ⟨⟨by decide +kernel, by decide +kernel⟩, List.mem_of_getElem? (i := 649) (by decide +kernel), List.mem_of_getElem? (i := 932) (by decide +kernel), List.mem_of_getElem? (i := 933) (by decide +kernel)⟩
def lw_privs_4 : List (MethodName × Nat) := [(⟨"GameRowsModel", "findPoints", "(Z)V"⟩, 26), (⟨"GameRowsModel", "sift", "()V"⟩, 26), (⟨"GameRowsModel", "isGame", "(I)Z"⟩, 26), (⟨"GameRowsModel", "isBelow", "(II)Z"⟩, 26), (⟨"GameRowsModel", "games", "(I)I"⟩, 26), (⟨"GameRowsModel", "allLeft", "()V"⟩, 26), (⟨"GameRowsModel", "isWorse", "(III)Z"⟩, 26), (⟨"GameRowsModel", "isLeft", "(II)Z"⟩, 26), (⟨"GameRowsModel", "isWeaker", "(III)Z"⟩, 26), (⟨"GameRowsModel", "isOne", "(III)Z"⟩, 26), (⟨"GameRowsModel", "doRounds", "()I"⟩, 26), (⟨"GameRowsModel", "isWorst", "(II)Z"⟩, 26), (⟨"GameRowsModel", "leftOf", "(I)I"⟩, 26), (⟨"GameRowsModel", "memory", "(II)J"⟩, 26), (⟨"GameRowsModel", "answerAll", "(I)V"⟩, 26), (⟨"GameRowsModel", "bestOf", "(I)I"⟩, 26)]
theorem lw_r4 : ∀ q ∈ lw_privs_4, lw_okq q := List.forall_mem_cons.mpr ⟨lw_p48, List.forall_mem_cons.mpr ⟨lw_p49, List.forall_mem_cons.mpr ⟨lw_p50, List.forall_mem_cons.mpr ⟨lw_p51, List.forall_mem_cons.mpr ⟨lw_p52, List.forall_mem_cons.mpr ⟨lw_p53, List.forall_mem_cons.mpr ⟨lw_p54, List.forall_mem_cons.mpr ⟨lw_p55, List.forall_mem_cons.mpr ⟨lw_p56, List.forall_mem_cons.mpr ⟨lw_p57, List.forall_mem_cons.mpr ⟨lw_p58, List.forall_mem_cons.mpr ⟨lw_p59, List.forall_mem_cons.mpr ⟨lw_p60, List.forall_mem_cons.mpr ⟨lw_p61, List.forall_mem_cons.mpr ⟨lw_p62, List.forall_mem_cons.mpr ⟨lw_p63, fun _ h => absurd h List.not_mem_nil⟩⟩⟩⟩⟩⟩⟩⟩⟩⟩⟩⟩⟩⟩⟩⟩
theorem lw_p64 : lw_okq (⟨"GameRowsModel", "take", "(II)V"⟩, 26) := ⟨⟨by decide +kernel, by decide +kernel⟩, List.mem_of_getElem? (i := 649) (by decide +kernel), List.mem_of_getElem? (i := 936) (by decide +kernel), List.mem_of_getElem? (i := 937) (by decide +kernel)⟩
def lw_privs_5 : List (MethodName × Nat) := [(⟨"GameRowsModel", "take", "(II)V"⟩, 26)]
theorem lw_r5 : ∀ q ∈ lw_privs_5, lw_okq q := List.forall_mem_cons.mpr ⟨lw_p64, fun _ h => absurd h List.not_mem_nil⟩
def lw_privs : List (MethodName × Nat) := lw_privs_1 ++ (lw_privs_2 ++ (lw_privs_3 ++ (lw_privs_4 ++ (lw_privs_5))))
def lw_tbl : List Cond := k2_sels lw_privs ++ tables_1
theorem lw_privs_ok : ∀ q ∈ lw_privs, lw_okq q := by
  show ∀ q ∈ lw_privs_1 ++ (lw_privs_2 ++ (lw_privs_3 ++ (lw_privs_4 ++ (lw_privs_5)))), lw_okq q
  exact List.forall_mem_append.mpr ⟨lw_r1, List.forall_mem_append.mpr ⟨lw_r2, List.forall_mem_append.mpr ⟨lw_r3, List.forall_mem_append.mpr ⟨lw_r4, lw_r5⟩⟩⟩⟩
-- end of PART A
end
section
def R_Ga : String := "GameRows"
def R_Fo : String := "GameRows$Forest"
def R_Ta : String := "GameRows$Table"
def R_Po : String := "GameRows$Points"
def R_Le : String := "GameRows$Leaving"
def R_An : String := "GameRows$Answering"
def R_Mo : String := "GameRowsModel"
def R_Lo : String := "java/lang/Long"
def R_Ma : String := "java/lang/Math"
def R_Ar : String := "java/util/Arrays"
def R_La : String := "GameRowsLaw"
def R_Ob : String := "java/lang/Object"
def T_Ga : u_T := fun k => match k with
  | 0 => ("GameRows", "forest", "LGameRows$Forest;", true)
  | 1 => ("GameRows", "table", "LGameRows$Table;", true)
  | 2 => ("GameRows", "points", "LGameRows$Points;", true)
  | 3 => ("GameRows", "leaving", "LGameRows$Leaving;", true)
  | _ => ("GameRows", "answering", "LGameRows$Answering;", true)
def ty_Ga : Nat → FieldType := fun k => match k with
  | 0 => .object "GameRows$Forest"
  | 1 => .object "GameRows$Table"
  | 2 => .object "GameRows$Points"
  | 3 => .object "GameRows$Leaving"
  | _ => .object "GameRows$Answering"
theorem nm_Ga : ∀ a, a < 5 → ∀ b, b < 5 → a ≠ b → (T_Ga a).2.1 ≠ (T_Ga b).2.1 := by decide +kernel
theorem ty_Ga_ok : ∀ k, k < 5 → parseFieldDescriptor (T_Ga k).2.2.1 = some (ty_Ga k) := by decide +kernel
def T_Fo : u_T := fun k => match k with
  | 0 => ("GameRows$Forest", "nodes", "I", false)
  | 1 => ("GameRows$Forest", "sets", "I", false)
  | 2 => ("GameRows$Forest", "version", "I", false)
  | 3 => ("GameRows$Forest", "sorts", "[I", true)
  | 4 => ("GameRows$Forest", "setOf", "[I", true)
  | 5 => ("GameRows$Forest", "parents", "[I", true)
  | 6 => ("GameRows$Forest", "actsOf", "[I", true)
  | 7 => ("GameRows$Forest", "worths", "[I", true)
  | 8 => ("GameRows$Forest", "children", "[I", true)
  | 9 => ("GameRows$Forest", "sizes", "[I", true)
  | 10 => ("GameRows$Forest", "depthsBelow", "[I", true)
  | 11 => ("GameRows$Forest", "chancesBelow", "[I", true)
  | 12 => ("GameRows$Forest", "nodesFrom", "[J", true)
  | 13 => ("GameRows$Forest", "setsFrom", "[I", true)
  | 14 => ("GameRows$Forest", "ownerOf", "[I", true)
  | 15 => ("GameRows$Forest", "nodesOf", "[J", true)
  | _ => ("GameRows$Forest", "offered", "[I", true)
def ty_Fo : Nat → FieldType := fun k => match k with
  | 0 => .int
  | 1 => .int
  | 2 => .int
  | 3 => .array .int
  | 4 => .array .int
  | 5 => .array .int
  | 6 => .array .int
  | 7 => .array .int
  | 8 => .array .int
  | 9 => .array .int
  | 10 => .array .int
  | 11 => .array .int
  | 12 => .array .long
  | 13 => .array .int
  | 14 => .array .int
  | 15 => .array .long
  | _ => .array .int
theorem nm_Fo : ∀ a, a < 17 → ∀ b, b < 17 → a ≠ b → (T_Fo a).2.1 ≠ (T_Fo b).2.1 := by decide +kernel
theorem ty_Fo_ok : ∀ k, k < 17 → parseFieldDescriptor (T_Fo k).2.2.1 = some (ty_Fo k) := by decide +kernel
def T_Ta : u_T := fun k => match k with
  | 0 => ("GameRows$Table", "plans", "[I", true)
  | 1 => ("GameRows$Table", "forest", "LGameRows$Forest;", true)
  | 2 => ("GameRows$Table", "worths", "[[I", true)
  | 3 => ("GameRows$Table", "acts", "[I", true)
  | 4 => ("GameRows$Table", "shares", "[I", true)
  | 5 => ("GameRows$Table", "madeFor", "I", false)
  | _ => ("GameRows$Table", "madeFrom", "I", false)
def ty_Ta : Nat → FieldType := fun k => match k with
  | 0 => .array .int
  | 1 => .object "GameRows$Forest"
  | 2 => .array (.array .int)
  | 3 => .array .int
  | 4 => .array .int
  | 5 => .int
  | _ => .int
theorem nm_Ta : ∀ a, a < 7 → ∀ b, b < 7 → a ≠ b → (T_Ta a).2.1 ≠ (T_Ta b).2.1 := by decide +kernel
theorem ty_Ta_ok : ∀ k, k < 7 → parseFieldDescriptor (T_Ta k).2.2.1 = some (ty_Ta k) := by decide +kernel
def T_Po : u_T := fun k => match k with
  | 0 => ("GameRows$Points", "forest", "LGameRows$Forest;", true)
  | 1 => ("GameRows$Points", "table", "LGameRows$Table;", true)
  | 2 => ("GameRows$Points", "rows", "[[J", true)
  | 3 => ("GameRows$Points", "madeFor", "[I", true)
  | 4 => ("GameRows$Points", "best", "[[I", true)
  | _ => ("GameRows$Points", "inner", "[[I", true)
def ty_Po : Nat → FieldType := fun k => match k with
  | 0 => .object "GameRows$Forest"
  | 1 => .object "GameRows$Table"
  | 2 => .array (.array .long)
  | 3 => .array .int
  | 4 => .array (.array .int)
  | _ => .array (.array .int)
theorem nm_Po : ∀ a, a < 6 → ∀ b, b < 6 → a ≠ b → (T_Po a).2.1 ≠ (T_Po b).2.1 := by decide +kernel
theorem ty_Po_ok : ∀ k, k < 6 → parseFieldDescriptor (T_Po k).2.2.1 = some (ty_Po k) := by decide +kernel
def T_Le : u_T := fun k => match k with
  | 0 => ("GameRows$Leaving", "forest", "LGameRows$Forest;", true)
  | 1 => ("GameRows$Leaving", "table", "LGameRows$Table;", true)
  | 2 => ("GameRows$Leaving", "goneIn", "[[I", true)
  | 3 => ("GameRows$Leaving", "left", "[J", true)
  | _ => ("GameRows$Leaving", "madeFor", "I", false)
def ty_Le : Nat → FieldType := fun k => match k with
  | 0 => .object "GameRows$Forest"
  | 1 => .object "GameRows$Table"
  | 2 => .array (.array .int)
  | 3 => .array .long
  | _ => .int
theorem nm_Le : ∀ a, a < 5 → ∀ b, b < 5 → a ≠ b → (T_Le a).2.1 ≠ (T_Le b).2.1 := by decide +kernel
theorem ty_Le_ok : ∀ k, k < 5 → parseFieldDescriptor (T_Le k).2.2.1 = some (ty_Le k) := by decide +kernel
def T_An : u_T := fun k => match k with
  | 0 => ("GameRows$Answering", "forest", "LGameRows$Forest;", true)
  | 1 => ("GameRows$Answering", "table", "LGameRows$Table;", true)
  | 2 => ("GameRows$Answering", "picks", "[[I", true)
  | 3 => ("GameRows$Answering", "sums", "[[I", true)
  | 4 => ("GameRows$Answering", "played", "I", false)
  | _ => ("GameRows$Answering", "madeFor", "I", false)
def ty_An : Nat → FieldType := fun k => match k with
  | 0 => .object "GameRows$Forest"
  | 1 => .object "GameRows$Table"
  | 2 => .array (.array .int)
  | 3 => .array (.array .int)
  | 4 => .int
  | _ => .int
theorem nm_An : ∀ a, a < 6 → ∀ b, b < 6 → a ≠ b → (T_An a).2.1 ≠ (T_An b).2.1 := by decide +kernel
theorem ty_An_ok : ∀ k, k < 6 → parseFieldDescriptor (T_An k).2.2.1 = some (ty_An k) := by decide +kernel
def T_Mo : u_T := fun k => match k with
  | 0 => ("GameRowsModel", "nodes", "I", false)
  | 1 => ("GameRowsModel", "sets", "I", false)
  | 2 => ("GameRowsModel", "sort", "[I", true)
  | 3 => ("GameRowsModel", "setOf", "[I", true)
  | 4 => ("GameRowsModel", "worthOf", "[I", true)
  | 5 => ("GameRowsModel", "child", "[I", true)
  | 6 => ("GameRowsModel", "parent", "[I", true)
  | 7 => ("GameRowsModel", "height", "[I", true)
  | 8 => ("GameRowsModel", "chances", "[I", true)
  | 9 => ("GameRowsModel", "playerOf", "[I", true)
  | 10 => ("GameRowsModel", "acts", "[I", true)
  | 11 => ("GameRowsModel", "inTree", "[Z", true)
  | 12 => ("GameRowsModel", "isIn", "[Z", true)
  | 13 => ("GameRowsModel", "value", "[I", true)
  | 14 => ("GameRowsModel", "worths", "[I", true)
  | 15 => ("GameRowsModel", "choice", "[I", true)
  | 16 => ("GameRowsModel", "plans0", "I", false)
  | 17 => ("GameRowsModel", "plans1", "I", false)
  | 18 => ("GameRowsModel", "isPoint", "[Z", true)
  | 19 => ("GameRowsModel", "pointFound", "I", false)
  | 20 => ("GameRowsModel", "gameFound", "I", false)
  | 21 => ("GameRowsModel", "left", "[Z", true)
  | 22 => ("GameRowsModel", "gone", "[I", true)
  | 23 => ("GameRowsModel", "goes", "[Z", true)
  | 24 => ("GameRowsModel", "took", "[I", true)
  | _ => ("GameRowsModel", "against", "[I", true)
def ty_Mo : Nat → FieldType := fun k => match k with
  | 0 => .int
  | 1 => .int
  | 2 => .array .int
  | 3 => .array .int
  | 4 => .array .int
  | 5 => .array .int
  | 6 => .array .int
  | 7 => .array .int
  | 8 => .array .int
  | 9 => .array .int
  | 10 => .array .int
  | 11 => .array .boolean
  | 12 => .array .boolean
  | 13 => .array .int
  | 14 => .array .int
  | 15 => .array .int
  | 16 => .int
  | 17 => .int
  | 18 => .array .boolean
  | 19 => .int
  | 20 => .int
  | 21 => .array .boolean
  | 22 => .array .int
  | 23 => .array .boolean
  | 24 => .array .int
  | _ => .array .int
theorem nm_Mo : ∀ a, a < 26 → ∀ b, b < 26 → a ≠ b → (T_Mo a).2.1 ≠ (T_Mo b).2.1 := by decide +kernel
theorem ty_Mo_ok : ∀ k, k < 26 → parseFieldDescriptor (T_Mo k).2.2.1 = some (ty_Mo k) := by decide +kernel
abbrev b_Ga_init_c : ByteArray := prog_1_method_1_code
def y_Ga_init : MethodName := ⟨R_Ga, "<init>", "()V"⟩
abbrev b_Fo_init_c : ByteArray := prog_3_method_1_code
def y_Fo_init : MethodName := ⟨R_Fo, "<init>", "()V"⟩
abbrev b_Ta_init_c : ByteArray := prog_6_method_1_code
def y_Ta_init : MethodName := ⟨R_Ta, "<init>", "(LGameRows$Forest;)V"⟩
abbrev b_Po_init_c : ByteArray := prog_5_method_1_code
def y_Po_init : MethodName := ⟨R_Po, "<init>", "(LGameRows$Forest;LGameRows$Table;)V"⟩
abbrev b_Le_init_c : ByteArray := prog_4_method_1_code
def y_Le_init : MethodName := ⟨R_Le, "<init>", "(LGameRows$Forest;LGameRows$Table;)V"⟩
abbrev b_An_init_c : ByteArray := prog_2_method_1_code
def y_An_init : MethodName := ⟨R_An, "<init>", "(LGameRows$Forest;LGameRows$Table;)V"⟩
abbrev b_Ga_clear_c : ByteArray := prog_1_method_2_code
def y_Ga_clear : MethodName := ⟨R_Ga, "clear", "()I"⟩
abbrev b_Fo_dropAll_c : ByteArray := prog_3_method_2_code
def y_Fo_dropAll : MethodName := ⟨R_Fo, "dropAll", "()I"⟩
abbrev b_Ga_set_c : ByteArray := prog_1_method_3_code
def y_Ga_set : MethodName := ⟨R_Ga, "set", "(II)I"⟩
abbrev b_Ga_isPlayer_c : ByteArray := prog_1_method_22_code
def y_Ga_isPlayer : MethodName := ⟨R_Ga, "isPlayer", "(I)Z"⟩
abbrev b_Ga_isAmong_c : ByteArray := prog_1_method_23_code
def y_Ga_isAmong : MethodName := ⟨R_Ga, "isAmong", "(III)Z"⟩
abbrev b_Fo_addSet_c : ByteArray := prog_3_method_3_code
def y_Fo_addSet : MethodName := ⟨R_Fo, "addSet", "(II)I"⟩
abbrev b_Ga_end_c : ByteArray := prog_1_method_4_code
def y_Ga_end : MethodName := ⟨R_Ga, "end", "(II)I"⟩
abbrev b_Fo_addEnd_c : ByteArray := prog_3_method_4_code
def y_Fo_addEnd : MethodName := ⟨R_Fo, "addEnd", "(II)I"⟩
abbrev b_Fo_startNode_c : ByteArray := prog_3_method_11_code
def y_Fo_startNode : MethodName := ⟨R_Fo, "startNode", "(II)I"⟩
abbrev b_Ga_chance_c : ByteArray := prog_1_method_5_code
def y_Ga_chance : MethodName := ⟨R_Ga, "chance", "(III)I"⟩
abbrev b_Fo_offer_c : ByteArray := prog_3_method_5_code
def y_Fo_offer : MethodName := ⟨R_Fo, "offer", "(III)V"⟩
abbrev b_Fo_addParent_c : ByteArray := prog_3_method_6_code
def y_Fo_addParent : MethodName := ⟨R_Fo, "addParent", "(II)I"⟩
abbrev b_Fo_areOfferedThere_c : ByteArray := prog_3_method_7_code
def y_Fo_areOfferedThere : MethodName := ⟨R_Fo, "areOfferedThere", "(I)Z"⟩
abbrev b_Fo_hasNode_c : ByteArray := prog_3_method_13_code
def y_Fo_hasNode : MethodName := ⟨R_Fo, "hasNode", "(I)Z"⟩
abbrev b_Fo_isOfferedTaken_c : ByteArray := prog_3_method_8_code
def y_Fo_isOfferedTaken : MethodName := ⟨R_Fo, "isOfferedTaken", "(I)Z"⟩
abbrev b_Fo_greatestOffered_c : ByteArray := prog_3_method_9_code
def y_Fo_greatestOffered : MethodName := ⟨R_Fo, "greatestOffered", "([II)I"⟩
abbrev b_Ma_max_c : ByteArray := prog_10_method_65_code
def y_Ma_max : MethodName := ⟨R_Ma, "max", "(II)I"⟩
abbrev b_Fo_setsOffered_c : ByteArray := prog_3_method_10_code
def y_Fo_setsOffered : MethodName := ⟨R_Fo, "setsOffered", "(I)I"⟩
abbrev b_Fo_plansWith_c : ByteArray := prog_3_method_22_code
def y_Fo_plansWith : MethodName := ⟨R_Fo, "plansWith", "(II)I"⟩
abbrev b_Ga_hasBit_c : ByteArray := prog_1_method_25_code
def y_Ga_hasBit : MethodName := ⟨R_Ga, "hasBit", "(JI)Z"⟩
abbrev b_Fo_adoptOffered_c : ByteArray := prog_3_method_12_code
def y_Fo_adoptOffered : MethodName := ⟨R_Fo, "adoptOffered", "(II)V"⟩
abbrev b_Ga_node_c : ByteArray := prog_1_method_6_code
def y_Ga_node : MethodName := ⟨R_Ga, "node", "(IIII)I"⟩
abbrev b_Fo_hasSet_c : ByteArray := prog_3_method_14_code
def y_Fo_hasSet : MethodName := ⟨R_Fo, "hasSet", "(I)Z"⟩
abbrev b_Ga_count_c : ByteArray := prog_1_method_7_code
def y_Ga_count : MethodName := ⟨R_Ga, "count", "(I)I"⟩
abbrev b_Ga_isEmpty_c : ByteArray := prog_1_method_20_code
def y_Ga_isEmpty : MethodName := ⟨R_Ga, "isEmpty", "()Z"⟩
abbrev b_Fo_nodesInTree_c : ByteArray := prog_3_method_18_code
def y_Fo_nodesInTree : MethodName := ⟨R_Fo, "nodesInTree", "()J"⟩
abbrev b_Fo_root_c : ByteArray := prog_3_method_17_code
def y_Fo_root : MethodName := ⟨R_Fo, "root", "()I"⟩
abbrev b_Lo_bitCount_c : ByteArray := prog_9_method_50_code
def y_Lo_bitCount : MethodName := ⟨R_Lo, "bitCount", "(J)I"⟩
abbrev b_Fo_plansOf_c : ByteArray := prog_3_method_21_code
def y_Fo_plansOf : MethodName := ⟨R_Fo, "plansOf", "(I)I"⟩
abbrev b_Fo_setsInTree_c : ByteArray := prog_3_method_19_code
def y_Fo_setsInTree : MethodName := ⟨R_Fo, "setsInTree", "()I"⟩
abbrev b_Po_find_c : ByteArray := prog_5_method_2_code
def y_Po_find : MethodName := ⟨R_Po, "find", "(Z)V"⟩
abbrev b_Po_placeOf_c : ByteArray := prog_5_method_3_code
def y_Po_placeOf : MethodName := ⟨R_Po, "placeOf", "(Z)I"⟩
abbrev b_Ga_firstBits_c : ByteArray := prog_1_method_26_code
def y_Ga_firstBits : MethodName := ⟨R_Ga, "firstBits", "(I)J"⟩
abbrev b_Ar_fillJ_c : ByteArray := prog_11_method_101_code
def y_Ar_fillJ : MethodName := ⟨R_Ar, "fill", "([JJ)V"⟩
abbrev b_Fo_gamesWithin_c : ByteArray := prog_3_method_28_code
def y_Fo_gamesWithin : MethodName := ⟨R_Fo, "gamesWithin", "()J"⟩
abbrev b_Fo_isGameWithin_c : ByteArray := prog_3_method_29_code
def y_Fo_isGameWithin : MethodName := ⟨R_Fo, "isGameWithin", "(I)Z"⟩
abbrev b_Po_keepPoints_c : ByteArray := prog_5_method_6_code
def y_Po_keepPoints : MethodName := ⟨R_Po, "keepPoints", "(I[J)V"⟩
abbrev b_Ta_fillFrom_c : ByteArray := prog_6_method_3_code
def y_Ta_fillFrom : MethodName := ⟨R_Ta, "fillFrom", "(I)V"⟩
abbrev b_Fo_plansFrom_c : ByteArray := prog_3_method_23_code
def y_Fo_plansFrom : MethodName := ⟨R_Fo, "plansFrom", "(II)I"⟩
abbrev b_Ar_fillI_c : ByteArray := prog_11_method_103_code
def y_Ar_fillI : MethodName := ⟨R_Ar, "fill", "([II)V"⟩
abbrev b_Ta_weighPair_c : ByteArray := prog_6_method_4_code
def y_Ta_weighPair : MethodName := ⟨R_Ta, "weighPair", "(II)V"⟩
abbrev b_Fo_worthAt_c : ByteArray := prog_3_method_15_code
def y_Fo_worthAt : MethodName := ⟨R_Fo, "worthAt", "(II)I"⟩
abbrev b_Ta_shareAmongAll_c : ByteArray := prog_6_method_5_code
def y_Ta_shareAmongAll : MethodName := ⟨R_Ta, "shareAmongAll", "(II)V"⟩
abbrev b_Fo_childAt_c : ByteArray := prog_3_method_16_code
def y_Fo_childAt : MethodName := ⟨R_Fo, "childAt", "(II)I"⟩
abbrev b_Fo_stepPlan_c : ByteArray := prog_3_method_27_code
def y_Fo_stepPlan : MethodName := ⟨R_Fo, "stepPlan", "(II[I)V"⟩
abbrev b_Fo_isPlayedFrom_c : ByteArray := prog_3_method_24_code
def y_Fo_isPlayedFrom : MethodName := ⟨R_Fo, "isPlayedFrom", "(III)Z"⟩
abbrev b_Po_findInner_c : ByteArray := prog_5_method_7_code
def y_Po_findInner : MethodName := ⟨R_Po, "findInner", "(II)I"⟩
abbrev b_Fo_planFrom_c : ByteArray := prog_3_method_26_code
def y_Fo_planFrom : MethodName := ⟨R_Fo, "planFrom", "(III)I"⟩
abbrev b_Po_findBest_c : ByteArray := prog_5_method_9_code
def y_Po_findBest : MethodName := ⟨R_Po, "findBest", "(I)V"⟩
abbrev b_Ga_otherThan_c : ByteArray := prog_1_method_24_code
def y_Ga_otherThan : MethodName := ⟨R_Ga, "otherThan", "(I)I"⟩
abbrev b_Ta_bestAgainst_c : ByteArray := prog_6_method_8_code
def y_Ta_bestAgainst : MethodName := ⟨R_Ta, "bestAgainst", "(II)I"⟩
abbrev b_Ta_value_c : ByteArray := prog_6_method_7_code
def y_Ta_value : MethodName := ⟨R_Ta, "value", "(III)I"⟩
abbrev b_Po_isPoint_c : ByteArray := prog_5_method_8_code
def y_Po_isPoint : MethodName := ⟨R_Po, "isPoint", "(II)Z"⟩
abbrev b_Po_howMany_c : ByteArray := prog_5_method_4_code
def y_Po_howMany : MethodName := ⟨R_Po, "howMany", "(Z)I"⟩
abbrev b_Ta_fillWhole_c : ByteArray := prog_6_method_2_code
def y_Ta_fillWhole : MethodName := ⟨R_Ta, "fillWhole", "()V"⟩
abbrev b_Le_playAll_c : ByteArray := prog_4_method_4_code
def y_Le_playAll : MethodName := ⟨R_Le, "playAll", "()V"⟩
abbrev b_Le_thoseThatGo_c : ByteArray := prog_4_method_5_code
def y_Le_thoseThatGo : MethodName := ⟨R_Le, "thoseThatGo", "(I)J"⟩
abbrev b_Ta_leastBetterAmong_c : ByteArray := prog_6_method_12_code
def y_Ta_leastBetterAmong : MethodName := ⟨R_Ta, "leastBetterAmong", "(IIJJ)I"⟩
abbrev b_Ta_isWorse_c : ByteArray := prog_6_method_13_code
def y_Ta_isWorse : MethodName := ⟨R_Ta, "isWorse", "(IIIJ)Z"⟩
abbrev b_Le_takeAway_c : ByteArray := prog_4_method_6_code
def y_Le_takeAway : MethodName := ⟨R_Le, "takeAway", "(IJI)V"⟩
abbrev b_Le_pairsLeft_c : ByteArray := prog_4_method_3_code
def y_Le_pairsLeft : MethodName := ⟨R_Le, "pairsLeft", "()I"⟩
abbrev b_Fo_depthOfTree_c : ByteArray := prog_3_method_20_code
def y_Fo_depthOfTree : MethodName := ⟨R_Fo, "depthOfTree", "()I"⟩
abbrev b_Ga_told_c : ByteArray := prog_1_method_8_code
def y_Ga_told : MethodName := ⟨R_Ga, "told", "(II)I"⟩
abbrev b_Ga_act_c : ByteArray := prog_1_method_9_code
def y_Ga_act : MethodName := ⟨R_Ga, "act", "(III)I"⟩
abbrev b_Ga_isPlan_c : ByteArray := prog_1_method_21_code
def y_Ga_isPlan : MethodName := ⟨R_Ga, "isPlan", "(II)Z"⟩
abbrev b_Fo_actNamed_c : ByteArray := prog_3_method_25_code
def y_Fo_actNamed : MethodName := ⟨R_Fo, "actNamed", "(III)I"⟩
abbrev b_Ga_worth_c : ByteArray := prog_1_method_10_code
def y_Ga_worth : MethodName := ⟨R_Ga, "worth", "(III)I"⟩
abbrev b_Ta_valueOfPair_c : ByteArray := prog_6_method_6_code
def y_Ta_valueOfPair : MethodName := ⟨R_Ta, "valueOfPair", "(III)I"⟩
abbrev b_Ga_answer_c : ByteArray := prog_1_method_11_code
def y_Ga_answer : MethodName := ⟨R_Ga, "answer", "(II)I"⟩
abbrev b_Ga_point_c : ByteArray := prog_1_method_12_code
def y_Ga_point : MethodName := ⟨R_Ga, "point", "(ZI)I"⟩
abbrev b_Po_pointAt_c : ByteArray := prog_5_method_5_code
def y_Po_pointAt : MethodName := ⟨R_Po, "pointAt", "(ZI)I"⟩
abbrev b_Ga_bitAt_c : ByteArray := prog_1_method_27_code
def y_Ga_bitAt : MethodName := ⟨R_Ga, "bitAt", "(JI)I"⟩
abbrev b_Ga_within_c : ByteArray := prog_1_method_13_code
def y_Ga_within : MethodName := ⟨R_Ga, "within", "(I)I"⟩
abbrev b_Ga_than_c : ByteArray := prog_1_method_14_code
def y_Ga_than : MethodName := ⟨R_Ga, "than", "(III)I"⟩
abbrev b_Ta_leastOneWith_c : ByteArray := prog_6_method_16_code
def y_Ta_leastOneWith : MethodName := ⟨R_Ta, "leastOneWith", "(II)I"⟩
abbrev b_Ta_areOne_c : ByteArray := prog_6_method_17_code
def y_Ta_areOne : MethodName := ⟨R_Ta, "areOne", "(III)Z"⟩
abbrev b_Ta_leastBetter_c : ByteArray := prog_6_method_11_code
def y_Ta_leastBetter : MethodName := ⟨R_Ta, "leastBetter", "(II)I"⟩
abbrev b_Ta_leastWeaklyBetter_c : ByteArray := prog_6_method_14_code
def y_Ta_leastWeaklyBetter : MethodName := ⟨R_Ta, "leastWeaklyBetter", "(II)I"⟩
abbrev b_Ta_isWeaklyWorse_c : ByteArray := prog_6_method_15_code
def y_Ta_isWeaklyWorse : MethodName := ⟨R_Ta, "isWeaklyWorse", "(III)Z"⟩
abbrev b_Ga_goes_c : ByteArray := prog_1_method_15_code
def y_Ga_goes : MethodName := ⟨R_Ga, "goes", "(II)I"⟩
abbrev b_Le_roundOf_c : ByteArray := prog_4_method_2_code
def y_Le_roundOf : MethodName := ⟨R_Le, "roundOf", "(II)I"⟩
abbrev b_Ga_sure_c : ByteArray := prog_1_method_16_code
def y_Ga_sure : MethodName := ⟨R_Ga, "sure", "(I)I"⟩
abbrev b_Ta_sureOf_c : ByteArray := prog_6_method_9_code
def y_Ta_sureOf : MethodName := ⟨R_Ta, "sureOf", "(I)I"⟩
abbrev b_Ta_leastOf_c : ByteArray := prog_6_method_10_code
def y_Ta_leastOf : MethodName := ⟨R_Ta, "leastOf", "(II)I"⟩
abbrev b_Ma_min_c : ByteArray := prog_10_method_69_code
def y_Ma_min : MethodName := ⟨R_Ma, "min", "(II)I"⟩
abbrev b_Ga_remembered_c : ByteArray := prog_1_method_17_code
def y_Ga_remembered : MethodName := ⟨R_Ga, "remembered", "(I)I"⟩
abbrev b_Fo_remembersAll_c : ByteArray := prog_3_method_30_code
def y_Fo_remembersAll : MethodName := ⟨R_Fo, "remembersAll", "(I)Z"⟩
abbrev b_Fo_areWaysAlike_c : ByteArray := prog_3_method_31_code
def y_Fo_areWaysAlike : MethodName := ⟨R_Fo, "areWaysAlike", "(II)Z"⟩
abbrev b_Fo_wayTo_c : ByteArray := prog_3_method_32_code
def y_Fo_wayTo : MethodName := ⟨R_Fo, "wayTo", "(II)J"⟩
abbrev b_Fo_actTo_c : ByteArray := prog_3_method_33_code
def y_Fo_actTo : MethodName := ⟨R_Fo, "actTo", "(II)I"⟩
abbrev b_Ga_taken_c : ByteArray := prog_1_method_18_code
def y_Ga_taken : MethodName := ⟨R_Ga, "taken", "(III)I"⟩
abbrev b_An_playTo_c : ByteArray := prog_2_method_7_code
def y_An_playTo : MethodName := ⟨R_An, "playTo", "(I)V"⟩
abbrev b_An_leastOfGreatest_c : ByteArray := prog_2_method_8_code
def y_An_leastOfGreatest : MethodName := ⟨R_An, "leastOfGreatest", "(I)I"⟩
abbrev b_An_addUp_c : ByteArray := prog_2_method_9_code
def y_An_addUp : MethodName := ⟨R_An, "addUp", "(II)V"⟩
abbrev b_An_timesTaken_c : ByteArray := prog_2_method_2_code
def y_An_timesTaken : MethodName := ⟨R_An, "timesTaken", "(III)I"⟩
abbrev b_Ga_bound_c : ByteArray := prog_1_method_19_code
def y_Ga_bound : MethodName := ⟨R_Ga, "bound", "(II)I"⟩
abbrev b_An_lowBehind_c : ByteArray := prog_2_method_3_code
def y_An_lowBehind : MethodName := ⟨R_An, "lowBehind", "(I)I"⟩
abbrev b_An_sumAgainst_c : ByteArray := prog_2_method_5_code
def y_An_sumAgainst : MethodName := ⟨R_An, "sumAgainst", "(II)I"⟩
abbrev b_An_highBehind_c : ByteArray := prog_2_method_4_code
def y_An_highBehind : MethodName := ⟨R_An, "highBehind", "(I)I"⟩
abbrev b_An_sumFor_c : ByteArray := prog_2_method_6_code
def y_An_sumFor : MethodName := ⟨R_An, "sumFor", "(II)I"⟩
abbrev b_Mo_init_c : ByteArray := prog_8_method_1_code
def y_Mo_init : MethodName := ⟨R_Mo, "<init>", "()V"⟩
abbrev b_Mo_clear_c : ByteArray := prog_8_method_3_code
def y_Mo_clear : MethodName := ⟨R_Mo, "clear", "()I"⟩
abbrev b_Mo_set_c : ByteArray := prog_8_method_4_code
def y_Mo_set : MethodName := ⟨R_Mo, "set", "(II)I"⟩
abbrev b_Mo_isFrom_c : ByteArray := prog_8_method_2_code
def y_Mo_isFrom : MethodName := ⟨R_Mo, "isFrom", "(III)Z"⟩
abbrev b_Mo_end_c : ByteArray := prog_8_method_6_code
def y_Mo_end : MethodName := ⟨R_Mo, "end", "(II)I"⟩
abbrev b_Mo_make_c : ByteArray := prog_8_method_5_code
def y_Mo_make : MethodName := ⟨R_Mo, "make", "(I)I"⟩
abbrev b_Mo_chance_c : ByteArray := prog_8_method_12_code
def y_Mo_chance : MethodName := ⟨R_Mo, "chance", "(III)I"⟩
abbrev b_Mo_isNode_c : ByteArray := prog_8_method_7_code
def y_Mo_isNode : MethodName := ⟨R_Mo, "isNode", "(I)Z"⟩
abbrev b_Mo_bar_c : ByteArray := prog_8_method_9_code
def y_Mo_bar : MethodName := ⟨R_Mo, "bar", "(IIIII)I"⟩
abbrev b_Mo_third_c : ByteArray := prog_8_method_8_code
def y_Mo_third : MethodName := ⟨R_Mo, "third", "(IIII)I"⟩
abbrev b_Mo_adopt_c : ByteArray := prog_8_method_10_code
def y_Mo_adopt : MethodName := ⟨R_Mo, "adopt", "(IIIIII)V"⟩
abbrev b_Mo_tooMany_c : ByteArray := prog_8_method_16_code
def y_Mo_tooMany : MethodName := ⟨R_Mo, "tooMany", "()Z"⟩
abbrev b_Mo_findTree_c : ByteArray := prog_8_method_14_code
def y_Mo_findTree : MethodName := ⟨R_Mo, "findTree", "()V"⟩
abbrev b_Mo_plansOf_c : ByteArray := prog_8_method_15_code
def y_Mo_plansOf : MethodName := ⟨R_Mo, "plansOf", "(I)I"⟩
abbrev b_Mo_undo_c : ByteArray := prog_8_method_11_code
def y_Mo_undo : MethodName := ⟨R_Mo, "undo", "(IIII)V"⟩
abbrev b_Mo_node_c : ByteArray := prog_8_method_13_code
def y_Mo_node : MethodName := ⟨R_Mo, "node", "(IIII)I"⟩
abbrev b_Mo_worth_c : ByteArray := prog_8_method_24_code
def y_Mo_worth : MethodName := ⟨R_Mo, "worth", "(III)I"⟩
abbrev b_Mo_root_c : ByteArray := prog_8_method_21_code
def y_Mo_root : MethodName := ⟨R_Mo, "root", "()I"⟩
abbrev b_Mo_workAll_c : ByteArray := prog_8_method_20_code
def y_Mo_workAll : MethodName := ⟨R_Mo, "workAll", "(I)V"⟩
abbrev b_Mo_work_c : ByteArray := prog_8_method_18_code
def y_Mo_work : MethodName := ⟨R_Mo, "work", "(III)V"⟩
abbrev b_Mo_actOf_c : ByteArray := prog_8_method_17_code
def y_Mo_actOf : MethodName := ⟨R_Mo, "actOf", "(III)I"⟩
abbrev b_Mo_mean_c : ByteArray := prog_8_method_19_code
def y_Mo_mean : MethodName := ⟨R_Mo, "mean", "(II)I"⟩
abbrev b_Mo_worthTo_c : ByteArray := prog_8_method_22_code
def y_Mo_worthTo : MethodName := ⟨R_Mo, "worthTo", "(III)I"⟩
abbrev b_Mo_act_c : ByteArray := prog_8_method_25_code
def y_Mo_act : MethodName := ⟨R_Mo, "act", "(III)I"⟩
abbrev b_Mo_answer_c : ByteArray := prog_8_method_27_code
def y_Mo_answer : MethodName := ⟨R_Mo, "answer", "(II)I"⟩
abbrev b_Mo_many_c : ByteArray := prog_8_method_23_code
def y_Mo_many : MethodName := ⟨R_Mo, "many", "(I)I"⟩
abbrev b_Mo_answerOf_c : ByteArray := prog_8_method_26_code
def y_Mo_answerOf : MethodName := ⟨R_Mo, "answerOf", "(II)I"⟩
abbrev b_Mo_point_c : ByteArray := prog_8_method_33_code
def y_Mo_point : MethodName := ⟨R_Mo, "point", "(ZI)I"⟩
abbrev b_Mo_countPoints_c : ByteArray := prog_8_method_32_code
def y_Mo_countPoints : MethodName := ⟨R_Mo, "countPoints", "(ZI)I"⟩
abbrev b_Mo_findPoints_c : ByteArray := prog_8_method_31_code
def y_Mo_findPoints : MethodName := ⟨R_Mo, "findPoints", "(Z)V"⟩
abbrev b_Mo_sift_c : ByteArray := prog_8_method_28_code
def y_Mo_sift : MethodName := ⟨R_Mo, "sift", "()V"⟩
abbrev b_Mo_isGame_c : ByteArray := prog_8_method_30_code
def y_Mo_isGame : MethodName := ⟨R_Mo, "isGame", "(I)Z"⟩
abbrev b_Mo_isBelow_c : ByteArray := prog_8_method_29_code
def y_Mo_isBelow : MethodName := ⟨R_Mo, "isBelow", "(II)Z"⟩
abbrev b_Mo_within_c : ByteArray := prog_8_method_35_code
def y_Mo_within : MethodName := ⟨R_Mo, "within", "(I)I"⟩
abbrev b_Mo_games_c : ByteArray := prog_8_method_34_code
def y_Mo_games : MethodName := ⟨R_Mo, "games", "(I)I"⟩
abbrev b_Mo_than_c : ByteArray := prog_8_method_41_code
def y_Mo_than : MethodName := ⟨R_Mo, "than", "(III)I"⟩
abbrev b_Mo_allLeft_c : ByteArray := prog_8_method_40_code
def y_Mo_allLeft : MethodName := ⟨R_Mo, "allLeft", "()V"⟩
abbrev b_Mo_isWorse_c : ByteArray := prog_8_method_37_code
def y_Mo_isWorse : MethodName := ⟨R_Mo, "isWorse", "(III)Z"⟩
abbrev b_Mo_isLeft_c : ByteArray := prog_8_method_36_code
def y_Mo_isLeft : MethodName := ⟨R_Mo, "isLeft", "(II)Z"⟩
abbrev b_Mo_isWeaker_c : ByteArray := prog_8_method_38_code
def y_Mo_isWeaker : MethodName := ⟨R_Mo, "isWeaker", "(III)Z"⟩
abbrev b_Mo_isOne_c : ByteArray := prog_8_method_39_code
def y_Mo_isOne : MethodName := ⟨R_Mo, "isOne", "(III)Z"⟩
abbrev b_Mo_goes_c : ByteArray := prog_8_method_45_code
def y_Mo_goes : MethodName := ⟨R_Mo, "goes", "(II)I"⟩
abbrev b_Mo_doRounds_c : ByteArray := prog_8_method_43_code
def y_Mo_doRounds : MethodName := ⟨R_Mo, "doRounds", "()I"⟩
abbrev b_Mo_isWorst_c : ByteArray := prog_8_method_42_code
def y_Mo_isWorst : MethodName := ⟨R_Mo, "isWorst", "(II)Z"⟩
abbrev b_Mo_leftOf_c : ByteArray := prog_8_method_44_code
def y_Mo_leftOf : MethodName := ⟨R_Mo, "leftOf", "(I)I"⟩
abbrev b_Mo_sure_c : ByteArray := prog_8_method_46_code
def y_Mo_sure : MethodName := ⟨R_Mo, "sure", "(I)I"⟩
abbrev b_Mo_remembered_c : ByteArray := prog_8_method_48_code
def y_Mo_remembered : MethodName := ⟨R_Mo, "remembered", "(I)I"⟩
abbrev b_Mo_memory_c : ByteArray := prog_8_method_47_code
def y_Mo_memory : MethodName := ⟨R_Mo, "memory", "(II)J"⟩
abbrev b_Mo_taken_c : ByteArray := prog_8_method_52_code
def y_Mo_taken : MethodName := ⟨R_Mo, "taken", "(III)I"⟩
abbrev b_Mo_answerAll_c : ByteArray := prog_8_method_51_code
def y_Mo_answerAll : MethodName := ⟨R_Mo, "answerAll", "(I)V"⟩
abbrev b_Mo_bestOf_c : ByteArray := prog_8_method_50_code
def y_Mo_bestOf : MethodName := ⟨R_Mo, "bestOf", "(I)I"⟩
abbrev b_Mo_take_c : ByteArray := prog_8_method_49_code
def y_Mo_take : MethodName := ⟨R_Mo, "take", "(II)V"⟩
abbrev b_Mo_bound_c : ByteArray := prog_8_method_53_code
def y_Mo_bound : MethodName := ⟨R_Mo, "bound", "(II)I"⟩
abbrev b_Mo_told_c : ByteArray := prog_8_method_54_code
def y_Mo_told : MethodName := ⟨R_Mo, "told", "(II)I"⟩
abbrev b_Mo_count_c : ByteArray := prog_8_method_55_code
def y_Mo_count : MethodName := ⟨R_Mo, "count", "(I)I"⟩
abbrev b_La_law_c : ByteArray := code
def y_La_law : MethodName := ⟨R_La, "law", "([I)Z"⟩
end
section
def gN : Nat := 67
def kI : Nat → Bool := fun k => match k with
  | 2 => true
  | 3 => true
  | 4 => true
  | 5 => true
  | 6 => true
  | 7 => true
  | 8 => true
  | 9 => true
  | 10 => true
  | 12 => true
  | 13 => true
  | 15 => true
  | 17 => true
  | 19 => true
  | 20 => true
  | 21 => true
  | 22 => true
  | 27 => true
  | 29 => true
  | 30 => true
  | 32 => true
  | 33 => true
  | 36 => true
  | 37 => true
  | 41 => true
  | 42 => true
  | 44 => true
  | 45 => true
  | 47 => true
  | 48 => true
  | 49 => true
  | 50 => true
  | 51 => true
  | 52 => true
  | 53 => true
  | 54 => true
  | 55 => true
  | 58 => true
  | 59 => true
  | 60 => true
  | 63 => true
  | 65 => true
  | 66 => true
  | _ => false
def kJ : Nat → Bool := fun k => match k with
  | 11 => true
  | 14 => true
  | 25 => true
  | 26 => true
  | 38 => true
  | _ => false
def kZ : Nat → Bool := fun k => match k with
  | 56 => true
  | 57 => true
  | 61 => true
  | 62 => true
  | 64 => true
  | _ => false
def kLen : Nat → Nat := fun k => match k with
  | 2 => 40
  | 3 => 40
  | 4 => 40
  | 5 => 10
  | 6 => 80
  | 7 => 120
  | 8 => 40
  | 9 => 40
  | 10 => 40
  | 11 => 40
  | 12 => 40
  | 13 => 10
  | 14 => 10
  | 15 => 3
  | 17 => 2
  | 19 => 4096
  | 20 => 4096
  | 21 => 10
  | 22 => 40
  | 25 => 64
  | 26 => 64
  | 27 => 2
  | 29 => 64
  | 30 => 64
  | 32 => 64
  | 33 => 64
  | 36 => 64
  | 37 => 64
  | 38 => 2
  | 41 => 200
  | 42 => 200
  | 44 => 64
  | 45 => 64
  | 47 => 40
  | 48 => 40
  | 49 => 80
  | 50 => 120
  | 51 => 40
  | 52 => 40
  | 53 => 40
  | 54 => 10
  | 55 => 10
  | 56 => 40
  | 57 => 10
  | 58 => 80
  | 59 => 8192
  | 60 => 10
  | 61 => 4096
  | 62 => 128
  | 63 => 128
  | 64 => 128
  | 65 => 128
  | 66 => 128
  | _ => 0
def fl_Ga (a : Nat → Nat) (f : Nat → Int32) : List Value := [.ref (a 1), .ref (a 16), .ref (a 23), .ref (a 34), .ref (a 39)]
def fl_Fo (a : Nat → Nat) (f : Nat → Int32) : List Value := [.int (f 0), .int (f 1), .int (f 2), .ref (a 2), .ref (a 3), .ref (a 4), .ref (a 5), .ref (a 6), .ref (a 7), .ref (a 8), .ref (a 9), .ref (a 10), .ref (a 11), .ref (a 12), .ref (a 13), .ref (a 14), .ref (a 15)]
def fl_Ta (a : Nat → Nat) (f : Nat → Int32) : List Value := [.ref (a 17), .ref (a 1), .ref (a 18), .ref (a 21), .ref (a 22), .int (f 5), .int (f 6)]
def fl_Po (a : Nat → Nat) (f : Nat → Int32) : List Value := [.ref (a 1), .ref (a 16), .ref (a 24), .ref (a 27), .ref (a 28), .ref (a 31)]
def fl_Le (a : Nat → Nat) (f : Nat → Int32) : List Value := [.ref (a 1), .ref (a 16), .ref (a 35), .ref (a 38), .int (f 4)]
def fl_An (a : Nat → Nat) (f : Nat → Int32) : List Value := [.ref (a 1), .ref (a 16), .ref (a 40), .ref (a 43), .int (f 4), .int (f 5)]
def fl_Mo (a : Nat → Nat) (f : Nat → Int32) : List Value := [.int (f 0), .int (f 1), .ref (a 47), .ref (a 48), .ref (a 49), .ref (a 50), .ref (a 51), .ref (a 52), .ref (a 53), .ref (a 54), .ref (a 55), .ref (a 56), .ref (a 57), .ref (a 58), .ref (a 59), .ref (a 60), .int (f 16), .int (f 17), .ref (a 61), .int (f 19), .int (f 20), .ref (a 62), .ref (a 63), .ref (a 64), .ref (a 65), .ref (a 66)]
def gObj (z : Nat → ClassId) (a : Nat → Nat) (f : Nat → Int32) : Nat → va_E := fun k => match k with
  | 0 => .inr (0, fl_Ga a f)
  | 1 => .inr (1, fl_Fo a f)
  | 16 => .inr (2, fl_Ta a f)
  | 18 => .inl (z 2, 2, .inr (.inr (.inr (.inr (fun j => if j < 2 then some (a (18 + 1 + j)) else none)))))
  | 23 => .inr (3, fl_Po a f)
  | 24 => .inl (z 3, 2, .inr (.inr (.inr (.inr (fun j => if j < 2 then some (a (24 + 1 + j)) else none)))))
  | 28 => .inl (z 2, 2, .inr (.inr (.inr (.inr (fun j => if j < 2 then some (a (28 + 1 + j)) else none)))))
  | 31 => .inl (z 2, 2, .inr (.inr (.inr (.inr (fun j => if j < 2 then some (a (31 + 1 + j)) else none)))))
  | 34 => .inr (4, fl_Le a f)
  | 35 => .inl (z 2, 2, .inr (.inr (.inr (.inr (fun j => if j < 2 then some (a (35 + 1 + j)) else none)))))
  | 39 => .inr (5, fl_An a f)
  | 40 => .inl (z 2, 2, .inr (.inr (.inr (.inr (fun j => if j < 2 then some (a (40 + 1 + j)) else none)))))
  | 43 => .inl (z 2, 2, .inr (.inr (.inr (.inr (fun j => if j < 2 then some (a (43 + 1 + j)) else none)))))
  | 46 => .inr (6, fl_Mo a f)
  | _ => .inr (0, [])
abbrev gCls : List vw_C := [(R_Ga, T_Ga, 5), (R_Fo, T_Fo, 17), (R_Ta, T_Ta, 7), (R_Po, T_Po, 6), (R_Le, T_Le, 5), (R_An, T_An, 6), (R_Mo, T_Mo, 26)]
def BIG : List Cond := lw_tbl.filter goodWord
theorem gGood : GoodIn BIG BIG := fun w h => ⟨h, good_of_word (List.mem_filter.mp h).2⟩
def gNwF : List (String × Nat × String × String × String × String) := []
def gNwM : List (String × Nat × MethodName × String) := [(R_Ga, 9, y_Fo_init, "GameRows"), (R_Fo, 106, y_Ga_hasBit, "GameRows"), (R_Le, 55, y_Ga_firstBits, "GameRows"), (R_Le, 66, y_Ga_hasBit, "GameRows"), (R_Le, 70, y_Ga_otherThan, "GameRows"), (R_Po, 50, y_Ga_firstBits, "GameRows"), (R_Po, 71, y_Ga_hasBit, "GameRows"), (R_Po, 85, y_Ga_bitAt, "GameRows"), (R_Po, 118, y_Ga_otherThan, "GameRows"), (R_Ta, 98, y_Ga_otherThan, "GameRows"), (R_Ta, 105, y_Ga_firstBits, "GameRows"), (R_Ta, 113, y_Ga_hasBit, "GameRows")]
end
section
/-! MY LAYER: one world of gN cells at addresses a k; a state is what the int cells and the long cells hold; a judgement G over pc, locals, stack, state. -/
/-- a state: ints by cell and place (array elements, or an object's int fields by slot), longs likewise -/
abbrev gS : Type := (Nat → Nat → Int32) × (Nat → Nat → Int64)
def gI (σ : gS) (k i : Nat) : Int32 := σ.1 k i
def gL (σ : gS) (k i : Nat) : Int64 := σ.2 k i
def sI (σ : gS) (k i : Nat) (v : Int32) : gS := (va_up σ.1 k (upd (σ.1 k) i v), σ.2)
def sL (σ : gS) (k i : Nat) (v : Int64) : gS := (σ.1, va_up σ.2 k (vp_updL (σ.2 k) i v))
/-- what a cell is: an int array, a long array, or what gObj says -/
def gCel (z : Nat → ClassId) (a : Nat → Nat) (f : Nat → Int32) (g : Nat → Int64) (k : Nat) : va_E :=
  if kI k = true then .inl (z 0, kLen k, .inl f) else if kJ k = true then .inl (z 1, kLen k, .inr (.inl g)) else if kZ k = true then .inl (z 4, kLen k, .inl f) else gObj z a f k
def gW (z : Nat → ClassId) (a : Nat → Nat) (σ : gS) : va_W := (List.range gN).map fun k => (a k, gCel z a (σ.1 k) (σ.2 k) k)
theorem gW_at {z : Nat → ClassId} {a : Nat → Nat} (σ : gS) {k : Nat} (hk : k < gN) : (gW z a σ)[k]? = some (a k, gCel z a (σ.1 k) (σ.2 k) k) := by
  unfold gW
  rw [List.getElem?_map, List.getElem?_range hk]
  rfl
theorem gW_len {z : Nat → ClassId} {a : Nat → Nat} (σ : gS) : (gW z a σ).length = gN := by simp [gW]
theorem gW_set {z : Nat → ClassId} {a : Nat → Nat} {σ σ' : gS} {k : Nat} (hk : k < gN) {e : va_E} (h1 : ∀ j, j ≠ k → σ'.1 j = σ.1 j) (h2 : ∀ j, j ≠ k → σ'.2 j = σ.2 j) (he : gCel z a (σ'.1 k) (σ'.2 k) k = e) : (gW z a σ).set k (a k, e) = gW z a σ' := by
  apply List.ext_getElem?
  intro j
  by_cases hj : j = k
  · subst hj
    rw [List.getElem?_set_self (by rw [gW_len]; exact hk), gW_at σ' hk, he]
  · rw [List.getElem?_set_ne (Ne.symm hj)]
    by_cases hn : j < gN
    · rw [gW_at σ hn, gW_at σ' hn, h1 j hj, h2 j hj]
    · rw [List.getElem?_eq_none (by rw [gW_len]; omega), List.getElem?_eq_none (by rw [gW_len]; omega)]
theorem gCel_I {z : Nat → ClassId} {a : Nat → Nat} {f : Nat → Int32} {g : Nat → Int64} {k : Nat} (h : kI k = true) : gCel z a f g k = .inl (z 0, kLen k, .inl f) := if_pos h
theorem gCel_J {z : Nat → ClassId} {a : Nat → Nat} {f : Nat → Int32} {g : Nat → Int64} {k : Nat} (h0 : kI k = false) (h : kJ k = true) : gCel z a f g k = .inl (z 1, kLen k, .inr (.inl g)) := by
  unfold gCel
  rw [if_neg (by rw [h0]; decide), if_pos h]
theorem gCel_Z {z : Nat → ClassId} {a : Nat → Nat} {f : Nat → Int32} {g : Nat → Int64} {k : Nat} (h0 : kI k = false) (h1 : kJ k = false) (h : kZ k = true) : gCel z a f g k = .inl (z 4, kLen k, .inl f) := by
  unfold gCel
  rw [if_neg (by rw [h0]; decide), if_neg (by rw [h1]; decide), if_pos h]
theorem gW_sI {z : Nat → ClassId} {a : Nat → Nat} {σ : gS} {k i : Nat} {v : Int32} {e : va_E} (hk : k < gN) (he : gCel z a (upd (σ.1 k) i v) (σ.2 k) k = e) : (gW z a σ).set k (a k, e) = gW z a (sI σ k i v) := by
  refine gW_set hk (fun j hj => ?_) (fun j hj => rfl) ?_
  · exact va_up_ne _ _ hj
  · rw [← he]
    show gCel z a (va_up σ.1 k (upd (σ.1 k) i v) k) (σ.2 k) k = _
    rw [va_up_self]
theorem gW_sL {z : Nat → ClassId} {a : Nat → Nat} {σ : gS} {k i : Nat} {v : Int64} {e : va_E} (hk : k < gN) (he : gCel z a (σ.1 k) (vp_updL (σ.2 k) i v) k = e) : (gW z a σ).set k (a k, e) = gW z a (sL σ k i v) := by
  refine gW_set hk (fun j hj => rfl) (fun j hj => ?_) ?_
  · exact va_up_ne _ _ hj
  · rw [← he]
    show gCel z a (σ.1 k) (va_up σ.2 k (vp_updL (σ.2 k) i v) k) k = _
    rw [va_up_self]
theorem gW_fst {z : Nat → ClassId} {a : Nat → Nat} {σ : gS} {k : Nat} {q : Nat × va_E} (h : (gW z a σ)[k]? = some q) : k < gN ∧ q.1 = a k := by
  have hk : k < gN := by
    have := (List.getElem?_eq_some_iff.mp h).1
    rwa [gW_len] at this
  rw [gW_at σ hk] at h
  cases h
  exact ⟨hk, rfl⟩
theorem gW_D {z : Nat → ClassId} {a : Nat → Nat} {A : Nat → Prop} {σ : gS} (σ' : gS) (h : va_D A (gW z a σ)) : va_D A (gW z a σ') := by
  refine ⟨fun i j x y hi hj hxy => ?_, fun k q hk => ?_⟩
  · obtain ⟨i1, i2⟩ := gW_fst hi
    obtain ⟨j1, j2⟩ := gW_fst hj
    exact h.1 i j _ _ (gW_at σ i1) (gW_at σ j1) (i2.symm.trans (hxy.trans j2))
  · obtain ⟨k1, k2⟩ := gW_fst hk
    rw [k2]
    exact h.2 k _ (gW_at σ k1)
theorem gW_A {z : Nat → ClassId} {a : Nat → Nat} {σ : gS} (σ' : gS) {sz q : Nat} (h : va_A (gW z a σ) sz q) : va_A (gW z a σ') sz q := by
  rcases h with ⟨k, e, h⟩ | h
  · obtain ⟨k1, k2⟩ := gW_fst h
    exact Or.inl ⟨k, _, by rw [show q = a k from k2]; exact gW_at σ' k1⟩
  · exact Or.inr h
/-- checks, names, loops with fuel -/
def ck {α : Type} (b : Bool) (x : Option α) : Option α := if b = true then x else none
def bnd {α β : Type} (x : α) (f : α → β) : β := f x
theorem ck_some {α : Type} {b : Bool} {x : Option α} {r : α} (h : ck b x = some r) : b = true ∧ x = some r := by
  unfold ck at h
  by_cases hb : b = true
  · rw [if_pos hb] at h; exact ⟨hb, h⟩
  · rw [if_neg hb] at h; cases h
theorem bnd_some {α β : Type} {x : α} {f : α → Option β} {r : β} (h : bnd x f = some r) : ∃ y, y = x ∧ f y = some r := ⟨x, rfl, h⟩
theorem bind_some {α β : Type} {x : Option α} {f : α → Option β} {r : β} (h : x.bind f = some r) : ∃ y, x = some y ∧ f y = some r := by
  cases x with
  | none => cases h
  | some y => exact ⟨y, rfl, h⟩
def gF : Nat := 1000
def lpF {α ρ : Type} (body : (α → Option ρ) → α → Option ρ) : Nat → α → Option ρ
  | 0, _ => none
  | n + 1, x => body (lpF body n) x
theorem lpF_ind {α ρ : Type} {body : (α → Option ρ) → α → Option ρ} {r : ρ} {P : α → Prop} (hb : ∀ k, (∀ x, k x = some r → P x) → ∀ x, body k x = some r → P x) : ∀ n x, lpF body n x = some r → P x
  | 0, _, h => by cases h
  | n + 1, x, h => hb (lpF body n) (fun y hy => lpF_ind hb n y hy) x h
/-- an index in range -/
def inb (i : Int32) (n : Nat) : Bool := decide (0 ≤ i.toInt) && decide (i.toInt < (n : Int))
theorem inb_in {i : Int32} {n : Nat} (h : inb i n = true) : vp_in i n := by
  simp only [inb, Bool.and_eq_true, decide_eq_true_eq] at h
  exact vp_in_iff.mpr h
def oaI (k : Nat) : Bool := kI k && decide (k < gN)
def oaJ (k : Nat) : Bool := (!kI k) && kJ k && decide (k < gN)
def oaZ (k : Nat) : Bool := (!kI k) && (!kJ k) && kZ k && decide (k < gN)
def okI (k : Nat) (i : Int32) : Bool := oaI k && inb i (kLen k)
def okJ (k : Nat) (i : Int32) : Bool := oaJ k && inb i (kLen k)
theorem oaI_k {k : Nat} (h : oaI k = true) : kI k = true := (Bool.and_eq_true_iff.mp h).1
theorem oaI_n {k : Nat} (h : oaI k = true) : k < gN := of_decide_eq_true (Bool.and_eq_true_iff.mp h).2
theorem oaJ_0 {k : Nat} (h : oaJ k = true) : kI k = false := by
  have := (Bool.and_eq_true_iff.mp (Bool.and_eq_true_iff.mp h).1).1
  simpa using this
theorem oaJ_k {k : Nat} (h : oaJ k = true) : kJ k = true := (Bool.and_eq_true_iff.mp (Bool.and_eq_true_iff.mp h).1).2
theorem oaJ_n {k : Nat} (h : oaJ k = true) : k < gN := of_decide_eq_true (Bool.and_eq_true_iff.mp h).2
theorem okI_k {k : Nat} {i : Int32} (h : okI k i = true) : kI k = true := oaI_k (Bool.and_eq_true_iff.mp h).1
theorem okI_n {k : Nat} {i : Int32} (h : okI k i = true) : k < gN := oaI_n (Bool.and_eq_true_iff.mp h).1
theorem okI_i {k : Nat} {i : Int32} (h : okI k i = true) : inb i (kLen k) = true := (Bool.and_eq_true_iff.mp h).2
theorem okJ_0 {k : Nat} {i : Int32} (h : okJ k i = true) : kI k = false := oaJ_0 (Bool.and_eq_true_iff.mp h).1
theorem okJ_k {k : Nat} {i : Int32} (h : okJ k i = true) : kJ k = true := oaJ_k (Bool.and_eq_true_iff.mp h).1
theorem okJ_n {k : Nat} {i : Int32} (h : okJ k i = true) : k < gN := oaJ_n (Bool.and_eq_true_iff.mp h).1
theorem okJ_i {k : Nat} {i : Int32} (h : okJ k i = true) : inb i (kLen k) = true := (Bool.and_eq_true_iff.mp h).2
def okZ (k : Nat) (i : Int32) : Bool := oaZ k && inb i (kLen k)
theorem okZ_all {k : Nat} {i : Int32} (h : okZ k i = true) : kI k = false ∧ kJ k = false ∧ kZ k = true ∧ k < gN ∧ inb i (kLen k) = true := by
  simp only [okZ, oaZ, Bool.and_eq_true, Bool.not_eq_true', decide_eq_true_eq] at h
  exact ⟨h.1.1.1.1, h.1.1.1.2, h.1.1.2, h.1.2, h.2⟩
def nz (x : Int32) : Bool := !(decide (x = 0))
theorem nz_ne {x : Int32} (h : nz x = true) : ¬ x = 0 := by simpa [nz] using h
def isB (x : Int32) : Bool := decide (x = 0) || decide (x = 1)
theorem isB_n {x : Int32} (h : isB x = true) : narrow .boolean (.int x) = .int x := by
  simp only [isB, Bool.or_eq_true, decide_eq_true_eq] at h
  rcases h with rfl | rfl <;> decide +kernel
/-- the machine's fixed parts: (program, launch, env, room), (start, method, args, below), (method, code, goal, locals), (classes, array classes, addresses, what may change) -/
abbrev gX : Type := (Program × Launch × Env × Room) × (State × MethodId × Array Value × List Frame) × (Method × Code × (State → Prop) × Nat × Nat × Nat) × (va_G × (Nat → ClassId) × (Nat → Nat) × (Nat → Prop))
abbrev gA (X : gX) : Nat → Nat := X.2.2.2.2.2.1
def gTy (z : Nat → ClassId) : List (ClassId × FieldType) := [(z 0, .int), (z 1, .long), (z 2, .array .int), (z 3, .array .long), (z 4, .boolean)]
def gNw (U : State) : Prop := (∀ q ∈ gNwF, va_Nw (.fieldLinkNest q.1 q.2.1 q.2.2.1 q.2.2.2.1 q.2.2.2.2.1 q.2.2.2.2.2) U) ∧ ∀ q ∈ gNwM, va_Nw (.methodLinkNest q.1 q.2.1 q.2.2.1 q.2.2.2) U
theorem gNw_warm {s U : State} (hW : s.WarmedH U.vm) (h : gNw s) : gNw U := ⟨fun q hq => va_Nw.warmF hW (h.1 q hq), fun q hq => va_Nw.warmM hW (h.2 q hq)⟩
theorem gNw_same {s U : State} (hv : s.vm = U.vm) (h : gNw s) : gNw U := ⟨fun q hq => va_Nw.same rfl hv (h.1 q hq), fun q hq => va_Nw.same rfl hv (h.2 q hq)⟩
/-- what is known all through a method's walk -/
def gC (X : gX) (cc : ByteArray) (own : String) (nL fr lo : Nat) : Prop :=
  X.1.1.tables.exec = Jvm.exec ∧ X.2.2.1.2.1.code = cc ∧ X.2.2.1.2.1.maxLocals = nL ∧ X.2.2.1.2.2.2.1 = nL ∧ X.2.1.1.vm.findClass own = some X.2.1.2.1.cls ∧ (∀ w ∈ BIG, w.before X.2.1.2.2.1 X.2.1.1 = true) ∧
  va_K X.2.2.2.1 gCls (gTy X.2.2.2.2.1) X.2.1.1 ∧ gNw X.2.1.1 ∧ (∀ σ, va_D X.2.2.2.2.2.2 (gW X.2.2.2.2.1 X.2.2.2.2.2.1 σ)) ∧ (∀ q, X.2.1.1.heap.size ≤ q → X.2.2.2.2.2.2 q) ∧ X.1.2.2.2.frames = fr ∧ X.1.2.2.2.locals = lo ∧ X.2.2.1.2.2.2.2.1 ≤ X.1.2.2.2.cells ∧ X.2.2.1.2.2.2.2.2 ≤ X.1.2.2.2.slots
def G (X : gX) (pc : Nat) (lv : List (Nat × Value)) (st : List Value) (σ : gS) : Prop :=
  ∀ (H : Heap) (locs : List Loc) (ls : Array Slot), va_P X.2.2.2.1 gCls (gW X.2.2.2.2.1 X.2.2.2.2.2.1 σ) H → va_S X.2.2.2.2.2.2 X.2.1.1.heap H locs → lv_has ls X.2.2.1.2.2.2.1 lv →
    W X.1.1 X.1.2.1 X.1.2.2.1 X.1.2.2.2 X.2.1.1 X.2.1.2.1 X.2.1.2.2.1 X.2.1.2.2.2 X.2.2.1.1 X.2.2.1.2.1 H locs X.2.2.1.2.2.2.2.1 X.2.2.1.2.2.2.2.2 X.2.2.1.2.2.1 (F0 X.2.1.2.1 pc ls st)
section GR
variable {X : gX} {cc : ByteArray} {own : String} {nL fr lo pc : Nat} {lv : List (Nat × Value)} {st : List Value} {σ : gS}
theorem r_sub (ks : List Nat) {lv' : List (Nat × Value)} (hl : lv_pick lv ks = lv') (k : G X pc lv' st σ) : G X pc lv st σ := fun H locs ls hP hS h => k H locs ls hP hS (lv_sub h ks hl)
theorem r_iconst (C : gC X cc own nL fr lo) {n : Int} {v : Int32} (d : decode cc pc = .ok (.iconst n, 1)) (hv : Int32.ofInt n = v) (k : G X (pc + 1) lv (.int v :: st) σ) : G X pc lv st σ := fun H locs ls hP hS h => lv_iconst C.1 C.2.1 d hv (k H locs ls hP hS h)
theorem r_bipush (C : gC X cc own nL fr lo) {n : Int} {v : Int32} (d : decode cc pc = .ok (.bipush n, 2)) (hv : (Int8.ofInt n).toInt32 = v) (k : G X (pc + 2) lv (.int v :: st) σ) : G X pc lv st σ := fun H locs ls hP hS h => lv_bipush C.1 C.2.1 d hv (k H locs ls hP hS h)
theorem r_sipush (C : gC X cc own nL fr lo) {n : Int} {v : Int32} (d : decode cc pc = .ok (.sipush n, 3)) (hv : (Int16.ofInt n).toInt32 = v) (k : G X (pc + 3) lv (.int v :: st) σ) : G X pc lv st σ := fun H locs ls hP hS h => lv_sipush C.1 C.2.1 d hv (k H locs ls hP hS h)
theorem r_lconst (C : gC X cc own nL fr lo) {n : Fin 2} {v : Int64} (d : decode cc pc = .ok (.lconst n, 1)) (hv : Int64.ofNat (n : Nat) = v) (k : G X (pc + 1) lv (.long v :: st) σ) : G X pc lv st σ := fun H locs ls hP hS h => lv_lconst C.1 C.2.1 d hv (k H locs ls hP hS h)
theorem r_ldc (C : gC X cc own nL fr lo) {index : Nat} {v : Int32} (w : Cond.constant own index v ∈ BIG) (d : decode cc pc = .ok (.ldc index, 2)) (k : G X (pc + 2) lv (.int v :: st) σ) : G X pc lv st σ := fun H locs ls hP hS h => lv_ldc C.1 C.2.1 C.2.2.2.2.1 (C.2.2.2.2.2.1 _ w) d (k H locs ls hP hS h)
theorem r_ldc2 (C : gC X cc own nL fr lo) {index : Nat} {v : Int64} (w : Cond.constantLong own index v ∈ BIG) (d : decode cc pc = .ok (.ldc2_w index, 3)) (k : G X (pc + 3) lv (.long v :: st) σ) : G X pc lv st σ := fun H locs ls hP hS h => lv_ldc2 C.1 C.2.1 C.2.2.2.2.1 (C.2.2.2.2.2.1 _ w) d (k H locs ls hP hS h)
theorem r_iload_n (C : gC X cc own nL fr lo) (q : Nat) {n : Fin 4} {i : Nat} {x : Int32} (d : decode cc pc = .ok (.iload_n n, 1)) (hi : (n : Nat) = i) (hq : lv[q]? = some (i, .int x)) (k : G X (pc + 1) lv (.int x :: st) σ) : G X pc lv st σ := fun H locs ls hP hS h => lv_iload_n C.1 C.2.1 d hi (lv_at h q hq) (k H locs ls hP hS h)
theorem r_iload (C : gC X cc own nL fr lo) (q : Nat) {i : Nat} {x : Int32} (d : decode cc pc = .ok (.iload i, 2)) (hq : lv[q]? = some (i, .int x)) (k : G X (pc + 2) lv (.int x :: st) σ) : G X pc lv st σ := fun H locs ls hP hS h => lv_iload C.1 C.2.1 d (lv_at h q hq) (k H locs ls hP hS h)
theorem r_lload_n (C : gC X cc own nL fr lo) (q : Nat) {n : Fin 4} {i : Nat} {x : Int64} (d : decode cc pc = .ok (.lload_n n, 1)) (hi : (n : Nat) = i) (hq : lv[q]? = some (i, .long x)) (k : G X (pc + 1) lv (.long x :: st) σ) : G X pc lv st σ := fun H locs ls hP hS h => lv_lload_n C.1 C.2.1 d hi (lv_at h q hq) (k H locs ls hP hS h)
theorem r_lload (C : gC X cc own nL fr lo) (q : Nat) {i : Nat} {x : Int64} (d : decode cc pc = .ok (.lload i, 2)) (hq : lv[q]? = some (i, .long x)) (k : G X (pc + 2) lv (.long x :: st) σ) : G X pc lv st σ := fun H locs ls hP hS h => lv_lload C.1 C.2.1 d (lv_at h q hq) (k H locs ls hP hS h)
theorem r_aload_n (C : gC X cc own nL fr lo) (q : Nat) {n : Fin 4} {i x : Nat} (d : decode cc pc = .ok (.aload_n n, 1)) (hi : (n : Nat) = i) (hq : lv[q]? = some (i, .ref x)) (k : G X (pc + 1) lv (.ref x :: st) σ) : G X pc lv st σ := fun H locs ls hP hS h => lv_aload_n C.1 C.2.1 d hi (lv_at h q hq) (k H locs ls hP hS h)
theorem r_aload (C : gC X cc own nL fr lo) (q : Nat) {i x : Nat} (d : decode cc pc = .ok (.aload i, 2)) (hq : lv[q]? = some (i, .ref x)) (k : G X (pc + 2) lv (.ref x :: st) σ) : G X pc lv st σ := fun H locs ls hP hS h => lv_aload C.1 C.2.1 d (lv_at h q hq) (k H locs ls hP hS h)
theorem r_istore_n (C : gC X cc own nL fr lo) {n : Fin 4} {i : Nat} {x y : Int32} {lv' : List (Nat × Value)} (d : decode cc pc = .ok (.istore_n n, 1)) (hi : (n : Nat) = i) (hn : i < nL) (e : y = x) (hl : (i, Value.int y) :: lv.filter (fun q => !(q.1 == i) && !(q.1 + 1 == i && q.2.category == 2)) = lv') (k : G X (pc + 1) lv' st σ) : G X pc lv (.int x :: st) σ := by
  subst e
  exact fun H locs ls hP hS h => lv_istore_n C.1 C.2.1 d hi h (by rw [C.2.2.2.1]; exact hn) hl (fun ls' h' => k H locs ls' hP hS h')
theorem r_istore (C : gC X cc own nL fr lo) {i : Nat} {x y : Int32} {lv' : List (Nat × Value)} (d : decode cc pc = .ok (.istore i, 2)) (hn : i < nL) (e : y = x) (hl : (i, Value.int y) :: lv.filter (fun q => !(q.1 == i) && !(q.1 + 1 == i && q.2.category == 2)) = lv') (k : G X (pc + 2) lv' st σ) : G X pc lv (.int x :: st) σ := by
  subst e
  exact fun H locs ls hP hS h => lv_istore C.1 C.2.1 d h (by rw [C.2.2.2.1]; exact hn) hl (fun ls' h' => k H locs ls' hP hS h')
theorem r_lstore_n (C : gC X cc own nL fr lo) {n : Fin 4} {i : Nat} {x y : Int64} {lv' : List (Nat × Value)} (d : decode cc pc = .ok (.lstore_n n, 1)) (hi : (n : Nat) = i) (hn : i + 1 < nL) (e : y = x) (hl : (i, Value.long y) :: lv.filter (fun q => !(q.1 == i) && (!(q.1 == i + 1) && !(q.1 + 1 == i && q.2.category == 2))) = lv') (k : G X (pc + 1) lv' st σ) : G X pc lv (.long x :: st) σ := by
  subst e
  exact fun H locs ls hP hS h => lv_lstore_n C.1 C.2.1 d hi h (by rw [C.2.2.2.1]; exact hn) hl (fun ls' h' => k H locs ls' hP hS h')
theorem r_lstore (C : gC X cc own nL fr lo) {i : Nat} {x y : Int64} {lv' : List (Nat × Value)} (d : decode cc pc = .ok (.lstore i, 2)) (hn : i + 1 < nL) (e : y = x) (hl : (i, Value.long y) :: lv.filter (fun q => !(q.1 == i) && (!(q.1 == i + 1) && !(q.1 + 1 == i && q.2.category == 2))) = lv') (k : G X (pc + 2) lv' st σ) : G X pc lv (.long x :: st) σ := by
  subst e
  exact fun H locs ls hP hS h => lv_lstore C.1 C.2.1 d h (by rw [C.2.2.2.1]; exact hn) hl (fun ls' h' => k H locs ls' hP hS h')
theorem r_astore_n (C : gC X cc own nL fr lo) {n : Fin 4} {i x : Nat} {lv' : List (Nat × Value)} (d : decode cc pc = .ok (.astore_n n, 1)) (hi : (n : Nat) = i) (hn : i < nL) (hl : (i, Value.ref x) :: lv.filter (fun q => !(q.1 == i) && !(q.1 + 1 == i && q.2.category == 2)) = lv') (k : G X (pc + 1) lv' st σ) : G X pc lv (.ref x :: st) σ :=
  fun H locs ls hP hS h => lv_astore_n C.1 C.2.1 d hi h (by rw [C.2.2.2.1]; exact hn) hl (fun ls' h' => k H locs ls' hP hS h')
theorem r_astore (C : gC X cc own nL fr lo) {i x : Nat} {lv' : List (Nat × Value)} (d : decode cc pc = .ok (.astore i, 2)) (hn : i < nL) (hl : (i, Value.ref x) :: lv.filter (fun q => !(q.1 == i) && !(q.1 + 1 == i && q.2.category == 2)) = lv') (k : G X (pc + 2) lv' st σ) : G X pc lv (.ref x :: st) σ :=
  fun H locs ls hP hS h => lv_astore C.1 C.2.1 d h (by rw [C.2.2.2.1]; exact hn) hl (fun ls' h' => k H locs ls' hP hS h')
theorem r_iinc (C : gC X cc own nL fr lo) (q : Nat) {i : Nat} {n : Int} {x y : Int32} {lv' : List (Nat × Value)} (d : decode cc pc = .ok (.iinc i n, 3)) (hq : lv[q]? = some (i, .int x)) (e : y = x + Int32.ofInt n) (hn : i < nL) (hl : (i, Value.int y) :: lv.filter (fun q => !(q.1 == i) && !(q.1 + 1 == i && q.2.category == 2)) = lv') (k : G X (pc + 3) lv' st σ) : G X pc lv st σ :=
  fun H locs ls hP hS h => lv_iinc C.1 C.2.1 d h hq e.symm (by rw [C.2.2.2.1]; exact hn) hl (fun ls' h' => k H locs ls' hP hS h')
theorem r_iadd (C : gC X cc own nL fr lo) {x y : Int32} (d : decode cc pc = .ok (.iadd, 1)) (k : G X (pc + 1) lv (.int (x + y) :: st) σ) : G X pc lv (.int y :: .int x :: st) σ := fun H locs ls hP hS h => lv_iadd C.1 C.2.1 d (k H locs ls hP hS h)
theorem r_isub (C : gC X cc own nL fr lo) {x y : Int32} (d : decode cc pc = .ok (.isub, 1)) (k : G X (pc + 1) lv (.int (x - y) :: st) σ) : G X pc lv (.int y :: .int x :: st) σ := fun H locs ls hP hS h => lv_isub C.1 C.2.1 d (k H locs ls hP hS h)
theorem r_imul (C : gC X cc own nL fr lo) {x y : Int32} (d : decode cc pc = .ok (.imul, 1)) (k : G X (pc + 1) lv (.int (x * y) :: st) σ) : G X pc lv (.int y :: .int x :: st) σ := fun H locs ls hP hS h => lv_imul C.1 C.2.1 d (k H locs ls hP hS h)
theorem r_iand (C : gC X cc own nL fr lo) {x y : Int32} (d : decode cc pc = .ok (.iand, 1)) (k : G X (pc + 1) lv (.int (x &&& y) :: st) σ) : G X pc lv (.int y :: .int x :: st) σ := fun H locs ls hP hS h => lv_iand C.1 C.2.1 d (k H locs ls hP hS h)
theorem r_ior (C : gC X cc own nL fr lo) {x y : Int32} (d : decode cc pc = .ok (.ior, 1)) (k : G X (pc + 1) lv (.int (x ||| y) :: st) σ) : G X pc lv (.int y :: .int x :: st) σ := fun H locs ls hP hS h => lv_ior C.1 C.2.1 d (k H locs ls hP hS h)
theorem r_ixor (C : gC X cc own nL fr lo) {x y : Int32} (d : decode cc pc = .ok (.ixor, 1)) (k : G X (pc + 1) lv (.int (x ^^^ y) :: st) σ) : G X pc lv (.int y :: .int x :: st) σ := fun H locs ls hP hS h => lv_ixor C.1 C.2.1 d (k H locs ls hP hS h)
theorem r_idiv (C : gC X cc own nL fr lo) {x y : Int32} (d : decode cc pc = .ok (.idiv, 1)) (hy : nz y = true) (k : G X (pc + 1) lv (.int (x / y) :: st) σ) : G X pc lv (.int y :: .int x :: st) σ := fun H locs ls hP hS h => lv_idiv C.1 C.2.1 d (nz_ne hy) (k H locs ls hP hS h)
theorem r_irem (C : gC X cc own nL fr lo) {x y : Int32} (d : decode cc pc = .ok (.irem, 1)) (hy : nz y = true) (k : G X (pc + 1) lv (.int (x - x / y * y) :: st) σ) : G X pc lv (.int y :: .int x :: st) σ := fun H locs ls hP hS h => lv_irem C.1 C.2.1 d (nz_ne hy) (k H locs ls hP hS h)
theorem r_ineg (C : gC X cc own nL fr lo) {x : Int32} (d : decode cc pc = .ok (.ineg, 1)) (k : G X (pc + 1) lv (.int (-x) :: st) σ) : G X pc lv (.int x :: st) σ := fun H locs ls hP hS h => lv_ineg C.1 C.2.1 d (k H locs ls hP hS h)
theorem r_ishl (C : gC X cc own nL fr lo) {x y : Int32} (d : decode cc pc = .ok (.ishl, 1)) (k : G X (pc + 1) lv (.int (x <<< (y &&& 31)) :: st) σ) : G X pc lv (.int y :: .int x :: st) σ := fun H locs ls hP hS h => lv_ishl C.1 C.2.1 d (k H locs ls hP hS h)
theorem r_ishr (C : gC X cc own nL fr lo) {x y : Int32} (d : decode cc pc = .ok (.ishr, 1)) (k : G X (pc + 1) lv (.int (x >>> (y &&& 31)) :: st) σ) : G X pc lv (.int y :: .int x :: st) σ := fun H locs ls hP hS h => lv_ishr C.1 C.2.1 d (k H locs ls hP hS h)
theorem r_ladd (C : gC X cc own nL fr lo) {x y : Int64} (d : decode cc pc = .ok (.ladd, 1)) (k : G X (pc + 1) lv (.long (x + y) :: st) σ) : G X pc lv (.long y :: .long x :: st) σ := fun H locs ls hP hS h => lv_ladd C.1 C.2.1 d (k H locs ls hP hS h)
theorem r_lsub (C : gC X cc own nL fr lo) {x y : Int64} (d : decode cc pc = .ok (.lsub, 1)) (k : G X (pc + 1) lv (.long (x - y) :: st) σ) : G X pc lv (.long y :: .long x :: st) σ := fun H locs ls hP hS h => lv_lsub C.1 C.2.1 d (k H locs ls hP hS h)
theorem r_lmul (C : gC X cc own nL fr lo) {x y : Int64} (d : decode cc pc = .ok (.lmul, 1)) (k : G X (pc + 1) lv (.long (x * y) :: st) σ) : G X pc lv (.long y :: .long x :: st) σ := fun H locs ls hP hS h => lv_lmul C.1 C.2.1 d (k H locs ls hP hS h)
theorem r_land (C : gC X cc own nL fr lo) {x y : Int64} (d : decode cc pc = .ok (.land, 1)) (k : G X (pc + 1) lv (.long (x &&& y) :: st) σ) : G X pc lv (.long y :: .long x :: st) σ := fun H locs ls hP hS h => lv_land C.1 C.2.1 d (k H locs ls hP hS h)
theorem r_lor (C : gC X cc own nL fr lo) {x y : Int64} (d : decode cc pc = .ok (.lor, 1)) (k : G X (pc + 1) lv (.long (x ||| y) :: st) σ) : G X pc lv (.long y :: .long x :: st) σ := fun H locs ls hP hS h => lv_lor C.1 C.2.1 d (k H locs ls hP hS h)
theorem r_lxor (C : gC X cc own nL fr lo) {x y : Int64} (d : decode cc pc = .ok (.lxor, 1)) (k : G X (pc + 1) lv (.long (x ^^^ y) :: st) σ) : G X pc lv (.long y :: .long x :: st) σ := fun H locs ls hP hS h => lv_lxor C.1 C.2.1 d (k H locs ls hP hS h)
theorem r_lshl (C : gC X cc own nL fr lo) {x : Int64} {y : Int32} (d : decode cc pc = .ok (.lshl, 1)) (k : G X (pc + 1) lv (.long (x <<< (y.toInt64 &&& 63)) :: st) σ) : G X pc lv (.int y :: .long x :: st) σ := fun H locs ls hP hS h => lv_lshl C.1 C.2.1 d rfl (k H locs ls hP hS h)
theorem r_lushr (C : gC X cc own nL fr lo) {x : Int64} {y : Int32} (d : decode cc pc = .ok (.lushr, 1)) (k : G X (pc + 1) lv (.long ((x.toUInt64 >>> (y.toInt64.toUInt64 &&& Int64.toUInt64 63)).toInt64) :: st) σ) : G X pc lv (.int y :: .long x :: st) σ := fun H locs ls hP hS h => lv_lushr C.1 C.2.1 d rfl (k H locs ls hP hS h)
theorem r_i2l (C : gC X cc own nL fr lo) {x : Int32} (d : decode cc pc = .ok (.i2l, 1)) (k : G X (pc + 1) lv (.long x.toInt64 :: st) σ) : G X pc lv (.int x :: st) σ := fun H locs ls hP hS h => lv_i2l C.1 C.2.1 d rfl (k H locs ls hP hS h)
theorem r_l2i (C : gC X cc own nL fr lo) {x : Int64} (d : decode cc pc = .ok (.l2i, 1)) (k : G X (pc + 1) lv (.int x.toInt32 :: st) σ) : G X pc lv (.long x :: st) σ := fun H locs ls hP hS h => lv_l2i C.1 C.2.1 d rfl (k H locs ls hP hS h)
theorem r_lcmp (C : gC X cc own nL fr lo) {x y : Int64} (d : decode cc pc = .ok (.lcmp, 1)) (k : G X (pc + 1) lv (.int (lg_cmp x y) :: st) σ) : G X pc lv (.long y :: .long x :: st) σ := fun H locs ls hP hS h => W.lcmp C.1 C.2.1 d (k H locs ls hP hS h)
theorem r_dup (C : gC X cc own nL fr lo) {va : Value} (d : decode cc pc = .ok (.dup, 1)) (h1 : va.category = 1) (k : G X (pc + 1) lv (va :: va :: st) σ) : G X pc lv (va :: st) σ := fun H locs ls hP hS h => lv_dup C.1 C.2.1 d h1 (k H locs ls hP hS h)
theorem r_pop (C : gC X cc own nL fr lo) {va : Value} (d : decode cc pc = .ok (.pop, 1)) (h1 : va.category = 1) (k : G X (pc + 1) lv st σ) : G X pc lv (va :: st) σ := fun H locs ls hP hS h => lv_pop C.1 C.2.1 d h1 (k H locs ls hP hS h)
theorem r_dup_x1 (C : gC X cc own nL fr lo) {va vb : Value} (d : decode cc pc = .ok (.dup_x1, 1)) (h1 : va.category = 1) (h2 : vb.category = 1) (k : G X (pc + 1) lv (va :: vb :: va :: st) σ) : G X pc lv (va :: vb :: st) σ := fun H locs ls hP hS h => lv_dup_x1 C.1 C.2.1 d h1 h2 (k H locs ls hP hS h)
theorem r_dup2_11 (C : gC X cc own nL fr lo) {va vb : Value} (d : decode cc pc = .ok (.dup2, 1)) (h1 : va.category = 1) (h2 : vb.category = 1) (k : G X (pc + 1) lv (va :: vb :: va :: vb :: st) σ) : G X pc lv (va :: vb :: st) σ := fun H locs ls hP hS h => lv_dup2_11 C.1 C.2.1 d h1 h2 (k H locs ls hP hS h)
theorem r_dup2_2 (C : gC X cc own nL fr lo) {va : Value} (d : decode cc pc = .ok (.dup2, 1)) (h1 : va.category = 2) (k : G X (pc + 1) lv (va :: va :: st) σ) : G X pc lv (va :: st) σ := fun H locs ls hP hS h => lv_dup2_2 C.1 C.2.1 d h1 (k H locs ls hP hS h)
theorem r_goto (C : gC X cc own nL fr lo) {off : Int} {tgt : Nat} (d : decode cc pc = .ok (.goto off, 3)) (ht : (pc : Int) + off = (tgt : Int)) (k : G X tgt lv st σ) : G X pc lv st σ := fun H locs ls hP hS h => lv_goto C.1 C.2.1 d ht (k H locs ls hP hS h)
theorem r_if_eq (C : gC X cc own nL fr lo) {x : Int32} {off : Int} {tgt : Nat} (d : decode cc pc = .ok (.ifCond .eq off, 3)) (ht : (pc : Int) + off = (tgt : Int)) (kt : x = 0 → G X tgt lv st σ) (kf : ¬ x = 0 → G X (pc + 3) lv st σ) : G X pc lv (.int x :: st) σ := fun H locs ls hP hS h => lv_if_eq C.1 C.2.1 d ht (fun q => kt q H locs ls hP hS h) (fun q => kf q H locs ls hP hS h)
theorem r_icmp_eq (C : gC X cc own nL fr lo) {x y : Int32} {off : Int} {tgt : Nat} (d : decode cc pc = .ok (.if_icmp .eq off, 3)) (ht : (pc : Int) + off = (tgt : Int)) (kt : x = y → G X tgt lv st σ) (kf : ¬ x = y → G X (pc + 3) lv st σ) : G X pc lv (.int y :: .int x :: st) σ := fun H locs ls hP hS h => lv_icmp_eq C.1 C.2.1 d ht (fun q => kt q H locs ls hP hS h) (fun q => kf q H locs ls hP hS h)
theorem r_if_ne (C : gC X cc own nL fr lo) {x : Int32} {off : Int} {tgt : Nat} (d : decode cc pc = .ok (.ifCond .ne off, 3)) (ht : (pc : Int) + off = (tgt : Int)) (kt : ¬ x = 0 → G X tgt lv st σ) (kf : x = 0 → G X (pc + 3) lv st σ) : G X pc lv (.int x :: st) σ := fun H locs ls hP hS h => lv_if_ne C.1 C.2.1 d ht (fun q => kt q H locs ls hP hS h) (fun q => kf q H locs ls hP hS h)
theorem r_icmp_ne (C : gC X cc own nL fr lo) {x y : Int32} {off : Int} {tgt : Nat} (d : decode cc pc = .ok (.if_icmp .ne off, 3)) (ht : (pc : Int) + off = (tgt : Int)) (kt : ¬ x = y → G X tgt lv st σ) (kf : x = y → G X (pc + 3) lv st σ) : G X pc lv (.int y :: .int x :: st) σ := fun H locs ls hP hS h => lv_icmp_ne C.1 C.2.1 d ht (fun q => kt q H locs ls hP hS h) (fun q => kf q H locs ls hP hS h)
theorem r_if_lt (C : gC X cc own nL fr lo) {x : Int32} {off : Int} {tgt : Nat} (d : decode cc pc = .ok (.ifCond .lt off, 3)) (ht : (pc : Int) + off = (tgt : Int)) (kt : x < 0 → G X tgt lv st σ) (kf : ¬ x < 0 → G X (pc + 3) lv st σ) : G X pc lv (.int x :: st) σ := fun H locs ls hP hS h => lv_if_lt C.1 C.2.1 d ht (fun q => kt q H locs ls hP hS h) (fun q => kf q H locs ls hP hS h)
theorem r_icmp_lt (C : gC X cc own nL fr lo) {x y : Int32} {off : Int} {tgt : Nat} (d : decode cc pc = .ok (.if_icmp .lt off, 3)) (ht : (pc : Int) + off = (tgt : Int)) (kt : x < y → G X tgt lv st σ) (kf : ¬ x < y → G X (pc + 3) lv st σ) : G X pc lv (.int y :: .int x :: st) σ := fun H locs ls hP hS h => lv_icmp_lt C.1 C.2.1 d ht (fun q => kt q H locs ls hP hS h) (fun q => kf q H locs ls hP hS h)
theorem r_if_ge (C : gC X cc own nL fr lo) {x : Int32} {off : Int} {tgt : Nat} (d : decode cc pc = .ok (.ifCond .ge off, 3)) (ht : (pc : Int) + off = (tgt : Int)) (kt : 0 ≤ x → G X tgt lv st σ) (kf : ¬ 0 ≤ x → G X (pc + 3) lv st σ) : G X pc lv (.int x :: st) σ := fun H locs ls hP hS h => lv_if_ge C.1 C.2.1 d ht (fun q => kt q H locs ls hP hS h) (fun q => kf q H locs ls hP hS h)
theorem r_icmp_ge (C : gC X cc own nL fr lo) {x y : Int32} {off : Int} {tgt : Nat} (d : decode cc pc = .ok (.if_icmp .ge off, 3)) (ht : (pc : Int) + off = (tgt : Int)) (kt : y ≤ x → G X tgt lv st σ) (kf : ¬ y ≤ x → G X (pc + 3) lv st σ) : G X pc lv (.int y :: .int x :: st) σ := fun H locs ls hP hS h => lv_icmp_ge C.1 C.2.1 d ht (fun q => kt q H locs ls hP hS h) (fun q => kf q H locs ls hP hS h)
theorem r_if_gt (C : gC X cc own nL fr lo) {x : Int32} {off : Int} {tgt : Nat} (d : decode cc pc = .ok (.ifCond .gt off, 3)) (ht : (pc : Int) + off = (tgt : Int)) (kt : 0 < x → G X tgt lv st σ) (kf : ¬ 0 < x → G X (pc + 3) lv st σ) : G X pc lv (.int x :: st) σ := fun H locs ls hP hS h => lv_if_gt C.1 C.2.1 d ht (fun q => kt q H locs ls hP hS h) (fun q => kf q H locs ls hP hS h)
theorem r_icmp_gt (C : gC X cc own nL fr lo) {x y : Int32} {off : Int} {tgt : Nat} (d : decode cc pc = .ok (.if_icmp .gt off, 3)) (ht : (pc : Int) + off = (tgt : Int)) (kt : y < x → G X tgt lv st σ) (kf : ¬ y < x → G X (pc + 3) lv st σ) : G X pc lv (.int y :: .int x :: st) σ := fun H locs ls hP hS h => lv_icmp_gt C.1 C.2.1 d ht (fun q => kt q H locs ls hP hS h) (fun q => kf q H locs ls hP hS h)
theorem r_if_le (C : gC X cc own nL fr lo) {x : Int32} {off : Int} {tgt : Nat} (d : decode cc pc = .ok (.ifCond .le off, 3)) (ht : (pc : Int) + off = (tgt : Int)) (kt : x ≤ 0 → G X tgt lv st σ) (kf : ¬ x ≤ 0 → G X (pc + 3) lv st σ) : G X pc lv (.int x :: st) σ := fun H locs ls hP hS h => lv_if_le C.1 C.2.1 d ht (fun q => kt q H locs ls hP hS h) (fun q => kf q H locs ls hP hS h)
theorem r_icmp_le (C : gC X cc own nL fr lo) {x y : Int32} {off : Int} {tgt : Nat} (d : decode cc pc = .ok (.if_icmp .le off, 3)) (ht : (pc : Int) + off = (tgt : Int)) (kt : x ≤ y → G X tgt lv st σ) (kf : ¬ x ≤ y → G X (pc + 3) lv st σ) : G X pc lv (.int y :: .int x :: st) σ := fun H locs ls hP hS h => lv_icmp_le C.1 C.2.1 d ht (fun q => kt q H locs ls hP hS h) (fun q => kf q H locs ls hP hS h)
theorem r_tabIn (C : gC X cc own nL fr lo) {dflt a b : Int} {offs : Array Int} {len : Nat} {x v : Int32} {off : Int} {tgt : Nat} (d : decode cc pc = .ok (.tableswitch dflt a b offs, len)) (hx : x = v) (h1 : ¬ v.toInt < a) (h2 : ¬ b < v.toInt) (ho : offs[(v.toInt - a).toNat]? = some off) (ht : (pc : Int) + off = (tgt : Int)) (k : G X tgt lv st σ) : G X pc lv (.int x :: st) σ := by
  subst hx
  exact fun H locs ls hP hS h => lv_tableIn C.1 C.2.1 d h1 h2 ho ht (k H locs ls hP hS h)
theorem r_tabLo (C : gC X cc own nL fr lo) {dflt a b : Int} {offs : Array Int} {len : Nat} {x v : Int32} {tgt : Nat} (d : decode cc pc = .ok (.tableswitch dflt a b offs, len)) (hx : x < v) (hv : v.toInt = a) (ht : (pc : Int) + dflt = (tgt : Int)) (k : G X tgt lv st σ) : G X pc lv (.int x :: st) σ :=
  fun H locs ls hP hS h => lv_tableOut C.1 C.2.1 d (Or.inl (by rw [← hv]; exact Int32.lt_iff_toInt_lt.mp hx)) ht (k H locs ls hP hS h)
theorem r_tabHi (C : gC X cc own nL fr lo) {dflt a b : Int} {offs : Array Int} {len : Nat} {x v : Int32} {tgt : Nat} (d : decode cc pc = .ok (.tableswitch dflt a b offs, len)) (hx : v < x) (hv : v.toInt = b) (ht : (pc : Int) + dflt = (tgt : Int)) (k : G X tgt lv st σ) : G X pc lv (.int x :: st) σ :=
  fun H locs ls hP hS h => lv_tableOut C.1 C.2.1 d (Or.inr (by rw [← hv]; exact Int32.lt_iff_toInt_lt.mp hx)) ht (k H locs ls hP hS h)
/-- a field of the object at place k -/
theorem r_get (C : gC X cc own nL fr lo) {O : String} {T : u_T} {N ci index k : Nat} {v : Value} {F : (Nat → Nat) → (Nat → Int32) → List Value} (j : Nat) (hk : k < gN) (hcel : ∀ z a f g, gCel z a f g k = .inr (ci, F a f)) (hcl : gCls[ci]? = some (O, T, N)) (hin : ∀ w ∈ u_ws O T N, w ∈ BIG) (hj : j < N) (hlink : Cond.fieldLink own index (T j).1 (T j).2.1 (T j).2.2.1 ∈ BIG) (hv : (F (gA X) (σ.1 k))[j]? = some v) (d : decode cc pc = .ok (.getfield index, 3)) (kk : G X (pc + 3) lv (v :: st) σ) : G X pc lv (.ref (gA X k) :: st) σ :=
  fun H locs ls hP hS h => va_get C.1 C.2.1 C.2.2.2.2.2.1 hin C.2.2.2.2.1 C.2.2.2.2.2.2.1 hP k (by rw [gW_at σ hk, hcel]) hcl j hj (C.2.2.2.2.2.1 _ hlink) (fun _ q => q) hv d (kk H locs ls hP hS h)
theorem r_getN (C : gC X cc own nL fr lo) {O host : String} {T : u_T} {N ci index k : Nat} {v : Value} {F : (Nat → Nat) → (Nat → Int32) → List Value} (j : Nat) (hk : k < gN) (hcel : ∀ z a f g, gCel z a f g k = .inr (ci, F a f)) (hcl : gCls[ci]? = some (O, T, N)) (hin : ∀ w ∈ u_ws O T N, w ∈ BIG) (hj : j < N) (hlink : (own, index, (T j).1, (T j).2.1, (T j).2.2.1, host) ∈ gNwF) (hv : (F (gA X) (σ.1 k))[j]? = some v) (d : decode cc pc = .ok (.getfield index, 3)) (kk : G X (pc + 3) lv (v :: st) σ) : G X pc lv (.ref (gA X k) :: st) σ :=
  fun H locs ls hP hS h => va_getN C.1 C.2.1 C.2.2.2.2.2.1 hin C.2.2.2.2.1 C.2.2.2.2.2.2.1 hP k (by rw [gW_at σ hk, hcel]) hcl j hj (va_Nw.use rfl (C.2.2.2.2.2.2.2.1.1 _ hlink)) (fun _ q => q) hv d (kk H locs ls hP hS h)
theorem r_put (C : gC X cc own nL fr lo) {O : String} {T : u_T} {N ci index k : Nat} {v : Int32} {σ' : gS} {F : (Nat → Nat) → (Nat → Int32) → List Value} (ty0 : Nat → FieldType) (hty : ∀ k, k < N → parseFieldDescriptor (T k).2.2.1 = some (ty0 k)) (hnm : ∀ a, a < N → ∀ b, b < N → a ≠ b → (T a).2.1 ≠ (T b).2.1) (j : Nat) (hk : k < gN) (hcel : ∀ z a f g, gCel z a f g k = .inr (ci, F a f)) (hcl : gCls[ci]? = some (O, T, N)) (hin : ∀ w ∈ u_ws O T N, w ∈ BIG) (hj : j < N) (hlink : Cond.fieldLink own index (T j).1 (T j).2.1 (T j).2.2.1 ∈ BIG) (hfin : (T j).2.2.2 = false) (hd : parseFieldDescriptor (T j).2.2.1 = some .int) (hF : ∀ a f, j < (F a f).length ∧ F a (upd f j v) = (F a f).set j (.int v)) (e : σ' = sI σ k j v) (d : decode cc pc = .ok (.putfield index, 3)) (kk : G X (pc + 3) lv st σ') : G X pc lv (.int v :: .ref (gA X k) :: st) σ := by
  subst e
  intro H locs ls hP hS h
  refine va_put C.1 C.2.1 C.2.2.2.2.2.1 hin ty0 hty hnm C.2.2.2.2.1 C.2.2.2.2.2.2.1 hP (C.2.2.2.2.2.2.2.2.1 σ) hS k (by rw [gW_at σ hk, hcel]) hcl j hj (C.2.2.2.2.2.1 _ hlink) (fun _ q => q) hfin hd rfl rfl (hF _ _).1 d (fun H1 locs1 hP1 _ hS1 => ?_)
  rw [gW_sI hk (by rw [hcel, (hF _ _).2])] at hP1
  exact kk H1 locs1 ls hP1 hS1 h
/-- elements of an int array, a long array, at place k -/
theorem r_iald (C : gC X cc own nL fr lo) {k : Nat} {i : Int32} (ho : okI k i = true) (d : decode cc pc = .ok (.iaload, 1)) (kk : G X (pc + 1) lv (.int (gI σ k i.toNatClampNeg) :: st) σ) : G X pc lv (.int i :: .ref (gA X k) :: st) σ :=
  fun H locs ls hP hS h => va_iald (f := σ.1 k) C.1 C.2.1 C.2.2.2.2.2.2.1 hP k 0 (by rw [gW_at σ (okI_n ho), gCel_I (okI_k ho)]) rfl (inb_in (okI_i ho)) d (kk H locs ls hP hS h)
theorem r_lald (C : gC X cc own nL fr lo) {k : Nat} {i : Int32} (ho : okJ k i = true) (d : decode cc pc = .ok (.laload, 1)) (kk : G X (pc + 1) lv (.long (gL σ k i.toNatClampNeg) :: st) σ) : G X pc lv (.int i :: .ref (gA X k) :: st) σ :=
  fun H locs ls hP hS h => va_lald (f := σ.2 k) C.1 C.2.1 C.2.2.2.2.2.2.1 hP k 1 (by rw [gW_at σ (okJ_n ho), gCel_J (okJ_0 ho) (okJ_k ho)]) rfl (inb_in (okJ_i ho)) d (kk H locs ls hP hS h)
theorem r_iast (C : gC X cc own nL fr lo) {k : Nat} {i x : Int32} {σ' : gS} (ho : okI k i = true) (e : σ' = sI σ k i.toNatClampNeg x) (d : decode cc pc = .ok (.iastore, 1)) (kk : G X (pc + 1) lv st σ') : G X pc lv (.int x :: .int i :: .ref (gA X k) :: st) σ := by
  subst e
  intro H locs ls hP hS h
  refine va_iast C.1 C.2.1 C.2.2.2.2.2.2.1 hP (C.2.2.2.2.2.2.2.2.1 σ) hS k 0 (by rw [gW_at σ (okI_n ho), gCel_I (okI_k ho)]) rfl (inb_in (okI_i ho)) d (fun H1 locs1 hP1 _ hS1 => ?_)
  rw [gW_sI (okI_n ho) (gCel_I (okI_k ho))] at hP1
  exact kk H1 locs1 ls hP1 hS1 h
theorem r_last (C : gC X cc own nL fr lo) {k : Nat} {i : Int32} {x : Int64} {σ' : gS} (ho : okJ k i = true) (e : σ' = sL σ k i.toNatClampNeg x) (d : decode cc pc = .ok (.lastore, 1)) (kk : G X (pc + 1) lv st σ') : G X pc lv (.long x :: .int i :: .ref (gA X k) :: st) σ := by
  subst e
  intro H locs ls hP hS h
  refine va_last C.1 C.2.1 C.2.2.2.2.2.2.1 hP (C.2.2.2.2.2.2.2.2.1 σ) hS k 1 (by rw [gW_at σ (okJ_n ho), gCel_J (okJ_0 ho) (okJ_k ho)]) rfl (inb_in (okJ_i ho)) d (fun H1 locs1 hP1 _ hS1 => ?_)
  rw [gW_sL (okJ_n ho) (gCel_J (okJ_0 ho) (okJ_k ho))] at hP1
  exact kk H1 locs1 ls hP1 hS1 h
theorem r_zald (C : gC X cc own nL fr lo) {k : Nat} {i : Int32} (ho : okZ k i = true) (d : decode cc pc = .ok (.baload, 1)) (kk : G X (pc + 1) lv (.int (gI σ k i.toNatClampNeg) :: st) σ) : G X pc lv (.int i :: .ref (gA X k) :: st) σ := by
  obtain ⟨h0, h1, h2, h3, h4⟩ := okZ_all ho
  exact fun H locs ls hP hS h => va_zald (f := σ.1 k) C.1 C.2.1 C.2.2.2.2.2.2.1 hP k 4 (by rw [gW_at σ h3, gCel_Z h0 h1 h2]) rfl (inb_in h4) d (kk H locs ls hP hS h)
theorem r_zast (C : gC X cc own nL fr lo) {k : Nat} {i x : Int32} {σ' : gS} (ho : okZ k i = true) (hb : isB x = true) (e : σ' = sI σ k i.toNatClampNeg x) (d : decode cc pc = .ok (.bastore, 1)) (kk : G X (pc + 1) lv st σ') : G X pc lv (.int x :: .int i :: .ref (gA X k) :: st) σ := by
  subst e
  obtain ⟨h0, h1, h2, h3, h4⟩ := okZ_all ho
  intro H locs ls hP hS h
  refine va_zast C.1 C.2.1 C.2.2.2.2.2.2.1 hP (C.2.2.2.2.2.2.2.2.1 σ) hS k 4 (by rw [gW_at σ h3, gCel_Z h0 h1 h2]) rfl (inb_in h4) d (fun H1 locs1 hP1 _ hS1 => ?_)
  have hx : vp_nar .boolean x = x := by
    unfold vp_nar
    rw [isB_n hb]
  rw [hx, gW_sI h3 (gCel_Z h0 h1 h2)] at hP1
  exact kk H1 locs1 ls hP1 hS1 h
/-- a row of the outer array at place k: rows lie at k + 1 + i; t: place of its type among gTy -/
theorem r_aald (C : gC X cc own nL fr lo) {k n t : Nat} {i : Int32} {ty : FieldType} (hn : k < gN) (hcel : ∀ z a f g, gCel z a f g k = .inl (z t, n, .inr (.inr (.inr (.inr (fun j => if j < n then some (a (k + 1 + j)) else none)))))) (ht : ∀ z : Nat → ClassId, (gTy z)[t]? = some (z t, .array ty)) {k' : Nat} (hi : inb i n = true) (hk' : k + 1 + i.toNatClampNeg = k') (d : decode cc pc = .ok (.aaload, 1)) (kk : G X (pc + 1) lv (.ref (gA X k') :: st) σ) : G X pc lv (.int i :: .ref (gA X k) :: st) σ := by
  subst hk'
  intro H locs ls hP hS h
  have hlt : i.toNatClampNeg < n := Nat.not_le.mp fun q => inb_in hi (Or.inr q)
  have hc : H[gA X k]? = some (vp_cell (X.2.2.2.2.1 t) (n, .inr (.inr (.inr (.inr (fun j => if j < n then some (gA X (k + 1 + j)) else none)))))) := hP k (gA X k, .inl (X.2.2.2.2.1 t, n, .inr (.inr (.inr (.inr (fun j => if j < n then some (gA X (k + 1 + j)) else none)))))) (by rw [gW_at σ hn, hcel])
  have hv : va_rf (if i.toNatClampNeg < n then some (gA X (k + 1 + i.toNatClampNeg)) else none) = .ref (gA X (k + 1 + i.toNatClampNeg)) := by rw [if_pos hlt]; rfl
  refine W.aald (v := .ref (gA X (k + 1 + i.toNatClampNeg))) (ty := .array ty) C.1 C.2.1 hc ((C.2.2.2.2.2.2.1.2 t _ (ht _)).1 n (fun j => va_rf (if j < n then some (gA X (k + 1 + j)) else none))) rfl (fun q => by cases q) (by show ¬ (i < 0 ∨ (arrV _ _ _).slots.size ≤ _); rw [arrV_size]; exact inb_in hi) (by show (arrV _ _ _).slots[_]? = _; rw [arrV_read _ _ hlt, hv]) rfl rfl d ?_
  exact kk H locs ls hP hS h
theorem r_alenI (C : gC X cc own nL fr lo) {k : Nat} {v : Int32} (ho : oaI k = true) (hv : Int32.ofNat (kLen k) = v) (d : decode cc pc = .ok (.arraylength, 1)) (kk : G X (pc + 1) lv (.int v :: st) σ) : G X pc lv (.ref (gA X k) :: st) σ :=
  fun H locs ls hP hS h => va_alen C.1 C.2.1 C.2.2.2.2.2.2.1 hP k 0 (by rw [gW_at σ (oaI_n ho), gCel_I (oaI_k ho)]) (ty := .int) rfl hv d (kk H locs ls hP hS h)
theorem r_alenJ (C : gC X cc own nL fr lo) {k : Nat} {v : Int32} (ho : oaJ k = true) (hv : Int32.ofNat (kLen k) = v) (d : decode cc pc = .ok (.arraylength, 1)) (kk : G X (pc + 1) lv (.int v :: st) σ) : G X pc lv (.ref (gA X k) :: st) σ :=
  fun H locs ls hP hS h => va_alen C.1 C.2.1 C.2.2.2.2.2.2.1 hP k 1 (by rw [gW_at σ (oaJ_n ho), gCel_J (oaJ_0 ho) (oaJ_k ho)]) (ty := .long) rfl hv d (kk H locs ls hP hS h)
/-- contracts: the method, on a world of state σ, answers rv, and the world is then of state σ' -/
def gPre (D : va_G) (z : Nat → ClassId) (a : Nat → Nat) (σ : gS) (sz : Nat) (U : State) : Prop := U.heap.size = sz ∧ va_P D gCls (gW z a σ) U.heap ∧ va_K D gCls (gTy z) U ∧ va_D (fun _ => True) (gW z a σ) ∧ gNw U
def gPost (rv : Option Value) (D : va_G) (z : Nat → ClassId) (a : Nat → Nat) (σ' : gS) (A : Nat → Prop) : Array Value → State → Outcome → State → Prop := fun _ s0 oc t => (oc = .returned rv ∧ va_P D gCls (gW z a σ') t.heap) ∧ va_F A s0 t
def gMet (l : Launch) (y : MethodName) (bc : ByteArray) (nl : Nat) (rt : Option FieldType) (fr lo : Nat) (av : (Nat → Nat) → List Value) (σ : gS) (rv : Option Value) (σ' : gS) : Prop :=
  ∀ (D : va_G) (z : Nat → ClassId) (a : Nat → Nat) (sz : Nat), Met l y (.code y bc nl rt :: BIG) { frames := fr, cells := 0, slots := 0, locals := lo } (va_Pc (av a) (gPre D z a σ sz)) (gPost rv D z a σ' (va_A (gW z a σ) sz)) 0 0 (va_A (gW z a σ) sz)
theorem gPre_blind {av : List Value} {D : va_G} {z : Nat → ClassId} {a : Nat → Nat} {σ : gS} {sz : Nat} : FrameBlind (va_Pc av (gPre D z a σ sz)) := by
  intro a U g mk q
  obtain ⟨q0, q1, qP, qK, qD, qN⟩ := q
  exact ⟨q0, q1, qP, va_K.moved (u := U) (U := U.calling g mk a) (Vm.Alike.refl U.vm) qK, qD, gNw_same rfl qN⟩
theorem gMet_i {l : Launch} {y : MethodName} {bc : ByteArray} {nl : Nat} {fr lo : Nat} {av : (Nat → Nat) → List Value} {σ σ' : gS} {r : Int32} (hy : plainFor y = true) (hlen : ∀ a, (lg_sl (av a)).length ≤ nl)
    (body : ∀ X : gX, X.1.2.1 = l → gC X bc y.cls nl fr lo → (∀ pc lv, decode bc pc = .ok (.ireturn, 1) → G X pc lv [.int r] σ') → G X 0 (lv_args 0 (av (gA X))) [] σ) : gMet l y bc nl (some .int) fr lo av σ (some (.int r)) σ' := by
  intro D z a sz
  refine va_MetF (cc := bc) (maxL := nl) (ret := some .int) hy rfl ?_
  intro p e s m args below meth c s₁ B hml hv
  obtain ⟨rfl, hsz, hP, hK, hD0, hN⟩ := hv
  subst hsz
  have hts := atoms_spec (ws := .code y bc nl (some .int) :: BIG) B.pre
  have hown : s.vm.findClass y.cls = some m.cls := findClass_of_methodNamed B.named
  have hlocks := B.notSynchronized
  have hD := hD0.self (sz := s.heap.size)
  have hl := lv_entry (av a) (n := nl) (hlen a)
  rw [lg_entry_eq]
  have hC : gC ((p, l, e, { frames := fr, cells := 0, slots := 0, locals := lo }), (s, m, (av a).toArray, below), (meth, c, MQ below (gPost (some (.int r)) D z a σ' (va_A (gW z a σ) s.heap.size)) (av a).toArray s 0 0 (va_A (gW z a σ) s.heap.size), nl, 0, 0), (D, z, a, va_A (gW z a σ) s.heap.size)) bc y.cls nl fr lo :=
    ⟨B.exec, B.bytes, hml, rfl, hown, fun w hw => hts w (List.mem_cons_of_mem _ hw), hK, hN, fun τ => gW_D τ hD, fun q hq => Or.inr hq, rfl, rfl, Nat.le_refl _, Nat.le_refl _⟩
  exact body _ rfl hC (fun pc lv d H locs ls hP1 hS1 _ => W.iret (v := r) B.exec B.bytes B.returns (fun t ht _ => ⟨⟨rfl, by rw [ht]; exact hP1⟩, hS1.F ht⟩) hS1.2.2 d) s.heap [] _ hP va_S.rf hl
theorem gMet_z {l : Launch} {y : MethodName} {bc : ByteArray} {nl : Nat} {fr lo : Nat} {av : (Nat → Nat) → List Value} {σ σ' : gS} {r : Int32} (hy : plainFor y = true) (hlen : ∀ a, (lg_sl (av a)).length ≤ nl)
    (body : ∀ X : gX, X.1.2.1 = l → gC X bc y.cls nl fr lo → (∀ pc lv, isB r = true → decode bc pc = .ok (.ireturn, 1) → G X pc lv [.int r] σ') → G X 0 (lv_args 0 (av (gA X))) [] σ) : gMet l y bc nl (some .boolean) fr lo av σ (some (.int r)) σ' := by
  intro D z a sz
  refine va_MetF (cc := bc) (maxL := nl) (ret := some .boolean) hy rfl ?_
  intro p e s m args below meth c s₁ B hml hv
  obtain ⟨rfl, hsz, hP, hK, hD0, hN⟩ := hv
  subst hsz
  have hts := atoms_spec (ws := .code y bc nl (some .boolean) :: BIG) B.pre
  have hown : s.vm.findClass y.cls = some m.cls := findClass_of_methodNamed B.named
  have hlocks := B.notSynchronized
  have hD := hD0.self (sz := s.heap.size)
  have hl := lv_entry (av a) (n := nl) (hlen a)
  rw [lg_entry_eq]
  have hC : gC ((p, l, e, { frames := fr, cells := 0, slots := 0, locals := lo }), (s, m, (av a).toArray, below), (meth, c, MQ below (gPost (some (.int r)) D z a σ' (va_A (gW z a σ) s.heap.size)) (av a).toArray s 0 0 (va_A (gW z a σ) s.heap.size), nl, 0, 0), (D, z, a, va_A (gW z a σ) s.heap.size)) bc y.cls nl fr lo :=
    ⟨B.exec, B.bytes, hml, rfl, hown, fun w hw => hts w (List.mem_cons_of_mem _ hw), hK, hN, fun τ => gW_D τ hD, fun q hq => Or.inr hq, rfl, rfl, Nat.le_refl _, Nat.le_refl _⟩
  exact body _ rfl hC (fun pc lv hB d H locs ls hP1 hS1 _ => W.zret (v := r) (ty := .boolean) B.exec B.bytes B.returns (isB_n hB) (fun t ht _ => ⟨⟨rfl, by rw [ht]; exact hP1⟩, hS1.F ht⟩) hS1.2.2 d) s.heap [] _ hP va_S.rf hl
theorem gMet_l {l : Launch} {y : MethodName} {bc : ByteArray} {nl : Nat} {fr lo : Nat} {av : (Nat → Nat) → List Value} {σ σ' : gS} {r : Int64} (hy : plainFor y = true) (hlen : ∀ a, (lg_sl (av a)).length ≤ nl)
    (body : ∀ X : gX, X.1.2.1 = l → gC X bc y.cls nl fr lo → (∀ pc lv, decode bc pc = .ok (.lreturn, 1) → G X pc lv [.long r] σ') → G X 0 (lv_args 0 (av (gA X))) [] σ) : gMet l y bc nl (some .long) fr lo av σ (some (.long r)) σ' := by
  intro D z a sz
  refine va_MetF (cc := bc) (maxL := nl) (ret := some .long) hy rfl ?_
  intro p e s m args below meth c s₁ B hml hv
  obtain ⟨rfl, hsz, hP, hK, hD0, hN⟩ := hv
  subst hsz
  have hts := atoms_spec (ws := .code y bc nl (some .long) :: BIG) B.pre
  have hown : s.vm.findClass y.cls = some m.cls := findClass_of_methodNamed B.named
  have hlocks := B.notSynchronized
  have hD := hD0.self (sz := s.heap.size)
  have hl := lv_entry (av a) (n := nl) (hlen a)
  rw [lg_entry_eq]
  have hC : gC ((p, l, e, { frames := fr, cells := 0, slots := 0, locals := lo }), (s, m, (av a).toArray, below), (meth, c, MQ below (gPost (some (.long r)) D z a σ' (va_A (gW z a σ) s.heap.size)) (av a).toArray s 0 0 (va_A (gW z a σ) s.heap.size), nl, 0, 0), (D, z, a, va_A (gW z a σ) s.heap.size)) bc y.cls nl fr lo :=
    ⟨B.exec, B.bytes, hml, rfl, hown, fun w hw => hts w (List.mem_cons_of_mem _ hw), hK, hN, fun τ => gW_D τ hD, fun q hq => Or.inr hq, rfl, rfl, Nat.le_refl _, Nat.le_refl _⟩
  exact body _ rfl hC (fun pc lv d H locs ls hP1 hS1 _ => W.lret (v := r) B.exec B.bytes B.returns (fun t ht _ => ⟨⟨rfl, by rw [ht]; exact hP1⟩, hS1.F ht⟩) hS1.2.2 d) s.heap [] _ hP va_S.rf hl
theorem gMet_v {l : Launch} {y : MethodName} {bc : ByteArray} {nl : Nat} {fr lo : Nat} {av : (Nat → Nat) → List Value} {σ σ' : gS} (hy : plainFor y = true) (hlen : ∀ a, (lg_sl (av a)).length ≤ nl)
    (body : ∀ X : gX, X.1.2.1 = l → gC X bc y.cls nl fr lo → (∀ pc lv, decode bc pc = .ok (.return_, 1) → G X pc lv [] σ') → G X 0 (lv_args 0 (av (gA X))) [] σ) : gMet l y bc nl (none) fr lo av σ (none) σ' := by
  intro D z a sz
  refine va_MetF (cc := bc) (maxL := nl) (ret := none) hy rfl ?_
  intro p e s m args below meth c s₁ B hml hv
  obtain ⟨rfl, hsz, hP, hK, hD0, hN⟩ := hv
  subst hsz
  have hts := atoms_spec (ws := .code y bc nl (none) :: BIG) B.pre
  have hown : s.vm.findClass y.cls = some m.cls := findClass_of_methodNamed B.named
  have hlocks := B.notSynchronized
  have hD := hD0.self (sz := s.heap.size)
  have hl := lv_entry (av a) (n := nl) (hlen a)
  rw [lg_entry_eq]
  have hC : gC ((p, l, e, { frames := fr, cells := 0, slots := 0, locals := lo }), (s, m, (av a).toArray, below), (meth, c, MQ below (gPost (none) D z a σ' (va_A (gW z a σ) s.heap.size)) (av a).toArray s 0 0 (va_A (gW z a σ) s.heap.size), nl, 0, 0), (D, z, a, va_A (gW z a σ) s.heap.size)) bc y.cls nl fr lo :=
    ⟨B.exec, B.bytes, hml, rfl, hown, fun w hw => hts w (List.mem_cons_of_mem _ hw), hK, hN, fun τ => gW_D τ hD, fun q hq => Or.inr hq, rfl, rfl, Nat.le_refl _, Nat.le_refl _⟩
  exact body _ rfl hC (fun pc lv d H locs ls hP1 hS1 _ => W.vret B.exec B.bytes B.returns (fun t ht _ => ⟨⟨rfl, by rw [ht]; exact hP1⟩, hS1.F ht⟩) hS1.2.2 d) s.heap [] _ hP va_S.rf hl
/-- what a call asks of the callee, once for all callers -/
def gCalV (y : MethodName) (bc : ByteArray) (nl : Nat) (rt : Option FieldType) (n : Nat) : Prop := Cond.instanceMethod y ∈ BIG ∧ Cond.selects y.cls y y ∈ BIG ∧ Cond.initialized y.cls ∈ BIG ∧ Cond.code y bc nl rt ∈ BIG ∧ y.cls ≠ "java/lang/invoke/MethodHandle" ∧ y.cls ≠ "java/lang/invoke/VarHandle" ∧ (parseMethodDescriptor y.desc).map (fun d => d.parameters.length) = some n
def gCalS (y : MethodName) (bc : ByteArray) (nl : Nat) (rt : Option FieldType) (n : Nat) : Prop := Cond.static y ∈ BIG ∧ Cond.initialized y.cls ∈ BIG ∧ Cond.code y bc nl rt ∈ BIG ∧ y.cls ≠ "java/lang/invoke/MethodHandle" ∧ y.cls ≠ "java/lang/invoke/VarHandle" ∧ (parseMethodDescriptor y.desc).map (fun d => d.parameters.length) = some n
theorem gGoodC {w : Cond} (h : w ∈ BIG) : GoodIn BIG (w :: BIG) := fun v hv => by
  rcases List.mem_cons.mp hv with rfl | hv
  · exact gGood v h
  · exact gGood v hv
theorem r_callK {σ' : gS} {rv : Option Value} {rest st0 : List Value} {aa : Array Value} (C : gC X cc own nL fr lo)
    (hr : ∀ (H : Heap) (locs : List Loc) (ls : Array Slot), va_P X.2.2.2.1 gCls (gW X.2.2.2.2.1 X.2.2.2.2.2.1 σ) H → va_S X.2.2.2.2.2.2 X.2.1.1.heap H locs → lv_has ls X.2.2.1.2.2.2.1 lv →
      va_Run X.1.1 X.1.2.1 X.1.2.2.1 X.1.2.2.2 X.2.1.1 X.2.1.2.1 X.2.1.2.2.1 X.2.1.2.2.2 X.2.2.1.1 X.2.2.1.2.1 H locs X.2.2.1.2.2.2.2.1 X.2.2.1.2.2.2.2.2 0 0 (F0 X.2.1.2.1 pc ls st0) rest (gPost rv X.2.2.2.1 X.2.2.2.2.1 X.2.2.2.2.2.1 σ' (va_A (gW X.2.2.2.2.1 X.2.2.2.2.2.1 σ) H.size) aa) (va_A (gW X.2.2.2.2.1 X.2.2.2.2.2.1 σ) H.size))
    (kk : G X (pc + 3) lv (rv.toList ++ rest) σ') : G X pc lv st0 σ := by
  intro H locs ls hP hS h T hT Xs
  obtain ⟨v, st₀, t, T', L, h0, X', hL, e1, e2, ⟨⟨hv, hp⟩, hz, hk⟩, st⟩ := hr H locs ls hP hS h T hT Xs
  cases hv
  rw [h0] at hz hk
  have hF : ∀ q, va_A (gW X.2.2.2.2.1 X.2.2.2.2.2.1 σ) H.size q → X.2.2.2.2.2.2 q := by
    intro q hq
    rcases hq with ⟨k, e, hq⟩ | hq
    · exact (C.2.2.2.2.2.2.2.2.1 σ).2 k (q, e) hq
    · exact C.2.2.2.2.2.2.2.2.2.1 q (Nat.le_trans hS.1 hq)
  obtain ⟨t2, a1, b1⟩ := kk T'.heap (locs ++ L) ls (by rw [e1]; exact hp) ⟨Nat.le_trans hS.1 (by rw [e1]; exact hz), fun q g1 g2 => by rw [e1, hk q (Nat.lt_of_lt_of_le g1 hS.1) (fun w => g2 (hF q w))]; exact hS.2.1 q g1 g2, fun q hq => by
      rcases List.mem_append.mp hq with g | g
      · exact hS.2.2 q g
      · exact hF _ (hL q g)⟩ h T' rfl X'
  exact ⟨t2, st t2 a1, b1⟩
theorem gPre_at (C : gC X cc own nL fr lo) {H : Heap} {av : List Value} (hP : va_P X.2.2.2.1 gCls (gW X.2.2.2.2.1 X.2.2.2.2.2.1 σ) H) : ∀ U : State, U.heap = H → X.2.1.1.WarmedH U.vm → va_Pc av (gPre X.2.2.2.1 X.2.2.2.2.1 X.2.2.2.2.2.1 σ H.size) av.toArray U :=
  fun U hU hW => ⟨rfl, by rw [hU], by rw [hU]; exact hP, va_K.moved hW.alike C.2.2.2.2.2.2.1, (C.2.2.2.2.2.2.2.2.1 σ).weaken (fun _ _ _ _ => trivial), gNw_warm hW C.2.2.2.2.2.2.2.1⟩
theorem r_callV (C : gC X cc own nL fr lo) {y : MethodName} {bc : ByteArray} {nl n index fr' lo' k ci N : Nat} {T : u_T} {rt : Option FieldType} {av : (Nat → Nat) → List Value} {σ' : gS} {rv : Option Value} {As rest : List Value} {F : (Nat → Nat) → (Nat → Int32) → List Value} (hM : gMet X.1.2.1 y bc nl rt fr' lo' av σ rv σ') (hy : gCalV y bc nl rt n) (hl : Cond.methodLink own index y ∈ BIG) (hk : k < gN) (hcel : ∀ z a f g, gCel z a f g k = .inr (ci, F a f)) (hcl : gCls[ci]? = some (y.cls, T, N)) (hav : av (gA X) = .ref (gA X k) :: As) (hn : As.length = n) {st0 : List Value} (hst : st0 = As.reverse ++ .ref (gA X k) :: rest) (hrest : (rest.map fun v => v.category).sum ≤ 8) (hfr : fr' + 1 ≤ fr ∧ 8 + (nl + 11) + lo' ≤ lo) (d : decode cc pc = .ok (.invokevirtual index, 3)) {st1 : List Value} (hst1 : rv.toList ++ rest = st1) (kk : G X (pc + 3) lv st1 σ') : G X pc lv st0 σ := by
  subst hst1
  refine r_callK (aa := (av (gA X)).toArray) C (fun H locs ls hP hS h => ?_) kk
  obtain ⟨y1, y2, y3, y4, y5, y6, y7⟩ := hy
  have hb := fun w (hw : w ∈ BIG) => C.2.2.2.2.2.1 w hw
  have cw : CallW X.1.2.2.2 X.2.1.1 X.2.1.2.2.1 own y.cls index y bc nl rt (.code y bc nl rt :: BIG) { frames := fr', cells := 0, slots := 0, locals := lo' } 0 0 n :=
    ⟨callB_of n hb (gGoodC y4) rfl rfl rfl (hb _ y3) (hb _ hl) ⟨y5, y6, y7⟩ (by rw [C.2.2.2.2.2.2.2.2.2.2.1, C.2.2.2.2.2.2.2.2.2.2.2.1]; exact hfr), hb _ y1, hb _ y2⟩
  have hM1 := hM X.2.2.2.1 X.2.2.2.2.1 X.2.2.2.2.2.1 H.size
  rw [hav] at hM1 ⊢
  exact va_runV (As := As) (rest := rest) ⟨C.1, C.2.1, C.2.2.1, C.2.2.2.2.1, hb⟩ hM1 cw ⟨gPre_blind, va_recv C.2.2.2.2.2.2.1 hP hcl (by rw [gW_at σ hk, hcel]), gPre_at C hP⟩ rfl hn (by rw [h.1, C.2.2.2.1]) hst (lv_room hrest) d C.2.2.2.2.2.2.2.2.2.2.2.2
theorem r_callVN (C : gC X cc own nL fr lo) {y : MethodName} {host : String} {bc : ByteArray} {nl n index fr' lo' k ci N : Nat} {T : u_T} {rt : Option FieldType} {av : (Nat → Nat) → List Value} {σ' : gS} {rv : Option Value} {As rest : List Value} {F : (Nat → Nat) → (Nat → Int32) → List Value} (hM : gMet X.1.2.1 y bc nl rt fr' lo' av σ rv σ') (hy : gCalV y bc nl rt n) (hl : (own, index, y, host) ∈ gNwM) (hk : k < gN) (hcel : ∀ z a f g, gCel z a f g k = .inr (ci, F a f)) (hcl : gCls[ci]? = some (y.cls, T, N)) (hav : av (gA X) = .ref (gA X k) :: As) (hn : As.length = n) {st0 : List Value} (hst : st0 = As.reverse ++ .ref (gA X k) :: rest) (hrest : (rest.map fun v => v.category).sum ≤ 8) (hfr : fr' + 1 ≤ fr ∧ 8 + (nl + 11) + lo' ≤ lo) (d : decode cc pc = .ok (.invokevirtual index, 3)) {st1 : List Value} (hst1 : rv.toList ++ rest = st1) (kk : G X (pc + 3) lv st1 σ') : G X pc lv st0 σ := by
  subst hst1
  refine r_callK (aa := (av (gA X)).toArray) C (fun H locs ls hP hS h => ?_) kk
  obtain ⟨y1, y2, y3, y4, y5, y6, y7⟩ := hy
  have hb := fun w (hw : w ∈ BIG) => C.2.2.2.2.2.1 w hw
  have cw := va_cnB (R := X.1.2.2.2) (s := X.2.1.1) (args := X.2.1.2.2.1) (own := own) (host := host) (index := index) (rm := { frames := fr', cells := 0, slots := 0, locals := lo' }) (mc := 0) (ms := 0) n hb (gGoodC y4) rfl rfl rfl (C.2.2.2.2.2.2.2.1.2 _ hl) (hb _ y3) ⟨y5, y6, y7⟩ (by rw [C.2.2.2.2.2.2.2.2.2.2.1, C.2.2.2.2.2.2.2.2.2.2.2.1]; exact hfr)
  have hM1 := hM X.2.2.2.1 X.2.2.2.2.1 X.2.2.2.2.2.1 H.size
  rw [hav] at hM1 ⊢
  exact va_runVN (C := y.cls) (As := As) (rest := rest) ⟨C.1, C.2.1, C.2.2.1, C.2.2.2.2.1, hb⟩ hM1 ⟨cw, hb _ y1, hb _ y2⟩ ⟨gPre_blind, va_recv C.2.2.2.2.2.2.1 hP hcl (by rw [gW_at σ hk, hcel]), gPre_at C hP⟩ rfl hn (by rw [h.1, C.2.2.2.1]) hst (lv_room hrest) d C.2.2.2.2.2.2.2.2.2.2.2.2
theorem r_callS (C : gC X cc own nL fr lo) {y : MethodName} {bc : ByteArray} {nl n index fr' lo' : Nat} {rt : Option FieldType} {av : (Nat → Nat) → List Value} {σ' : gS} {rv : Option Value} {As rest : List Value} (hM : gMet X.1.2.1 y bc nl rt fr' lo' av σ rv σ') (hy : gCalS y bc nl rt n) (hl : Cond.methodLink own index y ∈ BIG) (hav : av (gA X) = As) (hn : As.length = n) {st0 : List Value} (hst : st0 = As.reverse ++ rest) (hrest : (rest.map fun v => v.category).sum ≤ 8) (hfr : fr' + 1 ≤ fr ∧ 8 + (nl + 11) + lo' ≤ lo) (d : decode cc pc = .ok (.invokestatic index, 3)) {st1 : List Value} (hst1 : rv.toList ++ rest = st1) (kk : G X (pc + 3) lv st1 σ') : G X pc lv st0 σ := by
  subst hst1
  refine r_callK (aa := (av (gA X)).toArray) C (fun H locs ls hP hS h => ?_) kk
  obtain ⟨y1, y3, y4, y5, y6, y7⟩ := hy
  have hb := fun w (hw : w ∈ BIG) => C.2.2.2.2.2.1 w hw
  have cw : CallB X.1.2.2.2 X.2.1.1 X.2.1.2.2.1 own index y bc nl rt (.code y bc nl rt :: BIG) { frames := fr', cells := 0, slots := 0, locals := lo' } 0 0 n ∧ (Cond.static y).before X.2.1.2.2.1 X.2.1.1 = true :=
    ⟨callB_of n hb (gGoodC y4) rfl rfl rfl (hb _ y3) (hb _ hl) ⟨y5, y6, y7⟩ (by rw [C.2.2.2.2.2.2.2.2.2.2.1, C.2.2.2.2.2.2.2.2.2.2.2.1]; exact hfr), hb _ y1⟩
  have hM1 := hM X.2.2.2.1 X.2.2.2.2.1 X.2.2.2.2.2.1 H.size
  rw [hav] at hM1 ⊢
  exact va_runS (As := As) (rest := rest) ⟨C.1, C.2.1, C.2.2.1, C.2.2.2.2.1, hb⟩ hM1 cw ⟨gPre_blind, gPre_at C hP⟩ rfl hn (by rw [h.1, C.2.2.2.1]) hst (lv_room hrest) d C.2.2.2.2.2.2.2.2.2.2.2.2
theorem r_callSN (C : gC X cc own nL fr lo) {y : MethodName} {host : String} {bc : ByteArray} {nl n index fr' lo' : Nat} {rt : Option FieldType} {av : (Nat → Nat) → List Value} {σ' : gS} {rv : Option Value} {As rest : List Value} (hM : gMet X.1.2.1 y bc nl rt fr' lo' av σ rv σ') (hy : gCalS y bc nl rt n) (hl : (own, index, y, host) ∈ gNwM) (hav : av (gA X) = As) (hn : As.length = n) {st0 : List Value} (hst : st0 = As.reverse ++ rest) (hrest : (rest.map fun v => v.category).sum ≤ 8) (hfr : fr' + 1 ≤ fr ∧ 8 + (nl + 11) + lo' ≤ lo) (d : decode cc pc = .ok (.invokestatic index, 3)) {st1 : List Value} (hst1 : rv.toList ++ rest = st1) (kk : G X (pc + 3) lv st1 σ') : G X pc lv st0 σ := by
  subst hst1
  refine r_callK (aa := (av (gA X)).toArray) C (fun H locs ls hP hS h => ?_) kk
  obtain ⟨y1, y3, y4, y5, y6, y7⟩ := hy
  have hb := fun w (hw : w ∈ BIG) => C.2.2.2.2.2.1 w hw
  have cw := va_cnB (R := X.1.2.2.2) (s := X.2.1.1) (args := X.2.1.2.2.1) (own := own) (host := host) (index := index) (rm := { frames := fr', cells := 0, slots := 0, locals := lo' }) (mc := 0) (ms := 0) n hb (gGoodC y4) rfl rfl rfl (C.2.2.2.2.2.2.2.1.2 _ hl) (hb _ y3) ⟨y5, y6, y7⟩ (by rw [C.2.2.2.2.2.2.2.2.2.2.1, C.2.2.2.2.2.2.2.2.2.2.2.1]; exact hfr)
  have hM1 := hM X.2.2.2.1 X.2.2.2.2.1 X.2.2.2.2.2.1 H.size
  rw [hav] at hM1 ⊢
  exact va_runSN (As := As) (rest := rest) ⟨C.1, C.2.1, C.2.2.1, C.2.2.2.2.1, hb⟩ hM1 ⟨cw, hb _ y1, trivial⟩ ⟨gPre_blind, gPre_at C hP⟩ rfl hn (by rw [h.1, C.2.2.2.1]) hst (lv_room hrest) d C.2.2.2.2.2.2.2.2.2.2.2.2
end GR
end
