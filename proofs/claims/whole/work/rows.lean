section
-- ===== PART A: goes FIRST, ahead of the names: the tables' words, and 'selects' of the private methods out of them =====
/-- a private method of a class that the tables say can be made, by its rows of tables_1 -/
def lw_okq (q : MethodName × Nat) : Prop := (q.1.cls ≠ "java/lang/invoke/MethodHandle" ∧ q.1.cls ≠ "java/lang/invoke/VarHandle") ∧ Cond.instantiable q.1.cls q.2 ∈ tables_1 ∧ Cond.privateMethod q.1 ∈ tables_1 ∧ Cond.instanceMethod q.1 ∈ tables_1
theorem lw_p0 : lw_okq (⟨"GameRows$Forest", "startNode", "(II)I"⟩, 17) := ⟨⟨by decide +kernel, by decide +kernel⟩, List.mem_of_getElem? (i := 20) (by decide +kernel), List.mem_of_getElem? (i := 250) (by decide +kernel), List.mem_of_getElem? (i := 251) (by decide +kernel)⟩
theorem lw_p1 : lw_okq (⟨"GameRows$Forest", "areOfferedThere", "(I)Z"⟩, 17) := ⟨⟨by decide +kernel, by decide +kernel⟩, List.mem_of_getElem? (i := 20) (by decide +kernel), List.mem_of_getElem? (i := 266) (by decide +kernel), List.mem_of_getElem? (i := 267) (by decide +kernel)⟩
theorem lw_p2 : lw_okq (⟨"GameRows$Forest", "isOfferedTaken", "(I)Z"⟩, 17) := ⟨⟨by decide +kernel, by decide +kernel⟩, List.mem_of_getElem? (i := 20) (by decide +kernel), List.mem_of_getElem? (i := 274) (by decide +kernel), List.mem_of_getElem? (i := 275) (by decide +kernel)⟩
theorem lw_p3 : lw_okq (⟨"GameRows$Forest", "greatestOffered", "([II)I"⟩, 17) := ⟨⟨by decide +kernel, by decide +kernel⟩, List.mem_of_getElem? (i := 20) (by decide +kernel), List.mem_of_getElem? (i := 278) (by decide +kernel), List.mem_of_getElem? (i := 279) (by decide +kernel)⟩
theorem lw_p4 : lw_okq (⟨"GameRows$Forest", "setsOffered", "(I)I"⟩, 17) := ⟨⟨by decide +kernel, by decide +kernel⟩, List.mem_of_getElem? (i := 20) (by decide +kernel), List.mem_of_getElem? (i := 285) (by decide +kernel), List.mem_of_getElem? (i := 286) (by decide +kernel)⟩
theorem lw_p5 : lw_okq (⟨"GameRows$Forest", "plansWith", "(II)I"⟩, 17) := ⟨⟨by decide +kernel, by decide +kernel⟩, List.mem_of_getElem? (i := 20) (by decide +kernel), List.mem_of_getElem? (i := 289) (by decide +kernel), List.mem_of_getElem? (i := 290) (by decide +kernel)⟩
theorem lw_p6 : lw_okq (⟨"GameRows$Forest", "adoptOffered", "(II)V"⟩, 17) := ⟨⟨by decide +kernel, by decide +kernel⟩, List.mem_of_getElem? (i := 20) (by decide +kernel), List.mem_of_getElem? (i := 296) (by decide +kernel), List.mem_of_getElem? (i := 297) (by decide +kernel)⟩
theorem lw_p7 : lw_okq (⟨"GameRows", "isEmpty", "()Z"⟩, 5) := ⟨⟨by decide +kernel, by decide +kernel⟩, List.mem_of_getElem? (i := 12) (by decide +kernel), List.mem_of_getElem? (i := 312) (by decide +kernel), List.mem_of_getElem? (i := 313) (by decide +kernel)⟩
theorem lw_p8 : lw_okq (⟨"GameRows$Forest", "setsInTree", "()I"⟩, 17) := ⟨⟨by decide +kernel, by decide +kernel⟩, List.mem_of_getElem? (i := 20) (by decide +kernel), List.mem_of_getElem? (i := 335) (by decide +kernel), List.mem_of_getElem? (i := 336) (by decide +kernel)⟩
theorem lw_p9 : lw_okq (⟨"GameRows$Forest", "isGameWithin", "(I)Z"⟩, 17) := ⟨⟨by decide +kernel, by decide +kernel⟩, List.mem_of_getElem? (i := 20) (by decide +kernel), List.mem_of_getElem? (i := 359) (by decide +kernel), List.mem_of_getElem? (i := 360) (by decide +kernel)⟩
theorem lw_p10 : lw_okq (⟨"GameRows$Points", "keepPoints", "(I[J)V"⟩, 6) := ⟨⟨by decide +kernel, by decide +kernel⟩, List.mem_of_getElem? (i := 127) (by decide +kernel), List.mem_of_getElem? (i := 366) (by decide +kernel), List.mem_of_getElem? (i := 367) (by decide +kernel)⟩
theorem lw_p11 : lw_okq (⟨"GameRows$Table", "weighPair", "(II)V"⟩, 7) := ⟨⟨by decide +kernel, by decide +kernel⟩, List.mem_of_getElem? (i := 94) (by decide +kernel), List.mem_of_getElem? (i := 381) (by decide +kernel), List.mem_of_getElem? (i := 382) (by decide +kernel)⟩
theorem lw_p12 : lw_okq (⟨"GameRows$Table", "shareAmongAll", "(II)V"⟩, 7) := ⟨⟨by decide +kernel, by decide +kernel⟩, List.mem_of_getElem? (i := 94) (by decide +kernel), List.mem_of_getElem? (i := 389) (by decide +kernel), List.mem_of_getElem? (i := 390) (by decide +kernel)⟩
theorem lw_p13 : lw_okq (⟨"GameRows$Forest", "isPlayedFrom", "(III)Z"⟩, 17) := ⟨⟨by decide +kernel, by decide +kernel⟩, List.mem_of_getElem? (i := 20) (by decide +kernel), List.mem_of_getElem? (i := 401) (by decide +kernel), List.mem_of_getElem? (i := 402) (by decide +kernel)⟩
theorem lw_p14 : lw_okq (⟨"GameRows$Points", "findInner", "(II)I"⟩, 6) := ⟨⟨by decide +kernel, by decide +kernel⟩, List.mem_of_getElem? (i := 127) (by decide +kernel), List.mem_of_getElem? (i := 405) (by decide +kernel), List.mem_of_getElem? (i := 406) (by decide +kernel)⟩
theorem lw_p15 : lw_okq (⟨"GameRows$Points", "findBest", "(I)V"⟩, 6) := ⟨⟨by decide +kernel, by decide +kernel⟩, List.mem_of_getElem? (i := 127) (by decide +kernel), List.mem_of_getElem? (i := 413) (by decide +kernel), List.mem_of_getElem? (i := 414) (by decide +kernel)⟩
def lw_privs_1 : List (MethodName × Nat) := [(⟨"GameRows$Forest", "startNode", "(II)I"⟩, 17), (⟨"GameRows$Forest", "areOfferedThere", "(I)Z"⟩, 17), (⟨"GameRows$Forest", "isOfferedTaken", "(I)Z"⟩, 17), (⟨"GameRows$Forest", "greatestOffered", "([II)I"⟩, 17), (⟨"GameRows$Forest", "setsOffered", "(I)I"⟩, 17), (⟨"GameRows$Forest", "plansWith", "(II)I"⟩, 17), (⟨"GameRows$Forest", "adoptOffered", "(II)V"⟩, 17), (⟨"GameRows", "isEmpty", "()Z"⟩, 5), (⟨"GameRows$Forest", "setsInTree", "()I"⟩, 17), (⟨"GameRows$Forest", "isGameWithin", "(I)Z"⟩, 17), (⟨"GameRows$Points", "keepPoints", "(I[J)V"⟩, 6), (⟨"GameRows$Table", "weighPair", "(II)V"⟩, 7), (⟨"GameRows$Table", "shareAmongAll", "(II)V"⟩, 7), (⟨"GameRows$Forest", "isPlayedFrom", "(III)Z"⟩, 17), (⟨"GameRows$Points", "findInner", "(II)I"⟩, 6), (⟨"GameRows$Points", "findBest", "(I)V"⟩, 6)]
theorem lw_r1 : ∀ q ∈ lw_privs_1, lw_okq q := List.forall_mem_cons.mpr ⟨lw_p0, List.forall_mem_cons.mpr ⟨lw_p1, List.forall_mem_cons.mpr ⟨lw_p2, List.forall_mem_cons.mpr ⟨lw_p3, List.forall_mem_cons.mpr ⟨lw_p4, List.forall_mem_cons.mpr ⟨lw_p5, List.forall_mem_cons.mpr ⟨lw_p6, List.forall_mem_cons.mpr ⟨lw_p7, List.forall_mem_cons.mpr ⟨lw_p8, List.forall_mem_cons.mpr ⟨lw_p9, List.forall_mem_cons.mpr ⟨lw_p10, List.forall_mem_cons.mpr ⟨lw_p11, List.forall_mem_cons.mpr ⟨lw_p12, List.forall_mem_cons.mpr ⟨lw_p13, List.forall_mem_cons.mpr ⟨lw_p14, List.forall_mem_cons.mpr ⟨lw_p15, fun _ h => absurd h List.not_mem_nil⟩⟩⟩⟩⟩⟩⟩⟩⟩⟩⟩⟩⟩⟩⟩⟩
theorem lw_p16 : lw_okq (⟨"GameRows$Points", "isPoint", "(II)Z"⟩, 6) := ⟨⟨by decide +kernel, by decide +kernel⟩, List.mem_of_getElem? (i := 127) (by decide +kernel), List.mem_of_getElem? (i := 429) (by decide +kernel), List.mem_of_getElem? (i := 430) (by decide +kernel)⟩
theorem lw_p17 : lw_okq (⟨"GameRows$Leaving", "thoseThatGo", "(I)J"⟩, 5) := ⟨⟨by decide +kernel, by decide +kernel⟩, List.mem_of_getElem? (i := 155) (by decide +kernel), List.mem_of_getElem? (i := 452) (by decide +kernel), List.mem_of_getElem? (i := 453) (by decide +kernel)⟩
theorem lw_p18 : lw_okq (⟨"GameRows$Table", "isWorse", "(IIIJ)Z"⟩, 7) := ⟨⟨by decide +kernel, by decide +kernel⟩, List.mem_of_getElem? (i := 94) (by decide +kernel), List.mem_of_getElem? (i := 463) (by decide +kernel), List.mem_of_getElem? (i := 464) (by decide +kernel)⟩
theorem lw_p19 : lw_okq (⟨"GameRows$Leaving", "takeAway", "(IJI)V"⟩, 5) := ⟨⟨by decide +kernel, by decide +kernel⟩, List.mem_of_getElem? (i := 155) (by decide +kernel), List.mem_of_getElem? (i := 468) (by decide +kernel), List.mem_of_getElem? (i := 469) (by decide +kernel)⟩
theorem lw_p20 : lw_okq (⟨"GameRows", "isPlan", "(II)Z"⟩, 5) := ⟨⟨by decide +kernel, by decide +kernel⟩, List.mem_of_getElem? (i := 12) (by decide +kernel), List.mem_of_getElem? (i := 493) (by decide +kernel), List.mem_of_getElem? (i := 494) (by decide +kernel)⟩
theorem lw_p21 : lw_okq (⟨"GameRows$Table", "areOne", "(III)Z"⟩, 7) := ⟨⟨by decide +kernel, by decide +kernel⟩, List.mem_of_getElem? (i := 94) (by decide +kernel), List.mem_of_getElem? (i := 540) (by decide +kernel), List.mem_of_getElem? (i := 541) (by decide +kernel)⟩
theorem lw_p22 : lw_okq (⟨"GameRows$Table", "isWeaklyWorse", "(III)Z"⟩, 7) := ⟨⟨by decide +kernel, by decide +kernel⟩, List.mem_of_getElem? (i := 94) (by decide +kernel), List.mem_of_getElem? (i := 554) (by decide +kernel), List.mem_of_getElem? (i := 555) (by decide +kernel)⟩
theorem lw_p23 : lw_okq (⟨"GameRows$Table", "leastOf", "(II)I"⟩, 7) := ⟨⟨by decide +kernel, by decide +kernel⟩, List.mem_of_getElem? (i := 94) (by decide +kernel), List.mem_of_getElem? (i := 574) (by decide +kernel), List.mem_of_getElem? (i := 575) (by decide +kernel)⟩
theorem lw_p24 : lw_okq (⟨"GameRows$Forest", "areWaysAlike", "(II)Z"⟩, 17) := ⟨⟨by decide +kernel, by decide +kernel⟩, List.mem_of_getElem? (i := 20) (by decide +kernel), List.mem_of_getElem? (i := 590) (by decide +kernel), List.mem_of_getElem? (i := 591) (by decide +kernel)⟩
theorem lw_p25 : lw_okq (⟨"GameRows$Forest", "wayTo", "(II)J"⟩, 17) := ⟨⟨by decide +kernel, by decide +kernel⟩, List.mem_of_getElem? (i := 20) (by decide +kernel), List.mem_of_getElem? (i := 594) (by decide +kernel), List.mem_of_getElem? (i := 595) (by decide +kernel)⟩
theorem lw_p26 : lw_okq (⟨"GameRows$Forest", "actTo", "(II)I"⟩, 17) := ⟨⟨by decide +kernel, by decide +kernel⟩, List.mem_of_getElem? (i := 20) (by decide +kernel), List.mem_of_getElem? (i := 599) (by decide +kernel), List.mem_of_getElem? (i := 600) (by decide +kernel)⟩
theorem lw_p27 : lw_okq (⟨"GameRows$Answering", "leastOfGreatest", "(I)I"⟩, 6) := ⟨⟨by decide +kernel, by decide +kernel⟩, List.mem_of_getElem? (i := 178) (by decide +kernel), List.mem_of_getElem? (i := 613) (by decide +kernel), List.mem_of_getElem? (i := 614) (by decide +kernel)⟩
theorem lw_p28 : lw_okq (⟨"GameRows$Answering", "addUp", "(II)V"⟩, 6) := ⟨⟨by decide +kernel, by decide +kernel⟩, List.mem_of_getElem? (i := 178) (by decide +kernel), List.mem_of_getElem? (i := 617) (by decide +kernel), List.mem_of_getElem? (i := 618) (by decide +kernel)⟩
theorem lw_p29 : lw_okq (⟨"GameRows$Answering", "sumAgainst", "(II)I"⟩, 6) := ⟨⟨by decide +kernel, by decide +kernel⟩, List.mem_of_getElem? (i := 178) (by decide +kernel), List.mem_of_getElem? (i := 635) (by decide +kernel), List.mem_of_getElem? (i := 636) (by decide +kernel)⟩
theorem lw_p30 : lw_okq (⟨"GameRows$Answering", "sumFor", "(II)I"⟩, 6) := ⟨⟨by decide +kernel, by decide +kernel⟩, List.mem_of_getElem? (i := 178) (by decide +kernel), List.mem_of_getElem? (i := 645) (by decide +kernel), List.mem_of_getElem? (i := 646) (by decide +kernel)⟩
theorem lw_p31 : lw_okq (⟨"GameRowsModel", "make", "(I)I"⟩, 26) := ⟨⟨by decide +kernel, by decide +kernel⟩, List.mem_of_getElem? (i := 649) (by decide +kernel), List.mem_of_getElem? (i := 750) (by decide +kernel), List.mem_of_getElem? (i := 751) (by decide +kernel)⟩
def lw_privs_2 : List (MethodName × Nat) := [(⟨"GameRows$Points", "isPoint", "(II)Z"⟩, 6), (⟨"GameRows$Leaving", "thoseThatGo", "(I)J"⟩, 5), (⟨"GameRows$Table", "isWorse", "(IIIJ)Z"⟩, 7), (⟨"GameRows$Leaving", "takeAway", "(IJI)V"⟩, 5), (⟨"GameRows", "isPlan", "(II)Z"⟩, 5), (⟨"GameRows$Table", "areOne", "(III)Z"⟩, 7), (⟨"GameRows$Table", "isWeaklyWorse", "(III)Z"⟩, 7), (⟨"GameRows$Table", "leastOf", "(II)I"⟩, 7), (⟨"GameRows$Forest", "areWaysAlike", "(II)Z"⟩, 17), (⟨"GameRows$Forest", "wayTo", "(II)J"⟩, 17), (⟨"GameRows$Forest", "actTo", "(II)I"⟩, 17), (⟨"GameRows$Answering", "leastOfGreatest", "(I)I"⟩, 6), (⟨"GameRows$Answering", "addUp", "(II)V"⟩, 6), (⟨"GameRows$Answering", "sumAgainst", "(II)I"⟩, 6), (⟨"GameRows$Answering", "sumFor", "(II)I"⟩, 6), (⟨"GameRowsModel", "make", "(I)I"⟩, 26)]
theorem lw_r2 : ∀ q ∈ lw_privs_2, lw_okq q := List.forall_mem_cons.mpr ⟨lw_p16, List.forall_mem_cons.mpr ⟨lw_p17, List.forall_mem_cons.mpr ⟨lw_p18, List.forall_mem_cons.mpr ⟨lw_p19, List.forall_mem_cons.mpr ⟨lw_p20, List.forall_mem_cons.mpr ⟨lw_p21, List.forall_mem_cons.mpr ⟨lw_p22, List.forall_mem_cons.mpr ⟨lw_p23, List.forall_mem_cons.mpr ⟨lw_p24, List.forall_mem_cons.mpr ⟨lw_p25, List.forall_mem_cons.mpr ⟨lw_p26, List.forall_mem_cons.mpr ⟨lw_p27, List.forall_mem_cons.mpr ⟨lw_p28, List.forall_mem_cons.mpr ⟨lw_p29, List.forall_mem_cons.mpr ⟨lw_p30, List.forall_mem_cons.mpr ⟨lw_p31, fun _ h => absurd h List.not_mem_nil⟩⟩⟩⟩⟩⟩⟩⟩⟩⟩⟩⟩⟩⟩⟩⟩
theorem lw_p32 : lw_okq (⟨"GameRowsModel", "isNode", "(I)Z"⟩, 26) := ⟨⟨by decide +kernel, by decide +kernel⟩, List.mem_of_getElem? (i := 649) (by decide +kernel), List.mem_of_getElem? (i := 758) (by decide +kernel), List.mem_of_getElem? (i := 759) (by decide +kernel)⟩
theorem lw_p33 : lw_okq (⟨"GameRowsModel", "bar", "(IIIII)I"⟩, 26) := ⟨⟨by decide +kernel, by decide +kernel⟩, List.mem_of_getElem? (i := 649) (by decide +kernel), List.mem_of_getElem? (i := 762) (by decide +kernel), List.mem_of_getElem? (i := 763) (by decide +kernel)⟩
theorem lw_p34 : lw_okq (⟨"GameRowsModel", "adopt", "(IIIIII)V"⟩, 26) := ⟨⟨by decide +kernel, by decide +kernel⟩, List.mem_of_getElem? (i := 649) (by decide +kernel), List.mem_of_getElem? (i := 769) (by decide +kernel), List.mem_of_getElem? (i := 770) (by decide +kernel)⟩
theorem lw_p35 : lw_okq (⟨"GameRowsModel", "tooMany", "()Z"⟩, 26) := ⟨⟨by decide +kernel, by decide +kernel⟩, List.mem_of_getElem? (i := 649) (by decide +kernel), List.mem_of_getElem? (i := 773) (by decide +kernel), List.mem_of_getElem? (i := 774) (by decide +kernel)⟩
theorem lw_p36 : lw_okq (⟨"GameRowsModel", "findTree", "()V"⟩, 26) := ⟨⟨by decide +kernel, by decide +kernel⟩, List.mem_of_getElem? (i := 649) (by decide +kernel), List.mem_of_getElem? (i := 777) (by decide +kernel), List.mem_of_getElem? (i := 778) (by decide +kernel)⟩
theorem lw_p37 : lw_okq (⟨"GameRowsModel", "plansOf", "(I)I"⟩, 26) := ⟨⟨by decide +kernel, by decide +kernel⟩, List.mem_of_getElem? (i := 649) (by decide +kernel), List.mem_of_getElem? (i := 781) (by decide +kernel), List.mem_of_getElem? (i := 782) (by decide +kernel)⟩
theorem lw_p38 : lw_okq (⟨"GameRowsModel", "undo", "(IIII)V"⟩, 26) := ⟨⟨by decide +kernel, by decide +kernel⟩, List.mem_of_getElem? (i := 649) (by decide +kernel), List.mem_of_getElem? (i := 785) (by decide +kernel), List.mem_of_getElem? (i := 786) (by decide +kernel)⟩
theorem lw_p39 : lw_okq (⟨"GameRowsModel", "root", "()I"⟩, 26) := ⟨⟨by decide +kernel, by decide +kernel⟩, List.mem_of_getElem? (i := 649) (by decide +kernel), List.mem_of_getElem? (i := 798) (by decide +kernel), List.mem_of_getElem? (i := 799) (by decide +kernel)⟩
theorem lw_p40 : lw_okq (⟨"GameRowsModel", "workAll", "(I)V"⟩, 26) := ⟨⟨by decide +kernel, by decide +kernel⟩, List.mem_of_getElem? (i := 649) (by decide +kernel), List.mem_of_getElem? (i := 802) (by decide +kernel), List.mem_of_getElem? (i := 803) (by decide +kernel)⟩
theorem lw_p41 : lw_okq (⟨"GameRowsModel", "work", "(III)V"⟩, 26) := ⟨⟨by decide +kernel, by decide +kernel⟩, List.mem_of_getElem? (i := 649) (by decide +kernel), List.mem_of_getElem? (i := 806) (by decide +kernel), List.mem_of_getElem? (i := 807) (by decide +kernel)⟩
theorem lw_p42 : lw_okq (⟨"GameRowsModel", "actOf", "(III)I"⟩, 26) := ⟨⟨by decide +kernel, by decide +kernel⟩, List.mem_of_getElem? (i := 649) (by decide +kernel), List.mem_of_getElem? (i := 810) (by decide +kernel), List.mem_of_getElem? (i := 811) (by decide +kernel)⟩
theorem lw_p43 : lw_okq (⟨"GameRowsModel", "mean", "(II)I"⟩, 26) := ⟨⟨by decide +kernel, by decide +kernel⟩, List.mem_of_getElem? (i := 649) (by decide +kernel), List.mem_of_getElem? (i := 814) (by decide +kernel), List.mem_of_getElem? (i := 815) (by decide +kernel)⟩
theorem lw_p44 : lw_okq (⟨"GameRowsModel", "worthTo", "(III)I"⟩, 26) := ⟨⟨by decide +kernel, by decide +kernel⟩, List.mem_of_getElem? (i := 649) (by decide +kernel), List.mem_of_getElem? (i := 818) (by decide +kernel), List.mem_of_getElem? (i := 819) (by decide +kernel)⟩
theorem lw_p45 : lw_okq (⟨"GameRowsModel", "many", "(I)I"⟩, 26) := ⟨⟨by decide +kernel, by decide +kernel⟩, List.mem_of_getElem? (i := 649) (by decide +kernel), List.mem_of_getElem? (i := 830) (by decide +kernel), List.mem_of_getElem? (i := 831) (by decide +kernel)⟩
theorem lw_p46 : lw_okq (⟨"GameRowsModel", "answerOf", "(II)I"⟩, 26) := ⟨⟨by decide +kernel, by decide +kernel⟩, List.mem_of_getElem? (i := 649) (by decide +kernel), List.mem_of_getElem? (i := 834) (by decide +kernel), List.mem_of_getElem? (i := 835) (by decide +kernel)⟩
theorem lw_p47 : lw_okq (⟨"GameRowsModel", "countPoints", "(ZI)I"⟩, 26) := ⟨⟨by decide +kernel, by decide +kernel⟩, List.mem_of_getElem? (i := 649) (by decide +kernel), List.mem_of_getElem? (i := 842) (by decide +kernel), List.mem_of_getElem? (i := 843) (by decide +kernel)⟩
def lw_privs_3 : List (MethodName × Nat) := [(⟨"GameRowsModel", "isNode", "(I)Z"⟩, 26), (⟨"GameRowsModel", "bar", "(IIIII)I"⟩, 26), (⟨"GameRowsModel", "adopt", "(IIIIII)V"⟩, 26), (⟨"GameRowsModel", "tooMany", "()Z"⟩, 26), (⟨"GameRowsModel", "findTree", "()V"⟩, 26), (⟨"GameRowsModel", "plansOf", "(I)I"⟩, 26), (⟨"GameRowsModel", "undo", "(IIII)V"⟩, 26), (⟨"GameRowsModel", "root", "()I"⟩, 26), (⟨"GameRowsModel", "workAll", "(I)V"⟩, 26), (⟨"GameRowsModel", "work", "(III)V"⟩, 26), (⟨"GameRowsModel", "actOf", "(III)I"⟩, 26), (⟨"GameRowsModel", "mean", "(II)I"⟩, 26), (⟨"GameRowsModel", "worthTo", "(III)I"⟩, 26), (⟨"GameRowsModel", "many", "(I)I"⟩, 26), (⟨"GameRowsModel", "answerOf", "(II)I"⟩, 26), (⟨"GameRowsModel", "countPoints", "(ZI)I"⟩, 26)]
theorem lw_r3 : ∀ q ∈ lw_privs_3, lw_okq q := List.forall_mem_cons.mpr ⟨lw_p32, List.forall_mem_cons.mpr ⟨lw_p33, List.forall_mem_cons.mpr ⟨lw_p34, List.forall_mem_cons.mpr ⟨lw_p35, List.forall_mem_cons.mpr ⟨lw_p36, List.forall_mem_cons.mpr ⟨lw_p37, List.forall_mem_cons.mpr ⟨lw_p38, List.forall_mem_cons.mpr ⟨lw_p39, List.forall_mem_cons.mpr ⟨lw_p40, List.forall_mem_cons.mpr ⟨lw_p41, List.forall_mem_cons.mpr ⟨lw_p42, List.forall_mem_cons.mpr ⟨lw_p43, List.forall_mem_cons.mpr ⟨lw_p44, List.forall_mem_cons.mpr ⟨lw_p45, List.forall_mem_cons.mpr ⟨lw_p46, List.forall_mem_cons.mpr ⟨lw_p47, fun _ h => absurd h List.not_mem_nil⟩⟩⟩⟩⟩⟩⟩⟩⟩⟩⟩⟩⟩⟩⟩⟩
theorem lw_p48 : lw_okq (⟨"GameRowsModel", "findPoints", "(Z)V"⟩, 26) := ⟨⟨by decide +kernel, by decide +kernel⟩, List.mem_of_getElem? (i := 649) (by decide +kernel), List.mem_of_getElem? (i := 846) (by decide +kernel), List.mem_of_getElem? (i := 847) (by decide +kernel)⟩
theorem lw_p49 : lw_okq (⟨"GameRowsModel", "sift", "()V"⟩, 26) := ⟨⟨by decide +kernel, by decide +kernel⟩, List.mem_of_getElem? (i := 649) (by decide +kernel), List.mem_of_getElem? (i := 850) (by decide +kernel), List.mem_of_getElem? (i := 851) (by decide +kernel)⟩
theorem lw_p50 : lw_okq (⟨"GameRowsModel", "isGame", "(I)Z"⟩, 26) := ⟨⟨by decide +kernel, by decide +kernel⟩, List.mem_of_getElem? (i := 649) (by decide +kernel), List.mem_of_getElem? (i := 854) (by decide +kernel), List.mem_of_getElem? (i := 855) (by decide +kernel)⟩
theorem lw_p51 : lw_okq (⟨"GameRowsModel", "isBelow", "(II)Z"⟩, 26) := ⟨⟨by decide +kernel, by decide +kernel⟩, List.mem_of_getElem? (i := 649) (by decide +kernel), List.mem_of_getElem? (i := 858) (by decide +kernel), List.mem_of_getElem? (i := 859) (by decide +kernel)⟩
theorem lw_p52 : lw_okq (⟨"GameRowsModel", "games", "(I)I"⟩, 26) := ⟨⟨by decide +kernel, by decide +kernel⟩, List.mem_of_getElem? (i := 649) (by decide +kernel), List.mem_of_getElem? (i := 866) (by decide +kernel), List.mem_of_getElem? (i := 867) (by decide +kernel)⟩
theorem lw_p53 : lw_okq (⟨"GameRowsModel", "allLeft", "()V"⟩, 26) := ⟨⟨by decide +kernel, by decide +kernel⟩, List.mem_of_getElem? (i := 649) (by decide +kernel), List.mem_of_getElem? (i := 874) (by decide +kernel), List.mem_of_getElem? (i := 875) (by decide +kernel)⟩
theorem lw_p54 : lw_okq (⟨"GameRowsModel", "isWorse", "(III)Z"⟩, 26) := ⟨⟨by decide +kernel, by decide +kernel⟩, List.mem_of_getElem? (i := 649) (by decide +kernel), List.mem_of_getElem? (i := 878) (by decide +kernel), List.mem_of_getElem? (i := 879) (by decide +kernel)⟩
theorem lw_p55 : lw_okq (⟨"GameRowsModel", "isLeft", "(II)Z"⟩, 26) := ⟨⟨by decide +kernel, by decide +kernel⟩, List.mem_of_getElem? (i := 649) (by decide +kernel), List.mem_of_getElem? (i := 882) (by decide +kernel), List.mem_of_getElem? (i := 883) (by decide +kernel)⟩
theorem lw_p56 : lw_okq (⟨"GameRowsModel", "isWeaker", "(III)Z"⟩, 26) := ⟨⟨by decide +kernel, by decide +kernel⟩, List.mem_of_getElem? (i := 649) (by decide +kernel), List.mem_of_getElem? (i := 886) (by decide +kernel), List.mem_of_getElem? (i := 887) (by decide +kernel)⟩
theorem lw_p57 : lw_okq (⟨"GameRowsModel", "isOne", "(III)Z"⟩, 26) := ⟨⟨by decide +kernel, by decide +kernel⟩, List.mem_of_getElem? (i := 649) (by decide +kernel), List.mem_of_getElem? (i := 890) (by decide +kernel), List.mem_of_getElem? (i := 891) (by decide +kernel)⟩
theorem lw_p58 : lw_okq (⟨"GameRowsModel", "doRounds", "()I"⟩, 26) := ⟨⟨by decide +kernel, by decide +kernel⟩, List.mem_of_getElem? (i := 649) (by decide +kernel), List.mem_of_getElem? (i := 898) (by decide +kernel), List.mem_of_getElem? (i := 899) (by decide +kernel)⟩
theorem lw_p59 : lw_okq (⟨"GameRowsModel", "isWorst", "(II)Z"⟩, 26) := ⟨⟨by decide +kernel, by decide +kernel⟩, List.mem_of_getElem? (i := 649) (by decide +kernel), List.mem_of_getElem? (i := 902) (by decide +kernel), List.mem_of_getElem? (i := 903) (by decide +kernel)⟩
theorem lw_p60 : lw_okq (⟨"GameRowsModel", "leftOf", "(I)I"⟩, 26) := ⟨⟨by decide +kernel, by decide +kernel⟩, List.mem_of_getElem? (i := 649) (by decide +kernel), List.mem_of_getElem? (i := 906) (by decide +kernel), List.mem_of_getElem? (i := 907) (by decide +kernel)⟩
theorem lw_p61 : lw_okq (⟨"GameRowsModel", "memory", "(II)J"⟩, 26) := ⟨⟨by decide +kernel, by decide +kernel⟩, List.mem_of_getElem? (i := 649) (by decide +kernel), List.mem_of_getElem? (i := 918) (by decide +kernel), List.mem_of_getElem? (i := 919) (by decide +kernel)⟩
theorem lw_p62 : lw_okq (⟨"GameRowsModel", "answerAll", "(I)V"⟩, 26) := ⟨⟨by decide +kernel, by decide +kernel⟩, List.mem_of_getElem? (i := 649) (by decide +kernel), List.mem_of_getElem? (i := 928) (by decide +kernel), List.mem_of_getElem? (i := 929) (by decide +kernel)⟩
theorem lw_p63 : lw_okq (⟨"GameRowsModel", "bestOf", "(I)I"⟩, 26) := ⟨⟨by decide +kernel, by decide +kernel⟩, List.mem_of_getElem? (i := 649) (by decide +kernel), List.mem_of_getElem? (i := 932) (by decide +kernel), List.mem_of_getElem? (i := 933) (by decide +kernel)⟩
def lw_privs_4 : List (MethodName × Nat) := [(⟨"GameRowsModel", "findPoints", "(Z)V"⟩, 26), (⟨"GameRowsModel", "sift", "()V"⟩, 26), (⟨"GameRowsModel", "isGame", "(I)Z"⟩, 26), (⟨"GameRowsModel", "isBelow", "(II)Z"⟩, 26), (⟨"GameRowsModel", "games", "(I)I"⟩, 26), (⟨"GameRowsModel", "allLeft", "()V"⟩, 26), (⟨"GameRowsModel", "isWorse", "(III)Z"⟩, 26), (⟨"GameRowsModel", "isLeft", "(II)Z"⟩, 26), (⟨"GameRowsModel", "isWeaker", "(III)Z"⟩, 26), (⟨"GameRowsModel", "isOne", "(III)Z"⟩, 26), (⟨"GameRowsModel", "doRounds", "()I"⟩, 26), (⟨"GameRowsModel", "isWorst", "(II)Z"⟩, 26), (⟨"GameRowsModel", "leftOf", "(I)I"⟩, 26), (⟨"GameRowsModel", "memory", "(II)J"⟩, 26), (⟨"GameRowsModel", "answerAll", "(I)V"⟩, 26), (⟨"GameRowsModel", "bestOf", "(I)I"⟩, 26)]
theorem lw_r4 : ∀ q ∈ lw_privs_4, lw_okq q := List.forall_mem_cons.mpr ⟨lw_p48, List.forall_mem_cons.mpr ⟨lw_p49, List.forall_mem_cons.mpr ⟨lw_p50, List.forall_mem_cons.mpr ⟨lw_p51, List.forall_mem_cons.mpr ⟨lw_p52, List.forall_mem_cons.mpr ⟨lw_p53, List.forall_mem_cons.mpr ⟨lw_p54, List.forall_mem_cons.mpr ⟨lw_p55, List.forall_mem_cons.mpr ⟨lw_p56, List.forall_mem_cons.mpr ⟨lw_p57, List.forall_mem_cons.mpr ⟨lw_p58, List.forall_mem_cons.mpr ⟨lw_p59, List.forall_mem_cons.mpr ⟨lw_p60, List.forall_mem_cons.mpr ⟨lw_p61, List.forall_mem_cons.mpr ⟨lw_p62, List.forall_mem_cons.mpr ⟨lw_p63, fun _ h => absurd h List.not_mem_nil⟩⟩⟩⟩⟩⟩⟩⟩⟩⟩⟩⟩⟩⟩⟩⟩
theorem lw_p64 : lw_okq (⟨"GameRowsModel", "take", "(II)V"⟩, 26) := ⟨⟨by decide +kernel, by decide +kernel⟩, List.mem_of_getElem? (i := 649) (by decide +kernel), List.mem_of_getElem? (i := 936) (by decide +kernel), List.mem_of_getElem? (i := 937) (by decide +kernel)⟩
def lw_privs_5 : List (MethodName × Nat) := [(⟨"GameRowsModel", "take", "(II)V"⟩, 26)]
theorem lw_r5 : ∀ q ∈ lw_privs_5, lw_okq q := List.forall_mem_cons.mpr ⟨lw_p64, fun _ h => absurd h List.not_mem_nil⟩
def lw_privs : List (MethodName × Nat) := lw_privs_1 ++ (lw_privs_2 ++ (lw_privs_3 ++ (lw_privs_4 ++ (lw_privs_5))))
def lw_tbl : List Cond := k2_sels lw_privs ++ tables_1
theorem lw_privs_ok : ∀ q ∈ lw_privs, lw_okq q := by
  show ∀ q ∈ lw_privs_1 ++ (lw_privs_2 ++ (lw_privs_3 ++ (lw_privs_4 ++ (lw_privs_5)))), lw_okq q
  exact List.forall_mem_append.mpr ⟨lw_r1, List.forall_mem_append.mpr ⟨lw_r2, List.forall_mem_append.mpr ⟨lw_r3, List.forall_mem_append.mpr ⟨lw_r4, lw_r5⟩⟩⟩⟩
-- end of PART A
end
section
def R_Ga : String := "GameRows"
def R_Fo : String := "GameRows$Forest"
def R_Ta : String := "GameRows$Table"
def R_Po : String := "GameRows$Points"
def R_Le : String := "GameRows$Leaving"
def R_An : String := "GameRows$Answering"
def R_Mo : String := "GameRowsModel"
def R_Lo : String := "java/lang/Long"
def R_Ma : String := "java/lang/Math"
def R_Ar : String := "java/util/Arrays"
def R_La : String := "GameRowsLaw"
def R_Ob : String := "java/lang/Object"
def T_Ga : u_T := fun k => match k with
  | 0 => ("GameRows", "forest", "LGameRows$Forest;", true)
  | 1 => ("GameRows", "table", "LGameRows$Table;", true)
  | 2 => ("GameRows", "points", "LGameRows$Points;", true)
  | 3 => ("GameRows", "leaving", "LGameRows$Leaving;", true)
  | _ => ("GameRows", "answering", "LGameRows$Answering;", true)
def ty_Ga : Nat → FieldType := fun k => match k with
  | 0 => .object "GameRows$Forest"
  | 1 => .object "GameRows$Table"
  | 2 => .object "GameRows$Points"
  | 3 => .object "GameRows$Leaving"
  | _ => .object "GameRows$Answering"
theorem nm_Ga : ∀ a, a < 5 → ∀ b, b < 5 → a ≠ b → (T_Ga a).2.1 ≠ (T_Ga b).2.1 := by decide +kernel
theorem ty_Ga_ok : ∀ k, k < 5 → parseFieldDescriptor (T_Ga k).2.2.1 = some (ty_Ga k) := by decide +kernel
def T_Fo : u_T := fun k => match k with
  | 0 => ("GameRows$Forest", "nodes", "I", false)
  | 1 => ("GameRows$Forest", "sets", "I", false)
  | 2 => ("GameRows$Forest", "version", "I", false)
  | 3 => ("GameRows$Forest", "sorts", "[I", true)
  | 4 => ("GameRows$Forest", "setOf", "[I", true)
  | 5 => ("GameRows$Forest", "parents", "[I", true)
  | 6 => ("GameRows$Forest", "actsOf", "[I", true)
  | 7 => ("GameRows$Forest", "worths", "[I", true)
  | 8 => ("GameRows$Forest", "children", "[I", true)
  | 9 => ("GameRows$Forest", "sizes", "[I", true)
  | 10 => ("GameRows$Forest", "depthsBelow", "[I", true)
  | 11 => ("GameRows$Forest", "chancesBelow", "[I", true)
  | 12 => ("GameRows$Forest", "nodesFrom", "[J", true)
  | 13 => ("GameRows$Forest", "setsFrom", "[I", true)
  | 14 => ("GameRows$Forest", "ownerOf", "[I", true)
  | 15 => ("GameRows$Forest", "nodesOf", "[J", true)
  | _ => ("GameRows$Forest", "offered", "[I", true)
def ty_Fo : Nat → FieldType := fun k => match k with
  | 0 => .int
  | 1 => .int
  | 2 => .int
  | 3 => .array .int
  | 4 => .array .int
  | 5 => .array .int
  | 6 => .array .int
  | 7 => .array .int
  | 8 => .array .int
  | 9 => .array .int
  | 10 => .array .int
  | 11 => .array .int
  | 12 => .array .long
  | 13 => .array .int
  | 14 => .array .int
  | 15 => .array .long
  | _ => .array .int
theorem nm_Fo : ∀ a, a < 17 → ∀ b, b < 17 → a ≠ b → (T_Fo a).2.1 ≠ (T_Fo b).2.1 := by decide +kernel
theorem ty_Fo_ok : ∀ k, k < 17 → parseFieldDescriptor (T_Fo k).2.2.1 = some (ty_Fo k) := by decide +kernel
def T_Ta : u_T := fun k => match k with
  | 0 => ("GameRows$Table", "plans", "[I", true)
  | 1 => ("GameRows$Table", "forest", "LGameRows$Forest;", true)
  | 2 => ("GameRows$Table", "worths", "[[I", true)
  | 3 => ("GameRows$Table", "acts", "[I", true)
  | 4 => ("GameRows$Table", "shares", "[I", true)
  | 5 => ("GameRows$Table", "madeFor", "I", false)
  | _ => ("GameRows$Table", "madeFrom", "I", false)
def ty_Ta : Nat → FieldType := fun k => match k with
  | 0 => .array .int
  | 1 => .object "GameRows$Forest"
  | 2 => .array (.array .int)
  | 3 => .array .int
  | 4 => .array .int
  | 5 => .int
  | _ => .int
theorem nm_Ta : ∀ a, a < 7 → ∀ b, b < 7 → a ≠ b → (T_Ta a).2.1 ≠ (T_Ta b).2.1 := by decide +kernel
theorem ty_Ta_ok : ∀ k, k < 7 → parseFieldDescriptor (T_Ta k).2.2.1 = some (ty_Ta k) := by decide +kernel
def T_Po : u_T := fun k => match k with
  | 0 => ("GameRows$Points", "forest", "LGameRows$Forest;", true)
  | 1 => ("GameRows$Points", "table", "LGameRows$Table;", true)
  | 2 => ("GameRows$Points", "rows", "[[J", true)
  | 3 => ("GameRows$Points", "madeFor", "[I", true)
  | 4 => ("GameRows$Points", "best", "[[I", true)
  | _ => ("GameRows$Points", "inner", "[[I", true)
def ty_Po : Nat → FieldType := fun k => match k with
  | 0 => .object "GameRows$Forest"
  | 1 => .object "GameRows$Table"
  | 2 => .array (.array .long)
  | 3 => .array .int
  | 4 => .array (.array .int)
  | _ => .array (.array .int)
theorem nm_Po : ∀ a, a < 6 → ∀ b, b < 6 → a ≠ b → (T_Po a).2.1 ≠ (T_Po b).2.1 := by decide +kernel
theorem ty_Po_ok : ∀ k, k < 6 → parseFieldDescriptor (T_Po k).2.2.1 = some (ty_Po k) := by decide +kernel
def T_Le : u_T := fun k => match k with
  | 0 => ("GameRows$Leaving", "forest", "LGameRows$Forest;", true)
  | 1 => ("GameRows$Leaving", "table", "LGameRows$Table;", true)
  | 2 => ("GameRows$Leaving", "goneIn", "[[I", true)
  | 3 => ("GameRows$Leaving", "left", "[J", true)
  | _ => ("GameRows$Leaving", "madeFor", "I", false)
def ty_Le : Nat → FieldType := fun k => match k with
  | 0 => .object "GameRows$Forest"
  | 1 => .object "GameRows$Table"
  | 2 => .array (.array .int)
  | 3 => .array .long
  | _ => .int
theorem nm_Le : ∀ a, a < 5 → ∀ b, b < 5 → a ≠ b → (T_Le a).2.1 ≠ (T_Le b).2.1 := by decide +kernel
theorem ty_Le_ok : ∀ k, k < 5 → parseFieldDescriptor (T_Le k).2.2.1 = some (ty_Le k) := by decide +kernel
def T_An : u_T := fun k => match k with
  | 0 => ("GameRows$Answering", "forest", "LGameRows$Forest;", true)
  | 1 => ("GameRows$Answering", "table", "LGameRows$Table;", true)
  | 2 => ("GameRows$Answering", "picks", "[[I", true)
  | 3 => ("GameRows$Answering", "sums", "[[I", true)
  | 4 => ("GameRows$Answering", "played", "I", false)
  | _ => ("GameRows$Answering", "madeFor", "I", false)
def ty_An : Nat → FieldType := fun k => match k with
  | 0 => .object "GameRows$Forest"
  | 1 => .object "GameRows$Table"
  | 2 => .array (.array .int)
  | 3 => .array (.array .int)
  | 4 => .int
  | _ => .int
theorem nm_An : ∀ a, a < 6 → ∀ b, b < 6 → a ≠ b → (T_An a).2.1 ≠ (T_An b).2.1 := by decide +kernel
theorem ty_An_ok : ∀ k, k < 6 → parseFieldDescriptor (T_An k).2.2.1 = some (ty_An k) := by decide +kernel
def T_Mo : u_T := fun k => match k with
  | 0 => ("GameRowsModel", "nodes", "I", false)
  | 1 => ("GameRowsModel", "sets", "I", false)
  | 2 => ("GameRowsModel", "sort", "[I", true)
  | 3 => ("GameRowsModel", "setOf", "[I", true)
  | 4 => ("GameRowsModel", "worthOf", "[I", true)
  | 5 => ("GameRowsModel", "child", "[I", true)
  | 6 => ("GameRowsModel", "parent", "[I", true)
  | 7 => ("GameRowsModel", "height", "[I", true)
  | 8 => ("GameRowsModel", "chances", "[I", true)
  | 9 => ("GameRowsModel", "playerOf", "[I", true)
  | 10 => ("GameRowsModel", "acts", "[I", true)
  | 11 => ("GameRowsModel", "inTree", "[Z", true)
  | 12 => ("GameRowsModel", "isIn", "[Z", true)
  | 13 => ("GameRowsModel", "value", "[I", true)
  | 14 => ("GameRowsModel", "worths", "[I", true)
  | 15 => ("GameRowsModel", "choice", "[I", true)
  | 16 => ("GameRowsModel", "plans0", "I", false)
  | 17 => ("GameRowsModel", "plans1", "I", false)
  | 18 => ("GameRowsModel", "isPoint", "[Z", true)
  | 19 => ("GameRowsModel", "pointFound", "I", false)
  | 20 => ("GameRowsModel", "gameFound", "I", false)
  | 21 => ("GameRowsModel", "left", "[Z", true)
  | 22 => ("GameRowsModel", "gone", "[I", true)
  | 23 => ("GameRowsModel", "goes", "[Z", true)
  | 24 => ("GameRowsModel", "took", "[I", true)
  | _ => ("GameRowsModel", "against", "[I", true)
def ty_Mo : Nat → FieldType := fun k => match k with
  | 0 => .int
  | 1 => .int
  | 2 => .array .int
  | 3 => .array .int
  | 4 => .array .int
  | 5 => .array .int
  | 6 => .array .int
  | 7 => .array .int
  | 8 => .array .int
  | 9 => .array .int
  | 10 => .array .int
  | 11 => .array .boolean
  | 12 => .array .boolean
  | 13 => .array .int
  | 14 => .array .int
  | 15 => .array .int
  | 16 => .int
  | 17 => .int
  | 18 => .array .boolean
  | 19 => .int
  | 20 => .int
  | 21 => .array .boolean
  | 22 => .array .int
  | 23 => .array .boolean
  | 24 => .array .int
  | _ => .array .int
theorem nm_Mo : ∀ a, a < 26 → ∀ b, b < 26 → a ≠ b → (T_Mo a).2.1 ≠ (T_Mo b).2.1 := by decide +kernel
theorem ty_Mo_ok : ∀ k, k < 26 → parseFieldDescriptor (T_Mo k).2.2.1 = some (ty_Mo k) := by decide +kernel
abbrev b_Ga_init_c : ByteArray := prog_1_method_1_code
def y_Ga_init : MethodName := ⟨R_Ga, "<init>", "()V"⟩
abbrev b_Fo_init_c : ByteArray := prog_3_method_1_code
def y_Fo_init : MethodName := ⟨R_Fo, "<init>", "()V"⟩
abbrev b_Ta_init_c : ByteArray := prog_6_method_1_code
def y_Ta_init : MethodName := ⟨R_Ta, "<init>", "(LGameRows$Forest;)V"⟩
abbrev b_Po_init_c : ByteArray := prog_5_method_1_code
def y_Po_init : MethodName := ⟨R_Po, "<init>", "(LGameRows$Forest;LGameRows$Table;)V"⟩
abbrev b_Le_init_c : ByteArray := prog_4_method_1_code
def y_Le_init : MethodName := ⟨R_Le, "<init>", "(LGameRows$Forest;LGameRows$Table;)V"⟩
abbrev b_An_init_c : ByteArray := prog_2_method_1_code
def y_An_init : MethodName := ⟨R_An, "<init>", "(LGameRows$Forest;LGameRows$Table;)V"⟩
abbrev b_Ga_clear_c : ByteArray := prog_1_method_2_code
def y_Ga_clear : MethodName := ⟨R_Ga, "clear", "()I"⟩
abbrev b_Fo_dropAll_c : ByteArray := prog_3_method_2_code
def y_Fo_dropAll : MethodName := ⟨R_Fo, "dropAll", "()I"⟩
abbrev b_Ga_set_c : ByteArray := prog_1_method_3_code
def y_Ga_set : MethodName := ⟨R_Ga, "set", "(II)I"⟩
abbrev b_Ga_isPlayer_c : ByteArray := prog_1_method_22_code
def y_Ga_isPlayer : MethodName := ⟨R_Ga, "isPlayer", "(I)Z"⟩
abbrev b_Ga_isAmong_c : ByteArray := prog_1_method_23_code
def y_Ga_isAmong : MethodName := ⟨R_Ga, "isAmong", "(III)Z"⟩
abbrev b_Fo_addSet_c : ByteArray := prog_3_method_3_code
def y_Fo_addSet : MethodName := ⟨R_Fo, "addSet", "(II)I"⟩
abbrev b_Ga_end_c : ByteArray := prog_1_method_4_code
def y_Ga_end : MethodName := ⟨R_Ga, "end", "(II)I"⟩
abbrev b_Fo_addEnd_c : ByteArray := prog_3_method_4_code
def y_Fo_addEnd : MethodName := ⟨R_Fo, "addEnd", "(II)I"⟩
abbrev b_Fo_startNode_c : ByteArray := prog_3_method_11_code
def y_Fo_startNode : MethodName := ⟨R_Fo, "startNode", "(II)I"⟩
abbrev b_Ga_chance_c : ByteArray := prog_1_method_5_code
def y_Ga_chance : MethodName := ⟨R_Ga, "chance", "(III)I"⟩
abbrev b_Fo_offer_c : ByteArray := prog_3_method_5_code
def y_Fo_offer : MethodName := ⟨R_Fo, "offer", "(III)V"⟩
abbrev b_Fo_addParent_c : ByteArray := prog_3_method_6_code
def y_Fo_addParent : MethodName := ⟨R_Fo, "addParent", "(II)I"⟩
abbrev b_Fo_areOfferedThere_c : ByteArray := prog_3_method_7_code
def y_Fo_areOfferedThere : MethodName := ⟨R_Fo, "areOfferedThere", "(I)Z"⟩
abbrev b_Fo_hasNode_c : ByteArray := prog_3_method_13_code
def y_Fo_hasNode : MethodName := ⟨R_Fo, "hasNode", "(I)Z"⟩
abbrev b_Fo_isOfferedTaken_c : ByteArray := prog_3_method_8_code
def y_Fo_isOfferedTaken : MethodName := ⟨R_Fo, "isOfferedTaken", "(I)Z"⟩
abbrev b_Fo_greatestOffered_c : ByteArray := prog_3_method_9_code
def y_Fo_greatestOffered : MethodName := ⟨R_Fo, "greatestOffered", "([II)I"⟩
abbrev b_Ma_max_c : ByteArray := prog_10_method_65_code
def y_Ma_max : MethodName := ⟨R_Ma, "max", "(II)I"⟩
abbrev b_Fo_setsOffered_c : ByteArray := prog_3_method_10_code
def y_Fo_setsOffered : MethodName := ⟨R_Fo, "setsOffered", "(I)I"⟩
abbrev b_Fo_plansWith_c : ByteArray := prog_3_method_22_code
def y_Fo_plansWith : MethodName := ⟨R_Fo, "plansWith", "(II)I"⟩
abbrev b_Ga_hasBit_c : ByteArray := prog_1_method_25_code
def y_Ga_hasBit : MethodName := ⟨R_Ga, "hasBit", "(JI)Z"⟩
abbrev b_Fo_adoptOffered_c : ByteArray := prog_3_method_12_code
def y_Fo_adoptOffered : MethodName := ⟨R_Fo, "adoptOffered", "(II)V"⟩
abbrev b_Ga_node_c : ByteArray := prog_1_method_6_code
def y_Ga_node : MethodName := ⟨R_Ga, "node", "(IIII)I"⟩
abbrev b_Fo_hasSet_c : ByteArray := prog_3_method_14_code
def y_Fo_hasSet : MethodName := ⟨R_Fo, "hasSet", "(I)Z"⟩
abbrev b_Ga_count_c : ByteArray := prog_1_method_7_code
def y_Ga_count : MethodName := ⟨R_Ga, "count", "(I)I"⟩
abbrev b_Ga_isEmpty_c : ByteArray := prog_1_method_20_code
def y_Ga_isEmpty : MethodName := ⟨R_Ga, "isEmpty", "()Z"⟩
abbrev b_Fo_nodesInTree_c : ByteArray := prog_3_method_18_code
def y_Fo_nodesInTree : MethodName := ⟨R_Fo, "nodesInTree", "()J"⟩
abbrev b_Fo_root_c : ByteArray := prog_3_method_17_code
def y_Fo_root : MethodName := ⟨R_Fo, "root", "()I"⟩
abbrev b_Lo_bitCount_c : ByteArray := prog_9_method_50_code
def y_Lo_bitCount : MethodName := ⟨R_Lo, "bitCount", "(J)I"⟩
abbrev b_Fo_plansOf_c : ByteArray := prog_3_method_21_code
def y_Fo_plansOf : MethodName := ⟨R_Fo, "plansOf", "(I)I"⟩
abbrev b_Fo_setsInTree_c : ByteArray := prog_3_method_19_code
def y_Fo_setsInTree : MethodName := ⟨R_Fo, "setsInTree", "()I"⟩
abbrev b_Po_find_c : ByteArray := prog_5_method_2_code
def y_Po_find : MethodName := ⟨R_Po, "find", "(Z)V"⟩
abbrev b_Po_placeOf_c : ByteArray := prog_5_method_3_code
def y_Po_placeOf : MethodName := ⟨R_Po, "placeOf", "(Z)I"⟩
abbrev b_Ga_firstBits_c : ByteArray := prog_1_method_26_code
def y_Ga_firstBits : MethodName := ⟨R_Ga, "firstBits", "(I)J"⟩
abbrev b_Ar_fillJ_c : ByteArray := prog_11_method_101_code
def y_Ar_fillJ : MethodName := ⟨R_Ar, "fill", "([JJ)V"⟩
abbrev b_Fo_gamesWithin_c : ByteArray := prog_3_method_28_code
def y_Fo_gamesWithin : MethodName := ⟨R_Fo, "gamesWithin", "()J"⟩
abbrev b_Fo_isGameWithin_c : ByteArray := prog_3_method_29_code
def y_Fo_isGameWithin : MethodName := ⟨R_Fo, "isGameWithin", "(I)Z"⟩
abbrev b_Po_keepPoints_c : ByteArray := prog_5_method_6_code
def y_Po_keepPoints : MethodName := ⟨R_Po, "keepPoints", "(I[J)V"⟩
abbrev b_Ta_fillFrom_c : ByteArray := prog_6_method_3_code
def y_Ta_fillFrom : MethodName := ⟨R_Ta, "fillFrom", "(I)V"⟩
abbrev b_Fo_plansFrom_c : ByteArray := prog_3_method_23_code
def y_Fo_plansFrom : MethodName := ⟨R_Fo, "plansFrom", "(II)I"⟩
abbrev b_Ar_fillI_c : ByteArray := prog_11_method_103_code
def y_Ar_fillI : MethodName := ⟨R_Ar, "fill", "([II)V"⟩
abbrev b_Ta_weighPair_c : ByteArray := prog_6_method_4_code
def y_Ta_weighPair : MethodName := ⟨R_Ta, "weighPair", "(II)V"⟩
abbrev b_Fo_worthAt_c : ByteArray := prog_3_method_15_code
def y_Fo_worthAt : MethodName := ⟨R_Fo, "worthAt", "(II)I"⟩
abbrev b_Ta_shareAmongAll_c : ByteArray := prog_6_method_5_code
def y_Ta_shareAmongAll : MethodName := ⟨R_Ta, "shareAmongAll", "(II)V"⟩
abbrev b_Fo_childAt_c : ByteArray := prog_3_method_16_code
def y_Fo_childAt : MethodName := ⟨R_Fo, "childAt", "(II)I"⟩
abbrev b_Fo_stepPlan_c : ByteArray := prog_3_method_27_code
def y_Fo_stepPlan : MethodName := ⟨R_Fo, "stepPlan", "(II[I)V"⟩
abbrev b_Fo_isPlayedFrom_c : ByteArray := prog_3_method_24_code
def y_Fo_isPlayedFrom : MethodName := ⟨R_Fo, "isPlayedFrom", "(III)Z"⟩
abbrev b_Po_findInner_c : ByteArray := prog_5_method_7_code
def y_Po_findInner : MethodName := ⟨R_Po, "findInner", "(II)I"⟩
abbrev b_Fo_planFrom_c : ByteArray := prog_3_method_26_code
def y_Fo_planFrom : MethodName := ⟨R_Fo, "planFrom", "(III)I"⟩
abbrev b_Po_findBest_c : ByteArray := prog_5_method_9_code
def y_Po_findBest : MethodName := ⟨R_Po, "findBest", "(I)V"⟩
abbrev b_Ga_otherThan_c : ByteArray := prog_1_method_24_code
def y_Ga_otherThan : MethodName := ⟨R_Ga, "otherThan", "(I)I"⟩
abbrev b_Ta_bestAgainst_c : ByteArray := prog_6_method_8_code
def y_Ta_bestAgainst : MethodName := ⟨R_Ta, "bestAgainst", "(II)I"⟩
abbrev b_Ta_value_c : ByteArray := prog_6_method_7_code
def y_Ta_value : MethodName := ⟨R_Ta, "value", "(III)I"⟩
abbrev b_Po_isPoint_c : ByteArray := prog_5_method_8_code
def y_Po_isPoint : MethodName := ⟨R_Po, "isPoint", "(II)Z"⟩
abbrev b_Po_howMany_c : ByteArray := prog_5_method_4_code
def y_Po_howMany : MethodName := ⟨R_Po, "howMany", "(Z)I"⟩
abbrev b_Ta_fillWhole_c : ByteArray := prog_6_method_2_code
def y_Ta_fillWhole : MethodName := ⟨R_Ta, "fillWhole", "()V"⟩
abbrev b_Le_playAll_c : ByteArray := prog_4_method_4_code
def y_Le_playAll : MethodName := ⟨R_Le, "playAll", "()V"⟩
abbrev b_Le_thoseThatGo_c : ByteArray := prog_4_method_5_code
def y_Le_thoseThatGo : MethodName := ⟨R_Le, "thoseThatGo", "(I)J"⟩
abbrev b_Ta_leastBetterAmong_c : ByteArray := prog_6_method_12_code
def y_Ta_leastBetterAmong : MethodName := ⟨R_Ta, "leastBetterAmong", "(IIJJ)I"⟩
abbrev b_Ta_isWorse_c : ByteArray := prog_6_method_13_code
def y_Ta_isWorse : MethodName := ⟨R_Ta, "isWorse", "(IIIJ)Z"⟩
abbrev b_Le_takeAway_c : ByteArray := prog_4_method_6_code
def y_Le_takeAway : MethodName := ⟨R_Le, "takeAway", "(IJI)V"⟩
abbrev b_Le_pairsLeft_c : ByteArray := prog_4_method_3_code
def y_Le_pairsLeft : MethodName := ⟨R_Le, "pairsLeft", "()I"⟩
abbrev b_Fo_depthOfTree_c : ByteArray := prog_3_method_20_code
def y_Fo_depthOfTree : MethodName := ⟨R_Fo, "depthOfTree", "()I"⟩
abbrev b_Ga_told_c : ByteArray := prog_1_method_8_code
def y_Ga_told : MethodName := ⟨R_Ga, "told", "(II)I"⟩
abbrev b_Ga_act_c : ByteArray := prog_1_method_9_code
def y_Ga_act : MethodName := ⟨R_Ga, "act", "(III)I"⟩
abbrev b_Ga_isPlan_c : ByteArray := prog_1_method_21_code
def y_Ga_isPlan : MethodName := ⟨R_Ga, "isPlan", "(II)Z"⟩
abbrev b_Fo_actNamed_c : ByteArray := prog_3_method_25_code
def y_Fo_actNamed : MethodName := ⟨R_Fo, "actNamed", "(III)I"⟩
abbrev b_Ga_worth_c : ByteArray := prog_1_method_10_code
def y_Ga_worth : MethodName := ⟨R_Ga, "worth", "(III)I"⟩
abbrev b_Ta_valueOfPair_c : ByteArray := prog_6_method_6_code
def y_Ta_valueOfPair : MethodName := ⟨R_Ta, "valueOfPair", "(III)I"⟩
abbrev b_Ga_answer_c : ByteArray := prog_1_method_11_code
def y_Ga_answer : MethodName := ⟨R_Ga, "answer", "(II)I"⟩
abbrev b_Ga_point_c : ByteArray := prog_1_method_12_code
def y_Ga_point : MethodName := ⟨R_Ga, "point", "(ZI)I"⟩
abbrev b_Po_pointAt_c : ByteArray := prog_5_method_5_code
def y_Po_pointAt : MethodName := ⟨R_Po, "pointAt", "(ZI)I"⟩
abbrev b_Ga_bitAt_c : ByteArray := prog_1_method_27_code
def y_Ga_bitAt : MethodName := ⟨R_Ga, "bitAt", "(JI)I"⟩
abbrev b_Ga_within_c : ByteArray := prog_1_method_13_code
def y_Ga_within : MethodName := ⟨R_Ga, "within", "(I)I"⟩
abbrev b_Ga_than_c : ByteArray := prog_1_method_14_code
def y_Ga_than : MethodName := ⟨R_Ga, "than", "(III)I"⟩
abbrev b_Ta_leastOneWith_c : ByteArray := prog_6_method_16_code
def y_Ta_leastOneWith : MethodName := ⟨R_Ta, "leastOneWith", "(II)I"⟩
abbrev b_Ta_areOne_c : ByteArray := prog_6_method_17_code
def y_Ta_areOne : MethodName := ⟨R_Ta, "areOne", "(III)Z"⟩
abbrev b_Ta_leastBetter_c : ByteArray := prog_6_method_11_code
def y_Ta_leastBetter : MethodName := ⟨R_Ta, "leastBetter", "(II)I"⟩
abbrev b_Ta_leastWeaklyBetter_c : ByteArray := prog_6_method_14_code
def y_Ta_leastWeaklyBetter : MethodName := ⟨R_Ta, "leastWeaklyBetter", "(II)I"⟩
abbrev b_Ta_isWeaklyWorse_c : ByteArray := prog_6_method_15_code
def y_Ta_isWeaklyWorse : MethodName := ⟨R_Ta, "isWeaklyWorse", "(III)Z"⟩
abbrev b_Ga_goes_c : ByteArray := prog_1_method_15_code
def y_Ga_goes : MethodName := ⟨R_Ga, "goes", "(II)I"⟩
abbrev b_Le_roundOf_c : ByteArray := prog_4_method_2_code
def y_Le_roundOf : MethodName := ⟨R_Le, "roundOf", "(II)I"⟩
abbrev b_Ga_sure_c : ByteArray := prog_1_method_16_code
def y_Ga_sure : MethodName := ⟨R_Ga, "sure", "(I)I"⟩
abbrev b_Ta_sureOf_c : ByteArray := prog_6_method_9_code
def y_Ta_sureOf : MethodName := ⟨R_Ta, "sureOf", "(I)I"⟩
abbrev b_Ta_leastOf_c : ByteArray := prog_6_method_10_code
def y_Ta_leastOf : MethodName := ⟨R_Ta, "leastOf", "(II)I"⟩
abbrev b_Ma_min_c : ByteArray := prog_10_method_69_code
def y_Ma_min : MethodName := ⟨R_Ma, "min", "(II)I"⟩
abbrev b_Ga_remembered_c : ByteArray := prog_1_method_17_code
def y_Ga_remembered : MethodName := ⟨R_Ga, "remembered", "(I)I"⟩
abbrev b_Fo_remembersAll_c : ByteArray := prog_3_method_30_code
def y_Fo_remembersAll : MethodName := ⟨R_Fo, "remembersAll", "(I)Z"⟩
abbrev b_Fo_areWaysAlike_c : ByteArray := prog_3_method_31_code
def y_Fo_areWaysAlike : MethodName := ⟨R_Fo, "areWaysAlike", "(II)Z"⟩
abbrev b_Fo_wayTo_c : ByteArray := prog_3_method_32_code
def y_Fo_wayTo : MethodName := ⟨R_Fo, "wayTo", "(II)J"⟩
abbrev b_Fo_actTo_c : ByteArray := prog_3_method_33_code
def y_Fo_actTo : MethodName := ⟨R_Fo, "actTo", "(II)I"⟩
abbrev b_Ga_taken_c : ByteArray := prog_1_method_18_code
def y_Ga_taken : MethodName := ⟨R_Ga, "taken", "(III)I"⟩
abbrev b_An_playTo_c : ByteArray := prog_2_method_7_code
def y_An_playTo : MethodName := ⟨R_An, "playTo", "(I)V"⟩
abbrev b_An_leastOfGreatest_c : ByteArray := prog_2_method_8_code
def y_An_leastOfGreatest : MethodName := ⟨R_An, "leastOfGreatest", "(I)I"⟩
abbrev b_An_addUp_c : ByteArray := prog_2_method_9_code
def y_An_addUp : MethodName := ⟨R_An, "addUp", "(II)V"⟩
abbrev b_An_timesTaken_c : ByteArray := prog_2_method_2_code
def y_An_timesTaken : MethodName := ⟨R_An, "timesTaken", "(III)I"⟩
abbrev b_Ga_bound_c : ByteArray := prog_1_method_19_code
def y_Ga_bound : MethodName := ⟨R_Ga, "bound", "(II)I"⟩
abbrev b_An_lowBehind_c : ByteArray := prog_2_method_3_code
def y_An_lowBehind : MethodName := ⟨R_An, "lowBehind", "(I)I"⟩
abbrev b_An_sumAgainst_c : ByteArray := prog_2_method_5_code
def y_An_sumAgainst : MethodName := ⟨R_An, "sumAgainst", "(II)I"⟩
abbrev b_An_highBehind_c : ByteArray := prog_2_method_4_code
def y_An_highBehind : MethodName := ⟨R_An, "highBehind", "(I)I"⟩
abbrev b_An_sumFor_c : ByteArray := prog_2_method_6_code
def y_An_sumFor : MethodName := ⟨R_An, "sumFor", "(II)I"⟩
abbrev b_Mo_init_c : ByteArray := prog_8_method_1_code
def y_Mo_init : MethodName := ⟨R_Mo, "<init>", "()V"⟩
abbrev b_Mo_clear_c : ByteArray := prog_8_method_3_code
def y_Mo_clear : MethodName := ⟨R_Mo, "clear", "()I"⟩
abbrev b_Mo_set_c : ByteArray := prog_8_method_4_code
def y_Mo_set : MethodName := ⟨R_Mo, "set", "(II)I"⟩
abbrev b_Mo_isFrom_c : ByteArray := prog_8_method_2_code
def y_Mo_isFrom : MethodName := ⟨R_Mo, "isFrom", "(III)Z"⟩
abbrev b_Mo_end_c : ByteArray := prog_8_method_6_code
def y_Mo_end : MethodName := ⟨R_Mo, "end", "(II)I"⟩
abbrev b_Mo_make_c : ByteArray := prog_8_method_5_code
def y_Mo_make : MethodName := ⟨R_Mo, "make", "(I)I"⟩
abbrev b_Mo_chance_c : ByteArray := prog_8_method_12_code
def y_Mo_chance : MethodName := ⟨R_Mo, "chance", "(III)I"⟩
abbrev b_Mo_isNode_c : ByteArray := prog_8_method_7_code
def y_Mo_isNode : MethodName := ⟨R_Mo, "isNode", "(I)Z"⟩
abbrev b_Mo_bar_c : ByteArray := prog_8_method_9_code
def y_Mo_bar : MethodName := ⟨R_Mo, "bar", "(IIIII)I"⟩
abbrev b_Mo_third_c : ByteArray := prog_8_method_8_code
def y_Mo_third : MethodName := ⟨R_Mo, "third", "(IIII)I"⟩
abbrev b_Mo_adopt_c : ByteArray := prog_8_method_10_code
def y_Mo_adopt : MethodName := ⟨R_Mo, "adopt", "(IIIIII)V"⟩
abbrev b_Mo_tooMany_c : ByteArray := prog_8_method_16_code
def y_Mo_tooMany : MethodName := ⟨R_Mo, "tooMany", "()Z"⟩
abbrev b_Mo_findTree_c : ByteArray := prog_8_method_14_code
def y_Mo_findTree : MethodName := ⟨R_Mo, "findTree", "()V"⟩
abbrev b_Mo_plansOf_c : ByteArray := prog_8_method_15_code
def y_Mo_plansOf : MethodName := ⟨R_Mo, "plansOf", "(I)I"⟩
abbrev b_Mo_undo_c : ByteArray := prog_8_method_11_code
def y_Mo_undo : MethodName := ⟨R_Mo, "undo", "(IIII)V"⟩
abbrev b_Mo_node_c : ByteArray := prog_8_method_13_code
def y_Mo_node : MethodName := ⟨R_Mo, "node", "(IIII)I"⟩
abbrev b_Mo_worth_c : ByteArray := prog_8_method_24_code
def y_Mo_worth : MethodName := ⟨R_Mo, "worth", "(III)I"⟩
abbrev b_Mo_root_c : ByteArray := prog_8_method_21_code
def y_Mo_root : MethodName := ⟨R_Mo, "root", "()I"⟩
abbrev b_Mo_workAll_c : ByteArray := prog_8_method_20_code
def y_Mo_workAll : MethodName := ⟨R_Mo, "workAll", "(I)V"⟩
abbrev b_Mo_work_c : ByteArray := prog_8_method_18_code
def y_Mo_work : MethodName := ⟨R_Mo, "work", "(III)V"⟩
abbrev b_Mo_actOf_c : ByteArray := prog_8_method_17_code
def y_Mo_actOf : MethodName := ⟨R_Mo, "actOf", "(III)I"⟩
abbrev b_Mo_mean_c : ByteArray := prog_8_method_19_code
def y_Mo_mean : MethodName := ⟨R_Mo, "mean", "(II)I"⟩
abbrev b_Mo_worthTo_c : ByteArray := prog_8_method_22_code
def y_Mo_worthTo : MethodName := ⟨R_Mo, "worthTo", "(III)I"⟩
abbrev b_Mo_act_c : ByteArray := prog_8_method_25_code
def y_Mo_act : MethodName := ⟨R_Mo, "act", "(III)I"⟩
abbrev b_Mo_answer_c : ByteArray := prog_8_method_27_code
def y_Mo_answer : MethodName := ⟨R_Mo, "answer", "(II)I"⟩
abbrev b_Mo_many_c : ByteArray := prog_8_method_23_code
def y_Mo_many : MethodName := ⟨R_Mo, "many", "(I)I"⟩
abbrev b_Mo_answerOf_c : ByteArray := prog_8_method_26_code
def y_Mo_answerOf : MethodName := ⟨R_Mo, "answerOf", "(II)I"⟩
abbrev b_Mo_point_c : ByteArray := prog_8_method_33_code
def y_Mo_point : MethodName := ⟨R_Mo, "point", "(ZI)I"⟩
abbrev b_Mo_countPoints_c : ByteArray := prog_8_method_32_code
def y_Mo_countPoints : MethodName := ⟨R_Mo, "countPoints", "(ZI)I"⟩
abbrev b_Mo_findPoints_c : ByteArray := prog_8_method_31_code
def y_Mo_findPoints : MethodName := ⟨R_Mo, "findPoints", "(Z)V"⟩
abbrev b_Mo_sift_c : ByteArray := prog_8_method_28_code
def y_Mo_sift : MethodName := ⟨R_Mo, "sift", "()V"⟩
abbrev b_Mo_isGame_c : ByteArray := prog_8_method_30_code
def y_Mo_isGame : MethodName := ⟨R_Mo, "isGame", "(I)Z"⟩
abbrev b_Mo_isBelow_c : ByteArray := prog_8_method_29_code
def y_Mo_isBelow : MethodName := ⟨R_Mo, "isBelow", "(II)Z"⟩
abbrev b_Mo_within_c : ByteArray := prog_8_method_35_code
def y_Mo_within : MethodName := ⟨R_Mo, "within", "(I)I"⟩
abbrev b_Mo_games_c : ByteArray := prog_8_method_34_code
def y_Mo_games : MethodName := ⟨R_Mo, "games", "(I)I"⟩
abbrev b_Mo_than_c : ByteArray := prog_8_method_41_code
def y_Mo_than : MethodName := ⟨R_Mo, "than", "(III)I"⟩
abbrev b_Mo_allLeft_c : ByteArray := prog_8_method_40_code
def y_Mo_allLeft : MethodName := ⟨R_Mo, "allLeft", "()V"⟩
abbrev b_Mo_isWorse_c : ByteArray := prog_8_method_37_code
def y_Mo_isWorse : MethodName := ⟨R_Mo, "isWorse", "(III)Z"⟩
abbrev b_Mo_isLeft_c : ByteArray := prog_8_method_36_code
def y_Mo_isLeft : MethodName := ⟨R_Mo, "isLeft", "(II)Z"⟩
abbrev b_Mo_isWeaker_c : ByteArray := prog_8_method_38_code
def y_Mo_isWeaker : MethodName := ⟨R_Mo, "isWeaker", "(III)Z"⟩
abbrev b_Mo_isOne_c : ByteArray := prog_8_method_39_code
def y_Mo_isOne : MethodName := ⟨R_Mo, "isOne", "(III)Z"⟩
abbrev b_Mo_goes_c : ByteArray := prog_8_method_45_code
def y_Mo_goes : MethodName := ⟨R_Mo, "goes", "(II)I"⟩
abbrev b_Mo_doRounds_c : ByteArray := prog_8_method_43_code
def y_Mo_doRounds : MethodName := ⟨R_Mo, "doRounds", "()I"⟩
abbrev b_Mo_isWorst_c : ByteArray := prog_8_method_42_code
def y_Mo_isWorst : MethodName := ⟨R_Mo, "isWorst", "(II)Z"⟩
abbrev b_Mo_leftOf_c : ByteArray := prog_8_method_44_code
def y_Mo_leftOf : MethodName := ⟨R_Mo, "leftOf", "(I)I"⟩
abbrev b_Mo_sure_c : ByteArray := prog_8_method_46_code
def y_Mo_sure : MethodName := ⟨R_Mo, "sure", "(I)I"⟩
abbrev b_Mo_remembered_c : ByteArray := prog_8_method_48_code
def y_Mo_remembered : MethodName := ⟨R_Mo, "remembered", "(I)I"⟩
abbrev b_Mo_memory_c : ByteArray := prog_8_method_47_code
def y_Mo_memory : MethodName := ⟨R_Mo, "memory", "(II)J"⟩
abbrev b_Mo_taken_c : ByteArray := prog_8_method_52_code
def y_Mo_taken : MethodName := ⟨R_Mo, "taken", "(III)I"⟩
abbrev b_Mo_answerAll_c : ByteArray := prog_8_method_51_code
def y_Mo_answerAll : MethodName := ⟨R_Mo, "answerAll", "(I)V"⟩
abbrev b_Mo_bestOf_c : ByteArray := prog_8_method_50_code
def y_Mo_bestOf : MethodName := ⟨R_Mo, "bestOf", "(I)I"⟩
abbrev b_Mo_take_c : ByteArray := prog_8_method_49_code
def y_Mo_take : MethodName := ⟨R_Mo, "take", "(II)V"⟩
abbrev b_Mo_bound_c : ByteArray := prog_8_method_53_code
def y_Mo_bound : MethodName := ⟨R_Mo, "bound", "(II)I"⟩
abbrev b_Mo_told_c : ByteArray := prog_8_method_54_code
def y_Mo_told : MethodName := ⟨R_Mo, "told", "(II)I"⟩
abbrev b_Mo_count_c : ByteArray := prog_8_method_55_code
def y_Mo_count : MethodName := ⟨R_Mo, "count", "(I)I"⟩
abbrev b_La_law_c : ByteArray := code
def y_La_law : MethodName := ⟨R_La, "law", "([I)Z"⟩
end
section
def gN : Nat := 67
def kI : Nat → Bool := fun k => match k with
  | 2 => true
  | 3 => true
  | 4 => true
  | 5 => true
  | 6 => true
  | 7 => true
  | 8 => true
  | 9 => true
  | 10 => true
  | 12 => true
  | 13 => true
  | 15 => true
  | 17 => true
  | 19 => true
  | 20 => true
  | 21 => true
  | 22 => true
  | 27 => true
  | 29 => true
  | 30 => true
  | 32 => true
  | 33 => true
  | 36 => true
  | 37 => true
  | 41 => true
  | 42 => true
  | 44 => true
  | 45 => true
  | 47 => true
  | 48 => true
  | 49 => true
  | 50 => true
  | 51 => true
  | 52 => true
  | 53 => true
  | 54 => true
  | 55 => true
  | 58 => true
  | 59 => true
  | 60 => true
  | 63 => true
  | 65 => true
  | 66 => true
  | _ => false
def kJ : Nat → Bool := fun k => match k with
  | 11 => true
  | 14 => true
  | 25 => true
  | 26 => true
  | 38 => true
  | _ => false
def kZ : Nat → Bool := fun k => match k with
  | 56 => true
  | 57 => true
  | 61 => true
  | 62 => true
  | 64 => true
  | _ => false
def kLen : Nat → Nat := fun k => match k with
  | 2 => 40
  | 3 => 40
  | 4 => 40
  | 5 => 10
  | 6 => 80
  | 7 => 120
  | 8 => 40
  | 9 => 40
  | 10 => 40
  | 11 => 40
  | 12 => 40
  | 13 => 10
  | 14 => 10
  | 15 => 3
  | 17 => 2
  | 19 => 4096
  | 20 => 4096
  | 21 => 10
  | 22 => 40
  | 25 => 64
  | 26 => 64
  | 27 => 2
  | 29 => 64
  | 30 => 64
  | 32 => 64
  | 33 => 64
  | 36 => 64
  | 37 => 64
  | 38 => 2
  | 41 => 200
  | 42 => 200
  | 44 => 64
  | 45 => 64
  | 47 => 40
  | 48 => 40
  | 49 => 80
  | 50 => 120
  | 51 => 40
  | 52 => 40
  | 53 => 40
  | 54 => 10
  | 55 => 10
  | 56 => 40
  | 57 => 10
  | 58 => 80
  | 59 => 8192
  | 60 => 10
  | 61 => 4096
  | 62 => 128
  | 63 => 128
  | 64 => 128
  | 65 => 128
  | 66 => 128
  | _ => 0
def fl_Ga (a : Nat → Nat) (f : Nat → Int32) : List Value := [.ref (a 1), .ref (a 16), .ref (a 23), .ref (a 34), .ref (a 39)]
def fl_Fo (a : Nat → Nat) (f : Nat → Int32) : List Value := [.int (f 0), .int (f 1), .int (f 2), .ref (a 2), .ref (a 3), .ref (a 4), .ref (a 5), .ref (a 6), .ref (a 7), .ref (a 8), .ref (a 9), .ref (a 10), .ref (a 11), .ref (a 12), .ref (a 13), .ref (a 14), .ref (a 15)]
def fl_Ta (a : Nat → Nat) (f : Nat → Int32) : List Value := [.ref (a 17), .ref (a 1), .ref (a 18), .ref (a 21), .ref (a 22), .int (f 5), .int (f 6)]
def fl_Po (a : Nat → Nat) (f : Nat → Int32) : List Value := [.ref (a 1), .ref (a 16), .ref (a 24), .ref (a 27), .ref (a 28), .ref (a 31)]
def fl_Le (a : Nat → Nat) (f : Nat → Int32) : List Value := [.ref (a 1), .ref (a 16), .ref (a 35), .ref (a 38), .int (f 4)]
def fl_An (a : Nat → Nat) (f : Nat → Int32) : List Value := [.ref (a 1), .ref (a 16), .ref (a 40), .ref (a 43), .int (f 4), .int (f 5)]
def fl_Mo (a : Nat → Nat) (f : Nat → Int32) : List Value := [.int (f 0), .int (f 1), .ref (a 47), .ref (a 48), .ref (a 49), .ref (a 50), .ref (a 51), .ref (a 52), .ref (a 53), .ref (a 54), .ref (a 55), .ref (a 56), .ref (a 57), .ref (a 58), .ref (a 59), .ref (a 60), .int (f 16), .int (f 17), .ref (a 61), .int (f 19), .int (f 20), .ref (a 62), .ref (a 63), .ref (a 64), .ref (a 65), .ref (a 66)]
def gObj (z : Nat → ClassId) (a : Nat → Nat) (f : Nat → Int32) : Nat → va_E := fun k => match k with
  | 0 => .inr (0, fl_Ga a f)
  | 1 => .inr (1, fl_Fo a f)
  | 16 => .inr (2, fl_Ta a f)
  | 18 => .inl (z 2, 2, .inr (.inr (.inr (.inr (fun j => if j < 2 then some (a (18 + 1 + j)) else none)))))
  | 23 => .inr (3, fl_Po a f)
  | 24 => .inl (z 3, 2, .inr (.inr (.inr (.inr (fun j => if j < 2 then some (a (24 + 1 + j)) else none)))))
  | 28 => .inl (z 2, 2, .inr (.inr (.inr (.inr (fun j => if j < 2 then some (a (28 + 1 + j)) else none)))))
  | 31 => .inl (z 2, 2, .inr (.inr (.inr (.inr (fun j => if j < 2 then some (a (31 + 1 + j)) else none)))))
  | 34 => .inr (4, fl_Le a f)
  | 35 => .inl (z 2, 2, .inr (.inr (.inr (.inr (fun j => if j < 2 then some (a (35 + 1 + j)) else none)))))
  | 39 => .inr (5, fl_An a f)
  | 40 => .inl (z 2, 2, .inr (.inr (.inr (.inr (fun j => if j < 2 then some (a (40 + 1 + j)) else none)))))
  | 43 => .inl (z 2, 2, .inr (.inr (.inr (.inr (fun j => if j < 2 then some (a (43 + 1 + j)) else none)))))
  | 46 => .inr (6, fl_Mo a f)
  | _ => .inr (0, [])
abbrev gCls : List vw_C := [(R_Ga, T_Ga, 5), (R_Fo, T_Fo, 17), (R_Ta, T_Ta, 7), (R_Po, T_Po, 6), (R_Le, T_Le, 5), (R_An, T_An, 6), (R_Mo, T_Mo, 26)]
def BIG : List Cond := lw_tbl.filter goodWord
theorem gGood : GoodIn BIG BIG := fun w h => ⟨h, good_of_word (List.mem_filter.mp h).2⟩
def gNwF : List (String × Nat × String × String × String × String) := []
def gNwM : List (String × Nat × MethodName × String) := [(R_Ga, 9, y_Fo_init, "GameRows"), (R_Fo, 106, y_Ga_hasBit, "GameRows"), (R_Le, 55, y_Ga_firstBits, "GameRows"), (R_Le, 66, y_Ga_hasBit, "GameRows"), (R_Le, 70, y_Ga_otherThan, "GameRows"), (R_Po, 50, y_Ga_firstBits, "GameRows"), (R_Po, 71, y_Ga_hasBit, "GameRows"), (R_Po, 85, y_Ga_bitAt, "GameRows"), (R_Po, 118, y_Ga_otherThan, "GameRows"), (R_Ta, 98, y_Ga_otherThan, "GameRows"), (R_Ta, 105, y_Ga_firstBits, "GameRows"), (R_Ta, 113, y_Ga_hasBit, "GameRows")]
end
section
/-! MY LAYER: one world of gN cells at addresses a k; a state is what the int cells and the long cells hold; a judgement G over pc, locals, stack, state. -/
/-- a state: ints by cell and place (array elements, or an object's int fields by slot), longs likewise -/
abbrev gS : Type := (Nat → Nat → Int32) × (Nat → Nat → Int64)
def gI (σ : gS) (k i : Nat) : Int32 := σ.1 k i
def gL (σ : gS) (k i : Nat) : Int64 := σ.2 k i
def sI (σ : gS) (k i : Nat) (v : Int32) : gS := (va_up σ.1 k (upd (σ.1 k) i v), σ.2)
def sL (σ : gS) (k i : Nat) (v : Int64) : gS := (σ.1, va_up σ.2 k (vp_updL (σ.2 k) i v))
/-- what a cell is: an int array, a long array, or what gObj says -/
def gCel (z : Nat → ClassId) (a : Nat → Nat) (f : Nat → Int32) (g : Nat → Int64) (k : Nat) : va_E :=
  if kI k = true then .inl (z 0, kLen k, .inl f) else if kJ k = true then .inl (z 1, kLen k, .inr (.inl g)) else if kZ k = true then .inl (z 4, kLen k, .inl f) else gObj z a f k
def gW (z : Nat → ClassId) (a : Nat → Nat) (σ : gS) : va_W := (List.range gN).map fun k => (a k, gCel z a (σ.1 k) (σ.2 k) k)
theorem gW_at {z : Nat → ClassId} {a : Nat → Nat} (σ : gS) {k : Nat} (hk : k < gN) : (gW z a σ)[k]? = some (a k, gCel z a (σ.1 k) (σ.2 k) k) := by
  unfold gW
  rw [List.getElem?_map, List.getElem?_range hk]
  rfl
theorem gW_len {z : Nat → ClassId} {a : Nat → Nat} (σ : gS) : (gW z a σ).length = gN := by simp [gW]
theorem gW_set {z : Nat → ClassId} {a : Nat → Nat} {σ σ' : gS} {k : Nat} (hk : k < gN) {e : va_E} (h1 : ∀ j, j ≠ k → σ'.1 j = σ.1 j) (h2 : ∀ j, j ≠ k → σ'.2 j = σ.2 j) (he : gCel z a (σ'.1 k) (σ'.2 k) k = e) : (gW z a σ).set k (a k, e) = gW z a σ' := by
  apply List.ext_getElem?
  intro j
  by_cases hj : j = k
  · subst hj
    rw [List.getElem?_set_self (by rw [gW_len]; exact hk), gW_at σ' hk, he]
  · rw [List.getElem?_set_ne (Ne.symm hj)]
    by_cases hn : j < gN
    · rw [gW_at σ hn, gW_at σ' hn, h1 j hj, h2 j hj]
    · rw [List.getElem?_eq_none (by rw [gW_len]; omega), List.getElem?_eq_none (by rw [gW_len]; omega)]
theorem gCel_I {z : Nat → ClassId} {a : Nat → Nat} {f : Nat → Int32} {g : Nat → Int64} {k : Nat} (h : kI k = true) : gCel z a f g k = .inl (z 0, kLen k, .inl f) := if_pos h
theorem gCel_J {z : Nat → ClassId} {a : Nat → Nat} {f : Nat → Int32} {g : Nat → Int64} {k : Nat} (h0 : kI k = false) (h : kJ k = true) : gCel z a f g k = .inl (z 1, kLen k, .inr (.inl g)) := by
  unfold gCel
  rw [if_neg (by rw [h0]; decide), if_pos h]
theorem gCel_Z {z : Nat → ClassId} {a : Nat → Nat} {f : Nat → Int32} {g : Nat → Int64} {k : Nat} (h0 : kI k = false) (h1 : kJ k = false) (h : kZ k = true) : gCel z a f g k = .inl (z 4, kLen k, .inl f) := by
  unfold gCel
  rw [if_neg (by rw [h0]; decide), if_neg (by rw [h1]; decide), if_pos h]
theorem gW_sI {z : Nat → ClassId} {a : Nat → Nat} {σ : gS} {k i : Nat} {v : Int32} {e : va_E} (hk : k < gN) (he : gCel z a (upd (σ.1 k) i v) (σ.2 k) k = e) : (gW z a σ).set k (a k, e) = gW z a (sI σ k i v) := by
  refine gW_set hk (fun j hj => ?_) (fun j hj => rfl) ?_
  · exact va_up_ne _ _ hj
  · rw [← he]
    show gCel z a (va_up σ.1 k (upd (σ.1 k) i v) k) (σ.2 k) k = _
    rw [va_up_self]
theorem gW_sL {z : Nat → ClassId} {a : Nat → Nat} {σ : gS} {k i : Nat} {v : Int64} {e : va_E} (hk : k < gN) (he : gCel z a (σ.1 k) (vp_updL (σ.2 k) i v) k = e) : (gW z a σ).set k (a k, e) = gW z a (sL σ k i v) := by
  refine gW_set hk (fun j hj => rfl) (fun j hj => ?_) ?_
  · exact va_up_ne _ _ hj
  · rw [← he]
    show gCel z a (σ.1 k) (va_up σ.2 k (vp_updL (σ.2 k) i v) k) k = _
    rw [va_up_self]
theorem gW_fst {z : Nat → ClassId} {a : Nat → Nat} {σ : gS} {k : Nat} {q : Nat × va_E} (h : (gW z a σ)[k]? = some q) : k < gN ∧ q.1 = a k := by
  have hk : k < gN := by
    have := (List.getElem?_eq_some_iff.mp h).1
    rwa [gW_len] at this
  rw [gW_at σ hk] at h
  cases h
  exact ⟨hk, rfl⟩
theorem gW_D {z : Nat → ClassId} {a : Nat → Nat} {A : Nat → Prop} {σ : gS} (σ' : gS) (h : va_D A (gW z a σ)) : va_D A (gW z a σ') := by
  refine ⟨fun i j x y hi hj hxy => ?_, fun k q hk => ?_⟩
  · obtain ⟨i1, i2⟩ := gW_fst hi
    obtain ⟨j1, j2⟩ := gW_fst hj
    exact h.1 i j _ _ (gW_at σ i1) (gW_at σ j1) (i2.symm.trans (hxy.trans j2))
  · obtain ⟨k1, k2⟩ := gW_fst hk
    rw [k2]
    exact h.2 k _ (gW_at σ k1)
theorem gW_A {z : Nat → ClassId} {a : Nat → Nat} {σ : gS} (σ' : gS) {sz q : Nat} (h : va_A (gW z a σ) sz q) : va_A (gW z a σ') sz q := by
  rcases h with ⟨k, e, h⟩ | h
  · obtain ⟨k1, k2⟩ := gW_fst h
    exact Or.inl ⟨k, _, by rw [show q = a k from k2]; exact gW_at σ' k1⟩
  · exact Or.inr h
/-- checks, names, loops with fuel -/
def ck {α : Type} (b : Bool) (x : Option α) : Option α := if b = true then x else none
def bnd {α β : Type} (x : α) (f : α → β) : β := f x
theorem ck_some {α : Type} {b : Bool} {x : Option α} {r : α} (h : ck b x = some r) : b = true ∧ x = some r := by
  unfold ck at h
  by_cases hb : b = true
  · rw [if_pos hb] at h; exact ⟨hb, h⟩
  · rw [if_neg hb] at h; cases h
theorem bnd_some {α β : Type} {x : α} {f : α → Option β} {r : β} (h : bnd x f = some r) : ∃ y, y = x ∧ f y = some r := ⟨x, rfl, h⟩
theorem bind_some {α β : Type} {x : Option α} {f : α → Option β} {r : β} (h : x.bind f = some r) : ∃ y, x = some y ∧ f y = some r := by
  cases x with
  | none => cases h
  | some y => exact ⟨y, rfl, h⟩
def gF : Nat := 1000
def lpF {α ρ : Type} (body : (α → Option ρ) → α → Option ρ) : Nat → α → Option ρ
  | 0, _ => none
  | n + 1, x => body (lpF body n) x
theorem lpF_ind {α ρ : Type} {body : (α → Option ρ) → α → Option ρ} {r : ρ} {P : α → Prop} (hb : ∀ k, (∀ x, k x = some r → P x) → ∀ x, body k x = some r → P x) : ∀ n x, lpF body n x = some r → P x
  | 0, _, h => by cases h
  | n + 1, x, h => hb (lpF body n) (fun y hy => lpF_ind hb n y hy) x h
/-- an index in range -/
def inb (i : Int32) (n : Nat) : Bool := decide (0 ≤ i.toInt) && decide (i.toInt < (n : Int))
theorem inb_in {i : Int32} {n : Nat} (h : inb i n = true) : vp_in i n := by
  simp only [inb, Bool.and_eq_true, decide_eq_true_eq] at h
  exact vp_in_iff.mpr h
def oaI (k : Nat) : Bool := kI k && decide (k < gN)
def oaJ (k : Nat) : Bool := (!kI k) && kJ k && decide (k < gN)
def oaZ (k : Nat) : Bool := (!kI k) && (!kJ k) && kZ k && decide (k < gN)
def okI (k : Nat) (i : Int32) : Bool := oaI k && inb i (kLen k)
def okJ (k : Nat) (i : Int32) : Bool := oaJ k && inb i (kLen k)
theorem oaI_k {k : Nat} (h : oaI k = true) : kI k = true := (Bool.and_eq_true_iff.mp h).1
theorem oaI_n {k : Nat} (h : oaI k = true) : k < gN := of_decide_eq_true (Bool.and_eq_true_iff.mp h).2
theorem oaJ_0 {k : Nat} (h : oaJ k = true) : kI k = false := by
  have := (Bool.and_eq_true_iff.mp (Bool.and_eq_true_iff.mp h).1).1
  simpa using this
theorem oaJ_k {k : Nat} (h : oaJ k = true) : kJ k = true := (Bool.and_eq_true_iff.mp (Bool.and_eq_true_iff.mp h).1).2
theorem oaJ_n {k : Nat} (h : oaJ k = true) : k < gN := of_decide_eq_true (Bool.and_eq_true_iff.mp h).2
theorem okI_k {k : Nat} {i : Int32} (h : okI k i = true) : kI k = true := oaI_k (Bool.and_eq_true_iff.mp h).1
theorem okI_n {k : Nat} {i : Int32} (h : okI k i = true) : k < gN := oaI_n (Bool.and_eq_true_iff.mp h).1
theorem okI_i {k : Nat} {i : Int32} (h : okI k i = true) : inb i (kLen k) = true := (Bool.and_eq_true_iff.mp h).2
theorem okJ_0 {k : Nat} {i : Int32} (h : okJ k i = true) : kI k = false := oaJ_0 (Bool.and_eq_true_iff.mp h).1
theorem okJ_k {k : Nat} {i : Int32} (h : okJ k i = true) : kJ k = true := oaJ_k (Bool.and_eq_true_iff.mp h).1
theorem okJ_n {k : Nat} {i : Int32} (h : okJ k i = true) : k < gN := oaJ_n (Bool.and_eq_true_iff.mp h).1
theorem okJ_i {k : Nat} {i : Int32} (h : okJ k i = true) : inb i (kLen k) = true := (Bool.and_eq_true_iff.mp h).2
def okZ (k : Nat) (i : Int32) : Bool := oaZ k && inb i (kLen k)
theorem okZ_all {k : Nat} {i : Int32} (h : okZ k i = true) : kI k = false ∧ kJ k = false ∧ kZ k = true ∧ k < gN ∧ inb i (kLen k) = true := by
  simp only [okZ, oaZ, Bool.and_eq_true, Bool.not_eq_true', decide_eq_true_eq] at h
  exact ⟨h.1.1.1.1, h.1.1.1.2, h.1.1.2, h.1.2, h.2⟩
def nz (x : Int32) : Bool := !(decide (x = 0))
theorem nz_ne {x : Int32} (h : nz x = true) : ¬ x = 0 := by simpa [nz] using h
def isB (x : Int32) : Bool := decide (x = 0) || decide (x = 1)
theorem isB_n {x : Int32} (h : isB x = true) : narrow .boolean (.int x) = .int x := by
  simp only [isB, Bool.or_eq_true, decide_eq_true_eq] at h
  rcases h with rfl | rfl <;> decide +kernel
/-- the machine's fixed parts: (program, launch, env, room), (start, method, args, below), (method, code, goal, locals), (classes, array classes, addresses, what may change) -/
abbrev gX : Type := (Program × Launch × Env × Room) × (State × MethodId × Array Value × List Frame) × (Method × Code × (State → Prop) × Nat) × (va_G × (Nat → ClassId) × (Nat → Nat) × (Nat → Prop))
abbrev gA (X : gX) : Nat → Nat := X.2.2.2.2.2.1
def gTy (z : Nat → ClassId) : List (ClassId × FieldType) := [(z 0, .int), (z 1, .long), (z 2, .array .int), (z 3, .array .long), (z 4, .boolean)]
def gNw (U : State) : Prop := (∀ q ∈ gNwF, va_Nw (.fieldLinkNest q.1 q.2.1 q.2.2.1 q.2.2.2.1 q.2.2.2.2.1 q.2.2.2.2.2) U) ∧ ∀ q ∈ gNwM, va_Nw (.methodLinkNest q.1 q.2.1 q.2.2.1 q.2.2.2) U
theorem gNw_warm {s U : State} (hW : s.WarmedH U.vm) (h : gNw s) : gNw U := ⟨fun q hq => va_Nw.warmF hW (h.1 q hq), fun q hq => va_Nw.warmM hW (h.2 q hq)⟩
theorem gNw_same {s U : State} (hv : s.vm = U.vm) (h : gNw s) : gNw U := ⟨fun q hq => va_Nw.same rfl hv (h.1 q hq), fun q hq => va_Nw.same rfl hv (h.2 q hq)⟩
/-- what is known all through a method's walk -/
def gC (X : gX) (cc : ByteArray) (own : String) (nL fr lo : Nat) : Prop :=
  X.1.1.tables.exec = Jvm.exec ∧ X.2.2.1.2.1.code = cc ∧ X.2.2.1.2.1.maxLocals = nL ∧ X.2.2.1.2.2.2 = nL ∧ X.2.1.1.vm.findClass own = some X.2.1.2.1.cls ∧ (∀ w ∈ BIG, w.before X.2.1.2.2.1 X.2.1.1 = true) ∧
  va_K X.2.2.2.1 gCls (gTy X.2.2.2.2.1) X.2.1.1 ∧ gNw X.2.1.1 ∧ (∀ σ, va_D X.2.2.2.2.2.2 (gW X.2.2.2.2.1 X.2.2.2.2.2.1 σ)) ∧ (∀ q, X.2.1.1.heap.size ≤ q → X.2.2.2.2.2.2 q) ∧ X.1.2.2.2 = { frames := fr, cells := 0, slots := 0, locals := lo }
def G (X : gX) (pc : Nat) (lv : List (Nat × Value)) (st : List Value) (σ : gS) : Prop :=
  ∀ (H : Heap) (locs : List Loc) (ls : Array Slot), va_P X.2.2.2.1 gCls (gW X.2.2.2.2.1 X.2.2.2.2.2.1 σ) H → va_S X.2.2.2.2.2.2 X.2.1.1.heap H locs → lv_has ls X.2.2.1.2.2.2 lv →
    W X.1.1 X.1.2.1 X.1.2.2.1 X.1.2.2.2 X.2.1.1 X.2.1.2.1 X.2.1.2.2.1 X.2.1.2.2.2 X.2.2.1.1 X.2.2.1.2.1 H locs 0 0 X.2.2.1.2.2.1 (F0 X.2.1.2.1 pc ls st)
section GR
variable {X : gX} {cc : ByteArray} {own : String} {nL fr lo pc : Nat} {lv : List (Nat × Value)} {st : List Value} {σ : gS}
theorem r_sub (ks : List Nat) {lv' : List (Nat × Value)} (hl : lv_pick lv ks = lv') (k : G X pc lv' st σ) : G X pc lv st σ := fun H locs ls hP hS h => k H locs ls hP hS (lv_sub h ks hl)
theorem r_iconst (C : gC X cc own nL fr lo) {n : Int} {v : Int32} (d : decode cc pc = .ok (.iconst n, 1)) (hv : Int32.ofInt n = v) (k : G X (pc + 1) lv (.int v :: st) σ) : G X pc lv st σ := fun H locs ls hP hS h => lv_iconst C.1 C.2.1 d hv (k H locs ls hP hS h)
theorem r_bipush (C : gC X cc own nL fr lo) {n : Int} {v : Int32} (d : decode cc pc = .ok (.bipush n, 2)) (hv : (Int8.ofInt n).toInt32 = v) (k : G X (pc + 2) lv (.int v :: st) σ) : G X pc lv st σ := fun H locs ls hP hS h => lv_bipush C.1 C.2.1 d hv (k H locs ls hP hS h)
theorem r_sipush (C : gC X cc own nL fr lo) {n : Int} {v : Int32} (d : decode cc pc = .ok (.sipush n, 3)) (hv : (Int16.ofInt n).toInt32 = v) (k : G X (pc + 3) lv (.int v :: st) σ) : G X pc lv st σ := fun H locs ls hP hS h => lv_sipush C.1 C.2.1 d hv (k H locs ls hP hS h)
theorem r_lconst (C : gC X cc own nL fr lo) {n : Fin 2} {v : Int64} (d : decode cc pc = .ok (.lconst n, 1)) (hv : Int64.ofNat (n : Nat) = v) (k : G X (pc + 1) lv (.long v :: st) σ) : G X pc lv st σ := fun H locs ls hP hS h => lv_lconst C.1 C.2.1 d hv (k H locs ls hP hS h)
theorem r_ldc (C : gC X cc own nL fr lo) {index : Nat} {v : Int32} (w : Cond.constant own index v ∈ BIG) (d : decode cc pc = .ok (.ldc index, 2)) (k : G X (pc + 2) lv (.int v :: st) σ) : G X pc lv st σ := fun H locs ls hP hS h => lv_ldc C.1 C.2.1 C.2.2.2.2.1 (C.2.2.2.2.2.1 _ w) d (k H locs ls hP hS h)
theorem r_ldc2 (C : gC X cc own nL fr lo) {index : Nat} {v : Int64} (w : Cond.constantLong own index v ∈ BIG) (d : decode cc pc = .ok (.ldc2_w index, 3)) (k : G X (pc + 3) lv (.long v :: st) σ) : G X pc lv st σ := fun H locs ls hP hS h => lv_ldc2 C.1 C.2.1 C.2.2.2.2.1 (C.2.2.2.2.2.1 _ w) d (k H locs ls hP hS h)
theorem r_iload_n (C : gC X cc own nL fr lo) (q : Nat) {n : Fin 4} {i : Nat} {x : Int32} (d : decode cc pc = .ok (.iload_n n, 1)) (hi : (n : Nat) = i) (hq : lv[q]? = some (i, .int x)) (k : G X (pc + 1) lv (.int x :: st) σ) : G X pc lv st σ := fun H locs ls hP hS h => lv_iload_n C.1 C.2.1 d hi (lv_at h q hq) (k H locs ls hP hS h)
theorem r_iload (C : gC X cc own nL fr lo) (q : Nat) {i : Nat} {x : Int32} (d : decode cc pc = .ok (.iload i, 2)) (hq : lv[q]? = some (i, .int x)) (k : G X (pc + 2) lv (.int x :: st) σ) : G X pc lv st σ := fun H locs ls hP hS h => lv_iload C.1 C.2.1 d (lv_at h q hq) (k H locs ls hP hS h)
theorem r_lload_n (C : gC X cc own nL fr lo) (q : Nat) {n : Fin 4} {i : Nat} {x : Int64} (d : decode cc pc = .ok (.lload_n n, 1)) (hi : (n : Nat) = i) (hq : lv[q]? = some (i, .long x)) (k : G X (pc + 1) lv (.long x :: st) σ) : G X pc lv st σ := fun H locs ls hP hS h => lv_lload_n C.1 C.2.1 d hi (lv_at h q hq) (k H locs ls hP hS h)
theorem r_lload (C : gC X cc own nL fr lo) (q : Nat) {i : Nat} {x : Int64} (d : decode cc pc = .ok (.lload i, 2)) (hq : lv[q]? = some (i, .long x)) (k : G X (pc + 2) lv (.long x :: st) σ) : G X pc lv st σ := fun H locs ls hP hS h => lv_lload C.1 C.2.1 d (lv_at h q hq) (k H locs ls hP hS h)
theorem r_aload_n (C : gC X cc own nL fr lo) (q : Nat) {n : Fin 4} {i x : Nat} (d : decode cc pc = .ok (.aload_n n, 1)) (hi : (n : Nat) = i) (hq : lv[q]? = some (i, .ref x)) (k : G X (pc + 1) lv (.ref x :: st) σ) : G X pc lv st σ := fun H locs ls hP hS h => lv_aload_n C.1 C.2.1 d hi (lv_at h q hq) (k H locs ls hP hS h)
theorem r_aload (C : gC X cc own nL fr lo) (q : Nat) {i x : Nat} (d : decode cc pc = .ok (.aload i, 2)) (hq : lv[q]? = some (i, .ref x)) (k : G X (pc + 2) lv (.ref x :: st) σ) : G X pc lv st σ := fun H locs ls hP hS h => lv_aload C.1 C.2.1 d (lv_at h q hq) (k H locs ls hP hS h)
theorem r_istore_n (C : gC X cc own nL fr lo) {n : Fin 4} {i : Nat} {x y : Int32} {lv' : List (Nat × Value)} (d : decode cc pc = .ok (.istore_n n, 1)) (hi : (n : Nat) = i) (hn : i < nL) (e : y = x) (hl : (i, Value.int y) :: lv.filter (fun q => !(q.1 == i) && !(q.1 + 1 == i && q.2.category == 2)) = lv') (k : G X (pc + 1) lv' st σ) : G X pc lv (.int x :: st) σ := by
  subst e
  exact fun H locs ls hP hS h => lv_istore_n C.1 C.2.1 d hi h (by rw [C.2.2.2.1]; exact hn) hl (fun ls' h' => k H locs ls' hP hS h')
theorem r_istore (C : gC X cc own nL fr lo) {i : Nat} {x y : Int32} {lv' : List (Nat × Value)} (d : decode cc pc = .ok (.istore i, 2)) (hn : i < nL) (e : y = x) (hl : (i, Value.int y) :: lv.filter (fun q => !(q.1 == i) && !(q.1 + 1 == i && q.2.category == 2)) = lv') (k : G X (pc + 2) lv' st σ) : G X pc lv (.int x :: st) σ := by
  subst e
  exact fun H locs ls hP hS h => lv_istore C.1 C.2.1 d h (by rw [C.2.2.2.1]; exact hn) hl (fun ls' h' => k H locs ls' hP hS h')
theorem r_lstore_n (C : gC X cc own nL fr lo) {n : Fin 4} {i : Nat} {x y : Int64} {lv' : List (Nat × Value)} (d : decode cc pc = .ok (.lstore_n n, 1)) (hi : (n : Nat) = i) (hn : i + 1 < nL) (e : y = x) (hl : (i, Value.long y) :: lv.filter (fun q => !(q.1 == i) && (!(q.1 == i + 1) && !(q.1 + 1 == i && q.2.category == 2))) = lv') (k : G X (pc + 1) lv' st σ) : G X pc lv (.long x :: st) σ := by
  subst e
  exact fun H locs ls hP hS h => lv_lstore_n C.1 C.2.1 d hi h (by rw [C.2.2.2.1]; exact hn) hl (fun ls' h' => k H locs ls' hP hS h')
theorem r_lstore (C : gC X cc own nL fr lo) {i : Nat} {x y : Int64} {lv' : List (Nat × Value)} (d : decode cc pc = .ok (.lstore i, 2)) (hn : i + 1 < nL) (e : y = x) (hl : (i, Value.long y) :: lv.filter (fun q => !(q.1 == i) && (!(q.1 == i + 1) && !(q.1 + 1 == i && q.2.category == 2))) = lv') (k : G X (pc + 2) lv' st σ) : G X pc lv (.long x :: st) σ := by
  subst e
  exact fun H locs ls hP hS h => lv_lstore C.1 C.2.1 d h (by rw [C.2.2.2.1]; exact hn) hl (fun ls' h' => k H locs ls' hP hS h')
theorem r_astore_n (C : gC X cc own nL fr lo) {n : Fin 4} {i x : Nat} {lv' : List (Nat × Value)} (d : decode cc pc = .ok (.astore_n n, 1)) (hi : (n : Nat) = i) (hn : i < nL) (hl : (i, Value.ref x) :: lv.filter (fun q => !(q.1 == i) && !(q.1 + 1 == i && q.2.category == 2)) = lv') (k : G X (pc + 1) lv' st σ) : G X pc lv (.ref x :: st) σ :=
  fun H locs ls hP hS h => lv_astore_n C.1 C.2.1 d hi h (by rw [C.2.2.2.1]; exact hn) hl (fun ls' h' => k H locs ls' hP hS h')
theorem r_astore (C : gC X cc own nL fr lo) {i x : Nat} {lv' : List (Nat × Value)} (d : decode cc pc = .ok (.astore i, 2)) (hn : i < nL) (hl : (i, Value.ref x) :: lv.filter (fun q => !(q.1 == i) && !(q.1 + 1 == i && q.2.category == 2)) = lv') (k : G X (pc + 2) lv' st σ) : G X pc lv (.ref x :: st) σ :=
  fun H locs ls hP hS h => lv_astore C.1 C.2.1 d h (by rw [C.2.2.2.1]; exact hn) hl (fun ls' h' => k H locs ls' hP hS h')
theorem r_iinc (C : gC X cc own nL fr lo) (q : Nat) {i : Nat} {n : Int} {x y : Int32} {lv' : List (Nat × Value)} (d : decode cc pc = .ok (.iinc i n, 3)) (hq : lv[q]? = some (i, .int x)) (e : y = x + Int32.ofInt n) (hn : i < nL) (hl : (i, Value.int y) :: lv.filter (fun q => !(q.1 == i) && !(q.1 + 1 == i && q.2.category == 2)) = lv') (k : G X (pc + 3) lv' st σ) : G X pc lv st σ :=
  fun H locs ls hP hS h => lv_iinc C.1 C.2.1 d h hq e.symm (by rw [C.2.2.2.1]; exact hn) hl (fun ls' h' => k H locs ls' hP hS h')
theorem r_iadd (C : gC X cc own nL fr lo) {x y : Int32} (d : decode cc pc = .ok (.iadd, 1)) (k : G X (pc + 1) lv (.int (x + y) :: st) σ) : G X pc lv (.int y :: .int x :: st) σ := fun H locs ls hP hS h => lv_iadd C.1 C.2.1 d (k H locs ls hP hS h)
theorem r_isub (C : gC X cc own nL fr lo) {x y : Int32} (d : decode cc pc = .ok (.isub, 1)) (k : G X (pc + 1) lv (.int (x - y) :: st) σ) : G X pc lv (.int y :: .int x :: st) σ := fun H locs ls hP hS h => lv_isub C.1 C.2.1 d (k H locs ls hP hS h)
theorem r_imul (C : gC X cc own nL fr lo) {x y : Int32} (d : decode cc pc = .ok (.imul, 1)) (k : G X (pc + 1) lv (.int (x * y) :: st) σ) : G X pc lv (.int y :: .int x :: st) σ := fun H locs ls hP hS h => lv_imul C.1 C.2.1 d (k H locs ls hP hS h)
theorem r_iand (C : gC X cc own nL fr lo) {x y : Int32} (d : decode cc pc = .ok (.iand, 1)) (k : G X (pc + 1) lv (.int (x &&& y) :: st) σ) : G X pc lv (.int y :: .int x :: st) σ := fun H locs ls hP hS h => lv_iand C.1 C.2.1 d (k H locs ls hP hS h)
theorem r_ior (C : gC X cc own nL fr lo) {x y : Int32} (d : decode cc pc = .ok (.ior, 1)) (k : G X (pc + 1) lv (.int (x ||| y) :: st) σ) : G X pc lv (.int y :: .int x :: st) σ := fun H locs ls hP hS h => lv_ior C.1 C.2.1 d (k H locs ls hP hS h)
theorem r_ixor (C : gC X cc own nL fr lo) {x y : Int32} (d : decode cc pc = .ok (.ixor, 1)) (k : G X (pc + 1) lv (.int (x ^^^ y) :: st) σ) : G X pc lv (.int y :: .int x :: st) σ := fun H locs ls hP hS h => lv_ixor C.1 C.2.1 d (k H locs ls hP hS h)
theorem r_idiv (C : gC X cc own nL fr lo) {x y : Int32} (d : decode cc pc = .ok (.idiv, 1)) (hy : nz y = true) (k : G X (pc + 1) lv (.int (x / y) :: st) σ) : G X pc lv (.int y :: .int x :: st) σ := fun H locs ls hP hS h => lv_idiv C.1 C.2.1 d (nz_ne hy) (k H locs ls hP hS h)
theorem r_irem (C : gC X cc own nL fr lo) {x y : Int32} (d : decode cc pc = .ok (.irem, 1)) (hy : nz y = true) (k : G X (pc + 1) lv (.int (x - x / y * y) :: st) σ) : G X pc lv (.int y :: .int x :: st) σ := fun H locs ls hP hS h => lv_irem C.1 C.2.1 d (nz_ne hy) (k H locs ls hP hS h)
theorem r_ineg (C : gC X cc own nL fr lo) {x : Int32} (d : decode cc pc = .ok (.ineg, 1)) (k : G X (pc + 1) lv (.int (-x) :: st) σ) : G X pc lv (.int x :: st) σ := fun H locs ls hP hS h => lv_ineg C.1 C.2.1 d (k H locs ls hP hS h)
theorem r_ishl (C : gC X cc own nL fr lo) {x y : Int32} (d : decode cc pc = .ok (.ishl, 1)) (k : G X (pc + 1) lv (.int (x <<< (y &&& 31)) :: st) σ) : G X pc lv (.int y :: .int x :: st) σ := fun H locs ls hP hS h => lv_ishl C.1 C.2.1 d (k H locs ls hP hS h)
theorem r_ishr (C : gC X cc own nL fr lo) {x y : Int32} (d : decode cc pc = .ok (.ishr, 1)) (k : G X (pc + 1) lv (.int (x >>> (y &&& 31)) :: st) σ) : G X pc lv (.int y :: .int x :: st) σ := fun H locs ls hP hS h => lv_ishr C.1 C.2.1 d (k H locs ls hP hS h)
theorem r_ladd (C : gC X cc own nL fr lo) {x y : Int64} (d : decode cc pc = .ok (.ladd, 1)) (k : G X (pc + 1) lv (.long (x + y) :: st) σ) : G X pc lv (.long y :: .long x :: st) σ := fun H locs ls hP hS h => lv_ladd C.1 C.2.1 d (k H locs ls hP hS h)
theorem r_lsub (C : gC X cc own nL fr lo) {x y : Int64} (d : decode cc pc = .ok (.lsub, 1)) (k : G X (pc + 1) lv (.long (x - y) :: st) σ) : G X pc lv (.long y :: .long x :: st) σ := fun H locs ls hP hS h => lv_lsub C.1 C.2.1 d (k H locs ls hP hS h)
theorem r_lmul (C : gC X cc own nL fr lo) {x y : Int64} (d : decode cc pc = .ok (.lmul, 1)) (k : G X (pc + 1) lv (.long (x * y) :: st) σ) : G X pc lv (.long y :: .long x :: st) σ := fun H locs ls hP hS h => lv_lmul C.1 C.2.1 d (k H locs ls hP hS h)
theorem r_land (C : gC X cc own nL fr lo) {x y : Int64} (d : decode cc pc = .ok (.land, 1)) (k : G X (pc + 1) lv (.long (x &&& y) :: st) σ) : G X pc lv (.long y :: .long x :: st) σ := fun H locs ls hP hS h => lv_land C.1 C.2.1 d (k H locs ls hP hS h)
theorem r_lor (C : gC X cc own nL fr lo) {x y : Int64} (d : decode cc pc = .ok (.lor, 1)) (k : G X (pc + 1) lv (.long (x ||| y) :: st) σ) : G X pc lv (.long y :: .long x :: st) σ := fun H locs ls hP hS h => lv_lor C.1 C.2.1 d (k H locs ls hP hS h)
theorem r_lxor (C : gC X cc own nL fr lo) {x y : Int64} (d : decode cc pc = .ok (.lxor, 1)) (k : G X (pc + 1) lv (.long (x ^^^ y) :: st) σ) : G X pc lv (.long y :: .long x :: st) σ := fun H locs ls hP hS h => lv_lxor C.1 C.2.1 d (k H locs ls hP hS h)
theorem r_lshl (C : gC X cc own nL fr lo) {x : Int64} {y : Int32} (d : decode cc pc = .ok (.lshl, 1)) (k : G X (pc + 1) lv (.long (x <<< (y.toInt64 &&& 63)) :: st) σ) : G X pc lv (.int y :: .long x :: st) σ := fun H locs ls hP hS h => lv_lshl C.1 C.2.1 d rfl (k H locs ls hP hS h)
theorem r_lushr (C : gC X cc own nL fr lo) {x : Int64} {y : Int32} (d : decode cc pc = .ok (.lushr, 1)) (k : G X (pc + 1) lv (.long ((x.toUInt64 >>> (y.toInt64.toUInt64 &&& Int64.toUInt64 63)).toInt64) :: st) σ) : G X pc lv (.int y :: .long x :: st) σ := fun H locs ls hP hS h => lv_lushr C.1 C.2.1 d rfl (k H locs ls hP hS h)
theorem r_i2l (C : gC X cc own nL fr lo) {x : Int32} (d : decode cc pc = .ok (.i2l, 1)) (k : G X (pc + 1) lv (.long x.toInt64 :: st) σ) : G X pc lv (.int x :: st) σ := fun H locs ls hP hS h => lv_i2l C.1 C.2.1 d rfl (k H locs ls hP hS h)
theorem r_l2i (C : gC X cc own nL fr lo) {x : Int64} (d : decode cc pc = .ok (.l2i, 1)) (k : G X (pc + 1) lv (.int x.toInt32 :: st) σ) : G X pc lv (.long x :: st) σ := fun H locs ls hP hS h => lv_l2i C.1 C.2.1 d rfl (k H locs ls hP hS h)
theorem r_lcmp (C : gC X cc own nL fr lo) {x y : Int64} (d : decode cc pc = .ok (.lcmp, 1)) (k : G X (pc + 1) lv (.int (lg_cmp x y) :: st) σ) : G X pc lv (.long y :: .long x :: st) σ := fun H locs ls hP hS h => W.lcmp C.1 C.2.1 d (k H locs ls hP hS h)
theorem r_dup (C : gC X cc own nL fr lo) {va : Value} (d : decode cc pc = .ok (.dup, 1)) (h1 : va.category = 1) (k : G X (pc + 1) lv (va :: va :: st) σ) : G X pc lv (va :: st) σ := fun H locs ls hP hS h => lv_dup C.1 C.2.1 d h1 (k H locs ls hP hS h)
theorem r_pop (C : gC X cc own nL fr lo) {va : Value} (d : decode cc pc = .ok (.pop, 1)) (h1 : va.category = 1) (k : G X (pc + 1) lv st σ) : G X pc lv (va :: st) σ := fun H locs ls hP hS h => lv_pop C.1 C.2.1 d h1 (k H locs ls hP hS h)
theorem r_dup_x1 (C : gC X cc own nL fr lo) {va vb : Value} (d : decode cc pc = .ok (.dup_x1, 1)) (h1 : va.category = 1) (h2 : vb.category = 1) (k : G X (pc + 1) lv (va :: vb :: va :: st) σ) : G X pc lv (va :: vb :: st) σ := fun H locs ls hP hS h => lv_dup_x1 C.1 C.2.1 d h1 h2 (k H locs ls hP hS h)
theorem r_dup2_11 (C : gC X cc own nL fr lo) {va vb : Value} (d : decode cc pc = .ok (.dup2, 1)) (h1 : va.category = 1) (h2 : vb.category = 1) (k : G X (pc + 1) lv (va :: vb :: va :: vb :: st) σ) : G X pc lv (va :: vb :: st) σ := fun H locs ls hP hS h => lv_dup2_11 C.1 C.2.1 d h1 h2 (k H locs ls hP hS h)
theorem r_dup2_2 (C : gC X cc own nL fr lo) {va : Value} (d : decode cc pc = .ok (.dup2, 1)) (h1 : va.category = 2) (k : G X (pc + 1) lv (va :: va :: st) σ) : G X pc lv (va :: st) σ := fun H locs ls hP hS h => lv_dup2_2 C.1 C.2.1 d h1 (k H locs ls hP hS h)
theorem r_goto (C : gC X cc own nL fr lo) {off : Int} {tgt : Nat} (d : decode cc pc = .ok (.goto off, 3)) (ht : (pc : Int) + off = (tgt : Int)) (k : G X tgt lv st σ) : G X pc lv st σ := fun H locs ls hP hS h => lv_goto C.1 C.2.1 d ht (k H locs ls hP hS h)
theorem r_if_eq (C : gC X cc own nL fr lo) {x : Int32} {off : Int} {tgt : Nat} (d : decode cc pc = .ok (.ifCond .eq off, 3)) (ht : (pc : Int) + off = (tgt : Int)) (kt : x = 0 → G X tgt lv st σ) (kf : ¬ x = 0 → G X (pc + 3) lv st σ) : G X pc lv (.int x :: st) σ := fun H locs ls hP hS h => lv_if_eq C.1 C.2.1 d ht (fun q => kt q H locs ls hP hS h) (fun q => kf q H locs ls hP hS h)
theorem r_icmp_eq (C : gC X cc own nL fr lo) {x y : Int32} {off : Int} {tgt : Nat} (d : decode cc pc = .ok (.if_icmp .eq off, 3)) (ht : (pc : Int) + off = (tgt : Int)) (kt : x = y → G X tgt lv st σ) (kf : ¬ x = y → G X (pc + 3) lv st σ) : G X pc lv (.int y :: .int x :: st) σ := fun H locs ls hP hS h => lv_icmp_eq C.1 C.2.1 d ht (fun q => kt q H locs ls hP hS h) (fun q => kf q H locs ls hP hS h)
theorem r_if_ne (C : gC X cc own nL fr lo) {x : Int32} {off : Int} {tgt : Nat} (d : decode cc pc = .ok (.ifCond .ne off, 3)) (ht : (pc : Int) + off = (tgt : Int)) (kt : ¬ x = 0 → G X tgt lv st σ) (kf : x = 0 → G X (pc + 3) lv st σ) : G X pc lv (.int x :: st) σ := fun H locs ls hP hS h => lv_if_ne C.1 C.2.1 d ht (fun q => kt q H locs ls hP hS h) (fun q => kf q H locs ls hP hS h)
theorem r_icmp_ne (C : gC X cc own nL fr lo) {x y : Int32} {off : Int} {tgt : Nat} (d : decode cc pc = .ok (.if_icmp .ne off, 3)) (ht : (pc : Int) + off = (tgt : Int)) (kt : ¬ x = y → G X tgt lv st σ) (kf : x = y → G X (pc + 3) lv st σ) : G X pc lv (.int y :: .int x :: st) σ := fun H locs ls hP hS h => lv_icmp_ne C.1 C.2.1 d ht (fun q => kt q H locs ls hP hS h) (fun q => kf q H locs ls hP hS h)
theorem r_if_lt (C : gC X cc own nL fr lo) {x : Int32} {off : Int} {tgt : Nat} (d : decode cc pc = .ok (.ifCond .lt off, 3)) (ht : (pc : Int) + off = (tgt : Int)) (kt : x < 0 → G X tgt lv st σ) (kf : ¬ x < 0 → G X (pc + 3) lv st σ) : G X pc lv (.int x :: st) σ := fun H locs ls hP hS h => lv_if_lt C.1 C.2.1 d ht (fun q => kt q H locs ls hP hS h) (fun q => kf q H locs ls hP hS h)
theorem r_icmp_lt (C : gC X cc own nL fr lo) {x y : Int32} {off : Int} {tgt : Nat} (d : decode cc pc = .ok (.if_icmp .lt off, 3)) (ht : (pc : Int) + off = (tgt : Int)) (kt : x < y → G X tgt lv st σ) (kf : ¬ x < y → G X (pc + 3) lv st σ) : G X pc lv (.int y :: .int x :: st) σ := fun H locs ls hP hS h => lv_icmp_lt C.1 C.2.1 d ht (fun q => kt q H locs ls hP hS h) (fun q => kf q H locs ls hP hS h)
theorem r_if_ge (C : gC X cc own nL fr lo) {x : Int32} {off : Int} {tgt : Nat} (d : decode cc pc = .ok (.ifCond .ge off, 3)) (ht : (pc : Int) + off = (tgt : Int)) (kt : 0 ≤ x → G X tgt lv st σ) (kf : ¬ 0 ≤ x → G X (pc + 3) lv st σ) : G X pc lv (.int x :: st) σ := fun H locs ls hP hS h => lv_if_ge C.1 C.2.1 d ht (fun q => kt q H locs ls hP hS h) (fun q => kf q H locs ls hP hS h)
theorem r_icmp_ge (C : gC X cc own nL fr lo) {x y : Int32} {off : Int} {tgt : Nat} (d : decode cc pc = .ok (.if_icmp .ge off, 3)) (ht : (pc : Int) + off = (tgt : Int)) (kt : y ≤ x → G X tgt lv st σ) (kf : ¬ y ≤ x → G X (pc + 3) lv st σ) : G X pc lv (.int y :: .int x :: st) σ := fun H locs ls hP hS h => lv_icmp_ge C.1 C.2.1 d ht (fun q => kt q H locs ls hP hS h) (fun q => kf q H locs ls hP hS h)
theorem r_if_gt (C : gC X cc own nL fr lo) {x : Int32} {off : Int} {tgt : Nat} (d : decode cc pc = .ok (.ifCond .gt off, 3)) (ht : (pc : Int) + off = (tgt : Int)) (kt : 0 < x → G X tgt lv st σ) (kf : ¬ 0 < x → G X (pc + 3) lv st σ) : G X pc lv (.int x :: st) σ := fun H locs ls hP hS h => lv_if_gt C.1 C.2.1 d ht (fun q => kt q H locs ls hP hS h) (fun q => kf q H locs ls hP hS h)
theorem r_icmp_gt (C : gC X cc own nL fr lo) {x y : Int32} {off : Int} {tgt : Nat} (d : decode cc pc = .ok (.if_icmp .gt off, 3)) (ht : (pc : Int) + off = (tgt : Int)) (kt : y < x → G X tgt lv st σ) (kf : ¬ y < x → G X (pc + 3) lv st σ) : G X pc lv (.int y :: .int x :: st) σ := fun H locs ls hP hS h => lv_icmp_gt C.1 C.2.1 d ht (fun q => kt q H locs ls hP hS h) (fun q => kf q H locs ls hP hS h)
theorem r_if_le (C : gC X cc own nL fr lo) {x : Int32} {off : Int} {tgt : Nat} (d : decode cc pc = .ok (.ifCond .le off, 3)) (ht : (pc : Int) + off = (tgt : Int)) (kt : x ≤ 0 → G X tgt lv st σ) (kf : ¬ x ≤ 0 → G X (pc + 3) lv st σ) : G X pc lv (.int x :: st) σ := fun H locs ls hP hS h => lv_if_le C.1 C.2.1 d ht (fun q => kt q H locs ls hP hS h) (fun q => kf q H locs ls hP hS h)
theorem r_icmp_le (C : gC X cc own nL fr lo) {x y : Int32} {off : Int} {tgt : Nat} (d : decode cc pc = .ok (.if_icmp .le off, 3)) (ht : (pc : Int) + off = (tgt : Int)) (kt : x ≤ y → G X tgt lv st σ) (kf : ¬ x ≤ y → G X (pc + 3) lv st σ) : G X pc lv (.int y :: .int x :: st) σ := fun H locs ls hP hS h => lv_icmp_le C.1 C.2.1 d ht (fun q => kt q H locs ls hP hS h) (fun q => kf q H locs ls hP hS h)
theorem r_tabIn (C : gC X cc own nL fr lo) {dflt a b : Int} {offs : Array Int} {len : Nat} {x v : Int32} {off : Int} {tgt : Nat} (d : decode cc pc = .ok (.tableswitch dflt a b offs, len)) (hx : x = v) (h1 : ¬ v.toInt < a) (h2 : ¬ b < v.toInt) (ho : offs[(v.toInt - a).toNat]? = some off) (ht : (pc : Int) + off = (tgt : Int)) (k : G X tgt lv st σ) : G X pc lv (.int x :: st) σ := by
  subst hx
  exact fun H locs ls hP hS h => lv_tableIn C.1 C.2.1 d h1 h2 ho ht (k H locs ls hP hS h)
theorem r_tabLo (C : gC X cc own nL fr lo) {dflt a b : Int} {offs : Array Int} {len : Nat} {x v : Int32} {tgt : Nat} (d : decode cc pc = .ok (.tableswitch dflt a b offs, len)) (hx : x < v) (hv : v.toInt = a) (ht : (pc : Int) + dflt = (tgt : Int)) (k : G X tgt lv st σ) : G X pc lv (.int x :: st) σ :=
  fun H locs ls hP hS h => lv_tableOut C.1 C.2.1 d (Or.inl (by rw [← hv]; exact Int32.lt_iff_toInt_lt.mp hx)) ht (k H locs ls hP hS h)
theorem r_tabHi (C : gC X cc own nL fr lo) {dflt a b : Int} {offs : Array Int} {len : Nat} {x v : Int32} {tgt : Nat} (d : decode cc pc = .ok (.tableswitch dflt a b offs, len)) (hx : v < x) (hv : v.toInt = b) (ht : (pc : Int) + dflt = (tgt : Int)) (k : G X tgt lv st σ) : G X pc lv (.int x :: st) σ :=
  fun H locs ls hP hS h => lv_tableOut C.1 C.2.1 d (Or.inr (by rw [← hv]; exact Int32.lt_iff_toInt_lt.mp hx)) ht (k H locs ls hP hS h)
/-- a field of the object at place k -/
theorem r_get (C : gC X cc own nL fr lo) {O : String} {T : u_T} {N ci index k : Nat} {v : Value} {F : (Nat → Nat) → (Nat → Int32) → List Value} (j : Nat) (hk : k < gN) (hcel : ∀ z a f g, gCel z a f g k = .inr (ci, F a f)) (hcl : gCls[ci]? = some (O, T, N)) (hin : ∀ w ∈ u_ws O T N, w ∈ BIG) (hj : j < N) (hlink : Cond.fieldLink own index (T j).1 (T j).2.1 (T j).2.2.1 ∈ BIG) (hv : (F (gA X) (σ.1 k))[j]? = some v) (d : decode cc pc = .ok (.getfield index, 3)) (kk : G X (pc + 3) lv (v :: st) σ) : G X pc lv (.ref (gA X k) :: st) σ :=
  fun H locs ls hP hS h => va_get C.1 C.2.1 C.2.2.2.2.2.1 hin C.2.2.2.2.1 C.2.2.2.2.2.2.1 hP k (by rw [gW_at σ hk, hcel]) hcl j hj (C.2.2.2.2.2.1 _ hlink) (fun _ q => q) hv d (kk H locs ls hP hS h)
theorem r_getN (C : gC X cc own nL fr lo) {O host : String} {T : u_T} {N ci index k : Nat} {v : Value} {F : (Nat → Nat) → (Nat → Int32) → List Value} (j : Nat) (hk : k < gN) (hcel : ∀ z a f g, gCel z a f g k = .inr (ci, F a f)) (hcl : gCls[ci]? = some (O, T, N)) (hin : ∀ w ∈ u_ws O T N, w ∈ BIG) (hj : j < N) (hlink : (own, index, (T j).1, (T j).2.1, (T j).2.2.1, host) ∈ gNwF) (hv : (F (gA X) (σ.1 k))[j]? = some v) (d : decode cc pc = .ok (.getfield index, 3)) (kk : G X (pc + 3) lv (v :: st) σ) : G X pc lv (.ref (gA X k) :: st) σ :=
  fun H locs ls hP hS h => va_getN C.1 C.2.1 C.2.2.2.2.2.1 hin C.2.2.2.2.1 C.2.2.2.2.2.2.1 hP k (by rw [gW_at σ hk, hcel]) hcl j hj (va_Nw.use rfl (C.2.2.2.2.2.2.2.1.1 _ hlink)) (fun _ q => q) hv d (kk H locs ls hP hS h)
theorem r_put (C : gC X cc own nL fr lo) {O : String} {T : u_T} {N ci index k : Nat} {v : Int32} {σ' : gS} {F : (Nat → Nat) → (Nat → Int32) → List Value} (ty0 : Nat → FieldType) (hty : ∀ k, k < N → parseFieldDescriptor (T k).2.2.1 = some (ty0 k)) (hnm : ∀ a, a < N → ∀ b, b < N → a ≠ b → (T a).2.1 ≠ (T b).2.1) (j : Nat) (hk : k < gN) (hcel : ∀ z a f g, gCel z a f g k = .inr (ci, F a f)) (hcl : gCls[ci]? = some (O, T, N)) (hin : ∀ w ∈ u_ws O T N, w ∈ BIG) (hj : j < N) (hlink : Cond.fieldLink own index (T j).1 (T j).2.1 (T j).2.2.1 ∈ BIG) (hfin : (T j).2.2.2 = false) (hd : parseFieldDescriptor (T j).2.2.1 = some .int) (hF : ∀ a f, j < (F a f).length ∧ F a (upd f j v) = (F a f).set j (.int v)) (e : σ' = sI σ k j v) (d : decode cc pc = .ok (.putfield index, 3)) (kk : G X (pc + 3) lv st σ') : G X pc lv (.int v :: .ref (gA X k) :: st) σ := by
  subst e
  intro H locs ls hP hS h
  refine va_put C.1 C.2.1 C.2.2.2.2.2.1 hin ty0 hty hnm C.2.2.2.2.1 C.2.2.2.2.2.2.1 hP (C.2.2.2.2.2.2.2.2.1 σ) hS k (by rw [gW_at σ hk, hcel]) hcl j hj (C.2.2.2.2.2.1 _ hlink) (fun _ q => q) hfin hd rfl rfl (hF _ _).1 d (fun H1 locs1 hP1 _ hS1 => ?_)
  rw [gW_sI hk (by rw [hcel, (hF _ _).2])] at hP1
  exact kk H1 locs1 ls hP1 hS1 h
/-- elements of an int array, a long array, at place k -/
theorem r_iald (C : gC X cc own nL fr lo) {k : Nat} {i : Int32} (ho : okI k i = true) (d : decode cc pc = .ok (.iaload, 1)) (kk : G X (pc + 1) lv (.int (gI σ k i.toNatClampNeg) :: st) σ) : G X pc lv (.int i :: .ref (gA X k) :: st) σ :=
  fun H locs ls hP hS h => va_iald (f := σ.1 k) C.1 C.2.1 C.2.2.2.2.2.2.1 hP k 0 (by rw [gW_at σ (okI_n ho), gCel_I (okI_k ho)]) rfl (inb_in (okI_i ho)) d (kk H locs ls hP hS h)
theorem r_lald (C : gC X cc own nL fr lo) {k : Nat} {i : Int32} (ho : okJ k i = true) (d : decode cc pc = .ok (.laload, 1)) (kk : G X (pc + 1) lv (.long (gL σ k i.toNatClampNeg) :: st) σ) : G X pc lv (.int i :: .ref (gA X k) :: st) σ :=
  fun H locs ls hP hS h => va_lald (f := σ.2 k) C.1 C.2.1 C.2.2.2.2.2.2.1 hP k 1 (by rw [gW_at σ (okJ_n ho), gCel_J (okJ_0 ho) (okJ_k ho)]) rfl (inb_in (okJ_i ho)) d (kk H locs ls hP hS h)
theorem r_iast (C : gC X cc own nL fr lo) {k : Nat} {i x : Int32} {σ' : gS} (ho : okI k i = true) (e : σ' = sI σ k i.toNatClampNeg x) (d : decode cc pc = .ok (.iastore, 1)) (kk : G X (pc + 1) lv st σ') : G X pc lv (.int x :: .int i :: .ref (gA X k) :: st) σ := by
  subst e
  intro H locs ls hP hS h
  refine va_iast C.1 C.2.1 C.2.2.2.2.2.2.1 hP (C.2.2.2.2.2.2.2.2.1 σ) hS k 0 (by rw [gW_at σ (okI_n ho), gCel_I (okI_k ho)]) rfl (inb_in (okI_i ho)) d (fun H1 locs1 hP1 _ hS1 => ?_)
  rw [gW_sI (okI_n ho) (gCel_I (okI_k ho))] at hP1
  exact kk H1 locs1 ls hP1 hS1 h
theorem r_last (C : gC X cc own nL fr lo) {k : Nat} {i : Int32} {x : Int64} {σ' : gS} (ho : okJ k i = true) (e : σ' = sL σ k i.toNatClampNeg x) (d : decode cc pc = .ok (.lastore, 1)) (kk : G X (pc + 1) lv st σ') : G X pc lv (.long x :: .int i :: .ref (gA X k) :: st) σ := by
  subst e
  intro H locs ls hP hS h
  refine va_last C.1 C.2.1 C.2.2.2.2.2.2.1 hP (C.2.2.2.2.2.2.2.2.1 σ) hS k 1 (by rw [gW_at σ (okJ_n ho), gCel_J (okJ_0 ho) (okJ_k ho)]) rfl (inb_in (okJ_i ho)) d (fun H1 locs1 hP1 _ hS1 => ?_)
  rw [gW_sL (okJ_n ho) (gCel_J (okJ_0 ho) (okJ_k ho))] at hP1
  exact kk H1 locs1 ls hP1 hS1 h
theorem r_zald (C : gC X cc own nL fr lo) {k : Nat} {i : Int32} (ho : okZ k i = true) (d : decode cc pc = .ok (.baload, 1)) (kk : G X (pc + 1) lv (.int (gI σ k i.toNatClampNeg) :: st) σ) : G X pc lv (.int i :: .ref (gA X k) :: st) σ := by
  obtain ⟨h0, h1, h2, h3, h4⟩ := okZ_all ho
  exact fun H locs ls hP hS h => va_zald (f := σ.1 k) C.1 C.2.1 C.2.2.2.2.2.2.1 hP k 4 (by rw [gW_at σ h3, gCel_Z h0 h1 h2]) rfl (inb_in h4) d (kk H locs ls hP hS h)
theorem r_zast (C : gC X cc own nL fr lo) {k : Nat} {i x : Int32} {σ' : gS} (ho : okZ k i = true) (hb : isB x = true) (e : σ' = sI σ k i.toNatClampNeg x) (d : decode cc pc = .ok (.bastore, 1)) (kk : G X (pc + 1) lv st σ') : G X pc lv (.int x :: .int i :: .ref (gA X k) :: st) σ := by
  subst e
  obtain ⟨h0, h1, h2, h3, h4⟩ := okZ_all ho
  intro H locs ls hP hS h
  refine va_zast C.1 C.2.1 C.2.2.2.2.2.2.1 hP (C.2.2.2.2.2.2.2.2.1 σ) hS k 4 (by rw [gW_at σ h3, gCel_Z h0 h1 h2]) rfl (inb_in h4) d (fun H1 locs1 hP1 _ hS1 => ?_)
  have hx : vp_nar .boolean x = x := by
    unfold vp_nar
    rw [isB_n hb]
  rw [hx, gW_sI h3 (gCel_Z h0 h1 h2)] at hP1
  exact kk H1 locs1 ls hP1 hS1 h
/-- a row of the outer array at place k: rows lie at k + 1 + i; t: place of its type among gTy -/
theorem r_aald (C : gC X cc own nL fr lo) {k n t : Nat} {i : Int32} {ty : FieldType} (hn : k < gN) (hcel : ∀ z a f g, gCel z a f g k = .inl (z t, n, .inr (.inr (.inr (.inr (fun j => if j < n then some (a (k + 1 + j)) else none)))))) (ht : ∀ z : Nat → ClassId, (gTy z)[t]? = some (z t, .array ty)) {k' : Nat} (hi : inb i n = true) (hk' : k + 1 + i.toNatClampNeg = k') (d : decode cc pc = .ok (.aaload, 1)) (kk : G X (pc + 1) lv (.ref (gA X k') :: st) σ) : G X pc lv (.int i :: .ref (gA X k) :: st) σ := by
  subst hk'
  intro H locs ls hP hS h
  have hlt : i.toNatClampNeg < n := Nat.not_le.mp fun q => inb_in hi (Or.inr q)
  have hc : H[gA X k]? = some (vp_cell (X.2.2.2.2.1 t) (n, .inr (.inr (.inr (.inr (fun j => if j < n then some (gA X (k + 1 + j)) else none)))))) := hP k (gA X k, .inl (X.2.2.2.2.1 t, n, .inr (.inr (.inr (.inr (fun j => if j < n then some (gA X (k + 1 + j)) else none)))))) (by rw [gW_at σ hn, hcel])
  have hv : va_rf (if i.toNatClampNeg < n then some (gA X (k + 1 + i.toNatClampNeg)) else none) = .ref (gA X (k + 1 + i.toNatClampNeg)) := by rw [if_pos hlt]; rfl
  refine W.aald (v := .ref (gA X (k + 1 + i.toNatClampNeg))) (ty := .array ty) C.1 C.2.1 hc ((C.2.2.2.2.2.2.1.2 t _ (ht _)).1 n (fun j => va_rf (if j < n then some (gA X (k + 1 + j)) else none))) rfl (fun q => by cases q) (by show ¬ (i < 0 ∨ (arrV _ _ _).slots.size ≤ _); rw [arrV_size]; exact inb_in hi) (by show (arrV _ _ _).slots[_]? = _; rw [arrV_read _ _ hlt, hv]) rfl rfl d ?_
  exact kk H locs ls hP hS h
theorem r_alenI (C : gC X cc own nL fr lo) {k : Nat} {v : Int32} (ho : oaI k = true) (hv : Int32.ofNat (kLen k) = v) (d : decode cc pc = .ok (.arraylength, 1)) (kk : G X (pc + 1) lv (.int v :: st) σ) : G X pc lv (.ref (gA X k) :: st) σ :=
  fun H locs ls hP hS h => va_alen C.1 C.2.1 C.2.2.2.2.2.2.1 hP k 0 (by rw [gW_at σ (oaI_n ho), gCel_I (oaI_k ho)]) (ty := .int) rfl hv d (kk H locs ls hP hS h)
theorem r_alenJ (C : gC X cc own nL fr lo) {k : Nat} {v : Int32} (ho : oaJ k = true) (hv : Int32.ofNat (kLen k) = v) (d : decode cc pc = .ok (.arraylength, 1)) (kk : G X (pc + 1) lv (.int v :: st) σ) : G X pc lv (.ref (gA X k) :: st) σ :=
  fun H locs ls hP hS h => va_alen C.1 C.2.1 C.2.2.2.2.2.2.1 hP k 1 (by rw [gW_at σ (oaJ_n ho), gCel_J (oaJ_0 ho) (oaJ_k ho)]) (ty := .long) rfl hv d (kk H locs ls hP hS h)
/-- contracts: the method, on a world of state σ, answers rv, and the world is then of state σ' -/
def gPre (D : va_G) (z : Nat → ClassId) (a : Nat → Nat) (σ : gS) (sz : Nat) (U : State) : Prop := U.heap.size = sz ∧ va_P D gCls (gW z a σ) U.heap ∧ va_K D gCls (gTy z) U ∧ va_D (fun _ => True) (gW z a σ) ∧ gNw U
def gPost (rv : Option Value) (D : va_G) (z : Nat → ClassId) (a : Nat → Nat) (σ' : gS) (A : Nat → Prop) : Array Value → State → Outcome → State → Prop := fun _ s0 oc t => (oc = .returned rv ∧ va_P D gCls (gW z a σ') t.heap) ∧ va_F A s0 t
def gMet (l : Launch) (y : MethodName) (bc : ByteArray) (nl : Nat) (rt : Option FieldType) (fr lo : Nat) (av : (Nat → Nat) → List Value) (σ : gS) (rv : Option Value) (σ' : gS) : Prop :=
  ∀ (D : va_G) (z : Nat → ClassId) (a : Nat → Nat) (sz : Nat), Met l y (.code y bc nl rt :: BIG) { frames := fr, cells := 0, slots := 0, locals := lo } (va_Pc (av a) (gPre D z a σ sz)) (gPost rv D z a σ' (va_A (gW z a σ) sz)) 0 0 (va_A (gW z a σ) sz)
theorem gPre_blind {av : List Value} {D : va_G} {z : Nat → ClassId} {a : Nat → Nat} {σ : gS} {sz : Nat} : FrameBlind (va_Pc av (gPre D z a σ sz)) := by
  intro a U g mk q
  obtain ⟨q0, q1, qP, qK, qD, qN⟩ := q
  exact ⟨q0, q1, qP, va_K.moved (u := U) (U := U.calling g mk a) (Vm.Alike.refl U.vm) qK, qD, gNw_same rfl qN⟩
theorem gMet_i {l : Launch} {y : MethodName} {bc : ByteArray} {nl : Nat} {fr lo : Nat} {av : (Nat → Nat) → List Value} {σ σ' : gS} {r : Int32} (hy : plainFor y = true) (hlen : ∀ a, (lg_sl (av a)).length ≤ nl)
    (body : ∀ X : gX, X.1.2.1 = l → gC X bc y.cls nl fr lo → (∀ pc lv, decode bc pc = .ok (.ireturn, 1) → G X pc lv [.int r] σ') → G X 0 (lv_args 0 (av (gA X))) [] σ) : gMet l y bc nl (some .int) fr lo av σ (some (.int r)) σ' := by
  intro D z a sz
  refine va_MetF (cc := bc) (maxL := nl) (ret := some .int) hy rfl ?_
  intro p e s m args below meth c s₁ B hml hv
  obtain ⟨rfl, hsz, hP, hK, hD0, hN⟩ := hv
  subst hsz
  have hts := atoms_spec (ws := .code y bc nl (some .int) :: BIG) B.pre
  have hown : s.vm.findClass y.cls = some m.cls := findClass_of_methodNamed B.named
  have hlocks := B.notSynchronized
  have hD := hD0.self (sz := s.heap.size)
  have hl := lv_entry (av a) (n := nl) (hlen a)
  rw [lg_entry_eq]
  have hC : gC ((p, l, e, { frames := fr, cells := 0, slots := 0, locals := lo }), (s, m, (av a).toArray, below), (meth, c, MQ below (gPost (some (.int r)) D z a σ' (va_A (gW z a σ) s.heap.size)) (av a).toArray s 0 0 (va_A (gW z a σ) s.heap.size), nl), (D, z, a, va_A (gW z a σ) s.heap.size)) bc y.cls nl fr lo :=
    ⟨B.exec, B.bytes, hml, rfl, hown, fun w hw => hts w (List.mem_cons_of_mem _ hw), hK, hN, fun τ => gW_D τ hD, fun q hq => Or.inr hq, rfl⟩
  exact body _ rfl hC (fun pc lv d H locs ls hP1 hS1 _ => W.iret (v := r) B.exec B.bytes B.returns (fun t ht _ => ⟨⟨rfl, by rw [ht]; exact hP1⟩, hS1.F ht⟩) hS1.2.2 d) s.heap [] _ hP va_S.rf hl
theorem gMet_z {l : Launch} {y : MethodName} {bc : ByteArray} {nl : Nat} {fr lo : Nat} {av : (Nat → Nat) → List Value} {σ σ' : gS} {r : Int32} (hy : plainFor y = true) (hlen : ∀ a, (lg_sl (av a)).length ≤ nl)
    (body : ∀ X : gX, X.1.2.1 = l → gC X bc y.cls nl fr lo → (∀ pc lv, isB r = true → decode bc pc = .ok (.ireturn, 1) → G X pc lv [.int r] σ') → G X 0 (lv_args 0 (av (gA X))) [] σ) : gMet l y bc nl (some .boolean) fr lo av σ (some (.int r)) σ' := by
  intro D z a sz
  refine va_MetF (cc := bc) (maxL := nl) (ret := some .boolean) hy rfl ?_
  intro p e s m args below meth c s₁ B hml hv
  obtain ⟨rfl, hsz, hP, hK, hD0, hN⟩ := hv
  subst hsz
  have hts := atoms_spec (ws := .code y bc nl (some .boolean) :: BIG) B.pre
  have hown : s.vm.findClass y.cls = some m.cls := findClass_of_methodNamed B.named
  have hlocks := B.notSynchronized
  have hD := hD0.self (sz := s.heap.size)
  have hl := lv_entry (av a) (n := nl) (hlen a)
  rw [lg_entry_eq]
  have hC : gC ((p, l, e, { frames := fr, cells := 0, slots := 0, locals := lo }), (s, m, (av a).toArray, below), (meth, c, MQ below (gPost (some (.int r)) D z a σ' (va_A (gW z a σ) s.heap.size)) (av a).toArray s 0 0 (va_A (gW z a σ) s.heap.size), nl), (D, z, a, va_A (gW z a σ) s.heap.size)) bc y.cls nl fr lo :=
    ⟨B.exec, B.bytes, hml, rfl, hown, fun w hw => hts w (List.mem_cons_of_mem _ hw), hK, hN, fun τ => gW_D τ hD, fun q hq => Or.inr hq, rfl⟩
  exact body _ rfl hC (fun pc lv hB d H locs ls hP1 hS1 _ => W.zret (v := r) (ty := .boolean) B.exec B.bytes B.returns (isB_n hB) (fun t ht _ => ⟨⟨rfl, by rw [ht]; exact hP1⟩, hS1.F ht⟩) hS1.2.2 d) s.heap [] _ hP va_S.rf hl
theorem gMet_l {l : Launch} {y : MethodName} {bc : ByteArray} {nl : Nat} {fr lo : Nat} {av : (Nat → Nat) → List Value} {σ σ' : gS} {r : Int64} (hy : plainFor y = true) (hlen : ∀ a, (lg_sl (av a)).length ≤ nl)
    (body : ∀ X : gX, X.1.2.1 = l → gC X bc y.cls nl fr lo → (∀ pc lv, decode bc pc = .ok (.lreturn, 1) → G X pc lv [.long r] σ') → G X 0 (lv_args 0 (av (gA X))) [] σ) : gMet l y bc nl (some .long) fr lo av σ (some (.long r)) σ' := by
  intro D z a sz
  refine va_MetF (cc := bc) (maxL := nl) (ret := some .long) hy rfl ?_
  intro p e s m args below meth c s₁ B hml hv
  obtain ⟨rfl, hsz, hP, hK, hD0, hN⟩ := hv
  subst hsz
  have hts := atoms_spec (ws := .code y bc nl (some .long) :: BIG) B.pre
  have hown : s.vm.findClass y.cls = some m.cls := findClass_of_methodNamed B.named
  have hlocks := B.notSynchronized
  have hD := hD0.self (sz := s.heap.size)
  have hl := lv_entry (av a) (n := nl) (hlen a)
  rw [lg_entry_eq]
  have hC : gC ((p, l, e, { frames := fr, cells := 0, slots := 0, locals := lo }), (s, m, (av a).toArray, below), (meth, c, MQ below (gPost (some (.long r)) D z a σ' (va_A (gW z a σ) s.heap.size)) (av a).toArray s 0 0 (va_A (gW z a σ) s.heap.size), nl), (D, z, a, va_A (gW z a σ) s.heap.size)) bc y.cls nl fr lo :=
    ⟨B.exec, B.bytes, hml, rfl, hown, fun w hw => hts w (List.mem_cons_of_mem _ hw), hK, hN, fun τ => gW_D τ hD, fun q hq => Or.inr hq, rfl⟩
  exact body _ rfl hC (fun pc lv d H locs ls hP1 hS1 _ => W.lret (v := r) B.exec B.bytes B.returns (fun t ht _ => ⟨⟨rfl, by rw [ht]; exact hP1⟩, hS1.F ht⟩) hS1.2.2 d) s.heap [] _ hP va_S.rf hl
theorem gMet_v {l : Launch} {y : MethodName} {bc : ByteArray} {nl : Nat} {fr lo : Nat} {av : (Nat → Nat) → List Value} {σ σ' : gS} (hy : plainFor y = true) (hlen : ∀ a, (lg_sl (av a)).length ≤ nl)
    (body : ∀ X : gX, X.1.2.1 = l → gC X bc y.cls nl fr lo → (∀ pc lv, decode bc pc = .ok (.return_, 1) → G X pc lv [] σ') → G X 0 (lv_args 0 (av (gA X))) [] σ) : gMet l y bc nl (none) fr lo av σ (none) σ' := by
  intro D z a sz
  refine va_MetF (cc := bc) (maxL := nl) (ret := none) hy rfl ?_
  intro p e s m args below meth c s₁ B hml hv
  obtain ⟨rfl, hsz, hP, hK, hD0, hN⟩ := hv
  subst hsz
  have hts := atoms_spec (ws := .code y bc nl (none) :: BIG) B.pre
  have hown : s.vm.findClass y.cls = some m.cls := findClass_of_methodNamed B.named
  have hlocks := B.notSynchronized
  have hD := hD0.self (sz := s.heap.size)
  have hl := lv_entry (av a) (n := nl) (hlen a)
  rw [lg_entry_eq]
  have hC : gC ((p, l, e, { frames := fr, cells := 0, slots := 0, locals := lo }), (s, m, (av a).toArray, below), (meth, c, MQ below (gPost (none) D z a σ' (va_A (gW z a σ) s.heap.size)) (av a).toArray s 0 0 (va_A (gW z a σ) s.heap.size), nl), (D, z, a, va_A (gW z a σ) s.heap.size)) bc y.cls nl fr lo :=
    ⟨B.exec, B.bytes, hml, rfl, hown, fun w hw => hts w (List.mem_cons_of_mem _ hw), hK, hN, fun τ => gW_D τ hD, fun q hq => Or.inr hq, rfl⟩
  exact body _ rfl hC (fun pc lv d H locs ls hP1 hS1 _ => W.vret B.exec B.bytes B.returns (fun t ht _ => ⟨⟨rfl, by rw [ht]; exact hP1⟩, hS1.F ht⟩) hS1.2.2 d) s.heap [] _ hP va_S.rf hl
/-- what a call asks of the callee, once for all callers -/
def gCalV (y : MethodName) (bc : ByteArray) (nl : Nat) (rt : Option FieldType) (n : Nat) : Prop := Cond.instanceMethod y ∈ BIG ∧ Cond.selects y.cls y y ∈ BIG ∧ Cond.initialized y.cls ∈ BIG ∧ Cond.code y bc nl rt ∈ BIG ∧ y.cls ≠ "java/lang/invoke/MethodHandle" ∧ y.cls ≠ "java/lang/invoke/VarHandle" ∧ (parseMethodDescriptor y.desc).map (fun d => d.parameters.length) = some n
def gCalS (y : MethodName) (bc : ByteArray) (nl : Nat) (rt : Option FieldType) (n : Nat) : Prop := Cond.static y ∈ BIG ∧ Cond.initialized y.cls ∈ BIG ∧ Cond.code y bc nl rt ∈ BIG ∧ y.cls ≠ "java/lang/invoke/MethodHandle" ∧ y.cls ≠ "java/lang/invoke/VarHandle" ∧ (parseMethodDescriptor y.desc).map (fun d => d.parameters.length) = some n
theorem gGoodC {w : Cond} (h : w ∈ BIG) : GoodIn BIG (w :: BIG) := fun v hv => by
  rcases List.mem_cons.mp hv with rfl | hv
  · exact gGood v h
  · exact gGood v hv
theorem r_callK {σ' : gS} {rv : Option Value} {rest st0 : List Value} {aa : Array Value} (C : gC X cc own nL fr lo)
    (hr : ∀ (H : Heap) (locs : List Loc) (ls : Array Slot), va_P X.2.2.2.1 gCls (gW X.2.2.2.2.1 X.2.2.2.2.2.1 σ) H → va_S X.2.2.2.2.2.2 X.2.1.1.heap H locs → lv_has ls X.2.2.1.2.2.2 lv →
      va_Run X.1.1 X.1.2.1 X.1.2.2.1 X.1.2.2.2 X.2.1.1 X.2.1.2.1 X.2.1.2.2.1 X.2.1.2.2.2 X.2.2.1.1 X.2.2.1.2.1 H locs 0 0 0 0 (F0 X.2.1.2.1 pc ls st0) rest (gPost rv X.2.2.2.1 X.2.2.2.2.1 X.2.2.2.2.2.1 σ' (va_A (gW X.2.2.2.2.1 X.2.2.2.2.2.1 σ) H.size) aa) (va_A (gW X.2.2.2.2.1 X.2.2.2.2.2.1 σ) H.size))
    (kk : G X (pc + 3) lv (rv.toList ++ rest) σ') : G X pc lv st0 σ := by
  intro H locs ls hP hS h T hT Xs
  obtain ⟨v, st₀, t, T', L, h0, X', hL, e1, e2, ⟨⟨hv, hp⟩, hz, hk⟩, st⟩ := hr H locs ls hP hS h T hT Xs
  cases hv
  rw [h0] at hz hk
  have hF : ∀ q, va_A (gW X.2.2.2.2.1 X.2.2.2.2.2.1 σ) H.size q → X.2.2.2.2.2.2 q := by
    intro q hq
    rcases hq with ⟨k, e, hq⟩ | hq
    · exact (C.2.2.2.2.2.2.2.2.1 σ).2 k (q, e) hq
    · exact C.2.2.2.2.2.2.2.2.2.1 q (Nat.le_trans hS.1 hq)
  obtain ⟨t2, a1, b1⟩ := kk T'.heap (locs ++ L) ls (by rw [e1]; exact hp) ⟨Nat.le_trans hS.1 (by rw [e1]; exact hz), fun q g1 g2 => by rw [e1, hk q (Nat.lt_of_lt_of_le g1 hS.1) (fun w => g2 (hF q w))]; exact hS.2.1 q g1 g2, fun q hq => by
      rcases List.mem_append.mp hq with g | g
      · exact hS.2.2 q g
      · exact hF _ (hL q g)⟩ h T' rfl X'
  exact ⟨t2, st t2 a1, b1⟩
theorem gPre_at (C : gC X cc own nL fr lo) {H : Heap} {av : List Value} (hP : va_P X.2.2.2.1 gCls (gW X.2.2.2.2.1 X.2.2.2.2.2.1 σ) H) : ∀ U : State, U.heap = H → X.2.1.1.WarmedH U.vm → va_Pc av (gPre X.2.2.2.1 X.2.2.2.2.1 X.2.2.2.2.2.1 σ H.size) av.toArray U :=
  fun U hU hW => ⟨rfl, by rw [hU], by rw [hU]; exact hP, va_K.moved hW.alike C.2.2.2.2.2.2.1, (C.2.2.2.2.2.2.2.2.1 σ).weaken (fun _ _ _ _ => trivial), gNw_warm hW C.2.2.2.2.2.2.2.1⟩
theorem r_callV (C : gC X cc own nL fr lo) {y : MethodName} {bc : ByteArray} {nl n index fr' lo' k ci N : Nat} {T : u_T} {rt : Option FieldType} {av : (Nat → Nat) → List Value} {σ' : gS} {rv : Option Value} {As rest : List Value} {F : (Nat → Nat) → (Nat → Int32) → List Value} (hM : gMet X.1.2.1 y bc nl rt fr' lo' av σ rv σ') (hy : gCalV y bc nl rt n) (hl : Cond.methodLink own index y ∈ BIG) (hk : k < gN) (hcel : ∀ z a f g, gCel z a f g k = .inr (ci, F a f)) (hcl : gCls[ci]? = some (y.cls, T, N)) (hav : av (gA X) = .ref (gA X k) :: As) (hn : As.length = n) {st0 : List Value} (hst : st0 = As.reverse ++ .ref (gA X k) :: rest) (hrest : (rest.map fun v => v.category).sum ≤ 8) (hfr : fr' + 1 ≤ fr ∧ 8 + (nl + 11) + lo' ≤ lo) (d : decode cc pc = .ok (.invokevirtual index, 3)) {st1 : List Value} (hst1 : rv.toList ++ rest = st1) (kk : G X (pc + 3) lv st1 σ') : G X pc lv st0 σ := by
  subst hst1
  refine r_callK (aa := (av (gA X)).toArray) C (fun H locs ls hP hS h => ?_) kk
  obtain ⟨y1, y2, y3, y4, y5, y6, y7⟩ := hy
  have hb := fun w (hw : w ∈ BIG) => C.2.2.2.2.2.1 w hw
  have cw : CallW X.1.2.2.2 X.2.1.1 X.2.1.2.2.1 own y.cls index y bc nl rt (.code y bc nl rt :: BIG) { frames := fr', cells := 0, slots := 0, locals := lo' } 0 0 n :=
    ⟨callB_of n hb (gGoodC y4) rfl rfl rfl (hb _ y3) (hb _ hl) ⟨y5, y6, y7⟩ (by rw [C.2.2.2.2.2.2.2.2.2.2]; exact hfr), hb _ y1, hb _ y2⟩
  have hM1 := hM X.2.2.2.1 X.2.2.2.2.1 X.2.2.2.2.2.1 H.size
  rw [hav] at hM1 ⊢
  exact va_runV (As := As) (rest := rest) ⟨C.1, C.2.1, C.2.2.1, C.2.2.2.2.1, hb⟩ hM1 cw ⟨gPre_blind, va_recv C.2.2.2.2.2.2.1 hP hcl (by rw [gW_at σ hk, hcel]), gPre_at C hP⟩ rfl hn (by rw [h.1, C.2.2.2.1]) hst (lv_room hrest) d ⟨Nat.zero_le _, Nat.zero_le _⟩
theorem r_callVN (C : gC X cc own nL fr lo) {y : MethodName} {host : String} {bc : ByteArray} {nl n index fr' lo' k ci N : Nat} {T : u_T} {rt : Option FieldType} {av : (Nat → Nat) → List Value} {σ' : gS} {rv : Option Value} {As rest : List Value} {F : (Nat → Nat) → (Nat → Int32) → List Value} (hM : gMet X.1.2.1 y bc nl rt fr' lo' av σ rv σ') (hy : gCalV y bc nl rt n) (hl : (own, index, y, host) ∈ gNwM) (hk : k < gN) (hcel : ∀ z a f g, gCel z a f g k = .inr (ci, F a f)) (hcl : gCls[ci]? = some (y.cls, T, N)) (hav : av (gA X) = .ref (gA X k) :: As) (hn : As.length = n) {st0 : List Value} (hst : st0 = As.reverse ++ .ref (gA X k) :: rest) (hrest : (rest.map fun v => v.category).sum ≤ 8) (hfr : fr' + 1 ≤ fr ∧ 8 + (nl + 11) + lo' ≤ lo) (d : decode cc pc = .ok (.invokevirtual index, 3)) {st1 : List Value} (hst1 : rv.toList ++ rest = st1) (kk : G X (pc + 3) lv st1 σ') : G X pc lv st0 σ := by
  subst hst1
  refine r_callK (aa := (av (gA X)).toArray) C (fun H locs ls hP hS h => ?_) kk
  obtain ⟨y1, y2, y3, y4, y5, y6, y7⟩ := hy
  have hb := fun w (hw : w ∈ BIG) => C.2.2.2.2.2.1 w hw
  have cw := va_cnB (R := X.1.2.2.2) (s := X.2.1.1) (args := X.2.1.2.2.1) (own := own) (host := host) (index := index) (rm := { frames := fr', cells := 0, slots := 0, locals := lo' }) (mc := 0) (ms := 0) n hb (gGoodC y4) rfl rfl rfl (C.2.2.2.2.2.2.2.1.2 _ hl) (hb _ y3) ⟨y5, y6, y7⟩ (by rw [C.2.2.2.2.2.2.2.2.2.2]; exact hfr)
  have hM1 := hM X.2.2.2.1 X.2.2.2.2.1 X.2.2.2.2.2.1 H.size
  rw [hav] at hM1 ⊢
  exact va_runVN (C := y.cls) (As := As) (rest := rest) ⟨C.1, C.2.1, C.2.2.1, C.2.2.2.2.1, hb⟩ hM1 ⟨cw, hb _ y1, hb _ y2⟩ ⟨gPre_blind, va_recv C.2.2.2.2.2.2.1 hP hcl (by rw [gW_at σ hk, hcel]), gPre_at C hP⟩ rfl hn (by rw [h.1, C.2.2.2.1]) hst (lv_room hrest) d ⟨Nat.zero_le _, Nat.zero_le _⟩
theorem r_callS (C : gC X cc own nL fr lo) {y : MethodName} {bc : ByteArray} {nl n index fr' lo' : Nat} {rt : Option FieldType} {av : (Nat → Nat) → List Value} {σ' : gS} {rv : Option Value} {As rest : List Value} (hM : gMet X.1.2.1 y bc nl rt fr' lo' av σ rv σ') (hy : gCalS y bc nl rt n) (hl : Cond.methodLink own index y ∈ BIG) (hav : av (gA X) = As) (hn : As.length = n) {st0 : List Value} (hst : st0 = As.reverse ++ rest) (hrest : (rest.map fun v => v.category).sum ≤ 8) (hfr : fr' + 1 ≤ fr ∧ 8 + (nl + 11) + lo' ≤ lo) (d : decode cc pc = .ok (.invokestatic index, 3)) {st1 : List Value} (hst1 : rv.toList ++ rest = st1) (kk : G X (pc + 3) lv st1 σ') : G X pc lv st0 σ := by
  subst hst1
  refine r_callK (aa := (av (gA X)).toArray) C (fun H locs ls hP hS h => ?_) kk
  obtain ⟨y1, y3, y4, y5, y6, y7⟩ := hy
  have hb := fun w (hw : w ∈ BIG) => C.2.2.2.2.2.1 w hw
  have cw : CallB X.1.2.2.2 X.2.1.1 X.2.1.2.2.1 own index y bc nl rt (.code y bc nl rt :: BIG) { frames := fr', cells := 0, slots := 0, locals := lo' } 0 0 n ∧ (Cond.static y).before X.2.1.2.2.1 X.2.1.1 = true :=
    ⟨callB_of n hb (gGoodC y4) rfl rfl rfl (hb _ y3) (hb _ hl) ⟨y5, y6, y7⟩ (by rw [C.2.2.2.2.2.2.2.2.2.2]; exact hfr), hb _ y1⟩
  have hM1 := hM X.2.2.2.1 X.2.2.2.2.1 X.2.2.2.2.2.1 H.size
  rw [hav] at hM1 ⊢
  exact va_runS (As := As) (rest := rest) ⟨C.1, C.2.1, C.2.2.1, C.2.2.2.2.1, hb⟩ hM1 cw ⟨gPre_blind, gPre_at C hP⟩ rfl hn (by rw [h.1, C.2.2.2.1]) hst (lv_room hrest) d ⟨Nat.zero_le _, Nat.zero_le _⟩
theorem r_callSN (C : gC X cc own nL fr lo) {y : MethodName} {host : String} {bc : ByteArray} {nl n index fr' lo' : Nat} {rt : Option FieldType} {av : (Nat → Nat) → List Value} {σ' : gS} {rv : Option Value} {As rest : List Value} (hM : gMet X.1.2.1 y bc nl rt fr' lo' av σ rv σ') (hy : gCalS y bc nl rt n) (hl : (own, index, y, host) ∈ gNwM) (hav : av (gA X) = As) (hn : As.length = n) {st0 : List Value} (hst : st0 = As.reverse ++ rest) (hrest : (rest.map fun v => v.category).sum ≤ 8) (hfr : fr' + 1 ≤ fr ∧ 8 + (nl + 11) + lo' ≤ lo) (d : decode cc pc = .ok (.invokestatic index, 3)) {st1 : List Value} (hst1 : rv.toList ++ rest = st1) (kk : G X (pc + 3) lv st1 σ') : G X pc lv st0 σ := by
  subst hst1
  refine r_callK (aa := (av (gA X)).toArray) C (fun H locs ls hP hS h => ?_) kk
  obtain ⟨y1, y3, y4, y5, y6, y7⟩ := hy
  have hb := fun w (hw : w ∈ BIG) => C.2.2.2.2.2.1 w hw
  have cw := va_cnB (R := X.1.2.2.2) (s := X.2.1.1) (args := X.2.1.2.2.1) (own := own) (host := host) (index := index) (rm := { frames := fr', cells := 0, slots := 0, locals := lo' }) (mc := 0) (ms := 0) n hb (gGoodC y4) rfl rfl rfl (C.2.2.2.2.2.2.2.1.2 _ hl) (hb _ y3) ⟨y5, y6, y7⟩ (by rw [C.2.2.2.2.2.2.2.2.2.2]; exact hfr)
  have hM1 := hM X.2.2.2.1 X.2.2.2.2.1 X.2.2.2.2.2.1 H.size
  rw [hav] at hM1 ⊢
  exact va_runSN (As := As) (rest := rest) ⟨C.1, C.2.1, C.2.2.1, C.2.2.2.2.1, hb⟩ hM1 ⟨cw, hb _ y1, trivial⟩ ⟨gPre_blind, gPre_at C hP⟩ rfl hn (by rw [h.1, C.2.2.2.1]) hst (lv_room hrest) d ⟨Nat.zero_le _, Nat.zero_le _⟩
end GR
end
section
theorem cel_Ga : ∀ z a f g, gCel z a f g 0 = .inr (0, fl_Ga a f) := fun _ _ _ _ => rfl
theorem cel_Fo : ∀ z a f g, gCel z a f g 1 = .inr (1, fl_Fo a f) := fun _ _ _ _ => rfl
theorem cel_Ta : ∀ z a f g, gCel z a f g 16 = .inr (2, fl_Ta a f) := fun _ _ _ _ => rfl
theorem cel_Po : ∀ z a f g, gCel z a f g 23 = .inr (3, fl_Po a f) := fun _ _ _ _ => rfl
theorem cel_Le : ∀ z a f g, gCel z a f g 34 = .inr (4, fl_Le a f) := fun _ _ _ _ => rfl
theorem cel_An : ∀ z a f g, gCel z a f g 39 = .inr (5, fl_An a f) := fun _ _ _ _ => rfl
theorem cel_Mo : ∀ z a f g, gCel z a f g 46 = .inr (6, fl_Mo a f) := fun _ _ _ _ => rfl
set_option maxRecDepth 100000 in
theorem m_0 : Cond.fieldLink R_Fo 9 (T_Fo 0).1 (T_Fo 0).2.1 (T_Fo 0).2.2.1 ∈ BIG := List.mem_filter.mpr ⟨List.mem_append_right _ (List.mem_of_getElem? (i := 25) rfl), rfl⟩
set_option maxRecDepth 100000 in
theorem m_1 : Cond.fieldLink R_Fo 15 (T_Fo 1).1 (T_Fo 1).2.1 (T_Fo 1).2.2.1 ∈ BIG := List.mem_filter.mpr ⟨List.mem_append_right _ (List.mem_of_getElem? (i := 28) rfl), rfl⟩
set_option maxRecDepth 100000 in
theorem m_2 : Cond.fieldLink R_Fo 18 (T_Fo 2).1 (T_Fo 2).2.1 (T_Fo 2).2.2.1 ∈ BIG := List.mem_filter.mpr ⟨List.mem_append_right _ (List.mem_of_getElem? (i := 30) rfl), rfl⟩
set_option maxRecDepth 100000 in
theorem m_3 : Cond.fieldLink R_Ga 10 (T_Ga 0).1 (T_Ga 0).2.1 (T_Ga 0).2.2.1 ∈ BIG := List.mem_filter.mpr ⟨List.mem_append_right _ (List.mem_of_getElem? (i := 203) rfl), rfl⟩
set_option maxRecDepth 100000 in
theorem m_4 : Cond.methodLink R_Ga 48 y_Fo_dropAll ∈ BIG := List.mem_filter.mpr ⟨List.mem_append_right _ (List.mem_of_getElem? (i := 223) rfl), rfl⟩
set_option maxRecDepth 100000 in
theorem m_5 : Cond.initialized R_Fo ∈ BIG := List.mem_filter.mpr ⟨List.mem_append_right _ (List.mem_of_getElem? (i := 2) rfl), rfl⟩
set_option maxRecDepth 100000 in
theorem m_6 : Cond.code y_Fo_dropAll b_Fo_dropAll_c 2 (some .int) ∈ BIG := List.mem_filter.mpr ⟨List.mem_append_right _ (List.mem_of_getElem? (i := 226) rfl), rfl⟩
set_option maxRecDepth 100000 in
theorem m_7 : Cond.instanceMethod y_Fo_dropAll ∈ BIG := List.mem_filter.mpr ⟨List.mem_append_right _ (List.mem_of_getElem? (i := 224) rfl), rfl⟩
set_option maxRecDepth 100000 in
theorem m_8 : Cond.selects R_Fo y_Fo_dropAll y_Fo_dropAll ∈ BIG := List.mem_filter.mpr ⟨List.mem_append_right _ (List.mem_of_getElem? (i := 225) rfl), rfl⟩
set_option maxRecDepth 100000 in
theorem m_9 : Cond.fieldLink R_Fo 56 (T_Fo 14).1 (T_Fo 14).2.1 (T_Fo 14).2.2.1 ∈ BIG := List.mem_filter.mpr ⟨List.mem_append_right _ (List.mem_of_getElem? (i := 53) rfl), rfl⟩
set_option maxRecDepth 100000 in
theorem m_10 : Cond.fieldLink R_Fo 31 (T_Fo 6).1 (T_Fo 6).2.1 (T_Fo 6).2.2.1 ∈ BIG := List.mem_filter.mpr ⟨List.mem_append_right _ (List.mem_of_getElem? (i := 43) rfl), rfl⟩
set_option maxRecDepth 100000 in
theorem m_11 : Cond.fieldLink R_Fo 59 (T_Fo 15).1 (T_Fo 15).2.1 (T_Fo 15).2.2.1 ∈ BIG := List.mem_filter.mpr ⟨List.mem_append_right _ (List.mem_of_getElem? (i := 54) rfl), rfl⟩
set_option maxRecDepth 100000 in
theorem m_12 : Cond.methodLink R_Ga 52 y_Ga_isPlayer ∈ BIG := List.mem_filter.mpr ⟨List.mem_append_right _ (List.mem_of_getElem? (i := 231) rfl), rfl⟩
set_option maxRecDepth 100000 in
theorem m_13 : Cond.initialized R_Ga ∈ BIG := List.mem_filter.mpr ⟨List.mem_append_right _ (List.mem_of_getElem? (i := 1) rfl), rfl⟩
set_option maxRecDepth 100000 in
theorem m_14 : Cond.code y_Ga_isPlayer b_Ga_isPlayer_c 1 (some .boolean) ∈ BIG := List.mem_filter.mpr ⟨List.mem_append_right _ (List.mem_of_getElem? (i := 233) rfl), rfl⟩
set_option maxRecDepth 100000 in
theorem m_15 : Cond.static y_Ga_isPlayer ∈ BIG := List.mem_filter.mpr ⟨List.mem_append_right _ (List.mem_of_getElem? (i := 232) rfl), rfl⟩
set_option maxRecDepth 100000 in
theorem m_16 : Cond.methodLink R_Ga 56 y_Ga_isAmong ∈ BIG := List.mem_filter.mpr ⟨List.mem_append_right _ (List.mem_of_getElem? (i := 234) rfl), rfl⟩
set_option maxRecDepth 100000 in
theorem m_17 : Cond.code y_Ga_isAmong b_Ga_isAmong_c 3 (some .boolean) ∈ BIG := List.mem_filter.mpr ⟨List.mem_append_right _ (List.mem_of_getElem? (i := 236) rfl), rfl⟩
set_option maxRecDepth 100000 in
theorem m_18 : Cond.static y_Ga_isAmong ∈ BIG := List.mem_filter.mpr ⟨List.mem_append_right _ (List.mem_of_getElem? (i := 235) rfl), rfl⟩
set_option maxRecDepth 100000 in
theorem m_19 : Cond.methodLink R_Ga 60 y_Fo_addSet ∈ BIG := List.mem_filter.mpr ⟨List.mem_append_right _ (List.mem_of_getElem? (i := 237) rfl), rfl⟩
set_option maxRecDepth 100000 in
theorem m_20 : Cond.code y_Fo_addSet b_Fo_addSet_c 3 (some .int) ∈ BIG := List.mem_filter.mpr ⟨List.mem_append_right _ (List.mem_of_getElem? (i := 240) rfl), rfl⟩
set_option maxRecDepth 100000 in
theorem m_21 : Cond.instanceMethod y_Fo_addSet ∈ BIG := List.mem_filter.mpr ⟨List.mem_append_right _ (List.mem_of_getElem? (i := 238) rfl), rfl⟩
set_option maxRecDepth 100000 in
theorem m_22 : Cond.selects R_Fo y_Fo_addSet y_Fo_addSet ∈ BIG := List.mem_filter.mpr ⟨List.mem_append_right _ (List.mem_of_getElem? (i := 239) rfl), rfl⟩
set_option maxRecDepth 100000 in
theorem m_23 : Cond.fieldLink R_Fo 37 (T_Fo 8).1 (T_Fo 8).2.1 (T_Fo 8).2.2.1 ∈ BIG := List.mem_filter.mpr ⟨List.mem_append_right _ (List.mem_of_getElem? (i := 46) rfl), rfl⟩
set_option maxRecDepth 100000 in
theorem m_24 : Cond.fieldLink R_Fo 21 (T_Fo 3).1 (T_Fo 3).2.1 (T_Fo 3).2.2.1 ∈ BIG := List.mem_filter.mpr ⟨List.mem_append_right _ (List.mem_of_getElem? (i := 35) rfl), rfl⟩
set_option maxRecDepth 100000 in
theorem m_25 : Cond.fieldLink R_Fo 25 (T_Fo 4).1 (T_Fo 4).2.1 (T_Fo 4).2.2.1 ∈ BIG := List.mem_filter.mpr ⟨List.mem_append_right _ (List.mem_of_getElem? (i := 38) rfl), rfl⟩
set_option maxRecDepth 100000 in
theorem m_26 : Cond.fieldLink R_Fo 40 (T_Fo 9).1 (T_Fo 9).2.1 (T_Fo 9).2.2.1 ∈ BIG := List.mem_filter.mpr ⟨List.mem_append_right _ (List.mem_of_getElem? (i := 47) rfl), rfl⟩
set_option maxRecDepth 100000 in
theorem m_27 : Cond.fieldLink R_Fo 28 (T_Fo 5).1 (T_Fo 5).2.1 (T_Fo 5).2.2.1 ∈ BIG := List.mem_filter.mpr ⟨List.mem_append_right _ (List.mem_of_getElem? (i := 41) rfl), rfl⟩
set_option maxRecDepth 100000 in
theorem m_28 : Cond.fieldLink R_Fo 49 (T_Fo 12).1 (T_Fo 12).2.1 (T_Fo 12).2.2.1 ∈ BIG := List.mem_filter.mpr ⟨List.mem_append_right _ (List.mem_of_getElem? (i := 51) rfl), rfl⟩
set_option maxRecDepth 100000 in
theorem m_29 : Cond.methodLink R_Fo 65 y_Fo_startNode ∈ BIG := List.mem_filter.mpr ⟨List.mem_append_right _ (List.mem_of_getElem? (i := 249) rfl), rfl⟩
set_option maxRecDepth 100000 in
theorem m_30 : Cond.code y_Fo_startNode b_Fo_startNode_c 5 (some .int) ∈ BIG := List.mem_filter.mpr ⟨List.mem_append_right _ (List.mem_of_getElem? (i := 252) rfl), rfl⟩
set_option maxRecDepth 100000 in
theorem m_31 : Cond.instanceMethod y_Fo_startNode ∈ BIG := List.mem_filter.mpr ⟨List.mem_append_right _ (List.mem_of_getElem? (i := 251) rfl), rfl⟩
set_option maxRecDepth 100000 in
theorem m_32 : Cond.selects R_Fo y_Fo_startNode y_Fo_startNode ∈ BIG := List.mem_filter.mpr ⟨List.mem_append_left _ (List.mem_of_getElem? (i := 0) rfl), rfl⟩
set_option maxRecDepth 100000 in
theorem m_33 : Cond.fieldLink R_Fo 34 (T_Fo 7).1 (T_Fo 7).2.1 (T_Fo 7).2.2.1 ∈ BIG := List.mem_filter.mpr ⟨List.mem_append_right _ (List.mem_of_getElem? (i := 45) rfl), rfl⟩
set_option maxRecDepth 100000 in
theorem m_34 : Cond.fieldLink R_Fo 43 (T_Fo 10).1 (T_Fo 10).2.1 (T_Fo 10).2.2.1 ∈ BIG := List.mem_filter.mpr ⟨List.mem_append_right _ (List.mem_of_getElem? (i := 49) rfl), rfl⟩
set_option maxRecDepth 100000 in
theorem m_35 : Cond.fieldLink R_Fo 46 (T_Fo 11).1 (T_Fo 11).2.1 (T_Fo 11).2.2.1 ∈ BIG := List.mem_filter.mpr ⟨List.mem_append_right _ (List.mem_of_getElem? (i := 50) rfl), rfl⟩
set_option maxRecDepth 100000 in
theorem m_36 : Cond.fieldLink R_Fo 53 (T_Fo 13).1 (T_Fo 13).2.1 (T_Fo 13).2.2.1 ∈ BIG := List.mem_filter.mpr ⟨List.mem_append_right _ (List.mem_of_getElem? (i := 52) rfl), rfl⟩
set_option maxRecDepth 100000 in
theorem m_37 : Cond.methodLink R_Ga 64 y_Fo_addEnd ∈ BIG := List.mem_filter.mpr ⟨List.mem_append_right _ (List.mem_of_getElem? (i := 245) rfl), rfl⟩
set_option maxRecDepth 100000 in
theorem m_38 : Cond.code y_Fo_addEnd b_Fo_addEnd_c 4 (some .int) ∈ BIG := List.mem_filter.mpr ⟨List.mem_append_right _ (List.mem_of_getElem? (i := 248) rfl), rfl⟩
set_option maxRecDepth 100000 in
theorem m_39 : Cond.instanceMethod y_Fo_addEnd ∈ BIG := List.mem_filter.mpr ⟨List.mem_append_right _ (List.mem_of_getElem? (i := 246) rfl), rfl⟩
set_option maxRecDepth 100000 in
theorem m_40 : Cond.selects R_Fo y_Fo_addEnd y_Fo_addEnd ∈ BIG := List.mem_filter.mpr ⟨List.mem_append_right _ (List.mem_of_getElem? (i := 247) rfl), rfl⟩
set_option maxRecDepth 100000 in
theorem m_41 : Cond.fieldLink R_Fo 62 (T_Fo 16).1 (T_Fo 16).2.1 (T_Fo 16).2.2.1 ∈ BIG := List.mem_filter.mpr ⟨List.mem_append_right _ (List.mem_of_getElem? (i := 55) rfl), rfl⟩
set_option maxRecDepth 100000 in
theorem m_42 : Cond.methodLink R_Fo 91 y_Fo_hasNode ∈ BIG := List.mem_filter.mpr ⟨List.mem_append_right _ (List.mem_of_getElem? (i := 269) rfl), rfl⟩
set_option maxRecDepth 100000 in
theorem m_43 : Cond.code y_Fo_hasNode b_Fo_hasNode_c 2 (some .boolean) ∈ BIG := List.mem_filter.mpr ⟨List.mem_append_right _ (List.mem_of_getElem? (i := 272) rfl), rfl⟩
set_option maxRecDepth 100000 in
theorem m_44 : Cond.instanceMethod y_Fo_hasNode ∈ BIG := List.mem_filter.mpr ⟨List.mem_append_right _ (List.mem_of_getElem? (i := 270) rfl), rfl⟩
set_option maxRecDepth 100000 in
theorem m_45 : Cond.selects R_Fo y_Fo_hasNode y_Fo_hasNode ∈ BIG := List.mem_filter.mpr ⟨List.mem_append_right _ (List.mem_of_getElem? (i := 271) rfl), rfl⟩
set_option maxRecDepth 100000 in
theorem m_46 : Cond.methodLink R_Fo 94 y_Ma_max ∈ BIG := List.mem_filter.mpr ⟨List.mem_append_right _ (List.mem_of_getElem? (i := 281) rfl), rfl⟩
set_option maxRecDepth 100000 in
theorem m_47 : Cond.initialized R_Ma ∈ BIG := List.mem_filter.mpr ⟨List.mem_append_right _ (List.mem_of_getElem? (i := 8) rfl), rfl⟩
set_option maxRecDepth 100000 in
theorem m_48 : Cond.code y_Ma_max b_Ma_max_c 2 (some .int) ∈ BIG := List.mem_filter.mpr ⟨List.mem_append_right _ (List.mem_of_getElem? (i := 283) rfl), rfl⟩
set_option maxRecDepth 100000 in
theorem m_49 : Cond.static y_Ma_max ∈ BIG := List.mem_filter.mpr ⟨List.mem_append_right _ (List.mem_of_getElem? (i := 282) rfl), rfl⟩
set_option maxRecDepth 100000 in
theorem m_50 : Cond.code y_Ga_hasBit b_Ga_hasBit_c 3 (some .boolean) ∈ BIG := List.mem_filter.mpr ⟨List.mem_append_right _ (List.mem_of_getElem? (i := 294) rfl), rfl⟩
set_option maxRecDepth 100000 in
theorem m_51 : Cond.static y_Ga_hasBit ∈ BIG := List.mem_filter.mpr ⟨List.mem_append_right _ (List.mem_of_getElem? (i := 293) rfl), rfl⟩
set_option maxRecDepth 100000 in
theorem m_52 : Cond.methodLink R_Fo 87 y_Fo_adoptOffered ∈ BIG := List.mem_filter.mpr ⟨List.mem_append_right _ (List.mem_of_getElem? (i := 295) rfl), rfl⟩
set_option maxRecDepth 100000 in
theorem m_53 : Cond.code y_Fo_adoptOffered b_Fo_adoptOffered_c 4 none ∈ BIG := List.mem_filter.mpr ⟨List.mem_append_right _ (List.mem_of_getElem? (i := 298) rfl), rfl⟩
set_option maxRecDepth 100000 in
theorem m_54 : Cond.instanceMethod y_Fo_adoptOffered ∈ BIG := List.mem_filter.mpr ⟨List.mem_append_right _ (List.mem_of_getElem? (i := 297) rfl), rfl⟩
set_option maxRecDepth 100000 in
theorem m_55 : Cond.selects R_Fo y_Fo_adoptOffered y_Fo_adoptOffered ∈ BIG := List.mem_filter.mpr ⟨List.mem_append_left _ (List.mem_of_getElem? (i := 6) rfl), rfl⟩
set_option maxRecDepth 100000 in
theorem m_56 : Cond.methodLink R_Fo 84 y_Fo_plansWith ∈ BIG := List.mem_filter.mpr ⟨List.mem_append_right _ (List.mem_of_getElem? (i := 288) rfl), rfl⟩
set_option maxRecDepth 100000 in
theorem m_57 : Cond.code y_Fo_plansWith b_Fo_plansWith_c 5 (some .int) ∈ BIG := List.mem_filter.mpr ⟨List.mem_append_right _ (List.mem_of_getElem? (i := 291) rfl), rfl⟩
set_option maxRecDepth 100000 in
theorem m_58 : Cond.instanceMethod y_Fo_plansWith ∈ BIG := List.mem_filter.mpr ⟨List.mem_append_right _ (List.mem_of_getElem? (i := 290) rfl), rfl⟩
set_option maxRecDepth 100000 in
theorem m_59 : Cond.selects R_Fo y_Fo_plansWith y_Fo_plansWith ∈ BIG := List.mem_filter.mpr ⟨List.mem_append_left _ (List.mem_of_getElem? (i := 5) rfl), rfl⟩
set_option maxRecDepth 100000 in
theorem m_60 : Cond.methodLink R_Fo 80 y_Fo_setsOffered ∈ BIG := List.mem_filter.mpr ⟨List.mem_append_right _ (List.mem_of_getElem? (i := 284) rfl), rfl⟩
set_option maxRecDepth 100000 in
theorem m_61 : Cond.code y_Fo_setsOffered b_Fo_setsOffered_c 4 (some .int) ∈ BIG := List.mem_filter.mpr ⟨List.mem_append_right _ (List.mem_of_getElem? (i := 287) rfl), rfl⟩
set_option maxRecDepth 100000 in
theorem m_62 : Cond.instanceMethod y_Fo_setsOffered ∈ BIG := List.mem_filter.mpr ⟨List.mem_append_right _ (List.mem_of_getElem? (i := 286) rfl), rfl⟩
set_option maxRecDepth 100000 in
theorem m_63 : Cond.selects R_Fo y_Fo_setsOffered y_Fo_setsOffered ∈ BIG := List.mem_filter.mpr ⟨List.mem_append_left _ (List.mem_of_getElem? (i := 4) rfl), rfl⟩
set_option maxRecDepth 100000 in
theorem m_64 : Cond.methodLink R_Fo 69 y_Fo_areOfferedThere ∈ BIG := List.mem_filter.mpr ⟨List.mem_append_right _ (List.mem_of_getElem? (i := 265) rfl), rfl⟩
set_option maxRecDepth 100000 in
theorem m_65 : Cond.code y_Fo_areOfferedThere b_Fo_areOfferedThere_c 3 (some .boolean) ∈ BIG := List.mem_filter.mpr ⟨List.mem_append_right _ (List.mem_of_getElem? (i := 268) rfl), rfl⟩
set_option maxRecDepth 100000 in
theorem m_66 : Cond.instanceMethod y_Fo_areOfferedThere ∈ BIG := List.mem_filter.mpr ⟨List.mem_append_right _ (List.mem_of_getElem? (i := 267) rfl), rfl⟩
set_option maxRecDepth 100000 in
theorem m_67 : Cond.selects R_Fo y_Fo_areOfferedThere y_Fo_areOfferedThere ∈ BIG := List.mem_filter.mpr ⟨List.mem_append_left _ (List.mem_of_getElem? (i := 1) rfl), rfl⟩
set_option maxRecDepth 100000 in
theorem m_68 : Cond.methodLink R_Fo 73 y_Fo_isOfferedTaken ∈ BIG := List.mem_filter.mpr ⟨List.mem_append_right _ (List.mem_of_getElem? (i := 273) rfl), rfl⟩
set_option maxRecDepth 100000 in
theorem m_69 : Cond.code y_Fo_isOfferedTaken b_Fo_isOfferedTaken_c 4 (some .boolean) ∈ BIG := List.mem_filter.mpr ⟨List.mem_append_right _ (List.mem_of_getElem? (i := 276) rfl), rfl⟩
set_option maxRecDepth 100000 in
theorem m_70 : Cond.instanceMethod y_Fo_isOfferedTaken ∈ BIG := List.mem_filter.mpr ⟨List.mem_append_right _ (List.mem_of_getElem? (i := 275) rfl), rfl⟩
set_option maxRecDepth 100000 in
theorem m_71 : Cond.selects R_Fo y_Fo_isOfferedTaken y_Fo_isOfferedTaken ∈ BIG := List.mem_filter.mpr ⟨List.mem_append_left _ (List.mem_of_getElem? (i := 2) rfl), rfl⟩
set_option maxRecDepth 100000 in
theorem m_72 : Cond.methodLink R_Fo 76 y_Fo_greatestOffered ∈ BIG := List.mem_filter.mpr ⟨List.mem_append_right _ (List.mem_of_getElem? (i := 277) rfl), rfl⟩
set_option maxRecDepth 100000 in
theorem m_73 : Cond.code y_Fo_greatestOffered b_Fo_greatestOffered_c 5 (some .int) ∈ BIG := List.mem_filter.mpr ⟨List.mem_append_right _ (List.mem_of_getElem? (i := 280) rfl), rfl⟩
set_option maxRecDepth 100000 in
theorem m_74 : Cond.instanceMethod y_Fo_greatestOffered ∈ BIG := List.mem_filter.mpr ⟨List.mem_append_right _ (List.mem_of_getElem? (i := 279) rfl), rfl⟩
set_option maxRecDepth 100000 in
theorem m_75 : Cond.selects R_Fo y_Fo_greatestOffered y_Fo_greatestOffered ∈ BIG := List.mem_filter.mpr ⟨List.mem_append_left _ (List.mem_of_getElem? (i := 3) rfl), rfl⟩
set_option maxRecDepth 100000 in
theorem m_76 : Cond.methodLink R_Ga 67 y_Fo_offer ∈ BIG := List.mem_filter.mpr ⟨List.mem_append_right _ (List.mem_of_getElem? (i := 257) rfl), rfl⟩
set_option maxRecDepth 100000 in
theorem m_77 : Cond.code y_Fo_offer b_Fo_offer_c 4 none ∈ BIG := List.mem_filter.mpr ⟨List.mem_append_right _ (List.mem_of_getElem? (i := 260) rfl), rfl⟩
set_option maxRecDepth 100000 in
theorem m_78 : Cond.instanceMethod y_Fo_offer ∈ BIG := List.mem_filter.mpr ⟨List.mem_append_right _ (List.mem_of_getElem? (i := 258) rfl), rfl⟩
set_option maxRecDepth 100000 in
theorem m_79 : Cond.selects R_Fo y_Fo_offer y_Fo_offer ∈ BIG := List.mem_filter.mpr ⟨List.mem_append_right _ (List.mem_of_getElem? (i := 259) rfl), rfl⟩
set_option maxRecDepth 100000 in
theorem m_80 : Cond.methodLink R_Ga 71 y_Fo_addParent ∈ BIG := List.mem_filter.mpr ⟨List.mem_append_right _ (List.mem_of_getElem? (i := 261) rfl), rfl⟩
set_option maxRecDepth 100000 in
theorem m_81 : Cond.code y_Fo_addParent b_Fo_addParent_c 7 (some .int) ∈ BIG := List.mem_filter.mpr ⟨List.mem_append_right _ (List.mem_of_getElem? (i := 264) rfl), rfl⟩
set_option maxRecDepth 100000 in
theorem m_82 : Cond.instanceMethod y_Fo_addParent ∈ BIG := List.mem_filter.mpr ⟨List.mem_append_right _ (List.mem_of_getElem? (i := 262) rfl), rfl⟩
set_option maxRecDepth 100000 in
theorem m_83 : Cond.selects R_Fo y_Fo_addParent y_Fo_addParent ∈ BIG := List.mem_filter.mpr ⟨List.mem_append_right _ (List.mem_of_getElem? (i := 263) rfl), rfl⟩
set_option maxRecDepth 100000 in
theorem m_84 : Cond.methodLink R_Ga 74 y_Fo_hasSet ∈ BIG := List.mem_filter.mpr ⟨List.mem_append_right _ (List.mem_of_getElem? (i := 303) rfl), rfl⟩
set_option maxRecDepth 100000 in
theorem m_85 : Cond.code y_Fo_hasSet b_Fo_hasSet_c 2 (some .boolean) ∈ BIG := List.mem_filter.mpr ⟨List.mem_append_right _ (List.mem_of_getElem? (i := 306) rfl), rfl⟩
set_option maxRecDepth 100000 in
theorem m_86 : Cond.instanceMethod y_Fo_hasSet ∈ BIG := List.mem_filter.mpr ⟨List.mem_append_right _ (List.mem_of_getElem? (i := 304) rfl), rfl⟩
set_option maxRecDepth 100000 in
theorem m_87 : Cond.selects R_Fo y_Fo_hasSet y_Fo_hasSet ∈ BIG := List.mem_filter.mpr ⟨List.mem_append_right _ (List.mem_of_getElem? (i := 305) rfl), rfl⟩
set_option maxRecDepth 100000 in
theorem m_88 : Cond.fieldLink R_Ga 77 (T_Fo 6).1 (T_Fo 6).2.1 (T_Fo 6).2.2.1 ∈ BIG := List.mem_filter.mpr ⟨List.mem_append_right _ (List.mem_of_getElem? (i := 44) rfl), rfl⟩
set_option maxRecDepth 100000 in
theorem m_89 : Cond.fieldLink R_Ga 86 (T_Fo 0).1 (T_Fo 0).2.1 (T_Fo 0).2.2.1 ∈ BIG := List.mem_filter.mpr ⟨List.mem_append_right _ (List.mem_of_getElem? (i := 27) rfl), rfl⟩
set_option maxRecDepth 100000 in
theorem m_90 : Cond.methodLink R_Fo 99 y_Fo_root ∈ BIG := List.mem_filter.mpr ⟨List.mem_append_right _ (List.mem_of_getElem? (i := 320) rfl), rfl⟩
set_option maxRecDepth 100000 in
theorem m_91 : Cond.code y_Fo_root b_Fo_root_c 1 (some .int) ∈ BIG := List.mem_filter.mpr ⟨List.mem_append_right _ (List.mem_of_getElem? (i := 323) rfl), rfl⟩
set_option maxRecDepth 100000 in
theorem m_92 : Cond.instanceMethod y_Fo_root ∈ BIG := List.mem_filter.mpr ⟨List.mem_append_right _ (List.mem_of_getElem? (i := 321) rfl), rfl⟩
set_option maxRecDepth 100000 in
theorem m_93 : Cond.selects R_Fo y_Fo_root y_Fo_root ∈ BIG := List.mem_filter.mpr ⟨List.mem_append_right _ (List.mem_of_getElem? (i := 322) rfl), rfl⟩
set_option maxRecDepth 100000 in
theorem m_94 : Cond.constantLong R_Lo 314 6148914691236517205 ∈ BIG := List.mem_filter.mpr ⟨List.mem_append_right _ (List.mem_of_getElem? (i := 327) rfl), rfl⟩
set_option maxRecDepth 100000 in
theorem m_95 : Cond.constantLong R_Lo 316 3689348814741910323 ∈ BIG := List.mem_filter.mpr ⟨List.mem_append_right _ (List.mem_of_getElem? (i := 328) rfl), rfl⟩
set_option maxRecDepth 100000 in
theorem m_96 : Cond.constantLong R_Lo 318 1085102592571150095 ∈ BIG := List.mem_filter.mpr ⟨List.mem_append_right _ (List.mem_of_getElem? (i := 329) rfl), rfl⟩
set_option maxRecDepth 100000 in
theorem m_97 : Cond.methodLink R_Fo 103 y_Fo_setsInTree ∈ BIG := List.mem_filter.mpr ⟨List.mem_append_right _ (List.mem_of_getElem? (i := 334) rfl), rfl⟩
set_option maxRecDepth 100000 in
theorem m_98 : Cond.code y_Fo_setsInTree b_Fo_setsInTree_c 1 (some .int) ∈ BIG := List.mem_filter.mpr ⟨List.mem_append_right _ (List.mem_of_getElem? (i := 337) rfl), rfl⟩
set_option maxRecDepth 100000 in
theorem m_99 : Cond.instanceMethod y_Fo_setsInTree ∈ BIG := List.mem_filter.mpr ⟨List.mem_append_right _ (List.mem_of_getElem? (i := 336) rfl), rfl⟩
set_option maxRecDepth 100000 in
theorem m_100 : Cond.selects R_Fo y_Fo_setsInTree y_Fo_setsInTree ∈ BIG := List.mem_filter.mpr ⟨List.mem_append_left _ (List.mem_of_getElem? (i := 8) rfl), rfl⟩
set_option maxRecDepth 100000 in
theorem m_101 : Cond.constantLong R_Ga 204 (-1) ∈ BIG := List.mem_filter.mpr ⟨List.mem_append_right _ (List.mem_of_getElem? (i := 349) rfl), rfl⟩
set_option maxRecDepth 100000 in
theorem m_102 : Cond.methodLink R_Fo 114 y_Fo_nodesInTree ∈ BIG := List.mem_filter.mpr ⟨List.mem_append_right _ (List.mem_of_getElem? (i := 357) rfl), rfl⟩
set_option maxRecDepth 100000 in
theorem m_103 : Cond.code y_Fo_nodesInTree b_Fo_nodesInTree_c 1 (some .long) ∈ BIG := List.mem_filter.mpr ⟨List.mem_append_right _ (List.mem_of_getElem? (i := 319) rfl), rfl⟩
set_option maxRecDepth 100000 in
theorem m_104 : Cond.instanceMethod y_Fo_nodesInTree ∈ BIG := List.mem_filter.mpr ⟨List.mem_append_right _ (List.mem_of_getElem? (i := 317) rfl), rfl⟩
set_option maxRecDepth 100000 in
theorem m_105 : Cond.selects R_Fo y_Fo_nodesInTree y_Fo_nodesInTree ∈ BIG := List.mem_filter.mpr ⟨List.mem_append_right _ (List.mem_of_getElem? (i := 318) rfl), rfl⟩
set_option maxRecDepth 100000 in
theorem m_106 : Cond.constantLong R_Fo 121 (-1) ∈ BIG := List.mem_filter.mpr ⟨List.mem_append_right _ (List.mem_of_getElem? (i := 362) rfl), rfl⟩
set_option maxRecDepth 100000 in
theorem m_107 : Cond.methodLink R_Fo 118 y_Fo_isGameWithin ∈ BIG := List.mem_filter.mpr ⟨List.mem_append_right _ (List.mem_of_getElem? (i := 358) rfl), rfl⟩
set_option maxRecDepth 100000 in
theorem m_108 : Cond.code y_Fo_isGameWithin b_Fo_isGameWithin_c 5 (some .boolean) ∈ BIG := List.mem_filter.mpr ⟨List.mem_append_right _ (List.mem_of_getElem? (i := 361) rfl), rfl⟩
set_option maxRecDepth 100000 in
theorem m_109 : Cond.instanceMethod y_Fo_isGameWithin ∈ BIG := List.mem_filter.mpr ⟨List.mem_append_right _ (List.mem_of_getElem? (i := 360) rfl), rfl⟩
set_option maxRecDepth 100000 in
theorem m_110 : Cond.selects R_Fo y_Fo_isGameWithin y_Fo_isGameWithin ∈ BIG := List.mem_filter.mpr ⟨List.mem_append_left _ (List.mem_of_getElem? (i := 9) rfl), rfl⟩
set_option maxRecDepth 100000 in
theorem m_111 : Cond.fieldLink R_Ta 23 (T_Ta 4).1 (T_Ta 4).2.1 (T_Ta 4).2.2.1 ∈ BIG := List.mem_filter.mpr ⟨List.mem_append_right _ (List.mem_of_getElem? (i := 108) rfl), rfl⟩
set_option maxRecDepth 100000 in
theorem m_112 : Cond.fieldLink R_Ta 33 (T_Ta 1).1 (T_Ta 1).2.1 (T_Ta 1).2.2.1 ∈ BIG := List.mem_filter.mpr ⟨List.mem_append_right _ (List.mem_of_getElem? (i := 105) rfl), rfl⟩
set_option maxRecDepth 100000 in
theorem m_113 : Cond.methodLink R_Ta 80 y_Fo_childAt ∈ BIG := List.mem_filter.mpr ⟨List.mem_append_right _ (List.mem_of_getElem? (i := 392) rfl), rfl⟩
set_option maxRecDepth 100000 in
theorem m_114 : Cond.code y_Fo_childAt b_Fo_childAt_c 3 (some .int) ∈ BIG := List.mem_filter.mpr ⟨List.mem_append_right _ (List.mem_of_getElem? (i := 395) rfl), rfl⟩
set_option maxRecDepth 100000 in
theorem m_115 : Cond.instanceMethod y_Fo_childAt ∈ BIG := List.mem_filter.mpr ⟨List.mem_append_right _ (List.mem_of_getElem? (i := 393) rfl), rfl⟩
set_option maxRecDepth 100000 in
theorem m_116 : Cond.selects R_Fo y_Fo_childAt y_Fo_childAt ∈ BIG := List.mem_filter.mpr ⟨List.mem_append_right _ (List.mem_of_getElem? (i := 394) rfl), rfl⟩
set_option maxRecDepth 100000 in
theorem m_117 : Cond.fieldLink R_Ta 83 (T_Fo 9).1 (T_Fo 9).2.1 (T_Fo 9).2.2.1 ∈ BIG := List.mem_filter.mpr ⟨List.mem_append_right _ (List.mem_of_getElem? (i := 48) rfl), rfl⟩
set_option maxRecDepth 100000 in
theorem m_118 : Cond.fieldLink R_Ta 17 (T_Ta 2).1 (T_Ta 2).2.1 (T_Ta 2).2.2.1 ∈ BIG := List.mem_filter.mpr ⟨List.mem_append_right _ (List.mem_of_getElem? (i := 106) rfl), rfl⟩
set_option maxRecDepth 100000 in
theorem m_119 : Cond.fieldLink R_Ta 68 (T_Fo 3).1 (T_Fo 3).2.1 (T_Fo 3).2.2.1 ∈ BIG := List.mem_filter.mpr ⟨List.mem_append_right _ (List.mem_of_getElem? (i := 36) rfl), rfl⟩
set_option maxRecDepth 100000 in
theorem m_120 : Cond.fieldLink R_Ta 20 (T_Ta 3).1 (T_Ta 3).2.1 (T_Ta 3).2.2.1 ∈ BIG := List.mem_filter.mpr ⟨List.mem_append_right _ (List.mem_of_getElem? (i := 107) rfl), rfl⟩
set_option maxRecDepth 100000 in
theorem m_121 : Cond.fieldLink R_Ta 77 (T_Fo 4).1 (T_Fo 4).2.1 (T_Fo 4).2.2.1 ∈ BIG := List.mem_filter.mpr ⟨List.mem_append_right _ (List.mem_of_getElem? (i := 39) rfl), rfl⟩
set_option maxRecDepth 100000 in
theorem m_122 : Cond.methodLink R_Ta 74 y_Ta_shareAmongAll ∈ BIG := List.mem_filter.mpr ⟨List.mem_append_right _ (List.mem_of_getElem? (i := 388) rfl), rfl⟩
set_option maxRecDepth 100000 in
theorem m_123 : Cond.initialized R_Ta ∈ BIG := List.mem_filter.mpr ⟨List.mem_append_right _ (List.mem_of_getElem? (i := 3) rfl), rfl⟩
set_option maxRecDepth 100000 in
theorem m_124 : Cond.code y_Ta_shareAmongAll b_Ta_shareAmongAll_c 5 none ∈ BIG := List.mem_filter.mpr ⟨List.mem_append_right _ (List.mem_of_getElem? (i := 391) rfl), rfl⟩
set_option maxRecDepth 100000 in
theorem m_125 : Cond.instanceMethod y_Ta_shareAmongAll ∈ BIG := List.mem_filter.mpr ⟨List.mem_append_right _ (List.mem_of_getElem? (i := 390) rfl), rfl⟩
set_option maxRecDepth 100000 in
theorem m_126 : Cond.selects R_Ta y_Ta_shareAmongAll y_Ta_shareAmongAll ∈ BIG := List.mem_filter.mpr ⟨List.mem_append_left _ (List.mem_of_getElem? (i := 12) rfl), rfl⟩
set_option maxRecDepth 100000 in
theorem m_127 : Cond.methodLink R_Ta 71 y_Fo_worthAt ∈ BIG := List.mem_filter.mpr ⟨List.mem_append_right _ (List.mem_of_getElem? (i := 384) rfl), rfl⟩
set_option maxRecDepth 100000 in
theorem m_128 : Cond.code y_Fo_worthAt b_Fo_worthAt_c 3 (some .int) ∈ BIG := List.mem_filter.mpr ⟨List.mem_append_right _ (List.mem_of_getElem? (i := 387) rfl), rfl⟩
set_option maxRecDepth 100000 in
theorem m_129 : Cond.instanceMethod y_Fo_worthAt ∈ BIG := List.mem_filter.mpr ⟨List.mem_append_right _ (List.mem_of_getElem? (i := 385) rfl), rfl⟩
set_option maxRecDepth 100000 in
theorem m_130 : Cond.selects R_Fo y_Fo_worthAt y_Fo_worthAt ∈ BIG := List.mem_filter.mpr ⟨List.mem_append_right _ (List.mem_of_getElem? (i := 386) rfl), rfl⟩
set_option maxRecDepth 100000 in
theorem m_131 : Cond.methodLink R_Fo 110 y_Fo_isPlayedFrom ∈ BIG := List.mem_filter.mpr ⟨List.mem_append_right _ (List.mem_of_getElem? (i := 400) rfl), rfl⟩
set_option maxRecDepth 100000 in
theorem m_132 : Cond.code y_Fo_isPlayedFrom b_Fo_isPlayedFrom_c 4 (some .boolean) ∈ BIG := List.mem_filter.mpr ⟨List.mem_append_right _ (List.mem_of_getElem? (i := 403) rfl), rfl⟩
set_option maxRecDepth 100000 in
theorem m_133 : Cond.instanceMethod y_Fo_isPlayedFrom ∈ BIG := List.mem_filter.mpr ⟨List.mem_append_right _ (List.mem_of_getElem? (i := 402) rfl), rfl⟩
set_option maxRecDepth 100000 in
theorem m_134 : Cond.selects R_Fo y_Fo_isPlayedFrom y_Fo_isPlayedFrom ∈ BIG := List.mem_filter.mpr ⟨List.mem_append_left _ (List.mem_of_getElem? (i := 13) rfl), rfl⟩
set_option maxRecDepth 100000 in
theorem m_135 : Cond.fieldLink R_Ta 9 (T_Ta 0).1 (T_Ta 0).2.1 (T_Ta 0).2.2.1 ∈ BIG := List.mem_filter.mpr ⟨List.mem_append_right _ (List.mem_of_getElem? (i := 101) rfl), rfl⟩
set_option maxRecDepth 100000 in
theorem m_136 : Cond.methodLink R_Ta 64 y_Fo_stepPlan ∈ BIG := List.mem_filter.mpr ⟨List.mem_append_right _ (List.mem_of_getElem? (i := 396) rfl), rfl⟩
set_option maxRecDepth 100000 in
theorem m_137 : Cond.code y_Fo_stepPlan b_Fo_stepPlan_c 5 none ∈ BIG := List.mem_filter.mpr ⟨List.mem_append_right _ (List.mem_of_getElem? (i := 399) rfl), rfl⟩
set_option maxRecDepth 100000 in
theorem m_138 : Cond.instanceMethod y_Fo_stepPlan ∈ BIG := List.mem_filter.mpr ⟨List.mem_append_right _ (List.mem_of_getElem? (i := 397) rfl), rfl⟩
set_option maxRecDepth 100000 in
theorem m_139 : Cond.selects R_Fo y_Fo_stepPlan y_Fo_stepPlan ∈ BIG := List.mem_filter.mpr ⟨List.mem_append_right _ (List.mem_of_getElem? (i := 398) rfl), rfl⟩
set_option maxRecDepth 100000 in
theorem m_140 : Cond.methodLink R_Ta 60 y_Ta_weighPair ∈ BIG := List.mem_filter.mpr ⟨List.mem_append_right _ (List.mem_of_getElem? (i := 380) rfl), rfl⟩
set_option maxRecDepth 100000 in
theorem m_141 : Cond.code y_Ta_weighPair b_Ta_weighPair_c 7 none ∈ BIG := List.mem_filter.mpr ⟨List.mem_append_right _ (List.mem_of_getElem? (i := 383) rfl), rfl⟩
set_option maxRecDepth 100000 in
theorem m_142 : Cond.instanceMethod y_Ta_weighPair ∈ BIG := List.mem_filter.mpr ⟨List.mem_append_right _ (List.mem_of_getElem? (i := 382) rfl), rfl⟩
set_option maxRecDepth 100000 in
theorem m_143 : Cond.selects R_Ta y_Ta_weighPair y_Ta_weighPair ∈ BIG := List.mem_filter.mpr ⟨List.mem_append_left _ (List.mem_of_getElem? (i := 11) rfl), rfl⟩
set_option maxRecDepth 100000 in
theorem m_144 : Cond.fieldLink R_Ta 47 (T_Fo 2).1 (T_Fo 2).2.1 (T_Fo 2).2.2.1 ∈ BIG := List.mem_filter.mpr ⟨List.mem_append_right _ (List.mem_of_getElem? (i := 32) rfl), rfl⟩
set_option maxRecDepth 100000 in
theorem m_145 : Cond.fieldLink R_Ta 26 (T_Ta 5).1 (T_Ta 5).2.1 (T_Ta 5).2.2.1 ∈ BIG := List.mem_filter.mpr ⟨List.mem_append_right _ (List.mem_of_getElem? (i := 109) rfl), rfl⟩
set_option maxRecDepth 100000 in
theorem m_146 : Cond.fieldLink R_Ta 30 (T_Ta 6).1 (T_Ta 6).2.1 (T_Ta 6).2.2.1 ∈ BIG := List.mem_filter.mpr ⟨List.mem_append_right _ (List.mem_of_getElem? (i := 110) rfl), rfl⟩
set_option maxRecDepth 100000 in
theorem m_147 : Cond.methodLink R_Ta 50 y_Fo_plansFrom ∈ BIG := List.mem_filter.mpr ⟨List.mem_append_right _ (List.mem_of_getElem? (i := 373) rfl), rfl⟩
set_option maxRecDepth 100000 in
theorem m_148 : Cond.code y_Fo_plansFrom b_Fo_plansFrom_c 3 (some .int) ∈ BIG := List.mem_filter.mpr ⟨List.mem_append_right _ (List.mem_of_getElem? (i := 376) rfl), rfl⟩
set_option maxRecDepth 100000 in
theorem m_149 : Cond.instanceMethod y_Fo_plansFrom ∈ BIG := List.mem_filter.mpr ⟨List.mem_append_right _ (List.mem_of_getElem? (i := 374) rfl), rfl⟩
set_option maxRecDepth 100000 in
theorem m_150 : Cond.selects R_Fo y_Fo_plansFrom y_Fo_plansFrom ∈ BIG := List.mem_filter.mpr ⟨List.mem_append_right _ (List.mem_of_getElem? (i := 375) rfl), rfl⟩
set_option maxRecDepth 100000 in
theorem m_151 : Cond.methodLink R_Ta 54 y_Ar_fillI ∈ BIG := List.mem_filter.mpr ⟨List.mem_append_right _ (List.mem_of_getElem? (i := 377) rfl), rfl⟩
set_option maxRecDepth 100000 in
theorem m_152 : Cond.initialized R_Ar ∈ BIG := List.mem_filter.mpr ⟨List.mem_append_right _ (List.mem_of_getElem? (i := 10) rfl), rfl⟩
set_option maxRecDepth 100000 in
theorem m_153 : Cond.code y_Ar_fillI b_Ar_fillI_c 4 none ∈ BIG := List.mem_filter.mpr ⟨List.mem_append_right _ (List.mem_of_getElem? (i := 379) rfl), rfl⟩
set_option maxRecDepth 100000 in
theorem m_154 : Cond.static y_Ar_fillI ∈ BIG := List.mem_filter.mpr ⟨List.mem_append_right _ (List.mem_of_getElem? (i := 378) rfl), rfl⟩
set_option maxRecDepth 100000 in
theorem m_155 : Cond.fieldLink R_Po 25 (T_Po 5).1 (T_Po 5).2.1 (T_Po 5).2.2.1 ∈ BIG := List.mem_filter.mpr ⟨List.mem_append_right _ (List.mem_of_getElem? (i := 140) rfl), rfl⟩
set_option maxRecDepth 100000 in
theorem m_156 : Cond.fieldLink R_Po 28 (T_Po 0).1 (T_Po 0).2.1 (T_Po 0).2.2.1 ∈ BIG := List.mem_filter.mpr ⟨List.mem_append_right _ (List.mem_of_getElem? (i := 135) rfl), rfl⟩
set_option maxRecDepth 100000 in
theorem m_157 : Cond.methodLink R_Po 108 y_Fo_planFrom ∈ BIG := List.mem_filter.mpr ⟨List.mem_append_right _ (List.mem_of_getElem? (i := 408) rfl), rfl⟩
set_option maxRecDepth 100000 in
theorem m_158 : Cond.code y_Fo_planFrom b_Fo_planFrom_c 8 (some .int) ∈ BIG := List.mem_filter.mpr ⟨List.mem_append_right _ (List.mem_of_getElem? (i := 411) rfl), rfl⟩
set_option maxRecDepth 100000 in
theorem m_159 : Cond.instanceMethod y_Fo_planFrom ∈ BIG := List.mem_filter.mpr ⟨List.mem_append_right _ (List.mem_of_getElem? (i := 409) rfl), rfl⟩
set_option maxRecDepth 100000 in
theorem m_160 : Cond.selects R_Fo y_Fo_planFrom y_Fo_planFrom ∈ BIG := List.mem_filter.mpr ⟨List.mem_append_right _ (List.mem_of_getElem? (i := 410) rfl), rfl⟩
set_option maxRecDepth 100000 in
theorem m_161 : Cond.methodLink R_Po 46 y_Fo_plansOf ∈ BIG := List.mem_filter.mpr ⟨List.mem_append_right _ (List.mem_of_getElem? (i := 345) rfl), rfl⟩
set_option maxRecDepth 100000 in
theorem m_162 : Cond.code y_Fo_plansOf b_Fo_plansOf_c 2 (some .int) ∈ BIG := List.mem_filter.mpr ⟨List.mem_append_right _ (List.mem_of_getElem? (i := 333) rfl), rfl⟩
set_option maxRecDepth 100000 in
theorem m_163 : Cond.instanceMethod y_Fo_plansOf ∈ BIG := List.mem_filter.mpr ⟨List.mem_append_right _ (List.mem_of_getElem? (i := 331) rfl), rfl⟩
set_option maxRecDepth 100000 in
theorem m_164 : Cond.selects R_Fo y_Fo_plansOf y_Fo_plansOf ∈ BIG := List.mem_filter.mpr ⟨List.mem_append_right _ (List.mem_of_getElem? (i := 332) rfl), rfl⟩
set_option maxRecDepth 100000 in
theorem m_165 : Cond.methodLink R_Ta 86 y_Ta_value ∈ BIG := List.mem_filter.mpr ⟨List.mem_append_right _ (List.mem_of_getElem? (i := 423) rfl), rfl⟩
set_option maxRecDepth 100000 in
theorem m_166 : Cond.code y_Ta_value b_Ta_value_c 4 (some .int) ∈ BIG := List.mem_filter.mpr ⟨List.mem_append_right _ (List.mem_of_getElem? (i := 426) rfl), rfl⟩
set_option maxRecDepth 100000 in
theorem m_167 : Cond.instanceMethod y_Ta_value ∈ BIG := List.mem_filter.mpr ⟨List.mem_append_right _ (List.mem_of_getElem? (i := 424) rfl), rfl⟩
set_option maxRecDepth 100000 in
theorem m_168 : Cond.selects R_Ta y_Ta_value y_Ta_value ∈ BIG := List.mem_filter.mpr ⟨List.mem_append_right _ (List.mem_of_getElem? (i := 425) rfl), rfl⟩
set_option maxRecDepth 100000 in
theorem m_169 : Cond.fieldLink R_Po 32 (T_Po 1).1 (T_Po 1).2.1 (T_Po 1).2.2.1 ∈ BIG := List.mem_filter.mpr ⟨List.mem_append_right _ (List.mem_of_getElem? (i := 136) rfl), rfl⟩
set_option maxRecDepth 100000 in
theorem m_170 : Cond.fieldLink R_Po 115 (T_Ta 0).1 (T_Ta 0).2.1 (T_Ta 0).2.2.1 ∈ BIG := List.mem_filter.mpr ⟨List.mem_append_right _ (List.mem_of_getElem? (i := 104) rfl), rfl⟩
set_option maxRecDepth 100000 in
theorem m_171 : Cond.code y_Ga_otherThan b_Ga_otherThan_c 1 (some .int) ∈ BIG := List.mem_filter.mpr ⟨List.mem_append_right _ (List.mem_of_getElem? (i := 418) rfl), rfl⟩
set_option maxRecDepth 100000 in
theorem m_172 : Cond.static y_Ga_otherThan ∈ BIG := List.mem_filter.mpr ⟨List.mem_append_right _ (List.mem_of_getElem? (i := 417) rfl), rfl⟩
set_option maxRecDepth 100000 in
theorem m_173 : Cond.fieldLink R_Po 22 (T_Po 4).1 (T_Po 4).2.1 (T_Po 4).2.2.1 ∈ BIG := List.mem_filter.mpr ⟨List.mem_append_right _ (List.mem_of_getElem? (i := 139) rfl), rfl⟩
set_option maxRecDepth 100000 in
theorem m_174 : Cond.methodLink R_Po 121 y_Ta_bestAgainst ∈ BIG := List.mem_filter.mpr ⟨List.mem_append_right _ (List.mem_of_getElem? (i := 419) rfl), rfl⟩
set_option maxRecDepth 100000 in
theorem m_175 : Cond.code y_Ta_bestAgainst b_Ta_bestAgainst_c 5 (some .int) ∈ BIG := List.mem_filter.mpr ⟨List.mem_append_right _ (List.mem_of_getElem? (i := 422) rfl), rfl⟩
set_option maxRecDepth 100000 in
theorem m_176 : Cond.instanceMethod y_Ta_bestAgainst ∈ BIG := List.mem_filter.mpr ⟨List.mem_append_right _ (List.mem_of_getElem? (i := 420) rfl), rfl⟩
set_option maxRecDepth 100000 in
theorem m_177 : Cond.selects R_Ta y_Ta_bestAgainst y_Ta_bestAgainst ∈ BIG := List.mem_filter.mpr ⟨List.mem_append_right _ (List.mem_of_getElem? (i := 421) rfl), rfl⟩
set_option maxRecDepth 100000 in
theorem m_178 : Cond.methodLink R_Po 112 y_Ta_value ∈ BIG := List.mem_filter.mpr ⟨List.mem_append_right _ (List.mem_of_getElem? (i := 427) rfl), rfl⟩
set_option maxRecDepth 100000 in
theorem m_179 : Cond.methodLink R_Po 102 y_Po_isPoint ∈ BIG := List.mem_filter.mpr ⟨List.mem_append_right _ (List.mem_of_getElem? (i := 428) rfl), rfl⟩
set_option maxRecDepth 100000 in
theorem m_180 : Cond.initialized R_Po ∈ BIG := List.mem_filter.mpr ⟨List.mem_append_right _ (List.mem_of_getElem? (i := 4) rfl), rfl⟩
set_option maxRecDepth 100000 in
theorem m_181 : Cond.code y_Po_isPoint b_Po_isPoint_c 3 (some .boolean) ∈ BIG := List.mem_filter.mpr ⟨List.mem_append_right _ (List.mem_of_getElem? (i := 431) rfl), rfl⟩
set_option maxRecDepth 100000 in
theorem m_182 : Cond.instanceMethod y_Po_isPoint ∈ BIG := List.mem_filter.mpr ⟨List.mem_append_right _ (List.mem_of_getElem? (i := 430) rfl), rfl⟩
set_option maxRecDepth 100000 in
theorem m_183 : Cond.selects R_Po y_Po_isPoint y_Po_isPoint ∈ BIG := List.mem_filter.mpr ⟨List.mem_append_left _ (List.mem_of_getElem? (i := 16) rfl), rfl⟩
set_option maxRecDepth 100000 in
theorem m_184 : Cond.constantLong R_Po 106 (-1) ∈ BIG := List.mem_filter.mpr ⟨List.mem_append_right _ (List.mem_of_getElem? (i := 432) rfl), rfl⟩
set_option maxRecDepth 100000 in
theorem m_185 : Cond.methodLink R_Po 89 y_Ta_fillFrom ∈ BIG := List.mem_filter.mpr ⟨List.mem_append_right _ (List.mem_of_getElem? (i := 369) rfl), rfl⟩
set_option maxRecDepth 100000 in
theorem m_186 : Cond.code y_Ta_fillFrom b_Ta_fillFrom_c 4 none ∈ BIG := List.mem_filter.mpr ⟨List.mem_append_right _ (List.mem_of_getElem? (i := 372) rfl), rfl⟩
set_option maxRecDepth 100000 in
theorem m_187 : Cond.instanceMethod y_Ta_fillFrom ∈ BIG := List.mem_filter.mpr ⟨List.mem_append_right _ (List.mem_of_getElem? (i := 370) rfl), rfl⟩
set_option maxRecDepth 100000 in
theorem m_188 : Cond.selects R_Ta y_Ta_fillFrom y_Ta_fillFrom ∈ BIG := List.mem_filter.mpr ⟨List.mem_append_right _ (List.mem_of_getElem? (i := 371) rfl), rfl⟩
set_option maxRecDepth 100000 in
theorem m_189 : Cond.methodLink R_Po 95 y_Po_findInner ∈ BIG := List.mem_filter.mpr ⟨List.mem_append_right _ (List.mem_of_getElem? (i := 404) rfl), rfl⟩
set_option maxRecDepth 100000 in
theorem m_190 : Cond.code y_Po_findInner b_Po_findInner_c 5 (some .int) ∈ BIG := List.mem_filter.mpr ⟨List.mem_append_right _ (List.mem_of_getElem? (i := 407) rfl), rfl⟩
set_option maxRecDepth 100000 in
theorem m_191 : Cond.instanceMethod y_Po_findInner ∈ BIG := List.mem_filter.mpr ⟨List.mem_append_right _ (List.mem_of_getElem? (i := 406) rfl), rfl⟩
set_option maxRecDepth 100000 in
theorem m_192 : Cond.selects R_Po y_Po_findInner y_Po_findInner ∈ BIG := List.mem_filter.mpr ⟨List.mem_append_left _ (List.mem_of_getElem? (i := 14) rfl), rfl⟩
set_option maxRecDepth 100000 in
theorem m_193 : Cond.methodLink R_Po 99 y_Po_findBest ∈ BIG := List.mem_filter.mpr ⟨List.mem_append_right _ (List.mem_of_getElem? (i := 412) rfl), rfl⟩
set_option maxRecDepth 100000 in
theorem m_194 : Cond.code y_Po_findBest b_Po_findBest_c 3 none ∈ BIG := List.mem_filter.mpr ⟨List.mem_append_right _ (List.mem_of_getElem? (i := 415) rfl), rfl⟩
set_option maxRecDepth 100000 in
theorem m_195 : Cond.instanceMethod y_Po_findBest ∈ BIG := List.mem_filter.mpr ⟨List.mem_append_right _ (List.mem_of_getElem? (i := 414) rfl), rfl⟩
set_option maxRecDepth 100000 in
theorem m_196 : Cond.selects R_Po y_Po_findBest y_Po_findBest ∈ BIG := List.mem_filter.mpr ⟨List.mem_append_left _ (List.mem_of_getElem? (i := 15) rfl), rfl⟩
set_option maxRecDepth 100000 in
theorem m_197 : Cond.fieldLink R_Po 68 (T_Fo 0).1 (T_Fo 0).2.1 (T_Fo 0).2.2.1 ∈ BIG := List.mem_filter.mpr ⟨List.mem_append_right _ (List.mem_of_getElem? (i := 26) rfl), rfl⟩
set_option maxRecDepth 100000 in
theorem m_198 : Cond.fieldLink R_Po 11 (T_Po 2).1 (T_Po 2).2.1 (T_Po 2).2.2.1 ∈ BIG := List.mem_filter.mpr ⟨List.mem_append_right _ (List.mem_of_getElem? (i := 137) rfl), rfl⟩
set_option maxRecDepth 100000 in
theorem m_199 : Cond.methodLink R_Po 75 y_Po_keepPoints ∈ BIG := List.mem_filter.mpr ⟨List.mem_append_right _ (List.mem_of_getElem? (i := 365) rfl), rfl⟩
set_option maxRecDepth 100000 in
theorem m_200 : Cond.code y_Po_keepPoints b_Po_keepPoints_c 7 none ∈ BIG := List.mem_filter.mpr ⟨List.mem_append_right _ (List.mem_of_getElem? (i := 368) rfl), rfl⟩
set_option maxRecDepth 100000 in
theorem m_201 : Cond.instanceMethod y_Po_keepPoints ∈ BIG := List.mem_filter.mpr ⟨List.mem_append_right _ (List.mem_of_getElem? (i := 367) rfl), rfl⟩
set_option maxRecDepth 100000 in
theorem m_202 : Cond.selects R_Po y_Po_keepPoints y_Po_keepPoints ∈ BIG := List.mem_filter.mpr ⟨List.mem_append_left _ (List.mem_of_getElem? (i := 10) rfl), rfl⟩
set_option maxRecDepth 100000 in
theorem m_203 : Cond.methodLink R_Po 36 y_Po_placeOf ∈ BIG := List.mem_filter.mpr ⟨List.mem_append_right _ (List.mem_of_getElem? (i := 342) rfl), rfl⟩
set_option maxRecDepth 100000 in
theorem m_204 : Cond.code y_Po_placeOf b_Po_placeOf_c 1 (some .int) ∈ BIG := List.mem_filter.mpr ⟨List.mem_append_right _ (List.mem_of_getElem? (i := 344) rfl), rfl⟩
set_option maxRecDepth 100000 in
theorem m_205 : Cond.static y_Po_placeOf ∈ BIG := List.mem_filter.mpr ⟨List.mem_append_right _ (List.mem_of_getElem? (i := 343) rfl), rfl⟩
set_option maxRecDepth 100000 in
theorem m_206 : Cond.fieldLink R_Po 16 (T_Po 3).1 (T_Po 3).2.1 (T_Po 3).2.2.1 ∈ BIG := List.mem_filter.mpr ⟨List.mem_append_right _ (List.mem_of_getElem? (i := 138) rfl), rfl⟩
set_option maxRecDepth 100000 in
theorem m_207 : Cond.fieldLink R_Po 40 (T_Fo 2).1 (T_Fo 2).2.1 (T_Fo 2).2.2.1 ∈ BIG := List.mem_filter.mpr ⟨List.mem_append_right _ (List.mem_of_getElem? (i := 31) rfl), rfl⟩
set_option maxRecDepth 100000 in
theorem m_208 : Cond.code y_Ga_firstBits b_Ga_firstBits_c 1 (some .long) ∈ BIG := List.mem_filter.mpr ⟨List.mem_append_right _ (List.mem_of_getElem? (i := 348) rfl), rfl⟩
set_option maxRecDepth 100000 in
theorem m_209 : Cond.static y_Ga_firstBits ∈ BIG := List.mem_filter.mpr ⟨List.mem_append_right _ (List.mem_of_getElem? (i := 347) rfl), rfl⟩
set_option maxRecDepth 100000 in
theorem m_210 : Cond.methodLink R_Po 54 y_Ar_fillJ ∈ BIG := List.mem_filter.mpr ⟨List.mem_append_right _ (List.mem_of_getElem? (i := 350) rfl), rfl⟩
set_option maxRecDepth 100000 in
theorem m_211 : Cond.code y_Ar_fillJ b_Ar_fillJ_c 5 none ∈ BIG := List.mem_filter.mpr ⟨List.mem_append_right _ (List.mem_of_getElem? (i := 352) rfl), rfl⟩
set_option maxRecDepth 100000 in
theorem m_212 : Cond.static y_Ar_fillJ ∈ BIG := List.mem_filter.mpr ⟨List.mem_append_right _ (List.mem_of_getElem? (i := 351) rfl), rfl⟩
set_option maxRecDepth 100000 in
theorem m_213 : Cond.methodLink R_Po 64 y_Fo_root ∈ BIG := List.mem_filter.mpr ⟨List.mem_append_right _ (List.mem_of_getElem? (i := 363) rfl), rfl⟩
set_option maxRecDepth 100000 in
theorem m_214 : Cond.methodLink R_Po 60 y_Fo_gamesWithin ∈ BIG := List.mem_filter.mpr ⟨List.mem_append_right _ (List.mem_of_getElem? (i := 353) rfl), rfl⟩
set_option maxRecDepth 100000 in
theorem m_215 : Cond.code y_Fo_gamesWithin b_Fo_gamesWithin_c 4 (some .long) ∈ BIG := List.mem_filter.mpr ⟨List.mem_append_right _ (List.mem_of_getElem? (i := 356) rfl), rfl⟩
set_option maxRecDepth 100000 in
theorem m_216 : Cond.instanceMethod y_Fo_gamesWithin ∈ BIG := List.mem_filter.mpr ⟨List.mem_append_right _ (List.mem_of_getElem? (i := 354) rfl), rfl⟩
set_option maxRecDepth 100000 in
theorem m_217 : Cond.selects R_Fo y_Fo_gamesWithin y_Fo_gamesWithin ∈ BIG := List.mem_filter.mpr ⟨List.mem_append_right _ (List.mem_of_getElem? (i := 355) rfl), rfl⟩
set_option maxRecDepth 100000 in
theorem m_218 : Cond.methodLink R_Po 79 y_Lo_bitCount ∈ BIG := List.mem_filter.mpr ⟨List.mem_append_right _ (List.mem_of_getElem? (i := 437) rfl), rfl⟩
set_option maxRecDepth 100000 in
theorem m_219 : Cond.initialized R_Lo ∈ BIG := List.mem_filter.mpr ⟨List.mem_append_right _ (List.mem_of_getElem? (i := 9) rfl), rfl⟩
set_option maxRecDepth 100000 in
theorem m_220 : Cond.code y_Lo_bitCount b_Lo_bitCount_c 2 (some .int) ∈ BIG := List.mem_filter.mpr ⟨List.mem_append_right _ (List.mem_of_getElem? (i := 326) rfl), rfl⟩
set_option maxRecDepth 100000 in
theorem m_221 : Cond.static y_Lo_bitCount ∈ BIG := List.mem_filter.mpr ⟨List.mem_append_right _ (List.mem_of_getElem? (i := 325) rfl), rfl⟩
set_option maxRecDepth 100000 in
theorem m_222 : Cond.methodLink R_Ta 37 y_Fo_root ∈ BIG := List.mem_filter.mpr ⟨List.mem_append_right _ (List.mem_of_getElem? (i := 443) rfl), rfl⟩
set_option maxRecDepth 100000 in
theorem m_223 : Cond.methodLink R_Ta 43 y_Ta_fillFrom ∈ BIG := List.mem_filter.mpr ⟨List.mem_append_right _ (List.mem_of_getElem? (i := 444) rfl), rfl⟩
set_option maxRecDepth 100000 in
theorem m_224 : Cond.methodLink R_Ta 117 y_Ta_isWorse ∈ BIG := List.mem_filter.mpr ⟨List.mem_append_right _ (List.mem_of_getElem? (i := 462) rfl), rfl⟩
set_option maxRecDepth 100000 in
theorem m_225 : Cond.code y_Ta_isWorse b_Ta_isWorse_c 7 (some .boolean) ∈ BIG := List.mem_filter.mpr ⟨List.mem_append_right _ (List.mem_of_getElem? (i := 465) rfl), rfl⟩
set_option maxRecDepth 100000 in
theorem m_226 : Cond.instanceMethod y_Ta_isWorse ∈ BIG := List.mem_filter.mpr ⟨List.mem_append_right _ (List.mem_of_getElem? (i := 464) rfl), rfl⟩
set_option maxRecDepth 100000 in
theorem m_227 : Cond.selects R_Ta y_Ta_isWorse y_Ta_isWorse ∈ BIG := List.mem_filter.mpr ⟨List.mem_append_left _ (List.mem_of_getElem? (i := 18) rfl), rfl⟩
set_option maxRecDepth 100000 in
theorem m_228 : Cond.fieldLink R_Le 28 (T_Le 1).1 (T_Le 1).2.1 (T_Le 1).2.2.1 ∈ BIG := List.mem_filter.mpr ⟨List.mem_append_right _ (List.mem_of_getElem? (i := 162) rfl), rfl⟩
set_option maxRecDepth 100000 in
theorem m_229 : Cond.fieldLink R_Le 49 (T_Ta 0).1 (T_Ta 0).2.1 (T_Ta 0).2.2.1 ∈ BIG := List.mem_filter.mpr ⟨List.mem_append_right _ (List.mem_of_getElem? (i := 103) rfl), rfl⟩
set_option maxRecDepth 100000 in
theorem m_230 : Cond.fieldLink R_Le 16 (T_Le 3).1 (T_Le 3).2.1 (T_Le 3).2.2.1 ∈ BIG := List.mem_filter.mpr ⟨List.mem_append_right _ (List.mem_of_getElem? (i := 164) rfl), rfl⟩
set_option maxRecDepth 100000 in
theorem m_231 : Cond.methodLink R_Le 74 y_Ta_leastBetterAmong ∈ BIG := List.mem_filter.mpr ⟨List.mem_append_right _ (List.mem_of_getElem? (i := 457) rfl), rfl⟩
set_option maxRecDepth 100000 in
theorem m_232 : Cond.code y_Ta_leastBetterAmong b_Ta_leastBetterAmong_c 8 (some .int) ∈ BIG := List.mem_filter.mpr ⟨List.mem_append_right _ (List.mem_of_getElem? (i := 460) rfl), rfl⟩
set_option maxRecDepth 100000 in
theorem m_233 : Cond.instanceMethod y_Ta_leastBetterAmong ∈ BIG := List.mem_filter.mpr ⟨List.mem_append_right _ (List.mem_of_getElem? (i := 458) rfl), rfl⟩
set_option maxRecDepth 100000 in
theorem m_234 : Cond.selects R_Ta y_Ta_leastBetterAmong y_Ta_leastBetterAmong ∈ BIG := List.mem_filter.mpr ⟨List.mem_append_right _ (List.mem_of_getElem? (i := 459) rfl), rfl⟩
set_option maxRecDepth 100000 in
theorem m_235 : Cond.constantLong R_Le 78 (-1) ∈ BIG := List.mem_filter.mpr ⟨List.mem_append_right _ (List.mem_of_getElem? (i := 471) rfl), rfl⟩
set_option maxRecDepth 100000 in
theorem m_236 : Cond.fieldLink R_Le 11 (T_Le 2).1 (T_Le 2).2.1 (T_Le 2).2.2.1 ∈ BIG := List.mem_filter.mpr ⟨List.mem_append_right _ (List.mem_of_getElem? (i := 163) rfl), rfl⟩
set_option maxRecDepth 100000 in
theorem m_237 : Cond.methodLink R_Le 62 y_Le_takeAway ∈ BIG := List.mem_filter.mpr ⟨List.mem_append_right _ (List.mem_of_getElem? (i := 467) rfl), rfl⟩
set_option maxRecDepth 100000 in
theorem m_238 : Cond.initialized R_Le ∈ BIG := List.mem_filter.mpr ⟨List.mem_append_right _ (List.mem_of_getElem? (i := 5) rfl), rfl⟩
set_option maxRecDepth 100000 in
theorem m_239 : Cond.code y_Le_takeAway b_Le_takeAway_c 6 none ∈ BIG := List.mem_filter.mpr ⟨List.mem_append_right _ (List.mem_of_getElem? (i := 470) rfl), rfl⟩
set_option maxRecDepth 100000 in
theorem m_240 : Cond.instanceMethod y_Le_takeAway ∈ BIG := List.mem_filter.mpr ⟨List.mem_append_right _ (List.mem_of_getElem? (i := 469) rfl), rfl⟩
set_option maxRecDepth 100000 in
theorem m_241 : Cond.selects R_Le y_Le_takeAway y_Le_takeAway ∈ BIG := List.mem_filter.mpr ⟨List.mem_append_left _ (List.mem_of_getElem? (i := 19) rfl), rfl⟩
set_option maxRecDepth 100000 in
theorem m_242 : Cond.methodLink R_Le 59 y_Le_thoseThatGo ∈ BIG := List.mem_filter.mpr ⟨List.mem_append_right _ (List.mem_of_getElem? (i := 451) rfl), rfl⟩
set_option maxRecDepth 100000 in
theorem m_243 : Cond.code y_Le_thoseThatGo b_Le_thoseThatGo_c 5 (some .long) ∈ BIG := List.mem_filter.mpr ⟨List.mem_append_right _ (List.mem_of_getElem? (i := 454) rfl), rfl⟩
set_option maxRecDepth 100000 in
theorem m_244 : Cond.instanceMethod y_Le_thoseThatGo ∈ BIG := List.mem_filter.mpr ⟨List.mem_append_right _ (List.mem_of_getElem? (i := 453) rfl), rfl⟩
set_option maxRecDepth 100000 in
theorem m_245 : Cond.selects R_Le y_Le_thoseThatGo y_Le_thoseThatGo ∈ BIG := List.mem_filter.mpr ⟨List.mem_append_left _ (List.mem_of_getElem? (i := 17) rfl), rfl⟩
set_option maxRecDepth 100000 in
theorem m_246 : Cond.methodLink R_Le 43 y_Ar_fillI ∈ BIG := List.mem_filter.mpr ⟨List.mem_append_right _ (List.mem_of_getElem? (i := 449) rfl), rfl⟩
set_option maxRecDepth 100000 in
theorem m_247 : Cond.fieldLink R_Le 20 (T_Le 4).1 (T_Le 4).2.1 (T_Le 4).2.2.1 ∈ BIG := List.mem_filter.mpr ⟨List.mem_append_right _ (List.mem_of_getElem? (i := 165) rfl), rfl⟩
set_option maxRecDepth 100000 in
theorem m_248 : Cond.fieldLink R_Le 24 (T_Le 0).1 (T_Le 0).2.1 (T_Le 0).2.2.1 ∈ BIG := List.mem_filter.mpr ⟨List.mem_append_right _ (List.mem_of_getElem? (i := 161) rfl), rfl⟩
set_option maxRecDepth 100000 in
theorem m_249 : Cond.fieldLink R_Le 38 (T_Fo 2).1 (T_Fo 2).2.1 (T_Fo 2).2.2.1 ∈ BIG := List.mem_filter.mpr ⟨List.mem_append_right _ (List.mem_of_getElem? (i := 33) rfl), rfl⟩
set_option maxRecDepth 100000 in
theorem m_250 : Cond.methodLink R_Le 32 y_Lo_bitCount ∈ BIG := List.mem_filter.mpr ⟨List.mem_append_right _ (List.mem_of_getElem? (i := 476) rfl), rfl⟩
set_option maxRecDepth 100000 in
theorem m_251 : Cond.methodLink R_Ga 127 y_Fo_depthOfTree ∈ BIG := List.mem_filter.mpr ⟨List.mem_append_right _ (List.mem_of_getElem? (i := 477) rfl), rfl⟩
set_option maxRecDepth 100000 in
theorem m_252 : Cond.code y_Fo_depthOfTree b_Fo_depthOfTree_c 1 (some .int) ∈ BIG := List.mem_filter.mpr ⟨List.mem_append_right _ (List.mem_of_getElem? (i := 480) rfl), rfl⟩
set_option maxRecDepth 100000 in
theorem m_253 : Cond.instanceMethod y_Fo_depthOfTree ∈ BIG := List.mem_filter.mpr ⟨List.mem_append_right _ (List.mem_of_getElem? (i := 478) rfl), rfl⟩
set_option maxRecDepth 100000 in
theorem m_254 : Cond.selects R_Fo y_Fo_depthOfTree y_Fo_depthOfTree ∈ BIG := List.mem_filter.mpr ⟨List.mem_append_right _ (List.mem_of_getElem? (i := 479) rfl), rfl⟩
set_option maxRecDepth 100000 in
theorem m_255 : Cond.fieldLink R_Ga 90 (T_Fo 1).1 (T_Fo 1).2.1 (T_Fo 1).2.2.1 ∈ BIG := List.mem_filter.mpr ⟨List.mem_append_right _ (List.mem_of_getElem? (i := 29) rfl), rfl⟩
set_option maxRecDepth 100000 in
theorem m_256 : Cond.methodLink R_Ga 93 y_Fo_nodesInTree ∈ BIG := List.mem_filter.mpr ⟨List.mem_append_right _ (List.mem_of_getElem? (i := 316) rfl), rfl⟩
set_option maxRecDepth 100000 in
theorem m_257 : Cond.methodLink R_Ga 97 y_Lo_bitCount ∈ BIG := List.mem_filter.mpr ⟨List.mem_append_right _ (List.mem_of_getElem? (i := 324) rfl), rfl⟩
set_option maxRecDepth 100000 in
theorem m_258 : Cond.methodLink R_Ga 103 y_Fo_plansOf ∈ BIG := List.mem_filter.mpr ⟨List.mem_append_right _ (List.mem_of_getElem? (i := 330) rfl), rfl⟩
set_option maxRecDepth 100000 in
theorem m_259 : Cond.fieldLink R_Ga 30 (T_Ga 2).1 (T_Ga 2).2.1 (T_Ga 2).2.2.1 ∈ BIG := List.mem_filter.mpr ⟨List.mem_append_right _ (List.mem_of_getElem? (i := 205) rfl), rfl⟩
set_option maxRecDepth 100000 in
theorem m_260 : Cond.methodLink R_Ga 107 y_Po_find ∈ BIG := List.mem_filter.mpr ⟨List.mem_append_right _ (List.mem_of_getElem? (i := 338) rfl), rfl⟩
set_option maxRecDepth 100000 in
theorem m_261 : Cond.code y_Po_find b_Po_find_c 6 none ∈ BIG := List.mem_filter.mpr ⟨List.mem_append_right _ (List.mem_of_getElem? (i := 341) rfl), rfl⟩
set_option maxRecDepth 100000 in
theorem m_262 : Cond.instanceMethod y_Po_find ∈ BIG := List.mem_filter.mpr ⟨List.mem_append_right _ (List.mem_of_getElem? (i := 339) rfl), rfl⟩
set_option maxRecDepth 100000 in
theorem m_263 : Cond.selects R_Po y_Po_find y_Po_find ∈ BIG := List.mem_filter.mpr ⟨List.mem_append_right _ (List.mem_of_getElem? (i := 340) rfl), rfl⟩
set_option maxRecDepth 100000 in
theorem m_264 : Cond.methodLink R_Ga 111 y_Po_howMany ∈ BIG := List.mem_filter.mpr ⟨List.mem_append_right _ (List.mem_of_getElem? (i := 433) rfl), rfl⟩
set_option maxRecDepth 100000 in
theorem m_265 : Cond.code y_Po_howMany b_Po_howMany_c 6 (some .int) ∈ BIG := List.mem_filter.mpr ⟨List.mem_append_right _ (List.mem_of_getElem? (i := 436) rfl), rfl⟩
set_option maxRecDepth 100000 in
theorem m_266 : Cond.instanceMethod y_Po_howMany ∈ BIG := List.mem_filter.mpr ⟨List.mem_append_right _ (List.mem_of_getElem? (i := 434) rfl), rfl⟩
set_option maxRecDepth 100000 in
theorem m_267 : Cond.selects R_Po y_Po_howMany y_Po_howMany ∈ BIG := List.mem_filter.mpr ⟨List.mem_append_right _ (List.mem_of_getElem? (i := 435) rfl), rfl⟩
set_option maxRecDepth 100000 in
theorem m_268 : Cond.methodLink R_Ga 115 y_Fo_gamesWithin ∈ BIG := List.mem_filter.mpr ⟨List.mem_append_right _ (List.mem_of_getElem? (i := 438) rfl), rfl⟩
set_option maxRecDepth 100000 in
theorem m_269 : Cond.fieldLink R_Ga 21 (T_Ga 1).1 (T_Ga 1).2.1 (T_Ga 1).2.2.1 ∈ BIG := List.mem_filter.mpr ⟨List.mem_append_right _ (List.mem_of_getElem? (i := 204) rfl), rfl⟩
set_option maxRecDepth 100000 in
theorem m_270 : Cond.methodLink R_Ga 118 y_Ta_fillWhole ∈ BIG := List.mem_filter.mpr ⟨List.mem_append_right _ (List.mem_of_getElem? (i := 439) rfl), rfl⟩
set_option maxRecDepth 100000 in
theorem m_271 : Cond.code y_Ta_fillWhole b_Ta_fillWhole_c 1 none ∈ BIG := List.mem_filter.mpr ⟨List.mem_append_right _ (List.mem_of_getElem? (i := 442) rfl), rfl⟩
set_option maxRecDepth 100000 in
theorem m_272 : Cond.instanceMethod y_Ta_fillWhole ∈ BIG := List.mem_filter.mpr ⟨List.mem_append_right _ (List.mem_of_getElem? (i := 440) rfl), rfl⟩
set_option maxRecDepth 100000 in
theorem m_273 : Cond.selects R_Ta y_Ta_fillWhole y_Ta_fillWhole ∈ BIG := List.mem_filter.mpr ⟨List.mem_append_right _ (List.mem_of_getElem? (i := 441) rfl), rfl⟩
set_option maxRecDepth 100000 in
theorem m_274 : Cond.fieldLink R_Ga 37 (T_Ga 3).1 (T_Ga 3).2.1 (T_Ga 3).2.2.1 ∈ BIG := List.mem_filter.mpr ⟨List.mem_append_right _ (List.mem_of_getElem? (i := 206) rfl), rfl⟩
set_option maxRecDepth 100000 in
theorem m_275 : Cond.methodLink R_Ga 121 y_Le_playAll ∈ BIG := List.mem_filter.mpr ⟨List.mem_append_right _ (List.mem_of_getElem? (i := 445) rfl), rfl⟩
set_option maxRecDepth 100000 in
theorem m_276 : Cond.code y_Le_playAll b_Le_playAll_c 6 none ∈ BIG := List.mem_filter.mpr ⟨List.mem_append_right _ (List.mem_of_getElem? (i := 448) rfl), rfl⟩
set_option maxRecDepth 100000 in
theorem m_277 : Cond.instanceMethod y_Le_playAll ∈ BIG := List.mem_filter.mpr ⟨List.mem_append_right _ (List.mem_of_getElem? (i := 446) rfl), rfl⟩
set_option maxRecDepth 100000 in
theorem m_278 : Cond.selects R_Le y_Le_playAll y_Le_playAll ∈ BIG := List.mem_filter.mpr ⟨List.mem_append_right _ (List.mem_of_getElem? (i := 447) rfl), rfl⟩
set_option maxRecDepth 100000 in
theorem m_279 : Cond.methodLink R_Ga 124 y_Le_pairsLeft ∈ BIG := List.mem_filter.mpr ⟨List.mem_append_right _ (List.mem_of_getElem? (i := 472) rfl), rfl⟩
set_option maxRecDepth 100000 in
theorem m_280 : Cond.code y_Le_pairsLeft b_Le_pairsLeft_c 1 (some .int) ∈ BIG := List.mem_filter.mpr ⟨List.mem_append_right _ (List.mem_of_getElem? (i := 475) rfl), rfl⟩
set_option maxRecDepth 100000 in
theorem m_281 : Cond.instanceMethod y_Le_pairsLeft ∈ BIG := List.mem_filter.mpr ⟨List.mem_append_right _ (List.mem_of_getElem? (i := 473) rfl), rfl⟩
set_option maxRecDepth 100000 in
theorem m_282 : Cond.selects R_Le y_Le_pairsLeft y_Le_pairsLeft ∈ BIG := List.mem_filter.mpr ⟨List.mem_append_right _ (List.mem_of_getElem? (i := 474) rfl), rfl⟩
set_option maxRecDepth 100000 in
theorem m_283 : Cond.methodLink R_Ga 81 y_Ga_isEmpty ∈ BIG := List.mem_filter.mpr ⟨List.mem_append_right _ (List.mem_of_getElem? (i := 311) rfl), rfl⟩
set_option maxRecDepth 100000 in
theorem m_284 : Cond.code y_Ga_isEmpty b_Ga_isEmpty_c 1 (some .boolean) ∈ BIG := List.mem_filter.mpr ⟨List.mem_append_right _ (List.mem_of_getElem? (i := 314) rfl), rfl⟩
set_option maxRecDepth 100000 in
theorem m_285 : Cond.instanceMethod y_Ga_isEmpty ∈ BIG := List.mem_filter.mpr ⟨List.mem_append_right _ (List.mem_of_getElem? (i := 313) rfl), rfl⟩
set_option maxRecDepth 100000 in
theorem m_286 : Cond.selects R_Ga y_Ga_isEmpty y_Ga_isEmpty ∈ BIG := List.mem_filter.mpr ⟨List.mem_append_left _ (List.mem_of_getElem? (i := 7) rfl), rfl⟩
set_option maxRecDepth 100000 in
theorem m_287 : Cond.constant R_Ga 85 (-1000000) ∈ BIG := List.mem_filter.mpr ⟨List.mem_append_right _ (List.mem_of_getElem? (i := 315) rfl), rfl⟩
set_option maxRecDepth 100000 in
theorem m_288 : Cond.methodLink R_Ga 145 y_Fo_childAt ∈ BIG := List.mem_filter.mpr ⟨List.mem_append_right _ (List.mem_of_getElem? (i := 487) rfl), rfl⟩
set_option maxRecDepth 100000 in
theorem m_289 : Cond.methodLink R_Ga 136 y_Fo_worthAt ∈ BIG := List.mem_filter.mpr ⟨List.mem_append_right _ (List.mem_of_getElem? (i := 486) rfl), rfl⟩
set_option maxRecDepth 100000 in
theorem m_290 : Cond.fieldLink R_Ga 142 (T_Fo 5).1 (T_Fo 5).2.1 (T_Fo 5).2.2.1 ∈ BIG := List.mem_filter.mpr ⟨List.mem_append_right _ (List.mem_of_getElem? (i := 42) rfl), rfl⟩
set_option maxRecDepth 100000 in
theorem m_291 : Cond.fieldLink R_Ga 139 (T_Fo 4).1 (T_Fo 4).2.1 (T_Fo 4).2.2.1 ∈ BIG := List.mem_filter.mpr ⟨List.mem_append_right _ (List.mem_of_getElem? (i := 40) rfl), rfl⟩
set_option maxRecDepth 100000 in
theorem m_292 : Cond.fieldLink R_Ga 133 (T_Fo 3).1 (T_Fo 3).2.1 (T_Fo 3).2.2.1 ∈ BIG := List.mem_filter.mpr ⟨List.mem_append_right _ (List.mem_of_getElem? (i := 37) rfl), rfl⟩
set_option maxRecDepth 100000 in
theorem m_293 : Cond.methodLink R_Ga 130 y_Fo_hasNode ∈ BIG := List.mem_filter.mpr ⟨List.mem_append_right _ (List.mem_of_getElem? (i := 485) rfl), rfl⟩
set_option maxRecDepth 100000 in
theorem m_294 : Cond.methodLink R_Ga 148 y_Ga_isPlan ∈ BIG := List.mem_filter.mpr ⟨List.mem_append_right _ (List.mem_of_getElem? (i := 492) rfl), rfl⟩
set_option maxRecDepth 100000 in
theorem m_295 : Cond.code y_Ga_isPlan b_Ga_isPlan_c 3 (some .boolean) ∈ BIG := List.mem_filter.mpr ⟨List.mem_append_right _ (List.mem_of_getElem? (i := 495) rfl), rfl⟩
set_option maxRecDepth 100000 in
theorem m_296 : Cond.instanceMethod y_Ga_isPlan ∈ BIG := List.mem_filter.mpr ⟨List.mem_append_right _ (List.mem_of_getElem? (i := 494) rfl), rfl⟩
set_option maxRecDepth 100000 in
theorem m_297 : Cond.selects R_Ga y_Ga_isPlan y_Ga_isPlan ∈ BIG := List.mem_filter.mpr ⟨List.mem_append_left _ (List.mem_of_getElem? (i := 20) rfl), rfl⟩
set_option maxRecDepth 100000 in
theorem m_298 : Cond.methodLink R_Ga 152 y_Fo_actNamed ∈ BIG := List.mem_filter.mpr ⟨List.mem_append_right _ (List.mem_of_getElem? (i := 496) rfl), rfl⟩
set_option maxRecDepth 100000 in
theorem m_299 : Cond.code y_Fo_actNamed b_Fo_actNamed_c 6 (some .int) ∈ BIG := List.mem_filter.mpr ⟨List.mem_append_right _ (List.mem_of_getElem? (i := 499) rfl), rfl⟩
set_option maxRecDepth 100000 in
theorem m_300 : Cond.instanceMethod y_Fo_actNamed ∈ BIG := List.mem_filter.mpr ⟨List.mem_append_right _ (List.mem_of_getElem? (i := 497) rfl), rfl⟩
set_option maxRecDepth 100000 in
theorem m_301 : Cond.selects R_Fo y_Fo_actNamed y_Fo_actNamed ∈ BIG := List.mem_filter.mpr ⟨List.mem_append_right _ (List.mem_of_getElem? (i := 498) rfl), rfl⟩
set_option maxRecDepth 100000 in
theorem m_302 : Cond.methodLink R_Ga 156 y_Ta_valueOfPair ∈ BIG := List.mem_filter.mpr ⟨List.mem_append_right _ (List.mem_of_getElem? (i := 504) rfl), rfl⟩
set_option maxRecDepth 100000 in
theorem m_303 : Cond.code y_Ta_valueOfPair b_Ta_valueOfPair_c 4 (some .int) ∈ BIG := List.mem_filter.mpr ⟨List.mem_append_right _ (List.mem_of_getElem? (i := 507) rfl), rfl⟩
set_option maxRecDepth 100000 in
theorem m_304 : Cond.instanceMethod y_Ta_valueOfPair ∈ BIG := List.mem_filter.mpr ⟨List.mem_append_right _ (List.mem_of_getElem? (i := 505) rfl), rfl⟩
set_option maxRecDepth 100000 in
theorem m_305 : Cond.selects R_Ta y_Ta_valueOfPair y_Ta_valueOfPair ∈ BIG := List.mem_filter.mpr ⟨List.mem_append_right _ (List.mem_of_getElem? (i := 506) rfl), rfl⟩
set_option maxRecDepth 100000 in
theorem m_306 : Cond.methodLink R_Ga 159 y_Ga_otherThan ∈ BIG := List.mem_filter.mpr ⟨List.mem_append_right _ (List.mem_of_getElem? (i := 512) rfl), rfl⟩
set_option maxRecDepth 100000 in
theorem m_307 : Cond.methodLink R_Ga 162 y_Ta_bestAgainst ∈ BIG := List.mem_filter.mpr ⟨List.mem_append_right _ (List.mem_of_getElem? (i := 513) rfl), rfl⟩
set_option maxRecDepth 100000 in
theorem m_308 : Cond.methodLink R_Ga 206 y_Ga_hasBit ∈ BIG := List.mem_filter.mpr ⟨List.mem_append_right _ (List.mem_of_getElem? (i := 525) rfl), rfl⟩
set_option maxRecDepth 100000 in
theorem m_309 : Cond.code y_Ga_bitAt b_Ga_bitAt_c 5 (some .int) ∈ BIG := List.mem_filter.mpr ⟨List.mem_append_right _ (List.mem_of_getElem? (i := 524) rfl), rfl⟩
set_option maxRecDepth 100000 in
theorem m_310 : Cond.static y_Ga_bitAt ∈ BIG := List.mem_filter.mpr ⟨List.mem_append_right _ (List.mem_of_getElem? (i := 523) rfl), rfl⟩
set_option maxRecDepth 100000 in
theorem m_311 : Cond.methodLink R_Ga 165 y_Po_pointAt ∈ BIG := List.mem_filter.mpr ⟨List.mem_append_right _ (List.mem_of_getElem? (i := 518) rfl), rfl⟩
set_option maxRecDepth 100000 in
theorem m_312 : Cond.code y_Po_pointAt b_Po_pointAt_c 8 (some .int) ∈ BIG := List.mem_filter.mpr ⟨List.mem_append_right _ (List.mem_of_getElem? (i := 521) rfl), rfl⟩
set_option maxRecDepth 100000 in
theorem m_313 : Cond.instanceMethod y_Po_pointAt ∈ BIG := List.mem_filter.mpr ⟨List.mem_append_right _ (List.mem_of_getElem? (i := 519) rfl), rfl⟩
set_option maxRecDepth 100000 in
theorem m_314 : Cond.selects R_Po y_Po_pointAt y_Po_pointAt ∈ BIG := List.mem_filter.mpr ⟨List.mem_append_right _ (List.mem_of_getElem? (i := 520) rfl), rfl⟩
set_option maxRecDepth 100000 in
theorem m_315 : Cond.methodLink R_Ga 169 y_Ga_bitAt ∈ BIG := List.mem_filter.mpr ⟨List.mem_append_right _ (List.mem_of_getElem? (i := 530) rfl), rfl⟩
set_option maxRecDepth 100000 in
theorem m_316 : Cond.methodLink R_Ta 125 y_Ta_areOne ∈ BIG := List.mem_filter.mpr ⟨List.mem_append_right _ (List.mem_of_getElem? (i := 539) rfl), rfl⟩
set_option maxRecDepth 100000 in
theorem m_317 : Cond.code y_Ta_areOne b_Ta_areOne_c 7 (some .boolean) ∈ BIG := List.mem_filter.mpr ⟨List.mem_append_right _ (List.mem_of_getElem? (i := 542) rfl), rfl⟩
set_option maxRecDepth 100000 in
theorem m_318 : Cond.instanceMethod y_Ta_areOne ∈ BIG := List.mem_filter.mpr ⟨List.mem_append_right _ (List.mem_of_getElem? (i := 541) rfl), rfl⟩
set_option maxRecDepth 100000 in
theorem m_319 : Cond.selects R_Ta y_Ta_areOne y_Ta_areOne ∈ BIG := List.mem_filter.mpr ⟨List.mem_append_left _ (List.mem_of_getElem? (i := 21) rfl), rfl⟩
set_option maxRecDepth 100000 in
theorem m_320 : Cond.methodLink R_Ta 109 y_Ta_leastBetterAmong ∈ BIG := List.mem_filter.mpr ⟨List.mem_append_right _ (List.mem_of_getElem? (i := 548) rfl), rfl⟩
set_option maxRecDepth 100000 in
theorem m_321 : Cond.methodLink R_Ta 121 y_Ta_isWeaklyWorse ∈ BIG := List.mem_filter.mpr ⟨List.mem_append_right _ (List.mem_of_getElem? (i := 553) rfl), rfl⟩
set_option maxRecDepth 100000 in
theorem m_322 : Cond.code y_Ta_isWeaklyWorse b_Ta_isWeaklyWorse_c 8 (some .boolean) ∈ BIG := List.mem_filter.mpr ⟨List.mem_append_right _ (List.mem_of_getElem? (i := 556) rfl), rfl⟩
set_option maxRecDepth 100000 in
theorem m_323 : Cond.instanceMethod y_Ta_isWeaklyWorse ∈ BIG := List.mem_filter.mpr ⟨List.mem_append_right _ (List.mem_of_getElem? (i := 555) rfl), rfl⟩
set_option maxRecDepth 100000 in
theorem m_324 : Cond.selects R_Ta y_Ta_isWeaklyWorse y_Ta_isWeaklyWorse ∈ BIG := List.mem_filter.mpr ⟨List.mem_append_left _ (List.mem_of_getElem? (i := 22) rfl), rfl⟩
set_option maxRecDepth 100000 in
theorem m_325 : Cond.methodLink R_Ga 179 y_Ta_leastWeaklyBetter ∈ BIG := List.mem_filter.mpr ⟨List.mem_append_right _ (List.mem_of_getElem? (i := 549) rfl), rfl⟩
set_option maxRecDepth 100000 in
theorem m_326 : Cond.code y_Ta_leastWeaklyBetter b_Ta_leastWeaklyBetter_c 4 (some .int) ∈ BIG := List.mem_filter.mpr ⟨List.mem_append_right _ (List.mem_of_getElem? (i := 552) rfl), rfl⟩
set_option maxRecDepth 100000 in
theorem m_327 : Cond.instanceMethod y_Ta_leastWeaklyBetter ∈ BIG := List.mem_filter.mpr ⟨List.mem_append_right _ (List.mem_of_getElem? (i := 550) rfl), rfl⟩
set_option maxRecDepth 100000 in
theorem m_328 : Cond.selects R_Ta y_Ta_leastWeaklyBetter y_Ta_leastWeaklyBetter ∈ BIG := List.mem_filter.mpr ⟨List.mem_append_right _ (List.mem_of_getElem? (i := 551) rfl), rfl⟩
set_option maxRecDepth 100000 in
theorem m_329 : Cond.methodLink R_Ga 176 y_Ta_leastBetter ∈ BIG := List.mem_filter.mpr ⟨List.mem_append_right _ (List.mem_of_getElem? (i := 543) rfl), rfl⟩
set_option maxRecDepth 100000 in
theorem m_330 : Cond.code y_Ta_leastBetter b_Ta_leastBetter_c 3 (some .int) ∈ BIG := List.mem_filter.mpr ⟨List.mem_append_right _ (List.mem_of_getElem? (i := 546) rfl), rfl⟩
set_option maxRecDepth 100000 in
theorem m_331 : Cond.instanceMethod y_Ta_leastBetter ∈ BIG := List.mem_filter.mpr ⟨List.mem_append_right _ (List.mem_of_getElem? (i := 544) rfl), rfl⟩
set_option maxRecDepth 100000 in
theorem m_332 : Cond.selects R_Ta y_Ta_leastBetter y_Ta_leastBetter ∈ BIG := List.mem_filter.mpr ⟨List.mem_append_right _ (List.mem_of_getElem? (i := 545) rfl), rfl⟩
set_option maxRecDepth 100000 in
theorem m_333 : Cond.methodLink R_Ga 173 y_Ta_leastOneWith ∈ BIG := List.mem_filter.mpr ⟨List.mem_append_right _ (List.mem_of_getElem? (i := 535) rfl), rfl⟩
set_option maxRecDepth 100000 in
theorem m_334 : Cond.code y_Ta_leastOneWith b_Ta_leastOneWith_c 4 (some .int) ∈ BIG := List.mem_filter.mpr ⟨List.mem_append_right _ (List.mem_of_getElem? (i := 538) rfl), rfl⟩
set_option maxRecDepth 100000 in
theorem m_335 : Cond.instanceMethod y_Ta_leastOneWith ∈ BIG := List.mem_filter.mpr ⟨List.mem_append_right _ (List.mem_of_getElem? (i := 536) rfl), rfl⟩
set_option maxRecDepth 100000 in
theorem m_336 : Cond.selects R_Ta y_Ta_leastOneWith y_Ta_leastOneWith ∈ BIG := List.mem_filter.mpr ⟨List.mem_append_right _ (List.mem_of_getElem? (i := 537) rfl), rfl⟩
set_option maxRecDepth 100000 in
theorem m_337 : Cond.methodLink R_Ga 182 y_Le_roundOf ∈ BIG := List.mem_filter.mpr ⟨List.mem_append_right _ (List.mem_of_getElem? (i := 561) rfl), rfl⟩
set_option maxRecDepth 100000 in
theorem m_338 : Cond.code y_Le_roundOf b_Le_roundOf_c 3 (some .int) ∈ BIG := List.mem_filter.mpr ⟨List.mem_append_right _ (List.mem_of_getElem? (i := 564) rfl), rfl⟩
set_option maxRecDepth 100000 in
theorem m_339 : Cond.instanceMethod y_Le_roundOf ∈ BIG := List.mem_filter.mpr ⟨List.mem_append_right _ (List.mem_of_getElem? (i := 562) rfl), rfl⟩
set_option maxRecDepth 100000 in
theorem m_340 : Cond.selects R_Le y_Le_roundOf y_Le_roundOf ∈ BIG := List.mem_filter.mpr ⟨List.mem_append_right _ (List.mem_of_getElem? (i := 563) rfl), rfl⟩
set_option maxRecDepth 100000 in
theorem m_341 : Cond.methodLink R_Ta 102 y_Ma_min ∈ BIG := List.mem_filter.mpr ⟨List.mem_append_right _ (List.mem_of_getElem? (i := 577) rfl), rfl⟩
set_option maxRecDepth 100000 in
theorem m_342 : Cond.code y_Ma_min b_Ma_min_c 2 (some .int) ∈ BIG := List.mem_filter.mpr ⟨List.mem_append_right _ (List.mem_of_getElem? (i := 579) rfl), rfl⟩
set_option maxRecDepth 100000 in
theorem m_343 : Cond.static y_Ma_min ∈ BIG := List.mem_filter.mpr ⟨List.mem_append_right _ (List.mem_of_getElem? (i := 578) rfl), rfl⟩
set_option maxRecDepth 100000 in
theorem m_344 : Cond.methodLink R_Ta 90 y_Ta_leastOf ∈ BIG := List.mem_filter.mpr ⟨List.mem_append_right _ (List.mem_of_getElem? (i := 573) rfl), rfl⟩
set_option maxRecDepth 100000 in
theorem m_345 : Cond.code y_Ta_leastOf b_Ta_leastOf_c 5 (some .int) ∈ BIG := List.mem_filter.mpr ⟨List.mem_append_right _ (List.mem_of_getElem? (i := 576) rfl), rfl⟩
set_option maxRecDepth 100000 in
theorem m_346 : Cond.instanceMethod y_Ta_leastOf ∈ BIG := List.mem_filter.mpr ⟨List.mem_append_right _ (List.mem_of_getElem? (i := 575) rfl), rfl⟩
set_option maxRecDepth 100000 in
theorem m_347 : Cond.selects R_Ta y_Ta_leastOf y_Ta_leastOf ∈ BIG := List.mem_filter.mpr ⟨List.mem_append_left _ (List.mem_of_getElem? (i := 23) rfl), rfl⟩
set_option maxRecDepth 100000 in
theorem m_348 : Cond.methodLink R_Ta 93 y_Ma_max ∈ BIG := List.mem_filter.mpr ⟨List.mem_append_right _ (List.mem_of_getElem? (i := 580) rfl), rfl⟩
set_option maxRecDepth 100000 in
theorem m_349 : Cond.methodLink R_Ga 185 y_Ta_sureOf ∈ BIG := List.mem_filter.mpr ⟨List.mem_append_right _ (List.mem_of_getElem? (i := 569) rfl), rfl⟩
set_option maxRecDepth 100000 in
theorem m_350 : Cond.code y_Ta_sureOf b_Ta_sureOf_c 4 (some .int) ∈ BIG := List.mem_filter.mpr ⟨List.mem_append_right _ (List.mem_of_getElem? (i := 572) rfl), rfl⟩
set_option maxRecDepth 100000 in
theorem m_351 : Cond.instanceMethod y_Ta_sureOf ∈ BIG := List.mem_filter.mpr ⟨List.mem_append_right _ (List.mem_of_getElem? (i := 570) rfl), rfl⟩
set_option maxRecDepth 100000 in
theorem m_352 : Cond.selects R_Ta y_Ta_sureOf y_Ta_sureOf ∈ BIG := List.mem_filter.mpr ⟨List.mem_append_right _ (List.mem_of_getElem? (i := 571) rfl), rfl⟩
set_option maxRecDepth 100000 in
theorem m_353 : Cond.methodLink R_Fo 136 y_Fo_childAt ∈ BIG := List.mem_filter.mpr ⟨List.mem_append_right _ (List.mem_of_getElem? (i := 602) rfl), rfl⟩
set_option maxRecDepth 100000 in
theorem m_354 : Cond.constantLong R_Fo 131 31 ∈ BIG := List.mem_filter.mpr ⟨List.mem_append_right _ (List.mem_of_getElem? (i := 597) rfl), rfl⟩
set_option maxRecDepth 100000 in
theorem m_355 : Cond.methodLink R_Fo 133 y_Fo_actTo ∈ BIG := List.mem_filter.mpr ⟨List.mem_append_right _ (List.mem_of_getElem? (i := 598) rfl), rfl⟩
set_option maxRecDepth 100000 in
theorem m_356 : Cond.code y_Fo_actTo b_Fo_actTo_c 5 (some .int) ∈ BIG := List.mem_filter.mpr ⟨List.mem_append_right _ (List.mem_of_getElem? (i := 601) rfl), rfl⟩
set_option maxRecDepth 100000 in
theorem m_357 : Cond.instanceMethod y_Fo_actTo ∈ BIG := List.mem_filter.mpr ⟨List.mem_append_right _ (List.mem_of_getElem? (i := 600) rfl), rfl⟩
set_option maxRecDepth 100000 in
theorem m_358 : Cond.selects R_Fo y_Fo_actTo y_Fo_actTo ∈ BIG := List.mem_filter.mpr ⟨List.mem_append_left _ (List.mem_of_getElem? (i := 26) rfl), rfl⟩
set_option maxRecDepth 100000 in
theorem m_359 : Cond.methodLink R_Fo 127 y_Fo_wayTo ∈ BIG := List.mem_filter.mpr ⟨List.mem_append_right _ (List.mem_of_getElem? (i := 593) rfl), rfl⟩
set_option maxRecDepth 100000 in
theorem m_360 : Cond.code y_Fo_wayTo b_Fo_wayTo_c 9 (some .long) ∈ BIG := List.mem_filter.mpr ⟨List.mem_append_right _ (List.mem_of_getElem? (i := 596) rfl), rfl⟩
set_option maxRecDepth 100000 in
theorem m_361 : Cond.instanceMethod y_Fo_wayTo ∈ BIG := List.mem_filter.mpr ⟨List.mem_append_right _ (List.mem_of_getElem? (i := 595) rfl), rfl⟩
set_option maxRecDepth 100000 in
theorem m_362 : Cond.selects R_Fo y_Fo_wayTo y_Fo_wayTo ∈ BIG := List.mem_filter.mpr ⟨List.mem_append_left _ (List.mem_of_getElem? (i := 25) rfl), rfl⟩
set_option maxRecDepth 100000 in
theorem m_363 : Cond.methodLink R_Fo 123 y_Fo_areWaysAlike ∈ BIG := List.mem_filter.mpr ⟨List.mem_append_right _ (List.mem_of_getElem? (i := 589) rfl), rfl⟩
set_option maxRecDepth 100000 in
theorem m_364 : Cond.code y_Fo_areWaysAlike b_Fo_areWaysAlike_c 10 (some .boolean) ∈ BIG := List.mem_filter.mpr ⟨List.mem_append_right _ (List.mem_of_getElem? (i := 592) rfl), rfl⟩
set_option maxRecDepth 100000 in
theorem m_365 : Cond.instanceMethod y_Fo_areWaysAlike ∈ BIG := List.mem_filter.mpr ⟨List.mem_append_right _ (List.mem_of_getElem? (i := 591) rfl), rfl⟩
set_option maxRecDepth 100000 in
theorem m_366 : Cond.selects R_Fo y_Fo_areWaysAlike y_Fo_areWaysAlike ∈ BIG := List.mem_filter.mpr ⟨List.mem_append_left _ (List.mem_of_getElem? (i := 24) rfl), rfl⟩
set_option maxRecDepth 100000 in
theorem m_367 : Cond.methodLink R_Ga 188 y_Fo_remembersAll ∈ BIG := List.mem_filter.mpr ⟨List.mem_append_right _ (List.mem_of_getElem? (i := 585) rfl), rfl⟩
set_option maxRecDepth 100000 in
theorem m_368 : Cond.code y_Fo_remembersAll b_Fo_remembersAll_c 3 (some .boolean) ∈ BIG := List.mem_filter.mpr ⟨List.mem_append_right _ (List.mem_of_getElem? (i := 588) rfl), rfl⟩
set_option maxRecDepth 100000 in
theorem m_369 : Cond.instanceMethod y_Fo_remembersAll ∈ BIG := List.mem_filter.mpr ⟨List.mem_append_right _ (List.mem_of_getElem? (i := 586) rfl), rfl⟩
set_option maxRecDepth 100000 in
theorem m_370 : Cond.selects R_Fo y_Fo_remembersAll y_Fo_remembersAll ∈ BIG := List.mem_filter.mpr ⟨List.mem_append_right _ (List.mem_of_getElem? (i := 587) rfl), rfl⟩
set_option maxRecDepth 100000 in
theorem m_371 : Cond.fieldLink R_An 30 (T_An 1).1 (T_An 1).2.1 (T_An 1).2.2.1 ∈ BIG := List.mem_filter.mpr ⟨List.mem_append_right _ (List.mem_of_getElem? (i := 185) rfl), rfl⟩
set_option maxRecDepth 100000 in
theorem m_372 : Cond.fieldLink R_An 38 (T_Ta 0).1 (T_Ta 0).2.1 (T_Ta 0).2.2.1 ∈ BIG := List.mem_filter.mpr ⟨List.mem_append_right _ (List.mem_of_getElem? (i := 102) rfl), rfl⟩
set_option maxRecDepth 100000 in
theorem m_373 : Cond.fieldLink R_An 16 (T_An 3).1 (T_An 3).2.1 (T_An 3).2.2.1 ∈ BIG := List.mem_filter.mpr ⟨List.mem_append_right _ (List.mem_of_getElem? (i := 187) rfl), rfl⟩
set_option maxRecDepth 100000 in
theorem m_374 : Cond.methodLink R_An 78 y_Ta_value ∈ BIG := List.mem_filter.mpr ⟨List.mem_append_right _ (List.mem_of_getElem? (i := 620) rfl), rfl⟩
set_option maxRecDepth 100000 in
theorem m_375 : Cond.fieldLink R_An 19 (T_An 4).1 (T_An 4).2.1 (T_An 4).2.2.1 ∈ BIG := List.mem_filter.mpr ⟨List.mem_append_right _ (List.mem_of_getElem? (i := 188) rfl), rfl⟩
set_option maxRecDepth 100000 in
theorem m_376 : Cond.methodLink R_An 52 y_Ma_max ∈ BIG := List.mem_filter.mpr ⟨List.mem_append_right _ (List.mem_of_getElem? (i := 621) rfl), rfl⟩
set_option maxRecDepth 100000 in
theorem m_377 : Cond.fieldLink R_An 11 (T_An 2).1 (T_An 2).2.1 (T_An 2).2.2.1 ∈ BIG := List.mem_filter.mpr ⟨List.mem_append_right _ (List.mem_of_getElem? (i := 186) rfl), rfl⟩
set_option maxRecDepth 100000 in
theorem m_378 : Cond.methodLink R_An 70 y_An_leastOfGreatest ∈ BIG := List.mem_filter.mpr ⟨List.mem_append_right _ (List.mem_of_getElem? (i := 612) rfl), rfl⟩
set_option maxRecDepth 100000 in
theorem m_379 : Cond.initialized R_An ∈ BIG := List.mem_filter.mpr ⟨List.mem_append_right _ (List.mem_of_getElem? (i := 6) rfl), rfl⟩
set_option maxRecDepth 100000 in
theorem m_380 : Cond.code y_An_leastOfGreatest b_An_leastOfGreatest_c 4 (some .int) ∈ BIG := List.mem_filter.mpr ⟨List.mem_append_right _ (List.mem_of_getElem? (i := 615) rfl), rfl⟩
set_option maxRecDepth 100000 in
theorem m_381 : Cond.instanceMethod y_An_leastOfGreatest ∈ BIG := List.mem_filter.mpr ⟨List.mem_append_right _ (List.mem_of_getElem? (i := 614) rfl), rfl⟩
set_option maxRecDepth 100000 in
theorem m_382 : Cond.selects R_An y_An_leastOfGreatest y_An_leastOfGreatest ∈ BIG := List.mem_filter.mpr ⟨List.mem_append_left _ (List.mem_of_getElem? (i := 27) rfl), rfl⟩
set_option maxRecDepth 100000 in
theorem m_383 : Cond.methodLink R_An 74 y_An_addUp ∈ BIG := List.mem_filter.mpr ⟨List.mem_append_right _ (List.mem_of_getElem? (i := 616) rfl), rfl⟩
set_option maxRecDepth 100000 in
theorem m_384 : Cond.code y_An_addUp b_An_addUp_c 4 none ∈ BIG := List.mem_filter.mpr ⟨List.mem_append_right _ (List.mem_of_getElem? (i := 619) rfl), rfl⟩
set_option maxRecDepth 100000 in
theorem m_385 : Cond.instanceMethod y_An_addUp ∈ BIG := List.mem_filter.mpr ⟨List.mem_append_right _ (List.mem_of_getElem? (i := 618) rfl), rfl⟩
set_option maxRecDepth 100000 in
theorem m_386 : Cond.selects R_An y_An_addUp y_An_addUp ∈ BIG := List.mem_filter.mpr ⟨List.mem_append_left _ (List.mem_of_getElem? (i := 28) rfl), rfl⟩
set_option maxRecDepth 100000 in
theorem m_387 : Cond.fieldLink R_An 23 (T_An 5).1 (T_An 5).2.1 (T_An 5).2.2.1 ∈ BIG := List.mem_filter.mpr ⟨List.mem_append_right _ (List.mem_of_getElem? (i := 189) rfl), rfl⟩
set_option maxRecDepth 100000 in
theorem m_388 : Cond.fieldLink R_An 26 (T_An 0).1 (T_An 0).2.1 (T_An 0).2.2.1 ∈ BIG := List.mem_filter.mpr ⟨List.mem_append_right _ (List.mem_of_getElem? (i := 184) rfl), rfl⟩
set_option maxRecDepth 100000 in
theorem m_389 : Cond.fieldLink R_An 59 (T_Fo 2).1 (T_Fo 2).2.1 (T_Fo 2).2.2.1 ∈ BIG := List.mem_filter.mpr ⟨List.mem_append_right _ (List.mem_of_getElem? (i := 34) rfl), rfl⟩
set_option maxRecDepth 100000 in
theorem m_390 : Cond.methodLink R_An 64 y_Ar_fillI ∈ BIG := List.mem_filter.mpr ⟨List.mem_append_right _ (List.mem_of_getElem? (i := 611) rfl), rfl⟩
set_option maxRecDepth 100000 in
theorem m_391 : Cond.fieldLink R_Ga 44 (T_Ga 4).1 (T_Ga 4).2.1 (T_Ga 4).2.2.1 ∈ BIG := List.mem_filter.mpr ⟨List.mem_append_right _ (List.mem_of_getElem? (i := 207) rfl), rfl⟩
set_option maxRecDepth 100000 in
theorem m_392 : Cond.methodLink R_Ga 191 y_An_playTo ∈ BIG := List.mem_filter.mpr ⟨List.mem_append_right _ (List.mem_of_getElem? (i := 607) rfl), rfl⟩
set_option maxRecDepth 100000 in
theorem m_393 : Cond.code y_An_playTo b_An_playTo_c 3 none ∈ BIG := List.mem_filter.mpr ⟨List.mem_append_right _ (List.mem_of_getElem? (i := 610) rfl), rfl⟩
set_option maxRecDepth 100000 in
theorem m_394 : Cond.instanceMethod y_An_playTo ∈ BIG := List.mem_filter.mpr ⟨List.mem_append_right _ (List.mem_of_getElem? (i := 608) rfl), rfl⟩
set_option maxRecDepth 100000 in
theorem m_395 : Cond.selects R_An y_An_playTo y_An_playTo ∈ BIG := List.mem_filter.mpr ⟨List.mem_append_right _ (List.mem_of_getElem? (i := 609) rfl), rfl⟩
set_option maxRecDepth 100000 in
theorem m_396 : Cond.methodLink R_Ga 195 y_An_timesTaken ∈ BIG := List.mem_filter.mpr ⟨List.mem_append_right _ (List.mem_of_getElem? (i := 622) rfl), rfl⟩
set_option maxRecDepth 100000 in
theorem m_397 : Cond.code y_An_timesTaken b_An_timesTaken_c 6 (some .int) ∈ BIG := List.mem_filter.mpr ⟨List.mem_append_right _ (List.mem_of_getElem? (i := 625) rfl), rfl⟩
set_option maxRecDepth 100000 in
theorem m_398 : Cond.instanceMethod y_An_timesTaken ∈ BIG := List.mem_filter.mpr ⟨List.mem_append_right _ (List.mem_of_getElem? (i := 623) rfl), rfl⟩
set_option maxRecDepth 100000 in
theorem m_399 : Cond.selects R_An y_An_timesTaken y_An_timesTaken ∈ BIG := List.mem_filter.mpr ⟨List.mem_append_right _ (List.mem_of_getElem? (i := 624) rfl), rfl⟩
set_option maxRecDepth 100000 in
theorem m_400 : Cond.methodLink R_An 55 y_Ta_valueOfPair ∈ BIG := List.mem_filter.mpr ⟨List.mem_append_right _ (List.mem_of_getElem? (i := 638) rfl), rfl⟩
set_option maxRecDepth 100000 in
theorem m_401 : Cond.methodLink R_An 34 y_An_sumAgainst ∈ BIG := List.mem_filter.mpr ⟨List.mem_append_right _ (List.mem_of_getElem? (i := 634) rfl), rfl⟩
set_option maxRecDepth 100000 in
theorem m_402 : Cond.code y_An_sumAgainst b_An_sumAgainst_c 5 (some .int) ∈ BIG := List.mem_filter.mpr ⟨List.mem_append_right _ (List.mem_of_getElem? (i := 637) rfl), rfl⟩
set_option maxRecDepth 100000 in
theorem m_403 : Cond.instanceMethod y_An_sumAgainst ∈ BIG := List.mem_filter.mpr ⟨List.mem_append_right _ (List.mem_of_getElem? (i := 636) rfl), rfl⟩
set_option maxRecDepth 100000 in
theorem m_404 : Cond.selects R_An y_An_sumAgainst y_An_sumAgainst ∈ BIG := List.mem_filter.mpr ⟨List.mem_append_left _ (List.mem_of_getElem? (i := 29) rfl), rfl⟩
set_option maxRecDepth 100000 in
theorem m_405 : Cond.methodLink R_An 44 y_Ma_min ∈ BIG := List.mem_filter.mpr ⟨List.mem_append_right _ (List.mem_of_getElem? (i := 639) rfl), rfl⟩
set_option maxRecDepth 100000 in
theorem m_406 : Cond.methodLink R_An 49 y_An_sumFor ∈ BIG := List.mem_filter.mpr ⟨List.mem_append_right _ (List.mem_of_getElem? (i := 644) rfl), rfl⟩
set_option maxRecDepth 100000 in
theorem m_407 : Cond.code y_An_sumFor b_An_sumFor_c 5 (some .int) ∈ BIG := List.mem_filter.mpr ⟨List.mem_append_right _ (List.mem_of_getElem? (i := 647) rfl), rfl⟩
set_option maxRecDepth 100000 in
theorem m_408 : Cond.instanceMethod y_An_sumFor ∈ BIG := List.mem_filter.mpr ⟨List.mem_append_right _ (List.mem_of_getElem? (i := 646) rfl), rfl⟩
set_option maxRecDepth 100000 in
theorem m_409 : Cond.selects R_An y_An_sumFor y_An_sumFor ∈ BIG := List.mem_filter.mpr ⟨List.mem_append_left _ (List.mem_of_getElem? (i := 30) rfl), rfl⟩
set_option maxRecDepth 100000 in
theorem m_410 : Cond.methodLink R_Ga 201 y_An_highBehind ∈ BIG := List.mem_filter.mpr ⟨List.mem_append_right _ (List.mem_of_getElem? (i := 640) rfl), rfl⟩
set_option maxRecDepth 100000 in
theorem m_411 : Cond.code y_An_highBehind b_An_highBehind_c 4 (some .int) ∈ BIG := List.mem_filter.mpr ⟨List.mem_append_right _ (List.mem_of_getElem? (i := 643) rfl), rfl⟩
set_option maxRecDepth 100000 in
theorem m_412 : Cond.instanceMethod y_An_highBehind ∈ BIG := List.mem_filter.mpr ⟨List.mem_append_right _ (List.mem_of_getElem? (i := 641) rfl), rfl⟩
set_option maxRecDepth 100000 in
theorem m_413 : Cond.selects R_An y_An_highBehind y_An_highBehind ∈ BIG := List.mem_filter.mpr ⟨List.mem_append_right _ (List.mem_of_getElem? (i := 642) rfl), rfl⟩
set_option maxRecDepth 100000 in
theorem m_414 : Cond.methodLink R_Ga 198 y_An_lowBehind ∈ BIG := List.mem_filter.mpr ⟨List.mem_append_right _ (List.mem_of_getElem? (i := 630) rfl), rfl⟩
set_option maxRecDepth 100000 in
theorem m_415 : Cond.code y_An_lowBehind b_An_lowBehind_c 4 (some .int) ∈ BIG := List.mem_filter.mpr ⟨List.mem_append_right _ (List.mem_of_getElem? (i := 633) rfl), rfl⟩
set_option maxRecDepth 100000 in
theorem m_416 : Cond.instanceMethod y_An_lowBehind ∈ BIG := List.mem_filter.mpr ⟨List.mem_append_right _ (List.mem_of_getElem? (i := 631) rfl), rfl⟩
set_option maxRecDepth 100000 in
theorem m_417 : Cond.selects R_An y_An_lowBehind y_An_lowBehind ∈ BIG := List.mem_filter.mpr ⟨List.mem_append_right _ (List.mem_of_getElem? (i := 632) rfl), rfl⟩
set_option maxRecDepth 100000 in
theorem m_418 : Cond.fieldLink R_Mo 71 (T_Mo 0).1 (T_Mo 0).2.1 (T_Mo 0).2.2.1 ∈ BIG := List.mem_filter.mpr ⟨List.mem_append_right _ (List.mem_of_getElem? (i := 654) rfl), rfl⟩
set_option maxRecDepth 100000 in
theorem m_419 : Cond.fieldLink R_Mo 75 (T_Mo 1).1 (T_Mo 1).2.1 (T_Mo 1).2.2.1 ∈ BIG := List.mem_filter.mpr ⟨List.mem_append_right _ (List.mem_of_getElem? (i := 655) rfl), rfl⟩
set_option maxRecDepth 100000 in
theorem m_420 : Cond.methodLink R_Mo 78 y_Mo_isFrom ∈ BIG := List.mem_filter.mpr ⟨List.mem_append_right _ (List.mem_of_getElem? (i := 742) rfl), rfl⟩
set_option maxRecDepth 100000 in
theorem m_421 : Cond.initialized R_Mo ∈ BIG := List.mem_filter.mpr ⟨List.mem_append_right _ (List.mem_of_getElem? (i := 7) rfl), rfl⟩
set_option maxRecDepth 100000 in
theorem m_422 : Cond.code y_Mo_isFrom b_Mo_isFrom_c 3 (some .boolean) ∈ BIG := List.mem_filter.mpr ⟨List.mem_append_right _ (List.mem_of_getElem? (i := 744) rfl), rfl⟩
set_option maxRecDepth 100000 in
theorem m_423 : Cond.static y_Mo_isFrom ∈ BIG := List.mem_filter.mpr ⟨List.mem_append_right _ (List.mem_of_getElem? (i := 743) rfl), rfl⟩
set_option maxRecDepth 100000 in
theorem m_424 : Cond.fieldLink R_Mo 31 (T_Mo 9).1 (T_Mo 9).2.1 (T_Mo 9).2.2.1 ∈ BIG := List.mem_filter.mpr ⟨List.mem_append_right _ (List.mem_of_getElem? (i := 663) rfl), rfl⟩
set_option maxRecDepth 100000 in
theorem m_425 : Cond.fieldLink R_Mo 34 (T_Mo 10).1 (T_Mo 10).2.1 (T_Mo 10).2.2.1 ∈ BIG := List.mem_filter.mpr ⟨List.mem_append_right _ (List.mem_of_getElem? (i := 664) rfl), rfl⟩
set_option maxRecDepth 100000 in
theorem m_426 : Cond.fieldLink R_Mo 19 (T_Mo 5).1 (T_Mo 5).2.1 (T_Mo 5).2.2.1 ∈ BIG := List.mem_filter.mpr ⟨List.mem_append_right _ (List.mem_of_getElem? (i := 659) rfl), rfl⟩
set_option maxRecDepth 100000 in
theorem m_427 : Cond.fieldLink R_Mo 7 (T_Mo 2).1 (T_Mo 2).2.1 (T_Mo 2).2.2.1 ∈ BIG := List.mem_filter.mpr ⟨List.mem_append_right _ (List.mem_of_getElem? (i := 656) rfl), rfl⟩
set_option maxRecDepth 100000 in
theorem m_428 : Cond.fieldLink R_Mo 13 (T_Mo 3).1 (T_Mo 3).2.1 (T_Mo 3).2.2.1 ∈ BIG := List.mem_filter.mpr ⟨List.mem_append_right _ (List.mem_of_getElem? (i := 657) rfl), rfl⟩
set_option maxRecDepth 100000 in
theorem m_429 : Cond.fieldLink R_Mo 16 (T_Mo 4).1 (T_Mo 4).2.1 (T_Mo 4).2.2.1 ∈ BIG := List.mem_filter.mpr ⟨List.mem_append_right _ (List.mem_of_getElem? (i := 658) rfl), rfl⟩
set_option maxRecDepth 100000 in
theorem m_430 : Cond.fieldLink R_Mo 22 (T_Mo 6).1 (T_Mo 6).2.1 (T_Mo 6).2.2.1 ∈ BIG := List.mem_filter.mpr ⟨List.mem_append_right _ (List.mem_of_getElem? (i := 660) rfl), rfl⟩
set_option maxRecDepth 100000 in
theorem m_431 : Cond.fieldLink R_Mo 25 (T_Mo 7).1 (T_Mo 7).2.1 (T_Mo 7).2.2.1 ∈ BIG := List.mem_filter.mpr ⟨List.mem_append_right _ (List.mem_of_getElem? (i := 661) rfl), rfl⟩
set_option maxRecDepth 100000 in
theorem m_432 : Cond.fieldLink R_Mo 28 (T_Mo 8).1 (T_Mo 8).2.1 (T_Mo 8).2.2.1 ∈ BIG := List.mem_filter.mpr ⟨List.mem_append_right _ (List.mem_of_getElem? (i := 662) rfl), rfl⟩
set_option maxRecDepth 100000 in
theorem m_433 : Cond.methodLink R_Mo 82 y_Mo_make ∈ BIG := List.mem_filter.mpr ⟨List.mem_append_right _ (List.mem_of_getElem? (i := 749) rfl), rfl⟩
set_option maxRecDepth 100000 in
theorem m_434 : Cond.code y_Mo_make b_Mo_make_c 3 (some .int) ∈ BIG := List.mem_filter.mpr ⟨List.mem_append_right _ (List.mem_of_getElem? (i := 752) rfl), rfl⟩
set_option maxRecDepth 100000 in
theorem m_435 : Cond.instanceMethod y_Mo_make ∈ BIG := List.mem_filter.mpr ⟨List.mem_append_right _ (List.mem_of_getElem? (i := 751) rfl), rfl⟩
set_option maxRecDepth 100000 in
theorem m_436 : Cond.selects R_Mo y_Mo_make y_Mo_make ∈ BIG := List.mem_filter.mpr ⟨List.mem_append_left _ (List.mem_of_getElem? (i := 31) rfl), rfl⟩
set_option maxRecDepth 100000 in
theorem m_437 : Cond.methodLink R_Mo 86 y_Mo_third ∈ BIG := List.mem_filter.mpr ⟨List.mem_append_right _ (List.mem_of_getElem? (i := 765) rfl), rfl⟩
set_option maxRecDepth 100000 in
theorem m_438 : Cond.code y_Mo_third b_Mo_third_c 4 (some .int) ∈ BIG := List.mem_filter.mpr ⟨List.mem_append_right _ (List.mem_of_getElem? (i := 767) rfl), rfl⟩
set_option maxRecDepth 100000 in
theorem m_439 : Cond.static y_Mo_third ∈ BIG := List.mem_filter.mpr ⟨List.mem_append_right _ (List.mem_of_getElem? (i := 766) rfl), rfl⟩
set_option maxRecDepth 100000 in
theorem m_440 : Cond.fieldLink R_Mo 37 (T_Mo 11).1 (T_Mo 11).2.1 (T_Mo 11).2.2.1 ∈ BIG := List.mem_filter.mpr ⟨List.mem_append_right _ (List.mem_of_getElem? (i := 665) rfl), rfl⟩
set_option maxRecDepth 100000 in
theorem m_441 : Cond.fieldLink R_Mo 41 (T_Mo 12).1 (T_Mo 12).2.1 (T_Mo 12).2.2.1 ∈ BIG := List.mem_filter.mpr ⟨List.mem_append_right _ (List.mem_of_getElem? (i := 666) rfl), rfl⟩
set_option maxRecDepth 100000 in
theorem m_442 : Cond.methodLink R_Mo 110 y_Mo_findTree ∈ BIG := List.mem_filter.mpr ⟨List.mem_append_right _ (List.mem_of_getElem? (i := 776) rfl), rfl⟩
set_option maxRecDepth 100000 in
theorem m_443 : Cond.code y_Mo_findTree b_Mo_findTree_c 2 none ∈ BIG := List.mem_filter.mpr ⟨List.mem_append_right _ (List.mem_of_getElem? (i := 779) rfl), rfl⟩
set_option maxRecDepth 100000 in
theorem m_444 : Cond.instanceMethod y_Mo_findTree ∈ BIG := List.mem_filter.mpr ⟨List.mem_append_right _ (List.mem_of_getElem? (i := 778) rfl), rfl⟩
set_option maxRecDepth 100000 in
theorem m_445 : Cond.selects R_Mo y_Mo_findTree y_Mo_findTree ∈ BIG := List.mem_filter.mpr ⟨List.mem_append_left _ (List.mem_of_getElem? (i := 36) rfl), rfl⟩
set_option maxRecDepth 100000 in
theorem m_446 : Cond.methodLink R_Mo 113 y_Mo_plansOf ∈ BIG := List.mem_filter.mpr ⟨List.mem_append_right _ (List.mem_of_getElem? (i := 780) rfl), rfl⟩
set_option maxRecDepth 100000 in
theorem m_447 : Cond.code y_Mo_plansOf b_Mo_plansOf_c 4 (some .int) ∈ BIG := List.mem_filter.mpr ⟨List.mem_append_right _ (List.mem_of_getElem? (i := 783) rfl), rfl⟩
set_option maxRecDepth 100000 in
theorem m_448 : Cond.instanceMethod y_Mo_plansOf ∈ BIG := List.mem_filter.mpr ⟨List.mem_append_right _ (List.mem_of_getElem? (i := 782) rfl), rfl⟩
set_option maxRecDepth 100000 in
theorem m_449 : Cond.selects R_Mo y_Mo_plansOf y_Mo_plansOf ∈ BIG := List.mem_filter.mpr ⟨List.mem_append_left _ (List.mem_of_getElem? (i := 37) rfl), rfl⟩
set_option maxRecDepth 100000 in
theorem m_450 : Cond.methodLink R_Mo 94 y_Mo_bar ∈ BIG := List.mem_filter.mpr ⟨List.mem_append_right _ (List.mem_of_getElem? (i := 761) rfl), rfl⟩
set_option maxRecDepth 100000 in
theorem m_451 : Cond.code y_Mo_bar b_Mo_bar_c 11 (some .int) ∈ BIG := List.mem_filter.mpr ⟨List.mem_append_right _ (List.mem_of_getElem? (i := 764) rfl), rfl⟩
set_option maxRecDepth 100000 in
theorem m_452 : Cond.instanceMethod y_Mo_bar ∈ BIG := List.mem_filter.mpr ⟨List.mem_append_right _ (List.mem_of_getElem? (i := 763) rfl), rfl⟩
set_option maxRecDepth 100000 in
theorem m_453 : Cond.selects R_Mo y_Mo_bar y_Mo_bar ∈ BIG := List.mem_filter.mpr ⟨List.mem_append_left _ (List.mem_of_getElem? (i := 33) rfl), rfl⟩
set_option maxRecDepth 100000 in
theorem m_454 : Cond.methodLink R_Mo 98 y_Mo_adopt ∈ BIG := List.mem_filter.mpr ⟨List.mem_append_right _ (List.mem_of_getElem? (i := 768) rfl), rfl⟩
set_option maxRecDepth 100000 in
theorem m_455 : Cond.code y_Mo_adopt b_Mo_adopt_c 9 none ∈ BIG := List.mem_filter.mpr ⟨List.mem_append_right _ (List.mem_of_getElem? (i := 771) rfl), rfl⟩
set_option maxRecDepth 100000 in
theorem m_456 : Cond.instanceMethod y_Mo_adopt ∈ BIG := List.mem_filter.mpr ⟨List.mem_append_right _ (List.mem_of_getElem? (i := 770) rfl), rfl⟩
set_option maxRecDepth 100000 in
theorem m_457 : Cond.selects R_Mo y_Mo_adopt y_Mo_adopt ∈ BIG := List.mem_filter.mpr ⟨List.mem_append_left _ (List.mem_of_getElem? (i := 34) rfl), rfl⟩
set_option maxRecDepth 100000 in
theorem m_458 : Cond.methodLink R_Mo 102 y_Mo_tooMany ∈ BIG := List.mem_filter.mpr ⟨List.mem_append_right _ (List.mem_of_getElem? (i := 772) rfl), rfl⟩
set_option maxRecDepth 100000 in
theorem m_459 : Cond.code y_Mo_tooMany b_Mo_tooMany_c 1 (some .boolean) ∈ BIG := List.mem_filter.mpr ⟨List.mem_append_right _ (List.mem_of_getElem? (i := 775) rfl), rfl⟩
set_option maxRecDepth 100000 in
theorem m_460 : Cond.instanceMethod y_Mo_tooMany ∈ BIG := List.mem_filter.mpr ⟨List.mem_append_right _ (List.mem_of_getElem? (i := 774) rfl), rfl⟩
set_option maxRecDepth 100000 in
theorem m_461 : Cond.selects R_Mo y_Mo_tooMany y_Mo_tooMany ∈ BIG := List.mem_filter.mpr ⟨List.mem_append_left _ (List.mem_of_getElem? (i := 35) rfl), rfl⟩
set_option maxRecDepth 100000 in
theorem m_462 : Cond.methodLink R_Mo 106 y_Mo_undo ∈ BIG := List.mem_filter.mpr ⟨List.mem_append_right _ (List.mem_of_getElem? (i := 784) rfl), rfl⟩
set_option maxRecDepth 100000 in
theorem m_463 : Cond.code y_Mo_undo b_Mo_undo_c 6 none ∈ BIG := List.mem_filter.mpr ⟨List.mem_append_right _ (List.mem_of_getElem? (i := 787) rfl), rfl⟩
set_option maxRecDepth 100000 in
theorem m_464 : Cond.instanceMethod y_Mo_undo ∈ BIG := List.mem_filter.mpr ⟨List.mem_append_right _ (List.mem_of_getElem? (i := 786) rfl), rfl⟩
set_option maxRecDepth 100000 in
theorem m_465 : Cond.selects R_Mo y_Mo_undo y_Mo_undo ∈ BIG := List.mem_filter.mpr ⟨List.mem_append_left _ (List.mem_of_getElem? (i := 38) rfl), rfl⟩
set_option maxRecDepth 100000 in
theorem m_466 : Cond.methodLink R_Mo 90 y_Mo_isNode ∈ BIG := List.mem_filter.mpr ⟨List.mem_append_right _ (List.mem_of_getElem? (i := 757) rfl), rfl⟩
set_option maxRecDepth 100000 in
theorem m_467 : Cond.code y_Mo_isNode b_Mo_isNode_c 2 (some .boolean) ∈ BIG := List.mem_filter.mpr ⟨List.mem_append_right _ (List.mem_of_getElem? (i := 760) rfl), rfl⟩
set_option maxRecDepth 100000 in
theorem m_468 : Cond.instanceMethod y_Mo_isNode ∈ BIG := List.mem_filter.mpr ⟨List.mem_append_right _ (List.mem_of_getElem? (i := 759) rfl), rfl⟩
set_option maxRecDepth 100000 in
theorem m_469 : Cond.selects R_Mo y_Mo_isNode y_Mo_isNode ∈ BIG := List.mem_filter.mpr ⟨List.mem_append_left _ (List.mem_of_getElem? (i := 32) rfl), rfl⟩
set_option maxRecDepth 100000 in
theorem m_470 : Cond.fieldLink R_Mo 44 (T_Mo 13).1 (T_Mo 13).2.1 (T_Mo 13).2.2.1 ∈ BIG := List.mem_filter.mpr ⟨List.mem_append_right _ (List.mem_of_getElem? (i := 667) rfl), rfl⟩
set_option maxRecDepth 100000 in
theorem m_471 : Cond.fieldLink R_Mo 50 (T_Mo 15).1 (T_Mo 15).2.1 (T_Mo 15).2.2.1 ∈ BIG := List.mem_filter.mpr ⟨List.mem_append_right _ (List.mem_of_getElem? (i := 669) rfl), rfl⟩
set_option maxRecDepth 100000 in
theorem m_472 : Cond.methodLink R_Mo 120 y_Mo_mean ∈ BIG := List.mem_filter.mpr ⟨List.mem_append_right _ (List.mem_of_getElem? (i := 813) rfl), rfl⟩
set_option maxRecDepth 100000 in
theorem m_473 : Cond.code y_Mo_mean b_Mo_mean_c 6 (some .int) ∈ BIG := List.mem_filter.mpr ⟨List.mem_append_right _ (List.mem_of_getElem? (i := 816) rfl), rfl⟩
set_option maxRecDepth 100000 in
theorem m_474 : Cond.instanceMethod y_Mo_mean ∈ BIG := List.mem_filter.mpr ⟨List.mem_append_right _ (List.mem_of_getElem? (i := 815) rfl), rfl⟩
set_option maxRecDepth 100000 in
theorem m_475 : Cond.selects R_Mo y_Mo_mean y_Mo_mean ∈ BIG := List.mem_filter.mpr ⟨List.mem_append_left _ (List.mem_of_getElem? (i := 43) rfl), rfl⟩
set_option maxRecDepth 100000 in
theorem m_476 : Cond.fieldLink R_Mo 47 (T_Mo 14).1 (T_Mo 14).2.1 (T_Mo 14).2.2.1 ∈ BIG := List.mem_filter.mpr ⟨List.mem_append_right _ (List.mem_of_getElem? (i := 668) rfl), rfl⟩
set_option maxRecDepth 100000 in
theorem m_477 : Cond.methodLink R_Mo 116 y_Mo_actOf ∈ BIG := List.mem_filter.mpr ⟨List.mem_append_right _ (List.mem_of_getElem? (i := 809) rfl), rfl⟩
set_option maxRecDepth 100000 in
theorem m_478 : Cond.code y_Mo_actOf b_Mo_actOf_c 6 (some .int) ∈ BIG := List.mem_filter.mpr ⟨List.mem_append_right _ (List.mem_of_getElem? (i := 812) rfl), rfl⟩
set_option maxRecDepth 100000 in
theorem m_479 : Cond.instanceMethod y_Mo_actOf ∈ BIG := List.mem_filter.mpr ⟨List.mem_append_right _ (List.mem_of_getElem? (i := 811) rfl), rfl⟩
set_option maxRecDepth 100000 in
theorem m_480 : Cond.selects R_Mo y_Mo_actOf y_Mo_actOf ∈ BIG := List.mem_filter.mpr ⟨List.mem_append_left _ (List.mem_of_getElem? (i := 42) rfl), rfl⟩
set_option maxRecDepth 100000 in
theorem m_481 : Cond.fieldLink R_Mo 127 (T_Mo 17).1 (T_Mo 17).2.1 (T_Mo 17).2.2.1 ∈ BIG := List.mem_filter.mpr ⟨List.mem_append_right _ (List.mem_of_getElem? (i := 671) rfl), rfl⟩
set_option maxRecDepth 100000 in
theorem m_482 : Cond.methodLink R_Mo 130 y_Mo_work ∈ BIG := List.mem_filter.mpr ⟨List.mem_append_right _ (List.mem_of_getElem? (i := 805) rfl), rfl⟩
set_option maxRecDepth 100000 in
theorem m_483 : Cond.code y_Mo_work b_Mo_work_c 6 none ∈ BIG := List.mem_filter.mpr ⟨List.mem_append_right _ (List.mem_of_getElem? (i := 808) rfl), rfl⟩
set_option maxRecDepth 100000 in
theorem m_484 : Cond.instanceMethod y_Mo_work ∈ BIG := List.mem_filter.mpr ⟨List.mem_append_right _ (List.mem_of_getElem? (i := 807) rfl), rfl⟩
set_option maxRecDepth 100000 in
theorem m_485 : Cond.selects R_Mo y_Mo_work y_Mo_work ∈ BIG := List.mem_filter.mpr ⟨List.mem_append_left _ (List.mem_of_getElem? (i := 41) rfl), rfl⟩
set_option maxRecDepth 100000 in
theorem m_486 : Cond.fieldLink R_Mo 124 (T_Mo 16).1 (T_Mo 16).2.1 (T_Mo 16).2.2.1 ∈ BIG := List.mem_filter.mpr ⟨List.mem_append_right _ (List.mem_of_getElem? (i := 670) rfl), rfl⟩
set_option maxRecDepth 100000 in
theorem m_487 : Cond.methodLink R_Mo 143 y_Mo_worthTo ∈ BIG := List.mem_filter.mpr ⟨List.mem_append_right _ (List.mem_of_getElem? (i := 817) rfl), rfl⟩
set_option maxRecDepth 100000 in
theorem m_488 : Cond.code y_Mo_worthTo b_Mo_worthTo_c 4 (some .int) ∈ BIG := List.mem_filter.mpr ⟨List.mem_append_right _ (List.mem_of_getElem? (i := 820) rfl), rfl⟩
set_option maxRecDepth 100000 in
theorem m_489 : Cond.instanceMethod y_Mo_worthTo ∈ BIG := List.mem_filter.mpr ⟨List.mem_append_right _ (List.mem_of_getElem? (i := 819) rfl), rfl⟩
set_option maxRecDepth 100000 in
theorem m_490 : Cond.selects R_Mo y_Mo_worthTo y_Mo_worthTo ∈ BIG := List.mem_filter.mpr ⟨List.mem_append_left _ (List.mem_of_getElem? (i := 44) rfl), rfl⟩
set_option maxRecDepth 100000 in
theorem m_491 : Cond.constant R_Mo 134 (-1000000) ∈ BIG := List.mem_filter.mpr ⟨List.mem_append_right _ (List.mem_of_getElem? (i := 796) rfl), rfl⟩
set_option maxRecDepth 100000 in
theorem m_492 : Cond.methodLink R_Mo 135 y_Mo_root ∈ BIG := List.mem_filter.mpr ⟨List.mem_append_right _ (List.mem_of_getElem? (i := 797) rfl), rfl⟩
set_option maxRecDepth 100000 in
theorem m_493 : Cond.code y_Mo_root b_Mo_root_c 1 (some .int) ∈ BIG := List.mem_filter.mpr ⟨List.mem_append_right _ (List.mem_of_getElem? (i := 800) rfl), rfl⟩
set_option maxRecDepth 100000 in
theorem m_494 : Cond.instanceMethod y_Mo_root ∈ BIG := List.mem_filter.mpr ⟨List.mem_append_right _ (List.mem_of_getElem? (i := 799) rfl), rfl⟩
set_option maxRecDepth 100000 in
theorem m_495 : Cond.selects R_Mo y_Mo_root y_Mo_root ∈ BIG := List.mem_filter.mpr ⟨List.mem_append_left _ (List.mem_of_getElem? (i := 39) rfl), rfl⟩
set_option maxRecDepth 100000 in
theorem m_496 : Cond.methodLink R_Mo 139 y_Mo_workAll ∈ BIG := List.mem_filter.mpr ⟨List.mem_append_right _ (List.mem_of_getElem? (i := 801) rfl), rfl⟩
set_option maxRecDepth 100000 in
theorem m_497 : Cond.code y_Mo_workAll b_Mo_workAll_c 4 none ∈ BIG := List.mem_filter.mpr ⟨List.mem_append_right _ (List.mem_of_getElem? (i := 804) rfl), rfl⟩
set_option maxRecDepth 100000 in
theorem m_498 : Cond.instanceMethod y_Mo_workAll ∈ BIG := List.mem_filter.mpr ⟨List.mem_append_right _ (List.mem_of_getElem? (i := 803) rfl), rfl⟩
set_option maxRecDepth 100000 in
theorem m_499 : Cond.selects R_Mo y_Mo_workAll y_Mo_workAll ∈ BIG := List.mem_filter.mpr ⟨List.mem_append_left _ (List.mem_of_getElem? (i := 40) rfl), rfl⟩
set_option maxRecDepth 100000 in
theorem m_500 : Cond.methodLink R_Mo 146 y_Mo_many ∈ BIG := List.mem_filter.mpr ⟨List.mem_append_right _ (List.mem_of_getElem? (i := 829) rfl), rfl⟩
set_option maxRecDepth 100000 in
theorem m_501 : Cond.code y_Mo_many b_Mo_many_c 2 (some .int) ∈ BIG := List.mem_filter.mpr ⟨List.mem_append_right _ (List.mem_of_getElem? (i := 832) rfl), rfl⟩
set_option maxRecDepth 100000 in
theorem m_502 : Cond.instanceMethod y_Mo_many ∈ BIG := List.mem_filter.mpr ⟨List.mem_append_right _ (List.mem_of_getElem? (i := 831) rfl), rfl⟩
set_option maxRecDepth 100000 in
theorem m_503 : Cond.selects R_Mo y_Mo_many y_Mo_many ∈ BIG := List.mem_filter.mpr ⟨List.mem_append_left _ (List.mem_of_getElem? (i := 45) rfl), rfl⟩
set_option maxRecDepth 100000 in
theorem m_504 : Cond.methodLink R_Mo 149 y_Mo_answerOf ∈ BIG := List.mem_filter.mpr ⟨List.mem_append_right _ (List.mem_of_getElem? (i := 833) rfl), rfl⟩
set_option maxRecDepth 100000 in
theorem m_505 : Cond.code y_Mo_answerOf b_Mo_answerOf_c 5 (some .int) ∈ BIG := List.mem_filter.mpr ⟨List.mem_append_right _ (List.mem_of_getElem? (i := 836) rfl), rfl⟩
set_option maxRecDepth 100000 in
theorem m_506 : Cond.instanceMethod y_Mo_answerOf ∈ BIG := List.mem_filter.mpr ⟨List.mem_append_right _ (List.mem_of_getElem? (i := 835) rfl), rfl⟩
set_option maxRecDepth 100000 in
theorem m_507 : Cond.selects R_Mo y_Mo_answerOf y_Mo_answerOf ∈ BIG := List.mem_filter.mpr ⟨List.mem_append_left _ (List.mem_of_getElem? (i := 46) rfl), rfl⟩
set_option maxRecDepth 100000 in
theorem m_508 : Cond.fieldLink R_Mo 53 (T_Mo 18).1 (T_Mo 18).2.1 (T_Mo 18).2.2.1 ∈ BIG := List.mem_filter.mpr ⟨List.mem_append_right _ (List.mem_of_getElem? (i := 672) rfl), rfl⟩
set_option maxRecDepth 100000 in
theorem m_509 : Cond.methodLink R_Mo 152 y_Mo_isBelow ∈ BIG := List.mem_filter.mpr ⟨List.mem_append_right _ (List.mem_of_getElem? (i := 857) rfl), rfl⟩
set_option maxRecDepth 100000 in
theorem m_510 : Cond.code y_Mo_isBelow b_Mo_isBelow_c 4 (some .boolean) ∈ BIG := List.mem_filter.mpr ⟨List.mem_append_right _ (List.mem_of_getElem? (i := 860) rfl), rfl⟩
set_option maxRecDepth 100000 in
theorem m_511 : Cond.instanceMethod y_Mo_isBelow ∈ BIG := List.mem_filter.mpr ⟨List.mem_append_right _ (List.mem_of_getElem? (i := 859) rfl), rfl⟩
set_option maxRecDepth 100000 in
theorem m_512 : Cond.selects R_Mo y_Mo_isBelow y_Mo_isBelow ∈ BIG := List.mem_filter.mpr ⟨List.mem_append_left _ (List.mem_of_getElem? (i := 51) rfl), rfl⟩
set_option maxRecDepth 100000 in
theorem m_513 : Cond.methodLink R_Mo 159 y_Mo_isGame ∈ BIG := List.mem_filter.mpr ⟨List.mem_append_right _ (List.mem_of_getElem? (i := 853) rfl), rfl⟩
set_option maxRecDepth 100000 in
theorem m_514 : Cond.code y_Mo_isGame b_Mo_isGame_c 6 (some .boolean) ∈ BIG := List.mem_filter.mpr ⟨List.mem_append_right _ (List.mem_of_getElem? (i := 856) rfl), rfl⟩
set_option maxRecDepth 100000 in
theorem m_515 : Cond.instanceMethod y_Mo_isGame ∈ BIG := List.mem_filter.mpr ⟨List.mem_append_right _ (List.mem_of_getElem? (i := 855) rfl), rfl⟩
set_option maxRecDepth 100000 in
theorem m_516 : Cond.selects R_Mo y_Mo_isGame y_Mo_isGame ∈ BIG := List.mem_filter.mpr ⟨List.mem_append_left _ (List.mem_of_getElem? (i := 50) rfl), rfl⟩
set_option maxRecDepth 100000 in
theorem m_517 : Cond.methodLink R_Mo 156 y_Mo_sift ∈ BIG := List.mem_filter.mpr ⟨List.mem_append_right _ (List.mem_of_getElem? (i := 849) rfl), rfl⟩
set_option maxRecDepth 100000 in
theorem m_518 : Cond.code y_Mo_sift b_Mo_sift_c 4 none ∈ BIG := List.mem_filter.mpr ⟨List.mem_append_right _ (List.mem_of_getElem? (i := 852) rfl), rfl⟩
set_option maxRecDepth 100000 in
theorem m_519 : Cond.instanceMethod y_Mo_sift ∈ BIG := List.mem_filter.mpr ⟨List.mem_append_right _ (List.mem_of_getElem? (i := 851) rfl), rfl⟩
set_option maxRecDepth 100000 in
theorem m_520 : Cond.selects R_Mo y_Mo_sift y_Mo_sift ∈ BIG := List.mem_filter.mpr ⟨List.mem_append_left _ (List.mem_of_getElem? (i := 49) rfl), rfl⟩
set_option maxRecDepth 100000 in
theorem m_521 : Cond.fieldLink R_Mo 166 (T_Mo 19).1 (T_Mo 19).2.1 (T_Mo 19).2.2.1 ∈ BIG := List.mem_filter.mpr ⟨List.mem_append_right _ (List.mem_of_getElem? (i := 673) rfl), rfl⟩
set_option maxRecDepth 100000 in
theorem m_522 : Cond.methodLink R_Mo 162 y_Mo_findPoints ∈ BIG := List.mem_filter.mpr ⟨List.mem_append_right _ (List.mem_of_getElem? (i := 845) rfl), rfl⟩
set_option maxRecDepth 100000 in
theorem m_523 : Cond.code y_Mo_findPoints b_Mo_findPoints_c 3 none ∈ BIG := List.mem_filter.mpr ⟨List.mem_append_right _ (List.mem_of_getElem? (i := 848) rfl), rfl⟩
set_option maxRecDepth 100000 in
theorem m_524 : Cond.instanceMethod y_Mo_findPoints ∈ BIG := List.mem_filter.mpr ⟨List.mem_append_right _ (List.mem_of_getElem? (i := 847) rfl), rfl⟩
set_option maxRecDepth 100000 in
theorem m_525 : Cond.selects R_Mo y_Mo_findPoints y_Mo_findPoints ∈ BIG := List.mem_filter.mpr ⟨List.mem_append_left _ (List.mem_of_getElem? (i := 48) rfl), rfl⟩
set_option maxRecDepth 100000 in
theorem m_526 : Cond.methodLink R_Mo 169 y_Mo_countPoints ∈ BIG := List.mem_filter.mpr ⟨List.mem_append_right _ (List.mem_of_getElem? (i := 841) rfl), rfl⟩
set_option maxRecDepth 100000 in
theorem m_527 : Cond.code y_Mo_countPoints b_Mo_countPoints_c 6 (some .int) ∈ BIG := List.mem_filter.mpr ⟨List.mem_append_right _ (List.mem_of_getElem? (i := 844) rfl), rfl⟩
set_option maxRecDepth 100000 in
theorem m_528 : Cond.instanceMethod y_Mo_countPoints ∈ BIG := List.mem_filter.mpr ⟨List.mem_append_right _ (List.mem_of_getElem? (i := 843) rfl), rfl⟩
set_option maxRecDepth 100000 in
theorem m_529 : Cond.selects R_Mo y_Mo_countPoints y_Mo_countPoints ∈ BIG := List.mem_filter.mpr ⟨List.mem_append_left _ (List.mem_of_getElem? (i := 47) rfl), rfl⟩
set_option maxRecDepth 100000 in
theorem m_530 : Cond.fieldLink R_Mo 173 (T_Mo 20).1 (T_Mo 20).2.1 (T_Mo 20).2.2.1 ∈ BIG := List.mem_filter.mpr ⟨List.mem_append_right _ (List.mem_of_getElem? (i := 674) rfl), rfl⟩
set_option maxRecDepth 100000 in
theorem m_531 : Cond.methodLink R_Mo 176 y_Mo_games ∈ BIG := List.mem_filter.mpr ⟨List.mem_append_right _ (List.mem_of_getElem? (i := 865) rfl), rfl⟩
set_option maxRecDepth 100000 in
theorem m_532 : Cond.code y_Mo_games b_Mo_games_c 4 (some .int) ∈ BIG := List.mem_filter.mpr ⟨List.mem_append_right _ (List.mem_of_getElem? (i := 868) rfl), rfl⟩
set_option maxRecDepth 100000 in
theorem m_533 : Cond.instanceMethod y_Mo_games ∈ BIG := List.mem_filter.mpr ⟨List.mem_append_right _ (List.mem_of_getElem? (i := 867) rfl), rfl⟩
set_option maxRecDepth 100000 in
theorem m_534 : Cond.selects R_Mo y_Mo_games y_Mo_games ∈ BIG := List.mem_filter.mpr ⟨List.mem_append_left _ (List.mem_of_getElem? (i := 52) rfl), rfl⟩
set_option maxRecDepth 100000 in
theorem m_535 : Cond.fieldLink R_Mo 56 (T_Mo 21).1 (T_Mo 21).2.1 (T_Mo 21).2.2.1 ∈ BIG := List.mem_filter.mpr ⟨List.mem_append_right _ (List.mem_of_getElem? (i := 675) rfl), rfl⟩
set_option maxRecDepth 100000 in
theorem m_536 : Cond.fieldLink R_Mo 59 (T_Mo 22).1 (T_Mo 22).2.1 (T_Mo 22).2.2.1 ∈ BIG := List.mem_filter.mpr ⟨List.mem_append_right _ (List.mem_of_getElem? (i := 676) rfl), rfl⟩
set_option maxRecDepth 100000 in
theorem m_537 : Cond.methodLink R_Mo 179 y_Mo_isLeft ∈ BIG := List.mem_filter.mpr ⟨List.mem_append_right _ (List.mem_of_getElem? (i := 881) rfl), rfl⟩
set_option maxRecDepth 100000 in
theorem m_538 : Cond.code y_Mo_isLeft b_Mo_isLeft_c 3 (some .boolean) ∈ BIG := List.mem_filter.mpr ⟨List.mem_append_right _ (List.mem_of_getElem? (i := 884) rfl), rfl⟩
set_option maxRecDepth 100000 in
theorem m_539 : Cond.instanceMethod y_Mo_isLeft ∈ BIG := List.mem_filter.mpr ⟨List.mem_append_right _ (List.mem_of_getElem? (i := 883) rfl), rfl⟩
set_option maxRecDepth 100000 in
theorem m_540 : Cond.selects R_Mo y_Mo_isLeft y_Mo_isLeft ∈ BIG := List.mem_filter.mpr ⟨List.mem_append_left _ (List.mem_of_getElem? (i := 55) rfl), rfl⟩
set_option maxRecDepth 100000 in
theorem m_541 : Cond.methodLink R_Mo 191 y_Mo_isOne ∈ BIG := List.mem_filter.mpr ⟨List.mem_append_right _ (List.mem_of_getElem? (i := 889) rfl), rfl⟩
set_option maxRecDepth 100000 in
theorem m_542 : Cond.code y_Mo_isOne b_Mo_isOne_c 8 (some .boolean) ∈ BIG := List.mem_filter.mpr ⟨List.mem_append_right _ (List.mem_of_getElem? (i := 892) rfl), rfl⟩
set_option maxRecDepth 100000 in
theorem m_543 : Cond.instanceMethod y_Mo_isOne ∈ BIG := List.mem_filter.mpr ⟨List.mem_append_right _ (List.mem_of_getElem? (i := 891) rfl), rfl⟩
set_option maxRecDepth 100000 in
theorem m_544 : Cond.selects R_Mo y_Mo_isOne y_Mo_isOne ∈ BIG := List.mem_filter.mpr ⟨List.mem_append_left _ (List.mem_of_getElem? (i := 57) rfl), rfl⟩
set_option maxRecDepth 100000 in
theorem m_545 : Cond.methodLink R_Mo 188 y_Mo_isWeaker ∈ BIG := List.mem_filter.mpr ⟨List.mem_append_right _ (List.mem_of_getElem? (i := 885) rfl), rfl⟩
set_option maxRecDepth 100000 in
theorem m_546 : Cond.code y_Mo_isWeaker b_Mo_isWeaker_c 7 (some .boolean) ∈ BIG := List.mem_filter.mpr ⟨List.mem_append_right _ (List.mem_of_getElem? (i := 888) rfl), rfl⟩
set_option maxRecDepth 100000 in
theorem m_547 : Cond.instanceMethod y_Mo_isWeaker ∈ BIG := List.mem_filter.mpr ⟨List.mem_append_right _ (List.mem_of_getElem? (i := 887) rfl), rfl⟩
set_option maxRecDepth 100000 in
theorem m_548 : Cond.selects R_Mo y_Mo_isWeaker y_Mo_isWeaker ∈ BIG := List.mem_filter.mpr ⟨List.mem_append_left _ (List.mem_of_getElem? (i := 56) rfl), rfl⟩
set_option maxRecDepth 100000 in
theorem m_549 : Cond.methodLink R_Mo 185 y_Mo_isWorse ∈ BIG := List.mem_filter.mpr ⟨List.mem_append_right _ (List.mem_of_getElem? (i := 877) rfl), rfl⟩
set_option maxRecDepth 100000 in
theorem m_550 : Cond.code y_Mo_isWorse b_Mo_isWorse_c 6 (some .boolean) ∈ BIG := List.mem_filter.mpr ⟨List.mem_append_right _ (List.mem_of_getElem? (i := 880) rfl), rfl⟩
set_option maxRecDepth 100000 in
theorem m_551 : Cond.instanceMethod y_Mo_isWorse ∈ BIG := List.mem_filter.mpr ⟨List.mem_append_right _ (List.mem_of_getElem? (i := 879) rfl), rfl⟩
set_option maxRecDepth 100000 in
theorem m_552 : Cond.selects R_Mo y_Mo_isWorse y_Mo_isWorse ∈ BIG := List.mem_filter.mpr ⟨List.mem_append_left _ (List.mem_of_getElem? (i := 54) rfl), rfl⟩
set_option maxRecDepth 100000 in
theorem m_553 : Cond.methodLink R_Mo 182 y_Mo_allLeft ∈ BIG := List.mem_filter.mpr ⟨List.mem_append_right _ (List.mem_of_getElem? (i := 873) rfl), rfl⟩
set_option maxRecDepth 100000 in
theorem m_554 : Cond.code y_Mo_allLeft b_Mo_allLeft_c 2 none ∈ BIG := List.mem_filter.mpr ⟨List.mem_append_right _ (List.mem_of_getElem? (i := 876) rfl), rfl⟩
set_option maxRecDepth 100000 in
theorem m_555 : Cond.instanceMethod y_Mo_allLeft ∈ BIG := List.mem_filter.mpr ⟨List.mem_append_right _ (List.mem_of_getElem? (i := 875) rfl), rfl⟩
set_option maxRecDepth 100000 in
theorem m_556 : Cond.selects R_Mo y_Mo_allLeft y_Mo_allLeft ∈ BIG := List.mem_filter.mpr ⟨List.mem_append_left _ (List.mem_of_getElem? (i := 53) rfl), rfl⟩
set_option maxRecDepth 100000 in
theorem m_557 : Cond.fieldLink R_Mo 62 (T_Mo 23).1 (T_Mo 23).2.1 (T_Mo 23).2.2.1 ∈ BIG := List.mem_filter.mpr ⟨List.mem_append_right _ (List.mem_of_getElem? (i := 677) rfl), rfl⟩
set_option maxRecDepth 100000 in
theorem m_558 : Cond.methodLink R_Mo 194 y_Mo_isWorst ∈ BIG := List.mem_filter.mpr ⟨List.mem_append_right _ (List.mem_of_getElem? (i := 901) rfl), rfl⟩
set_option maxRecDepth 100000 in
theorem m_559 : Cond.code y_Mo_isWorst b_Mo_isWorst_c 5 (some .boolean) ∈ BIG := List.mem_filter.mpr ⟨List.mem_append_right _ (List.mem_of_getElem? (i := 904) rfl), rfl⟩
set_option maxRecDepth 100000 in
theorem m_560 : Cond.instanceMethod y_Mo_isWorst ∈ BIG := List.mem_filter.mpr ⟨List.mem_append_right _ (List.mem_of_getElem? (i := 903) rfl), rfl⟩
set_option maxRecDepth 100000 in
theorem m_561 : Cond.selects R_Mo y_Mo_isWorst y_Mo_isWorst ∈ BIG := List.mem_filter.mpr ⟨List.mem_append_left _ (List.mem_of_getElem? (i := 59) rfl), rfl⟩
set_option maxRecDepth 100000 in
theorem m_562 : Cond.methodLink R_Mo 197 y_Mo_leftOf ∈ BIG := List.mem_filter.mpr ⟨List.mem_append_right _ (List.mem_of_getElem? (i := 905) rfl), rfl⟩
set_option maxRecDepth 100000 in
theorem m_563 : Cond.code y_Mo_leftOf b_Mo_leftOf_c 4 (some .int) ∈ BIG := List.mem_filter.mpr ⟨List.mem_append_right _ (List.mem_of_getElem? (i := 908) rfl), rfl⟩
set_option maxRecDepth 100000 in
theorem m_564 : Cond.instanceMethod y_Mo_leftOf ∈ BIG := List.mem_filter.mpr ⟨List.mem_append_right _ (List.mem_of_getElem? (i := 907) rfl), rfl⟩
set_option maxRecDepth 100000 in
theorem m_565 : Cond.selects R_Mo y_Mo_leftOf y_Mo_leftOf ∈ BIG := List.mem_filter.mpr ⟨List.mem_append_left _ (List.mem_of_getElem? (i := 60) rfl), rfl⟩
set_option maxRecDepth 100000 in
theorem m_566 : Cond.methodLink R_Mo 200 y_Mo_doRounds ∈ BIG := List.mem_filter.mpr ⟨List.mem_append_right _ (List.mem_of_getElem? (i := 897) rfl), rfl⟩
set_option maxRecDepth 100000 in
theorem m_567 : Cond.code y_Mo_doRounds b_Mo_doRounds_c 4 (some .int) ∈ BIG := List.mem_filter.mpr ⟨List.mem_append_right _ (List.mem_of_getElem? (i := 900) rfl), rfl⟩
set_option maxRecDepth 100000 in
theorem m_568 : Cond.instanceMethod y_Mo_doRounds ∈ BIG := List.mem_filter.mpr ⟨List.mem_append_right _ (List.mem_of_getElem? (i := 899) rfl), rfl⟩
set_option maxRecDepth 100000 in
theorem m_569 : Cond.selects R_Mo y_Mo_doRounds y_Mo_doRounds ∈ BIG := List.mem_filter.mpr ⟨List.mem_append_left _ (List.mem_of_getElem? (i := 58) rfl), rfl⟩
set_option maxRecDepth 100000 in
theorem m_570 : Cond.constantLong R_Mo 203 40 ∈ BIG := List.mem_filter.mpr ⟨List.mem_append_right _ (List.mem_of_getElem? (i := 921) rfl), rfl⟩
set_option maxRecDepth 100000 in
theorem m_571 : Cond.constantLong R_Mo 205 4 ∈ BIG := List.mem_filter.mpr ⟨List.mem_append_right _ (List.mem_of_getElem? (i := 922) rfl), rfl⟩
set_option maxRecDepth 100000 in
theorem m_572 : Cond.methodLink R_Mo 207 y_Mo_memory ∈ BIG := List.mem_filter.mpr ⟨List.mem_append_right _ (List.mem_of_getElem? (i := 917) rfl), rfl⟩
set_option maxRecDepth 100000 in
theorem m_573 : Cond.code y_Mo_memory b_Mo_memory_c 8 (some .long) ∈ BIG := List.mem_filter.mpr ⟨List.mem_append_right _ (List.mem_of_getElem? (i := 920) rfl), rfl⟩
set_option maxRecDepth 100000 in
theorem m_574 : Cond.instanceMethod y_Mo_memory ∈ BIG := List.mem_filter.mpr ⟨List.mem_append_right _ (List.mem_of_getElem? (i := 919) rfl), rfl⟩
set_option maxRecDepth 100000 in
theorem m_575 : Cond.selects R_Mo y_Mo_memory y_Mo_memory ∈ BIG := List.mem_filter.mpr ⟨List.mem_append_left _ (List.mem_of_getElem? (i := 61) rfl), rfl⟩
set_option maxRecDepth 100000 in
theorem m_576 : Cond.fieldLink R_Mo 68 (T_Mo 25).1 (T_Mo 25).2.1 (T_Mo 25).2.2.1 ∈ BIG := List.mem_filter.mpr ⟨List.mem_append_right _ (List.mem_of_getElem? (i := 679) rfl), rfl⟩
set_option maxRecDepth 100000 in
theorem m_577 : Cond.fieldLink R_Mo 65 (T_Mo 24).1 (T_Mo 24).2.1 (T_Mo 24).2.2.1 ∈ BIG := List.mem_filter.mpr ⟨List.mem_append_right _ (List.mem_of_getElem? (i := 678) rfl), rfl⟩
set_option maxRecDepth 100000 in
theorem m_578 : Cond.methodLink R_Mo 211 y_Mo_bestOf ∈ BIG := List.mem_filter.mpr ⟨List.mem_append_right _ (List.mem_of_getElem? (i := 931) rfl), rfl⟩
set_option maxRecDepth 100000 in
theorem m_579 : Cond.code y_Mo_bestOf b_Mo_bestOf_c 4 (some .int) ∈ BIG := List.mem_filter.mpr ⟨List.mem_append_right _ (List.mem_of_getElem? (i := 934) rfl), rfl⟩
set_option maxRecDepth 100000 in
theorem m_580 : Cond.instanceMethod y_Mo_bestOf ∈ BIG := List.mem_filter.mpr ⟨List.mem_append_right _ (List.mem_of_getElem? (i := 933) rfl), rfl⟩
set_option maxRecDepth 100000 in
theorem m_581 : Cond.selects R_Mo y_Mo_bestOf y_Mo_bestOf ∈ BIG := List.mem_filter.mpr ⟨List.mem_append_left _ (List.mem_of_getElem? (i := 63) rfl), rfl⟩
set_option maxRecDepth 100000 in
theorem m_582 : Cond.methodLink R_Mo 214 y_Mo_take ∈ BIG := List.mem_filter.mpr ⟨List.mem_append_right _ (List.mem_of_getElem? (i := 935) rfl), rfl⟩
set_option maxRecDepth 100000 in
theorem m_583 : Cond.code y_Mo_take b_Mo_take_c 4 none ∈ BIG := List.mem_filter.mpr ⟨List.mem_append_right _ (List.mem_of_getElem? (i := 938) rfl), rfl⟩
set_option maxRecDepth 100000 in
theorem m_584 : Cond.instanceMethod y_Mo_take ∈ BIG := List.mem_filter.mpr ⟨List.mem_append_right _ (List.mem_of_getElem? (i := 937) rfl), rfl⟩
set_option maxRecDepth 100000 in
theorem m_585 : Cond.selects R_Mo y_Mo_take y_Mo_take ∈ BIG := List.mem_filter.mpr ⟨List.mem_append_left _ (List.mem_of_getElem? (i := 64) rfl), rfl⟩
set_option maxRecDepth 100000 in
theorem m_586 : Cond.methodLink R_Mo 218 y_Mo_answerAll ∈ BIG := List.mem_filter.mpr ⟨List.mem_append_right _ (List.mem_of_getElem? (i := 927) rfl), rfl⟩
set_option maxRecDepth 100000 in
theorem m_587 : Cond.code y_Mo_answerAll b_Mo_answerAll_c 5 none ∈ BIG := List.mem_filter.mpr ⟨List.mem_append_right _ (List.mem_of_getElem? (i := 930) rfl), rfl⟩
set_option maxRecDepth 100000 in
theorem m_588 : Cond.instanceMethod y_Mo_answerAll ∈ BIG := List.mem_filter.mpr ⟨List.mem_append_right _ (List.mem_of_getElem? (i := 929) rfl), rfl⟩
set_option maxRecDepth 100000 in
theorem m_589 : Cond.selects R_Mo y_Mo_answerAll y_Mo_answerAll ∈ BIG := List.mem_filter.mpr ⟨List.mem_append_left _ (List.mem_of_getElem? (i := 62) rfl), rfl⟩
set_option maxRecDepth 100000 in
theorem m_590 : Cond.laysFinal R_Ga "GameRows" "forest" "LGameRows$Forest;" ∈ BIG := List.mem_filter.mpr ⟨List.mem_append_right _ (List.mem_of_getElem? (i := 208) rfl), rfl⟩
set_option maxRecDepth 100000 in
theorem m_591 : Cond.laysFinal R_Ga "GameRows" "table" "LGameRows$Table;" ∈ BIG := List.mem_filter.mpr ⟨List.mem_append_right _ (List.mem_of_getElem? (i := 210) rfl), rfl⟩
set_option maxRecDepth 100000 in
theorem m_592 : Cond.laysFinal R_Ga "GameRows" "points" "LGameRows$Points;" ∈ BIG := List.mem_filter.mpr ⟨List.mem_append_right _ (List.mem_of_getElem? (i := 212) rfl), rfl⟩
set_option maxRecDepth 100000 in
theorem m_593 : Cond.laysFinal R_Ga "GameRows" "leaving" "LGameRows$Leaving;" ∈ BIG := List.mem_filter.mpr ⟨List.mem_append_right _ (List.mem_of_getElem? (i := 214) rfl), rfl⟩
set_option maxRecDepth 100000 in
theorem m_594 : Cond.laysFinal R_Ga "GameRows" "answering" "LGameRows$Answering;" ∈ BIG := List.mem_filter.mpr ⟨List.mem_append_right _ (List.mem_of_getElem? (i := 216) rfl), rfl⟩
set_option maxRecDepth 100000 in
theorem m_595 : Cond.lays R_Fo "GameRows$Forest" "nodes" "I" ∈ BIG := List.mem_filter.mpr ⟨List.mem_append_right _ (List.mem_of_getElem? (i := 56) rfl), rfl⟩
set_option maxRecDepth 100000 in
theorem m_596 : Cond.lays R_Fo "GameRows$Forest" "sets" "I" ∈ BIG := List.mem_filter.mpr ⟨List.mem_append_right _ (List.mem_of_getElem? (i := 58) rfl), rfl⟩
set_option maxRecDepth 100000 in
theorem m_597 : Cond.lays R_Fo "GameRows$Forest" "version" "I" ∈ BIG := List.mem_filter.mpr ⟨List.mem_append_right _ (List.mem_of_getElem? (i := 60) rfl), rfl⟩
set_option maxRecDepth 100000 in
theorem m_598 : Cond.laysFinal R_Fo "GameRows$Forest" "sorts" "[I" ∈ BIG := List.mem_filter.mpr ⟨List.mem_append_right _ (List.mem_of_getElem? (i := 62) rfl), rfl⟩
set_option maxRecDepth 100000 in
theorem m_599 : Cond.laysFinal R_Fo "GameRows$Forest" "setOf" "[I" ∈ BIG := List.mem_filter.mpr ⟨List.mem_append_right _ (List.mem_of_getElem? (i := 64) rfl), rfl⟩
set_option maxRecDepth 100000 in
theorem m_600 : Cond.laysFinal R_Fo "GameRows$Forest" "parents" "[I" ∈ BIG := List.mem_filter.mpr ⟨List.mem_append_right _ (List.mem_of_getElem? (i := 66) rfl), rfl⟩
set_option maxRecDepth 100000 in
theorem m_601 : Cond.laysFinal R_Fo "GameRows$Forest" "actsOf" "[I" ∈ BIG := List.mem_filter.mpr ⟨List.mem_append_right _ (List.mem_of_getElem? (i := 68) rfl), rfl⟩
set_option maxRecDepth 100000 in
theorem m_602 : Cond.laysFinal R_Fo "GameRows$Forest" "worths" "[I" ∈ BIG := List.mem_filter.mpr ⟨List.mem_append_right _ (List.mem_of_getElem? (i := 70) rfl), rfl⟩
set_option maxRecDepth 100000 in
theorem m_603 : Cond.laysFinal R_Fo "GameRows$Forest" "children" "[I" ∈ BIG := List.mem_filter.mpr ⟨List.mem_append_right _ (List.mem_of_getElem? (i := 72) rfl), rfl⟩
set_option maxRecDepth 100000 in
theorem m_604 : Cond.laysFinal R_Fo "GameRows$Forest" "sizes" "[I" ∈ BIG := List.mem_filter.mpr ⟨List.mem_append_right _ (List.mem_of_getElem? (i := 74) rfl), rfl⟩
set_option maxRecDepth 100000 in
theorem m_605 : Cond.laysFinal R_Fo "GameRows$Forest" "depthsBelow" "[I" ∈ BIG := List.mem_filter.mpr ⟨List.mem_append_right _ (List.mem_of_getElem? (i := 76) rfl), rfl⟩
set_option maxRecDepth 100000 in
theorem m_606 : Cond.laysFinal R_Fo "GameRows$Forest" "chancesBelow" "[I" ∈ BIG := List.mem_filter.mpr ⟨List.mem_append_right _ (List.mem_of_getElem? (i := 78) rfl), rfl⟩
set_option maxRecDepth 100000 in
theorem m_607 : Cond.laysFinal R_Fo "GameRows$Forest" "nodesFrom" "[J" ∈ BIG := List.mem_filter.mpr ⟨List.mem_append_right _ (List.mem_of_getElem? (i := 80) rfl), rfl⟩
set_option maxRecDepth 100000 in
theorem m_608 : Cond.laysFinal R_Fo "GameRows$Forest" "setsFrom" "[I" ∈ BIG := List.mem_filter.mpr ⟨List.mem_append_right _ (List.mem_of_getElem? (i := 82) rfl), rfl⟩
set_option maxRecDepth 100000 in
theorem m_609 : Cond.laysFinal R_Fo "GameRows$Forest" "ownerOf" "[I" ∈ BIG := List.mem_filter.mpr ⟨List.mem_append_right _ (List.mem_of_getElem? (i := 84) rfl), rfl⟩
set_option maxRecDepth 100000 in
theorem m_610 : Cond.laysFinal R_Fo "GameRows$Forest" "nodesOf" "[J" ∈ BIG := List.mem_filter.mpr ⟨List.mem_append_right _ (List.mem_of_getElem? (i := 86) rfl), rfl⟩
set_option maxRecDepth 100000 in
theorem m_611 : Cond.laysFinal R_Fo "GameRows$Forest" "offered" "[I" ∈ BIG := List.mem_filter.mpr ⟨List.mem_append_right _ (List.mem_of_getElem? (i := 88) rfl), rfl⟩
set_option maxRecDepth 100000 in
theorem m_612 : Cond.laysFinal R_Ta "GameRows$Table" "plans" "[I" ∈ BIG := List.mem_filter.mpr ⟨List.mem_append_right _ (List.mem_of_getElem? (i := 111) rfl), rfl⟩
set_option maxRecDepth 100000 in
theorem m_613 : Cond.laysFinal R_Ta "GameRows$Table" "forest" "LGameRows$Forest;" ∈ BIG := List.mem_filter.mpr ⟨List.mem_append_right _ (List.mem_of_getElem? (i := 113) rfl), rfl⟩
set_option maxRecDepth 100000 in
theorem m_614 : Cond.laysFinal R_Ta "GameRows$Table" "worths" "[[I" ∈ BIG := List.mem_filter.mpr ⟨List.mem_append_right _ (List.mem_of_getElem? (i := 115) rfl), rfl⟩
set_option maxRecDepth 100000 in
theorem m_615 : Cond.laysFinal R_Ta "GameRows$Table" "acts" "[I" ∈ BIG := List.mem_filter.mpr ⟨List.mem_append_right _ (List.mem_of_getElem? (i := 117) rfl), rfl⟩
set_option maxRecDepth 100000 in
theorem m_616 : Cond.laysFinal R_Ta "GameRows$Table" "shares" "[I" ∈ BIG := List.mem_filter.mpr ⟨List.mem_append_right _ (List.mem_of_getElem? (i := 119) rfl), rfl⟩
set_option maxRecDepth 100000 in
theorem m_617 : Cond.lays R_Ta "GameRows$Table" "madeFor" "I" ∈ BIG := List.mem_filter.mpr ⟨List.mem_append_right _ (List.mem_of_getElem? (i := 121) rfl), rfl⟩
set_option maxRecDepth 100000 in
theorem m_618 : Cond.lays R_Ta "GameRows$Table" "madeFrom" "I" ∈ BIG := List.mem_filter.mpr ⟨List.mem_append_right _ (List.mem_of_getElem? (i := 123) rfl), rfl⟩
set_option maxRecDepth 100000 in
theorem m_619 : Cond.laysFinal R_Po "GameRows$Points" "forest" "LGameRows$Forest;" ∈ BIG := List.mem_filter.mpr ⟨List.mem_append_right _ (List.mem_of_getElem? (i := 141) rfl), rfl⟩
set_option maxRecDepth 100000 in
theorem m_620 : Cond.laysFinal R_Po "GameRows$Points" "table" "LGameRows$Table;" ∈ BIG := List.mem_filter.mpr ⟨List.mem_append_right _ (List.mem_of_getElem? (i := 143) rfl), rfl⟩
set_option maxRecDepth 100000 in
theorem m_621 : Cond.laysFinal R_Po "GameRows$Points" "rows" "[[J" ∈ BIG := List.mem_filter.mpr ⟨List.mem_append_right _ (List.mem_of_getElem? (i := 145) rfl), rfl⟩
set_option maxRecDepth 100000 in
theorem m_622 : Cond.laysFinal R_Po "GameRows$Points" "madeFor" "[I" ∈ BIG := List.mem_filter.mpr ⟨List.mem_append_right _ (List.mem_of_getElem? (i := 147) rfl), rfl⟩
set_option maxRecDepth 100000 in
theorem m_623 : Cond.laysFinal R_Po "GameRows$Points" "best" "[[I" ∈ BIG := List.mem_filter.mpr ⟨List.mem_append_right _ (List.mem_of_getElem? (i := 149) rfl), rfl⟩
set_option maxRecDepth 100000 in
theorem m_624 : Cond.laysFinal R_Po "GameRows$Points" "inner" "[[I" ∈ BIG := List.mem_filter.mpr ⟨List.mem_append_right _ (List.mem_of_getElem? (i := 151) rfl), rfl⟩
set_option maxRecDepth 100000 in
theorem m_625 : Cond.laysFinal R_Le "GameRows$Leaving" "forest" "LGameRows$Forest;" ∈ BIG := List.mem_filter.mpr ⟨List.mem_append_right _ (List.mem_of_getElem? (i := 166) rfl), rfl⟩
set_option maxRecDepth 100000 in
theorem m_626 : Cond.laysFinal R_Le "GameRows$Leaving" "table" "LGameRows$Table;" ∈ BIG := List.mem_filter.mpr ⟨List.mem_append_right _ (List.mem_of_getElem? (i := 168) rfl), rfl⟩
set_option maxRecDepth 100000 in
theorem m_627 : Cond.laysFinal R_Le "GameRows$Leaving" "goneIn" "[[I" ∈ BIG := List.mem_filter.mpr ⟨List.mem_append_right _ (List.mem_of_getElem? (i := 170) rfl), rfl⟩
set_option maxRecDepth 100000 in
theorem m_628 : Cond.laysFinal R_Le "GameRows$Leaving" "left" "[J" ∈ BIG := List.mem_filter.mpr ⟨List.mem_append_right _ (List.mem_of_getElem? (i := 172) rfl), rfl⟩
set_option maxRecDepth 100000 in
theorem m_629 : Cond.lays R_Le "GameRows$Leaving" "madeFor" "I" ∈ BIG := List.mem_filter.mpr ⟨List.mem_append_right _ (List.mem_of_getElem? (i := 174) rfl), rfl⟩
set_option maxRecDepth 100000 in
theorem m_630 : Cond.laysFinal R_An "GameRows$Answering" "forest" "LGameRows$Forest;" ∈ BIG := List.mem_filter.mpr ⟨List.mem_append_right _ (List.mem_of_getElem? (i := 190) rfl), rfl⟩
set_option maxRecDepth 100000 in
theorem m_631 : Cond.laysFinal R_An "GameRows$Answering" "table" "LGameRows$Table;" ∈ BIG := List.mem_filter.mpr ⟨List.mem_append_right _ (List.mem_of_getElem? (i := 192) rfl), rfl⟩
set_option maxRecDepth 100000 in
theorem m_632 : Cond.laysFinal R_An "GameRows$Answering" "picks" "[[I" ∈ BIG := List.mem_filter.mpr ⟨List.mem_append_right _ (List.mem_of_getElem? (i := 194) rfl), rfl⟩
set_option maxRecDepth 100000 in
theorem m_633 : Cond.laysFinal R_An "GameRows$Answering" "sums" "[[I" ∈ BIG := List.mem_filter.mpr ⟨List.mem_append_right _ (List.mem_of_getElem? (i := 196) rfl), rfl⟩
set_option maxRecDepth 100000 in
theorem m_634 : Cond.lays R_An "GameRows$Answering" "played" "I" ∈ BIG := List.mem_filter.mpr ⟨List.mem_append_right _ (List.mem_of_getElem? (i := 198) rfl), rfl⟩
set_option maxRecDepth 100000 in
theorem m_635 : Cond.lays R_An "GameRows$Answering" "madeFor" "I" ∈ BIG := List.mem_filter.mpr ⟨List.mem_append_right _ (List.mem_of_getElem? (i := 200) rfl), rfl⟩
set_option maxRecDepth 100000 in
theorem m_636 : Cond.lays R_Mo "GameRowsModel" "nodes" "I" ∈ BIG := List.mem_filter.mpr ⟨List.mem_append_right _ (List.mem_of_getElem? (i := 680) rfl), rfl⟩
set_option maxRecDepth 100000 in
theorem m_637 : Cond.lays R_Mo "GameRowsModel" "sets" "I" ∈ BIG := List.mem_filter.mpr ⟨List.mem_append_right _ (List.mem_of_getElem? (i := 682) rfl), rfl⟩
set_option maxRecDepth 100000 in
theorem m_638 : Cond.laysFinal R_Mo "GameRowsModel" "sort" "[I" ∈ BIG := List.mem_filter.mpr ⟨List.mem_append_right _ (List.mem_of_getElem? (i := 684) rfl), rfl⟩
set_option maxRecDepth 100000 in
theorem m_639 : Cond.laysFinal R_Mo "GameRowsModel" "setOf" "[I" ∈ BIG := List.mem_filter.mpr ⟨List.mem_append_right _ (List.mem_of_getElem? (i := 686) rfl), rfl⟩
set_option maxRecDepth 100000 in
theorem m_640 : Cond.laysFinal R_Mo "GameRowsModel" "worthOf" "[I" ∈ BIG := List.mem_filter.mpr ⟨List.mem_append_right _ (List.mem_of_getElem? (i := 688) rfl), rfl⟩
set_option maxRecDepth 100000 in
theorem m_641 : Cond.laysFinal R_Mo "GameRowsModel" "child" "[I" ∈ BIG := List.mem_filter.mpr ⟨List.mem_append_right _ (List.mem_of_getElem? (i := 690) rfl), rfl⟩
set_option maxRecDepth 100000 in
theorem m_642 : Cond.laysFinal R_Mo "GameRowsModel" "parent" "[I" ∈ BIG := List.mem_filter.mpr ⟨List.mem_append_right _ (List.mem_of_getElem? (i := 692) rfl), rfl⟩
set_option maxRecDepth 100000 in
theorem m_643 : Cond.laysFinal R_Mo "GameRowsModel" "height" "[I" ∈ BIG := List.mem_filter.mpr ⟨List.mem_append_right _ (List.mem_of_getElem? (i := 694) rfl), rfl⟩
set_option maxRecDepth 100000 in
theorem m_644 : Cond.laysFinal R_Mo "GameRowsModel" "chances" "[I" ∈ BIG := List.mem_filter.mpr ⟨List.mem_append_right _ (List.mem_of_getElem? (i := 696) rfl), rfl⟩
set_option maxRecDepth 100000 in
theorem m_645 : Cond.laysFinal R_Mo "GameRowsModel" "playerOf" "[I" ∈ BIG := List.mem_filter.mpr ⟨List.mem_append_right _ (List.mem_of_getElem? (i := 698) rfl), rfl⟩
set_option maxRecDepth 100000 in
theorem m_646 : Cond.laysFinal R_Mo "GameRowsModel" "acts" "[I" ∈ BIG := List.mem_filter.mpr ⟨List.mem_append_right _ (List.mem_of_getElem? (i := 700) rfl), rfl⟩
set_option maxRecDepth 100000 in
theorem m_647 : Cond.laysFinal R_Mo "GameRowsModel" "inTree" "[Z" ∈ BIG := List.mem_filter.mpr ⟨List.mem_append_right _ (List.mem_of_getElem? (i := 702) rfl), rfl⟩
set_option maxRecDepth 100000 in
theorem m_648 : Cond.laysFinal R_Mo "GameRowsModel" "isIn" "[Z" ∈ BIG := List.mem_filter.mpr ⟨List.mem_append_right _ (List.mem_of_getElem? (i := 704) rfl), rfl⟩
set_option maxRecDepth 100000 in
theorem m_649 : Cond.laysFinal R_Mo "GameRowsModel" "value" "[I" ∈ BIG := List.mem_filter.mpr ⟨List.mem_append_right _ (List.mem_of_getElem? (i := 706) rfl), rfl⟩
set_option maxRecDepth 100000 in
theorem m_650 : Cond.laysFinal R_Mo "GameRowsModel" "worths" "[I" ∈ BIG := List.mem_filter.mpr ⟨List.mem_append_right _ (List.mem_of_getElem? (i := 708) rfl), rfl⟩
set_option maxRecDepth 100000 in
theorem m_651 : Cond.laysFinal R_Mo "GameRowsModel" "choice" "[I" ∈ BIG := List.mem_filter.mpr ⟨List.mem_append_right _ (List.mem_of_getElem? (i := 710) rfl), rfl⟩
set_option maxRecDepth 100000 in
theorem m_652 : Cond.lays R_Mo "GameRowsModel" "plans0" "I" ∈ BIG := List.mem_filter.mpr ⟨List.mem_append_right _ (List.mem_of_getElem? (i := 712) rfl), rfl⟩
set_option maxRecDepth 100000 in
theorem m_653 : Cond.lays R_Mo "GameRowsModel" "plans1" "I" ∈ BIG := List.mem_filter.mpr ⟨List.mem_append_right _ (List.mem_of_getElem? (i := 714) rfl), rfl⟩
set_option maxRecDepth 100000 in
theorem m_654 : Cond.laysFinal R_Mo "GameRowsModel" "isPoint" "[Z" ∈ BIG := List.mem_filter.mpr ⟨List.mem_append_right _ (List.mem_of_getElem? (i := 716) rfl), rfl⟩
set_option maxRecDepth 100000 in
theorem m_655 : Cond.lays R_Mo "GameRowsModel" "pointFound" "I" ∈ BIG := List.mem_filter.mpr ⟨List.mem_append_right _ (List.mem_of_getElem? (i := 718) rfl), rfl⟩
set_option maxRecDepth 100000 in
theorem m_656 : Cond.lays R_Mo "GameRowsModel" "gameFound" "I" ∈ BIG := List.mem_filter.mpr ⟨List.mem_append_right _ (List.mem_of_getElem? (i := 720) rfl), rfl⟩
set_option maxRecDepth 100000 in
theorem m_657 : Cond.laysFinal R_Mo "GameRowsModel" "left" "[Z" ∈ BIG := List.mem_filter.mpr ⟨List.mem_append_right _ (List.mem_of_getElem? (i := 722) rfl), rfl⟩
set_option maxRecDepth 100000 in
theorem m_658 : Cond.laysFinal R_Mo "GameRowsModel" "gone" "[I" ∈ BIG := List.mem_filter.mpr ⟨List.mem_append_right _ (List.mem_of_getElem? (i := 724) rfl), rfl⟩
set_option maxRecDepth 100000 in
theorem m_659 : Cond.laysFinal R_Mo "GameRowsModel" "goes" "[Z" ∈ BIG := List.mem_filter.mpr ⟨List.mem_append_right _ (List.mem_of_getElem? (i := 726) rfl), rfl⟩
set_option maxRecDepth 100000 in
theorem m_660 : Cond.laysFinal R_Mo "GameRowsModel" "took" "[I" ∈ BIG := List.mem_filter.mpr ⟨List.mem_append_right _ (List.mem_of_getElem? (i := 728) rfl), rfl⟩
set_option maxRecDepth 100000 in
theorem m_661 : Cond.laysFinal R_Mo "GameRowsModel" "against" "[I" ∈ BIG := List.mem_filter.mpr ⟨List.mem_append_right _ (List.mem_of_getElem? (i := 730) rfl), rfl⟩
theorem in_Ga : ∀ w ∈ u_ws R_Ga T_Ga 5, w ∈ BIG := by
  intro w hw
  obtain ⟨k, hk, rfl⟩ := List.mem_map.mp hw
  have hk := List.mem_range.mp hk
  match k, hk with
  | 0, _ => exact m_590
  | 1, _ => exact m_591
  | 2, _ => exact m_592
  | 3, _ => exact m_593
  | 4, _ => exact m_594
  | k + 5, h => exact absurd h (by omega)
theorem in_Fo : ∀ w ∈ u_ws R_Fo T_Fo 17, w ∈ BIG := by
  intro w hw
  obtain ⟨k, hk, rfl⟩ := List.mem_map.mp hw
  have hk := List.mem_range.mp hk
  match k, hk with
  | 0, _ => exact m_595
  | 1, _ => exact m_596
  | 2, _ => exact m_597
  | 3, _ => exact m_598
  | 4, _ => exact m_599
  | 5, _ => exact m_600
  | 6, _ => exact m_601
  | 7, _ => exact m_602
  | 8, _ => exact m_603
  | 9, _ => exact m_604
  | 10, _ => exact m_605
  | 11, _ => exact m_606
  | 12, _ => exact m_607
  | 13, _ => exact m_608
  | 14, _ => exact m_609
  | 15, _ => exact m_610
  | 16, _ => exact m_611
  | k + 17, h => exact absurd h (by omega)
theorem in_Ta : ∀ w ∈ u_ws R_Ta T_Ta 7, w ∈ BIG := by
  intro w hw
  obtain ⟨k, hk, rfl⟩ := List.mem_map.mp hw
  have hk := List.mem_range.mp hk
  match k, hk with
  | 0, _ => exact m_612
  | 1, _ => exact m_613
  | 2, _ => exact m_614
  | 3, _ => exact m_615
  | 4, _ => exact m_616
  | 5, _ => exact m_617
  | 6, _ => exact m_618
  | k + 7, h => exact absurd h (by omega)
theorem in_Po : ∀ w ∈ u_ws R_Po T_Po 6, w ∈ BIG := by
  intro w hw
  obtain ⟨k, hk, rfl⟩ := List.mem_map.mp hw
  have hk := List.mem_range.mp hk
  match k, hk with
  | 0, _ => exact m_619
  | 1, _ => exact m_620
  | 2, _ => exact m_621
  | 3, _ => exact m_622
  | 4, _ => exact m_623
  | 5, _ => exact m_624
  | k + 6, h => exact absurd h (by omega)
theorem in_Le : ∀ w ∈ u_ws R_Le T_Le 5, w ∈ BIG := by
  intro w hw
  obtain ⟨k, hk, rfl⟩ := List.mem_map.mp hw
  have hk := List.mem_range.mp hk
  match k, hk with
  | 0, _ => exact m_625
  | 1, _ => exact m_626
  | 2, _ => exact m_627
  | 3, _ => exact m_628
  | 4, _ => exact m_629
  | k + 5, h => exact absurd h (by omega)
theorem in_An : ∀ w ∈ u_ws R_An T_An 6, w ∈ BIG := by
  intro w hw
  obtain ⟨k, hk, rfl⟩ := List.mem_map.mp hw
  have hk := List.mem_range.mp hk
  match k, hk with
  | 0, _ => exact m_630
  | 1, _ => exact m_631
  | 2, _ => exact m_632
  | 3, _ => exact m_633
  | 4, _ => exact m_634
  | 5, _ => exact m_635
  | k + 6, h => exact absurd h (by omega)
theorem in_Mo : ∀ w ∈ u_ws R_Mo T_Mo 26, w ∈ BIG := by
  intro w hw
  obtain ⟨k, hk, rfl⟩ := List.mem_map.mp hw
  have hk := List.mem_range.mp hk
  match k, hk with
  | 0, _ => exact m_636
  | 1, _ => exact m_637
  | 2, _ => exact m_638
  | 3, _ => exact m_639
  | 4, _ => exact m_640
  | 5, _ => exact m_641
  | 6, _ => exact m_642
  | 7, _ => exact m_643
  | 8, _ => exact m_644
  | 9, _ => exact m_645
  | 10, _ => exact m_646
  | 11, _ => exact m_647
  | 12, _ => exact m_648
  | 13, _ => exact m_649
  | 14, _ => exact m_650
  | 15, _ => exact m_651
  | 16, _ => exact m_652
  | 17, _ => exact m_653
  | 18, _ => exact m_654
  | 19, _ => exact m_655
  | 20, _ => exact m_656
  | 21, _ => exact m_657
  | 22, _ => exact m_658
  | 23, _ => exact m_659
  | 24, _ => exact m_660
  | 25, _ => exact m_661
  | k + 26, h => exact absurd h (by omega)
theorem q_Fo_9 {X : gX} {cc : ByteArray} {nL fr lo pc : Nat} {lv : List (Nat × Value)} {st : List Value} {σ : gS} (C : gC X cc R_Fo nL fr lo) (d : decode cc pc = .ok (.getfield 9, 3)) (kk : G X (pc + 3) lv (.int (gI σ 1 0) :: st) σ) : G X pc lv (.ref (gA X 1) :: st) σ := r_get C (T := T_Fo) (N := 17) (ci := 1) (F := fl_Fo) 0 (by decide) cel_Fo rfl in_Fo (by decide) m_0 rfl d kk
theorem p_Fo_9 {X : gX} {cc : ByteArray} {nL fr lo pc : Nat} {lv : List (Nat × Value)} {st : List Value} {σ σ' : gS} {v : Int32} (C : gC X cc R_Fo nL fr lo) (e : σ' = sI σ 1 0 v) (d : decode cc pc = .ok (.putfield 9, 3)) (kk : G X (pc + 3) lv st σ') : G X pc lv (.int v :: .ref (gA X 1) :: st) σ := r_put C (T := T_Fo) (N := 17) (ci := 1) (F := fl_Fo) ty_Fo ty_Fo_ok nm_Fo 0 (by decide) cel_Fo rfl in_Fo (by decide) m_0 rfl (by decide +kernel) (fun a f => ⟨Nat.le_of_ble_eq_true rfl, rfl⟩) e d kk
theorem p_Fo_15 {X : gX} {cc : ByteArray} {nL fr lo pc : Nat} {lv : List (Nat × Value)} {st : List Value} {σ σ' : gS} {v : Int32} (C : gC X cc R_Fo nL fr lo) (e : σ' = sI σ 1 1 v) (d : decode cc pc = .ok (.putfield 15, 3)) (kk : G X (pc + 3) lv st σ') : G X pc lv (.int v :: .ref (gA X 1) :: st) σ := r_put C (T := T_Fo) (N := 17) (ci := 1) (F := fl_Fo) ty_Fo ty_Fo_ok nm_Fo 1 (by decide) cel_Fo rfl in_Fo (by decide) m_1 rfl (by decide +kernel) (fun a f => ⟨Nat.le_of_ble_eq_true rfl, rfl⟩) e d kk
theorem q_Fo_18 {X : gX} {cc : ByteArray} {nL fr lo pc : Nat} {lv : List (Nat × Value)} {st : List Value} {σ : gS} (C : gC X cc R_Fo nL fr lo) (d : decode cc pc = .ok (.getfield 18, 3)) (kk : G X (pc + 3) lv (.int (gI σ 1 2) :: st) σ) : G X pc lv (.ref (gA X 1) :: st) σ := r_get C (T := T_Fo) (N := 17) (ci := 1) (F := fl_Fo) 2 (by decide) cel_Fo rfl in_Fo (by decide) m_2 rfl d kk
theorem p_Fo_18 {X : gX} {cc : ByteArray} {nL fr lo pc : Nat} {lv : List (Nat × Value)} {st : List Value} {σ σ' : gS} {v : Int32} (C : gC X cc R_Fo nL fr lo) (e : σ' = sI σ 1 2 v) (d : decode cc pc = .ok (.putfield 18, 3)) (kk : G X (pc + 3) lv st σ') : G X pc lv (.int v :: .ref (gA X 1) :: st) σ := r_put C (T := T_Fo) (N := 17) (ci := 1) (F := fl_Fo) ty_Fo ty_Fo_ok nm_Fo 2 (by decide) cel_Fo rfl in_Fo (by decide) m_2 rfl (by decide +kernel) (fun a f => ⟨Nat.le_of_ble_eq_true rfl, rfl⟩) e d kk
theorem q_Ga_10 {X : gX} {cc : ByteArray} {nL fr lo pc : Nat} {lv : List (Nat × Value)} {st : List Value} {σ : gS} (C : gC X cc R_Ga nL fr lo) (d : decode cc pc = .ok (.getfield 10, 3)) (kk : G X (pc + 3) lv (.ref (gA X 1) :: st) σ) : G X pc lv (.ref (gA X 0) :: st) σ := r_get C (T := T_Ga) (N := 5) (ci := 0) (F := fl_Ga) 0 (by decide) cel_Ga rfl in_Ga (by decide) m_3 rfl d kk
theorem q_Fo_15 {X : gX} {cc : ByteArray} {nL fr lo pc : Nat} {lv : List (Nat × Value)} {st : List Value} {σ : gS} (C : gC X cc R_Fo nL fr lo) (d : decode cc pc = .ok (.getfield 15, 3)) (kk : G X (pc + 3) lv (.int (gI σ 1 1) :: st) σ) : G X pc lv (.ref (gA X 1) :: st) σ := r_get C (T := T_Fo) (N := 17) (ci := 1) (F := fl_Fo) 1 (by decide) cel_Fo rfl in_Fo (by decide) m_1 rfl d kk
theorem q_Fo_56 {X : gX} {cc : ByteArray} {nL fr lo pc : Nat} {lv : List (Nat × Value)} {st : List Value} {σ : gS} (C : gC X cc R_Fo nL fr lo) (d : decode cc pc = .ok (.getfield 56, 3)) (kk : G X (pc + 3) lv (.ref (gA X 13) :: st) σ) : G X pc lv (.ref (gA X 1) :: st) σ := r_get C (T := T_Fo) (N := 17) (ci := 1) (F := fl_Fo) 14 (by decide) cel_Fo rfl in_Fo (by decide) m_9 rfl d kk
theorem q_Fo_31 {X : gX} {cc : ByteArray} {nL fr lo pc : Nat} {lv : List (Nat × Value)} {st : List Value} {σ : gS} (C : gC X cc R_Fo nL fr lo) (d : decode cc pc = .ok (.getfield 31, 3)) (kk : G X (pc + 3) lv (.ref (gA X 5) :: st) σ) : G X pc lv (.ref (gA X 1) :: st) σ := r_get C (T := T_Fo) (N := 17) (ci := 1) (F := fl_Fo) 6 (by decide) cel_Fo rfl in_Fo (by decide) m_10 rfl d kk
theorem q_Fo_59 {X : gX} {cc : ByteArray} {nL fr lo pc : Nat} {lv : List (Nat × Value)} {st : List Value} {σ : gS} (C : gC X cc R_Fo nL fr lo) (d : decode cc pc = .ok (.getfield 59, 3)) (kk : G X (pc + 3) lv (.ref (gA X 14) :: st) σ) : G X pc lv (.ref (gA X 1) :: st) σ := r_get C (T := T_Fo) (N := 17) (ci := 1) (F := fl_Fo) 15 (by decide) cel_Fo rfl in_Fo (by decide) m_11 rfl d kk
theorem q_Fo_37 {X : gX} {cc : ByteArray} {nL fr lo pc : Nat} {lv : List (Nat × Value)} {st : List Value} {σ : gS} (C : gC X cc R_Fo nL fr lo) (d : decode cc pc = .ok (.getfield 37, 3)) (kk : G X (pc + 3) lv (.ref (gA X 7) :: st) σ) : G X pc lv (.ref (gA X 1) :: st) σ := r_get C (T := T_Fo) (N := 17) (ci := 1) (F := fl_Fo) 8 (by decide) cel_Fo rfl in_Fo (by decide) m_23 rfl d kk
theorem q_Fo_21 {X : gX} {cc : ByteArray} {nL fr lo pc : Nat} {lv : List (Nat × Value)} {st : List Value} {σ : gS} (C : gC X cc R_Fo nL fr lo) (d : decode cc pc = .ok (.getfield 21, 3)) (kk : G X (pc + 3) lv (.ref (gA X 2) :: st) σ) : G X pc lv (.ref (gA X 1) :: st) σ := r_get C (T := T_Fo) (N := 17) (ci := 1) (F := fl_Fo) 3 (by decide) cel_Fo rfl in_Fo (by decide) m_24 rfl d kk
theorem q_Fo_25 {X : gX} {cc : ByteArray} {nL fr lo pc : Nat} {lv : List (Nat × Value)} {st : List Value} {σ : gS} (C : gC X cc R_Fo nL fr lo) (d : decode cc pc = .ok (.getfield 25, 3)) (kk : G X (pc + 3) lv (.ref (gA X 3) :: st) σ) : G X pc lv (.ref (gA X 1) :: st) σ := r_get C (T := T_Fo) (N := 17) (ci := 1) (F := fl_Fo) 4 (by decide) cel_Fo rfl in_Fo (by decide) m_25 rfl d kk
theorem q_Fo_40 {X : gX} {cc : ByteArray} {nL fr lo pc : Nat} {lv : List (Nat × Value)} {st : List Value} {σ : gS} (C : gC X cc R_Fo nL fr lo) (d : decode cc pc = .ok (.getfield 40, 3)) (kk : G X (pc + 3) lv (.ref (gA X 8) :: st) σ) : G X pc lv (.ref (gA X 1) :: st) σ := r_get C (T := T_Fo) (N := 17) (ci := 1) (F := fl_Fo) 9 (by decide) cel_Fo rfl in_Fo (by decide) m_26 rfl d kk
theorem q_Fo_28 {X : gX} {cc : ByteArray} {nL fr lo pc : Nat} {lv : List (Nat × Value)} {st : List Value} {σ : gS} (C : gC X cc R_Fo nL fr lo) (d : decode cc pc = .ok (.getfield 28, 3)) (kk : G X (pc + 3) lv (.ref (gA X 4) :: st) σ) : G X pc lv (.ref (gA X 1) :: st) σ := r_get C (T := T_Fo) (N := 17) (ci := 1) (F := fl_Fo) 5 (by decide) cel_Fo rfl in_Fo (by decide) m_27 rfl d kk
theorem q_Fo_49 {X : gX} {cc : ByteArray} {nL fr lo pc : Nat} {lv : List (Nat × Value)} {st : List Value} {σ : gS} (C : gC X cc R_Fo nL fr lo) (d : decode cc pc = .ok (.getfield 49, 3)) (kk : G X (pc + 3) lv (.ref (gA X 11) :: st) σ) : G X pc lv (.ref (gA X 1) :: st) σ := r_get C (T := T_Fo) (N := 17) (ci := 1) (F := fl_Fo) 12 (by decide) cel_Fo rfl in_Fo (by decide) m_28 rfl d kk
theorem q_Fo_34 {X : gX} {cc : ByteArray} {nL fr lo pc : Nat} {lv : List (Nat × Value)} {st : List Value} {σ : gS} (C : gC X cc R_Fo nL fr lo) (d : decode cc pc = .ok (.getfield 34, 3)) (kk : G X (pc + 3) lv (.ref (gA X 6) :: st) σ) : G X pc lv (.ref (gA X 1) :: st) σ := r_get C (T := T_Fo) (N := 17) (ci := 1) (F := fl_Fo) 7 (by decide) cel_Fo rfl in_Fo (by decide) m_33 rfl d kk
theorem q_Fo_43 {X : gX} {cc : ByteArray} {nL fr lo pc : Nat} {lv : List (Nat × Value)} {st : List Value} {σ : gS} (C : gC X cc R_Fo nL fr lo) (d : decode cc pc = .ok (.getfield 43, 3)) (kk : G X (pc + 3) lv (.ref (gA X 9) :: st) σ) : G X pc lv (.ref (gA X 1) :: st) σ := r_get C (T := T_Fo) (N := 17) (ci := 1) (F := fl_Fo) 10 (by decide) cel_Fo rfl in_Fo (by decide) m_34 rfl d kk
theorem q_Fo_46 {X : gX} {cc : ByteArray} {nL fr lo pc : Nat} {lv : List (Nat × Value)} {st : List Value} {σ : gS} (C : gC X cc R_Fo nL fr lo) (d : decode cc pc = .ok (.getfield 46, 3)) (kk : G X (pc + 3) lv (.ref (gA X 10) :: st) σ) : G X pc lv (.ref (gA X 1) :: st) σ := r_get C (T := T_Fo) (N := 17) (ci := 1) (F := fl_Fo) 11 (by decide) cel_Fo rfl in_Fo (by decide) m_35 rfl d kk
theorem q_Fo_53 {X : gX} {cc : ByteArray} {nL fr lo pc : Nat} {lv : List (Nat × Value)} {st : List Value} {σ : gS} (C : gC X cc R_Fo nL fr lo) (d : decode cc pc = .ok (.getfield 53, 3)) (kk : G X (pc + 3) lv (.ref (gA X 12) :: st) σ) : G X pc lv (.ref (gA X 1) :: st) σ := r_get C (T := T_Fo) (N := 17) (ci := 1) (F := fl_Fo) 13 (by decide) cel_Fo rfl in_Fo (by decide) m_36 rfl d kk
theorem q_Fo_62 {X : gX} {cc : ByteArray} {nL fr lo pc : Nat} {lv : List (Nat × Value)} {st : List Value} {σ : gS} (C : gC X cc R_Fo nL fr lo) (d : decode cc pc = .ok (.getfield 62, 3)) (kk : G X (pc + 3) lv (.ref (gA X 15) :: st) σ) : G X pc lv (.ref (gA X 1) :: st) σ := r_get C (T := T_Fo) (N := 17) (ci := 1) (F := fl_Fo) 16 (by decide) cel_Fo rfl in_Fo (by decide) m_41 rfl d kk
theorem q_Ga_77 {X : gX} {cc : ByteArray} {nL fr lo pc : Nat} {lv : List (Nat × Value)} {st : List Value} {σ : gS} (C : gC X cc R_Ga nL fr lo) (d : decode cc pc = .ok (.getfield 77, 3)) (kk : G X (pc + 3) lv (.ref (gA X 5) :: st) σ) : G X pc lv (.ref (gA X 1) :: st) σ := r_get C (T := T_Fo) (N := 17) (ci := 1) (F := fl_Fo) 6 (by decide) cel_Fo rfl in_Fo (by decide) m_88 rfl d kk
theorem q_Ga_86 {X : gX} {cc : ByteArray} {nL fr lo pc : Nat} {lv : List (Nat × Value)} {st : List Value} {σ : gS} (C : gC X cc R_Ga nL fr lo) (d : decode cc pc = .ok (.getfield 86, 3)) (kk : G X (pc + 3) lv (.int (gI σ 1 0) :: st) σ) : G X pc lv (.ref (gA X 1) :: st) σ := r_get C (T := T_Fo) (N := 17) (ci := 1) (F := fl_Fo) 0 (by decide) cel_Fo rfl in_Fo (by decide) m_89 rfl d kk
theorem q_Ta_23 {X : gX} {cc : ByteArray} {nL fr lo pc : Nat} {lv : List (Nat × Value)} {st : List Value} {σ : gS} (C : gC X cc R_Ta nL fr lo) (d : decode cc pc = .ok (.getfield 23, 3)) (kk : G X (pc + 3) lv (.ref (gA X 22) :: st) σ) : G X pc lv (.ref (gA X 16) :: st) σ := r_get C (T := T_Ta) (N := 7) (ci := 2) (F := fl_Ta) 4 (by decide) cel_Ta rfl in_Ta (by decide) m_111 rfl d kk
theorem q_Ta_33 {X : gX} {cc : ByteArray} {nL fr lo pc : Nat} {lv : List (Nat × Value)} {st : List Value} {σ : gS} (C : gC X cc R_Ta nL fr lo) (d : decode cc pc = .ok (.getfield 33, 3)) (kk : G X (pc + 3) lv (.ref (gA X 1) :: st) σ) : G X pc lv (.ref (gA X 16) :: st) σ := r_get C (T := T_Ta) (N := 7) (ci := 2) (F := fl_Ta) 1 (by decide) cel_Ta rfl in_Ta (by decide) m_112 rfl d kk
theorem q_Ta_83 {X : gX} {cc : ByteArray} {nL fr lo pc : Nat} {lv : List (Nat × Value)} {st : List Value} {σ : gS} (C : gC X cc R_Ta nL fr lo) (d : decode cc pc = .ok (.getfield 83, 3)) (kk : G X (pc + 3) lv (.ref (gA X 8) :: st) σ) : G X pc lv (.ref (gA X 1) :: st) σ := r_get C (T := T_Fo) (N := 17) (ci := 1) (F := fl_Fo) 9 (by decide) cel_Fo rfl in_Fo (by decide) m_117 rfl d kk
theorem q_Ta_17 {X : gX} {cc : ByteArray} {nL fr lo pc : Nat} {lv : List (Nat × Value)} {st : List Value} {σ : gS} (C : gC X cc R_Ta nL fr lo) (d : decode cc pc = .ok (.getfield 17, 3)) (kk : G X (pc + 3) lv (.ref (gA X 18) :: st) σ) : G X pc lv (.ref (gA X 16) :: st) σ := r_get C (T := T_Ta) (N := 7) (ci := 2) (F := fl_Ta) 2 (by decide) cel_Ta rfl in_Ta (by decide) m_118 rfl d kk
theorem q_Ta_68 {X : gX} {cc : ByteArray} {nL fr lo pc : Nat} {lv : List (Nat × Value)} {st : List Value} {σ : gS} (C : gC X cc R_Ta nL fr lo) (d : decode cc pc = .ok (.getfield 68, 3)) (kk : G X (pc + 3) lv (.ref (gA X 2) :: st) σ) : G X pc lv (.ref (gA X 1) :: st) σ := r_get C (T := T_Fo) (N := 17) (ci := 1) (F := fl_Fo) 3 (by decide) cel_Fo rfl in_Fo (by decide) m_119 rfl d kk
theorem q_Ta_20 {X : gX} {cc : ByteArray} {nL fr lo pc : Nat} {lv : List (Nat × Value)} {st : List Value} {σ : gS} (C : gC X cc R_Ta nL fr lo) (d : decode cc pc = .ok (.getfield 20, 3)) (kk : G X (pc + 3) lv (.ref (gA X 21) :: st) σ) : G X pc lv (.ref (gA X 16) :: st) σ := r_get C (T := T_Ta) (N := 7) (ci := 2) (F := fl_Ta) 3 (by decide) cel_Ta rfl in_Ta (by decide) m_120 rfl d kk
theorem q_Ta_77 {X : gX} {cc : ByteArray} {nL fr lo pc : Nat} {lv : List (Nat × Value)} {st : List Value} {σ : gS} (C : gC X cc R_Ta nL fr lo) (d : decode cc pc = .ok (.getfield 77, 3)) (kk : G X (pc + 3) lv (.ref (gA X 3) :: st) σ) : G X pc lv (.ref (gA X 1) :: st) σ := r_get C (T := T_Fo) (N := 17) (ci := 1) (F := fl_Fo) 4 (by decide) cel_Fo rfl in_Fo (by decide) m_121 rfl d kk
theorem q_Ta_9 {X : gX} {cc : ByteArray} {nL fr lo pc : Nat} {lv : List (Nat × Value)} {st : List Value} {σ : gS} (C : gC X cc R_Ta nL fr lo) (d : decode cc pc = .ok (.getfield 9, 3)) (kk : G X (pc + 3) lv (.ref (gA X 17) :: st) σ) : G X pc lv (.ref (gA X 16) :: st) σ := r_get C (T := T_Ta) (N := 7) (ci := 2) (F := fl_Ta) 0 (by decide) cel_Ta rfl in_Ta (by decide) m_135 rfl d kk
theorem q_Ta_47 {X : gX} {cc : ByteArray} {nL fr lo pc : Nat} {lv : List (Nat × Value)} {st : List Value} {σ : gS} (C : gC X cc R_Ta nL fr lo) (d : decode cc pc = .ok (.getfield 47, 3)) (kk : G X (pc + 3) lv (.int (gI σ 1 2) :: st) σ) : G X pc lv (.ref (gA X 1) :: st) σ := r_get C (T := T_Fo) (N := 17) (ci := 1) (F := fl_Fo) 2 (by decide) cel_Fo rfl in_Fo (by decide) m_144 rfl d kk
theorem p_Ta_26 {X : gX} {cc : ByteArray} {nL fr lo pc : Nat} {lv : List (Nat × Value)} {st : List Value} {σ σ' : gS} {v : Int32} (C : gC X cc R_Ta nL fr lo) (e : σ' = sI σ 16 5 v) (d : decode cc pc = .ok (.putfield 26, 3)) (kk : G X (pc + 3) lv st σ') : G X pc lv (.int v :: .ref (gA X 16) :: st) σ := r_put C (T := T_Ta) (N := 7) (ci := 2) (F := fl_Ta) ty_Ta ty_Ta_ok nm_Ta 5 (by decide) cel_Ta rfl in_Ta (by decide) m_145 rfl (by decide +kernel) (fun a f => ⟨Nat.le_of_ble_eq_true rfl, rfl⟩) e d kk
theorem p_Ta_30 {X : gX} {cc : ByteArray} {nL fr lo pc : Nat} {lv : List (Nat × Value)} {st : List Value} {σ σ' : gS} {v : Int32} (C : gC X cc R_Ta nL fr lo) (e : σ' = sI σ 16 6 v) (d : decode cc pc = .ok (.putfield 30, 3)) (kk : G X (pc + 3) lv st σ') : G X pc lv (.int v :: .ref (gA X 16) :: st) σ := r_put C (T := T_Ta) (N := 7) (ci := 2) (F := fl_Ta) ty_Ta ty_Ta_ok nm_Ta 6 (by decide) cel_Ta rfl in_Ta (by decide) m_146 rfl (by decide +kernel) (fun a f => ⟨Nat.le_of_ble_eq_true rfl, rfl⟩) e d kk
theorem q_Ta_26 {X : gX} {cc : ByteArray} {nL fr lo pc : Nat} {lv : List (Nat × Value)} {st : List Value} {σ : gS} (C : gC X cc R_Ta nL fr lo) (d : decode cc pc = .ok (.getfield 26, 3)) (kk : G X (pc + 3) lv (.int (gI σ 16 5) :: st) σ) : G X pc lv (.ref (gA X 16) :: st) σ := r_get C (T := T_Ta) (N := 7) (ci := 2) (F := fl_Ta) 5 (by decide) cel_Ta rfl in_Ta (by decide) m_145 rfl d kk
theorem q_Ta_30 {X : gX} {cc : ByteArray} {nL fr lo pc : Nat} {lv : List (Nat × Value)} {st : List Value} {σ : gS} (C : gC X cc R_Ta nL fr lo) (d : decode cc pc = .ok (.getfield 30, 3)) (kk : G X (pc + 3) lv (.int (gI σ 16 6) :: st) σ) : G X pc lv (.ref (gA X 16) :: st) σ := r_get C (T := T_Ta) (N := 7) (ci := 2) (F := fl_Ta) 6 (by decide) cel_Ta rfl in_Ta (by decide) m_146 rfl d kk
theorem q_Po_25 {X : gX} {cc : ByteArray} {nL fr lo pc : Nat} {lv : List (Nat × Value)} {st : List Value} {σ : gS} (C : gC X cc R_Po nL fr lo) (d : decode cc pc = .ok (.getfield 25, 3)) (kk : G X (pc + 3) lv (.ref (gA X 31) :: st) σ) : G X pc lv (.ref (gA X 23) :: st) σ := r_get C (T := T_Po) (N := 6) (ci := 3) (F := fl_Po) 5 (by decide) cel_Po rfl in_Po (by decide) m_155 rfl d kk
theorem q_Po_28 {X : gX} {cc : ByteArray} {nL fr lo pc : Nat} {lv : List (Nat × Value)} {st : List Value} {σ : gS} (C : gC X cc R_Po nL fr lo) (d : decode cc pc = .ok (.getfield 28, 3)) (kk : G X (pc + 3) lv (.ref (gA X 1) :: st) σ) : G X pc lv (.ref (gA X 23) :: st) σ := r_get C (T := T_Po) (N := 6) (ci := 3) (F := fl_Po) 0 (by decide) cel_Po rfl in_Po (by decide) m_156 rfl d kk
theorem q_Po_32 {X : gX} {cc : ByteArray} {nL fr lo pc : Nat} {lv : List (Nat × Value)} {st : List Value} {σ : gS} (C : gC X cc R_Po nL fr lo) (d : decode cc pc = .ok (.getfield 32, 3)) (kk : G X (pc + 3) lv (.ref (gA X 16) :: st) σ) : G X pc lv (.ref (gA X 23) :: st) σ := r_get C (T := T_Po) (N := 6) (ci := 3) (F := fl_Po) 1 (by decide) cel_Po rfl in_Po (by decide) m_169 rfl d kk
theorem q_Po_115 {X : gX} {cc : ByteArray} {nL fr lo pc : Nat} {lv : List (Nat × Value)} {st : List Value} {σ : gS} (C : gC X cc R_Po nL fr lo) (d : decode cc pc = .ok (.getfield 115, 3)) (kk : G X (pc + 3) lv (.ref (gA X 17) :: st) σ) : G X pc lv (.ref (gA X 16) :: st) σ := r_get C (T := T_Ta) (N := 7) (ci := 2) (F := fl_Ta) 0 (by decide) cel_Ta rfl in_Ta (by decide) m_170 rfl d kk
theorem q_Po_22 {X : gX} {cc : ByteArray} {nL fr lo pc : Nat} {lv : List (Nat × Value)} {st : List Value} {σ : gS} (C : gC X cc R_Po nL fr lo) (d : decode cc pc = .ok (.getfield 22, 3)) (kk : G X (pc + 3) lv (.ref (gA X 28) :: st) σ) : G X pc lv (.ref (gA X 23) :: st) σ := r_get C (T := T_Po) (N := 6) (ci := 3) (F := fl_Po) 4 (by decide) cel_Po rfl in_Po (by decide) m_173 rfl d kk
theorem q_Po_68 {X : gX} {cc : ByteArray} {nL fr lo pc : Nat} {lv : List (Nat × Value)} {st : List Value} {σ : gS} (C : gC X cc R_Po nL fr lo) (d : decode cc pc = .ok (.getfield 68, 3)) (kk : G X (pc + 3) lv (.int (gI σ 1 0) :: st) σ) : G X pc lv (.ref (gA X 1) :: st) σ := r_get C (T := T_Fo) (N := 17) (ci := 1) (F := fl_Fo) 0 (by decide) cel_Fo rfl in_Fo (by decide) m_197 rfl d kk
theorem q_Po_11 {X : gX} {cc : ByteArray} {nL fr lo pc : Nat} {lv : List (Nat × Value)} {st : List Value} {σ : gS} (C : gC X cc R_Po nL fr lo) (d : decode cc pc = .ok (.getfield 11, 3)) (kk : G X (pc + 3) lv (.ref (gA X 24) :: st) σ) : G X pc lv (.ref (gA X 23) :: st) σ := r_get C (T := T_Po) (N := 6) (ci := 3) (F := fl_Po) 2 (by decide) cel_Po rfl in_Po (by decide) m_198 rfl d kk
theorem q_Po_16 {X : gX} {cc : ByteArray} {nL fr lo pc : Nat} {lv : List (Nat × Value)} {st : List Value} {σ : gS} (C : gC X cc R_Po nL fr lo) (d : decode cc pc = .ok (.getfield 16, 3)) (kk : G X (pc + 3) lv (.ref (gA X 27) :: st) σ) : G X pc lv (.ref (gA X 23) :: st) σ := r_get C (T := T_Po) (N := 6) (ci := 3) (F := fl_Po) 3 (by decide) cel_Po rfl in_Po (by decide) m_206 rfl d kk
theorem q_Po_40 {X : gX} {cc : ByteArray} {nL fr lo pc : Nat} {lv : List (Nat × Value)} {st : List Value} {σ : gS} (C : gC X cc R_Po nL fr lo) (d : decode cc pc = .ok (.getfield 40, 3)) (kk : G X (pc + 3) lv (.int (gI σ 1 2) :: st) σ) : G X pc lv (.ref (gA X 1) :: st) σ := r_get C (T := T_Fo) (N := 17) (ci := 1) (F := fl_Fo) 2 (by decide) cel_Fo rfl in_Fo (by decide) m_207 rfl d kk
theorem q_Le_28 {X : gX} {cc : ByteArray} {nL fr lo pc : Nat} {lv : List (Nat × Value)} {st : List Value} {σ : gS} (C : gC X cc R_Le nL fr lo) (d : decode cc pc = .ok (.getfield 28, 3)) (kk : G X (pc + 3) lv (.ref (gA X 16) :: st) σ) : G X pc lv (.ref (gA X 34) :: st) σ := r_get C (T := T_Le) (N := 5) (ci := 4) (F := fl_Le) 1 (by decide) cel_Le rfl in_Le (by decide) m_228 rfl d kk
theorem q_Le_49 {X : gX} {cc : ByteArray} {nL fr lo pc : Nat} {lv : List (Nat × Value)} {st : List Value} {σ : gS} (C : gC X cc R_Le nL fr lo) (d : decode cc pc = .ok (.getfield 49, 3)) (kk : G X (pc + 3) lv (.ref (gA X 17) :: st) σ) : G X pc lv (.ref (gA X 16) :: st) σ := r_get C (T := T_Ta) (N := 7) (ci := 2) (F := fl_Ta) 0 (by decide) cel_Ta rfl in_Ta (by decide) m_229 rfl d kk
theorem q_Le_16 {X : gX} {cc : ByteArray} {nL fr lo pc : Nat} {lv : List (Nat × Value)} {st : List Value} {σ : gS} (C : gC X cc R_Le nL fr lo) (d : decode cc pc = .ok (.getfield 16, 3)) (kk : G X (pc + 3) lv (.ref (gA X 38) :: st) σ) : G X pc lv (.ref (gA X 34) :: st) σ := r_get C (T := T_Le) (N := 5) (ci := 4) (F := fl_Le) 3 (by decide) cel_Le rfl in_Le (by decide) m_230 rfl d kk
theorem q_Le_11 {X : gX} {cc : ByteArray} {nL fr lo pc : Nat} {lv : List (Nat × Value)} {st : List Value} {σ : gS} (C : gC X cc R_Le nL fr lo) (d : decode cc pc = .ok (.getfield 11, 3)) (kk : G X (pc + 3) lv (.ref (gA X 35) :: st) σ) : G X pc lv (.ref (gA X 34) :: st) σ := r_get C (T := T_Le) (N := 5) (ci := 4) (F := fl_Le) 2 (by decide) cel_Le rfl in_Le (by decide) m_236 rfl d kk
theorem q_Le_20 {X : gX} {cc : ByteArray} {nL fr lo pc : Nat} {lv : List (Nat × Value)} {st : List Value} {σ : gS} (C : gC X cc R_Le nL fr lo) (d : decode cc pc = .ok (.getfield 20, 3)) (kk : G X (pc + 3) lv (.int (gI σ 34 4) :: st) σ) : G X pc lv (.ref (gA X 34) :: st) σ := r_get C (T := T_Le) (N := 5) (ci := 4) (F := fl_Le) 4 (by decide) cel_Le rfl in_Le (by decide) m_247 rfl d kk
theorem q_Le_24 {X : gX} {cc : ByteArray} {nL fr lo pc : Nat} {lv : List (Nat × Value)} {st : List Value} {σ : gS} (C : gC X cc R_Le nL fr lo) (d : decode cc pc = .ok (.getfield 24, 3)) (kk : G X (pc + 3) lv (.ref (gA X 1) :: st) σ) : G X pc lv (.ref (gA X 34) :: st) σ := r_get C (T := T_Le) (N := 5) (ci := 4) (F := fl_Le) 0 (by decide) cel_Le rfl in_Le (by decide) m_248 rfl d kk
theorem q_Le_38 {X : gX} {cc : ByteArray} {nL fr lo pc : Nat} {lv : List (Nat × Value)} {st : List Value} {σ : gS} (C : gC X cc R_Le nL fr lo) (d : decode cc pc = .ok (.getfield 38, 3)) (kk : G X (pc + 3) lv (.int (gI σ 1 2) :: st) σ) : G X pc lv (.ref (gA X 1) :: st) σ := r_get C (T := T_Fo) (N := 17) (ci := 1) (F := fl_Fo) 2 (by decide) cel_Fo rfl in_Fo (by decide) m_249 rfl d kk
theorem p_Le_20 {X : gX} {cc : ByteArray} {nL fr lo pc : Nat} {lv : List (Nat × Value)} {st : List Value} {σ σ' : gS} {v : Int32} (C : gC X cc R_Le nL fr lo) (e : σ' = sI σ 34 4 v) (d : decode cc pc = .ok (.putfield 20, 3)) (kk : G X (pc + 3) lv st σ') : G X pc lv (.int v :: .ref (gA X 34) :: st) σ := r_put C (T := T_Le) (N := 5) (ci := 4) (F := fl_Le) ty_Le ty_Le_ok nm_Le 4 (by decide) cel_Le rfl in_Le (by decide) m_247 rfl (by decide +kernel) (fun a f => ⟨Nat.le_of_ble_eq_true rfl, rfl⟩) e d kk
theorem q_Ga_90 {X : gX} {cc : ByteArray} {nL fr lo pc : Nat} {lv : List (Nat × Value)} {st : List Value} {σ : gS} (C : gC X cc R_Ga nL fr lo) (d : decode cc pc = .ok (.getfield 90, 3)) (kk : G X (pc + 3) lv (.int (gI σ 1 1) :: st) σ) : G X pc lv (.ref (gA X 1) :: st) σ := r_get C (T := T_Fo) (N := 17) (ci := 1) (F := fl_Fo) 1 (by decide) cel_Fo rfl in_Fo (by decide) m_255 rfl d kk
theorem q_Ga_30 {X : gX} {cc : ByteArray} {nL fr lo pc : Nat} {lv : List (Nat × Value)} {st : List Value} {σ : gS} (C : gC X cc R_Ga nL fr lo) (d : decode cc pc = .ok (.getfield 30, 3)) (kk : G X (pc + 3) lv (.ref (gA X 23) :: st) σ) : G X pc lv (.ref (gA X 0) :: st) σ := r_get C (T := T_Ga) (N := 5) (ci := 0) (F := fl_Ga) 2 (by decide) cel_Ga rfl in_Ga (by decide) m_259 rfl d kk
theorem q_Ga_21 {X : gX} {cc : ByteArray} {nL fr lo pc : Nat} {lv : List (Nat × Value)} {st : List Value} {σ : gS} (C : gC X cc R_Ga nL fr lo) (d : decode cc pc = .ok (.getfield 21, 3)) (kk : G X (pc + 3) lv (.ref (gA X 16) :: st) σ) : G X pc lv (.ref (gA X 0) :: st) σ := r_get C (T := T_Ga) (N := 5) (ci := 0) (F := fl_Ga) 1 (by decide) cel_Ga rfl in_Ga (by decide) m_269 rfl d kk
theorem q_Ga_37 {X : gX} {cc : ByteArray} {nL fr lo pc : Nat} {lv : List (Nat × Value)} {st : List Value} {σ : gS} (C : gC X cc R_Ga nL fr lo) (d : decode cc pc = .ok (.getfield 37, 3)) (kk : G X (pc + 3) lv (.ref (gA X 34) :: st) σ) : G X pc lv (.ref (gA X 0) :: st) σ := r_get C (T := T_Ga) (N := 5) (ci := 0) (F := fl_Ga) 3 (by decide) cel_Ga rfl in_Ga (by decide) m_274 rfl d kk
theorem q_Ga_142 {X : gX} {cc : ByteArray} {nL fr lo pc : Nat} {lv : List (Nat × Value)} {st : List Value} {σ : gS} (C : gC X cc R_Ga nL fr lo) (d : decode cc pc = .ok (.getfield 142, 3)) (kk : G X (pc + 3) lv (.ref (gA X 4) :: st) σ) : G X pc lv (.ref (gA X 1) :: st) σ := r_get C (T := T_Fo) (N := 17) (ci := 1) (F := fl_Fo) 5 (by decide) cel_Fo rfl in_Fo (by decide) m_290 rfl d kk
theorem q_Ga_139 {X : gX} {cc : ByteArray} {nL fr lo pc : Nat} {lv : List (Nat × Value)} {st : List Value} {σ : gS} (C : gC X cc R_Ga nL fr lo) (d : decode cc pc = .ok (.getfield 139, 3)) (kk : G X (pc + 3) lv (.ref (gA X 3) :: st) σ) : G X pc lv (.ref (gA X 1) :: st) σ := r_get C (T := T_Fo) (N := 17) (ci := 1) (F := fl_Fo) 4 (by decide) cel_Fo rfl in_Fo (by decide) m_291 rfl d kk
theorem q_Ga_133 {X : gX} {cc : ByteArray} {nL fr lo pc : Nat} {lv : List (Nat × Value)} {st : List Value} {σ : gS} (C : gC X cc R_Ga nL fr lo) (d : decode cc pc = .ok (.getfield 133, 3)) (kk : G X (pc + 3) lv (.ref (gA X 2) :: st) σ) : G X pc lv (.ref (gA X 1) :: st) σ := r_get C (T := T_Fo) (N := 17) (ci := 1) (F := fl_Fo) 3 (by decide) cel_Fo rfl in_Fo (by decide) m_292 rfl d kk
theorem q_An_30 {X : gX} {cc : ByteArray} {nL fr lo pc : Nat} {lv : List (Nat × Value)} {st : List Value} {σ : gS} (C : gC X cc R_An nL fr lo) (d : decode cc pc = .ok (.getfield 30, 3)) (kk : G X (pc + 3) lv (.ref (gA X 16) :: st) σ) : G X pc lv (.ref (gA X 39) :: st) σ := r_get C (T := T_An) (N := 6) (ci := 5) (F := fl_An) 1 (by decide) cel_An rfl in_An (by decide) m_371 rfl d kk
theorem q_An_38 {X : gX} {cc : ByteArray} {nL fr lo pc : Nat} {lv : List (Nat × Value)} {st : List Value} {σ : gS} (C : gC X cc R_An nL fr lo) (d : decode cc pc = .ok (.getfield 38, 3)) (kk : G X (pc + 3) lv (.ref (gA X 17) :: st) σ) : G X pc lv (.ref (gA X 16) :: st) σ := r_get C (T := T_Ta) (N := 7) (ci := 2) (F := fl_Ta) 0 (by decide) cel_Ta rfl in_Ta (by decide) m_372 rfl d kk
theorem q_An_16 {X : gX} {cc : ByteArray} {nL fr lo pc : Nat} {lv : List (Nat × Value)} {st : List Value} {σ : gS} (C : gC X cc R_An nL fr lo) (d : decode cc pc = .ok (.getfield 16, 3)) (kk : G X (pc + 3) lv (.ref (gA X 43) :: st) σ) : G X pc lv (.ref (gA X 39) :: st) σ := r_get C (T := T_An) (N := 6) (ci := 5) (F := fl_An) 3 (by decide) cel_An rfl in_An (by decide) m_373 rfl d kk
theorem q_An_19 {X : gX} {cc : ByteArray} {nL fr lo pc : Nat} {lv : List (Nat × Value)} {st : List Value} {σ : gS} (C : gC X cc R_An nL fr lo) (d : decode cc pc = .ok (.getfield 19, 3)) (kk : G X (pc + 3) lv (.int (gI σ 39 4) :: st) σ) : G X pc lv (.ref (gA X 39) :: st) σ := r_get C (T := T_An) (N := 6) (ci := 5) (F := fl_An) 4 (by decide) cel_An rfl in_An (by decide) m_375 rfl d kk
theorem p_An_19 {X : gX} {cc : ByteArray} {nL fr lo pc : Nat} {lv : List (Nat × Value)} {st : List Value} {σ σ' : gS} {v : Int32} (C : gC X cc R_An nL fr lo) (e : σ' = sI σ 39 4 v) (d : decode cc pc = .ok (.putfield 19, 3)) (kk : G X (pc + 3) lv st σ') : G X pc lv (.int v :: .ref (gA X 39) :: st) σ := r_put C (T := T_An) (N := 6) (ci := 5) (F := fl_An) ty_An ty_An_ok nm_An 4 (by decide) cel_An rfl in_An (by decide) m_375 rfl (by decide +kernel) (fun a f => ⟨Nat.le_of_ble_eq_true rfl, rfl⟩) e d kk
theorem q_An_11 {X : gX} {cc : ByteArray} {nL fr lo pc : Nat} {lv : List (Nat × Value)} {st : List Value} {σ : gS} (C : gC X cc R_An nL fr lo) (d : decode cc pc = .ok (.getfield 11, 3)) (kk : G X (pc + 3) lv (.ref (gA X 40) :: st) σ) : G X pc lv (.ref (gA X 39) :: st) σ := r_get C (T := T_An) (N := 6) (ci := 5) (F := fl_An) 2 (by decide) cel_An rfl in_An (by decide) m_377 rfl d kk
theorem q_An_23 {X : gX} {cc : ByteArray} {nL fr lo pc : Nat} {lv : List (Nat × Value)} {st : List Value} {σ : gS} (C : gC X cc R_An nL fr lo) (d : decode cc pc = .ok (.getfield 23, 3)) (kk : G X (pc + 3) lv (.int (gI σ 39 5) :: st) σ) : G X pc lv (.ref (gA X 39) :: st) σ := r_get C (T := T_An) (N := 6) (ci := 5) (F := fl_An) 5 (by decide) cel_An rfl in_An (by decide) m_387 rfl d kk
theorem q_An_26 {X : gX} {cc : ByteArray} {nL fr lo pc : Nat} {lv : List (Nat × Value)} {st : List Value} {σ : gS} (C : gC X cc R_An nL fr lo) (d : decode cc pc = .ok (.getfield 26, 3)) (kk : G X (pc + 3) lv (.ref (gA X 1) :: st) σ) : G X pc lv (.ref (gA X 39) :: st) σ := r_get C (T := T_An) (N := 6) (ci := 5) (F := fl_An) 0 (by decide) cel_An rfl in_An (by decide) m_388 rfl d kk
theorem q_An_59 {X : gX} {cc : ByteArray} {nL fr lo pc : Nat} {lv : List (Nat × Value)} {st : List Value} {σ : gS} (C : gC X cc R_An nL fr lo) (d : decode cc pc = .ok (.getfield 59, 3)) (kk : G X (pc + 3) lv (.int (gI σ 1 2) :: st) σ) : G X pc lv (.ref (gA X 1) :: st) σ := r_get C (T := T_Fo) (N := 17) (ci := 1) (F := fl_Fo) 2 (by decide) cel_Fo rfl in_Fo (by decide) m_389 rfl d kk
theorem p_An_23 {X : gX} {cc : ByteArray} {nL fr lo pc : Nat} {lv : List (Nat × Value)} {st : List Value} {σ σ' : gS} {v : Int32} (C : gC X cc R_An nL fr lo) (e : σ' = sI σ 39 5 v) (d : decode cc pc = .ok (.putfield 23, 3)) (kk : G X (pc + 3) lv st σ') : G X pc lv (.int v :: .ref (gA X 39) :: st) σ := r_put C (T := T_An) (N := 6) (ci := 5) (F := fl_An) ty_An ty_An_ok nm_An 5 (by decide) cel_An rfl in_An (by decide) m_387 rfl (by decide +kernel) (fun a f => ⟨Nat.le_of_ble_eq_true rfl, rfl⟩) e d kk
theorem q_Ga_44 {X : gX} {cc : ByteArray} {nL fr lo pc : Nat} {lv : List (Nat × Value)} {st : List Value} {σ : gS} (C : gC X cc R_Ga nL fr lo) (d : decode cc pc = .ok (.getfield 44, 3)) (kk : G X (pc + 3) lv (.ref (gA X 39) :: st) σ) : G X pc lv (.ref (gA X 0) :: st) σ := r_get C (T := T_Ga) (N := 5) (ci := 0) (F := fl_Ga) 4 (by decide) cel_Ga rfl in_Ga (by decide) m_391 rfl d kk
theorem q_Mo_71 {X : gX} {cc : ByteArray} {nL fr lo pc : Nat} {lv : List (Nat × Value)} {st : List Value} {σ : gS} (C : gC X cc R_Mo nL fr lo) (d : decode cc pc = .ok (.getfield 71, 3)) (kk : G X (pc + 3) lv (.int (gI σ 46 0) :: st) σ) : G X pc lv (.ref (gA X 46) :: st) σ := r_get C (T := T_Mo) (N := 26) (ci := 6) (F := fl_Mo) 0 (by decide) cel_Mo rfl in_Mo (by decide) m_418 rfl d kk
theorem p_Mo_71 {X : gX} {cc : ByteArray} {nL fr lo pc : Nat} {lv : List (Nat × Value)} {st : List Value} {σ σ' : gS} {v : Int32} (C : gC X cc R_Mo nL fr lo) (e : σ' = sI σ 46 0 v) (d : decode cc pc = .ok (.putfield 71, 3)) (kk : G X (pc + 3) lv st σ') : G X pc lv (.int v :: .ref (gA X 46) :: st) σ := r_put C (T := T_Mo) (N := 26) (ci := 6) (F := fl_Mo) ty_Mo ty_Mo_ok nm_Mo 0 (by decide) cel_Mo rfl in_Mo (by decide) m_418 rfl (by decide +kernel) (fun a f => ⟨Nat.le_of_ble_eq_true rfl, rfl⟩) e d kk
theorem p_Mo_75 {X : gX} {cc : ByteArray} {nL fr lo pc : Nat} {lv : List (Nat × Value)} {st : List Value} {σ σ' : gS} {v : Int32} (C : gC X cc R_Mo nL fr lo) (e : σ' = sI σ 46 1 v) (d : decode cc pc = .ok (.putfield 75, 3)) (kk : G X (pc + 3) lv st σ') : G X pc lv (.int v :: .ref (gA X 46) :: st) σ := r_put C (T := T_Mo) (N := 26) (ci := 6) (F := fl_Mo) ty_Mo ty_Mo_ok nm_Mo 1 (by decide) cel_Mo rfl in_Mo (by decide) m_419 rfl (by decide +kernel) (fun a f => ⟨Nat.le_of_ble_eq_true rfl, rfl⟩) e d kk
theorem q_Mo_75 {X : gX} {cc : ByteArray} {nL fr lo pc : Nat} {lv : List (Nat × Value)} {st : List Value} {σ : gS} (C : gC X cc R_Mo nL fr lo) (d : decode cc pc = .ok (.getfield 75, 3)) (kk : G X (pc + 3) lv (.int (gI σ 46 1) :: st) σ) : G X pc lv (.ref (gA X 46) :: st) σ := r_get C (T := T_Mo) (N := 26) (ci := 6) (F := fl_Mo) 1 (by decide) cel_Mo rfl in_Mo (by decide) m_419 rfl d kk
theorem q_Mo_31 {X : gX} {cc : ByteArray} {nL fr lo pc : Nat} {lv : List (Nat × Value)} {st : List Value} {σ : gS} (C : gC X cc R_Mo nL fr lo) (d : decode cc pc = .ok (.getfield 31, 3)) (kk : G X (pc + 3) lv (.ref (gA X 54) :: st) σ) : G X pc lv (.ref (gA X 46) :: st) σ := r_get C (T := T_Mo) (N := 26) (ci := 6) (F := fl_Mo) 9 (by decide) cel_Mo rfl in_Mo (by decide) m_424 rfl d kk
theorem q_Mo_34 {X : gX} {cc : ByteArray} {nL fr lo pc : Nat} {lv : List (Nat × Value)} {st : List Value} {σ : gS} (C : gC X cc R_Mo nL fr lo) (d : decode cc pc = .ok (.getfield 34, 3)) (kk : G X (pc + 3) lv (.ref (gA X 55) :: st) σ) : G X pc lv (.ref (gA X 46) :: st) σ := r_get C (T := T_Mo) (N := 26) (ci := 6) (F := fl_Mo) 10 (by decide) cel_Mo rfl in_Mo (by decide) m_425 rfl d kk
theorem q_Mo_19 {X : gX} {cc : ByteArray} {nL fr lo pc : Nat} {lv : List (Nat × Value)} {st : List Value} {σ : gS} (C : gC X cc R_Mo nL fr lo) (d : decode cc pc = .ok (.getfield 19, 3)) (kk : G X (pc + 3) lv (.ref (gA X 50) :: st) σ) : G X pc lv (.ref (gA X 46) :: st) σ := r_get C (T := T_Mo) (N := 26) (ci := 6) (F := fl_Mo) 5 (by decide) cel_Mo rfl in_Mo (by decide) m_426 rfl d kk
theorem q_Mo_7 {X : gX} {cc : ByteArray} {nL fr lo pc : Nat} {lv : List (Nat × Value)} {st : List Value} {σ : gS} (C : gC X cc R_Mo nL fr lo) (d : decode cc pc = .ok (.getfield 7, 3)) (kk : G X (pc + 3) lv (.ref (gA X 47) :: st) σ) : G X pc lv (.ref (gA X 46) :: st) σ := r_get C (T := T_Mo) (N := 26) (ci := 6) (F := fl_Mo) 2 (by decide) cel_Mo rfl in_Mo (by decide) m_427 rfl d kk
theorem q_Mo_13 {X : gX} {cc : ByteArray} {nL fr lo pc : Nat} {lv : List (Nat × Value)} {st : List Value} {σ : gS} (C : gC X cc R_Mo nL fr lo) (d : decode cc pc = .ok (.getfield 13, 3)) (kk : G X (pc + 3) lv (.ref (gA X 48) :: st) σ) : G X pc lv (.ref (gA X 46) :: st) σ := r_get C (T := T_Mo) (N := 26) (ci := 6) (F := fl_Mo) 3 (by decide) cel_Mo rfl in_Mo (by decide) m_428 rfl d kk
theorem q_Mo_16 {X : gX} {cc : ByteArray} {nL fr lo pc : Nat} {lv : List (Nat × Value)} {st : List Value} {σ : gS} (C : gC X cc R_Mo nL fr lo) (d : decode cc pc = .ok (.getfield 16, 3)) (kk : G X (pc + 3) lv (.ref (gA X 49) :: st) σ) : G X pc lv (.ref (gA X 46) :: st) σ := r_get C (T := T_Mo) (N := 26) (ci := 6) (F := fl_Mo) 4 (by decide) cel_Mo rfl in_Mo (by decide) m_429 rfl d kk
theorem q_Mo_22 {X : gX} {cc : ByteArray} {nL fr lo pc : Nat} {lv : List (Nat × Value)} {st : List Value} {σ : gS} (C : gC X cc R_Mo nL fr lo) (d : decode cc pc = .ok (.getfield 22, 3)) (kk : G X (pc + 3) lv (.ref (gA X 51) :: st) σ) : G X pc lv (.ref (gA X 46) :: st) σ := r_get C (T := T_Mo) (N := 26) (ci := 6) (F := fl_Mo) 6 (by decide) cel_Mo rfl in_Mo (by decide) m_430 rfl d kk
theorem q_Mo_25 {X : gX} {cc : ByteArray} {nL fr lo pc : Nat} {lv : List (Nat × Value)} {st : List Value} {σ : gS} (C : gC X cc R_Mo nL fr lo) (d : decode cc pc = .ok (.getfield 25, 3)) (kk : G X (pc + 3) lv (.ref (gA X 52) :: st) σ) : G X pc lv (.ref (gA X 46) :: st) σ := r_get C (T := T_Mo) (N := 26) (ci := 6) (F := fl_Mo) 7 (by decide) cel_Mo rfl in_Mo (by decide) m_431 rfl d kk
theorem q_Mo_28 {X : gX} {cc : ByteArray} {nL fr lo pc : Nat} {lv : List (Nat × Value)} {st : List Value} {σ : gS} (C : gC X cc R_Mo nL fr lo) (d : decode cc pc = .ok (.getfield 28, 3)) (kk : G X (pc + 3) lv (.ref (gA X 53) :: st) σ) : G X pc lv (.ref (gA X 46) :: st) σ := r_get C (T := T_Mo) (N := 26) (ci := 6) (F := fl_Mo) 8 (by decide) cel_Mo rfl in_Mo (by decide) m_432 rfl d kk
theorem q_Mo_37 {X : gX} {cc : ByteArray} {nL fr lo pc : Nat} {lv : List (Nat × Value)} {st : List Value} {σ : gS} (C : gC X cc R_Mo nL fr lo) (d : decode cc pc = .ok (.getfield 37, 3)) (kk : G X (pc + 3) lv (.ref (gA X 56) :: st) σ) : G X pc lv (.ref (gA X 46) :: st) σ := r_get C (T := T_Mo) (N := 26) (ci := 6) (F := fl_Mo) 11 (by decide) cel_Mo rfl in_Mo (by decide) m_440 rfl d kk
theorem q_Mo_41 {X : gX} {cc : ByteArray} {nL fr lo pc : Nat} {lv : List (Nat × Value)} {st : List Value} {σ : gS} (C : gC X cc R_Mo nL fr lo) (d : decode cc pc = .ok (.getfield 41, 3)) (kk : G X (pc + 3) lv (.ref (gA X 57) :: st) σ) : G X pc lv (.ref (gA X 46) :: st) σ := r_get C (T := T_Mo) (N := 26) (ci := 6) (F := fl_Mo) 12 (by decide) cel_Mo rfl in_Mo (by decide) m_441 rfl d kk
theorem q_Mo_44 {X : gX} {cc : ByteArray} {nL fr lo pc : Nat} {lv : List (Nat × Value)} {st : List Value} {σ : gS} (C : gC X cc R_Mo nL fr lo) (d : decode cc pc = .ok (.getfield 44, 3)) (kk : G X (pc + 3) lv (.ref (gA X 58) :: st) σ) : G X pc lv (.ref (gA X 46) :: st) σ := r_get C (T := T_Mo) (N := 26) (ci := 6) (F := fl_Mo) 13 (by decide) cel_Mo rfl in_Mo (by decide) m_470 rfl d kk
theorem q_Mo_50 {X : gX} {cc : ByteArray} {nL fr lo pc : Nat} {lv : List (Nat × Value)} {st : List Value} {σ : gS} (C : gC X cc R_Mo nL fr lo) (d : decode cc pc = .ok (.getfield 50, 3)) (kk : G X (pc + 3) lv (.ref (gA X 60) :: st) σ) : G X pc lv (.ref (gA X 46) :: st) σ := r_get C (T := T_Mo) (N := 26) (ci := 6) (F := fl_Mo) 15 (by decide) cel_Mo rfl in_Mo (by decide) m_471 rfl d kk
theorem q_Mo_47 {X : gX} {cc : ByteArray} {nL fr lo pc : Nat} {lv : List (Nat × Value)} {st : List Value} {σ : gS} (C : gC X cc R_Mo nL fr lo) (d : decode cc pc = .ok (.getfield 47, 3)) (kk : G X (pc + 3) lv (.ref (gA X 59) :: st) σ) : G X pc lv (.ref (gA X 46) :: st) σ := r_get C (T := T_Mo) (N := 26) (ci := 6) (F := fl_Mo) 14 (by decide) cel_Mo rfl in_Mo (by decide) m_476 rfl d kk
theorem q_Mo_127 {X : gX} {cc : ByteArray} {nL fr lo pc : Nat} {lv : List (Nat × Value)} {st : List Value} {σ : gS} (C : gC X cc R_Mo nL fr lo) (d : decode cc pc = .ok (.getfield 127, 3)) (kk : G X (pc + 3) lv (.int (gI σ 46 17) :: st) σ) : G X pc lv (.ref (gA X 46) :: st) σ := r_get C (T := T_Mo) (N := 26) (ci := 6) (F := fl_Mo) 17 (by decide) cel_Mo rfl in_Mo (by decide) m_481 rfl d kk
theorem q_Mo_124 {X : gX} {cc : ByteArray} {nL fr lo pc : Nat} {lv : List (Nat × Value)} {st : List Value} {σ : gS} (C : gC X cc R_Mo nL fr lo) (d : decode cc pc = .ok (.getfield 124, 3)) (kk : G X (pc + 3) lv (.int (gI σ 46 16) :: st) σ) : G X pc lv (.ref (gA X 46) :: st) σ := r_get C (T := T_Mo) (N := 26) (ci := 6) (F := fl_Mo) 16 (by decide) cel_Mo rfl in_Mo (by decide) m_486 rfl d kk
theorem p_Mo_124 {X : gX} {cc : ByteArray} {nL fr lo pc : Nat} {lv : List (Nat × Value)} {st : List Value} {σ σ' : gS} {v : Int32} (C : gC X cc R_Mo nL fr lo) (e : σ' = sI σ 46 16 v) (d : decode cc pc = .ok (.putfield 124, 3)) (kk : G X (pc + 3) lv st σ') : G X pc lv (.int v :: .ref (gA X 46) :: st) σ := r_put C (T := T_Mo) (N := 26) (ci := 6) (F := fl_Mo) ty_Mo ty_Mo_ok nm_Mo 16 (by decide) cel_Mo rfl in_Mo (by decide) m_486 rfl (by decide +kernel) (fun a f => ⟨Nat.le_of_ble_eq_true rfl, rfl⟩) e d kk
theorem p_Mo_127 {X : gX} {cc : ByteArray} {nL fr lo pc : Nat} {lv : List (Nat × Value)} {st : List Value} {σ σ' : gS} {v : Int32} (C : gC X cc R_Mo nL fr lo) (e : σ' = sI σ 46 17 v) (d : decode cc pc = .ok (.putfield 127, 3)) (kk : G X (pc + 3) lv st σ') : G X pc lv (.int v :: .ref (gA X 46) :: st) σ := r_put C (T := T_Mo) (N := 26) (ci := 6) (F := fl_Mo) ty_Mo ty_Mo_ok nm_Mo 17 (by decide) cel_Mo rfl in_Mo (by decide) m_481 rfl (by decide +kernel) (fun a f => ⟨Nat.le_of_ble_eq_true rfl, rfl⟩) e d kk
theorem q_Mo_53 {X : gX} {cc : ByteArray} {nL fr lo pc : Nat} {lv : List (Nat × Value)} {st : List Value} {σ : gS} (C : gC X cc R_Mo nL fr lo) (d : decode cc pc = .ok (.getfield 53, 3)) (kk : G X (pc + 3) lv (.ref (gA X 61) :: st) σ) : G X pc lv (.ref (gA X 46) :: st) σ := r_get C (T := T_Mo) (N := 26) (ci := 6) (F := fl_Mo) 18 (by decide) cel_Mo rfl in_Mo (by decide) m_508 rfl d kk
theorem p_Mo_166 {X : gX} {cc : ByteArray} {nL fr lo pc : Nat} {lv : List (Nat × Value)} {st : List Value} {σ σ' : gS} {v : Int32} (C : gC X cc R_Mo nL fr lo) (e : σ' = sI σ 46 19 v) (d : decode cc pc = .ok (.putfield 166, 3)) (kk : G X (pc + 3) lv st σ') : G X pc lv (.int v :: .ref (gA X 46) :: st) σ := r_put C (T := T_Mo) (N := 26) (ci := 6) (F := fl_Mo) ty_Mo ty_Mo_ok nm_Mo 19 (by decide) cel_Mo rfl in_Mo (by decide) m_521 rfl (by decide +kernel) (fun a f => ⟨Nat.le_of_ble_eq_true rfl, rfl⟩) e d kk
theorem q_Mo_166 {X : gX} {cc : ByteArray} {nL fr lo pc : Nat} {lv : List (Nat × Value)} {st : List Value} {σ : gS} (C : gC X cc R_Mo nL fr lo) (d : decode cc pc = .ok (.getfield 166, 3)) (kk : G X (pc + 3) lv (.int (gI σ 46 19) :: st) σ) : G X pc lv (.ref (gA X 46) :: st) σ := r_get C (T := T_Mo) (N := 26) (ci := 6) (F := fl_Mo) 19 (by decide) cel_Mo rfl in_Mo (by decide) m_521 rfl d kk
theorem p_Mo_173 {X : gX} {cc : ByteArray} {nL fr lo pc : Nat} {lv : List (Nat × Value)} {st : List Value} {σ σ' : gS} {v : Int32} (C : gC X cc R_Mo nL fr lo) (e : σ' = sI σ 46 20 v) (d : decode cc pc = .ok (.putfield 173, 3)) (kk : G X (pc + 3) lv st σ') : G X pc lv (.int v :: .ref (gA X 46) :: st) σ := r_put C (T := T_Mo) (N := 26) (ci := 6) (F := fl_Mo) ty_Mo ty_Mo_ok nm_Mo 20 (by decide) cel_Mo rfl in_Mo (by decide) m_530 rfl (by decide +kernel) (fun a f => ⟨Nat.le_of_ble_eq_true rfl, rfl⟩) e d kk
theorem q_Mo_173 {X : gX} {cc : ByteArray} {nL fr lo pc : Nat} {lv : List (Nat × Value)} {st : List Value} {σ : gS} (C : gC X cc R_Mo nL fr lo) (d : decode cc pc = .ok (.getfield 173, 3)) (kk : G X (pc + 3) lv (.int (gI σ 46 20) :: st) σ) : G X pc lv (.ref (gA X 46) :: st) σ := r_get C (T := T_Mo) (N := 26) (ci := 6) (F := fl_Mo) 20 (by decide) cel_Mo rfl in_Mo (by decide) m_530 rfl d kk
theorem q_Mo_56 {X : gX} {cc : ByteArray} {nL fr lo pc : Nat} {lv : List (Nat × Value)} {st : List Value} {σ : gS} (C : gC X cc R_Mo nL fr lo) (d : decode cc pc = .ok (.getfield 56, 3)) (kk : G X (pc + 3) lv (.ref (gA X 62) :: st) σ) : G X pc lv (.ref (gA X 46) :: st) σ := r_get C (T := T_Mo) (N := 26) (ci := 6) (F := fl_Mo) 21 (by decide) cel_Mo rfl in_Mo (by decide) m_535 rfl d kk
theorem q_Mo_59 {X : gX} {cc : ByteArray} {nL fr lo pc : Nat} {lv : List (Nat × Value)} {st : List Value} {σ : gS} (C : gC X cc R_Mo nL fr lo) (d : decode cc pc = .ok (.getfield 59, 3)) (kk : G X (pc + 3) lv (.ref (gA X 63) :: st) σ) : G X pc lv (.ref (gA X 46) :: st) σ := r_get C (T := T_Mo) (N := 26) (ci := 6) (F := fl_Mo) 22 (by decide) cel_Mo rfl in_Mo (by decide) m_536 rfl d kk
theorem q_Mo_62 {X : gX} {cc : ByteArray} {nL fr lo pc : Nat} {lv : List (Nat × Value)} {st : List Value} {σ : gS} (C : gC X cc R_Mo nL fr lo) (d : decode cc pc = .ok (.getfield 62, 3)) (kk : G X (pc + 3) lv (.ref (gA X 64) :: st) σ) : G X pc lv (.ref (gA X 46) :: st) σ := r_get C (T := T_Mo) (N := 26) (ci := 6) (F := fl_Mo) 23 (by decide) cel_Mo rfl in_Mo (by decide) m_557 rfl d kk
theorem q_Mo_68 {X : gX} {cc : ByteArray} {nL fr lo pc : Nat} {lv : List (Nat × Value)} {st : List Value} {σ : gS} (C : gC X cc R_Mo nL fr lo) (d : decode cc pc = .ok (.getfield 68, 3)) (kk : G X (pc + 3) lv (.ref (gA X 66) :: st) σ) : G X pc lv (.ref (gA X 46) :: st) σ := r_get C (T := T_Mo) (N := 26) (ci := 6) (F := fl_Mo) 25 (by decide) cel_Mo rfl in_Mo (by decide) m_576 rfl d kk
theorem q_Mo_65 {X : gX} {cc : ByteArray} {nL fr lo pc : Nat} {lv : List (Nat × Value)} {st : List Value} {σ : gS} (C : gC X cc R_Mo nL fr lo) (d : decode cc pc = .ok (.getfield 65, 3)) (kk : G X (pc + 3) lv (.ref (gA X 65) :: st) σ) : G X pc lv (.ref (gA X 46) :: st) σ := r_get C (T := T_Mo) (N := 26) (ci := 6) (F := fl_Mo) 24 (by decide) cel_Mo rfl in_Mo (by decide) m_577 rfl d kk
theorem k_Fo_dropAll : gCalV y_Fo_dropAll b_Fo_dropAll_c 2 (some .int) 0 := ⟨m_7, m_8, m_5, m_6, by decide +kernel, by decide +kernel, by decide +kernel⟩
theorem k_Ga_isPlayer : gCalS y_Ga_isPlayer b_Ga_isPlayer_c 1 (some .boolean) 1 := ⟨m_15, m_13, m_14, by decide +kernel, by decide +kernel, by decide +kernel⟩
theorem k_Ga_isAmong : gCalS y_Ga_isAmong b_Ga_isAmong_c 3 (some .boolean) 3 := ⟨m_18, m_13, m_17, by decide +kernel, by decide +kernel, by decide +kernel⟩
theorem k_Fo_addSet : gCalV y_Fo_addSet b_Fo_addSet_c 3 (some .int) 2 := ⟨m_21, m_22, m_5, m_20, by decide +kernel, by decide +kernel, by decide +kernel⟩
theorem k_Fo_startNode : gCalV y_Fo_startNode b_Fo_startNode_c 5 (some .int) 2 := ⟨m_31, m_32, m_5, m_30, by decide +kernel, by decide +kernel, by decide +kernel⟩
theorem k_Fo_addEnd : gCalV y_Fo_addEnd b_Fo_addEnd_c 4 (some .int) 2 := ⟨m_39, m_40, m_5, m_38, by decide +kernel, by decide +kernel, by decide +kernel⟩
theorem k_Fo_hasNode : gCalV y_Fo_hasNode b_Fo_hasNode_c 2 (some .boolean) 1 := ⟨m_44, m_45, m_5, m_43, by decide +kernel, by decide +kernel, by decide +kernel⟩
theorem k_Ma_max : gCalS y_Ma_max b_Ma_max_c 2 (some .int) 2 := ⟨m_49, m_47, m_48, by decide +kernel, by decide +kernel, by decide +kernel⟩
theorem n_Fo_106 : (R_Fo, 106, y_Ga_hasBit, "GameRows") ∈ gNwM := List.mem_of_getElem? (i := 1) rfl
theorem k_Ga_hasBit : gCalS y_Ga_hasBit b_Ga_hasBit_c 3 (some .boolean) 2 := ⟨m_51, m_13, m_50, by decide +kernel, by decide +kernel, by decide +kernel⟩
theorem k_Fo_adoptOffered : gCalV y_Fo_adoptOffered b_Fo_adoptOffered_c 4 none 2 := ⟨m_54, m_55, m_5, m_53, by decide +kernel, by decide +kernel, by decide +kernel⟩
theorem k_Fo_plansWith : gCalV y_Fo_plansWith b_Fo_plansWith_c 5 (some .int) 2 := ⟨m_58, m_59, m_5, m_57, by decide +kernel, by decide +kernel, by decide +kernel⟩
theorem k_Fo_setsOffered : gCalV y_Fo_setsOffered b_Fo_setsOffered_c 4 (some .int) 1 := ⟨m_62, m_63, m_5, m_61, by decide +kernel, by decide +kernel, by decide +kernel⟩
theorem k_Fo_areOfferedThere : gCalV y_Fo_areOfferedThere b_Fo_areOfferedThere_c 3 (some .boolean) 1 := ⟨m_66, m_67, m_5, m_65, by decide +kernel, by decide +kernel, by decide +kernel⟩
theorem k_Fo_isOfferedTaken : gCalV y_Fo_isOfferedTaken b_Fo_isOfferedTaken_c 4 (some .boolean) 1 := ⟨m_70, m_71, m_5, m_69, by decide +kernel, by decide +kernel, by decide +kernel⟩
theorem k_Fo_greatestOffered : gCalV y_Fo_greatestOffered b_Fo_greatestOffered_c 5 (some .int) 2 := ⟨m_74, m_75, m_5, m_73, by decide +kernel, by decide +kernel, by decide +kernel⟩
theorem k_Fo_offer : gCalV y_Fo_offer b_Fo_offer_c 4 none 3 := ⟨m_78, m_79, m_5, m_77, by decide +kernel, by decide +kernel, by decide +kernel⟩
theorem k_Fo_addParent : gCalV y_Fo_addParent b_Fo_addParent_c 7 (some .int) 2 := ⟨m_82, m_83, m_5, m_81, by decide +kernel, by decide +kernel, by decide +kernel⟩
theorem k_Fo_hasSet : gCalV y_Fo_hasSet b_Fo_hasSet_c 2 (some .boolean) 1 := ⟨m_86, m_87, m_5, m_85, by decide +kernel, by decide +kernel, by decide +kernel⟩
theorem k_Fo_root : gCalV y_Fo_root b_Fo_root_c 1 (some .int) 0 := ⟨m_92, m_93, m_5, m_91, by decide +kernel, by decide +kernel, by decide +kernel⟩
theorem k_Fo_setsInTree : gCalV y_Fo_setsInTree b_Fo_setsInTree_c 1 (some .int) 0 := ⟨m_99, m_100, m_5, m_98, by decide +kernel, by decide +kernel, by decide +kernel⟩
theorem k_Fo_nodesInTree : gCalV y_Fo_nodesInTree b_Fo_nodesInTree_c 1 (some .long) 0 := ⟨m_104, m_105, m_5, m_103, by decide +kernel, by decide +kernel, by decide +kernel⟩
theorem k_Fo_isGameWithin : gCalV y_Fo_isGameWithin b_Fo_isGameWithin_c 5 (some .boolean) 1 := ⟨m_109, m_110, m_5, m_108, by decide +kernel, by decide +kernel, by decide +kernel⟩
theorem k_Fo_childAt : gCalV y_Fo_childAt b_Fo_childAt_c 3 (some .int) 2 := ⟨m_115, m_116, m_5, m_114, by decide +kernel, by decide +kernel, by decide +kernel⟩
theorem k_Ta_shareAmongAll : gCalV y_Ta_shareAmongAll b_Ta_shareAmongAll_c 5 none 2 := ⟨m_125, m_126, m_123, m_124, by decide +kernel, by decide +kernel, by decide +kernel⟩
theorem k_Fo_worthAt : gCalV y_Fo_worthAt b_Fo_worthAt_c 3 (some .int) 2 := ⟨m_129, m_130, m_5, m_128, by decide +kernel, by decide +kernel, by decide +kernel⟩
theorem k_Fo_isPlayedFrom : gCalV y_Fo_isPlayedFrom b_Fo_isPlayedFrom_c 4 (some .boolean) 3 := ⟨m_133, m_134, m_5, m_132, by decide +kernel, by decide +kernel, by decide +kernel⟩
theorem k_Fo_stepPlan : gCalV y_Fo_stepPlan b_Fo_stepPlan_c 5 none 3 := ⟨m_138, m_139, m_5, m_137, by decide +kernel, by decide +kernel, by decide +kernel⟩
theorem k_Ta_weighPair : gCalV y_Ta_weighPair b_Ta_weighPair_c 7 none 2 := ⟨m_142, m_143, m_123, m_141, by decide +kernel, by decide +kernel, by decide +kernel⟩
theorem k_Fo_plansFrom : gCalV y_Fo_plansFrom b_Fo_plansFrom_c 3 (some .int) 2 := ⟨m_149, m_150, m_5, m_148, by decide +kernel, by decide +kernel, by decide +kernel⟩
theorem k_Ar_fillI : gCalS y_Ar_fillI b_Ar_fillI_c 4 none 2 := ⟨m_154, m_152, m_153, by decide +kernel, by decide +kernel, by decide +kernel⟩
theorem k_Fo_planFrom : gCalV y_Fo_planFrom b_Fo_planFrom_c 8 (some .int) 3 := ⟨m_159, m_160, m_5, m_158, by decide +kernel, by decide +kernel, by decide +kernel⟩
theorem k_Fo_plansOf : gCalV y_Fo_plansOf b_Fo_plansOf_c 2 (some .int) 1 := ⟨m_163, m_164, m_5, m_162, by decide +kernel, by decide +kernel, by decide +kernel⟩
theorem k_Ta_value : gCalV y_Ta_value b_Ta_value_c 4 (some .int) 3 := ⟨m_167, m_168, m_123, m_166, by decide +kernel, by decide +kernel, by decide +kernel⟩
theorem n_Po_118 : (R_Po, 118, y_Ga_otherThan, "GameRows") ∈ gNwM := List.mem_of_getElem? (i := 8) rfl
theorem k_Ga_otherThan : gCalS y_Ga_otherThan b_Ga_otherThan_c 1 (some .int) 1 := ⟨m_172, m_13, m_171, by decide +kernel, by decide +kernel, by decide +kernel⟩
theorem k_Ta_bestAgainst : gCalV y_Ta_bestAgainst b_Ta_bestAgainst_c 5 (some .int) 2 := ⟨m_176, m_177, m_123, m_175, by decide +kernel, by decide +kernel, by decide +kernel⟩
theorem n_Po_71 : (R_Po, 71, y_Ga_hasBit, "GameRows") ∈ gNwM := List.mem_of_getElem? (i := 6) rfl
theorem k_Po_isPoint : gCalV y_Po_isPoint b_Po_isPoint_c 3 (some .boolean) 2 := ⟨m_182, m_183, m_180, m_181, by decide +kernel, by decide +kernel, by decide +kernel⟩
theorem k_Ta_fillFrom : gCalV y_Ta_fillFrom b_Ta_fillFrom_c 4 none 1 := ⟨m_187, m_188, m_123, m_186, by decide +kernel, by decide +kernel, by decide +kernel⟩
theorem k_Po_findInner : gCalV y_Po_findInner b_Po_findInner_c 5 (some .int) 2 := ⟨m_191, m_192, m_180, m_190, by decide +kernel, by decide +kernel, by decide +kernel⟩
theorem k_Po_findBest : gCalV y_Po_findBest b_Po_findBest_c 3 none 1 := ⟨m_195, m_196, m_180, m_194, by decide +kernel, by decide +kernel, by decide +kernel⟩
theorem k_Po_keepPoints : gCalV y_Po_keepPoints b_Po_keepPoints_c 7 none 2 := ⟨m_201, m_202, m_180, m_200, by decide +kernel, by decide +kernel, by decide +kernel⟩
theorem k_Po_placeOf : gCalS y_Po_placeOf b_Po_placeOf_c 1 (some .int) 1 := ⟨m_205, m_180, m_204, by decide +kernel, by decide +kernel, by decide +kernel⟩
theorem n_Po_50 : (R_Po, 50, y_Ga_firstBits, "GameRows") ∈ gNwM := List.mem_of_getElem? (i := 5) rfl
theorem k_Ga_firstBits : gCalS y_Ga_firstBits b_Ga_firstBits_c 1 (some .long) 1 := ⟨m_209, m_13, m_208, by decide +kernel, by decide +kernel, by decide +kernel⟩
theorem k_Ar_fillJ : gCalS y_Ar_fillJ b_Ar_fillJ_c 5 none 2 := ⟨m_212, m_152, m_211, by decide +kernel, by decide +kernel, by decide +kernel⟩
theorem k_Fo_gamesWithin : gCalV y_Fo_gamesWithin b_Fo_gamesWithin_c 4 (some .long) 0 := ⟨m_216, m_217, m_5, m_215, by decide +kernel, by decide +kernel, by decide +kernel⟩
theorem k_Lo_bitCount : gCalS y_Lo_bitCount b_Lo_bitCount_c 2 (some .int) 1 := ⟨m_221, m_219, m_220, by decide +kernel, by decide +kernel, by decide +kernel⟩
theorem n_Ta_98 : (R_Ta, 98, y_Ga_otherThan, "GameRows") ∈ gNwM := List.mem_of_getElem? (i := 9) rfl
theorem n_Ta_113 : (R_Ta, 113, y_Ga_hasBit, "GameRows") ∈ gNwM := List.mem_of_getElem? (i := 11) rfl
theorem k_Ta_isWorse : gCalV y_Ta_isWorse b_Ta_isWorse_c 7 (some .boolean) 4 := ⟨m_226, m_227, m_123, m_225, by decide +kernel, by decide +kernel, by decide +kernel⟩
theorem n_Le_66 : (R_Le, 66, y_Ga_hasBit, "GameRows") ∈ gNwM := List.mem_of_getElem? (i := 3) rfl
theorem n_Le_70 : (R_Le, 70, y_Ga_otherThan, "GameRows") ∈ gNwM := List.mem_of_getElem? (i := 4) rfl
theorem k_Ta_leastBetterAmong : gCalV y_Ta_leastBetterAmong b_Ta_leastBetterAmong_c 8 (some .int) 4 := ⟨m_233, m_234, m_123, m_232, by decide +kernel, by decide +kernel, by decide +kernel⟩
theorem k_Le_takeAway : gCalV y_Le_takeAway b_Le_takeAway_c 6 none 3 := ⟨m_240, m_241, m_238, m_239, by decide +kernel, by decide +kernel, by decide +kernel⟩
theorem k_Le_thoseThatGo : gCalV y_Le_thoseThatGo b_Le_thoseThatGo_c 5 (some .long) 1 := ⟨m_244, m_245, m_238, m_243, by decide +kernel, by decide +kernel, by decide +kernel⟩
theorem n_Le_55 : (R_Le, 55, y_Ga_firstBits, "GameRows") ∈ gNwM := List.mem_of_getElem? (i := 2) rfl
theorem k_Fo_depthOfTree : gCalV y_Fo_depthOfTree b_Fo_depthOfTree_c 1 (some .int) 0 := ⟨m_253, m_254, m_5, m_252, by decide +kernel, by decide +kernel, by decide +kernel⟩
theorem k_Po_find : gCalV y_Po_find b_Po_find_c 6 none 1 := ⟨m_262, m_263, m_180, m_261, by decide +kernel, by decide +kernel, by decide +kernel⟩
theorem k_Po_howMany : gCalV y_Po_howMany b_Po_howMany_c 6 (some .int) 1 := ⟨m_266, m_267, m_180, m_265, by decide +kernel, by decide +kernel, by decide +kernel⟩
theorem k_Ta_fillWhole : gCalV y_Ta_fillWhole b_Ta_fillWhole_c 1 none 0 := ⟨m_272, m_273, m_123, m_271, by decide +kernel, by decide +kernel, by decide +kernel⟩
theorem k_Le_playAll : gCalV y_Le_playAll b_Le_playAll_c 6 none 0 := ⟨m_277, m_278, m_238, m_276, by decide +kernel, by decide +kernel, by decide +kernel⟩
theorem k_Le_pairsLeft : gCalV y_Le_pairsLeft b_Le_pairsLeft_c 1 (some .int) 0 := ⟨m_281, m_282, m_238, m_280, by decide +kernel, by decide +kernel, by decide +kernel⟩
theorem k_Ga_isEmpty : gCalV y_Ga_isEmpty b_Ga_isEmpty_c 1 (some .boolean) 0 := ⟨m_285, m_286, m_13, m_284, by decide +kernel, by decide +kernel, by decide +kernel⟩
theorem k_Ga_isPlan : gCalV y_Ga_isPlan b_Ga_isPlan_c 3 (some .boolean) 2 := ⟨m_296, m_297, m_13, m_295, by decide +kernel, by decide +kernel, by decide +kernel⟩
theorem k_Fo_actNamed : gCalV y_Fo_actNamed b_Fo_actNamed_c 6 (some .int) 3 := ⟨m_300, m_301, m_5, m_299, by decide +kernel, by decide +kernel, by decide +kernel⟩
theorem k_Ta_valueOfPair : gCalV y_Ta_valueOfPair b_Ta_valueOfPair_c 4 (some .int) 3 := ⟨m_304, m_305, m_123, m_303, by decide +kernel, by decide +kernel, by decide +kernel⟩
theorem n_Po_85 : (R_Po, 85, y_Ga_bitAt, "GameRows") ∈ gNwM := List.mem_of_getElem? (i := 7) rfl
theorem k_Ga_bitAt : gCalS y_Ga_bitAt b_Ga_bitAt_c 5 (some .int) 2 := ⟨m_310, m_13, m_309, by decide +kernel, by decide +kernel, by decide +kernel⟩
theorem k_Po_pointAt : gCalV y_Po_pointAt b_Po_pointAt_c 8 (some .int) 2 := ⟨m_313, m_314, m_180, m_312, by decide +kernel, by decide +kernel, by decide +kernel⟩
theorem k_Ta_areOne : gCalV y_Ta_areOne b_Ta_areOne_c 7 (some .boolean) 3 := ⟨m_318, m_319, m_123, m_317, by decide +kernel, by decide +kernel, by decide +kernel⟩
theorem n_Ta_105 : (R_Ta, 105, y_Ga_firstBits, "GameRows") ∈ gNwM := List.mem_of_getElem? (i := 10) rfl
theorem k_Ta_isWeaklyWorse : gCalV y_Ta_isWeaklyWorse b_Ta_isWeaklyWorse_c 8 (some .boolean) 3 := ⟨m_323, m_324, m_123, m_322, by decide +kernel, by decide +kernel, by decide +kernel⟩
theorem k_Ta_leastWeaklyBetter : gCalV y_Ta_leastWeaklyBetter b_Ta_leastWeaklyBetter_c 4 (some .int) 2 := ⟨m_327, m_328, m_123, m_326, by decide +kernel, by decide +kernel, by decide +kernel⟩
theorem k_Ta_leastBetter : gCalV y_Ta_leastBetter b_Ta_leastBetter_c 3 (some .int) 2 := ⟨m_331, m_332, m_123, m_330, by decide +kernel, by decide +kernel, by decide +kernel⟩
theorem k_Ta_leastOneWith : gCalV y_Ta_leastOneWith b_Ta_leastOneWith_c 4 (some .int) 2 := ⟨m_335, m_336, m_123, m_334, by decide +kernel, by decide +kernel, by decide +kernel⟩
theorem k_Le_roundOf : gCalV y_Le_roundOf b_Le_roundOf_c 3 (some .int) 2 := ⟨m_339, m_340, m_238, m_338, by decide +kernel, by decide +kernel, by decide +kernel⟩
theorem k_Ma_min : gCalS y_Ma_min b_Ma_min_c 2 (some .int) 2 := ⟨m_343, m_47, m_342, by decide +kernel, by decide +kernel, by decide +kernel⟩
theorem k_Ta_leastOf : gCalV y_Ta_leastOf b_Ta_leastOf_c 5 (some .int) 2 := ⟨m_346, m_347, m_123, m_345, by decide +kernel, by decide +kernel, by decide +kernel⟩
theorem k_Ta_sureOf : gCalV y_Ta_sureOf b_Ta_sureOf_c 4 (some .int) 1 := ⟨m_351, m_352, m_123, m_350, by decide +kernel, by decide +kernel, by decide +kernel⟩
theorem k_Fo_actTo : gCalV y_Fo_actTo b_Fo_actTo_c 5 (some .int) 2 := ⟨m_357, m_358, m_5, m_356, by decide +kernel, by decide +kernel, by decide +kernel⟩
theorem k_Fo_wayTo : gCalV y_Fo_wayTo b_Fo_wayTo_c 9 (some .long) 2 := ⟨m_361, m_362, m_5, m_360, by decide +kernel, by decide +kernel, by decide +kernel⟩
theorem k_Fo_areWaysAlike : gCalV y_Fo_areWaysAlike b_Fo_areWaysAlike_c 10 (some .boolean) 2 := ⟨m_365, m_366, m_5, m_364, by decide +kernel, by decide +kernel, by decide +kernel⟩
theorem k_Fo_remembersAll : gCalV y_Fo_remembersAll b_Fo_remembersAll_c 3 (some .boolean) 1 := ⟨m_369, m_370, m_5, m_368, by decide +kernel, by decide +kernel, by decide +kernel⟩
theorem k_An_leastOfGreatest : gCalV y_An_leastOfGreatest b_An_leastOfGreatest_c 4 (some .int) 1 := ⟨m_381, m_382, m_379, m_380, by decide +kernel, by decide +kernel, by decide +kernel⟩
theorem k_An_addUp : gCalV y_An_addUp b_An_addUp_c 4 none 2 := ⟨m_385, m_386, m_379, m_384, by decide +kernel, by decide +kernel, by decide +kernel⟩
theorem k_An_playTo : gCalV y_An_playTo b_An_playTo_c 3 none 1 := ⟨m_394, m_395, m_379, m_393, by decide +kernel, by decide +kernel, by decide +kernel⟩
theorem k_An_timesTaken : gCalV y_An_timesTaken b_An_timesTaken_c 6 (some .int) 3 := ⟨m_398, m_399, m_379, m_397, by decide +kernel, by decide +kernel, by decide +kernel⟩
theorem k_An_sumAgainst : gCalV y_An_sumAgainst b_An_sumAgainst_c 5 (some .int) 2 := ⟨m_403, m_404, m_379, m_402, by decide +kernel, by decide +kernel, by decide +kernel⟩
theorem k_An_sumFor : gCalV y_An_sumFor b_An_sumFor_c 5 (some .int) 2 := ⟨m_408, m_409, m_379, m_407, by decide +kernel, by decide +kernel, by decide +kernel⟩
theorem k_An_highBehind : gCalV y_An_highBehind b_An_highBehind_c 4 (some .int) 1 := ⟨m_412, m_413, m_379, m_411, by decide +kernel, by decide +kernel, by decide +kernel⟩
theorem k_An_lowBehind : gCalV y_An_lowBehind b_An_lowBehind_c 4 (some .int) 1 := ⟨m_416, m_417, m_379, m_415, by decide +kernel, by decide +kernel, by decide +kernel⟩
theorem k_Mo_isFrom : gCalS y_Mo_isFrom b_Mo_isFrom_c 3 (some .boolean) 3 := ⟨m_423, m_421, m_422, by decide +kernel, by decide +kernel, by decide +kernel⟩
theorem k_Mo_make : gCalV y_Mo_make b_Mo_make_c 3 (some .int) 1 := ⟨m_435, m_436, m_421, m_434, by decide +kernel, by decide +kernel, by decide +kernel⟩
theorem k_Mo_third : gCalS y_Mo_third b_Mo_third_c 4 (some .int) 4 := ⟨m_439, m_421, m_438, by decide +kernel, by decide +kernel, by decide +kernel⟩
theorem k_Mo_findTree : gCalV y_Mo_findTree b_Mo_findTree_c 2 none 0 := ⟨m_444, m_445, m_421, m_443, by decide +kernel, by decide +kernel, by decide +kernel⟩
theorem k_Mo_plansOf : gCalV y_Mo_plansOf b_Mo_plansOf_c 4 (some .int) 1 := ⟨m_448, m_449, m_421, m_447, by decide +kernel, by decide +kernel, by decide +kernel⟩
theorem k_Mo_bar : gCalV y_Mo_bar b_Mo_bar_c 11 (some .int) 5 := ⟨m_452, m_453, m_421, m_451, by decide +kernel, by decide +kernel, by decide +kernel⟩
theorem k_Mo_adopt : gCalV y_Mo_adopt b_Mo_adopt_c 9 none 6 := ⟨m_456, m_457, m_421, m_455, by decide +kernel, by decide +kernel, by decide +kernel⟩
theorem k_Mo_tooMany : gCalV y_Mo_tooMany b_Mo_tooMany_c 1 (some .boolean) 0 := ⟨m_460, m_461, m_421, m_459, by decide +kernel, by decide +kernel, by decide +kernel⟩
theorem k_Mo_undo : gCalV y_Mo_undo b_Mo_undo_c 6 none 4 := ⟨m_464, m_465, m_421, m_463, by decide +kernel, by decide +kernel, by decide +kernel⟩
theorem k_Mo_isNode : gCalV y_Mo_isNode b_Mo_isNode_c 2 (some .boolean) 1 := ⟨m_468, m_469, m_421, m_467, by decide +kernel, by decide +kernel, by decide +kernel⟩
theorem k_Mo_mean : gCalV y_Mo_mean b_Mo_mean_c 6 (some .int) 2 := ⟨m_474, m_475, m_421, m_473, by decide +kernel, by decide +kernel, by decide +kernel⟩
theorem k_Mo_actOf : gCalV y_Mo_actOf b_Mo_actOf_c 6 (some .int) 3 := ⟨m_479, m_480, m_421, m_478, by decide +kernel, by decide +kernel, by decide +kernel⟩
theorem k_Mo_work : gCalV y_Mo_work b_Mo_work_c 6 none 3 := ⟨m_484, m_485, m_421, m_483, by decide +kernel, by decide +kernel, by decide +kernel⟩
theorem k_Mo_worthTo : gCalV y_Mo_worthTo b_Mo_worthTo_c 4 (some .int) 3 := ⟨m_489, m_490, m_421, m_488, by decide +kernel, by decide +kernel, by decide +kernel⟩
theorem k_Mo_root : gCalV y_Mo_root b_Mo_root_c 1 (some .int) 0 := ⟨m_494, m_495, m_421, m_493, by decide +kernel, by decide +kernel, by decide +kernel⟩
theorem k_Mo_workAll : gCalV y_Mo_workAll b_Mo_workAll_c 4 none 1 := ⟨m_498, m_499, m_421, m_497, by decide +kernel, by decide +kernel, by decide +kernel⟩
theorem k_Mo_many : gCalV y_Mo_many b_Mo_many_c 2 (some .int) 1 := ⟨m_502, m_503, m_421, m_501, by decide +kernel, by decide +kernel, by decide +kernel⟩
theorem k_Mo_answerOf : gCalV y_Mo_answerOf b_Mo_answerOf_c 5 (some .int) 2 := ⟨m_506, m_507, m_421, m_505, by decide +kernel, by decide +kernel, by decide +kernel⟩
theorem k_Mo_isBelow : gCalV y_Mo_isBelow b_Mo_isBelow_c 4 (some .boolean) 2 := ⟨m_511, m_512, m_421, m_510, by decide +kernel, by decide +kernel, by decide +kernel⟩
theorem k_Mo_isGame : gCalV y_Mo_isGame b_Mo_isGame_c 6 (some .boolean) 1 := ⟨m_515, m_516, m_421, m_514, by decide +kernel, by decide +kernel, by decide +kernel⟩
theorem k_Mo_sift : gCalV y_Mo_sift b_Mo_sift_c 4 none 0 := ⟨m_519, m_520, m_421, m_518, by decide +kernel, by decide +kernel, by decide +kernel⟩
theorem k_Mo_findPoints : gCalV y_Mo_findPoints b_Mo_findPoints_c 3 none 1 := ⟨m_524, m_525, m_421, m_523, by decide +kernel, by decide +kernel, by decide +kernel⟩
theorem k_Mo_countPoints : gCalV y_Mo_countPoints b_Mo_countPoints_c 6 (some .int) 2 := ⟨m_528, m_529, m_421, m_527, by decide +kernel, by decide +kernel, by decide +kernel⟩
theorem k_Mo_games : gCalV y_Mo_games b_Mo_games_c 4 (some .int) 1 := ⟨m_533, m_534, m_421, m_532, by decide +kernel, by decide +kernel, by decide +kernel⟩
theorem k_Mo_isLeft : gCalV y_Mo_isLeft b_Mo_isLeft_c 3 (some .boolean) 2 := ⟨m_539, m_540, m_421, m_538, by decide +kernel, by decide +kernel, by decide +kernel⟩
theorem k_Mo_isOne : gCalV y_Mo_isOne b_Mo_isOne_c 8 (some .boolean) 3 := ⟨m_543, m_544, m_421, m_542, by decide +kernel, by decide +kernel, by decide +kernel⟩
theorem k_Mo_isWeaker : gCalV y_Mo_isWeaker b_Mo_isWeaker_c 7 (some .boolean) 3 := ⟨m_547, m_548, m_421, m_546, by decide +kernel, by decide +kernel, by decide +kernel⟩
theorem k_Mo_isWorse : gCalV y_Mo_isWorse b_Mo_isWorse_c 6 (some .boolean) 3 := ⟨m_551, m_552, m_421, m_550, by decide +kernel, by decide +kernel, by decide +kernel⟩
theorem k_Mo_allLeft : gCalV y_Mo_allLeft b_Mo_allLeft_c 2 none 0 := ⟨m_555, m_556, m_421, m_554, by decide +kernel, by decide +kernel, by decide +kernel⟩
theorem k_Mo_isWorst : gCalV y_Mo_isWorst b_Mo_isWorst_c 5 (some .boolean) 2 := ⟨m_560, m_561, m_421, m_559, by decide +kernel, by decide +kernel, by decide +kernel⟩
theorem k_Mo_leftOf : gCalV y_Mo_leftOf b_Mo_leftOf_c 4 (some .int) 1 := ⟨m_564, m_565, m_421, m_563, by decide +kernel, by decide +kernel, by decide +kernel⟩
theorem k_Mo_doRounds : gCalV y_Mo_doRounds b_Mo_doRounds_c 4 (some .int) 0 := ⟨m_568, m_569, m_421, m_567, by decide +kernel, by decide +kernel, by decide +kernel⟩
theorem k_Mo_memory : gCalV y_Mo_memory b_Mo_memory_c 8 (some .long) 2 := ⟨m_574, m_575, m_421, m_573, by decide +kernel, by decide +kernel, by decide +kernel⟩
theorem k_Mo_bestOf : gCalV y_Mo_bestOf b_Mo_bestOf_c 4 (some .int) 1 := ⟨m_580, m_581, m_421, m_579, by decide +kernel, by decide +kernel, by decide +kernel⟩
theorem k_Mo_take : gCalV y_Mo_take b_Mo_take_c 4 none 2 := ⟨m_584, m_585, m_421, m_583, by decide +kernel, by decide +kernel, by decide +kernel⟩
theorem k_Mo_answerAll : gCalV y_Mo_answerAll b_Mo_answerAll_c 5 none 1 := ⟨m_588, m_589, m_421, m_587, by decide +kernel, by decide +kernel, by decide +kernel⟩
theorem o_18 {X : gX} {cc : ByteArray} {own : String} {nL fr lo pc : Nat} {lv : List (Nat × Value)} {st : List Value} {σ : gS} {i : Int32} {k' : Nat} (C : gC X cc own nL fr lo) (hi : inb i 2 = true) (hk' : 18 + 1 + i.toNatClampNeg = k') (d : decode cc pc = .ok (.aaload, 1)) (kk : G X (pc + 1) lv (.ref (gA X k') :: st) σ) : G X pc lv (.int i :: .ref (gA X 18) :: st) σ := r_aald C (k := 18) (n := 2) (t := 2) (ty := .int) (by decide) (fun _ _ _ _ => rfl) (fun _ => rfl) hi hk' d kk
theorem o_24 {X : gX} {cc : ByteArray} {own : String} {nL fr lo pc : Nat} {lv : List (Nat × Value)} {st : List Value} {σ : gS} {i : Int32} {k' : Nat} (C : gC X cc own nL fr lo) (hi : inb i 2 = true) (hk' : 24 + 1 + i.toNatClampNeg = k') (d : decode cc pc = .ok (.aaload, 1)) (kk : G X (pc + 1) lv (.ref (gA X k') :: st) σ) : G X pc lv (.int i :: .ref (gA X 24) :: st) σ := r_aald C (k := 24) (n := 2) (t := 3) (ty := .long) (by decide) (fun _ _ _ _ => rfl) (fun _ => rfl) hi hk' d kk
theorem o_28 {X : gX} {cc : ByteArray} {own : String} {nL fr lo pc : Nat} {lv : List (Nat × Value)} {st : List Value} {σ : gS} {i : Int32} {k' : Nat} (C : gC X cc own nL fr lo) (hi : inb i 2 = true) (hk' : 28 + 1 + i.toNatClampNeg = k') (d : decode cc pc = .ok (.aaload, 1)) (kk : G X (pc + 1) lv (.ref (gA X k') :: st) σ) : G X pc lv (.int i :: .ref (gA X 28) :: st) σ := r_aald C (k := 28) (n := 2) (t := 2) (ty := .int) (by decide) (fun _ _ _ _ => rfl) (fun _ => rfl) hi hk' d kk
theorem o_31 {X : gX} {cc : ByteArray} {own : String} {nL fr lo pc : Nat} {lv : List (Nat × Value)} {st : List Value} {σ : gS} {i : Int32} {k' : Nat} (C : gC X cc own nL fr lo) (hi : inb i 2 = true) (hk' : 31 + 1 + i.toNatClampNeg = k') (d : decode cc pc = .ok (.aaload, 1)) (kk : G X (pc + 1) lv (.ref (gA X k') :: st) σ) : G X pc lv (.int i :: .ref (gA X 31) :: st) σ := r_aald C (k := 31) (n := 2) (t := 2) (ty := .int) (by decide) (fun _ _ _ _ => rfl) (fun _ => rfl) hi hk' d kk
theorem o_35 {X : gX} {cc : ByteArray} {own : String} {nL fr lo pc : Nat} {lv : List (Nat × Value)} {st : List Value} {σ : gS} {i : Int32} {k' : Nat} (C : gC X cc own nL fr lo) (hi : inb i 2 = true) (hk' : 35 + 1 + i.toNatClampNeg = k') (d : decode cc pc = .ok (.aaload, 1)) (kk : G X (pc + 1) lv (.ref (gA X k') :: st) σ) : G X pc lv (.int i :: .ref (gA X 35) :: st) σ := r_aald C (k := 35) (n := 2) (t := 2) (ty := .int) (by decide) (fun _ _ _ _ => rfl) (fun _ => rfl) hi hk' d kk
theorem o_40 {X : gX} {cc : ByteArray} {own : String} {nL fr lo pc : Nat} {lv : List (Nat × Value)} {st : List Value} {σ : gS} {i : Int32} {k' : Nat} (C : gC X cc own nL fr lo) (hi : inb i 2 = true) (hk' : 40 + 1 + i.toNatClampNeg = k') (d : decode cc pc = .ok (.aaload, 1)) (kk : G X (pc + 1) lv (.ref (gA X k') :: st) σ) : G X pc lv (.int i :: .ref (gA X 40) :: st) σ := r_aald C (k := 40) (n := 2) (t := 2) (ty := .int) (by decide) (fun _ _ _ _ => rfl) (fun _ => rfl) hi hk' d kk
theorem o_43 {X : gX} {cc : ByteArray} {own : String} {nL fr lo pc : Nat} {lv : List (Nat × Value)} {st : List Value} {σ : gS} {i : Int32} {k' : Nat} (C : gC X cc own nL fr lo) (hi : inb i 2 = true) (hk' : 43 + 1 + i.toNatClampNeg = k') (d : decode cc pc = .ok (.aaload, 1)) (kk : G X (pc + 1) lv (.ref (gA X k') :: st) σ) : G X pc lv (.int i :: .ref (gA X 43) :: st) σ := r_aald C (k := 43) (n := 2) (t := 2) (ty := .int) (by decide) (fun _ _ _ _ => rfl) (fun _ => rfl) hi hk' d kk
end
section
def b_Fo_dropAll_0 (σ : gS) : Option (Int32 × gS) :=
  bnd (gI σ 1 0) fun x1_1 =>
  bnd (sI σ 1 0 0) fun σ_2 =>
  bnd (sI σ_2 1 1 0) fun σ_3 =>
  bnd (sI σ_3 1 2 ((gI σ_3 1 2) + 1)) fun σ_4 =>
  some (x1_1, σ_4)
def f_Fo_dropAll (σ : gS) : Option (Int32 × gS) := b_Fo_dropAll_0 σ
def b_Ga_clear_0 (σ : gS) : Option (Int32 × gS) :=
  (f_Fo_dropAll σ).bind fun r_1 =>
  some (r_1.1, r_1.2)
def f_Ga_clear (σ : gS) : Option (Int32 × gS) := b_Ga_clear_0 σ
def b_Ga_isPlayer_0 (x0 : Int32) : Option Int32 :=
  if x0 = 0 then (
    ck (isB 1) <| some 1
  ) else (
    if x0 = 1 then (
      ck (isB 1) <| some 1
    ) else (
      ck (isB 0) <| some 0
    )
  )
def f_Ga_isPlayer (x0 : Int32) : Option Int32 := b_Ga_isPlayer_0 x0
def b_Ga_isAmong_0 (x0 : Int32) (x1 : Int32) (x2 : Int32) : Option Int32 :=
  if x0 < x1 then (
    ck (isB 0) <| some 0
  ) else (
    if x2 < x0 then (
      ck (isB 0) <| some 0
    ) else (
      ck (isB 1) <| some 1
    )
  )
def f_Ga_isAmong (x0 : Int32) (x1 : Int32) (x2 : Int32) : Option Int32 := b_Ga_isAmong_0 x0 x1 x2
def b_Fo_addSet_0 (x1 : Int32) (x2 : Int32) (σ : gS) : Option (Int32 × gS) :=
  if (gI σ 1 1) < 10 then (
    ck (okI 13 (gI σ 1 1)) <|
    bnd (sI σ 13 (gI σ 1 1).toNatClampNeg x1) fun σ_3 =>
    ck (okI 5 (gI σ_3 1 1)) <|
    bnd (sI σ_3 5 (gI σ_3 1 1).toNatClampNeg x2) fun σ_5 =>
    ck (okJ 14 (gI σ_5 1 1)) <|
    bnd (sL σ_5 14 (gI σ_5 1 1).toNatClampNeg 0) fun σ_7 =>
    bnd (sI σ_7 1 1 ((gI σ_7 1 1) + 1)) fun σ_8 =>
    some (gI σ_7 1 1, σ_8)
  ) else (
    some ((-3), σ)
  )
def f_Fo_addSet (σ : gS) (x1 : Int32) (x2 : Int32) : Option (Int32 × gS) := b_Fo_addSet_0 x1 x2 σ
def b_Ga_set_0 (x1 : Int32) (x2 : Int32) (σ : gS) : Option (Int32 × gS) :=
  (f_Ga_isPlayer x1).bind fun r_1 =>
  if r_1 = 0 then (
    some ((-2), σ)
  ) else (
    (f_Ga_isAmong x2 2 3).bind fun r_3 =>
    if r_3 = 0 then (
      some ((-2), σ)
    ) else (
      (f_Fo_addSet σ x1 x2).bind fun r_5 =>
      some (r_5.1, r_5.2)
    )
  )
def f_Ga_set (σ : gS) (x1 : Int32) (x2 : Int32) : Option (Int32 × gS) := b_Ga_set_0 x1 x2 σ
def b_Fo_startNode_62 (k62 : Int32 × Int32 × gS → Option (Int32 × gS)) (x3 : Int32) (x4 : Int32) (σ : gS) : Option (Int32 × gS) :=
  if 3 ≤ x4 then (
    bnd (sI σ 1 0 ((gI σ 1 0) + 1)) fun σ_2 =>
    bnd (sI σ_2 1 2 ((gI σ_2 1 2) + 1)) fun σ_3 =>
    some (x3, σ_3)
  ) else (
    ck (okI 7 ((3 * x3) + x4)) <|
    bnd (sI σ 7 ((3 * x3) + x4).toNatClampNeg (-1)) fun σ_5 =>
    bnd (x4 + 1) fun x4_6 =>
    k62 (x3, x4_6, σ_5)
  )
def l_Fo_startNode_62  : Int32 × Int32 × gS → Option (Int32 × gS) := lpF (fun k x => b_Fo_startNode_62 k x.1 x.2.1 x.2.2) gF
def b_Fo_startNode_59 (x3 : Int32) (σ : gS) : Option (Int32 × gS) :=
  l_Fo_startNode_62 (x3, 0, σ)
def b_Fo_startNode_0 (x1 : Int32) (x2 : Int32) (σ : gS) : Option (Int32 × gS) :=
  bnd (gI σ 1 0) fun x3_1 =>
  ck (okI 2 x3_1) <|
  bnd (sI σ 2 x3_1.toNatClampNeg x1) fun σ_3 =>
  ck (okI 3 x3_1) <|
  bnd (sI σ_3 3 x3_1.toNatClampNeg x2) fun σ_5 =>
  ck (okI 8 x3_1) <|
  bnd (sI σ_5 8 x3_1.toNatClampNeg 0) fun σ_7 =>
  ck (okI 4 x3_1) <|
  bnd (sI σ_7 4 x3_1.toNatClampNeg (-1)) fun σ_9 =>
  ck (okJ 11 x3_1) <|
  bnd (sL σ_9 11 x3_1.toNatClampNeg ((1 : Int64) <<< (x3_1.toInt64 &&& 63))) fun σ_11 =>
  if x2 = (-1) then (
    b_Fo_startNode_59 x3_1 σ_11
  ) else (
    ck (okJ 14 x2) <|
    ck (okJ 14 x2) <|
    bnd (sL σ_11 14 x2.toNatClampNeg ((gL σ_11 14 x2.toNatClampNeg) ||| ((1 : Int64) <<< (x3_1.toInt64 &&& 63)))) fun σ_15 =>
    b_Fo_startNode_59 x3_1 σ_15
  )
def f_Fo_startNode (σ : gS) (x1 : Int32) (x2 : Int32) : Option (Int32 × gS) := b_Fo_startNode_0 x1 x2 σ
def b_Fo_addEnd_0 (x1 : Int32) (x2 : Int32) (σ : gS) : Option (Int32 × gS) :=
  if (gI σ 1 0) < 40 then (
    (f_Fo_startNode σ 0 (-1)).bind fun r_2 =>
    bnd (r_2.1) fun x3_3 =>
    ck (okI 6 (2 * x3_3)) <|
    bnd (sI r_2.2 6 (2 * x3_3).toNatClampNeg x1) fun σ_5 =>
    ck (okI 6 ((2 * x3_3) + 1)) <|
    bnd (sI σ_5 6 ((2 * x3_3) + 1).toNatClampNeg x2) fun σ_7 =>
    ck (okI 9 x3_3) <|
    bnd (sI σ_7 9 x3_3.toNatClampNeg 0) fun σ_9 =>
    ck (okI 10 x3_3) <|
    bnd (sI σ_9 10 x3_3.toNatClampNeg 0) fun σ_11 =>
    ck (okI 12 x3_3) <|
    bnd (sI σ_11 12 x3_3.toNatClampNeg 0) fun σ_13 =>
    some (x3_3, σ_13)
  ) else (
    some ((-3), σ)
  )
def f_Fo_addEnd (σ : gS) (x1 : Int32) (x2 : Int32) : Option (Int32 × gS) := b_Fo_addEnd_0 x1 x2 σ
def b_Ga_end_0 (x1 : Int32) (x2 : Int32) (σ : gS) : Option (Int32 × gS) :=
  (f_Ga_isAmong x1 (-100) 100).bind fun r_1 =>
  if r_1 = 0 then (
    some ((-2), σ)
  ) else (
    (f_Ga_isAmong x2 (-100) 100).bind fun r_3 =>
    if r_3 = 0 then (
      some ((-2), σ)
    ) else (
      (f_Fo_addEnd σ x1 x2).bind fun r_5 =>
      some (r_5.1, r_5.2)
    )
  )
def f_Ga_end (σ : gS) (x1 : Int32) (x2 : Int32) : Option (Int32 × gS) := b_Ga_end_0 x1 x2 σ
def b_Fo_offer_0 (x1 : Int32) (x2 : Int32) (x3 : Int32) (σ : gS) : Option gS :=
  ck (okI 15 0) <|
  bnd (sI σ 15 (0 : Int32).toNatClampNeg x1) fun σ_2 =>
  ck (okI 15 1) <|
  bnd (sI σ_2 15 (1 : Int32).toNatClampNeg x2) fun σ_4 =>
  ck (okI 15 2) <|
  bnd (sI σ_4 15 (2 : Int32).toNatClampNeg x3) fun σ_6 =>
  some σ_6
def f_Fo_offer (σ : gS) (x1 : Int32) (x2 : Int32) (x3 : Int32) : Option gS := b_Fo_offer_0 x1 x2 x3 σ
def b_Fo_hasNode_0 (σ : gS) (x1 : Int32) : Option Int32 :=
  if x1 < 0 then (
    ck (isB 0) <| some 0
  ) else (
    if (gI σ 1 0) ≤ x1 then (
      ck (isB 0) <| some 0
    ) else (
      ck (isB 1) <| some 1
    )
  )
def f_Fo_hasNode (σ : gS) (x1 : Int32) : Option Int32 := b_Fo_hasNode_0 σ x1
def b_Fo_areOfferedThere_2 (σ : gS) (k2 : Int32 × Int32 → Option Int32) (x1 : Int32) (x2 : Int32) : Option Int32 :=
  if x1 ≤ x2 then (
    ck (isB 1) <| some 1
  ) else (
    ck (okI 15 x2) <|
    (f_Fo_hasNode σ (gI σ 15 x2.toNatClampNeg)).bind fun r_3 =>
    if r_3 = 0 then (
      ck (isB 0) <| some 0
    ) else (
      bnd (x2 + 1) fun x2_5 =>
      k2 (x1, x2_5)
    )
  )
def l_Fo_areOfferedThere_2 (σ : gS) : Int32 × Int32 → Option Int32 := lpF (fun k x => b_Fo_areOfferedThere_2 σ k x.1 x.2) gF
def b_Fo_areOfferedThere_0 (σ : gS) (x1 : Int32) : Option Int32 :=
  l_Fo_areOfferedThere_2 σ (x1, 0)
def f_Fo_areOfferedThere (σ : gS) (x1 : Int32) : Option Int32 := b_Fo_areOfferedThere_0 σ x1
def b_Fo_isOfferedTaken_26 (σ : gS) (k2 : Int32 × Int32 → Option Int32) (k26 : Int32 × Int32 × Int32 → Option Int32) (x1 : Int32) (x2 : Int32) (x3 : Int32) : Option Int32 :=
  if x2 ≤ x3 then (
    bnd (x2 + 1) fun x2_2 =>
    k2 (x1, x2_2)
  ) else (
    ck (okI 15 x2) <|
    ck (okI 15 x3) <|
    if (gI σ 15 x2.toNatClampNeg) = (gI σ 15 x3.toNatClampNeg) then (
      ck (isB 1) <| some 1
    ) else (
      bnd (x3 + 1) fun x3_6 =>
      k26 (x1, x2, x3_6)
    )
  )
def l_Fo_isOfferedTaken_26 (σ : gS) (k2 : Int32 × Int32 → Option Int32) : Int32 × Int32 × Int32 → Option Int32 := lpF (fun k x => b_Fo_isOfferedTaken_26 σ k2 k x.1 x.2.1 x.2.2) gF
def b_Fo_isOfferedTaken_2 (σ : gS) (k2 : Int32 × Int32 → Option Int32) (x1 : Int32) (x2 : Int32) : Option Int32 :=
  if x1 ≤ x2 then (
    ck (isB 0) <| some 0
  ) else (
    ck (okI 15 x2) <|
    ck (okI 4 (gI σ 15 x2.toNatClampNeg)) <|
    if (gI σ 4 (gI σ 15 x2.toNatClampNeg).toNatClampNeg) = (-1) then (
      l_Fo_isOfferedTaken_26 σ k2 (x1, x2, 0)
    ) else (
      ck (isB 1) <| some 1
    )
  )
def l_Fo_isOfferedTaken_2 (σ : gS) : Int32 × Int32 → Option Int32 := lpF (fun k x => b_Fo_isOfferedTaken_2 σ k x.1 x.2) gF
def b_Fo_isOfferedTaken_0 (σ : gS) (x1 : Int32) : Option Int32 :=
  l_Fo_isOfferedTaken_2 σ (x1, 0)
def f_Fo_isOfferedTaken (σ : gS) (x1 : Int32) : Option Int32 := b_Fo_isOfferedTaken_0 σ x1
def b_Ma_max_0 (x0 : Int32) (x1 : Int32) : Option Int32 :=
  if x0 < x1 then (
    some x1
  ) else (
    some x0
  )
def f_Ma_max (x0 : Int32) (x1 : Int32) : Option Int32 := b_Ma_max_0 x0 x1
def b_Fo_greatestOffered_5 (σ : gS) (k5 : Nat × Int32 × Int32 × Int32 → Option Int32) (x1 : Nat) (x2 : Int32) (x3 : Int32) (x4 : Int32) : Option Int32 :=
  if x2 ≤ x4 then (
    some x3
  ) else (
    ck (okI 15 x4) <|
    ck (okI x1 (gI σ 15 x4.toNatClampNeg)) <|
    (f_Ma_max x3 (gI σ x1 (gI σ 15 x4.toNatClampNeg).toNatClampNeg)).bind fun r_4 =>
    bnd (x4 + 1) fun x4_5 =>
    k5 (x1, x2, r_4, x4_5)
  )
def l_Fo_greatestOffered_5 (σ : gS) : Nat × Int32 × Int32 × Int32 → Option Int32 := lpF (fun k x => b_Fo_greatestOffered_5 σ k x.1 x.2.1 x.2.2.1 x.2.2.2) gF
def b_Fo_greatestOffered_0 (σ : gS) (x1 : Nat) (x2 : Int32) : Option Int32 :=
  l_Fo_greatestOffered_5 σ (x1, x2, 0, 0)
def f_Fo_greatestOffered (σ : gS) (x1 : Nat) (x2 : Int32) : Option Int32 := b_Fo_greatestOffered_0 σ x1 x2
def b_Fo_setsOffered_4 (σ : gS) (k4 : Int32 × Int32 × Int32 → Option Int32) (x1 : Int32) (x2 : Int32) (x3 : Int32) : Option Int32 :=
  if x1 ≤ x3 then (
    some x2
  ) else (
    ck (okI 15 x3) <|
    ck (okI 12 (gI σ 15 x3.toNatClampNeg)) <|
    bnd (x2 ||| (gI σ 12 (gI σ 15 x3.toNatClampNeg).toNatClampNeg)) fun x2_4 =>
    bnd (x3 + 1) fun x3_5 =>
    k4 (x1, x2_4, x3_5)
  )
def l_Fo_setsOffered_4 (σ : gS) : Int32 × Int32 × Int32 → Option Int32 := lpF (fun k x => b_Fo_setsOffered_4 σ k x.1 x.2.1 x.2.2) gF
def b_Fo_setsOffered_0 (σ : gS) (x1 : Int32) : Option Int32 :=
  l_Fo_setsOffered_4 σ (x1, 0, 0)
def f_Fo_setsOffered (σ : gS) (x1 : Int32) : Option Int32 := b_Fo_setsOffered_0 σ x1
def b_Ga_hasBit_0 (x0 : Int64) (x2 : Int32) : Option Int32 :=
  if (lg_cmp (((x0.toUInt64 >>> (x2.toInt64.toUInt64 &&& Int64.toUInt64 63)).toInt64) &&& 1) 0) = 0 then (
    ck (isB 0) <| some 0
  ) else (
    ck (isB 1) <| some 1
  )
def f_Ga_hasBit (x0 : Int64) (x2 : Int32) : Option Int32 := b_Ga_hasBit_0 x0 x2
def b_Fo_plansWith_45 (σ : gS) (k5 : Int32 × Int32 × Int32 × Int32 → Option Int32) (x1 : Int32) (x2 : Int32) (x3 : Int32) (x4 : Int32) : Option Int32 :=
  bnd (x4 + 1) fun x4_1 =>
  k5 (x1, x2, x3, x4_1)
def b_Fo_plansWith_5 (σ : gS) (k5 : Int32 × Int32 × Int32 × Int32 → Option Int32) (x1 : Int32) (x2 : Int32) (x3 : Int32) (x4 : Int32) : Option Int32 :=
  if (gI σ 1 1) ≤ x4 then (
    some x3
  ) else (
    ck (okI 13 x4) <|
    if (gI σ 13 x4.toNatClampNeg) = x1 then (
      (f_Ga_hasBit x2.toInt64 x4).bind fun r_4 =>
      if r_4 = 0 then (
        b_Fo_plansWith_45 σ k5 x1 x2 x3 x4
      ) else (
        ck (okI 5 x4) <|
        bnd (x3 * (gI σ 5 x4.toNatClampNeg)) fun x3_7 =>
        b_Fo_plansWith_45 σ k5 x1 x2 x3_7 x4
      )
    ) else (
      b_Fo_plansWith_45 σ k5 x1 x2 x3 x4
    )
  )
def l_Fo_plansWith_5 (σ : gS) : Int32 × Int32 × Int32 × Int32 → Option Int32 := lpF (fun k x => b_Fo_plansWith_5 σ k x.1 x.2.1 x.2.2.1 x.2.2.2) gF
def b_Fo_plansWith_0 (σ : gS) (x1 : Int32) (x2 : Int32) : Option Int32 :=
  l_Fo_plansWith_5 σ (x1, x2, 1, 0)
def f_Fo_plansWith (σ : gS) (x1 : Int32) (x2 : Int32) : Option Int32 := b_Fo_plansWith_0 σ x1 x2
def b_Fo_adoptOffered_9 (k9 : Int32 × Int32 × Int32 × gS → Option gS) (x1 : Int32) (x2 : Int32) (x3 : Int32) (σ : gS) : Option gS :=
  if x2 ≤ x3 then (
    some σ
  ) else (
    ck (okI 15 x3) <|
    ck (okI 7 ((3 * x1) + x3)) <|
    bnd (sI σ 7 ((3 * x1) + x3).toNatClampNeg (gI σ 15 x3.toNatClampNeg)) fun σ_4 =>
    ck (okI 15 x3) <|
    ck (okI 4 (gI σ_4 15 x3.toNatClampNeg)) <|
    bnd (sI σ_4 4 (gI σ_4 15 x3.toNatClampNeg).toNatClampNeg x1) fun σ_7 =>
    ck (okJ 11 x1) <|
    ck (okI 15 x3) <|
    ck (okJ 11 (gI σ_7 15 x3.toNatClampNeg)) <|
    ck (okJ 11 x1) <|
    bnd (sL σ_7 11 x1.toNatClampNeg ((gL σ_7 11 x1.toNatClampNeg) ||| (gL σ_7 11 (gI σ_7 15 x3.toNatClampNeg).toNatClampNeg))) fun σ_12 =>
    bnd (x3 + 1) fun x3_13 =>
    k9 (x1, x2, x3_13, σ_12)
  )
def l_Fo_adoptOffered_9  : Int32 × Int32 × Int32 × gS → Option gS := lpF (fun k x => b_Fo_adoptOffered_9 k x.1 x.2.1 x.2.2.1 x.2.2.2) gF
def b_Fo_adoptOffered_0 (x1 : Int32) (x2 : Int32) (σ : gS) : Option gS :=
  ck (okI 8 x1) <|
  bnd (sI σ 8 x1.toNatClampNeg x2) fun σ_2 =>
  l_Fo_adoptOffered_9 (x1, x2, 0, σ_2)
def f_Fo_adoptOffered (σ : gS) (x1 : Int32) (x2 : Int32) : Option gS := b_Fo_adoptOffered_0 x1 x2 σ
def b_Fo_addParent_141 (x1 : Int32) (x2 : Int32) (x3 : Int32) (x4 : Int32) (x5 : Int32) (y1 : Int32) (σ : gS) : Option (Int32 × gS) :=
  (f_Fo_startNode σ y1 x1).bind fun r_1 =>
  bnd (r_1.1) fun x6_2 =>
  ck (okI 9 x6_2) <|
  bnd (sI r_1.2 9 x6_2.toNatClampNeg x3) fun σ_4 =>
  ck (okI 10 x6_2) <|
  bnd (sI σ_4 10 x6_2.toNatClampNeg x4) fun σ_6 =>
  ck (okI 12 x6_2) <|
  bnd (sI σ_6 12 x6_2.toNatClampNeg x5) fun σ_8 =>
  (f_Fo_adoptOffered σ_8 x6_2 x2).bind fun r_9 =>
  some (x6_2, r_9)
def b_Fo_addParent_100 (x1 : Int32) (x2 : Int32) (x3 : Int32) (x4 : Int32) (y0 : Int32) (y1 : Int32) (σ : gS) : Option (Int32 × gS) :=
  bnd (y0 ||| y1) fun x5_1 =>
  (f_Fo_plansWith σ 0 x5_1).bind fun r_2 =>
  if 64 < r_2 then (
    some ((-6), σ)
  ) else (
    (f_Fo_plansWith σ 1 x5_1).bind fun r_4 =>
    if r_4 ≤ 64 then (
      if x1 = (-1) then (
        b_Fo_addParent_141 x1 x2 x3 x4 x5_1 1 σ
      ) else (
        b_Fo_addParent_141 x1 x2 x3 x4 x5_1 2 σ
      )
    ) else (
      some ((-6), σ)
    )
  )
def b_Fo_addParent_65 (x1 : Int32) (x2 : Int32) (x3 : Int32) (y0 : Int32) (y1 : Int32) (σ : gS) : Option (Int32 × gS) :=
  bnd (y0 + y1) fun x4_1 =>
  if 8 < x3 then (
    some ((-5), σ)
  ) else (
    if x4_1 ≤ 5 then (
      (f_Fo_setsOffered σ x2).bind fun r_4 =>
      if x1 = (-1) then (
        b_Fo_addParent_100 x1 x2 x3 x4_1 r_4 0 σ
      ) else (
        b_Fo_addParent_100 x1 x2 x3 x4_1 r_4 (1 <<< (x1 &&& 31)) σ
      )
    ) else (
      some ((-5), σ)
    )
  )
def b_Fo_addParent_0 (x1 : Int32) (x2 : Int32) (σ : gS) : Option (Int32 × gS) :=
  (f_Fo_areOfferedThere σ x2).bind fun r_1 =>
  if r_1 = 0 then (
    some ((-2), σ)
  ) else (
    if (gI σ 1 0) < 40 then (
      (f_Fo_isOfferedTaken σ x2).bind fun r_4 =>
      if r_4 = 0 then (
        (f_Fo_greatestOffered σ 9 x2).bind fun r_6 =>
        bnd (1 + r_6) fun x3_7 =>
        (f_Fo_greatestOffered σ 10 x2).bind fun r_8 =>
        if x1 = (-1) then (
          b_Fo_addParent_65 x1 x2 x3_7 r_8 1 σ
        ) else (
          b_Fo_addParent_65 x1 x2 x3_7 r_8 0 σ
        )
      ) else (
        some ((-4), σ)
      )
    ) else (
      some ((-3), σ)
    )
  )
def f_Fo_addParent (σ : gS) (x1 : Int32) (x2 : Int32) : Option (Int32 × gS) := b_Fo_addParent_0 x1 x2 σ
def b_Ga_chance_19 (x1 : Int32) (x2 : Int32) (x3 : Int32) (y0 : Int32) (σ : gS) : Option (Int32 × gS) :=
  (f_Fo_offer σ x1 x2 x3).bind fun r_1 =>
  (f_Fo_addParent r_1 (-1) y0).bind fun r_2 =>
  some (r_2.1, r_2.2)
def b_Ga_chance_0 (x1 : Int32) (x2 : Int32) (x3 : Int32) (σ : gS) : Option (Int32 × gS) :=
  if x3 = (-1) then (
    if x2 = (-1) then (
      b_Ga_chance_19 x1 x2 x3 1 σ
    ) else (
      b_Ga_chance_19 x1 x2 x3 2 σ
    )
  ) else (
    b_Ga_chance_19 x1 x2 x3 3 σ
  )
def f_Ga_chance (σ : gS) (x1 : Int32) (x2 : Int32) (x3 : Int32) : Option (Int32 × gS) := b_Ga_chance_0 x1 x2 x3 σ
def b_Fo_hasSet_0 (σ : gS) (x1 : Int32) : Option Int32 :=
  if x1 < 0 then (
    ck (isB 0) <| some 0
  ) else (
    if (gI σ 1 1) ≤ x1 then (
      ck (isB 0) <| some 0
    ) else (
      ck (isB 1) <| some 1
    )
  )
def f_Fo_hasSet (σ : gS) (x1 : Int32) : Option Int32 := b_Fo_hasSet_0 σ x1
def b_Ga_node_0 (x1 : Int32) (x2 : Int32) (x3 : Int32) (x4 : Int32) (σ : gS) : Option (Int32 × gS) :=
  (f_Fo_hasSet σ x1).bind fun r_1 =>
  if r_1 = 0 then (
    some ((-2), σ)
  ) else (
    (f_Fo_offer σ x2 x3 x4).bind fun r_3 =>
    ck (okI 5 x1) <|
    (f_Fo_addParent r_3 x1 (gI r_3 5 x1.toNatClampNeg)).bind fun r_5 =>
    some (r_5.1, r_5.2)
  )
def f_Ga_node (σ : gS) (x1 : Int32) (x2 : Int32) (x3 : Int32) (x4 : Int32) : Option (Int32 × gS) := b_Ga_node_0 x1 x2 x3 x4 σ
def b_Ga_isEmpty_0 (σ : gS) : Option Int32 :=
  if (gI σ 1 0) = 0 then (
    ck (isB 1) <| some 1
  ) else (
    ck (isB 0) <| some 0
  )
def f_Ga_isEmpty (σ : gS) : Option Int32 := b_Ga_isEmpty_0 σ
def b_Fo_root_0 (σ : gS) : Option Int32 :=
  some ((gI σ 1 0) - 1)
def f_Fo_root (σ : gS) : Option Int32 := b_Fo_root_0 σ
def b_Fo_nodesInTree_0 (σ : gS) : Option Int64 :=
  if (gI σ 1 0) = 0 then (
    some 0
  ) else (
    (f_Fo_root σ).bind fun r_2 =>
    ck (okJ 11 r_2) <|
    some (gL σ 11 r_2.toNatClampNeg)
  )
def f_Fo_nodesInTree (σ : gS) : Option Int64 := b_Fo_nodesInTree_0 σ
def b_Lo_bitCount_0 (x0 : Int64) : Option Int32 :=
  bnd (x0 - (((x0.toUInt64 >>> ((1 : Int32).toInt64.toUInt64 &&& Int64.toUInt64 63)).toInt64) &&& 6148914691236517205)) fun x0_1 =>
  bnd ((x0_1 &&& 3689348814741910323) + (((x0_1.toUInt64 >>> ((2 : Int32).toInt64.toUInt64 &&& Int64.toUInt64 63)).toInt64) &&& 3689348814741910323)) fun x0_2 =>
  bnd ((x0_2 + ((x0_2.toUInt64 >>> ((4 : Int32).toInt64.toUInt64 &&& Int64.toUInt64 63)).toInt64)) &&& 1085102592571150095) fun x0_3 =>
  bnd (x0_3 + ((x0_3.toUInt64 >>> ((8 : Int32).toInt64.toUInt64 &&& Int64.toUInt64 63)).toInt64)) fun x0_4 =>
  bnd (x0_4 + ((x0_4.toUInt64 >>> ((16 : Int32).toInt64.toUInt64 &&& Int64.toUInt64 63)).toInt64)) fun x0_5 =>
  bnd (x0_5 + ((x0_5.toUInt64 >>> ((32 : Int32).toInt64.toUInt64 &&& Int64.toUInt64 63)).toInt64)) fun x0_6 =>
  some (x0_6.toInt32 &&& 127)
def f_Lo_bitCount (x0 : Int64) : Option Int32 := b_Lo_bitCount_0 x0
def b_Fo_setsInTree_0 (σ : gS) : Option Int32 :=
  if (gI σ 1 0) = 0 then (
    some 0
  ) else (
    (f_Fo_root σ).bind fun r_2 =>
    ck (okI 12 r_2) <|
    some (gI σ 12 r_2.toNatClampNeg)
  )
def f_Fo_setsInTree (σ : gS) : Option Int32 := b_Fo_setsInTree_0 σ
def b_Fo_plansOf_0 (σ : gS) (x1 : Int32) : Option Int32 :=
  (f_Fo_setsInTree σ).bind fun r_1 =>
  (f_Fo_plansWith σ x1 r_1).bind fun r_2 =>
  some r_2
def f_Fo_plansOf (σ : gS) (x1 : Int32) : Option Int32 := b_Fo_plansOf_0 σ x1
def b_Po_placeOf_0 (x0 : Int32) : Option Int32 :=
  if x0 = 0 then (
    some 0
  ) else (
    some 1
  )
def f_Po_placeOf (x0 : Int32) : Option Int32 := b_Po_placeOf_0 x0
def b_Ga_firstBits_0 (x0 : Int32) : Option Int64 :=
  some ((((-1) : Int64).toUInt64 >>> ((64 - x0).toInt64.toUInt64 &&& Int64.toUInt64 63)).toInt64)
def f_Ga_firstBits (x0 : Int32) : Option Int64 := b_Ga_firstBits_0 x0
def b_Ar_fillJ_6 (k6 : Nat × Int64 × Int32 × Int32 × gS → Option gS) (x0 : Nat) (x1 : Int64) (x3 : Int32) (x4 : Int32) (σ : gS) : Option gS :=
  if x4 ≤ x3 then (
    some σ
  ) else (
    ck (okJ x0 x3) <|
    bnd (sL σ x0 x3.toNatClampNeg x1) fun σ_3 =>
    bnd (x3 + 1) fun x3_4 =>
    k6 (x0, x1, x3_4, x4, σ_3)
  )
def l_Ar_fillJ_6  : Nat × Int64 × Int32 × Int32 × gS → Option gS := lpF (fun k x => b_Ar_fillJ_6 k x.1 x.2.1 x.2.2.1 x.2.2.2.1 x.2.2.2.2) gF
def b_Ar_fillJ_0 (x0 : Nat) (x1 : Int64) (σ : gS) : Option gS :=
  ck (oaJ x0) <|
  bnd (Int32.ofNat (kLen x0)) fun x4_2 =>
  l_Ar_fillJ_6 (x0, x1, 0, x4_2, σ)
def f_Ar_fillJ (σ : gS) (x0 : Nat) (x1 : Int64) : Option gS := b_Ar_fillJ_0 x0 x1 σ
def b_Fo_isGameWithin_84 (σ : gS) (k44 : Int32 × Int64 × Int32 → Option Int32) (x1 : Int32) (x2 : Int64) (x4 : Int32) : Option Int32 :=
  bnd (x4 + 1) fun x4_1 =>
  k44 (x1, x2, x4_1)
def b_Fo_isGameWithin_44 (σ : gS) (k44 : Int32 × Int64 × Int32 → Option Int32) (x1 : Int32) (x2 : Int64) (x4 : Int32) : Option Int32 :=
  if (gI σ 1 1) ≤ x4 then (
    ck (isB 1) <| some 1
  ) else (
    ck (okI 12 x1) <|
    (f_Ga_hasBit ((gI σ 12 x1.toNatClampNeg).toInt64) x4).bind fun r_3 =>
    if r_3 = 0 then (
      b_Fo_isGameWithin_84 σ k44 x1 x2 x4
    ) else (
      ck (okJ 14 x4) <|
      if (lg_cmp ((gL σ 14 x4.toNatClampNeg) &&& x2) 0) = 0 then (
        b_Fo_isGameWithin_84 σ k44 x1 x2 x4
      ) else (
        ck (isB 0) <| some 0
      )
    )
  )
def l_Fo_isGameWithin_44 (σ : gS) : Int32 × Int64 × Int32 → Option Int32 := lpF (fun k x => b_Fo_isGameWithin_44 σ k x.1 x.2.1 x.2.2) gF
def b_Fo_isGameWithin_0 (σ : gS) (x1 : Int32) : Option Int32 :=
  ck (okI 3 x1) <|
  ck (okJ 14 (gI σ 3 x1.toNatClampNeg)) <|
  (f_Fo_nodesInTree σ).bind fun r_3 =>
  if (lg_cmp ((gL σ 14 (gI σ 3 x1.toNatClampNeg).toNatClampNeg) &&& r_3) ((1 : Int64) <<< (x1.toInt64 &&& 63))) = 0 then (
    (f_Fo_nodesInTree σ).bind fun r_5 =>
    ck (okJ 11 x1) <|
    bnd (r_5 &&& ((gL σ 11 x1.toNatClampNeg) ^^^ (-1))) fun x2_7 =>
    l_Fo_isGameWithin_44 σ (x1, x2_7, 0)
  ) else (
    ck (isB 0) <| some 0
  )
def f_Fo_isGameWithin (σ : gS) (x1 : Int32) : Option Int32 := b_Fo_isGameWithin_0 σ x1
def b_Fo_gamesWithin_63 (σ : gS) (k20 : Int64 × Int32 → Option Int64) (x1 : Int64) (x3 : Int32) : Option Int64 :=
  bnd (x3 + 1) fun x3_1 =>
  k20 (x1, x3_1)
def b_Fo_gamesWithin_20 (σ : gS) (k20 : Int64 × Int32 → Option Int64) (x1 : Int64) (x3 : Int32) : Option Int64 :=
  (f_Fo_root σ).bind fun r_1 =>
  if r_1 ≤ x3 then (
    some x1
  ) else (
    (f_Fo_nodesInTree σ).bind fun r_3 =>
    (f_Ga_hasBit r_3 x3).bind fun r_4 =>
    if r_4 = 0 then (
      b_Fo_gamesWithin_63 σ k20 x1 x3
    ) else (
      ck (okI 2 x3) <|
      if (gI σ 2 x3.toNatClampNeg) = 2 then (
        (f_Fo_isGameWithin σ x3).bind fun r_8 =>
        if r_8 = 0 then (
          b_Fo_gamesWithin_63 σ k20 x1 x3
        ) else (
          bnd (x1 ||| ((1 : Int64) <<< (x3.toInt64 &&& 63))) fun x1_10 =>
          b_Fo_gamesWithin_63 σ k20 x1_10 x3
        )
      ) else (
        b_Fo_gamesWithin_63 σ k20 x1 x3
      )
    )
  )
def l_Fo_gamesWithin_20 (σ : gS) : Int64 × Int32 → Option Int64 := lpF (fun k x => b_Fo_gamesWithin_20 σ k x.1 x.2) gF
def b_Fo_gamesWithin_17 (σ : gS) (y0 : Int64) : Option Int64 :=
  l_Fo_gamesWithin_20 σ (y0, 0)
def b_Fo_gamesWithin_0 (σ : gS) : Option Int64 :=
  if (gI σ 1 0) = 0 then (
    b_Fo_gamesWithin_17 σ 0
  ) else (
    (f_Fo_root σ).bind fun r_2 =>
    b_Fo_gamesWithin_17 σ ((1 : Int64) <<< (r_2.toInt64 &&& 63))
  )
def f_Fo_gamesWithin (σ : gS) : Option Int64 := b_Fo_gamesWithin_0 σ
def b_Fo_plansFrom_0 (σ : gS) (x1 : Int32) (x2 : Int32) : Option Int32 :=
  ck (okI 12 x1) <|
  (f_Fo_plansWith σ x2 (gI σ 12 x1.toNatClampNeg)).bind fun r_2 =>
  some r_2
def f_Fo_plansFrom (σ : gS) (x1 : Int32) (x2 : Int32) : Option Int32 := b_Fo_plansFrom_0 σ x1 x2
def b_Ar_fillI_5 (k5 : Nat × Int32 × Int32 × Int32 × gS → Option gS) (x0 : Nat) (x1 : Int32) (x2 : Int32) (x3 : Int32) (σ : gS) : Option gS :=
  if x3 ≤ x2 then (
    some σ
  ) else (
    ck (okI x0 x2) <|
    bnd (sI σ x0 x2.toNatClampNeg x1) fun σ_3 =>
    bnd (x2 + 1) fun x2_4 =>
    k5 (x0, x1, x2_4, x3, σ_3)
  )
def l_Ar_fillI_5  : Nat × Int32 × Int32 × Int32 × gS → Option gS := lpF (fun k x => b_Ar_fillI_5 k x.1 x.2.1 x.2.2.1 x.2.2.2.1 x.2.2.2.2) gF
def b_Ar_fillI_0 (x0 : Nat) (x1 : Int32) (σ : gS) : Option gS :=
  ck (oaI x0) <|
  bnd (Int32.ofNat (kLen x0)) fun x3_2 =>
  l_Ar_fillI_5 (x0, x1, 0, x3_2, σ)
def f_Ar_fillI (σ : gS) (x0 : Nat) (x1 : Int32) : Option gS := b_Ar_fillI_0 x0 x1 σ
def b_Fo_worthAt_0 (σ : gS) (x1 : Int32) (x2 : Int32) : Option Int32 :=
  ck (okI 6 ((2 * x1) + x2)) <|
  some (gI σ 6 ((2 * x1) + x2).toNatClampNeg)
def f_Fo_worthAt (σ : gS) (x1 : Int32) (x2 : Int32) : Option Int32 := b_Fo_worthAt_0 σ x1 x2
def b_Fo_childAt_0 (σ : gS) (x1 : Int32) (x2 : Int32) : Option Int32 :=
  ck (okI 7 ((3 * x1) + x2)) <|
  some (gI σ 7 ((3 * x1) + x2).toNatClampNeg)
def f_Fo_childAt (σ : gS) (x1 : Int32) (x2 : Int32) : Option Int32 := b_Fo_childAt_0 σ x1 x2
def b_Ta_shareAmongAll_13 (k13 : Int32 × Int32 × Int32 × Int32 × gS → Option gS) (x1 : Int32) (x2 : Int32) (x3 : Int32) (x4 : Int32) (σ : gS) : Option gS :=
  if x3 ≤ x4 then (
    some σ
  ) else (
    (f_Fo_childAt σ x1 x4).bind fun r_2 =>
    ck (nz x3) <|
    ck (okI 22 r_2) <|
    bnd (sI σ 22 r_2.toNatClampNeg (x2 / x3)) fun σ_5 =>
    bnd (x4 + 1) fun x4_6 =>
    k13 (x1, x2, x3, x4_6, σ_5)
  )
def l_Ta_shareAmongAll_13  : Int32 × Int32 × Int32 × Int32 × gS → Option gS := lpF (fun k x => b_Ta_shareAmongAll_13 k x.1 x.2.1 x.2.2.1 x.2.2.2.1 x.2.2.2.2) gF
def b_Ta_shareAmongAll_0 (x1 : Int32) (x2 : Int32) (σ : gS) : Option gS :=
  ck (okI 8 x1) <|
  bnd (gI σ 8 x1.toNatClampNeg) fun x3_2 =>
  l_Ta_shareAmongAll_13 (x1, x2, x3_2, 0, σ)
def f_Ta_shareAmongAll (σ : gS) (x1 : Int32) (x2 : Int32) : Option gS := b_Ta_shareAmongAll_0 x1 x2 σ
def b_Ta_weighPair_150 (k17 : Int32 × Int32 × Int32 × Int32 × gS → Option gS) (x2 : Int32) (x3 : Int32) (x4 : Int32) (x5 : Int32) (σ : gS) : Option gS :=
  bnd (x5 + (-1)) fun x5_1 =>
  k17 (x2, x3, x4, x5_1, σ)
def b_Ta_weighPair_17 (k17 : Int32 × Int32 × Int32 × Int32 × gS → Option gS) (x2 : Int32) (x3 : Int32) (x4 : Int32) (x5 : Int32) (σ : gS) : Option gS :=
  if x5 < 0 then (
    ck (inb 0 2) <|
    ck (okI 19 x2) <|
    bnd (sI σ 19 x2.toNatClampNeg x3) fun σ_4 =>
    ck (inb 1 2) <|
    ck (okI 20 x2) <|
    bnd (sI σ_4 20 x2.toNatClampNeg x4) fun σ_7 =>
    some σ_7
  ) else (
    ck (okI 22 x5) <|
    bnd (gI σ 22 x5.toNatClampNeg) fun x6_9 =>
    if x6_9 = 0 then (
      b_Ta_weighPair_150 k17 x2 x3 x4 x5 σ
    ) else (
      ck (okI 22 x5) <|
      bnd (sI σ 22 x5.toNatClampNeg 0) fun σ_12 =>
      ck (okI 2 x5) <|
      if (gI σ_12 2 x5.toNatClampNeg) = 0 then (
        (f_Fo_worthAt σ_12 x5 0).bind fun r_23 =>
        bnd (x3 + (x6_9 * r_23)) fun x3_24 =>
        (f_Fo_worthAt σ_12 x5 1).bind fun r_25 =>
        bnd (x4 + (x6_9 * r_25)) fun x4_26 =>
        b_Ta_weighPair_150 k17 x2 x3_24 x4_26 x5 σ_12
      ) else (
        ck (okI 2 x5) <|
        if (gI σ_12 2 x5.toNatClampNeg) = 1 then (
          (f_Ta_shareAmongAll σ_12 x5 x6_9).bind fun r_22 =>
          b_Ta_weighPair_150 k17 x2 x3 x4 x5 r_22
        ) else (
          ck (okI 3 x5) <|
          ck (okI 21 (gI σ_12 3 x5.toNatClampNeg)) <|
          (f_Fo_childAt σ_12 x5 (gI σ_12 21 (gI σ_12 3 x5.toNatClampNeg).toNatClampNeg)).bind fun r_19 =>
          ck (okI 22 r_19) <|
          bnd (sI σ_12 22 r_19.toNatClampNeg x6_9) fun σ_21 =>
          b_Ta_weighPair_150 k17 x2 x3 x4 x5 σ_21
        )
      )
    )
  )
def l_Ta_weighPair_17  : Int32 × Int32 × Int32 × Int32 × gS → Option gS := lpF (fun k x => b_Ta_weighPair_17 k x.1 x.2.1 x.2.2.1 x.2.2.2.1 x.2.2.2.2) gF
def b_Ta_weighPair_0 (x1 : Int32) (x2 : Int32) (σ : gS) : Option gS :=
  ck (okI 22 x1) <|
  bnd (sI σ 22 x1.toNatClampNeg 7776) fun σ_2 =>
  l_Ta_weighPair_17 (x2, 0, 0, x1, σ_2)
def f_Ta_weighPair (σ : gS) (x1 : Int32) (x2 : Int32) : Option gS := b_Ta_weighPair_0 x1 x2 σ
def b_Fo_isPlayedFrom_0 (σ : gS) (x1 : Int32) (x2 : Int32) (x3 : Int32) : Option Int32 :=
  ck (okI 13 x3) <|
  if (gI σ 13 x3.toNatClampNeg) = x2 then (
    ck (okI 12 x1) <|
    (f_Ga_hasBit ((gI σ 12 x1.toNatClampNeg).toInt64) x3).bind fun r_4 =>
    if r_4 = 0 then (
      ck (isB 0) <| some 0
    ) else (
      ck (isB 1) <| some 1
    )
  ) else (
    ck (isB 0) <| some 0
  )
def f_Fo_isPlayedFrom (σ : gS) (x1 : Int32) (x2 : Int32) (x3 : Int32) : Option Int32 := b_Fo_isPlayedFrom_0 σ x1 x2 x3
def b_Fo_stepPlan_52 (k8 : Int32 × Int32 × Nat × Int32 × gS → Option gS) (x1 : Int32) (x2 : Int32) (x3 : Nat) (x4 : Int32) (σ : gS) : Option gS :=
  bnd (x4 + (-1)) fun x4_1 =>
  k8 (x1, x2, x3, x4_1, σ)
def b_Fo_stepPlan_8 (k8 : Int32 × Int32 × Nat × Int32 × gS → Option gS) (x1 : Int32) (x2 : Int32) (x3 : Nat) (x4 : Int32) (σ : gS) : Option gS :=
  if x4 < 0 then (
    some σ
  ) else (
    (f_Fo_isPlayedFrom σ x1 x2 x4).bind fun r_2 =>
    if r_2 = 0 then (
      b_Fo_stepPlan_52 k8 x1 x2 x3 x4 σ
    ) else (
      ck (okI x3 x4) <|
      ck (okI x3 x4) <|
      bnd (sI σ x3 x4.toNatClampNeg ((gI σ x3 x4.toNatClampNeg) + 1)) fun σ_6 =>
      ck (okI x3 x4) <|
      ck (okI 5 x4) <|
      if (gI σ_6 5 x4.toNatClampNeg) ≤ (gI σ_6 x3 x4.toNatClampNeg) then (
        ck (okI x3 x4) <|
        bnd (sI σ_6 x3 x4.toNatClampNeg 0) fun σ_11 =>
        b_Fo_stepPlan_52 k8 x1 x2 x3 x4 σ_11
      ) else (
        some σ_6
      )
    )
  )
def l_Fo_stepPlan_8  : Int32 × Int32 × Nat × Int32 × gS → Option gS := lpF (fun k x => b_Fo_stepPlan_8 k x.1 x.2.1 x.2.2.1 x.2.2.2.1 x.2.2.2.2) gF
def b_Fo_stepPlan_0 (x1 : Int32) (x2 : Int32) (x3 : Nat) (σ : gS) : Option gS :=
  bnd ((gI σ 1 1) - 1) fun x4_1 =>
  l_Fo_stepPlan_8 (x1, x2, x3, x4_1, σ)
def f_Fo_stepPlan (σ : gS) (x1 : Int32) (x2 : Int32) (x3 : Nat) : Option gS := b_Fo_stepPlan_0 x1 x2 x3 σ
def b_Ta_fillFrom_91 (k79 : Int32 × Int32 × gS → Option gS) (k91 : Int32 × Int32 × Int32 × gS → Option gS) (x1 : Int32) (x2 : Int32) (x3 : Int32) (σ : gS) : Option gS :=
  ck (okI 17 1) <|
  if (gI σ 17 (1 : Int32).toNatClampNeg) ≤ x3 then (
    (f_Fo_stepPlan σ x1 0 21).bind fun r_3 =>
    bnd (x2 + 1) fun x2_4 =>
    k79 (x1, x2_4, r_3)
  ) else (
    (f_Ta_weighPair σ x1 ((64 * x2) + x3)).bind fun r_5 =>
    (f_Fo_stepPlan r_5 x1 1 21).bind fun r_6 =>
    bnd (x3 + 1) fun x3_7 =>
    k91 (x1, x2, x3_7, r_6)
  )
def l_Ta_fillFrom_91 (k79 : Int32 × Int32 × gS → Option gS) : Int32 × Int32 × Int32 × gS → Option gS := lpF (fun k x => b_Ta_fillFrom_91 k79 k x.1 x.2.1 x.2.2.1 x.2.2.2) gF
def b_Ta_fillFrom_79 (k79 : Int32 × Int32 × gS → Option gS) (x1 : Int32) (x2 : Int32) (σ : gS) : Option gS :=
  ck (okI 17 0) <|
  if (gI σ 17 (0 : Int32).toNatClampNeg) ≤ x2 then (
    some σ
  ) else (
    l_Ta_fillFrom_91 k79 (x1, x2, 0, σ)
  )
def l_Ta_fillFrom_79  : Int32 × Int32 × gS → Option gS := lpF (fun k x => b_Ta_fillFrom_79 k x.1 x.2.1 x.2.2) gF
def b_Ta_fillFrom_23 (x1 : Int32) (σ : gS) : Option gS :=
  bnd (sI σ 16 5 (gI σ 1 2)) fun σ_1 =>
  bnd (sI σ_1 16 6 x1) fun σ_2 =>
  (f_Fo_plansFrom σ_2 x1 0).bind fun r_3 =>
  ck (okI 17 0) <|
  bnd (sI σ_2 17 (0 : Int32).toNatClampNeg r_3) fun σ_5 =>
  (f_Fo_plansFrom σ_5 x1 1).bind fun r_6 =>
  ck (okI 17 1) <|
  bnd (sI σ_5 17 (1 : Int32).toNatClampNeg r_6) fun σ_8 =>
  (f_Ar_fillI σ_8 21 0).bind fun r_9 =>
  l_Ta_fillFrom_79 (x1, 0, r_9)
def b_Ta_fillFrom_0 (x1 : Int32) (σ : gS) : Option gS :=
  if (gI σ 16 5) = (gI σ 1 2) then (
    if (gI σ 16 6) = x1 then (
      some σ
    ) else (
      b_Ta_fillFrom_23 x1 σ
    )
  ) else (
    b_Ta_fillFrom_23 x1 σ
  )
def f_Ta_fillFrom (σ : gS) (x1 : Int32) : Option gS := b_Ta_fillFrom_0 x1 σ
def b_Fo_planFrom_103 (σ : gS) (k17 : Int32 × Int32 × Int32 × Int32 × Int32 × Int32 → Option Int32) (x1 : Int32) (x2 : Int32) (x4 : Int32) (x5 : Int32) (x6 : Int32) (x7 : Int32) : Option Int32 :=
  bnd (x7 + (-1)) fun x7_1 =>
  k17 (x1, x2, x4, x5, x6, x7_1)
def b_Fo_planFrom_91 (σ : gS) (k17 : Int32 × Int32 × Int32 × Int32 × Int32 × Int32 → Option Int32) (x1 : Int32) (x2 : Int32) (x4 : Int32) (x5 : Int32) (x6 : Int32) (x7 : Int32) : Option Int32 :=
  ck (okI 5 x7) <|
  ck (nz (gI σ 5 x7.toNatClampNeg)) <|
  bnd (x4 / (gI σ 5 x7.toNatClampNeg)) fun x4_3 =>
  b_Fo_planFrom_103 σ k17 x1 x2 x4_3 x5 x6 x7
def b_Fo_planFrom_17 (σ : gS) (k17 : Int32 × Int32 × Int32 × Int32 × Int32 × Int32 → Option Int32) (x1 : Int32) (x2 : Int32) (x4 : Int32) (x5 : Int32) (x6 : Int32) (x7 : Int32) : Option Int32 :=
  if x7 < 0 then (
    some x5
  ) else (
    (f_Fo_root σ).bind fun r_2 =>
    (f_Fo_isPlayedFrom σ r_2 x2 x7).bind fun r_3 =>
    if r_3 = 0 then (
      b_Fo_planFrom_103 σ k17 x1 x2 x4 x5 x6 x7
    ) else (
      ck (okI 5 x7) <|
      if (gI σ 5 x7.toNatClampNeg) ≤ 0 then (
        b_Fo_planFrom_103 σ k17 x1 x2 x4 x5 x6 x7
      ) else (
        ck (okI 12 x1) <|
        (f_Ga_hasBit ((gI σ 12 x1.toNatClampNeg).toInt64) x7).bind fun r_8 =>
        if r_8 = 0 then (
          b_Fo_planFrom_91 σ k17 x1 x2 x4 x5 x6 x7
        ) else (
          ck (okI 5 x7) <|
          ck (nz (gI σ 5 x7.toNatClampNeg)) <|
          bnd (x5 + ((x4 - x4 / (gI σ 5 x7.toNatClampNeg) * (gI σ 5 x7.toNatClampNeg)) * x6)) fun x5_12 =>
          ck (okI 5 x7) <|
          bnd (x6 * (gI σ 5 x7.toNatClampNeg)) fun x6_14 =>
          b_Fo_planFrom_91 σ k17 x1 x2 x4 x5_12 x6_14 x7
        )
      )
    )
  )
def l_Fo_planFrom_17 (σ : gS) : Int32 × Int32 × Int32 × Int32 × Int32 × Int32 → Option Int32 := lpF (fun k x => b_Fo_planFrom_17 σ k x.1 x.2.1 x.2.2.1 x.2.2.2.1 x.2.2.2.2.1 x.2.2.2.2.2) gF
def b_Fo_planFrom_0 (σ : gS) (x1 : Int32) (x2 : Int32) (x3 : Int32) : Option Int32 :=
  bnd ((gI σ 1 1) - 1) fun x7_1 =>
  l_Fo_planFrom_17 σ (x1, x2, x3, 0, 1, x7_1)
def f_Fo_planFrom (σ : gS) (x1 : Int32) (x2 : Int32) (x3 : Int32) : Option Int32 := b_Fo_planFrom_0 σ x1 x2 x3
def b_Po_findInner_12 (k12 : Int32 × Int32 × Int32 × Int32 × gS → Option (Int32 × gS)) (x1 : Int32) (x2 : Int32) (x3 : Int32) (x4 : Int32) (σ : gS) : Option (Int32 × gS) :=
  if x3 ≤ x4 then (
    some (x3, σ)
  ) else (
    ck (inb x1 2) <|
    (f_Fo_planFrom σ x2 x1 x4).bind fun r_3 =>
    ck (okI (31 + 1 + x1.toNatClampNeg) x4) <|
    bnd (sI σ (31 + 1 + x1.toNatClampNeg) x4.toNatClampNeg r_3) fun σ_5 =>
    bnd (x4 + 1) fun x4_6 =>
    k12 (x1, x2, x3, x4_6, σ_5)
  )
def l_Po_findInner_12  : Int32 × Int32 × Int32 × Int32 × gS → Option (Int32 × gS) := lpF (fun k x => b_Po_findInner_12 k x.1 x.2.1 x.2.2.1 x.2.2.2.1 x.2.2.2.2) gF
def b_Po_findInner_0 (x1 : Int32) (x2 : Int32) (σ : gS) : Option (Int32 × gS) :=
  (f_Fo_plansOf σ x1).bind fun r_1 =>
  l_Po_findInner_12 (x1, x2, r_1, 0, σ)
def f_Po_findInner (σ : gS) (x1 : Int32) (x2 : Int32) : Option (Int32 × gS) := b_Po_findInner_0 x1 x2 σ
def b_Ga_otherThan_0 (x0 : Int32) : Option Int32 :=
  some (1 - x0)
def f_Ga_otherThan (x0 : Int32) : Option Int32 := b_Ga_otherThan_0 x0
def b_Ta_value_0 (σ : gS) (x1 : Int32) (x2 : Int32) (x3 : Int32) : Option Int32 :=
  if x1 = 0 then (
    ck (inb 0 2) <|
    ck (okI 19 ((64 * x2) + x3)) <|
    some (gI σ 19 ((64 * x2) + x3).toNatClampNeg)
  ) else (
    ck (inb 1 2) <|
    ck (okI 20 ((64 * x3) + x2)) <|
    some (gI σ 20 ((64 * x3) + x2).toNatClampNeg)
  )
def f_Ta_value (σ : gS) (x1 : Int32) (x2 : Int32) (x3 : Int32) : Option Int32 := b_Ta_value_0 σ x1 x2 x3
def b_Ta_bestAgainst_37 (σ : gS) (k5 : Int32 × Int32 × Int32 × Int32 → Option Int32) (x1 : Int32) (x2 : Int32) (x3 : Int32) (x4 : Int32) : Option Int32 :=
  bnd (x4 + 1) fun x4_1 =>
  k5 (x1, x2, x3, x4_1)
def b_Ta_bestAgainst_5 (σ : gS) (k5 : Int32 × Int32 × Int32 × Int32 → Option Int32) (x1 : Int32) (x2 : Int32) (x3 : Int32) (x4 : Int32) : Option Int32 :=
  ck (okI 17 x1) <|
  if (gI σ 17 x1.toNatClampNeg) ≤ x4 then (
    some x3
  ) else (
    (f_Ta_value σ x1 x4 x2).bind fun r_3 =>
    (f_Ta_value σ x1 x3 x2).bind fun r_4 =>
    if r_3 ≤ r_4 then (
      b_Ta_bestAgainst_37 σ k5 x1 x2 x3 x4
    ) else (
      b_Ta_bestAgainst_37 σ k5 x1 x2 x4 x4
    )
  )
def l_Ta_bestAgainst_5 (σ : gS) : Int32 × Int32 × Int32 × Int32 → Option Int32 := lpF (fun k x => b_Ta_bestAgainst_5 σ k x.1 x.2.1 x.2.2.1 x.2.2.2) gF
def b_Ta_bestAgainst_0 (σ : gS) (x1 : Int32) (x2 : Int32) : Option Int32 :=
  l_Ta_bestAgainst_5 σ (x1, x2, 0, 1)
def f_Ta_bestAgainst (σ : gS) (x1 : Int32) (x2 : Int32) : Option Int32 := b_Ta_bestAgainst_0 σ x1 x2
def b_Po_findBest_2 (k2 : Int32 × Int32 × gS → Option gS) (x1 : Int32) (x2 : Int32) (σ : gS) : Option gS :=
  (f_Ga_otherThan x1).bind fun r_1 =>
  ck (okI 17 r_1) <|
  if (gI σ 17 r_1.toNatClampNeg) ≤ x2 then (
    some σ
  ) else (
    ck (inb x1 2) <|
    (f_Ta_bestAgainst σ x1 x2).bind fun r_5 =>
    (f_Ta_value σ x1 r_5 x2).bind fun r_6 =>
    ck (okI (28 + 1 + x1.toNatClampNeg) x2) <|
    bnd (sI σ (28 + 1 + x1.toNatClampNeg) x2.toNatClampNeg r_6) fun σ_8 =>
    bnd (x2 + 1) fun x2_9 =>
    k2 (x1, x2_9, σ_8)
  )
def l_Po_findBest_2  : Int32 × Int32 × gS → Option gS := lpF (fun k x => b_Po_findBest_2 k x.1 x.2.1 x.2.2) gF
def b_Po_findBest_0 (x1 : Int32) (σ : gS) : Option gS :=
  l_Po_findBest_2 (x1, 0, σ)
def f_Po_findBest (σ : gS) (x1 : Int32) : Option gS := b_Po_findBest_0 x1 σ
def b_Po_isPoint_0 (σ : gS) (x1 : Int32) (x2 : Int32) : Option Int32 :=
  (f_Ta_value σ 0 x1 x2).bind fun r_1 =>
  ck (inb 0 2) <|
  ck (okI 29 x2) <|
  if r_1 = (gI σ 29 x2.toNatClampNeg) then (
    (f_Ta_value σ 1 x2 x1).bind fun r_5 =>
    ck (inb 1 2) <|
    ck (okI 30 x1) <|
    if r_5 = (gI σ 30 x1.toNatClampNeg) then (
      ck (isB 1) <| some 1
    ) else (
      ck (isB 0) <| some 0
    )
  ) else (
    ck (isB 0) <| some 0
  )
def f_Po_isPoint (σ : gS) (x1 : Int32) (x2 : Int32) : Option Int32 := b_Po_isPoint_0 σ x1 x2
def b_Po_keepPoints_104 (k36 : Nat × Int32 × Int32 × Int32 × gS → Option gS) (k45 : Nat × Int32 × Int32 × Int32 × Int32 × gS → Option gS) (x2 : Nat) (x3 : Int32) (x4 : Int32) (x5 : Int32) (x6 : Int32) (σ : gS) : Option gS :=
  bnd (x6 + 1) fun x6_1 =>
  k45 (x2, x3, x4, x5, x6_1, σ)
def b_Po_keepPoints_45 (k36 : Nat × Int32 × Int32 × Int32 × gS → Option gS) (k45 : Nat × Int32 × Int32 × Int32 × Int32 × gS → Option gS) (x2 : Nat) (x3 : Int32) (x4 : Int32) (x5 : Int32) (x6 : Int32) (σ : gS) : Option gS :=
  if x4 ≤ x6 then (
    bnd (x5 + 1) fun x5_2 =>
    k36 (x2, x3, x4, x5_2, σ)
  ) else (
    ck (okJ x2 x5) <|
    (f_Ga_hasBit (gL σ x2 x5.toNatClampNeg) x6).bind fun r_4 =>
    if r_4 = 0 then (
      b_Po_keepPoints_104 k36 k45 x2 x3 x4 x5 x6 σ
    ) else (
      ck (inb 0 2) <|
      ck (okI 32 x5) <|
      ck (inb 1 2) <|
      ck (okI 33 x6) <|
      (f_Po_isPoint σ (gI σ 32 x5.toNatClampNeg) (gI σ 33 x6.toNatClampNeg)).bind fun r_10 =>
      if r_10 = 0 then (
        ck (okJ x2 x5) <|
        ck (okJ x2 x5) <|
        bnd (sL σ x2 x5.toNatClampNeg ((gL σ x2 x5.toNatClampNeg) &&& (((1 : Int64) <<< (x6.toInt64 &&& 63)) ^^^ (-1)))) fun σ_14 =>
        b_Po_keepPoints_104 k36 k45 x2 x3 x4 x5 x6 σ_14
      ) else (
        b_Po_keepPoints_104 k36 k45 x2 x3 x4 x5 x6 σ
      )
    )
  )
def l_Po_keepPoints_45 (k36 : Nat × Int32 × Int32 × Int32 × gS → Option gS) : Nat × Int32 × Int32 × Int32 × Int32 × gS → Option gS := lpF (fun k x => b_Po_keepPoints_45 k36 k x.1 x.2.1 x.2.2.1 x.2.2.2.1 x.2.2.2.2.1 x.2.2.2.2.2) gF
def b_Po_keepPoints_36 (k36 : Nat × Int32 × Int32 × Int32 × gS → Option gS) (x2 : Nat) (x3 : Int32) (x4 : Int32) (x5 : Int32) (σ : gS) : Option gS :=
  if x3 ≤ x5 then (
    some σ
  ) else (
    l_Po_keepPoints_45 k36 (x2, x3, x4, x5, 0, σ)
  )
def l_Po_keepPoints_36  : Nat × Int32 × Int32 × Int32 × gS → Option gS := lpF (fun k x => b_Po_keepPoints_36 k x.1 x.2.1 x.2.2.1 x.2.2.2.1 x.2.2.2.2) gF
def b_Po_keepPoints_0 (x1 : Int32) (x2 : Nat) (σ : gS) : Option gS :=
  (f_Ta_fillFrom σ x1).bind fun r_1 =>
  (f_Po_findInner r_1 0 x1).bind fun r_2 =>
  bnd (r_2.1) fun x3_3 =>
  (f_Po_findInner r_2.2 1 x1).bind fun r_4 =>
  bnd (r_4.1) fun x4_5 =>
  (f_Po_findBest r_4.2 0).bind fun r_6 =>
  (f_Po_findBest r_6 1).bind fun r_7 =>
  l_Po_keepPoints_36 (x2, x3_3, x4_5, 0, r_7)
def f_Po_keepPoints (σ : gS) (x1 : Int32) (x2 : Nat) : Option gS := b_Po_keepPoints_0 x1 x2 σ
def b_Po_find_115 (k82 : Int32 × Int64 × Int32 × gS → Option gS) (x2 : Int32) (x3 : Int64) (x5 : Int32) (σ : gS) : Option gS :=
  bnd (x5 + 1) fun x5_1 =>
  k82 (x2, x3, x5_1, σ)
def b_Po_find_82 (k82 : Int32 × Int64 × Int32 × gS → Option gS) (x2 : Int32) (x3 : Int64) (x5 : Int32) (σ : gS) : Option gS :=
  if (gI σ 1 0) ≤ x5 then (
    some σ
  ) else (
    (f_Ga_hasBit x3 x5).bind fun r_2 =>
    if r_2 = 0 then (
      b_Po_find_115 k82 x2 x3 x5 σ
    ) else (
      ck (inb x2 2) <|
      (f_Po_keepPoints σ x5 (24 + 1 + x2.toNatClampNeg)).bind fun r_5 =>
      b_Po_find_115 k82 x2 x3 x5 r_5
    )
  )
def l_Po_find_82  : Int32 × Int64 × Int32 × gS → Option gS := lpF (fun k x => b_Po_find_82 k x.1 x.2.1 x.2.2.1 x.2.2.2) gF
def b_Po_find_78 (x2 : Int32) (y0 : Int64) (σ : gS) : Option gS :=
  l_Po_find_82 (x2, y0, 0, σ)
def b_Po_find_0 (x1 : Int32) (σ : gS) : Option gS :=
  (f_Po_placeOf x1).bind fun r_1 =>
  ck (okI 27 r_1) <|
  if (gI σ 27 r_1.toNatClampNeg) = (gI σ 1 2) then (
    some σ
  ) else (
    ck (okI 27 r_1) <|
    bnd (sI σ 27 r_1.toNatClampNeg (gI σ 1 2)) fun σ_5 =>
    ck (inb r_1 2) <|
    (f_Fo_plansOf σ_5 1).bind fun r_7 =>
    (f_Ga_firstBits r_7).bind fun r_8 =>
    (f_Ar_fillJ σ_5 (24 + 1 + r_1.toNatClampNeg) r_8).bind fun r_9 =>
    if x1 = 0 then (
      (f_Fo_root r_9).bind fun r_11 =>
      b_Po_find_78 r_1 ((1 : Int64) <<< (r_11.toInt64 &&& 63)) r_9
    ) else (
      (f_Fo_gamesWithin r_9).bind fun r_12 =>
      b_Po_find_78 r_1 r_12 r_9
    )
  )
def f_Po_find (σ : gS) (x1 : Int32) : Option gS := b_Po_find_0 x1 σ
def b_Po_howMany_25 (σ : gS) (k25 : Nat × Int32 × Int32 × Int32 → Option Int32) (x2 : Nat) (x3 : Int32) (x4 : Int32) (x5 : Int32) : Option Int32 :=
  if x3 ≤ x5 then (
    some x4
  ) else (
    ck (okJ x2 x5) <|
    (f_Lo_bitCount (gL σ x2 x5.toNatClampNeg)).bind fun r_3 =>
    bnd (x4 + r_3) fun x4_4 =>
    bnd (x5 + 1) fun x5_5 =>
    k25 (x2, x3, x4_4, x5_5)
  )
def l_Po_howMany_25 (σ : gS) : Nat × Int32 × Int32 × Int32 → Option Int32 := lpF (fun k x => b_Po_howMany_25 σ k x.1 x.2.1 x.2.2.1 x.2.2.2) gF
def b_Po_howMany_0 (σ : gS) (x1 : Int32) : Option Int32 :=
  (f_Po_placeOf x1).bind fun r_1 =>
  ck (inb r_1 2) <|
  (f_Fo_plansOf σ 0).bind fun r_3 =>
  l_Po_howMany_25 σ ((24 + 1 + r_1.toNatClampNeg), r_3, 0, 0)
def f_Po_howMany (σ : gS) (x1 : Int32) : Option Int32 := b_Po_howMany_0 σ x1
def b_Ta_fillWhole_0 (σ : gS) : Option gS :=
  (f_Fo_root σ).bind fun r_1 =>
  (f_Ta_fillFrom σ r_1).bind fun r_2 =>
  some r_2
def f_Ta_fillWhole (σ : gS) : Option gS := b_Ta_fillWhole_0 σ
def b_Ta_isWorse_48 (σ : gS) (k3 : Int32 × Int32 × Int32 × Int64 × Int32 → Option Int32) (x1 : Int32) (x2 : Int32) (x3 : Int32) (x4 : Int64) (x6 : Int32) : Option Int32 :=
  bnd (x6 + 1) fun x6_1 =>
  k3 (x1, x2, x3, x4, x6_1)
def b_Ta_isWorse_3 (σ : gS) (k3 : Int32 × Int32 × Int32 × Int64 × Int32 → Option Int32) (x1 : Int32) (x2 : Int32) (x3 : Int32) (x4 : Int64) (x6 : Int32) : Option Int32 :=
  (f_Ga_otherThan x1).bind fun r_1 =>
  ck (okI 17 r_1) <|
  if (gI σ 17 r_1.toNatClampNeg) ≤ x6 then (
    ck (isB 1) <| some 1
  ) else (
    (f_Ga_hasBit x4 x6).bind fun r_4 =>
    if r_4 = 0 then (
      b_Ta_isWorse_48 σ k3 x1 x2 x3 x4 x6
    ) else (
      (f_Ta_value σ x1 x2 x6).bind fun r_6 =>
      (f_Ta_value σ x1 x3 x6).bind fun r_7 =>
      if r_6 < r_7 then (
        b_Ta_isWorse_48 σ k3 x1 x2 x3 x4 x6
      ) else (
        ck (isB 0) <| some 0
      )
    )
  )
def l_Ta_isWorse_3 (σ : gS) : Int32 × Int32 × Int32 × Int64 × Int32 → Option Int32 := lpF (fun k x => b_Ta_isWorse_3 σ k x.1 x.2.1 x.2.2.1 x.2.2.2.1 x.2.2.2.2) gF
def b_Ta_isWorse_0 (σ : gS) (x1 : Int32) (x2 : Int32) (x3 : Int32) (x4 : Int64) : Option Int32 :=
  l_Ta_isWorse_3 σ (x1, x2, x3, x4, 0)
def f_Ta_isWorse (σ : gS) (x1 : Int32) (x2 : Int32) (x3 : Int32) (x4 : Int64) : Option Int32 := b_Ta_isWorse_0 σ x1 x2 x3 x4
def b_Ta_leastBetterAmong_39 (σ : gS) (k3 : Int32 × Int32 × Int64 × Int64 × Int32 → Option Int32) (x1 : Int32) (x2 : Int32) (x3 : Int64) (x5 : Int64) (x7 : Int32) : Option Int32 :=
  bnd (x7 + 1) fun x7_1 =>
  k3 (x1, x2, x3, x5, x7_1)
def b_Ta_leastBetterAmong_3 (σ : gS) (k3 : Int32 × Int32 × Int64 × Int64 × Int32 → Option Int32) (x1 : Int32) (x2 : Int32) (x3 : Int64) (x5 : Int64) (x7 : Int32) : Option Int32 :=
  ck (okI 17 x1) <|
  if (gI σ 17 x1.toNatClampNeg) ≤ x7 then (
    some (-1)
  ) else (
    (f_Ga_hasBit x3 x7).bind fun r_3 =>
    if r_3 = 0 then (
      b_Ta_leastBetterAmong_39 σ k3 x1 x2 x3 x5 x7
    ) else (
      (f_Ta_isWorse σ x1 x2 x7 x5).bind fun r_5 =>
      if r_5 = 0 then (
        b_Ta_leastBetterAmong_39 σ k3 x1 x2 x3 x5 x7
      ) else (
        some x7
      )
    )
  )
def l_Ta_leastBetterAmong_3 (σ : gS) : Int32 × Int32 × Int64 × Int64 × Int32 → Option Int32 := lpF (fun k x => b_Ta_leastBetterAmong_3 σ k x.1 x.2.1 x.2.2.1 x.2.2.2.1 x.2.2.2.2) gF
def b_Ta_leastBetterAmong_0 (σ : gS) (x1 : Int32) (x2 : Int32) (x3 : Int64) (x5 : Int64) : Option Int32 :=
  l_Ta_leastBetterAmong_3 σ (x1, x2, x3, x5, 0)
def f_Ta_leastBetterAmong (σ : gS) (x1 : Int32) (x2 : Int32) (x3 : Int64) (x5 : Int64) : Option Int32 := b_Ta_leastBetterAmong_0 σ x1 x2 x3 x5
def b_Le_thoseThatGo_69 (σ : gS) (k5 : Int32 × Int64 × Int32 → Option Int64) (x1 : Int32) (x2 : Int64) (x4 : Int32) : Option Int64 :=
  bnd (x4 + 1) fun x4_1 =>
  k5 (x1, x2, x4_1)
def b_Le_thoseThatGo_5 (σ : gS) (k5 : Int32 × Int64 × Int32 → Option Int64) (x1 : Int32) (x2 : Int64) (x4 : Int32) : Option Int64 :=
  ck (okI 17 x1) <|
  if (gI σ 17 x1.toNatClampNeg) ≤ x4 then (
    some x2
  ) else (
    ck (okJ 38 x1) <|
    (f_Ga_hasBit (gL σ 38 x1.toNatClampNeg) x4).bind fun r_4 =>
    if r_4 = 0 then (
      b_Le_thoseThatGo_69 σ k5 x1 x2 x4
    ) else (
      ck (okJ 38 x1) <|
      (f_Ga_otherThan x1).bind fun r_7 =>
      ck (okJ 38 r_7) <|
      (f_Ta_leastBetterAmong σ x1 x4 (gL σ 38 x1.toNatClampNeg) (gL σ 38 r_7.toNatClampNeg)).bind fun r_9 =>
      if r_9 = (-1) then (
        b_Le_thoseThatGo_69 σ k5 x1 x2 x4
      ) else (
        bnd (x2 ||| ((1 : Int64) <<< (x4.toInt64 &&& 63))) fun x2_11 =>
        b_Le_thoseThatGo_69 σ k5 x1 x2_11 x4
      )
    )
  )
def l_Le_thoseThatGo_5 (σ : gS) : Int32 × Int64 × Int32 → Option Int64 := lpF (fun k x => b_Le_thoseThatGo_5 σ k x.1 x.2.1 x.2.2) gF
def b_Le_thoseThatGo_0 (σ : gS) (x1 : Int32) : Option Int64 :=
  l_Le_thoseThatGo_5 σ (x1, 0, 0)
def f_Le_thoseThatGo (σ : gS) (x1 : Int32) : Option Int64 := b_Le_thoseThatGo_0 σ x1
def b_Le_takeAway_37 (k3 : Int32 × Int64 × Int32 × Int32 × gS → Option gS) (x1 : Int32) (x2 : Int64) (x4 : Int32) (x5 : Int32) (σ : gS) : Option gS :=
  bnd (x5 + 1) fun x5_1 =>
  k3 (x1, x2, x4, x5_1, σ)
def b_Le_takeAway_3 (k3 : Int32 × Int64 × Int32 × Int32 × gS → Option gS) (x1 : Int32) (x2 : Int64) (x4 : Int32) (x5 : Int32) (σ : gS) : Option gS :=
  ck (okI 17 x1) <|
  if (gI σ 17 x1.toNatClampNeg) ≤ x5 then (
    ck (okJ 38 x1) <|
    ck (okJ 38 x1) <|
    bnd (sL σ 38 x1.toNatClampNeg ((gL σ 38 x1.toNatClampNeg) &&& (x2 ^^^ (-1)))) fun σ_5 =>
    some σ_5
  ) else (
    (f_Ga_hasBit x2 x5).bind fun r_6 =>
    if r_6 = 0 then (
      b_Le_takeAway_37 k3 x1 x2 x4 x5 σ
    ) else (
      ck (inb x1 2) <|
      ck (okI (35 + 1 + x1.toNatClampNeg) x5) <|
      bnd (sI σ (35 + 1 + x1.toNatClampNeg) x5.toNatClampNeg x4) fun σ_10 =>
      b_Le_takeAway_37 k3 x1 x2 x4 x5 σ_10
    )
  )
def l_Le_takeAway_3  : Int32 × Int64 × Int32 × Int32 × gS → Option gS := lpF (fun k x => b_Le_takeAway_3 k x.1 x.2.1 x.2.2.1 x.2.2.2.1 x.2.2.2.2) gF
def b_Le_takeAway_0 (x1 : Int32) (x2 : Int64) (x4 : Int32) (σ : gS) : Option gS :=
  l_Le_takeAway_3 (x1, x2, x4, 0, σ)
def f_Le_takeAway (σ : gS) (x1 : Int32) (x2 : Int64) (x4 : Int32) : Option gS := b_Le_takeAway_0 x1 x2 x4 σ
def b_Le_playAll_105 (k69 : Int32 × gS → Option gS) (x1 : Int32) (x2 : Int64) (x4 : Int64) (σ : gS) : Option gS :=
  (f_Le_takeAway σ 0 x2 x1).bind fun r_1 =>
  (f_Le_takeAway r_1 1 x4 x1).bind fun r_2 =>
  bnd (x1 + 1) fun x1_3 =>
  k69 (x1_3, r_2)
def b_Le_playAll_69 (k69 : Int32 × gS → Option gS) (x1 : Int32) (σ : gS) : Option gS :=
  if 128 < x1 then (
    some σ
  ) else (
    (f_Le_thoseThatGo σ 0).bind fun r_2 =>
    (f_Le_thoseThatGo σ 1).bind fun r_3 =>
    if (lg_cmp r_2 0) = 0 then (
      if (lg_cmp r_3 0) = 0 then (
        some σ
      ) else (
        b_Le_playAll_105 k69 x1 r_2 r_3 σ
      )
    ) else (
      b_Le_playAll_105 k69 x1 r_2 r_3 σ
    )
  )
def l_Le_playAll_69  : Int32 × gS → Option gS := lpF (fun k x => b_Le_playAll_69 k x.1 x.2) gF
def b_Le_playAll_28 (k28 : Int32 × gS → Option gS) (x1 : Int32) (σ : gS) : Option gS :=
  if 2 ≤ x1 then (
    l_Le_playAll_69 (1, σ)
  ) else (
    ck (inb x1 2) <|
    (f_Ar_fillI σ (35 + 1 + x1.toNatClampNeg) (-1)).bind fun r_3 =>
    ck (okI 17 x1) <|
    (f_Ga_firstBits (gI r_3 17 x1.toNatClampNeg)).bind fun r_5 =>
    ck (okJ 38 x1) <|
    bnd (sL r_3 38 x1.toNatClampNeg r_5) fun σ_7 =>
    bnd (x1 + 1) fun x1_8 =>
    k28 (x1_8, σ_7)
  )
def l_Le_playAll_28  : Int32 × gS → Option gS := lpF (fun k x => b_Le_playAll_28 k x.1 x.2) gF
def b_Le_playAll_0 (σ : gS) : Option gS :=
  if (gI σ 34 4) = (gI σ 1 2) then (
    some σ
  ) else (
    bnd (sI σ 34 4 (gI σ 1 2)) fun σ_2 =>
    l_Le_playAll_28 (0, σ_2)
  )
def f_Le_playAll (σ : gS) : Option gS := b_Le_playAll_0 σ
def b_Le_pairsLeft_0 (σ : gS) : Option Int32 :=
  ck (okJ 38 0) <|
  (f_Lo_bitCount (gL σ 38 (0 : Int32).toNatClampNeg)).bind fun r_2 =>
  ck (okJ 38 1) <|
  (f_Lo_bitCount (gL σ 38 (1 : Int32).toNatClampNeg)).bind fun r_4 =>
  some (r_2 * r_4)
def f_Le_pairsLeft (σ : gS) : Option Int32 := b_Le_pairsLeft_0 σ
def b_Fo_depthOfTree_0 (σ : gS) : Option Int32 :=
  if (gI σ 1 0) = 0 then (
    some 0
  ) else (
    (f_Fo_root σ).bind fun r_2 =>
    ck (okI 9 r_2) <|
    some (gI σ 9 r_2.toNatClampNeg)
  )
def f_Fo_depthOfTree (σ : gS) : Option Int32 := b_Fo_depthOfTree_0 σ
def b_Ga_count_28 (x1 : Int32) (σ : gS) : Option (Int32 × gS) :=
  if x1 < 0 then (
    (f_Fo_depthOfTree σ).bind fun r_1 =>
    some (r_1, σ)
  ) else
  if 8 < x1 then (
    (f_Fo_depthOfTree σ).bind fun r_4 =>
    some (r_4, σ)
  ) else
  if x1 = 0 then (
    some (gI σ 1 0, σ)
  ) else
  if x1 = 1 then (
    some (gI σ 1 1, σ)
  ) else
  if x1 = 2 then (
    (f_Fo_nodesInTree σ).bind fun r_8 =>
    (f_Lo_bitCount r_8).bind fun r_9 =>
    some (r_9, σ)
  ) else
  if x1 = 3 then (
    (f_Fo_plansOf σ 0).bind fun r_11 =>
    some (r_11, σ)
  ) else
  if x1 = 4 then (
    (f_Fo_plansOf σ 1).bind fun r_13 =>
    some (r_13, σ)
  ) else
  if x1 = 5 then (
    (f_Po_find σ 0).bind fun r_15 =>
    (f_Po_howMany r_15 0).bind fun r_16 =>
    some (r_16, r_15)
  ) else
  if x1 = 6 then (
    (f_Po_find σ 1).bind fun r_18 =>
    (f_Po_howMany r_18 1).bind fun r_19 =>
    some (r_19, r_18)
  ) else
  if x1 = 7 then (
    (f_Fo_gamesWithin σ).bind fun r_21 =>
    (f_Lo_bitCount r_21).bind fun r_22 =>
    some (r_22, σ)
  ) else
  if x1 = 8 then (
    (f_Ta_fillWhole σ).bind fun r_24 =>
    (f_Le_playAll r_24).bind fun r_25 =>
    (f_Le_pairsLeft r_25).bind fun r_26 =>
    some (r_26, r_25)
  ) else
  none
def b_Ga_count_0 (x1 : Int32) (σ : gS) : Option (Int32 × gS) :=
  (f_Ga_isAmong x1 0 9).bind fun r_1 =>
  if r_1 = 0 then (
    some ((-2), σ)
  ) else (
    if x1 ≤ 2 then (
      b_Ga_count_28 x1 σ
    ) else (
      (f_Ga_isEmpty σ).bind fun r_4 =>
      if r_4 = 0 then (
        b_Ga_count_28 x1 σ
      ) else (
        some ((-1000000), σ)
      )
    )
  )
def f_Ga_count (σ : gS) (x1 : Int32) : Option (Int32 × gS) := b_Ga_count_0 x1 σ
def b_Ga_told_127 (σ : gS) (x1 : Int32) (x2 : Int32) : Option Int32 :=
  (f_Fo_childAt σ x1 (x2 - 3)).bind fun r_1 =>
  some r_1
def b_Ga_told_47 (σ : gS) (x1 : Int32) (x2 : Int32) (y0 : Int32) : Option Int32 :=
  if x2 = 0 then (
    ck (okI 2 x1) <|
    some (gI σ 2 x1.toNatClampNeg)
  ) else (
    if x2 = 1 then (
      if y0 = 0 then (
        ck (okI 3 x1) <|
        some (gI σ 3 x1.toNatClampNeg)
      ) else (
        (f_Fo_worthAt σ x1 0).bind fun r_10 =>
        some r_10
      )
    ) else (
      if x2 = 2 then (
        ck (okI 4 x1) <|
        some (gI σ 4 x1.toNatClampNeg)
      ) else (
        if x2 = 3 then (
          if y0 = 0 then (
            b_Ga_told_127 σ x1 x2
          ) else (
            (f_Fo_worthAt σ x1 1).bind fun r_6 =>
            some r_6
          )
        ) else (
          b_Ga_told_127 σ x1 x2
        )
      )
    )
  )
def b_Ga_told_0 (σ : gS) (x1 : Int32) (x2 : Int32) : Option Int32 :=
  (f_Ga_isEmpty σ).bind fun r_1 =>
  if r_1 = 0 then (
    (f_Fo_hasNode σ x1).bind fun r_3 =>
    if r_3 = 0 then (
      some (-1000000)
    ) else (
      (f_Ga_isAmong x2 0 5).bind fun r_5 =>
      if r_5 = 0 then (
        some (-1000000)
      ) else (
        ck (okI 2 x1) <|
        if (gI σ 2 x1.toNatClampNeg) = 0 then (
          b_Ga_told_47 σ x1 x2 1
        ) else (
          b_Ga_told_47 σ x1 x2 0
        )
      )
    )
  ) else (
    some (-1000000)
  )
def f_Ga_told (σ : gS) (x1 : Int32) (x2 : Int32) : Option Int32 := b_Ga_told_0 σ x1 x2
def b_Ga_isPlan_0 (σ : gS) (x1 : Int32) (x2 : Int32) : Option Int32 :=
  (f_Ga_isPlayer x1).bind fun r_1 =>
  if r_1 = 0 then (
    ck (isB 0) <| some 0
  ) else (
    if x2 < 0 then (
      ck (isB 0) <| some 0
    ) else (
      (f_Fo_plansOf σ x1).bind fun r_4 =>
      if r_4 ≤ x2 then (
        ck (isB 0) <| some 0
      ) else (
        ck (isB 1) <| some 1
      )
    )
  )
def f_Ga_isPlan (σ : gS) (x1 : Int32) (x2 : Int32) : Option Int32 := b_Ga_isPlan_0 σ x1 x2
def b_Fo_actNamed_69 (σ : gS) (k11 : Int32 × Int32 × Int32 × Int32 → Option Int32) (x1 : Int32) (x3 : Int32) (x4 : Int32) (x5 : Int32) : Option Int32 :=
  bnd (x5 + (-1)) fun x5_1 =>
  k11 (x1, x3, x4, x5_1)
def b_Fo_actNamed_11 (σ : gS) (k11 : Int32 × Int32 × Int32 × Int32 → Option Int32) (x1 : Int32) (x3 : Int32) (x4 : Int32) (x5 : Int32) : Option Int32 :=
  if x5 < 0 then (
    some (-1)
  ) else (
    (f_Fo_root σ).bind fun r_2 =>
    (f_Fo_isPlayedFrom σ r_2 x1 x5).bind fun r_3 =>
    if r_3 = 0 then (
      b_Fo_actNamed_69 σ k11 x1 x3 x4 x5
    ) else (
      ck (okI 5 x5) <|
      if (gI σ 5 x5.toNatClampNeg) ≤ 0 then (
        b_Fo_actNamed_69 σ k11 x1 x3 x4 x5
      ) else (
        if x5 = x3 then (
          ck (okI 5 x5) <|
          ck (nz (gI σ 5 x5.toNatClampNeg)) <|
          some (x4 - x4 / (gI σ 5 x5.toNatClampNeg) * (gI σ 5 x5.toNatClampNeg))
        ) else (
          ck (okI 5 x5) <|
          ck (nz (gI σ 5 x5.toNatClampNeg)) <|
          bnd (x4 / (gI σ 5 x5.toNatClampNeg)) fun x4_10 =>
          b_Fo_actNamed_69 σ k11 x1 x3 x4_10 x5
        )
      )
    )
  )
def l_Fo_actNamed_11 (σ : gS) : Int32 × Int32 × Int32 × Int32 → Option Int32 := lpF (fun k x => b_Fo_actNamed_11 σ k x.1 x.2.1 x.2.2.1 x.2.2.2) gF
def b_Fo_actNamed_0 (σ : gS) (x1 : Int32) (x2 : Int32) (x3 : Int32) : Option Int32 :=
  bnd ((gI σ 1 1) - 1) fun x5_1 =>
  l_Fo_actNamed_11 σ (x1, x3, x2, x5_1)
def f_Fo_actNamed (σ : gS) (x1 : Int32) (x2 : Int32) (x3 : Int32) : Option Int32 := b_Fo_actNamed_0 σ x1 x2 x3
def b_Ga_act_0 (σ : gS) (x1 : Int32) (x2 : Int32) (x3 : Int32) : Option Int32 :=
  (f_Ga_isEmpty σ).bind fun r_1 =>
  if r_1 = 0 then (
    (f_Ga_isPlan σ x1 x2).bind fun r_3 =>
    if r_3 = 0 then (
      some (-2)
    ) else (
      (f_Fo_hasSet σ x3).bind fun r_5 =>
      if r_5 = 0 then (
        some (-2)
      ) else (
        (f_Fo_actNamed σ x1 x2 x3).bind fun r_7 =>
        some r_7
      )
    )
  ) else (
    some (-1000000)
  )
def f_Ga_act (σ : gS) (x1 : Int32) (x2 : Int32) (x3 : Int32) : Option Int32 := b_Ga_act_0 σ x1 x2 x3
def b_Ta_valueOfPair_0 (σ : gS) (x1 : Int32) (x2 : Int32) (x3 : Int32) : Option Int32 :=
  ck (inb x1 2) <|
  ck (okI (18 + 1 + x1.toNatClampNeg) ((64 * x2) + x3)) <|
  some (gI σ (18 + 1 + x1.toNatClampNeg) ((64 * x2) + x3).toNatClampNeg)
def f_Ta_valueOfPair (σ : gS) (x1 : Int32) (x2 : Int32) (x3 : Int32) : Option Int32 := b_Ta_valueOfPair_0 σ x1 x2 x3
def b_Ga_worth_0 (x1 : Int32) (x2 : Int32) (x3 : Int32) (σ : gS) : Option (Int32 × gS) :=
  (f_Ga_isEmpty σ).bind fun r_1 =>
  if r_1 = 0 then (
    (f_Ga_isPlan σ 0 x1).bind fun r_3 =>
    if r_3 = 0 then (
      some ((-1000000), σ)
    ) else (
      (f_Ga_isPlan σ 1 x2).bind fun r_5 =>
      if r_5 = 0 then (
        some ((-1000000), σ)
      ) else (
        (f_Ga_isPlayer x3).bind fun r_7 =>
        if r_7 = 0 then (
          some ((-1000000), σ)
        ) else (
          (f_Ta_fillWhole σ).bind fun r_9 =>
          (f_Ta_valueOfPair r_9 x3 x1 x2).bind fun r_10 =>
          some (r_10, r_9)
        )
      )
    )
  ) else (
    some ((-1000000), σ)
  )
def f_Ga_worth (σ : gS) (x1 : Int32) (x2 : Int32) (x3 : Int32) : Option (Int32 × gS) := b_Ga_worth_0 x1 x2 x3 σ
def b_Ga_answer_0 (x1 : Int32) (x2 : Int32) (σ : gS) : Option (Int32 × gS) :=
  (f_Ga_isEmpty σ).bind fun r_1 =>
  if r_1 = 0 then (
    (f_Ga_isPlayer x1).bind fun r_3 =>
    if r_3 = 0 then (
      some ((-2), σ)
    ) else (
      (f_Ga_otherThan x1).bind fun r_5 =>
      (f_Ga_isPlan σ r_5 x2).bind fun r_6 =>
      if r_6 = 0 then (
        some ((-2), σ)
      ) else (
        (f_Ta_fillWhole σ).bind fun r_8 =>
        (f_Ta_bestAgainst r_8 x1 x2).bind fun r_9 =>
        some (r_9, r_8)
      )
    )
  ) else (
    some ((-1000000), σ)
  )
def f_Ga_answer (σ : gS) (x1 : Int32) (x2 : Int32) : Option (Int32 × gS) := b_Ga_answer_0 x1 x2 σ
def b_Ga_bitAt_32 (k5 : Int64 × Int32 × Int32 × Int32 → Option Int32) (x0 : Int64) (x2 : Int32) (x3 : Int32) (x4 : Int32) : Option Int32 :=
  bnd (x4 + 1) fun x4_1 =>
  k5 (x0, x2, x3, x4_1)
def b_Ga_bitAt_5 (k5 : Int64 × Int32 × Int32 × Int32 → Option Int32) (x0 : Int64) (x2 : Int32) (x3 : Int32) (x4 : Int32) : Option Int32 :=
  if 64 ≤ x4 then (
    some (-1)
  ) else (
    (f_Ga_hasBit x0 x4).bind fun r_2 =>
    if r_2 = 0 then (
      b_Ga_bitAt_32 k5 x0 x2 x3 x4
    ) else (
      if x3 = x2 then (
        some x4
      ) else (
        bnd (x3 + 1) fun x3_5 =>
        b_Ga_bitAt_32 k5 x0 x2 x3_5 x4
      )
    )
  )
def l_Ga_bitAt_5  : Int64 × Int32 × Int32 × Int32 → Option Int32 := lpF (fun k x => b_Ga_bitAt_5 k x.1 x.2.1 x.2.2.1 x.2.2.2) gF
def b_Ga_bitAt_0 (x0 : Int64) (x2 : Int32) : Option Int32 :=
  l_Ga_bitAt_5 (x0, x2, 0, 0)
def f_Ga_bitAt (x0 : Int64) (x2 : Int32) : Option Int32 := b_Ga_bitAt_0 x0 x2
def b_Po_pointAt_26 (σ : gS) (k26 : Nat × Int32 × Int32 × Int32 → Option Int32) (x3 : Nat) (x4 : Int32) (x5 : Int32) (x6 : Int32) : Option Int32 :=
  if x4 ≤ x6 then (
    some (-1)
  ) else (
    if x5 < 0 then (
      some (-1)
    ) else (
      ck (okJ x3 x6) <|
      (f_Lo_bitCount (gL σ x3 x6.toNatClampNeg)).bind fun r_4 =>
      if r_4 ≤ x5 then (
        bnd (x5 - r_4) fun x5_6 =>
        bnd (x6 + 1) fun x6_7 =>
        k26 (x3, x4, x5_6, x6_7)
      ) else (
        ck (okJ x3 x6) <|
        (f_Ga_bitAt (gL σ x3 x6.toNatClampNeg) x5).bind fun r_9 =>
        some ((64 * x6) + r_9)
      )
    )
  )
def l_Po_pointAt_26 (σ : gS) : Nat × Int32 × Int32 × Int32 → Option Int32 := lpF (fun k x => b_Po_pointAt_26 σ k x.1 x.2.1 x.2.2.1 x.2.2.2) gF
def b_Po_pointAt_0 (σ : gS) (x1 : Int32) (x2 : Int32) : Option Int32 :=
  (f_Po_placeOf x1).bind fun r_1 =>
  ck (inb r_1 2) <|
  (f_Fo_plansOf σ 0).bind fun r_3 =>
  l_Po_pointAt_26 σ ((24 + 1 + r_1.toNatClampNeg), r_3, x2, 0)
def f_Po_pointAt (σ : gS) (x1 : Int32) (x2 : Int32) : Option Int32 := b_Po_pointAt_0 σ x1 x2
def b_Ga_point_0 (x1 : Int32) (x2 : Int32) (σ : gS) : Option (Int32 × gS) :=
  (f_Ga_isEmpty σ).bind fun r_1 =>
  if r_1 = 0 then (
    (f_Po_find σ x1).bind fun r_3 =>
    (f_Po_pointAt r_3 x1 x2).bind fun r_4 =>
    some (r_4, r_3)
  ) else (
    some ((-1000000), σ)
  )
def f_Ga_point (σ : gS) (x1 : Int32) (x2 : Int32) : Option (Int32 × gS) := b_Ga_point_0 x1 x2 σ
def b_Ga_within_0 (σ : gS) (x1 : Int32) : Option Int32 :=
  (f_Ga_isEmpty σ).bind fun r_1 =>
  if r_1 = 0 then (
    (f_Fo_gamesWithin σ).bind fun r_3 =>
    (f_Ga_bitAt r_3 x1).bind fun r_4 =>
    some r_4
  ) else (
    some (-1000000)
  )
def f_Ga_within (σ : gS) (x1 : Int32) : Option Int32 := b_Ga_within_0 σ x1
def b_Ta_areOne_61 (σ : gS) (k3 : Int32 × Int32 × Int32 × Int32 → Option Int32) (x1 : Int32) (x2 : Int32) (x3 : Int32) (x4 : Int32) (x5 : Int32) (y0 : Int32) : Option Int32 :=
  ck (inb 0 2) <|
  ck (okI 19 x5) <|
  ck (inb 0 2) <|
  ck (okI 19 y0) <|
  if (gI σ 19 x5.toNatClampNeg) = (gI σ 19 y0.toNatClampNeg) then (
    ck (inb 1 2) <|
    ck (okI 20 x5) <|
    ck (inb 1 2) <|
    ck (okI 20 y0) <|
    if (gI σ 20 x5.toNatClampNeg) = (gI σ 20 y0.toNatClampNeg) then (
      bnd (x4 + 1) fun x4_11 =>
      k3 (x1, x2, x3, x4_11)
    ) else (
      ck (isB 0) <| some 0
    )
  ) else (
    ck (isB 0) <| some 0
  )
def b_Ta_areOne_38 (σ : gS) (k3 : Int32 × Int32 × Int32 × Int32 → Option Int32) (x1 : Int32) (x2 : Int32) (x3 : Int32) (x4 : Int32) (y0 : Int32) : Option Int32 :=
  if x1 = 0 then (
    b_Ta_areOne_61 σ k3 x1 x2 x3 x4 y0 ((64 * x3) + x4)
  ) else (
    b_Ta_areOne_61 σ k3 x1 x2 x3 x4 y0 ((64 * x4) + x3)
  )
def b_Ta_areOne_3 (σ : gS) (k3 : Int32 × Int32 × Int32 × Int32 → Option Int32) (x1 : Int32) (x2 : Int32) (x3 : Int32) (x4 : Int32) : Option Int32 :=
  (f_Ga_otherThan x1).bind fun r_1 =>
  ck (okI 17 r_1) <|
  if (gI σ 17 r_1.toNatClampNeg) ≤ x4 then (
    ck (isB 1) <| some 1
  ) else (
    if x1 = 0 then (
      b_Ta_areOne_38 σ k3 x1 x2 x3 x4 ((64 * x2) + x4)
    ) else (
      b_Ta_areOne_38 σ k3 x1 x2 x3 x4 ((64 * x4) + x2)
    )
  )
def l_Ta_areOne_3 (σ : gS) : Int32 × Int32 × Int32 × Int32 → Option Int32 := lpF (fun k x => b_Ta_areOne_3 σ k x.1 x.2.1 x.2.2.1 x.2.2.2) gF
def b_Ta_areOne_0 (σ : gS) (x1 : Int32) (x2 : Int32) (x3 : Int32) : Option Int32 :=
  l_Ta_areOne_3 σ (x1, x2, x3, 0)
def f_Ta_areOne (σ : gS) (x1 : Int32) (x2 : Int32) (x3 : Int32) : Option Int32 := b_Ta_areOne_0 σ x1 x2 x3
def b_Ta_leastOneWith_2 (σ : gS) (k2 : Int32 × Int32 × Int32 → Option Int32) (x1 : Int32) (x2 : Int32) (x3 : Int32) : Option Int32 :=
  if x2 ≤ x3 then (
    some x2
  ) else (
    (f_Ta_areOne σ x1 x2 x3).bind fun r_2 =>
    if r_2 = 0 then (
      bnd (x3 + 1) fun x3_4 =>
      k2 (x1, x2, x3_4)
    ) else (
      some x3
    )
  )
def l_Ta_leastOneWith_2 (σ : gS) : Int32 × Int32 × Int32 → Option Int32 := lpF (fun k x => b_Ta_leastOneWith_2 σ k x.1 x.2.1 x.2.2) gF
def b_Ta_leastOneWith_0 (σ : gS) (x1 : Int32) (x2 : Int32) : Option Int32 :=
  l_Ta_leastOneWith_2 σ (x1, x2, 0)
def f_Ta_leastOneWith (σ : gS) (x1 : Int32) (x2 : Int32) : Option Int32 := b_Ta_leastOneWith_0 σ x1 x2
def b_Ta_leastBetter_0 (σ : gS) (x1 : Int32) (x2 : Int32) : Option Int32 :=
  ck (okI 17 x1) <|
  (f_Ga_firstBits (gI σ 17 x1.toNatClampNeg)).bind fun r_2 =>
  (f_Ga_otherThan x1).bind fun r_3 =>
  ck (okI 17 r_3) <|
  (f_Ga_firstBits (gI σ 17 r_3.toNatClampNeg)).bind fun r_5 =>
  (f_Ta_leastBetterAmong σ x1 x2 r_2 r_5).bind fun r_6 =>
  some r_6
def f_Ta_leastBetter (σ : gS) (x1 : Int32) (x2 : Int32) : Option Int32 := b_Ta_leastBetter_0 σ x1 x2
def b_Ta_isWeaklyWorse_63 (σ : gS) (k6 : Int32 × Int32 × Int32 × Int32 × Int32 → Option Int32) (x1 : Int32) (x2 : Int32) (x3 : Int32) (x5 : Int32) (y0 : Int32) (y1 : Int32) : Option Int32 :=
  bnd (y0 ||| y1) fun x4_1 =>
  bnd (x5 + 1) fun x5_2 =>
  k6 (x1, x2, x3, x4_1, x5_2)
def b_Ta_isWeaklyWorse_6 (σ : gS) (k6 : Int32 × Int32 × Int32 × Int32 × Int32 → Option Int32) (x1 : Int32) (x2 : Int32) (x3 : Int32) (x4 : Int32) (x5 : Int32) : Option Int32 :=
  (f_Ga_otherThan x1).bind fun r_1 =>
  ck (okI 17 r_1) <|
  if (gI σ 17 r_1.toNatClampNeg) ≤ x5 then (
    ck (isB x4) <| some x4
  ) else (
    (f_Ta_value σ x1 x2 x5).bind fun r_4 =>
    (f_Ta_value σ x1 x3 x5).bind fun r_5 =>
    if r_4 ≤ r_5 then (
      if r_5 ≤ r_4 then (
        b_Ta_isWeaklyWorse_63 σ k6 x1 x2 x3 x5 x4 0
      ) else (
        b_Ta_isWeaklyWorse_63 σ k6 x1 x2 x3 x5 x4 1
      )
    ) else (
      ck (isB 0) <| some 0
    )
  )
def l_Ta_isWeaklyWorse_6 (σ : gS) : Int32 × Int32 × Int32 × Int32 × Int32 → Option Int32 := lpF (fun k x => b_Ta_isWeaklyWorse_6 σ k x.1 x.2.1 x.2.2.1 x.2.2.2.1 x.2.2.2.2) gF
def b_Ta_isWeaklyWorse_0 (σ : gS) (x1 : Int32) (x2 : Int32) (x3 : Int32) : Option Int32 :=
  l_Ta_isWeaklyWorse_6 σ (x1, x2, x3, 0, 0)
def f_Ta_isWeaklyWorse (σ : gS) (x1 : Int32) (x2 : Int32) (x3 : Int32) : Option Int32 := b_Ta_isWeaklyWorse_0 σ x1 x2 x3
def b_Ta_leastWeaklyBetter_2 (σ : gS) (k2 : Int32 × Int32 × Int32 → Option Int32) (x1 : Int32) (x2 : Int32) (x3 : Int32) : Option Int32 :=
  ck (okI 17 x1) <|
  if (gI σ 17 x1.toNatClampNeg) ≤ x3 then (
    some (-1)
  ) else (
    (f_Ta_isWeaklyWorse σ x1 x2 x3).bind fun r_3 =>
    if r_3 = 0 then (
      bnd (x3 + 1) fun x3_5 =>
      k2 (x1, x2, x3_5)
    ) else (
      some x3
    )
  )
def l_Ta_leastWeaklyBetter_2 (σ : gS) : Int32 × Int32 × Int32 → Option Int32 := lpF (fun k x => b_Ta_leastWeaklyBetter_2 σ k x.1 x.2.1 x.2.2) gF
def b_Ta_leastWeaklyBetter_0 (σ : gS) (x1 : Int32) (x2 : Int32) : Option Int32 :=
  l_Ta_leastWeaklyBetter_2 σ (x1, x2, 0)
def f_Ta_leastWeaklyBetter (σ : gS) (x1 : Int32) (x2 : Int32) : Option Int32 := b_Ta_leastWeaklyBetter_0 σ x1 x2
def b_Ga_than_0 (x1 : Int32) (x2 : Int32) (x3 : Int32) (σ : gS) : Option (Int32 × gS) :=
  (f_Ga_isEmpty σ).bind fun r_1 =>
  if r_1 = 0 then (
    (f_Ga_isPlan σ x1 x2).bind fun r_3 =>
    if r_3 = 0 then (
      some ((-2), σ)
    ) else (
      (f_Ga_isAmong x3 0 2).bind fun r_5 =>
      if r_5 = 0 then (
        some ((-2), σ)
      ) else (
        (f_Ta_fillWhole σ).bind fun r_7 =>
        if x3 = 2 then (
          (f_Ta_leastOneWith r_7 x1 x2).bind fun r_12 =>
          some (r_12, r_7)
        ) else (
          if x3 = 0 then (
            (f_Ta_leastBetter r_7 x1 x2).bind fun r_11 =>
            some (r_11, r_7)
          ) else (
            (f_Ta_leastWeaklyBetter r_7 x1 x2).bind fun r_10 =>
            some (r_10, r_7)
          )
        )
      )
    )
  ) else (
    some ((-1000000), σ)
  )
def f_Ga_than (σ : gS) (x1 : Int32) (x2 : Int32) (x3 : Int32) : Option (Int32 × gS) := b_Ga_than_0 x1 x2 x3 σ
def b_Le_roundOf_0 (σ : gS) (x1 : Int32) (x2 : Int32) : Option Int32 :=
  ck (inb x1 2) <|
  ck (okI (35 + 1 + x1.toNatClampNeg) x2) <|
  some (gI σ (35 + 1 + x1.toNatClampNeg) x2.toNatClampNeg)
def f_Le_roundOf (σ : gS) (x1 : Int32) (x2 : Int32) : Option Int32 := b_Le_roundOf_0 σ x1 x2
def b_Ga_goes_0 (x1 : Int32) (x2 : Int32) (σ : gS) : Option (Int32 × gS) :=
  (f_Ga_isEmpty σ).bind fun r_1 =>
  if r_1 = 0 then (
    (f_Ga_isPlan σ x1 x2).bind fun r_3 =>
    if r_3 = 0 then (
      some ((-2), σ)
    ) else (
      (f_Ta_fillWhole σ).bind fun r_5 =>
      (f_Le_playAll r_5).bind fun r_6 =>
      (f_Le_roundOf r_6 x1 x2).bind fun r_7 =>
      some (r_7, r_6)
    )
  ) else (
    some ((-1000000), σ)
  )
def f_Ga_goes (σ : gS) (x1 : Int32) (x2 : Int32) : Option (Int32 × gS) := b_Ga_goes_0 x1 x2 σ
def b_Ma_min_0 (x0 : Int32) (x1 : Int32) : Option Int32 :=
  if x1 < x0 then (
    some x1
  ) else (
    some x0
  )
def f_Ma_min (x0 : Int32) (x1 : Int32) : Option Int32 := b_Ma_min_0 x0 x1
def b_Ta_leastOf_11 (σ : gS) (k11 : Int32 × Int32 × Int32 × Int32 → Option Int32) (x1 : Int32) (x2 : Int32) (x3 : Int32) (x4 : Int32) : Option Int32 :=
  (f_Ga_otherThan x1).bind fun r_1 =>
  ck (okI 17 r_1) <|
  if (gI σ 17 r_1.toNatClampNeg) ≤ x4 then (
    some x3
  ) else (
    (f_Ta_value σ x1 x2 x4).bind fun r_4 =>
    (f_Ma_min x3 r_4).bind fun r_5 =>
    bnd (x4 + 1) fun x4_6 =>
    k11 (x1, x2, r_5, x4_6)
  )
def l_Ta_leastOf_11 (σ : gS) : Int32 × Int32 × Int32 × Int32 → Option Int32 := lpF (fun k x => b_Ta_leastOf_11 σ k x.1 x.2.1 x.2.2.1 x.2.2.2) gF
def b_Ta_leastOf_0 (σ : gS) (x1 : Int32) (x2 : Int32) : Option Int32 :=
  (f_Ta_value σ x1 x2 0).bind fun r_1 =>
  l_Ta_leastOf_11 σ (x1, x2, r_1, 1)
def f_Ta_leastOf (σ : gS) (x1 : Int32) (x2 : Int32) : Option Int32 := b_Ta_leastOf_0 σ x1 x2
def b_Ta_sureOf_9 (σ : gS) (k9 : Int32 × Int32 × Int32 → Option Int32) (x1 : Int32) (x2 : Int32) (x3 : Int32) : Option Int32 :=
  ck (okI 17 x1) <|
  if (gI σ 17 x1.toNatClampNeg) ≤ x3 then (
    some x2
  ) else (
    (f_Ta_leastOf σ x1 x3).bind fun r_3 =>
    (f_Ma_max x2 r_3).bind fun r_4 =>
    bnd (x3 + 1) fun x3_5 =>
    k9 (x1, r_4, x3_5)
  )
def l_Ta_sureOf_9 (σ : gS) : Int32 × Int32 × Int32 → Option Int32 := lpF (fun k x => b_Ta_sureOf_9 σ k x.1 x.2.1 x.2.2) gF
def b_Ta_sureOf_0 (σ : gS) (x1 : Int32) : Option Int32 :=
  (f_Ta_leastOf σ x1 0).bind fun r_1 =>
  l_Ta_sureOf_9 σ (x1, r_1, 1)
def f_Ta_sureOf (σ : gS) (x1 : Int32) : Option Int32 := b_Ta_sureOf_0 σ x1
def b_Ga_sure_0 (x1 : Int32) (σ : gS) : Option (Int32 × gS) :=
  (f_Ga_isEmpty σ).bind fun r_1 =>
  if r_1 = 0 then (
    (f_Ga_isPlayer x1).bind fun r_3 =>
    if r_3 = 0 then (
      some ((-1000000), σ)
    ) else (
      (f_Ta_fillWhole σ).bind fun r_5 =>
      (f_Ta_sureOf r_5 x1).bind fun r_6 =>
      some (r_6, r_5)
    )
  ) else (
    some ((-1000000), σ)
  )
def f_Ga_sure (σ : gS) (x1 : Int32) : Option (Int32 × gS) := b_Ga_sure_0 x1 σ
def b_Fo_actTo_30 (σ : gS) (k5 : Int32 × Int32 × Int32 × Int32 → Option Int32) (x1 : Int32) (x2 : Int32) (x3 : Int32) (x4 : Int32) : Option Int32 :=
  bnd (x4 + 1) fun x4_1 =>
  k5 (x1, x2, x3, x4_1)
def b_Fo_actTo_5 (σ : gS) (k5 : Int32 × Int32 × Int32 × Int32 → Option Int32) (x1 : Int32) (x2 : Int32) (x3 : Int32) (x4 : Int32) : Option Int32 :=
  ck (okI 8 x1) <|
  if (gI σ 8 x1.toNatClampNeg) ≤ x4 then (
    some x3
  ) else (
    (f_Fo_childAt σ x1 x4).bind fun r_3 =>
    if r_3 = x2 then (
      b_Fo_actTo_30 σ k5 x1 x2 x4 x4
    ) else (
      b_Fo_actTo_30 σ k5 x1 x2 x3 x4
    )
  )
def l_Fo_actTo_5 (σ : gS) : Int32 × Int32 × Int32 × Int32 → Option Int32 := lpF (fun k x => b_Fo_actTo_5 σ k x.1 x.2.1 x.2.2.1 x.2.2.2) gF
def b_Fo_actTo_0 (σ : gS) (x1 : Int32) (x2 : Int32) : Option Int32 :=
  l_Fo_actTo_5 σ (x1, x2, 0, 0)
def f_Fo_actTo (σ : gS) (x1 : Int32) (x2 : Int32) : Option Int32 := b_Fo_actTo_0 σ x1 x2
def b_Fo_wayTo_79 (σ : gS) (k16 : Int32 × Int64 × Int32 × Int32 × Int32 → Option Int64) (x1 : Int32) (x3 : Int64) (x6 : Int32) (x7 : Int32) : Option Int64 :=
  ck (okI 4 x6) <|
  bnd (gI σ 4 x6.toNatClampNeg) fun x6_2 =>
  bnd (x7 + 1) fun x7_3 =>
  k16 (x1, x3, x6, x6_2, x7_3)
def b_Fo_wayTo_16 (σ : gS) (k16 : Int32 × Int64 × Int32 × Int32 × Int32 → Option Int64) (x1 : Int32) (x3 : Int64) (x5 : Int32) (x6 : Int32) (x7 : Int32) : Option Int64 :=
  if 8 ≤ x7 then (
    some x3
  ) else (
    if x6 = (-1) then (
      some x3
    ) else (
      ck (okI 3 x6) <|
      bnd (gI σ 3 x6.toNatClampNeg) fun x8_4 =>
      if x8_4 = (-1) then (
        b_Fo_wayTo_79 σ k16 x1 x3 x6 x7
      ) else (
        ck (okI 13 x8_4) <|
        if (gI σ 13 x8_4.toNatClampNeg) = x1 then (
          (f_Fo_actTo σ x6 x5).bind fun r_8 =>
          bnd ((((x3 * 31) + 1) + ((3 * x8_4).toInt64)) + r_8.toInt64) fun x3_9 =>
          b_Fo_wayTo_79 σ k16 x1 x3_9 x6 x7
        ) else (
          b_Fo_wayTo_79 σ k16 x1 x3 x6 x7
        )
      )
    )
  )
def l_Fo_wayTo_16 (σ : gS) : Int32 × Int64 × Int32 × Int32 × Int32 → Option Int64 := lpF (fun k x => b_Fo_wayTo_16 σ k x.1 x.2.1 x.2.2.1 x.2.2.2.1 x.2.2.2.2) gF
def b_Fo_wayTo_0 (σ : gS) (x1 : Int32) (x2 : Int32) : Option Int64 :=
  ck (okI 4 x2) <|
  bnd (gI σ 4 x2.toNatClampNeg) fun x6_2 =>
  l_Fo_wayTo_16 σ (x1, 0, x2, x6_2, 0)
def f_Fo_wayTo (σ : gS) (x1 : Int32) (x2 : Int32) : Option Int64 := b_Fo_wayTo_0 σ x1 x2
def b_Fo_areWaysAlike_70 (σ : gS) (k20 : Int32 × Int64 × Int64 × Int32 → Option Int32) (x1 : Int32) (x3 : Int64) (x5 : Int64) (x7 : Int32) : Option Int32 :=
  bnd (x7 + 1) fun x7_1 =>
  k20 (x1, x3, x5, x7_1)
def b_Fo_areWaysAlike_66 (σ : gS) (k20 : Int32 × Int64 × Int64 × Int32 → Option Int32) (x1 : Int32) (x3 : Int64) (x7 : Int32) (x8 : Int64) : Option Int32 :=
  b_Fo_areWaysAlike_70 σ k20 x1 x3 x8 x7
def b_Fo_areWaysAlike_20 (σ : gS) (k20 : Int32 × Int64 × Int64 × Int32 → Option Int32) (x1 : Int32) (x3 : Int64) (x5 : Int64) (x7 : Int32) : Option Int32 :=
  if (gI σ 1 0) ≤ x7 then (
    ck (isB 1) <| some 1
  ) else (
    (f_Ga_hasBit x3 x7).bind fun r_2 =>
    if r_2 = 0 then (
      b_Fo_areWaysAlike_70 σ k20 x1 x3 x5 x7
    ) else (
      (f_Fo_wayTo σ x1 x7).bind fun r_4 =>
      if (lg_cmp x5 (-1)) = 0 then (
        b_Fo_areWaysAlike_66 σ k20 x1 x3 x7 r_4
      ) else (
        if (lg_cmp r_4 x5) = 0 then (
          b_Fo_areWaysAlike_66 σ k20 x1 x3 x7 r_4
        ) else (
          ck (isB 0) <| some 0
        )
      )
    )
  )
def l_Fo_areWaysAlike_20 (σ : gS) : Int32 × Int64 × Int64 × Int32 → Option Int32 := lpF (fun k x => b_Fo_areWaysAlike_20 σ k x.1 x.2.1 x.2.2.1 x.2.2.2) gF
def b_Fo_areWaysAlike_0 (σ : gS) (x1 : Int32) (x2 : Int32) : Option Int32 :=
  ck (okJ 14 x2) <|
  (f_Fo_nodesInTree σ).bind fun r_2 =>
  bnd ((gL σ 14 x2.toNatClampNeg) &&& r_2) fun x3_3 =>
  l_Fo_areWaysAlike_20 σ (x1, x3_3, (-1), 0)
def f_Fo_areWaysAlike (σ : gS) (x1 : Int32) (x2 : Int32) : Option Int32 := b_Fo_areWaysAlike_0 σ x1 x2
def b_Fo_remembersAll_31 (σ : gS) (k2 : Int32 × Int32 → Option Int32) (x1 : Int32) (x2 : Int32) : Option Int32 :=
  bnd (x2 + 1) fun x2_1 =>
  k2 (x1, x2_1)
def b_Fo_remembersAll_2 (σ : gS) (k2 : Int32 × Int32 → Option Int32) (x1 : Int32) (x2 : Int32) : Option Int32 :=
  if (gI σ 1 1) ≤ x2 then (
    ck (isB 1) <| some 1
  ) else (
    ck (okI 13 x2) <|
    if (gI σ 13 x2.toNatClampNeg) = x1 then (
      (f_Fo_areWaysAlike σ x1 x2).bind fun r_4 =>
      if r_4 = 0 then (
        ck (isB 0) <| some 0
      ) else (
        b_Fo_remembersAll_31 σ k2 x1 x2
      )
    ) else (
      b_Fo_remembersAll_31 σ k2 x1 x2
    )
  )
def l_Fo_remembersAll_2 (σ : gS) : Int32 × Int32 → Option Int32 := lpF (fun k x => b_Fo_remembersAll_2 σ k x.1 x.2) gF
def b_Fo_remembersAll_0 (σ : gS) (x1 : Int32) : Option Int32 :=
  l_Fo_remembersAll_2 σ (x1, 0)
def f_Fo_remembersAll (σ : gS) (x1 : Int32) : Option Int32 := b_Fo_remembersAll_0 σ x1
def b_Ga_remembered_0 (σ : gS) (x1 : Int32) : Option Int32 :=
  (f_Ga_isEmpty σ).bind fun r_1 =>
  if r_1 = 0 then (
    (f_Ga_isPlayer x1).bind fun r_3 =>
    if r_3 = 0 then (
      some (-2)
    ) else (
      (f_Fo_remembersAll σ x1).bind fun r_5 =>
      if r_5 = 0 then (
        some 0
      ) else (
        some 1
      )
    )
  ) else (
    some (-1000000)
  )
def f_Ga_remembered (σ : gS) (x1 : Int32) : Option Int32 := b_Ga_remembered_0 σ x1
def b_An_leastOfGreatest_38 (σ : gS) (k4 : Int32 × Int32 × Int32 → Option Int32) (x1 : Int32) (x2 : Int32) (x3 : Int32) : Option Int32 :=
  bnd (x3 + 1) fun x3_1 =>
  k4 (x1, x2, x3_1)
def b_An_leastOfGreatest_4 (σ : gS) (k4 : Int32 × Int32 × Int32 → Option Int32) (x1 : Int32) (x2 : Int32) (x3 : Int32) : Option Int32 :=
  ck (okI 17 x1) <|
  if (gI σ 17 x1.toNatClampNeg) ≤ x3 then (
    some x2
  ) else (
    ck (inb x1 2) <|
    ck (okI (43 + 1 + x1.toNatClampNeg) x3) <|
    ck (inb x1 2) <|
    ck (okI (43 + 1 + x1.toNatClampNeg) x2) <|
    if (gI σ (43 + 1 + x1.toNatClampNeg) x3.toNatClampNeg) ≤ (gI σ (43 + 1 + x1.toNatClampNeg) x2.toNatClampNeg) then (
      b_An_leastOfGreatest_38 σ k4 x1 x2 x3
    ) else (
      b_An_leastOfGreatest_38 σ k4 x1 x3 x3
    )
  )
def l_An_leastOfGreatest_4 (σ : gS) : Int32 × Int32 × Int32 → Option Int32 := lpF (fun k x => b_An_leastOfGreatest_4 σ k x.1 x.2.1 x.2.2) gF
def b_An_leastOfGreatest_0 (σ : gS) (x1 : Int32) : Option Int32 :=
  l_An_leastOfGreatest_4 σ (x1, 0, 1)
def f_An_leastOfGreatest (σ : gS) (x1 : Int32) : Option Int32 := b_An_leastOfGreatest_0 σ x1
def b_An_addUp_2 (k2 : Int32 × Int32 × Int32 × gS → Option gS) (x1 : Int32) (x2 : Int32) (x3 : Int32) (σ : gS) : Option gS :=
  ck (okI 17 x1) <|
  if (gI σ 17 x1.toNatClampNeg) ≤ x3 then (
    some σ
  ) else (
    ck (inb x1 2) <|
    ck (okI (43 + 1 + x1.toNatClampNeg) x3) <|
    (f_Ta_value σ x1 x3 x2).bind fun r_5 =>
    ck (okI (43 + 1 + x1.toNatClampNeg) x3) <|
    bnd (sI σ (43 + 1 + x1.toNatClampNeg) x3.toNatClampNeg ((gI σ (43 + 1 + x1.toNatClampNeg) x3.toNatClampNeg) + r_5)) fun σ_7 =>
    bnd (x3 + 1) fun x3_8 =>
    k2 (x1, x2, x3_8, σ_7)
  )
def l_An_addUp_2  : Int32 × Int32 × Int32 × gS → Option gS := lpF (fun k x => b_An_addUp_2 k x.1 x.2.1 x.2.2.1 x.2.2.2) gF
def b_An_addUp_0 (x1 : Int32) (x2 : Int32) (σ : gS) : Option gS :=
  l_An_addUp_2 (x1, x2, 0, σ)
def f_An_addUp (σ : gS) (x1 : Int32) (x2 : Int32) : Option gS := b_An_addUp_0 x1 x2 σ
def b_An_playTo_55 (k55 : Int32 × Int32 × gS → Option gS) (x1 : Int32) (x2 : Int32) (σ : gS) : Option gS :=
  if x1 ≤ x2 then (
    (f_Ma_max (gI σ 39 4) x1).bind fun r_2 =>
    bnd (sI σ 39 4 r_2) fun σ_3 =>
    some σ_3
  ) else (
    ck (inb 0 2) <|
    (f_An_leastOfGreatest σ 0).bind fun r_5 =>
    ck (okI 41 x2) <|
    bnd (sI σ 41 x2.toNatClampNeg r_5) fun σ_7 =>
    ck (inb 1 2) <|
    (f_An_leastOfGreatest σ_7 1).bind fun r_9 =>
    ck (okI 42 x2) <|
    bnd (sI σ_7 42 x2.toNatClampNeg r_9) fun σ_11 =>
    ck (inb 1 2) <|
    ck (okI 42 x2) <|
    (f_An_addUp σ_11 0 (gI σ_11 42 x2.toNatClampNeg)).bind fun r_14 =>
    ck (inb 0 2) <|
    ck (okI 41 x2) <|
    (f_An_addUp r_14 1 (gI r_14 41 x2.toNatClampNeg)).bind fun r_17 =>
    bnd (x2 + 1) fun x2_18 =>
    k55 (x1, x2_18, r_17)
  )
def l_An_playTo_55  : Int32 × Int32 × gS → Option gS := lpF (fun k x => b_An_playTo_55 k x.1 x.2.1 x.2.2) gF
def b_An_playTo_50 (x1 : Int32) (σ : gS) : Option gS :=
  bnd (gI σ 39 4) fun x2_1 =>
  l_An_playTo_55 (x1, x2_1, σ)
def b_An_playTo_0 (x1 : Int32) (σ : gS) : Option gS :=
  if (gI σ 39 5) = (gI σ 1 2) then (
    b_An_playTo_50 x1 σ
  ) else (
    bnd (sI σ 39 5 (gI σ 1 2)) fun σ_2 =>
    bnd (sI σ_2 39 4 0) fun σ_3 =>
    ck (inb 0 2) <|
    (f_Ar_fillI σ_3 44 0).bind fun r_5 =>
    ck (inb 1 2) <|
    (f_Ar_fillI r_5 45 0).bind fun r_7 =>
    b_An_playTo_50 x1 r_7
  )
def f_An_playTo (σ : gS) (x1 : Int32) : Option gS := b_An_playTo_0 x1 σ
def b_An_timesTaken_28 (σ : gS) (k6 : Int32 × Int32 × Int32 × Int32 × Int32 → Option Int32) (x1 : Int32) (x2 : Int32) (x3 : Int32) (x4 : Int32) (x5 : Int32) : Option Int32 :=
  bnd (x5 + 1) fun x5_1 =>
  k6 (x1, x2, x3, x4, x5_1)
def b_An_timesTaken_6 (σ : gS) (k6 : Int32 × Int32 × Int32 × Int32 × Int32 → Option Int32) (x1 : Int32) (x2 : Int32) (x3 : Int32) (x4 : Int32) (x5 : Int32) : Option Int32 :=
  if x1 ≤ x5 then (
    some x4
  ) else (
    ck (inb x2 2) <|
    ck (okI (40 + 1 + x2.toNatClampNeg) x5) <|
    if (gI σ (40 + 1 + x2.toNatClampNeg) x5.toNatClampNeg) = x3 then (
      bnd (x4 + 1) fun x4_5 =>
      b_An_timesTaken_28 σ k6 x1 x2 x3 x4_5 x5
    ) else (
      b_An_timesTaken_28 σ k6 x1 x2 x3 x4 x5
    )
  )
def l_An_timesTaken_6 (σ : gS) : Int32 × Int32 × Int32 × Int32 × Int32 → Option Int32 := lpF (fun k x => b_An_timesTaken_6 σ k x.1 x.2.1 x.2.2.1 x.2.2.2.1 x.2.2.2.2) gF
def b_An_timesTaken_0 (σ : gS) (x1 : Int32) (x2 : Int32) (x3 : Int32) : Option Int32 :=
  l_An_timesTaken_6 σ (x1, x2, x3, 0, 0)
def f_An_timesTaken (σ : gS) (x1 : Int32) (x2 : Int32) (x3 : Int32) : Option Int32 := b_An_timesTaken_0 σ x1 x2 x3
def b_Ga_taken_0 (x1 : Int32) (x2 : Int32) (x3 : Int32) (σ : gS) : Option (Int32 × gS) :=
  (f_Ga_isEmpty σ).bind fun r_1 =>
  if r_1 = 0 then (
    (f_Ga_isAmong x1 1 200).bind fun r_3 =>
    if r_3 = 0 then (
      some ((-2), σ)
    ) else (
      (f_Ga_isPlan σ x2 x3).bind fun r_5 =>
      if r_5 = 0 then (
        some ((-2), σ)
      ) else (
        (f_Ta_fillWhole σ).bind fun r_7 =>
        (f_An_playTo r_7 x1).bind fun r_8 =>
        (f_An_timesTaken r_8 x1 x2 x3).bind fun r_9 =>
        some (r_9, r_8)
      )
    )
  ) else (
    some ((-1000000), σ)
  )
def f_Ga_taken (σ : gS) (x1 : Int32) (x2 : Int32) (x3 : Int32) : Option (Int32 × gS) := b_Ga_taken_0 x1 x2 x3 σ
def b_An_sumAgainst_5 (σ : gS) (k5 : Int32 × Int32 × Int32 × Int32 → Option Int32) (x1 : Int32) (x2 : Int32) (x3 : Int32) (x4 : Int32) : Option Int32 :=
  if x2 ≤ x4 then (
    some x3
  ) else (
    ck (inb 0 2) <|
    ck (okI 41 x4) <|
    (f_Ta_valueOfPair σ 0 (gI σ 41 x4.toNatClampNeg) x1).bind fun r_4 =>
    bnd (x3 + r_4) fun x3_5 =>
    bnd (x4 + 1) fun x4_6 =>
    k5 (x1, x2, x3_5, x4_6)
  )
def l_An_sumAgainst_5 (σ : gS) : Int32 × Int32 × Int32 × Int32 → Option Int32 := lpF (fun k x => b_An_sumAgainst_5 σ k x.1 x.2.1 x.2.2.1 x.2.2.2) gF
def b_An_sumAgainst_0 (σ : gS) (x1 : Int32) (x2 : Int32) : Option Int32 :=
  l_An_sumAgainst_5 σ (x1, x2, 0, 0)
def f_An_sumAgainst (σ : gS) (x1 : Int32) (x2 : Int32) : Option Int32 := b_An_sumAgainst_0 σ x1 x2
def b_An_lowBehind_9 (σ : gS) (k9 : Int32 × Int32 × Int32 → Option Int32) (x1 : Int32) (x2 : Int32) (x3 : Int32) : Option Int32 :=
  ck (okI 17 1) <|
  if (gI σ 17 (1 : Int32).toNatClampNeg) ≤ x3 then (
    some x2
  ) else (
    (f_An_sumAgainst σ x3 x1).bind fun r_3 =>
    (f_Ma_min x2 r_3).bind fun r_4 =>
    bnd (x3 + 1) fun x3_5 =>
    k9 (x1, r_4, x3_5)
  )
def l_An_lowBehind_9 (σ : gS) : Int32 × Int32 × Int32 → Option Int32 := lpF (fun k x => b_An_lowBehind_9 σ k x.1 x.2.1 x.2.2) gF
def b_An_lowBehind_0 (σ : gS) (x1 : Int32) : Option Int32 :=
  (f_An_sumAgainst σ 0 x1).bind fun r_1 =>
  l_An_lowBehind_9 σ (x1, r_1, 1)
def f_An_lowBehind (σ : gS) (x1 : Int32) : Option Int32 := b_An_lowBehind_0 σ x1
def b_An_sumFor_5 (σ : gS) (k5 : Int32 × Int32 × Int32 × Int32 → Option Int32) (x1 : Int32) (x2 : Int32) (x3 : Int32) (x4 : Int32) : Option Int32 :=
  if x2 ≤ x4 then (
    some x3
  ) else (
    ck (inb 1 2) <|
    ck (okI 42 x4) <|
    (f_Ta_valueOfPair σ 0 x1 (gI σ 42 x4.toNatClampNeg)).bind fun r_4 =>
    bnd (x3 + r_4) fun x3_5 =>
    bnd (x4 + 1) fun x4_6 =>
    k5 (x1, x2, x3_5, x4_6)
  )
def l_An_sumFor_5 (σ : gS) : Int32 × Int32 × Int32 × Int32 → Option Int32 := lpF (fun k x => b_An_sumFor_5 σ k x.1 x.2.1 x.2.2.1 x.2.2.2) gF
def b_An_sumFor_0 (σ : gS) (x1 : Int32) (x2 : Int32) : Option Int32 :=
  l_An_sumFor_5 σ (x1, x2, 0, 0)
def f_An_sumFor (σ : gS) (x1 : Int32) (x2 : Int32) : Option Int32 := b_An_sumFor_0 σ x1 x2
def b_An_highBehind_9 (σ : gS) (k9 : Int32 × Int32 × Int32 → Option Int32) (x1 : Int32) (x2 : Int32) (x3 : Int32) : Option Int32 :=
  ck (okI 17 0) <|
  if (gI σ 17 (0 : Int32).toNatClampNeg) ≤ x3 then (
    some x2
  ) else (
    (f_An_sumFor σ x3 x1).bind fun r_3 =>
    (f_Ma_max x2 r_3).bind fun r_4 =>
    bnd (x3 + 1) fun x3_5 =>
    k9 (x1, r_4, x3_5)
  )
def l_An_highBehind_9 (σ : gS) : Int32 × Int32 × Int32 → Option Int32 := lpF (fun k x => b_An_highBehind_9 σ k x.1 x.2.1 x.2.2) gF
def b_An_highBehind_0 (σ : gS) (x1 : Int32) : Option Int32 :=
  (f_An_sumFor σ 0 x1).bind fun r_1 =>
  l_An_highBehind_9 σ (x1, r_1, 1)
def f_An_highBehind (σ : gS) (x1 : Int32) : Option Int32 := b_An_highBehind_0 σ x1
def b_Ga_bound_0 (x1 : Int32) (x2 : Int32) (σ : gS) : Option (Int32 × gS) :=
  (f_Ga_isEmpty σ).bind fun r_1 =>
  if r_1 = 0 then (
    (f_Ga_isAmong x1 1 200).bind fun r_3 =>
    if r_3 = 0 then (
      some ((-1000000), σ)
    ) else (
      (f_Ga_isAmong x2 0 1).bind fun r_5 =>
      if r_5 = 0 then (
        some ((-1000000), σ)
      ) else (
        (f_Ta_fillWhole σ).bind fun r_7 =>
        (f_An_playTo r_7 x1).bind fun r_8 =>
        if x2 = 0 then (
          (f_An_lowBehind r_8 x1).bind fun r_11 =>
          some (r_11, r_8)
        ) else (
          (f_An_highBehind r_8 x1).bind fun r_10 =>
          some (r_10, r_8)
        )
      )
    )
  ) else (
    some ((-1000000), σ)
  )
def f_Ga_bound (σ : gS) (x1 : Int32) (x2 : Int32) : Option (Int32 × gS) := b_Ga_bound_0 x1 x2 σ
def b_Mo_clear_0 (σ : gS) : Option (Int32 × gS) :=
  bnd (gI σ 46 0) fun x1_1 =>
  bnd (sI σ 46 0 0) fun σ_2 =>
  bnd (sI σ_2 46 1 0) fun σ_3 =>
  some (x1_1, σ_3)
def f_Mo_clear (σ : gS) : Option (Int32 × gS) := b_Mo_clear_0 σ
def b_Mo_isFrom_0 (x0 : Int32) (x1 : Int32) (x2 : Int32) : Option Int32 :=
  if x0 < x1 then (
    ck (isB 0) <| some 0
  ) else (
    if x2 < x0 then (
      ck (isB 0) <| some 0
    ) else (
      ck (isB 1) <| some 1
    )
  )
def f_Mo_isFrom (x0 : Int32) (x1 : Int32) (x2 : Int32) : Option Int32 := b_Mo_isFrom_0 x0 x1 x2
def b_Mo_set_0 (x1 : Int32) (x2 : Int32) (σ : gS) : Option (Int32 × gS) :=
  (f_Mo_isFrom x1 0 1).bind fun r_1 =>
  if r_1 = 0 then (
    some ((-2), σ)
  ) else (
    (f_Mo_isFrom x2 2 3).bind fun r_3 =>
    if r_3 = 0 then (
      some ((-2), σ)
    ) else (
      if (gI σ 46 1) = 10 then (
        some ((-3), σ)
      ) else (
        ck (okI 54 (gI σ 46 1)) <|
        bnd (sI σ 54 (gI σ 46 1).toNatClampNeg x1) fun σ_7 =>
        ck (okI 55 (gI σ_7 46 1)) <|
        bnd (sI σ_7 55 (gI σ_7 46 1).toNatClampNeg x2) fun σ_9 =>
        bnd (sI σ_9 46 1 ((gI σ_9 46 1) + 1)) fun σ_10 =>
        some ((gI σ_10 46 1) - 1, σ_10)
      )
    )
  )
def f_Mo_set (σ : gS) (x1 : Int32) (x2 : Int32) : Option (Int32 × gS) := b_Mo_set_0 x1 x2 σ
def b_Mo_make_78 (k78 : Int32 × gS → Option (Int32 × gS)) (x2 : Int32) (σ : gS) : Option (Int32 × gS) :=
  if 3 ≤ x2 then (
    bnd (sI σ 46 0 ((gI σ 46 0) + 1)) fun σ_2 =>
    some ((gI σ_2 46 0) - 1, σ_2)
  ) else (
    ck (okI 50 ((3 * (gI σ 46 0)) + x2)) <|
    bnd (sI σ 50 ((3 * (gI σ 46 0)) + x2).toNatClampNeg (-1)) fun σ_4 =>
    bnd (x2 + 1) fun x2_5 =>
    k78 (x2_5, σ_4)
  )
def l_Mo_make_78  : Int32 × gS → Option (Int32 × gS) := lpF (fun k x => b_Mo_make_78 k x.1 x.2) gF
def b_Mo_make_0 (x1 : Int32) (σ : gS) : Option (Int32 × gS) :=
  ck (okI 47 (gI σ 46 0)) <|
  bnd (sI σ 47 (gI σ 46 0).toNatClampNeg x1) fun σ_2 =>
  ck (okI 48 (gI σ_2 46 0)) <|
  bnd (sI σ_2 48 (gI σ_2 46 0).toNatClampNeg (-1)) fun σ_4 =>
  ck (okI 49 (2 * (gI σ_4 46 0))) <|
  bnd (sI σ_4 49 (2 * (gI σ_4 46 0)).toNatClampNeg 0) fun σ_6 =>
  ck (okI 49 ((2 * (gI σ_6 46 0)) + 1)) <|
  bnd (sI σ_6 49 ((2 * (gI σ_6 46 0)) + 1).toNatClampNeg 0) fun σ_8 =>
  ck (okI 51 (gI σ_8 46 0)) <|
  bnd (sI σ_8 51 (gI σ_8 46 0).toNatClampNeg (-1)) fun σ_10 =>
  ck (okI 52 (gI σ_10 46 0)) <|
  bnd (sI σ_10 52 (gI σ_10 46 0).toNatClampNeg 0) fun σ_12 =>
  ck (okI 53 (gI σ_12 46 0)) <|
  bnd (sI σ_12 53 (gI σ_12 46 0).toNatClampNeg 0) fun σ_14 =>
  l_Mo_make_78 (0, σ_14)
def f_Mo_make (σ : gS) (x1 : Int32) : Option (Int32 × gS) := b_Mo_make_0 x1 σ
def b_Mo_end_0 (x1 : Int32) (x2 : Int32) (σ : gS) : Option (Int32 × gS) :=
  (f_Mo_isFrom x1 (-100) 100).bind fun r_1 =>
  if r_1 = 0 then (
    some ((-2), σ)
  ) else (
    (f_Mo_isFrom x2 (-100) 100).bind fun r_3 =>
    if r_3 = 0 then (
      some ((-2), σ)
    ) else (
      if (gI σ 46 0) = 40 then (
        some ((-3), σ)
      ) else (
        (f_Mo_make σ 0).bind fun r_6 =>
        bnd (r_6.1) fun x3_7 =>
        ck (okI 49 (2 * x3_7)) <|
        bnd (sI r_6.2 49 (2 * x3_7).toNatClampNeg x1) fun σ_9 =>
        ck (okI 49 ((2 * x3_7) + 1)) <|
        bnd (sI σ_9 49 ((2 * x3_7) + 1).toNatClampNeg x2) fun σ_11 =>
        some (x3_7, σ_11)
      )
    )
  )
def f_Mo_end (σ : gS) (x1 : Int32) (x2 : Int32) : Option (Int32 × gS) := b_Mo_end_0 x1 x2 σ
def b_Mo_isNode_0 (σ : gS) (x1 : Int32) : Option Int32 :=
  (f_Mo_isFrom x1 0 ((gI σ 46 0) - 1)).bind fun r_1 =>
  ck (isB r_1) <| some r_1
def f_Mo_isNode (σ : gS) (x1 : Int32) : Option Int32 := b_Mo_isNode_0 σ x1
def b_Mo_third_0 (x0 : Int32) (x1 : Int32) (x2 : Int32) (x3 : Int32) : Option Int32 :=
  if x3 = 0 then (
    some x0
  ) else (
    if x3 = 1 then (
      some x1
    ) else (
      some x2
    )
  )
def f_Mo_third (x0 : Int32) (x1 : Int32) (x2 : Int32) (x3 : Int32) : Option Int32 := b_Mo_third_0 x0 x1 x2 x3
def b_Mo_bar_133 (σ : gS) (k43 : Int32 × Int32 × Int32 × Int32 × Int32 × Int32 × Int32 × Int32 × Int32 → Option Int32) (x1 : Int32) (x2 : Int32) (x3 : Int32) (x4 : Int32) (x5 : Int32) (x6 : Int32) (x7 : Int32) (x9 : Int32) (y0 : Int32) : Option Int32 :=
  bnd (x9 + 1) fun x9_1 =>
  k43 (x1, x2, x3, x4, x5, x6, x7, y0, x9_1)
def b_Mo_bar_107 (σ : gS) (k43 : Int32 × Int32 × Int32 × Int32 × Int32 × Int32 × Int32 × Int32 × Int32 → Option Int32) (x1 : Int32) (x2 : Int32) (x3 : Int32) (x4 : Int32) (x5 : Int32) (x6 : Int32) (x8 : Int32) (x9 : Int32) (x10 : Int32) (y0 : Int32) : Option Int32 :=
  ck (okI 53 x10) <|
  if (gI σ 53 x10.toNatClampNeg) ≤ x8 then (
    b_Mo_bar_133 σ k43 x1 x2 x3 x4 x5 x6 y0 x9 x8
  ) else (
    ck (okI 53 x10) <|
    b_Mo_bar_133 σ k43 x1 x2 x3 x4 x5 x6 y0 x9 (gI σ 53 x10.toNatClampNeg)
  )
def b_Mo_bar_81 (σ : gS) (k43 : Int32 × Int32 × Int32 × Int32 × Int32 × Int32 × Int32 × Int32 × Int32 → Option Int32) (x1 : Int32) (x2 : Int32) (x3 : Int32) (x4 : Int32) (x5 : Int32) (x7 : Int32) (x8 : Int32) (x9 : Int32) (x10 : Int32) (y0 : Int32) : Option Int32 :=
  ck (okI 52 x10) <|
  if (gI σ 52 x10.toNatClampNeg) ≤ x7 then (
    b_Mo_bar_107 σ k43 x1 x2 x3 x4 x5 y0 x8 x9 x10 x7
  ) else (
    ck (okI 52 x10) <|
    b_Mo_bar_107 σ k43 x1 x2 x3 x4 x5 y0 x8 x9 x10 (gI σ 52 x10.toNatClampNeg)
  )
def b_Mo_bar_76 (σ : gS) (k43 : Int32 × Int32 × Int32 × Int32 × Int32 × Int32 × Int32 × Int32 × Int32 → Option Int32) (x1 : Int32) (x2 : Int32) (x3 : Int32) (x4 : Int32) (x5 : Int32) (x7 : Int32) (x8 : Int32) (x9 : Int32) (x10 : Int32) : Option Int32 :=
  b_Mo_bar_81 σ k43 x1 x2 x3 x4 x5 x7 x8 x9 x10 1
def b_Mo_bar_43 (σ : gS) (k43 : Int32 × Int32 × Int32 × Int32 × Int32 × Int32 × Int32 × Int32 × Int32 → Option Int32) (x1 : Int32) (x2 : Int32) (x3 : Int32) (x4 : Int32) (x5 : Int32) (x6 : Int32) (x7 : Int32) (x8 : Int32) (x9 : Int32) : Option Int32 :=
  if x1 ≤ x9 then (
    if x6 = 0 then (
      if 8 < (x7 + 1) then (
        some (-5)
      ) else (
        if (x8 + x5) ≤ 5 then (
          some 0
        ) else (
          some (-5)
        )
      )
    ) else (
      some (-4)
    )
  ) else (
    (f_Mo_third x2 x3 x4 x9).bind fun r_5 =>
    if x6 = 0 then (
      ck (okI 51 r_5) <|
      if (gI σ 51 r_5.toNatClampNeg) = (-1) then (
        b_Mo_bar_81 σ k43 x1 x2 x3 x4 x5 x7 x8 x9 r_5 0
      ) else (
        b_Mo_bar_76 σ k43 x1 x2 x3 x4 x5 x7 x8 x9 r_5
      )
    ) else (
      b_Mo_bar_76 σ k43 x1 x2 x3 x4 x5 x7 x8 x9 r_5
    )
  )
def l_Mo_bar_43 (σ : gS) : Int32 × Int32 × Int32 × Int32 × Int32 × Int32 × Int32 × Int32 × Int32 → Option Int32 := lpF (fun k x => b_Mo_bar_43 σ k x.1 x.2.1 x.2.2.1 x.2.2.2.1 x.2.2.2.2.1 x.2.2.2.2.2.1 x.2.2.2.2.2.2.1 x.2.2.2.2.2.2.2.1 x.2.2.2.2.2.2.2.2) gF
def b_Mo_bar_32 (σ : gS) (x1 : Int32) (x2 : Int32) (x3 : Int32) (x4 : Int32) (x5 : Int32) (y0 : Int32) : Option Int32 :=
  l_Mo_bar_43 σ (x1, x2, x3, x4, x5, y0, 0, 0, 0)
def b_Mo_bar_31 (σ : gS) (x1 : Int32) (x2 : Int32) (x3 : Int32) (x4 : Int32) (x5 : Int32) : Option Int32 :=
  b_Mo_bar_32 σ x1 x2 x3 x4 x5 0
def b_Mo_bar_27 (σ : gS) (x1 : Int32) (x2 : Int32) (x3 : Int32) (x4 : Int32) (x5 : Int32) : Option Int32 :=
  b_Mo_bar_32 σ x1 x2 x3 x4 x5 1
def b_Mo_bar_10 (σ : gS) (x1 : Int32) (x2 : Int32) (x3 : Int32) (x4 : Int32) (x5 : Int32) : Option Int32 :=
  if x1 ≤ 2 then (
    b_Mo_bar_31 σ x1 x2 x3 x4 x5
  ) else (
    if x2 = x4 then (
      b_Mo_bar_27 σ x1 x2 x3 x4 x5
    ) else (
      if x3 = x4 then (
        b_Mo_bar_27 σ x1 x2 x3 x4 x5
      ) else (
        b_Mo_bar_31 σ x1 x2 x3 x4 x5
      )
    )
  )
def b_Mo_bar_0 (σ : gS) (x1 : Int32) (x2 : Int32) (x3 : Int32) (x4 : Int32) (x5 : Int32) : Option Int32 :=
  if x1 ≤ 1 then (
    b_Mo_bar_10 σ x1 x2 x3 x4 x5
  ) else (
    if x2 = x3 then (
      b_Mo_bar_27 σ x1 x2 x3 x4 x5
    ) else (
      b_Mo_bar_10 σ x1 x2 x3 x4 x5
    )
  )
def f_Mo_bar (σ : gS) (x1 : Int32) (x2 : Int32) (x3 : Int32) (x4 : Int32) (x5 : Int32) : Option Int32 := b_Mo_bar_0 σ x1 x2 x3 x4 x5
def b_Mo_adopt_127 (k3 : Int32 × Int32 × Int32 × Int32 × Int32 × Int32 × Int32 × gS → Option gS) (x1 : Int32) (x2 : Int32) (x3 : Int32) (x4 : Int32) (x5 : Int32) (x6 : Int32) (x7 : Int32) (y1 : Int32) (y2 : Int32) (σ : gS) : Option gS :=
  ck (okI 53 y1) <|
  bnd (sI σ 53 y1.toNatClampNeg y2) fun σ_2 =>
  bnd (x7 + 1) fun x7_3 =>
  k3 (x1, x2, x3, x4, x5, x6, x7_3, σ_2)
def b_Mo_adopt_83 (k3 : Int32 × Int32 × Int32 × Int32 × Int32 × Int32 × Int32 × gS → Option gS) (x1 : Int32) (x2 : Int32) (x3 : Int32) (x4 : Int32) (x5 : Int32) (x6 : Int32) (x7 : Int32) (x8 : Int32) (y1 : Int32) (y2 : Int32) (σ : gS) : Option gS :=
  ck (okI 52 y1) <|
  bnd (sI σ 52 y1.toNatClampNeg y2) fun σ_2 =>
  ck (okI 53 x8) <|
  ck (okI 53 x1) <|
  if ((gI σ_2 53 x8.toNatClampNeg) + x6) ≤ (gI σ_2 53 x1.toNatClampNeg) then (
    ck (okI 53 x1) <|
    b_Mo_adopt_127 k3 x1 x2 x3 x4 x5 x6 x7 x1 (gI σ_2 53 x1.toNatClampNeg) σ_2
  ) else (
    ck (okI 53 x8) <|
    b_Mo_adopt_127 k3 x1 x2 x3 x4 x5 x6 x7 x1 ((gI σ_2 53 x8.toNatClampNeg) + x6) σ_2
  )
def b_Mo_adopt_3 (k3 : Int32 × Int32 × Int32 × Int32 × Int32 × Int32 × Int32 × gS → Option gS) (x1 : Int32) (x2 : Int32) (x3 : Int32) (x4 : Int32) (x5 : Int32) (x6 : Int32) (x7 : Int32) (σ : gS) : Option gS :=
  if x2 ≤ x7 then (
    some σ
  ) else (
    (f_Mo_third x3 x4 x5 x7).bind fun r_2 =>
    ck (okI 50 ((3 * x1) + x7)) <|
    bnd (sI σ 50 ((3 * x1) + x7).toNatClampNeg r_2) fun σ_4 =>
    ck (okI 51 r_2) <|
    bnd (sI σ_4 51 r_2.toNatClampNeg x1) fun σ_6 =>
    ck (okI 52 r_2) <|
    ck (okI 52 x1) <|
    if ((gI σ_6 52 r_2.toNatClampNeg) + 1) ≤ (gI σ_6 52 x1.toNatClampNeg) then (
      ck (okI 52 x1) <|
      b_Mo_adopt_83 k3 x1 x2 x3 x4 x5 x6 x7 r_2 x1 (gI σ_6 52 x1.toNatClampNeg) σ_6
    ) else (
      ck (okI 52 r_2) <|
      b_Mo_adopt_83 k3 x1 x2 x3 x4 x5 x6 x7 r_2 x1 ((gI σ_6 52 r_2.toNatClampNeg) + 1) σ_6
    )
  )
def l_Mo_adopt_3  : Int32 × Int32 × Int32 × Int32 × Int32 × Int32 × Int32 × gS → Option gS := lpF (fun k x => b_Mo_adopt_3 k x.1 x.2.1 x.2.2.1 x.2.2.2.1 x.2.2.2.2.1 x.2.2.2.2.2.1 x.2.2.2.2.2.2.1 x.2.2.2.2.2.2.2) gF
def b_Mo_adopt_0 (x1 : Int32) (x2 : Int32) (x3 : Int32) (x4 : Int32) (x5 : Int32) (x6 : Int32) (σ : gS) : Option gS :=
  l_Mo_adopt_3 (x1, x2, x3, x4, x5, x6, 0, σ)
def f_Mo_adopt (σ : gS) (x1 : Int32) (x2 : Int32) (x3 : Int32) (x4 : Int32) (x5 : Int32) (x6 : Int32) : Option gS := b_Mo_adopt_0 x1 x2 x3 x4 x5 x6 σ
def b_Mo_findTree_108 (k28 : Int32 × gS → Option gS) (x1 : Int32) (σ : gS) : Option gS :=
  bnd (x1 + (-1)) fun x1_1 =>
  k28 (x1_1, σ)
def b_Mo_findTree_76 (k28 : Int32 × gS → Option gS) (x1 : Int32) (y1 : Int32) (y2 : Int32) (σ : gS) : Option gS :=
  ck (okZ 56 y1) <|
  ck (isB y2) <|
  bnd (sI σ 56 y1.toNatClampNeg y2) fun σ_2 =>
  ck (okZ 56 x1) <|
  if (gI σ_2 56 x1.toNatClampNeg) = 0 then (
    b_Mo_findTree_108 k28 x1 σ_2
  ) else (
    ck (okI 47 x1) <|
    if (gI σ_2 47 x1.toNatClampNeg) = 2 then (
      ck (okI 48 x1) <|
      ck (okZ 57 (gI σ_2 48 x1.toNatClampNeg)) <|
      ck (isB 1) <|
      bnd (sI σ_2 57 (gI σ_2 48 x1.toNatClampNeg).toNatClampNeg 1) fun σ_10 =>
      b_Mo_findTree_108 k28 x1 σ_10
    ) else (
      b_Mo_findTree_108 k28 x1 σ_2
    )
  )
def b_Mo_findTree_75 (k28 : Int32 × gS → Option gS) (x1 : Int32) (y1 : Int32) (σ : gS) : Option gS :=
  b_Mo_findTree_76 k28 x1 y1 0 σ
def b_Mo_findTree_71 (k28 : Int32 × gS → Option gS) (x1 : Int32) (y1 : Int32) (σ : gS) : Option gS :=
  b_Mo_findTree_76 k28 x1 y1 1 σ
def b_Mo_findTree_28 (k28 : Int32 × gS → Option gS) (x1 : Int32) (σ : gS) : Option gS :=
  if x1 < 0 then (
    some σ
  ) else (
    if x1 = ((gI σ 46 0) - 1) then (
      b_Mo_findTree_71 k28 x1 x1 σ
    ) else (
      ck (okI 51 x1) <|
      if (gI σ 51 x1.toNatClampNeg) = (-1) then (
        b_Mo_findTree_75 k28 x1 x1 σ
      ) else (
        ck (okI 51 x1) <|
        ck (okZ 56 (gI σ 51 x1.toNatClampNeg)) <|
        if (gI σ 56 (gI σ 51 x1.toNatClampNeg).toNatClampNeg) = 0 then (
          b_Mo_findTree_75 k28 x1 x1 σ
        ) else (
          b_Mo_findTree_71 k28 x1 x1 σ
        )
      )
    )
  )
def l_Mo_findTree_28  : Int32 × gS → Option gS := lpF (fun k x => b_Mo_findTree_28 k x.1 x.2) gF
def b_Mo_findTree_2 (k2 : Int32 × gS → Option gS) (x1 : Int32) (σ : gS) : Option gS :=
  if 10 ≤ x1 then (
    bnd ((gI σ 46 0) - 1) fun x1_2 =>
    l_Mo_findTree_28 (x1_2, σ)
  ) else (
    ck (okZ 57 x1) <|
    ck (isB 0) <|
    bnd (sI σ 57 x1.toNatClampNeg 0) fun σ_4 =>
    bnd (x1 + 1) fun x1_6 =>
    k2 (x1_6, σ_4)
  )
def l_Mo_findTree_2  : Int32 × gS → Option gS := lpF (fun k x => b_Mo_findTree_2 k x.1 x.2) gF
def b_Mo_findTree_0 (σ : gS) : Option gS :=
  l_Mo_findTree_2 (0, σ)
def f_Mo_findTree (σ : gS) : Option gS := b_Mo_findTree_0 σ
def b_Mo_plansOf_43 (σ : gS) (k4 : Int32 × Int32 × Int32 → Option Int32) (x1 : Int32) (x3 : Int32) (y0 : Int32) : Option Int32 :=
  bnd (x3 + 1) fun x3_1 =>
  k4 (x1, y0, x3_1)
def b_Mo_plansOf_42 (σ : gS) (k4 : Int32 × Int32 × Int32 → Option Int32) (x1 : Int32) (x2 : Int32) (x3 : Int32) : Option Int32 :=
  b_Mo_plansOf_43 σ k4 x1 x3 x2
def b_Mo_plansOf_4 (σ : gS) (k4 : Int32 × Int32 × Int32 → Option Int32) (x1 : Int32) (x2 : Int32) (x3 : Int32) : Option Int32 :=
  if (gI σ 46 1) ≤ x3 then (
    some x2
  ) else (
    ck (okZ 57 x3) <|
    if (gI σ 57 x3.toNatClampNeg) = 0 then (
      b_Mo_plansOf_42 σ k4 x1 x2 x3
    ) else (
      ck (okI 54 x3) <|
      if (gI σ 54 x3.toNatClampNeg) = x1 then (
        ck (okI 55 x3) <|
        b_Mo_plansOf_43 σ k4 x1 x3 (x2 * (gI σ 55 x3.toNatClampNeg))
      ) else (
        b_Mo_plansOf_42 σ k4 x1 x2 x3
      )
    )
  )
def l_Mo_plansOf_4 (σ : gS) : Int32 × Int32 × Int32 → Option Int32 := lpF (fun k x => b_Mo_plansOf_4 σ k x.1 x.2.1 x.2.2) gF
def b_Mo_plansOf_0 (σ : gS) (x1 : Int32) : Option Int32 :=
  l_Mo_plansOf_4 σ (x1, 1, 0)
def f_Mo_plansOf (σ : gS) (x1 : Int32) : Option Int32 := b_Mo_plansOf_0 σ x1
def b_Mo_tooMany_0 (σ : gS) : Option (Int32 × gS) :=
  (f_Mo_findTree σ).bind fun r_1 =>
  (f_Mo_plansOf r_1 0).bind fun r_2 =>
  if 64 < r_2 then (
    ck (isB 1) <| some (1, r_1)
  ) else (
    (f_Mo_plansOf r_1 1).bind fun r_4 =>
    if r_4 ≤ 64 then (
      ck (isB 0) <| some (0, r_1)
    ) else (
      ck (isB 1) <| some (1, r_1)
    )
  )
def f_Mo_tooMany (σ : gS) : Option (Int32 × gS) := b_Mo_tooMany_0 σ
def b_Mo_undo_3 (k3 : Int32 × Int32 × Int32 × Int32 × Int32 × gS → Option gS) (x1 : Int32) (x2 : Int32) (x3 : Int32) (x4 : Int32) (x5 : Int32) (σ : gS) : Option gS :=
  if x1 ≤ x5 then (
    bnd (sI σ 46 0 ((gI σ 46 0) - 1)) fun σ_2 =>
    some σ_2
  ) else (
    (f_Mo_third x2 x3 x4 x5).bind fun r_3 =>
    ck (okI 51 r_3) <|
    bnd (sI σ 51 r_3.toNatClampNeg (-1)) fun σ_5 =>
    bnd (x5 + 1) fun x5_6 =>
    k3 (x1, x2, x3, x4, x5_6, σ_5)
  )
def l_Mo_undo_3  : Int32 × Int32 × Int32 × Int32 × Int32 × gS → Option gS := lpF (fun k x => b_Mo_undo_3 k x.1 x.2.1 x.2.2.1 x.2.2.2.1 x.2.2.2.2.1 x.2.2.2.2.2) gF
def b_Mo_undo_0 (x1 : Int32) (x2 : Int32) (x3 : Int32) (x4 : Int32) (σ : gS) : Option gS :=
  l_Mo_undo_3 (x1, x2, x3, x4, 0, σ)
def f_Mo_undo (σ : gS) (x1 : Int32) (x2 : Int32) (x3 : Int32) (x4 : Int32) : Option gS := b_Mo_undo_0 x1 x2 x3 x4 σ
def b_Mo_chance_62 (x1 : Int32) (x2 : Int32) (x3 : Int32) (x4 : Int32) (y0 : Int32) (σ : gS) : Option (Int32 × gS) :=
  if y0 = 0 then (
    some ((-2), σ)
  ) else (
    if (gI σ 46 0) = 40 then (
      some ((-3), σ)
    ) else (
      (f_Mo_bar σ x4 x1 x2 x3 1).bind fun r_3 =>
      if r_3 = 0 then (
        (f_Mo_make σ 1).bind fun r_5 =>
        bnd (r_5.1) fun x7_6 =>
        (f_Mo_adopt r_5.2 x7_6 x4 x1 x2 x3 1).bind fun r_7 =>
        (f_Mo_tooMany r_7).bind fun r_8 =>
        if r_8.1 = 0 then (
          some (x7_6, r_8.2)
        ) else (
          (f_Mo_undo r_8.2 x4 x1 x2 x3).bind fun r_10 =>
          some ((-6), r_10)
        )
      ) else (
        some (r_3, σ)
      )
    )
  )
def b_Mo_chance_61 (x1 : Int32) (x2 : Int32) (x3 : Int32) (x4 : Int32) (σ : gS) : Option (Int32 × gS) :=
  b_Mo_chance_62 x1 x2 x3 x4 0 σ
def b_Mo_chance_57 (x1 : Int32) (x2 : Int32) (x3 : Int32) (x4 : Int32) (σ : gS) : Option (Int32 × gS) :=
  b_Mo_chance_62 x1 x2 x3 x4 1 σ
def b_Mo_chance_43 (x1 : Int32) (x2 : Int32) (x3 : Int32) (x4 : Int32) (σ : gS) : Option (Int32 × gS) :=
  if x4 < 3 then (
    b_Mo_chance_57 x1 x2 x3 x4 σ
  ) else (
    (f_Mo_isNode σ x3).bind fun r_2 =>
    if r_2 = 0 then (
      b_Mo_chance_61 x1 x2 x3 x4 σ
    ) else (
      b_Mo_chance_57 x1 x2 x3 x4 σ
    )
  )
def b_Mo_chance_19 (x1 : Int32) (x2 : Int32) (x3 : Int32) (y0 : Int32) (σ : gS) : Option (Int32 × gS) :=
  (f_Mo_isNode σ x1).bind fun r_1 =>
  if r_1 = 0 then (
    b_Mo_chance_61 x1 x2 x3 y0 σ
  ) else (
    if y0 < 2 then (
      b_Mo_chance_43 x1 x2 x3 y0 σ
    ) else (
      (f_Mo_isNode σ x2).bind fun r_4 =>
      if r_4 = 0 then (
        b_Mo_chance_61 x1 x2 x3 y0 σ
      ) else (
        b_Mo_chance_43 x1 x2 x3 y0 σ
      )
    )
  )
def b_Mo_chance_0 (x1 : Int32) (x2 : Int32) (x3 : Int32) (σ : gS) : Option (Int32 × gS) :=
  if x3 = (-1) then (
    if x2 = (-1) then (
      b_Mo_chance_19 x1 x2 x3 1 σ
    ) else (
      b_Mo_chance_19 x1 x2 x3 2 σ
    )
  ) else (
    b_Mo_chance_19 x1 x2 x3 3 σ
  )
def f_Mo_chance (σ : gS) (x1 : Int32) (x2 : Int32) (x3 : Int32) : Option (Int32 × gS) := b_Mo_chance_0 x1 x2 x3 σ
def b_Mo_node_52 (x1 : Int32) (x2 : Int32) (x3 : Int32) (x4 : Int32) (σ : gS) : Option (Int32 × gS) :=
  if (gI σ 46 0) = 40 then (
    some ((-3), σ)
  ) else (
    ck (okI 55 x1) <|
    bnd (gI σ 55 x1.toNatClampNeg) fun x5_3 =>
    (f_Mo_bar σ x5_3 x2 x3 x4 0).bind fun r_4 =>
    if r_4 = 0 then (
      (f_Mo_make σ 2).bind fun r_6 =>
      bnd (r_6.1) fun x7_7 =>
      ck (okI 48 x7_7) <|
      bnd (sI r_6.2 48 x7_7.toNatClampNeg x1) fun σ_9 =>
      (f_Mo_adopt σ_9 x7_7 x5_3 x2 x3 x4 0).bind fun r_10 =>
      (f_Mo_tooMany r_10).bind fun r_11 =>
      if r_11.1 = 0 then (
        some (x7_7, r_11.2)
      ) else (
        (f_Mo_undo r_11.2 x5_3 x2 x3 x4).bind fun r_13 =>
        some ((-6), r_13)
      )
    ) else (
      some (r_4, σ)
    )
  )
def b_Mo_node_0 (x1 : Int32) (x2 : Int32) (x3 : Int32) (x4 : Int32) (σ : gS) : Option (Int32 × gS) :=
  (f_Mo_isFrom x1 0 ((gI σ 46 1) - 1)).bind fun r_1 =>
  if r_1 = 0 then (
    some ((-2), σ)
  ) else (
    (f_Mo_isNode σ x2).bind fun r_3 =>
    if r_3 = 0 then (
      some ((-2), σ)
    ) else (
      (f_Mo_isNode σ x3).bind fun r_5 =>
      if r_5 = 0 then (
        some ((-2), σ)
      ) else (
        ck (okI 55 x1) <|
        if (gI σ 55 x1.toNatClampNeg) ≤ 2 then (
          b_Mo_node_52 x1 x2 x3 x4 σ
        ) else (
          (f_Mo_isNode σ x4).bind fun r_9 =>
          if r_9 = 0 then (
            some ((-2), σ)
          ) else (
            b_Mo_node_52 x1 x2 x3 x4 σ
          )
        )
      )
    )
  )
def f_Mo_node (σ : gS) (x1 : Int32) (x2 : Int32) (x3 : Int32) (x4 : Int32) : Option (Int32 × gS) := b_Mo_node_0 x1 x2 x3 x4 σ
def b_Mo_root_0 (σ : gS) : Option Int32 :=
  some ((gI σ 46 0) - 1)
def f_Mo_root (σ : gS) : Option Int32 := b_Mo_root_0 σ
def b_Mo_actOf_53 (σ : gS) (k11 : Int32 × Int32 × Int32 × Int32 → Option Int32) (x1 : Int32) (x3 : Int32) (x5 : Int32) (y0 : Int32) : Option Int32 :=
  bnd (x5 + (-1)) fun x5_1 =>
  k11 (x1, x3, y0, x5_1)
def b_Mo_actOf_51 (σ : gS) (k11 : Int32 × Int32 × Int32 × Int32 → Option Int32) (x1 : Int32) (x3 : Int32) (x4 : Int32) (x5 : Int32) : Option Int32 :=
  b_Mo_actOf_53 σ k11 x1 x3 x5 x4
def b_Mo_actOf_11 (σ : gS) (k11 : Int32 × Int32 × Int32 × Int32 → Option Int32) (x1 : Int32) (x3 : Int32) (x4 : Int32) (x5 : Int32) : Option Int32 :=
  if x5 ≤ x3 then (
    ck (okI 55 x3) <|
    ck (nz (gI σ 55 x3.toNatClampNeg)) <|
    some (x4 - x4 / (gI σ 55 x3.toNatClampNeg) * (gI σ 55 x3.toNatClampNeg))
  ) else (
    ck (okZ 57 x5) <|
    if (gI σ 57 x5.toNatClampNeg) = 0 then (
      b_Mo_actOf_51 σ k11 x1 x3 x4 x5
    ) else (
      ck (okI 54 x5) <|
      if (gI σ 54 x5.toNatClampNeg) = x1 then (
        ck (okI 55 x5) <|
        ck (nz (gI σ 55 x5.toNatClampNeg)) <|
        b_Mo_actOf_53 σ k11 x1 x3 x5 (x4 / (gI σ 55 x5.toNatClampNeg))
      ) else (
        b_Mo_actOf_51 σ k11 x1 x3 x4 x5
      )
    )
  )
def l_Mo_actOf_11 (σ : gS) : Int32 × Int32 × Int32 × Int32 → Option Int32 := lpF (fun k x => b_Mo_actOf_11 σ k x.1 x.2.1 x.2.2.1 x.2.2.2) gF
def b_Mo_actOf_0 (σ : gS) (x1 : Int32) (x2 : Int32) (x3 : Int32) : Option Int32 :=
  bnd ((gI σ 46 1) - 1) fun x5_1 =>
  l_Mo_actOf_11 σ (x1, x3, x2, x5_1)
def f_Mo_actOf (σ : gS) (x1 : Int32) (x2 : Int32) (x3 : Int32) : Option Int32 := b_Mo_actOf_0 σ x1 x2 x3
def b_Mo_mean_55 (σ : gS) (k8 : Int32 × Int32 × Int32 × Int32 × Int32 → Option Int32) (x1 : Int32) (x2 : Int32) (x3 : Int32) (x4 : Int32) (x5 : Int32) : Option Int32 :=
  bnd (x5 + 1) fun x5_1 =>
  k8 (x1, x2, x3, x4, x5_1)
def b_Mo_mean_8 (σ : gS) (k8 : Int32 × Int32 × Int32 × Int32 × Int32 → Option Int32) (x1 : Int32) (x2 : Int32) (x3 : Int32) (x4 : Int32) (x5 : Int32) : Option Int32 :=
  if 3 ≤ x5 then (
    ck (nz x4) <|
    some (x3 / x4)
  ) else (
    ck (okI 50 ((3 * x1) + x5)) <|
    if (gI σ 50 ((3 * x1) + x5).toNatClampNeg) = (-1) then (
      b_Mo_mean_55 σ k8 x1 x2 x3 x4 x5
    ) else (
      ck (okI 50 ((3 * x1) + x5)) <|
      ck (okI 58 ((2 * (gI σ 50 ((3 * x1) + x5).toNatClampNeg)) + x2)) <|
      bnd (x3 + (gI σ 58 ((2 * (gI σ 50 ((3 * x1) + x5).toNatClampNeg)) + x2).toNatClampNeg)) fun x3_7 =>
      bnd (x4 + 1) fun x4_8 =>
      b_Mo_mean_55 σ k8 x1 x2 x3_7 x4_8 x5
    )
  )
def l_Mo_mean_8 (σ : gS) : Int32 × Int32 × Int32 × Int32 × Int32 → Option Int32 := lpF (fun k x => b_Mo_mean_8 σ k x.1 x.2.1 x.2.2.1 x.2.2.2.1 x.2.2.2.2) gF
def b_Mo_mean_0 (σ : gS) (x1 : Int32) (x2 : Int32) : Option Int32 :=
  l_Mo_mean_8 σ (x1, x2, 0, 0, 0)
def f_Mo_mean (σ : gS) (x1 : Int32) (x2 : Int32) : Option Int32 := b_Mo_mean_0 σ x1 x2
def b_Mo_work_196 (k70 : Int32 × Int32 × Int32 × Int32 × gS → Option gS) (x1 : Int32) (x2 : Int32) (x3 : Int32) (x4 : Int32) (σ : gS) : Option gS :=
  bnd (x4 + 1) fun x4_1 =>
  k70 (x1, x2, x3, x4_1, σ)
def b_Mo_work_189 (k70 : Int32 × Int32 × Int32 × Int32 × gS → Option gS) (k79 : Int32 × Int32 × Int32 × Int32 × Int32 × gS → Option gS) (x1 : Int32) (x2 : Int32) (x3 : Int32) (x4 : Int32) (x5 : Int32) (y1 : Int32) (y2 : Int32) (σ : gS) : Option gS :=
  ck (okI 58 y1) <|
  bnd (sI σ 58 y1.toNatClampNeg y2) fun σ_2 =>
  bnd (x5 + 1) fun x5_3 =>
  k79 (x1, x2, x3, x4, x5_3, σ_2)
def b_Mo_work_79 (k70 : Int32 × Int32 × Int32 × Int32 × gS → Option gS) (k79 : Int32 × Int32 × Int32 × Int32 × Int32 × gS → Option gS) (x1 : Int32) (x2 : Int32) (x3 : Int32) (x4 : Int32) (x5 : Int32) (σ : gS) : Option gS :=
  if 2 ≤ x5 then (
    b_Mo_work_196 k70 x1 x2 x3 x4 σ
  ) else (
    ck (okZ 56 x4) <|
    if (gI σ 56 x4.toNatClampNeg) = 0 then (
      b_Mo_work_196 k70 x1 x2 x3 x4 σ
    ) else (
      ck (okI 47 x4) <|
      if (gI σ 47 x4.toNatClampNeg) = 0 then (
        ck (okI 49 ((2 * x4) + x5)) <|
        b_Mo_work_189 k70 k79 x1 x2 x3 x4 x5 ((2 * x4) + x5) ((gI σ 49 ((2 * x4) + x5).toNatClampNeg) * 7776) σ
      ) else (
        ck (okI 47 x4) <|
        if (gI σ 47 x4.toNatClampNeg) = 1 then (
          (f_Mo_mean σ x4 x5).bind fun r_12 =>
          b_Mo_work_189 k70 k79 x1 x2 x3 x4 x5 ((2 * x4) + x5) r_12 σ
        ) else (
          ck (okI 48 x4) <|
          ck (okI 60 (gI σ 48 x4.toNatClampNeg)) <|
          ck (okI 50 ((3 * x4) + (gI σ 60 (gI σ 48 x4.toNatClampNeg).toNatClampNeg))) <|
          ck (okI 58 ((2 * (gI σ 50 ((3 * x4) + (gI σ 60 (gI σ 48 x4.toNatClampNeg).toNatClampNeg)).toNatClampNeg)) + x5)) <|
          b_Mo_work_189 k70 k79 x1 x2 x3 x4 x5 ((2 * x4) + x5) (gI σ 58 ((2 * (gI σ 50 ((3 * x4) + (gI σ 60 (gI σ 48 x4.toNatClampNeg).toNatClampNeg)).toNatClampNeg)) + x5).toNatClampNeg) σ
        )
      )
    )
  )
def l_Mo_work_79 (k70 : Int32 × Int32 × Int32 × Int32 × gS → Option gS) : Int32 × Int32 × Int32 × Int32 × Int32 × gS → Option gS := lpF (fun k x => b_Mo_work_79 k70 k x.1 x.2.1 x.2.2.1 x.2.2.2.1 x.2.2.2.2.1 x.2.2.2.2.2) gF
def b_Mo_work_70 (k70 : Int32 × Int32 × Int32 × Int32 × gS → Option gS) (x1 : Int32) (x2 : Int32) (x3 : Int32) (x4 : Int32) (σ : gS) : Option gS :=
  if x1 < x4 then (
    ck (okI 58 (2 * x1)) <|
    ck (okI 59 ((64 * x2) + x3)) <|
    bnd (sI σ 59 ((64 * x2) + x3).toNatClampNeg (gI σ 58 (2 * x1).toNatClampNeg)) fun σ_4 =>
    ck (okI 58 ((2 * x1) + 1)) <|
    ck (okI 59 ((4096 + (64 * x2)) + x3)) <|
    bnd (sI σ_4 59 ((4096 + (64 * x2)) + x3).toNatClampNeg (gI σ_4 58 ((2 * x1) + 1).toNatClampNeg)) fun σ_7 =>
    some σ_7
  ) else (
    l_Mo_work_79 k70 (x1, x2, x3, x4, 0, σ)
  )
def l_Mo_work_70  : Int32 × Int32 × Int32 × Int32 × gS → Option gS := lpF (fun k x => b_Mo_work_70 k x.1 x.2.1 x.2.2.1 x.2.2.2.1 x.2.2.2.2) gF
def b_Mo_work_60 (k3 : Int32 × Int32 × Int32 × Int32 × gS → Option gS) (x1 : Int32) (x2 : Int32) (x3 : Int32) (x4 : Int32) (y1 : Int32) (y2 : Int32) (σ : gS) : Option gS :=
  ck (okI 60 y1) <|
  bnd (sI σ 60 y1.toNatClampNeg y2) fun σ_2 =>
  bnd (x4 + 1) fun x4_3 =>
  k3 (x1, x2, x3, x4_3, σ_2)
def b_Mo_work_51 (k3 : Int32 × Int32 × Int32 × Int32 × gS → Option gS) (x1 : Int32) (x2 : Int32) (x3 : Int32) (x4 : Int32) (y1 : Int32) (y3 : Int32) (y4 : Int32) (σ : gS) : Option gS :=
  (f_Mo_actOf σ y3 y4 x4).bind fun r_1 =>
  b_Mo_work_60 k3 x1 x2 x3 x4 y1 r_1 σ
def b_Mo_work_3 (k3 : Int32 × Int32 × Int32 × Int32 × gS → Option gS) (x1 : Int32) (x2 : Int32) (x3 : Int32) (x4 : Int32) (σ : gS) : Option gS :=
  if (gI σ 46 1) ≤ x4 then (
    l_Mo_work_70 (x1, x2, x3, 0, σ)
  ) else (
    ck (okZ 57 x4) <|
    if (gI σ 57 x4.toNatClampNeg) = 0 then (
      b_Mo_work_60 k3 x1 x2 x3 x4 x4 0 σ
    ) else (
      ck (okI 54 x4) <|
      ck (okI 54 x4) <|
      if (gI σ 54 x4.toNatClampNeg) = 0 then (
        b_Mo_work_51 k3 x1 x2 x3 x4 x4 (gI σ 54 x4.toNatClampNeg) x2 σ
      ) else (
        b_Mo_work_51 k3 x1 x2 x3 x4 x4 (gI σ 54 x4.toNatClampNeg) x3 σ
      )
    )
  )
def l_Mo_work_3  : Int32 × Int32 × Int32 × Int32 × gS → Option gS := lpF (fun k x => b_Mo_work_3 k x.1 x.2.1 x.2.2.1 x.2.2.2.1 x.2.2.2.2) gF
def b_Mo_work_0 (x1 : Int32) (x2 : Int32) (x3 : Int32) (σ : gS) : Option gS :=
  l_Mo_work_3 (x1, x2, x3, 0, σ)
def f_Mo_work (σ : gS) (x1 : Int32) (x2 : Int32) (x3 : Int32) : Option gS := b_Mo_work_0 x1 x2 x3 σ
def b_Mo_workAll_34 (k24 : Int32 × Int32 × gS → Option gS) (k34 : Int32 × Int32 × Int32 × gS → Option gS) (x1 : Int32) (x2 : Int32) (x3 : Int32) (σ : gS) : Option gS :=
  if (gI σ 46 17) ≤ x3 then (
    bnd (x2 + 1) fun x2_2 =>
    k24 (x1, x2_2, σ)
  ) else (
    (f_Mo_work σ x1 x2 x3).bind fun r_3 =>
    bnd (x3 + 1) fun x3_4 =>
    k34 (x1, x2, x3_4, r_3)
  )
def l_Mo_workAll_34 (k24 : Int32 × Int32 × gS → Option gS) : Int32 × Int32 × Int32 × gS → Option gS := lpF (fun k x => b_Mo_workAll_34 k24 k x.1 x.2.1 x.2.2.1 x.2.2.2) gF
def b_Mo_workAll_24 (k24 : Int32 × Int32 × gS → Option gS) (x1 : Int32) (x2 : Int32) (σ : gS) : Option gS :=
  if (gI σ 46 16) ≤ x2 then (
    some σ
  ) else (
    l_Mo_workAll_34 k24 (x1, x2, 0, σ)
  )
def l_Mo_workAll_24  : Int32 × Int32 × gS → Option gS := lpF (fun k x => b_Mo_workAll_24 k x.1 x.2.1 x.2.2) gF
def b_Mo_workAll_0 (x1 : Int32) (σ : gS) : Option gS :=
  (f_Mo_findTree σ).bind fun r_1 =>
  (f_Mo_plansOf r_1 0).bind fun r_2 =>
  bnd (sI r_1 46 16 r_2) fun σ_3 =>
  (f_Mo_plansOf σ_3 1).bind fun r_4 =>
  bnd (sI σ_3 46 17 r_4) fun σ_5 =>
  l_Mo_workAll_24 (x1, 0, σ_5)
def f_Mo_workAll (σ : gS) (x1 : Int32) : Option gS := b_Mo_workAll_0 x1 σ
def b_Mo_worthTo_0 (σ : gS) (x1 : Int32) (x2 : Int32) (x3 : Int32) : Option Int32 :=
  if x1 = 0 then (
    ck (okI 59 ((64 * x2) + x3)) <|
    some (gI σ 59 ((64 * x2) + x3).toNatClampNeg)
  ) else (
    ck (okI 59 ((4096 + (64 * x3)) + x2)) <|
    some (gI σ 59 ((4096 + (64 * x3)) + x2).toNatClampNeg)
  )
def f_Mo_worthTo (σ : gS) (x1 : Int32) (x2 : Int32) (x3 : Int32) : Option Int32 := b_Mo_worthTo_0 σ x1 x2 x3
def b_Mo_worth_75 (y1 : Int32) (y2 : Int32) (y3 : Int32) (σ : gS) : Option (Int32 × gS) :=
  (f_Mo_worthTo σ y1 y2 y3).bind fun r_1 =>
  some (r_1, σ)
def b_Mo_worth_66 (x1 : Int32) (x2 : Int32) (x3 : Int32) (y1 : Int32) (y2 : Int32) (σ : gS) : Option (Int32 × gS) :=
  if x3 = 0 then (
    b_Mo_worth_75 y1 y2 x2 σ
  ) else (
    b_Mo_worth_75 y1 y2 x1 σ
  )
def b_Mo_worth_0 (x1 : Int32) (x2 : Int32) (x3 : Int32) (σ : gS) : Option (Int32 × gS) :=
  (f_Mo_isFrom x3 0 1).bind fun r_1 =>
  if r_1 = 0 then (
    some ((-1000000), σ)
  ) else (
    if (gI σ 46 0) = 0 then (
      some ((-1000000), σ)
    ) else (
      (f_Mo_root σ).bind fun r_4 =>
      (f_Mo_workAll σ r_4).bind fun r_5 =>
      (f_Mo_isFrom x1 0 ((gI r_5 46 16) - 1)).bind fun r_6 =>
      if r_6 = 0 then (
        some ((-1000000), r_5)
      ) else (
        (f_Mo_isFrom x2 0 ((gI r_5 46 17) - 1)).bind fun r_8 =>
        if r_8 = 0 then (
          some ((-1000000), r_5)
        ) else (
          if x3 = 0 then (
            b_Mo_worth_66 x1 x2 x3 x3 x1 r_5
          ) else (
            b_Mo_worth_66 x1 x2 x3 x3 x2 r_5
          )
        )
      )
    )
  )
def f_Mo_worth (σ : gS) (x1 : Int32) (x2 : Int32) (x3 : Int32) : Option (Int32 × gS) := b_Mo_worth_0 x1 x2 x3 σ
def b_Mo_act_0 (x1 : Int32) (x2 : Int32) (x3 : Int32) (σ : gS) : Option (Int32 × gS) :=
  if (gI σ 46 0) = 0 then (
    some ((-1000000), σ)
  ) else (
    (f_Mo_isFrom x1 0 1).bind fun r_2 =>
    if r_2 = 0 then (
      some ((-2), σ)
    ) else (
      (f_Mo_isFrom x3 0 ((gI σ 46 1) - 1)).bind fun r_4 =>
      if r_4 = 0 then (
        some ((-2), σ)
      ) else (
        (f_Mo_findTree σ).bind fun r_6 =>
        (f_Mo_plansOf r_6 x1).bind fun r_7 =>
        (f_Mo_isFrom x2 0 (r_7 - 1)).bind fun r_8 =>
        if r_8 = 0 then (
          some ((-2), r_6)
        ) else (
          ck (okI 54 x3) <|
          if (gI r_6 54 x3.toNatClampNeg) = x1 then (
            ck (okZ 57 x3) <|
            if (gI r_6 57 x3.toNatClampNeg) = 0 then (
              some ((-1), r_6)
            ) else (
              (f_Mo_actOf r_6 x1 x2 x3).bind fun r_14 =>
              some (r_14, r_6)
            )
          ) else (
            some ((-1), r_6)
          )
        )
      )
    )
  )
def f_Mo_act (σ : gS) (x1 : Int32) (x2 : Int32) (x3 : Int32) : Option (Int32 × gS) := b_Mo_act_0 x1 x2 x3 σ
def b_Mo_many_0 (σ : gS) (x1 : Int32) : Option Int32 :=
  if x1 = 0 then (
    some (gI σ 46 16)
  ) else (
    some (gI σ 46 17)
  )
def f_Mo_many (σ : gS) (x1 : Int32) : Option Int32 := b_Mo_many_0 σ x1
def b_Mo_answerOf_39 (σ : gS) (k5 : Int32 × Int32 × Int32 × Int32 → Option Int32) (x1 : Int32) (x2 : Int32) (x4 : Int32) (y0 : Int32) : Option Int32 :=
  bnd (x4 + 1) fun x4_1 =>
  k5 (x1, x2, y0, x4_1)
def b_Mo_answerOf_5 (σ : gS) (k5 : Int32 × Int32 × Int32 × Int32 → Option Int32) (x1 : Int32) (x2 : Int32) (x3 : Int32) (x4 : Int32) : Option Int32 :=
  (f_Mo_many σ x1).bind fun r_1 =>
  if r_1 ≤ x4 then (
    some x3
  ) else (
    (f_Mo_worthTo σ x1 x4 x2).bind fun r_3 =>
    (f_Mo_worthTo σ x1 x3 x2).bind fun r_4 =>
    if r_3 ≤ r_4 then (
      b_Mo_answerOf_39 σ k5 x1 x2 x4 x3
    ) else (
      b_Mo_answerOf_39 σ k5 x1 x2 x4 x4
    )
  )
def l_Mo_answerOf_5 (σ : gS) : Int32 × Int32 × Int32 × Int32 → Option Int32 := lpF (fun k x => b_Mo_answerOf_5 σ k x.1 x.2.1 x.2.2.1 x.2.2.2) gF
def b_Mo_answerOf_0 (σ : gS) (x1 : Int32) (x2 : Int32) : Option Int32 :=
  l_Mo_answerOf_5 σ (x1, x2, 0, 1)
def f_Mo_answerOf (σ : gS) (x1 : Int32) (x2 : Int32) : Option Int32 := b_Mo_answerOf_0 σ x1 x2
def b_Mo_answer_0 (x1 : Int32) (x2 : Int32) (σ : gS) : Option (Int32 × gS) :=
  if (gI σ 46 0) = 0 then (
    some ((-1000000), σ)
  ) else (
    (f_Mo_isFrom x1 0 1).bind fun r_2 =>
    if r_2 = 0 then (
      some ((-2), σ)
    ) else (
      (f_Mo_root σ).bind fun r_4 =>
      (f_Mo_workAll σ r_4).bind fun r_5 =>
      (f_Mo_many r_5 (1 - x1)).bind fun r_6 =>
      (f_Mo_isFrom x2 0 (r_6 - 1)).bind fun r_7 =>
      if r_7 = 0 then (
        some ((-2), r_5)
      ) else (
        (f_Mo_answerOf r_5 x1 x2).bind fun r_9 =>
        some (r_9, r_5)
      )
    )
  )
def f_Mo_answer (σ : gS) (x1 : Int32) (x2 : Int32) : Option (Int32 × gS) := b_Mo_answer_0 x1 x2 σ
def b_Mo_sift_159 (k88 : Int32 × gS → Option gS) (k111 : Int32 × Int32 × Int32 × gS → Option gS) (x1 : Int32) (x2 : Int32) (x3 : Int32) (y1 : Int32) (y2 : Int32) (σ : gS) : Option gS :=
  ck (okZ 61 y1) <|
  ck (isB y2) <|
  bnd (sI σ 61 y1.toNatClampNeg y2) fun σ_2 =>
  bnd (x3 + 1) fun x3_4 =>
  k111 (x1, x2, x3_4, σ_2)
def b_Mo_sift_158 (k88 : Int32 × gS → Option gS) (k111 : Int32 × Int32 × Int32 × gS → Option gS) (x1 : Int32) (x2 : Int32) (x3 : Int32) (y1 : Int32) (σ : gS) : Option gS :=
  b_Mo_sift_159 k88 k111 x1 x2 x3 y1 0 σ
def b_Mo_sift_111 (k88 : Int32 × gS → Option gS) (k111 : Int32 × Int32 × Int32 × gS → Option gS) (x1 : Int32) (x2 : Int32) (x3 : Int32) (σ : gS) : Option gS :=
  if (gI σ 46 16) ≤ x3 then (
    bnd (x1 + 1) fun x1_2 =>
    k88 (x1_2, σ)
  ) else (
    ck (okZ 61 ((64 * x3) + x1)) <|
    if (gI σ 61 ((64 * x3) + x1).toNatClampNeg) = 0 then (
      b_Mo_sift_158 k88 k111 x1 x2 x3 ((64 * x3) + x1) σ
    ) else (
      (f_Mo_worthTo σ 0 x3 x1).bind fun r_5 =>
      if r_5 = x2 then (
        b_Mo_sift_159 k88 k111 x1 x2 x3 ((64 * x3) + x1) 1 σ
      ) else (
        b_Mo_sift_158 k88 k111 x1 x2 x3 ((64 * x3) + x1) σ
      )
    )
  )
def l_Mo_sift_111 (k88 : Int32 × gS → Option gS) : Int32 × Int32 × Int32 × gS → Option gS := lpF (fun k x => b_Mo_sift_111 k88 k x.1 x.2.1 x.2.2.1 x.2.2.2) gF
def b_Mo_sift_88 (k88 : Int32 × gS → Option gS) (x1 : Int32) (σ : gS) : Option gS :=
  if (gI σ 46 17) ≤ x1 then (
    some σ
  ) else (
    (f_Mo_answerOf σ 0 x1).bind fun r_2 =>
    (f_Mo_worthTo σ 0 r_2 x1).bind fun r_3 =>
    l_Mo_sift_111 k88 (x1, r_3, 0, σ)
  )
def l_Mo_sift_88  : Int32 × gS → Option gS := lpF (fun k x => b_Mo_sift_88 k x.1 x.2) gF
def b_Mo_sift_73 (k2 : Int32 × gS → Option gS) (k25 : Int32 × Int32 × Int32 × gS → Option gS) (x1 : Int32) (x2 : Int32) (x3 : Int32) (y1 : Int32) (y2 : Int32) (σ : gS) : Option gS :=
  ck (okZ 61 y1) <|
  ck (isB y2) <|
  bnd (sI σ 61 y1.toNatClampNeg y2) fun σ_2 =>
  bnd (x3 + 1) fun x3_4 =>
  k25 (x1, x2, x3_4, σ_2)
def b_Mo_sift_72 (k2 : Int32 × gS → Option gS) (k25 : Int32 × Int32 × Int32 × gS → Option gS) (x1 : Int32) (x2 : Int32) (x3 : Int32) (y1 : Int32) (σ : gS) : Option gS :=
  b_Mo_sift_73 k2 k25 x1 x2 x3 y1 0 σ
def b_Mo_sift_25 (k2 : Int32 × gS → Option gS) (k25 : Int32 × Int32 × Int32 × gS → Option gS) (x1 : Int32) (x2 : Int32) (x3 : Int32) (σ : gS) : Option gS :=
  if (gI σ 46 17) ≤ x3 then (
    bnd (x1 + 1) fun x1_2 =>
    k2 (x1_2, σ)
  ) else (
    ck (okZ 61 ((64 * x1) + x3)) <|
    if (gI σ 61 ((64 * x1) + x3).toNatClampNeg) = 0 then (
      b_Mo_sift_72 k2 k25 x1 x2 x3 ((64 * x1) + x3) σ
    ) else (
      (f_Mo_worthTo σ 1 x3 x1).bind fun r_5 =>
      if r_5 = x2 then (
        b_Mo_sift_73 k2 k25 x1 x2 x3 ((64 * x1) + x3) 1 σ
      ) else (
        b_Mo_sift_72 k2 k25 x1 x2 x3 ((64 * x1) + x3) σ
      )
    )
  )
def l_Mo_sift_25 (k2 : Int32 × gS → Option gS) : Int32 × Int32 × Int32 × gS → Option gS := lpF (fun k x => b_Mo_sift_25 k2 k x.1 x.2.1 x.2.2.1 x.2.2.2) gF
def b_Mo_sift_2 (k2 : Int32 × gS → Option gS) (x1 : Int32) (σ : gS) : Option gS :=
  if (gI σ 46 16) ≤ x1 then (
    l_Mo_sift_88 (0, σ)
  ) else (
    (f_Mo_answerOf σ 1 x1).bind fun r_2 =>
    (f_Mo_worthTo σ 1 r_2 x1).bind fun r_3 =>
    l_Mo_sift_25 k2 (x1, r_3, 0, σ)
  )
def l_Mo_sift_2  : Int32 × gS → Option gS := lpF (fun k x => b_Mo_sift_2 k x.1 x.2) gF
def b_Mo_sift_0 (σ : gS) : Option gS :=
  l_Mo_sift_2 (0, σ)
def f_Mo_sift (σ : gS) : Option gS := b_Mo_sift_0 σ
def b_Mo_isBelow_22 (σ : gS) (x2 : Int32) (x3 : Int32) : Option Int32 :=
  if x3 = x2 then (
    ck (isB 1) <| some 1
  ) else (
    ck (isB 0) <| some 0
  )
def b_Mo_isBelow_2 (σ : gS) (k2 : Int32 × Int32 → Option Int32) (x2 : Int32) (x3 : Int32) : Option Int32 :=
  if x3 = (-1) then (
    b_Mo_isBelow_22 σ x2 x3
  ) else (
    if x3 = x2 then (
      b_Mo_isBelow_22 σ x2 x3
    ) else (
      ck (okI 51 x3) <|
      bnd (gI σ 51 x3.toNatClampNeg) fun x3_4 =>
      k2 (x2, x3_4)
    )
  )
def l_Mo_isBelow_2 (σ : gS) : Int32 × Int32 → Option Int32 := lpF (fun k x => b_Mo_isBelow_2 σ k x.1 x.2) gF
def b_Mo_isBelow_0 (σ : gS) (x1 : Int32) (x2 : Int32) : Option Int32 :=
  l_Mo_isBelow_2 σ (x2, x1)
def f_Mo_isBelow (σ : gS) (x1 : Int32) (x2 : Int32) : Option Int32 := b_Mo_isBelow_0 σ x1 x2
def b_Mo_isGame_193 (σ : gS) (k35 : Int32 × Int32 × Int32 → Option Int32) (x1 : Int32) (x2 : Int32) (x3 : Int32) : Option Int32 :=
  bnd (x3 + 1) fun x3_1 =>
  k35 (x1, x2, x3_1)
def b_Mo_isGame_186 (σ : gS) (k35 : Int32 × Int32 × Int32 → Option Int32) (k107 : Int32 × Int32 × Int32 × Int32 × Int32 → Option Int32) (x1 : Int32) (x3 : Int32) (x4 : Int32) (x5 : Int32) (y0 : Int32) : Option Int32 :=
  bnd (x5 + 1) fun x5_1 =>
  k107 (x1, y0, x3, x4, x5_1)
def b_Mo_isGame_185 (σ : gS) (k35 : Int32 × Int32 × Int32 → Option Int32) (k107 : Int32 × Int32 × Int32 × Int32 × Int32 → Option Int32) (x1 : Int32) (x3 : Int32) (x4 : Int32) (x5 : Int32) : Option Int32 :=
  b_Mo_isGame_186 σ k35 k107 x1 x3 x4 x5 0
def b_Mo_isGame_181 (σ : gS) (k35 : Int32 × Int32 × Int32 → Option Int32) (k107 : Int32 × Int32 × Int32 × Int32 × Int32 → Option Int32) (x1 : Int32) (x3 : Int32) (x4 : Int32) (x5 : Int32) : Option Int32 :=
  b_Mo_isGame_186 σ k35 k107 x1 x3 x4 x5 1
def b_Mo_isGame_107 (σ : gS) (k35 : Int32 × Int32 × Int32 → Option Int32) (k107 : Int32 × Int32 × Int32 × Int32 × Int32 → Option Int32) (x1 : Int32) (x2 : Int32) (x3 : Int32) (x4 : Int32) (x5 : Int32) : Option Int32 :=
  if (gI σ 46 0) ≤ x5 then (
    b_Mo_isGame_193 σ k35 x1 x2 x3
  ) else (
    if x4 = 0 then (
      b_Mo_isGame_193 σ k35 x1 x2 x3
    ) else (
      (f_Mo_isBelow σ x3 x1).bind fun r_3 =>
      if r_3 = 0 then (
        b_Mo_isGame_193 σ k35 x1 x2 x3
      ) else (
        if x2 = 0 then (
          b_Mo_isGame_185 σ k35 k107 x1 x3 x4 x5
        ) else (
          ck (okZ 56 x5) <|
          if (gI σ 56 x5.toNatClampNeg) = 0 then (
            b_Mo_isGame_181 σ k35 k107 x1 x3 x4 x5
          ) else (
            ck (okI 47 x5) <|
            if (gI σ 47 x5.toNatClampNeg) = 2 then (
              ck (okI 48 x5) <|
              ck (okI 48 x3) <|
              if (gI σ 48 x5.toNatClampNeg) = (gI σ 48 x3.toNatClampNeg) then (
                (f_Mo_isBelow σ x5 x1).bind fun r_13 =>
                if r_13 = 0 then (
                  b_Mo_isGame_185 σ k35 k107 x1 x3 x4 x5
                ) else (
                  b_Mo_isGame_181 σ k35 k107 x1 x3 x4 x5
                )
              ) else (
                b_Mo_isGame_181 σ k35 k107 x1 x3 x4 x5
              )
            ) else (
              b_Mo_isGame_181 σ k35 k107 x1 x3 x4 x5
            )
          )
        )
      )
    )
  )
def l_Mo_isGame_107 (σ : gS) (k35 : Int32 × Int32 × Int32 → Option Int32) : Int32 × Int32 × Int32 × Int32 × Int32 → Option Int32 := lpF (fun k x => b_Mo_isGame_107 σ k35 k x.1 x.2.1 x.2.2.1 x.2.2.2.1 x.2.2.2.2) gF
def b_Mo_isGame_103 (σ : gS) (k35 : Int32 × Int32 × Int32 → Option Int32) (x1 : Int32) (x3 : Int32) (x4 : Int32) (y0 : Int32) : Option Int32 :=
  l_Mo_isGame_107 σ k35 (x1, y0, x3, x4, 0)
def b_Mo_isGame_102 (σ : gS) (k35 : Int32 × Int32 × Int32 → Option Int32) (x1 : Int32) (x3 : Int32) (x4 : Int32) : Option Int32 :=
  b_Mo_isGame_103 σ k35 x1 x3 x4 0
def b_Mo_isGame_98 (σ : gS) (k35 : Int32 × Int32 × Int32 → Option Int32) (x1 : Int32) (x3 : Int32) (x4 : Int32) : Option Int32 :=
  b_Mo_isGame_103 σ k35 x1 x3 x4 1
def b_Mo_isGame_72 (σ : gS) (k35 : Int32 × Int32 × Int32 → Option Int32) (x1 : Int32) (x2 : Int32) (x3 : Int32) (y0 : Int32) : Option Int32 :=
  if x2 = 0 then (
    b_Mo_isGame_102 σ k35 x1 x3 y0
  ) else (
    if y0 = 0 then (
      b_Mo_isGame_98 σ k35 x1 x3 y0
    ) else (
      ck (okI 48 x3) <|
      ck (okI 48 x1) <|
      if (gI σ 48 x3.toNatClampNeg) = (gI σ 48 x1.toNatClampNeg) then (
        b_Mo_isGame_102 σ k35 x1 x3 y0
      ) else (
        b_Mo_isGame_98 σ k35 x1 x3 y0
      )
    )
  )
def b_Mo_isGame_71 (σ : gS) (k35 : Int32 × Int32 × Int32 → Option Int32) (x1 : Int32) (x2 : Int32) (x3 : Int32) : Option Int32 :=
  b_Mo_isGame_72 σ k35 x1 x2 x3 0
def b_Mo_isGame_35 (σ : gS) (k35 : Int32 × Int32 × Int32 → Option Int32) (x1 : Int32) (x2 : Int32) (x3 : Int32) : Option Int32 :=
  if (gI σ 46 0) ≤ x3 then (
    ck (isB x2) <| some x2
  ) else (
    ck (okZ 56 x3) <|
    if (gI σ 56 x3.toNatClampNeg) = 0 then (
      b_Mo_isGame_71 σ k35 x1 x2 x3
    ) else (
      ck (okI 47 x3) <|
      if (gI σ 47 x3.toNatClampNeg) = 2 then (
        if x3 = x1 then (
          b_Mo_isGame_71 σ k35 x1 x2 x3
        ) else (
          b_Mo_isGame_72 σ k35 x1 x2 x3 1
        )
      ) else (
        b_Mo_isGame_71 σ k35 x1 x2 x3
      )
    )
  )
def l_Mo_isGame_35 (σ : gS) : Int32 × Int32 × Int32 → Option Int32 := lpF (fun k x => b_Mo_isGame_35 σ k x.1 x.2.1 x.2.2) gF
def b_Mo_isGame_0 (σ : gS) (x1 : Int32) : Option Int32 :=
  (f_Mo_root σ).bind fun r_1 =>
  if x1 = r_1 then (
    ck (isB 1) <| some 1
  ) else (
    ck (okZ 56 x1) <|
    if (gI σ 56 x1.toNatClampNeg) = 0 then (
      ck (isB 0) <| some 0
    ) else (
      ck (okI 47 x1) <|
      if (gI σ 47 x1.toNatClampNeg) = 2 then (
        l_Mo_isGame_35 σ (x1, 1, 0)
      ) else (
        ck (isB 0) <| some 0
      )
    )
  )
def f_Mo_isGame (σ : gS) (x1 : Int32) : Option Int32 := b_Mo_isGame_0 σ x1
def b_Mo_findPoints_65 (k36 : Int32 × Int32 × gS → Option gS) (x1 : Int32) (x2 : Int32) (σ : gS) : Option gS :=
  bnd (x2 + 1) fun x2_1 =>
  k36 (x1, x2_1, σ)
def b_Mo_findPoints_36 (k36 : Int32 × Int32 × gS → Option gS) (x1 : Int32) (x2 : Int32) (σ : gS) : Option gS :=
  (f_Mo_root σ).bind fun r_1 =>
  if r_1 ≤ x2 then (
    some σ
  ) else (
    if x1 = 0 then (
      some σ
    ) else (
      (f_Mo_isGame σ x2).bind fun r_4 =>
      if r_4 = 0 then (
        b_Mo_findPoints_65 k36 x1 x2 σ
      ) else (
        (f_Mo_workAll σ x2).bind fun r_6 =>
        (f_Mo_sift r_6).bind fun r_7 =>
        b_Mo_findPoints_65 k36 x1 x2 r_7
      )
    )
  )
def l_Mo_findPoints_36  : Int32 × Int32 × gS → Option gS := lpF (fun k x => b_Mo_findPoints_36 k x.1 x.2.1 x.2.2) gF
def b_Mo_findPoints_2 (k2 : Int32 × Int32 × gS → Option gS) (x1 : Int32) (x2 : Int32) (σ : gS) : Option gS :=
  if 4096 ≤ x2 then (
    (f_Mo_root σ).bind fun r_2 =>
    (f_Mo_workAll σ r_2).bind fun r_3 =>
    (f_Mo_sift r_3).bind fun r_4 =>
    l_Mo_findPoints_36 (x1, 0, r_4)
  ) else (
    ck (okZ 61 x2) <|
    ck (isB 1) <|
    bnd (sI σ 61 x2.toNatClampNeg 1) fun σ_6 =>
    bnd (x2 + 1) fun x2_8 =>
    k2 (x1, x2_8, σ_6)
  )
def l_Mo_findPoints_2  : Int32 × Int32 × gS → Option gS := lpF (fun k x => b_Mo_findPoints_2 k x.1 x.2.1 x.2.2) gF
def b_Mo_findPoints_0 (x1 : Int32) (σ : gS) : Option gS :=
  l_Mo_findPoints_2 (x1, 0, σ)
def f_Mo_findPoints (σ : gS) (x1 : Int32) : Option gS := b_Mo_findPoints_0 x1 σ
def b_Mo_countPoints_79 (k15 : Int32 × Int32 × Int32 × gS → Option (Int32 × gS)) (k27 : Int32 × Int32 × Int32 × Int32 × gS → Option (Int32 × gS)) (x2 : Int32) (x3 : Int32) (x4 : Int32) (x5 : Int32) (σ : gS) : Option (Int32 × gS) :=
  bnd (x5 + 1) fun x5_1 =>
  k27 (x2, x3, x4, x5_1, σ)
def b_Mo_countPoints_73 (k15 : Int32 × Int32 × Int32 × gS → Option (Int32 × gS)) (k27 : Int32 × Int32 × Int32 × Int32 × gS → Option (Int32 × gS)) (x2 : Int32) (x3 : Int32) (x4 : Int32) (x5 : Int32) (y1 : Int32) (σ : gS) : Option (Int32 × gS) :=
  bnd (sI σ 46 19 y1) fun σ_1 =>
  bnd (x3 + 1) fun x3_2 =>
  b_Mo_countPoints_79 k15 k27 x2 x3_2 x4 x5 σ_1
def b_Mo_countPoints_27 (k15 : Int32 × Int32 × Int32 × gS → Option (Int32 × gS)) (k27 : Int32 × Int32 × Int32 × Int32 × gS → Option (Int32 × gS)) (x2 : Int32) (x3 : Int32) (x4 : Int32) (x5 : Int32) (σ : gS) : Option (Int32 × gS) :=
  if (gI σ 46 17) ≤ x5 then (
    bnd (x4 + 1) fun x4_2 =>
    k15 (x2, x3, x4_2, σ)
  ) else (
    ck (okZ 61 ((64 * x4) + x5)) <|
    if (gI σ 61 ((64 * x4) + x5).toNatClampNeg) = 0 then (
      b_Mo_countPoints_79 k15 k27 x2 x3 x4 x5 σ
    ) else (
      if x3 = x2 then (
        b_Mo_countPoints_73 k15 k27 x2 x3 x4 x5 ((64 * x4) + x5) σ
      ) else (
        b_Mo_countPoints_73 k15 k27 x2 x3 x4 x5 (gI σ 46 19) σ
      )
    )
  )
def l_Mo_countPoints_27 (k15 : Int32 × Int32 × Int32 × gS → Option (Int32 × gS)) : Int32 × Int32 × Int32 × Int32 × gS → Option (Int32 × gS) := lpF (fun k x => b_Mo_countPoints_27 k15 k x.1 x.2.1 x.2.2.1 x.2.2.2.1 x.2.2.2.2) gF
def b_Mo_countPoints_15 (k15 : Int32 × Int32 × Int32 × gS → Option (Int32 × gS)) (x2 : Int32) (x3 : Int32) (x4 : Int32) (σ : gS) : Option (Int32 × gS) :=
  if (gI σ 46 16) ≤ x4 then (
    some (x3, σ)
  ) else (
    l_Mo_countPoints_27 k15 (x2, x3, x4, 0, σ)
  )
def l_Mo_countPoints_15  : Int32 × Int32 × Int32 × gS → Option (Int32 × gS) := lpF (fun k x => b_Mo_countPoints_15 k x.1 x.2.1 x.2.2.1 x.2.2.2) gF
def b_Mo_countPoints_0 (x1 : Int32) (x2 : Int32) (σ : gS) : Option (Int32 × gS) :=
  (f_Mo_findPoints σ x1).bind fun r_1 =>
  bnd (sI r_1 46 19 (-1)) fun σ_2 =>
  l_Mo_countPoints_15 (x2, 0, 0, σ_2)
def f_Mo_countPoints (σ : gS) (x1 : Int32) (x2 : Int32) : Option (Int32 × gS) := b_Mo_countPoints_0 x1 x2 σ
def b_Mo_point_0 (x1 : Int32) (x2 : Int32) (σ : gS) : Option (Int32 × gS) :=
  if (gI σ 46 0) = 0 then (
    some ((-1000000), σ)
  ) else (
    (f_Mo_countPoints σ x1 x2).bind fun r_2 =>
    some (gI r_2.2 46 19, r_2.2)
  )
def f_Mo_point (σ : gS) (x1 : Int32) (x2 : Int32) : Option (Int32 × gS) := b_Mo_point_0 x1 x2 σ
def b_Mo_games_49 (k13 : Int32 × Int32 × Int32 × gS → Option (Int32 × gS)) (x1 : Int32) (x2 : Int32) (x3 : Int32) (σ : gS) : Option (Int32 × gS) :=
  bnd (x3 + 1) fun x3_1 =>
  k13 (x1, x2, x3_1, σ)
def b_Mo_games_43 (k13 : Int32 × Int32 × Int32 × gS → Option (Int32 × gS)) (x1 : Int32) (x2 : Int32) (x3 : Int32) (y1 : Int32) (σ : gS) : Option (Int32 × gS) :=
  bnd (sI σ 46 20 y1) fun σ_1 =>
  bnd (x2 + 1) fun x2_2 =>
  b_Mo_games_49 k13 x1 x2_2 x3 σ_1
def b_Mo_games_13 (k13 : Int32 × Int32 × Int32 × gS → Option (Int32 × gS)) (x1 : Int32) (x2 : Int32) (x3 : Int32) (σ : gS) : Option (Int32 × gS) :=
  if (gI σ 46 0) ≤ x3 then (
    some (x2, σ)
  ) else (
    (f_Mo_isGame σ x3).bind fun r_2 =>
    if r_2 = 0 then (
      b_Mo_games_49 k13 x1 x2 x3 σ
    ) else (
      if x2 = x1 then (
        b_Mo_games_43 k13 x1 x2 x3 x3 σ
      ) else (
        b_Mo_games_43 k13 x1 x2 x3 (gI σ 46 20) σ
      )
    )
  )
def l_Mo_games_13  : Int32 × Int32 × Int32 × gS → Option (Int32 × gS) := lpF (fun k x => b_Mo_games_13 k x.1 x.2.1 x.2.2.1 x.2.2.2) gF
def b_Mo_games_0 (x1 : Int32) (σ : gS) : Option (Int32 × gS) :=
  (f_Mo_findTree σ).bind fun r_1 =>
  bnd (sI r_1 46 20 (-1)) fun σ_2 =>
  l_Mo_games_13 (x1, 0, 0, σ_2)
def f_Mo_games (σ : gS) (x1 : Int32) : Option (Int32 × gS) := b_Mo_games_0 x1 σ
def b_Mo_within_0 (x1 : Int32) (σ : gS) : Option (Int32 × gS) :=
  if (gI σ 46 0) = 0 then (
    some ((-1000000), σ)
  ) else (
    (f_Mo_games σ x1).bind fun r_2 =>
    some (gI r_2.2 46 20, r_2.2)
  )
def f_Mo_within (σ : gS) (x1 : Int32) : Option (Int32 × gS) := b_Mo_within_0 x1 σ
def b_Mo_allLeft_2 (k2 : Int32 × gS → Option gS) (x1 : Int32) (σ : gS) : Option gS :=
  if 128 ≤ x1 then (
    some σ
  ) else (
    ck (okZ 62 x1) <|
    ck (isB 1) <|
    bnd (sI σ 62 x1.toNatClampNeg 1) fun σ_3 =>
    ck (okI 63 x1) <|
    bnd (sI σ_3 63 x1.toNatClampNeg (-1)) fun σ_6 =>
    bnd (x1 + 1) fun x1_7 =>
    k2 (x1_7, σ_6)
  )
def l_Mo_allLeft_2  : Int32 × gS → Option gS := lpF (fun k x => b_Mo_allLeft_2 k x.1 x.2) gF
def b_Mo_allLeft_0 (σ : gS) : Option gS :=
  l_Mo_allLeft_2 (0, σ)
def f_Mo_allLeft (σ : gS) : Option gS := b_Mo_allLeft_0 σ
def b_Mo_isLeft_0 (σ : gS) (x1 : Int32) (x2 : Int32) : Option Int32 :=
  ck (okZ 62 ((64 * x1) + x2)) <|
  ck (isB (gI σ 62 ((64 * x1) + x2).toNatClampNeg)) <| some (gI σ 62 ((64 * x1) + x2).toNatClampNeg)
def f_Mo_isLeft (σ : gS) (x1 : Int32) (x2 : Int32) : Option Int32 := b_Mo_isLeft_0 σ x1 x2
def b_Mo_isWorse_59 (σ : gS) (k6 : Int32 × Int32 × Int32 × Int32 × Int32 → Option Int32) (x1 : Int32) (x2 : Int32) (x3 : Int32) (x5 : Int32) (y0 : Int32) : Option Int32 :=
  bnd (x5 + 1) fun x5_1 =>
  k6 (x1, x2, x3, y0, x5_1)
def b_Mo_isWorse_54 (σ : gS) (k6 : Int32 × Int32 × Int32 × Int32 × Int32 → Option Int32) (x1 : Int32) (x2 : Int32) (x3 : Int32) (x5 : Int32) : Option Int32 :=
  b_Mo_isWorse_59 σ k6 x1 x2 x3 x5 1
def b_Mo_isWorse_6 (σ : gS) (k6 : Int32 × Int32 × Int32 × Int32 × Int32 → Option Int32) (x1 : Int32) (x2 : Int32) (x3 : Int32) (x4 : Int32) (x5 : Int32) : Option Int32 :=
  (f_Mo_many σ (1 - x1)).bind fun r_1 =>
  if r_1 ≤ x5 then (
    ck (isB x4) <| some x4
  ) else (
    if x4 = 0 then (
      ck (isB x4) <| some x4
    ) else (
      (f_Mo_isLeft σ (1 - x1) x5).bind fun r_4 =>
      if r_4 = 0 then (
        b_Mo_isWorse_54 σ k6 x1 x2 x3 x5
      ) else (
        (f_Mo_worthTo σ x1 x2 x5).bind fun r_6 =>
        (f_Mo_worthTo σ x1 x3 x5).bind fun r_7 =>
        if r_7 ≤ r_6 then (
          b_Mo_isWorse_59 σ k6 x1 x2 x3 x5 0
        ) else (
          b_Mo_isWorse_54 σ k6 x1 x2 x3 x5
        )
      )
    )
  )
def l_Mo_isWorse_6 (σ : gS) : Int32 × Int32 × Int32 × Int32 × Int32 → Option Int32 := lpF (fun k x => b_Mo_isWorse_6 σ k x.1 x.2.1 x.2.2.1 x.2.2.2.1 x.2.2.2.2) gF
def b_Mo_isWorse_0 (σ : gS) (x1 : Int32) (x2 : Int32) (x3 : Int32) : Option Int32 :=
  l_Mo_isWorse_6 σ (x1, x2, x3, 1, 0)
def f_Mo_isWorse (σ : gS) (x1 : Int32) (x2 : Int32) (x3 : Int32) : Option Int32 := b_Mo_isWorse_0 σ x1 x2 x3
def b_Mo_isWeaker_81 (σ : gS) (k9 : Int32 × Int32 × Int32 × Int32 × Int32 × Int32 → Option Int32) (x1 : Int32) (x2 : Int32) (x3 : Int32) (x4 : Int32) (x6 : Int32) (y0 : Int32) : Option Int32 :=
  bnd (x6 + 1) fun x6_1 =>
  k9 (x1, x2, x3, x4, y0, x6_1)
def b_Mo_isWeaker_76 (σ : gS) (k9 : Int32 × Int32 × Int32 × Int32 × Int32 × Int32 → Option Int32) (x1 : Int32) (x2 : Int32) (x3 : Int32) (x4 : Int32) (x6 : Int32) : Option Int32 :=
  b_Mo_isWeaker_81 σ k9 x1 x2 x3 x4 x6 1
def b_Mo_isWeaker_50 (σ : gS) (k9 : Int32 × Int32 × Int32 × Int32 × Int32 × Int32 → Option Int32) (x1 : Int32) (x2 : Int32) (x3 : Int32) (x5 : Int32) (x6 : Int32) (y0 : Int32) : Option Int32 :=
  if x5 = 0 then (
    (f_Mo_worthTo σ x1 x2 x6).bind fun r_2 =>
    (f_Mo_worthTo σ x1 x3 x6).bind fun r_3 =>
    if r_3 ≤ r_2 then (
      b_Mo_isWeaker_81 σ k9 x1 x2 x3 y0 x6 0
    ) else (
      b_Mo_isWeaker_76 σ k9 x1 x2 x3 y0 x6
    )
  ) else (
    b_Mo_isWeaker_76 σ k9 x1 x2 x3 y0 x6
  )
def b_Mo_isWeaker_49 (σ : gS) (k9 : Int32 × Int32 × Int32 × Int32 × Int32 × Int32 → Option Int32) (x1 : Int32) (x2 : Int32) (x3 : Int32) (x5 : Int32) (x6 : Int32) : Option Int32 :=
  b_Mo_isWeaker_50 σ k9 x1 x2 x3 x5 x6 0
def b_Mo_isWeaker_9 (σ : gS) (k9 : Int32 × Int32 × Int32 × Int32 × Int32 × Int32 → Option Int32) (x1 : Int32) (x2 : Int32) (x3 : Int32) (x4 : Int32) (x5 : Int32) (x6 : Int32) : Option Int32 :=
  (f_Mo_many σ (1 - x1)).bind fun r_1 =>
  if r_1 ≤ x6 then (
    if x4 = 0 then (
      ck (isB 0) <| some 0
    ) else (
      if x5 = 0 then (
        ck (isB 0) <| some 0
      ) else (
        ck (isB 1) <| some 1
      )
    )
  ) else (
    if x4 = 0 then (
      b_Mo_isWeaker_49 σ k9 x1 x2 x3 x5 x6
    ) else (
      (f_Mo_worthTo σ x1 x2 x6).bind fun r_6 =>
      (f_Mo_worthTo σ x1 x3 x6).bind fun r_7 =>
      if r_7 < r_6 then (
        b_Mo_isWeaker_49 σ k9 x1 x2 x3 x5 x6
      ) else (
        b_Mo_isWeaker_50 σ k9 x1 x2 x3 x5 x6 1
      )
    )
  )
def l_Mo_isWeaker_9 (σ : gS) : Int32 × Int32 × Int32 × Int32 × Int32 × Int32 → Option Int32 := lpF (fun k x => b_Mo_isWeaker_9 σ k x.1 x.2.1 x.2.2.1 x.2.2.2.1 x.2.2.2.2.1 x.2.2.2.2.2) gF
def b_Mo_isWeaker_0 (σ : gS) (x1 : Int32) (x2 : Int32) (x3 : Int32) : Option Int32 :=
  l_Mo_isWeaker_9 σ (x1, x2, x3, 1, 0, 0)
def f_Mo_isWeaker (σ : gS) (x1 : Int32) (x2 : Int32) (x3 : Int32) : Option Int32 := b_Mo_isWeaker_0 σ x1 x2 x3
def b_Mo_isOne_116 (σ : gS) (k6 : Int32 × Int32 × Int32 × Int32 × Int32 → Option Int32) (x1 : Int32) (x2 : Int32) (x3 : Int32) (x5 : Int32) (y0 : Int32) : Option Int32 :=
  bnd (x5 + 1) fun x5_1 =>
  k6 (x1, x2, x3, y0, x5_1)
def b_Mo_isOne_115 (σ : gS) (k6 : Int32 × Int32 × Int32 × Int32 × Int32 → Option Int32) (x1 : Int32) (x2 : Int32) (x3 : Int32) (x5 : Int32) : Option Int32 :=
  b_Mo_isOne_116 σ k6 x1 x2 x3 x5 0
def b_Mo_isOne_62 (σ : gS) (k6 : Int32 × Int32 × Int32 × Int32 × Int32 → Option Int32) (x1 : Int32) (x2 : Int32) (x3 : Int32) (x4 : Int32) (x5 : Int32) (x6 : Int32) (y0 : Int32) : Option Int32 :=
  if x4 = 0 then (
    b_Mo_isOne_115 σ k6 x1 x2 x3 x5
  ) else (
    ck (okI 59 x6) <|
    ck (okI 59 y0) <|
    if (gI σ 59 x6.toNatClampNeg) = (gI σ 59 y0.toNatClampNeg) then (
      ck (okI 59 (4096 + x6)) <|
      ck (okI 59 (4096 + y0)) <|
      if (gI σ 59 (4096 + x6).toNatClampNeg) = (gI σ 59 (4096 + y0).toNatClampNeg) then (
        b_Mo_isOne_116 σ k6 x1 x2 x3 x5 1
      ) else (
        b_Mo_isOne_115 σ k6 x1 x2 x3 x5
      )
    ) else (
      b_Mo_isOne_115 σ k6 x1 x2 x3 x5
    )
  )
def b_Mo_isOne_39 (σ : gS) (k6 : Int32 × Int32 × Int32 × Int32 × Int32 → Option Int32) (x1 : Int32) (x2 : Int32) (x3 : Int32) (x4 : Int32) (x5 : Int32) (y0 : Int32) : Option Int32 :=
  if x1 = 0 then (
    b_Mo_isOne_62 σ k6 x1 x2 x3 x4 x5 y0 ((64 * x3) + x5)
  ) else (
    b_Mo_isOne_62 σ k6 x1 x2 x3 x4 x5 y0 ((64 * x5) + x3)
  )
def b_Mo_isOne_6 (σ : gS) (k6 : Int32 × Int32 × Int32 × Int32 × Int32 → Option Int32) (x1 : Int32) (x2 : Int32) (x3 : Int32) (x4 : Int32) (x5 : Int32) : Option Int32 :=
  (f_Mo_many σ (1 - x1)).bind fun r_1 =>
  if r_1 ≤ x5 then (
    ck (isB x4) <| some x4
  ) else (
    if x1 = 0 then (
      b_Mo_isOne_39 σ k6 x1 x2 x3 x4 x5 ((64 * x2) + x5)
    ) else (
      b_Mo_isOne_39 σ k6 x1 x2 x3 x4 x5 ((64 * x5) + x2)
    )
  )
def l_Mo_isOne_6 (σ : gS) : Int32 × Int32 × Int32 × Int32 × Int32 → Option Int32 := lpF (fun k x => b_Mo_isOne_6 σ k x.1 x.2.1 x.2.2.1 x.2.2.2.1 x.2.2.2.2) gF
def b_Mo_isOne_0 (σ : gS) (x1 : Int32) (x2 : Int32) (x3 : Int32) : Option Int32 :=
  l_Mo_isOne_6 σ (x1, x2, x3, 1, 0)
def f_Mo_isOne (σ : gS) (x1 : Int32) (x2 : Int32) (x3 : Int32) : Option Int32 := b_Mo_isOne_0 σ x1 x2 x3
def b_Mo_than_136 (k67 : Int32 × Int32 × Int32 × Int32 × Int32 × gS → Option (Int32 × gS)) (x1 : Int32) (x2 : Int32) (x3 : Int32) (x5 : Int32) (y0 : Int32) (σ : gS) : Option (Int32 × gS) :=
  bnd (x5 + 1) fun x5_1 =>
  k67 (x1, x2, x3, y0, x5_1, σ)
def b_Mo_than_122 (k67 : Int32 × Int32 × Int32 × Int32 × Int32 × gS → Option (Int32 × gS)) (x1 : Int32) (x2 : Int32) (x3 : Int32) (x4 : Int32) (x5 : Int32) (y0 : Int32) (σ : gS) : Option (Int32 × gS) :=
  if y0 = 0 then (
    b_Mo_than_136 k67 x1 x2 x3 x5 x4 σ
  ) else (
    b_Mo_than_136 k67 x1 x2 x3 x5 x5 σ
  )
def b_Mo_than_67 (k67 : Int32 × Int32 × Int32 × Int32 × Int32 × gS → Option (Int32 × gS)) (x1 : Int32) (x2 : Int32) (x3 : Int32) (x4 : Int32) (x5 : Int32) (σ : gS) : Option (Int32 × gS) :=
  (f_Mo_many σ x1).bind fun r_1 =>
  if r_1 ≤ x5 then (
    some (x4, σ)
  ) else (
    if x4 = (-1) then (
      if x3 = 0 then (
        (f_Mo_isWorse σ x1 x2 x5).bind fun r_8 =>
        b_Mo_than_122 k67 x1 x2 x3 x4 x5 r_8 σ
      ) else (
        if x3 = 1 then (
          (f_Mo_isWeaker σ x1 x2 x5).bind fun r_7 =>
          b_Mo_than_122 k67 x1 x2 x3 x4 x5 r_7 σ
        ) else (
          (f_Mo_isOne σ x1 x2 x5).bind fun r_6 =>
          b_Mo_than_122 k67 x1 x2 x3 x4 x5 r_6 σ
        )
      )
    ) else (
      some (x4, σ)
    )
  )
def l_Mo_than_67  : Int32 × Int32 × Int32 × Int32 × Int32 × gS → Option (Int32 × gS) := lpF (fun k x => b_Mo_than_67 k x.1 x.2.1 x.2.2.1 x.2.2.2.1 x.2.2.2.2.1 x.2.2.2.2.2) gF
def b_Mo_than_0 (x1 : Int32) (x2 : Int32) (x3 : Int32) (σ : gS) : Option (Int32 × gS) :=
  if (gI σ 46 0) = 0 then (
    some ((-1000000), σ)
  ) else (
    (f_Mo_isFrom x1 0 1).bind fun r_2 =>
    if r_2 = 0 then (
      some ((-2), σ)
    ) else (
      (f_Mo_isFrom x3 0 2).bind fun r_4 =>
      if r_4 = 0 then (
        some ((-2), σ)
      ) else (
        (f_Mo_root σ).bind fun r_6 =>
        (f_Mo_workAll σ r_6).bind fun r_7 =>
        (f_Mo_many r_7 x1).bind fun r_8 =>
        (f_Mo_isFrom x2 0 (r_8 - 1)).bind fun r_9 =>
        if r_9 = 0 then (
          some ((-2), r_7)
        ) else (
          (f_Mo_allLeft r_7).bind fun r_11 =>
          l_Mo_than_67 (x1, x2, x3, (-1), 0, r_11)
        )
      )
    )
  )
def f_Mo_than (σ : gS) (x1 : Int32) (x2 : Int32) (x3 : Int32) : Option (Int32 × gS) := b_Mo_than_0 x1 x2 x3 σ
def b_Mo_isWorst_45 (σ : gS) (k5 : Int32 × Int32 × Int32 × Int32 → Option Int32) (x1 : Int32) (x2 : Int32) (x4 : Int32) (y0 : Int32) : Option Int32 :=
  bnd (x4 + 1) fun x4_1 =>
  k5 (x1, x2, y0, x4_1)
def b_Mo_isWorst_44 (σ : gS) (k5 : Int32 × Int32 × Int32 × Int32 → Option Int32) (x1 : Int32) (x2 : Int32) (x4 : Int32) : Option Int32 :=
  b_Mo_isWorst_45 σ k5 x1 x2 x4 0
def b_Mo_isWorst_5 (σ : gS) (k5 : Int32 × Int32 × Int32 × Int32 → Option Int32) (x1 : Int32) (x2 : Int32) (x3 : Int32) (x4 : Int32) : Option Int32 :=
  (f_Mo_many σ x1).bind fun r_1 =>
  if r_1 ≤ x4 then (
    ck (isB x3) <| some x3
  ) else (
    if x3 = 0 then (
      (f_Mo_isLeft σ x1 x4).bind fun r_4 =>
      if r_4 = 0 then (
        b_Mo_isWorst_44 σ k5 x1 x2 x4
      ) else (
        (f_Mo_isWorse σ x1 x2 x4).bind fun r_6 =>
        if r_6 = 0 then (
          b_Mo_isWorst_44 σ k5 x1 x2 x4
        ) else (
          b_Mo_isWorst_45 σ k5 x1 x2 x4 1
        )
      )
    ) else (
      ck (isB x3) <| some x3
    )
  )
def l_Mo_isWorst_5 (σ : gS) : Int32 × Int32 × Int32 × Int32 → Option Int32 := lpF (fun k x => b_Mo_isWorst_5 σ k x.1 x.2.1 x.2.2.1 x.2.2.2) gF
def b_Mo_isWorst_0 (σ : gS) (x1 : Int32) (x2 : Int32) : Option Int32 :=
  l_Mo_isWorst_5 σ (x1, x2, 0, 0)
def f_Mo_isWorst (σ : gS) (x1 : Int32) (x2 : Int32) : Option Int32 := b_Mo_isWorst_0 σ x1 x2
def b_Mo_leftOf_29 (σ : gS) (k4 : Int32 × Int32 × Int32 → Option Int32) (x1 : Int32) (x3 : Int32) (y0 : Int32) : Option Int32 :=
  bnd (x3 + 1) fun x3_1 =>
  k4 (x1, y0, x3_1)
def b_Mo_leftOf_4 (σ : gS) (k4 : Int32 × Int32 × Int32 → Option Int32) (x1 : Int32) (x2 : Int32) (x3 : Int32) : Option Int32 :=
  (f_Mo_many σ x1).bind fun r_1 =>
  if r_1 ≤ x3 then (
    some x2
  ) else (
    (f_Mo_isLeft σ x1 x3).bind fun r_3 =>
    if r_3 = 0 then (
      b_Mo_leftOf_29 σ k4 x1 x3 x2
    ) else (
      b_Mo_leftOf_29 σ k4 x1 x3 (x2 + 1)
    )
  )
def l_Mo_leftOf_4 (σ : gS) : Int32 × Int32 × Int32 → Option Int32 := lpF (fun k x => b_Mo_leftOf_4 σ k x.1 x.2.1 x.2.2) gF
def b_Mo_leftOf_0 (σ : gS) (x1 : Int32) : Option Int32 :=
  l_Mo_leftOf_4 σ (x1, 0, 0)
def f_Mo_leftOf (σ : gS) (x1 : Int32) : Option Int32 := b_Mo_leftOf_0 σ x1
def b_Mo_doRounds_168 (k16 : Int32 × Int32 × gS → Option (Int32 × gS)) (k108 : Int32 × Int32 × Int32 × gS → Option (Int32 × gS)) (x1 : Int32) (x2 : Int32) (x3 : Int32) (y1 : Int32) (y2 : Int32) (σ : gS) : Option (Int32 × gS) :=
  ck (okI 63 y1) <|
  bnd (sI σ 63 y1.toNatClampNeg y2) fun σ_2 =>
  bnd (x3 + 1) fun x3_3 =>
  k108 (x1, x2, x3_3, σ_2)
def b_Mo_doRounds_143 (k16 : Int32 × Int32 × gS → Option (Int32 × gS)) (k108 : Int32 × Int32 × Int32 × gS → Option (Int32 × gS)) (x1 : Int32) (x2 : Int32) (x3 : Int32) (y1 : Int32) (y2 : Int32) (σ : gS) : Option (Int32 × gS) :=
  ck (okZ 62 y1) <|
  ck (isB y2) <|
  bnd (sI σ 62 y1.toNatClampNeg y2) fun σ_2 =>
  ck (okZ 64 x3) <|
  if (gI σ_2 64 x3.toNatClampNeg) = 0 then (
    ck (okI 63 x3) <|
    b_Mo_doRounds_168 k16 k108 x1 x2 x3 x3 (gI σ_2 63 x3.toNatClampNeg) σ_2
  ) else (
    b_Mo_doRounds_168 k16 k108 x1 x2 x3 x3 x2 σ_2
  )
def b_Mo_doRounds_142 (k16 : Int32 × Int32 × gS → Option (Int32 × gS)) (k108 : Int32 × Int32 × Int32 × gS → Option (Int32 × gS)) (x1 : Int32) (x2 : Int32) (x3 : Int32) (y1 : Int32) (σ : gS) : Option (Int32 × gS) :=
  b_Mo_doRounds_143 k16 k108 x1 x2 x3 y1 0 σ
def b_Mo_doRounds_108 (k16 : Int32 × Int32 × gS → Option (Int32 × gS)) (k108 : Int32 × Int32 × Int32 × gS → Option (Int32 × gS)) (x1 : Int32) (x2 : Int32) (x3 : Int32) (σ : gS) : Option (Int32 × gS) :=
  if 128 ≤ x3 then (
    bnd (x2 + 1) fun x2_2 =>
    k16 (x1, x2_2, σ)
  ) else (
    ck (okZ 62 x3) <|
    if (gI σ 62 x3.toNatClampNeg) = 0 then (
      b_Mo_doRounds_142 k16 k108 x1 x2 x3 x3 σ
    ) else (
      ck (okZ 64 x3) <|
      if (gI σ 64 x3.toNatClampNeg) = 0 then (
        b_Mo_doRounds_143 k16 k108 x1 x2 x3 x3 1 σ
      ) else (
        b_Mo_doRounds_142 k16 k108 x1 x2 x3 x3 σ
      )
    )
  )
def l_Mo_doRounds_108 (k16 : Int32 × Int32 × gS → Option (Int32 × gS)) : Int32 × Int32 × Int32 × gS → Option (Int32 × gS) := lpF (fun k x => b_Mo_doRounds_108 k16 k x.1 x.2.1 x.2.2.1 x.2.2.2) gF
def b_Mo_doRounds_99 (k16 : Int32 × Int32 × gS → Option (Int32 × gS)) (k24 : Int32 × Int32 × Int32 × gS → Option (Int32 × gS)) (x2 : Int32) (x3 : Int32) (y0 : Int32) (σ : gS) : Option (Int32 × gS) :=
  bnd (x3 + 1) fun x3_1 =>
  k24 (y0, x2, x3_1, σ)
def b_Mo_doRounds_94 (k16 : Int32 × Int32 × gS → Option (Int32 × gS)) (k24 : Int32 × Int32 × Int32 × gS → Option (Int32 × gS)) (x2 : Int32) (x3 : Int32) (σ : gS) : Option (Int32 × gS) :=
  b_Mo_doRounds_99 k16 k24 x2 x3 1 σ
def b_Mo_doRounds_80 (k16 : Int32 × Int32 × gS → Option (Int32 × gS)) (k24 : Int32 × Int32 × Int32 × gS → Option (Int32 × gS)) (x1 : Int32) (x2 : Int32) (x3 : Int32) (y1 : Int32) (y2 : Int32) (σ : gS) : Option (Int32 × gS) :=
  ck (okZ 64 y1) <|
  ck (isB y2) <|
  bnd (sI σ 64 y1.toNatClampNeg y2) fun σ_2 =>
  if x1 = 0 then (
    ck (okZ 64 x3) <|
    if (gI σ_2 64 x3.toNatClampNeg) = 0 then (
      b_Mo_doRounds_99 k16 k24 x2 x3 0 σ_2
    ) else (
      b_Mo_doRounds_94 k16 k24 x2 x3 σ_2
    )
  ) else (
    b_Mo_doRounds_94 k16 k24 x2 x3 σ_2
  )
def b_Mo_doRounds_79 (k16 : Int32 × Int32 × gS → Option (Int32 × gS)) (k24 : Int32 × Int32 × Int32 × gS → Option (Int32 × gS)) (x1 : Int32) (x2 : Int32) (x3 : Int32) (y1 : Int32) (σ : gS) : Option (Int32 × gS) :=
  b_Mo_doRounds_80 k16 k24 x1 x2 x3 y1 0 σ
def b_Mo_doRounds_24 (k16 : Int32 × Int32 × gS → Option (Int32 × gS)) (k24 : Int32 × Int32 × Int32 × gS → Option (Int32 × gS)) (x1 : Int32) (x2 : Int32) (x3 : Int32) (σ : gS) : Option (Int32 × gS) :=
  if 128 ≤ x3 then (
    l_Mo_doRounds_108 k16 (x1, x2, 0, σ)
  ) else (
    ck (nz 64) <|
    ck (nz 64) <|
    (f_Mo_many σ (x3 / 64)).bind fun r_4 =>
    if r_4 ≤ (x3 - x3 / 64 * 64) then (
      b_Mo_doRounds_79 k16 k24 x1 x2 x3 x3 σ
    ) else (
      ck (okZ 62 x3) <|
      if (gI σ 62 x3.toNatClampNeg) = 0 then (
        b_Mo_doRounds_79 k16 k24 x1 x2 x3 x3 σ
      ) else (
        ck (nz 64) <|
        ck (nz 64) <|
        (f_Mo_isWorst σ (x3 / 64) (x3 - x3 / 64 * 64)).bind fun r_10 =>
        if r_10 = 0 then (
          b_Mo_doRounds_79 k16 k24 x1 x2 x3 x3 σ
        ) else (
          b_Mo_doRounds_80 k16 k24 x1 x2 x3 x3 1 σ
        )
      )
    )
  )
def l_Mo_doRounds_24 (k16 : Int32 × Int32 × gS → Option (Int32 × gS)) : Int32 × Int32 × Int32 × gS → Option (Int32 × gS) := lpF (fun k x => b_Mo_doRounds_24 k16 k x.1 x.2.1 x.2.2.1 x.2.2.2) gF
def b_Mo_doRounds_16 (k16 : Int32 × Int32 × gS → Option (Int32 × gS)) (x1 : Int32) (x2 : Int32) (σ : gS) : Option (Int32 × gS) :=
  if x1 = 0 then (
    (f_Mo_leftOf σ 0).bind fun r_2 =>
    (f_Mo_leftOf σ 1).bind fun r_3 =>
    some (r_2 * r_3, σ)
  ) else (
    l_Mo_doRounds_24 k16 (0, x2, 0, σ)
  )
def l_Mo_doRounds_16  : Int32 × Int32 × gS → Option (Int32 × gS) := lpF (fun k x => b_Mo_doRounds_16 k x.1 x.2.1 x.2.2) gF
def b_Mo_doRounds_0 (σ : gS) : Option (Int32 × gS) :=
  (f_Mo_root σ).bind fun r_1 =>
  (f_Mo_workAll σ r_1).bind fun r_2 =>
  (f_Mo_allLeft r_2).bind fun r_3 =>
  l_Mo_doRounds_16 (1, 1, r_3)
def f_Mo_doRounds (σ : gS) : Option (Int32 × gS) := b_Mo_doRounds_0 σ
def b_Mo_goes_0 (x1 : Int32) (x2 : Int32) (σ : gS) : Option (Int32 × gS) :=
  if (gI σ 46 0) = 0 then (
    some ((-1000000), σ)
  ) else (
    (f_Mo_isFrom x1 0 1).bind fun r_2 =>
    if r_2 = 0 then (
      some ((-2), σ)
    ) else (
      (f_Mo_doRounds σ).bind fun r_4 =>
      (f_Mo_many r_4.2 x1).bind fun r_5 =>
      (f_Mo_isFrom x2 0 (r_5 - 1)).bind fun r_6 =>
      if r_6 = 0 then (
        some ((-2), r_4.2)
      ) else (
        ck (okI 63 ((64 * x1) + x2)) <|
        some (gI r_4.2 63 ((64 * x1) + x2).toNatClampNeg, r_4.2)
      )
    )
  )
def f_Mo_goes (σ : gS) (x1 : Int32) (x2 : Int32) : Option (Int32 × gS) := b_Mo_goes_0 x1 x2 σ
def b_Mo_sure_111 (k32 : Int32 × Int32 × Int32 × gS → Option (Int32 × gS)) (x1 : Int32) (x3 : Int32) (y0 : Int32) (σ : gS) : Option (Int32 × gS) :=
  bnd (x3 + 1) fun x3_1 =>
  k32 (x1, y0, x3_1, σ)
def b_Mo_sure_91 (k32 : Int32 × Int32 × Int32 × gS → Option (Int32 × gS)) (k53 : Int32 × Int32 × Int32 × Int32 × Int32 × gS → Option (Int32 × gS)) (x1 : Int32) (x2 : Int32) (x3 : Int32) (x5 : Int32) (y0 : Int32) (σ : gS) : Option (Int32 × gS) :=
  bnd (x5 + 1) fun x5_1 =>
  k53 (x1, x2, x3, y0, x5_1, σ)
def b_Mo_sure_53 (k32 : Int32 × Int32 × Int32 × gS → Option (Int32 × gS)) (k53 : Int32 × Int32 × Int32 × Int32 × Int32 × gS → Option (Int32 × gS)) (x1 : Int32) (x2 : Int32) (x3 : Int32) (x4 : Int32) (x5 : Int32) (σ : gS) : Option (Int32 × gS) :=
  (f_Mo_many σ (1 - x1)).bind fun r_1 =>
  if r_1 ≤ x5 then (
    if x4 ≤ x2 then (
      b_Mo_sure_111 k32 x1 x3 x2 σ
    ) else (
      b_Mo_sure_111 k32 x1 x3 x4 σ
    )
  ) else (
    (f_Mo_worthTo σ x1 x3 x5).bind fun r_4 =>
    if x4 ≤ r_4 then (
      b_Mo_sure_91 k32 k53 x1 x2 x3 x5 x4 σ
    ) else (
      (f_Mo_worthTo σ x1 x3 x5).bind fun r_6 =>
      b_Mo_sure_91 k32 k53 x1 x2 x3 x5 r_6 σ
    )
  )
def l_Mo_sure_53 (k32 : Int32 × Int32 × Int32 × gS → Option (Int32 × gS)) : Int32 × Int32 × Int32 × Int32 × Int32 × gS → Option (Int32 × gS) := lpF (fun k x => b_Mo_sure_53 k32 k x.1 x.2.1 x.2.2.1 x.2.2.2.1 x.2.2.2.2.1 x.2.2.2.2.2) gF
def b_Mo_sure_32 (k32 : Int32 × Int32 × Int32 × gS → Option (Int32 × gS)) (x1 : Int32) (x2 : Int32) (x3 : Int32) (σ : gS) : Option (Int32 × gS) :=
  (f_Mo_many σ x1).bind fun r_1 =>
  if r_1 ≤ x3 then (
    some (x2, σ)
  ) else (
    (f_Mo_worthTo σ x1 x3 0).bind fun r_3 =>
    l_Mo_sure_53 k32 (x1, x2, x3, r_3, 1, σ)
  )
def l_Mo_sure_32  : Int32 × Int32 × Int32 × gS → Option (Int32 × gS) := lpF (fun k x => b_Mo_sure_32 k x.1 x.2.1 x.2.2.1 x.2.2.2) gF
def b_Mo_sure_0 (x1 : Int32) (σ : gS) : Option (Int32 × gS) :=
  (f_Mo_isFrom x1 0 1).bind fun r_1 =>
  if r_1 = 0 then (
    some ((-1000000), σ)
  ) else (
    if (gI σ 46 0) = 0 then (
      some ((-1000000), σ)
    ) else (
      (f_Mo_root σ).bind fun r_4 =>
      (f_Mo_workAll σ r_4).bind fun r_5 =>
      l_Mo_sure_32 (x1, (-1000000), 0, r_5)
    )
  )
def f_Mo_sure (σ : gS) (x1 : Int32) : Option (Int32 × gS) := b_Mo_sure_0 x1 σ
def b_Mo_memory_110 (σ : gS) (k13 : Int32 × Int64 × Int32 × Int32 → Option Int64) (x1 : Int32) (x3 : Int64) (x6 : Int32) : Option Int64 :=
  ck (okI 51 x6) <|
  bnd (gI σ 51 x6.toNatClampNeg) fun x6_2 =>
  k13 (x1, x3, x6, x6_2)
def b_Mo_memory_85 (σ : gS) (k13 : Int32 × Int64 × Int32 × Int32 → Option Int64) (x1 : Int32) (x3 : Int64) (x6 : Int32) (y0 : Int32) : Option Int64 :=
  ck (okI 48 x6) <|
  bnd (((x3 * 40) + (4 * ((gI σ 48 x6.toNatClampNeg).toInt64))) + y0.toInt64) fun x3_2 =>
  b_Mo_memory_110 σ k13 x1 x3_2 x6
def b_Mo_memory_13 (σ : gS) (k13 : Int32 × Int64 × Int32 × Int32 → Option Int64) (x1 : Int32) (x3 : Int64) (x5 : Int32) (x6 : Int32) : Option Int64 :=
  if x6 = (-1) then (
    some x3
  ) else (
    ck (okI 47 x6) <|
    if (gI σ 47 x6.toNatClampNeg) = 2 then (
      ck (okI 48 x6) <|
      ck (okI 54 (gI σ 48 x6.toNatClampNeg)) <|
      if (gI σ 54 (gI σ 48 x6.toNatClampNeg).toNatClampNeg) = x1 then (
        ck (okI 50 (3 * x6)) <|
        if (gI σ 50 (3 * x6).toNatClampNeg) = x5 then (
          b_Mo_memory_85 σ k13 x1 x3 x6 1
        ) else (
          ck (okI 50 ((3 * x6) + 1)) <|
          if (gI σ 50 ((3 * x6) + 1).toNatClampNeg) = x5 then (
            b_Mo_memory_85 σ k13 x1 x3 x6 2
          ) else (
            b_Mo_memory_85 σ k13 x1 x3 x6 3
          )
        )
      ) else (
        b_Mo_memory_110 σ k13 x1 x3 x6
      )
    ) else (
      b_Mo_memory_110 σ k13 x1 x3 x6
    )
  )
def l_Mo_memory_13 (σ : gS) : Int32 × Int64 × Int32 × Int32 → Option Int64 := lpF (fun k x => b_Mo_memory_13 σ k x.1 x.2.1 x.2.2.1 x.2.2.2) gF
def b_Mo_memory_0 (σ : gS) (x1 : Int32) (x2 : Int32) : Option Int64 :=
  ck (okI 51 x2) <|
  bnd (gI σ 51 x2.toNatClampNeg) fun x6_2 =>
  l_Mo_memory_13 σ (x1, 0, x2, x6_2)
def f_Mo_memory (σ : gS) (x1 : Int32) (x2 : Int32) : Option Int64 := b_Mo_memory_0 σ x1 x2
def b_Mo_remembered_156 (k30 : Int32 × Int32 × Int32 × gS → Option (Int32 × gS)) (k41 : Int32 × Int32 × Int32 × Int32 × gS → Option (Int32 × gS)) (x1 : Int32) (x3 : Int32) (x4 : Int32) (y0 : Int32) (σ : gS) : Option (Int32 × gS) :=
  bnd (x4 + 1) fun x4_1 =>
  k41 (x1, y0, x3, x4_1, σ)
def b_Mo_remembered_155 (k30 : Int32 × Int32 × Int32 × gS → Option (Int32 × gS)) (k41 : Int32 × Int32 × Int32 × Int32 × gS → Option (Int32 × gS)) (x1 : Int32) (x3 : Int32) (x4 : Int32) (σ : gS) : Option (Int32 × gS) :=
  b_Mo_remembered_156 k30 k41 x1 x3 x4 0 σ
def b_Mo_remembered_151 (k30 : Int32 × Int32 × Int32 × gS → Option (Int32 × gS)) (k41 : Int32 × Int32 × Int32 × Int32 × gS → Option (Int32 × gS)) (x1 : Int32) (x3 : Int32) (x4 : Int32) (σ : gS) : Option (Int32 × gS) :=
  b_Mo_remembered_156 k30 k41 x1 x3 x4 1 σ
def b_Mo_remembered_123 (k30 : Int32 × Int32 × Int32 × gS → Option (Int32 × gS)) (k41 : Int32 × Int32 × Int32 × Int32 × gS → Option (Int32 × gS)) (x1 : Int32) (x2 : Int32) (x3 : Int32) (x4 : Int32) (y0 : Int32) (σ : gS) : Option (Int32 × gS) :=
  if x2 = 0 then (
    b_Mo_remembered_155 k30 k41 x1 x3 x4 σ
  ) else (
    if y0 = 0 then (
      b_Mo_remembered_151 k30 k41 x1 x3 x4 σ
    ) else (
      (f_Mo_memory σ x1 x3).bind fun r_3 =>
      (f_Mo_memory σ x1 x4).bind fun r_4 =>
      if (lg_cmp r_3 r_4) = 0 then (
        b_Mo_remembered_151 k30 k41 x1 x3 x4 σ
      ) else (
        b_Mo_remembered_155 k30 k41 x1 x3 x4 σ
      )
    )
  )
def b_Mo_remembered_122 (k30 : Int32 × Int32 × Int32 × gS → Option (Int32 × gS)) (k41 : Int32 × Int32 × Int32 × Int32 × gS → Option (Int32 × gS)) (x1 : Int32) (x2 : Int32) (x3 : Int32) (x4 : Int32) (σ : gS) : Option (Int32 × gS) :=
  b_Mo_remembered_123 k30 k41 x1 x2 x3 x4 0 σ
def b_Mo_remembered_41 (k30 : Int32 × Int32 × Int32 × gS → Option (Int32 × gS)) (k41 : Int32 × Int32 × Int32 × Int32 × gS → Option (Int32 × gS)) (x1 : Int32) (x2 : Int32) (x3 : Int32) (x4 : Int32) (σ : gS) : Option (Int32 × gS) :=
  if x3 ≤ x4 then (
    bnd (x3 + 1) fun x3_2 =>
    k30 (x1, x2, x3_2, σ)
  ) else (
    ck (okZ 56 x3) <|
    if (gI σ 56 x3.toNatClampNeg) = 0 then (
      b_Mo_remembered_122 k30 k41 x1 x2 x3 x4 σ
    ) else (
      ck (okZ 56 x4) <|
      if (gI σ 56 x4.toNatClampNeg) = 0 then (
        b_Mo_remembered_122 k30 k41 x1 x2 x3 x4 σ
      ) else (
        ck (okI 47 x3) <|
        if (gI σ 47 x3.toNatClampNeg) = 2 then (
          ck (okI 47 x4) <|
          if (gI σ 47 x4.toNatClampNeg) = 2 then (
            ck (okI 48 x3) <|
            ck (okI 48 x4) <|
            if (gI σ 48 x3.toNatClampNeg) = (gI σ 48 x4.toNatClampNeg) then (
              ck (okI 48 x3) <|
              ck (okI 54 (gI σ 48 x3.toNatClampNeg)) <|
              if (gI σ 54 (gI σ 48 x3.toNatClampNeg).toNatClampNeg) = x1 then (
                b_Mo_remembered_123 k30 k41 x1 x2 x3 x4 1 σ
              ) else (
                b_Mo_remembered_122 k30 k41 x1 x2 x3 x4 σ
              )
            ) else (
              b_Mo_remembered_122 k30 k41 x1 x2 x3 x4 σ
            )
          ) else (
            b_Mo_remembered_122 k30 k41 x1 x2 x3 x4 σ
          )
        ) else (
          b_Mo_remembered_122 k30 k41 x1 x2 x3 x4 σ
        )
      )
    )
  )
def l_Mo_remembered_41 (k30 : Int32 × Int32 × Int32 × gS → Option (Int32 × gS)) : Int32 × Int32 × Int32 × Int32 × gS → Option (Int32 × gS) := lpF (fun k x => b_Mo_remembered_41 k30 k x.1 x.2.1 x.2.2.1 x.2.2.2.1 x.2.2.2.2) gF
def b_Mo_remembered_30 (k30 : Int32 × Int32 × Int32 × gS → Option (Int32 × gS)) (x1 : Int32) (x2 : Int32) (x3 : Int32) (σ : gS) : Option (Int32 × gS) :=
  if (gI σ 46 0) ≤ x3 then (
    if x2 = 0 then (
      some (0, σ)
    ) else (
      some (1, σ)
    )
  ) else (
    l_Mo_remembered_41 k30 (x1, x2, x3, 0, σ)
  )
def l_Mo_remembered_30  : Int32 × Int32 × Int32 × gS → Option (Int32 × gS) := lpF (fun k x => b_Mo_remembered_30 k x.1 x.2.1 x.2.2.1 x.2.2.2) gF
def b_Mo_remembered_0 (x1 : Int32) (σ : gS) : Option (Int32 × gS) :=
  if (gI σ 46 0) = 0 then (
    some ((-1000000), σ)
  ) else (
    (f_Mo_isFrom x1 0 1).bind fun r_2 =>
    if r_2 = 0 then (
      some ((-2), σ)
    ) else (
      (f_Mo_findTree σ).bind fun r_4 =>
      l_Mo_remembered_30 (x1, 1, 0, r_4)
    )
  )
def f_Mo_remembered (σ : gS) (x1 : Int32) : Option (Int32 × gS) := b_Mo_remembered_0 x1 σ
def b_Mo_bestOf_43 (σ : gS) (k4 : Int32 × Int32 × Int32 → Option Int32) (x1 : Int32) (x3 : Int32) (y0 : Int32) : Option Int32 :=
  bnd (x3 + 1) fun x3_1 =>
  k4 (x1, y0, x3_1)
def b_Mo_bestOf_4 (σ : gS) (k4 : Int32 × Int32 × Int32 → Option Int32) (x1 : Int32) (x2 : Int32) (x3 : Int32) : Option Int32 :=
  (f_Mo_many σ x1).bind fun r_1 =>
  if r_1 ≤ x3 then (
    some x2
  ) else (
    ck (okI 66 ((64 * x1) + x3)) <|
    ck (okI 66 ((64 * x1) + x2)) <|
    if (gI σ 66 ((64 * x1) + x3).toNatClampNeg) ≤ (gI σ 66 ((64 * x1) + x2).toNatClampNeg) then (
      b_Mo_bestOf_43 σ k4 x1 x3 x2
    ) else (
      b_Mo_bestOf_43 σ k4 x1 x3 x3
    )
  )
def l_Mo_bestOf_4 (σ : gS) : Int32 × Int32 × Int32 → Option Int32 := lpF (fun k x => b_Mo_bestOf_4 σ k x.1 x.2.1 x.2.2) gF
def b_Mo_bestOf_0 (σ : gS) (x1 : Int32) : Option Int32 :=
  l_Mo_bestOf_4 σ (x1, 0, 1)
def f_Mo_bestOf (σ : gS) (x1 : Int32) : Option Int32 := b_Mo_bestOf_0 σ x1
def b_Mo_take_17 (k17 : Int32 × Int32 × Int32 × gS → Option gS) (x1 : Int32) (x2 : Int32) (x3 : Int32) (σ : gS) : Option gS :=
  (f_Mo_many σ (1 - x1)).bind fun r_1 =>
  if r_1 ≤ x3 then (
    some σ
  ) else (
    ck (okI 66 ((64 * (1 - x1)) + x3)) <|
    (f_Mo_worthTo σ (1 - x1) x3 x2).bind fun r_4 =>
    ck (okI 66 ((64 * (1 - x1)) + x3)) <|
    bnd (sI σ 66 ((64 * (1 - x1)) + x3).toNatClampNeg ((gI σ 66 ((64 * (1 - x1)) + x3).toNatClampNeg) + r_4)) fun σ_6 =>
    bnd (x3 + 1) fun x3_7 =>
    k17 (x1, x2, x3_7, σ_6)
  )
def l_Mo_take_17  : Int32 × Int32 × Int32 × gS → Option gS := lpF (fun k x => b_Mo_take_17 k x.1 x.2.1 x.2.2.1 x.2.2.2) gF
def b_Mo_take_0 (x1 : Int32) (x2 : Int32) (σ : gS) : Option gS :=
  ck (okI 65 ((64 * x1) + x2)) <|
  ck (okI 65 ((64 * x1) + x2)) <|
  bnd (sI σ 65 ((64 * x1) + x2).toNatClampNeg ((gI σ 65 ((64 * x1) + x2).toNatClampNeg) + 1)) fun σ_3 =>
  l_Mo_take_17 (x1, x2, 0, σ_3)
def f_Mo_take (σ : gS) (x1 : Int32) (x2 : Int32) : Option gS := b_Mo_take_0 x1 x2 σ
def b_Mo_answerAll_39 (k39 : Int32 × Int32 × gS → Option gS) (x1 : Int32) (x2 : Int32) (σ : gS) : Option gS :=
  if x1 ≤ x2 then (
    some σ
  ) else (
    (f_Mo_bestOf σ 0).bind fun r_2 =>
    (f_Mo_bestOf σ 1).bind fun r_3 =>
    (f_Mo_take σ 0 r_2).bind fun r_4 =>
    (f_Mo_take r_4 1 r_3).bind fun r_5 =>
    bnd (x2 + 1) fun x2_6 =>
    k39 (x1, x2_6, r_5)
  )
def l_Mo_answerAll_39  : Int32 × Int32 × gS → Option gS := lpF (fun k x => b_Mo_answerAll_39 k x.1 x.2.1 x.2.2) gF
def b_Mo_answerAll_10 (k10 : Int32 × Int32 × gS → Option gS) (x1 : Int32) (x2 : Int32) (σ : gS) : Option gS :=
  if 128 ≤ x2 then (
    l_Mo_answerAll_39 (x1, 0, σ)
  ) else (
    ck (okI 65 x2) <|
    bnd (sI σ 65 x2.toNatClampNeg 0) fun σ_3 =>
    ck (okI 66 x2) <|
    bnd (sI σ_3 66 x2.toNatClampNeg 0) fun σ_5 =>
    bnd (x2 + 1) fun x2_6 =>
    k10 (x1, x2_6, σ_5)
  )
def l_Mo_answerAll_10  : Int32 × Int32 × gS → Option gS := lpF (fun k x => b_Mo_answerAll_10 k x.1 x.2.1 x.2.2) gF
def b_Mo_answerAll_0 (x1 : Int32) (σ : gS) : Option gS :=
  (f_Mo_root σ).bind fun r_1 =>
  (f_Mo_workAll σ r_1).bind fun r_2 =>
  l_Mo_answerAll_10 (x1, 0, r_2)
def f_Mo_answerAll (σ : gS) (x1 : Int32) : Option gS := b_Mo_answerAll_0 x1 σ
def b_Mo_taken_0 (x1 : Int32) (x2 : Int32) (x3 : Int32) (σ : gS) : Option (Int32 × gS) :=
  if (gI σ 46 0) = 0 then (
    some ((-1000000), σ)
  ) else (
    (f_Mo_isFrom x1 1 200).bind fun r_2 =>
    if r_2 = 0 then (
      some ((-2), σ)
    ) else (
      (f_Mo_isFrom x2 0 1).bind fun r_4 =>
      if r_4 = 0 then (
        some ((-2), σ)
      ) else (
        (f_Mo_answerAll σ x1).bind fun r_6 =>
        (f_Mo_many r_6 x2).bind fun r_7 =>
        (f_Mo_isFrom x3 0 (r_7 - 1)).bind fun r_8 =>
        if r_8 = 0 then (
          some ((-2), r_6)
        ) else (
          ck (okI 65 ((64 * x2) + x3)) <|
          some (gI r_6 65 ((64 * x2) + x3).toNatClampNeg, r_6)
        )
      )
    )
  )
def f_Mo_taken (σ : gS) (x1 : Int32) (x2 : Int32) (x3 : Int32) : Option (Int32 × gS) := b_Mo_taken_0 x1 x2 x3 σ
def b_Mo_bound_125 (k56 : Int32 × Int32 × gS → Option (Int32 × gS)) (x4 : Int32) (y0 : Int32) (σ : gS) : Option (Int32 × gS) :=
  bnd (x4 + 1) fun x4_1 =>
  k56 (y0, x4_1, σ)
def b_Mo_bound_119 (k56 : Int32 × Int32 × gS → Option (Int32 × gS)) (x4 : Int32) (x5 : Int32) (σ : gS) : Option (Int32 × gS) :=
  b_Mo_bound_125 k56 x4 x5 σ
def b_Mo_bound_71 (k56 : Int32 × Int32 × gS → Option (Int32 × gS)) (k71 : Int32 × Int32 × Int32 × Int32 × gS → Option (Int32 × gS)) (x3 : Int32) (x4 : Int32) (x5 : Int32) (x6 : Int32) (σ : gS) : Option (Int32 × gS) :=
  if (gI σ 46 16) ≤ x6 then (
    if x4 = 0 then (
      b_Mo_bound_119 k56 x4 x5 σ
    ) else (
      if x3 ≤ x5 then (
        b_Mo_bound_125 k56 x4 x3 σ
      ) else (
        b_Mo_bound_119 k56 x4 x5 σ
      )
    )
  ) else (
    ck (okI 65 x6) <|
    (f_Mo_worthTo σ 0 x6 x4).bind fun r_5 =>
    bnd (x5 + ((gI σ 65 x6.toNatClampNeg) * r_5)) fun x5_6 =>
    bnd (x6 + 1) fun x6_7 =>
    k71 (x3, x4, x5_6, x6_7, σ)
  )
def l_Mo_bound_71 (k56 : Int32 × Int32 × gS → Option (Int32 × gS)) : Int32 × Int32 × Int32 × Int32 × gS → Option (Int32 × gS) := lpF (fun k x => b_Mo_bound_71 k56 k x.1 x.2.1 x.2.2.1 x.2.2.2.1 x.2.2.2.2) gF
def b_Mo_bound_56 (k56 : Int32 × Int32 × gS → Option (Int32 × gS)) (x3 : Int32) (x4 : Int32) (σ : gS) : Option (Int32 × gS) :=
  if (gI σ 46 17) ≤ x4 then (
    some (x3, σ)
  ) else (
    l_Mo_bound_71 k56 (x3, x4, 0, 0, σ)
  )
def l_Mo_bound_56  : Int32 × Int32 × gS → Option (Int32 × gS) := lpF (fun k x => b_Mo_bound_56 k x.1 x.2.1 x.2.2) gF
def b_Mo_bound_0 (x1 : Int32) (x2 : Int32) (σ : gS) : Option (Int32 × gS) :=
  (f_Mo_isFrom x1 1 200).bind fun r_1 =>
  if r_1 = 0 then (
    some ((-1000000), σ)
  ) else (
    (f_Mo_isFrom x2 0 1).bind fun r_3 =>
    if r_3 = 0 then (
      some ((-1000000), σ)
    ) else (
      if (gI σ 46 0) = 0 then (
        some ((-1000000), σ)
      ) else (
        (f_Mo_answerAll σ x1).bind fun r_6 =>
        if x2 = 1 then (
          (f_Mo_bestOf r_6 0).bind fun r_8 =>
          ck (okI 66 r_8) <|
          some (gI r_6 66 r_8.toNatClampNeg, r_6)
        ) else (
          l_Mo_bound_56 (0, 0, r_6)
        )
      )
    )
  )
def f_Mo_bound (σ : gS) (x1 : Int32) (x2 : Int32) : Option (Int32 × gS) := b_Mo_bound_0 x1 x2 σ
def b_Mo_told_116 (σ : gS) (x1 : Int32) (x2 : Int32) : Option Int32 :=
  ck (okI 50 (((3 * x1) + x2) - 3)) <|
  some (gI σ 50 (((3 * x1) + x2) - 3).toNatClampNeg)
def b_Mo_told_0 (σ : gS) (x1 : Int32) (x2 : Int32) : Option Int32 :=
  (f_Mo_isNode σ x1).bind fun r_1 =>
  if r_1 = 0 then (
    some (-1000000)
  ) else (
    (f_Mo_isFrom x2 0 5).bind fun r_3 =>
    if r_3 = 0 then (
      some (-1000000)
    ) else (
      if x2 < 0 then (
        ck (okI 47 x1) <|
        if (gI σ 47 x1.toNatClampNeg) = 0 then (
          if x2 = 3 then (
            ck (okI 49 ((2 * x1) + 1)) <|
            some (gI σ 49 ((2 * x1) + 1).toNatClampNeg)
          ) else (
            b_Mo_told_116 σ x1 x2
          )
        ) else (
          b_Mo_told_116 σ x1 x2
        )
      ) else
      if 2 < x2 then (
        ck (okI 47 x1) <|
        if (gI σ 47 x1.toNatClampNeg) = 0 then (
          if x2 = 3 then (
            ck (okI 49 ((2 * x1) + 1)) <|
            some (gI σ 49 ((2 * x1) + 1).toNatClampNeg)
          ) else (
            b_Mo_told_116 σ x1 x2
          )
        ) else (
          b_Mo_told_116 σ x1 x2
        )
      ) else
      if x2 = 0 then (
        ck (okI 47 x1) <|
        some (gI σ 47 x1.toNatClampNeg)
      ) else
      if x2 = 1 then (
        ck (okI 47 x1) <|
        if (gI σ 47 x1.toNatClampNeg) = 0 then (
          ck (okI 49 (2 * x1)) <|
          some (gI σ 49 (2 * x1).toNatClampNeg)
        ) else (
          ck (okI 48 x1) <|
          some (gI σ 48 x1.toNatClampNeg)
        )
      ) else
      if x2 = 2 then (
        ck (okI 51 x1) <|
        some (gI σ 51 x1.toNatClampNeg)
      ) else
      none
    )
  )
def f_Mo_told (σ : gS) (x1 : Int32) (x2 : Int32) : Option Int32 := b_Mo_told_0 σ x1 x2
def b_Mo_count_69 (k45 : Int32 × Int32 × gS → Option (Int32 × gS)) (x3 : Int32) (y0 : Int32) (σ : gS) : Option (Int32 × gS) :=
  bnd (x3 + 1) fun x3_1 =>
  k45 (y0, x3_1, σ)
def b_Mo_count_45 (k45 : Int32 × Int32 × gS → Option (Int32 × gS)) (x2 : Int32) (x3 : Int32) (σ : gS) : Option (Int32 × gS) :=
  if (gI σ 46 0) ≤ x3 then (
    some (x2, σ)
  ) else (
    ck (okZ 56 x3) <|
    if (gI σ 56 x3.toNatClampNeg) = 0 then (
      b_Mo_count_69 k45 x3 x2 σ
    ) else (
      b_Mo_count_69 k45 x3 (x2 + 1) σ
    )
  )
def l_Mo_count_45  : Int32 × Int32 × gS → Option (Int32 × gS) := lpF (fun k x => b_Mo_count_45 k x.1 x.2.1 x.2.2) gF
def b_Mo_count_0 (x1 : Int32) (σ : gS) : Option (Int32 × gS) :=
  (f_Mo_isFrom x1 0 9).bind fun r_1 =>
  if r_1 = 0 then (
    some ((-2), σ)
  ) else (
    if x1 = 0 then (
      some (gI σ 46 0, σ)
    ) else (
      if x1 = 1 then (
        some (gI σ 46 1, σ)
      ) else (
        (f_Mo_findTree σ).bind fun r_5 =>
        if x1 = 2 then (
          l_Mo_count_45 (0, 0, r_5)
        ) else (
          if (gI r_5 46 0) = 0 then (
            some ((-1000000), r_5)
          ) else (
            if x1 < 3 then (
              (f_Mo_root r_5).bind fun r_8 =>
              ck (okI 52 r_8) <|
              some (gI r_5 52 r_8.toNatClampNeg, r_5)
            ) else
            if 8 < x1 then (
              (f_Mo_root r_5).bind fun r_12 =>
              ck (okI 52 r_12) <|
              some (gI r_5 52 r_12.toNatClampNeg, r_5)
            ) else
            if x1 = 3 then (
              (f_Mo_plansOf r_5 0).bind fun r_15 =>
              some (r_15, r_5)
            ) else
            if x1 = 4 then (
              (f_Mo_plansOf r_5 1).bind fun r_17 =>
              some (r_17, r_5)
            ) else
            if x1 = 5 then (
              (f_Mo_countPoints r_5 0 (-1)).bind fun r_19 =>
              some (r_19.1, r_19.2)
            ) else
            if x1 = 6 then (
              (f_Mo_countPoints r_5 1 (-1)).bind fun r_21 =>
              some (r_21.1, r_21.2)
            ) else
            if x1 = 7 then (
              (f_Mo_games r_5 (-1)).bind fun r_23 =>
              some (r_23.1, r_23.2)
            ) else
            if x1 = 8 then (
              (f_Mo_doRounds r_5).bind fun r_25 =>
              some (r_25.1, r_25.2)
            ) else
            none
          )
        )
      )
    )
  )
def f_Mo_count (σ : gS) (x1 : Int32) : Option (Int32 × gS) := b_Mo_count_0 x1 σ
end
section
theorem d_Fo_dropAll_0 : decode b_Fo_dropAll_c 0 = .ok (.aload_n 0, 1) := by decide +kernel
theorem d_Fo_dropAll_1 : decode b_Fo_dropAll_c 1 = .ok (.getfield 9, 3) := by decide +kernel
theorem d_Fo_dropAll_4 : decode b_Fo_dropAll_c 4 = .ok (.istore_n 1, 1) := by decide +kernel
theorem d_Fo_dropAll_5 : decode b_Fo_dropAll_c 5 = .ok (.aload_n 0, 1) := by decide +kernel
theorem d_Fo_dropAll_6 : decode b_Fo_dropAll_c 6 = .ok (.iconst 0, 1) := by decide +kernel
theorem d_Fo_dropAll_7 : decode b_Fo_dropAll_c 7 = .ok (.putfield 9, 3) := by decide +kernel
theorem d_Fo_dropAll_10 : decode b_Fo_dropAll_c 10 = .ok (.aload_n 0, 1) := by decide +kernel
theorem d_Fo_dropAll_11 : decode b_Fo_dropAll_c 11 = .ok (.iconst 0, 1) := by decide +kernel
theorem d_Fo_dropAll_12 : decode b_Fo_dropAll_c 12 = .ok (.putfield 15, 3) := by decide +kernel
theorem d_Fo_dropAll_15 : decode b_Fo_dropAll_c 15 = .ok (.aload_n 0, 1) := by decide +kernel
theorem d_Fo_dropAll_16 : decode b_Fo_dropAll_c 16 = .ok (.dup, 1) := by decide +kernel
theorem d_Fo_dropAll_17 : decode b_Fo_dropAll_c 17 = .ok (.getfield 18, 3) := by decide +kernel
theorem d_Fo_dropAll_20 : decode b_Fo_dropAll_c 20 = .ok (.iconst 1, 1) := by decide +kernel
theorem d_Fo_dropAll_21 : decode b_Fo_dropAll_c 21 = .ok (.iadd, 1) := by decide +kernel
theorem d_Fo_dropAll_22 : decode b_Fo_dropAll_c 22 = .ok (.putfield 18, 3) := by decide +kernel
theorem d_Fo_dropAll_25 : decode b_Fo_dropAll_c 25 = .ok (.iload_n 1, 1) := by decide +kernel
theorem d_Fo_dropAll_26 : decode b_Fo_dropAll_c 26 = .ok (.ireturn, 1) := by decide +kernel
/-! GameRows$Forest.dropAll()I -/
set_option maxHeartbeats 4000000 in
set_option maxRecDepth 100000 in
theorem t_Fo_dropAll_0 {X : gX} {r : (Int32 × gS)} (C : gC X b_Fo_dropAll_c R_Fo 2 0 0) (hR : ∀ pc lv, decode b_Fo_dropAll_c pc = .ok (.ireturn, 1) → G X pc lv [.int r.1] r.2) (σ : gS) (h : b_Fo_dropAll_0 σ = some r) : G X 0 [(0, .ref (gA X 1))] [] σ := by
  unfold b_Fo_dropAll_0 at h
  refine r_aload_n C 0 d_Fo_dropAll_0 rfl rfl ?_
  refine q_Fo_9 C d_Fo_dropAll_1 ?_
  obtain ⟨x1_1, ex1_1, h⟩ := bnd_some h
  refine r_istore_n C (lv' := [(1, .int x1_1), (0, .ref (gA X 1))]) d_Fo_dropAll_4 rfl (by decide) ex1_1 rfl ?_
  refine r_aload_n C 1 d_Fo_dropAll_5 rfl rfl ?_
  refine r_iconst C (v := 0) d_Fo_dropAll_6 (by decide) ?_
  obtain ⟨σ_2, eσ_2, h⟩ := bnd_some h
  refine p_Fo_9 C eσ_2 d_Fo_dropAll_7 ?_
  refine r_aload_n C 1 d_Fo_dropAll_10 rfl rfl ?_
  refine r_iconst C (v := 0) d_Fo_dropAll_11 (by decide) ?_
  obtain ⟨σ_3, eσ_3, h⟩ := bnd_some h
  refine p_Fo_15 C eσ_3 d_Fo_dropAll_12 ?_
  refine r_aload_n C 1 d_Fo_dropAll_15 rfl rfl ?_
  refine r_dup C d_Fo_dropAll_16 rfl ?_
  refine q_Fo_18 C d_Fo_dropAll_17 ?_
  refine r_iconst C (v := 1) d_Fo_dropAll_20 (by decide) ?_
  refine r_iadd C d_Fo_dropAll_21 ?_
  obtain ⟨σ_4, eσ_4, h⟩ := bnd_some h
  refine p_Fo_18 C eσ_4 d_Fo_dropAll_22 ?_
  refine r_iload_n C 0 d_Fo_dropAll_25 rfl rfl ?_
  cases h
  exact hR _ _ d_Fo_dropAll_26
set_option maxHeartbeats 4000000 in
set_option maxRecDepth 100000 in
theorem c_Fo_dropAll (l : Launch) (σ : gS)  {r : (Int32 × gS)} (h : f_Fo_dropAll σ = some r) : gMet l y_Fo_dropAll b_Fo_dropAll_c 2 (some .int) 0 0 (fun a => [.ref (a 1)]) σ (some (.int r.1)) r.2 := by
  refine gMet_i (by decide +kernel) (fun a => Nat.le_of_ble_eq_true rfl) (fun X _ C hR => ?_)
  refine r_sub [0] (lv' := [(0, .ref (gA X 1))]) rfl ?_
  exact t_Fo_dropAll_0 C hR σ h
theorem d_Ga_clear_0 : decode b_Ga_clear_c 0 = .ok (.aload_n 0, 1) := by decide +kernel
theorem d_Ga_clear_1 : decode b_Ga_clear_c 1 = .ok (.getfield 10, 3) := by decide +kernel
theorem d_Ga_clear_4 : decode b_Ga_clear_c 4 = .ok (.invokevirtual 48, 3) := by decide +kernel
theorem d_Ga_clear_7 : decode b_Ga_clear_c 7 = .ok (.ireturn, 1) := by decide +kernel
/-! GameRows.clear()I -/
set_option maxHeartbeats 4000000 in
set_option maxRecDepth 100000 in
theorem t_Ga_clear_0 {X : gX} {r : (Int32 × gS)} (C : gC X b_Ga_clear_c R_Ga 1 1 21) (hR : ∀ pc lv, decode b_Ga_clear_c pc = .ok (.ireturn, 1) → G X pc lv [.int r.1] r.2) (σ : gS) (h : b_Ga_clear_0 σ = some r) : G X 0 [(0, .ref (gA X 0))] [] σ := by
  unfold b_Ga_clear_0 at h
  refine r_aload_n C 0 d_Ga_clear_0 rfl rfl ?_
  refine q_Ga_10 C d_Ga_clear_1 ?_
  obtain ⟨r_1, er_1, h⟩ := bind_some h
  refine r_callV C (As := []) (rest := []) (st1 := [.int r_1.1]) (c_Fo_dropAll X.1.2.1 σ  er_1) k_Fo_dropAll m_4 (by decide) cel_Fo rfl rfl rfl rfl (Nat.le_of_ble_eq_true rfl) ⟨Nat.le_of_ble_eq_true rfl, Nat.le_of_ble_eq_true rfl⟩ d_Ga_clear_4 rfl ?_
  cases h
  exact hR _ _ d_Ga_clear_7
set_option maxHeartbeats 4000000 in
set_option maxRecDepth 100000 in
theorem c_Ga_clear (l : Launch) (σ : gS)  {r : (Int32 × gS)} (h : f_Ga_clear σ = some r) : gMet l y_Ga_clear b_Ga_clear_c 1 (some .int) 1 21 (fun a => [.ref (a 0)]) σ (some (.int r.1)) r.2 := by
  refine gMet_i (by decide +kernel) (fun a => Nat.le_of_ble_eq_true rfl) (fun X _ C hR => ?_)
  refine r_sub [0] (lv' := [(0, .ref (gA X 0))]) rfl ?_
  exact t_Ga_clear_0 C hR σ h
theorem d_Ga_isPlayer_0 : decode b_Ga_isPlayer_c 0 = .ok (.iload_n 0, 1) := by decide +kernel
theorem d_Ga_isPlayer_1 : decode b_Ga_isPlayer_c 1 = .ok (.ifCond .eq 8, 3) := by decide +kernel
theorem d_Ga_isPlayer_4 : decode b_Ga_isPlayer_c 4 = .ok (.iload_n 0, 1) := by decide +kernel
theorem d_Ga_isPlayer_5 : decode b_Ga_isPlayer_c 5 = .ok (.iconst 1, 1) := by decide +kernel
theorem d_Ga_isPlayer_6 : decode b_Ga_isPlayer_c 6 = .ok (.if_icmp .ne 7, 3) := by decide +kernel
theorem d_Ga_isPlayer_9 : decode b_Ga_isPlayer_c 9 = .ok (.iconst 1, 1) := by decide +kernel
theorem d_Ga_isPlayer_10 : decode b_Ga_isPlayer_c 10 = .ok (.goto 4, 3) := by decide +kernel
theorem d_Ga_isPlayer_13 : decode b_Ga_isPlayer_c 13 = .ok (.iconst 0, 1) := by decide +kernel
theorem d_Ga_isPlayer_14 : decode b_Ga_isPlayer_c 14 = .ok (.ireturn, 1) := by decide +kernel
/-! GameRows.isPlayer(I)Z -/
set_option maxHeartbeats 4000000 in
set_option maxRecDepth 100000 in
theorem t_Ga_isPlayer_0 {X : gX} {r : Int32} {σ : gS} (C : gC X b_Ga_isPlayer_c R_Ga 1 0 0) (hR : ∀ pc lv, isB r = true → decode b_Ga_isPlayer_c pc = .ok (.ireturn, 1) → G X pc lv [.int r] σ) (x0 : Int32) (h : b_Ga_isPlayer_0 x0 = some r) : G X 0 [(0, .int x0)] [] σ := by
  unfold b_Ga_isPlayer_0 at h
  refine r_iload_n C 0 d_Ga_isPlayer_0 rfl rfl ?_
  refine r_if_eq C (tgt := 9) d_Ga_isPlayer_1 (by decide) (fun hc_1 => ?_) (fun hc_1 => ?_)
  · rw [if_pos hc_1] at h
    refine r_iconst C (v := 1) d_Ga_isPlayer_9 (by decide) ?_
    refine r_goto C (tgt := 14) d_Ga_isPlayer_10 (by decide) ?_
    obtain ⟨hB, h⟩ := ck_some h
    cases h
    exact hR _ _ hB d_Ga_isPlayer_14
  · rw [if_neg hc_1] at h
    refine r_iload_n C 0 d_Ga_isPlayer_4 rfl rfl ?_
    refine r_iconst C (v := 1) d_Ga_isPlayer_5 (by decide) ?_
    refine r_icmp_ne C (tgt := 13) d_Ga_isPlayer_6 (by decide) (fun hc_2 => ?_) (fun hc_2 => ?_)
    · rw [if_neg hc_2] at h
      refine r_iconst C (v := 0) d_Ga_isPlayer_13 (by decide) ?_
      obtain ⟨hB, h⟩ := ck_some h
      cases h
      exact hR _ _ hB d_Ga_isPlayer_14
    · rw [if_pos hc_2] at h
      refine r_iconst C (v := 1) d_Ga_isPlayer_9 (by decide) ?_
      refine r_goto C (tgt := 14) d_Ga_isPlayer_10 (by decide) ?_
      obtain ⟨hB, h⟩ := ck_some h
      cases h
      exact hR _ _ hB d_Ga_isPlayer_14
set_option maxHeartbeats 4000000 in
set_option maxRecDepth 100000 in
theorem c_Ga_isPlayer (l : Launch) (σ : gS) (x0 : Int32) {r : Int32} (h : f_Ga_isPlayer x0 = some r) : gMet l y_Ga_isPlayer b_Ga_isPlayer_c 1 (some .boolean) 0 0 (fun a => [.int x0]) σ (some (.int r)) σ := by
  refine gMet_z (by decide +kernel) (fun a => Nat.le_of_ble_eq_true rfl) (fun X _ C hR => ?_)
  refine r_sub [0] (lv' := [(0, .int x0)]) rfl ?_
  exact t_Ga_isPlayer_0 C hR x0 h
theorem d_Ga_isAmong_0 : decode b_Ga_isAmong_c 0 = .ok (.iload_n 0, 1) := by decide +kernel
theorem d_Ga_isAmong_1 : decode b_Ga_isAmong_c 1 = .ok (.iload_n 1, 1) := by decide +kernel
theorem d_Ga_isAmong_2 : decode b_Ga_isAmong_c 2 = .ok (.if_icmp .lt 12, 3) := by decide +kernel
theorem d_Ga_isAmong_5 : decode b_Ga_isAmong_c 5 = .ok (.iload_n 0, 1) := by decide +kernel
theorem d_Ga_isAmong_6 : decode b_Ga_isAmong_c 6 = .ok (.iload_n 2, 1) := by decide +kernel
theorem d_Ga_isAmong_7 : decode b_Ga_isAmong_c 7 = .ok (.if_icmp .gt 7, 3) := by decide +kernel
theorem d_Ga_isAmong_10 : decode b_Ga_isAmong_c 10 = .ok (.iconst 1, 1) := by decide +kernel
theorem d_Ga_isAmong_11 : decode b_Ga_isAmong_c 11 = .ok (.goto 4, 3) := by decide +kernel
theorem d_Ga_isAmong_14 : decode b_Ga_isAmong_c 14 = .ok (.iconst 0, 1) := by decide +kernel
theorem d_Ga_isAmong_15 : decode b_Ga_isAmong_c 15 = .ok (.ireturn, 1) := by decide +kernel
/-! GameRows.isAmong(III)Z -/
set_option maxHeartbeats 4000000 in
set_option maxRecDepth 100000 in
theorem t_Ga_isAmong_0 {X : gX} {r : Int32} {σ : gS} (C : gC X b_Ga_isAmong_c R_Ga 3 0 0) (hR : ∀ pc lv, isB r = true → decode b_Ga_isAmong_c pc = .ok (.ireturn, 1) → G X pc lv [.int r] σ) (x0 : Int32) (x1 : Int32) (x2 : Int32) (h : b_Ga_isAmong_0 x0 x1 x2 = some r) : G X 0 [(0, .int x0), (1, .int x1), (2, .int x2)] [] σ := by
  unfold b_Ga_isAmong_0 at h
  refine r_iload_n C 0 d_Ga_isAmong_0 rfl rfl ?_
  refine r_iload_n C 1 d_Ga_isAmong_1 rfl rfl ?_
  refine r_icmp_lt C (tgt := 14) d_Ga_isAmong_2 (by decide) (fun hc_1 => ?_) (fun hc_1 => ?_)
  · rw [if_pos hc_1] at h
    refine r_iconst C (v := 0) d_Ga_isAmong_14 (by decide) ?_
    obtain ⟨hB, h⟩ := ck_some h
    cases h
    exact hR _ _ hB d_Ga_isAmong_15
  · rw [if_neg hc_1] at h
    refine r_iload_n C 0 d_Ga_isAmong_5 rfl rfl ?_
    refine r_iload_n C 2 d_Ga_isAmong_6 rfl rfl ?_
    refine r_icmp_gt C (tgt := 14) d_Ga_isAmong_7 (by decide) (fun hc_2 => ?_) (fun hc_2 => ?_)
    · rw [if_pos hc_2] at h
      refine r_iconst C (v := 0) d_Ga_isAmong_14 (by decide) ?_
      obtain ⟨hB, h⟩ := ck_some h
      cases h
      exact hR _ _ hB d_Ga_isAmong_15
    · rw [if_neg hc_2] at h
      refine r_iconst C (v := 1) d_Ga_isAmong_10 (by decide) ?_
      refine r_goto C (tgt := 15) d_Ga_isAmong_11 (by decide) ?_
      obtain ⟨hB, h⟩ := ck_some h
      cases h
      exact hR _ _ hB d_Ga_isAmong_15
set_option maxHeartbeats 4000000 in
set_option maxRecDepth 100000 in
theorem c_Ga_isAmong (l : Launch) (σ : gS) (x0 : Int32) (x1 : Int32) (x2 : Int32) {r : Int32} (h : f_Ga_isAmong x0 x1 x2 = some r) : gMet l y_Ga_isAmong b_Ga_isAmong_c 3 (some .boolean) 0 0 (fun a => [.int x0, .int x1, .int x2]) σ (some (.int r)) σ := by
  refine gMet_z (by decide +kernel) (fun a => Nat.le_of_ble_eq_true rfl) (fun X _ C hR => ?_)
  refine r_sub [0, 1, 2] (lv' := [(0, .int x0), (1, .int x1), (2, .int x2)]) rfl ?_
  exact t_Ga_isAmong_0 C hR x0 x1 x2 h
theorem d_Fo_addSet_0 : decode b_Fo_addSet_c 0 = .ok (.aload_n 0, 1) := by decide +kernel
theorem d_Fo_addSet_1 : decode b_Fo_addSet_c 1 = .ok (.getfield 15, 3) := by decide +kernel
theorem d_Fo_addSet_4 : decode b_Fo_addSet_c 4 = .ok (.bipush 10, 2) := by decide +kernel
theorem d_Fo_addSet_6 : decode b_Fo_addSet_c 6 = .ok (.if_icmp .lt 6, 3) := by decide +kernel
theorem d_Fo_addSet_9 : decode b_Fo_addSet_c 9 = .ok (.bipush (-3), 2) := by decide +kernel
theorem d_Fo_addSet_11 : decode b_Fo_addSet_c 11 = .ok (.ireturn, 1) := by decide +kernel
theorem d_Fo_addSet_12 : decode b_Fo_addSet_c 12 = .ok (.aload_n 0, 1) := by decide +kernel
theorem d_Fo_addSet_13 : decode b_Fo_addSet_c 13 = .ok (.getfield 56, 3) := by decide +kernel
theorem d_Fo_addSet_16 : decode b_Fo_addSet_c 16 = .ok (.aload_n 0, 1) := by decide +kernel
theorem d_Fo_addSet_17 : decode b_Fo_addSet_c 17 = .ok (.getfield 15, 3) := by decide +kernel
theorem d_Fo_addSet_20 : decode b_Fo_addSet_c 20 = .ok (.iload_n 1, 1) := by decide +kernel
theorem d_Fo_addSet_21 : decode b_Fo_addSet_c 21 = .ok (.iastore, 1) := by decide +kernel
theorem d_Fo_addSet_22 : decode b_Fo_addSet_c 22 = .ok (.aload_n 0, 1) := by decide +kernel
theorem d_Fo_addSet_23 : decode b_Fo_addSet_c 23 = .ok (.getfield 31, 3) := by decide +kernel
theorem d_Fo_addSet_26 : decode b_Fo_addSet_c 26 = .ok (.aload_n 0, 1) := by decide +kernel
theorem d_Fo_addSet_27 : decode b_Fo_addSet_c 27 = .ok (.getfield 15, 3) := by decide +kernel
theorem d_Fo_addSet_30 : decode b_Fo_addSet_c 30 = .ok (.iload_n 2, 1) := by decide +kernel
theorem d_Fo_addSet_31 : decode b_Fo_addSet_c 31 = .ok (.iastore, 1) := by decide +kernel
theorem d_Fo_addSet_32 : decode b_Fo_addSet_c 32 = .ok (.aload_n 0, 1) := by decide +kernel
theorem d_Fo_addSet_33 : decode b_Fo_addSet_c 33 = .ok (.getfield 59, 3) := by decide +kernel
theorem d_Fo_addSet_36 : decode b_Fo_addSet_c 36 = .ok (.aload_n 0, 1) := by decide +kernel
theorem d_Fo_addSet_37 : decode b_Fo_addSet_c 37 = .ok (.getfield 15, 3) := by decide +kernel
theorem d_Fo_addSet_40 : decode b_Fo_addSet_c 40 = .ok (.lconst 0, 1) := by decide +kernel
theorem d_Fo_addSet_41 : decode b_Fo_addSet_c 41 = .ok (.lastore, 1) := by decide +kernel
theorem d_Fo_addSet_42 : decode b_Fo_addSet_c 42 = .ok (.aload_n 0, 1) := by decide +kernel
theorem d_Fo_addSet_43 : decode b_Fo_addSet_c 43 = .ok (.dup, 1) := by decide +kernel
theorem d_Fo_addSet_44 : decode b_Fo_addSet_c 44 = .ok (.getfield 15, 3) := by decide +kernel
theorem d_Fo_addSet_47 : decode b_Fo_addSet_c 47 = .ok (.dup_x1, 1) := by decide +kernel
theorem d_Fo_addSet_48 : decode b_Fo_addSet_c 48 = .ok (.iconst 1, 1) := by decide +kernel
theorem d_Fo_addSet_49 : decode b_Fo_addSet_c 49 = .ok (.iadd, 1) := by decide +kernel
theorem d_Fo_addSet_50 : decode b_Fo_addSet_c 50 = .ok (.putfield 15, 3) := by decide +kernel
theorem d_Fo_addSet_53 : decode b_Fo_addSet_c 53 = .ok (.ireturn, 1) := by decide +kernel
/-! GameRows$Forest.addSet(II)I -/
set_option maxHeartbeats 4000000 in
set_option maxRecDepth 100000 in
theorem t_Fo_addSet_0 {X : gX} {r : (Int32 × gS)} (C : gC X b_Fo_addSet_c R_Fo 3 0 0) (hR : ∀ pc lv, decode b_Fo_addSet_c pc = .ok (.ireturn, 1) → G X pc lv [.int r.1] r.2) (x1 : Int32) (x2 : Int32) (σ : gS) (h : b_Fo_addSet_0 x1 x2 σ = some r) : G X 0 [(0, .ref (gA X 1)), (1, .int x1), (2, .int x2)] [] σ := by
  unfold b_Fo_addSet_0 at h
  refine r_aload_n C 0 d_Fo_addSet_0 rfl rfl ?_
  refine q_Fo_15 C d_Fo_addSet_1 ?_
  refine r_bipush C (v := 10) d_Fo_addSet_4 (by decide) ?_
  refine r_icmp_lt C (tgt := 12) d_Fo_addSet_6 (by decide) (fun hc_1 => ?_) (fun hc_1 => ?_)
  · rw [if_pos hc_1] at h
    refine r_aload_n C 0 d_Fo_addSet_12 rfl rfl ?_
    refine q_Fo_56 C d_Fo_addSet_13 ?_
    refine r_aload_n C 0 d_Fo_addSet_16 rfl rfl ?_
    refine q_Fo_15 C d_Fo_addSet_17 ?_
    refine r_iload_n C 1 d_Fo_addSet_20 rfl rfl ?_
    obtain ⟨hi_2, h⟩ := ck_some h
    obtain ⟨σ_3, eσ_3, h⟩ := bnd_some h
    refine r_iast C hi_2 eσ_3 d_Fo_addSet_21 ?_
    refine r_aload_n C 0 d_Fo_addSet_22 rfl rfl ?_
    refine q_Fo_31 C d_Fo_addSet_23 ?_
    refine r_aload_n C 0 d_Fo_addSet_26 rfl rfl ?_
    refine q_Fo_15 C d_Fo_addSet_27 ?_
    refine r_iload_n C 2 d_Fo_addSet_30 rfl rfl ?_
    obtain ⟨hi_4, h⟩ := ck_some h
    obtain ⟨σ_5, eσ_5, h⟩ := bnd_some h
    refine r_iast C hi_4 eσ_5 d_Fo_addSet_31 ?_
    refine r_aload_n C 0 d_Fo_addSet_32 rfl rfl ?_
    refine q_Fo_59 C d_Fo_addSet_33 ?_
    refine r_aload_n C 0 d_Fo_addSet_36 rfl rfl ?_
    refine q_Fo_15 C d_Fo_addSet_37 ?_
    refine r_lconst C (v := 0) d_Fo_addSet_40 (by decide) ?_
    obtain ⟨hi_6, h⟩ := ck_some h
    obtain ⟨σ_7, eσ_7, h⟩ := bnd_some h
    refine r_last C hi_6 eσ_7 d_Fo_addSet_41 ?_
    refine r_aload_n C 0 d_Fo_addSet_42 rfl rfl ?_
    refine r_dup C d_Fo_addSet_43 rfl ?_
    refine q_Fo_15 C d_Fo_addSet_44 ?_
    refine r_dup_x1 C d_Fo_addSet_47 rfl rfl ?_
    refine r_iconst C (v := 1) d_Fo_addSet_48 (by decide) ?_
    refine r_iadd C d_Fo_addSet_49 ?_
    obtain ⟨σ_8, eσ_8, h⟩ := bnd_some h
    refine p_Fo_15 C eσ_8 d_Fo_addSet_50 ?_
    cases h
    exact hR _ _ d_Fo_addSet_53
  · rw [if_neg hc_1] at h
    refine r_bipush C (v := (-3)) d_Fo_addSet_9 (by decide) ?_
    cases h
    exact hR _ _ d_Fo_addSet_11
set_option maxHeartbeats 4000000 in
set_option maxRecDepth 100000 in
theorem c_Fo_addSet (l : Launch) (σ : gS) (x1 : Int32) (x2 : Int32) {r : (Int32 × gS)} (h : f_Fo_addSet σ x1 x2 = some r) : gMet l y_Fo_addSet b_Fo_addSet_c 3 (some .int) 0 0 (fun a => [.ref (a 1), .int x1, .int x2]) σ (some (.int r.1)) r.2 := by
  refine gMet_i (by decide +kernel) (fun a => Nat.le_of_ble_eq_true rfl) (fun X _ C hR => ?_)
  refine r_sub [0, 1, 2] (lv' := [(0, .ref (gA X 1)), (1, .int x1), (2, .int x2)]) rfl ?_
  exact t_Fo_addSet_0 C hR x1 x2 σ h
theorem d_Ga_set_0 : decode b_Ga_set_c 0 = .ok (.iload_n 1, 1) := by decide +kernel
theorem d_Ga_set_1 : decode b_Ga_set_c 1 = .ok (.invokestatic 52, 3) := by decide +kernel
theorem d_Ga_set_4 : decode b_Ga_set_c 4 = .ok (.ifCond .eq 12, 3) := by decide +kernel
theorem d_Ga_set_7 : decode b_Ga_set_c 7 = .ok (.iload_n 2, 1) := by decide +kernel
theorem d_Ga_set_8 : decode b_Ga_set_c 8 = .ok (.iconst 2, 1) := by decide +kernel
theorem d_Ga_set_9 : decode b_Ga_set_c 9 = .ok (.iconst 3, 1) := by decide +kernel
theorem d_Ga_set_10 : decode b_Ga_set_c 10 = .ok (.invokestatic 56, 3) := by decide +kernel
theorem d_Ga_set_13 : decode b_Ga_set_c 13 = .ok (.ifCond .ne 6, 3) := by decide +kernel
theorem d_Ga_set_16 : decode b_Ga_set_c 16 = .ok (.bipush (-2), 2) := by decide +kernel
theorem d_Ga_set_18 : decode b_Ga_set_c 18 = .ok (.ireturn, 1) := by decide +kernel
theorem d_Ga_set_19 : decode b_Ga_set_c 19 = .ok (.aload_n 0, 1) := by decide +kernel
theorem d_Ga_set_20 : decode b_Ga_set_c 20 = .ok (.getfield 10, 3) := by decide +kernel
theorem d_Ga_set_23 : decode b_Ga_set_c 23 = .ok (.iload_n 1, 1) := by decide +kernel
theorem d_Ga_set_24 : decode b_Ga_set_c 24 = .ok (.iload_n 2, 1) := by decide +kernel
theorem d_Ga_set_25 : decode b_Ga_set_c 25 = .ok (.invokevirtual 60, 3) := by decide +kernel
theorem d_Ga_set_28 : decode b_Ga_set_c 28 = .ok (.ireturn, 1) := by decide +kernel
/-! GameRows.set(II)I -/
set_option maxHeartbeats 4000000 in
set_option maxRecDepth 100000 in
theorem t_Ga_set_0 {X : gX} {r : (Int32 × gS)} (C : gC X b_Ga_set_c R_Ga 3 1 22) (hR : ∀ pc lv, decode b_Ga_set_c pc = .ok (.ireturn, 1) → G X pc lv [.int r.1] r.2) (x1 : Int32) (x2 : Int32) (σ : gS) (h : b_Ga_set_0 x1 x2 σ = some r) : G X 0 [(0, .ref (gA X 0)), (1, .int x1), (2, .int x2)] [] σ := by
  unfold b_Ga_set_0 at h
  refine r_iload_n C 1 d_Ga_set_0 rfl rfl ?_
  obtain ⟨r_1, er_1, h⟩ := bind_some h
  refine r_callS C (As := [.int x1]) (rest := []) (st1 := [.int r_1]) (c_Ga_isPlayer X.1.2.1 σ x1 er_1) k_Ga_isPlayer m_12 rfl rfl rfl (Nat.le_of_ble_eq_true rfl) ⟨Nat.le_of_ble_eq_true rfl, Nat.le_of_ble_eq_true rfl⟩ d_Ga_set_1 rfl ?_
  refine r_if_eq C (tgt := 16) d_Ga_set_4 (by decide) (fun hc_2 => ?_) (fun hc_2 => ?_)
  · rw [if_pos hc_2] at h
    refine r_bipush C (v := (-2)) d_Ga_set_16 (by decide) ?_
    cases h
    exact hR _ _ d_Ga_set_18
  · rw [if_neg hc_2] at h
    refine r_iload_n C 2 d_Ga_set_7 rfl rfl ?_
    refine r_iconst C (v := 2) d_Ga_set_8 (by decide) ?_
    refine r_iconst C (v := 3) d_Ga_set_9 (by decide) ?_
    obtain ⟨r_3, er_3, h⟩ := bind_some h
    refine r_callS C (As := [.int x2, .int 2, .int 3]) (rest := []) (st1 := [.int r_3]) (c_Ga_isAmong X.1.2.1 σ x2 2 3 er_3) k_Ga_isAmong m_16 rfl rfl rfl (Nat.le_of_ble_eq_true rfl) ⟨Nat.le_of_ble_eq_true rfl, Nat.le_of_ble_eq_true rfl⟩ d_Ga_set_10 rfl ?_
    refine r_if_ne C (tgt := 19) d_Ga_set_13 (by decide) (fun hc_4 => ?_) (fun hc_4 => ?_)
    · rw [if_neg hc_4] at h
      refine r_aload_n C 0 d_Ga_set_19 rfl rfl ?_
      refine q_Ga_10 C d_Ga_set_20 ?_
      refine r_iload_n C 1 d_Ga_set_23 rfl rfl ?_
      refine r_iload_n C 2 d_Ga_set_24 rfl rfl ?_
      obtain ⟨r_5, er_5, h⟩ := bind_some h
      refine r_callV C (As := [.int x1, .int x2]) (rest := []) (st1 := [.int r_5.1]) (c_Fo_addSet X.1.2.1 σ x1 x2 er_5) k_Fo_addSet m_19 (by decide) cel_Fo rfl rfl rfl rfl (Nat.le_of_ble_eq_true rfl) ⟨Nat.le_of_ble_eq_true rfl, Nat.le_of_ble_eq_true rfl⟩ d_Ga_set_25 rfl ?_
      cases h
      exact hR _ _ d_Ga_set_28
    · rw [if_pos hc_4] at h
      refine r_bipush C (v := (-2)) d_Ga_set_16 (by decide) ?_
      cases h
      exact hR _ _ d_Ga_set_18
set_option maxHeartbeats 4000000 in
set_option maxRecDepth 100000 in
theorem c_Ga_set (l : Launch) (σ : gS) (x1 : Int32) (x2 : Int32) {r : (Int32 × gS)} (h : f_Ga_set σ x1 x2 = some r) : gMet l y_Ga_set b_Ga_set_c 3 (some .int) 1 22 (fun a => [.ref (a 0), .int x1, .int x2]) σ (some (.int r.1)) r.2 := by
  refine gMet_i (by decide +kernel) (fun a => Nat.le_of_ble_eq_true rfl) (fun X _ C hR => ?_)
  refine r_sub [0, 1, 2] (lv' := [(0, .ref (gA X 0)), (1, .int x1), (2, .int x2)]) rfl ?_
  exact t_Ga_set_0 C hR x1 x2 σ h
theorem d_Fo_startNode_0 : decode b_Fo_startNode_c 0 = .ok (.aload_n 0, 1) := by decide +kernel
theorem d_Fo_startNode_1 : decode b_Fo_startNode_c 1 = .ok (.getfield 9, 3) := by decide +kernel
theorem d_Fo_startNode_4 : decode b_Fo_startNode_c 4 = .ok (.istore_n 3, 1) := by decide +kernel
theorem d_Fo_startNode_5 : decode b_Fo_startNode_c 5 = .ok (.aload_n 0, 1) := by decide +kernel
theorem d_Fo_startNode_6 : decode b_Fo_startNode_c 6 = .ok (.getfield 21, 3) := by decide +kernel
theorem d_Fo_startNode_9 : decode b_Fo_startNode_c 9 = .ok (.iload_n 3, 1) := by decide +kernel
theorem d_Fo_startNode_10 : decode b_Fo_startNode_c 10 = .ok (.iload_n 1, 1) := by decide +kernel
theorem d_Fo_startNode_11 : decode b_Fo_startNode_c 11 = .ok (.iastore, 1) := by decide +kernel
theorem d_Fo_startNode_12 : decode b_Fo_startNode_c 12 = .ok (.aload_n 0, 1) := by decide +kernel
theorem d_Fo_startNode_13 : decode b_Fo_startNode_c 13 = .ok (.getfield 25, 3) := by decide +kernel
theorem d_Fo_startNode_16 : decode b_Fo_startNode_c 16 = .ok (.iload_n 3, 1) := by decide +kernel
theorem d_Fo_startNode_17 : decode b_Fo_startNode_c 17 = .ok (.iload_n 2, 1) := by decide +kernel
theorem d_Fo_startNode_18 : decode b_Fo_startNode_c 18 = .ok (.iastore, 1) := by decide +kernel
theorem d_Fo_startNode_19 : decode b_Fo_startNode_c 19 = .ok (.aload_n 0, 1) := by decide +kernel
theorem d_Fo_startNode_20 : decode b_Fo_startNode_c 20 = .ok (.getfield 40, 3) := by decide +kernel
theorem d_Fo_startNode_23 : decode b_Fo_startNode_c 23 = .ok (.iload_n 3, 1) := by decide +kernel
theorem d_Fo_startNode_24 : decode b_Fo_startNode_c 24 = .ok (.iconst 0, 1) := by decide +kernel
theorem d_Fo_startNode_25 : decode b_Fo_startNode_c 25 = .ok (.iastore, 1) := by decide +kernel
theorem d_Fo_startNode_26 : decode b_Fo_startNode_c 26 = .ok (.aload_n 0, 1) := by decide +kernel
theorem d_Fo_startNode_27 : decode b_Fo_startNode_c 27 = .ok (.getfield 28, 3) := by decide +kernel
theorem d_Fo_startNode_30 : decode b_Fo_startNode_c 30 = .ok (.iload_n 3, 1) := by decide +kernel
theorem d_Fo_startNode_31 : decode b_Fo_startNode_c 31 = .ok (.iconst (-1), 1) := by decide +kernel
theorem d_Fo_startNode_32 : decode b_Fo_startNode_c 32 = .ok (.iastore, 1) := by decide +kernel
theorem d_Fo_startNode_33 : decode b_Fo_startNode_c 33 = .ok (.aload_n 0, 1) := by decide +kernel
theorem d_Fo_startNode_34 : decode b_Fo_startNode_c 34 = .ok (.getfield 49, 3) := by decide +kernel
theorem d_Fo_startNode_37 : decode b_Fo_startNode_c 37 = .ok (.iload_n 3, 1) := by decide +kernel
theorem d_Fo_startNode_38 : decode b_Fo_startNode_c 38 = .ok (.lconst 1, 1) := by decide +kernel
theorem d_Fo_startNode_39 : decode b_Fo_startNode_c 39 = .ok (.iload_n 3, 1) := by decide +kernel
theorem d_Fo_startNode_40 : decode b_Fo_startNode_c 40 = .ok (.lshl, 1) := by decide +kernel
theorem d_Fo_startNode_41 : decode b_Fo_startNode_c 41 = .ok (.lastore, 1) := by decide +kernel
theorem d_Fo_startNode_42 : decode b_Fo_startNode_c 42 = .ok (.iload_n 2, 1) := by decide +kernel
theorem d_Fo_startNode_43 : decode b_Fo_startNode_c 43 = .ok (.iconst (-1), 1) := by decide +kernel
theorem d_Fo_startNode_44 : decode b_Fo_startNode_c 44 = .ok (.if_icmp .eq 15, 3) := by decide +kernel
theorem d_Fo_startNode_47 : decode b_Fo_startNode_c 47 = .ok (.aload_n 0, 1) := by decide +kernel
theorem d_Fo_startNode_48 : decode b_Fo_startNode_c 48 = .ok (.getfield 59, 3) := by decide +kernel
theorem d_Fo_startNode_51 : decode b_Fo_startNode_c 51 = .ok (.iload_n 2, 1) := by decide +kernel
theorem d_Fo_startNode_52 : decode b_Fo_startNode_c 52 = .ok (.dup2, 1) := by decide +kernel
theorem d_Fo_startNode_53 : decode b_Fo_startNode_c 53 = .ok (.laload, 1) := by decide +kernel
theorem d_Fo_startNode_54 : decode b_Fo_startNode_c 54 = .ok (.lconst 1, 1) := by decide +kernel
theorem d_Fo_startNode_55 : decode b_Fo_startNode_c 55 = .ok (.iload_n 3, 1) := by decide +kernel
theorem d_Fo_startNode_56 : decode b_Fo_startNode_c 56 = .ok (.lshl, 1) := by decide +kernel
theorem d_Fo_startNode_57 : decode b_Fo_startNode_c 57 = .ok (.lor, 1) := by decide +kernel
theorem d_Fo_startNode_58 : decode b_Fo_startNode_c 58 = .ok (.lastore, 1) := by decide +kernel
theorem d_Fo_startNode_59 : decode b_Fo_startNode_c 59 = .ok (.iconst 0, 1) := by decide +kernel
theorem d_Fo_startNode_60 : decode b_Fo_startNode_c 60 = .ok (.istore 4, 2) := by decide +kernel
theorem d_Fo_startNode_62 : decode b_Fo_startNode_c 62 = .ok (.iload 4, 2) := by decide +kernel
theorem d_Fo_startNode_64 : decode b_Fo_startNode_c 64 = .ok (.iconst 3, 1) := by decide +kernel
theorem d_Fo_startNode_65 : decode b_Fo_startNode_c 65 = .ok (.if_icmp .ge 21, 3) := by decide +kernel
theorem d_Fo_startNode_68 : decode b_Fo_startNode_c 68 = .ok (.aload_n 0, 1) := by decide +kernel
theorem d_Fo_startNode_69 : decode b_Fo_startNode_c 69 = .ok (.getfield 37, 3) := by decide +kernel
theorem d_Fo_startNode_72 : decode b_Fo_startNode_c 72 = .ok (.iconst 3, 1) := by decide +kernel
theorem d_Fo_startNode_73 : decode b_Fo_startNode_c 73 = .ok (.iload_n 3, 1) := by decide +kernel
theorem d_Fo_startNode_74 : decode b_Fo_startNode_c 74 = .ok (.imul, 1) := by decide +kernel
theorem d_Fo_startNode_75 : decode b_Fo_startNode_c 75 = .ok (.iload 4, 2) := by decide +kernel
theorem d_Fo_startNode_77 : decode b_Fo_startNode_c 77 = .ok (.iadd, 1) := by decide +kernel
theorem d_Fo_startNode_78 : decode b_Fo_startNode_c 78 = .ok (.iconst (-1), 1) := by decide +kernel
theorem d_Fo_startNode_79 : decode b_Fo_startNode_c 79 = .ok (.iastore, 1) := by decide +kernel
theorem d_Fo_startNode_80 : decode b_Fo_startNode_c 80 = .ok (.iinc 4 1, 3) := by decide +kernel
theorem d_Fo_startNode_83 : decode b_Fo_startNode_c 83 = .ok (.goto (-21), 3) := by decide +kernel
theorem d_Fo_startNode_86 : decode b_Fo_startNode_c 86 = .ok (.aload_n 0, 1) := by decide +kernel
theorem d_Fo_startNode_87 : decode b_Fo_startNode_c 87 = .ok (.dup, 1) := by decide +kernel
theorem d_Fo_startNode_88 : decode b_Fo_startNode_c 88 = .ok (.getfield 9, 3) := by decide +kernel
theorem d_Fo_startNode_91 : decode b_Fo_startNode_c 91 = .ok (.iconst 1, 1) := by decide +kernel
theorem d_Fo_startNode_92 : decode b_Fo_startNode_c 92 = .ok (.iadd, 1) := by decide +kernel
theorem d_Fo_startNode_93 : decode b_Fo_startNode_c 93 = .ok (.putfield 9, 3) := by decide +kernel
theorem d_Fo_startNode_96 : decode b_Fo_startNode_c 96 = .ok (.aload_n 0, 1) := by decide +kernel
theorem d_Fo_startNode_97 : decode b_Fo_startNode_c 97 = .ok (.dup, 1) := by decide +kernel
theorem d_Fo_startNode_98 : decode b_Fo_startNode_c 98 = .ok (.getfield 18, 3) := by decide +kernel
theorem d_Fo_startNode_101 : decode b_Fo_startNode_c 101 = .ok (.iconst 1, 1) := by decide +kernel
theorem d_Fo_startNode_102 : decode b_Fo_startNode_c 102 = .ok (.iadd, 1) := by decide +kernel
theorem d_Fo_startNode_103 : decode b_Fo_startNode_c 103 = .ok (.putfield 18, 3) := by decide +kernel
theorem d_Fo_startNode_106 : decode b_Fo_startNode_c 106 = .ok (.iload_n 3, 1) := by decide +kernel
theorem d_Fo_startNode_107 : decode b_Fo_startNode_c 107 = .ok (.ireturn, 1) := by decide +kernel
/-! GameRows$Forest.startNode(II)I -/
set_option maxHeartbeats 4000000 in
set_option maxRecDepth 100000 in
theorem t_Fo_startNode_62 {X : gX} {r : (Int32 × gS)} (C : gC X b_Fo_startNode_c R_Fo 5 0 0) (hR : ∀ pc lv, decode b_Fo_startNode_c pc = .ok (.ireturn, 1) → G X pc lv [.int r.1] r.2) {k62 : Int32 × Int32 × gS → Option (Int32 × gS)}  (hk62 : ∀ x, k62 x = some r → G X 62 [(0, .ref (gA X 1)), (3, .int x.1), (4, .int x.2.1)] [] x.2.2) (x3 : Int32) (x4 : Int32) (σ : gS) (h : b_Fo_startNode_62 k62 x3 x4 σ = some r) : G X 62 [(0, .ref (gA X 1)), (3, .int x3), (4, .int x4)] [] σ := by
  unfold b_Fo_startNode_62 at h
  refine r_iload C 2 d_Fo_startNode_62 rfl ?_
  refine r_iconst C (v := 3) d_Fo_startNode_64 (by decide) ?_
  refine r_icmp_ge C (tgt := 86) d_Fo_startNode_65 (by decide) (fun hc_1 => ?_) (fun hc_1 => ?_)
  · rw [if_pos hc_1] at h
    refine r_aload_n C 0 d_Fo_startNode_86 rfl rfl ?_
    refine r_dup C d_Fo_startNode_87 rfl ?_
    refine q_Fo_9 C d_Fo_startNode_88 ?_
    refine r_iconst C (v := 1) d_Fo_startNode_91 (by decide) ?_
    refine r_iadd C d_Fo_startNode_92 ?_
    obtain ⟨σ_2, eσ_2, h⟩ := bnd_some h
    refine p_Fo_9 C eσ_2 d_Fo_startNode_93 ?_
    refine r_aload_n C 0 d_Fo_startNode_96 rfl rfl ?_
    refine r_dup C d_Fo_startNode_97 rfl ?_
    refine q_Fo_18 C d_Fo_startNode_98 ?_
    refine r_iconst C (v := 1) d_Fo_startNode_101 (by decide) ?_
    refine r_iadd C d_Fo_startNode_102 ?_
    obtain ⟨σ_3, eσ_3, h⟩ := bnd_some h
    refine p_Fo_18 C eσ_3 d_Fo_startNode_103 ?_
    refine r_iload_n C 1 d_Fo_startNode_106 rfl rfl ?_
    cases h
    exact hR _ _ d_Fo_startNode_107
  · rw [if_neg hc_1] at h
    refine r_aload_n C 0 d_Fo_startNode_68 rfl rfl ?_
    refine q_Fo_37 C d_Fo_startNode_69 ?_
    refine r_iconst C (v := 3) d_Fo_startNode_72 (by decide) ?_
    refine r_iload_n C 1 d_Fo_startNode_73 rfl rfl ?_
    refine r_imul C d_Fo_startNode_74 ?_
    refine r_iload C 2 d_Fo_startNode_75 rfl ?_
    refine r_iadd C d_Fo_startNode_77 ?_
    refine r_iconst C (v := (-1)) d_Fo_startNode_78 (by decide) ?_
    obtain ⟨hi_4, h⟩ := ck_some h
    obtain ⟨σ_5, eσ_5, h⟩ := bnd_some h
    refine r_iast C hi_4 eσ_5 d_Fo_startNode_79 ?_
    obtain ⟨x4_6, ex4_6, h⟩ := bnd_some h
    refine r_iinc C 2 (lv' := [(4, .int x4_6), (0, .ref (gA X 1)), (3, .int x3)]) d_Fo_startNode_80 rfl (by rw [ex4_6]; rfl) (by decide) rfl ?_
    refine r_goto C (tgt := 62) d_Fo_startNode_83 (by decide) ?_
    refine r_sub [1, 2, 0] (lv' := [(0, .ref (gA X 1)), (3, .int x3), (4, .int x4_6)]) rfl ?_
    exact hk62 _ h
set_option maxHeartbeats 4000000 in
set_option maxRecDepth 100000 in
theorem u_Fo_startNode_62 {X : gX} {r : (Int32 × gS)} (C : gC X b_Fo_startNode_c R_Fo 5 0 0) (hR : ∀ pc lv, decode b_Fo_startNode_c pc = .ok (.ireturn, 1) → G X pc lv [.int r.1] r.2)  (x : Int32 × Int32 × gS) (h : l_Fo_startNode_62 x = some r) : G X 62 [(0, .ref (gA X 1)), (3, .int x.1), (4, .int x.2.1)] [] x.2.2 :=
  lpF_ind (P := fun x => G X 62 [(0, .ref (gA X 1)), (3, .int x.1), (4, .int x.2.1)] [] x.2.2) (fun k hk x h => t_Fo_startNode_62 C hR hk x.1 x.2.1 x.2.2 h) gF x h
set_option maxHeartbeats 4000000 in
set_option maxRecDepth 100000 in
theorem t_Fo_startNode_59 {X : gX} {r : (Int32 × gS)} (C : gC X b_Fo_startNode_c R_Fo 5 0 0) (hR : ∀ pc lv, decode b_Fo_startNode_c pc = .ok (.ireturn, 1) → G X pc lv [.int r.1] r.2) (x3 : Int32) (σ : gS) (h : b_Fo_startNode_59 x3 σ = some r) : G X 59 [(0, .ref (gA X 1)), (3, .int x3)] [] σ := by
  unfold b_Fo_startNode_59 at h
  refine r_iconst C (v := 0) d_Fo_startNode_59 (by decide) ?_
  refine r_istore C (lv' := [(4, .int 0), (0, .ref (gA X 1)), (3, .int x3)]) d_Fo_startNode_60 (by decide) rfl rfl ?_
  refine r_sub [1, 2, 0] (lv' := [(0, .ref (gA X 1)), (3, .int x3), (4, .int 0)]) rfl ?_
  exact u_Fo_startNode_62 C hR  (x3, 0, σ) h
set_option maxHeartbeats 4000000 in
set_option maxRecDepth 100000 in
theorem t_Fo_startNode_0 {X : gX} {r : (Int32 × gS)} (C : gC X b_Fo_startNode_c R_Fo 5 0 0) (hR : ∀ pc lv, decode b_Fo_startNode_c pc = .ok (.ireturn, 1) → G X pc lv [.int r.1] r.2) (x1 : Int32) (x2 : Int32) (σ : gS) (h : b_Fo_startNode_0 x1 x2 σ = some r) : G X 0 [(0, .ref (gA X 1)), (1, .int x1), (2, .int x2)] [] σ := by
  unfold b_Fo_startNode_0 at h
  refine r_aload_n C 0 d_Fo_startNode_0 rfl rfl ?_
  refine q_Fo_9 C d_Fo_startNode_1 ?_
  obtain ⟨x3_1, ex3_1, h⟩ := bnd_some h
  refine r_istore_n C (lv' := [(3, .int x3_1), (0, .ref (gA X 1)), (1, .int x1), (2, .int x2)]) d_Fo_startNode_4 rfl (by decide) ex3_1 rfl ?_
  refine r_aload_n C 1 d_Fo_startNode_5 rfl rfl ?_
  refine q_Fo_21 C d_Fo_startNode_6 ?_
  refine r_iload_n C 0 d_Fo_startNode_9 rfl rfl ?_
  refine r_iload_n C 2 d_Fo_startNode_10 rfl rfl ?_
  obtain ⟨hi_2, h⟩ := ck_some h
  obtain ⟨σ_3, eσ_3, h⟩ := bnd_some h
  refine r_iast C hi_2 eσ_3 d_Fo_startNode_11 ?_
  refine r_aload_n C 1 d_Fo_startNode_12 rfl rfl ?_
  refine q_Fo_25 C d_Fo_startNode_13 ?_
  refine r_iload_n C 0 d_Fo_startNode_16 rfl rfl ?_
  refine r_iload_n C 3 d_Fo_startNode_17 rfl rfl ?_
  obtain ⟨hi_4, h⟩ := ck_some h
  obtain ⟨σ_5, eσ_5, h⟩ := bnd_some h
  refine r_iast C hi_4 eσ_5 d_Fo_startNode_18 ?_
  refine r_aload_n C 1 d_Fo_startNode_19 rfl rfl ?_
  refine q_Fo_40 C d_Fo_startNode_20 ?_
  refine r_iload_n C 0 d_Fo_startNode_23 rfl rfl ?_
  refine r_iconst C (v := 0) d_Fo_startNode_24 (by decide) ?_
  obtain ⟨hi_6, h⟩ := ck_some h
  obtain ⟨σ_7, eσ_7, h⟩ := bnd_some h
  refine r_iast C hi_6 eσ_7 d_Fo_startNode_25 ?_
  refine r_aload_n C 1 d_Fo_startNode_26 rfl rfl ?_
  refine q_Fo_28 C d_Fo_startNode_27 ?_
  refine r_iload_n C 0 d_Fo_startNode_30 rfl rfl ?_
  refine r_iconst C (v := (-1)) d_Fo_startNode_31 (by decide) ?_
  obtain ⟨hi_8, h⟩ := ck_some h
  obtain ⟨σ_9, eσ_9, h⟩ := bnd_some h
  refine r_iast C hi_8 eσ_9 d_Fo_startNode_32 ?_
  refine r_aload_n C 1 d_Fo_startNode_33 rfl rfl ?_
  refine q_Fo_49 C d_Fo_startNode_34 ?_
  refine r_iload_n C 0 d_Fo_startNode_37 rfl rfl ?_
  refine r_lconst C (v := 1) d_Fo_startNode_38 (by decide) ?_
  refine r_iload_n C 0 d_Fo_startNode_39 rfl rfl ?_
  refine r_lshl C d_Fo_startNode_40 ?_
  obtain ⟨hi_10, h⟩ := ck_some h
  obtain ⟨σ_11, eσ_11, h⟩ := bnd_some h
  refine r_last C hi_10 eσ_11 d_Fo_startNode_41 ?_
  refine r_iload_n C 3 d_Fo_startNode_42 rfl rfl ?_
  refine r_iconst C (v := (-1)) d_Fo_startNode_43 (by decide) ?_
  refine r_icmp_eq C (tgt := 59) d_Fo_startNode_44 (by decide) (fun hc_12 => ?_) (fun hc_12 => ?_)
  · rw [if_pos hc_12] at h
    refine r_sub [1, 0] (lv' := [(0, .ref (gA X 1)), (3, .int x3_1)]) rfl ?_
    exact t_Fo_startNode_59 C hR x3_1 σ_11 h
  · rw [if_neg hc_12] at h
    refine r_aload_n C 1 d_Fo_startNode_47 rfl rfl ?_
    refine q_Fo_59 C d_Fo_startNode_48 ?_
    refine r_iload_n C 3 d_Fo_startNode_51 rfl rfl ?_
    refine r_dup2_11 C d_Fo_startNode_52 rfl rfl ?_
    obtain ⟨hi_13, h⟩ := ck_some h
    refine r_lald C hi_13 d_Fo_startNode_53 ?_
    refine r_lconst C (v := 1) d_Fo_startNode_54 (by decide) ?_
    refine r_iload_n C 0 d_Fo_startNode_55 rfl rfl ?_
    refine r_lshl C d_Fo_startNode_56 ?_
    refine r_lor C d_Fo_startNode_57 ?_
    obtain ⟨hi_14, h⟩ := ck_some h
    obtain ⟨σ_15, eσ_15, h⟩ := bnd_some h
    refine r_last C hi_14 eσ_15 d_Fo_startNode_58 ?_
    refine r_sub [1, 0] (lv' := [(0, .ref (gA X 1)), (3, .int x3_1)]) rfl ?_
    exact t_Fo_startNode_59 C hR x3_1 σ_15 h
set_option maxHeartbeats 4000000 in
set_option maxRecDepth 100000 in
theorem c_Fo_startNode (l : Launch) (σ : gS) (x1 : Int32) (x2 : Int32) {r : (Int32 × gS)} (h : f_Fo_startNode σ x1 x2 = some r) : gMet l y_Fo_startNode b_Fo_startNode_c 5 (some .int) 0 0 (fun a => [.ref (a 1), .int x1, .int x2]) σ (some (.int r.1)) r.2 := by
  refine gMet_i (by decide +kernel) (fun a => Nat.le_of_ble_eq_true rfl) (fun X _ C hR => ?_)
  refine r_sub [0, 1, 2] (lv' := [(0, .ref (gA X 1)), (1, .int x1), (2, .int x2)]) rfl ?_
  exact t_Fo_startNode_0 C hR x1 x2 σ h
theorem d_Fo_addEnd_0 : decode b_Fo_addEnd_c 0 = .ok (.aload_n 0, 1) := by decide +kernel
theorem d_Fo_addEnd_1 : decode b_Fo_addEnd_c 1 = .ok (.getfield 9, 3) := by decide +kernel
theorem d_Fo_addEnd_4 : decode b_Fo_addEnd_c 4 = .ok (.bipush 40, 2) := by decide +kernel
theorem d_Fo_addEnd_6 : decode b_Fo_addEnd_c 6 = .ok (.if_icmp .lt 6, 3) := by decide +kernel
theorem d_Fo_addEnd_9 : decode b_Fo_addEnd_c 9 = .ok (.bipush (-3), 2) := by decide +kernel
theorem d_Fo_addEnd_11 : decode b_Fo_addEnd_c 11 = .ok (.ireturn, 1) := by decide +kernel
theorem d_Fo_addEnd_12 : decode b_Fo_addEnd_c 12 = .ok (.aload_n 0, 1) := by decide +kernel
theorem d_Fo_addEnd_13 : decode b_Fo_addEnd_c 13 = .ok (.iconst 0, 1) := by decide +kernel
theorem d_Fo_addEnd_14 : decode b_Fo_addEnd_c 14 = .ok (.iconst (-1), 1) := by decide +kernel
theorem d_Fo_addEnd_15 : decode b_Fo_addEnd_c 15 = .ok (.invokevirtual 65, 3) := by decide +kernel
theorem d_Fo_addEnd_18 : decode b_Fo_addEnd_c 18 = .ok (.istore_n 3, 1) := by decide +kernel
theorem d_Fo_addEnd_19 : decode b_Fo_addEnd_c 19 = .ok (.aload_n 0, 1) := by decide +kernel
theorem d_Fo_addEnd_20 : decode b_Fo_addEnd_c 20 = .ok (.getfield 34, 3) := by decide +kernel
theorem d_Fo_addEnd_23 : decode b_Fo_addEnd_c 23 = .ok (.iconst 2, 1) := by decide +kernel
theorem d_Fo_addEnd_24 : decode b_Fo_addEnd_c 24 = .ok (.iload_n 3, 1) := by decide +kernel
theorem d_Fo_addEnd_25 : decode b_Fo_addEnd_c 25 = .ok (.imul, 1) := by decide +kernel
theorem d_Fo_addEnd_26 : decode b_Fo_addEnd_c 26 = .ok (.iload_n 1, 1) := by decide +kernel
theorem d_Fo_addEnd_27 : decode b_Fo_addEnd_c 27 = .ok (.iastore, 1) := by decide +kernel
theorem d_Fo_addEnd_28 : decode b_Fo_addEnd_c 28 = .ok (.aload_n 0, 1) := by decide +kernel
theorem d_Fo_addEnd_29 : decode b_Fo_addEnd_c 29 = .ok (.getfield 34, 3) := by decide +kernel
theorem d_Fo_addEnd_32 : decode b_Fo_addEnd_c 32 = .ok (.iconst 2, 1) := by decide +kernel
theorem d_Fo_addEnd_33 : decode b_Fo_addEnd_c 33 = .ok (.iload_n 3, 1) := by decide +kernel
theorem d_Fo_addEnd_34 : decode b_Fo_addEnd_c 34 = .ok (.imul, 1) := by decide +kernel
theorem d_Fo_addEnd_35 : decode b_Fo_addEnd_c 35 = .ok (.iconst 1, 1) := by decide +kernel
theorem d_Fo_addEnd_36 : decode b_Fo_addEnd_c 36 = .ok (.iadd, 1) := by decide +kernel
theorem d_Fo_addEnd_37 : decode b_Fo_addEnd_c 37 = .ok (.iload_n 2, 1) := by decide +kernel
theorem d_Fo_addEnd_38 : decode b_Fo_addEnd_c 38 = .ok (.iastore, 1) := by decide +kernel
theorem d_Fo_addEnd_39 : decode b_Fo_addEnd_c 39 = .ok (.aload_n 0, 1) := by decide +kernel
theorem d_Fo_addEnd_40 : decode b_Fo_addEnd_c 40 = .ok (.getfield 43, 3) := by decide +kernel
theorem d_Fo_addEnd_43 : decode b_Fo_addEnd_c 43 = .ok (.iload_n 3, 1) := by decide +kernel
theorem d_Fo_addEnd_44 : decode b_Fo_addEnd_c 44 = .ok (.iconst 0, 1) := by decide +kernel
theorem d_Fo_addEnd_45 : decode b_Fo_addEnd_c 45 = .ok (.iastore, 1) := by decide +kernel
theorem d_Fo_addEnd_46 : decode b_Fo_addEnd_c 46 = .ok (.aload_n 0, 1) := by decide +kernel
theorem d_Fo_addEnd_47 : decode b_Fo_addEnd_c 47 = .ok (.getfield 46, 3) := by decide +kernel
theorem d_Fo_addEnd_50 : decode b_Fo_addEnd_c 50 = .ok (.iload_n 3, 1) := by decide +kernel
theorem d_Fo_addEnd_51 : decode b_Fo_addEnd_c 51 = .ok (.iconst 0, 1) := by decide +kernel
theorem d_Fo_addEnd_52 : decode b_Fo_addEnd_c 52 = .ok (.iastore, 1) := by decide +kernel
theorem d_Fo_addEnd_53 : decode b_Fo_addEnd_c 53 = .ok (.aload_n 0, 1) := by decide +kernel
theorem d_Fo_addEnd_54 : decode b_Fo_addEnd_c 54 = .ok (.getfield 53, 3) := by decide +kernel
theorem d_Fo_addEnd_57 : decode b_Fo_addEnd_c 57 = .ok (.iload_n 3, 1) := by decide +kernel
theorem d_Fo_addEnd_58 : decode b_Fo_addEnd_c 58 = .ok (.iconst 0, 1) := by decide +kernel
theorem d_Fo_addEnd_59 : decode b_Fo_addEnd_c 59 = .ok (.iastore, 1) := by decide +kernel
theorem d_Fo_addEnd_60 : decode b_Fo_addEnd_c 60 = .ok (.iload_n 3, 1) := by decide +kernel
theorem d_Fo_addEnd_61 : decode b_Fo_addEnd_c 61 = .ok (.ireturn, 1) := by decide +kernel
/-! GameRows$Forest.addEnd(II)I -/
set_option maxHeartbeats 4000000 in
set_option maxRecDepth 100000 in
theorem t_Fo_addEnd_0 {X : gX} {r : (Int32 × gS)} (C : gC X b_Fo_addEnd_c R_Fo 4 1 24) (hR : ∀ pc lv, decode b_Fo_addEnd_c pc = .ok (.ireturn, 1) → G X pc lv [.int r.1] r.2) (x1 : Int32) (x2 : Int32) (σ : gS) (h : b_Fo_addEnd_0 x1 x2 σ = some r) : G X 0 [(0, .ref (gA X 1)), (1, .int x1), (2, .int x2)] [] σ := by
  unfold b_Fo_addEnd_0 at h
  refine r_aload_n C 0 d_Fo_addEnd_0 rfl rfl ?_
  refine q_Fo_9 C d_Fo_addEnd_1 ?_
  refine r_bipush C (v := 40) d_Fo_addEnd_4 (by decide) ?_
  refine r_icmp_lt C (tgt := 12) d_Fo_addEnd_6 (by decide) (fun hc_1 => ?_) (fun hc_1 => ?_)
  · rw [if_pos hc_1] at h
    refine r_aload_n C 0 d_Fo_addEnd_12 rfl rfl ?_
    refine r_iconst C (v := 0) d_Fo_addEnd_13 (by decide) ?_
    refine r_iconst C (v := (-1)) d_Fo_addEnd_14 (by decide) ?_
    obtain ⟨r_2, er_2, h⟩ := bind_some h
    refine r_callV C (As := [.int 0, .int (-1)]) (rest := []) (st1 := [.int r_2.1]) (c_Fo_startNode X.1.2.1 σ 0 (-1) er_2) k_Fo_startNode m_29 (by decide) cel_Fo rfl rfl rfl rfl (Nat.le_of_ble_eq_true rfl) ⟨Nat.le_of_ble_eq_true rfl, Nat.le_of_ble_eq_true rfl⟩ d_Fo_addEnd_15 rfl ?_
    obtain ⟨x3_3, ex3_3, h⟩ := bnd_some h
    refine r_istore_n C (lv' := [(3, .int x3_3), (0, .ref (gA X 1)), (1, .int x1), (2, .int x2)]) d_Fo_addEnd_18 rfl (by decide) ex3_3 rfl ?_
    refine r_aload_n C 1 d_Fo_addEnd_19 rfl rfl ?_
    refine q_Fo_34 C d_Fo_addEnd_20 ?_
    refine r_iconst C (v := 2) d_Fo_addEnd_23 (by decide) ?_
    refine r_iload_n C 0 d_Fo_addEnd_24 rfl rfl ?_
    refine r_imul C d_Fo_addEnd_25 ?_
    refine r_iload_n C 2 d_Fo_addEnd_26 rfl rfl ?_
    obtain ⟨hi_4, h⟩ := ck_some h
    obtain ⟨σ_5, eσ_5, h⟩ := bnd_some h
    refine r_iast C hi_4 eσ_5 d_Fo_addEnd_27 ?_
    refine r_aload_n C 1 d_Fo_addEnd_28 rfl rfl ?_
    refine q_Fo_34 C d_Fo_addEnd_29 ?_
    refine r_iconst C (v := 2) d_Fo_addEnd_32 (by decide) ?_
    refine r_iload_n C 0 d_Fo_addEnd_33 rfl rfl ?_
    refine r_imul C d_Fo_addEnd_34 ?_
    refine r_iconst C (v := 1) d_Fo_addEnd_35 (by decide) ?_
    refine r_iadd C d_Fo_addEnd_36 ?_
    refine r_iload_n C 3 d_Fo_addEnd_37 rfl rfl ?_
    obtain ⟨hi_6, h⟩ := ck_some h
    obtain ⟨σ_7, eσ_7, h⟩ := bnd_some h
    refine r_iast C hi_6 eσ_7 d_Fo_addEnd_38 ?_
    refine r_aload_n C 1 d_Fo_addEnd_39 rfl rfl ?_
    refine q_Fo_43 C d_Fo_addEnd_40 ?_
    refine r_iload_n C 0 d_Fo_addEnd_43 rfl rfl ?_
    refine r_iconst C (v := 0) d_Fo_addEnd_44 (by decide) ?_
    obtain ⟨hi_8, h⟩ := ck_some h
    obtain ⟨σ_9, eσ_9, h⟩ := bnd_some h
    refine r_iast C hi_8 eσ_9 d_Fo_addEnd_45 ?_
    refine r_aload_n C 1 d_Fo_addEnd_46 rfl rfl ?_
    refine q_Fo_46 C d_Fo_addEnd_47 ?_
    refine r_iload_n C 0 d_Fo_addEnd_50 rfl rfl ?_
    refine r_iconst C (v := 0) d_Fo_addEnd_51 (by decide) ?_
    obtain ⟨hi_10, h⟩ := ck_some h
    obtain ⟨σ_11, eσ_11, h⟩ := bnd_some h
    refine r_iast C hi_10 eσ_11 d_Fo_addEnd_52 ?_
    refine r_aload_n C 1 d_Fo_addEnd_53 rfl rfl ?_
    refine q_Fo_53 C d_Fo_addEnd_54 ?_
    refine r_iload_n C 0 d_Fo_addEnd_57 rfl rfl ?_
    refine r_iconst C (v := 0) d_Fo_addEnd_58 (by decide) ?_
    obtain ⟨hi_12, h⟩ := ck_some h
    obtain ⟨σ_13, eσ_13, h⟩ := bnd_some h
    refine r_iast C hi_12 eσ_13 d_Fo_addEnd_59 ?_
    refine r_iload_n C 0 d_Fo_addEnd_60 rfl rfl ?_
    cases h
    exact hR _ _ d_Fo_addEnd_61
  · rw [if_neg hc_1] at h
    refine r_bipush C (v := (-3)) d_Fo_addEnd_9 (by decide) ?_
    cases h
    exact hR _ _ d_Fo_addEnd_11
set_option maxHeartbeats 4000000 in
set_option maxRecDepth 100000 in
theorem c_Fo_addEnd (l : Launch) (σ : gS) (x1 : Int32) (x2 : Int32) {r : (Int32 × gS)} (h : f_Fo_addEnd σ x1 x2 = some r) : gMet l y_Fo_addEnd b_Fo_addEnd_c 4 (some .int) 1 24 (fun a => [.ref (a 1), .int x1, .int x2]) σ (some (.int r.1)) r.2 := by
  refine gMet_i (by decide +kernel) (fun a => Nat.le_of_ble_eq_true rfl) (fun X _ C hR => ?_)
  refine r_sub [0, 1, 2] (lv' := [(0, .ref (gA X 1)), (1, .int x1), (2, .int x2)]) rfl ?_
  exact t_Fo_addEnd_0 C hR x1 x2 σ h
theorem d_Ga_end_0 : decode b_Ga_end_c 0 = .ok (.iload_n 1, 1) := by decide +kernel
theorem d_Ga_end_1 : decode b_Ga_end_c 1 = .ok (.bipush (-100), 2) := by decide +kernel
theorem d_Ga_end_3 : decode b_Ga_end_c 3 = .ok (.bipush 100, 2) := by decide +kernel
theorem d_Ga_end_5 : decode b_Ga_end_c 5 = .ok (.invokestatic 56, 3) := by decide +kernel
theorem d_Ga_end_8 : decode b_Ga_end_c 8 = .ok (.ifCond .eq 14, 3) := by decide +kernel
theorem d_Ga_end_11 : decode b_Ga_end_c 11 = .ok (.iload_n 2, 1) := by decide +kernel
theorem d_Ga_end_12 : decode b_Ga_end_c 12 = .ok (.bipush (-100), 2) := by decide +kernel
theorem d_Ga_end_14 : decode b_Ga_end_c 14 = .ok (.bipush 100, 2) := by decide +kernel
theorem d_Ga_end_16 : decode b_Ga_end_c 16 = .ok (.invokestatic 56, 3) := by decide +kernel
theorem d_Ga_end_19 : decode b_Ga_end_c 19 = .ok (.ifCond .ne 6, 3) := by decide +kernel
theorem d_Ga_end_22 : decode b_Ga_end_c 22 = .ok (.bipush (-2), 2) := by decide +kernel
theorem d_Ga_end_24 : decode b_Ga_end_c 24 = .ok (.ireturn, 1) := by decide +kernel
theorem d_Ga_end_25 : decode b_Ga_end_c 25 = .ok (.aload_n 0, 1) := by decide +kernel
theorem d_Ga_end_26 : decode b_Ga_end_c 26 = .ok (.getfield 10, 3) := by decide +kernel
theorem d_Ga_end_29 : decode b_Ga_end_c 29 = .ok (.iload_n 1, 1) := by decide +kernel
theorem d_Ga_end_30 : decode b_Ga_end_c 30 = .ok (.iload_n 2, 1) := by decide +kernel
theorem d_Ga_end_31 : decode b_Ga_end_c 31 = .ok (.invokevirtual 64, 3) := by decide +kernel
theorem d_Ga_end_34 : decode b_Ga_end_c 34 = .ok (.ireturn, 1) := by decide +kernel
/-! GameRows.end(II)I -/
set_option maxHeartbeats 4000000 in
set_option maxRecDepth 100000 in
theorem t_Ga_end_0 {X : gX} {r : (Int32 × gS)} (C : gC X b_Ga_end_c R_Ga 3 2 47) (hR : ∀ pc lv, decode b_Ga_end_c pc = .ok (.ireturn, 1) → G X pc lv [.int r.1] r.2) (x1 : Int32) (x2 : Int32) (σ : gS) (h : b_Ga_end_0 x1 x2 σ = some r) : G X 0 [(0, .ref (gA X 0)), (1, .int x1), (2, .int x2)] [] σ := by
  unfold b_Ga_end_0 at h
  refine r_iload_n C 1 d_Ga_end_0 rfl rfl ?_
  refine r_bipush C (v := (-100)) d_Ga_end_1 (by decide) ?_
  refine r_bipush C (v := 100) d_Ga_end_3 (by decide) ?_
  obtain ⟨r_1, er_1, h⟩ := bind_some h
  refine r_callS C (As := [.int x1, .int (-100), .int 100]) (rest := []) (st1 := [.int r_1]) (c_Ga_isAmong X.1.2.1 σ x1 (-100) 100 er_1) k_Ga_isAmong m_16 rfl rfl rfl (Nat.le_of_ble_eq_true rfl) ⟨Nat.le_of_ble_eq_true rfl, Nat.le_of_ble_eq_true rfl⟩ d_Ga_end_5 rfl ?_
  refine r_if_eq C (tgt := 22) d_Ga_end_8 (by decide) (fun hc_2 => ?_) (fun hc_2 => ?_)
  · rw [if_pos hc_2] at h
    refine r_bipush C (v := (-2)) d_Ga_end_22 (by decide) ?_
    cases h
    exact hR _ _ d_Ga_end_24
  · rw [if_neg hc_2] at h
    refine r_iload_n C 2 d_Ga_end_11 rfl rfl ?_
    refine r_bipush C (v := (-100)) d_Ga_end_12 (by decide) ?_
    refine r_bipush C (v := 100) d_Ga_end_14 (by decide) ?_
    obtain ⟨r_3, er_3, h⟩ := bind_some h
    refine r_callS C (As := [.int x2, .int (-100), .int 100]) (rest := []) (st1 := [.int r_3]) (c_Ga_isAmong X.1.2.1 σ x2 (-100) 100 er_3) k_Ga_isAmong m_16 rfl rfl rfl (Nat.le_of_ble_eq_true rfl) ⟨Nat.le_of_ble_eq_true rfl, Nat.le_of_ble_eq_true rfl⟩ d_Ga_end_16 rfl ?_
    refine r_if_ne C (tgt := 25) d_Ga_end_19 (by decide) (fun hc_4 => ?_) (fun hc_4 => ?_)
    · rw [if_neg hc_4] at h
      refine r_aload_n C 0 d_Ga_end_25 rfl rfl ?_
      refine q_Ga_10 C d_Ga_end_26 ?_
      refine r_iload_n C 1 d_Ga_end_29 rfl rfl ?_
      refine r_iload_n C 2 d_Ga_end_30 rfl rfl ?_
      obtain ⟨r_5, er_5, h⟩ := bind_some h
      refine r_callV C (As := [.int x1, .int x2]) (rest := []) (st1 := [.int r_5.1]) (c_Fo_addEnd X.1.2.1 σ x1 x2 er_5) k_Fo_addEnd m_37 (by decide) cel_Fo rfl rfl rfl rfl (Nat.le_of_ble_eq_true rfl) ⟨Nat.le_of_ble_eq_true rfl, Nat.le_of_ble_eq_true rfl⟩ d_Ga_end_31 rfl ?_
      cases h
      exact hR _ _ d_Ga_end_34
    · rw [if_pos hc_4] at h
      refine r_bipush C (v := (-2)) d_Ga_end_22 (by decide) ?_
      cases h
      exact hR _ _ d_Ga_end_24
set_option maxHeartbeats 4000000 in
set_option maxRecDepth 100000 in
theorem c_Ga_end (l : Launch) (σ : gS) (x1 : Int32) (x2 : Int32) {r : (Int32 × gS)} (h : f_Ga_end σ x1 x2 = some r) : gMet l y_Ga_end b_Ga_end_c 3 (some .int) 2 47 (fun a => [.ref (a 0), .int x1, .int x2]) σ (some (.int r.1)) r.2 := by
  refine gMet_i (by decide +kernel) (fun a => Nat.le_of_ble_eq_true rfl) (fun X _ C hR => ?_)
  refine r_sub [0, 1, 2] (lv' := [(0, .ref (gA X 0)), (1, .int x1), (2, .int x2)]) rfl ?_
  exact t_Ga_end_0 C hR x1 x2 σ h
theorem d_Fo_offer_0 : decode b_Fo_offer_c 0 = .ok (.aload_n 0, 1) := by decide +kernel
theorem d_Fo_offer_1 : decode b_Fo_offer_c 1 = .ok (.getfield 62, 3) := by decide +kernel
theorem d_Fo_offer_4 : decode b_Fo_offer_c 4 = .ok (.iconst 0, 1) := by decide +kernel
theorem d_Fo_offer_5 : decode b_Fo_offer_c 5 = .ok (.iload_n 1, 1) := by decide +kernel
theorem d_Fo_offer_6 : decode b_Fo_offer_c 6 = .ok (.iastore, 1) := by decide +kernel
theorem d_Fo_offer_7 : decode b_Fo_offer_c 7 = .ok (.aload_n 0, 1) := by decide +kernel
theorem d_Fo_offer_8 : decode b_Fo_offer_c 8 = .ok (.getfield 62, 3) := by decide +kernel
theorem d_Fo_offer_11 : decode b_Fo_offer_c 11 = .ok (.iconst 1, 1) := by decide +kernel
theorem d_Fo_offer_12 : decode b_Fo_offer_c 12 = .ok (.iload_n 2, 1) := by decide +kernel
theorem d_Fo_offer_13 : decode b_Fo_offer_c 13 = .ok (.iastore, 1) := by decide +kernel
theorem d_Fo_offer_14 : decode b_Fo_offer_c 14 = .ok (.aload_n 0, 1) := by decide +kernel
theorem d_Fo_offer_15 : decode b_Fo_offer_c 15 = .ok (.getfield 62, 3) := by decide +kernel
theorem d_Fo_offer_18 : decode b_Fo_offer_c 18 = .ok (.iconst 2, 1) := by decide +kernel
theorem d_Fo_offer_19 : decode b_Fo_offer_c 19 = .ok (.iload_n 3, 1) := by decide +kernel
theorem d_Fo_offer_20 : decode b_Fo_offer_c 20 = .ok (.iastore, 1) := by decide +kernel
theorem d_Fo_offer_21 : decode b_Fo_offer_c 21 = .ok (.return_, 1) := by decide +kernel
/-! GameRows$Forest.offer(III)V -/
set_option maxHeartbeats 4000000 in
set_option maxRecDepth 100000 in
theorem t_Fo_offer_0 {X : gX} {r : gS} (C : gC X b_Fo_offer_c R_Fo 4 0 0) (hR : ∀ pc lv, decode b_Fo_offer_c pc = .ok (.return_, 1) → G X pc lv [] r) (x1 : Int32) (x2 : Int32) (x3 : Int32) (σ : gS) (h : b_Fo_offer_0 x1 x2 x3 σ = some r) : G X 0 [(0, .ref (gA X 1)), (1, .int x1), (2, .int x2), (3, .int x3)] [] σ := by
  unfold b_Fo_offer_0 at h
  refine r_aload_n C 0 d_Fo_offer_0 rfl rfl ?_
  refine q_Fo_62 C d_Fo_offer_1 ?_
  refine r_iconst C (v := 0) d_Fo_offer_4 (by decide) ?_
  refine r_iload_n C 1 d_Fo_offer_5 rfl rfl ?_
  obtain ⟨hi_1, h⟩ := ck_some h
  obtain ⟨σ_2, eσ_2, h⟩ := bnd_some h
  refine r_iast C hi_1 eσ_2 d_Fo_offer_6 ?_
  refine r_aload_n C 0 d_Fo_offer_7 rfl rfl ?_
  refine q_Fo_62 C d_Fo_offer_8 ?_
  refine r_iconst C (v := 1) d_Fo_offer_11 (by decide) ?_
  refine r_iload_n C 2 d_Fo_offer_12 rfl rfl ?_
  obtain ⟨hi_3, h⟩ := ck_some h
  obtain ⟨σ_4, eσ_4, h⟩ := bnd_some h
  refine r_iast C hi_3 eσ_4 d_Fo_offer_13 ?_
  refine r_aload_n C 0 d_Fo_offer_14 rfl rfl ?_
  refine q_Fo_62 C d_Fo_offer_15 ?_
  refine r_iconst C (v := 2) d_Fo_offer_18 (by decide) ?_
  refine r_iload_n C 3 d_Fo_offer_19 rfl rfl ?_
  obtain ⟨hi_5, h⟩ := ck_some h
  obtain ⟨σ_6, eσ_6, h⟩ := bnd_some h
  refine r_iast C hi_5 eσ_6 d_Fo_offer_20 ?_
  cases h
  exact hR _ _ d_Fo_offer_21
set_option maxHeartbeats 4000000 in
set_option maxRecDepth 100000 in
theorem c_Fo_offer (l : Launch) (σ : gS) (x1 : Int32) (x2 : Int32) (x3 : Int32) {r : gS} (h : f_Fo_offer σ x1 x2 x3 = some r) : gMet l y_Fo_offer b_Fo_offer_c 4 (none) 0 0 (fun a => [.ref (a 1), .int x1, .int x2, .int x3]) σ (none) r := by
  refine gMet_v (by decide +kernel) (fun a => Nat.le_of_ble_eq_true rfl) (fun X _ C hR => ?_)
  refine r_sub [0, 1, 2, 3] (lv' := [(0, .ref (gA X 1)), (1, .int x1), (2, .int x2), (3, .int x3)]) rfl ?_
  exact t_Fo_offer_0 C hR x1 x2 x3 σ h
theorem d_Fo_hasNode_0 : decode b_Fo_hasNode_c 0 = .ok (.iload_n 1, 1) := by decide +kernel
theorem d_Fo_hasNode_1 : decode b_Fo_hasNode_c 1 = .ok (.ifCond .lt 15, 3) := by decide +kernel
theorem d_Fo_hasNode_4 : decode b_Fo_hasNode_c 4 = .ok (.iload_n 1, 1) := by decide +kernel
theorem d_Fo_hasNode_5 : decode b_Fo_hasNode_c 5 = .ok (.aload_n 0, 1) := by decide +kernel
theorem d_Fo_hasNode_6 : decode b_Fo_hasNode_c 6 = .ok (.getfield 9, 3) := by decide +kernel
theorem d_Fo_hasNode_9 : decode b_Fo_hasNode_c 9 = .ok (.if_icmp .ge 7, 3) := by decide +kernel
theorem d_Fo_hasNode_12 : decode b_Fo_hasNode_c 12 = .ok (.iconst 1, 1) := by decide +kernel
theorem d_Fo_hasNode_13 : decode b_Fo_hasNode_c 13 = .ok (.goto 4, 3) := by decide +kernel
theorem d_Fo_hasNode_16 : decode b_Fo_hasNode_c 16 = .ok (.iconst 0, 1) := by decide +kernel
theorem d_Fo_hasNode_17 : decode b_Fo_hasNode_c 17 = .ok (.ireturn, 1) := by decide +kernel
/-! GameRows$Forest.hasNode(I)Z -/
set_option maxHeartbeats 4000000 in
set_option maxRecDepth 100000 in
theorem t_Fo_hasNode_0 {X : gX} {r : Int32} {σ : gS} (C : gC X b_Fo_hasNode_c R_Fo 2 0 0) (hR : ∀ pc lv, isB r = true → decode b_Fo_hasNode_c pc = .ok (.ireturn, 1) → G X pc lv [.int r] σ) (x1 : Int32) (h : b_Fo_hasNode_0 σ x1 = some r) : G X 0 [(0, .ref (gA X 1)), (1, .int x1)] [] σ := by
  unfold b_Fo_hasNode_0 at h
  refine r_iload_n C 1 d_Fo_hasNode_0 rfl rfl ?_
  refine r_if_lt C (tgt := 16) d_Fo_hasNode_1 (by decide) (fun hc_1 => ?_) (fun hc_1 => ?_)
  · rw [if_pos hc_1] at h
    refine r_iconst C (v := 0) d_Fo_hasNode_16 (by decide) ?_
    obtain ⟨hB, h⟩ := ck_some h
    cases h
    exact hR _ _ hB d_Fo_hasNode_17
  · rw [if_neg hc_1] at h
    refine r_iload_n C 1 d_Fo_hasNode_4 rfl rfl ?_
    refine r_aload_n C 0 d_Fo_hasNode_5 rfl rfl ?_
    refine q_Fo_9 C d_Fo_hasNode_6 ?_
    refine r_icmp_ge C (tgt := 16) d_Fo_hasNode_9 (by decide) (fun hc_2 => ?_) (fun hc_2 => ?_)
    · rw [if_pos hc_2] at h
      refine r_iconst C (v := 0) d_Fo_hasNode_16 (by decide) ?_
      obtain ⟨hB, h⟩ := ck_some h
      cases h
      exact hR _ _ hB d_Fo_hasNode_17
    · rw [if_neg hc_2] at h
      refine r_iconst C (v := 1) d_Fo_hasNode_12 (by decide) ?_
      refine r_goto C (tgt := 17) d_Fo_hasNode_13 (by decide) ?_
      obtain ⟨hB, h⟩ := ck_some h
      cases h
      exact hR _ _ hB d_Fo_hasNode_17
set_option maxHeartbeats 4000000 in
set_option maxRecDepth 100000 in
theorem c_Fo_hasNode (l : Launch) (σ : gS) (x1 : Int32) {r : Int32} (h : f_Fo_hasNode σ x1 = some r) : gMet l y_Fo_hasNode b_Fo_hasNode_c 2 (some .boolean) 0 0 (fun a => [.ref (a 1), .int x1]) σ (some (.int r)) σ := by
  refine gMet_z (by decide +kernel) (fun a => Nat.le_of_ble_eq_true rfl) (fun X _ C hR => ?_)
  refine r_sub [0, 1] (lv' := [(0, .ref (gA X 1)), (1, .int x1)]) rfl ?_
  exact t_Fo_hasNode_0 C hR x1 h
theorem d_Fo_areOfferedThere_0 : decode b_Fo_areOfferedThere_c 0 = .ok (.iconst 0, 1) := by decide +kernel
theorem d_Fo_areOfferedThere_1 : decode b_Fo_areOfferedThere_c 1 = .ok (.istore_n 2, 1) := by decide +kernel
theorem d_Fo_areOfferedThere_2 : decode b_Fo_areOfferedThere_c 2 = .ok (.iload_n 2, 1) := by decide +kernel
theorem d_Fo_areOfferedThere_3 : decode b_Fo_areOfferedThere_c 3 = .ok (.iload_n 1, 1) := by decide +kernel
theorem d_Fo_areOfferedThere_4 : decode b_Fo_areOfferedThere_c 4 = .ok (.if_icmp .ge 24, 3) := by decide +kernel
theorem d_Fo_areOfferedThere_7 : decode b_Fo_areOfferedThere_c 7 = .ok (.aload_n 0, 1) := by decide +kernel
theorem d_Fo_areOfferedThere_8 : decode b_Fo_areOfferedThere_c 8 = .ok (.aload_n 0, 1) := by decide +kernel
theorem d_Fo_areOfferedThere_9 : decode b_Fo_areOfferedThere_c 9 = .ok (.getfield 62, 3) := by decide +kernel
theorem d_Fo_areOfferedThere_12 : decode b_Fo_areOfferedThere_c 12 = .ok (.iload_n 2, 1) := by decide +kernel
theorem d_Fo_areOfferedThere_13 : decode b_Fo_areOfferedThere_c 13 = .ok (.iaload, 1) := by decide +kernel
theorem d_Fo_areOfferedThere_14 : decode b_Fo_areOfferedThere_c 14 = .ok (.invokevirtual 91, 3) := by decide +kernel
theorem d_Fo_areOfferedThere_17 : decode b_Fo_areOfferedThere_c 17 = .ok (.ifCond .ne 5, 3) := by decide +kernel
theorem d_Fo_areOfferedThere_20 : decode b_Fo_areOfferedThere_c 20 = .ok (.iconst 0, 1) := by decide +kernel
theorem d_Fo_areOfferedThere_21 : decode b_Fo_areOfferedThere_c 21 = .ok (.ireturn, 1) := by decide +kernel
theorem d_Fo_areOfferedThere_22 : decode b_Fo_areOfferedThere_c 22 = .ok (.iinc 2 1, 3) := by decide +kernel
theorem d_Fo_areOfferedThere_25 : decode b_Fo_areOfferedThere_c 25 = .ok (.goto (-23), 3) := by decide +kernel
theorem d_Fo_areOfferedThere_28 : decode b_Fo_areOfferedThere_c 28 = .ok (.iconst 1, 1) := by decide +kernel
theorem d_Fo_areOfferedThere_29 : decode b_Fo_areOfferedThere_c 29 = .ok (.ireturn, 1) := by decide +kernel
/-! GameRows$Forest.areOfferedThere(I)Z -/
set_option maxHeartbeats 4000000 in
set_option maxRecDepth 100000 in
theorem t_Fo_areOfferedThere_2 {X : gX} {r : Int32} {σ : gS} (C : gC X b_Fo_areOfferedThere_c R_Fo 3 1 21) (hR : ∀ pc lv, isB r = true → decode b_Fo_areOfferedThere_c pc = .ok (.ireturn, 1) → G X pc lv [.int r] σ) {k2 : Int32 × Int32 → Option Int32}  (hk2 : ∀ x, k2 x = some r → G X 2 [(0, .ref (gA X 1)), (1, .int x.1), (2, .int x.2)] [] σ) (x1 : Int32) (x2 : Int32) (h : b_Fo_areOfferedThere_2 σ k2 x1 x2 = some r) : G X 2 [(0, .ref (gA X 1)), (1, .int x1), (2, .int x2)] [] σ := by
  unfold b_Fo_areOfferedThere_2 at h
  refine r_iload_n C 2 d_Fo_areOfferedThere_2 rfl rfl ?_
  refine r_iload_n C 1 d_Fo_areOfferedThere_3 rfl rfl ?_
  refine r_icmp_ge C (tgt := 28) d_Fo_areOfferedThere_4 (by decide) (fun hc_1 => ?_) (fun hc_1 => ?_)
  · rw [if_pos hc_1] at h
    refine r_iconst C (v := 1) d_Fo_areOfferedThere_28 (by decide) ?_
    obtain ⟨hB, h⟩ := ck_some h
    cases h
    exact hR _ _ hB d_Fo_areOfferedThere_29
  · rw [if_neg hc_1] at h
    refine r_aload_n C 0 d_Fo_areOfferedThere_7 rfl rfl ?_
    refine r_aload_n C 0 d_Fo_areOfferedThere_8 rfl rfl ?_
    refine q_Fo_62 C d_Fo_areOfferedThere_9 ?_
    refine r_iload_n C 2 d_Fo_areOfferedThere_12 rfl rfl ?_
    obtain ⟨hi_2, h⟩ := ck_some h
    refine r_iald C hi_2 d_Fo_areOfferedThere_13 ?_
    obtain ⟨r_3, er_3, h⟩ := bind_some h
    refine r_callV C (As := [.int (gI σ 15 x2.toNatClampNeg)]) (rest := []) (st1 := [.int r_3]) (c_Fo_hasNode X.1.2.1 σ (gI σ 15 x2.toNatClampNeg) er_3) k_Fo_hasNode m_42 (by decide) cel_Fo rfl rfl rfl rfl (Nat.le_of_ble_eq_true rfl) ⟨Nat.le_of_ble_eq_true rfl, Nat.le_of_ble_eq_true rfl⟩ d_Fo_areOfferedThere_14 rfl ?_
    refine r_if_ne C (tgt := 22) d_Fo_areOfferedThere_17 (by decide) (fun hc_4 => ?_) (fun hc_4 => ?_)
    · rw [if_neg hc_4] at h
      obtain ⟨x2_5, ex2_5, h⟩ := bnd_some h
      refine r_iinc C 2 (lv' := [(2, .int x2_5), (0, .ref (gA X 1)), (1, .int x1)]) d_Fo_areOfferedThere_22 rfl (by rw [ex2_5]; rfl) (by decide) rfl ?_
      refine r_goto C (tgt := 2) d_Fo_areOfferedThere_25 (by decide) ?_
      refine r_sub [1, 2, 0] (lv' := [(0, .ref (gA X 1)), (1, .int x1), (2, .int x2_5)]) rfl ?_
      exact hk2 _ h
    · rw [if_pos hc_4] at h
      refine r_iconst C (v := 0) d_Fo_areOfferedThere_20 (by decide) ?_
      obtain ⟨hB, h⟩ := ck_some h
      cases h
      exact hR _ _ hB d_Fo_areOfferedThere_21
set_option maxHeartbeats 4000000 in
set_option maxRecDepth 100000 in
theorem u_Fo_areOfferedThere_2 {X : gX} {r : Int32} {σ : gS} (C : gC X b_Fo_areOfferedThere_c R_Fo 3 1 21) (hR : ∀ pc lv, isB r = true → decode b_Fo_areOfferedThere_c pc = .ok (.ireturn, 1) → G X pc lv [.int r] σ)  (x : Int32 × Int32) (h : l_Fo_areOfferedThere_2 σ x = some r) : G X 2 [(0, .ref (gA X 1)), (1, .int x.1), (2, .int x.2)] [] σ :=
  lpF_ind (P := fun x => G X 2 [(0, .ref (gA X 1)), (1, .int x.1), (2, .int x.2)] [] σ) (fun k hk x h => t_Fo_areOfferedThere_2 C hR hk x.1 x.2 h) gF x h
set_option maxHeartbeats 4000000 in
set_option maxRecDepth 100000 in
theorem t_Fo_areOfferedThere_0 {X : gX} {r : Int32} {σ : gS} (C : gC X b_Fo_areOfferedThere_c R_Fo 3 1 21) (hR : ∀ pc lv, isB r = true → decode b_Fo_areOfferedThere_c pc = .ok (.ireturn, 1) → G X pc lv [.int r] σ) (x1 : Int32) (h : b_Fo_areOfferedThere_0 σ x1 = some r) : G X 0 [(0, .ref (gA X 1)), (1, .int x1)] [] σ := by
  unfold b_Fo_areOfferedThere_0 at h
  refine r_iconst C (v := 0) d_Fo_areOfferedThere_0 (by decide) ?_
  refine r_istore_n C (lv' := [(2, .int 0), (0, .ref (gA X 1)), (1, .int x1)]) d_Fo_areOfferedThere_1 rfl (by decide) rfl rfl ?_
  refine r_sub [1, 2, 0] (lv' := [(0, .ref (gA X 1)), (1, .int x1), (2, .int 0)]) rfl ?_
  exact u_Fo_areOfferedThere_2 C hR  (x1, 0) h
set_option maxHeartbeats 4000000 in
set_option maxRecDepth 100000 in
theorem c_Fo_areOfferedThere (l : Launch) (σ : gS) (x1 : Int32) {r : Int32} (h : f_Fo_areOfferedThere σ x1 = some r) : gMet l y_Fo_areOfferedThere b_Fo_areOfferedThere_c 3 (some .boolean) 1 21 (fun a => [.ref (a 1), .int x1]) σ (some (.int r)) σ := by
  refine gMet_z (by decide +kernel) (fun a => Nat.le_of_ble_eq_true rfl) (fun X _ C hR => ?_)
  refine r_sub [0, 1] (lv' := [(0, .ref (gA X 1)), (1, .int x1)]) rfl ?_
  exact t_Fo_areOfferedThere_0 C hR x1 h
theorem d_Fo_isOfferedTaken_0 : decode b_Fo_isOfferedTaken_c 0 = .ok (.iconst 0, 1) := by decide +kernel
theorem d_Fo_isOfferedTaken_1 : decode b_Fo_isOfferedTaken_c 1 = .ok (.istore_n 2, 1) := by decide +kernel
theorem d_Fo_isOfferedTaken_2 : decode b_Fo_isOfferedTaken_c 2 = .ok (.iload_n 2, 1) := by decide +kernel
theorem d_Fo_isOfferedTaken_3 : decode b_Fo_isOfferedTaken_c 3 = .ok (.iload_n 1, 1) := by decide +kernel
theorem d_Fo_isOfferedTaken_4 : decode b_Fo_isOfferedTaken_c 4 = .ok (.if_icmp .ge 56, 3) := by decide +kernel
theorem d_Fo_isOfferedTaken_7 : decode b_Fo_isOfferedTaken_c 7 = .ok (.aload_n 0, 1) := by decide +kernel
theorem d_Fo_isOfferedTaken_8 : decode b_Fo_isOfferedTaken_c 8 = .ok (.getfield 28, 3) := by decide +kernel
theorem d_Fo_isOfferedTaken_11 : decode b_Fo_isOfferedTaken_c 11 = .ok (.aload_n 0, 1) := by decide +kernel
theorem d_Fo_isOfferedTaken_12 : decode b_Fo_isOfferedTaken_c 12 = .ok (.getfield 62, 3) := by decide +kernel
theorem d_Fo_isOfferedTaken_15 : decode b_Fo_isOfferedTaken_c 15 = .ok (.iload_n 2, 1) := by decide +kernel
theorem d_Fo_isOfferedTaken_16 : decode b_Fo_isOfferedTaken_c 16 = .ok (.iaload, 1) := by decide +kernel
theorem d_Fo_isOfferedTaken_17 : decode b_Fo_isOfferedTaken_c 17 = .ok (.iaload, 1) := by decide +kernel
theorem d_Fo_isOfferedTaken_18 : decode b_Fo_isOfferedTaken_c 18 = .ok (.iconst (-1), 1) := by decide +kernel
theorem d_Fo_isOfferedTaken_19 : decode b_Fo_isOfferedTaken_c 19 = .ok (.if_icmp .eq 5, 3) := by decide +kernel
theorem d_Fo_isOfferedTaken_22 : decode b_Fo_isOfferedTaken_c 22 = .ok (.iconst 1, 1) := by decide +kernel
theorem d_Fo_isOfferedTaken_23 : decode b_Fo_isOfferedTaken_c 23 = .ok (.ireturn, 1) := by decide +kernel
theorem d_Fo_isOfferedTaken_24 : decode b_Fo_isOfferedTaken_c 24 = .ok (.iconst 0, 1) := by decide +kernel
theorem d_Fo_isOfferedTaken_25 : decode b_Fo_isOfferedTaken_c 25 = .ok (.istore_n 3, 1) := by decide +kernel
theorem d_Fo_isOfferedTaken_26 : decode b_Fo_isOfferedTaken_c 26 = .ok (.iload_n 3, 1) := by decide +kernel
theorem d_Fo_isOfferedTaken_27 : decode b_Fo_isOfferedTaken_c 27 = .ok (.iload_n 2, 1) := by decide +kernel
theorem d_Fo_isOfferedTaken_28 : decode b_Fo_isOfferedTaken_c 28 = .ok (.if_icmp .ge 26, 3) := by decide +kernel
theorem d_Fo_isOfferedTaken_31 : decode b_Fo_isOfferedTaken_c 31 = .ok (.aload_n 0, 1) := by decide +kernel
theorem d_Fo_isOfferedTaken_32 : decode b_Fo_isOfferedTaken_c 32 = .ok (.getfield 62, 3) := by decide +kernel
theorem d_Fo_isOfferedTaken_35 : decode b_Fo_isOfferedTaken_c 35 = .ok (.iload_n 2, 1) := by decide +kernel
theorem d_Fo_isOfferedTaken_36 : decode b_Fo_isOfferedTaken_c 36 = .ok (.iaload, 1) := by decide +kernel
theorem d_Fo_isOfferedTaken_37 : decode b_Fo_isOfferedTaken_c 37 = .ok (.aload_n 0, 1) := by decide +kernel
theorem d_Fo_isOfferedTaken_38 : decode b_Fo_isOfferedTaken_c 38 = .ok (.getfield 62, 3) := by decide +kernel
theorem d_Fo_isOfferedTaken_41 : decode b_Fo_isOfferedTaken_c 41 = .ok (.iload_n 3, 1) := by decide +kernel
theorem d_Fo_isOfferedTaken_42 : decode b_Fo_isOfferedTaken_c 42 = .ok (.iaload, 1) := by decide +kernel
theorem d_Fo_isOfferedTaken_43 : decode b_Fo_isOfferedTaken_c 43 = .ok (.if_icmp .ne 5, 3) := by decide +kernel
theorem d_Fo_isOfferedTaken_46 : decode b_Fo_isOfferedTaken_c 46 = .ok (.iconst 1, 1) := by decide +kernel
theorem d_Fo_isOfferedTaken_47 : decode b_Fo_isOfferedTaken_c 47 = .ok (.ireturn, 1) := by decide +kernel
theorem d_Fo_isOfferedTaken_48 : decode b_Fo_isOfferedTaken_c 48 = .ok (.iinc 3 1, 3) := by decide +kernel
theorem d_Fo_isOfferedTaken_51 : decode b_Fo_isOfferedTaken_c 51 = .ok (.goto (-25), 3) := by decide +kernel
theorem d_Fo_isOfferedTaken_54 : decode b_Fo_isOfferedTaken_c 54 = .ok (.iinc 2 1, 3) := by decide +kernel
theorem d_Fo_isOfferedTaken_57 : decode b_Fo_isOfferedTaken_c 57 = .ok (.goto (-55), 3) := by decide +kernel
theorem d_Fo_isOfferedTaken_60 : decode b_Fo_isOfferedTaken_c 60 = .ok (.iconst 0, 1) := by decide +kernel
theorem d_Fo_isOfferedTaken_61 : decode b_Fo_isOfferedTaken_c 61 = .ok (.ireturn, 1) := by decide +kernel
/-! GameRows$Forest.isOfferedTaken(I)Z -/
set_option maxHeartbeats 4000000 in
set_option maxRecDepth 100000 in
theorem t_Fo_isOfferedTaken_26 {X : gX} {r : Int32} {σ : gS} (C : gC X b_Fo_isOfferedTaken_c R_Fo 4 0 0) (hR : ∀ pc lv, isB r = true → decode b_Fo_isOfferedTaken_c pc = .ok (.ireturn, 1) → G X pc lv [.int r] σ) {k2 : Int32 × Int32 → Option Int32}  {k26 : Int32 × Int32 × Int32 → Option Int32}  (hk2 : ∀ x, k2 x = some r → G X 2 [(0, .ref (gA X 1)), (1, .int x.1), (2, .int x.2)] [] σ) (hk26 : ∀ x, k26 x = some r → G X 26 [(0, .ref (gA X 1)), (1, .int x.1), (2, .int x.2.1), (3, .int x.2.2)] [] σ) (x1 : Int32) (x2 : Int32) (x3 : Int32) (h : b_Fo_isOfferedTaken_26 σ k2 k26 x1 x2 x3 = some r) : G X 26 [(0, .ref (gA X 1)), (1, .int x1), (2, .int x2), (3, .int x3)] [] σ := by
  unfold b_Fo_isOfferedTaken_26 at h
  refine r_iload_n C 3 d_Fo_isOfferedTaken_26 rfl rfl ?_
  refine r_iload_n C 2 d_Fo_isOfferedTaken_27 rfl rfl ?_
  refine r_icmp_ge C (tgt := 54) d_Fo_isOfferedTaken_28 (by decide) (fun hc_1 => ?_) (fun hc_1 => ?_)
  · rw [if_pos hc_1] at h
    obtain ⟨x2_2, ex2_2, h⟩ := bnd_some h
    refine r_iinc C 2 (lv' := [(2, .int x2_2), (0, .ref (gA X 1)), (1, .int x1), (3, .int x3)]) d_Fo_isOfferedTaken_54 rfl (by rw [ex2_2]; rfl) (by decide) rfl ?_
    refine r_goto C (tgt := 2) d_Fo_isOfferedTaken_57 (by decide) ?_
    refine r_sub [1, 2, 0] (lv' := [(0, .ref (gA X 1)), (1, .int x1), (2, .int x2_2)]) rfl ?_
    exact hk2 _ h
  · rw [if_neg hc_1] at h
    refine r_aload_n C 0 d_Fo_isOfferedTaken_31 rfl rfl ?_
    refine q_Fo_62 C d_Fo_isOfferedTaken_32 ?_
    refine r_iload_n C 2 d_Fo_isOfferedTaken_35 rfl rfl ?_
    obtain ⟨hi_3, h⟩ := ck_some h
    refine r_iald C hi_3 d_Fo_isOfferedTaken_36 ?_
    refine r_aload_n C 0 d_Fo_isOfferedTaken_37 rfl rfl ?_
    refine q_Fo_62 C d_Fo_isOfferedTaken_38 ?_
    refine r_iload_n C 3 d_Fo_isOfferedTaken_41 rfl rfl ?_
    obtain ⟨hi_4, h⟩ := ck_some h
    refine r_iald C hi_4 d_Fo_isOfferedTaken_42 ?_
    refine r_icmp_ne C (tgt := 48) d_Fo_isOfferedTaken_43 (by decide) (fun hc_5 => ?_) (fun hc_5 => ?_)
    · rw [if_neg hc_5] at h
      obtain ⟨x3_6, ex3_6, h⟩ := bnd_some h
      refine r_iinc C 3 (lv' := [(3, .int x3_6), (0, .ref (gA X 1)), (1, .int x1), (2, .int x2)]) d_Fo_isOfferedTaken_48 rfl (by rw [ex3_6]; rfl) (by decide) rfl ?_
      refine r_goto C (tgt := 26) d_Fo_isOfferedTaken_51 (by decide) ?_
      refine r_sub [1, 2, 3, 0] (lv' := [(0, .ref (gA X 1)), (1, .int x1), (2, .int x2), (3, .int x3_6)]) rfl ?_
      exact hk26 _ h
    · rw [if_pos hc_5] at h
      refine r_iconst C (v := 1) d_Fo_isOfferedTaken_46 (by decide) ?_
      obtain ⟨hB, h⟩ := ck_some h
      cases h
      exact hR _ _ hB d_Fo_isOfferedTaken_47
set_option maxHeartbeats 4000000 in
set_option maxRecDepth 100000 in
theorem u_Fo_isOfferedTaken_26 {X : gX} {r : Int32} {σ : gS} (C : gC X b_Fo_isOfferedTaken_c R_Fo 4 0 0) (hR : ∀ pc lv, isB r = true → decode b_Fo_isOfferedTaken_c pc = .ok (.ireturn, 1) → G X pc lv [.int r] σ) {k2 : Int32 × Int32 → Option Int32}  (hk2 : ∀ x, k2 x = some r → G X 2 [(0, .ref (gA X 1)), (1, .int x.1), (2, .int x.2)] [] σ) (x : Int32 × Int32 × Int32) (h : l_Fo_isOfferedTaken_26 σ k2 x = some r) : G X 26 [(0, .ref (gA X 1)), (1, .int x.1), (2, .int x.2.1), (3, .int x.2.2)] [] σ :=
  lpF_ind (P := fun x => G X 26 [(0, .ref (gA X 1)), (1, .int x.1), (2, .int x.2.1), (3, .int x.2.2)] [] σ) (fun k hk x h => t_Fo_isOfferedTaken_26 C hR hk2 hk x.1 x.2.1 x.2.2 h) gF x h
set_option maxHeartbeats 4000000 in
set_option maxRecDepth 100000 in
theorem t_Fo_isOfferedTaken_2 {X : gX} {r : Int32} {σ : gS} (C : gC X b_Fo_isOfferedTaken_c R_Fo 4 0 0) (hR : ∀ pc lv, isB r = true → decode b_Fo_isOfferedTaken_c pc = .ok (.ireturn, 1) → G X pc lv [.int r] σ) {k2 : Int32 × Int32 → Option Int32}  (hk2 : ∀ x, k2 x = some r → G X 2 [(0, .ref (gA X 1)), (1, .int x.1), (2, .int x.2)] [] σ) (x1 : Int32) (x2 : Int32) (h : b_Fo_isOfferedTaken_2 σ k2 x1 x2 = some r) : G X 2 [(0, .ref (gA X 1)), (1, .int x1), (2, .int x2)] [] σ := by
  unfold b_Fo_isOfferedTaken_2 at h
  refine r_iload_n C 2 d_Fo_isOfferedTaken_2 rfl rfl ?_
  refine r_iload_n C 1 d_Fo_isOfferedTaken_3 rfl rfl ?_
  refine r_icmp_ge C (tgt := 60) d_Fo_isOfferedTaken_4 (by decide) (fun hc_1 => ?_) (fun hc_1 => ?_)
  · rw [if_pos hc_1] at h
    refine r_iconst C (v := 0) d_Fo_isOfferedTaken_60 (by decide) ?_
    obtain ⟨hB, h⟩ := ck_some h
    cases h
    exact hR _ _ hB d_Fo_isOfferedTaken_61
  · rw [if_neg hc_1] at h
    refine r_aload_n C 0 d_Fo_isOfferedTaken_7 rfl rfl ?_
    refine q_Fo_28 C d_Fo_isOfferedTaken_8 ?_
    refine r_aload_n C 0 d_Fo_isOfferedTaken_11 rfl rfl ?_
    refine q_Fo_62 C d_Fo_isOfferedTaken_12 ?_
    refine r_iload_n C 2 d_Fo_isOfferedTaken_15 rfl rfl ?_
    obtain ⟨hi_2, h⟩ := ck_some h
    refine r_iald C hi_2 d_Fo_isOfferedTaken_16 ?_
    obtain ⟨hi_3, h⟩ := ck_some h
    refine r_iald C hi_3 d_Fo_isOfferedTaken_17 ?_
    refine r_iconst C (v := (-1)) d_Fo_isOfferedTaken_18 (by decide) ?_
    refine r_icmp_eq C (tgt := 24) d_Fo_isOfferedTaken_19 (by decide) (fun hc_4 => ?_) (fun hc_4 => ?_)
    · rw [if_pos hc_4] at h
      refine r_iconst C (v := 0) d_Fo_isOfferedTaken_24 (by decide) ?_
      refine r_istore_n C (lv' := [(3, .int 0), (0, .ref (gA X 1)), (1, .int x1), (2, .int x2)]) d_Fo_isOfferedTaken_25 rfl (by decide) rfl rfl ?_
      refine r_sub [1, 2, 3, 0] (lv' := [(0, .ref (gA X 1)), (1, .int x1), (2, .int x2), (3, .int 0)]) rfl ?_
      exact u_Fo_isOfferedTaken_26 C hR hk2 (x1, x2, 0) h
    · rw [if_neg hc_4] at h
      refine r_iconst C (v := 1) d_Fo_isOfferedTaken_22 (by decide) ?_
      obtain ⟨hB, h⟩ := ck_some h
      cases h
      exact hR _ _ hB d_Fo_isOfferedTaken_23
set_option maxHeartbeats 4000000 in
set_option maxRecDepth 100000 in
theorem u_Fo_isOfferedTaken_2 {X : gX} {r : Int32} {σ : gS} (C : gC X b_Fo_isOfferedTaken_c R_Fo 4 0 0) (hR : ∀ pc lv, isB r = true → decode b_Fo_isOfferedTaken_c pc = .ok (.ireturn, 1) → G X pc lv [.int r] σ)  (x : Int32 × Int32) (h : l_Fo_isOfferedTaken_2 σ x = some r) : G X 2 [(0, .ref (gA X 1)), (1, .int x.1), (2, .int x.2)] [] σ :=
  lpF_ind (P := fun x => G X 2 [(0, .ref (gA X 1)), (1, .int x.1), (2, .int x.2)] [] σ) (fun k hk x h => t_Fo_isOfferedTaken_2 C hR hk x.1 x.2 h) gF x h
set_option maxHeartbeats 4000000 in
set_option maxRecDepth 100000 in
theorem t_Fo_isOfferedTaken_0 {X : gX} {r : Int32} {σ : gS} (C : gC X b_Fo_isOfferedTaken_c R_Fo 4 0 0) (hR : ∀ pc lv, isB r = true → decode b_Fo_isOfferedTaken_c pc = .ok (.ireturn, 1) → G X pc lv [.int r] σ) (x1 : Int32) (h : b_Fo_isOfferedTaken_0 σ x1 = some r) : G X 0 [(0, .ref (gA X 1)), (1, .int x1)] [] σ := by
  unfold b_Fo_isOfferedTaken_0 at h
  refine r_iconst C (v := 0) d_Fo_isOfferedTaken_0 (by decide) ?_
  refine r_istore_n C (lv' := [(2, .int 0), (0, .ref (gA X 1)), (1, .int x1)]) d_Fo_isOfferedTaken_1 rfl (by decide) rfl rfl ?_
  refine r_sub [1, 2, 0] (lv' := [(0, .ref (gA X 1)), (1, .int x1), (2, .int 0)]) rfl ?_
  exact u_Fo_isOfferedTaken_2 C hR  (x1, 0) h
set_option maxHeartbeats 4000000 in
set_option maxRecDepth 100000 in
theorem c_Fo_isOfferedTaken (l : Launch) (σ : gS) (x1 : Int32) {r : Int32} (h : f_Fo_isOfferedTaken σ x1 = some r) : gMet l y_Fo_isOfferedTaken b_Fo_isOfferedTaken_c 4 (some .boolean) 0 0 (fun a => [.ref (a 1), .int x1]) σ (some (.int r)) σ := by
  refine gMet_z (by decide +kernel) (fun a => Nat.le_of_ble_eq_true rfl) (fun X _ C hR => ?_)
  refine r_sub [0, 1] (lv' := [(0, .ref (gA X 1)), (1, .int x1)]) rfl ?_
  exact t_Fo_isOfferedTaken_0 C hR x1 h
theorem d_Ma_max_0 : decode b_Ma_max_c 0 = .ok (.iload_n 0, 1) := by decide +kernel
theorem d_Ma_max_1 : decode b_Ma_max_c 1 = .ok (.iload_n 1, 1) := by decide +kernel
theorem d_Ma_max_2 : decode b_Ma_max_c 2 = .ok (.if_icmp .lt 7, 3) := by decide +kernel
theorem d_Ma_max_5 : decode b_Ma_max_c 5 = .ok (.iload_n 0, 1) := by decide +kernel
theorem d_Ma_max_6 : decode b_Ma_max_c 6 = .ok (.goto 4, 3) := by decide +kernel
theorem d_Ma_max_9 : decode b_Ma_max_c 9 = .ok (.iload_n 1, 1) := by decide +kernel
theorem d_Ma_max_10 : decode b_Ma_max_c 10 = .ok (.ireturn, 1) := by decide +kernel
/-! java/lang/Math.max(II)I -/
set_option maxHeartbeats 4000000 in
set_option maxRecDepth 100000 in
theorem t_Ma_max_0 {X : gX} {r : Int32} {σ : gS} (C : gC X b_Ma_max_c R_Ma 2 0 0) (hR : ∀ pc lv, decode b_Ma_max_c pc = .ok (.ireturn, 1) → G X pc lv [.int r] σ) (x0 : Int32) (x1 : Int32) (h : b_Ma_max_0 x0 x1 = some r) : G X 0 [(0, .int x0), (1, .int x1)] [] σ := by
  unfold b_Ma_max_0 at h
  refine r_iload_n C 0 d_Ma_max_0 rfl rfl ?_
  refine r_iload_n C 1 d_Ma_max_1 rfl rfl ?_
  refine r_icmp_lt C (tgt := 9) d_Ma_max_2 (by decide) (fun hc_1 => ?_) (fun hc_1 => ?_)
  · rw [if_pos hc_1] at h
    refine r_iload_n C 1 d_Ma_max_9 rfl rfl ?_
    cases h
    exact hR _ _ d_Ma_max_10
  · rw [if_neg hc_1] at h
    refine r_iload_n C 0 d_Ma_max_5 rfl rfl ?_
    refine r_goto C (tgt := 10) d_Ma_max_6 (by decide) ?_
    cases h
    exact hR _ _ d_Ma_max_10
set_option maxHeartbeats 4000000 in
set_option maxRecDepth 100000 in
theorem c_Ma_max (l : Launch) (σ : gS) (x0 : Int32) (x1 : Int32) {r : Int32} (h : f_Ma_max x0 x1 = some r) : gMet l y_Ma_max b_Ma_max_c 2 (some .int) 0 0 (fun a => [.int x0, .int x1]) σ (some (.int r)) σ := by
  refine gMet_i (by decide +kernel) (fun a => Nat.le_of_ble_eq_true rfl) (fun X _ C hR => ?_)
  refine r_sub [0, 1] (lv' := [(0, .int x0), (1, .int x1)]) rfl ?_
  exact t_Ma_max_0 C hR x0 x1 h
theorem d_Fo_greatestOffered_0 : decode b_Fo_greatestOffered_c 0 = .ok (.iconst 0, 1) := by decide +kernel
theorem d_Fo_greatestOffered_1 : decode b_Fo_greatestOffered_c 1 = .ok (.istore_n 3, 1) := by decide +kernel
theorem d_Fo_greatestOffered_2 : decode b_Fo_greatestOffered_c 2 = .ok (.iconst 0, 1) := by decide +kernel
theorem d_Fo_greatestOffered_3 : decode b_Fo_greatestOffered_c 3 = .ok (.istore 4, 2) := by decide +kernel
theorem d_Fo_greatestOffered_5 : decode b_Fo_greatestOffered_c 5 = .ok (.iload 4, 2) := by decide +kernel
theorem d_Fo_greatestOffered_7 : decode b_Fo_greatestOffered_c 7 = .ok (.iload_n 2, 1) := by decide +kernel
theorem d_Fo_greatestOffered_8 : decode b_Fo_greatestOffered_c 8 = .ok (.if_icmp .ge 23, 3) := by decide +kernel
theorem d_Fo_greatestOffered_11 : decode b_Fo_greatestOffered_c 11 = .ok (.iload_n 3, 1) := by decide +kernel
theorem d_Fo_greatestOffered_12 : decode b_Fo_greatestOffered_c 12 = .ok (.aload_n 1, 1) := by decide +kernel
theorem d_Fo_greatestOffered_13 : decode b_Fo_greatestOffered_c 13 = .ok (.aload_n 0, 1) := by decide +kernel
theorem d_Fo_greatestOffered_14 : decode b_Fo_greatestOffered_c 14 = .ok (.getfield 62, 3) := by decide +kernel
theorem d_Fo_greatestOffered_17 : decode b_Fo_greatestOffered_c 17 = .ok (.iload 4, 2) := by decide +kernel
theorem d_Fo_greatestOffered_19 : decode b_Fo_greatestOffered_c 19 = .ok (.iaload, 1) := by decide +kernel
theorem d_Fo_greatestOffered_20 : decode b_Fo_greatestOffered_c 20 = .ok (.iaload, 1) := by decide +kernel
theorem d_Fo_greatestOffered_21 : decode b_Fo_greatestOffered_c 21 = .ok (.invokestatic 94, 3) := by decide +kernel
theorem d_Fo_greatestOffered_24 : decode b_Fo_greatestOffered_c 24 = .ok (.istore_n 3, 1) := by decide +kernel
theorem d_Fo_greatestOffered_25 : decode b_Fo_greatestOffered_c 25 = .ok (.iinc 4 1, 3) := by decide +kernel
theorem d_Fo_greatestOffered_28 : decode b_Fo_greatestOffered_c 28 = .ok (.goto (-23), 3) := by decide +kernel
theorem d_Fo_greatestOffered_31 : decode b_Fo_greatestOffered_c 31 = .ok (.iload_n 3, 1) := by decide +kernel
theorem d_Fo_greatestOffered_32 : decode b_Fo_greatestOffered_c 32 = .ok (.ireturn, 1) := by decide +kernel
/-! GameRows$Forest.greatestOffered([II)I -/
set_option maxHeartbeats 4000000 in
set_option maxRecDepth 100000 in
theorem t_Fo_greatestOffered_5 {X : gX} {r : Int32} {σ : gS} (C : gC X b_Fo_greatestOffered_c R_Fo 5 1 21) (hR : ∀ pc lv, decode b_Fo_greatestOffered_c pc = .ok (.ireturn, 1) → G X pc lv [.int r] σ) {k5 : Nat × Int32 × Int32 × Int32 → Option Int32}  (hk5 : ∀ x, k5 x = some r → G X 5 [(0, .ref (gA X 1)), (1, .ref (gA X x.1)), (2, .int x.2.1), (3, .int x.2.2.1), (4, .int x.2.2.2)] [] σ) (x1 : Nat) (x2 : Int32) (x3 : Int32) (x4 : Int32) (h : b_Fo_greatestOffered_5 σ k5 x1 x2 x3 x4 = some r) : G X 5 [(0, .ref (gA X 1)), (1, .ref (gA X x1)), (2, .int x2), (3, .int x3), (4, .int x4)] [] σ := by
  unfold b_Fo_greatestOffered_5 at h
  refine r_iload C 4 d_Fo_greatestOffered_5 rfl ?_
  refine r_iload_n C 2 d_Fo_greatestOffered_7 rfl rfl ?_
  refine r_icmp_ge C (tgt := 31) d_Fo_greatestOffered_8 (by decide) (fun hc_1 => ?_) (fun hc_1 => ?_)
  · rw [if_pos hc_1] at h
    refine r_iload_n C 3 d_Fo_greatestOffered_31 rfl rfl ?_
    cases h
    exact hR _ _ d_Fo_greatestOffered_32
  · rw [if_neg hc_1] at h
    refine r_iload_n C 3 d_Fo_greatestOffered_11 rfl rfl ?_
    refine r_aload_n C 1 d_Fo_greatestOffered_12 rfl rfl ?_
    refine r_aload_n C 0 d_Fo_greatestOffered_13 rfl rfl ?_
    refine q_Fo_62 C d_Fo_greatestOffered_14 ?_
    refine r_iload C 4 d_Fo_greatestOffered_17 rfl ?_
    obtain ⟨hi_2, h⟩ := ck_some h
    refine r_iald C hi_2 d_Fo_greatestOffered_19 ?_
    obtain ⟨hi_3, h⟩ := ck_some h
    refine r_iald C hi_3 d_Fo_greatestOffered_20 ?_
    obtain ⟨r_4, er_4, h⟩ := bind_some h
    refine r_callS C (As := [.int x3, .int (gI σ x1 (gI σ 15 x4.toNatClampNeg).toNatClampNeg)]) (rest := []) (st1 := [.int r_4]) (c_Ma_max X.1.2.1 σ x3 (gI σ x1 (gI σ 15 x4.toNatClampNeg).toNatClampNeg) er_4) k_Ma_max m_46 rfl rfl rfl (Nat.le_of_ble_eq_true rfl) ⟨Nat.le_of_ble_eq_true rfl, Nat.le_of_ble_eq_true rfl⟩ d_Fo_greatestOffered_21 rfl ?_
    refine r_istore_n C (lv' := [(3, .int r_4), (0, .ref (gA X 1)), (1, .ref (gA X x1)), (2, .int x2), (4, .int x4)]) d_Fo_greatestOffered_24 rfl (by decide) rfl rfl ?_
    obtain ⟨x4_5, ex4_5, h⟩ := bnd_some h
    refine r_iinc C 4 (lv' := [(4, .int x4_5), (3, .int r_4), (0, .ref (gA X 1)), (1, .ref (gA X x1)), (2, .int x2)]) d_Fo_greatestOffered_25 rfl (by rw [ex4_5]; rfl) (by decide) rfl ?_
    refine r_goto C (tgt := 5) d_Fo_greatestOffered_28 (by decide) ?_
    refine r_sub [2, 3, 4, 1, 0] (lv' := [(0, .ref (gA X 1)), (1, .ref (gA X x1)), (2, .int x2), (3, .int r_4), (4, .int x4_5)]) rfl ?_
    exact hk5 _ h
set_option maxHeartbeats 4000000 in
set_option maxRecDepth 100000 in
theorem u_Fo_greatestOffered_5 {X : gX} {r : Int32} {σ : gS} (C : gC X b_Fo_greatestOffered_c R_Fo 5 1 21) (hR : ∀ pc lv, decode b_Fo_greatestOffered_c pc = .ok (.ireturn, 1) → G X pc lv [.int r] σ)  (x : Nat × Int32 × Int32 × Int32) (h : l_Fo_greatestOffered_5 σ x = some r) : G X 5 [(0, .ref (gA X 1)), (1, .ref (gA X x.1)), (2, .int x.2.1), (3, .int x.2.2.1), (4, .int x.2.2.2)] [] σ :=
  lpF_ind (P := fun x => G X 5 [(0, .ref (gA X 1)), (1, .ref (gA X x.1)), (2, .int x.2.1), (3, .int x.2.2.1), (4, .int x.2.2.2)] [] σ) (fun k hk x h => t_Fo_greatestOffered_5 C hR hk x.1 x.2.1 x.2.2.1 x.2.2.2 h) gF x h
set_option maxHeartbeats 4000000 in
set_option maxRecDepth 100000 in
theorem t_Fo_greatestOffered_0 {X : gX} {r : Int32} {σ : gS} (C : gC X b_Fo_greatestOffered_c R_Fo 5 1 21) (hR : ∀ pc lv, decode b_Fo_greatestOffered_c pc = .ok (.ireturn, 1) → G X pc lv [.int r] σ) (x1 : Nat) (x2 : Int32) (h : b_Fo_greatestOffered_0 σ x1 x2 = some r) : G X 0 [(0, .ref (gA X 1)), (1, .ref (gA X x1)), (2, .int x2)] [] σ := by
  unfold b_Fo_greatestOffered_0 at h
  refine r_iconst C (v := 0) d_Fo_greatestOffered_0 (by decide) ?_
  refine r_istore_n C (lv' := [(3, .int 0), (0, .ref (gA X 1)), (1, .ref (gA X x1)), (2, .int x2)]) d_Fo_greatestOffered_1 rfl (by decide) rfl rfl ?_
  refine r_iconst C (v := 0) d_Fo_greatestOffered_2 (by decide) ?_
  refine r_istore C (lv' := [(4, .int 0), (3, .int 0), (0, .ref (gA X 1)), (1, .ref (gA X x1)), (2, .int x2)]) d_Fo_greatestOffered_3 (by decide) rfl rfl ?_
  refine r_sub [2, 3, 4, 1, 0] (lv' := [(0, .ref (gA X 1)), (1, .ref (gA X x1)), (2, .int x2), (3, .int 0), (4, .int 0)]) rfl ?_
  exact u_Fo_greatestOffered_5 C hR  (x1, x2, 0, 0) h
set_option maxHeartbeats 4000000 in
set_option maxRecDepth 100000 in
theorem c_Fo_greatestOffered (l : Launch) (σ : gS) (x1 : Nat) (x2 : Int32) {r : Int32} (h : f_Fo_greatestOffered σ x1 x2 = some r) : gMet l y_Fo_greatestOffered b_Fo_greatestOffered_c 5 (some .int) 1 21 (fun a => [.ref (a 1), .ref (a x1), .int x2]) σ (some (.int r)) σ := by
  refine gMet_i (by decide +kernel) (fun a => Nat.le_of_ble_eq_true rfl) (fun X _ C hR => ?_)
  refine r_sub [0, 1, 2] (lv' := [(0, .ref (gA X 1)), (1, .ref (gA X x1)), (2, .int x2)]) rfl ?_
  exact t_Fo_greatestOffered_0 C hR x1 x2 h
theorem d_Fo_setsOffered_0 : decode b_Fo_setsOffered_c 0 = .ok (.iconst 0, 1) := by decide +kernel
theorem d_Fo_setsOffered_1 : decode b_Fo_setsOffered_c 1 = .ok (.istore_n 2, 1) := by decide +kernel
theorem d_Fo_setsOffered_2 : decode b_Fo_setsOffered_c 2 = .ok (.iconst 0, 1) := by decide +kernel
theorem d_Fo_setsOffered_3 : decode b_Fo_setsOffered_c 3 = .ok (.istore_n 3, 1) := by decide +kernel
theorem d_Fo_setsOffered_4 : decode b_Fo_setsOffered_c 4 = .ok (.iload_n 3, 1) := by decide +kernel
theorem d_Fo_setsOffered_5 : decode b_Fo_setsOffered_c 5 = .ok (.iload_n 1, 1) := by decide +kernel
theorem d_Fo_setsOffered_6 : decode b_Fo_setsOffered_c 6 = .ok (.if_icmp .ge 23, 3) := by decide +kernel
theorem d_Fo_setsOffered_9 : decode b_Fo_setsOffered_c 9 = .ok (.iload_n 2, 1) := by decide +kernel
theorem d_Fo_setsOffered_10 : decode b_Fo_setsOffered_c 10 = .ok (.aload_n 0, 1) := by decide +kernel
theorem d_Fo_setsOffered_11 : decode b_Fo_setsOffered_c 11 = .ok (.getfield 53, 3) := by decide +kernel
theorem d_Fo_setsOffered_14 : decode b_Fo_setsOffered_c 14 = .ok (.aload_n 0, 1) := by decide +kernel
theorem d_Fo_setsOffered_15 : decode b_Fo_setsOffered_c 15 = .ok (.getfield 62, 3) := by decide +kernel
theorem d_Fo_setsOffered_18 : decode b_Fo_setsOffered_c 18 = .ok (.iload_n 3, 1) := by decide +kernel
theorem d_Fo_setsOffered_19 : decode b_Fo_setsOffered_c 19 = .ok (.iaload, 1) := by decide +kernel
theorem d_Fo_setsOffered_20 : decode b_Fo_setsOffered_c 20 = .ok (.iaload, 1) := by decide +kernel
theorem d_Fo_setsOffered_21 : decode b_Fo_setsOffered_c 21 = .ok (.ior, 1) := by decide +kernel
theorem d_Fo_setsOffered_22 : decode b_Fo_setsOffered_c 22 = .ok (.istore_n 2, 1) := by decide +kernel
theorem d_Fo_setsOffered_23 : decode b_Fo_setsOffered_c 23 = .ok (.iinc 3 1, 3) := by decide +kernel
theorem d_Fo_setsOffered_26 : decode b_Fo_setsOffered_c 26 = .ok (.goto (-22), 3) := by decide +kernel
theorem d_Fo_setsOffered_29 : decode b_Fo_setsOffered_c 29 = .ok (.iload_n 2, 1) := by decide +kernel
theorem d_Fo_setsOffered_30 : decode b_Fo_setsOffered_c 30 = .ok (.ireturn, 1) := by decide +kernel
/-! GameRows$Forest.setsOffered(I)I -/
set_option maxHeartbeats 4000000 in
set_option maxRecDepth 100000 in
theorem t_Fo_setsOffered_4 {X : gX} {r : Int32} {σ : gS} (C : gC X b_Fo_setsOffered_c R_Fo 4 0 0) (hR : ∀ pc lv, decode b_Fo_setsOffered_c pc = .ok (.ireturn, 1) → G X pc lv [.int r] σ) {k4 : Int32 × Int32 × Int32 → Option Int32}  (hk4 : ∀ x, k4 x = some r → G X 4 [(0, .ref (gA X 1)), (1, .int x.1), (2, .int x.2.1), (3, .int x.2.2)] [] σ) (x1 : Int32) (x2 : Int32) (x3 : Int32) (h : b_Fo_setsOffered_4 σ k4 x1 x2 x3 = some r) : G X 4 [(0, .ref (gA X 1)), (1, .int x1), (2, .int x2), (3, .int x3)] [] σ := by
  unfold b_Fo_setsOffered_4 at h
  refine r_iload_n C 3 d_Fo_setsOffered_4 rfl rfl ?_
  refine r_iload_n C 1 d_Fo_setsOffered_5 rfl rfl ?_
  refine r_icmp_ge C (tgt := 29) d_Fo_setsOffered_6 (by decide) (fun hc_1 => ?_) (fun hc_1 => ?_)
  · rw [if_pos hc_1] at h
    refine r_iload_n C 2 d_Fo_setsOffered_29 rfl rfl ?_
    cases h
    exact hR _ _ d_Fo_setsOffered_30
  · rw [if_neg hc_1] at h
    refine r_iload_n C 2 d_Fo_setsOffered_9 rfl rfl ?_
    refine r_aload_n C 0 d_Fo_setsOffered_10 rfl rfl ?_
    refine q_Fo_53 C d_Fo_setsOffered_11 ?_
    refine r_aload_n C 0 d_Fo_setsOffered_14 rfl rfl ?_
    refine q_Fo_62 C d_Fo_setsOffered_15 ?_
    refine r_iload_n C 3 d_Fo_setsOffered_18 rfl rfl ?_
    obtain ⟨hi_2, h⟩ := ck_some h
    refine r_iald C hi_2 d_Fo_setsOffered_19 ?_
    obtain ⟨hi_3, h⟩ := ck_some h
    refine r_iald C hi_3 d_Fo_setsOffered_20 ?_
    refine r_ior C d_Fo_setsOffered_21 ?_
    obtain ⟨x2_4, ex2_4, h⟩ := bnd_some h
    refine r_istore_n C (lv' := [(2, .int x2_4), (0, .ref (gA X 1)), (1, .int x1), (3, .int x3)]) d_Fo_setsOffered_22 rfl (by decide) ex2_4 rfl ?_
    obtain ⟨x3_5, ex3_5, h⟩ := bnd_some h
    refine r_iinc C 3 (lv' := [(3, .int x3_5), (2, .int x2_4), (0, .ref (gA X 1)), (1, .int x1)]) d_Fo_setsOffered_23 rfl (by rw [ex3_5]; rfl) (by decide) rfl ?_
    refine r_goto C (tgt := 4) d_Fo_setsOffered_26 (by decide) ?_
    refine r_sub [2, 3, 1, 0] (lv' := [(0, .ref (gA X 1)), (1, .int x1), (2, .int x2_4), (3, .int x3_5)]) rfl ?_
    exact hk4 _ h
set_option maxHeartbeats 4000000 in
set_option maxRecDepth 100000 in
theorem u_Fo_setsOffered_4 {X : gX} {r : Int32} {σ : gS} (C : gC X b_Fo_setsOffered_c R_Fo 4 0 0) (hR : ∀ pc lv, decode b_Fo_setsOffered_c pc = .ok (.ireturn, 1) → G X pc lv [.int r] σ)  (x : Int32 × Int32 × Int32) (h : l_Fo_setsOffered_4 σ x = some r) : G X 4 [(0, .ref (gA X 1)), (1, .int x.1), (2, .int x.2.1), (3, .int x.2.2)] [] σ :=
  lpF_ind (P := fun x => G X 4 [(0, .ref (gA X 1)), (1, .int x.1), (2, .int x.2.1), (3, .int x.2.2)] [] σ) (fun k hk x h => t_Fo_setsOffered_4 C hR hk x.1 x.2.1 x.2.2 h) gF x h
set_option maxHeartbeats 4000000 in
set_option maxRecDepth 100000 in
theorem t_Fo_setsOffered_0 {X : gX} {r : Int32} {σ : gS} (C : gC X b_Fo_setsOffered_c R_Fo 4 0 0) (hR : ∀ pc lv, decode b_Fo_setsOffered_c pc = .ok (.ireturn, 1) → G X pc lv [.int r] σ) (x1 : Int32) (h : b_Fo_setsOffered_0 σ x1 = some r) : G X 0 [(0, .ref (gA X 1)), (1, .int x1)] [] σ := by
  unfold b_Fo_setsOffered_0 at h
  refine r_iconst C (v := 0) d_Fo_setsOffered_0 (by decide) ?_
  refine r_istore_n C (lv' := [(2, .int 0), (0, .ref (gA X 1)), (1, .int x1)]) d_Fo_setsOffered_1 rfl (by decide) rfl rfl ?_
  refine r_iconst C (v := 0) d_Fo_setsOffered_2 (by decide) ?_
  refine r_istore_n C (lv' := [(3, .int 0), (2, .int 0), (0, .ref (gA X 1)), (1, .int x1)]) d_Fo_setsOffered_3 rfl (by decide) rfl rfl ?_
  refine r_sub [2, 3, 1, 0] (lv' := [(0, .ref (gA X 1)), (1, .int x1), (2, .int 0), (3, .int 0)]) rfl ?_
  exact u_Fo_setsOffered_4 C hR  (x1, 0, 0) h
set_option maxHeartbeats 4000000 in
set_option maxRecDepth 100000 in
theorem c_Fo_setsOffered (l : Launch) (σ : gS) (x1 : Int32) {r : Int32} (h : f_Fo_setsOffered σ x1 = some r) : gMet l y_Fo_setsOffered b_Fo_setsOffered_c 4 (some .int) 0 0 (fun a => [.ref (a 1), .int x1]) σ (some (.int r)) σ := by
  refine gMet_i (by decide +kernel) (fun a => Nat.le_of_ble_eq_true rfl) (fun X _ C hR => ?_)
  refine r_sub [0, 1] (lv' := [(0, .ref (gA X 1)), (1, .int x1)]) rfl ?_
  exact t_Fo_setsOffered_0 C hR x1 h
theorem d_Ga_hasBit_0 : decode b_Ga_hasBit_c 0 = .ok (.lload_n 0, 1) := by decide +kernel
theorem d_Ga_hasBit_1 : decode b_Ga_hasBit_c 1 = .ok (.iload_n 2, 1) := by decide +kernel
theorem d_Ga_hasBit_2 : decode b_Ga_hasBit_c 2 = .ok (.lushr, 1) := by decide +kernel
theorem d_Ga_hasBit_3 : decode b_Ga_hasBit_c 3 = .ok (.lconst 1, 1) := by decide +kernel
theorem d_Ga_hasBit_4 : decode b_Ga_hasBit_c 4 = .ok (.land, 1) := by decide +kernel
theorem d_Ga_hasBit_5 : decode b_Ga_hasBit_c 5 = .ok (.lconst 0, 1) := by decide +kernel
theorem d_Ga_hasBit_6 : decode b_Ga_hasBit_c 6 = .ok (.lcmp, 1) := by decide +kernel
theorem d_Ga_hasBit_7 : decode b_Ga_hasBit_c 7 = .ok (.ifCond .eq 7, 3) := by decide +kernel
theorem d_Ga_hasBit_10 : decode b_Ga_hasBit_c 10 = .ok (.iconst 1, 1) := by decide +kernel
theorem d_Ga_hasBit_11 : decode b_Ga_hasBit_c 11 = .ok (.goto 4, 3) := by decide +kernel
theorem d_Ga_hasBit_14 : decode b_Ga_hasBit_c 14 = .ok (.iconst 0, 1) := by decide +kernel
theorem d_Ga_hasBit_15 : decode b_Ga_hasBit_c 15 = .ok (.ireturn, 1) := by decide +kernel
/-! GameRows.hasBit(JI)Z -/
set_option maxHeartbeats 4000000 in
set_option maxRecDepth 100000 in
theorem t_Ga_hasBit_0 {X : gX} {r : Int32} {σ : gS} (C : gC X b_Ga_hasBit_c R_Ga 3 0 0) (hR : ∀ pc lv, isB r = true → decode b_Ga_hasBit_c pc = .ok (.ireturn, 1) → G X pc lv [.int r] σ) (x0 : Int64) (x2 : Int32) (h : b_Ga_hasBit_0 x0 x2 = some r) : G X 0 [(0, .long x0), (2, .int x2)] [] σ := by
  unfold b_Ga_hasBit_0 at h
  refine r_lload_n C 0 d_Ga_hasBit_0 rfl rfl ?_
  refine r_iload_n C 1 d_Ga_hasBit_1 rfl rfl ?_
  refine r_lushr C d_Ga_hasBit_2 ?_
  refine r_lconst C (v := 1) d_Ga_hasBit_3 (by decide) ?_
  refine r_land C d_Ga_hasBit_4 ?_
  refine r_lconst C (v := 0) d_Ga_hasBit_5 (by decide) ?_
  refine r_lcmp C d_Ga_hasBit_6 ?_
  refine r_if_eq C (tgt := 14) d_Ga_hasBit_7 (by decide) (fun hc_1 => ?_) (fun hc_1 => ?_)
  · rw [if_pos hc_1] at h
    refine r_iconst C (v := 0) d_Ga_hasBit_14 (by decide) ?_
    obtain ⟨hB, h⟩ := ck_some h
    cases h
    exact hR _ _ hB d_Ga_hasBit_15
  · rw [if_neg hc_1] at h
    refine r_iconst C (v := 1) d_Ga_hasBit_10 (by decide) ?_
    refine r_goto C (tgt := 15) d_Ga_hasBit_11 (by decide) ?_
    obtain ⟨hB, h⟩ := ck_some h
    cases h
    exact hR _ _ hB d_Ga_hasBit_15
set_option maxHeartbeats 4000000 in
set_option maxRecDepth 100000 in
theorem c_Ga_hasBit (l : Launch) (σ : gS) (x0 : Int64) (x2 : Int32) {r : Int32} (h : f_Ga_hasBit x0 x2 = some r) : gMet l y_Ga_hasBit b_Ga_hasBit_c 3 (some .boolean) 0 0 (fun a => [.long x0, .int x2]) σ (some (.int r)) σ := by
  refine gMet_z (by decide +kernel) (fun a => Nat.le_of_ble_eq_true rfl) (fun X _ C hR => ?_)
  refine r_sub [0, 1] (lv' := [(0, .long x0), (2, .int x2)]) rfl ?_
  exact t_Ga_hasBit_0 C hR x0 x2 h
theorem d_Fo_plansWith_0 : decode b_Fo_plansWith_c 0 = .ok (.iconst 1, 1) := by decide +kernel
theorem d_Fo_plansWith_1 : decode b_Fo_plansWith_c 1 = .ok (.istore_n 3, 1) := by decide +kernel
theorem d_Fo_plansWith_2 : decode b_Fo_plansWith_c 2 = .ok (.iconst 0, 1) := by decide +kernel
theorem d_Fo_plansWith_3 : decode b_Fo_plansWith_c 3 = .ok (.istore 4, 2) := by decide +kernel
theorem d_Fo_plansWith_5 : decode b_Fo_plansWith_c 5 = .ok (.iload 4, 2) := by decide +kernel
theorem d_Fo_plansWith_7 : decode b_Fo_plansWith_c 7 = .ok (.aload_n 0, 1) := by decide +kernel
theorem d_Fo_plansWith_8 : decode b_Fo_plansWith_c 8 = .ok (.getfield 15, 3) := by decide +kernel
theorem d_Fo_plansWith_11 : decode b_Fo_plansWith_c 11 = .ok (.if_icmp .ge 40, 3) := by decide +kernel
theorem d_Fo_plansWith_14 : decode b_Fo_plansWith_c 14 = .ok (.aload_n 0, 1) := by decide +kernel
theorem d_Fo_plansWith_15 : decode b_Fo_plansWith_c 15 = .ok (.getfield 56, 3) := by decide +kernel
theorem d_Fo_plansWith_18 : decode b_Fo_plansWith_c 18 = .ok (.iload 4, 2) := by decide +kernel
theorem d_Fo_plansWith_20 : decode b_Fo_plansWith_c 20 = .ok (.iaload, 1) := by decide +kernel
theorem d_Fo_plansWith_21 : decode b_Fo_plansWith_c 21 = .ok (.iload_n 1, 1) := by decide +kernel
theorem d_Fo_plansWith_22 : decode b_Fo_plansWith_c 22 = .ok (.if_icmp .ne 23, 3) := by decide +kernel
theorem d_Fo_plansWith_25 : decode b_Fo_plansWith_c 25 = .ok (.iload_n 2, 1) := by decide +kernel
theorem d_Fo_plansWith_26 : decode b_Fo_plansWith_c 26 = .ok (.i2l, 1) := by decide +kernel
theorem d_Fo_plansWith_27 : decode b_Fo_plansWith_c 27 = .ok (.iload 4, 2) := by decide +kernel
theorem d_Fo_plansWith_29 : decode b_Fo_plansWith_c 29 = .ok (.invokestatic 106, 3) := by decide +kernel
theorem d_Fo_plansWith_32 : decode b_Fo_plansWith_c 32 = .ok (.ifCond .eq 13, 3) := by decide +kernel
theorem d_Fo_plansWith_35 : decode b_Fo_plansWith_c 35 = .ok (.iload_n 3, 1) := by decide +kernel
theorem d_Fo_plansWith_36 : decode b_Fo_plansWith_c 36 = .ok (.aload_n 0, 1) := by decide +kernel
theorem d_Fo_plansWith_37 : decode b_Fo_plansWith_c 37 = .ok (.getfield 31, 3) := by decide +kernel
theorem d_Fo_plansWith_40 : decode b_Fo_plansWith_c 40 = .ok (.iload 4, 2) := by decide +kernel
theorem d_Fo_plansWith_42 : decode b_Fo_plansWith_c 42 = .ok (.iaload, 1) := by decide +kernel
theorem d_Fo_plansWith_43 : decode b_Fo_plansWith_c 43 = .ok (.imul, 1) := by decide +kernel
theorem d_Fo_plansWith_44 : decode b_Fo_plansWith_c 44 = .ok (.istore_n 3, 1) := by decide +kernel
theorem d_Fo_plansWith_45 : decode b_Fo_plansWith_c 45 = .ok (.iinc 4 1, 3) := by decide +kernel
theorem d_Fo_plansWith_48 : decode b_Fo_plansWith_c 48 = .ok (.goto (-43), 3) := by decide +kernel
theorem d_Fo_plansWith_51 : decode b_Fo_plansWith_c 51 = .ok (.iload_n 3, 1) := by decide +kernel
theorem d_Fo_plansWith_52 : decode b_Fo_plansWith_c 52 = .ok (.ireturn, 1) := by decide +kernel
/-! GameRows$Forest.plansWith(II)I -/
set_option maxHeartbeats 4000000 in
set_option maxRecDepth 100000 in
theorem t_Fo_plansWith_45 {X : gX} {r : Int32} {σ : gS} (C : gC X b_Fo_plansWith_c R_Fo 5 1 22) (hR : ∀ pc lv, decode b_Fo_plansWith_c pc = .ok (.ireturn, 1) → G X pc lv [.int r] σ) {k5 : Int32 × Int32 × Int32 × Int32 → Option Int32}  (hk5 : ∀ x, k5 x = some r → G X 5 [(0, .ref (gA X 1)), (1, .int x.1), (2, .int x.2.1), (3, .int x.2.2.1), (4, .int x.2.2.2)] [] σ) (x1 : Int32) (x2 : Int32) (x3 : Int32) (x4 : Int32) (h : b_Fo_plansWith_45 σ k5 x1 x2 x3 x4 = some r) : G X 45 [(0, .ref (gA X 1)), (1, .int x1), (2, .int x2), (3, .int x3), (4, .int x4)] [] σ := by
  unfold b_Fo_plansWith_45 at h
  obtain ⟨x4_1, ex4_1, h⟩ := bnd_some h
  refine r_iinc C 4 (lv' := [(4, .int x4_1), (0, .ref (gA X 1)), (1, .int x1), (2, .int x2), (3, .int x3)]) d_Fo_plansWith_45 rfl (by rw [ex4_1]; rfl) (by decide) rfl ?_
  refine r_goto C (tgt := 5) d_Fo_plansWith_48 (by decide) ?_
  refine r_sub [1, 2, 3, 4, 0] (lv' := [(0, .ref (gA X 1)), (1, .int x1), (2, .int x2), (3, .int x3), (4, .int x4_1)]) rfl ?_
  exact hk5 _ h
set_option maxHeartbeats 4000000 in
set_option maxRecDepth 100000 in
theorem t_Fo_plansWith_5 {X : gX} {r : Int32} {σ : gS} (C : gC X b_Fo_plansWith_c R_Fo 5 1 22) (hR : ∀ pc lv, decode b_Fo_plansWith_c pc = .ok (.ireturn, 1) → G X pc lv [.int r] σ) {k5 : Int32 × Int32 × Int32 × Int32 → Option Int32}  (hk5 : ∀ x, k5 x = some r → G X 5 [(0, .ref (gA X 1)), (1, .int x.1), (2, .int x.2.1), (3, .int x.2.2.1), (4, .int x.2.2.2)] [] σ) (x1 : Int32) (x2 : Int32) (x3 : Int32) (x4 : Int32) (h : b_Fo_plansWith_5 σ k5 x1 x2 x3 x4 = some r) : G X 5 [(0, .ref (gA X 1)), (1, .int x1), (2, .int x2), (3, .int x3), (4, .int x4)] [] σ := by
  unfold b_Fo_plansWith_5 at h
  refine r_iload C 4 d_Fo_plansWith_5 rfl ?_
  refine r_aload_n C 0 d_Fo_plansWith_7 rfl rfl ?_
  refine q_Fo_15 C d_Fo_plansWith_8 ?_
  refine r_icmp_ge C (tgt := 51) d_Fo_plansWith_11 (by decide) (fun hc_1 => ?_) (fun hc_1 => ?_)
  · rw [if_pos hc_1] at h
    refine r_iload_n C 3 d_Fo_plansWith_51 rfl rfl ?_
    cases h
    exact hR _ _ d_Fo_plansWith_52
  · rw [if_neg hc_1] at h
    refine r_aload_n C 0 d_Fo_plansWith_14 rfl rfl ?_
    refine q_Fo_56 C d_Fo_plansWith_15 ?_
    refine r_iload C 4 d_Fo_plansWith_18 rfl ?_
    obtain ⟨hi_2, h⟩ := ck_some h
    refine r_iald C hi_2 d_Fo_plansWith_20 ?_
    refine r_iload_n C 1 d_Fo_plansWith_21 rfl rfl ?_
    refine r_icmp_ne C (tgt := 45) d_Fo_plansWith_22 (by decide) (fun hc_3 => ?_) (fun hc_3 => ?_)
    · rw [if_neg hc_3] at h
      exact t_Fo_plansWith_45 C hR hk5 x1 x2 x3 x4 h
    · rw [if_pos hc_3] at h
      refine r_iload_n C 2 d_Fo_plansWith_25 rfl rfl ?_
      refine r_i2l C d_Fo_plansWith_26 ?_
      refine r_iload C 4 d_Fo_plansWith_27 rfl ?_
      obtain ⟨r_4, er_4, h⟩ := bind_some h
      refine r_callSN C (As := [.long x2.toInt64, .int x4]) (rest := []) (st1 := [.int r_4]) (c_Ga_hasBit X.1.2.1 σ x2.toInt64 x4 er_4) k_Ga_hasBit n_Fo_106 rfl rfl rfl (Nat.le_of_ble_eq_true rfl) ⟨Nat.le_of_ble_eq_true rfl, Nat.le_of_ble_eq_true rfl⟩ d_Fo_plansWith_29 rfl ?_
      refine r_if_eq C (tgt := 45) d_Fo_plansWith_32 (by decide) (fun hc_5 => ?_) (fun hc_5 => ?_)
      · rw [if_pos hc_5] at h
        exact t_Fo_plansWith_45 C hR hk5 x1 x2 x3 x4 h
      · rw [if_neg hc_5] at h
        refine r_iload_n C 3 d_Fo_plansWith_35 rfl rfl ?_
        refine r_aload_n C 0 d_Fo_plansWith_36 rfl rfl ?_
        refine q_Fo_31 C d_Fo_plansWith_37 ?_
        refine r_iload C 4 d_Fo_plansWith_40 rfl ?_
        obtain ⟨hi_6, h⟩ := ck_some h
        refine r_iald C hi_6 d_Fo_plansWith_42 ?_
        refine r_imul C d_Fo_plansWith_43 ?_
        obtain ⟨x3_7, ex3_7, h⟩ := bnd_some h
        refine r_istore_n C (lv' := [(3, .int x3_7), (0, .ref (gA X 1)), (1, .int x1), (2, .int x2), (4, .int x4)]) d_Fo_plansWith_44 rfl (by decide) ex3_7 rfl ?_
        refine r_sub [1, 2, 3, 0, 4] (lv' := [(0, .ref (gA X 1)), (1, .int x1), (2, .int x2), (3, .int x3_7), (4, .int x4)]) rfl ?_
        exact t_Fo_plansWith_45 C hR hk5 x1 x2 x3_7 x4 h
set_option maxHeartbeats 4000000 in
set_option maxRecDepth 100000 in
theorem u_Fo_plansWith_5 {X : gX} {r : Int32} {σ : gS} (C : gC X b_Fo_plansWith_c R_Fo 5 1 22) (hR : ∀ pc lv, decode b_Fo_plansWith_c pc = .ok (.ireturn, 1) → G X pc lv [.int r] σ)  (x : Int32 × Int32 × Int32 × Int32) (h : l_Fo_plansWith_5 σ x = some r) : G X 5 [(0, .ref (gA X 1)), (1, .int x.1), (2, .int x.2.1), (3, .int x.2.2.1), (4, .int x.2.2.2)] [] σ :=
  lpF_ind (P := fun x => G X 5 [(0, .ref (gA X 1)), (1, .int x.1), (2, .int x.2.1), (3, .int x.2.2.1), (4, .int x.2.2.2)] [] σ) (fun k hk x h => t_Fo_plansWith_5 C hR hk x.1 x.2.1 x.2.2.1 x.2.2.2 h) gF x h
set_option maxHeartbeats 4000000 in
set_option maxRecDepth 100000 in
theorem t_Fo_plansWith_0 {X : gX} {r : Int32} {σ : gS} (C : gC X b_Fo_plansWith_c R_Fo 5 1 22) (hR : ∀ pc lv, decode b_Fo_plansWith_c pc = .ok (.ireturn, 1) → G X pc lv [.int r] σ) (x1 : Int32) (x2 : Int32) (h : b_Fo_plansWith_0 σ x1 x2 = some r) : G X 0 [(0, .ref (gA X 1)), (1, .int x1), (2, .int x2)] [] σ := by
  unfold b_Fo_plansWith_0 at h
  refine r_iconst C (v := 1) d_Fo_plansWith_0 (by decide) ?_
  refine r_istore_n C (lv' := [(3, .int 1), (0, .ref (gA X 1)), (1, .int x1), (2, .int x2)]) d_Fo_plansWith_1 rfl (by decide) rfl rfl ?_
  refine r_iconst C (v := 0) d_Fo_plansWith_2 (by decide) ?_
  refine r_istore C (lv' := [(4, .int 0), (3, .int 1), (0, .ref (gA X 1)), (1, .int x1), (2, .int x2)]) d_Fo_plansWith_3 (by decide) rfl rfl ?_
  refine r_sub [2, 3, 4, 1, 0] (lv' := [(0, .ref (gA X 1)), (1, .int x1), (2, .int x2), (3, .int 1), (4, .int 0)]) rfl ?_
  exact u_Fo_plansWith_5 C hR  (x1, x2, 1, 0) h
set_option maxHeartbeats 4000000 in
set_option maxRecDepth 100000 in
theorem c_Fo_plansWith (l : Launch) (σ : gS) (x1 : Int32) (x2 : Int32) {r : Int32} (h : f_Fo_plansWith σ x1 x2 = some r) : gMet l y_Fo_plansWith b_Fo_plansWith_c 5 (some .int) 1 22 (fun a => [.ref (a 1), .int x1, .int x2]) σ (some (.int r)) σ := by
  refine gMet_i (by decide +kernel) (fun a => Nat.le_of_ble_eq_true rfl) (fun X _ C hR => ?_)
  refine r_sub [0, 1, 2] (lv' := [(0, .ref (gA X 1)), (1, .int x1), (2, .int x2)]) rfl ?_
  exact t_Fo_plansWith_0 C hR x1 x2 h
theorem d_Fo_adoptOffered_0 : decode b_Fo_adoptOffered_c 0 = .ok (.aload_n 0, 1) := by decide +kernel
theorem d_Fo_adoptOffered_1 : decode b_Fo_adoptOffered_c 1 = .ok (.getfield 40, 3) := by decide +kernel
theorem d_Fo_adoptOffered_4 : decode b_Fo_adoptOffered_c 4 = .ok (.iload_n 1, 1) := by decide +kernel
theorem d_Fo_adoptOffered_5 : decode b_Fo_adoptOffered_c 5 = .ok (.iload_n 2, 1) := by decide +kernel
theorem d_Fo_adoptOffered_6 : decode b_Fo_adoptOffered_c 6 = .ok (.iastore, 1) := by decide +kernel
theorem d_Fo_adoptOffered_7 : decode b_Fo_adoptOffered_c 7 = .ok (.iconst 0, 1) := by decide +kernel
theorem d_Fo_adoptOffered_8 : decode b_Fo_adoptOffered_c 8 = .ok (.istore_n 3, 1) := by decide +kernel
theorem d_Fo_adoptOffered_9 : decode b_Fo_adoptOffered_c 9 = .ok (.iload_n 3, 1) := by decide +kernel
theorem d_Fo_adoptOffered_10 : decode b_Fo_adoptOffered_c 10 = .ok (.iload_n 2, 1) := by decide +kernel
theorem d_Fo_adoptOffered_11 : decode b_Fo_adoptOffered_c 11 = .ok (.if_icmp .ge 57, 3) := by decide +kernel
theorem d_Fo_adoptOffered_14 : decode b_Fo_adoptOffered_c 14 = .ok (.aload_n 0, 1) := by decide +kernel
theorem d_Fo_adoptOffered_15 : decode b_Fo_adoptOffered_c 15 = .ok (.getfield 37, 3) := by decide +kernel
theorem d_Fo_adoptOffered_18 : decode b_Fo_adoptOffered_c 18 = .ok (.iconst 3, 1) := by decide +kernel
theorem d_Fo_adoptOffered_19 : decode b_Fo_adoptOffered_c 19 = .ok (.iload_n 1, 1) := by decide +kernel
theorem d_Fo_adoptOffered_20 : decode b_Fo_adoptOffered_c 20 = .ok (.imul, 1) := by decide +kernel
theorem d_Fo_adoptOffered_21 : decode b_Fo_adoptOffered_c 21 = .ok (.iload_n 3, 1) := by decide +kernel
theorem d_Fo_adoptOffered_22 : decode b_Fo_adoptOffered_c 22 = .ok (.iadd, 1) := by decide +kernel
theorem d_Fo_adoptOffered_23 : decode b_Fo_adoptOffered_c 23 = .ok (.aload_n 0, 1) := by decide +kernel
theorem d_Fo_adoptOffered_24 : decode b_Fo_adoptOffered_c 24 = .ok (.getfield 62, 3) := by decide +kernel
theorem d_Fo_adoptOffered_27 : decode b_Fo_adoptOffered_c 27 = .ok (.iload_n 3, 1) := by decide +kernel
theorem d_Fo_adoptOffered_28 : decode b_Fo_adoptOffered_c 28 = .ok (.iaload, 1) := by decide +kernel
theorem d_Fo_adoptOffered_29 : decode b_Fo_adoptOffered_c 29 = .ok (.iastore, 1) := by decide +kernel
theorem d_Fo_adoptOffered_30 : decode b_Fo_adoptOffered_c 30 = .ok (.aload_n 0, 1) := by decide +kernel
theorem d_Fo_adoptOffered_31 : decode b_Fo_adoptOffered_c 31 = .ok (.getfield 28, 3) := by decide +kernel
theorem d_Fo_adoptOffered_34 : decode b_Fo_adoptOffered_c 34 = .ok (.aload_n 0, 1) := by decide +kernel
theorem d_Fo_adoptOffered_35 : decode b_Fo_adoptOffered_c 35 = .ok (.getfield 62, 3) := by decide +kernel
theorem d_Fo_adoptOffered_38 : decode b_Fo_adoptOffered_c 38 = .ok (.iload_n 3, 1) := by decide +kernel
theorem d_Fo_adoptOffered_39 : decode b_Fo_adoptOffered_c 39 = .ok (.iaload, 1) := by decide +kernel
theorem d_Fo_adoptOffered_40 : decode b_Fo_adoptOffered_c 40 = .ok (.iload_n 1, 1) := by decide +kernel
theorem d_Fo_adoptOffered_41 : decode b_Fo_adoptOffered_c 41 = .ok (.iastore, 1) := by decide +kernel
theorem d_Fo_adoptOffered_42 : decode b_Fo_adoptOffered_c 42 = .ok (.aload_n 0, 1) := by decide +kernel
theorem d_Fo_adoptOffered_43 : decode b_Fo_adoptOffered_c 43 = .ok (.getfield 49, 3) := by decide +kernel
theorem d_Fo_adoptOffered_46 : decode b_Fo_adoptOffered_c 46 = .ok (.iload_n 1, 1) := by decide +kernel
theorem d_Fo_adoptOffered_47 : decode b_Fo_adoptOffered_c 47 = .ok (.dup2, 1) := by decide +kernel
theorem d_Fo_adoptOffered_48 : decode b_Fo_adoptOffered_c 48 = .ok (.laload, 1) := by decide +kernel
theorem d_Fo_adoptOffered_49 : decode b_Fo_adoptOffered_c 49 = .ok (.aload_n 0, 1) := by decide +kernel
theorem d_Fo_adoptOffered_50 : decode b_Fo_adoptOffered_c 50 = .ok (.getfield 49, 3) := by decide +kernel
theorem d_Fo_adoptOffered_53 : decode b_Fo_adoptOffered_c 53 = .ok (.aload_n 0, 1) := by decide +kernel
theorem d_Fo_adoptOffered_54 : decode b_Fo_adoptOffered_c 54 = .ok (.getfield 62, 3) := by decide +kernel
theorem d_Fo_adoptOffered_57 : decode b_Fo_adoptOffered_c 57 = .ok (.iload_n 3, 1) := by decide +kernel
theorem d_Fo_adoptOffered_58 : decode b_Fo_adoptOffered_c 58 = .ok (.iaload, 1) := by decide +kernel
theorem d_Fo_adoptOffered_59 : decode b_Fo_adoptOffered_c 59 = .ok (.laload, 1) := by decide +kernel
theorem d_Fo_adoptOffered_60 : decode b_Fo_adoptOffered_c 60 = .ok (.lor, 1) := by decide +kernel
theorem d_Fo_adoptOffered_61 : decode b_Fo_adoptOffered_c 61 = .ok (.lastore, 1) := by decide +kernel
theorem d_Fo_adoptOffered_62 : decode b_Fo_adoptOffered_c 62 = .ok (.iinc 3 1, 3) := by decide +kernel
theorem d_Fo_adoptOffered_65 : decode b_Fo_adoptOffered_c 65 = .ok (.goto (-56), 3) := by decide +kernel
theorem d_Fo_adoptOffered_68 : decode b_Fo_adoptOffered_c 68 = .ok (.return_, 1) := by decide +kernel
/-! GameRows$Forest.adoptOffered(II)V -/
set_option maxHeartbeats 4000000 in
set_option maxRecDepth 100000 in
theorem t_Fo_adoptOffered_9 {X : gX} {r : gS} (C : gC X b_Fo_adoptOffered_c R_Fo 4 0 0) (hR : ∀ pc lv, decode b_Fo_adoptOffered_c pc = .ok (.return_, 1) → G X pc lv [] r) {k9 : Int32 × Int32 × Int32 × gS → Option gS}  (hk9 : ∀ x, k9 x = some r → G X 9 [(0, .ref (gA X 1)), (1, .int x.1), (2, .int x.2.1), (3, .int x.2.2.1)] [] x.2.2.2) (x1 : Int32) (x2 : Int32) (x3 : Int32) (σ : gS) (h : b_Fo_adoptOffered_9 k9 x1 x2 x3 σ = some r) : G X 9 [(0, .ref (gA X 1)), (1, .int x1), (2, .int x2), (3, .int x3)] [] σ := by
  unfold b_Fo_adoptOffered_9 at h
  refine r_iload_n C 3 d_Fo_adoptOffered_9 rfl rfl ?_
  refine r_iload_n C 2 d_Fo_adoptOffered_10 rfl rfl ?_
  refine r_icmp_ge C (tgt := 68) d_Fo_adoptOffered_11 (by decide) (fun hc_1 => ?_) (fun hc_1 => ?_)
  · rw [if_pos hc_1] at h
    cases h
    exact hR _ _ d_Fo_adoptOffered_68
  · rw [if_neg hc_1] at h
    refine r_aload_n C 0 d_Fo_adoptOffered_14 rfl rfl ?_
    refine q_Fo_37 C d_Fo_adoptOffered_15 ?_
    refine r_iconst C (v := 3) d_Fo_adoptOffered_18 (by decide) ?_
    refine r_iload_n C 1 d_Fo_adoptOffered_19 rfl rfl ?_
    refine r_imul C d_Fo_adoptOffered_20 ?_
    refine r_iload_n C 3 d_Fo_adoptOffered_21 rfl rfl ?_
    refine r_iadd C d_Fo_adoptOffered_22 ?_
    refine r_aload_n C 0 d_Fo_adoptOffered_23 rfl rfl ?_
    refine q_Fo_62 C d_Fo_adoptOffered_24 ?_
    refine r_iload_n C 3 d_Fo_adoptOffered_27 rfl rfl ?_
    obtain ⟨hi_2, h⟩ := ck_some h
    refine r_iald C hi_2 d_Fo_adoptOffered_28 ?_
    obtain ⟨hi_3, h⟩ := ck_some h
    obtain ⟨σ_4, eσ_4, h⟩ := bnd_some h
    refine r_iast C hi_3 eσ_4 d_Fo_adoptOffered_29 ?_
    refine r_aload_n C 0 d_Fo_adoptOffered_30 rfl rfl ?_
    refine q_Fo_28 C d_Fo_adoptOffered_31 ?_
    refine r_aload_n C 0 d_Fo_adoptOffered_34 rfl rfl ?_
    refine q_Fo_62 C d_Fo_adoptOffered_35 ?_
    refine r_iload_n C 3 d_Fo_adoptOffered_38 rfl rfl ?_
    obtain ⟨hi_5, h⟩ := ck_some h
    refine r_iald C hi_5 d_Fo_adoptOffered_39 ?_
    refine r_iload_n C 1 d_Fo_adoptOffered_40 rfl rfl ?_
    obtain ⟨hi_6, h⟩ := ck_some h
    obtain ⟨σ_7, eσ_7, h⟩ := bnd_some h
    refine r_iast C hi_6 eσ_7 d_Fo_adoptOffered_41 ?_
    refine r_aload_n C 0 d_Fo_adoptOffered_42 rfl rfl ?_
    refine q_Fo_49 C d_Fo_adoptOffered_43 ?_
    refine r_iload_n C 1 d_Fo_adoptOffered_46 rfl rfl ?_
    refine r_dup2_11 C d_Fo_adoptOffered_47 rfl rfl ?_
    obtain ⟨hi_8, h⟩ := ck_some h
    refine r_lald C hi_8 d_Fo_adoptOffered_48 ?_
    refine r_aload_n C 0 d_Fo_adoptOffered_49 rfl rfl ?_
    refine q_Fo_49 C d_Fo_adoptOffered_50 ?_
    refine r_aload_n C 0 d_Fo_adoptOffered_53 rfl rfl ?_
    refine q_Fo_62 C d_Fo_adoptOffered_54 ?_
    refine r_iload_n C 3 d_Fo_adoptOffered_57 rfl rfl ?_
    obtain ⟨hi_9, h⟩ := ck_some h
    refine r_iald C hi_9 d_Fo_adoptOffered_58 ?_
    obtain ⟨hi_10, h⟩ := ck_some h
    refine r_lald C hi_10 d_Fo_adoptOffered_59 ?_
    refine r_lor C d_Fo_adoptOffered_60 ?_
    obtain ⟨hi_11, h⟩ := ck_some h
    obtain ⟨σ_12, eσ_12, h⟩ := bnd_some h
    refine r_last C hi_11 eσ_12 d_Fo_adoptOffered_61 ?_
    obtain ⟨x3_13, ex3_13, h⟩ := bnd_some h
    refine r_iinc C 3 (lv' := [(3, .int x3_13), (0, .ref (gA X 1)), (1, .int x1), (2, .int x2)]) d_Fo_adoptOffered_62 rfl (by rw [ex3_13]; rfl) (by decide) rfl ?_
    refine r_goto C (tgt := 9) d_Fo_adoptOffered_65 (by decide) ?_
    refine r_sub [1, 2, 3, 0] (lv' := [(0, .ref (gA X 1)), (1, .int x1), (2, .int x2), (3, .int x3_13)]) rfl ?_
    exact hk9 _ h
set_option maxHeartbeats 4000000 in
set_option maxRecDepth 100000 in
theorem u_Fo_adoptOffered_9 {X : gX} {r : gS} (C : gC X b_Fo_adoptOffered_c R_Fo 4 0 0) (hR : ∀ pc lv, decode b_Fo_adoptOffered_c pc = .ok (.return_, 1) → G X pc lv [] r)  (x : Int32 × Int32 × Int32 × gS) (h : l_Fo_adoptOffered_9 x = some r) : G X 9 [(0, .ref (gA X 1)), (1, .int x.1), (2, .int x.2.1), (3, .int x.2.2.1)] [] x.2.2.2 :=
  lpF_ind (P := fun x => G X 9 [(0, .ref (gA X 1)), (1, .int x.1), (2, .int x.2.1), (3, .int x.2.2.1)] [] x.2.2.2) (fun k hk x h => t_Fo_adoptOffered_9 C hR hk x.1 x.2.1 x.2.2.1 x.2.2.2 h) gF x h
set_option maxHeartbeats 4000000 in
set_option maxRecDepth 100000 in
theorem t_Fo_adoptOffered_0 {X : gX} {r : gS} (C : gC X b_Fo_adoptOffered_c R_Fo 4 0 0) (hR : ∀ pc lv, decode b_Fo_adoptOffered_c pc = .ok (.return_, 1) → G X pc lv [] r) (x1 : Int32) (x2 : Int32) (σ : gS) (h : b_Fo_adoptOffered_0 x1 x2 σ = some r) : G X 0 [(0, .ref (gA X 1)), (1, .int x1), (2, .int x2)] [] σ := by
  unfold b_Fo_adoptOffered_0 at h
  refine r_aload_n C 0 d_Fo_adoptOffered_0 rfl rfl ?_
  refine q_Fo_40 C d_Fo_adoptOffered_1 ?_
  refine r_iload_n C 1 d_Fo_adoptOffered_4 rfl rfl ?_
  refine r_iload_n C 2 d_Fo_adoptOffered_5 rfl rfl ?_
  obtain ⟨hi_1, h⟩ := ck_some h
  obtain ⟨σ_2, eσ_2, h⟩ := bnd_some h
  refine r_iast C hi_1 eσ_2 d_Fo_adoptOffered_6 ?_
  refine r_iconst C (v := 0) d_Fo_adoptOffered_7 (by decide) ?_
  refine r_istore_n C (lv' := [(3, .int 0), (0, .ref (gA X 1)), (1, .int x1), (2, .int x2)]) d_Fo_adoptOffered_8 rfl (by decide) rfl rfl ?_
  refine r_sub [1, 2, 3, 0] (lv' := [(0, .ref (gA X 1)), (1, .int x1), (2, .int x2), (3, .int 0)]) rfl ?_
  exact u_Fo_adoptOffered_9 C hR  (x1, x2, 0, σ_2) h
set_option maxHeartbeats 4000000 in
set_option maxRecDepth 100000 in
theorem c_Fo_adoptOffered (l : Launch) (σ : gS) (x1 : Int32) (x2 : Int32) {r : gS} (h : f_Fo_adoptOffered σ x1 x2 = some r) : gMet l y_Fo_adoptOffered b_Fo_adoptOffered_c 4 (none) 0 0 (fun a => [.ref (a 1), .int x1, .int x2]) σ (none) r := by
  refine gMet_v (by decide +kernel) (fun a => Nat.le_of_ble_eq_true rfl) (fun X _ C hR => ?_)
  refine r_sub [0, 1, 2] (lv' := [(0, .ref (gA X 1)), (1, .int x1), (2, .int x2)]) rfl ?_
  exact t_Fo_adoptOffered_0 C hR x1 x2 σ h
theorem d_Fo_addParent_0 : decode b_Fo_addParent_c 0 = .ok (.aload_n 0, 1) := by decide +kernel
theorem d_Fo_addParent_1 : decode b_Fo_addParent_c 1 = .ok (.iload_n 2, 1) := by decide +kernel
theorem d_Fo_addParent_2 : decode b_Fo_addParent_c 2 = .ok (.invokevirtual 69, 3) := by decide +kernel
theorem d_Fo_addParent_5 : decode b_Fo_addParent_c 5 = .ok (.ifCond .ne 6, 3) := by decide +kernel
theorem d_Fo_addParent_8 : decode b_Fo_addParent_c 8 = .ok (.bipush (-2), 2) := by decide +kernel
theorem d_Fo_addParent_10 : decode b_Fo_addParent_c 10 = .ok (.ireturn, 1) := by decide +kernel
theorem d_Fo_addParent_11 : decode b_Fo_addParent_c 11 = .ok (.aload_n 0, 1) := by decide +kernel
theorem d_Fo_addParent_12 : decode b_Fo_addParent_c 12 = .ok (.getfield 9, 3) := by decide +kernel
theorem d_Fo_addParent_15 : decode b_Fo_addParent_c 15 = .ok (.bipush 40, 2) := by decide +kernel
theorem d_Fo_addParent_17 : decode b_Fo_addParent_c 17 = .ok (.if_icmp .lt 6, 3) := by decide +kernel
theorem d_Fo_addParent_20 : decode b_Fo_addParent_c 20 = .ok (.bipush (-3), 2) := by decide +kernel
theorem d_Fo_addParent_22 : decode b_Fo_addParent_c 22 = .ok (.ireturn, 1) := by decide +kernel
theorem d_Fo_addParent_23 : decode b_Fo_addParent_c 23 = .ok (.aload_n 0, 1) := by decide +kernel
theorem d_Fo_addParent_24 : decode b_Fo_addParent_c 24 = .ok (.iload_n 2, 1) := by decide +kernel
theorem d_Fo_addParent_25 : decode b_Fo_addParent_c 25 = .ok (.invokevirtual 73, 3) := by decide +kernel
theorem d_Fo_addParent_28 : decode b_Fo_addParent_c 28 = .ok (.ifCond .eq 6, 3) := by decide +kernel
theorem d_Fo_addParent_31 : decode b_Fo_addParent_c 31 = .ok (.bipush (-4), 2) := by decide +kernel
theorem d_Fo_addParent_33 : decode b_Fo_addParent_c 33 = .ok (.ireturn, 1) := by decide +kernel
theorem d_Fo_addParent_34 : decode b_Fo_addParent_c 34 = .ok (.iconst 1, 1) := by decide +kernel
theorem d_Fo_addParent_35 : decode b_Fo_addParent_c 35 = .ok (.aload_n 0, 1) := by decide +kernel
theorem d_Fo_addParent_36 : decode b_Fo_addParent_c 36 = .ok (.aload_n 0, 1) := by decide +kernel
theorem d_Fo_addParent_37 : decode b_Fo_addParent_c 37 = .ok (.getfield 43, 3) := by decide +kernel
theorem d_Fo_addParent_40 : decode b_Fo_addParent_c 40 = .ok (.iload_n 2, 1) := by decide +kernel
theorem d_Fo_addParent_41 : decode b_Fo_addParent_c 41 = .ok (.invokevirtual 76, 3) := by decide +kernel
theorem d_Fo_addParent_44 : decode b_Fo_addParent_c 44 = .ok (.iadd, 1) := by decide +kernel
theorem d_Fo_addParent_45 : decode b_Fo_addParent_c 45 = .ok (.istore_n 3, 1) := by decide +kernel
theorem d_Fo_addParent_46 : decode b_Fo_addParent_c 46 = .ok (.aload_n 0, 1) := by decide +kernel
theorem d_Fo_addParent_47 : decode b_Fo_addParent_c 47 = .ok (.aload_n 0, 1) := by decide +kernel
theorem d_Fo_addParent_48 : decode b_Fo_addParent_c 48 = .ok (.getfield 46, 3) := by decide +kernel
theorem d_Fo_addParent_51 : decode b_Fo_addParent_c 51 = .ok (.iload_n 2, 1) := by decide +kernel
theorem d_Fo_addParent_52 : decode b_Fo_addParent_c 52 = .ok (.invokevirtual 76, 3) := by decide +kernel
theorem d_Fo_addParent_55 : decode b_Fo_addParent_c 55 = .ok (.iload_n 1, 1) := by decide +kernel
theorem d_Fo_addParent_56 : decode b_Fo_addParent_c 56 = .ok (.iconst (-1), 1) := by decide +kernel
theorem d_Fo_addParent_57 : decode b_Fo_addParent_c 57 = .ok (.if_icmp .ne 7, 3) := by decide +kernel
theorem d_Fo_addParent_60 : decode b_Fo_addParent_c 60 = .ok (.iconst 1, 1) := by decide +kernel
theorem d_Fo_addParent_61 : decode b_Fo_addParent_c 61 = .ok (.goto 4, 3) := by decide +kernel
theorem d_Fo_addParent_64 : decode b_Fo_addParent_c 64 = .ok (.iconst 0, 1) := by decide +kernel
theorem d_Fo_addParent_65 : decode b_Fo_addParent_c 65 = .ok (.iadd, 1) := by decide +kernel
theorem d_Fo_addParent_66 : decode b_Fo_addParent_c 66 = .ok (.istore 4, 2) := by decide +kernel
theorem d_Fo_addParent_68 : decode b_Fo_addParent_c 68 = .ok (.iload_n 3, 1) := by decide +kernel
theorem d_Fo_addParent_69 : decode b_Fo_addParent_c 69 = .ok (.bipush 8, 2) := by decide +kernel
theorem d_Fo_addParent_71 : decode b_Fo_addParent_c 71 = .ok (.if_icmp .gt 9, 3) := by decide +kernel
theorem d_Fo_addParent_74 : decode b_Fo_addParent_c 74 = .ok (.iload 4, 2) := by decide +kernel
theorem d_Fo_addParent_76 : decode b_Fo_addParent_c 76 = .ok (.iconst 5, 1) := by decide +kernel
theorem d_Fo_addParent_77 : decode b_Fo_addParent_c 77 = .ok (.if_icmp .le 6, 3) := by decide +kernel
theorem d_Fo_addParent_80 : decode b_Fo_addParent_c 80 = .ok (.bipush (-5), 2) := by decide +kernel
theorem d_Fo_addParent_82 : decode b_Fo_addParent_c 82 = .ok (.ireturn, 1) := by decide +kernel
theorem d_Fo_addParent_83 : decode b_Fo_addParent_c 83 = .ok (.aload_n 0, 1) := by decide +kernel
theorem d_Fo_addParent_84 : decode b_Fo_addParent_c 84 = .ok (.iload_n 2, 1) := by decide +kernel
theorem d_Fo_addParent_85 : decode b_Fo_addParent_c 85 = .ok (.invokevirtual 80, 3) := by decide +kernel
theorem d_Fo_addParent_88 : decode b_Fo_addParent_c 88 = .ok (.iload_n 1, 1) := by decide +kernel
theorem d_Fo_addParent_89 : decode b_Fo_addParent_c 89 = .ok (.iconst (-1), 1) := by decide +kernel
theorem d_Fo_addParent_90 : decode b_Fo_addParent_c 90 = .ok (.if_icmp .ne 7, 3) := by decide +kernel
theorem d_Fo_addParent_93 : decode b_Fo_addParent_c 93 = .ok (.iconst 0, 1) := by decide +kernel
theorem d_Fo_addParent_94 : decode b_Fo_addParent_c 94 = .ok (.goto 6, 3) := by decide +kernel
theorem d_Fo_addParent_97 : decode b_Fo_addParent_c 97 = .ok (.iconst 1, 1) := by decide +kernel
theorem d_Fo_addParent_98 : decode b_Fo_addParent_c 98 = .ok (.iload_n 1, 1) := by decide +kernel
theorem d_Fo_addParent_99 : decode b_Fo_addParent_c 99 = .ok (.ishl, 1) := by decide +kernel
theorem d_Fo_addParent_100 : decode b_Fo_addParent_c 100 = .ok (.ior, 1) := by decide +kernel
theorem d_Fo_addParent_101 : decode b_Fo_addParent_c 101 = .ok (.istore 5, 2) := by decide +kernel
theorem d_Fo_addParent_103 : decode b_Fo_addParent_c 103 = .ok (.aload_n 0, 1) := by decide +kernel
theorem d_Fo_addParent_104 : decode b_Fo_addParent_c 104 = .ok (.iconst 0, 1) := by decide +kernel
theorem d_Fo_addParent_105 : decode b_Fo_addParent_c 105 = .ok (.iload 5, 2) := by decide +kernel
theorem d_Fo_addParent_107 : decode b_Fo_addParent_c 107 = .ok (.invokevirtual 84, 3) := by decide +kernel
theorem d_Fo_addParent_110 : decode b_Fo_addParent_c 110 = .ok (.bipush 64, 2) := by decide +kernel
theorem d_Fo_addParent_112 : decode b_Fo_addParent_c 112 = .ok (.if_icmp .gt 15, 3) := by decide +kernel
theorem d_Fo_addParent_115 : decode b_Fo_addParent_c 115 = .ok (.aload_n 0, 1) := by decide +kernel
theorem d_Fo_addParent_116 : decode b_Fo_addParent_c 116 = .ok (.iconst 1, 1) := by decide +kernel
theorem d_Fo_addParent_117 : decode b_Fo_addParent_c 117 = .ok (.iload 5, 2) := by decide +kernel
theorem d_Fo_addParent_119 : decode b_Fo_addParent_c 119 = .ok (.invokevirtual 84, 3) := by decide +kernel
theorem d_Fo_addParent_122 : decode b_Fo_addParent_c 122 = .ok (.bipush 64, 2) := by decide +kernel
theorem d_Fo_addParent_124 : decode b_Fo_addParent_c 124 = .ok (.if_icmp .le 6, 3) := by decide +kernel
theorem d_Fo_addParent_127 : decode b_Fo_addParent_c 127 = .ok (.bipush (-6), 2) := by decide +kernel
theorem d_Fo_addParent_129 : decode b_Fo_addParent_c 129 = .ok (.ireturn, 1) := by decide +kernel
theorem d_Fo_addParent_130 : decode b_Fo_addParent_c 130 = .ok (.aload_n 0, 1) := by decide +kernel
theorem d_Fo_addParent_131 : decode b_Fo_addParent_c 131 = .ok (.iload_n 1, 1) := by decide +kernel
theorem d_Fo_addParent_132 : decode b_Fo_addParent_c 132 = .ok (.iconst (-1), 1) := by decide +kernel
theorem d_Fo_addParent_133 : decode b_Fo_addParent_c 133 = .ok (.if_icmp .ne 7, 3) := by decide +kernel
theorem d_Fo_addParent_136 : decode b_Fo_addParent_c 136 = .ok (.iconst 1, 1) := by decide +kernel
theorem d_Fo_addParent_137 : decode b_Fo_addParent_c 137 = .ok (.goto 4, 3) := by decide +kernel
theorem d_Fo_addParent_140 : decode b_Fo_addParent_c 140 = .ok (.iconst 2, 1) := by decide +kernel
theorem d_Fo_addParent_141 : decode b_Fo_addParent_c 141 = .ok (.iload_n 1, 1) := by decide +kernel
theorem d_Fo_addParent_142 : decode b_Fo_addParent_c 142 = .ok (.invokevirtual 65, 3) := by decide +kernel
theorem d_Fo_addParent_145 : decode b_Fo_addParent_c 145 = .ok (.istore 6, 2) := by decide +kernel
theorem d_Fo_addParent_147 : decode b_Fo_addParent_c 147 = .ok (.aload_n 0, 1) := by decide +kernel
theorem d_Fo_addParent_148 : decode b_Fo_addParent_c 148 = .ok (.getfield 43, 3) := by decide +kernel
theorem d_Fo_addParent_151 : decode b_Fo_addParent_c 151 = .ok (.iload 6, 2) := by decide +kernel
theorem d_Fo_addParent_153 : decode b_Fo_addParent_c 153 = .ok (.iload_n 3, 1) := by decide +kernel
theorem d_Fo_addParent_154 : decode b_Fo_addParent_c 154 = .ok (.iastore, 1) := by decide +kernel
theorem d_Fo_addParent_155 : decode b_Fo_addParent_c 155 = .ok (.aload_n 0, 1) := by decide +kernel
theorem d_Fo_addParent_156 : decode b_Fo_addParent_c 156 = .ok (.getfield 46, 3) := by decide +kernel
theorem d_Fo_addParent_159 : decode b_Fo_addParent_c 159 = .ok (.iload 6, 2) := by decide +kernel
theorem d_Fo_addParent_161 : decode b_Fo_addParent_c 161 = .ok (.iload 4, 2) := by decide +kernel
theorem d_Fo_addParent_163 : decode b_Fo_addParent_c 163 = .ok (.iastore, 1) := by decide +kernel
theorem d_Fo_addParent_164 : decode b_Fo_addParent_c 164 = .ok (.aload_n 0, 1) := by decide +kernel
theorem d_Fo_addParent_165 : decode b_Fo_addParent_c 165 = .ok (.getfield 53, 3) := by decide +kernel
theorem d_Fo_addParent_168 : decode b_Fo_addParent_c 168 = .ok (.iload 6, 2) := by decide +kernel
theorem d_Fo_addParent_170 : decode b_Fo_addParent_c 170 = .ok (.iload 5, 2) := by decide +kernel
theorem d_Fo_addParent_172 : decode b_Fo_addParent_c 172 = .ok (.iastore, 1) := by decide +kernel
theorem d_Fo_addParent_173 : decode b_Fo_addParent_c 173 = .ok (.aload_n 0, 1) := by decide +kernel
theorem d_Fo_addParent_174 : decode b_Fo_addParent_c 174 = .ok (.iload 6, 2) := by decide +kernel
theorem d_Fo_addParent_176 : decode b_Fo_addParent_c 176 = .ok (.iload_n 2, 1) := by decide +kernel
theorem d_Fo_addParent_177 : decode b_Fo_addParent_c 177 = .ok (.invokevirtual 87, 3) := by decide +kernel
theorem d_Fo_addParent_180 : decode b_Fo_addParent_c 180 = .ok (.iload 6, 2) := by decide +kernel
theorem d_Fo_addParent_182 : decode b_Fo_addParent_c 182 = .ok (.ireturn, 1) := by decide +kernel
/-! GameRows$Forest.addParent(II)I -/
set_option maxHeartbeats 4000000 in
set_option maxRecDepth 100000 in
theorem t_Fo_addParent_141 {X : gX} {r : (Int32 × gS)} (C : gC X b_Fo_addParent_c R_Fo 7 2 46) (hR : ∀ pc lv, decode b_Fo_addParent_c pc = .ok (.ireturn, 1) → G X pc lv [.int r.1] r.2) (x1 : Int32) (x2 : Int32) (x3 : Int32) (x4 : Int32) (x5 : Int32) (y1 : Int32) (σ : gS) (h : b_Fo_addParent_141 x1 x2 x3 x4 x5 y1 σ = some r) : G X 141 [(0, .ref (gA X 1)), (1, .int x1), (2, .int x2), (3, .int x3), (4, .int x4), (5, .int x5)] [.int y1, .ref (gA X 1)] σ := by
  unfold b_Fo_addParent_141 at h
  refine r_iload_n C 1 d_Fo_addParent_141 rfl rfl ?_
  obtain ⟨r_1, er_1, h⟩ := bind_some h
  refine r_callV C (As := [.int y1, .int x1]) (rest := []) (st1 := [.int r_1.1]) (c_Fo_startNode X.1.2.1 σ y1 x1 er_1) k_Fo_startNode m_29 (by decide) cel_Fo rfl rfl rfl rfl (Nat.le_of_ble_eq_true rfl) ⟨Nat.le_of_ble_eq_true rfl, Nat.le_of_ble_eq_true rfl⟩ d_Fo_addParent_142 rfl ?_
  obtain ⟨x6_2, ex6_2, h⟩ := bnd_some h
  refine r_istore C (lv' := [(6, .int x6_2), (0, .ref (gA X 1)), (1, .int x1), (2, .int x2), (3, .int x3), (4, .int x4), (5, .int x5)]) d_Fo_addParent_145 (by decide) ex6_2 rfl ?_
  refine r_aload_n C 1 d_Fo_addParent_147 rfl rfl ?_
  refine q_Fo_43 C d_Fo_addParent_148 ?_
  refine r_iload C 0 d_Fo_addParent_151 rfl ?_
  refine r_iload_n C 4 d_Fo_addParent_153 rfl rfl ?_
  obtain ⟨hi_3, h⟩ := ck_some h
  obtain ⟨σ_4, eσ_4, h⟩ := bnd_some h
  refine r_iast C hi_3 eσ_4 d_Fo_addParent_154 ?_
  refine r_aload_n C 1 d_Fo_addParent_155 rfl rfl ?_
  refine q_Fo_46 C d_Fo_addParent_156 ?_
  refine r_iload C 0 d_Fo_addParent_159 rfl ?_
  refine r_iload C 5 d_Fo_addParent_161 rfl ?_
  obtain ⟨hi_5, h⟩ := ck_some h
  obtain ⟨σ_6, eσ_6, h⟩ := bnd_some h
  refine r_iast C hi_5 eσ_6 d_Fo_addParent_163 ?_
  refine r_aload_n C 1 d_Fo_addParent_164 rfl rfl ?_
  refine q_Fo_53 C d_Fo_addParent_165 ?_
  refine r_iload C 0 d_Fo_addParent_168 rfl ?_
  refine r_iload C 6 d_Fo_addParent_170 rfl ?_
  obtain ⟨hi_7, h⟩ := ck_some h
  obtain ⟨σ_8, eσ_8, h⟩ := bnd_some h
  refine r_iast C hi_7 eσ_8 d_Fo_addParent_172 ?_
  refine r_aload_n C 1 d_Fo_addParent_173 rfl rfl ?_
  refine r_iload C 0 d_Fo_addParent_174 rfl ?_
  refine r_iload_n C 3 d_Fo_addParent_176 rfl rfl ?_
  obtain ⟨r_9, er_9, h⟩ := bind_some h
  refine r_callV C (As := [.int x6_2, .int x2]) (rest := []) (st1 := []) (c_Fo_adoptOffered X.1.2.1 σ_8 x6_2 x2 er_9) k_Fo_adoptOffered m_52 (by decide) cel_Fo rfl rfl rfl rfl (Nat.le_of_ble_eq_true rfl) ⟨Nat.le_of_ble_eq_true rfl, Nat.le_of_ble_eq_true rfl⟩ d_Fo_addParent_177 rfl ?_
  refine r_iload C 0 d_Fo_addParent_180 rfl ?_
  cases h
  exact hR _ _ d_Fo_addParent_182
set_option maxHeartbeats 4000000 in
set_option maxRecDepth 100000 in
theorem t_Fo_addParent_100 {X : gX} {r : (Int32 × gS)} (C : gC X b_Fo_addParent_c R_Fo 7 2 46) (hR : ∀ pc lv, decode b_Fo_addParent_c pc = .ok (.ireturn, 1) → G X pc lv [.int r.1] r.2) (x1 : Int32) (x2 : Int32) (x3 : Int32) (x4 : Int32) (y0 : Int32) (y1 : Int32) (σ : gS) (h : b_Fo_addParent_100 x1 x2 x3 x4 y0 y1 σ = some r) : G X 100 [(0, .ref (gA X 1)), (1, .int x1), (2, .int x2), (3, .int x3), (4, .int x4)] [.int y1, .int y0] σ := by
  unfold b_Fo_addParent_100 at h
  refine r_ior C d_Fo_addParent_100 ?_
  obtain ⟨x5_1, ex5_1, h⟩ := bnd_some h
  refine r_istore C (lv' := [(5, .int x5_1), (0, .ref (gA X 1)), (1, .int x1), (2, .int x2), (3, .int x3), (4, .int x4)]) d_Fo_addParent_101 (by decide) ex5_1 rfl ?_
  refine r_aload_n C 1 d_Fo_addParent_103 rfl rfl ?_
  refine r_iconst C (v := 0) d_Fo_addParent_104 (by decide) ?_
  refine r_iload C 0 d_Fo_addParent_105 rfl ?_
  obtain ⟨r_2, er_2, h⟩ := bind_some h
  refine r_callV C (As := [.int 0, .int x5_1]) (rest := []) (st1 := [.int r_2]) (c_Fo_plansWith X.1.2.1 σ 0 x5_1 er_2) k_Fo_plansWith m_56 (by decide) cel_Fo rfl rfl rfl rfl (Nat.le_of_ble_eq_true rfl) ⟨Nat.le_of_ble_eq_true rfl, Nat.le_of_ble_eq_true rfl⟩ d_Fo_addParent_107 rfl ?_
  refine r_bipush C (v := 64) d_Fo_addParent_110 (by decide) ?_
  refine r_icmp_gt C (tgt := 127) d_Fo_addParent_112 (by decide) (fun hc_3 => ?_) (fun hc_3 => ?_)
  · rw [if_pos hc_3] at h
    refine r_bipush C (v := (-6)) d_Fo_addParent_127 (by decide) ?_
    cases h
    exact hR _ _ d_Fo_addParent_129
  · rw [if_neg hc_3] at h
    refine r_aload_n C 1 d_Fo_addParent_115 rfl rfl ?_
    refine r_iconst C (v := 1) d_Fo_addParent_116 (by decide) ?_
    refine r_iload C 0 d_Fo_addParent_117 rfl ?_
    obtain ⟨r_4, er_4, h⟩ := bind_some h
    refine r_callV C (As := [.int 1, .int x5_1]) (rest := []) (st1 := [.int r_4]) (c_Fo_plansWith X.1.2.1 σ 1 x5_1 er_4) k_Fo_plansWith m_56 (by decide) cel_Fo rfl rfl rfl rfl (Nat.le_of_ble_eq_true rfl) ⟨Nat.le_of_ble_eq_true rfl, Nat.le_of_ble_eq_true rfl⟩ d_Fo_addParent_119 rfl ?_
    refine r_bipush C (v := 64) d_Fo_addParent_122 (by decide) ?_
    refine r_icmp_le C (tgt := 130) d_Fo_addParent_124 (by decide) (fun hc_5 => ?_) (fun hc_5 => ?_)
    · rw [if_pos hc_5] at h
      refine r_aload_n C 1 d_Fo_addParent_130 rfl rfl ?_
      refine r_iload_n C 2 d_Fo_addParent_131 rfl rfl ?_
      refine r_iconst C (v := (-1)) d_Fo_addParent_132 (by decide) ?_
      refine r_icmp_ne C (tgt := 140) d_Fo_addParent_133 (by decide) (fun hc_6 => ?_) (fun hc_6 => ?_)
      · rw [if_neg hc_6] at h
        refine r_iconst C (v := 2) d_Fo_addParent_140 (by decide) ?_
        refine r_sub [1, 2, 3, 4, 5, 0] (lv' := [(0, .ref (gA X 1)), (1, .int x1), (2, .int x2), (3, .int x3), (4, .int x4), (5, .int x5_1)]) rfl ?_
        exact t_Fo_addParent_141 C hR x1 x2 x3 x4 x5_1 2 σ h
      · rw [if_pos hc_6] at h
        refine r_iconst C (v := 1) d_Fo_addParent_136 (by decide) ?_
        refine r_goto C (tgt := 141) d_Fo_addParent_137 (by decide) ?_
        refine r_sub [1, 2, 3, 4, 5, 0] (lv' := [(0, .ref (gA X 1)), (1, .int x1), (2, .int x2), (3, .int x3), (4, .int x4), (5, .int x5_1)]) rfl ?_
        exact t_Fo_addParent_141 C hR x1 x2 x3 x4 x5_1 1 σ h
    · rw [if_neg hc_5] at h
      refine r_bipush C (v := (-6)) d_Fo_addParent_127 (by decide) ?_
      cases h
      exact hR _ _ d_Fo_addParent_129
set_option maxHeartbeats 4000000 in
set_option maxRecDepth 100000 in
theorem t_Fo_addParent_65 {X : gX} {r : (Int32 × gS)} (C : gC X b_Fo_addParent_c R_Fo 7 2 46) (hR : ∀ pc lv, decode b_Fo_addParent_c pc = .ok (.ireturn, 1) → G X pc lv [.int r.1] r.2) (x1 : Int32) (x2 : Int32) (x3 : Int32) (y0 : Int32) (y1 : Int32) (σ : gS) (h : b_Fo_addParent_65 x1 x2 x3 y0 y1 σ = some r) : G X 65 [(0, .ref (gA X 1)), (1, .int x1), (2, .int x2), (3, .int x3)] [.int y1, .int y0] σ := by
  unfold b_Fo_addParent_65 at h
  refine r_iadd C d_Fo_addParent_65 ?_
  obtain ⟨x4_1, ex4_1, h⟩ := bnd_some h
  refine r_istore C (lv' := [(4, .int x4_1), (0, .ref (gA X 1)), (1, .int x1), (2, .int x2), (3, .int x3)]) d_Fo_addParent_66 (by decide) ex4_1 rfl ?_
  refine r_iload_n C 4 d_Fo_addParent_68 rfl rfl ?_
  refine r_bipush C (v := 8) d_Fo_addParent_69 (by decide) ?_
  refine r_icmp_gt C (tgt := 80) d_Fo_addParent_71 (by decide) (fun hc_2 => ?_) (fun hc_2 => ?_)
  · rw [if_pos hc_2] at h
    refine r_bipush C (v := (-5)) d_Fo_addParent_80 (by decide) ?_
    cases h
    exact hR _ _ d_Fo_addParent_82
  · rw [if_neg hc_2] at h
    refine r_iload C 0 d_Fo_addParent_74 rfl ?_
    refine r_iconst C (v := 5) d_Fo_addParent_76 (by decide) ?_
    refine r_icmp_le C (tgt := 83) d_Fo_addParent_77 (by decide) (fun hc_3 => ?_) (fun hc_3 => ?_)
    · rw [if_pos hc_3] at h
      refine r_aload_n C 1 d_Fo_addParent_83 rfl rfl ?_
      refine r_iload_n C 3 d_Fo_addParent_84 rfl rfl ?_
      obtain ⟨r_4, er_4, h⟩ := bind_some h
      refine r_callV C (As := [.int x2]) (rest := []) (st1 := [.int r_4]) (c_Fo_setsOffered X.1.2.1 σ x2 er_4) k_Fo_setsOffered m_60 (by decide) cel_Fo rfl rfl rfl rfl (Nat.le_of_ble_eq_true rfl) ⟨Nat.le_of_ble_eq_true rfl, Nat.le_of_ble_eq_true rfl⟩ d_Fo_addParent_85 rfl ?_
      refine r_iload_n C 2 d_Fo_addParent_88 rfl rfl ?_
      refine r_iconst C (v := (-1)) d_Fo_addParent_89 (by decide) ?_
      refine r_icmp_ne C (tgt := 97) d_Fo_addParent_90 (by decide) (fun hc_5 => ?_) (fun hc_5 => ?_)
      · rw [if_neg hc_5] at h
        refine r_iconst C (v := 1) d_Fo_addParent_97 (by decide) ?_
        refine r_iload_n C 2 d_Fo_addParent_98 rfl rfl ?_
        refine r_ishl C d_Fo_addParent_99 ?_
        refine r_sub [1, 2, 3, 4, 0] (lv' := [(0, .ref (gA X 1)), (1, .int x1), (2, .int x2), (3, .int x3), (4, .int x4_1)]) rfl ?_
        exact t_Fo_addParent_100 C hR x1 x2 x3 x4_1 r_4 (1 <<< (x1 &&& 31)) σ h
      · rw [if_pos hc_5] at h
        refine r_iconst C (v := 0) d_Fo_addParent_93 (by decide) ?_
        refine r_goto C (tgt := 100) d_Fo_addParent_94 (by decide) ?_
        refine r_sub [1, 2, 3, 4, 0] (lv' := [(0, .ref (gA X 1)), (1, .int x1), (2, .int x2), (3, .int x3), (4, .int x4_1)]) rfl ?_
        exact t_Fo_addParent_100 C hR x1 x2 x3 x4_1 r_4 0 σ h
    · rw [if_neg hc_3] at h
      refine r_bipush C (v := (-5)) d_Fo_addParent_80 (by decide) ?_
      cases h
      exact hR _ _ d_Fo_addParent_82
set_option maxHeartbeats 4000000 in
set_option maxRecDepth 100000 in
theorem t_Fo_addParent_0 {X : gX} {r : (Int32 × gS)} (C : gC X b_Fo_addParent_c R_Fo 7 2 46) (hR : ∀ pc lv, decode b_Fo_addParent_c pc = .ok (.ireturn, 1) → G X pc lv [.int r.1] r.2) (x1 : Int32) (x2 : Int32) (σ : gS) (h : b_Fo_addParent_0 x1 x2 σ = some r) : G X 0 [(0, .ref (gA X 1)), (1, .int x1), (2, .int x2)] [] σ := by
  unfold b_Fo_addParent_0 at h
  refine r_aload_n C 0 d_Fo_addParent_0 rfl rfl ?_
  refine r_iload_n C 2 d_Fo_addParent_1 rfl rfl ?_
  obtain ⟨r_1, er_1, h⟩ := bind_some h
  refine r_callV C (As := [.int x2]) (rest := []) (st1 := [.int r_1]) (c_Fo_areOfferedThere X.1.2.1 σ x2 er_1) k_Fo_areOfferedThere m_64 (by decide) cel_Fo rfl rfl rfl rfl (Nat.le_of_ble_eq_true rfl) ⟨Nat.le_of_ble_eq_true rfl, Nat.le_of_ble_eq_true rfl⟩ d_Fo_addParent_2 rfl ?_
  refine r_if_ne C (tgt := 11) d_Fo_addParent_5 (by decide) (fun hc_2 => ?_) (fun hc_2 => ?_)
  · rw [if_neg hc_2] at h
    refine r_aload_n C 0 d_Fo_addParent_11 rfl rfl ?_
    refine q_Fo_9 C d_Fo_addParent_12 ?_
    refine r_bipush C (v := 40) d_Fo_addParent_15 (by decide) ?_
    refine r_icmp_lt C (tgt := 23) d_Fo_addParent_17 (by decide) (fun hc_3 => ?_) (fun hc_3 => ?_)
    · rw [if_pos hc_3] at h
      refine r_aload_n C 0 d_Fo_addParent_23 rfl rfl ?_
      refine r_iload_n C 2 d_Fo_addParent_24 rfl rfl ?_
      obtain ⟨r_4, er_4, h⟩ := bind_some h
      refine r_callV C (As := [.int x2]) (rest := []) (st1 := [.int r_4]) (c_Fo_isOfferedTaken X.1.2.1 σ x2 er_4) k_Fo_isOfferedTaken m_68 (by decide) cel_Fo rfl rfl rfl rfl (Nat.le_of_ble_eq_true rfl) ⟨Nat.le_of_ble_eq_true rfl, Nat.le_of_ble_eq_true rfl⟩ d_Fo_addParent_25 rfl ?_
      refine r_if_eq C (tgt := 34) d_Fo_addParent_28 (by decide) (fun hc_5 => ?_) (fun hc_5 => ?_)
      · rw [if_pos hc_5] at h
        refine r_iconst C (v := 1) d_Fo_addParent_34 (by decide) ?_
        refine r_aload_n C 0 d_Fo_addParent_35 rfl rfl ?_
        refine r_aload_n C 0 d_Fo_addParent_36 rfl rfl ?_
        refine q_Fo_43 C d_Fo_addParent_37 ?_
        refine r_iload_n C 2 d_Fo_addParent_40 rfl rfl ?_
        obtain ⟨r_6, er_6, h⟩ := bind_some h
        refine r_callV C (As := [.ref (gA X 9), .int x2]) (rest := [.int 1]) (st1 := [.int r_6, .int 1]) (c_Fo_greatestOffered X.1.2.1 σ 9 x2 er_6) k_Fo_greatestOffered m_72 (by decide) cel_Fo rfl rfl rfl rfl (Nat.le_of_ble_eq_true rfl) ⟨Nat.le_of_ble_eq_true rfl, Nat.le_of_ble_eq_true rfl⟩ d_Fo_addParent_41 rfl ?_
        refine r_iadd C d_Fo_addParent_44 ?_
        obtain ⟨x3_7, ex3_7, h⟩ := bnd_some h
        refine r_istore_n C (lv' := [(3, .int x3_7), (0, .ref (gA X 1)), (1, .int x1), (2, .int x2)]) d_Fo_addParent_45 rfl (by decide) ex3_7 rfl ?_
        refine r_aload_n C 1 d_Fo_addParent_46 rfl rfl ?_
        refine r_aload_n C 1 d_Fo_addParent_47 rfl rfl ?_
        refine q_Fo_46 C d_Fo_addParent_48 ?_
        refine r_iload_n C 3 d_Fo_addParent_51 rfl rfl ?_
        obtain ⟨r_8, er_8, h⟩ := bind_some h
        refine r_callV C (As := [.ref (gA X 10), .int x2]) (rest := []) (st1 := [.int r_8]) (c_Fo_greatestOffered X.1.2.1 σ 10 x2 er_8) k_Fo_greatestOffered m_72 (by decide) cel_Fo rfl rfl rfl rfl (Nat.le_of_ble_eq_true rfl) ⟨Nat.le_of_ble_eq_true rfl, Nat.le_of_ble_eq_true rfl⟩ d_Fo_addParent_52 rfl ?_
        refine r_iload_n C 2 d_Fo_addParent_55 rfl rfl ?_
        refine r_iconst C (v := (-1)) d_Fo_addParent_56 (by decide) ?_
        refine r_icmp_ne C (tgt := 64) d_Fo_addParent_57 (by decide) (fun hc_9 => ?_) (fun hc_9 => ?_)
        · rw [if_neg hc_9] at h
          refine r_iconst C (v := 0) d_Fo_addParent_64 (by decide) ?_
          refine r_sub [1, 2, 3, 0] (lv' := [(0, .ref (gA X 1)), (1, .int x1), (2, .int x2), (3, .int x3_7)]) rfl ?_
          exact t_Fo_addParent_65 C hR x1 x2 x3_7 r_8 0 σ h
        · rw [if_pos hc_9] at h
          refine r_iconst C (v := 1) d_Fo_addParent_60 (by decide) ?_
          refine r_goto C (tgt := 65) d_Fo_addParent_61 (by decide) ?_
          refine r_sub [1, 2, 3, 0] (lv' := [(0, .ref (gA X 1)), (1, .int x1), (2, .int x2), (3, .int x3_7)]) rfl ?_
          exact t_Fo_addParent_65 C hR x1 x2 x3_7 r_8 1 σ h
      · rw [if_neg hc_5] at h
        refine r_bipush C (v := (-4)) d_Fo_addParent_31 (by decide) ?_
        cases h
        exact hR _ _ d_Fo_addParent_33
    · rw [if_neg hc_3] at h
      refine r_bipush C (v := (-3)) d_Fo_addParent_20 (by decide) ?_
      cases h
      exact hR _ _ d_Fo_addParent_22
  · rw [if_pos hc_2] at h
    refine r_bipush C (v := (-2)) d_Fo_addParent_8 (by decide) ?_
    cases h
    exact hR _ _ d_Fo_addParent_10
set_option maxHeartbeats 4000000 in
set_option maxRecDepth 100000 in
theorem c_Fo_addParent (l : Launch) (σ : gS) (x1 : Int32) (x2 : Int32) {r : (Int32 × gS)} (h : f_Fo_addParent σ x1 x2 = some r) : gMet l y_Fo_addParent b_Fo_addParent_c 7 (some .int) 2 46 (fun a => [.ref (a 1), .int x1, .int x2]) σ (some (.int r.1)) r.2 := by
  refine gMet_i (by decide +kernel) (fun a => Nat.le_of_ble_eq_true rfl) (fun X _ C hR => ?_)
  refine r_sub [0, 1, 2] (lv' := [(0, .ref (gA X 1)), (1, .int x1), (2, .int x2)]) rfl ?_
  exact t_Fo_addParent_0 C hR x1 x2 σ h
theorem d_Ga_chance_0 : decode b_Ga_chance_c 0 = .ok (.iload_n 3, 1) := by decide +kernel
theorem d_Ga_chance_1 : decode b_Ga_chance_c 1 = .ok (.iconst (-1), 1) := by decide +kernel
theorem d_Ga_chance_2 : decode b_Ga_chance_c 2 = .ok (.if_icmp .eq 7, 3) := by decide +kernel
theorem d_Ga_chance_5 : decode b_Ga_chance_c 5 = .ok (.iconst 3, 1) := by decide +kernel
theorem d_Ga_chance_6 : decode b_Ga_chance_c 6 = .ok (.goto 13, 3) := by decide +kernel
theorem d_Ga_chance_9 : decode b_Ga_chance_c 9 = .ok (.iload_n 2, 1) := by decide +kernel
theorem d_Ga_chance_10 : decode b_Ga_chance_c 10 = .ok (.iconst (-1), 1) := by decide +kernel
theorem d_Ga_chance_11 : decode b_Ga_chance_c 11 = .ok (.if_icmp .eq 7, 3) := by decide +kernel
theorem d_Ga_chance_14 : decode b_Ga_chance_c 14 = .ok (.iconst 2, 1) := by decide +kernel
theorem d_Ga_chance_15 : decode b_Ga_chance_c 15 = .ok (.goto 4, 3) := by decide +kernel
theorem d_Ga_chance_18 : decode b_Ga_chance_c 18 = .ok (.iconst 1, 1) := by decide +kernel
theorem d_Ga_chance_19 : decode b_Ga_chance_c 19 = .ok (.istore 4, 2) := by decide +kernel
theorem d_Ga_chance_21 : decode b_Ga_chance_c 21 = .ok (.aload_n 0, 1) := by decide +kernel
theorem d_Ga_chance_22 : decode b_Ga_chance_c 22 = .ok (.getfield 10, 3) := by decide +kernel
theorem d_Ga_chance_25 : decode b_Ga_chance_c 25 = .ok (.iload_n 1, 1) := by decide +kernel
theorem d_Ga_chance_26 : decode b_Ga_chance_c 26 = .ok (.iload_n 2, 1) := by decide +kernel
theorem d_Ga_chance_27 : decode b_Ga_chance_c 27 = .ok (.iload_n 3, 1) := by decide +kernel
theorem d_Ga_chance_28 : decode b_Ga_chance_c 28 = .ok (.invokevirtual 67, 3) := by decide +kernel
theorem d_Ga_chance_31 : decode b_Ga_chance_c 31 = .ok (.aload_n 0, 1) := by decide +kernel
theorem d_Ga_chance_32 : decode b_Ga_chance_c 32 = .ok (.getfield 10, 3) := by decide +kernel
theorem d_Ga_chance_35 : decode b_Ga_chance_c 35 = .ok (.iconst (-1), 1) := by decide +kernel
theorem d_Ga_chance_36 : decode b_Ga_chance_c 36 = .ok (.iload 4, 2) := by decide +kernel
theorem d_Ga_chance_38 : decode b_Ga_chance_c 38 = .ok (.invokevirtual 71, 3) := by decide +kernel
theorem d_Ga_chance_41 : decode b_Ga_chance_c 41 = .ok (.ireturn, 1) := by decide +kernel
/-! GameRows.chance(III)I -/
set_option maxHeartbeats 4000000 in
set_option maxRecDepth 100000 in
theorem t_Ga_chance_19 {X : gX} {r : (Int32 × gS)} (C : gC X b_Ga_chance_c R_Ga 5 3 72) (hR : ∀ pc lv, decode b_Ga_chance_c pc = .ok (.ireturn, 1) → G X pc lv [.int r.1] r.2) (x1 : Int32) (x2 : Int32) (x3 : Int32) (y0 : Int32) (σ : gS) (h : b_Ga_chance_19 x1 x2 x3 y0 σ = some r) : G X 19 [(0, .ref (gA X 0)), (1, .int x1), (2, .int x2), (3, .int x3)] [.int y0] σ := by
  unfold b_Ga_chance_19 at h
  refine r_istore C (lv' := [(4, .int y0), (0, .ref (gA X 0)), (1, .int x1), (2, .int x2), (3, .int x3)]) d_Ga_chance_19 (by decide) rfl rfl ?_
  refine r_aload_n C 1 d_Ga_chance_21 rfl rfl ?_
  refine q_Ga_10 C d_Ga_chance_22 ?_
  refine r_iload_n C 2 d_Ga_chance_25 rfl rfl ?_
  refine r_iload_n C 3 d_Ga_chance_26 rfl rfl ?_
  refine r_iload_n C 4 d_Ga_chance_27 rfl rfl ?_
  obtain ⟨r_1, er_1, h⟩ := bind_some h
  refine r_callV C (As := [.int x1, .int x2, .int x3]) (rest := []) (st1 := []) (c_Fo_offer X.1.2.1 σ x1 x2 x3 er_1) k_Fo_offer m_76 (by decide) cel_Fo rfl rfl rfl rfl (Nat.le_of_ble_eq_true rfl) ⟨Nat.le_of_ble_eq_true rfl, Nat.le_of_ble_eq_true rfl⟩ d_Ga_chance_28 rfl ?_
  refine r_aload_n C 1 d_Ga_chance_31 rfl rfl ?_
  refine q_Ga_10 C d_Ga_chance_32 ?_
  refine r_iconst C (v := (-1)) d_Ga_chance_35 (by decide) ?_
  refine r_iload C 0 d_Ga_chance_36 rfl ?_
  obtain ⟨r_2, er_2, h⟩ := bind_some h
  refine r_callV C (As := [.int (-1), .int y0]) (rest := []) (st1 := [.int r_2.1]) (c_Fo_addParent X.1.2.1 r_1 (-1) y0 er_2) k_Fo_addParent m_80 (by decide) cel_Fo rfl rfl rfl rfl (Nat.le_of_ble_eq_true rfl) ⟨Nat.le_of_ble_eq_true rfl, Nat.le_of_ble_eq_true rfl⟩ d_Ga_chance_38 rfl ?_
  cases h
  exact hR _ _ d_Ga_chance_41
set_option maxHeartbeats 4000000 in
set_option maxRecDepth 100000 in
theorem t_Ga_chance_0 {X : gX} {r : (Int32 × gS)} (C : gC X b_Ga_chance_c R_Ga 5 3 72) (hR : ∀ pc lv, decode b_Ga_chance_c pc = .ok (.ireturn, 1) → G X pc lv [.int r.1] r.2) (x1 : Int32) (x2 : Int32) (x3 : Int32) (σ : gS) (h : b_Ga_chance_0 x1 x2 x3 σ = some r) : G X 0 [(0, .ref (gA X 0)), (1, .int x1), (2, .int x2), (3, .int x3)] [] σ := by
  unfold b_Ga_chance_0 at h
  refine r_iload_n C 3 d_Ga_chance_0 rfl rfl ?_
  refine r_iconst C (v := (-1)) d_Ga_chance_1 (by decide) ?_
  refine r_icmp_eq C (tgt := 9) d_Ga_chance_2 (by decide) (fun hc_1 => ?_) (fun hc_1 => ?_)
  · rw [if_pos hc_1] at h
    refine r_iload_n C 2 d_Ga_chance_9 rfl rfl ?_
    refine r_iconst C (v := (-1)) d_Ga_chance_10 (by decide) ?_
    refine r_icmp_eq C (tgt := 18) d_Ga_chance_11 (by decide) (fun hc_2 => ?_) (fun hc_2 => ?_)
    · rw [if_pos hc_2] at h
      refine r_iconst C (v := 1) d_Ga_chance_18 (by decide) ?_
      exact t_Ga_chance_19 C hR x1 x2 x3 1 σ h
    · rw [if_neg hc_2] at h
      refine r_iconst C (v := 2) d_Ga_chance_14 (by decide) ?_
      refine r_goto C (tgt := 19) d_Ga_chance_15 (by decide) ?_
      exact t_Ga_chance_19 C hR x1 x2 x3 2 σ h
  · rw [if_neg hc_1] at h
    refine r_iconst C (v := 3) d_Ga_chance_5 (by decide) ?_
    refine r_goto C (tgt := 19) d_Ga_chance_6 (by decide) ?_
    exact t_Ga_chance_19 C hR x1 x2 x3 3 σ h
set_option maxHeartbeats 4000000 in
set_option maxRecDepth 100000 in
theorem c_Ga_chance (l : Launch) (σ : gS) (x1 : Int32) (x2 : Int32) (x3 : Int32) {r : (Int32 × gS)} (h : f_Ga_chance σ x1 x2 x3 = some r) : gMet l y_Ga_chance b_Ga_chance_c 5 (some .int) 3 72 (fun a => [.ref (a 0), .int x1, .int x2, .int x3]) σ (some (.int r.1)) r.2 := by
  refine gMet_i (by decide +kernel) (fun a => Nat.le_of_ble_eq_true rfl) (fun X _ C hR => ?_)
  refine r_sub [0, 1, 2, 3] (lv' := [(0, .ref (gA X 0)), (1, .int x1), (2, .int x2), (3, .int x3)]) rfl ?_
  exact t_Ga_chance_0 C hR x1 x2 x3 σ h
theorem d_Fo_hasSet_0 : decode b_Fo_hasSet_c 0 = .ok (.iload_n 1, 1) := by decide +kernel
theorem d_Fo_hasSet_1 : decode b_Fo_hasSet_c 1 = .ok (.ifCond .lt 15, 3) := by decide +kernel
theorem d_Fo_hasSet_4 : decode b_Fo_hasSet_c 4 = .ok (.iload_n 1, 1) := by decide +kernel
theorem d_Fo_hasSet_5 : decode b_Fo_hasSet_c 5 = .ok (.aload_n 0, 1) := by decide +kernel
theorem d_Fo_hasSet_6 : decode b_Fo_hasSet_c 6 = .ok (.getfield 15, 3) := by decide +kernel
theorem d_Fo_hasSet_9 : decode b_Fo_hasSet_c 9 = .ok (.if_icmp .ge 7, 3) := by decide +kernel
theorem d_Fo_hasSet_12 : decode b_Fo_hasSet_c 12 = .ok (.iconst 1, 1) := by decide +kernel
theorem d_Fo_hasSet_13 : decode b_Fo_hasSet_c 13 = .ok (.goto 4, 3) := by decide +kernel
theorem d_Fo_hasSet_16 : decode b_Fo_hasSet_c 16 = .ok (.iconst 0, 1) := by decide +kernel
theorem d_Fo_hasSet_17 : decode b_Fo_hasSet_c 17 = .ok (.ireturn, 1) := by decide +kernel
/-! GameRows$Forest.hasSet(I)Z -/
set_option maxHeartbeats 4000000 in
set_option maxRecDepth 100000 in
theorem t_Fo_hasSet_0 {X : gX} {r : Int32} {σ : gS} (C : gC X b_Fo_hasSet_c R_Fo 2 0 0) (hR : ∀ pc lv, isB r = true → decode b_Fo_hasSet_c pc = .ok (.ireturn, 1) → G X pc lv [.int r] σ) (x1 : Int32) (h : b_Fo_hasSet_0 σ x1 = some r) : G X 0 [(0, .ref (gA X 1)), (1, .int x1)] [] σ := by
  unfold b_Fo_hasSet_0 at h
  refine r_iload_n C 1 d_Fo_hasSet_0 rfl rfl ?_
  refine r_if_lt C (tgt := 16) d_Fo_hasSet_1 (by decide) (fun hc_1 => ?_) (fun hc_1 => ?_)
  · rw [if_pos hc_1] at h
    refine r_iconst C (v := 0) d_Fo_hasSet_16 (by decide) ?_
    obtain ⟨hB, h⟩ := ck_some h
    cases h
    exact hR _ _ hB d_Fo_hasSet_17
  · rw [if_neg hc_1] at h
    refine r_iload_n C 1 d_Fo_hasSet_4 rfl rfl ?_
    refine r_aload_n C 0 d_Fo_hasSet_5 rfl rfl ?_
    refine q_Fo_15 C d_Fo_hasSet_6 ?_
    refine r_icmp_ge C (tgt := 16) d_Fo_hasSet_9 (by decide) (fun hc_2 => ?_) (fun hc_2 => ?_)
    · rw [if_pos hc_2] at h
      refine r_iconst C (v := 0) d_Fo_hasSet_16 (by decide) ?_
      obtain ⟨hB, h⟩ := ck_some h
      cases h
      exact hR _ _ hB d_Fo_hasSet_17
    · rw [if_neg hc_2] at h
      refine r_iconst C (v := 1) d_Fo_hasSet_12 (by decide) ?_
      refine r_goto C (tgt := 17) d_Fo_hasSet_13 (by decide) ?_
      obtain ⟨hB, h⟩ := ck_some h
      cases h
      exact hR _ _ hB d_Fo_hasSet_17
set_option maxHeartbeats 4000000 in
set_option maxRecDepth 100000 in
theorem c_Fo_hasSet (l : Launch) (σ : gS) (x1 : Int32) {r : Int32} (h : f_Fo_hasSet σ x1 = some r) : gMet l y_Fo_hasSet b_Fo_hasSet_c 2 (some .boolean) 0 0 (fun a => [.ref (a 1), .int x1]) σ (some (.int r)) σ := by
  refine gMet_z (by decide +kernel) (fun a => Nat.le_of_ble_eq_true rfl) (fun X _ C hR => ?_)
  refine r_sub [0, 1] (lv' := [(0, .ref (gA X 1)), (1, .int x1)]) rfl ?_
  exact t_Fo_hasSet_0 C hR x1 h
theorem d_Ga_node_0 : decode b_Ga_node_c 0 = .ok (.aload_n 0, 1) := by decide +kernel
theorem d_Ga_node_1 : decode b_Ga_node_c 1 = .ok (.getfield 10, 3) := by decide +kernel
theorem d_Ga_node_4 : decode b_Ga_node_c 4 = .ok (.iload_n 1, 1) := by decide +kernel
theorem d_Ga_node_5 : decode b_Ga_node_c 5 = .ok (.invokevirtual 74, 3) := by decide +kernel
theorem d_Ga_node_8 : decode b_Ga_node_c 8 = .ok (.ifCond .ne 6, 3) := by decide +kernel
theorem d_Ga_node_11 : decode b_Ga_node_c 11 = .ok (.bipush (-2), 2) := by decide +kernel
theorem d_Ga_node_13 : decode b_Ga_node_c 13 = .ok (.ireturn, 1) := by decide +kernel
theorem d_Ga_node_14 : decode b_Ga_node_c 14 = .ok (.aload_n 0, 1) := by decide +kernel
theorem d_Ga_node_15 : decode b_Ga_node_c 15 = .ok (.getfield 10, 3) := by decide +kernel
theorem d_Ga_node_18 : decode b_Ga_node_c 18 = .ok (.iload_n 2, 1) := by decide +kernel
theorem d_Ga_node_19 : decode b_Ga_node_c 19 = .ok (.iload_n 3, 1) := by decide +kernel
theorem d_Ga_node_20 : decode b_Ga_node_c 20 = .ok (.iload 4, 2) := by decide +kernel
theorem d_Ga_node_22 : decode b_Ga_node_c 22 = .ok (.invokevirtual 67, 3) := by decide +kernel
theorem d_Ga_node_25 : decode b_Ga_node_c 25 = .ok (.aload_n 0, 1) := by decide +kernel
theorem d_Ga_node_26 : decode b_Ga_node_c 26 = .ok (.getfield 10, 3) := by decide +kernel
theorem d_Ga_node_29 : decode b_Ga_node_c 29 = .ok (.iload_n 1, 1) := by decide +kernel
theorem d_Ga_node_30 : decode b_Ga_node_c 30 = .ok (.aload_n 0, 1) := by decide +kernel
theorem d_Ga_node_31 : decode b_Ga_node_c 31 = .ok (.getfield 10, 3) := by decide +kernel
theorem d_Ga_node_34 : decode b_Ga_node_c 34 = .ok (.getfield 77, 3) := by decide +kernel
theorem d_Ga_node_37 : decode b_Ga_node_c 37 = .ok (.iload_n 1, 1) := by decide +kernel
theorem d_Ga_node_38 : decode b_Ga_node_c 38 = .ok (.iaload, 1) := by decide +kernel
theorem d_Ga_node_39 : decode b_Ga_node_c 39 = .ok (.invokevirtual 71, 3) := by decide +kernel
theorem d_Ga_node_42 : decode b_Ga_node_c 42 = .ok (.ireturn, 1) := by decide +kernel
/-! GameRows.node(IIII)I -/
set_option maxHeartbeats 4000000 in
set_option maxRecDepth 100000 in
theorem t_Ga_node_0 {X : gX} {r : (Int32 × gS)} (C : gC X b_Ga_node_c R_Ga 5 3 72) (hR : ∀ pc lv, decode b_Ga_node_c pc = .ok (.ireturn, 1) → G X pc lv [.int r.1] r.2) (x1 : Int32) (x2 : Int32) (x3 : Int32) (x4 : Int32) (σ : gS) (h : b_Ga_node_0 x1 x2 x3 x4 σ = some r) : G X 0 [(0, .ref (gA X 0)), (1, .int x1), (2, .int x2), (3, .int x3), (4, .int x4)] [] σ := by
  unfold b_Ga_node_0 at h
  refine r_aload_n C 0 d_Ga_node_0 rfl rfl ?_
  refine q_Ga_10 C d_Ga_node_1 ?_
  refine r_iload_n C 1 d_Ga_node_4 rfl rfl ?_
  obtain ⟨r_1, er_1, h⟩ := bind_some h
  refine r_callV C (As := [.int x1]) (rest := []) (st1 := [.int r_1]) (c_Fo_hasSet X.1.2.1 σ x1 er_1) k_Fo_hasSet m_84 (by decide) cel_Fo rfl rfl rfl rfl (Nat.le_of_ble_eq_true rfl) ⟨Nat.le_of_ble_eq_true rfl, Nat.le_of_ble_eq_true rfl⟩ d_Ga_node_5 rfl ?_
  refine r_if_ne C (tgt := 14) d_Ga_node_8 (by decide) (fun hc_2 => ?_) (fun hc_2 => ?_)
  · rw [if_neg hc_2] at h
    refine r_aload_n C 0 d_Ga_node_14 rfl rfl ?_
    refine q_Ga_10 C d_Ga_node_15 ?_
    refine r_iload_n C 2 d_Ga_node_18 rfl rfl ?_
    refine r_iload_n C 3 d_Ga_node_19 rfl rfl ?_
    refine r_iload C 4 d_Ga_node_20 rfl ?_
    obtain ⟨r_3, er_3, h⟩ := bind_some h
    refine r_callV C (As := [.int x2, .int x3, .int x4]) (rest := []) (st1 := []) (c_Fo_offer X.1.2.1 σ x2 x3 x4 er_3) k_Fo_offer m_76 (by decide) cel_Fo rfl rfl rfl rfl (Nat.le_of_ble_eq_true rfl) ⟨Nat.le_of_ble_eq_true rfl, Nat.le_of_ble_eq_true rfl⟩ d_Ga_node_22 rfl ?_
    refine r_aload_n C 0 d_Ga_node_25 rfl rfl ?_
    refine q_Ga_10 C d_Ga_node_26 ?_
    refine r_iload_n C 1 d_Ga_node_29 rfl rfl ?_
    refine r_aload_n C 0 d_Ga_node_30 rfl rfl ?_
    refine q_Ga_10 C d_Ga_node_31 ?_
    refine q_Ga_77 C d_Ga_node_34 ?_
    refine r_iload_n C 1 d_Ga_node_37 rfl rfl ?_
    obtain ⟨hi_4, h⟩ := ck_some h
    refine r_iald C hi_4 d_Ga_node_38 ?_
    obtain ⟨r_5, er_5, h⟩ := bind_some h
    refine r_callV C (As := [.int x1, .int (gI r_3 5 x1.toNatClampNeg)]) (rest := []) (st1 := [.int r_5.1]) (c_Fo_addParent X.1.2.1 r_3 x1 (gI r_3 5 x1.toNatClampNeg) er_5) k_Fo_addParent m_80 (by decide) cel_Fo rfl rfl rfl rfl (Nat.le_of_ble_eq_true rfl) ⟨Nat.le_of_ble_eq_true rfl, Nat.le_of_ble_eq_true rfl⟩ d_Ga_node_39 rfl ?_
    cases h
    exact hR _ _ d_Ga_node_42
  · rw [if_pos hc_2] at h
    refine r_bipush C (v := (-2)) d_Ga_node_11 (by decide) ?_
    cases h
    exact hR _ _ d_Ga_node_13
set_option maxHeartbeats 4000000 in
set_option maxRecDepth 100000 in
theorem c_Ga_node (l : Launch) (σ : gS) (x1 : Int32) (x2 : Int32) (x3 : Int32) (x4 : Int32) {r : (Int32 × gS)} (h : f_Ga_node σ x1 x2 x3 x4 = some r) : gMet l y_Ga_node b_Ga_node_c 5 (some .int) 3 72 (fun a => [.ref (a 0), .int x1, .int x2, .int x3, .int x4]) σ (some (.int r.1)) r.2 := by
  refine gMet_i (by decide +kernel) (fun a => Nat.le_of_ble_eq_true rfl) (fun X _ C hR => ?_)
  refine r_sub [0, 1, 2, 3, 4] (lv' := [(0, .ref (gA X 0)), (1, .int x1), (2, .int x2), (3, .int x3), (4, .int x4)]) rfl ?_
  exact t_Ga_node_0 C hR x1 x2 x3 x4 σ h
theorem d_Ga_isEmpty_0 : decode b_Ga_isEmpty_c 0 = .ok (.aload_n 0, 1) := by decide +kernel
theorem d_Ga_isEmpty_1 : decode b_Ga_isEmpty_c 1 = .ok (.getfield 10, 3) := by decide +kernel
theorem d_Ga_isEmpty_4 : decode b_Ga_isEmpty_c 4 = .ok (.getfield 86, 3) := by decide +kernel
theorem d_Ga_isEmpty_7 : decode b_Ga_isEmpty_c 7 = .ok (.ifCond .ne 7, 3) := by decide +kernel
theorem d_Ga_isEmpty_10 : decode b_Ga_isEmpty_c 10 = .ok (.iconst 1, 1) := by decide +kernel
theorem d_Ga_isEmpty_11 : decode b_Ga_isEmpty_c 11 = .ok (.goto 4, 3) := by decide +kernel
theorem d_Ga_isEmpty_14 : decode b_Ga_isEmpty_c 14 = .ok (.iconst 0, 1) := by decide +kernel
theorem d_Ga_isEmpty_15 : decode b_Ga_isEmpty_c 15 = .ok (.ireturn, 1) := by decide +kernel
/-! GameRows.isEmpty()Z -/
set_option maxHeartbeats 4000000 in
set_option maxRecDepth 100000 in
theorem t_Ga_isEmpty_0 {X : gX} {r : Int32} {σ : gS} (C : gC X b_Ga_isEmpty_c R_Ga 1 0 0) (hR : ∀ pc lv, isB r = true → decode b_Ga_isEmpty_c pc = .ok (.ireturn, 1) → G X pc lv [.int r] σ)  (h : b_Ga_isEmpty_0 σ = some r) : G X 0 [(0, .ref (gA X 0))] [] σ := by
  unfold b_Ga_isEmpty_0 at h
  refine r_aload_n C 0 d_Ga_isEmpty_0 rfl rfl ?_
  refine q_Ga_10 C d_Ga_isEmpty_1 ?_
  refine q_Ga_86 C d_Ga_isEmpty_4 ?_
  refine r_if_ne C (tgt := 14) d_Ga_isEmpty_7 (by decide) (fun hc_1 => ?_) (fun hc_1 => ?_)
  · rw [if_neg hc_1] at h
    refine r_iconst C (v := 0) d_Ga_isEmpty_14 (by decide) ?_
    obtain ⟨hB, h⟩ := ck_some h
    cases h
    exact hR _ _ hB d_Ga_isEmpty_15
  · rw [if_pos hc_1] at h
    refine r_iconst C (v := 1) d_Ga_isEmpty_10 (by decide) ?_
    refine r_goto C (tgt := 15) d_Ga_isEmpty_11 (by decide) ?_
    obtain ⟨hB, h⟩ := ck_some h
    cases h
    exact hR _ _ hB d_Ga_isEmpty_15
set_option maxHeartbeats 4000000 in
set_option maxRecDepth 100000 in
theorem c_Ga_isEmpty (l : Launch) (σ : gS)  {r : Int32} (h : f_Ga_isEmpty σ = some r) : gMet l y_Ga_isEmpty b_Ga_isEmpty_c 1 (some .boolean) 0 0 (fun a => [.ref (a 0)]) σ (some (.int r)) σ := by
  refine gMet_z (by decide +kernel) (fun a => Nat.le_of_ble_eq_true rfl) (fun X _ C hR => ?_)
  refine r_sub [0] (lv' := [(0, .ref (gA X 0))]) rfl ?_
  exact t_Ga_isEmpty_0 C hR  h
theorem d_Fo_root_0 : decode b_Fo_root_c 0 = .ok (.aload_n 0, 1) := by decide +kernel
theorem d_Fo_root_1 : decode b_Fo_root_c 1 = .ok (.getfield 9, 3) := by decide +kernel
theorem d_Fo_root_4 : decode b_Fo_root_c 4 = .ok (.iconst 1, 1) := by decide +kernel
theorem d_Fo_root_5 : decode b_Fo_root_c 5 = .ok (.isub, 1) := by decide +kernel
theorem d_Fo_root_6 : decode b_Fo_root_c 6 = .ok (.ireturn, 1) := by decide +kernel
/-! GameRows$Forest.root()I -/
set_option maxHeartbeats 4000000 in
set_option maxRecDepth 100000 in
theorem t_Fo_root_0 {X : gX} {r : Int32} {σ : gS} (C : gC X b_Fo_root_c R_Fo 1 0 0) (hR : ∀ pc lv, decode b_Fo_root_c pc = .ok (.ireturn, 1) → G X pc lv [.int r] σ)  (h : b_Fo_root_0 σ = some r) : G X 0 [(0, .ref (gA X 1))] [] σ := by
  unfold b_Fo_root_0 at h
  refine r_aload_n C 0 d_Fo_root_0 rfl rfl ?_
  refine q_Fo_9 C d_Fo_root_1 ?_
  refine r_iconst C (v := 1) d_Fo_root_4 (by decide) ?_
  refine r_isub C d_Fo_root_5 ?_
  cases h
  exact hR _ _ d_Fo_root_6
set_option maxHeartbeats 4000000 in
set_option maxRecDepth 100000 in
theorem c_Fo_root (l : Launch) (σ : gS)  {r : Int32} (h : f_Fo_root σ = some r) : gMet l y_Fo_root b_Fo_root_c 1 (some .int) 0 0 (fun a => [.ref (a 1)]) σ (some (.int r)) σ := by
  refine gMet_i (by decide +kernel) (fun a => Nat.le_of_ble_eq_true rfl) (fun X _ C hR => ?_)
  refine r_sub [0] (lv' := [(0, .ref (gA X 1))]) rfl ?_
  exact t_Fo_root_0 C hR  h
theorem d_Fo_nodesInTree_0 : decode b_Fo_nodesInTree_c 0 = .ok (.aload_n 0, 1) := by decide +kernel
theorem d_Fo_nodesInTree_1 : decode b_Fo_nodesInTree_c 1 = .ok (.getfield 9, 3) := by decide +kernel
theorem d_Fo_nodesInTree_4 : decode b_Fo_nodesInTree_c 4 = .ok (.ifCond .ne 7, 3) := by decide +kernel
theorem d_Fo_nodesInTree_7 : decode b_Fo_nodesInTree_c 7 = .ok (.lconst 0, 1) := by decide +kernel
theorem d_Fo_nodesInTree_8 : decode b_Fo_nodesInTree_c 8 = .ok (.goto 12, 3) := by decide +kernel
theorem d_Fo_nodesInTree_11 : decode b_Fo_nodesInTree_c 11 = .ok (.aload_n 0, 1) := by decide +kernel
theorem d_Fo_nodesInTree_12 : decode b_Fo_nodesInTree_c 12 = .ok (.getfield 49, 3) := by decide +kernel
theorem d_Fo_nodesInTree_15 : decode b_Fo_nodesInTree_c 15 = .ok (.aload_n 0, 1) := by decide +kernel
theorem d_Fo_nodesInTree_16 : decode b_Fo_nodesInTree_c 16 = .ok (.invokevirtual 99, 3) := by decide +kernel
theorem d_Fo_nodesInTree_19 : decode b_Fo_nodesInTree_c 19 = .ok (.laload, 1) := by decide +kernel
theorem d_Fo_nodesInTree_20 : decode b_Fo_nodesInTree_c 20 = .ok (.lreturn, 1) := by decide +kernel
/-! GameRows$Forest.nodesInTree()J -/
set_option maxHeartbeats 4000000 in
set_option maxRecDepth 100000 in
theorem t_Fo_nodesInTree_0 {X : gX} {r : Int64} {σ : gS} (C : gC X b_Fo_nodesInTree_c R_Fo 1 1 20) (hR : ∀ pc lv, decode b_Fo_nodesInTree_c pc = .ok (.lreturn, 1) → G X pc lv [.long r] σ)  (h : b_Fo_nodesInTree_0 σ = some r) : G X 0 [(0, .ref (gA X 1))] [] σ := by
  unfold b_Fo_nodesInTree_0 at h
  refine r_aload_n C 0 d_Fo_nodesInTree_0 rfl rfl ?_
  refine q_Fo_9 C d_Fo_nodesInTree_1 ?_
  refine r_if_ne C (tgt := 11) d_Fo_nodesInTree_4 (by decide) (fun hc_1 => ?_) (fun hc_1 => ?_)
  · rw [if_neg hc_1] at h
    refine r_aload_n C 0 d_Fo_nodesInTree_11 rfl rfl ?_
    refine q_Fo_49 C d_Fo_nodesInTree_12 ?_
    refine r_aload_n C 0 d_Fo_nodesInTree_15 rfl rfl ?_
    obtain ⟨r_2, er_2, h⟩ := bind_some h
    refine r_callV C (As := []) (rest := [.ref (gA X 11)]) (st1 := [.int r_2, .ref (gA X 11)]) (c_Fo_root X.1.2.1 σ  er_2) k_Fo_root m_90 (by decide) cel_Fo rfl rfl rfl rfl (Nat.le_of_ble_eq_true rfl) ⟨Nat.le_of_ble_eq_true rfl, Nat.le_of_ble_eq_true rfl⟩ d_Fo_nodesInTree_16 rfl ?_
    obtain ⟨hi_3, h⟩ := ck_some h
    refine r_lald C hi_3 d_Fo_nodesInTree_19 ?_
    cases h
    exact hR _ _ d_Fo_nodesInTree_20
  · rw [if_pos hc_1] at h
    refine r_lconst C (v := 0) d_Fo_nodesInTree_7 (by decide) ?_
    refine r_goto C (tgt := 20) d_Fo_nodesInTree_8 (by decide) ?_
    cases h
    exact hR _ _ d_Fo_nodesInTree_20
set_option maxHeartbeats 4000000 in
set_option maxRecDepth 100000 in
theorem c_Fo_nodesInTree (l : Launch) (σ : gS)  {r : Int64} (h : f_Fo_nodesInTree σ = some r) : gMet l y_Fo_nodesInTree b_Fo_nodesInTree_c 1 (some .long) 1 20 (fun a => [.ref (a 1)]) σ (some (.long r)) σ := by
  refine gMet_l (by decide +kernel) (fun a => Nat.le_of_ble_eq_true rfl) (fun X _ C hR => ?_)
  refine r_sub [0] (lv' := [(0, .ref (gA X 1))]) rfl ?_
  exact t_Fo_nodesInTree_0 C hR  h
theorem d_Lo_bitCount_0 : decode b_Lo_bitCount_c 0 = .ok (.lload_n 0, 1) := by decide +kernel
theorem d_Lo_bitCount_1 : decode b_Lo_bitCount_c 1 = .ok (.lload_n 0, 1) := by decide +kernel
theorem d_Lo_bitCount_2 : decode b_Lo_bitCount_c 2 = .ok (.iconst 1, 1) := by decide +kernel
theorem d_Lo_bitCount_3 : decode b_Lo_bitCount_c 3 = .ok (.lushr, 1) := by decide +kernel
theorem d_Lo_bitCount_4 : decode b_Lo_bitCount_c 4 = .ok (.ldc2_w 314, 3) := by decide +kernel
theorem d_Lo_bitCount_7 : decode b_Lo_bitCount_c 7 = .ok (.land, 1) := by decide +kernel
theorem d_Lo_bitCount_8 : decode b_Lo_bitCount_c 8 = .ok (.lsub, 1) := by decide +kernel
theorem d_Lo_bitCount_9 : decode b_Lo_bitCount_c 9 = .ok (.lstore_n 0, 1) := by decide +kernel
theorem d_Lo_bitCount_10 : decode b_Lo_bitCount_c 10 = .ok (.lload_n 0, 1) := by decide +kernel
theorem d_Lo_bitCount_11 : decode b_Lo_bitCount_c 11 = .ok (.ldc2_w 316, 3) := by decide +kernel
theorem d_Lo_bitCount_14 : decode b_Lo_bitCount_c 14 = .ok (.land, 1) := by decide +kernel
theorem d_Lo_bitCount_15 : decode b_Lo_bitCount_c 15 = .ok (.lload_n 0, 1) := by decide +kernel
theorem d_Lo_bitCount_16 : decode b_Lo_bitCount_c 16 = .ok (.iconst 2, 1) := by decide +kernel
theorem d_Lo_bitCount_17 : decode b_Lo_bitCount_c 17 = .ok (.lushr, 1) := by decide +kernel
theorem d_Lo_bitCount_18 : decode b_Lo_bitCount_c 18 = .ok (.ldc2_w 316, 3) := by decide +kernel
theorem d_Lo_bitCount_21 : decode b_Lo_bitCount_c 21 = .ok (.land, 1) := by decide +kernel
theorem d_Lo_bitCount_22 : decode b_Lo_bitCount_c 22 = .ok (.ladd, 1) := by decide +kernel
theorem d_Lo_bitCount_23 : decode b_Lo_bitCount_c 23 = .ok (.lstore_n 0, 1) := by decide +kernel
theorem d_Lo_bitCount_24 : decode b_Lo_bitCount_c 24 = .ok (.lload_n 0, 1) := by decide +kernel
theorem d_Lo_bitCount_25 : decode b_Lo_bitCount_c 25 = .ok (.lload_n 0, 1) := by decide +kernel
theorem d_Lo_bitCount_26 : decode b_Lo_bitCount_c 26 = .ok (.iconst 4, 1) := by decide +kernel
theorem d_Lo_bitCount_27 : decode b_Lo_bitCount_c 27 = .ok (.lushr, 1) := by decide +kernel
theorem d_Lo_bitCount_28 : decode b_Lo_bitCount_c 28 = .ok (.ladd, 1) := by decide +kernel
theorem d_Lo_bitCount_29 : decode b_Lo_bitCount_c 29 = .ok (.ldc2_w 318, 3) := by decide +kernel
theorem d_Lo_bitCount_32 : decode b_Lo_bitCount_c 32 = .ok (.land, 1) := by decide +kernel
theorem d_Lo_bitCount_33 : decode b_Lo_bitCount_c 33 = .ok (.lstore_n 0, 1) := by decide +kernel
theorem d_Lo_bitCount_34 : decode b_Lo_bitCount_c 34 = .ok (.lload_n 0, 1) := by decide +kernel
theorem d_Lo_bitCount_35 : decode b_Lo_bitCount_c 35 = .ok (.lload_n 0, 1) := by decide +kernel
theorem d_Lo_bitCount_36 : decode b_Lo_bitCount_c 36 = .ok (.bipush 8, 2) := by decide +kernel
theorem d_Lo_bitCount_38 : decode b_Lo_bitCount_c 38 = .ok (.lushr, 1) := by decide +kernel
theorem d_Lo_bitCount_39 : decode b_Lo_bitCount_c 39 = .ok (.ladd, 1) := by decide +kernel
theorem d_Lo_bitCount_40 : decode b_Lo_bitCount_c 40 = .ok (.lstore_n 0, 1) := by decide +kernel
theorem d_Lo_bitCount_41 : decode b_Lo_bitCount_c 41 = .ok (.lload_n 0, 1) := by decide +kernel
theorem d_Lo_bitCount_42 : decode b_Lo_bitCount_c 42 = .ok (.lload_n 0, 1) := by decide +kernel
theorem d_Lo_bitCount_43 : decode b_Lo_bitCount_c 43 = .ok (.bipush 16, 2) := by decide +kernel
theorem d_Lo_bitCount_45 : decode b_Lo_bitCount_c 45 = .ok (.lushr, 1) := by decide +kernel
theorem d_Lo_bitCount_46 : decode b_Lo_bitCount_c 46 = .ok (.ladd, 1) := by decide +kernel
theorem d_Lo_bitCount_47 : decode b_Lo_bitCount_c 47 = .ok (.lstore_n 0, 1) := by decide +kernel
theorem d_Lo_bitCount_48 : decode b_Lo_bitCount_c 48 = .ok (.lload_n 0, 1) := by decide +kernel
theorem d_Lo_bitCount_49 : decode b_Lo_bitCount_c 49 = .ok (.lload_n 0, 1) := by decide +kernel
theorem d_Lo_bitCount_50 : decode b_Lo_bitCount_c 50 = .ok (.bipush 32, 2) := by decide +kernel
theorem d_Lo_bitCount_52 : decode b_Lo_bitCount_c 52 = .ok (.lushr, 1) := by decide +kernel
theorem d_Lo_bitCount_53 : decode b_Lo_bitCount_c 53 = .ok (.ladd, 1) := by decide +kernel
theorem d_Lo_bitCount_54 : decode b_Lo_bitCount_c 54 = .ok (.lstore_n 0, 1) := by decide +kernel
theorem d_Lo_bitCount_55 : decode b_Lo_bitCount_c 55 = .ok (.lload_n 0, 1) := by decide +kernel
theorem d_Lo_bitCount_56 : decode b_Lo_bitCount_c 56 = .ok (.l2i, 1) := by decide +kernel
theorem d_Lo_bitCount_57 : decode b_Lo_bitCount_c 57 = .ok (.bipush 127, 2) := by decide +kernel
theorem d_Lo_bitCount_59 : decode b_Lo_bitCount_c 59 = .ok (.iand, 1) := by decide +kernel
theorem d_Lo_bitCount_60 : decode b_Lo_bitCount_c 60 = .ok (.ireturn, 1) := by decide +kernel
/-! java/lang/Long.bitCount(J)I -/
set_option maxHeartbeats 4000000 in
set_option maxRecDepth 100000 in
theorem t_Lo_bitCount_0 {X : gX} {r : Int32} {σ : gS} (C : gC X b_Lo_bitCount_c R_Lo 2 0 0) (hR : ∀ pc lv, decode b_Lo_bitCount_c pc = .ok (.ireturn, 1) → G X pc lv [.int r] σ) (x0 : Int64) (h : b_Lo_bitCount_0 x0 = some r) : G X 0 [(0, .long x0)] [] σ := by
  unfold b_Lo_bitCount_0 at h
  refine r_lload_n C 0 d_Lo_bitCount_0 rfl rfl ?_
  refine r_lload_n C 0 d_Lo_bitCount_1 rfl rfl ?_
  refine r_iconst C (v := 1) d_Lo_bitCount_2 (by decide) ?_
  refine r_lushr C d_Lo_bitCount_3 ?_
  refine r_ldc2 C (v := 6148914691236517205) m_94 d_Lo_bitCount_4 ?_
  refine r_land C d_Lo_bitCount_7 ?_
  refine r_lsub C d_Lo_bitCount_8 ?_
  obtain ⟨x0_1, ex0_1, h⟩ := bnd_some h
  refine r_lstore_n C (lv' := [(0, .long x0_1)]) d_Lo_bitCount_9 rfl (by decide) ex0_1 rfl ?_
  refine r_lload_n C 0 d_Lo_bitCount_10 rfl rfl ?_
  refine r_ldc2 C (v := 3689348814741910323) m_95 d_Lo_bitCount_11 ?_
  refine r_land C d_Lo_bitCount_14 ?_
  refine r_lload_n C 0 d_Lo_bitCount_15 rfl rfl ?_
  refine r_iconst C (v := 2) d_Lo_bitCount_16 (by decide) ?_
  refine r_lushr C d_Lo_bitCount_17 ?_
  refine r_ldc2 C (v := 3689348814741910323) m_95 d_Lo_bitCount_18 ?_
  refine r_land C d_Lo_bitCount_21 ?_
  refine r_ladd C d_Lo_bitCount_22 ?_
  obtain ⟨x0_2, ex0_2, h⟩ := bnd_some h
  refine r_lstore_n C (lv' := [(0, .long x0_2)]) d_Lo_bitCount_23 rfl (by decide) ex0_2 rfl ?_
  refine r_lload_n C 0 d_Lo_bitCount_24 rfl rfl ?_
  refine r_lload_n C 0 d_Lo_bitCount_25 rfl rfl ?_
  refine r_iconst C (v := 4) d_Lo_bitCount_26 (by decide) ?_
  refine r_lushr C d_Lo_bitCount_27 ?_
  refine r_ladd C d_Lo_bitCount_28 ?_
  refine r_ldc2 C (v := 1085102592571150095) m_96 d_Lo_bitCount_29 ?_
  refine r_land C d_Lo_bitCount_32 ?_
  obtain ⟨x0_3, ex0_3, h⟩ := bnd_some h
  refine r_lstore_n C (lv' := [(0, .long x0_3)]) d_Lo_bitCount_33 rfl (by decide) ex0_3 rfl ?_
  refine r_lload_n C 0 d_Lo_bitCount_34 rfl rfl ?_
  refine r_lload_n C 0 d_Lo_bitCount_35 rfl rfl ?_
  refine r_bipush C (v := 8) d_Lo_bitCount_36 (by decide) ?_
  refine r_lushr C d_Lo_bitCount_38 ?_
  refine r_ladd C d_Lo_bitCount_39 ?_
  obtain ⟨x0_4, ex0_4, h⟩ := bnd_some h
  refine r_lstore_n C (lv' := [(0, .long x0_4)]) d_Lo_bitCount_40 rfl (by decide) ex0_4 rfl ?_
  refine r_lload_n C 0 d_Lo_bitCount_41 rfl rfl ?_
  refine r_lload_n C 0 d_Lo_bitCount_42 rfl rfl ?_
  refine r_bipush C (v := 16) d_Lo_bitCount_43 (by decide) ?_
  refine r_lushr C d_Lo_bitCount_45 ?_
  refine r_ladd C d_Lo_bitCount_46 ?_
  obtain ⟨x0_5, ex0_5, h⟩ := bnd_some h
  refine r_lstore_n C (lv' := [(0, .long x0_5)]) d_Lo_bitCount_47 rfl (by decide) ex0_5 rfl ?_
  refine r_lload_n C 0 d_Lo_bitCount_48 rfl rfl ?_
  refine r_lload_n C 0 d_Lo_bitCount_49 rfl rfl ?_
  refine r_bipush C (v := 32) d_Lo_bitCount_50 (by decide) ?_
  refine r_lushr C d_Lo_bitCount_52 ?_
  refine r_ladd C d_Lo_bitCount_53 ?_
  obtain ⟨x0_6, ex0_6, h⟩ := bnd_some h
  refine r_lstore_n C (lv' := [(0, .long x0_6)]) d_Lo_bitCount_54 rfl (by decide) ex0_6 rfl ?_
  refine r_lload_n C 0 d_Lo_bitCount_55 rfl rfl ?_
  refine r_l2i C d_Lo_bitCount_56 ?_
  refine r_bipush C (v := 127) d_Lo_bitCount_57 (by decide) ?_
  refine r_iand C d_Lo_bitCount_59 ?_
  cases h
  exact hR _ _ d_Lo_bitCount_60
set_option maxHeartbeats 4000000 in
set_option maxRecDepth 100000 in
theorem c_Lo_bitCount (l : Launch) (σ : gS) (x0 : Int64) {r : Int32} (h : f_Lo_bitCount x0 = some r) : gMet l y_Lo_bitCount b_Lo_bitCount_c 2 (some .int) 0 0 (fun a => [.long x0]) σ (some (.int r)) σ := by
  refine gMet_i (by decide +kernel) (fun a => Nat.le_of_ble_eq_true rfl) (fun X _ C hR => ?_)
  refine r_sub [0] (lv' := [(0, .long x0)]) rfl ?_
  exact t_Lo_bitCount_0 C hR x0 h
end
