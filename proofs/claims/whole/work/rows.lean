section
-- ===== PART A: goes FIRST, ahead of the names: the tables' words, and 'selects' of the private methods out of them =====
/-- a private method of a class that the tables say can be made, by its rows of tables_1 -/
def lw_okq (q : MethodName × Nat) : Prop := (q.1.cls ≠ "java/lang/invoke/MethodHandle" ∧ q.1.cls ≠ "java/lang/invoke/VarHandle") ∧ Cond.instantiable q.1.cls q.2 ∈ tables_1 ∧ Cond.privateMethod q.1 ∈ tables_1 ∧ Cond.instanceMethod q.1 ∈ tables_1
theorem lw_p0 : lw_okq (⟨"GiftLots", "begin", "(I)V"⟩, 12) := ⟨⟨by decide +kernel, by decide +kernel⟩, List.mem_of_getElem? (i := 7) (by decide +kernel), List.mem_of_getElem? (i := 15) (by decide +kernel), List.mem_of_getElem? (i := 16) (by decide +kernel)⟩
theorem lw_p1 : lw_okq (⟨"GiftLots", "everyone", "()I"⟩, 12) := ⟨⟨by decide +kernel, by decide +kernel⟩, List.mem_of_getElem? (i := 7) (by decide +kernel), List.mem_of_getElem? (i := 19) (by decide +kernel), List.mem_of_getElem? (i := 20) (by decide +kernel)⟩
theorem lw_p2 : lw_okq (⟨"GiftLots", "refusePair", "(II)I"⟩, 12) := ⟨⟨by decide +kernel, by decide +kernel⟩, List.mem_of_getElem? (i := 7) (by decide +kernel), List.mem_of_getElem? (i := 72) (by decide +kernel), List.mem_of_getElem? (i := 73) (by decide +kernel)⟩
theorem lw_p3 : lw_okq (⟨"GiftLots", "isOne", "(I)Z"⟩, 12) := ⟨⟨by decide +kernel, by decide +kernel⟩, List.mem_of_getElem? (i := 7) (by decide +kernel), List.mem_of_getElem? (i := 76) (by decide +kernel), List.mem_of_getElem? (i := 77) (by decide +kernel)⟩
theorem lw_p4 : lw_okq (⟨"GiftLots", "mayGive", "(II)Z"⟩, 12) := ⟨⟨by decide +kernel, by decide +kernel⟩, List.mem_of_getElem? (i := 7) (by decide +kernel), List.mem_of_getElem? (i := 80) (by decide +kernel), List.mem_of_getElem? (i := 81) (by decide +kernel)⟩
theorem lw_p5 : lw_okq (⟨"GiftLots", "barPair", "(II)I"⟩, 12) := ⟨⟨by decide +kernel, by decide +kernel⟩, List.mem_of_getElem? (i := 7) (by decide +kernel), List.mem_of_getElem? (i := 84) (by decide +kernel), List.mem_of_getElem? (i := 85) (by decide +kernel)⟩
theorem lw_p6 : lw_okq (⟨"GiftLots", "openRows", "()V"⟩, 12) := ⟨⟨by decide +kernel, by decide +kernel⟩, List.mem_of_getElem? (i := 7) (by decide +kernel), List.mem_of_getElem? (i := 104) (by decide +kernel), List.mem_of_getElem? (i := 105) (by decide +kernel)⟩
theorem lw_p7 : lw_okq (⟨"GiftLots", "countWays", "(I)I"⟩, 12) := ⟨⟨by decide +kernel, by decide +kernel⟩, List.mem_of_getElem? (i := 7) (by decide +kernel), List.mem_of_getElem? (i := 111) (by decide +kernel), List.mem_of_getElem? (i := 112) (by decide +kernel)⟩
theorem lw_p8 : lw_okq (⟨"GiftLots", "closeRounds", "(I)V"⟩, 12) := ⟨⟨by decide +kernel, by decide +kernel⟩, List.mem_of_getElem? (i := 7) (by decide +kernel), List.mem_of_getElem? (i := 115) (by decide +kernel), List.mem_of_getElem? (i := 116) (by decide +kernel)⟩
theorem lw_p9 : lw_okq (⟨"GiftLots", "lengthenChains", "(I)I"⟩, 12) := ⟨⟨by decide +kernel, by decide +kernel⟩, List.mem_of_getElem? (i := 7) (by decide +kernel), List.mem_of_getElem? (i := 125) (by decide +kernel), List.mem_of_getElem? (i := 126) (by decide +kernel)⟩
theorem lw_p10 : lw_okq (⟨"GiftLots", "takeOutRound", "(I)I"⟩, 12) := ⟨⟨by decide +kernel, by decide +kernel⟩, List.mem_of_getElem? (i := 7) (by decide +kernel), List.mem_of_getElem? (i := 135) (by decide +kernel), List.mem_of_getElem? (i := 136) (by decide +kernel)⟩
theorem lw_p11 : lw_okq (⟨"GiftLots", "findWay", "(I)Z"⟩, 12) := ⟨⟨by decide +kernel, by decide +kernel⟩, List.mem_of_getElem? (i := 7) (by decide +kernel), List.mem_of_getElem? (i := 147) (by decide +kernel), List.mem_of_getElem? (i := 148) (by decide +kernel)⟩
theorem lw_p12 : lw_okq (⟨"GiftLots", "chooseGetter", "(III)I"⟩, 12) := ⟨⟨by decide +kernel, by decide +kernel⟩, List.mem_of_getElem? (i := 7) (by decide +kernel), List.mem_of_getElem? (i := 151) (by decide +kernel), List.mem_of_getElem? (i := 152) (by decide +kernel)⟩
theorem lw_p13 : lw_okq (⟨"GiftLots", "countSplits", "(I)I"⟩, 12) := ⟨⟨by decide +kernel, by decide +kernel⟩, List.mem_of_getElem? (i := 7) (by decide +kernel), List.mem_of_getElem? (i := 159) (by decide +kernel), List.mem_of_getElem? (i := 160) (by decide +kernel)⟩
theorem lw_p14 : lw_okq (⟨"GiftLots", "countGiving", "(II)I"⟩, 12) := ⟨⟨by decide +kernel, by decide +kernel⟩, List.mem_of_getElem? (i := 7) (by decide +kernel), List.mem_of_getElem? (i := 167) (by decide +kernel), List.mem_of_getElem? (i := 168) (by decide +kernel)⟩
theorem lw_p15 : lw_okq (⟨"GiftLots", "narrow", "(II)V"⟩, 12) := ⟨⟨by decide +kernel, by decide +kernel⟩, List.mem_of_getElem? (i := 7) (by decide +kernel), List.mem_of_getElem? (i := 171) (by decide +kernel), List.mem_of_getElem? (i := 172) (by decide +kernel)⟩
def lw_privs_1 : List (MethodName × Nat) := [(⟨"GiftLots", "begin", "(I)V"⟩, 12), (⟨"GiftLots", "everyone", "()I"⟩, 12), (⟨"GiftLots", "refusePair", "(II)I"⟩, 12), (⟨"GiftLots", "isOne", "(I)Z"⟩, 12), (⟨"GiftLots", "mayGive", "(II)Z"⟩, 12), (⟨"GiftLots", "barPair", "(II)I"⟩, 12), (⟨"GiftLots", "openRows", "()V"⟩, 12), (⟨"GiftLots", "countWays", "(I)I"⟩, 12), (⟨"GiftLots", "closeRounds", "(I)V"⟩, 12), (⟨"GiftLots", "lengthenChains", "(I)I"⟩, 12), (⟨"GiftLots", "takeOutRound", "(I)I"⟩, 12), (⟨"GiftLots", "findWay", "(I)Z"⟩, 12), (⟨"GiftLots", "chooseGetter", "(III)I"⟩, 12), (⟨"GiftLots", "countSplits", "(I)I"⟩, 12), (⟨"GiftLots", "countGiving", "(II)I"⟩, 12), (⟨"GiftLots", "narrow", "(II)V"⟩, 12)]
theorem lw_r1 : ∀ q ∈ lw_privs_1, lw_okq q := List.forall_mem_cons.mpr ⟨lw_p0, List.forall_mem_cons.mpr ⟨lw_p1, List.forall_mem_cons.mpr ⟨lw_p2, List.forall_mem_cons.mpr ⟨lw_p3, List.forall_mem_cons.mpr ⟨lw_p4, List.forall_mem_cons.mpr ⟨lw_p5, List.forall_mem_cons.mpr ⟨lw_p6, List.forall_mem_cons.mpr ⟨lw_p7, List.forall_mem_cons.mpr ⟨lw_p8, List.forall_mem_cons.mpr ⟨lw_p9, List.forall_mem_cons.mpr ⟨lw_p10, List.forall_mem_cons.mpr ⟨lw_p11, List.forall_mem_cons.mpr ⟨lw_p12, List.forall_mem_cons.mpr ⟨lw_p13, List.forall_mem_cons.mpr ⟨lw_p14, List.forall_mem_cons.mpr ⟨lw_p15, fun _ h => absurd h List.not_mem_nil⟩⟩⟩⟩⟩⟩⟩⟩⟩⟩⟩⟩⟩⟩⟩⟩
theorem lw_p16 : lw_okq (⟨"GiftLots", "placeRooks", "()V"⟩, 12) := ⟨⟨by decide +kernel, by decide +kernel⟩, List.mem_of_getElem? (i := 7) (by decide +kernel), List.mem_of_getElem? (i := 179) (by decide +kernel), List.mem_of_getElem? (i := 180) (by decide +kernel)⟩
theorem lw_p17 : lw_okq (⟨"GiftLots", "sumWithoutOne", "(II)I"⟩, 12) := ⟨⟨by decide +kernel, by decide +kernel⟩, List.mem_of_getElem? (i := 7) (by decide +kernel), List.mem_of_getElem? (i := 183) (by decide +kernel), List.mem_of_getElem? (i := 184) (by decide +kernel)⟩
theorem lw_p18 : lw_okq (⟨"GiftLots", "gettersOf", "(I)I"⟩, 12) := ⟨⟨by decide +kernel, by decide +kernel⟩, List.mem_of_getElem? (i := 7) (by decide +kernel), List.mem_of_getElem? (i := 191) (by decide +kernel), List.mem_of_getElem? (i := 192) (by decide +kernel)⟩
theorem lw_p19 : lw_okq (⟨"GiftLots", "isTakenFromOther", "(II)Z"⟩, 12) := ⟨⟨by decide +kernel, by decide +kernel⟩, List.mem_of_getElem? (i := 7) (by decide +kernel), List.mem_of_getElem? (i := 202) (by decide +kernel), List.mem_of_getElem? (i := 203) (by decide +kernel)⟩
theorem lw_p20 : lw_okq (⟨"GiftLots", "refuseHand", "()I"⟩, 12) := ⟨⟨by decide +kernel, by decide +kernel⟩, List.mem_of_getElem? (i := 7) (by decide +kernel), List.mem_of_getElem? (i := 218) (by decide +kernel), List.mem_of_getElem? (i := 219) (by decide +kernel)⟩
theorem lw_p21 : lw_okq (⟨"GiftLots", "givesBelow", "(I)Z"⟩, 12) := ⟨⟨by decide +kernel, by decide +kernel⟩, List.mem_of_getElem? (i := 7) (by decide +kernel), List.mem_of_getElem? (i := 222) (by decide +kernel), List.mem_of_getElem? (i := 223) (by decide +kernel)⟩
theorem lw_p22 : lw_okq (⟨"GiftLots", "givesAlike", "(II)Z"⟩, 12) := ⟨⟨by decide +kernel, by decide +kernel⟩, List.mem_of_getElem? (i := 7) (by decide +kernel), List.mem_of_getElem? (i := 238) (by decide +kernel), List.mem_of_getElem? (i := 239) (by decide +kernel)⟩
theorem lw_p23 : lw_okq (⟨"GiftLots", "refuseFall", "(I)I"⟩, 12) := ⟨⟨by decide +kernel, by decide +kernel⟩, List.mem_of_getElem? (i := 7) (by decide +kernel), List.mem_of_getElem? (i := 246) (by decide +kernel), List.mem_of_getElem? (i := 247) (by decide +kernel)⟩
theorem lw_p24 : lw_okq (⟨"GiftLots", "findMends", "(I)V"⟩, 12) := ⟨⟨by decide +kernel, by decide +kernel⟩, List.mem_of_getElem? (i := 7) (by decide +kernel), List.mem_of_getElem? (i := 250) (by decide +kernel), List.mem_of_getElem? (i := 251) (by decide +kernel)⟩
theorem lw_p25 : lw_okq (⟨"GiftLots", "layMend", "(IIII)V"⟩, 12) := ⟨⟨by decide +kernel, by decide +kernel⟩, List.mem_of_getElem? (i := 7) (by decide +kernel), List.mem_of_getElem? (i := 254) (by decide +kernel), List.mem_of_getElem? (i := 255) (by decide +kernel)⟩
theorem lw_p26 : lw_okq (⟨"GiftLots", "judgeMend", "(II)V"⟩, 12) := ⟨⟨by decide +kernel, by decide +kernel⟩, List.mem_of_getElem? (i := 7) (by decide +kernel), List.mem_of_getElem? (i := 258) (by decide +kernel), List.mem_of_getElem? (i := 259) (by decide +kernel)⟩
theorem lw_p27 : lw_okq (⟨"GiftLots", "hasLongRounds", "(I)Z"⟩, 12) := ⟨⟨by decide +kernel, by decide +kernel⟩, List.mem_of_getElem? (i := 7) (by decide +kernel), List.mem_of_getElem? (i := 262) (by decide +kernel), List.mem_of_getElem? (i := 263) (by decide +kernel)⟩
theorem lw_p28 : lw_okq (⟨"GiftLots", "roundFrom", "(I)I"⟩, 12) := ⟨⟨by decide +kernel, by decide +kernel⟩, List.mem_of_getElem? (i := 7) (by decide +kernel), List.mem_of_getElem? (i := 266) (by decide +kernel), List.mem_of_getElem? (i := 267) (by decide +kernel)⟩
theorem lw_p29 : lw_okq (⟨"GiftLots", "countPairs", "()I"⟩, 12) := ⟨⟨by decide +kernel, by decide +kernel⟩, List.mem_of_getElem? (i := 7) (by decide +kernel), List.mem_of_getElem? (i := 282) (by decide +kernel), List.mem_of_getElem? (i := 283) (by decide +kernel)⟩
theorem lw_p30 : lw_okq (⟨"GiftLots", "countGivers", "()I"⟩, 12) := ⟨⟨by decide +kernel, by decide +kernel⟩, List.mem_of_getElem? (i := 7) (by decide +kernel), List.mem_of_getElem? (i := 286) (by decide +kernel), List.mem_of_getElem? (i := 287) (by decide +kernel)⟩
theorem lw_p31 : lw_okq (⟨"GiftLotsModel", "begin", "()V"⟩, 11) := ⟨⟨by decide +kernel, by decide +kernel⟩, List.mem_of_getElem? (i := 290) (by decide +kernel), List.mem_of_getElem? (i := 296) (by decide +kernel), List.mem_of_getElem? (i := 297) (by decide +kernel)⟩
def lw_privs_2 : List (MethodName × Nat) := [(⟨"GiftLots", "placeRooks", "()V"⟩, 12), (⟨"GiftLots", "sumWithoutOne", "(II)I"⟩, 12), (⟨"GiftLots", "gettersOf", "(I)I"⟩, 12), (⟨"GiftLots", "isTakenFromOther", "(II)Z"⟩, 12), (⟨"GiftLots", "refuseHand", "()I"⟩, 12), (⟨"GiftLots", "givesBelow", "(I)Z"⟩, 12), (⟨"GiftLots", "givesAlike", "(II)Z"⟩, 12), (⟨"GiftLots", "refuseFall", "(I)I"⟩, 12), (⟨"GiftLots", "findMends", "(I)V"⟩, 12), (⟨"GiftLots", "layMend", "(IIII)V"⟩, 12), (⟨"GiftLots", "judgeMend", "(II)V"⟩, 12), (⟨"GiftLots", "hasLongRounds", "(I)Z"⟩, 12), (⟨"GiftLots", "roundFrom", "(I)I"⟩, 12), (⟨"GiftLots", "countPairs", "()I"⟩, 12), (⟨"GiftLots", "countGivers", "()I"⟩, 12), (⟨"GiftLotsModel", "begin", "()V"⟩, 11)]
theorem lw_r2 : ∀ q ∈ lw_privs_2, lw_okq q := List.forall_mem_cons.mpr ⟨lw_p16, List.forall_mem_cons.mpr ⟨lw_p17, List.forall_mem_cons.mpr ⟨lw_p18, List.forall_mem_cons.mpr ⟨lw_p19, List.forall_mem_cons.mpr ⟨lw_p20, List.forall_mem_cons.mpr ⟨lw_p21, List.forall_mem_cons.mpr ⟨lw_p22, List.forall_mem_cons.mpr ⟨lw_p23, List.forall_mem_cons.mpr ⟨lw_p24, List.forall_mem_cons.mpr ⟨lw_p25, List.forall_mem_cons.mpr ⟨lw_p26, List.forall_mem_cons.mpr ⟨lw_p27, List.forall_mem_cons.mpr ⟨lw_p28, List.forall_mem_cons.mpr ⟨lw_p29, List.forall_mem_cons.mpr ⟨lw_p30, List.forall_mem_cons.mpr ⟨lw_p31, fun _ h => absurd h List.not_mem_nil⟩⟩⟩⟩⟩⟩⟩⟩⟩⟩⟩⟩⟩⟩⟩⟩
theorem lw_p32 : lw_okq (⟨"GiftLotsModel", "isOne", "(I)Z"⟩, 11) := ⟨⟨by decide +kernel, by decide +kernel⟩, List.mem_of_getElem? (i := 290) (by decide +kernel), List.mem_of_getElem? (i := 345) (by decide +kernel), List.mem_of_getElem? (i := 346) (by decide +kernel)⟩
theorem lw_p33 : lw_okq (⟨"GiftLotsModel", "all", "()I"⟩, 11) := ⟨⟨by decide +kernel, by decide +kernel⟩, List.mem_of_getElem? (i := 290) (by decide +kernel), List.mem_of_getElem? (i := 366) (by decide +kernel), List.mem_of_getElem? (i := 367) (by decide +kernel)⟩
theorem lw_p34 : lw_okq (⟨"GiftLotsModel", "start", "(IZ)V"⟩, 11) := ⟨⟨by decide +kernel, by decide +kernel⟩, List.mem_of_getElem? (i := 290) (by decide +kernel), List.mem_of_getElem? (i := 370) (by decide +kernel), List.mem_of_getElem? (i := 371) (by decide +kernel)⟩
theorem lw_p35 : lw_okq (⟨"GiftLotsModel", "next", "()Z"⟩, 11) := ⟨⟨by decide +kernel, by decide +kernel⟩, List.mem_of_getElem? (i := 290) (by decide +kernel), List.mem_of_getElem? (i := 374) (by decide +kernel), List.mem_of_getElem? (i := 375) (by decide +kernel)⟩
theorem lw_p36 : lw_okq (⟨"GiftLotsModel", "after", "(II)I"⟩, 11) := ⟨⟨by decide +kernel, by decide +kernel⟩, List.mem_of_getElem? (i := 290) (by decide +kernel), List.mem_of_getElem? (i := 378) (by decide +kernel), List.mem_of_getElem? (i := 379) (by decide +kernel)⟩
theorem lw_p37 : lw_okq (⟨"GiftLotsModel", "gotten", "()I"⟩, 11) := ⟨⟨by decide +kernel, by decide +kernel⟩, List.mem_of_getElem? (i := 290) (by decide +kernel), List.mem_of_getElem? (i := 382) (by decide +kernel), List.mem_of_getElem? (i := 383) (by decide +kernel)⟩
theorem lw_p38 : lw_okq (⟨"GiftLotsModel", "areLong", "()Z"⟩, 11) := ⟨⟨by decide +kernel, by decide +kernel⟩, List.mem_of_getElem? (i := 290) (by decide +kernel), List.mem_of_getElem? (i := 386) (by decide +kernel), List.mem_of_getElem? (i := 387) (by decide +kernel)⟩
theorem lw_p39 : lw_okq (⟨"GiftLotsModel", "roundOf", "(I)I"⟩, 11) := ⟨⟨by decide +kernel, by decide +kernel⟩, List.mem_of_getElem? (i := 290) (by decide +kernel), List.mem_of_getElem? (i := 390) (by decide +kernel), List.mem_of_getElem? (i := 391) (by decide +kernel)⟩
theorem lw_p40 : lw_okq (⟨"GiftLotsModel", "goTo", "(I)Z"⟩, 11) := ⟨⟨by decide +kernel, by decide +kernel⟩, List.mem_of_getElem? (i := 290) (by decide +kernel), List.mem_of_getElem? (i := 402) (by decide +kernel), List.mem_of_getElem? (i := 403) (by decide +kernel)⟩
theorem lw_p41 : lw_okq (⟨"GiftLotsModel", "roundsNow", "()I"⟩, 11) := ⟨⟨by decide +kernel, by decide +kernel⟩, List.mem_of_getElem? (i := 290) (by decide +kernel), List.mem_of_getElem? (i := 410) (by decide +kernel), List.mem_of_getElem? (i := 411) (by decide +kernel)⟩
theorem lw_p42 : lw_okq (⟨"GiftLotsModel", "waysWith", "(II)I"⟩, 11) := ⟨⟨by decide +kernel, by decide +kernel⟩, List.mem_of_getElem? (i := 290) (by decide +kernel), List.mem_of_getElem? (i := 418) (by decide +kernel), List.mem_of_getElem? (i := 419) (by decide +kernel)⟩
theorem lw_p43 : lw_okq (⟨"GiftLotsModel", "handMany", "()I"⟩, 11) := ⟨⟨by decide +kernel, by decide +kernel⟩, List.mem_of_getElem? (i := 290) (by decide +kernel), List.mem_of_getElem? (i := 449) (by decide +kernel), List.mem_of_getElem? (i := 450) (by decide +kernel)⟩
theorem lw_p44 : lw_okq (⟨"GiftLotsModel", "agrees", "(I)Z"⟩, 11) := ⟨⟨by decide +kernel, by decide +kernel⟩, List.mem_of_getElem? (i := 290) (by decide +kernel), List.mem_of_getElem? (i := 453) (by decide +kernel), List.mem_of_getElem? (i := 454) (by decide +kernel)⟩
theorem lw_p45 : lw_okq (⟨"GiftLotsModel", "mendAll", "(I)I"⟩, 11) := ⟨⟨by decide +kernel, by decide +kernel⟩, List.mem_of_getElem? (i := 290) (by decide +kernel), List.mem_of_getElem? (i := 473) (by decide +kernel), List.mem_of_getElem? (i := 474) (by decide +kernel)⟩
def lw_privs_3 : List (MethodName × Nat) := [(⟨"GiftLotsModel", "isOne", "(I)Z"⟩, 11), (⟨"GiftLotsModel", "all", "()I"⟩, 11), (⟨"GiftLotsModel", "start", "(IZ)V"⟩, 11), (⟨"GiftLotsModel", "next", "()Z"⟩, 11), (⟨"GiftLotsModel", "after", "(II)I"⟩, 11), (⟨"GiftLotsModel", "gotten", "()I"⟩, 11), (⟨"GiftLotsModel", "areLong", "()Z"⟩, 11), (⟨"GiftLotsModel", "roundOf", "(I)I"⟩, 11), (⟨"GiftLotsModel", "goTo", "(I)Z"⟩, 11), (⟨"GiftLotsModel", "roundsNow", "()I"⟩, 11), (⟨"GiftLotsModel", "waysWith", "(II)I"⟩, 11), (⟨"GiftLotsModel", "handMany", "()I"⟩, 11), (⟨"GiftLotsModel", "agrees", "(I)Z"⟩, 11), (⟨"GiftLotsModel", "mendAll", "(I)I"⟩, 11)]
theorem lw_r3 : ∀ q ∈ lw_privs_3, lw_okq q := List.forall_mem_cons.mpr ⟨lw_p32, List.forall_mem_cons.mpr ⟨lw_p33, List.forall_mem_cons.mpr ⟨lw_p34, List.forall_mem_cons.mpr ⟨lw_p35, List.forall_mem_cons.mpr ⟨lw_p36, List.forall_mem_cons.mpr ⟨lw_p37, List.forall_mem_cons.mpr ⟨lw_p38, List.forall_mem_cons.mpr ⟨lw_p39, List.forall_mem_cons.mpr ⟨lw_p40, List.forall_mem_cons.mpr ⟨lw_p41, List.forall_mem_cons.mpr ⟨lw_p42, List.forall_mem_cons.mpr ⟨lw_p43, List.forall_mem_cons.mpr ⟨lw_p44, List.forall_mem_cons.mpr ⟨lw_p45, fun _ h => absurd h List.not_mem_nil⟩⟩⟩⟩⟩⟩⟩⟩⟩⟩⟩⟩⟩⟩
def lw_privs : List (MethodName × Nat) := lw_privs_1 ++ (lw_privs_2 ++ (lw_privs_3))
def lw_tbl : List Cond := k2_sels lw_privs ++ tables_1
theorem lw_privs_ok : ∀ q ∈ lw_privs, lw_okq q := by
  show ∀ q ∈ lw_privs_1 ++ (lw_privs_2 ++ (lw_privs_3)), lw_okq q
  exact List.forall_mem_append.mpr ⟨lw_r1, List.forall_mem_append.mpr ⟨lw_r2, lw_r3⟩⟩
-- ===== end of PART A; then your names; then what follows =====
end
section
/-! ===== BEGIN words of one list among another's, by their places ===== -/
theorem goodIn_r {big : List Cond} (ws : List Cond) (ps : List Nat) (hp : ws = ps.filterMap (fun i => big[i]?)) (h : ws.all goodWord = true) : GoodIn big ws := by
  intro w hw
  have h1 := List.all_eq_true.mp h w hw
  rw [hp] at hw
  obtain ⟨i, -, hi⟩ := List.mem_filterMap.mp hw
  have hm : w ∈ big := by first | exact List.mem_of_getElem? hi | exact List.getElem?_mem hi
  exact ⟨hm, good_of_word h1⟩
theorem goodIn_app {big a b : List Cond} (ha : GoodIn big a) (hb : GoodIn big b) : GoodIn big (a ++ b) := fun w h => (List.mem_append.mp h).elim (ha w) (hb w)
theorem goodIn_ca {big a b : List Cond} {c : Cond} (ha : GoodIn big (c :: a)) (hb : GoodIn big b) : GoodIn big (c :: (a ++ b)) := fun w h => (List.mem_cons.mp h).elim (fun e => ha w (List.mem_cons.mpr (Or.inl e))) (fun h => (List.mem_append.mp h).elim (fun h => ha w (List.mem_cons.mpr (Or.inr h))) (hb w))
theorem goodIn_sub {big ws : List Cond} (hm : ∀ w ∈ ws, w ∈ big) (h : ws.all goodWord = true) : GoodIn big ws := fun w hw => ⟨hm w hw, good_of_word (List.all_eq_true.mp h w hw)⟩
/-! ===== END ===== -/

/-! ===== BEGIN printed: names, fields, word lists, decode rows ===== -/
def RX0 : String := "GiftLots"
def TX0 : u_T := fun k => match k with
  | 0 => ("GiftLots", "count", "I", false)
  | 1 => ("GiftLots", "shortest", "I", false)
  | 2 => ("GiftLots", "board", "[I", true)
  | 3 => ("GiftLots", "hand", "[I", true)
  | 4 => ("GiftLots", "rows", "[I", true)
  | 5 => ("GiftLots", "chains", "[I", true)
  | 6 => ("GiftLots", "closed", "[I", true)
  | 7 => ("GiftLots", "splits", "[I", true)
  | 8 => ("GiftLots", "trial", "[I", true)
  | 9 => ("GiftLots", "firstMend", "[I", true)
  | 10 => ("GiftLots", "fewestChanges", "I", false)
  | _ => ("GiftLots", "mendsFound", "I", false)
def tyX0 : Nat → FieldType := fun k => match k with
  | 0 => .int
  | 1 => .int
  | 2 => .array .int
  | 3 => .array .int
  | 4 => .array .int
  | 5 => .array .int
  | 6 => .array .int
  | 7 => .array .int
  | 8 => .array .int
  | 9 => .array .int
  | 10 => .int
  | _ => .int
abbrev wsX00 : List Cond := u_ws RX0 TX0 12
theorem nmX0 : ∀ a, a < 12 → ∀ b, b < 12 → a ≠ b → (TX0 a).2.1 ≠ (TX0 b).2.1 := by decide +kernel
theorem tyX0_ok : ∀ k, k < 12 → parseFieldDescriptor (TX0 k).2.2.1 = some (tyX0 k) := by decide +kernel
abbrev cX0_init : ByteArray := prog_1_method_1_code
def yX0_init : MethodName := ⟨RX0, "<init>", "()V"⟩
abbrev cX0_ones : ByteArray := prog_1_method_2_code
def yX0_ones : MethodName := ⟨RX0, "ones", "(I)I"⟩
abbrev cX0_may : ByteArray := prog_1_method_3_code
def yX0_may : MethodName := ⟨RX0, "may", "(IIZ)I"⟩
abbrev cX0_couple : ByteArray := prog_1_method_4_code
def yX0_couple : MethodName := ⟨RX0, "couple", "(II)I"⟩
abbrev cX0_bar : ByteArray := prog_1_method_5_code
def yX0_bar : MethodName := ⟨RX0, "bar", "()I"⟩
abbrev cX0_least : ByteArray := prog_1_method_6_code
def yX0_least : MethodName := ⟨RX0, "least", "(I)I"⟩
abbrev cX0_ways : ByteArray := prog_1_method_7_code
def yX0_ways : MethodName := ⟨RX0, "ways", "()I"⟩
abbrev cX0_free : ByteArray := prog_1_method_8_code
def yX0_free : MethodName := ⟨RX0, "free", "()I"⟩
abbrev cX0_way : ByteArray := prog_1_method_9_code
def yX0_way : MethodName := ⟨RX0, "way", "(II)I"⟩
abbrev cX0_rounds : ByteArray := prog_1_method_10_code
def yX0_rounds : MethodName := ⟨RX0, "rounds", "(I)I"⟩
abbrev cX0_both : ByteArray := prog_1_method_11_code
def yX0_both : MethodName := ⟨RX0, "both", "(II)I"⟩
abbrev cX0_rooks : ByteArray := prog_1_method_12_code
def yX0_rooks : MethodName := ⟨RX0, "rooks", "(I)I"⟩
abbrev cX0_heap : ByteArray := prog_1_method_13_code
def yX0_heap : MethodName := ⟨RX0, "heap", "()I"⟩
abbrev cX0_lay : ByteArray := prog_1_method_14_code
def yX0_lay : MethodName := ⟨RX0, "lay", "(II)I"⟩
abbrev cX0_laid : ByteArray := prog_1_method_15_code
def yX0_laid : MethodName := ⟨RX0, "laid", "(I)I"⟩
abbrev cX0_draw : ByteArray := prog_1_method_16_code
def yX0_draw : MethodName := ⟨RX0, "draw", "(I)I"⟩
abbrev cX0_rank : ByteArray := prog_1_method_17_code
def yX0_rank : MethodName := ⟨RX0, "rank", "()I"⟩
abbrev cX0_share : ByteArray := prog_1_method_18_code
def yX0_share : MethodName := ⟨RX0, "share", "(II)I"⟩
abbrev cX0_knows : ByteArray := prog_1_method_19_code
def yX0_knows : MethodName := ⟨RX0, "knows", "(I)I"⟩
abbrev cX0_sure : ByteArray := prog_1_method_20_code
def yX0_sure : MethodName := ⟨RX0, "sure", "(II)I"⟩
abbrev cX0_changes : ByteArray := prog_1_method_21_code
def yX0_changes : MethodName := ⟨RX0, "changes", "(I)I"⟩
abbrev cX0_mends : ByteArray := prog_1_method_22_code
def yX0_mends : MethodName := ⟨RX0, "mends", "(I)I"⟩
abbrev cX0_mend : ByteArray := prog_1_method_23_code
def yX0_mend : MethodName := ⟨RX0, "mend", "(II)I"⟩
abbrev cX0_told : ByteArray := prog_1_method_24_code
def yX0_told : MethodName := ⟨RX0, "told", "(I)I"⟩
abbrev cX0_begin : ByteArray := prog_1_method_25_code
def yX0_begin : MethodName := ⟨RX0, "begin", "(I)V"⟩
abbrev cX0_isOne : ByteArray := prog_1_method_26_code
def yX0_isOne : MethodName := ⟨RX0, "isOne", "(I)Z"⟩
abbrev cX0_bit : ByteArray := prog_1_method_27_code
def yX0_bit : MethodName := ⟨RX0, "bit", "(I)I"⟩
abbrev cX0_everyone : ByteArray := prog_1_method_28_code
def yX0_everyone : MethodName := ⟨RX0, "everyone", "()I"⟩
abbrev cX0_mayGive : ByteArray := prog_1_method_29_code
def yX0_mayGive : MethodName := ⟨RX0, "mayGive", "(II)Z"⟩
abbrev cX0_refusePair : ByteArray := prog_1_method_30_code
def yX0_refusePair : MethodName := ⟨RX0, "refusePair", "(II)I"⟩
abbrev cX0_barPair : ByteArray := prog_1_method_31_code
def yX0_barPair : MethodName := ⟨RX0, "barPair", "(II)I"⟩
abbrev cX0_countPairs : ByteArray := prog_1_method_32_code
def yX0_countPairs : MethodName := ⟨RX0, "countPairs", "()I"⟩
abbrev cX0_countGivers : ByteArray := prog_1_method_33_code
def yX0_countGivers : MethodName := ⟨RX0, "countGivers", "()I"⟩
abbrev cX0_isTakenFromOther : ByteArray := prog_1_method_34_code
def yX0_isTakenFromOther : MethodName := ⟨RX0, "isTakenFromOther", "(II)Z"⟩
abbrev cX0_givesBelow : ByteArray := prog_1_method_35_code
def yX0_givesBelow : MethodName := ⟨RX0, "givesBelow", "(I)Z"⟩
abbrev cX0_refuseHand : ByteArray := prog_1_method_36_code
def yX0_refuseHand : MethodName := ⟨RX0, "refuseHand", "()I"⟩
abbrev cX0_refuseFall : ByteArray := prog_1_method_37_code
def yX0_refuseFall : MethodName := ⟨RX0, "refuseFall", "(I)I"⟩
abbrev cX0_openRows : ByteArray := prog_1_method_38_code
def yX0_openRows : MethodName := ⟨RX0, "openRows", "()V"⟩
abbrev cX0_narrow : ByteArray := prog_1_method_39_code
def yX0_narrow : MethodName := ⟨RX0, "narrow", "(II)V"⟩
abbrev cX0_countGiving : ByteArray := prog_1_method_40_code
def yX0_countGiving : MethodName := ⟨RX0, "countGiving", "(II)I"⟩
abbrev cX0_givesAlike : ByteArray := prog_1_method_41_code
def yX0_givesAlike : MethodName := ⟨RX0, "givesAlike", "(II)Z"⟩
abbrev cX0_countWays : ByteArray := prog_1_method_42_code
def yX0_countWays : MethodName := ⟨RX0, "countWays", "(I)I"⟩
abbrev cX0_countSplits : ByteArray := prog_1_method_43_code
def yX0_countSplits : MethodName := ⟨RX0, "countSplits", "(I)I"⟩
abbrev cX0_takeOutRound : ByteArray := prog_1_method_44_code
def yX0_takeOutRound : MethodName := ⟨RX0, "takeOutRound", "(I)I"⟩
abbrev cX0_closeRounds : ByteArray := prog_1_method_45_code
def yX0_closeRounds : MethodName := ⟨RX0, "closeRounds", "(I)V"⟩
abbrev cX0_chainAt : ByteArray := prog_1_method_46_code
def yX0_chainAt : MethodName := ⟨RX0, "chainAt", "(II)I"⟩
abbrev cX0_lengthenChains : ByteArray := prog_1_method_47_code
def yX0_lengthenChains : MethodName := ⟨RX0, "lengthenChains", "(I)I"⟩
abbrev cX0_findWay : ByteArray := prog_1_method_48_code
def yX0_findWay : MethodName := ⟨RX0, "findWay", "(I)Z"⟩
abbrev cX0_chooseGetter : ByteArray := prog_1_method_49_code
def yX0_chooseGetter : MethodName := ⟨RX0, "chooseGetter", "(III)I"⟩
abbrev cX0_placeRooks : ByteArray := prog_1_method_50_code
def yX0_placeRooks : MethodName := ⟨RX0, "placeRooks", "()V"⟩
abbrev cX0_sumWithoutOne : ByteArray := prog_1_method_51_code
def yX0_sumWithoutOne : MethodName := ⟨RX0, "sumWithoutOne", "(II)I"⟩
abbrev cX0_gettersOf : ByteArray := prog_1_method_52_code
def yX0_gettersOf : MethodName := ⟨RX0, "gettersOf", "(I)I"⟩
abbrev cX0_isHeapBefore : ByteArray := prog_1_method_53_code
def yX0_isHeapBefore : MethodName := ⟨RX0, "isHeapBefore", "(II)Z"⟩
abbrev cX0_findMends : ByteArray := prog_1_method_54_code
def yX0_findMends : MethodName := ⟨RX0, "findMends", "(I)V"⟩
abbrev cX0_layMend : ByteArray := prog_1_method_55_code
def yX0_layMend : MethodName := ⟨RX0, "layMend", "(IIII)V"⟩
abbrev cX0_judgeMend : ByteArray := prog_1_method_56_code
def yX0_judgeMend : MethodName := ⟨RX0, "judgeMend", "(II)V"⟩
abbrev cX0_hasLongRounds : ByteArray := prog_1_method_57_code
def yX0_hasLongRounds : MethodName := ⟨RX0, "hasLongRounds", "(I)Z"⟩
abbrev cX0_roundFrom : ByteArray := prog_1_method_58_code
def yX0_roundFrom : MethodName := ⟨RX0, "roundFrom", "(I)I"⟩
def RX1 : String := "GiftLotsModel"
def TX1 : u_T := fun k => match k with
  | 0 => ("GiftLotsModel", "ones", "I", false)
  | 1 => ("GiftLotsModel", "least", "I", false)
  | 2 => ("GiftLotsModel", "may", "[I", true)
  | 3 => ("GiftLotsModel", "hand", "[I", true)
  | 4 => ("GiftLotsModel", "who", "I", false)
  | 5 => ("GiftLotsModel", "anyRounds", "Z", false)
  | 6 => ("GiftLotsModel", "gives", "[I", true)
  | 7 => ("GiftLotsModel", "put", "[I", true)
  | 8 => ("GiftLotsModel", "fewest", "I", false)
  | 9 => ("GiftLotsModel", "many", "I", false)
  | _ => ("GiftLotsModel", "first", "[I", true)
def tyX1 : Nat → FieldType := fun k => match k with
  | 0 => .int
  | 1 => .int
  | 2 => .array .int
  | 3 => .array .int
  | 4 => .int
  | 5 => .boolean
  | 6 => .array .int
  | 7 => .array .int
  | 8 => .int
  | 9 => .int
  | _ => .array .int
abbrev wsX10 : List Cond := u_ws RX1 TX1 11
theorem nmX1 : ∀ a, a < 11 → ∀ b, b < 11 → a ≠ b → (TX1 a).2.1 ≠ (TX1 b).2.1 := by decide +kernel
theorem tyX1_ok : ∀ k, k < 11 → parseFieldDescriptor (TX1 k).2.2.1 = some (tyX1 k) := by decide +kernel
abbrev cX1_init : ByteArray := prog_3_method_1_code
def yX1_init : MethodName := ⟨RX1, "<init>", "()V"⟩
abbrev cX1_in : ByteArray := prog_3_method_2_code
def yX1_in : MethodName := ⟨RX1, "in", "(III)Z"⟩
abbrev cX1_isOne : ByteArray := prog_3_method_3_code
def yX1_isOne : MethodName := ⟨RX1, "isOne", "(I)Z"⟩
abbrev cX1_begin : ByteArray := prog_3_method_4_code
def yX1_begin : MethodName := ⟨RX1, "begin", "()V"⟩
abbrev cX1_ones : ByteArray := prog_3_method_5_code
def yX1_ones : MethodName := ⟨RX1, "ones", "(I)I"⟩
abbrev cX1_may : ByteArray := prog_3_method_6_code
def yX1_may : MethodName := ⟨RX1, "may", "(IIZ)I"⟩
abbrev cX1_couple : ByteArray := prog_3_method_7_code
def yX1_couple : MethodName := ⟨RX1, "couple", "(II)I"⟩
abbrev cX1_bar : ByteArray := prog_3_method_8_code
def yX1_bar : MethodName := ⟨RX1, "bar", "()I"⟩
abbrev cX1_least : ByteArray := prog_3_method_9_code
def yX1_least : MethodName := ⟨RX1, "least", "(I)I"⟩
abbrev cX1_start : ByteArray := prog_3_method_10_code
def yX1_start : MethodName := ⟨RX1, "start", "(IZ)V"⟩
abbrev cX1_after : ByteArray := prog_3_method_11_code
def yX1_after : MethodName := ⟨RX1, "after", "(II)I"⟩
abbrev cX1_gotten : ByteArray := prog_3_method_12_code
def yX1_gotten : MethodName := ⟨RX1, "gotten", "()I"⟩
abbrev cX1_roundOf : ByteArray := prog_3_method_13_code
def yX1_roundOf : MethodName := ⟨RX1, "roundOf", "(I)I"⟩
abbrev cX1_areLong : ByteArray := prog_3_method_14_code
def yX1_areLong : MethodName := ⟨RX1, "areLong", "()Z"⟩
abbrev cX1_next : ByteArray := prog_3_method_15_code
def yX1_next : MethodName := ⟨RX1, "next", "()Z"⟩
abbrev cX1_all : ByteArray := prog_3_method_16_code
def yX1_all : MethodName := ⟨RX1, "all", "()I"⟩
abbrev cX1_ways : ByteArray := prog_3_method_17_code
def yX1_ways : MethodName := ⟨RX1, "ways", "()I"⟩
abbrev cX1_free : ByteArray := prog_3_method_18_code
def yX1_free : MethodName := ⟨RX1, "free", "()I"⟩
abbrev cX1_goTo : ByteArray := prog_3_method_19_code
def yX1_goTo : MethodName := ⟨RX1, "goTo", "(I)Z"⟩
abbrev cX1_way : ByteArray := prog_3_method_20_code
def yX1_way : MethodName := ⟨RX1, "way", "(II)I"⟩
abbrev cX1_roundsNow : ByteArray := prog_3_method_21_code
def yX1_roundsNow : MethodName := ⟨RX1, "roundsNow", "()I"⟩
abbrev cX1_rounds : ByteArray := prog_3_method_22_code
def yX1_rounds : MethodName := ⟨RX1, "rounds", "(I)I"⟩
abbrev cX1_waysWith : ByteArray := prog_3_method_23_code
def yX1_waysWith : MethodName := ⟨RX1, "waysWith", "(II)I"⟩
abbrev cX1_both : ByteArray := prog_3_method_24_code
def yX1_both : MethodName := ⟨RX1, "both", "(II)I"⟩
abbrev cX1_bits : ByteArray := prog_3_method_25_code
def yX1_bits : MethodName := ⟨RX1, "bits", "(I)I"⟩
abbrev cX1_rooks : ByteArray := prog_3_method_26_code
def yX1_rooks : MethodName := ⟨RX1, "rooks", "(I)I"⟩
abbrev cX1_heap : ByteArray := prog_3_method_27_code
def yX1_heap : MethodName := ⟨RX1, "heap", "()I"⟩
abbrev cX1_lay : ByteArray := prog_3_method_28_code
def yX1_lay : MethodName := ⟨RX1, "lay", "(II)I"⟩
abbrev cX1_laid : ByteArray := prog_3_method_29_code
def yX1_laid : MethodName := ⟨RX1, "laid", "(I)I"⟩
abbrev cX1_draw : ByteArray := prog_3_method_30_code
def yX1_draw : MethodName := ⟨RX1, "draw", "(I)I"⟩
abbrev cX1_handMany : ByteArray := prog_3_method_31_code
def yX1_handMany : MethodName := ⟨RX1, "handMany", "()I"⟩
abbrev cX1_agrees : ByteArray := prog_3_method_32_code
def yX1_agrees : MethodName := ⟨RX1, "agrees", "(I)Z"⟩
abbrev cX1_rank : ByteArray := prog_3_method_33_code
def yX1_rank : MethodName := ⟨RX1, "rank", "()I"⟩
abbrev cX1_share : ByteArray := prog_3_method_34_code
def yX1_share : MethodName := ⟨RX1, "share", "(II)I"⟩
abbrev cX1_knows : ByteArray := prog_3_method_35_code
def yX1_knows : MethodName := ⟨RX1, "knows", "(I)I"⟩
abbrev cX1_sure : ByteArray := prog_3_method_36_code
def yX1_sure : MethodName := ⟨RX1, "sure", "(II)I"⟩
abbrev cX1_mendAll : ByteArray := prog_3_method_37_code
def yX1_mendAll : MethodName := ⟨RX1, "mendAll", "(I)I"⟩
abbrev cX1_changes : ByteArray := prog_3_method_38_code
def yX1_changes : MethodName := ⟨RX1, "changes", "(I)I"⟩
abbrev cX1_mends : ByteArray := prog_3_method_39_code
def yX1_mends : MethodName := ⟨RX1, "mends", "(I)I"⟩
abbrev cX1_mend : ByteArray := prog_3_method_40_code
def yX1_mend : MethodName := ⟨RX1, "mend", "(II)I"⟩
abbrev cX1_told : ByteArray := prog_3_method_41_code
def yX1_told : MethodName := ⟨RX1, "told", "(I)I"⟩
def RJ6 : String := "java/lang/Integer"
def TJ6 : u_T := fun k => match k with
  | _ => ("", "", "", false)
def tyJ6 : Nat → FieldType := fun k => match k with
  | _ => .int
abbrev wsJ60 : List Cond := u_ws RJ6 TJ6 0
theorem nmJ6 : ∀ a, a < 0 → ∀ b, b < 0 → a ≠ b → (TJ6 a).2.1 ≠ (TJ6 b).2.1 := by decide +kernel
theorem tyJ6_ok : ∀ k, k < 0 → parseFieldDescriptor (TJ6 k).2.2.1 = some (tyJ6 k) := by decide +kernel
abbrev cJ6_bitCount_0f7a4 : ByteArray := prog_4_method_49_code
def yJ6_bitCount_0f7a4 : MethodName := ⟨RJ6, "bitCount", "(I)I"⟩
def RJ10 : String := "java/lang/System"
def TJ10 : u_T := fun k => match k with
  | _ => ("", "", "", false)
def tyJ10 : Nat → FieldType := fun k => match k with
  | _ => .int
abbrev wsJ100 : List Cond := u_ws RJ10 TJ10 0
theorem nmJ10 : ∀ a, a < 0 → ∀ b, b < 0 → a ≠ b → (TJ10 a).2.1 ≠ (TJ10 b).2.1 := by decide +kernel
theorem tyJ10_ok : ∀ k, k < 0 → parseFieldDescriptor (TJ10 k).2.2.1 = some (tyJ10 k) := by decide +kernel
def RJ7 : String := "java/util/Arrays"
def TJ7 : u_T := fun k => match k with
  | _ => ("", "", "", false)
def tyJ7 : Nat → FieldType := fun k => match k with
  | _ => .int
abbrev wsJ70 : List Cond := u_ws RJ7 TJ7 0
theorem nmJ7 : ∀ a, a < 0 → ∀ b, b < 0 → a ≠ b → (TJ7 a).2.1 ≠ (TJ7 b).2.1 := by decide +kernel
theorem tyJ7_ok : ∀ k, k < 0 → parseFieldDescriptor (TJ7 k).2.2.1 = some (tyJ7 k) := by decide +kernel
abbrev cJ7_fill_53178 : ByteArray := prog_6_method_103_code
def yJ7_fill_53178 : MethodName := ⟨RJ7, "fill", "([II)V"⟩
def RL : String := "GiftLotsLaw"
abbrev cL_law : ByteArray := code
def yL_law : MethodName := ⟨RL, "law", "([I)Z"⟩
def wsX0_everyone : List Cond := .code yX0_everyone cX0_everyone 1 (some .int) :: ([.fieldLink RX0 38 "GiftLots" "count" "I"] ++ wsX00)
def wsX0_bit : List Cond := .code yX0_bit cX0_bit 1 (some .int) :: ([])
def wsX0_begin : List Cond := .code yX0_begin cX0_begin 3 none :: ([.fieldLink RX0 38 "GiftLots" "count" "I", .fieldLink RX0 57 "GiftLots" "shortest" "I", .fieldLink RX0 9 "GiftLots" "board" "[I", .fieldLink RX0 13 "GiftLots" "hand" "[I", .methodLink RX0 85 yX0_everyone, .instanceMethod yX0_everyone, .selects RX0 yX0_everyone yX0_everyone, .initialized RX0, .code yX0_everyone cX0_everyone 1 (some .int), .methodLink RX0 50 yX0_bit, .static yX0_bit, .code yX0_bit cX0_bit 1 (some .int)] ++ wsX00)
def wsX0_init_r1 : List Cond := [Cond.methodLink RX0 3 objectInit, Cond.instanceMethod objectInit, Cond.code objectInit ⟨#[0xb1]⟩ 1 none, Cond.arrayClass .int, Cond.fieldLink RX0 9 "GiftLots" "board" "[I", Cond.fieldLink RX0 13 "GiftLots" "hand" "[I", Cond.fieldLink RX0 16 "GiftLots" "rows" "[I", Cond.fieldLink RX0 19 "GiftLots" "chains" "[I", Cond.fieldLink RX0 22 "GiftLots" "closed" "[I", Cond.fieldLink RX0 25 "GiftLots" "splits" "[I", Cond.fieldLink RX0 28 "GiftLots" "trial" "[I", Cond.fieldLink RX0 31 "GiftLots" "firstMend" "[I", Cond.methodLink RX0 34 yX0_begin, Cond.instanceMethod yX0_begin, Cond.selects RX0 yX0_begin yX0_begin, Cond.initialized RX0, Cond.code yX0_begin cX0_begin 3 none, Cond.fieldLink RX0 38 "GiftLots" "count" "I", Cond.fieldLink RX0 57 "GiftLots" "shortest" "I", Cond.methodLink RX0 85 yX0_everyone, Cond.instanceMethod yX0_everyone, Cond.selects RX0 yX0_everyone yX0_everyone, Cond.code yX0_everyone cX0_everyone 1 (some .int), Cond.methodLink RX0 50 yX0_bit]
def wsX0_init_r2 : List Cond := [Cond.static yX0_bit, Cond.code yX0_bit cX0_bit 1 (some .int)]
def wsX0_init : List Cond := .code yX0_init cX0_init 1 none :: ((wsX0_init_r1 ++ wsX0_init_r2) ++ wsX00)
def wsX0_ones : List Cond := .code yX0_ones cX0_ones 3 (some .int) :: ([.fieldLink RX0 38 "GiftLots" "count" "I", .methodLink RX0 34 yX0_begin, .instanceMethod yX0_begin, .selects RX0 yX0_begin yX0_begin, .initialized RX0, .code yX0_begin cX0_begin 3 none, .fieldLink RX0 57 "GiftLots" "shortest" "I", .fieldLink RX0 9 "GiftLots" "board" "[I", .fieldLink RX0 13 "GiftLots" "hand" "[I", .methodLink RX0 85 yX0_everyone, .instanceMethod yX0_everyone, .selects RX0 yX0_everyone yX0_everyone, .code yX0_everyone cX0_everyone 1 (some .int), .methodLink RX0 50 yX0_bit, .static yX0_bit, .code yX0_bit cX0_bit 1 (some .int)] ++ wsX00)
def wsX0_isOne : List Cond := .code yX0_isOne cX0_isOne 2 (some .boolean) :: ([.fieldLink RX0 38 "GiftLots" "count" "I"] ++ wsX00)
def wsX0_refusePair : List Cond := .code yX0_refusePair cX0_refusePair 3 (some .int) :: ([.methodLink RX0 66 yX0_isOne, .instanceMethod yX0_isOne, .selects RX0 yX0_isOne yX0_isOne, .initialized RX0, .code yX0_isOne cX0_isOne 2 (some .boolean), .fieldLink RX0 38 "GiftLots" "count" "I"] ++ wsX00)
def wsX0_mayGive : List Cond := .code yX0_mayGive cX0_mayGive 3 (some .boolean) :: ([.fieldLink RX0 9 "GiftLots" "board" "[I", .methodLink RX0 66 yX0_isOne, .instanceMethod yX0_isOne, .selects RX0 yX0_isOne yX0_isOne, .initialized RX0, .code yX0_isOne cX0_isOne 2 (some .boolean), .fieldLink RX0 38 "GiftLots" "count" "I", .methodLink RX0 50 yX0_bit, .static yX0_bit, .code yX0_bit cX0_bit 1 (some .int)] ++ wsX00)
def wsX0_barPair : List Cond := .code yX0_barPair cX0_barPair 3 (some .int) :: ([.fieldLink RX0 9 "GiftLots" "board" "[I", .methodLink RX0 46 yX0_mayGive, .instanceMethod yX0_mayGive, .selects RX0 yX0_mayGive yX0_mayGive, .initialized RX0, .code yX0_mayGive cX0_mayGive 3 (some .boolean), .methodLink RX0 66 yX0_isOne, .instanceMethod yX0_isOne, .selects RX0 yX0_isOne yX0_isOne, .code yX0_isOne cX0_isOne 2 (some .boolean), .fieldLink RX0 38 "GiftLots" "count" "I", .methodLink RX0 50 yX0_bit, .static yX0_bit, .code yX0_bit cX0_bit 1 (some .int)] ++ wsX00)
def wsX0_may : List Cond := .code yX0_may cX0_may 6 (some .int) :: ([.fieldLink RX0 9 "GiftLots" "board" "[I", .methodLink RX0 42 yX0_refusePair, .instanceMethod yX0_refusePair, .selects RX0 yX0_refusePair yX0_refusePair, .initialized RX0, .code yX0_refusePair cX0_refusePair 3 (some .int), .methodLink RX0 66 yX0_isOne, .instanceMethod yX0_isOne, .selects RX0 yX0_isOne yX0_isOne, .code yX0_isOne cX0_isOne 2 (some .boolean), .fieldLink RX0 38 "GiftLots" "count" "I", .methodLink RX0 46 yX0_mayGive, .instanceMethod yX0_mayGive, .selects RX0 yX0_mayGive yX0_mayGive, .code yX0_mayGive cX0_mayGive 3 (some .boolean), .methodLink RX0 50 yX0_bit, .static yX0_bit, .code yX0_bit cX0_bit 1 (some .int), .methodLink RX0 54 yX0_barPair, .instanceMethod yX0_barPair, .selects RX0 yX0_barPair yX0_barPair, .code yX0_barPair cX0_barPair 3 (some .int)] ++ wsX00)
def wsX0_couple : List Cond := .code yX0_couple cX0_couple 4 (some .int) :: ([.methodLink RX0 42 yX0_refusePair, .instanceMethod yX0_refusePair, .selects RX0 yX0_refusePair yX0_refusePair, .initialized RX0, .code yX0_refusePair cX0_refusePair 3 (some .int), .methodLink RX0 66 yX0_isOne, .instanceMethod yX0_isOne, .selects RX0 yX0_isOne yX0_isOne, .code yX0_isOne cX0_isOne 2 (some .boolean), .fieldLink RX0 38 "GiftLots" "count" "I", .methodLink RX0 54 yX0_barPair, .instanceMethod yX0_barPair, .selects RX0 yX0_barPair yX0_barPair, .code yX0_barPair cX0_barPair 3 (some .int), .fieldLink RX0 9 "GiftLots" "board" "[I", .methodLink RX0 46 yX0_mayGive, .instanceMethod yX0_mayGive, .selects RX0 yX0_mayGive yX0_mayGive, .code yX0_mayGive cX0_mayGive 3 (some .boolean), .methodLink RX0 50 yX0_bit, .static yX0_bit, .code yX0_bit cX0_bit 1 (some .int)] ++ wsX00)
def wsX0_bar : List Cond := .code yX0_bar cX0_bar 3 (some .int) :: ([.fieldLink RX0 38 "GiftLots" "count" "I", .fieldLink RX0 13 "GiftLots" "hand" "[I", .methodLink RX0 54 yX0_barPair, .instanceMethod yX0_barPair, .selects RX0 yX0_barPair yX0_barPair, .initialized RX0, .code yX0_barPair cX0_barPair 3 (some .int), .fieldLink RX0 9 "GiftLots" "board" "[I", .methodLink RX0 46 yX0_mayGive, .instanceMethod yX0_mayGive, .selects RX0 yX0_mayGive yX0_mayGive, .code yX0_mayGive cX0_mayGive 3 (some .boolean), .methodLink RX0 66 yX0_isOne, .instanceMethod yX0_isOne, .selects RX0 yX0_isOne yX0_isOne, .code yX0_isOne cX0_isOne 2 (some .boolean), .methodLink RX0 50 yX0_bit, .static yX0_bit, .code yX0_bit cX0_bit 1 (some .int)] ++ wsX00)
def wsX0_least : List Cond := .code yX0_least cX0_least 3 (some .int) :: ([.fieldLink RX0 57 "GiftLots" "shortest" "I"] ++ wsX00)
def wsX0_openRows : List Cond := .code yX0_openRows cX0_openRows 1 none :: ([.fieldLink RX0 9 "GiftLots" "board" "[I", .fieldLink RX0 16 "GiftLots" "rows" "[I", .methodLink RX0 103 arraycopyName, .native arraycopyName, .static arraycopyName, .initialized "java/lang/System"] ++ wsX00)
def wsJ7_fill_53178 : List Cond := .code yJ7_fill_53178 cJ7_fill_53178 4 none :: ([])
def wsX0_chainAt : List Cond := .code yX0_chainAt cX0_chainAt 2 (some .int) :: ([])
def wsX0_lengthenChains : List Cond := .code yX0_lengthenChains cX0_lengthenChains 9 (some .int) :: ([.fieldLink RX0 38 "GiftLots" "count" "I", .fieldLink RX0 19 "GiftLots" "chains" "[I", .fieldLink RX0 16 "GiftLots" "rows" "[I", .methodLink RX0 85 yX0_everyone, .instanceMethod yX0_everyone, .selects RX0 yX0_everyone yX0_everyone, .initialized RX0, .code yX0_everyone cX0_everyone 1 (some .int), .methodLink RX0 149 yX0_chainAt, .static yX0_chainAt, .code yX0_chainAt cX0_chainAt 2 (some .int), .methodLink RX0 50 yX0_bit, .static yX0_bit, .code yX0_bit cX0_bit 1 (some .int)] ++ wsX00)
def wsJ6_bitCount_0f7a4 : List Cond := .code yJ6_bitCount_0f7a4 cJ6_bitCount_0f7a4 1 (some .int) :: ([.constant RJ6 265 (1431655765), .constant RJ6 266 (858993459), .constant RJ6 267 (252645135)])
def wsX0_closeRounds_r1 : List Cond := [Cond.fieldLink RX0 19 "GiftLots" "chains" "[I", Cond.fieldLink RX0 38 "GiftLots" "count" "I", Cond.fieldLink RX0 22 "GiftLots" "closed" "[I", Cond.methodLink RX0 85 yX0_everyone, Cond.instanceMethod yX0_everyone, Cond.selects RX0 yX0_everyone yX0_everyone, Cond.initialized RX0, Cond.code yX0_everyone cX0_everyone 1 (some .int), Cond.methodLink RX0 143 yJ7_fill_53178, Cond.static yJ7_fill_53178, Cond.initialized RJ7, Cond.code yJ7_fill_53178 cJ7_fill_53178 4 none, Cond.methodLink RX0 50 yX0_bit, Cond.static yX0_bit, Cond.code yX0_bit cX0_bit 1 (some .int), Cond.methodLink RX0 149 yX0_chainAt, Cond.static yX0_chainAt, Cond.code yX0_chainAt cX0_chainAt 2 (some .int), Cond.methodLink RX0 152 yX0_lengthenChains, Cond.instanceMethod yX0_lengthenChains, Cond.selects RX0 yX0_lengthenChains yX0_lengthenChains, Cond.code yX0_lengthenChains cX0_lengthenChains 9 (some .int), Cond.fieldLink RX0 16 "GiftLots" "rows" "[I", Cond.methodLink RX0 89 yJ6_bitCount_0f7a4]
def wsX0_closeRounds_r2 : List Cond := [Cond.static yJ6_bitCount_0f7a4, Cond.initialized RJ6, Cond.code yJ6_bitCount_0f7a4 cJ6_bitCount_0f7a4 1 (some .int), Cond.constant RJ6 265 (1431655765), Cond.constant RJ6 266 (858993459), Cond.constant RJ6 267 (252645135)]
def wsX0_closeRounds : List Cond := .code yX0_closeRounds cX0_closeRounds 5 none :: ((wsX0_closeRounds_r1 ++ wsX0_closeRounds_r2) ++ wsX00)
def wsX0_takeOutRound : List Cond := .code yX0_takeOutRound cX0_takeOutRound 6 (some .int) :: ([.fieldLink RX0 22 "GiftLots" "closed" "[I", .fieldLink RX0 25 "GiftLots" "splits" "[I"] ++ wsX00)
def wsX0_countWays_r1 : List Cond := [Cond.fieldLink RX0 25 "GiftLots" "splits" "[I", Cond.methodLink RX0 73 yX0_closeRounds, Cond.instanceMethod yX0_closeRounds, Cond.selects RX0 yX0_closeRounds yX0_closeRounds, Cond.initialized RX0, Cond.code yX0_closeRounds cX0_closeRounds 5 none, Cond.fieldLink RX0 19 "GiftLots" "chains" "[I", Cond.fieldLink RX0 38 "GiftLots" "count" "I", Cond.fieldLink RX0 22 "GiftLots" "closed" "[I", Cond.methodLink RX0 85 yX0_everyone, Cond.instanceMethod yX0_everyone, Cond.selects RX0 yX0_everyone yX0_everyone, Cond.code yX0_everyone cX0_everyone 1 (some .int), Cond.methodLink RX0 143 yJ7_fill_53178, Cond.static yJ7_fill_53178, Cond.initialized RJ7, Cond.code yJ7_fill_53178 cJ7_fill_53178 4 none, Cond.methodLink RX0 50 yX0_bit, Cond.static yX0_bit, Cond.code yX0_bit cX0_bit 1 (some .int), Cond.methodLink RX0 149 yX0_chainAt, Cond.static yX0_chainAt, Cond.code yX0_chainAt cX0_chainAt 2 (some .int), Cond.methodLink RX0 152 yX0_lengthenChains]
def wsX0_countWays_r2 : List Cond := [Cond.instanceMethod yX0_lengthenChains, Cond.selects RX0 yX0_lengthenChains yX0_lengthenChains, Cond.code yX0_lengthenChains cX0_lengthenChains 9 (some .int), Cond.fieldLink RX0 16 "GiftLots" "rows" "[I", Cond.methodLink RX0 89 yJ6_bitCount_0f7a4, Cond.static yJ6_bitCount_0f7a4, Cond.initialized RJ6, Cond.code yJ6_bitCount_0f7a4 cJ6_bitCount_0f7a4 1 (some .int), Cond.constant RJ6 265 (1431655765), Cond.constant RJ6 266 (858993459), Cond.constant RJ6 267 (252645135), Cond.methodLink RX0 140 yX0_takeOutRound, Cond.instanceMethod yX0_takeOutRound, Cond.selects RX0 yX0_takeOutRound yX0_takeOutRound, Cond.code yX0_takeOutRound cX0_takeOutRound 6 (some .int)]
def wsX0_countWays : List Cond := .code yX0_countWays cX0_countWays 4 (some .int) :: ((wsX0_countWays_r1 ++ wsX0_countWays_r2) ++ wsX00)
def wsX0_ways_r1 : List Cond := [Cond.fieldLink RX0 57 "GiftLots" "shortest" "I", Cond.methodLink RX0 60 yX0_openRows, Cond.instanceMethod yX0_openRows, Cond.selects RX0 yX0_openRows yX0_openRows, Cond.initialized RX0, Cond.code yX0_openRows cX0_openRows 1 none, Cond.fieldLink RX0 9 "GiftLots" "board" "[I", Cond.fieldLink RX0 16 "GiftLots" "rows" "[I", Cond.methodLink RX0 103 arraycopyName, Cond.native arraycopyName, Cond.static arraycopyName, Cond.initialized "java/lang/System", Cond.methodLink RX0 63 yX0_countWays, Cond.instanceMethod yX0_countWays, Cond.selects RX0 yX0_countWays yX0_countWays, Cond.code yX0_countWays cX0_countWays 4 (some .int), Cond.fieldLink RX0 25 "GiftLots" "splits" "[I", Cond.methodLink RX0 73 yX0_closeRounds, Cond.instanceMethod yX0_closeRounds, Cond.selects RX0 yX0_closeRounds yX0_closeRounds, Cond.code yX0_closeRounds cX0_closeRounds 5 none, Cond.fieldLink RX0 19 "GiftLots" "chains" "[I", Cond.fieldLink RX0 38 "GiftLots" "count" "I", Cond.fieldLink RX0 22 "GiftLots" "closed" "[I"]
def wsX0_ways_r2 : List Cond := [Cond.methodLink RX0 85 yX0_everyone, Cond.instanceMethod yX0_everyone, Cond.selects RX0 yX0_everyone yX0_everyone, Cond.code yX0_everyone cX0_everyone 1 (some .int), Cond.methodLink RX0 143 yJ7_fill_53178, Cond.static yJ7_fill_53178, Cond.initialized RJ7, Cond.code yJ7_fill_53178 cJ7_fill_53178 4 none, Cond.methodLink RX0 50 yX0_bit, Cond.static yX0_bit, Cond.code yX0_bit cX0_bit 1 (some .int), Cond.methodLink RX0 149 yX0_chainAt, Cond.static yX0_chainAt, Cond.code yX0_chainAt cX0_chainAt 2 (some .int), Cond.methodLink RX0 152 yX0_lengthenChains, Cond.instanceMethod yX0_lengthenChains, Cond.selects RX0 yX0_lengthenChains yX0_lengthenChains, Cond.code yX0_lengthenChains cX0_lengthenChains 9 (some .int), Cond.methodLink RX0 89 yJ6_bitCount_0f7a4, Cond.static yJ6_bitCount_0f7a4, Cond.initialized RJ6, Cond.code yJ6_bitCount_0f7a4 cJ6_bitCount_0f7a4 1 (some .int), Cond.constant RJ6 265 (1431655765), Cond.constant RJ6 266 (858993459)]
def wsX0_ways_r3 : List Cond := [Cond.constant RJ6 267 (252645135), Cond.methodLink RX0 140 yX0_takeOutRound, Cond.instanceMethod yX0_takeOutRound, Cond.selects RX0 yX0_takeOutRound yX0_takeOutRound, Cond.code yX0_takeOutRound cX0_takeOutRound 6 (some .int)]
def wsX0_ways : List Cond := .code yX0_ways cX0_ways 1 (some .int) :: ((wsX0_ways_r1 ++ (wsX0_ways_r2 ++ wsX0_ways_r3)) ++ wsX00)
def wsX0_free_r1 : List Cond := [Cond.methodLink RX0 60 yX0_openRows, Cond.instanceMethod yX0_openRows, Cond.selects RX0 yX0_openRows yX0_openRows, Cond.initialized RX0, Cond.code yX0_openRows cX0_openRows 1 none, Cond.fieldLink RX0 9 "GiftLots" "board" "[I", Cond.fieldLink RX0 16 "GiftLots" "rows" "[I", Cond.methodLink RX0 103 arraycopyName, Cond.native arraycopyName, Cond.static arraycopyName, Cond.initialized "java/lang/System", Cond.methodLink RX0 63 yX0_countWays, Cond.instanceMethod yX0_countWays, Cond.selects RX0 yX0_countWays yX0_countWays, Cond.code yX0_countWays cX0_countWays 4 (some .int), Cond.fieldLink RX0 25 "GiftLots" "splits" "[I", Cond.methodLink RX0 73 yX0_closeRounds, Cond.instanceMethod yX0_closeRounds, Cond.selects RX0 yX0_closeRounds yX0_closeRounds, Cond.code yX0_closeRounds cX0_closeRounds 5 none, Cond.fieldLink RX0 19 "GiftLots" "chains" "[I", Cond.fieldLink RX0 38 "GiftLots" "count" "I", Cond.fieldLink RX0 22 "GiftLots" "closed" "[I", Cond.methodLink RX0 85 yX0_everyone]
def wsX0_free_r2 : List Cond := [Cond.instanceMethod yX0_everyone, Cond.selects RX0 yX0_everyone yX0_everyone, Cond.code yX0_everyone cX0_everyone 1 (some .int), Cond.methodLink RX0 143 yJ7_fill_53178, Cond.static yJ7_fill_53178, Cond.initialized RJ7, Cond.code yJ7_fill_53178 cJ7_fill_53178 4 none, Cond.methodLink RX0 50 yX0_bit, Cond.static yX0_bit, Cond.code yX0_bit cX0_bit 1 (some .int), Cond.methodLink RX0 149 yX0_chainAt, Cond.static yX0_chainAt, Cond.code yX0_chainAt cX0_chainAt 2 (some .int), Cond.methodLink RX0 152 yX0_lengthenChains, Cond.instanceMethod yX0_lengthenChains, Cond.selects RX0 yX0_lengthenChains yX0_lengthenChains, Cond.code yX0_lengthenChains cX0_lengthenChains 9 (some .int), Cond.methodLink RX0 89 yJ6_bitCount_0f7a4, Cond.static yJ6_bitCount_0f7a4, Cond.initialized RJ6, Cond.code yJ6_bitCount_0f7a4 cJ6_bitCount_0f7a4 1 (some .int), Cond.constant RJ6 265 (1431655765), Cond.constant RJ6 266 (858993459), Cond.constant RJ6 267 (252645135)]
def wsX0_free_r3 : List Cond := [Cond.methodLink RX0 140 yX0_takeOutRound, Cond.instanceMethod yX0_takeOutRound, Cond.selects RX0 yX0_takeOutRound yX0_takeOutRound, Cond.code yX0_takeOutRound cX0_takeOutRound 6 (some .int)]
def wsX0_free : List Cond := .code yX0_free cX0_free 1 (some .int) :: ((wsX0_free_r1 ++ (wsX0_free_r2 ++ wsX0_free_r3)) ++ wsX00)
def wsX0_chooseGetter_r1 : List Cond := [Cond.fieldLink RX0 38 "GiftLots" "count" "I", Cond.fieldLink RX0 16 "GiftLots" "rows" "[I", Cond.fieldLink RX0 57 "GiftLots" "shortest" "I", Cond.fieldLink RX0 28 "GiftLots" "trial" "[I", Cond.methodLink RX0 66 yX0_isOne, Cond.instanceMethod yX0_isOne, Cond.selects RX0 yX0_isOne yX0_isOne, Cond.initialized RX0, Cond.code yX0_isOne cX0_isOne 2 (some .boolean), Cond.methodLink RX0 50 yX0_bit, Cond.static yX0_bit, Cond.code yX0_bit cX0_bit 1 (some .int), Cond.methodLink RX0 63 yX0_countWays, Cond.instanceMethod yX0_countWays, Cond.selects RX0 yX0_countWays yX0_countWays, Cond.code yX0_countWays cX0_countWays 4 (some .int), Cond.fieldLink RX0 25 "GiftLots" "splits" "[I", Cond.methodLink RX0 73 yX0_closeRounds, Cond.instanceMethod yX0_closeRounds, Cond.selects RX0 yX0_closeRounds yX0_closeRounds, Cond.code yX0_closeRounds cX0_closeRounds 5 none, Cond.fieldLink RX0 19 "GiftLots" "chains" "[I", Cond.fieldLink RX0 22 "GiftLots" "closed" "[I", Cond.methodLink RX0 85 yX0_everyone]
def wsX0_chooseGetter_r2 : List Cond := [Cond.instanceMethod yX0_everyone, Cond.selects RX0 yX0_everyone yX0_everyone, Cond.code yX0_everyone cX0_everyone 1 (some .int), Cond.methodLink RX0 143 yJ7_fill_53178, Cond.static yJ7_fill_53178, Cond.initialized RJ7, Cond.code yJ7_fill_53178 cJ7_fill_53178 4 none, Cond.methodLink RX0 149 yX0_chainAt, Cond.static yX0_chainAt, Cond.code yX0_chainAt cX0_chainAt 2 (some .int), Cond.methodLink RX0 152 yX0_lengthenChains, Cond.instanceMethod yX0_lengthenChains, Cond.selects RX0 yX0_lengthenChains yX0_lengthenChains, Cond.code yX0_lengthenChains cX0_lengthenChains 9 (some .int), Cond.methodLink RX0 89 yJ6_bitCount_0f7a4, Cond.static yJ6_bitCount_0f7a4, Cond.initialized RJ6, Cond.code yJ6_bitCount_0f7a4 cJ6_bitCount_0f7a4 1 (some .int), Cond.constant RJ6 265 (1431655765), Cond.constant RJ6 266 (858993459), Cond.constant RJ6 267 (252645135), Cond.methodLink RX0 140 yX0_takeOutRound, Cond.instanceMethod yX0_takeOutRound, Cond.selects RX0 yX0_takeOutRound yX0_takeOutRound]
def wsX0_chooseGetter_r3 : List Cond := [Cond.code yX0_takeOutRound cX0_takeOutRound 6 (some .int)]
def wsX0_chooseGetter : List Cond := .code yX0_chooseGetter cX0_chooseGetter 7 (some .int) :: ((wsX0_chooseGetter_r1 ++ (wsX0_chooseGetter_r2 ++ wsX0_chooseGetter_r3)) ++ wsX00)
def wsX0_findWay_r1 : List Cond := [Cond.fieldLink RX0 38 "GiftLots" "count" "I", Cond.fieldLink RX0 16 "GiftLots" "rows" "[I", Cond.fieldLink RX0 28 "GiftLots" "trial" "[I", Cond.methodLink RX0 60 yX0_openRows, Cond.instanceMethod yX0_openRows, Cond.selects RX0 yX0_openRows yX0_openRows, Cond.initialized RX0, Cond.code yX0_openRows cX0_openRows 1 none, Cond.fieldLink RX0 9 "GiftLots" "board" "[I", Cond.methodLink RX0 103 arraycopyName, Cond.native arraycopyName, Cond.static arraycopyName, Cond.initialized "java/lang/System", Cond.methodLink RX0 155 yX0_chooseGetter, Cond.instanceMethod yX0_chooseGetter, Cond.selects RX0 yX0_chooseGetter yX0_chooseGetter, Cond.code yX0_chooseGetter cX0_chooseGetter 7 (some .int), Cond.fieldLink RX0 57 "GiftLots" "shortest" "I", Cond.methodLink RX0 66 yX0_isOne, Cond.instanceMethod yX0_isOne, Cond.selects RX0 yX0_isOne yX0_isOne, Cond.code yX0_isOne cX0_isOne 2 (some .boolean), Cond.methodLink RX0 50 yX0_bit, Cond.static yX0_bit]
def wsX0_findWay_r2 : List Cond := [Cond.code yX0_bit cX0_bit 1 (some .int), Cond.methodLink RX0 63 yX0_countWays, Cond.instanceMethod yX0_countWays, Cond.selects RX0 yX0_countWays yX0_countWays, Cond.code yX0_countWays cX0_countWays 4 (some .int), Cond.fieldLink RX0 25 "GiftLots" "splits" "[I", Cond.methodLink RX0 73 yX0_closeRounds, Cond.instanceMethod yX0_closeRounds, Cond.selects RX0 yX0_closeRounds yX0_closeRounds, Cond.code yX0_closeRounds cX0_closeRounds 5 none, Cond.fieldLink RX0 19 "GiftLots" "chains" "[I", Cond.fieldLink RX0 22 "GiftLots" "closed" "[I", Cond.methodLink RX0 85 yX0_everyone, Cond.instanceMethod yX0_everyone, Cond.selects RX0 yX0_everyone yX0_everyone, Cond.code yX0_everyone cX0_everyone 1 (some .int), Cond.methodLink RX0 143 yJ7_fill_53178, Cond.static yJ7_fill_53178, Cond.initialized RJ7, Cond.code yJ7_fill_53178 cJ7_fill_53178 4 none, Cond.methodLink RX0 149 yX0_chainAt, Cond.static yX0_chainAt, Cond.code yX0_chainAt cX0_chainAt 2 (some .int), Cond.methodLink RX0 152 yX0_lengthenChains]
def wsX0_findWay_r3 : List Cond := [Cond.instanceMethod yX0_lengthenChains, Cond.selects RX0 yX0_lengthenChains yX0_lengthenChains, Cond.code yX0_lengthenChains cX0_lengthenChains 9 (some .int), Cond.methodLink RX0 89 yJ6_bitCount_0f7a4, Cond.static yJ6_bitCount_0f7a4, Cond.initialized RJ6, Cond.code yJ6_bitCount_0f7a4 cJ6_bitCount_0f7a4 1 (some .int), Cond.constant RJ6 265 (1431655765), Cond.constant RJ6 266 (858993459), Cond.constant RJ6 267 (252645135), Cond.methodLink RX0 140 yX0_takeOutRound, Cond.instanceMethod yX0_takeOutRound, Cond.selects RX0 yX0_takeOutRound yX0_takeOutRound, Cond.code yX0_takeOutRound cX0_takeOutRound 6 (some .int)]
def wsX0_findWay : List Cond := .code yX0_findWay cX0_findWay 5 (some .boolean) :: ((wsX0_findWay_r1 ++ (wsX0_findWay_r2 ++ wsX0_findWay_r3)) ++ wsX00)
def wsX0_way_r1 : List Cond := [Cond.fieldLink RX0 28 "GiftLots" "trial" "[I", Cond.methodLink RX0 66 yX0_isOne, Cond.instanceMethod yX0_isOne, Cond.selects RX0 yX0_isOne yX0_isOne, Cond.initialized RX0, Cond.code yX0_isOne cX0_isOne 2 (some .boolean), Cond.fieldLink RX0 38 "GiftLots" "count" "I", Cond.methodLink RX0 70 yX0_findWay, Cond.instanceMethod yX0_findWay, Cond.selects RX0 yX0_findWay yX0_findWay, Cond.code yX0_findWay cX0_findWay 5 (some .boolean), Cond.fieldLink RX0 16 "GiftLots" "rows" "[I", Cond.methodLink RX0 60 yX0_openRows, Cond.instanceMethod yX0_openRows, Cond.selects RX0 yX0_openRows yX0_openRows, Cond.code yX0_openRows cX0_openRows 1 none, Cond.fieldLink RX0 9 "GiftLots" "board" "[I", Cond.methodLink RX0 103 arraycopyName, Cond.native arraycopyName, Cond.static arraycopyName, Cond.initialized "java/lang/System", Cond.methodLink RX0 155 yX0_chooseGetter, Cond.instanceMethod yX0_chooseGetter, Cond.selects RX0 yX0_chooseGetter yX0_chooseGetter]
def wsX0_way_r2 : List Cond := [Cond.code yX0_chooseGetter cX0_chooseGetter 7 (some .int), Cond.fieldLink RX0 57 "GiftLots" "shortest" "I", Cond.methodLink RX0 50 yX0_bit, Cond.static yX0_bit, Cond.code yX0_bit cX0_bit 1 (some .int), Cond.methodLink RX0 63 yX0_countWays, Cond.instanceMethod yX0_countWays, Cond.selects RX0 yX0_countWays yX0_countWays, Cond.code yX0_countWays cX0_countWays 4 (some .int), Cond.fieldLink RX0 25 "GiftLots" "splits" "[I", Cond.methodLink RX0 73 yX0_closeRounds, Cond.instanceMethod yX0_closeRounds, Cond.selects RX0 yX0_closeRounds yX0_closeRounds, Cond.code yX0_closeRounds cX0_closeRounds 5 none, Cond.fieldLink RX0 19 "GiftLots" "chains" "[I", Cond.fieldLink RX0 22 "GiftLots" "closed" "[I", Cond.methodLink RX0 85 yX0_everyone, Cond.instanceMethod yX0_everyone, Cond.selects RX0 yX0_everyone yX0_everyone, Cond.code yX0_everyone cX0_everyone 1 (some .int), Cond.methodLink RX0 143 yJ7_fill_53178, Cond.static yJ7_fill_53178, Cond.initialized RJ7, Cond.code yJ7_fill_53178 cJ7_fill_53178 4 none]
def wsX0_way_r3 : List Cond := [Cond.methodLink RX0 149 yX0_chainAt, Cond.static yX0_chainAt, Cond.code yX0_chainAt cX0_chainAt 2 (some .int), Cond.methodLink RX0 152 yX0_lengthenChains, Cond.instanceMethod yX0_lengthenChains, Cond.selects RX0 yX0_lengthenChains yX0_lengthenChains, Cond.code yX0_lengthenChains cX0_lengthenChains 9 (some .int), Cond.methodLink RX0 89 yJ6_bitCount_0f7a4, Cond.static yJ6_bitCount_0f7a4, Cond.initialized RJ6, Cond.code yJ6_bitCount_0f7a4 cJ6_bitCount_0f7a4 1 (some .int), Cond.constant RJ6 265 (1431655765), Cond.constant RJ6 266 (858993459), Cond.constant RJ6 267 (252645135), Cond.methodLink RX0 140 yX0_takeOutRound, Cond.instanceMethod yX0_takeOutRound, Cond.selects RX0 yX0_takeOutRound yX0_takeOutRound, Cond.code yX0_takeOutRound cX0_takeOutRound 6 (some .int)]
def wsX0_way : List Cond := .code yX0_way cX0_way 3 (some .int) :: ((wsX0_way_r1 ++ (wsX0_way_r2 ++ wsX0_way_r3)) ++ wsX00)
def wsX0_countSplits : List Cond := .code yX0_countSplits cX0_countSplits 5 (some .int) :: ([.fieldLink RX0 25 "GiftLots" "splits" "[I", .methodLink RX0 85 yX0_everyone, .instanceMethod yX0_everyone, .selects RX0 yX0_everyone yX0_everyone, .initialized RX0, .code yX0_everyone cX0_everyone 1 (some .int), .fieldLink RX0 38 "GiftLots" "count" "I", .methodLink RX0 143 yJ7_fill_53178, .static yJ7_fill_53178, .initialized RJ7, .code yJ7_fill_53178 cJ7_fill_53178 4 none, .methodLink RX0 140 yX0_takeOutRound, .instanceMethod yX0_takeOutRound, .selects RX0 yX0_takeOutRound yX0_takeOutRound, .code yX0_takeOutRound cX0_takeOutRound 6 (some .int), .fieldLink RX0 22 "GiftLots" "closed" "[I"] ++ wsX00)
def wsX0_rounds_r1 : List Cond := [Cond.fieldLink RX0 57 "GiftLots" "shortest" "I", Cond.methodLink RX0 60 yX0_openRows, Cond.instanceMethod yX0_openRows, Cond.selects RX0 yX0_openRows yX0_openRows, Cond.initialized RX0, Cond.code yX0_openRows cX0_openRows 1 none, Cond.fieldLink RX0 9 "GiftLots" "board" "[I", Cond.fieldLink RX0 16 "GiftLots" "rows" "[I", Cond.methodLink RX0 103 arraycopyName, Cond.native arraycopyName, Cond.static arraycopyName, Cond.initialized "java/lang/System", Cond.methodLink RX0 73 yX0_closeRounds, Cond.instanceMethod yX0_closeRounds, Cond.selects RX0 yX0_closeRounds yX0_closeRounds, Cond.code yX0_closeRounds cX0_closeRounds 5 none, Cond.fieldLink RX0 19 "GiftLots" "chains" "[I", Cond.fieldLink RX0 38 "GiftLots" "count" "I", Cond.fieldLink RX0 22 "GiftLots" "closed" "[I", Cond.methodLink RX0 85 yX0_everyone, Cond.instanceMethod yX0_everyone, Cond.selects RX0 yX0_everyone yX0_everyone, Cond.code yX0_everyone cX0_everyone 1 (some .int), Cond.methodLink RX0 143 yJ7_fill_53178]
def wsX0_rounds_r2 : List Cond := [Cond.static yJ7_fill_53178, Cond.initialized RJ7, Cond.code yJ7_fill_53178 cJ7_fill_53178 4 none, Cond.methodLink RX0 50 yX0_bit, Cond.static yX0_bit, Cond.code yX0_bit cX0_bit 1 (some .int), Cond.methodLink RX0 149 yX0_chainAt, Cond.static yX0_chainAt, Cond.code yX0_chainAt cX0_chainAt 2 (some .int), Cond.methodLink RX0 152 yX0_lengthenChains, Cond.instanceMethod yX0_lengthenChains, Cond.selects RX0 yX0_lengthenChains yX0_lengthenChains, Cond.code yX0_lengthenChains cX0_lengthenChains 9 (some .int), Cond.methodLink RX0 89 yJ6_bitCount_0f7a4, Cond.static yJ6_bitCount_0f7a4, Cond.initialized RJ6, Cond.code yJ6_bitCount_0f7a4 cJ6_bitCount_0f7a4 1 (some .int), Cond.constant RJ6 265 (1431655765), Cond.constant RJ6 266 (858993459), Cond.constant RJ6 267 (252645135), Cond.methodLink RX0 76 yX0_countSplits, Cond.instanceMethod yX0_countSplits, Cond.selects RX0 yX0_countSplits yX0_countSplits, Cond.code yX0_countSplits cX0_countSplits 5 (some .int)]
def wsX0_rounds_r3 : List Cond := [Cond.fieldLink RX0 25 "GiftLots" "splits" "[I", Cond.methodLink RX0 140 yX0_takeOutRound, Cond.instanceMethod yX0_takeOutRound, Cond.selects RX0 yX0_takeOutRound yX0_takeOutRound, Cond.code yX0_takeOutRound cX0_takeOutRound 6 (some .int)]
def wsX0_rounds : List Cond := .code yX0_rounds cX0_rounds 2 (some .int) :: ((wsX0_rounds_r1 ++ (wsX0_rounds_r2 ++ wsX0_rounds_r3)) ++ wsX00)
def wsX0_narrow : List Cond := .code yX0_narrow cX0_narrow 3 none :: ([.fieldLink RX0 16 "GiftLots" "rows" "[I", .methodLink RX0 66 yX0_isOne, .instanceMethod yX0_isOne, .selects RX0 yX0_isOne yX0_isOne, .initialized RX0, .code yX0_isOne cX0_isOne 2 (some .boolean), .fieldLink RX0 38 "GiftLots" "count" "I", .methodLink RX0 50 yX0_bit, .static yX0_bit, .code yX0_bit cX0_bit 1 (some .int)] ++ wsX00)
def wsX0_countGiving_r1 : List Cond := [Cond.fieldLink RX0 57 "GiftLots" "shortest" "I", Cond.methodLink RX0 60 yX0_openRows, Cond.instanceMethod yX0_openRows, Cond.selects RX0 yX0_openRows yX0_openRows, Cond.initialized RX0, Cond.code yX0_openRows cX0_openRows 1 none, Cond.fieldLink RX0 9 "GiftLots" "board" "[I", Cond.fieldLink RX0 16 "GiftLots" "rows" "[I", Cond.methodLink RX0 103 arraycopyName, Cond.native arraycopyName, Cond.static arraycopyName, Cond.initialized "java/lang/System", Cond.methodLink RX0 115 yX0_narrow, Cond.instanceMethod yX0_narrow, Cond.selects RX0 yX0_narrow yX0_narrow, Cond.code yX0_narrow cX0_narrow 3 none, Cond.methodLink RX0 66 yX0_isOne, Cond.instanceMethod yX0_isOne, Cond.selects RX0 yX0_isOne yX0_isOne, Cond.code yX0_isOne cX0_isOne 2 (some .boolean), Cond.fieldLink RX0 38 "GiftLots" "count" "I", Cond.methodLink RX0 50 yX0_bit, Cond.static yX0_bit, Cond.code yX0_bit cX0_bit 1 (some .int)]
def wsX0_countGiving_r2 : List Cond := [Cond.methodLink RX0 63 yX0_countWays, Cond.instanceMethod yX0_countWays, Cond.selects RX0 yX0_countWays yX0_countWays, Cond.code yX0_countWays cX0_countWays 4 (some .int), Cond.fieldLink RX0 25 "GiftLots" "splits" "[I", Cond.methodLink RX0 73 yX0_closeRounds, Cond.instanceMethod yX0_closeRounds, Cond.selects RX0 yX0_closeRounds yX0_closeRounds, Cond.code yX0_closeRounds cX0_closeRounds 5 none, Cond.fieldLink RX0 19 "GiftLots" "chains" "[I", Cond.fieldLink RX0 22 "GiftLots" "closed" "[I", Cond.methodLink RX0 85 yX0_everyone, Cond.instanceMethod yX0_everyone, Cond.selects RX0 yX0_everyone yX0_everyone, Cond.code yX0_everyone cX0_everyone 1 (some .int), Cond.methodLink RX0 143 yJ7_fill_53178, Cond.static yJ7_fill_53178, Cond.initialized RJ7, Cond.code yJ7_fill_53178 cJ7_fill_53178 4 none, Cond.methodLink RX0 149 yX0_chainAt, Cond.static yX0_chainAt, Cond.code yX0_chainAt cX0_chainAt 2 (some .int), Cond.methodLink RX0 152 yX0_lengthenChains, Cond.instanceMethod yX0_lengthenChains]
def wsX0_countGiving_r3 : List Cond := [Cond.selects RX0 yX0_lengthenChains yX0_lengthenChains, Cond.code yX0_lengthenChains cX0_lengthenChains 9 (some .int), Cond.methodLink RX0 89 yJ6_bitCount_0f7a4, Cond.static yJ6_bitCount_0f7a4, Cond.initialized RJ6, Cond.code yJ6_bitCount_0f7a4 cJ6_bitCount_0f7a4 1 (some .int), Cond.constant RJ6 265 (1431655765), Cond.constant RJ6 266 (858993459), Cond.constant RJ6 267 (252645135), Cond.methodLink RX0 140 yX0_takeOutRound, Cond.instanceMethod yX0_takeOutRound, Cond.selects RX0 yX0_takeOutRound yX0_takeOutRound, Cond.code yX0_takeOutRound cX0_takeOutRound 6 (some .int)]
def wsX0_countGiving : List Cond := .code yX0_countGiving cX0_countGiving 3 (some .int) :: ((wsX0_countGiving_r1 ++ (wsX0_countGiving_r2 ++ wsX0_countGiving_r3)) ++ wsX00)
def wsX0_both_r1 : List Cond := [Cond.methodLink RX0 66 yX0_isOne, Cond.instanceMethod yX0_isOne, Cond.selects RX0 yX0_isOne yX0_isOne, Cond.initialized RX0, Cond.code yX0_isOne cX0_isOne 2 (some .boolean), Cond.fieldLink RX0 38 "GiftLots" "count" "I", Cond.methodLink RX0 79 yX0_countGiving, Cond.instanceMethod yX0_countGiving, Cond.selects RX0 yX0_countGiving yX0_countGiving, Cond.code yX0_countGiving cX0_countGiving 3 (some .int), Cond.fieldLink RX0 57 "GiftLots" "shortest" "I", Cond.methodLink RX0 60 yX0_openRows, Cond.instanceMethod yX0_openRows, Cond.selects RX0 yX0_openRows yX0_openRows, Cond.code yX0_openRows cX0_openRows 1 none, Cond.fieldLink RX0 9 "GiftLots" "board" "[I", Cond.fieldLink RX0 16 "GiftLots" "rows" "[I", Cond.methodLink RX0 103 arraycopyName, Cond.native arraycopyName, Cond.static arraycopyName, Cond.initialized "java/lang/System", Cond.methodLink RX0 115 yX0_narrow, Cond.instanceMethod yX0_narrow, Cond.selects RX0 yX0_narrow yX0_narrow]
def wsX0_both_r2 : List Cond := [Cond.code yX0_narrow cX0_narrow 3 none, Cond.methodLink RX0 50 yX0_bit, Cond.static yX0_bit, Cond.code yX0_bit cX0_bit 1 (some .int), Cond.methodLink RX0 63 yX0_countWays, Cond.instanceMethod yX0_countWays, Cond.selects RX0 yX0_countWays yX0_countWays, Cond.code yX0_countWays cX0_countWays 4 (some .int), Cond.fieldLink RX0 25 "GiftLots" "splits" "[I", Cond.methodLink RX0 73 yX0_closeRounds, Cond.instanceMethod yX0_closeRounds, Cond.selects RX0 yX0_closeRounds yX0_closeRounds, Cond.code yX0_closeRounds cX0_closeRounds 5 none, Cond.fieldLink RX0 19 "GiftLots" "chains" "[I", Cond.fieldLink RX0 22 "GiftLots" "closed" "[I", Cond.methodLink RX0 85 yX0_everyone, Cond.instanceMethod yX0_everyone, Cond.selects RX0 yX0_everyone yX0_everyone, Cond.code yX0_everyone cX0_everyone 1 (some .int), Cond.methodLink RX0 143 yJ7_fill_53178, Cond.static yJ7_fill_53178, Cond.initialized RJ7, Cond.code yJ7_fill_53178 cJ7_fill_53178 4 none, Cond.methodLink RX0 149 yX0_chainAt]
def wsX0_both_r3 : List Cond := [Cond.static yX0_chainAt, Cond.code yX0_chainAt cX0_chainAt 2 (some .int), Cond.methodLink RX0 152 yX0_lengthenChains, Cond.instanceMethod yX0_lengthenChains, Cond.selects RX0 yX0_lengthenChains yX0_lengthenChains, Cond.code yX0_lengthenChains cX0_lengthenChains 9 (some .int), Cond.methodLink RX0 89 yJ6_bitCount_0f7a4, Cond.static yJ6_bitCount_0f7a4, Cond.initialized RJ6, Cond.code yJ6_bitCount_0f7a4 cJ6_bitCount_0f7a4 1 (some .int), Cond.constant RJ6 265 (1431655765), Cond.constant RJ6 266 (858993459), Cond.constant RJ6 267 (252645135), Cond.methodLink RX0 140 yX0_takeOutRound, Cond.instanceMethod yX0_takeOutRound, Cond.selects RX0 yX0_takeOutRound yX0_takeOutRound, Cond.code yX0_takeOutRound cX0_takeOutRound 6 (some .int)]
def wsX0_both : List Cond := .code yX0_both cX0_both 3 (some .int) :: ((wsX0_both_r1 ++ (wsX0_both_r2 ++ wsX0_both_r3)) ++ wsX00)
def wsX0_sumWithoutOne : List Cond := .code yX0_sumWithoutOne cX0_sumWithoutOne 5 (some .int) :: ([.fieldLink RX0 38 "GiftLots" "count" "I", .fieldLink RX0 25 "GiftLots" "splits" "[I", .methodLink RX0 50 yX0_bit, .static yX0_bit, .initialized RX0, .code yX0_bit cX0_bit 1 (some .int)] ++ wsX00)
def wsX0_placeRooks : List Cond := .code yX0_placeRooks cX0_placeRooks 5 none :: ([.fieldLink RX0 25 "GiftLots" "splits" "[I", .fieldLink RX0 38 "GiftLots" "count" "I", .fieldLink RX0 9 "GiftLots" "board" "[I", .methodLink RX0 85 yX0_everyone, .instanceMethod yX0_everyone, .selects RX0 yX0_everyone yX0_everyone, .initialized RX0, .code yX0_everyone cX0_everyone 1 (some .int), .methodLink RX0 143 yJ7_fill_53178, .static yJ7_fill_53178, .initialized RJ7, .code yJ7_fill_53178 cJ7_fill_53178 4 none, .methodLink RX0 159 yX0_sumWithoutOne, .instanceMethod yX0_sumWithoutOne, .selects RX0 yX0_sumWithoutOne yX0_sumWithoutOne, .code yX0_sumWithoutOne cX0_sumWithoutOne 5 (some .int), .methodLink RX0 50 yX0_bit, .static yX0_bit, .code yX0_bit cX0_bit 1 (some .int)] ++ wsX00)
def wsX0_rooks_r1 : List Cond := [Cond.fieldLink RX0 25 "GiftLots" "splits" "[I", Cond.methodLink RX0 82 yX0_placeRooks, Cond.instanceMethod yX0_placeRooks, Cond.selects RX0 yX0_placeRooks yX0_placeRooks, Cond.initialized RX0, Cond.code yX0_placeRooks cX0_placeRooks 5 none, Cond.fieldLink RX0 38 "GiftLots" "count" "I", Cond.fieldLink RX0 9 "GiftLots" "board" "[I", Cond.methodLink RX0 85 yX0_everyone, Cond.instanceMethod yX0_everyone, Cond.selects RX0 yX0_everyone yX0_everyone, Cond.code yX0_everyone cX0_everyone 1 (some .int), Cond.methodLink RX0 143 yJ7_fill_53178, Cond.static yJ7_fill_53178, Cond.initialized RJ7, Cond.code yJ7_fill_53178 cJ7_fill_53178 4 none, Cond.methodLink RX0 159 yX0_sumWithoutOne, Cond.instanceMethod yX0_sumWithoutOne, Cond.selects RX0 yX0_sumWithoutOne yX0_sumWithoutOne, Cond.code yX0_sumWithoutOne cX0_sumWithoutOne 5 (some .int), Cond.methodLink RX0 50 yX0_bit, Cond.static yX0_bit, Cond.code yX0_bit cX0_bit 1 (some .int), Cond.methodLink RX0 89 yJ6_bitCount_0f7a4]
def wsX0_rooks_r2 : List Cond := [Cond.static yJ6_bitCount_0f7a4, Cond.initialized RJ6, Cond.code yJ6_bitCount_0f7a4 cJ6_bitCount_0f7a4 1 (some .int), Cond.constant RJ6 265 (1431655765), Cond.constant RJ6 266 (858993459), Cond.constant RJ6 267 (252645135)]
def wsX0_rooks : List Cond := .code yX0_rooks cX0_rooks 4 (some .int) :: ((wsX0_rooks_r1 ++ wsX0_rooks_r2) ++ wsX00)
def wsX0_gettersOf : List Cond := .code yX0_gettersOf cX0_gettersOf 4 (some .int) :: ([.fieldLink RX0 38 "GiftLots" "count" "I", .fieldLink RX0 9 "GiftLots" "board" "[I", .methodLink RX0 50 yX0_bit, .static yX0_bit, .initialized RX0, .code yX0_bit cX0_bit 1 (some .int)] ++ wsX00)
def wsX0_isHeapBefore : List Cond := .code yX0_isHeapBefore cX0_isHeapBefore 5 (some .boolean) :: ([.methodLink RX0 89 yJ6_bitCount_0f7a4, .static yJ6_bitCount_0f7a4, .initialized RJ6, .code yJ6_bitCount_0f7a4 cJ6_bitCount_0f7a4 1 (some .int), .constant RJ6 265 (1431655765), .constant RJ6 266 (858993459), .constant RJ6 267 (252645135)])
def wsX0_heap : List Cond := .code yX0_heap cX0_heap 3 (some .int) :: ([.methodLink RX0 85 yX0_everyone, .instanceMethod yX0_everyone, .selects RX0 yX0_everyone yX0_everyone, .initialized RX0, .code yX0_everyone cX0_everyone 1 (some .int), .fieldLink RX0 38 "GiftLots" "count" "I", .methodLink RX0 94 yX0_gettersOf, .instanceMethod yX0_gettersOf, .selects RX0 yX0_gettersOf yX0_gettersOf, .code yX0_gettersOf cX0_gettersOf 4 (some .int), .fieldLink RX0 9 "GiftLots" "board" "[I", .methodLink RX0 50 yX0_bit, .static yX0_bit, .code yX0_bit cX0_bit 1 (some .int), .methodLink RX0 89 yJ6_bitCount_0f7a4, .static yJ6_bitCount_0f7a4, .initialized RJ6, .code yJ6_bitCount_0f7a4 cJ6_bitCount_0f7a4 1 (some .int), .constant RJ6 265 (1431655765), .constant RJ6 266 (858993459), .constant RJ6 267 (252645135), .methodLink RX0 97 yX0_isHeapBefore, .static yX0_isHeapBefore, .code yX0_isHeapBefore cX0_isHeapBefore 5 (some .boolean)] ++ wsX00)
def wsX0_isTakenFromOther : List Cond := .code yX0_isTakenFromOther cX0_isTakenFromOther 4 (some .boolean) :: ([.fieldLink RX0 38 "GiftLots" "count" "I", .fieldLink RX0 13 "GiftLots" "hand" "[I"] ++ wsX00)
def wsX0_lay : List Cond := .code yX0_lay cX0_lay 4 (some .int) :: ([.fieldLink RX0 13 "GiftLots" "hand" "[I", .methodLink RX0 66 yX0_isOne, .instanceMethod yX0_isOne, .selects RX0 yX0_isOne yX0_isOne, .initialized RX0, .code yX0_isOne cX0_isOne 2 (some .boolean), .fieldLink RX0 38 "GiftLots" "count" "I", .methodLink RX0 100 yX0_isTakenFromOther, .instanceMethod yX0_isTakenFromOther, .selects RX0 yX0_isTakenFromOther yX0_isTakenFromOther, .code yX0_isTakenFromOther cX0_isTakenFromOther 4 (some .boolean)] ++ wsX00)
def wsX0_laid : List Cond := .code yX0_laid cX0_laid 2 (some .int) :: ([.fieldLink RX0 13 "GiftLots" "hand" "[I", .methodLink RX0 66 yX0_isOne, .instanceMethod yX0_isOne, .selects RX0 yX0_isOne yX0_isOne, .initialized RX0, .code yX0_isOne cX0_isOne 2 (some .boolean), .fieldLink RX0 38 "GiftLots" "count" "I"] ++ wsX00)
def wsX0_draw_r1 : List Cond := [Cond.fieldLink RX0 28 "GiftLots" "trial" "[I", Cond.fieldLink RX0 13 "GiftLots" "hand" "[I", Cond.fieldLink RX0 38 "GiftLots" "count" "I", Cond.methodLink RX0 103 arraycopyName, Cond.native arraycopyName, Cond.static arraycopyName, Cond.initialized "java/lang/System", Cond.methodLink RX0 70 yX0_findWay, Cond.instanceMethod yX0_findWay, Cond.selects RX0 yX0_findWay yX0_findWay, Cond.initialized RX0, Cond.code yX0_findWay cX0_findWay 5 (some .boolean), Cond.fieldLink RX0 16 "GiftLots" "rows" "[I", Cond.methodLink RX0 60 yX0_openRows, Cond.instanceMethod yX0_openRows, Cond.selects RX0 yX0_openRows yX0_openRows, Cond.code yX0_openRows cX0_openRows 1 none, Cond.fieldLink RX0 9 "GiftLots" "board" "[I", Cond.methodLink RX0 155 yX0_chooseGetter, Cond.instanceMethod yX0_chooseGetter, Cond.selects RX0 yX0_chooseGetter yX0_chooseGetter, Cond.code yX0_chooseGetter cX0_chooseGetter 7 (some .int), Cond.fieldLink RX0 57 "GiftLots" "shortest" "I", Cond.methodLink RX0 66 yX0_isOne]
def wsX0_draw_r2 : List Cond := [Cond.instanceMethod yX0_isOne, Cond.selects RX0 yX0_isOne yX0_isOne, Cond.code yX0_isOne cX0_isOne 2 (some .boolean), Cond.methodLink RX0 50 yX0_bit, Cond.static yX0_bit, Cond.code yX0_bit cX0_bit 1 (some .int), Cond.methodLink RX0 63 yX0_countWays, Cond.instanceMethod yX0_countWays, Cond.selects RX0 yX0_countWays yX0_countWays, Cond.code yX0_countWays cX0_countWays 4 (some .int), Cond.fieldLink RX0 25 "GiftLots" "splits" "[I", Cond.methodLink RX0 73 yX0_closeRounds, Cond.instanceMethod yX0_closeRounds, Cond.selects RX0 yX0_closeRounds yX0_closeRounds, Cond.code yX0_closeRounds cX0_closeRounds 5 none, Cond.fieldLink RX0 19 "GiftLots" "chains" "[I", Cond.fieldLink RX0 22 "GiftLots" "closed" "[I", Cond.methodLink RX0 85 yX0_everyone, Cond.instanceMethod yX0_everyone, Cond.selects RX0 yX0_everyone yX0_everyone, Cond.code yX0_everyone cX0_everyone 1 (some .int), Cond.methodLink RX0 143 yJ7_fill_53178, Cond.static yJ7_fill_53178, Cond.initialized RJ7]
def wsX0_draw_r3 : List Cond := [Cond.code yJ7_fill_53178 cJ7_fill_53178 4 none, Cond.methodLink RX0 149 yX0_chainAt, Cond.static yX0_chainAt, Cond.code yX0_chainAt cX0_chainAt 2 (some .int), Cond.methodLink RX0 152 yX0_lengthenChains, Cond.instanceMethod yX0_lengthenChains, Cond.selects RX0 yX0_lengthenChains yX0_lengthenChains, Cond.code yX0_lengthenChains cX0_lengthenChains 9 (some .int), Cond.methodLink RX0 89 yJ6_bitCount_0f7a4, Cond.static yJ6_bitCount_0f7a4, Cond.initialized RJ6, Cond.code yJ6_bitCount_0f7a4 cJ6_bitCount_0f7a4 1 (some .int), Cond.constant RJ6 265 (1431655765), Cond.constant RJ6 266 (858993459), Cond.constant RJ6 267 (252645135), Cond.methodLink RX0 140 yX0_takeOutRound, Cond.instanceMethod yX0_takeOutRound, Cond.selects RX0 yX0_takeOutRound yX0_takeOutRound, Cond.code yX0_takeOutRound cX0_takeOutRound 6 (some .int)]
def wsX0_draw : List Cond := .code yX0_draw cX0_draw 2 (some .int) :: ((wsX0_draw_r1 ++ (wsX0_draw_r2 ++ wsX0_draw_r3)) ++ wsX00)
def wsX0_givesBelow : List Cond := .code yX0_givesBelow cX0_givesBelow 3 (some .boolean) :: ([.fieldLink RX0 38 "GiftLots" "count" "I", .fieldLink RX0 13 "GiftLots" "hand" "[I"] ++ wsX00)
def wsX0_refuseHand_r1 : List Cond := [Cond.fieldLink RX0 38 "GiftLots" "count" "I", Cond.fieldLink RX0 13 "GiftLots" "hand" "[I", Cond.fieldLink RX0 57 "GiftLots" "shortest" "I", Cond.methodLink RX0 112 yX0_givesBelow, Cond.instanceMethod yX0_givesBelow, Cond.selects RX0 yX0_givesBelow yX0_givesBelow, Cond.initialized RX0, Cond.code yX0_givesBelow cX0_givesBelow 3 (some .boolean), Cond.methodLink RX0 60 yX0_openRows, Cond.instanceMethod yX0_openRows, Cond.selects RX0 yX0_openRows yX0_openRows, Cond.code yX0_openRows cX0_openRows 1 none, Cond.fieldLink RX0 9 "GiftLots" "board" "[I", Cond.fieldLink RX0 16 "GiftLots" "rows" "[I", Cond.methodLink RX0 103 arraycopyName, Cond.native arraycopyName, Cond.static arraycopyName, Cond.initialized "java/lang/System", Cond.methodLink RX0 115 yX0_narrow, Cond.instanceMethod yX0_narrow, Cond.selects RX0 yX0_narrow yX0_narrow, Cond.code yX0_narrow cX0_narrow 3 none, Cond.methodLink RX0 66 yX0_isOne, Cond.instanceMethod yX0_isOne]
def wsX0_refuseHand_r2 : List Cond := [Cond.selects RX0 yX0_isOne yX0_isOne, Cond.code yX0_isOne cX0_isOne 2 (some .boolean), Cond.methodLink RX0 50 yX0_bit, Cond.static yX0_bit, Cond.code yX0_bit cX0_bit 1 (some .int), Cond.methodLink RX0 63 yX0_countWays, Cond.instanceMethod yX0_countWays, Cond.selects RX0 yX0_countWays yX0_countWays, Cond.code yX0_countWays cX0_countWays 4 (some .int), Cond.fieldLink RX0 25 "GiftLots" "splits" "[I", Cond.methodLink RX0 73 yX0_closeRounds, Cond.instanceMethod yX0_closeRounds, Cond.selects RX0 yX0_closeRounds yX0_closeRounds, Cond.code yX0_closeRounds cX0_closeRounds 5 none, Cond.fieldLink RX0 19 "GiftLots" "chains" "[I", Cond.fieldLink RX0 22 "GiftLots" "closed" "[I", Cond.methodLink RX0 85 yX0_everyone, Cond.instanceMethod yX0_everyone, Cond.selects RX0 yX0_everyone yX0_everyone, Cond.code yX0_everyone cX0_everyone 1 (some .int), Cond.methodLink RX0 143 yJ7_fill_53178, Cond.static yJ7_fill_53178, Cond.initialized RJ7, Cond.code yJ7_fill_53178 cJ7_fill_53178 4 none]
def wsX0_refuseHand_r3 : List Cond := [Cond.methodLink RX0 149 yX0_chainAt, Cond.static yX0_chainAt, Cond.code yX0_chainAt cX0_chainAt 2 (some .int), Cond.methodLink RX0 152 yX0_lengthenChains, Cond.instanceMethod yX0_lengthenChains, Cond.selects RX0 yX0_lengthenChains yX0_lengthenChains, Cond.code yX0_lengthenChains cX0_lengthenChains 9 (some .int), Cond.methodLink RX0 89 yJ6_bitCount_0f7a4, Cond.static yJ6_bitCount_0f7a4, Cond.initialized RJ6, Cond.code yJ6_bitCount_0f7a4 cJ6_bitCount_0f7a4 1 (some .int), Cond.constant RJ6 265 (1431655765), Cond.constant RJ6 266 (858993459), Cond.constant RJ6 267 (252645135), Cond.methodLink RX0 140 yX0_takeOutRound, Cond.instanceMethod yX0_takeOutRound, Cond.selects RX0 yX0_takeOutRound yX0_takeOutRound, Cond.code yX0_takeOutRound cX0_takeOutRound 6 (some .int)]
def wsX0_refuseHand : List Cond := .code yX0_refuseHand cX0_refuseHand 2 (some .int) :: ((wsX0_refuseHand_r1 ++ (wsX0_refuseHand_r2 ++ wsX0_refuseHand_r3)) ++ wsX00)
def wsX0_rank_r1 : List Cond := [Cond.fieldLink RX0 38 "GiftLots" "count" "I", Cond.fieldLink RX0 13 "GiftLots" "hand" "[I", Cond.fieldLink RX0 16 "GiftLots" "rows" "[I", Cond.fieldLink RX0 57 "GiftLots" "shortest" "I", Cond.methodLink RX0 109 yX0_refuseHand, Cond.instanceMethod yX0_refuseHand, Cond.selects RX0 yX0_refuseHand yX0_refuseHand, Cond.initialized RX0, Cond.code yX0_refuseHand cX0_refuseHand 2 (some .int), Cond.methodLink RX0 112 yX0_givesBelow, Cond.instanceMethod yX0_givesBelow, Cond.selects RX0 yX0_givesBelow yX0_givesBelow, Cond.code yX0_givesBelow cX0_givesBelow 3 (some .boolean), Cond.methodLink RX0 60 yX0_openRows, Cond.instanceMethod yX0_openRows, Cond.selects RX0 yX0_openRows yX0_openRows, Cond.code yX0_openRows cX0_openRows 1 none, Cond.fieldLink RX0 9 "GiftLots" "board" "[I", Cond.methodLink RX0 103 arraycopyName, Cond.native arraycopyName, Cond.static arraycopyName, Cond.initialized "java/lang/System", Cond.methodLink RX0 115 yX0_narrow, Cond.instanceMethod yX0_narrow]
def wsX0_rank_r2 : List Cond := [Cond.selects RX0 yX0_narrow yX0_narrow, Cond.code yX0_narrow cX0_narrow 3 none, Cond.methodLink RX0 66 yX0_isOne, Cond.instanceMethod yX0_isOne, Cond.selects RX0 yX0_isOne yX0_isOne, Cond.code yX0_isOne cX0_isOne 2 (some .boolean), Cond.methodLink RX0 50 yX0_bit, Cond.static yX0_bit, Cond.code yX0_bit cX0_bit 1 (some .int), Cond.methodLink RX0 63 yX0_countWays, Cond.instanceMethod yX0_countWays, Cond.selects RX0 yX0_countWays yX0_countWays, Cond.code yX0_countWays cX0_countWays 4 (some .int), Cond.fieldLink RX0 25 "GiftLots" "splits" "[I", Cond.methodLink RX0 73 yX0_closeRounds, Cond.instanceMethod yX0_closeRounds, Cond.selects RX0 yX0_closeRounds yX0_closeRounds, Cond.code yX0_closeRounds cX0_closeRounds 5 none, Cond.fieldLink RX0 19 "GiftLots" "chains" "[I", Cond.fieldLink RX0 22 "GiftLots" "closed" "[I", Cond.methodLink RX0 85 yX0_everyone, Cond.instanceMethod yX0_everyone, Cond.selects RX0 yX0_everyone yX0_everyone, Cond.code yX0_everyone cX0_everyone 1 (some .int)]
def wsX0_rank_r3 : List Cond := [Cond.methodLink RX0 143 yJ7_fill_53178, Cond.static yJ7_fill_53178, Cond.initialized RJ7, Cond.code yJ7_fill_53178 cJ7_fill_53178 4 none, Cond.methodLink RX0 149 yX0_chainAt, Cond.static yX0_chainAt, Cond.code yX0_chainAt cX0_chainAt 2 (some .int), Cond.methodLink RX0 152 yX0_lengthenChains, Cond.instanceMethod yX0_lengthenChains, Cond.selects RX0 yX0_lengthenChains yX0_lengthenChains, Cond.code yX0_lengthenChains cX0_lengthenChains 9 (some .int), Cond.methodLink RX0 89 yJ6_bitCount_0f7a4, Cond.static yJ6_bitCount_0f7a4, Cond.initialized RJ6, Cond.code yJ6_bitCount_0f7a4 cJ6_bitCount_0f7a4 1 (some .int), Cond.constant RJ6 265 (1431655765), Cond.constant RJ6 266 (858993459), Cond.constant RJ6 267 (252645135), Cond.methodLink RX0 140 yX0_takeOutRound, Cond.instanceMethod yX0_takeOutRound, Cond.selects RX0 yX0_takeOutRound yX0_takeOutRound, Cond.code yX0_takeOutRound cX0_takeOutRound 6 (some .int)]
def wsX0_rank : List Cond := .code yX0_rank cX0_rank 6 (some .int) :: ((wsX0_rank_r1 ++ (wsX0_rank_r2 ++ wsX0_rank_r3)) ++ wsX00)
def wsX0_share_r1 : List Cond := [Cond.fieldLink RX0 13 "GiftLots" "hand" "[I", Cond.fieldLink RX0 57 "GiftLots" "shortest" "I", Cond.methodLink RX0 66 yX0_isOne, Cond.instanceMethod yX0_isOne, Cond.selects RX0 yX0_isOne yX0_isOne, Cond.initialized RX0, Cond.code yX0_isOne cX0_isOne 2 (some .boolean), Cond.fieldLink RX0 38 "GiftLots" "count" "I", Cond.methodLink RX0 112 yX0_givesBelow, Cond.instanceMethod yX0_givesBelow, Cond.selects RX0 yX0_givesBelow yX0_givesBelow, Cond.code yX0_givesBelow cX0_givesBelow 3 (some .boolean), Cond.methodLink RX0 60 yX0_openRows, Cond.instanceMethod yX0_openRows, Cond.selects RX0 yX0_openRows yX0_openRows, Cond.code yX0_openRows cX0_openRows 1 none, Cond.fieldLink RX0 9 "GiftLots" "board" "[I", Cond.fieldLink RX0 16 "GiftLots" "rows" "[I", Cond.methodLink RX0 103 arraycopyName, Cond.native arraycopyName, Cond.static arraycopyName, Cond.initialized "java/lang/System", Cond.methodLink RX0 115 yX0_narrow, Cond.instanceMethod yX0_narrow]
def wsX0_share_r2 : List Cond := [Cond.selects RX0 yX0_narrow yX0_narrow, Cond.code yX0_narrow cX0_narrow 3 none, Cond.methodLink RX0 50 yX0_bit, Cond.static yX0_bit, Cond.code yX0_bit cX0_bit 1 (some .int), Cond.methodLink RX0 63 yX0_countWays, Cond.instanceMethod yX0_countWays, Cond.selects RX0 yX0_countWays yX0_countWays, Cond.code yX0_countWays cX0_countWays 4 (some .int), Cond.fieldLink RX0 25 "GiftLots" "splits" "[I", Cond.methodLink RX0 73 yX0_closeRounds, Cond.instanceMethod yX0_closeRounds, Cond.selects RX0 yX0_closeRounds yX0_closeRounds, Cond.code yX0_closeRounds cX0_closeRounds 5 none, Cond.fieldLink RX0 19 "GiftLots" "chains" "[I", Cond.fieldLink RX0 22 "GiftLots" "closed" "[I", Cond.methodLink RX0 85 yX0_everyone, Cond.instanceMethod yX0_everyone, Cond.selects RX0 yX0_everyone yX0_everyone, Cond.code yX0_everyone cX0_everyone 1 (some .int), Cond.methodLink RX0 143 yJ7_fill_53178, Cond.static yJ7_fill_53178, Cond.initialized RJ7, Cond.code yJ7_fill_53178 cJ7_fill_53178 4 none]
def wsX0_share_r3 : List Cond := [Cond.methodLink RX0 149 yX0_chainAt, Cond.static yX0_chainAt, Cond.code yX0_chainAt cX0_chainAt 2 (some .int), Cond.methodLink RX0 152 yX0_lengthenChains, Cond.instanceMethod yX0_lengthenChains, Cond.selects RX0 yX0_lengthenChains yX0_lengthenChains, Cond.code yX0_lengthenChains cX0_lengthenChains 9 (some .int), Cond.methodLink RX0 89 yJ6_bitCount_0f7a4, Cond.static yJ6_bitCount_0f7a4, Cond.initialized RJ6, Cond.code yJ6_bitCount_0f7a4 cJ6_bitCount_0f7a4 1 (some .int), Cond.constant RJ6 265 (1431655765), Cond.constant RJ6 266 (858993459), Cond.constant RJ6 267 (252645135), Cond.methodLink RX0 140 yX0_takeOutRound, Cond.instanceMethod yX0_takeOutRound, Cond.selects RX0 yX0_takeOutRound yX0_takeOutRound, Cond.code yX0_takeOutRound cX0_takeOutRound 6 (some .int)]
def wsX0_share : List Cond := .code yX0_share cX0_share 4 (some .int) :: ((wsX0_share_r1 ++ (wsX0_share_r2 ++ wsX0_share_r3)) ++ wsX00)
def wsX0_knows_r1 : List Cond := [Cond.fieldLink RX0 13 "GiftLots" "hand" "[I", Cond.methodLink RX0 66 yX0_isOne, Cond.instanceMethod yX0_isOne, Cond.selects RX0 yX0_isOne yX0_isOne, Cond.initialized RX0, Cond.code yX0_isOne cX0_isOne 2 (some .boolean), Cond.fieldLink RX0 38 "GiftLots" "count" "I", Cond.methodLink RX0 79 yX0_countGiving, Cond.instanceMethod yX0_countGiving, Cond.selects RX0 yX0_countGiving yX0_countGiving, Cond.code yX0_countGiving cX0_countGiving 3 (some .int), Cond.fieldLink RX0 57 "GiftLots" "shortest" "I", Cond.methodLink RX0 60 yX0_openRows, Cond.instanceMethod yX0_openRows, Cond.selects RX0 yX0_openRows yX0_openRows, Cond.code yX0_openRows cX0_openRows 1 none, Cond.fieldLink RX0 9 "GiftLots" "board" "[I", Cond.fieldLink RX0 16 "GiftLots" "rows" "[I", Cond.methodLink RX0 103 arraycopyName, Cond.native arraycopyName, Cond.static arraycopyName, Cond.initialized "java/lang/System", Cond.methodLink RX0 115 yX0_narrow, Cond.instanceMethod yX0_narrow]
def wsX0_knows_r2 : List Cond := [Cond.selects RX0 yX0_narrow yX0_narrow, Cond.code yX0_narrow cX0_narrow 3 none, Cond.methodLink RX0 50 yX0_bit, Cond.static yX0_bit, Cond.code yX0_bit cX0_bit 1 (some .int), Cond.methodLink RX0 63 yX0_countWays, Cond.instanceMethod yX0_countWays, Cond.selects RX0 yX0_countWays yX0_countWays, Cond.code yX0_countWays cX0_countWays 4 (some .int), Cond.fieldLink RX0 25 "GiftLots" "splits" "[I", Cond.methodLink RX0 73 yX0_closeRounds, Cond.instanceMethod yX0_closeRounds, Cond.selects RX0 yX0_closeRounds yX0_closeRounds, Cond.code yX0_closeRounds cX0_closeRounds 5 none, Cond.fieldLink RX0 19 "GiftLots" "chains" "[I", Cond.fieldLink RX0 22 "GiftLots" "closed" "[I", Cond.methodLink RX0 85 yX0_everyone, Cond.instanceMethod yX0_everyone, Cond.selects RX0 yX0_everyone yX0_everyone, Cond.code yX0_everyone cX0_everyone 1 (some .int), Cond.methodLink RX0 143 yJ7_fill_53178, Cond.static yJ7_fill_53178, Cond.initialized RJ7, Cond.code yJ7_fill_53178 cJ7_fill_53178 4 none]
def wsX0_knows_r3 : List Cond := [Cond.methodLink RX0 149 yX0_chainAt, Cond.static yX0_chainAt, Cond.code yX0_chainAt cX0_chainAt 2 (some .int), Cond.methodLink RX0 152 yX0_lengthenChains, Cond.instanceMethod yX0_lengthenChains, Cond.selects RX0 yX0_lengthenChains yX0_lengthenChains, Cond.code yX0_lengthenChains cX0_lengthenChains 9 (some .int), Cond.methodLink RX0 89 yJ6_bitCount_0f7a4, Cond.static yJ6_bitCount_0f7a4, Cond.initialized RJ6, Cond.code yJ6_bitCount_0f7a4 cJ6_bitCount_0f7a4 1 (some .int), Cond.constant RJ6 265 (1431655765), Cond.constant RJ6 266 (858993459), Cond.constant RJ6 267 (252645135), Cond.methodLink RX0 140 yX0_takeOutRound, Cond.instanceMethod yX0_takeOutRound, Cond.selects RX0 yX0_takeOutRound yX0_takeOutRound, Cond.code yX0_takeOutRound cX0_takeOutRound 6 (some .int)]
def wsX0_knows : List Cond := .code yX0_knows cX0_knows 2 (some .int) :: ((wsX0_knows_r1 ++ (wsX0_knows_r2 ++ wsX0_knows_r3)) ++ wsX00)
def wsX0_givesAlike_r1 : List Cond := [Cond.fieldLink RX0 16 "GiftLots" "rows" "[I", Cond.fieldLink RX0 38 "GiftLots" "count" "I", Cond.fieldLink RX0 57 "GiftLots" "shortest" "I", Cond.methodLink RX0 66 yX0_isOne, Cond.instanceMethod yX0_isOne, Cond.selects RX0 yX0_isOne yX0_isOne, Cond.initialized RX0, Cond.code yX0_isOne cX0_isOne 2 (some .boolean), Cond.methodLink RX0 50 yX0_bit, Cond.static yX0_bit, Cond.code yX0_bit cX0_bit 1 (some .int), Cond.methodLink RX0 63 yX0_countWays, Cond.instanceMethod yX0_countWays, Cond.selects RX0 yX0_countWays yX0_countWays, Cond.code yX0_countWays cX0_countWays 4 (some .int), Cond.fieldLink RX0 25 "GiftLots" "splits" "[I", Cond.methodLink RX0 73 yX0_closeRounds, Cond.instanceMethod yX0_closeRounds, Cond.selects RX0 yX0_closeRounds yX0_closeRounds, Cond.code yX0_closeRounds cX0_closeRounds 5 none, Cond.fieldLink RX0 19 "GiftLots" "chains" "[I", Cond.fieldLink RX0 22 "GiftLots" "closed" "[I", Cond.methodLink RX0 85 yX0_everyone, Cond.instanceMethod yX0_everyone]
def wsX0_givesAlike_r2 : List Cond := [Cond.selects RX0 yX0_everyone yX0_everyone, Cond.code yX0_everyone cX0_everyone 1 (some .int), Cond.methodLink RX0 143 yJ7_fill_53178, Cond.static yJ7_fill_53178, Cond.initialized RJ7, Cond.code yJ7_fill_53178 cJ7_fill_53178 4 none, Cond.methodLink RX0 149 yX0_chainAt, Cond.static yX0_chainAt, Cond.code yX0_chainAt cX0_chainAt 2 (some .int), Cond.methodLink RX0 152 yX0_lengthenChains, Cond.instanceMethod yX0_lengthenChains, Cond.selects RX0 yX0_lengthenChains yX0_lengthenChains, Cond.code yX0_lengthenChains cX0_lengthenChains 9 (some .int), Cond.methodLink RX0 89 yJ6_bitCount_0f7a4, Cond.static yJ6_bitCount_0f7a4, Cond.initialized RJ6, Cond.code yJ6_bitCount_0f7a4 cJ6_bitCount_0f7a4 1 (some .int), Cond.constant RJ6 265 (1431655765), Cond.constant RJ6 266 (858993459), Cond.constant RJ6 267 (252645135), Cond.methodLink RX0 140 yX0_takeOutRound, Cond.instanceMethod yX0_takeOutRound, Cond.selects RX0 yX0_takeOutRound yX0_takeOutRound, Cond.code yX0_takeOutRound cX0_takeOutRound 6 (some .int)]
def wsX0_givesAlike : List Cond := .code yX0_givesAlike cX0_givesAlike 6 (some .boolean) :: ((wsX0_givesAlike_r1 ++ wsX0_givesAlike_r2) ++ wsX00)
def wsX0_sure_r1 : List Cond := [Cond.fieldLink RX0 13 "GiftLots" "hand" "[I", Cond.methodLink RX0 66 yX0_isOne, Cond.instanceMethod yX0_isOne, Cond.selects RX0 yX0_isOne yX0_isOne, Cond.initialized RX0, Cond.code yX0_isOne cX0_isOne 2 (some .boolean), Cond.fieldLink RX0 38 "GiftLots" "count" "I", Cond.methodLink RX0 79 yX0_countGiving, Cond.instanceMethod yX0_countGiving, Cond.selects RX0 yX0_countGiving yX0_countGiving, Cond.code yX0_countGiving cX0_countGiving 3 (some .int), Cond.fieldLink RX0 57 "GiftLots" "shortest" "I", Cond.methodLink RX0 60 yX0_openRows, Cond.instanceMethod yX0_openRows, Cond.selects RX0 yX0_openRows yX0_openRows, Cond.code yX0_openRows cX0_openRows 1 none, Cond.fieldLink RX0 9 "GiftLots" "board" "[I", Cond.fieldLink RX0 16 "GiftLots" "rows" "[I", Cond.methodLink RX0 103 arraycopyName, Cond.native arraycopyName, Cond.static arraycopyName, Cond.initialized "java/lang/System", Cond.methodLink RX0 115 yX0_narrow, Cond.instanceMethod yX0_narrow]
def wsX0_sure_r2 : List Cond := [Cond.selects RX0 yX0_narrow yX0_narrow, Cond.code yX0_narrow cX0_narrow 3 none, Cond.methodLink RX0 50 yX0_bit, Cond.static yX0_bit, Cond.code yX0_bit cX0_bit 1 (some .int), Cond.methodLink RX0 63 yX0_countWays, Cond.instanceMethod yX0_countWays, Cond.selects RX0 yX0_countWays yX0_countWays, Cond.code yX0_countWays cX0_countWays 4 (some .int), Cond.fieldLink RX0 25 "GiftLots" "splits" "[I", Cond.methodLink RX0 73 yX0_closeRounds, Cond.instanceMethod yX0_closeRounds, Cond.selects RX0 yX0_closeRounds yX0_closeRounds, Cond.code yX0_closeRounds cX0_closeRounds 5 none, Cond.fieldLink RX0 19 "GiftLots" "chains" "[I", Cond.fieldLink RX0 22 "GiftLots" "closed" "[I", Cond.methodLink RX0 85 yX0_everyone, Cond.instanceMethod yX0_everyone, Cond.selects RX0 yX0_everyone yX0_everyone, Cond.code yX0_everyone cX0_everyone 1 (some .int), Cond.methodLink RX0 143 yJ7_fill_53178, Cond.static yJ7_fill_53178, Cond.initialized RJ7, Cond.code yJ7_fill_53178 cJ7_fill_53178 4 none]
def wsX0_sure_r3 : List Cond := [Cond.methodLink RX0 149 yX0_chainAt, Cond.static yX0_chainAt, Cond.code yX0_chainAt cX0_chainAt 2 (some .int), Cond.methodLink RX0 152 yX0_lengthenChains, Cond.instanceMethod yX0_lengthenChains, Cond.selects RX0 yX0_lengthenChains yX0_lengthenChains, Cond.code yX0_lengthenChains cX0_lengthenChains 9 (some .int), Cond.methodLink RX0 89 yJ6_bitCount_0f7a4, Cond.static yJ6_bitCount_0f7a4, Cond.initialized RJ6, Cond.code yJ6_bitCount_0f7a4 cJ6_bitCount_0f7a4 1 (some .int), Cond.constant RJ6 265 (1431655765), Cond.constant RJ6 266 (858993459), Cond.constant RJ6 267 (252645135), Cond.methodLink RX0 140 yX0_takeOutRound, Cond.instanceMethod yX0_takeOutRound, Cond.selects RX0 yX0_takeOutRound yX0_takeOutRound, Cond.code yX0_takeOutRound cX0_takeOutRound 6 (some .int), Cond.methodLink RX0 119 yX0_givesAlike, Cond.instanceMethod yX0_givesAlike, Cond.selects RX0 yX0_givesAlike yX0_givesAlike, Cond.code yX0_givesAlike cX0_givesAlike 6 (some .boolean)]
def wsX0_sure : List Cond := .code yX0_sure cX0_sure 4 (some .int) :: ((wsX0_sure_r1 ++ (wsX0_sure_r2 ++ wsX0_sure_r3)) ++ wsX00)
def wsX0_refuseFall_r1 : List Cond := [Cond.methodLink RX0 66 yX0_isOne, Cond.instanceMethod yX0_isOne, Cond.selects RX0 yX0_isOne yX0_isOne, Cond.initialized RX0, Cond.code yX0_isOne cX0_isOne 2 (some .boolean), Cond.fieldLink RX0 38 "GiftLots" "count" "I", Cond.methodLink RX0 109 yX0_refuseHand, Cond.instanceMethod yX0_refuseHand, Cond.selects RX0 yX0_refuseHand yX0_refuseHand, Cond.code yX0_refuseHand cX0_refuseHand 2 (some .int), Cond.fieldLink RX0 13 "GiftLots" "hand" "[I", Cond.fieldLink RX0 57 "GiftLots" "shortest" "I", Cond.methodLink RX0 112 yX0_givesBelow, Cond.instanceMethod yX0_givesBelow, Cond.selects RX0 yX0_givesBelow yX0_givesBelow, Cond.code yX0_givesBelow cX0_givesBelow 3 (some .boolean), Cond.methodLink RX0 60 yX0_openRows, Cond.instanceMethod yX0_openRows, Cond.selects RX0 yX0_openRows yX0_openRows, Cond.code yX0_openRows cX0_openRows 1 none, Cond.fieldLink RX0 9 "GiftLots" "board" "[I", Cond.fieldLink RX0 16 "GiftLots" "rows" "[I", Cond.methodLink RX0 103 arraycopyName, Cond.native arraycopyName]
def wsX0_refuseFall_r2 : List Cond := [Cond.static arraycopyName, Cond.initialized "java/lang/System", Cond.methodLink RX0 115 yX0_narrow, Cond.instanceMethod yX0_narrow, Cond.selects RX0 yX0_narrow yX0_narrow, Cond.code yX0_narrow cX0_narrow 3 none, Cond.methodLink RX0 50 yX0_bit, Cond.static yX0_bit, Cond.code yX0_bit cX0_bit 1 (some .int), Cond.methodLink RX0 63 yX0_countWays, Cond.instanceMethod yX0_countWays, Cond.selects RX0 yX0_countWays yX0_countWays, Cond.code yX0_countWays cX0_countWays 4 (some .int), Cond.fieldLink RX0 25 "GiftLots" "splits" "[I", Cond.methodLink RX0 73 yX0_closeRounds, Cond.instanceMethod yX0_closeRounds, Cond.selects RX0 yX0_closeRounds yX0_closeRounds, Cond.code yX0_closeRounds cX0_closeRounds 5 none, Cond.fieldLink RX0 19 "GiftLots" "chains" "[I", Cond.fieldLink RX0 22 "GiftLots" "closed" "[I", Cond.methodLink RX0 85 yX0_everyone, Cond.instanceMethod yX0_everyone, Cond.selects RX0 yX0_everyone yX0_everyone, Cond.code yX0_everyone cX0_everyone 1 (some .int)]
def wsX0_refuseFall_r3 : List Cond := [Cond.methodLink RX0 143 yJ7_fill_53178, Cond.static yJ7_fill_53178, Cond.initialized RJ7, Cond.code yJ7_fill_53178 cJ7_fill_53178 4 none, Cond.methodLink RX0 149 yX0_chainAt, Cond.static yX0_chainAt, Cond.code yX0_chainAt cX0_chainAt 2 (some .int), Cond.methodLink RX0 152 yX0_lengthenChains, Cond.instanceMethod yX0_lengthenChains, Cond.selects RX0 yX0_lengthenChains yX0_lengthenChains, Cond.code yX0_lengthenChains cX0_lengthenChains 9 (some .int), Cond.methodLink RX0 89 yJ6_bitCount_0f7a4, Cond.static yJ6_bitCount_0f7a4, Cond.initialized RJ6, Cond.code yJ6_bitCount_0f7a4 cJ6_bitCount_0f7a4 1 (some .int), Cond.constant RJ6 265 (1431655765), Cond.constant RJ6 266 (858993459), Cond.constant RJ6 267 (252645135), Cond.methodLink RX0 140 yX0_takeOutRound, Cond.instanceMethod yX0_takeOutRound, Cond.selects RX0 yX0_takeOutRound yX0_takeOutRound, Cond.code yX0_takeOutRound cX0_takeOutRound 6 (some .int)]
def wsX0_refuseFall : List Cond := .code yX0_refuseFall cX0_refuseFall 2 (some .int) :: ((wsX0_refuseFall_r1 ++ (wsX0_refuseFall_r2 ++ wsX0_refuseFall_r3)) ++ wsX00)
def wsX0_roundFrom : List Cond := .code yX0_roundFrom cX0_roundFrom 5 (some .int) :: ([.fieldLink RX0 38 "GiftLots" "count" "I", .fieldLink RX0 28 "GiftLots" "trial" "[I", .methodLink RX0 66 yX0_isOne, .instanceMethod yX0_isOne, .selects RX0 yX0_isOne yX0_isOne, .initialized RX0, .code yX0_isOne cX0_isOne 2 (some .boolean)] ++ wsX00)
def wsX0_hasLongRounds : List Cond := .code yX0_hasLongRounds cX0_hasLongRounds 3 (some .boolean) :: ([.fieldLink RX0 38 "GiftLots" "count" "I", .fieldLink RX0 57 "GiftLots" "shortest" "I", .methodLink RX0 172 yX0_roundFrom, .instanceMethod yX0_roundFrom, .selects RX0 yX0_roundFrom yX0_roundFrom, .initialized RX0, .code yX0_roundFrom cX0_roundFrom 5 (some .int), .fieldLink RX0 28 "GiftLots" "trial" "[I", .methodLink RX0 66 yX0_isOne, .instanceMethod yX0_isOne, .selects RX0 yX0_isOne yX0_isOne, .code yX0_isOne cX0_isOne 2 (some .boolean)] ++ wsX00)
def wsX0_judgeMend : List Cond := .code yX0_judgeMend cX0_judgeMend 3 none :: ([.fieldLink RX0 128 "GiftLots" "mendsFound" "I", .fieldLink RX0 131 "GiftLots" "fewestChanges" "I", .fieldLink RX0 28 "GiftLots" "trial" "[I", .fieldLink RX0 31 "GiftLots" "firstMend" "[I", .fieldLink RX0 38 "GiftLots" "count" "I", .methodLink RX0 103 arraycopyName, .native arraycopyName, .static arraycopyName, .initialized "java/lang/System", .methodLink RX0 169 yX0_hasLongRounds, .instanceMethod yX0_hasLongRounds, .selects RX0 yX0_hasLongRounds yX0_hasLongRounds, .initialized RX0, .code yX0_hasLongRounds cX0_hasLongRounds 3 (some .boolean), .fieldLink RX0 57 "GiftLots" "shortest" "I", .methodLink RX0 172 yX0_roundFrom, .instanceMethod yX0_roundFrom, .selects RX0 yX0_roundFrom yX0_roundFrom, .code yX0_roundFrom cX0_roundFrom 5 (some .int), .methodLink RX0 66 yX0_isOne, .instanceMethod yX0_isOne, .selects RX0 yX0_isOne yX0_isOne, .code yX0_isOne cX0_isOne 2 (some .boolean)] ++ wsX00)
def wsX0_layMend_r1 : List Cond := [Cond.fieldLink RX0 131 "GiftLots" "fewestChanges" "I", Cond.fieldLink RX0 9 "GiftLots" "board" "[I", Cond.fieldLink RX0 38 "GiftLots" "count" "I", Cond.fieldLink RX0 28 "GiftLots" "trial" "[I", Cond.fieldLink RX0 13 "GiftLots" "hand" "[I", Cond.methodLink RX0 66 yX0_isOne, Cond.instanceMethod yX0_isOne, Cond.selects RX0 yX0_isOne yX0_isOne, Cond.initialized RX0, Cond.code yX0_isOne cX0_isOne 2 (some .boolean), Cond.methodLink RX0 166 yX0_judgeMend, Cond.instanceMethod yX0_judgeMend, Cond.selects RX0 yX0_judgeMend yX0_judgeMend, Cond.code yX0_judgeMend cX0_judgeMend 3 none, Cond.fieldLink RX0 128 "GiftLots" "mendsFound" "I", Cond.fieldLink RX0 31 "GiftLots" "firstMend" "[I", Cond.methodLink RX0 103 arraycopyName, Cond.native arraycopyName, Cond.static arraycopyName, Cond.initialized "java/lang/System", Cond.methodLink RX0 169 yX0_hasLongRounds, Cond.instanceMethod yX0_hasLongRounds, Cond.selects RX0 yX0_hasLongRounds yX0_hasLongRounds, Cond.code yX0_hasLongRounds cX0_hasLongRounds 3 (some .boolean)]
def wsX0_layMend_r2 : List Cond := [Cond.fieldLink RX0 57 "GiftLots" "shortest" "I", Cond.methodLink RX0 172 yX0_roundFrom, Cond.instanceMethod yX0_roundFrom, Cond.selects RX0 yX0_roundFrom yX0_roundFrom, Cond.code yX0_roundFrom cX0_roundFrom 5 (some .int), Cond.methodLink RX0 162 yX0_layMend, Cond.instanceMethod yX0_layMend, Cond.selects RX0 yX0_layMend yX0_layMend, Cond.methodLink RX0 50 yX0_bit, Cond.static yX0_bit, Cond.code yX0_bit cX0_bit 1 (some .int)]
def wsX0_layMend : List Cond := .code yX0_layMend cX0_layMend 7 none :: ((wsX0_layMend_r1 ++ wsX0_layMend_r2) ++ wsX00)
def wsX0_findMends_r1 : List Cond := [Cond.fieldLink RX0 131 "GiftLots" "fewestChanges" "I", Cond.fieldLink RX0 128 "GiftLots" "mendsFound" "I", Cond.methodLink RX0 162 yX0_layMend, Cond.instanceMethod yX0_layMend, Cond.selects RX0 yX0_layMend yX0_layMend, Cond.initialized RX0, Cond.code yX0_layMend cX0_layMend 7 none, Cond.fieldLink RX0 9 "GiftLots" "board" "[I", Cond.fieldLink RX0 38 "GiftLots" "count" "I", Cond.fieldLink RX0 28 "GiftLots" "trial" "[I", Cond.fieldLink RX0 13 "GiftLots" "hand" "[I", Cond.methodLink RX0 66 yX0_isOne, Cond.instanceMethod yX0_isOne, Cond.selects RX0 yX0_isOne yX0_isOne, Cond.code yX0_isOne cX0_isOne 2 (some .boolean), Cond.methodLink RX0 166 yX0_judgeMend, Cond.instanceMethod yX0_judgeMend, Cond.selects RX0 yX0_judgeMend yX0_judgeMend, Cond.code yX0_judgeMend cX0_judgeMend 3 none, Cond.fieldLink RX0 31 "GiftLots" "firstMend" "[I", Cond.methodLink RX0 103 arraycopyName, Cond.native arraycopyName, Cond.static arraycopyName, Cond.initialized "java/lang/System"]
def wsX0_findMends_r2 : List Cond := [Cond.methodLink RX0 169 yX0_hasLongRounds, Cond.instanceMethod yX0_hasLongRounds, Cond.selects RX0 yX0_hasLongRounds yX0_hasLongRounds, Cond.code yX0_hasLongRounds cX0_hasLongRounds 3 (some .boolean), Cond.fieldLink RX0 57 "GiftLots" "shortest" "I", Cond.methodLink RX0 172 yX0_roundFrom, Cond.instanceMethod yX0_roundFrom, Cond.selects RX0 yX0_roundFrom yX0_roundFrom, Cond.code yX0_roundFrom cX0_roundFrom 5 (some .int), Cond.methodLink RX0 50 yX0_bit, Cond.static yX0_bit, Cond.code yX0_bit cX0_bit 1 (some .int)]
def wsX0_findMends : List Cond := .code yX0_findMends cX0_findMends 2 none :: ((wsX0_findMends_r1 ++ wsX0_findMends_r2) ++ wsX00)
def wsX0_changes_r1 : List Cond := [Cond.fieldLink RX0 128 "GiftLots" "mendsFound" "I", Cond.fieldLink RX0 131 "GiftLots" "fewestChanges" "I", Cond.methodLink RX0 122 yX0_refuseFall, Cond.instanceMethod yX0_refuseFall, Cond.selects RX0 yX0_refuseFall yX0_refuseFall, Cond.initialized RX0, Cond.code yX0_refuseFall cX0_refuseFall 2 (some .int), Cond.methodLink RX0 66 yX0_isOne, Cond.instanceMethod yX0_isOne, Cond.selects RX0 yX0_isOne yX0_isOne, Cond.code yX0_isOne cX0_isOne 2 (some .boolean), Cond.fieldLink RX0 38 "GiftLots" "count" "I", Cond.methodLink RX0 109 yX0_refuseHand, Cond.instanceMethod yX0_refuseHand, Cond.selects RX0 yX0_refuseHand yX0_refuseHand, Cond.code yX0_refuseHand cX0_refuseHand 2 (some .int), Cond.fieldLink RX0 13 "GiftLots" "hand" "[I", Cond.fieldLink RX0 57 "GiftLots" "shortest" "I", Cond.methodLink RX0 112 yX0_givesBelow, Cond.instanceMethod yX0_givesBelow, Cond.selects RX0 yX0_givesBelow yX0_givesBelow, Cond.code yX0_givesBelow cX0_givesBelow 3 (some .boolean), Cond.methodLink RX0 60 yX0_openRows, Cond.instanceMethod yX0_openRows]
def wsX0_changes_r2 : List Cond := [Cond.selects RX0 yX0_openRows yX0_openRows, Cond.code yX0_openRows cX0_openRows 1 none, Cond.fieldLink RX0 9 "GiftLots" "board" "[I", Cond.fieldLink RX0 16 "GiftLots" "rows" "[I", Cond.methodLink RX0 103 arraycopyName, Cond.native arraycopyName, Cond.static arraycopyName, Cond.initialized "java/lang/System", Cond.methodLink RX0 115 yX0_narrow, Cond.instanceMethod yX0_narrow, Cond.selects RX0 yX0_narrow yX0_narrow, Cond.code yX0_narrow cX0_narrow 3 none, Cond.methodLink RX0 50 yX0_bit, Cond.static yX0_bit, Cond.code yX0_bit cX0_bit 1 (some .int), Cond.methodLink RX0 63 yX0_countWays, Cond.instanceMethod yX0_countWays, Cond.selects RX0 yX0_countWays yX0_countWays, Cond.code yX0_countWays cX0_countWays 4 (some .int), Cond.fieldLink RX0 25 "GiftLots" "splits" "[I", Cond.methodLink RX0 73 yX0_closeRounds, Cond.instanceMethod yX0_closeRounds, Cond.selects RX0 yX0_closeRounds yX0_closeRounds, Cond.code yX0_closeRounds cX0_closeRounds 5 none]
def wsX0_changes_r3 : List Cond := [Cond.fieldLink RX0 19 "GiftLots" "chains" "[I", Cond.fieldLink RX0 22 "GiftLots" "closed" "[I", Cond.methodLink RX0 85 yX0_everyone, Cond.instanceMethod yX0_everyone, Cond.selects RX0 yX0_everyone yX0_everyone, Cond.code yX0_everyone cX0_everyone 1 (some .int), Cond.methodLink RX0 143 yJ7_fill_53178, Cond.static yJ7_fill_53178, Cond.initialized RJ7, Cond.code yJ7_fill_53178 cJ7_fill_53178 4 none, Cond.methodLink RX0 149 yX0_chainAt, Cond.static yX0_chainAt, Cond.code yX0_chainAt cX0_chainAt 2 (some .int), Cond.methodLink RX0 152 yX0_lengthenChains, Cond.instanceMethod yX0_lengthenChains, Cond.selects RX0 yX0_lengthenChains yX0_lengthenChains, Cond.code yX0_lengthenChains cX0_lengthenChains 9 (some .int), Cond.methodLink RX0 89 yJ6_bitCount_0f7a4, Cond.static yJ6_bitCount_0f7a4, Cond.initialized RJ6, Cond.code yJ6_bitCount_0f7a4 cJ6_bitCount_0f7a4 1 (some .int), Cond.constant RJ6 265 (1431655765), Cond.constant RJ6 266 (858993459), Cond.constant RJ6 267 (252645135)]
def wsX0_changes_r4 : List Cond := [Cond.methodLink RX0 140 yX0_takeOutRound, Cond.instanceMethod yX0_takeOutRound, Cond.selects RX0 yX0_takeOutRound yX0_takeOutRound, Cond.code yX0_takeOutRound cX0_takeOutRound 6 (some .int), Cond.methodLink RX0 125 yX0_findMends, Cond.instanceMethod yX0_findMends, Cond.selects RX0 yX0_findMends yX0_findMends, Cond.code yX0_findMends cX0_findMends 2 none, Cond.methodLink RX0 162 yX0_layMend, Cond.instanceMethod yX0_layMend, Cond.selects RX0 yX0_layMend yX0_layMend, Cond.code yX0_layMend cX0_layMend 7 none, Cond.fieldLink RX0 28 "GiftLots" "trial" "[I", Cond.methodLink RX0 166 yX0_judgeMend, Cond.instanceMethod yX0_judgeMend, Cond.selects RX0 yX0_judgeMend yX0_judgeMend, Cond.code yX0_judgeMend cX0_judgeMend 3 none, Cond.fieldLink RX0 31 "GiftLots" "firstMend" "[I", Cond.methodLink RX0 169 yX0_hasLongRounds, Cond.instanceMethod yX0_hasLongRounds, Cond.selects RX0 yX0_hasLongRounds yX0_hasLongRounds, Cond.code yX0_hasLongRounds cX0_hasLongRounds 3 (some .boolean), Cond.methodLink RX0 172 yX0_roundFrom, Cond.instanceMethod yX0_roundFrom]
def wsX0_changes_r5 : List Cond := [Cond.selects RX0 yX0_roundFrom yX0_roundFrom, Cond.code yX0_roundFrom cX0_roundFrom 5 (some .int)]
def wsX0_changes : List Cond := .code yX0_changes cX0_changes 3 (some .int) :: ((wsX0_changes_r1 ++ (wsX0_changes_r2 ++ (wsX0_changes_r3 ++ (wsX0_changes_r4 ++ wsX0_changes_r5)))) ++ wsX00)
def wsX0_mends_r1 : List Cond := [Cond.fieldLink RX0 128 "GiftLots" "mendsFound" "I", Cond.methodLink RX0 122 yX0_refuseFall, Cond.instanceMethod yX0_refuseFall, Cond.selects RX0 yX0_refuseFall yX0_refuseFall, Cond.initialized RX0, Cond.code yX0_refuseFall cX0_refuseFall 2 (some .int), Cond.methodLink RX0 66 yX0_isOne, Cond.instanceMethod yX0_isOne, Cond.selects RX0 yX0_isOne yX0_isOne, Cond.code yX0_isOne cX0_isOne 2 (some .boolean), Cond.fieldLink RX0 38 "GiftLots" "count" "I", Cond.methodLink RX0 109 yX0_refuseHand, Cond.instanceMethod yX0_refuseHand, Cond.selects RX0 yX0_refuseHand yX0_refuseHand, Cond.code yX0_refuseHand cX0_refuseHand 2 (some .int), Cond.fieldLink RX0 13 "GiftLots" "hand" "[I", Cond.fieldLink RX0 57 "GiftLots" "shortest" "I", Cond.methodLink RX0 112 yX0_givesBelow, Cond.instanceMethod yX0_givesBelow, Cond.selects RX0 yX0_givesBelow yX0_givesBelow, Cond.code yX0_givesBelow cX0_givesBelow 3 (some .boolean), Cond.methodLink RX0 60 yX0_openRows, Cond.instanceMethod yX0_openRows, Cond.selects RX0 yX0_openRows yX0_openRows]
def wsX0_mends_r2 : List Cond := [Cond.code yX0_openRows cX0_openRows 1 none, Cond.fieldLink RX0 9 "GiftLots" "board" "[I", Cond.fieldLink RX0 16 "GiftLots" "rows" "[I", Cond.methodLink RX0 103 arraycopyName, Cond.native arraycopyName, Cond.static arraycopyName, Cond.initialized "java/lang/System", Cond.methodLink RX0 115 yX0_narrow, Cond.instanceMethod yX0_narrow, Cond.selects RX0 yX0_narrow yX0_narrow, Cond.code yX0_narrow cX0_narrow 3 none, Cond.methodLink RX0 50 yX0_bit, Cond.static yX0_bit, Cond.code yX0_bit cX0_bit 1 (some .int), Cond.methodLink RX0 63 yX0_countWays, Cond.instanceMethod yX0_countWays, Cond.selects RX0 yX0_countWays yX0_countWays, Cond.code yX0_countWays cX0_countWays 4 (some .int), Cond.fieldLink RX0 25 "GiftLots" "splits" "[I", Cond.methodLink RX0 73 yX0_closeRounds, Cond.instanceMethod yX0_closeRounds, Cond.selects RX0 yX0_closeRounds yX0_closeRounds, Cond.code yX0_closeRounds cX0_closeRounds 5 none, Cond.fieldLink RX0 19 "GiftLots" "chains" "[I"]
def wsX0_mends_r3 : List Cond := [Cond.fieldLink RX0 22 "GiftLots" "closed" "[I", Cond.methodLink RX0 85 yX0_everyone, Cond.instanceMethod yX0_everyone, Cond.selects RX0 yX0_everyone yX0_everyone, Cond.code yX0_everyone cX0_everyone 1 (some .int), Cond.methodLink RX0 143 yJ7_fill_53178, Cond.static yJ7_fill_53178, Cond.initialized RJ7, Cond.code yJ7_fill_53178 cJ7_fill_53178 4 none, Cond.methodLink RX0 149 yX0_chainAt, Cond.static yX0_chainAt, Cond.code yX0_chainAt cX0_chainAt 2 (some .int), Cond.methodLink RX0 152 yX0_lengthenChains, Cond.instanceMethod yX0_lengthenChains, Cond.selects RX0 yX0_lengthenChains yX0_lengthenChains, Cond.code yX0_lengthenChains cX0_lengthenChains 9 (some .int), Cond.methodLink RX0 89 yJ6_bitCount_0f7a4, Cond.static yJ6_bitCount_0f7a4, Cond.initialized RJ6, Cond.code yJ6_bitCount_0f7a4 cJ6_bitCount_0f7a4 1 (some .int), Cond.constant RJ6 265 (1431655765), Cond.constant RJ6 266 (858993459), Cond.constant RJ6 267 (252645135), Cond.methodLink RX0 140 yX0_takeOutRound]
def wsX0_mends_r4 : List Cond := [Cond.instanceMethod yX0_takeOutRound, Cond.selects RX0 yX0_takeOutRound yX0_takeOutRound, Cond.code yX0_takeOutRound cX0_takeOutRound 6 (some .int), Cond.methodLink RX0 125 yX0_findMends, Cond.instanceMethod yX0_findMends, Cond.selects RX0 yX0_findMends yX0_findMends, Cond.code yX0_findMends cX0_findMends 2 none, Cond.fieldLink RX0 131 "GiftLots" "fewestChanges" "I", Cond.methodLink RX0 162 yX0_layMend, Cond.instanceMethod yX0_layMend, Cond.selects RX0 yX0_layMend yX0_layMend, Cond.code yX0_layMend cX0_layMend 7 none, Cond.fieldLink RX0 28 "GiftLots" "trial" "[I", Cond.methodLink RX0 166 yX0_judgeMend, Cond.instanceMethod yX0_judgeMend, Cond.selects RX0 yX0_judgeMend yX0_judgeMend, Cond.code yX0_judgeMend cX0_judgeMend 3 none, Cond.fieldLink RX0 31 "GiftLots" "firstMend" "[I", Cond.methodLink RX0 169 yX0_hasLongRounds, Cond.instanceMethod yX0_hasLongRounds, Cond.selects RX0 yX0_hasLongRounds yX0_hasLongRounds, Cond.code yX0_hasLongRounds cX0_hasLongRounds 3 (some .boolean), Cond.methodLink RX0 172 yX0_roundFrom, Cond.instanceMethod yX0_roundFrom]
def wsX0_mends_r5 : List Cond := [Cond.selects RX0 yX0_roundFrom yX0_roundFrom, Cond.code yX0_roundFrom cX0_roundFrom 5 (some .int)]
def wsX0_mends : List Cond := .code yX0_mends cX0_mends 3 (some .int) :: ((wsX0_mends_r1 ++ (wsX0_mends_r2 ++ (wsX0_mends_r3 ++ (wsX0_mends_r4 ++ wsX0_mends_r5)))) ++ wsX00)
def wsX0_mend_r1 : List Cond := [Cond.fieldLink RX0 128 "GiftLots" "mendsFound" "I", Cond.fieldLink RX0 31 "GiftLots" "firstMend" "[I", Cond.methodLink RX0 66 yX0_isOne, Cond.instanceMethod yX0_isOne, Cond.selects RX0 yX0_isOne yX0_isOne, Cond.initialized RX0, Cond.code yX0_isOne cX0_isOne 2 (some .boolean), Cond.fieldLink RX0 38 "GiftLots" "count" "I", Cond.methodLink RX0 109 yX0_refuseHand, Cond.instanceMethod yX0_refuseHand, Cond.selects RX0 yX0_refuseHand yX0_refuseHand, Cond.code yX0_refuseHand cX0_refuseHand 2 (some .int), Cond.fieldLink RX0 13 "GiftLots" "hand" "[I", Cond.fieldLink RX0 57 "GiftLots" "shortest" "I", Cond.methodLink RX0 112 yX0_givesBelow, Cond.instanceMethod yX0_givesBelow, Cond.selects RX0 yX0_givesBelow yX0_givesBelow, Cond.code yX0_givesBelow cX0_givesBelow 3 (some .boolean), Cond.methodLink RX0 60 yX0_openRows, Cond.instanceMethod yX0_openRows, Cond.selects RX0 yX0_openRows yX0_openRows, Cond.code yX0_openRows cX0_openRows 1 none, Cond.fieldLink RX0 9 "GiftLots" "board" "[I", Cond.fieldLink RX0 16 "GiftLots" "rows" "[I"]
def wsX0_mend_r2 : List Cond := [Cond.methodLink RX0 103 arraycopyName, Cond.native arraycopyName, Cond.static arraycopyName, Cond.initialized "java/lang/System", Cond.methodLink RX0 115 yX0_narrow, Cond.instanceMethod yX0_narrow, Cond.selects RX0 yX0_narrow yX0_narrow, Cond.code yX0_narrow cX0_narrow 3 none, Cond.methodLink RX0 50 yX0_bit, Cond.static yX0_bit, Cond.code yX0_bit cX0_bit 1 (some .int), Cond.methodLink RX0 63 yX0_countWays, Cond.instanceMethod yX0_countWays, Cond.selects RX0 yX0_countWays yX0_countWays, Cond.code yX0_countWays cX0_countWays 4 (some .int), Cond.fieldLink RX0 25 "GiftLots" "splits" "[I", Cond.methodLink RX0 73 yX0_closeRounds, Cond.instanceMethod yX0_closeRounds, Cond.selects RX0 yX0_closeRounds yX0_closeRounds, Cond.code yX0_closeRounds cX0_closeRounds 5 none, Cond.fieldLink RX0 19 "GiftLots" "chains" "[I", Cond.fieldLink RX0 22 "GiftLots" "closed" "[I", Cond.methodLink RX0 85 yX0_everyone, Cond.instanceMethod yX0_everyone]
def wsX0_mend_r3 : List Cond := [Cond.selects RX0 yX0_everyone yX0_everyone, Cond.code yX0_everyone cX0_everyone 1 (some .int), Cond.methodLink RX0 143 yJ7_fill_53178, Cond.static yJ7_fill_53178, Cond.initialized RJ7, Cond.code yJ7_fill_53178 cJ7_fill_53178 4 none, Cond.methodLink RX0 149 yX0_chainAt, Cond.static yX0_chainAt, Cond.code yX0_chainAt cX0_chainAt 2 (some .int), Cond.methodLink RX0 152 yX0_lengthenChains, Cond.instanceMethod yX0_lengthenChains, Cond.selects RX0 yX0_lengthenChains yX0_lengthenChains, Cond.code yX0_lengthenChains cX0_lengthenChains 9 (some .int), Cond.methodLink RX0 89 yJ6_bitCount_0f7a4, Cond.static yJ6_bitCount_0f7a4, Cond.initialized RJ6, Cond.code yJ6_bitCount_0f7a4 cJ6_bitCount_0f7a4 1 (some .int), Cond.constant RJ6 265 (1431655765), Cond.constant RJ6 266 (858993459), Cond.constant RJ6 267 (252645135), Cond.methodLink RX0 140 yX0_takeOutRound, Cond.instanceMethod yX0_takeOutRound, Cond.selects RX0 yX0_takeOutRound yX0_takeOutRound, Cond.code yX0_takeOutRound cX0_takeOutRound 6 (some .int)]
def wsX0_mend_r4 : List Cond := [Cond.methodLink RX0 125 yX0_findMends, Cond.instanceMethod yX0_findMends, Cond.selects RX0 yX0_findMends yX0_findMends, Cond.code yX0_findMends cX0_findMends 2 none, Cond.fieldLink RX0 131 "GiftLots" "fewestChanges" "I", Cond.methodLink RX0 162 yX0_layMend, Cond.instanceMethod yX0_layMend, Cond.selects RX0 yX0_layMend yX0_layMend, Cond.code yX0_layMend cX0_layMend 7 none, Cond.fieldLink RX0 28 "GiftLots" "trial" "[I", Cond.methodLink RX0 166 yX0_judgeMend, Cond.instanceMethod yX0_judgeMend, Cond.selects RX0 yX0_judgeMend yX0_judgeMend, Cond.code yX0_judgeMend cX0_judgeMend 3 none, Cond.methodLink RX0 169 yX0_hasLongRounds, Cond.instanceMethod yX0_hasLongRounds, Cond.selects RX0 yX0_hasLongRounds yX0_hasLongRounds, Cond.code yX0_hasLongRounds cX0_hasLongRounds 3 (some .boolean), Cond.methodLink RX0 172 yX0_roundFrom, Cond.instanceMethod yX0_roundFrom, Cond.selects RX0 yX0_roundFrom yX0_roundFrom, Cond.code yX0_roundFrom cX0_roundFrom 5 (some .int)]
def wsX0_mend : List Cond := .code yX0_mend cX0_mend 4 (some .int) :: ((wsX0_mend_r1 ++ (wsX0_mend_r2 ++ (wsX0_mend_r3 ++ wsX0_mend_r4))) ++ wsX00)
def wsX0_countPairs : List Cond := .code yX0_countPairs cX0_countPairs 3 (some .int) :: ([.fieldLink RX0 38 "GiftLots" "count" "I", .fieldLink RX0 9 "GiftLots" "board" "[I", .methodLink RX0 89 yJ6_bitCount_0f7a4, .static yJ6_bitCount_0f7a4, .initialized RJ6, .code yJ6_bitCount_0f7a4 cJ6_bitCount_0f7a4 1 (some .int), .constant RJ6 265 (1431655765), .constant RJ6 266 (858993459), .constant RJ6 267 (252645135)] ++ wsX00)
def wsX0_countGivers : List Cond := .code yX0_countGivers cX0_countGivers 3 (some .int) :: ([.fieldLink RX0 38 "GiftLots" "count" "I", .fieldLink RX0 13 "GiftLots" "hand" "[I"] ++ wsX00)
def wsX0_told : List Cond := .code yX0_told cX0_told 2 (some .int) :: ([.fieldLink RX0 38 "GiftLots" "count" "I", .fieldLink RX0 57 "GiftLots" "shortest" "I", .methodLink RX0 134 yX0_countPairs, .instanceMethod yX0_countPairs, .selects RX0 yX0_countPairs yX0_countPairs, .initialized RX0, .code yX0_countPairs cX0_countPairs 3 (some .int), .fieldLink RX0 9 "GiftLots" "board" "[I", .methodLink RX0 89 yJ6_bitCount_0f7a4, .static yJ6_bitCount_0f7a4, .initialized RJ6, .code yJ6_bitCount_0f7a4 cJ6_bitCount_0f7a4 1 (some .int), .constant RJ6 265 (1431655765), .constant RJ6 266 (858993459), .constant RJ6 267 (252645135), .methodLink RX0 137 yX0_countGivers, .instanceMethod yX0_countGivers, .selects RX0 yX0_countGivers yX0_countGivers, .code yX0_countGivers cX0_countGivers 3 (some .int), .fieldLink RX0 13 "GiftLots" "hand" "[I"] ++ wsX00)
def wsX1_begin : List Cond := .code yX1_begin cX1_begin 2 none :: ([.fieldLink RX1 13 "GiftLotsModel" "least" "I", .fieldLink RX1 16 "GiftLotsModel" "may" "[I", .fieldLink RX1 7 "GiftLotsModel" "ones" "I", .fieldLink RX1 20 "GiftLotsModel" "hand" "[I"] ++ wsX10)
def wsX1_init : List Cond := .code yX1_init cX1_init 1 none :: ([.methodLink RX1 1 objectInit, .instanceMethod objectInit, .code objectInit ⟨#[0xb1]⟩ 1 none, .fieldLink RX1 7 "GiftLotsModel" "ones" "I", .fieldLink RX1 13 "GiftLotsModel" "least" "I", .arrayClass .int, .fieldLink RX1 16 "GiftLotsModel" "may" "[I", .fieldLink RX1 20 "GiftLotsModel" "hand" "[I", .fieldLink RX1 23 "GiftLotsModel" "gives" "[I", .fieldLink RX1 26 "GiftLotsModel" "put" "[I", .fieldLink RX1 29 "GiftLotsModel" "first" "[I", .methodLink RX1 32 yX1_begin, .instanceMethod yX1_begin, .selects RX1 yX1_begin yX1_begin, .initialized RX1, .code yX1_begin cX1_begin 2 none] ++ wsX10)
def wsX1_in : List Cond := .code yX1_in cX1_in 3 (some .boolean) :: ([])
def wsX1_isOne : List Cond := .code yX1_isOne cX1_isOne 2 (some .boolean) :: ([.fieldLink RX1 7 "GiftLotsModel" "ones" "I", .methodLink RX1 35 yX1_in, .static yX1_in, .initialized RX1, .code yX1_in cX1_in 3 (some .boolean)] ++ wsX10)
def wsX1_ones : List Cond := .code yX1_ones cX1_ones 3 (some .int) :: ([.fieldLink RX1 7 "GiftLotsModel" "ones" "I", .methodLink RX1 35 yX1_in, .static yX1_in, .initialized RX1, .code yX1_in cX1_in 3 (some .boolean), .methodLink RX1 32 yX1_begin, .instanceMethod yX1_begin, .selects RX1 yX1_begin yX1_begin, .code yX1_begin cX1_begin 2 none, .fieldLink RX1 13 "GiftLotsModel" "least" "I", .fieldLink RX1 16 "GiftLotsModel" "may" "[I", .fieldLink RX1 20 "GiftLotsModel" "hand" "[I"] ++ wsX10)
def wsX1_may : List Cond := .code yX1_may cX1_may 5 (some .int) :: ([.fieldLink RX1 16 "GiftLotsModel" "may" "[I", .methodLink RX1 39 yX1_isOne, .instanceMethod yX1_isOne, .selects RX1 yX1_isOne yX1_isOne, .initialized RX1, .code yX1_isOne cX1_isOne 2 (some .boolean), .fieldLink RX1 7 "GiftLotsModel" "ones" "I", .methodLink RX1 35 yX1_in, .static yX1_in, .code yX1_in cX1_in 3 (some .boolean)] ++ wsX10)
def wsX1_couple : List Cond := .code yX1_couple cX1_couple 3 (some .int) :: ([.methodLink RX1 39 yX1_isOne, .instanceMethod yX1_isOne, .selects RX1 yX1_isOne yX1_isOne, .initialized RX1, .code yX1_isOne cX1_isOne 2 (some .boolean), .fieldLink RX1 7 "GiftLotsModel" "ones" "I", .methodLink RX1 35 yX1_in, .static yX1_in, .code yX1_in cX1_in 3 (some .boolean), .methodLink RX1 43 yX1_may, .instanceMethod yX1_may, .selects RX1 yX1_may yX1_may, .code yX1_may cX1_may 5 (some .int), .fieldLink RX1 16 "GiftLotsModel" "may" "[I"] ++ wsX10)
def wsX1_bar : List Cond := .code yX1_bar cX1_bar 3 (some .int) :: ([.fieldLink RX1 7 "GiftLotsModel" "ones" "I", .fieldLink RX1 20 "GiftLotsModel" "hand" "[I", .methodLink RX1 43 yX1_may, .instanceMethod yX1_may, .selects RX1 yX1_may yX1_may, .initialized RX1, .code yX1_may cX1_may 5 (some .int), .fieldLink RX1 16 "GiftLotsModel" "may" "[I", .methodLink RX1 39 yX1_isOne, .instanceMethod yX1_isOne, .selects RX1 yX1_isOne yX1_isOne, .code yX1_isOne cX1_isOne 2 (some .boolean), .methodLink RX1 35 yX1_in, .static yX1_in, .code yX1_in cX1_in 3 (some .boolean)] ++ wsX10)
def wsX1_least : List Cond := .code yX1_least cX1_least 3 (some .int) :: ([.fieldLink RX1 13 "GiftLotsModel" "least" "I", .methodLink RX1 35 yX1_in, .static yX1_in, .initialized RX1, .code yX1_in cX1_in 3 (some .boolean)] ++ wsX10)
def wsX1_start : List Cond := .code yX1_start cX1_start 4 none :: ([.fieldLink RX1 46 "GiftLotsModel" "who" "I", .fieldLink RX1 49 "GiftLotsModel" "anyRounds" "Z", .fieldLink RX1 23 "GiftLotsModel" "gives" "[I"] ++ wsX10)
def wsX1_after : List Cond := .code yX1_after cX1_after 4 (some .int) :: ([.fieldLink RX1 7 "GiftLotsModel" "ones" "I", .fieldLink RX1 46 "GiftLotsModel" "who" "I", .methodLink RX1 35 yX1_in, .static yX1_in, .initialized RX1, .code yX1_in cX1_in 3 (some .boolean)] ++ wsX10)
def wsX1_gotten : List Cond := .code yX1_gotten cX1_gotten 3 (some .int) :: ([.fieldLink RX1 7 "GiftLotsModel" "ones" "I", .fieldLink RX1 23 "GiftLotsModel" "gives" "[I"] ++ wsX10)
def wsX1_roundOf : List Cond := .code yX1_roundOf cX1_roundOf 4 (some .int) :: ([.fieldLink RX1 23 "GiftLotsModel" "gives" "[I"] ++ wsX10)
def wsX1_areLong : List Cond := .code yX1_areLong cX1_areLong 3 (some .boolean) :: ([.fieldLink RX1 7 "GiftLotsModel" "ones" "I", .fieldLink RX1 46 "GiftLotsModel" "who" "I", .fieldLink RX1 13 "GiftLotsModel" "least" "I", .methodLink RX1 53 yX1_roundOf, .instanceMethod yX1_roundOf, .selects RX1 yX1_roundOf yX1_roundOf, .initialized RX1, .code yX1_roundOf cX1_roundOf 4 (some .int), .fieldLink RX1 23 "GiftLotsModel" "gives" "[I"] ++ wsX10)
def wsX1_next_r1 : List Cond := [Cond.fieldLink RX1 7 "GiftLotsModel" "ones" "I", Cond.fieldLink RX1 23 "GiftLotsModel" "gives" "[I", Cond.fieldLink RX1 16 "GiftLotsModel" "may" "[I", Cond.fieldLink RX1 46 "GiftLotsModel" "who" "I", Cond.fieldLink RX1 49 "GiftLotsModel" "anyRounds" "Z", Cond.methodLink RX1 57 yX1_after, Cond.instanceMethod yX1_after, Cond.selects RX1 yX1_after yX1_after, Cond.initialized RX1, Cond.code yX1_after cX1_after 4 (some .int), Cond.methodLink RX1 35 yX1_in, Cond.static yX1_in, Cond.code yX1_in cX1_in 3 (some .boolean), Cond.methodLink RX1 61 yX1_gotten, Cond.instanceMethod yX1_gotten, Cond.selects RX1 yX1_gotten yX1_gotten, Cond.code yX1_gotten cX1_gotten 3 (some .int), Cond.methodLink RX1 65 yX1_areLong, Cond.instanceMethod yX1_areLong, Cond.selects RX1 yX1_areLong yX1_areLong, Cond.code yX1_areLong cX1_areLong 3 (some .boolean), Cond.fieldLink RX1 13 "GiftLotsModel" "least" "I", Cond.methodLink RX1 53 yX1_roundOf, Cond.instanceMethod yX1_roundOf]
def wsX1_next_r2 : List Cond := [Cond.selects RX1 yX1_roundOf yX1_roundOf, Cond.code yX1_roundOf cX1_roundOf 4 (some .int)]
def wsX1_next : List Cond := .code yX1_next cX1_next 6 (some .boolean) :: ((wsX1_next_r1 ++ wsX1_next_r2) ++ wsX10)
def wsX1_all : List Cond := .code yX1_all cX1_all 1 (some .int) :: ([.fieldLink RX1 7 "GiftLotsModel" "ones" "I"] ++ wsX10)
def wsX1_ways_r1 : List Cond := [Cond.methodLink RX1 69 yX1_all, Cond.instanceMethod yX1_all, Cond.selects RX1 yX1_all yX1_all, Cond.initialized RX1, Cond.code yX1_all cX1_all 1 (some .int), Cond.fieldLink RX1 7 "GiftLotsModel" "ones" "I", Cond.methodLink RX1 72 yX1_start, Cond.instanceMethod yX1_start, Cond.selects RX1 yX1_start yX1_start, Cond.code yX1_start cX1_start 4 none, Cond.fieldLink RX1 46 "GiftLotsModel" "who" "I", Cond.fieldLink RX1 49 "GiftLotsModel" "anyRounds" "Z", Cond.fieldLink RX1 23 "GiftLotsModel" "gives" "[I", Cond.methodLink RX1 76 yX1_next, Cond.instanceMethod yX1_next, Cond.selects RX1 yX1_next yX1_next, Cond.code yX1_next cX1_next 6 (some .boolean), Cond.fieldLink RX1 16 "GiftLotsModel" "may" "[I", Cond.methodLink RX1 57 yX1_after, Cond.instanceMethod yX1_after, Cond.selects RX1 yX1_after yX1_after, Cond.code yX1_after cX1_after 4 (some .int), Cond.methodLink RX1 35 yX1_in, Cond.static yX1_in]
def wsX1_ways_r2 : List Cond := [Cond.code yX1_in cX1_in 3 (some .boolean), Cond.methodLink RX1 61 yX1_gotten, Cond.instanceMethod yX1_gotten, Cond.selects RX1 yX1_gotten yX1_gotten, Cond.code yX1_gotten cX1_gotten 3 (some .int), Cond.methodLink RX1 65 yX1_areLong, Cond.instanceMethod yX1_areLong, Cond.selects RX1 yX1_areLong yX1_areLong, Cond.code yX1_areLong cX1_areLong 3 (some .boolean), Cond.fieldLink RX1 13 "GiftLotsModel" "least" "I", Cond.methodLink RX1 53 yX1_roundOf, Cond.instanceMethod yX1_roundOf, Cond.selects RX1 yX1_roundOf yX1_roundOf, Cond.code yX1_roundOf cX1_roundOf 4 (some .int)]
def wsX1_ways : List Cond := .code yX1_ways cX1_ways 2 (some .int) :: ((wsX1_ways_r1 ++ wsX1_ways_r2) ++ wsX10)
def wsX1_free_r1 : List Cond := [Cond.methodLink RX1 69 yX1_all, Cond.instanceMethod yX1_all, Cond.selects RX1 yX1_all yX1_all, Cond.initialized RX1, Cond.code yX1_all cX1_all 1 (some .int), Cond.fieldLink RX1 7 "GiftLotsModel" "ones" "I", Cond.methodLink RX1 72 yX1_start, Cond.instanceMethod yX1_start, Cond.selects RX1 yX1_start yX1_start, Cond.code yX1_start cX1_start 4 none, Cond.fieldLink RX1 46 "GiftLotsModel" "who" "I", Cond.fieldLink RX1 49 "GiftLotsModel" "anyRounds" "Z", Cond.fieldLink RX1 23 "GiftLotsModel" "gives" "[I", Cond.methodLink RX1 76 yX1_next, Cond.instanceMethod yX1_next, Cond.selects RX1 yX1_next yX1_next, Cond.code yX1_next cX1_next 6 (some .boolean), Cond.fieldLink RX1 16 "GiftLotsModel" "may" "[I", Cond.methodLink RX1 57 yX1_after, Cond.instanceMethod yX1_after, Cond.selects RX1 yX1_after yX1_after, Cond.code yX1_after cX1_after 4 (some .int), Cond.methodLink RX1 35 yX1_in, Cond.static yX1_in]
def wsX1_free_r2 : List Cond := [Cond.code yX1_in cX1_in 3 (some .boolean), Cond.methodLink RX1 61 yX1_gotten, Cond.instanceMethod yX1_gotten, Cond.selects RX1 yX1_gotten yX1_gotten, Cond.code yX1_gotten cX1_gotten 3 (some .int), Cond.methodLink RX1 65 yX1_areLong, Cond.instanceMethod yX1_areLong, Cond.selects RX1 yX1_areLong yX1_areLong, Cond.code yX1_areLong cX1_areLong 3 (some .boolean), Cond.fieldLink RX1 13 "GiftLotsModel" "least" "I", Cond.methodLink RX1 53 yX1_roundOf, Cond.instanceMethod yX1_roundOf, Cond.selects RX1 yX1_roundOf yX1_roundOf, Cond.code yX1_roundOf cX1_roundOf 4 (some .int)]
def wsX1_free : List Cond := .code yX1_free cX1_free 2 (some .int) :: ((wsX1_free_r1 ++ wsX1_free_r2) ++ wsX10)
def wsX1_goTo_r1 : List Cond := [Cond.methodLink RX1 69 yX1_all, Cond.instanceMethod yX1_all, Cond.selects RX1 yX1_all yX1_all, Cond.initialized RX1, Cond.code yX1_all cX1_all 1 (some .int), Cond.fieldLink RX1 7 "GiftLotsModel" "ones" "I", Cond.methodLink RX1 72 yX1_start, Cond.instanceMethod yX1_start, Cond.selects RX1 yX1_start yX1_start, Cond.code yX1_start cX1_start 4 none, Cond.fieldLink RX1 46 "GiftLotsModel" "who" "I", Cond.fieldLink RX1 49 "GiftLotsModel" "anyRounds" "Z", Cond.fieldLink RX1 23 "GiftLotsModel" "gives" "[I", Cond.methodLink RX1 76 yX1_next, Cond.instanceMethod yX1_next, Cond.selects RX1 yX1_next yX1_next, Cond.code yX1_next cX1_next 6 (some .boolean), Cond.fieldLink RX1 16 "GiftLotsModel" "may" "[I", Cond.methodLink RX1 57 yX1_after, Cond.instanceMethod yX1_after, Cond.selects RX1 yX1_after yX1_after, Cond.code yX1_after cX1_after 4 (some .int), Cond.methodLink RX1 35 yX1_in, Cond.static yX1_in]
def wsX1_goTo_r2 : List Cond := [Cond.code yX1_in cX1_in 3 (some .boolean), Cond.methodLink RX1 61 yX1_gotten, Cond.instanceMethod yX1_gotten, Cond.selects RX1 yX1_gotten yX1_gotten, Cond.code yX1_gotten cX1_gotten 3 (some .int), Cond.methodLink RX1 65 yX1_areLong, Cond.instanceMethod yX1_areLong, Cond.selects RX1 yX1_areLong yX1_areLong, Cond.code yX1_areLong cX1_areLong 3 (some .boolean), Cond.fieldLink RX1 13 "GiftLotsModel" "least" "I", Cond.methodLink RX1 53 yX1_roundOf, Cond.instanceMethod yX1_roundOf, Cond.selects RX1 yX1_roundOf yX1_roundOf, Cond.code yX1_roundOf cX1_roundOf 4 (some .int)]
def wsX1_goTo : List Cond := .code yX1_goTo cX1_goTo 3 (some .boolean) :: ((wsX1_goTo_r1 ++ wsX1_goTo_r2) ++ wsX10)
def wsX1_way_r1 : List Cond := [Cond.fieldLink RX1 23 "GiftLotsModel" "gives" "[I", Cond.methodLink RX1 39 yX1_isOne, Cond.instanceMethod yX1_isOne, Cond.selects RX1 yX1_isOne yX1_isOne, Cond.initialized RX1, Cond.code yX1_isOne cX1_isOne 2 (some .boolean), Cond.fieldLink RX1 7 "GiftLotsModel" "ones" "I", Cond.methodLink RX1 35 yX1_in, Cond.static yX1_in, Cond.code yX1_in cX1_in 3 (some .boolean), Cond.methodLink RX1 79 yX1_goTo, Cond.instanceMethod yX1_goTo, Cond.selects RX1 yX1_goTo yX1_goTo, Cond.code yX1_goTo cX1_goTo 3 (some .boolean), Cond.methodLink RX1 69 yX1_all, Cond.instanceMethod yX1_all, Cond.selects RX1 yX1_all yX1_all, Cond.code yX1_all cX1_all 1 (some .int), Cond.methodLink RX1 72 yX1_start, Cond.instanceMethod yX1_start, Cond.selects RX1 yX1_start yX1_start, Cond.code yX1_start cX1_start 4 none, Cond.fieldLink RX1 46 "GiftLotsModel" "who" "I", Cond.fieldLink RX1 49 "GiftLotsModel" "anyRounds" "Z"]
def wsX1_way_r2 : List Cond := [Cond.methodLink RX1 76 yX1_next, Cond.instanceMethod yX1_next, Cond.selects RX1 yX1_next yX1_next, Cond.code yX1_next cX1_next 6 (some .boolean), Cond.fieldLink RX1 16 "GiftLotsModel" "may" "[I", Cond.methodLink RX1 57 yX1_after, Cond.instanceMethod yX1_after, Cond.selects RX1 yX1_after yX1_after, Cond.code yX1_after cX1_after 4 (some .int), Cond.methodLink RX1 61 yX1_gotten, Cond.instanceMethod yX1_gotten, Cond.selects RX1 yX1_gotten yX1_gotten, Cond.code yX1_gotten cX1_gotten 3 (some .int), Cond.methodLink RX1 65 yX1_areLong, Cond.instanceMethod yX1_areLong, Cond.selects RX1 yX1_areLong yX1_areLong, Cond.code yX1_areLong cX1_areLong 3 (some .boolean), Cond.fieldLink RX1 13 "GiftLotsModel" "least" "I", Cond.methodLink RX1 53 yX1_roundOf, Cond.instanceMethod yX1_roundOf, Cond.selects RX1 yX1_roundOf yX1_roundOf, Cond.code yX1_roundOf cX1_roundOf 4 (some .int)]
def wsX1_way : List Cond := .code yX1_way cX1_way 3 (some .int) :: ((wsX1_way_r1 ++ wsX1_way_r2) ++ wsX10)
def wsX1_roundsNow : List Cond := .code yX1_roundsNow cX1_roundsNow 5 (some .int) :: ([.fieldLink RX1 7 "GiftLotsModel" "ones" "I", .fieldLink RX1 23 "GiftLotsModel" "gives" "[I"] ++ wsX10)
def wsX1_rounds_r1 : List Cond := [Cond.methodLink RX1 69 yX1_all, Cond.instanceMethod yX1_all, Cond.selects RX1 yX1_all yX1_all, Cond.initialized RX1, Cond.code yX1_all cX1_all 1 (some .int), Cond.fieldLink RX1 7 "GiftLotsModel" "ones" "I", Cond.methodLink RX1 72 yX1_start, Cond.instanceMethod yX1_start, Cond.selects RX1 yX1_start yX1_start, Cond.code yX1_start cX1_start 4 none, Cond.fieldLink RX1 46 "GiftLotsModel" "who" "I", Cond.fieldLink RX1 49 "GiftLotsModel" "anyRounds" "Z", Cond.fieldLink RX1 23 "GiftLotsModel" "gives" "[I", Cond.methodLink RX1 76 yX1_next, Cond.instanceMethod yX1_next, Cond.selects RX1 yX1_next yX1_next, Cond.code yX1_next cX1_next 6 (some .boolean), Cond.fieldLink RX1 16 "GiftLotsModel" "may" "[I", Cond.methodLink RX1 57 yX1_after, Cond.instanceMethod yX1_after, Cond.selects RX1 yX1_after yX1_after, Cond.code yX1_after cX1_after 4 (some .int), Cond.methodLink RX1 35 yX1_in, Cond.static yX1_in]
def wsX1_rounds_r2 : List Cond := [Cond.code yX1_in cX1_in 3 (some .boolean), Cond.methodLink RX1 61 yX1_gotten, Cond.instanceMethod yX1_gotten, Cond.selects RX1 yX1_gotten yX1_gotten, Cond.code yX1_gotten cX1_gotten 3 (some .int), Cond.methodLink RX1 65 yX1_areLong, Cond.instanceMethod yX1_areLong, Cond.selects RX1 yX1_areLong yX1_areLong, Cond.code yX1_areLong cX1_areLong 3 (some .boolean), Cond.fieldLink RX1 13 "GiftLotsModel" "least" "I", Cond.methodLink RX1 53 yX1_roundOf, Cond.instanceMethod yX1_roundOf, Cond.selects RX1 yX1_roundOf yX1_roundOf, Cond.code yX1_roundOf cX1_roundOf 4 (some .int), Cond.methodLink RX1 82 yX1_roundsNow, Cond.instanceMethod yX1_roundsNow, Cond.selects RX1 yX1_roundsNow yX1_roundsNow, Cond.code yX1_roundsNow cX1_roundsNow 5 (some .int)]
def wsX1_rounds : List Cond := .code yX1_rounds cX1_rounds 3 (some .int) :: ((wsX1_rounds_r1 ++ wsX1_rounds_r2) ++ wsX10)
def wsX1_waysWith_r1 : List Cond := [Cond.fieldLink RX1 23 "GiftLotsModel" "gives" "[I", Cond.methodLink RX1 69 yX1_all, Cond.instanceMethod yX1_all, Cond.selects RX1 yX1_all yX1_all, Cond.initialized RX1, Cond.code yX1_all cX1_all 1 (some .int), Cond.fieldLink RX1 7 "GiftLotsModel" "ones" "I", Cond.methodLink RX1 72 yX1_start, Cond.instanceMethod yX1_start, Cond.selects RX1 yX1_start yX1_start, Cond.code yX1_start cX1_start 4 none, Cond.fieldLink RX1 46 "GiftLotsModel" "who" "I", Cond.fieldLink RX1 49 "GiftLotsModel" "anyRounds" "Z", Cond.methodLink RX1 76 yX1_next, Cond.instanceMethod yX1_next, Cond.selects RX1 yX1_next yX1_next, Cond.code yX1_next cX1_next 6 (some .boolean), Cond.fieldLink RX1 16 "GiftLotsModel" "may" "[I", Cond.methodLink RX1 57 yX1_after, Cond.instanceMethod yX1_after, Cond.selects RX1 yX1_after yX1_after, Cond.code yX1_after cX1_after 4 (some .int), Cond.methodLink RX1 35 yX1_in, Cond.static yX1_in]
def wsX1_waysWith_r2 : List Cond := [Cond.code yX1_in cX1_in 3 (some .boolean), Cond.methodLink RX1 61 yX1_gotten, Cond.instanceMethod yX1_gotten, Cond.selects RX1 yX1_gotten yX1_gotten, Cond.code yX1_gotten cX1_gotten 3 (some .int), Cond.methodLink RX1 65 yX1_areLong, Cond.instanceMethod yX1_areLong, Cond.selects RX1 yX1_areLong yX1_areLong, Cond.code yX1_areLong cX1_areLong 3 (some .boolean), Cond.fieldLink RX1 13 "GiftLotsModel" "least" "I", Cond.methodLink RX1 53 yX1_roundOf, Cond.instanceMethod yX1_roundOf, Cond.selects RX1 yX1_roundOf yX1_roundOf, Cond.code yX1_roundOf cX1_roundOf 4 (some .int)]
def wsX1_waysWith : List Cond := .code yX1_waysWith cX1_waysWith 4 (some .int) :: ((wsX1_waysWith_r1 ++ wsX1_waysWith_r2) ++ wsX10)
def wsX1_both_r1 : List Cond := [Cond.methodLink RX1 39 yX1_isOne, Cond.instanceMethod yX1_isOne, Cond.selects RX1 yX1_isOne yX1_isOne, Cond.initialized RX1, Cond.code yX1_isOne cX1_isOne 2 (some .boolean), Cond.fieldLink RX1 7 "GiftLotsModel" "ones" "I", Cond.methodLink RX1 35 yX1_in, Cond.static yX1_in, Cond.code yX1_in cX1_in 3 (some .boolean), Cond.methodLink RX1 85 yX1_waysWith, Cond.instanceMethod yX1_waysWith, Cond.selects RX1 yX1_waysWith yX1_waysWith, Cond.code yX1_waysWith cX1_waysWith 4 (some .int), Cond.fieldLink RX1 23 "GiftLotsModel" "gives" "[I", Cond.methodLink RX1 69 yX1_all, Cond.instanceMethod yX1_all, Cond.selects RX1 yX1_all yX1_all, Cond.code yX1_all cX1_all 1 (some .int), Cond.methodLink RX1 72 yX1_start, Cond.instanceMethod yX1_start, Cond.selects RX1 yX1_start yX1_start, Cond.code yX1_start cX1_start 4 none, Cond.fieldLink RX1 46 "GiftLotsModel" "who" "I", Cond.fieldLink RX1 49 "GiftLotsModel" "anyRounds" "Z"]
def wsX1_both_r2 : List Cond := [Cond.methodLink RX1 76 yX1_next, Cond.instanceMethod yX1_next, Cond.selects RX1 yX1_next yX1_next, Cond.code yX1_next cX1_next 6 (some .boolean), Cond.fieldLink RX1 16 "GiftLotsModel" "may" "[I", Cond.methodLink RX1 57 yX1_after, Cond.instanceMethod yX1_after, Cond.selects RX1 yX1_after yX1_after, Cond.code yX1_after cX1_after 4 (some .int), Cond.methodLink RX1 61 yX1_gotten, Cond.instanceMethod yX1_gotten, Cond.selects RX1 yX1_gotten yX1_gotten, Cond.code yX1_gotten cX1_gotten 3 (some .int), Cond.methodLink RX1 65 yX1_areLong, Cond.instanceMethod yX1_areLong, Cond.selects RX1 yX1_areLong yX1_areLong, Cond.code yX1_areLong cX1_areLong 3 (some .boolean), Cond.fieldLink RX1 13 "GiftLotsModel" "least" "I", Cond.methodLink RX1 53 yX1_roundOf, Cond.instanceMethod yX1_roundOf, Cond.selects RX1 yX1_roundOf yX1_roundOf, Cond.code yX1_roundOf cX1_roundOf 4 (some .int)]
def wsX1_both : List Cond := .code yX1_both cX1_both 3 (some .int) :: ((wsX1_both_r1 ++ wsX1_both_r2) ++ wsX10)
def wsX1_bits : List Cond := .code yX1_bits cX1_bits 3 (some .int) :: ([])
def wsX1_rooks : List Cond := .code yX1_rooks cX1_rooks 7 (some .int) :: ([.fieldLink RX1 26 "GiftLotsModel" "put" "[I", .fieldLink RX1 7 "GiftLotsModel" "ones" "I", .fieldLink RX1 16 "GiftLotsModel" "may" "[I", .methodLink RX1 35 yX1_in, .static yX1_in, .initialized RX1, .code yX1_in cX1_in 3 (some .boolean), .methodLink RX1 69 yX1_all, .instanceMethod yX1_all, .selects RX1 yX1_all yX1_all, .code yX1_all cX1_all 1 (some .int), .methodLink RX1 88 yX1_bits, .static yX1_bits, .code yX1_bits cX1_bits 3 (some .int)] ++ wsX10)
def wsX1_heap : List Cond := .code yX1_heap cX1_heap 6 (some .int) :: ([.fieldLink RX1 7 "GiftLotsModel" "ones" "I", .fieldLink RX1 16 "GiftLotsModel" "may" "[I", .methodLink RX1 69 yX1_all, .instanceMethod yX1_all, .selects RX1 yX1_all yX1_all, .initialized RX1, .code yX1_all cX1_all 1 (some .int), .methodLink RX1 88 yX1_bits, .static yX1_bits, .code yX1_bits cX1_bits 3 (some .int)] ++ wsX10)
def wsX1_lay : List Cond := .code yX1_lay cX1_lay 4 (some .int) :: ([.fieldLink RX1 7 "GiftLotsModel" "ones" "I", .fieldLink RX1 20 "GiftLotsModel" "hand" "[I", .methodLink RX1 39 yX1_isOne, .instanceMethod yX1_isOne, .selects RX1 yX1_isOne yX1_isOne, .initialized RX1, .code yX1_isOne cX1_isOne 2 (some .boolean), .methodLink RX1 35 yX1_in, .static yX1_in, .code yX1_in cX1_in 3 (some .boolean)] ++ wsX10)
def wsX1_laid : List Cond := .code yX1_laid cX1_laid 2 (some .int) :: ([.fieldLink RX1 20 "GiftLotsModel" "hand" "[I", .methodLink RX1 39 yX1_isOne, .instanceMethod yX1_isOne, .selects RX1 yX1_isOne yX1_isOne, .initialized RX1, .code yX1_isOne cX1_isOne 2 (some .boolean), .fieldLink RX1 7 "GiftLotsModel" "ones" "I", .methodLink RX1 35 yX1_in, .static yX1_in, .code yX1_in cX1_in 3 (some .boolean)] ++ wsX10)
def wsX1_draw_r1 : List Cond := [Cond.fieldLink RX1 7 "GiftLotsModel" "ones" "I", Cond.fieldLink RX1 20 "GiftLotsModel" "hand" "[I", Cond.fieldLink RX1 23 "GiftLotsModel" "gives" "[I", Cond.methodLink RX1 79 yX1_goTo, Cond.instanceMethod yX1_goTo, Cond.selects RX1 yX1_goTo yX1_goTo, Cond.initialized RX1, Cond.code yX1_goTo cX1_goTo 3 (some .boolean), Cond.methodLink RX1 69 yX1_all, Cond.instanceMethod yX1_all, Cond.selects RX1 yX1_all yX1_all, Cond.code yX1_all cX1_all 1 (some .int), Cond.methodLink RX1 72 yX1_start, Cond.instanceMethod yX1_start, Cond.selects RX1 yX1_start yX1_start, Cond.code yX1_start cX1_start 4 none, Cond.fieldLink RX1 46 "GiftLotsModel" "who" "I", Cond.fieldLink RX1 49 "GiftLotsModel" "anyRounds" "Z", Cond.methodLink RX1 76 yX1_next, Cond.instanceMethod yX1_next, Cond.selects RX1 yX1_next yX1_next, Cond.code yX1_next cX1_next 6 (some .boolean), Cond.fieldLink RX1 16 "GiftLotsModel" "may" "[I", Cond.methodLink RX1 57 yX1_after]
def wsX1_draw_r2 : List Cond := [Cond.instanceMethod yX1_after, Cond.selects RX1 yX1_after yX1_after, Cond.code yX1_after cX1_after 4 (some .int), Cond.methodLink RX1 35 yX1_in, Cond.static yX1_in, Cond.code yX1_in cX1_in 3 (some .boolean), Cond.methodLink RX1 61 yX1_gotten, Cond.instanceMethod yX1_gotten, Cond.selects RX1 yX1_gotten yX1_gotten, Cond.code yX1_gotten cX1_gotten 3 (some .int), Cond.methodLink RX1 65 yX1_areLong, Cond.instanceMethod yX1_areLong, Cond.selects RX1 yX1_areLong yX1_areLong, Cond.code yX1_areLong cX1_areLong 3 (some .boolean), Cond.fieldLink RX1 13 "GiftLotsModel" "least" "I", Cond.methodLink RX1 53 yX1_roundOf, Cond.instanceMethod yX1_roundOf, Cond.selects RX1 yX1_roundOf yX1_roundOf, Cond.code yX1_roundOf cX1_roundOf 4 (some .int)]
def wsX1_draw : List Cond := .code yX1_draw cX1_draw 3 (some .int) :: ((wsX1_draw_r1 ++ wsX1_draw_r2) ++ wsX10)
def wsX1_handMany : List Cond := .code yX1_handMany cX1_handMany 3 (some .int) :: ([.fieldLink RX1 7 "GiftLotsModel" "ones" "I", .fieldLink RX1 20 "GiftLotsModel" "hand" "[I"] ++ wsX10)
def wsX1_agrees : List Cond := .code yX1_agrees cX1_agrees 4 (some .boolean) :: ([.fieldLink RX1 23 "GiftLotsModel" "gives" "[I", .fieldLink RX1 20 "GiftLotsModel" "hand" "[I"] ++ wsX10)
def wsX1_rank_r1 : List Cond := [Cond.fieldLink RX1 7 "GiftLotsModel" "ones" "I", Cond.methodLink RX1 91 yX1_handMany, Cond.instanceMethod yX1_handMany, Cond.selects RX1 yX1_handMany yX1_handMany, Cond.initialized RX1, Cond.code yX1_handMany cX1_handMany 3 (some .int), Cond.fieldLink RX1 20 "GiftLotsModel" "hand" "[I", Cond.methodLink RX1 69 yX1_all, Cond.instanceMethod yX1_all, Cond.selects RX1 yX1_all yX1_all, Cond.code yX1_all cX1_all 1 (some .int), Cond.methodLink RX1 72 yX1_start, Cond.instanceMethod yX1_start, Cond.selects RX1 yX1_start yX1_start, Cond.code yX1_start cX1_start 4 none, Cond.fieldLink RX1 46 "GiftLotsModel" "who" "I", Cond.fieldLink RX1 49 "GiftLotsModel" "anyRounds" "Z", Cond.fieldLink RX1 23 "GiftLotsModel" "gives" "[I", Cond.methodLink RX1 76 yX1_next, Cond.instanceMethod yX1_next, Cond.selects RX1 yX1_next yX1_next, Cond.code yX1_next cX1_next 6 (some .boolean), Cond.fieldLink RX1 16 "GiftLotsModel" "may" "[I", Cond.methodLink RX1 57 yX1_after]
def wsX1_rank_r2 : List Cond := [Cond.instanceMethod yX1_after, Cond.selects RX1 yX1_after yX1_after, Cond.code yX1_after cX1_after 4 (some .int), Cond.methodLink RX1 35 yX1_in, Cond.static yX1_in, Cond.code yX1_in cX1_in 3 (some .boolean), Cond.methodLink RX1 61 yX1_gotten, Cond.instanceMethod yX1_gotten, Cond.selects RX1 yX1_gotten yX1_gotten, Cond.code yX1_gotten cX1_gotten 3 (some .int), Cond.methodLink RX1 65 yX1_areLong, Cond.instanceMethod yX1_areLong, Cond.selects RX1 yX1_areLong yX1_areLong, Cond.code yX1_areLong cX1_areLong 3 (some .boolean), Cond.fieldLink RX1 13 "GiftLotsModel" "least" "I", Cond.methodLink RX1 53 yX1_roundOf, Cond.instanceMethod yX1_roundOf, Cond.selects RX1 yX1_roundOf yX1_roundOf, Cond.code yX1_roundOf cX1_roundOf 4 (some .int), Cond.methodLink RX1 94 yX1_agrees, Cond.instanceMethod yX1_agrees, Cond.selects RX1 yX1_agrees yX1_agrees, Cond.code yX1_agrees cX1_agrees 4 (some .boolean)]
def wsX1_rank : List Cond := .code yX1_rank cX1_rank 2 (some .int) :: ((wsX1_rank_r1 ++ wsX1_rank_r2) ++ wsX10)
def wsX1_share_r1 : List Cond := [Cond.fieldLink RX1 20 "GiftLotsModel" "hand" "[I", Cond.fieldLink RX1 23 "GiftLotsModel" "gives" "[I", Cond.methodLink RX1 39 yX1_isOne, Cond.instanceMethod yX1_isOne, Cond.selects RX1 yX1_isOne yX1_isOne, Cond.initialized RX1, Cond.code yX1_isOne cX1_isOne 2 (some .boolean), Cond.fieldLink RX1 7 "GiftLotsModel" "ones" "I", Cond.methodLink RX1 35 yX1_in, Cond.static yX1_in, Cond.code yX1_in cX1_in 3 (some .boolean), Cond.methodLink RX1 69 yX1_all, Cond.instanceMethod yX1_all, Cond.selects RX1 yX1_all yX1_all, Cond.code yX1_all cX1_all 1 (some .int), Cond.methodLink RX1 72 yX1_start, Cond.instanceMethod yX1_start, Cond.selects RX1 yX1_start yX1_start, Cond.code yX1_start cX1_start 4 none, Cond.fieldLink RX1 46 "GiftLotsModel" "who" "I", Cond.fieldLink RX1 49 "GiftLotsModel" "anyRounds" "Z", Cond.methodLink RX1 76 yX1_next, Cond.instanceMethod yX1_next, Cond.selects RX1 yX1_next yX1_next]
def wsX1_share_r2 : List Cond := [Cond.code yX1_next cX1_next 6 (some .boolean), Cond.fieldLink RX1 16 "GiftLotsModel" "may" "[I", Cond.methodLink RX1 57 yX1_after, Cond.instanceMethod yX1_after, Cond.selects RX1 yX1_after yX1_after, Cond.code yX1_after cX1_after 4 (some .int), Cond.methodLink RX1 61 yX1_gotten, Cond.instanceMethod yX1_gotten, Cond.selects RX1 yX1_gotten yX1_gotten, Cond.code yX1_gotten cX1_gotten 3 (some .int), Cond.methodLink RX1 65 yX1_areLong, Cond.instanceMethod yX1_areLong, Cond.selects RX1 yX1_areLong yX1_areLong, Cond.code yX1_areLong cX1_areLong 3 (some .boolean), Cond.fieldLink RX1 13 "GiftLotsModel" "least" "I", Cond.methodLink RX1 53 yX1_roundOf, Cond.instanceMethod yX1_roundOf, Cond.selects RX1 yX1_roundOf yX1_roundOf, Cond.code yX1_roundOf cX1_roundOf 4 (some .int), Cond.methodLink RX1 94 yX1_agrees, Cond.instanceMethod yX1_agrees, Cond.selects RX1 yX1_agrees yX1_agrees, Cond.code yX1_agrees cX1_agrees 4 (some .boolean)]
def wsX1_share : List Cond := .code yX1_share cX1_share 4 (some .int) :: ((wsX1_share_r1 ++ wsX1_share_r2) ++ wsX10)
def wsX1_knows_r1 : List Cond := [Cond.fieldLink RX1 20 "GiftLotsModel" "hand" "[I", Cond.methodLink RX1 39 yX1_isOne, Cond.instanceMethod yX1_isOne, Cond.selects RX1 yX1_isOne yX1_isOne, Cond.initialized RX1, Cond.code yX1_isOne cX1_isOne 2 (some .boolean), Cond.fieldLink RX1 7 "GiftLotsModel" "ones" "I", Cond.methodLink RX1 35 yX1_in, Cond.static yX1_in, Cond.code yX1_in cX1_in 3 (some .boolean), Cond.methodLink RX1 85 yX1_waysWith, Cond.instanceMethod yX1_waysWith, Cond.selects RX1 yX1_waysWith yX1_waysWith, Cond.code yX1_waysWith cX1_waysWith 4 (some .int), Cond.fieldLink RX1 23 "GiftLotsModel" "gives" "[I", Cond.methodLink RX1 69 yX1_all, Cond.instanceMethod yX1_all, Cond.selects RX1 yX1_all yX1_all, Cond.code yX1_all cX1_all 1 (some .int), Cond.methodLink RX1 72 yX1_start, Cond.instanceMethod yX1_start, Cond.selects RX1 yX1_start yX1_start, Cond.code yX1_start cX1_start 4 none, Cond.fieldLink RX1 46 "GiftLotsModel" "who" "I"]
def wsX1_knows_r2 : List Cond := [Cond.fieldLink RX1 49 "GiftLotsModel" "anyRounds" "Z", Cond.methodLink RX1 76 yX1_next, Cond.instanceMethod yX1_next, Cond.selects RX1 yX1_next yX1_next, Cond.code yX1_next cX1_next 6 (some .boolean), Cond.fieldLink RX1 16 "GiftLotsModel" "may" "[I", Cond.methodLink RX1 57 yX1_after, Cond.instanceMethod yX1_after, Cond.selects RX1 yX1_after yX1_after, Cond.code yX1_after cX1_after 4 (some .int), Cond.methodLink RX1 61 yX1_gotten, Cond.instanceMethod yX1_gotten, Cond.selects RX1 yX1_gotten yX1_gotten, Cond.code yX1_gotten cX1_gotten 3 (some .int), Cond.methodLink RX1 65 yX1_areLong, Cond.instanceMethod yX1_areLong, Cond.selects RX1 yX1_areLong yX1_areLong, Cond.code yX1_areLong cX1_areLong 3 (some .boolean), Cond.fieldLink RX1 13 "GiftLotsModel" "least" "I", Cond.methodLink RX1 53 yX1_roundOf, Cond.instanceMethod yX1_roundOf, Cond.selects RX1 yX1_roundOf yX1_roundOf, Cond.code yX1_roundOf cX1_roundOf 4 (some .int)]
def wsX1_knows : List Cond := .code yX1_knows cX1_knows 2 (some .int) :: ((wsX1_knows_r1 ++ wsX1_knows_r2) ++ wsX10)
def wsX1_sure_r1 : List Cond := [Cond.fieldLink RX1 20 "GiftLotsModel" "hand" "[I", Cond.fieldLink RX1 23 "GiftLotsModel" "gives" "[I", Cond.methodLink RX1 39 yX1_isOne, Cond.instanceMethod yX1_isOne, Cond.selects RX1 yX1_isOne yX1_isOne, Cond.initialized RX1, Cond.code yX1_isOne cX1_isOne 2 (some .boolean), Cond.fieldLink RX1 7 "GiftLotsModel" "ones" "I", Cond.methodLink RX1 35 yX1_in, Cond.static yX1_in, Cond.code yX1_in cX1_in 3 (some .boolean), Cond.methodLink RX1 69 yX1_all, Cond.instanceMethod yX1_all, Cond.selects RX1 yX1_all yX1_all, Cond.code yX1_all cX1_all 1 (some .int), Cond.methodLink RX1 72 yX1_start, Cond.instanceMethod yX1_start, Cond.selects RX1 yX1_start yX1_start, Cond.code yX1_start cX1_start 4 none, Cond.fieldLink RX1 46 "GiftLotsModel" "who" "I", Cond.fieldLink RX1 49 "GiftLotsModel" "anyRounds" "Z", Cond.methodLink RX1 76 yX1_next, Cond.instanceMethod yX1_next, Cond.selects RX1 yX1_next yX1_next]
def wsX1_sure_r2 : List Cond := [Cond.code yX1_next cX1_next 6 (some .boolean), Cond.fieldLink RX1 16 "GiftLotsModel" "may" "[I", Cond.methodLink RX1 57 yX1_after, Cond.instanceMethod yX1_after, Cond.selects RX1 yX1_after yX1_after, Cond.code yX1_after cX1_after 4 (some .int), Cond.methodLink RX1 61 yX1_gotten, Cond.instanceMethod yX1_gotten, Cond.selects RX1 yX1_gotten yX1_gotten, Cond.code yX1_gotten cX1_gotten 3 (some .int), Cond.methodLink RX1 65 yX1_areLong, Cond.instanceMethod yX1_areLong, Cond.selects RX1 yX1_areLong yX1_areLong, Cond.code yX1_areLong cX1_areLong 3 (some .boolean), Cond.fieldLink RX1 13 "GiftLotsModel" "least" "I", Cond.methodLink RX1 53 yX1_roundOf, Cond.instanceMethod yX1_roundOf, Cond.selects RX1 yX1_roundOf yX1_roundOf, Cond.code yX1_roundOf cX1_roundOf 4 (some .int)]
def wsX1_sure : List Cond := .code yX1_sure cX1_sure 5 (some .int) :: ((wsX1_sure_r1 ++ wsX1_sure_r2) ++ wsX10)
def wsX1_mendAll_r1 : List Cond := [Cond.fieldLink RX1 100 "GiftLotsModel" "fewest" "I", Cond.fieldLink RX1 103 "GiftLotsModel" "many" "I", Cond.fieldLink RX1 7 "GiftLotsModel" "ones" "I", Cond.fieldLink RX1 23 "GiftLotsModel" "gives" "[I", Cond.fieldLink RX1 20 "GiftLotsModel" "hand" "[I", Cond.fieldLink RX1 29 "GiftLotsModel" "first" "[I", Cond.methodLink RX1 39 yX1_isOne, Cond.instanceMethod yX1_isOne, Cond.selects RX1 yX1_isOne yX1_isOne, Cond.initialized RX1, Cond.code yX1_isOne cX1_isOne 2 (some .boolean), Cond.methodLink RX1 35 yX1_in, Cond.static yX1_in, Cond.code yX1_in cX1_in 3 (some .boolean), Cond.methodLink RX1 97 yX1_rank, Cond.instanceMethod yX1_rank, Cond.selects RX1 yX1_rank yX1_rank, Cond.code yX1_rank cX1_rank 2 (some .int), Cond.methodLink RX1 91 yX1_handMany, Cond.instanceMethod yX1_handMany, Cond.selects RX1 yX1_handMany yX1_handMany, Cond.code yX1_handMany cX1_handMany 3 (some .int), Cond.methodLink RX1 69 yX1_all, Cond.instanceMethod yX1_all]
def wsX1_mendAll_r2 : List Cond := [Cond.selects RX1 yX1_all yX1_all, Cond.code yX1_all cX1_all 1 (some .int), Cond.methodLink RX1 72 yX1_start, Cond.instanceMethod yX1_start, Cond.selects RX1 yX1_start yX1_start, Cond.code yX1_start cX1_start 4 none, Cond.fieldLink RX1 46 "GiftLotsModel" "who" "I", Cond.fieldLink RX1 49 "GiftLotsModel" "anyRounds" "Z", Cond.methodLink RX1 76 yX1_next, Cond.instanceMethod yX1_next, Cond.selects RX1 yX1_next yX1_next, Cond.code yX1_next cX1_next 6 (some .boolean), Cond.fieldLink RX1 16 "GiftLotsModel" "may" "[I", Cond.methodLink RX1 57 yX1_after, Cond.instanceMethod yX1_after, Cond.selects RX1 yX1_after yX1_after, Cond.code yX1_after cX1_after 4 (some .int), Cond.methodLink RX1 61 yX1_gotten, Cond.instanceMethod yX1_gotten, Cond.selects RX1 yX1_gotten yX1_gotten, Cond.code yX1_gotten cX1_gotten 3 (some .int), Cond.methodLink RX1 65 yX1_areLong, Cond.instanceMethod yX1_areLong, Cond.selects RX1 yX1_areLong yX1_areLong]
def wsX1_mendAll_r3 : List Cond := [Cond.code yX1_areLong cX1_areLong 3 (some .boolean), Cond.fieldLink RX1 13 "GiftLotsModel" "least" "I", Cond.methodLink RX1 53 yX1_roundOf, Cond.instanceMethod yX1_roundOf, Cond.selects RX1 yX1_roundOf yX1_roundOf, Cond.code yX1_roundOf cX1_roundOf 4 (some .int), Cond.methodLink RX1 94 yX1_agrees, Cond.instanceMethod yX1_agrees, Cond.selects RX1 yX1_agrees yX1_agrees, Cond.code yX1_agrees cX1_agrees 4 (some .boolean)]
def wsX1_mendAll : List Cond := .code yX1_mendAll cX1_mendAll 5 (some .int) :: ((wsX1_mendAll_r1 ++ (wsX1_mendAll_r2 ++ wsX1_mendAll_r3)) ++ wsX10)
def wsX1_changes_r1 : List Cond := [Cond.fieldLink RX1 100 "GiftLotsModel" "fewest" "I", Cond.methodLink RX1 106 yX1_mendAll, Cond.instanceMethod yX1_mendAll, Cond.selects RX1 yX1_mendAll yX1_mendAll, Cond.initialized RX1, Cond.code yX1_mendAll cX1_mendAll 5 (some .int), Cond.fieldLink RX1 103 "GiftLotsModel" "many" "I", Cond.fieldLink RX1 7 "GiftLotsModel" "ones" "I", Cond.fieldLink RX1 23 "GiftLotsModel" "gives" "[I", Cond.fieldLink RX1 20 "GiftLotsModel" "hand" "[I", Cond.fieldLink RX1 29 "GiftLotsModel" "first" "[I", Cond.methodLink RX1 39 yX1_isOne, Cond.instanceMethod yX1_isOne, Cond.selects RX1 yX1_isOne yX1_isOne, Cond.code yX1_isOne cX1_isOne 2 (some .boolean), Cond.methodLink RX1 35 yX1_in, Cond.static yX1_in, Cond.code yX1_in cX1_in 3 (some .boolean), Cond.methodLink RX1 97 yX1_rank, Cond.instanceMethod yX1_rank, Cond.selects RX1 yX1_rank yX1_rank, Cond.code yX1_rank cX1_rank 2 (some .int), Cond.methodLink RX1 91 yX1_handMany, Cond.instanceMethod yX1_handMany]
def wsX1_changes_r2 : List Cond := [Cond.selects RX1 yX1_handMany yX1_handMany, Cond.code yX1_handMany cX1_handMany 3 (some .int), Cond.methodLink RX1 69 yX1_all, Cond.instanceMethod yX1_all, Cond.selects RX1 yX1_all yX1_all, Cond.code yX1_all cX1_all 1 (some .int), Cond.methodLink RX1 72 yX1_start, Cond.instanceMethod yX1_start, Cond.selects RX1 yX1_start yX1_start, Cond.code yX1_start cX1_start 4 none, Cond.fieldLink RX1 46 "GiftLotsModel" "who" "I", Cond.fieldLink RX1 49 "GiftLotsModel" "anyRounds" "Z", Cond.methodLink RX1 76 yX1_next, Cond.instanceMethod yX1_next, Cond.selects RX1 yX1_next yX1_next, Cond.code yX1_next cX1_next 6 (some .boolean), Cond.fieldLink RX1 16 "GiftLotsModel" "may" "[I", Cond.methodLink RX1 57 yX1_after, Cond.instanceMethod yX1_after, Cond.selects RX1 yX1_after yX1_after, Cond.code yX1_after cX1_after 4 (some .int), Cond.methodLink RX1 61 yX1_gotten, Cond.instanceMethod yX1_gotten, Cond.selects RX1 yX1_gotten yX1_gotten]
def wsX1_changes_r3 : List Cond := [Cond.code yX1_gotten cX1_gotten 3 (some .int), Cond.methodLink RX1 65 yX1_areLong, Cond.instanceMethod yX1_areLong, Cond.selects RX1 yX1_areLong yX1_areLong, Cond.code yX1_areLong cX1_areLong 3 (some .boolean), Cond.fieldLink RX1 13 "GiftLotsModel" "least" "I", Cond.methodLink RX1 53 yX1_roundOf, Cond.instanceMethod yX1_roundOf, Cond.selects RX1 yX1_roundOf yX1_roundOf, Cond.code yX1_roundOf cX1_roundOf 4 (some .int), Cond.methodLink RX1 94 yX1_agrees, Cond.instanceMethod yX1_agrees, Cond.selects RX1 yX1_agrees yX1_agrees, Cond.code yX1_agrees cX1_agrees 4 (some .boolean)]
def wsX1_changes : List Cond := .code yX1_changes cX1_changes 3 (some .int) :: ((wsX1_changes_r1 ++ (wsX1_changes_r2 ++ wsX1_changes_r3)) ++ wsX10)
def wsX1_mends_r1 : List Cond := [Cond.fieldLink RX1 103 "GiftLotsModel" "many" "I", Cond.methodLink RX1 106 yX1_mendAll, Cond.instanceMethod yX1_mendAll, Cond.selects RX1 yX1_mendAll yX1_mendAll, Cond.initialized RX1, Cond.code yX1_mendAll cX1_mendAll 5 (some .int), Cond.fieldLink RX1 100 "GiftLotsModel" "fewest" "I", Cond.fieldLink RX1 7 "GiftLotsModel" "ones" "I", Cond.fieldLink RX1 23 "GiftLotsModel" "gives" "[I", Cond.fieldLink RX1 20 "GiftLotsModel" "hand" "[I", Cond.fieldLink RX1 29 "GiftLotsModel" "first" "[I", Cond.methodLink RX1 39 yX1_isOne, Cond.instanceMethod yX1_isOne, Cond.selects RX1 yX1_isOne yX1_isOne, Cond.code yX1_isOne cX1_isOne 2 (some .boolean), Cond.methodLink RX1 35 yX1_in, Cond.static yX1_in, Cond.code yX1_in cX1_in 3 (some .boolean), Cond.methodLink RX1 97 yX1_rank, Cond.instanceMethod yX1_rank, Cond.selects RX1 yX1_rank yX1_rank, Cond.code yX1_rank cX1_rank 2 (some .int), Cond.methodLink RX1 91 yX1_handMany, Cond.instanceMethod yX1_handMany]
def wsX1_mends_r2 : List Cond := [Cond.selects RX1 yX1_handMany yX1_handMany, Cond.code yX1_handMany cX1_handMany 3 (some .int), Cond.methodLink RX1 69 yX1_all, Cond.instanceMethod yX1_all, Cond.selects RX1 yX1_all yX1_all, Cond.code yX1_all cX1_all 1 (some .int), Cond.methodLink RX1 72 yX1_start, Cond.instanceMethod yX1_start, Cond.selects RX1 yX1_start yX1_start, Cond.code yX1_start cX1_start 4 none, Cond.fieldLink RX1 46 "GiftLotsModel" "who" "I", Cond.fieldLink RX1 49 "GiftLotsModel" "anyRounds" "Z", Cond.methodLink RX1 76 yX1_next, Cond.instanceMethod yX1_next, Cond.selects RX1 yX1_next yX1_next, Cond.code yX1_next cX1_next 6 (some .boolean), Cond.fieldLink RX1 16 "GiftLotsModel" "may" "[I", Cond.methodLink RX1 57 yX1_after, Cond.instanceMethod yX1_after, Cond.selects RX1 yX1_after yX1_after, Cond.code yX1_after cX1_after 4 (some .int), Cond.methodLink RX1 61 yX1_gotten, Cond.instanceMethod yX1_gotten, Cond.selects RX1 yX1_gotten yX1_gotten]
def wsX1_mends_r3 : List Cond := [Cond.code yX1_gotten cX1_gotten 3 (some .int), Cond.methodLink RX1 65 yX1_areLong, Cond.instanceMethod yX1_areLong, Cond.selects RX1 yX1_areLong yX1_areLong, Cond.code yX1_areLong cX1_areLong 3 (some .boolean), Cond.fieldLink RX1 13 "GiftLotsModel" "least" "I", Cond.methodLink RX1 53 yX1_roundOf, Cond.instanceMethod yX1_roundOf, Cond.selects RX1 yX1_roundOf yX1_roundOf, Cond.code yX1_roundOf cX1_roundOf 4 (some .int), Cond.methodLink RX1 94 yX1_agrees, Cond.instanceMethod yX1_agrees, Cond.selects RX1 yX1_agrees yX1_agrees, Cond.code yX1_agrees cX1_agrees 4 (some .boolean)]
def wsX1_mends : List Cond := .code yX1_mends cX1_mends 3 (some .int) :: ((wsX1_mends_r1 ++ (wsX1_mends_r2 ++ wsX1_mends_r3)) ++ wsX10)
def wsX1_mend_r1 : List Cond := [Cond.fieldLink RX1 100 "GiftLotsModel" "fewest" "I", Cond.fieldLink RX1 29 "GiftLotsModel" "first" "[I", Cond.methodLink RX1 39 yX1_isOne, Cond.instanceMethod yX1_isOne, Cond.selects RX1 yX1_isOne yX1_isOne, Cond.initialized RX1, Cond.code yX1_isOne cX1_isOne 2 (some .boolean), Cond.fieldLink RX1 7 "GiftLotsModel" "ones" "I", Cond.methodLink RX1 35 yX1_in, Cond.static yX1_in, Cond.code yX1_in cX1_in 3 (some .boolean), Cond.methodLink RX1 106 yX1_mendAll, Cond.instanceMethod yX1_mendAll, Cond.selects RX1 yX1_mendAll yX1_mendAll, Cond.code yX1_mendAll cX1_mendAll 5 (some .int), Cond.fieldLink RX1 103 "GiftLotsModel" "many" "I", Cond.fieldLink RX1 23 "GiftLotsModel" "gives" "[I", Cond.fieldLink RX1 20 "GiftLotsModel" "hand" "[I", Cond.methodLink RX1 97 yX1_rank, Cond.instanceMethod yX1_rank, Cond.selects RX1 yX1_rank yX1_rank, Cond.code yX1_rank cX1_rank 2 (some .int), Cond.methodLink RX1 91 yX1_handMany, Cond.instanceMethod yX1_handMany]
def wsX1_mend_r2 : List Cond := [Cond.selects RX1 yX1_handMany yX1_handMany, Cond.code yX1_handMany cX1_handMany 3 (some .int), Cond.methodLink RX1 69 yX1_all, Cond.instanceMethod yX1_all, Cond.selects RX1 yX1_all yX1_all, Cond.code yX1_all cX1_all 1 (some .int), Cond.methodLink RX1 72 yX1_start, Cond.instanceMethod yX1_start, Cond.selects RX1 yX1_start yX1_start, Cond.code yX1_start cX1_start 4 none, Cond.fieldLink RX1 46 "GiftLotsModel" "who" "I", Cond.fieldLink RX1 49 "GiftLotsModel" "anyRounds" "Z", Cond.methodLink RX1 76 yX1_next, Cond.instanceMethod yX1_next, Cond.selects RX1 yX1_next yX1_next, Cond.code yX1_next cX1_next 6 (some .boolean), Cond.fieldLink RX1 16 "GiftLotsModel" "may" "[I", Cond.methodLink RX1 57 yX1_after, Cond.instanceMethod yX1_after, Cond.selects RX1 yX1_after yX1_after, Cond.code yX1_after cX1_after 4 (some .int), Cond.methodLink RX1 61 yX1_gotten, Cond.instanceMethod yX1_gotten, Cond.selects RX1 yX1_gotten yX1_gotten]
def wsX1_mend_r3 : List Cond := [Cond.code yX1_gotten cX1_gotten 3 (some .int), Cond.methodLink RX1 65 yX1_areLong, Cond.instanceMethod yX1_areLong, Cond.selects RX1 yX1_areLong yX1_areLong, Cond.code yX1_areLong cX1_areLong 3 (some .boolean), Cond.fieldLink RX1 13 "GiftLotsModel" "least" "I", Cond.methodLink RX1 53 yX1_roundOf, Cond.instanceMethod yX1_roundOf, Cond.selects RX1 yX1_roundOf yX1_roundOf, Cond.code yX1_roundOf cX1_roundOf 4 (some .int), Cond.methodLink RX1 94 yX1_agrees, Cond.instanceMethod yX1_agrees, Cond.selects RX1 yX1_agrees yX1_agrees, Cond.code yX1_agrees cX1_agrees 4 (some .boolean)]
def wsX1_mend : List Cond := .code yX1_mend cX1_mend 4 (some .int) :: ((wsX1_mend_r1 ++ (wsX1_mend_r2 ++ wsX1_mend_r3)) ++ wsX10)
def wsX1_told : List Cond := .code yX1_told cX1_told 4 (some .int) :: ([.fieldLink RX1 7 "GiftLotsModel" "ones" "I", .fieldLink RX1 13 "GiftLotsModel" "least" "I", .fieldLink RX1 16 "GiftLotsModel" "may" "[I", .methodLink RX1 88 yX1_bits, .static yX1_bits, .initialized RX1, .code yX1_bits cX1_bits 3 (some .int), .methodLink RX1 91 yX1_handMany, .instanceMethod yX1_handMany, .selects RX1 yX1_handMany yX1_handMany, .code yX1_handMany cX1_handMany 3 (some .int), .fieldLink RX1 20 "GiftLotsModel" "hand" "[I"] ++ wsX10)
theorem inJ6 : ∀ w ∈ wsJ60, w ∈ lw_tbl := by decide +kernel
theorem inJ10 : ∀ w ∈ wsJ100, w ∈ lw_tbl := by decide +kernel
theorem inJ7 : ∀ w ∈ wsJ70, w ∈ lw_tbl := by decide +kernel
theorem dJ6_bitCount_0f7a4_0 : decode cJ6_bitCount_0f7a4 0 = .ok (.iload_n 0, 1) := by decide +kernel
theorem dJ6_bitCount_0f7a4_1 : decode cJ6_bitCount_0f7a4 1 = .ok (.iload_n 0, 1) := by decide +kernel
theorem dJ6_bitCount_0f7a4_2 : decode cJ6_bitCount_0f7a4 2 = .ok (.iconst 1, 1) := by decide +kernel
theorem dJ6_bitCount_0f7a4_3 : decode cJ6_bitCount_0f7a4 3 = .ok (.iushr, 1) := by decide +kernel
theorem dJ6_bitCount_0f7a4_4 : decode cJ6_bitCount_0f7a4 4 = .ok (.ldc_w 265, 3) := by decide +kernel
theorem dJ6_bitCount_0f7a4_7 : decode cJ6_bitCount_0f7a4 7 = .ok (.iand, 1) := by decide +kernel
theorem dJ6_bitCount_0f7a4_8 : decode cJ6_bitCount_0f7a4 8 = .ok (.isub, 1) := by decide +kernel
theorem dJ6_bitCount_0f7a4_9 : decode cJ6_bitCount_0f7a4 9 = .ok (.istore_n 0, 1) := by decide +kernel
theorem dJ6_bitCount_0f7a4_10 : decode cJ6_bitCount_0f7a4 10 = .ok (.iload_n 0, 1) := by decide +kernel
theorem dJ6_bitCount_0f7a4_11 : decode cJ6_bitCount_0f7a4 11 = .ok (.ldc_w 266, 3) := by decide +kernel
theorem dJ6_bitCount_0f7a4_14 : decode cJ6_bitCount_0f7a4 14 = .ok (.iand, 1) := by decide +kernel
theorem dJ6_bitCount_0f7a4_15 : decode cJ6_bitCount_0f7a4 15 = .ok (.iload_n 0, 1) := by decide +kernel
theorem dJ6_bitCount_0f7a4_16 : decode cJ6_bitCount_0f7a4 16 = .ok (.iconst 2, 1) := by decide +kernel
theorem dJ6_bitCount_0f7a4_17 : decode cJ6_bitCount_0f7a4 17 = .ok (.iushr, 1) := by decide +kernel
theorem dJ6_bitCount_0f7a4_18 : decode cJ6_bitCount_0f7a4 18 = .ok (.ldc_w 266, 3) := by decide +kernel
theorem dJ6_bitCount_0f7a4_21 : decode cJ6_bitCount_0f7a4 21 = .ok (.iand, 1) := by decide +kernel
theorem dJ6_bitCount_0f7a4_22 : decode cJ6_bitCount_0f7a4 22 = .ok (.iadd, 1) := by decide +kernel
theorem dJ6_bitCount_0f7a4_23 : decode cJ6_bitCount_0f7a4 23 = .ok (.istore_n 0, 1) := by decide +kernel
theorem dJ6_bitCount_0f7a4_24 : decode cJ6_bitCount_0f7a4 24 = .ok (.iload_n 0, 1) := by decide +kernel
theorem dJ6_bitCount_0f7a4_25 : decode cJ6_bitCount_0f7a4 25 = .ok (.iload_n 0, 1) := by decide +kernel
theorem dJ6_bitCount_0f7a4_26 : decode cJ6_bitCount_0f7a4 26 = .ok (.iconst 4, 1) := by decide +kernel
theorem dJ6_bitCount_0f7a4_27 : decode cJ6_bitCount_0f7a4 27 = .ok (.iushr, 1) := by decide +kernel
theorem dJ6_bitCount_0f7a4_28 : decode cJ6_bitCount_0f7a4 28 = .ok (.iadd, 1) := by decide +kernel
theorem dJ6_bitCount_0f7a4_29 : decode cJ6_bitCount_0f7a4 29 = .ok (.ldc_w 267, 3) := by decide +kernel
theorem dJ6_bitCount_0f7a4_32 : decode cJ6_bitCount_0f7a4 32 = .ok (.iand, 1) := by decide +kernel
theorem dJ6_bitCount_0f7a4_33 : decode cJ6_bitCount_0f7a4 33 = .ok (.istore_n 0, 1) := by decide +kernel
theorem dJ6_bitCount_0f7a4_34 : decode cJ6_bitCount_0f7a4 34 = .ok (.iload_n 0, 1) := by decide +kernel
theorem dJ6_bitCount_0f7a4_35 : decode cJ6_bitCount_0f7a4 35 = .ok (.iload_n 0, 1) := by decide +kernel
theorem dJ6_bitCount_0f7a4_36 : decode cJ6_bitCount_0f7a4 36 = .ok (.bipush 8, 2) := by decide +kernel
theorem dJ6_bitCount_0f7a4_38 : decode cJ6_bitCount_0f7a4 38 = .ok (.iushr, 1) := by decide +kernel
theorem dJ6_bitCount_0f7a4_39 : decode cJ6_bitCount_0f7a4 39 = .ok (.iadd, 1) := by decide +kernel
theorem dJ6_bitCount_0f7a4_40 : decode cJ6_bitCount_0f7a4 40 = .ok (.istore_n 0, 1) := by decide +kernel
theorem dJ6_bitCount_0f7a4_41 : decode cJ6_bitCount_0f7a4 41 = .ok (.iload_n 0, 1) := by decide +kernel
theorem dJ6_bitCount_0f7a4_42 : decode cJ6_bitCount_0f7a4 42 = .ok (.iload_n 0, 1) := by decide +kernel
theorem dJ6_bitCount_0f7a4_43 : decode cJ6_bitCount_0f7a4 43 = .ok (.bipush 16, 2) := by decide +kernel
theorem dJ6_bitCount_0f7a4_45 : decode cJ6_bitCount_0f7a4 45 = .ok (.iushr, 1) := by decide +kernel
theorem dJ6_bitCount_0f7a4_46 : decode cJ6_bitCount_0f7a4 46 = .ok (.iadd, 1) := by decide +kernel
theorem dJ6_bitCount_0f7a4_47 : decode cJ6_bitCount_0f7a4 47 = .ok (.istore_n 0, 1) := by decide +kernel
theorem dJ6_bitCount_0f7a4_48 : decode cJ6_bitCount_0f7a4 48 = .ok (.iload_n 0, 1) := by decide +kernel
theorem dJ6_bitCount_0f7a4_49 : decode cJ6_bitCount_0f7a4 49 = .ok (.bipush 63, 2) := by decide +kernel
theorem dJ6_bitCount_0f7a4_51 : decode cJ6_bitCount_0f7a4 51 = .ok (.iand, 1) := by decide +kernel
theorem dJ6_bitCount_0f7a4_52 : decode cJ6_bitCount_0f7a4 52 = .ok (.ireturn, 1) := by decide +kernel
theorem dJ7_fill_53178_0 : decode cJ7_fill_53178 0 = .ok (.iconst 0, 1) := by decide +kernel
theorem dJ7_fill_53178_1 : decode cJ7_fill_53178 1 = .ok (.istore_n 2, 1) := by decide +kernel
theorem dJ7_fill_53178_2 : decode cJ7_fill_53178 2 = .ok (.aload_n 0, 1) := by decide +kernel
theorem dJ7_fill_53178_3 : decode cJ7_fill_53178 3 = .ok (.arraylength, 1) := by decide +kernel
theorem dJ7_fill_53178_4 : decode cJ7_fill_53178 4 = .ok (.istore_n 3, 1) := by decide +kernel
theorem dJ7_fill_53178_5 : decode cJ7_fill_53178 5 = .ok (.iload_n 2, 1) := by decide +kernel
theorem dJ7_fill_53178_6 : decode cJ7_fill_53178 6 = .ok (.iload_n 3, 1) := by decide +kernel
theorem dJ7_fill_53178_7 : decode cJ7_fill_53178 7 = .ok (.if_icmp .ge 13, 3) := by decide +kernel
theorem dJ7_fill_53178_10 : decode cJ7_fill_53178 10 = .ok (.aload_n 0, 1) := by decide +kernel
theorem dJ7_fill_53178_11 : decode cJ7_fill_53178 11 = .ok (.iload_n 2, 1) := by decide +kernel
theorem dJ7_fill_53178_12 : decode cJ7_fill_53178 12 = .ok (.iload_n 1, 1) := by decide +kernel
theorem dJ7_fill_53178_13 : decode cJ7_fill_53178 13 = .ok (.iastore, 1) := by decide +kernel
theorem dJ7_fill_53178_14 : decode cJ7_fill_53178 14 = .ok (.iinc 2 1, 3) := by decide +kernel
theorem dJ7_fill_53178_17 : decode cJ7_fill_53178 17 = .ok (.goto (-12), 3) := by decide +kernel
theorem dJ7_fill_53178_20 : decode cJ7_fill_53178 20 = .ok (.return_, 1) := by decide +kernel
abbrev vwCl : List vw_C := [(RX0, TX0, 12), (RX1, TX1, 11)]
end
section
/-! the words of the pictures: guards, worlds, ends; the two methods of the JDK -/
def z_gx {α : Type} (i : Int32) (n : Nat) (k : Option α) : Option α := if (¬ (i < 0 ∨ n ≤ i.toNatClampNeg)) then k else none
theorem z_gx_some {α : Type} {i : Int32} {n : Nat} {k : Option α} {r : α} (h : z_gx i n k = some r) : vp_in i n ∧ k = some r := by
  unfold z_gx at h
  by_cases c : ¬ (i < 0 ∨ n ≤ i.toNatClampNeg)
  · rw [if_pos c] at h
    exact ⟨c, h⟩
  · rw [if_neg c] at h
    cases h
theorem z_gx_in {α : Type} {i : Int32} {n : Nat} {k : Option α} (h : vp_in i n) : z_gx i n k = k := if_pos h
def z_gb {α : Type} (v : Int32) (k : Option α) : Option α := if (v = 0 ∨ v = 1) then k else none
theorem z_gb_some {α : Type} {v : Int32} {k : Option α} {r : α} (h : z_gb v k = some r) : (v = 0 ∨ v = 1) ∧ k = some r := by
  unfold z_gb at h
  by_cases c : v = 0 ∨ v = 1
  · rw [if_pos c] at h
    exact ⟨c, h⟩
  · rw [if_neg c] at h
    cases h
theorem z_gb_in {α : Type} {v : Int32} {k : Option α} (h : v = 0 ∨ v = 1) : z_gb v k = k := if_pos h
theorem z_gb_nar {v : Int32} (h : v = 0 ∨ v = 1) : narrow .boolean (.int v) = .int v := by
  rcases h with rfl | rfl <;> rfl
theorem z_gb_fit {v : Int32} (h : v = 0 ∨ v = 1) : fits .boolean (.int v) = true := by
  rcases h with rfl | rfl <;> rfl
def z_gc {α : Type} (i : Int32) (n : Nat) (k : Option α) : Option α := if (¬ i < 0 ∧ i.toNatClampNeg ≤ n) then k else none
theorem z_gc_some {α : Type} {i : Int32} {n : Nat} {k : Option α} {r : α} (h : z_gc i n k = some r) : ¬ i < 0 ∧ i.toNatClampNeg ≤ n ∧ k = some r := by
  unfold z_gc at h
  by_cases c : ¬ i < 0 ∧ i.toNatClampNeg ≤ n
  · rw [if_pos c] at h
    exact ⟨c.1, c.2, h⟩
  · rw [if_neg c] at h
    cases h
theorem z_gc_in {α : Type} {i : Int32} {n : Nat} {k : Option α} (h : ¬ i < 0 ∧ i.toNatClampNeg ≤ n) : z_gc i n k = k := if_pos h
theorem z_gc_le {i : Int32} {n : Nat} (h : i.toNatClampNeg ≤ n) : (0 : Int32).toNatClampNeg + i.toNatClampNeg ≤ n := by
  rw [sb_cl0]
  omega
theorem z_ob_some {α β : Type} {x : Option α} {k : α → Option β} {r : β} (h : Option.bind x k = some r) : ∃ u : α, x = some u ∧ k u = some r := by
  cases x with
  | none => cases h
  | some u => exact ⟨u, rfl, h⟩
def z_fl (n : Nat) (f : Nat → Int32) (v : Int32) : Nat → Int32 := fun j => if j < n then v else f j
abbrev z_qI (dC : Nat → ClassId) (dI : Nat → Nat → Nat) (cy : ClassId) (r0 : Int32) (w : va_W) (A : Nat → Prop) : Array Value → State → Outcome → State → Prop := va_Qi (fun (r : Int32) (_ : Unit) => r = r0) (fun _ t => va_P (dC, dI) vwCl w t.heap ∧ va_K (dC, dI) vwCl [(cy, .int)] t ∧ va_D A w) A
abbrev z_qV (dC : Nat → ClassId) (dI : Nat → Nat → Nat) (cy : ClassId) (w : va_W) (A : Nat → Prop) : Array Value → State → Outcome → State → Prop := va_Qv (fun (_ : Unit) => True) (fun _ t => va_P (dC, dI) vwCl w t.heap ∧ va_K (dC, dI) vwCl [(cy, .int)] t ∧ va_D A w) A
/-- the cells of a GiftLots -/
abbrev wX0 (cy : ClassId) (h q2 q3 q4 q5 q6 q7 q8 q9 : Nat) (c0 c1 : Int32) (c2 c3 c4 c5 c6 c7 c8 c9 : Nat → Int32) (c10 c11 : Int32) : va_W := [(h, .inr (0, [.int c0, .int c1, .ref q2, .ref q3, .ref q4, .ref q5, .ref q6, .ref q7, .ref q8, .ref q9, .int c10, .int c11])), (q2, .inl (cy, 8, .inl c2)), (q3, .inl (cy, 8, .inl c3)), (q4, .inl (cy, 8, .inl c4)), (q5, .inl (cy, 2048, .inl c5)), (q6, .inl (cy, 256, .inl c6)), (q7, .inl (cy, 256, .inl c7)), (q8, .inl (cy, 8, .inl c8)), (q9, .inl (cy, 8, .inl c9))]
/-- the cells of a GiftLotsModel -/
abbrev wX1 (cy : ClassId) (h q2 q3 q6 q7 q10 : Nat) (c0 c1 : Int32) (c2 c3 : Nat → Int32) (c4 c5 : Int32) (c6 c7 : Nat → Int32) (c8 c9 : Int32) (c10 : Nat → Int32) : va_W := [(h, .inr (1, [.int c0, .int c1, .ref q2, .ref q3, .int c4, .int c5, .ref q6, .ref q7, .int c8, .int c9, .ref q10])), (q2, .inl (cy, 8, .inl c2)), (q3, .inl (cy, 8, .inl c3)), (q6, .inl (cy, 8, .inl c6)), (q7, .inl (cy, 256, .inl c7)), (q10, .inl (cy, 8, .inl c10))]
theorem z_sw3 {x : Int32} (h0 : ¬ x = 0) (h1 : ¬ x = 1) (h2 : ¬ x = 2) (h3 : ¬ x = 3) : x.toInt < 0 ∨ 3 < x.toInt := by
  by_cases c : x.toInt < 0
  · exact Or.inl c
  · refine Or.inr (Int.not_le.mp fun c2 => ?_)
    obtain ⟨j, hj, rfl⟩ := nI_of2 (x := x) (M := 3) (n := 3) rfl (by rw [Int32.lt_iff_toInt_lt]; exact c) (by rw [Int32.le_iff_toInt_le]; exact c2)
    rcases (show j = 0 ∨ j = 1 ∨ j = 2 ∨ j = 3 by omega) with rfl | rfl | rfl | rfl
    · exact h0 rfl
    · exact h1 rfl
    · exact h2 rfl
    · exact h3 rfl
def z_us (x y : Int32) : Int32 := (x.toUInt32 >>> (y.toUInt32 &&& Int32.toUInt32 31)).toInt32
def z_b1 (x : Int32) : Int32 := x - ((z_us x 1) &&& 1431655765)
def z_b2 (x : Int32) : Int32 := (x &&& 858993459) + ((z_us x 2) &&& 858993459)
def z_b3 (x : Int32) : Int32 := (x + z_us x 4) &&& 252645135
def z_b4 (x : Int32) : Int32 := x + z_us x 8
def z_b5 (x : Int32) : Int32 := x + z_us x 16
def z_bc (x : Int32) : Int32 := z_b5 (z_b4 (z_b3 (z_b2 (z_b1 x)))) &&& 63
def z_bitCount (x : Int32) : Option Int32 := some (z_bc x)
abbrev rm_jdk : Room := { frames := 0, cells := 0, slots := 0, locals := 0 }
set_option maxHeartbeats 4000000 in
set_option maxRecDepth 100000 in
theorem c_bitCount (l : Launch) (dC : Nat → ClassId) (dI : Nat → Nat → Nat) (cy : ClassId) (sz : Nat) (x0 : Int32) (res : Int32) (hf : z_bitCount x0 = some res) : Met l yJ6_bitCount_0f7a4 wsJ6_bitCount_0f7a4 rm_jdk (va_Pc [.int x0] (fun U => U.heap.size = sz ∧ va_P (dC, dI) vwCl ([] : va_W) U.heap ∧ va_K (dC, dI) vwCl [(cy, .int)] U ∧ va_D (fun _ => True) ([] : va_W))) (z_qI dC dI cy res ([] : va_W) (va_A ([] : va_W) sz)) 0 0 (va_A ([] : va_W) sz) := by
  refine Met.ofW (cc := cJ6_bitCount_0f7a4) (maxL := 1) (ret := (some .int)) (by decide) rfl ?_
  intro p e s m args below meth c s₁ B hml hv
  obtain ⟨rfl, hsz, hP, hK, hD0⟩ := hv
  have hx := B.exec
  have hb := B.bytes
  have hr := B.returns
  have hts := atoms_spec (ws := wsJ6_bitCount_0f7a4) B.pre
  have hown : s.vm.findClass RJ6 = some m.cls := findClass_of_methodNamed B.named
  have hlocks := B.notSynchronized
  subst hsz
  have hD := hD0.self (sz := s.heap.size)
  generalize hAe : va_A ([] : va_W) s.heap.size = A at hD ⊢
  have hA : ∀ q : Nat, s.heap.size ≤ q → A q := fun q h => by rw [← hAe]; exact Or.inr h
  have hS : va_S A s.heap s.heap [] := va_S.rf
  have hl := lv_entry ([.int x0]) (n := 1) (Nat.le_of_ble_eq_true rfl)
  rw [lg_entry_eq]
  generalize (lg_sl ([.int x0]) ++ List.replicate (1 - (lg_sl ([.int x0])).length) Slot.unset).toArray = ls at hl ⊢
  have hl : lv_has ls 1 [(0, .int x0)] := hl
  refine lv_iload_n hx hb dJ6_bitCount_0f7a4_0 rfl (lv_at hl 0 rfl) ?_
  refine lv_iload_n hx hb dJ6_bitCount_0f7a4_1 rfl (lv_at hl 0 rfl) ?_
  refine lv_iconst (v := 1) hx hb dJ6_bitCount_0f7a4_2 (by decide) ?_
  refine lv_iushr (v := z_us x0 1) hx hb dJ6_bitCount_0f7a4_3 rfl ?_
  refine lv_ldcw hx hb hown (hts (.constant RJ6 265 (1431655765)) (by decide +kernel)) dJ6_bitCount_0f7a4_4 ?_
  refine lv_iand hx hb dJ6_bitCount_0f7a4_7 ?_
  refine lv_isub hx hb dJ6_bitCount_0f7a4_8 ?_
  refine lv_topi (fun y1 e1 => ?_)
  refine lv_istore_n (lv' := [(0, .int y1)]) hx hb dJ6_bitCount_0f7a4_9 rfl hl (by decide) rfl (fun ls hl => ?_)
  refine lv_iload_n hx hb dJ6_bitCount_0f7a4_10 rfl (lv_at hl 0 rfl) ?_
  refine lv_ldcw hx hb hown (hts (.constant RJ6 266 (858993459)) (by decide +kernel)) dJ6_bitCount_0f7a4_11 ?_
  refine lv_iand hx hb dJ6_bitCount_0f7a4_14 ?_
  refine lv_iload_n hx hb dJ6_bitCount_0f7a4_15 rfl (lv_at hl 0 rfl) ?_
  refine lv_iconst (v := 2) hx hb dJ6_bitCount_0f7a4_16 (by decide) ?_
  refine lv_iushr (v := z_us y1 2) hx hb dJ6_bitCount_0f7a4_17 rfl ?_
  refine lv_ldcw hx hb hown (hts (.constant RJ6 266 (858993459)) (by decide +kernel)) dJ6_bitCount_0f7a4_18 ?_
  refine lv_iand hx hb dJ6_bitCount_0f7a4_21 ?_
  refine lv_iadd hx hb dJ6_bitCount_0f7a4_22 ?_
  refine lv_topi (fun y2 e2 => ?_)
  refine lv_istore_n (lv' := [(0, .int y2)]) hx hb dJ6_bitCount_0f7a4_23 rfl hl (by decide) rfl (fun ls hl => ?_)
  refine lv_iload_n hx hb dJ6_bitCount_0f7a4_24 rfl (lv_at hl 0 rfl) ?_
  refine lv_iload_n hx hb dJ6_bitCount_0f7a4_25 rfl (lv_at hl 0 rfl) ?_
  refine lv_iconst (v := 4) hx hb dJ6_bitCount_0f7a4_26 (by decide) ?_
  refine lv_iushr (v := z_us y2 4) hx hb dJ6_bitCount_0f7a4_27 rfl ?_
  refine lv_iadd hx hb dJ6_bitCount_0f7a4_28 ?_
  refine lv_ldcw hx hb hown (hts (.constant RJ6 267 (252645135)) (by decide +kernel)) dJ6_bitCount_0f7a4_29 ?_
  refine lv_iand hx hb dJ6_bitCount_0f7a4_32 ?_
  refine lv_topi (fun y3 e3 => ?_)
  refine lv_istore_n (lv' := [(0, .int y3)]) hx hb dJ6_bitCount_0f7a4_33 rfl hl (by decide) rfl (fun ls hl => ?_)
  refine lv_iload_n hx hb dJ6_bitCount_0f7a4_34 rfl (lv_at hl 0 rfl) ?_
  refine lv_iload_n hx hb dJ6_bitCount_0f7a4_35 rfl (lv_at hl 0 rfl) ?_
  refine lv_bipush (v := 8) hx hb dJ6_bitCount_0f7a4_36 (by decide) ?_
  refine lv_iushr (v := z_us y3 8) hx hb dJ6_bitCount_0f7a4_38 rfl ?_
  refine lv_iadd hx hb dJ6_bitCount_0f7a4_39 ?_
  refine lv_topi (fun y4 e4 => ?_)
  refine lv_istore_n (lv' := [(0, .int y4)]) hx hb dJ6_bitCount_0f7a4_40 rfl hl (by decide) rfl (fun ls hl => ?_)
  refine lv_iload_n hx hb dJ6_bitCount_0f7a4_41 rfl (lv_at hl 0 rfl) ?_
  refine lv_iload_n hx hb dJ6_bitCount_0f7a4_42 rfl (lv_at hl 0 rfl) ?_
  refine lv_bipush (v := 16) hx hb dJ6_bitCount_0f7a4_43 (by decide) ?_
  refine lv_iushr (v := z_us y4 16) hx hb dJ6_bitCount_0f7a4_45 rfl ?_
  refine lv_iadd hx hb dJ6_bitCount_0f7a4_46 ?_
  refine lv_topi (fun y5 e5 => ?_)
  refine lv_istore_n (lv' := [(0, .int y5)]) hx hb dJ6_bitCount_0f7a4_47 rfl hl (by decide) rfl (fun ls hl => ?_)
  refine lv_iload_n hx hb dJ6_bitCount_0f7a4_48 rfl (lv_at hl 0 rfl) ?_
  refine lv_bipush (v := 63) hx hb dJ6_bitCount_0f7a4_49 (by decide) ?_
  refine lv_iand hx hb dJ6_bitCount_0f7a4_51 ?_
  have hres := Option.some.inj hf
  have hP9 := hP.sub (ws' := ([] : va_W)) [] rfl
  have hD9 := hD.sub (ws' := ([] : va_W)) [] (by decide) rfl
  have hK9 := hK.sub (tys' := [(cy, .int)]) [0] rfl
  exact W.iret (v := y5 &&& 63) hx hb hr (fun t ht hW => ⟨⟨y5 &&& 63, (), rfl, by rw [← hres, e5, e4, e3, e2, e1]; rfl, by rw [ht]; exact hP9, va_K.moved hW.alike hK9, hD9⟩, hS.F ht⟩) hS.2.2 dJ6_bitCount_0f7a4_52
theorem z_fl_step (k : Nat) (f : Nat → Int32) (v : Int32) (hk : k < 2 ^ 31) : upd (z_fl k f v) (nI k).toNatClampNeg v = z_fl (k + 1) f v := by
  rw [nI_clamp hk]
  funext j
  by_cases e : j = k
  · subst e
    rw [pk_us]
    exact (if_pos (Nat.lt_succ_self j)).symm
  · rw [pk_un e]
    show (if j < k then v else f j) = (if j < k + 1 then v else f j)
    by_cases c : j < k
    · rw [if_pos c, if_pos (by omega)]
    · rw [if_neg c, if_neg (by omega)]
theorem z_fl_0 (f : Nat → Int32) (v : Int32) : z_fl 0 f v = f := by
  funext j
  exact if_neg (Nat.not_lt_zero j)
set_option maxHeartbeats 4000000 in
set_option maxRecDepth 100000 in
theorem c_fill (l : Launch) (dC : Nat → ClassId) (dI : Nat → Nat → Nat) (cy : ClassId) (q0 n : Nat) (hn : n < 2 ^ 31) (sz : Nat) (f : Nat → Int32) (v : Int32) : Met l yJ7_fill_53178 wsJ7_fill_53178 rm_jdk (va_Pc [.ref q0, .int v] (fun U => U.heap.size = sz ∧ va_P (dC, dI) vwCl [(q0, .inl (cy, n, .inl f))] U.heap ∧ va_K (dC, dI) vwCl [(cy, .int)] U ∧ va_D (fun _ => True) [(q0, .inl (cy, n, .inl f))])) (z_qV dC dI cy [(q0, .inl (cy, n, .inl (z_fl n f v)))] (va_A [(q0, .inl (cy, n, .inl f))] sz)) 0 0 (va_A [(q0, .inl (cy, n, .inl f))] sz) := by
  refine Met.ofW (cc := cJ7_fill_53178) (maxL := 4) (ret := none) (by decide) rfl ?_
  intro p e s m args below meth c s₁ B hml hv
  obtain ⟨rfl, hsz, hP, hK, hD0⟩ := hv
  have hx := B.exec
  have hb := B.bytes
  have hr := B.returns
  have hts := atoms_spec (ws := wsJ7_fill_53178) B.pre
  have hown : s.vm.findClass RJ7 = some m.cls := findClass_of_methodNamed B.named
  have hlocks := B.notSynchronized
  subst hsz
  have hD := hD0.self (sz := s.heap.size)
  generalize hAe : va_A [(q0, .inl (cy, n, .inl f))] s.heap.size = A at hD ⊢
  have hA : ∀ q : Nat, s.heap.size ≤ q → A q := fun q h => by rw [← hAe]; exact Or.inr h
  have hS : va_S A s.heap s.heap [] := va_S.rf
  have hP : va_P (dC, dI) vwCl [(q0, .inl (cy, n, .inl f))] s.heap := hP
  have hl := lv_entry ([.ref q0, .int v]) (n := 4) (Nat.le_of_ble_eq_true rfl)
  rw [lg_entry_eq]
  generalize (lg_sl ([.ref q0, .int v]) ++ List.replicate (4 - (lg_sl ([.ref q0, .int v])).length) Slot.unset).toArray = ls at hl ⊢
  have hl : lv_has ls 4 [(0, .ref q0), (1, .int v)] := hl
  have B5 : ∀ (d k : Nat), k + d = n → ∀ (H : Heap) (locs : List Loc) (ls : Array Slot), va_P (dC, dI) vwCl [(q0, .inl (cy, n, .inl (z_fl k f v)))] H → va_D A [(q0, .inl (cy, n, .inl (z_fl k f v)))] → va_S A s.heap H locs → lv_has ls 4 [(0, .ref q0), (1, .int v), (2, .int (nI k)), (3, .int (nI n))] → W p l e rm_jdk s m ([.ref q0, .int v] : List Value).toArray below meth c H locs 0 0 (MQ below (z_qV dC dI cy [(q0, .inl (cy, n, .inl (z_fl n f v)))] A) ([.ref q0, .int v] : List Value).toArray s 0 0 A) (F0 m 5 ls []) := by
    clear hl hP hD hS
    intro d
    induction d with
    | zero =>
      intro k hk H locs ls hP hD hS hl
      obtain rfl : k = n := by omega
      refine lv_iload_n hx hb dJ7_fill_53178_5 rfl (lv_at hl 2 rfl) ?_
      refine lv_iload_n hx hb dJ7_fill_53178_6 rfl (lv_at hl 3 rfl) ?_
      refine lv_icmp_ge (tgt := 20) hx hb dJ7_fill_53178_7 (by decide) (fun c_7 => ?_) (fun c_7 => ?_)
      · have hK9 := hK.sub (tys' := [(cy, .int)]) [0] rfl
        exact W.vret hx hb hr (fun t ht hW => ⟨⟨(), rfl, trivial, by rw [ht]; exact hP, va_K.moved hW.alike hK9, hD⟩, hS.F ht⟩) hS.2.2 dJ7_fill_53178_20
      · exact absurd (nI_le (Nat.le_refl k) hn) c_7
    | succ d ih =>
      intro k hk H locs ls hP hD hS hl
      refine lv_iload_n hx hb dJ7_fill_53178_5 rfl (lv_at hl 2 rfl) ?_
      refine lv_iload_n hx hb dJ7_fill_53178_6 rfl (lv_at hl 3 rfl) ?_
      refine lv_icmp_ge (tgt := 20) hx hb dJ7_fill_53178_7 (by decide) (fun c_7 => ?_) (fun c_7 => ?_)
      · exact absurd c_7 (nI_ge (show k < n by omega) hn)
      · refine lv_aload_n hx hb dJ7_fill_53178_10 rfl (lv_at hl 0 rfl) ?_
        refine lv_iload_n hx hb dJ7_fill_53178_11 rfl (lv_at hl 2 rfl) ?_
        refine lv_iload_n hx hb dJ7_fill_53178_12 rfl (lv_at hl 1 rfl) ?_
        refine va_iast hx hb hK hP hD hS 0 0 rfl rfl (vp_in_nI (show k < n by omega) hn) dJ7_fill_53178_13 (fun H locs hP hD hS => ?_)
        rw [z_fl_step k f v (by omega)] at hP hD
        refine lv_iinc (v := nI (k + 1)) (lv' := [(2, .int (nI (k + 1))), (0, .ref q0), (1, .int v), (3, .int (nI n))]) hx hb dJ7_fill_53178_14 hl (k := 2) rfl (nI_1 k) (by decide) rfl (fun ls hl => ?_)
        refine lv_goto (tgt := 5) hx hb dJ7_fill_53178_17 (by decide) ?_
        exact ih (k + 1) (by omega) _ _ _ hP hD hS (lv_sub hl [1, 2, 0, 3] rfl)
  refine lv_iconst (v := 0) hx hb dJ7_fill_53178_0 (by decide) ?_
  refine lv_istore_n (lv' := [(2, .int 0), (0, .ref q0), (1, .int v)]) hx hb dJ7_fill_53178_1 rfl hl (by decide) rfl (fun ls hl => ?_)
  refine lv_aload_n hx hb dJ7_fill_53178_2 rfl (lv_at hl 1 rfl) ?_
  refine va_alen hx hb hK hP 0 0 rfl rfl (v := nI n) rfl dJ7_fill_53178_3 ?_
  refine lv_istore_n (lv' := [(3, .int (nI n)), (2, .int 0), (0, .ref q0), (1, .int v)]) hx hb dJ7_fill_53178_4 rfl hl (by decide) rfl (fun ls hl => ?_)
  exact B5 n 0 (by omega) _ _ _ (by rw [z_fl_0]; exact hP) (by rw [z_fl_0]; exact hD) hS (lv_sub hl [2, 3, 1, 0] rfl)
end
section
def f_X0_everyone (N : Nat) (c0 : Int32) : Option (Int32) := some (((1 : Int32) <<< (c0 &&& 31)) - (1 : Int32))
theorem dX0_everyone_0 : decode cX0_everyone 0 = .ok (.iconst 1, 1) := by decide +kernel
theorem dX0_everyone_1 : decode cX0_everyone 1 = .ok (.aload_n 0, 1) := by decide +kernel
theorem dX0_everyone_2 : decode cX0_everyone 2 = .ok (.getfield 38, 3) := by decide +kernel
theorem dX0_everyone_5 : decode cX0_everyone 5 = .ok (.ishl, 1) := by decide +kernel
theorem dX0_everyone_6 : decode cX0_everyone 6 = .ok (.iconst 1, 1) := by decide +kernel
theorem dX0_everyone_7 : decode cX0_everyone 7 = .ok (.isub, 1) := by decide +kernel
theorem dX0_everyone_8 : decode cX0_everyone 8 = .ok (.ireturn, 1) := by decide +kernel
abbrev rm_X0_everyone : Room := { frames := 0, cells := 0, slots := 0, locals := 0 }
set_option maxHeartbeats 4000000 in
set_option maxRecDepth 100000 in
theorem c_X0_everyone (N : Nat) (l : Launch) (dC : Nat → ClassId) (dI : Nat → Nat → Nat) (cy : ClassId) (h q2 q3 q4 q5 q6 q7 q8 q9 : Nat) (sz : Nat) (c0 : Int32) (c1 : Int32) (c2 : Nat → Int32) (c3 : Nat → Int32) (c4 : Nat → Int32) (c5 : Nat → Int32) (c6 : Nat → Int32) (c7 : Nat → Int32) (c8 : Nat → Int32) (c9 : Nat → Int32) (c10 : Int32) (c11 : Int32) (res : Int32) (hf : f_X0_everyone N c0 = some res) : Met l yX0_everyone wsX0_everyone rm_X0_everyone (va_Pc [.ref h] (fun U => U.heap.size = sz ∧ va_P (dC, dI) vwCl (wX0 cy h q2 q3 q4 q5 q6 q7 q8 q9 c0 c1 c2 c3 c4 c5 c6 c7 c8 c9 c10 c11) U.heap ∧ va_K (dC, dI) vwCl [(cy, .int)] U ∧ va_D (fun _ => True) (wX0 cy h q2 q3 q4 q5 q6 q7 q8 q9 c0 c1 c2 c3 c4 c5 c6 c7 c8 c9 c10 c11))) (z_qI dC dI cy res (wX0 cy h q2 q3 q4 q5 q6 q7 q8 q9 c0 c1 c2 c3 c4 c5 c6 c7 c8 c9 c10 c11) (va_A (wX0 cy h q2 q3 q4 q5 q6 q7 q8 q9 c0 c1 c2 c3 c4 c5 c6 c7 c8 c9 c10 c11) sz)) 0 0 (va_A (wX0 cy h q2 q3 q4 q5 q6 q7 q8 q9 c0 c1 c2 c3 c4 c5 c6 c7 c8 c9 c10 c11) sz) := by
  refine Met.ofW (cc := cX0_everyone) (maxL := 1) (ret := (some .int)) (by decide) rfl ?_
  intro p e s m args below meth c s₁ B hml hv
  obtain ⟨rfl, hsz, hP, hK, hD0⟩ := hv
  have hx := B.exec
  have hb := B.bytes
  have hr := B.returns
  have hts := atoms_spec (ws := wsX0_everyone) B.pre
  have hown : s.vm.findClass RX0 = some m.cls := findClass_of_methodNamed B.named
  have hlocks := B.notSynchronized
  subst hsz
  have hD := hD0.self (sz := s.heap.size)
  generalize hAe : va_A (wX0 cy h q2 q3 q4 q5 q6 q7 q8 q9 c0 c1 c2 c3 c4 c5 c6 c7 c8 c9 c10 c11) s.heap.size = A at hD ⊢
  have hA : ∀ q : Nat, s.heap.size ≤ q → A q := fun q h => by rw [← hAe]; exact Or.inr h
  have hS : va_S A s.heap s.heap [] := va_S.rf
  have hP : va_P (dC, dI) vwCl (wX0 cy h q2 q3 q4 q5 q6 q7 q8 q9 c0 c1 c2 c3 c4 c5 c6 c7 c8 c9 c10 c11) s.heap := hP
  have hl := lv_entry ([.ref h]) (n := 1) (Nat.le_of_ble_eq_true rfl)
  rw [lg_entry_eq]
  generalize (lg_sl ([.ref h]) ++ List.replicate (1 - (lg_sl ([.ref h])).length) Slot.unset).toArray = ls at hl ⊢
  have hl : lv_has ls 1 [(0, .ref h)] := hl
  unfold f_X0_everyone at hf
  refine lv_iconst (v := (1 : Int32)) hx hb dX0_everyone_0 (by decide) ?_
  refine lv_aload_n hx hb dX0_everyone_1 rfl (lv_at hl 0 rfl) ?_
  refine va_get (D := (dC, dI)) (ci := 0) (v := .int c0) (C := RX0) (T := TX0) (N := 12) hx hb hts (by decide +kernel) hown hK hP 0 rfl rfl 0 (by decide) (hts (.fieldLink RX0 38 "GiftLots" "count" "I") (by decide +kernel)) (fun _ h9 => h9) rfl dX0_everyone_2 ?_
  refine lv_ishl hx hb dX0_everyone_5 ?_
  refine lv_iconst (v := (1 : Int32)) hx hb dX0_everyone_6 (by decide) ?_
  refine lv_isub hx hb dX0_everyone_7 ?_
  have hres := Option.some.inj hf
  subst hres
  have hP9 := hP.sub (ws' := (wX0 cy h q2 q3 q4 q5 q6 q7 q8 q9 c0 c1 c2 c3 c4 c5 c6 c7 c8 c9 c10 c11)) [0, 1, 2, 3, 4, 5, 6, 7, 8] rfl
  have hD9 := hD.sub (ws' := (wX0 cy h q2 q3 q4 q5 q6 q7 q8 q9 c0 c1 c2 c3 c4 c5 c6 c7 c8 c9 c10 c11)) [0, 1, 2, 3, 4, 5, 6, 7, 8] (by decide) rfl
  have hK9 := hK.sub (tys' := [(cy, .int)]) [0] rfl
  exact W.iret (v := ((1 : Int32) <<< (c0 &&& 31)) - (1 : Int32)) hx hb hr (fun t ht hW => ⟨⟨((1 : Int32) <<< (c0 &&& 31)) - (1 : Int32), (), rfl, rfl, by rw [ht]; exact hP9, va_K.moved hW.alike hK9, hD9⟩, hS.F ht⟩) hS.2.2 dX0_everyone_8

def f_X0_bit (N : Nat) (a0 : Int32) : Option (Int32) := (if a0 < 0 then some ((0 : Int32)) else (if (8 : Int32) ≤ a0 then some ((0 : Int32)) else some ((1 : Int32) <<< (a0 &&& 31))))
theorem dX0_bit_0 : decode cX0_bit 0 = .ok (.iload_n 0, 1) := by decide +kernel
theorem dX0_bit_1 : decode cX0_bit 1 = .ok (.ifCond .lt 15, 3) := by decide +kernel
theorem dX0_bit_4 : decode cX0_bit 4 = .ok (.iload_n 0, 1) := by decide +kernel
theorem dX0_bit_5 : decode cX0_bit 5 = .ok (.bipush 8, 2) := by decide +kernel
theorem dX0_bit_7 : decode cX0_bit 7 = .ok (.if_icmp .ge 9, 3) := by decide +kernel
theorem dX0_bit_10 : decode cX0_bit 10 = .ok (.iconst 1, 1) := by decide +kernel
theorem dX0_bit_11 : decode cX0_bit 11 = .ok (.iload_n 0, 1) := by decide +kernel
theorem dX0_bit_12 : decode cX0_bit 12 = .ok (.ishl, 1) := by decide +kernel
theorem dX0_bit_13 : decode cX0_bit 13 = .ok (.goto 4, 3) := by decide +kernel
theorem dX0_bit_16 : decode cX0_bit 16 = .ok (.iconst 0, 1) := by decide +kernel
theorem dX0_bit_17 : decode cX0_bit 17 = .ok (.ireturn, 1) := by decide +kernel
abbrev rm_X0_bit : Room := { frames := 0, cells := 0, slots := 0, locals := 0 }
set_option maxHeartbeats 4000000 in
set_option maxRecDepth 100000 in
theorem c_X0_bit (N : Nat) (l : Launch) (dC : Nat → ClassId) (dI : Nat → Nat → Nat) (cy : ClassId) (sz : Nat) (a0 : Int32) (res : Int32) (hf : f_X0_bit N a0 = some res) : Met l yX0_bit wsX0_bit rm_X0_bit (va_Pc [.int a0] (fun U => U.heap.size = sz ∧ va_P (dC, dI) vwCl ([] : va_W) U.heap ∧ va_K (dC, dI) vwCl [(cy, .int)] U ∧ va_D (fun _ => True) ([] : va_W))) (z_qI dC dI cy res ([] : va_W) (va_A ([] : va_W) sz)) 0 0 (va_A ([] : va_W) sz) := by
  refine Met.ofW (cc := cX0_bit) (maxL := 1) (ret := (some .int)) (by decide) rfl ?_
  intro p e s m args below meth c s₁ B hml hv
  obtain ⟨rfl, hsz, hP, hK, hD0⟩ := hv
  have hx := B.exec
  have hb := B.bytes
  have hr := B.returns
  have hts := atoms_spec (ws := wsX0_bit) B.pre
  have hown : s.vm.findClass RX0 = some m.cls := findClass_of_methodNamed B.named
  have hlocks := B.notSynchronized
  subst hsz
  have hD := hD0.self (sz := s.heap.size)
  generalize hAe : va_A ([] : va_W) s.heap.size = A at hD ⊢
  have hA : ∀ q : Nat, s.heap.size ≤ q → A q := fun q h => by rw [← hAe]; exact Or.inr h
  have hS : va_S A s.heap s.heap [] := va_S.rf
  have hP : va_P (dC, dI) vwCl ([] : va_W) s.heap := hP
  have hl := lv_entry ([.int a0]) (n := 1) (Nat.le_of_ble_eq_true rfl)
  rw [lg_entry_eq]
  generalize (lg_sl ([.int a0]) ++ List.replicate (1 - (lg_sl ([.int a0])).length) Slot.unset).toArray = ls at hl ⊢
  have hl : lv_has ls 1 [(0, .int a0)] := hl
  unfold f_X0_bit at hf
  refine lv_iload_n hx hb dX0_bit_0 rfl (lv_at hl 0 rfl) ?_
  refine lv_if_lt (tgt := 16) hx hb dX0_bit_1 (by decide) (fun c_1 => ?_) (fun c_1 => ?_)
  · replace hf := (if_pos c_1).symm.trans hf
    refine lv_iconst (v := (0 : Int32)) hx hb dX0_bit_16 (by decide) ?_
    have hres := Option.some.inj hf
    subst hres
    have hP9 := hP.sub (ws' := ([] : va_W)) [] rfl
    have hD9 := hD.sub (ws' := ([] : va_W)) [] (by decide) rfl
    have hK9 := hK.sub (tys' := [(cy, .int)]) [0] rfl
    exact W.iret (v := (0 : Int32)) hx hb hr (fun t ht hW => ⟨⟨(0 : Int32), (), rfl, rfl, by rw [ht]; exact hP9, va_K.moved hW.alike hK9, hD9⟩, hS.F ht⟩) hS.2.2 dX0_bit_17
  · replace hf := (if_neg c_1).symm.trans hf
    refine lv_iload_n hx hb dX0_bit_4 rfl (lv_at hl 0 rfl) ?_
    refine lv_bipush (v := (8 : Int32)) hx hb dX0_bit_5 (by decide) ?_
    refine lv_icmp_ge (tgt := 16) hx hb dX0_bit_7 (by decide) (fun c_7 => ?_) (fun c_7 => ?_)
    · replace hf := (if_pos c_7).symm.trans hf
      refine lv_iconst (v := (0 : Int32)) hx hb dX0_bit_16 (by decide) ?_
      have hres := Option.some.inj hf
      subst hres
      have hP9 := hP.sub (ws' := ([] : va_W)) [] rfl
      have hD9 := hD.sub (ws' := ([] : va_W)) [] (by decide) rfl
      have hK9 := hK.sub (tys' := [(cy, .int)]) [0] rfl
      exact W.iret (v := (0 : Int32)) hx hb hr (fun t ht hW => ⟨⟨(0 : Int32), (), rfl, rfl, by rw [ht]; exact hP9, va_K.moved hW.alike hK9, hD9⟩, hS.F ht⟩) hS.2.2 dX0_bit_17
    · replace hf := (if_neg c_7).symm.trans hf
      refine lv_iconst (v := (1 : Int32)) hx hb dX0_bit_10 (by decide) ?_
      refine lv_iload_n hx hb dX0_bit_11 rfl (lv_at hl 0 rfl) ?_
      refine lv_ishl hx hb dX0_bit_12 ?_
      refine lv_goto (tgt := 17) hx hb dX0_bit_13 (by decide) ?_
      have hres := Option.some.inj hf
      subst hres
      have hP9 := hP.sub (ws' := ([] : va_W)) [] rfl
      have hD9 := hD.sub (ws' := ([] : va_W)) [] (by decide) rfl
      have hK9 := hK.sub (tys' := [(cy, .int)]) [0] rfl
      exact W.iret (v := (1 : Int32) <<< (a0 &&& 31)) hx hb hr (fun t ht hW => ⟨⟨(1 : Int32) <<< (a0 &&& 31), (), rfl, rfl, by rw [ht]; exact hP9, va_K.moved hW.alike hK9, hD9⟩, hS.F ht⟩) hS.2.2 dX0_bit_17

def f_X0_begin_b43 (N : Nat) (r12 : Int32 → Int32 → Int32 → Int32 → (Nat → Int32) → (Nat → Int32) → Option (Int32 × Int32 × (Nat → Int32) × (Nat → Int32))) (x1 : Int32) (x2 : Int32) (t1 : Int32) (t2 : Int32) (c0 : Int32) (c1 : Int32) (c2 : Nat → Int32) (c3 : Nat → Int32) : Option (Int32 × Int32 × (Nat → Int32) × (Nat → Int32)) := z_gx t1 8 (z_gx x2 8 (r12 x1 (x2 + (1 : Int32)) c0 c1 (upd c2 (t1).toNatClampNeg t2) (upd c3 (x2).toNatClampNeg (-6 : Int32))))
def f_X0_begin_b12 (N : Nat) : Nat → Int32 → Int32 → Int32 → Int32 → (Nat → Int32) → (Nat → Int32) → Option (Int32 × Int32 × (Nat → Int32) × (Nat → Int32))
  | 0, _, _, _, _, _, _ => none
  | n + 1, x1, x2, c0, c1, c2, c3 => (if (8 : Int32) ≤ x2 then some (c0, c1, c2, c3) else (if x1 ≤ x2 then f_X0_begin_b43 N (f_X0_begin_b12 N n) x1 x2 x2 (0 : Int32) c0 c1 c2 c3 else Option.bind (f_X0_everyone N c0) (fun u29 => Option.bind (f_X0_bit N x2) (fun u33 => f_X0_begin_b43 N (f_X0_begin_b12 N n) x1 x2 x2 (u29 &&& (u33 ^^^ (-1 : Int32))) c0 c1 c2 c3))))
def f_X0_begin (N : Nat) (a1 : Int32) (c0 : Int32) (c1 : Int32) (c2 : Nat → Int32) (c3 : Nat → Int32) : Option (Int32 × Int32 × (Nat → Int32) × (Nat → Int32)) := f_X0_begin_b12 N N a1 (0 : Int32) a1 (2 : Int32) c2 c3
set_option maxRecDepth 20000 in
theorem ggX0_begin_X0_everyone : GoodIn wsX0_begin wsX0_everyone := goodIn_r _ [9, 1, 13, 14, 15, 16, 17, 18, 19, 20, 21, 22, 23, 24] (by decide +kernel) (by decide +kernel)
set_option maxRecDepth 20000 in
theorem gX0_begin_X0_everyone : GoodIn wsX0_begin (wsV RX0 85 RX0 yX0_everyone wsX0_everyone) := goodIn_app (goodIn_of _ (by decide +kernel)) ggX0_begin_X0_everyone
set_option maxRecDepth 20000 in
theorem ggX0_begin_X0_bit : GoodIn wsX0_begin wsX0_bit := goodIn_r _ [12] (by decide +kernel) (by decide +kernel)
set_option maxRecDepth 20000 in
theorem gX0_begin_X0_bit : GoodIn wsX0_begin (va_wsS RX0 50 yX0_bit wsX0_bit) := goodIn_app (goodIn_of _ (by decide +kernel)) ggX0_begin_X0_bit
theorem dX0_begin_0 : decode cX0_begin 0 = .ok (.aload_n 0, 1) := by decide +kernel
theorem dX0_begin_1 : decode cX0_begin 1 = .ok (.iload_n 1, 1) := by decide +kernel
theorem dX0_begin_2 : decode cX0_begin 2 = .ok (.putfield 38, 3) := by decide +kernel
theorem dX0_begin_5 : decode cX0_begin 5 = .ok (.aload_n 0, 1) := by decide +kernel
theorem dX0_begin_6 : decode cX0_begin 6 = .ok (.iconst 2, 1) := by decide +kernel
theorem dX0_begin_7 : decode cX0_begin 7 = .ok (.putfield 57, 3) := by decide +kernel
theorem dX0_begin_10 : decode cX0_begin 10 = .ok (.iconst 0, 1) := by decide +kernel
theorem dX0_begin_11 : decode cX0_begin 11 = .ok (.istore_n 2, 1) := by decide +kernel
theorem dX0_begin_12 : decode cX0_begin 12 = .ok (.iload_n 2, 1) := by decide +kernel
theorem dX0_begin_13 : decode cX0_begin 13 = .ok (.bipush 8, 2) := by decide +kernel
theorem dX0_begin_15 : decode cX0_begin 15 = .ok (.if_icmp .ge 43, 3) := by decide +kernel
theorem dX0_begin_18 : decode cX0_begin 18 = .ok (.aload_n 0, 1) := by decide +kernel
theorem dX0_begin_19 : decode cX0_begin 19 = .ok (.getfield 9, 3) := by decide +kernel
theorem dX0_begin_22 : decode cX0_begin 22 = .ok (.iload_n 2, 1) := by decide +kernel
theorem dX0_begin_23 : decode cX0_begin 23 = .ok (.iload_n 2, 1) := by decide +kernel
theorem dX0_begin_24 : decode cX0_begin 24 = .ok (.iload_n 1, 1) := by decide +kernel
theorem dX0_begin_25 : decode cX0_begin 25 = .ok (.if_icmp .ge 17, 3) := by decide +kernel
theorem dX0_begin_28 : decode cX0_begin 28 = .ok (.aload_n 0, 1) := by decide +kernel
theorem dX0_begin_29 : decode cX0_begin 29 = .ok (.invokevirtual 85, 3) := by decide +kernel
theorem dX0_begin_32 : decode cX0_begin 32 = .ok (.iload_n 2, 1) := by decide +kernel
theorem dX0_begin_33 : decode cX0_begin 33 = .ok (.invokestatic 50, 3) := by decide +kernel
theorem dX0_begin_36 : decode cX0_begin 36 = .ok (.iconst (-1), 1) := by decide +kernel
theorem dX0_begin_37 : decode cX0_begin 37 = .ok (.ixor, 1) := by decide +kernel
theorem dX0_begin_38 : decode cX0_begin 38 = .ok (.iand, 1) := by decide +kernel
theorem dX0_begin_39 : decode cX0_begin 39 = .ok (.goto 4, 3) := by decide +kernel
theorem dX0_begin_42 : decode cX0_begin 42 = .ok (.iconst 0, 1) := by decide +kernel
theorem dX0_begin_43 : decode cX0_begin 43 = .ok (.iastore, 1) := by decide +kernel
theorem dX0_begin_44 : decode cX0_begin 44 = .ok (.aload_n 0, 1) := by decide +kernel
theorem dX0_begin_45 : decode cX0_begin 45 = .ok (.getfield 13, 3) := by decide +kernel
theorem dX0_begin_48 : decode cX0_begin 48 = .ok (.iload_n 2, 1) := by decide +kernel
theorem dX0_begin_49 : decode cX0_begin 49 = .ok (.bipush (-6), 2) := by decide +kernel
theorem dX0_begin_51 : decode cX0_begin 51 = .ok (.iastore, 1) := by decide +kernel
theorem dX0_begin_52 : decode cX0_begin 52 = .ok (.iinc 2 1, 3) := by decide +kernel
theorem dX0_begin_55 : decode cX0_begin 55 = .ok (.goto (-43), 3) := by decide +kernel
theorem dX0_begin_58 : decode cX0_begin 58 = .ok (.return_, 1) := by decide +kernel
abbrev rm_X0_begin : Room := { frames := 1, cells := 0, slots := 0, locals := 20 }
set_option maxHeartbeats 4000000 in
set_option maxRecDepth 100000 in
theorem c_X0_begin (N : Nat) (l : Launch) (dC : Nat → ClassId) (dI : Nat → Nat → Nat) (cy : ClassId) (h q2 q3 q4 q5 q6 q7 q8 q9 : Nat) (sz : Nat) (c0 : Int32) (c1 : Int32) (c2 : Nat → Int32) (c3 : Nat → Int32) (c4 : Nat → Int32) (c5 : Nat → Int32) (c6 : Nat → Int32) (c7 : Nat → Int32) (c8 : Nat → Int32) (c9 : Nat → Int32) (c10 : Int32) (c11 : Int32) (a1 : Int32) (res : Int32 × Int32 × (Nat → Int32) × (Nat → Int32)) (hf : f_X0_begin N a1 c0 c1 c2 c3 = some res) : Met l yX0_begin wsX0_begin rm_X0_begin (va_Pc [.ref h, .int a1] (fun U => U.heap.size = sz ∧ va_P (dC, dI) vwCl (wX0 cy h q2 q3 q4 q5 q6 q7 q8 q9 c0 c1 c2 c3 c4 c5 c6 c7 c8 c9 c10 c11) U.heap ∧ va_K (dC, dI) vwCl [(cy, .int)] U ∧ va_D (fun _ => True) (wX0 cy h q2 q3 q4 q5 q6 q7 q8 q9 c0 c1 c2 c3 c4 c5 c6 c7 c8 c9 c10 c11))) (z_qV dC dI cy (wX0 cy h q2 q3 q4 q5 q6 q7 q8 q9 res.1 res.2.1 res.2.2.1 res.2.2.2 c4 c5 c6 c7 c8 c9 c10 c11) (va_A (wX0 cy h q2 q3 q4 q5 q6 q7 q8 q9 c0 c1 c2 c3 c4 c5 c6 c7 c8 c9 c10 c11) sz)) 0 0 (va_A (wX0 cy h q2 q3 q4 q5 q6 q7 q8 q9 c0 c1 c2 c3 c4 c5 c6 c7 c8 c9 c10 c11) sz) := by
  refine Met.ofW (cc := cX0_begin) (maxL := 3) (ret := none) (by decide) rfl ?_
  intro p e s m args below meth c s₁ B hml hv
  obtain ⟨rfl, hsz, hP, hK, hD0⟩ := hv
  have hx := B.exec
  have hb := B.bytes
  have hr := B.returns
  have hts := atoms_spec (ws := wsX0_begin) B.pre
  have hown : s.vm.findClass RX0 = some m.cls := findClass_of_methodNamed B.named
  have hlocks := B.notSynchronized
  subst hsz
  have hD := hD0.self (sz := s.heap.size)
  generalize hAe : va_A (wX0 cy h q2 q3 q4 q5 q6 q7 q8 q9 c0 c1 c2 c3 c4 c5 c6 c7 c8 c9 c10 c11) s.heap.size = A at hD ⊢
  have hA : ∀ q : Nat, s.heap.size ≤ q → A q := fun q h => by rw [← hAe]; exact Or.inr h
  have hS : va_S A s.heap s.heap [] := va_S.rf
  have hP : va_P (dC, dI) vwCl (wX0 cy h q2 q3 q4 q5 q6 q7 q8 q9 c0 c1 c2 c3 c4 c5 c6 c7 c8 c9 c10 c11) s.heap := hP
  have hl := lv_entry ([.ref h, .int a1]) (n := 3) (Nat.le_of_ble_eq_true rfl)
  rw [lg_entry_eq]
  generalize (lg_sl ([.ref h, .int a1]) ++ List.replicate (3 - (lg_sl ([.ref h, .int a1])).length) Slot.unset).toArray = ls at hl ⊢
  have hl : lv_has ls 3 [(0, .ref h), (1, .int a1)] := hl
  have B43 : ∀ (r12 : Int32 → Int32 → Int32 → Int32 → (Nat → Int32) → (Nat → Int32) → Option (Int32 × Int32 × (Nat → Int32) × (Nat → Int32))), (∀ (x1 x2 : Int32) (c0 : Int32) (c1 : Int32) (c2 : Nat → Int32) (c3 : Nat → Int32) (H : Heap) (locs : List Loc) (ls : Array Slot), r12 x1 x2 c0 c1 c2 c3 = some res → va_P (dC, dI) vwCl (wX0 cy h q2 q3 q4 q5 q6 q7 q8 q9 c0 c1 c2 c3 c4 c5 c6 c7 c8 c9 c10 c11) H → va_D A (wX0 cy h q2 q3 q4 q5 q6 q7 q8 q9 c0 c1 c2 c3 c4 c5 c6 c7 c8 c9 c10 c11) → va_S A s.heap H locs → lv_has ls 3 [(0, .ref h), (1, .int x1), (2, .int x2)] → W p l e rm_X0_begin s m ([.ref h, .int a1] : List Value).toArray below meth c H locs 0 0 (MQ below (z_qV dC dI cy (wX0 cy h q2 q3 q4 q5 q6 q7 q8 q9 res.1 res.2.1 res.2.2.1 res.2.2.2 c4 c5 c6 c7 c8 c9 c10 c11) A) ([.ref h, .int a1] : List Value).toArray s 0 0 A) (F0 m 12 ls [])) → ∀ (x1 x2 t1 t2 : Int32) (c0 : Int32) (c1 : Int32) (c2 : Nat → Int32) (c3 : Nat → Int32) (H : Heap) (locs : List Loc) (ls : Array Slot), f_X0_begin_b43 N r12 x1 x2 t1 t2 c0 c1 c2 c3 = some res → va_P (dC, dI) vwCl (wX0 cy h q2 q3 q4 q5 q6 q7 q8 q9 c0 c1 c2 c3 c4 c5 c6 c7 c8 c9 c10 c11) H → va_D A (wX0 cy h q2 q3 q4 q5 q6 q7 q8 q9 c0 c1 c2 c3 c4 c5 c6 c7 c8 c9 c10 c11) → va_S A s.heap H locs → lv_has ls 3 [(0, .ref h), (1, .int x1), (2, .int x2)] → W p l e rm_X0_begin s m ([.ref h, .int a1] : List Value).toArray below meth c H locs 0 0 (MQ below (z_qV dC dI cy (wX0 cy h q2 q3 q4 q5 q6 q7 q8 q9 res.1 res.2.1 res.2.2.1 res.2.2.2 c4 c5 c6 c7 c8 c9 c10 c11) A) ([.ref h, .int a1] : List Value).toArray s 0 0 A) (F0 m 43 ls [.int t2, .int t1, .ref q2]) := by
    clear hf hl hP hD hS
    intro r12 hr12
    intro x1 x2 t1 t2 c0 c1 c2 c3 H locs ls hf hP hD hS hl
    unfold f_X0_begin_b43 at hf
    obtain ⟨hi43, hf⟩ := z_gx_some hf
    refine va_iast hx hb hK hP hD hS 1 0 rfl rfl hi43 dX0_begin_43 (fun H locs hP hD hS => ?_)
    have hP : va_P (dC, dI) vwCl (wX0 cy h q2 q3 q4 q5 q6 q7 q8 q9 c0 c1 (upd c2 (t1).toNatClampNeg t2) c3 c4 c5 c6 c7 c8 c9 c10 c11) H := hP
    have hD : va_D A (wX0 cy h q2 q3 q4 q5 q6 q7 q8 q9 c0 c1 (upd c2 (t1).toNatClampNeg t2) c3 c4 c5 c6 c7 c8 c9 c10 c11) := hD
    refine lv_aload_n hx hb dX0_begin_44 rfl (lv_at hl 0 rfl) ?_
    refine va_get (D := (dC, dI)) (ci := 0) (v := .ref q3) (C := RX0) (T := TX0) (N := 12) hx hb hts (by decide +kernel) hown hK hP 0 rfl rfl 3 (by decide) (hts (.fieldLink RX0 13 "GiftLots" "hand" "[I") (by decide +kernel)) (fun _ h9 => h9) rfl dX0_begin_45 ?_
    refine lv_iload_n hx hb dX0_begin_48 rfl (lv_at hl 2 rfl) ?_
    refine lv_bipush (v := (-6 : Int32)) hx hb dX0_begin_49 (by decide) ?_
    obtain ⟨hi51, hf⟩ := z_gx_some hf
    refine va_iast hx hb hK hP hD hS 2 0 rfl rfl hi51 dX0_begin_51 (fun H locs hP hD hS => ?_)
    have hP : va_P (dC, dI) vwCl (wX0 cy h q2 q3 q4 q5 q6 q7 q8 q9 c0 c1 (upd c2 (t1).toNatClampNeg t2) (upd c3 (x2).toNatClampNeg (-6 : Int32)) c4 c5 c6 c7 c8 c9 c10 c11) H := hP
    have hD : va_D A (wX0 cy h q2 q3 q4 q5 q6 q7 q8 q9 c0 c1 (upd c2 (t1).toNatClampNeg t2) (upd c3 (x2).toNatClampNeg (-6 : Int32)) c4 c5 c6 c7 c8 c9 c10 c11) := hD
    refine lv_iinc (v := x2 + (1 : Int32)) (lv' := [(2, .int (x2 + (1 : Int32))), (0, .ref h), (1, .int x1)]) hx hb dX0_begin_52 hl (k := 2) rfl rfl (by decide) rfl (fun ls hl => ?_)
    refine lv_goto (tgt := 12) hx hb dX0_begin_55 (by decide) ?_
    exact hr12 x1 (x2 + (1 : Int32)) c0 c1 (upd c2 (t1).toNatClampNeg t2) (upd c3 (x2).toNatClampNeg (-6 : Int32)) _ _ _ hf hP hD hS (lv_sub hl [1, 2, 0] rfl)
  have B12 : ∀ n : Nat, ∀ (x1 x2 : Int32) (c0 : Int32) (c1 : Int32) (c2 : Nat → Int32) (c3 : Nat → Int32) (H : Heap) (locs : List Loc) (ls : Array Slot), f_X0_begin_b12 N n x1 x2 c0 c1 c2 c3 = some res → va_P (dC, dI) vwCl (wX0 cy h q2 q3 q4 q5 q6 q7 q8 q9 c0 c1 c2 c3 c4 c5 c6 c7 c8 c9 c10 c11) H → va_D A (wX0 cy h q2 q3 q4 q5 q6 q7 q8 q9 c0 c1 c2 c3 c4 c5 c6 c7 c8 c9 c10 c11) → va_S A s.heap H locs → lv_has ls 3 [(0, .ref h), (1, .int x1), (2, .int x2)] → W p l e rm_X0_begin s m ([.ref h, .int a1] : List Value).toArray below meth c H locs 0 0 (MQ below (z_qV dC dI cy (wX0 cy h q2 q3 q4 q5 q6 q7 q8 q9 res.1 res.2.1 res.2.2.1 res.2.2.2 c4 c5 c6 c7 c8 c9 c10 c11) A) ([.ref h, .int a1] : List Value).toArray s 0 0 A) (F0 m 12 ls []) := by
    clear hf hl hP hD hS
    intro n
    induction n with
    | zero =>
      intro x1 x2 c0 c1 c2 c3 H locs ls hf hP hD hS hl
      rw [f_X0_begin_b12] at hf
      cases hf
    | succ n ih =>
      intro x1 x2 c0 c1 c2 c3 H locs ls hf hP hD hS hl
      rw [f_X0_begin_b12] at hf
      refine lv_iload_n hx hb dX0_begin_12 rfl (lv_at hl 2 rfl) ?_
      refine lv_bipush (v := (8 : Int32)) hx hb dX0_begin_13 (by decide) ?_
      refine lv_icmp_ge (tgt := 58) hx hb dX0_begin_15 (by decide) (fun c_15 => ?_) (fun c_15 => ?_)
      · replace hf := (if_pos c_15).symm.trans hf
        have hres := Option.some.inj hf
        subst hres
        have hP9 := hP.sub (ws' := (wX0 cy h q2 q3 q4 q5 q6 q7 q8 q9 c0 c1 c2 c3 c4 c5 c6 c7 c8 c9 c10 c11)) [0, 1, 2, 3, 4, 5, 6, 7, 8] rfl
        have hD9 := hD.sub (ws' := (wX0 cy h q2 q3 q4 q5 q6 q7 q8 q9 c0 c1 c2 c3 c4 c5 c6 c7 c8 c9 c10 c11)) [0, 1, 2, 3, 4, 5, 6, 7, 8] (by decide) rfl
        have hK9 := hK.sub (tys' := [(cy, .int)]) [0] rfl
        exact W.vret hx hb hr (fun t ht hW => ⟨⟨(), rfl, trivial, by rw [ht]; exact hP9, va_K.moved hW.alike hK9, hD9⟩, hS.F ht⟩) hS.2.2 dX0_begin_58
      · replace hf := (if_neg c_15).symm.trans hf
        refine lv_aload_n hx hb dX0_begin_18 rfl (lv_at hl 0 rfl) ?_
        refine va_get (D := (dC, dI)) (ci := 0) (v := .ref q2) (C := RX0) (T := TX0) (N := 12) hx hb hts (by decide +kernel) hown hK hP 0 rfl rfl 2 (by decide) (hts (.fieldLink RX0 9 "GiftLots" "board" "[I") (by decide +kernel)) (fun _ h9 => h9) rfl dX0_begin_19 ?_
        refine lv_iload_n hx hb dX0_begin_22 rfl (lv_at hl 2 rfl) ?_
        refine lv_iload_n hx hb dX0_begin_23 rfl (lv_at hl 2 rfl) ?_
        refine lv_iload_n hx hb dX0_begin_24 rfl (lv_at hl 1 rfl) ?_
        refine lv_icmp_ge (tgt := 42) hx hb dX0_begin_25 (by decide) (fun c_25 => ?_) (fun c_25 => ?_)
        · replace hf := (if_pos c_25).symm.trans hf
          refine lv_iconst (v := (0 : Int32)) hx hb dX0_begin_42 (by decide) ?_
          exact B43 (f_X0_begin_b12 N n) ih x1 x2 x2 (0 : Int32) c0 c1 c2 c3 _ _ _ hf hP hD hS (lv_sub hl [0, 1, 2] rfl)
        · replace hf := (if_neg c_25).symm.trans hf
          refine lv_aload_n hx hb dX0_begin_28 rfl (lv_at hl 0 rfl) ?_
          obtain ⟨u29, hu29, hf⟩ := z_ob_some hf
          have hPc := hP.sub (ws' := (wX0 cy h q2 q3 q4 q5 q6 q7 q8 q9 c0 c1 c2 c3 c4 c5 c6 c7 c8 c9 c10 c11)) [0, 1, 2, 3, 4, 5, 6, 7, 8] rfl
          have hDc := hD.sub (ws' := (wX0 cy h q2 q3 q4 q5 q6 q7 q8 q9 c0 c1 c2 c3 c4 c5 c6 c7 c8 c9 c10 c11)) [0, 1, 2, 3, 4, 5, 6, 7, 8] (by decide) rfl
          have hKc := hK.sub (tys' := [(cy, .int)]) [0] rfl
          have hFc := va_free (wc := (wX0 cy h q2 q3 q4 q5 q6 q7 q8 q9 c0 c1 c2 c3 c4 c5 c6 c7 c8 c9 c10 c11)) hD hS hA [0, 1, 2, 3, 4, 5, 6, 7, 8] rfl
          refine va_calli (va_runV (As := []) (rest := [.int x2, .ref q2]) ⟨hx, hb, hml, hown, hts⟩ (c_X0_everyone N l dC dI cy h q2 q3 q4 q5 q6 q7 q8 q9 H.size c0 c1 c2 c3 c4 c5 c6 c7 c8 c9 c10 c11 u29 hu29) (cwV 0 hts gX0_begin_X0_everyone rfl rfl rfl (by decide +kernel) ⟨Nat.le_of_ble_eq_true rfl, Nat.le_of_ble_eq_true rfl⟩) ⟨fun a U g mk q => by obtain ⟨q0, q1, qP, qK, qD⟩ := q; exact ⟨q0, q1, qP, va_K.moved (u := U) (U := U.calling g mk a) (Vm.Alike.refl U.vm) qK, qD⟩, va_recv hKc hPc (ci := 0) (q0 := 0) rfl rfl, fun U hU hW => ⟨rfl, by rw [hU], by rw [hU]; exact hPc, va_K.moved hW.alike hKc, hDc.weaken (fun _ _ _ _ => trivial)⟩⟩ rfl rfl hl.1 rfl (lv_room (Nat.le_of_ble_eq_true rfl)) dX0_begin_29 ⟨Nat.zero_le _, Nat.zero_le _⟩) hS (fun q _ h => hFc q h) hFc (fun r_29 uu_ t H1 locs ht hvm hw hB hz1 hk1 hS => ?_)
          replace hw := hw.symm
          subst hw
          obtain ⟨hP1, -, hD1⟩ := hB
          rw [ht] at hP1
          obtain ⟨hP, hD⟩ := va_join (wr := []) (w1 := (wX0 cy h q2 q3 q4 q5 q6 q7 q8 q9 c0 c1 c2 c3 c4 c5 c6 c7 c8 c9 c10 c11)) hP hD [0, 1, 2, 3, 4, 5, 6, 7, 8] [] rfl rfl (by decide) (by decide) hk1 hFc hP1 hD1
          clear hk1 hz1 hP1 hD1 ht hPc hDc hFc
          generalize H1 = H at hP hS ⊢
          have hP : va_P (dC, dI) vwCl (wX0 cy h q2 q3 q4 q5 q6 q7 q8 q9 c0 c1 c2 c3 c4 c5 c6 c7 c8 c9 c10 c11) H := hP
          have hD : va_D A (wX0 cy h q2 q3 q4 q5 q6 q7 q8 q9 c0 c1 c2 c3 c4 c5 c6 c7 c8 c9 c10 c11) := hD
          refine lv_iload_n hx hb dX0_begin_32 rfl (lv_at hl 2 rfl) ?_
          obtain ⟨u33, hu33, hf⟩ := z_ob_some hf
          have hPc := hP.sub (ws' := ([] : va_W)) [] rfl
          have hDc := hD.sub (ws' := ([] : va_W)) [] (by decide) rfl
          have hKc := hK.sub (tys' := [(cy, .int)]) [0] rfl
          have hFc := va_free (wc := ([] : va_W)) hD hS hA [] rfl
          refine va_calli (va_runS (As := [.int x2]) (rest := [.int u29, .int x2, .ref q2]) ⟨hx, hb, hml, hown, hts⟩ (c_X0_bit N l dC dI cy H.size x2 u33 hu33) (va_cwS 1 hts gX0_begin_X0_bit rfl rfl rfl (by decide +kernel) ⟨Nat.le_of_ble_eq_true rfl, Nat.le_of_ble_eq_true rfl⟩) ⟨fun a U g mk q => by obtain ⟨q0, q1, qP, qK, qD⟩ := q; exact ⟨q0, q1, qP, va_K.moved (u := U) (U := U.calling g mk a) (Vm.Alike.refl U.vm) qK, qD⟩, fun U hU hW => ⟨rfl, by rw [hU], by rw [hU]; exact hPc, va_K.moved hW.alike hKc, hDc.weaken (fun _ _ _ _ => trivial)⟩⟩ rfl rfl hl.1 rfl (lv_room (Nat.le_of_ble_eq_true rfl)) dX0_begin_33 ⟨Nat.zero_le _, Nat.zero_le _⟩) hS (fun q _ h => hFc q h) hFc (fun r_33 uu_ t H1 locs ht hvm hw hB hz1 hk1 hS => ?_)
          replace hw := hw.symm
          subst hw
          obtain ⟨hP1, -, hD1⟩ := hB
          rw [ht] at hP1
          obtain ⟨hP, hD⟩ := va_join (wr := (wX0 cy h q2 q3 q4 q5 q6 q7 q8 q9 c0 c1 c2 c3 c4 c5 c6 c7 c8 c9 c10 c11)) (w1 := ([] : va_W)) hP hD [] [0, 1, 2, 3, 4, 5, 6, 7, 8] rfl rfl (by decide) (by decide) hk1 hFc hP1 hD1
          clear hk1 hz1 hP1 hD1 ht hPc hDc hFc
          generalize H1 = H at hP hS ⊢
          have hP : va_P (dC, dI) vwCl (wX0 cy h q2 q3 q4 q5 q6 q7 q8 q9 c0 c1 c2 c3 c4 c5 c6 c7 c8 c9 c10 c11) H := hP
          have hD : va_D A (wX0 cy h q2 q3 q4 q5 q6 q7 q8 q9 c0 c1 c2 c3 c4 c5 c6 c7 c8 c9 c10 c11) := hD
          refine lv_iconst (v := (-1 : Int32)) hx hb dX0_begin_36 (by decide) ?_
          refine lv_ixor hx hb dX0_begin_37 ?_
          refine lv_iand hx hb dX0_begin_38 ?_
          refine lv_goto (tgt := 43) hx hb dX0_begin_39 (by decide) ?_
          exact B43 (f_X0_begin_b12 N n) ih x1 x2 x2 (u29 &&& (u33 ^^^ (-1 : Int32))) c0 c1 c2 c3 _ _ _ hf hP hD hS (lv_sub hl [0, 1, 2] rfl)
  unfold f_X0_begin at hf
  refine lv_aload_n hx hb dX0_begin_0 rfl (lv_at hl 0 rfl) ?_
  refine lv_iload_n hx hb dX0_begin_1 rfl (lv_at hl 1 rfl) ?_
  refine va_put (D := (dC, dI)) (ci := 0) (v := .int a1) (ty := .int) (C := RX0) (T := TX0) (N := 12) hx hb hts (by decide +kernel) tyX0 tyX0_ok nmX0 hown hK hP hD hS 0 rfl rfl 0 (by decide) (hts (.fieldLink RX0 38 "GiftLots" "count" "I") (by decide +kernel)) (fun _ h9 => h9) rfl (by decide +kernel) rfl rfl (Nat.le_of_ble_eq_true rfl) dX0_begin_2 (fun H locs hP hD hS => ?_)
  have hP : va_P (dC, dI) vwCl (wX0 cy h q2 q3 q4 q5 q6 q7 q8 q9 a1 c1 c2 c3 c4 c5 c6 c7 c8 c9 c10 c11) H := hP
  have hD : va_D A (wX0 cy h q2 q3 q4 q5 q6 q7 q8 q9 a1 c1 c2 c3 c4 c5 c6 c7 c8 c9 c10 c11) := hD
  refine lv_aload_n hx hb dX0_begin_5 rfl (lv_at hl 0 rfl) ?_
  refine lv_iconst (v := (2 : Int32)) hx hb dX0_begin_6 (by decide) ?_
  refine va_put (D := (dC, dI)) (ci := 0) (v := .int (2 : Int32)) (ty := .int) (C := RX0) (T := TX0) (N := 12) hx hb hts (by decide +kernel) tyX0 tyX0_ok nmX0 hown hK hP hD hS 0 rfl rfl 1 (by decide) (hts (.fieldLink RX0 57 "GiftLots" "shortest" "I") (by decide +kernel)) (fun _ h9 => h9) rfl (by decide +kernel) rfl rfl (Nat.le_of_ble_eq_true rfl) dX0_begin_7 (fun H locs hP hD hS => ?_)
  have hP : va_P (dC, dI) vwCl (wX0 cy h q2 q3 q4 q5 q6 q7 q8 q9 a1 (2 : Int32) c2 c3 c4 c5 c6 c7 c8 c9 c10 c11) H := hP
  have hD : va_D A (wX0 cy h q2 q3 q4 q5 q6 q7 q8 q9 a1 (2 : Int32) c2 c3 c4 c5 c6 c7 c8 c9 c10 c11) := hD
  refine lv_iconst (v := (0 : Int32)) hx hb dX0_begin_10 (by decide) ?_
  refine lv_istore_n (lv' := [(2, .int (0 : Int32)), (0, .ref h), (1, .int a1)]) hx hb dX0_begin_11 rfl hl (by decide) rfl (fun ls hl => ?_)
  exact B12 N a1 (0 : Int32) a1 (2 : Int32) c2 c3 _ _ _ hf hP hD hS (lv_sub hl [1, 2, 0] rfl)

def f_X1_begin_b7 (N : Nat) (c0 : Int32) : Nat → Int32 → Int32 → (Nat → Int32) → (Nat → Int32) → Option (Int32 × (Nat → Int32) × (Nat → Int32))
  | 0, _, _, _, _ => none
  | n + 1, x1, c1, c2, c3 => (if (8 : Int32) ≤ x1 then some (c1, c2, c3) else z_gx x1 8 (z_gx x1 8 (f_X1_begin_b7 N c0 n (x1 + (1 : Int32)) c1 (upd c2 (x1).toNatClampNeg ((((1 : Int32) <<< (c0 &&& 31)) - (1 : Int32)) &&& (((1 : Int32) <<< (x1 &&& 31)) ^^^ (-1 : Int32)))) (upd c3 (x1).toNatClampNeg (-6 : Int32)))))
def f_X1_begin (N : Nat) (c0 : Int32) (c1 : Int32) (c2 : Nat → Int32) (c3 : Nat → Int32) : Option (Int32 × (Nat → Int32) × (Nat → Int32)) := f_X1_begin_b7 N c0 N (0 : Int32) (2 : Int32) c2 c3
theorem dX1_begin_0 : decode cX1_begin 0 = .ok (.aload_n 0, 1) := by decide +kernel
theorem dX1_begin_1 : decode cX1_begin 1 = .ok (.iconst 2, 1) := by decide +kernel
theorem dX1_begin_2 : decode cX1_begin 2 = .ok (.putfield 13, 3) := by decide +kernel
theorem dX1_begin_5 : decode cX1_begin 5 = .ok (.iconst 0, 1) := by decide +kernel
theorem dX1_begin_6 : decode cX1_begin 6 = .ok (.istore_n 1, 1) := by decide +kernel
theorem dX1_begin_7 : decode cX1_begin 7 = .ok (.iload_n 1, 1) := by decide +kernel
theorem dX1_begin_8 : decode cX1_begin 8 = .ok (.bipush 8, 2) := by decide +kernel
theorem dX1_begin_10 : decode cX1_begin 10 = .ok (.if_icmp .ge 37, 3) := by decide +kernel
theorem dX1_begin_13 : decode cX1_begin 13 = .ok (.aload_n 0, 1) := by decide +kernel
theorem dX1_begin_14 : decode cX1_begin 14 = .ok (.getfield 16, 3) := by decide +kernel
theorem dX1_begin_17 : decode cX1_begin 17 = .ok (.iload_n 1, 1) := by decide +kernel
theorem dX1_begin_18 : decode cX1_begin 18 = .ok (.iconst 1, 1) := by decide +kernel
theorem dX1_begin_19 : decode cX1_begin 19 = .ok (.aload_n 0, 1) := by decide +kernel
theorem dX1_begin_20 : decode cX1_begin 20 = .ok (.getfield 7, 3) := by decide +kernel
theorem dX1_begin_23 : decode cX1_begin 23 = .ok (.ishl, 1) := by decide +kernel
theorem dX1_begin_24 : decode cX1_begin 24 = .ok (.iconst 1, 1) := by decide +kernel
theorem dX1_begin_25 : decode cX1_begin 25 = .ok (.isub, 1) := by decide +kernel
theorem dX1_begin_26 : decode cX1_begin 26 = .ok (.iconst 1, 1) := by decide +kernel
theorem dX1_begin_27 : decode cX1_begin 27 = .ok (.iload_n 1, 1) := by decide +kernel
theorem dX1_begin_28 : decode cX1_begin 28 = .ok (.ishl, 1) := by decide +kernel
theorem dX1_begin_29 : decode cX1_begin 29 = .ok (.iconst (-1), 1) := by decide +kernel
theorem dX1_begin_30 : decode cX1_begin 30 = .ok (.ixor, 1) := by decide +kernel
theorem dX1_begin_31 : decode cX1_begin 31 = .ok (.iand, 1) := by decide +kernel
theorem dX1_begin_32 : decode cX1_begin 32 = .ok (.iastore, 1) := by decide +kernel
theorem dX1_begin_33 : decode cX1_begin 33 = .ok (.aload_n 0, 1) := by decide +kernel
theorem dX1_begin_34 : decode cX1_begin 34 = .ok (.getfield 20, 3) := by decide +kernel
theorem dX1_begin_37 : decode cX1_begin 37 = .ok (.iload_n 1, 1) := by decide +kernel
theorem dX1_begin_38 : decode cX1_begin 38 = .ok (.bipush (-6), 2) := by decide +kernel
theorem dX1_begin_40 : decode cX1_begin 40 = .ok (.iastore, 1) := by decide +kernel
theorem dX1_begin_41 : decode cX1_begin 41 = .ok (.iinc 1 1, 3) := by decide +kernel
theorem dX1_begin_44 : decode cX1_begin 44 = .ok (.goto (-37), 3) := by decide +kernel
theorem dX1_begin_47 : decode cX1_begin 47 = .ok (.return_, 1) := by decide +kernel
abbrev rm_X1_begin : Room := { frames := 0, cells := 0, slots := 0, locals := 0 }
set_option maxHeartbeats 4000000 in
set_option maxRecDepth 100000 in
theorem c_X1_begin (N : Nat) (l : Launch) (dC : Nat → ClassId) (dI : Nat → Nat → Nat) (cy : ClassId) (h q2 q3 q6 q7 q10 : Nat) (sz : Nat) (c0 : Int32) (c1 : Int32) (c2 : Nat → Int32) (c3 : Nat → Int32) (c4 : Int32) (c5 : Int32) (c6 : Nat → Int32) (c7 : Nat → Int32) (c8 : Int32) (c9 : Int32) (c10 : Nat → Int32) (res : Int32 × (Nat → Int32) × (Nat → Int32)) (hf : f_X1_begin N c0 c1 c2 c3 = some res) : Met l yX1_begin wsX1_begin rm_X1_begin (va_Pc [.ref h] (fun U => U.heap.size = sz ∧ va_P (dC, dI) vwCl (wX1 cy h q2 q3 q6 q7 q10 c0 c1 c2 c3 c4 c5 c6 c7 c8 c9 c10) U.heap ∧ va_K (dC, dI) vwCl [(cy, .int)] U ∧ va_D (fun _ => True) (wX1 cy h q2 q3 q6 q7 q10 c0 c1 c2 c3 c4 c5 c6 c7 c8 c9 c10))) (z_qV dC dI cy (wX1 cy h q2 q3 q6 q7 q10 c0 res.1 res.2.1 res.2.2 c4 c5 c6 c7 c8 c9 c10) (va_A (wX1 cy h q2 q3 q6 q7 q10 c0 c1 c2 c3 c4 c5 c6 c7 c8 c9 c10) sz)) 0 0 (va_A (wX1 cy h q2 q3 q6 q7 q10 c0 c1 c2 c3 c4 c5 c6 c7 c8 c9 c10) sz) := by
  refine Met.ofW (cc := cX1_begin) (maxL := 2) (ret := none) (by decide) rfl ?_
  intro p e s m args below meth c s₁ B hml hv
  obtain ⟨rfl, hsz, hP, hK, hD0⟩ := hv
  have hx := B.exec
  have hb := B.bytes
  have hr := B.returns
  have hts := atoms_spec (ws := wsX1_begin) B.pre
  have hown : s.vm.findClass RX1 = some m.cls := findClass_of_methodNamed B.named
  have hlocks := B.notSynchronized
  subst hsz
  have hD := hD0.self (sz := s.heap.size)
  generalize hAe : va_A (wX1 cy h q2 q3 q6 q7 q10 c0 c1 c2 c3 c4 c5 c6 c7 c8 c9 c10) s.heap.size = A at hD ⊢
  have hA : ∀ q : Nat, s.heap.size ≤ q → A q := fun q h => by rw [← hAe]; exact Or.inr h
  have hS : va_S A s.heap s.heap [] := va_S.rf
  have hP : va_P (dC, dI) vwCl (wX1 cy h q2 q3 q6 q7 q10 c0 c1 c2 c3 c4 c5 c6 c7 c8 c9 c10) s.heap := hP
  have hl := lv_entry ([.ref h]) (n := 2) (Nat.le_of_ble_eq_true rfl)
  rw [lg_entry_eq]
  generalize (lg_sl ([.ref h]) ++ List.replicate (2 - (lg_sl ([.ref h])).length) Slot.unset).toArray = ls at hl ⊢
  have hl : lv_has ls 2 [(0, .ref h)] := hl
  have B7 : ∀ n : Nat, ∀ (x1 : Int32) (c1 : Int32) (c2 : Nat → Int32) (c3 : Nat → Int32) (H : Heap) (locs : List Loc) (ls : Array Slot), f_X1_begin_b7 N c0 n x1 c1 c2 c3 = some res → va_P (dC, dI) vwCl (wX1 cy h q2 q3 q6 q7 q10 c0 c1 c2 c3 c4 c5 c6 c7 c8 c9 c10) H → va_D A (wX1 cy h q2 q3 q6 q7 q10 c0 c1 c2 c3 c4 c5 c6 c7 c8 c9 c10) → va_S A s.heap H locs → lv_has ls 2 [(0, .ref h), (1, .int x1)] → W p l e rm_X1_begin s m ([.ref h] : List Value).toArray below meth c H locs 0 0 (MQ below (z_qV dC dI cy (wX1 cy h q2 q3 q6 q7 q10 c0 res.1 res.2.1 res.2.2 c4 c5 c6 c7 c8 c9 c10) A) ([.ref h] : List Value).toArray s 0 0 A) (F0 m 7 ls []) := by
    clear hf hl hP hD hS
    intro n
    induction n with
    | zero =>
      intro x1 c1 c2 c3 H locs ls hf hP hD hS hl
      rw [f_X1_begin_b7] at hf
      cases hf
    | succ n ih =>
      intro x1 c1 c2 c3 H locs ls hf hP hD hS hl
      rw [f_X1_begin_b7] at hf
      refine lv_iload_n hx hb dX1_begin_7 rfl (lv_at hl 1 rfl) ?_
      refine lv_bipush (v := (8 : Int32)) hx hb dX1_begin_8 (by decide) ?_
      refine lv_icmp_ge (tgt := 47) hx hb dX1_begin_10 (by decide) (fun c_10 => ?_) (fun c_10 => ?_)
      · replace hf := (if_pos c_10).symm.trans hf
        have hres := Option.some.inj hf
        subst hres
        have hP9 := hP.sub (ws' := (wX1 cy h q2 q3 q6 q7 q10 c0 c1 c2 c3 c4 c5 c6 c7 c8 c9 c10)) [0, 1, 2, 3, 4, 5] rfl
        have hD9 := hD.sub (ws' := (wX1 cy h q2 q3 q6 q7 q10 c0 c1 c2 c3 c4 c5 c6 c7 c8 c9 c10)) [0, 1, 2, 3, 4, 5] (by decide) rfl
        have hK9 := hK.sub (tys' := [(cy, .int)]) [0] rfl
        exact W.vret hx hb hr (fun t ht hW => ⟨⟨(), rfl, trivial, by rw [ht]; exact hP9, va_K.moved hW.alike hK9, hD9⟩, hS.F ht⟩) hS.2.2 dX1_begin_47
      · replace hf := (if_neg c_10).symm.trans hf
        refine lv_aload_n hx hb dX1_begin_13 rfl (lv_at hl 0 rfl) ?_
        refine va_get (D := (dC, dI)) (ci := 1) (v := .ref q2) (C := RX1) (T := TX1) (N := 11) hx hb hts (by decide +kernel) hown hK hP 0 rfl rfl 2 (by decide) (hts (.fieldLink RX1 16 "GiftLotsModel" "may" "[I") (by decide +kernel)) (fun _ h9 => h9) rfl dX1_begin_14 ?_
        refine lv_iload_n hx hb dX1_begin_17 rfl (lv_at hl 1 rfl) ?_
        refine lv_iconst (v := (1 : Int32)) hx hb dX1_begin_18 (by decide) ?_
        refine lv_aload_n hx hb dX1_begin_19 rfl (lv_at hl 0 rfl) ?_
        refine va_get (D := (dC, dI)) (ci := 1) (v := .int c0) (C := RX1) (T := TX1) (N := 11) hx hb hts (by decide +kernel) hown hK hP 0 rfl rfl 0 (by decide) (hts (.fieldLink RX1 7 "GiftLotsModel" "ones" "I") (by decide +kernel)) (fun _ h9 => h9) rfl dX1_begin_20 ?_
        refine lv_ishl hx hb dX1_begin_23 ?_
        refine lv_iconst (v := (1 : Int32)) hx hb dX1_begin_24 (by decide) ?_
        refine lv_isub hx hb dX1_begin_25 ?_
        refine lv_iconst (v := (1 : Int32)) hx hb dX1_begin_26 (by decide) ?_
        refine lv_iload_n hx hb dX1_begin_27 rfl (lv_at hl 1 rfl) ?_
        refine lv_ishl hx hb dX1_begin_28 ?_
        refine lv_iconst (v := (-1 : Int32)) hx hb dX1_begin_29 (by decide) ?_
        refine lv_ixor hx hb dX1_begin_30 ?_
        refine lv_iand hx hb dX1_begin_31 ?_
        obtain ⟨hi32, hf⟩ := z_gx_some hf
        refine va_iast hx hb hK hP hD hS 1 0 rfl rfl hi32 dX1_begin_32 (fun H locs hP hD hS => ?_)
        have hP : va_P (dC, dI) vwCl (wX1 cy h q2 q3 q6 q7 q10 c0 c1 (upd c2 (x1).toNatClampNeg ((((1 : Int32) <<< (c0 &&& 31)) - (1 : Int32)) &&& (((1 : Int32) <<< (x1 &&& 31)) ^^^ (-1 : Int32)))) c3 c4 c5 c6 c7 c8 c9 c10) H := hP
        have hD : va_D A (wX1 cy h q2 q3 q6 q7 q10 c0 c1 (upd c2 (x1).toNatClampNeg ((((1 : Int32) <<< (c0 &&& 31)) - (1 : Int32)) &&& (((1 : Int32) <<< (x1 &&& 31)) ^^^ (-1 : Int32)))) c3 c4 c5 c6 c7 c8 c9 c10) := hD
        refine lv_aload_n hx hb dX1_begin_33 rfl (lv_at hl 0 rfl) ?_
        refine va_get (D := (dC, dI)) (ci := 1) (v := .ref q3) (C := RX1) (T := TX1) (N := 11) hx hb hts (by decide +kernel) hown hK hP 0 rfl rfl 3 (by decide) (hts (.fieldLink RX1 20 "GiftLotsModel" "hand" "[I") (by decide +kernel)) (fun _ h9 => h9) rfl dX1_begin_34 ?_
        refine lv_iload_n hx hb dX1_begin_37 rfl (lv_at hl 1 rfl) ?_
        refine lv_bipush (v := (-6 : Int32)) hx hb dX1_begin_38 (by decide) ?_
        obtain ⟨hi40, hf⟩ := z_gx_some hf
        refine va_iast hx hb hK hP hD hS 2 0 rfl rfl hi40 dX1_begin_40 (fun H locs hP hD hS => ?_)
        have hP : va_P (dC, dI) vwCl (wX1 cy h q2 q3 q6 q7 q10 c0 c1 (upd c2 (x1).toNatClampNeg ((((1 : Int32) <<< (c0 &&& 31)) - (1 : Int32)) &&& (((1 : Int32) <<< (x1 &&& 31)) ^^^ (-1 : Int32)))) (upd c3 (x1).toNatClampNeg (-6 : Int32)) c4 c5 c6 c7 c8 c9 c10) H := hP
        have hD : va_D A (wX1 cy h q2 q3 q6 q7 q10 c0 c1 (upd c2 (x1).toNatClampNeg ((((1 : Int32) <<< (c0 &&& 31)) - (1 : Int32)) &&& (((1 : Int32) <<< (x1 &&& 31)) ^^^ (-1 : Int32)))) (upd c3 (x1).toNatClampNeg (-6 : Int32)) c4 c5 c6 c7 c8 c9 c10) := hD
        refine lv_iinc (v := x1 + (1 : Int32)) (lv' := [(1, .int (x1 + (1 : Int32))), (0, .ref h)]) hx hb dX1_begin_41 hl (k := 1) rfl rfl (by decide) rfl (fun ls hl => ?_)
        refine lv_goto (tgt := 7) hx hb dX1_begin_44 (by decide) ?_
        exact ih (x1 + (1 : Int32)) c1 (upd c2 (x1).toNatClampNeg ((((1 : Int32) <<< (c0 &&& 31)) - (1 : Int32)) &&& (((1 : Int32) <<< (x1 &&& 31)) ^^^ (-1 : Int32)))) (upd c3 (x1).toNatClampNeg (-6 : Int32)) _ _ _ hf hP hD hS (lv_sub hl [1, 0] rfl)
  unfold f_X1_begin at hf
  refine lv_aload_n hx hb dX1_begin_0 rfl (lv_at hl 0 rfl) ?_
  refine lv_iconst (v := (2 : Int32)) hx hb dX1_begin_1 (by decide) ?_
  refine va_put (D := (dC, dI)) (ci := 1) (v := .int (2 : Int32)) (ty := .int) (C := RX1) (T := TX1) (N := 11) hx hb hts (by decide +kernel) tyX1 tyX1_ok nmX1 hown hK hP hD hS 0 rfl rfl 1 (by decide) (hts (.fieldLink RX1 13 "GiftLotsModel" "least" "I") (by decide +kernel)) (fun _ h9 => h9) rfl (by decide +kernel) rfl rfl (Nat.le_of_ble_eq_true rfl) dX1_begin_2 (fun H locs hP hD hS => ?_)
  have hP : va_P (dC, dI) vwCl (wX1 cy h q2 q3 q6 q7 q10 c0 (2 : Int32) c2 c3 c4 c5 c6 c7 c8 c9 c10) H := hP
  have hD : va_D A (wX1 cy h q2 q3 q6 q7 q10 c0 (2 : Int32) c2 c3 c4 c5 c6 c7 c8 c9 c10) := hD
  refine lv_iconst (v := (0 : Int32)) hx hb dX1_begin_5 (by decide) ?_
  refine lv_istore_n (lv' := [(1, .int (0 : Int32)), (0, .ref h)]) hx hb dX1_begin_6 rfl hl (by decide) rfl (fun ls hl => ?_)
  exact B7 N (0 : Int32) (2 : Int32) c2 c3 _ _ _ hf hP hD hS (lv_sub hl [1, 0] rfl)

set_option maxRecDepth 20000 in
theorem ggX0_init_X0_begin : GoodIn wsX0_init wsX0_begin := goodIn_r _ [17, 18, 19, 5, 6, 20, 21, 22, 16, 23, 24, 25, 26, 27, 28, 29, 30, 31, 32, 33, 34, 35, 36, 37, 38] (by decide +kernel) (by decide +kernel)
set_option maxRecDepth 20000 in
theorem gX0_init_X0_begin : GoodIn wsX0_init (wsV RX0 34 RX0 yX0_begin wsX0_begin) := goodIn_app (goodIn_of _ (by decide +kernel)) ggX0_init_X0_begin
theorem dX0_init_0 : decode cX0_init 0 = .ok (.aload_n 0, 1) := by decide +kernel
theorem dX0_init_1 : decode cX0_init 1 = .ok (.invokespecial 3, 3) := by decide +kernel
theorem dX0_init_4 : decode cX0_init 4 = .ok (.aload_n 0, 1) := by decide +kernel
theorem dX0_init_5 : decode cX0_init 5 = .ok (.bipush 8, 2) := by decide +kernel
theorem dX0_init_7 : decode cX0_init 7 = .ok (.newarray .int, 2) := by decide +kernel
theorem dX0_init_9 : decode cX0_init 9 = .ok (.putfield 9, 3) := by decide +kernel
theorem dX0_init_12 : decode cX0_init 12 = .ok (.aload_n 0, 1) := by decide +kernel
theorem dX0_init_13 : decode cX0_init 13 = .ok (.bipush 8, 2) := by decide +kernel
theorem dX0_init_15 : decode cX0_init 15 = .ok (.newarray .int, 2) := by decide +kernel
theorem dX0_init_17 : decode cX0_init 17 = .ok (.putfield 13, 3) := by decide +kernel
theorem dX0_init_20 : decode cX0_init 20 = .ok (.aload_n 0, 1) := by decide +kernel
theorem dX0_init_21 : decode cX0_init 21 = .ok (.bipush 8, 2) := by decide +kernel
theorem dX0_init_23 : decode cX0_init 23 = .ok (.newarray .int, 2) := by decide +kernel
theorem dX0_init_25 : decode cX0_init 25 = .ok (.putfield 16, 3) := by decide +kernel
theorem dX0_init_28 : decode cX0_init 28 = .ok (.aload_n 0, 1) := by decide +kernel
theorem dX0_init_29 : decode cX0_init 29 = .ok (.sipush 2048, 3) := by decide +kernel
theorem dX0_init_32 : decode cX0_init 32 = .ok (.newarray .int, 2) := by decide +kernel
theorem dX0_init_34 : decode cX0_init 34 = .ok (.putfield 19, 3) := by decide +kernel
theorem dX0_init_37 : decode cX0_init 37 = .ok (.aload_n 0, 1) := by decide +kernel
theorem dX0_init_38 : decode cX0_init 38 = .ok (.sipush 256, 3) := by decide +kernel
theorem dX0_init_41 : decode cX0_init 41 = .ok (.newarray .int, 2) := by decide +kernel
theorem dX0_init_43 : decode cX0_init 43 = .ok (.putfield 22, 3) := by decide +kernel
theorem dX0_init_46 : decode cX0_init 46 = .ok (.aload_n 0, 1) := by decide +kernel
theorem dX0_init_47 : decode cX0_init 47 = .ok (.sipush 256, 3) := by decide +kernel
theorem dX0_init_50 : decode cX0_init 50 = .ok (.newarray .int, 2) := by decide +kernel
theorem dX0_init_52 : decode cX0_init 52 = .ok (.putfield 25, 3) := by decide +kernel
theorem dX0_init_55 : decode cX0_init 55 = .ok (.aload_n 0, 1) := by decide +kernel
theorem dX0_init_56 : decode cX0_init 56 = .ok (.bipush 8, 2) := by decide +kernel
theorem dX0_init_58 : decode cX0_init 58 = .ok (.newarray .int, 2) := by decide +kernel
theorem dX0_init_60 : decode cX0_init 60 = .ok (.putfield 28, 3) := by decide +kernel
theorem dX0_init_63 : decode cX0_init 63 = .ok (.aload_n 0, 1) := by decide +kernel
theorem dX0_init_64 : decode cX0_init 64 = .ok (.bipush 8, 2) := by decide +kernel
theorem dX0_init_66 : decode cX0_init 66 = .ok (.newarray .int, 2) := by decide +kernel
theorem dX0_init_68 : decode cX0_init 68 = .ok (.putfield 31, 3) := by decide +kernel
theorem dX0_init_71 : decode cX0_init 71 = .ok (.aload_n 0, 1) := by decide +kernel
theorem dX0_init_72 : decode cX0_init 72 = .ok (.iconst 4, 1) := by decide +kernel
theorem dX0_init_73 : decode cX0_init 73 = .ok (.invokevirtual 34, 3) := by decide +kernel
theorem dX0_init_76 : decode cX0_init 76 = .ok (.return_, 1) := by decide +kernel
abbrev rm_X0_init : Room := { frames := 2, cells := 8, slots := 2600, locals := 42 }
set_option maxHeartbeats 4000000 in
set_option maxRecDepth 100000 in
theorem c_X0_init (N : Nat) (l : Launch) (dC : Nat → ClassId) (dI : Nat → Nat → Nat) (h : Nat) (sz : Nat) (res : Int32 × Int32 × (Nat → Int32) × (Nat → Int32)) (hf : f_X0_begin N 4 0 0 (fun _ => 0) (fun _ => 0) = some res) : Met l yX0_init wsX0_init rm_X0_init (va_Pc [.ref h] (fun U => U.heap.size = sz ∧ va_P (dC, dI) vwCl [(h, .inr (0, [.int 0, .int 0, .null, .null, .null, .null, .null, .null, .null, .null, .int 0, .int 0]))] U.heap ∧ va_K (dC, dI) vwCl [] U ∧ va_D (fun _ => True) [(h, .inr (0, [.int 0, .int 0, .null, .null, .null, .null, .null, .null, .null, .null, .int 0, .int 0]))])) (va_Qv (fun (_ : Unit) => True) (fun _ t => ∃ (cy : ClassId) (q2 q3 q4 q5 q6 q7 q8 q9 : Nat), va_P (dC, dI) vwCl (wX0 cy h q2 q3 q4 q5 q6 q7 q8 q9 res.1 res.2.1 res.2.2.1 res.2.2.2 (fun _ => 0) (fun _ => 0) (fun _ => 0) (fun _ => 0) (fun _ => 0) (fun _ => 0) 0 0) t.heap ∧ va_K (dC, dI) vwCl [(cy, .int)] t ∧ va_D (va_A [(h, .inr (0, [.int 0, .int 0, .null, .null, .null, .null, .null, .null, .null, .null, .int 0, .int 0]))] sz) (wX0 cy h q2 q3 q4 q5 q6 q7 q8 q9 res.1 res.2.1 res.2.2.1 res.2.2.2 (fun _ => 0) (fun _ => 0) (fun _ => 0) (fun _ => 0) (fun _ => 0) (fun _ => 0) 0 0)) (va_A [(h, .inr (0, [.int 0, .int 0, .null, .null, .null, .null, .null, .null, .null, .null, .int 0, .int 0]))] sz)) 8 2600 (va_A [(h, .inr (0, [.int 0, .int 0, .null, .null, .null, .null, .null, .null, .null, .null, .int 0, .int 0]))] sz) := by
  refine Met.ofW (cc := cX0_init) (maxL := 1) (ret := none) (by decide) rfl ?_
  intro p e s m args below meth c s₁ B hml hv
  obtain ⟨rfl, hsz, hP, hK, hD0⟩ := hv
  have hx := B.exec
  have hb := B.bytes
  have hr := B.returns
  have hts := atoms_spec (ws := wsX0_init) B.pre
  have hown : s.vm.findClass RX0 = some m.cls := findClass_of_methodNamed B.named
  have hlocks := B.notSynchronized
  have hin : meth.name = "<init>" := (name_of_methodNamed B.named B.method).1
  subst hsz
  have hD := hD0.self (sz := s.heap.size)
  generalize hAe : va_A [(h, .inr (0, [.int 0, .int 0, .null, .null, .null, .null, .null, .null, .null, .null, .int 0, .int 0]))] s.heap.size = A at hD ⊢
  have hA : ∀ q : Nat, s.heap.size ≤ q → A q := fun q h => by rw [← hAe]; exact Or.inr h
  have hS : va_S A s.heap s.heap [] := va_S.rf
  have hP : va_P (dC, dI) vwCl [(h, .inr (0, [.int 0, .int 0, .null, .null, .null, .null, .null, .null, .null, .null, .int 0, .int 0]))] s.heap := hP
  have hl := lv_entry ([.ref h]) (n := 1) (Nat.le_of_ble_eq_true rfl)
  rw [lg_entry_eq]
  generalize (lg_sl ([.ref h]) ++ List.replicate (1 - (lg_sl ([.ref h])).length) Slot.unset).toArray = ls at hl ⊢
  have hl : lv_has ls 1 [(0, .ref h)] := hl
  refine lv_aload_n hx hb dX0_init_0 rfl (lv_at hl 0 rfl) ?_
  refine W.objInit hx hb hown (hts (.methodLink RX0 3 objectInit) (by decide +kernel)) (hts (.instanceMethod objectInit) (by decide +kernel)) (hts (.code objectInit ⟨#[0xb1]⟩ 1 none) (by decide +kernel)) rfl (by rw [hml]; exact hl.1) rfl dX0_init_1 (Nat.le_of_ble_eq_true rfl) (Nat.le_of_ble_eq_true rfl) ?_
  refine W.eq (g2 := F0 m 4 ls []) rfl ?_
  refine lv_aload_n hx hb dX0_init_4 rfl (lv_at hl 0 rfl) ?_
  refine lv_bipush (v := (8 : Int32)) hx hb dX0_init_5 (by decide) ?_
  refine va_newa (atype := .int) (ty := .int) (N' := 8) (a0 := (8, .inl (fun _ => 0))) hx hb (hts (.arrayClass .int) (by decide +kernel)) rfl hK hP hD hS hA (fun _ => rfl) (by decide) rfl (by decide) (Nat.le_of_ble_eq_true rfl) (Nat.le_of_ble_eq_true rfl) dX0_init_7 (fun q2 cy H hK hP hD hS => ?_)
  have hK : va_K (dC, dI) vwCl [(cy, .int)] s := hK
  have hP : va_P (dC, dI) vwCl [(h, .inr (0, [.int 0, .int 0, .null, .null, .null, .null, .null, .null, .null, .null, .int 0, .int 0])), (q2, .inl (cy, 8, .inl (fun _ => 0)))] H := hP
  have hD : va_D A [(h, .inr (0, [.int 0, .int 0, .null, .null, .null, .null, .null, .null, .null, .null, .int 0, .int 0])), (q2, .inl (cy, 8, .inl (fun _ => 0)))] := hD
  refine va_putF (D := (dC, dI)) (ci := 0) (v := .ref q2) (ty := (.array .int)) (C := RX0) (T := TX0) (N := 12) hx hb hts (by decide +kernel) tyX0 tyX0_ok nmX0 hown hK hP hD hS 0 rfl rfl 2 (by decide) (hts (.fieldLink RX0 9 "GiftLots" "board" "[I") (by decide +kernel)) (fun _ h9 => h9) rfl hin rfl (by decide +kernel) rfl rfl (Nat.le_of_ble_eq_true rfl) dX0_init_9 (fun H locs hP hD hS => ?_)
  have hP : va_P (dC, dI) vwCl [(h, .inr (0, [.int 0, .int 0, .ref q2, .null, .null, .null, .null, .null, .null, .null, .int 0, .int 0])), (q2, .inl (cy, 8, .inl (fun _ => 0)))] H := hP
  have hD : va_D A [(h, .inr (0, [.int 0, .int 0, .ref q2, .null, .null, .null, .null, .null, .null, .null, .int 0, .int 0])), (q2, .inl (cy, 8, .inl (fun _ => 0)))] := hD
  refine lv_aload_n hx hb dX0_init_12 rfl (lv_at hl 0 rfl) ?_
  refine lv_bipush (v := (8 : Int32)) hx hb dX0_init_13 (by decide) ?_
  refine va_newa (atype := .int) (ty := .int) (N' := 8) (a0 := (8, .inl (fun _ => 0))) hx hb (hts (.arrayClass .int) (by decide +kernel)) rfl hK hP hD hS hA (fun _ => rfl) (by decide) rfl (by decide) (Nat.le_of_ble_eq_true rfl) (Nat.le_of_ble_eq_true rfl) dX0_init_15 (fun q3 cy3 H hK hP hD hS => ?_)
  obtain rfl : cy = cy3 := by
    have e1 : s.vm.findClass ("[" ++ FieldType.int.toString) = some cy := (hK.2 0 _ rfl).2
    have e2 : s.vm.findClass ("[" ++ FieldType.int.toString) = some cy3 := (hK.2 1 _ rfl).2
    exact Option.some.inj (e1.symm.trans e2)
  have hK := hK.sub (tys' := [(cy, .int)]) [0] rfl
  have hP : va_P (dC, dI) vwCl [(h, .inr (0, [.int 0, .int 0, .ref q2, .null, .null, .null, .null, .null, .null, .null, .int 0, .int 0])), (q2, .inl (cy, 8, .inl (fun _ => 0))), (q3, .inl (cy, 8, .inl (fun _ => 0)))] H := hP
  have hD : va_D A [(h, .inr (0, [.int 0, .int 0, .ref q2, .null, .null, .null, .null, .null, .null, .null, .int 0, .int 0])), (q2, .inl (cy, 8, .inl (fun _ => 0))), (q3, .inl (cy, 8, .inl (fun _ => 0)))] := hD
  refine va_putF (D := (dC, dI)) (ci := 0) (v := .ref q3) (ty := (.array .int)) (C := RX0) (T := TX0) (N := 12) hx hb hts (by decide +kernel) tyX0 tyX0_ok nmX0 hown hK hP hD hS 0 rfl rfl 3 (by decide) (hts (.fieldLink RX0 13 "GiftLots" "hand" "[I") (by decide +kernel)) (fun _ h9 => h9) rfl hin rfl (by decide +kernel) rfl rfl (Nat.le_of_ble_eq_true rfl) dX0_init_17 (fun H locs hP hD hS => ?_)
  have hP : va_P (dC, dI) vwCl [(h, .inr (0, [.int 0, .int 0, .ref q2, .ref q3, .null, .null, .null, .null, .null, .null, .int 0, .int 0])), (q2, .inl (cy, 8, .inl (fun _ => 0))), (q3, .inl (cy, 8, .inl (fun _ => 0)))] H := hP
  have hD : va_D A [(h, .inr (0, [.int 0, .int 0, .ref q2, .ref q3, .null, .null, .null, .null, .null, .null, .int 0, .int 0])), (q2, .inl (cy, 8, .inl (fun _ => 0))), (q3, .inl (cy, 8, .inl (fun _ => 0)))] := hD
  refine lv_aload_n hx hb dX0_init_20 rfl (lv_at hl 0 rfl) ?_
  refine lv_bipush (v := (8 : Int32)) hx hb dX0_init_21 (by decide) ?_
  refine va_newa (atype := .int) (ty := .int) (N' := 8) (a0 := (8, .inl (fun _ => 0))) hx hb (hts (.arrayClass .int) (by decide +kernel)) rfl hK hP hD hS hA (fun _ => rfl) (by decide) rfl (by decide) (Nat.le_of_ble_eq_true rfl) (Nat.le_of_ble_eq_true rfl) dX0_init_23 (fun q4 cy4 H hK hP hD hS => ?_)
  obtain rfl : cy = cy4 := by
    have e1 : s.vm.findClass ("[" ++ FieldType.int.toString) = some cy := (hK.2 0 _ rfl).2
    have e2 : s.vm.findClass ("[" ++ FieldType.int.toString) = some cy4 := (hK.2 1 _ rfl).2
    exact Option.some.inj (e1.symm.trans e2)
  have hK := hK.sub (tys' := [(cy, .int)]) [0] rfl
  have hP : va_P (dC, dI) vwCl [(h, .inr (0, [.int 0, .int 0, .ref q2, .ref q3, .null, .null, .null, .null, .null, .null, .int 0, .int 0])), (q2, .inl (cy, 8, .inl (fun _ => 0))), (q3, .inl (cy, 8, .inl (fun _ => 0))), (q4, .inl (cy, 8, .inl (fun _ => 0)))] H := hP
  have hD : va_D A [(h, .inr (0, [.int 0, .int 0, .ref q2, .ref q3, .null, .null, .null, .null, .null, .null, .int 0, .int 0])), (q2, .inl (cy, 8, .inl (fun _ => 0))), (q3, .inl (cy, 8, .inl (fun _ => 0))), (q4, .inl (cy, 8, .inl (fun _ => 0)))] := hD
  refine va_putF (D := (dC, dI)) (ci := 0) (v := .ref q4) (ty := (.array .int)) (C := RX0) (T := TX0) (N := 12) hx hb hts (by decide +kernel) tyX0 tyX0_ok nmX0 hown hK hP hD hS 0 rfl rfl 4 (by decide) (hts (.fieldLink RX0 16 "GiftLots" "rows" "[I") (by decide +kernel)) (fun _ h9 => h9) rfl hin rfl (by decide +kernel) rfl rfl (Nat.le_of_ble_eq_true rfl) dX0_init_25 (fun H locs hP hD hS => ?_)
  have hP : va_P (dC, dI) vwCl [(h, .inr (0, [.int 0, .int 0, .ref q2, .ref q3, .ref q4, .null, .null, .null, .null, .null, .int 0, .int 0])), (q2, .inl (cy, 8, .inl (fun _ => 0))), (q3, .inl (cy, 8, .inl (fun _ => 0))), (q4, .inl (cy, 8, .inl (fun _ => 0)))] H := hP
  have hD : va_D A [(h, .inr (0, [.int 0, .int 0, .ref q2, .ref q3, .ref q4, .null, .null, .null, .null, .null, .int 0, .int 0])), (q2, .inl (cy, 8, .inl (fun _ => 0))), (q3, .inl (cy, 8, .inl (fun _ => 0))), (q4, .inl (cy, 8, .inl (fun _ => 0)))] := hD
  refine lv_aload_n hx hb dX0_init_28 rfl (lv_at hl 0 rfl) ?_
  refine lv_sipush (v := (2048 : Int32)) hx hb dX0_init_29 (by decide) ?_
  refine va_newa (atype := .int) (ty := .int) (N' := 2048) (a0 := (2048, .inl (fun _ => 0))) hx hb (hts (.arrayClass .int) (by decide +kernel)) rfl hK hP hD hS hA (fun _ => rfl) (by decide) rfl (by decide) (Nat.le_of_ble_eq_true rfl) (Nat.le_of_ble_eq_true rfl) dX0_init_32 (fun q5 cy5 H hK hP hD hS => ?_)
  obtain rfl : cy = cy5 := by
    have e1 : s.vm.findClass ("[" ++ FieldType.int.toString) = some cy := (hK.2 0 _ rfl).2
    have e2 : s.vm.findClass ("[" ++ FieldType.int.toString) = some cy5 := (hK.2 1 _ rfl).2
    exact Option.some.inj (e1.symm.trans e2)
  have hK := hK.sub (tys' := [(cy, .int)]) [0] rfl
  have hP : va_P (dC, dI) vwCl [(h, .inr (0, [.int 0, .int 0, .ref q2, .ref q3, .ref q4, .null, .null, .null, .null, .null, .int 0, .int 0])), (q2, .inl (cy, 8, .inl (fun _ => 0))), (q3, .inl (cy, 8, .inl (fun _ => 0))), (q4, .inl (cy, 8, .inl (fun _ => 0))), (q5, .inl (cy, 2048, .inl (fun _ => 0)))] H := hP
  have hD : va_D A [(h, .inr (0, [.int 0, .int 0, .ref q2, .ref q3, .ref q4, .null, .null, .null, .null, .null, .int 0, .int 0])), (q2, .inl (cy, 8, .inl (fun _ => 0))), (q3, .inl (cy, 8, .inl (fun _ => 0))), (q4, .inl (cy, 8, .inl (fun _ => 0))), (q5, .inl (cy, 2048, .inl (fun _ => 0)))] := hD
  refine va_putF (D := (dC, dI)) (ci := 0) (v := .ref q5) (ty := (.array .int)) (C := RX0) (T := TX0) (N := 12) hx hb hts (by decide +kernel) tyX0 tyX0_ok nmX0 hown hK hP hD hS 0 rfl rfl 5 (by decide) (hts (.fieldLink RX0 19 "GiftLots" "chains" "[I") (by decide +kernel)) (fun _ h9 => h9) rfl hin rfl (by decide +kernel) rfl rfl (Nat.le_of_ble_eq_true rfl) dX0_init_34 (fun H locs hP hD hS => ?_)
  have hP : va_P (dC, dI) vwCl [(h, .inr (0, [.int 0, .int 0, .ref q2, .ref q3, .ref q4, .ref q5, .null, .null, .null, .null, .int 0, .int 0])), (q2, .inl (cy, 8, .inl (fun _ => 0))), (q3, .inl (cy, 8, .inl (fun _ => 0))), (q4, .inl (cy, 8, .inl (fun _ => 0))), (q5, .inl (cy, 2048, .inl (fun _ => 0)))] H := hP
  have hD : va_D A [(h, .inr (0, [.int 0, .int 0, .ref q2, .ref q3, .ref q4, .ref q5, .null, .null, .null, .null, .int 0, .int 0])), (q2, .inl (cy, 8, .inl (fun _ => 0))), (q3, .inl (cy, 8, .inl (fun _ => 0))), (q4, .inl (cy, 8, .inl (fun _ => 0))), (q5, .inl (cy, 2048, .inl (fun _ => 0)))] := hD
  refine lv_aload_n hx hb dX0_init_37 rfl (lv_at hl 0 rfl) ?_
  refine lv_sipush (v := (256 : Int32)) hx hb dX0_init_38 (by decide) ?_
  refine va_newa (atype := .int) (ty := .int) (N' := 256) (a0 := (256, .inl (fun _ => 0))) hx hb (hts (.arrayClass .int) (by decide +kernel)) rfl hK hP hD hS hA (fun _ => rfl) (by decide) rfl (by decide) (Nat.le_of_ble_eq_true rfl) (Nat.le_of_ble_eq_true rfl) dX0_init_41 (fun q6 cy6 H hK hP hD hS => ?_)
  obtain rfl : cy = cy6 := by
    have e1 : s.vm.findClass ("[" ++ FieldType.int.toString) = some cy := (hK.2 0 _ rfl).2
    have e2 : s.vm.findClass ("[" ++ FieldType.int.toString) = some cy6 := (hK.2 1 _ rfl).2
    exact Option.some.inj (e1.symm.trans e2)
  have hK := hK.sub (tys' := [(cy, .int)]) [0] rfl
  have hP : va_P (dC, dI) vwCl [(h, .inr (0, [.int 0, .int 0, .ref q2, .ref q3, .ref q4, .ref q5, .null, .null, .null, .null, .int 0, .int 0])), (q2, .inl (cy, 8, .inl (fun _ => 0))), (q3, .inl (cy, 8, .inl (fun _ => 0))), (q4, .inl (cy, 8, .inl (fun _ => 0))), (q5, .inl (cy, 2048, .inl (fun _ => 0))), (q6, .inl (cy, 256, .inl (fun _ => 0)))] H := hP
  have hD : va_D A [(h, .inr (0, [.int 0, .int 0, .ref q2, .ref q3, .ref q4, .ref q5, .null, .null, .null, .null, .int 0, .int 0])), (q2, .inl (cy, 8, .inl (fun _ => 0))), (q3, .inl (cy, 8, .inl (fun _ => 0))), (q4, .inl (cy, 8, .inl (fun _ => 0))), (q5, .inl (cy, 2048, .inl (fun _ => 0))), (q6, .inl (cy, 256, .inl (fun _ => 0)))] := hD
  refine va_putF (D := (dC, dI)) (ci := 0) (v := .ref q6) (ty := (.array .int)) (C := RX0) (T := TX0) (N := 12) hx hb hts (by decide +kernel) tyX0 tyX0_ok nmX0 hown hK hP hD hS 0 rfl rfl 6 (by decide) (hts (.fieldLink RX0 22 "GiftLots" "closed" "[I") (by decide +kernel)) (fun _ h9 => h9) rfl hin rfl (by decide +kernel) rfl rfl (Nat.le_of_ble_eq_true rfl) dX0_init_43 (fun H locs hP hD hS => ?_)
  have hP : va_P (dC, dI) vwCl [(h, .inr (0, [.int 0, .int 0, .ref q2, .ref q3, .ref q4, .ref q5, .ref q6, .null, .null, .null, .int 0, .int 0])), (q2, .inl (cy, 8, .inl (fun _ => 0))), (q3, .inl (cy, 8, .inl (fun _ => 0))), (q4, .inl (cy, 8, .inl (fun _ => 0))), (q5, .inl (cy, 2048, .inl (fun _ => 0))), (q6, .inl (cy, 256, .inl (fun _ => 0)))] H := hP
  have hD : va_D A [(h, .inr (0, [.int 0, .int 0, .ref q2, .ref q3, .ref q4, .ref q5, .ref q6, .null, .null, .null, .int 0, .int 0])), (q2, .inl (cy, 8, .inl (fun _ => 0))), (q3, .inl (cy, 8, .inl (fun _ => 0))), (q4, .inl (cy, 8, .inl (fun _ => 0))), (q5, .inl (cy, 2048, .inl (fun _ => 0))), (q6, .inl (cy, 256, .inl (fun _ => 0)))] := hD
  refine lv_aload_n hx hb dX0_init_46 rfl (lv_at hl 0 rfl) ?_
  refine lv_sipush (v := (256 : Int32)) hx hb dX0_init_47 (by decide) ?_
  refine va_newa (atype := .int) (ty := .int) (N' := 256) (a0 := (256, .inl (fun _ => 0))) hx hb (hts (.arrayClass .int) (by decide +kernel)) rfl hK hP hD hS hA (fun _ => rfl) (by decide) rfl (by decide) (Nat.le_of_ble_eq_true rfl) (Nat.le_of_ble_eq_true rfl) dX0_init_50 (fun q7 cy7 H hK hP hD hS => ?_)
  obtain rfl : cy = cy7 := by
    have e1 : s.vm.findClass ("[" ++ FieldType.int.toString) = some cy := (hK.2 0 _ rfl).2
    have e2 : s.vm.findClass ("[" ++ FieldType.int.toString) = some cy7 := (hK.2 1 _ rfl).2
    exact Option.some.inj (e1.symm.trans e2)
  have hK := hK.sub (tys' := [(cy, .int)]) [0] rfl
  have hP : va_P (dC, dI) vwCl [(h, .inr (0, [.int 0, .int 0, .ref q2, .ref q3, .ref q4, .ref q5, .ref q6, .null, .null, .null, .int 0, .int 0])), (q2, .inl (cy, 8, .inl (fun _ => 0))), (q3, .inl (cy, 8, .inl (fun _ => 0))), (q4, .inl (cy, 8, .inl (fun _ => 0))), (q5, .inl (cy, 2048, .inl (fun _ => 0))), (q6, .inl (cy, 256, .inl (fun _ => 0))), (q7, .inl (cy, 256, .inl (fun _ => 0)))] H := hP
  have hD : va_D A [(h, .inr (0, [.int 0, .int 0, .ref q2, .ref q3, .ref q4, .ref q5, .ref q6, .null, .null, .null, .int 0, .int 0])), (q2, .inl (cy, 8, .inl (fun _ => 0))), (q3, .inl (cy, 8, .inl (fun _ => 0))), (q4, .inl (cy, 8, .inl (fun _ => 0))), (q5, .inl (cy, 2048, .inl (fun _ => 0))), (q6, .inl (cy, 256, .inl (fun _ => 0))), (q7, .inl (cy, 256, .inl (fun _ => 0)))] := hD
  refine va_putF (D := (dC, dI)) (ci := 0) (v := .ref q7) (ty := (.array .int)) (C := RX0) (T := TX0) (N := 12) hx hb hts (by decide +kernel) tyX0 tyX0_ok nmX0 hown hK hP hD hS 0 rfl rfl 7 (by decide) (hts (.fieldLink RX0 25 "GiftLots" "splits" "[I") (by decide +kernel)) (fun _ h9 => h9) rfl hin rfl (by decide +kernel) rfl rfl (Nat.le_of_ble_eq_true rfl) dX0_init_52 (fun H locs hP hD hS => ?_)
  have hP : va_P (dC, dI) vwCl [(h, .inr (0, [.int 0, .int 0, .ref q2, .ref q3, .ref q4, .ref q5, .ref q6, .ref q7, .null, .null, .int 0, .int 0])), (q2, .inl (cy, 8, .inl (fun _ => 0))), (q3, .inl (cy, 8, .inl (fun _ => 0))), (q4, .inl (cy, 8, .inl (fun _ => 0))), (q5, .inl (cy, 2048, .inl (fun _ => 0))), (q6, .inl (cy, 256, .inl (fun _ => 0))), (q7, .inl (cy, 256, .inl (fun _ => 0)))] H := hP
  have hD : va_D A [(h, .inr (0, [.int 0, .int 0, .ref q2, .ref q3, .ref q4, .ref q5, .ref q6, .ref q7, .null, .null, .int 0, .int 0])), (q2, .inl (cy, 8, .inl (fun _ => 0))), (q3, .inl (cy, 8, .inl (fun _ => 0))), (q4, .inl (cy, 8, .inl (fun _ => 0))), (q5, .inl (cy, 2048, .inl (fun _ => 0))), (q6, .inl (cy, 256, .inl (fun _ => 0))), (q7, .inl (cy, 256, .inl (fun _ => 0)))] := hD
  refine lv_aload_n hx hb dX0_init_55 rfl (lv_at hl 0 rfl) ?_
  refine lv_bipush (v := (8 : Int32)) hx hb dX0_init_56 (by decide) ?_
  refine va_newa (atype := .int) (ty := .int) (N' := 8) (a0 := (8, .inl (fun _ => 0))) hx hb (hts (.arrayClass .int) (by decide +kernel)) rfl hK hP hD hS hA (fun _ => rfl) (by decide) rfl (by decide) (Nat.le_of_ble_eq_true rfl) (Nat.le_of_ble_eq_true rfl) dX0_init_58 (fun q8 cy8 H hK hP hD hS => ?_)
  obtain rfl : cy = cy8 := by
    have e1 : s.vm.findClass ("[" ++ FieldType.int.toString) = some cy := (hK.2 0 _ rfl).2
    have e2 : s.vm.findClass ("[" ++ FieldType.int.toString) = some cy8 := (hK.2 1 _ rfl).2
    exact Option.some.inj (e1.symm.trans e2)
  have hK := hK.sub (tys' := [(cy, .int)]) [0] rfl
  have hP : va_P (dC, dI) vwCl [(h, .inr (0, [.int 0, .int 0, .ref q2, .ref q3, .ref q4, .ref q5, .ref q6, .ref q7, .null, .null, .int 0, .int 0])), (q2, .inl (cy, 8, .inl (fun _ => 0))), (q3, .inl (cy, 8, .inl (fun _ => 0))), (q4, .inl (cy, 8, .inl (fun _ => 0))), (q5, .inl (cy, 2048, .inl (fun _ => 0))), (q6, .inl (cy, 256, .inl (fun _ => 0))), (q7, .inl (cy, 256, .inl (fun _ => 0))), (q8, .inl (cy, 8, .inl (fun _ => 0)))] H := hP
  have hD : va_D A [(h, .inr (0, [.int 0, .int 0, .ref q2, .ref q3, .ref q4, .ref q5, .ref q6, .ref q7, .null, .null, .int 0, .int 0])), (q2, .inl (cy, 8, .inl (fun _ => 0))), (q3, .inl (cy, 8, .inl (fun _ => 0))), (q4, .inl (cy, 8, .inl (fun _ => 0))), (q5, .inl (cy, 2048, .inl (fun _ => 0))), (q6, .inl (cy, 256, .inl (fun _ => 0))), (q7, .inl (cy, 256, .inl (fun _ => 0))), (q8, .inl (cy, 8, .inl (fun _ => 0)))] := hD
  refine va_putF (D := (dC, dI)) (ci := 0) (v := .ref q8) (ty := (.array .int)) (C := RX0) (T := TX0) (N := 12) hx hb hts (by decide +kernel) tyX0 tyX0_ok nmX0 hown hK hP hD hS 0 rfl rfl 8 (by decide) (hts (.fieldLink RX0 28 "GiftLots" "trial" "[I") (by decide +kernel)) (fun _ h9 => h9) rfl hin rfl (by decide +kernel) rfl rfl (Nat.le_of_ble_eq_true rfl) dX0_init_60 (fun H locs hP hD hS => ?_)
  have hP : va_P (dC, dI) vwCl [(h, .inr (0, [.int 0, .int 0, .ref q2, .ref q3, .ref q4, .ref q5, .ref q6, .ref q7, .ref q8, .null, .int 0, .int 0])), (q2, .inl (cy, 8, .inl (fun _ => 0))), (q3, .inl (cy, 8, .inl (fun _ => 0))), (q4, .inl (cy, 8, .inl (fun _ => 0))), (q5, .inl (cy, 2048, .inl (fun _ => 0))), (q6, .inl (cy, 256, .inl (fun _ => 0))), (q7, .inl (cy, 256, .inl (fun _ => 0))), (q8, .inl (cy, 8, .inl (fun _ => 0)))] H := hP
  have hD : va_D A [(h, .inr (0, [.int 0, .int 0, .ref q2, .ref q3, .ref q4, .ref q5, .ref q6, .ref q7, .ref q8, .null, .int 0, .int 0])), (q2, .inl (cy, 8, .inl (fun _ => 0))), (q3, .inl (cy, 8, .inl (fun _ => 0))), (q4, .inl (cy, 8, .inl (fun _ => 0))), (q5, .inl (cy, 2048, .inl (fun _ => 0))), (q6, .inl (cy, 256, .inl (fun _ => 0))), (q7, .inl (cy, 256, .inl (fun _ => 0))), (q8, .inl (cy, 8, .inl (fun _ => 0)))] := hD
  refine lv_aload_n hx hb dX0_init_63 rfl (lv_at hl 0 rfl) ?_
  refine lv_bipush (v := (8 : Int32)) hx hb dX0_init_64 (by decide) ?_
  refine va_newa (atype := .int) (ty := .int) (N' := 8) (a0 := (8, .inl (fun _ => 0))) hx hb (hts (.arrayClass .int) (by decide +kernel)) rfl hK hP hD hS hA (fun _ => rfl) (by decide) rfl (by decide) (Nat.le_of_ble_eq_true rfl) (Nat.le_of_ble_eq_true rfl) dX0_init_66 (fun q9 cy9 H hK hP hD hS => ?_)
  obtain rfl : cy = cy9 := by
    have e1 : s.vm.findClass ("[" ++ FieldType.int.toString) = some cy := (hK.2 0 _ rfl).2
    have e2 : s.vm.findClass ("[" ++ FieldType.int.toString) = some cy9 := (hK.2 1 _ rfl).2
    exact Option.some.inj (e1.symm.trans e2)
  have hK := hK.sub (tys' := [(cy, .int)]) [0] rfl
  have hP : va_P (dC, dI) vwCl [(h, .inr (0, [.int 0, .int 0, .ref q2, .ref q3, .ref q4, .ref q5, .ref q6, .ref q7, .ref q8, .null, .int 0, .int 0])), (q2, .inl (cy, 8, .inl (fun _ => 0))), (q3, .inl (cy, 8, .inl (fun _ => 0))), (q4, .inl (cy, 8, .inl (fun _ => 0))), (q5, .inl (cy, 2048, .inl (fun _ => 0))), (q6, .inl (cy, 256, .inl (fun _ => 0))), (q7, .inl (cy, 256, .inl (fun _ => 0))), (q8, .inl (cy, 8, .inl (fun _ => 0))), (q9, .inl (cy, 8, .inl (fun _ => 0)))] H := hP
  have hD : va_D A [(h, .inr (0, [.int 0, .int 0, .ref q2, .ref q3, .ref q4, .ref q5, .ref q6, .ref q7, .ref q8, .null, .int 0, .int 0])), (q2, .inl (cy, 8, .inl (fun _ => 0))), (q3, .inl (cy, 8, .inl (fun _ => 0))), (q4, .inl (cy, 8, .inl (fun _ => 0))), (q5, .inl (cy, 2048, .inl (fun _ => 0))), (q6, .inl (cy, 256, .inl (fun _ => 0))), (q7, .inl (cy, 256, .inl (fun _ => 0))), (q8, .inl (cy, 8, .inl (fun _ => 0))), (q9, .inl (cy, 8, .inl (fun _ => 0)))] := hD
  refine va_putF (D := (dC, dI)) (ci := 0) (v := .ref q9) (ty := (.array .int)) (C := RX0) (T := TX0) (N := 12) hx hb hts (by decide +kernel) tyX0 tyX0_ok nmX0 hown hK hP hD hS 0 rfl rfl 9 (by decide) (hts (.fieldLink RX0 31 "GiftLots" "firstMend" "[I") (by decide +kernel)) (fun _ h9 => h9) rfl hin rfl (by decide +kernel) rfl rfl (Nat.le_of_ble_eq_true rfl) dX0_init_68 (fun H locs hP hD hS => ?_)
  have hP : va_P (dC, dI) vwCl [(h, .inr (0, [.int 0, .int 0, .ref q2, .ref q3, .ref q4, .ref q5, .ref q6, .ref q7, .ref q8, .ref q9, .int 0, .int 0])), (q2, .inl (cy, 8, .inl (fun _ => 0))), (q3, .inl (cy, 8, .inl (fun _ => 0))), (q4, .inl (cy, 8, .inl (fun _ => 0))), (q5, .inl (cy, 2048, .inl (fun _ => 0))), (q6, .inl (cy, 256, .inl (fun _ => 0))), (q7, .inl (cy, 256, .inl (fun _ => 0))), (q8, .inl (cy, 8, .inl (fun _ => 0))), (q9, .inl (cy, 8, .inl (fun _ => 0)))] H := hP
  have hD : va_D A [(h, .inr (0, [.int 0, .int 0, .ref q2, .ref q3, .ref q4, .ref q5, .ref q6, .ref q7, .ref q8, .ref q9, .int 0, .int 0])), (q2, .inl (cy, 8, .inl (fun _ => 0))), (q3, .inl (cy, 8, .inl (fun _ => 0))), (q4, .inl (cy, 8, .inl (fun _ => 0))), (q5, .inl (cy, 2048, .inl (fun _ => 0))), (q6, .inl (cy, 256, .inl (fun _ => 0))), (q7, .inl (cy, 256, .inl (fun _ => 0))), (q8, .inl (cy, 8, .inl (fun _ => 0))), (q9, .inl (cy, 8, .inl (fun _ => 0)))] := hD
  refine lv_aload_n hx hb dX0_init_71 rfl (lv_at hl 0 rfl) ?_
  refine lv_iconst (v := (4 : Int32)) hx hb dX0_init_72 (by decide) ?_
  have hPc := hP.sub (ws' := (wX0 cy h q2 q3 q4 q5 q6 q7 q8 q9 0 0 (fun _ => 0) (fun _ => 0) (fun _ => 0) (fun _ => 0) (fun _ => 0) (fun _ => 0) (fun _ => 0) (fun _ => 0) 0 0)) [0, 1, 2, 3, 4, 5, 6, 7, 8] rfl
  have hDc := hD.sub (ws' := (wX0 cy h q2 q3 q4 q5 q6 q7 q8 q9 0 0 (fun _ => 0) (fun _ => 0) (fun _ => 0) (fun _ => 0) (fun _ => 0) (fun _ => 0) (fun _ => 0) (fun _ => 0) 0 0)) [0, 1, 2, 3, 4, 5, 6, 7, 8] (by decide) rfl
  have hKc := hK.sub (tys' := [(cy, .int)]) [0] rfl
  have hFc := va_free (wc := (wX0 cy h q2 q3 q4 q5 q6 q7 q8 q9 0 0 (fun _ => 0) (fun _ => 0) (fun _ => 0) (fun _ => 0) (fun _ => 0) (fun _ => 0) (fun _ => 0) (fun _ => 0) 0 0)) hD hS hA [0, 1, 2, 3, 4, 5, 6, 7, 8] rfl
  refine va_callv (va_runV (As := [.int 4]) (rest := []) ⟨hx, hb, hml, hown, hts⟩ (c_X0_begin N l dC dI cy h q2 q3 q4 q5 q6 q7 q8 q9 H.size 0 0 (fun _ => 0) (fun _ => 0) (fun _ => 0) (fun _ => 0) (fun _ => 0) (fun _ => 0) (fun _ => 0) (fun _ => 0) 0 0 4 res hf) (cwV 1 hts gX0_init_X0_begin rfl rfl rfl (by decide +kernel) ⟨Nat.le_of_ble_eq_true rfl, Nat.le_of_ble_eq_true rfl⟩) ⟨fun a U g mk q => by obtain ⟨q0, q1, qP, qK, qD⟩ := q; exact ⟨q0, q1, qP, va_K.moved (u := U) (U := U.calling g mk a) (Vm.Alike.refl U.vm) qK, qD⟩, va_recv hKc hPc (ci := 0) (q0 := 0) rfl rfl, fun U hU hW => ⟨rfl, by rw [hU], by rw [hU]; exact hPc, va_K.moved hW.alike hKc, hDc.weaken (fun _ _ _ _ => trivial)⟩⟩ rfl rfl hl.1 rfl (lv_room (Nat.le_of_ble_eq_true rfl)) dX0_init_73 ⟨Nat.le_of_ble_eq_true rfl, Nat.le_of_ble_eq_true rfl⟩) hS (fun q _ h => hFc q h) hFc (fun uu_ t H1 locs ht hvm hw hB hz1 hk1 hS => ?_)
  obtain ⟨hP1, -, hD1⟩ := hB
  rw [ht] at hP1
  obtain ⟨hP, hD⟩ := va_join (wr := []) (w1 := (wX0 cy h q2 q3 q4 q5 q6 q7 q8 q9 res.1 res.2.1 res.2.2.1 res.2.2.2 (fun _ => 0) (fun _ => 0) (fun _ => 0) (fun _ => 0) (fun _ => 0) (fun _ => 0) 0 0)) hP hD [0, 1, 2, 3, 4, 5, 6, 7, 8] [] rfl rfl (by decide) (by decide) hk1 hFc hP1 hD1
  generalize H1 = H at hP hS ⊢
  have hP : va_P (dC, dI) vwCl (wX0 cy h q2 q3 q4 q5 q6 q7 q8 q9 res.1 res.2.1 res.2.2.1 res.2.2.2 (fun _ => 0) (fun _ => 0) (fun _ => 0) (fun _ => 0) (fun _ => 0) (fun _ => 0) 0 0) H := hP
  have hD : va_D A (wX0 cy h q2 q3 q4 q5 q6 q7 q8 q9 res.1 res.2.1 res.2.2.1 res.2.2.2 (fun _ => 0) (fun _ => 0) (fun _ => 0) (fun _ => 0) (fun _ => 0) (fun _ => 0) 0 0) := hD
  exact W.vret hx hb hr (fun t ht hW => ⟨⟨(), rfl, trivial, cy, q2, q3, q4, q5, q6, q7, q8, q9, by rw [ht]; exact hP, va_K.moved hW.alike hK, hD⟩, hS.F ht⟩) hS.2.2 dX0_init_76

set_option maxRecDepth 20000 in
theorem ggX1_init_X1_begin : GoodIn wsX1_init wsX1_begin := goodIn_r _ [16, 5, 7, 4, 8, 17, 18, 19, 20, 21, 22, 23, 24, 25, 26, 27] (by decide +kernel) (by decide +kernel)
set_option maxRecDepth 20000 in
theorem gX1_init_X1_begin : GoodIn wsX1_init (wsV RX1 32 RX1 yX1_begin wsX1_begin) := goodIn_app (goodIn_of _ (by decide +kernel)) ggX1_init_X1_begin
theorem dX1_init_0 : decode cX1_init 0 = .ok (.aload_n 0, 1) := by decide +kernel
theorem dX1_init_1 : decode cX1_init 1 = .ok (.invokespecial 1, 3) := by decide +kernel
theorem dX1_init_4 : decode cX1_init 4 = .ok (.aload_n 0, 1) := by decide +kernel
theorem dX1_init_5 : decode cX1_init 5 = .ok (.iconst 4, 1) := by decide +kernel
theorem dX1_init_6 : decode cX1_init 6 = .ok (.putfield 7, 3) := by decide +kernel
theorem dX1_init_9 : decode cX1_init 9 = .ok (.aload_n 0, 1) := by decide +kernel
theorem dX1_init_10 : decode cX1_init 10 = .ok (.iconst 2, 1) := by decide +kernel
theorem dX1_init_11 : decode cX1_init 11 = .ok (.putfield 13, 3) := by decide +kernel
theorem dX1_init_14 : decode cX1_init 14 = .ok (.aload_n 0, 1) := by decide +kernel
theorem dX1_init_15 : decode cX1_init 15 = .ok (.bipush 8, 2) := by decide +kernel
theorem dX1_init_17 : decode cX1_init 17 = .ok (.newarray .int, 2) := by decide +kernel
theorem dX1_init_19 : decode cX1_init 19 = .ok (.putfield 16, 3) := by decide +kernel
theorem dX1_init_22 : decode cX1_init 22 = .ok (.aload_n 0, 1) := by decide +kernel
theorem dX1_init_23 : decode cX1_init 23 = .ok (.bipush 8, 2) := by decide +kernel
theorem dX1_init_25 : decode cX1_init 25 = .ok (.newarray .int, 2) := by decide +kernel
theorem dX1_init_27 : decode cX1_init 27 = .ok (.putfield 20, 3) := by decide +kernel
theorem dX1_init_30 : decode cX1_init 30 = .ok (.aload_n 0, 1) := by decide +kernel
theorem dX1_init_31 : decode cX1_init 31 = .ok (.bipush 8, 2) := by decide +kernel
theorem dX1_init_33 : decode cX1_init 33 = .ok (.newarray .int, 2) := by decide +kernel
theorem dX1_init_35 : decode cX1_init 35 = .ok (.putfield 23, 3) := by decide +kernel
theorem dX1_init_38 : decode cX1_init 38 = .ok (.aload_n 0, 1) := by decide +kernel
theorem dX1_init_39 : decode cX1_init 39 = .ok (.sipush 256, 3) := by decide +kernel
theorem dX1_init_42 : decode cX1_init 42 = .ok (.newarray .int, 2) := by decide +kernel
theorem dX1_init_44 : decode cX1_init 44 = .ok (.putfield 26, 3) := by decide +kernel
theorem dX1_init_47 : decode cX1_init 47 = .ok (.aload_n 0, 1) := by decide +kernel
theorem dX1_init_48 : decode cX1_init 48 = .ok (.bipush 8, 2) := by decide +kernel
theorem dX1_init_50 : decode cX1_init 50 = .ok (.newarray .int, 2) := by decide +kernel
theorem dX1_init_52 : decode cX1_init 52 = .ok (.putfield 29, 3) := by decide +kernel
theorem dX1_init_55 : decode cX1_init 55 = .ok (.aload_n 0, 1) := by decide +kernel
theorem dX1_init_56 : decode cX1_init 56 = .ok (.invokevirtual 32, 3) := by decide +kernel
theorem dX1_init_59 : decode cX1_init 59 = .ok (.return_, 1) := by decide +kernel
abbrev rm_X1_init : Room := { frames := 1, cells := 5, slots := 288, locals := 21 }
set_option maxHeartbeats 4000000 in
set_option maxRecDepth 100000 in
theorem c_X1_init (N : Nat) (l : Launch) (dC : Nat → ClassId) (dI : Nat → Nat → Nat) (h : Nat) (sz : Nat) (res : Int32 × (Nat → Int32) × (Nat → Int32)) (hf : f_X1_begin N 4 2 (fun _ => 0) (fun _ => 0) = some res) : Met l yX1_init wsX1_init rm_X1_init (va_Pc [.ref h] (fun U => U.heap.size = sz ∧ va_P (dC, dI) vwCl [(h, .inr (1, [.int 0, .int 0, .null, .null, .int 0, .int 0, .null, .null, .int 0, .int 0, .null]))] U.heap ∧ va_K (dC, dI) vwCl [] U ∧ va_D (fun _ => True) [(h, .inr (1, [.int 0, .int 0, .null, .null, .int 0, .int 0, .null, .null, .int 0, .int 0, .null]))])) (va_Qv (fun (_ : Unit) => True) (fun _ t => ∃ (cy : ClassId) (q2 q3 q6 q7 q10 : Nat), va_P (dC, dI) vwCl (wX1 cy h q2 q3 q6 q7 q10 4 res.1 res.2.1 res.2.2 0 0 (fun _ => 0) (fun _ => 0) 0 0 (fun _ => 0)) t.heap ∧ va_K (dC, dI) vwCl [(cy, .int)] t ∧ va_D (va_A [(h, .inr (1, [.int 0, .int 0, .null, .null, .int 0, .int 0, .null, .null, .int 0, .int 0, .null]))] sz) (wX1 cy h q2 q3 q6 q7 q10 4 res.1 res.2.1 res.2.2 0 0 (fun _ => 0) (fun _ => 0) 0 0 (fun _ => 0))) (va_A [(h, .inr (1, [.int 0, .int 0, .null, .null, .int 0, .int 0, .null, .null, .int 0, .int 0, .null]))] sz)) 5 288 (va_A [(h, .inr (1, [.int 0, .int 0, .null, .null, .int 0, .int 0, .null, .null, .int 0, .int 0, .null]))] sz) := by
  refine Met.ofW (cc := cX1_init) (maxL := 1) (ret := none) (by decide) rfl ?_
  intro p e s m args below meth c s₁ B hml hv
  obtain ⟨rfl, hsz, hP, hK, hD0⟩ := hv
  have hx := B.exec
  have hb := B.bytes
  have hr := B.returns
  have hts := atoms_spec (ws := wsX1_init) B.pre
  have hown : s.vm.findClass RX1 = some m.cls := findClass_of_methodNamed B.named
  have hlocks := B.notSynchronized
  have hin : meth.name = "<init>" := (name_of_methodNamed B.named B.method).1
  subst hsz
  have hD := hD0.self (sz := s.heap.size)
  generalize hAe : va_A [(h, .inr (1, [.int 0, .int 0, .null, .null, .int 0, .int 0, .null, .null, .int 0, .int 0, .null]))] s.heap.size = A at hD ⊢
  have hA : ∀ q : Nat, s.heap.size ≤ q → A q := fun q h => by rw [← hAe]; exact Or.inr h
  have hS : va_S A s.heap s.heap [] := va_S.rf
  have hP : va_P (dC, dI) vwCl [(h, .inr (1, [.int 0, .int 0, .null, .null, .int 0, .int 0, .null, .null, .int 0, .int 0, .null]))] s.heap := hP
  have hl := lv_entry ([.ref h]) (n := 1) (Nat.le_of_ble_eq_true rfl)
  rw [lg_entry_eq]
  generalize (lg_sl ([.ref h]) ++ List.replicate (1 - (lg_sl ([.ref h])).length) Slot.unset).toArray = ls at hl ⊢
  have hl : lv_has ls 1 [(0, .ref h)] := hl
  refine lv_aload_n hx hb dX1_init_0 rfl (lv_at hl 0 rfl) ?_
  refine W.objInit hx hb hown (hts (.methodLink RX1 1 objectInit) (by decide +kernel)) (hts (.instanceMethod objectInit) (by decide +kernel)) (hts (.code objectInit ⟨#[0xb1]⟩ 1 none) (by decide +kernel)) rfl (by rw [hml]; exact hl.1) rfl dX1_init_1 (Nat.le_of_ble_eq_true rfl) (Nat.le_of_ble_eq_true rfl) ?_
  refine W.eq (g2 := F0 m 4 ls []) rfl ?_
  refine lv_aload_n hx hb dX1_init_4 rfl (lv_at hl 0 rfl) ?_
  refine lv_iconst (v := (4 : Int32)) hx hb dX1_init_5 (by decide) ?_
  refine va_put (D := (dC, dI)) (ci := 1) (v := .int (4 : Int32)) (ty := .int) (C := RX1) (T := TX1) (N := 11) hx hb hts (by decide +kernel) tyX1 tyX1_ok nmX1 hown hK hP hD hS 0 rfl rfl 0 (by decide) (hts (.fieldLink RX1 7 "GiftLotsModel" "ones" "I") (by decide +kernel)) (fun _ h9 => h9) rfl (by decide +kernel) rfl rfl (Nat.le_of_ble_eq_true rfl) dX1_init_6 (fun H locs hP hD hS => ?_)
  have hP : va_P (dC, dI) vwCl [(h, .inr (1, [.int 4, .int 0, .null, .null, .int 0, .int 0, .null, .null, .int 0, .int 0, .null]))] H := hP
  have hD : va_D A [(h, .inr (1, [.int 4, .int 0, .null, .null, .int 0, .int 0, .null, .null, .int 0, .int 0, .null]))] := hD
  refine lv_aload_n hx hb dX1_init_9 rfl (lv_at hl 0 rfl) ?_
  refine lv_iconst (v := (2 : Int32)) hx hb dX1_init_10 (by decide) ?_
  refine va_put (D := (dC, dI)) (ci := 1) (v := .int (2 : Int32)) (ty := .int) (C := RX1) (T := TX1) (N := 11) hx hb hts (by decide +kernel) tyX1 tyX1_ok nmX1 hown hK hP hD hS 0 rfl rfl 1 (by decide) (hts (.fieldLink RX1 13 "GiftLotsModel" "least" "I") (by decide +kernel)) (fun _ h9 => h9) rfl (by decide +kernel) rfl rfl (Nat.le_of_ble_eq_true rfl) dX1_init_11 (fun H locs hP hD hS => ?_)
  have hP : va_P (dC, dI) vwCl [(h, .inr (1, [.int 4, .int 2, .null, .null, .int 0, .int 0, .null, .null, .int 0, .int 0, .null]))] H := hP
  have hD : va_D A [(h, .inr (1, [.int 4, .int 2, .null, .null, .int 0, .int 0, .null, .null, .int 0, .int 0, .null]))] := hD
  refine lv_aload_n hx hb dX1_init_14 rfl (lv_at hl 0 rfl) ?_
  refine lv_bipush (v := (8 : Int32)) hx hb dX1_init_15 (by decide) ?_
  refine va_newa (atype := .int) (ty := .int) (N' := 8) (a0 := (8, .inl (fun _ => 0))) hx hb (hts (.arrayClass .int) (by decide +kernel)) rfl hK hP hD hS hA (fun _ => rfl) (by decide) rfl (by decide) (Nat.le_of_ble_eq_true rfl) (Nat.le_of_ble_eq_true rfl) dX1_init_17 (fun q2 cy H hK hP hD hS => ?_)
  have hK : va_K (dC, dI) vwCl [(cy, .int)] s := hK
  have hP : va_P (dC, dI) vwCl [(h, .inr (1, [.int 4, .int 2, .null, .null, .int 0, .int 0, .null, .null, .int 0, .int 0, .null])), (q2, .inl (cy, 8, .inl (fun _ => 0)))] H := hP
  have hD : va_D A [(h, .inr (1, [.int 4, .int 2, .null, .null, .int 0, .int 0, .null, .null, .int 0, .int 0, .null])), (q2, .inl (cy, 8, .inl (fun _ => 0)))] := hD
  refine va_putF (D := (dC, dI)) (ci := 1) (v := .ref q2) (ty := (.array .int)) (C := RX1) (T := TX1) (N := 11) hx hb hts (by decide +kernel) tyX1 tyX1_ok nmX1 hown hK hP hD hS 0 rfl rfl 2 (by decide) (hts (.fieldLink RX1 16 "GiftLotsModel" "may" "[I") (by decide +kernel)) (fun _ h9 => h9) rfl hin rfl (by decide +kernel) rfl rfl (Nat.le_of_ble_eq_true rfl) dX1_init_19 (fun H locs hP hD hS => ?_)
  have hP : va_P (dC, dI) vwCl [(h, .inr (1, [.int 4, .int 2, .ref q2, .null, .int 0, .int 0, .null, .null, .int 0, .int 0, .null])), (q2, .inl (cy, 8, .inl (fun _ => 0)))] H := hP
  have hD : va_D A [(h, .inr (1, [.int 4, .int 2, .ref q2, .null, .int 0, .int 0, .null, .null, .int 0, .int 0, .null])), (q2, .inl (cy, 8, .inl (fun _ => 0)))] := hD
  refine lv_aload_n hx hb dX1_init_22 rfl (lv_at hl 0 rfl) ?_
  refine lv_bipush (v := (8 : Int32)) hx hb dX1_init_23 (by decide) ?_
  refine va_newa (atype := .int) (ty := .int) (N' := 8) (a0 := (8, .inl (fun _ => 0))) hx hb (hts (.arrayClass .int) (by decide +kernel)) rfl hK hP hD hS hA (fun _ => rfl) (by decide) rfl (by decide) (Nat.le_of_ble_eq_true rfl) (Nat.le_of_ble_eq_true rfl) dX1_init_25 (fun q3 cy3 H hK hP hD hS => ?_)
  obtain rfl : cy = cy3 := by
    have e1 : s.vm.findClass ("[" ++ FieldType.int.toString) = some cy := (hK.2 0 _ rfl).2
    have e2 : s.vm.findClass ("[" ++ FieldType.int.toString) = some cy3 := (hK.2 1 _ rfl).2
    exact Option.some.inj (e1.symm.trans e2)
  have hK := hK.sub (tys' := [(cy, .int)]) [0] rfl
  have hP : va_P (dC, dI) vwCl [(h, .inr (1, [.int 4, .int 2, .ref q2, .null, .int 0, .int 0, .null, .null, .int 0, .int 0, .null])), (q2, .inl (cy, 8, .inl (fun _ => 0))), (q3, .inl (cy, 8, .inl (fun _ => 0)))] H := hP
  have hD : va_D A [(h, .inr (1, [.int 4, .int 2, .ref q2, .null, .int 0, .int 0, .null, .null, .int 0, .int 0, .null])), (q2, .inl (cy, 8, .inl (fun _ => 0))), (q3, .inl (cy, 8, .inl (fun _ => 0)))] := hD
  refine va_putF (D := (dC, dI)) (ci := 1) (v := .ref q3) (ty := (.array .int)) (C := RX1) (T := TX1) (N := 11) hx hb hts (by decide +kernel) tyX1 tyX1_ok nmX1 hown hK hP hD hS 0 rfl rfl 3 (by decide) (hts (.fieldLink RX1 20 "GiftLotsModel" "hand" "[I") (by decide +kernel)) (fun _ h9 => h9) rfl hin rfl (by decide +kernel) rfl rfl (Nat.le_of_ble_eq_true rfl) dX1_init_27 (fun H locs hP hD hS => ?_)
  have hP : va_P (dC, dI) vwCl [(h, .inr (1, [.int 4, .int 2, .ref q2, .ref q3, .int 0, .int 0, .null, .null, .int 0, .int 0, .null])), (q2, .inl (cy, 8, .inl (fun _ => 0))), (q3, .inl (cy, 8, .inl (fun _ => 0)))] H := hP
  have hD : va_D A [(h, .inr (1, [.int 4, .int 2, .ref q2, .ref q3, .int 0, .int 0, .null, .null, .int 0, .int 0, .null])), (q2, .inl (cy, 8, .inl (fun _ => 0))), (q3, .inl (cy, 8, .inl (fun _ => 0)))] := hD
  refine lv_aload_n hx hb dX1_init_30 rfl (lv_at hl 0 rfl) ?_
  refine lv_bipush (v := (8 : Int32)) hx hb dX1_init_31 (by decide) ?_
  refine va_newa (atype := .int) (ty := .int) (N' := 8) (a0 := (8, .inl (fun _ => 0))) hx hb (hts (.arrayClass .int) (by decide +kernel)) rfl hK hP hD hS hA (fun _ => rfl) (by decide) rfl (by decide) (Nat.le_of_ble_eq_true rfl) (Nat.le_of_ble_eq_true rfl) dX1_init_33 (fun q6 cy6 H hK hP hD hS => ?_)
  obtain rfl : cy = cy6 := by
    have e1 : s.vm.findClass ("[" ++ FieldType.int.toString) = some cy := (hK.2 0 _ rfl).2
    have e2 : s.vm.findClass ("[" ++ FieldType.int.toString) = some cy6 := (hK.2 1 _ rfl).2
    exact Option.some.inj (e1.symm.trans e2)
  have hK := hK.sub (tys' := [(cy, .int)]) [0] rfl
  have hP : va_P (dC, dI) vwCl [(h, .inr (1, [.int 4, .int 2, .ref q2, .ref q3, .int 0, .int 0, .null, .null, .int 0, .int 0, .null])), (q2, .inl (cy, 8, .inl (fun _ => 0))), (q3, .inl (cy, 8, .inl (fun _ => 0))), (q6, .inl (cy, 8, .inl (fun _ => 0)))] H := hP
  have hD : va_D A [(h, .inr (1, [.int 4, .int 2, .ref q2, .ref q3, .int 0, .int 0, .null, .null, .int 0, .int 0, .null])), (q2, .inl (cy, 8, .inl (fun _ => 0))), (q3, .inl (cy, 8, .inl (fun _ => 0))), (q6, .inl (cy, 8, .inl (fun _ => 0)))] := hD
  refine va_putF (D := (dC, dI)) (ci := 1) (v := .ref q6) (ty := (.array .int)) (C := RX1) (T := TX1) (N := 11) hx hb hts (by decide +kernel) tyX1 tyX1_ok nmX1 hown hK hP hD hS 0 rfl rfl 6 (by decide) (hts (.fieldLink RX1 23 "GiftLotsModel" "gives" "[I") (by decide +kernel)) (fun _ h9 => h9) rfl hin rfl (by decide +kernel) rfl rfl (Nat.le_of_ble_eq_true rfl) dX1_init_35 (fun H locs hP hD hS => ?_)
  have hP : va_P (dC, dI) vwCl [(h, .inr (1, [.int 4, .int 2, .ref q2, .ref q3, .int 0, .int 0, .ref q6, .null, .int 0, .int 0, .null])), (q2, .inl (cy, 8, .inl (fun _ => 0))), (q3, .inl (cy, 8, .inl (fun _ => 0))), (q6, .inl (cy, 8, .inl (fun _ => 0)))] H := hP
  have hD : va_D A [(h, .inr (1, [.int 4, .int 2, .ref q2, .ref q3, .int 0, .int 0, .ref q6, .null, .int 0, .int 0, .null])), (q2, .inl (cy, 8, .inl (fun _ => 0))), (q3, .inl (cy, 8, .inl (fun _ => 0))), (q6, .inl (cy, 8, .inl (fun _ => 0)))] := hD
  refine lv_aload_n hx hb dX1_init_38 rfl (lv_at hl 0 rfl) ?_
  refine lv_sipush (v := (256 : Int32)) hx hb dX1_init_39 (by decide) ?_
  refine va_newa (atype := .int) (ty := .int) (N' := 256) (a0 := (256, .inl (fun _ => 0))) hx hb (hts (.arrayClass .int) (by decide +kernel)) rfl hK hP hD hS hA (fun _ => rfl) (by decide) rfl (by decide) (Nat.le_of_ble_eq_true rfl) (Nat.le_of_ble_eq_true rfl) dX1_init_42 (fun q7 cy7 H hK hP hD hS => ?_)
  obtain rfl : cy = cy7 := by
    have e1 : s.vm.findClass ("[" ++ FieldType.int.toString) = some cy := (hK.2 0 _ rfl).2
    have e2 : s.vm.findClass ("[" ++ FieldType.int.toString) = some cy7 := (hK.2 1 _ rfl).2
    exact Option.some.inj (e1.symm.trans e2)
  have hK := hK.sub (tys' := [(cy, .int)]) [0] rfl
  have hP : va_P (dC, dI) vwCl [(h, .inr (1, [.int 4, .int 2, .ref q2, .ref q3, .int 0, .int 0, .ref q6, .null, .int 0, .int 0, .null])), (q2, .inl (cy, 8, .inl (fun _ => 0))), (q3, .inl (cy, 8, .inl (fun _ => 0))), (q6, .inl (cy, 8, .inl (fun _ => 0))), (q7, .inl (cy, 256, .inl (fun _ => 0)))] H := hP
  have hD : va_D A [(h, .inr (1, [.int 4, .int 2, .ref q2, .ref q3, .int 0, .int 0, .ref q6, .null, .int 0, .int 0, .null])), (q2, .inl (cy, 8, .inl (fun _ => 0))), (q3, .inl (cy, 8, .inl (fun _ => 0))), (q6, .inl (cy, 8, .inl (fun _ => 0))), (q7, .inl (cy, 256, .inl (fun _ => 0)))] := hD
  refine va_putF (D := (dC, dI)) (ci := 1) (v := .ref q7) (ty := (.array .int)) (C := RX1) (T := TX1) (N := 11) hx hb hts (by decide +kernel) tyX1 tyX1_ok nmX1 hown hK hP hD hS 0 rfl rfl 7 (by decide) (hts (.fieldLink RX1 26 "GiftLotsModel" "put" "[I") (by decide +kernel)) (fun _ h9 => h9) rfl hin rfl (by decide +kernel) rfl rfl (Nat.le_of_ble_eq_true rfl) dX1_init_44 (fun H locs hP hD hS => ?_)
  have hP : va_P (dC, dI) vwCl [(h, .inr (1, [.int 4, .int 2, .ref q2, .ref q3, .int 0, .int 0, .ref q6, .ref q7, .int 0, .int 0, .null])), (q2, .inl (cy, 8, .inl (fun _ => 0))), (q3, .inl (cy, 8, .inl (fun _ => 0))), (q6, .inl (cy, 8, .inl (fun _ => 0))), (q7, .inl (cy, 256, .inl (fun _ => 0)))] H := hP
  have hD : va_D A [(h, .inr (1, [.int 4, .int 2, .ref q2, .ref q3, .int 0, .int 0, .ref q6, .ref q7, .int 0, .int 0, .null])), (q2, .inl (cy, 8, .inl (fun _ => 0))), (q3, .inl (cy, 8, .inl (fun _ => 0))), (q6, .inl (cy, 8, .inl (fun _ => 0))), (q7, .inl (cy, 256, .inl (fun _ => 0)))] := hD
  refine lv_aload_n hx hb dX1_init_47 rfl (lv_at hl 0 rfl) ?_
  refine lv_bipush (v := (8 : Int32)) hx hb dX1_init_48 (by decide) ?_
  refine va_newa (atype := .int) (ty := .int) (N' := 8) (a0 := (8, .inl (fun _ => 0))) hx hb (hts (.arrayClass .int) (by decide +kernel)) rfl hK hP hD hS hA (fun _ => rfl) (by decide) rfl (by decide) (Nat.le_of_ble_eq_true rfl) (Nat.le_of_ble_eq_true rfl) dX1_init_50 (fun q10 cy10 H hK hP hD hS => ?_)
  obtain rfl : cy = cy10 := by
    have e1 : s.vm.findClass ("[" ++ FieldType.int.toString) = some cy := (hK.2 0 _ rfl).2
    have e2 : s.vm.findClass ("[" ++ FieldType.int.toString) = some cy10 := (hK.2 1 _ rfl).2
    exact Option.some.inj (e1.symm.trans e2)
  have hK := hK.sub (tys' := [(cy, .int)]) [0] rfl
  have hP : va_P (dC, dI) vwCl [(h, .inr (1, [.int 4, .int 2, .ref q2, .ref q3, .int 0, .int 0, .ref q6, .ref q7, .int 0, .int 0, .null])), (q2, .inl (cy, 8, .inl (fun _ => 0))), (q3, .inl (cy, 8, .inl (fun _ => 0))), (q6, .inl (cy, 8, .inl (fun _ => 0))), (q7, .inl (cy, 256, .inl (fun _ => 0))), (q10, .inl (cy, 8, .inl (fun _ => 0)))] H := hP
  have hD : va_D A [(h, .inr (1, [.int 4, .int 2, .ref q2, .ref q3, .int 0, .int 0, .ref q6, .ref q7, .int 0, .int 0, .null])), (q2, .inl (cy, 8, .inl (fun _ => 0))), (q3, .inl (cy, 8, .inl (fun _ => 0))), (q6, .inl (cy, 8, .inl (fun _ => 0))), (q7, .inl (cy, 256, .inl (fun _ => 0))), (q10, .inl (cy, 8, .inl (fun _ => 0)))] := hD
  refine va_putF (D := (dC, dI)) (ci := 1) (v := .ref q10) (ty := (.array .int)) (C := RX1) (T := TX1) (N := 11) hx hb hts (by decide +kernel) tyX1 tyX1_ok nmX1 hown hK hP hD hS 0 rfl rfl 10 (by decide) (hts (.fieldLink RX1 29 "GiftLotsModel" "first" "[I") (by decide +kernel)) (fun _ h9 => h9) rfl hin rfl (by decide +kernel) rfl rfl (Nat.le_of_ble_eq_true rfl) dX1_init_52 (fun H locs hP hD hS => ?_)
  have hP : va_P (dC, dI) vwCl [(h, .inr (1, [.int 4, .int 2, .ref q2, .ref q3, .int 0, .int 0, .ref q6, .ref q7, .int 0, .int 0, .ref q10])), (q2, .inl (cy, 8, .inl (fun _ => 0))), (q3, .inl (cy, 8, .inl (fun _ => 0))), (q6, .inl (cy, 8, .inl (fun _ => 0))), (q7, .inl (cy, 256, .inl (fun _ => 0))), (q10, .inl (cy, 8, .inl (fun _ => 0)))] H := hP
  have hD : va_D A [(h, .inr (1, [.int 4, .int 2, .ref q2, .ref q3, .int 0, .int 0, .ref q6, .ref q7, .int 0, .int 0, .ref q10])), (q2, .inl (cy, 8, .inl (fun _ => 0))), (q3, .inl (cy, 8, .inl (fun _ => 0))), (q6, .inl (cy, 8, .inl (fun _ => 0))), (q7, .inl (cy, 256, .inl (fun _ => 0))), (q10, .inl (cy, 8, .inl (fun _ => 0)))] := hD
  refine lv_aload_n hx hb dX1_init_55 rfl (lv_at hl 0 rfl) ?_
  have hPc := hP.sub (ws' := (wX1 cy h q2 q3 q6 q7 q10 4 2 (fun _ => 0) (fun _ => 0) 0 0 (fun _ => 0) (fun _ => 0) 0 0 (fun _ => 0))) [0, 1, 2, 3, 4, 5] rfl
  have hDc := hD.sub (ws' := (wX1 cy h q2 q3 q6 q7 q10 4 2 (fun _ => 0) (fun _ => 0) 0 0 (fun _ => 0) (fun _ => 0) 0 0 (fun _ => 0))) [0, 1, 2, 3, 4, 5] (by decide) rfl
  have hKc := hK.sub (tys' := [(cy, .int)]) [0] rfl
  have hFc := va_free (wc := (wX1 cy h q2 q3 q6 q7 q10 4 2 (fun _ => 0) (fun _ => 0) 0 0 (fun _ => 0) (fun _ => 0) 0 0 (fun _ => 0))) hD hS hA [0, 1, 2, 3, 4, 5] rfl
  refine va_callv (va_runV (As := []) (rest := []) ⟨hx, hb, hml, hown, hts⟩ (c_X1_begin N l dC dI cy h q2 q3 q6 q7 q10 H.size 4 2 (fun _ => 0) (fun _ => 0) 0 0 (fun _ => 0) (fun _ => 0) 0 0 (fun _ => 0)  res hf) (cwV 0 hts gX1_init_X1_begin rfl rfl rfl (by decide +kernel) ⟨Nat.le_of_ble_eq_true rfl, Nat.le_of_ble_eq_true rfl⟩) ⟨fun a U g mk q => by obtain ⟨q0, q1, qP, qK, qD⟩ := q; exact ⟨q0, q1, qP, va_K.moved (u := U) (U := U.calling g mk a) (Vm.Alike.refl U.vm) qK, qD⟩, va_recv hKc hPc (ci := 1) (q0 := 0) rfl rfl, fun U hU hW => ⟨rfl, by rw [hU], by rw [hU]; exact hPc, va_K.moved hW.alike hKc, hDc.weaken (fun _ _ _ _ => trivial)⟩⟩ rfl rfl hl.1 rfl (lv_room (Nat.le_of_ble_eq_true rfl)) dX1_init_56 ⟨Nat.le_of_ble_eq_true rfl, Nat.le_of_ble_eq_true rfl⟩) hS (fun q _ h => hFc q h) hFc (fun uu_ t H1 locs ht hvm hw hB hz1 hk1 hS => ?_)
  obtain ⟨hP1, -, hD1⟩ := hB
  rw [ht] at hP1
  obtain ⟨hP, hD⟩ := va_join (wr := []) (w1 := (wX1 cy h q2 q3 q6 q7 q10 4 res.1 res.2.1 res.2.2 0 0 (fun _ => 0) (fun _ => 0) 0 0 (fun _ => 0))) hP hD [0, 1, 2, 3, 4, 5] [] rfl rfl (by decide) (by decide) hk1 hFc hP1 hD1
  generalize H1 = H at hP hS ⊢
  have hP : va_P (dC, dI) vwCl (wX1 cy h q2 q3 q6 q7 q10 4 res.1 res.2.1 res.2.2 0 0 (fun _ => 0) (fun _ => 0) 0 0 (fun _ => 0)) H := hP
  have hD : va_D A (wX1 cy h q2 q3 q6 q7 q10 4 res.1 res.2.1 res.2.2 0 0 (fun _ => 0) (fun _ => 0) 0 0 (fun _ => 0)) := hD
  exact W.vret hx hb hr (fun t ht hW => ⟨⟨(), rfl, trivial, cy, q2, q3, q6, q7, q10, by rw [ht]; exact hP, va_K.moved hW.alike hK, hD⟩, hS.F ht⟩) hS.2.2 dX1_init_59
end
