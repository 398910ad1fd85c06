section
-- ===== PART A: goes FIRST, ahead of the names: the tables' words, and 'selects' of the private methods out of them =====
/-- a private method of a class that the tables say can be made, by its rows of tables_1 -/
def lw_okq (q : MethodName × Nat) : Prop := (q.1.cls ≠ "java/lang/invoke/MethodHandle" ∧ q.1.cls ≠ "java/lang/invoke/VarHandle") ∧ Cond.instantiable q.1.cls q.2 ∈ tables_1 ∧ Cond.privateMethod q.1 ∈ tables_1 ∧ Cond.instanceMethod q.1 ∈ tables_1
theorem lw_p0 : lw_okq (⟨"TreatyHouse", "agreementAt", "(I)LTreatyHouse$Agreement;"⟩, 7) := ⟨⟨by decide +kernel, by decide +kernel⟩, List.mem_of_getElem? (i := 13) (by decide +kernel), List.mem_of_getElem? (i := 193) (by decide +kernel), List.mem_of_getElem? (i := 194) (by decide +kernel)⟩
theorem lw_p1 : lw_okq (⟨"TreatyHouse", "isParty", "(I)Z"⟩, 7) := ⟨⟨by decide +kernel, by decide +kernel⟩, List.mem_of_getElem? (i := 13) (by decide +kernel), List.mem_of_getElem? (i := 223) (by decide +kernel), List.mem_of_getElem? (i := 224) (by decide +kernel)⟩
theorem lw_p2 : lw_okq (⟨"TreatyHouse", "settle", "(IIIIII)Z"⟩, 7) := ⟨⟨by decide +kernel, by decide +kernel⟩, List.mem_of_getElem? (i := 13) (by decide +kernel), List.mem_of_getElem? (i := 407) (by decide +kernel), List.mem_of_getElem? (i := 408) (by decide +kernel)⟩
theorem lw_p3 : lw_okq (⟨"TreatyHouse$Bond", "forget", "()V"⟩, 12) := ⟨⟨by decide +kernel, by decide +kernel⟩, List.mem_of_getElem? (i := 58) (by decide +kernel), List.mem_of_getElem? (i := 418) (by decide +kernel), List.mem_of_getElem? (i := 419) (by decide +kernel)⟩
theorem lw_p4 : lw_okq (⟨"TreatyHouse$Roll", "enter", "(LTreatyHouse$Paper;)V"⟩, 2) := ⟨⟨by decide +kernel, by decide +kernel⟩, List.mem_of_getElem? (i := 42) (by decide +kernel), List.mem_of_getElem? (i := 429) (by decide +kernel), List.mem_of_getElem? (i := 430) (by decide +kernel)⟩
theorem lw_p5 : lw_okq (⟨"TreatyHouse$Bond", "findStrongObjection", "(LTreatyHouse$Register;)V"⟩, 12) := ⟨⟨by decide +kernel, by decide +kernel⟩, List.mem_of_getElem? (i := 58) (by decide +kernel), List.mem_of_getElem? (i := 444) (by decide +kernel), List.mem_of_getElem? (i := 445) (by decide +kernel)⟩
theorem lw_p6 : lw_okq (⟨"TreatyHouse$Bond", "dividesThem", "(LTreatyHouse$Paper;)Z"⟩, 12) := ⟨⟨by decide +kernel, by decide +kernel⟩, List.mem_of_getElem? (i := 58) (by decide +kernel), List.mem_of_getElem? (i := 449) (by decide +kernel), List.mem_of_getElem? (i := 450) (by decide +kernel)⟩
theorem lw_p7 : lw_okq (⟨"TreatyHouse$Bond", "findReserve", "(LTreatyHouse$Register;I)V"⟩, 12) := ⟨⟨by decide +kernel, by decide +kernel⟩, List.mem_of_getElem? (i := 58) (by decide +kernel), List.mem_of_getElem? (i := 457) (by decide +kernel), List.mem_of_getElem? (i := 458) (by decide +kernel)⟩
theorem lw_p8 : lw_okq (⟨"TreatyHouse$Bond", "settleReserve", "()V"⟩, 12) := ⟨⟨by decide +kernel, by decide +kernel⟩, List.mem_of_getElem? (i := 58) (by decide +kernel), List.mem_of_getElem? (i := 466) (by decide +kernel), List.mem_of_getElem? (i := 467) (by decide +kernel)⟩
theorem lw_p9 : lw_okq (⟨"TreatyHouse$Bond", "findChange", "(LTreatyHouse$Register;LTreatyHouse$Agreement;II)V"⟩, 12) := ⟨⟨by decide +kernel, by decide +kernel⟩, List.mem_of_getElem? (i := 58) (by decide +kernel), List.mem_of_getElem? (i := 474) (by decide +kernel), List.mem_of_getElem? (i := 475) (by decide +kernel)⟩
theorem lw_p10 : lw_okq (⟨"TreatyHouse$Bond", "takeChange", "(LTreatyHouse$Paper;)V"⟩, 12) := ⟨⟨by decide +kernel, by decide +kernel⟩, List.mem_of_getElem? (i := 58) (by decide +kernel), List.mem_of_getElem? (i := 478) (by decide +kernel), List.mem_of_getElem? (i := 479) (by decide +kernel)⟩
theorem lw_p11 : lw_okq (⟨"TreatyHouse$Bond", "cite", "(LTreatyHouse$Paper;)V"⟩, 12) := ⟨⟨by decide +kernel, by decide +kernel⟩, List.mem_of_getElem? (i := 58) (by decide +kernel), List.mem_of_getElem? (i := 498) (by decide +kernel), List.mem_of_getElem? (i := 499) (by decide +kernel)⟩
theorem lw_p12 : lw_okq (⟨"TreatyHouse$Bond", "citeNeeded", "()V"⟩, 12) := ⟨⟨by decide +kernel, by decide +kernel⟩, List.mem_of_getElem? (i := 58) (by decide +kernel), List.mem_of_getElem? (i := 502) (by decide +kernel), List.mem_of_getElem? (i := 503) (by decide +kernel)⟩
theorem lw_p13 : lw_okq (⟨"TreatyHouse$Bond", "citeSources", "(LTreatyHouse$Register;)V"⟩, 12) := ⟨⟨by decide +kernel, by decide +kernel⟩, List.mem_of_getElem? (i := 58) (by decide +kernel), List.mem_of_getElem? (i := 506) (by decide +kernel), List.mem_of_getElem? (i := 507) (by decide +kernel)⟩
theorem lw_p14 : lw_okq (⟨"TreatyHouse$Bond", "nthCited", "(I)I"⟩, 12) := ⟨⟨by decide +kernel, by decide +kernel⟩, List.mem_of_getElem? (i := 58) (by decide +kernel), List.mem_of_getElem? (i := 510) (by decide +kernel), List.mem_of_getElem? (i := 511) (by decide +kernel)⟩
theorem lw_p15 : lw_okq (⟨"TreatyHouse", "annexAt", "(II)LTreatyHouse$Annex;"⟩, 7) := ⟨⟨by decide +kernel, by decide +kernel⟩, List.mem_of_getElem? (i := 13) (by decide +kernel), List.mem_of_getElem? (i := 590) (by decide +kernel), List.mem_of_getElem? (i := 591) (by decide +kernel)⟩
def lw_privs_1 : List (MethodName × Nat) := [(⟨"TreatyHouse", "agreementAt", "(I)LTreatyHouse$Agreement;"⟩, 7), (⟨"TreatyHouse", "isParty", "(I)Z"⟩, 7), (⟨"TreatyHouse", "settle", "(IIIIII)Z"⟩, 7), (⟨"TreatyHouse$Bond", "forget", "()V"⟩, 12), (⟨"TreatyHouse$Roll", "enter", "(LTreatyHouse$Paper;)V"⟩, 2), (⟨"TreatyHouse$Bond", "findStrongObjection", "(LTreatyHouse$Register;)V"⟩, 12), (⟨"TreatyHouse$Bond", "dividesThem", "(LTreatyHouse$Paper;)Z"⟩, 12), (⟨"TreatyHouse$Bond", "findReserve", "(LTreatyHouse$Register;I)V"⟩, 12), (⟨"TreatyHouse$Bond", "settleReserve", "()V"⟩, 12), (⟨"TreatyHouse$Bond", "findChange", "(LTreatyHouse$Register;LTreatyHouse$Agreement;II)V"⟩, 12), (⟨"TreatyHouse$Bond", "takeChange", "(LTreatyHouse$Paper;)V"⟩, 12), (⟨"TreatyHouse$Bond", "cite", "(LTreatyHouse$Paper;)V"⟩, 12), (⟨"TreatyHouse$Bond", "citeNeeded", "()V"⟩, 12), (⟨"TreatyHouse$Bond", "citeSources", "(LTreatyHouse$Register;)V"⟩, 12), (⟨"TreatyHouse$Bond", "nthCited", "(I)I"⟩, 12), (⟨"TreatyHouse", "annexAt", "(II)LTreatyHouse$Annex;"⟩, 7)]
theorem lw_r1 : ∀ q ∈ lw_privs_1, lw_okq q := List.forall_mem_cons.mpr ⟨lw_p0, List.forall_mem_cons.mpr ⟨lw_p1, List.forall_mem_cons.mpr ⟨lw_p2, List.forall_mem_cons.mpr ⟨lw_p3, List.forall_mem_cons.mpr ⟨lw_p4, List.forall_mem_cons.mpr ⟨lw_p5, List.forall_mem_cons.mpr ⟨lw_p6, List.forall_mem_cons.mpr ⟨lw_p7, List.forall_mem_cons.mpr ⟨lw_p8, List.forall_mem_cons.mpr ⟨lw_p9, List.forall_mem_cons.mpr ⟨lw_p10, List.forall_mem_cons.mpr ⟨lw_p11, List.forall_mem_cons.mpr ⟨lw_p12, List.forall_mem_cons.mpr ⟨lw_p13, List.forall_mem_cons.mpr ⟨lw_p14, List.forall_mem_cons.mpr ⟨lw_p15, fun _ h => absurd h List.not_mem_nil⟩⟩⟩⟩⟩⟩⟩⟩⟩⟩⟩⟩⟩⟩⟩⟩
theorem lw_p16 : lw_okq (⟨"TreatyHouse$Annex", "cut", "(J)J"⟩, 2) := ⟨⟨by decide +kernel, by decide +kernel⟩, List.mem_of_getElem? (i := 566) (by decide +kernel), List.mem_of_getElem? (i := 606) (by decide +kernel), List.mem_of_getElem? (i := 607) (by decide +kernel)⟩
theorem lw_p17 : lw_okq (⟨"TreatyHouseModel", "isArticle", "(II)Z"⟩, 28) := ⟨⟨by decide +kernel, by decide +kernel⟩, List.mem_of_getElem? (i := 641) (by decide +kernel), List.mem_of_getElem? (i := 744) (by decide +kernel), List.mem_of_getElem? (i := 745) (by decide +kernel)⟩
theorem lw_p18 : lw_okq (⟨"TreatyHouseModel", "isAgreement", "(I)Z"⟩, 28) := ⟨⟨by decide +kernel, by decide +kernel⟩, List.mem_of_getElem? (i := 641) (by decide +kernel), List.mem_of_getElem? (i := 748) (by decide +kernel), List.mem_of_getElem? (i := 749) (by decide +kernel)⟩
theorem lw_p19 : lw_okq (⟨"TreatyHouseModel", "isParty", "(I)Z"⟩, 28) := ⟨⟨by decide +kernel, by decide +kernel⟩, List.mem_of_getElem? (i := 641) (by decide +kernel), List.mem_of_getElem? (i := 762) (by decide +kernel), List.mem_of_getElem? (i := 763) (by decide +kernel)⟩
theorem lw_p20 : lw_okq (⟨"TreatyHouseModel", "isFull", "()Z"⟩, 28) := ⟨⟨by decide +kernel, by decide +kernel⟩, List.mem_of_getElem? (i := 641) (by decide +kernel), List.mem_of_getElem? (i := 766) (by decide +kernel), List.mem_of_getElem? (i := 767) (by decide +kernel)⟩
theorem lw_p21 : lw_okq (⟨"TreatyHouseModel", "hasSign", "(II)Z"⟩, 28) := ⟨⟨by decide +kernel, by decide +kernel⟩, List.mem_of_getElem? (i := 641) (by decide +kernel), List.mem_of_getElem? (i := 770) (by decide +kernel), List.mem_of_getElem? (i := 771) (by decide +kernel)⟩
theorem lw_p22 : lw_okq (⟨"TreatyHouseModel", "lodge", "(IIIIII)I"⟩, 28) := ⟨⟨by decide +kernel, by decide +kernel⟩, List.mem_of_getElem? (i := 641) (by decide +kernel), List.mem_of_getElem? (i := 774) (by decide +kernel), List.mem_of_getElem? (i := 775) (by decide +kernel)⟩
theorem lw_p23 : lw_okq (⟨"TreatyHouseModel", "belongs", "(II)I"⟩, 28) := ⟨⟨by decide +kernel, by decide +kernel⟩, List.mem_of_getElem? (i := 641) (by decide +kernel), List.mem_of_getElem? (i := 782) (by decide +kernel), List.mem_of_getElem? (i := 783) (by decide +kernel)⟩
theorem lw_p24 : lw_okq (⟨"TreatyHouseModel", "isMembership", "(I)Z"⟩, 28) := ⟨⟨by decide +kernel, by decide +kernel⟩, List.mem_of_getElem? (i := 641) (by decide +kernel), List.mem_of_getElem? (i := 786) (by decide +kernel), List.mem_of_getElem? (i := 787) (by decide +kernel)⟩
theorem lw_p25 : lw_okq (⟨"TreatyHouseModel", "isPaper", "(I)Z"⟩, 28) := ⟨⟨by decide +kernel, by decide +kernel⟩, List.mem_of_getElem? (i := 641) (by decide +kernel), List.mem_of_getElem? (i := 802) (by decide +kernel), List.mem_of_getElem? (i := 803) (by decide +kernel)⟩
theorem lw_p26 : lw_okq (⟨"TreatyHouseModel", "isHeld", "(III)Z"⟩, 28) := ⟨⟨by decide +kernel, by decide +kernel⟩, List.mem_of_getElem? (i := 641) (by decide +kernel), List.mem_of_getElem? (i := 806) (by decide +kernel), List.mem_of_getElem? (i := 807) (by decide +kernel)⟩
theorem lw_p27 : lw_okq (⟨"TreatyHouseModel", "stands", "(III)Z"⟩, 28) := ⟨⟨by decide +kernel, by decide +kernel⟩, List.mem_of_getElem? (i := 641) (by decide +kernel), List.mem_of_getElem? (i := 810) (by decide +kernel), List.mem_of_getElem? (i := 811) (by decide +kernel)⟩
theorem lw_p28 : lw_okq (⟨"TreatyHouseModel", "isSaid", "(IIII)Z"⟩, 28) := ⟨⟨by decide +kernel, by decide +kernel⟩, List.mem_of_getElem? (i := 641) (by decide +kernel), List.mem_of_getElem? (i := 814) (by decide +kernel), List.mem_of_getElem? (i := 815) (by decide +kernel)⟩
theorem lw_p29 : lw_okq (⟨"TreatyHouseModel", "isWithdrawn", "(I)Z"⟩, 28) := ⟨⟨by decide +kernel, by decide +kernel⟩, List.mem_of_getElem? (i := 641) (by decide +kernel), List.mem_of_getElem? (i := 818) (by decide +kernel), List.mem_of_getElem? (i := 819) (by decide +kernel)⟩
theorem lw_p30 : lw_okq (⟨"TreatyHouseModel", "isAsked", "(IIII)Z"⟩, 28) := ⟨⟨by decide +kernel, by decide +kernel⟩, List.mem_of_getElem? (i := 641) (by decide +kernel), List.mem_of_getElem? (i := 850) (by decide +kernel), List.mem_of_getElem? (i := 851) (by decide +kernel)⟩
theorem lw_p31 : lw_okq (⟨"TreatyHouseModel", "finds", "(IIIIII)V"⟩, 28) := ⟨⟨by decide +kernel, by decide +kernel⟩, List.mem_of_getElem? (i := 641) (by decide +kernel), List.mem_of_getElem? (i := 857) (by decide +kernel), List.mem_of_getElem? (i := 858) (by decide +kernel)⟩
def lw_privs_2 : List (MethodName × Nat) := [(⟨"TreatyHouse$Annex", "cut", "(J)J"⟩, 2), (⟨"TreatyHouseModel", "isArticle", "(II)Z"⟩, 28), (⟨"TreatyHouseModel", "isAgreement", "(I)Z"⟩, 28), (⟨"TreatyHouseModel", "isParty", "(I)Z"⟩, 28), (⟨"TreatyHouseModel", "isFull", "()Z"⟩, 28), (⟨"TreatyHouseModel", "hasSign", "(II)Z"⟩, 28), (⟨"TreatyHouseModel", "lodge", "(IIIIII)I"⟩, 28), (⟨"TreatyHouseModel", "belongs", "(II)I"⟩, 28), (⟨"TreatyHouseModel", "isMembership", "(I)Z"⟩, 28), (⟨"TreatyHouseModel", "isPaper", "(I)Z"⟩, 28), (⟨"TreatyHouseModel", "isHeld", "(III)Z"⟩, 28), (⟨"TreatyHouseModel", "stands", "(III)Z"⟩, 28), (⟨"TreatyHouseModel", "isSaid", "(IIII)Z"⟩, 28), (⟨"TreatyHouseModel", "isWithdrawn", "(I)Z"⟩, 28), (⟨"TreatyHouseModel", "isAsked", "(IIII)Z"⟩, 28), (⟨"TreatyHouseModel", "finds", "(IIIIII)V"⟩, 28)]
theorem lw_r2 : ∀ q ∈ lw_privs_2, lw_okq q := List.forall_mem_cons.mpr ⟨lw_p16, List.forall_mem_cons.mpr ⟨lw_p17, List.forall_mem_cons.mpr ⟨lw_p18, List.forall_mem_cons.mpr ⟨lw_p19, List.forall_mem_cons.mpr ⟨lw_p20, List.forall_mem_cons.mpr ⟨lw_p21, List.forall_mem_cons.mpr ⟨lw_p22, List.forall_mem_cons.mpr ⟨lw_p23, List.forall_mem_cons.mpr ⟨lw_p24, List.forall_mem_cons.mpr ⟨lw_p25, List.forall_mem_cons.mpr ⟨lw_p26, List.forall_mem_cons.mpr ⟨lw_p27, List.forall_mem_cons.mpr ⟨lw_p28, List.forall_mem_cons.mpr ⟨lw_p29, List.forall_mem_cons.mpr ⟨lw_p30, List.forall_mem_cons.mpr ⟨lw_p31, fun _ h => absurd h List.not_mem_nil⟩⟩⟩⟩⟩⟩⟩⟩⟩⟩⟩⟩⟩⟩⟩⟩
theorem lw_p32 : lw_okq (⟨"TreatyHouseModel", "memberOf", "(IIII)I"⟩, 28) := ⟨⟨by decide +kernel, by decide +kernel⟩, List.mem_of_getElem? (i := 641) (by decide +kernel), List.mem_of_getElem? (i := 861) (by decide +kernel), List.mem_of_getElem? (i := 862) (by decide +kernel)⟩
theorem lw_p33 : lw_okq (⟨"TreatyHouseModel", "manyMembers", "(III)I"⟩, 28) := ⟨⟨by decide +kernel, by decide +kernel⟩, List.mem_of_getElem? (i := 641) (by decide +kernel), List.mem_of_getElem? (i := 865) (by decide +kernel), List.mem_of_getElem? (i := 866) (by decide +kernel)⟩
theorem lw_p34 : lw_okq (⟨"TreatyHouseModel", "because", "(I)V"⟩, 28) := ⟨⟨by decide +kernel, by decide +kernel⟩, List.mem_of_getElem? (i := 641) (by decide +kernel), List.mem_of_getElem? (i := 869) (by decide +kernel), List.mem_of_getElem? (i := 870) (by decide +kernel)⟩
theorem lw_p35 : lw_okq (⟨"TreatyHouseModel", "strong", "(IIII)I"⟩, 28) := ⟨⟨by decide +kernel, by decide +kernel⟩, List.mem_of_getElem? (i := 641) (by decide +kernel), List.mem_of_getElem? (i := 873) (by decide +kernel), List.mem_of_getElem? (i := 874) (by decide +kernel)⟩
theorem lw_p36 : lw_okq (⟨"TreatyHouseModel", "hasPaper", "(IIII)Z"⟩, 28) := ⟨⟨by decide +kernel, by decide +kernel⟩, List.mem_of_getElem? (i := 641) (by decide +kernel), List.mem_of_getElem? (i := 877) (by decide +kernel), List.mem_of_getElem? (i := 878) (by decide +kernel)⟩
theorem lw_p37 : lw_okq (⟨"TreatyHouseModel", "leans", "()V"⟩, 28) := ⟨⟨by decide +kernel, by decide +kernel⟩, List.mem_of_getElem? (i := 641) (by decide +kernel), List.mem_of_getElem? (i := 884) (by decide +kernel), List.mem_of_getElem? (i := 885) (by decide +kernel)⟩
theorem lw_p38 : lw_okq (⟨"TreatyHouseModel", "leastTo", "(IIIII)I"⟩, 28) := ⟨⟨by decide +kernel, by decide +kernel⟩, List.mem_of_getElem? (i := 641) (by decide +kernel), List.mem_of_getElem? (i := 888) (by decide +kernel), List.mem_of_getElem? (i := 889) (by decide +kernel)⟩
theorem lw_p39 : lw_okq (⟨"TreatyHouseModel", "changes", "(IIIIII)V"⟩, 28) := ⟨⟨by decide +kernel, by decide +kernel⟩, List.mem_of_getElem? (i := 641) (by decide +kernel), List.mem_of_getElem? (i := 892) (by decide +kernel), List.mem_of_getElem? (i := 893) (by decide +kernel)⟩
theorem lw_p40 : lw_okq (⟨"TreatyHouseModel", "effectBelow", "(I)I"⟩, 28) := ⟨⟨by decide +kernel, by decide +kernel⟩, List.mem_of_getElem? (i := 641) (by decide +kernel), List.mem_of_getElem? (i := 908) (by decide +kernel), List.mem_of_getElem? (i := 909) (by decide +kernel)⟩
theorem lw_p41 : lw_okq (⟨"TreatyHouseModel", "isAnnex", "(II)Z"⟩, 28) := ⟨⟨by decide +kernel, by decide +kernel⟩, List.mem_of_getElem? (i := 641) (by decide +kernel), List.mem_of_getElem? (i := 944) (by decide +kernel), List.mem_of_getElem? (i := 945) (by decide +kernel)⟩
theorem lw_p42 : lw_okq (⟨"TreatyHouseModel", "wrong", "(III)I"⟩, 28) := ⟨⟨by decide +kernel, by decide +kernel⟩, List.mem_of_getElem? (i := 641) (by decide +kernel), List.mem_of_getElem? (i := 952) (by decide +kernel), List.mem_of_getElem? (i := 953) (by decide +kernel)⟩
def lw_privs_3 : List (MethodName × Nat) := [(⟨"TreatyHouseModel", "memberOf", "(IIII)I"⟩, 28), (⟨"TreatyHouseModel", "manyMembers", "(III)I"⟩, 28), (⟨"TreatyHouseModel", "because", "(I)V"⟩, 28), (⟨"TreatyHouseModel", "strong", "(IIII)I"⟩, 28), (⟨"TreatyHouseModel", "hasPaper", "(IIII)Z"⟩, 28), (⟨"TreatyHouseModel", "leans", "()V"⟩, 28), (⟨"TreatyHouseModel", "leastTo", "(IIIII)I"⟩, 28), (⟨"TreatyHouseModel", "changes", "(IIIIII)V"⟩, 28), (⟨"TreatyHouseModel", "effectBelow", "(I)I"⟩, 28), (⟨"TreatyHouseModel", "isAnnex", "(II)Z"⟩, 28), (⟨"TreatyHouseModel", "wrong", "(III)I"⟩, 28)]
theorem lw_r3 : ∀ q ∈ lw_privs_3, lw_okq q := List.forall_mem_cons.mpr ⟨lw_p32, List.forall_mem_cons.mpr ⟨lw_p33, List.forall_mem_cons.mpr ⟨lw_p34, List.forall_mem_cons.mpr ⟨lw_p35, List.forall_mem_cons.mpr ⟨lw_p36, List.forall_mem_cons.mpr ⟨lw_p37, List.forall_mem_cons.mpr ⟨lw_p38, List.forall_mem_cons.mpr ⟨lw_p39, List.forall_mem_cons.mpr ⟨lw_p40, List.forall_mem_cons.mpr ⟨lw_p41, List.forall_mem_cons.mpr ⟨lw_p42, fun _ h => absurd h List.not_mem_nil⟩⟩⟩⟩⟩⟩⟩⟩⟩⟩⟩
def lw_privs : List (MethodName × Nat) := lw_privs_1 ++ (lw_privs_2 ++ (lw_privs_3))
def lw_tbl : List Cond := k2_sels lw_privs ++ tables_1
theorem lw_privs_ok : ∀ q ∈ lw_privs, lw_okq q := by
  show ∀ q ∈ lw_privs_1 ++ (lw_privs_2 ++ (lw_privs_3)), lw_okq q
  exact List.forall_mem_append.mpr ⟨lw_r1, List.forall_mem_append.mpr ⟨lw_r2, lw_r3⟩⟩
end
section
def RX0 : String := "TreatyHouse$Agreement"
def TX0 : u_T := fun k => match k with
  | 0 => ("TreatyHouse$Agreement", "number", "I", true)
  | 1 => ("TreatyHouse$Agreement", "needed", "I", true)
  | 2 => ("TreatyHouse$Agreement", "wait", "I", true)
  | 3 => ("TreatyHouse$Agreement", "span", "I", true)
  | 4 => ("TreatyHouse$Agreement", "wordings", "[I", true)
  | 5 => ("TreatyHouse$Agreement", "annexes", "[LTreatyHouse$Annex;", true)
  | _ => ("TreatyHouse$Agreement", "annexCount", "I", false)
def tyX0 : Nat → FieldType := fun k => match k with
  | 0 => .int
  | 1 => .int
  | 2 => .int
  | 3 => .int
  | 4 => .array .int
  | 5 => .array (.object "TreatyHouse$Annex")
  | _ => .int
abbrev wsX00 : List Cond := u_ws RX0 TX0 7
theorem nmX0 : ∀ a, a < 7 → ∀ b, b < 7 → a ≠ b → (TX0 a).2.1 ≠ (TX0 b).2.1 := by decide +kernel
theorem tyX0_ok : ∀ k, k < 7 → parseFieldDescriptor (TX0 k).2.2.1 = some (tyX0 k) := by decide +kernel
abbrev cX0_init : ByteArray := prog_2_method_1_code
def yX0_init : MethodName := ⟨RX0, "<init>", "(IIIII)V"⟩
abbrev cX0_hasArticle : ByteArray := prog_2_method_2_code
def yX0_hasArticle : MethodName := ⟨RX0, "hasArticle", "(I)Z"⟩
abbrev cX0_wordsOf : ByteArray := prog_2_method_3_code
def yX0_wordsOf : MethodName := ⟨RX0, "wordsOf", "(I)I"⟩
abbrev cX0_reword : ByteArray := prog_2_method_4_code
def yX0_reword : MethodName := ⟨RX0, "reword", "(II)I"⟩
abbrev cX0_annexAt : ByteArray := prog_2_method_5_code
def yX0_annexAt : MethodName := ⟨RX0, "annexAt", "(I)LTreatyHouse$Annex;"⟩
abbrev cX0_addAnnex : ByteArray := prog_2_method_6_code
def yX0_addAnnex : MethodName := ⟨RX0, "addAnnex", "(LTreatyHouse$Annex;)I"⟩
abbrev cX0_detail : ByteArray := prog_2_method_7_code
def yX0_detail : MethodName := ⟨RX0, "detail", "(I)I"⟩
def RX1 : String := "TreatyHouse$Annex"
def TX1 : u_T := fun k => match k with
  | 0 => ("TreatyHouse$Annex", "width", "I", true)
  | _ => ("TreatyHouse$Annex", "numbers", "[J", false)
def tyX1 : Nat → FieldType := fun k => match k with
  | 0 => .int
  | _ => .array .long
abbrev wsX10 : List Cond := u_ws RX1 TX1 2
theorem nmX1 : ∀ a, a < 2 → ∀ b, b < 2 → a ≠ b → (TX1 a).2.1 ≠ (TX1 b).2.1 := by decide +kernel
theorem tyX1_ok : ∀ k, k < 2 → parseFieldDescriptor (TX1 k).2.2.1 = some (tyX1 k) := by decide +kernel
abbrev cX1_init : ByteArray := prog_3_method_1_code
def yX1_init : MethodName := ⟨RX1, "<init>", "(II)V"⟩
abbrev cX1_put : ByteArray := prog_3_method_2_code
def yX1_put : MethodName := ⟨RX1, "put", "(IJ)I"⟩
abbrev cX1_get : ByteArray := prog_3_method_3_code
def yX1_get : MethodName := ⟨RX1, "get", "(I)J"⟩
abbrev cX1_hasRange : ByteArray := prog_3_method_4_code
def yX1_hasRange : MethodName := ⟨RX1, "hasRange", "(II)Z"⟩
abbrev cX1_cut : ByteArray := prog_3_method_5_code
def yX1_cut : MethodName := ⟨RX1, "cut", "(J)J"⟩
def RX2 : String := "TreatyHouse$Bond"
def TX2 : u_T := fun k => match k with
  | 0 => ("TreatyHouse$Bond", "roll", "LTreatyHouse$Roll;", true)
  | 1 => ("TreatyHouse$Bond", "one", "LTreatyHouse$Side;", true)
  | 2 => ("TreatyHouse$Bond", "other", "LTreatyHouse$Side;", true)
  | 3 => ("TreatyHouse$Bond", "cited", "[Z", true)
  | 4 => ("TreatyHouse$Bond", "answer", "I", false)
  | 5 => ("TreatyHouse$Bond", "words", "I", false)
  | 6 => ("TreatyHouse$Bond", "needed", "I", false)
  | 7 => ("TreatyHouse$Bond", "objection", "LTreatyHouse$Paper;", false)
  | 8 => ("TreatyHouse$Bond", "reserve", "LTreatyHouse$Paper;", false)
  | 9 => ("TreatyHouse$Bond", "change", "LTreatyHouse$Paper;", false)
  | 10 => ("TreatyHouse$Bond", "consentOfOne", "LTreatyHouse$Paper;", false)
  | _ => ("TreatyHouse$Bond", "consentOfOther", "LTreatyHouse$Paper;", false)
def tyX2 : Nat → FieldType := fun k => match k with
  | 0 => .object "TreatyHouse$Roll"
  | 1 => .object "TreatyHouse$Side"
  | 2 => .object "TreatyHouse$Side"
  | 3 => .array .boolean
  | 4 => .int
  | 5 => .int
  | 6 => .int
  | 7 => .object "TreatyHouse$Paper"
  | 8 => .object "TreatyHouse$Paper"
  | 9 => .object "TreatyHouse$Paper"
  | 10 => .object "TreatyHouse$Paper"
  | _ => .object "TreatyHouse$Paper"
abbrev wsX20 : List Cond := u_ws RX2 TX2 12
theorem nmX2 : ∀ a, a < 12 → ∀ b, b < 12 → a ≠ b → (TX2 a).2.1 ≠ (TX2 b).2.1 := by decide +kernel
theorem tyX2_ok : ∀ k, k < 12 → parseFieldDescriptor (TX2 k).2.2.1 = some (tyX2 k) := by decide +kernel
abbrev cX2_init : ByteArray := prog_4_method_1_code
def yX2_init : MethodName := ⟨RX2, "<init>", "()V"⟩
abbrev cX2_settle : ByteArray := prog_4_method_2_code
def yX2_settle : MethodName := ⟨RX2, "settle", "(LTreatyHouse$Register;IILTreatyHouse$Agreement;III)V"⟩
abbrev cX2_forget : ByteArray := prog_4_method_3_code
def yX2_forget : MethodName := ⟨RX2, "forget", "()V"⟩
abbrev cX2_findStrongObjection : ByteArray := prog_4_method_4_code
def yX2_findStrongObjection : MethodName := ⟨RX2, "findStrongObjection", "(LTreatyHouse$Register;)V"⟩
abbrev cX2_dividesThem : ByteArray := prog_4_method_5_code
def yX2_dividesThem : MethodName := ⟨RX2, "dividesThem", "(LTreatyHouse$Paper;)Z"⟩
abbrev cX2_findReserve : ByteArray := prog_4_method_6_code
def yX2_findReserve : MethodName := ⟨RX2, "findReserve", "(LTreatyHouse$Register;I)V"⟩
abbrev cX2_settleReserve : ByteArray := prog_4_method_7_code
def yX2_settleReserve : MethodName := ⟨RX2, "settleReserve", "()V"⟩
abbrev cX2_findChange : ByteArray := prog_4_method_8_code
def yX2_findChange : MethodName := ⟨RX2, "findChange", "(LTreatyHouse$Register;LTreatyHouse$Agreement;II)V"⟩
abbrev cX2_takeChange : ByteArray := prog_4_method_9_code
def yX2_takeChange : MethodName := ⟨RX2, "takeChange", "(LTreatyHouse$Paper;)V"⟩
abbrev cX2_reason : ByteArray := prog_4_method_10_code
def yX2_reason : MethodName := ⟨RX2, "reason", "(LTreatyHouse$Register;I)I"⟩
abbrev cX2_cite : ByteArray := prog_4_method_11_code
def yX2_cite : MethodName := ⟨RX2, "cite", "(LTreatyHouse$Paper;)V"⟩
abbrev cX2_citeNeeded : ByteArray := prog_4_method_12_code
def yX2_citeNeeded : MethodName := ⟨RX2, "citeNeeded", "()V"⟩
abbrev cX2_citeSources : ByteArray := prog_4_method_13_code
def yX2_citeSources : MethodName := ⟨RX2, "citeSources", "(LTreatyHouse$Register;)V"⟩
abbrev cX2_nthCited : ByteArray := prog_4_method_14_code
def yX2_nthCited : MethodName := ⟨RX2, "nthCited", "(I)I"⟩
def RX3 : String := "TreatyHouse$Paper"
def TX3 : u_T := fun k => match k with
  | 0 => ("TreatyHouse$Paper", "number", "I", true)
  | 1 => ("TreatyHouse$Paper", "kind", "I", true)
  | 2 => ("TreatyHouse$Paper", "party", "I", true)
  | 3 => ("TreatyHouse$Paper", "about", "LTreatyHouse$Agreement;", true)
  | 4 => ("TreatyHouse$Paper", "lodged", "I", true)
  | 5 => ("TreatyHouse$Paper", "effect", "I", true)
  | 6 => ("TreatyHouse$Paper", "names", "LTreatyHouse$Paper;", false)
  | 7 => ("TreatyHouse$Paper", "of", "LTreatyHouse$Paper;", false)
  | 8 => ("TreatyHouse$Paper", "article", "I", false)
  | 9 => ("TreatyHouse$Paper", "words", "I", false)
  | 10 => ("TreatyHouse$Paper", "marked", "Z", false)
  | 11 => ("TreatyHouse$Paper", "value", "J", false)
  | 12 => ("TreatyHouse$Paper", "endedBy", "LTreatyHouse$Paper;", false)
  | 13 => ("TreatyHouse$Paper", "latestAnswer", "LTreatyHouse$Paper;", false)
  | _ => ("TreatyHouse$Paper", "earlierAnswer", "LTreatyHouse$Paper;", false)
def tyX3 : Nat → FieldType := fun k => match k with
  | 0 => .int
  | 1 => .int
  | 2 => .int
  | 3 => .object "TreatyHouse$Agreement"
  | 4 => .int
  | 5 => .int
  | 6 => .object "TreatyHouse$Paper"
  | 7 => .object "TreatyHouse$Paper"
  | 8 => .int
  | 9 => .int
  | 10 => .boolean
  | 11 => .long
  | 12 => .object "TreatyHouse$Paper"
  | 13 => .object "TreatyHouse$Paper"
  | _ => .object "TreatyHouse$Paper"
abbrev wsX30 : List Cond := u_ws RX3 TX3 15
theorem nmX3 : ∀ a, a < 15 → ∀ b, b < 15 → a ≠ b → (TX3 a).2.1 ≠ (TX3 b).2.1 := by decide +kernel
theorem tyX3_ok : ∀ k, k < 15 → parseFieldDescriptor (TX3 k).2.2.1 = some (tyX3 k) := by decide +kernel
abbrev cX3_init : ByteArray := prog_5_method_1_code
def yX3_init : MethodName := ⟨RX3, "<init>", "(IIILTreatyHouse$Agreement;II)V"⟩
abbrev cX3_isMembership : ByteArray := prog_5_method_2_code
def yX3_isMembership : MethodName := ⟨RX3, "isMembership", "()Z"⟩
abbrev cX3_isWithdrawable : ByteArray := prog_5_method_3_code
def yX3_isWithdrawable : MethodName := ⟨RX3, "isWithdrawable", "()Z"⟩
abbrev cX3_end : ByteArray := prog_5_method_4_code
def yX3_end : MethodName := ⟨RX3, "end", "(LTreatyHouse$Paper;)V"⟩
abbrev cX3_answer : ByteArray := prog_5_method_5_code
def yX3_answer : MethodName := ⟨RX3, "answer", "(LTreatyHouse$Paper;)V"⟩
abbrev cX3_release : ByteArray := prog_5_method_6_code
def yX3_release : MethodName := ⟨RX3, "release", "()V"⟩
abbrev cX3_isAnsweredBy : ByteArray := prog_5_method_7_code
def yX3_isAnsweredBy : MethodName := ⟨RX3, "isAnsweredBy", "(LTreatyHouse$Paper;)Z"⟩
abbrev cX3_stands : ByteArray := prog_5_method_8_code
def yX3_stands : MethodName := ⟨RX3, "stands", "(II)Z"⟩
abbrev cX3_isHeldBy : ByteArray := prog_5_method_9_code
def yX3_isHeldBy : MethodName := ⟨RX3, "isHeldBy", "(LTreatyHouse$Paper;I)Z"⟩
abbrev cX3_detail : ByteArray := prog_5_method_10_code
def yX3_detail : MethodName := ⟨RX3, "detail", "(I)I"⟩
def RX4 : String := "TreatyHouse$Register"
def TX4 : u_T := fun k => match k with
  | 0 => ("TreatyHouse$Register", "papers", "[LTreatyHouse$Paper;", true)
  | _ => ("TreatyHouse$Register", "length", "I", false)
def tyX4 : Nat → FieldType := fun k => match k with
  | 0 => .array (.object "TreatyHouse$Paper")
  | _ => .int
abbrev wsX40 : List Cond := u_ws RX4 TX4 2
theorem nmX4 : ∀ a, a < 2 → ∀ b, b < 2 → a ≠ b → (TX4 a).2.1 ≠ (TX4 b).2.1 := by decide +kernel
theorem tyX4_ok : ∀ k, k < 2 → parseFieldDescriptor (TX4 k).2.2.1 = some (tyX4 k) := by decide +kernel
abbrev cX4_init : ByteArray := prog_6_method_1_code
def yX4_init : MethodName := ⟨RX4, "<init>", "()V"⟩
abbrev cX4_isFull : ByteArray := prog_6_method_2_code
def yX4_isFull : MethodName := ⟨RX4, "isFull", "()Z"⟩
abbrev cX4_at : ByteArray := prog_6_method_3_code
def yX4_at : MethodName := ⟨RX4, "at", "(I)LTreatyHouse$Paper;"⟩
abbrev cX4_lodge : ByteArray := prog_6_method_4_code
def yX4_lodge : MethodName := ⟨RX4, "lodge", "(IILTreatyHouse$Agreement;II)LTreatyHouse$Paper;"⟩
abbrev cX4_dropLatest : ByteArray := prog_6_method_5_code
def yX4_dropLatest : MethodName := ⟨RX4, "dropLatest", "()V"⟩
abbrev cX4_hasAny : ByteArray := prog_6_method_6_code
def yX4_hasAny : MethodName := ⟨RX4, "hasAny", "(LTreatyHouse$Agreement;)Z"⟩
abbrev cX4_hasSign : ByteArray := prog_6_method_7_code
def yX4_hasSign : MethodName := ⟨RX4, "hasSign", "(ILTreatyHouse$Agreement;)Z"⟩
abbrev cX4_belonging : ByteArray := prog_6_method_8_code
def yX4_belonging : MethodName := ⟨RX4, "belonging", "(ILTreatyHouse$Agreement;)LTreatyHouse$Paper;"⟩
abbrev cX4_latestEffect : ByteArray := prog_6_method_9_code
def yX4_latestEffect : MethodName := ⟨RX4, "latestEffect", "(LTreatyHouse$Agreement;I)I"⟩
abbrev cX4_nthOfMember : ByteArray := prog_6_method_10_code
def yX4_nthOfMember : MethodName := ⟨RX4, "nthOfMember", "(LTreatyHouse$Paper;III)LTreatyHouse$Paper;"⟩
def RX5 : String := "TreatyHouse$Roll"
def TX5 : u_T := fun k => match k with
  | 0 => ("TreatyHouse$Roll", "memberships", "[LTreatyHouse$Paper;", true)
  | _ => ("TreatyHouse$Roll", "length", "I", false)
def tyX5 : Nat → FieldType := fun k => match k with
  | 0 => .array (.object "TreatyHouse$Paper")
  | _ => .int
abbrev wsX50 : List Cond := u_ws RX5 TX5 2
theorem nmX5 : ∀ a, a < 2 → ∀ b, b < 2 → a ≠ b → (TX5 a).2.1 ≠ (TX5 b).2.1 := by decide +kernel
theorem tyX5_ok : ∀ k, k < 2 → parseFieldDescriptor (TX5 k).2.2.1 = some (tyX5 k) := by decide +kernel
abbrev cX5_init : ByteArray := prog_7_method_1_code
def yX5_init : MethodName := ⟨RX5, "<init>", "()V"⟩
abbrev cX5_fill : ByteArray := prog_7_method_2_code
def yX5_fill : MethodName := ⟨RX5, "fill", "(LTreatyHouse$Register;LTreatyHouse$Agreement;II)V"⟩
abbrev cX5_enter : ByteArray := prog_7_method_3_code
def yX5_enter : MethodName := ⟨RX5, "enter", "(LTreatyHouse$Paper;)V"⟩
abbrev cX5_at : ByteArray := prog_7_method_4_code
def yX5_at : MethodName := ⟨RX5, "at", "(I)LTreatyHouse$Paper;"⟩
def RX6 : String := "TreatyHouse$Side"
def TX6 : u_T := fun k => match k with
  | 0 => ("TreatyHouse$Side", "had", "[Z", true)
  | _ => ("TreatyHouse$Side", "membership", "LTreatyHouse$Paper;", false)
def tyX6 : Nat → FieldType := fun k => match k with
  | 0 => .array .boolean
  | _ => .object "TreatyHouse$Paper"
abbrev wsX60 : List Cond := u_ws RX6 TX6 2
theorem nmX6 : ∀ a, a < 2 → ∀ b, b < 2 → a ≠ b → (TX6 a).2.1 ≠ (TX6 b).2.1 := by decide +kernel
theorem tyX6_ok : ∀ k, k < 2 → parseFieldDescriptor (TX6 k).2.2.1 = some (tyX6 k) := by decide +kernel
abbrev cX6_init : ByteArray := prog_8_method_1_code
def yX6_init : MethodName := ⟨RX6, "<init>", "()V"⟩
abbrev cX6_fill : ByteArray := prog_8_method_2_code
def yX6_fill : MethodName := ⟨RX6, "fill", "(LTreatyHouse$Register;LTreatyHouse$Paper;II)V"⟩
abbrev cX6_hasPaper : ByteArray := prog_8_method_3_code
def yX6_hasPaper : MethodName := ⟨RX6, "hasPaper", "(LTreatyHouse$Paper;)Z"⟩
abbrev cX6_hasReserve : ByteArray := prog_8_method_4_code
def yX6_hasReserve : MethodName := ⟨RX6, "hasReserve", "(LTreatyHouse$Paper;I)Z"⟩
abbrev cX6_leastAnswer : ByteArray := prog_8_method_5_code
def yX6_leastAnswer : MethodName := ⟨RX6, "leastAnswer", "(LTreatyHouse$Paper;Z)LTreatyHouse$Paper;"⟩
def RX7 : String := "TreatyHouse"
def TX7 : u_T := fun k => match k with
  | 0 => ("TreatyHouse", "agreements", "[LTreatyHouse$Agreement;", true)
  | 1 => ("TreatyHouse", "register", "LTreatyHouse$Register;", true)
  | 2 => ("TreatyHouse", "roll", "LTreatyHouse$Roll;", true)
  | 3 => ("TreatyHouse", "bond", "LTreatyHouse$Bond;", true)
  | 4 => ("TreatyHouse", "agreementCount", "I", false)
  | 5 => ("TreatyHouse", "partyCount", "I", false)
  | _ => ("TreatyHouse", "today", "I", false)
def tyX7 : Nat → FieldType := fun k => match k with
  | 0 => .array (.object "TreatyHouse$Agreement")
  | 1 => .object "TreatyHouse$Register"
  | 2 => .object "TreatyHouse$Roll"
  | 3 => .object "TreatyHouse$Bond"
  | 4 => .int
  | 5 => .int
  | _ => .int
abbrev wsX70 : List Cond := u_ws RX7 TX7 7
theorem nmX7 : ∀ a, a < 7 → ∀ b, b < 7 → a ≠ b → (TX7 a).2.1 ≠ (TX7 b).2.1 := by decide +kernel
theorem tyX7_ok : ∀ k, k < 7 → parseFieldDescriptor (TX7 k).2.2.1 = some (tyX7 k) := by decide +kernel
abbrev cX7_init : ByteArray := prog_1_method_1_code
def yX7_init : MethodName := ⟨RX7, "<init>", "()V"⟩
abbrev cX7_party : ByteArray := prog_1_method_2_code
def yX7_party : MethodName := ⟨RX7, "party", "()I"⟩
abbrev cX7_agreement : ByteArray := prog_1_method_3_code
def yX7_agreement : MethodName := ⟨RX7, "agreement", "(IIII)I"⟩
abbrev cX7_article : ByteArray := prog_1_method_4_code
def yX7_article : MethodName := ⟨RX7, "article", "(III)I"⟩
abbrev cX7_clock : ByteArray := prog_1_method_5_code
def yX7_clock : MethodName := ⟨RX7, "clock", "(I)Z"⟩
abbrev cX7_sign : ByteArray := prog_1_method_6_code
def yX7_sign : MethodName := ⟨RX7, "sign", "(II)I"⟩
abbrev cX7_ratify : ByteArray := prog_1_method_7_code
def yX7_ratify : MethodName := ⟨RX7, "ratify", "(II)I"⟩
abbrev cX7_join : ByteArray := prog_1_method_8_code
def yX7_join : MethodName := ⟨RX7, "join", "(II)I"⟩
abbrev cX7_reserve : ByteArray := prog_1_method_9_code
def yX7_reserve : MethodName := ⟨RX7, "reserve", "(IIII)I"⟩
abbrev cX7_object : ByteArray := prog_1_method_10_code
def yX7_object : MethodName := ⟨RX7, "object", "(IIZ)I"⟩
abbrev cX7_withdraw : ByteArray := prog_1_method_11_code
def yX7_withdraw : MethodName := ⟨RX7, "withdraw", "(II)I"⟩
abbrev cX7_change : ByteArray := prog_1_method_12_code
def yX7_change : MethodName := ⟨RX7, "change", "(IIII)I"⟩
abbrev cX7_consent : ByteArray := prog_1_method_13_code
def yX7_consent : MethodName := ⟨RX7, "consent", "(II)I"⟩
abbrev cX7_follow : ByteArray := prog_1_method_14_code
def yX7_follow : MethodName := ⟨RX7, "follow", "(IIIZ)I"⟩
abbrev cX7_note : ByteArray := prog_1_method_15_code
def yX7_note : MethodName := ⟨RX7, "note", "(J)I"⟩
abbrev cX7_undo : ByteArray := prog_1_method_16_code
def yX7_undo : MethodName := ⟨RX7, "undo", "()I"⟩
abbrev cX7_between : ByteArray := prog_1_method_17_code
def yX7_between : MethodName := ⟨RX7, "between", "(IIIIII)I"⟩
abbrev cX7_words : ByteArray := prog_1_method_18_code
def yX7_words : MethodName := ⟨RX7, "words", "(IIIIII)I"⟩
abbrev cX7_why : ByteArray := prog_1_method_19_code
def yX7_why : MethodName := ⟨RX7, "why", "(IIIIIII)I"⟩
abbrev cX7_first : ByteArray := prog_1_method_20_code
def yX7_first : MethodName := ⟨RX7, "first", "(IIII)I"⟩
abbrev cX7_member : ByteArray := prog_1_method_21_code
def yX7_member : MethodName := ⟨RX7, "member", "(IIII)I"⟩
abbrev cX7_members : ByteArray := prog_1_method_22_code
def yX7_members : MethodName := ⟨RX7, "members", "(III)I"⟩
abbrev cX7_since : ByteArray := prog_1_method_23_code
def yX7_since : MethodName := ⟨RX7, "since", "(I)I"⟩
abbrev cX7_has : ByteArray := prog_1_method_24_code
def yX7_has : MethodName := ⟨RX7, "has", "(IIIII)I"⟩
abbrev cX7_paper : ByteArray := prog_1_method_25_code
def yX7_paper : MethodName := ⟨RX7, "paper", "(II)I"⟩
abbrev cX7_noted : ByteArray := prog_1_method_26_code
def yX7_noted : MethodName := ⟨RX7, "noted", "(I)J"⟩
abbrev cX7_annex : ByteArray := prog_1_method_27_code
def yX7_annex : MethodName := ⟨RX7, "annex", "(III)I"⟩
abbrev cX7_tear : ByteArray := prog_1_method_28_code
def yX7_tear : MethodName := ⟨RX7, "tear", "(II)Z"⟩
abbrev cX7_write : ByteArray := prog_1_method_29_code
def yX7_write : MethodName := ⟨RX7, "write", "(IIIJ)I"⟩
abbrev cX7_read : ByteArray := prog_1_method_30_code
def yX7_read : MethodName := ⟨RX7, "read", "(III)J"⟩
abbrev cX7_size : ByteArray := prog_1_method_31_code
def yX7_size : MethodName := ⟨RX7, "size", "(II)I"⟩
abbrev cX7_copy : ByteArray := prog_1_method_32_code
def yX7_copy : MethodName := ⟨RX7, "copy", "(IIIIIII)I"⟩
abbrev cX7_count : ByteArray := prog_1_method_33_code
def yX7_count : MethodName := ⟨RX7, "count", "(I)I"⟩
abbrev cX7_settle : ByteArray := prog_1_method_34_code
def yX7_settle : MethodName := ⟨RX7, "settle", "(IIIIII)Z"⟩
abbrev cX7_agreementAt : ByteArray := prog_1_method_35_code
def yX7_agreementAt : MethodName := ⟨RX7, "agreementAt", "(I)LTreatyHouse$Agreement;"⟩
abbrev cX7_annexAt : ByteArray := prog_1_method_36_code
def yX7_annexAt : MethodName := ⟨RX7, "annexAt", "(II)LTreatyHouse$Annex;"⟩
abbrev cX7_isParty : ByteArray := prog_1_method_37_code
def yX7_isParty : MethodName := ⟨RX7, "isParty", "(I)Z"⟩
abbrev cX7_isDay : ByteArray := prog_1_method_38_code
def yX7_isDay : MethodName := ⟨RX7, "isDay", "(I)Z"⟩
abbrev cX7_isFrom : ByteArray := prog_1_method_39_code
def yX7_isFrom : MethodName := ⟨RX7, "isFrom", "(III)Z"⟩
abbrev cX7_numberOf : ByteArray := prog_1_method_40_code
def yX7_numberOf : MethodName := ⟨RX7, "numberOf", "(LTreatyHouse$Paper;)I"⟩
def RX8 : String := "TreatyHouseModel"
def TX8 : u_T := fun k => match k with
  | 0 => ("TreatyHouseModel", "clock", "I", false)
  | 1 => ("TreatyHouseModel", "parties", "I", false)
  | 2 => ("TreatyHouseModel", "agreements", "I", false)
  | 3 => ("TreatyHouseModel", "articles", "[I", true)
  | 4 => ("TreatyHouseModel", "needed", "[I", true)
  | 5 => ("TreatyHouseModel", "wait", "[I", true)
  | 6 => ("TreatyHouseModel", "span", "[I", true)
  | 7 => ("TreatyHouseModel", "text", "[I", true)
  | 8 => ("TreatyHouseModel", "papers", "I", false)
  | 9 => ("TreatyHouseModel", "kind", "[I", true)
  | 10 => ("TreatyHouseModel", "party", "[I", true)
  | 11 => ("TreatyHouseModel", "about", "[I", true)
  | 12 => ("TreatyHouseModel", "lodged", "[I", true)
  | 13 => ("TreatyHouseModel", "effect", "[I", true)
  | 14 => ("TreatyHouseModel", "names", "[I", true)
  | 15 => ("TreatyHouseModel", "of", "[I", true)
  | 16 => ("TreatyHouseModel", "article", "[I", true)
  | 17 => ("TreatyHouseModel", "said", "[I", true)
  | 18 => ("TreatyHouseModel", "flag", "[I", true)
  | 19 => ("TreatyHouseModel", "noted", "[J", true)
  | 20 => ("TreatyHouseModel", "answer", "I", false)
  | 21 => ("TreatyHouseModel", "answerWords", "I", false)
  | 22 => ("TreatyHouseModel", "why", "[Z", true)
  | 23 => ("TreatyHouseModel", "annexes", "[I", true)
  | 24 => ("TreatyHouseModel", "width", "[I", true)
  | 25 => ("TreatyHouseModel", "size", "[I", true)
  | 26 => ("TreatyHouseModel", "numbers", "[J", true)
  | _ => ("TreatyHouseModel", "taken", "[J", true)
def tyX8 : Nat → FieldType := fun k => match k with
  | 0 => .int
  | 1 => .int
  | 2 => .int
  | 3 => .array .int
  | 4 => .array .int
  | 5 => .array .int
  | 6 => .array .int
  | 7 => .array .int
  | 8 => .int
  | 9 => .array .int
  | 10 => .array .int
  | 11 => .array .int
  | 12 => .array .int
  | 13 => .array .int
  | 14 => .array .int
  | 15 => .array .int
  | 16 => .array .int
  | 17 => .array .int
  | 18 => .array .int
  | 19 => .array .long
  | 20 => .int
  | 21 => .int
  | 22 => .array .boolean
  | 23 => .array .int
  | 24 => .array .int
  | 25 => .array .int
  | 26 => .array .long
  | _ => .array .long
abbrev wsX80 : List Cond := u_ws RX8 TX8 28
theorem nmX8 : ∀ a, a < 28 → ∀ b, b < 28 → a ≠ b → (TX8 a).2.1 ≠ (TX8 b).2.1 := by decide +kernel
theorem tyX8_ok : ∀ k, k < 28 → parseFieldDescriptor (TX8 k).2.2.1 = some (tyX8 k) := by decide +kernel
abbrev cX8_init : ByteArray := prog_10_method_1_code
def yX8_init : MethodName := ⟨RX8, "<init>", "()V"⟩
abbrev cX8_isParty : ByteArray := prog_10_method_2_code
def yX8_isParty : MethodName := ⟨RX8, "isParty", "(I)Z"⟩
abbrev cX8_isAgreement : ByteArray := prog_10_method_3_code
def yX8_isAgreement : MethodName := ⟨RX8, "isAgreement", "(I)Z"⟩
abbrev cX8_isArticle : ByteArray := prog_10_method_4_code
def yX8_isArticle : MethodName := ⟨RX8, "isArticle", "(II)Z"⟩
abbrev cX8_isPaper : ByteArray := prog_10_method_5_code
def yX8_isPaper : MethodName := ⟨RX8, "isPaper", "(I)Z"⟩
abbrev cX8_isDay : ByteArray := prog_10_method_6_code
def yX8_isDay : MethodName := ⟨RX8, "isDay", "(I)Z"⟩
abbrev cX8_party : ByteArray := prog_10_method_7_code
def yX8_party : MethodName := ⟨RX8, "party", "()I"⟩
abbrev cX8_agreement : ByteArray := prog_10_method_8_code
def yX8_agreement : MethodName := ⟨RX8, "agreement", "(IIII)I"⟩
abbrev cX8_article : ByteArray := prog_10_method_9_code
def yX8_article : MethodName := ⟨RX8, "article", "(III)I"⟩
abbrev cX8_clock : ByteArray := prog_10_method_10_code
def yX8_clock : MethodName := ⟨RX8, "clock", "(I)Z"⟩
abbrev cX8_isMembership : ByteArray := prog_10_method_11_code
def yX8_isMembership : MethodName := ⟨RX8, "isMembership", "(I)Z"⟩
abbrev cX8_belongs : ByteArray := prog_10_method_12_code
def yX8_belongs : MethodName := ⟨RX8, "belongs", "(II)I"⟩
abbrev cX8_stands : ByteArray := prog_10_method_13_code
def yX8_stands : MethodName := ⟨RX8, "stands", "(III)Z"⟩
abbrev cX8_isHeld : ByteArray := prog_10_method_14_code
def yX8_isHeld : MethodName := ⟨RX8, "isHeld", "(III)Z"⟩
abbrev cX8_memberOf : ByteArray := prog_10_method_15_code
def yX8_memberOf : MethodName := ⟨RX8, "memberOf", "(IIII)I"⟩
abbrev cX8_manyMembers : ByteArray := prog_10_method_16_code
def yX8_manyMembers : MethodName := ⟨RX8, "manyMembers", "(III)I"⟩
abbrev cX8_hasPaper : ByteArray := prog_10_method_17_code
def yX8_hasPaper : MethodName := ⟨RX8, "hasPaper", "(IIII)Z"⟩
abbrev cX8_lodge : ByteArray := prog_10_method_18_code
def yX8_lodge : MethodName := ⟨RX8, "lodge", "(IIIIII)I"⟩
abbrev cX8_isFull : ByteArray := prog_10_method_19_code
def yX8_isFull : MethodName := ⟨RX8, "isFull", "()Z"⟩
abbrev cX8_hasSign : ByteArray := prog_10_method_20_code
def yX8_hasSign : MethodName := ⟨RX8, "hasSign", "(II)Z"⟩
abbrev cX8_sign : ByteArray := prog_10_method_21_code
def yX8_sign : MethodName := ⟨RX8, "sign", "(II)I"⟩
abbrev cX8_ratify : ByteArray := prog_10_method_22_code
def yX8_ratify : MethodName := ⟨RX8, "ratify", "(II)I"⟩
abbrev cX8_join : ByteArray := prog_10_method_23_code
def yX8_join : MethodName := ⟨RX8, "join", "(II)I"⟩
abbrev cX8_reserve : ByteArray := prog_10_method_24_code
def yX8_reserve : MethodName := ⟨RX8, "reserve", "(IIII)I"⟩
abbrev cX8_isWithdrawn : ByteArray := prog_10_method_25_code
def yX8_isWithdrawn : MethodName := ⟨RX8, "isWithdrawn", "(I)Z"⟩
abbrev cX8_isSaid : ByteArray := prog_10_method_26_code
def yX8_isSaid : MethodName := ⟨RX8, "isSaid", "(IIII)Z"⟩
abbrev cX8_object : ByteArray := prog_10_method_27_code
def yX8_object : MethodName := ⟨RX8, "object", "(IIZ)I"⟩
abbrev cX8_withdraw : ByteArray := prog_10_method_28_code
def yX8_withdraw : MethodName := ⟨RX8, "withdraw", "(II)I"⟩
abbrev cX8_change : ByteArray := prog_10_method_29_code
def yX8_change : MethodName := ⟨RX8, "change", "(IIII)I"⟩
abbrev cX8_consent : ByteArray := prog_10_method_30_code
def yX8_consent : MethodName := ⟨RX8, "consent", "(II)I"⟩
abbrev cX8_follow : ByteArray := prog_10_method_31_code
def yX8_follow : MethodName := ⟨RX8, "follow", "(IIIZ)I"⟩
abbrev cX8_note : ByteArray := prog_10_method_32_code
def yX8_note : MethodName := ⟨RX8, "note", "(J)I"⟩
abbrev cX8_undo : ByteArray := prog_10_method_33_code
def yX8_undo : MethodName := ⟨RX8, "undo", "()I"⟩
abbrev cX8_strong : ByteArray := prog_10_method_34_code
def yX8_strong : MethodName := ⟨RX8, "strong", "(IIII)I"⟩
abbrev cX8_leastTo : ByteArray := prog_10_method_35_code
def yX8_leastTo : MethodName := ⟨RX8, "leastTo", "(IIIII)I"⟩
abbrev cX8_because : ByteArray := prog_10_method_36_code
def yX8_because : MethodName := ⟨RX8, "because", "(I)V"⟩
abbrev cX8_leans : ByteArray := prog_10_method_37_code
def yX8_leans : MethodName := ⟨RX8, "leans", "()V"⟩
abbrev cX8_finds : ByteArray := prog_10_method_38_code
def yX8_finds : MethodName := ⟨RX8, "finds", "(IIIIII)V"⟩
abbrev cX8_changes : ByteArray := prog_10_method_39_code
def yX8_changes : MethodName := ⟨RX8, "changes", "(IIIIII)V"⟩
abbrev cX8_isAsked : ByteArray := prog_10_method_40_code
def yX8_isAsked : MethodName := ⟨RX8, "isAsked", "(IIII)Z"⟩
abbrev cX8_between : ByteArray := prog_10_method_41_code
def yX8_between : MethodName := ⟨RX8, "between", "(IIIIII)I"⟩
abbrev cX8_words : ByteArray := prog_10_method_42_code
def yX8_words : MethodName := ⟨RX8, "words", "(IIIIII)I"⟩
abbrev cX8_why : ByteArray := prog_10_method_43_code
def yX8_why : MethodName := ⟨RX8, "why", "(IIIIIII)I"⟩
abbrev cX8_effectBelow : ByteArray := prog_10_method_44_code
def yX8_effectBelow : MethodName := ⟨RX8, "effectBelow", "(I)I"⟩
abbrev cX8_first : ByteArray := prog_10_method_45_code
def yX8_first : MethodName := ⟨RX8, "first", "(IIII)I"⟩
abbrev cX8_member : ByteArray := prog_10_method_46_code
def yX8_member : MethodName := ⟨RX8, "member", "(IIII)I"⟩
abbrev cX8_members : ByteArray := prog_10_method_47_code
def yX8_members : MethodName := ⟨RX8, "members", "(III)I"⟩
abbrev cX8_since : ByteArray := prog_10_method_48_code
def yX8_since : MethodName := ⟨RX8, "since", "(I)I"⟩
abbrev cX8_has : ByteArray := prog_10_method_49_code
def yX8_has : MethodName := ⟨RX8, "has", "(IIIII)I"⟩
abbrev cX8_paper : ByteArray := prog_10_method_50_code
def yX8_paper : MethodName := ⟨RX8, "paper", "(II)I"⟩
abbrev cX8_noted : ByteArray := prog_10_method_51_code
def yX8_noted : MethodName := ⟨RX8, "noted", "(I)J"⟩
abbrev cX8_annex : ByteArray := prog_10_method_52_code
def yX8_annex : MethodName := ⟨RX8, "annex", "(III)I"⟩
abbrev cX8_isAnnex : ByteArray := prog_10_method_53_code
def yX8_isAnnex : MethodName := ⟨RX8, "isAnnex", "(II)Z"⟩
abbrev cX8_tear : ByteArray := prog_10_method_54_code
def yX8_tear : MethodName := ⟨RX8, "tear", "(II)Z"⟩
abbrev cX8_wrong : ByteArray := prog_10_method_55_code
def yX8_wrong : MethodName := ⟨RX8, "wrong", "(III)I"⟩
abbrev cX8_write : ByteArray := prog_10_method_56_code
def yX8_write : MethodName := ⟨RX8, "write", "(IIIJ)I"⟩
abbrev cX8_read : ByteArray := prog_10_method_57_code
def yX8_read : MethodName := ⟨RX8, "read", "(III)J"⟩
abbrev cX8_size : ByteArray := prog_10_method_58_code
def yX8_size : MethodName := ⟨RX8, "size", "(II)I"⟩
abbrev cX8_copy : ByteArray := prog_10_method_59_code
def yX8_copy : MethodName := ⟨RX8, "copy", "(IIIIIII)I"⟩
abbrev cX8_count : ByteArray := prog_10_method_60_code
def yX8_count : MethodName := ⟨RX8, "count", "(I)I"⟩
def RJ9 : String := "java/lang/Math"
def TJ9 : u_T := fun k => match k with
  | _ => ("", "", "", false)
def tyJ9 : Nat → FieldType := fun k => match k with
  | _ => .int
abbrev wsJ90 : List Cond := u_ws RJ9 TJ9 0
theorem nmJ9 : ∀ a, a < 0 → ∀ b, b < 0 → a ≠ b → (TJ9 a).2.1 ≠ (TJ9 b).2.1 := by decide +kernel
theorem tyJ9_ok : ∀ k, k < 0 → parseFieldDescriptor (TJ9 k).2.2.1 = some (tyJ9 k) := by decide +kernel
abbrev cJ9_min_7cf53 : ByteArray := prog_11_method_69_code
def yJ9_min_7cf53 : MethodName := ⟨RJ9, "min", "(II)I"⟩
def RJ10 : String := "java/lang/System"
def TJ10 : u_T := fun k => match k with
  | _ => ("", "", "", false)
def tyJ10 : Nat → FieldType := fun k => match k with
  | _ => .int
abbrev wsJ100 : List Cond := u_ws RJ10 TJ10 0
theorem nmJ10 : ∀ a, a < 0 → ∀ b, b < 0 → a ≠ b → (TJ10 a).2.1 ≠ (TJ10 b).2.1 := by decide +kernel
theorem tyJ10_ok : ∀ k, k < 0 → parseFieldDescriptor (TJ10 k).2.2.1 = some (tyJ10 k) := by decide +kernel
def RL : String := "TreatyHouseLaw"
abbrev cL_law : ByteArray := code
def yL_law : MethodName := ⟨RL, "law", "([I)Z"⟩
abbrev vwCl : List vw_C := [(RX0, TX0, 7), (RX1, TX1, 2), (RX2, TX2, 12), (RX3, TX3, 15), (RX4, TX4, 2), (RX5, TX5, 2), (RX6, TX6, 2), (RX7, TX7, 7), (RX8, TX8, 28)]
end
section
theorem dX0_init_0 : decode cX0_init 0 = .ok (.aload_n 0, 1) := by decide +kernel
theorem dX0_init_1 : decode cX0_init 1 = .ok (.invokespecial 3, 3) := by decide +kernel
theorem dX0_init_4 : decode cX0_init 4 = .ok (.aload_n 0, 1) := by decide +kernel
theorem dX0_init_5 : decode cX0_init 5 = .ok (.iload_n 1, 1) := by decide +kernel
theorem dX0_init_6 : decode cX0_init 6 = .ok (.putfield 9, 3) := by decide +kernel
theorem dX0_init_9 : decode cX0_init 9 = .ok (.aload_n 0, 1) := by decide +kernel
theorem dX0_init_10 : decode cX0_init 10 = .ok (.iload_n 3, 1) := by decide +kernel
theorem dX0_init_11 : decode cX0_init 11 = .ok (.putfield 15, 3) := by decide +kernel
theorem dX0_init_14 : decode cX0_init 14 = .ok (.aload_n 0, 1) := by decide +kernel
theorem dX0_init_15 : decode cX0_init 15 = .ok (.iload 4, 2) := by decide +kernel
theorem dX0_init_17 : decode cX0_init 17 = .ok (.putfield 18, 3) := by decide +kernel
theorem dX0_init_20 : decode cX0_init 20 = .ok (.aload_n 0, 1) := by decide +kernel
theorem dX0_init_21 : decode cX0_init 21 = .ok (.iload 5, 2) := by decide +kernel
theorem dX0_init_23 : decode cX0_init 23 = .ok (.putfield 21, 3) := by decide +kernel
theorem dX0_init_26 : decode cX0_init 26 = .ok (.aload_n 0, 1) := by decide +kernel
theorem dX0_init_27 : decode cX0_init 27 = .ok (.iload_n 2, 1) := by decide +kernel
theorem dX0_init_28 : decode cX0_init 28 = .ok (.ifCond .ge 7, 3) := by decide +kernel
theorem dX0_init_31 : decode cX0_init 31 = .ok (.iconst 0, 1) := by decide +kernel
theorem dX0_init_32 : decode cX0_init 32 = .ok (.goto 4, 3) := by decide +kernel
theorem dX0_init_35 : decode cX0_init 35 = .ok (.iload_n 2, 1) := by decide +kernel
theorem dX0_init_36 : decode cX0_init 36 = .ok (.newarray .int, 2) := by decide +kernel
theorem dX0_init_38 : decode cX0_init 38 = .ok (.putfield 24, 3) := by decide +kernel
theorem dX0_init_41 : decode cX0_init 41 = .ok (.aload_n 0, 1) := by decide +kernel
theorem dX0_init_42 : decode cX0_init 42 = .ok (.bipush 8, 2) := by decide +kernel
theorem dX0_init_44 : decode cX0_init 44 = .ok (.anewarray 28, 3) := by decide +kernel
theorem dX0_init_47 : decode cX0_init 47 = .ok (.putfield 30, 3) := by decide +kernel
theorem dX0_init_50 : decode cX0_init 50 = .ok (.iconst 0, 1) := by decide +kernel
theorem dX0_init_51 : decode cX0_init 51 = .ok (.istore 6, 2) := by decide +kernel
theorem dX0_init_53 : decode cX0_init 53 = .ok (.iload 6, 2) := by decide +kernel
theorem dX0_init_55 : decode cX0_init 55 = .ok (.aload_n 0, 1) := by decide +kernel
theorem dX0_init_56 : decode cX0_init 56 = .ok (.getfield 24, 3) := by decide +kernel
theorem dX0_init_59 : decode cX0_init 59 = .ok (.arraylength, 1) := by decide +kernel
theorem dX0_init_60 : decode cX0_init 60 = .ok (.if_icmp .ge 20, 3) := by decide +kernel
theorem dX0_init_63 : decode cX0_init 63 = .ok (.aload_n 0, 1) := by decide +kernel
theorem dX0_init_64 : decode cX0_init 64 = .ok (.getfield 24, 3) := by decide +kernel
theorem dX0_init_67 : decode cX0_init 67 = .ok (.iload 6, 2) := by decide +kernel
theorem dX0_init_69 : decode cX0_init 69 = .ok (.iload 6, 2) := by decide +kernel
theorem dX0_init_71 : decode cX0_init 71 = .ok (.iconst 1, 1) := by decide +kernel
theorem dX0_init_72 : decode cX0_init 72 = .ok (.iadd, 1) := by decide +kernel
theorem dX0_init_73 : decode cX0_init 73 = .ok (.iastore, 1) := by decide +kernel
theorem dX0_init_74 : decode cX0_init 74 = .ok (.iinc 6 1, 3) := by decide +kernel
theorem dX0_init_77 : decode cX0_init 77 = .ok (.goto (-24), 3) := by decide +kernel
theorem dX0_init_80 : decode cX0_init 80 = .ok (.return_, 1) := by decide +kernel
theorem dX0_hasArticle_0 : decode cX0_hasArticle 0 = .ok (.iload_n 1, 1) := by decide +kernel
theorem dX0_hasArticle_1 : decode cX0_hasArticle 1 = .ok (.ifCond .lt 16, 3) := by decide +kernel
theorem dX0_hasArticle_4 : decode cX0_hasArticle 4 = .ok (.iload_n 1, 1) := by decide +kernel
theorem dX0_hasArticle_5 : decode cX0_hasArticle 5 = .ok (.aload_n 0, 1) := by decide +kernel
theorem dX0_hasArticle_6 : decode cX0_hasArticle 6 = .ok (.getfield 24, 3) := by decide +kernel
theorem dX0_hasArticle_9 : decode cX0_hasArticle 9 = .ok (.arraylength, 1) := by decide +kernel
theorem dX0_hasArticle_10 : decode cX0_hasArticle 10 = .ok (.if_icmp .ge 7, 3) := by decide +kernel
theorem dX0_hasArticle_13 : decode cX0_hasArticle 13 = .ok (.iconst 1, 1) := by decide +kernel
theorem dX0_hasArticle_14 : decode cX0_hasArticle 14 = .ok (.goto 4, 3) := by decide +kernel
theorem dX0_hasArticle_17 : decode cX0_hasArticle 17 = .ok (.iconst 0, 1) := by decide +kernel
theorem dX0_hasArticle_18 : decode cX0_hasArticle 18 = .ok (.ireturn, 1) := by decide +kernel
theorem dX0_wordsOf_0 : decode cX0_wordsOf 0 = .ok (.iload_n 1, 1) := by decide +kernel
theorem dX0_wordsOf_1 : decode cX0_wordsOf 1 = .ok (.ifCond .lt 21, 3) := by decide +kernel
theorem dX0_wordsOf_4 : decode cX0_wordsOf 4 = .ok (.iload_n 1, 1) := by decide +kernel
theorem dX0_wordsOf_5 : decode cX0_wordsOf 5 = .ok (.aload_n 0, 1) := by decide +kernel
theorem dX0_wordsOf_6 : decode cX0_wordsOf 6 = .ok (.getfield 24, 3) := by decide +kernel
theorem dX0_wordsOf_9 : decode cX0_wordsOf 9 = .ok (.arraylength, 1) := by decide +kernel
theorem dX0_wordsOf_10 : decode cX0_wordsOf 10 = .ok (.if_icmp .ge 12, 3) := by decide +kernel
theorem dX0_wordsOf_13 : decode cX0_wordsOf 13 = .ok (.aload_n 0, 1) := by decide +kernel
theorem dX0_wordsOf_14 : decode cX0_wordsOf 14 = .ok (.getfield 24, 3) := by decide +kernel
theorem dX0_wordsOf_17 : decode cX0_wordsOf 17 = .ok (.iload_n 1, 1) := by decide +kernel
theorem dX0_wordsOf_18 : decode cX0_wordsOf 18 = .ok (.iaload, 1) := by decide +kernel
theorem dX0_wordsOf_19 : decode cX0_wordsOf 19 = .ok (.goto 4, 3) := by decide +kernel
theorem dX0_wordsOf_22 : decode cX0_wordsOf 22 = .ok (.iconst (-1), 1) := by decide +kernel
theorem dX0_wordsOf_23 : decode cX0_wordsOf 23 = .ok (.ireturn, 1) := by decide +kernel
theorem dX0_reword_0 : decode cX0_reword 0 = .ok (.iload_n 1, 1) := by decide +kernel
theorem dX0_reword_1 : decode cX0_reword 1 = .ok (.ifCond .lt 12, 3) := by decide +kernel
theorem dX0_reword_4 : decode cX0_reword 4 = .ok (.iload_n 1, 1) := by decide +kernel
theorem dX0_reword_5 : decode cX0_reword 5 = .ok (.aload_n 0, 1) := by decide +kernel
theorem dX0_reword_6 : decode cX0_reword 6 = .ok (.getfield 24, 3) := by decide +kernel
theorem dX0_reword_9 : decode cX0_reword 9 = .ok (.arraylength, 1) := by decide +kernel
theorem dX0_reword_10 : decode cX0_reword 10 = .ok (.if_icmp .lt 5, 3) := by decide +kernel
theorem dX0_reword_13 : decode cX0_reword 13 = .ok (.iconst (-1), 1) := by decide +kernel
theorem dX0_reword_14 : decode cX0_reword 14 = .ok (.ireturn, 1) := by decide +kernel
theorem dX0_reword_15 : decode cX0_reword 15 = .ok (.aload_n 0, 1) := by decide +kernel
theorem dX0_reword_16 : decode cX0_reword 16 = .ok (.getfield 24, 3) := by decide +kernel
theorem dX0_reword_19 : decode cX0_reword 19 = .ok (.iload_n 1, 1) := by decide +kernel
theorem dX0_reword_20 : decode cX0_reword 20 = .ok (.iaload, 1) := by decide +kernel
theorem dX0_reword_21 : decode cX0_reword 21 = .ok (.istore_n 3, 1) := by decide +kernel
theorem dX0_reword_22 : decode cX0_reword 22 = .ok (.aload_n 0, 1) := by decide +kernel
theorem dX0_reword_23 : decode cX0_reword 23 = .ok (.getfield 24, 3) := by decide +kernel
theorem dX0_reword_26 : decode cX0_reword 26 = .ok (.iload_n 1, 1) := by decide +kernel
theorem dX0_reword_27 : decode cX0_reword 27 = .ok (.iload_n 2, 1) := by decide +kernel
theorem dX0_reword_28 : decode cX0_reword 28 = .ok (.iastore, 1) := by decide +kernel
theorem dX0_reword_29 : decode cX0_reword 29 = .ok (.iload_n 3, 1) := by decide +kernel
theorem dX0_reword_30 : decode cX0_reword 30 = .ok (.ireturn, 1) := by decide +kernel
theorem dX0_annexAt_0 : decode cX0_annexAt 0 = .ok (.iload_n 1, 1) := by decide +kernel
theorem dX0_annexAt_1 : decode cX0_annexAt 1 = .ok (.ifCond .lt 29, 3) := by decide +kernel
theorem dX0_annexAt_4 : decode cX0_annexAt 4 = .ok (.iload_n 1, 1) := by decide +kernel
theorem dX0_annexAt_5 : decode cX0_annexAt 5 = .ok (.aload_n 0, 1) := by decide +kernel
theorem dX0_annexAt_6 : decode cX0_annexAt 6 = .ok (.getfield 34, 3) := by decide +kernel
theorem dX0_annexAt_9 : decode cX0_annexAt 9 = .ok (.if_icmp .ge 21, 3) := by decide +kernel
theorem dX0_annexAt_12 : decode cX0_annexAt 12 = .ok (.iload_n 1, 1) := by decide +kernel
theorem dX0_annexAt_13 : decode cX0_annexAt 13 = .ok (.aload_n 0, 1) := by decide +kernel
theorem dX0_annexAt_14 : decode cX0_annexAt 14 = .ok (.getfield 30, 3) := by decide +kernel
theorem dX0_annexAt_17 : decode cX0_annexAt 17 = .ok (.arraylength, 1) := by decide +kernel
theorem dX0_annexAt_18 : decode cX0_annexAt 18 = .ok (.if_icmp .ge 12, 3) := by decide +kernel
theorem dX0_annexAt_21 : decode cX0_annexAt 21 = .ok (.aload_n 0, 1) := by decide +kernel
theorem dX0_annexAt_22 : decode cX0_annexAt 22 = .ok (.getfield 30, 3) := by decide +kernel
theorem dX0_annexAt_25 : decode cX0_annexAt 25 = .ok (.iload_n 1, 1) := by decide +kernel
theorem dX0_annexAt_26 : decode cX0_annexAt 26 = .ok (.aaload, 1) := by decide +kernel
theorem dX0_annexAt_27 : decode cX0_annexAt 27 = .ok (.goto 4, 3) := by decide +kernel
theorem dX0_annexAt_30 : decode cX0_annexAt 30 = .ok (.aconst_null, 1) := by decide +kernel
theorem dX0_annexAt_31 : decode cX0_annexAt 31 = .ok (.areturn, 1) := by decide +kernel
theorem dX0_addAnnex_0 : decode cX0_addAnnex 0 = .ok (.aload_n 0, 1) := by decide +kernel
theorem dX0_addAnnex_1 : decode cX0_addAnnex 1 = .ok (.getfield 34, 3) := by decide +kernel
theorem dX0_addAnnex_4 : decode cX0_addAnnex 4 = .ok (.ifCond .lt 15, 3) := by decide +kernel
theorem dX0_addAnnex_7 : decode cX0_addAnnex 7 = .ok (.aload_n 0, 1) := by decide +kernel
theorem dX0_addAnnex_8 : decode cX0_addAnnex 8 = .ok (.getfield 34, 3) := by decide +kernel
theorem dX0_addAnnex_11 : decode cX0_addAnnex 11 = .ok (.aload_n 0, 1) := by decide +kernel
theorem dX0_addAnnex_12 : decode cX0_addAnnex 12 = .ok (.getfield 30, 3) := by decide +kernel
theorem dX0_addAnnex_15 : decode cX0_addAnnex 15 = .ok (.arraylength, 1) := by decide +kernel
theorem dX0_addAnnex_16 : decode cX0_addAnnex 16 = .ok (.if_icmp .lt 6, 3) := by decide +kernel
theorem dX0_addAnnex_19 : decode cX0_addAnnex 19 = .ok (.bipush (-8), 2) := by decide +kernel
theorem dX0_addAnnex_21 : decode cX0_addAnnex 21 = .ok (.ireturn, 1) := by decide +kernel
theorem dX0_addAnnex_22 : decode cX0_addAnnex 22 = .ok (.aload_n 0, 1) := by decide +kernel
theorem dX0_addAnnex_23 : decode cX0_addAnnex 23 = .ok (.getfield 30, 3) := by decide +kernel
theorem dX0_addAnnex_26 : decode cX0_addAnnex 26 = .ok (.aload_n 0, 1) := by decide +kernel
theorem dX0_addAnnex_27 : decode cX0_addAnnex 27 = .ok (.getfield 34, 3) := by decide +kernel
theorem dX0_addAnnex_30 : decode cX0_addAnnex 30 = .ok (.aload_n 1, 1) := by decide +kernel
theorem dX0_addAnnex_31 : decode cX0_addAnnex 31 = .ok (.aastore, 1) := by decide +kernel
theorem dX0_addAnnex_32 : decode cX0_addAnnex 32 = .ok (.aload_n 0, 1) := by decide +kernel
theorem dX0_addAnnex_33 : decode cX0_addAnnex 33 = .ok (.dup, 1) := by decide +kernel
theorem dX0_addAnnex_34 : decode cX0_addAnnex 34 = .ok (.getfield 34, 3) := by decide +kernel
theorem dX0_addAnnex_37 : decode cX0_addAnnex 37 = .ok (.iconst 1, 1) := by decide +kernel
theorem dX0_addAnnex_38 : decode cX0_addAnnex 38 = .ok (.iadd, 1) := by decide +kernel
theorem dX0_addAnnex_39 : decode cX0_addAnnex 39 = .ok (.putfield 34, 3) := by decide +kernel
theorem dX0_addAnnex_42 : decode cX0_addAnnex 42 = .ok (.aload_n 0, 1) := by decide +kernel
theorem dX0_addAnnex_43 : decode cX0_addAnnex 43 = .ok (.getfield 34, 3) := by decide +kernel
theorem dX0_addAnnex_46 : decode cX0_addAnnex 46 = .ok (.iconst 1, 1) := by decide +kernel
theorem dX0_addAnnex_47 : decode cX0_addAnnex 47 = .ok (.isub, 1) := by decide +kernel
theorem dX0_addAnnex_48 : decode cX0_addAnnex 48 = .ok (.ireturn, 1) := by decide +kernel
theorem dX0_detail_0 : decode cX0_detail 0 = .ok (.iload_n 1, 1) := by decide +kernel
theorem dX0_detail_1 : decode cX0_detail 1 = .ok (.tableswitch 61 0 4 #[35, 41, 46, 51, 56], 35) := by decide +kernel
theorem dX0_detail_36 : decode cX0_detail 36 = .ok (.aload_n 0, 1) := by decide +kernel
theorem dX0_detail_37 : decode cX0_detail 37 = .ok (.getfield 24, 3) := by decide +kernel
theorem dX0_detail_40 : decode cX0_detail 40 = .ok (.arraylength, 1) := by decide +kernel
theorem dX0_detail_41 : decode cX0_detail 41 = .ok (.ireturn, 1) := by decide +kernel
theorem dX0_detail_42 : decode cX0_detail 42 = .ok (.aload_n 0, 1) := by decide +kernel
theorem dX0_detail_43 : decode cX0_detail 43 = .ok (.getfield 15, 3) := by decide +kernel
theorem dX0_detail_46 : decode cX0_detail 46 = .ok (.ireturn, 1) := by decide +kernel
theorem dX0_detail_47 : decode cX0_detail 47 = .ok (.aload_n 0, 1) := by decide +kernel
theorem dX0_detail_48 : decode cX0_detail 48 = .ok (.getfield 18, 3) := by decide +kernel
theorem dX0_detail_51 : decode cX0_detail 51 = .ok (.ireturn, 1) := by decide +kernel
theorem dX0_detail_52 : decode cX0_detail 52 = .ok (.aload_n 0, 1) := by decide +kernel
theorem dX0_detail_53 : decode cX0_detail 53 = .ok (.getfield 21, 3) := by decide +kernel
theorem dX0_detail_56 : decode cX0_detail 56 = .ok (.ireturn, 1) := by decide +kernel
theorem dX0_detail_57 : decode cX0_detail 57 = .ok (.aload_n 0, 1) := by decide +kernel
theorem dX0_detail_58 : decode cX0_detail 58 = .ok (.getfield 34, 3) := by decide +kernel
theorem dX0_detail_61 : decode cX0_detail 61 = .ok (.ireturn, 1) := by decide +kernel
theorem dX0_detail_62 : decode cX0_detail 62 = .ok (.iconst (-1), 1) := by decide +kernel
theorem dX0_detail_63 : decode cX0_detail 63 = .ok (.ireturn, 1) := by decide +kernel
theorem dX1_init_0 : decode cX1_init 0 = .ok (.aload_n 0, 1) := by decide +kernel
theorem dX1_init_1 : decode cX1_init 1 = .ok (.invokespecial 3, 3) := by decide +kernel
theorem dX1_init_4 : decode cX1_init 4 = .ok (.aload_n 0, 1) := by decide +kernel
theorem dX1_init_5 : decode cX1_init 5 = .ok (.iload_n 1, 1) := by decide +kernel
theorem dX1_init_6 : decode cX1_init 6 = .ok (.putfield 9, 3) := by decide +kernel
theorem dX1_init_9 : decode cX1_init 9 = .ok (.aload_n 0, 1) := by decide +kernel
theorem dX1_init_10 : decode cX1_init 10 = .ok (.iload_n 2, 1) := by decide +kernel
theorem dX1_init_11 : decode cX1_init 11 = .ok (.ifCond .ge 7, 3) := by decide +kernel
theorem dX1_init_14 : decode cX1_init 14 = .ok (.iconst 0, 1) := by decide +kernel
theorem dX1_init_15 : decode cX1_init 15 = .ok (.goto 4, 3) := by decide +kernel
theorem dX1_init_18 : decode cX1_init 18 = .ok (.iload_n 2, 1) := by decide +kernel
theorem dX1_init_19 : decode cX1_init 19 = .ok (.newarray .long, 2) := by decide +kernel
theorem dX1_init_21 : decode cX1_init 21 = .ok (.putfield 15, 3) := by decide +kernel
theorem dX1_init_24 : decode cX1_init 24 = .ok (.return_, 1) := by decide +kernel
theorem dX1_put_0 : decode cX1_put 0 = .ok (.aload_n 0, 1) := by decide +kernel
theorem dX1_put_1 : decode cX1_put 1 = .ok (.getfield 15, 3) := by decide +kernel
theorem dX1_put_4 : decode cX1_put 4 = .ok (.ifnonnull 6, 3) := by decide +kernel
theorem dX1_put_7 : decode cX1_put 7 = .ok (.bipush (-5), 2) := by decide +kernel
theorem dX1_put_9 : decode cX1_put 9 = .ok (.ireturn, 1) := by decide +kernel
theorem dX1_put_10 : decode cX1_put 10 = .ok (.iload_n 1, 1) := by decide +kernel
theorem dX1_put_11 : decode cX1_put 11 = .ok (.ifCond .lt 12, 3) := by decide +kernel
theorem dX1_put_14 : decode cX1_put 14 = .ok (.iload_n 1, 1) := by decide +kernel
theorem dX1_put_15 : decode cX1_put 15 = .ok (.aload_n 0, 1) := by decide +kernel
theorem dX1_put_16 : decode cX1_put 16 = .ok (.getfield 15, 3) := by decide +kernel
theorem dX1_put_19 : decode cX1_put 19 = .ok (.arraylength, 1) := by decide +kernel
theorem dX1_put_20 : decode cX1_put 20 = .ok (.if_icmp .lt 6, 3) := by decide +kernel
theorem dX1_put_23 : decode cX1_put 23 = .ok (.bipush (-6), 2) := by decide +kernel
theorem dX1_put_25 : decode cX1_put 25 = .ok (.ireturn, 1) := by decide +kernel
theorem dX1_put_26 : decode cX1_put 26 = .ok (.aload_n 0, 1) := by decide +kernel
theorem dX1_put_27 : decode cX1_put 27 = .ok (.getfield 15, 3) := by decide +kernel
theorem dX1_put_30 : decode cX1_put 30 = .ok (.iload_n 1, 1) := by decide +kernel
theorem dX1_put_31 : decode cX1_put 31 = .ok (.aload_n 0, 1) := by decide +kernel
theorem dX1_put_32 : decode cX1_put 32 = .ok (.lload_n 2, 1) := by decide +kernel
theorem dX1_put_33 : decode cX1_put 33 = .ok (.invokevirtual 19, 3) := by decide +kernel
theorem dX1_put_36 : decode cX1_put 36 = .ok (.lastore, 1) := by decide +kernel
theorem dX1_put_37 : decode cX1_put 37 = .ok (.iconst 0, 1) := by decide +kernel
theorem dX1_put_38 : decode cX1_put 38 = .ok (.ireturn, 1) := by decide +kernel
theorem dX1_get_0 : decode cX1_get 0 = .ok (.aload_n 0, 1) := by decide +kernel
theorem dX1_get_1 : decode cX1_get 1 = .ok (.getfield 15, 3) := by decide +kernel
theorem dX1_get_4 : decode cX1_get 4 = .ok (.ifnull 25, 3) := by decide +kernel
theorem dX1_get_7 : decode cX1_get 7 = .ok (.iload_n 1, 1) := by decide +kernel
theorem dX1_get_8 : decode cX1_get 8 = .ok (.ifCond .lt 21, 3) := by decide +kernel
theorem dX1_get_11 : decode cX1_get 11 = .ok (.iload_n 1, 1) := by decide +kernel
theorem dX1_get_12 : decode cX1_get 12 = .ok (.aload_n 0, 1) := by decide +kernel
theorem dX1_get_13 : decode cX1_get 13 = .ok (.getfield 15, 3) := by decide +kernel
theorem dX1_get_16 : decode cX1_get 16 = .ok (.arraylength, 1) := by decide +kernel
theorem dX1_get_17 : decode cX1_get 17 = .ok (.if_icmp .ge 12, 3) := by decide +kernel
theorem dX1_get_20 : decode cX1_get 20 = .ok (.aload_n 0, 1) := by decide +kernel
theorem dX1_get_21 : decode cX1_get 21 = .ok (.getfield 15, 3) := by decide +kernel
theorem dX1_get_24 : decode cX1_get 24 = .ok (.iload_n 1, 1) := by decide +kernel
theorem dX1_get_25 : decode cX1_get 25 = .ok (.laload, 1) := by decide +kernel
theorem dX1_get_26 : decode cX1_get 26 = .ok (.goto 4, 3) := by decide +kernel
theorem dX1_get_29 : decode cX1_get 29 = .ok (.lconst 0, 1) := by decide +kernel
theorem dX1_get_30 : decode cX1_get 30 = .ok (.lreturn, 1) := by decide +kernel
theorem dX1_hasRange_0 : decode cX1_hasRange 0 = .ok (.aload_n 0, 1) := by decide +kernel
theorem dX1_hasRange_1 : decode cX1_hasRange 1 = .ok (.getfield 15, 3) := by decide +kernel
theorem dX1_hasRange_4 : decode cX1_hasRange 4 = .ok (.ifnull 35, 3) := by decide +kernel
theorem dX1_hasRange_7 : decode cX1_hasRange 7 = .ok (.iload_n 1, 1) := by decide +kernel
theorem dX1_hasRange_8 : decode cX1_hasRange 8 = .ok (.ifCond .lt 31, 3) := by decide +kernel
theorem dX1_hasRange_11 : decode cX1_hasRange 11 = .ok (.iload_n 2, 1) := by decide +kernel
theorem dX1_hasRange_12 : decode cX1_hasRange 12 = .ok (.ifCond .lt 27, 3) := by decide +kernel
theorem dX1_hasRange_15 : decode cX1_hasRange 15 = .ok (.iload_n 1, 1) := by decide +kernel
theorem dX1_hasRange_16 : decode cX1_hasRange 16 = .ok (.aload_n 0, 1) := by decide +kernel
theorem dX1_hasRange_17 : decode cX1_hasRange 17 = .ok (.getfield 15, 3) := by decide +kernel
theorem dX1_hasRange_20 : decode cX1_hasRange 20 = .ok (.arraylength, 1) := by decide +kernel
theorem dX1_hasRange_21 : decode cX1_hasRange 21 = .ok (.if_icmp .gt 18, 3) := by decide +kernel
theorem dX1_hasRange_24 : decode cX1_hasRange 24 = .ok (.iload_n 2, 1) := by decide +kernel
theorem dX1_hasRange_25 : decode cX1_hasRange 25 = .ok (.aload_n 0, 1) := by decide +kernel
theorem dX1_hasRange_26 : decode cX1_hasRange 26 = .ok (.getfield 15, 3) := by decide +kernel
theorem dX1_hasRange_29 : decode cX1_hasRange 29 = .ok (.arraylength, 1) := by decide +kernel
theorem dX1_hasRange_30 : decode cX1_hasRange 30 = .ok (.iload_n 1, 1) := by decide +kernel
theorem dX1_hasRange_31 : decode cX1_hasRange 31 = .ok (.isub, 1) := by decide +kernel
theorem dX1_hasRange_32 : decode cX1_hasRange 32 = .ok (.if_icmp .gt 7, 3) := by decide +kernel
theorem dX1_hasRange_35 : decode cX1_hasRange 35 = .ok (.iconst 1, 1) := by decide +kernel
theorem dX1_hasRange_36 : decode cX1_hasRange 36 = .ok (.goto 4, 3) := by decide +kernel
theorem dX1_hasRange_39 : decode cX1_hasRange 39 = .ok (.iconst 0, 1) := by decide +kernel
theorem dX1_hasRange_40 : decode cX1_hasRange 40 = .ok (.ireturn, 1) := by decide +kernel
theorem dX1_cut_0 : decode cX1_cut 0 = .ok (.aload_n 0, 1) := by decide +kernel
theorem dX1_cut_1 : decode cX1_cut 1 = .ok (.getfield 9, 3) := by decide +kernel
theorem dX1_cut_4 : decode cX1_cut 4 = .ok (.tableswitch 42 0 2 #[28, 33, 38], 28) := by decide +kernel
theorem dX1_cut_32 : decode cX1_cut 32 = .ok (.lload_n 1, 1) := by decide +kernel
theorem dX1_cut_33 : decode cX1_cut 33 = .ok (.l2i, 1) := by decide +kernel
theorem dX1_cut_34 : decode cX1_cut 34 = .ok (.i2b, 1) := by decide +kernel
theorem dX1_cut_35 : decode cX1_cut 35 = .ok (.i2l, 1) := by decide +kernel
theorem dX1_cut_36 : decode cX1_cut 36 = .ok (.lreturn, 1) := by decide +kernel
theorem dX1_cut_37 : decode cX1_cut 37 = .ok (.lload_n 1, 1) := by decide +kernel
theorem dX1_cut_38 : decode cX1_cut 38 = .ok (.l2i, 1) := by decide +kernel
theorem dX1_cut_39 : decode cX1_cut 39 = .ok (.i2s, 1) := by decide +kernel
theorem dX1_cut_40 : decode cX1_cut 40 = .ok (.i2l, 1) := by decide +kernel
theorem dX1_cut_41 : decode cX1_cut 41 = .ok (.lreturn, 1) := by decide +kernel
theorem dX1_cut_42 : decode cX1_cut 42 = .ok (.lload_n 1, 1) := by decide +kernel
theorem dX1_cut_43 : decode cX1_cut 43 = .ok (.l2i, 1) := by decide +kernel
theorem dX1_cut_44 : decode cX1_cut 44 = .ok (.i2l, 1) := by decide +kernel
theorem dX1_cut_45 : decode cX1_cut 45 = .ok (.lreturn, 1) := by decide +kernel
theorem dX1_cut_46 : decode cX1_cut 46 = .ok (.lload_n 1, 1) := by decide +kernel
theorem dX1_cut_47 : decode cX1_cut 47 = .ok (.lreturn, 1) := by decide +kernel
theorem dX2_init_0 : decode cX2_init 0 = .ok (.aload_n 0, 1) := by decide +kernel
theorem dX2_init_1 : decode cX2_init 1 = .ok (.invokespecial 3, 3) := by decide +kernel
theorem dX2_init_4 : decode cX2_init 4 = .ok (.aload_n 0, 1) := by decide +kernel
theorem dX2_init_5 : decode cX2_init 5 = .ok (.new 9, 3) := by decide +kernel
theorem dX2_init_8 : decode cX2_init 8 = .ok (.dup, 1) := by decide +kernel
theorem dX2_init_9 : decode cX2_init 9 = .ok (.invokespecial 11, 3) := by decide +kernel
theorem dX2_init_12 : decode cX2_init 12 = .ok (.putfield 12, 3) := by decide +kernel
theorem dX2_init_15 : decode cX2_init 15 = .ok (.aload_n 0, 1) := by decide +kernel
theorem dX2_init_16 : decode cX2_init 16 = .ok (.new 18, 3) := by decide +kernel
theorem dX2_init_19 : decode cX2_init 19 = .ok (.dup, 1) := by decide +kernel
theorem dX2_init_20 : decode cX2_init 20 = .ok (.invokespecial 20, 3) := by decide +kernel
theorem dX2_init_23 : decode cX2_init 23 = .ok (.putfield 21, 3) := by decide +kernel
theorem dX2_init_26 : decode cX2_init 26 = .ok (.aload_n 0, 1) := by decide +kernel
theorem dX2_init_27 : decode cX2_init 27 = .ok (.new 18, 3) := by decide +kernel
theorem dX2_init_30 : decode cX2_init 30 = .ok (.dup, 1) := by decide +kernel
theorem dX2_init_31 : decode cX2_init 31 = .ok (.invokespecial 20, 3) := by decide +kernel
theorem dX2_init_34 : decode cX2_init 34 = .ok (.putfield 25, 3) := by decide +kernel
theorem dX2_init_37 : decode cX2_init 37 = .ok (.aload_n 0, 1) := by decide +kernel
theorem dX2_init_38 : decode cX2_init 38 = .ok (.sipush 400, 3) := by decide +kernel
theorem dX2_init_41 : decode cX2_init 41 = .ok (.newarray .boolean, 2) := by decide +kernel
theorem dX2_init_43 : decode cX2_init 43 = .ok (.putfield 28, 3) := by decide +kernel
theorem dX2_init_46 : decode cX2_init 46 = .ok (.return_, 1) := by decide +kernel
theorem dX2_settle_0 : decode cX2_settle 0 = .ok (.aload_n 0, 1) := by decide +kernel
theorem dX2_settle_1 : decode cX2_settle 1 = .ok (.invokevirtual 32, 3) := by decide +kernel
theorem dX2_settle_4 : decode cX2_settle 4 = .ok (.aload_n 0, 1) := by decide +kernel
theorem dX2_settle_5 : decode cX2_settle 5 = .ok (.getfield 12, 3) := by decide +kernel
theorem dX2_settle_8 : decode cX2_settle 8 = .ok (.aload_n 1, 1) := by decide +kernel
theorem dX2_settle_9 : decode cX2_settle 9 = .ok (.aload 4, 2) := by decide +kernel
theorem dX2_settle_11 : decode cX2_settle 11 = .ok (.iload 6, 2) := by decide +kernel
theorem dX2_settle_13 : decode cX2_settle 13 = .ok (.iload 7, 2) := by decide +kernel
theorem dX2_settle_15 : decode cX2_settle 15 = .ok (.invokevirtual 35, 3) := by decide +kernel
theorem dX2_settle_18 : decode cX2_settle 18 = .ok (.aload_n 0, 1) := by decide +kernel
theorem dX2_settle_19 : decode cX2_settle 19 = .ok (.aload 4, 2) := by decide +kernel
theorem dX2_settle_21 : decode cX2_settle 21 = .ok (.getfield 39, 3) := by decide +kernel
theorem dX2_settle_24 : decode cX2_settle 24 = .ok (.putfield 45, 3) := by decide +kernel
theorem dX2_settle_27 : decode cX2_settle 27 = .ok (.aload_n 0, 1) := by decide +kernel
theorem dX2_settle_28 : decode cX2_settle 28 = .ok (.getfield 12, 3) := by decide +kernel
theorem dX2_settle_31 : decode cX2_settle 31 = .ok (.iload_n 2, 1) := by decide +kernel
theorem dX2_settle_32 : decode cX2_settle 32 = .ok (.invokevirtual 46, 3) := by decide +kernel
theorem dX2_settle_35 : decode cX2_settle 35 = .ok (.ifnull 28, 3) := by decide +kernel
theorem dX2_settle_38 : decode cX2_settle 38 = .ok (.aload_n 0, 1) := by decide +kernel
theorem dX2_settle_39 : decode cX2_settle 39 = .ok (.getfield 12, 3) := by decide +kernel
theorem dX2_settle_42 : decode cX2_settle 42 = .ok (.iload_n 3, 1) := by decide +kernel
theorem dX2_settle_43 : decode cX2_settle 43 = .ok (.invokevirtual 46, 3) := by decide +kernel
theorem dX2_settle_46 : decode cX2_settle 46 = .ok (.ifnull 17, 3) := by decide +kernel
theorem dX2_settle_49 : decode cX2_settle 49 = .ok (.aload_n 0, 1) := by decide +kernel
theorem dX2_settle_50 : decode cX2_settle 50 = .ok (.getfield 12, 3) := by decide +kernel
theorem dX2_settle_53 : decode cX2_settle 53 = .ok (.getfield 50, 3) := by decide +kernel
theorem dX2_settle_56 : decode cX2_settle 56 = .ok (.aload_n 0, 1) := by decide +kernel
theorem dX2_settle_57 : decode cX2_settle 57 = .ok (.getfield 45, 3) := by decide +kernel
theorem dX2_settle_60 : decode cX2_settle 60 = .ok (.if_icmp .ge 4, 3) := by decide +kernel
theorem dX2_settle_63 : decode cX2_settle 63 = .ok (.return_, 1) := by decide +kernel
theorem dX2_settle_64 : decode cX2_settle 64 = .ok (.aload_n 0, 1) := by decide +kernel
theorem dX2_settle_65 : decode cX2_settle 65 = .ok (.getfield 21, 3) := by decide +kernel
theorem dX2_settle_68 : decode cX2_settle 68 = .ok (.aload_n 1, 1) := by decide +kernel
theorem dX2_settle_69 : decode cX2_settle 69 = .ok (.aload_n 0, 1) := by decide +kernel
theorem dX2_settle_70 : decode cX2_settle 70 = .ok (.getfield 12, 3) := by decide +kernel
theorem dX2_settle_73 : decode cX2_settle 73 = .ok (.iload_n 2, 1) := by decide +kernel
theorem dX2_settle_74 : decode cX2_settle 74 = .ok (.invokevirtual 46, 3) := by decide +kernel
theorem dX2_settle_77 : decode cX2_settle 77 = .ok (.iload 6, 2) := by decide +kernel
theorem dX2_settle_79 : decode cX2_settle 79 = .ok (.iload 7, 2) := by decide +kernel
theorem dX2_settle_81 : decode cX2_settle 81 = .ok (.invokevirtual 53, 3) := by decide +kernel
theorem dX2_settle_84 : decode cX2_settle 84 = .ok (.aload_n 0, 1) := by decide +kernel
theorem dX2_settle_85 : decode cX2_settle 85 = .ok (.getfield 25, 3) := by decide +kernel
theorem dX2_settle_88 : decode cX2_settle 88 = .ok (.aload_n 1, 1) := by decide +kernel
theorem dX2_settle_89 : decode cX2_settle 89 = .ok (.aload_n 0, 1) := by decide +kernel
theorem dX2_settle_90 : decode cX2_settle 90 = .ok (.getfield 12, 3) := by decide +kernel
theorem dX2_settle_93 : decode cX2_settle 93 = .ok (.iload_n 3, 1) := by decide +kernel
theorem dX2_settle_94 : decode cX2_settle 94 = .ok (.invokevirtual 46, 3) := by decide +kernel
theorem dX2_settle_97 : decode cX2_settle 97 = .ok (.iload 6, 2) := by decide +kernel
theorem dX2_settle_99 : decode cX2_settle 99 = .ok (.iload 7, 2) := by decide +kernel
theorem dX2_settle_101 : decode cX2_settle 101 = .ok (.invokevirtual 53, 3) := by decide +kernel
theorem dX2_settle_104 : decode cX2_settle 104 = .ok (.aload_n 0, 1) := by decide +kernel
theorem dX2_settle_105 : decode cX2_settle 105 = .ok (.aload_n 1, 1) := by decide +kernel
theorem dX2_settle_106 : decode cX2_settle 106 = .ok (.invokevirtual 56, 3) := by decide +kernel
theorem dX2_settle_109 : decode cX2_settle 109 = .ok (.aload_n 0, 1) := by decide +kernel
theorem dX2_settle_110 : decode cX2_settle 110 = .ok (.getfield 60, 3) := by decide +kernel
theorem dX2_settle_113 : decode cX2_settle 113 = .ok (.ifnull 15, 3) := by decide +kernel
theorem dX2_settle_116 : decode cX2_settle 116 = .ok (.aload_n 0, 1) := by decide +kernel
theorem dX2_settle_117 : decode cX2_settle 117 = .ok (.aload_n 0, 1) := by decide +kernel
theorem dX2_settle_118 : decode cX2_settle 118 = .ok (.getfield 60, 3) := by decide +kernel
theorem dX2_settle_121 : decode cX2_settle 121 = .ok (.getfield 64, 3) := by decide +kernel
theorem dX2_settle_124 : decode cX2_settle 124 = .ok (.putfield 69, 3) := by decide +kernel
theorem dX2_settle_127 : decode cX2_settle 127 = .ok (.return_, 1) := by decide +kernel
theorem dX2_settle_128 : decode cX2_settle 128 = .ok (.aload_n 0, 1) := by decide +kernel
theorem dX2_settle_129 : decode cX2_settle 129 = .ok (.aload_n 1, 1) := by decide +kernel
theorem dX2_settle_130 : decode cX2_settle 130 = .ok (.iload 5, 2) := by decide +kernel
theorem dX2_settle_132 : decode cX2_settle 132 = .ok (.invokevirtual 72, 3) := by decide +kernel
theorem dX2_settle_135 : decode cX2_settle 135 = .ok (.aload_n 0, 1) := by decide +kernel
theorem dX2_settle_136 : decode cX2_settle 136 = .ok (.getfield 69, 3) := by decide +kernel
theorem dX2_settle_139 : decode cX2_settle 139 = .ok (.ifnull 8, 3) := by decide +kernel
theorem dX2_settle_142 : decode cX2_settle 142 = .ok (.aload_n 0, 1) := by decide +kernel
theorem dX2_settle_143 : decode cX2_settle 143 = .ok (.invokevirtual 76, 3) := by decide +kernel
theorem dX2_settle_146 : decode cX2_settle 146 = .ok (.return_, 1) := by decide +kernel
theorem dX2_settle_147 : decode cX2_settle 147 = .ok (.aload_n 0, 1) := by decide +kernel
theorem dX2_settle_148 : decode cX2_settle 148 = .ok (.aload_n 1, 1) := by decide +kernel
theorem dX2_settle_149 : decode cX2_settle 149 = .ok (.aload 4, 2) := by decide +kernel
theorem dX2_settle_151 : decode cX2_settle 151 = .ok (.iload 5, 2) := by decide +kernel
theorem dX2_settle_153 : decode cX2_settle 153 = .ok (.iload 7, 2) := by decide +kernel
theorem dX2_settle_155 : decode cX2_settle 155 = .ok (.invokevirtual 79, 3) := by decide +kernel
theorem dX2_settle_158 : decode cX2_settle 158 = .ok (.aload_n 0, 1) := by decide +kernel
theorem dX2_settle_159 : decode cX2_settle 159 = .ok (.aload_n 0, 1) := by decide +kernel
theorem dX2_settle_160 : decode cX2_settle 160 = .ok (.getfield 82, 3) := by decide +kernel
theorem dX2_settle_163 : decode cX2_settle 163 = .ok (.ifnonnull 7, 3) := by decide +kernel
theorem dX2_settle_166 : decode cX2_settle 166 = .ok (.iconst 1, 1) := by decide +kernel
theorem dX2_settle_167 : decode cX2_settle 167 = .ok (.goto 4, 3) := by decide +kernel
theorem dX2_settle_170 : decode cX2_settle 170 = .ok (.iconst 4, 1) := by decide +kernel
theorem dX2_settle_171 : decode cX2_settle 171 = .ok (.putfield 85, 3) := by decide +kernel
theorem dX2_settle_174 : decode cX2_settle 174 = .ok (.aload_n 0, 1) := by decide +kernel
theorem dX2_settle_175 : decode cX2_settle 175 = .ok (.aload_n 0, 1) := by decide +kernel
theorem dX2_settle_176 : decode cX2_settle 176 = .ok (.getfield 82, 3) := by decide +kernel
theorem dX2_settle_179 : decode cX2_settle 179 = .ok (.ifnonnull 13, 3) := by decide +kernel
theorem dX2_settle_182 : decode cX2_settle 182 = .ok (.aload 4, 2) := by decide +kernel
theorem dX2_settle_184 : decode cX2_settle 184 = .ok (.iload 5, 2) := by decide +kernel
theorem dX2_settle_186 : decode cX2_settle 186 = .ok (.invokevirtual 88, 3) := by decide +kernel
theorem dX2_settle_189 : decode cX2_settle 189 = .ok (.goto 10, 3) := by decide +kernel
theorem dX2_settle_192 : decode cX2_settle 192 = .ok (.aload_n 0, 1) := by decide +kernel
theorem dX2_settle_193 : decode cX2_settle 193 = .ok (.getfield 82, 3) := by decide +kernel
theorem dX2_settle_196 : decode cX2_settle 196 = .ok (.getfield 92, 3) := by decide +kernel
theorem dX2_settle_199 : decode cX2_settle 199 = .ok (.putfield 95, 3) := by decide +kernel
theorem dX2_settle_202 : decode cX2_settle 202 = .ok (.return_, 1) := by decide +kernel
theorem dX2_forget_0 : decode cX2_forget 0 = .ok (.aload_n 0, 1) := by decide +kernel
theorem dX2_forget_1 : decode cX2_forget 1 = .ok (.iconst 0, 1) := by decide +kernel
theorem dX2_forget_2 : decode cX2_forget 2 = .ok (.putfield 85, 3) := by decide +kernel
theorem dX2_forget_5 : decode cX2_forget 5 = .ok (.aload_n 0, 1) := by decide +kernel
theorem dX2_forget_6 : decode cX2_forget 6 = .ok (.iconst 0, 1) := by decide +kernel
theorem dX2_forget_7 : decode cX2_forget 7 = .ok (.putfield 95, 3) := by decide +kernel
theorem dX2_forget_10 : decode cX2_forget 10 = .ok (.aload_n 0, 1) := by decide +kernel
theorem dX2_forget_11 : decode cX2_forget 11 = .ok (.aconst_null, 1) := by decide +kernel
theorem dX2_forget_12 : decode cX2_forget 12 = .ok (.putfield 60, 3) := by decide +kernel
theorem dX2_forget_15 : decode cX2_forget 15 = .ok (.aload_n 0, 1) := by decide +kernel
theorem dX2_forget_16 : decode cX2_forget 16 = .ok (.aconst_null, 1) := by decide +kernel
theorem dX2_forget_17 : decode cX2_forget 17 = .ok (.putfield 69, 3) := by decide +kernel
theorem dX2_forget_20 : decode cX2_forget 20 = .ok (.aload_n 0, 1) := by decide +kernel
theorem dX2_forget_21 : decode cX2_forget 21 = .ok (.aconst_null, 1) := by decide +kernel
theorem dX2_forget_22 : decode cX2_forget 22 = .ok (.putfield 82, 3) := by decide +kernel
theorem dX2_forget_25 : decode cX2_forget 25 = .ok (.aload_n 0, 1) := by decide +kernel
theorem dX2_forget_26 : decode cX2_forget 26 = .ok (.aconst_null, 1) := by decide +kernel
theorem dX2_forget_27 : decode cX2_forget 27 = .ok (.putfield 96, 3) := by decide +kernel
theorem dX2_forget_30 : decode cX2_forget 30 = .ok (.aload_n 0, 1) := by decide +kernel
theorem dX2_forget_31 : decode cX2_forget 31 = .ok (.aconst_null, 1) := by decide +kernel
theorem dX2_forget_32 : decode cX2_forget 32 = .ok (.putfield 99, 3) := by decide +kernel
theorem dX2_forget_35 : decode cX2_forget 35 = .ok (.return_, 1) := by decide +kernel
theorem dX2_findStrongObjection_0 : decode cX2_findStrongObjection 0 = .ok (.iconst 0, 1) := by decide +kernel
theorem dX2_findStrongObjection_1 : decode cX2_findStrongObjection 1 = .ok (.istore_n 2, 1) := by decide +kernel
theorem dX2_findStrongObjection_2 : decode cX2_findStrongObjection 2 = .ok (.iload_n 2, 1) := by decide +kernel
theorem dX2_findStrongObjection_3 : decode cX2_findStrongObjection 3 = .ok (.aload_n 1, 1) := by decide +kernel
theorem dX2_findStrongObjection_4 : decode cX2_findStrongObjection 4 = .ok (.getfield 102, 3) := by decide +kernel
theorem dX2_findStrongObjection_7 : decode cX2_findStrongObjection 7 = .ok (.if_icmp .ge 54, 3) := by decide +kernel
theorem dX2_findStrongObjection_10 : decode cX2_findStrongObjection 10 = .ok (.aload_n 0, 1) := by decide +kernel
theorem dX2_findStrongObjection_11 : decode cX2_findStrongObjection 11 = .ok (.getfield 60, 3) := by decide +kernel
theorem dX2_findStrongObjection_14 : decode cX2_findStrongObjection 14 = .ok (.ifnonnull 47, 3) := by decide +kernel
theorem dX2_findStrongObjection_17 : decode cX2_findStrongObjection 17 = .ok (.aload_n 1, 1) := by decide +kernel
theorem dX2_findStrongObjection_18 : decode cX2_findStrongObjection 18 = .ok (.iload_n 2, 1) := by decide +kernel
theorem dX2_findStrongObjection_19 : decode cX2_findStrongObjection 19 = .ok (.invokevirtual 105, 3) := by decide +kernel
theorem dX2_findStrongObjection_22 : decode cX2_findStrongObjection 22 = .ok (.astore_n 3, 1) := by decide +kernel
theorem dX2_findStrongObjection_23 : decode cX2_findStrongObjection 23 = .ok (.aload_n 3, 1) := by decide +kernel
theorem dX2_findStrongObjection_24 : decode cX2_findStrongObjection 24 = .ok (.ifnull 31, 3) := by decide +kernel
theorem dX2_findStrongObjection_27 : decode cX2_findStrongObjection 27 = .ok (.aload_n 3, 1) := by decide +kernel
theorem dX2_findStrongObjection_28 : decode cX2_findStrongObjection 28 = .ok (.getfield 106, 3) := by decide +kernel
theorem dX2_findStrongObjection_31 : decode cX2_findStrongObjection 31 = .ok (.iconst 4, 1) := by decide +kernel
theorem dX2_findStrongObjection_32 : decode cX2_findStrongObjection 32 = .ok (.if_icmp .ne 23, 3) := by decide +kernel
theorem dX2_findStrongObjection_35 : decode cX2_findStrongObjection 35 = .ok (.aload_n 3, 1) := by decide +kernel
theorem dX2_findStrongObjection_36 : decode cX2_findStrongObjection 36 = .ok (.getfield 109, 3) := by decide +kernel
theorem dX2_findStrongObjection_39 : decode cX2_findStrongObjection 39 = .ok (.ifCond .ne 16, 3) := by decide +kernel
theorem dX2_findStrongObjection_42 : decode cX2_findStrongObjection 42 = .ok (.aload_n 0, 1) := by decide +kernel
theorem dX2_findStrongObjection_43 : decode cX2_findStrongObjection 43 = .ok (.aload_n 3, 1) := by decide +kernel
theorem dX2_findStrongObjection_44 : decode cX2_findStrongObjection 44 = .ok (.invokevirtual 113, 3) := by decide +kernel
theorem dX2_findStrongObjection_47 : decode cX2_findStrongObjection 47 = .ok (.ifCond .eq 8, 3) := by decide +kernel
theorem dX2_findStrongObjection_50 : decode cX2_findStrongObjection 50 = .ok (.aload_n 0, 1) := by decide +kernel
theorem dX2_findStrongObjection_51 : decode cX2_findStrongObjection 51 = .ok (.aload_n 3, 1) := by decide +kernel
theorem dX2_findStrongObjection_52 : decode cX2_findStrongObjection 52 = .ok (.putfield 60, 3) := by decide +kernel
theorem dX2_findStrongObjection_55 : decode cX2_findStrongObjection 55 = .ok (.iinc 2 1, 3) := by decide +kernel
theorem dX2_findStrongObjection_58 : decode cX2_findStrongObjection 58 = .ok (.goto (-56), 3) := by decide +kernel
theorem dX2_findStrongObjection_61 : decode cX2_findStrongObjection 61 = .ok (.return_, 1) := by decide +kernel
theorem dX2_dividesThem_0 : decode cX2_dividesThem 0 = .ok (.aload_n 0, 1) := by decide +kernel
theorem dX2_dividesThem_1 : decode cX2_dividesThem 1 = .ok (.getfield 21, 3) := by decide +kernel
theorem dX2_dividesThem_4 : decode cX2_dividesThem 4 = .ok (.aload_n 1, 1) := by decide +kernel
theorem dX2_dividesThem_5 : decode cX2_dividesThem 5 = .ok (.invokevirtual 117, 3) := by decide +kernel
theorem dX2_dividesThem_8 : decode cX2_dividesThem 8 = .ok (.ifCond .eq 17, 3) := by decide +kernel
theorem dX2_dividesThem_11 : decode cX2_dividesThem 11 = .ok (.aload_n 0, 1) := by decide +kernel
theorem dX2_dividesThem_12 : decode cX2_dividesThem 12 = .ok (.getfield 25, 3) := by decide +kernel
theorem dX2_dividesThem_15 : decode cX2_dividesThem 15 = .ok (.aload_n 1, 1) := by decide +kernel
theorem dX2_dividesThem_16 : decode cX2_dividesThem 16 = .ok (.getfield 64, 3) := by decide +kernel
theorem dX2_dividesThem_19 : decode cX2_dividesThem 19 = .ok (.invokevirtual 117, 3) := by decide +kernel
theorem dX2_dividesThem_22 : decode cX2_dividesThem 22 = .ok (.ifCond .ne 28, 3) := by decide +kernel
theorem dX2_dividesThem_25 : decode cX2_dividesThem 25 = .ok (.aload_n 0, 1) := by decide +kernel
theorem dX2_dividesThem_26 : decode cX2_dividesThem 26 = .ok (.getfield 25, 3) := by decide +kernel
theorem dX2_dividesThem_29 : decode cX2_dividesThem 29 = .ok (.aload_n 1, 1) := by decide +kernel
theorem dX2_dividesThem_30 : decode cX2_dividesThem 30 = .ok (.invokevirtual 117, 3) := by decide +kernel
theorem dX2_dividesThem_33 : decode cX2_dividesThem 33 = .ok (.ifCond .eq 21, 3) := by decide +kernel
theorem dX2_dividesThem_36 : decode cX2_dividesThem 36 = .ok (.aload_n 0, 1) := by decide +kernel
theorem dX2_dividesThem_37 : decode cX2_dividesThem 37 = .ok (.getfield 21, 3) := by decide +kernel
theorem dX2_dividesThem_40 : decode cX2_dividesThem 40 = .ok (.aload_n 1, 1) := by decide +kernel
theorem dX2_dividesThem_41 : decode cX2_dividesThem 41 = .ok (.getfield 64, 3) := by decide +kernel
theorem dX2_dividesThem_44 : decode cX2_dividesThem 44 = .ok (.invokevirtual 117, 3) := by decide +kernel
theorem dX2_dividesThem_47 : decode cX2_dividesThem 47 = .ok (.ifCond .eq 7, 3) := by decide +kernel
theorem dX2_dividesThem_50 : decode cX2_dividesThem 50 = .ok (.iconst 1, 1) := by decide +kernel
theorem dX2_dividesThem_51 : decode cX2_dividesThem 51 = .ok (.goto 4, 3) := by decide +kernel
theorem dX2_dividesThem_54 : decode cX2_dividesThem 54 = .ok (.iconst 0, 1) := by decide +kernel
theorem dX2_dividesThem_55 : decode cX2_dividesThem 55 = .ok (.ireturn, 1) := by decide +kernel
theorem dX2_findReserve_0 : decode cX2_findReserve 0 = .ok (.aload_n 1, 1) := by decide +kernel
theorem dX2_findReserve_1 : decode cX2_findReserve 1 = .ok (.getfield 102, 3) := by decide +kernel
theorem dX2_findReserve_4 : decode cX2_findReserve 4 = .ok (.iconst 1, 1) := by decide +kernel
theorem dX2_findReserve_5 : decode cX2_findReserve 5 = .ok (.isub, 1) := by decide +kernel
theorem dX2_findReserve_6 : decode cX2_findReserve 6 = .ok (.istore_n 3, 1) := by decide +kernel
theorem dX2_findReserve_7 : decode cX2_findReserve 7 = .ok (.iload_n 3, 1) := by decide +kernel
theorem dX2_findReserve_8 : decode cX2_findReserve 8 = .ok (.ifCond .lt 60, 3) := by decide +kernel
theorem dX2_findReserve_11 : decode cX2_findReserve 11 = .ok (.aload_n 0, 1) := by decide +kernel
theorem dX2_findReserve_12 : decode cX2_findReserve 12 = .ok (.getfield 69, 3) := by decide +kernel
theorem dX2_findReserve_15 : decode cX2_findReserve 15 = .ok (.ifnonnull 53, 3) := by decide +kernel
theorem dX2_findReserve_18 : decode cX2_findReserve 18 = .ok (.aload_n 1, 1) := by decide +kernel
theorem dX2_findReserve_19 : decode cX2_findReserve 19 = .ok (.iload_n 3, 1) := by decide +kernel
theorem dX2_findReserve_20 : decode cX2_findReserve 20 = .ok (.invokevirtual 105, 3) := by decide +kernel
theorem dX2_findReserve_23 : decode cX2_findReserve 23 = .ok (.astore 4, 2) := by decide +kernel
theorem dX2_findReserve_25 : decode cX2_findReserve 25 = .ok (.aload 4, 2) := by decide +kernel
theorem dX2_findReserve_27 : decode cX2_findReserve 27 = .ok (.ifnull 35, 3) := by decide +kernel
theorem dX2_findReserve_30 : decode cX2_findReserve 30 = .ok (.aload_n 0, 1) := by decide +kernel
theorem dX2_findReserve_31 : decode cX2_findReserve 31 = .ok (.getfield 21, 3) := by decide +kernel
theorem dX2_findReserve_34 : decode cX2_findReserve 34 = .ok (.aload 4, 2) := by decide +kernel
theorem dX2_findReserve_36 : decode cX2_findReserve 36 = .ok (.iload_n 2, 1) := by decide +kernel
theorem dX2_findReserve_37 : decode cX2_findReserve 37 = .ok (.invokevirtual 120, 3) := by decide +kernel
theorem dX2_findReserve_40 : decode cX2_findReserve 40 = .ok (.ifCond .ne 16, 3) := by decide +kernel
theorem dX2_findReserve_43 : decode cX2_findReserve 43 = .ok (.aload_n 0, 1) := by decide +kernel
theorem dX2_findReserve_44 : decode cX2_findReserve 44 = .ok (.getfield 25, 3) := by decide +kernel
theorem dX2_findReserve_47 : decode cX2_findReserve 47 = .ok (.aload 4, 2) := by decide +kernel
theorem dX2_findReserve_49 : decode cX2_findReserve 49 = .ok (.iload_n 2, 1) := by decide +kernel
theorem dX2_findReserve_50 : decode cX2_findReserve 50 = .ok (.invokevirtual 120, 3) := by decide +kernel
theorem dX2_findReserve_53 : decode cX2_findReserve 53 = .ok (.ifCond .eq 9, 3) := by decide +kernel
theorem dX2_findReserve_56 : decode cX2_findReserve 56 = .ok (.aload_n 0, 1) := by decide +kernel
theorem dX2_findReserve_57 : decode cX2_findReserve 57 = .ok (.aload 4, 2) := by decide +kernel
theorem dX2_findReserve_59 : decode cX2_findReserve 59 = .ok (.putfield 69, 3) := by decide +kernel
theorem dX2_findReserve_62 : decode cX2_findReserve 62 = .ok (.iinc 3 (-1), 3) := by decide +kernel
theorem dX2_findReserve_65 : decode cX2_findReserve 65 = .ok (.goto (-58), 3) := by decide +kernel
theorem dX2_findReserve_68 : decode cX2_findReserve 68 = .ok (.return_, 1) := by decide +kernel
theorem dX2_settleReserve_0 : decode cX2_settleReserve 0 = .ok (.aload_n 0, 1) := by decide +kernel
theorem dX2_settleReserve_1 : decode cX2_settleReserve 1 = .ok (.getfield 69, 3) := by decide +kernel
theorem dX2_settleReserve_4 : decode cX2_settleReserve 4 = .ok (.getfield 92, 3) := by decide +kernel
theorem dX2_settleReserve_7 : decode cX2_settleReserve 7 = .ok (.ifCond .eq 42, 3) := by decide +kernel
theorem dX2_settleReserve_10 : decode cX2_settleReserve 10 = .ok (.aload_n 0, 1) := by decide +kernel
theorem dX2_settleReserve_11 : decode cX2_settleReserve 11 = .ok (.getfield 21, 3) := by decide +kernel
theorem dX2_settleReserve_14 : decode cX2_settleReserve 14 = .ok (.aload_n 0, 1) := by decide +kernel
theorem dX2_settleReserve_15 : decode cX2_settleReserve 15 = .ok (.getfield 69, 3) := by decide +kernel
theorem dX2_settleReserve_18 : decode cX2_settleReserve 18 = .ok (.invokevirtual 117, 3) := by decide +kernel
theorem dX2_settleReserve_21 : decode cX2_settleReserve 21 = .ok (.ifCond .eq 10, 3) := by decide +kernel
theorem dX2_settleReserve_24 : decode cX2_settleReserve 24 = .ok (.aload_n 0, 1) := by decide +kernel
theorem dX2_settleReserve_25 : decode cX2_settleReserve 25 = .ok (.getfield 25, 3) := by decide +kernel
theorem dX2_settleReserve_28 : decode cX2_settleReserve 28 = .ok (.goto 7, 3) := by decide +kernel
theorem dX2_settleReserve_31 : decode cX2_settleReserve 31 = .ok (.aload_n 0, 1) := by decide +kernel
theorem dX2_settleReserve_32 : decode cX2_settleReserve 32 = .ok (.getfield 21, 3) := by decide +kernel
theorem dX2_settleReserve_35 : decode cX2_settleReserve 35 = .ok (.astore_n 1, 1) := by decide +kernel
theorem dX2_settleReserve_36 : decode cX2_settleReserve 36 = .ok (.aload_n 0, 1) := by decide +kernel
theorem dX2_settleReserve_37 : decode cX2_settleReserve 37 = .ok (.aload_n 1, 1) := by decide +kernel
theorem dX2_settleReserve_38 : decode cX2_settleReserve 38 = .ok (.aload_n 0, 1) := by decide +kernel
theorem dX2_settleReserve_39 : decode cX2_settleReserve 39 = .ok (.getfield 69, 3) := by decide +kernel
theorem dX2_settleReserve_42 : decode cX2_settleReserve 42 = .ok (.iconst 1, 1) := by decide +kernel
theorem dX2_settleReserve_43 : decode cX2_settleReserve 43 = .ok (.invokevirtual 124, 3) := by decide +kernel
theorem dX2_settleReserve_46 : decode cX2_settleReserve 46 = .ok (.putfield 60, 3) := by decide +kernel
theorem dX2_settleReserve_49 : decode cX2_settleReserve 49 = .ok (.aload_n 0, 1) := by decide +kernel
theorem dX2_settleReserve_50 : decode cX2_settleReserve 50 = .ok (.getfield 69, 3) := by decide +kernel
theorem dX2_settleReserve_53 : decode cX2_settleReserve 53 = .ok (.getfield 92, 3) := by decide +kernel
theorem dX2_settleReserve_56 : decode cX2_settleReserve 56 = .ok (.ifCond .eq 10, 3) := by decide +kernel
theorem dX2_settleReserve_59 : decode cX2_settleReserve 59 = .ok (.aload_n 0, 1) := by decide +kernel
theorem dX2_settleReserve_60 : decode cX2_settleReserve 60 = .ok (.getfield 60, 3) := by decide +kernel
theorem dX2_settleReserve_63 : decode cX2_settleReserve 63 = .ok (.ifnull 7, 3) := by decide +kernel
theorem dX2_settleReserve_66 : decode cX2_settleReserve 66 = .ok (.iconst 1, 1) := by decide +kernel
theorem dX2_settleReserve_67 : decode cX2_settleReserve 67 = .ok (.goto 4, 3) := by decide +kernel
theorem dX2_settleReserve_70 : decode cX2_settleReserve 70 = .ok (.iconst 0, 1) := by decide +kernel
theorem dX2_settleReserve_71 : decode cX2_settleReserve 71 = .ok (.istore_n 1, 1) := by decide +kernel
theorem dX2_settleReserve_72 : decode cX2_settleReserve 72 = .ok (.aload_n 0, 1) := by decide +kernel
theorem dX2_settleReserve_73 : decode cX2_settleReserve 73 = .ok (.iload_n 1, 1) := by decide +kernel
theorem dX2_settleReserve_74 : decode cX2_settleReserve 74 = .ok (.ifCond .eq 7, 3) := by decide +kernel
theorem dX2_settleReserve_77 : decode cX2_settleReserve 77 = .ok (.iconst 3, 1) := by decide +kernel
theorem dX2_settleReserve_78 : decode cX2_settleReserve 78 = .ok (.goto 4, 3) := by decide +kernel
theorem dX2_settleReserve_81 : decode cX2_settleReserve 81 = .ok (.iconst 2, 1) := by decide +kernel
theorem dX2_settleReserve_82 : decode cX2_settleReserve 82 = .ok (.putfield 85, 3) := by decide +kernel
theorem dX2_settleReserve_85 : decode cX2_settleReserve 85 = .ok (.aload_n 0, 1) := by decide +kernel
theorem dX2_settleReserve_86 : decode cX2_settleReserve 86 = .ok (.iload_n 1, 1) := by decide +kernel
theorem dX2_settleReserve_87 : decode cX2_settleReserve 87 = .ok (.ifCond .eq 7, 3) := by decide +kernel
theorem dX2_settleReserve_90 : decode cX2_settleReserve 90 = .ok (.iconst 0, 1) := by decide +kernel
theorem dX2_settleReserve_91 : decode cX2_settleReserve 91 = .ok (.goto 10, 3) := by decide +kernel
theorem dX2_settleReserve_94 : decode cX2_settleReserve 94 = .ok (.aload_n 0, 1) := by decide +kernel
theorem dX2_settleReserve_95 : decode cX2_settleReserve 95 = .ok (.getfield 69, 3) := by decide +kernel
theorem dX2_settleReserve_98 : decode cX2_settleReserve 98 = .ok (.getfield 92, 3) := by decide +kernel
theorem dX2_settleReserve_101 : decode cX2_settleReserve 101 = .ok (.putfield 95, 3) := by decide +kernel
theorem dX2_settleReserve_104 : decode cX2_settleReserve 104 = .ok (.return_, 1) := by decide +kernel
theorem dX2_findChange_0 : decode cX2_findChange 0 = .ok (.aload_n 1, 1) := by decide +kernel
theorem dX2_findChange_1 : decode cX2_findChange 1 = .ok (.getfield 102, 3) := by decide +kernel
theorem dX2_findChange_4 : decode cX2_findChange 4 = .ok (.iconst 1, 1) := by decide +kernel
theorem dX2_findChange_5 : decode cX2_findChange 5 = .ok (.isub, 1) := by decide +kernel
theorem dX2_findChange_6 : decode cX2_findChange 6 = .ok (.istore 5, 2) := by decide +kernel
theorem dX2_findChange_8 : decode cX2_findChange 8 = .ok (.iload 5, 2) := by decide +kernel
theorem dX2_findChange_10 : decode cX2_findChange 10 = .ok (.ifCond .lt 73, 3) := by decide +kernel
theorem dX2_findChange_13 : decode cX2_findChange 13 = .ok (.aload_n 0, 1) := by decide +kernel
theorem dX2_findChange_14 : decode cX2_findChange 14 = .ok (.getfield 82, 3) := by decide +kernel
theorem dX2_findChange_17 : decode cX2_findChange 17 = .ok (.ifnonnull 66, 3) := by decide +kernel
theorem dX2_findChange_20 : decode cX2_findChange 20 = .ok (.aload_n 1, 1) := by decide +kernel
theorem dX2_findChange_21 : decode cX2_findChange 21 = .ok (.iload 5, 2) := by decide +kernel
theorem dX2_findChange_23 : decode cX2_findChange 23 = .ok (.invokevirtual 105, 3) := by decide +kernel
theorem dX2_findChange_26 : decode cX2_findChange 26 = .ok (.astore 6, 2) := by decide +kernel
theorem dX2_findChange_28 : decode cX2_findChange 28 = .ok (.aload 6, 2) := by decide +kernel
theorem dX2_findChange_30 : decode cX2_findChange 30 = .ok (.ifnull 47, 3) := by decide +kernel
theorem dX2_findChange_33 : decode cX2_findChange 33 = .ok (.aload 6, 2) := by decide +kernel
theorem dX2_findChange_35 : decode cX2_findChange 35 = .ok (.getfield 106, 3) := by decide +kernel
theorem dX2_findChange_38 : decode cX2_findChange 38 = .ok (.bipush 6, 2) := by decide +kernel
theorem dX2_findChange_40 : decode cX2_findChange 40 = .ok (.if_icmp .ne 37, 3) := by decide +kernel
theorem dX2_findChange_43 : decode cX2_findChange 43 = .ok (.aload 6, 2) := by decide +kernel
theorem dX2_findChange_45 : decode cX2_findChange 45 = .ok (.getfield 128, 3) := by decide +kernel
theorem dX2_findChange_48 : decode cX2_findChange 48 = .ok (.aload_n 2, 1) := by decide +kernel
theorem dX2_findChange_49 : decode cX2_findChange 49 = .ok (.if_acmp .ne 28, 3) := by decide +kernel
theorem dX2_findChange_52 : decode cX2_findChange 52 = .ok (.aload 6, 2) := by decide +kernel
theorem dX2_findChange_54 : decode cX2_findChange 54 = .ok (.getfield 132, 3) := by decide +kernel
theorem dX2_findChange_57 : decode cX2_findChange 57 = .ok (.iload_n 3, 1) := by decide +kernel
theorem dX2_findChange_58 : decode cX2_findChange 58 = .ok (.if_icmp .ne 19, 3) := by decide +kernel
theorem dX2_findChange_61 : decode cX2_findChange 61 = .ok (.aload 6, 2) := by decide +kernel
theorem dX2_findChange_63 : decode cX2_findChange 63 = .ok (.getfield 135, 3) := by decide +kernel
theorem dX2_findChange_66 : decode cX2_findChange 66 = .ok (.iload 4, 2) := by decide +kernel
theorem dX2_findChange_68 : decode cX2_findChange 68 = .ok (.if_icmp .gt 9, 3) := by decide +kernel
theorem dX2_findChange_71 : decode cX2_findChange 71 = .ok (.aload_n 0, 1) := by decide +kernel
theorem dX2_findChange_72 : decode cX2_findChange 72 = .ok (.aload 6, 2) := by decide +kernel
theorem dX2_findChange_74 : decode cX2_findChange 74 = .ok (.invokevirtual 138, 3) := by decide +kernel
theorem dX2_findChange_77 : decode cX2_findChange 77 = .ok (.iinc 5 (-1), 3) := by decide +kernel
theorem dX2_findChange_80 : decode cX2_findChange 80 = .ok (.goto (-72), 3) := by decide +kernel
theorem dX2_findChange_83 : decode cX2_findChange 83 = .ok (.return_, 1) := by decide +kernel
theorem dX2_takeChange_0 : decode cX2_takeChange 0 = .ok (.aload_n 0, 1) := by decide +kernel
theorem dX2_takeChange_1 : decode cX2_takeChange 1 = .ok (.getfield 21, 3) := by decide +kernel
theorem dX2_takeChange_4 : decode cX2_takeChange 4 = .ok (.aload_n 1, 1) := by decide +kernel
theorem dX2_takeChange_5 : decode cX2_takeChange 5 = .ok (.iconst 0, 1) := by decide +kernel
theorem dX2_takeChange_6 : decode cX2_takeChange 6 = .ok (.invokevirtual 124, 3) := by decide +kernel
theorem dX2_takeChange_9 : decode cX2_takeChange 9 = .ok (.astore_n 2, 1) := by decide +kernel
theorem dX2_takeChange_10 : decode cX2_takeChange 10 = .ok (.aload_n 0, 1) := by decide +kernel
theorem dX2_takeChange_11 : decode cX2_takeChange 11 = .ok (.getfield 25, 3) := by decide +kernel
theorem dX2_takeChange_14 : decode cX2_takeChange 14 = .ok (.aload_n 1, 1) := by decide +kernel
theorem dX2_takeChange_15 : decode cX2_takeChange 15 = .ok (.iconst 0, 1) := by decide +kernel
theorem dX2_takeChange_16 : decode cX2_takeChange 16 = .ok (.invokevirtual 124, 3) := by decide +kernel
theorem dX2_takeChange_19 : decode cX2_takeChange 19 = .ok (.astore_n 3, 1) := by decide +kernel
theorem dX2_takeChange_20 : decode cX2_takeChange 20 = .ok (.aload_n 2, 1) := by decide +kernel
theorem dX2_takeChange_21 : decode cX2_takeChange 21 = .ok (.ifnull 22, 3) := by decide +kernel
theorem dX2_takeChange_24 : decode cX2_takeChange 24 = .ok (.aload_n 3, 1) := by decide +kernel
theorem dX2_takeChange_25 : decode cX2_takeChange 25 = .ok (.ifnull 18, 3) := by decide +kernel
theorem dX2_takeChange_28 : decode cX2_takeChange 28 = .ok (.aload_n 0, 1) := by decide +kernel
theorem dX2_takeChange_29 : decode cX2_takeChange 29 = .ok (.aload_n 1, 1) := by decide +kernel
theorem dX2_takeChange_30 : decode cX2_takeChange 30 = .ok (.putfield 82, 3) := by decide +kernel
theorem dX2_takeChange_33 : decode cX2_takeChange 33 = .ok (.aload_n 0, 1) := by decide +kernel
theorem dX2_takeChange_34 : decode cX2_takeChange 34 = .ok (.aload_n 2, 1) := by decide +kernel
theorem dX2_takeChange_35 : decode cX2_takeChange 35 = .ok (.putfield 96, 3) := by decide +kernel
theorem dX2_takeChange_38 : decode cX2_takeChange 38 = .ok (.aload_n 0, 1) := by decide +kernel
theorem dX2_takeChange_39 : decode cX2_takeChange 39 = .ok (.aload_n 3, 1) := by decide +kernel
theorem dX2_takeChange_40 : decode cX2_takeChange 40 = .ok (.putfield 99, 3) := by decide +kernel
theorem dX2_takeChange_43 : decode cX2_takeChange 43 = .ok (.return_, 1) := by decide +kernel
theorem dX2_reason_0 : decode cX2_reason 0 = .ok (.iconst 0, 1) := by decide +kernel
theorem dX2_reason_1 : decode cX2_reason 1 = .ok (.istore_n 3, 1) := by decide +kernel
theorem dX2_reason_2 : decode cX2_reason 2 = .ok (.iload_n 3, 1) := by decide +kernel
theorem dX2_reason_3 : decode cX2_reason 3 = .ok (.aload_n 0, 1) := by decide +kernel
theorem dX2_reason_4 : decode cX2_reason 4 = .ok (.getfield 28, 3) := by decide +kernel
theorem dX2_reason_7 : decode cX2_reason 7 = .ok (.arraylength, 1) := by decide +kernel
theorem dX2_reason_8 : decode cX2_reason 8 = .ok (.if_icmp .ge 16, 3) := by decide +kernel
theorem dX2_reason_11 : decode cX2_reason 11 = .ok (.aload_n 0, 1) := by decide +kernel
theorem dX2_reason_12 : decode cX2_reason 12 = .ok (.getfield 28, 3) := by decide +kernel
theorem dX2_reason_15 : decode cX2_reason 15 = .ok (.iload_n 3, 1) := by decide +kernel
theorem dX2_reason_16 : decode cX2_reason 16 = .ok (.iconst 0, 1) := by decide +kernel
theorem dX2_reason_17 : decode cX2_reason 17 = .ok (.bastore, 1) := by decide +kernel
theorem dX2_reason_18 : decode cX2_reason 18 = .ok (.iinc 3 1, 3) := by decide +kernel
theorem dX2_reason_21 : decode cX2_reason 21 = .ok (.goto (-19), 3) := by decide +kernel
theorem dX2_reason_24 : decode cX2_reason 24 = .ok (.aload_n 0, 1) := by decide +kernel
theorem dX2_reason_25 : decode cX2_reason 25 = .ok (.getfield 85, 3) := by decide +kernel
theorem dX2_reason_28 : decode cX2_reason 28 = .ok (.ifCond .ne 12, 3) := by decide +kernel
theorem dX2_reason_31 : decode cX2_reason 31 = .ok (.aload_n 0, 1) := by decide +kernel
theorem dX2_reason_32 : decode cX2_reason 32 = .ok (.getfield 60, 3) := by decide +kernel
theorem dX2_reason_35 : decode cX2_reason 35 = .ok (.ifnonnull 5, 3) := by decide +kernel
theorem dX2_reason_38 : decode cX2_reason 38 = .ok (.iconst (-1), 1) := by decide +kernel
theorem dX2_reason_39 : decode cX2_reason 39 = .ok (.ireturn, 1) := by decide +kernel
theorem dX2_reason_40 : decode cX2_reason 40 = .ok (.aload_n 0, 1) := by decide +kernel
theorem dX2_reason_41 : decode cX2_reason 41 = .ok (.aload_n 0, 1) := by decide +kernel
theorem dX2_reason_42 : decode cX2_reason 42 = .ok (.getfield 21, 3) := by decide +kernel
theorem dX2_reason_45 : decode cX2_reason 45 = .ok (.getfield 142, 3) := by decide +kernel
theorem dX2_reason_48 : decode cX2_reason 48 = .ok (.invokevirtual 145, 3) := by decide +kernel
theorem dX2_reason_51 : decode cX2_reason 51 = .ok (.aload_n 0, 1) := by decide +kernel
theorem dX2_reason_52 : decode cX2_reason 52 = .ok (.aload_n 0, 1) := by decide +kernel
theorem dX2_reason_53 : decode cX2_reason 53 = .ok (.getfield 25, 3) := by decide +kernel
theorem dX2_reason_56 : decode cX2_reason 56 = .ok (.getfield 142, 3) := by decide +kernel
theorem dX2_reason_59 : decode cX2_reason 59 = .ok (.invokevirtual 145, 3) := by decide +kernel
theorem dX2_reason_62 : decode cX2_reason 62 = .ok (.aload_n 0, 1) := by decide +kernel
theorem dX2_reason_63 : decode cX2_reason 63 = .ok (.aload_n 0, 1) := by decide +kernel
theorem dX2_reason_64 : decode cX2_reason 64 = .ok (.getfield 60, 3) := by decide +kernel
theorem dX2_reason_67 : decode cX2_reason 67 = .ok (.invokevirtual 145, 3) := by decide +kernel
theorem dX2_reason_70 : decode cX2_reason 70 = .ok (.aload_n 0, 1) := by decide +kernel
theorem dX2_reason_71 : decode cX2_reason 71 = .ok (.aload_n 0, 1) := by decide +kernel
theorem dX2_reason_72 : decode cX2_reason 72 = .ok (.getfield 69, 3) := by decide +kernel
theorem dX2_reason_75 : decode cX2_reason 75 = .ok (.invokevirtual 145, 3) := by decide +kernel
theorem dX2_reason_78 : decode cX2_reason 78 = .ok (.aload_n 0, 1) := by decide +kernel
theorem dX2_reason_79 : decode cX2_reason 79 = .ok (.aload_n 0, 1) := by decide +kernel
theorem dX2_reason_80 : decode cX2_reason 80 = .ok (.getfield 82, 3) := by decide +kernel
theorem dX2_reason_83 : decode cX2_reason 83 = .ok (.invokevirtual 145, 3) := by decide +kernel
theorem dX2_reason_86 : decode cX2_reason 86 = .ok (.aload_n 0, 1) := by decide +kernel
theorem dX2_reason_87 : decode cX2_reason 87 = .ok (.aload_n 0, 1) := by decide +kernel
theorem dX2_reason_88 : decode cX2_reason 88 = .ok (.getfield 96, 3) := by decide +kernel
theorem dX2_reason_91 : decode cX2_reason 91 = .ok (.invokevirtual 145, 3) := by decide +kernel
theorem dX2_reason_94 : decode cX2_reason 94 = .ok (.aload_n 0, 1) := by decide +kernel
theorem dX2_reason_95 : decode cX2_reason 95 = .ok (.aload_n 0, 1) := by decide +kernel
theorem dX2_reason_96 : decode cX2_reason 96 = .ok (.getfield 99, 3) := by decide +kernel
theorem dX2_reason_99 : decode cX2_reason 99 = .ok (.invokevirtual 145, 3) := by decide +kernel
theorem dX2_reason_102 : decode cX2_reason 102 = .ok (.aload_n 0, 1) := by decide +kernel
theorem dX2_reason_103 : decode cX2_reason 103 = .ok (.getfield 85, 3) := by decide +kernel
theorem dX2_reason_106 : decode cX2_reason 106 = .ok (.ifCond .eq 7, 3) := by decide +kernel
theorem dX2_reason_109 : decode cX2_reason 109 = .ok (.aload_n 0, 1) := by decide +kernel
theorem dX2_reason_110 : decode cX2_reason 110 = .ok (.invokevirtual 148, 3) := by decide +kernel
theorem dX2_reason_113 : decode cX2_reason 113 = .ok (.aload_n 0, 1) := by decide +kernel
theorem dX2_reason_114 : decode cX2_reason 114 = .ok (.aload_n 1, 1) := by decide +kernel
theorem dX2_reason_115 : decode cX2_reason 115 = .ok (.invokevirtual 151, 3) := by decide +kernel
theorem dX2_reason_118 : decode cX2_reason 118 = .ok (.aload_n 0, 1) := by decide +kernel
theorem dX2_reason_119 : decode cX2_reason 119 = .ok (.iload_n 2, 1) := by decide +kernel
theorem dX2_reason_120 : decode cX2_reason 120 = .ok (.invokevirtual 154, 3) := by decide +kernel
theorem dX2_reason_123 : decode cX2_reason 123 = .ok (.ireturn, 1) := by decide +kernel
theorem dX2_cite_0 : decode cX2_cite 0 = .ok (.aload_n 1, 1) := by decide +kernel
theorem dX2_cite_1 : decode cX2_cite 1 = .ok (.ifnull 32, 3) := by decide +kernel
theorem dX2_cite_4 : decode cX2_cite 4 = .ok (.aload_n 1, 1) := by decide +kernel
theorem dX2_cite_5 : decode cX2_cite 5 = .ok (.getfield 157, 3) := by decide +kernel
theorem dX2_cite_8 : decode cX2_cite 8 = .ok (.ifCond .lt 25, 3) := by decide +kernel
theorem dX2_cite_11 : decode cX2_cite 11 = .ok (.aload_n 1, 1) := by decide +kernel
theorem dX2_cite_12 : decode cX2_cite 12 = .ok (.getfield 157, 3) := by decide +kernel
theorem dX2_cite_15 : decode cX2_cite 15 = .ok (.aload_n 0, 1) := by decide +kernel
theorem dX2_cite_16 : decode cX2_cite 16 = .ok (.getfield 28, 3) := by decide +kernel
theorem dX2_cite_19 : decode cX2_cite 19 = .ok (.arraylength, 1) := by decide +kernel
theorem dX2_cite_20 : decode cX2_cite 20 = .ok (.if_icmp .ge 13, 3) := by decide +kernel
theorem dX2_cite_23 : decode cX2_cite 23 = .ok (.aload_n 0, 1) := by decide +kernel
theorem dX2_cite_24 : decode cX2_cite 24 = .ok (.getfield 28, 3) := by decide +kernel
theorem dX2_cite_27 : decode cX2_cite 27 = .ok (.aload_n 1, 1) := by decide +kernel
theorem dX2_cite_28 : decode cX2_cite 28 = .ok (.getfield 157, 3) := by decide +kernel
theorem dX2_cite_31 : decode cX2_cite 31 = .ok (.iconst 1, 1) := by decide +kernel
theorem dX2_cite_32 : decode cX2_cite 32 = .ok (.bastore, 1) := by decide +kernel
theorem dX2_cite_33 : decode cX2_cite 33 = .ok (.return_, 1) := by decide +kernel
theorem dX2_citeNeeded_0 : decode cX2_citeNeeded 0 = .ok (.aload_n 0, 1) := by decide +kernel
theorem dX2_citeNeeded_1 : decode cX2_citeNeeded 1 = .ok (.getfield 45, 3) := by decide +kernel
theorem dX2_citeNeeded_4 : decode cX2_citeNeeded 4 = .ok (.istore_n 1, 1) := by decide +kernel
theorem dX2_citeNeeded_5 : decode cX2_citeNeeded 5 = .ok (.iconst 0, 1) := by decide +kernel
theorem dX2_citeNeeded_6 : decode cX2_citeNeeded 6 = .ok (.istore_n 2, 1) := by decide +kernel
theorem dX2_citeNeeded_7 : decode cX2_citeNeeded 7 = .ok (.iload_n 2, 1) := by decide +kernel
theorem dX2_citeNeeded_8 : decode cX2_citeNeeded 8 = .ok (.bipush 30, 2) := by decide +kernel
theorem dX2_citeNeeded_10 : decode cX2_citeNeeded 10 = .ok (.if_icmp .ge 34, 3) := by decide +kernel
theorem dX2_citeNeeded_13 : decode cX2_citeNeeded 13 = .ok (.iload_n 1, 1) := by decide +kernel
theorem dX2_citeNeeded_14 : decode cX2_citeNeeded 14 = .ok (.ifCond .le 30, 3) := by decide +kernel
theorem dX2_citeNeeded_17 : decode cX2_citeNeeded 17 = .ok (.aload_n 0, 1) := by decide +kernel
theorem dX2_citeNeeded_18 : decode cX2_citeNeeded 18 = .ok (.getfield 12, 3) := by decide +kernel
theorem dX2_citeNeeded_21 : decode cX2_citeNeeded 21 = .ok (.iload_n 2, 1) := by decide +kernel
theorem dX2_citeNeeded_22 : decode cX2_citeNeeded 22 = .ok (.invokevirtual 46, 3) := by decide +kernel
theorem dX2_citeNeeded_25 : decode cX2_citeNeeded 25 = .ok (.astore_n 3, 1) := by decide +kernel
theorem dX2_citeNeeded_26 : decode cX2_citeNeeded 26 = .ok (.aload_n 3, 1) := by decide +kernel
theorem dX2_citeNeeded_27 : decode cX2_citeNeeded 27 = .ok (.ifnull 11, 3) := by decide +kernel
theorem dX2_citeNeeded_30 : decode cX2_citeNeeded 30 = .ok (.aload_n 0, 1) := by decide +kernel
theorem dX2_citeNeeded_31 : decode cX2_citeNeeded 31 = .ok (.aload_n 3, 1) := by decide +kernel
theorem dX2_citeNeeded_32 : decode cX2_citeNeeded 32 = .ok (.invokevirtual 145, 3) := by decide +kernel
theorem dX2_citeNeeded_35 : decode cX2_citeNeeded 35 = .ok (.iinc 1 (-1), 3) := by decide +kernel
theorem dX2_citeNeeded_38 : decode cX2_citeNeeded 38 = .ok (.iinc 2 1, 3) := by decide +kernel
theorem dX2_citeNeeded_41 : decode cX2_citeNeeded 41 = .ok (.goto (-34), 3) := by decide +kernel
theorem dX2_citeNeeded_44 : decode cX2_citeNeeded 44 = .ok (.return_, 1) := by decide +kernel
end
section
theorem dX2_citeSources_0 : decode cX2_citeSources 0 = .ok (.aload_n 0, 1) := by decide +kernel
theorem dX2_citeSources_1 : decode cX2_citeSources 1 = .ok (.getfield 28, 3) := by decide +kernel
theorem dX2_citeSources_4 : decode cX2_citeSources 4 = .ok (.arraylength, 1) := by decide +kernel
theorem dX2_citeSources_5 : decode cX2_citeSources 5 = .ok (.iconst 1, 1) := by decide +kernel
theorem dX2_citeSources_6 : decode cX2_citeSources 6 = .ok (.isub, 1) := by decide +kernel
theorem dX2_citeSources_7 : decode cX2_citeSources 7 = .ok (.istore_n 2, 1) := by decide +kernel
theorem dX2_citeSources_8 : decode cX2_citeSources 8 = .ok (.iload_n 2, 1) := by decide +kernel
theorem dX2_citeSources_9 : decode cX2_citeSources 9 = .ok (.ifCond .lt 61, 3) := by decide +kernel
theorem dX2_citeSources_12 : decode cX2_citeSources 12 = .ok (.aload_n 0, 1) := by decide +kernel
theorem dX2_citeSources_13 : decode cX2_citeSources 13 = .ok (.getfield 28, 3) := by decide +kernel
theorem dX2_citeSources_16 : decode cX2_citeSources 16 = .ok (.iload_n 2, 1) := by decide +kernel
theorem dX2_citeSources_17 : decode cX2_citeSources 17 = .ok (.baload, 1) := by decide +kernel
theorem dX2_citeSources_18 : decode cX2_citeSources 18 = .ok (.ifCond .eq 11, 3) := by decide +kernel
theorem dX2_citeSources_21 : decode cX2_citeSources 21 = .ok (.aload_n 1, 1) := by decide +kernel
theorem dX2_citeSources_22 : decode cX2_citeSources 22 = .ok (.iload_n 2, 1) := by decide +kernel
theorem dX2_citeSources_23 : decode cX2_citeSources 23 = .ok (.invokevirtual 105, 3) := by decide +kernel
theorem dX2_citeSources_26 : decode cX2_citeSources 26 = .ok (.goto 4, 3) := by decide +kernel
theorem dX2_citeSources_29 : decode cX2_citeSources 29 = .ok (.aconst_null, 1) := by decide +kernel
theorem dX2_citeSources_30 : decode cX2_citeSources 30 = .ok (.astore_n 3, 1) := by decide +kernel
theorem dX2_citeSources_31 : decode cX2_citeSources 31 = .ok (.aload_n 3, 1) := by decide +kernel
theorem dX2_citeSources_32 : decode cX2_citeSources 32 = .ok (.ifnull 32, 3) := by decide +kernel
theorem dX2_citeSources_35 : decode cX2_citeSources 35 = .ok (.aload_n 0, 1) := by decide +kernel
theorem dX2_citeSources_36 : decode cX2_citeSources 36 = .ok (.aload_n 3, 1) := by decide +kernel
theorem dX2_citeSources_37 : decode cX2_citeSources 37 = .ok (.getfield 160, 3) := by decide +kernel
theorem dX2_citeSources_40 : decode cX2_citeSources 40 = .ok (.invokevirtual 145, 3) := by decide +kernel
theorem dX2_citeSources_43 : decode cX2_citeSources 43 = .ok (.aload_n 0, 1) := by decide +kernel
theorem dX2_citeSources_44 : decode cX2_citeSources 44 = .ok (.aload_n 3, 1) := by decide +kernel
theorem dX2_citeSources_45 : decode cX2_citeSources 45 = .ok (.getfield 106, 3) := by decide +kernel
theorem dX2_citeSources_48 : decode cX2_citeSources 48 = .ok (.bipush 8, 2) := by decide +kernel
theorem dX2_citeSources_50 : decode cX2_citeSources 50 = .ok (.if_icmp .ne 10, 3) := by decide +kernel
theorem dX2_citeSources_53 : decode cX2_citeSources 53 = .ok (.aload_n 3, 1) := by decide +kernel
theorem dX2_citeSources_54 : decode cX2_citeSources 54 = .ok (.getfield 64, 3) := by decide +kernel
theorem dX2_citeSources_57 : decode cX2_citeSources 57 = .ok (.goto 4, 3) := by decide +kernel
theorem dX2_citeSources_60 : decode cX2_citeSources 60 = .ok (.aconst_null, 1) := by decide +kernel
theorem dX2_citeSources_61 : decode cX2_citeSources 61 = .ok (.invokevirtual 145, 3) := by decide +kernel
theorem dX2_citeSources_64 : decode cX2_citeSources 64 = .ok (.iinc 2 (-1), 3) := by decide +kernel
theorem dX2_citeSources_67 : decode cX2_citeSources 67 = .ok (.goto (-59), 3) := by decide +kernel
theorem dX2_citeSources_70 : decode cX2_citeSources 70 = .ok (.return_, 1) := by decide +kernel
theorem dX2_nthCited_0 : decode cX2_nthCited 0 = .ok (.iload_n 1, 1) := by decide +kernel
theorem dX2_nthCited_1 : decode cX2_nthCited 1 = .ok (.istore_n 2, 1) := by decide +kernel
theorem dX2_nthCited_2 : decode cX2_nthCited 2 = .ok (.iconst 0, 1) := by decide +kernel
theorem dX2_nthCited_3 : decode cX2_nthCited 3 = .ok (.istore_n 3, 1) := by decide +kernel
theorem dX2_nthCited_4 : decode cX2_nthCited 4 = .ok (.iload_n 3, 1) := by decide +kernel
theorem dX2_nthCited_5 : decode cX2_nthCited 5 = .ok (.aload_n 0, 1) := by decide +kernel
theorem dX2_nthCited_6 : decode cX2_nthCited 6 = .ok (.getfield 28, 3) := by decide +kernel
theorem dX2_nthCited_9 : decode cX2_nthCited 9 = .ok (.arraylength, 1) := by decide +kernel
theorem dX2_nthCited_10 : decode cX2_nthCited 10 = .ok (.if_icmp .ge 31, 3) := by decide +kernel
theorem dX2_nthCited_13 : decode cX2_nthCited 13 = .ok (.iload_n 2, 1) := by decide +kernel
theorem dX2_nthCited_14 : decode cX2_nthCited 14 = .ok (.ifCond .lt 27, 3) := by decide +kernel
theorem dX2_nthCited_17 : decode cX2_nthCited 17 = .ok (.aload_n 0, 1) := by decide +kernel
theorem dX2_nthCited_18 : decode cX2_nthCited 18 = .ok (.getfield 28, 3) := by decide +kernel
theorem dX2_nthCited_21 : decode cX2_nthCited 21 = .ok (.iload_n 3, 1) := by decide +kernel
theorem dX2_nthCited_22 : decode cX2_nthCited 22 = .ok (.baload, 1) := by decide +kernel
theorem dX2_nthCited_23 : decode cX2_nthCited 23 = .ok (.ifCond .eq 12, 3) := by decide +kernel
theorem dX2_nthCited_26 : decode cX2_nthCited 26 = .ok (.iload_n 2, 1) := by decide +kernel
theorem dX2_nthCited_27 : decode cX2_nthCited 27 = .ok (.ifCond .ne 5, 3) := by decide +kernel
theorem dX2_nthCited_30 : decode cX2_nthCited 30 = .ok (.iload_n 3, 1) := by decide +kernel
theorem dX2_nthCited_31 : decode cX2_nthCited 31 = .ok (.ireturn, 1) := by decide +kernel
theorem dX2_nthCited_32 : decode cX2_nthCited 32 = .ok (.iinc 2 (-1), 3) := by decide +kernel
theorem dX2_nthCited_35 : decode cX2_nthCited 35 = .ok (.iinc 3 1, 3) := by decide +kernel
theorem dX2_nthCited_38 : decode cX2_nthCited 38 = .ok (.goto (-34), 3) := by decide +kernel
theorem dX2_nthCited_41 : decode cX2_nthCited 41 = .ok (.iconst (-1), 1) := by decide +kernel
theorem dX2_nthCited_42 : decode cX2_nthCited 42 = .ok (.ireturn, 1) := by decide +kernel
theorem dX3_init_0 : decode cX3_init 0 = .ok (.aload_n 0, 1) := by decide +kernel
theorem dX3_init_1 : decode cX3_init 1 = .ok (.invokespecial 3, 3) := by decide +kernel
theorem dX3_init_4 : decode cX3_init 4 = .ok (.aload_n 0, 1) := by decide +kernel
theorem dX3_init_5 : decode cX3_init 5 = .ok (.iconst (-1), 1) := by decide +kernel
theorem dX3_init_6 : decode cX3_init 6 = .ok (.putfield 9, 3) := by decide +kernel
theorem dX3_init_9 : decode cX3_init 9 = .ok (.aload_n 0, 1) := by decide +kernel
theorem dX3_init_10 : decode cX3_init 10 = .ok (.iconst (-1), 1) := by decide +kernel
theorem dX3_init_11 : decode cX3_init 11 = .ok (.putfield 15, 3) := by decide +kernel
theorem dX3_init_14 : decode cX3_init 14 = .ok (.aload_n 0, 1) := by decide +kernel
theorem dX3_init_15 : decode cX3_init 15 = .ok (.iload_n 1, 1) := by decide +kernel
theorem dX3_init_16 : decode cX3_init 16 = .ok (.putfield 18, 3) := by decide +kernel
theorem dX3_init_19 : decode cX3_init 19 = .ok (.aload_n 0, 1) := by decide +kernel
theorem dX3_init_20 : decode cX3_init 20 = .ok (.iload_n 2, 1) := by decide +kernel
theorem dX3_init_21 : decode cX3_init 21 = .ok (.putfield 21, 3) := by decide +kernel
theorem dX3_init_24 : decode cX3_init 24 = .ok (.aload_n 0, 1) := by decide +kernel
theorem dX3_init_25 : decode cX3_init 25 = .ok (.iload_n 3, 1) := by decide +kernel
theorem dX3_init_26 : decode cX3_init 26 = .ok (.putfield 24, 3) := by decide +kernel
theorem dX3_init_29 : decode cX3_init 29 = .ok (.aload_n 0, 1) := by decide +kernel
theorem dX3_init_30 : decode cX3_init 30 = .ok (.aload 4, 2) := by decide +kernel
theorem dX3_init_32 : decode cX3_init 32 = .ok (.putfield 27, 3) := by decide +kernel
theorem dX3_init_35 : decode cX3_init 35 = .ok (.aload_n 0, 1) := by decide +kernel
theorem dX3_init_36 : decode cX3_init 36 = .ok (.iload 5, 2) := by decide +kernel
theorem dX3_init_38 : decode cX3_init 38 = .ok (.putfield 31, 3) := by decide +kernel
theorem dX3_init_41 : decode cX3_init 41 = .ok (.aload_n 0, 1) := by decide +kernel
theorem dX3_init_42 : decode cX3_init 42 = .ok (.iload 6, 2) := by decide +kernel
theorem dX3_init_44 : decode cX3_init 44 = .ok (.putfield 34, 3) := by decide +kernel
theorem dX3_init_47 : decode cX3_init 47 = .ok (.return_, 1) := by decide +kernel
theorem dX3_isMembership_0 : decode cX3_isMembership 0 = .ok (.aload_n 0, 1) := by decide +kernel
theorem dX3_isMembership_1 : decode cX3_isMembership 1 = .ok (.getfield 21, 3) := by decide +kernel
theorem dX3_isMembership_4 : decode cX3_isMembership 4 = .ok (.iconst 1, 1) := by decide +kernel
theorem dX3_isMembership_5 : decode cX3_isMembership 5 = .ok (.if_icmp .eq 20, 3) := by decide +kernel
theorem dX3_isMembership_8 : decode cX3_isMembership 8 = .ok (.aload_n 0, 1) := by decide +kernel
theorem dX3_isMembership_9 : decode cX3_isMembership 9 = .ok (.getfield 21, 3) := by decide +kernel
theorem dX3_isMembership_12 : decode cX3_isMembership 12 = .ok (.iconst 2, 1) := by decide +kernel
theorem dX3_isMembership_13 : decode cX3_isMembership 13 = .ok (.if_icmp .eq 12, 3) := by decide +kernel
theorem dX3_isMembership_16 : decode cX3_isMembership 16 = .ok (.aload_n 0, 1) := by decide +kernel
theorem dX3_isMembership_17 : decode cX3_isMembership 17 = .ok (.getfield 21, 3) := by decide +kernel
theorem dX3_isMembership_20 : decode cX3_isMembership 20 = .ok (.bipush 8, 2) := by decide +kernel
theorem dX3_isMembership_22 : decode cX3_isMembership 22 = .ok (.if_icmp .ne 7, 3) := by decide +kernel
theorem dX3_isMembership_25 : decode cX3_isMembership 25 = .ok (.iconst 1, 1) := by decide +kernel
theorem dX3_isMembership_26 : decode cX3_isMembership 26 = .ok (.goto 4, 3) := by decide +kernel
theorem dX3_isMembership_29 : decode cX3_isMembership 29 = .ok (.iconst 0, 1) := by decide +kernel
theorem dX3_isMembership_30 : decode cX3_isMembership 30 = .ok (.ireturn, 1) := by decide +kernel
theorem dX3_isWithdrawable_0 : decode cX3_isWithdrawable 0 = .ok (.aload_n 0, 1) := by decide +kernel
theorem dX3_isWithdrawable_1 : decode cX3_isWithdrawable 1 = .ok (.invokevirtual 37, 3) := by decide +kernel
theorem dX3_isWithdrawable_4 : decode cX3_isWithdrawable 4 = .ok (.ifCond .ne 28, 3) := by decide +kernel
theorem dX3_isWithdrawable_7 : decode cX3_isWithdrawable 7 = .ok (.aload_n 0, 1) := by decide +kernel
theorem dX3_isWithdrawable_8 : decode cX3_isWithdrawable 8 = .ok (.getfield 21, 3) := by decide +kernel
theorem dX3_isWithdrawable_11 : decode cX3_isWithdrawable 11 = .ok (.iconst 3, 1) := by decide +kernel
theorem dX3_isWithdrawable_12 : decode cX3_isWithdrawable 12 = .ok (.if_icmp .eq 20, 3) := by decide +kernel
theorem dX3_isWithdrawable_15 : decode cX3_isWithdrawable 15 = .ok (.aload_n 0, 1) := by decide +kernel
theorem dX3_isWithdrawable_16 : decode cX3_isWithdrawable 16 = .ok (.getfield 21, 3) := by decide +kernel
theorem dX3_isWithdrawable_19 : decode cX3_isWithdrawable 19 = .ok (.iconst 4, 1) := by decide +kernel
theorem dX3_isWithdrawable_20 : decode cX3_isWithdrawable 20 = .ok (.if_icmp .eq 12, 3) := by decide +kernel
theorem dX3_isWithdrawable_23 : decode cX3_isWithdrawable 23 = .ok (.aload_n 0, 1) := by decide +kernel
theorem dX3_isWithdrawable_24 : decode cX3_isWithdrawable 24 = .ok (.getfield 21, 3) := by decide +kernel
theorem dX3_isWithdrawable_27 : decode cX3_isWithdrawable 27 = .ok (.bipush 7, 2) := by decide +kernel
theorem dX3_isWithdrawable_29 : decode cX3_isWithdrawable 29 = .ok (.if_icmp .ne 7, 3) := by decide +kernel
theorem dX3_isWithdrawable_32 : decode cX3_isWithdrawable 32 = .ok (.iconst 1, 1) := by decide +kernel
theorem dX3_isWithdrawable_33 : decode cX3_isWithdrawable 33 = .ok (.goto 4, 3) := by decide +kernel
theorem dX3_isWithdrawable_36 : decode cX3_isWithdrawable 36 = .ok (.iconst 0, 1) := by decide +kernel
theorem dX3_isWithdrawable_37 : decode cX3_isWithdrawable 37 = .ok (.ireturn, 1) := by decide +kernel
theorem dX3_end_0 : decode cX3_end 0 = .ok (.aload_n 0, 1) := by decide +kernel
theorem dX3_end_1 : decode cX3_end 1 = .ok (.aload_n 1, 1) := by decide +kernel
theorem dX3_end_2 : decode cX3_end 2 = .ok (.putfield 41, 3) := by decide +kernel
theorem dX3_end_5 : decode cX3_end 5 = .ok (.aload_n 1, 1) := by decide +kernel
theorem dX3_end_6 : decode cX3_end 6 = .ok (.aload_n 0, 1) := by decide +kernel
theorem dX3_end_7 : decode cX3_end 7 = .ok (.putfield 45, 3) := by decide +kernel
theorem dX3_end_10 : decode cX3_end 10 = .ok (.return_, 1) := by decide +kernel
theorem dX3_answer_0 : decode cX3_answer 0 = .ok (.aload_n 0, 1) := by decide +kernel
theorem dX3_answer_1 : decode cX3_answer 1 = .ok (.aload_n 1, 1) := by decide +kernel
theorem dX3_answer_2 : decode cX3_answer 2 = .ok (.putfield 41, 3) := by decide +kernel
theorem dX3_answer_5 : decode cX3_answer 5 = .ok (.aload_n 0, 1) := by decide +kernel
theorem dX3_answer_6 : decode cX3_answer 6 = .ok (.aload_n 1, 1) := by decide +kernel
theorem dX3_answer_7 : decode cX3_answer 7 = .ok (.getfield 48, 3) := by decide +kernel
theorem dX3_answer_10 : decode cX3_answer 10 = .ok (.putfield 51, 3) := by decide +kernel
theorem dX3_answer_13 : decode cX3_answer 13 = .ok (.aload_n 1, 1) := by decide +kernel
theorem dX3_answer_14 : decode cX3_answer 14 = .ok (.aload_n 0, 1) := by decide +kernel
theorem dX3_answer_15 : decode cX3_answer 15 = .ok (.putfield 48, 3) := by decide +kernel
theorem dX3_answer_18 : decode cX3_answer 18 = .ok (.return_, 1) := by decide +kernel
theorem dX3_release_0 : decode cX3_release 0 = .ok (.aload_n 0, 1) := by decide +kernel
theorem dX3_release_1 : decode cX3_release 1 = .ok (.getfield 41, 3) := by decide +kernel
theorem dX3_release_4 : decode cX3_release 4 = .ok (.ifnonnull 4, 3) := by decide +kernel
theorem dX3_release_7 : decode cX3_release 7 = .ok (.return_, 1) := by decide +kernel
theorem dX3_release_8 : decode cX3_release 8 = .ok (.aload_n 0, 1) := by decide +kernel
theorem dX3_release_9 : decode cX3_release 9 = .ok (.getfield 41, 3) := by decide +kernel
theorem dX3_release_12 : decode cX3_release 12 = .ok (.getfield 45, 3) := by decide +kernel
theorem dX3_release_15 : decode cX3_release 15 = .ok (.aload_n 0, 1) := by decide +kernel
theorem dX3_release_16 : decode cX3_release 16 = .ok (.if_acmp .ne 11, 3) := by decide +kernel
theorem dX3_release_19 : decode cX3_release 19 = .ok (.aload_n 0, 1) := by decide +kernel
theorem dX3_release_20 : decode cX3_release 20 = .ok (.getfield 41, 3) := by decide +kernel
theorem dX3_release_23 : decode cX3_release 23 = .ok (.aconst_null, 1) := by decide +kernel
theorem dX3_release_24 : decode cX3_release 24 = .ok (.putfield 45, 3) := by decide +kernel
theorem dX3_release_27 : decode cX3_release 27 = .ok (.aload_n 0, 1) := by decide +kernel
theorem dX3_release_28 : decode cX3_release 28 = .ok (.getfield 41, 3) := by decide +kernel
theorem dX3_release_31 : decode cX3_release 31 = .ok (.getfield 48, 3) := by decide +kernel
theorem dX3_release_34 : decode cX3_release 34 = .ok (.aload_n 0, 1) := by decide +kernel
theorem dX3_release_35 : decode cX3_release 35 = .ok (.if_acmp .ne 14, 3) := by decide +kernel
theorem dX3_release_38 : decode cX3_release 38 = .ok (.aload_n 0, 1) := by decide +kernel
theorem dX3_release_39 : decode cX3_release 39 = .ok (.getfield 41, 3) := by decide +kernel
theorem dX3_release_42 : decode cX3_release 42 = .ok (.aload_n 0, 1) := by decide +kernel
theorem dX3_release_43 : decode cX3_release 43 = .ok (.getfield 51, 3) := by decide +kernel
theorem dX3_release_46 : decode cX3_release 46 = .ok (.putfield 48, 3) := by decide +kernel
theorem dX3_release_49 : decode cX3_release 49 = .ok (.return_, 1) := by decide +kernel
theorem dX3_isAnsweredBy_0 : decode cX3_isAnsweredBy 0 = .ok (.aload_n 0, 1) := by decide +kernel
theorem dX3_isAnsweredBy_1 : decode cX3_isAnsweredBy 1 = .ok (.getfield 48, 3) := by decide +kernel
theorem dX3_isAnsweredBy_4 : decode cX3_isAnsweredBy 4 = .ok (.astore_n 2, 1) := by decide +kernel
theorem dX3_isAnsweredBy_5 : decode cX3_isAnsweredBy 5 = .ok (.aload_n 2, 1) := by decide +kernel
theorem dX3_isAnsweredBy_6 : decode cX3_isAnsweredBy 6 = .ok (.ifnull 28, 3) := by decide +kernel
theorem dX3_isAnsweredBy_9 : decode cX3_isAnsweredBy 9 = .ok (.aload_n 2, 1) := by decide +kernel
theorem dX3_isAnsweredBy_10 : decode cX3_isAnsweredBy 10 = .ok (.getfield 54, 3) := by decide +kernel
theorem dX3_isAnsweredBy_13 : decode cX3_isAnsweredBy 13 = .ok (.aload_n 1, 1) := by decide +kernel
theorem dX3_isAnsweredBy_14 : decode cX3_isAnsweredBy 14 = .ok (.if_acmp .ne 12, 3) := by decide +kernel
theorem dX3_isAnsweredBy_17 : decode cX3_isAnsweredBy 17 = .ok (.aload_n 2, 1) := by decide +kernel
theorem dX3_isAnsweredBy_18 : decode cX3_isAnsweredBy 18 = .ok (.getfield 45, 3) := by decide +kernel
theorem dX3_isAnsweredBy_21 : decode cX3_isAnsweredBy 21 = .ok (.ifnonnull 5, 3) := by decide +kernel
theorem dX3_isAnsweredBy_24 : decode cX3_isAnsweredBy 24 = .ok (.iconst 1, 1) := by decide +kernel
theorem dX3_isAnsweredBy_25 : decode cX3_isAnsweredBy 25 = .ok (.ireturn, 1) := by decide +kernel
theorem dX3_isAnsweredBy_26 : decode cX3_isAnsweredBy 26 = .ok (.aload_n 2, 1) := by decide +kernel
theorem dX3_isAnsweredBy_27 : decode cX3_isAnsweredBy 27 = .ok (.getfield 51, 3) := by decide +kernel
theorem dX3_isAnsweredBy_30 : decode cX3_isAnsweredBy 30 = .ok (.astore_n 2, 1) := by decide +kernel
theorem dX3_isAnsweredBy_31 : decode cX3_isAnsweredBy 31 = .ok (.goto (-26), 3) := by decide +kernel
theorem dX3_isAnsweredBy_34 : decode cX3_isAnsweredBy 34 = .ok (.iconst 0, 1) := by decide +kernel
theorem dX3_isAnsweredBy_35 : decode cX3_isAnsweredBy 35 = .ok (.ireturn, 1) := by decide +kernel
theorem dX3_stands_0 : decode cX3_stands 0 = .ok (.aload_n 0, 1) := by decide +kernel
theorem dX3_stands_1 : decode cX3_stands 1 = .ok (.getfield 31, 3) := by decide +kernel
theorem dX3_stands_4 : decode cX3_stands 4 = .ok (.iload_n 2, 1) := by decide +kernel
theorem dX3_stands_5 : decode cX3_stands 5 = .ok (.if_icmp .gt 11, 3) := by decide +kernel
theorem dX3_stands_8 : decode cX3_stands 8 = .ok (.aload_n 0, 1) := by decide +kernel
theorem dX3_stands_9 : decode cX3_stands 9 = .ok (.getfield 34, 3) := by decide +kernel
theorem dX3_stands_12 : decode cX3_stands 12 = .ok (.iload_n 1, 1) := by decide +kernel
theorem dX3_stands_13 : decode cX3_stands 13 = .ok (.if_icmp .le 5, 3) := by decide +kernel
theorem dX3_stands_16 : decode cX3_stands 16 = .ok (.iconst 0, 1) := by decide +kernel
theorem dX3_stands_17 : decode cX3_stands 17 = .ok (.ireturn, 1) := by decide +kernel
theorem dX3_stands_18 : decode cX3_stands 18 = .ok (.aload_n 0, 1) := by decide +kernel
theorem dX3_stands_19 : decode cX3_stands 19 = .ok (.getfield 45, 3) := by decide +kernel
theorem dX3_stands_22 : decode cX3_stands 22 = .ok (.ifnull 25, 3) := by decide +kernel
theorem dX3_stands_25 : decode cX3_stands 25 = .ok (.aload_n 0, 1) := by decide +kernel
theorem dX3_stands_26 : decode cX3_stands 26 = .ok (.getfield 45, 3) := by decide +kernel
theorem dX3_stands_29 : decode cX3_stands 29 = .ok (.getfield 31, 3) := by decide +kernel
theorem dX3_stands_32 : decode cX3_stands 32 = .ok (.iload_n 2, 1) := by decide +kernel
theorem dX3_stands_33 : decode cX3_stands 33 = .ok (.if_icmp .gt 14, 3) := by decide +kernel
theorem dX3_stands_36 : decode cX3_stands 36 = .ok (.aload_n 0, 1) := by decide +kernel
theorem dX3_stands_37 : decode cX3_stands 37 = .ok (.getfield 45, 3) := by decide +kernel
theorem dX3_stands_40 : decode cX3_stands 40 = .ok (.getfield 34, 3) := by decide +kernel
theorem dX3_stands_43 : decode cX3_stands 43 = .ok (.iload_n 1, 1) := by decide +kernel
theorem dX3_stands_44 : decode cX3_stands 44 = .ok (.if_icmp .le 7, 3) := by decide +kernel
theorem dX3_stands_47 : decode cX3_stands 47 = .ok (.iconst 1, 1) := by decide +kernel
theorem dX3_stands_48 : decode cX3_stands 48 = .ok (.goto 4, 3) := by decide +kernel
theorem dX3_stands_51 : decode cX3_stands 51 = .ok (.iconst 0, 1) := by decide +kernel
theorem dX3_stands_52 : decode cX3_stands 52 = .ok (.ireturn, 1) := by decide +kernel
theorem dX3_isHeldBy_0 : decode cX3_isHeldBy 0 = .ok (.aload_n 0, 1) := by decide +kernel
theorem dX3_isHeldBy_1 : decode cX3_isHeldBy 1 = .ok (.getfield 54, 3) := by decide +kernel
theorem dX3_isHeldBy_4 : decode cX3_isHeldBy 4 = .ok (.ifnonnull 5, 3) := by decide +kernel
theorem dX3_isHeldBy_7 : decode cX3_isHeldBy 7 = .ok (.iconst 0, 1) := by decide +kernel
theorem dX3_isHeldBy_8 : decode cX3_isHeldBy 8 = .ok (.ireturn, 1) := by decide +kernel
theorem dX3_isHeldBy_9 : decode cX3_isHeldBy 9 = .ok (.aload_n 1, 1) := by decide +kernel
theorem dX3_isHeldBy_10 : decode cX3_isHeldBy 10 = .ok (.astore_n 3, 1) := by decide +kernel
theorem dX3_isHeldBy_11 : decode cX3_isHeldBy 11 = .ok (.aload_n 3, 1) := by decide +kernel
theorem dX3_isHeldBy_12 : decode cX3_isHeldBy 12 = .ok (.ifnull 51, 3) := by decide +kernel
theorem dX3_isHeldBy_15 : decode cX3_isHeldBy 15 = .ok (.aload_n 3, 1) := by decide +kernel
theorem dX3_isHeldBy_16 : decode cX3_isHeldBy 16 = .ok (.aload_n 0, 1) := by decide +kernel
theorem dX3_isHeldBy_17 : decode cX3_isHeldBy 17 = .ok (.getfield 54, 3) := by decide +kernel
theorem dX3_isHeldBy_20 : decode cX3_isHeldBy 20 = .ok (.if_acmp .eq 43, 3) := by decide +kernel
theorem dX3_isHeldBy_23 : decode cX3_isHeldBy 23 = .ok (.aload_n 3, 1) := by decide +kernel
theorem dX3_isHeldBy_24 : decode cX3_isHeldBy 24 = .ok (.getfield 21, 3) := by decide +kernel
theorem dX3_isHeldBy_27 : decode cX3_isHeldBy 27 = .ok (.bipush 8, 2) := by decide +kernel
theorem dX3_isHeldBy_29 : decode cX3_isHeldBy 29 = .ok (.if_icmp .ne 24, 3) := by decide +kernel
theorem dX3_isHeldBy_32 : decode cX3_isHeldBy 32 = .ok (.aload_n 3, 1) := by decide +kernel
theorem dX3_isHeldBy_33 : decode cX3_isHeldBy 33 = .ok (.getfield 57, 3) := by decide +kernel
theorem dX3_isHeldBy_36 : decode cX3_isHeldBy 36 = .ok (.ifCond .eq 17, 3) := by decide +kernel
theorem dX3_isHeldBy_39 : decode cX3_isHeldBy 39 = .ok (.aload_n 0, 1) := by decide +kernel
theorem dX3_isHeldBy_40 : decode cX3_isHeldBy 40 = .ok (.aload_n 3, 1) := by decide +kernel
theorem dX3_isHeldBy_41 : decode cX3_isHeldBy 41 = .ok (.getfield 34, 3) := by decide +kernel
theorem dX3_isHeldBy_44 : decode cX3_isHeldBy 44 = .ok (.iconst 1, 1) := by decide +kernel
theorem dX3_isHeldBy_45 : decode cX3_isHeldBy 45 = .ok (.isub, 1) := by decide +kernel
theorem dX3_isHeldBy_46 : decode cX3_isHeldBy 46 = .ok (.iload_n 2, 1) := by decide +kernel
theorem dX3_isHeldBy_47 : decode cX3_isHeldBy 47 = .ok (.invokevirtual 61, 3) := by decide +kernel
theorem dX3_isHeldBy_50 : decode cX3_isHeldBy 50 = .ok (.ifCond .ne 5, 3) := by decide +kernel
theorem dX3_isHeldBy_53 : decode cX3_isHeldBy 53 = .ok (.iconst 0, 1) := by decide +kernel
theorem dX3_isHeldBy_54 : decode cX3_isHeldBy 54 = .ok (.ireturn, 1) := by decide +kernel
theorem dX3_isHeldBy_55 : decode cX3_isHeldBy 55 = .ok (.aload_n 3, 1) := by decide +kernel
theorem dX3_isHeldBy_56 : decode cX3_isHeldBy 56 = .ok (.getfield 41, 3) := by decide +kernel
theorem dX3_isHeldBy_59 : decode cX3_isHeldBy 59 = .ok (.astore_n 3, 1) := by decide +kernel
theorem dX3_isHeldBy_60 : decode cX3_isHeldBy 60 = .ok (.goto (-49), 3) := by decide +kernel
theorem dX3_isHeldBy_63 : decode cX3_isHeldBy 63 = .ok (.aload_n 3, 1) := by decide +kernel
theorem dX3_isHeldBy_64 : decode cX3_isHeldBy 64 = .ok (.ifnull 7, 3) := by decide +kernel
theorem dX3_isHeldBy_67 : decode cX3_isHeldBy 67 = .ok (.iconst 1, 1) := by decide +kernel
theorem dX3_isHeldBy_68 : decode cX3_isHeldBy 68 = .ok (.goto 4, 3) := by decide +kernel
theorem dX3_isHeldBy_71 : decode cX3_isHeldBy 71 = .ok (.iconst 0, 1) := by decide +kernel
theorem dX3_isHeldBy_72 : decode cX3_isHeldBy 72 = .ok (.ireturn, 1) := by decide +kernel
theorem dX3_detail_0 : decode cX3_detail 0 = .ok (.iload_n 1, 1) := by decide +kernel
theorem dX3_detail_1 : decode cX3_detail 1 = .ok (.tableswitch 133 0 9 #[55, 60, 65, 84, 89, 94, 102, 110, 115, 120], 55) := by decide +kernel
theorem dX3_detail_56 : decode cX3_detail 56 = .ok (.aload_n 0, 1) := by decide +kernel
theorem dX3_detail_57 : decode cX3_detail 57 = .ok (.getfield 21, 3) := by decide +kernel
theorem dX3_detail_60 : decode cX3_detail 60 = .ok (.ireturn, 1) := by decide +kernel
theorem dX3_detail_61 : decode cX3_detail 61 = .ok (.aload_n 0, 1) := by decide +kernel
theorem dX3_detail_62 : decode cX3_detail 62 = .ok (.getfield 24, 3) := by decide +kernel
theorem dX3_detail_65 : decode cX3_detail 65 = .ok (.ireturn, 1) := by decide +kernel
theorem dX3_detail_66 : decode cX3_detail 66 = .ok (.aload_n 0, 1) := by decide +kernel
theorem dX3_detail_67 : decode cX3_detail 67 = .ok (.getfield 27, 3) := by decide +kernel
theorem dX3_detail_70 : decode cX3_detail 70 = .ok (.ifnonnull 7, 3) := by decide +kernel
theorem dX3_detail_73 : decode cX3_detail 73 = .ok (.iconst (-1), 1) := by decide +kernel
theorem dX3_detail_74 : decode cX3_detail 74 = .ok (.goto 10, 3) := by decide +kernel
theorem dX3_detail_77 : decode cX3_detail 77 = .ok (.aload_n 0, 1) := by decide +kernel
theorem dX3_detail_78 : decode cX3_detail 78 = .ok (.getfield 27, 3) := by decide +kernel
theorem dX3_detail_81 : decode cX3_detail 81 = .ok (.getfield 65, 3) := by decide +kernel
theorem dX3_detail_84 : decode cX3_detail 84 = .ok (.ireturn, 1) := by decide +kernel
theorem dX3_detail_85 : decode cX3_detail 85 = .ok (.aload_n 0, 1) := by decide +kernel
theorem dX3_detail_86 : decode cX3_detail 86 = .ok (.getfield 31, 3) := by decide +kernel
theorem dX3_detail_89 : decode cX3_detail 89 = .ok (.ireturn, 1) := by decide +kernel
theorem dX3_detail_90 : decode cX3_detail 90 = .ok (.aload_n 0, 1) := by decide +kernel
theorem dX3_detail_91 : decode cX3_detail 91 = .ok (.getfield 34, 3) := by decide +kernel
theorem dX3_detail_94 : decode cX3_detail 94 = .ok (.ireturn, 1) := by decide +kernel
theorem dX3_detail_95 : decode cX3_detail 95 = .ok (.aload_n 0, 1) := by decide +kernel
theorem dX3_detail_96 : decode cX3_detail 96 = .ok (.getfield 41, 3) := by decide +kernel
theorem dX3_detail_99 : decode cX3_detail 99 = .ok (.invokestatic 68, 3) := by decide +kernel
theorem dX3_detail_102 : decode cX3_detail 102 = .ok (.ireturn, 1) := by decide +kernel
theorem dX3_detail_103 : decode cX3_detail 103 = .ok (.aload_n 0, 1) := by decide +kernel
theorem dX3_detail_104 : decode cX3_detail 104 = .ok (.getfield 54, 3) := by decide +kernel
theorem dX3_detail_107 : decode cX3_detail 107 = .ok (.invokestatic 68, 3) := by decide +kernel
theorem dX3_detail_110 : decode cX3_detail 110 = .ok (.ireturn, 1) := by decide +kernel
theorem dX3_detail_111 : decode cX3_detail 111 = .ok (.aload_n 0, 1) := by decide +kernel
theorem dX3_detail_112 : decode cX3_detail 112 = .ok (.getfield 9, 3) := by decide +kernel
theorem dX3_detail_115 : decode cX3_detail 115 = .ok (.ireturn, 1) := by decide +kernel
theorem dX3_detail_116 : decode cX3_detail 116 = .ok (.aload_n 0, 1) := by decide +kernel
theorem dX3_detail_117 : decode cX3_detail 117 = .ok (.getfield 15, 3) := by decide +kernel
theorem dX3_detail_120 : decode cX3_detail 120 = .ok (.ireturn, 1) := by decide +kernel
theorem dX3_detail_121 : decode cX3_detail 121 = .ok (.aload_n 0, 1) := by decide +kernel
theorem dX3_detail_122 : decode cX3_detail 122 = .ok (.getfield 57, 3) := by decide +kernel
theorem dX3_detail_125 : decode cX3_detail 125 = .ok (.ifCond .eq 7, 3) := by decide +kernel
theorem dX3_detail_128 : decode cX3_detail 128 = .ok (.iconst 1, 1) := by decide +kernel
theorem dX3_detail_129 : decode cX3_detail 129 = .ok (.goto 4, 3) := by decide +kernel
theorem dX3_detail_132 : decode cX3_detail 132 = .ok (.iconst 0, 1) := by decide +kernel
theorem dX3_detail_133 : decode cX3_detail 133 = .ok (.ireturn, 1) := by decide +kernel
theorem dX3_detail_134 : decode cX3_detail 134 = .ok (.iconst (-1), 1) := by decide +kernel
theorem dX3_detail_135 : decode cX3_detail 135 = .ok (.ireturn, 1) := by decide +kernel
theorem dX4_init_0 : decode cX4_init 0 = .ok (.aload_n 0, 1) := by decide +kernel
theorem dX4_init_1 : decode cX4_init 1 = .ok (.invokespecial 3, 3) := by decide +kernel
theorem dX4_init_4 : decode cX4_init 4 = .ok (.aload_n 0, 1) := by decide +kernel
theorem dX4_init_5 : decode cX4_init 5 = .ok (.sipush 400, 3) := by decide +kernel
theorem dX4_init_8 : decode cX4_init 8 = .ok (.anewarray 9, 3) := by decide +kernel
theorem dX4_init_11 : decode cX4_init 11 = .ok (.putfield 11, 3) := by decide +kernel
theorem dX4_init_14 : decode cX4_init 14 = .ok (.return_, 1) := by decide +kernel
theorem dX4_isFull_0 : decode cX4_isFull 0 = .ok (.aload_n 0, 1) := by decide +kernel
theorem dX4_isFull_1 : decode cX4_isFull 1 = .ok (.getfield 17, 3) := by decide +kernel
theorem dX4_isFull_4 : decode cX4_isFull 4 = .ok (.aload_n 0, 1) := by decide +kernel
theorem dX4_isFull_5 : decode cX4_isFull 5 = .ok (.getfield 11, 3) := by decide +kernel
theorem dX4_isFull_8 : decode cX4_isFull 8 = .ok (.arraylength, 1) := by decide +kernel
theorem dX4_isFull_9 : decode cX4_isFull 9 = .ok (.if_icmp .lt 7, 3) := by decide +kernel
theorem dX4_isFull_12 : decode cX4_isFull 12 = .ok (.iconst 1, 1) := by decide +kernel
theorem dX4_isFull_13 : decode cX4_isFull 13 = .ok (.goto 4, 3) := by decide +kernel
theorem dX4_isFull_16 : decode cX4_isFull 16 = .ok (.iconst 0, 1) := by decide +kernel
theorem dX4_isFull_17 : decode cX4_isFull 17 = .ok (.ireturn, 1) := by decide +kernel
theorem dX4_at_0 : decode cX4_at 0 = .ok (.iload_n 1, 1) := by decide +kernel
theorem dX4_at_1 : decode cX4_at 1 = .ok (.ifCond .lt 29, 3) := by decide +kernel
theorem dX4_at_4 : decode cX4_at 4 = .ok (.iload_n 1, 1) := by decide +kernel
theorem dX4_at_5 : decode cX4_at 5 = .ok (.aload_n 0, 1) := by decide +kernel
theorem dX4_at_6 : decode cX4_at 6 = .ok (.getfield 17, 3) := by decide +kernel
theorem dX4_at_9 : decode cX4_at 9 = .ok (.if_icmp .ge 21, 3) := by decide +kernel
theorem dX4_at_12 : decode cX4_at 12 = .ok (.iload_n 1, 1) := by decide +kernel
theorem dX4_at_13 : decode cX4_at 13 = .ok (.aload_n 0, 1) := by decide +kernel
theorem dX4_at_14 : decode cX4_at 14 = .ok (.getfield 11, 3) := by decide +kernel
theorem dX4_at_17 : decode cX4_at 17 = .ok (.arraylength, 1) := by decide +kernel
theorem dX4_at_18 : decode cX4_at 18 = .ok (.if_icmp .ge 12, 3) := by decide +kernel
theorem dX4_at_21 : decode cX4_at 21 = .ok (.aload_n 0, 1) := by decide +kernel
theorem dX4_at_22 : decode cX4_at 22 = .ok (.getfield 11, 3) := by decide +kernel
theorem dX4_at_25 : decode cX4_at 25 = .ok (.iload_n 1, 1) := by decide +kernel
theorem dX4_at_26 : decode cX4_at 26 = .ok (.aaload, 1) := by decide +kernel
theorem dX4_at_27 : decode cX4_at 27 = .ok (.goto 4, 3) := by decide +kernel
theorem dX4_at_30 : decode cX4_at 30 = .ok (.aconst_null, 1) := by decide +kernel
theorem dX4_at_31 : decode cX4_at 31 = .ok (.areturn, 1) := by decide +kernel
theorem dX4_lodge_0 : decode cX4_lodge 0 = .ok (.new 9, 3) := by decide +kernel
theorem dX4_lodge_3 : decode cX4_lodge 3 = .ok (.dup, 1) := by decide +kernel
theorem dX4_lodge_4 : decode cX4_lodge 4 = .ok (.aload_n 0, 1) := by decide +kernel
theorem dX4_lodge_5 : decode cX4_lodge 5 = .ok (.getfield 17, 3) := by decide +kernel
theorem dX4_lodge_8 : decode cX4_lodge 8 = .ok (.iload_n 1, 1) := by decide +kernel
theorem dX4_lodge_9 : decode cX4_lodge 9 = .ok (.iload_n 2, 1) := by decide +kernel
theorem dX4_lodge_10 : decode cX4_lodge 10 = .ok (.aload_n 3, 1) := by decide +kernel
theorem dX4_lodge_11 : decode cX4_lodge 11 = .ok (.iload 4, 2) := by decide +kernel
theorem dX4_lodge_13 : decode cX4_lodge 13 = .ok (.iload 5, 2) := by decide +kernel
theorem dX4_lodge_15 : decode cX4_lodge 15 = .ok (.invokespecial 21, 3) := by decide +kernel
theorem dX4_lodge_18 : decode cX4_lodge 18 = .ok (.astore 6, 2) := by decide +kernel
theorem dX4_lodge_20 : decode cX4_lodge 20 = .ok (.aload_n 0, 1) := by decide +kernel
theorem dX4_lodge_21 : decode cX4_lodge 21 = .ok (.getfield 17, 3) := by decide +kernel
theorem dX4_lodge_24 : decode cX4_lodge 24 = .ok (.ifCond .lt 36, 3) := by decide +kernel
theorem dX4_lodge_27 : decode cX4_lodge 27 = .ok (.aload_n 0, 1) := by decide +kernel
theorem dX4_lodge_28 : decode cX4_lodge 28 = .ok (.getfield 17, 3) := by decide +kernel
theorem dX4_lodge_31 : decode cX4_lodge 31 = .ok (.aload_n 0, 1) := by decide +kernel
theorem dX4_lodge_32 : decode cX4_lodge 32 = .ok (.getfield 11, 3) := by decide +kernel
theorem dX4_lodge_35 : decode cX4_lodge 35 = .ok (.arraylength, 1) := by decide +kernel
theorem dX4_lodge_36 : decode cX4_lodge 36 = .ok (.if_icmp .ge 24, 3) := by decide +kernel
theorem dX4_lodge_39 : decode cX4_lodge 39 = .ok (.aload_n 0, 1) := by decide +kernel
theorem dX4_lodge_40 : decode cX4_lodge 40 = .ok (.getfield 11, 3) := by decide +kernel
theorem dX4_lodge_43 : decode cX4_lodge 43 = .ok (.aload_n 0, 1) := by decide +kernel
theorem dX4_lodge_44 : decode cX4_lodge 44 = .ok (.getfield 17, 3) := by decide +kernel
theorem dX4_lodge_47 : decode cX4_lodge 47 = .ok (.aload 6, 2) := by decide +kernel
theorem dX4_lodge_49 : decode cX4_lodge 49 = .ok (.aastore, 1) := by decide +kernel
theorem dX4_lodge_50 : decode cX4_lodge 50 = .ok (.aload_n 0, 1) := by decide +kernel
theorem dX4_lodge_51 : decode cX4_lodge 51 = .ok (.dup, 1) := by decide +kernel
theorem dX4_lodge_52 : decode cX4_lodge 52 = .ok (.getfield 17, 3) := by decide +kernel
theorem dX4_lodge_55 : decode cX4_lodge 55 = .ok (.iconst 1, 1) := by decide +kernel
theorem dX4_lodge_56 : decode cX4_lodge 56 = .ok (.iadd, 1) := by decide +kernel
theorem dX4_lodge_57 : decode cX4_lodge 57 = .ok (.putfield 17, 3) := by decide +kernel
theorem dX4_lodge_60 : decode cX4_lodge 60 = .ok (.aload 6, 2) := by decide +kernel
theorem dX4_lodge_62 : decode cX4_lodge 62 = .ok (.areturn, 1) := by decide +kernel
theorem dX4_dropLatest_0 : decode cX4_dropLatest 0 = .ok (.aload_n 0, 1) := by decide +kernel
theorem dX4_dropLatest_1 : decode cX4_dropLatest 1 = .ok (.getfield 17, 3) := by decide +kernel
theorem dX4_dropLatest_4 : decode cX4_dropLatest 4 = .ok (.ifCond .le 35, 3) := by decide +kernel
theorem dX4_dropLatest_7 : decode cX4_dropLatest 7 = .ok (.aload_n 0, 1) := by decide +kernel
theorem dX4_dropLatest_8 : decode cX4_dropLatest 8 = .ok (.getfield 17, 3) := by decide +kernel
theorem dX4_dropLatest_11 : decode cX4_dropLatest 11 = .ok (.aload_n 0, 1) := by decide +kernel
theorem dX4_dropLatest_12 : decode cX4_dropLatest 12 = .ok (.getfield 11, 3) := by decide +kernel
theorem dX4_dropLatest_15 : decode cX4_dropLatest 15 = .ok (.arraylength, 1) := by decide +kernel
theorem dX4_dropLatest_16 : decode cX4_dropLatest 16 = .ok (.if_icmp .gt 23, 3) := by decide +kernel
theorem dX4_dropLatest_19 : decode cX4_dropLatest 19 = .ok (.aload_n 0, 1) := by decide +kernel
theorem dX4_dropLatest_20 : decode cX4_dropLatest 20 = .ok (.dup, 1) := by decide +kernel
theorem dX4_dropLatest_21 : decode cX4_dropLatest 21 = .ok (.getfield 17, 3) := by decide +kernel
theorem dX4_dropLatest_24 : decode cX4_dropLatest 24 = .ok (.iconst 1, 1) := by decide +kernel
theorem dX4_dropLatest_25 : decode cX4_dropLatest 25 = .ok (.isub, 1) := by decide +kernel
theorem dX4_dropLatest_26 : decode cX4_dropLatest 26 = .ok (.putfield 17, 3) := by decide +kernel
theorem dX4_dropLatest_29 : decode cX4_dropLatest 29 = .ok (.aload_n 0, 1) := by decide +kernel
theorem dX4_dropLatest_30 : decode cX4_dropLatest 30 = .ok (.getfield 11, 3) := by decide +kernel
theorem dX4_dropLatest_33 : decode cX4_dropLatest 33 = .ok (.aload_n 0, 1) := by decide +kernel
theorem dX4_dropLatest_34 : decode cX4_dropLatest 34 = .ok (.getfield 17, 3) := by decide +kernel
theorem dX4_dropLatest_37 : decode cX4_dropLatest 37 = .ok (.aconst_null, 1) := by decide +kernel
theorem dX4_dropLatest_38 : decode cX4_dropLatest 38 = .ok (.aastore, 1) := by decide +kernel
theorem dX4_dropLatest_39 : decode cX4_dropLatest 39 = .ok (.return_, 1) := by decide +kernel
theorem dX4_hasAny_0 : decode cX4_hasAny 0 = .ok (.iconst 0, 1) := by decide +kernel
theorem dX4_hasAny_1 : decode cX4_hasAny 1 = .ok (.istore_n 2, 1) := by decide +kernel
theorem dX4_hasAny_2 : decode cX4_hasAny 2 = .ok (.iload_n 2, 1) := by decide +kernel
theorem dX4_hasAny_3 : decode cX4_hasAny 3 = .ok (.aload_n 0, 1) := by decide +kernel
theorem dX4_hasAny_4 : decode cX4_hasAny 4 = .ok (.getfield 17, 3) := by decide +kernel
theorem dX4_hasAny_7 : decode cX4_hasAny 7 = .ok (.if_icmp .ge 29, 3) := by decide +kernel
theorem dX4_hasAny_10 : decode cX4_hasAny 10 = .ok (.aload_n 0, 1) := by decide +kernel
theorem dX4_hasAny_11 : decode cX4_hasAny 11 = .ok (.iload_n 2, 1) := by decide +kernel
theorem dX4_hasAny_12 : decode cX4_hasAny 12 = .ok (.invokevirtual 24, 3) := by decide +kernel
theorem dX4_hasAny_15 : decode cX4_hasAny 15 = .ok (.astore_n 3, 1) := by decide +kernel
theorem dX4_hasAny_16 : decode cX4_hasAny 16 = .ok (.aload_n 3, 1) := by decide +kernel
theorem dX4_hasAny_17 : decode cX4_hasAny 17 = .ok (.ifnull 13, 3) := by decide +kernel
theorem dX4_hasAny_20 : decode cX4_hasAny 20 = .ok (.aload_n 3, 1) := by decide +kernel
theorem dX4_hasAny_21 : decode cX4_hasAny 21 = .ok (.getfield 28, 3) := by decide +kernel
theorem dX4_hasAny_24 : decode cX4_hasAny 24 = .ok (.aload_n 1, 1) := by decide +kernel
theorem dX4_hasAny_25 : decode cX4_hasAny 25 = .ok (.if_acmp .ne 5, 3) := by decide +kernel
theorem dX4_hasAny_28 : decode cX4_hasAny 28 = .ok (.iconst 1, 1) := by decide +kernel
theorem dX4_hasAny_29 : decode cX4_hasAny 29 = .ok (.ireturn, 1) := by decide +kernel
theorem dX4_hasAny_30 : decode cX4_hasAny 30 = .ok (.iinc 2 1, 3) := by decide +kernel
theorem dX4_hasAny_33 : decode cX4_hasAny 33 = .ok (.goto (-31), 3) := by decide +kernel
theorem dX4_hasAny_36 : decode cX4_hasAny 36 = .ok (.iconst 0, 1) := by decide +kernel
theorem dX4_hasAny_37 : decode cX4_hasAny 37 = .ok (.ireturn, 1) := by decide +kernel
theorem dX4_hasSign_0 : decode cX4_hasSign 0 = .ok (.iconst 0, 1) := by decide +kernel
theorem dX4_hasSign_1 : decode cX4_hasSign 1 = .ok (.istore_n 3, 1) := by decide +kernel
theorem dX4_hasSign_2 : decode cX4_hasSign 2 = .ok (.iload_n 3, 1) := by decide +kernel
theorem dX4_hasSign_3 : decode cX4_hasSign 3 = .ok (.aload_n 0, 1) := by decide +kernel
theorem dX4_hasSign_4 : decode cX4_hasSign 4 = .ok (.getfield 17, 3) := by decide +kernel
theorem dX4_hasSign_7 : decode cX4_hasSign 7 = .ok (.if_icmp .ge 49, 3) := by decide +kernel
theorem dX4_hasSign_10 : decode cX4_hasSign 10 = .ok (.aload_n 0, 1) := by decide +kernel
theorem dX4_hasSign_11 : decode cX4_hasSign 11 = .ok (.iload_n 3, 1) := by decide +kernel
theorem dX4_hasSign_12 : decode cX4_hasSign 12 = .ok (.invokevirtual 24, 3) := by decide +kernel
theorem dX4_hasSign_15 : decode cX4_hasSign 15 = .ok (.astore 4, 2) := by decide +kernel
theorem dX4_hasSign_17 : decode cX4_hasSign 17 = .ok (.aload 4, 2) := by decide +kernel
theorem dX4_hasSign_19 : decode cX4_hasSign 19 = .ok (.ifnull 31, 3) := by decide +kernel
theorem dX4_hasSign_22 : decode cX4_hasSign 22 = .ok (.aload 4, 2) := by decide +kernel
theorem dX4_hasSign_24 : decode cX4_hasSign 24 = .ok (.getfield 32, 3) := by decide +kernel
theorem dX4_hasSign_27 : decode cX4_hasSign 27 = .ok (.ifCond .ne 23, 3) := by decide +kernel
theorem dX4_hasSign_30 : decode cX4_hasSign 30 = .ok (.aload 4, 2) := by decide +kernel
theorem dX4_hasSign_32 : decode cX4_hasSign 32 = .ok (.getfield 35, 3) := by decide +kernel
theorem dX4_hasSign_35 : decode cX4_hasSign 35 = .ok (.iload_n 1, 1) := by decide +kernel
theorem dX4_hasSign_36 : decode cX4_hasSign 36 = .ok (.if_icmp .ne 14, 3) := by decide +kernel
theorem dX4_hasSign_39 : decode cX4_hasSign 39 = .ok (.aload 4, 2) := by decide +kernel
theorem dX4_hasSign_41 : decode cX4_hasSign 41 = .ok (.getfield 28, 3) := by decide +kernel
theorem dX4_hasSign_44 : decode cX4_hasSign 44 = .ok (.aload_n 2, 1) := by decide +kernel
theorem dX4_hasSign_45 : decode cX4_hasSign 45 = .ok (.if_acmp .ne 5, 3) := by decide +kernel
theorem dX4_hasSign_48 : decode cX4_hasSign 48 = .ok (.iconst 1, 1) := by decide +kernel
theorem dX4_hasSign_49 : decode cX4_hasSign 49 = .ok (.ireturn, 1) := by decide +kernel
theorem dX4_hasSign_50 : decode cX4_hasSign 50 = .ok (.iinc 3 1, 3) := by decide +kernel
theorem dX4_hasSign_53 : decode cX4_hasSign 53 = .ok (.goto (-51), 3) := by decide +kernel
theorem dX4_hasSign_56 : decode cX4_hasSign 56 = .ok (.iconst 0, 1) := by decide +kernel
theorem dX4_hasSign_57 : decode cX4_hasSign 57 = .ok (.ireturn, 1) := by decide +kernel
theorem dX4_belonging_0 : decode cX4_belonging 0 = .ok (.aload_n 0, 1) := by decide +kernel
theorem dX4_belonging_1 : decode cX4_belonging 1 = .ok (.getfield 17, 3) := by decide +kernel
theorem dX4_belonging_4 : decode cX4_belonging 4 = .ok (.iconst 1, 1) := by decide +kernel
theorem dX4_belonging_5 : decode cX4_belonging 5 = .ok (.isub, 1) := by decide +kernel
theorem dX4_belonging_6 : decode cX4_belonging 6 = .ok (.istore_n 3, 1) := by decide +kernel
theorem dX4_belonging_7 : decode cX4_belonging 7 = .ok (.iload_n 3, 1) := by decide +kernel
theorem dX4_belonging_8 : decode cX4_belonging 8 = .ok (.ifCond .lt 58, 3) := by decide +kernel
theorem dX4_belonging_11 : decode cX4_belonging 11 = .ok (.aload_n 0, 1) := by decide +kernel
theorem dX4_belonging_12 : decode cX4_belonging 12 = .ok (.iload_n 3, 1) := by decide +kernel
theorem dX4_belonging_13 : decode cX4_belonging 13 = .ok (.invokevirtual 24, 3) := by decide +kernel
theorem dX4_belonging_16 : decode cX4_belonging 16 = .ok (.astore 4, 2) := by decide +kernel
theorem dX4_belonging_18 : decode cX4_belonging 18 = .ok (.aload 4, 2) := by decide +kernel
theorem dX4_belonging_20 : decode cX4_belonging 20 = .ok (.ifnull 40, 3) := by decide +kernel
theorem dX4_belonging_23 : decode cX4_belonging 23 = .ok (.aload 4, 2) := by decide +kernel
theorem dX4_belonging_25 : decode cX4_belonging 25 = .ok (.getfield 35, 3) := by decide +kernel
theorem dX4_belonging_28 : decode cX4_belonging 28 = .ok (.iload_n 1, 1) := by decide +kernel
theorem dX4_belonging_29 : decode cX4_belonging 29 = .ok (.if_icmp .ne 31, 3) := by decide +kernel
theorem dX4_belonging_32 : decode cX4_belonging 32 = .ok (.aload 4, 2) := by decide +kernel
theorem dX4_belonging_34 : decode cX4_belonging 34 = .ok (.getfield 28, 3) := by decide +kernel
theorem dX4_belonging_37 : decode cX4_belonging 37 = .ok (.aload_n 2, 1) := by decide +kernel
theorem dX4_belonging_38 : decode cX4_belonging 38 = .ok (.if_acmp .ne 22, 3) := by decide +kernel
theorem dX4_belonging_41 : decode cX4_belonging 41 = .ok (.aload 4, 2) := by decide +kernel
theorem dX4_belonging_43 : decode cX4_belonging 43 = .ok (.invokevirtual 38, 3) := by decide +kernel
theorem dX4_belonging_46 : decode cX4_belonging 46 = .ok (.ifCond .eq 14, 3) := by decide +kernel
theorem dX4_belonging_49 : decode cX4_belonging 49 = .ok (.aload 4, 2) := by decide +kernel
theorem dX4_belonging_51 : decode cX4_belonging 51 = .ok (.getfield 42, 3) := by decide +kernel
theorem dX4_belonging_54 : decode cX4_belonging 54 = .ok (.ifnonnull 6, 3) := by decide +kernel
theorem dX4_belonging_57 : decode cX4_belonging 57 = .ok (.aload 4, 2) := by decide +kernel
theorem dX4_belonging_59 : decode cX4_belonging 59 = .ok (.areturn, 1) := by decide +kernel
theorem dX4_belonging_60 : decode cX4_belonging 60 = .ok (.iinc 3 (-1), 3) := by decide +kernel
theorem dX4_belonging_63 : decode cX4_belonging 63 = .ok (.goto (-56), 3) := by decide +kernel
theorem dX4_belonging_66 : decode cX4_belonging 66 = .ok (.aconst_null, 1) := by decide +kernel
theorem dX4_belonging_67 : decode cX4_belonging 67 = .ok (.areturn, 1) := by decide +kernel
theorem dX4_latestEffect_0 : decode cX4_latestEffect 0 = .ok (.iconst 0, 1) := by decide +kernel
theorem dX4_latestEffect_1 : decode cX4_latestEffect 1 = .ok (.istore_n 3, 1) := by decide +kernel
theorem dX4_latestEffect_2 : decode cX4_latestEffect 2 = .ok (.iconst 0, 1) := by decide +kernel
theorem dX4_latestEffect_3 : decode cX4_latestEffect 3 = .ok (.istore 4, 2) := by decide +kernel
theorem dX4_latestEffect_5 : decode cX4_latestEffect 5 = .ok (.iload 4, 2) := by decide +kernel
theorem dX4_latestEffect_7 : decode cX4_latestEffect 7 = .ok (.aload_n 0, 1) := by decide +kernel
theorem dX4_latestEffect_8 : decode cX4_latestEffect 8 = .ok (.getfield 17, 3) := by decide +kernel
theorem dX4_latestEffect_11 : decode cX4_latestEffect 11 = .ok (.if_icmp .ge 55, 3) := by decide +kernel
theorem dX4_latestEffect_14 : decode cX4_latestEffect 14 = .ok (.aload_n 0, 1) := by decide +kernel
theorem dX4_latestEffect_15 : decode cX4_latestEffect 15 = .ok (.iload 4, 2) := by decide +kernel
theorem dX4_latestEffect_17 : decode cX4_latestEffect 17 = .ok (.invokevirtual 24, 3) := by decide +kernel
theorem dX4_latestEffect_20 : decode cX4_latestEffect 20 = .ok (.astore 5, 2) := by decide +kernel
theorem dX4_latestEffect_22 : decode cX4_latestEffect 22 = .ok (.aload 5, 2) := by decide +kernel
theorem dX4_latestEffect_24 : decode cX4_latestEffect 24 = .ok (.ifnull 36, 3) := by decide +kernel
theorem dX4_latestEffect_27 : decode cX4_latestEffect 27 = .ok (.aload 5, 2) := by decide +kernel
theorem dX4_latestEffect_29 : decode cX4_latestEffect 29 = .ok (.getfield 28, 3) := by decide +kernel
theorem dX4_latestEffect_32 : decode cX4_latestEffect 32 = .ok (.aload_n 1, 1) := by decide +kernel
theorem dX4_latestEffect_33 : decode cX4_latestEffect 33 = .ok (.if_acmp .ne 27, 3) := by decide +kernel
theorem dX4_latestEffect_36 : decode cX4_latestEffect 36 = .ok (.aload 5, 2) := by decide +kernel
theorem dX4_latestEffect_38 : decode cX4_latestEffect 38 = .ok (.getfield 46, 3) := by decide +kernel
theorem dX4_latestEffect_41 : decode cX4_latestEffect 41 = .ok (.iload_n 2, 1) := by decide +kernel
theorem dX4_latestEffect_42 : decode cX4_latestEffect 42 = .ok (.if_icmp .gt 18, 3) := by decide +kernel
theorem dX4_latestEffect_45 : decode cX4_latestEffect 45 = .ok (.aload 5, 2) := by decide +kernel
theorem dX4_latestEffect_47 : decode cX4_latestEffect 47 = .ok (.getfield 46, 3) := by decide +kernel
theorem dX4_latestEffect_50 : decode cX4_latestEffect 50 = .ok (.iload_n 3, 1) := by decide +kernel
theorem dX4_latestEffect_51 : decode cX4_latestEffect 51 = .ok (.if_icmp .le 9, 3) := by decide +kernel
theorem dX4_latestEffect_54 : decode cX4_latestEffect 54 = .ok (.aload 5, 2) := by decide +kernel
theorem dX4_latestEffect_56 : decode cX4_latestEffect 56 = .ok (.getfield 46, 3) := by decide +kernel
theorem dX4_latestEffect_59 : decode cX4_latestEffect 59 = .ok (.istore_n 3, 1) := by decide +kernel
theorem dX4_latestEffect_60 : decode cX4_latestEffect 60 = .ok (.iinc 4 1, 3) := by decide +kernel
theorem dX4_latestEffect_63 : decode cX4_latestEffect 63 = .ok (.goto (-58), 3) := by decide +kernel
theorem dX4_latestEffect_66 : decode cX4_latestEffect 66 = .ok (.iload_n 3, 1) := by decide +kernel
theorem dX4_latestEffect_67 : decode cX4_latestEffect 67 = .ok (.ireturn, 1) := by decide +kernel
theorem dX4_nthOfMember_0 : decode cX4_nthOfMember 0 = .ok (.iload 4, 2) := by decide +kernel
theorem dX4_nthOfMember_2 : decode cX4_nthOfMember 2 = .ok (.istore 5, 2) := by decide +kernel
theorem dX4_nthOfMember_4 : decode cX4_nthOfMember 4 = .ok (.iconst 0, 1) := by decide +kernel
theorem dX4_nthOfMember_5 : decode cX4_nthOfMember 5 = .ok (.istore 6, 2) := by decide +kernel
theorem dX4_nthOfMember_7 : decode cX4_nthOfMember 7 = .ok (.iload 6, 2) := by decide +kernel
theorem dX4_nthOfMember_9 : decode cX4_nthOfMember 9 = .ok (.aload_n 0, 1) := by decide +kernel
theorem dX4_nthOfMember_10 : decode cX4_nthOfMember 10 = .ok (.getfield 17, 3) := by decide +kernel
theorem dX4_nthOfMember_13 : decode cX4_nthOfMember 13 = .ok (.if_icmp .ge 58, 3) := by decide +kernel
theorem dX4_nthOfMember_16 : decode cX4_nthOfMember 16 = .ok (.iload 5, 2) := by decide +kernel
theorem dX4_nthOfMember_18 : decode cX4_nthOfMember 18 = .ok (.ifCond .lt 53, 3) := by decide +kernel
theorem dX4_nthOfMember_21 : decode cX4_nthOfMember 21 = .ok (.aload_n 0, 1) := by decide +kernel
theorem dX4_nthOfMember_22 : decode cX4_nthOfMember 22 = .ok (.iload 6, 2) := by decide +kernel
theorem dX4_nthOfMember_24 : decode cX4_nthOfMember 24 = .ok (.invokevirtual 24, 3) := by decide +kernel
theorem dX4_nthOfMember_27 : decode cX4_nthOfMember 27 = .ok (.astore 7, 2) := by decide +kernel
theorem dX4_nthOfMember_29 : decode cX4_nthOfMember 29 = .ok (.aload 7, 2) := by decide +kernel
theorem dX4_nthOfMember_31 : decode cX4_nthOfMember 31 = .ok (.ifnull 34, 3) := by decide +kernel
theorem dX4_nthOfMember_34 : decode cX4_nthOfMember 34 = .ok (.aload 7, 2) := by decide +kernel
theorem dX4_nthOfMember_36 : decode cX4_nthOfMember 36 = .ok (.iload_n 2, 1) := by decide +kernel
theorem dX4_nthOfMember_37 : decode cX4_nthOfMember 37 = .ok (.iload_n 3, 1) := by decide +kernel
theorem dX4_nthOfMember_38 : decode cX4_nthOfMember 38 = .ok (.invokevirtual 49, 3) := by decide +kernel
theorem dX4_nthOfMember_41 : decode cX4_nthOfMember 41 = .ok (.ifCond .eq 24, 3) := by decide +kernel
theorem dX4_nthOfMember_44 : decode cX4_nthOfMember 44 = .ok (.aload 7, 2) := by decide +kernel
theorem dX4_nthOfMember_46 : decode cX4_nthOfMember 46 = .ok (.aload_n 1, 1) := by decide +kernel
theorem dX4_nthOfMember_47 : decode cX4_nthOfMember 47 = .ok (.iload_n 3, 1) := by decide +kernel
theorem dX4_nthOfMember_48 : decode cX4_nthOfMember 48 = .ok (.invokevirtual 53, 3) := by decide +kernel
theorem dX4_nthOfMember_51 : decode cX4_nthOfMember 51 = .ok (.ifCond .eq 14, 3) := by decide +kernel
theorem dX4_nthOfMember_54 : decode cX4_nthOfMember 54 = .ok (.iload 5, 2) := by decide +kernel
theorem dX4_nthOfMember_56 : decode cX4_nthOfMember 56 = .ok (.ifCond .ne 6, 3) := by decide +kernel
theorem dX4_nthOfMember_59 : decode cX4_nthOfMember 59 = .ok (.aload 7, 2) := by decide +kernel
theorem dX4_nthOfMember_61 : decode cX4_nthOfMember 61 = .ok (.areturn, 1) := by decide +kernel
theorem dX4_nthOfMember_62 : decode cX4_nthOfMember 62 = .ok (.iinc 5 (-1), 3) := by decide +kernel
theorem dX4_nthOfMember_65 : decode cX4_nthOfMember 65 = .ok (.iinc 6 1, 3) := by decide +kernel
theorem dX4_nthOfMember_68 : decode cX4_nthOfMember 68 = .ok (.goto (-61), 3) := by decide +kernel
theorem dX4_nthOfMember_71 : decode cX4_nthOfMember 71 = .ok (.aconst_null, 1) := by decide +kernel
theorem dX4_nthOfMember_72 : decode cX4_nthOfMember 72 = .ok (.areturn, 1) := by decide +kernel
theorem dX5_init_0 : decode cX5_init 0 = .ok (.aload_n 0, 1) := by decide +kernel
theorem dX5_init_1 : decode cX5_init 1 = .ok (.invokespecial 3, 3) := by decide +kernel
theorem dX5_init_4 : decode cX5_init 4 = .ok (.aload_n 0, 1) := by decide +kernel
theorem dX5_init_5 : decode cX5_init 5 = .ok (.bipush 30, 2) := by decide +kernel
theorem dX5_init_7 : decode cX5_init 7 = .ok (.anewarray 9, 3) := by decide +kernel
theorem dX5_init_10 : decode cX5_init 10 = .ok (.putfield 11, 3) := by decide +kernel
theorem dX5_init_13 : decode cX5_init 13 = .ok (.return_, 1) := by decide +kernel
theorem dX5_fill_0 : decode cX5_fill 0 = .ok (.aload_n 0, 1) := by decide +kernel
theorem dX5_fill_1 : decode cX5_fill 1 = .ok (.iconst 0, 1) := by decide +kernel
theorem dX5_fill_2 : decode cX5_fill 2 = .ok (.putfield 17, 3) := by decide +kernel
theorem dX5_fill_5 : decode cX5_fill 5 = .ok (.iconst 0, 1) := by decide +kernel
theorem dX5_fill_6 : decode cX5_fill 6 = .ok (.istore 5, 2) := by decide +kernel
theorem dX5_fill_8 : decode cX5_fill 8 = .ok (.iload 5, 2) := by decide +kernel
theorem dX5_fill_10 : decode cX5_fill 10 = .ok (.aload_n 0, 1) := by decide +kernel
theorem dX5_fill_11 : decode cX5_fill 11 = .ok (.getfield 11, 3) := by decide +kernel
theorem dX5_fill_14 : decode cX5_fill 14 = .ok (.arraylength, 1) := by decide +kernel
theorem dX5_fill_15 : decode cX5_fill 15 = .ok (.if_icmp .ge 17, 3) := by decide +kernel
theorem dX5_fill_18 : decode cX5_fill 18 = .ok (.aload_n 0, 1) := by decide +kernel
theorem dX5_fill_19 : decode cX5_fill 19 = .ok (.getfield 11, 3) := by decide +kernel
theorem dX5_fill_22 : decode cX5_fill 22 = .ok (.iload 5, 2) := by decide +kernel
theorem dX5_fill_24 : decode cX5_fill 24 = .ok (.aconst_null, 1) := by decide +kernel
theorem dX5_fill_25 : decode cX5_fill 25 = .ok (.aastore, 1) := by decide +kernel
theorem dX5_fill_26 : decode cX5_fill 26 = .ok (.iinc 5 1, 3) := by decide +kernel
theorem dX5_fill_29 : decode cX5_fill 29 = .ok (.goto (-21), 3) := by decide +kernel
theorem dX5_fill_32 : decode cX5_fill 32 = .ok (.iconst 0, 1) := by decide +kernel
theorem dX5_fill_33 : decode cX5_fill 33 = .ok (.istore 5, 2) := by decide +kernel
theorem dX5_fill_35 : decode cX5_fill 35 = .ok (.iload 5, 2) := by decide +kernel
theorem dX5_fill_37 : decode cX5_fill 37 = .ok (.aload_n 1, 1) := by decide +kernel
theorem dX5_fill_38 : decode cX5_fill 38 = .ok (.getfield 21, 3) := by decide +kernel
theorem dX5_fill_41 : decode cX5_fill 41 = .ok (.if_icmp .ge 56, 3) := by decide +kernel
theorem dX5_fill_44 : decode cX5_fill 44 = .ok (.aload_n 1, 1) := by decide +kernel
theorem dX5_fill_45 : decode cX5_fill 45 = .ok (.iload 5, 2) := by decide +kernel
theorem dX5_fill_47 : decode cX5_fill 47 = .ok (.invokevirtual 24, 3) := by decide +kernel
theorem dX5_fill_50 : decode cX5_fill 50 = .ok (.astore 6, 2) := by decide +kernel
theorem dX5_fill_52 : decode cX5_fill 52 = .ok (.aload 6, 2) := by decide +kernel
theorem dX5_fill_54 : decode cX5_fill 54 = .ok (.ifnull 37, 3) := by decide +kernel
theorem dX5_fill_57 : decode cX5_fill 57 = .ok (.aload 6, 2) := by decide +kernel
theorem dX5_fill_59 : decode cX5_fill 59 = .ok (.getfield 28, 3) := by decide +kernel
theorem dX5_fill_62 : decode cX5_fill 62 = .ok (.aload_n 2, 1) := by decide +kernel
theorem dX5_fill_63 : decode cX5_fill 63 = .ok (.if_acmp .ne 28, 3) := by decide +kernel
theorem dX5_fill_66 : decode cX5_fill 66 = .ok (.aload 6, 2) := by decide +kernel
theorem dX5_fill_68 : decode cX5_fill 68 = .ok (.invokevirtual 32, 3) := by decide +kernel
theorem dX5_fill_71 : decode cX5_fill 71 = .ok (.ifCond .eq 20, 3) := by decide +kernel
theorem dX5_fill_74 : decode cX5_fill 74 = .ok (.aload 6, 2) := by decide +kernel
theorem dX5_fill_76 : decode cX5_fill 76 = .ok (.iload_n 3, 1) := by decide +kernel
theorem dX5_fill_77 : decode cX5_fill 77 = .ok (.iload 4, 2) := by decide +kernel
theorem dX5_fill_79 : decode cX5_fill 79 = .ok (.invokevirtual 36, 3) := by decide +kernel
theorem dX5_fill_82 : decode cX5_fill 82 = .ok (.ifCond .eq 9, 3) := by decide +kernel
theorem dX5_fill_85 : decode cX5_fill 85 = .ok (.aload_n 0, 1) := by decide +kernel
theorem dX5_fill_86 : decode cX5_fill 86 = .ok (.aload 6, 2) := by decide +kernel
theorem dX5_fill_88 : decode cX5_fill 88 = .ok (.invokevirtual 40, 3) := by decide +kernel
theorem dX5_fill_91 : decode cX5_fill 91 = .ok (.iinc 5 1, 3) := by decide +kernel
theorem dX5_fill_94 : decode cX5_fill 94 = .ok (.goto (-59), 3) := by decide +kernel
theorem dX5_fill_97 : decode cX5_fill 97 = .ok (.return_, 1) := by decide +kernel
theorem dX5_enter_0 : decode cX5_enter 0 = .ok (.aload_n 1, 1) := by decide +kernel
theorem dX5_enter_1 : decode cX5_enter 1 = .ok (.getfield 44, 3) := by decide +kernel
theorem dX5_enter_4 : decode cX5_enter 4 = .ok (.istore_n 2, 1) := by decide +kernel
theorem dX5_enter_5 : decode cX5_enter 5 = .ok (.iload_n 2, 1) := by decide +kernel
theorem dX5_enter_6 : decode cX5_enter 6 = .ok (.ifCond .lt 29, 3) := by decide +kernel
theorem dX5_enter_9 : decode cX5_enter 9 = .ok (.iload_n 2, 1) := by decide +kernel
theorem dX5_enter_10 : decode cX5_enter 10 = .ok (.aload_n 0, 1) := by decide +kernel
theorem dX5_enter_11 : decode cX5_enter 11 = .ok (.getfield 11, 3) := by decide +kernel
theorem dX5_enter_14 : decode cX5_enter 14 = .ok (.arraylength, 1) := by decide +kernel
theorem dX5_enter_15 : decode cX5_enter 15 = .ok (.if_icmp .ge 20, 3) := by decide +kernel
theorem dX5_enter_18 : decode cX5_enter 18 = .ok (.aload_n 0, 1) := by decide +kernel
theorem dX5_enter_19 : decode cX5_enter 19 = .ok (.getfield 11, 3) := by decide +kernel
theorem dX5_enter_22 : decode cX5_enter 22 = .ok (.iload_n 2, 1) := by decide +kernel
theorem dX5_enter_23 : decode cX5_enter 23 = .ok (.aload_n 1, 1) := by decide +kernel
theorem dX5_enter_24 : decode cX5_enter 24 = .ok (.aastore, 1) := by decide +kernel
theorem dX5_enter_25 : decode cX5_enter 25 = .ok (.aload_n 0, 1) := by decide +kernel
theorem dX5_enter_26 : decode cX5_enter 26 = .ok (.dup, 1) := by decide +kernel
theorem dX5_enter_27 : decode cX5_enter 27 = .ok (.getfield 17, 3) := by decide +kernel
theorem dX5_enter_30 : decode cX5_enter 30 = .ok (.iconst 1, 1) := by decide +kernel
theorem dX5_enter_31 : decode cX5_enter 31 = .ok (.iadd, 1) := by decide +kernel
theorem dX5_enter_32 : decode cX5_enter 32 = .ok (.putfield 17, 3) := by decide +kernel
theorem dX5_enter_35 : decode cX5_enter 35 = .ok (.return_, 1) := by decide +kernel
theorem dX5_at_0 : decode cX5_at 0 = .ok (.iload_n 1, 1) := by decide +kernel
theorem dX5_at_1 : decode cX5_at 1 = .ok (.ifCond .lt 21, 3) := by decide +kernel
theorem dX5_at_4 : decode cX5_at 4 = .ok (.iload_n 1, 1) := by decide +kernel
theorem dX5_at_5 : decode cX5_at 5 = .ok (.aload_n 0, 1) := by decide +kernel
theorem dX5_at_6 : decode cX5_at 6 = .ok (.getfield 11, 3) := by decide +kernel
theorem dX5_at_9 : decode cX5_at 9 = .ok (.arraylength, 1) := by decide +kernel
theorem dX5_at_10 : decode cX5_at 10 = .ok (.if_icmp .ge 12, 3) := by decide +kernel
theorem dX5_at_13 : decode cX5_at 13 = .ok (.aload_n 0, 1) := by decide +kernel
theorem dX5_at_14 : decode cX5_at 14 = .ok (.getfield 11, 3) := by decide +kernel
theorem dX5_at_17 : decode cX5_at 17 = .ok (.iload_n 1, 1) := by decide +kernel
theorem dX5_at_18 : decode cX5_at 18 = .ok (.aaload, 1) := by decide +kernel
theorem dX5_at_19 : decode cX5_at 19 = .ok (.goto 4, 3) := by decide +kernel
theorem dX5_at_22 : decode cX5_at 22 = .ok (.aconst_null, 1) := by decide +kernel
theorem dX5_at_23 : decode cX5_at 23 = .ok (.areturn, 1) := by decide +kernel
theorem dX6_init_0 : decode cX6_init 0 = .ok (.aload_n 0, 1) := by decide +kernel
theorem dX6_init_1 : decode cX6_init 1 = .ok (.invokespecial 3, 3) := by decide +kernel
theorem dX6_init_4 : decode cX6_init 4 = .ok (.aload_n 0, 1) := by decide +kernel
theorem dX6_init_5 : decode cX6_init 5 = .ok (.sipush 400, 3) := by decide +kernel
theorem dX6_init_8 : decode cX6_init 8 = .ok (.newarray .boolean, 2) := by decide +kernel
theorem dX6_init_10 : decode cX6_init 10 = .ok (.putfield 9, 3) := by decide +kernel
theorem dX6_init_13 : decode cX6_init 13 = .ok (.return_, 1) := by decide +kernel
theorem dX6_fill_0 : decode cX6_fill 0 = .ok (.aload_n 0, 1) := by decide +kernel
theorem dX6_fill_1 : decode cX6_fill 1 = .ok (.aload_n 2, 1) := by decide +kernel
theorem dX6_fill_2 : decode cX6_fill 2 = .ok (.putfield 15, 3) := by decide +kernel
theorem dX6_fill_5 : decode cX6_fill 5 = .ok (.iconst 0, 1) := by decide +kernel
theorem dX6_fill_6 : decode cX6_fill 6 = .ok (.istore 5, 2) := by decide +kernel
theorem dX6_fill_8 : decode cX6_fill 8 = .ok (.iload 5, 2) := by decide +kernel
theorem dX6_fill_10 : decode cX6_fill 10 = .ok (.aload_n 1, 1) := by decide +kernel
theorem dX6_fill_11 : decode cX6_fill 11 = .ok (.getfield 19, 3) := by decide +kernel
theorem dX6_fill_14 : decode cX6_fill 14 = .ok (.if_icmp .ge 66, 3) := by decide +kernel
theorem dX6_fill_17 : decode cX6_fill 17 = .ok (.iload 5, 2) := by decide +kernel
theorem dX6_fill_19 : decode cX6_fill 19 = .ok (.aload_n 0, 1) := by decide +kernel
theorem dX6_fill_20 : decode cX6_fill 20 = .ok (.getfield 9, 3) := by decide +kernel
theorem dX6_fill_23 : decode cX6_fill 23 = .ok (.arraylength, 1) := by decide +kernel
theorem dX6_fill_24 : decode cX6_fill 24 = .ok (.if_icmp .ge 56, 3) := by decide +kernel
theorem dX6_fill_27 : decode cX6_fill 27 = .ok (.aload_n 1, 1) := by decide +kernel
theorem dX6_fill_28 : decode cX6_fill 28 = .ok (.iload 5, 2) := by decide +kernel
theorem dX6_fill_30 : decode cX6_fill 30 = .ok (.invokevirtual 25, 3) := by decide +kernel
theorem dX6_fill_33 : decode cX6_fill 33 = .ok (.astore 6, 2) := by decide +kernel
theorem dX6_fill_35 : decode cX6_fill 35 = .ok (.aload_n 0, 1) := by decide +kernel
theorem dX6_fill_36 : decode cX6_fill 36 = .ok (.getfield 9, 3) := by decide +kernel
theorem dX6_fill_39 : decode cX6_fill 39 = .ok (.iload 5, 2) := by decide +kernel
theorem dX6_fill_41 : decode cX6_fill 41 = .ok (.aload 6, 2) := by decide +kernel
theorem dX6_fill_43 : decode cX6_fill 43 = .ok (.ifnull 29, 3) := by decide +kernel
theorem dX6_fill_46 : decode cX6_fill 46 = .ok (.aload 6, 2) := by decide +kernel
theorem dX6_fill_48 : decode cX6_fill 48 = .ok (.iload_n 3, 1) := by decide +kernel
theorem dX6_fill_49 : decode cX6_fill 49 = .ok (.iload 4, 2) := by decide +kernel
theorem dX6_fill_51 : decode cX6_fill 51 = .ok (.invokevirtual 29, 3) := by decide +kernel
theorem dX6_fill_54 : decode cX6_fill 54 = .ok (.ifCond .eq 18, 3) := by decide +kernel
theorem dX6_fill_57 : decode cX6_fill 57 = .ok (.aload 6, 2) := by decide +kernel
theorem dX6_fill_59 : decode cX6_fill 59 = .ok (.aload_n 2, 1) := by decide +kernel
theorem dX6_fill_60 : decode cX6_fill 60 = .ok (.iload 4, 2) := by decide +kernel
theorem dX6_fill_62 : decode cX6_fill 62 = .ok (.invokevirtual 35, 3) := by decide +kernel
theorem dX6_fill_65 : decode cX6_fill 65 = .ok (.ifCond .eq 7, 3) := by decide +kernel
theorem dX6_fill_68 : decode cX6_fill 68 = .ok (.iconst 1, 1) := by decide +kernel
theorem dX6_fill_69 : decode cX6_fill 69 = .ok (.goto 4, 3) := by decide +kernel
theorem dX6_fill_72 : decode cX6_fill 72 = .ok (.iconst 0, 1) := by decide +kernel
theorem dX6_fill_73 : decode cX6_fill 73 = .ok (.bastore, 1) := by decide +kernel
theorem dX6_fill_74 : decode cX6_fill 74 = .ok (.iinc 5 1, 3) := by decide +kernel
theorem dX6_fill_77 : decode cX6_fill 77 = .ok (.goto (-69), 3) := by decide +kernel
theorem dX6_fill_80 : decode cX6_fill 80 = .ok (.return_, 1) := by decide +kernel
theorem dX6_hasPaper_0 : decode cX6_hasPaper 0 = .ok (.aload_n 1, 1) := by decide +kernel
theorem dX6_hasPaper_1 : decode cX6_hasPaper 1 = .ok (.ifnull 38, 3) := by decide +kernel
theorem dX6_hasPaper_4 : decode cX6_hasPaper 4 = .ok (.aload_n 1, 1) := by decide +kernel
theorem dX6_hasPaper_5 : decode cX6_hasPaper 5 = .ok (.getfield 39, 3) := by decide +kernel
theorem dX6_hasPaper_8 : decode cX6_hasPaper 8 = .ok (.ifCond .lt 31, 3) := by decide +kernel
theorem dX6_hasPaper_11 : decode cX6_hasPaper 11 = .ok (.aload_n 1, 1) := by decide +kernel
theorem dX6_hasPaper_12 : decode cX6_hasPaper 12 = .ok (.getfield 39, 3) := by decide +kernel
theorem dX6_hasPaper_15 : decode cX6_hasPaper 15 = .ok (.aload_n 0, 1) := by decide +kernel
theorem dX6_hasPaper_16 : decode cX6_hasPaper 16 = .ok (.getfield 9, 3) := by decide +kernel
theorem dX6_hasPaper_19 : decode cX6_hasPaper 19 = .ok (.arraylength, 1) := by decide +kernel
theorem dX6_hasPaper_20 : decode cX6_hasPaper 20 = .ok (.if_icmp .ge 19, 3) := by decide +kernel
theorem dX6_hasPaper_23 : decode cX6_hasPaper 23 = .ok (.aload_n 0, 1) := by decide +kernel
theorem dX6_hasPaper_24 : decode cX6_hasPaper 24 = .ok (.getfield 9, 3) := by decide +kernel
theorem dX6_hasPaper_27 : decode cX6_hasPaper 27 = .ok (.aload_n 1, 1) := by decide +kernel
theorem dX6_hasPaper_28 : decode cX6_hasPaper 28 = .ok (.getfield 39, 3) := by decide +kernel
theorem dX6_hasPaper_31 : decode cX6_hasPaper 31 = .ok (.baload, 1) := by decide +kernel
theorem dX6_hasPaper_32 : decode cX6_hasPaper 32 = .ok (.ifCond .eq 7, 3) := by decide +kernel
theorem dX6_hasPaper_35 : decode cX6_hasPaper 35 = .ok (.iconst 1, 1) := by decide +kernel
theorem dX6_hasPaper_36 : decode cX6_hasPaper 36 = .ok (.goto 4, 3) := by decide +kernel
theorem dX6_hasPaper_39 : decode cX6_hasPaper 39 = .ok (.iconst 0, 1) := by decide +kernel
theorem dX6_hasPaper_40 : decode cX6_hasPaper 40 = .ok (.ireturn, 1) := by decide +kernel
end
section
theorem dX6_hasReserve_0 : decode cX6_hasReserve 0 = .ok (.aload_n 1, 1) := by decide +kernel
theorem dX6_hasReserve_1 : decode cX6_hasReserve 1 = .ok (.getfield 42, 3) := by decide +kernel
theorem dX6_hasReserve_4 : decode cX6_hasReserve 4 = .ok (.iconst 3, 1) := by decide +kernel
theorem dX6_hasReserve_5 : decode cX6_hasReserve 5 = .ok (.if_icmp .ne 23, 3) := by decide +kernel
theorem dX6_hasReserve_8 : decode cX6_hasReserve 8 = .ok (.aload_n 1, 1) := by decide +kernel
theorem dX6_hasReserve_9 : decode cX6_hasReserve 9 = .ok (.getfield 45, 3) := by decide +kernel
theorem dX6_hasReserve_12 : decode cX6_hasReserve 12 = .ok (.iload_n 2, 1) := by decide +kernel
theorem dX6_hasReserve_13 : decode cX6_hasReserve 13 = .ok (.if_icmp .ne 15, 3) := by decide +kernel
theorem dX6_hasReserve_16 : decode cX6_hasReserve 16 = .ok (.aload_n 0, 1) := by decide +kernel
theorem dX6_hasReserve_17 : decode cX6_hasReserve 17 = .ok (.aload_n 1, 1) := by decide +kernel
theorem dX6_hasReserve_18 : decode cX6_hasReserve 18 = .ok (.invokevirtual 48, 3) := by decide +kernel
theorem dX6_hasReserve_21 : decode cX6_hasReserve 21 = .ok (.ifCond .eq 7, 3) := by decide +kernel
theorem dX6_hasReserve_24 : decode cX6_hasReserve 24 = .ok (.iconst 1, 1) := by decide +kernel
theorem dX6_hasReserve_25 : decode cX6_hasReserve 25 = .ok (.goto 4, 3) := by decide +kernel
theorem dX6_hasReserve_28 : decode cX6_hasReserve 28 = .ok (.iconst 0, 1) := by decide +kernel
theorem dX6_hasReserve_29 : decode cX6_hasReserve 29 = .ok (.ireturn, 1) := by decide +kernel
theorem dX6_leastAnswer_0 : decode cX6_leastAnswer 0 = .ok (.aconst_null, 1) := by decide +kernel
theorem dX6_leastAnswer_1 : decode cX6_leastAnswer 1 = .ok (.astore_n 3, 1) := by decide +kernel
theorem dX6_leastAnswer_2 : decode cX6_leastAnswer 2 = .ok (.aload_n 1, 1) := by decide +kernel
theorem dX6_leastAnswer_3 : decode cX6_leastAnswer 3 = .ok (.getfield 52, 3) := by decide +kernel
theorem dX6_leastAnswer_6 : decode cX6_leastAnswer 6 = .ok (.astore 4, 2) := by decide +kernel
theorem dX6_leastAnswer_8 : decode cX6_leastAnswer 8 = .ok (.aload 4, 2) := by decide +kernel
theorem dX6_leastAnswer_10 : decode cX6_leastAnswer 10 = .ok (.ifnull 34, 3) := by decide +kernel
theorem dX6_leastAnswer_13 : decode cX6_leastAnswer 13 = .ok (.aload 4, 2) := by decide +kernel
theorem dX6_leastAnswer_15 : decode cX6_leastAnswer 15 = .ok (.getfield 55, 3) := by decide +kernel
theorem dX6_leastAnswer_18 : decode cX6_leastAnswer 18 = .ok (.iload_n 2, 1) := by decide +kernel
theorem dX6_leastAnswer_19 : decode cX6_leastAnswer 19 = .ok (.if_icmp .ne 15, 3) := by decide +kernel
theorem dX6_leastAnswer_22 : decode cX6_leastAnswer 22 = .ok (.aload_n 0, 1) := by decide +kernel
theorem dX6_leastAnswer_23 : decode cX6_leastAnswer 23 = .ok (.aload 4, 2) := by decide +kernel
theorem dX6_leastAnswer_25 : decode cX6_leastAnswer 25 = .ok (.invokevirtual 48, 3) := by decide +kernel
theorem dX6_leastAnswer_28 : decode cX6_leastAnswer 28 = .ok (.ifCond .eq 6, 3) := by decide +kernel
theorem dX6_leastAnswer_31 : decode cX6_leastAnswer 31 = .ok (.aload 4, 2) := by decide +kernel
theorem dX6_leastAnswer_33 : decode cX6_leastAnswer 33 = .ok (.astore_n 3, 1) := by decide +kernel
theorem dX6_leastAnswer_34 : decode cX6_leastAnswer 34 = .ok (.aload 4, 2) := by decide +kernel
theorem dX6_leastAnswer_36 : decode cX6_leastAnswer 36 = .ok (.getfield 59, 3) := by decide +kernel
theorem dX6_leastAnswer_39 : decode cX6_leastAnswer 39 = .ok (.astore 4, 2) := by decide +kernel
theorem dX6_leastAnswer_41 : decode cX6_leastAnswer 41 = .ok (.goto (-33), 3) := by decide +kernel
theorem dX6_leastAnswer_44 : decode cX6_leastAnswer 44 = .ok (.aload_n 3, 1) := by decide +kernel
theorem dX6_leastAnswer_45 : decode cX6_leastAnswer 45 = .ok (.areturn, 1) := by decide +kernel
theorem dX7_init_0 : decode cX7_init 0 = .ok (.aload_n 0, 1) := by decide +kernel
theorem dX7_init_1 : decode cX7_init 1 = .ok (.invokespecial 1, 3) := by decide +kernel
theorem dX7_init_4 : decode cX7_init 4 = .ok (.aload_n 0, 1) := by decide +kernel
theorem dX7_init_5 : decode cX7_init 5 = .ok (.bipush 10, 2) := by decide +kernel
theorem dX7_init_7 : decode cX7_init 7 = .ok (.anewarray 9, 3) := by decide +kernel
theorem dX7_init_10 : decode cX7_init 10 = .ok (.putfield 11, 3) := by decide +kernel
theorem dX7_init_13 : decode cX7_init 13 = .ok (.aload_n 0, 1) := by decide +kernel
theorem dX7_init_14 : decode cX7_init 14 = .ok (.new 15, 3) := by decide +kernel
theorem dX7_init_17 : decode cX7_init 17 = .ok (.dup, 1) := by decide +kernel
theorem dX7_init_18 : decode cX7_init 18 = .ok (.invokespecial 17, 3) := by decide +kernel
theorem dX7_init_21 : decode cX7_init 21 = .ok (.putfield 18, 3) := by decide +kernel
theorem dX7_init_24 : decode cX7_init 24 = .ok (.aload_n 0, 1) := by decide +kernel
theorem dX7_init_25 : decode cX7_init 25 = .ok (.new 22, 3) := by decide +kernel
theorem dX7_init_28 : decode cX7_init 28 = .ok (.dup, 1) := by decide +kernel
theorem dX7_init_29 : decode cX7_init 29 = .ok (.invokespecial 24, 3) := by decide +kernel
theorem dX7_init_32 : decode cX7_init 32 = .ok (.putfield 25, 3) := by decide +kernel
theorem dX7_init_35 : decode cX7_init 35 = .ok (.aload_n 0, 1) := by decide +kernel
theorem dX7_init_36 : decode cX7_init 36 = .ok (.new 29, 3) := by decide +kernel
theorem dX7_init_39 : decode cX7_init 39 = .ok (.dup, 1) := by decide +kernel
theorem dX7_init_40 : decode cX7_init 40 = .ok (.invokespecial 31, 3) := by decide +kernel
theorem dX7_init_43 : decode cX7_init 43 = .ok (.putfield 32, 3) := by decide +kernel
theorem dX7_init_46 : decode cX7_init 46 = .ok (.return_, 1) := by decide +kernel
theorem dX7_party_0 : decode cX7_party 0 = .ok (.aload_n 0, 1) := by decide +kernel
theorem dX7_party_1 : decode cX7_party 1 = .ok (.getfield 36, 3) := by decide +kernel
theorem dX7_party_4 : decode cX7_party 4 = .ok (.bipush 30, 2) := by decide +kernel
theorem dX7_party_6 : decode cX7_party 6 = .ok (.if_icmp .lt 5, 3) := by decide +kernel
theorem dX7_party_9 : decode cX7_party 9 = .ok (.iconst (-1), 1) := by decide +kernel
theorem dX7_party_10 : decode cX7_party 10 = .ok (.ireturn, 1) := by decide +kernel
theorem dX7_party_11 : decode cX7_party 11 = .ok (.aload_n 0, 1) := by decide +kernel
theorem dX7_party_12 : decode cX7_party 12 = .ok (.dup, 1) := by decide +kernel
theorem dX7_party_13 : decode cX7_party 13 = .ok (.getfield 36, 3) := by decide +kernel
theorem dX7_party_16 : decode cX7_party 16 = .ok (.iconst 1, 1) := by decide +kernel
theorem dX7_party_17 : decode cX7_party 17 = .ok (.iadd, 1) := by decide +kernel
theorem dX7_party_18 : decode cX7_party 18 = .ok (.putfield 36, 3) := by decide +kernel
theorem dX7_party_21 : decode cX7_party 21 = .ok (.aload_n 0, 1) := by decide +kernel
theorem dX7_party_22 : decode cX7_party 22 = .ok (.getfield 36, 3) := by decide +kernel
theorem dX7_party_25 : decode cX7_party 25 = .ok (.iconst 1, 1) := by decide +kernel
theorem dX7_party_26 : decode cX7_party 26 = .ok (.isub, 1) := by decide +kernel
theorem dX7_party_27 : decode cX7_party 27 = .ok (.ireturn, 1) := by decide +kernel
theorem dX7_agreement_0 : decode cX7_agreement 0 = .ok (.aload_n 0, 1) := by decide +kernel
theorem dX7_agreement_1 : decode cX7_agreement 1 = .ok (.getfield 40, 3) := by decide +kernel
theorem dX7_agreement_4 : decode cX7_agreement 4 = .ok (.ifCond .lt 15, 3) := by decide +kernel
theorem dX7_agreement_7 : decode cX7_agreement 7 = .ok (.aload_n 0, 1) := by decide +kernel
theorem dX7_agreement_8 : decode cX7_agreement 8 = .ok (.getfield 40, 3) := by decide +kernel
theorem dX7_agreement_11 : decode cX7_agreement 11 = .ok (.aload_n 0, 1) := by decide +kernel
theorem dX7_agreement_12 : decode cX7_agreement 12 = .ok (.getfield 11, 3) := by decide +kernel
theorem dX7_agreement_15 : decode cX7_agreement 15 = .ok (.arraylength, 1) := by decide +kernel
theorem dX7_agreement_16 : decode cX7_agreement 16 = .ok (.if_icmp .lt 5, 3) := by decide +kernel
theorem dX7_agreement_19 : decode cX7_agreement 19 = .ok (.iconst (-1), 1) := by decide +kernel
theorem dX7_agreement_20 : decode cX7_agreement 20 = .ok (.ireturn, 1) := by decide +kernel
theorem dX7_agreement_21 : decode cX7_agreement 21 = .ok (.iconst 1, 1) := by decide +kernel
theorem dX7_agreement_22 : decode cX7_agreement 22 = .ok (.bipush 20, 2) := by decide +kernel
theorem dX7_agreement_24 : decode cX7_agreement 24 = .ok (.iload_n 1, 1) := by decide +kernel
theorem dX7_agreement_25 : decode cX7_agreement 25 = .ok (.invokestatic 43, 3) := by decide +kernel
theorem dX7_agreement_28 : decode cX7_agreement 28 = .ok (.ifCond .eq 13, 3) := by decide +kernel
theorem dX7_agreement_31 : decode cX7_agreement 31 = .ok (.iconst 1, 1) := by decide +kernel
theorem dX7_agreement_32 : decode cX7_agreement 32 = .ok (.bipush 10, 2) := by decide +kernel
theorem dX7_agreement_34 : decode cX7_agreement 34 = .ok (.iload_n 2, 1) := by decide +kernel
theorem dX7_agreement_35 : decode cX7_agreement 35 = .ok (.invokestatic 43, 3) := by decide +kernel
theorem dX7_agreement_38 : decode cX7_agreement 38 = .ok (.ifCond .ne 5, 3) := by decide +kernel
theorem dX7_agreement_41 : decode cX7_agreement 41 = .ok (.iconst (-1), 1) := by decide +kernel
theorem dX7_agreement_42 : decode cX7_agreement 42 = .ok (.ireturn, 1) := by decide +kernel
theorem dX7_agreement_43 : decode cX7_agreement 43 = .ok (.iconst 0, 1) := by decide +kernel
theorem dX7_agreement_44 : decode cX7_agreement 44 = .ok (.sipush 1000, 3) := by decide +kernel
theorem dX7_agreement_47 : decode cX7_agreement 47 = .ok (.iload_n 3, 1) := by decide +kernel
theorem dX7_agreement_48 : decode cX7_agreement 48 = .ok (.invokestatic 43, 3) := by decide +kernel
theorem dX7_agreement_51 : decode cX7_agreement 51 = .ok (.ifCond .eq 15, 3) := by decide +kernel
theorem dX7_agreement_54 : decode cX7_agreement 54 = .ok (.iconst 0, 1) := by decide +kernel
theorem dX7_agreement_55 : decode cX7_agreement 55 = .ok (.sipush 1000, 3) := by decide +kernel
theorem dX7_agreement_58 : decode cX7_agreement 58 = .ok (.iload 4, 2) := by decide +kernel
theorem dX7_agreement_60 : decode cX7_agreement 60 = .ok (.invokestatic 43, 3) := by decide +kernel
theorem dX7_agreement_63 : decode cX7_agreement 63 = .ok (.ifCond .ne 5, 3) := by decide +kernel
theorem dX7_agreement_66 : decode cX7_agreement 66 = .ok (.iconst (-1), 1) := by decide +kernel
theorem dX7_agreement_67 : decode cX7_agreement 67 = .ok (.ireturn, 1) := by decide +kernel
theorem dX7_agreement_68 : decode cX7_agreement 68 = .ok (.aload_n 0, 1) := by decide +kernel
theorem dX7_agreement_69 : decode cX7_agreement 69 = .ok (.getfield 11, 3) := by decide +kernel
theorem dX7_agreement_72 : decode cX7_agreement 72 = .ok (.aload_n 0, 1) := by decide +kernel
theorem dX7_agreement_73 : decode cX7_agreement 73 = .ok (.getfield 40, 3) := by decide +kernel
theorem dX7_agreement_76 : decode cX7_agreement 76 = .ok (.new 9, 3) := by decide +kernel
theorem dX7_agreement_79 : decode cX7_agreement 79 = .ok (.dup, 1) := by decide +kernel
theorem dX7_agreement_80 : decode cX7_agreement 80 = .ok (.aload_n 0, 1) := by decide +kernel
theorem dX7_agreement_81 : decode cX7_agreement 81 = .ok (.getfield 40, 3) := by decide +kernel
theorem dX7_agreement_84 : decode cX7_agreement 84 = .ok (.iload_n 1, 1) := by decide +kernel
theorem dX7_agreement_85 : decode cX7_agreement 85 = .ok (.iload_n 2, 1) := by decide +kernel
theorem dX7_agreement_86 : decode cX7_agreement 86 = .ok (.iload_n 3, 1) := by decide +kernel
theorem dX7_agreement_87 : decode cX7_agreement 87 = .ok (.iload 4, 2) := by decide +kernel
theorem dX7_agreement_89 : decode cX7_agreement 89 = .ok (.invokespecial 47, 3) := by decide +kernel
theorem dX7_agreement_92 : decode cX7_agreement 92 = .ok (.aastore, 1) := by decide +kernel
theorem dX7_agreement_93 : decode cX7_agreement 93 = .ok (.aload_n 0, 1) := by decide +kernel
theorem dX7_agreement_94 : decode cX7_agreement 94 = .ok (.dup, 1) := by decide +kernel
theorem dX7_agreement_95 : decode cX7_agreement 95 = .ok (.getfield 40, 3) := by decide +kernel
theorem dX7_agreement_98 : decode cX7_agreement 98 = .ok (.iconst 1, 1) := by decide +kernel
theorem dX7_agreement_99 : decode cX7_agreement 99 = .ok (.iadd, 1) := by decide +kernel
theorem dX7_agreement_100 : decode cX7_agreement 100 = .ok (.putfield 40, 3) := by decide +kernel
theorem dX7_agreement_103 : decode cX7_agreement 103 = .ok (.aload_n 0, 1) := by decide +kernel
theorem dX7_agreement_104 : decode cX7_agreement 104 = .ok (.getfield 40, 3) := by decide +kernel
theorem dX7_agreement_107 : decode cX7_agreement 107 = .ok (.iconst 1, 1) := by decide +kernel
theorem dX7_agreement_108 : decode cX7_agreement 108 = .ok (.isub, 1) := by decide +kernel
theorem dX7_agreement_109 : decode cX7_agreement 109 = .ok (.ireturn, 1) := by decide +kernel
theorem dX7_article_0 : decode cX7_article 0 = .ok (.aload_n 0, 1) := by decide +kernel
theorem dX7_article_1 : decode cX7_article 1 = .ok (.iload_n 1, 1) := by decide +kernel
theorem dX7_article_2 : decode cX7_article 2 = .ok (.invokevirtual 50, 3) := by decide +kernel
theorem dX7_article_5 : decode cX7_article 5 = .ok (.astore 4, 2) := by decide +kernel
theorem dX7_article_7 : decode cX7_article 7 = .ok (.aload 4, 2) := by decide +kernel
theorem dX7_article_9 : decode cX7_article 9 = .ok (.ifnull 22, 3) := by decide +kernel
theorem dX7_article_12 : decode cX7_article 12 = .ok (.aload 4, 2) := by decide +kernel
theorem dX7_article_14 : decode cX7_article 14 = .ok (.iload_n 2, 1) := by decide +kernel
theorem dX7_article_15 : decode cX7_article 15 = .ok (.invokevirtual 54, 3) := by decide +kernel
theorem dX7_article_18 : decode cX7_article 18 = .ok (.ifCond .eq 13, 3) := by decide +kernel
theorem dX7_article_21 : decode cX7_article 21 = .ok (.iconst 1, 1) := by decide +kernel
theorem dX7_article_22 : decode cX7_article 22 = .ok (.ldc 58, 2) := by decide +kernel
theorem dX7_article_24 : decode cX7_article 24 = .ok (.iload_n 3, 1) := by decide +kernel
theorem dX7_article_25 : decode cX7_article 25 = .ok (.invokestatic 43, 3) := by decide +kernel
theorem dX7_article_28 : decode cX7_article 28 = .ok (.ifCond .ne 5, 3) := by decide +kernel
theorem dX7_article_31 : decode cX7_article 31 = .ok (.iconst (-1), 1) := by decide +kernel
theorem dX7_article_32 : decode cX7_article 32 = .ok (.ireturn, 1) := by decide +kernel
theorem dX7_article_33 : decode cX7_article 33 = .ok (.aload_n 0, 1) := by decide +kernel
theorem dX7_article_34 : decode cX7_article 34 = .ok (.getfield 18, 3) := by decide +kernel
theorem dX7_article_37 : decode cX7_article 37 = .ok (.aload 4, 2) := by decide +kernel
theorem dX7_article_39 : decode cX7_article 39 = .ok (.invokevirtual 59, 3) := by decide +kernel
theorem dX7_article_42 : decode cX7_article 42 = .ok (.ifCond .eq 5, 3) := by decide +kernel
theorem dX7_article_45 : decode cX7_article 45 = .ok (.iconst (-1), 1) := by decide +kernel
theorem dX7_article_46 : decode cX7_article 46 = .ok (.ireturn, 1) := by decide +kernel
theorem dX7_article_47 : decode cX7_article 47 = .ok (.aload 4, 2) := by decide +kernel
theorem dX7_article_49 : decode cX7_article 49 = .ok (.iload_n 2, 1) := by decide +kernel
theorem dX7_article_50 : decode cX7_article 50 = .ok (.iload_n 3, 1) := by decide +kernel
theorem dX7_article_51 : decode cX7_article 51 = .ok (.invokevirtual 63, 3) := by decide +kernel
theorem dX7_article_54 : decode cX7_article 54 = .ok (.ireturn, 1) := by decide +kernel
theorem dX7_clock_0 : decode cX7_clock 0 = .ok (.iload_n 1, 1) := by decide +kernel
theorem dX7_clock_1 : decode cX7_clock 1 = .ok (.aload_n 0, 1) := by decide +kernel
theorem dX7_clock_2 : decode cX7_clock 2 = .ok (.getfield 67, 3) := by decide +kernel
theorem dX7_clock_5 : decode cX7_clock 5 = .ok (.if_icmp .lt 9, 3) := by decide +kernel
theorem dX7_clock_8 : decode cX7_clock 8 = .ok (.iload_n 1, 1) := by decide +kernel
theorem dX7_clock_9 : decode cX7_clock 9 = .ok (.ldc 70, 2) := by decide +kernel
theorem dX7_clock_11 : decode cX7_clock 11 = .ok (.if_icmp .le 5, 3) := by decide +kernel
theorem dX7_clock_14 : decode cX7_clock 14 = .ok (.iconst 0, 1) := by decide +kernel
theorem dX7_clock_15 : decode cX7_clock 15 = .ok (.ireturn, 1) := by decide +kernel
theorem dX7_clock_16 : decode cX7_clock 16 = .ok (.aload_n 0, 1) := by decide +kernel
theorem dX7_clock_17 : decode cX7_clock 17 = .ok (.iload_n 1, 1) := by decide +kernel
theorem dX7_clock_18 : decode cX7_clock 18 = .ok (.putfield 67, 3) := by decide +kernel
theorem dX7_clock_21 : decode cX7_clock 21 = .ok (.iconst 1, 1) := by decide +kernel
theorem dX7_clock_22 : decode cX7_clock 22 = .ok (.ireturn, 1) := by decide +kernel
theorem dX7_sign_0 : decode cX7_sign 0 = .ok (.aload_n 0, 1) := by decide +kernel
theorem dX7_sign_1 : decode cX7_sign 1 = .ok (.iload_n 2, 1) := by decide +kernel
theorem dX7_sign_2 : decode cX7_sign 2 = .ok (.invokevirtual 50, 3) := by decide +kernel
theorem dX7_sign_5 : decode cX7_sign 5 = .ok (.astore_n 3, 1) := by decide +kernel
theorem dX7_sign_6 : decode cX7_sign 6 = .ok (.aload_n 0, 1) := by decide +kernel
theorem dX7_sign_7 : decode cX7_sign 7 = .ok (.iload_n 1, 1) := by decide +kernel
theorem dX7_sign_8 : decode cX7_sign 8 = .ok (.invokevirtual 71, 3) := by decide +kernel
theorem dX7_sign_11 : decode cX7_sign 11 = .ok (.ifCond .eq 7, 3) := by decide +kernel
theorem dX7_sign_14 : decode cX7_sign 14 = .ok (.aload_n 3, 1) := by decide +kernel
theorem dX7_sign_15 : decode cX7_sign 15 = .ok (.ifnonnull 6, 3) := by decide +kernel
theorem dX7_sign_18 : decode cX7_sign 18 = .ok (.bipush (-2), 2) := by decide +kernel
theorem dX7_sign_20 : decode cX7_sign 20 = .ok (.ireturn, 1) := by decide +kernel
theorem dX7_sign_21 : decode cX7_sign 21 = .ok (.aload_n 0, 1) := by decide +kernel
theorem dX7_sign_22 : decode cX7_sign 22 = .ok (.getfield 18, 3) := by decide +kernel
theorem dX7_sign_25 : decode cX7_sign 25 = .ok (.invokevirtual 74, 3) := by decide +kernel
theorem dX7_sign_28 : decode cX7_sign 28 = .ok (.ifCond .eq 6, 3) := by decide +kernel
theorem dX7_sign_31 : decode cX7_sign 31 = .ok (.bipush (-8), 2) := by decide +kernel
theorem dX7_sign_33 : decode cX7_sign 33 = .ok (.ireturn, 1) := by decide +kernel
theorem dX7_sign_34 : decode cX7_sign 34 = .ok (.aload_n 0, 1) := by decide +kernel
theorem dX7_sign_35 : decode cX7_sign 35 = .ok (.getfield 18, 3) := by decide +kernel
theorem dX7_sign_38 : decode cX7_sign 38 = .ok (.iload_n 1, 1) := by decide +kernel
theorem dX7_sign_39 : decode cX7_sign 39 = .ok (.aload_n 3, 1) := by decide +kernel
theorem dX7_sign_40 : decode cX7_sign 40 = .ok (.invokevirtual 78, 3) := by decide +kernel
theorem dX7_sign_43 : decode cX7_sign 43 = .ok (.ifCond .eq 6, 3) := by decide +kernel
theorem dX7_sign_46 : decode cX7_sign 46 = .ok (.bipush (-4), 2) := by decide +kernel
theorem dX7_sign_48 : decode cX7_sign 48 = .ok (.ireturn, 1) := by decide +kernel
theorem dX7_sign_49 : decode cX7_sign 49 = .ok (.aload_n 0, 1) := by decide +kernel
theorem dX7_sign_50 : decode cX7_sign 50 = .ok (.getfield 18, 3) := by decide +kernel
theorem dX7_sign_53 : decode cX7_sign 53 = .ok (.iconst 0, 1) := by decide +kernel
theorem dX7_sign_54 : decode cX7_sign 54 = .ok (.iload_n 1, 1) := by decide +kernel
theorem dX7_sign_55 : decode cX7_sign 55 = .ok (.aload_n 3, 1) := by decide +kernel
theorem dX7_sign_56 : decode cX7_sign 56 = .ok (.aload_n 0, 1) := by decide +kernel
theorem dX7_sign_57 : decode cX7_sign 57 = .ok (.getfield 67, 3) := by decide +kernel
theorem dX7_sign_60 : decode cX7_sign 60 = .ok (.aload_n 0, 1) := by decide +kernel
theorem dX7_sign_61 : decode cX7_sign 61 = .ok (.getfield 67, 3) := by decide +kernel
theorem dX7_sign_64 : decode cX7_sign 64 = .ok (.invokevirtual 82, 3) := by decide +kernel
theorem dX7_sign_67 : decode cX7_sign 67 = .ok (.getfield 86, 3) := by decide +kernel
theorem dX7_sign_70 : decode cX7_sign 70 = .ok (.ireturn, 1) := by decide +kernel
theorem dX7_ratify_0 : decode cX7_ratify 0 = .ok (.aload_n 0, 1) := by decide +kernel
theorem dX7_ratify_1 : decode cX7_ratify 1 = .ok (.iload_n 2, 1) := by decide +kernel
theorem dX7_ratify_2 : decode cX7_ratify 2 = .ok (.invokevirtual 50, 3) := by decide +kernel
theorem dX7_ratify_5 : decode cX7_ratify 5 = .ok (.astore_n 3, 1) := by decide +kernel
theorem dX7_ratify_6 : decode cX7_ratify 6 = .ok (.aload_n 0, 1) := by decide +kernel
theorem dX7_ratify_7 : decode cX7_ratify 7 = .ok (.iload_n 1, 1) := by decide +kernel
theorem dX7_ratify_8 : decode cX7_ratify 8 = .ok (.invokevirtual 71, 3) := by decide +kernel
theorem dX7_ratify_11 : decode cX7_ratify 11 = .ok (.ifCond .eq 7, 3) := by decide +kernel
theorem dX7_ratify_14 : decode cX7_ratify 14 = .ok (.aload_n 3, 1) := by decide +kernel
theorem dX7_ratify_15 : decode cX7_ratify 15 = .ok (.ifnonnull 6, 3) := by decide +kernel
theorem dX7_ratify_18 : decode cX7_ratify 18 = .ok (.bipush (-2), 2) := by decide +kernel
theorem dX7_ratify_20 : decode cX7_ratify 20 = .ok (.ireturn, 1) := by decide +kernel
theorem dX7_ratify_21 : decode cX7_ratify 21 = .ok (.aload_n 0, 1) := by decide +kernel
theorem dX7_ratify_22 : decode cX7_ratify 22 = .ok (.getfield 18, 3) := by decide +kernel
theorem dX7_ratify_25 : decode cX7_ratify 25 = .ok (.invokevirtual 74, 3) := by decide +kernel
theorem dX7_ratify_28 : decode cX7_ratify 28 = .ok (.ifCond .eq 6, 3) := by decide +kernel
theorem dX7_ratify_31 : decode cX7_ratify 31 = .ok (.bipush (-8), 2) := by decide +kernel
theorem dX7_ratify_33 : decode cX7_ratify 33 = .ok (.ireturn, 1) := by decide +kernel
theorem dX7_ratify_34 : decode cX7_ratify 34 = .ok (.aload_n 0, 1) := by decide +kernel
theorem dX7_ratify_35 : decode cX7_ratify 35 = .ok (.getfield 18, 3) := by decide +kernel
theorem dX7_ratify_38 : decode cX7_ratify 38 = .ok (.iload_n 1, 1) := by decide +kernel
theorem dX7_ratify_39 : decode cX7_ratify 39 = .ok (.aload_n 3, 1) := by decide +kernel
theorem dX7_ratify_40 : decode cX7_ratify 40 = .ok (.invokevirtual 78, 3) := by decide +kernel
theorem dX7_ratify_43 : decode cX7_ratify 43 = .ok (.ifCond .ne 6, 3) := by decide +kernel
theorem dX7_ratify_46 : decode cX7_ratify 46 = .ok (.bipush (-5), 2) := by decide +kernel
theorem dX7_ratify_48 : decode cX7_ratify 48 = .ok (.ireturn, 1) := by decide +kernel
theorem dX7_ratify_49 : decode cX7_ratify 49 = .ok (.aload_n 0, 1) := by decide +kernel
theorem dX7_ratify_50 : decode cX7_ratify 50 = .ok (.getfield 18, 3) := by decide +kernel
theorem dX7_ratify_53 : decode cX7_ratify 53 = .ok (.iload_n 1, 1) := by decide +kernel
theorem dX7_ratify_54 : decode cX7_ratify 54 = .ok (.aload_n 3, 1) := by decide +kernel
theorem dX7_ratify_55 : decode cX7_ratify 55 = .ok (.invokevirtual 91, 3) := by decide +kernel
theorem dX7_ratify_58 : decode cX7_ratify 58 = .ok (.ifnull 6, 3) := by decide +kernel
theorem dX7_ratify_61 : decode cX7_ratify 61 = .ok (.bipush (-4), 2) := by decide +kernel
theorem dX7_ratify_63 : decode cX7_ratify 63 = .ok (.ireturn, 1) := by decide +kernel
theorem dX7_ratify_64 : decode cX7_ratify 64 = .ok (.aload_n 0, 1) := by decide +kernel
theorem dX7_ratify_65 : decode cX7_ratify 65 = .ok (.getfield 18, 3) := by decide +kernel
theorem dX7_ratify_68 : decode cX7_ratify 68 = .ok (.iconst 1, 1) := by decide +kernel
theorem dX7_ratify_69 : decode cX7_ratify 69 = .ok (.iload_n 1, 1) := by decide +kernel
theorem dX7_ratify_70 : decode cX7_ratify 70 = .ok (.aload_n 3, 1) := by decide +kernel
theorem dX7_ratify_71 : decode cX7_ratify 71 = .ok (.aload_n 0, 1) := by decide +kernel
theorem dX7_ratify_72 : decode cX7_ratify 72 = .ok (.getfield 67, 3) := by decide +kernel
theorem dX7_ratify_75 : decode cX7_ratify 75 = .ok (.aload_n 0, 1) := by decide +kernel
theorem dX7_ratify_76 : decode cX7_ratify 76 = .ok (.getfield 67, 3) := by decide +kernel
theorem dX7_ratify_79 : decode cX7_ratify 79 = .ok (.aload_n 3, 1) := by decide +kernel
theorem dX7_ratify_80 : decode cX7_ratify 80 = .ok (.getfield 95, 3) := by decide +kernel
theorem dX7_ratify_83 : decode cX7_ratify 83 = .ok (.iadd, 1) := by decide +kernel
theorem dX7_ratify_84 : decode cX7_ratify 84 = .ok (.invokevirtual 82, 3) := by decide +kernel
theorem dX7_ratify_87 : decode cX7_ratify 87 = .ok (.getfield 86, 3) := by decide +kernel
theorem dX7_ratify_90 : decode cX7_ratify 90 = .ok (.ireturn, 1) := by decide +kernel
theorem dX7_join_0 : decode cX7_join 0 = .ok (.aload_n 0, 1) := by decide +kernel
theorem dX7_join_1 : decode cX7_join 1 = .ok (.iload_n 2, 1) := by decide +kernel
theorem dX7_join_2 : decode cX7_join 2 = .ok (.invokevirtual 50, 3) := by decide +kernel
theorem dX7_join_5 : decode cX7_join 5 = .ok (.astore_n 3, 1) := by decide +kernel
theorem dX7_join_6 : decode cX7_join 6 = .ok (.aload_n 0, 1) := by decide +kernel
theorem dX7_join_7 : decode cX7_join 7 = .ok (.iload_n 1, 1) := by decide +kernel
theorem dX7_join_8 : decode cX7_join 8 = .ok (.invokevirtual 71, 3) := by decide +kernel
theorem dX7_join_11 : decode cX7_join 11 = .ok (.ifCond .eq 7, 3) := by decide +kernel
theorem dX7_join_14 : decode cX7_join 14 = .ok (.aload_n 3, 1) := by decide +kernel
theorem dX7_join_15 : decode cX7_join 15 = .ok (.ifnonnull 6, 3) := by decide +kernel
theorem dX7_join_18 : decode cX7_join 18 = .ok (.bipush (-2), 2) := by decide +kernel
theorem dX7_join_20 : decode cX7_join 20 = .ok (.ireturn, 1) := by decide +kernel
theorem dX7_join_21 : decode cX7_join 21 = .ok (.aload_n 0, 1) := by decide +kernel
theorem dX7_join_22 : decode cX7_join 22 = .ok (.getfield 18, 3) := by decide +kernel
theorem dX7_join_25 : decode cX7_join 25 = .ok (.invokevirtual 74, 3) := by decide +kernel
theorem dX7_join_28 : decode cX7_join 28 = .ok (.ifCond .eq 6, 3) := by decide +kernel
theorem dX7_join_31 : decode cX7_join 31 = .ok (.bipush (-8), 2) := by decide +kernel
theorem dX7_join_33 : decode cX7_join 33 = .ok (.ireturn, 1) := by decide +kernel
theorem dX7_join_34 : decode cX7_join 34 = .ok (.aload_n 0, 1) := by decide +kernel
theorem dX7_join_35 : decode cX7_join 35 = .ok (.getfield 18, 3) := by decide +kernel
theorem dX7_join_38 : decode cX7_join 38 = .ok (.iload_n 1, 1) := by decide +kernel
theorem dX7_join_39 : decode cX7_join 39 = .ok (.aload_n 3, 1) := by decide +kernel
theorem dX7_join_40 : decode cX7_join 40 = .ok (.invokevirtual 91, 3) := by decide +kernel
theorem dX7_join_43 : decode cX7_join 43 = .ok (.ifnull 6, 3) := by decide +kernel
theorem dX7_join_46 : decode cX7_join 46 = .ok (.bipush (-4), 2) := by decide +kernel
theorem dX7_join_48 : decode cX7_join 48 = .ok (.ireturn, 1) := by decide +kernel
theorem dX7_join_49 : decode cX7_join 49 = .ok (.aload_n 0, 1) := by decide +kernel
theorem dX7_join_50 : decode cX7_join 50 = .ok (.getfield 18, 3) := by decide +kernel
theorem dX7_join_53 : decode cX7_join 53 = .ok (.iconst 2, 1) := by decide +kernel
theorem dX7_join_54 : decode cX7_join 54 = .ok (.iload_n 1, 1) := by decide +kernel
theorem dX7_join_55 : decode cX7_join 55 = .ok (.aload_n 3, 1) := by decide +kernel
theorem dX7_join_56 : decode cX7_join 56 = .ok (.aload_n 0, 1) := by decide +kernel
theorem dX7_join_57 : decode cX7_join 57 = .ok (.getfield 67, 3) := by decide +kernel
theorem dX7_join_60 : decode cX7_join 60 = .ok (.aload_n 0, 1) := by decide +kernel
theorem dX7_join_61 : decode cX7_join 61 = .ok (.getfield 67, 3) := by decide +kernel
theorem dX7_join_64 : decode cX7_join 64 = .ok (.aload_n 3, 1) := by decide +kernel
theorem dX7_join_65 : decode cX7_join 65 = .ok (.getfield 95, 3) := by decide +kernel
theorem dX7_join_68 : decode cX7_join 68 = .ok (.iadd, 1) := by decide +kernel
theorem dX7_join_69 : decode cX7_join 69 = .ok (.invokevirtual 82, 3) := by decide +kernel
theorem dX7_join_72 : decode cX7_join 72 = .ok (.getfield 86, 3) := by decide +kernel
theorem dX7_join_75 : decode cX7_join 75 = .ok (.ireturn, 1) := by decide +kernel
theorem dX7_reserve_0 : decode cX7_reserve 0 = .ok (.aload_n 0, 1) := by decide +kernel
theorem dX7_reserve_1 : decode cX7_reserve 1 = .ok (.iload_n 2, 1) := by decide +kernel
theorem dX7_reserve_2 : decode cX7_reserve 2 = .ok (.invokevirtual 50, 3) := by decide +kernel
theorem dX7_reserve_5 : decode cX7_reserve 5 = .ok (.astore 5, 2) := by decide +kernel
theorem dX7_reserve_7 : decode cX7_reserve 7 = .ok (.aload_n 0, 1) := by decide +kernel
theorem dX7_reserve_8 : decode cX7_reserve 8 = .ok (.iload_n 1, 1) := by decide +kernel
theorem dX7_reserve_9 : decode cX7_reserve 9 = .ok (.invokevirtual 71, 3) := by decide +kernel
theorem dX7_reserve_12 : decode cX7_reserve 12 = .ok (.ifCond .eq 28, 3) := by decide +kernel
theorem dX7_reserve_15 : decode cX7_reserve 15 = .ok (.aload 5, 2) := by decide +kernel
theorem dX7_reserve_17 : decode cX7_reserve 17 = .ok (.ifnull 23, 3) := by decide +kernel
theorem dX7_reserve_20 : decode cX7_reserve 20 = .ok (.aload 5, 2) := by decide +kernel
theorem dX7_reserve_22 : decode cX7_reserve 22 = .ok (.iload_n 3, 1) := by decide +kernel
theorem dX7_reserve_23 : decode cX7_reserve 23 = .ok (.invokevirtual 54, 3) := by decide +kernel
theorem dX7_reserve_26 : decode cX7_reserve 26 = .ok (.ifCond .eq 14, 3) := by decide +kernel
theorem dX7_reserve_29 : decode cX7_reserve 29 = .ok (.iconst 0, 1) := by decide +kernel
theorem dX7_reserve_30 : decode cX7_reserve 30 = .ok (.ldc 58, 2) := by decide +kernel
theorem dX7_reserve_32 : decode cX7_reserve 32 = .ok (.iload 4, 2) := by decide +kernel
theorem dX7_reserve_34 : decode cX7_reserve 34 = .ok (.invokestatic 43, 3) := by decide +kernel
theorem dX7_reserve_37 : decode cX7_reserve 37 = .ok (.ifCond .ne 6, 3) := by decide +kernel
theorem dX7_reserve_40 : decode cX7_reserve 40 = .ok (.bipush (-2), 2) := by decide +kernel
theorem dX7_reserve_42 : decode cX7_reserve 42 = .ok (.ireturn, 1) := by decide +kernel
theorem dX7_reserve_43 : decode cX7_reserve 43 = .ok (.aload_n 0, 1) := by decide +kernel
theorem dX7_reserve_44 : decode cX7_reserve 44 = .ok (.getfield 18, 3) := by decide +kernel
theorem dX7_reserve_47 : decode cX7_reserve 47 = .ok (.invokevirtual 74, 3) := by decide +kernel
theorem dX7_reserve_50 : decode cX7_reserve 50 = .ok (.ifCond .eq 6, 3) := by decide +kernel
theorem dX7_reserve_53 : decode cX7_reserve 53 = .ok (.bipush (-8), 2) := by decide +kernel
theorem dX7_reserve_55 : decode cX7_reserve 55 = .ok (.ireturn, 1) := by decide +kernel
theorem dX7_reserve_56 : decode cX7_reserve 56 = .ok (.aload_n 0, 1) := by decide +kernel
theorem dX7_reserve_57 : decode cX7_reserve 57 = .ok (.getfield 18, 3) := by decide +kernel
theorem dX7_reserve_60 : decode cX7_reserve 60 = .ok (.iload_n 1, 1) := by decide +kernel
theorem dX7_reserve_61 : decode cX7_reserve 61 = .ok (.aload 5, 2) := by decide +kernel
theorem dX7_reserve_63 : decode cX7_reserve 63 = .ok (.invokevirtual 91, 3) := by decide +kernel
theorem dX7_reserve_66 : decode cX7_reserve 66 = .ok (.astore 6, 2) := by decide +kernel
theorem dX7_reserve_68 : decode cX7_reserve 68 = .ok (.aload 6, 2) := by decide +kernel
theorem dX7_reserve_70 : decode cX7_reserve 70 = .ok (.ifnonnull 6, 3) := by decide +kernel
theorem dX7_reserve_73 : decode cX7_reserve 73 = .ok (.bipush (-6), 2) := by decide +kernel
theorem dX7_reserve_75 : decode cX7_reserve 75 = .ok (.ireturn, 1) := by decide +kernel
theorem dX7_reserve_76 : decode cX7_reserve 76 = .ok (.aload_n 0, 1) := by decide +kernel
theorem dX7_reserve_77 : decode cX7_reserve 77 = .ok (.getfield 18, 3) := by decide +kernel
theorem dX7_reserve_80 : decode cX7_reserve 80 = .ok (.iconst 3, 1) := by decide +kernel
theorem dX7_reserve_81 : decode cX7_reserve 81 = .ok (.iload_n 1, 1) := by decide +kernel
theorem dX7_reserve_82 : decode cX7_reserve 82 = .ok (.aload 5, 2) := by decide +kernel
theorem dX7_reserve_84 : decode cX7_reserve 84 = .ok (.aload_n 0, 1) := by decide +kernel
theorem dX7_reserve_85 : decode cX7_reserve 85 = .ok (.getfield 67, 3) := by decide +kernel
theorem dX7_reserve_88 : decode cX7_reserve 88 = .ok (.aload_n 0, 1) := by decide +kernel
theorem dX7_reserve_89 : decode cX7_reserve 89 = .ok (.getfield 67, 3) := by decide +kernel
theorem dX7_reserve_92 : decode cX7_reserve 92 = .ok (.aload 5, 2) := by decide +kernel
theorem dX7_reserve_94 : decode cX7_reserve 94 = .ok (.getfield 95, 3) := by decide +kernel
theorem dX7_reserve_97 : decode cX7_reserve 97 = .ok (.iadd, 1) := by decide +kernel
theorem dX7_reserve_98 : decode cX7_reserve 98 = .ok (.invokevirtual 82, 3) := by decide +kernel
theorem dX7_reserve_101 : decode cX7_reserve 101 = .ok (.astore 7, 2) := by decide +kernel
theorem dX7_reserve_103 : decode cX7_reserve 103 = .ok (.aload 7, 2) := by decide +kernel
theorem dX7_reserve_105 : decode cX7_reserve 105 = .ok (.aload 6, 2) := by decide +kernel
theorem dX7_reserve_107 : decode cX7_reserve 107 = .ok (.putfield 98, 3) := by decide +kernel
theorem dX7_reserve_110 : decode cX7_reserve 110 = .ok (.aload 7, 2) := by decide +kernel
theorem dX7_reserve_112 : decode cX7_reserve 112 = .ok (.iload_n 3, 1) := by decide +kernel
theorem dX7_reserve_113 : decode cX7_reserve 113 = .ok (.putfield 102, 3) := by decide +kernel
theorem dX7_reserve_116 : decode cX7_reserve 116 = .ok (.aload 7, 2) := by decide +kernel
theorem dX7_reserve_118 : decode cX7_reserve 118 = .ok (.iload 4, 2) := by decide +kernel
theorem dX7_reserve_120 : decode cX7_reserve 120 = .ok (.putfield 105, 3) := by decide +kernel
theorem dX7_reserve_123 : decode cX7_reserve 123 = .ok (.aload 7, 2) := by decide +kernel
theorem dX7_reserve_125 : decode cX7_reserve 125 = .ok (.getfield 86, 3) := by decide +kernel
theorem dX7_reserve_128 : decode cX7_reserve 128 = .ok (.ireturn, 1) := by decide +kernel
theorem dX7_object_0 : decode cX7_object 0 = .ok (.aload_n 0, 1) := by decide +kernel
theorem dX7_object_1 : decode cX7_object 1 = .ok (.getfield 18, 3) := by decide +kernel
theorem dX7_object_4 : decode cX7_object 4 = .ok (.iload_n 2, 1) := by decide +kernel
theorem dX7_object_5 : decode cX7_object 5 = .ok (.invokevirtual 108, 3) := by decide +kernel
theorem dX7_object_8 : decode cX7_object 8 = .ok (.astore 4, 2) := by decide +kernel
theorem dX7_object_10 : decode cX7_object 10 = .ok (.aload_n 0, 1) := by decide +kernel
theorem dX7_object_11 : decode cX7_object 11 = .ok (.iload_n 1, 1) := by decide +kernel
theorem dX7_object_12 : decode cX7_object 12 = .ok (.invokevirtual 71, 3) := by decide +kernel
theorem dX7_object_15 : decode cX7_object 15 = .ok (.ifCond .eq 25, 3) := by decide +kernel
theorem dX7_object_18 : decode cX7_object 18 = .ok (.aload 4, 2) := by decide +kernel
theorem dX7_object_20 : decode cX7_object 20 = .ok (.ifnull 20, 3) := by decide +kernel
theorem dX7_object_23 : decode cX7_object 23 = .ok (.aload 4, 2) := by decide +kernel
theorem dX7_object_25 : decode cX7_object 25 = .ok (.getfield 112, 3) := by decide +kernel
theorem dX7_object_28 : decode cX7_object 28 = .ok (.iconst 3, 1) := by decide +kernel
theorem dX7_object_29 : decode cX7_object 29 = .ok (.if_icmp .ne 11, 3) := by decide +kernel
theorem dX7_object_32 : decode cX7_object 32 = .ok (.aload 4, 2) := by decide +kernel
theorem dX7_object_34 : decode cX7_object 34 = .ok (.getfield 115, 3) := by decide +kernel
theorem dX7_object_37 : decode cX7_object 37 = .ok (.ifnonnull 6, 3) := by decide +kernel
theorem dX7_object_40 : decode cX7_object 40 = .ok (.bipush (-2), 2) := by decide +kernel
theorem dX7_object_42 : decode cX7_object 42 = .ok (.ireturn, 1) := by decide +kernel
theorem dX7_object_43 : decode cX7_object 43 = .ok (.aload_n 0, 1) := by decide +kernel
theorem dX7_object_44 : decode cX7_object 44 = .ok (.getfield 18, 3) := by decide +kernel
theorem dX7_object_47 : decode cX7_object 47 = .ok (.invokevirtual 74, 3) := by decide +kernel
theorem dX7_object_50 : decode cX7_object 50 = .ok (.ifCond .eq 6, 3) := by decide +kernel
theorem dX7_object_53 : decode cX7_object 53 = .ok (.bipush (-8), 2) := by decide +kernel
theorem dX7_object_55 : decode cX7_object 55 = .ok (.ireturn, 1) := by decide +kernel
theorem dX7_object_56 : decode cX7_object 56 = .ok (.aload_n 0, 1) := by decide +kernel
theorem dX7_object_57 : decode cX7_object 57 = .ok (.getfield 18, 3) := by decide +kernel
theorem dX7_object_60 : decode cX7_object 60 = .ok (.iload_n 1, 1) := by decide +kernel
theorem dX7_object_61 : decode cX7_object 61 = .ok (.aload 4, 2) := by decide +kernel
theorem dX7_object_63 : decode cX7_object 63 = .ok (.getfield 115, 3) := by decide +kernel
theorem dX7_object_66 : decode cX7_object 66 = .ok (.invokevirtual 91, 3) := by decide +kernel
theorem dX7_object_69 : decode cX7_object 69 = .ok (.astore 5, 2) := by decide +kernel
theorem dX7_object_71 : decode cX7_object 71 = .ok (.aload 5, 2) := by decide +kernel
theorem dX7_object_73 : decode cX7_object 73 = .ok (.ifnonnull 6, 3) := by decide +kernel
theorem dX7_object_76 : decode cX7_object 76 = .ok (.bipush (-6), 2) := by decide +kernel
theorem dX7_object_78 : decode cX7_object 78 = .ok (.ireturn, 1) := by decide +kernel
theorem dX7_object_79 : decode cX7_object 79 = .ok (.aload 4, 2) := by decide +kernel
theorem dX7_object_81 : decode cX7_object 81 = .ok (.aload 5, 2) := by decide +kernel
theorem dX7_object_83 : decode cX7_object 83 = .ok (.aload_n 0, 1) := by decide +kernel
theorem dX7_object_84 : decode cX7_object 84 = .ok (.getfield 67, 3) := by decide +kernel
theorem dX7_object_87 : decode cX7_object 87 = .ok (.invokevirtual 119, 3) := by decide +kernel
theorem dX7_object_90 : decode cX7_object 90 = .ok (.ifCond .eq 6, 3) := by decide +kernel
theorem dX7_object_93 : decode cX7_object 93 = .ok (.bipush (-7), 2) := by decide +kernel
theorem dX7_object_95 : decode cX7_object 95 = .ok (.ireturn, 1) := by decide +kernel
theorem dX7_object_96 : decode cX7_object 96 = .ok (.aload_n 0, 1) := by decide +kernel
theorem dX7_object_97 : decode cX7_object 97 = .ok (.getfield 67, 3) := by decide +kernel
theorem dX7_object_100 : decode cX7_object 100 = .ok (.aload 4, 2) := by decide +kernel
theorem dX7_object_102 : decode cX7_object 102 = .ok (.getfield 123, 3) := by decide +kernel
theorem dX7_object_105 : decode cX7_object 105 = .ok (.isub, 1) := by decide +kernel
theorem dX7_object_106 : decode cX7_object 106 = .ok (.aload 4, 2) := by decide +kernel
theorem dX7_object_108 : decode cX7_object 108 = .ok (.getfield 115, 3) := by decide +kernel
theorem dX7_object_111 : decode cX7_object 111 = .ok (.getfield 126, 3) := by decide +kernel
theorem dX7_object_114 : decode cX7_object 114 = .ok (.if_icmp .le 6, 3) := by decide +kernel
theorem dX7_object_117 : decode cX7_object 117 = .ok (.bipush (-3), 2) := by decide +kernel
theorem dX7_object_119 : decode cX7_object 119 = .ok (.ireturn, 1) := by decide +kernel
theorem dX7_object_120 : decode cX7_object 120 = .ok (.aload 4, 2) := by decide +kernel
theorem dX7_object_122 : decode cX7_object 122 = .ok (.aload 5, 2) := by decide +kernel
theorem dX7_object_124 : decode cX7_object 124 = .ok (.invokevirtual 129, 3) := by decide +kernel
theorem dX7_object_127 : decode cX7_object 127 = .ok (.ifCond .eq 6, 3) := by decide +kernel
theorem dX7_object_130 : decode cX7_object 130 = .ok (.bipush (-4), 2) := by decide +kernel
theorem dX7_object_132 : decode cX7_object 132 = .ok (.ireturn, 1) := by decide +kernel
theorem dX7_object_133 : decode cX7_object 133 = .ok (.aload_n 0, 1) := by decide +kernel
theorem dX7_object_134 : decode cX7_object 134 = .ok (.getfield 18, 3) := by decide +kernel
theorem dX7_object_137 : decode cX7_object 137 = .ok (.iconst 4, 1) := by decide +kernel
theorem dX7_object_138 : decode cX7_object 138 = .ok (.iload_n 1, 1) := by decide +kernel
theorem dX7_object_139 : decode cX7_object 139 = .ok (.aload 4, 2) := by decide +kernel
theorem dX7_object_141 : decode cX7_object 141 = .ok (.getfield 115, 3) := by decide +kernel
theorem dX7_object_144 : decode cX7_object 144 = .ok (.aload_n 0, 1) := by decide +kernel
theorem dX7_object_145 : decode cX7_object 145 = .ok (.getfield 67, 3) := by decide +kernel
theorem dX7_object_148 : decode cX7_object 148 = .ok (.aload_n 0, 1) := by decide +kernel
theorem dX7_object_149 : decode cX7_object 149 = .ok (.getfield 67, 3) := by decide +kernel
theorem dX7_object_152 : decode cX7_object 152 = .ok (.invokevirtual 82, 3) := by decide +kernel
theorem dX7_object_155 : decode cX7_object 155 = .ok (.astore 6, 2) := by decide +kernel
theorem dX7_object_157 : decode cX7_object 157 = .ok (.aload 6, 2) := by decide +kernel
theorem dX7_object_159 : decode cX7_object 159 = .ok (.aload 5, 2) := by decide +kernel
theorem dX7_object_161 : decode cX7_object 161 = .ok (.putfield 98, 3) := by decide +kernel
theorem dX7_object_164 : decode cX7_object 164 = .ok (.aload 6, 2) := by decide +kernel
theorem dX7_object_166 : decode cX7_object 166 = .ok (.iload_n 3, 1) := by decide +kernel
theorem dX7_object_167 : decode cX7_object 167 = .ok (.putfield 133, 3) := by decide +kernel
theorem dX7_object_170 : decode cX7_object 170 = .ok (.aload 6, 2) := by decide +kernel
theorem dX7_object_172 : decode cX7_object 172 = .ok (.aload 4, 2) := by decide +kernel
theorem dX7_object_174 : decode cX7_object 174 = .ok (.invokevirtual 137, 3) := by decide +kernel
theorem dX7_object_177 : decode cX7_object 177 = .ok (.aload 6, 2) := by decide +kernel
theorem dX7_object_179 : decode cX7_object 179 = .ok (.getfield 86, 3) := by decide +kernel
theorem dX7_object_182 : decode cX7_object 182 = .ok (.ireturn, 1) := by decide +kernel
theorem dX7_withdraw_0 : decode cX7_withdraw 0 = .ok (.aload_n 0, 1) := by decide +kernel
theorem dX7_withdraw_1 : decode cX7_withdraw 1 = .ok (.getfield 18, 3) := by decide +kernel
theorem dX7_withdraw_4 : decode cX7_withdraw 4 = .ok (.iload_n 2, 1) := by decide +kernel
theorem dX7_withdraw_5 : decode cX7_withdraw 5 = .ok (.invokevirtual 108, 3) := by decide +kernel
theorem dX7_withdraw_8 : decode cX7_withdraw 8 = .ok (.astore_n 3, 1) := by decide +kernel
theorem dX7_withdraw_9 : decode cX7_withdraw 9 = .ok (.aload_n 0, 1) := by decide +kernel
theorem dX7_withdraw_10 : decode cX7_withdraw 10 = .ok (.iload_n 1, 1) := by decide +kernel
theorem dX7_withdraw_11 : decode cX7_withdraw 11 = .ok (.invokevirtual 71, 3) := by decide +kernel
theorem dX7_withdraw_14 : decode cX7_withdraw 14 = .ok (.ifCond .eq 21, 3) := by decide +kernel
theorem dX7_withdraw_17 : decode cX7_withdraw 17 = .ok (.aload_n 3, 1) := by decide +kernel
theorem dX7_withdraw_18 : decode cX7_withdraw 18 = .ok (.ifnull 17, 3) := by decide +kernel
theorem dX7_withdraw_21 : decode cX7_withdraw 21 = .ok (.aload_n 3, 1) := by decide +kernel
theorem dX7_withdraw_22 : decode cX7_withdraw 22 = .ok (.invokevirtual 141, 3) := by decide +kernel
theorem dX7_withdraw_25 : decode cX7_withdraw 25 = .ok (.ifCond .eq 10, 3) := by decide +kernel
theorem dX7_withdraw_28 : decode cX7_withdraw 28 = .ok (.aload_n 3, 1) := by decide +kernel
theorem dX7_withdraw_29 : decode cX7_withdraw 29 = .ok (.getfield 115, 3) := by decide +kernel
theorem dX7_withdraw_32 : decode cX7_withdraw 32 = .ok (.ifnonnull 6, 3) := by decide +kernel
theorem dX7_withdraw_35 : decode cX7_withdraw 35 = .ok (.bipush (-2), 2) := by decide +kernel
theorem dX7_withdraw_37 : decode cX7_withdraw 37 = .ok (.ireturn, 1) := by decide +kernel
theorem dX7_withdraw_38 : decode cX7_withdraw 38 = .ok (.aload_n 0, 1) := by decide +kernel
theorem dX7_withdraw_39 : decode cX7_withdraw 39 = .ok (.getfield 18, 3) := by decide +kernel
theorem dX7_withdraw_42 : decode cX7_withdraw 42 = .ok (.invokevirtual 74, 3) := by decide +kernel
theorem dX7_withdraw_45 : decode cX7_withdraw 45 = .ok (.ifCond .eq 6, 3) := by decide +kernel
theorem dX7_withdraw_48 : decode cX7_withdraw 48 = .ok (.bipush (-8), 2) := by decide +kernel
theorem dX7_withdraw_50 : decode cX7_withdraw 50 = .ok (.ireturn, 1) := by decide +kernel
theorem dX7_withdraw_51 : decode cX7_withdraw 51 = .ok (.aload_n 0, 1) := by decide +kernel
theorem dX7_withdraw_52 : decode cX7_withdraw 52 = .ok (.getfield 18, 3) := by decide +kernel
theorem dX7_withdraw_55 : decode cX7_withdraw 55 = .ok (.iload_n 1, 1) := by decide +kernel
theorem dX7_withdraw_56 : decode cX7_withdraw 56 = .ok (.aload_n 3, 1) := by decide +kernel
theorem dX7_withdraw_57 : decode cX7_withdraw 57 = .ok (.getfield 115, 3) := by decide +kernel
theorem dX7_withdraw_60 : decode cX7_withdraw 60 = .ok (.invokevirtual 91, 3) := by decide +kernel
theorem dX7_withdraw_63 : decode cX7_withdraw 63 = .ok (.astore 4, 2) := by decide +kernel
theorem dX7_withdraw_65 : decode cX7_withdraw 65 = .ok (.aload 4, 2) := by decide +kernel
theorem dX7_withdraw_67 : decode cX7_withdraw 67 = .ok (.ifnonnull 6, 3) := by decide +kernel
theorem dX7_withdraw_70 : decode cX7_withdraw 70 = .ok (.bipush (-6), 2) := by decide +kernel
theorem dX7_withdraw_72 : decode cX7_withdraw 72 = .ok (.ireturn, 1) := by decide +kernel
theorem dX7_withdraw_73 : decode cX7_withdraw 73 = .ok (.aload_n 3, 1) := by decide +kernel
theorem dX7_withdraw_74 : decode cX7_withdraw 74 = .ok (.aload 4, 2) := by decide +kernel
theorem dX7_withdraw_76 : decode cX7_withdraw 76 = .ok (.if_acmp .eq 19, 3) := by decide +kernel
theorem dX7_withdraw_79 : decode cX7_withdraw 79 = .ok (.aload_n 3, 1) := by decide +kernel
theorem dX7_withdraw_80 : decode cX7_withdraw 80 = .ok (.aload 4, 2) := by decide +kernel
theorem dX7_withdraw_82 : decode cX7_withdraw 82 = .ok (.aload_n 0, 1) := by decide +kernel
theorem dX7_withdraw_83 : decode cX7_withdraw 83 = .ok (.getfield 67, 3) := by decide +kernel
theorem dX7_withdraw_86 : decode cX7_withdraw 86 = .ok (.invokevirtual 119, 3) := by decide +kernel
theorem dX7_withdraw_89 : decode cX7_withdraw 89 = .ok (.ifCond .ne 6, 3) := by decide +kernel
theorem dX7_withdraw_92 : decode cX7_withdraw 92 = .ok (.bipush (-7), 2) := by decide +kernel
theorem dX7_withdraw_94 : decode cX7_withdraw 94 = .ok (.ireturn, 1) := by decide +kernel
theorem dX7_withdraw_95 : decode cX7_withdraw 95 = .ok (.aload_n 3, 1) := by decide +kernel
theorem dX7_withdraw_96 : decode cX7_withdraw 96 = .ok (.getfield 144, 3) := by decide +kernel
theorem dX7_withdraw_99 : decode cX7_withdraw 99 = .ok (.ifnull 6, 3) := by decide +kernel
theorem dX7_withdraw_102 : decode cX7_withdraw 102 = .ok (.bipush (-4), 2) := by decide +kernel
theorem dX7_withdraw_104 : decode cX7_withdraw 104 = .ok (.ireturn, 1) := by decide +kernel
theorem dX7_withdraw_105 : decode cX7_withdraw 105 = .ok (.aload_n 0, 1) := by decide +kernel
theorem dX7_withdraw_106 : decode cX7_withdraw 106 = .ok (.getfield 18, 3) := by decide +kernel
theorem dX7_withdraw_109 : decode cX7_withdraw 109 = .ok (.iconst 5, 1) := by decide +kernel
theorem dX7_withdraw_110 : decode cX7_withdraw 110 = .ok (.iload_n 1, 1) := by decide +kernel
theorem dX7_withdraw_111 : decode cX7_withdraw 111 = .ok (.aload_n 3, 1) := by decide +kernel
theorem dX7_withdraw_112 : decode cX7_withdraw 112 = .ok (.getfield 115, 3) := by decide +kernel
theorem dX7_withdraw_115 : decode cX7_withdraw 115 = .ok (.aload_n 0, 1) := by decide +kernel
theorem dX7_withdraw_116 : decode cX7_withdraw 116 = .ok (.getfield 67, 3) := by decide +kernel
theorem dX7_withdraw_119 : decode cX7_withdraw 119 = .ok (.aload_n 0, 1) := by decide +kernel
theorem dX7_withdraw_120 : decode cX7_withdraw 120 = .ok (.getfield 67, 3) := by decide +kernel
theorem dX7_withdraw_123 : decode cX7_withdraw 123 = .ok (.aload_n 3, 1) := by decide +kernel
theorem dX7_withdraw_124 : decode cX7_withdraw 124 = .ok (.getfield 115, 3) := by decide +kernel
theorem dX7_withdraw_127 : decode cX7_withdraw 127 = .ok (.getfield 95, 3) := by decide +kernel
theorem dX7_withdraw_130 : decode cX7_withdraw 130 = .ok (.iadd, 1) := by decide +kernel
theorem dX7_withdraw_131 : decode cX7_withdraw 131 = .ok (.invokevirtual 82, 3) := by decide +kernel
theorem dX7_withdraw_134 : decode cX7_withdraw 134 = .ok (.astore 5, 2) := by decide +kernel
theorem dX7_withdraw_136 : decode cX7_withdraw 136 = .ok (.aload 5, 2) := by decide +kernel
theorem dX7_withdraw_138 : decode cX7_withdraw 138 = .ok (.aload_n 3, 1) := by decide +kernel
theorem dX7_withdraw_139 : decode cX7_withdraw 139 = .ok (.invokevirtual 147, 3) := by decide +kernel
theorem dX7_withdraw_142 : decode cX7_withdraw 142 = .ok (.aload 5, 2) := by decide +kernel
theorem dX7_withdraw_144 : decode cX7_withdraw 144 = .ok (.getfield 86, 3) := by decide +kernel
theorem dX7_withdraw_147 : decode cX7_withdraw 147 = .ok (.ireturn, 1) := by decide +kernel
theorem dX7_change_0 : decode cX7_change 0 = .ok (.aload_n 0, 1) := by decide +kernel
theorem dX7_change_1 : decode cX7_change 1 = .ok (.iload_n 2, 1) := by decide +kernel
theorem dX7_change_2 : decode cX7_change 2 = .ok (.invokevirtual 50, 3) := by decide +kernel
theorem dX7_change_5 : decode cX7_change 5 = .ok (.astore 5, 2) := by decide +kernel
theorem dX7_change_7 : decode cX7_change 7 = .ok (.aload_n 0, 1) := by decide +kernel
theorem dX7_change_8 : decode cX7_change 8 = .ok (.iload_n 1, 1) := by decide +kernel
theorem dX7_change_9 : decode cX7_change 9 = .ok (.invokevirtual 71, 3) := by decide +kernel
theorem dX7_change_12 : decode cX7_change 12 = .ok (.ifCond .eq 28, 3) := by decide +kernel
theorem dX7_change_15 : decode cX7_change 15 = .ok (.aload 5, 2) := by decide +kernel
theorem dX7_change_17 : decode cX7_change 17 = .ok (.ifnull 23, 3) := by decide +kernel
theorem dX7_change_20 : decode cX7_change 20 = .ok (.aload 5, 2) := by decide +kernel
theorem dX7_change_22 : decode cX7_change 22 = .ok (.iload_n 3, 1) := by decide +kernel
theorem dX7_change_23 : decode cX7_change 23 = .ok (.invokevirtual 54, 3) := by decide +kernel
theorem dX7_change_26 : decode cX7_change 26 = .ok (.ifCond .eq 14, 3) := by decide +kernel
theorem dX7_change_29 : decode cX7_change 29 = .ok (.iconst 1, 1) := by decide +kernel
theorem dX7_change_30 : decode cX7_change 30 = .ok (.ldc 58, 2) := by decide +kernel
theorem dX7_change_32 : decode cX7_change 32 = .ok (.iload 4, 2) := by decide +kernel
theorem dX7_change_34 : decode cX7_change 34 = .ok (.invokestatic 43, 3) := by decide +kernel
theorem dX7_change_37 : decode cX7_change 37 = .ok (.ifCond .ne 6, 3) := by decide +kernel
theorem dX7_change_40 : decode cX7_change 40 = .ok (.bipush (-2), 2) := by decide +kernel
theorem dX7_change_42 : decode cX7_change 42 = .ok (.ireturn, 1) := by decide +kernel
theorem dX7_change_43 : decode cX7_change 43 = .ok (.aload_n 0, 1) := by decide +kernel
theorem dX7_change_44 : decode cX7_change 44 = .ok (.getfield 18, 3) := by decide +kernel
theorem dX7_change_47 : decode cX7_change 47 = .ok (.invokevirtual 74, 3) := by decide +kernel
theorem dX7_change_50 : decode cX7_change 50 = .ok (.ifCond .eq 6, 3) := by decide +kernel
theorem dX7_change_53 : decode cX7_change 53 = .ok (.bipush (-8), 2) := by decide +kernel
theorem dX7_change_55 : decode cX7_change 55 = .ok (.ireturn, 1) := by decide +kernel
theorem dX7_change_56 : decode cX7_change 56 = .ok (.aload_n 0, 1) := by decide +kernel
theorem dX7_change_57 : decode cX7_change 57 = .ok (.getfield 18, 3) := by decide +kernel
theorem dX7_change_60 : decode cX7_change 60 = .ok (.iload_n 1, 1) := by decide +kernel
theorem dX7_change_61 : decode cX7_change 61 = .ok (.aload 5, 2) := by decide +kernel
theorem dX7_change_63 : decode cX7_change 63 = .ok (.invokevirtual 91, 3) := by decide +kernel
theorem dX7_change_66 : decode cX7_change 66 = .ok (.astore 6, 2) := by decide +kernel
theorem dX7_change_68 : decode cX7_change 68 = .ok (.aload 6, 2) := by decide +kernel
theorem dX7_change_70 : decode cX7_change 70 = .ok (.ifnonnull 6, 3) := by decide +kernel
theorem dX7_change_73 : decode cX7_change 73 = .ok (.bipush (-6), 2) := by decide +kernel
theorem dX7_change_75 : decode cX7_change 75 = .ok (.ireturn, 1) := by decide +kernel
theorem dX7_change_76 : decode cX7_change 76 = .ok (.aload_n 0, 1) := by decide +kernel
theorem dX7_change_77 : decode cX7_change 77 = .ok (.getfield 18, 3) := by decide +kernel
theorem dX7_change_80 : decode cX7_change 80 = .ok (.bipush 6, 2) := by decide +kernel
theorem dX7_change_82 : decode cX7_change 82 = .ok (.iload_n 1, 1) := by decide +kernel
theorem dX7_change_83 : decode cX7_change 83 = .ok (.aload 5, 2) := by decide +kernel
theorem dX7_change_85 : decode cX7_change 85 = .ok (.aload_n 0, 1) := by decide +kernel
theorem dX7_change_86 : decode cX7_change 86 = .ok (.getfield 67, 3) := by decide +kernel
theorem dX7_change_89 : decode cX7_change 89 = .ok (.aload_n 0, 1) := by decide +kernel
theorem dX7_change_90 : decode cX7_change 90 = .ok (.getfield 67, 3) := by decide +kernel
theorem dX7_change_93 : decode cX7_change 93 = .ok (.invokevirtual 82, 3) := by decide +kernel
theorem dX7_change_96 : decode cX7_change 96 = .ok (.astore 7, 2) := by decide +kernel
theorem dX7_change_98 : decode cX7_change 98 = .ok (.aload 7, 2) := by decide +kernel
theorem dX7_change_100 : decode cX7_change 100 = .ok (.aload 6, 2) := by decide +kernel
theorem dX7_change_102 : decode cX7_change 102 = .ok (.putfield 98, 3) := by decide +kernel
theorem dX7_change_105 : decode cX7_change 105 = .ok (.aload 7, 2) := by decide +kernel
theorem dX7_change_107 : decode cX7_change 107 = .ok (.iload_n 3, 1) := by decide +kernel
theorem dX7_change_108 : decode cX7_change 108 = .ok (.putfield 102, 3) := by decide +kernel
theorem dX7_change_111 : decode cX7_change 111 = .ok (.aload 7, 2) := by decide +kernel
theorem dX7_change_113 : decode cX7_change 113 = .ok (.iload 4, 2) := by decide +kernel
theorem dX7_change_115 : decode cX7_change 115 = .ok (.putfield 105, 3) := by decide +kernel
theorem dX7_change_118 : decode cX7_change 118 = .ok (.aload 7, 2) := by decide +kernel
theorem dX7_change_120 : decode cX7_change 120 = .ok (.getfield 86, 3) := by decide +kernel
theorem dX7_change_123 : decode cX7_change 123 = .ok (.ireturn, 1) := by decide +kernel
theorem dX7_consent_0 : decode cX7_consent 0 = .ok (.aload_n 0, 1) := by decide +kernel
theorem dX7_consent_1 : decode cX7_consent 1 = .ok (.getfield 18, 3) := by decide +kernel
theorem dX7_consent_4 : decode cX7_consent 4 = .ok (.iload_n 2, 1) := by decide +kernel
theorem dX7_consent_5 : decode cX7_consent 5 = .ok (.invokevirtual 108, 3) := by decide +kernel
theorem dX7_consent_8 : decode cX7_consent 8 = .ok (.astore_n 3, 1) := by decide +kernel
theorem dX7_consent_9 : decode cX7_consent 9 = .ok (.aload_n 0, 1) := by decide +kernel
theorem dX7_consent_10 : decode cX7_consent 10 = .ok (.iload_n 1, 1) := by decide +kernel
theorem dX7_consent_11 : decode cX7_consent 11 = .ok (.invokevirtual 71, 3) := by decide +kernel
theorem dX7_consent_14 : decode cX7_consent 14 = .ok (.ifCond .eq 23, 3) := by decide +kernel
theorem dX7_consent_17 : decode cX7_consent 17 = .ok (.aload_n 3, 1) := by decide +kernel
theorem dX7_consent_18 : decode cX7_consent 18 = .ok (.ifnull 19, 3) := by decide +kernel
theorem dX7_consent_21 : decode cX7_consent 21 = .ok (.aload_n 3, 1) := by decide +kernel
theorem dX7_consent_22 : decode cX7_consent 22 = .ok (.getfield 112, 3) := by decide +kernel
theorem dX7_consent_25 : decode cX7_consent 25 = .ok (.bipush 6, 2) := by decide +kernel
theorem dX7_consent_27 : decode cX7_consent 27 = .ok (.if_icmp .ne 10, 3) := by decide +kernel
theorem dX7_consent_30 : decode cX7_consent 30 = .ok (.aload_n 3, 1) := by decide +kernel
theorem dX7_consent_31 : decode cX7_consent 31 = .ok (.getfield 115, 3) := by decide +kernel
theorem dX7_consent_34 : decode cX7_consent 34 = .ok (.ifnonnull 6, 3) := by decide +kernel
theorem dX7_consent_37 : decode cX7_consent 37 = .ok (.bipush (-2), 2) := by decide +kernel
theorem dX7_consent_39 : decode cX7_consent 39 = .ok (.ireturn, 1) := by decide +kernel
theorem dX7_consent_40 : decode cX7_consent 40 = .ok (.aload_n 0, 1) := by decide +kernel
theorem dX7_consent_41 : decode cX7_consent 41 = .ok (.getfield 18, 3) := by decide +kernel
theorem dX7_consent_44 : decode cX7_consent 44 = .ok (.invokevirtual 74, 3) := by decide +kernel
theorem dX7_consent_47 : decode cX7_consent 47 = .ok (.ifCond .eq 6, 3) := by decide +kernel
theorem dX7_consent_50 : decode cX7_consent 50 = .ok (.bipush (-8), 2) := by decide +kernel
theorem dX7_consent_52 : decode cX7_consent 52 = .ok (.ireturn, 1) := by decide +kernel
theorem dX7_consent_53 : decode cX7_consent 53 = .ok (.aload_n 0, 1) := by decide +kernel
theorem dX7_consent_54 : decode cX7_consent 54 = .ok (.getfield 18, 3) := by decide +kernel
theorem dX7_consent_57 : decode cX7_consent 57 = .ok (.iload_n 1, 1) := by decide +kernel
theorem dX7_consent_58 : decode cX7_consent 58 = .ok (.aload_n 3, 1) := by decide +kernel
theorem dX7_consent_59 : decode cX7_consent 59 = .ok (.getfield 115, 3) := by decide +kernel
theorem dX7_consent_62 : decode cX7_consent 62 = .ok (.invokevirtual 91, 3) := by decide +kernel
theorem dX7_consent_65 : decode cX7_consent 65 = .ok (.astore 4, 2) := by decide +kernel
theorem dX7_consent_67 : decode cX7_consent 67 = .ok (.aload 4, 2) := by decide +kernel
theorem dX7_consent_69 : decode cX7_consent 69 = .ok (.ifnonnull 6, 3) := by decide +kernel
theorem dX7_consent_72 : decode cX7_consent 72 = .ok (.bipush (-6), 2) := by decide +kernel
theorem dX7_consent_74 : decode cX7_consent 74 = .ok (.ireturn, 1) := by decide +kernel
theorem dX7_consent_75 : decode cX7_consent 75 = .ok (.aload_n 3, 1) := by decide +kernel
theorem dX7_consent_76 : decode cX7_consent 76 = .ok (.aload 4, 2) := by decide +kernel
theorem dX7_consent_78 : decode cX7_consent 78 = .ok (.invokevirtual 129, 3) := by decide +kernel
theorem dX7_consent_81 : decode cX7_consent 81 = .ok (.ifCond .eq 6, 3) := by decide +kernel
theorem dX7_consent_84 : decode cX7_consent 84 = .ok (.bipush (-4), 2) := by decide +kernel
theorem dX7_consent_86 : decode cX7_consent 86 = .ok (.ireturn, 1) := by decide +kernel
theorem dX7_consent_87 : decode cX7_consent 87 = .ok (.aload_n 0, 1) := by decide +kernel
theorem dX7_consent_88 : decode cX7_consent 88 = .ok (.getfield 18, 3) := by decide +kernel
theorem dX7_consent_91 : decode cX7_consent 91 = .ok (.bipush 7, 2) := by decide +kernel
theorem dX7_consent_93 : decode cX7_consent 93 = .ok (.iload_n 1, 1) := by decide +kernel
theorem dX7_consent_94 : decode cX7_consent 94 = .ok (.aload_n 3, 1) := by decide +kernel
theorem dX7_consent_95 : decode cX7_consent 95 = .ok (.getfield 115, 3) := by decide +kernel
theorem dX7_consent_98 : decode cX7_consent 98 = .ok (.aload_n 0, 1) := by decide +kernel
theorem dX7_consent_99 : decode cX7_consent 99 = .ok (.getfield 67, 3) := by decide +kernel
theorem dX7_consent_102 : decode cX7_consent 102 = .ok (.aload_n 0, 1) := by decide +kernel
theorem dX7_consent_103 : decode cX7_consent 103 = .ok (.getfield 67, 3) := by decide +kernel
theorem dX7_consent_106 : decode cX7_consent 106 = .ok (.aload_n 3, 1) := by decide +kernel
theorem dX7_consent_107 : decode cX7_consent 107 = .ok (.getfield 115, 3) := by decide +kernel
theorem dX7_consent_110 : decode cX7_consent 110 = .ok (.getfield 95, 3) := by decide +kernel
theorem dX7_consent_113 : decode cX7_consent 113 = .ok (.iadd, 1) := by decide +kernel
theorem dX7_consent_114 : decode cX7_consent 114 = .ok (.invokevirtual 82, 3) := by decide +kernel
theorem dX7_consent_117 : decode cX7_consent 117 = .ok (.astore 5, 2) := by decide +kernel
theorem dX7_consent_119 : decode cX7_consent 119 = .ok (.aload 5, 2) := by decide +kernel
theorem dX7_consent_121 : decode cX7_consent 121 = .ok (.aload 4, 2) := by decide +kernel
theorem dX7_consent_123 : decode cX7_consent 123 = .ok (.putfield 98, 3) := by decide +kernel
theorem dX7_consent_126 : decode cX7_consent 126 = .ok (.aload 5, 2) := by decide +kernel
theorem dX7_consent_128 : decode cX7_consent 128 = .ok (.aload_n 3, 1) := by decide +kernel
theorem dX7_consent_129 : decode cX7_consent 129 = .ok (.invokevirtual 137, 3) := by decide +kernel
theorem dX7_consent_132 : decode cX7_consent 132 = .ok (.aload 5, 2) := by decide +kernel
theorem dX7_consent_134 : decode cX7_consent 134 = .ok (.getfield 86, 3) := by decide +kernel
theorem dX7_consent_137 : decode cX7_consent 137 = .ok (.ireturn, 1) := by decide +kernel
theorem dX7_follow_0 : decode cX7_follow 0 = .ok (.aload_n 0, 1) := by decide +kernel
theorem dX7_follow_1 : decode cX7_follow 1 = .ok (.iload_n 3, 1) := by decide +kernel
theorem dX7_follow_2 : decode cX7_follow 2 = .ok (.invokevirtual 50, 3) := by decide +kernel
theorem dX7_follow_5 : decode cX7_follow 5 = .ok (.astore 5, 2) := by decide +kernel
theorem dX7_follow_7 : decode cX7_follow 7 = .ok (.aload_n 0, 1) := by decide +kernel
theorem dX7_follow_8 : decode cX7_follow 8 = .ok (.iload_n 1, 1) := by decide +kernel
theorem dX7_follow_9 : decode cX7_follow 9 = .ok (.invokevirtual 71, 3) := by decide +kernel
theorem dX7_follow_12 : decode cX7_follow 12 = .ok (.ifCond .eq 16, 3) := by decide +kernel
theorem dX7_follow_15 : decode cX7_follow 15 = .ok (.aload_n 0, 1) := by decide +kernel
theorem dX7_follow_16 : decode cX7_follow 16 = .ok (.iload_n 2, 1) := by decide +kernel
theorem dX7_follow_17 : decode cX7_follow 17 = .ok (.invokevirtual 71, 3) := by decide +kernel
theorem dX7_follow_20 : decode cX7_follow 20 = .ok (.ifCond .eq 8, 3) := by decide +kernel
theorem dX7_follow_23 : decode cX7_follow 23 = .ok (.aload 5, 2) := by decide +kernel
theorem dX7_follow_25 : decode cX7_follow 25 = .ok (.ifnonnull 6, 3) := by decide +kernel
theorem dX7_follow_28 : decode cX7_follow 28 = .ok (.bipush (-2), 2) := by decide +kernel
theorem dX7_follow_30 : decode cX7_follow 30 = .ok (.ireturn, 1) := by decide +kernel
theorem dX7_follow_31 : decode cX7_follow 31 = .ok (.aload_n 0, 1) := by decide +kernel
theorem dX7_follow_32 : decode cX7_follow 32 = .ok (.getfield 18, 3) := by decide +kernel
theorem dX7_follow_35 : decode cX7_follow 35 = .ok (.invokevirtual 74, 3) := by decide +kernel
theorem dX7_follow_38 : decode cX7_follow 38 = .ok (.ifCond .eq 6, 3) := by decide +kernel
theorem dX7_follow_41 : decode cX7_follow 41 = .ok (.bipush (-8), 2) := by decide +kernel
theorem dX7_follow_43 : decode cX7_follow 43 = .ok (.ireturn, 1) := by decide +kernel
theorem dX7_follow_44 : decode cX7_follow 44 = .ok (.iload_n 1, 1) := by decide +kernel
theorem dX7_follow_45 : decode cX7_follow 45 = .ok (.iload_n 2, 1) := by decide +kernel
theorem dX7_follow_46 : decode cX7_follow 46 = .ok (.if_icmp .eq 16, 3) := by decide +kernel
theorem dX7_follow_49 : decode cX7_follow 49 = .ok (.aload_n 0, 1) := by decide +kernel
theorem dX7_follow_50 : decode cX7_follow 50 = .ok (.getfield 18, 3) := by decide +kernel
theorem dX7_follow_53 : decode cX7_follow 53 = .ok (.iload_n 1, 1) := by decide +kernel
theorem dX7_follow_54 : decode cX7_follow 54 = .ok (.aload 5, 2) := by decide +kernel
theorem dX7_follow_56 : decode cX7_follow 56 = .ok (.invokevirtual 91, 3) := by decide +kernel
theorem dX7_follow_59 : decode cX7_follow 59 = .ok (.ifnull 6, 3) := by decide +kernel
theorem dX7_follow_62 : decode cX7_follow 62 = .ok (.bipush (-4), 2) := by decide +kernel
theorem dX7_follow_64 : decode cX7_follow 64 = .ok (.ireturn, 1) := by decide +kernel
theorem dX7_follow_65 : decode cX7_follow 65 = .ok (.aload_n 0, 1) := by decide +kernel
theorem dX7_follow_66 : decode cX7_follow 66 = .ok (.getfield 18, 3) := by decide +kernel
theorem dX7_follow_69 : decode cX7_follow 69 = .ok (.iload_n 2, 1) := by decide +kernel
theorem dX7_follow_70 : decode cX7_follow 70 = .ok (.aload 5, 2) := by decide +kernel
theorem dX7_follow_72 : decode cX7_follow 72 = .ok (.invokevirtual 91, 3) := by decide +kernel
theorem dX7_follow_75 : decode cX7_follow 75 = .ok (.astore 6, 2) := by decide +kernel
theorem dX7_follow_77 : decode cX7_follow 77 = .ok (.aload 6, 2) := by decide +kernel
theorem dX7_follow_79 : decode cX7_follow 79 = .ok (.ifnonnull 6, 3) := by decide +kernel
theorem dX7_follow_82 : decode cX7_follow 82 = .ok (.bipush (-6), 2) := by decide +kernel
theorem dX7_follow_84 : decode cX7_follow 84 = .ok (.ireturn, 1) := by decide +kernel
theorem dX7_follow_85 : decode cX7_follow 85 = .ok (.aload_n 0, 1) := by decide +kernel
theorem dX7_follow_86 : decode cX7_follow 86 = .ok (.getfield 18, 3) := by decide +kernel
theorem dX7_follow_89 : decode cX7_follow 89 = .ok (.bipush 8, 2) := by decide +kernel
theorem dX7_follow_91 : decode cX7_follow 91 = .ok (.iload_n 1, 1) := by decide +kernel
theorem dX7_follow_92 : decode cX7_follow 92 = .ok (.aload 5, 2) := by decide +kernel
theorem dX7_follow_94 : decode cX7_follow 94 = .ok (.aload_n 0, 1) := by decide +kernel
theorem dX7_follow_95 : decode cX7_follow 95 = .ok (.getfield 67, 3) := by decide +kernel
theorem dX7_follow_98 : decode cX7_follow 98 = .ok (.aload_n 0, 1) := by decide +kernel
theorem dX7_follow_99 : decode cX7_follow 99 = .ok (.getfield 67, 3) := by decide +kernel
theorem dX7_follow_102 : decode cX7_follow 102 = .ok (.aload 5, 2) := by decide +kernel
theorem dX7_follow_104 : decode cX7_follow 104 = .ok (.getfield 95, 3) := by decide +kernel
theorem dX7_follow_107 : decode cX7_follow 107 = .ok (.iadd, 1) := by decide +kernel
theorem dX7_follow_108 : decode cX7_follow 108 = .ok (.invokevirtual 82, 3) := by decide +kernel
theorem dX7_follow_111 : decode cX7_follow 111 = .ok (.astore 7, 2) := by decide +kernel
theorem dX7_follow_113 : decode cX7_follow 113 = .ok (.aload 7, 2) := by decide +kernel
theorem dX7_follow_115 : decode cX7_follow 115 = .ok (.iload 4, 2) := by decide +kernel
theorem dX7_follow_117 : decode cX7_follow 117 = .ok (.putfield 133, 3) := by decide +kernel
theorem dX7_follow_120 : decode cX7_follow 120 = .ok (.aload 7, 2) := by decide +kernel
theorem dX7_follow_122 : decode cX7_follow 122 = .ok (.aload 6, 2) := by decide +kernel
theorem dX7_follow_124 : decode cX7_follow 124 = .ok (.invokevirtual 147, 3) := by decide +kernel
theorem dX7_follow_127 : decode cX7_follow 127 = .ok (.aload 7, 2) := by decide +kernel
theorem dX7_follow_129 : decode cX7_follow 129 = .ok (.getfield 86, 3) := by decide +kernel
theorem dX7_follow_132 : decode cX7_follow 132 = .ok (.ireturn, 1) := by decide +kernel
end
section
theorem dX7_note_0 : decode cX7_note 0 = .ok (.aload_n 0, 1) := by decide +kernel
theorem dX7_note_1 : decode cX7_note 1 = .ok (.getfield 18, 3) := by decide +kernel
theorem dX7_note_4 : decode cX7_note 4 = .ok (.invokevirtual 74, 3) := by decide +kernel
theorem dX7_note_7 : decode cX7_note 7 = .ok (.ifCond .eq 6, 3) := by decide +kernel
theorem dX7_note_10 : decode cX7_note 10 = .ok (.bipush (-8), 2) := by decide +kernel
theorem dX7_note_12 : decode cX7_note 12 = .ok (.ireturn, 1) := by decide +kernel
theorem dX7_note_13 : decode cX7_note 13 = .ok (.aload_n 0, 1) := by decide +kernel
theorem dX7_note_14 : decode cX7_note 14 = .ok (.getfield 18, 3) := by decide +kernel
theorem dX7_note_17 : decode cX7_note 17 = .ok (.bipush 9, 2) := by decide +kernel
theorem dX7_note_19 : decode cX7_note 19 = .ok (.iconst (-1), 1) := by decide +kernel
theorem dX7_note_20 : decode cX7_note 20 = .ok (.aconst_null, 1) := by decide +kernel
theorem dX7_note_21 : decode cX7_note 21 = .ok (.aload_n 0, 1) := by decide +kernel
theorem dX7_note_22 : decode cX7_note 22 = .ok (.getfield 67, 3) := by decide +kernel
theorem dX7_note_25 : decode cX7_note 25 = .ok (.aload_n 0, 1) := by decide +kernel
theorem dX7_note_26 : decode cX7_note 26 = .ok (.getfield 67, 3) := by decide +kernel
theorem dX7_note_29 : decode cX7_note 29 = .ok (.invokevirtual 82, 3) := by decide +kernel
theorem dX7_note_32 : decode cX7_note 32 = .ok (.astore_n 3, 1) := by decide +kernel
theorem dX7_note_33 : decode cX7_note 33 = .ok (.aload_n 3, 1) := by decide +kernel
theorem dX7_note_34 : decode cX7_note 34 = .ok (.lload_n 1, 1) := by decide +kernel
theorem dX7_note_35 : decode cX7_note 35 = .ok (.putfield 150, 3) := by decide +kernel
theorem dX7_note_38 : decode cX7_note 38 = .ok (.aload_n 3, 1) := by decide +kernel
theorem dX7_note_39 : decode cX7_note 39 = .ok (.getfield 86, 3) := by decide +kernel
theorem dX7_note_42 : decode cX7_note 42 = .ok (.ireturn, 1) := by decide +kernel
theorem dX7_undo_0 : decode cX7_undo 0 = .ok (.aload_n 0, 1) := by decide +kernel
theorem dX7_undo_1 : decode cX7_undo 1 = .ok (.getfield 18, 3) := by decide +kernel
theorem dX7_undo_4 : decode cX7_undo 4 = .ok (.aload_n 0, 1) := by decide +kernel
theorem dX7_undo_5 : decode cX7_undo 5 = .ok (.getfield 18, 3) := by decide +kernel
theorem dX7_undo_8 : decode cX7_undo 8 = .ok (.getfield 154, 3) := by decide +kernel
theorem dX7_undo_11 : decode cX7_undo 11 = .ok (.iconst 1, 1) := by decide +kernel
theorem dX7_undo_12 : decode cX7_undo 12 = .ok (.isub, 1) := by decide +kernel
theorem dX7_undo_13 : decode cX7_undo 13 = .ok (.invokevirtual 108, 3) := by decide +kernel
theorem dX7_undo_16 : decode cX7_undo 16 = .ok (.astore_n 1, 1) := by decide +kernel
theorem dX7_undo_17 : decode cX7_undo 17 = .ok (.aload_n 1, 1) := by decide +kernel
theorem dX7_undo_18 : decode cX7_undo 18 = .ok (.ifnull 14, 3) := by decide +kernel
theorem dX7_undo_21 : decode cX7_undo 21 = .ok (.aload_n 1, 1) := by decide +kernel
theorem dX7_undo_22 : decode cX7_undo 22 = .ok (.getfield 123, 3) := by decide +kernel
theorem dX7_undo_25 : decode cX7_undo 25 = .ok (.aload_n 0, 1) := by decide +kernel
theorem dX7_undo_26 : decode cX7_undo 26 = .ok (.getfield 67, 3) := by decide +kernel
theorem dX7_undo_29 : decode cX7_undo 29 = .ok (.if_icmp .eq 5, 3) := by decide +kernel
theorem dX7_undo_32 : decode cX7_undo 32 = .ok (.iconst (-1), 1) := by decide +kernel
theorem dX7_undo_33 : decode cX7_undo 33 = .ok (.ireturn, 1) := by decide +kernel
theorem dX7_undo_34 : decode cX7_undo 34 = .ok (.aload_n 1, 1) := by decide +kernel
theorem dX7_undo_35 : decode cX7_undo 35 = .ok (.invokevirtual 157, 3) := by decide +kernel
theorem dX7_undo_38 : decode cX7_undo 38 = .ok (.aload_n 0, 1) := by decide +kernel
theorem dX7_undo_39 : decode cX7_undo 39 = .ok (.getfield 18, 3) := by decide +kernel
theorem dX7_undo_42 : decode cX7_undo 42 = .ok (.invokevirtual 160, 3) := by decide +kernel
theorem dX7_undo_45 : decode cX7_undo 45 = .ok (.aload_n 1, 1) := by decide +kernel
theorem dX7_undo_46 : decode cX7_undo 46 = .ok (.getfield 86, 3) := by decide +kernel
theorem dX7_undo_49 : decode cX7_undo 49 = .ok (.ireturn, 1) := by decide +kernel
theorem dX7_between_0 : decode cX7_between 0 = .ok (.aload_n 0, 1) := by decide +kernel
theorem dX7_between_1 : decode cX7_between 1 = .ok (.iload_n 1, 1) := by decide +kernel
theorem dX7_between_2 : decode cX7_between 2 = .ok (.iload_n 2, 1) := by decide +kernel
theorem dX7_between_3 : decode cX7_between 3 = .ok (.iload_n 3, 1) := by decide +kernel
theorem dX7_between_4 : decode cX7_between 4 = .ok (.iload 4, 2) := by decide +kernel
theorem dX7_between_6 : decode cX7_between 6 = .ok (.iload 5, 2) := by decide +kernel
theorem dX7_between_8 : decode cX7_between 8 = .ok (.iload 6, 2) := by decide +kernel
theorem dX7_between_10 : decode cX7_between 10 = .ok (.invokevirtual 163, 3) := by decide +kernel
theorem dX7_between_13 : decode cX7_between 13 = .ok (.ifCond .eq 13, 3) := by decide +kernel
theorem dX7_between_16 : decode cX7_between 16 = .ok (.aload_n 0, 1) := by decide +kernel
theorem dX7_between_17 : decode cX7_between 17 = .ok (.getfield 32, 3) := by decide +kernel
theorem dX7_between_20 : decode cX7_between 20 = .ok (.getfield 167, 3) := by decide +kernel
theorem dX7_between_23 : decode cX7_between 23 = .ok (.goto 4, 3) := by decide +kernel
theorem dX7_between_26 : decode cX7_between 26 = .ok (.iconst (-1), 1) := by decide +kernel
theorem dX7_between_27 : decode cX7_between 27 = .ok (.ireturn, 1) := by decide +kernel
theorem dX7_words_0 : decode cX7_words 0 = .ok (.aload_n 0, 1) := by decide +kernel
theorem dX7_words_1 : decode cX7_words 1 = .ok (.iload_n 1, 1) := by decide +kernel
theorem dX7_words_2 : decode cX7_words 2 = .ok (.iload_n 2, 1) := by decide +kernel
theorem dX7_words_3 : decode cX7_words 3 = .ok (.iload_n 3, 1) := by decide +kernel
theorem dX7_words_4 : decode cX7_words 4 = .ok (.iload 4, 2) := by decide +kernel
theorem dX7_words_6 : decode cX7_words 6 = .ok (.iload 5, 2) := by decide +kernel
theorem dX7_words_8 : decode cX7_words 8 = .ok (.iload 6, 2) := by decide +kernel
theorem dX7_words_10 : decode cX7_words 10 = .ok (.invokevirtual 163, 3) := by decide +kernel
theorem dX7_words_13 : decode cX7_words 13 = .ok (.ifCond .eq 13, 3) := by decide +kernel
theorem dX7_words_16 : decode cX7_words 16 = .ok (.aload_n 0, 1) := by decide +kernel
theorem dX7_words_17 : decode cX7_words 17 = .ok (.getfield 32, 3) := by decide +kernel
theorem dX7_words_20 : decode cX7_words 20 = .ok (.getfield 169, 3) := by decide +kernel
theorem dX7_words_23 : decode cX7_words 23 = .ok (.goto 4, 3) := by decide +kernel
theorem dX7_words_26 : decode cX7_words 26 = .ok (.iconst (-1), 1) := by decide +kernel
theorem dX7_words_27 : decode cX7_words 27 = .ok (.ireturn, 1) := by decide +kernel
theorem dX7_why_0 : decode cX7_why 0 = .ok (.aload_n 0, 1) := by decide +kernel
theorem dX7_why_1 : decode cX7_why 1 = .ok (.iload_n 1, 1) := by decide +kernel
theorem dX7_why_2 : decode cX7_why 2 = .ok (.iload_n 2, 1) := by decide +kernel
theorem dX7_why_3 : decode cX7_why 3 = .ok (.iload_n 3, 1) := by decide +kernel
theorem dX7_why_4 : decode cX7_why 4 = .ok (.iload 4, 2) := by decide +kernel
theorem dX7_why_6 : decode cX7_why 6 = .ok (.iload 5, 2) := by decide +kernel
theorem dX7_why_8 : decode cX7_why 8 = .ok (.iload 6, 2) := by decide +kernel
theorem dX7_why_10 : decode cX7_why 10 = .ok (.invokevirtual 163, 3) := by decide +kernel
theorem dX7_why_13 : decode cX7_why 13 = .ok (.ifCond .eq 19, 3) := by decide +kernel
theorem dX7_why_16 : decode cX7_why 16 = .ok (.aload_n 0, 1) := by decide +kernel
theorem dX7_why_17 : decode cX7_why 17 = .ok (.getfield 32, 3) := by decide +kernel
theorem dX7_why_20 : decode cX7_why 20 = .ok (.aload_n 0, 1) := by decide +kernel
theorem dX7_why_21 : decode cX7_why 21 = .ok (.getfield 18, 3) := by decide +kernel
theorem dX7_why_24 : decode cX7_why 24 = .ok (.iload 7, 2) := by decide +kernel
theorem dX7_why_26 : decode cX7_why 26 = .ok (.invokevirtual 170, 3) := by decide +kernel
theorem dX7_why_29 : decode cX7_why 29 = .ok (.goto 4, 3) := by decide +kernel
theorem dX7_why_32 : decode cX7_why 32 = .ok (.iconst (-1), 1) := by decide +kernel
theorem dX7_why_33 : decode cX7_why 33 = .ok (.ireturn, 1) := by decide +kernel
theorem dX7_first_0 : decode cX7_first 0 = .ok (.aload_n 0, 1) := by decide +kernel
theorem dX7_first_1 : decode cX7_first 1 = .ok (.iload_n 1, 1) := by decide +kernel
theorem dX7_first_2 : decode cX7_first 2 = .ok (.iload_n 2, 1) := by decide +kernel
theorem dX7_first_3 : decode cX7_first 3 = .ok (.iload_n 3, 1) := by decide +kernel
theorem dX7_first_4 : decode cX7_first 4 = .ok (.iload 4, 2) := by decide +kernel
theorem dX7_first_6 : decode cX7_first 6 = .ok (.aload_n 0, 1) := by decide +kernel
theorem dX7_first_7 : decode cX7_first 7 = .ok (.getfield 67, 3) := by decide +kernel
theorem dX7_first_10 : decode cX7_first 10 = .ok (.aload_n 0, 1) := by decide +kernel
theorem dX7_first_11 : decode cX7_first 11 = .ok (.getfield 67, 3) := by decide +kernel
theorem dX7_first_14 : decode cX7_first 14 = .ok (.invokevirtual 163, 3) := by decide +kernel
theorem dX7_first_17 : decode cX7_first 17 = .ok (.ifCond .ne 5, 3) := by decide +kernel
theorem dX7_first_20 : decode cX7_first 20 = .ok (.iconst (-1), 1) := by decide +kernel
theorem dX7_first_21 : decode cX7_first 21 = .ok (.ireturn, 1) := by decide +kernel
theorem dX7_first_22 : decode cX7_first 22 = .ok (.aload_n 0, 1) := by decide +kernel
theorem dX7_first_23 : decode cX7_first 23 = .ok (.iload_n 3, 1) := by decide +kernel
theorem dX7_first_24 : decode cX7_first 24 = .ok (.invokevirtual 50, 3) := by decide +kernel
theorem dX7_first_27 : decode cX7_first 27 = .ok (.astore 5, 2) := by decide +kernel
theorem dX7_first_29 : decode cX7_first 29 = .ok (.aload_n 0, 1) := by decide +kernel
theorem dX7_first_30 : decode cX7_first 30 = .ok (.getfield 32, 3) := by decide +kernel
theorem dX7_first_33 : decode cX7_first 33 = .ok (.getfield 167, 3) := by decide +kernel
theorem dX7_first_36 : decode cX7_first 36 = .ok (.istore 6, 2) := by decide +kernel
theorem dX7_first_38 : decode cX7_first 38 = .ok (.aload_n 0, 1) := by decide +kernel
theorem dX7_first_39 : decode cX7_first 39 = .ok (.getfield 32, 3) := by decide +kernel
theorem dX7_first_42 : decode cX7_first 42 = .ok (.getfield 169, 3) := by decide +kernel
theorem dX7_first_45 : decode cX7_first 45 = .ok (.istore 7, 2) := by decide +kernel
theorem dX7_first_47 : decode cX7_first 47 = .ok (.aload_n 0, 1) := by decide +kernel
theorem dX7_first_48 : decode cX7_first 48 = .ok (.getfield 67, 3) := by decide +kernel
theorem dX7_first_51 : decode cX7_first 51 = .ok (.istore 8, 2) := by decide +kernel
theorem dX7_first_53 : decode cX7_first 53 = .ok (.iconst 0, 1) := by decide +kernel
theorem dX7_first_54 : decode cX7_first 54 = .ok (.istore 9, 2) := by decide +kernel
theorem dX7_first_56 : decode cX7_first 56 = .ok (.iload 9, 2) := by decide +kernel
theorem dX7_first_58 : decode cX7_first 58 = .ok (.sipush 400, 3) := by decide +kernel
theorem dX7_first_61 : decode cX7_first 61 = .ok (.if_icmp .gt 77, 3) := by decide +kernel
theorem dX7_first_64 : decode cX7_first 64 = .ok (.aload_n 0, 1) := by decide +kernel
theorem dX7_first_65 : decode cX7_first 65 = .ok (.getfield 18, 3) := by decide +kernel
theorem dX7_first_68 : decode cX7_first 68 = .ok (.aload 5, 2) := by decide +kernel
theorem dX7_first_70 : decode cX7_first 70 = .ok (.iload 8, 2) := by decide +kernel
theorem dX7_first_72 : decode cX7_first 72 = .ok (.invokevirtual 174, 3) := by decide +kernel
theorem dX7_first_75 : decode cX7_first 75 = .ok (.istore 8, 2) := by decide +kernel
theorem dX7_first_77 : decode cX7_first 77 = .ok (.iload 8, 2) := by decide +kernel
theorem dX7_first_79 : decode cX7_first 79 = .ok (.ifCond .gt 5, 3) := by decide +kernel
theorem dX7_first_82 : decode cX7_first 82 = .ok (.iconst 0, 1) := by decide +kernel
theorem dX7_first_83 : decode cX7_first 83 = .ok (.ireturn, 1) := by decide +kernel
theorem dX7_first_84 : decode cX7_first 84 = .ok (.aload_n 0, 1) := by decide +kernel
theorem dX7_first_85 : decode cX7_first 85 = .ok (.iload_n 1, 1) := by decide +kernel
theorem dX7_first_86 : decode cX7_first 86 = .ok (.iload_n 2, 1) := by decide +kernel
theorem dX7_first_87 : decode cX7_first 87 = .ok (.iload_n 3, 1) := by decide +kernel
theorem dX7_first_88 : decode cX7_first 88 = .ok (.iload 4, 2) := by decide +kernel
theorem dX7_first_90 : decode cX7_first 90 = .ok (.iload 8, 2) := by decide +kernel
theorem dX7_first_92 : decode cX7_first 92 = .ok (.iconst 1, 1) := by decide +kernel
theorem dX7_first_93 : decode cX7_first 93 = .ok (.isub, 1) := by decide +kernel
theorem dX7_first_94 : decode cX7_first 94 = .ok (.aload_n 0, 1) := by decide +kernel
theorem dX7_first_95 : decode cX7_first 95 = .ok (.getfield 67, 3) := by decide +kernel
theorem dX7_first_98 : decode cX7_first 98 = .ok (.invokevirtual 163, 3) := by decide +kernel
theorem dX7_first_101 : decode cX7_first 101 = .ok (.pop, 1) := by decide +kernel
theorem dX7_first_102 : decode cX7_first 102 = .ok (.aload_n 0, 1) := by decide +kernel
theorem dX7_first_103 : decode cX7_first 103 = .ok (.getfield 32, 3) := by decide +kernel
theorem dX7_first_106 : decode cX7_first 106 = .ok (.getfield 167, 3) := by decide +kernel
theorem dX7_first_109 : decode cX7_first 109 = .ok (.iload 6, 2) := by decide +kernel
theorem dX7_first_111 : decode cX7_first 111 = .ok (.if_icmp .ne 15, 3) := by decide +kernel
theorem dX7_first_114 : decode cX7_first 114 = .ok (.aload_n 0, 1) := by decide +kernel
theorem dX7_first_115 : decode cX7_first 115 = .ok (.getfield 32, 3) := by decide +kernel
theorem dX7_first_118 : decode cX7_first 118 = .ok (.getfield 169, 3) := by decide +kernel
theorem dX7_first_121 : decode cX7_first 121 = .ok (.iload 7, 2) := by decide +kernel
theorem dX7_first_123 : decode cX7_first 123 = .ok (.if_icmp .eq 6, 3) := by decide +kernel
theorem dX7_first_126 : decode cX7_first 126 = .ok (.iload 8, 2) := by decide +kernel
theorem dX7_first_128 : decode cX7_first 128 = .ok (.ireturn, 1) := by decide +kernel
theorem dX7_first_129 : decode cX7_first 129 = .ok (.iinc 8 (-1), 3) := by decide +kernel
theorem dX7_first_132 : decode cX7_first 132 = .ok (.iinc 9 1, 3) := by decide +kernel
theorem dX7_first_135 : decode cX7_first 135 = .ok (.goto (-79), 3) := by decide +kernel
theorem dX7_first_138 : decode cX7_first 138 = .ok (.iload 8, 2) := by decide +kernel
theorem dX7_first_140 : decode cX7_first 140 = .ok (.ireturn, 1) := by decide +kernel
theorem dX7_member_0 : decode cX7_member 0 = .ok (.aload_n 0, 1) := by decide +kernel
theorem dX7_member_1 : decode cX7_member 1 = .ok (.iload_n 2, 1) := by decide +kernel
theorem dX7_member_2 : decode cX7_member 2 = .ok (.invokevirtual 50, 3) := by decide +kernel
theorem dX7_member_5 : decode cX7_member 5 = .ok (.astore 5, 2) := by decide +kernel
theorem dX7_member_7 : decode cX7_member 7 = .ok (.aload_n 0, 1) := by decide +kernel
theorem dX7_member_8 : decode cX7_member 8 = .ok (.iload_n 1, 1) := by decide +kernel
theorem dX7_member_9 : decode cX7_member 9 = .ok (.invokevirtual 71, 3) := by decide +kernel
theorem dX7_member_12 : decode cX7_member 12 = .ok (.ifCond .eq 23, 3) := by decide +kernel
theorem dX7_member_15 : decode cX7_member 15 = .ok (.aload 5, 2) := by decide +kernel
theorem dX7_member_17 : decode cX7_member 17 = .ok (.ifnull 18, 3) := by decide +kernel
theorem dX7_member_20 : decode cX7_member 20 = .ok (.iload_n 3, 1) := by decide +kernel
theorem dX7_member_21 : decode cX7_member 21 = .ok (.invokestatic 178, 3) := by decide +kernel
theorem dX7_member_24 : decode cX7_member 24 = .ok (.ifCond .eq 11, 3) := by decide +kernel
theorem dX7_member_27 : decode cX7_member 27 = .ok (.iload 4, 2) := by decide +kernel
theorem dX7_member_29 : decode cX7_member 29 = .ok (.invokestatic 178, 3) := by decide +kernel
theorem dX7_member_32 : decode cX7_member 32 = .ok (.ifCond .ne 5, 3) := by decide +kernel
theorem dX7_member_35 : decode cX7_member 35 = .ok (.iconst (-1), 1) := by decide +kernel
theorem dX7_member_36 : decode cX7_member 36 = .ok (.ireturn, 1) := by decide +kernel
theorem dX7_member_37 : decode cX7_member 37 = .ok (.aload_n 0, 1) := by decide +kernel
theorem dX7_member_38 : decode cX7_member 38 = .ok (.getfield 25, 3) := by decide +kernel
theorem dX7_member_41 : decode cX7_member 41 = .ok (.aload_n 0, 1) := by decide +kernel
theorem dX7_member_42 : decode cX7_member 42 = .ok (.getfield 18, 3) := by decide +kernel
theorem dX7_member_45 : decode cX7_member 45 = .ok (.aload 5, 2) := by decide +kernel
theorem dX7_member_47 : decode cX7_member 47 = .ok (.iload_n 3, 1) := by decide +kernel
theorem dX7_member_48 : decode cX7_member 48 = .ok (.iload 4, 2) := by decide +kernel
theorem dX7_member_50 : decode cX7_member 50 = .ok (.invokevirtual 181, 3) := by decide +kernel
theorem dX7_member_53 : decode cX7_member 53 = .ok (.aload_n 0, 1) := by decide +kernel
theorem dX7_member_54 : decode cX7_member 54 = .ok (.getfield 25, 3) := by decide +kernel
theorem dX7_member_57 : decode cX7_member 57 = .ok (.iload_n 1, 1) := by decide +kernel
theorem dX7_member_58 : decode cX7_member 58 = .ok (.invokevirtual 185, 3) := by decide +kernel
theorem dX7_member_61 : decode cX7_member 61 = .ok (.invokestatic 186, 3) := by decide +kernel
theorem dX7_member_64 : decode cX7_member 64 = .ok (.ireturn, 1) := by decide +kernel
theorem dX7_members_0 : decode cX7_members 0 = .ok (.aload_n 0, 1) := by decide +kernel
theorem dX7_members_1 : decode cX7_members 1 = .ok (.iload_n 1, 1) := by decide +kernel
theorem dX7_members_2 : decode cX7_members 2 = .ok (.invokevirtual 50, 3) := by decide +kernel
theorem dX7_members_5 : decode cX7_members 5 = .ok (.astore 4, 2) := by decide +kernel
theorem dX7_members_7 : decode cX7_members 7 = .ok (.aload 4, 2) := by decide +kernel
theorem dX7_members_9 : decode cX7_members 9 = .ok (.ifnull 17, 3) := by decide +kernel
theorem dX7_members_12 : decode cX7_members 12 = .ok (.iload_n 2, 1) := by decide +kernel
theorem dX7_members_13 : decode cX7_members 13 = .ok (.invokestatic 178, 3) := by decide +kernel
theorem dX7_members_16 : decode cX7_members 16 = .ok (.ifCond .eq 10, 3) := by decide +kernel
theorem dX7_members_19 : decode cX7_members 19 = .ok (.iload_n 3, 1) := by decide +kernel
theorem dX7_members_20 : decode cX7_members 20 = .ok (.invokestatic 178, 3) := by decide +kernel
theorem dX7_members_23 : decode cX7_members 23 = .ok (.ifCond .ne 5, 3) := by decide +kernel
theorem dX7_members_26 : decode cX7_members 26 = .ok (.iconst (-1), 1) := by decide +kernel
theorem dX7_members_27 : decode cX7_members 27 = .ok (.ireturn, 1) := by decide +kernel
theorem dX7_members_28 : decode cX7_members 28 = .ok (.aload_n 0, 1) := by decide +kernel
theorem dX7_members_29 : decode cX7_members 29 = .ok (.getfield 25, 3) := by decide +kernel
theorem dX7_members_32 : decode cX7_members 32 = .ok (.aload_n 0, 1) := by decide +kernel
theorem dX7_members_33 : decode cX7_members 33 = .ok (.getfield 18, 3) := by decide +kernel
theorem dX7_members_36 : decode cX7_members 36 = .ok (.aload 4, 2) := by decide +kernel
theorem dX7_members_38 : decode cX7_members 38 = .ok (.iload_n 2, 1) := by decide +kernel
theorem dX7_members_39 : decode cX7_members 39 = .ok (.iload_n 3, 1) := by decide +kernel
theorem dX7_members_40 : decode cX7_members 40 = .ok (.invokevirtual 181, 3) := by decide +kernel
theorem dX7_members_43 : decode cX7_members 43 = .ok (.aload_n 0, 1) := by decide +kernel
theorem dX7_members_44 : decode cX7_members 44 = .ok (.getfield 25, 3) := by decide +kernel
theorem dX7_members_47 : decode cX7_members 47 = .ok (.getfield 190, 3) := by decide +kernel
theorem dX7_members_50 : decode cX7_members 50 = .ok (.ireturn, 1) := by decide +kernel
theorem dX7_since_0 : decode cX7_since 0 = .ok (.aload_n 0, 1) := by decide +kernel
theorem dX7_since_1 : decode cX7_since 1 = .ok (.iload_n 1, 1) := by decide +kernel
theorem dX7_since_2 : decode cX7_since 2 = .ok (.invokevirtual 50, 3) := by decide +kernel
theorem dX7_since_5 : decode cX7_since 5 = .ok (.astore_n 2, 1) := by decide +kernel
theorem dX7_since_6 : decode cX7_since 6 = .ok (.aload_n 2, 1) := by decide +kernel
theorem dX7_since_7 : decode cX7_since 7 = .ok (.ifnonnull 5, 3) := by decide +kernel
theorem dX7_since_10 : decode cX7_since 10 = .ok (.iconst (-1), 1) := by decide +kernel
theorem dX7_since_11 : decode cX7_since 11 = .ok (.ireturn, 1) := by decide +kernel
theorem dX7_since_12 : decode cX7_since 12 = .ok (.aload_n 0, 1) := by decide +kernel
theorem dX7_since_13 : decode cX7_since 13 = .ok (.getfield 25, 3) := by decide +kernel
theorem dX7_since_16 : decode cX7_since 16 = .ok (.aload_n 0, 1) := by decide +kernel
theorem dX7_since_17 : decode cX7_since 17 = .ok (.getfield 18, 3) := by decide +kernel
theorem dX7_since_20 : decode cX7_since 20 = .ok (.aload_n 2, 1) := by decide +kernel
theorem dX7_since_21 : decode cX7_since 21 = .ok (.aload_n 0, 1) := by decide +kernel
theorem dX7_since_22 : decode cX7_since 22 = .ok (.getfield 67, 3) := by decide +kernel
theorem dX7_since_25 : decode cX7_since 25 = .ok (.aload_n 0, 1) := by decide +kernel
theorem dX7_since_26 : decode cX7_since 26 = .ok (.getfield 67, 3) := by decide +kernel
theorem dX7_since_29 : decode cX7_since 29 = .ok (.invokevirtual 181, 3) := by decide +kernel
theorem dX7_since_32 : decode cX7_since 32 = .ok (.aload_n 0, 1) := by decide +kernel
theorem dX7_since_33 : decode cX7_since 33 = .ok (.getfield 25, 3) := by decide +kernel
theorem dX7_since_36 : decode cX7_since 36 = .ok (.getfield 190, 3) := by decide +kernel
theorem dX7_since_39 : decode cX7_since 39 = .ok (.aload_n 2, 1) := by decide +kernel
theorem dX7_since_40 : decode cX7_since 40 = .ok (.getfield 191, 3) := by decide +kernel
theorem dX7_since_43 : decode cX7_since 43 = .ok (.if_icmp .ge 5, 3) := by decide +kernel
theorem dX7_since_46 : decode cX7_since 46 = .ok (.iconst (-1), 1) := by decide +kernel
theorem dX7_since_47 : decode cX7_since 47 = .ok (.ireturn, 1) := by decide +kernel
theorem dX7_since_48 : decode cX7_since 48 = .ok (.aload_n 0, 1) := by decide +kernel
theorem dX7_since_49 : decode cX7_since 49 = .ok (.getfield 67, 3) := by decide +kernel
theorem dX7_since_52 : decode cX7_since 52 = .ok (.istore_n 3, 1) := by decide +kernel
theorem dX7_since_53 : decode cX7_since 53 = .ok (.iconst 0, 1) := by decide +kernel
theorem dX7_since_54 : decode cX7_since 54 = .ok (.istore 4, 2) := by decide +kernel
theorem dX7_since_56 : decode cX7_since 56 = .ok (.iload 4, 2) := by decide +kernel
theorem dX7_since_58 : decode cX7_since 58 = .ok (.sipush 400, 3) := by decide +kernel
theorem dX7_since_61 : decode cX7_since 61 = .ok (.if_icmp .gt 63, 3) := by decide +kernel
theorem dX7_since_64 : decode cX7_since 64 = .ok (.aload_n 0, 1) := by decide +kernel
theorem dX7_since_65 : decode cX7_since 65 = .ok (.getfield 18, 3) := by decide +kernel
theorem dX7_since_68 : decode cX7_since 68 = .ok (.aload_n 2, 1) := by decide +kernel
theorem dX7_since_69 : decode cX7_since 69 = .ok (.iload_n 3, 1) := by decide +kernel
theorem dX7_since_70 : decode cX7_since 70 = .ok (.invokevirtual 174, 3) := by decide +kernel
theorem dX7_since_73 : decode cX7_since 73 = .ok (.istore_n 3, 1) := by decide +kernel
theorem dX7_since_74 : decode cX7_since 74 = .ok (.iload_n 3, 1) := by decide +kernel
theorem dX7_since_75 : decode cX7_since 75 = .ok (.ifCond .gt 5, 3) := by decide +kernel
theorem dX7_since_78 : decode cX7_since 78 = .ok (.iconst 0, 1) := by decide +kernel
theorem dX7_since_79 : decode cX7_since 79 = .ok (.ireturn, 1) := by decide +kernel
theorem dX7_since_80 : decode cX7_since 80 = .ok (.aload_n 0, 1) := by decide +kernel
theorem dX7_since_81 : decode cX7_since 81 = .ok (.getfield 25, 3) := by decide +kernel
theorem dX7_since_84 : decode cX7_since 84 = .ok (.aload_n 0, 1) := by decide +kernel
theorem dX7_since_85 : decode cX7_since 85 = .ok (.getfield 18, 3) := by decide +kernel
theorem dX7_since_88 : decode cX7_since 88 = .ok (.aload_n 2, 1) := by decide +kernel
theorem dX7_since_89 : decode cX7_since 89 = .ok (.iload_n 3, 1) := by decide +kernel
theorem dX7_since_90 : decode cX7_since 90 = .ok (.iconst 1, 1) := by decide +kernel
theorem dX7_since_91 : decode cX7_since 91 = .ok (.isub, 1) := by decide +kernel
theorem dX7_since_92 : decode cX7_since 92 = .ok (.aload_n 0, 1) := by decide +kernel
theorem dX7_since_93 : decode cX7_since 93 = .ok (.getfield 67, 3) := by decide +kernel
theorem dX7_since_96 : decode cX7_since 96 = .ok (.invokevirtual 181, 3) := by decide +kernel
theorem dX7_since_99 : decode cX7_since 99 = .ok (.aload_n 0, 1) := by decide +kernel
theorem dX7_since_100 : decode cX7_since 100 = .ok (.getfield 25, 3) := by decide +kernel
theorem dX7_since_103 : decode cX7_since 103 = .ok (.getfield 190, 3) := by decide +kernel
theorem dX7_since_106 : decode cX7_since 106 = .ok (.aload_n 2, 1) := by decide +kernel
theorem dX7_since_107 : decode cX7_since 107 = .ok (.getfield 191, 3) := by decide +kernel
theorem dX7_since_110 : decode cX7_since 110 = .ok (.if_icmp .ge 5, 3) := by decide +kernel
theorem dX7_since_113 : decode cX7_since 113 = .ok (.iload_n 3, 1) := by decide +kernel
theorem dX7_since_114 : decode cX7_since 114 = .ok (.ireturn, 1) := by decide +kernel
theorem dX7_since_115 : decode cX7_since 115 = .ok (.iinc 3 (-1), 3) := by decide +kernel
theorem dX7_since_118 : decode cX7_since 118 = .ok (.iinc 4 1, 3) := by decide +kernel
theorem dX7_since_121 : decode cX7_since 121 = .ok (.goto (-65), 3) := by decide +kernel
theorem dX7_since_124 : decode cX7_since 124 = .ok (.iload_n 3, 1) := by decide +kernel
theorem dX7_since_125 : decode cX7_since 125 = .ok (.ireturn, 1) := by decide +kernel
theorem dX7_has_0 : decode cX7_has 0 = .ok (.aload_n 0, 1) := by decide +kernel
theorem dX7_has_1 : decode cX7_has 1 = .ok (.iload_n 2, 1) := by decide +kernel
theorem dX7_has_2 : decode cX7_has 2 = .ok (.invokevirtual 50, 3) := by decide +kernel
theorem dX7_has_5 : decode cX7_has 5 = .ok (.astore 6, 2) := by decide +kernel
theorem dX7_has_7 : decode cX7_has 7 = .ok (.aload_n 0, 1) := by decide +kernel
theorem dX7_has_8 : decode cX7_has 8 = .ok (.iload_n 1, 1) := by decide +kernel
theorem dX7_has_9 : decode cX7_has 9 = .ok (.invokevirtual 71, 3) := by decide +kernel
theorem dX7_has_12 : decode cX7_has 12 = .ok (.ifCond .eq 23, 3) := by decide +kernel
theorem dX7_has_15 : decode cX7_has 15 = .ok (.aload 6, 2) := by decide +kernel
theorem dX7_has_17 : decode cX7_has 17 = .ok (.ifnull 18, 3) := by decide +kernel
theorem dX7_has_20 : decode cX7_has 20 = .ok (.iload_n 3, 1) := by decide +kernel
theorem dX7_has_21 : decode cX7_has 21 = .ok (.invokestatic 178, 3) := by decide +kernel
theorem dX7_has_24 : decode cX7_has 24 = .ok (.ifCond .eq 11, 3) := by decide +kernel
theorem dX7_has_27 : decode cX7_has 27 = .ok (.iload 4, 2) := by decide +kernel
theorem dX7_has_29 : decode cX7_has 29 = .ok (.invokestatic 178, 3) := by decide +kernel
theorem dX7_has_32 : decode cX7_has 32 = .ok (.ifCond .ne 5, 3) := by decide +kernel
theorem dX7_has_35 : decode cX7_has 35 = .ok (.iconst (-1), 1) := by decide +kernel
theorem dX7_has_36 : decode cX7_has 36 = .ok (.ireturn, 1) := by decide +kernel
theorem dX7_has_37 : decode cX7_has 37 = .ok (.aload_n 0, 1) := by decide +kernel
theorem dX7_has_38 : decode cX7_has 38 = .ok (.getfield 25, 3) := by decide +kernel
theorem dX7_has_41 : decode cX7_has 41 = .ok (.aload_n 0, 1) := by decide +kernel
theorem dX7_has_42 : decode cX7_has 42 = .ok (.getfield 18, 3) := by decide +kernel
theorem dX7_has_45 : decode cX7_has 45 = .ok (.aload 6, 2) := by decide +kernel
theorem dX7_has_47 : decode cX7_has 47 = .ok (.iload_n 3, 1) := by decide +kernel
theorem dX7_has_48 : decode cX7_has 48 = .ok (.iload 4, 2) := by decide +kernel
theorem dX7_has_50 : decode cX7_has 50 = .ok (.invokevirtual 181, 3) := by decide +kernel
theorem dX7_has_53 : decode cX7_has 53 = .ok (.aload_n 0, 1) := by decide +kernel
theorem dX7_has_54 : decode cX7_has 54 = .ok (.getfield 18, 3) := by decide +kernel
theorem dX7_has_57 : decode cX7_has 57 = .ok (.aload_n 0, 1) := by decide +kernel
theorem dX7_has_58 : decode cX7_has 58 = .ok (.getfield 25, 3) := by decide +kernel
theorem dX7_has_61 : decode cX7_has 61 = .ok (.iload_n 1, 1) := by decide +kernel
theorem dX7_has_62 : decode cX7_has 62 = .ok (.invokevirtual 185, 3) := by decide +kernel
theorem dX7_has_65 : decode cX7_has 65 = .ok (.iload_n 3, 1) := by decide +kernel
theorem dX7_has_66 : decode cX7_has 66 = .ok (.iload 4, 2) := by decide +kernel
theorem dX7_has_68 : decode cX7_has 68 = .ok (.iload 5, 2) := by decide +kernel
theorem dX7_has_70 : decode cX7_has 70 = .ok (.invokevirtual 194, 3) := by decide +kernel
theorem dX7_has_73 : decode cX7_has 73 = .ok (.invokestatic 186, 3) := by decide +kernel
theorem dX7_has_76 : decode cX7_has 76 = .ok (.ireturn, 1) := by decide +kernel
theorem dX7_paper_0 : decode cX7_paper 0 = .ok (.aload_n 0, 1) := by decide +kernel
theorem dX7_paper_1 : decode cX7_paper 1 = .ok (.getfield 18, 3) := by decide +kernel
theorem dX7_paper_4 : decode cX7_paper 4 = .ok (.iload_n 1, 1) := by decide +kernel
theorem dX7_paper_5 : decode cX7_paper 5 = .ok (.invokevirtual 108, 3) := by decide +kernel
theorem dX7_paper_8 : decode cX7_paper 8 = .ok (.astore_n 3, 1) := by decide +kernel
theorem dX7_paper_9 : decode cX7_paper 9 = .ok (.aload_n 3, 1) := by decide +kernel
theorem dX7_paper_10 : decode cX7_paper 10 = .ok (.ifnonnull 7, 3) := by decide +kernel
theorem dX7_paper_13 : decode cX7_paper 13 = .ok (.iconst (-1), 1) := by decide +kernel
theorem dX7_paper_14 : decode cX7_paper 14 = .ok (.goto 8, 3) := by decide +kernel
theorem dX7_paper_17 : decode cX7_paper 17 = .ok (.aload_n 3, 1) := by decide +kernel
theorem dX7_paper_18 : decode cX7_paper 18 = .ok (.iload_n 2, 1) := by decide +kernel
theorem dX7_paper_19 : decode cX7_paper 19 = .ok (.invokevirtual 198, 3) := by decide +kernel
theorem dX7_paper_22 : decode cX7_paper 22 = .ok (.ireturn, 1) := by decide +kernel
theorem dX7_noted_0 : decode cX7_noted 0 = .ok (.aload_n 0, 1) := by decide +kernel
theorem dX7_noted_1 : decode cX7_noted 1 = .ok (.getfield 18, 3) := by decide +kernel
theorem dX7_noted_4 : decode cX7_noted 4 = .ok (.iload_n 1, 1) := by decide +kernel
theorem dX7_noted_5 : decode cX7_noted 5 = .ok (.invokevirtual 108, 3) := by decide +kernel
theorem dX7_noted_8 : decode cX7_noted 8 = .ok (.astore_n 2, 1) := by decide +kernel
theorem dX7_noted_9 : decode cX7_noted 9 = .ok (.aload_n 2, 1) := by decide +kernel
theorem dX7_noted_10 : decode cX7_noted 10 = .ok (.ifnonnull 7, 3) := by decide +kernel
theorem dX7_noted_13 : decode cX7_noted 13 = .ok (.lconst 0, 1) := by decide +kernel
theorem dX7_noted_14 : decode cX7_noted 14 = .ok (.goto 7, 3) := by decide +kernel
theorem dX7_noted_17 : decode cX7_noted 17 = .ok (.aload_n 2, 1) := by decide +kernel
theorem dX7_noted_18 : decode cX7_noted 18 = .ok (.getfield 150, 3) := by decide +kernel
theorem dX7_noted_21 : decode cX7_noted 21 = .ok (.lreturn, 1) := by decide +kernel
theorem dX7_annex_0 : decode cX7_annex 0 = .ok (.aload_n 0, 1) := by decide +kernel
theorem dX7_annex_1 : decode cX7_annex 1 = .ok (.iload_n 1, 1) := by decide +kernel
theorem dX7_annex_2 : decode cX7_annex 2 = .ok (.invokevirtual 50, 3) := by decide +kernel
theorem dX7_annex_5 : decode cX7_annex 5 = .ok (.astore 4, 2) := by decide +kernel
theorem dX7_annex_7 : decode cX7_annex 7 = .ok (.aload 4, 2) := by decide +kernel
theorem dX7_annex_9 : decode cX7_annex 9 = .ok (.ifnull 18, 3) := by decide +kernel
theorem dX7_annex_12 : decode cX7_annex 12 = .ok (.iconst 0, 1) := by decide +kernel
theorem dX7_annex_13 : decode cX7_annex 13 = .ok (.iconst 3, 1) := by decide +kernel
theorem dX7_annex_14 : decode cX7_annex 14 = .ok (.iload_n 2, 1) := by decide +kernel
theorem dX7_annex_15 : decode cX7_annex 15 = .ok (.invokestatic 43, 3) := by decide +kernel
theorem dX7_annex_18 : decode cX7_annex 18 = .ok (.ifCond .eq 9, 3) := by decide +kernel
theorem dX7_annex_21 : decode cX7_annex 21 = .ok (.iload_n 3, 1) := by decide +kernel
theorem dX7_annex_22 : decode cX7_annex 22 = .ok (.bipush 100, 2) := by decide +kernel
theorem dX7_annex_24 : decode cX7_annex 24 = .ok (.if_icmp .le 6, 3) := by decide +kernel
theorem dX7_annex_27 : decode cX7_annex 27 = .ok (.bipush (-2), 2) := by decide +kernel
theorem dX7_annex_29 : decode cX7_annex 29 = .ok (.ireturn, 1) := by decide +kernel
theorem dX7_annex_30 : decode cX7_annex 30 = .ok (.aload 4, 2) := by decide +kernel
theorem dX7_annex_32 : decode cX7_annex 32 = .ok (.getfield 202, 3) := by decide +kernel
theorem dX7_annex_35 : decode cX7_annex 35 = .ok (.bipush 8, 2) := by decide +kernel
theorem dX7_annex_37 : decode cX7_annex 37 = .ok (.if_icmp .lt 6, 3) := by decide +kernel
theorem dX7_annex_40 : decode cX7_annex 40 = .ok (.bipush (-8), 2) := by decide +kernel
theorem dX7_annex_42 : decode cX7_annex 42 = .ok (.ireturn, 1) := by decide +kernel
theorem dX7_annex_43 : decode cX7_annex 43 = .ok (.iload_n 3, 1) := by decide +kernel
theorem dX7_annex_44 : decode cX7_annex 44 = .ok (.ifCond .ge 6, 3) := by decide +kernel
theorem dX7_annex_47 : decode cX7_annex 47 = .ok (.bipush (-3), 2) := by decide +kernel
theorem dX7_annex_49 : decode cX7_annex 49 = .ok (.ireturn, 1) := by decide +kernel
theorem dX7_annex_50 : decode cX7_annex 50 = .ok (.aload 4, 2) := by decide +kernel
theorem dX7_annex_52 : decode cX7_annex 52 = .ok (.new 205, 3) := by decide +kernel
theorem dX7_annex_55 : decode cX7_annex 55 = .ok (.dup, 1) := by decide +kernel
theorem dX7_annex_56 : decode cX7_annex 56 = .ok (.iload_n 2, 1) := by decide +kernel
theorem dX7_annex_57 : decode cX7_annex 57 = .ok (.iload_n 3, 1) := by decide +kernel
theorem dX7_annex_58 : decode cX7_annex 58 = .ok (.invokespecial 207, 3) := by decide +kernel
theorem dX7_annex_61 : decode cX7_annex 61 = .ok (.invokevirtual 210, 3) := by decide +kernel
theorem dX7_annex_64 : decode cX7_annex 64 = .ok (.ireturn, 1) := by decide +kernel
theorem dX7_tear_0 : decode cX7_tear 0 = .ok (.aload_n 0, 1) := by decide +kernel
theorem dX7_tear_1 : decode cX7_tear 1 = .ok (.iload_n 1, 1) := by decide +kernel
theorem dX7_tear_2 : decode cX7_tear 2 = .ok (.iload_n 2, 1) := by decide +kernel
theorem dX7_tear_3 : decode cX7_tear 3 = .ok (.invokevirtual 214, 3) := by decide +kernel
theorem dX7_tear_6 : decode cX7_tear 6 = .ok (.astore_n 3, 1) := by decide +kernel
theorem dX7_tear_7 : decode cX7_tear 7 = .ok (.aload_n 3, 1) := by decide +kernel
theorem dX7_tear_8 : decode cX7_tear 8 = .ok (.ifnull 10, 3) := by decide +kernel
theorem dX7_tear_11 : decode cX7_tear 11 = .ok (.aload_n 3, 1) := by decide +kernel
theorem dX7_tear_12 : decode cX7_tear 12 = .ok (.getfield 218, 3) := by decide +kernel
theorem dX7_tear_15 : decode cX7_tear 15 = .ok (.ifnonnull 5, 3) := by decide +kernel
theorem dX7_tear_18 : decode cX7_tear 18 = .ok (.iconst 0, 1) := by decide +kernel
theorem dX7_tear_19 : decode cX7_tear 19 = .ok (.ireturn, 1) := by decide +kernel
theorem dX7_tear_20 : decode cX7_tear 20 = .ok (.aload_n 3, 1) := by decide +kernel
theorem dX7_tear_21 : decode cX7_tear 21 = .ok (.aconst_null, 1) := by decide +kernel
theorem dX7_tear_22 : decode cX7_tear 22 = .ok (.putfield 218, 3) := by decide +kernel
theorem dX7_tear_25 : decode cX7_tear 25 = .ok (.iconst 1, 1) := by decide +kernel
theorem dX7_tear_26 : decode cX7_tear 26 = .ok (.ireturn, 1) := by decide +kernel
theorem dX7_write_0 : decode cX7_write 0 = .ok (.aload_n 0, 1) := by decide +kernel
theorem dX7_write_1 : decode cX7_write 1 = .ok (.iload_n 1, 1) := by decide +kernel
theorem dX7_write_2 : decode cX7_write 2 = .ok (.iload_n 2, 1) := by decide +kernel
theorem dX7_write_3 : decode cX7_write 3 = .ok (.invokevirtual 214, 3) := by decide +kernel
theorem dX7_write_6 : decode cX7_write 6 = .ok (.astore 6, 2) := by decide +kernel
theorem dX7_write_8 : decode cX7_write 8 = .ok (.aload 6, 2) := by decide +kernel
theorem dX7_write_10 : decode cX7_write 10 = .ok (.ifnonnull 6, 3) := by decide +kernel
theorem dX7_write_13 : decode cX7_write 13 = .ok (.bipush (-2), 2) := by decide +kernel
theorem dX7_write_15 : decode cX7_write 15 = .ok (.ireturn, 1) := by decide +kernel
theorem dX7_write_16 : decode cX7_write 16 = .ok (.aload 6, 2) := by decide +kernel
theorem dX7_write_18 : decode cX7_write 18 = .ok (.iload_n 3, 1) := by decide +kernel
theorem dX7_write_19 : decode cX7_write 19 = .ok (.lload 4, 2) := by decide +kernel
theorem dX7_write_21 : decode cX7_write 21 = .ok (.invokevirtual 222, 3) := by decide +kernel
theorem dX7_write_24 : decode cX7_write 24 = .ok (.ireturn, 1) := by decide +kernel
theorem dX7_read_0 : decode cX7_read 0 = .ok (.aload_n 0, 1) := by decide +kernel
theorem dX7_read_1 : decode cX7_read 1 = .ok (.iload_n 1, 1) := by decide +kernel
theorem dX7_read_2 : decode cX7_read 2 = .ok (.iload_n 2, 1) := by decide +kernel
theorem dX7_read_3 : decode cX7_read 3 = .ok (.invokevirtual 214, 3) := by decide +kernel
theorem dX7_read_6 : decode cX7_read 6 = .ok (.astore 4, 2) := by decide +kernel
theorem dX7_read_8 : decode cX7_read 8 = .ok (.aload 4, 2) := by decide +kernel
theorem dX7_read_10 : decode cX7_read 10 = .ok (.ifnonnull 7, 3) := by decide +kernel
theorem dX7_read_13 : decode cX7_read 13 = .ok (.lconst 0, 1) := by decide +kernel
theorem dX7_read_14 : decode cX7_read 14 = .ok (.goto 9, 3) := by decide +kernel
theorem dX7_read_17 : decode cX7_read 17 = .ok (.aload 4, 2) := by decide +kernel
theorem dX7_read_19 : decode cX7_read 19 = .ok (.iload_n 3, 1) := by decide +kernel
theorem dX7_read_20 : decode cX7_read 20 = .ok (.invokevirtual 226, 3) := by decide +kernel
theorem dX7_read_23 : decode cX7_read 23 = .ok (.lreturn, 1) := by decide +kernel
theorem dX7_size_0 : decode cX7_size 0 = .ok (.aload_n 0, 1) := by decide +kernel
theorem dX7_size_1 : decode cX7_size 1 = .ok (.iload_n 1, 1) := by decide +kernel
theorem dX7_size_2 : decode cX7_size 2 = .ok (.iload_n 2, 1) := by decide +kernel
theorem dX7_size_3 : decode cX7_size 3 = .ok (.invokevirtual 214, 3) := by decide +kernel
theorem dX7_size_6 : decode cX7_size 6 = .ok (.astore_n 3, 1) := by decide +kernel
theorem dX7_size_7 : decode cX7_size 7 = .ok (.aload_n 3, 1) := by decide +kernel
theorem dX7_size_8 : decode cX7_size 8 = .ok (.ifnonnull 6, 3) := by decide +kernel
theorem dX7_size_11 : decode cX7_size 11 = .ok (.bipush (-2), 2) := by decide +kernel
theorem dX7_size_13 : decode cX7_size 13 = .ok (.ireturn, 1) := by decide +kernel
theorem dX7_size_14 : decode cX7_size 14 = .ok (.aload_n 3, 1) := by decide +kernel
theorem dX7_size_15 : decode cX7_size 15 = .ok (.getfield 218, 3) := by decide +kernel
theorem dX7_size_18 : decode cX7_size 18 = .ok (.ifnonnull 8, 3) := by decide +kernel
theorem dX7_size_21 : decode cX7_size 21 = .ok (.bipush (-5), 2) := by decide +kernel
theorem dX7_size_23 : decode cX7_size 23 = .ok (.goto 8, 3) := by decide +kernel
theorem dX7_size_26 : decode cX7_size 26 = .ok (.aload_n 3, 1) := by decide +kernel
theorem dX7_size_27 : decode cX7_size 27 = .ok (.getfield 218, 3) := by decide +kernel
theorem dX7_size_30 : decode cX7_size 30 = .ok (.arraylength, 1) := by decide +kernel
theorem dX7_size_31 : decode cX7_size 31 = .ok (.ireturn, 1) := by decide +kernel
theorem dX7_copy_0 : decode cX7_copy 0 = .ok (.aload_n 0, 1) := by decide +kernel
theorem dX7_copy_1 : decode cX7_copy 1 = .ok (.iload_n 1, 1) := by decide +kernel
theorem dX7_copy_2 : decode cX7_copy 2 = .ok (.iload_n 2, 1) := by decide +kernel
theorem dX7_copy_3 : decode cX7_copy 3 = .ok (.invokevirtual 214, 3) := by decide +kernel
theorem dX7_copy_6 : decode cX7_copy 6 = .ok (.astore 8, 2) := by decide +kernel
theorem dX7_copy_8 : decode cX7_copy 8 = .ok (.aload_n 0, 1) := by decide +kernel
theorem dX7_copy_9 : decode cX7_copy 9 = .ok (.iload 4, 2) := by decide +kernel
theorem dX7_copy_11 : decode cX7_copy 11 = .ok (.iload 5, 2) := by decide +kernel
theorem dX7_copy_13 : decode cX7_copy 13 = .ok (.invokevirtual 214, 3) := by decide +kernel
theorem dX7_copy_16 : decode cX7_copy 16 = .ok (.astore 9, 2) := by decide +kernel
theorem dX7_copy_18 : decode cX7_copy 18 = .ok (.aload 8, 2) := by decide +kernel
theorem dX7_copy_20 : decode cX7_copy 20 = .ok (.ifnull 8, 3) := by decide +kernel
theorem dX7_copy_23 : decode cX7_copy 23 = .ok (.aload 9, 2) := by decide +kernel
theorem dX7_copy_25 : decode cX7_copy 25 = .ok (.ifnonnull 6, 3) := by decide +kernel
theorem dX7_copy_28 : decode cX7_copy 28 = .ok (.bipush (-2), 2) := by decide +kernel
theorem dX7_copy_30 : decode cX7_copy 30 = .ok (.ireturn, 1) := by decide +kernel
theorem dX7_copy_31 : decode cX7_copy 31 = .ok (.aload 8, 2) := by decide +kernel
theorem dX7_copy_33 : decode cX7_copy 33 = .ok (.getfield 218, 3) := by decide +kernel
theorem dX7_copy_36 : decode cX7_copy 36 = .ok (.ifnull 11, 3) := by decide +kernel
theorem dX7_copy_39 : decode cX7_copy 39 = .ok (.aload 9, 2) := by decide +kernel
theorem dX7_copy_41 : decode cX7_copy 41 = .ok (.getfield 218, 3) := by decide +kernel
theorem dX7_copy_44 : decode cX7_copy 44 = .ok (.ifnonnull 6, 3) := by decide +kernel
theorem dX7_copy_47 : decode cX7_copy 47 = .ok (.bipush (-5), 2) := by decide +kernel
theorem dX7_copy_49 : decode cX7_copy 49 = .ok (.ireturn, 1) := by decide +kernel
theorem dX7_copy_50 : decode cX7_copy 50 = .ok (.aload 8, 2) := by decide +kernel
theorem dX7_copy_52 : decode cX7_copy 52 = .ok (.getfield 230, 3) := by decide +kernel
theorem dX7_copy_55 : decode cX7_copy 55 = .ok (.aload 9, 2) := by decide +kernel
theorem dX7_copy_57 : decode cX7_copy 57 = .ok (.getfield 230, 3) := by decide +kernel
theorem dX7_copy_60 : decode cX7_copy 60 = .ok (.if_icmp .eq 6, 3) := by decide +kernel
theorem dX7_copy_63 : decode cX7_copy 63 = .ok (.bipush (-7), 2) := by decide +kernel
theorem dX7_copy_65 : decode cX7_copy 65 = .ok (.ireturn, 1) := by decide +kernel
theorem dX7_copy_66 : decode cX7_copy 66 = .ok (.aload 8, 2) := by decide +kernel
theorem dX7_copy_68 : decode cX7_copy 68 = .ok (.iload_n 3, 1) := by decide +kernel
theorem dX7_copy_69 : decode cX7_copy 69 = .ok (.iload 7, 2) := by decide +kernel
theorem dX7_copy_71 : decode cX7_copy 71 = .ok (.invokevirtual 233, 3) := by decide +kernel
theorem dX7_copy_74 : decode cX7_copy 74 = .ok (.ifCond .eq 15, 3) := by decide +kernel
theorem dX7_copy_77 : decode cX7_copy 77 = .ok (.aload 9, 2) := by decide +kernel
theorem dX7_copy_79 : decode cX7_copy 79 = .ok (.iload 6, 2) := by decide +kernel
theorem dX7_copy_81 : decode cX7_copy 81 = .ok (.iload 7, 2) := by decide +kernel
theorem dX7_copy_83 : decode cX7_copy 83 = .ok (.invokevirtual 233, 3) := by decide +kernel
theorem dX7_copy_86 : decode cX7_copy 86 = .ok (.ifCond .ne 6, 3) := by decide +kernel
theorem dX7_copy_89 : decode cX7_copy 89 = .ok (.bipush (-6), 2) := by decide +kernel
theorem dX7_copy_91 : decode cX7_copy 91 = .ok (.ireturn, 1) := by decide +kernel
theorem dX7_copy_92 : decode cX7_copy 92 = .ok (.aload 8, 2) := by decide +kernel
theorem dX7_copy_94 : decode cX7_copy 94 = .ok (.getfield 218, 3) := by decide +kernel
theorem dX7_copy_97 : decode cX7_copy 97 = .ok (.iload_n 3, 1) := by decide +kernel
theorem dX7_copy_98 : decode cX7_copy 98 = .ok (.aload 9, 2) := by decide +kernel
theorem dX7_copy_100 : decode cX7_copy 100 = .ok (.getfield 218, 3) := by decide +kernel
theorem dX7_copy_103 : decode cX7_copy 103 = .ok (.iload 6, 2) := by decide +kernel
theorem dX7_copy_105 : decode cX7_copy 105 = .ok (.iload 7, 2) := by decide +kernel
theorem dX7_copy_107 : decode cX7_copy 107 = .ok (.invokestatic 237, 3) := by decide +kernel
theorem dX7_copy_110 : decode cX7_copy 110 = .ok (.iconst 0, 1) := by decide +kernel
theorem dX7_copy_111 : decode cX7_copy 111 = .ok (.ireturn, 1) := by decide +kernel
theorem dX7_count_0 : decode cX7_count 0 = .ok (.iload_n 1, 1) := by decide +kernel
theorem dX7_count_1 : decode cX7_count 1 = .ok (.tableswitch 54 0 3 #[31, 36, 41, 49], 31) := by decide +kernel
theorem dX7_count_32 : decode cX7_count 32 = .ok (.aload_n 0, 1) := by decide +kernel
theorem dX7_count_33 : decode cX7_count 33 = .ok (.getfield 36, 3) := by decide +kernel
theorem dX7_count_36 : decode cX7_count 36 = .ok (.ireturn, 1) := by decide +kernel
theorem dX7_count_37 : decode cX7_count 37 = .ok (.aload_n 0, 1) := by decide +kernel
theorem dX7_count_38 : decode cX7_count 38 = .ok (.getfield 40, 3) := by decide +kernel
theorem dX7_count_41 : decode cX7_count 41 = .ok (.ireturn, 1) := by decide +kernel
theorem dX7_count_42 : decode cX7_count 42 = .ok (.aload_n 0, 1) := by decide +kernel
theorem dX7_count_43 : decode cX7_count 43 = .ok (.getfield 18, 3) := by decide +kernel
theorem dX7_count_46 : decode cX7_count 46 = .ok (.getfield 154, 3) := by decide +kernel
theorem dX7_count_49 : decode cX7_count 49 = .ok (.ireturn, 1) := by decide +kernel
theorem dX7_count_50 : decode cX7_count 50 = .ok (.aload_n 0, 1) := by decide +kernel
theorem dX7_count_51 : decode cX7_count 51 = .ok (.getfield 67, 3) := by decide +kernel
theorem dX7_count_54 : decode cX7_count 54 = .ok (.ireturn, 1) := by decide +kernel
theorem dX7_count_55 : decode cX7_count 55 = .ok (.iload_n 1, 1) := by decide +kernel
theorem dX7_count_56 : decode cX7_count 56 = .ok (.bipush 10, 2) := by decide +kernel
theorem dX7_count_58 : decode cX7_count 58 = .ok (.if_icmp .ge 5, 3) := by decide +kernel
theorem dX7_count_61 : decode cX7_count 61 = .ok (.iconst (-1), 1) := by decide +kernel
theorem dX7_count_62 : decode cX7_count 62 = .ok (.ireturn, 1) := by decide +kernel
theorem dX7_count_63 : decode cX7_count 63 = .ok (.aload_n 0, 1) := by decide +kernel
theorem dX7_count_64 : decode cX7_count 64 = .ok (.iload_n 1, 1) := by decide +kernel
theorem dX7_count_65 : decode cX7_count 65 = .ok (.bipush 10, 2) := by decide +kernel
theorem dX7_count_67 : decode cX7_count 67 = .ok (.idiv, 1) := by decide +kernel
theorem dX7_count_68 : decode cX7_count 68 = .ok (.iconst 1, 1) := by decide +kernel
theorem dX7_count_69 : decode cX7_count 69 = .ok (.isub, 1) := by decide +kernel
theorem dX7_count_70 : decode cX7_count 70 = .ok (.invokevirtual 50, 3) := by decide +kernel
theorem dX7_count_73 : decode cX7_count 73 = .ok (.astore_n 2, 1) := by decide +kernel
theorem dX7_count_74 : decode cX7_count 74 = .ok (.aload_n 2, 1) := by decide +kernel
theorem dX7_count_75 : decode cX7_count 75 = .ok (.ifnonnull 7, 3) := by decide +kernel
theorem dX7_count_78 : decode cX7_count 78 = .ok (.iconst (-1), 1) := by decide +kernel
theorem dX7_count_79 : decode cX7_count 79 = .ok (.goto 11, 3) := by decide +kernel
theorem dX7_count_82 : decode cX7_count 82 = .ok (.aload_n 2, 1) := by decide +kernel
theorem dX7_count_83 : decode cX7_count 83 = .ok (.iload_n 1, 1) := by decide +kernel
theorem dX7_count_84 : decode cX7_count 84 = .ok (.bipush 10, 2) := by decide +kernel
theorem dX7_count_86 : decode cX7_count 86 = .ok (.irem, 1) := by decide +kernel
theorem dX7_count_87 : decode cX7_count 87 = .ok (.invokevirtual 243, 3) := by decide +kernel
theorem dX7_count_90 : decode cX7_count 90 = .ok (.ireturn, 1) := by decide +kernel
theorem dX7_settle_0 : decode cX7_settle 0 = .ok (.aload_n 0, 1) := by decide +kernel
theorem dX7_settle_1 : decode cX7_settle 1 = .ok (.iload_n 3, 1) := by decide +kernel
theorem dX7_settle_2 : decode cX7_settle 2 = .ok (.invokevirtual 50, 3) := by decide +kernel
theorem dX7_settle_5 : decode cX7_settle 5 = .ok (.astore 7, 2) := by decide +kernel
theorem dX7_settle_7 : decode cX7_settle 7 = .ok (.aload_n 0, 1) := by decide +kernel
theorem dX7_settle_8 : decode cX7_settle 8 = .ok (.iload_n 1, 1) := by decide +kernel
theorem dX7_settle_9 : decode cX7_settle 9 = .ok (.invokevirtual 71, 3) := by decide +kernel
theorem dX7_settle_12 : decode cX7_settle 12 = .ok (.ifCond .eq 31, 3) := by decide +kernel
theorem dX7_settle_15 : decode cX7_settle 15 = .ok (.aload_n 0, 1) := by decide +kernel
theorem dX7_settle_16 : decode cX7_settle 16 = .ok (.iload_n 2, 1) := by decide +kernel
theorem dX7_settle_17 : decode cX7_settle 17 = .ok (.invokevirtual 71, 3) := by decide +kernel
theorem dX7_settle_20 : decode cX7_settle 20 = .ok (.ifCond .eq 23, 3) := by decide +kernel
theorem dX7_settle_23 : decode cX7_settle 23 = .ok (.iload_n 1, 1) := by decide +kernel
theorem dX7_settle_24 : decode cX7_settle 24 = .ok (.iload_n 2, 1) := by decide +kernel
theorem dX7_settle_25 : decode cX7_settle 25 = .ok (.if_icmp .eq 18, 3) := by decide +kernel
theorem dX7_settle_28 : decode cX7_settle 28 = .ok (.aload 7, 2) := by decide +kernel
theorem dX7_settle_30 : decode cX7_settle 30 = .ok (.ifnull 13, 3) := by decide +kernel
theorem dX7_settle_33 : decode cX7_settle 33 = .ok (.aload 7, 2) := by decide +kernel
theorem dX7_settle_35 : decode cX7_settle 35 = .ok (.iload 4, 2) := by decide +kernel
theorem dX7_settle_37 : decode cX7_settle 37 = .ok (.invokevirtual 54, 3) := by decide +kernel
theorem dX7_settle_40 : decode cX7_settle 40 = .ok (.ifCond .ne 5, 3) := by decide +kernel
theorem dX7_settle_43 : decode cX7_settle 43 = .ok (.iconst 0, 1) := by decide +kernel
theorem dX7_settle_44 : decode cX7_settle 44 = .ok (.ireturn, 1) := by decide +kernel
theorem dX7_settle_45 : decode cX7_settle 45 = .ok (.iload 5, 2) := by decide +kernel
theorem dX7_settle_47 : decode cX7_settle 47 = .ok (.invokestatic 178, 3) := by decide +kernel
theorem dX7_settle_50 : decode cX7_settle 50 = .ok (.ifCond .eq 11, 3) := by decide +kernel
theorem dX7_settle_53 : decode cX7_settle 53 = .ok (.iload 6, 2) := by decide +kernel
theorem dX7_settle_55 : decode cX7_settle 55 = .ok (.invokestatic 178, 3) := by decide +kernel
theorem dX7_settle_58 : decode cX7_settle 58 = .ok (.ifCond .ne 5, 3) := by decide +kernel
theorem dX7_settle_61 : decode cX7_settle 61 = .ok (.iconst 0, 1) := by decide +kernel
theorem dX7_settle_62 : decode cX7_settle 62 = .ok (.ireturn, 1) := by decide +kernel
theorem dX7_settle_63 : decode cX7_settle 63 = .ok (.aload_n 0, 1) := by decide +kernel
theorem dX7_settle_64 : decode cX7_settle 64 = .ok (.getfield 32, 3) := by decide +kernel
theorem dX7_settle_67 : decode cX7_settle 67 = .ok (.aload_n 0, 1) := by decide +kernel
theorem dX7_settle_68 : decode cX7_settle 68 = .ok (.getfield 18, 3) := by decide +kernel
theorem dX7_settle_71 : decode cX7_settle 71 = .ok (.iload_n 1, 1) := by decide +kernel
theorem dX7_settle_72 : decode cX7_settle 72 = .ok (.iload_n 2, 1) := by decide +kernel
theorem dX7_settle_73 : decode cX7_settle 73 = .ok (.aload 7, 2) := by decide +kernel
theorem dX7_settle_75 : decode cX7_settle 75 = .ok (.iload 4, 2) := by decide +kernel
theorem dX7_settle_77 : decode cX7_settle 77 = .ok (.iload 5, 2) := by decide +kernel
theorem dX7_settle_79 : decode cX7_settle 79 = .ok (.iload 6, 2) := by decide +kernel
theorem dX7_settle_81 : decode cX7_settle 81 = .ok (.invokevirtual 244, 3) := by decide +kernel
theorem dX7_settle_84 : decode cX7_settle 84 = .ok (.iconst 1, 1) := by decide +kernel
theorem dX7_settle_85 : decode cX7_settle 85 = .ok (.ireturn, 1) := by decide +kernel
theorem dX7_agreementAt_0 : decode cX7_agreementAt 0 = .ok (.iload_n 1, 1) := by decide +kernel
theorem dX7_agreementAt_1 : decode cX7_agreementAt 1 = .ok (.ifCond .lt 29, 3) := by decide +kernel
theorem dX7_agreementAt_4 : decode cX7_agreementAt 4 = .ok (.iload_n 1, 1) := by decide +kernel
theorem dX7_agreementAt_5 : decode cX7_agreementAt 5 = .ok (.aload_n 0, 1) := by decide +kernel
theorem dX7_agreementAt_6 : decode cX7_agreementAt 6 = .ok (.getfield 40, 3) := by decide +kernel
theorem dX7_agreementAt_9 : decode cX7_agreementAt 9 = .ok (.if_icmp .ge 21, 3) := by decide +kernel
theorem dX7_agreementAt_12 : decode cX7_agreementAt 12 = .ok (.iload_n 1, 1) := by decide +kernel
theorem dX7_agreementAt_13 : decode cX7_agreementAt 13 = .ok (.aload_n 0, 1) := by decide +kernel
theorem dX7_agreementAt_14 : decode cX7_agreementAt 14 = .ok (.getfield 11, 3) := by decide +kernel
theorem dX7_agreementAt_17 : decode cX7_agreementAt 17 = .ok (.arraylength, 1) := by decide +kernel
theorem dX7_agreementAt_18 : decode cX7_agreementAt 18 = .ok (.if_icmp .ge 12, 3) := by decide +kernel
theorem dX7_agreementAt_21 : decode cX7_agreementAt 21 = .ok (.aload_n 0, 1) := by decide +kernel
theorem dX7_agreementAt_22 : decode cX7_agreementAt 22 = .ok (.getfield 11, 3) := by decide +kernel
theorem dX7_agreementAt_25 : decode cX7_agreementAt 25 = .ok (.iload_n 1, 1) := by decide +kernel
theorem dX7_agreementAt_26 : decode cX7_agreementAt 26 = .ok (.aaload, 1) := by decide +kernel
theorem dX7_agreementAt_27 : decode cX7_agreementAt 27 = .ok (.goto 4, 3) := by decide +kernel
theorem dX7_agreementAt_30 : decode cX7_agreementAt 30 = .ok (.aconst_null, 1) := by decide +kernel
theorem dX7_agreementAt_31 : decode cX7_agreementAt 31 = .ok (.areturn, 1) := by decide +kernel
theorem dX7_annexAt_0 : decode cX7_annexAt 0 = .ok (.aload_n 0, 1) := by decide +kernel
theorem dX7_annexAt_1 : decode cX7_annexAt 1 = .ok (.iload_n 1, 1) := by decide +kernel
theorem dX7_annexAt_2 : decode cX7_annexAt 2 = .ok (.invokevirtual 50, 3) := by decide +kernel
theorem dX7_annexAt_5 : decode cX7_annexAt 5 = .ok (.astore_n 3, 1) := by decide +kernel
theorem dX7_annexAt_6 : decode cX7_annexAt 6 = .ok (.aload_n 3, 1) := by decide +kernel
theorem dX7_annexAt_7 : decode cX7_annexAt 7 = .ok (.ifnonnull 7, 3) := by decide +kernel
theorem dX7_annexAt_10 : decode cX7_annexAt 10 = .ok (.aconst_null, 1) := by decide +kernel
theorem dX7_annexAt_11 : decode cX7_annexAt 11 = .ok (.goto 8, 3) := by decide +kernel
theorem dX7_annexAt_14 : decode cX7_annexAt 14 = .ok (.aload_n 3, 1) := by decide +kernel
theorem dX7_annexAt_15 : decode cX7_annexAt 15 = .ok (.iload_n 2, 1) := by decide +kernel
theorem dX7_annexAt_16 : decode cX7_annexAt 16 = .ok (.invokevirtual 247, 3) := by decide +kernel
theorem dX7_annexAt_19 : decode cX7_annexAt 19 = .ok (.areturn, 1) := by decide +kernel
theorem dX7_isParty_0 : decode cX7_isParty 0 = .ok (.iload_n 1, 1) := by decide +kernel
theorem dX7_isParty_1 : decode cX7_isParty 1 = .ok (.ifCond .lt 15, 3) := by decide +kernel
theorem dX7_isParty_4 : decode cX7_isParty 4 = .ok (.iload_n 1, 1) := by decide +kernel
theorem dX7_isParty_5 : decode cX7_isParty 5 = .ok (.aload_n 0, 1) := by decide +kernel
theorem dX7_isParty_6 : decode cX7_isParty 6 = .ok (.getfield 36, 3) := by decide +kernel
theorem dX7_isParty_9 : decode cX7_isParty 9 = .ok (.if_icmp .ge 7, 3) := by decide +kernel
theorem dX7_isParty_12 : decode cX7_isParty 12 = .ok (.iconst 1, 1) := by decide +kernel
theorem dX7_isParty_13 : decode cX7_isParty 13 = .ok (.goto 4, 3) := by decide +kernel
theorem dX7_isParty_16 : decode cX7_isParty 16 = .ok (.iconst 0, 1) := by decide +kernel
theorem dX7_isParty_17 : decode cX7_isParty 17 = .ok (.ireturn, 1) := by decide +kernel
theorem dX7_isDay_0 : decode cX7_isDay 0 = .ok (.iconst 0, 1) := by decide +kernel
theorem dX7_isDay_1 : decode cX7_isDay 1 = .ok (.ldc 70, 2) := by decide +kernel
theorem dX7_isDay_3 : decode cX7_isDay 3 = .ok (.iload_n 0, 1) := by decide +kernel
theorem dX7_isDay_4 : decode cX7_isDay 4 = .ok (.invokestatic 43, 3) := by decide +kernel
theorem dX7_isDay_7 : decode cX7_isDay 7 = .ok (.ireturn, 1) := by decide +kernel
theorem dX7_isFrom_0 : decode cX7_isFrom 0 = .ok (.iload_n 2, 1) := by decide +kernel
theorem dX7_isFrom_1 : decode cX7_isFrom 1 = .ok (.iload_n 0, 1) := by decide +kernel
theorem dX7_isFrom_2 : decode cX7_isFrom 2 = .ok (.if_icmp .lt 12, 3) := by decide +kernel
theorem dX7_isFrom_5 : decode cX7_isFrom 5 = .ok (.iload_n 2, 1) := by decide +kernel
theorem dX7_isFrom_6 : decode cX7_isFrom 6 = .ok (.iload_n 1, 1) := by decide +kernel
theorem dX7_isFrom_7 : decode cX7_isFrom 7 = .ok (.if_icmp .gt 7, 3) := by decide +kernel
theorem dX7_isFrom_10 : decode cX7_isFrom 10 = .ok (.iconst 1, 1) := by decide +kernel
theorem dX7_isFrom_11 : decode cX7_isFrom 11 = .ok (.goto 4, 3) := by decide +kernel
theorem dX7_isFrom_14 : decode cX7_isFrom 14 = .ok (.iconst 0, 1) := by decide +kernel
theorem dX7_isFrom_15 : decode cX7_isFrom 15 = .ok (.ireturn, 1) := by decide +kernel
theorem dX7_numberOf_0 : decode cX7_numberOf 0 = .ok (.aload_n 0, 1) := by decide +kernel
theorem dX7_numberOf_1 : decode cX7_numberOf 1 = .ok (.ifnonnull 7, 3) := by decide +kernel
theorem dX7_numberOf_4 : decode cX7_numberOf 4 = .ok (.iconst (-1), 1) := by decide +kernel
theorem dX7_numberOf_5 : decode cX7_numberOf 5 = .ok (.goto 7, 3) := by decide +kernel
theorem dX7_numberOf_8 : decode cX7_numberOf 8 = .ok (.aload_n 0, 1) := by decide +kernel
theorem dX7_numberOf_9 : decode cX7_numberOf 9 = .ok (.getfield 86, 3) := by decide +kernel
theorem dX7_numberOf_12 : decode cX7_numberOf 12 = .ok (.ireturn, 1) := by decide +kernel
theorem dX8_init_0 : decode cX8_init 0 = .ok (.aload_n 0, 1) := by decide +kernel
theorem dX8_init_1 : decode cX8_init 1 = .ok (.invokespecial 1, 3) := by decide +kernel
theorem dX8_init_4 : decode cX8_init 4 = .ok (.aload_n 0, 1) := by decide +kernel
theorem dX8_init_5 : decode cX8_init 5 = .ok (.bipush 10, 2) := by decide +kernel
theorem dX8_init_7 : decode cX8_init 7 = .ok (.newarray .int, 2) := by decide +kernel
theorem dX8_init_9 : decode cX8_init 9 = .ok (.putfield 7, 3) := by decide +kernel
theorem dX8_init_12 : decode cX8_init 12 = .ok (.aload_n 0, 1) := by decide +kernel
theorem dX8_init_13 : decode cX8_init 13 = .ok (.bipush 10, 2) := by decide +kernel
theorem dX8_init_15 : decode cX8_init 15 = .ok (.newarray .int, 2) := by decide +kernel
theorem dX8_init_17 : decode cX8_init 17 = .ok (.putfield 13, 3) := by decide +kernel
theorem dX8_init_20 : decode cX8_init 20 = .ok (.aload_n 0, 1) := by decide +kernel
theorem dX8_init_21 : decode cX8_init 21 = .ok (.bipush 10, 2) := by decide +kernel
theorem dX8_init_23 : decode cX8_init 23 = .ok (.newarray .int, 2) := by decide +kernel
theorem dX8_init_25 : decode cX8_init 25 = .ok (.putfield 16, 3) := by decide +kernel
theorem dX8_init_28 : decode cX8_init 28 = .ok (.aload_n 0, 1) := by decide +kernel
theorem dX8_init_29 : decode cX8_init 29 = .ok (.bipush 10, 2) := by decide +kernel
theorem dX8_init_31 : decode cX8_init 31 = .ok (.newarray .int, 2) := by decide +kernel
theorem dX8_init_33 : decode cX8_init 33 = .ok (.putfield 19, 3) := by decide +kernel
theorem dX8_init_36 : decode cX8_init 36 = .ok (.aload_n 0, 1) := by decide +kernel
theorem dX8_init_37 : decode cX8_init 37 = .ok (.sipush 200, 3) := by decide +kernel
theorem dX8_init_40 : decode cX8_init 40 = .ok (.newarray .int, 2) := by decide +kernel
theorem dX8_init_42 : decode cX8_init 42 = .ok (.putfield 22, 3) := by decide +kernel
theorem dX8_init_45 : decode cX8_init 45 = .ok (.aload_n 0, 1) := by decide +kernel
theorem dX8_init_46 : decode cX8_init 46 = .ok (.sipush 400, 3) := by decide +kernel
theorem dX8_init_49 : decode cX8_init 49 = .ok (.newarray .int, 2) := by decide +kernel
theorem dX8_init_51 : decode cX8_init 51 = .ok (.putfield 25, 3) := by decide +kernel
theorem dX8_init_54 : decode cX8_init 54 = .ok (.aload_n 0, 1) := by decide +kernel
theorem dX8_init_55 : decode cX8_init 55 = .ok (.sipush 400, 3) := by decide +kernel
theorem dX8_init_58 : decode cX8_init 58 = .ok (.newarray .int, 2) := by decide +kernel
theorem dX8_init_60 : decode cX8_init 60 = .ok (.putfield 28, 3) := by decide +kernel
theorem dX8_init_63 : decode cX8_init 63 = .ok (.aload_n 0, 1) := by decide +kernel
theorem dX8_init_64 : decode cX8_init 64 = .ok (.sipush 400, 3) := by decide +kernel
theorem dX8_init_67 : decode cX8_init 67 = .ok (.newarray .int, 2) := by decide +kernel
theorem dX8_init_69 : decode cX8_init 69 = .ok (.putfield 31, 3) := by decide +kernel
theorem dX8_init_72 : decode cX8_init 72 = .ok (.aload_n 0, 1) := by decide +kernel
theorem dX8_init_73 : decode cX8_init 73 = .ok (.sipush 400, 3) := by decide +kernel
theorem dX8_init_76 : decode cX8_init 76 = .ok (.newarray .int, 2) := by decide +kernel
theorem dX8_init_78 : decode cX8_init 78 = .ok (.putfield 34, 3) := by decide +kernel
theorem dX8_init_81 : decode cX8_init 81 = .ok (.aload_n 0, 1) := by decide +kernel
theorem dX8_init_82 : decode cX8_init 82 = .ok (.sipush 400, 3) := by decide +kernel
theorem dX8_init_85 : decode cX8_init 85 = .ok (.newarray .int, 2) := by decide +kernel
theorem dX8_init_87 : decode cX8_init 87 = .ok (.putfield 37, 3) := by decide +kernel
theorem dX8_init_90 : decode cX8_init 90 = .ok (.aload_n 0, 1) := by decide +kernel
theorem dX8_init_91 : decode cX8_init 91 = .ok (.sipush 400, 3) := by decide +kernel
theorem dX8_init_94 : decode cX8_init 94 = .ok (.newarray .int, 2) := by decide +kernel
theorem dX8_init_96 : decode cX8_init 96 = .ok (.putfield 40, 3) := by decide +kernel
theorem dX8_init_99 : decode cX8_init 99 = .ok (.aload_n 0, 1) := by decide +kernel
theorem dX8_init_100 : decode cX8_init 100 = .ok (.sipush 400, 3) := by decide +kernel
theorem dX8_init_103 : decode cX8_init 103 = .ok (.newarray .int, 2) := by decide +kernel
theorem dX8_init_105 : decode cX8_init 105 = .ok (.putfield 43, 3) := by decide +kernel
theorem dX8_init_108 : decode cX8_init 108 = .ok (.aload_n 0, 1) := by decide +kernel
theorem dX8_init_109 : decode cX8_init 109 = .ok (.sipush 400, 3) := by decide +kernel
theorem dX8_init_112 : decode cX8_init 112 = .ok (.newarray .int, 2) := by decide +kernel
theorem dX8_init_114 : decode cX8_init 114 = .ok (.putfield 46, 3) := by decide +kernel
theorem dX8_init_117 : decode cX8_init 117 = .ok (.aload_n 0, 1) := by decide +kernel
theorem dX8_init_118 : decode cX8_init 118 = .ok (.sipush 400, 3) := by decide +kernel
theorem dX8_init_121 : decode cX8_init 121 = .ok (.newarray .int, 2) := by decide +kernel
theorem dX8_init_123 : decode cX8_init 123 = .ok (.putfield 49, 3) := by decide +kernel
theorem dX8_init_126 : decode cX8_init 126 = .ok (.aload_n 0, 1) := by decide +kernel
theorem dX8_init_127 : decode cX8_init 127 = .ok (.sipush 400, 3) := by decide +kernel
theorem dX8_init_130 : decode cX8_init 130 = .ok (.newarray .int, 2) := by decide +kernel
theorem dX8_init_132 : decode cX8_init 132 = .ok (.putfield 52, 3) := by decide +kernel
theorem dX8_init_135 : decode cX8_init 135 = .ok (.aload_n 0, 1) := by decide +kernel
theorem dX8_init_136 : decode cX8_init 136 = .ok (.sipush 400, 3) := by decide +kernel
theorem dX8_init_139 : decode cX8_init 139 = .ok (.newarray .long, 2) := by decide +kernel
theorem dX8_init_141 : decode cX8_init 141 = .ok (.putfield 55, 3) := by decide +kernel
theorem dX8_init_144 : decode cX8_init 144 = .ok (.aload_n 0, 1) := by decide +kernel
theorem dX8_init_145 : decode cX8_init 145 = .ok (.sipush 400, 3) := by decide +kernel
theorem dX8_init_148 : decode cX8_init 148 = .ok (.newarray .boolean, 2) := by decide +kernel
theorem dX8_init_150 : decode cX8_init 150 = .ok (.putfield 59, 3) := by decide +kernel
theorem dX8_init_153 : decode cX8_init 153 = .ok (.aload_n 0, 1) := by decide +kernel
theorem dX8_init_154 : decode cX8_init 154 = .ok (.bipush 10, 2) := by decide +kernel
theorem dX8_init_156 : decode cX8_init 156 = .ok (.newarray .int, 2) := by decide +kernel
theorem dX8_init_158 : decode cX8_init 158 = .ok (.putfield 63, 3) := by decide +kernel
theorem dX8_init_161 : decode cX8_init 161 = .ok (.aload_n 0, 1) := by decide +kernel
theorem dX8_init_162 : decode cX8_init 162 = .ok (.bipush 80, 2) := by decide +kernel
theorem dX8_init_164 : decode cX8_init 164 = .ok (.newarray .int, 2) := by decide +kernel
theorem dX8_init_166 : decode cX8_init 166 = .ok (.putfield 66, 3) := by decide +kernel
theorem dX8_init_169 : decode cX8_init 169 = .ok (.aload_n 0, 1) := by decide +kernel
theorem dX8_init_170 : decode cX8_init 170 = .ok (.bipush 80, 2) := by decide +kernel
theorem dX8_init_172 : decode cX8_init 172 = .ok (.newarray .int, 2) := by decide +kernel
theorem dX8_init_174 : decode cX8_init 174 = .ok (.putfield 69, 3) := by decide +kernel
theorem dX8_init_177 : decode cX8_init 177 = .ok (.aload_n 0, 1) := by decide +kernel
theorem dX8_init_178 : decode cX8_init 178 = .ok (.sipush 8000, 3) := by decide +kernel
theorem dX8_init_181 : decode cX8_init 181 = .ok (.newarray .long, 2) := by decide +kernel
theorem dX8_init_183 : decode cX8_init 183 = .ok (.putfield 72, 3) := by decide +kernel
theorem dX8_init_186 : decode cX8_init 186 = .ok (.aload_n 0, 1) := by decide +kernel
theorem dX8_init_187 : decode cX8_init 187 = .ok (.bipush 100, 2) := by decide +kernel
theorem dX8_init_189 : decode cX8_init 189 = .ok (.newarray .long, 2) := by decide +kernel
theorem dX8_init_191 : decode cX8_init 191 = .ok (.putfield 75, 3) := by decide +kernel
theorem dX8_init_194 : decode cX8_init 194 = .ok (.return_, 1) := by decide +kernel
end
section
theorem dX8_isParty_0 : decode cX8_isParty 0 = .ok (.iload_n 1, 1) := by decide +kernel
theorem dX8_isParty_1 : decode cX8_isParty 1 = .ok (.ifCond .lt 15, 3) := by decide +kernel
theorem dX8_isParty_4 : decode cX8_isParty 4 = .ok (.iload_n 1, 1) := by decide +kernel
theorem dX8_isParty_5 : decode cX8_isParty 5 = .ok (.aload_n 0, 1) := by decide +kernel
theorem dX8_isParty_6 : decode cX8_isParty 6 = .ok (.getfield 78, 3) := by decide +kernel
theorem dX8_isParty_9 : decode cX8_isParty 9 = .ok (.if_icmp .ge 7, 3) := by decide +kernel
theorem dX8_isParty_12 : decode cX8_isParty 12 = .ok (.iconst 1, 1) := by decide +kernel
theorem dX8_isParty_13 : decode cX8_isParty 13 = .ok (.goto 4, 3) := by decide +kernel
theorem dX8_isParty_16 : decode cX8_isParty 16 = .ok (.iconst 0, 1) := by decide +kernel
theorem dX8_isParty_17 : decode cX8_isParty 17 = .ok (.ireturn, 1) := by decide +kernel
theorem dX8_isAgreement_0 : decode cX8_isAgreement 0 = .ok (.iload_n 1, 1) := by decide +kernel
theorem dX8_isAgreement_1 : decode cX8_isAgreement 1 = .ok (.ifCond .lt 15, 3) := by decide +kernel
theorem dX8_isAgreement_4 : decode cX8_isAgreement 4 = .ok (.iload_n 1, 1) := by decide +kernel
theorem dX8_isAgreement_5 : decode cX8_isAgreement 5 = .ok (.aload_n 0, 1) := by decide +kernel
theorem dX8_isAgreement_6 : decode cX8_isAgreement 6 = .ok (.getfield 82, 3) := by decide +kernel
theorem dX8_isAgreement_9 : decode cX8_isAgreement 9 = .ok (.if_icmp .ge 7, 3) := by decide +kernel
theorem dX8_isAgreement_12 : decode cX8_isAgreement 12 = .ok (.iconst 1, 1) := by decide +kernel
theorem dX8_isAgreement_13 : decode cX8_isAgreement 13 = .ok (.goto 4, 3) := by decide +kernel
theorem dX8_isAgreement_16 : decode cX8_isAgreement 16 = .ok (.iconst 0, 1) := by decide +kernel
theorem dX8_isAgreement_17 : decode cX8_isAgreement 17 = .ok (.ireturn, 1) := by decide +kernel
theorem dX8_isArticle_0 : decode cX8_isArticle 0 = .ok (.aload_n 0, 1) := by decide +kernel
theorem dX8_isArticle_1 : decode cX8_isArticle 1 = .ok (.iload_n 1, 1) := by decide +kernel
theorem dX8_isArticle_2 : decode cX8_isArticle 2 = .ok (.invokevirtual 85, 3) := by decide +kernel
theorem dX8_isArticle_5 : decode cX8_isArticle 5 = .ok (.ifCond .eq 21, 3) := by decide +kernel
theorem dX8_isArticle_8 : decode cX8_isArticle 8 = .ok (.iload_n 2, 1) := by decide +kernel
theorem dX8_isArticle_9 : decode cX8_isArticle 9 = .ok (.ifCond .lt 17, 3) := by decide +kernel
theorem dX8_isArticle_12 : decode cX8_isArticle 12 = .ok (.iload_n 2, 1) := by decide +kernel
theorem dX8_isArticle_13 : decode cX8_isArticle 13 = .ok (.aload_n 0, 1) := by decide +kernel
theorem dX8_isArticle_14 : decode cX8_isArticle 14 = .ok (.getfield 7, 3) := by decide +kernel
theorem dX8_isArticle_17 : decode cX8_isArticle 17 = .ok (.iload_n 1, 1) := by decide +kernel
theorem dX8_isArticle_18 : decode cX8_isArticle 18 = .ok (.iaload, 1) := by decide +kernel
theorem dX8_isArticle_19 : decode cX8_isArticle 19 = .ok (.if_icmp .ge 7, 3) := by decide +kernel
theorem dX8_isArticle_22 : decode cX8_isArticle 22 = .ok (.iconst 1, 1) := by decide +kernel
theorem dX8_isArticle_23 : decode cX8_isArticle 23 = .ok (.goto 4, 3) := by decide +kernel
theorem dX8_isArticle_26 : decode cX8_isArticle 26 = .ok (.iconst 0, 1) := by decide +kernel
theorem dX8_isArticle_27 : decode cX8_isArticle 27 = .ok (.ireturn, 1) := by decide +kernel
theorem dX8_isPaper_0 : decode cX8_isPaper 0 = .ok (.iload_n 1, 1) := by decide +kernel
theorem dX8_isPaper_1 : decode cX8_isPaper 1 = .ok (.ifCond .lt 15, 3) := by decide +kernel
theorem dX8_isPaper_4 : decode cX8_isPaper 4 = .ok (.iload_n 1, 1) := by decide +kernel
theorem dX8_isPaper_5 : decode cX8_isPaper 5 = .ok (.aload_n 0, 1) := by decide +kernel
theorem dX8_isPaper_6 : decode cX8_isPaper 6 = .ok (.getfield 89, 3) := by decide +kernel
theorem dX8_isPaper_9 : decode cX8_isPaper 9 = .ok (.if_icmp .ge 7, 3) := by decide +kernel
theorem dX8_isPaper_12 : decode cX8_isPaper 12 = .ok (.iconst 1, 1) := by decide +kernel
theorem dX8_isPaper_13 : decode cX8_isPaper 13 = .ok (.goto 4, 3) := by decide +kernel
theorem dX8_isPaper_16 : decode cX8_isPaper 16 = .ok (.iconst 0, 1) := by decide +kernel
theorem dX8_isPaper_17 : decode cX8_isPaper 17 = .ok (.ireturn, 1) := by decide +kernel
theorem dX8_isDay_0 : decode cX8_isDay 0 = .ok (.iload_n 0, 1) := by decide +kernel
theorem dX8_isDay_1 : decode cX8_isDay 1 = .ok (.ifCond .lt 13, 3) := by decide +kernel
theorem dX8_isDay_4 : decode cX8_isDay 4 = .ok (.iload_n 0, 1) := by decide +kernel
theorem dX8_isDay_5 : decode cX8_isDay 5 = .ok (.ldc 92, 2) := by decide +kernel
theorem dX8_isDay_7 : decode cX8_isDay 7 = .ok (.if_icmp .gt 7, 3) := by decide +kernel
theorem dX8_isDay_10 : decode cX8_isDay 10 = .ok (.iconst 1, 1) := by decide +kernel
theorem dX8_isDay_11 : decode cX8_isDay 11 = .ok (.goto 4, 3) := by decide +kernel
theorem dX8_isDay_14 : decode cX8_isDay 14 = .ok (.iconst 0, 1) := by decide +kernel
theorem dX8_isDay_15 : decode cX8_isDay 15 = .ok (.ireturn, 1) := by decide +kernel
theorem dX8_party_0 : decode cX8_party 0 = .ok (.aload_n 0, 1) := by decide +kernel
theorem dX8_party_1 : decode cX8_party 1 = .ok (.getfield 78, 3) := by decide +kernel
theorem dX8_party_4 : decode cX8_party 4 = .ok (.bipush 30, 2) := by decide +kernel
theorem dX8_party_6 : decode cX8_party 6 = .ok (.if_icmp .ne 5, 3) := by decide +kernel
theorem dX8_party_9 : decode cX8_party 9 = .ok (.iconst (-1), 1) := by decide +kernel
theorem dX8_party_10 : decode cX8_party 10 = .ok (.ireturn, 1) := by decide +kernel
theorem dX8_party_11 : decode cX8_party 11 = .ok (.aload_n 0, 1) := by decide +kernel
theorem dX8_party_12 : decode cX8_party 12 = .ok (.dup, 1) := by decide +kernel
theorem dX8_party_13 : decode cX8_party 13 = .ok (.getfield 78, 3) := by decide +kernel
theorem dX8_party_16 : decode cX8_party 16 = .ok (.iconst 1, 1) := by decide +kernel
theorem dX8_party_17 : decode cX8_party 17 = .ok (.iadd, 1) := by decide +kernel
theorem dX8_party_18 : decode cX8_party 18 = .ok (.putfield 78, 3) := by decide +kernel
theorem dX8_party_21 : decode cX8_party 21 = .ok (.aload_n 0, 1) := by decide +kernel
theorem dX8_party_22 : decode cX8_party 22 = .ok (.getfield 78, 3) := by decide +kernel
theorem dX8_party_25 : decode cX8_party 25 = .ok (.iconst 1, 1) := by decide +kernel
theorem dX8_party_26 : decode cX8_party 26 = .ok (.isub, 1) := by decide +kernel
theorem dX8_party_27 : decode cX8_party 27 = .ok (.ireturn, 1) := by decide +kernel
theorem dX8_agreement_0 : decode cX8_agreement 0 = .ok (.iload_n 1, 1) := by decide +kernel
theorem dX8_agreement_1 : decode cX8_agreement 1 = .ok (.iconst 1, 1) := by decide +kernel
theorem dX8_agreement_2 : decode cX8_agreement 2 = .ok (.if_icmp .lt 24, 3) := by decide +kernel
theorem dX8_agreement_5 : decode cX8_agreement 5 = .ok (.iload_n 1, 1) := by decide +kernel
theorem dX8_agreement_6 : decode cX8_agreement 6 = .ok (.bipush 20, 2) := by decide +kernel
theorem dX8_agreement_8 : decode cX8_agreement 8 = .ok (.if_icmp .gt 18, 3) := by decide +kernel
theorem dX8_agreement_11 : decode cX8_agreement 11 = .ok (.iload_n 2, 1) := by decide +kernel
theorem dX8_agreement_12 : decode cX8_agreement 12 = .ok (.iconst 1, 1) := by decide +kernel
theorem dX8_agreement_13 : decode cX8_agreement 13 = .ok (.if_icmp .lt 13, 3) := by decide +kernel
theorem dX8_agreement_16 : decode cX8_agreement 16 = .ok (.iload_n 2, 1) := by decide +kernel
theorem dX8_agreement_17 : decode cX8_agreement 17 = .ok (.bipush 10, 2) := by decide +kernel
theorem dX8_agreement_19 : decode cX8_agreement 19 = .ok (.if_icmp .gt 7, 3) := by decide +kernel
theorem dX8_agreement_22 : decode cX8_agreement 22 = .ok (.iconst 1, 1) := by decide +kernel
theorem dX8_agreement_23 : decode cX8_agreement 23 = .ok (.goto 4, 3) := by decide +kernel
theorem dX8_agreement_26 : decode cX8_agreement 26 = .ok (.iconst 0, 1) := by decide +kernel
theorem dX8_agreement_27 : decode cX8_agreement 27 = .ok (.istore 5, 2) := by decide +kernel
theorem dX8_agreement_29 : decode cX8_agreement 29 = .ok (.iload 5, 2) := by decide +kernel
theorem dX8_agreement_31 : decode cX8_agreement 31 = .ok (.ifCond .eq 31, 3) := by decide +kernel
theorem dX8_agreement_34 : decode cX8_agreement 34 = .ok (.iload_n 3, 1) := by decide +kernel
theorem dX8_agreement_35 : decode cX8_agreement 35 = .ok (.ifCond .lt 27, 3) := by decide +kernel
theorem dX8_agreement_38 : decode cX8_agreement 38 = .ok (.iload_n 3, 1) := by decide +kernel
theorem dX8_agreement_39 : decode cX8_agreement 39 = .ok (.sipush 1000, 3) := by decide +kernel
theorem dX8_agreement_42 : decode cX8_agreement 42 = .ok (.if_icmp .gt 20, 3) := by decide +kernel
theorem dX8_agreement_45 : decode cX8_agreement 45 = .ok (.iload 4, 2) := by decide +kernel
theorem dX8_agreement_47 : decode cX8_agreement 47 = .ok (.ifCond .lt 15, 3) := by decide +kernel
theorem dX8_agreement_50 : decode cX8_agreement 50 = .ok (.iload 4, 2) := by decide +kernel
theorem dX8_agreement_52 : decode cX8_agreement 52 = .ok (.sipush 1000, 3) := by decide +kernel
theorem dX8_agreement_55 : decode cX8_agreement 55 = .ok (.if_icmp .gt 7, 3) := by decide +kernel
theorem dX8_agreement_58 : decode cX8_agreement 58 = .ok (.iconst 1, 1) := by decide +kernel
theorem dX8_agreement_59 : decode cX8_agreement 59 = .ok (.goto 4, 3) := by decide +kernel
theorem dX8_agreement_62 : decode cX8_agreement 62 = .ok (.iconst 0, 1) := by decide +kernel
theorem dX8_agreement_63 : decode cX8_agreement 63 = .ok (.istore 5, 2) := by decide +kernel
theorem dX8_agreement_65 : decode cX8_agreement 65 = .ok (.aload_n 0, 1) := by decide +kernel
theorem dX8_agreement_66 : decode cX8_agreement 66 = .ok (.getfield 82, 3) := by decide +kernel
theorem dX8_agreement_69 : decode cX8_agreement 69 = .ok (.bipush 10, 2) := by decide +kernel
theorem dX8_agreement_71 : decode cX8_agreement 71 = .ok (.if_icmp .eq 8, 3) := by decide +kernel
theorem dX8_agreement_74 : decode cX8_agreement 74 = .ok (.iload 5, 2) := by decide +kernel
theorem dX8_agreement_76 : decode cX8_agreement 76 = .ok (.ifCond .ne 5, 3) := by decide +kernel
theorem dX8_agreement_79 : decode cX8_agreement 79 = .ok (.iconst (-1), 1) := by decide +kernel
theorem dX8_agreement_80 : decode cX8_agreement 80 = .ok (.ireturn, 1) := by decide +kernel
theorem dX8_agreement_81 : decode cX8_agreement 81 = .ok (.aload_n 0, 1) := by decide +kernel
theorem dX8_agreement_82 : decode cX8_agreement 82 = .ok (.getfield 82, 3) := by decide +kernel
theorem dX8_agreement_85 : decode cX8_agreement 85 = .ok (.istore 6, 2) := by decide +kernel
theorem dX8_agreement_87 : decode cX8_agreement 87 = .ok (.aload_n 0, 1) := by decide +kernel
theorem dX8_agreement_88 : decode cX8_agreement 88 = .ok (.dup, 1) := by decide +kernel
theorem dX8_agreement_89 : decode cX8_agreement 89 = .ok (.getfield 82, 3) := by decide +kernel
theorem dX8_agreement_92 : decode cX8_agreement 92 = .ok (.iconst 1, 1) := by decide +kernel
theorem dX8_agreement_93 : decode cX8_agreement 93 = .ok (.iadd, 1) := by decide +kernel
theorem dX8_agreement_94 : decode cX8_agreement 94 = .ok (.putfield 82, 3) := by decide +kernel
theorem dX8_agreement_97 : decode cX8_agreement 97 = .ok (.aload_n 0, 1) := by decide +kernel
theorem dX8_agreement_98 : decode cX8_agreement 98 = .ok (.getfield 7, 3) := by decide +kernel
theorem dX8_agreement_101 : decode cX8_agreement 101 = .ok (.iload 6, 2) := by decide +kernel
theorem dX8_agreement_103 : decode cX8_agreement 103 = .ok (.iload_n 1, 1) := by decide +kernel
theorem dX8_agreement_104 : decode cX8_agreement 104 = .ok (.iastore, 1) := by decide +kernel
theorem dX8_agreement_105 : decode cX8_agreement 105 = .ok (.aload_n 0, 1) := by decide +kernel
theorem dX8_agreement_106 : decode cX8_agreement 106 = .ok (.getfield 13, 3) := by decide +kernel
theorem dX8_agreement_109 : decode cX8_agreement 109 = .ok (.iload 6, 2) := by decide +kernel
theorem dX8_agreement_111 : decode cX8_agreement 111 = .ok (.iload_n 2, 1) := by decide +kernel
theorem dX8_agreement_112 : decode cX8_agreement 112 = .ok (.iastore, 1) := by decide +kernel
theorem dX8_agreement_113 : decode cX8_agreement 113 = .ok (.aload_n 0, 1) := by decide +kernel
theorem dX8_agreement_114 : decode cX8_agreement 114 = .ok (.getfield 16, 3) := by decide +kernel
theorem dX8_agreement_117 : decode cX8_agreement 117 = .ok (.iload 6, 2) := by decide +kernel
theorem dX8_agreement_119 : decode cX8_agreement 119 = .ok (.iload_n 3, 1) := by decide +kernel
theorem dX8_agreement_120 : decode cX8_agreement 120 = .ok (.iastore, 1) := by decide +kernel
theorem dX8_agreement_121 : decode cX8_agreement 121 = .ok (.aload_n 0, 1) := by decide +kernel
theorem dX8_agreement_122 : decode cX8_agreement 122 = .ok (.getfield 19, 3) := by decide +kernel
theorem dX8_agreement_125 : decode cX8_agreement 125 = .ok (.iload 6, 2) := by decide +kernel
theorem dX8_agreement_127 : decode cX8_agreement 127 = .ok (.iload 4, 2) := by decide +kernel
theorem dX8_agreement_129 : decode cX8_agreement 129 = .ok (.iastore, 1) := by decide +kernel
theorem dX8_agreement_130 : decode cX8_agreement 130 = .ok (.iconst 0, 1) := by decide +kernel
theorem dX8_agreement_131 : decode cX8_agreement 131 = .ok (.istore 7, 2) := by decide +kernel
theorem dX8_agreement_133 : decode cX8_agreement 133 = .ok (.iload 7, 2) := by decide +kernel
theorem dX8_agreement_135 : decode cX8_agreement 135 = .ok (.iload_n 1, 1) := by decide +kernel
theorem dX8_agreement_136 : decode cX8_agreement 136 = .ok (.if_icmp .ge 26, 3) := by decide +kernel
theorem dX8_agreement_139 : decode cX8_agreement 139 = .ok (.aload_n 0, 1) := by decide +kernel
theorem dX8_agreement_140 : decode cX8_agreement 140 = .ok (.getfield 22, 3) := by decide +kernel
theorem dX8_agreement_143 : decode cX8_agreement 143 = .ok (.bipush 20, 2) := by decide +kernel
theorem dX8_agreement_145 : decode cX8_agreement 145 = .ok (.iload 6, 2) := by decide +kernel
theorem dX8_agreement_147 : decode cX8_agreement 147 = .ok (.imul, 1) := by decide +kernel
theorem dX8_agreement_148 : decode cX8_agreement 148 = .ok (.iload 7, 2) := by decide +kernel
theorem dX8_agreement_150 : decode cX8_agreement 150 = .ok (.iadd, 1) := by decide +kernel
theorem dX8_agreement_151 : decode cX8_agreement 151 = .ok (.iload 7, 2) := by decide +kernel
theorem dX8_agreement_153 : decode cX8_agreement 153 = .ok (.iconst 1, 1) := by decide +kernel
theorem dX8_agreement_154 : decode cX8_agreement 154 = .ok (.iadd, 1) := by decide +kernel
theorem dX8_agreement_155 : decode cX8_agreement 155 = .ok (.iastore, 1) := by decide +kernel
theorem dX8_agreement_156 : decode cX8_agreement 156 = .ok (.iinc 7 1, 3) := by decide +kernel
theorem dX8_agreement_159 : decode cX8_agreement 159 = .ok (.goto (-26), 3) := by decide +kernel
theorem dX8_agreement_162 : decode cX8_agreement 162 = .ok (.aload_n 0, 1) := by decide +kernel
theorem dX8_agreement_163 : decode cX8_agreement 163 = .ok (.getfield 63, 3) := by decide +kernel
theorem dX8_agreement_166 : decode cX8_agreement 166 = .ok (.iload 6, 2) := by decide +kernel
theorem dX8_agreement_168 : decode cX8_agreement 168 = .ok (.iconst 0, 1) := by decide +kernel
theorem dX8_agreement_169 : decode cX8_agreement 169 = .ok (.iastore, 1) := by decide +kernel
theorem dX8_agreement_170 : decode cX8_agreement 170 = .ok (.iload 6, 2) := by decide +kernel
theorem dX8_agreement_172 : decode cX8_agreement 172 = .ok (.ireturn, 1) := by decide +kernel
theorem dX8_article_0 : decode cX8_article 0 = .ok (.aload_n 0, 1) := by decide +kernel
theorem dX8_article_1 : decode cX8_article 1 = .ok (.iload_n 1, 1) := by decide +kernel
theorem dX8_article_2 : decode cX8_article 2 = .ok (.iload_n 2, 1) := by decide +kernel
theorem dX8_article_3 : decode cX8_article 3 = .ok (.invokevirtual 93, 3) := by decide +kernel
theorem dX8_article_6 : decode cX8_article 6 = .ok (.ifCond .eq 14, 3) := by decide +kernel
theorem dX8_article_9 : decode cX8_article 9 = .ok (.iload_n 3, 1) := by decide +kernel
theorem dX8_article_10 : decode cX8_article 10 = .ok (.iconst 1, 1) := by decide +kernel
theorem dX8_article_11 : decode cX8_article 11 = .ok (.if_icmp .lt 9, 3) := by decide +kernel
theorem dX8_article_14 : decode cX8_article 14 = .ok (.iload_n 3, 1) := by decide +kernel
theorem dX8_article_15 : decode cX8_article 15 = .ok (.ldc 97, 2) := by decide +kernel
theorem dX8_article_17 : decode cX8_article 17 = .ok (.if_icmp .le 5, 3) := by decide +kernel
theorem dX8_article_20 : decode cX8_article 20 = .ok (.iconst (-1), 1) := by decide +kernel
theorem dX8_article_21 : decode cX8_article 21 = .ok (.ireturn, 1) := by decide +kernel
theorem dX8_article_22 : decode cX8_article 22 = .ok (.iconst 0, 1) := by decide +kernel
theorem dX8_article_23 : decode cX8_article 23 = .ok (.istore 4, 2) := by decide +kernel
theorem dX8_article_25 : decode cX8_article 25 = .ok (.iload 4, 2) := by decide +kernel
theorem dX8_article_27 : decode cX8_article 27 = .ok (.aload_n 0, 1) := by decide +kernel
theorem dX8_article_28 : decode cX8_article 28 = .ok (.getfield 89, 3) := by decide +kernel
theorem dX8_article_31 : decode cX8_article 31 = .ok (.if_icmp .ge 22, 3) := by decide +kernel
theorem dX8_article_34 : decode cX8_article 34 = .ok (.aload_n 0, 1) := by decide +kernel
theorem dX8_article_35 : decode cX8_article 35 = .ok (.getfield 31, 3) := by decide +kernel
theorem dX8_article_38 : decode cX8_article 38 = .ok (.iload 4, 2) := by decide +kernel
theorem dX8_article_40 : decode cX8_article 40 = .ok (.iaload, 1) := by decide +kernel
theorem dX8_article_41 : decode cX8_article 41 = .ok (.iload_n 1, 1) := by decide +kernel
theorem dX8_article_42 : decode cX8_article 42 = .ok (.if_icmp .ne 5, 3) := by decide +kernel
theorem dX8_article_45 : decode cX8_article 45 = .ok (.iconst (-1), 1) := by decide +kernel
theorem dX8_article_46 : decode cX8_article 46 = .ok (.ireturn, 1) := by decide +kernel
theorem dX8_article_47 : decode cX8_article 47 = .ok (.iinc 4 1, 3) := by decide +kernel
theorem dX8_article_50 : decode cX8_article 50 = .ok (.goto (-25), 3) := by decide +kernel
theorem dX8_article_53 : decode cX8_article 53 = .ok (.aload_n 0, 1) := by decide +kernel
theorem dX8_article_54 : decode cX8_article 54 = .ok (.getfield 22, 3) := by decide +kernel
theorem dX8_article_57 : decode cX8_article 57 = .ok (.bipush 20, 2) := by decide +kernel
theorem dX8_article_59 : decode cX8_article 59 = .ok (.iload_n 1, 1) := by decide +kernel
theorem dX8_article_60 : decode cX8_article 60 = .ok (.imul, 1) := by decide +kernel
theorem dX8_article_61 : decode cX8_article 61 = .ok (.iload_n 2, 1) := by decide +kernel
theorem dX8_article_62 : decode cX8_article 62 = .ok (.iadd, 1) := by decide +kernel
theorem dX8_article_63 : decode cX8_article 63 = .ok (.iaload, 1) := by decide +kernel
theorem dX8_article_64 : decode cX8_article 64 = .ok (.istore 4, 2) := by decide +kernel
theorem dX8_article_66 : decode cX8_article 66 = .ok (.aload_n 0, 1) := by decide +kernel
theorem dX8_article_67 : decode cX8_article 67 = .ok (.getfield 22, 3) := by decide +kernel
theorem dX8_article_70 : decode cX8_article 70 = .ok (.bipush 20, 2) := by decide +kernel
theorem dX8_article_72 : decode cX8_article 72 = .ok (.iload_n 1, 1) := by decide +kernel
theorem dX8_article_73 : decode cX8_article 73 = .ok (.imul, 1) := by decide +kernel
theorem dX8_article_74 : decode cX8_article 74 = .ok (.iload_n 2, 1) := by decide +kernel
theorem dX8_article_75 : decode cX8_article 75 = .ok (.iadd, 1) := by decide +kernel
theorem dX8_article_76 : decode cX8_article 76 = .ok (.iload_n 3, 1) := by decide +kernel
theorem dX8_article_77 : decode cX8_article 77 = .ok (.iastore, 1) := by decide +kernel
theorem dX8_article_78 : decode cX8_article 78 = .ok (.iload 4, 2) := by decide +kernel
theorem dX8_article_80 : decode cX8_article 80 = .ok (.ireturn, 1) := by decide +kernel
theorem dX8_clock_0 : decode cX8_clock 0 = .ok (.iload_n 1, 1) := by decide +kernel
theorem dX8_clock_1 : decode cX8_clock 1 = .ok (.aload_n 0, 1) := by decide +kernel
theorem dX8_clock_2 : decode cX8_clock 2 = .ok (.getfield 98, 3) := by decide +kernel
theorem dX8_clock_5 : decode cX8_clock 5 = .ok (.if_icmp .lt 9, 3) := by decide +kernel
theorem dX8_clock_8 : decode cX8_clock 8 = .ok (.iload_n 1, 1) := by decide +kernel
theorem dX8_clock_9 : decode cX8_clock 9 = .ok (.ldc 92, 2) := by decide +kernel
theorem dX8_clock_11 : decode cX8_clock 11 = .ok (.if_icmp .le 5, 3) := by decide +kernel
theorem dX8_clock_14 : decode cX8_clock 14 = .ok (.iconst 0, 1) := by decide +kernel
theorem dX8_clock_15 : decode cX8_clock 15 = .ok (.ireturn, 1) := by decide +kernel
theorem dX8_clock_16 : decode cX8_clock 16 = .ok (.aload_n 0, 1) := by decide +kernel
theorem dX8_clock_17 : decode cX8_clock 17 = .ok (.iload_n 1, 1) := by decide +kernel
theorem dX8_clock_18 : decode cX8_clock 18 = .ok (.putfield 98, 3) := by decide +kernel
theorem dX8_clock_21 : decode cX8_clock 21 = .ok (.iconst 1, 1) := by decide +kernel
theorem dX8_clock_22 : decode cX8_clock 22 = .ok (.ireturn, 1) := by decide +kernel
theorem dX8_isMembership_0 : decode cX8_isMembership 0 = .ok (.aload_n 0, 1) := by decide +kernel
theorem dX8_isMembership_1 : decode cX8_isMembership 1 = .ok (.getfield 25, 3) := by decide +kernel
theorem dX8_isMembership_4 : decode cX8_isMembership 4 = .ok (.iload_n 1, 1) := by decide +kernel
theorem dX8_isMembership_5 : decode cX8_isMembership 5 = .ok (.iaload, 1) := by decide +kernel
theorem dX8_isMembership_6 : decode cX8_isMembership 6 = .ok (.iconst 1, 1) := by decide +kernel
theorem dX8_isMembership_7 : decode cX8_isMembership 7 = .ok (.if_icmp .eq 24, 3) := by decide +kernel
theorem dX8_isMembership_10 : decode cX8_isMembership 10 = .ok (.aload_n 0, 1) := by decide +kernel
theorem dX8_isMembership_11 : decode cX8_isMembership 11 = .ok (.getfield 25, 3) := by decide +kernel
theorem dX8_isMembership_14 : decode cX8_isMembership 14 = .ok (.iload_n 1, 1) := by decide +kernel
theorem dX8_isMembership_15 : decode cX8_isMembership 15 = .ok (.iaload, 1) := by decide +kernel
theorem dX8_isMembership_16 : decode cX8_isMembership 16 = .ok (.iconst 2, 1) := by decide +kernel
theorem dX8_isMembership_17 : decode cX8_isMembership 17 = .ok (.if_icmp .eq 14, 3) := by decide +kernel
theorem dX8_isMembership_20 : decode cX8_isMembership 20 = .ok (.aload_n 0, 1) := by decide +kernel
theorem dX8_isMembership_21 : decode cX8_isMembership 21 = .ok (.getfield 25, 3) := by decide +kernel
theorem dX8_isMembership_24 : decode cX8_isMembership 24 = .ok (.iload_n 1, 1) := by decide +kernel
theorem dX8_isMembership_25 : decode cX8_isMembership 25 = .ok (.iaload, 1) := by decide +kernel
theorem dX8_isMembership_26 : decode cX8_isMembership 26 = .ok (.bipush 8, 2) := by decide +kernel
theorem dX8_isMembership_28 : decode cX8_isMembership 28 = .ok (.if_icmp .ne 7, 3) := by decide +kernel
theorem dX8_isMembership_31 : decode cX8_isMembership 31 = .ok (.iconst 1, 1) := by decide +kernel
theorem dX8_isMembership_32 : decode cX8_isMembership 32 = .ok (.goto 4, 3) := by decide +kernel
theorem dX8_isMembership_35 : decode cX8_isMembership 35 = .ok (.iconst 0, 1) := by decide +kernel
theorem dX8_isMembership_36 : decode cX8_isMembership 36 = .ok (.ireturn, 1) := by decide +kernel
theorem dX8_belongs_0 : decode cX8_belongs 0 = .ok (.iconst 0, 1) := by decide +kernel
theorem dX8_belongs_1 : decode cX8_belongs 1 = .ok (.istore_n 3, 1) := by decide +kernel
theorem dX8_belongs_2 : decode cX8_belongs 2 = .ok (.iload_n 3, 1) := by decide +kernel
theorem dX8_belongs_3 : decode cX8_belongs 3 = .ok (.aload_n 0, 1) := by decide +kernel
theorem dX8_belongs_4 : decode cX8_belongs 4 = .ok (.getfield 89, 3) := by decide +kernel
theorem dX8_belongs_7 : decode cX8_belongs 7 = .ok (.if_icmp .ge 114, 3) := by decide +kernel
theorem dX8_belongs_10 : decode cX8_belongs 10 = .ok (.aload_n 0, 1) := by decide +kernel
theorem dX8_belongs_11 : decode cX8_belongs 11 = .ok (.iload_n 3, 1) := by decide +kernel
theorem dX8_belongs_12 : decode cX8_belongs 12 = .ok (.invokevirtual 101, 3) := by decide +kernel
theorem dX8_belongs_15 : decode cX8_belongs 15 = .ok (.ifCond .eq 100, 3) := by decide +kernel
theorem dX8_belongs_18 : decode cX8_belongs 18 = .ok (.aload_n 0, 1) := by decide +kernel
theorem dX8_belongs_19 : decode cX8_belongs 19 = .ok (.getfield 28, 3) := by decide +kernel
theorem dX8_belongs_22 : decode cX8_belongs 22 = .ok (.iload_n 3, 1) := by decide +kernel
theorem dX8_belongs_23 : decode cX8_belongs 23 = .ok (.iaload, 1) := by decide +kernel
theorem dX8_belongs_24 : decode cX8_belongs 24 = .ok (.iload_n 1, 1) := by decide +kernel
theorem dX8_belongs_25 : decode cX8_belongs 25 = .ok (.if_icmp .ne 90, 3) := by decide +kernel
theorem dX8_belongs_28 : decode cX8_belongs 28 = .ok (.aload_n 0, 1) := by decide +kernel
theorem dX8_belongs_29 : decode cX8_belongs 29 = .ok (.getfield 31, 3) := by decide +kernel
theorem dX8_belongs_32 : decode cX8_belongs 32 = .ok (.iload_n 3, 1) := by decide +kernel
theorem dX8_belongs_33 : decode cX8_belongs 33 = .ok (.iaload, 1) := by decide +kernel
theorem dX8_belongs_34 : decode cX8_belongs 34 = .ok (.iload_n 2, 1) := by decide +kernel
theorem dX8_belongs_35 : decode cX8_belongs 35 = .ok (.if_icmp .eq 6, 3) := by decide +kernel
theorem dX8_belongs_38 : decode cX8_belongs 38 = .ok (.goto 77, 3) := by decide +kernel
theorem dX8_belongs_41 : decode cX8_belongs 41 = .ok (.iconst 0, 1) := by decide +kernel
theorem dX8_belongs_42 : decode cX8_belongs 42 = .ok (.istore 4, 2) := by decide +kernel
theorem dX8_belongs_44 : decode cX8_belongs 44 = .ok (.iconst 0, 1) := by decide +kernel
theorem dX8_belongs_45 : decode cX8_belongs 45 = .ok (.istore 5, 2) := by decide +kernel
theorem dX8_belongs_47 : decode cX8_belongs 47 = .ok (.iload 5, 2) := by decide +kernel
theorem dX8_belongs_49 : decode cX8_belongs 49 = .ok (.aload_n 0, 1) := by decide +kernel
theorem dX8_belongs_50 : decode cX8_belongs 50 = .ok (.getfield 89, 3) := by decide +kernel
theorem dX8_belongs_53 : decode cX8_belongs 53 = .ok (.if_icmp .ge 55, 3) := by decide +kernel
theorem dX8_belongs_56 : decode cX8_belongs 56 = .ok (.iload 4, 2) := by decide +kernel
theorem dX8_belongs_58 : decode cX8_belongs 58 = .ok (.ifCond .ne 37, 3) := by decide +kernel
theorem dX8_belongs_61 : decode cX8_belongs 61 = .ok (.aload_n 0, 1) := by decide +kernel
theorem dX8_belongs_62 : decode cX8_belongs 62 = .ok (.getfield 25, 3) := by decide +kernel
theorem dX8_belongs_65 : decode cX8_belongs 65 = .ok (.iload 5, 2) := by decide +kernel
theorem dX8_belongs_67 : decode cX8_belongs 67 = .ok (.iaload, 1) := by decide +kernel
theorem dX8_belongs_68 : decode cX8_belongs 68 = .ok (.iconst 5, 1) := by decide +kernel
theorem dX8_belongs_69 : decode cX8_belongs 69 = .ok (.if_icmp .eq 15, 3) := by decide +kernel
theorem dX8_belongs_72 : decode cX8_belongs 72 = .ok (.aload_n 0, 1) := by decide +kernel
theorem dX8_belongs_73 : decode cX8_belongs 73 = .ok (.getfield 25, 3) := by decide +kernel
theorem dX8_belongs_76 : decode cX8_belongs 76 = .ok (.iload 5, 2) := by decide +kernel
theorem dX8_belongs_78 : decode cX8_belongs 78 = .ok (.iaload, 1) := by decide +kernel
theorem dX8_belongs_79 : decode cX8_belongs 79 = .ok (.bipush 8, 2) := by decide +kernel
theorem dX8_belongs_81 : decode cX8_belongs 81 = .ok (.if_icmp .ne 18, 3) := by decide +kernel
theorem dX8_belongs_84 : decode cX8_belongs 84 = .ok (.aload_n 0, 1) := by decide +kernel
theorem dX8_belongs_85 : decode cX8_belongs 85 = .ok (.getfield 40, 3) := by decide +kernel
theorem dX8_belongs_88 : decode cX8_belongs 88 = .ok (.iload 5, 2) := by decide +kernel
theorem dX8_belongs_90 : decode cX8_belongs 90 = .ok (.iaload, 1) := by decide +kernel
theorem dX8_belongs_91 : decode cX8_belongs 91 = .ok (.iload_n 3, 1) := by decide +kernel
theorem dX8_belongs_92 : decode cX8_belongs 92 = .ok (.if_icmp .ne 7, 3) := by decide +kernel
theorem dX8_belongs_95 : decode cX8_belongs 95 = .ok (.iconst 1, 1) := by decide +kernel
theorem dX8_belongs_96 : decode cX8_belongs 96 = .ok (.goto 4, 3) := by decide +kernel
theorem dX8_belongs_99 : decode cX8_belongs 99 = .ok (.iconst 0, 1) := by decide +kernel
theorem dX8_belongs_100 : decode cX8_belongs 100 = .ok (.istore 4, 2) := by decide +kernel
theorem dX8_belongs_102 : decode cX8_belongs 102 = .ok (.iinc 5 1, 3) := by decide +kernel
theorem dX8_belongs_105 : decode cX8_belongs 105 = .ok (.goto (-58), 3) := by decide +kernel
theorem dX8_belongs_108 : decode cX8_belongs 108 = .ok (.iload 4, 2) := by decide +kernel
theorem dX8_belongs_110 : decode cX8_belongs 110 = .ok (.ifCond .ne 5, 3) := by decide +kernel
theorem dX8_belongs_113 : decode cX8_belongs 113 = .ok (.iload_n 3, 1) := by decide +kernel
theorem dX8_belongs_114 : decode cX8_belongs 114 = .ok (.ireturn, 1) := by decide +kernel
theorem dX8_belongs_115 : decode cX8_belongs 115 = .ok (.iinc 3 1, 3) := by decide +kernel
theorem dX8_belongs_118 : decode cX8_belongs 118 = .ok (.goto (-116), 3) := by decide +kernel
theorem dX8_belongs_121 : decode cX8_belongs 121 = .ok (.iconst (-1), 1) := by decide +kernel
theorem dX8_belongs_122 : decode cX8_belongs 122 = .ok (.ireturn, 1) := by decide +kernel
theorem dX8_stands_0 : decode cX8_stands 0 = .ok (.aload_n 0, 1) := by decide +kernel
theorem dX8_stands_1 : decode cX8_stands 1 = .ok (.getfield 34, 3) := by decide +kernel
theorem dX8_stands_4 : decode cX8_stands 4 = .ok (.iload_n 1, 1) := by decide +kernel
theorem dX8_stands_5 : decode cX8_stands 5 = .ok (.iaload, 1) := by decide +kernel
theorem dX8_stands_6 : decode cX8_stands 6 = .ok (.iload_n 3, 1) := by decide +kernel
theorem dX8_stands_7 : decode cX8_stands 7 = .ok (.if_icmp .gt 13, 3) := by decide +kernel
theorem dX8_stands_10 : decode cX8_stands 10 = .ok (.aload_n 0, 1) := by decide +kernel
theorem dX8_stands_11 : decode cX8_stands 11 = .ok (.getfield 37, 3) := by decide +kernel
theorem dX8_stands_14 : decode cX8_stands 14 = .ok (.iload_n 1, 1) := by decide +kernel
theorem dX8_stands_15 : decode cX8_stands 15 = .ok (.iaload, 1) := by decide +kernel
theorem dX8_stands_16 : decode cX8_stands 16 = .ok (.iload_n 2, 1) := by decide +kernel
theorem dX8_stands_17 : decode cX8_stands 17 = .ok (.if_icmp .le 5, 3) := by decide +kernel
theorem dX8_stands_20 : decode cX8_stands 20 = .ok (.iconst 0, 1) := by decide +kernel
theorem dX8_stands_21 : decode cX8_stands 21 = .ok (.ireturn, 1) := by decide +kernel
theorem dX8_stands_22 : decode cX8_stands 22 = .ok (.iconst 0, 1) := by decide +kernel
theorem dX8_stands_23 : decode cX8_stands 23 = .ok (.istore 4, 2) := by decide +kernel
theorem dX8_stands_25 : decode cX8_stands 25 = .ok (.iload 4, 2) := by decide +kernel
theorem dX8_stands_27 : decode cX8_stands 27 = .ok (.aload_n 0, 1) := by decide +kernel
theorem dX8_stands_28 : decode cX8_stands 28 = .ok (.getfield 89, 3) := by decide +kernel
theorem dX8_stands_31 : decode cX8_stands 31 = .ok (.if_icmp .ge 67, 3) := by decide +kernel
theorem dX8_stands_34 : decode cX8_stands 34 = .ok (.aload_n 0, 1) := by decide +kernel
theorem dX8_stands_35 : decode cX8_stands 35 = .ok (.getfield 25, 3) := by decide +kernel
theorem dX8_stands_38 : decode cX8_stands 38 = .ok (.iload 4, 2) := by decide +kernel
theorem dX8_stands_40 : decode cX8_stands 40 = .ok (.iaload, 1) := by decide +kernel
theorem dX8_stands_41 : decode cX8_stands 41 = .ok (.iconst 5, 1) := by decide +kernel
theorem dX8_stands_42 : decode cX8_stands 42 = .ok (.if_icmp .eq 15, 3) := by decide +kernel
theorem dX8_stands_45 : decode cX8_stands 45 = .ok (.aload_n 0, 1) := by decide +kernel
theorem dX8_stands_46 : decode cX8_stands 46 = .ok (.getfield 25, 3) := by decide +kernel
theorem dX8_stands_49 : decode cX8_stands 49 = .ok (.iload 4, 2) := by decide +kernel
theorem dX8_stands_51 : decode cX8_stands 51 = .ok (.iaload, 1) := by decide +kernel
theorem dX8_stands_52 : decode cX8_stands 52 = .ok (.bipush 8, 2) := by decide +kernel
theorem dX8_stands_54 : decode cX8_stands 54 = .ok (.if_icmp .ne 38, 3) := by decide +kernel
theorem dX8_stands_57 : decode cX8_stands 57 = .ok (.aload_n 0, 1) := by decide +kernel
theorem dX8_stands_58 : decode cX8_stands 58 = .ok (.getfield 40, 3) := by decide +kernel
theorem dX8_stands_61 : decode cX8_stands 61 = .ok (.iload 4, 2) := by decide +kernel
theorem dX8_stands_63 : decode cX8_stands 63 = .ok (.iaload, 1) := by decide +kernel
theorem dX8_stands_64 : decode cX8_stands 64 = .ok (.iload_n 1, 1) := by decide +kernel
theorem dX8_stands_65 : decode cX8_stands 65 = .ok (.if_icmp .ne 27, 3) := by decide +kernel
theorem dX8_stands_68 : decode cX8_stands 68 = .ok (.aload_n 0, 1) := by decide +kernel
theorem dX8_stands_69 : decode cX8_stands 69 = .ok (.getfield 34, 3) := by decide +kernel
theorem dX8_stands_72 : decode cX8_stands 72 = .ok (.iload 4, 2) := by decide +kernel
theorem dX8_stands_74 : decode cX8_stands 74 = .ok (.iaload, 1) := by decide +kernel
theorem dX8_stands_75 : decode cX8_stands 75 = .ok (.iload_n 3, 1) := by decide +kernel
theorem dX8_stands_76 : decode cX8_stands 76 = .ok (.if_icmp .gt 16, 3) := by decide +kernel
theorem dX8_stands_79 : decode cX8_stands 79 = .ok (.aload_n 0, 1) := by decide +kernel
theorem dX8_stands_80 : decode cX8_stands 80 = .ok (.getfield 37, 3) := by decide +kernel
theorem dX8_stands_83 : decode cX8_stands 83 = .ok (.iload 4, 2) := by decide +kernel
theorem dX8_stands_85 : decode cX8_stands 85 = .ok (.iaload, 1) := by decide +kernel
theorem dX8_stands_86 : decode cX8_stands 86 = .ok (.iload_n 2, 1) := by decide +kernel
theorem dX8_stands_87 : decode cX8_stands 87 = .ok (.if_icmp .gt 5, 3) := by decide +kernel
theorem dX8_stands_90 : decode cX8_stands 90 = .ok (.iconst 0, 1) := by decide +kernel
theorem dX8_stands_91 : decode cX8_stands 91 = .ok (.ireturn, 1) := by decide +kernel
theorem dX8_stands_92 : decode cX8_stands 92 = .ok (.iinc 4 1, 3) := by decide +kernel
theorem dX8_stands_95 : decode cX8_stands 95 = .ok (.goto (-70), 3) := by decide +kernel
theorem dX8_stands_98 : decode cX8_stands 98 = .ok (.iconst 1, 1) := by decide +kernel
theorem dX8_stands_99 : decode cX8_stands 99 = .ok (.ireturn, 1) := by decide +kernel
theorem dX8_isHeld_0 : decode cX8_isHeld 0 = .ok (.iload_n 2, 1) := by decide +kernel
theorem dX8_isHeld_1 : decode cX8_isHeld 1 = .ok (.istore 4, 2) := by decide +kernel
theorem dX8_isHeld_3 : decode cX8_isHeld 3 = .ok (.aload_n 0, 1) := by decide +kernel
theorem dX8_isHeld_4 : decode cX8_isHeld 4 = .ok (.getfield 43, 3) := by decide +kernel
theorem dX8_isHeld_7 : decode cX8_isHeld 7 = .ok (.iload_n 1, 1) := by decide +kernel
theorem dX8_isHeld_8 : decode cX8_isHeld 8 = .ok (.iaload, 1) := by decide +kernel
theorem dX8_isHeld_9 : decode cX8_isHeld 9 = .ok (.iload 4, 2) := by decide +kernel
theorem dX8_isHeld_11 : decode cX8_isHeld 11 = .ok (.if_icmp .eq 57, 3) := by decide +kernel
theorem dX8_isHeld_14 : decode cX8_isHeld 14 = .ok (.aload_n 0, 1) := by decide +kernel
theorem dX8_isHeld_15 : decode cX8_isHeld 15 = .ok (.getfield 25, 3) := by decide +kernel
theorem dX8_isHeld_18 : decode cX8_isHeld 18 = .ok (.iload 4, 2) := by decide +kernel
theorem dX8_isHeld_20 : decode cX8_isHeld 20 = .ok (.iaload, 1) := by decide +kernel
theorem dX8_isHeld_21 : decode cX8_isHeld 21 = .ok (.bipush 8, 2) := by decide +kernel
theorem dX8_isHeld_23 : decode cX8_isHeld 23 = .ok (.if_icmp .ne 31, 3) := by decide +kernel
theorem dX8_isHeld_26 : decode cX8_isHeld 26 = .ok (.aload_n 0, 1) := by decide +kernel
theorem dX8_isHeld_27 : decode cX8_isHeld 27 = .ok (.getfield 52, 3) := by decide +kernel
theorem dX8_isHeld_30 : decode cX8_isHeld 30 = .ok (.iload 4, 2) := by decide +kernel
theorem dX8_isHeld_32 : decode cX8_isHeld 32 = .ok (.iaload, 1) := by decide +kernel
theorem dX8_isHeld_33 : decode cX8_isHeld 33 = .ok (.ifCond .eq 21, 3) := by decide +kernel
theorem dX8_isHeld_36 : decode cX8_isHeld 36 = .ok (.aload_n 0, 1) := by decide +kernel
theorem dX8_isHeld_37 : decode cX8_isHeld 37 = .ok (.iload_n 1, 1) := by decide +kernel
theorem dX8_isHeld_38 : decode cX8_isHeld 38 = .ok (.aload_n 0, 1) := by decide +kernel
theorem dX8_isHeld_39 : decode cX8_isHeld 39 = .ok (.getfield 37, 3) := by decide +kernel
theorem dX8_isHeld_42 : decode cX8_isHeld 42 = .ok (.iload 4, 2) := by decide +kernel
theorem dX8_isHeld_44 : decode cX8_isHeld 44 = .ok (.iaload, 1) := by decide +kernel
theorem dX8_isHeld_45 : decode cX8_isHeld 45 = .ok (.iconst 1, 1) := by decide +kernel
theorem dX8_isHeld_46 : decode cX8_isHeld 46 = .ok (.isub, 1) := by decide +kernel
theorem dX8_isHeld_47 : decode cX8_isHeld 47 = .ok (.iload_n 3, 1) := by decide +kernel
theorem dX8_isHeld_48 : decode cX8_isHeld 48 = .ok (.invokevirtual 104, 3) := by decide +kernel
theorem dX8_isHeld_51 : decode cX8_isHeld 51 = .ok (.ifCond .ne 5, 3) := by decide +kernel
theorem dX8_isHeld_54 : decode cX8_isHeld 54 = .ok (.iconst 0, 1) := by decide +kernel
theorem dX8_isHeld_55 : decode cX8_isHeld 55 = .ok (.ireturn, 1) := by decide +kernel
theorem dX8_isHeld_56 : decode cX8_isHeld 56 = .ok (.aload_n 0, 1) := by decide +kernel
theorem dX8_isHeld_57 : decode cX8_isHeld 57 = .ok (.getfield 40, 3) := by decide +kernel
theorem dX8_isHeld_60 : decode cX8_isHeld 60 = .ok (.iload 4, 2) := by decide +kernel
theorem dX8_isHeld_62 : decode cX8_isHeld 62 = .ok (.iaload, 1) := by decide +kernel
theorem dX8_isHeld_63 : decode cX8_isHeld 63 = .ok (.istore 4, 2) := by decide +kernel
theorem dX8_isHeld_65 : decode cX8_isHeld 65 = .ok (.goto (-62), 3) := by decide +kernel
theorem dX8_isHeld_68 : decode cX8_isHeld 68 = .ok (.iconst 1, 1) := by decide +kernel
theorem dX8_isHeld_69 : decode cX8_isHeld 69 = .ok (.ireturn, 1) := by decide +kernel
theorem dX8_memberOf_0 : decode cX8_memberOf 0 = .ok (.iconst 0, 1) := by decide +kernel
theorem dX8_memberOf_1 : decode cX8_memberOf 1 = .ok (.istore 5, 2) := by decide +kernel
theorem dX8_memberOf_3 : decode cX8_memberOf 3 = .ok (.iload 5, 2) := by decide +kernel
theorem dX8_memberOf_5 : decode cX8_memberOf 5 = .ok (.aload_n 0, 1) := by decide +kernel
theorem dX8_memberOf_6 : decode cX8_memberOf 6 = .ok (.getfield 89, 3) := by decide +kernel
theorem dX8_memberOf_9 : decode cX8_memberOf 9 = .ok (.if_icmp .ge 55, 3) := by decide +kernel
theorem dX8_memberOf_12 : decode cX8_memberOf 12 = .ok (.aload_n 0, 1) := by decide +kernel
theorem dX8_memberOf_13 : decode cX8_memberOf 13 = .ok (.iload 5, 2) := by decide +kernel
theorem dX8_memberOf_15 : decode cX8_memberOf 15 = .ok (.invokevirtual 101, 3) := by decide +kernel
theorem dX8_memberOf_18 : decode cX8_memberOf 18 = .ok (.ifCond .eq 40, 3) := by decide +kernel
theorem dX8_memberOf_21 : decode cX8_memberOf 21 = .ok (.aload_n 0, 1) := by decide +kernel
theorem dX8_memberOf_22 : decode cX8_memberOf 22 = .ok (.getfield 28, 3) := by decide +kernel
theorem dX8_memberOf_25 : decode cX8_memberOf 25 = .ok (.iload 5, 2) := by decide +kernel
theorem dX8_memberOf_27 : decode cX8_memberOf 27 = .ok (.iaload, 1) := by decide +kernel
theorem dX8_memberOf_28 : decode cX8_memberOf 28 = .ok (.iload_n 1, 1) := by decide +kernel
theorem dX8_memberOf_29 : decode cX8_memberOf 29 = .ok (.if_icmp .ne 29, 3) := by decide +kernel
theorem dX8_memberOf_32 : decode cX8_memberOf 32 = .ok (.aload_n 0, 1) := by decide +kernel
theorem dX8_memberOf_33 : decode cX8_memberOf 33 = .ok (.getfield 31, 3) := by decide +kernel
theorem dX8_memberOf_36 : decode cX8_memberOf 36 = .ok (.iload 5, 2) := by decide +kernel
theorem dX8_memberOf_38 : decode cX8_memberOf 38 = .ok (.iaload, 1) := by decide +kernel
theorem dX8_memberOf_39 : decode cX8_memberOf 39 = .ok (.iload_n 2, 1) := by decide +kernel
theorem dX8_memberOf_40 : decode cX8_memberOf 40 = .ok (.if_icmp .ne 18, 3) := by decide +kernel
theorem dX8_memberOf_43 : decode cX8_memberOf 43 = .ok (.aload_n 0, 1) := by decide +kernel
theorem dX8_memberOf_44 : decode cX8_memberOf 44 = .ok (.iload 5, 2) := by decide +kernel
theorem dX8_memberOf_46 : decode cX8_memberOf 46 = .ok (.iload_n 3, 1) := by decide +kernel
theorem dX8_memberOf_47 : decode cX8_memberOf 47 = .ok (.iload 4, 2) := by decide +kernel
theorem dX8_memberOf_49 : decode cX8_memberOf 49 = .ok (.invokevirtual 104, 3) := by decide +kernel
theorem dX8_memberOf_52 : decode cX8_memberOf 52 = .ok (.ifCond .eq 6, 3) := by decide +kernel
theorem dX8_memberOf_55 : decode cX8_memberOf 55 = .ok (.iload 5, 2) := by decide +kernel
theorem dX8_memberOf_57 : decode cX8_memberOf 57 = .ok (.ireturn, 1) := by decide +kernel
theorem dX8_memberOf_58 : decode cX8_memberOf 58 = .ok (.iinc 5 1, 3) := by decide +kernel
theorem dX8_memberOf_61 : decode cX8_memberOf 61 = .ok (.goto (-58), 3) := by decide +kernel
theorem dX8_memberOf_64 : decode cX8_memberOf 64 = .ok (.iconst (-1), 1) := by decide +kernel
theorem dX8_memberOf_65 : decode cX8_memberOf 65 = .ok (.ireturn, 1) := by decide +kernel
theorem dX8_manyMembers_0 : decode cX8_manyMembers 0 = .ok (.iconst 0, 1) := by decide +kernel
theorem dX8_manyMembers_1 : decode cX8_manyMembers 1 = .ok (.istore 4, 2) := by decide +kernel
theorem dX8_manyMembers_3 : decode cX8_manyMembers 3 = .ok (.iconst 0, 1) := by decide +kernel
theorem dX8_manyMembers_4 : decode cX8_manyMembers 4 = .ok (.istore 5, 2) := by decide +kernel
theorem dX8_manyMembers_6 : decode cX8_manyMembers 6 = .ok (.iload 5, 2) := by decide +kernel
theorem dX8_manyMembers_8 : decode cX8_manyMembers 8 = .ok (.aload_n 0, 1) := by decide +kernel
theorem dX8_manyMembers_9 : decode cX8_manyMembers 9 = .ok (.getfield 78, 3) := by decide +kernel
theorem dX8_manyMembers_12 : decode cX8_manyMembers 12 = .ok (.if_icmp .ge 32, 3) := by decide +kernel
theorem dX8_manyMembers_15 : decode cX8_manyMembers 15 = .ok (.iload 4, 2) := by decide +kernel
theorem dX8_manyMembers_17 : decode cX8_manyMembers 17 = .ok (.aload_n 0, 1) := by decide +kernel
theorem dX8_manyMembers_18 : decode cX8_manyMembers 18 = .ok (.iload 5, 2) := by decide +kernel
theorem dX8_manyMembers_20 : decode cX8_manyMembers 20 = .ok (.iload_n 1, 1) := by decide +kernel
theorem dX8_manyMembers_21 : decode cX8_manyMembers 21 = .ok (.iload_n 2, 1) := by decide +kernel
theorem dX8_manyMembers_22 : decode cX8_manyMembers 22 = .ok (.iload_n 3, 1) := by decide +kernel
theorem dX8_manyMembers_23 : decode cX8_manyMembers 23 = .ok (.invokevirtual 108, 3) := by decide +kernel
theorem dX8_manyMembers_26 : decode cX8_manyMembers 26 = .ok (.iconst (-1), 1) := by decide +kernel
theorem dX8_manyMembers_27 : decode cX8_manyMembers 27 = .ok (.if_icmp .ne 7, 3) := by decide +kernel
theorem dX8_manyMembers_30 : decode cX8_manyMembers 30 = .ok (.iconst 0, 1) := by decide +kernel
theorem dX8_manyMembers_31 : decode cX8_manyMembers 31 = .ok (.goto 4, 3) := by decide +kernel
theorem dX8_manyMembers_34 : decode cX8_manyMembers 34 = .ok (.iconst 1, 1) := by decide +kernel
theorem dX8_manyMembers_35 : decode cX8_manyMembers 35 = .ok (.iadd, 1) := by decide +kernel
theorem dX8_manyMembers_36 : decode cX8_manyMembers 36 = .ok (.istore 4, 2) := by decide +kernel
theorem dX8_manyMembers_38 : decode cX8_manyMembers 38 = .ok (.iinc 5 1, 3) := by decide +kernel
theorem dX8_manyMembers_41 : decode cX8_manyMembers 41 = .ok (.goto (-35), 3) := by decide +kernel
theorem dX8_manyMembers_44 : decode cX8_manyMembers 44 = .ok (.iload 4, 2) := by decide +kernel
theorem dX8_manyMembers_46 : decode cX8_manyMembers 46 = .ok (.ireturn, 1) := by decide +kernel
theorem dX8_hasPaper_0 : decode cX8_hasPaper 0 = .ok (.aload_n 0, 1) := by decide +kernel
theorem dX8_hasPaper_1 : decode cX8_hasPaper 1 = .ok (.getfield 43, 3) := by decide +kernel
theorem dX8_hasPaper_4 : decode cX8_hasPaper 4 = .ok (.iload_n 2, 1) := by decide +kernel
theorem dX8_hasPaper_5 : decode cX8_hasPaper 5 = .ok (.iaload, 1) := by decide +kernel
theorem dX8_hasPaper_6 : decode cX8_hasPaper 6 = .ok (.iconst (-1), 1) := by decide +kernel
theorem dX8_hasPaper_7 : decode cX8_hasPaper 7 = .ok (.if_icmp .eq 29, 3) := by decide +kernel
theorem dX8_hasPaper_10 : decode cX8_hasPaper 10 = .ok (.aload_n 0, 1) := by decide +kernel
theorem dX8_hasPaper_11 : decode cX8_hasPaper 11 = .ok (.iload_n 2, 1) := by decide +kernel
theorem dX8_hasPaper_12 : decode cX8_hasPaper 12 = .ok (.iload_n 3, 1) := by decide +kernel
theorem dX8_hasPaper_13 : decode cX8_hasPaper 13 = .ok (.iload 4, 2) := by decide +kernel
theorem dX8_hasPaper_15 : decode cX8_hasPaper 15 = .ok (.invokevirtual 104, 3) := by decide +kernel
theorem dX8_hasPaper_18 : decode cX8_hasPaper 18 = .ok (.ifCond .eq 18, 3) := by decide +kernel
theorem dX8_hasPaper_21 : decode cX8_hasPaper 21 = .ok (.aload_n 0, 1) := by decide +kernel
theorem dX8_hasPaper_22 : decode cX8_hasPaper 22 = .ok (.iload_n 2, 1) := by decide +kernel
theorem dX8_hasPaper_23 : decode cX8_hasPaper 23 = .ok (.iload_n 1, 1) := by decide +kernel
theorem dX8_hasPaper_24 : decode cX8_hasPaper 24 = .ok (.iload 4, 2) := by decide +kernel
theorem dX8_hasPaper_26 : decode cX8_hasPaper 26 = .ok (.invokevirtual 112, 3) := by decide +kernel
theorem dX8_hasPaper_29 : decode cX8_hasPaper 29 = .ok (.ifCond .eq 7, 3) := by decide +kernel
theorem dX8_hasPaper_32 : decode cX8_hasPaper 32 = .ok (.iconst 1, 1) := by decide +kernel
theorem dX8_hasPaper_33 : decode cX8_hasPaper 33 = .ok (.goto 4, 3) := by decide +kernel
theorem dX8_hasPaper_36 : decode cX8_hasPaper 36 = .ok (.iconst 0, 1) := by decide +kernel
theorem dX8_hasPaper_37 : decode cX8_hasPaper 37 = .ok (.ireturn, 1) := by decide +kernel
theorem dX8_lodge_0 : decode cX8_lodge 0 = .ok (.aload_n 0, 1) := by decide +kernel
theorem dX8_lodge_1 : decode cX8_lodge 1 = .ok (.getfield 89, 3) := by decide +kernel
theorem dX8_lodge_4 : decode cX8_lodge 4 = .ok (.istore 7, 2) := by decide +kernel
theorem dX8_lodge_6 : decode cX8_lodge 6 = .ok (.aload_n 0, 1) := by decide +kernel
theorem dX8_lodge_7 : decode cX8_lodge 7 = .ok (.dup, 1) := by decide +kernel
theorem dX8_lodge_8 : decode cX8_lodge 8 = .ok (.getfield 89, 3) := by decide +kernel
theorem dX8_lodge_11 : decode cX8_lodge 11 = .ok (.iconst 1, 1) := by decide +kernel
theorem dX8_lodge_12 : decode cX8_lodge 12 = .ok (.iadd, 1) := by decide +kernel
theorem dX8_lodge_13 : decode cX8_lodge 13 = .ok (.putfield 89, 3) := by decide +kernel
theorem dX8_lodge_16 : decode cX8_lodge 16 = .ok (.aload_n 0, 1) := by decide +kernel
theorem dX8_lodge_17 : decode cX8_lodge 17 = .ok (.getfield 25, 3) := by decide +kernel
theorem dX8_lodge_20 : decode cX8_lodge 20 = .ok (.iload 7, 2) := by decide +kernel
theorem dX8_lodge_22 : decode cX8_lodge 22 = .ok (.iload_n 1, 1) := by decide +kernel
theorem dX8_lodge_23 : decode cX8_lodge 23 = .ok (.iastore, 1) := by decide +kernel
theorem dX8_lodge_24 : decode cX8_lodge 24 = .ok (.aload_n 0, 1) := by decide +kernel
theorem dX8_lodge_25 : decode cX8_lodge 25 = .ok (.getfield 28, 3) := by decide +kernel
theorem dX8_lodge_28 : decode cX8_lodge 28 = .ok (.iload 7, 2) := by decide +kernel
theorem dX8_lodge_30 : decode cX8_lodge 30 = .ok (.iload_n 2, 1) := by decide +kernel
theorem dX8_lodge_31 : decode cX8_lodge 31 = .ok (.iastore, 1) := by decide +kernel
theorem dX8_lodge_32 : decode cX8_lodge 32 = .ok (.aload_n 0, 1) := by decide +kernel
theorem dX8_lodge_33 : decode cX8_lodge 33 = .ok (.getfield 31, 3) := by decide +kernel
theorem dX8_lodge_36 : decode cX8_lodge 36 = .ok (.iload 7, 2) := by decide +kernel
theorem dX8_lodge_38 : decode cX8_lodge 38 = .ok (.iload_n 3, 1) := by decide +kernel
theorem dX8_lodge_39 : decode cX8_lodge 39 = .ok (.iastore, 1) := by decide +kernel
theorem dX8_lodge_40 : decode cX8_lodge 40 = .ok (.aload_n 0, 1) := by decide +kernel
theorem dX8_lodge_41 : decode cX8_lodge 41 = .ok (.getfield 34, 3) := by decide +kernel
theorem dX8_lodge_44 : decode cX8_lodge 44 = .ok (.iload 7, 2) := by decide +kernel
theorem dX8_lodge_46 : decode cX8_lodge 46 = .ok (.aload_n 0, 1) := by decide +kernel
theorem dX8_lodge_47 : decode cX8_lodge 47 = .ok (.getfield 98, 3) := by decide +kernel
theorem dX8_lodge_50 : decode cX8_lodge 50 = .ok (.iastore, 1) := by decide +kernel
theorem dX8_lodge_51 : decode cX8_lodge 51 = .ok (.aload_n 0, 1) := by decide +kernel
theorem dX8_lodge_52 : decode cX8_lodge 52 = .ok (.getfield 37, 3) := by decide +kernel
theorem dX8_lodge_55 : decode cX8_lodge 55 = .ok (.iload 7, 2) := by decide +kernel
theorem dX8_lodge_57 : decode cX8_lodge 57 = .ok (.aload_n 0, 1) := by decide +kernel
theorem dX8_lodge_58 : decode cX8_lodge 58 = .ok (.getfield 98, 3) := by decide +kernel
theorem dX8_lodge_61 : decode cX8_lodge 61 = .ok (.iload 4, 2) := by decide +kernel
theorem dX8_lodge_63 : decode cX8_lodge 63 = .ok (.iadd, 1) := by decide +kernel
theorem dX8_lodge_64 : decode cX8_lodge 64 = .ok (.iastore, 1) := by decide +kernel
theorem dX8_lodge_65 : decode cX8_lodge 65 = .ok (.aload_n 0, 1) := by decide +kernel
theorem dX8_lodge_66 : decode cX8_lodge 66 = .ok (.getfield 40, 3) := by decide +kernel
theorem dX8_lodge_69 : decode cX8_lodge 69 = .ok (.iload 7, 2) := by decide +kernel
theorem dX8_lodge_71 : decode cX8_lodge 71 = .ok (.iload 5, 2) := by decide +kernel
theorem dX8_lodge_73 : decode cX8_lodge 73 = .ok (.iastore, 1) := by decide +kernel
theorem dX8_lodge_74 : decode cX8_lodge 74 = .ok (.aload_n 0, 1) := by decide +kernel
theorem dX8_lodge_75 : decode cX8_lodge 75 = .ok (.getfield 43, 3) := by decide +kernel
theorem dX8_lodge_78 : decode cX8_lodge 78 = .ok (.iload 7, 2) := by decide +kernel
theorem dX8_lodge_80 : decode cX8_lodge 80 = .ok (.iload 6, 2) := by decide +kernel
theorem dX8_lodge_82 : decode cX8_lodge 82 = .ok (.iastore, 1) := by decide +kernel
theorem dX8_lodge_83 : decode cX8_lodge 83 = .ok (.aload_n 0, 1) := by decide +kernel
theorem dX8_lodge_84 : decode cX8_lodge 84 = .ok (.getfield 46, 3) := by decide +kernel
theorem dX8_lodge_87 : decode cX8_lodge 87 = .ok (.iload 7, 2) := by decide +kernel
theorem dX8_lodge_89 : decode cX8_lodge 89 = .ok (.iconst (-1), 1) := by decide +kernel
theorem dX8_lodge_90 : decode cX8_lodge 90 = .ok (.iastore, 1) := by decide +kernel
theorem dX8_lodge_91 : decode cX8_lodge 91 = .ok (.aload_n 0, 1) := by decide +kernel
theorem dX8_lodge_92 : decode cX8_lodge 92 = .ok (.getfield 49, 3) := by decide +kernel
theorem dX8_lodge_95 : decode cX8_lodge 95 = .ok (.iload 7, 2) := by decide +kernel
theorem dX8_lodge_97 : decode cX8_lodge 97 = .ok (.iconst (-1), 1) := by decide +kernel
theorem dX8_lodge_98 : decode cX8_lodge 98 = .ok (.iastore, 1) := by decide +kernel
theorem dX8_lodge_99 : decode cX8_lodge 99 = .ok (.aload_n 0, 1) := by decide +kernel
theorem dX8_lodge_100 : decode cX8_lodge 100 = .ok (.getfield 52, 3) := by decide +kernel
theorem dX8_lodge_103 : decode cX8_lodge 103 = .ok (.iload 7, 2) := by decide +kernel
theorem dX8_lodge_105 : decode cX8_lodge 105 = .ok (.iconst 0, 1) := by decide +kernel
theorem dX8_lodge_106 : decode cX8_lodge 106 = .ok (.iastore, 1) := by decide +kernel
theorem dX8_lodge_107 : decode cX8_lodge 107 = .ok (.aload_n 0, 1) := by decide +kernel
theorem dX8_lodge_108 : decode cX8_lodge 108 = .ok (.getfield 55, 3) := by decide +kernel
theorem dX8_lodge_111 : decode cX8_lodge 111 = .ok (.iload 7, 2) := by decide +kernel
theorem dX8_lodge_113 : decode cX8_lodge 113 = .ok (.lconst 0, 1) := by decide +kernel
theorem dX8_lodge_114 : decode cX8_lodge 114 = .ok (.lastore, 1) := by decide +kernel
theorem dX8_lodge_115 : decode cX8_lodge 115 = .ok (.iload 7, 2) := by decide +kernel
theorem dX8_lodge_117 : decode cX8_lodge 117 = .ok (.ireturn, 1) := by decide +kernel
theorem dX8_isFull_0 : decode cX8_isFull 0 = .ok (.aload_n 0, 1) := by decide +kernel
theorem dX8_isFull_1 : decode cX8_isFull 1 = .ok (.getfield 89, 3) := by decide +kernel
theorem dX8_isFull_4 : decode cX8_isFull 4 = .ok (.sipush 400, 3) := by decide +kernel
theorem dX8_isFull_7 : decode cX8_isFull 7 = .ok (.if_icmp .ne 7, 3) := by decide +kernel
theorem dX8_isFull_10 : decode cX8_isFull 10 = .ok (.iconst 1, 1) := by decide +kernel
theorem dX8_isFull_11 : decode cX8_isFull 11 = .ok (.goto 4, 3) := by decide +kernel
theorem dX8_isFull_14 : decode cX8_isFull 14 = .ok (.iconst 0, 1) := by decide +kernel
theorem dX8_isFull_15 : decode cX8_isFull 15 = .ok (.ireturn, 1) := by decide +kernel
theorem dX8_hasSign_0 : decode cX8_hasSign 0 = .ok (.iconst 0, 1) := by decide +kernel
theorem dX8_hasSign_1 : decode cX8_hasSign 1 = .ok (.istore_n 3, 1) := by decide +kernel
theorem dX8_hasSign_2 : decode cX8_hasSign 2 = .ok (.iload_n 3, 1) := by decide +kernel
theorem dX8_hasSign_3 : decode cX8_hasSign 3 = .ok (.aload_n 0, 1) := by decide +kernel
theorem dX8_hasSign_4 : decode cX8_hasSign 4 = .ok (.getfield 89, 3) := by decide +kernel
theorem dX8_hasSign_7 : decode cX8_hasSign 7 = .ok (.if_icmp .ge 40, 3) := by decide +kernel
theorem dX8_hasSign_10 : decode cX8_hasSign 10 = .ok (.aload_n 0, 1) := by decide +kernel
theorem dX8_hasSign_11 : decode cX8_hasSign 11 = .ok (.getfield 25, 3) := by decide +kernel
theorem dX8_hasSign_14 : decode cX8_hasSign 14 = .ok (.iload_n 3, 1) := by decide +kernel
theorem dX8_hasSign_15 : decode cX8_hasSign 15 = .ok (.iaload, 1) := by decide +kernel
theorem dX8_hasSign_16 : decode cX8_hasSign 16 = .ok (.ifCond .ne 25, 3) := by decide +kernel
theorem dX8_hasSign_19 : decode cX8_hasSign 19 = .ok (.aload_n 0, 1) := by decide +kernel
theorem dX8_hasSign_20 : decode cX8_hasSign 20 = .ok (.getfield 28, 3) := by decide +kernel
theorem dX8_hasSign_23 : decode cX8_hasSign 23 = .ok (.iload_n 3, 1) := by decide +kernel
theorem dX8_hasSign_24 : decode cX8_hasSign 24 = .ok (.iaload, 1) := by decide +kernel
theorem dX8_hasSign_25 : decode cX8_hasSign 25 = .ok (.iload_n 1, 1) := by decide +kernel
theorem dX8_hasSign_26 : decode cX8_hasSign 26 = .ok (.if_icmp .ne 15, 3) := by decide +kernel
theorem dX8_hasSign_29 : decode cX8_hasSign 29 = .ok (.aload_n 0, 1) := by decide +kernel
theorem dX8_hasSign_30 : decode cX8_hasSign 30 = .ok (.getfield 31, 3) := by decide +kernel
theorem dX8_hasSign_33 : decode cX8_hasSign 33 = .ok (.iload_n 3, 1) := by decide +kernel
theorem dX8_hasSign_34 : decode cX8_hasSign 34 = .ok (.iaload, 1) := by decide +kernel
theorem dX8_hasSign_35 : decode cX8_hasSign 35 = .ok (.iload_n 2, 1) := by decide +kernel
theorem dX8_hasSign_36 : decode cX8_hasSign 36 = .ok (.if_icmp .ne 5, 3) := by decide +kernel
theorem dX8_hasSign_39 : decode cX8_hasSign 39 = .ok (.iconst 1, 1) := by decide +kernel
theorem dX8_hasSign_40 : decode cX8_hasSign 40 = .ok (.ireturn, 1) := by decide +kernel
theorem dX8_hasSign_41 : decode cX8_hasSign 41 = .ok (.iinc 3 1, 3) := by decide +kernel
theorem dX8_hasSign_44 : decode cX8_hasSign 44 = .ok (.goto (-42), 3) := by decide +kernel
theorem dX8_hasSign_47 : decode cX8_hasSign 47 = .ok (.iconst 0, 1) := by decide +kernel
theorem dX8_hasSign_48 : decode cX8_hasSign 48 = .ok (.ireturn, 1) := by decide +kernel
theorem dX8_sign_0 : decode cX8_sign 0 = .ok (.aload_n 0, 1) := by decide +kernel
theorem dX8_sign_1 : decode cX8_sign 1 = .ok (.iload_n 1, 1) := by decide +kernel
theorem dX8_sign_2 : decode cX8_sign 2 = .ok (.invokevirtual 115, 3) := by decide +kernel
theorem dX8_sign_5 : decode cX8_sign 5 = .ok (.ifCond .eq 11, 3) := by decide +kernel
theorem dX8_sign_8 : decode cX8_sign 8 = .ok (.aload_n 0, 1) := by decide +kernel
theorem dX8_sign_9 : decode cX8_sign 9 = .ok (.iload_n 2, 1) := by decide +kernel
theorem dX8_sign_10 : decode cX8_sign 10 = .ok (.invokevirtual 85, 3) := by decide +kernel
theorem dX8_sign_13 : decode cX8_sign 13 = .ok (.ifCond .ne 6, 3) := by decide +kernel
theorem dX8_sign_16 : decode cX8_sign 16 = .ok (.bipush (-2), 2) := by decide +kernel
theorem dX8_sign_18 : decode cX8_sign 18 = .ok (.ireturn, 1) := by decide +kernel
theorem dX8_sign_19 : decode cX8_sign 19 = .ok (.aload_n 0, 1) := by decide +kernel
theorem dX8_sign_20 : decode cX8_sign 20 = .ok (.invokevirtual 118, 3) := by decide +kernel
theorem dX8_sign_23 : decode cX8_sign 23 = .ok (.ifCond .eq 6, 3) := by decide +kernel
theorem dX8_sign_26 : decode cX8_sign 26 = .ok (.bipush (-8), 2) := by decide +kernel
theorem dX8_sign_28 : decode cX8_sign 28 = .ok (.ireturn, 1) := by decide +kernel
theorem dX8_sign_29 : decode cX8_sign 29 = .ok (.aload_n 0, 1) := by decide +kernel
theorem dX8_sign_30 : decode cX8_sign 30 = .ok (.iload_n 1, 1) := by decide +kernel
theorem dX8_sign_31 : decode cX8_sign 31 = .ok (.iload_n 2, 1) := by decide +kernel
theorem dX8_sign_32 : decode cX8_sign 32 = .ok (.invokevirtual 122, 3) := by decide +kernel
theorem dX8_sign_35 : decode cX8_sign 35 = .ok (.ifCond .eq 8, 3) := by decide +kernel
theorem dX8_sign_38 : decode cX8_sign 38 = .ok (.bipush (-4), 2) := by decide +kernel
theorem dX8_sign_40 : decode cX8_sign 40 = .ok (.goto 13, 3) := by decide +kernel
theorem dX8_sign_43 : decode cX8_sign 43 = .ok (.aload_n 0, 1) := by decide +kernel
theorem dX8_sign_44 : decode cX8_sign 44 = .ok (.iconst 0, 1) := by decide +kernel
theorem dX8_sign_45 : decode cX8_sign 45 = .ok (.iload_n 1, 1) := by decide +kernel
theorem dX8_sign_46 : decode cX8_sign 46 = .ok (.iload_n 2, 1) := by decide +kernel
theorem dX8_sign_47 : decode cX8_sign 47 = .ok (.iconst 0, 1) := by decide +kernel
theorem dX8_sign_48 : decode cX8_sign 48 = .ok (.iconst (-1), 1) := by decide +kernel
theorem dX8_sign_49 : decode cX8_sign 49 = .ok (.iconst (-1), 1) := by decide +kernel
theorem dX8_sign_50 : decode cX8_sign 50 = .ok (.invokevirtual 125, 3) := by decide +kernel
theorem dX8_sign_53 : decode cX8_sign 53 = .ok (.ireturn, 1) := by decide +kernel
theorem dX8_ratify_0 : decode cX8_ratify 0 = .ok (.aload_n 0, 1) := by decide +kernel
theorem dX8_ratify_1 : decode cX8_ratify 1 = .ok (.iload_n 1, 1) := by decide +kernel
theorem dX8_ratify_2 : decode cX8_ratify 2 = .ok (.invokevirtual 115, 3) := by decide +kernel
theorem dX8_ratify_5 : decode cX8_ratify 5 = .ok (.ifCond .eq 11, 3) := by decide +kernel
theorem dX8_ratify_8 : decode cX8_ratify 8 = .ok (.aload_n 0, 1) := by decide +kernel
theorem dX8_ratify_9 : decode cX8_ratify 9 = .ok (.iload_n 2, 1) := by decide +kernel
theorem dX8_ratify_10 : decode cX8_ratify 10 = .ok (.invokevirtual 85, 3) := by decide +kernel
theorem dX8_ratify_13 : decode cX8_ratify 13 = .ok (.ifCond .ne 6, 3) := by decide +kernel
theorem dX8_ratify_16 : decode cX8_ratify 16 = .ok (.bipush (-2), 2) := by decide +kernel
theorem dX8_ratify_18 : decode cX8_ratify 18 = .ok (.ireturn, 1) := by decide +kernel
theorem dX8_ratify_19 : decode cX8_ratify 19 = .ok (.aload_n 0, 1) := by decide +kernel
theorem dX8_ratify_20 : decode cX8_ratify 20 = .ok (.invokevirtual 118, 3) := by decide +kernel
theorem dX8_ratify_23 : decode cX8_ratify 23 = .ok (.ifCond .eq 6, 3) := by decide +kernel
theorem dX8_ratify_26 : decode cX8_ratify 26 = .ok (.bipush (-8), 2) := by decide +kernel
theorem dX8_ratify_28 : decode cX8_ratify 28 = .ok (.ireturn, 1) := by decide +kernel
theorem dX8_ratify_29 : decode cX8_ratify 29 = .ok (.aload_n 0, 1) := by decide +kernel
theorem dX8_ratify_30 : decode cX8_ratify 30 = .ok (.iload_n 1, 1) := by decide +kernel
theorem dX8_ratify_31 : decode cX8_ratify 31 = .ok (.iload_n 2, 1) := by decide +kernel
theorem dX8_ratify_32 : decode cX8_ratify 32 = .ok (.invokevirtual 122, 3) := by decide +kernel
theorem dX8_ratify_35 : decode cX8_ratify 35 = .ok (.ifCond .ne 6, 3) := by decide +kernel
theorem dX8_ratify_38 : decode cX8_ratify 38 = .ok (.bipush (-5), 2) := by decide +kernel
theorem dX8_ratify_40 : decode cX8_ratify 40 = .ok (.ireturn, 1) := by decide +kernel
theorem dX8_ratify_41 : decode cX8_ratify 41 = .ok (.aload_n 0, 1) := by decide +kernel
theorem dX8_ratify_42 : decode cX8_ratify 42 = .ok (.iload_n 1, 1) := by decide +kernel
theorem dX8_ratify_43 : decode cX8_ratify 43 = .ok (.iload_n 2, 1) := by decide +kernel
theorem dX8_ratify_44 : decode cX8_ratify 44 = .ok (.invokevirtual 129, 3) := by decide +kernel
theorem dX8_ratify_47 : decode cX8_ratify 47 = .ok (.iconst (-1), 1) := by decide +kernel
theorem dX8_ratify_48 : decode cX8_ratify 48 = .ok (.if_icmp .eq 8, 3) := by decide +kernel
theorem dX8_ratify_51 : decode cX8_ratify 51 = .ok (.bipush (-4), 2) := by decide +kernel
theorem dX8_ratify_53 : decode cX8_ratify 53 = .ok (.goto 18, 3) := by decide +kernel
theorem dX8_ratify_56 : decode cX8_ratify 56 = .ok (.aload_n 0, 1) := by decide +kernel
theorem dX8_ratify_57 : decode cX8_ratify 57 = .ok (.iconst 1, 1) := by decide +kernel
theorem dX8_ratify_58 : decode cX8_ratify 58 = .ok (.iload_n 1, 1) := by decide +kernel
theorem dX8_ratify_59 : decode cX8_ratify 59 = .ok (.iload_n 2, 1) := by decide +kernel
theorem dX8_ratify_60 : decode cX8_ratify 60 = .ok (.aload_n 0, 1) := by decide +kernel
theorem dX8_ratify_61 : decode cX8_ratify 61 = .ok (.getfield 16, 3) := by decide +kernel
theorem dX8_ratify_64 : decode cX8_ratify 64 = .ok (.iload_n 2, 1) := by decide +kernel
theorem dX8_ratify_65 : decode cX8_ratify 65 = .ok (.iaload, 1) := by decide +kernel
theorem dX8_ratify_66 : decode cX8_ratify 66 = .ok (.iconst (-1), 1) := by decide +kernel
theorem dX8_ratify_67 : decode cX8_ratify 67 = .ok (.iconst (-1), 1) := by decide +kernel
theorem dX8_ratify_68 : decode cX8_ratify 68 = .ok (.invokevirtual 125, 3) := by decide +kernel
theorem dX8_ratify_71 : decode cX8_ratify 71 = .ok (.ireturn, 1) := by decide +kernel
theorem dX8_join_0 : decode cX8_join 0 = .ok (.aload_n 0, 1) := by decide +kernel
theorem dX8_join_1 : decode cX8_join 1 = .ok (.iload_n 1, 1) := by decide +kernel
theorem dX8_join_2 : decode cX8_join 2 = .ok (.invokevirtual 115, 3) := by decide +kernel
theorem dX8_join_5 : decode cX8_join 5 = .ok (.ifCond .eq 11, 3) := by decide +kernel
theorem dX8_join_8 : decode cX8_join 8 = .ok (.aload_n 0, 1) := by decide +kernel
theorem dX8_join_9 : decode cX8_join 9 = .ok (.iload_n 2, 1) := by decide +kernel
theorem dX8_join_10 : decode cX8_join 10 = .ok (.invokevirtual 85, 3) := by decide +kernel
theorem dX8_join_13 : decode cX8_join 13 = .ok (.ifCond .ne 6, 3) := by decide +kernel
theorem dX8_join_16 : decode cX8_join 16 = .ok (.bipush (-2), 2) := by decide +kernel
theorem dX8_join_18 : decode cX8_join 18 = .ok (.ireturn, 1) := by decide +kernel
theorem dX8_join_19 : decode cX8_join 19 = .ok (.aload_n 0, 1) := by decide +kernel
theorem dX8_join_20 : decode cX8_join 20 = .ok (.invokevirtual 118, 3) := by decide +kernel
theorem dX8_join_23 : decode cX8_join 23 = .ok (.ifCond .eq 6, 3) := by decide +kernel
theorem dX8_join_26 : decode cX8_join 26 = .ok (.bipush (-8), 2) := by decide +kernel
theorem dX8_join_28 : decode cX8_join 28 = .ok (.ireturn, 1) := by decide +kernel
theorem dX8_join_29 : decode cX8_join 29 = .ok (.aload_n 0, 1) := by decide +kernel
theorem dX8_join_30 : decode cX8_join 30 = .ok (.iload_n 1, 1) := by decide +kernel
theorem dX8_join_31 : decode cX8_join 31 = .ok (.iload_n 2, 1) := by decide +kernel
theorem dX8_join_32 : decode cX8_join 32 = .ok (.invokevirtual 129, 3) := by decide +kernel
theorem dX8_join_35 : decode cX8_join 35 = .ok (.iconst (-1), 1) := by decide +kernel
theorem dX8_join_36 : decode cX8_join 36 = .ok (.if_icmp .eq 8, 3) := by decide +kernel
theorem dX8_join_39 : decode cX8_join 39 = .ok (.bipush (-4), 2) := by decide +kernel
theorem dX8_join_41 : decode cX8_join 41 = .ok (.goto 18, 3) := by decide +kernel
theorem dX8_join_44 : decode cX8_join 44 = .ok (.aload_n 0, 1) := by decide +kernel
theorem dX8_join_45 : decode cX8_join 45 = .ok (.iconst 2, 1) := by decide +kernel
theorem dX8_join_46 : decode cX8_join 46 = .ok (.iload_n 1, 1) := by decide +kernel
theorem dX8_join_47 : decode cX8_join 47 = .ok (.iload_n 2, 1) := by decide +kernel
theorem dX8_join_48 : decode cX8_join 48 = .ok (.aload_n 0, 1) := by decide +kernel
theorem dX8_join_49 : decode cX8_join 49 = .ok (.getfield 16, 3) := by decide +kernel
theorem dX8_join_52 : decode cX8_join 52 = .ok (.iload_n 2, 1) := by decide +kernel
theorem dX8_join_53 : decode cX8_join 53 = .ok (.iaload, 1) := by decide +kernel
theorem dX8_join_54 : decode cX8_join 54 = .ok (.iconst (-1), 1) := by decide +kernel
theorem dX8_join_55 : decode cX8_join 55 = .ok (.iconst (-1), 1) := by decide +kernel
theorem dX8_join_56 : decode cX8_join 56 = .ok (.invokevirtual 125, 3) := by decide +kernel
theorem dX8_join_59 : decode cX8_join 59 = .ok (.ireturn, 1) := by decide +kernel
end
section
theorem dX8_reserve_0 : decode cX8_reserve 0 = .ok (.aload_n 0, 1) := by decide +kernel
theorem dX8_reserve_1 : decode cX8_reserve 1 = .ok (.iload_n 1, 1) := by decide +kernel
theorem dX8_reserve_2 : decode cX8_reserve 2 = .ok (.invokevirtual 115, 3) := by decide +kernel
theorem dX8_reserve_5 : decode cX8_reserve 5 = .ok (.ifCond .eq 24, 3) := by decide +kernel
theorem dX8_reserve_8 : decode cX8_reserve 8 = .ok (.aload_n 0, 1) := by decide +kernel
theorem dX8_reserve_9 : decode cX8_reserve 9 = .ok (.iload_n 2, 1) := by decide +kernel
theorem dX8_reserve_10 : decode cX8_reserve 10 = .ok (.iload_n 3, 1) := by decide +kernel
theorem dX8_reserve_11 : decode cX8_reserve 11 = .ok (.invokevirtual 93, 3) := by decide +kernel
theorem dX8_reserve_14 : decode cX8_reserve 14 = .ok (.ifCond .eq 15, 3) := by decide +kernel
theorem dX8_reserve_17 : decode cX8_reserve 17 = .ok (.iload 4, 2) := by decide +kernel
theorem dX8_reserve_19 : decode cX8_reserve 19 = .ok (.ifCond .lt 10, 3) := by decide +kernel
theorem dX8_reserve_22 : decode cX8_reserve 22 = .ok (.iload 4, 2) := by decide +kernel
theorem dX8_reserve_24 : decode cX8_reserve 24 = .ok (.ldc 97, 2) := by decide +kernel
theorem dX8_reserve_26 : decode cX8_reserve 26 = .ok (.if_icmp .le 6, 3) := by decide +kernel
theorem dX8_reserve_29 : decode cX8_reserve 29 = .ok (.bipush (-2), 2) := by decide +kernel
theorem dX8_reserve_31 : decode cX8_reserve 31 = .ok (.ireturn, 1) := by decide +kernel
theorem dX8_reserve_32 : decode cX8_reserve 32 = .ok (.aload_n 0, 1) := by decide +kernel
theorem dX8_reserve_33 : decode cX8_reserve 33 = .ok (.invokevirtual 118, 3) := by decide +kernel
theorem dX8_reserve_36 : decode cX8_reserve 36 = .ok (.ifCond .eq 6, 3) := by decide +kernel
theorem dX8_reserve_39 : decode cX8_reserve 39 = .ok (.bipush (-8), 2) := by decide +kernel
theorem dX8_reserve_41 : decode cX8_reserve 41 = .ok (.ireturn, 1) := by decide +kernel
theorem dX8_reserve_42 : decode cX8_reserve 42 = .ok (.aload_n 0, 1) := by decide +kernel
theorem dX8_reserve_43 : decode cX8_reserve 43 = .ok (.iload_n 1, 1) := by decide +kernel
theorem dX8_reserve_44 : decode cX8_reserve 44 = .ok (.iload_n 2, 1) := by decide +kernel
theorem dX8_reserve_45 : decode cX8_reserve 45 = .ok (.invokevirtual 129, 3) := by decide +kernel
theorem dX8_reserve_48 : decode cX8_reserve 48 = .ok (.istore 5, 2) := by decide +kernel
theorem dX8_reserve_50 : decode cX8_reserve 50 = .ok (.iload 5, 2) := by decide +kernel
theorem dX8_reserve_52 : decode cX8_reserve 52 = .ok (.iconst (-1), 1) := by decide +kernel
theorem dX8_reserve_53 : decode cX8_reserve 53 = .ok (.if_icmp .ne 6, 3) := by decide +kernel
theorem dX8_reserve_56 : decode cX8_reserve 56 = .ok (.bipush (-6), 2) := by decide +kernel
theorem dX8_reserve_58 : decode cX8_reserve 58 = .ok (.ireturn, 1) := by decide +kernel
theorem dX8_reserve_59 : decode cX8_reserve 59 = .ok (.aload_n 0, 1) := by decide +kernel
theorem dX8_reserve_60 : decode cX8_reserve 60 = .ok (.iconst 3, 1) := by decide +kernel
theorem dX8_reserve_61 : decode cX8_reserve 61 = .ok (.iload_n 1, 1) := by decide +kernel
theorem dX8_reserve_62 : decode cX8_reserve 62 = .ok (.iload_n 2, 1) := by decide +kernel
theorem dX8_reserve_63 : decode cX8_reserve 63 = .ok (.aload_n 0, 1) := by decide +kernel
theorem dX8_reserve_64 : decode cX8_reserve 64 = .ok (.getfield 16, 3) := by decide +kernel
theorem dX8_reserve_67 : decode cX8_reserve 67 = .ok (.iload_n 2, 1) := by decide +kernel
theorem dX8_reserve_68 : decode cX8_reserve 68 = .ok (.iaload, 1) := by decide +kernel
theorem dX8_reserve_69 : decode cX8_reserve 69 = .ok (.iconst (-1), 1) := by decide +kernel
theorem dX8_reserve_70 : decode cX8_reserve 70 = .ok (.iload 5, 2) := by decide +kernel
theorem dX8_reserve_72 : decode cX8_reserve 72 = .ok (.invokevirtual 125, 3) := by decide +kernel
theorem dX8_reserve_75 : decode cX8_reserve 75 = .ok (.istore 6, 2) := by decide +kernel
theorem dX8_reserve_77 : decode cX8_reserve 77 = .ok (.aload_n 0, 1) := by decide +kernel
theorem dX8_reserve_78 : decode cX8_reserve 78 = .ok (.getfield 46, 3) := by decide +kernel
theorem dX8_reserve_81 : decode cX8_reserve 81 = .ok (.iload 6, 2) := by decide +kernel
theorem dX8_reserve_83 : decode cX8_reserve 83 = .ok (.iload_n 3, 1) := by decide +kernel
theorem dX8_reserve_84 : decode cX8_reserve 84 = .ok (.iastore, 1) := by decide +kernel
theorem dX8_reserve_85 : decode cX8_reserve 85 = .ok (.aload_n 0, 1) := by decide +kernel
theorem dX8_reserve_86 : decode cX8_reserve 86 = .ok (.getfield 49, 3) := by decide +kernel
theorem dX8_reserve_89 : decode cX8_reserve 89 = .ok (.iload 6, 2) := by decide +kernel
theorem dX8_reserve_91 : decode cX8_reserve 91 = .ok (.iload 4, 2) := by decide +kernel
theorem dX8_reserve_93 : decode cX8_reserve 93 = .ok (.iastore, 1) := by decide +kernel
theorem dX8_reserve_94 : decode cX8_reserve 94 = .ok (.iload 6, 2) := by decide +kernel
theorem dX8_reserve_96 : decode cX8_reserve 96 = .ok (.ireturn, 1) := by decide +kernel
theorem dX8_isWithdrawn_0 : decode cX8_isWithdrawn 0 = .ok (.iconst 0, 1) := by decide +kernel
theorem dX8_isWithdrawn_1 : decode cX8_isWithdrawn 1 = .ok (.istore_n 2, 1) := by decide +kernel
theorem dX8_isWithdrawn_2 : decode cX8_isWithdrawn 2 = .ok (.iload_n 2, 1) := by decide +kernel
theorem dX8_isWithdrawn_3 : decode cX8_isWithdrawn 3 = .ok (.aload_n 0, 1) := by decide +kernel
theorem dX8_isWithdrawn_4 : decode cX8_isWithdrawn 4 = .ok (.getfield 89, 3) := by decide +kernel
theorem dX8_isWithdrawn_7 : decode cX8_isWithdrawn 7 = .ok (.if_icmp .ge 31, 3) := by decide +kernel
theorem dX8_isWithdrawn_10 : decode cX8_isWithdrawn 10 = .ok (.aload_n 0, 1) := by decide +kernel
theorem dX8_isWithdrawn_11 : decode cX8_isWithdrawn 11 = .ok (.getfield 25, 3) := by decide +kernel
theorem dX8_isWithdrawn_14 : decode cX8_isWithdrawn 14 = .ok (.iload_n 2, 1) := by decide +kernel
theorem dX8_isWithdrawn_15 : decode cX8_isWithdrawn 15 = .ok (.iaload, 1) := by decide +kernel
theorem dX8_isWithdrawn_16 : decode cX8_isWithdrawn 16 = .ok (.iconst 5, 1) := by decide +kernel
theorem dX8_isWithdrawn_17 : decode cX8_isWithdrawn 17 = .ok (.if_icmp .ne 15, 3) := by decide +kernel
theorem dX8_isWithdrawn_20 : decode cX8_isWithdrawn 20 = .ok (.aload_n 0, 1) := by decide +kernel
theorem dX8_isWithdrawn_21 : decode cX8_isWithdrawn 21 = .ok (.getfield 40, 3) := by decide +kernel
theorem dX8_isWithdrawn_24 : decode cX8_isWithdrawn 24 = .ok (.iload_n 2, 1) := by decide +kernel
theorem dX8_isWithdrawn_25 : decode cX8_isWithdrawn 25 = .ok (.iaload, 1) := by decide +kernel
theorem dX8_isWithdrawn_26 : decode cX8_isWithdrawn 26 = .ok (.iload_n 1, 1) := by decide +kernel
theorem dX8_isWithdrawn_27 : decode cX8_isWithdrawn 27 = .ok (.if_icmp .ne 5, 3) := by decide +kernel
theorem dX8_isWithdrawn_30 : decode cX8_isWithdrawn 30 = .ok (.iconst 1, 1) := by decide +kernel
theorem dX8_isWithdrawn_31 : decode cX8_isWithdrawn 31 = .ok (.ireturn, 1) := by decide +kernel
theorem dX8_isWithdrawn_32 : decode cX8_isWithdrawn 32 = .ok (.iinc 2 1, 3) := by decide +kernel
theorem dX8_isWithdrawn_35 : decode cX8_isWithdrawn 35 = .ok (.goto (-33), 3) := by decide +kernel
theorem dX8_isWithdrawn_38 : decode cX8_isWithdrawn 38 = .ok (.iconst 0, 1) := by decide +kernel
theorem dX8_isWithdrawn_39 : decode cX8_isWithdrawn 39 = .ok (.ireturn, 1) := by decide +kernel
theorem dX8_isSaid_0 : decode cX8_isSaid 0 = .ok (.iconst 0, 1) := by decide +kernel
theorem dX8_isSaid_1 : decode cX8_isSaid 1 = .ok (.istore 5, 2) := by decide +kernel
theorem dX8_isSaid_3 : decode cX8_isSaid 3 = .ok (.iload 5, 2) := by decide +kernel
theorem dX8_isSaid_5 : decode cX8_isSaid 5 = .ok (.aload_n 0, 1) := by decide +kernel
theorem dX8_isSaid_6 : decode cX8_isSaid 6 = .ok (.getfield 89, 3) := by decide +kernel
theorem dX8_isSaid_9 : decode cX8_isSaid 9 = .ok (.if_icmp .ge 65, 3) := by decide +kernel
theorem dX8_isSaid_12 : decode cX8_isSaid 12 = .ok (.aload_n 0, 1) := by decide +kernel
theorem dX8_isSaid_13 : decode cX8_isSaid 13 = .ok (.getfield 25, 3) := by decide +kernel
theorem dX8_isSaid_16 : decode cX8_isSaid 16 = .ok (.iload 5, 2) := by decide +kernel
theorem dX8_isSaid_18 : decode cX8_isSaid 18 = .ok (.iaload, 1) := by decide +kernel
theorem dX8_isSaid_19 : decode cX8_isSaid 19 = .ok (.iload_n 1, 1) := by decide +kernel
theorem dX8_isSaid_20 : decode cX8_isSaid 20 = .ok (.if_icmp .ne 48, 3) := by decide +kernel
theorem dX8_isSaid_23 : decode cX8_isSaid 23 = .ok (.aload_n 0, 1) := by decide +kernel
theorem dX8_isSaid_24 : decode cX8_isSaid 24 = .ok (.getfield 28, 3) := by decide +kernel
theorem dX8_isSaid_27 : decode cX8_isSaid 27 = .ok (.iload 5, 2) := by decide +kernel
theorem dX8_isSaid_29 : decode cX8_isSaid 29 = .ok (.iaload, 1) := by decide +kernel
theorem dX8_isSaid_30 : decode cX8_isSaid 30 = .ok (.iload_n 2, 1) := by decide +kernel
theorem dX8_isSaid_31 : decode cX8_isSaid 31 = .ok (.if_icmp .ne 37, 3) := by decide +kernel
theorem dX8_isSaid_34 : decode cX8_isSaid 34 = .ok (.aload_n 0, 1) := by decide +kernel
theorem dX8_isSaid_35 : decode cX8_isSaid 35 = .ok (.getfield 40, 3) := by decide +kernel
theorem dX8_isSaid_38 : decode cX8_isSaid 38 = .ok (.iload 5, 2) := by decide +kernel
theorem dX8_isSaid_40 : decode cX8_isSaid 40 = .ok (.iaload, 1) := by decide +kernel
theorem dX8_isSaid_41 : decode cX8_isSaid 41 = .ok (.iload_n 3, 1) := by decide +kernel
theorem dX8_isSaid_42 : decode cX8_isSaid 42 = .ok (.if_icmp .ne 26, 3) := by decide +kernel
theorem dX8_isSaid_45 : decode cX8_isSaid 45 = .ok (.aload_n 0, 1) := by decide +kernel
theorem dX8_isSaid_46 : decode cX8_isSaid 46 = .ok (.getfield 43, 3) := by decide +kernel
theorem dX8_isSaid_49 : decode cX8_isSaid 49 = .ok (.iload 5, 2) := by decide +kernel
theorem dX8_isSaid_51 : decode cX8_isSaid 51 = .ok (.iaload, 1) := by decide +kernel
theorem dX8_isSaid_52 : decode cX8_isSaid 52 = .ok (.iload 4, 2) := by decide +kernel
theorem dX8_isSaid_54 : decode cX8_isSaid 54 = .ok (.if_icmp .ne 14, 3) := by decide +kernel
theorem dX8_isSaid_57 : decode cX8_isSaid 57 = .ok (.aload_n 0, 1) := by decide +kernel
theorem dX8_isSaid_58 : decode cX8_isSaid 58 = .ok (.iload 5, 2) := by decide +kernel
theorem dX8_isSaid_60 : decode cX8_isSaid 60 = .ok (.invokevirtual 133, 3) := by decide +kernel
theorem dX8_isSaid_63 : decode cX8_isSaid 63 = .ok (.ifCond .ne 5, 3) := by decide +kernel
theorem dX8_isSaid_66 : decode cX8_isSaid 66 = .ok (.iconst 1, 1) := by decide +kernel
theorem dX8_isSaid_67 : decode cX8_isSaid 67 = .ok (.ireturn, 1) := by decide +kernel
theorem dX8_isSaid_68 : decode cX8_isSaid 68 = .ok (.iinc 5 1, 3) := by decide +kernel
theorem dX8_isSaid_71 : decode cX8_isSaid 71 = .ok (.goto (-68), 3) := by decide +kernel
theorem dX8_isSaid_74 : decode cX8_isSaid 74 = .ok (.iconst 0, 1) := by decide +kernel
theorem dX8_isSaid_75 : decode cX8_isSaid 75 = .ok (.ireturn, 1) := by decide +kernel
theorem dX8_object_0 : decode cX8_object 0 = .ok (.aload_n 0, 1) := by decide +kernel
theorem dX8_object_1 : decode cX8_object 1 = .ok (.iload_n 1, 1) := by decide +kernel
theorem dX8_object_2 : decode cX8_object 2 = .ok (.invokevirtual 115, 3) := by decide +kernel
theorem dX8_object_5 : decode cX8_object 5 = .ok (.ifCond .eq 21, 3) := by decide +kernel
theorem dX8_object_8 : decode cX8_object 8 = .ok (.aload_n 0, 1) := by decide +kernel
theorem dX8_object_9 : decode cX8_object 9 = .ok (.iload_n 2, 1) := by decide +kernel
theorem dX8_object_10 : decode cX8_object 10 = .ok (.invokevirtual 136, 3) := by decide +kernel
theorem dX8_object_13 : decode cX8_object 13 = .ok (.ifCond .eq 13, 3) := by decide +kernel
theorem dX8_object_16 : decode cX8_object 16 = .ok (.aload_n 0, 1) := by decide +kernel
theorem dX8_object_17 : decode cX8_object 17 = .ok (.getfield 25, 3) := by decide +kernel
theorem dX8_object_20 : decode cX8_object 20 = .ok (.iload_n 2, 1) := by decide +kernel
theorem dX8_object_21 : decode cX8_object 21 = .ok (.iaload, 1) := by decide +kernel
theorem dX8_object_22 : decode cX8_object 22 = .ok (.iconst 3, 1) := by decide +kernel
theorem dX8_object_23 : decode cX8_object 23 = .ok (.if_icmp .eq 6, 3) := by decide +kernel
theorem dX8_object_26 : decode cX8_object 26 = .ok (.bipush (-2), 2) := by decide +kernel
theorem dX8_object_28 : decode cX8_object 28 = .ok (.ireturn, 1) := by decide +kernel
theorem dX8_object_29 : decode cX8_object 29 = .ok (.aload_n 0, 1) := by decide +kernel
theorem dX8_object_30 : decode cX8_object 30 = .ok (.invokevirtual 118, 3) := by decide +kernel
theorem dX8_object_33 : decode cX8_object 33 = .ok (.ifCond .eq 6, 3) := by decide +kernel
theorem dX8_object_36 : decode cX8_object 36 = .ok (.bipush (-8), 2) := by decide +kernel
theorem dX8_object_38 : decode cX8_object 38 = .ok (.ireturn, 1) := by decide +kernel
theorem dX8_object_39 : decode cX8_object 39 = .ok (.aload_n 0, 1) := by decide +kernel
theorem dX8_object_40 : decode cX8_object 40 = .ok (.getfield 31, 3) := by decide +kernel
theorem dX8_object_43 : decode cX8_object 43 = .ok (.iload_n 2, 1) := by decide +kernel
theorem dX8_object_44 : decode cX8_object 44 = .ok (.iaload, 1) := by decide +kernel
theorem dX8_object_45 : decode cX8_object 45 = .ok (.istore 4, 2) := by decide +kernel
theorem dX8_object_47 : decode cX8_object 47 = .ok (.aload_n 0, 1) := by decide +kernel
theorem dX8_object_48 : decode cX8_object 48 = .ok (.iload_n 1, 1) := by decide +kernel
theorem dX8_object_49 : decode cX8_object 49 = .ok (.iload 4, 2) := by decide +kernel
theorem dX8_object_51 : decode cX8_object 51 = .ok (.invokevirtual 129, 3) := by decide +kernel
theorem dX8_object_54 : decode cX8_object 54 = .ok (.istore 5, 2) := by decide +kernel
theorem dX8_object_56 : decode cX8_object 56 = .ok (.iload 5, 2) := by decide +kernel
theorem dX8_object_58 : decode cX8_object 58 = .ok (.iconst (-1), 1) := by decide +kernel
theorem dX8_object_59 : decode cX8_object 59 = .ok (.if_icmp .ne 6, 3) := by decide +kernel
theorem dX8_object_62 : decode cX8_object 62 = .ok (.bipush (-6), 2) := by decide +kernel
theorem dX8_object_64 : decode cX8_object 64 = .ok (.ireturn, 1) := by decide +kernel
theorem dX8_object_65 : decode cX8_object 65 = .ok (.aload_n 0, 1) := by decide +kernel
theorem dX8_object_66 : decode cX8_object 66 = .ok (.iload_n 2, 1) := by decide +kernel
theorem dX8_object_67 : decode cX8_object 67 = .ok (.iload 5, 2) := by decide +kernel
theorem dX8_object_69 : decode cX8_object 69 = .ok (.aload_n 0, 1) := by decide +kernel
theorem dX8_object_70 : decode cX8_object 70 = .ok (.getfield 98, 3) := by decide +kernel
theorem dX8_object_73 : decode cX8_object 73 = .ok (.invokevirtual 112, 3) := by decide +kernel
theorem dX8_object_76 : decode cX8_object 76 = .ok (.ifCond .eq 6, 3) := by decide +kernel
theorem dX8_object_79 : decode cX8_object 79 = .ok (.bipush (-7), 2) := by decide +kernel
theorem dX8_object_81 : decode cX8_object 81 = .ok (.ireturn, 1) := by decide +kernel
theorem dX8_object_82 : decode cX8_object 82 = .ok (.aload_n 0, 1) := by decide +kernel
theorem dX8_object_83 : decode cX8_object 83 = .ok (.getfield 98, 3) := by decide +kernel
theorem dX8_object_86 : decode cX8_object 86 = .ok (.aload_n 0, 1) := by decide +kernel
theorem dX8_object_87 : decode cX8_object 87 = .ok (.getfield 34, 3) := by decide +kernel
theorem dX8_object_90 : decode cX8_object 90 = .ok (.iload_n 2, 1) := by decide +kernel
theorem dX8_object_91 : decode cX8_object 91 = .ok (.iaload, 1) := by decide +kernel
theorem dX8_object_92 : decode cX8_object 92 = .ok (.aload_n 0, 1) := by decide +kernel
theorem dX8_object_93 : decode cX8_object 93 = .ok (.getfield 19, 3) := by decide +kernel
theorem dX8_object_96 : decode cX8_object 96 = .ok (.iload 4, 2) := by decide +kernel
theorem dX8_object_98 : decode cX8_object 98 = .ok (.iaload, 1) := by decide +kernel
theorem dX8_object_99 : decode cX8_object 99 = .ok (.iadd, 1) := by decide +kernel
theorem dX8_object_100 : decode cX8_object 100 = .ok (.if_icmp .le 6, 3) := by decide +kernel
theorem dX8_object_103 : decode cX8_object 103 = .ok (.bipush (-3), 2) := by decide +kernel
theorem dX8_object_105 : decode cX8_object 105 = .ok (.ireturn, 1) := by decide +kernel
theorem dX8_object_106 : decode cX8_object 106 = .ok (.aload_n 0, 1) := by decide +kernel
theorem dX8_object_107 : decode cX8_object 107 = .ok (.iconst 4, 1) := by decide +kernel
theorem dX8_object_108 : decode cX8_object 108 = .ok (.iload_n 1, 1) := by decide +kernel
theorem dX8_object_109 : decode cX8_object 109 = .ok (.iload_n 2, 1) := by decide +kernel
theorem dX8_object_110 : decode cX8_object 110 = .ok (.iload 5, 2) := by decide +kernel
theorem dX8_object_112 : decode cX8_object 112 = .ok (.invokevirtual 139, 3) := by decide +kernel
theorem dX8_object_115 : decode cX8_object 115 = .ok (.ifCond .eq 6, 3) := by decide +kernel
theorem dX8_object_118 : decode cX8_object 118 = .ok (.bipush (-4), 2) := by decide +kernel
theorem dX8_object_120 : decode cX8_object 120 = .ok (.ireturn, 1) := by decide +kernel
theorem dX8_object_121 : decode cX8_object 121 = .ok (.aload_n 0, 1) := by decide +kernel
theorem dX8_object_122 : decode cX8_object 122 = .ok (.iconst 4, 1) := by decide +kernel
theorem dX8_object_123 : decode cX8_object 123 = .ok (.iload_n 1, 1) := by decide +kernel
theorem dX8_object_124 : decode cX8_object 124 = .ok (.iload 4, 2) := by decide +kernel
theorem dX8_object_126 : decode cX8_object 126 = .ok (.iconst 0, 1) := by decide +kernel
theorem dX8_object_127 : decode cX8_object 127 = .ok (.iload_n 2, 1) := by decide +kernel
theorem dX8_object_128 : decode cX8_object 128 = .ok (.iload 5, 2) := by decide +kernel
theorem dX8_object_130 : decode cX8_object 130 = .ok (.invokevirtual 125, 3) := by decide +kernel
theorem dX8_object_133 : decode cX8_object 133 = .ok (.istore 6, 2) := by decide +kernel
theorem dX8_object_135 : decode cX8_object 135 = .ok (.aload_n 0, 1) := by decide +kernel
theorem dX8_object_136 : decode cX8_object 136 = .ok (.getfield 52, 3) := by decide +kernel
theorem dX8_object_139 : decode cX8_object 139 = .ok (.iload 6, 2) := by decide +kernel
theorem dX8_object_141 : decode cX8_object 141 = .ok (.iload_n 3, 1) := by decide +kernel
theorem dX8_object_142 : decode cX8_object 142 = .ok (.ifCond .eq 7, 3) := by decide +kernel
theorem dX8_object_145 : decode cX8_object 145 = .ok (.iconst 1, 1) := by decide +kernel
theorem dX8_object_146 : decode cX8_object 146 = .ok (.goto 4, 3) := by decide +kernel
theorem dX8_object_149 : decode cX8_object 149 = .ok (.iconst 0, 1) := by decide +kernel
theorem dX8_object_150 : decode cX8_object 150 = .ok (.iastore, 1) := by decide +kernel
theorem dX8_object_151 : decode cX8_object 151 = .ok (.iload 6, 2) := by decide +kernel
theorem dX8_object_153 : decode cX8_object 153 = .ok (.ireturn, 1) := by decide +kernel
theorem dX8_withdraw_0 : decode cX8_withdraw 0 = .ok (.aload_n 0, 1) := by decide +kernel
theorem dX8_withdraw_1 : decode cX8_withdraw 1 = .ok (.iload_n 1, 1) := by decide +kernel
theorem dX8_withdraw_2 : decode cX8_withdraw 2 = .ok (.invokevirtual 115, 3) := by decide +kernel
theorem dX8_withdraw_5 : decode cX8_withdraw 5 = .ok (.ifCond .eq 15, 3) := by decide +kernel
theorem dX8_withdraw_8 : decode cX8_withdraw 8 = .ok (.aload_n 0, 1) := by decide +kernel
theorem dX8_withdraw_9 : decode cX8_withdraw 9 = .ok (.iload_n 2, 1) := by decide +kernel
theorem dX8_withdraw_10 : decode cX8_withdraw 10 = .ok (.invokevirtual 136, 3) := by decide +kernel
theorem dX8_withdraw_13 : decode cX8_withdraw 13 = .ok (.ifCond .eq 7, 3) := by decide +kernel
theorem dX8_withdraw_16 : decode cX8_withdraw 16 = .ok (.iconst 1, 1) := by decide +kernel
theorem dX8_withdraw_17 : decode cX8_withdraw 17 = .ok (.goto 4, 3) := by decide +kernel
theorem dX8_withdraw_20 : decode cX8_withdraw 20 = .ok (.iconst 0, 1) := by decide +kernel
theorem dX8_withdraw_21 : decode cX8_withdraw 21 = .ok (.istore_n 3, 1) := by decide +kernel
theorem dX8_withdraw_22 : decode cX8_withdraw 22 = .ok (.iload_n 3, 1) := by decide +kernel
theorem dX8_withdraw_23 : decode cX8_withdraw 23 = .ok (.ifCond .eq 42, 3) := by decide +kernel
theorem dX8_withdraw_26 : decode cX8_withdraw 26 = .ok (.aload_n 0, 1) := by decide +kernel
theorem dX8_withdraw_27 : decode cX8_withdraw 27 = .ok (.iload_n 2, 1) := by decide +kernel
theorem dX8_withdraw_28 : decode cX8_withdraw 28 = .ok (.invokevirtual 101, 3) := by decide +kernel
theorem dX8_withdraw_31 : decode cX8_withdraw 31 = .ok (.ifCond .ne 37, 3) := by decide +kernel
theorem dX8_withdraw_34 : decode cX8_withdraw 34 = .ok (.aload_n 0, 1) := by decide +kernel
theorem dX8_withdraw_35 : decode cX8_withdraw 35 = .ok (.getfield 25, 3) := by decide +kernel
theorem dX8_withdraw_38 : decode cX8_withdraw 38 = .ok (.iload_n 2, 1) := by decide +kernel
theorem dX8_withdraw_39 : decode cX8_withdraw 39 = .ok (.iaload, 1) := by decide +kernel
theorem dX8_withdraw_40 : decode cX8_withdraw 40 = .ok (.iconst 3, 1) := by decide +kernel
theorem dX8_withdraw_41 : decode cX8_withdraw 41 = .ok (.if_icmp .eq 27, 3) := by decide +kernel
theorem dX8_withdraw_44 : decode cX8_withdraw 44 = .ok (.aload_n 0, 1) := by decide +kernel
theorem dX8_withdraw_45 : decode cX8_withdraw 45 = .ok (.getfield 25, 3) := by decide +kernel
theorem dX8_withdraw_48 : decode cX8_withdraw 48 = .ok (.iload_n 2, 1) := by decide +kernel
theorem dX8_withdraw_49 : decode cX8_withdraw 49 = .ok (.iaload, 1) := by decide +kernel
theorem dX8_withdraw_50 : decode cX8_withdraw 50 = .ok (.iconst 4, 1) := by decide +kernel
theorem dX8_withdraw_51 : decode cX8_withdraw 51 = .ok (.if_icmp .eq 17, 3) := by decide +kernel
theorem dX8_withdraw_54 : decode cX8_withdraw 54 = .ok (.aload_n 0, 1) := by decide +kernel
theorem dX8_withdraw_55 : decode cX8_withdraw 55 = .ok (.getfield 25, 3) := by decide +kernel
theorem dX8_withdraw_58 : decode cX8_withdraw 58 = .ok (.iload_n 2, 1) := by decide +kernel
theorem dX8_withdraw_59 : decode cX8_withdraw 59 = .ok (.iaload, 1) := by decide +kernel
theorem dX8_withdraw_60 : decode cX8_withdraw 60 = .ok (.bipush 7, 2) := by decide +kernel
theorem dX8_withdraw_62 : decode cX8_withdraw 62 = .ok (.if_icmp .eq 6, 3) := by decide +kernel
theorem dX8_withdraw_65 : decode cX8_withdraw 65 = .ok (.bipush (-2), 2) := by decide +kernel
theorem dX8_withdraw_67 : decode cX8_withdraw 67 = .ok (.ireturn, 1) := by decide +kernel
theorem dX8_withdraw_68 : decode cX8_withdraw 68 = .ok (.aload_n 0, 1) := by decide +kernel
theorem dX8_withdraw_69 : decode cX8_withdraw 69 = .ok (.invokevirtual 118, 3) := by decide +kernel
theorem dX8_withdraw_72 : decode cX8_withdraw 72 = .ok (.ifCond .eq 6, 3) := by decide +kernel
theorem dX8_withdraw_75 : decode cX8_withdraw 75 = .ok (.bipush (-8), 2) := by decide +kernel
theorem dX8_withdraw_77 : decode cX8_withdraw 77 = .ok (.ireturn, 1) := by decide +kernel
theorem dX8_withdraw_78 : decode cX8_withdraw 78 = .ok (.aload_n 0, 1) := by decide +kernel
theorem dX8_withdraw_79 : decode cX8_withdraw 79 = .ok (.iload_n 1, 1) := by decide +kernel
theorem dX8_withdraw_80 : decode cX8_withdraw 80 = .ok (.aload_n 0, 1) := by decide +kernel
theorem dX8_withdraw_81 : decode cX8_withdraw 81 = .ok (.getfield 31, 3) := by decide +kernel
theorem dX8_withdraw_84 : decode cX8_withdraw 84 = .ok (.iload_n 2, 1) := by decide +kernel
theorem dX8_withdraw_85 : decode cX8_withdraw 85 = .ok (.iaload, 1) := by decide +kernel
theorem dX8_withdraw_86 : decode cX8_withdraw 86 = .ok (.invokevirtual 129, 3) := by decide +kernel
theorem dX8_withdraw_89 : decode cX8_withdraw 89 = .ok (.istore 4, 2) := by decide +kernel
theorem dX8_withdraw_91 : decode cX8_withdraw 91 = .ok (.iload 4, 2) := by decide +kernel
theorem dX8_withdraw_93 : decode cX8_withdraw 93 = .ok (.iconst (-1), 1) := by decide +kernel
theorem dX8_withdraw_94 : decode cX8_withdraw 94 = .ok (.if_icmp .ne 6, 3) := by decide +kernel
theorem dX8_withdraw_97 : decode cX8_withdraw 97 = .ok (.bipush (-6), 2) := by decide +kernel
theorem dX8_withdraw_99 : decode cX8_withdraw 99 = .ok (.ireturn, 1) := by decide +kernel
theorem dX8_withdraw_100 : decode cX8_withdraw 100 = .ok (.iload_n 2, 1) := by decide +kernel
theorem dX8_withdraw_101 : decode cX8_withdraw 101 = .ok (.iload 4, 2) := by decide +kernel
theorem dX8_withdraw_103 : decode cX8_withdraw 103 = .ok (.if_icmp .eq 30, 3) := by decide +kernel
theorem dX8_withdraw_106 : decode cX8_withdraw 106 = .ok (.aload_n 0, 1) := by decide +kernel
theorem dX8_withdraw_107 : decode cX8_withdraw 107 = .ok (.getfield 43, 3) := by decide +kernel
theorem dX8_withdraw_110 : decode cX8_withdraw 110 = .ok (.iload_n 2, 1) := by decide +kernel
theorem dX8_withdraw_111 : decode cX8_withdraw 111 = .ok (.iaload, 1) := by decide +kernel
theorem dX8_withdraw_112 : decode cX8_withdraw 112 = .ok (.iconst (-1), 1) := by decide +kernel
theorem dX8_withdraw_113 : decode cX8_withdraw 113 = .ok (.if_icmp .eq 17, 3) := by decide +kernel
theorem dX8_withdraw_116 : decode cX8_withdraw 116 = .ok (.aload_n 0, 1) := by decide +kernel
theorem dX8_withdraw_117 : decode cX8_withdraw 117 = .ok (.iload_n 2, 1) := by decide +kernel
theorem dX8_withdraw_118 : decode cX8_withdraw 118 = .ok (.iload 4, 2) := by decide +kernel
theorem dX8_withdraw_120 : decode cX8_withdraw 120 = .ok (.aload_n 0, 1) := by decide +kernel
theorem dX8_withdraw_121 : decode cX8_withdraw 121 = .ok (.getfield 98, 3) := by decide +kernel
theorem dX8_withdraw_124 : decode cX8_withdraw 124 = .ok (.invokevirtual 112, 3) := by decide +kernel
theorem dX8_withdraw_127 : decode cX8_withdraw 127 = .ok (.ifCond .ne 6, 3) := by decide +kernel
theorem dX8_withdraw_130 : decode cX8_withdraw 130 = .ok (.bipush (-7), 2) := by decide +kernel
theorem dX8_withdraw_132 : decode cX8_withdraw 132 = .ok (.ireturn, 1) := by decide +kernel
theorem dX8_withdraw_133 : decode cX8_withdraw 133 = .ok (.aload_n 0, 1) := by decide +kernel
theorem dX8_withdraw_134 : decode cX8_withdraw 134 = .ok (.iload_n 2, 1) := by decide +kernel
theorem dX8_withdraw_135 : decode cX8_withdraw 135 = .ok (.invokevirtual 133, 3) := by decide +kernel
theorem dX8_withdraw_138 : decode cX8_withdraw 138 = .ok (.ifCond .eq 8, 3) := by decide +kernel
theorem dX8_withdraw_141 : decode cX8_withdraw 141 = .ok (.bipush (-4), 2) := by decide +kernel
theorem dX8_withdraw_143 : decode cX8_withdraw 143 = .ok (.goto 28, 3) := by decide +kernel
theorem dX8_withdraw_146 : decode cX8_withdraw 146 = .ok (.aload_n 0, 1) := by decide +kernel
theorem dX8_withdraw_147 : decode cX8_withdraw 147 = .ok (.iconst 5, 1) := by decide +kernel
theorem dX8_withdraw_148 : decode cX8_withdraw 148 = .ok (.iload_n 1, 1) := by decide +kernel
theorem dX8_withdraw_149 : decode cX8_withdraw 149 = .ok (.aload_n 0, 1) := by decide +kernel
theorem dX8_withdraw_150 : decode cX8_withdraw 150 = .ok (.getfield 31, 3) := by decide +kernel
theorem dX8_withdraw_153 : decode cX8_withdraw 153 = .ok (.iload_n 2, 1) := by decide +kernel
theorem dX8_withdraw_154 : decode cX8_withdraw 154 = .ok (.iaload, 1) := by decide +kernel
theorem dX8_withdraw_155 : decode cX8_withdraw 155 = .ok (.aload_n 0, 1) := by decide +kernel
theorem dX8_withdraw_156 : decode cX8_withdraw 156 = .ok (.getfield 16, 3) := by decide +kernel
theorem dX8_withdraw_159 : decode cX8_withdraw 159 = .ok (.aload_n 0, 1) := by decide +kernel
theorem dX8_withdraw_160 : decode cX8_withdraw 160 = .ok (.getfield 31, 3) := by decide +kernel
theorem dX8_withdraw_163 : decode cX8_withdraw 163 = .ok (.iload_n 2, 1) := by decide +kernel
theorem dX8_withdraw_164 : decode cX8_withdraw 164 = .ok (.iaload, 1) := by decide +kernel
theorem dX8_withdraw_165 : decode cX8_withdraw 165 = .ok (.iaload, 1) := by decide +kernel
theorem dX8_withdraw_166 : decode cX8_withdraw 166 = .ok (.iload_n 2, 1) := by decide +kernel
theorem dX8_withdraw_167 : decode cX8_withdraw 167 = .ok (.iconst (-1), 1) := by decide +kernel
theorem dX8_withdraw_168 : decode cX8_withdraw 168 = .ok (.invokevirtual 125, 3) := by decide +kernel
theorem dX8_withdraw_171 : decode cX8_withdraw 171 = .ok (.ireturn, 1) := by decide +kernel
theorem dX8_change_0 : decode cX8_change 0 = .ok (.aload_n 0, 1) := by decide +kernel
theorem dX8_change_1 : decode cX8_change 1 = .ok (.iload_n 1, 1) := by decide +kernel
theorem dX8_change_2 : decode cX8_change 2 = .ok (.invokevirtual 115, 3) := by decide +kernel
theorem dX8_change_5 : decode cX8_change 5 = .ok (.ifCond .eq 25, 3) := by decide +kernel
theorem dX8_change_8 : decode cX8_change 8 = .ok (.aload_n 0, 1) := by decide +kernel
theorem dX8_change_9 : decode cX8_change 9 = .ok (.iload_n 2, 1) := by decide +kernel
theorem dX8_change_10 : decode cX8_change 10 = .ok (.iload_n 3, 1) := by decide +kernel
theorem dX8_change_11 : decode cX8_change 11 = .ok (.invokevirtual 93, 3) := by decide +kernel
theorem dX8_change_14 : decode cX8_change 14 = .ok (.ifCond .eq 16, 3) := by decide +kernel
theorem dX8_change_17 : decode cX8_change 17 = .ok (.iload 4, 2) := by decide +kernel
theorem dX8_change_19 : decode cX8_change 19 = .ok (.iconst 1, 1) := by decide +kernel
theorem dX8_change_20 : decode cX8_change 20 = .ok (.if_icmp .lt 10, 3) := by decide +kernel
theorem dX8_change_23 : decode cX8_change 23 = .ok (.iload 4, 2) := by decide +kernel
theorem dX8_change_25 : decode cX8_change 25 = .ok (.ldc 97, 2) := by decide +kernel
theorem dX8_change_27 : decode cX8_change 27 = .ok (.if_icmp .le 6, 3) := by decide +kernel
theorem dX8_change_30 : decode cX8_change 30 = .ok (.bipush (-2), 2) := by decide +kernel
theorem dX8_change_32 : decode cX8_change 32 = .ok (.ireturn, 1) := by decide +kernel
theorem dX8_change_33 : decode cX8_change 33 = .ok (.aload_n 0, 1) := by decide +kernel
theorem dX8_change_34 : decode cX8_change 34 = .ok (.invokevirtual 118, 3) := by decide +kernel
theorem dX8_change_37 : decode cX8_change 37 = .ok (.ifCond .eq 6, 3) := by decide +kernel
theorem dX8_change_40 : decode cX8_change 40 = .ok (.bipush (-8), 2) := by decide +kernel
theorem dX8_change_42 : decode cX8_change 42 = .ok (.ireturn, 1) := by decide +kernel
theorem dX8_change_43 : decode cX8_change 43 = .ok (.aload_n 0, 1) := by decide +kernel
theorem dX8_change_44 : decode cX8_change 44 = .ok (.iload_n 1, 1) := by decide +kernel
theorem dX8_change_45 : decode cX8_change 45 = .ok (.iload_n 2, 1) := by decide +kernel
theorem dX8_change_46 : decode cX8_change 46 = .ok (.invokevirtual 129, 3) := by decide +kernel
theorem dX8_change_49 : decode cX8_change 49 = .ok (.istore 5, 2) := by decide +kernel
theorem dX8_change_51 : decode cX8_change 51 = .ok (.iload 5, 2) := by decide +kernel
theorem dX8_change_53 : decode cX8_change 53 = .ok (.iconst (-1), 1) := by decide +kernel
theorem dX8_change_54 : decode cX8_change 54 = .ok (.if_icmp .ne 6, 3) := by decide +kernel
theorem dX8_change_57 : decode cX8_change 57 = .ok (.bipush (-6), 2) := by decide +kernel
theorem dX8_change_59 : decode cX8_change 59 = .ok (.ireturn, 1) := by decide +kernel
theorem dX8_change_60 : decode cX8_change 60 = .ok (.aload_n 0, 1) := by decide +kernel
theorem dX8_change_61 : decode cX8_change 61 = .ok (.bipush 6, 2) := by decide +kernel
theorem dX8_change_63 : decode cX8_change 63 = .ok (.iload_n 1, 1) := by decide +kernel
theorem dX8_change_64 : decode cX8_change 64 = .ok (.iload_n 2, 1) := by decide +kernel
theorem dX8_change_65 : decode cX8_change 65 = .ok (.iconst 0, 1) := by decide +kernel
theorem dX8_change_66 : decode cX8_change 66 = .ok (.iconst (-1), 1) := by decide +kernel
theorem dX8_change_67 : decode cX8_change 67 = .ok (.iload 5, 2) := by decide +kernel
theorem dX8_change_69 : decode cX8_change 69 = .ok (.invokevirtual 125, 3) := by decide +kernel
theorem dX8_change_72 : decode cX8_change 72 = .ok (.istore 6, 2) := by decide +kernel
theorem dX8_change_74 : decode cX8_change 74 = .ok (.aload_n 0, 1) := by decide +kernel
theorem dX8_change_75 : decode cX8_change 75 = .ok (.getfield 46, 3) := by decide +kernel
theorem dX8_change_78 : decode cX8_change 78 = .ok (.iload 6, 2) := by decide +kernel
theorem dX8_change_80 : decode cX8_change 80 = .ok (.iload_n 3, 1) := by decide +kernel
theorem dX8_change_81 : decode cX8_change 81 = .ok (.iastore, 1) := by decide +kernel
theorem dX8_change_82 : decode cX8_change 82 = .ok (.aload_n 0, 1) := by decide +kernel
theorem dX8_change_83 : decode cX8_change 83 = .ok (.getfield 49, 3) := by decide +kernel
theorem dX8_change_86 : decode cX8_change 86 = .ok (.iload 6, 2) := by decide +kernel
theorem dX8_change_88 : decode cX8_change 88 = .ok (.iload 4, 2) := by decide +kernel
theorem dX8_change_90 : decode cX8_change 90 = .ok (.iastore, 1) := by decide +kernel
theorem dX8_change_91 : decode cX8_change 91 = .ok (.iload 6, 2) := by decide +kernel
theorem dX8_change_93 : decode cX8_change 93 = .ok (.ireturn, 1) := by decide +kernel
theorem dX8_consent_0 : decode cX8_consent 0 = .ok (.aload_n 0, 1) := by decide +kernel
theorem dX8_consent_1 : decode cX8_consent 1 = .ok (.iload_n 1, 1) := by decide +kernel
theorem dX8_consent_2 : decode cX8_consent 2 = .ok (.invokevirtual 115, 3) := by decide +kernel
theorem dX8_consent_5 : decode cX8_consent 5 = .ok (.ifCond .eq 22, 3) := by decide +kernel
theorem dX8_consent_8 : decode cX8_consent 8 = .ok (.aload_n 0, 1) := by decide +kernel
theorem dX8_consent_9 : decode cX8_consent 9 = .ok (.iload_n 2, 1) := by decide +kernel
theorem dX8_consent_10 : decode cX8_consent 10 = .ok (.invokevirtual 136, 3) := by decide +kernel
theorem dX8_consent_13 : decode cX8_consent 13 = .ok (.ifCond .eq 14, 3) := by decide +kernel
theorem dX8_consent_16 : decode cX8_consent 16 = .ok (.aload_n 0, 1) := by decide +kernel
theorem dX8_consent_17 : decode cX8_consent 17 = .ok (.getfield 25, 3) := by decide +kernel
theorem dX8_consent_20 : decode cX8_consent 20 = .ok (.iload_n 2, 1) := by decide +kernel
theorem dX8_consent_21 : decode cX8_consent 21 = .ok (.iaload, 1) := by decide +kernel
theorem dX8_consent_22 : decode cX8_consent 22 = .ok (.bipush 6, 2) := by decide +kernel
theorem dX8_consent_24 : decode cX8_consent 24 = .ok (.if_icmp .eq 6, 3) := by decide +kernel
theorem dX8_consent_27 : decode cX8_consent 27 = .ok (.bipush (-2), 2) := by decide +kernel
theorem dX8_consent_29 : decode cX8_consent 29 = .ok (.ireturn, 1) := by decide +kernel
theorem dX8_consent_30 : decode cX8_consent 30 = .ok (.aload_n 0, 1) := by decide +kernel
theorem dX8_consent_31 : decode cX8_consent 31 = .ok (.invokevirtual 118, 3) := by decide +kernel
theorem dX8_consent_34 : decode cX8_consent 34 = .ok (.ifCond .eq 6, 3) := by decide +kernel
theorem dX8_consent_37 : decode cX8_consent 37 = .ok (.bipush (-8), 2) := by decide +kernel
theorem dX8_consent_39 : decode cX8_consent 39 = .ok (.ireturn, 1) := by decide +kernel
theorem dX8_consent_40 : decode cX8_consent 40 = .ok (.aload_n 0, 1) := by decide +kernel
theorem dX8_consent_41 : decode cX8_consent 41 = .ok (.iload_n 1, 1) := by decide +kernel
theorem dX8_consent_42 : decode cX8_consent 42 = .ok (.aload_n 0, 1) := by decide +kernel
theorem dX8_consent_43 : decode cX8_consent 43 = .ok (.getfield 31, 3) := by decide +kernel
theorem dX8_consent_46 : decode cX8_consent 46 = .ok (.iload_n 2, 1) := by decide +kernel
theorem dX8_consent_47 : decode cX8_consent 47 = .ok (.iaload, 1) := by decide +kernel
theorem dX8_consent_48 : decode cX8_consent 48 = .ok (.invokevirtual 129, 3) := by decide +kernel
theorem dX8_consent_51 : decode cX8_consent 51 = .ok (.istore_n 3, 1) := by decide +kernel
theorem dX8_consent_52 : decode cX8_consent 52 = .ok (.iload_n 3, 1) := by decide +kernel
theorem dX8_consent_53 : decode cX8_consent 53 = .ok (.iconst (-1), 1) := by decide +kernel
theorem dX8_consent_54 : decode cX8_consent 54 = .ok (.if_icmp .ne 6, 3) := by decide +kernel
theorem dX8_consent_57 : decode cX8_consent 57 = .ok (.bipush (-6), 2) := by decide +kernel
theorem dX8_consent_59 : decode cX8_consent 59 = .ok (.ireturn, 1) := by decide +kernel
theorem dX8_consent_60 : decode cX8_consent 60 = .ok (.aload_n 0, 1) := by decide +kernel
theorem dX8_consent_61 : decode cX8_consent 61 = .ok (.bipush 7, 2) := by decide +kernel
theorem dX8_consent_63 : decode cX8_consent 63 = .ok (.iload_n 1, 1) := by decide +kernel
theorem dX8_consent_64 : decode cX8_consent 64 = .ok (.iload_n 2, 1) := by decide +kernel
theorem dX8_consent_65 : decode cX8_consent 65 = .ok (.iload_n 3, 1) := by decide +kernel
theorem dX8_consent_66 : decode cX8_consent 66 = .ok (.invokevirtual 139, 3) := by decide +kernel
theorem dX8_consent_69 : decode cX8_consent 69 = .ok (.ifCond .eq 8, 3) := by decide +kernel
theorem dX8_consent_72 : decode cX8_consent 72 = .ok (.bipush (-4), 2) := by decide +kernel
theorem dX8_consent_74 : decode cX8_consent 74 = .ok (.goto 29, 3) := by decide +kernel
theorem dX8_consent_77 : decode cX8_consent 77 = .ok (.aload_n 0, 1) := by decide +kernel
theorem dX8_consent_78 : decode cX8_consent 78 = .ok (.bipush 7, 2) := by decide +kernel
theorem dX8_consent_80 : decode cX8_consent 80 = .ok (.iload_n 1, 1) := by decide +kernel
theorem dX8_consent_81 : decode cX8_consent 81 = .ok (.aload_n 0, 1) := by decide +kernel
theorem dX8_consent_82 : decode cX8_consent 82 = .ok (.getfield 31, 3) := by decide +kernel
theorem dX8_consent_85 : decode cX8_consent 85 = .ok (.iload_n 2, 1) := by decide +kernel
theorem dX8_consent_86 : decode cX8_consent 86 = .ok (.iaload, 1) := by decide +kernel
theorem dX8_consent_87 : decode cX8_consent 87 = .ok (.aload_n 0, 1) := by decide +kernel
theorem dX8_consent_88 : decode cX8_consent 88 = .ok (.getfield 16, 3) := by decide +kernel
theorem dX8_consent_91 : decode cX8_consent 91 = .ok (.aload_n 0, 1) := by decide +kernel
theorem dX8_consent_92 : decode cX8_consent 92 = .ok (.getfield 31, 3) := by decide +kernel
theorem dX8_consent_95 : decode cX8_consent 95 = .ok (.iload_n 2, 1) := by decide +kernel
theorem dX8_consent_96 : decode cX8_consent 96 = .ok (.iaload, 1) := by decide +kernel
theorem dX8_consent_97 : decode cX8_consent 97 = .ok (.iaload, 1) := by decide +kernel
theorem dX8_consent_98 : decode cX8_consent 98 = .ok (.iload_n 2, 1) := by decide +kernel
theorem dX8_consent_99 : decode cX8_consent 99 = .ok (.iload_n 3, 1) := by decide +kernel
theorem dX8_consent_100 : decode cX8_consent 100 = .ok (.invokevirtual 125, 3) := by decide +kernel
theorem dX8_consent_103 : decode cX8_consent 103 = .ok (.ireturn, 1) := by decide +kernel
theorem dX8_follow_0 : decode cX8_follow 0 = .ok (.aload_n 0, 1) := by decide +kernel
theorem dX8_follow_1 : decode cX8_follow 1 = .ok (.iload_n 1, 1) := by decide +kernel
theorem dX8_follow_2 : decode cX8_follow 2 = .ok (.invokevirtual 115, 3) := by decide +kernel
theorem dX8_follow_5 : decode cX8_follow 5 = .ok (.ifCond .eq 19, 3) := by decide +kernel
theorem dX8_follow_8 : decode cX8_follow 8 = .ok (.aload_n 0, 1) := by decide +kernel
theorem dX8_follow_9 : decode cX8_follow 9 = .ok (.iload_n 2, 1) := by decide +kernel
theorem dX8_follow_10 : decode cX8_follow 10 = .ok (.invokevirtual 115, 3) := by decide +kernel
theorem dX8_follow_13 : decode cX8_follow 13 = .ok (.ifCond .eq 11, 3) := by decide +kernel
theorem dX8_follow_16 : decode cX8_follow 16 = .ok (.aload_n 0, 1) := by decide +kernel
theorem dX8_follow_17 : decode cX8_follow 17 = .ok (.iload_n 3, 1) := by decide +kernel
theorem dX8_follow_18 : decode cX8_follow 18 = .ok (.invokevirtual 85, 3) := by decide +kernel
theorem dX8_follow_21 : decode cX8_follow 21 = .ok (.ifCond .ne 6, 3) := by decide +kernel
theorem dX8_follow_24 : decode cX8_follow 24 = .ok (.bipush (-2), 2) := by decide +kernel
theorem dX8_follow_26 : decode cX8_follow 26 = .ok (.ireturn, 1) := by decide +kernel
theorem dX8_follow_27 : decode cX8_follow 27 = .ok (.aload_n 0, 1) := by decide +kernel
theorem dX8_follow_28 : decode cX8_follow 28 = .ok (.invokevirtual 118, 3) := by decide +kernel
theorem dX8_follow_31 : decode cX8_follow 31 = .ok (.ifCond .eq 6, 3) := by decide +kernel
theorem dX8_follow_34 : decode cX8_follow 34 = .ok (.bipush (-8), 2) := by decide +kernel
theorem dX8_follow_36 : decode cX8_follow 36 = .ok (.ireturn, 1) := by decide +kernel
theorem dX8_follow_37 : decode cX8_follow 37 = .ok (.iload_n 1, 1) := by decide +kernel
theorem dX8_follow_38 : decode cX8_follow 38 = .ok (.iload_n 2, 1) := by decide +kernel
theorem dX8_follow_39 : decode cX8_follow 39 = .ok (.if_icmp .eq 13, 3) := by decide +kernel
theorem dX8_follow_42 : decode cX8_follow 42 = .ok (.aload_n 0, 1) := by decide +kernel
theorem dX8_follow_43 : decode cX8_follow 43 = .ok (.iload_n 1, 1) := by decide +kernel
theorem dX8_follow_44 : decode cX8_follow 44 = .ok (.iload_n 3, 1) := by decide +kernel
theorem dX8_follow_45 : decode cX8_follow 45 = .ok (.invokevirtual 129, 3) := by decide +kernel
theorem dX8_follow_48 : decode cX8_follow 48 = .ok (.iconst (-1), 1) := by decide +kernel
theorem dX8_follow_49 : decode cX8_follow 49 = .ok (.if_icmp .eq 6, 3) := by decide +kernel
theorem dX8_follow_52 : decode cX8_follow 52 = .ok (.bipush (-4), 2) := by decide +kernel
theorem dX8_follow_54 : decode cX8_follow 54 = .ok (.ireturn, 1) := by decide +kernel
theorem dX8_follow_55 : decode cX8_follow 55 = .ok (.aload_n 0, 1) := by decide +kernel
theorem dX8_follow_56 : decode cX8_follow 56 = .ok (.iload_n 2, 1) := by decide +kernel
theorem dX8_follow_57 : decode cX8_follow 57 = .ok (.iload_n 3, 1) := by decide +kernel
theorem dX8_follow_58 : decode cX8_follow 58 = .ok (.invokevirtual 129, 3) := by decide +kernel
theorem dX8_follow_61 : decode cX8_follow 61 = .ok (.istore 5, 2) := by decide +kernel
theorem dX8_follow_63 : decode cX8_follow 63 = .ok (.iload 5, 2) := by decide +kernel
theorem dX8_follow_65 : decode cX8_follow 65 = .ok (.iconst (-1), 1) := by decide +kernel
theorem dX8_follow_66 : decode cX8_follow 66 = .ok (.if_icmp .ne 6, 3) := by decide +kernel
theorem dX8_follow_69 : decode cX8_follow 69 = .ok (.bipush (-6), 2) := by decide +kernel
theorem dX8_follow_71 : decode cX8_follow 71 = .ok (.ireturn, 1) := by decide +kernel
theorem dX8_follow_72 : decode cX8_follow 72 = .ok (.aload_n 0, 1) := by decide +kernel
theorem dX8_follow_73 : decode cX8_follow 73 = .ok (.bipush 8, 2) := by decide +kernel
theorem dX8_follow_75 : decode cX8_follow 75 = .ok (.iload_n 1, 1) := by decide +kernel
theorem dX8_follow_76 : decode cX8_follow 76 = .ok (.iload_n 3, 1) := by decide +kernel
theorem dX8_follow_77 : decode cX8_follow 77 = .ok (.aload_n 0, 1) := by decide +kernel
theorem dX8_follow_78 : decode cX8_follow 78 = .ok (.getfield 16, 3) := by decide +kernel
theorem dX8_follow_81 : decode cX8_follow 81 = .ok (.iload_n 3, 1) := by decide +kernel
theorem dX8_follow_82 : decode cX8_follow 82 = .ok (.iaload, 1) := by decide +kernel
theorem dX8_follow_83 : decode cX8_follow 83 = .ok (.iload 5, 2) := by decide +kernel
theorem dX8_follow_85 : decode cX8_follow 85 = .ok (.iconst (-1), 1) := by decide +kernel
theorem dX8_follow_86 : decode cX8_follow 86 = .ok (.invokevirtual 125, 3) := by decide +kernel
theorem dX8_follow_89 : decode cX8_follow 89 = .ok (.istore 6, 2) := by decide +kernel
theorem dX8_follow_91 : decode cX8_follow 91 = .ok (.aload_n 0, 1) := by decide +kernel
theorem dX8_follow_92 : decode cX8_follow 92 = .ok (.getfield 52, 3) := by decide +kernel
theorem dX8_follow_95 : decode cX8_follow 95 = .ok (.iload 6, 2) := by decide +kernel
theorem dX8_follow_97 : decode cX8_follow 97 = .ok (.iload 4, 2) := by decide +kernel
theorem dX8_follow_99 : decode cX8_follow 99 = .ok (.ifCond .eq 7, 3) := by decide +kernel
theorem dX8_follow_102 : decode cX8_follow 102 = .ok (.iconst 1, 1) := by decide +kernel
theorem dX8_follow_103 : decode cX8_follow 103 = .ok (.goto 4, 3) := by decide +kernel
theorem dX8_follow_106 : decode cX8_follow 106 = .ok (.iconst 0, 1) := by decide +kernel
theorem dX8_follow_107 : decode cX8_follow 107 = .ok (.iastore, 1) := by decide +kernel
theorem dX8_follow_108 : decode cX8_follow 108 = .ok (.iload 6, 2) := by decide +kernel
theorem dX8_follow_110 : decode cX8_follow 110 = .ok (.ireturn, 1) := by decide +kernel
theorem dX8_note_0 : decode cX8_note 0 = .ok (.aload_n 0, 1) := by decide +kernel
theorem dX8_note_1 : decode cX8_note 1 = .ok (.invokevirtual 118, 3) := by decide +kernel
theorem dX8_note_4 : decode cX8_note 4 = .ok (.ifCond .eq 6, 3) := by decide +kernel
theorem dX8_note_7 : decode cX8_note 7 = .ok (.bipush (-8), 2) := by decide +kernel
theorem dX8_note_9 : decode cX8_note 9 = .ok (.ireturn, 1) := by decide +kernel
theorem dX8_note_10 : decode cX8_note 10 = .ok (.aload_n 0, 1) := by decide +kernel
theorem dX8_note_11 : decode cX8_note 11 = .ok (.bipush 9, 2) := by decide +kernel
theorem dX8_note_13 : decode cX8_note 13 = .ok (.iconst (-1), 1) := by decide +kernel
theorem dX8_note_14 : decode cX8_note 14 = .ok (.iconst (-1), 1) := by decide +kernel
theorem dX8_note_15 : decode cX8_note 15 = .ok (.iconst 0, 1) := by decide +kernel
theorem dX8_note_16 : decode cX8_note 16 = .ok (.iconst (-1), 1) := by decide +kernel
theorem dX8_note_17 : decode cX8_note 17 = .ok (.iconst (-1), 1) := by decide +kernel
theorem dX8_note_18 : decode cX8_note 18 = .ok (.invokevirtual 125, 3) := by decide +kernel
theorem dX8_note_21 : decode cX8_note 21 = .ok (.istore_n 3, 1) := by decide +kernel
theorem dX8_note_22 : decode cX8_note 22 = .ok (.aload_n 0, 1) := by decide +kernel
theorem dX8_note_23 : decode cX8_note 23 = .ok (.getfield 55, 3) := by decide +kernel
theorem dX8_note_26 : decode cX8_note 26 = .ok (.iload_n 3, 1) := by decide +kernel
theorem dX8_note_27 : decode cX8_note 27 = .ok (.lload_n 1, 1) := by decide +kernel
theorem dX8_note_28 : decode cX8_note 28 = .ok (.lastore, 1) := by decide +kernel
theorem dX8_note_29 : decode cX8_note 29 = .ok (.iload_n 3, 1) := by decide +kernel
theorem dX8_note_30 : decode cX8_note 30 = .ok (.ireturn, 1) := by decide +kernel
theorem dX8_undo_0 : decode cX8_undo 0 = .ok (.aload_n 0, 1) := by decide +kernel
theorem dX8_undo_1 : decode cX8_undo 1 = .ok (.getfield 89, 3) := by decide +kernel
theorem dX8_undo_4 : decode cX8_undo 4 = .ok (.ifCond .eq 21, 3) := by decide +kernel
theorem dX8_undo_7 : decode cX8_undo 7 = .ok (.aload_n 0, 1) := by decide +kernel
theorem dX8_undo_8 : decode cX8_undo 8 = .ok (.getfield 34, 3) := by decide +kernel
theorem dX8_undo_11 : decode cX8_undo 11 = .ok (.aload_n 0, 1) := by decide +kernel
theorem dX8_undo_12 : decode cX8_undo 12 = .ok (.getfield 89, 3) := by decide +kernel
theorem dX8_undo_15 : decode cX8_undo 15 = .ok (.iconst 1, 1) := by decide +kernel
theorem dX8_undo_16 : decode cX8_undo 16 = .ok (.isub, 1) := by decide +kernel
theorem dX8_undo_17 : decode cX8_undo 17 = .ok (.iaload, 1) := by decide +kernel
theorem dX8_undo_18 : decode cX8_undo 18 = .ok (.aload_n 0, 1) := by decide +kernel
theorem dX8_undo_19 : decode cX8_undo 19 = .ok (.getfield 98, 3) := by decide +kernel
theorem dX8_undo_22 : decode cX8_undo 22 = .ok (.if_icmp .eq 5, 3) := by decide +kernel
theorem dX8_undo_25 : decode cX8_undo 25 = .ok (.iconst (-1), 1) := by decide +kernel
theorem dX8_undo_26 : decode cX8_undo 26 = .ok (.ireturn, 1) := by decide +kernel
theorem dX8_undo_27 : decode cX8_undo 27 = .ok (.aload_n 0, 1) := by decide +kernel
theorem dX8_undo_28 : decode cX8_undo 28 = .ok (.dup, 1) := by decide +kernel
theorem dX8_undo_29 : decode cX8_undo 29 = .ok (.getfield 89, 3) := by decide +kernel
theorem dX8_undo_32 : decode cX8_undo 32 = .ok (.iconst 1, 1) := by decide +kernel
theorem dX8_undo_33 : decode cX8_undo 33 = .ok (.isub, 1) := by decide +kernel
theorem dX8_undo_34 : decode cX8_undo 34 = .ok (.putfield 89, 3) := by decide +kernel
theorem dX8_undo_37 : decode cX8_undo 37 = .ok (.aload_n 0, 1) := by decide +kernel
theorem dX8_undo_38 : decode cX8_undo 38 = .ok (.getfield 89, 3) := by decide +kernel
theorem dX8_undo_41 : decode cX8_undo 41 = .ok (.ireturn, 1) := by decide +kernel
theorem dX8_strong_0 : decode cX8_strong 0 = .ok (.iconst 0, 1) := by decide +kernel
theorem dX8_strong_1 : decode cX8_strong 1 = .ok (.istore 5, 2) := by decide +kernel
theorem dX8_strong_3 : decode cX8_strong 3 = .ok (.iload 5, 2) := by decide +kernel
theorem dX8_strong_5 : decode cX8_strong 5 = .ok (.aload_n 0, 1) := by decide +kernel
theorem dX8_strong_6 : decode cX8_strong 6 = .ok (.getfield 89, 3) := by decide +kernel
theorem dX8_strong_9 : decode cX8_strong 9 = .ok (.if_icmp .ge 64, 3) := by decide +kernel
theorem dX8_strong_12 : decode cX8_strong 12 = .ok (.aload_n 0, 1) := by decide +kernel
theorem dX8_strong_13 : decode cX8_strong 13 = .ok (.getfield 25, 3) := by decide +kernel
theorem dX8_strong_16 : decode cX8_strong 16 = .ok (.iload 5, 2) := by decide +kernel
theorem dX8_strong_18 : decode cX8_strong 18 = .ok (.iaload, 1) := by decide +kernel
theorem dX8_strong_19 : decode cX8_strong 19 = .ok (.iconst 4, 1) := by decide +kernel
theorem dX8_strong_20 : decode cX8_strong 20 = .ok (.if_icmp .ne 47, 3) := by decide +kernel
theorem dX8_strong_23 : decode cX8_strong 23 = .ok (.aload_n 0, 1) := by decide +kernel
theorem dX8_strong_24 : decode cX8_strong 24 = .ok (.getfield 52, 3) := by decide +kernel
theorem dX8_strong_27 : decode cX8_strong 27 = .ok (.iload 5, 2) := by decide +kernel
theorem dX8_strong_29 : decode cX8_strong 29 = .ok (.iaload, 1) := by decide +kernel
theorem dX8_strong_30 : decode cX8_strong 30 = .ok (.ifCond .ne 37, 3) := by decide +kernel
theorem dX8_strong_33 : decode cX8_strong 33 = .ok (.aload_n 0, 1) := by decide +kernel
theorem dX8_strong_34 : decode cX8_strong 34 = .ok (.iload_n 2, 1) := by decide +kernel
theorem dX8_strong_35 : decode cX8_strong 35 = .ok (.iload 5, 2) := by decide +kernel
theorem dX8_strong_37 : decode cX8_strong 37 = .ok (.iload_n 3, 1) := by decide +kernel
theorem dX8_strong_38 : decode cX8_strong 38 = .ok (.iload 4, 2) := by decide +kernel
theorem dX8_strong_40 : decode cX8_strong 40 = .ok (.invokevirtual 143, 3) := by decide +kernel
theorem dX8_strong_43 : decode cX8_strong 43 = .ok (.ifCond .eq 24, 3) := by decide +kernel
theorem dX8_strong_46 : decode cX8_strong 46 = .ok (.aload_n 0, 1) := by decide +kernel
theorem dX8_strong_47 : decode cX8_strong 47 = .ok (.iload_n 1, 1) := by decide +kernel
theorem dX8_strong_48 : decode cX8_strong 48 = .ok (.aload_n 0, 1) := by decide +kernel
theorem dX8_strong_49 : decode cX8_strong 49 = .ok (.getfield 40, 3) := by decide +kernel
theorem dX8_strong_52 : decode cX8_strong 52 = .ok (.iload 5, 2) := by decide +kernel
theorem dX8_strong_54 : decode cX8_strong 54 = .ok (.iaload, 1) := by decide +kernel
theorem dX8_strong_55 : decode cX8_strong 55 = .ok (.iload_n 3, 1) := by decide +kernel
theorem dX8_strong_56 : decode cX8_strong 56 = .ok (.iload 4, 2) := by decide +kernel
theorem dX8_strong_58 : decode cX8_strong 58 = .ok (.invokevirtual 143, 3) := by decide +kernel
theorem dX8_strong_61 : decode cX8_strong 61 = .ok (.ifCond .eq 6, 3) := by decide +kernel
theorem dX8_strong_64 : decode cX8_strong 64 = .ok (.iload 5, 2) := by decide +kernel
theorem dX8_strong_66 : decode cX8_strong 66 = .ok (.ireturn, 1) := by decide +kernel
theorem dX8_strong_67 : decode cX8_strong 67 = .ok (.iinc 5 1, 3) := by decide +kernel
theorem dX8_strong_70 : decode cX8_strong 70 = .ok (.goto (-67), 3) := by decide +kernel
theorem dX8_strong_73 : decode cX8_strong 73 = .ok (.iconst (-1), 1) := by decide +kernel
theorem dX8_strong_74 : decode cX8_strong 74 = .ok (.ireturn, 1) := by decide +kernel
theorem dX8_leastTo_0 : decode cX8_leastTo 0 = .ok (.iconst 0, 1) := by decide +kernel
theorem dX8_leastTo_1 : decode cX8_leastTo 1 = .ok (.istore 6, 2) := by decide +kernel
theorem dX8_leastTo_3 : decode cX8_leastTo 3 = .ok (.iload 6, 2) := by decide +kernel
theorem dX8_leastTo_5 : decode cX8_leastTo 5 = .ok (.aload_n 0, 1) := by decide +kernel
theorem dX8_leastTo_6 : decode cX8_leastTo 6 = .ok (.getfield 89, 3) := by decide +kernel
theorem dX8_leastTo_9 : decode cX8_leastTo 9 = .ok (.if_icmp .ge 64, 3) := by decide +kernel
theorem dX8_leastTo_12 : decode cX8_leastTo 12 = .ok (.aload_n 0, 1) := by decide +kernel
theorem dX8_leastTo_13 : decode cX8_leastTo 13 = .ok (.getfield 25, 3) := by decide +kernel
theorem dX8_leastTo_16 : decode cX8_leastTo 16 = .ok (.iload 6, 2) := by decide +kernel
theorem dX8_leastTo_18 : decode cX8_leastTo 18 = .ok (.iaload, 1) := by decide +kernel
theorem dX8_leastTo_19 : decode cX8_leastTo 19 = .ok (.iload_n 1, 1) := by decide +kernel
theorem dX8_leastTo_20 : decode cX8_leastTo 20 = .ok (.if_icmp .ne 47, 3) := by decide +kernel
theorem dX8_leastTo_23 : decode cX8_leastTo 23 = .ok (.aload_n 0, 1) := by decide +kernel
theorem dX8_leastTo_24 : decode cX8_leastTo 24 = .ok (.getfield 40, 3) := by decide +kernel
theorem dX8_leastTo_27 : decode cX8_leastTo 27 = .ok (.iload 6, 2) := by decide +kernel
theorem dX8_leastTo_29 : decode cX8_leastTo 29 = .ok (.iaload, 1) := by decide +kernel
theorem dX8_leastTo_30 : decode cX8_leastTo 30 = .ok (.iload_n 2, 1) := by decide +kernel
theorem dX8_leastTo_31 : decode cX8_leastTo 31 = .ok (.if_icmp .ne 36, 3) := by decide +kernel
theorem dX8_leastTo_34 : decode cX8_leastTo 34 = .ok (.iload_n 1, 1) := by decide +kernel
theorem dX8_leastTo_35 : decode cX8_leastTo 35 = .ok (.iconst 4, 1) := by decide +kernel
theorem dX8_leastTo_36 : decode cX8_leastTo 36 = .ok (.if_icmp .ne 14, 3) := by decide +kernel
theorem dX8_leastTo_39 : decode cX8_leastTo 39 = .ok (.aload_n 0, 1) := by decide +kernel
theorem dX8_leastTo_40 : decode cX8_leastTo 40 = .ok (.getfield 52, 3) := by decide +kernel
theorem dX8_leastTo_43 : decode cX8_leastTo 43 = .ok (.iload 6, 2) := by decide +kernel
theorem dX8_leastTo_45 : decode cX8_leastTo 45 = .ok (.iaload, 1) := by decide +kernel
theorem dX8_leastTo_46 : decode cX8_leastTo 46 = .ok (.iconst 1, 1) := by decide +kernel
theorem dX8_leastTo_47 : decode cX8_leastTo 47 = .ok (.if_icmp .ne 20, 3) := by decide +kernel
theorem dX8_leastTo_50 : decode cX8_leastTo 50 = .ok (.aload_n 0, 1) := by decide +kernel
theorem dX8_leastTo_51 : decode cX8_leastTo 51 = .ok (.iload_n 3, 1) := by decide +kernel
theorem dX8_leastTo_52 : decode cX8_leastTo 52 = .ok (.iload 6, 2) := by decide +kernel
theorem dX8_leastTo_54 : decode cX8_leastTo 54 = .ok (.iload 4, 2) := by decide +kernel
theorem dX8_leastTo_56 : decode cX8_leastTo 56 = .ok (.iload 5, 2) := by decide +kernel
theorem dX8_leastTo_58 : decode cX8_leastTo 58 = .ok (.invokevirtual 143, 3) := by decide +kernel
theorem dX8_leastTo_61 : decode cX8_leastTo 61 = .ok (.ifCond .eq 6, 3) := by decide +kernel
theorem dX8_leastTo_64 : decode cX8_leastTo 64 = .ok (.iload 6, 2) := by decide +kernel
theorem dX8_leastTo_66 : decode cX8_leastTo 66 = .ok (.ireturn, 1) := by decide +kernel
theorem dX8_leastTo_67 : decode cX8_leastTo 67 = .ok (.iinc 6 1, 3) := by decide +kernel
theorem dX8_leastTo_70 : decode cX8_leastTo 70 = .ok (.goto (-67), 3) := by decide +kernel
theorem dX8_leastTo_73 : decode cX8_leastTo 73 = .ok (.iconst (-1), 1) := by decide +kernel
theorem dX8_leastTo_74 : decode cX8_leastTo 74 = .ok (.ireturn, 1) := by decide +kernel
theorem dX8_because_0 : decode cX8_because 0 = .ok (.iload_n 1, 1) := by decide +kernel
theorem dX8_because_1 : decode cX8_because 1 = .ok (.iconst (-1), 1) := by decide +kernel
theorem dX8_because_2 : decode cX8_because 2 = .ok (.if_icmp .eq 10, 3) := by decide +kernel
theorem dX8_because_5 : decode cX8_because 5 = .ok (.aload_n 0, 1) := by decide +kernel
theorem dX8_because_6 : decode cX8_because 6 = .ok (.getfield 59, 3) := by decide +kernel
theorem dX8_because_9 : decode cX8_because 9 = .ok (.iload_n 1, 1) := by decide +kernel
theorem dX8_because_10 : decode cX8_because 10 = .ok (.iconst 1, 1) := by decide +kernel
theorem dX8_because_11 : decode cX8_because 11 = .ok (.bastore, 1) := by decide +kernel
theorem dX8_because_12 : decode cX8_because 12 = .ok (.return_, 1) := by decide +kernel
theorem dX8_leans_0 : decode cX8_leans 0 = .ok (.aload_n 0, 1) := by decide +kernel
theorem dX8_leans_1 : decode cX8_leans 1 = .ok (.getfield 89, 3) := by decide +kernel
theorem dX8_leans_4 : decode cX8_leans 4 = .ok (.iconst 1, 1) := by decide +kernel
theorem dX8_leans_5 : decode cX8_leans 5 = .ok (.isub, 1) := by decide +kernel
theorem dX8_leans_6 : decode cX8_leans 6 = .ok (.istore_n 1, 1) := by decide +kernel
theorem dX8_leans_7 : decode cX8_leans 7 = .ok (.iload_n 1, 1) := by decide +kernel
theorem dX8_leans_8 : decode cX8_leans 8 = .ok (.ifCond .lt 49, 3) := by decide +kernel
theorem dX8_leans_11 : decode cX8_leans 11 = .ok (.aload_n 0, 1) := by decide +kernel
theorem dX8_leans_12 : decode cX8_leans 12 = .ok (.getfield 59, 3) := by decide +kernel
theorem dX8_leans_15 : decode cX8_leans 15 = .ok (.iload_n 1, 1) := by decide +kernel
theorem dX8_leans_16 : decode cX8_leans 16 = .ok (.baload, 1) := by decide +kernel
theorem dX8_leans_17 : decode cX8_leans 17 = .ok (.ifCond .eq 34, 3) := by decide +kernel
theorem dX8_leans_20 : decode cX8_leans 20 = .ok (.aload_n 0, 1) := by decide +kernel
theorem dX8_leans_21 : decode cX8_leans 21 = .ok (.aload_n 0, 1) := by decide +kernel
theorem dX8_leans_22 : decode cX8_leans 22 = .ok (.getfield 43, 3) := by decide +kernel
theorem dX8_leans_25 : decode cX8_leans 25 = .ok (.iload_n 1, 1) := by decide +kernel
theorem dX8_leans_26 : decode cX8_leans 26 = .ok (.iaload, 1) := by decide +kernel
theorem dX8_leans_27 : decode cX8_leans 27 = .ok (.invokevirtual 146, 3) := by decide +kernel
theorem dX8_leans_30 : decode cX8_leans 30 = .ok (.aload_n 0, 1) := by decide +kernel
theorem dX8_leans_31 : decode cX8_leans 31 = .ok (.getfield 25, 3) := by decide +kernel
theorem dX8_leans_34 : decode cX8_leans 34 = .ok (.iload_n 1, 1) := by decide +kernel
theorem dX8_leans_35 : decode cX8_leans 35 = .ok (.iaload, 1) := by decide +kernel
theorem dX8_leans_36 : decode cX8_leans 36 = .ok (.bipush 8, 2) := by decide +kernel
theorem dX8_leans_38 : decode cX8_leans 38 = .ok (.if_icmp .ne 13, 3) := by decide +kernel
theorem dX8_leans_41 : decode cX8_leans 41 = .ok (.aload_n 0, 1) := by decide +kernel
theorem dX8_leans_42 : decode cX8_leans 42 = .ok (.aload_n 0, 1) := by decide +kernel
theorem dX8_leans_43 : decode cX8_leans 43 = .ok (.getfield 40, 3) := by decide +kernel
theorem dX8_leans_46 : decode cX8_leans 46 = .ok (.iload_n 1, 1) := by decide +kernel
theorem dX8_leans_47 : decode cX8_leans 47 = .ok (.iaload, 1) := by decide +kernel
theorem dX8_leans_48 : decode cX8_leans 48 = .ok (.invokevirtual 146, 3) := by decide +kernel
theorem dX8_leans_51 : decode cX8_leans 51 = .ok (.iinc 1 (-1), 3) := by decide +kernel
theorem dX8_leans_54 : decode cX8_leans 54 = .ok (.goto (-47), 3) := by decide +kernel
theorem dX8_leans_57 : decode cX8_leans 57 = .ok (.return_, 1) := by decide +kernel
theorem dX8_finds_0 : decode cX8_finds 0 = .ok (.aload_n 0, 1) := by decide +kernel
theorem dX8_finds_1 : decode cX8_finds 1 = .ok (.iconst 0, 1) := by decide +kernel
theorem dX8_finds_2 : decode cX8_finds 2 = .ok (.putfield 150, 3) := by decide +kernel
theorem dX8_finds_5 : decode cX8_finds 5 = .ok (.aload_n 0, 1) := by decide +kernel
theorem dX8_finds_6 : decode cX8_finds 6 = .ok (.iconst 0, 1) := by decide +kernel
theorem dX8_finds_7 : decode cX8_finds 7 = .ok (.putfield 153, 3) := by decide +kernel
theorem dX8_finds_10 : decode cX8_finds 10 = .ok (.iconst 0, 1) := by decide +kernel
theorem dX8_finds_11 : decode cX8_finds 11 = .ok (.istore 7, 2) := by decide +kernel
theorem dX8_finds_13 : decode cX8_finds 13 = .ok (.iload 7, 2) := by decide +kernel
theorem dX8_finds_15 : decode cX8_finds 15 = .ok (.aload_n 0, 1) := by decide +kernel
theorem dX8_finds_16 : decode cX8_finds 16 = .ok (.getfield 89, 3) := by decide +kernel
theorem dX8_finds_19 : decode cX8_finds 19 = .ok (.if_icmp .ge 17, 3) := by decide +kernel
theorem dX8_finds_22 : decode cX8_finds 22 = .ok (.aload_n 0, 1) := by decide +kernel
theorem dX8_finds_23 : decode cX8_finds 23 = .ok (.getfield 59, 3) := by decide +kernel
theorem dX8_finds_26 : decode cX8_finds 26 = .ok (.iload 7, 2) := by decide +kernel
theorem dX8_finds_28 : decode cX8_finds 28 = .ok (.iconst 0, 1) := by decide +kernel
theorem dX8_finds_29 : decode cX8_finds 29 = .ok (.bastore, 1) := by decide +kernel
theorem dX8_finds_30 : decode cX8_finds 30 = .ok (.iinc 7 1, 3) := by decide +kernel
theorem dX8_finds_33 : decode cX8_finds 33 = .ok (.goto (-20), 3) := by decide +kernel
theorem dX8_finds_36 : decode cX8_finds 36 = .ok (.aload_n 0, 1) := by decide +kernel
theorem dX8_finds_37 : decode cX8_finds 37 = .ok (.iload_n 1, 1) := by decide +kernel
theorem dX8_finds_38 : decode cX8_finds 38 = .ok (.iload_n 3, 1) := by decide +kernel
theorem dX8_finds_39 : decode cX8_finds 39 = .ok (.iload 5, 2) := by decide +kernel
theorem dX8_finds_41 : decode cX8_finds 41 = .ok (.iload 6, 2) := by decide +kernel
theorem dX8_finds_43 : decode cX8_finds 43 = .ok (.invokevirtual 108, 3) := by decide +kernel
theorem dX8_finds_46 : decode cX8_finds 46 = .ok (.istore 7, 2) := by decide +kernel
theorem dX8_finds_48 : decode cX8_finds 48 = .ok (.aload_n 0, 1) := by decide +kernel
theorem dX8_finds_49 : decode cX8_finds 49 = .ok (.iload_n 2, 1) := by decide +kernel
theorem dX8_finds_50 : decode cX8_finds 50 = .ok (.iload_n 3, 1) := by decide +kernel
theorem dX8_finds_51 : decode cX8_finds 51 = .ok (.iload 5, 2) := by decide +kernel
theorem dX8_finds_53 : decode cX8_finds 53 = .ok (.iload 6, 2) := by decide +kernel
theorem dX8_finds_55 : decode cX8_finds 55 = .ok (.invokevirtual 108, 3) := by decide +kernel
theorem dX8_finds_58 : decode cX8_finds 58 = .ok (.istore 8, 2) := by decide +kernel
theorem dX8_finds_60 : decode cX8_finds 60 = .ok (.iload 7, 2) := by decide +kernel
theorem dX8_finds_62 : decode cX8_finds 62 = .ok (.iconst (-1), 1) := by decide +kernel
theorem dX8_finds_63 : decode cX8_finds 63 = .ok (.if_icmp .eq 27, 3) := by decide +kernel
theorem dX8_finds_66 : decode cX8_finds 66 = .ok (.iload 8, 2) := by decide +kernel
theorem dX8_finds_68 : decode cX8_finds 68 = .ok (.iconst (-1), 1) := by decide +kernel
theorem dX8_finds_69 : decode cX8_finds 69 = .ok (.if_icmp .eq 21, 3) := by decide +kernel
theorem dX8_finds_72 : decode cX8_finds 72 = .ok (.aload_n 0, 1) := by decide +kernel
theorem dX8_finds_73 : decode cX8_finds 73 = .ok (.iload_n 3, 1) := by decide +kernel
theorem dX8_finds_74 : decode cX8_finds 74 = .ok (.iload 5, 2) := by decide +kernel
theorem dX8_finds_76 : decode cX8_finds 76 = .ok (.iload 6, 2) := by decide +kernel
theorem dX8_finds_78 : decode cX8_finds 78 = .ok (.invokevirtual 156, 3) := by decide +kernel
theorem dX8_finds_81 : decode cX8_finds 81 = .ok (.aload_n 0, 1) := by decide +kernel
theorem dX8_finds_82 : decode cX8_finds 82 = .ok (.getfield 13, 3) := by decide +kernel
theorem dX8_finds_85 : decode cX8_finds 85 = .ok (.iload_n 3, 1) := by decide +kernel
theorem dX8_finds_86 : decode cX8_finds 86 = .ok (.iaload, 1) := by decide +kernel
theorem dX8_finds_87 : decode cX8_finds 87 = .ok (.if_icmp .ge 4, 3) := by decide +kernel
theorem dX8_finds_90 : decode cX8_finds 90 = .ok (.return_, 1) := by decide +kernel
theorem dX8_finds_91 : decode cX8_finds 91 = .ok (.aload_n 0, 1) := by decide +kernel
theorem dX8_finds_92 : decode cX8_finds 92 = .ok (.iload 7, 2) := by decide +kernel
theorem dX8_finds_94 : decode cX8_finds 94 = .ok (.invokevirtual 146, 3) := by decide +kernel
theorem dX8_finds_97 : decode cX8_finds 97 = .ok (.aload_n 0, 1) := by decide +kernel
theorem dX8_finds_98 : decode cX8_finds 98 = .ok (.iload 8, 2) := by decide +kernel
theorem dX8_finds_100 : decode cX8_finds 100 = .ok (.invokevirtual 146, 3) := by decide +kernel
theorem dX8_finds_103 : decode cX8_finds 103 = .ok (.aload_n 0, 1) := by decide +kernel
theorem dX8_finds_104 : decode cX8_finds 104 = .ok (.iload 7, 2) := by decide +kernel
theorem dX8_finds_106 : decode cX8_finds 106 = .ok (.iload 8, 2) := by decide +kernel
theorem dX8_finds_108 : decode cX8_finds 108 = .ok (.iload 5, 2) := by decide +kernel
theorem dX8_finds_110 : decode cX8_finds 110 = .ok (.iload 6, 2) := by decide +kernel
theorem dX8_finds_112 : decode cX8_finds 112 = .ok (.invokevirtual 160, 3) := by decide +kernel
theorem dX8_finds_115 : decode cX8_finds 115 = .ok (.istore 9, 2) := by decide +kernel
theorem dX8_finds_117 : decode cX8_finds 117 = .ok (.aload_n 0, 1) := by decide +kernel
theorem dX8_finds_118 : decode cX8_finds 118 = .ok (.iload 8, 2) := by decide +kernel
theorem dX8_finds_120 : decode cX8_finds 120 = .ok (.iload 7, 2) := by decide +kernel
theorem dX8_finds_122 : decode cX8_finds 122 = .ok (.iload 5, 2) := by decide +kernel
theorem dX8_finds_124 : decode cX8_finds 124 = .ok (.iload 6, 2) := by decide +kernel
theorem dX8_finds_126 : decode cX8_finds 126 = .ok (.invokevirtual 160, 3) := by decide +kernel
theorem dX8_finds_129 : decode cX8_finds 129 = .ok (.istore 10, 2) := by decide +kernel
theorem dX8_finds_131 : decode cX8_finds 131 = .ok (.iload 9, 2) := by decide +kernel
theorem dX8_finds_133 : decode cX8_finds 133 = .ok (.iconst (-1), 1) := by decide +kernel
theorem dX8_finds_134 : decode cX8_finds 134 = .ok (.if_icmp .ne 8, 3) := by decide +kernel
theorem dX8_finds_137 : decode cX8_finds 137 = .ok (.iload 10, 2) := by decide +kernel
theorem dX8_finds_139 : decode cX8_finds 139 = .ok (.goto 21, 3) := by decide +kernel
theorem dX8_finds_142 : decode cX8_finds 142 = .ok (.iload 10, 2) := by decide +kernel
theorem dX8_finds_144 : decode cX8_finds 144 = .ok (.iconst (-1), 1) := by decide +kernel
theorem dX8_finds_145 : decode cX8_finds 145 = .ok (.if_icmp .ne 8, 3) := by decide +kernel
theorem dX8_finds_148 : decode cX8_finds 148 = .ok (.iload 9, 2) := by decide +kernel
theorem dX8_finds_150 : decode cX8_finds 150 = .ok (.goto 10, 3) := by decide +kernel
theorem dX8_finds_153 : decode cX8_finds 153 = .ok (.iload 9, 2) := by decide +kernel
theorem dX8_finds_155 : decode cX8_finds 155 = .ok (.iload 10, 2) := by decide +kernel
theorem dX8_finds_157 : decode cX8_finds 157 = .ok (.invokestatic 163, 3) := by decide +kernel
theorem dX8_finds_160 : decode cX8_finds 160 = .ok (.istore 11, 2) := by decide +kernel
theorem dX8_finds_162 : decode cX8_finds 162 = .ok (.iload 11, 2) := by decide +kernel
theorem dX8_finds_164 : decode cX8_finds 164 = .ok (.iconst (-1), 1) := by decide +kernel
theorem dX8_finds_165 : decode cX8_finds 165 = .ok (.if_icmp .eq 25, 3) := by decide +kernel
theorem dX8_finds_168 : decode cX8_finds 168 = .ok (.aload_n 0, 1) := by decide +kernel
theorem dX8_finds_169 : decode cX8_finds 169 = .ok (.iload 11, 2) := by decide +kernel
theorem dX8_finds_171 : decode cX8_finds 171 = .ok (.invokevirtual 146, 3) := by decide +kernel
theorem dX8_finds_174 : decode cX8_finds 174 = .ok (.aload_n 0, 1) := by decide +kernel
theorem dX8_finds_175 : decode cX8_finds 175 = .ok (.aload_n 0, 1) := by decide +kernel
theorem dX8_finds_176 : decode cX8_finds 176 = .ok (.getfield 40, 3) := by decide +kernel
theorem dX8_finds_179 : decode cX8_finds 179 = .ok (.iload 11, 2) := by decide +kernel
theorem dX8_finds_181 : decode cX8_finds 181 = .ok (.iaload, 1) := by decide +kernel
theorem dX8_finds_182 : decode cX8_finds 182 = .ok (.invokevirtual 146, 3) := by decide +kernel
theorem dX8_finds_185 : decode cX8_finds 185 = .ok (.aload_n 0, 1) := by decide +kernel
theorem dX8_finds_186 : decode cX8_finds 186 = .ok (.invokevirtual 168, 3) := by decide +kernel
theorem dX8_finds_189 : decode cX8_finds 189 = .ok (.return_, 1) := by decide +kernel
theorem dX8_finds_190 : decode cX8_finds 190 = .ok (.aload_n 0, 1) := by decide +kernel
theorem dX8_finds_191 : decode cX8_finds 191 = .ok (.getfield 13, 3) := by decide +kernel
theorem dX8_finds_194 : decode cX8_finds 194 = .ok (.iload_n 3, 1) := by decide +kernel
theorem dX8_finds_195 : decode cX8_finds 195 = .ok (.iaload, 1) := by decide +kernel
theorem dX8_finds_196 : decode cX8_finds 196 = .ok (.istore 12, 2) := by decide +kernel
theorem dX8_finds_198 : decode cX8_finds 198 = .ok (.iconst 0, 1) := by decide +kernel
theorem dX8_finds_199 : decode cX8_finds 199 = .ok (.istore 13, 2) := by decide +kernel
theorem dX8_finds_201 : decode cX8_finds 201 = .ok (.iload 13, 2) := by decide +kernel
theorem dX8_finds_203 : decode cX8_finds 203 = .ok (.aload_n 0, 1) := by decide +kernel
theorem dX8_finds_204 : decode cX8_finds 204 = .ok (.getfield 78, 3) := by decide +kernel
theorem dX8_finds_207 : decode cX8_finds 207 = .ok (.if_icmp .ge 42, 3) := by decide +kernel
theorem dX8_finds_210 : decode cX8_finds 210 = .ok (.iload 12, 2) := by decide +kernel
theorem dX8_finds_212 : decode cX8_finds 212 = .ok (.ifCond .le 37, 3) := by decide +kernel
theorem dX8_finds_215 : decode cX8_finds 215 = .ok (.aload_n 0, 1) := by decide +kernel
theorem dX8_finds_216 : decode cX8_finds 216 = .ok (.iload 13, 2) := by decide +kernel
theorem dX8_finds_218 : decode cX8_finds 218 = .ok (.iload_n 3, 1) := by decide +kernel
theorem dX8_finds_219 : decode cX8_finds 219 = .ok (.iload 5, 2) := by decide +kernel
theorem dX8_finds_221 : decode cX8_finds 221 = .ok (.iload 6, 2) := by decide +kernel
theorem dX8_finds_223 : decode cX8_finds 223 = .ok (.invokevirtual 108, 3) := by decide +kernel
theorem dX8_finds_226 : decode cX8_finds 226 = .ok (.istore 14, 2) := by decide +kernel
theorem dX8_finds_228 : decode cX8_finds 228 = .ok (.iload 14, 2) := by decide +kernel
theorem dX8_finds_230 : decode cX8_finds 230 = .ok (.iconst (-1), 1) := by decide +kernel
theorem dX8_finds_231 : decode cX8_finds 231 = .ok (.if_icmp .eq 12, 3) := by decide +kernel
theorem dX8_finds_234 : decode cX8_finds 234 = .ok (.aload_n 0, 1) := by decide +kernel
theorem dX8_finds_235 : decode cX8_finds 235 = .ok (.iload 14, 2) := by decide +kernel
theorem dX8_finds_237 : decode cX8_finds 237 = .ok (.invokevirtual 146, 3) := by decide +kernel
theorem dX8_finds_240 : decode cX8_finds 240 = .ok (.iinc 12 (-1), 3) := by decide +kernel
theorem dX8_finds_243 : decode cX8_finds 243 = .ok (.iinc 13 1, 3) := by decide +kernel
theorem dX8_finds_246 : decode cX8_finds 246 = .ok (.goto (-45), 3) := by decide +kernel
theorem dX8_finds_249 : decode cX8_finds 249 = .ok (.iconst (-1), 1) := by decide +kernel
theorem dX8_finds_250 : decode cX8_finds 250 = .ok (.istore 13, 2) := by decide +kernel
theorem dX8_finds_252 : decode cX8_finds 252 = .ok (.iconst 0, 1) := by decide +kernel
theorem dX8_finds_253 : decode cX8_finds 253 = .ok (.istore 14, 2) := by decide +kernel
theorem dX8_finds_255 : decode cX8_finds 255 = .ok (.iload 14, 2) := by decide +kernel
theorem dX8_finds_257 : decode cX8_finds 257 = .ok (.aload_n 0, 1) := by decide +kernel
theorem dX8_finds_258 : decode cX8_finds 258 = .ok (.getfield 89, 3) := by decide +kernel
theorem dX8_finds_261 : decode cX8_finds 261 = .ok (.if_icmp .ge 66, 3) := by decide +kernel
theorem dX8_finds_264 : decode cX8_finds 264 = .ok (.aload_n 0, 1) := by decide +kernel
theorem dX8_finds_265 : decode cX8_finds 265 = .ok (.getfield 25, 3) := by decide +kernel
theorem dX8_finds_268 : decode cX8_finds 268 = .ok (.iload 14, 2) := by decide +kernel
theorem dX8_finds_270 : decode cX8_finds 270 = .ok (.iaload, 1) := by decide +kernel
theorem dX8_finds_271 : decode cX8_finds 271 = .ok (.iconst 3, 1) := by decide +kernel
theorem dX8_finds_272 : decode cX8_finds 272 = .ok (.if_icmp .ne 49, 3) := by decide +kernel
theorem dX8_finds_275 : decode cX8_finds 275 = .ok (.aload_n 0, 1) := by decide +kernel
theorem dX8_finds_276 : decode cX8_finds 276 = .ok (.getfield 46, 3) := by decide +kernel
theorem dX8_finds_279 : decode cX8_finds 279 = .ok (.iload 14, 2) := by decide +kernel
theorem dX8_finds_281 : decode cX8_finds 281 = .ok (.iaload, 1) := by decide +kernel
theorem dX8_finds_282 : decode cX8_finds 282 = .ok (.iload 4, 2) := by decide +kernel
theorem dX8_finds_284 : decode cX8_finds 284 = .ok (.if_icmp .ne 37, 3) := by decide +kernel
theorem dX8_finds_287 : decode cX8_finds 287 = .ok (.aload_n 0, 1) := by decide +kernel
theorem dX8_finds_288 : decode cX8_finds 288 = .ok (.iload 7, 2) := by decide +kernel
theorem dX8_finds_290 : decode cX8_finds 290 = .ok (.iload 14, 2) := by decide +kernel
theorem dX8_finds_292 : decode cX8_finds 292 = .ok (.iload 5, 2) := by decide +kernel
theorem dX8_finds_294 : decode cX8_finds 294 = .ok (.iload 6, 2) := by decide +kernel
theorem dX8_finds_296 : decode cX8_finds 296 = .ok (.invokevirtual 143, 3) := by decide +kernel
theorem dX8_finds_299 : decode cX8_finds 299 = .ok (.ifCond .ne 18, 3) := by decide +kernel
theorem dX8_finds_302 : decode cX8_finds 302 = .ok (.aload_n 0, 1) := by decide +kernel
theorem dX8_finds_303 : decode cX8_finds 303 = .ok (.iload 8, 2) := by decide +kernel
theorem dX8_finds_305 : decode cX8_finds 305 = .ok (.iload 14, 2) := by decide +kernel
theorem dX8_finds_307 : decode cX8_finds 307 = .ok (.iload 5, 2) := by decide +kernel
theorem dX8_finds_309 : decode cX8_finds 309 = .ok (.iload 6, 2) := by decide +kernel
theorem dX8_finds_311 : decode cX8_finds 311 = .ok (.invokevirtual 143, 3) := by decide +kernel
theorem dX8_finds_314 : decode cX8_finds 314 = .ok (.ifCond .eq 7, 3) := by decide +kernel
theorem dX8_finds_317 : decode cX8_finds 317 = .ok (.iload 14, 2) := by decide +kernel
theorem dX8_finds_319 : decode cX8_finds 319 = .ok (.istore 13, 2) := by decide +kernel
theorem dX8_finds_321 : decode cX8_finds 321 = .ok (.iinc 14 1, 3) := by decide +kernel
theorem dX8_finds_324 : decode cX8_finds 324 = .ok (.goto (-69), 3) := by decide +kernel
theorem dX8_finds_327 : decode cX8_finds 327 = .ok (.iload 13, 2) := by decide +kernel
theorem dX8_finds_329 : decode cX8_finds 329 = .ok (.iconst (-1), 1) := by decide +kernel
theorem dX8_finds_330 : decode cX8_finds 330 = .ok (.if_icmp .eq 157, 3) := by decide +kernel
theorem dX8_finds_333 : decode cX8_finds 333 = .ok (.aload_n 0, 1) := by decide +kernel
theorem dX8_finds_334 : decode cX8_finds 334 = .ok (.iload 13, 2) := by decide +kernel
theorem dX8_finds_336 : decode cX8_finds 336 = .ok (.invokevirtual 146, 3) := by decide +kernel
theorem dX8_finds_339 : decode cX8_finds 339 = .ok (.aload_n 0, 1) := by decide +kernel
theorem dX8_finds_340 : decode cX8_finds 340 = .ok (.iload 7, 2) := by decide +kernel
theorem dX8_finds_342 : decode cX8_finds 342 = .ok (.iload 13, 2) := by decide +kernel
theorem dX8_finds_344 : decode cX8_finds 344 = .ok (.iload 5, 2) := by decide +kernel
theorem dX8_finds_346 : decode cX8_finds 346 = .ok (.iload 6, 2) := by decide +kernel
theorem dX8_finds_348 : decode cX8_finds 348 = .ok (.invokevirtual 143, 3) := by decide +kernel
theorem dX8_finds_351 : decode cX8_finds 351 = .ok (.ifCond .eq 22, 3) := by decide +kernel
theorem dX8_finds_354 : decode cX8_finds 354 = .ok (.aload_n 0, 1) := by decide +kernel
theorem dX8_finds_355 : decode cX8_finds 355 = .ok (.iload 8, 2) := by decide +kernel
theorem dX8_finds_357 : decode cX8_finds 357 = .ok (.iload 13, 2) := by decide +kernel
theorem dX8_finds_359 : decode cX8_finds 359 = .ok (.iload 5, 2) := by decide +kernel
theorem dX8_finds_361 : decode cX8_finds 361 = .ok (.iload 6, 2) := by decide +kernel
theorem dX8_finds_363 : decode cX8_finds 363 = .ok (.invokevirtual 143, 3) := by decide +kernel
theorem dX8_finds_366 : decode cX8_finds 366 = .ok (.ifCond .eq 7, 3) := by decide +kernel
theorem dX8_finds_369 : decode cX8_finds 369 = .ok (.iconst 1, 1) := by decide +kernel
theorem dX8_finds_370 : decode cX8_finds 370 = .ok (.goto 4, 3) := by decide +kernel
theorem dX8_finds_373 : decode cX8_finds 373 = .ok (.iconst 0, 1) := by decide +kernel
theorem dX8_finds_374 : decode cX8_finds 374 = .ok (.istore 14, 2) := by decide +kernel
theorem dX8_finds_376 : decode cX8_finds 376 = .ok (.iload 14, 2) := by decide +kernel
theorem dX8_finds_378 : decode cX8_finds 378 = .ok (.ifCond .eq 7, 3) := by decide +kernel
theorem dX8_finds_381 : decode cX8_finds 381 = .ok (.iconst (-1), 1) := by decide +kernel
theorem dX8_finds_382 : decode cX8_finds 382 = .ok (.goto 36, 3) := by decide +kernel
theorem dX8_finds_385 : decode cX8_finds 385 = .ok (.aload_n 0, 1) := by decide +kernel
theorem dX8_finds_386 : decode cX8_finds 386 = .ok (.iconst 4, 1) := by decide +kernel
theorem dX8_finds_387 : decode cX8_finds 387 = .ok (.iload 13, 2) := by decide +kernel
theorem dX8_finds_389 : decode cX8_finds 389 = .ok (.aload_n 0, 1) := by decide +kernel
theorem dX8_finds_390 : decode cX8_finds 390 = .ok (.iload 7, 2) := by decide +kernel
theorem dX8_finds_392 : decode cX8_finds 392 = .ok (.iload 13, 2) := by decide +kernel
theorem dX8_finds_394 : decode cX8_finds 394 = .ok (.iload 5, 2) := by decide +kernel
theorem dX8_finds_396 : decode cX8_finds 396 = .ok (.iload 6, 2) := by decide +kernel
theorem dX8_finds_398 : decode cX8_finds 398 = .ok (.invokevirtual 143, 3) := by decide +kernel
theorem dX8_finds_401 : decode cX8_finds 401 = .ok (.ifCond .eq 8, 3) := by decide +kernel
theorem dX8_finds_404 : decode cX8_finds 404 = .ok (.iload 8, 2) := by decide +kernel
theorem dX8_finds_406 : decode cX8_finds 406 = .ok (.goto 5, 3) := by decide +kernel
theorem dX8_finds_409 : decode cX8_finds 409 = .ok (.iload 7, 2) := by decide +kernel
theorem dX8_finds_411 : decode cX8_finds 411 = .ok (.iload 5, 2) := by decide +kernel
theorem dX8_finds_413 : decode cX8_finds 413 = .ok (.iload 6, 2) := by decide +kernel
theorem dX8_finds_415 : decode cX8_finds 415 = .ok (.invokevirtual 171, 3) := by decide +kernel
theorem dX8_finds_418 : decode cX8_finds 418 = .ok (.istore 15, 2) := by decide +kernel
theorem dX8_finds_420 : decode cX8_finds 420 = .ok (.aload_n 0, 1) := by decide +kernel
theorem dX8_finds_421 : decode cX8_finds 421 = .ok (.aload_n 0, 1) := by decide +kernel
theorem dX8_finds_422 : decode cX8_finds 422 = .ok (.getfield 49, 3) := by decide +kernel
theorem dX8_finds_425 : decode cX8_finds 425 = .ok (.iload 13, 2) := by decide +kernel
theorem dX8_finds_427 : decode cX8_finds 427 = .ok (.iaload, 1) := by decide +kernel
theorem dX8_finds_428 : decode cX8_finds 428 = .ok (.ifCond .eq 9, 3) := by decide +kernel
theorem dX8_finds_431 : decode cX8_finds 431 = .ok (.iload 15, 2) := by decide +kernel
theorem dX8_finds_433 : decode cX8_finds 433 = .ok (.iconst (-1), 1) := by decide +kernel
theorem dX8_finds_434 : decode cX8_finds 434 = .ok (.if_icmp .eq 7, 3) := by decide +kernel
theorem dX8_finds_437 : decode cX8_finds 437 = .ok (.iconst 3, 1) := by decide +kernel
theorem dX8_finds_438 : decode cX8_finds 438 = .ok (.goto 4, 3) := by decide +kernel
theorem dX8_finds_441 : decode cX8_finds 441 = .ok (.iconst 2, 1) := by decide +kernel
theorem dX8_finds_442 : decode cX8_finds 442 = .ok (.putfield 150, 3) := by decide +kernel
theorem dX8_finds_445 : decode cX8_finds 445 = .ok (.aload_n 0, 1) := by decide +kernel
theorem dX8_finds_446 : decode cX8_finds 446 = .ok (.aload_n 0, 1) := by decide +kernel
theorem dX8_finds_447 : decode cX8_finds 447 = .ok (.getfield 150, 3) := by decide +kernel
theorem dX8_finds_450 : decode cX8_finds 450 = .ok (.iconst 3, 1) := by decide +kernel
theorem dX8_finds_451 : decode cX8_finds 451 = .ok (.if_icmp .ne 7, 3) := by decide +kernel
theorem dX8_finds_454 : decode cX8_finds 454 = .ok (.iconst 0, 1) := by decide +kernel
theorem dX8_finds_455 : decode cX8_finds 455 = .ok (.goto 10, 3) := by decide +kernel
theorem dX8_finds_458 : decode cX8_finds 458 = .ok (.aload_n 0, 1) := by decide +kernel
theorem dX8_finds_459 : decode cX8_finds 459 = .ok (.getfield 49, 3) := by decide +kernel
theorem dX8_finds_462 : decode cX8_finds 462 = .ok (.iload 13, 2) := by decide +kernel
theorem dX8_finds_464 : decode cX8_finds 464 = .ok (.iaload, 1) := by decide +kernel
theorem dX8_finds_465 : decode cX8_finds 465 = .ok (.putfield 153, 3) := by decide +kernel
theorem dX8_finds_468 : decode cX8_finds 468 = .ok (.aload_n 0, 1) := by decide +kernel
theorem dX8_finds_469 : decode cX8_finds 469 = .ok (.getfield 49, 3) := by decide +kernel
theorem dX8_finds_472 : decode cX8_finds 472 = .ok (.iload 13, 2) := by decide +kernel
theorem dX8_finds_474 : decode cX8_finds 474 = .ok (.iaload, 1) := by decide +kernel
theorem dX8_finds_475 : decode cX8_finds 475 = .ok (.ifCond .eq 9, 3) := by decide +kernel
theorem dX8_finds_478 : decode cX8_finds 478 = .ok (.aload_n 0, 1) := by decide +kernel
theorem dX8_finds_479 : decode cX8_finds 479 = .ok (.iload 15, 2) := by decide +kernel
theorem dX8_finds_481 : decode cX8_finds 481 = .ok (.invokevirtual 146, 3) := by decide +kernel
theorem dX8_finds_484 : decode cX8_finds 484 = .ok (.goto 18, 3) := by decide +kernel
theorem dX8_finds_487 : decode cX8_finds 487 = .ok (.aload_n 0, 1) := by decide +kernel
theorem dX8_finds_488 : decode cX8_finds 488 = .ok (.iload 7, 2) := by decide +kernel
theorem dX8_finds_490 : decode cX8_finds 490 = .ok (.iload 8, 2) := by decide +kernel
theorem dX8_finds_492 : decode cX8_finds 492 = .ok (.iload_n 3, 1) := by decide +kernel
theorem dX8_finds_493 : decode cX8_finds 493 = .ok (.iload 4, 2) := by decide +kernel
theorem dX8_finds_495 : decode cX8_finds 495 = .ok (.iload 5, 2) := by decide +kernel
theorem dX8_finds_497 : decode cX8_finds 497 = .ok (.iload 6, 2) := by decide +kernel
theorem dX8_finds_499 : decode cX8_finds 499 = .ok (.invokevirtual 175, 3) := by decide +kernel
theorem dX8_finds_502 : decode cX8_finds 502 = .ok (.aload_n 0, 1) := by decide +kernel
theorem dX8_finds_503 : decode cX8_finds 503 = .ok (.invokevirtual 168, 3) := by decide +kernel
theorem dX8_finds_506 : decode cX8_finds 506 = .ok (.return_, 1) := by decide +kernel
end
section
theorem dX8_changes_0 : decode cX8_changes 0 = .ok (.aload_n 0, 1) := by decide +kernel
theorem dX8_changes_1 : decode cX8_changes 1 = .ok (.iconst 1, 1) := by decide +kernel
theorem dX8_changes_2 : decode cX8_changes 2 = .ok (.putfield 150, 3) := by decide +kernel
theorem dX8_changes_5 : decode cX8_changes 5 = .ok (.aload_n 0, 1) := by decide +kernel
theorem dX8_changes_6 : decode cX8_changes 6 = .ok (.aload_n 0, 1) := by decide +kernel
theorem dX8_changes_7 : decode cX8_changes 7 = .ok (.getfield 22, 3) := by decide +kernel
theorem dX8_changes_10 : decode cX8_changes 10 = .ok (.bipush 20, 2) := by decide +kernel
theorem dX8_changes_12 : decode cX8_changes 12 = .ok (.iload_n 3, 1) := by decide +kernel
theorem dX8_changes_13 : decode cX8_changes 13 = .ok (.imul, 1) := by decide +kernel
theorem dX8_changes_14 : decode cX8_changes 14 = .ok (.iload 4, 2) := by decide +kernel
theorem dX8_changes_16 : decode cX8_changes 16 = .ok (.iadd, 1) := by decide +kernel
theorem dX8_changes_17 : decode cX8_changes 17 = .ok (.iaload, 1) := by decide +kernel
theorem dX8_changes_18 : decode cX8_changes 18 = .ok (.putfield 153, 3) := by decide +kernel
theorem dX8_changes_21 : decode cX8_changes 21 = .ok (.iconst (-1), 1) := by decide +kernel
theorem dX8_changes_22 : decode cX8_changes 22 = .ok (.istore 7, 2) := by decide +kernel
theorem dX8_changes_24 : decode cX8_changes 24 = .ok (.iconst 0, 1) := by decide +kernel
theorem dX8_changes_25 : decode cX8_changes 25 = .ok (.istore 8, 2) := by decide +kernel
theorem dX8_changes_27 : decode cX8_changes 27 = .ok (.iload 8, 2) := by decide +kernel
theorem dX8_changes_29 : decode cX8_changes 29 = .ok (.aload_n 0, 1) := by decide +kernel
theorem dX8_changes_30 : decode cX8_changes 30 = .ok (.getfield 89, 3) := by decide +kernel
theorem dX8_changes_33 : decode cX8_changes 33 = .ok (.if_icmp .ge 106, 3) := by decide +kernel
theorem dX8_changes_36 : decode cX8_changes 36 = .ok (.aload_n 0, 1) := by decide +kernel
theorem dX8_changes_37 : decode cX8_changes 37 = .ok (.getfield 25, 3) := by decide +kernel
theorem dX8_changes_40 : decode cX8_changes 40 = .ok (.iload 8, 2) := by decide +kernel
theorem dX8_changes_42 : decode cX8_changes 42 = .ok (.iaload, 1) := by decide +kernel
theorem dX8_changes_43 : decode cX8_changes 43 = .ok (.bipush 6, 2) := by decide +kernel
theorem dX8_changes_45 : decode cX8_changes 45 = .ok (.if_icmp .ne 42, 3) := by decide +kernel
theorem dX8_changes_48 : decode cX8_changes 48 = .ok (.aload_n 0, 1) := by decide +kernel
theorem dX8_changes_49 : decode cX8_changes 49 = .ok (.getfield 31, 3) := by decide +kernel
theorem dX8_changes_52 : decode cX8_changes 52 = .ok (.iload 8, 2) := by decide +kernel
theorem dX8_changes_54 : decode cX8_changes 54 = .ok (.iaload, 1) := by decide +kernel
theorem dX8_changes_55 : decode cX8_changes 55 = .ok (.iload_n 3, 1) := by decide +kernel
theorem dX8_changes_56 : decode cX8_changes 56 = .ok (.if_icmp .ne 31, 3) := by decide +kernel
theorem dX8_changes_59 : decode cX8_changes 59 = .ok (.aload_n 0, 1) := by decide +kernel
theorem dX8_changes_60 : decode cX8_changes 60 = .ok (.getfield 46, 3) := by decide +kernel
theorem dX8_changes_63 : decode cX8_changes 63 = .ok (.iload 8, 2) := by decide +kernel
theorem dX8_changes_65 : decode cX8_changes 65 = .ok (.iaload, 1) := by decide +kernel
theorem dX8_changes_66 : decode cX8_changes 66 = .ok (.iload 4, 2) := by decide +kernel
theorem dX8_changes_68 : decode cX8_changes 68 = .ok (.if_icmp .ne 19, 3) := by decide +kernel
theorem dX8_changes_71 : decode cX8_changes 71 = .ok (.aload_n 0, 1) := by decide +kernel
theorem dX8_changes_72 : decode cX8_changes 72 = .ok (.getfield 34, 3) := by decide +kernel
theorem dX8_changes_75 : decode cX8_changes 75 = .ok (.iload 8, 2) := by decide +kernel
theorem dX8_changes_77 : decode cX8_changes 77 = .ok (.iaload, 1) := by decide +kernel
theorem dX8_changes_78 : decode cX8_changes 78 = .ok (.iload 6, 2) := by decide +kernel
theorem dX8_changes_80 : decode cX8_changes 80 = .ok (.if_icmp .gt 7, 3) := by decide +kernel
theorem dX8_changes_83 : decode cX8_changes 83 = .ok (.iconst 1, 1) := by decide +kernel
theorem dX8_changes_84 : decode cX8_changes 84 = .ok (.goto 4, 3) := by decide +kernel
theorem dX8_changes_87 : decode cX8_changes 87 = .ok (.iconst 0, 1) := by decide +kernel
theorem dX8_changes_88 : decode cX8_changes 88 = .ok (.istore 9, 2) := by decide +kernel
theorem dX8_changes_90 : decode cX8_changes 90 = .ok (.iload 9, 2) := by decide +kernel
theorem dX8_changes_92 : decode cX8_changes 92 = .ok (.ifCond .eq 41, 3) := by decide +kernel
theorem dX8_changes_95 : decode cX8_changes 95 = .ok (.aload_n 0, 1) := by decide +kernel
theorem dX8_changes_96 : decode cX8_changes 96 = .ok (.bipush 7, 2) := by decide +kernel
theorem dX8_changes_98 : decode cX8_changes 98 = .ok (.iload 8, 2) := by decide +kernel
theorem dX8_changes_100 : decode cX8_changes 100 = .ok (.iload_n 1, 1) := by decide +kernel
theorem dX8_changes_101 : decode cX8_changes 101 = .ok (.iload 5, 2) := by decide +kernel
theorem dX8_changes_103 : decode cX8_changes 103 = .ok (.iload 6, 2) := by decide +kernel
theorem dX8_changes_105 : decode cX8_changes 105 = .ok (.invokevirtual 171, 3) := by decide +kernel
theorem dX8_changes_108 : decode cX8_changes 108 = .ok (.iconst (-1), 1) := by decide +kernel
theorem dX8_changes_109 : decode cX8_changes 109 = .ok (.if_icmp .eq 24, 3) := by decide +kernel
theorem dX8_changes_112 : decode cX8_changes 112 = .ok (.aload_n 0, 1) := by decide +kernel
theorem dX8_changes_113 : decode cX8_changes 113 = .ok (.bipush 7, 2) := by decide +kernel
theorem dX8_changes_115 : decode cX8_changes 115 = .ok (.iload 8, 2) := by decide +kernel
theorem dX8_changes_117 : decode cX8_changes 117 = .ok (.iload_n 2, 1) := by decide +kernel
theorem dX8_changes_118 : decode cX8_changes 118 = .ok (.iload 5, 2) := by decide +kernel
theorem dX8_changes_120 : decode cX8_changes 120 = .ok (.iload 6, 2) := by decide +kernel
theorem dX8_changes_122 : decode cX8_changes 122 = .ok (.invokevirtual 171, 3) := by decide +kernel
theorem dX8_changes_125 : decode cX8_changes 125 = .ok (.iconst (-1), 1) := by decide +kernel
theorem dX8_changes_126 : decode cX8_changes 126 = .ok (.if_icmp .eq 7, 3) := by decide +kernel
theorem dX8_changes_129 : decode cX8_changes 129 = .ok (.iload 8, 2) := by decide +kernel
theorem dX8_changes_131 : decode cX8_changes 131 = .ok (.istore 7, 2) := by decide +kernel
theorem dX8_changes_133 : decode cX8_changes 133 = .ok (.iinc 8 1, 3) := by decide +kernel
theorem dX8_changes_136 : decode cX8_changes 136 = .ok (.goto (-109), 3) := by decide +kernel
theorem dX8_changes_139 : decode cX8_changes 139 = .ok (.iload 7, 2) := by decide +kernel
theorem dX8_changes_141 : decode cX8_changes 141 = .ok (.iconst (-1), 1) := by decide +kernel
theorem dX8_changes_142 : decode cX8_changes 142 = .ok (.if_icmp .eq 59, 3) := by decide +kernel
theorem dX8_changes_145 : decode cX8_changes 145 = .ok (.aload_n 0, 1) := by decide +kernel
theorem dX8_changes_146 : decode cX8_changes 146 = .ok (.iconst 4, 1) := by decide +kernel
theorem dX8_changes_147 : decode cX8_changes 147 = .ok (.putfield 150, 3) := by decide +kernel
theorem dX8_changes_150 : decode cX8_changes 150 = .ok (.aload_n 0, 1) := by decide +kernel
theorem dX8_changes_151 : decode cX8_changes 151 = .ok (.aload_n 0, 1) := by decide +kernel
theorem dX8_changes_152 : decode cX8_changes 152 = .ok (.getfield 49, 3) := by decide +kernel
theorem dX8_changes_155 : decode cX8_changes 155 = .ok (.iload 7, 2) := by decide +kernel
theorem dX8_changes_157 : decode cX8_changes 157 = .ok (.iaload, 1) := by decide +kernel
theorem dX8_changes_158 : decode cX8_changes 158 = .ok (.putfield 153, 3) := by decide +kernel
theorem dX8_changes_161 : decode cX8_changes 161 = .ok (.aload_n 0, 1) := by decide +kernel
theorem dX8_changes_162 : decode cX8_changes 162 = .ok (.iload 7, 2) := by decide +kernel
theorem dX8_changes_164 : decode cX8_changes 164 = .ok (.invokevirtual 146, 3) := by decide +kernel
theorem dX8_changes_167 : decode cX8_changes 167 = .ok (.aload_n 0, 1) := by decide +kernel
theorem dX8_changes_168 : decode cX8_changes 168 = .ok (.aload_n 0, 1) := by decide +kernel
theorem dX8_changes_169 : decode cX8_changes 169 = .ok (.bipush 7, 2) := by decide +kernel
theorem dX8_changes_171 : decode cX8_changes 171 = .ok (.iload 7, 2) := by decide +kernel
theorem dX8_changes_173 : decode cX8_changes 173 = .ok (.iload_n 1, 1) := by decide +kernel
theorem dX8_changes_174 : decode cX8_changes 174 = .ok (.iload 5, 2) := by decide +kernel
theorem dX8_changes_176 : decode cX8_changes 176 = .ok (.iload 6, 2) := by decide +kernel
theorem dX8_changes_178 : decode cX8_changes 178 = .ok (.invokevirtual 171, 3) := by decide +kernel
theorem dX8_changes_181 : decode cX8_changes 181 = .ok (.invokevirtual 146, 3) := by decide +kernel
theorem dX8_changes_184 : decode cX8_changes 184 = .ok (.aload_n 0, 1) := by decide +kernel
theorem dX8_changes_185 : decode cX8_changes 185 = .ok (.aload_n 0, 1) := by decide +kernel
theorem dX8_changes_186 : decode cX8_changes 186 = .ok (.bipush 7, 2) := by decide +kernel
theorem dX8_changes_188 : decode cX8_changes 188 = .ok (.iload 7, 2) := by decide +kernel
theorem dX8_changes_190 : decode cX8_changes 190 = .ok (.iload_n 2, 1) := by decide +kernel
theorem dX8_changes_191 : decode cX8_changes 191 = .ok (.iload 5, 2) := by decide +kernel
theorem dX8_changes_193 : decode cX8_changes 193 = .ok (.iload 6, 2) := by decide +kernel
theorem dX8_changes_195 : decode cX8_changes 195 = .ok (.invokevirtual 171, 3) := by decide +kernel
theorem dX8_changes_198 : decode cX8_changes 198 = .ok (.invokevirtual 146, 3) := by decide +kernel
theorem dX8_changes_201 : decode cX8_changes 201 = .ok (.return_, 1) := by decide +kernel
theorem dX8_isAsked_0 : decode cX8_isAsked 0 = .ok (.aload_n 0, 1) := by decide +kernel
theorem dX8_isAsked_1 : decode cX8_isAsked 1 = .ok (.iload_n 1, 1) := by decide +kernel
theorem dX8_isAsked_2 : decode cX8_isAsked 2 = .ok (.invokevirtual 115, 3) := by decide +kernel
theorem dX8_isAsked_5 : decode cX8_isAsked 5 = .ok (.ifCond .eq 30, 3) := by decide +kernel
theorem dX8_isAsked_8 : decode cX8_isAsked 8 = .ok (.aload_n 0, 1) := by decide +kernel
theorem dX8_isAsked_9 : decode cX8_isAsked 9 = .ok (.iload_n 2, 1) := by decide +kernel
theorem dX8_isAsked_10 : decode cX8_isAsked 10 = .ok (.invokevirtual 115, 3) := by decide +kernel
theorem dX8_isAsked_13 : decode cX8_isAsked 13 = .ok (.ifCond .eq 22, 3) := by decide +kernel
theorem dX8_isAsked_16 : decode cX8_isAsked 16 = .ok (.iload_n 1, 1) := by decide +kernel
theorem dX8_isAsked_17 : decode cX8_isAsked 17 = .ok (.iload_n 2, 1) := by decide +kernel
theorem dX8_isAsked_18 : decode cX8_isAsked 18 = .ok (.if_icmp .eq 17, 3) := by decide +kernel
theorem dX8_isAsked_21 : decode cX8_isAsked 21 = .ok (.aload_n 0, 1) := by decide +kernel
theorem dX8_isAsked_22 : decode cX8_isAsked 22 = .ok (.iload_n 3, 1) := by decide +kernel
theorem dX8_isAsked_23 : decode cX8_isAsked 23 = .ok (.iload 4, 2) := by decide +kernel
theorem dX8_isAsked_25 : decode cX8_isAsked 25 = .ok (.invokevirtual 93, 3) := by decide +kernel
theorem dX8_isAsked_28 : decode cX8_isAsked 28 = .ok (.ifCond .eq 7, 3) := by decide +kernel
theorem dX8_isAsked_31 : decode cX8_isAsked 31 = .ok (.iconst 1, 1) := by decide +kernel
theorem dX8_isAsked_32 : decode cX8_isAsked 32 = .ok (.goto 4, 3) := by decide +kernel
theorem dX8_isAsked_35 : decode cX8_isAsked 35 = .ok (.iconst 0, 1) := by decide +kernel
theorem dX8_isAsked_36 : decode cX8_isAsked 36 = .ok (.ireturn, 1) := by decide +kernel
theorem dX8_between_0 : decode cX8_between 0 = .ok (.aload_n 0, 1) := by decide +kernel
theorem dX8_between_1 : decode cX8_between 1 = .ok (.iload_n 1, 1) := by decide +kernel
theorem dX8_between_2 : decode cX8_between 2 = .ok (.iload_n 2, 1) := by decide +kernel
theorem dX8_between_3 : decode cX8_between 3 = .ok (.iload_n 3, 1) := by decide +kernel
theorem dX8_between_4 : decode cX8_between 4 = .ok (.iload 4, 2) := by decide +kernel
theorem dX8_between_6 : decode cX8_between 6 = .ok (.invokevirtual 179, 3) := by decide +kernel
theorem dX8_between_9 : decode cX8_between 9 = .ok (.ifCond .eq 19, 3) := by decide +kernel
theorem dX8_between_12 : decode cX8_between 12 = .ok (.iload 5, 2) := by decide +kernel
theorem dX8_between_14 : decode cX8_between 14 = .ok (.invokestatic 182, 3) := by decide +kernel
theorem dX8_between_17 : decode cX8_between 17 = .ok (.ifCond .eq 11, 3) := by decide +kernel
theorem dX8_between_20 : decode cX8_between 20 = .ok (.iload 6, 2) := by decide +kernel
theorem dX8_between_22 : decode cX8_between 22 = .ok (.invokestatic 182, 3) := by decide +kernel
theorem dX8_between_25 : decode cX8_between 25 = .ok (.ifCond .ne 5, 3) := by decide +kernel
theorem dX8_between_28 : decode cX8_between 28 = .ok (.iconst (-1), 1) := by decide +kernel
theorem dX8_between_29 : decode cX8_between 29 = .ok (.ireturn, 1) := by decide +kernel
theorem dX8_between_30 : decode cX8_between 30 = .ok (.aload_n 0, 1) := by decide +kernel
theorem dX8_between_31 : decode cX8_between 31 = .ok (.iload_n 1, 1) := by decide +kernel
theorem dX8_between_32 : decode cX8_between 32 = .ok (.iload_n 2, 1) := by decide +kernel
theorem dX8_between_33 : decode cX8_between 33 = .ok (.iload_n 3, 1) := by decide +kernel
theorem dX8_between_34 : decode cX8_between 34 = .ok (.iload 4, 2) := by decide +kernel
theorem dX8_between_36 : decode cX8_between 36 = .ok (.iload 5, 2) := by decide +kernel
theorem dX8_between_38 : decode cX8_between 38 = .ok (.iload 6, 2) := by decide +kernel
theorem dX8_between_40 : decode cX8_between 40 = .ok (.invokevirtual 185, 3) := by decide +kernel
theorem dX8_between_43 : decode cX8_between 43 = .ok (.aload_n 0, 1) := by decide +kernel
theorem dX8_between_44 : decode cX8_between 44 = .ok (.getfield 150, 3) := by decide +kernel
theorem dX8_between_47 : decode cX8_between 47 = .ok (.ireturn, 1) := by decide +kernel
theorem dX8_words_0 : decode cX8_words 0 = .ok (.aload_n 0, 1) := by decide +kernel
theorem dX8_words_1 : decode cX8_words 1 = .ok (.iload_n 1, 1) := by decide +kernel
theorem dX8_words_2 : decode cX8_words 2 = .ok (.iload_n 2, 1) := by decide +kernel
theorem dX8_words_3 : decode cX8_words 3 = .ok (.iload_n 3, 1) := by decide +kernel
theorem dX8_words_4 : decode cX8_words 4 = .ok (.iload 4, 2) := by decide +kernel
theorem dX8_words_6 : decode cX8_words 6 = .ok (.invokevirtual 179, 3) := by decide +kernel
theorem dX8_words_9 : decode cX8_words 9 = .ok (.ifCond .eq 19, 3) := by decide +kernel
theorem dX8_words_12 : decode cX8_words 12 = .ok (.iload 5, 2) := by decide +kernel
theorem dX8_words_14 : decode cX8_words 14 = .ok (.invokestatic 182, 3) := by decide +kernel
theorem dX8_words_17 : decode cX8_words 17 = .ok (.ifCond .eq 11, 3) := by decide +kernel
theorem dX8_words_20 : decode cX8_words 20 = .ok (.iload 6, 2) := by decide +kernel
theorem dX8_words_22 : decode cX8_words 22 = .ok (.invokestatic 182, 3) := by decide +kernel
theorem dX8_words_25 : decode cX8_words 25 = .ok (.ifCond .ne 5, 3) := by decide +kernel
theorem dX8_words_28 : decode cX8_words 28 = .ok (.iconst (-1), 1) := by decide +kernel
theorem dX8_words_29 : decode cX8_words 29 = .ok (.ireturn, 1) := by decide +kernel
theorem dX8_words_30 : decode cX8_words 30 = .ok (.aload_n 0, 1) := by decide +kernel
theorem dX8_words_31 : decode cX8_words 31 = .ok (.iload_n 1, 1) := by decide +kernel
theorem dX8_words_32 : decode cX8_words 32 = .ok (.iload_n 2, 1) := by decide +kernel
theorem dX8_words_33 : decode cX8_words 33 = .ok (.iload_n 3, 1) := by decide +kernel
theorem dX8_words_34 : decode cX8_words 34 = .ok (.iload 4, 2) := by decide +kernel
theorem dX8_words_36 : decode cX8_words 36 = .ok (.iload 5, 2) := by decide +kernel
theorem dX8_words_38 : decode cX8_words 38 = .ok (.iload 6, 2) := by decide +kernel
theorem dX8_words_40 : decode cX8_words 40 = .ok (.invokevirtual 185, 3) := by decide +kernel
theorem dX8_words_43 : decode cX8_words 43 = .ok (.aload_n 0, 1) := by decide +kernel
theorem dX8_words_44 : decode cX8_words 44 = .ok (.getfield 153, 3) := by decide +kernel
theorem dX8_words_47 : decode cX8_words 47 = .ok (.ireturn, 1) := by decide +kernel
theorem dX8_why_0 : decode cX8_why 0 = .ok (.aload_n 0, 1) := by decide +kernel
theorem dX8_why_1 : decode cX8_why 1 = .ok (.iload_n 1, 1) := by decide +kernel
theorem dX8_why_2 : decode cX8_why 2 = .ok (.iload_n 2, 1) := by decide +kernel
theorem dX8_why_3 : decode cX8_why 3 = .ok (.iload_n 3, 1) := by decide +kernel
theorem dX8_why_4 : decode cX8_why 4 = .ok (.iload 4, 2) := by decide +kernel
theorem dX8_why_6 : decode cX8_why 6 = .ok (.invokevirtual 179, 3) := by decide +kernel
theorem dX8_why_9 : decode cX8_why 9 = .ok (.ifCond .eq 19, 3) := by decide +kernel
theorem dX8_why_12 : decode cX8_why 12 = .ok (.iload 5, 2) := by decide +kernel
theorem dX8_why_14 : decode cX8_why 14 = .ok (.invokestatic 182, 3) := by decide +kernel
theorem dX8_why_17 : decode cX8_why 17 = .ok (.ifCond .eq 11, 3) := by decide +kernel
theorem dX8_why_20 : decode cX8_why 20 = .ok (.iload 6, 2) := by decide +kernel
theorem dX8_why_22 : decode cX8_why 22 = .ok (.invokestatic 182, 3) := by decide +kernel
theorem dX8_why_25 : decode cX8_why 25 = .ok (.ifCond .ne 5, 3) := by decide +kernel
theorem dX8_why_28 : decode cX8_why 28 = .ok (.iconst (-1), 1) := by decide +kernel
theorem dX8_why_29 : decode cX8_why 29 = .ok (.ireturn, 1) := by decide +kernel
theorem dX8_why_30 : decode cX8_why 30 = .ok (.aload_n 0, 1) := by decide +kernel
theorem dX8_why_31 : decode cX8_why 31 = .ok (.iload_n 1, 1) := by decide +kernel
theorem dX8_why_32 : decode cX8_why 32 = .ok (.iload_n 2, 1) := by decide +kernel
theorem dX8_why_33 : decode cX8_why 33 = .ok (.iload_n 3, 1) := by decide +kernel
theorem dX8_why_34 : decode cX8_why 34 = .ok (.iload 4, 2) := by decide +kernel
theorem dX8_why_36 : decode cX8_why 36 = .ok (.iload 5, 2) := by decide +kernel
theorem dX8_why_38 : decode cX8_why 38 = .ok (.iload 6, 2) := by decide +kernel
theorem dX8_why_40 : decode cX8_why 40 = .ok (.invokevirtual 185, 3) := by decide +kernel
theorem dX8_why_43 : decode cX8_why 43 = .ok (.iload 7, 2) := by decide +kernel
theorem dX8_why_45 : decode cX8_why 45 = .ok (.istore 8, 2) := by decide +kernel
theorem dX8_why_47 : decode cX8_why 47 = .ok (.iconst 0, 1) := by decide +kernel
theorem dX8_why_48 : decode cX8_why 48 = .ok (.istore 9, 2) := by decide +kernel
theorem dX8_why_50 : decode cX8_why 50 = .ok (.iload 9, 2) := by decide +kernel
theorem dX8_why_52 : decode cX8_why 52 = .ok (.aload_n 0, 1) := by decide +kernel
theorem dX8_why_53 : decode cX8_why 53 = .ok (.getfield 89, 3) := by decide +kernel
theorem dX8_why_56 : decode cX8_why 56 = .ok (.if_icmp .ge 35, 3) := by decide +kernel
theorem dX8_why_59 : decode cX8_why 59 = .ok (.iload 8, 2) := by decide +kernel
theorem dX8_why_61 : decode cX8_why 61 = .ok (.ifCond .lt 30, 3) := by decide +kernel
theorem dX8_why_64 : decode cX8_why 64 = .ok (.aload_n 0, 1) := by decide +kernel
theorem dX8_why_65 : decode cX8_why 65 = .ok (.getfield 59, 3) := by decide +kernel
theorem dX8_why_68 : decode cX8_why 68 = .ok (.iload 9, 2) := by decide +kernel
theorem dX8_why_70 : decode cX8_why 70 = .ok (.baload, 1) := by decide +kernel
theorem dX8_why_71 : decode cX8_why 71 = .ok (.ifCond .eq 14, 3) := by decide +kernel
theorem dX8_why_74 : decode cX8_why 74 = .ok (.iload 8, 2) := by decide +kernel
theorem dX8_why_76 : decode cX8_why 76 = .ok (.ifCond .ne 6, 3) := by decide +kernel
theorem dX8_why_79 : decode cX8_why 79 = .ok (.iload 9, 2) := by decide +kernel
theorem dX8_why_81 : decode cX8_why 81 = .ok (.ireturn, 1) := by decide +kernel
theorem dX8_why_82 : decode cX8_why 82 = .ok (.iinc 8 (-1), 3) := by decide +kernel
theorem dX8_why_85 : decode cX8_why 85 = .ok (.iinc 9 1, 3) := by decide +kernel
theorem dX8_why_88 : decode cX8_why 88 = .ok (.goto (-38), 3) := by decide +kernel
theorem dX8_why_91 : decode cX8_why 91 = .ok (.iconst (-1), 1) := by decide +kernel
theorem dX8_why_92 : decode cX8_why 92 = .ok (.ireturn, 1) := by decide +kernel
theorem dX8_effectBelow_0 : decode cX8_effectBelow 0 = .ok (.iload_n 1, 1) := by decide +kernel
theorem dX8_effectBelow_1 : decode cX8_effectBelow 1 = .ok (.ifCond .le 7, 3) := by decide +kernel
theorem dX8_effectBelow_4 : decode cX8_effectBelow 4 = .ok (.iconst 0, 1) := by decide +kernel
theorem dX8_effectBelow_5 : decode cX8_effectBelow 5 = .ok (.goto 4, 3) := by decide +kernel
theorem dX8_effectBelow_8 : decode cX8_effectBelow 8 = .ok (.iconst (-1), 1) := by decide +kernel
theorem dX8_effectBelow_9 : decode cX8_effectBelow 9 = .ok (.istore_n 2, 1) := by decide +kernel
theorem dX8_effectBelow_10 : decode cX8_effectBelow 10 = .ok (.iconst 0, 1) := by decide +kernel
theorem dX8_effectBelow_11 : decode cX8_effectBelow 11 = .ok (.istore_n 3, 1) := by decide +kernel
theorem dX8_effectBelow_12 : decode cX8_effectBelow 12 = .ok (.iload_n 3, 1) := by decide +kernel
theorem dX8_effectBelow_13 : decode cX8_effectBelow 13 = .ok (.aload_n 0, 1) := by decide +kernel
theorem dX8_effectBelow_14 : decode cX8_effectBelow 14 = .ok (.getfield 89, 3) := by decide +kernel
theorem dX8_effectBelow_17 : decode cX8_effectBelow 17 = .ok (.if_icmp .ge 36, 3) := by decide +kernel
theorem dX8_effectBelow_20 : decode cX8_effectBelow 20 = .ok (.aload_n 0, 1) := by decide +kernel
theorem dX8_effectBelow_21 : decode cX8_effectBelow 21 = .ok (.getfield 37, 3) := by decide +kernel
theorem dX8_effectBelow_24 : decode cX8_effectBelow 24 = .ok (.iload_n 3, 1) := by decide +kernel
theorem dX8_effectBelow_25 : decode cX8_effectBelow 25 = .ok (.iaload, 1) := by decide +kernel
theorem dX8_effectBelow_26 : decode cX8_effectBelow 26 = .ok (.iload_n 1, 1) := by decide +kernel
theorem dX8_effectBelow_27 : decode cX8_effectBelow 27 = .ok (.if_icmp .ge 20, 3) := by decide +kernel
theorem dX8_effectBelow_30 : decode cX8_effectBelow 30 = .ok (.aload_n 0, 1) := by decide +kernel
theorem dX8_effectBelow_31 : decode cX8_effectBelow 31 = .ok (.getfield 37, 3) := by decide +kernel
theorem dX8_effectBelow_34 : decode cX8_effectBelow 34 = .ok (.iload_n 3, 1) := by decide +kernel
theorem dX8_effectBelow_35 : decode cX8_effectBelow 35 = .ok (.iaload, 1) := by decide +kernel
theorem dX8_effectBelow_36 : decode cX8_effectBelow 36 = .ok (.iload_n 2, 1) := by decide +kernel
theorem dX8_effectBelow_37 : decode cX8_effectBelow 37 = .ok (.if_icmp .le 10, 3) := by decide +kernel
theorem dX8_effectBelow_40 : decode cX8_effectBelow 40 = .ok (.aload_n 0, 1) := by decide +kernel
theorem dX8_effectBelow_41 : decode cX8_effectBelow 41 = .ok (.getfield 37, 3) := by decide +kernel
theorem dX8_effectBelow_44 : decode cX8_effectBelow 44 = .ok (.iload_n 3, 1) := by decide +kernel
theorem dX8_effectBelow_45 : decode cX8_effectBelow 45 = .ok (.iaload, 1) := by decide +kernel
theorem dX8_effectBelow_46 : decode cX8_effectBelow 46 = .ok (.istore_n 2, 1) := by decide +kernel
theorem dX8_effectBelow_47 : decode cX8_effectBelow 47 = .ok (.iinc 3 1, 3) := by decide +kernel
theorem dX8_effectBelow_50 : decode cX8_effectBelow 50 = .ok (.goto (-38), 3) := by decide +kernel
theorem dX8_effectBelow_53 : decode cX8_effectBelow 53 = .ok (.iload_n 2, 1) := by decide +kernel
theorem dX8_effectBelow_54 : decode cX8_effectBelow 54 = .ok (.ireturn, 1) := by decide +kernel
theorem dX8_first_0 : decode cX8_first 0 = .ok (.aload_n 0, 1) := by decide +kernel
theorem dX8_first_1 : decode cX8_first 1 = .ok (.iload_n 1, 1) := by decide +kernel
theorem dX8_first_2 : decode cX8_first 2 = .ok (.iload_n 2, 1) := by decide +kernel
theorem dX8_first_3 : decode cX8_first 3 = .ok (.iload_n 3, 1) := by decide +kernel
theorem dX8_first_4 : decode cX8_first 4 = .ok (.iload 4, 2) := by decide +kernel
theorem dX8_first_6 : decode cX8_first 6 = .ok (.invokevirtual 179, 3) := by decide +kernel
theorem dX8_first_9 : decode cX8_first 9 = .ok (.ifCond .ne 5, 3) := by decide +kernel
theorem dX8_first_12 : decode cX8_first 12 = .ok (.iconst (-1), 1) := by decide +kernel
theorem dX8_first_13 : decode cX8_first 13 = .ok (.ireturn, 1) := by decide +kernel
theorem dX8_first_14 : decode cX8_first 14 = .ok (.aload_n 0, 1) := by decide +kernel
theorem dX8_first_15 : decode cX8_first 15 = .ok (.iload_n 1, 1) := by decide +kernel
theorem dX8_first_16 : decode cX8_first 16 = .ok (.iload_n 2, 1) := by decide +kernel
theorem dX8_first_17 : decode cX8_first 17 = .ok (.iload_n 3, 1) := by decide +kernel
theorem dX8_first_18 : decode cX8_first 18 = .ok (.iload 4, 2) := by decide +kernel
theorem dX8_first_20 : decode cX8_first 20 = .ok (.aload_n 0, 1) := by decide +kernel
theorem dX8_first_21 : decode cX8_first 21 = .ok (.getfield 98, 3) := by decide +kernel
theorem dX8_first_24 : decode cX8_first 24 = .ok (.aload_n 0, 1) := by decide +kernel
theorem dX8_first_25 : decode cX8_first 25 = .ok (.getfield 98, 3) := by decide +kernel
theorem dX8_first_28 : decode cX8_first 28 = .ok (.invokevirtual 185, 3) := by decide +kernel
theorem dX8_first_31 : decode cX8_first 31 = .ok (.aload_n 0, 1) := by decide +kernel
theorem dX8_first_32 : decode cX8_first 32 = .ok (.getfield 150, 3) := by decide +kernel
theorem dX8_first_35 : decode cX8_first 35 = .ok (.istore 5, 2) := by decide +kernel
theorem dX8_first_37 : decode cX8_first 37 = .ok (.aload_n 0, 1) := by decide +kernel
theorem dX8_first_38 : decode cX8_first 38 = .ok (.getfield 153, 3) := by decide +kernel
theorem dX8_first_41 : decode cX8_first 41 = .ok (.istore 6, 2) := by decide +kernel
theorem dX8_first_43 : decode cX8_first 43 = .ok (.aload_n 0, 1) := by decide +kernel
theorem dX8_first_44 : decode cX8_first 44 = .ok (.aload_n 0, 1) := by decide +kernel
theorem dX8_first_45 : decode cX8_first 45 = .ok (.getfield 98, 3) := by decide +kernel
theorem dX8_first_48 : decode cX8_first 48 = .ok (.iconst 1, 1) := by decide +kernel
theorem dX8_first_49 : decode cX8_first 49 = .ok (.iadd, 1) := by decide +kernel
theorem dX8_first_50 : decode cX8_first 50 = .ok (.invokevirtual 188, 3) := by decide +kernel
theorem dX8_first_53 : decode cX8_first 53 = .ok (.istore 7, 2) := by decide +kernel
theorem dX8_first_55 : decode cX8_first 55 = .ok (.iload 7, 2) := by decide +kernel
theorem dX8_first_57 : decode cX8_first 57 = .ok (.istore 8, 2) := by decide +kernel
theorem dX8_first_59 : decode cX8_first 59 = .ok (.iconst 1, 1) := by decide +kernel
theorem dX8_first_60 : decode cX8_first 60 = .ok (.istore 9, 2) := by decide +kernel
theorem dX8_first_62 : decode cX8_first 62 = .ok (.iload 9, 2) := by decide +kernel
theorem dX8_first_64 : decode cX8_first 64 = .ok (.ifCond .eq 76, 3) := by decide +kernel
theorem dX8_first_67 : decode cX8_first 67 = .ok (.iload 7, 2) := by decide +kernel
theorem dX8_first_69 : decode cX8_first 69 = .ok (.istore 8, 2) := by decide +kernel
theorem dX8_first_71 : decode cX8_first 71 = .ok (.aload_n 0, 1) := by decide +kernel
theorem dX8_first_72 : decode cX8_first 72 = .ok (.iload 7, 2) := by decide +kernel
theorem dX8_first_74 : decode cX8_first 74 = .ok (.invokevirtual 188, 3) := by decide +kernel
theorem dX8_first_77 : decode cX8_first 77 = .ok (.istore 7, 2) := by decide +kernel
theorem dX8_first_79 : decode cX8_first 79 = .ok (.iload 7, 2) := by decide +kernel
theorem dX8_first_81 : decode cX8_first 81 = .ok (.iconst (-1), 1) := by decide +kernel
theorem dX8_first_82 : decode cX8_first 82 = .ok (.if_icmp .eq 7, 3) := by decide +kernel
theorem dX8_first_85 : decode cX8_first 85 = .ok (.iconst 1, 1) := by decide +kernel
theorem dX8_first_86 : decode cX8_first 86 = .ok (.goto 4, 3) := by decide +kernel
theorem dX8_first_89 : decode cX8_first 89 = .ok (.iconst 0, 1) := by decide +kernel
theorem dX8_first_90 : decode cX8_first 90 = .ok (.istore 9, 2) := by decide +kernel
theorem dX8_first_92 : decode cX8_first 92 = .ok (.iload 9, 2) := by decide +kernel
theorem dX8_first_94 : decode cX8_first 94 = .ok (.ifCond .eq (-32), 3) := by decide +kernel
theorem dX8_first_97 : decode cX8_first 97 = .ok (.aload_n 0, 1) := by decide +kernel
theorem dX8_first_98 : decode cX8_first 98 = .ok (.iload_n 1, 1) := by decide +kernel
theorem dX8_first_99 : decode cX8_first 99 = .ok (.iload_n 2, 1) := by decide +kernel
theorem dX8_first_100 : decode cX8_first 100 = .ok (.iload_n 3, 1) := by decide +kernel
theorem dX8_first_101 : decode cX8_first 101 = .ok (.iload 4, 2) := by decide +kernel
theorem dX8_first_103 : decode cX8_first 103 = .ok (.iload 7, 2) := by decide +kernel
theorem dX8_first_105 : decode cX8_first 105 = .ok (.aload_n 0, 1) := by decide +kernel
theorem dX8_first_106 : decode cX8_first 106 = .ok (.getfield 98, 3) := by decide +kernel
theorem dX8_first_109 : decode cX8_first 109 = .ok (.invokevirtual 185, 3) := by decide +kernel
theorem dX8_first_112 : decode cX8_first 112 = .ok (.aload_n 0, 1) := by decide +kernel
theorem dX8_first_113 : decode cX8_first 113 = .ok (.getfield 150, 3) := by decide +kernel
theorem dX8_first_116 : decode cX8_first 116 = .ok (.iload 5, 2) := by decide +kernel
theorem dX8_first_118 : decode cX8_first 118 = .ok (.if_icmp .ne 16, 3) := by decide +kernel
theorem dX8_first_121 : decode cX8_first 121 = .ok (.aload_n 0, 1) := by decide +kernel
theorem dX8_first_122 : decode cX8_first 122 = .ok (.getfield 153, 3) := by decide +kernel
theorem dX8_first_125 : decode cX8_first 125 = .ok (.iload 6, 2) := by decide +kernel
theorem dX8_first_127 : decode cX8_first 127 = .ok (.if_icmp .ne 7, 3) := by decide +kernel
theorem dX8_first_130 : decode cX8_first 130 = .ok (.iconst 1, 1) := by decide +kernel
theorem dX8_first_131 : decode cX8_first 131 = .ok (.goto 4, 3) := by decide +kernel
theorem dX8_first_134 : decode cX8_first 134 = .ok (.iconst 0, 1) := by decide +kernel
theorem dX8_first_135 : decode cX8_first 135 = .ok (.istore 9, 2) := by decide +kernel
theorem dX8_first_137 : decode cX8_first 137 = .ok (.goto (-75), 3) := by decide +kernel
theorem dX8_first_140 : decode cX8_first 140 = .ok (.iload 8, 2) := by decide +kernel
theorem dX8_first_142 : decode cX8_first 142 = .ok (.ireturn, 1) := by decide +kernel
theorem dX8_member_0 : decode cX8_member 0 = .ok (.aload_n 0, 1) := by decide +kernel
theorem dX8_member_1 : decode cX8_member 1 = .ok (.iload_n 1, 1) := by decide +kernel
theorem dX8_member_2 : decode cX8_member 2 = .ok (.invokevirtual 115, 3) := by decide +kernel
theorem dX8_member_5 : decode cX8_member 5 = .ok (.ifCond .eq 38, 3) := by decide +kernel
theorem dX8_member_8 : decode cX8_member 8 = .ok (.aload_n 0, 1) := by decide +kernel
theorem dX8_member_9 : decode cX8_member 9 = .ok (.iload_n 2, 1) := by decide +kernel
theorem dX8_member_10 : decode cX8_member 10 = .ok (.invokevirtual 85, 3) := by decide +kernel
theorem dX8_member_13 : decode cX8_member 13 = .ok (.ifCond .eq 30, 3) := by decide +kernel
theorem dX8_member_16 : decode cX8_member 16 = .ok (.iload_n 3, 1) := by decide +kernel
theorem dX8_member_17 : decode cX8_member 17 = .ok (.invokestatic 182, 3) := by decide +kernel
theorem dX8_member_20 : decode cX8_member 20 = .ok (.ifCond .eq 23, 3) := by decide +kernel
theorem dX8_member_23 : decode cX8_member 23 = .ok (.iload 4, 2) := by decide +kernel
theorem dX8_member_25 : decode cX8_member 25 = .ok (.invokestatic 182, 3) := by decide +kernel
theorem dX8_member_28 : decode cX8_member 28 = .ok (.ifCond .eq 15, 3) := by decide +kernel
theorem dX8_member_31 : decode cX8_member 31 = .ok (.aload_n 0, 1) := by decide +kernel
theorem dX8_member_32 : decode cX8_member 32 = .ok (.iload_n 1, 1) := by decide +kernel
theorem dX8_member_33 : decode cX8_member 33 = .ok (.iload_n 2, 1) := by decide +kernel
theorem dX8_member_34 : decode cX8_member 34 = .ok (.iload_n 3, 1) := by decide +kernel
theorem dX8_member_35 : decode cX8_member 35 = .ok (.iload 4, 2) := by decide +kernel
theorem dX8_member_37 : decode cX8_member 37 = .ok (.invokevirtual 108, 3) := by decide +kernel
theorem dX8_member_40 : decode cX8_member 40 = .ok (.goto 4, 3) := by decide +kernel
theorem dX8_member_43 : decode cX8_member 43 = .ok (.iconst (-1), 1) := by decide +kernel
theorem dX8_member_44 : decode cX8_member 44 = .ok (.ireturn, 1) := by decide +kernel
theorem dX8_members_0 : decode cX8_members 0 = .ok (.aload_n 0, 1) := by decide +kernel
theorem dX8_members_1 : decode cX8_members 1 = .ok (.iload_n 1, 1) := by decide +kernel
theorem dX8_members_2 : decode cX8_members 2 = .ok (.invokevirtual 85, 3) := by decide +kernel
theorem dX8_members_5 : decode cX8_members 5 = .ok (.ifCond .eq 27, 3) := by decide +kernel
theorem dX8_members_8 : decode cX8_members 8 = .ok (.iload_n 2, 1) := by decide +kernel
theorem dX8_members_9 : decode cX8_members 9 = .ok (.invokestatic 182, 3) := by decide +kernel
theorem dX8_members_12 : decode cX8_members 12 = .ok (.ifCond .eq 20, 3) := by decide +kernel
theorem dX8_members_15 : decode cX8_members 15 = .ok (.iload_n 3, 1) := by decide +kernel
theorem dX8_members_16 : decode cX8_members 16 = .ok (.invokestatic 182, 3) := by decide +kernel
theorem dX8_members_19 : decode cX8_members 19 = .ok (.ifCond .eq 13, 3) := by decide +kernel
theorem dX8_members_22 : decode cX8_members 22 = .ok (.aload_n 0, 1) := by decide +kernel
theorem dX8_members_23 : decode cX8_members 23 = .ok (.iload_n 1, 1) := by decide +kernel
theorem dX8_members_24 : decode cX8_members 24 = .ok (.iload_n 2, 1) := by decide +kernel
theorem dX8_members_25 : decode cX8_members 25 = .ok (.iload_n 3, 1) := by decide +kernel
theorem dX8_members_26 : decode cX8_members 26 = .ok (.invokevirtual 156, 3) := by decide +kernel
theorem dX8_members_29 : decode cX8_members 29 = .ok (.goto 4, 3) := by decide +kernel
theorem dX8_members_32 : decode cX8_members 32 = .ok (.iconst (-1), 1) := by decide +kernel
theorem dX8_members_33 : decode cX8_members 33 = .ok (.ireturn, 1) := by decide +kernel
theorem dX8_since_0 : decode cX8_since 0 = .ok (.aload_n 0, 1) := by decide +kernel
theorem dX8_since_1 : decode cX8_since 1 = .ok (.iload_n 1, 1) := by decide +kernel
theorem dX8_since_2 : decode cX8_since 2 = .ok (.invokevirtual 85, 3) := by decide +kernel
theorem dX8_since_5 : decode cX8_since 5 = .ok (.ifCond .eq 25, 3) := by decide +kernel
theorem dX8_since_8 : decode cX8_since 8 = .ok (.aload_n 0, 1) := by decide +kernel
theorem dX8_since_9 : decode cX8_since 9 = .ok (.iload_n 1, 1) := by decide +kernel
theorem dX8_since_10 : decode cX8_since 10 = .ok (.aload_n 0, 1) := by decide +kernel
theorem dX8_since_11 : decode cX8_since 11 = .ok (.getfield 98, 3) := by decide +kernel
theorem dX8_since_14 : decode cX8_since 14 = .ok (.aload_n 0, 1) := by decide +kernel
theorem dX8_since_15 : decode cX8_since 15 = .ok (.getfield 98, 3) := by decide +kernel
theorem dX8_since_18 : decode cX8_since 18 = .ok (.invokevirtual 156, 3) := by decide +kernel
theorem dX8_since_21 : decode cX8_since 21 = .ok (.aload_n 0, 1) := by decide +kernel
theorem dX8_since_22 : decode cX8_since 22 = .ok (.getfield 13, 3) := by decide +kernel
theorem dX8_since_25 : decode cX8_since 25 = .ok (.iload_n 1, 1) := by decide +kernel
theorem dX8_since_26 : decode cX8_since 26 = .ok (.iaload, 1) := by decide +kernel
theorem dX8_since_27 : decode cX8_since 27 = .ok (.if_icmp .ge 5, 3) := by decide +kernel
theorem dX8_since_30 : decode cX8_since 30 = .ok (.iconst (-1), 1) := by decide +kernel
theorem dX8_since_31 : decode cX8_since 31 = .ok (.ireturn, 1) := by decide +kernel
theorem dX8_since_32 : decode cX8_since 32 = .ok (.aload_n 0, 1) := by decide +kernel
theorem dX8_since_33 : decode cX8_since 33 = .ok (.aload_n 0, 1) := by decide +kernel
theorem dX8_since_34 : decode cX8_since 34 = .ok (.getfield 98, 3) := by decide +kernel
theorem dX8_since_37 : decode cX8_since 37 = .ok (.iconst 1, 1) := by decide +kernel
theorem dX8_since_38 : decode cX8_since 38 = .ok (.iadd, 1) := by decide +kernel
theorem dX8_since_39 : decode cX8_since 39 = .ok (.invokevirtual 188, 3) := by decide +kernel
theorem dX8_since_42 : decode cX8_since 42 = .ok (.istore_n 2, 1) := by decide +kernel
theorem dX8_since_43 : decode cX8_since 43 = .ok (.iload_n 2, 1) := by decide +kernel
theorem dX8_since_44 : decode cX8_since 44 = .ok (.istore_n 3, 1) := by decide +kernel
theorem dX8_since_45 : decode cX8_since 45 = .ok (.iconst 1, 1) := by decide +kernel
theorem dX8_since_46 : decode cX8_since 46 = .ok (.istore 4, 2) := by decide +kernel
theorem dX8_since_48 : decode cX8_since 48 = .ok (.iload 4, 2) := by decide +kernel
theorem dX8_since_50 : decode cX8_since 50 = .ok (.ifCond .eq 45, 3) := by decide +kernel
theorem dX8_since_53 : decode cX8_since 53 = .ok (.iload_n 2, 1) := by decide +kernel
theorem dX8_since_54 : decode cX8_since 54 = .ok (.istore_n 3, 1) := by decide +kernel
theorem dX8_since_55 : decode cX8_since 55 = .ok (.aload_n 0, 1) := by decide +kernel
theorem dX8_since_56 : decode cX8_since 56 = .ok (.iload_n 2, 1) := by decide +kernel
theorem dX8_since_57 : decode cX8_since 57 = .ok (.invokevirtual 188, 3) := by decide +kernel
theorem dX8_since_60 : decode cX8_since 60 = .ok (.istore_n 2, 1) := by decide +kernel
theorem dX8_since_61 : decode cX8_since 61 = .ok (.iload_n 2, 1) := by decide +kernel
theorem dX8_since_62 : decode cX8_since 62 = .ok (.iconst (-1), 1) := by decide +kernel
theorem dX8_since_63 : decode cX8_since 63 = .ok (.if_icmp .eq 26, 3) := by decide +kernel
theorem dX8_since_66 : decode cX8_since 66 = .ok (.aload_n 0, 1) := by decide +kernel
theorem dX8_since_67 : decode cX8_since 67 = .ok (.iload_n 1, 1) := by decide +kernel
theorem dX8_since_68 : decode cX8_since 68 = .ok (.iload_n 2, 1) := by decide +kernel
theorem dX8_since_69 : decode cX8_since 69 = .ok (.aload_n 0, 1) := by decide +kernel
theorem dX8_since_70 : decode cX8_since 70 = .ok (.getfield 98, 3) := by decide +kernel
theorem dX8_since_73 : decode cX8_since 73 = .ok (.invokevirtual 156, 3) := by decide +kernel
theorem dX8_since_76 : decode cX8_since 76 = .ok (.aload_n 0, 1) := by decide +kernel
theorem dX8_since_77 : decode cX8_since 77 = .ok (.getfield 13, 3) := by decide +kernel
theorem dX8_since_80 : decode cX8_since 80 = .ok (.iload_n 1, 1) := by decide +kernel
theorem dX8_since_81 : decode cX8_since 81 = .ok (.iaload, 1) := by decide +kernel
theorem dX8_since_82 : decode cX8_since 82 = .ok (.if_icmp .lt 7, 3) := by decide +kernel
theorem dX8_since_85 : decode cX8_since 85 = .ok (.iconst 1, 1) := by decide +kernel
theorem dX8_since_86 : decode cX8_since 86 = .ok (.goto 4, 3) := by decide +kernel
theorem dX8_since_89 : decode cX8_since 89 = .ok (.iconst 0, 1) := by decide +kernel
theorem dX8_since_90 : decode cX8_since 90 = .ok (.istore 4, 2) := by decide +kernel
theorem dX8_since_92 : decode cX8_since 92 = .ok (.goto (-44), 3) := by decide +kernel
theorem dX8_since_95 : decode cX8_since 95 = .ok (.iload_n 3, 1) := by decide +kernel
theorem dX8_since_96 : decode cX8_since 96 = .ok (.ireturn, 1) := by decide +kernel
theorem dX8_has_0 : decode cX8_has 0 = .ok (.aload_n 0, 1) := by decide +kernel
theorem dX8_has_1 : decode cX8_has 1 = .ok (.iload_n 1, 1) := by decide +kernel
theorem dX8_has_2 : decode cX8_has 2 = .ok (.invokevirtual 115, 3) := by decide +kernel
theorem dX8_has_5 : decode cX8_has 5 = .ok (.ifCond .eq 31, 3) := by decide +kernel
theorem dX8_has_8 : decode cX8_has 8 = .ok (.aload_n 0, 1) := by decide +kernel
theorem dX8_has_9 : decode cX8_has 9 = .ok (.iload_n 2, 1) := by decide +kernel
theorem dX8_has_10 : decode cX8_has 10 = .ok (.invokevirtual 85, 3) := by decide +kernel
theorem dX8_has_13 : decode cX8_has 13 = .ok (.ifCond .eq 23, 3) := by decide +kernel
theorem dX8_has_16 : decode cX8_has 16 = .ok (.iload_n 3, 1) := by decide +kernel
theorem dX8_has_17 : decode cX8_has 17 = .ok (.invokestatic 182, 3) := by decide +kernel
theorem dX8_has_20 : decode cX8_has 20 = .ok (.ifCond .eq 16, 3) := by decide +kernel
theorem dX8_has_23 : decode cX8_has 23 = .ok (.iload 4, 2) := by decide +kernel
theorem dX8_has_25 : decode cX8_has 25 = .ok (.invokestatic 182, 3) := by decide +kernel
theorem dX8_has_28 : decode cX8_has 28 = .ok (.ifCond .eq 8, 3) := by decide +kernel
theorem dX8_has_31 : decode cX8_has 31 = .ok (.iload 5, 2) := by decide +kernel
theorem dX8_has_33 : decode cX8_has 33 = .ok (.ifCond .ge 5, 3) := by decide +kernel
theorem dX8_has_36 : decode cX8_has 36 = .ok (.iconst (-1), 1) := by decide +kernel
theorem dX8_has_37 : decode cX8_has 37 = .ok (.ireturn, 1) := by decide +kernel
theorem dX8_has_38 : decode cX8_has 38 = .ok (.aload_n 0, 1) := by decide +kernel
theorem dX8_has_39 : decode cX8_has 39 = .ok (.iload_n 1, 1) := by decide +kernel
theorem dX8_has_40 : decode cX8_has 40 = .ok (.iload_n 2, 1) := by decide +kernel
theorem dX8_has_41 : decode cX8_has 41 = .ok (.iload_n 3, 1) := by decide +kernel
theorem dX8_has_42 : decode cX8_has 42 = .ok (.iload 4, 2) := by decide +kernel
theorem dX8_has_44 : decode cX8_has 44 = .ok (.invokevirtual 108, 3) := by decide +kernel
theorem dX8_has_47 : decode cX8_has 47 = .ok (.istore 6, 2) := by decide +kernel
theorem dX8_has_49 : decode cX8_has 49 = .ok (.iload 5, 2) := by decide +kernel
theorem dX8_has_51 : decode cX8_has 51 = .ok (.istore 7, 2) := by decide +kernel
theorem dX8_has_53 : decode cX8_has 53 = .ok (.iconst 0, 1) := by decide +kernel
theorem dX8_has_54 : decode cX8_has 54 = .ok (.istore 8, 2) := by decide +kernel
theorem dX8_has_56 : decode cX8_has 56 = .ok (.iload 8, 2) := by decide +kernel
theorem dX8_has_58 : decode cX8_has 58 = .ok (.aload_n 0, 1) := by decide +kernel
theorem dX8_has_59 : decode cX8_has 59 = .ok (.getfield 89, 3) := by decide +kernel
theorem dX8_has_62 : decode cX8_has 62 = .ok (.if_icmp .ge 40, 3) := by decide +kernel
theorem dX8_has_65 : decode cX8_has 65 = .ok (.iload 6, 2) := by decide +kernel
theorem dX8_has_67 : decode cX8_has 67 = .ok (.iconst (-1), 1) := by decide +kernel
theorem dX8_has_68 : decode cX8_has 68 = .ok (.if_icmp .eq 34, 3) := by decide +kernel
theorem dX8_has_71 : decode cX8_has 71 = .ok (.aload_n 0, 1) := by decide +kernel
theorem dX8_has_72 : decode cX8_has 72 = .ok (.iload 6, 2) := by decide +kernel
theorem dX8_has_74 : decode cX8_has 74 = .ok (.iload 8, 2) := by decide +kernel
theorem dX8_has_76 : decode cX8_has 76 = .ok (.iload_n 3, 1) := by decide +kernel
theorem dX8_has_77 : decode cX8_has 77 = .ok (.iload 4, 2) := by decide +kernel
theorem dX8_has_79 : decode cX8_has 79 = .ok (.invokevirtual 143, 3) := by decide +kernel
theorem dX8_has_82 : decode cX8_has 82 = .ok (.ifCond .eq 14, 3) := by decide +kernel
theorem dX8_has_85 : decode cX8_has 85 = .ok (.iload 7, 2) := by decide +kernel
theorem dX8_has_87 : decode cX8_has 87 = .ok (.ifCond .ne 6, 3) := by decide +kernel
theorem dX8_has_90 : decode cX8_has 90 = .ok (.iload 8, 2) := by decide +kernel
theorem dX8_has_92 : decode cX8_has 92 = .ok (.ireturn, 1) := by decide +kernel
theorem dX8_has_93 : decode cX8_has 93 = .ok (.iinc 7 (-1), 3) := by decide +kernel
theorem dX8_has_96 : decode cX8_has 96 = .ok (.iinc 8 1, 3) := by decide +kernel
theorem dX8_has_99 : decode cX8_has 99 = .ok (.goto (-43), 3) := by decide +kernel
theorem dX8_has_102 : decode cX8_has 102 = .ok (.iconst (-1), 1) := by decide +kernel
theorem dX8_has_103 : decode cX8_has 103 = .ok (.ireturn, 1) := by decide +kernel
theorem dX8_paper_0 : decode cX8_paper 0 = .ok (.aload_n 0, 1) := by decide +kernel
theorem dX8_paper_1 : decode cX8_paper 1 = .ok (.iload_n 1, 1) := by decide +kernel
theorem dX8_paper_2 : decode cX8_paper 2 = .ok (.invokevirtual 136, 3) := by decide +kernel
theorem dX8_paper_5 : decode cX8_paper 5 = .ok (.ifCond .ne 5, 3) := by decide +kernel
theorem dX8_paper_8 : decode cX8_paper 8 = .ok (.iconst (-1), 1) := by decide +kernel
theorem dX8_paper_9 : decode cX8_paper 9 = .ok (.ireturn, 1) := by decide +kernel
theorem dX8_paper_10 : decode cX8_paper 10 = .ok (.iload_n 2, 1) := by decide +kernel
theorem dX8_paper_11 : decode cX8_paper 11 = .ok (.tableswitch 123 0 9 #[53, 60, 67, 74, 81, 88, 95, 102, 109, 116], 53) := by decide +kernel
theorem dX8_paper_64 : decode cX8_paper 64 = .ok (.aload_n 0, 1) := by decide +kernel
theorem dX8_paper_65 : decode cX8_paper 65 = .ok (.getfield 25, 3) := by decide +kernel
theorem dX8_paper_68 : decode cX8_paper 68 = .ok (.iload_n 1, 1) := by decide +kernel
theorem dX8_paper_69 : decode cX8_paper 69 = .ok (.iaload, 1) := by decide +kernel
theorem dX8_paper_70 : decode cX8_paper 70 = .ok (.ireturn, 1) := by decide +kernel
theorem dX8_paper_71 : decode cX8_paper 71 = .ok (.aload_n 0, 1) := by decide +kernel
theorem dX8_paper_72 : decode cX8_paper 72 = .ok (.getfield 28, 3) := by decide +kernel
theorem dX8_paper_75 : decode cX8_paper 75 = .ok (.iload_n 1, 1) := by decide +kernel
theorem dX8_paper_76 : decode cX8_paper 76 = .ok (.iaload, 1) := by decide +kernel
theorem dX8_paper_77 : decode cX8_paper 77 = .ok (.ireturn, 1) := by decide +kernel
theorem dX8_paper_78 : decode cX8_paper 78 = .ok (.aload_n 0, 1) := by decide +kernel
theorem dX8_paper_79 : decode cX8_paper 79 = .ok (.getfield 31, 3) := by decide +kernel
theorem dX8_paper_82 : decode cX8_paper 82 = .ok (.iload_n 1, 1) := by decide +kernel
theorem dX8_paper_83 : decode cX8_paper 83 = .ok (.iaload, 1) := by decide +kernel
theorem dX8_paper_84 : decode cX8_paper 84 = .ok (.ireturn, 1) := by decide +kernel
theorem dX8_paper_85 : decode cX8_paper 85 = .ok (.aload_n 0, 1) := by decide +kernel
theorem dX8_paper_86 : decode cX8_paper 86 = .ok (.getfield 34, 3) := by decide +kernel
theorem dX8_paper_89 : decode cX8_paper 89 = .ok (.iload_n 1, 1) := by decide +kernel
theorem dX8_paper_90 : decode cX8_paper 90 = .ok (.iaload, 1) := by decide +kernel
theorem dX8_paper_91 : decode cX8_paper 91 = .ok (.ireturn, 1) := by decide +kernel
theorem dX8_paper_92 : decode cX8_paper 92 = .ok (.aload_n 0, 1) := by decide +kernel
theorem dX8_paper_93 : decode cX8_paper 93 = .ok (.getfield 37, 3) := by decide +kernel
theorem dX8_paper_96 : decode cX8_paper 96 = .ok (.iload_n 1, 1) := by decide +kernel
theorem dX8_paper_97 : decode cX8_paper 97 = .ok (.iaload, 1) := by decide +kernel
theorem dX8_paper_98 : decode cX8_paper 98 = .ok (.ireturn, 1) := by decide +kernel
theorem dX8_paper_99 : decode cX8_paper 99 = .ok (.aload_n 0, 1) := by decide +kernel
theorem dX8_paper_100 : decode cX8_paper 100 = .ok (.getfield 40, 3) := by decide +kernel
theorem dX8_paper_103 : decode cX8_paper 103 = .ok (.iload_n 1, 1) := by decide +kernel
theorem dX8_paper_104 : decode cX8_paper 104 = .ok (.iaload, 1) := by decide +kernel
theorem dX8_paper_105 : decode cX8_paper 105 = .ok (.ireturn, 1) := by decide +kernel
theorem dX8_paper_106 : decode cX8_paper 106 = .ok (.aload_n 0, 1) := by decide +kernel
theorem dX8_paper_107 : decode cX8_paper 107 = .ok (.getfield 43, 3) := by decide +kernel
theorem dX8_paper_110 : decode cX8_paper 110 = .ok (.iload_n 1, 1) := by decide +kernel
theorem dX8_paper_111 : decode cX8_paper 111 = .ok (.iaload, 1) := by decide +kernel
theorem dX8_paper_112 : decode cX8_paper 112 = .ok (.ireturn, 1) := by decide +kernel
theorem dX8_paper_113 : decode cX8_paper 113 = .ok (.aload_n 0, 1) := by decide +kernel
theorem dX8_paper_114 : decode cX8_paper 114 = .ok (.getfield 46, 3) := by decide +kernel
theorem dX8_paper_117 : decode cX8_paper 117 = .ok (.iload_n 1, 1) := by decide +kernel
theorem dX8_paper_118 : decode cX8_paper 118 = .ok (.iaload, 1) := by decide +kernel
theorem dX8_paper_119 : decode cX8_paper 119 = .ok (.ireturn, 1) := by decide +kernel
theorem dX8_paper_120 : decode cX8_paper 120 = .ok (.aload_n 0, 1) := by decide +kernel
theorem dX8_paper_121 : decode cX8_paper 121 = .ok (.getfield 49, 3) := by decide +kernel
theorem dX8_paper_124 : decode cX8_paper 124 = .ok (.iload_n 1, 1) := by decide +kernel
theorem dX8_paper_125 : decode cX8_paper 125 = .ok (.iaload, 1) := by decide +kernel
theorem dX8_paper_126 : decode cX8_paper 126 = .ok (.ireturn, 1) := by decide +kernel
theorem dX8_paper_127 : decode cX8_paper 127 = .ok (.aload_n 0, 1) := by decide +kernel
theorem dX8_paper_128 : decode cX8_paper 128 = .ok (.getfield 52, 3) := by decide +kernel
theorem dX8_paper_131 : decode cX8_paper 131 = .ok (.iload_n 1, 1) := by decide +kernel
theorem dX8_paper_132 : decode cX8_paper 132 = .ok (.iaload, 1) := by decide +kernel
theorem dX8_paper_133 : decode cX8_paper 133 = .ok (.ireturn, 1) := by decide +kernel
theorem dX8_paper_134 : decode cX8_paper 134 = .ok (.iconst (-1), 1) := by decide +kernel
theorem dX8_paper_135 : decode cX8_paper 135 = .ok (.ireturn, 1) := by decide +kernel
theorem dX8_noted_0 : decode cX8_noted 0 = .ok (.aload_n 0, 1) := by decide +kernel
theorem dX8_noted_1 : decode cX8_noted 1 = .ok (.iload_n 1, 1) := by decide +kernel
theorem dX8_noted_2 : decode cX8_noted 2 = .ok (.invokevirtual 136, 3) := by decide +kernel
theorem dX8_noted_5 : decode cX8_noted 5 = .ok (.ifCond .eq 23, 3) := by decide +kernel
theorem dX8_noted_8 : decode cX8_noted 8 = .ok (.aload_n 0, 1) := by decide +kernel
theorem dX8_noted_9 : decode cX8_noted 9 = .ok (.getfield 25, 3) := by decide +kernel
theorem dX8_noted_12 : decode cX8_noted 12 = .ok (.iload_n 1, 1) := by decide +kernel
theorem dX8_noted_13 : decode cX8_noted 13 = .ok (.iaload, 1) := by decide +kernel
theorem dX8_noted_14 : decode cX8_noted 14 = .ok (.bipush 9, 2) := by decide +kernel
theorem dX8_noted_16 : decode cX8_noted 16 = .ok (.if_icmp .ne 12, 3) := by decide +kernel
theorem dX8_noted_19 : decode cX8_noted 19 = .ok (.aload_n 0, 1) := by decide +kernel
theorem dX8_noted_20 : decode cX8_noted 20 = .ok (.getfield 55, 3) := by decide +kernel
theorem dX8_noted_23 : decode cX8_noted 23 = .ok (.iload_n 1, 1) := by decide +kernel
theorem dX8_noted_24 : decode cX8_noted 24 = .ok (.laload, 1) := by decide +kernel
theorem dX8_noted_25 : decode cX8_noted 25 = .ok (.goto 4, 3) := by decide +kernel
theorem dX8_noted_28 : decode cX8_noted 28 = .ok (.lconst 0, 1) := by decide +kernel
theorem dX8_noted_29 : decode cX8_noted 29 = .ok (.lreturn, 1) := by decide +kernel
theorem dX8_annex_0 : decode cX8_annex 0 = .ok (.aload_n 0, 1) := by decide +kernel
theorem dX8_annex_1 : decode cX8_annex 1 = .ok (.iload_n 1, 1) := by decide +kernel
theorem dX8_annex_2 : decode cX8_annex 2 = .ok (.invokevirtual 85, 3) := by decide +kernel
theorem dX8_annex_5 : decode cX8_annex 5 = .ok (.ifCond .eq 18, 3) := by decide +kernel
theorem dX8_annex_8 : decode cX8_annex 8 = .ok (.iload_n 2, 1) := by decide +kernel
theorem dX8_annex_9 : decode cX8_annex 9 = .ok (.ifCond .lt 14, 3) := by decide +kernel
theorem dX8_annex_12 : decode cX8_annex 12 = .ok (.iload_n 2, 1) := by decide +kernel
theorem dX8_annex_13 : decode cX8_annex 13 = .ok (.iconst 3, 1) := by decide +kernel
theorem dX8_annex_14 : decode cX8_annex 14 = .ok (.if_icmp .gt 9, 3) := by decide +kernel
theorem dX8_annex_17 : decode cX8_annex 17 = .ok (.iload_n 3, 1) := by decide +kernel
theorem dX8_annex_18 : decode cX8_annex 18 = .ok (.bipush 100, 2) := by decide +kernel
theorem dX8_annex_20 : decode cX8_annex 20 = .ok (.if_icmp .le 6, 3) := by decide +kernel
theorem dX8_annex_23 : decode cX8_annex 23 = .ok (.bipush (-2), 2) := by decide +kernel
theorem dX8_annex_25 : decode cX8_annex 25 = .ok (.ireturn, 1) := by decide +kernel
theorem dX8_annex_26 : decode cX8_annex 26 = .ok (.aload_n 0, 1) := by decide +kernel
theorem dX8_annex_27 : decode cX8_annex 27 = .ok (.getfield 63, 3) := by decide +kernel
theorem dX8_annex_30 : decode cX8_annex 30 = .ok (.iload_n 1, 1) := by decide +kernel
theorem dX8_annex_31 : decode cX8_annex 31 = .ok (.iaload, 1) := by decide +kernel
theorem dX8_annex_32 : decode cX8_annex 32 = .ok (.bipush 8, 2) := by decide +kernel
theorem dX8_annex_34 : decode cX8_annex 34 = .ok (.if_icmp .ne 6, 3) := by decide +kernel
theorem dX8_annex_37 : decode cX8_annex 37 = .ok (.bipush (-8), 2) := by decide +kernel
theorem dX8_annex_39 : decode cX8_annex 39 = .ok (.ireturn, 1) := by decide +kernel
theorem dX8_annex_40 : decode cX8_annex 40 = .ok (.iload_n 3, 1) := by decide +kernel
theorem dX8_annex_41 : decode cX8_annex 41 = .ok (.ifCond .ge 6, 3) := by decide +kernel
theorem dX8_annex_44 : decode cX8_annex 44 = .ok (.bipush (-3), 2) := by decide +kernel
theorem dX8_annex_46 : decode cX8_annex 46 = .ok (.ireturn, 1) := by decide +kernel
theorem dX8_annex_47 : decode cX8_annex 47 = .ok (.bipush 8, 2) := by decide +kernel
theorem dX8_annex_49 : decode cX8_annex 49 = .ok (.iload_n 1, 1) := by decide +kernel
theorem dX8_annex_50 : decode cX8_annex 50 = .ok (.imul, 1) := by decide +kernel
theorem dX8_annex_51 : decode cX8_annex 51 = .ok (.aload_n 0, 1) := by decide +kernel
theorem dX8_annex_52 : decode cX8_annex 52 = .ok (.getfield 63, 3) := by decide +kernel
theorem dX8_annex_55 : decode cX8_annex 55 = .ok (.iload_n 1, 1) := by decide +kernel
theorem dX8_annex_56 : decode cX8_annex 56 = .ok (.iaload, 1) := by decide +kernel
theorem dX8_annex_57 : decode cX8_annex 57 = .ok (.iadd, 1) := by decide +kernel
theorem dX8_annex_58 : decode cX8_annex 58 = .ok (.istore 4, 2) := by decide +kernel
theorem dX8_annex_60 : decode cX8_annex 60 = .ok (.aload_n 0, 1) := by decide +kernel
theorem dX8_annex_61 : decode cX8_annex 61 = .ok (.getfield 63, 3) := by decide +kernel
theorem dX8_annex_64 : decode cX8_annex 64 = .ok (.iload_n 1, 1) := by decide +kernel
theorem dX8_annex_65 : decode cX8_annex 65 = .ok (.dup2, 1) := by decide +kernel
theorem dX8_annex_66 : decode cX8_annex 66 = .ok (.iaload, 1) := by decide +kernel
theorem dX8_annex_67 : decode cX8_annex 67 = .ok (.iconst 1, 1) := by decide +kernel
theorem dX8_annex_68 : decode cX8_annex 68 = .ok (.iadd, 1) := by decide +kernel
theorem dX8_annex_69 : decode cX8_annex 69 = .ok (.iastore, 1) := by decide +kernel
theorem dX8_annex_70 : decode cX8_annex 70 = .ok (.aload_n 0, 1) := by decide +kernel
theorem dX8_annex_71 : decode cX8_annex 71 = .ok (.getfield 66, 3) := by decide +kernel
theorem dX8_annex_74 : decode cX8_annex 74 = .ok (.iload 4, 2) := by decide +kernel
theorem dX8_annex_76 : decode cX8_annex 76 = .ok (.iload_n 2, 1) := by decide +kernel
theorem dX8_annex_77 : decode cX8_annex 77 = .ok (.iastore, 1) := by decide +kernel
theorem dX8_annex_78 : decode cX8_annex 78 = .ok (.aload_n 0, 1) := by decide +kernel
theorem dX8_annex_79 : decode cX8_annex 79 = .ok (.getfield 69, 3) := by decide +kernel
theorem dX8_annex_82 : decode cX8_annex 82 = .ok (.iload 4, 2) := by decide +kernel
theorem dX8_annex_84 : decode cX8_annex 84 = .ok (.iload_n 3, 1) := by decide +kernel
theorem dX8_annex_85 : decode cX8_annex 85 = .ok (.iastore, 1) := by decide +kernel
theorem dX8_annex_86 : decode cX8_annex 86 = .ok (.iconst 0, 1) := by decide +kernel
theorem dX8_annex_87 : decode cX8_annex 87 = .ok (.istore 5, 2) := by decide +kernel
theorem dX8_annex_89 : decode cX8_annex 89 = .ok (.iload 5, 2) := by decide +kernel
theorem dX8_annex_91 : decode cX8_annex 91 = .ok (.iload_n 3, 1) := by decide +kernel
theorem dX8_annex_92 : decode cX8_annex 92 = .ok (.if_icmp .ge 23, 3) := by decide +kernel
theorem dX8_annex_95 : decode cX8_annex 95 = .ok (.aload_n 0, 1) := by decide +kernel
theorem dX8_annex_96 : decode cX8_annex 96 = .ok (.getfield 72, 3) := by decide +kernel
theorem dX8_annex_99 : decode cX8_annex 99 = .ok (.bipush 100, 2) := by decide +kernel
theorem dX8_annex_101 : decode cX8_annex 101 = .ok (.iload 4, 2) := by decide +kernel
theorem dX8_annex_103 : decode cX8_annex 103 = .ok (.imul, 1) := by decide +kernel
theorem dX8_annex_104 : decode cX8_annex 104 = .ok (.iload 5, 2) := by decide +kernel
theorem dX8_annex_106 : decode cX8_annex 106 = .ok (.iadd, 1) := by decide +kernel
theorem dX8_annex_107 : decode cX8_annex 107 = .ok (.lconst 0, 1) := by decide +kernel
theorem dX8_annex_108 : decode cX8_annex 108 = .ok (.lastore, 1) := by decide +kernel
theorem dX8_annex_109 : decode cX8_annex 109 = .ok (.iinc 5 1, 3) := by decide +kernel
theorem dX8_annex_112 : decode cX8_annex 112 = .ok (.goto (-23), 3) := by decide +kernel
theorem dX8_annex_115 : decode cX8_annex 115 = .ok (.iload 4, 2) := by decide +kernel
theorem dX8_annex_117 : decode cX8_annex 117 = .ok (.bipush 8, 2) := by decide +kernel
theorem dX8_annex_119 : decode cX8_annex 119 = .ok (.iload_n 1, 1) := by decide +kernel
theorem dX8_annex_120 : decode cX8_annex 120 = .ok (.imul, 1) := by decide +kernel
theorem dX8_annex_121 : decode cX8_annex 121 = .ok (.isub, 1) := by decide +kernel
theorem dX8_annex_122 : decode cX8_annex 122 = .ok (.ireturn, 1) := by decide +kernel
theorem dX8_isAnnex_0 : decode cX8_isAnnex 0 = .ok (.aload_n 0, 1) := by decide +kernel
theorem dX8_isAnnex_1 : decode cX8_isAnnex 1 = .ok (.iload_n 1, 1) := by decide +kernel
theorem dX8_isAnnex_2 : decode cX8_isAnnex 2 = .ok (.invokevirtual 85, 3) := by decide +kernel
theorem dX8_isAnnex_5 : decode cX8_isAnnex 5 = .ok (.ifCond .eq 21, 3) := by decide +kernel
theorem dX8_isAnnex_8 : decode cX8_isAnnex 8 = .ok (.iload_n 2, 1) := by decide +kernel
theorem dX8_isAnnex_9 : decode cX8_isAnnex 9 = .ok (.ifCond .lt 17, 3) := by decide +kernel
theorem dX8_isAnnex_12 : decode cX8_isAnnex 12 = .ok (.iload_n 2, 1) := by decide +kernel
theorem dX8_isAnnex_13 : decode cX8_isAnnex 13 = .ok (.aload_n 0, 1) := by decide +kernel
theorem dX8_isAnnex_14 : decode cX8_isAnnex 14 = .ok (.getfield 63, 3) := by decide +kernel
theorem dX8_isAnnex_17 : decode cX8_isAnnex 17 = .ok (.iload_n 1, 1) := by decide +kernel
theorem dX8_isAnnex_18 : decode cX8_isAnnex 18 = .ok (.iaload, 1) := by decide +kernel
theorem dX8_isAnnex_19 : decode cX8_isAnnex 19 = .ok (.if_icmp .ge 7, 3) := by decide +kernel
theorem dX8_isAnnex_22 : decode cX8_isAnnex 22 = .ok (.iconst 1, 1) := by decide +kernel
theorem dX8_isAnnex_23 : decode cX8_isAnnex 23 = .ok (.goto 4, 3) := by decide +kernel
theorem dX8_isAnnex_26 : decode cX8_isAnnex 26 = .ok (.iconst 0, 1) := by decide +kernel
theorem dX8_isAnnex_27 : decode cX8_isAnnex 27 = .ok (.ireturn, 1) := by decide +kernel
theorem dX8_tear_0 : decode cX8_tear 0 = .ok (.aload_n 0, 1) := by decide +kernel
theorem dX8_tear_1 : decode cX8_tear 1 = .ok (.iload_n 1, 1) := by decide +kernel
theorem dX8_tear_2 : decode cX8_tear 2 = .ok (.iload_n 2, 1) := by decide +kernel
theorem dX8_tear_3 : decode cX8_tear 3 = .ok (.invokevirtual 192, 3) := by decide +kernel
theorem dX8_tear_6 : decode cX8_tear 6 = .ok (.ifCond .eq 17, 3) := by decide +kernel
theorem dX8_tear_9 : decode cX8_tear 9 = .ok (.aload_n 0, 1) := by decide +kernel
theorem dX8_tear_10 : decode cX8_tear 10 = .ok (.getfield 69, 3) := by decide +kernel
theorem dX8_tear_13 : decode cX8_tear 13 = .ok (.bipush 8, 2) := by decide +kernel
theorem dX8_tear_15 : decode cX8_tear 15 = .ok (.iload_n 1, 1) := by decide +kernel
theorem dX8_tear_16 : decode cX8_tear 16 = .ok (.imul, 1) := by decide +kernel
theorem dX8_tear_17 : decode cX8_tear 17 = .ok (.iload_n 2, 1) := by decide +kernel
theorem dX8_tear_18 : decode cX8_tear 18 = .ok (.iadd, 1) := by decide +kernel
theorem dX8_tear_19 : decode cX8_tear 19 = .ok (.iaload, 1) := by decide +kernel
theorem dX8_tear_20 : decode cX8_tear 20 = .ok (.ifCond .ge 5, 3) := by decide +kernel
theorem dX8_tear_23 : decode cX8_tear 23 = .ok (.iconst 0, 1) := by decide +kernel
theorem dX8_tear_24 : decode cX8_tear 24 = .ok (.ireturn, 1) := by decide +kernel
theorem dX8_tear_25 : decode cX8_tear 25 = .ok (.aload_n 0, 1) := by decide +kernel
theorem dX8_tear_26 : decode cX8_tear 26 = .ok (.getfield 69, 3) := by decide +kernel
theorem dX8_tear_29 : decode cX8_tear 29 = .ok (.bipush 8, 2) := by decide +kernel
theorem dX8_tear_31 : decode cX8_tear 31 = .ok (.iload_n 1, 1) := by decide +kernel
theorem dX8_tear_32 : decode cX8_tear 32 = .ok (.imul, 1) := by decide +kernel
theorem dX8_tear_33 : decode cX8_tear 33 = .ok (.iload_n 2, 1) := by decide +kernel
theorem dX8_tear_34 : decode cX8_tear 34 = .ok (.iadd, 1) := by decide +kernel
theorem dX8_tear_35 : decode cX8_tear 35 = .ok (.iconst (-1), 1) := by decide +kernel
theorem dX8_tear_36 : decode cX8_tear 36 = .ok (.iastore, 1) := by decide +kernel
theorem dX8_tear_37 : decode cX8_tear 37 = .ok (.iconst 1, 1) := by decide +kernel
theorem dX8_tear_38 : decode cX8_tear 38 = .ok (.ireturn, 1) := by decide +kernel
theorem dX8_wrong_0 : decode cX8_wrong 0 = .ok (.aload_n 0, 1) := by decide +kernel
theorem dX8_wrong_1 : decode cX8_wrong 1 = .ok (.iload_n 1, 1) := by decide +kernel
theorem dX8_wrong_2 : decode cX8_wrong 2 = .ok (.iload_n 2, 1) := by decide +kernel
theorem dX8_wrong_3 : decode cX8_wrong 3 = .ok (.invokevirtual 192, 3) := by decide +kernel
theorem dX8_wrong_6 : decode cX8_wrong 6 = .ok (.ifCond .ne 6, 3) := by decide +kernel
theorem dX8_wrong_9 : decode cX8_wrong 9 = .ok (.bipush (-2), 2) := by decide +kernel
theorem dX8_wrong_11 : decode cX8_wrong 11 = .ok (.ireturn, 1) := by decide +kernel
theorem dX8_wrong_12 : decode cX8_wrong 12 = .ok (.aload_n 0, 1) := by decide +kernel
theorem dX8_wrong_13 : decode cX8_wrong 13 = .ok (.getfield 69, 3) := by decide +kernel
theorem dX8_wrong_16 : decode cX8_wrong 16 = .ok (.bipush 8, 2) := by decide +kernel
theorem dX8_wrong_18 : decode cX8_wrong 18 = .ok (.iload_n 1, 1) := by decide +kernel
theorem dX8_wrong_19 : decode cX8_wrong 19 = .ok (.imul, 1) := by decide +kernel
theorem dX8_wrong_20 : decode cX8_wrong 20 = .ok (.iload_n 2, 1) := by decide +kernel
theorem dX8_wrong_21 : decode cX8_wrong 21 = .ok (.iadd, 1) := by decide +kernel
theorem dX8_wrong_22 : decode cX8_wrong 22 = .ok (.iaload, 1) := by decide +kernel
theorem dX8_wrong_23 : decode cX8_wrong 23 = .ok (.istore 4, 2) := by decide +kernel
theorem dX8_wrong_25 : decode cX8_wrong 25 = .ok (.iload 4, 2) := by decide +kernel
theorem dX8_wrong_27 : decode cX8_wrong 27 = .ok (.ifCond .ge 8, 3) := by decide +kernel
theorem dX8_wrong_30 : decode cX8_wrong 30 = .ok (.bipush (-5), 2) := by decide +kernel
theorem dX8_wrong_32 : decode cX8_wrong 32 = .ok (.goto 19, 3) := by decide +kernel
theorem dX8_wrong_35 : decode cX8_wrong 35 = .ok (.iload_n 3, 1) := by decide +kernel
theorem dX8_wrong_36 : decode cX8_wrong 36 = .ok (.ifCond .lt 9, 3) := by decide +kernel
theorem dX8_wrong_39 : decode cX8_wrong 39 = .ok (.iload_n 3, 1) := by decide +kernel
theorem dX8_wrong_40 : decode cX8_wrong 40 = .ok (.iload 4, 2) := by decide +kernel
theorem dX8_wrong_42 : decode cX8_wrong 42 = .ok (.if_icmp .lt 8, 3) := by decide +kernel
theorem dX8_wrong_45 : decode cX8_wrong 45 = .ok (.bipush (-6), 2) := by decide +kernel
theorem dX8_wrong_47 : decode cX8_wrong 47 = .ok (.goto 4, 3) := by decide +kernel
theorem dX8_wrong_50 : decode cX8_wrong 50 = .ok (.iconst 0, 1) := by decide +kernel
theorem dX8_wrong_51 : decode cX8_wrong 51 = .ok (.ireturn, 1) := by decide +kernel
end
section
theorem dX8_write_0 : decode cX8_write 0 = .ok (.aload_n 0, 1) := by decide +kernel
theorem dX8_write_1 : decode cX8_write 1 = .ok (.iload_n 1, 1) := by decide +kernel
theorem dX8_write_2 : decode cX8_write 2 = .ok (.iload_n 2, 1) := by decide +kernel
theorem dX8_write_3 : decode cX8_write 3 = .ok (.iload_n 3, 1) := by decide +kernel
theorem dX8_write_4 : decode cX8_write 4 = .ok (.invokevirtual 195, 3) := by decide +kernel
theorem dX8_write_7 : decode cX8_write 7 = .ok (.istore 6, 2) := by decide +kernel
theorem dX8_write_9 : decode cX8_write 9 = .ok (.iload 6, 2) := by decide +kernel
theorem dX8_write_11 : decode cX8_write 11 = .ok (.ifCond .ne 74, 3) := by decide +kernel
theorem dX8_write_14 : decode cX8_write 14 = .ok (.aload_n 0, 1) := by decide +kernel
theorem dX8_write_15 : decode cX8_write 15 = .ok (.getfield 66, 3) := by decide +kernel
theorem dX8_write_18 : decode cX8_write 18 = .ok (.bipush 8, 2) := by decide +kernel
theorem dX8_write_20 : decode cX8_write 20 = .ok (.iload_n 1, 1) := by decide +kernel
theorem dX8_write_21 : decode cX8_write 21 = .ok (.imul, 1) := by decide +kernel
theorem dX8_write_22 : decode cX8_write 22 = .ok (.iload_n 2, 1) := by decide +kernel
theorem dX8_write_23 : decode cX8_write 23 = .ok (.iadd, 1) := by decide +kernel
theorem dX8_write_24 : decode cX8_write 24 = .ok (.iaload, 1) := by decide +kernel
theorem dX8_write_25 : decode cX8_write 25 = .ok (.istore 7, 2) := by decide +kernel
theorem dX8_write_27 : decode cX8_write 27 = .ok (.aload_n 0, 1) := by decide +kernel
theorem dX8_write_28 : decode cX8_write 28 = .ok (.getfield 72, 3) := by decide +kernel
theorem dX8_write_31 : decode cX8_write 31 = .ok (.bipush 100, 2) := by decide +kernel
theorem dX8_write_33 : decode cX8_write 33 = .ok (.bipush 8, 2) := by decide +kernel
theorem dX8_write_35 : decode cX8_write 35 = .ok (.iload_n 1, 1) := by decide +kernel
theorem dX8_write_36 : decode cX8_write 36 = .ok (.imul, 1) := by decide +kernel
theorem dX8_write_37 : decode cX8_write 37 = .ok (.iload_n 2, 1) := by decide +kernel
theorem dX8_write_38 : decode cX8_write 38 = .ok (.iadd, 1) := by decide +kernel
theorem dX8_write_39 : decode cX8_write 39 = .ok (.imul, 1) := by decide +kernel
theorem dX8_write_40 : decode cX8_write 40 = .ok (.iload_n 3, 1) := by decide +kernel
theorem dX8_write_41 : decode cX8_write 41 = .ok (.iadd, 1) := by decide +kernel
theorem dX8_write_42 : decode cX8_write 42 = .ok (.iload 7, 2) := by decide +kernel
theorem dX8_write_44 : decode cX8_write 44 = .ok (.ifCond .ne 11, 3) := by decide +kernel
theorem dX8_write_47 : decode cX8_write 47 = .ok (.lload 4, 2) := by decide +kernel
theorem dX8_write_49 : decode cX8_write 49 = .ok (.l2i, 1) := by decide +kernel
theorem dX8_write_50 : decode cX8_write 50 = .ok (.i2b, 1) := by decide +kernel
theorem dX8_write_51 : decode cX8_write 51 = .ok (.i2l, 1) := by decide +kernel
theorem dX8_write_52 : decode cX8_write 52 = .ok (.goto 32, 3) := by decide +kernel
theorem dX8_write_55 : decode cX8_write 55 = .ok (.iload 7, 2) := by decide +kernel
theorem dX8_write_57 : decode cX8_write 57 = .ok (.iconst 1, 1) := by decide +kernel
theorem dX8_write_58 : decode cX8_write 58 = .ok (.if_icmp .ne 11, 3) := by decide +kernel
theorem dX8_write_61 : decode cX8_write 61 = .ok (.lload 4, 2) := by decide +kernel
theorem dX8_write_63 : decode cX8_write 63 = .ok (.l2i, 1) := by decide +kernel
theorem dX8_write_64 : decode cX8_write 64 = .ok (.i2s, 1) := by decide +kernel
theorem dX8_write_65 : decode cX8_write 65 = .ok (.i2l, 1) := by decide +kernel
theorem dX8_write_66 : decode cX8_write 66 = .ok (.goto 18, 3) := by decide +kernel
theorem dX8_write_69 : decode cX8_write 69 = .ok (.iload 7, 2) := by decide +kernel
theorem dX8_write_71 : decode cX8_write 71 = .ok (.iconst 2, 1) := by decide +kernel
theorem dX8_write_72 : decode cX8_write 72 = .ok (.if_icmp .ne 10, 3) := by decide +kernel
theorem dX8_write_75 : decode cX8_write 75 = .ok (.lload 4, 2) := by decide +kernel
theorem dX8_write_77 : decode cX8_write 77 = .ok (.l2i, 1) := by decide +kernel
theorem dX8_write_78 : decode cX8_write 78 = .ok (.i2l, 1) := by decide +kernel
theorem dX8_write_79 : decode cX8_write 79 = .ok (.goto 5, 3) := by decide +kernel
theorem dX8_write_82 : decode cX8_write 82 = .ok (.lload 4, 2) := by decide +kernel
theorem dX8_write_84 : decode cX8_write 84 = .ok (.lastore, 1) := by decide +kernel
theorem dX8_write_85 : decode cX8_write 85 = .ok (.iload 6, 2) := by decide +kernel
theorem dX8_write_87 : decode cX8_write 87 = .ok (.ireturn, 1) := by decide +kernel
theorem dX8_read_0 : decode cX8_read 0 = .ok (.aload_n 0, 1) := by decide +kernel
theorem dX8_read_1 : decode cX8_read 1 = .ok (.iload_n 1, 1) := by decide +kernel
theorem dX8_read_2 : decode cX8_read 2 = .ok (.iload_n 2, 1) := by decide +kernel
theorem dX8_read_3 : decode cX8_read 3 = .ok (.iload_n 3, 1) := by decide +kernel
theorem dX8_read_4 : decode cX8_read 4 = .ok (.invokevirtual 195, 3) := by decide +kernel
theorem dX8_read_7 : decode cX8_read 7 = .ok (.ifCond .ne 22, 3) := by decide +kernel
theorem dX8_read_10 : decode cX8_read 10 = .ok (.aload_n 0, 1) := by decide +kernel
theorem dX8_read_11 : decode cX8_read 11 = .ok (.getfield 72, 3) := by decide +kernel
theorem dX8_read_14 : decode cX8_read 14 = .ok (.bipush 100, 2) := by decide +kernel
theorem dX8_read_16 : decode cX8_read 16 = .ok (.bipush 8, 2) := by decide +kernel
theorem dX8_read_18 : decode cX8_read 18 = .ok (.iload_n 1, 1) := by decide +kernel
theorem dX8_read_19 : decode cX8_read 19 = .ok (.imul, 1) := by decide +kernel
theorem dX8_read_20 : decode cX8_read 20 = .ok (.iload_n 2, 1) := by decide +kernel
theorem dX8_read_21 : decode cX8_read 21 = .ok (.iadd, 1) := by decide +kernel
theorem dX8_read_22 : decode cX8_read 22 = .ok (.imul, 1) := by decide +kernel
theorem dX8_read_23 : decode cX8_read 23 = .ok (.iload_n 3, 1) := by decide +kernel
theorem dX8_read_24 : decode cX8_read 24 = .ok (.iadd, 1) := by decide +kernel
theorem dX8_read_25 : decode cX8_read 25 = .ok (.laload, 1) := by decide +kernel
theorem dX8_read_26 : decode cX8_read 26 = .ok (.goto 4, 3) := by decide +kernel
theorem dX8_read_29 : decode cX8_read 29 = .ok (.lconst 0, 1) := by decide +kernel
theorem dX8_read_30 : decode cX8_read 30 = .ok (.lreturn, 1) := by decide +kernel
theorem dX8_size_0 : decode cX8_size 0 = .ok (.aload_n 0, 1) := by decide +kernel
theorem dX8_size_1 : decode cX8_size 1 = .ok (.iload_n 1, 1) := by decide +kernel
theorem dX8_size_2 : decode cX8_size 2 = .ok (.iload_n 2, 1) := by decide +kernel
theorem dX8_size_3 : decode cX8_size 3 = .ok (.invokevirtual 192, 3) := by decide +kernel
theorem dX8_size_6 : decode cX8_size 6 = .ok (.ifCond .ne 8, 3) := by decide +kernel
theorem dX8_size_9 : decode cX8_size 9 = .ok (.bipush (-2), 2) := by decide +kernel
theorem dX8_size_11 : decode cX8_size 11 = .ok (.goto 33, 3) := by decide +kernel
theorem dX8_size_14 : decode cX8_size 14 = .ok (.aload_n 0, 1) := by decide +kernel
theorem dX8_size_15 : decode cX8_size 15 = .ok (.getfield 69, 3) := by decide +kernel
theorem dX8_size_18 : decode cX8_size 18 = .ok (.bipush 8, 2) := by decide +kernel
theorem dX8_size_20 : decode cX8_size 20 = .ok (.iload_n 1, 1) := by decide +kernel
theorem dX8_size_21 : decode cX8_size 21 = .ok (.imul, 1) := by decide +kernel
theorem dX8_size_22 : decode cX8_size 22 = .ok (.iload_n 2, 1) := by decide +kernel
theorem dX8_size_23 : decode cX8_size 23 = .ok (.iadd, 1) := by decide +kernel
theorem dX8_size_24 : decode cX8_size 24 = .ok (.iaload, 1) := by decide +kernel
theorem dX8_size_25 : decode cX8_size 25 = .ok (.ifCond .ge 8, 3) := by decide +kernel
theorem dX8_size_28 : decode cX8_size 28 = .ok (.bipush (-5), 2) := by decide +kernel
theorem dX8_size_30 : decode cX8_size 30 = .ok (.goto 14, 3) := by decide +kernel
theorem dX8_size_33 : decode cX8_size 33 = .ok (.aload_n 0, 1) := by decide +kernel
theorem dX8_size_34 : decode cX8_size 34 = .ok (.getfield 69, 3) := by decide +kernel
theorem dX8_size_37 : decode cX8_size 37 = .ok (.bipush 8, 2) := by decide +kernel
theorem dX8_size_39 : decode cX8_size 39 = .ok (.iload_n 1, 1) := by decide +kernel
theorem dX8_size_40 : decode cX8_size 40 = .ok (.imul, 1) := by decide +kernel
theorem dX8_size_41 : decode cX8_size 41 = .ok (.iload_n 2, 1) := by decide +kernel
theorem dX8_size_42 : decode cX8_size 42 = .ok (.iadd, 1) := by decide +kernel
theorem dX8_size_43 : decode cX8_size 43 = .ok (.iaload, 1) := by decide +kernel
theorem dX8_size_44 : decode cX8_size 44 = .ok (.ireturn, 1) := by decide +kernel
theorem dX8_copy_0 : decode cX8_copy 0 = .ok (.aload_n 0, 1) := by decide +kernel
theorem dX8_copy_1 : decode cX8_copy 1 = .ok (.iload_n 1, 1) := by decide +kernel
theorem dX8_copy_2 : decode cX8_copy 2 = .ok (.iload_n 2, 1) := by decide +kernel
theorem dX8_copy_3 : decode cX8_copy 3 = .ok (.invokevirtual 192, 3) := by decide +kernel
theorem dX8_copy_6 : decode cX8_copy 6 = .ok (.ifCond .eq 14, 3) := by decide +kernel
theorem dX8_copy_9 : decode cX8_copy 9 = .ok (.aload_n 0, 1) := by decide +kernel
theorem dX8_copy_10 : decode cX8_copy 10 = .ok (.iload 4, 2) := by decide +kernel
theorem dX8_copy_12 : decode cX8_copy 12 = .ok (.iload 5, 2) := by decide +kernel
theorem dX8_copy_14 : decode cX8_copy 14 = .ok (.invokevirtual 192, 3) := by decide +kernel
theorem dX8_copy_17 : decode cX8_copy 17 = .ok (.ifCond .ne 6, 3) := by decide +kernel
theorem dX8_copy_20 : decode cX8_copy 20 = .ok (.bipush (-2), 2) := by decide +kernel
theorem dX8_copy_22 : decode cX8_copy 22 = .ok (.ireturn, 1) := by decide +kernel
theorem dX8_copy_23 : decode cX8_copy 23 = .ok (.bipush 8, 2) := by decide +kernel
theorem dX8_copy_25 : decode cX8_copy 25 = .ok (.iload_n 1, 1) := by decide +kernel
theorem dX8_copy_26 : decode cX8_copy 26 = .ok (.imul, 1) := by decide +kernel
theorem dX8_copy_27 : decode cX8_copy 27 = .ok (.iload_n 2, 1) := by decide +kernel
theorem dX8_copy_28 : decode cX8_copy 28 = .ok (.iadd, 1) := by decide +kernel
theorem dX8_copy_29 : decode cX8_copy 29 = .ok (.istore 8, 2) := by decide +kernel
theorem dX8_copy_31 : decode cX8_copy 31 = .ok (.bipush 8, 2) := by decide +kernel
theorem dX8_copy_33 : decode cX8_copy 33 = .ok (.iload 4, 2) := by decide +kernel
theorem dX8_copy_35 : decode cX8_copy 35 = .ok (.imul, 1) := by decide +kernel
theorem dX8_copy_36 : decode cX8_copy 36 = .ok (.iload 5, 2) := by decide +kernel
theorem dX8_copy_38 : decode cX8_copy 38 = .ok (.iadd, 1) := by decide +kernel
theorem dX8_copy_39 : decode cX8_copy 39 = .ok (.istore 9, 2) := by decide +kernel
theorem dX8_copy_41 : decode cX8_copy 41 = .ok (.aload_n 0, 1) := by decide +kernel
theorem dX8_copy_42 : decode cX8_copy 42 = .ok (.getfield 69, 3) := by decide +kernel
theorem dX8_copy_45 : decode cX8_copy 45 = .ok (.iload 8, 2) := by decide +kernel
theorem dX8_copy_47 : decode cX8_copy 47 = .ok (.iaload, 1) := by decide +kernel
theorem dX8_copy_48 : decode cX8_copy 48 = .ok (.ifCond .lt 13, 3) := by decide +kernel
theorem dX8_copy_51 : decode cX8_copy 51 = .ok (.aload_n 0, 1) := by decide +kernel
theorem dX8_copy_52 : decode cX8_copy 52 = .ok (.getfield 69, 3) := by decide +kernel
theorem dX8_copy_55 : decode cX8_copy 55 = .ok (.iload 9, 2) := by decide +kernel
theorem dX8_copy_57 : decode cX8_copy 57 = .ok (.iaload, 1) := by decide +kernel
theorem dX8_copy_58 : decode cX8_copy 58 = .ok (.ifCond .ge 6, 3) := by decide +kernel
theorem dX8_copy_61 : decode cX8_copy 61 = .ok (.bipush (-5), 2) := by decide +kernel
theorem dX8_copy_63 : decode cX8_copy 63 = .ok (.ireturn, 1) := by decide +kernel
theorem dX8_copy_64 : decode cX8_copy 64 = .ok (.aload_n 0, 1) := by decide +kernel
theorem dX8_copy_65 : decode cX8_copy 65 = .ok (.getfield 66, 3) := by decide +kernel
theorem dX8_copy_68 : decode cX8_copy 68 = .ok (.iload 8, 2) := by decide +kernel
theorem dX8_copy_70 : decode cX8_copy 70 = .ok (.iaload, 1) := by decide +kernel
theorem dX8_copy_71 : decode cX8_copy 71 = .ok (.aload_n 0, 1) := by decide +kernel
theorem dX8_copy_72 : decode cX8_copy 72 = .ok (.getfield 66, 3) := by decide +kernel
theorem dX8_copy_75 : decode cX8_copy 75 = .ok (.iload 9, 2) := by decide +kernel
theorem dX8_copy_77 : decode cX8_copy 77 = .ok (.iaload, 1) := by decide +kernel
theorem dX8_copy_78 : decode cX8_copy 78 = .ok (.if_icmp .eq 6, 3) := by decide +kernel
theorem dX8_copy_81 : decode cX8_copy 81 = .ok (.bipush (-7), 2) := by decide +kernel
theorem dX8_copy_83 : decode cX8_copy 83 = .ok (.ireturn, 1) := by decide +kernel
theorem dX8_copy_84 : decode cX8_copy 84 = .ok (.iload_n 3, 1) := by decide +kernel
theorem dX8_copy_85 : decode cX8_copy 85 = .ok (.ifCond .lt 50, 3) := by decide +kernel
theorem dX8_copy_88 : decode cX8_copy 88 = .ok (.iload 6, 2) := by decide +kernel
theorem dX8_copy_90 : decode cX8_copy 90 = .ok (.ifCond .lt 45, 3) := by decide +kernel
theorem dX8_copy_93 : decode cX8_copy 93 = .ok (.iload 7, 2) := by decide +kernel
theorem dX8_copy_95 : decode cX8_copy 95 = .ok (.ifCond .lt 40, 3) := by decide +kernel
theorem dX8_copy_98 : decode cX8_copy 98 = .ok (.iload_n 3, 1) := by decide +kernel
theorem dX8_copy_99 : decode cX8_copy 99 = .ok (.i2l, 1) := by decide +kernel
theorem dX8_copy_100 : decode cX8_copy 100 = .ok (.iload 7, 2) := by decide +kernel
theorem dX8_copy_102 : decode cX8_copy 102 = .ok (.i2l, 1) := by decide +kernel
theorem dX8_copy_103 : decode cX8_copy 103 = .ok (.ladd, 1) := by decide +kernel
theorem dX8_copy_104 : decode cX8_copy 104 = .ok (.aload_n 0, 1) := by decide +kernel
theorem dX8_copy_105 : decode cX8_copy 105 = .ok (.getfield 69, 3) := by decide +kernel
theorem dX8_copy_108 : decode cX8_copy 108 = .ok (.iload 8, 2) := by decide +kernel
theorem dX8_copy_110 : decode cX8_copy 110 = .ok (.iaload, 1) := by decide +kernel
theorem dX8_copy_111 : decode cX8_copy 111 = .ok (.i2l, 1) := by decide +kernel
theorem dX8_copy_112 : decode cX8_copy 112 = .ok (.lcmp, 1) := by decide +kernel
theorem dX8_copy_113 : decode cX8_copy 113 = .ok (.ifCond .gt 22, 3) := by decide +kernel
theorem dX8_copy_116 : decode cX8_copy 116 = .ok (.iload 6, 2) := by decide +kernel
theorem dX8_copy_118 : decode cX8_copy 118 = .ok (.i2l, 1) := by decide +kernel
theorem dX8_copy_119 : decode cX8_copy 119 = .ok (.iload 7, 2) := by decide +kernel
theorem dX8_copy_121 : decode cX8_copy 121 = .ok (.i2l, 1) := by decide +kernel
theorem dX8_copy_122 : decode cX8_copy 122 = .ok (.ladd, 1) := by decide +kernel
theorem dX8_copy_123 : decode cX8_copy 123 = .ok (.aload_n 0, 1) := by decide +kernel
theorem dX8_copy_124 : decode cX8_copy 124 = .ok (.getfield 69, 3) := by decide +kernel
theorem dX8_copy_127 : decode cX8_copy 127 = .ok (.iload 9, 2) := by decide +kernel
theorem dX8_copy_129 : decode cX8_copy 129 = .ok (.iaload, 1) := by decide +kernel
theorem dX8_copy_130 : decode cX8_copy 130 = .ok (.i2l, 1) := by decide +kernel
theorem dX8_copy_131 : decode cX8_copy 131 = .ok (.lcmp, 1) := by decide +kernel
theorem dX8_copy_132 : decode cX8_copy 132 = .ok (.ifCond .le 6, 3) := by decide +kernel
theorem dX8_copy_135 : decode cX8_copy 135 = .ok (.bipush (-6), 2) := by decide +kernel
theorem dX8_copy_137 : decode cX8_copy 137 = .ok (.ireturn, 1) := by decide +kernel
theorem dX8_copy_138 : decode cX8_copy 138 = .ok (.iconst 0, 1) := by decide +kernel
theorem dX8_copy_139 : decode cX8_copy 139 = .ok (.istore 10, 2) := by decide +kernel
theorem dX8_copy_141 : decode cX8_copy 141 = .ok (.iload 10, 2) := by decide +kernel
theorem dX8_copy_143 : decode cX8_copy 143 = .ok (.iload 7, 2) := by decide +kernel
theorem dX8_copy_145 : decode cX8_copy 145 = .ok (.if_icmp .ge 31, 3) := by decide +kernel
theorem dX8_copy_148 : decode cX8_copy 148 = .ok (.aload_n 0, 1) := by decide +kernel
theorem dX8_copy_149 : decode cX8_copy 149 = .ok (.getfield 75, 3) := by decide +kernel
theorem dX8_copy_152 : decode cX8_copy 152 = .ok (.iload 10, 2) := by decide +kernel
theorem dX8_copy_154 : decode cX8_copy 154 = .ok (.aload_n 0, 1) := by decide +kernel
theorem dX8_copy_155 : decode cX8_copy 155 = .ok (.getfield 72, 3) := by decide +kernel
theorem dX8_copy_158 : decode cX8_copy 158 = .ok (.bipush 100, 2) := by decide +kernel
theorem dX8_copy_160 : decode cX8_copy 160 = .ok (.iload 8, 2) := by decide +kernel
theorem dX8_copy_162 : decode cX8_copy 162 = .ok (.imul, 1) := by decide +kernel
theorem dX8_copy_163 : decode cX8_copy 163 = .ok (.iload_n 3, 1) := by decide +kernel
theorem dX8_copy_164 : decode cX8_copy 164 = .ok (.iadd, 1) := by decide +kernel
theorem dX8_copy_165 : decode cX8_copy 165 = .ok (.iload 10, 2) := by decide +kernel
theorem dX8_copy_167 : decode cX8_copy 167 = .ok (.iadd, 1) := by decide +kernel
theorem dX8_copy_168 : decode cX8_copy 168 = .ok (.laload, 1) := by decide +kernel
theorem dX8_copy_169 : decode cX8_copy 169 = .ok (.lastore, 1) := by decide +kernel
theorem dX8_copy_170 : decode cX8_copy 170 = .ok (.iinc 10 1, 3) := by decide +kernel
theorem dX8_copy_173 : decode cX8_copy 173 = .ok (.goto (-32), 3) := by decide +kernel
theorem dX8_copy_176 : decode cX8_copy 176 = .ok (.iconst 0, 1) := by decide +kernel
theorem dX8_copy_177 : decode cX8_copy 177 = .ok (.istore 10, 2) := by decide +kernel
theorem dX8_copy_179 : decode cX8_copy 179 = .ok (.iload 10, 2) := by decide +kernel
theorem dX8_copy_181 : decode cX8_copy 181 = .ok (.iload 7, 2) := by decide +kernel
theorem dX8_copy_183 : decode cX8_copy 183 = .ok (.if_icmp .ge 32, 3) := by decide +kernel
theorem dX8_copy_186 : decode cX8_copy 186 = .ok (.aload_n 0, 1) := by decide +kernel
theorem dX8_copy_187 : decode cX8_copy 187 = .ok (.getfield 72, 3) := by decide +kernel
theorem dX8_copy_190 : decode cX8_copy 190 = .ok (.bipush 100, 2) := by decide +kernel
theorem dX8_copy_192 : decode cX8_copy 192 = .ok (.iload 9, 2) := by decide +kernel
theorem dX8_copy_194 : decode cX8_copy 194 = .ok (.imul, 1) := by decide +kernel
theorem dX8_copy_195 : decode cX8_copy 195 = .ok (.iload 6, 2) := by decide +kernel
theorem dX8_copy_197 : decode cX8_copy 197 = .ok (.iadd, 1) := by decide +kernel
theorem dX8_copy_198 : decode cX8_copy 198 = .ok (.iload 10, 2) := by decide +kernel
theorem dX8_copy_200 : decode cX8_copy 200 = .ok (.iadd, 1) := by decide +kernel
theorem dX8_copy_201 : decode cX8_copy 201 = .ok (.aload_n 0, 1) := by decide +kernel
theorem dX8_copy_202 : decode cX8_copy 202 = .ok (.getfield 75, 3) := by decide +kernel
theorem dX8_copy_205 : decode cX8_copy 205 = .ok (.iload 10, 2) := by decide +kernel
theorem dX8_copy_207 : decode cX8_copy 207 = .ok (.laload, 1) := by decide +kernel
theorem dX8_copy_208 : decode cX8_copy 208 = .ok (.lastore, 1) := by decide +kernel
theorem dX8_copy_209 : decode cX8_copy 209 = .ok (.iinc 10 1, 3) := by decide +kernel
theorem dX8_copy_212 : decode cX8_copy 212 = .ok (.goto (-33), 3) := by decide +kernel
theorem dX8_copy_215 : decode cX8_copy 215 = .ok (.iconst 0, 1) := by decide +kernel
theorem dX8_copy_216 : decode cX8_copy 216 = .ok (.ireturn, 1) := by decide +kernel
theorem dX8_count_0 : decode cX8_count 0 = .ok (.iload_n 1, 1) := by decide +kernel
theorem dX8_count_1 : decode cX8_count 1 = .ok (.bipush 10, 2) := by decide +kernel
theorem dX8_count_3 : decode cX8_count 3 = .ok (.if_icmp .ge 52, 3) := by decide +kernel
theorem dX8_count_6 : decode cX8_count 6 = .ok (.iload_n 1, 1) := by decide +kernel
theorem dX8_count_7 : decode cX8_count 7 = .ok (.ifCond .ne 10, 3) := by decide +kernel
theorem dX8_count_10 : decode cX8_count 10 = .ok (.aload_n 0, 1) := by decide +kernel
theorem dX8_count_11 : decode cX8_count 11 = .ok (.getfield 78, 3) := by decide +kernel
theorem dX8_count_14 : decode cX8_count 14 = .ok (.goto 40, 3) := by decide +kernel
theorem dX8_count_17 : decode cX8_count 17 = .ok (.iload_n 1, 1) := by decide +kernel
theorem dX8_count_18 : decode cX8_count 18 = .ok (.iconst 1, 1) := by decide +kernel
theorem dX8_count_19 : decode cX8_count 19 = .ok (.if_icmp .ne 10, 3) := by decide +kernel
theorem dX8_count_22 : decode cX8_count 22 = .ok (.aload_n 0, 1) := by decide +kernel
theorem dX8_count_23 : decode cX8_count 23 = .ok (.getfield 82, 3) := by decide +kernel
theorem dX8_count_26 : decode cX8_count 26 = .ok (.goto 28, 3) := by decide +kernel
theorem dX8_count_29 : decode cX8_count 29 = .ok (.iload_n 1, 1) := by decide +kernel
theorem dX8_count_30 : decode cX8_count 30 = .ok (.iconst 2, 1) := by decide +kernel
theorem dX8_count_31 : decode cX8_count 31 = .ok (.if_icmp .ne 10, 3) := by decide +kernel
theorem dX8_count_34 : decode cX8_count 34 = .ok (.aload_n 0, 1) := by decide +kernel
theorem dX8_count_35 : decode cX8_count 35 = .ok (.getfield 89, 3) := by decide +kernel
theorem dX8_count_38 : decode cX8_count 38 = .ok (.goto 16, 3) := by decide +kernel
theorem dX8_count_41 : decode cX8_count 41 = .ok (.iload_n 1, 1) := by decide +kernel
theorem dX8_count_42 : decode cX8_count 42 = .ok (.iconst 3, 1) := by decide +kernel
theorem dX8_count_43 : decode cX8_count 43 = .ok (.if_icmp .ne 10, 3) := by decide +kernel
theorem dX8_count_46 : decode cX8_count 46 = .ok (.aload_n 0, 1) := by decide +kernel
theorem dX8_count_47 : decode cX8_count 47 = .ok (.getfield 98, 3) := by decide +kernel
theorem dX8_count_50 : decode cX8_count 50 = .ok (.goto 4, 3) := by decide +kernel
theorem dX8_count_53 : decode cX8_count 53 = .ok (.iconst (-1), 1) := by decide +kernel
theorem dX8_count_54 : decode cX8_count 54 = .ok (.ireturn, 1) := by decide +kernel
theorem dX8_count_55 : decode cX8_count 55 = .ok (.iload_n 1, 1) := by decide +kernel
theorem dX8_count_56 : decode cX8_count 56 = .ok (.bipush 10, 2) := by decide +kernel
theorem dX8_count_58 : decode cX8_count 58 = .ok (.idiv, 1) := by decide +kernel
theorem dX8_count_59 : decode cX8_count 59 = .ok (.iconst 1, 1) := by decide +kernel
theorem dX8_count_60 : decode cX8_count 60 = .ok (.isub, 1) := by decide +kernel
theorem dX8_count_61 : decode cX8_count 61 = .ok (.istore_n 2, 1) := by decide +kernel
theorem dX8_count_62 : decode cX8_count 62 = .ok (.aload_n 0, 1) := by decide +kernel
theorem dX8_count_63 : decode cX8_count 63 = .ok (.iload_n 2, 1) := by decide +kernel
theorem dX8_count_64 : decode cX8_count 64 = .ok (.invokevirtual 85, 3) := by decide +kernel
theorem dX8_count_67 : decode cX8_count 67 = .ok (.ifCond .ne 5, 3) := by decide +kernel
theorem dX8_count_70 : decode cX8_count 70 = .ok (.iconst (-1), 1) := by decide +kernel
theorem dX8_count_71 : decode cX8_count 71 = .ok (.ireturn, 1) := by decide +kernel
theorem dX8_count_72 : decode cX8_count 72 = .ok (.iload_n 1, 1) := by decide +kernel
theorem dX8_count_73 : decode cX8_count 73 = .ok (.bipush 10, 2) := by decide +kernel
theorem dX8_count_75 : decode cX8_count 75 = .ok (.irem, 1) := by decide +kernel
theorem dX8_count_76 : decode cX8_count 76 = .ok (.tableswitch 71 0 4 #[36, 43, 50, 57, 64], 36) := by decide +kernel
theorem dX8_count_112 : decode cX8_count 112 = .ok (.aload_n 0, 1) := by decide +kernel
theorem dX8_count_113 : decode cX8_count 113 = .ok (.getfield 7, 3) := by decide +kernel
theorem dX8_count_116 : decode cX8_count 116 = .ok (.iload_n 2, 1) := by decide +kernel
theorem dX8_count_117 : decode cX8_count 117 = .ok (.iaload, 1) := by decide +kernel
theorem dX8_count_118 : decode cX8_count 118 = .ok (.ireturn, 1) := by decide +kernel
theorem dX8_count_119 : decode cX8_count 119 = .ok (.aload_n 0, 1) := by decide +kernel
theorem dX8_count_120 : decode cX8_count 120 = .ok (.getfield 13, 3) := by decide +kernel
theorem dX8_count_123 : decode cX8_count 123 = .ok (.iload_n 2, 1) := by decide +kernel
theorem dX8_count_124 : decode cX8_count 124 = .ok (.iaload, 1) := by decide +kernel
theorem dX8_count_125 : decode cX8_count 125 = .ok (.ireturn, 1) := by decide +kernel
theorem dX8_count_126 : decode cX8_count 126 = .ok (.aload_n 0, 1) := by decide +kernel
theorem dX8_count_127 : decode cX8_count 127 = .ok (.getfield 16, 3) := by decide +kernel
theorem dX8_count_130 : decode cX8_count 130 = .ok (.iload_n 2, 1) := by decide +kernel
theorem dX8_count_131 : decode cX8_count 131 = .ok (.iaload, 1) := by decide +kernel
theorem dX8_count_132 : decode cX8_count 132 = .ok (.ireturn, 1) := by decide +kernel
theorem dX8_count_133 : decode cX8_count 133 = .ok (.aload_n 0, 1) := by decide +kernel
theorem dX8_count_134 : decode cX8_count 134 = .ok (.getfield 19, 3) := by decide +kernel
theorem dX8_count_137 : decode cX8_count 137 = .ok (.iload_n 2, 1) := by decide +kernel
theorem dX8_count_138 : decode cX8_count 138 = .ok (.iaload, 1) := by decide +kernel
theorem dX8_count_139 : decode cX8_count 139 = .ok (.ireturn, 1) := by decide +kernel
theorem dX8_count_140 : decode cX8_count 140 = .ok (.aload_n 0, 1) := by decide +kernel
theorem dX8_count_141 : decode cX8_count 141 = .ok (.getfield 63, 3) := by decide +kernel
theorem dX8_count_144 : decode cX8_count 144 = .ok (.iload_n 2, 1) := by decide +kernel
theorem dX8_count_145 : decode cX8_count 145 = .ok (.iaload, 1) := by decide +kernel
theorem dX8_count_146 : decode cX8_count 146 = .ok (.ireturn, 1) := by decide +kernel
theorem dX8_count_147 : decode cX8_count 147 = .ok (.iconst (-1), 1) := by decide +kernel
theorem dX8_count_148 : decode cX8_count 148 = .ok (.ireturn, 1) := by decide +kernel
theorem dL_law_0 : decode cL_law 0 = .ok (.new 7, 3) := by decide +kernel
theorem dL_law_3 : decode cL_law 3 = .ok (.dup, 1) := by decide +kernel
theorem dL_law_4 : decode cL_law 4 = .ok (.invokespecial 9, 3) := by decide +kernel
theorem dL_law_7 : decode cL_law 7 = .ok (.astore_n 1, 1) := by decide +kernel
theorem dL_law_8 : decode cL_law 8 = .ok (.new 10, 3) := by decide +kernel
theorem dL_law_11 : decode cL_law 11 = .ok (.dup, 1) := by decide +kernel
theorem dL_law_12 : decode cL_law 12 = .ok (.invokespecial 12, 3) := by decide +kernel
theorem dL_law_15 : decode cL_law 15 = .ok (.astore_n 2, 1) := by decide +kernel
theorem dL_law_16 : decode cL_law 16 = .ok (.iconst 0, 1) := by decide +kernel
theorem dL_law_17 : decode cL_law 17 = .ok (.istore_n 3, 1) := by decide +kernel
theorem dL_law_18 : decode cL_law 18 = .ok (.iload_n 3, 1) := by decide +kernel
theorem dL_law_19 : decode cL_law 19 = .ok (.aload_n 0, 1) := by decide +kernel
theorem dL_law_20 : decode cL_law 20 = .ok (.arraylength, 1) := by decide +kernel
theorem dL_law_21 : decode cL_law 21 = .ok (.bipush 8, 2) := by decide +kernel
theorem dL_law_23 : decode cL_law 23 = .ok (.isub, 1) := by decide +kernel
theorem dL_law_24 : decode cL_law 24 = .ok (.if_icmp .gt 1630, 3) := by decide +kernel
theorem dL_law_27 : decode cL_law 27 = .ok (.aload_n 0, 1) := by decide +kernel
theorem dL_law_28 : decode cL_law 28 = .ok (.iload_n 3, 1) := by decide +kernel
theorem dL_law_29 : decode cL_law 29 = .ok (.iaload, 1) := by decide +kernel
theorem dL_law_30 : decode cL_law 30 = .ok (.bipush 31, 2) := by decide +kernel
theorem dL_law_32 : decode cL_law 32 = .ok (.iand, 1) := by decide +kernel
theorem dL_law_33 : decode cL_law 33 = .ok (.tableswitch 1615 0 31 #[143, 156, 209, 252, 275, 308, 341, 374, 427, 486, 519, 572, 605, 674, 727, 740, 815, 890, 977, 1030, 1083, 1126, 1149, 1212, 1245, 1269, 1312, 1345, 1428, 1472, 1505, 1592], 143) := by decide +kernel
theorem dL_law_176 : decode cL_law 176 = .ok (.aload_n 1, 1) := by decide +kernel
theorem dL_law_177 : decode cL_law 177 = .ok (.invokevirtual 13, 3) := by decide +kernel
theorem dL_law_180 : decode cL_law 180 = .ok (.aload_n 2, 1) := by decide +kernel
theorem dL_law_181 : decode cL_law 181 = .ok (.invokevirtual 17, 3) := by decide +kernel
theorem dL_law_184 : decode cL_law 184 = .ok (.if_icmp .eq 1464, 3) := by decide +kernel
theorem dL_law_187 : decode cL_law 187 = .ok (.iconst 0, 1) := by decide +kernel
theorem dL_law_188 : decode cL_law 188 = .ok (.ireturn, 1) := by decide +kernel
theorem dL_law_189 : decode cL_law 189 = .ok (.aload_n 1, 1) := by decide +kernel
theorem dL_law_190 : decode cL_law 190 = .ok (.aload_n 0, 1) := by decide +kernel
theorem dL_law_191 : decode cL_law 191 = .ok (.iload_n 3, 1) := by decide +kernel
theorem dL_law_192 : decode cL_law 192 = .ok (.iconst 1, 1) := by decide +kernel
theorem dL_law_193 : decode cL_law 193 = .ok (.iadd, 1) := by decide +kernel
theorem dL_law_194 : decode cL_law 194 = .ok (.iaload, 1) := by decide +kernel
theorem dL_law_195 : decode cL_law 195 = .ok (.aload_n 0, 1) := by decide +kernel
theorem dL_law_196 : decode cL_law 196 = .ok (.iload_n 3, 1) := by decide +kernel
theorem dL_law_197 : decode cL_law 197 = .ok (.iconst 2, 1) := by decide +kernel
theorem dL_law_198 : decode cL_law 198 = .ok (.iadd, 1) := by decide +kernel
theorem dL_law_199 : decode cL_law 199 = .ok (.iaload, 1) := by decide +kernel
theorem dL_law_200 : decode cL_law 200 = .ok (.aload_n 0, 1) := by decide +kernel
theorem dL_law_201 : decode cL_law 201 = .ok (.iload_n 3, 1) := by decide +kernel
theorem dL_law_202 : decode cL_law 202 = .ok (.iconst 3, 1) := by decide +kernel
theorem dL_law_203 : decode cL_law 203 = .ok (.iadd, 1) := by decide +kernel
theorem dL_law_204 : decode cL_law 204 = .ok (.iaload, 1) := by decide +kernel
theorem dL_law_205 : decode cL_law 205 = .ok (.aload_n 0, 1) := by decide +kernel
theorem dL_law_206 : decode cL_law 206 = .ok (.iload_n 3, 1) := by decide +kernel
theorem dL_law_207 : decode cL_law 207 = .ok (.iconst 4, 1) := by decide +kernel
theorem dL_law_208 : decode cL_law 208 = .ok (.iadd, 1) := by decide +kernel
theorem dL_law_209 : decode cL_law 209 = .ok (.iaload, 1) := by decide +kernel
theorem dL_law_210 : decode cL_law 210 = .ok (.invokevirtual 18, 3) := by decide +kernel
theorem dL_law_213 : decode cL_law 213 = .ok (.aload_n 2, 1) := by decide +kernel
theorem dL_law_214 : decode cL_law 214 = .ok (.aload_n 0, 1) := by decide +kernel
theorem dL_law_215 : decode cL_law 215 = .ok (.iload_n 3, 1) := by decide +kernel
theorem dL_law_216 : decode cL_law 216 = .ok (.iconst 1, 1) := by decide +kernel
theorem dL_law_217 : decode cL_law 217 = .ok (.iadd, 1) := by decide +kernel
theorem dL_law_218 : decode cL_law 218 = .ok (.iaload, 1) := by decide +kernel
theorem dL_law_219 : decode cL_law 219 = .ok (.aload_n 0, 1) := by decide +kernel
theorem dL_law_220 : decode cL_law 220 = .ok (.iload_n 3, 1) := by decide +kernel
theorem dL_law_221 : decode cL_law 221 = .ok (.iconst 2, 1) := by decide +kernel
theorem dL_law_222 : decode cL_law 222 = .ok (.iadd, 1) := by decide +kernel
theorem dL_law_223 : decode cL_law 223 = .ok (.iaload, 1) := by decide +kernel
theorem dL_law_224 : decode cL_law 224 = .ok (.aload_n 0, 1) := by decide +kernel
theorem dL_law_225 : decode cL_law 225 = .ok (.iload_n 3, 1) := by decide +kernel
theorem dL_law_226 : decode cL_law 226 = .ok (.iconst 3, 1) := by decide +kernel
theorem dL_law_227 : decode cL_law 227 = .ok (.iadd, 1) := by decide +kernel
theorem dL_law_228 : decode cL_law 228 = .ok (.iaload, 1) := by decide +kernel
theorem dL_law_229 : decode cL_law 229 = .ok (.aload_n 0, 1) := by decide +kernel
theorem dL_law_230 : decode cL_law 230 = .ok (.iload_n 3, 1) := by decide +kernel
theorem dL_law_231 : decode cL_law 231 = .ok (.iconst 4, 1) := by decide +kernel
theorem dL_law_232 : decode cL_law 232 = .ok (.iadd, 1) := by decide +kernel
theorem dL_law_233 : decode cL_law 233 = .ok (.iaload, 1) := by decide +kernel
theorem dL_law_234 : decode cL_law 234 = .ok (.invokevirtual 22, 3) := by decide +kernel
theorem dL_law_237 : decode cL_law 237 = .ok (.if_icmp .eq 1411, 3) := by decide +kernel
theorem dL_law_240 : decode cL_law 240 = .ok (.iconst 0, 1) := by decide +kernel
theorem dL_law_241 : decode cL_law 241 = .ok (.ireturn, 1) := by decide +kernel
theorem dL_law_242 : decode cL_law 242 = .ok (.aload_n 1, 1) := by decide +kernel
theorem dL_law_243 : decode cL_law 243 = .ok (.aload_n 0, 1) := by decide +kernel
theorem dL_law_244 : decode cL_law 244 = .ok (.iload_n 3, 1) := by decide +kernel
theorem dL_law_245 : decode cL_law 245 = .ok (.iconst 1, 1) := by decide +kernel
theorem dL_law_246 : decode cL_law 246 = .ok (.iadd, 1) := by decide +kernel
theorem dL_law_247 : decode cL_law 247 = .ok (.iaload, 1) := by decide +kernel
theorem dL_law_248 : decode cL_law 248 = .ok (.aload_n 0, 1) := by decide +kernel
theorem dL_law_249 : decode cL_law 249 = .ok (.iload_n 3, 1) := by decide +kernel
theorem dL_law_250 : decode cL_law 250 = .ok (.iconst 2, 1) := by decide +kernel
theorem dL_law_251 : decode cL_law 251 = .ok (.iadd, 1) := by decide +kernel
theorem dL_law_252 : decode cL_law 252 = .ok (.iaload, 1) := by decide +kernel
theorem dL_law_253 : decode cL_law 253 = .ok (.aload_n 0, 1) := by decide +kernel
theorem dL_law_254 : decode cL_law 254 = .ok (.iload_n 3, 1) := by decide +kernel
theorem dL_law_255 : decode cL_law 255 = .ok (.iconst 3, 1) := by decide +kernel
theorem dL_law_256 : decode cL_law 256 = .ok (.iadd, 1) := by decide +kernel
theorem dL_law_257 : decode cL_law 257 = .ok (.iaload, 1) := by decide +kernel
theorem dL_law_258 : decode cL_law 258 = .ok (.invokevirtual 23, 3) := by decide +kernel
theorem dL_law_261 : decode cL_law 261 = .ok (.aload_n 2, 1) := by decide +kernel
theorem dL_law_262 : decode cL_law 262 = .ok (.aload_n 0, 1) := by decide +kernel
theorem dL_law_263 : decode cL_law 263 = .ok (.iload_n 3, 1) := by decide +kernel
theorem dL_law_264 : decode cL_law 264 = .ok (.iconst 1, 1) := by decide +kernel
theorem dL_law_265 : decode cL_law 265 = .ok (.iadd, 1) := by decide +kernel
theorem dL_law_266 : decode cL_law 266 = .ok (.iaload, 1) := by decide +kernel
theorem dL_law_267 : decode cL_law 267 = .ok (.aload_n 0, 1) := by decide +kernel
theorem dL_law_268 : decode cL_law 268 = .ok (.iload_n 3, 1) := by decide +kernel
theorem dL_law_269 : decode cL_law 269 = .ok (.iconst 2, 1) := by decide +kernel
theorem dL_law_270 : decode cL_law 270 = .ok (.iadd, 1) := by decide +kernel
theorem dL_law_271 : decode cL_law 271 = .ok (.iaload, 1) := by decide +kernel
theorem dL_law_272 : decode cL_law 272 = .ok (.aload_n 0, 1) := by decide +kernel
theorem dL_law_273 : decode cL_law 273 = .ok (.iload_n 3, 1) := by decide +kernel
theorem dL_law_274 : decode cL_law 274 = .ok (.iconst 3, 1) := by decide +kernel
theorem dL_law_275 : decode cL_law 275 = .ok (.iadd, 1) := by decide +kernel
theorem dL_law_276 : decode cL_law 276 = .ok (.iaload, 1) := by decide +kernel
theorem dL_law_277 : decode cL_law 277 = .ok (.invokevirtual 27, 3) := by decide +kernel
theorem dL_law_280 : decode cL_law 280 = .ok (.if_icmp .eq 1368, 3) := by decide +kernel
theorem dL_law_283 : decode cL_law 283 = .ok (.iconst 0, 1) := by decide +kernel
theorem dL_law_284 : decode cL_law 284 = .ok (.ireturn, 1) := by decide +kernel
theorem dL_law_285 : decode cL_law 285 = .ok (.aload_n 1, 1) := by decide +kernel
theorem dL_law_286 : decode cL_law 286 = .ok (.aload_n 0, 1) := by decide +kernel
theorem dL_law_287 : decode cL_law 287 = .ok (.iload_n 3, 1) := by decide +kernel
theorem dL_law_288 : decode cL_law 288 = .ok (.iconst 1, 1) := by decide +kernel
theorem dL_law_289 : decode cL_law 289 = .ok (.iadd, 1) := by decide +kernel
theorem dL_law_290 : decode cL_law 290 = .ok (.iaload, 1) := by decide +kernel
theorem dL_law_291 : decode cL_law 291 = .ok (.invokevirtual 28, 3) := by decide +kernel
theorem dL_law_294 : decode cL_law 294 = .ok (.aload_n 2, 1) := by decide +kernel
theorem dL_law_295 : decode cL_law 295 = .ok (.aload_n 0, 1) := by decide +kernel
theorem dL_law_296 : decode cL_law 296 = .ok (.iload_n 3, 1) := by decide +kernel
theorem dL_law_297 : decode cL_law 297 = .ok (.iconst 1, 1) := by decide +kernel
theorem dL_law_298 : decode cL_law 298 = .ok (.iadd, 1) := by decide +kernel
theorem dL_law_299 : decode cL_law 299 = .ok (.iaload, 1) := by decide +kernel
theorem dL_law_300 : decode cL_law 300 = .ok (.invokevirtual 32, 3) := by decide +kernel
theorem dL_law_303 : decode cL_law 303 = .ok (.if_icmp .eq 1345, 3) := by decide +kernel
theorem dL_law_306 : decode cL_law 306 = .ok (.iconst 0, 1) := by decide +kernel
theorem dL_law_307 : decode cL_law 307 = .ok (.ireturn, 1) := by decide +kernel
theorem dL_law_308 : decode cL_law 308 = .ok (.aload_n 1, 1) := by decide +kernel
theorem dL_law_309 : decode cL_law 309 = .ok (.aload_n 0, 1) := by decide +kernel
theorem dL_law_310 : decode cL_law 310 = .ok (.iload_n 3, 1) := by decide +kernel
theorem dL_law_311 : decode cL_law 311 = .ok (.iconst 1, 1) := by decide +kernel
theorem dL_law_312 : decode cL_law 312 = .ok (.iadd, 1) := by decide +kernel
theorem dL_law_313 : decode cL_law 313 = .ok (.iaload, 1) := by decide +kernel
theorem dL_law_314 : decode cL_law 314 = .ok (.aload_n 0, 1) := by decide +kernel
theorem dL_law_315 : decode cL_law 315 = .ok (.iload_n 3, 1) := by decide +kernel
theorem dL_law_316 : decode cL_law 316 = .ok (.iconst 2, 1) := by decide +kernel
theorem dL_law_317 : decode cL_law 317 = .ok (.iadd, 1) := by decide +kernel
theorem dL_law_318 : decode cL_law 318 = .ok (.iaload, 1) := by decide +kernel
theorem dL_law_319 : decode cL_law 319 = .ok (.invokevirtual 33, 3) := by decide +kernel
theorem dL_law_322 : decode cL_law 322 = .ok (.aload_n 2, 1) := by decide +kernel
theorem dL_law_323 : decode cL_law 323 = .ok (.aload_n 0, 1) := by decide +kernel
theorem dL_law_324 : decode cL_law 324 = .ok (.iload_n 3, 1) := by decide +kernel
theorem dL_law_325 : decode cL_law 325 = .ok (.iconst 1, 1) := by decide +kernel
theorem dL_law_326 : decode cL_law 326 = .ok (.iadd, 1) := by decide +kernel
theorem dL_law_327 : decode cL_law 327 = .ok (.iaload, 1) := by decide +kernel
theorem dL_law_328 : decode cL_law 328 = .ok (.aload_n 0, 1) := by decide +kernel
theorem dL_law_329 : decode cL_law 329 = .ok (.iload_n 3, 1) := by decide +kernel
theorem dL_law_330 : decode cL_law 330 = .ok (.iconst 2, 1) := by decide +kernel
theorem dL_law_331 : decode cL_law 331 = .ok (.iadd, 1) := by decide +kernel
theorem dL_law_332 : decode cL_law 332 = .ok (.iaload, 1) := by decide +kernel
theorem dL_law_333 : decode cL_law 333 = .ok (.invokevirtual 37, 3) := by decide +kernel
theorem dL_law_336 : decode cL_law 336 = .ok (.if_icmp .eq 1312, 3) := by decide +kernel
theorem dL_law_339 : decode cL_law 339 = .ok (.iconst 0, 1) := by decide +kernel
theorem dL_law_340 : decode cL_law 340 = .ok (.ireturn, 1) := by decide +kernel
theorem dL_law_341 : decode cL_law 341 = .ok (.aload_n 1, 1) := by decide +kernel
theorem dL_law_342 : decode cL_law 342 = .ok (.aload_n 0, 1) := by decide +kernel
theorem dL_law_343 : decode cL_law 343 = .ok (.iload_n 3, 1) := by decide +kernel
theorem dL_law_344 : decode cL_law 344 = .ok (.iconst 1, 1) := by decide +kernel
theorem dL_law_345 : decode cL_law 345 = .ok (.iadd, 1) := by decide +kernel
theorem dL_law_346 : decode cL_law 346 = .ok (.iaload, 1) := by decide +kernel
theorem dL_law_347 : decode cL_law 347 = .ok (.aload_n 0, 1) := by decide +kernel
theorem dL_law_348 : decode cL_law 348 = .ok (.iload_n 3, 1) := by decide +kernel
theorem dL_law_349 : decode cL_law 349 = .ok (.iconst 2, 1) := by decide +kernel
theorem dL_law_350 : decode cL_law 350 = .ok (.iadd, 1) := by decide +kernel
theorem dL_law_351 : decode cL_law 351 = .ok (.iaload, 1) := by decide +kernel
theorem dL_law_352 : decode cL_law 352 = .ok (.invokevirtual 38, 3) := by decide +kernel
theorem dL_law_355 : decode cL_law 355 = .ok (.aload_n 2, 1) := by decide +kernel
theorem dL_law_356 : decode cL_law 356 = .ok (.aload_n 0, 1) := by decide +kernel
theorem dL_law_357 : decode cL_law 357 = .ok (.iload_n 3, 1) := by decide +kernel
theorem dL_law_358 : decode cL_law 358 = .ok (.iconst 1, 1) := by decide +kernel
theorem dL_law_359 : decode cL_law 359 = .ok (.iadd, 1) := by decide +kernel
theorem dL_law_360 : decode cL_law 360 = .ok (.iaload, 1) := by decide +kernel
theorem dL_law_361 : decode cL_law 361 = .ok (.aload_n 0, 1) := by decide +kernel
theorem dL_law_362 : decode cL_law 362 = .ok (.iload_n 3, 1) := by decide +kernel
theorem dL_law_363 : decode cL_law 363 = .ok (.iconst 2, 1) := by decide +kernel
theorem dL_law_364 : decode cL_law 364 = .ok (.iadd, 1) := by decide +kernel
theorem dL_law_365 : decode cL_law 365 = .ok (.iaload, 1) := by decide +kernel
theorem dL_law_366 : decode cL_law 366 = .ok (.invokevirtual 41, 3) := by decide +kernel
theorem dL_law_369 : decode cL_law 369 = .ok (.if_icmp .eq 1279, 3) := by decide +kernel
theorem dL_law_372 : decode cL_law 372 = .ok (.iconst 0, 1) := by decide +kernel
theorem dL_law_373 : decode cL_law 373 = .ok (.ireturn, 1) := by decide +kernel
theorem dL_law_374 : decode cL_law 374 = .ok (.aload_n 1, 1) := by decide +kernel
theorem dL_law_375 : decode cL_law 375 = .ok (.aload_n 0, 1) := by decide +kernel
theorem dL_law_376 : decode cL_law 376 = .ok (.iload_n 3, 1) := by decide +kernel
theorem dL_law_377 : decode cL_law 377 = .ok (.iconst 1, 1) := by decide +kernel
theorem dL_law_378 : decode cL_law 378 = .ok (.iadd, 1) := by decide +kernel
theorem dL_law_379 : decode cL_law 379 = .ok (.iaload, 1) := by decide +kernel
theorem dL_law_380 : decode cL_law 380 = .ok (.aload_n 0, 1) := by decide +kernel
theorem dL_law_381 : decode cL_law 381 = .ok (.iload_n 3, 1) := by decide +kernel
theorem dL_law_382 : decode cL_law 382 = .ok (.iconst 2, 1) := by decide +kernel
theorem dL_law_383 : decode cL_law 383 = .ok (.iadd, 1) := by decide +kernel
theorem dL_law_384 : decode cL_law 384 = .ok (.iaload, 1) := by decide +kernel
theorem dL_law_385 : decode cL_law 385 = .ok (.invokevirtual 42, 3) := by decide +kernel
theorem dL_law_388 : decode cL_law 388 = .ok (.aload_n 2, 1) := by decide +kernel
theorem dL_law_389 : decode cL_law 389 = .ok (.aload_n 0, 1) := by decide +kernel
theorem dL_law_390 : decode cL_law 390 = .ok (.iload_n 3, 1) := by decide +kernel
theorem dL_law_391 : decode cL_law 391 = .ok (.iconst 1, 1) := by decide +kernel
theorem dL_law_392 : decode cL_law 392 = .ok (.iadd, 1) := by decide +kernel
theorem dL_law_393 : decode cL_law 393 = .ok (.iaload, 1) := by decide +kernel
theorem dL_law_394 : decode cL_law 394 = .ok (.aload_n 0, 1) := by decide +kernel
theorem dL_law_395 : decode cL_law 395 = .ok (.iload_n 3, 1) := by decide +kernel
theorem dL_law_396 : decode cL_law 396 = .ok (.iconst 2, 1) := by decide +kernel
theorem dL_law_397 : decode cL_law 397 = .ok (.iadd, 1) := by decide +kernel
theorem dL_law_398 : decode cL_law 398 = .ok (.iaload, 1) := by decide +kernel
theorem dL_law_399 : decode cL_law 399 = .ok (.invokevirtual 45, 3) := by decide +kernel
theorem dL_law_402 : decode cL_law 402 = .ok (.if_icmp .eq 1246, 3) := by decide +kernel
theorem dL_law_405 : decode cL_law 405 = .ok (.iconst 0, 1) := by decide +kernel
theorem dL_law_406 : decode cL_law 406 = .ok (.ireturn, 1) := by decide +kernel
theorem dL_law_407 : decode cL_law 407 = .ok (.aload_n 1, 1) := by decide +kernel
theorem dL_law_408 : decode cL_law 408 = .ok (.aload_n 0, 1) := by decide +kernel
theorem dL_law_409 : decode cL_law 409 = .ok (.iload_n 3, 1) := by decide +kernel
theorem dL_law_410 : decode cL_law 410 = .ok (.iconst 1, 1) := by decide +kernel
theorem dL_law_411 : decode cL_law 411 = .ok (.iadd, 1) := by decide +kernel
theorem dL_law_412 : decode cL_law 412 = .ok (.iaload, 1) := by decide +kernel
theorem dL_law_413 : decode cL_law 413 = .ok (.aload_n 0, 1) := by decide +kernel
theorem dL_law_414 : decode cL_law 414 = .ok (.iload_n 3, 1) := by decide +kernel
theorem dL_law_415 : decode cL_law 415 = .ok (.iconst 2, 1) := by decide +kernel
theorem dL_law_416 : decode cL_law 416 = .ok (.iadd, 1) := by decide +kernel
theorem dL_law_417 : decode cL_law 417 = .ok (.iaload, 1) := by decide +kernel
theorem dL_law_418 : decode cL_law 418 = .ok (.aload_n 0, 1) := by decide +kernel
theorem dL_law_419 : decode cL_law 419 = .ok (.iload_n 3, 1) := by decide +kernel
theorem dL_law_420 : decode cL_law 420 = .ok (.iconst 3, 1) := by decide +kernel
theorem dL_law_421 : decode cL_law 421 = .ok (.iadd, 1) := by decide +kernel
theorem dL_law_422 : decode cL_law 422 = .ok (.iaload, 1) := by decide +kernel
theorem dL_law_423 : decode cL_law 423 = .ok (.aload_n 0, 1) := by decide +kernel
theorem dL_law_424 : decode cL_law 424 = .ok (.iload_n 3, 1) := by decide +kernel
theorem dL_law_425 : decode cL_law 425 = .ok (.iconst 4, 1) := by decide +kernel
theorem dL_law_426 : decode cL_law 426 = .ok (.iadd, 1) := by decide +kernel
theorem dL_law_427 : decode cL_law 427 = .ok (.iaload, 1) := by decide +kernel
theorem dL_law_428 : decode cL_law 428 = .ok (.invokevirtual 46, 3) := by decide +kernel
theorem dL_law_431 : decode cL_law 431 = .ok (.aload_n 2, 1) := by decide +kernel
theorem dL_law_432 : decode cL_law 432 = .ok (.aload_n 0, 1) := by decide +kernel
theorem dL_law_433 : decode cL_law 433 = .ok (.iload_n 3, 1) := by decide +kernel
theorem dL_law_434 : decode cL_law 434 = .ok (.iconst 1, 1) := by decide +kernel
theorem dL_law_435 : decode cL_law 435 = .ok (.iadd, 1) := by decide +kernel
theorem dL_law_436 : decode cL_law 436 = .ok (.iaload, 1) := by decide +kernel
theorem dL_law_437 : decode cL_law 437 = .ok (.aload_n 0, 1) := by decide +kernel
theorem dL_law_438 : decode cL_law 438 = .ok (.iload_n 3, 1) := by decide +kernel
theorem dL_law_439 : decode cL_law 439 = .ok (.iconst 2, 1) := by decide +kernel
theorem dL_law_440 : decode cL_law 440 = .ok (.iadd, 1) := by decide +kernel
theorem dL_law_441 : decode cL_law 441 = .ok (.iaload, 1) := by decide +kernel
theorem dL_law_442 : decode cL_law 442 = .ok (.aload_n 0, 1) := by decide +kernel
theorem dL_law_443 : decode cL_law 443 = .ok (.iload_n 3, 1) := by decide +kernel
theorem dL_law_444 : decode cL_law 444 = .ok (.iconst 3, 1) := by decide +kernel
theorem dL_law_445 : decode cL_law 445 = .ok (.iadd, 1) := by decide +kernel
theorem dL_law_446 : decode cL_law 446 = .ok (.iaload, 1) := by decide +kernel
theorem dL_law_447 : decode cL_law 447 = .ok (.aload_n 0, 1) := by decide +kernel
theorem dL_law_448 : decode cL_law 448 = .ok (.iload_n 3, 1) := by decide +kernel
theorem dL_law_449 : decode cL_law 449 = .ok (.iconst 4, 1) := by decide +kernel
theorem dL_law_450 : decode cL_law 450 = .ok (.iadd, 1) := by decide +kernel
theorem dL_law_451 : decode cL_law 451 = .ok (.iaload, 1) := by decide +kernel
theorem dL_law_452 : decode cL_law 452 = .ok (.invokevirtual 49, 3) := by decide +kernel
theorem dL_law_455 : decode cL_law 455 = .ok (.if_icmp .eq 1193, 3) := by decide +kernel
theorem dL_law_458 : decode cL_law 458 = .ok (.iconst 0, 1) := by decide +kernel
theorem dL_law_459 : decode cL_law 459 = .ok (.ireturn, 1) := by decide +kernel
theorem dL_law_460 : decode cL_law 460 = .ok (.aload_n 1, 1) := by decide +kernel
theorem dL_law_461 : decode cL_law 461 = .ok (.aload_n 0, 1) := by decide +kernel
theorem dL_law_462 : decode cL_law 462 = .ok (.iload_n 3, 1) := by decide +kernel
theorem dL_law_463 : decode cL_law 463 = .ok (.iconst 1, 1) := by decide +kernel
theorem dL_law_464 : decode cL_law 464 = .ok (.iadd, 1) := by decide +kernel
theorem dL_law_465 : decode cL_law 465 = .ok (.iaload, 1) := by decide +kernel
theorem dL_law_466 : decode cL_law 466 = .ok (.aload_n 0, 1) := by decide +kernel
theorem dL_law_467 : decode cL_law 467 = .ok (.iload_n 3, 1) := by decide +kernel
theorem dL_law_468 : decode cL_law 468 = .ok (.iconst 2, 1) := by decide +kernel
theorem dL_law_469 : decode cL_law 469 = .ok (.iadd, 1) := by decide +kernel
theorem dL_law_470 : decode cL_law 470 = .ok (.iaload, 1) := by decide +kernel
theorem dL_law_471 : decode cL_law 471 = .ok (.aload_n 0, 1) := by decide +kernel
theorem dL_law_472 : decode cL_law 472 = .ok (.iload_n 3, 1) := by decide +kernel
theorem dL_law_473 : decode cL_law 473 = .ok (.iconst 3, 1) := by decide +kernel
theorem dL_law_474 : decode cL_law 474 = .ok (.iadd, 1) := by decide +kernel
theorem dL_law_475 : decode cL_law 475 = .ok (.iaload, 1) := by decide +kernel
theorem dL_law_476 : decode cL_law 476 = .ok (.ifCond .eq 7, 3) := by decide +kernel
theorem dL_law_479 : decode cL_law 479 = .ok (.iconst 1, 1) := by decide +kernel
theorem dL_law_480 : decode cL_law 480 = .ok (.goto 4, 3) := by decide +kernel
theorem dL_law_483 : decode cL_law 483 = .ok (.iconst 0, 1) := by decide +kernel
theorem dL_law_484 : decode cL_law 484 = .ok (.invokevirtual 50, 3) := by decide +kernel
theorem dL_law_487 : decode cL_law 487 = .ok (.aload_n 2, 1) := by decide +kernel
theorem dL_law_488 : decode cL_law 488 = .ok (.aload_n 0, 1) := by decide +kernel
theorem dL_law_489 : decode cL_law 489 = .ok (.iload_n 3, 1) := by decide +kernel
theorem dL_law_490 : decode cL_law 490 = .ok (.iconst 1, 1) := by decide +kernel
theorem dL_law_491 : decode cL_law 491 = .ok (.iadd, 1) := by decide +kernel
theorem dL_law_492 : decode cL_law 492 = .ok (.iaload, 1) := by decide +kernel
theorem dL_law_493 : decode cL_law 493 = .ok (.aload_n 0, 1) := by decide +kernel
theorem dL_law_494 : decode cL_law 494 = .ok (.iload_n 3, 1) := by decide +kernel
theorem dL_law_495 : decode cL_law 495 = .ok (.iconst 2, 1) := by decide +kernel
theorem dL_law_496 : decode cL_law 496 = .ok (.iadd, 1) := by decide +kernel
theorem dL_law_497 : decode cL_law 497 = .ok (.iaload, 1) := by decide +kernel
theorem dL_law_498 : decode cL_law 498 = .ok (.aload_n 0, 1) := by decide +kernel
theorem dL_law_499 : decode cL_law 499 = .ok (.iload_n 3, 1) := by decide +kernel
theorem dL_law_500 : decode cL_law 500 = .ok (.iconst 3, 1) := by decide +kernel
theorem dL_law_501 : decode cL_law 501 = .ok (.iadd, 1) := by decide +kernel
theorem dL_law_502 : decode cL_law 502 = .ok (.iaload, 1) := by decide +kernel
theorem dL_law_503 : decode cL_law 503 = .ok (.ifCond .eq 7, 3) := by decide +kernel
theorem dL_law_506 : decode cL_law 506 = .ok (.iconst 1, 1) := by decide +kernel
theorem dL_law_507 : decode cL_law 507 = .ok (.goto 4, 3) := by decide +kernel
theorem dL_law_510 : decode cL_law 510 = .ok (.iconst 0, 1) := by decide +kernel
theorem dL_law_511 : decode cL_law 511 = .ok (.invokevirtual 54, 3) := by decide +kernel
theorem dL_law_514 : decode cL_law 514 = .ok (.if_icmp .eq 1134, 3) := by decide +kernel
theorem dL_law_517 : decode cL_law 517 = .ok (.iconst 0, 1) := by decide +kernel
theorem dL_law_518 : decode cL_law 518 = .ok (.ireturn, 1) := by decide +kernel
theorem dL_law_519 : decode cL_law 519 = .ok (.aload_n 1, 1) := by decide +kernel
theorem dL_law_520 : decode cL_law 520 = .ok (.aload_n 0, 1) := by decide +kernel
theorem dL_law_521 : decode cL_law 521 = .ok (.iload_n 3, 1) := by decide +kernel
theorem dL_law_522 : decode cL_law 522 = .ok (.iconst 1, 1) := by decide +kernel
theorem dL_law_523 : decode cL_law 523 = .ok (.iadd, 1) := by decide +kernel
theorem dL_law_524 : decode cL_law 524 = .ok (.iaload, 1) := by decide +kernel
theorem dL_law_525 : decode cL_law 525 = .ok (.aload_n 0, 1) := by decide +kernel
theorem dL_law_526 : decode cL_law 526 = .ok (.iload_n 3, 1) := by decide +kernel
theorem dL_law_527 : decode cL_law 527 = .ok (.iconst 2, 1) := by decide +kernel
theorem dL_law_528 : decode cL_law 528 = .ok (.iadd, 1) := by decide +kernel
theorem dL_law_529 : decode cL_law 529 = .ok (.iaload, 1) := by decide +kernel
theorem dL_law_530 : decode cL_law 530 = .ok (.invokevirtual 55, 3) := by decide +kernel
theorem dL_law_533 : decode cL_law 533 = .ok (.aload_n 2, 1) := by decide +kernel
theorem dL_law_534 : decode cL_law 534 = .ok (.aload_n 0, 1) := by decide +kernel
theorem dL_law_535 : decode cL_law 535 = .ok (.iload_n 3, 1) := by decide +kernel
theorem dL_law_536 : decode cL_law 536 = .ok (.iconst 1, 1) := by decide +kernel
theorem dL_law_537 : decode cL_law 537 = .ok (.iadd, 1) := by decide +kernel
theorem dL_law_538 : decode cL_law 538 = .ok (.iaload, 1) := by decide +kernel
theorem dL_law_539 : decode cL_law 539 = .ok (.aload_n 0, 1) := by decide +kernel
theorem dL_law_540 : decode cL_law 540 = .ok (.iload_n 3, 1) := by decide +kernel
theorem dL_law_541 : decode cL_law 541 = .ok (.iconst 2, 1) := by decide +kernel
theorem dL_law_542 : decode cL_law 542 = .ok (.iadd, 1) := by decide +kernel
theorem dL_law_543 : decode cL_law 543 = .ok (.iaload, 1) := by decide +kernel
theorem dL_law_544 : decode cL_law 544 = .ok (.invokevirtual 58, 3) := by decide +kernel
theorem dL_law_547 : decode cL_law 547 = .ok (.if_icmp .eq 1101, 3) := by decide +kernel
theorem dL_law_550 : decode cL_law 550 = .ok (.iconst 0, 1) := by decide +kernel
theorem dL_law_551 : decode cL_law 551 = .ok (.ireturn, 1) := by decide +kernel
theorem dL_law_552 : decode cL_law 552 = .ok (.aload_n 1, 1) := by decide +kernel
theorem dL_law_553 : decode cL_law 553 = .ok (.aload_n 0, 1) := by decide +kernel
theorem dL_law_554 : decode cL_law 554 = .ok (.iload_n 3, 1) := by decide +kernel
theorem dL_law_555 : decode cL_law 555 = .ok (.iconst 1, 1) := by decide +kernel
theorem dL_law_556 : decode cL_law 556 = .ok (.iadd, 1) := by decide +kernel
theorem dL_law_557 : decode cL_law 557 = .ok (.iaload, 1) := by decide +kernel
theorem dL_law_558 : decode cL_law 558 = .ok (.aload_n 0, 1) := by decide +kernel
theorem dL_law_559 : decode cL_law 559 = .ok (.iload_n 3, 1) := by decide +kernel
theorem dL_law_560 : decode cL_law 560 = .ok (.iconst 2, 1) := by decide +kernel
theorem dL_law_561 : decode cL_law 561 = .ok (.iadd, 1) := by decide +kernel
theorem dL_law_562 : decode cL_law 562 = .ok (.iaload, 1) := by decide +kernel
theorem dL_law_563 : decode cL_law 563 = .ok (.aload_n 0, 1) := by decide +kernel
theorem dL_law_564 : decode cL_law 564 = .ok (.iload_n 3, 1) := by decide +kernel
theorem dL_law_565 : decode cL_law 565 = .ok (.iconst 3, 1) := by decide +kernel
theorem dL_law_566 : decode cL_law 566 = .ok (.iadd, 1) := by decide +kernel
theorem dL_law_567 : decode cL_law 567 = .ok (.iaload, 1) := by decide +kernel
theorem dL_law_568 : decode cL_law 568 = .ok (.aload_n 0, 1) := by decide +kernel
theorem dL_law_569 : decode cL_law 569 = .ok (.iload_n 3, 1) := by decide +kernel
theorem dL_law_570 : decode cL_law 570 = .ok (.iconst 4, 1) := by decide +kernel
theorem dL_law_571 : decode cL_law 571 = .ok (.iadd, 1) := by decide +kernel
theorem dL_law_572 : decode cL_law 572 = .ok (.iaload, 1) := by decide +kernel
theorem dL_law_573 : decode cL_law 573 = .ok (.invokevirtual 59, 3) := by decide +kernel
theorem dL_law_576 : decode cL_law 576 = .ok (.aload_n 2, 1) := by decide +kernel
theorem dL_law_577 : decode cL_law 577 = .ok (.aload_n 0, 1) := by decide +kernel
theorem dL_law_578 : decode cL_law 578 = .ok (.iload_n 3, 1) := by decide +kernel
theorem dL_law_579 : decode cL_law 579 = .ok (.iconst 1, 1) := by decide +kernel
theorem dL_law_580 : decode cL_law 580 = .ok (.iadd, 1) := by decide +kernel
theorem dL_law_581 : decode cL_law 581 = .ok (.iaload, 1) := by decide +kernel
theorem dL_law_582 : decode cL_law 582 = .ok (.aload_n 0, 1) := by decide +kernel
theorem dL_law_583 : decode cL_law 583 = .ok (.iload_n 3, 1) := by decide +kernel
theorem dL_law_584 : decode cL_law 584 = .ok (.iconst 2, 1) := by decide +kernel
theorem dL_law_585 : decode cL_law 585 = .ok (.iadd, 1) := by decide +kernel
theorem dL_law_586 : decode cL_law 586 = .ok (.iaload, 1) := by decide +kernel
theorem dL_law_587 : decode cL_law 587 = .ok (.aload_n 0, 1) := by decide +kernel
theorem dL_law_588 : decode cL_law 588 = .ok (.iload_n 3, 1) := by decide +kernel
theorem dL_law_589 : decode cL_law 589 = .ok (.iconst 3, 1) := by decide +kernel
theorem dL_law_590 : decode cL_law 590 = .ok (.iadd, 1) := by decide +kernel
theorem dL_law_591 : decode cL_law 591 = .ok (.iaload, 1) := by decide +kernel
theorem dL_law_592 : decode cL_law 592 = .ok (.aload_n 0, 1) := by decide +kernel
theorem dL_law_593 : decode cL_law 593 = .ok (.iload_n 3, 1) := by decide +kernel
theorem dL_law_594 : decode cL_law 594 = .ok (.iconst 4, 1) := by decide +kernel
theorem dL_law_595 : decode cL_law 595 = .ok (.iadd, 1) := by decide +kernel
theorem dL_law_596 : decode cL_law 596 = .ok (.iaload, 1) := by decide +kernel
theorem dL_law_597 : decode cL_law 597 = .ok (.invokevirtual 62, 3) := by decide +kernel
theorem dL_law_600 : decode cL_law 600 = .ok (.if_icmp .eq 1048, 3) := by decide +kernel
theorem dL_law_603 : decode cL_law 603 = .ok (.iconst 0, 1) := by decide +kernel
theorem dL_law_604 : decode cL_law 604 = .ok (.ireturn, 1) := by decide +kernel
theorem dL_law_605 : decode cL_law 605 = .ok (.aload_n 1, 1) := by decide +kernel
theorem dL_law_606 : decode cL_law 606 = .ok (.aload_n 0, 1) := by decide +kernel
theorem dL_law_607 : decode cL_law 607 = .ok (.iload_n 3, 1) := by decide +kernel
theorem dL_law_608 : decode cL_law 608 = .ok (.iconst 1, 1) := by decide +kernel
theorem dL_law_609 : decode cL_law 609 = .ok (.iadd, 1) := by decide +kernel
theorem dL_law_610 : decode cL_law 610 = .ok (.iaload, 1) := by decide +kernel
theorem dL_law_611 : decode cL_law 611 = .ok (.aload_n 0, 1) := by decide +kernel
theorem dL_law_612 : decode cL_law 612 = .ok (.iload_n 3, 1) := by decide +kernel
theorem dL_law_613 : decode cL_law 613 = .ok (.iconst 2, 1) := by decide +kernel
theorem dL_law_614 : decode cL_law 614 = .ok (.iadd, 1) := by decide +kernel
theorem dL_law_615 : decode cL_law 615 = .ok (.iaload, 1) := by decide +kernel
theorem dL_law_616 : decode cL_law 616 = .ok (.invokevirtual 63, 3) := by decide +kernel
theorem dL_law_619 : decode cL_law 619 = .ok (.aload_n 2, 1) := by decide +kernel
theorem dL_law_620 : decode cL_law 620 = .ok (.aload_n 0, 1) := by decide +kernel
theorem dL_law_621 : decode cL_law 621 = .ok (.iload_n 3, 1) := by decide +kernel
theorem dL_law_622 : decode cL_law 622 = .ok (.iconst 1, 1) := by decide +kernel
theorem dL_law_623 : decode cL_law 623 = .ok (.iadd, 1) := by decide +kernel
theorem dL_law_624 : decode cL_law 624 = .ok (.iaload, 1) := by decide +kernel
theorem dL_law_625 : decode cL_law 625 = .ok (.aload_n 0, 1) := by decide +kernel
theorem dL_law_626 : decode cL_law 626 = .ok (.iload_n 3, 1) := by decide +kernel
theorem dL_law_627 : decode cL_law 627 = .ok (.iconst 2, 1) := by decide +kernel
theorem dL_law_628 : decode cL_law 628 = .ok (.iadd, 1) := by decide +kernel
theorem dL_law_629 : decode cL_law 629 = .ok (.iaload, 1) := by decide +kernel
theorem dL_law_630 : decode cL_law 630 = .ok (.invokevirtual 66, 3) := by decide +kernel
theorem dL_law_633 : decode cL_law 633 = .ok (.if_icmp .eq 1015, 3) := by decide +kernel
theorem dL_law_636 : decode cL_law 636 = .ok (.iconst 0, 1) := by decide +kernel
theorem dL_law_637 : decode cL_law 637 = .ok (.ireturn, 1) := by decide +kernel
theorem dL_law_638 : decode cL_law 638 = .ok (.aload_n 1, 1) := by decide +kernel
theorem dL_law_639 : decode cL_law 639 = .ok (.aload_n 0, 1) := by decide +kernel
theorem dL_law_640 : decode cL_law 640 = .ok (.iload_n 3, 1) := by decide +kernel
theorem dL_law_641 : decode cL_law 641 = .ok (.iconst 1, 1) := by decide +kernel
theorem dL_law_642 : decode cL_law 642 = .ok (.iadd, 1) := by decide +kernel
theorem dL_law_643 : decode cL_law 643 = .ok (.iaload, 1) := by decide +kernel
theorem dL_law_644 : decode cL_law 644 = .ok (.aload_n 0, 1) := by decide +kernel
theorem dL_law_645 : decode cL_law 645 = .ok (.iload_n 3, 1) := by decide +kernel
theorem dL_law_646 : decode cL_law 646 = .ok (.iconst 2, 1) := by decide +kernel
theorem dL_law_647 : decode cL_law 647 = .ok (.iadd, 1) := by decide +kernel
theorem dL_law_648 : decode cL_law 648 = .ok (.iaload, 1) := by decide +kernel
theorem dL_law_649 : decode cL_law 649 = .ok (.aload_n 0, 1) := by decide +kernel
theorem dL_law_650 : decode cL_law 650 = .ok (.iload_n 3, 1) := by decide +kernel
theorem dL_law_651 : decode cL_law 651 = .ok (.iconst 3, 1) := by decide +kernel
theorem dL_law_652 : decode cL_law 652 = .ok (.iadd, 1) := by decide +kernel
theorem dL_law_653 : decode cL_law 653 = .ok (.iaload, 1) := by decide +kernel
theorem dL_law_654 : decode cL_law 654 = .ok (.aload_n 0, 1) := by decide +kernel
theorem dL_law_655 : decode cL_law 655 = .ok (.iload_n 3, 1) := by decide +kernel
theorem dL_law_656 : decode cL_law 656 = .ok (.iconst 4, 1) := by decide +kernel
theorem dL_law_657 : decode cL_law 657 = .ok (.iadd, 1) := by decide +kernel
theorem dL_law_658 : decode cL_law 658 = .ok (.iaload, 1) := by decide +kernel
theorem dL_law_659 : decode cL_law 659 = .ok (.ifCond .eq 7, 3) := by decide +kernel
theorem dL_law_662 : decode cL_law 662 = .ok (.iconst 1, 1) := by decide +kernel
theorem dL_law_663 : decode cL_law 663 = .ok (.goto 4, 3) := by decide +kernel
theorem dL_law_666 : decode cL_law 666 = .ok (.iconst 0, 1) := by decide +kernel
theorem dL_law_667 : decode cL_law 667 = .ok (.invokevirtual 67, 3) := by decide +kernel
theorem dL_law_670 : decode cL_law 670 = .ok (.aload_n 2, 1) := by decide +kernel
theorem dL_law_671 : decode cL_law 671 = .ok (.aload_n 0, 1) := by decide +kernel
theorem dL_law_672 : decode cL_law 672 = .ok (.iload_n 3, 1) := by decide +kernel
theorem dL_law_673 : decode cL_law 673 = .ok (.iconst 1, 1) := by decide +kernel
theorem dL_law_674 : decode cL_law 674 = .ok (.iadd, 1) := by decide +kernel
theorem dL_law_675 : decode cL_law 675 = .ok (.iaload, 1) := by decide +kernel
theorem dL_law_676 : decode cL_law 676 = .ok (.aload_n 0, 1) := by decide +kernel
theorem dL_law_677 : decode cL_law 677 = .ok (.iload_n 3, 1) := by decide +kernel
theorem dL_law_678 : decode cL_law 678 = .ok (.iconst 2, 1) := by decide +kernel
theorem dL_law_679 : decode cL_law 679 = .ok (.iadd, 1) := by decide +kernel
theorem dL_law_680 : decode cL_law 680 = .ok (.iaload, 1) := by decide +kernel
theorem dL_law_681 : decode cL_law 681 = .ok (.aload_n 0, 1) := by decide +kernel
theorem dL_law_682 : decode cL_law 682 = .ok (.iload_n 3, 1) := by decide +kernel
theorem dL_law_683 : decode cL_law 683 = .ok (.iconst 3, 1) := by decide +kernel
theorem dL_law_684 : decode cL_law 684 = .ok (.iadd, 1) := by decide +kernel
theorem dL_law_685 : decode cL_law 685 = .ok (.iaload, 1) := by decide +kernel
theorem dL_law_686 : decode cL_law 686 = .ok (.aload_n 0, 1) := by decide +kernel
theorem dL_law_687 : decode cL_law 687 = .ok (.iload_n 3, 1) := by decide +kernel
theorem dL_law_688 : decode cL_law 688 = .ok (.iconst 4, 1) := by decide +kernel
theorem dL_law_689 : decode cL_law 689 = .ok (.iadd, 1) := by decide +kernel
theorem dL_law_690 : decode cL_law 690 = .ok (.iaload, 1) := by decide +kernel
theorem dL_law_691 : decode cL_law 691 = .ok (.ifCond .eq 7, 3) := by decide +kernel
theorem dL_law_694 : decode cL_law 694 = .ok (.iconst 1, 1) := by decide +kernel
theorem dL_law_695 : decode cL_law 695 = .ok (.goto 4, 3) := by decide +kernel
theorem dL_law_698 : decode cL_law 698 = .ok (.iconst 0, 1) := by decide +kernel
theorem dL_law_699 : decode cL_law 699 = .ok (.invokevirtual 71, 3) := by decide +kernel
theorem dL_law_702 : decode cL_law 702 = .ok (.if_icmp .eq 946, 3) := by decide +kernel
theorem dL_law_705 : decode cL_law 705 = .ok (.iconst 0, 1) := by decide +kernel
theorem dL_law_706 : decode cL_law 706 = .ok (.ireturn, 1) := by decide +kernel
theorem dL_law_707 : decode cL_law 707 = .ok (.aload_n 1, 1) := by decide +kernel
theorem dL_law_708 : decode cL_law 708 = .ok (.aload_n 0, 1) := by decide +kernel
theorem dL_law_709 : decode cL_law 709 = .ok (.iload_n 3, 1) := by decide +kernel
theorem dL_law_710 : decode cL_law 710 = .ok (.iconst 1, 1) := by decide +kernel
theorem dL_law_711 : decode cL_law 711 = .ok (.iadd, 1) := by decide +kernel
theorem dL_law_712 : decode cL_law 712 = .ok (.iaload, 1) := by decide +kernel
theorem dL_law_713 : decode cL_law 713 = .ok (.i2l, 1) := by decide +kernel
theorem dL_law_714 : decode cL_law 714 = .ok (.bipush 32, 2) := by decide +kernel
theorem dL_law_716 : decode cL_law 716 = .ok (.lshl, 1) := by decide +kernel
theorem dL_law_717 : decode cL_law 717 = .ok (.aload_n 0, 1) := by decide +kernel
theorem dL_law_718 : decode cL_law 718 = .ok (.iload_n 3, 1) := by decide +kernel
theorem dL_law_719 : decode cL_law 719 = .ok (.iconst 2, 1) := by decide +kernel
theorem dL_law_720 : decode cL_law 720 = .ok (.iadd, 1) := by decide +kernel
theorem dL_law_721 : decode cL_law 721 = .ok (.iaload, 1) := by decide +kernel
theorem dL_law_722 : decode cL_law 722 = .ok (.i2l, 1) := by decide +kernel
theorem dL_law_723 : decode cL_law 723 = .ok (.ldc2_w 72, 3) := by decide +kernel
theorem dL_law_726 : decode cL_law 726 = .ok (.land, 1) := by decide +kernel
theorem dL_law_727 : decode cL_law 727 = .ok (.lor, 1) := by decide +kernel
theorem dL_law_728 : decode cL_law 728 = .ok (.invokevirtual 74, 3) := by decide +kernel
theorem dL_law_731 : decode cL_law 731 = .ok (.aload_n 2, 1) := by decide +kernel
theorem dL_law_732 : decode cL_law 732 = .ok (.aload_n 0, 1) := by decide +kernel
theorem dL_law_733 : decode cL_law 733 = .ok (.iload_n 3, 1) := by decide +kernel
theorem dL_law_734 : decode cL_law 734 = .ok (.iconst 1, 1) := by decide +kernel
theorem dL_law_735 : decode cL_law 735 = .ok (.iadd, 1) := by decide +kernel
theorem dL_law_736 : decode cL_law 736 = .ok (.iaload, 1) := by decide +kernel
theorem dL_law_737 : decode cL_law 737 = .ok (.i2l, 1) := by decide +kernel
theorem dL_law_738 : decode cL_law 738 = .ok (.bipush 32, 2) := by decide +kernel
theorem dL_law_740 : decode cL_law 740 = .ok (.lshl, 1) := by decide +kernel
theorem dL_law_741 : decode cL_law 741 = .ok (.aload_n 0, 1) := by decide +kernel
theorem dL_law_742 : decode cL_law 742 = .ok (.iload_n 3, 1) := by decide +kernel
theorem dL_law_743 : decode cL_law 743 = .ok (.iconst 2, 1) := by decide +kernel
theorem dL_law_744 : decode cL_law 744 = .ok (.iadd, 1) := by decide +kernel
theorem dL_law_745 : decode cL_law 745 = .ok (.iaload, 1) := by decide +kernel
theorem dL_law_746 : decode cL_law 746 = .ok (.i2l, 1) := by decide +kernel
theorem dL_law_747 : decode cL_law 747 = .ok (.ldc2_w 72, 3) := by decide +kernel
theorem dL_law_750 : decode cL_law 750 = .ok (.land, 1) := by decide +kernel
theorem dL_law_751 : decode cL_law 751 = .ok (.lor, 1) := by decide +kernel
theorem dL_law_752 : decode cL_law 752 = .ok (.invokevirtual 78, 3) := by decide +kernel
theorem dL_law_755 : decode cL_law 755 = .ok (.if_icmp .eq 893, 3) := by decide +kernel
theorem dL_law_758 : decode cL_law 758 = .ok (.iconst 0, 1) := by decide +kernel
theorem dL_law_759 : decode cL_law 759 = .ok (.ireturn, 1) := by decide +kernel
theorem dL_law_760 : decode cL_law 760 = .ok (.aload_n 1, 1) := by decide +kernel
theorem dL_law_761 : decode cL_law 761 = .ok (.invokevirtual 79, 3) := by decide +kernel
theorem dL_law_764 : decode cL_law 764 = .ok (.aload_n 2, 1) := by decide +kernel
theorem dL_law_765 : decode cL_law 765 = .ok (.invokevirtual 82, 3) := by decide +kernel
theorem dL_law_768 : decode cL_law 768 = .ok (.if_icmp .eq 880, 3) := by decide +kernel
theorem dL_law_771 : decode cL_law 771 = .ok (.iconst 0, 1) := by decide +kernel
theorem dL_law_772 : decode cL_law 772 = .ok (.ireturn, 1) := by decide +kernel
theorem dL_law_773 : decode cL_law 773 = .ok (.aload_n 1, 1) := by decide +kernel
theorem dL_law_774 : decode cL_law 774 = .ok (.aload_n 0, 1) := by decide +kernel
theorem dL_law_775 : decode cL_law 775 = .ok (.iload_n 3, 1) := by decide +kernel
theorem dL_law_776 : decode cL_law 776 = .ok (.iconst 1, 1) := by decide +kernel
theorem dL_law_777 : decode cL_law 777 = .ok (.iadd, 1) := by decide +kernel
theorem dL_law_778 : decode cL_law 778 = .ok (.iaload, 1) := by decide +kernel
theorem dL_law_779 : decode cL_law 779 = .ok (.aload_n 0, 1) := by decide +kernel
theorem dL_law_780 : decode cL_law 780 = .ok (.iload_n 3, 1) := by decide +kernel
theorem dL_law_781 : decode cL_law 781 = .ok (.iconst 2, 1) := by decide +kernel
theorem dL_law_782 : decode cL_law 782 = .ok (.iadd, 1) := by decide +kernel
theorem dL_law_783 : decode cL_law 783 = .ok (.iaload, 1) := by decide +kernel
theorem dL_law_784 : decode cL_law 784 = .ok (.aload_n 0, 1) := by decide +kernel
theorem dL_law_785 : decode cL_law 785 = .ok (.iload_n 3, 1) := by decide +kernel
theorem dL_law_786 : decode cL_law 786 = .ok (.iconst 3, 1) := by decide +kernel
theorem dL_law_787 : decode cL_law 787 = .ok (.iadd, 1) := by decide +kernel
theorem dL_law_788 : decode cL_law 788 = .ok (.iaload, 1) := by decide +kernel
theorem dL_law_789 : decode cL_law 789 = .ok (.aload_n 0, 1) := by decide +kernel
theorem dL_law_790 : decode cL_law 790 = .ok (.iload_n 3, 1) := by decide +kernel
theorem dL_law_791 : decode cL_law 791 = .ok (.iconst 4, 1) := by decide +kernel
theorem dL_law_792 : decode cL_law 792 = .ok (.iadd, 1) := by decide +kernel
theorem dL_law_793 : decode cL_law 793 = .ok (.iaload, 1) := by decide +kernel
theorem dL_law_794 : decode cL_law 794 = .ok (.aload_n 0, 1) := by decide +kernel
theorem dL_law_795 : decode cL_law 795 = .ok (.iload_n 3, 1) := by decide +kernel
theorem dL_law_796 : decode cL_law 796 = .ok (.iconst 5, 1) := by decide +kernel
theorem dL_law_797 : decode cL_law 797 = .ok (.iadd, 1) := by decide +kernel
theorem dL_law_798 : decode cL_law 798 = .ok (.iaload, 1) := by decide +kernel
theorem dL_law_799 : decode cL_law 799 = .ok (.aload_n 0, 1) := by decide +kernel
theorem dL_law_800 : decode cL_law 800 = .ok (.iload_n 3, 1) := by decide +kernel
theorem dL_law_801 : decode cL_law 801 = .ok (.bipush 6, 2) := by decide +kernel
theorem dL_law_803 : decode cL_law 803 = .ok (.iadd, 1) := by decide +kernel
theorem dL_law_804 : decode cL_law 804 = .ok (.iaload, 1) := by decide +kernel
theorem dL_law_805 : decode cL_law 805 = .ok (.invokevirtual 83, 3) := by decide +kernel
theorem dL_law_808 : decode cL_law 808 = .ok (.aload_n 2, 1) := by decide +kernel
theorem dL_law_809 : decode cL_law 809 = .ok (.aload_n 0, 1) := by decide +kernel
theorem dL_law_810 : decode cL_law 810 = .ok (.iload_n 3, 1) := by decide +kernel
theorem dL_law_811 : decode cL_law 811 = .ok (.iconst 1, 1) := by decide +kernel
theorem dL_law_812 : decode cL_law 812 = .ok (.iadd, 1) := by decide +kernel
theorem dL_law_813 : decode cL_law 813 = .ok (.iaload, 1) := by decide +kernel
theorem dL_law_814 : decode cL_law 814 = .ok (.aload_n 0, 1) := by decide +kernel
theorem dL_law_815 : decode cL_law 815 = .ok (.iload_n 3, 1) := by decide +kernel
theorem dL_law_816 : decode cL_law 816 = .ok (.iconst 2, 1) := by decide +kernel
theorem dL_law_817 : decode cL_law 817 = .ok (.iadd, 1) := by decide +kernel
theorem dL_law_818 : decode cL_law 818 = .ok (.iaload, 1) := by decide +kernel
theorem dL_law_819 : decode cL_law 819 = .ok (.aload_n 0, 1) := by decide +kernel
theorem dL_law_820 : decode cL_law 820 = .ok (.iload_n 3, 1) := by decide +kernel
theorem dL_law_821 : decode cL_law 821 = .ok (.iconst 3, 1) := by decide +kernel
theorem dL_law_822 : decode cL_law 822 = .ok (.iadd, 1) := by decide +kernel
theorem dL_law_823 : decode cL_law 823 = .ok (.iaload, 1) := by decide +kernel
theorem dL_law_824 : decode cL_law 824 = .ok (.aload_n 0, 1) := by decide +kernel
theorem dL_law_825 : decode cL_law 825 = .ok (.iload_n 3, 1) := by decide +kernel
theorem dL_law_826 : decode cL_law 826 = .ok (.iconst 4, 1) := by decide +kernel
theorem dL_law_827 : decode cL_law 827 = .ok (.iadd, 1) := by decide +kernel
theorem dL_law_828 : decode cL_law 828 = .ok (.iaload, 1) := by decide +kernel
theorem dL_law_829 : decode cL_law 829 = .ok (.aload_n 0, 1) := by decide +kernel
theorem dL_law_830 : decode cL_law 830 = .ok (.iload_n 3, 1) := by decide +kernel
theorem dL_law_831 : decode cL_law 831 = .ok (.iconst 5, 1) := by decide +kernel
theorem dL_law_832 : decode cL_law 832 = .ok (.iadd, 1) := by decide +kernel
theorem dL_law_833 : decode cL_law 833 = .ok (.iaload, 1) := by decide +kernel
theorem dL_law_834 : decode cL_law 834 = .ok (.aload_n 0, 1) := by decide +kernel
theorem dL_law_835 : decode cL_law 835 = .ok (.iload_n 3, 1) := by decide +kernel
theorem dL_law_836 : decode cL_law 836 = .ok (.bipush 6, 2) := by decide +kernel
theorem dL_law_838 : decode cL_law 838 = .ok (.iadd, 1) := by decide +kernel
theorem dL_law_839 : decode cL_law 839 = .ok (.iaload, 1) := by decide +kernel
theorem dL_law_840 : decode cL_law 840 = .ok (.invokevirtual 87, 3) := by decide +kernel
theorem dL_law_843 : decode cL_law 843 = .ok (.if_icmp .eq 805, 3) := by decide +kernel
theorem dL_law_846 : decode cL_law 846 = .ok (.iconst 0, 1) := by decide +kernel
theorem dL_law_847 : decode cL_law 847 = .ok (.ireturn, 1) := by decide +kernel
theorem dL_law_848 : decode cL_law 848 = .ok (.aload_n 1, 1) := by decide +kernel
theorem dL_law_849 : decode cL_law 849 = .ok (.aload_n 0, 1) := by decide +kernel
theorem dL_law_850 : decode cL_law 850 = .ok (.iload_n 3, 1) := by decide +kernel
theorem dL_law_851 : decode cL_law 851 = .ok (.iconst 1, 1) := by decide +kernel
theorem dL_law_852 : decode cL_law 852 = .ok (.iadd, 1) := by decide +kernel
theorem dL_law_853 : decode cL_law 853 = .ok (.iaload, 1) := by decide +kernel
theorem dL_law_854 : decode cL_law 854 = .ok (.aload_n 0, 1) := by decide +kernel
theorem dL_law_855 : decode cL_law 855 = .ok (.iload_n 3, 1) := by decide +kernel
theorem dL_law_856 : decode cL_law 856 = .ok (.iconst 2, 1) := by decide +kernel
theorem dL_law_857 : decode cL_law 857 = .ok (.iadd, 1) := by decide +kernel
theorem dL_law_858 : decode cL_law 858 = .ok (.iaload, 1) := by decide +kernel
theorem dL_law_859 : decode cL_law 859 = .ok (.aload_n 0, 1) := by decide +kernel
theorem dL_law_860 : decode cL_law 860 = .ok (.iload_n 3, 1) := by decide +kernel
theorem dL_law_861 : decode cL_law 861 = .ok (.iconst 3, 1) := by decide +kernel
theorem dL_law_862 : decode cL_law 862 = .ok (.iadd, 1) := by decide +kernel
theorem dL_law_863 : decode cL_law 863 = .ok (.iaload, 1) := by decide +kernel
theorem dL_law_864 : decode cL_law 864 = .ok (.aload_n 0, 1) := by decide +kernel
theorem dL_law_865 : decode cL_law 865 = .ok (.iload_n 3, 1) := by decide +kernel
theorem dL_law_866 : decode cL_law 866 = .ok (.iconst 4, 1) := by decide +kernel
theorem dL_law_867 : decode cL_law 867 = .ok (.iadd, 1) := by decide +kernel
theorem dL_law_868 : decode cL_law 868 = .ok (.iaload, 1) := by decide +kernel
theorem dL_law_869 : decode cL_law 869 = .ok (.aload_n 0, 1) := by decide +kernel
theorem dL_law_870 : decode cL_law 870 = .ok (.iload_n 3, 1) := by decide +kernel
theorem dL_law_871 : decode cL_law 871 = .ok (.iconst 5, 1) := by decide +kernel
theorem dL_law_872 : decode cL_law 872 = .ok (.iadd, 1) := by decide +kernel
theorem dL_law_873 : decode cL_law 873 = .ok (.iaload, 1) := by decide +kernel
theorem dL_law_874 : decode cL_law 874 = .ok (.aload_n 0, 1) := by decide +kernel
theorem dL_law_875 : decode cL_law 875 = .ok (.iload_n 3, 1) := by decide +kernel
theorem dL_law_876 : decode cL_law 876 = .ok (.bipush 6, 2) := by decide +kernel
theorem dL_law_878 : decode cL_law 878 = .ok (.iadd, 1) := by decide +kernel
theorem dL_law_879 : decode cL_law 879 = .ok (.iaload, 1) := by decide +kernel
theorem dL_law_880 : decode cL_law 880 = .ok (.invokevirtual 88, 3) := by decide +kernel
theorem dL_law_883 : decode cL_law 883 = .ok (.aload_n 2, 1) := by decide +kernel
theorem dL_law_884 : decode cL_law 884 = .ok (.aload_n 0, 1) := by decide +kernel
theorem dL_law_885 : decode cL_law 885 = .ok (.iload_n 3, 1) := by decide +kernel
theorem dL_law_886 : decode cL_law 886 = .ok (.iconst 1, 1) := by decide +kernel
theorem dL_law_887 : decode cL_law 887 = .ok (.iadd, 1) := by decide +kernel
theorem dL_law_888 : decode cL_law 888 = .ok (.iaload, 1) := by decide +kernel
theorem dL_law_889 : decode cL_law 889 = .ok (.aload_n 0, 1) := by decide +kernel
theorem dL_law_890 : decode cL_law 890 = .ok (.iload_n 3, 1) := by decide +kernel
theorem dL_law_891 : decode cL_law 891 = .ok (.iconst 2, 1) := by decide +kernel
theorem dL_law_892 : decode cL_law 892 = .ok (.iadd, 1) := by decide +kernel
theorem dL_law_893 : decode cL_law 893 = .ok (.iaload, 1) := by decide +kernel
theorem dL_law_894 : decode cL_law 894 = .ok (.aload_n 0, 1) := by decide +kernel
theorem dL_law_895 : decode cL_law 895 = .ok (.iload_n 3, 1) := by decide +kernel
theorem dL_law_896 : decode cL_law 896 = .ok (.iconst 3, 1) := by decide +kernel
theorem dL_law_897 : decode cL_law 897 = .ok (.iadd, 1) := by decide +kernel
theorem dL_law_898 : decode cL_law 898 = .ok (.iaload, 1) := by decide +kernel
theorem dL_law_899 : decode cL_law 899 = .ok (.aload_n 0, 1) := by decide +kernel
theorem dL_law_900 : decode cL_law 900 = .ok (.iload_n 3, 1) := by decide +kernel
theorem dL_law_901 : decode cL_law 901 = .ok (.iconst 4, 1) := by decide +kernel
theorem dL_law_902 : decode cL_law 902 = .ok (.iadd, 1) := by decide +kernel
theorem dL_law_903 : decode cL_law 903 = .ok (.iaload, 1) := by decide +kernel
theorem dL_law_904 : decode cL_law 904 = .ok (.aload_n 0, 1) := by decide +kernel
theorem dL_law_905 : decode cL_law 905 = .ok (.iload_n 3, 1) := by decide +kernel
theorem dL_law_906 : decode cL_law 906 = .ok (.iconst 5, 1) := by decide +kernel
theorem dL_law_907 : decode cL_law 907 = .ok (.iadd, 1) := by decide +kernel
theorem dL_law_908 : decode cL_law 908 = .ok (.iaload, 1) := by decide +kernel
theorem dL_law_909 : decode cL_law 909 = .ok (.aload_n 0, 1) := by decide +kernel
theorem dL_law_910 : decode cL_law 910 = .ok (.iload_n 3, 1) := by decide +kernel
theorem dL_law_911 : decode cL_law 911 = .ok (.bipush 6, 2) := by decide +kernel
theorem dL_law_913 : decode cL_law 913 = .ok (.iadd, 1) := by decide +kernel
theorem dL_law_914 : decode cL_law 914 = .ok (.iaload, 1) := by decide +kernel
theorem dL_law_915 : decode cL_law 915 = .ok (.invokevirtual 91, 3) := by decide +kernel
theorem dL_law_918 : decode cL_law 918 = .ok (.if_icmp .eq 730, 3) := by decide +kernel
theorem dL_law_921 : decode cL_law 921 = .ok (.iconst 0, 1) := by decide +kernel
theorem dL_law_922 : decode cL_law 922 = .ok (.ireturn, 1) := by decide +kernel
theorem dL_law_923 : decode cL_law 923 = .ok (.aload_n 1, 1) := by decide +kernel
theorem dL_law_924 : decode cL_law 924 = .ok (.aload_n 0, 1) := by decide +kernel
theorem dL_law_925 : decode cL_law 925 = .ok (.iload_n 3, 1) := by decide +kernel
theorem dL_law_926 : decode cL_law 926 = .ok (.iconst 1, 1) := by decide +kernel
theorem dL_law_927 : decode cL_law 927 = .ok (.iadd, 1) := by decide +kernel
theorem dL_law_928 : decode cL_law 928 = .ok (.iaload, 1) := by decide +kernel
theorem dL_law_929 : decode cL_law 929 = .ok (.aload_n 0, 1) := by decide +kernel
theorem dL_law_930 : decode cL_law 930 = .ok (.iload_n 3, 1) := by decide +kernel
theorem dL_law_931 : decode cL_law 931 = .ok (.iconst 2, 1) := by decide +kernel
theorem dL_law_932 : decode cL_law 932 = .ok (.iadd, 1) := by decide +kernel
theorem dL_law_933 : decode cL_law 933 = .ok (.iaload, 1) := by decide +kernel
theorem dL_law_934 : decode cL_law 934 = .ok (.aload_n 0, 1) := by decide +kernel
theorem dL_law_935 : decode cL_law 935 = .ok (.iload_n 3, 1) := by decide +kernel
theorem dL_law_936 : decode cL_law 936 = .ok (.iconst 3, 1) := by decide +kernel
theorem dL_law_937 : decode cL_law 937 = .ok (.iadd, 1) := by decide +kernel
theorem dL_law_938 : decode cL_law 938 = .ok (.iaload, 1) := by decide +kernel
theorem dL_law_939 : decode cL_law 939 = .ok (.aload_n 0, 1) := by decide +kernel
theorem dL_law_940 : decode cL_law 940 = .ok (.iload_n 3, 1) := by decide +kernel
theorem dL_law_941 : decode cL_law 941 = .ok (.iconst 4, 1) := by decide +kernel
theorem dL_law_942 : decode cL_law 942 = .ok (.iadd, 1) := by decide +kernel
theorem dL_law_943 : decode cL_law 943 = .ok (.iaload, 1) := by decide +kernel
theorem dL_law_944 : decode cL_law 944 = .ok (.aload_n 0, 1) := by decide +kernel
theorem dL_law_945 : decode cL_law 945 = .ok (.iload_n 3, 1) := by decide +kernel
theorem dL_law_946 : decode cL_law 946 = .ok (.iconst 5, 1) := by decide +kernel
theorem dL_law_947 : decode cL_law 947 = .ok (.iadd, 1) := by decide +kernel
theorem dL_law_948 : decode cL_law 948 = .ok (.iaload, 1) := by decide +kernel
theorem dL_law_949 : decode cL_law 949 = .ok (.aload_n 0, 1) := by decide +kernel
theorem dL_law_950 : decode cL_law 950 = .ok (.iload_n 3, 1) := by decide +kernel
theorem dL_law_951 : decode cL_law 951 = .ok (.bipush 6, 2) := by decide +kernel
theorem dL_law_953 : decode cL_law 953 = .ok (.iadd, 1) := by decide +kernel
theorem dL_law_954 : decode cL_law 954 = .ok (.iaload, 1) := by decide +kernel
theorem dL_law_955 : decode cL_law 955 = .ok (.aload_n 0, 1) := by decide +kernel
theorem dL_law_956 : decode cL_law 956 = .ok (.iload_n 3, 1) := by decide +kernel
theorem dL_law_957 : decode cL_law 957 = .ok (.bipush 7, 2) := by decide +kernel
theorem dL_law_959 : decode cL_law 959 = .ok (.iadd, 1) := by decide +kernel
theorem dL_law_960 : decode cL_law 960 = .ok (.iaload, 1) := by decide +kernel
theorem dL_law_961 : decode cL_law 961 = .ok (.invokevirtual 92, 3) := by decide +kernel
theorem dL_law_964 : decode cL_law 964 = .ok (.aload_n 2, 1) := by decide +kernel
theorem dL_law_965 : decode cL_law 965 = .ok (.aload_n 0, 1) := by decide +kernel
theorem dL_law_966 : decode cL_law 966 = .ok (.iload_n 3, 1) := by decide +kernel
theorem dL_law_967 : decode cL_law 967 = .ok (.iconst 1, 1) := by decide +kernel
theorem dL_law_968 : decode cL_law 968 = .ok (.iadd, 1) := by decide +kernel
theorem dL_law_969 : decode cL_law 969 = .ok (.iaload, 1) := by decide +kernel
theorem dL_law_970 : decode cL_law 970 = .ok (.aload_n 0, 1) := by decide +kernel
theorem dL_law_971 : decode cL_law 971 = .ok (.iload_n 3, 1) := by decide +kernel
theorem dL_law_972 : decode cL_law 972 = .ok (.iconst 2, 1) := by decide +kernel
theorem dL_law_973 : decode cL_law 973 = .ok (.iadd, 1) := by decide +kernel
theorem dL_law_974 : decode cL_law 974 = .ok (.iaload, 1) := by decide +kernel
theorem dL_law_975 : decode cL_law 975 = .ok (.aload_n 0, 1) := by decide +kernel
theorem dL_law_976 : decode cL_law 976 = .ok (.iload_n 3, 1) := by decide +kernel
theorem dL_law_977 : decode cL_law 977 = .ok (.iconst 3, 1) := by decide +kernel
theorem dL_law_978 : decode cL_law 978 = .ok (.iadd, 1) := by decide +kernel
theorem dL_law_979 : decode cL_law 979 = .ok (.iaload, 1) := by decide +kernel
theorem dL_law_980 : decode cL_law 980 = .ok (.aload_n 0, 1) := by decide +kernel
theorem dL_law_981 : decode cL_law 981 = .ok (.iload_n 3, 1) := by decide +kernel
theorem dL_law_982 : decode cL_law 982 = .ok (.iconst 4, 1) := by decide +kernel
theorem dL_law_983 : decode cL_law 983 = .ok (.iadd, 1) := by decide +kernel
theorem dL_law_984 : decode cL_law 984 = .ok (.iaload, 1) := by decide +kernel
theorem dL_law_985 : decode cL_law 985 = .ok (.aload_n 0, 1) := by decide +kernel
theorem dL_law_986 : decode cL_law 986 = .ok (.iload_n 3, 1) := by decide +kernel
theorem dL_law_987 : decode cL_law 987 = .ok (.iconst 5, 1) := by decide +kernel
theorem dL_law_988 : decode cL_law 988 = .ok (.iadd, 1) := by decide +kernel
theorem dL_law_989 : decode cL_law 989 = .ok (.iaload, 1) := by decide +kernel
theorem dL_law_990 : decode cL_law 990 = .ok (.aload_n 0, 1) := by decide +kernel
theorem dL_law_991 : decode cL_law 991 = .ok (.iload_n 3, 1) := by decide +kernel
theorem dL_law_992 : decode cL_law 992 = .ok (.bipush 6, 2) := by decide +kernel
theorem dL_law_994 : decode cL_law 994 = .ok (.iadd, 1) := by decide +kernel
theorem dL_law_995 : decode cL_law 995 = .ok (.iaload, 1) := by decide +kernel
theorem dL_law_996 : decode cL_law 996 = .ok (.aload_n 0, 1) := by decide +kernel
theorem dL_law_997 : decode cL_law 997 = .ok (.iload_n 3, 1) := by decide +kernel
theorem dL_law_998 : decode cL_law 998 = .ok (.bipush 7, 2) := by decide +kernel
theorem dL_law_1000 : decode cL_law 1000 = .ok (.iadd, 1) := by decide +kernel
theorem dL_law_1001 : decode cL_law 1001 = .ok (.iaload, 1) := by decide +kernel
theorem dL_law_1002 : decode cL_law 1002 = .ok (.invokevirtual 96, 3) := by decide +kernel
theorem dL_law_1005 : decode cL_law 1005 = .ok (.if_icmp .eq 643, 3) := by decide +kernel
theorem dL_law_1008 : decode cL_law 1008 = .ok (.iconst 0, 1) := by decide +kernel
theorem dL_law_1009 : decode cL_law 1009 = .ok (.ireturn, 1) := by decide +kernel
theorem dL_law_1010 : decode cL_law 1010 = .ok (.aload_n 1, 1) := by decide +kernel
theorem dL_law_1011 : decode cL_law 1011 = .ok (.aload_n 0, 1) := by decide +kernel
theorem dL_law_1012 : decode cL_law 1012 = .ok (.iload_n 3, 1) := by decide +kernel
theorem dL_law_1013 : decode cL_law 1013 = .ok (.iconst 1, 1) := by decide +kernel
theorem dL_law_1014 : decode cL_law 1014 = .ok (.iadd, 1) := by decide +kernel
theorem dL_law_1015 : decode cL_law 1015 = .ok (.iaload, 1) := by decide +kernel
theorem dL_law_1016 : decode cL_law 1016 = .ok (.aload_n 0, 1) := by decide +kernel
theorem dL_law_1017 : decode cL_law 1017 = .ok (.iload_n 3, 1) := by decide +kernel
theorem dL_law_1018 : decode cL_law 1018 = .ok (.iconst 2, 1) := by decide +kernel
theorem dL_law_1019 : decode cL_law 1019 = .ok (.iadd, 1) := by decide +kernel
theorem dL_law_1020 : decode cL_law 1020 = .ok (.iaload, 1) := by decide +kernel
theorem dL_law_1021 : decode cL_law 1021 = .ok (.aload_n 0, 1) := by decide +kernel
theorem dL_law_1022 : decode cL_law 1022 = .ok (.iload_n 3, 1) := by decide +kernel
theorem dL_law_1023 : decode cL_law 1023 = .ok (.iconst 3, 1) := by decide +kernel
theorem dL_law_1024 : decode cL_law 1024 = .ok (.iadd, 1) := by decide +kernel
theorem dL_law_1025 : decode cL_law 1025 = .ok (.iaload, 1) := by decide +kernel
theorem dL_law_1026 : decode cL_law 1026 = .ok (.aload_n 0, 1) := by decide +kernel
theorem dL_law_1027 : decode cL_law 1027 = .ok (.iload_n 3, 1) := by decide +kernel
theorem dL_law_1028 : decode cL_law 1028 = .ok (.iconst 4, 1) := by decide +kernel
theorem dL_law_1029 : decode cL_law 1029 = .ok (.iadd, 1) := by decide +kernel
theorem dL_law_1030 : decode cL_law 1030 = .ok (.iaload, 1) := by decide +kernel
theorem dL_law_1031 : decode cL_law 1031 = .ok (.invokevirtual 97, 3) := by decide +kernel
theorem dL_law_1034 : decode cL_law 1034 = .ok (.aload_n 2, 1) := by decide +kernel
theorem dL_law_1035 : decode cL_law 1035 = .ok (.aload_n 0, 1) := by decide +kernel
theorem dL_law_1036 : decode cL_law 1036 = .ok (.iload_n 3, 1) := by decide +kernel
theorem dL_law_1037 : decode cL_law 1037 = .ok (.iconst 1, 1) := by decide +kernel
theorem dL_law_1038 : decode cL_law 1038 = .ok (.iadd, 1) := by decide +kernel
theorem dL_law_1039 : decode cL_law 1039 = .ok (.iaload, 1) := by decide +kernel
theorem dL_law_1040 : decode cL_law 1040 = .ok (.aload_n 0, 1) := by decide +kernel
theorem dL_law_1041 : decode cL_law 1041 = .ok (.iload_n 3, 1) := by decide +kernel
theorem dL_law_1042 : decode cL_law 1042 = .ok (.iconst 2, 1) := by decide +kernel
theorem dL_law_1043 : decode cL_law 1043 = .ok (.iadd, 1) := by decide +kernel
theorem dL_law_1044 : decode cL_law 1044 = .ok (.iaload, 1) := by decide +kernel
theorem dL_law_1045 : decode cL_law 1045 = .ok (.aload_n 0, 1) := by decide +kernel
theorem dL_law_1046 : decode cL_law 1046 = .ok (.iload_n 3, 1) := by decide +kernel
theorem dL_law_1047 : decode cL_law 1047 = .ok (.iconst 3, 1) := by decide +kernel
theorem dL_law_1048 : decode cL_law 1048 = .ok (.iadd, 1) := by decide +kernel
theorem dL_law_1049 : decode cL_law 1049 = .ok (.iaload, 1) := by decide +kernel
theorem dL_law_1050 : decode cL_law 1050 = .ok (.aload_n 0, 1) := by decide +kernel
theorem dL_law_1051 : decode cL_law 1051 = .ok (.iload_n 3, 1) := by decide +kernel
theorem dL_law_1052 : decode cL_law 1052 = .ok (.iconst 4, 1) := by decide +kernel
theorem dL_law_1053 : decode cL_law 1053 = .ok (.iadd, 1) := by decide +kernel
theorem dL_law_1054 : decode cL_law 1054 = .ok (.iaload, 1) := by decide +kernel
theorem dL_law_1055 : decode cL_law 1055 = .ok (.invokevirtual 100, 3) := by decide +kernel
theorem dL_law_1058 : decode cL_law 1058 = .ok (.if_icmp .eq 590, 3) := by decide +kernel
theorem dL_law_1061 : decode cL_law 1061 = .ok (.iconst 0, 1) := by decide +kernel
theorem dL_law_1062 : decode cL_law 1062 = .ok (.ireturn, 1) := by decide +kernel
theorem dL_law_1063 : decode cL_law 1063 = .ok (.aload_n 1, 1) := by decide +kernel
theorem dL_law_1064 : decode cL_law 1064 = .ok (.aload_n 0, 1) := by decide +kernel
theorem dL_law_1065 : decode cL_law 1065 = .ok (.iload_n 3, 1) := by decide +kernel
theorem dL_law_1066 : decode cL_law 1066 = .ok (.iconst 1, 1) := by decide +kernel
theorem dL_law_1067 : decode cL_law 1067 = .ok (.iadd, 1) := by decide +kernel
theorem dL_law_1068 : decode cL_law 1068 = .ok (.iaload, 1) := by decide +kernel
theorem dL_law_1069 : decode cL_law 1069 = .ok (.aload_n 0, 1) := by decide +kernel
theorem dL_law_1070 : decode cL_law 1070 = .ok (.iload_n 3, 1) := by decide +kernel
theorem dL_law_1071 : decode cL_law 1071 = .ok (.iconst 2, 1) := by decide +kernel
theorem dL_law_1072 : decode cL_law 1072 = .ok (.iadd, 1) := by decide +kernel
theorem dL_law_1073 : decode cL_law 1073 = .ok (.iaload, 1) := by decide +kernel
theorem dL_law_1074 : decode cL_law 1074 = .ok (.aload_n 0, 1) := by decide +kernel
theorem dL_law_1075 : decode cL_law 1075 = .ok (.iload_n 3, 1) := by decide +kernel
theorem dL_law_1076 : decode cL_law 1076 = .ok (.iconst 3, 1) := by decide +kernel
theorem dL_law_1077 : decode cL_law 1077 = .ok (.iadd, 1) := by decide +kernel
theorem dL_law_1078 : decode cL_law 1078 = .ok (.iaload, 1) := by decide +kernel
theorem dL_law_1079 : decode cL_law 1079 = .ok (.aload_n 0, 1) := by decide +kernel
theorem dL_law_1080 : decode cL_law 1080 = .ok (.iload_n 3, 1) := by decide +kernel
theorem dL_law_1081 : decode cL_law 1081 = .ok (.iconst 4, 1) := by decide +kernel
theorem dL_law_1082 : decode cL_law 1082 = .ok (.iadd, 1) := by decide +kernel
theorem dL_law_1083 : decode cL_law 1083 = .ok (.iaload, 1) := by decide +kernel
theorem dL_law_1084 : decode cL_law 1084 = .ok (.invokevirtual 101, 3) := by decide +kernel
theorem dL_law_1087 : decode cL_law 1087 = .ok (.aload_n 2, 1) := by decide +kernel
theorem dL_law_1088 : decode cL_law 1088 = .ok (.aload_n 0, 1) := by decide +kernel
theorem dL_law_1089 : decode cL_law 1089 = .ok (.iload_n 3, 1) := by decide +kernel
theorem dL_law_1090 : decode cL_law 1090 = .ok (.iconst 1, 1) := by decide +kernel
theorem dL_law_1091 : decode cL_law 1091 = .ok (.iadd, 1) := by decide +kernel
theorem dL_law_1092 : decode cL_law 1092 = .ok (.iaload, 1) := by decide +kernel
theorem dL_law_1093 : decode cL_law 1093 = .ok (.aload_n 0, 1) := by decide +kernel
theorem dL_law_1094 : decode cL_law 1094 = .ok (.iload_n 3, 1) := by decide +kernel
theorem dL_law_1095 : decode cL_law 1095 = .ok (.iconst 2, 1) := by decide +kernel
theorem dL_law_1096 : decode cL_law 1096 = .ok (.iadd, 1) := by decide +kernel
theorem dL_law_1097 : decode cL_law 1097 = .ok (.iaload, 1) := by decide +kernel
theorem dL_law_1098 : decode cL_law 1098 = .ok (.aload_n 0, 1) := by decide +kernel
theorem dL_law_1099 : decode cL_law 1099 = .ok (.iload_n 3, 1) := by decide +kernel
theorem dL_law_1100 : decode cL_law 1100 = .ok (.iconst 3, 1) := by decide +kernel
theorem dL_law_1101 : decode cL_law 1101 = .ok (.iadd, 1) := by decide +kernel
theorem dL_law_1102 : decode cL_law 1102 = .ok (.iaload, 1) := by decide +kernel
theorem dL_law_1103 : decode cL_law 1103 = .ok (.aload_n 0, 1) := by decide +kernel
theorem dL_law_1104 : decode cL_law 1104 = .ok (.iload_n 3, 1) := by decide +kernel
theorem dL_law_1105 : decode cL_law 1105 = .ok (.iconst 4, 1) := by decide +kernel
theorem dL_law_1106 : decode cL_law 1106 = .ok (.iadd, 1) := by decide +kernel
theorem dL_law_1107 : decode cL_law 1107 = .ok (.iaload, 1) := by decide +kernel
theorem dL_law_1108 : decode cL_law 1108 = .ok (.invokevirtual 104, 3) := by decide +kernel
theorem dL_law_1111 : decode cL_law 1111 = .ok (.if_icmp .eq 537, 3) := by decide +kernel
theorem dL_law_1114 : decode cL_law 1114 = .ok (.iconst 0, 1) := by decide +kernel
theorem dL_law_1115 : decode cL_law 1115 = .ok (.ireturn, 1) := by decide +kernel
theorem dL_law_1116 : decode cL_law 1116 = .ok (.aload_n 1, 1) := by decide +kernel
theorem dL_law_1117 : decode cL_law 1117 = .ok (.aload_n 0, 1) := by decide +kernel
theorem dL_law_1118 : decode cL_law 1118 = .ok (.iload_n 3, 1) := by decide +kernel
theorem dL_law_1119 : decode cL_law 1119 = .ok (.iconst 1, 1) := by decide +kernel
theorem dL_law_1120 : decode cL_law 1120 = .ok (.iadd, 1) := by decide +kernel
theorem dL_law_1121 : decode cL_law 1121 = .ok (.iaload, 1) := by decide +kernel
theorem dL_law_1122 : decode cL_law 1122 = .ok (.aload_n 0, 1) := by decide +kernel
theorem dL_law_1123 : decode cL_law 1123 = .ok (.iload_n 3, 1) := by decide +kernel
theorem dL_law_1124 : decode cL_law 1124 = .ok (.iconst 2, 1) := by decide +kernel
theorem dL_law_1125 : decode cL_law 1125 = .ok (.iadd, 1) := by decide +kernel
theorem dL_law_1126 : decode cL_law 1126 = .ok (.iaload, 1) := by decide +kernel
theorem dL_law_1127 : decode cL_law 1127 = .ok (.aload_n 0, 1) := by decide +kernel
theorem dL_law_1128 : decode cL_law 1128 = .ok (.iload_n 3, 1) := by decide +kernel
theorem dL_law_1129 : decode cL_law 1129 = .ok (.iconst 3, 1) := by decide +kernel
theorem dL_law_1130 : decode cL_law 1130 = .ok (.iadd, 1) := by decide +kernel
theorem dL_law_1131 : decode cL_law 1131 = .ok (.iaload, 1) := by decide +kernel
theorem dL_law_1132 : decode cL_law 1132 = .ok (.invokevirtual 105, 3) := by decide +kernel
theorem dL_law_1135 : decode cL_law 1135 = .ok (.aload_n 2, 1) := by decide +kernel
theorem dL_law_1136 : decode cL_law 1136 = .ok (.aload_n 0, 1) := by decide +kernel
theorem dL_law_1137 : decode cL_law 1137 = .ok (.iload_n 3, 1) := by decide +kernel
theorem dL_law_1138 : decode cL_law 1138 = .ok (.iconst 1, 1) := by decide +kernel
theorem dL_law_1139 : decode cL_law 1139 = .ok (.iadd, 1) := by decide +kernel
theorem dL_law_1140 : decode cL_law 1140 = .ok (.iaload, 1) := by decide +kernel
theorem dL_law_1141 : decode cL_law 1141 = .ok (.aload_n 0, 1) := by decide +kernel
theorem dL_law_1142 : decode cL_law 1142 = .ok (.iload_n 3, 1) := by decide +kernel
theorem dL_law_1143 : decode cL_law 1143 = .ok (.iconst 2, 1) := by decide +kernel
theorem dL_law_1144 : decode cL_law 1144 = .ok (.iadd, 1) := by decide +kernel
theorem dL_law_1145 : decode cL_law 1145 = .ok (.iaload, 1) := by decide +kernel
theorem dL_law_1146 : decode cL_law 1146 = .ok (.aload_n 0, 1) := by decide +kernel
theorem dL_law_1147 : decode cL_law 1147 = .ok (.iload_n 3, 1) := by decide +kernel
theorem dL_law_1148 : decode cL_law 1148 = .ok (.iconst 3, 1) := by decide +kernel
theorem dL_law_1149 : decode cL_law 1149 = .ok (.iadd, 1) := by decide +kernel
theorem dL_law_1150 : decode cL_law 1150 = .ok (.iaload, 1) := by decide +kernel
theorem dL_law_1151 : decode cL_law 1151 = .ok (.invokevirtual 108, 3) := by decide +kernel
theorem dL_law_1154 : decode cL_law 1154 = .ok (.if_icmp .eq 494, 3) := by decide +kernel
theorem dL_law_1157 : decode cL_law 1157 = .ok (.iconst 0, 1) := by decide +kernel
theorem dL_law_1158 : decode cL_law 1158 = .ok (.ireturn, 1) := by decide +kernel
theorem dL_law_1159 : decode cL_law 1159 = .ok (.aload_n 1, 1) := by decide +kernel
theorem dL_law_1160 : decode cL_law 1160 = .ok (.aload_n 0, 1) := by decide +kernel
theorem dL_law_1161 : decode cL_law 1161 = .ok (.iload_n 3, 1) := by decide +kernel
theorem dL_law_1162 : decode cL_law 1162 = .ok (.iconst 1, 1) := by decide +kernel
theorem dL_law_1163 : decode cL_law 1163 = .ok (.iadd, 1) := by decide +kernel
theorem dL_law_1164 : decode cL_law 1164 = .ok (.iaload, 1) := by decide +kernel
theorem dL_law_1165 : decode cL_law 1165 = .ok (.invokevirtual 109, 3) := by decide +kernel
theorem dL_law_1168 : decode cL_law 1168 = .ok (.aload_n 2, 1) := by decide +kernel
theorem dL_law_1169 : decode cL_law 1169 = .ok (.aload_n 0, 1) := by decide +kernel
theorem dL_law_1170 : decode cL_law 1170 = .ok (.iload_n 3, 1) := by decide +kernel
theorem dL_law_1171 : decode cL_law 1171 = .ok (.iconst 1, 1) := by decide +kernel
theorem dL_law_1172 : decode cL_law 1172 = .ok (.iadd, 1) := by decide +kernel
theorem dL_law_1173 : decode cL_law 1173 = .ok (.iaload, 1) := by decide +kernel
theorem dL_law_1174 : decode cL_law 1174 = .ok (.invokevirtual 113, 3) := by decide +kernel
theorem dL_law_1177 : decode cL_law 1177 = .ok (.if_icmp .eq 471, 3) := by decide +kernel
theorem dL_law_1180 : decode cL_law 1180 = .ok (.iconst 0, 1) := by decide +kernel
theorem dL_law_1181 : decode cL_law 1181 = .ok (.ireturn, 1) := by decide +kernel
theorem dL_law_1182 : decode cL_law 1182 = .ok (.aload_n 1, 1) := by decide +kernel
theorem dL_law_1183 : decode cL_law 1183 = .ok (.aload_n 0, 1) := by decide +kernel
theorem dL_law_1184 : decode cL_law 1184 = .ok (.iload_n 3, 1) := by decide +kernel
theorem dL_law_1185 : decode cL_law 1185 = .ok (.iconst 1, 1) := by decide +kernel
theorem dL_law_1186 : decode cL_law 1186 = .ok (.iadd, 1) := by decide +kernel
theorem dL_law_1187 : decode cL_law 1187 = .ok (.iaload, 1) := by decide +kernel
theorem dL_law_1188 : decode cL_law 1188 = .ok (.aload_n 0, 1) := by decide +kernel
theorem dL_law_1189 : decode cL_law 1189 = .ok (.iload_n 3, 1) := by decide +kernel
theorem dL_law_1190 : decode cL_law 1190 = .ok (.iconst 2, 1) := by decide +kernel
theorem dL_law_1191 : decode cL_law 1191 = .ok (.iadd, 1) := by decide +kernel
theorem dL_law_1192 : decode cL_law 1192 = .ok (.iaload, 1) := by decide +kernel
theorem dL_law_1193 : decode cL_law 1193 = .ok (.aload_n 0, 1) := by decide +kernel
theorem dL_law_1194 : decode cL_law 1194 = .ok (.iload_n 3, 1) := by decide +kernel
theorem dL_law_1195 : decode cL_law 1195 = .ok (.iconst 3, 1) := by decide +kernel
theorem dL_law_1196 : decode cL_law 1196 = .ok (.iadd, 1) := by decide +kernel
theorem dL_law_1197 : decode cL_law 1197 = .ok (.iaload, 1) := by decide +kernel
theorem dL_law_1198 : decode cL_law 1198 = .ok (.aload_n 0, 1) := by decide +kernel
theorem dL_law_1199 : decode cL_law 1199 = .ok (.iload_n 3, 1) := by decide +kernel
theorem dL_law_1200 : decode cL_law 1200 = .ok (.iconst 4, 1) := by decide +kernel
theorem dL_law_1201 : decode cL_law 1201 = .ok (.iadd, 1) := by decide +kernel
theorem dL_law_1202 : decode cL_law 1202 = .ok (.iaload, 1) := by decide +kernel
theorem dL_law_1203 : decode cL_law 1203 = .ok (.aload_n 0, 1) := by decide +kernel
theorem dL_law_1204 : decode cL_law 1204 = .ok (.iload_n 3, 1) := by decide +kernel
theorem dL_law_1205 : decode cL_law 1205 = .ok (.iconst 5, 1) := by decide +kernel
theorem dL_law_1206 : decode cL_law 1206 = .ok (.iadd, 1) := by decide +kernel
theorem dL_law_1207 : decode cL_law 1207 = .ok (.iaload, 1) := by decide +kernel
theorem dL_law_1208 : decode cL_law 1208 = .ok (.invokevirtual 114, 3) := by decide +kernel
theorem dL_law_1211 : decode cL_law 1211 = .ok (.aload_n 2, 1) := by decide +kernel
theorem dL_law_1212 : decode cL_law 1212 = .ok (.aload_n 0, 1) := by decide +kernel
theorem dL_law_1213 : decode cL_law 1213 = .ok (.iload_n 3, 1) := by decide +kernel
theorem dL_law_1214 : decode cL_law 1214 = .ok (.iconst 1, 1) := by decide +kernel
theorem dL_law_1215 : decode cL_law 1215 = .ok (.iadd, 1) := by decide +kernel
theorem dL_law_1216 : decode cL_law 1216 = .ok (.iaload, 1) := by decide +kernel
theorem dL_law_1217 : decode cL_law 1217 = .ok (.aload_n 0, 1) := by decide +kernel
theorem dL_law_1218 : decode cL_law 1218 = .ok (.iload_n 3, 1) := by decide +kernel
theorem dL_law_1219 : decode cL_law 1219 = .ok (.iconst 2, 1) := by decide +kernel
theorem dL_law_1220 : decode cL_law 1220 = .ok (.iadd, 1) := by decide +kernel
theorem dL_law_1221 : decode cL_law 1221 = .ok (.iaload, 1) := by decide +kernel
theorem dL_law_1222 : decode cL_law 1222 = .ok (.aload_n 0, 1) := by decide +kernel
theorem dL_law_1223 : decode cL_law 1223 = .ok (.iload_n 3, 1) := by decide +kernel
theorem dL_law_1224 : decode cL_law 1224 = .ok (.iconst 3, 1) := by decide +kernel
theorem dL_law_1225 : decode cL_law 1225 = .ok (.iadd, 1) := by decide +kernel
theorem dL_law_1226 : decode cL_law 1226 = .ok (.iaload, 1) := by decide +kernel
theorem dL_law_1227 : decode cL_law 1227 = .ok (.aload_n 0, 1) := by decide +kernel
theorem dL_law_1228 : decode cL_law 1228 = .ok (.iload_n 3, 1) := by decide +kernel
theorem dL_law_1229 : decode cL_law 1229 = .ok (.iconst 4, 1) := by decide +kernel
theorem dL_law_1230 : decode cL_law 1230 = .ok (.iadd, 1) := by decide +kernel
theorem dL_law_1231 : decode cL_law 1231 = .ok (.iaload, 1) := by decide +kernel
theorem dL_law_1232 : decode cL_law 1232 = .ok (.aload_n 0, 1) := by decide +kernel
theorem dL_law_1233 : decode cL_law 1233 = .ok (.iload_n 3, 1) := by decide +kernel
theorem dL_law_1234 : decode cL_law 1234 = .ok (.iconst 5, 1) := by decide +kernel
theorem dL_law_1235 : decode cL_law 1235 = .ok (.iadd, 1) := by decide +kernel
theorem dL_law_1236 : decode cL_law 1236 = .ok (.iaload, 1) := by decide +kernel
theorem dL_law_1237 : decode cL_law 1237 = .ok (.invokevirtual 118, 3) := by decide +kernel
theorem dL_law_1240 : decode cL_law 1240 = .ok (.if_icmp .eq 408, 3) := by decide +kernel
theorem dL_law_1243 : decode cL_law 1243 = .ok (.iconst 0, 1) := by decide +kernel
theorem dL_law_1244 : decode cL_law 1244 = .ok (.ireturn, 1) := by decide +kernel
theorem dL_law_1245 : decode cL_law 1245 = .ok (.aload_n 1, 1) := by decide +kernel
theorem dL_law_1246 : decode cL_law 1246 = .ok (.aload_n 0, 1) := by decide +kernel
theorem dL_law_1247 : decode cL_law 1247 = .ok (.iload_n 3, 1) := by decide +kernel
theorem dL_law_1248 : decode cL_law 1248 = .ok (.iconst 1, 1) := by decide +kernel
theorem dL_law_1249 : decode cL_law 1249 = .ok (.iadd, 1) := by decide +kernel
theorem dL_law_1250 : decode cL_law 1250 = .ok (.iaload, 1) := by decide +kernel
theorem dL_law_1251 : decode cL_law 1251 = .ok (.aload_n 0, 1) := by decide +kernel
theorem dL_law_1252 : decode cL_law 1252 = .ok (.iload_n 3, 1) := by decide +kernel
theorem dL_law_1253 : decode cL_law 1253 = .ok (.iconst 2, 1) := by decide +kernel
theorem dL_law_1254 : decode cL_law 1254 = .ok (.iadd, 1) := by decide +kernel
theorem dL_law_1255 : decode cL_law 1255 = .ok (.iaload, 1) := by decide +kernel
theorem dL_law_1256 : decode cL_law 1256 = .ok (.invokevirtual 119, 3) := by decide +kernel
theorem dL_law_1259 : decode cL_law 1259 = .ok (.aload_n 2, 1) := by decide +kernel
theorem dL_law_1260 : decode cL_law 1260 = .ok (.aload_n 0, 1) := by decide +kernel
theorem dL_law_1261 : decode cL_law 1261 = .ok (.iload_n 3, 1) := by decide +kernel
theorem dL_law_1262 : decode cL_law 1262 = .ok (.iconst 1, 1) := by decide +kernel
theorem dL_law_1263 : decode cL_law 1263 = .ok (.iadd, 1) := by decide +kernel
theorem dL_law_1264 : decode cL_law 1264 = .ok (.iaload, 1) := by decide +kernel
theorem dL_law_1265 : decode cL_law 1265 = .ok (.aload_n 0, 1) := by decide +kernel
theorem dL_law_1266 : decode cL_law 1266 = .ok (.iload_n 3, 1) := by decide +kernel
theorem dL_law_1267 : decode cL_law 1267 = .ok (.iconst 2, 1) := by decide +kernel
theorem dL_law_1268 : decode cL_law 1268 = .ok (.iadd, 1) := by decide +kernel
theorem dL_law_1269 : decode cL_law 1269 = .ok (.iaload, 1) := by decide +kernel
theorem dL_law_1270 : decode cL_law 1270 = .ok (.invokevirtual 122, 3) := by decide +kernel
theorem dL_law_1273 : decode cL_law 1273 = .ok (.if_icmp .eq 375, 3) := by decide +kernel
theorem dL_law_1276 : decode cL_law 1276 = .ok (.iconst 0, 1) := by decide +kernel
theorem dL_law_1277 : decode cL_law 1277 = .ok (.ireturn, 1) := by decide +kernel
theorem dL_law_1278 : decode cL_law 1278 = .ok (.aload_n 1, 1) := by decide +kernel
theorem dL_law_1279 : decode cL_law 1279 = .ok (.aload_n 0, 1) := by decide +kernel
theorem dL_law_1280 : decode cL_law 1280 = .ok (.iload_n 3, 1) := by decide +kernel
theorem dL_law_1281 : decode cL_law 1281 = .ok (.iconst 1, 1) := by decide +kernel
theorem dL_law_1282 : decode cL_law 1282 = .ok (.iadd, 1) := by decide +kernel
theorem dL_law_1283 : decode cL_law 1283 = .ok (.iaload, 1) := by decide +kernel
theorem dL_law_1284 : decode cL_law 1284 = .ok (.invokevirtual 123, 3) := by decide +kernel
theorem dL_law_1287 : decode cL_law 1287 = .ok (.aload_n 2, 1) := by decide +kernel
theorem dL_law_1288 : decode cL_law 1288 = .ok (.aload_n 0, 1) := by decide +kernel
theorem dL_law_1289 : decode cL_law 1289 = .ok (.iload_n 3, 1) := by decide +kernel
theorem dL_law_1290 : decode cL_law 1290 = .ok (.iconst 1, 1) := by decide +kernel
theorem dL_law_1291 : decode cL_law 1291 = .ok (.iadd, 1) := by decide +kernel
theorem dL_law_1292 : decode cL_law 1292 = .ok (.iaload, 1) := by decide +kernel
theorem dL_law_1293 : decode cL_law 1293 = .ok (.invokevirtual 127, 3) := by decide +kernel
theorem dL_law_1296 : decode cL_law 1296 = .ok (.lcmp, 1) := by decide +kernel
theorem dL_law_1297 : decode cL_law 1297 = .ok (.ifCond .eq 351, 3) := by decide +kernel
theorem dL_law_1300 : decode cL_law 1300 = .ok (.iconst 0, 1) := by decide +kernel
theorem dL_law_1301 : decode cL_law 1301 = .ok (.ireturn, 1) := by decide +kernel
theorem dL_law_1302 : decode cL_law 1302 = .ok (.aload_n 1, 1) := by decide +kernel
theorem dL_law_1303 : decode cL_law 1303 = .ok (.aload_n 0, 1) := by decide +kernel
theorem dL_law_1304 : decode cL_law 1304 = .ok (.iload_n 3, 1) := by decide +kernel
theorem dL_law_1305 : decode cL_law 1305 = .ok (.iconst 1, 1) := by decide +kernel
theorem dL_law_1306 : decode cL_law 1306 = .ok (.iadd, 1) := by decide +kernel
theorem dL_law_1307 : decode cL_law 1307 = .ok (.iaload, 1) := by decide +kernel
theorem dL_law_1308 : decode cL_law 1308 = .ok (.aload_n 0, 1) := by decide +kernel
theorem dL_law_1309 : decode cL_law 1309 = .ok (.iload_n 3, 1) := by decide +kernel
theorem dL_law_1310 : decode cL_law 1310 = .ok (.iconst 2, 1) := by decide +kernel
theorem dL_law_1311 : decode cL_law 1311 = .ok (.iadd, 1) := by decide +kernel
theorem dL_law_1312 : decode cL_law 1312 = .ok (.iaload, 1) := by decide +kernel
theorem dL_law_1313 : decode cL_law 1313 = .ok (.aload_n 0, 1) := by decide +kernel
theorem dL_law_1314 : decode cL_law 1314 = .ok (.iload_n 3, 1) := by decide +kernel
theorem dL_law_1315 : decode cL_law 1315 = .ok (.iconst 3, 1) := by decide +kernel
theorem dL_law_1316 : decode cL_law 1316 = .ok (.iadd, 1) := by decide +kernel
theorem dL_law_1317 : decode cL_law 1317 = .ok (.iaload, 1) := by decide +kernel
theorem dL_law_1318 : decode cL_law 1318 = .ok (.invokevirtual 128, 3) := by decide +kernel
theorem dL_law_1321 : decode cL_law 1321 = .ok (.aload_n 2, 1) := by decide +kernel
theorem dL_law_1322 : decode cL_law 1322 = .ok (.aload_n 0, 1) := by decide +kernel
theorem dL_law_1323 : decode cL_law 1323 = .ok (.iload_n 3, 1) := by decide +kernel
theorem dL_law_1324 : decode cL_law 1324 = .ok (.iconst 1, 1) := by decide +kernel
theorem dL_law_1325 : decode cL_law 1325 = .ok (.iadd, 1) := by decide +kernel
theorem dL_law_1326 : decode cL_law 1326 = .ok (.iaload, 1) := by decide +kernel
theorem dL_law_1327 : decode cL_law 1327 = .ok (.aload_n 0, 1) := by decide +kernel
theorem dL_law_1328 : decode cL_law 1328 = .ok (.iload_n 3, 1) := by decide +kernel
theorem dL_law_1329 : decode cL_law 1329 = .ok (.iconst 2, 1) := by decide +kernel
theorem dL_law_1330 : decode cL_law 1330 = .ok (.iadd, 1) := by decide +kernel
theorem dL_law_1331 : decode cL_law 1331 = .ok (.iaload, 1) := by decide +kernel
theorem dL_law_1332 : decode cL_law 1332 = .ok (.aload_n 0, 1) := by decide +kernel
theorem dL_law_1333 : decode cL_law 1333 = .ok (.iload_n 3, 1) := by decide +kernel
theorem dL_law_1334 : decode cL_law 1334 = .ok (.iconst 3, 1) := by decide +kernel
theorem dL_law_1335 : decode cL_law 1335 = .ok (.iadd, 1) := by decide +kernel
theorem dL_law_1336 : decode cL_law 1336 = .ok (.iaload, 1) := by decide +kernel
theorem dL_law_1337 : decode cL_law 1337 = .ok (.invokevirtual 131, 3) := by decide +kernel
theorem dL_law_1340 : decode cL_law 1340 = .ok (.if_icmp .eq 308, 3) := by decide +kernel
theorem dL_law_1343 : decode cL_law 1343 = .ok (.iconst 0, 1) := by decide +kernel
theorem dL_law_1344 : decode cL_law 1344 = .ok (.ireturn, 1) := by decide +kernel
theorem dL_law_1345 : decode cL_law 1345 = .ok (.aload_n 1, 1) := by decide +kernel
theorem dL_law_1346 : decode cL_law 1346 = .ok (.aload_n 0, 1) := by decide +kernel
theorem dL_law_1347 : decode cL_law 1347 = .ok (.iload_n 3, 1) := by decide +kernel
theorem dL_law_1348 : decode cL_law 1348 = .ok (.iconst 1, 1) := by decide +kernel
theorem dL_law_1349 : decode cL_law 1349 = .ok (.iadd, 1) := by decide +kernel
theorem dL_law_1350 : decode cL_law 1350 = .ok (.iaload, 1) := by decide +kernel
theorem dL_law_1351 : decode cL_law 1351 = .ok (.aload_n 0, 1) := by decide +kernel
theorem dL_law_1352 : decode cL_law 1352 = .ok (.iload_n 3, 1) := by decide +kernel
theorem dL_law_1353 : decode cL_law 1353 = .ok (.iconst 2, 1) := by decide +kernel
theorem dL_law_1354 : decode cL_law 1354 = .ok (.iadd, 1) := by decide +kernel
theorem dL_law_1355 : decode cL_law 1355 = .ok (.iaload, 1) := by decide +kernel
theorem dL_law_1356 : decode cL_law 1356 = .ok (.invokevirtual 132, 3) := by decide +kernel
theorem dL_law_1359 : decode cL_law 1359 = .ok (.aload_n 2, 1) := by decide +kernel
theorem dL_law_1360 : decode cL_law 1360 = .ok (.aload_n 0, 1) := by decide +kernel
theorem dL_law_1361 : decode cL_law 1361 = .ok (.iload_n 3, 1) := by decide +kernel
theorem dL_law_1362 : decode cL_law 1362 = .ok (.iconst 1, 1) := by decide +kernel
theorem dL_law_1363 : decode cL_law 1363 = .ok (.iadd, 1) := by decide +kernel
theorem dL_law_1364 : decode cL_law 1364 = .ok (.iaload, 1) := by decide +kernel
theorem dL_law_1365 : decode cL_law 1365 = .ok (.aload_n 0, 1) := by decide +kernel
theorem dL_law_1366 : decode cL_law 1366 = .ok (.iload_n 3, 1) := by decide +kernel
theorem dL_law_1367 : decode cL_law 1367 = .ok (.iconst 2, 1) := by decide +kernel
theorem dL_law_1368 : decode cL_law 1368 = .ok (.iadd, 1) := by decide +kernel
theorem dL_law_1369 : decode cL_law 1369 = .ok (.iaload, 1) := by decide +kernel
theorem dL_law_1370 : decode cL_law 1370 = .ok (.invokevirtual 136, 3) := by decide +kernel
theorem dL_law_1373 : decode cL_law 1373 = .ok (.if_icmp .eq 275, 3) := by decide +kernel
theorem dL_law_1376 : decode cL_law 1376 = .ok (.iconst 0, 1) := by decide +kernel
theorem dL_law_1377 : decode cL_law 1377 = .ok (.ireturn, 1) := by decide +kernel
theorem dL_law_1378 : decode cL_law 1378 = .ok (.aload_n 1, 1) := by decide +kernel
theorem dL_law_1379 : decode cL_law 1379 = .ok (.aload_n 0, 1) := by decide +kernel
theorem dL_law_1380 : decode cL_law 1380 = .ok (.iload_n 3, 1) := by decide +kernel
theorem dL_law_1381 : decode cL_law 1381 = .ok (.iconst 1, 1) := by decide +kernel
theorem dL_law_1382 : decode cL_law 1382 = .ok (.iadd, 1) := by decide +kernel
theorem dL_law_1383 : decode cL_law 1383 = .ok (.iaload, 1) := by decide +kernel
theorem dL_law_1384 : decode cL_law 1384 = .ok (.aload_n 0, 1) := by decide +kernel
theorem dL_law_1385 : decode cL_law 1385 = .ok (.iload_n 3, 1) := by decide +kernel
theorem dL_law_1386 : decode cL_law 1386 = .ok (.iconst 2, 1) := by decide +kernel
theorem dL_law_1387 : decode cL_law 1387 = .ok (.iadd, 1) := by decide +kernel
theorem dL_law_1388 : decode cL_law 1388 = .ok (.iaload, 1) := by decide +kernel
theorem dL_law_1389 : decode cL_law 1389 = .ok (.aload_n 0, 1) := by decide +kernel
theorem dL_law_1390 : decode cL_law 1390 = .ok (.iload_n 3, 1) := by decide +kernel
theorem dL_law_1391 : decode cL_law 1391 = .ok (.iconst 3, 1) := by decide +kernel
theorem dL_law_1392 : decode cL_law 1392 = .ok (.iadd, 1) := by decide +kernel
theorem dL_law_1393 : decode cL_law 1393 = .ok (.iaload, 1) := by decide +kernel
theorem dL_law_1394 : decode cL_law 1394 = .ok (.aload_n 0, 1) := by decide +kernel
theorem dL_law_1395 : decode cL_law 1395 = .ok (.iload_n 3, 1) := by decide +kernel
theorem dL_law_1396 : decode cL_law 1396 = .ok (.iconst 4, 1) := by decide +kernel
theorem dL_law_1397 : decode cL_law 1397 = .ok (.iadd, 1) := by decide +kernel
theorem dL_law_1398 : decode cL_law 1398 = .ok (.iaload, 1) := by decide +kernel
theorem dL_law_1399 : decode cL_law 1399 = .ok (.i2l, 1) := by decide +kernel
theorem dL_law_1400 : decode cL_law 1400 = .ok (.bipush 32, 2) := by decide +kernel
theorem dL_law_1402 : decode cL_law 1402 = .ok (.lshl, 1) := by decide +kernel
theorem dL_law_1403 : decode cL_law 1403 = .ok (.aload_n 0, 1) := by decide +kernel
theorem dL_law_1404 : decode cL_law 1404 = .ok (.iload_n 3, 1) := by decide +kernel
theorem dL_law_1405 : decode cL_law 1405 = .ok (.iconst 5, 1) := by decide +kernel
theorem dL_law_1406 : decode cL_law 1406 = .ok (.iadd, 1) := by decide +kernel
theorem dL_law_1407 : decode cL_law 1407 = .ok (.iaload, 1) := by decide +kernel
theorem dL_law_1408 : decode cL_law 1408 = .ok (.i2l, 1) := by decide +kernel
theorem dL_law_1409 : decode cL_law 1409 = .ok (.ldc2_w 72, 3) := by decide +kernel
theorem dL_law_1412 : decode cL_law 1412 = .ok (.land, 1) := by decide +kernel
theorem dL_law_1413 : decode cL_law 1413 = .ok (.lor, 1) := by decide +kernel
theorem dL_law_1414 : decode cL_law 1414 = .ok (.invokevirtual 137, 3) := by decide +kernel
theorem dL_law_1417 : decode cL_law 1417 = .ok (.aload_n 2, 1) := by decide +kernel
theorem dL_law_1418 : decode cL_law 1418 = .ok (.aload_n 0, 1) := by decide +kernel
theorem dL_law_1419 : decode cL_law 1419 = .ok (.iload_n 3, 1) := by decide +kernel
theorem dL_law_1420 : decode cL_law 1420 = .ok (.iconst 1, 1) := by decide +kernel
theorem dL_law_1421 : decode cL_law 1421 = .ok (.iadd, 1) := by decide +kernel
theorem dL_law_1422 : decode cL_law 1422 = .ok (.iaload, 1) := by decide +kernel
theorem dL_law_1423 : decode cL_law 1423 = .ok (.aload_n 0, 1) := by decide +kernel
theorem dL_law_1424 : decode cL_law 1424 = .ok (.iload_n 3, 1) := by decide +kernel
theorem dL_law_1425 : decode cL_law 1425 = .ok (.iconst 2, 1) := by decide +kernel
theorem dL_law_1426 : decode cL_law 1426 = .ok (.iadd, 1) := by decide +kernel
theorem dL_law_1427 : decode cL_law 1427 = .ok (.iaload, 1) := by decide +kernel
theorem dL_law_1428 : decode cL_law 1428 = .ok (.aload_n 0, 1) := by decide +kernel
theorem dL_law_1429 : decode cL_law 1429 = .ok (.iload_n 3, 1) := by decide +kernel
theorem dL_law_1430 : decode cL_law 1430 = .ok (.iconst 3, 1) := by decide +kernel
theorem dL_law_1431 : decode cL_law 1431 = .ok (.iadd, 1) := by decide +kernel
theorem dL_law_1432 : decode cL_law 1432 = .ok (.iaload, 1) := by decide +kernel
theorem dL_law_1433 : decode cL_law 1433 = .ok (.aload_n 0, 1) := by decide +kernel
theorem dL_law_1434 : decode cL_law 1434 = .ok (.iload_n 3, 1) := by decide +kernel
theorem dL_law_1435 : decode cL_law 1435 = .ok (.iconst 4, 1) := by decide +kernel
theorem dL_law_1436 : decode cL_law 1436 = .ok (.iadd, 1) := by decide +kernel
theorem dL_law_1437 : decode cL_law 1437 = .ok (.iaload, 1) := by decide +kernel
theorem dL_law_1438 : decode cL_law 1438 = .ok (.i2l, 1) := by decide +kernel
theorem dL_law_1439 : decode cL_law 1439 = .ok (.bipush 32, 2) := by decide +kernel
theorem dL_law_1441 : decode cL_law 1441 = .ok (.lshl, 1) := by decide +kernel
theorem dL_law_1442 : decode cL_law 1442 = .ok (.aload_n 0, 1) := by decide +kernel
theorem dL_law_1443 : decode cL_law 1443 = .ok (.iload_n 3, 1) := by decide +kernel
theorem dL_law_1444 : decode cL_law 1444 = .ok (.iconst 5, 1) := by decide +kernel
theorem dL_law_1445 : decode cL_law 1445 = .ok (.iadd, 1) := by decide +kernel
theorem dL_law_1446 : decode cL_law 1446 = .ok (.iaload, 1) := by decide +kernel
theorem dL_law_1447 : decode cL_law 1447 = .ok (.i2l, 1) := by decide +kernel
theorem dL_law_1448 : decode cL_law 1448 = .ok (.ldc2_w 72, 3) := by decide +kernel
theorem dL_law_1451 : decode cL_law 1451 = .ok (.land, 1) := by decide +kernel
theorem dL_law_1452 : decode cL_law 1452 = .ok (.lor, 1) := by decide +kernel
theorem dL_law_1453 : decode cL_law 1453 = .ok (.invokevirtual 141, 3) := by decide +kernel
theorem dL_law_1456 : decode cL_law 1456 = .ok (.if_icmp .eq 192, 3) := by decide +kernel
theorem dL_law_1459 : decode cL_law 1459 = .ok (.iconst 0, 1) := by decide +kernel
theorem dL_law_1460 : decode cL_law 1460 = .ok (.ireturn, 1) := by decide +kernel
theorem dL_law_1461 : decode cL_law 1461 = .ok (.aload_n 1, 1) := by decide +kernel
theorem dL_law_1462 : decode cL_law 1462 = .ok (.aload_n 0, 1) := by decide +kernel
theorem dL_law_1463 : decode cL_law 1463 = .ok (.iload_n 3, 1) := by decide +kernel
theorem dL_law_1464 : decode cL_law 1464 = .ok (.iconst 1, 1) := by decide +kernel
theorem dL_law_1465 : decode cL_law 1465 = .ok (.iadd, 1) := by decide +kernel
theorem dL_law_1466 : decode cL_law 1466 = .ok (.iaload, 1) := by decide +kernel
theorem dL_law_1467 : decode cL_law 1467 = .ok (.aload_n 0, 1) := by decide +kernel
theorem dL_law_1468 : decode cL_law 1468 = .ok (.iload_n 3, 1) := by decide +kernel
theorem dL_law_1469 : decode cL_law 1469 = .ok (.iconst 2, 1) := by decide +kernel
theorem dL_law_1470 : decode cL_law 1470 = .ok (.iadd, 1) := by decide +kernel
theorem dL_law_1471 : decode cL_law 1471 = .ok (.iaload, 1) := by decide +kernel
theorem dL_law_1472 : decode cL_law 1472 = .ok (.aload_n 0, 1) := by decide +kernel
theorem dL_law_1473 : decode cL_law 1473 = .ok (.iload_n 3, 1) := by decide +kernel
theorem dL_law_1474 : decode cL_law 1474 = .ok (.iconst 3, 1) := by decide +kernel
theorem dL_law_1475 : decode cL_law 1475 = .ok (.iadd, 1) := by decide +kernel
theorem dL_law_1476 : decode cL_law 1476 = .ok (.iaload, 1) := by decide +kernel
theorem dL_law_1477 : decode cL_law 1477 = .ok (.invokevirtual 142, 3) := by decide +kernel
theorem dL_law_1480 : decode cL_law 1480 = .ok (.aload_n 2, 1) := by decide +kernel
theorem dL_law_1481 : decode cL_law 1481 = .ok (.aload_n 0, 1) := by decide +kernel
theorem dL_law_1482 : decode cL_law 1482 = .ok (.iload_n 3, 1) := by decide +kernel
theorem dL_law_1483 : decode cL_law 1483 = .ok (.iconst 1, 1) := by decide +kernel
theorem dL_law_1484 : decode cL_law 1484 = .ok (.iadd, 1) := by decide +kernel
theorem dL_law_1485 : decode cL_law 1485 = .ok (.iaload, 1) := by decide +kernel
theorem dL_law_1486 : decode cL_law 1486 = .ok (.aload_n 0, 1) := by decide +kernel
theorem dL_law_1487 : decode cL_law 1487 = .ok (.iload_n 3, 1) := by decide +kernel
theorem dL_law_1488 : decode cL_law 1488 = .ok (.iconst 2, 1) := by decide +kernel
theorem dL_law_1489 : decode cL_law 1489 = .ok (.iadd, 1) := by decide +kernel
theorem dL_law_1490 : decode cL_law 1490 = .ok (.iaload, 1) := by decide +kernel
theorem dL_law_1491 : decode cL_law 1491 = .ok (.aload_n 0, 1) := by decide +kernel
theorem dL_law_1492 : decode cL_law 1492 = .ok (.iload_n 3, 1) := by decide +kernel
theorem dL_law_1493 : decode cL_law 1493 = .ok (.iconst 3, 1) := by decide +kernel
theorem dL_law_1494 : decode cL_law 1494 = .ok (.iadd, 1) := by decide +kernel
theorem dL_law_1495 : decode cL_law 1495 = .ok (.iaload, 1) := by decide +kernel
theorem dL_law_1496 : decode cL_law 1496 = .ok (.invokevirtual 146, 3) := by decide +kernel
theorem dL_law_1499 : decode cL_law 1499 = .ok (.lcmp, 1) := by decide +kernel
theorem dL_law_1500 : decode cL_law 1500 = .ok (.ifCond .eq 148, 3) := by decide +kernel
theorem dL_law_1503 : decode cL_law 1503 = .ok (.iconst 0, 1) := by decide +kernel
theorem dL_law_1504 : decode cL_law 1504 = .ok (.ireturn, 1) := by decide +kernel
theorem dL_law_1505 : decode cL_law 1505 = .ok (.aload_n 1, 1) := by decide +kernel
theorem dL_law_1506 : decode cL_law 1506 = .ok (.aload_n 0, 1) := by decide +kernel
theorem dL_law_1507 : decode cL_law 1507 = .ok (.iload_n 3, 1) := by decide +kernel
theorem dL_law_1508 : decode cL_law 1508 = .ok (.iconst 1, 1) := by decide +kernel
theorem dL_law_1509 : decode cL_law 1509 = .ok (.iadd, 1) := by decide +kernel
theorem dL_law_1510 : decode cL_law 1510 = .ok (.iaload, 1) := by decide +kernel
theorem dL_law_1511 : decode cL_law 1511 = .ok (.aload_n 0, 1) := by decide +kernel
theorem dL_law_1512 : decode cL_law 1512 = .ok (.iload_n 3, 1) := by decide +kernel
theorem dL_law_1513 : decode cL_law 1513 = .ok (.iconst 2, 1) := by decide +kernel
theorem dL_law_1514 : decode cL_law 1514 = .ok (.iadd, 1) := by decide +kernel
theorem dL_law_1515 : decode cL_law 1515 = .ok (.iaload, 1) := by decide +kernel
theorem dL_law_1516 : decode cL_law 1516 = .ok (.invokevirtual 147, 3) := by decide +kernel
theorem dL_law_1519 : decode cL_law 1519 = .ok (.aload_n 2, 1) := by decide +kernel
theorem dL_law_1520 : decode cL_law 1520 = .ok (.aload_n 0, 1) := by decide +kernel
theorem dL_law_1521 : decode cL_law 1521 = .ok (.iload_n 3, 1) := by decide +kernel
theorem dL_law_1522 : decode cL_law 1522 = .ok (.iconst 1, 1) := by decide +kernel
theorem dL_law_1523 : decode cL_law 1523 = .ok (.iadd, 1) := by decide +kernel
theorem dL_law_1524 : decode cL_law 1524 = .ok (.iaload, 1) := by decide +kernel
theorem dL_law_1525 : decode cL_law 1525 = .ok (.aload_n 0, 1) := by decide +kernel
theorem dL_law_1526 : decode cL_law 1526 = .ok (.iload_n 3, 1) := by decide +kernel
theorem dL_law_1527 : decode cL_law 1527 = .ok (.iconst 2, 1) := by decide +kernel
theorem dL_law_1528 : decode cL_law 1528 = .ok (.iadd, 1) := by decide +kernel
theorem dL_law_1529 : decode cL_law 1529 = .ok (.iaload, 1) := by decide +kernel
theorem dL_law_1530 : decode cL_law 1530 = .ok (.invokevirtual 150, 3) := by decide +kernel
theorem dL_law_1533 : decode cL_law 1533 = .ok (.if_icmp .eq 115, 3) := by decide +kernel
theorem dL_law_1536 : decode cL_law 1536 = .ok (.iconst 0, 1) := by decide +kernel
theorem dL_law_1537 : decode cL_law 1537 = .ok (.ireturn, 1) := by decide +kernel
theorem dL_law_1538 : decode cL_law 1538 = .ok (.aload_n 1, 1) := by decide +kernel
theorem dL_law_1539 : decode cL_law 1539 = .ok (.aload_n 0, 1) := by decide +kernel
theorem dL_law_1540 : decode cL_law 1540 = .ok (.iload_n 3, 1) := by decide +kernel
theorem dL_law_1541 : decode cL_law 1541 = .ok (.iconst 1, 1) := by decide +kernel
theorem dL_law_1542 : decode cL_law 1542 = .ok (.iadd, 1) := by decide +kernel
theorem dL_law_1543 : decode cL_law 1543 = .ok (.iaload, 1) := by decide +kernel
theorem dL_law_1544 : decode cL_law 1544 = .ok (.aload_n 0, 1) := by decide +kernel
theorem dL_law_1545 : decode cL_law 1545 = .ok (.iload_n 3, 1) := by decide +kernel
theorem dL_law_1546 : decode cL_law 1546 = .ok (.iconst 2, 1) := by decide +kernel
theorem dL_law_1547 : decode cL_law 1547 = .ok (.iadd, 1) := by decide +kernel
theorem dL_law_1548 : decode cL_law 1548 = .ok (.iaload, 1) := by decide +kernel
theorem dL_law_1549 : decode cL_law 1549 = .ok (.aload_n 0, 1) := by decide +kernel
theorem dL_law_1550 : decode cL_law 1550 = .ok (.iload_n 3, 1) := by decide +kernel
theorem dL_law_1551 : decode cL_law 1551 = .ok (.iconst 3, 1) := by decide +kernel
theorem dL_law_1552 : decode cL_law 1552 = .ok (.iadd, 1) := by decide +kernel
theorem dL_law_1553 : decode cL_law 1553 = .ok (.iaload, 1) := by decide +kernel
theorem dL_law_1554 : decode cL_law 1554 = .ok (.aload_n 0, 1) := by decide +kernel
theorem dL_law_1555 : decode cL_law 1555 = .ok (.iload_n 3, 1) := by decide +kernel
theorem dL_law_1556 : decode cL_law 1556 = .ok (.iconst 4, 1) := by decide +kernel
theorem dL_law_1557 : decode cL_law 1557 = .ok (.iadd, 1) := by decide +kernel
theorem dL_law_1558 : decode cL_law 1558 = .ok (.iaload, 1) := by decide +kernel
theorem dL_law_1559 : decode cL_law 1559 = .ok (.aload_n 0, 1) := by decide +kernel
theorem dL_law_1560 : decode cL_law 1560 = .ok (.iload_n 3, 1) := by decide +kernel
theorem dL_law_1561 : decode cL_law 1561 = .ok (.iconst 5, 1) := by decide +kernel
theorem dL_law_1562 : decode cL_law 1562 = .ok (.iadd, 1) := by decide +kernel
theorem dL_law_1563 : decode cL_law 1563 = .ok (.iaload, 1) := by decide +kernel
theorem dL_law_1564 : decode cL_law 1564 = .ok (.aload_n 0, 1) := by decide +kernel
theorem dL_law_1565 : decode cL_law 1565 = .ok (.iload_n 3, 1) := by decide +kernel
theorem dL_law_1566 : decode cL_law 1566 = .ok (.bipush 6, 2) := by decide +kernel
theorem dL_law_1568 : decode cL_law 1568 = .ok (.iadd, 1) := by decide +kernel
theorem dL_law_1569 : decode cL_law 1569 = .ok (.iaload, 1) := by decide +kernel
theorem dL_law_1570 : decode cL_law 1570 = .ok (.aload_n 0, 1) := by decide +kernel
theorem dL_law_1571 : decode cL_law 1571 = .ok (.iload_n 3, 1) := by decide +kernel
theorem dL_law_1572 : decode cL_law 1572 = .ok (.bipush 7, 2) := by decide +kernel
theorem dL_law_1574 : decode cL_law 1574 = .ok (.iadd, 1) := by decide +kernel
theorem dL_law_1575 : decode cL_law 1575 = .ok (.iaload, 1) := by decide +kernel
theorem dL_law_1576 : decode cL_law 1576 = .ok (.invokevirtual 151, 3) := by decide +kernel
theorem dL_law_1579 : decode cL_law 1579 = .ok (.aload_n 2, 1) := by decide +kernel
theorem dL_law_1580 : decode cL_law 1580 = .ok (.aload_n 0, 1) := by decide +kernel
theorem dL_law_1581 : decode cL_law 1581 = .ok (.iload_n 3, 1) := by decide +kernel
theorem dL_law_1582 : decode cL_law 1582 = .ok (.iconst 1, 1) := by decide +kernel
theorem dL_law_1583 : decode cL_law 1583 = .ok (.iadd, 1) := by decide +kernel
theorem dL_law_1584 : decode cL_law 1584 = .ok (.iaload, 1) := by decide +kernel
theorem dL_law_1585 : decode cL_law 1585 = .ok (.aload_n 0, 1) := by decide +kernel
theorem dL_law_1586 : decode cL_law 1586 = .ok (.iload_n 3, 1) := by decide +kernel
theorem dL_law_1587 : decode cL_law 1587 = .ok (.iconst 2, 1) := by decide +kernel
theorem dL_law_1588 : decode cL_law 1588 = .ok (.iadd, 1) := by decide +kernel
theorem dL_law_1589 : decode cL_law 1589 = .ok (.iaload, 1) := by decide +kernel
theorem dL_law_1590 : decode cL_law 1590 = .ok (.aload_n 0, 1) := by decide +kernel
theorem dL_law_1591 : decode cL_law 1591 = .ok (.iload_n 3, 1) := by decide +kernel
theorem dL_law_1592 : decode cL_law 1592 = .ok (.iconst 3, 1) := by decide +kernel
theorem dL_law_1593 : decode cL_law 1593 = .ok (.iadd, 1) := by decide +kernel
theorem dL_law_1594 : decode cL_law 1594 = .ok (.iaload, 1) := by decide +kernel
theorem dL_law_1595 : decode cL_law 1595 = .ok (.aload_n 0, 1) := by decide +kernel
theorem dL_law_1596 : decode cL_law 1596 = .ok (.iload_n 3, 1) := by decide +kernel
theorem dL_law_1597 : decode cL_law 1597 = .ok (.iconst 4, 1) := by decide +kernel
theorem dL_law_1598 : decode cL_law 1598 = .ok (.iadd, 1) := by decide +kernel
theorem dL_law_1599 : decode cL_law 1599 = .ok (.iaload, 1) := by decide +kernel
theorem dL_law_1600 : decode cL_law 1600 = .ok (.aload_n 0, 1) := by decide +kernel
theorem dL_law_1601 : decode cL_law 1601 = .ok (.iload_n 3, 1) := by decide +kernel
theorem dL_law_1602 : decode cL_law 1602 = .ok (.iconst 5, 1) := by decide +kernel
theorem dL_law_1603 : decode cL_law 1603 = .ok (.iadd, 1) := by decide +kernel
theorem dL_law_1604 : decode cL_law 1604 = .ok (.iaload, 1) := by decide +kernel
theorem dL_law_1605 : decode cL_law 1605 = .ok (.aload_n 0, 1) := by decide +kernel
theorem dL_law_1606 : decode cL_law 1606 = .ok (.iload_n 3, 1) := by decide +kernel
theorem dL_law_1607 : decode cL_law 1607 = .ok (.bipush 6, 2) := by decide +kernel
theorem dL_law_1609 : decode cL_law 1609 = .ok (.iadd, 1) := by decide +kernel
theorem dL_law_1610 : decode cL_law 1610 = .ok (.iaload, 1) := by decide +kernel
theorem dL_law_1611 : decode cL_law 1611 = .ok (.aload_n 0, 1) := by decide +kernel
theorem dL_law_1612 : decode cL_law 1612 = .ok (.iload_n 3, 1) := by decide +kernel
theorem dL_law_1613 : decode cL_law 1613 = .ok (.bipush 7, 2) := by decide +kernel
theorem dL_law_1615 : decode cL_law 1615 = .ok (.iadd, 1) := by decide +kernel
theorem dL_law_1616 : decode cL_law 1616 = .ok (.iaload, 1) := by decide +kernel
theorem dL_law_1617 : decode cL_law 1617 = .ok (.invokevirtual 154, 3) := by decide +kernel
theorem dL_law_1620 : decode cL_law 1620 = .ok (.if_icmp .eq 28, 3) := by decide +kernel
theorem dL_law_1623 : decode cL_law 1623 = .ok (.iconst 0, 1) := by decide +kernel
theorem dL_law_1624 : decode cL_law 1624 = .ok (.ireturn, 1) := by decide +kernel
theorem dL_law_1625 : decode cL_law 1625 = .ok (.aload_n 1, 1) := by decide +kernel
theorem dL_law_1626 : decode cL_law 1626 = .ok (.aload_n 0, 1) := by decide +kernel
theorem dL_law_1627 : decode cL_law 1627 = .ok (.iload_n 3, 1) := by decide +kernel
theorem dL_law_1628 : decode cL_law 1628 = .ok (.iconst 1, 1) := by decide +kernel
theorem dL_law_1629 : decode cL_law 1629 = .ok (.iadd, 1) := by decide +kernel
theorem dL_law_1630 : decode cL_law 1630 = .ok (.iaload, 1) := by decide +kernel
theorem dL_law_1631 : decode cL_law 1631 = .ok (.invokevirtual 155, 3) := by decide +kernel
theorem dL_law_1634 : decode cL_law 1634 = .ok (.aload_n 2, 1) := by decide +kernel
theorem dL_law_1635 : decode cL_law 1635 = .ok (.aload_n 0, 1) := by decide +kernel
theorem dL_law_1636 : decode cL_law 1636 = .ok (.iload_n 3, 1) := by decide +kernel
theorem dL_law_1637 : decode cL_law 1637 = .ok (.iconst 1, 1) := by decide +kernel
theorem dL_law_1638 : decode cL_law 1638 = .ok (.iadd, 1) := by decide +kernel
theorem dL_law_1639 : decode cL_law 1639 = .ok (.iaload, 1) := by decide +kernel
theorem dL_law_1640 : decode cL_law 1640 = .ok (.invokevirtual 158, 3) := by decide +kernel
theorem dL_law_1643 : decode cL_law 1643 = .ok (.if_icmp .eq 5, 3) := by decide +kernel
theorem dL_law_1646 : decode cL_law 1646 = .ok (.iconst 0, 1) := by decide +kernel
theorem dL_law_1647 : decode cL_law 1647 = .ok (.ireturn, 1) := by decide +kernel
theorem dL_law_1648 : decode cL_law 1648 = .ok (.iinc 3 8, 3) := by decide +kernel
theorem dL_law_1651 : decode cL_law 1651 = .ok (.goto (-1633), 3) := by decide +kernel
theorem dL_law_1654 : decode cL_law 1654 = .ok (.iconst 1, 1) := by decide +kernel
theorem dL_law_1655 : decode cL_law 1655 = .ok (.ireturn, 1) := by decide +kernel
end
section
/-! CORE 1: words, the abstract heap, what a heap holds of it -/
def gw : List Cond := lw_tbl.filter goodWord
theorem gw_in {w : Cond} (h : w ∈ lw_tbl) (g : goodWord w = true) : w ∈ gw := List.mem_filter.mpr ⟨h, g⟩
theorem gw_t (k : Nat) {w : Cond} (h : tables_1[k]? = some w) (g : goodWord w = true) : w ∈ gw := gw_in (List.mem_append_right _ (List.mem_of_getElem? h)) g
theorem gw_p (k : Nat) {q : MethodName × Nat} (h : lw_privs[k]? = some q) (g : goodWord (Cond.selects q.1.cls q.1 q.1) = true) : Cond.selects q.1.cls q.1 q.1 ∈ gw :=
  gw_in (List.mem_append_left _ (List.mem_map.mpr ⟨q, List.mem_of_getElem? h, rfl⟩)) g
theorem gw_good : GoodIn gw gw := fun w h => ⟨h, good_of_word (List.mem_filter.mp h).2⟩
def fty (ci k : Nat) : FieldType := match ci with
  | 0 => tyX0 k
  | 1 => tyX1 k
  | 2 => tyX2 k
  | 3 => tyX3 k
  | 4 => tyX4 k
  | 5 => tyX5 k
  | 6 => tyX6 k
  | 7 => tyX7 k
  | 8 => tyX8 k
  | 10 => .int
  | 11 => .long
  | 12 => .boolean
  | 13 => .object RX3
  | 14 => .object RX0
  | _ => .object RX1
def fN (ci : Nat) : Nat := match ci with
  | 0 => 7
  | 1 => 2
  | 2 => 12
  | 3 => 15
  | 4 => 2
  | 5 => 2
  | 6 => 2
  | 7 => 7
  | _ => 28
/-- what stands in the tables of class ci -/
def CLk (ci : Nat) (C : String) (T : u_T) (N : Nat) : Prop := vwCl[ci]? = some (C, T, N) ∧ fN ci = N ∧ ci < 9 ∧ (∀ j, j < N → parseFieldDescriptor (T j).2.2.1 = some (fty ci j)) ∧ (∀ w ∈ u_ws C T N, w ∈ gw) ∧ ∀ a, a < N → ∀ b, b < N → a ≠ b → (T a).2.1 ≠ (T b).2.1
theorem CLk.of {ci : Nat} {C : String} {T : u_T} {N : Nat} (h1 : vwCl[ci]? = some (C, T, N)) (h2 : fN ci = N) (h3 : ci < 9) (h4 : ∀ j, j < N → parseFieldDescriptor (T j).2.2.1 = some (fty ci j)) (h5 : ((u_ws C T N).all (fun w => decide (w ∈ tables_1) && goodWord w)) = true) (h6 : ∀ a, a < N → ∀ b, b < N → a ≠ b → (T a).2.1 ≠ (T b).2.1) : CLk ci C T N :=
  ⟨h1, h2, h3, h4, fun w hw => by
    have := List.all_eq_true.mp h5 w hw
    simp only [Bool.and_eq_true, decide_eq_true_eq] at this
    exact gw_in (List.mem_append_right _ this.1) this.2, h6⟩
/-- entry idx of own's pool is the field k of class ci -/
def FLk (own : String) (idx ci k : Nat) (fin : Bool) : Prop := ∃ (C : String) (T : u_T) (N : Nat), CLk ci C T N ∧ k < N ∧ (T k).1 = C ∧ (T k).2.2.2 = fin ∧ Cond.fieldLink own idx C (T k).2.1 (T k).2.2.1 ∈ gw ∧ (fin = true → C = own ∨ True)
theorem FLk.of {own : String} {idx ci k : Nat} {fin : Bool} {C : String} {T : u_T} {N : Nat} (c : CLk ci C T N) (hk : k < N) (h1 : (T k).1 = C) (h2 : (T k).2.2.2 = fin) (j : Nat) (h3 : tables_1[j]? = some (Cond.fieldLink own idx C (T k).2.1 (T k).2.2.1)) : FLk own idx ci k fin :=
  ⟨C, T, N, c, hk, h1, h2, gw_t j h3 rfl, fun _ => Or.inr trivial⟩
theorem FLk.lt {own : String} {idx ci k : Nat} {fin : Bool} (F : FLk own idx ci k fin) : ci < 9 := by
  obtain ⟨C, T, N, c, -⟩ := F
  exact c.2.2.1
end
section
/-! WORDS: the tables' words by their places -/
set_option maxRecDepth 20000 in
theorem ck0 : CLk 0 RX0 TX0 7 := CLk.of rfl rfl (by decide) tyX0_ok (by decide +kernel) nmX0
set_option maxRecDepth 20000 in
theorem ck1 : CLk 1 RX1 TX1 2 := CLk.of rfl rfl (by decide) tyX1_ok (by decide +kernel) nmX1
set_option maxRecDepth 20000 in
theorem ck2 : CLk 2 RX2 TX2 12 := CLk.of rfl rfl (by decide) tyX2_ok (by decide +kernel) nmX2
set_option maxRecDepth 20000 in
theorem ck3 : CLk 3 RX3 TX3 15 := CLk.of rfl rfl (by decide) tyX3_ok (by decide +kernel) nmX3
set_option maxRecDepth 20000 in
theorem ck4 : CLk 4 RX4 TX4 2 := CLk.of rfl rfl (by decide) tyX4_ok (by decide +kernel) nmX4
set_option maxRecDepth 20000 in
theorem ck5 : CLk 5 RX5 TX5 2 := CLk.of rfl rfl (by decide) tyX5_ok (by decide +kernel) nmX5
set_option maxRecDepth 20000 in
theorem ck6 : CLk 6 RX6 TX6 2 := CLk.of rfl rfl (by decide) tyX6_ok (by decide +kernel) nmX6
set_option maxRecDepth 20000 in
theorem ck7 : CLk 7 RX7 TX7 7 := CLk.of rfl rfl (by decide) tyX7_ok (by decide +kernel) nmX7
set_option maxRecDepth 20000 in
theorem ck8 : CLk 8 RX8 TX8 28 := CLk.of rfl rfl (by decide) tyX8_ok (by decide +kernel) nmX8
theorem flRX4_11 : FLk RX4 11 4 0 true := FLk.of ck4 (by decide) rfl rfl 30 (by decide +kernel)
theorem flRX4_17 : FLk RX4 17 4 1 false := FLk.of ck4 (by decide) rfl rfl 31 (by decide +kernel)
theorem flRX6_19 : FLk RX6 19 4 1 false := FLk.of ck4 (by decide) rfl rfl 32 (by decide +kernel)
theorem flRX5_21 : FLk RX5 21 4 1 false := FLk.of ck4 (by decide) rfl rfl 33 (by decide +kernel)
theorem flRX2_102 : FLk RX2 102 4 1 false := FLk.of ck4 (by decide) rfl rfl 34 (by decide +kernel)
theorem flRX7_154 : FLk RX7 154 4 1 false := FLk.of ck4 (by decide) rfl rfl 35 (by decide +kernel)
theorem flRX5_11 : FLk RX5 11 5 0 true := FLk.of ck5 (by decide) rfl rfl 48 (by decide +kernel)
theorem flRX5_17 : FLk RX5 17 5 1 false := FLk.of ck5 (by decide) rfl rfl 49 (by decide +kernel)
theorem flRX2_50 : FLk RX2 50 5 1 false := FLk.of ck5 (by decide) rfl rfl 50 (by decide +kernel)
theorem flRX7_190 : FLk RX7 190 5 1 false := FLk.of ck5 (by decide) rfl rfl 51 (by decide +kernel)
theorem flRX6_9 : FLk RX6 9 6 0 true := FLk.of ck6 (by decide) rfl rfl 71 (by decide +kernel)
theorem flRX6_15 : FLk RX6 15 6 1 false := FLk.of ck6 (by decide) rfl rfl 72 (by decide +kernel)
theorem flRX2_142 : FLk RX2 142 6 1 false := FLk.of ck6 (by decide) rfl rfl 73 (by decide +kernel)
theorem flRX2_12 : FLk RX2 12 2 0 true := FLk.of ck2 (by decide) rfl rfl 80 (by decide +kernel)
theorem flRX2_21 : FLk RX2 21 2 1 true := FLk.of ck2 (by decide) rfl rfl 81 (by decide +kernel)
theorem flRX2_25 : FLk RX2 25 2 2 true := FLk.of ck2 (by decide) rfl rfl 82 (by decide +kernel)
theorem flRX2_28 : FLk RX2 28 2 3 true := FLk.of ck2 (by decide) rfl rfl 83 (by decide +kernel)
theorem flRX2_85 : FLk RX2 85 2 4 false := FLk.of ck2 (by decide) rfl rfl 84 (by decide +kernel)
theorem flRX7_167 : FLk RX7 167 2 4 false := FLk.of ck2 (by decide) rfl rfl 85 (by decide +kernel)
theorem flRX2_95 : FLk RX2 95 2 5 false := FLk.of ck2 (by decide) rfl rfl 86 (by decide +kernel)
theorem flRX7_169 : FLk RX7 169 2 5 false := FLk.of ck2 (by decide) rfl rfl 87 (by decide +kernel)
theorem flRX2_45 : FLk RX2 45 2 6 false := FLk.of ck2 (by decide) rfl rfl 88 (by decide +kernel)
theorem flRX2_60 : FLk RX2 60 2 7 false := FLk.of ck2 (by decide) rfl rfl 89 (by decide +kernel)
theorem flRX2_69 : FLk RX2 69 2 8 false := FLk.of ck2 (by decide) rfl rfl 90 (by decide +kernel)
theorem flRX2_82 : FLk RX2 82 2 9 false := FLk.of ck2 (by decide) rfl rfl 91 (by decide +kernel)
theorem flRX2_96 : FLk RX2 96 2 10 false := FLk.of ck2 (by decide) rfl rfl 92 (by decide +kernel)
theorem flRX2_99 : FLk RX2 99 2 11 false := FLk.of ck2 (by decide) rfl rfl 93 (by decide +kernel)
theorem flRX7_11 : FLk RX7 11 7 0 true := FLk.of ck7 (by decide) rfl rfl 119 (by decide +kernel)
theorem flRX7_18 : FLk RX7 18 7 1 true := FLk.of ck7 (by decide) rfl rfl 120 (by decide +kernel)
theorem flRX7_25 : FLk RX7 25 7 2 true := FLk.of ck7 (by decide) rfl rfl 121 (by decide +kernel)
theorem flRX7_32 : FLk RX7 32 7 3 true := FLk.of ck7 (by decide) rfl rfl 122 (by decide +kernel)
theorem flRX7_40 : FLk RX7 40 7 4 false := FLk.of ck7 (by decide) rfl rfl 123 (by decide +kernel)
theorem flRX7_36 : FLk RX7 36 7 5 false := FLk.of ck7 (by decide) rfl rfl 124 (by decide +kernel)
theorem flRX7_67 : FLk RX7 67 7 6 false := FLk.of ck7 (by decide) rfl rfl 125 (by decide +kernel)
theorem flRX0_9 : FLk RX0 9 0 0 true := FLk.of ck0 (by decide) rfl rfl 159 (by decide +kernel)
theorem flRX3_65 : FLk RX3 65 0 0 true := FLk.of ck0 (by decide) rfl rfl 160 (by decide +kernel)
theorem flRX0_15 : FLk RX0 15 0 1 true := FLk.of ck0 (by decide) rfl rfl 161 (by decide +kernel)
theorem flRX2_39 : FLk RX2 39 0 1 true := FLk.of ck0 (by decide) rfl rfl 162 (by decide +kernel)
theorem flRX7_191 : FLk RX7 191 0 1 true := FLk.of ck0 (by decide) rfl rfl 163 (by decide +kernel)
theorem flRX0_18 : FLk RX0 18 0 2 true := FLk.of ck0 (by decide) rfl rfl 164 (by decide +kernel)
theorem flRX7_95 : FLk RX7 95 0 2 true := FLk.of ck0 (by decide) rfl rfl 165 (by decide +kernel)
theorem flRX0_21 : FLk RX0 21 0 3 true := FLk.of ck0 (by decide) rfl rfl 166 (by decide +kernel)
theorem flRX7_126 : FLk RX7 126 0 3 true := FLk.of ck0 (by decide) rfl rfl 167 (by decide +kernel)
theorem flRX0_24 : FLk RX0 24 0 4 true := FLk.of ck0 (by decide) rfl rfl 168 (by decide +kernel)
theorem flRX0_30 : FLk RX0 30 0 5 true := FLk.of ck0 (by decide) rfl rfl 169 (by decide +kernel)
theorem flRX0_34 : FLk RX0 34 0 6 false := FLk.of ck0 (by decide) rfl rfl 170 (by decide +kernel)
theorem flRX7_202 : FLk RX7 202 0 6 false := FLk.of ck0 (by decide) rfl rfl 171 (by decide +kernel)
theorem flRX3_18 : FLk RX3 18 3 0 true := FLk.of ck3 (by decide) rfl rfl 243 (by decide +kernel)
theorem flRX6_39 : FLk RX6 39 3 0 true := FLk.of ck3 (by decide) rfl rfl 244 (by decide +kernel)
theorem flRX7_86 : FLk RX7 86 3 0 true := FLk.of ck3 (by decide) rfl rfl 245 (by decide +kernel)
theorem flRX2_157 : FLk RX2 157 3 0 true := FLk.of ck3 (by decide) rfl rfl 246 (by decide +kernel)
theorem flRX3_21 : FLk RX3 21 3 1 true := FLk.of ck3 (by decide) rfl rfl 247 (by decide +kernel)
theorem flRX6_42 : FLk RX6 42 3 1 true := FLk.of ck3 (by decide) rfl rfl 248 (by decide +kernel)
theorem flRX2_106 : FLk RX2 106 3 1 true := FLk.of ck3 (by decide) rfl rfl 249 (by decide +kernel)
theorem flRX4_32 : FLk RX4 32 3 1 true := FLk.of ck3 (by decide) rfl rfl 250 (by decide +kernel)
theorem flRX7_112 : FLk RX7 112 3 1 true := FLk.of ck3 (by decide) rfl rfl 251 (by decide +kernel)
theorem flRX3_24 : FLk RX3 24 3 2 true := FLk.of ck3 (by decide) rfl rfl 252 (by decide +kernel)
theorem flRX5_44 : FLk RX5 44 3 2 true := FLk.of ck3 (by decide) rfl rfl 253 (by decide +kernel)
theorem flRX4_35 : FLk RX4 35 3 2 true := FLk.of ck3 (by decide) rfl rfl 254 (by decide +kernel)
theorem flRX3_27 : FLk RX3 27 3 3 true := FLk.of ck3 (by decide) rfl rfl 255 (by decide +kernel)
theorem flRX5_28 : FLk RX5 28 3 3 true := FLk.of ck3 (by decide) rfl rfl 256 (by decide +kernel)
theorem flRX4_28 : FLk RX4 28 3 3 true := FLk.of ck3 (by decide) rfl rfl 257 (by decide +kernel)
theorem flRX2_128 : FLk RX2 128 3 3 true := FLk.of ck3 (by decide) rfl rfl 258 (by decide +kernel)
theorem flRX7_115 : FLk RX7 115 3 3 true := FLk.of ck3 (by decide) rfl rfl 259 (by decide +kernel)
theorem flRX3_31 : FLk RX3 31 3 4 true := FLk.of ck3 (by decide) rfl rfl 260 (by decide +kernel)
theorem flRX2_135 : FLk RX2 135 3 4 true := FLk.of ck3 (by decide) rfl rfl 261 (by decide +kernel)
theorem flRX7_123 : FLk RX7 123 3 4 true := FLk.of ck3 (by decide) rfl rfl 262 (by decide +kernel)
theorem flRX3_34 : FLk RX3 34 3 5 true := FLk.of ck3 (by decide) rfl rfl 263 (by decide +kernel)
theorem flRX4_46 : FLk RX4 46 3 5 true := FLk.of ck3 (by decide) rfl rfl 264 (by decide +kernel)
theorem flRX2_64 : FLk RX2 64 3 6 false := FLk.of ck3 (by decide) rfl rfl 265 (by decide +kernel)
theorem flRX3_41 : FLk RX3 41 3 6 false := FLk.of ck3 (by decide) rfl rfl 266 (by decide +kernel)
theorem flRX3_54 : FLk RX3 54 3 7 false := FLk.of ck3 (by decide) rfl rfl 267 (by decide +kernel)
theorem flRX7_98 : FLk RX7 98 3 7 false := FLk.of ck3 (by decide) rfl rfl 268 (by decide +kernel)
theorem flRX2_160 : FLk RX2 160 3 7 false := FLk.of ck3 (by decide) rfl rfl 269 (by decide +kernel)
theorem flRX3_9 : FLk RX3 9 3 8 false := FLk.of ck3 (by decide) rfl rfl 270 (by decide +kernel)
theorem flRX6_45 : FLk RX6 45 3 8 false := FLk.of ck3 (by decide) rfl rfl 271 (by decide +kernel)
theorem flRX2_132 : FLk RX2 132 3 8 false := FLk.of ck3 (by decide) rfl rfl 272 (by decide +kernel)
theorem flRX7_102 : FLk RX7 102 3 8 false := FLk.of ck3 (by decide) rfl rfl 273 (by decide +kernel)
theorem flRX3_15 : FLk RX3 15 3 9 false := FLk.of ck3 (by decide) rfl rfl 274 (by decide +kernel)
theorem flRX2_92 : FLk RX2 92 3 9 false := FLk.of ck3 (by decide) rfl rfl 275 (by decide +kernel)
theorem flRX7_105 : FLk RX7 105 3 9 false := FLk.of ck3 (by decide) rfl rfl 276 (by decide +kernel)
theorem flRX2_109 : FLk RX2 109 3 10 false := FLk.of ck3 (by decide) rfl rfl 277 (by decide +kernel)
theorem flRX6_55 : FLk RX6 55 3 10 false := FLk.of ck3 (by decide) rfl rfl 278 (by decide +kernel)
theorem flRX3_57 : FLk RX3 57 3 10 false := FLk.of ck3 (by decide) rfl rfl 279 (by decide +kernel)
theorem flRX7_133 : FLk RX7 133 3 10 false := FLk.of ck3 (by decide) rfl rfl 280 (by decide +kernel)
theorem flRX7_150 : FLk RX7 150 3 11 false := FLk.of ck3 (by decide) rfl rfl 281 (by decide +kernel)
theorem flRX3_45 : FLk RX3 45 3 12 false := FLk.of ck3 (by decide) rfl rfl 282 (by decide +kernel)
theorem flRX4_42 : FLk RX4 42 3 12 false := FLk.of ck3 (by decide) rfl rfl 283 (by decide +kernel)
theorem flRX7_144 : FLk RX7 144 3 12 false := FLk.of ck3 (by decide) rfl rfl 284 (by decide +kernel)
theorem flRX6_52 : FLk RX6 52 3 13 false := FLk.of ck3 (by decide) rfl rfl 285 (by decide +kernel)
theorem flRX3_48 : FLk RX3 48 3 13 false := FLk.of ck3 (by decide) rfl rfl 286 (by decide +kernel)
theorem flRX3_51 : FLk RX3 51 3 14 false := FLk.of ck3 (by decide) rfl rfl 287 (by decide +kernel)
theorem flRX6_59 : FLk RX6 59 3 14 false := FLk.of ck3 (by decide) rfl rfl 288 (by decide +kernel)
theorem flRX1_9 : FLk RX1 9 1 0 true := FLk.of ck1 (by decide) rfl rfl 571 (by decide +kernel)
theorem flRX7_230 : FLk RX7 230 1 0 true := FLk.of ck1 (by decide) rfl rfl 572 (by decide +kernel)
theorem flRX1_15 : FLk RX1 15 1 1 false := FLk.of ck1 (by decide) rfl rfl 573 (by decide +kernel)
theorem flRX7_218 : FLk RX7 218 1 1 false := FLk.of ck1 (by decide) rfl rfl 574 (by decide +kernel)
theorem flRX8_98 : FLk RX8 98 8 0 false := FLk.of ck8 (by decide) rfl rfl 646 (by decide +kernel)
theorem flRX8_78 : FLk RX8 78 8 1 false := FLk.of ck8 (by decide) rfl rfl 647 (by decide +kernel)
theorem flRX8_82 : FLk RX8 82 8 2 false := FLk.of ck8 (by decide) rfl rfl 648 (by decide +kernel)
theorem flRX8_7 : FLk RX8 7 8 3 true := FLk.of ck8 (by decide) rfl rfl 649 (by decide +kernel)
theorem flRX8_13 : FLk RX8 13 8 4 true := FLk.of ck8 (by decide) rfl rfl 650 (by decide +kernel)
theorem flRX8_16 : FLk RX8 16 8 5 true := FLk.of ck8 (by decide) rfl rfl 651 (by decide +kernel)
theorem flRX8_19 : FLk RX8 19 8 6 true := FLk.of ck8 (by decide) rfl rfl 652 (by decide +kernel)
theorem flRX8_22 : FLk RX8 22 8 7 true := FLk.of ck8 (by decide) rfl rfl 653 (by decide +kernel)
theorem flRX8_89 : FLk RX8 89 8 8 false := FLk.of ck8 (by decide) rfl rfl 654 (by decide +kernel)
theorem flRX8_25 : FLk RX8 25 8 9 true := FLk.of ck8 (by decide) rfl rfl 655 (by decide +kernel)
theorem flRX8_28 : FLk RX8 28 8 10 true := FLk.of ck8 (by decide) rfl rfl 656 (by decide +kernel)
theorem flRX8_31 : FLk RX8 31 8 11 true := FLk.of ck8 (by decide) rfl rfl 657 (by decide +kernel)
theorem flRX8_34 : FLk RX8 34 8 12 true := FLk.of ck8 (by decide) rfl rfl 658 (by decide +kernel)
theorem flRX8_37 : FLk RX8 37 8 13 true := FLk.of ck8 (by decide) rfl rfl 659 (by decide +kernel)
theorem flRX8_40 : FLk RX8 40 8 14 true := FLk.of ck8 (by decide) rfl rfl 660 (by decide +kernel)
theorem flRX8_43 : FLk RX8 43 8 15 true := FLk.of ck8 (by decide) rfl rfl 661 (by decide +kernel)
theorem flRX8_46 : FLk RX8 46 8 16 true := FLk.of ck8 (by decide) rfl rfl 662 (by decide +kernel)
theorem flRX8_49 : FLk RX8 49 8 17 true := FLk.of ck8 (by decide) rfl rfl 663 (by decide +kernel)
theorem flRX8_52 : FLk RX8 52 8 18 true := FLk.of ck8 (by decide) rfl rfl 664 (by decide +kernel)
theorem flRX8_55 : FLk RX8 55 8 19 true := FLk.of ck8 (by decide) rfl rfl 665 (by decide +kernel)
theorem flRX8_150 : FLk RX8 150 8 20 false := FLk.of ck8 (by decide) rfl rfl 666 (by decide +kernel)
theorem flRX8_153 : FLk RX8 153 8 21 false := FLk.of ck8 (by decide) rfl rfl 667 (by decide +kernel)
theorem flRX8_59 : FLk RX8 59 8 22 true := FLk.of ck8 (by decide) rfl rfl 668 (by decide +kernel)
theorem flRX8_63 : FLk RX8 63 8 23 true := FLk.of ck8 (by decide) rfl rfl 669 (by decide +kernel)
theorem flRX8_66 : FLk RX8 66 8 24 true := FLk.of ck8 (by decide) rfl rfl 670 (by decide +kernel)
theorem flRX8_69 : FLk RX8 69 8 25 true := FLk.of ck8 (by decide) rfl rfl 671 (by decide +kernel)
theorem flRX8_72 : FLk RX8 72 8 26 true := FLk.of ck8 (by decide) rfl rfl 672 (by decide +kernel)
theorem flRX8_75 : FLk RX8 75 8 27 true := FLk.of ck8 (by decide) rfl rfl 673 (by decide +kernel)
theorem mlRL_9 : Cond.methodLink RL 9 yX7_init ∈ gw := gw_t 14 (by decide +kernel) rfl
theorem mlRX7_1 : Cond.methodLink RX7 1 objectInit ∈ gw := gw_t 17 (by decide +kernel) rfl
theorem mlRX7_17 : Cond.methodLink RX7 17 yX4_init ∈ gw := gw_t 24 (by decide +kernel) rfl
theorem mlRX4_3 : Cond.methodLink RX4 3 objectInit ∈ gw := gw_t 27 (by decide +kernel) rfl
theorem mlRX7_24 : Cond.methodLink RX7 24 yX5_init ∈ gw := gw_t 43 (by decide +kernel) rfl
theorem mlRX5_3 : Cond.methodLink RX5 3 objectInit ∈ gw := gw_t 46 (by decide +kernel) rfl
theorem mlRX7_31 : Cond.methodLink RX7 31 yX2_init ∈ gw := gw_t 59 (by decide +kernel) rfl
theorem mlRX2_3 : Cond.methodLink RX2 3 objectInit ∈ gw := gw_t 62 (by decide +kernel) rfl
theorem mlRX2_11 : Cond.methodLink RX2 11 yX5_init ∈ gw := gw_t 64 (by decide +kernel) rfl
theorem mlRX2_20 : Cond.methodLink RX2 20 yX6_init ∈ gw := gw_t 67 (by decide +kernel) rfl
theorem mlRX6_3 : Cond.methodLink RX6 3 objectInit ∈ gw := gw_t 70 (by decide +kernel) rfl
theorem mlRL_13 : Cond.methodLink RL 13 yX7_party ∈ gw := gw_t 141 (by decide +kernel) rfl
theorem mlRL_18 : Cond.methodLink RL 18 yX7_agreement ∈ gw := gw_t 145 (by decide +kernel) rfl
theorem mlRX7_43 : Cond.methodLink RX7 43 yX7_isFrom ∈ gw := gw_t 149 (by decide +kernel) rfl
theorem mlRX7_47 : Cond.methodLink RX7 47 yX0_init ∈ gw := gw_t 153 (by decide +kernel) rfl
theorem mlRX0_3 : Cond.methodLink RX0 3 objectInit ∈ gw := gw_t 156 (by decide +kernel) rfl
theorem mlRL_23 : Cond.methodLink RL 23 yX7_article ∈ gw := gw_t 188 (by decide +kernel) rfl
theorem mlRX7_50 : Cond.methodLink RX7 50 yX7_agreementAt ∈ gw := gw_t 192 (by decide +kernel) rfl
theorem mlRX7_54 : Cond.methodLink RX7 54 yX0_hasArticle ∈ gw := gw_t 196 (by decide +kernel) rfl
theorem mlRX7_59 : Cond.methodLink RX7 59 yX4_hasAny ∈ gw := gw_t 201 (by decide +kernel) rfl
theorem mlRX4_24 : Cond.methodLink RX4 24 yX4_at ∈ gw := gw_t 205 (by decide +kernel) rfl
theorem mlRX7_63 : Cond.methodLink RX7 63 yX0_reword ∈ gw := gw_t 209 (by decide +kernel) rfl
theorem mlRL_28 : Cond.methodLink RL 28 yX7_clock ∈ gw := gw_t 213 (by decide +kernel) rfl
theorem mlRL_33 : Cond.methodLink RL 33 yX7_sign ∈ gw := gw_t 218 (by decide +kernel) rfl
theorem mlRX7_71 : Cond.methodLink RX7 71 yX7_isParty ∈ gw := gw_t 222 (by decide +kernel) rfl
theorem mlRX7_74 : Cond.methodLink RX7 74 yX4_isFull ∈ gw := gw_t 226 (by decide +kernel) rfl
theorem mlRX7_78 : Cond.methodLink RX7 78 yX4_hasSign ∈ gw := gw_t 230 (by decide +kernel) rfl
theorem mlRX7_82 : Cond.methodLink RX7 82 yX4_lodge ∈ gw := gw_t 234 (by decide +kernel) rfl
theorem mlRX4_21 : Cond.methodLink RX4 21 yX3_init ∈ gw := gw_t 239 (by decide +kernel) rfl
theorem mlRX3_3 : Cond.methodLink RX3 3 objectInit ∈ gw := gw_t 242 (by decide +kernel) rfl
theorem mlRL_38 : Cond.methodLink RL 38 yX7_ratify ∈ gw := gw_t 320 (by decide +kernel) rfl
theorem mlRX7_91 : Cond.methodLink RX7 91 yX4_belonging ∈ gw := gw_t 324 (by decide +kernel) rfl
theorem mlRX4_38 : Cond.methodLink RX4 38 yX3_isMembership ∈ gw := gw_t 328 (by decide +kernel) rfl
theorem mlRL_42 : Cond.methodLink RL 42 yX7_join ∈ gw := gw_t 332 (by decide +kernel) rfl
theorem mlRL_46 : Cond.methodLink RL 46 yX7_reserve ∈ gw := gw_t 336 (by decide +kernel) rfl
theorem mlRL_50 : Cond.methodLink RL 50 yX7_object ∈ gw := gw_t 340 (by decide +kernel) rfl
theorem mlRX7_108 : Cond.methodLink RX7 108 yX4_at ∈ gw := gw_t 344 (by decide +kernel) rfl
theorem mlRX7_119 : Cond.methodLink RX7 119 yX3_isHeldBy ∈ gw := gw_t 345 (by decide +kernel) rfl
theorem mlRX3_61 : Cond.methodLink RX3 61 yX3_stands ∈ gw := gw_t 349 (by decide +kernel) rfl
theorem mlRX7_129 : Cond.methodLink RX7 129 yX3_isAnsweredBy ∈ gw := gw_t 353 (by decide +kernel) rfl
theorem mlRX7_137 : Cond.methodLink RX7 137 yX3_answer ∈ gw := gw_t 357 (by decide +kernel) rfl
theorem mlRL_55 : Cond.methodLink RL 55 yX7_withdraw ∈ gw := gw_t 361 (by decide +kernel) rfl
theorem mlRX7_141 : Cond.methodLink RX7 141 yX3_isWithdrawable ∈ gw := gw_t 365 (by decide +kernel) rfl
theorem mlRX3_37 : Cond.methodLink RX3 37 yX3_isMembership ∈ gw := gw_t 369 (by decide +kernel) rfl
theorem mlRX7_147 : Cond.methodLink RX7 147 yX3_end ∈ gw := gw_t 370 (by decide +kernel) rfl
theorem mlRL_59 : Cond.methodLink RL 59 yX7_change ∈ gw := gw_t 374 (by decide +kernel) rfl
theorem mlRL_63 : Cond.methodLink RL 63 yX7_consent ∈ gw := gw_t 378 (by decide +kernel) rfl
theorem mlRL_67 : Cond.methodLink RL 67 yX7_follow ∈ gw := gw_t 382 (by decide +kernel) rfl
theorem mlRL_74 : Cond.methodLink RL 74 yX7_note ∈ gw := gw_t 386 (by decide +kernel) rfl
theorem mlRL_79 : Cond.methodLink RL 79 yX7_undo ∈ gw := gw_t 390 (by decide +kernel) rfl
theorem mlRX7_157 : Cond.methodLink RX7 157 yX3_release ∈ gw := gw_t 394 (by decide +kernel) rfl
theorem mlRX7_160 : Cond.methodLink RX7 160 yX4_dropLatest ∈ gw := gw_t 398 (by decide +kernel) rfl
theorem mlRL_83 : Cond.methodLink RL 83 yX7_between ∈ gw := gw_t 402 (by decide +kernel) rfl
theorem mlRX7_163 : Cond.methodLink RX7 163 yX7_settle ∈ gw := gw_t 406 (by decide +kernel) rfl
theorem mlRX7_178 : Cond.methodLink RX7 178 yX7_isDay ∈ gw := gw_t 410 (by decide +kernel) rfl
theorem mlRX7_244 : Cond.methodLink RX7 244 yX2_settle ∈ gw := gw_t 413 (by decide +kernel) rfl
theorem mlRX2_32 : Cond.methodLink RX2 32 yX2_forget ∈ gw := gw_t 417 (by decide +kernel) rfl
theorem mlRX2_35 : Cond.methodLink RX2 35 yX5_fill ∈ gw := gw_t 421 (by decide +kernel) rfl
theorem mlRX5_24 : Cond.methodLink RX5 24 yX4_at ∈ gw := gw_t 425 (by decide +kernel) rfl
theorem mlRX5_32 : Cond.methodLink RX5 32 yX3_isMembership ∈ gw := gw_t 426 (by decide +kernel) rfl
theorem mlRX5_36 : Cond.methodLink RX5 36 yX3_stands ∈ gw := gw_t 427 (by decide +kernel) rfl
theorem mlRX5_40 : Cond.methodLink RX5 40 yX5_enter ∈ gw := gw_t 428 (by decide +kernel) rfl
theorem mlRX2_46 : Cond.methodLink RX2 46 yX5_at ∈ gw := gw_t 432 (by decide +kernel) rfl
theorem mlRX2_53 : Cond.methodLink RX2 53 yX6_fill ∈ gw := gw_t 436 (by decide +kernel) rfl
theorem mlRX6_25 : Cond.methodLink RX6 25 yX4_at ∈ gw := gw_t 440 (by decide +kernel) rfl
theorem mlRX6_29 : Cond.methodLink RX6 29 yX3_stands ∈ gw := gw_t 441 (by decide +kernel) rfl
theorem mlRX6_35 : Cond.methodLink RX6 35 yX3_isHeldBy ∈ gw := gw_t 442 (by decide +kernel) rfl
theorem mlRX2_56 : Cond.methodLink RX2 56 yX2_findStrongObjection ∈ gw := gw_t 443 (by decide +kernel) rfl
theorem mlRX2_105 : Cond.methodLink RX2 105 yX4_at ∈ gw := gw_t 447 (by decide +kernel) rfl
theorem mlRX2_113 : Cond.methodLink RX2 113 yX2_dividesThem ∈ gw := gw_t 448 (by decide +kernel) rfl
theorem mlRX2_117 : Cond.methodLink RX2 117 yX6_hasPaper ∈ gw := gw_t 452 (by decide +kernel) rfl
theorem mlRX2_72 : Cond.methodLink RX2 72 yX2_findReserve ∈ gw := gw_t 456 (by decide +kernel) rfl
theorem mlRX2_120 : Cond.methodLink RX2 120 yX6_hasReserve ∈ gw := gw_t 460 (by decide +kernel) rfl
theorem mlRX6_48 : Cond.methodLink RX6 48 yX6_hasPaper ∈ gw := gw_t 464 (by decide +kernel) rfl
theorem mlRX2_76 : Cond.methodLink RX2 76 yX2_settleReserve ∈ gw := gw_t 465 (by decide +kernel) rfl
theorem mlRX2_124 : Cond.methodLink RX2 124 yX6_leastAnswer ∈ gw := gw_t 469 (by decide +kernel) rfl
theorem mlRX2_79 : Cond.methodLink RX2 79 yX2_findChange ∈ gw := gw_t 473 (by decide +kernel) rfl
theorem mlRX2_138 : Cond.methodLink RX2 138 yX2_takeChange ∈ gw := gw_t 477 (by decide +kernel) rfl
theorem mlRX2_88 : Cond.methodLink RX2 88 yX0_wordsOf ∈ gw := gw_t 481 (by decide +kernel) rfl
theorem mlRL_88 : Cond.methodLink RL 88 yX7_words ∈ gw := gw_t 485 (by decide +kernel) rfl
theorem mlRL_92 : Cond.methodLink RL 92 yX7_why ∈ gw := gw_t 489 (by decide +kernel) rfl
theorem mlRX7_170 : Cond.methodLink RX7 170 yX2_reason ∈ gw := gw_t 493 (by decide +kernel) rfl
theorem mlRX2_145 : Cond.methodLink RX2 145 yX2_cite ∈ gw := gw_t 497 (by decide +kernel) rfl
theorem mlRX2_148 : Cond.methodLink RX2 148 yX2_citeNeeded ∈ gw := gw_t 501 (by decide +kernel) rfl
theorem mlRX2_151 : Cond.methodLink RX2 151 yX2_citeSources ∈ gw := gw_t 505 (by decide +kernel) rfl
theorem mlRX2_154 : Cond.methodLink RX2 154 yX2_nthCited ∈ gw := gw_t 509 (by decide +kernel) rfl
theorem mlRL_97 : Cond.methodLink RL 97 yX7_first ∈ gw := gw_t 513 (by decide +kernel) rfl
theorem mlRX7_174 : Cond.methodLink RX7 174 yX4_latestEffect ∈ gw := gw_t 517 (by decide +kernel) rfl
theorem mlRL_101 : Cond.methodLink RL 101 yX7_member ∈ gw := gw_t 521 (by decide +kernel) rfl
theorem mlRX7_181 : Cond.methodLink RX7 181 yX5_fill ∈ gw := gw_t 525 (by decide +kernel) rfl
theorem mlRX7_185 : Cond.methodLink RX7 185 yX5_at ∈ gw := gw_t 526 (by decide +kernel) rfl
theorem mlRX7_186 : Cond.methodLink RX7 186 yX7_numberOf ∈ gw := gw_t 527 (by decide +kernel) rfl
theorem mlRL_105 : Cond.methodLink RL 105 yX7_members ∈ gw := gw_t 530 (by decide +kernel) rfl
theorem mlRL_109 : Cond.methodLink RL 109 yX7_since ∈ gw := gw_t 534 (by decide +kernel) rfl
theorem mlRL_114 : Cond.methodLink RL 114 yX7_has ∈ gw := gw_t 538 (by decide +kernel) rfl
theorem mlRX7_194 : Cond.methodLink RX7 194 yX4_nthOfMember ∈ gw := gw_t 542 (by decide +kernel) rfl
theorem mlRX4_49 : Cond.methodLink RX4 49 yX3_stands ∈ gw := gw_t 546 (by decide +kernel) rfl
theorem mlRX4_53 : Cond.methodLink RX4 53 yX3_isHeldBy ∈ gw := gw_t 547 (by decide +kernel) rfl
theorem mlRL_119 : Cond.methodLink RL 119 yX7_paper ∈ gw := gw_t 548 (by decide +kernel) rfl
theorem mlRX7_198 : Cond.methodLink RX7 198 yX3_detail ∈ gw := gw_t 552 (by decide +kernel) rfl
theorem mlRL_123 : Cond.methodLink RL 123 yX7_noted ∈ gw := gw_t 557 (by decide +kernel) rfl
theorem mlRL_128 : Cond.methodLink RL 128 yX7_annex ∈ gw := gw_t 561 (by decide +kernel) rfl
theorem mlRX7_207 : Cond.methodLink RX7 207 yX1_init ∈ gw := gw_t 567 (by decide +kernel) rfl
theorem mlRX1_3 : Cond.methodLink RX1 3 objectInit ∈ gw := gw_t 570 (by decide +kernel) rfl
theorem mlRX7_210 : Cond.methodLink RX7 210 yX0_addAnnex ∈ gw := gw_t 581 (by decide +kernel) rfl
theorem mlRL_132 : Cond.methodLink RL 132 yX7_tear ∈ gw := gw_t 585 (by decide +kernel) rfl
theorem mlRX7_214 : Cond.methodLink RX7 214 yX7_annexAt ∈ gw := gw_t 589 (by decide +kernel) rfl
theorem mlRX7_247 : Cond.methodLink RX7 247 yX0_annexAt ∈ gw := gw_t 593 (by decide +kernel) rfl
theorem mlRL_137 : Cond.methodLink RL 137 yX7_write ∈ gw := gw_t 597 (by decide +kernel) rfl
theorem mlRX7_222 : Cond.methodLink RX7 222 yX1_put ∈ gw := gw_t 601 (by decide +kernel) rfl
theorem mlRX1_19 : Cond.methodLink RX1 19 yX1_cut ∈ gw := gw_t 605 (by decide +kernel) rfl
theorem mlRL_142 : Cond.methodLink RL 142 yX7_read ∈ gw := gw_t 609 (by decide +kernel) rfl
theorem mlRX7_226 : Cond.methodLink RX7 226 yX1_get ∈ gw := gw_t 613 (by decide +kernel) rfl
theorem mlRL_147 : Cond.methodLink RL 147 yX7_size ∈ gw := gw_t 617 (by decide +kernel) rfl
theorem mlRL_151 : Cond.methodLink RL 151 yX7_copy ∈ gw := gw_t 621 (by decide +kernel) rfl
theorem mlRX7_233 : Cond.methodLink RX7 233 yX1_hasRange ∈ gw := gw_t 625 (by decide +kernel) rfl
theorem mlRX7_237 : Cond.methodLink RX7 237 arraycopyName ∈ gw := gw_t 629 (by decide +kernel) rfl
theorem mlRL_155 : Cond.methodLink RL 155 yX7_count ∈ gw := gw_t 632 (by decide +kernel) rfl
theorem mlRX7_243 : Cond.methodLink RX7 243 yX0_detail ∈ gw := gw_t 636 (by decide +kernel) rfl
theorem mlRL_12 : Cond.methodLink RL 12 yX8_init ∈ gw := gw_t 642 (by decide +kernel) rfl
theorem mlRX8_1 : Cond.methodLink RX8 1 objectInit ∈ gw := gw_t 645 (by decide +kernel) rfl
theorem mlRL_17 : Cond.methodLink RL 17 yX8_party ∈ gw := gw_t 731 (by decide +kernel) rfl
theorem mlRL_22 : Cond.methodLink RL 22 yX8_agreement ∈ gw := gw_t 735 (by decide +kernel) rfl
theorem mlRL_27 : Cond.methodLink RL 27 yX8_article ∈ gw := gw_t 739 (by decide +kernel) rfl
theorem mlRX8_93 : Cond.methodLink RX8 93 yX8_isArticle ∈ gw := gw_t 743 (by decide +kernel) rfl
theorem mlRX8_85 : Cond.methodLink RX8 85 yX8_isAgreement ∈ gw := gw_t 747 (by decide +kernel) rfl
theorem mlRL_32 : Cond.methodLink RL 32 yX8_clock ∈ gw := gw_t 752 (by decide +kernel) rfl
theorem mlRL_37 : Cond.methodLink RL 37 yX8_sign ∈ gw := gw_t 757 (by decide +kernel) rfl
theorem mlRX8_115 : Cond.methodLink RX8 115 yX8_isParty ∈ gw := gw_t 761 (by decide +kernel) rfl
theorem mlRX8_118 : Cond.methodLink RX8 118 yX8_isFull ∈ gw := gw_t 765 (by decide +kernel) rfl
theorem mlRX8_122 : Cond.methodLink RX8 122 yX8_hasSign ∈ gw := gw_t 769 (by decide +kernel) rfl
theorem mlRX8_125 : Cond.methodLink RX8 125 yX8_lodge ∈ gw := gw_t 773 (by decide +kernel) rfl
theorem mlRL_41 : Cond.methodLink RL 41 yX8_ratify ∈ gw := gw_t 777 (by decide +kernel) rfl
theorem mlRX8_129 : Cond.methodLink RX8 129 yX8_belongs ∈ gw := gw_t 781 (by decide +kernel) rfl
theorem mlRX8_101 : Cond.methodLink RX8 101 yX8_isMembership ∈ gw := gw_t 785 (by decide +kernel) rfl
theorem mlRL_45 : Cond.methodLink RL 45 yX8_join ∈ gw := gw_t 789 (by decide +kernel) rfl
theorem mlRL_49 : Cond.methodLink RL 49 yX8_reserve ∈ gw := gw_t 793 (by decide +kernel) rfl
theorem mlRL_54 : Cond.methodLink RL 54 yX8_object ∈ gw := gw_t 797 (by decide +kernel) rfl
theorem mlRX8_136 : Cond.methodLink RX8 136 yX8_isPaper ∈ gw := gw_t 801 (by decide +kernel) rfl
theorem mlRX8_112 : Cond.methodLink RX8 112 yX8_isHeld ∈ gw := gw_t 805 (by decide +kernel) rfl
theorem mlRX8_104 : Cond.methodLink RX8 104 yX8_stands ∈ gw := gw_t 809 (by decide +kernel) rfl
theorem mlRX8_139 : Cond.methodLink RX8 139 yX8_isSaid ∈ gw := gw_t 813 (by decide +kernel) rfl
theorem mlRX8_133 : Cond.methodLink RX8 133 yX8_isWithdrawn ∈ gw := gw_t 817 (by decide +kernel) rfl
theorem mlRL_58 : Cond.methodLink RL 58 yX8_withdraw ∈ gw := gw_t 821 (by decide +kernel) rfl
theorem mlRL_62 : Cond.methodLink RL 62 yX8_change ∈ gw := gw_t 825 (by decide +kernel) rfl
theorem mlRL_66 : Cond.methodLink RL 66 yX8_consent ∈ gw := gw_t 829 (by decide +kernel) rfl
theorem mlRL_71 : Cond.methodLink RL 71 yX8_follow ∈ gw := gw_t 833 (by decide +kernel) rfl
theorem mlRL_78 : Cond.methodLink RL 78 yX8_note ∈ gw := gw_t 837 (by decide +kernel) rfl
theorem mlRL_82 : Cond.methodLink RL 82 yX8_undo ∈ gw := gw_t 841 (by decide +kernel) rfl
theorem mlRL_87 : Cond.methodLink RL 87 yX8_between ∈ gw := gw_t 845 (by decide +kernel) rfl
theorem mlRX8_179 : Cond.methodLink RX8 179 yX8_isAsked ∈ gw := gw_t 849 (by decide +kernel) rfl
theorem mlRX8_182 : Cond.methodLink RX8 182 yX8_isDay ∈ gw := gw_t 853 (by decide +kernel) rfl
theorem mlRX8_185 : Cond.methodLink RX8 185 yX8_finds ∈ gw := gw_t 856 (by decide +kernel) rfl
theorem mlRX8_108 : Cond.methodLink RX8 108 yX8_memberOf ∈ gw := gw_t 860 (by decide +kernel) rfl
theorem mlRX8_156 : Cond.methodLink RX8 156 yX8_manyMembers ∈ gw := gw_t 864 (by decide +kernel) rfl
theorem mlRX8_146 : Cond.methodLink RX8 146 yX8_because ∈ gw := gw_t 868 (by decide +kernel) rfl
theorem mlRX8_160 : Cond.methodLink RX8 160 yX8_strong ∈ gw := gw_t 872 (by decide +kernel) rfl
theorem mlRX8_143 : Cond.methodLink RX8 143 yX8_hasPaper ∈ gw := gw_t 876 (by decide +kernel) rfl
theorem mlRX8_163 : Cond.methodLink RX8 163 Lib.Math.min.name ∈ gw := gw_t 880 (by decide +kernel) rfl
theorem mlRX8_168 : Cond.methodLink RX8 168 yX8_leans ∈ gw := gw_t 883 (by decide +kernel) rfl
theorem mlRX8_171 : Cond.methodLink RX8 171 yX8_leastTo ∈ gw := gw_t 887 (by decide +kernel) rfl
theorem mlRX8_175 : Cond.methodLink RX8 175 yX8_changes ∈ gw := gw_t 891 (by decide +kernel) rfl
theorem mlRL_91 : Cond.methodLink RL 91 yX8_words ∈ gw := gw_t 895 (by decide +kernel) rfl
theorem mlRL_96 : Cond.methodLink RL 96 yX8_why ∈ gw := gw_t 899 (by decide +kernel) rfl
theorem mlRL_100 : Cond.methodLink RL 100 yX8_first ∈ gw := gw_t 903 (by decide +kernel) rfl
theorem mlRX8_188 : Cond.methodLink RX8 188 yX8_effectBelow ∈ gw := gw_t 907 (by decide +kernel) rfl
theorem mlRL_104 : Cond.methodLink RL 104 yX8_member ∈ gw := gw_t 911 (by decide +kernel) rfl
theorem mlRL_108 : Cond.methodLink RL 108 yX8_members ∈ gw := gw_t 915 (by decide +kernel) rfl
theorem mlRL_113 : Cond.methodLink RL 113 yX8_since ∈ gw := gw_t 919 (by decide +kernel) rfl
theorem mlRL_118 : Cond.methodLink RL 118 yX8_has ∈ gw := gw_t 923 (by decide +kernel) rfl
theorem mlRL_122 : Cond.methodLink RL 122 yX8_paper ∈ gw := gw_t 927 (by decide +kernel) rfl
theorem mlRL_127 : Cond.methodLink RL 127 yX8_noted ∈ gw := gw_t 931 (by decide +kernel) rfl
theorem mlRL_131 : Cond.methodLink RL 131 yX8_annex ∈ gw := gw_t 935 (by decide +kernel) rfl
theorem mlRL_136 : Cond.methodLink RL 136 yX8_tear ∈ gw := gw_t 939 (by decide +kernel) rfl
theorem mlRX8_192 : Cond.methodLink RX8 192 yX8_isAnnex ∈ gw := gw_t 943 (by decide +kernel) rfl
theorem mlRL_141 : Cond.methodLink RL 141 yX8_write ∈ gw := gw_t 947 (by decide +kernel) rfl
theorem mlRX8_195 : Cond.methodLink RX8 195 yX8_wrong ∈ gw := gw_t 951 (by decide +kernel) rfl
theorem mlRL_146 : Cond.methodLink RL 146 yX8_read ∈ gw := gw_t 955 (by decide +kernel) rfl
theorem mlRL_150 : Cond.methodLink RL 150 yX8_size ∈ gw := gw_t 959 (by decide +kernel) rfl
theorem mlRL_154 : Cond.methodLink RL 154 yX8_copy ∈ gw := gw_t 963 (by decide +kernel) rfl
theorem mlRL_158 : Cond.methodLink RL 158 yX8_count ∈ gw := gw_t 967 (by decide +kernel) rfl
theorem clRL_7 : Cond.classLink RL 7 RX7 ∈ gw := gw_t 12 (by decide +kernel) rfl
theorem clRX7_9 : Cond.classLink RX7 9 RX0 ∈ gw := gw_t 20 (by decide +kernel) rfl
theorem clRX7_15 : Cond.classLink RX7 15 RX4 ∈ gw := gw_t 22 (by decide +kernel) rfl
theorem clRX4_9 : Cond.classLink RX4 9 RX3 ∈ gw := gw_t 28 (by decide +kernel) rfl
theorem clRX7_22 : Cond.classLink RX7 22 RX5 ∈ gw := gw_t 41 (by decide +kernel) rfl
theorem clRX5_9 : Cond.classLink RX5 9 RX3 ∈ gw := gw_t 47 (by decide +kernel) rfl
theorem clRX7_29 : Cond.classLink RX7 29 RX2 ∈ gw := gw_t 57 (by decide +kernel) rfl
theorem clRX2_9 : Cond.classLink RX2 9 RX5 ∈ gw := gw_t 63 (by decide +kernel) rfl
theorem clRX2_18 : Cond.classLink RX2 18 RX6 ∈ gw := gw_t 65 (by decide +kernel) rfl
theorem clRX0_28 : Cond.classLink RX0 28 RX1 ∈ gw := gw_t 157 (by decide +kernel) rfl
theorem clRX7_205 : Cond.classLink RX7 205 RX1 ∈ gw := gw_t 565 (by decide +kernel) rfl
theorem clRL_10 : Cond.classLink RL 10 RX8 ∈ gw := gw_t 640 (by decide +kernel) rfl
theorem inRX7 : Cond.instantiable RX7 7 ∈ gw := gw_t 13 (by decide +kernel) rfl
theorem inRX4 : Cond.instantiable RX4 2 ∈ gw := gw_t 23 (by decide +kernel) rfl
theorem inRX5 : Cond.instantiable RX5 2 ∈ gw := gw_t 42 (by decide +kernel) rfl
theorem inRX2 : Cond.instantiable RX2 12 ∈ gw := gw_t 58 (by decide +kernel) rfl
theorem inRX6 : Cond.instantiable RX6 2 ∈ gw := gw_t 66 (by decide +kernel) rfl
theorem inRX0 : Cond.instantiable RX0 7 ∈ gw := gw_t 152 (by decide +kernel) rfl
theorem inRX3 : Cond.instantiable RX3 15 ∈ gw := gw_t 238 (by decide +kernel) rfl
theorem inRX1 : Cond.instantiable RX1 2 ∈ gw := gw_t 566 (by decide +kernel) rfl
theorem inRX8 : Cond.instantiable RX8 28 ∈ gw := gw_t 641 (by decide +kernel) rfl
theorem itRL : Cond.initialized RL ∈ gw := gw_t 0 (by decide +kernel) rfl
theorem itRX7 : Cond.initialized RX7 ∈ gw := gw_t 1 (by decide +kernel) rfl
theorem itRX4 : Cond.initialized RX4 ∈ gw := gw_t 2 (by decide +kernel) rfl
theorem itRX5 : Cond.initialized RX5 ∈ gw := gw_t 3 (by decide +kernel) rfl
theorem itRX2 : Cond.initialized RX2 ∈ gw := gw_t 4 (by decide +kernel) rfl
theorem itRX6 : Cond.initialized RX6 ∈ gw := gw_t 5 (by decide +kernel) rfl
theorem itRX8 : Cond.initialized RX8 ∈ gw := gw_t 6 (by decide +kernel) rfl
theorem itRX0 : Cond.initialized RX0 ∈ gw := gw_t 7 (by decide +kernel) rfl
theorem itRX3 : Cond.initialized RX3 ∈ gw := gw_t 8 (by decide +kernel) rfl
theorem itRJ9 : Cond.initialized RJ9 ∈ gw := gw_t 9 (by decide +kernel) rfl
theorem itRX1 : Cond.initialized RX1 ∈ gw := gw_t 10 (by decide +kernel) rfl
theorem itRJ10 : Cond.initialized RJ10 ∈ gw := gw_t 11 (by decide +kernel) rfl
theorem csRX7_58 : Cond.constant RX7 58 (1000000) ∈ gw := gw_t 200 (by decide +kernel) rfl
theorem csRX7_70 : Cond.constant RX7 70 (73000) ∈ gw := gw_t 217 (by decide +kernel) rfl
theorem csRX8_97 : Cond.constant RX8 97 (1000000) ∈ gw := gw_t 751 (by decide +kernel) rfl
theorem csRX8_92 : Cond.constant RX8 92 (73000) ∈ gw := gw_t 756 (by decide +kernel) rfl
theorem csRL_72 : Cond.constantLong RL 72 (4294967295) ∈ gw := gw_t 971 (by decide +kernel) rfl
theorem ac_boolean : Cond.arrayClass .boolean ∈ gw := gw_t 79 (by decide +kernel) rfl
theorem ac_int : Cond.arrayClass .int ∈ gw := gw_t 187 (by decide +kernel) rfl
theorem ac_long : Cond.arrayClass .long ∈ gw := gw_t 580 (by decide +kernel) rfl
theorem im_yX7_init : Cond.instanceMethod yX7_init ∈ gw := gw_t 15 (by decide +kernel) rfl
theorem im_objectInit : Cond.instanceMethod objectInit ∈ gw := gw_t 18 (by decide +kernel) rfl
theorem im_yX4_init : Cond.instanceMethod yX4_init ∈ gw := gw_t 25 (by decide +kernel) rfl
theorem im_yX5_init : Cond.instanceMethod yX5_init ∈ gw := gw_t 44 (by decide +kernel) rfl
theorem im_yX2_init : Cond.instanceMethod yX2_init ∈ gw := gw_t 60 (by decide +kernel) rfl
theorem im_yX6_init : Cond.instanceMethod yX6_init ∈ gw := gw_t 68 (by decide +kernel) rfl
theorem im_yX7_party : Cond.instanceMethod yX7_party ∈ gw := gw_t 142 (by decide +kernel) rfl
theorem im_yX7_agreement : Cond.instanceMethod yX7_agreement ∈ gw := gw_t 146 (by decide +kernel) rfl
theorem im_yX0_init : Cond.instanceMethod yX0_init ∈ gw := gw_t 154 (by decide +kernel) rfl
theorem im_yX7_article : Cond.instanceMethod yX7_article ∈ gw := gw_t 189 (by decide +kernel) rfl
theorem im_yX7_agreementAt : Cond.instanceMethod yX7_agreementAt ∈ gw := gw_t 194 (by decide +kernel) rfl
theorem im_yX0_hasArticle : Cond.instanceMethod yX0_hasArticle ∈ gw := gw_t 197 (by decide +kernel) rfl
theorem im_yX4_hasAny : Cond.instanceMethod yX4_hasAny ∈ gw := gw_t 202 (by decide +kernel) rfl
theorem im_yX4_at : Cond.instanceMethod yX4_at ∈ gw := gw_t 206 (by decide +kernel) rfl
theorem im_yX0_reword : Cond.instanceMethod yX0_reword ∈ gw := gw_t 210 (by decide +kernel) rfl
theorem im_yX7_clock : Cond.instanceMethod yX7_clock ∈ gw := gw_t 214 (by decide +kernel) rfl
theorem im_yX7_sign : Cond.instanceMethod yX7_sign ∈ gw := gw_t 219 (by decide +kernel) rfl
theorem im_yX7_isParty : Cond.instanceMethod yX7_isParty ∈ gw := gw_t 224 (by decide +kernel) rfl
theorem im_yX4_isFull : Cond.instanceMethod yX4_isFull ∈ gw := gw_t 227 (by decide +kernel) rfl
theorem im_yX4_hasSign : Cond.instanceMethod yX4_hasSign ∈ gw := gw_t 231 (by decide +kernel) rfl
theorem im_yX4_lodge : Cond.instanceMethod yX4_lodge ∈ gw := gw_t 235 (by decide +kernel) rfl
theorem im_yX3_init : Cond.instanceMethod yX3_init ∈ gw := gw_t 240 (by decide +kernel) rfl
theorem im_yX7_ratify : Cond.instanceMethod yX7_ratify ∈ gw := gw_t 321 (by decide +kernel) rfl
theorem im_yX4_belonging : Cond.instanceMethod yX4_belonging ∈ gw := gw_t 325 (by decide +kernel) rfl
theorem im_yX3_isMembership : Cond.instanceMethod yX3_isMembership ∈ gw := gw_t 329 (by decide +kernel) rfl
theorem im_yX7_join : Cond.instanceMethod yX7_join ∈ gw := gw_t 333 (by decide +kernel) rfl
theorem im_yX7_reserve : Cond.instanceMethod yX7_reserve ∈ gw := gw_t 337 (by decide +kernel) rfl
theorem im_yX7_object : Cond.instanceMethod yX7_object ∈ gw := gw_t 341 (by decide +kernel) rfl
theorem im_yX3_isHeldBy : Cond.instanceMethod yX3_isHeldBy ∈ gw := gw_t 346 (by decide +kernel) rfl
theorem im_yX3_stands : Cond.instanceMethod yX3_stands ∈ gw := gw_t 350 (by decide +kernel) rfl
theorem im_yX3_isAnsweredBy : Cond.instanceMethod yX3_isAnsweredBy ∈ gw := gw_t 354 (by decide +kernel) rfl
theorem im_yX3_answer : Cond.instanceMethod yX3_answer ∈ gw := gw_t 358 (by decide +kernel) rfl
theorem im_yX7_withdraw : Cond.instanceMethod yX7_withdraw ∈ gw := gw_t 362 (by decide +kernel) rfl
theorem im_yX3_isWithdrawable : Cond.instanceMethod yX3_isWithdrawable ∈ gw := gw_t 366 (by decide +kernel) rfl
theorem im_yX3_end : Cond.instanceMethod yX3_end ∈ gw := gw_t 371 (by decide +kernel) rfl
theorem im_yX7_change : Cond.instanceMethod yX7_change ∈ gw := gw_t 375 (by decide +kernel) rfl
theorem im_yX7_consent : Cond.instanceMethod yX7_consent ∈ gw := gw_t 379 (by decide +kernel) rfl
theorem im_yX7_follow : Cond.instanceMethod yX7_follow ∈ gw := gw_t 383 (by decide +kernel) rfl
theorem im_yX7_note : Cond.instanceMethod yX7_note ∈ gw := gw_t 387 (by decide +kernel) rfl
theorem im_yX7_undo : Cond.instanceMethod yX7_undo ∈ gw := gw_t 391 (by decide +kernel) rfl
theorem im_yX3_release : Cond.instanceMethod yX3_release ∈ gw := gw_t 395 (by decide +kernel) rfl
theorem im_yX4_dropLatest : Cond.instanceMethod yX4_dropLatest ∈ gw := gw_t 399 (by decide +kernel) rfl
theorem im_yX7_between : Cond.instanceMethod yX7_between ∈ gw := gw_t 403 (by decide +kernel) rfl
theorem im_yX7_settle : Cond.instanceMethod yX7_settle ∈ gw := gw_t 408 (by decide +kernel) rfl
theorem im_yX2_settle : Cond.instanceMethod yX2_settle ∈ gw := gw_t 414 (by decide +kernel) rfl
theorem im_yX2_forget : Cond.instanceMethod yX2_forget ∈ gw := gw_t 419 (by decide +kernel) rfl
theorem im_yX5_fill : Cond.instanceMethod yX5_fill ∈ gw := gw_t 422 (by decide +kernel) rfl
theorem im_yX5_enter : Cond.instanceMethod yX5_enter ∈ gw := gw_t 430 (by decide +kernel) rfl
theorem im_yX5_at : Cond.instanceMethod yX5_at ∈ gw := gw_t 433 (by decide +kernel) rfl
theorem im_yX6_fill : Cond.instanceMethod yX6_fill ∈ gw := gw_t 437 (by decide +kernel) rfl
theorem im_yX2_findStrongObjection : Cond.instanceMethod yX2_findStrongObjection ∈ gw := gw_t 445 (by decide +kernel) rfl
theorem im_yX2_dividesThem : Cond.instanceMethod yX2_dividesThem ∈ gw := gw_t 450 (by decide +kernel) rfl
theorem im_yX6_hasPaper : Cond.instanceMethod yX6_hasPaper ∈ gw := gw_t 453 (by decide +kernel) rfl
theorem im_yX2_findReserve : Cond.instanceMethod yX2_findReserve ∈ gw := gw_t 458 (by decide +kernel) rfl
theorem im_yX6_hasReserve : Cond.instanceMethod yX6_hasReserve ∈ gw := gw_t 461 (by decide +kernel) rfl
theorem im_yX2_settleReserve : Cond.instanceMethod yX2_settleReserve ∈ gw := gw_t 467 (by decide +kernel) rfl
theorem im_yX6_leastAnswer : Cond.instanceMethod yX6_leastAnswer ∈ gw := gw_t 470 (by decide +kernel) rfl
theorem im_yX2_findChange : Cond.instanceMethod yX2_findChange ∈ gw := gw_t 475 (by decide +kernel) rfl
theorem im_yX2_takeChange : Cond.instanceMethod yX2_takeChange ∈ gw := gw_t 479 (by decide +kernel) rfl
theorem im_yX0_wordsOf : Cond.instanceMethod yX0_wordsOf ∈ gw := gw_t 482 (by decide +kernel) rfl
theorem im_yX7_words : Cond.instanceMethod yX7_words ∈ gw := gw_t 486 (by decide +kernel) rfl
theorem im_yX7_why : Cond.instanceMethod yX7_why ∈ gw := gw_t 490 (by decide +kernel) rfl
theorem im_yX2_reason : Cond.instanceMethod yX2_reason ∈ gw := gw_t 494 (by decide +kernel) rfl
theorem im_yX2_cite : Cond.instanceMethod yX2_cite ∈ gw := gw_t 499 (by decide +kernel) rfl
theorem im_yX2_citeNeeded : Cond.instanceMethod yX2_citeNeeded ∈ gw := gw_t 503 (by decide +kernel) rfl
theorem im_yX2_citeSources : Cond.instanceMethod yX2_citeSources ∈ gw := gw_t 507 (by decide +kernel) rfl
theorem im_yX2_nthCited : Cond.instanceMethod yX2_nthCited ∈ gw := gw_t 511 (by decide +kernel) rfl
theorem im_yX7_first : Cond.instanceMethod yX7_first ∈ gw := gw_t 514 (by decide +kernel) rfl
theorem im_yX4_latestEffect : Cond.instanceMethod yX4_latestEffect ∈ gw := gw_t 518 (by decide +kernel) rfl
theorem im_yX7_member : Cond.instanceMethod yX7_member ∈ gw := gw_t 522 (by decide +kernel) rfl
theorem im_yX7_members : Cond.instanceMethod yX7_members ∈ gw := gw_t 531 (by decide +kernel) rfl
theorem im_yX7_since : Cond.instanceMethod yX7_since ∈ gw := gw_t 535 (by decide +kernel) rfl
theorem im_yX7_has : Cond.instanceMethod yX7_has ∈ gw := gw_t 539 (by decide +kernel) rfl
theorem im_yX4_nthOfMember : Cond.instanceMethod yX4_nthOfMember ∈ gw := gw_t 543 (by decide +kernel) rfl
theorem im_yX7_paper : Cond.instanceMethod yX7_paper ∈ gw := gw_t 549 (by decide +kernel) rfl
theorem im_yX3_detail : Cond.instanceMethod yX3_detail ∈ gw := gw_t 553 (by decide +kernel) rfl
theorem im_yX7_noted : Cond.instanceMethod yX7_noted ∈ gw := gw_t 558 (by decide +kernel) rfl
theorem im_yX7_annex : Cond.instanceMethod yX7_annex ∈ gw := gw_t 562 (by decide +kernel) rfl
theorem im_yX1_init : Cond.instanceMethod yX1_init ∈ gw := gw_t 568 (by decide +kernel) rfl
theorem im_yX0_addAnnex : Cond.instanceMethod yX0_addAnnex ∈ gw := gw_t 582 (by decide +kernel) rfl
theorem im_yX7_tear : Cond.instanceMethod yX7_tear ∈ gw := gw_t 586 (by decide +kernel) rfl
theorem im_yX7_annexAt : Cond.instanceMethod yX7_annexAt ∈ gw := gw_t 591 (by decide +kernel) rfl
theorem im_yX0_annexAt : Cond.instanceMethod yX0_annexAt ∈ gw := gw_t 594 (by decide +kernel) rfl
theorem im_yX7_write : Cond.instanceMethod yX7_write ∈ gw := gw_t 598 (by decide +kernel) rfl
theorem im_yX1_put : Cond.instanceMethod yX1_put ∈ gw := gw_t 602 (by decide +kernel) rfl
theorem im_yX1_cut : Cond.instanceMethod yX1_cut ∈ gw := gw_t 607 (by decide +kernel) rfl
theorem im_yX7_read : Cond.instanceMethod yX7_read ∈ gw := gw_t 610 (by decide +kernel) rfl
theorem im_yX1_get : Cond.instanceMethod yX1_get ∈ gw := gw_t 614 (by decide +kernel) rfl
theorem im_yX7_size : Cond.instanceMethod yX7_size ∈ gw := gw_t 618 (by decide +kernel) rfl
theorem im_yX7_copy : Cond.instanceMethod yX7_copy ∈ gw := gw_t 622 (by decide +kernel) rfl
theorem im_yX1_hasRange : Cond.instanceMethod yX1_hasRange ∈ gw := gw_t 626 (by decide +kernel) rfl
theorem im_yX7_count : Cond.instanceMethod yX7_count ∈ gw := gw_t 633 (by decide +kernel) rfl
theorem im_yX0_detail : Cond.instanceMethod yX0_detail ∈ gw := gw_t 637 (by decide +kernel) rfl
theorem im_yX8_init : Cond.instanceMethod yX8_init ∈ gw := gw_t 643 (by decide +kernel) rfl
theorem im_yX8_party : Cond.instanceMethod yX8_party ∈ gw := gw_t 732 (by decide +kernel) rfl
theorem im_yX8_agreement : Cond.instanceMethod yX8_agreement ∈ gw := gw_t 736 (by decide +kernel) rfl
theorem im_yX8_article : Cond.instanceMethod yX8_article ∈ gw := gw_t 740 (by decide +kernel) rfl
theorem im_yX8_isArticle : Cond.instanceMethod yX8_isArticle ∈ gw := gw_t 745 (by decide +kernel) rfl
theorem im_yX8_isAgreement : Cond.instanceMethod yX8_isAgreement ∈ gw := gw_t 749 (by decide +kernel) rfl
theorem im_yX8_clock : Cond.instanceMethod yX8_clock ∈ gw := gw_t 753 (by decide +kernel) rfl
theorem im_yX8_sign : Cond.instanceMethod yX8_sign ∈ gw := gw_t 758 (by decide +kernel) rfl
theorem im_yX8_isParty : Cond.instanceMethod yX8_isParty ∈ gw := gw_t 763 (by decide +kernel) rfl
theorem im_yX8_isFull : Cond.instanceMethod yX8_isFull ∈ gw := gw_t 767 (by decide +kernel) rfl
theorem im_yX8_hasSign : Cond.instanceMethod yX8_hasSign ∈ gw := gw_t 771 (by decide +kernel) rfl
theorem im_yX8_lodge : Cond.instanceMethod yX8_lodge ∈ gw := gw_t 775 (by decide +kernel) rfl
theorem im_yX8_ratify : Cond.instanceMethod yX8_ratify ∈ gw := gw_t 778 (by decide +kernel) rfl
theorem im_yX8_belongs : Cond.instanceMethod yX8_belongs ∈ gw := gw_t 783 (by decide +kernel) rfl
theorem im_yX8_isMembership : Cond.instanceMethod yX8_isMembership ∈ gw := gw_t 787 (by decide +kernel) rfl
theorem im_yX8_join : Cond.instanceMethod yX8_join ∈ gw := gw_t 790 (by decide +kernel) rfl
theorem im_yX8_reserve : Cond.instanceMethod yX8_reserve ∈ gw := gw_t 794 (by decide +kernel) rfl
theorem im_yX8_object : Cond.instanceMethod yX8_object ∈ gw := gw_t 798 (by decide +kernel) rfl
theorem im_yX8_isPaper : Cond.instanceMethod yX8_isPaper ∈ gw := gw_t 803 (by decide +kernel) rfl
theorem im_yX8_isHeld : Cond.instanceMethod yX8_isHeld ∈ gw := gw_t 807 (by decide +kernel) rfl
theorem im_yX8_stands : Cond.instanceMethod yX8_stands ∈ gw := gw_t 811 (by decide +kernel) rfl
theorem im_yX8_isSaid : Cond.instanceMethod yX8_isSaid ∈ gw := gw_t 815 (by decide +kernel) rfl
theorem im_yX8_isWithdrawn : Cond.instanceMethod yX8_isWithdrawn ∈ gw := gw_t 819 (by decide +kernel) rfl
theorem im_yX8_withdraw : Cond.instanceMethod yX8_withdraw ∈ gw := gw_t 822 (by decide +kernel) rfl
theorem im_yX8_change : Cond.instanceMethod yX8_change ∈ gw := gw_t 826 (by decide +kernel) rfl
theorem im_yX8_consent : Cond.instanceMethod yX8_consent ∈ gw := gw_t 830 (by decide +kernel) rfl
theorem im_yX8_follow : Cond.instanceMethod yX8_follow ∈ gw := gw_t 834 (by decide +kernel) rfl
theorem im_yX8_note : Cond.instanceMethod yX8_note ∈ gw := gw_t 838 (by decide +kernel) rfl
theorem im_yX8_undo : Cond.instanceMethod yX8_undo ∈ gw := gw_t 842 (by decide +kernel) rfl
theorem im_yX8_between : Cond.instanceMethod yX8_between ∈ gw := gw_t 846 (by decide +kernel) rfl
theorem im_yX8_isAsked : Cond.instanceMethod yX8_isAsked ∈ gw := gw_t 851 (by decide +kernel) rfl
theorem im_yX8_finds : Cond.instanceMethod yX8_finds ∈ gw := gw_t 858 (by decide +kernel) rfl
theorem im_yX8_memberOf : Cond.instanceMethod yX8_memberOf ∈ gw := gw_t 862 (by decide +kernel) rfl
theorem im_yX8_manyMembers : Cond.instanceMethod yX8_manyMembers ∈ gw := gw_t 866 (by decide +kernel) rfl
theorem im_yX8_because : Cond.instanceMethod yX8_because ∈ gw := gw_t 870 (by decide +kernel) rfl
theorem im_yX8_strong : Cond.instanceMethod yX8_strong ∈ gw := gw_t 874 (by decide +kernel) rfl
theorem im_yX8_hasPaper : Cond.instanceMethod yX8_hasPaper ∈ gw := gw_t 878 (by decide +kernel) rfl
theorem im_yX8_leans : Cond.instanceMethod yX8_leans ∈ gw := gw_t 885 (by decide +kernel) rfl
theorem im_yX8_leastTo : Cond.instanceMethod yX8_leastTo ∈ gw := gw_t 889 (by decide +kernel) rfl
theorem im_yX8_changes : Cond.instanceMethod yX8_changes ∈ gw := gw_t 893 (by decide +kernel) rfl
theorem im_yX8_words : Cond.instanceMethod yX8_words ∈ gw := gw_t 896 (by decide +kernel) rfl
theorem im_yX8_why : Cond.instanceMethod yX8_why ∈ gw := gw_t 900 (by decide +kernel) rfl
theorem im_yX8_first : Cond.instanceMethod yX8_first ∈ gw := gw_t 904 (by decide +kernel) rfl
theorem im_yX8_effectBelow : Cond.instanceMethod yX8_effectBelow ∈ gw := gw_t 909 (by decide +kernel) rfl
theorem im_yX8_member : Cond.instanceMethod yX8_member ∈ gw := gw_t 912 (by decide +kernel) rfl
theorem im_yX8_members : Cond.instanceMethod yX8_members ∈ gw := gw_t 916 (by decide +kernel) rfl
theorem im_yX8_since : Cond.instanceMethod yX8_since ∈ gw := gw_t 920 (by decide +kernel) rfl
theorem im_yX8_has : Cond.instanceMethod yX8_has ∈ gw := gw_t 924 (by decide +kernel) rfl
theorem im_yX8_paper : Cond.instanceMethod yX8_paper ∈ gw := gw_t 928 (by decide +kernel) rfl
theorem im_yX8_noted : Cond.instanceMethod yX8_noted ∈ gw := gw_t 932 (by decide +kernel) rfl
theorem im_yX8_annex : Cond.instanceMethod yX8_annex ∈ gw := gw_t 936 (by decide +kernel) rfl
theorem im_yX8_tear : Cond.instanceMethod yX8_tear ∈ gw := gw_t 940 (by decide +kernel) rfl
theorem im_yX8_isAnnex : Cond.instanceMethod yX8_isAnnex ∈ gw := gw_t 945 (by decide +kernel) rfl
theorem im_yX8_write : Cond.instanceMethod yX8_write ∈ gw := gw_t 948 (by decide +kernel) rfl
theorem im_yX8_wrong : Cond.instanceMethod yX8_wrong ∈ gw := gw_t 953 (by decide +kernel) rfl
theorem im_yX8_read : Cond.instanceMethod yX8_read ∈ gw := gw_t 956 (by decide +kernel) rfl
theorem im_yX8_size : Cond.instanceMethod yX8_size ∈ gw := gw_t 960 (by decide +kernel) rfl
theorem im_yX8_copy : Cond.instanceMethod yX8_copy ∈ gw := gw_t 964 (by decide +kernel) rfl
theorem im_yX8_count : Cond.instanceMethod yX8_count ∈ gw := gw_t 968 (by decide +kernel) rfl
theorem st_yX7_isFrom : Cond.static yX7_isFrom ∈ gw := gw_t 150 (by decide +kernel) rfl
theorem st_yX7_isDay : Cond.static yX7_isDay ∈ gw := gw_t 411 (by decide +kernel) rfl
theorem st_yX7_numberOf : Cond.static yX7_numberOf ∈ gw := gw_t 528 (by decide +kernel) rfl
theorem st_arraycopyName : Cond.static arraycopyName ∈ gw := gw_t 630 (by decide +kernel) rfl
theorem st_yX8_isDay : Cond.static yX8_isDay ∈ gw := gw_t 854 (by decide +kernel) rfl
theorem st_Lib_Math_min_name : Cond.static Lib.Math.min.name ∈ gw := gw_t 881 (by decide +kernel) rfl
theorem nt_arraycopyName : Cond.native arraycopyName ∈ gw := gw_t 631 (by decide +kernel) rfl
theorem se_yX7_party : Cond.selects yX7_party.cls yX7_party yX7_party ∈ gw := gw_t 143 (by decide +kernel) rfl
theorem se_yX7_agreement : Cond.selects yX7_agreement.cls yX7_agreement yX7_agreement ∈ gw := gw_t 147 (by decide +kernel) rfl
theorem se_yX7_article : Cond.selects yX7_article.cls yX7_article yX7_article ∈ gw := gw_t 190 (by decide +kernel) rfl
theorem se_yX0_hasArticle : Cond.selects yX0_hasArticle.cls yX0_hasArticle yX0_hasArticle ∈ gw := gw_t 198 (by decide +kernel) rfl
theorem se_yX4_hasAny : Cond.selects yX4_hasAny.cls yX4_hasAny yX4_hasAny ∈ gw := gw_t 203 (by decide +kernel) rfl
theorem se_yX4_at : Cond.selects yX4_at.cls yX4_at yX4_at ∈ gw := gw_t 207 (by decide +kernel) rfl
theorem se_yX0_reword : Cond.selects yX0_reword.cls yX0_reword yX0_reword ∈ gw := gw_t 211 (by decide +kernel) rfl
theorem se_yX7_clock : Cond.selects yX7_clock.cls yX7_clock yX7_clock ∈ gw := gw_t 215 (by decide +kernel) rfl
theorem se_yX7_sign : Cond.selects yX7_sign.cls yX7_sign yX7_sign ∈ gw := gw_t 220 (by decide +kernel) rfl
theorem se_yX4_isFull : Cond.selects yX4_isFull.cls yX4_isFull yX4_isFull ∈ gw := gw_t 228 (by decide +kernel) rfl
theorem se_yX4_hasSign : Cond.selects yX4_hasSign.cls yX4_hasSign yX4_hasSign ∈ gw := gw_t 232 (by decide +kernel) rfl
theorem se_yX4_lodge : Cond.selects yX4_lodge.cls yX4_lodge yX4_lodge ∈ gw := gw_t 236 (by decide +kernel) rfl
theorem se_yX7_ratify : Cond.selects yX7_ratify.cls yX7_ratify yX7_ratify ∈ gw := gw_t 322 (by decide +kernel) rfl
theorem se_yX4_belonging : Cond.selects yX4_belonging.cls yX4_belonging yX4_belonging ∈ gw := gw_t 326 (by decide +kernel) rfl
theorem se_yX3_isMembership : Cond.selects yX3_isMembership.cls yX3_isMembership yX3_isMembership ∈ gw := gw_t 330 (by decide +kernel) rfl
theorem se_yX7_join : Cond.selects yX7_join.cls yX7_join yX7_join ∈ gw := gw_t 334 (by decide +kernel) rfl
theorem se_yX7_reserve : Cond.selects yX7_reserve.cls yX7_reserve yX7_reserve ∈ gw := gw_t 338 (by decide +kernel) rfl
theorem se_yX7_object : Cond.selects yX7_object.cls yX7_object yX7_object ∈ gw := gw_t 342 (by decide +kernel) rfl
theorem se_yX3_isHeldBy : Cond.selects yX3_isHeldBy.cls yX3_isHeldBy yX3_isHeldBy ∈ gw := gw_t 347 (by decide +kernel) rfl
theorem se_yX3_stands : Cond.selects yX3_stands.cls yX3_stands yX3_stands ∈ gw := gw_t 351 (by decide +kernel) rfl
theorem se_yX3_isAnsweredBy : Cond.selects yX3_isAnsweredBy.cls yX3_isAnsweredBy yX3_isAnsweredBy ∈ gw := gw_t 355 (by decide +kernel) rfl
theorem se_yX3_answer : Cond.selects yX3_answer.cls yX3_answer yX3_answer ∈ gw := gw_t 359 (by decide +kernel) rfl
theorem se_yX7_withdraw : Cond.selects yX7_withdraw.cls yX7_withdraw yX7_withdraw ∈ gw := gw_t 363 (by decide +kernel) rfl
theorem se_yX3_isWithdrawable : Cond.selects yX3_isWithdrawable.cls yX3_isWithdrawable yX3_isWithdrawable ∈ gw := gw_t 367 (by decide +kernel) rfl
theorem se_yX3_end : Cond.selects yX3_end.cls yX3_end yX3_end ∈ gw := gw_t 372 (by decide +kernel) rfl
theorem se_yX7_change : Cond.selects yX7_change.cls yX7_change yX7_change ∈ gw := gw_t 376 (by decide +kernel) rfl
theorem se_yX7_consent : Cond.selects yX7_consent.cls yX7_consent yX7_consent ∈ gw := gw_t 380 (by decide +kernel) rfl
theorem se_yX7_follow : Cond.selects yX7_follow.cls yX7_follow yX7_follow ∈ gw := gw_t 384 (by decide +kernel) rfl
theorem se_yX7_note : Cond.selects yX7_note.cls yX7_note yX7_note ∈ gw := gw_t 388 (by decide +kernel) rfl
theorem se_yX7_undo : Cond.selects yX7_undo.cls yX7_undo yX7_undo ∈ gw := gw_t 392 (by decide +kernel) rfl
theorem se_yX3_release : Cond.selects yX3_release.cls yX3_release yX3_release ∈ gw := gw_t 396 (by decide +kernel) rfl
theorem se_yX4_dropLatest : Cond.selects yX4_dropLatest.cls yX4_dropLatest yX4_dropLatest ∈ gw := gw_t 400 (by decide +kernel) rfl
theorem se_yX7_between : Cond.selects yX7_between.cls yX7_between yX7_between ∈ gw := gw_t 404 (by decide +kernel) rfl
theorem se_yX2_settle : Cond.selects yX2_settle.cls yX2_settle yX2_settle ∈ gw := gw_t 415 (by decide +kernel) rfl
theorem se_yX5_fill : Cond.selects yX5_fill.cls yX5_fill yX5_fill ∈ gw := gw_t 423 (by decide +kernel) rfl
theorem se_yX5_at : Cond.selects yX5_at.cls yX5_at yX5_at ∈ gw := gw_t 434 (by decide +kernel) rfl
theorem se_yX6_fill : Cond.selects yX6_fill.cls yX6_fill yX6_fill ∈ gw := gw_t 438 (by decide +kernel) rfl
theorem se_yX6_hasPaper : Cond.selects yX6_hasPaper.cls yX6_hasPaper yX6_hasPaper ∈ gw := gw_t 454 (by decide +kernel) rfl
theorem se_yX6_hasReserve : Cond.selects yX6_hasReserve.cls yX6_hasReserve yX6_hasReserve ∈ gw := gw_t 462 (by decide +kernel) rfl
theorem se_yX6_leastAnswer : Cond.selects yX6_leastAnswer.cls yX6_leastAnswer yX6_leastAnswer ∈ gw := gw_t 471 (by decide +kernel) rfl
theorem se_yX0_wordsOf : Cond.selects yX0_wordsOf.cls yX0_wordsOf yX0_wordsOf ∈ gw := gw_t 483 (by decide +kernel) rfl
theorem se_yX7_words : Cond.selects yX7_words.cls yX7_words yX7_words ∈ gw := gw_t 487 (by decide +kernel) rfl
theorem se_yX7_why : Cond.selects yX7_why.cls yX7_why yX7_why ∈ gw := gw_t 491 (by decide +kernel) rfl
theorem se_yX2_reason : Cond.selects yX2_reason.cls yX2_reason yX2_reason ∈ gw := gw_t 495 (by decide +kernel) rfl
theorem se_yX7_first : Cond.selects yX7_first.cls yX7_first yX7_first ∈ gw := gw_t 515 (by decide +kernel) rfl
theorem se_yX4_latestEffect : Cond.selects yX4_latestEffect.cls yX4_latestEffect yX4_latestEffect ∈ gw := gw_t 519 (by decide +kernel) rfl
theorem se_yX7_member : Cond.selects yX7_member.cls yX7_member yX7_member ∈ gw := gw_t 523 (by decide +kernel) rfl
theorem se_yX7_members : Cond.selects yX7_members.cls yX7_members yX7_members ∈ gw := gw_t 532 (by decide +kernel) rfl
theorem se_yX7_since : Cond.selects yX7_since.cls yX7_since yX7_since ∈ gw := gw_t 536 (by decide +kernel) rfl
theorem se_yX7_has : Cond.selects yX7_has.cls yX7_has yX7_has ∈ gw := gw_t 540 (by decide +kernel) rfl
theorem se_yX4_nthOfMember : Cond.selects yX4_nthOfMember.cls yX4_nthOfMember yX4_nthOfMember ∈ gw := gw_t 544 (by decide +kernel) rfl
theorem se_yX7_paper : Cond.selects yX7_paper.cls yX7_paper yX7_paper ∈ gw := gw_t 550 (by decide +kernel) rfl
theorem se_yX3_detail : Cond.selects yX3_detail.cls yX3_detail yX3_detail ∈ gw := gw_t 554 (by decide +kernel) rfl
theorem se_yX7_noted : Cond.selects yX7_noted.cls yX7_noted yX7_noted ∈ gw := gw_t 559 (by decide +kernel) rfl
theorem se_yX7_annex : Cond.selects yX7_annex.cls yX7_annex yX7_annex ∈ gw := gw_t 563 (by decide +kernel) rfl
theorem se_yX0_addAnnex : Cond.selects yX0_addAnnex.cls yX0_addAnnex yX0_addAnnex ∈ gw := gw_t 583 (by decide +kernel) rfl
theorem se_yX7_tear : Cond.selects yX7_tear.cls yX7_tear yX7_tear ∈ gw := gw_t 587 (by decide +kernel) rfl
theorem se_yX0_annexAt : Cond.selects yX0_annexAt.cls yX0_annexAt yX0_annexAt ∈ gw := gw_t 595 (by decide +kernel) rfl
theorem se_yX7_write : Cond.selects yX7_write.cls yX7_write yX7_write ∈ gw := gw_t 599 (by decide +kernel) rfl
theorem se_yX1_put : Cond.selects yX1_put.cls yX1_put yX1_put ∈ gw := gw_t 603 (by decide +kernel) rfl
theorem se_yX7_read : Cond.selects yX7_read.cls yX7_read yX7_read ∈ gw := gw_t 611 (by decide +kernel) rfl
theorem se_yX1_get : Cond.selects yX1_get.cls yX1_get yX1_get ∈ gw := gw_t 615 (by decide +kernel) rfl
theorem se_yX7_size : Cond.selects yX7_size.cls yX7_size yX7_size ∈ gw := gw_t 619 (by decide +kernel) rfl
theorem se_yX7_copy : Cond.selects yX7_copy.cls yX7_copy yX7_copy ∈ gw := gw_t 623 (by decide +kernel) rfl
theorem se_yX1_hasRange : Cond.selects yX1_hasRange.cls yX1_hasRange yX1_hasRange ∈ gw := gw_t 627 (by decide +kernel) rfl
theorem se_yX7_count : Cond.selects yX7_count.cls yX7_count yX7_count ∈ gw := gw_t 634 (by decide +kernel) rfl
theorem se_yX0_detail : Cond.selects yX0_detail.cls yX0_detail yX0_detail ∈ gw := gw_t 638 (by decide +kernel) rfl
theorem se_yX8_party : Cond.selects yX8_party.cls yX8_party yX8_party ∈ gw := gw_t 733 (by decide +kernel) rfl
theorem se_yX8_agreement : Cond.selects yX8_agreement.cls yX8_agreement yX8_agreement ∈ gw := gw_t 737 (by decide +kernel) rfl
theorem se_yX8_article : Cond.selects yX8_article.cls yX8_article yX8_article ∈ gw := gw_t 741 (by decide +kernel) rfl
theorem se_yX8_clock : Cond.selects yX8_clock.cls yX8_clock yX8_clock ∈ gw := gw_t 754 (by decide +kernel) rfl
theorem se_yX8_sign : Cond.selects yX8_sign.cls yX8_sign yX8_sign ∈ gw := gw_t 759 (by decide +kernel) rfl
theorem se_yX8_ratify : Cond.selects yX8_ratify.cls yX8_ratify yX8_ratify ∈ gw := gw_t 779 (by decide +kernel) rfl
theorem se_yX8_join : Cond.selects yX8_join.cls yX8_join yX8_join ∈ gw := gw_t 791 (by decide +kernel) rfl
theorem se_yX8_reserve : Cond.selects yX8_reserve.cls yX8_reserve yX8_reserve ∈ gw := gw_t 795 (by decide +kernel) rfl
theorem se_yX8_object : Cond.selects yX8_object.cls yX8_object yX8_object ∈ gw := gw_t 799 (by decide +kernel) rfl
theorem se_yX8_withdraw : Cond.selects yX8_withdraw.cls yX8_withdraw yX8_withdraw ∈ gw := gw_t 823 (by decide +kernel) rfl
theorem se_yX8_change : Cond.selects yX8_change.cls yX8_change yX8_change ∈ gw := gw_t 827 (by decide +kernel) rfl
theorem se_yX8_consent : Cond.selects yX8_consent.cls yX8_consent yX8_consent ∈ gw := gw_t 831 (by decide +kernel) rfl
theorem se_yX8_follow : Cond.selects yX8_follow.cls yX8_follow yX8_follow ∈ gw := gw_t 835 (by decide +kernel) rfl
theorem se_yX8_note : Cond.selects yX8_note.cls yX8_note yX8_note ∈ gw := gw_t 839 (by decide +kernel) rfl
theorem se_yX8_undo : Cond.selects yX8_undo.cls yX8_undo yX8_undo ∈ gw := gw_t 843 (by decide +kernel) rfl
theorem se_yX8_between : Cond.selects yX8_between.cls yX8_between yX8_between ∈ gw := gw_t 847 (by decide +kernel) rfl
theorem se_yX8_words : Cond.selects yX8_words.cls yX8_words yX8_words ∈ gw := gw_t 897 (by decide +kernel) rfl
theorem se_yX8_why : Cond.selects yX8_why.cls yX8_why yX8_why ∈ gw := gw_t 901 (by decide +kernel) rfl
theorem se_yX8_first : Cond.selects yX8_first.cls yX8_first yX8_first ∈ gw := gw_t 905 (by decide +kernel) rfl
theorem se_yX8_member : Cond.selects yX8_member.cls yX8_member yX8_member ∈ gw := gw_t 913 (by decide +kernel) rfl
theorem se_yX8_members : Cond.selects yX8_members.cls yX8_members yX8_members ∈ gw := gw_t 917 (by decide +kernel) rfl
theorem se_yX8_since : Cond.selects yX8_since.cls yX8_since yX8_since ∈ gw := gw_t 921 (by decide +kernel) rfl
theorem se_yX8_has : Cond.selects yX8_has.cls yX8_has yX8_has ∈ gw := gw_t 925 (by decide +kernel) rfl
theorem se_yX8_paper : Cond.selects yX8_paper.cls yX8_paper yX8_paper ∈ gw := gw_t 929 (by decide +kernel) rfl
theorem se_yX8_noted : Cond.selects yX8_noted.cls yX8_noted yX8_noted ∈ gw := gw_t 933 (by decide +kernel) rfl
theorem se_yX8_annex : Cond.selects yX8_annex.cls yX8_annex yX8_annex ∈ gw := gw_t 937 (by decide +kernel) rfl
theorem se_yX8_tear : Cond.selects yX8_tear.cls yX8_tear yX8_tear ∈ gw := gw_t 941 (by decide +kernel) rfl
theorem se_yX8_write : Cond.selects yX8_write.cls yX8_write yX8_write ∈ gw := gw_t 949 (by decide +kernel) rfl
theorem se_yX8_read : Cond.selects yX8_read.cls yX8_read yX8_read ∈ gw := gw_t 957 (by decide +kernel) rfl
theorem se_yX8_size : Cond.selects yX8_size.cls yX8_size yX8_size ∈ gw := gw_t 961 (by decide +kernel) rfl
theorem se_yX8_copy : Cond.selects yX8_copy.cls yX8_copy yX8_copy ∈ gw := gw_t 965 (by decide +kernel) rfl
theorem se_yX8_count : Cond.selects yX8_count.cls yX8_count yX8_count ∈ gw := gw_t 969 (by decide +kernel) rfl
theorem se_yX7_agreementAt : Cond.selects yX7_agreementAt.cls yX7_agreementAt yX7_agreementAt ∈ gw := gw_p 0 (q := (yX7_agreementAt, 7)) (by decide +kernel) rfl
theorem se_yX7_isParty : Cond.selects yX7_isParty.cls yX7_isParty yX7_isParty ∈ gw := gw_p 1 (q := (yX7_isParty, 7)) (by decide +kernel) rfl
theorem se_yX7_settle : Cond.selects yX7_settle.cls yX7_settle yX7_settle ∈ gw := gw_p 2 (q := (yX7_settle, 7)) (by decide +kernel) rfl
theorem se_yX2_forget : Cond.selects yX2_forget.cls yX2_forget yX2_forget ∈ gw := gw_p 3 (q := (yX2_forget, 12)) (by decide +kernel) rfl
theorem se_yX5_enter : Cond.selects yX5_enter.cls yX5_enter yX5_enter ∈ gw := gw_p 4 (q := (yX5_enter, 2)) (by decide +kernel) rfl
theorem se_yX2_findStrongObjection : Cond.selects yX2_findStrongObjection.cls yX2_findStrongObjection yX2_findStrongObjection ∈ gw := gw_p 5 (q := (yX2_findStrongObjection, 12)) (by decide +kernel) rfl
theorem se_yX2_dividesThem : Cond.selects yX2_dividesThem.cls yX2_dividesThem yX2_dividesThem ∈ gw := gw_p 6 (q := (yX2_dividesThem, 12)) (by decide +kernel) rfl
theorem se_yX2_findReserve : Cond.selects yX2_findReserve.cls yX2_findReserve yX2_findReserve ∈ gw := gw_p 7 (q := (yX2_findReserve, 12)) (by decide +kernel) rfl
theorem se_yX2_settleReserve : Cond.selects yX2_settleReserve.cls yX2_settleReserve yX2_settleReserve ∈ gw := gw_p 8 (q := (yX2_settleReserve, 12)) (by decide +kernel) rfl
theorem se_yX2_findChange : Cond.selects yX2_findChange.cls yX2_findChange yX2_findChange ∈ gw := gw_p 9 (q := (yX2_findChange, 12)) (by decide +kernel) rfl
theorem se_yX2_takeChange : Cond.selects yX2_takeChange.cls yX2_takeChange yX2_takeChange ∈ gw := gw_p 10 (q := (yX2_takeChange, 12)) (by decide +kernel) rfl
theorem se_yX2_cite : Cond.selects yX2_cite.cls yX2_cite yX2_cite ∈ gw := gw_p 11 (q := (yX2_cite, 12)) (by decide +kernel) rfl
theorem se_yX2_citeNeeded : Cond.selects yX2_citeNeeded.cls yX2_citeNeeded yX2_citeNeeded ∈ gw := gw_p 12 (q := (yX2_citeNeeded, 12)) (by decide +kernel) rfl
theorem se_yX2_citeSources : Cond.selects yX2_citeSources.cls yX2_citeSources yX2_citeSources ∈ gw := gw_p 13 (q := (yX2_citeSources, 12)) (by decide +kernel) rfl
theorem se_yX2_nthCited : Cond.selects yX2_nthCited.cls yX2_nthCited yX2_nthCited ∈ gw := gw_p 14 (q := (yX2_nthCited, 12)) (by decide +kernel) rfl
theorem se_yX7_annexAt : Cond.selects yX7_annexAt.cls yX7_annexAt yX7_annexAt ∈ gw := gw_p 15 (q := (yX7_annexAt, 7)) (by decide +kernel) rfl
theorem se_yX1_cut : Cond.selects yX1_cut.cls yX1_cut yX1_cut ∈ gw := gw_p 16 (q := (yX1_cut, 2)) (by decide +kernel) rfl
theorem se_yX8_isArticle : Cond.selects yX8_isArticle.cls yX8_isArticle yX8_isArticle ∈ gw := gw_p 17 (q := (yX8_isArticle, 28)) (by decide +kernel) rfl
theorem se_yX8_isAgreement : Cond.selects yX8_isAgreement.cls yX8_isAgreement yX8_isAgreement ∈ gw := gw_p 18 (q := (yX8_isAgreement, 28)) (by decide +kernel) rfl
theorem se_yX8_isParty : Cond.selects yX8_isParty.cls yX8_isParty yX8_isParty ∈ gw := gw_p 19 (q := (yX8_isParty, 28)) (by decide +kernel) rfl
theorem se_yX8_isFull : Cond.selects yX8_isFull.cls yX8_isFull yX8_isFull ∈ gw := gw_p 20 (q := (yX8_isFull, 28)) (by decide +kernel) rfl
theorem se_yX8_hasSign : Cond.selects yX8_hasSign.cls yX8_hasSign yX8_hasSign ∈ gw := gw_p 21 (q := (yX8_hasSign, 28)) (by decide +kernel) rfl
theorem se_yX8_lodge : Cond.selects yX8_lodge.cls yX8_lodge yX8_lodge ∈ gw := gw_p 22 (q := (yX8_lodge, 28)) (by decide +kernel) rfl
theorem se_yX8_belongs : Cond.selects yX8_belongs.cls yX8_belongs yX8_belongs ∈ gw := gw_p 23 (q := (yX8_belongs, 28)) (by decide +kernel) rfl
theorem se_yX8_isMembership : Cond.selects yX8_isMembership.cls yX8_isMembership yX8_isMembership ∈ gw := gw_p 24 (q := (yX8_isMembership, 28)) (by decide +kernel) rfl
theorem se_yX8_isPaper : Cond.selects yX8_isPaper.cls yX8_isPaper yX8_isPaper ∈ gw := gw_p 25 (q := (yX8_isPaper, 28)) (by decide +kernel) rfl
theorem se_yX8_isHeld : Cond.selects yX8_isHeld.cls yX8_isHeld yX8_isHeld ∈ gw := gw_p 26 (q := (yX8_isHeld, 28)) (by decide +kernel) rfl
theorem se_yX8_stands : Cond.selects yX8_stands.cls yX8_stands yX8_stands ∈ gw := gw_p 27 (q := (yX8_stands, 28)) (by decide +kernel) rfl
theorem se_yX8_isSaid : Cond.selects yX8_isSaid.cls yX8_isSaid yX8_isSaid ∈ gw := gw_p 28 (q := (yX8_isSaid, 28)) (by decide +kernel) rfl
theorem se_yX8_isWithdrawn : Cond.selects yX8_isWithdrawn.cls yX8_isWithdrawn yX8_isWithdrawn ∈ gw := gw_p 29 (q := (yX8_isWithdrawn, 28)) (by decide +kernel) rfl
theorem se_yX8_isAsked : Cond.selects yX8_isAsked.cls yX8_isAsked yX8_isAsked ∈ gw := gw_p 30 (q := (yX8_isAsked, 28)) (by decide +kernel) rfl
theorem se_yX8_finds : Cond.selects yX8_finds.cls yX8_finds yX8_finds ∈ gw := gw_p 31 (q := (yX8_finds, 28)) (by decide +kernel) rfl
theorem se_yX8_memberOf : Cond.selects yX8_memberOf.cls yX8_memberOf yX8_memberOf ∈ gw := gw_p 32 (q := (yX8_memberOf, 28)) (by decide +kernel) rfl
theorem se_yX8_manyMembers : Cond.selects yX8_manyMembers.cls yX8_manyMembers yX8_manyMembers ∈ gw := gw_p 33 (q := (yX8_manyMembers, 28)) (by decide +kernel) rfl
theorem se_yX8_because : Cond.selects yX8_because.cls yX8_because yX8_because ∈ gw := gw_p 34 (q := (yX8_because, 28)) (by decide +kernel) rfl
theorem se_yX8_strong : Cond.selects yX8_strong.cls yX8_strong yX8_strong ∈ gw := gw_p 35 (q := (yX8_strong, 28)) (by decide +kernel) rfl
theorem se_yX8_hasPaper : Cond.selects yX8_hasPaper.cls yX8_hasPaper yX8_hasPaper ∈ gw := gw_p 36 (q := (yX8_hasPaper, 28)) (by decide +kernel) rfl
theorem se_yX8_leans : Cond.selects yX8_leans.cls yX8_leans yX8_leans ∈ gw := gw_p 37 (q := (yX8_leans, 28)) (by decide +kernel) rfl
theorem se_yX8_leastTo : Cond.selects yX8_leastTo.cls yX8_leastTo yX8_leastTo ∈ gw := gw_p 38 (q := (yX8_leastTo, 28)) (by decide +kernel) rfl
theorem se_yX8_changes : Cond.selects yX8_changes.cls yX8_changes yX8_changes ∈ gw := gw_p 39 (q := (yX8_changes, 28)) (by decide +kernel) rfl
theorem se_yX8_effectBelow : Cond.selects yX8_effectBelow.cls yX8_effectBelow yX8_effectBelow ∈ gw := gw_p 40 (q := (yX8_effectBelow, 28)) (by decide +kernel) rfl
theorem se_yX8_isAnnex : Cond.selects yX8_isAnnex.cls yX8_isAnnex yX8_isAnnex ∈ gw := gw_p 41 (q := (yX8_isAnnex, 28)) (by decide +kernel) rfl
theorem se_yX8_wrong : Cond.selects yX8_wrong.cls yX8_wrong yX8_wrong ∈ gw := gw_p 42 (q := (yX8_wrong, 28)) (by decide +kernel) rfl
theorem cd_yX7_init : Cond.code yX7_init cX7_init 1 none ∈ gw := gw_t 16 (by decide +kernel) rfl
theorem cd_objectInit : Cond.code objectInit ⟨#[0xb1]⟩ 1 none ∈ gw := gw_t 19 (by decide +kernel) rfl
theorem cd_yX4_init : Cond.code yX4_init cX4_init 1 none ∈ gw := gw_t 26 (by decide +kernel) rfl
theorem cd_yX5_init : Cond.code yX5_init cX5_init 1 none ∈ gw := gw_t 45 (by decide +kernel) rfl
theorem cd_yX2_init : Cond.code yX2_init cX2_init 1 none ∈ gw := gw_t 61 (by decide +kernel) rfl
theorem cd_yX6_init : Cond.code yX6_init cX6_init 1 none ∈ gw := gw_t 69 (by decide +kernel) rfl
theorem cd_yX7_party : Cond.code yX7_party cX7_party 1 (some .int) ∈ gw := gw_t 144 (by decide +kernel) rfl
theorem cd_yX7_agreement : Cond.code yX7_agreement cX7_agreement 5 (some .int) ∈ gw := gw_t 148 (by decide +kernel) rfl
theorem cd_yX7_isFrom : Cond.code yX7_isFrom cX7_isFrom 3 (some .boolean) ∈ gw := gw_t 151 (by decide +kernel) rfl
theorem cd_yX0_init : Cond.code yX0_init cX0_init 7 none ∈ gw := gw_t 155 (by decide +kernel) rfl
theorem cd_yX7_article : Cond.code yX7_article cX7_article 5 (some .int) ∈ gw := gw_t 191 (by decide +kernel) rfl
theorem cd_yX7_agreementAt : Cond.code yX7_agreementAt cX7_agreementAt 2 (some (.object RX0)) ∈ gw := gw_t 195 (by decide +kernel) rfl
theorem cd_yX0_hasArticle : Cond.code yX0_hasArticle cX0_hasArticle 2 (some .boolean) ∈ gw := gw_t 199 (by decide +kernel) rfl
theorem cd_yX4_hasAny : Cond.code yX4_hasAny cX4_hasAny 4 (some .boolean) ∈ gw := gw_t 204 (by decide +kernel) rfl
theorem cd_yX4_at : Cond.code yX4_at cX4_at 2 (some (.object RX3)) ∈ gw := gw_t 208 (by decide +kernel) rfl
theorem cd_yX0_reword : Cond.code yX0_reword cX0_reword 4 (some .int) ∈ gw := gw_t 212 (by decide +kernel) rfl
theorem cd_yX7_clock : Cond.code yX7_clock cX7_clock 2 (some .boolean) ∈ gw := gw_t 216 (by decide +kernel) rfl
theorem cd_yX7_sign : Cond.code yX7_sign cX7_sign 4 (some .int) ∈ gw := gw_t 221 (by decide +kernel) rfl
theorem cd_yX7_isParty : Cond.code yX7_isParty cX7_isParty 2 (some .boolean) ∈ gw := gw_t 225 (by decide +kernel) rfl
theorem cd_yX4_isFull : Cond.code yX4_isFull cX4_isFull 1 (some .boolean) ∈ gw := gw_t 229 (by decide +kernel) rfl
theorem cd_yX4_hasSign : Cond.code yX4_hasSign cX4_hasSign 5 (some .boolean) ∈ gw := gw_t 233 (by decide +kernel) rfl
theorem cd_yX4_lodge : Cond.code yX4_lodge cX4_lodge 7 (some (.object RX3)) ∈ gw := gw_t 237 (by decide +kernel) rfl
theorem cd_yX3_init : Cond.code yX3_init cX3_init 7 none ∈ gw := gw_t 241 (by decide +kernel) rfl
theorem cd_yX7_ratify : Cond.code yX7_ratify cX7_ratify 4 (some .int) ∈ gw := gw_t 323 (by decide +kernel) rfl
theorem cd_yX4_belonging : Cond.code yX4_belonging cX4_belonging 5 (some (.object RX3)) ∈ gw := gw_t 327 (by decide +kernel) rfl
theorem cd_yX3_isMembership : Cond.code yX3_isMembership cX3_isMembership 1 (some .boolean) ∈ gw := gw_t 331 (by decide +kernel) rfl
theorem cd_yX7_join : Cond.code yX7_join cX7_join 4 (some .int) ∈ gw := gw_t 335 (by decide +kernel) rfl
theorem cd_yX7_reserve : Cond.code yX7_reserve cX7_reserve 8 (some .int) ∈ gw := gw_t 339 (by decide +kernel) rfl
theorem cd_yX7_object : Cond.code yX7_object cX7_object 7 (some .int) ∈ gw := gw_t 343 (by decide +kernel) rfl
theorem cd_yX3_isHeldBy : Cond.code yX3_isHeldBy cX3_isHeldBy 4 (some .boolean) ∈ gw := gw_t 348 (by decide +kernel) rfl
theorem cd_yX3_stands : Cond.code yX3_stands cX3_stands 3 (some .boolean) ∈ gw := gw_t 352 (by decide +kernel) rfl
theorem cd_yX3_isAnsweredBy : Cond.code yX3_isAnsweredBy cX3_isAnsweredBy 3 (some .boolean) ∈ gw := gw_t 356 (by decide +kernel) rfl
theorem cd_yX3_answer : Cond.code yX3_answer cX3_answer 2 none ∈ gw := gw_t 360 (by decide +kernel) rfl
theorem cd_yX7_withdraw : Cond.code yX7_withdraw cX7_withdraw 6 (some .int) ∈ gw := gw_t 364 (by decide +kernel) rfl
theorem cd_yX3_isWithdrawable : Cond.code yX3_isWithdrawable cX3_isWithdrawable 1 (some .boolean) ∈ gw := gw_t 368 (by decide +kernel) rfl
theorem cd_yX3_end : Cond.code yX3_end cX3_end 2 none ∈ gw := gw_t 373 (by decide +kernel) rfl
theorem cd_yX7_change : Cond.code yX7_change cX7_change 8 (some .int) ∈ gw := gw_t 377 (by decide +kernel) rfl
theorem cd_yX7_consent : Cond.code yX7_consent cX7_consent 6 (some .int) ∈ gw := gw_t 381 (by decide +kernel) rfl
theorem cd_yX7_follow : Cond.code yX7_follow cX7_follow 8 (some .int) ∈ gw := gw_t 385 (by decide +kernel) rfl
theorem cd_yX7_note : Cond.code yX7_note cX7_note 4 (some .int) ∈ gw := gw_t 389 (by decide +kernel) rfl
theorem cd_yX7_undo : Cond.code yX7_undo cX7_undo 2 (some .int) ∈ gw := gw_t 393 (by decide +kernel) rfl
theorem cd_yX3_release : Cond.code yX3_release cX3_release 1 none ∈ gw := gw_t 397 (by decide +kernel) rfl
theorem cd_yX4_dropLatest : Cond.code yX4_dropLatest cX4_dropLatest 1 none ∈ gw := gw_t 401 (by decide +kernel) rfl
theorem cd_yX7_between : Cond.code yX7_between cX7_between 7 (some .int) ∈ gw := gw_t 405 (by decide +kernel) rfl
theorem cd_yX7_settle : Cond.code yX7_settle cX7_settle 8 (some .boolean) ∈ gw := gw_t 409 (by decide +kernel) rfl
theorem cd_yX7_isDay : Cond.code yX7_isDay cX7_isDay 1 (some .boolean) ∈ gw := gw_t 412 (by decide +kernel) rfl
theorem cd_yX2_settle : Cond.code yX2_settle cX2_settle 8 none ∈ gw := gw_t 416 (by decide +kernel) rfl
theorem cd_yX2_forget : Cond.code yX2_forget cX2_forget 1 none ∈ gw := gw_t 420 (by decide +kernel) rfl
theorem cd_yX5_fill : Cond.code yX5_fill cX5_fill 7 none ∈ gw := gw_t 424 (by decide +kernel) rfl
theorem cd_yX5_enter : Cond.code yX5_enter cX5_enter 3 none ∈ gw := gw_t 431 (by decide +kernel) rfl
theorem cd_yX5_at : Cond.code yX5_at cX5_at 2 (some (.object RX3)) ∈ gw := gw_t 435 (by decide +kernel) rfl
theorem cd_yX6_fill : Cond.code yX6_fill cX6_fill 7 none ∈ gw := gw_t 439 (by decide +kernel) rfl
theorem cd_yX2_findStrongObjection : Cond.code yX2_findStrongObjection cX2_findStrongObjection 4 none ∈ gw := gw_t 446 (by decide +kernel) rfl
theorem cd_yX2_dividesThem : Cond.code yX2_dividesThem cX2_dividesThem 2 (some .boolean) ∈ gw := gw_t 451 (by decide +kernel) rfl
theorem cd_yX6_hasPaper : Cond.code yX6_hasPaper cX6_hasPaper 2 (some .boolean) ∈ gw := gw_t 455 (by decide +kernel) rfl
theorem cd_yX2_findReserve : Cond.code yX2_findReserve cX2_findReserve 5 none ∈ gw := gw_t 459 (by decide +kernel) rfl
theorem cd_yX6_hasReserve : Cond.code yX6_hasReserve cX6_hasReserve 3 (some .boolean) ∈ gw := gw_t 463 (by decide +kernel) rfl
theorem cd_yX2_settleReserve : Cond.code yX2_settleReserve cX2_settleReserve 2 none ∈ gw := gw_t 468 (by decide +kernel) rfl
theorem cd_yX6_leastAnswer : Cond.code yX6_leastAnswer cX6_leastAnswer 5 (some (.object RX3)) ∈ gw := gw_t 472 (by decide +kernel) rfl
theorem cd_yX2_findChange : Cond.code yX2_findChange cX2_findChange 7 none ∈ gw := gw_t 476 (by decide +kernel) rfl
theorem cd_yX2_takeChange : Cond.code yX2_takeChange cX2_takeChange 4 none ∈ gw := gw_t 480 (by decide +kernel) rfl
theorem cd_yX0_wordsOf : Cond.code yX0_wordsOf cX0_wordsOf 2 (some .int) ∈ gw := gw_t 484 (by decide +kernel) rfl
theorem cd_yX7_words : Cond.code yX7_words cX7_words 7 (some .int) ∈ gw := gw_t 488 (by decide +kernel) rfl
theorem cd_yX7_why : Cond.code yX7_why cX7_why 8 (some .int) ∈ gw := gw_t 492 (by decide +kernel) rfl
theorem cd_yX2_reason : Cond.code yX2_reason cX2_reason 4 (some .int) ∈ gw := gw_t 496 (by decide +kernel) rfl
theorem cd_yX2_cite : Cond.code yX2_cite cX2_cite 2 none ∈ gw := gw_t 500 (by decide +kernel) rfl
theorem cd_yX2_citeNeeded : Cond.code yX2_citeNeeded cX2_citeNeeded 4 none ∈ gw := gw_t 504 (by decide +kernel) rfl
theorem cd_yX2_citeSources : Cond.code yX2_citeSources cX2_citeSources 4 none ∈ gw := gw_t 508 (by decide +kernel) rfl
theorem cd_yX2_nthCited : Cond.code yX2_nthCited cX2_nthCited 4 (some .int) ∈ gw := gw_t 512 (by decide +kernel) rfl
theorem cd_yX7_first : Cond.code yX7_first cX7_first 10 (some .int) ∈ gw := gw_t 516 (by decide +kernel) rfl
theorem cd_yX4_latestEffect : Cond.code yX4_latestEffect cX4_latestEffect 6 (some .int) ∈ gw := gw_t 520 (by decide +kernel) rfl
theorem cd_yX7_member : Cond.code yX7_member cX7_member 6 (some .int) ∈ gw := gw_t 524 (by decide +kernel) rfl
theorem cd_yX7_numberOf : Cond.code yX7_numberOf cX7_numberOf 1 (some .int) ∈ gw := gw_t 529 (by decide +kernel) rfl
theorem cd_yX7_members : Cond.code yX7_members cX7_members 5 (some .int) ∈ gw := gw_t 533 (by decide +kernel) rfl
theorem cd_yX7_since : Cond.code yX7_since cX7_since 5 (some .int) ∈ gw := gw_t 537 (by decide +kernel) rfl
theorem cd_yX7_has : Cond.code yX7_has cX7_has 7 (some .int) ∈ gw := gw_t 541 (by decide +kernel) rfl
theorem cd_yX4_nthOfMember : Cond.code yX4_nthOfMember cX4_nthOfMember 8 (some (.object RX3)) ∈ gw := gw_t 545 (by decide +kernel) rfl
theorem cd_yX7_paper : Cond.code yX7_paper cX7_paper 4 (some .int) ∈ gw := gw_t 551 (by decide +kernel) rfl
theorem cd_yX3_detail : Cond.code yX3_detail cX3_detail 2 (some .int) ∈ gw := gw_t 555 (by decide +kernel) rfl
theorem cd_yX7_noted : Cond.code yX7_noted cX7_noted 3 (some .long) ∈ gw := gw_t 560 (by decide +kernel) rfl
theorem cd_yX7_annex : Cond.code yX7_annex cX7_annex 5 (some .int) ∈ gw := gw_t 564 (by decide +kernel) rfl
theorem cd_yX1_init : Cond.code yX1_init cX1_init 3 none ∈ gw := gw_t 569 (by decide +kernel) rfl
theorem cd_yX0_addAnnex : Cond.code yX0_addAnnex cX0_addAnnex 2 (some .int) ∈ gw := gw_t 584 (by decide +kernel) rfl
theorem cd_yX7_tear : Cond.code yX7_tear cX7_tear 4 (some .boolean) ∈ gw := gw_t 588 (by decide +kernel) rfl
theorem cd_yX7_annexAt : Cond.code yX7_annexAt cX7_annexAt 4 (some (.object RX1)) ∈ gw := gw_t 592 (by decide +kernel) rfl
theorem cd_yX0_annexAt : Cond.code yX0_annexAt cX0_annexAt 2 (some (.object RX1)) ∈ gw := gw_t 596 (by decide +kernel) rfl
theorem cd_yX7_write : Cond.code yX7_write cX7_write 7 (some .int) ∈ gw := gw_t 600 (by decide +kernel) rfl
theorem cd_yX1_put : Cond.code yX1_put cX1_put 4 (some .int) ∈ gw := gw_t 604 (by decide +kernel) rfl
theorem cd_yX1_cut : Cond.code yX1_cut cX1_cut 3 (some .long) ∈ gw := gw_t 608 (by decide +kernel) rfl
theorem cd_yX7_read : Cond.code yX7_read cX7_read 5 (some .long) ∈ gw := gw_t 612 (by decide +kernel) rfl
theorem cd_yX1_get : Cond.code yX1_get cX1_get 2 (some .long) ∈ gw := gw_t 616 (by decide +kernel) rfl
theorem cd_yX7_size : Cond.code yX7_size cX7_size 4 (some .int) ∈ gw := gw_t 620 (by decide +kernel) rfl
theorem cd_yX7_copy : Cond.code yX7_copy cX7_copy 10 (some .int) ∈ gw := gw_t 624 (by decide +kernel) rfl
theorem cd_yX1_hasRange : Cond.code yX1_hasRange cX1_hasRange 3 (some .boolean) ∈ gw := gw_t 628 (by decide +kernel) rfl
theorem cd_yX7_count : Cond.code yX7_count cX7_count 3 (some .int) ∈ gw := gw_t 635 (by decide +kernel) rfl
theorem cd_yX0_detail : Cond.code yX0_detail cX0_detail 2 (some .int) ∈ gw := gw_t 639 (by decide +kernel) rfl
theorem cd_yX8_init : Cond.code yX8_init cX8_init 1 none ∈ gw := gw_t 644 (by decide +kernel) rfl
theorem cd_yX8_party : Cond.code yX8_party cX8_party 1 (some .int) ∈ gw := gw_t 734 (by decide +kernel) rfl
theorem cd_yX8_agreement : Cond.code yX8_agreement cX8_agreement 8 (some .int) ∈ gw := gw_t 738 (by decide +kernel) rfl
theorem cd_yX8_article : Cond.code yX8_article cX8_article 5 (some .int) ∈ gw := gw_t 742 (by decide +kernel) rfl
theorem cd_yX8_isArticle : Cond.code yX8_isArticle cX8_isArticle 3 (some .boolean) ∈ gw := gw_t 746 (by decide +kernel) rfl
theorem cd_yX8_isAgreement : Cond.code yX8_isAgreement cX8_isAgreement 2 (some .boolean) ∈ gw := gw_t 750 (by decide +kernel) rfl
theorem cd_yX8_clock : Cond.code yX8_clock cX8_clock 2 (some .boolean) ∈ gw := gw_t 755 (by decide +kernel) rfl
theorem cd_yX8_sign : Cond.code yX8_sign cX8_sign 3 (some .int) ∈ gw := gw_t 760 (by decide +kernel) rfl
theorem cd_yX8_isParty : Cond.code yX8_isParty cX8_isParty 2 (some .boolean) ∈ gw := gw_t 764 (by decide +kernel) rfl
theorem cd_yX8_isFull : Cond.code yX8_isFull cX8_isFull 1 (some .boolean) ∈ gw := gw_t 768 (by decide +kernel) rfl
theorem cd_yX8_hasSign : Cond.code yX8_hasSign cX8_hasSign 4 (some .boolean) ∈ gw := gw_t 772 (by decide +kernel) rfl
theorem cd_yX8_lodge : Cond.code yX8_lodge cX8_lodge 8 (some .int) ∈ gw := gw_t 776 (by decide +kernel) rfl
theorem cd_yX8_ratify : Cond.code yX8_ratify cX8_ratify 3 (some .int) ∈ gw := gw_t 780 (by decide +kernel) rfl
theorem cd_yX8_belongs : Cond.code yX8_belongs cX8_belongs 6 (some .int) ∈ gw := gw_t 784 (by decide +kernel) rfl
theorem cd_yX8_isMembership : Cond.code yX8_isMembership cX8_isMembership 2 (some .boolean) ∈ gw := gw_t 788 (by decide +kernel) rfl
theorem cd_yX8_join : Cond.code yX8_join cX8_join 3 (some .int) ∈ gw := gw_t 792 (by decide +kernel) rfl
theorem cd_yX8_reserve : Cond.code yX8_reserve cX8_reserve 7 (some .int) ∈ gw := gw_t 796 (by decide +kernel) rfl
theorem cd_yX8_object : Cond.code yX8_object cX8_object 7 (some .int) ∈ gw := gw_t 800 (by decide +kernel) rfl
theorem cd_yX8_isPaper : Cond.code yX8_isPaper cX8_isPaper 2 (some .boolean) ∈ gw := gw_t 804 (by decide +kernel) rfl
theorem cd_yX8_isHeld : Cond.code yX8_isHeld cX8_isHeld 5 (some .boolean) ∈ gw := gw_t 808 (by decide +kernel) rfl
theorem cd_yX8_stands : Cond.code yX8_stands cX8_stands 5 (some .boolean) ∈ gw := gw_t 812 (by decide +kernel) rfl
theorem cd_yX8_isSaid : Cond.code yX8_isSaid cX8_isSaid 6 (some .boolean) ∈ gw := gw_t 816 (by decide +kernel) rfl
theorem cd_yX8_isWithdrawn : Cond.code yX8_isWithdrawn cX8_isWithdrawn 3 (some .boolean) ∈ gw := gw_t 820 (by decide +kernel) rfl
theorem cd_yX8_withdraw : Cond.code yX8_withdraw cX8_withdraw 5 (some .int) ∈ gw := gw_t 824 (by decide +kernel) rfl
theorem cd_yX8_change : Cond.code yX8_change cX8_change 7 (some .int) ∈ gw := gw_t 828 (by decide +kernel) rfl
theorem cd_yX8_consent : Cond.code yX8_consent cX8_consent 4 (some .int) ∈ gw := gw_t 832 (by decide +kernel) rfl
theorem cd_yX8_follow : Cond.code yX8_follow cX8_follow 7 (some .int) ∈ gw := gw_t 836 (by decide +kernel) rfl
theorem cd_yX8_note : Cond.code yX8_note cX8_note 4 (some .int) ∈ gw := gw_t 840 (by decide +kernel) rfl
theorem cd_yX8_undo : Cond.code yX8_undo cX8_undo 1 (some .int) ∈ gw := gw_t 844 (by decide +kernel) rfl
theorem cd_yX8_between : Cond.code yX8_between cX8_between 7 (some .int) ∈ gw := gw_t 848 (by decide +kernel) rfl
theorem cd_yX8_isAsked : Cond.code yX8_isAsked cX8_isAsked 5 (some .boolean) ∈ gw := gw_t 852 (by decide +kernel) rfl
theorem cd_yX8_isDay : Cond.code yX8_isDay cX8_isDay 1 (some .boolean) ∈ gw := gw_t 855 (by decide +kernel) rfl
theorem cd_yX8_finds : Cond.code yX8_finds cX8_finds 16 none ∈ gw := gw_t 859 (by decide +kernel) rfl
theorem cd_yX8_memberOf : Cond.code yX8_memberOf cX8_memberOf 6 (some .int) ∈ gw := gw_t 863 (by decide +kernel) rfl
theorem cd_yX8_manyMembers : Cond.code yX8_manyMembers cX8_manyMembers 6 (some .int) ∈ gw := gw_t 867 (by decide +kernel) rfl
theorem cd_yX8_because : Cond.code yX8_because cX8_because 2 none ∈ gw := gw_t 871 (by decide +kernel) rfl
theorem cd_yX8_strong : Cond.code yX8_strong cX8_strong 6 (some .int) ∈ gw := gw_t 875 (by decide +kernel) rfl
theorem cd_yX8_hasPaper : Cond.code yX8_hasPaper cX8_hasPaper 5 (some .boolean) ∈ gw := gw_t 879 (by decide +kernel) rfl
theorem cd_min : Cond.code Lib.Math.min.name Lib.Math.min.code 2 (some .int) ∈ gw := gw_t 882 (by decide +kernel) rfl
theorem cd_yX8_leans : Cond.code yX8_leans cX8_leans 2 none ∈ gw := gw_t 886 (by decide +kernel) rfl
theorem cd_yX8_leastTo : Cond.code yX8_leastTo cX8_leastTo 7 (some .int) ∈ gw := gw_t 890 (by decide +kernel) rfl
theorem cd_yX8_changes : Cond.code yX8_changes cX8_changes 10 none ∈ gw := gw_t 894 (by decide +kernel) rfl
theorem cd_yX8_words : Cond.code yX8_words cX8_words 7 (some .int) ∈ gw := gw_t 898 (by decide +kernel) rfl
theorem cd_yX8_why : Cond.code yX8_why cX8_why 10 (some .int) ∈ gw := gw_t 902 (by decide +kernel) rfl
theorem cd_yX8_first : Cond.code yX8_first cX8_first 10 (some .int) ∈ gw := gw_t 906 (by decide +kernel) rfl
theorem cd_yX8_effectBelow : Cond.code yX8_effectBelow cX8_effectBelow 4 (some .int) ∈ gw := gw_t 910 (by decide +kernel) rfl
theorem cd_yX8_member : Cond.code yX8_member cX8_member 5 (some .int) ∈ gw := gw_t 914 (by decide +kernel) rfl
theorem cd_yX8_members : Cond.code yX8_members cX8_members 4 (some .int) ∈ gw := gw_t 918 (by decide +kernel) rfl
theorem cd_yX8_since : Cond.code yX8_since cX8_since 5 (some .int) ∈ gw := gw_t 922 (by decide +kernel) rfl
theorem cd_yX8_has : Cond.code yX8_has cX8_has 9 (some .int) ∈ gw := gw_t 926 (by decide +kernel) rfl
theorem cd_yX8_paper : Cond.code yX8_paper cX8_paper 3 (some .int) ∈ gw := gw_t 930 (by decide +kernel) rfl
theorem cd_yX8_noted : Cond.code yX8_noted cX8_noted 2 (some .long) ∈ gw := gw_t 934 (by decide +kernel) rfl
theorem cd_yX8_annex : Cond.code yX8_annex cX8_annex 6 (some .int) ∈ gw := gw_t 938 (by decide +kernel) rfl
theorem cd_yX8_tear : Cond.code yX8_tear cX8_tear 3 (some .boolean) ∈ gw := gw_t 942 (by decide +kernel) rfl
theorem cd_yX8_isAnnex : Cond.code yX8_isAnnex cX8_isAnnex 3 (some .boolean) ∈ gw := gw_t 946 (by decide +kernel) rfl
theorem cd_yX8_write : Cond.code yX8_write cX8_write 8 (some .int) ∈ gw := gw_t 950 (by decide +kernel) rfl
theorem cd_yX8_wrong : Cond.code yX8_wrong cX8_wrong 5 (some .int) ∈ gw := gw_t 954 (by decide +kernel) rfl
theorem cd_yX8_read : Cond.code yX8_read cX8_read 4 (some .long) ∈ gw := gw_t 958 (by decide +kernel) rfl
theorem cd_yX8_size : Cond.code yX8_size cX8_size 3 (some .int) ∈ gw := gw_t 962 (by decide +kernel) rfl
theorem cd_yX8_copy : Cond.code yX8_copy cX8_copy 11 (some .int) ∈ gw := gw_t 966 (by decide +kernel) rfl
theorem cd_yX8_count : Cond.code yX8_count cX8_count 3 (some .int) ∈ gw := gw_t 970 (by decide +kernel) rfl
end
section
/-! CORE 1: the abstract heap, what a heap holds of it -/
/-- values as a method sees them: an int, a long, a reference or null -/
abbrev LV : Type := Int32 ⊕ Int64 ⊕ Option Nat
abbrev vi (x : Int32) : LV := .inl x
abbrev vl (x : Int64) : LV := .inr (.inl x)
abbrev vr (r : Option Nat) : LV := .inr (.inr r)
def tv (v : LV) : Value := match v with
  | .inl x => .int x
  | .inr (.inl x) => .long x
  | .inr (.inr r) => va_rf r
def lcat (v : LV) : Nat := match v with
  | .inl _ => 1
  | .inr (.inl _) => 2
  | .inr (.inr _) => 1
theorem rf_cat (r : Option Nat) : (va_rf r).category = 1 := by cases r <;> rfl
theorem tv_cat (v : LV) : (tv v).category = lcat v := by
  rcases v with x | x | r
  · rfl
  · rfl
  · exact rf_cat r
def lvq (q : Nat × LV) : Nat × Value := (q.1, tv q.2)
abbrev LL : Type := List (Nat × LV)
/-- the locals behind a store at i -/
def lput (i : Nat) (v : LV) (L : LL) : LL := (i, v) :: L.filter (fun q => !(q.1 == i) && !(q.1 + 1 == i && lcat q.2 == 2))
theorem lput_map (i : Nat) (v : LV) (L : LL) : (i, tv v) :: (L.map lvq).filter (fun q => !(q.1 == i) && !(q.1 + 1 == i && q.2.category == 2)) = (lput i v L).map lvq := by
  simp only [lput, List.map_cons, lvq, List.filter_map]
  congr 2
  congr 1
  funext q
  simp [lvq, tv_cat]
def csum (st : List LV) : Nat := (st.map lcat).sum
theorem csum_map (st : List LV) : ((st.map tv).map fun v => v.category).sum = csum st := by
  unfold csum
  rw [List.map_map]
  congr 2
  funext v
  exact tv_cat v
/-- the abstract heap: how many cells; each known cell's kind (class 0..8, or 10 int[], 11 long[], 12 boolean[], 13 Paper[], 14 Agreement[], 15 Annex[]; length); its ints, longs, references -/
abbrev AH : Type := Nat × (Nat → Option (Nat × Nat)) × (Nat → Nat → Int32) × (Nat → Nat → Int64) × (Nat → Nat → Option Nat)
def hz (h : AH) : Nat := h.1
def hk (h : AH) : Nat → Option (Nat × Nat) := h.2.1
def hI (h : AH) : Nat → Nat → Int32 := h.2.2.1
def hJ (h : AH) : Nat → Nat → Int64 := h.2.2.2.1
def hR (h : AH) : Nat → Nat → Option Nat := h.2.2.2.2
def u2 {α : Type} (f : Nat → Nat → α) (a k : Nat) (v : α) : Nat → Nat → α := fun x y => if x = a ∧ y = k then v else f x y
def sI (h : AH) (a k : Nat) (v : Int32) : AH := (h.1, h.2.1, u2 h.2.2.1 a k v, h.2.2.2.1, h.2.2.2.2)
def sJ (h : AH) (a k : Nat) (v : Int64) : AH := (h.1, h.2.1, h.2.2.1, u2 h.2.2.2.1 a k v, h.2.2.2.2)
def sR (h : AH) (a k : Nat) (v : Option Nat) : AH := (h.1, h.2.1, h.2.2.1, h.2.2.2.1, u2 h.2.2.2.2 a k v)
/-- a new cell, all 0 and null -/
def nw (h : AH) (ci n : Nat) : AH := (h.1 + 1, fun x => if x = h.1 then some (ci, n) else h.2.1 x, fun x => if x = h.1 then fun _ => 0 else h.2.2.1 x, fun x => if x = h.1 then fun _ => 0 else h.2.2.2.1 x, fun x => if x = h.1 then fun _ => none else h.2.2.2.2 x)
/-- n longs of the array a from i on come to b from j on -/
def cpJ (h : AH) (a i b j n : Nat) : AH := (h.1, h.2.1, h.2.2.1, fun x => if x = b then va_cpy (h.2.2.2.1 a) (h.2.2.2.1 b) i j n else h.2.2.2.1 x, h.2.2.2.2)
def fval (t : FieldType) (h : AH) (a k : Nat) : Value := match t with
  | .long => .long (hJ h a k)
  | .object _ => va_rf (hR h a k)
  | .array _ => va_rf (hR h a k)
  | _ => .int (hI h a k)
theorem fval_congr (t : FieldType) {h h' : AH} {a k : Nat} (e1 : hI h' a k = hI h a k) (e2 : hJ h' a k = hJ h a k) (e3 : hR h' a k = hR h a k) : fval t h' a k = fval t h a k := by
  cases t <;> simp [fval, e1, e2, e3]
/-- what is fixed: the launch; the classes' numbers and slots; the arrays' classes; where the law's own cells begin, and the heap at its entry; the script -/
abbrev Gm : Type := Launch × va_G × (Nat → ClassId) × (Nat × Heap) × (Nat × Nat × (Nat → Int32))
def gl (G : Gm) : Launch := G.1
def gD (G : Gm) : va_G := G.2.1
def gA (G : Gm) : Nat → ClassId := G.2.2.1
def gb (G : Gm) : Nat := G.2.2.2.1.1
def gH (G : Gm) : Heap := G.2.2.2.1.2
def gsb (G : Gm) : Nat := G.2.2.2.2.1
def gsL (G : Gm) : Nat := G.2.2.2.2.2.1
def gsx (G : Gm) : Nat → Int32 := G.2.2.2.2.2.2
def cok (G : Gm) (h : AH) (a ci n : Nat) (H : Heap) : Prop :=
  if 9 ≤ ci then H[a]? = some (arrV (gA G ci) n (fun j => fval (fty ci j) h a j)) else t_OB a ((gD G).1 ci) (fN ci) ((gD G).2 ci) H (fun k => fval (fty ci k) h a k)
def HL (G : Gm) (h : AH) (H : Heap) : Prop := hz h = H.size ∧ (gb G ≤ H.size ∧ gsb G < gb G) ∧ (∀ q, q < gb G → H[q]? = (gH G)[q]?) ∧ ∀ a ci n, hk h a = some (ci, n) → gb G ≤ a ∧ a < hz h ∧ cok G h a ci n H
def gT (G : Gm) : List (ClassId × FieldType) := [(gA G 10, .int), (gA G 11, .long), (gA G 12, .boolean), (gA G 13, .object RX3), (gA G 14, .object RX0), (gA G 15, .object RX1)]
def nestW : Cond := .methodLinkNest RX3 68 yX7_numberOf RX7
def KK (G : Gm) (U : State) : Prop := va_K (gD G) vwCl (gT G) U ∧ va_X (gsb G) (gsL G) (gsx G) U (gH G) ∧ va_Nw nestW U ∧ va_AO RX3 U ∧ va_AO RX0 U ∧ va_AO RX1 U
theorem KK.warm {G : Gm} {s U : State} (hW : s.WarmedH U.vm) (h : KK G s) : KK G U :=
  ⟨va_K.moved hW.alike h.1, h.2.1.moved hW.alike, va_Nw.warmM hW h.2.2.1, h.2.2.2.1.moved hW.alike, h.2.2.2.2.1.moved hW.alike, h.2.2.2.2.2.moved hW.alike⟩
theorem KK.calling {G : Gm} {U : State} {g : JFrame} {mk : MethodId} {a : Array Value} (h : KK G U) : KK G (U.calling g mk a) :=
  ⟨va_K.moved (u := U) (U := U.calling g mk a) (Vm.Alike.refl U.vm) h.1, va_X.moved (u := U) (U := U.calling g mk a) (Vm.Alike.refl U.vm) h.2.1, va_Nw.same (u := U) (U := U.calling g mk a) rfl rfl h.2.2.1,
    va_AO.moved (u := U) (U := U.calling g mk a) (Vm.Alike.refl U.vm) h.2.2.2.1, va_AO.moved (u := U) (U := U.calling g mk a) (Vm.Alike.refl U.vm) h.2.2.2.2.1, va_AO.moved (u := U) (U := U.calling g mk a) (Vm.Alike.refl U.vm) h.2.2.2.2.2⟩
theorem cok.kept {G : Gm} {h h' : AH} {a ci n : Nat} {H H' : Heap} (c : cok G h a ci n H) (e : ∀ k, hI h' a k = hI h a k ∧ hJ h' a k = hJ h a k ∧ hR h' a k = hR h a k) (q : H'[a]? = H[a]?) : cok G h' a ci n H' := by
  unfold cok at *
  split
  · rename_i h9
    rw [if_pos h9] at c
    rw [q, c]
    congr 2
    funext j
    exact (fval_congr _ (e j).1 (e j).2.1 (e j).2.2).symm
  · rename_i h9
    rw [if_neg h9] at c
    exact (c.kept q).to (fun k _ => (fval_congr _ (e k).1 (e k).2.1 (e k).2.2).symm)
theorem HL.upd {G : Gm} {h h' : AH} {H H' : Heap} {a : Nat} (R : HL G h H) (e1 : hk h' = hk h) (e2 : hz h' = hz h) (ho : ∀ b, b ≠ a → ∀ k, hI h' b k = hI h b k ∧ hJ h' b k = hJ h b k ∧ hR h' b k = hR h b k)
    (z : H'.size = H.size) (o : ∀ q : Nat, q ≠ a → H'[q]? = H[q]?) (hb : gb G ≤ a) (hc : ∀ ci n, hk h a = some (ci, n) → cok G h' a ci n H') : HL G h' H' := by
  obtain ⟨r1, r2, r3, r4⟩ := R
  refine ⟨by rw [e2, z]; exact r1, by rw [z]; exact r2, fun q hq => ?_, fun b ci n hb2 => ?_⟩
  · rw [o q (by omega)]
    exact r3 q hq
  · rw [e1] at hb2
    obtain ⟨q1, q2, q3⟩ := r4 b ci n hb2
    refine ⟨q1, by rw [e2]; exact q2, ?_⟩
    by_cases hba : b = a
    · rw [hba] at hb2 ⊢
      exact hc ci n hb2
    · exact q3.kept (ho b hba) (o b hba)
theorem HL.push {G : Gm} {h : AH} {H H' : Heap} {ci n : Nat} (R : HL G h H) (z : H'.size = H.size + 1) (o : ∀ q : Nat, q < H.size → H'[q]? = H[q]?) (hc : cok G (nw h ci n) H.size ci n H') : HL G (nw h ci n) H' := by
  obtain ⟨r1, r2, r3, r4⟩ := R
  have r1' : h.1 = H.size := r1
  refine ⟨by rw [z, ← r1]; rfl, by rw [z]; omega, fun q hq => ?_, fun b ci' n' hb => ?_⟩
  · rw [o q (by omega)]
    exact r3 q hq
  · by_cases hbh : b = h.1
    · subst hbh
      have hb' : (if h.1 = h.1 then some (ci, n) else hk h h.1) = some (ci', n') := hb
      rw [if_pos rfl] at hb'
      cases hb'
      refine ⟨by rw [r1']; exact r2.1, Nat.lt_succ_self _, ?_⟩
      rw [← r1'] at hc
      exact hc
    · have hb' : (if b = h.1 then some (ci, n) else hk h b) = some (ci', n') := hb
      rw [if_neg hbh] at hb'
      obtain ⟨q1, q2, q3⟩ := r4 b ci' n' hb'
      refine ⟨q1, Nat.lt_succ_of_lt q2, q3.kept (fun k => ?_) (o b (by rw [← r1]; exact q2))⟩
      simp [hI, hJ, hR, nw, hbh]
theorem hI_sI (h : AH) (a k : Nat) (v : Int32) (b j : Nat) : hI (sI h a k v) b j = if b = a ∧ j = k then v else hI h b j := rfl
theorem hJ_sI (h : AH) (a k : Nat) (v : Int32) : hJ (sI h a k v) = hJ h := rfl
theorem hR_sI (h : AH) (a k : Nat) (v : Int32) : hR (sI h a k v) = hR h := rfl
theorem hk_sI (h : AH) (a k : Nat) (v : Int32) : hk (sI h a k v) = hk h := rfl
theorem hz_sI (h : AH) (a k : Nat) (v : Int32) : hz (sI h a k v) = hz h := rfl
theorem hJ_sJ (h : AH) (a k : Nat) (v : Int64) (b j : Nat) : hJ (sJ h a k v) b j = if b = a ∧ j = k then v else hJ h b j := rfl
theorem hI_sJ (h : AH) (a k : Nat) (v : Int64) : hI (sJ h a k v) = hI h := rfl
theorem hR_sJ (h : AH) (a k : Nat) (v : Int64) : hR (sJ h a k v) = hR h := rfl
theorem hk_sJ (h : AH) (a k : Nat) (v : Int64) : hk (sJ h a k v) = hk h := rfl
theorem hz_sJ (h : AH) (a k : Nat) (v : Int64) : hz (sJ h a k v) = hz h := rfl
theorem hR_sR (h : AH) (a k : Nat) (v : Option Nat) (b j : Nat) : hR (sR h a k v) b j = if b = a ∧ j = k then v else hR h b j := rfl
theorem hI_sR (h : AH) (a k : Nat) (v : Option Nat) : hI (sR h a k v) = hI h := rfl
theorem hJ_sR (h : AH) (a k : Nat) (v : Option Nat) : hJ (sR h a k v) = hJ h := rfl
theorem hk_sR (h : AH) (a k : Nat) (v : Option Nat) : hk (sR h a k v) = hk h := rfl
theorem hz_sR (h : AH) (a k : Nat) (v : Option Nat) : hz (sR h a k v) = hz h := rfl
theorem hk_nw (h : AH) (ci n b : Nat) : hk (nw h ci n) b = if b = hz h then some (ci, n) else hk h b := rfl
theorem hz_nw (h : AH) (ci n : Nat) : hz (nw h ci n) = hz h + 1 := rfl
theorem hI_nw (h : AH) (ci n b : Nat) : hI (nw h ci n) b = if b = hz h then (fun _ => 0) else hI h b := rfl
theorem hJ_nw (h : AH) (ci n b : Nat) : hJ (nw h ci n) b = if b = hz h then (fun _ => 0) else hJ h b := rfl
theorem hR_nw (h : AH) (ci n b : Nat) : hR (nw h ci n) b = if b = hz h then (fun _ => none) else hR h b := rfl
theorem fval_sI {t : FieldType} (ht : t = .int ∨ t = .boolean) (h : AH) (a k : Nat) (v : Int32) (j : Nat) (tt : FieldType) (htt : j = k → tt = t) : fval tt (sI h a k v) a j = if j = k then .int v else fval tt h a j := by
  by_cases hj : j = k
  · subst hj
    rw [htt rfl, if_pos rfl]
    rcases ht with rfl | rfl <;> simp [fval, hI_sI]
  · rw [if_neg hj]
    exact fval_congr _ (by simp [hI_sI, hj]) rfl rfl
theorem fval_sJ (h : AH) (a k : Nat) (v : Int64) (j : Nat) (tt : FieldType) (htt : j = k → tt = .long) : fval tt (sJ h a k v) a j = if j = k then .long v else fval tt h a j := by
  by_cases hj : j = k
  · subst hj
    rw [htt rfl, if_pos rfl]
    simp [fval, hJ_sJ]
  · rw [if_neg hj]
    exact fval_congr _ rfl (by simp [hJ_sJ, hj]) rfl
theorem fval_sR {t : FieldType} (ht : (∃ n, t = .object n) ∨ ∃ n, t = .array n) (h : AH) (a k : Nat) (v : Option Nat) (j : Nat) (tt : FieldType) (htt : j = k → tt = t) : fval tt (sR h a k v) a j = if j = k then va_rf v else fval tt h a j := by
  by_cases hj : j = k
  · subst hj
    rw [htt rfl, if_pos rfl]
    rcases ht with ⟨n, rfl⟩ | ⟨n, rfl⟩ <;> simp [fval, hR_sR]
  · rw [if_neg hj]
    exact fval_congr _ rfl rfl (by simp [hR_sR, hj])
end
section
/-! CORE 2: the judgement GO (a method of ours, from a place in its code, comes to its end with this answer and this heap), and its contract CT -/
abbrev MI : Type := String × String × ByteArray × Nat × Instr × Nat
abbrev mown (M : MI) : String := M.1
abbrev mnam (M : MI) : String := M.2.1
abbrev mcod (M : MI) : ByteArray := M.2.2.1
abbrev mloc (M : MI) : Nat := M.2.2.2.1
abbrev mri (M : MI) : Instr := M.2.2.2.2.1
abbrev mdep (M : MI) : Nat := M.2.2.2.2.2
def CX (G : Gm) (M : MI) (p : Program) (R : Room) (s : State) (m : MethodId) (args : Array Value) (meth : Method) (c : Code) (mc ms : Nat) : Prop :=
  p.tables.exec = Jvm.exec ∧ c.code = mcod M ∧ c.maxLocals = mloc M ∧ s.vm.findClass (mown M) = some m.cls ∧ (∀ w ∈ gw, w.before args s = true) ∧ KK G s ∧ meth.name = mnam M ∧ mdep M ≤ R.frames ∧ 35 * mdep M ≤ R.locals ∧ mc ≤ R.cells ∧ ms ≤ R.slots
def EN (G : Gm) (M : MI) (p : Program) (e : Env) (R : Room) (s : State) (m : MethodId) (args : Array Value) (below : List Frame) (meth : Method) (c : Code) (mc ms : Nat) (Q : State → Prop) (r : Option LV) (h' : AH) : Prop :=
  ∀ (H : Heap) (locs : List Loc) (ls : Array Slot) (pc : Nat), decode (mcod M) pc = .ok (mri M, 1) → HL G h' H → (∀ q ∈ locs, gb G ≤ q.base) → W p (gl G) e R s m args below meth c H locs mc ms Q (F0 m pc ls (r.map tv).toList)
def GO (G : Gm) (M : MI) (kc ks pc : Nat) (L : LL) (st : List LV) (h : AH) (r : Option LV) (h' : AH) : Prop :=
  ∀ (p : Program) (e : Env) (R : Room) (s : State) (m : MethodId) (args : Array Value) (below : List Frame) (meth : Method) (c : Code) (mc ms : Nat) (Q : State → Prop), CX G M p R s m args meth c mc ms → EN G M p e R s m args below meth c mc ms Q r h' →
    ∀ (H : Heap) (locs : List Loc) (cells slots : Nat) (ls : Array Slot), HL G h H → (∀ q ∈ locs, gb G ≤ q.base) → cells + kc ≤ mc → slots + ks ≤ ms → lv_has ls (mloc M) (L.map lvq) → W p (gl G) e R s m args below meth c H locs cells slots Q (F0 m pc ls (st.map tv))
def CT (G : Gm) (y : MethodName) (M : MI) (ret : Option FieldType) (mc ms : Nat) (as : List LV) (h : AH) (r : Option LV) (h' : AH) : Prop :=
  Met (gl G) y (Cond.code y (mcod M) (mloc M) ret :: gw) { frames := mdep M, cells := mc, slots := ms, locals := 35 * mdep M } (va_Pc (as.map tv) (fun U => HL G h U.heap ∧ KK G U)) (fun _ _ o t => o = .returned (r.map tv) ∧ HL G h' t.heap) mc ms (fun a => gb G ≤ a)
section G0
variable {G : Gm} {M : MI} {kc ks pc pc2 : Nat} {L L2 : LL} {st st2 : List LV} {h h2 h' : AH} {r : Option LV}
/-- a step that touches neither heap nor locals -/
theorem GO.loc (f : ∀ (p : Program) (e : Env) (R : Room) (s : State) (m : MethodId) (args : Array Value) (below : List Frame) (meth : Method) (c : Code) (H : Heap) (locs : List Loc) (cells slots mc ms : Nat) (Q : State → Prop) (ls : Array Slot), CX G M p R s m args meth c mc ms → lv_has ls (mloc M) (L.map lvq) →
    W p (gl G) e R s m args below meth c H locs cells slots Q (F0 m pc2 ls (st2.map tv)) → W p (gl G) e R s m args below meth c H locs cells slots Q (F0 m pc ls (st.map tv)))
    (k : GO G M kc ks pc2 L st2 h r h') : GO G M kc ks pc L st h r h' :=
  fun p e R s m args below meth c mc ms Q C E H locs cells slots ls a1 a2 a3 a4 a5 => f p e R s m args below meth c H locs cells slots mc ms Q ls C a5 (k p e R s m args below meth c mc ms Q C E H locs cells slots ls a1 a2 a3 a4 a5)
/-- .. that sets a local -/
theorem GO.sto (f : ∀ (p : Program) (e : Env) (R : Room) (s : State) (m : MethodId) (args : Array Value) (below : List Frame) (meth : Method) (c : Code) (H : Heap) (locs : List Loc) (cells slots mc ms : Nat) (Q : State → Prop) (ls : Array Slot), CX G M p R s m args meth c mc ms → lv_has ls (mloc M) (L.map lvq) →
    (∀ ls' : Array Slot, lv_has ls' (mloc M) (L2.map lvq) → W p (gl G) e R s m args below meth c H locs cells slots Q (F0 m pc2 ls' (st2.map tv))) → W p (gl G) e R s m args below meth c H locs cells slots Q (F0 m pc ls (st.map tv)))
    (k : GO G M kc ks pc2 L2 st2 h r h') : GO G M kc ks pc L st h r h' :=
  fun p e R s m args below meth c mc ms Q C E H locs cells slots ls a1 a2 a3 a4 a5 => f p e R s m args below meth c H locs cells slots mc ms Q ls C a5 (fun ls' a6 => k p e R s m args below meth c mc ms Q C E H locs cells slots ls' a1 a2 a3 a4 a6)
/-- .. that branches -/
theorem GO.br {c1 : Prop} {pca pcb : Nat} (f : ∀ (p : Program) (e : Env) (R : Room) (s : State) (m : MethodId) (args : Array Value) (below : List Frame) (meth : Method) (c : Code) (H : Heap) (locs : List Loc) (cells slots mc ms : Nat) (Q : State → Prop) (ls : Array Slot), CX G M p R s m args meth c mc ms →
    (c1 → W p (gl G) e R s m args below meth c H locs cells slots Q (F0 m pca ls (st2.map tv))) → (¬ c1 → W p (gl G) e R s m args below meth c H locs cells slots Q (F0 m pcb ls (st2.map tv))) → W p (gl G) e R s m args below meth c H locs cells slots Q (F0 m pc ls (st.map tv)))
    (ka : c1 → GO G M kc ks pca L st2 h r h') (kb : ¬ c1 → GO G M kc ks pcb L st2 h r h') : GO G M kc ks pc L st h r h' :=
  fun p e R s m args below meth c mc ms Q C E H locs cells slots ls a1 a2 a3 a4 a5 => f p e R s m args below meth c H locs cells slots mc ms Q ls C (fun q => ka q p e R s m args below meth c mc ms Q C E H locs cells slots ls a1 a2 a3 a4 a5) (fun q => kb q p e R s m args below meth c mc ms Q C E H locs cells slots ls a1 a2 a3 a4 a5)
theorem g_weak {kc' ks' : Nat} (h1 : kc ≤ kc') (h2 : ks ≤ ks') (k : GO G M kc ks pc L st h r h') : GO G M kc' ks' pc L st h r h' :=
  fun p e R s m args below meth c mc ms Q C E H locs cells slots ls a1 a2 a3 a4 a5 => k p e R s m args below meth c mc ms Q C E H locs cells slots ls a1 a2 (by omega) (by omega) a5
theorem g_sub (ps : List Nat) (hl : ps.filterMap (fun i => L[i]?) = L2) (k : GO G M kc ks pc L2 st h r h') : GO G M kc ks pc L st h r h' :=
  fun p e R s m args below meth c mc ms Q C E H locs cells slots ls a1 a2 a3 a4 a5 => k p e R s m args below meth c mc ms Q C E H locs cells slots ls a1 a2 a3 a4 (lv_sub a5 ps (by
    subst hl
    unfold lv_pick
    rw [List.map_filterMap]
    congr 1
    funext i
    rw [List.getElem?_map]))
theorem g_ret {pc : Nat} (hd : decode (mcod M) pc = .ok (mri M, 1)) (hs : st = r.toList) : GO G M 0 0 pc L st h r h := by
  intro p e R s m args below meth c mc ms Q C E H locs cells slots ls a1 a2 a3 a4 a5
  refine W.widen (k := mc) (n := ms) (by omega) (by omega) ?_
  have := E H locs ls pc hd a1 a2
  subst hs
  cases r <;> exact this
theorem lv_atL {ls : Array Slot} {n : Nat} (a : lv_has ls n (L.map lvq)) (j : Nat) {i : Nat} {v : LV} (hj : L[j]? = some (i, v)) : ls[i]? = some (.val (tv v)) :=
  lv_at a j (by rw [List.getElem?_map, hj]; rfl)
theorem g_iconst {n : Int} {v : Int32} (hd : decode (mcod M) pc = .ok (.iconst n, 1)) (hv : Int32.ofInt n = v) (k : GO G M kc ks (pc + 1) L (vi v :: st) h r h') : GO G M kc ks pc L (st) h r h' :=
  GO.loc (fun p e R s m args below meth c H locs cells slots mc ms Q ls C a k => lv_iconst C.1 C.2.1 hd hv k) k
theorem g_bipush {n : Int} {v : Int32} (hd : decode (mcod M) pc = .ok (.bipush n, 2)) (hv : (Int8.ofInt n).toInt32 = v) (k : GO G M kc ks (pc + 2) L (vi v :: st) h r h') : GO G M kc ks pc L (st) h r h' :=
  GO.loc (fun p e R s m args below meth c H locs cells slots mc ms Q ls C a k => lv_bipush C.1 C.2.1 hd hv k) k
theorem g_sipush {n : Int} {v : Int32} (hd : decode (mcod M) pc = .ok (.sipush n, 3)) (hv : (Int16.ofInt n).toInt32 = v) (k : GO G M kc ks (pc + 3) L (vi v :: st) h r h') : GO G M kc ks pc L (st) h r h' :=
  GO.loc (fun p e R s m args below meth c H locs cells slots mc ms Q ls C a k => lv_sipush C.1 C.2.1 hd hv k) k
theorem g_lconst {n : Fin 2} {v : Int64} (hd : decode (mcod M) pc = .ok (.lconst n, 1)) (hv : Int64.ofNat (n : Nat) = v) (k : GO G M kc ks (pc + 1) L (vl v :: st) h r h') : GO G M kc ks pc L (st) h r h' :=
  GO.loc (fun p e R s m args below meth c H locs cells slots mc ms Q ls C a k => lv_lconst C.1 C.2.1 hd hv k) k
theorem g_null (hd : decode (mcod M) pc = .ok (.aconst_null, 1)) (k : GO G M kc ks (pc + 1) L (vr none :: st) h r h') : GO G M kc ks pc L (st) h r h' :=
  GO.loc (fun p e R s m args below meth c H locs cells slots mc ms Q ls C a k => lv_null C.1 C.2.1 hd k) k
theorem g_iload_n {q : Fin 4} {i : Nat} {x : Int32} (hd : decode (mcod M) pc = .ok (.iload_n q, 1)) (hi : (q : Nat) = i) (j : Nat) (hj : L[j]? = some (i, vi x)) (k : GO G M kc ks (pc + 1) L (vi x :: st) h r h') : GO G M kc ks pc L (st) h r h' :=
  GO.loc (fun p e R s m args below meth c H locs cells slots mc ms Q ls C a k => lv_iload_n C.1 C.2.1 hd hi (lv_atL a j hj) k) k
theorem g_iload {i : Nat} {x : Int32} (hd : decode (mcod M) pc = .ok (.iload i, 2)) (j : Nat) (hj : L[j]? = some (i, vi x)) (k : GO G M kc ks (pc + 2) L (vi x :: st) h r h') : GO G M kc ks pc L (st) h r h' :=
  GO.loc (fun p e R s m args below meth c H locs cells slots mc ms Q ls C a k => lv_iload C.1 C.2.1 hd (lv_atL a j hj) k) k
theorem g_lload_n {q : Fin 4} {i : Nat} {x : Int64} (hd : decode (mcod M) pc = .ok (.lload_n q, 1)) (hi : (q : Nat) = i) (j : Nat) (hj : L[j]? = some (i, vl x)) (k : GO G M kc ks (pc + 1) L (vl x :: st) h r h') : GO G M kc ks pc L (st) h r h' :=
  GO.loc (fun p e R s m args below meth c H locs cells slots mc ms Q ls C a k => lv_lload_n C.1 C.2.1 hd hi (lv_atL a j hj) k) k
theorem g_lload {i : Nat} {x : Int64} (hd : decode (mcod M) pc = .ok (.lload i, 2)) (j : Nat) (hj : L[j]? = some (i, vl x)) (k : GO G M kc ks (pc + 2) L (vl x :: st) h r h') : GO G M kc ks pc L (st) h r h' :=
  GO.loc (fun p e R s m args below meth c H locs cells slots mc ms Q ls C a k => lv_lload C.1 C.2.1 hd (lv_atL a j hj) k) k
theorem g_aload_n {q : Fin 4} {i : Nat} {x : Option Nat} (hd : decode (mcod M) pc = .ok (.aload_n q, 1)) (hi : (q : Nat) = i) (j : Nat) (hj : L[j]? = some (i, vr x)) (k : GO G M kc ks (pc + 1) L (vr x :: st) h r h') : GO G M kc ks pc L st h r h' :=
  GO.loc (fun p e R s m args below meth c H locs cells slots mc ms Q ls C a k => by
    have hl := lv_atL a j hj
    cases x with
    | none => exact lv_aload_nN C.1 C.2.1 hd hi hl k
    | some x => exact lv_aload_n C.1 C.2.1 hd hi hl k) k
theorem g_aload {i : Nat} {x : Option Nat} (hd : decode (mcod M) pc = .ok (.aload i, 2)) (j : Nat) (hj : L[j]? = some (i, vr x)) (k : GO G M kc ks (pc + 2) L (vr x :: st) h r h') : GO G M kc ks pc L st h r h' :=
  GO.loc (fun p e R s m args below meth c H locs cells slots mc ms Q ls C a k => by
    have hl := lv_atL a j hj
    cases x with
    | none => exact lv_aloadN C.1 C.2.1 hd hl k
    | some x => exact lv_aload C.1 C.2.1 hd hl k) k
theorem g_iadd {x y : Int32} (hd : decode (mcod M) pc = .ok (.iadd, 1)) (k : GO G M kc ks (pc + 1) L (vi (x + y) :: st) h r h') : GO G M kc ks pc L (vi y :: vi x :: st) h r h' :=
  GO.loc (fun p e R s m args below meth c H locs cells slots mc ms Q ls C a k => lv_iadd C.1 C.2.1 hd k) k
theorem g_isub {x y : Int32} (hd : decode (mcod M) pc = .ok (.isub, 1)) (k : GO G M kc ks (pc + 1) L (vi (x - y) :: st) h r h') : GO G M kc ks pc L (vi y :: vi x :: st) h r h' :=
  GO.loc (fun p e R s m args below meth c H locs cells slots mc ms Q ls C a k => lv_isub C.1 C.2.1 hd k) k
theorem g_imul {x y : Int32} (hd : decode (mcod M) pc = .ok (.imul, 1)) (k : GO G M kc ks (pc + 1) L (vi (x * y) :: st) h r h') : GO G M kc ks pc L (vi y :: vi x :: st) h r h' :=
  GO.loc (fun p e R s m args below meth c H locs cells slots mc ms Q ls C a k => lv_imul C.1 C.2.1 hd k) k
theorem g_iand {x y : Int32} (hd : decode (mcod M) pc = .ok (.iand, 1)) (k : GO G M kc ks (pc + 1) L (vi (x &&& y) :: st) h r h') : GO G M kc ks pc L (vi y :: vi x :: st) h r h' :=
  GO.loc (fun p e R s m args below meth c H locs cells slots mc ms Q ls C a k => lv_iand C.1 C.2.1 hd k) k
theorem g_ladd {x y : Int64} (hd : decode (mcod M) pc = .ok (.ladd, 1)) (k : GO G M kc ks (pc + 1) L (vl (x + y) :: st) h r h') : GO G M kc ks pc L (vl y :: vl x :: st) h r h' :=
  GO.loc (fun p e R s m args below meth c H locs cells slots mc ms Q ls C a k => lv_ladd C.1 C.2.1 hd k) k
theorem g_land {x y : Int64} (hd : decode (mcod M) pc = .ok (.land, 1)) (k : GO G M kc ks (pc + 1) L (vl (x &&& y) :: st) h r h') : GO G M kc ks pc L (vl y :: vl x :: st) h r h' :=
  GO.loc (fun p e R s m args below meth c H locs cells slots mc ms Q ls C a k => lv_land C.1 C.2.1 hd k) k
theorem g_lor {x y : Int64} (hd : decode (mcod M) pc = .ok (.lor, 1)) (k : GO G M kc ks (pc + 1) L (vl (x ||| y) :: st) h r h') : GO G M kc ks pc L (vl y :: vl x :: st) h r h' :=
  GO.loc (fun p e R s m args below meth c H locs cells slots mc ms Q ls C a k => lv_lor C.1 C.2.1 hd k) k
theorem g_idiv {x y : Int32} (hd : decode (mcod M) pc = .ok (.idiv, 1)) (hne : ¬ y = 0) (k : GO G M kc ks (pc + 1) L (vi (x / y) :: st) h r h') : GO G M kc ks pc L (vi y :: vi x :: st) h r h' :=
  GO.loc (fun p e R s m args below meth c H locs cells slots mc ms Q ls C a k => lv_idiv C.1 C.2.1 hd hne k) k
theorem g_irem {x y : Int32} (hd : decode (mcod M) pc = .ok (.irem, 1)) (hne : ¬ y = 0) (k : GO G M kc ks (pc + 1) L (vi (x - x / y * y) :: st) h r h') : GO G M kc ks pc L (vi y :: vi x :: st) h r h' :=
  GO.loc (fun p e R s m args below meth c H locs cells slots mc ms Q ls C a k => lv_irem C.1 C.2.1 hd hne k) k
theorem g_lshl {x : Int64} {y : Int32} (hd : decode (mcod M) pc = .ok (.lshl, 1)) (k : GO G M kc ks (pc + 1) L (vl (x <<< (y.toInt64 &&& 63)) :: st) h r h') : GO G M kc ks pc L (vi y :: vl x :: st) h r h' :=
  GO.loc (fun p e R s m args below meth c H locs cells slots mc ms Q ls C a k => lv_lshl C.1 C.2.1 hd rfl k) k
theorem g_i2l {x : Int32} (hd : decode (mcod M) pc = .ok (.i2l, 1)) (k : GO G M kc ks (pc + 1) L (vl x.toInt64 :: st) h r h') : GO G M kc ks pc L (vi x :: st) h r h' :=
  GO.loc (fun p e R s m args below meth c H locs cells slots mc ms Q ls C a k => lv_i2l C.1 C.2.1 hd rfl k) k
theorem g_l2i {x : Int64} (hd : decode (mcod M) pc = .ok (.l2i, 1)) (k : GO G M kc ks (pc + 1) L (vi x.toInt32 :: st) h r h') : GO G M kc ks pc L (vl x :: st) h r h' :=
  GO.loc (fun p e R s m args below meth c H locs cells slots mc ms Q ls C a k => lv_l2i C.1 C.2.1 hd rfl k) k
theorem g_i2b {x : Int32} (hd : decode (mcod M) pc = .ok (.i2b, 1)) (k : GO G M kc ks (pc + 1) L (vi x.toInt8.toInt32 :: st) h r h') : GO G M kc ks pc L (vi x :: st) h r h' :=
  GO.loc (fun p e R s m args below meth c H locs cells slots mc ms Q ls C a k => lv_i2b C.1 C.2.1 hd rfl k) k
theorem g_i2s {x : Int32} (hd : decode (mcod M) pc = .ok (.i2s, 1)) (k : GO G M kc ks (pc + 1) L (vi x.toInt16.toInt32 :: st) h r h') : GO G M kc ks pc L (vi x :: st) h r h' :=
  GO.loc (fun p e R s m args below meth c H locs cells slots mc ms Q ls C a k => lv_i2s C.1 C.2.1 hd rfl k) k
theorem g_lcmp {x y : Int64} (hd : decode (mcod M) pc = .ok (.lcmp, 1)) (k : GO G M kc ks (pc + 1) L (vi (lg_cmp x y) :: st) h r h') : GO G M kc ks pc L (vl y :: vl x :: st) h r h' :=
  GO.loc (fun p e R s m args below meth c H locs cells slots mc ms Q ls C a k => W.lcmp C.1 C.2.1 hd k) k
theorem g_dup {v : LV} (hd : decode (mcod M) pc = .ok (.dup, 1)) (hv : lcat v = 1) (k : GO G M kc ks (pc + 1) L (v :: v :: st) h r h') : GO G M kc ks pc L (v :: st) h r h' :=
  GO.loc (fun p e R s m args below meth c H locs cells slots mc ms Q ls C a k => lv_dup C.1 C.2.1 hd (by rw [tv_cat]; exact hv) k) k
theorem g_pop {v : LV} (hd : decode (mcod M) pc = .ok (.pop, 1)) (hv : lcat v = 1) (k : GO G M kc ks (pc + 1) L (st) h r h') : GO G M kc ks pc L (v :: st) h r h' :=
  GO.loc (fun p e R s m args below meth c H locs cells slots mc ms Q ls C a k => lv_pop C.1 C.2.1 hd (by rw [tv_cat]; exact hv) k) k
theorem g_dup2 {v w : LV} (hd : decode (mcod M) pc = .ok (.dup2, 1)) (hv : lcat v = 1) (hw : lcat w = 1) (k : GO G M kc ks (pc + 1) L (v :: w :: v :: w :: st) h r h') : GO G M kc ks pc L (v :: w :: st) h r h' :=
  GO.loc (fun p e R s m args below meth c H locs cells slots mc ms Q ls C a k => lv_dup2_11 C.1 C.2.1 hd (by rw [tv_cat]; exact hv) (by rw [tv_cat]; exact hw) k) k
theorem g_ldc {idx : Nat} {v : Int32} (hd : decode (mcod M) pc = .ok (.ldc idx, 2)) (hw : Cond.constant (mown M) idx v ∈ gw) (k : GO G M kc ks (pc + 2) L (vi v :: st) h r h') : GO G M kc ks pc L st h r h' :=
  GO.loc (fun p e R s m args below meth c H locs cells slots mc ms Q ls C a k => lv_ldc C.1 C.2.1 C.2.2.2.1 (C.2.2.2.2.1 _ hw) hd k) k
theorem g_ldc2 {idx : Nat} {v : Int64} (hd : decode (mcod M) pc = .ok (.ldc2_w idx, 3)) (hw : Cond.constantLong (mown M) idx v ∈ gw) (k : GO G M kc ks (pc + 3) L (vl v :: st) h r h') : GO G M kc ks pc L st h r h' :=
  GO.loc (fun p e R s m args below meth c H locs cells slots mc ms Q ls C a k => lv_ldc2 C.1 C.2.1 C.2.2.2.1 (C.2.2.2.2.1 _ hw) hd k) k
theorem g_goto {off : Int} {tgt : Nat} (hd : decode (mcod M) pc = .ok (.goto off, 3)) (ht : (pc : Int) + off = (tgt : Int)) (k : GO G M kc ks tgt L st h r h') : GO G M kc ks pc L st h r h' :=
  GO.loc (fun p e R s m args below meth c H locs cells slots mc ms Q ls C a k => lv_goto C.1 C.2.1 hd ht k) k
theorem g_sw_out {dflt lo hi : Int} {offs : Array Int} {len : Nat} {x : Int32} {tgt : Nat} (hd : decode (mcod M) pc = .ok (.tableswitch dflt lo hi offs, len)) (hx : x.toInt < lo ∨ hi < x.toInt) (ht : (pc : Int) + dflt = (tgt : Int)) (k : GO G M kc ks tgt L st h r h') : GO G M kc ks pc L (vi x :: st) h r h' :=
  GO.loc (fun p e R s m args below meth c H locs cells slots mc ms Q ls C a k => lv_tableOut C.1 C.2.1 hd hx ht k) k
theorem g_sw_in {dflt lo hi : Int} {offs : Array Int} {len : Nat} {x : Int32} {off : Int} {tgt : Nat} (hd : decode (mcod M) pc = .ok (.tableswitch dflt lo hi offs, len)) (h1 : ¬ x.toInt < lo) (h2 : ¬ hi < x.toInt) (ho : offs[(x.toInt - lo).toNat]? = some off) (ht : (pc : Int) + off = (tgt : Int)) (k : GO G M kc ks tgt L st h r h') : GO G M kc ks pc L (vi x :: st) h r h' :=
  GO.loc (fun p e R s m args below meth c H locs cells slots mc ms Q ls C a k => lv_tableIn C.1 C.2.1 hd h1 h2 ho ht k) k
theorem g_istore_n {q : Fin 4} {i : Nat} {x : Int32} (hd : decode (mcod M) pc = .ok (.istore_n q, 1)) (hi : (q : Nat) = i) (hn : i < mloc M) (hl : lput i (vi x) L = L2) (k : GO G M kc ks (pc + 1) L2 st h r h') : GO G M kc ks pc L (vi x :: st) h r h' :=
  GO.sto (fun p e R s m args below meth c H locs cells slots mc ms Q ls C a k => lv_istore_n C.1 C.2.1 hd hi a hn (by rw [← hl]; exact lput_map i (vi x) L) k) k
theorem g_istore {i : Nat} {x : Int32} (hd : decode (mcod M) pc = .ok (.istore i, 2)) (hn : i < mloc M) (hl : lput i (vi x) L = L2) (k : GO G M kc ks (pc + 2) L2 st h r h') : GO G M kc ks pc L (vi x :: st) h r h' :=
  GO.sto (fun p e R s m args below meth c H locs cells slots mc ms Q ls C a k => lv_istore C.1 C.2.1 hd a hn (by rw [← hl]; exact lput_map i (vi x) L) k) k
theorem g_astore_n {q : Fin 4} {i : Nat} {x : Option Nat} (hd : decode (mcod M) pc = .ok (.astore_n q, 1)) (hi : (q : Nat) = i) (hn : i < mloc M) (hl : lput i (vr x) L = L2) (k : GO G M kc ks (pc + 1) L2 st h r h') : GO G M kc ks pc L (vr x :: st) h r h' :=
  GO.sto (fun p e R s m args below meth c H locs cells slots mc ms Q ls C a k => by
    have e := lput_map i (vr x) L
    rw [hl] at e
    cases x with
    | none => exact lv_astore_nN C.1 C.2.1 hd hi a hn e k
    | some x => exact lv_astore_n C.1 C.2.1 hd hi a hn e k) k
theorem g_astore {i : Nat} {x : Option Nat} (hd : decode (mcod M) pc = .ok (.astore i, 2)) (hn : i < mloc M) (hl : lput i (vr x) L = L2) (k : GO G M kc ks (pc + 2) L2 st h r h') : GO G M kc ks pc L (vr x :: st) h r h' :=
  GO.sto (fun p e R s m args below meth c H locs cells slots mc ms Q ls C a k => by
    have e := lput_map i (vr x) L
    rw [hl] at e
    cases x with
    | none => exact lv_astoreN C.1 C.2.1 hd a hn e k
    | some x => exact lv_astore C.1 C.2.1 hd a hn e k) k
theorem g_iinc {i j : Nat} {n : Int} {x v : Int32} (hd : decode (mcod M) pc = .ok (.iinc i n, 3)) (hj : L[j]? = some (i, vi x)) (hv : x + Int32.ofInt n = v) (hn : i < mloc M) (hl : lput i (vi v) L = L2) (k : GO G M kc ks (pc + 3) L2 st h r h') : GO G M kc ks pc L st h r h' :=
  GO.sto (fun p e R s m args below meth c H locs cells slots mc ms Q ls C a k => lv_iinc (k := j) C.1 C.2.1 hd a (by rw [List.getElem?_map, hj]; rfl) hv hn (by rw [← hl]; exact lput_map i (vi v) L) k) k
theorem g_if_eq {x : Int32} {off : Int} {tgt : Nat} (hd : decode (mcod M) pc = .ok (.ifCond .eq off, 3)) (ht : (pc : Int) + off = (tgt : Int)) (ka : x = 0 → GO G M kc ks tgt L st h r h') (kb : ¬ (x = 0) → GO G M kc ks (pc + 3) L st h r h') : GO G M kc ks pc L (vi x :: st) h r h' :=
  GO.br (fun p e R s m args below meth c H locs cells slots mc ms Q ls C a b => lv_if_eq C.1 C.2.1 hd ht a b) ka kb
theorem g_ic_eq {x y : Int32} {off : Int} {tgt : Nat} (hd : decode (mcod M) pc = .ok (.if_icmp .eq off, 3)) (ht : (pc : Int) + off = (tgt : Int)) (ka : x = y → GO G M kc ks tgt L st h r h') (kb : ¬ (x = y) → GO G M kc ks (pc + 3) L st h r h') : GO G M kc ks pc L (vi y :: vi x :: st) h r h' :=
  GO.br (fun p e R s m args below meth c H locs cells slots mc ms Q ls C a b => lv_icmp_eq C.1 C.2.1 hd ht a b) ka kb
theorem g_if_ne {x : Int32} {off : Int} {tgt : Nat} (hd : decode (mcod M) pc = .ok (.ifCond .ne off, 3)) (ht : (pc : Int) + off = (tgt : Int)) (ka : ¬ x = 0 → GO G M kc ks tgt L st h r h') (kb : x = 0 → GO G M kc ks (pc + 3) L st h r h') : GO G M kc ks pc L (vi x :: st) h r h' :=
  GO.br (c1 := ¬ x = 0) (fun p e R s m args below meth c H locs cells slots mc ms Q ls C a b => lv_if_ne C.1 C.2.1 hd ht a (fun z => b (fun w => w z))) ka (fun z => kb (Classical.not_not.mp z))
theorem g_ic_ne {x y : Int32} {off : Int} {tgt : Nat} (hd : decode (mcod M) pc = .ok (.if_icmp .ne off, 3)) (ht : (pc : Int) + off = (tgt : Int)) (ka : ¬ x = y → GO G M kc ks tgt L st h r h') (kb : x = y → GO G M kc ks (pc + 3) L st h r h') : GO G M kc ks pc L (vi y :: vi x :: st) h r h' :=
  GO.br (c1 := ¬ x = y) (fun p e R s m args below meth c H locs cells slots mc ms Q ls C a b => lv_icmp_ne C.1 C.2.1 hd ht a (fun z => b (fun w => w z))) ka (fun z => kb (Classical.not_not.mp z))
theorem g_if_lt {x : Int32} {off : Int} {tgt : Nat} (hd : decode (mcod M) pc = .ok (.ifCond .lt off, 3)) (ht : (pc : Int) + off = (tgt : Int)) (ka : x < 0 → GO G M kc ks tgt L st h r h') (kb : ¬ (x < 0) → GO G M kc ks (pc + 3) L st h r h') : GO G M kc ks pc L (vi x :: st) h r h' :=
  GO.br (fun p e R s m args below meth c H locs cells slots mc ms Q ls C a b => lv_if_lt C.1 C.2.1 hd ht a b) ka kb
theorem g_ic_lt {x y : Int32} {off : Int} {tgt : Nat} (hd : decode (mcod M) pc = .ok (.if_icmp .lt off, 3)) (ht : (pc : Int) + off = (tgt : Int)) (ka : x < y → GO G M kc ks tgt L st h r h') (kb : ¬ (x < y) → GO G M kc ks (pc + 3) L st h r h') : GO G M kc ks pc L (vi y :: vi x :: st) h r h' :=
  GO.br (fun p e R s m args below meth c H locs cells slots mc ms Q ls C a b => lv_icmp_lt C.1 C.2.1 hd ht a b) ka kb
theorem g_if_ge {x : Int32} {off : Int} {tgt : Nat} (hd : decode (mcod M) pc = .ok (.ifCond .ge off, 3)) (ht : (pc : Int) + off = (tgt : Int)) (ka : 0 ≤ x → GO G M kc ks tgt L st h r h') (kb : ¬ (0 ≤ x) → GO G M kc ks (pc + 3) L st h r h') : GO G M kc ks pc L (vi x :: st) h r h' :=
  GO.br (fun p e R s m args below meth c H locs cells slots mc ms Q ls C a b => lv_if_ge C.1 C.2.1 hd ht a b) ka kb
theorem g_ic_ge {x y : Int32} {off : Int} {tgt : Nat} (hd : decode (mcod M) pc = .ok (.if_icmp .ge off, 3)) (ht : (pc : Int) + off = (tgt : Int)) (ka : y ≤ x → GO G M kc ks tgt L st h r h') (kb : ¬ (y ≤ x) → GO G M kc ks (pc + 3) L st h r h') : GO G M kc ks pc L (vi y :: vi x :: st) h r h' :=
  GO.br (fun p e R s m args below meth c H locs cells slots mc ms Q ls C a b => lv_icmp_ge C.1 C.2.1 hd ht a b) ka kb
theorem g_if_gt {x : Int32} {off : Int} {tgt : Nat} (hd : decode (mcod M) pc = .ok (.ifCond .gt off, 3)) (ht : (pc : Int) + off = (tgt : Int)) (ka : 0 < x → GO G M kc ks tgt L st h r h') (kb : ¬ (0 < x) → GO G M kc ks (pc + 3) L st h r h') : GO G M kc ks pc L (vi x :: st) h r h' :=
  GO.br (fun p e R s m args below meth c H locs cells slots mc ms Q ls C a b => lv_if_gt C.1 C.2.1 hd ht a b) ka kb
theorem g_ic_gt {x y : Int32} {off : Int} {tgt : Nat} (hd : decode (mcod M) pc = .ok (.if_icmp .gt off, 3)) (ht : (pc : Int) + off = (tgt : Int)) (ka : y < x → GO G M kc ks tgt L st h r h') (kb : ¬ (y < x) → GO G M kc ks (pc + 3) L st h r h') : GO G M kc ks pc L (vi y :: vi x :: st) h r h' :=
  GO.br (fun p e R s m args below meth c H locs cells slots mc ms Q ls C a b => lv_icmp_gt C.1 C.2.1 hd ht a b) ka kb
theorem g_if_le {x : Int32} {off : Int} {tgt : Nat} (hd : decode (mcod M) pc = .ok (.ifCond .le off, 3)) (ht : (pc : Int) + off = (tgt : Int)) (ka : x ≤ 0 → GO G M kc ks tgt L st h r h') (kb : ¬ (x ≤ 0) → GO G M kc ks (pc + 3) L st h r h') : GO G M kc ks pc L (vi x :: st) h r h' :=
  GO.br (fun p e R s m args below meth c H locs cells slots mc ms Q ls C a b => lv_if_le C.1 C.2.1 hd ht a b) ka kb
theorem g_ic_le {x y : Int32} {off : Int} {tgt : Nat} (hd : decode (mcod M) pc = .ok (.if_icmp .le off, 3)) (ht : (pc : Int) + off = (tgt : Int)) (ka : x ≤ y → GO G M kc ks tgt L st h r h') (kb : ¬ (x ≤ y) → GO G M kc ks (pc + 3) L st h r h') : GO G M kc ks pc L (vi y :: vi x :: st) h r h' :=
  GO.br (fun p e R s m args below meth c H locs cells slots mc ms Q ls C a b => lv_icmp_le C.1 C.2.1 hd ht a b) ka kb
theorem g_ac_eq {x y : Option Nat} {off : Int} {tgt : Nat} (hd : decode (mcod M) pc = .ok (.if_acmp .eq off, 3)) (ht : (pc : Int) + off = (tgt : Int)) (ka : x = y → GO G M kc ks tgt L st h r h') (kb : ¬ x = y → GO G M kc ks (pc + 3) L st h r h') : GO G M kc ks pc L (vr y :: vr x :: st) h r h' :=
  GO.br (fun p e R s m args below meth c H locs cells slots mc ms Q ls C a b => lv_acmp_eq C.1 C.2.1 hd ht a b) ka kb
theorem g_ac_ne {x y : Option Nat} {off : Int} {tgt : Nat} (hd : decode (mcod M) pc = .ok (.if_acmp .ne off, 3)) (ht : (pc : Int) + off = (tgt : Int)) (ka : ¬ x = y → GO G M kc ks tgt L st h r h') (kb : x = y → GO G M kc ks (pc + 3) L st h r h') : GO G M kc ks pc L (vr y :: vr x :: st) h r h' :=
  GO.br (c1 := ¬ x = y) (fun p e R s m args below meth c H locs cells slots mc ms Q ls C a b => lv_acmp_ne C.1 C.2.1 hd ht a (fun z => b (fun w => w z))) ka (fun z => kb (Classical.not_not.mp z))
theorem g_ifnull {x : Option Nat} {off : Int} {tgt : Nat} (hd : decode (mcod M) pc = .ok (.ifnull off, 3)) (ht : (pc : Int) + off = (tgt : Int)) (ka : x = none → GO G M kc ks tgt L st h r h') (kb : ¬ x = none → GO G M kc ks (pc + 3) L st h r h') : GO G M kc ks pc L (vr x :: st) h r h' :=
  GO.br (c1 := x = none) (fun p e R s m args below meth c H locs cells slots mc ms Q ls C a b => by
    cases x with
    | none => exact lv_ifnullN C.1 C.2.1 hd ht (a rfl)
    | some x => exact lv_ifnull C.1 C.2.1 hd (b (fun z => by cases z))) ka kb
theorem g_ifnonnull {x : Option Nat} {off : Int} {tgt : Nat} (hd : decode (mcod M) pc = .ok (.ifnonnull off, 3)) (ht : (pc : Int) + off = (tgt : Int)) (ka : ¬ x = none → GO G M kc ks tgt L st h r h') (kb : x = none → GO G M kc ks (pc + 3) L st h r h') : GO G M kc ks pc L (vr x :: st) h r h' :=
  GO.br (c1 := x = none) (pca := pc + 3) (pcb := tgt) (fun p e R s m args below meth c H locs cells slots mc ms Q ls C a b => by
    cases x with
    | none => exact lv_ifnonnullN C.1 C.2.1 hd (a rfl)
    | some x => exact lv_ifnonnull C.1 C.2.1 hd ht (b (fun z => by cases z))) kb ka
end G0
end
section
/-! CORE 3: fields, arrays, new cells -/
def ck (ci : Nat) (h : AH) (r : Option Nat) : Option Nat := match r with
  | none => none
  | some a => if hk h a = some (ci, 0) then some a else none
theorem ck_spec {ci : Nat} {h : AH} {r : Option Nat} {a : Nat} (e : ck ci h r = some a) : r = some a ∧ hk h a = some (ci, 0) := by
  cases r with
  | none => cases e
  | some b =>
    unfold ck at e
    by_cases hb : hk h b = some (ci, 0)
    · simp only [hb, if_true] at e
      cases e
      exact ⟨rfl, hb⟩
    · simp only [hb, if_false] at e
      cases e
def gI (ci k : Nat) (h : AH) (r : Option Nat) : Option Int32 := (ck ci h r).map (fun a => hI h a k)
def gJ (ci k : Nat) (h : AH) (r : Option Nat) : Option Int64 := (ck ci h r).map (fun a => hJ h a k)
def gR (ci k : Nat) (h : AH) (r : Option Nat) : Option (Option Nat) := (ck ci h r).map (fun a => hR h a k)
def pI (ci k : Nat) (h : AH) (r : Option Nat) (v : Int32) : Option AH := (ck ci h r).map (fun a => sI h a k v)
def pZ (ci k : Nat) (h : AH) (r : Option Nat) (v : Int32) : Option AH := if v = 0 ∨ v = 1 then (ck ci h r).map (fun a => sI h a k v) else none
def pJ (ci k : Nat) (h : AH) (r : Option Nat) (v : Int64) : Option AH := (ck ci h r).map (fun a => sJ h a k v)
def pR (ci k : Nat) (h : AH) (r : Option Nat) (v : Option Nat) : Option AH := (ck ci h r).map (fun a => sR h a k v)
def ca (t : Nat) (h : AH) (r : Option Nat) (i : Int32) : Option (Nat × Nat) := match r with
  | none => none
  | some a => match hk h a with
    | none => none
    | some (t', n) => if t' = t ∧ ¬ (i < 0 ∨ n ≤ i.toNatClampNeg) then some (a, i.toNatClampNeg) else none
theorem ca_spec {t : Nat} {h : AH} {r : Option Nat} {i : Int32} {q : Nat × Nat} (e : ca t h r i = some q) : ∃ a n, r = some a ∧ hk h a = some (t, n) ∧ vp_in i n ∧ q = (a, i.toNatClampNeg) := by
  cases r with
  | none => cases e
  | some a =>
    unfold ca at e
    cases hka : hk h a with
    | none => simp [hka] at e
    | some tn =>
      obtain ⟨t', n⟩ := tn
      simp only [hka] at e
      by_cases hc : t' = t ∧ ¬ (i < 0 ∨ n ≤ i.toNatClampNeg)
      · rw [if_pos hc] at e
        cases e
        exact ⟨a, n, rfl, by rw [hka, hc.1], hc.2, rfl⟩
      · rw [if_neg hc] at e
        cases e
def lI (t : Nat) (h : AH) (r : Option Nat) (i : Int32) : Option Int32 := (ca t h r i).map fun q => hI h q.1 q.2
def lJ (t : Nat) (h : AH) (r : Option Nat) (i : Int32) : Option Int64 := (ca t h r i).map fun q => hJ h q.1 q.2
def lR (t : Nat) (h : AH) (r : Option Nat) (i : Int32) : Option (Option Nat) := (ca t h r i).map fun q => hR h q.1 q.2
def stI (t : Nat) (h : AH) (r : Option Nat) (i v : Int32) : Option AH := (ca t h r i).map fun q => sI h q.1 q.2 v
def stZ (t : Nat) (h : AH) (r : Option Nat) (i v : Int32) : Option AH := if v = 0 ∨ v = 1 then (ca t h r i).map fun q => sI h q.1 q.2 v else none
def stJ (t : Nat) (h : AH) (r : Option Nat) (i : Int32) (v : Int64) : Option AH := (ca t h r i).map fun q => sJ h q.1 q.2 v
/-- v is null or an object of class ci -/
def nk (ci : Nat) (h : AH) (v : Option Nat) : Prop := match v with
  | none => True
  | some b => hk h b = some (ci, 0)
def stR (t ci : Nat) (h : AH) (r : Option Nat) (i : Int32) (v : Option Nat) : Option AH := match v with
  | none => (ca t h r i).map fun q => sR h q.1 q.2 none
  | some b => if hk h b = some (ci, 0) then (ca t h r i).map fun q => sR h q.1 q.2 (some b) else none
def al (h : AH) (r : Option Nat) : Option Int32 := match r with
  | none => none
  | some a => match hk h a with
    | none => none
    | some (t, n) => if 10 ≤ t ∧ t < 16 then some (nI n) else none
def na (t B : Nat) (h : AH) (n : Int32) : Option AH := if ¬ n < 0 ∧ n.toNatClampNeg ≤ B then some (nw h t n.toNatClampNeg) else none
def acp (h : AH) (r : Option Nat) (i : Int32) (r' : Option Nat) (j n : Int32) : Option AH := match r, r' with
  | some a, some b => match hk h a, hk h b with
    | some (t, n0), some (t', n1) => if (t = 11 ∧ t' = 11) ∧ (¬ i < 0 ∧ ¬ j < 0 ∧ ¬ n < 0) ∧ i.toNatClampNeg + n.toNatClampNeg ≤ n0 ∧ j.toNatClampNeg + n.toNatClampNeg ≤ n1 then some (cpJ h a i.toNatClampNeg b j.toNatClampNeg n.toNatClampNeg) else none
    | _, _ => none
  | _, _ => none
section W3
variable {G : Gm} {p : Program} {l : Launch} {e : Env} {R : Room} {s : State} {m : MethodId} {args : Array Value} {below : List Frame} {meth : Method} {c : Code} {H : Heap} {locs : List Loc} {cells slots : Nat} {Q : State → Prop} {cc : ByteArray} {pc : Nat} {ls : Array Slot} {rest : List Value} {own : String}
theorem w_get (hexec : p.tables.exec = Jvm.exec) (hb : c.code = cc) (hown : s.vm.findClass own = some m.cls) (hts : ∀ w ∈ gw, w.before args s = true) (hK : KK G s) {idx ci k : Nat} {fin : Bool} (F : FLk own idx ci k fin) {a : Nat} {V : Nat → Value} (X : t_OB a ((gD G).1 ci) (fN ci) ((gD G).2 ci) H V) {v : Value} (hv : V k = v) (hdg : decode cc pc = .ok (.getfield idx, 3))
    (kk : W p l e R s m args below meth c H locs cells slots Q (F0 m (pc + 3) ls (v :: rest))) : W p l e R s m args below meth c H locs cells slots Q (F0 m pc ls (.ref a :: rest)) := by
  obtain ⟨C, T, N, ⟨c1, c2, c3, c4, c5, c6⟩, hk, f1, f2, f3, -⟩ := F
  subst c2
  obtain ⟨cell, q1, q2, q3, q4⟩ := X
  obtain ⟨hS, hfc, kC, hkC, hkind⟩ := hK.1.1 ci _ c1
  obtain ⟨cf, kf, fi, f, hi, hsl⟩ := hS k hk
  refine W.getf hexec hb hown (hts _ f3) (by rw [← f1]; exact hi) (u_facts hfc hkC (u_lays hts c5 hk) hi).1 q1 (by rw [q3]; exact fun h => by cases h) (v := v) ?_ rfl rfl hdg kk
  rw [hsl, q4 k hk, hv]
theorem w_apart (hts : ∀ w ∈ gw, w.before args s = true) (hK : KK G s) {ci : Nat} {C : String} {T : u_T} {N : Nat} (F : CLk ci C T N) : ∀ a b, a < N → b < N → a ≠ b → (gD G).2 ci a ≠ (gD G).2 ci b :=
  va_apart (own := C) hts F.2.2.2.2.1 (fty ci) F.2.2.2.1 F.2.2.2.2.2 hK.1 F.1
theorem w_put (hexec : p.tables.exec = Jvm.exec) (hb : c.code = cc) (hown : s.vm.findClass own = some m.cls) (hts : ∀ w ∈ gw, w.before args s = true) (hK : KK G s) {idx ci k : Nat} (F : FLk own idx ci k false) {a : Nat} {V : Nat → Value} (X : t_OB a ((gD G).1 ci) (fN ci) ((gD G).2 ci) H V) {v : Value} (hn : narrow (fty ci k) v = v) (hfit : fits (fty ci k) v = true) (hdg : decode cc pc = .ok (.putfield idx, 3))
    (kk : ∀ H' : Heap, t_OB a ((gD G).1 ci) (fN ci) ((gD G).2 ci) H' (updV V k v) → H'.size = H.size → (∀ q : Nat, q ≠ a → H'[q]? = H[q]?) → W p l e R s m args below meth c H' (locs ++ [⟨a, (gD G).2 ci k⟩]) cells slots Q (F0 m (pc + 3) ls rest)) : W p l e R s m args below meth c H locs cells slots Q (F0 m pc ls (v :: .ref a :: rest)) := by
  obtain ⟨C, T, N, F0, hk, f1, f2, f3, -⟩ := F
  have hap := w_apart hts hK F0
  obtain ⟨c1, c2, c3, c4, c5, c6⟩ := F0
  subst c2
  obtain ⟨cell, q1, q2, q3, q4⟩ := X
  obtain ⟨hS, hfc, kC, hkC, hkind⟩ := hK.1.1 ci _ c1
  obtain ⟨cf, kf, fi, f, hi, hsl⟩ := hS k hk
  have hlay := hts _ (c5 _ (u_in_lay hk))
  unfold u_lay at hlay
  rw [if_neg (by rw [f2]; decide)] at hlay
  have hst := (u_facts hfc hkC (u_lays hts c5 hk) hi).1
  have h6 := u_store hfc hkC hkind hlay hi (c4 k hk) hn hfit
  refine W.putK hexec hb (f := f) ⟨hown, hts _ f3, ⟨_, _, _, by rw [← f1]; exact hi⟩, hst⟩ (by rw [q2]; exact h6) q1 q3 (by rw [hsl]; exact k2_hasslot (q4 k hk)) rfl rfl hdg fun H' e1 e2 e3 => ?_
  rw [hsl] at e1 ⊢
  exact kk H' ⟨_, e1, q2, q3, t_set q4 hap hk v⟩ e2 e3
theorem w_putF (hexec : p.tables.exec = Jvm.exec) (hb : c.code = cc) (hown : s.vm.findClass own = some m.cls) (hts : ∀ w ∈ gw, w.before args s = true) (hK : KK G s) (hin : meth.name = "<init>") {idx ci k : Nat} (F : FLk own idx ci k true) (hC : (vwCl[ci]?).map (fun q => q.1) = some own) {a : Nat} {V : Nat → Value} (X : t_OB a ((gD G).1 ci) (fN ci) ((gD G).2 ci) H V) {v : Value} (hn : narrow (fty ci k) v = v) (hfit : fits (fty ci k) v = true) (hdg : decode cc pc = .ok (.putfield idx, 3))
    (kk : ∀ H' : Heap, t_OB a ((gD G).1 ci) (fN ci) ((gD G).2 ci) H' (updV V k v) → H'.size = H.size → (∀ q : Nat, q ≠ a → H'[q]? = H[q]?) → W p l e R s m args below meth c H' (locs ++ [⟨a, (gD G).2 ci k⟩]) cells slots Q (F0 m (pc + 3) ls rest)) : W p l e R s m args below meth c H locs cells slots Q (F0 m pc ls (v :: .ref a :: rest)) := by
  obtain ⟨C, T, N, F0, hk, f1, f2, f3, -⟩ := F
  have hap := w_apart hts hK F0
  obtain ⟨c1, c2, c3, c4, c5, c6⟩ := F0
  subst c2
  rw [c1] at hC
  have hCo : C = own := Option.some.inj hC
  obtain ⟨cell, q1, q2, q3, q4⟩ := X
  obtain ⟨hS, hfc, kC, hkC, hkind⟩ := hK.1.1 ci _ c1
  obtain ⟨cf, kf, fi, f, hi, hsl⟩ := hS k hk
  have hlay := hts _ (c5 _ (u_in_lay hk))
  unfold u_lay at hlay
  rw [if_pos f2] at hlay
  have hst := (u_facts hfc hkC (u_lays hts c5 hk) hi).1
  have hcf : m.cls = cf := by
    obtain ⟨_, _, c', _, _, _, -, -, hf', -, -, -, hown2, -⟩ := Cond.laysFinal_spec hlay
    have e1 : c' = cf := by have := hi.symm.trans hf'; simp at this; exact this.1.symm
    rw [f1, hCo] at hown2
    rw [← e1]; exact Option.some.inj (hown.symm.trans hown2)
  have h6 := u_fits hfc hkC hkind (Or.inr hlay) hi (c4 k hk) hn hfit
  refine W.putFinK hexec hb hown (hts _ f3) (by rw [← f1]; exact hi) hst hcf hin (by rw [q2]; exact h6) q1 q3 (by rw [hsl]; exact k2_hasslot (q4 k hk)) rfl rfl hdg fun H' e1 e2 e3 => ?_
  rw [hsl] at e1 ⊢
  exact kk H' ⟨_, e1, q2, q3, t_set q4 hap hk v⟩ e2 e3
end W3
theorem HL.ob {G : Gm} {h : AH} {H : Heap} (a1 : HL G h H) {a ci n : Nat} (hc : hk h a = some (ci, n)) (h9 : ci < 9) : t_OB a ((gD G).1 ci) (fN ci) ((gD G).2 ci) H (fun k => fval (fty ci k) h a k) := by
  have := (a1.2.2.2 a ci n hc).2.2
  unfold cok at this
  rw [if_neg (by omega)] at this
  exact this
theorem HL.ar {G : Gm} {h : AH} {H : Heap} (a1 : HL G h H) {a ci n : Nat} (hc : hk h a = some (ci, n)) (h9 : 9 ≤ ci) : H[a]? = some (arrV (gA G ci) n (fun j => fval (fty ci j) h a j)) := by
  have := (a1.2.2.2 a ci n hc).2.2
  unfold cok at this
  rw [if_pos h9] at this
  exact this
/-- an object's field is set: the abstract heap follows -/
theorem HL.put {G : Gm} {h h' : AH} {H H' : Heap} (a1 : HL G h H) {a ci k : Nat} (hc : hk h a = some (ci, 0)) (h9 : ci < 9) (e1 : hk h' = hk h) (e2 : hz h' = hz h) (ho : ∀ b, b ≠ a → ∀ k, hI h' b k = hI h b k ∧ hJ h' b k = hJ h b k ∧ hR h' b k = hR h b k) {v : Value}
    (hv : ∀ j, j < fN ci → updV (fun k => fval (fty ci k) h a k) k v j = fval (fty ci j) h' a j) (x : t_OB a ((gD G).1 ci) (fN ci) ((gD G).2 ci) H' (updV (fun k => fval (fty ci k) h a k) k v)) (z : H'.size = H.size) (o : ∀ q : Nat, q ≠ a → H'[q]? = H[q]?) : HL G h' H' := by
  refine HL.upd a1 e1 e2 ho z o (a1.2.2.2 a ci 0 hc).1 (fun ci' n' hc' => ?_)
  rw [hc] at hc'
  cases hc'
  unfold cok
  rw [if_neg (by omega)]
  exact x.to hv
theorem sI_off (h : AH) (a k : Nat) (v : Int32) : ∀ b, b ≠ a → ∀ j, hI (sI h a k v) b j = hI h b j ∧ hJ (sI h a k v) b j = hJ h b j ∧ hR (sI h a k v) b j = hR h b j := fun b hb j => ⟨by simp [hI_sI, hb], rfl, rfl⟩
theorem sJ_off (h : AH) (a k : Nat) (v : Int64) : ∀ b, b ≠ a → ∀ j, hI (sJ h a k v) b j = hI h b j ∧ hJ (sJ h a k v) b j = hJ h b j ∧ hR (sJ h a k v) b j = hR h b j := fun b hb j => ⟨rfl, by simp [hJ_sJ, hb], rfl⟩
theorem sR_off (h : AH) (a k : Nat) (v : Option Nat) : ∀ b, b ≠ a → ∀ j, hI (sR h a k v) b j = hI h b j ∧ hJ (sR h a k v) b j = hJ h b j ∧ hR (sR h a k v) b j = hR h b j := fun b hb j => ⟨rfl, rfl, by simp [hR_sR, hb]⟩
theorem locs_add {b : Nat} {locs : List Loc} {a i : Nat} (h : ∀ q ∈ locs, b ≤ q.base) (ha : b ≤ a) : ∀ q ∈ locs ++ [(⟨a, i⟩ : Loc)], b ≤ q.base := by
  intro q hq
  rcases List.mem_append.mp hq with h1 | h1
  · exact h q h1
  · rw [List.mem_singleton.mp h1]
    exact ha
section G3
variable {G : Gm} {M : MI} {kc ks pc pc2 : Nat} {L L2 : LL} {st st2 : List LV} {h h2 h' : AH} {r : Option LV}
theorem g_getI {idx ci k : Nat} {fin : Bool} {x : Option Nat} {v : Int32} (hd : decode (mcod M) pc = .ok (.getfield idx, 3)) (F : FLk (mown M) idx ci k fin) (ht : ∀ a, fval (fty ci k) h a k = .int (hI h a k)) (hv : gI ci k h x = some v) (kk : GO G M kc ks (pc + 3) L (vi v :: st) h r h') : GO G M kc ks pc L (vr x :: st) h r h' := by
  intro p e R s m args below meth c mc ms Q C E H locs cells slots ls a1 a2 a3 a4 a5
  obtain ⟨a, ha, rfl⟩ := Option.map_eq_some_iff.mp hv
  obtain ⟨rfl, hc⟩ := ck_spec ha
  exact w_get C.1 C.2.1 C.2.2.2.1 C.2.2.2.2.1 C.2.2.2.2.2.1 F (a1.ob hc F.lt) (ht a) hd (kk p e R s m args below meth c mc ms Q C E H locs cells slots ls a1 a2 a3 a4 a5)
theorem g_getJ {idx ci k : Nat} {fin : Bool} {x : Option Nat} {v : Int64} (hd : decode (mcod M) pc = .ok (.getfield idx, 3)) (F : FLk (mown M) idx ci k fin) (ht : ∀ a, fval (fty ci k) h a k = .long (hJ h a k)) (hv : gJ ci k h x = some v) (kk : GO G M kc ks (pc + 3) L (vl v :: st) h r h') : GO G M kc ks pc L (vr x :: st) h r h' := by
  intro p e R s m args below meth c mc ms Q C E H locs cells slots ls a1 a2 a3 a4 a5
  obtain ⟨a, ha, rfl⟩ := Option.map_eq_some_iff.mp hv
  obtain ⟨rfl, hc⟩ := ck_spec ha
  exact w_get C.1 C.2.1 C.2.2.2.1 C.2.2.2.2.1 C.2.2.2.2.2.1 F (a1.ob hc F.lt) (ht a) hd (kk p e R s m args below meth c mc ms Q C E H locs cells slots ls a1 a2 a3 a4 a5)
theorem g_getR {idx ci k : Nat} {fin : Bool} {x : Option Nat} {v : Option Nat} (hd : decode (mcod M) pc = .ok (.getfield idx, 3)) (F : FLk (mown M) idx ci k fin) (ht : ∀ a, fval (fty ci k) h a k = va_rf (hR h a k)) (hv : gR ci k h x = some v) (kk : GO G M kc ks (pc + 3) L (vr v :: st) h r h') : GO G M kc ks pc L (vr x :: st) h r h' := by
  intro p e R s m args below meth c mc ms Q C E H locs cells slots ls a1 a2 a3 a4 a5
  obtain ⟨a, ha, rfl⟩ := Option.map_eq_some_iff.mp hv
  obtain ⟨rfl, hc⟩ := ck_spec ha
  exact w_get C.1 C.2.1 C.2.2.2.1 C.2.2.2.2.1 C.2.2.2.2.2.1 F (a1.ob hc F.lt) (ht a) hd (kk p e R s m args below meth c mc ms Q C E H locs cells slots ls a1 a2 a3 a4 a5)
theorem g_putI {idx ci k : Nat} {x : Option Nat} {v : Int32} (hd : decode (mcod M) pc = .ok (.putfield idx, 3)) (F : FLk (mown M) idx ci k false) (ht : fty ci k = .int) (hv : pI ci k h x v = some h2) (kk : GO G M kc ks (pc + 3) L st h2 r h') : GO G M kc ks pc L (vi v :: vr x :: st) h r h' := by
  intro p e R s m args below meth c mc ms Q C E H locs cells slots ls a1 a2 a3 a4 a5
  obtain ⟨a, ha, rfl⟩ := Option.map_eq_some_iff.mp hv
  obtain ⟨rfl, hc⟩ := ck_spec ha
  refine w_put C.1 C.2.1 C.2.2.2.1 C.2.2.2.2.1 C.2.2.2.2.2.1 F (a1.ob hc F.lt) (v := .int v) (by rw [ht]; rfl) (by rw [ht]; rfl) hd (fun H' x z o => ?_)
  exact kk p e R s m args below meth c mc ms Q C E H' _ cells slots ls (a1.put hc F.lt rfl rfl (sI_off h a k v) (fun j _ => (fval_sI (t := .int) (Or.inl rfl) h a k v j (fty ci j) (fun q => by rw [q]; exact ht)).symm) x z o) (locs_add a2 (a1.2.2.2 a ci 0 hc).1) a3 a4 a5
theorem g_putIF {idx ci k : Nat} {x : Option Nat} {v : Int32} (hd : decode (mcod M) pc = .ok (.putfield idx, 3)) (F : FLk (mown M) idx ci k true) (hin : mnam M = "<init>") (hC : (vwCl[ci]?).map (fun q => q.1) = some (mown M)) (ht : fty ci k = .int) (hv : pI ci k h x v = some h2) (kk : GO G M kc ks (pc + 3) L st h2 r h') : GO G M kc ks pc L (vi v :: vr x :: st) h r h' := by
  intro p e R s m args below meth c mc ms Q C E H locs cells slots ls a1 a2 a3 a4 a5
  obtain ⟨a, ha, rfl⟩ := Option.map_eq_some_iff.mp hv
  obtain ⟨rfl, hc⟩ := ck_spec ha
  refine w_putF C.1 C.2.1 C.2.2.2.1 C.2.2.2.2.1 C.2.2.2.2.2.1 (C.2.2.2.2.2.2.1.trans hin) F hC (a1.ob hc F.lt) (v := .int v) (by rw [ht]; rfl) (by rw [ht]; rfl) hd (fun H' x z o => ?_)
  exact kk p e R s m args below meth c mc ms Q C E H' _ cells slots ls (a1.put hc F.lt rfl rfl (sI_off h a k v) (fun j _ => (fval_sI (t := .int) (Or.inl rfl) h a k v j (fty ci j) (fun q => by rw [q]; exact ht)).symm) x z o) (locs_add a2 (a1.2.2.2 a ci 0 hc).1) a3 a4 a5
theorem g_putZ {idx ci k : Nat} {x : Option Nat} {v : Int32} (hd : decode (mcod M) pc = .ok (.putfield idx, 3)) (F : FLk (mown M) idx ci k false) (ht : fty ci k = .boolean) (hv : pZ ci k h x v = some h2) (kk : GO G M kc ks (pc + 3) L st h2 r h') : GO G M kc ks pc L (vi v :: vr x :: st) h r h' := by
  intro p e R s m args below meth c mc ms Q C E H locs cells slots ls a1 a2 a3 a4 a5
  unfold pZ at hv
  by_cases hz1 : v = 0 ∨ v = 1
  · rw [if_pos hz1] at hv
    obtain ⟨a, ha, rfl⟩ := Option.map_eq_some_iff.mp hv
    obtain ⟨rfl, hc⟩ := ck_spec ha
    refine w_put C.1 C.2.1 C.2.2.2.1 C.2.2.2.2.1 C.2.2.2.2.2.1 F (a1.ob hc F.lt) (v := .int v) (by rw [ht]; rcases hz1 with q | q <;> rw [q] <;> rfl) (by rw [ht]; rcases hz1 with q | q <;> rw [q] <;> rfl) hd (fun H' x z o => ?_)
    exact kk p e R s m args below meth c mc ms Q C E H' _ cells slots ls (a1.put hc F.lt rfl rfl (sI_off h a k v) (fun j _ => (fval_sI (t := .boolean) (Or.inr rfl) h a k v j (fty ci j) (fun q => by rw [q]; exact ht)).symm) x z o) (locs_add a2 (a1.2.2.2 a ci 0 hc).1) a3 a4 a5
  · rw [if_neg hz1] at hv
    cases hv
theorem g_putZF {idx ci k : Nat} {x : Option Nat} {v : Int32} (hd : decode (mcod M) pc = .ok (.putfield idx, 3)) (F : FLk (mown M) idx ci k true) (hin : mnam M = "<init>") (hC : (vwCl[ci]?).map (fun q => q.1) = some (mown M)) (ht : fty ci k = .boolean) (hv : pZ ci k h x v = some h2) (kk : GO G M kc ks (pc + 3) L st h2 r h') : GO G M kc ks pc L (vi v :: vr x :: st) h r h' := by
  intro p e R s m args below meth c mc ms Q C E H locs cells slots ls a1 a2 a3 a4 a5
  unfold pZ at hv
  by_cases hz1 : v = 0 ∨ v = 1
  · rw [if_pos hz1] at hv
    obtain ⟨a, ha, rfl⟩ := Option.map_eq_some_iff.mp hv
    obtain ⟨rfl, hc⟩ := ck_spec ha
    refine w_putF C.1 C.2.1 C.2.2.2.1 C.2.2.2.2.1 C.2.2.2.2.2.1 (C.2.2.2.2.2.2.1.trans hin) F hC (a1.ob hc F.lt) (v := .int v) (by rw [ht]; rcases hz1 with q | q <;> rw [q] <;> rfl) (by rw [ht]; rcases hz1 with q | q <;> rw [q] <;> rfl) hd (fun H' x z o => ?_)
    exact kk p e R s m args below meth c mc ms Q C E H' _ cells slots ls (a1.put hc F.lt rfl rfl (sI_off h a k v) (fun j _ => (fval_sI (t := .boolean) (Or.inr rfl) h a k v j (fty ci j) (fun q => by rw [q]; exact ht)).symm) x z o) (locs_add a2 (a1.2.2.2 a ci 0 hc).1) a3 a4 a5
  · rw [if_neg hz1] at hv
    cases hv
theorem g_putJ {idx ci k : Nat} {x : Option Nat} {v : Int64} (hd : decode (mcod M) pc = .ok (.putfield idx, 3)) (F : FLk (mown M) idx ci k false) (ht : fty ci k = .long) (hv : pJ ci k h x v = some h2) (kk : GO G M kc ks (pc + 3) L st h2 r h') : GO G M kc ks pc L (vl v :: vr x :: st) h r h' := by
  intro p e R s m args below meth c mc ms Q C E H locs cells slots ls a1 a2 a3 a4 a5
  obtain ⟨a, ha, rfl⟩ := Option.map_eq_some_iff.mp hv
  obtain ⟨rfl, hc⟩ := ck_spec ha
  refine w_put C.1 C.2.1 C.2.2.2.1 C.2.2.2.2.1 C.2.2.2.2.2.1 F (a1.ob hc F.lt) (v := .long v) (by rw [ht]; rfl) (by rw [ht]; rfl) hd (fun H' x z o => ?_)
  exact kk p e R s m args below meth c mc ms Q C E H' _ cells slots ls (a1.put hc F.lt rfl rfl (sJ_off h a k v) (fun j _ => (fval_sJ h a k v j (fty ci j) (fun q => by rw [q]; exact ht)).symm) x z o) (locs_add a2 (a1.2.2.2 a ci 0 hc).1) a3 a4 a5
theorem g_putJF {idx ci k : Nat} {x : Option Nat} {v : Int64} (hd : decode (mcod M) pc = .ok (.putfield idx, 3)) (F : FLk (mown M) idx ci k true) (hin : mnam M = "<init>") (hC : (vwCl[ci]?).map (fun q => q.1) = some (mown M)) (ht : fty ci k = .long) (hv : pJ ci k h x v = some h2) (kk : GO G M kc ks (pc + 3) L st h2 r h') : GO G M kc ks pc L (vl v :: vr x :: st) h r h' := by
  intro p e R s m args below meth c mc ms Q C E H locs cells slots ls a1 a2 a3 a4 a5
  obtain ⟨a, ha, rfl⟩ := Option.map_eq_some_iff.mp hv
  obtain ⟨rfl, hc⟩ := ck_spec ha
  refine w_putF C.1 C.2.1 C.2.2.2.1 C.2.2.2.2.1 C.2.2.2.2.2.1 (C.2.2.2.2.2.2.1.trans hin) F hC (a1.ob hc F.lt) (v := .long v) (by rw [ht]; rfl) (by rw [ht]; rfl) hd (fun H' x z o => ?_)
  exact kk p e R s m args below meth c mc ms Q C E H' _ cells slots ls (a1.put hc F.lt rfl rfl (sJ_off h a k v) (fun j _ => (fval_sJ h a k v j (fty ci j) (fun q => by rw [q]; exact ht)).symm) x z o) (locs_add a2 (a1.2.2.2 a ci 0 hc).1) a3 a4 a5
theorem g_putR {idx ci k : Nat} {x : Option Nat} {v : Option Nat} (hd : decode (mcod M) pc = .ok (.putfield idx, 3)) (F : FLk (mown M) idx ci k false) (ht : (∃ n, fty ci k = .object n) ∨ ∃ n, fty ci k = .array n) (hv : pR ci k h x v = some h2) (kk : GO G M kc ks (pc + 3) L st h2 r h') : GO G M kc ks pc L (vr v :: vr x :: st) h r h' := by
  intro p e R s m args below meth c mc ms Q C E H locs cells slots ls a1 a2 a3 a4 a5
  obtain ⟨a, ha, rfl⟩ := Option.map_eq_some_iff.mp hv
  obtain ⟨rfl, hc⟩ := ck_spec ha
  refine w_put C.1 C.2.1 C.2.2.2.1 C.2.2.2.2.1 C.2.2.2.2.2.1 F (a1.ob hc F.lt) (v := va_rf v) (by rcases ht with ⟨n, q⟩ | ⟨n, q⟩ <;> rw [q] <;> cases v <;> rfl) (by rcases ht with ⟨n, q⟩ | ⟨n, q⟩ <;> rw [q] <;> cases v <;> rfl) hd (fun H' x z o => ?_)
  exact kk p e R s m args below meth c mc ms Q C E H' _ cells slots ls (a1.put hc F.lt rfl rfl (sR_off h a k v) (fun j _ => (fval_sR (t := fty ci k) ht h a k v j (fty ci j) (fun q => by rw [q])).symm) x z o) (locs_add a2 (a1.2.2.2 a ci 0 hc).1) a3 a4 a5
theorem g_putRF {idx ci k : Nat} {x : Option Nat} {v : Option Nat} (hd : decode (mcod M) pc = .ok (.putfield idx, 3)) (F : FLk (mown M) idx ci k true) (hin : mnam M = "<init>") (hC : (vwCl[ci]?).map (fun q => q.1) = some (mown M)) (ht : (∃ n, fty ci k = .object n) ∨ ∃ n, fty ci k = .array n) (hv : pR ci k h x v = some h2) (kk : GO G M kc ks (pc + 3) L st h2 r h') : GO G M kc ks pc L (vr v :: vr x :: st) h r h' := by
  intro p e R s m args below meth c mc ms Q C E H locs cells slots ls a1 a2 a3 a4 a5
  obtain ⟨a, ha, rfl⟩ := Option.map_eq_some_iff.mp hv
  obtain ⟨rfl, hc⟩ := ck_spec ha
  refine w_putF C.1 C.2.1 C.2.2.2.1 C.2.2.2.2.1 C.2.2.2.2.2.1 (C.2.2.2.2.2.2.1.trans hin) F hC (a1.ob hc F.lt) (v := va_rf v) (by rcases ht with ⟨n, q⟩ | ⟨n, q⟩ <;> rw [q] <;> cases v <;> rfl) (by rcases ht with ⟨n, q⟩ | ⟨n, q⟩ <;> rw [q] <;> cases v <;> rfl) hd (fun H' x z o => ?_)
  exact kk p e R s m args below meth c mc ms Q C E H' _ cells slots ls (a1.put hc F.lt rfl rfl (sR_off h a k v) (fun j _ => (fval_sR (t := fty ci k) ht h a k v j (fty ci j) (fun q => by rw [q])).symm) x z o) (locs_add a2 (a1.2.2.2 a ci 0 hc).1) a3 a4 a5
end G3
end
section
/-! CORE 4: arrays, new cells, the script -/
theorem HL.ast {G : Gm} {h h' : AH} {H H' : Heap} (a1 : HL G h H) {a t n k : Nat} (hc : hk h a = some (t, n)) (h9 : 9 ≤ t) (e1 : hk h' = hk h) (e2 : hz h' = hz h) (ho : ∀ b, b ≠ a → ∀ k, hI h' b k = hI h b k ∧ hJ h' b k = hJ h b k ∧ hR h' b k = hR h b k) {v : Value}
    (hv : ∀ j, updV (fun k => fval (fty t k) h a k) k v j = fval (fty t j) h' a j) (x : H'[a]? = some ((arrV (gA G t) n (fun k => fval (fty t k) h a k)).setSlot k v)) (z : H'.size = H.size) (o : ∀ q : Nat, q ≠ a → H'[q]? = H[q]?) : HL G h' H' := by
  refine HL.upd a1 e1 e2 ho z o (a1.2.2.2 a t n hc).1 (fun ci' n' hc' => ?_)
  rw [hc] at hc'
  cases hc'
  unfold cok
  rw [if_pos h9, x, arrV_store]
  congr 2
  funext j
  exact hv j
def okty (t : FieldType) : Bool := match t with
  | .int => true
  | .boolean => true
  | .long => true
  | .object _ => true
  | .array _ => true
  | _ => false
theorem okty_def {t : FieldType} (ht : okty t = true) (h : AH) (ci n k : Nat) : defaultValue t = fval t (nw h ci n) (hz h) k := by
  cases t <;> first | (cases ht; done) | simp [fval, defaultValue, hI_nw, hJ_nw, hR_nw, va_rf]
theorem locs_of {G : Gm} {h : AH} {H : Heap} (a1 : HL G h H) {locs : List Loc} (a2 : ∀ q ∈ locs, gb G ≤ q.base) {a ci n i : Nat} (hc : hk h a = some (ci, n)) : ∀ q ∈ locs ++ [(⟨a, i⟩ : Loc)], gb G ≤ q.base := locs_add a2 (a1.2.2.2 a ci n hc).1
section G4
variable {G : Gm} {M : MI} {kc ks pc pc2 : Nat} {L L2 : LL} {st st2 : List LV} {h h2 h' : AH} {r : Option LV}
theorem g_alen {x : Option Nat} {v : Int32} (hd : decode (mcod M) pc = .ok (.arraylength, 1)) (hv : al h x = some v) (kk : GO G M kc ks (pc + 1) L (vi v :: st) h r h') : GO G M kc ks pc L (vr x :: st) h r h' := by
  intro p e R s m args below meth c mc ms Q C E H locs cells slots ls a1 a2 a3 a4 a5
  cases x with
  | none => cases hv
  | some a =>
    unfold al at hv
    cases hc : hk h a with
    | none => simp [hc] at hv
    | some tn =>
      obtain ⟨t, n⟩ := tn
      simp only [hc] at hv
      by_cases ht : 10 ≤ t ∧ t < 16
      · rw [if_pos ht] at hv
        cases hv
        have hA : ∃ ty, ArrOfT s (gA G t) ty := by
          obtain ⟨h1, h2⟩ := ht
          have hT := C.2.2.2.2.2.1.1.2
          match t, h1, h2 with
          | 10, _, _ => exact ⟨_, (hT 0 _ rfl).1⟩
          | 11, _, _ => exact ⟨_, (hT 1 _ rfl).1⟩
          | 12, _, _ => exact ⟨_, (hT 2 _ rfl).1⟩
          | 13, _, _ => exact ⟨_, (hT 3 _ rfl).1⟩
          | 14, _, _ => exact ⟨_, (hT 4 _ rfl).1⟩
          | 15, _, _ => exact ⟨_, (hT 5 _ rfl).1⟩
          | t + 16, _, h2 => omega
        obtain ⟨ty, hA⟩ := hA
        exact W.alen (n := nI n) C.1 C.2.1 (a1.ar hc (by omega)) (hA n _) (by rw [arrV_size]; rfl) rfl rfl hd (kk p e R s m args below meth c mc ms Q C E H locs cells slots ls a1 a2 a3 a4 a5)
      · rw [if_neg ht] at hv
        cases hv
theorem g_iald {x : Option Nat} {i v : Int32} (hd : decode (mcod M) pc = .ok (.iaload, 1)) (hv : lI 10 h x i = some v) (kk : GO G M kc ks (pc + 1) L (vi v :: st) h r h') : GO G M kc ks pc L (vi i :: vr x :: st) h r h' := by
  intro p e R s m args below meth c mc ms Q C E H locs cells slots ls a1 a2 a3 a4 a5
  obtain ⟨q, hq, rfl⟩ := Option.map_eq_some_iff.mp hv
  obtain ⟨a, n, rfl, hc, hin, rfl⟩ := ca_spec hq
  have hlt : i.toNatClampNeg < n := Nat.not_le.mp fun q => hin (Or.inr q)
  exact W.iald (v := .int (hI h a i.toNatClampNeg)) C.1 C.2.1 (a1.ar hc (by omega)) ((C.2.2.2.2.2.1.1.2 0 _ rfl).1 n _) (fun h => by cases h) (by rw [arrV_size]; exact hin) (by rw [arrV_read _ _ hlt]; rfl) rfl rfl hd (kk p e R s m args below meth c mc ms Q C E H locs cells slots ls a1 a2 a3 a4 a5)
theorem g_lald {x : Option Nat} {i : Int32} {v : Int64} (hd : decode (mcod M) pc = .ok (.laload, 1)) (hv : lJ 11 h x i = some v) (kk : GO G M kc ks (pc + 1) L (vl v :: st) h r h') : GO G M kc ks pc L (vi i :: vr x :: st) h r h' := by
  intro p e R s m args below meth c mc ms Q C E H locs cells slots ls a1 a2 a3 a4 a5
  obtain ⟨q, hq, rfl⟩ := Option.map_eq_some_iff.mp hv
  obtain ⟨a, n, rfl, hc, hin, rfl⟩ := ca_spec hq
  have hlt : i.toNatClampNeg < n := Nat.not_le.mp fun q => hin (Or.inr q)
  exact W.lald (v := .long (hJ h a i.toNatClampNeg)) C.1 C.2.1 (a1.ar hc (by omega)) ((C.2.2.2.2.2.1.1.2 1 _ rfl).1 n _) (fun h => by cases h) (by rw [arrV_size]; exact hin) (by rw [arrV_read _ _ hlt]; rfl) rfl rfl hd (kk p e R s m args below meth c mc ms Q C E H locs cells slots ls a1 a2 a3 a4 a5)
theorem g_zald {x : Option Nat} {i v : Int32} (hd : decode (mcod M) pc = .ok (.baload, 1)) (hv : lI 12 h x i = some v) (kk : GO G M kc ks (pc + 1) L (vi v :: st) h r h') : GO G M kc ks pc L (vi i :: vr x :: st) h r h' := by
  intro p e R s m args below meth c mc ms Q C E H locs cells slots ls a1 a2 a3 a4 a5
  obtain ⟨q, hq, rfl⟩ := Option.map_eq_some_iff.mp hv
  obtain ⟨a, n, rfl, hc, hin, rfl⟩ := ca_spec hq
  have hlt : i.toNatClampNeg < n := Nat.not_le.mp fun q => hin (Or.inr q)
  exact W.zald (v := .int (hI h a i.toNatClampNeg)) C.1 C.2.1 (a1.ar hc (by omega)) ((C.2.2.2.2.2.1.1.2 2 _ rfl).1 n _) (fun h => by cases h) (by rw [arrV_size]; exact hin) (by rw [arrV_read _ _ hlt]; rfl) rfl rfl hd (kk p e R s m args below meth c mc ms Q C E H locs cells slots ls a1 a2 a3 a4 a5)
theorem g_aald {t : Nat} {j : Nat} {cn : String} (hg : (gT G)[j]? = some (gA G t, .object cn)) (h9 : 9 ≤ t) (hft : ∀ a k, fval (fty t k) h a k = va_rf (hR h a k)) {x : Option Nat} {i : Int32} {v : Option Nat} (hd : decode (mcod M) pc = .ok (.aaload, 1)) (hv : lR t h x i = some v) (kk : GO G M kc ks (pc + 1) L (vr v :: st) h r h') : GO G M kc ks pc L (vi i :: vr x :: st) h r h' := by
  intro p e R s m args below meth c mc ms Q C E H locs cells slots ls a1 a2 a3 a4 a5
  obtain ⟨q, hq, rfl⟩ := Option.map_eq_some_iff.mp hv
  obtain ⟨a, n, rfl, hc, hin, rfl⟩ := ca_spec hq
  have hlt : i.toNatClampNeg < n := Nat.not_le.mp fun q => hin (Or.inr q)
  exact W.aald (v := va_rf (hR h a i.toNatClampNeg)) C.1 C.2.1 (a1.ar hc h9) ((C.2.2.2.2.2.1.1.2 j _ hg).1 n _) rfl (fun h => by cases h) (by rw [arrV_size]; exact hin) (by rw [arrV_read _ _ hlt, hft]) rfl rfl hd (kk p e R s m args below meth c mc ms Q C E H locs cells slots ls a1 a2 a3 a4 a5)
theorem g_iast {x : Option Nat} {i v : Int32} (hd : decode (mcod M) pc = .ok (.iastore, 1)) (hv : stI 10 h x i v = some h2) (kk : GO G M kc ks (pc + 1) L st h2 r h') : GO G M kc ks pc L (vi v :: vi i :: vr x :: st) h r h' := by
  intro p e R s m args below meth c mc ms Q C E H locs cells slots ls a1 a2 a3 a4 a5
  obtain ⟨q, hq, rfl⟩ := Option.map_eq_some_iff.mp hv
  obtain ⟨a, n, rfl, hc, hin, rfl⟩ := ca_spec hq
  refine W.iast C.1 C.2.1 (a1.ar hc (by omega)) ((C.2.2.2.2.2.1.1.2 0 _ rfl).1 n _) (fun h => by cases h) (by rw [arrV_size]; exact hin) rfl rfl hd (fun H' x z o => ?_)
  exact kk p e R s m args below meth c mc ms Q C E H' _ cells slots ls (a1.ast hc (by omega) rfl rfl (sI_off h a _ v) (fun j => (fval_sI (t := .int) (Or.inl rfl) h a _ v j _ (fun _ => rfl)).symm) x z o) (locs_of a1 a2 hc) a3 a4 a5
theorem g_last {x : Option Nat} {i : Int32} {v : Int64} (hd : decode (mcod M) pc = .ok (.lastore, 1)) (hv : stJ 11 h x i v = some h2) (kk : GO G M kc ks (pc + 1) L st h2 r h') : GO G M kc ks pc L (vl v :: vi i :: vr x :: st) h r h' := by
  intro p e R s m args below meth c mc ms Q C E H locs cells slots ls a1 a2 a3 a4 a5
  obtain ⟨q, hq, rfl⟩ := Option.map_eq_some_iff.mp hv
  obtain ⟨a, n, rfl, hc, hin, rfl⟩ := ca_spec hq
  refine W.last C.1 C.2.1 (a1.ar hc (by omega)) ((C.2.2.2.2.2.1.1.2 1 _ rfl).1 n _) (fun h => by cases h) (by rw [arrV_size]; exact hin) rfl rfl hd (fun H' x z o => ?_)
  exact kk p e R s m args below meth c mc ms Q C E H' _ cells slots ls (a1.ast hc (by omega) rfl rfl (sJ_off h a _ v) (fun j => (fval_sJ h a _ v j _ (fun _ => rfl)).symm) x z o) (locs_of a1 a2 hc) a3 a4 a5
theorem g_zast {x : Option Nat} {i v : Int32} (hd : decode (mcod M) pc = .ok (.bastore, 1)) (hv : stZ 12 h x i v = some h2) (kk : GO G M kc ks (pc + 1) L st h2 r h') : GO G M kc ks pc L (vi v :: vi i :: vr x :: st) h r h' := by
  intro p e R s m args below meth c mc ms Q C E H locs cells slots ls a1 a2 a3 a4 a5
  unfold stZ at hv
  by_cases hz1 : v = 0 ∨ v = 1
  · rw [if_pos hz1] at hv
    obtain ⟨q, hq, rfl⟩ := Option.map_eq_some_iff.mp hv
    obtain ⟨a, n, rfl, hc, hin, rfl⟩ := ca_spec hq
    have hn : narrow .boolean (.int v) = .int v := by rcases hz1 with q | q <;> rw [q] <;> rfl
    refine W.zast C.1 C.2.1 (a1.ar hc (by omega)) ((C.2.2.2.2.2.1.1.2 2 _ rfl).1 n _) (fun h => by cases h) (by rw [arrV_size]; exact hin) rfl rfl hd (fun H' x z o => ?_)
    rw [hn] at x
    exact kk p e R s m args below meth c mc ms Q C E H' _ cells slots ls (a1.ast hc (by omega) rfl rfl (sI_off h a _ v) (fun j => (fval_sI (t := .boolean) (Or.inr rfl) h a _ v j _ (fun _ => rfl)).symm) x z o) (locs_of a1 a2 hc) a3 a4 a5
  · rw [if_neg hz1] at hv
    cases hv
theorem g_aast {t : Nat} {j ci : Nat} {cn : String} {T : u_T} {N : Nat} (hg : (gT G)[j]? = some (gA G t, .object cn)) (hcl : vwCl[ci]? = some (cn, T, N)) (h9 : 9 ≤ t) (hci : ci < 9) (hft : ∀ k, fty t k = .object cn) {x : Option Nat} {i : Int32} {v : Option Nat} (hd : decode (mcod M) pc = .ok (.aastore, 1)) (hv : stR t ci h x i v = some h2) (kk : GO G M kc ks (pc + 1) L st h2 r h') : GO G M kc ks pc L (vr v :: vi i :: vr x :: st) h r h' := by
  intro p e R s m args below meth c mc ms Q C E H locs cells slots ls a1 a2 a3 a4 a5
  have hKj := C.2.2.2.2.2.1.1.2 j _ hg
  cases v with
  | none =>
    obtain ⟨q, hq, rfl⟩ := Option.map_eq_some_iff.mp hv
    obtain ⟨a, n, rfl, hc, hin, rfl⟩ := ca_spec hq
    refine va_WaastN (C := cn) C.1 C.2.1 (a1.ar hc h9) (hKj.1 n _) (fun h => by cases h) (by rw [arrV_size]; exact hin) rfl rfl hd (fun H' x z o => ?_)
    exact kk p e R s m args below meth c mc ms Q C E H' _ cells slots ls (a1.ast hc h9 rfl rfl (sR_off h a _ none) (fun j => (fval_sR (t := .object cn) (Or.inl ⟨_, rfl⟩) h a _ none j _ (fun _ => hft _)).symm) x z o) (locs_of a1 a2 hc) a3 a4 a5
  | some b =>
    unfold stR at hv
    by_cases hb : hk h b = some (ci, 0)
    · simp only [hb, if_true] at hv
      obtain ⟨q, hq, rfl⟩ := Option.map_eq_some_iff.mp hv
      obtain ⟨a, n, rfl, hc, hin, rfl⟩ := ca_spec hq
      have hlt : i.toNatClampNeg < n := Nat.not_le.mp fun q => hin (Or.inr q)
      have h0 : ¬ i < 0 := fun q => hin (Or.inl q)
      obtain ⟨cellV, g1, g2, g3, -⟩ := a1.ob hb hci
      have hcls := (C.2.2.2.2.2.1.1.1 ci _ hcl).2
      obtain ⟨kA, comp, k1, k2, k3, -⟩ := hKj.2
      have hcomp : comp = (gD G).1 ci := Option.some.inj (k3.symm.trans hcls.1)
      subst hcomp
      obtain ⟨kC, hkC, -⟩ := hcls.2
      refine W.aast C.1 C.2.1 (a1.ar hc h9) (fun q h => by cases h) (fun h => by cases h) k1 k2 rfl hkC ⟨h0, by rw [arrV_size]; exact hlt⟩ g1 (fun q h => by rw [g3] at h; cases h) (by rw [g2]; exact hkC) (by rw [g2]; exact va_assign hcls) rfl rfl hd (fun H' x z o => ?_)
      exact kk p e R s m args below meth c mc ms Q C E H' _ cells slots ls (a1.ast hc h9 rfl rfl (sR_off h a _ (some b)) (fun j => (fval_sR (t := .object cn) (Or.inl ⟨_, rfl⟩) h a _ (some b) j _ (fun _ => hft _)).symm) x z o) (locs_of a1 a2 hc) a3 a4 a5
    · simp only [hb, if_false] at hv
      cases hv
theorem g_new {idx ci N : Nat} {cn : String} {T : u_T} (hd : decode (mcod M) pc = .ok (.new idx, 3)) (F : CLk ci cn T N) (w1 : Cond.classLink (mown M) idx cn ∈ gw) (w2 : Cond.instantiable cn N ∈ gw) (w3 : Cond.initialized cn ∈ gw) (hty : ∀ k, k < N → okty (fty ci k) = true) (kk : GO G M kc ks (pc + 3) L (vr (some (hz h)) :: st) (nw h ci 0) r h') : GO G M (kc + 1) (ks + N) pc L st h r h' := by
  intro p e R s m args below meth c mc ms Q C E H locs cells slots ls a1 a2 a3 a4 a5
  obtain ⟨f1, f2, f3, f4, f5, f6⟩ := F
  have hKn := C.2.2.2.2.2.1.1.1 ci _ f1
  have hts := C.2.2.2.2.1
  have hmc := C.2.2.2.2.2.2.2.2.2
  refine W.newcK C.1 C.2.1 C.2.2.2.1 (hts _ w1) (hts _ w2) (hts _ w3) rfl hd (by omega) (by omega) hKn.2.1 a1.1.symm fun H1 kC hkC e1 z1 o1 => ?_
  refine kk p e R s m args below meth c mc ms Q C E H1 locs (cells + 1) (slots + N) ls (a1.push (by rw [z1, a1.1]) (fun q hq => o1 q (by rw [a1.1]; exact hq)) ?_) a2 (by omega) (by omega) a5
  unfold cok
  rw [if_neg (by omega), f2]
  have := u_born (fty ci) hts f5 hKn hkC e1 f4
  rw [a1.1] at this
  refine this.to (fun k hk => ?_)
  have e := okty_def (hty k hk) h ci 0 k
  rw [a1.1] at e
  exact e
theorem g_newa {atype : ArrayType} {t j B : Nat} {ty : FieldType} (hty : newarray.typeOf atype = ty) (hg : (gT G)[j]? = some (gA G t, ty)) (h9 : 9 ≤ t) (hft : ∀ k, fty t k = ty) (hok : okty ty = true) (hra : ∀ (U : State) (cA : ClassId), va_RA U cA ty → U.vm.findClass ("[" ++ ty.toString) = some cA) (hd : decode (mcod M) pc = .ok (.newarray atype, 2)) (w1 : Cond.arrayClass ty ∈ gw) {n : Int32} (hB : B ≤ 8000) (hcb : componentBytes ty ≤ 8) (hv : na t B h n = some h2) (kk : GO G M kc ks (pc + 2) L (vr (some (hz h)) :: st) h2 r h') : GO G M (kc + 1) (ks + B) pc L (vi n :: st) h r h' := by
  intro p e R s m args below meth c mc ms Q C E H locs cells slots ls a1 a2 a3 a4 a5
  subst hty
  unfold na at hv
  by_cases hn : ¬ n < 0 ∧ n.toNatClampNeg ≤ B
  · rw [if_pos hn] at hv
    cases hv
    have hts := C.2.2.2.2.1
    have hmc := C.2.2.2.2.2.2.2.2.2
    have hbb : n.toNatClampNeg * componentBytes (newarray.typeOf atype) ≤ 536870912 := Nat.le_trans (Nat.mul_le_mul (Nat.le_trans hn.2 hB) hcb) (by decide)
    refine va_newaK C.1 C.2.1 (hts _ w1) rfl hd rfl hn.1 rfl hbb (by omega) (by omega) a1.1.symm fun H1 cA e1 z1 o1 hAr hNm => ?_
    have hcA : cA = gA G t := Option.some.inj (hNm.symm.trans (hra s _ (C.2.2.2.2.2.1.1.2 j _ hg).2))
    subst hcA
    refine kk p e R s m args below meth c mc ms Q C E H1 locs (cells + 1) (slots + n.toNatClampNeg) ls (a1.push (by rw [z1, a1.1]) (fun q hq => o1 q (by rw [a1.1]; exact hq)) ?_) a2 (by omega) (by omega) a5
    unfold cok
    rw [if_pos h9, ← a1.1, e1]
    congr 2
    funext k
    rw [hft]
    exact okty_def hok h t _ k
  · rw [if_neg hn] at hv
    cases hv
theorem g_anew {idx t j B : Nat} {cn : String} (hg : (gT G)[j]? = some (gA G t, .object cn)) (h9 : 9 ≤ t) (hft : ∀ k, fty t k = .object cn) (hao : ∀ U, KK G U → va_AO cn U) (hd : decode (mcod M) pc = .ok (.anewarray idx, 3)) (w1 : Cond.classLink (mown M) idx cn ∈ gw) {n : Int32} (hB : B ≤ 8000) (hv : na t B h n = some h2) (kk : GO G M kc ks (pc + 3) L (vr (some (hz h)) :: st) h2 r h') : GO G M (kc + 1) (ks + B) pc L (vi n :: st) h r h' := by
  intro p e R s m args below meth c mc ms Q C E H locs cells slots ls a1 a2 a3 a4 a5
  unfold na at hv
  by_cases hn : ¬ n < 0 ∧ n.toNatClampNeg ≤ B
  · rw [if_pos hn] at hv
    cases hv
    have hts := C.2.2.2.2.1
    have hmc := C.2.2.2.2.2.2.2.2.2
    refine W.anew C.1 C.2.1 C.2.2.2.1 (hts _ w1) (va_AO.use (hao s C.2.2.2.2.2.1)) rfl hd rfl hn.1 (by omega) (by omega) (by omega) fun cA kA comp f1 f2 f3 f4 => ?_
    obtain ⟨kA', comp', -, -, -, f5⟩ := (C.2.2.2.2.2.1.1.2 j _ hg).2
    have hcA : cA = gA G t := Option.some.inj (f1.symm.trans f5)
    subst hcA
    rw [← a1.1]
    refine kk p e R s m args below meth c mc ms Q C E _ locs (cells + 1) (slots + n.toNatClampNeg) ls (a1.push (by rw [Array.size_push]) (fun q hq => by rw [Array.getElem?_push, if_neg (Nat.ne_of_lt hq)]) ?_) a2 (by omega) (by omega) a5
    unfold cok
    rw [if_pos h9, Array.getElem?_push_size, arrV_new]
    congr 2
    funext k
    rw [hft, ← a1.1]
    exact okty_def (t := .object cn) rfl h t _ k
  · rw [if_neg hn] at hv
    cases hv
theorem g_slen (hd : decode (mcod M) pc = .ok (.arraylength, 1)) (kk : GO G M kc ks (pc + 1) L (vi (nI (gsL G)) :: st) h r h') : GO G M kc ks pc L (vr (some (gsb G)) :: st) h r h' := by
  intro p e R s m args below meth c mc ms Q C E H locs cells slots ls a1 a2 a3 a4 a5
  obtain ⟨scr, h1, h2, h3, h4, h5⟩ := C.2.2.2.2.2.1.2.1
  exact W.alen (n := nI (gsL G)) C.1 C.2.1 (by rw [a1.2.2.1 _ a1.2.1.2]; exact h1) h2 (by rw [h4]; rfl) rfl rfl hd (kk p e R s m args below meth c mc ms Q C E H locs cells slots ls a1 a2 a3 a4 a5)
/-- the script's number at i -/
def lS (G : Gm) (i : Int32) : Option Int32 := if ¬ (i < 0 ∨ gsL G ≤ i.toNatClampNeg) then some (gsx G i.toNatClampNeg) else none
theorem g_sald {i v : Int32} (hd : decode (mcod M) pc = .ok (.iaload, 1)) (hv : lS G i = some v) (kk : GO G M kc ks (pc + 1) L (vi v :: st) h r h') : GO G M kc ks pc L (vi i :: vr (some (gsb G)) :: st) h r h' := by
  intro p e R s m args below meth c mc ms Q C E H locs cells slots ls a1 a2 a3 a4 a5
  obtain ⟨scr, h1, h2, h3, h4, h5⟩ := C.2.2.2.2.2.1.2.1
  unfold lS at hv
  by_cases hin : ¬ (i < 0 ∨ gsL G ≤ i.toNatClampNeg)
  · rw [if_pos hin] at hv
    cases hv
    have hlt : i.toNatClampNeg < gsL G := Nat.not_le.mp fun q => hin (Or.inr q)
    exact W.iald (v := .int (gsx G i.toNatClampNeg)) C.1 C.2.1 (by rw [a1.2.2.1 _ a1.2.1.2]; exact h1) h2 h3 (by rw [h4]; exact hin) (h5 _ hlt) rfl rfl hd (kk p e R s m args below meth c mc ms Q C E H locs cells slots ls a1 a2 a3 a4 a5)
  · rw [if_neg hin] at hv
    cases hv
end G4
/-! CORE 5: calls, the contract's start -/
def largs : Nat → List LV → LL
  | _, [] => []
  | i, v :: vs => (i, v) :: largs (if lcat v = 2 then i + 2 else i + 1) vs
theorem largs_map (as : List LV) : ∀ i, lv_args i (as.map tv) = (largs i as).map lvq := by
  induction as with
  | nil => intro i; rfl
  | cons v vs ih =>
    intro i
    simp only [List.map_cons, lv_args, largs, tv_cat, ih, lvq]
def lslots (as : List LV) : Nat := (as.map lcat).sum
theorem lslots_sl (as : List LV) : (lg_sl (as.map tv)).length = lslots as := by
  induction as with
  | nil => rfl
  | cons v vs ih =>
    have : lg_sl ((v :: vs).map tv) = (if (tv v).category = 2 then [Slot.val (tv v), .second] else [Slot.val (tv v)]) ++ lg_sl (vs.map tv) := rfl
    rw [this, List.length_append, ih, tv_cat]
    have h2 : lslots (v :: vs) = lcat v + lslots vs := rfl
    rw [h2]
    rcases v with x | x | x <;> simp [lcat]
theorem gw_mem {y : MethodName} {cc : ByteArray} {n : Nat} {ret : Option FieldType} (h : Cond.code y cc n ret ∈ gw) : ∀ w ∈ Cond.code y cc n ret :: gw, w ∈ gw ∧ ((w.onTables && w.keeps) = true ∨ ∃ ty, w = .arrayClass ty) := by
  intro w hw
  rcases List.mem_cons.mp hw with rfl | hw
  · exact gw_good _ h
  · exact gw_good _ hw
/-- a call's words -/
def CB (y : MethodName) (M' : MI) (ret' : Option FieldType) (n : Nat) : Prop := Cond.code y (mcod M') (mloc M') ret' ∈ gw ∧ Cond.initialized y.cls ∈ gw ∧ (y.cls ≠ "java/lang/invoke/MethodHandle" ∧ y.cls ≠ "java/lang/invoke/VarHandle") ∧ (parseMethodDescriptor y.desc).map (fun d => d.parameters.length) = some n ∧ mloc M' ≤ 16
def VWk (own : String) (idx ci : Nat) (y : MethodName) : Prop := Cond.methodLink own idx y ∈ gw ∧ Cond.instanceMethod y ∈ gw ∧ Cond.selects y.cls y y ∈ gw ∧ (vwCl[ci]?).map (fun q => q.1) = some y.cls ∧ ci < 9
section G5
variable {G : Gm} {M : MI} {kc ks pc pc2 : Nat} {L L2 : LL} {st st2 : List LV} {h h1 h2 h' : AH} {r : Option LV}
theorem pc_blind {as : List LV} : FrameBlind (va_Pc (as.map tv) (fun U => HL G h U.heap ∧ KK G U)) := fun a U g mk q => ⟨q.1, q.2.1, KK.calling q.2.2⟩
/-- what comes back from a call -/
theorem call_back {mc' ms' : Nat} {r1 : Option LV} {p : Program} {e : Env} {R : Room} {s : State} {m : MethodId} {args : Array Value} {below : List Frame} {meth : Method} {c : Code} {H : Heap} {locs : List Loc} {cells slots : Nat} {Q : State → Prop} {ls : Array Slot} {rest : List LV} {st0 : List Value}
    (run : va_Run p (gl G) e R s m args below meth c H locs cells slots mc' ms' (F0 m pc ls st0) (rest.map tv) (fun (_ : State) (o : Outcome) (t : State) => o = .returned (r1.map tv) ∧ HL G h1 t.heap) (fun a => gb G ≤ a)) (a2 : ∀ q ∈ locs, gb G ≤ q.base)
    (kk : ∀ (H1 : Heap) (locs1 : List Loc), HL G h1 H1 → (∀ q ∈ locs1, gb G ≤ q.base) → W p (gl G) e R s m args below meth c H1 locs1 (cells + mc') (slots + ms') Q (F0 m (pc + 3) ls ((r1.toList ++ rest).map tv))) : W p (gl G) e R s m args below meth c H locs cells slots Q (F0 m pc ls st0) := by
  intro T hT X
  obtain ⟨v, st₀, t, T', L', h0, X', hL, e1, e2, ⟨hv, hH⟩, st⟩ := run T hT X
  have hv' : v = r1.map tv := Outcome.returned.inj hv
  subst hv'
  obtain ⟨t2, b1, b2⟩ := kk T'.heap (locs ++ L') (by rw [e1]; exact hH) (fun q hq => by
    rcases List.mem_append.mp hq with h | h
    · exact a2 q h
    · exact hL q h) T' rfl X'
  refine ⟨t2, st t2 ?_, b2⟩
  have e : (r1.toList ++ rest).map tv = (r1.map tv).toList ++ rest.map tv := by cases r1 <;> rfl
  rw [e] at b1
  exact b1
theorem g_callV {idx ci n mc' ms' b : Nat} {y : MethodName} {M' : MI} {ret' : Option FieldType} {x : Option Nat} {as rest : List LV} {r1 : Option LV} (hd : decode (mcod M) pc = .ok (.invokevirtual idx, 3)) (B : CB y M' ret' n) (V : VWk (mown M) idx ci y) (hst : as.reverse ++ vr x :: rest = st) (hx : ck ci h x = some b) (hn : as.length = n) (hcs : csum rest ≤ 8) (hdp : mdep M' + 1 ≤ mdep M)
    (hc : CT G y M' ret' mc' ms' (vr (some b) :: as) h r1 h1) (kk : GO G M kc ks (pc + 3) L (r1.toList ++ rest) h1 r h') : GO G M (kc + mc') (ks + ms') pc L st h r h' := by
  intro p e R s m args below meth c mc ms Q C E H locs cells slots ls a1 a2 a3 a4 a5
  obtain ⟨rfl, hxb⟩ := ck_spec hx
  subst hst
  obtain ⟨b1, b2, b3, b4, b5⟩ := B
  obtain ⟨v1, v2, v3, v4, v5⟩ := V
  have hts := C.2.2.2.2.1
  have hC2 := C.2.2.2.2.2.2.2
  have hcw : CallW R s args (mown M) y.cls idx y (mcod M') (mloc M') ret' (Cond.code y (mcod M') (mloc M') ret' :: gw) { frames := mdep M', cells := mc', slots := ms', locals := 35 * mdep M' } mc' ms' n :=
    ⟨⟨rfl, rfl, by show mdep M' + 1 ≤ R.frames; omega, by show 8 + (mloc M' + 11) + 35 * mdep M' ≤ R.locals; omega, pay_in hts (gw_mem b1), List.mem_cons_self, hts _ b1, hts _ b2, b3, fun sig hs => by rw [hs] at b4; exact (Option.some.inj b4).symm, hts _ v1⟩, hts _ v2, hts _ v3⟩
  obtain ⟨cellB, g1, g2, g3, -⟩ := a1.ob hxb v5
  have hcl : s.vm.findClass y.cls = some cellB.cls := by
    cases hq : vwCl[ci]? with
    | none => rw [hq] at v4; cases v4
    | some q =>
      rw [hq] at v4
      have e1 : q.1 = y.cls := Option.some.inj v4
      have := (C.2.2.2.2.2.1.1.1 ci q hq).2.1
      rw [e1] at this
      rw [g2]
      exact this
  refine call_back (va_runV (n := n) (nL := mloc M) (Ts := gw) (As := as.map tv) (rest := rest.map tv) ⟨C.1, C.2.1, C.2.2.1, C.2.2.2.1, hts⟩ hc hcw ⟨pc_blind (as := vr (some b) :: as), ⟨cellB, g1, by rw [g3]; rfl, hcl⟩, fun U hU hW => ⟨rfl, by rw [hU]; exact a1, KK.warm hW C.2.2.2.2.2.1⟩⟩ rfl (by rw [List.length_map]; exact hn) a5.1 (by simp [tv, va_rf]) (by show 2 * 0 + _ ≤ 8; rw [csum_map]; omega) hd ⟨by omega, by omega⟩) a2 (fun H1 locs1 q1 q2 => ?_)
  exact kk p e R s m args below meth c mc ms Q C E H1 locs1 (cells + mc') (slots + ms') ls q1 q2 (by omega) (by omega) a5
theorem g_callS {idx n mc' ms' : Nat} {y : MethodName} {M' : MI} {ret' : Option FieldType} {as rest : List LV} {r1 : Option LV} (hd : decode (mcod M) pc = .ok (.invokestatic idx, 3)) (B : CB y M' ret' n) (v1 : Cond.methodLink (mown M) idx y ∈ gw) (v2 : Cond.static y ∈ gw) (hst : as.reverse ++ rest = st) (hn : as.length = n) (hcs : csum rest ≤ 8) (hdp : mdep M' + 1 ≤ mdep M)
    (hc : CT G y M' ret' mc' ms' as h r1 h1) (kk : GO G M kc ks (pc + 3) L (r1.toList ++ rest) h1 r h') : GO G M (kc + mc') (ks + ms') pc L st h r h' := by
  intro p e R s m args below meth c mc ms Q C E H locs cells slots ls a1 a2 a3 a4 a5
  subst hst
  obtain ⟨b1, b2, b3, b4, b5⟩ := B
  have hts := C.2.2.2.2.1
  have hC2 := C.2.2.2.2.2.2.2
  have hcw : CallB R s args (mown M) idx y (mcod M') (mloc M') ret' (Cond.code y (mcod M') (mloc M') ret' :: gw) { frames := mdep M', cells := mc', slots := ms', locals := 35 * mdep M' } mc' ms' n ∧ (Cond.static y).before args s = true :=
    ⟨⟨rfl, rfl, by show mdep M' + 1 ≤ R.frames; omega, by show 8 + (mloc M' + 11) + 35 * mdep M' ≤ R.locals; omega, pay_in hts (gw_mem b1), List.mem_cons_self, hts _ b1, hts _ b2, b3, fun sig hs => by rw [hs] at b4; exact (Option.some.inj b4).symm, hts _ v1⟩, hts _ v2⟩
  refine call_back (va_runS (n := n) (nL := mloc M) (Ts := gw) (As := as.map tv) (rest := rest.map tv) ⟨C.1, C.2.1, C.2.2.1, C.2.2.2.1, hts⟩ hc hcw ⟨pc_blind (as := as), fun U hU hW => ⟨rfl, by rw [hU]; exact a1, KK.warm hW C.2.2.2.2.2.1⟩⟩ rfl (by rw [List.length_map]; exact hn) a5.1 (by simp) (by show 2 * 0 + _ ≤ 8; rw [csum_map]; omega) hd ⟨by omega, by omega⟩) a2 (fun H1 locs1 q1 q2 => ?_)
  exact kk p e R s m args below meth c mc ms Q C E H1 locs1 (cells + mc') (slots + ms') ls q1 q2 (by omega) (by omega) a5
theorem g_callN {n mc' ms' : Nat} {M' : MI} {ret' : Option FieldType} {as rest : List LV} {r1 : Option LV} (hd : decode (mcod M) pc = .ok (.invokestatic 68, 3)) (hM : mown M = RX3) (B : CB yX7_numberOf M' ret' n) (v2 : Cond.static yX7_numberOf ∈ gw) (hst : as.reverse ++ rest = st) (hn : as.length = n) (hcs : csum rest ≤ 8) (hdp : mdep M' + 1 ≤ mdep M)
    (hc : CT G yX7_numberOf M' ret' mc' ms' as h r1 h1) (kk : GO G M kc ks (pc + 3) L (r1.toList ++ rest) h1 r h') : GO G M (kc + mc') (ks + ms') pc L st h r h' := by
  intro p e R s m args below meth c mc ms Q C E H locs cells slots ls a1 a2 a3 a4 a5
  subst hst
  obtain ⟨b1, b2, b3, b4, b5⟩ := B
  have hts := C.2.2.2.2.1
  have hC2 := C.2.2.2.2.2.2.2
  have hnw : (nestW).before args s = true := va_Nw.use rfl C.2.2.2.2.2.1.2.2.1
  have hcw : va_CN R s args (mown M) 68 yX7_numberOf RX7 (mcod M') (mloc M') ret' (Cond.code yX7_numberOf (mcod M') (mloc M') ret' :: gw) { frames := mdep M', cells := mc', slots := ms', locals := 35 * mdep M' } mc' ms' n ∧ (Cond.static yX7_numberOf).before args s = true ∧ True :=
    ⟨⟨⟨rfl, rfl, by show mdep M' + 1 ≤ R.frames; omega, by show 8 + (mloc M' + 11) + 35 * mdep M' ≤ R.locals; omega, pay_in hts (gw_mem b1), List.mem_cons_self⟩, hts _ b1, hts _ b2, b3, fun sig hs => by rw [hs] at b4; exact (Option.some.inj b4).symm, by rw [hM]; exact hnw⟩, hts _ v2, trivial⟩
  refine call_back (va_runSN (n := n) (nL := mloc M) (Ts := gw) (As := as.map tv) (rest := rest.map tv) ⟨C.1, C.2.1, C.2.2.1, C.2.2.2.1, hts⟩ hc hcw ⟨pc_blind (as := as), fun U hU hW => ⟨rfl, by rw [hU]; exact a1, KK.warm hW C.2.2.2.2.2.1⟩⟩ rfl (by rw [List.length_map]; exact hn) a5.1 (by simp) (by show 2 * 0 + _ ≤ 8; rw [csum_map]; omega) hd ⟨by omega, by omega⟩) a2 (fun H1 locs1 q1 q2 => ?_)
  exact kk p e R s m args below meth c mc ms Q C E H1 locs1 (cells + mc') (slots + ms') ls q1 q2 (by omega) (by omega) a5
theorem g_callI {idx n mc' ms' b : Nat} {y : MethodName} {M' : MI} {as rest : List LV} (hd : decode (mcod M) pc = .ok (.invokespecial idx, 3)) (B : CB y M' none n) (v1 : Cond.methodLink (mown M) idx y ∈ gw) (v2 : Cond.instanceMethod y ∈ gw) (hy : y.name = "<init>") (hst : as.reverse ++ vr (some b) :: rest = st) (hn : as.length = n) (hcs : csum rest ≤ 8) (hdp : mdep M' + 1 ≤ mdep M)
    (hc : CT G y M' none mc' ms' (vr (some b) :: as) h none h1) (kk : GO G M kc ks (pc + 3) L rest h1 r h') : GO G M (kc + mc') (ks + ms') pc L st h r h' := by
  intro p e R s m args below meth c mc ms Q C E H locs cells slots ls a1 a2 a3 a4 a5
  subst hst
  obtain ⟨b1, b2, b3, b4, b5⟩ := B
  have hts := C.2.2.2.2.1
  have hC2 := C.2.2.2.2.2.2.2
  have hcw : CallB R s args (mown M) idx y (mcod M') (mloc M') none (Cond.code y (mcod M') (mloc M') none :: gw) { frames := mdep M', cells := mc', slots := ms', locals := 35 * mdep M' } mc' ms' n ∧ y.name = "<init>" ∧ (Cond.instanceMethod y).before args s = true :=
    ⟨⟨rfl, rfl, by show mdep M' + 1 ≤ R.frames; omega, by show 8 + (mloc M' + 11) + 35 * mdep M' ≤ R.locals; omega, pay_in hts (gw_mem b1), List.mem_cons_self, hts _ b1, hts _ b2, b3, fun sig hs => by rw [hs] at b4; exact (Option.some.inj b4).symm, hts _ v1⟩, hy, hts _ v2⟩
  refine call_back (r1 := none) (va_runI (n := n) (nL := mloc M) (Ts := gw) (As := as.map tv) (rest := rest.map tv) (b := b) ⟨C.1, C.2.1, C.2.2.1, C.2.2.2.1, hts⟩ hc hcw ⟨pc_blind (as := vr (some b) :: as), fun U hU hW => ⟨rfl, by rw [hU]; exact a1, KK.warm hW C.2.2.2.2.2.1⟩⟩ rfl (by rw [List.length_map]; exact hn) a5.1 (by simp [tv, va_rf]) (by show 2 * 0 + _ ≤ 8; rw [csum_map]; omega) hd ⟨by omega, by omega⟩) a2 (fun H1 locs1 q1 q2 => ?_)
  exact kk p e R s m args below meth c mc ms Q C E H1 locs1 (cells + mc') (slots + ms') ls q1 q2 (by omega) (by omega) a5
theorem g_obj {idx a : Nat} (hd : decode (mcod M) pc = .ok (.invokespecial idx, 3)) (v1 : Cond.methodLink (mown M) idx objectInit ∈ gw) (v2 : Cond.instanceMethod objectInit ∈ gw) (v3 : Cond.code objectInit ⟨#[0xb1]⟩ 1 none ∈ gw) (hcs : csum st ≤ 8) (hdp : 1 ≤ mdep M) (kk : GO G M kc ks (pc + 3) L st h r h') : GO G M kc ks pc L (vr (some a) :: st) h r h' := by
  intro p e R s m args below meth c mc ms Q C E H locs cells slots ls a1 a2 a3 a4 a5
  have hts := C.2.2.2.2.1
  have hC2 := C.2.2.2.2.2.2.2
  exact W.objInit C.1 C.2.1 C.2.2.2.1 (hts _ v1) (hts _ v2) (hts _ v3) rfl (by rw [C.2.2.1]; exact a5.1) rfl hd (by omega) (by show 2 * 0 + _ + 12 ≤ _; rw [csum_map]; omega) (kk p e R s m args below meth c mc ms Q C E H locs cells slots ls a1 a2 a3 a4 a5)
theorem g_min {idx : Nat} {x y : Int32} (hd : decode (mcod M) pc = .ok (.invokestatic idx, 3)) (v1 : Cond.methodLink (mown M) idx Lib.Math.min.name ∈ gw) (v2 : Cond.static Lib.Math.min.name ∈ gw) (v3 : Cond.initialized "java/lang/Math" ∈ gw) (v4 : Cond.code Lib.Math.min.name Lib.Math.min.code 2 (some .int) ∈ gw) (hcs : csum st ≤ 8) (hdp : 1 ≤ mdep M) (kk : GO G M kc ks (pc + 3) L (vi (if y < x then y else x) :: st) h r h') : GO G M kc ks pc L (vi y :: vi x :: st) h r h' := by
  intro p e R s m args below meth c mc ms Q C E H locs cells slots ls a1 a2 a3 a4 a5
  have hts := C.2.2.2.2.1
  have hC2 := C.2.2.2.2.2.2.2
  exact va_mmin C.1 C.2.1 (C.2.2.1.trans a5.1.symm) C.2.2.2.1 (hts _ v1) (hts _ v2) (hts _ v3) (hts _ v4) (by omega) (by rw [csum_map]; omega) (by omega) (by omega) hd (kk p e R s m args below meth c mc ms Q C E H locs cells slots ls a1 a2 a3 a4 a5)
theorem g_acp {idx : Nat} {x x' : Option Nat} {i j n : Int32} (hd : decode (mcod M) pc = .ok (.invokestatic idx, 3)) (v1 : Cond.methodLink (mown M) idx arraycopyName ∈ gw) (v2 : Cond.native arraycopyName ∈ gw) (v3 : Cond.static arraycopyName ∈ gw) (v4 : Cond.initialized "java/lang/System" ∈ gw) (hnf : nativeFrameWords "java/lang/System" "arraycopy" 5 + 11 + 8 ≤ 35) (hcs : csum st ≤ 8) (hdp : 1 ≤ mdep M) (hv : acp h x i x' j n = some h2) (kk : GO G M kc ks (pc + 3) L st h2 r h') : GO G M kc ks pc L (vi n :: vi j :: vr x' :: vi i :: vr x :: st) h r h' := by
  intro p e R s m args below meth c mc ms Q C E H locs cells slots ls a1 a2 a3 a4 a5
  have hts := C.2.2.2.2.1
  have hC2 := C.2.2.2.2.2.2.2
  cases x with
  | none => cases hv
  | some a =>
  cases x' with
  | none => cases hv
  | some b =>
  unfold acp at hv
  cases hca : hk h a with
  | none => simp [hca] at hv
  | some tn =>
  cases hcb : hk h b with
  | none => simp [hca, hcb] at hv
  | some tn' =>
  obtain ⟨t, n0⟩ := tn
  obtain ⟨t', n1⟩ := tn'
  simp only [hca, hcb] at hv
  by_cases hcd : (t = 11 ∧ t' = 11) ∧ (¬ i < 0 ∧ ¬ j < 0 ∧ ¬ n < 0) ∧ i.toNatClampNeg + n.toNatClampNeg ≤ n0 ∧ j.toNatClampNeg + n.toNatClampNeg ≤ n1
  · rw [if_pos hcd] at hv
    cases hv
    obtain ⟨⟨rfl, rfl⟩, ⟨g1, g2, g3⟩, g4, g5⟩ := hcd
    have hc0 := a1.ar hca (by omega)
    have hc1 := a1.ar hcb (by omega)
    have nn : ∀ z : Int32, ¬ z < 0 → z.toInt = (z.toNatClampNeg : Int) := by
      intro z hz
      have hz0 : (0 : Int) ≤ z.toInt := by
        have := Int32.not_lt.mp hz
        simpa using Int32.le_iff_toInt_le.mp this
      show z.toInt = ((z.toInt.toNat : Nat) : Int)
      omega
    have hKl := C.2.2.2.2.2.1.1.2 1 _ rfl
    obtain ⟨-, k0, hk0, cm0, hkk0⟩ := hKl.1 n0 (fun k => fval (fty 11 k) h a k)
    obtain ⟨-, k1, hk1, cm1, hkk1⟩ := hKl.1 n1 (fun k => fval (fty 11 k) h b k)
    intro T hT X
    obtain ⟨vm', X', step⟩ := X.arraycopy C.1 C.2.2.2.1 (hts _ v1) (hts _ v2) (hts _ v3) (hts _ v4) (src := a) (dst := b) (cs := arrV (gA G 11) n0 (fun k => fval (fty 11 k) h a k)) (cd := arrV (gA G 11) n1 (fun k => fval (fty 11 k) h b k)) (srcPos := i) (destPos := j) (n := n) (by rw [hT]; exact hc0) (by rw [hT]; exact hc1)
      (fun _ h => by cases h) (fun _ h => by cases h) (fun h => by cases h) (fun h => by cases h) hk0 hk1 hkk0 hkk1 (by rfl) g1 g2 g3
      (by rw [nn i g1, nn n g3, arrV_size]; omega) (by rw [nn j g2, nn n g3, arrV_size]; omega)
      (fun vm₁ _ q hq => by
        have e : (arrV (gA G 11) n0 (fun k => fval (fty 11 k) h a k)).slots.getD (i.toNatClampNeg + q) .null = .long (hJ h a (i.toNatClampNeg + q)) := by
          rw [Array.getD_eq_getD_getElem?, arrV_read _ _ (by omega)]
          rfl
        refine ⟨?_, ?_⟩
        · rw [e]
          rfl
        · rw [e]
          exact trivial)
      (g := F0 m pc ls (.int n :: .int j :: .ref b :: .int i :: .ref a :: st.map tv)) rfl (by rw [C.2.2.1]; exact a5.1) (rest := st.map tv) rfl (by rw [C.2.1]; exact hd) (by omega) (by show 2 * 0 + _ + _ ≤ _; rw [csum_map]; omega)
    have e1 : copied (arrV (gA G 11) n0 (fun k => fval (fty 11 k) h a k)) (arrV (gA G 11) n1 (fun k => fval (fty 11 k) h b k)) i j n = arrV (gA G 11) n1 (fun k => .long (va_cpy (hJ h a) (hJ h b) i.toNatClampNeg j.toNatClampNeg n.toNatClampNeg k)) := va_copied (fun z => .long z) (gA G 11) (gA G 11) (hJ h a) (hJ h b) g4
    rw [e1] at X' step
    have hl : b < H.size := (Array.getElem?_eq_some_iff.mp hc1).1
    have hheap : ((T.setVm vm').setCell b (arrV (gA G 11) n1 (fun k => .long (va_cpy (hJ h a) (hJ h b) i.toNatClampNeg j.toNatClampNeg n.toNatClampNeg k)))).heap = H.setIfInBounds b (arrV (gA G 11) n1 (fun k => .long (va_cpy (hJ h a) (hJ h b) i.toNatClampNeg j.toNatClampNeg n.toNatClampNeg k))) := by rw [← hT]; rfl
    have hHL : HL G (cpJ h a i.toNatClampNeg b j.toNatClampNeg n.toNatClampNeg) (H.setIfInBounds b (arrV (gA G 11) n1 (fun k => .long (va_cpy (hJ h a) (hJ h b) i.toNatClampNeg j.toNatClampNeg n.toNatClampNeg k)))) := by
      refine HL.upd (a := b) a1 rfl rfl (fun b' hb' k => ⟨rfl, by simp [hJ, cpJ, hb'], rfl⟩) (by simp) (fun q hq => by simp [Array.getElem?_setIfInBounds, Ne.symm hq]) (a1.2.2.2 b _ _ hcb).1 (fun ci' n' hc' => ?_)
      rw [hcb] at hc'
      cases hc'
      unfold cok
      rw [if_pos (by omega)]
      simp only [Array.getElem?_setIfInBounds, hl, if_true]
      congr 2
      funext k
      simp [fty, fval, hJ, cpJ]
    obtain ⟨t, b1, b2⟩ := kk p e R s m args below meth c mc ms Q C E _ (locs ++ _) cells slots ls hHL (fun q hq => by
      rcases List.mem_append.mp hq with h | h
      · exact a2 q h
      · obtain ⟨z, -, hz⟩ := List.mem_map.mp h
        rw [← hz]
        exact (a1.2.2.2 b _ _ hcb).1) a3 a4 a5 _ hheap X'
    exact ⟨t, step t b1, b2⟩
  · rw [if_neg hcd] at hv
    cases hv
/-- a contract out of a walk from the method's entry -/
theorem CT.mk {y : MethodName} {ret : Option FieldType} {mc ms : Nat} {as : List LV} (hy : plainName y.cls = true) (hown : mown M = y.cls) (hnm : mnam M = y.name) (hlen : lslots as ≤ mloc M)
    (hq : ∀ (p : Program) (e : Env) (R : Room) (s : State) (m : MethodId) (args : Array Value) (below : List Frame) (meth : Method) (c : Code), p.tables.exec = Jvm.exec → c.code = mcod M → meth.sig.returnType = ret → meth.locks = false → EN G M p e R s m args below meth c mc ms (MQ below (fun _ _ o t => o = .returned (r.map tv) ∧ HL G h' t.heap) args s mc ms (fun a => gb G ≤ a)) r h')
    (k : GO G M mc ms 0 (largs 0 as) [] h r h') : CT G y M ret mc ms as h r h' := by
  refine Met.ofW (cc := mcod M) (maxL := mloc M) (ret := ret) hy rfl ?_
  intro p e s m args below meth c s₁ B hml hv
  obtain ⟨rfl, hH, hK⟩ := hv
  have hts := atoms_spec (ws := Cond.code y (mcod M) (mloc M) ret :: gw) B.pre
  rw [lg_entry_eq]
  have hl := lv_entry (as.map tv) (n := mloc M) (by rw [lslots_sl]; exact hlen)
  rw [largs_map] at hl
  exact k p e _ s m _ below meth c mc ms _ ⟨B.exec, B.bytes, hml, by rw [hown]; exact findClass_of_methodNamed B.named, fun w hw => hts w (List.mem_cons_of_mem _ hw), hK, (name_of_methodNamed B.named B.method).1.trans hnm.symm, Nat.le_refl _, Nat.le_refl _, Nat.le_refl _, Nat.le_refl _⟩
    (hq p e _ s m _ below meth c B.exec B.bytes B.returns B.notSynchronized) s.heap [] 0 0 _ hH (fun _ h => by cases h) (by omega) (by omega) hl
theorem CT.int {y : MethodName} {mc ms : Nat} {as : List LV} {v : Int32} (hy : plainName y.cls = true) (hown : mown M = y.cls) (hnm : mnam M = y.name) (hri : mri M = .ireturn) (hlen : lslots as ≤ mloc M) (k : GO G M mc ms 0 (largs 0 as) [] h (some (vi v)) h') : CT G y M (some .int) mc ms as h (some (vi v)) h' :=
  CT.mk hy hown hnm hlen (fun p e R s m args below meth c hx hb hr hlk H locs ls pc hd hH hl => W.iret (v := v) hx hb hr (fun t ht hW => ⟨rfl, by rw [ht]; exact hH⟩) hl (by rw [← hri]; exact hd) hlk) k
theorem CT.bool {y : MethodName} {mc ms : Nat} {as : List LV} {v : Int32} (hy : plainName y.cls = true) (hown : mown M = y.cls) (hnm : mnam M = y.name) (hri : mri M = .ireturn) (hlen : lslots as ≤ mloc M) (hv : v = 0 ∨ v = 1) (k : GO G M mc ms 0 (largs 0 as) [] h (some (vi v)) h') : CT G y M (some .boolean) mc ms as h (some (vi v)) h' :=
  CT.mk hy hown hnm hlen (fun p e R s m args below meth c hx hb hr hlk H locs ls pc hd hH hl => W.zret (v := v) (ty := .boolean) hx hb hr (by rcases hv with q | q <;> rw [q] <;> rfl) (fun t ht hW => ⟨rfl, by rw [ht]; exact hH⟩) hl (by rw [← hri]; exact hd) hlk) k
theorem CT.long {y : MethodName} {mc ms : Nat} {as : List LV} {v : Int64} (hy : plainName y.cls = true) (hown : mown M = y.cls) (hnm : mnam M = y.name) (hri : mri M = .lreturn) (hlen : lslots as ≤ mloc M) (k : GO G M mc ms 0 (largs 0 as) [] h (some (vl v)) h') : CT G y M (some .long) mc ms as h (some (vl v)) h' :=
  CT.mk hy hown hnm hlen (fun p e R s m args below meth c hx hb hr hlk H locs ls pc hd hH hl => W.lret (v := v) hx hb hr (fun t ht hW => ⟨rfl, by rw [ht]; exact hH⟩) hl (by rw [← hri]; exact hd) hlk) k
theorem CT.void {y : MethodName} {mc ms : Nat} {as : List LV} (hy : plainName y.cls = true) (hown : mown M = y.cls) (hnm : mnam M = y.name) (hri : mri M = .return_) (hlen : lslots as ≤ mloc M) (k : GO G M mc ms 0 (largs 0 as) [] h none h') : CT G y M none mc ms as h none h' :=
  CT.mk hy hown hnm hlen (fun p e R s m args below meth c hx hb hr hlk H locs ls pc hd hH hl => W.vret hx hb hr (fun t ht hW => ⟨rfl, by rw [ht]; exact hH⟩) hl (by rw [← hri]; exact hd) hlk) k
theorem CT.ref {y : MethodName} {mc ms : Nat} {as : List LV} {v : Option Nat} {cn : String} (hy : plainName y.cls = true) (hown : mown M = y.cls) (hnm : mnam M = y.name) (hri : mri M = .areturn) (hlen : lslots as ≤ mloc M) (k : GO G M mc ms 0 (largs 0 as) [] h (some (vr v)) h') : CT G y M (some (.object cn)) mc ms as h (some (vr v)) h' :=
  CT.mk hy hown hnm hlen (fun p e R s m args below meth c hx hb hr hlk H locs ls pc hd hH hl => W.aret (v := va_rf v) (rt := .object cn) hx hb hr (Or.inl ⟨_, rfl⟩) (by cases v <;> simp [va_rf]) (fun t ht hW => ⟨rfl, by rw [ht]; exact hH⟩) hl (by rw [← hri]; exact hd) hlk) k
end G5
end
section
/-! SHALLOW: what stands ahead of the methods -/
def FU : Nat := 1000
def b2i (b : Bool) : Int32 := match b with
  | true => 1
  | false => 0
theorem b2i_01 (b : Bool) : b2i b = 0 ∨ b2i b = 1 := by cases b <;> simp [b2i]
def zB (v : Int32) : Option Bool := if v = 1 then some true else if v = 0 then some false else none
theorem zB_spec {v : Int32} {b : Bool} (h : zB v = some b) : v = b2i b := by
  unfold zB at h
  by_cases h1 : v = 1
  · rw [if_pos h1] at h
    cases h
    exact h1
  · rw [if_neg h1] at h
    by_cases h0 : v = 0
    · rw [if_pos h0] at h
      cases h
      exact h0
    · rw [if_neg h0] at h
      cases h
theorem bd {α β : Type} {o : Option α} {f : α → Option β} {b : β} (h : o.bind f = some b) : ∃ a, o = some a ∧ f a = some b := Option.bind_eq_some_iff.mp h
theorem ift {c : Prop} {i : Decidable c} {α : Type} {a b : Option α} {x : α} (h : (@ite _ c i a b) = some x) (q : c) : a = some x := by rw [if_pos q] at h; exact h
theorem iff_ {c : Prop} {i : Decidable c} {α : Type} {a b : Option α} {x : α} (h : (@ite _ c i a b) = some x) (q : ¬ c) : b = some x := by rw [if_neg q] at h; exact h
def neqs (x : Int32) : Nat → Nat → Prop
  | _, 0 => True
  | k, n + 1 => ¬ x = nI k ∧ neqs x (k + 1) n
theorem neqs_of {x : Int32} : ∀ (n k : Nat), neqs x k n → ∀ j, k ≤ j → j < k + n → ¬ x = nI j := by
  intro n
  induction n with
  | zero => intro k _ j h1 h2; omega
  | succ n ih =>
    intro k h j h1 h2
    by_cases hj : j = k
    · rw [hj]
      exact h.1
    · exact ih (k + 1) h.2 j (by omega) (by omega)
theorem sw_def {x : Int32} (n : Nat) (h : neqs x 0 n) {hi : Int} (hn : n < 1000 := by decide) (hh : hi = (n : Int) - 1 := by decide) : x.toInt < 0 ∨ hi < x.toInt := by
  rcases Int.lt_or_le x.toInt 0 with q | q
  · exact Or.inl q
  · refine Or.inr ?_
    rcases Int.lt_or_le hi x.toInt with q2 | q2
    · exact q2
    · exfalso
      refine neqs_of n 0 h x.toInt.toNat (Nat.zero_le _) (by omega) ?_
      refine Int32.toInt_inj.mp ?_
      rw [nI_toInt (by omega)]
      omega
end
section
abbrev mX5_init : MI := (RX5, "<init>", cX5_init, 1, .return_, 1)
def f_X5_init (a0 : Nat) (h : AH) : Option AH :=
  (na 13 30 h (30 : Int32)).bind fun h1 =>
  (pR 5 0 h1 (some a0) (some (hz h))).bind fun h2 =>
  some h2
theorem x_X5_init (G : Gm) (a0 : Nat) (h : AH) (o : AH) (hf : f_X5_init a0 h = some o) : GO G mX5_init 1 30 0 [(0, vr (some a0))] [] h none o := by
  unfold f_X5_init at hf
  refine g_aload_n dX5_init_0 rfl 0 rfl ?_
  refine g_obj dX5_init_1 mlRX5_3 im_objectInit cd_objectInit (Nat.le_of_ble_eq_true rfl) (by decide) ?_
  refine g_aload_n dX5_init_4 rfl 0 rfl ?_
  refine g_bipush (v := 30) dX5_init_5 rfl ?_
  obtain ⟨h1, eh1, hf⟩ := bd hf
  refine g_anew (kc := 0) (ks := 0) (t := 13) (j := 3) (cn := RX3) rfl (Nat.le_of_ble_eq_true rfl) (fun _ => rfl) (fun _ z => z.2.2.2.1) dX5_init_7 clRX5_9 (Nat.le_of_ble_eq_true rfl) eh1 ?_
  obtain ⟨h2, eh2, hf⟩ := bd hf
  refine g_putRF dX5_init_10 flRX5_11 rfl rfl (Or.inr ⟨_, rfl⟩) eh2 ?_
  cases hf
  exact g_ret dX5_init_13 rfl
theorem c_X5_init (G : Gm) (a0 : Nat) (h : AH) (o : AH) (hf : f_X5_init a0 h = some o) : CT G yX5_init mX5_init none 1 30 [vr (some a0)] h none o :=
  CT.void (by decide +kernel) rfl rfl rfl (Nat.le_of_ble_eq_true rfl) (x_X5_init G a0 h o hf)
theorem cbX5_init : CB yX5_init mX5_init none 0 := ⟨cd_yX5_init, itRX5, ⟨by decide, by decide⟩, by decide +kernel, by decide⟩
end
