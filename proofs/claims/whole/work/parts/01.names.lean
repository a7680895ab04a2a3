-- ===== PART A: goes FIRST, ahead of the names: the tables' words, and 'selects' of the private methods out of them =====
/-- a private method of a class that the tables say can be made, by its rows of tables_1 -/
def lw_okq (q : MethodName × Nat) : Prop := (q.1.cls ≠ "java/lang/invoke/MethodHandle" ∧ q.1.cls ≠ "java/lang/invoke/VarHandle") ∧ Cond.instantiable q.1.cls q.2 ∈ tables_1 ∧ Cond.privateMethod q.1 ∈ tables_1 ∧ Cond.instanceMethod q.1 ∈ tables_1
theorem lw_p0 : lw_okq (⟨"FenceYards", "reads", "(I)Z"⟩, 18) := ⟨⟨by decide +kernel, by decide +kernel⟩, List.mem_of_getElem? (i := 28) (by decide +kernel), List.mem_of_getElem? (i := 446) (by decide +kernel), List.mem_of_getElem? (i := 447) (by decide +kernel)⟩
theorem lw_p1 : lw_okq (⟨"FenceYards$Village", "readClause", "(LFenceYards$Tape;)Z"⟩, 11) := ⟨⟨by decide +kernel, by decide +kernel⟩, List.mem_of_getElem? (i := 64) (by decide +kernel), List.mem_of_getElem? (i := 454) (by decide +kernel), List.mem_of_getElem? (i := 455) (by decide +kernel)⟩
theorem lw_p2 : lw_okq (⟨"FenceYards$Village", "readRules", "(LFenceYards$Tape;)Z"⟩, 11) := ⟨⟨by decide +kernel, by decide +kernel⟩, List.mem_of_getElem? (i := 64) (by decide +kernel), List.mem_of_getElem? (i := 462) (by decide +kernel), List.mem_of_getElem? (i := 463) (by decide +kernel)⟩
theorem lw_p3 : lw_okq (⟨"FenceYards$Village", "readItems", "(LFenceYards$Tape;Ljava/lang/String;[I)Z"⟩, 11) := ⟨⟨by decide +kernel, by decide +kernel⟩, List.mem_of_getElem? (i := 64) (by decide +kernel), List.mem_of_getElem? (i := 469) (by decide +kernel), List.mem_of_getElem? (i := 470) (by decide +kernel)⟩
theorem lw_p4 : lw_okq (⟨"FenceYards$Tape", "atDigit", "()Z"⟩, 3) := ⟨⟨by decide +kernel, by decide +kernel⟩, List.mem_of_getElem? (i := 36) (by decide +kernel), List.mem_of_getElem? (i := 565) (by decide +kernel), List.mem_of_getElem? (i := 566) (by decide +kernel)⟩
theorem lw_p5 : lw_okq (⟨"FenceYards$Village", "readFarm", "(LFenceYards$Tape;)Z"⟩, 11) := ⟨⟨by decide +kernel, by decide +kernel⟩, List.mem_of_getElem? (i := 64) (by decide +kernel), List.mem_of_getElem? (i := 569) (by decide +kernel), List.mem_of_getElem? (i := 570) (by decide +kernel)⟩
theorem lw_p6 : lw_okq (⟨"FenceYards$Village", "readWrong", "(LFenceYards$Tape;)Z"⟩, 11) := ⟨⟨by decide +kernel, by decide +kernel⟩, List.mem_of_getElem? (i := 64) (by decide +kernel), List.mem_of_getElem? (i := 576) (by decide +kernel), List.mem_of_getElem? (i := 577) (by decide +kernel)⟩
theorem lw_p7 : lw_okq (⟨"FenceYards$Village", "isWhole", "()Z"⟩, 11) := ⟨⟨by decide +kernel, by decide +kernel⟩, List.mem_of_getElem? (i := 64) (by decide +kernel), List.mem_of_getElem? (i := 583) (by decide +kernel), List.mem_of_getElem? (i := 584) (by decide +kernel)⟩
theorem lw_p8 : lw_okq (⟨"FenceYards$LawReader", "readClause", "()Z"⟩, 3) := ⟨⟨by decide +kernel, by decide +kernel⟩, List.mem_of_getElem? (i := 323) (by decide +kernel), List.mem_of_getElem? (i := 599) (by decide +kernel), List.mem_of_getElem? (i := 600) (by decide +kernel)⟩
theorem lw_p9 : lw_okq (⟨"FenceYards$LawReader", "readRow", "(IIZ)Z"⟩, 3) := ⟨⟨by decide +kernel, by decide +kernel⟩, List.mem_of_getElem? (i := 323) (by decide +kernel), List.mem_of_getElem? (i := 605) (by decide +kernel), List.mem_of_getElem? (i := 606) (by decide +kernel)⟩
theorem lw_p10 : lw_okq (⟨"FenceYards$LawReader", "readUnit", "(IZ)Z"⟩, 3) := ⟨⟨by decide +kernel, by decide +kernel⟩, List.mem_of_getElem? (i := 323) (by decide +kernel), List.mem_of_getElem? (i := 609) (by decide +kernel), List.mem_of_getElem? (i := 610) (by decide +kernel)⟩
theorem lw_p11 : lw_okq (⟨"FenceYards$LawReader", "emit", "(I)Z"⟩, 3) := ⟨⟨by decide +kernel, by decide +kernel⟩, List.mem_of_getElem? (i := 323) (by decide +kernel), List.mem_of_getElem? (i := 613) (by decide +kernel), List.mem_of_getElem? (i := 614) (by decide +kernel)⟩
theorem lw_p12 : lw_okq (⟨"FenceYards$LawReader", "readAtom", "(I)Z"⟩, 3) := ⟨⟨by decide +kernel, by decide +kernel⟩, List.mem_of_getElem? (i := 323) (by decide +kernel), List.mem_of_getElem? (i := 620) (by decide +kernel), List.mem_of_getElem? (i := 621) (by decide +kernel)⟩
theorem lw_p13 : lw_okq (⟨"FenceYards$Spring", "readStep", "(LFenceYards$Tape;I)Z"⟩, 4) := ⟨⟨by decide +kernel, by decide +kernel⟩, List.mem_of_getElem? (i := 346) (by decide +kernel), List.mem_of_getElem? (i := 634) (by decide +kernel), List.mem_of_getElem? (i := 635) (by decide +kernel)⟩
theorem lw_p14 : lw_okq (⟨"FenceYards", "hasRoom", "(I)Z"⟩, 18) := ⟨⟨by decide +kernel, by decide +kernel⟩, List.mem_of_getElem? (i := 28) (by decide +kernel), List.mem_of_getElem? (i := 652) (by decide +kernel), List.mem_of_getElem? (i := 653) (by decide +kernel)⟩
theorem lw_p15 : lw_okq (⟨"FenceYards", "settle", "()I"⟩, 18) := ⟨⟨by decide +kernel, by decide +kernel⟩, List.mem_of_getElem? (i := 28) (by decide +kernel), List.mem_of_getElem? (i := 656) (by decide +kernel), List.mem_of_getElem? (i := 657) (by decide +kernel)⟩
def lw_privs_1 : List (MethodName × Nat) := [(⟨"FenceYards", "reads", "(I)Z"⟩, 18), (⟨"FenceYards$Village", "readClause", "(LFenceYards$Tape;)Z"⟩, 11), (⟨"FenceYards$Village", "readRules", "(LFenceYards$Tape;)Z"⟩, 11), (⟨"FenceYards$Village", "readItems", "(LFenceYards$Tape;Ljava/lang/String;[I)Z"⟩, 11), (⟨"FenceYards$Tape", "atDigit", "()Z"⟩, 3), (⟨"FenceYards$Village", "readFarm", "(LFenceYards$Tape;)Z"⟩, 11), (⟨"FenceYards$Village", "readWrong", "(LFenceYards$Tape;)Z"⟩, 11), (⟨"FenceYards$Village", "isWhole", "()Z"⟩, 11), (⟨"FenceYards$LawReader", "readClause", "()Z"⟩, 3), (⟨"FenceYards$LawReader", "readRow", "(IIZ)Z"⟩, 3), (⟨"FenceYards$LawReader", "readUnit", "(IZ)Z"⟩, 3), (⟨"FenceYards$LawReader", "emit", "(I)Z"⟩, 3), (⟨"FenceYards$LawReader", "readAtom", "(I)Z"⟩, 3), (⟨"FenceYards$Spring", "readStep", "(LFenceYards$Tape;I)Z"⟩, 4), (⟨"FenceYards", "hasRoom", "(I)Z"⟩, 18), (⟨"FenceYards", "settle", "()I"⟩, 18)]
theorem lw_r1 : ∀ q ∈ lw_privs_1, lw_okq q := List.forall_mem_cons.mpr ⟨lw_p0, List.forall_mem_cons.mpr ⟨lw_p1, List.forall_mem_cons.mpr ⟨lw_p2, List.forall_mem_cons.mpr ⟨lw_p3, List.forall_mem_cons.mpr ⟨lw_p4, List.forall_mem_cons.mpr ⟨lw_p5, List.forall_mem_cons.mpr ⟨lw_p6, List.forall_mem_cons.mpr ⟨lw_p7, List.forall_mem_cons.mpr ⟨lw_p8, List.forall_mem_cons.mpr ⟨lw_p9, List.forall_mem_cons.mpr ⟨lw_p10, List.forall_mem_cons.mpr ⟨lw_p11, List.forall_mem_cons.mpr ⟨lw_p12, List.forall_mem_cons.mpr ⟨lw_p13, List.forall_mem_cons.mpr ⟨lw_p14, List.forall_mem_cons.mpr ⟨lw_p15, fun _ h => absurd h List.not_mem_nil⟩⟩⟩⟩⟩⟩⟩⟩⟩⟩⟩⟩⟩⟩⟩⟩
theorem lw_p16 : lw_okq (⟨"FenceYards", "keepLaw", "()I"⟩, 18) := ⟨⟨by decide +kernel, by decide +kernel⟩, List.mem_of_getElem? (i := 28) (by decide +kernel), List.mem_of_getElem? (i := 671) (by decide +kernel), List.mem_of_getElem? (i := 672) (by decide +kernel)⟩
theorem lw_p17 : lw_okq (⟨"FenceYards", "keepSpring", "()I"⟩, 18) := ⟨⟨by decide +kernel, by decide +kernel⟩, List.mem_of_getElem? (i := 28) (by decide +kernel), List.mem_of_getElem? (i := 701) (by decide +kernel), List.mem_of_getElem? (i := 702) (by decide +kernel)⟩
theorem lw_p18 : lw_okq (⟨"FenceYards$Law", "clauseEnd", "(I)I"⟩, 2) := ⟨⟨by decide +kernel, by decide +kernel⟩, List.mem_of_getElem? (i := 674) (by decide +kernel), List.mem_of_getElem? (i := 729) (by decide +kernel), List.mem_of_getElem? (i := 730) (by decide +kernel)⟩
theorem lw_p19 : lw_okq (⟨"FenceYards", "acted", "(I)I"⟩, 18) := ⟨⟨by decide +kernel, by decide +kernel⟩, List.mem_of_getElem? (i := 28) (by decide +kernel), List.mem_of_getElem? (i := 771) (by decide +kernel), List.mem_of_getElem? (i := 772) (by decide +kernel)⟩
theorem lw_p20 : lw_okq (⟨"FenceYards", "hasVillage", "()Z"⟩, 18) := ⟨⟨by decide +kernel, by decide +kernel⟩, List.mem_of_getElem? (i := 28) (by decide +kernel), List.mem_of_getElem? (i := 809) (by decide +kernel), List.mem_of_getElem? (i := 810) (by decide +kernel)⟩
theorem lw_p21 : lw_okq (⟨"FenceYards", "quarrel", "()V"⟩, 18) := ⟨⟨by decide +kernel, by decide +kernel⟩, List.mem_of_getElem? (i := 28) (by decide +kernel), List.mem_of_getElem? (i := 847) (by decide +kernel), List.mem_of_getElem? (i := 848) (by decide +kernel)⟩
theorem lw_p22 : lw_okq (⟨"FenceYards", "draw", "(I)I"⟩, 18) := ⟨⟨by decide +kernel, by decide +kernel⟩, List.mem_of_getElem? (i := 28) (by decide +kernel), List.mem_of_getElem? (i := 851) (by decide +kernel), List.mem_of_getElem? (i := 852) (by decide +kernel)⟩
theorem lw_p23 : lw_okq (⟨"FenceYards", "isSpring", "(I)Z"⟩, 18) := ⟨⟨by decide +kernel, by decide +kernel⟩, List.mem_of_getElem? (i := 28) (by decide +kernel), List.mem_of_getElem? (i := 885) (by decide +kernel), List.mem_of_getElem? (i := 886) (by decide +kernel)⟩
theorem lw_p24 : lw_okq (⟨"FenceYards", "isFarm", "(I)Z"⟩, 18) := ⟨⟨by decide +kernel, by decide +kernel⟩, List.mem_of_getElem? (i := 28) (by decide +kernel), List.mem_of_getElem? (i := 916) (by decide +kernel), List.mem_of_getElem? (i := 917) (by decide +kernel)⟩
theorem lw_p25 : lw_okq (⟨"FenceYards$Search", "tryWhite", "(III)V"⟩, 8) := ⟨⟨by decide +kernel, by decide +kernel⟩, List.mem_of_getElem? (i := 232) (by decide +kernel), List.mem_of_getElem? (i := 929) (by decide +kernel), List.mem_of_getElem? (i := 930) (by decide +kernel)⟩
theorem lw_p26 : lw_okq (⟨"FenceYards$Search", "tryRich", "(IIII)V"⟩, 8) := ⟨⟨by decide +kernel, by decide +kernel⟩, List.mem_of_getElem? (i := 232) (by decide +kernel), List.mem_of_getElem? (i := 955) (by decide +kernel), List.mem_of_getElem? (i := 956) (by decide +kernel)⟩
theorem lw_p27 : lw_okq (⟨"FenceYards$Search", "tryPairs", "(IIII)V"⟩, 8) := ⟨⟨by decide +kernel, by decide +kernel⟩, List.mem_of_getElem? (i := 232) (by decide +kernel), List.mem_of_getElem? (i := 969) (by decide +kernel), List.mem_of_getElem? (i := 970) (by decide +kernel)⟩
theorem lw_p28 : lw_okq (⟨"FenceYards", "isTold", "(I)Z"⟩, 18) := ⟨⟨by decide +kernel, by decide +kernel⟩, List.mem_of_getElem? (i := 28) (by decide +kernel), List.mem_of_getElem? (i := 978) (by decide +kernel), List.mem_of_getElem? (i := 979) (by decide +kernel)⟩
theorem lw_p29 : lw_okq (⟨"FenceYards$Sightings", "agrees", "(II)Z"⟩, 6) := ⟨⟨by decide +kernel, by decide +kernel⟩, List.mem_of_getElem? (i := 266) (by decide +kernel), List.mem_of_getElem? (i := 996) (by decide +kernel), List.mem_of_getElem? (i := 997) (by decide +kernel)⟩
theorem lw_p30 : lw_okq (⟨"FenceYards$Sightings", "apart", "(II)I"⟩, 6) := ⟨⟨by decide +kernel, by decide +kernel⟩, List.mem_of_getElem? (i := 266) (by decide +kernel), List.mem_of_getElem? (i := 1012) (by decide +kernel), List.mem_of_getElem? (i := 1013) (by decide +kernel)⟩
theorem lw_p31 : lw_okq (⟨"FenceYards$Gamble", "choose", "(III)V"⟩, 6) := ⟨⟨by decide +kernel, by decide +kernel⟩, List.mem_of_getElem? (i := 293) (by decide +kernel), List.mem_of_getElem? (i := 1053) (by decide +kernel), List.mem_of_getElem? (i := 1054) (by decide +kernel)⟩
def lw_privs_2 : List (MethodName × Nat) := [(⟨"FenceYards", "keepLaw", "()I"⟩, 18), (⟨"FenceYards", "keepSpring", "()I"⟩, 18), (⟨"FenceYards$Law", "clauseEnd", "(I)I"⟩, 2), (⟨"FenceYards", "acted", "(I)I"⟩, 18), (⟨"FenceYards", "hasVillage", "()Z"⟩, 18), (⟨"FenceYards", "quarrel", "()V"⟩, 18), (⟨"FenceYards", "draw", "(I)I"⟩, 18), (⟨"FenceYards", "isSpring", "(I)Z"⟩, 18), (⟨"FenceYards", "isFarm", "(I)Z"⟩, 18), (⟨"FenceYards$Search", "tryWhite", "(III)V"⟩, 8), (⟨"FenceYards$Search", "tryRich", "(IIII)V"⟩, 8), (⟨"FenceYards$Search", "tryPairs", "(IIII)V"⟩, 8), (⟨"FenceYards", "isTold", "(I)Z"⟩, 18), (⟨"FenceYards$Sightings", "agrees", "(II)Z"⟩, 6), (⟨"FenceYards$Sightings", "apart", "(II)I"⟩, 6), (⟨"FenceYards$Gamble", "choose", "(III)V"⟩, 6)]
theorem lw_r2 : ∀ q ∈ lw_privs_2, lw_okq q := List.forall_mem_cons.mpr ⟨lw_p16, List.forall_mem_cons.mpr ⟨lw_p17, List.forall_mem_cons.mpr ⟨lw_p18, List.forall_mem_cons.mpr ⟨lw_p19, List.forall_mem_cons.mpr ⟨lw_p20, List.forall_mem_cons.mpr ⟨lw_p21, List.forall_mem_cons.mpr ⟨lw_p22, List.forall_mem_cons.mpr ⟨lw_p23, List.forall_mem_cons.mpr ⟨lw_p24, List.forall_mem_cons.mpr ⟨lw_p25, List.forall_mem_cons.mpr ⟨lw_p26, List.forall_mem_cons.mpr ⟨lw_p27, List.forall_mem_cons.mpr ⟨lw_p28, List.forall_mem_cons.mpr ⟨lw_p29, List.forall_mem_cons.mpr ⟨lw_p30, List.forall_mem_cons.mpr ⟨lw_p31, fun _ h => absurd h List.not_mem_nil⟩⟩⟩⟩⟩⟩⟩⟩⟩⟩⟩⟩⟩⟩⟩⟩
theorem lw_p32 : lw_okq (⟨"FenceYards$Gamble", "gain", "(II)I"⟩, 6) := ⟨⟨by decide +kernel, by decide +kernel⟩, List.mem_of_getElem? (i := 293) (by decide +kernel), List.mem_of_getElem? (i := 1063) (by decide +kernel), List.mem_of_getElem? (i := 1064) (by decide +kernel)⟩
theorem lw_p33 : lw_okq (⟨"FenceYards$Gamble", "isRest", "(II)Z"⟩, 6) := ⟨⟨by decide +kernel, by decide +kernel⟩, List.mem_of_getElem? (i := 293) (by decide +kernel), List.mem_of_getElem? (i := 1077) (by decide +kernel), List.mem_of_getElem? (i := 1078) (by decide +kernel)⟩
theorem lw_p34 : lw_okq (⟨"FenceYards$Search", "whiteParts", "(IIII)I"⟩, 8) := ⟨⟨by decide +kernel, by decide +kernel⟩, List.mem_of_getElem? (i := 232) (by decide +kernel), List.mem_of_getElem? (i := 1090) (by decide +kernel), List.mem_of_getElem? (i := 1091) (by decide +kernel)⟩
theorem lw_p35 : lw_okq (⟨"FenceYards", "foremost", "(I)I"⟩, 18) := ⟨⟨by decide +kernel, by decide +kernel⟩, List.mem_of_getElem? (i := 28) (by decide +kernel), List.mem_of_getElem? (i := 1112) (by decide +kernel), List.mem_of_getElem? (i := 1113) (by decide +kernel)⟩
theorem lw_p36 : lw_okq (⟨"FenceYards", "measure", "(II)I"⟩, 18) := ⟨⟨by decide +kernel, by decide +kernel⟩, List.mem_of_getElem? (i := 28) (by decide +kernel), List.mem_of_getElem? (i := 1116) (by decide +kernel), List.mem_of_getElem? (i := 1117) (by decide +kernel)⟩
theorem lw_p37 : lw_okq (⟨"FenceYards", "heaviestPlace", "()I"⟩, 18) := ⟨⟨by decide +kernel, by decide +kernel⟩, List.mem_of_getElem? (i := 28) (by decide +kernel), List.mem_of_getElem? (i := 1121) (by decide +kernel), List.mem_of_getElem? (i := 1122) (by decide +kernel)⟩
theorem lw_p38 : lw_okq (⟨"java/lang/Throwable", "fillInStackTrace", "(I)Ljava/lang/Throwable;"⟩, 6) := ⟨⟨by decide +kernel, by decide +kernel⟩, List.mem_of_getElem? (i := 1200) (by decide +kernel), List.mem_of_getElem? (i := 1198) (by decide +kernel), List.mem_of_getElem? (i := 1199) (by decide +kernel)⟩
theorem lw_p39 : lw_okq (⟨"FenceYardsModel", "put", "(I)V"⟩, 48) := ⟨⟨by decide +kernel, by decide +kernel⟩, List.mem_of_getElem? (i := 1225) (by decide +kernel), List.mem_of_getElem? (i := 1390) (by decide +kernel), List.mem_of_getElem? (i := 1391) (by decide +kernel)⟩
theorem lw_p40 : lw_okq (⟨"FenceYardsModel", "readVillage", "()V"⟩, 48) := ⟨⟨by decide +kernel, by decide +kernel⟩, List.mem_of_getElem? (i := 1225) (by decide +kernel), List.mem_of_getElem? (i := 1406) (by decide +kernel), List.mem_of_getElem? (i := 1407) (by decide +kernel)⟩
theorem lw_p41 : lw_okq (⟨"FenceYardsModel", "starts", "([BII)V"⟩, 48) := ⟨⟨by decide +kernel, by decide +kernel⟩, List.mem_of_getElem? (i := 1225) (by decide +kernel), List.mem_of_getElem? (i := 1410) (by decide +kernel), List.mem_of_getElem? (i := 1411) (by decide +kernel)⟩
theorem lw_p42 : lw_okq (⟨"FenceYardsModel", "readClause", "()V"⟩, 48) := ⟨⟨by decide +kernel, by decide +kernel⟩, List.mem_of_getElem? (i := 1225) (by decide +kernel), List.mem_of_getElem? (i := 1417) (by decide +kernel), List.mem_of_getElem? (i := 1418) (by decide +kernel)⟩
theorem lw_p43 : lw_okq (⟨"FenceYardsModel", "look", "()I"⟩, 48) := ⟨⟨by decide +kernel, by decide +kernel⟩, List.mem_of_getElem? (i := 1225) (by decide +kernel), List.mem_of_getElem? (i := 1421) (by decide +kernel), List.mem_of_getElem? (i := 1422) (by decide +kernel)⟩
theorem lw_p44 : lw_okq (⟨"FenceYardsModel", "fails", "()Z"⟩, 48) := ⟨⟨by decide +kernel, by decide +kernel⟩, List.mem_of_getElem? (i := 1225) (by decide +kernel), List.mem_of_getElem? (i := 1425) (by decide +kernel), List.mem_of_getElem? (i := 1426) (by decide +kernel)⟩
theorem lw_p45 : lw_okq (⟨"FenceYardsModel", "readItems", "(I[IILjava/lang/String;)V"⟩, 48) := ⟨⟨by decide +kernel, by decide +kernel⟩, List.mem_of_getElem? (i := 1225) (by decide +kernel), List.mem_of_getElem? (i := 1430) (by decide +kernel), List.mem_of_getElem? (i := 1431) (by decide +kernel)⟩
theorem lw_p46 : lw_okq (⟨"FenceYardsModel", "number", "(II)I"⟩, 48) := ⟨⟨by decide +kernel, by decide +kernel⟩, List.mem_of_getElem? (i := 1225) (by decide +kernel), List.mem_of_getElem? (i := 1467) (by decide +kernel), List.mem_of_getElem? (i := 1468) (by decide +kernel)⟩
theorem lw_p47 : lw_okq (⟨"FenceYardsModel", "isDigit", "()Z"⟩, 48) := ⟨⟨by decide +kernel, by decide +kernel⟩, List.mem_of_getElem? (i := 1225) (by decide +kernel), List.mem_of_getElem? (i := 1471) (by decide +kernel), List.mem_of_getElem? (i := 1472) (by decide +kernel)⟩
def lw_privs_3 : List (MethodName × Nat) := [(⟨"FenceYards$Gamble", "gain", "(II)I"⟩, 6), (⟨"FenceYards$Gamble", "isRest", "(II)Z"⟩, 6), (⟨"FenceYards$Search", "whiteParts", "(IIII)I"⟩, 8), (⟨"FenceYards", "foremost", "(I)I"⟩, 18), (⟨"FenceYards", "measure", "(II)I"⟩, 18), (⟨"FenceYards", "heaviestPlace", "()I"⟩, 18), (⟨"java/lang/Throwable", "fillInStackTrace", "(I)Ljava/lang/Throwable;"⟩, 6), (⟨"FenceYardsModel", "put", "(I)V"⟩, 48), (⟨"FenceYardsModel", "readVillage", "()V"⟩, 48), (⟨"FenceYardsModel", "starts", "([BII)V"⟩, 48), (⟨"FenceYardsModel", "readClause", "()V"⟩, 48), (⟨"FenceYardsModel", "look", "()I"⟩, 48), (⟨"FenceYardsModel", "fails", "()Z"⟩, 48), (⟨"FenceYardsModel", "readItems", "(I[IILjava/lang/String;)V"⟩, 48), (⟨"FenceYardsModel", "number", "(II)I"⟩, 48), (⟨"FenceYardsModel", "isDigit", "()Z"⟩, 48)]
theorem lw_r3 : ∀ q ∈ lw_privs_3, lw_okq q := List.forall_mem_cons.mpr ⟨lw_p32, List.forall_mem_cons.mpr ⟨lw_p33, List.forall_mem_cons.mpr ⟨lw_p34, List.forall_mem_cons.mpr ⟨lw_p35, List.forall_mem_cons.mpr ⟨lw_p36, List.forall_mem_cons.mpr ⟨lw_p37, List.forall_mem_cons.mpr ⟨lw_p38, List.forall_mem_cons.mpr ⟨lw_p39, List.forall_mem_cons.mpr ⟨lw_p40, List.forall_mem_cons.mpr ⟨lw_p41, List.forall_mem_cons.mpr ⟨lw_p42, List.forall_mem_cons.mpr ⟨lw_p43, List.forall_mem_cons.mpr ⟨lw_p44, List.forall_mem_cons.mpr ⟨lw_p45, List.forall_mem_cons.mpr ⟨lw_p46, List.forall_mem_cons.mpr ⟨lw_p47, fun _ h => absurd h List.not_mem_nil⟩⟩⟩⟩⟩⟩⟩⟩⟩⟩⟩⟩⟩⟩⟩⟩
theorem lw_p48 : lw_okq (⟨"FenceYardsModel", "here", "()I"⟩, 48) := ⟨⟨by decide +kernel, by decide +kernel⟩, List.mem_of_getElem? (i := 1225) (by decide +kernel), List.mem_of_getElem? (i := 1475) (by decide +kernel), List.mem_of_getElem? (i := 1476) (by decide +kernel)⟩
theorem lw_p49 : lw_okq (⟨"FenceYardsModel", "isWhole", "()Z"⟩, 48) := ⟨⟨by decide +kernel, by decide +kernel⟩, List.mem_of_getElem? (i := 1225) (by decide +kernel), List.mem_of_getElem? (i := 1481) (by decide +kernel), List.mem_of_getElem? (i := 1482) (by decide +kernel)⟩
theorem lw_p50 : lw_okq (⟨"FenceYardsModel", "goThrough", "([BII)V"⟩, 48) := ⟨⟨by decide +kernel, by decide +kernel⟩, List.mem_of_getElem? (i := 1225) (by decide +kernel), List.mem_of_getElem? (i := 1485) (by decide +kernel), List.mem_of_getElem? (i := 1486) (by decide +kernel)⟩
theorem lw_p51 : lw_okq (⟨"FenceYardsModel", "clause", "()V"⟩, 48) := ⟨⟨by decide +kernel, by decide +kernel⟩, List.mem_of_getElem? (i := 1225) (by decide +kernel), List.mem_of_getElem? (i := 1489) (by decide +kernel), List.mem_of_getElem? (i := 1490) (by decide +kernel)⟩
theorem lw_p52 : lw_okq (⟨"FenceYardsModel", "takes", "(I)Z"⟩, 48) := ⟨⟨by decide +kernel, by decide +kernel⟩, List.mem_of_getElem? (i := 1225) (by decide +kernel), List.mem_of_getElem? (i := 1496) (by decide +kernel), List.mem_of_getElem? (i := 1497) (by decide +kernel)⟩
theorem lw_p53 : lw_okq (⟨"FenceYardsModel", "condition", "(ZI)Z"⟩, 48) := ⟨⟨by decide +kernel, by decide +kernel⟩, List.mem_of_getElem? (i := 1225) (by decide +kernel), List.mem_of_getElem? (i := 1500) (by decide +kernel), List.mem_of_getElem? (i := 1501) (by decide +kernel)⟩
theorem lw_p54 : lw_okq (⟨"FenceYardsModel", "part", "(ZI)Z"⟩, 48) := ⟨⟨by decide +kernel, by decide +kernel⟩, List.mem_of_getElem? (i := 1225) (by decide +kernel), List.mem_of_getElem? (i := 1504) (by decide +kernel), List.mem_of_getElem? (i := 1505) (by decide +kernel)⟩
theorem lw_p55 : lw_okq (⟨"FenceYardsModel", "compares", "(ZI)Z"⟩, 48) := ⟨⟨by decide +kernel, by decide +kernel⟩, List.mem_of_getElem? (i := 1225) (by decide +kernel), List.mem_of_getElem? (i := 1508) (by decide +kernel), List.mem_of_getElem? (i := 1509) (by decide +kernel)⟩
theorem lw_p56 : lw_okq (⟨"FenceYardsModel", "sum", "()I"⟩, 48) := ⟨⟨by decide +kernel, by decide +kernel⟩, List.mem_of_getElem? (i := 1225) (by decide +kernel), List.mem_of_getElem? (i := 1512) (by decide +kernel), List.mem_of_getElem? (i := 1513) (by decide +kernel)⟩
theorem lw_p57 : lw_okq (⟨"FenceYardsModel", "term", "()I"⟩, 48) := ⟨⟨by decide +kernel, by decide +kernel⟩, List.mem_of_getElem? (i := 1225) (by decide +kernel), List.mem_of_getElem? (i := 1516) (by decide +kernel), List.mem_of_getElem? (i := 1517) (by decide +kernel)⟩
theorem lw_p58 : lw_okq (⟨"FenceYardsModel", "atom", "()I"⟩, 48) := ⟨⟨by decide +kernel, by decide +kernel⟩, List.mem_of_getElem? (i := 1225) (by decide +kernel), List.mem_of_getElem? (i := 1520) (by decide +kernel), List.mem_of_getElem? (i := 1521) (by decide +kernel)⟩
theorem lw_p59 : lw_okq (⟨"FenceYardsModel", "goesIn", "()Z"⟩, 48) := ⟨⟨by decide +kernel, by decide +kernel⟩, List.mem_of_getElem? (i := 1225) (by decide +kernel), List.mem_of_getElem? (i := 1524) (by decide +kernel), List.mem_of_getElem? (i := 1525) (by decide +kernel)⟩
theorem lw_p60 : lw_okq (⟨"FenceYardsModel", "unit", "()Z"⟩, 48) := ⟨⟨by decide +kernel, by decide +kernel⟩, List.mem_of_getElem? (i := 1225) (by decide +kernel), List.mem_of_getElem? (i := 1542) (by decide +kernel), List.mem_of_getElem? (i := 1543) (by decide +kernel)⟩
theorem lw_p61 : lw_okq (⟨"FenceYardsModel", "readPlan", "()V"⟩, 48) := ⟨⟨by decide +kernel, by decide +kernel⟩, List.mem_of_getElem? (i := 1225) (by decide +kernel), List.mem_of_getElem? (i := 1546) (by decide +kernel), List.mem_of_getElem? (i := 1547) (by decide +kernel)⟩
theorem lw_p62 : lw_okq (⟨"FenceYardsModel", "readStep", "(I)V"⟩, 48) := ⟨⟨by decide +kernel, by decide +kernel⟩, List.mem_of_getElem? (i := 1225) (by decide +kernel), List.mem_of_getElem? (i := 1550) (by decide +kernel), List.mem_of_getElem? (i := 1551) (by decide +kernel)⟩
theorem lw_p63 : lw_okq (⟨"FenceYardsModel", "digit", "()I"⟩, 48) := ⟨⟨by decide +kernel, by decide +kernel⟩, List.mem_of_getElem? (i := 1225) (by decide +kernel), List.mem_of_getElem? (i := 1555) (by decide +kernel), List.mem_of_getElem? (i := 1556) (by decide +kernel)⟩
def lw_privs_4 : List (MethodName × Nat) := [(⟨"FenceYardsModel", "here", "()I"⟩, 48), (⟨"FenceYardsModel", "isWhole", "()Z"⟩, 48), (⟨"FenceYardsModel", "goThrough", "([BII)V"⟩, 48), (⟨"FenceYardsModel", "clause", "()V"⟩, 48), (⟨"FenceYardsModel", "takes", "(I)Z"⟩, 48), (⟨"FenceYardsModel", "condition", "(ZI)Z"⟩, 48), (⟨"FenceYardsModel", "part", "(ZI)Z"⟩, 48), (⟨"FenceYardsModel", "compares", "(ZI)Z"⟩, 48), (⟨"FenceYardsModel", "sum", "()I"⟩, 48), (⟨"FenceYardsModel", "term", "()I"⟩, 48), (⟨"FenceYardsModel", "atom", "()I"⟩, 48), (⟨"FenceYardsModel", "goesIn", "()Z"⟩, 48), (⟨"FenceYardsModel", "unit", "()Z"⟩, 48), (⟨"FenceYardsModel", "readPlan", "()V"⟩, 48), (⟨"FenceYardsModel", "readStep", "(I)V"⟩, 48), (⟨"FenceYardsModel", "digit", "()I"⟩, 48)]
theorem lw_r4 : ∀ q ∈ lw_privs_4, lw_okq q := List.forall_mem_cons.mpr ⟨lw_p48, List.forall_mem_cons.mpr ⟨lw_p49, List.forall_mem_cons.mpr ⟨lw_p50, List.forall_mem_cons.mpr ⟨lw_p51, List.forall_mem_cons.mpr ⟨lw_p52, List.forall_mem_cons.mpr ⟨lw_p53, List.forall_mem_cons.mpr ⟨lw_p54, List.forall_mem_cons.mpr ⟨lw_p55, List.forall_mem_cons.mpr ⟨lw_p56, List.forall_mem_cons.mpr ⟨lw_p57, List.forall_mem_cons.mpr ⟨lw_p58, List.forall_mem_cons.mpr ⟨lw_p59, List.forall_mem_cons.mpr ⟨lw_p60, List.forall_mem_cons.mpr ⟨lw_p61, List.forall_mem_cons.mpr ⟨lw_p62, List.forall_mem_cons.mpr ⟨lw_p63, fun _ h => absurd h List.not_mem_nil⟩⟩⟩⟩⟩⟩⟩⟩⟩⟩⟩⟩⟩⟩⟩⟩
theorem lw_p64 : lw_okq (⟨"FenceYardsModel", "isFarm", "(I)Z"⟩, 48) := ⟨⟨by decide +kernel, by decide +kernel⟩, List.mem_of_getElem? (i := 1225) (by decide +kernel), List.mem_of_getElem? (i := 1568) (by decide +kernel), List.mem_of_getElem? (i := 1569) (by decide +kernel)⟩
theorem lw_p65 : lw_okq (⟨"FenceYardsModel", "bare", "([II)I"⟩, 48) := ⟨⟨by decide +kernel, by decide +kernel⟩, List.mem_of_getElem? (i := 1225) (by decide +kernel), List.mem_of_getElem? (i := 1573) (by decide +kernel), List.mem_of_getElem? (i := 1574) (by decide +kernel)⟩
theorem lw_p66 : lw_okq (⟨"FenceYardsModel", "yardsOf", "([II)I"⟩, 48) := ⟨⟨by decide +kernel, by decide +kernel⟩, List.mem_of_getElem? (i := 1225) (by decide +kernel), List.mem_of_getElem? (i := 1588) (by decide +kernel), List.mem_of_getElem? (i := 1589) (by decide +kernel)⟩
theorem lw_p67 : lw_okq (⟨"FenceYardsModel", "yardsBy", "(IIIIII)I"⟩, 48) := ⟨⟨by decide +kernel, by decide +kernel⟩, List.mem_of_getElem? (i := 1225) (by decide +kernel), List.mem_of_getElem? (i := 1592) (by decide +kernel), List.mem_of_getElem? (i := 1593) (by decide +kernel)⟩
theorem lw_p68 : lw_okq (⟨"FenceYardsModel", "worthOf", "(IIIIII)I"⟩, 48) := ⟨⟨by decide +kernel, by decide +kernel⟩, List.mem_of_getElem? (i := 1225) (by decide +kernel), List.mem_of_getElem? (i := 1596) (by decide +kernel), List.mem_of_getElem? (i := 1597) (by decide +kernel)⟩
theorem lw_p69 : lw_okq (⟨"FenceYardsModel", "remember", "()V"⟩, 48) := ⟨⟨by decide +kernel, by decide +kernel⟩, List.mem_of_getElem? (i := 1225) (by decide +kernel), List.mem_of_getElem? (i := 1621) (by decide +kernel), List.mem_of_getElem? (i := 1622) (by decide +kernel)⟩
theorem lw_p70 : lw_okq (⟨"FenceYardsModel", "forgives", "([II)I"⟩, 48) := ⟨⟨by decide +kernel, by decide +kernel⟩, List.mem_of_getElem? (i := 1225) (by decide +kernel), List.mem_of_getElem? (i := 1625) (by decide +kernel), List.mem_of_getElem? (i := 1626) (by decide +kernel)⟩
theorem lw_p71 : lw_okq (⟨"FenceYardsModel", "canPaint", "([III)Z"⟩, 48) := ⟨⟨by decide +kernel, by decide +kernel⟩, List.mem_of_getElem? (i := 1225) (by decide +kernel), List.mem_of_getElem? (i := 1633) (by decide +kernel), List.mem_of_getElem? (i := 1634) (by decide +kernel)⟩
theorem lw_p72 : lw_okq (⟨"FenceYardsModel", "canInspect", "([II)Z"⟩, 48) := ⟨⟨by decide +kernel, by decide +kernel⟩, List.mem_of_getElem? (i := 1225) (by decide +kernel), List.mem_of_getElem? (i := 1644) (by decide +kernel), List.mem_of_getElem? (i := 1645) (by decide +kernel)⟩
theorem lw_p73 : lw_okq (⟨"FenceYardsModel", "areTwo", "(II)Z"⟩, 48) := ⟨⟨by decide +kernel, by decide +kernel⟩, List.mem_of_getElem? (i := 1225) (by decide +kernel), List.mem_of_getElem? (i := 1658) (by decide +kernel), List.mem_of_getElem? (i := 1659) (by decide +kernel)⟩
theorem lw_p74 : lw_okq (⟨"FenceYardsModel", "goDay", "([I)I"⟩, 48) := ⟨⟨by decide +kernel, by decide +kernel⟩, List.mem_of_getElem? (i := 1225) (by decide +kernel), List.mem_of_getElem? (i := 1679) (by decide +kernel), List.mem_of_getElem? (i := 1680) (by decide +kernel)⟩
theorem lw_p75 : lw_okq (⟨"FenceYardsModel", "wears", "([I)I"⟩, 48) := ⟨⟨by decide +kernel, by decide +kernel⟩, List.mem_of_getElem? (i := 1225) (by decide +kernel), List.mem_of_getElem? (i := 1683) (by decide +kernel), List.mem_of_getElem? (i := 1684) (by decide +kernel)⟩
theorem lw_p76 : lw_okq (⟨"FenceYardsModel", "whites", "([I)I"⟩, 48) := ⟨⟨by decide +kernel, by decide +kernel⟩, List.mem_of_getElem? (i := 1225) (by decide +kernel), List.mem_of_getElem? (i := 1687) (by decide +kernel), List.mem_of_getElem? (i := 1688) (by decide +kernel)⟩
theorem lw_p77 : lw_okq (⟨"FenceYardsModel", "draw", "(I)I"⟩, 48) := ⟨⟨by decide +kernel, by decide +kernel⟩, List.mem_of_getElem? (i := 1225) (by decide +kernel), List.mem_of_getElem? (i := 1697) (by decide +kernel), List.mem_of_getElem? (i := 1698) (by decide +kernel)⟩
theorem lw_p78 : lw_okq (⟨"FenceYardsModel", "isPlan", "(I)Z"⟩, 48) := ⟨⟨by decide +kernel, by decide +kernel⟩, List.mem_of_getElem? (i := 1225) (by decide +kernel), List.mem_of_getElem? (i := 1715) (by decide +kernel), List.mem_of_getElem? (i := 1716) (by decide +kernel)⟩
theorem lw_p79 : lw_okq (⟨"FenceYardsModel", "canStep", "([II)Z"⟩, 48) := ⟨⟨by decide +kernel, by decide +kernel⟩, List.mem_of_getElem? (i := 1225) (by decide +kernel), List.mem_of_getElem? (i := 1727) (by decide +kernel), List.mem_of_getElem? (i := 1728) (by decide +kernel)⟩
def lw_privs_5 : List (MethodName × Nat) := [(⟨"FenceYardsModel", "isFarm", "(I)Z"⟩, 48), (⟨"FenceYardsModel", "bare", "([II)I"⟩, 48), (⟨"FenceYardsModel", "yardsOf", "([II)I"⟩, 48), (⟨"FenceYardsModel", "yardsBy", "(IIIIII)I"⟩, 48), (⟨"FenceYardsModel", "worthOf", "(IIIIII)I"⟩, 48), (⟨"FenceYardsModel", "remember", "()V"⟩, 48), (⟨"FenceYardsModel", "forgives", "([II)I"⟩, 48), (⟨"FenceYardsModel", "canPaint", "([III)Z"⟩, 48), (⟨"FenceYardsModel", "canInspect", "([II)Z"⟩, 48), (⟨"FenceYardsModel", "areTwo", "(II)Z"⟩, 48), (⟨"FenceYardsModel", "goDay", "([I)I"⟩, 48), (⟨"FenceYardsModel", "wears", "([I)I"⟩, 48), (⟨"FenceYardsModel", "whites", "([I)I"⟩, 48), (⟨"FenceYardsModel", "draw", "(I)I"⟩, 48), (⟨"FenceYardsModel", "isPlan", "(I)Z"⟩, 48), (⟨"FenceYardsModel", "canStep", "([II)Z"⟩, 48)]
theorem lw_r5 : ∀ q ∈ lw_privs_5, lw_okq q := List.forall_mem_cons.mpr ⟨lw_p64, List.forall_mem_cons.mpr ⟨lw_p65, List.forall_mem_cons.mpr ⟨lw_p66, List.forall_mem_cons.mpr ⟨lw_p67, List.forall_mem_cons.mpr ⟨lw_p68, List.forall_mem_cons.mpr ⟨lw_p69, List.forall_mem_cons.mpr ⟨lw_p70, List.forall_mem_cons.mpr ⟨lw_p71, List.forall_mem_cons.mpr ⟨lw_p72, List.forall_mem_cons.mpr ⟨lw_p73, List.forall_mem_cons.mpr ⟨lw_p74, List.forall_mem_cons.mpr ⟨lw_p75, List.forall_mem_cons.mpr ⟨lw_p76, List.forall_mem_cons.mpr ⟨lw_p77, List.forall_mem_cons.mpr ⟨lw_p78, List.forall_mem_cons.mpr ⟨lw_p79, fun _ h => absurd h List.not_mem_nil⟩⟩⟩⟩⟩⟩⟩⟩⟩⟩⟩⟩⟩⟩⟩⟩
theorem lw_p80 : lw_okq (⟨"FenceYardsModel", "goStep", "([II)I"⟩, 48) := ⟨⟨by decide +kernel, by decide +kernel⟩, List.mem_of_getElem? (i := 1225) (by decide +kernel), List.mem_of_getElem? (i := 1731) (by decide +kernel), List.mem_of_getElem? (i := 1732) (by decide +kernel)⟩
theorem lw_p81 : lw_okq (⟨"FenceYardsModel", "openOf", "(II)I"⟩, 48) := ⟨⟨by decide +kernel, by decide +kernel⟩, List.mem_of_getElem? (i := 1225) (by decide +kernel), List.mem_of_getElem? (i := 1743) (by decide +kernel), List.mem_of_getElem? (i := 1744) (by decide +kernel)⟩
theorem lw_p82 : lw_okq (⟨"FenceYardsModel", "fewest", "(II)I"⟩, 48) := ⟨⟨by decide +kernel, by decide +kernel⟩, List.mem_of_getElem? (i := 1225) (by decide +kernel), List.mem_of_getElem? (i := 1747) (by decide +kernel), List.mem_of_getElem? (i := 1748) (by decide +kernel)⟩
theorem lw_p83 : lw_okq (⟨"FenceYardsModel", "forgivesSet", "(I)I"⟩, 48) := ⟨⟨by decide +kernel, by decide +kernel⟩, List.mem_of_getElem? (i := 1225) (by decide +kernel), List.mem_of_getElem? (i := 1751) (by decide +kernel), List.mem_of_getElem? (i := 1752) (by decide +kernel)⟩
theorem lw_p84 : lw_okq (⟨"FenceYardsModel", "goPairs", "(IIII)V"⟩, 48) := ⟨⟨by decide +kernel, by decide +kernel⟩, List.mem_of_getElem? (i := 1225) (by decide +kernel), List.mem_of_getElem? (i := 1770) (by decide +kernel), List.mem_of_getElem? (i := 1771) (by decide +kernel)⟩
theorem lw_p85 : lw_okq (⟨"FenceYardsModel", "isTold", "(I)Z"⟩, 48) := ⟨⟨by decide +kernel, by decide +kernel⟩, List.mem_of_getElem? (i := 1225) (by decide +kernel), List.mem_of_getElem? (i := 1778) (by decide +kernel), List.mem_of_getElem? (i := 1779) (by decide +kernel)⟩
theorem lw_p86 : lw_okq (⟨"FenceYardsModel", "isWeight", "(II)Z"⟩, 48) := ⟨⟨by decide +kernel, by decide +kernel⟩, List.mem_of_getElem? (i := 1225) (by decide +kernel), List.mem_of_getElem? (i := 1787) (by decide +kernel), List.mem_of_getElem? (i := 1788) (by decide +kernel)⟩
theorem lw_p87 : lw_okq (⟨"FenceYardsModel", "yardsTold", "(II)I"⟩, 48) := ⟨⟨by decide +kernel, by decide +kernel⟩, List.mem_of_getElem? (i := 1225) (by decide +kernel), List.mem_of_getElem? (i := 1791) (by decide +kernel), List.mem_of_getElem? (i := 1792) (by decide +kernel)⟩
theorem lw_p88 : lw_okq (⟨"FenceYardsModel", "goFar", "(I)V"⟩, 48) := ⟨⟨by decide +kernel, by decide +kernel⟩, List.mem_of_getElem? (i := 1225) (by decide +kernel), List.mem_of_getElem? (i := 1804) (by decide +kernel), List.mem_of_getElem? (i := 1805) (by decide +kernel)⟩
theorem lw_p89 : lw_okq (⟨"FenceYardsModel", "gameOf", "(IIIII)I"⟩, 48) := ⟨⟨by decide +kernel, by decide +kernel⟩, List.mem_of_getElem? (i := 1225) (by decide +kernel), List.mem_of_getElem? (i := 1820) (by decide +kernel), List.mem_of_getElem? (i := 1821) (by decide +kernel)⟩
theorem lw_p90 : lw_okq (⟨"FenceYardsModel", "chooses", "(III)V"⟩, 48) := ⟨⟨by decide +kernel, by decide +kernel⟩, List.mem_of_getElem? (i := 1225) (by decide +kernel), List.mem_of_getElem? (i := 1824) (by decide +kernel), List.mem_of_getElem? (i := 1825) (by decide +kernel)⟩
theorem lw_p91 : lw_okq (⟨"FenceYardsModel", "oddsFrom", "(IIIII)I"⟩, 48) := ⟨⟨by decide +kernel, by decide +kernel⟩, List.mem_of_getElem? (i := 1225) (by decide +kernel), List.mem_of_getElem? (i := 1838) (by decide +kernel), List.mem_of_getElem? (i := 1839) (by decide +kernel)⟩
theorem lw_p92 : lw_okq (⟨"FenceYardsModel", "sumOf", "(I)I"⟩, 48) := ⟨⟨by decide +kernel, by decide +kernel⟩, List.mem_of_getElem? (i := 1225) (by decide +kernel), List.mem_of_getElem? (i := 1847) (by decide +kernel), List.mem_of_getElem? (i := 1848) (by decide +kernel)⟩
theorem lw_p93 : lw_okq (⟨"FenceYardsModel", "greatest", "(I)I"⟩, 48) := ⟨⟨by decide +kernel, by decide +kernel⟩, List.mem_of_getElem? (i := 1225) (by decide +kernel), List.mem_of_getElem? (i := 1859) (by decide +kernel), List.mem_of_getElem? (i := 1860) (by decide +kernel)⟩
theorem lw_p94 : lw_okq (⟨"FenceYardsModel", "valueOf", "(II)I"⟩, 48) := ⟨⟨by decide +kernel, by decide +kernel⟩, List.mem_of_getElem? (i := 1225) (by decide +kernel), List.mem_of_getElem? (i := 1863) (by decide +kernel), List.mem_of_getElem? (i := 1864) (by decide +kernel)⟩
theorem lw_p95 : lw_okq (⟨"FenceYardsModel", "heaviest", "()I"⟩, 48) := ⟨⟨by decide +kernel, by decide +kernel⟩, List.mem_of_getElem? (i := 1225) (by decide +kernel), List.mem_of_getElem? (i := 1867) (by decide +kernel), List.mem_of_getElem? (i := 1868) (by decide +kernel)⟩
def lw_privs_6 : List (MethodName × Nat) := [(⟨"FenceYardsModel", "goStep", "([II)I"⟩, 48), (⟨"FenceYardsModel", "openOf", "(II)I"⟩, 48), (⟨"FenceYardsModel", "fewest", "(II)I"⟩, 48), (⟨"FenceYardsModel", "forgivesSet", "(I)I"⟩, 48), (⟨"FenceYardsModel", "goPairs", "(IIII)V"⟩, 48), (⟨"FenceYardsModel", "isTold", "(I)Z"⟩, 48), (⟨"FenceYardsModel", "isWeight", "(II)Z"⟩, 48), (⟨"FenceYardsModel", "yardsTold", "(II)I"⟩, 48), (⟨"FenceYardsModel", "goFar", "(I)V"⟩, 48), (⟨"FenceYardsModel", "gameOf", "(IIIII)I"⟩, 48), (⟨"FenceYardsModel", "chooses", "(III)V"⟩, 48), (⟨"FenceYardsModel", "oddsFrom", "(IIIII)I"⟩, 48), (⟨"FenceYardsModel", "sumOf", "(I)I"⟩, 48), (⟨"FenceYardsModel", "greatest", "(I)I"⟩, 48), (⟨"FenceYardsModel", "valueOf", "(II)I"⟩, 48), (⟨"FenceYardsModel", "heaviest", "()I"⟩, 48)]
theorem lw_r6 : ∀ q ∈ lw_privs_6, lw_okq q := List.forall_mem_cons.mpr ⟨lw_p80, List.forall_mem_cons.mpr ⟨lw_p81, List.forall_mem_cons.mpr ⟨lw_p82, List.forall_mem_cons.mpr ⟨lw_p83, List.forall_mem_cons.mpr ⟨lw_p84, List.forall_mem_cons.mpr ⟨lw_p85, List.forall_mem_cons.mpr ⟨lw_p86, List.forall_mem_cons.mpr ⟨lw_p87, List.forall_mem_cons.mpr ⟨lw_p88, List.forall_mem_cons.mpr ⟨lw_p89, List.forall_mem_cons.mpr ⟨lw_p90, List.forall_mem_cons.mpr ⟨lw_p91, List.forall_mem_cons.mpr ⟨lw_p92, List.forall_mem_cons.mpr ⟨lw_p93, List.forall_mem_cons.mpr ⟨lw_p94, List.forall_mem_cons.mpr ⟨lw_p95, fun _ h => absurd h List.not_mem_nil⟩⟩⟩⟩⟩⟩⟩⟩⟩⟩⟩⟩⟩⟩⟩⟩
theorem lw_p96 : lw_okq (⟨"FenceYardsModel", "falses", "()I"⟩, 48) := ⟨⟨by decide +kernel, by decide +kernel⟩, List.mem_of_getElem? (i := 1225) (by decide +kernel), List.mem_of_getElem? (i := 1871) (by decide +kernel), List.mem_of_getElem? (i := 1872) (by decide +kernel)⟩
theorem lw_p97 : lw_okq (⟨"FenceYardsModel", "needed", "()I"⟩, 48) := ⟨⟨by decide +kernel, by decide +kernel⟩, List.mem_of_getElem? (i := 1225) (by decide +kernel), List.mem_of_getElem? (i := 1875) (by decide +kernel), List.mem_of_getElem? (i := 1876) (by decide +kernel)⟩
def lw_privs_7 : List (MethodName × Nat) := [(⟨"FenceYardsModel", "falses", "()I"⟩, 48), (⟨"FenceYardsModel", "needed", "()I"⟩, 48)]
theorem lw_r7 : ∀ q ∈ lw_privs_7, lw_okq q := List.forall_mem_cons.mpr ⟨lw_p96, List.forall_mem_cons.mpr ⟨lw_p97, fun _ h => absurd h List.not_mem_nil⟩⟩
def lw_privs : List (MethodName × Nat) := lw_privs_1 ++ (lw_privs_2 ++ (lw_privs_3 ++ (lw_privs_4 ++ (lw_privs_5 ++ (lw_privs_6 ++ (lw_privs_7))))))
def lw_tbl : List Cond := k2_sels lw_privs ++ tables_1
theorem lw_privs_ok : ∀ q ∈ lw_privs, lw_okq q := by
  show ∀ q ∈ lw_privs_1 ++ (lw_privs_2 ++ (lw_privs_3 ++ (lw_privs_4 ++ (lw_privs_5 ++ (lw_privs_6 ++ (lw_privs_7)))))), lw_okq q
  exact List.forall_mem_append.mpr ⟨lw_r1, List.forall_mem_append.mpr ⟨lw_r2, List.forall_mem_append.mpr ⟨lw_r3, List.forall_mem_append.mpr ⟨lw_r4, List.forall_mem_append.mpr ⟨lw_r5, List.forall_mem_append.mpr ⟨lw_r6, lw_r7⟩⟩⟩⟩⟩⟩

def RX0 : String := "FenceYards$Gamble"
def TX0 : u_T := fun k => match k with
  | 0 => ("FenceYards$Gamble", "first", "[[I", true)
  | 1 => ("FenceYards$Gamble", "second", "[[I", true)
  | 2 => ("FenceYards$Gamble", "restRow", "[I", true)
  | 3 => ("FenceYards$Gamble", "restCount", "I", false)
  | 4 => ("FenceYards$Gamble", "now", "LFenceYards$State;", true)
  | _ => ("FenceYards$Gamble", "state", "LFenceYards$State;", true)
def tyX0 : Nat → FieldType := fun k => match k with
  | 0 => .array (.array .int)
  | 1 => .array (.array .int)
  | 2 => .array .int
  | 3 => .int
  | 4 => .object "FenceYards$State"
  | _ => .object "FenceYards$State"
theorem nmX0 : ∀ a, a < 6 → ∀ b, b < 6 → a ≠ b → (TX0 a).2.1 ≠ (TX0 b).2.1 := by decide +kernel
theorem tyX0_ok : ∀ k, k < 6 → parseFieldDescriptor (TX0 k).2.2.1 = some (tyX0 k) := by decide +kernel
abbrev cX0_init : ByteArray := prog_2_method_1_code
def yX0_init : MethodName := ⟨RX0, "<init>", "(LFenceYards$State;LFenceYards$State;)V"⟩
abbrev cX0_play : ByteArray := prog_2_method_2_code
def yX0_play : MethodName := ⟨RX0, "play", "(IIII)V"⟩
abbrev cX0_choose : ByteArray := prog_2_method_3_code
def yX0_choose : MethodName := ⟨RX0, "choose", "(III)V"⟩
abbrev cX0_gain : ByteArray := prog_2_method_4_code
def yX0_gain : MethodName := ⟨RX0, "gain", "(II)I"⟩
abbrev cX0_findRests : ByteArray := prog_2_method_5_code
def yX0_findRests : MethodName := ⟨RX0, "findRests", "(II)V"⟩
abbrev cX0_isRest : ByteArray := prog_2_method_6_code
def yX0_isRest : MethodName := ⟨RX0, "isRest", "(II)Z"⟩
def RX1 : String := "FenceYards$History"
def TX1 : u_T := fun k => match k with
  | 0 => ("FenceYards$History", "size", "I", false)
  | 1 => ("FenceYards$History", "rows", "[[I", true)
  | 2 => ("FenceYards$History", "next", "I", false)
  | 3 => ("FenceYards$History", "entries", "[[I", true)
  | 4 => ("FenceYards$History", "portrayed", "Z", false)
  | 5 => ("FenceYards$History", "portrait", "[I", true)
  | _ => ("FenceYards$History", "portraitEntries", "[[I", true)
def tyX1 : Nat → FieldType := fun k => match k with
  | 0 => .int
  | 1 => .array (.array .int)
  | 2 => .int
  | 3 => .array (.array .int)
  | 4 => .boolean
  | 5 => .array .int
  | _ => .array (.array .int)
theorem nmX1 : ∀ a, a < 7 → ∀ b, b < 7 → a ≠ b → (TX1 a).2.1 ≠ (TX1 b).2.1 := by decide +kernel
theorem tyX1_ok : ∀ k, k < 7 → parseFieldDescriptor (TX1 k).2.2.1 = some (tyX1 k) := by decide +kernel
abbrev cX1_init : ByteArray := prog_3_method_1_code
def yX1_init : MethodName := ⟨RX1, "<init>", "()V"⟩
abbrev cX1_logLength : ByteArray := prog_3_method_2_code
def yX1_logLength : MethodName := ⟨RX1, "logLength", "(LFenceYards$State;)I"⟩
abbrev cX1_clear : ByteArray := prog_3_method_3_code
def yX1_clear : MethodName := ⟨RX1, "clear", "()V"⟩
abbrev cX1_prepare : ByteArray := prog_3_method_4_code
def yX1_prepare : MethodName := ⟨RX1, "prepare", "(LFenceYards$State;)V"⟩
abbrev cX1_close : ByteArray := prog_3_method_5_code
def yX1_close : MethodName := ⟨RX1, "close", "()V"⟩
abbrev cX1_takeBack : ByteArray := prog_3_method_6_code
def yX1_takeBack : MethodName := ⟨RX1, "takeBack", "(LFenceYards$State;)Z"⟩
abbrev cX1_write : ByteArray := prog_3_method_7_code
def yX1_write : MethodName := ⟨RX1, "write", "(LFenceYards$State;)V"⟩
abbrev cX1_logged : ByteArray := prog_3_method_8_code
def yX1_logged : MethodName := ⟨RX1, "logged", "(II)I"⟩
abbrev cX1_portray : ByteArray := prog_3_method_9_code
def yX1_portray : MethodName := ⟨RX1, "portray", "(LFenceYards$State;)V"⟩
abbrev cX1_restore : ByteArray := prog_3_method_10_code
def yX1_restore : MethodName := ⟨RX1, "restore", "(LFenceYards$State;)Z"⟩
def RX2 : String := "FenceYards$Law"
def TX2 : u_T := fun k => match k with
  | 0 => ("FenceYards$Law", "code", "[I", true)
  | _ => ("FenceYards$Law", "stack", "[I", true)
def tyX2 : Nat → FieldType := fun k => match k with
  | 0 => .array .int
  | _ => .array .int
theorem nmX2 : ∀ a, a < 2 → ∀ b, b < 2 → a ≠ b → (TX2 a).2.1 ≠ (TX2 b).2.1 := by decide +kernel
theorem tyX2_ok : ∀ k, k < 2 → parseFieldDescriptor (TX2 k).2.2.1 = some (tyX2 k) := by decide +kernel
abbrev cX2_init : ByteArray := prog_4_method_1_code
def yX2_init : MethodName := ⟨RX2, "<init>", "([I)V"⟩
abbrev cX2_worth : ByteArray := prog_4_method_2_code
def yX2_worth : MethodName := ⟨RX2, "worth", "([I)I"⟩
abbrev cX2_clauseEnd : ByteArray := prog_4_method_3_code
def yX2_clauseEnd : MethodName := ⟨RX2, "clauseEnd", "(I)I"⟩
abbrev cX2_joined : ByteArray := prog_4_method_4_code
def yX2_joined : MethodName := ⟨RX2, "joined", "(III)I"⟩
def RX3 : String := "FenceYards$LawReader"
def TX3 : u_T := fun k => match k with
  | 0 => ("FenceYards$LawReader", "code", "[I", true)
  | 1 => ("FenceYards$LawReader", "size", "I", false)
  | _ => ("FenceYards$LawReader", "tape", "LFenceYards$Tape;", false)
def tyX3 : Nat → FieldType := fun k => match k with
  | 0 => .array .int
  | 1 => .int
  | _ => .object "FenceYards$Tape"
theorem nmX3 : ∀ a, a < 3 → ∀ b, b < 3 → a ≠ b → (TX3 a).2.1 ≠ (TX3 b).2.1 := by decide +kernel
theorem tyX3_ok : ∀ k, k < 3 → parseFieldDescriptor (TX3 k).2.2.1 = some (tyX3 k) := by decide +kernel
abbrev cX3_init : ByteArray := prog_5_method_1_code
def yX3_init : MethodName := ⟨RX3, "<init>", "()V"⟩
abbrev cX3_read : ByteArray := prog_5_method_2_code
def yX3_read : MethodName := ⟨RX3, "read", "(LFenceYards$Tape;)Z"⟩
abbrev cX3_readClause : ByteArray := prog_5_method_3_code
def yX3_readClause : MethodName := ⟨RX3, "readClause", "()Z"⟩
abbrev cX3_readRow : ByteArray := prog_5_method_4_code
def yX3_readRow : MethodName := ⟨RX3, "readRow", "(IIZ)Z"⟩
abbrev cX3_readUnit : ByteArray := prog_5_method_5_code
def yX3_readUnit : MethodName := ⟨RX3, "readUnit", "(IZ)Z"⟩
abbrev cX3_readAtom : ByteArray := prog_5_method_6_code
def yX3_readAtom : MethodName := ⟨RX3, "readAtom", "(I)Z"⟩
abbrev cX3_emit : ByteArray := prog_5_method_7_code
def yX3_emit : MethodName := ⟨RX3, "emit", "(I)Z"⟩
abbrev cX3_compares : ByteArray := prog_5_method_8_code
def yX3_compares : MethodName := ⟨RX3, "compares", "(I)Z"⟩
abbrev cX3_joins : ByteArray := prog_5_method_9_code
def yX3_joins : MethodName := ⟨RX3, "joins", "(II)Z"⟩
def RX4 : String := "FenceYards$Search"
def TX4 : u_T := fun k => match k with
  | 0 => ("FenceYards$Search", "bits", "I", false)
  | 1 => ("FenceYards$Search", "size", "I", false)
  | 2 => ("FenceYards$Search", "yards", "I", false)
  | 3 => ("FenceYards$Search", "allowed", "I", false)
  | 4 => ("FenceYards$Search", "aim", "I", false)
  | 5 => ("FenceYards$Search", "limit", "I", false)
  | 6 => ("FenceYards$Search", "state", "LFenceYards$State;", true)
  | _ => ("FenceYards$Search", "worths", "[I", true)
def tyX4 : Nat → FieldType := fun k => match k with
  | 0 => .int
  | 1 => .int
  | 2 => .int
  | 3 => .int
  | 4 => .int
  | 5 => .int
  | 6 => .object "FenceYards$State"
  | _ => .array .int
theorem nmX4 : ∀ a, a < 8 → ∀ b, b < 8 → a ≠ b → (TX4 a).2.1 ≠ (TX4 b).2.1 := by decide +kernel
theorem tyX4_ok : ∀ k, k < 8 → parseFieldDescriptor (TX4 k).2.2.1 = some (tyX4 k) := by decide +kernel
abbrev cX4_init : ByteArray := prog_6_method_1_code
def yX4_init : MethodName := ⟨RX4, "<init>", "(LFenceYards$State;)V"⟩
abbrev cX4_whiten : ByteArray := prog_6_method_2_code
def yX4_whiten : MethodName := ⟨RX4, "whiten", "(II)V"⟩
abbrev cX4_tryWhite : ByteArray := prog_6_method_3_code
def yX4_tryWhite : MethodName := ⟨RX4, "tryWhite", "(III)V"⟩
abbrev cX4_enrich : ByteArray := prog_6_method_4_code
def yX4_enrich : MethodName := ⟨RX4, "enrich", "(I)V"⟩
abbrev cX4_tryRich : ByteArray := prog_6_method_5_code
def yX4_tryRich : MethodName := ⟨RX4, "tryRich", "(IIII)V"⟩
abbrev cX4_pairUp : ByteArray := prog_6_method_6_code
def yX4_pairUp : MethodName := ⟨RX4, "pairUp", "()V"⟩
abbrev cX4_tryPairs : ByteArray := prog_6_method_7_code
def yX4_tryPairs : MethodName := ⟨RX4, "tryPairs", "(IIII)V"⟩
abbrev cX4_whiteOdds : ByteArray := prog_6_method_8_code
def yX4_whiteOdds : MethodName := ⟨RX4, "whiteOdds", "(II)I"⟩
abbrev cX4_whiteParts : ByteArray := prog_6_method_9_code
def yX4_whiteParts : MethodName := ⟨RX4, "whiteParts", "(IIII)I"⟩
def RX5 : String := "FenceYards$Setting"
def TX5 : u_T := fun k => match k with
  | 0 => ("FenceYards$Setting", "village", "LFenceYards$Village;", false)
  | 1 => ("FenceYards$Setting", "law", "LFenceYards$Law;", false)
  | _ => ("FenceYards$Setting", "letters", "[I", true)
def tyX5 : Nat → FieldType := fun k => match k with
  | 0 => .object "FenceYards$Village"
  | 1 => .object "FenceYards$Law"
  | _ => .array .int
theorem nmX5 : ∀ a, a < 3 → ∀ b, b < 3 → a ≠ b → (TX5 a).2.1 ≠ (TX5 b).2.1 := by decide +kernel
theorem tyX5_ok : ∀ k, k < 3 → parseFieldDescriptor (TX5 k).2.2.1 = some (tyX5 k) := by decide +kernel
abbrev cX5_init : ByteArray := prog_7_method_1_code
def yX5_init : MethodName := ⟨RX5, "<init>", "()V"⟩
def RX6 : String := "FenceYards$Sightings"
def TX6 : u_T := fun k => match k with
  | 0 => ("FenceYards$Sightings", "size", "I", false)
  | 1 => ("FenceYards$Sightings", "wrongs", "[I", true)
  | 2 => ("FenceYards$Sightings", "marks", "[I", true)
  | 3 => ("FenceYards$Sightings", "reached", "[Z", true)
  | 4 => ("FenceYards$Sightings", "yards", "[I", true)
  | _ => ("FenceYards$Sightings", "state", "LFenceYards$State;", true)
def tyX6 : Nat → FieldType := fun k => match k with
  | 0 => .int
  | 1 => .array .int
  | 2 => .array .int
  | 3 => .array .boolean
  | 4 => .array .int
  | _ => .object "FenceYards$State"
theorem nmX6 : ∀ a, a < 6 → ∀ b, b < 6 → a ≠ b → (TX6 a).2.1 ≠ (TX6 b).2.1 := by decide +kernel
theorem tyX6_ok : ∀ k, k < 6 → parseFieldDescriptor (TX6 k).2.2.1 = some (tyX6 k) := by decide +kernel
abbrev cX6_init : ByteArray := prog_8_method_1_code
def yX6_init : MethodName := ⟨RX6, "<init>", "(LFenceYards$State;)V"⟩
abbrev cX6_add : ByteArray := prog_8_method_2_code
def yX6_add : MethodName := ⟨RX6, "add", "(IIZ)V"⟩
abbrev cX6_fitting : ByteArray := prog_8_method_3_code
def yX6_fitting : MethodName := ⟨RX6, "fitting", "(I)I"⟩
abbrev cX6_agrees : ByteArray := prog_8_method_4_code
def yX6_agrees : MethodName := ⟨RX6, "agrees", "(II)Z"⟩
abbrev cX6_bestMark : ByteArray := prog_8_method_5_code
def yX6_bestMark : MethodName := ⟨RX6, "bestMark", "(I)I"⟩
abbrev cX6_apart : ByteArray := prog_8_method_6_code
def yX6_apart : MethodName := ⟨RX6, "apart", "(II)I"⟩
def RX7 : String := "FenceYards$Spring"
def TX7 : u_T := fun k => match k with
  | 0 => ("FenceYards$Spring", "kinds", "[I", true)
  | 1 => ("FenceYards$Spring", "firsts", "[I", true)
  | 2 => ("FenceYards$Spring", "seconds", "[I", true)
  | _ => ("FenceYards$Spring", "size", "I", false)
def tyX7 : Nat → FieldType := fun k => match k with
  | 0 => .array .int
  | 1 => .array .int
  | 2 => .array .int
  | _ => .int
theorem nmX7 : ∀ a, a < 4 → ∀ b, b < 4 → a ≠ b → (TX7 a).2.1 ≠ (TX7 b).2.1 := by decide +kernel
theorem tyX7_ok : ∀ k, k < 4 → parseFieldDescriptor (TX7 k).2.2.1 = some (tyX7 k) := by decide +kernel
abbrev cX7_init : ByteArray := prog_9_method_1_code
def yX7_init : MethodName := ⟨RX7, "<init>", "()V"⟩
abbrev cX7_read : ByteArray := prog_9_method_2_code
def yX7_read : MethodName := ⟨RX7, "read", "(LFenceYards$Tape;)Z"⟩
abbrev cX7_readStep : ByteArray := prog_9_method_3_code
def yX7_readStep : MethodName := ⟨RX7, "readStep", "(LFenceYards$Tape;I)Z"⟩
abbrev cX7_kindOf : ByteArray := prog_9_method_4_code
def yX7_kindOf : MethodName := ⟨RX7, "kindOf", "(I)I"⟩
def RX8 : String := "FenceYards$State"
def TX8 : u_T := fun k => match k with
  | 0 => ("FenceYards$State", "who", "[I", true)
  | 1 => ("FenceYards$State", "whom", "[I", true)
  | 2 => ("FenceYards$State", "heavy", "[I", true)
  | 3 => ("FenceYards$State", "truly", "[I", true)
  | 4 => ("FenceYards$State", "falsely", "[I", true)
  | 5 => ("FenceYards$State", "pardons", "[I", true)
  | 6 => ("FenceYards$State", "forgiven", "I", false)
  | 7 => ("FenceYards$State", "brown", "I", false)
  | 8 => ("FenceYards$State", "lime", "I", false)
  | 9 => ("FenceYards$State", "coins", "I", false)
  | 10 => ("FenceYards$State", "day", "I", false)
  | 11 => ("FenceYards$State", "came", "I", false)
  | 12 => ("FenceYards$State", "setting", "LFenceYards$Setting;", true)
  | _ => ("FenceYards$State", "row", "[I", true)
def tyX8 : Nat → FieldType := fun k => match k with
  | 0 => .array .int
  | 1 => .array .int
  | 2 => .array .int
  | 3 => .array .int
  | 4 => .array .int
  | 5 => .array .int
  | 6 => .int
  | 7 => .int
  | 8 => .int
  | 9 => .int
  | 10 => .int
  | 11 => .int
  | 12 => .object "FenceYards$Setting"
  | _ => .array .int
theorem nmX8 : ∀ a, a < 14 → ∀ b, b < 14 → a ≠ b → (TX8 a).2.1 ≠ (TX8 b).2.1 := by decide +kernel
theorem tyX8_ok : ∀ k, k < 14 → parseFieldDescriptor (TX8 k).2.2.1 = some (tyX8 k) := by decide +kernel
abbrev cX8_init : ByteArray := prog_10_method_1_code
def yX8_init : MethodName := ⟨RX8, "<init>", "(LFenceYards$Setting;)V"⟩
abbrev cX8_begin : ByteArray := prog_10_method_2_code
def yX8_begin : MethodName := ⟨RX8, "begin", "()V"⟩
abbrev cX8_keep : ByteArray := prog_10_method_3_code
def yX8_keep : MethodName := ⟨RX8, "keep", "([I)V"⟩
abbrev cX8_recall : ByteArray := prog_10_method_4_code
def yX8_recall : MethodName := ⟨RX8, "recall", "([I)V"⟩
abbrev cX8_copyFrom : ByteArray := prog_10_method_5_code
def yX8_copyFrom : MethodName := ⟨RX8, "copyFrom", "(LFenceYards$State;)V"⟩
abbrev cX8_isOpen : ByteArray := prog_10_method_6_code
def yX8_isOpen : MethodName := ⟨RX8, "isOpen", "(I)Z"⟩
abbrev cX8_whiteYards : ByteArray := prog_10_method_7_code
def yX8_whiteYards : MethodName := ⟨RX8, "whiteYards", "(I)I"⟩
abbrev cX8_bare : ByteArray := prog_10_method_8_code
def yX8_bare : MethodName := ⟨RX8, "bare", "(I)I"⟩
abbrev cX8_bareInAll : ByteArray := prog_10_method_9_code
def yX8_bareInAll : MethodName := ⟨RX8, "bareInAll", "()I"⟩
abbrev cX8_whites : ByteArray := prog_10_method_10_code
def yX8_whites : MethodName := ⟨RX8, "whites", "()I"⟩
abbrev cX8_falseFarms : ByteArray := prog_10_method_11_code
def yX8_falseFarms : MethodName := ⟨RX8, "falseFarms", "()I"⟩
abbrev cX8_opens : ByteArray := prog_10_method_12_code
def yX8_opens : MethodName := ⟨RX8, "opens", "()I"⟩
abbrev cX8_doneBy : ByteArray := prog_10_method_13_code
def yX8_doneBy : MethodName := ⟨RX8, "doneBy", "(I)I"⟩
abbrev cX8_doneTo : ByteArray := prog_10_method_14_code
def yX8_doneTo : MethodName := ⟨RX8, "doneTo", "(I)I"⟩
abbrev cX8_reachedFrom : ByteArray := prog_10_method_15_code
def yX8_reachedFrom : MethodName := ⟨RX8, "reachedFrom", "(I)I"⟩
abbrev cX8_links : ByteArray := prog_10_method_16_code
def yX8_links : MethodName := ⟨RX8, "links", "(II)I"⟩
abbrev cX8_yardsOf : ByteArray := prog_10_method_17_code
def yX8_yardsOf : MethodName := ⟨RX8, "yardsOf", "(I)I"⟩
abbrev cX8_paintOff : ByteArray := prog_10_method_18_code
def yX8_paintOff : MethodName := ⟨RX8, "paintOff", "(I)I"⟩
abbrev cX8_scrapeOff : ByteArray := prog_10_method_19_code
def yX8_scrapeOff : MethodName := ⟨RX8, "scrapeOff", "(II)V"⟩
abbrev cX8_pardon : ByteArray := prog_10_method_20_code
def yX8_pardon : MethodName := ⟨RX8, "pardon", "(I)I"⟩
abbrev cX8_daub : ByteArray := prog_10_method_21_code
def yX8_daub : MethodName := ⟨RX8, "daub", "(II)I"⟩
abbrev cX8_thumb : ByteArray := prog_10_method_22_code
def yX8_thumb : MethodName := ⟨RX8, "thumb", "(I)I"⟩
abbrev cX8_offend : ByteArray := prog_10_method_23_code
def yX8_offend : MethodName := ⟨RX8, "offend", "(III)I"⟩
abbrev cX8_wear : ByteArray := prog_10_method_24_code
def yX8_wear : MethodName := ⟨RX8, "wear", "()V"⟩
abbrev cX8_take : ByteArray := prog_10_method_25_code
def yX8_take : MethodName := ⟨RX8, "take", "(LFenceYards$Spring;I)I"⟩
def RX9 : String := "FenceYards$Tape"
def TX9 : u_T := fun k => match k with
  | 0 => ("FenceYards$Tape", "bytes", "[I", true)
  | 1 => ("FenceYards$Tape", "length", "I", false)
  | _ => ("FenceYards$Tape", "at", "I", false)
def tyX9 : Nat → FieldType := fun k => match k with
  | 0 => .array .int
  | 1 => .int
  | _ => .int
theorem nmX9 : ∀ a, a < 3 → ∀ b, b < 3 → a ≠ b → (TX9 a).2.1 ≠ (TX9 b).2.1 := by decide +kernel
theorem tyX9_ok : ∀ k, k < 3 → parseFieldDescriptor (TX9 k).2.2.1 = some (tyX9 k) := by decide +kernel
abbrev cX9_init : ByteArray := prog_11_method_1_code
def yX9_init : MethodName := ⟨RX9, "<init>", "()V"⟩
abbrev cX9_bytesIn : ByteArray := prog_11_method_2_code
def yX9_bytesIn : MethodName := ⟨RX9, "bytesIn", "(I)I"⟩
abbrev cX9_append : ByteArray := prog_11_method_3_code
def yX9_append : MethodName := ⟨RX9, "append", "(I)V"⟩
abbrev cX9_next : ByteArray := prog_11_method_4_code
def yX9_next : MethodName := ⟨RX9, "next", "()I"⟩
abbrev cX9_accept : ByteArray := prog_11_method_5_code
def yX9_accept : MethodName := ⟨RX9, "accept", "(I)Z"⟩
abbrev cX9_digit : ByteArray := prog_11_method_6_code
def yX9_digit : MethodName := ⟨RX9, "digit", "()I"⟩
abbrev cX9_number : ByteArray := prog_11_method_7_code
def yX9_number : MethodName := ⟨RX9, "number", "(I)I"⟩
abbrev cX9_atDigit : ByteArray := prog_11_method_8_code
def yX9_atDigit : MethodName := ⟨RX9, "atDigit", "()Z"⟩
def RX10 : String := "FenceYards$Village"
def TX10 : u_T := fun k => match k with
  | 0 => ("FenceYards$Village", "yards", "[I", true)
  | 1 => ("FenceYards$Village", "grudges", "[I", true)
  | 2 => ("FenceYards$Village", "who", "[I", true)
  | 3 => ("FenceYards$Village", "whom", "[I", true)
  | 4 => ("FenceYards$Village", "heavy", "[I", true)
  | 5 => ("FenceYards$Village", "farms", "I", false)
  | 6 => ("FenceYards$Village", "told", "I", false)
  | 7 => ("FenceYards$Village", "lime", "I", false)
  | 8 => ("FenceYards$Village", "coins", "I", false)
  | 9 => ("FenceYards$Village", "ruled", "Z", false)
  | _ => ("FenceYards$Village", "items", "[I", true)
def tyX10 : Nat → FieldType := fun k => match k with
  | 0 => .array .int
  | 1 => .array .int
  | 2 => .array .int
  | 3 => .array .int
  | 4 => .array .int
  | 5 => .int
  | 6 => .int
  | 7 => .int
  | 8 => .int
  | 9 => .boolean
  | _ => .array .int
theorem nmX10 : ∀ a, a < 11 → ∀ b, b < 11 → a ≠ b → (TX10 a).2.1 ≠ (TX10 b).2.1 := by decide +kernel
theorem tyX10_ok : ∀ k, k < 11 → parseFieldDescriptor (TX10 k).2.2.1 = some (tyX10 k) := by decide +kernel
abbrev cX10_init : ByteArray := prog_12_method_1_code
def yX10_init : MethodName := ⟨RX10, "<init>", "()V"⟩
abbrev cX10_isFarm : ByteArray := prog_12_method_2_code
def yX10_isFarm : MethodName := ⟨RX10, "isFarm", "(I)Z"⟩
abbrev cX10_read : ByteArray := prog_12_method_3_code
def yX10_read : MethodName := ⟨RX10, "read", "(LFenceYards$Tape;)Z"⟩
abbrev cX10_readClause : ByteArray := prog_12_method_4_code
def yX10_readClause : MethodName := ⟨RX10, "readClause", "(LFenceYards$Tape;)Z"⟩
abbrev cX10_readRules : ByteArray := prog_12_method_5_code
def yX10_readRules : MethodName := ⟨RX10, "readRules", "(LFenceYards$Tape;)Z"⟩
abbrev cX10_readFarm : ByteArray := prog_12_method_6_code
def yX10_readFarm : MethodName := ⟨RX10, "readFarm", "(LFenceYards$Tape;)Z"⟩
abbrev cX10_readWrong : ByteArray := prog_12_method_7_code
def yX10_readWrong : MethodName := ⟨RX10, "readWrong", "(LFenceYards$Tape;)Z"⟩
abbrev cX10_readItems : ByteArray := prog_12_method_8_code
def yX10_readItems : MethodName := ⟨RX10, "readItems", "(LFenceYards$Tape;Ljava/lang/String;[I)Z"⟩
abbrev cX10_isWhole : ByteArray := prog_12_method_9_code
def yX10_isWhole : MethodName := ⟨RX10, "isWhole", "()Z"⟩
def RX11 : String := "FenceYards"
def TX11 : u_T := fun k => match k with
  | 0 => ("FenceYards", "tape", "LFenceYards$Tape;", true)
  | 1 => ("FenceYards", "setting", "LFenceYards$Setting;", true)
  | 2 => ("FenceYards", "now", "LFenceYards$State;", true)
  | 3 => ("FenceYards", "apart", "LFenceYards$State;", true)
  | 4 => ("FenceYards", "history", "LFenceYards$History;", true)
  | 5 => ("FenceYards", "search", "LFenceYards$Search;", true)
  | 6 => ("FenceYards", "sightings", "LFenceYards$Sightings;", true)
  | 7 => ("FenceYards", "gamble", "LFenceYards$Gamble;", true)
  | 8 => ("FenceYards", "lawReader", "LFenceYards$LawReader;", true)
  | 9 => ("FenceYards", "laws", "[LFenceYards$Law;", true)
  | 10 => ("FenceYards", "springs", "[LFenceYards$Spring;", true)
  | 11 => ("FenceYards", "villageDraft", "LFenceYards$Village;", false)
  | 12 => ("FenceYards", "springDraft", "LFenceYards$Spring;", false)
  | 13 => ("FenceYards", "lawCount", "I", false)
  | 14 => ("FenceYards", "springCount", "I", false)
  | 15 => ("FenceYards", "lawHeld", "I", false)
  | 16 => ("FenceYards", "appleMark", "I", false)
  | _ => ("FenceYards", "drawn", "J", false)
def tyX11 : Nat → FieldType := fun k => match k with
  | 0 => .object "FenceYards$Tape"
  | 1 => .object "FenceYards$Setting"
  | 2 => .object "FenceYards$State"
  | 3 => .object "FenceYards$State"
  | 4 => .object "FenceYards$History"
  | 5 => .object "FenceYards$Search"
  | 6 => .object "FenceYards$Sightings"
  | 7 => .object "FenceYards$Gamble"
  | 8 => .object "FenceYards$LawReader"
  | 9 => .array (.object "FenceYards$Law")
  | 10 => .array (.object "FenceYards$Spring")
  | 11 => .object "FenceYards$Village"
  | 12 => .object "FenceYards$Spring"
  | 13 => .int
  | 14 => .int
  | 15 => .int
  | 16 => .int
  | _ => .long
theorem nmX11 : ∀ a, a < 18 → ∀ b, b < 18 → a ≠ b → (TX11 a).2.1 ≠ (TX11 b).2.1 := by decide +kernel
theorem tyX11_ok : ∀ k, k < 18 → parseFieldDescriptor (TX11 k).2.2.1 = some (tyX11 k) := by decide +kernel
abbrev cX11_init : ByteArray := prog_1_method_1_code
def yX11_init : MethodName := ⟨RX11, "<init>", "()V"⟩
abbrev cX11_feed : ByteArray := prog_1_method_2_code
def yX11_feed : MethodName := ⟨RX11, "feed", "(IIIII)I"⟩
abbrev cX11_end : ByteArray := prog_1_method_3_code
def yX11_end : MethodName := ⟨RX11, "end", "(I)Z"⟩
abbrev cX11_fault : ByteArray := prog_1_method_4_code
def yX11_fault : MethodName := ⟨RX11, "fault", "(I)I"⟩
abbrev cX11_text : ByteArray := prog_1_method_5_code
def yX11_text : MethodName := ⟨RX11, "text", "(I)I"⟩
abbrev cX11_farm : ByteArray := prog_1_method_6_code
def yX11_farm : MethodName := ⟨RX11, "farm", "(II)I"⟩
abbrev cX11_wrong : ByteArray := prog_1_method_7_code
def yX11_wrong : MethodName := ⟨RX11, "wrong", "(II)I"⟩
abbrev cX11_law : ByteArray := prog_1_method_8_code
def yX11_law : MethodName := ⟨RX11, "law", "(I)Z"⟩
abbrev cX11_apples : ByteArray := prog_1_method_9_code
def yX11_apples : MethodName := ⟨RX11, "apples", "(I)Z"⟩
abbrev cX11_forgive : ByteArray := prog_1_method_10_code
def yX11_forgive : MethodName := ⟨RX11, "forgive", "(I)I"⟩
abbrev cX11_paint : ByteArray := prog_1_method_11_code
def yX11_paint : MethodName := ⟨RX11, "paint", "(II)I"⟩
abbrev cX11_inspect : ByteArray := prog_1_method_12_code
def yX11_inspect : MethodName := ⟨RX11, "inspect", "(I)I"⟩
abbrev cX11_sin : ByteArray := prog_1_method_13_code
def yX11_sin : MethodName := ⟨RX11, "sin", "(III)I"⟩
abbrev cX11_buy : ByteArray := prog_1_method_14_code
def yX11_buy : MethodName := ⟨RX11, "buy", "(I)I"⟩
abbrev cX11_give : ByteArray := prog_1_method_15_code
def yX11_give : MethodName := ⟨RX11, "give", "(I)I"⟩
abbrev cX11_day : ByteArray := prog_1_method_16_code
def yX11_day : MethodName := ⟨RX11, "day", "()I"⟩
abbrev cX11_years : ByteArray := prog_1_method_17_code
def yX11_years : MethodName := ⟨RX11, "years", "(IJ)I"⟩
abbrev cX11_undo : ByteArray := prog_1_method_18_code
def yX11_undo : MethodName := ⟨RX11, "undo", "()I"⟩
abbrev cX11_log : ByteArray := prog_1_method_19_code
def yX11_log : MethodName := ⟨RX11, "log", "(II)I"⟩
abbrev cX11_step : ByteArray := prog_1_method_20_code
def yX11_step : MethodName := ⟨RX11, "step", "(III)I"⟩
abbrev cX11_run : ByteArray := prog_1_method_21_code
def yX11_run : MethodName := ⟨RX11, "run", "(II)I"⟩
abbrev cX11_perform : ByteArray := prog_1_method_22_code
def yX11_perform : MethodName := ⟨RX11, "perform", "(I)I"⟩
abbrev cX11_least : ByteArray := prog_1_method_23_code
def yX11_least : MethodName := ⟨RX11, "least", "(II)I"⟩
abbrev cX11_every : ByteArray := prog_1_method_24_code
def yX11_every : MethodName := ⟨RX11, "every", "(I)I"⟩
abbrev cX11_richest : ByteArray := prog_1_method_25_code
def yX11_richest : MethodName := ⟨RX11, "richest", "(II)I"⟩
abbrev cX11_pairs : ByteArray := prog_1_method_26_code
def yX11_pairs : MethodName := ⟨RX11, "pairs", "(I)I"⟩
abbrev cX11_seen : ByteArray := prog_1_method_27_code
def yX11_seen : MethodName := ⟨RX11, "seen", "(IIZ)I"⟩
abbrev cX11_weights : ByteArray := prog_1_method_28_code
def yX11_weights : MethodName := ⟨RX11, "weights", "(II)I"⟩
abbrev cX11_ask : ByteArray := prog_1_method_29_code
def yX11_ask : MethodName := ⟨RX11, "ask", "(I)I"⟩
abbrev cX11_ring : ByteArray := prog_1_method_30_code
def yX11_ring : MethodName := ⟨RX11, "ring", "()I"⟩
abbrev cX11_chain : ByteArray := prog_1_method_31_code
def yX11_chain : MethodName := ⟨RX11, "chain", "(II)I"⟩
abbrev cX11_score : ByteArray := prog_1_method_32_code
def yX11_score : MethodName := ⟨RX11, "score", "(II)I"⟩
abbrev cX11_game : ByteArray := prog_1_method_33_code
def yX11_game : MethodName := ⟨RX11, "game", "(IIIII)I"⟩
abbrev cX11_rests : ByteArray := prog_1_method_34_code
def yX11_rests : MethodName := ⟨RX11, "rests", "(III)I"⟩
abbrev cX11_odds : ByteArray := prog_1_method_35_code
def yX11_odds : MethodName := ⟨RX11, "odds", "(II)I"⟩
abbrev cX11_shares : ByteArray := prog_1_method_36_code
def yX11_shares : MethodName := ⟨RX11, "shares", "(II)I"⟩
abbrev cX11_fades : ByteArray := prog_1_method_37_code
def yX11_fades : MethodName := ⟨RX11, "fades", "(I)I"⟩
abbrev cX11_all : ByteArray := prog_1_method_38_code
def yX11_all : MethodName := ⟨RX11, "all", "(I)I"⟩
abbrev cX11_image : ByteArray := prog_1_method_39_code
def yX11_image : MethodName := ⟨RX11, "image", "()I"⟩
abbrev cX11_back : ByteArray := prog_1_method_40_code
def yX11_back : MethodName := ⟨RX11, "back", "()I"⟩
abbrev cX11_count : ByteArray := prog_1_method_41_code
def yX11_count : MethodName := ⟨RX11, "count", "(I)I"⟩
abbrev cX11_reads : ByteArray := prog_1_method_42_code
def yX11_reads : MethodName := ⟨RX11, "reads", "(I)Z"⟩
abbrev cX11_hasRoom : ByteArray := prog_1_method_43_code
def yX11_hasRoom : MethodName := ⟨RX11, "hasRoom", "(I)Z"⟩
abbrev cX11_settle : ByteArray := prog_1_method_44_code
def yX11_settle : MethodName := ⟨RX11, "settle", "()I"⟩
abbrev cX11_keepLaw : ByteArray := prog_1_method_45_code
def yX11_keepLaw : MethodName := ⟨RX11, "keepLaw", "()I"⟩
abbrev cX11_keepSpring : ByteArray := prog_1_method_46_code
def yX11_keepSpring : MethodName := ⟨RX11, "keepSpring", "()I"⟩
abbrev cX11_hasVillage : ByteArray := prog_1_method_47_code
def yX11_hasVillage : MethodName := ⟨RX11, "hasVillage", "()Z"⟩
abbrev cX11_isFarm : ByteArray := prog_1_method_48_code
def yX11_isFarm : MethodName := ⟨RX11, "isFarm", "(I)Z"⟩
abbrev cX11_isTold : ByteArray := prog_1_method_49_code
def yX11_isTold : MethodName := ⟨RX11, "isTold", "(I)Z"⟩
abbrev cX11_isSpring : ByteArray := prog_1_method_50_code
def yX11_isSpring : MethodName := ⟨RX11, "isSpring", "(I)Z"⟩
abbrev cX11_acted : ByteArray := prog_1_method_51_code
def yX11_acted : MethodName := ⟨RX11, "acted", "(I)I"⟩
abbrev cX11_draw : ByteArray := prog_1_method_52_code
def yX11_draw : MethodName := ⟨RX11, "draw", "(I)I"⟩
abbrev cX11_quarrel : ByteArray := prog_1_method_53_code
def yX11_quarrel : MethodName := ⟨RX11, "quarrel", "()V"⟩
abbrev cX11_foremost : ByteArray := prog_1_method_54_code
def yX11_foremost : MethodName := ⟨RX11, "foremost", "(I)I"⟩
abbrev cX11_measure : ByteArray := prog_1_method_55_code
def yX11_measure : MethodName := ⟨RX11, "measure", "(II)I"⟩
abbrev cX11_heaviestPlace : ByteArray := prog_1_method_56_code
def yX11_heaviestPlace : MethodName := ⟨RX11, "heaviestPlace", "()I"⟩
abbrev cX11_sum : ByteArray := prog_1_method_57_code
def yX11_sum : MethodName := ⟨RX11, "sum", "([I)I"⟩
abbrev cX11_bitAt : ByteArray := prog_1_method_58_code
def yX11_bitAt : MethodName := ⟨RX11, "bitAt", "(II)I"⟩
def RX12 : String := "FenceYardsModel"
def TX12 : u_T := fun k => match k with
  | 0 => ("FenceYardsModel", "thrown", "I", false)
  | 1 => ("FenceYardsModel", "tape", "[B", true)
  | 2 => ("FenceYardsModel", "texts", "[B", true)
  | 3 => ("FenceYardsModel", "textLong", "[I", true)
  | 4 => ("FenceYardsModel", "letters", "[I", true)
  | 5 => ("FenceYardsModel", "text", "[B", false)
  | 6 => ("FenceYardsModel", "length", "I", false)
  | 7 => ("FenceYardsModel", "lawMany", "I", false)
  | 8 => ("FenceYardsModel", "begins", "I", false)
  | 9 => ("FenceYardsModel", "ends", "I", false)
  | 10 => ("FenceYardsModel", "at", "I", false)
  | 11 => ("FenceYardsModel", "fault", "I", false)
  | 12 => ("FenceYardsModel", "deep", "I", false)
  | 13 => ("FenceYardsModel", "label", "I", false)
  | 14 => ("FenceYardsModel", "found", "I", false)
  | 15 => ("FenceYardsModel", "labels", "Ljava/lang/String;", true)
  | 16 => ("FenceYardsModel", "allowed", "Ljava/lang/String;", true)
  | 17 => ("FenceYardsModel", "hasFound", "Z", false)
  | 18 => ("FenceYardsModel", "rule", "[I", true)
  | 19 => ("FenceYardsModel", "ruleRead", "[I", true)
  | 20 => ("FenceYardsModel", "fence", "[I", true)
  | 21 => ("FenceYardsModel", "fenceRead", "[I", true)
  | 22 => ("FenceYardsModel", "ill", "[I", true)
  | 23 => ("FenceYardsModel", "illRead", "[I", true)
  | 24 => ("FenceYardsModel", "plan", "[I", true)
  | 25 => ("FenceYardsModel", "planLong", "[I", true)
  | 26 => ("FenceYardsModel", "farms", "I", false)
  | 27 => ("FenceYardsModel", "wrongs", "I", false)
  | 28 => ("FenceYardsModel", "farmsRead", "I", false)
  | 29 => ("FenceYardsModel", "wrongsRead", "I", false)
  | 30 => ("FenceYardsModel", "plans", "I", false)
  | 31 => ("FenceYardsModel", "hasRules", "Z", false)
  | 32 => ("FenceYardsModel", "now", "[I", true)
  | 33 => ("FenceYardsModel", "trial", "[I", true)
  | 34 => ("FenceYardsModel", "law", "I", false)
  | 35 => ("FenceYardsModel", "sweet", "I", false)
  | 36 => ("FenceYardsModel", "memoKey", "[J", true)
  | 37 => ("FenceYardsModel", "memoWorth", "[I", true)
  | 38 => ("FenceYardsModel", "undoRow", "[I", true)
  | 39 => ("FenceYardsModel", "acts", "I", false)
  | 40 => ("FenceYardsModel", "x", "J", false)
  | 41 => ("FenceYardsModel", "pairRow", "I", false)
  | 42 => ("FenceYardsModel", "pairMost", "I", false)
  | 43 => ("FenceYardsModel", "sight", "[I", true)
  | 44 => ("FenceYardsModel", "sights", "I", false)
  | 45 => ("FenceYardsModel", "far", "[I", true)
  | 46 => ("FenceYardsModel", "imageRow", "[I", true)
  | _ => ("FenceYardsModel", "hasImage", "Z", false)
def tyX12 : Nat → FieldType := fun k => match k with
  | 0 => .int
  | 1 => .array .byte
  | 2 => .array .byte
  | 3 => .array .int
  | 4 => .array .int
  | 5 => .array .byte
  | 6 => .int
  | 7 => .int
  | 8 => .int
  | 9 => .int
  | 10 => .int
  | 11 => .int
  | 12 => .int
  | 13 => .int
  | 14 => .int
  | 15 => .object "java/lang/String"
  | 16 => .object "java/lang/String"
  | 17 => .boolean
  | 18 => .array .int
  | 19 => .array .int
  | 20 => .array .int
  | 21 => .array .int
  | 22 => .array .int
  | 23 => .array .int
  | 24 => .array .int
  | 25 => .array .int
  | 26 => .int
  | 27 => .int
  | 28 => .int
  | 29 => .int
  | 30 => .int
  | 31 => .boolean
  | 32 => .array .int
  | 33 => .array .int
  | 34 => .int
  | 35 => .int
  | 36 => .array .long
  | 37 => .array .int
  | 38 => .array .int
  | 39 => .int
  | 40 => .long
  | 41 => .int
  | 42 => .int
  | 43 => .array .int
  | 44 => .int
  | 45 => .array .int
  | 46 => .array .int
  | _ => .boolean
theorem nmX12 : ∀ a, a < 48 → ∀ b, b < 48 → a ≠ b → (TX12 a).2.1 ≠ (TX12 b).2.1 := by decide +kernel
theorem tyX12_ok : ∀ k, k < 48 → parseFieldDescriptor (TX12 k).2.2.1 = some (tyX12 k) := by decide +kernel
abbrev cX12_init : ByteArray := prog_14_method_1_code
def yX12_init : MethodName := ⟨RX12, "<init>", "()V"⟩
abbrev cX12_thrown : ByteArray := prog_14_method_2_code
def yX12_thrown : MethodName := ⟨RX12, "thrown", "()I"⟩
abbrev cX12_isIn : ByteArray := prog_14_method_3_code
def yX12_isIn : MethodName := ⟨RX12, "isIn", "(JJJ)Z"⟩
abbrev cX12_has : ByteArray := prog_14_method_4_code
def yX12_has : MethodName := ⟨RX12, "has", "(II)Z"⟩
abbrev cX12_isAmong : ByteArray := prog_14_method_5_code
def yX12_isAmong : MethodName := ⟨RX12, "isAmong", "(Ljava/lang/String;I)Z"⟩
abbrev cX12_bytesIn : ByteArray := prog_14_method_6_code
def yX12_bytesIn : MethodName := ⟨RX12, "bytesIn", "(I)I"⟩
abbrev cX12_put : ByteArray := prog_14_method_7_code
def yX12_put : MethodName := ⟨RX12, "put", "(I)V"⟩
abbrev cX12_feed : ByteArray := prog_14_method_8_code
def yX12_feed : MethodName := ⟨RX12, "feed", "(IIIII)I"⟩
abbrev cX12_end : ByteArray := prog_14_method_9_code
def yX12_end : MethodName := ⟨RX12, "end", "(I)Z"⟩
abbrev cX12_look : ByteArray := prog_14_method_10_code
def yX12_look : MethodName := ⟨RX12, "look", "()I"⟩
abbrev cX12_fails : ByteArray := prog_14_method_11_code
def yX12_fails : MethodName := ⟨RX12, "fails", "()Z"⟩
abbrev cX12_goesIn : ByteArray := prog_14_method_12_code
def yX12_goesIn : MethodName := ⟨RX12, "goesIn", "()Z"⟩
abbrev cX12_takes : ByteArray := prog_14_method_13_code
def yX12_takes : MethodName := ⟨RX12, "takes", "(I)Z"⟩
abbrev cX12_isDigit : ByteArray := prog_14_method_14_code
def yX12_isDigit : MethodName := ⟨RX12, "isDigit", "()Z"⟩
abbrev cX12_within : ByteArray := prog_14_method_15_code
def yX12_within : MethodName := ⟨RX12, "within", "(J)I"⟩
abbrev cX12_atom : ByteArray := prog_14_method_16_code
def yX12_atom : MethodName := ⟨RX12, "atom", "()I"⟩
abbrev cX12_term : ByteArray := prog_14_method_17_code
def yX12_term : MethodName := ⟨RX12, "term", "()I"⟩
abbrev cX12_sum : ByteArray := prog_14_method_18_code
def yX12_sum : MethodName := ⟨RX12, "sum", "()I"⟩
abbrev cX12_isSign : ByteArray := prog_14_method_19_code
def yX12_isSign : MethodName := ⟨RX12, "isSign", "(I)Z"⟩
abbrev cX12_compares : ByteArray := prog_14_method_20_code
def yX12_compares : MethodName := ⟨RX12, "compares", "(ZI)Z"⟩
abbrev cX12_unit : ByteArray := prog_14_method_21_code
def yX12_unit : MethodName := ⟨RX12, "unit", "()Z"⟩
abbrev cX12_part : ByteArray := prog_14_method_22_code
def yX12_part : MethodName := ⟨RX12, "part", "(ZI)Z"⟩
abbrev cX12_condition : ByteArray := prog_14_method_23_code
def yX12_condition : MethodName := ⟨RX12, "condition", "(ZI)Z"⟩
abbrev cX12_clause : ByteArray := prog_14_method_24_code
def yX12_clause : MethodName := ⟨RX12, "clause", "()V"⟩
abbrev cX12_starts : ByteArray := prog_14_method_25_code
def yX12_starts : MethodName := ⟨RX12, "starts", "([BII)V"⟩
abbrev cX12_goThrough : ByteArray := prog_14_method_26_code
def yX12_goThrough : MethodName := ⟨RX12, "goThrough", "([BII)V"⟩
abbrev cX12_here : ByteArray := prog_14_method_27_code
def yX12_here : MethodName := ⟨RX12, "here", "()I"⟩
abbrev cX12_spotOf : ByteArray := prog_14_method_28_code
def yX12_spotOf : MethodName := ⟨RX12, "spotOf", "(Ljava/lang/String;I)I"⟩
abbrev cX12_number : ByteArray := prog_14_method_29_code
def yX12_number : MethodName := ⟨RX12, "number", "(II)I"⟩
abbrev cX12_mostOf : ByteArray := prog_14_method_30_code
def yX12_mostOf : MethodName := ⟨RX12, "mostOf", "(II)I"⟩
abbrev cX12_leastOf : ByteArray := prog_14_method_31_code
def yX12_leastOf : MethodName := ⟨RX12, "leastOf", "(II)I"⟩
abbrev cX12_usual : ByteArray := prog_14_method_32_code
def yX12_usual : MethodName := ⟨RX12, "usual", "(II)I"⟩
abbrev cX12_readItems : ByteArray := prog_14_method_33_code
def yX12_readItems : MethodName := ⟨RX12, "readItems", "(I[IILjava/lang/String;)V"⟩
abbrev cX12_readClause : ByteArray := prog_14_method_34_code
def yX12_readClause : MethodName := ⟨RX12, "readClause", "()V"⟩
abbrev cX12_isWhole : ByteArray := prog_14_method_35_code
def yX12_isWhole : MethodName := ⟨RX12, "isWhole", "()Z"⟩
abbrev cX12_readVillage : ByteArray := prog_14_method_36_code
def yX12_readVillage : MethodName := ⟨RX12, "readVillage", "()V"⟩
abbrev cX12_digit : ByteArray := prog_14_method_37_code
def yX12_digit : MethodName := ⟨RX12, "digit", "()I"⟩
abbrev cX12_readStep : ByteArray := prog_14_method_38_code
def yX12_readStep : MethodName := ⟨RX12, "readStep", "(I)V"⟩
abbrev cX12_readPlan : ByteArray := prog_14_method_39_code
def yX12_readPlan : MethodName := ⟨RX12, "readPlan", "()V"⟩
abbrev cX12_fault : ByteArray := prog_14_method_40_code
def yX12_fault : MethodName := ⟨RX12, "fault", "(I)I"⟩
abbrev cX12_text : ByteArray := prog_14_method_41_code
def yX12_text : MethodName := ⟨RX12, "text", "(I)I"⟩
abbrev cX12_copy : ByteArray := prog_14_method_42_code
def yX12_copy : MethodName := ⟨RX12, "copy", "([I[I)V"⟩
abbrev cX12_isFarm : ByteArray := prog_14_method_43_code
def yX12_isFarm : MethodName := ⟨RX12, "isFarm", "(I)Z"⟩
abbrev cX12_areTwo : ByteArray := prog_14_method_44_code
def yX12_areTwo : MethodName := ⟨RX12, "areTwo", "(II)Z"⟩
abbrev cX12_isOpen : ByteArray := prog_14_method_45_code
def yX12_isOpen : MethodName := ⟨RX12, "isOpen", "([II)Z"⟩
abbrev cX12_white : ByteArray := prog_14_method_46_code
def yX12_white : MethodName := ⟨RX12, "white", "([II)I"⟩
abbrev cX12_bare : ByteArray := prog_14_method_47_code
def yX12_bare : MethodName := ⟨RX12, "bare", "([II)I"⟩
abbrev cX12_worthOf : ByteArray := prog_14_method_48_code
def yX12_worthOf : MethodName := ⟨RX12, "worthOf", "(IIIIII)I"⟩
abbrev cX12_yardsBy : ByteArray := prog_14_method_49_code
def yX12_yardsBy : MethodName := ⟨RX12, "yardsBy", "(IIIIII)I"⟩
abbrev cX12_yardsOf : ByteArray := prog_14_method_50_code
def yX12_yardsOf : MethodName := ⟨RX12, "yardsOf", "([II)I"⟩
abbrev cX12_forgives : ByteArray := prog_14_method_51_code
def yX12_forgives : MethodName := ⟨RX12, "forgives", "([II)I"⟩
abbrev cX12_canPaint : ByteArray := prog_14_method_52_code
def yX12_canPaint : MethodName := ⟨RX12, "canPaint", "([III)Z"⟩
abbrev cX12_paints : ByteArray := prog_14_method_53_code
def yX12_paints : MethodName := ⟨RX12, "paints", "([III)V"⟩
abbrev cX12_canInspect : ByteArray := prog_14_method_54_code
def yX12_canInspect : MethodName := ⟨RX12, "canInspect", "([II)Z"⟩
abbrev cX12_inspects : ByteArray := prog_14_method_55_code
def yX12_inspects : MethodName := ⟨RX12, "inspects", "([II)I"⟩
abbrev cX12_whites : ByteArray := prog_14_method_56_code
def yX12_whites : MethodName := ⟨RX12, "whites", "([I)I"⟩
abbrev cX12_wears : ByteArray := prog_14_method_57_code
def yX12_wears : MethodName := ⟨RX12, "wears", "([I)I"⟩
abbrev cX12_goDay : ByteArray := prog_14_method_58_code
def yX12_goDay : MethodName := ⟨RX12, "goDay", "([I)I"⟩
abbrev cX12_farm : ByteArray := prog_14_method_59_code
def yX12_farm : MethodName := ⟨RX12, "farm", "(II)I"⟩
abbrev cX12_wrong : ByteArray := prog_14_method_60_code
def yX12_wrong : MethodName := ⟨RX12, "wrong", "(II)I"⟩
abbrev cX12_law : ByteArray := prog_14_method_61_code
def yX12_law : MethodName := ⟨RX12, "law", "(I)Z"⟩
abbrev cX12_apples : ByteArray := prog_14_method_62_code
def yX12_apples : MethodName := ⟨RX12, "apples", "(I)Z"⟩
abbrev cX12_remember : ByteArray := prog_14_method_63_code
def yX12_remember : MethodName := ⟨RX12, "remember", "()V"⟩
abbrev cX12_forgive : ByteArray := prog_14_method_64_code
def yX12_forgive : MethodName := ⟨RX12, "forgive", "(I)I"⟩
abbrev cX12_paint : ByteArray := prog_14_method_65_code
def yX12_paint : MethodName := ⟨RX12, "paint", "(II)I"⟩
abbrev cX12_inspect : ByteArray := prog_14_method_66_code
def yX12_inspect : MethodName := ⟨RX12, "inspect", "(I)I"⟩
abbrev cX12_freePlace : ByteArray := prog_14_method_67_code
def yX12_freePlace : MethodName := ⟨RX12, "freePlace", "([I)I"⟩
abbrev cX12_sins : ByteArray := prog_14_method_68_code
def yX12_sins : MethodName := ⟨RX12, "sins", "([IIII)V"⟩
abbrev cX12_sin : ByteArray := prog_14_method_69_code
def yX12_sin : MethodName := ⟨RX12, "sin", "(III)I"⟩
abbrev cX12_buy : ByteArray := prog_14_method_70_code
def yX12_buy : MethodName := ⟨RX12, "buy", "(I)I"⟩
abbrev cX12_give : ByteArray := prog_14_method_71_code
def yX12_give : MethodName := ⟨RX12, "give", "(I)I"⟩
abbrev cX12_day : ByteArray := prog_14_method_72_code
def yX12_day : MethodName := ⟨RX12, "day", "()I"⟩
abbrev cX12_draw : ByteArray := prog_14_method_73_code
def yX12_draw : MethodName := ⟨RX12, "draw", "(I)I"⟩
abbrev cX12_years : ByteArray := prog_14_method_74_code
def yX12_years : MethodName := ⟨RX12, "years", "(IJ)I"⟩
abbrev cX12_undo : ByteArray := prog_14_method_75_code
def yX12_undo : MethodName := ⟨RX12, "undo", "()I"⟩
abbrev cX12_log : ByteArray := prog_14_method_76_code
def yX12_log : MethodName := ⟨RX12, "log", "(II)I"⟩
abbrev cX12_isPlan : ByteArray := prog_14_method_77_code
def yX12_isPlan : MethodName := ⟨RX12, "isPlan", "(I)Z"⟩
abbrev cX12_step : ByteArray := prog_14_method_78_code
def yX12_step : MethodName := ⟨RX12, "step", "(III)I"⟩
abbrev cX12_canStep : ByteArray := prog_14_method_79_code
def yX12_canStep : MethodName := ⟨RX12, "canStep", "([II)Z"⟩
abbrev cX12_goStep : ByteArray := prog_14_method_80_code
def yX12_goStep : MethodName := ⟨RX12, "goStep", "([II)I"⟩
abbrev cX12_run : ByteArray := prog_14_method_81_code
def yX12_run : MethodName := ⟨RX12, "run", "(II)I"⟩
abbrev cX12_perform : ByteArray := prog_14_method_82_code
def yX12_perform : MethodName := ⟨RX12, "perform", "(I)I"⟩
abbrev cX12_openOf : ByteArray := prog_14_method_83_code
def yX12_openOf : MethodName := ⟨RX12, "openOf", "(II)I"⟩
abbrev cX12_forgivesSet : ByteArray := prog_14_method_84_code
def yX12_forgivesSet : MethodName := ⟨RX12, "forgivesSet", "(I)I"⟩
abbrev cX12_fewest : ByteArray := prog_14_method_85_code
def yX12_fewest : MethodName := ⟨RX12, "fewest", "(II)I"⟩
abbrev cX12_told0 : ByteArray := prog_14_method_86_code
def yX12_told0 : MethodName := ⟨RX12, "told0", "(II)I"⟩
abbrev cX12_least : ByteArray := prog_14_method_87_code
def yX12_least : MethodName := ⟨RX12, "least", "(II)I"⟩
abbrev cX12_every : ByteArray := prog_14_method_88_code
def yX12_every : MethodName := ⟨RX12, "every", "(I)I"⟩
abbrev cX12_richest : ByteArray := prog_14_method_89_code
def yX12_richest : MethodName := ⟨RX12, "richest", "(II)I"⟩
abbrev cX12_goPairs : ByteArray := prog_14_method_90_code
def yX12_goPairs : MethodName := ⟨RX12, "goPairs", "(IIII)V"⟩
abbrev cX12_pairs : ByteArray := prog_14_method_91_code
def yX12_pairs : MethodName := ⟨RX12, "pairs", "(I)I"⟩
abbrev cX12_isTold : ByteArray := prog_14_method_92_code
def yX12_isTold : MethodName := ⟨RX12, "isTold", "(I)Z"⟩
abbrev cX12_seen : ByteArray := prog_14_method_93_code
def yX12_seen : MethodName := ⟨RX12, "seen", "(IIZ)I"⟩
abbrev cX12_yardsTold : ByteArray := prog_14_method_94_code
def yX12_yardsTold : MethodName := ⟨RX12, "yardsTold", "(II)I"⟩
abbrev cX12_isWeight : ByteArray := prog_14_method_95_code
def yX12_isWeight : MethodName := ⟨RX12, "isWeight", "(II)Z"⟩
abbrev cX12_weights : ByteArray := prog_14_method_96_code
def yX12_weights : MethodName := ⟨RX12, "weights", "(II)I"⟩
abbrev cX12_ask : ByteArray := prog_14_method_97_code
def yX12_ask : MethodName := ⟨RX12, "ask", "(I)I"⟩
abbrev cX12_goFar : ByteArray := prog_14_method_98_code
def yX12_goFar : MethodName := ⟨RX12, "goFar", "(I)V"⟩
abbrev cX12_ring : ByteArray := prog_14_method_99_code
def yX12_ring : MethodName := ⟨RX12, "ring", "()I"⟩
abbrev cX12_chain : ByteArray := prog_14_method_100_code
def yX12_chain : MethodName := ⟨RX12, "chain", "(II)I"⟩
abbrev cX12_score : ByteArray := prog_14_method_101_code
def yX12_score : MethodName := ⟨RX12, "score", "(II)I"⟩
abbrev cX12_chooses : ByteArray := prog_14_method_102_code
def yX12_chooses : MethodName := ⟨RX12, "chooses", "(III)V"⟩
abbrev cX12_gameOf : ByteArray := prog_14_method_103_code
def yX12_gameOf : MethodName := ⟨RX12, "gameOf", "(IIIII)I"⟩
abbrev cX12_game : ByteArray := prog_14_method_104_code
def yX12_game : MethodName := ⟨RX12, "game", "(IIIII)I"⟩
abbrev cX12_rests : ByteArray := prog_14_method_105_code
def yX12_rests : MethodName := ⟨RX12, "rests", "(III)I"⟩
abbrev cX12_oddsFrom : ByteArray := prog_14_method_106_code
def yX12_oddsFrom : MethodName := ⟨RX12, "oddsFrom", "(IIIII)I"⟩
abbrev cX12_odds : ByteArray := prog_14_method_107_code
def yX12_odds : MethodName := ⟨RX12, "odds", "(II)I"⟩
abbrev cX12_sumOf : ByteArray := prog_14_method_108_code
def yX12_sumOf : MethodName := ⟨RX12, "sumOf", "(I)I"⟩
abbrev cX12_shares : ByteArray := prog_14_method_109_code
def yX12_shares : MethodName := ⟨RX12, "shares", "(II)I"⟩
abbrev cX12_fades : ByteArray := prog_14_method_110_code
def yX12_fades : MethodName := ⟨RX12, "fades", "(I)I"⟩
abbrev cX12_valueOf : ByteArray := prog_14_method_111_code
def yX12_valueOf : MethodName := ⟨RX12, "valueOf", "(II)I"⟩
abbrev cX12_greatest : ByteArray := prog_14_method_112_code
def yX12_greatest : MethodName := ⟨RX12, "greatest", "(I)I"⟩
abbrev cX12_heaviest : ByteArray := prog_14_method_113_code
def yX12_heaviest : MethodName := ⟨RX12, "heaviest", "()I"⟩
abbrev cX12_needed : ByteArray := prog_14_method_114_code
def yX12_needed : MethodName := ⟨RX12, "needed", "()I"⟩
abbrev cX12_falses : ByteArray := prog_14_method_115_code
def yX12_falses : MethodName := ⟨RX12, "falses", "()I"⟩
abbrev cX12_all : ByteArray := prog_14_method_116_code
def yX12_all : MethodName := ⟨RX12, "all", "(I)I"⟩
abbrev cX12_image : ByteArray := prog_14_method_117_code
def yX12_image : MethodName := ⟨RX12, "image", "()I"⟩
abbrev cX12_back : ByteArray := prog_14_method_118_code
def yX12_back : MethodName := ⟨RX12, "back", "()I"⟩
abbrev cX12_count : ByteArray := prog_14_method_119_code
def yX12_count : MethodName := ⟨RX12, "count", "(I)I"⟩
def RJx145de : String := "java/io/Serializable"
def RJx9f9b0 : String := "java/lang/CharSequence"
def RJ11 : String := "java/lang/Character"
abbrev cJ11_isValidCodePoint_9a6ad : ByteArray := prog_17_method_11_code
def yJ11_isValidCodePoint_9a6ad : MethodName := ⟨RJ11, "isValidCodePoint", "(I)Z"⟩
abbrev cJ11_highSurrogate_5068e : ByteArray := prog_17_method_28_code
def yJ11_highSurrogate_5068e : MethodName := ⟨RJ11, "highSurrogate", "(I)C"⟩
abbrev cJ11_lowSurrogate_5068e : ByteArray := prog_17_method_29_code
def yJ11_lowSurrogate_5068e : MethodName := ⟨RJ11, "lowSurrogate", "(I)C"⟩
def RJx8e188 : String := "java/lang/Cloneable"
def RJxb160c : String := "java/lang/Comparable"
def RJ6 : String := "java/lang/Integer"
abbrev cJ6_bitCount_0f7a4 : ByteArray := prog_21_method_49_code
def yJ6_bitCount_0f7a4 : MethodName := ⟨RJ6, "bitCount", "(I)I"⟩
def RJ9 : String := "java/lang/Math"
abbrev cJ9_abs_0f7a4 : ByteArray := prog_22_method_59_code
def yJ9_abs_0f7a4 : MethodName := ⟨RJ9, "abs", "(I)I"⟩
abbrev cJ9_max_7cf53 : ByteArray := prog_22_method_65_code
def yJ9_max_7cf53 : MethodName := ⟨RJ9, "max", "(II)I"⟩
abbrev cJ9_max_f86c9 : ByteArray := prog_22_method_66_code
def yJ9_max_f86c9 : MethodName := ⟨RJ9, "max", "(JJ)J"⟩
abbrev cJ9_min_7cf53 : ByteArray := prog_22_method_69_code
def yJ9_min_7cf53 : MethodName := ⟨RJ9, "min", "(II)I"⟩
abbrev cJ9_min_f86c9 : ByteArray := prog_22_method_70_code
def yJ9_min_f86c9 : MethodName := ⟨RJ9, "min", "(JJ)J"⟩
def RJ0 : String := "java/lang/String"
abbrev cJ0_length_8abf5 : ByteArray := prog_24_method_54_code
def yJ0_length_8abf5 : MethodName := ⟨RJ0, "length", "()I"⟩
abbrev cJ0_charAt_5068e : ByteArray := prog_24_method_56_code
def yJ0_charAt_5068e : MethodName := ⟨RJ0, "charAt", "(I)C"⟩
abbrev cJ0_indexOf_0f7a4 : ByteArray := prog_24_method_79_code
def yJ0_indexOf_0f7a4 : MethodName := ⟨RJ0, "indexOf", "(I)I"⟩
abbrev cJ0_indexOf_7cf53 : ByteArray := prog_24_method_80_code
def yJ0_indexOf_7cf53 : MethodName := ⟨RJ0, "indexOf", "(II)I"⟩
abbrev cJ0_coder_7d493 : ByteArray := prog_24_method_152_code
def yJ0_coder_7d493 : MethodName := ⟨RJ0, "coder", "()B"⟩
abbrev cJ0_isLatin1_aae02 : ByteArray := prog_24_method_154_code
def yJ0_isLatin1_aae02 : MethodName := ⟨RJ0, "isLatin1", "()Z"⟩
abbrev cJ0_checkIndex_df160 : ByteArray := prog_24_method_155_code
def yJ0_checkIndex_df160 : MethodName := ⟨RJ0, "checkIndex", "(II)V"⟩
abbrev cJ0_checkBoundsBeginEnd_23922 : ByteArray := prog_24_method_158_code
def yJ0_checkBoundsBeginEnd_23922 : MethodName := ⟨RJ0, "checkBoundsBeginEnd", "(III)V"⟩
def RJ1 : String := "java/lang/StringLatin1"
abbrev cJ1_charAt_3b067 : ByteArray := prog_25_method_2_code
def yJ1_charAt_3b067 : MethodName := ⟨RJ1, "charAt", "([BI)C"⟩
abbrev cJ1_canEncode_9a6ad : ByteArray := prog_25_method_4_code
def yJ1_canEncode_9a6ad : MethodName := ⟨RJ1, "canEncode", "(I)Z"⟩
abbrev cJ1_indexOf_4cfef : ByteArray := prog_25_method_22_code
def yJ1_indexOf_4cfef : MethodName := ⟨RJ1, "indexOf", "([BIII)I"⟩
abbrev cJ1_indexOfChar_4cfef : ByteArray := prog_25_method_23_code
def yJ1_indexOfChar_4cfef : MethodName := ⟨RJ1, "indexOfChar", "([BIII)I"⟩
def RJ2 : String := "java/lang/StringUTF16"
abbrev cJ2_getChar_3b067 : ByteArray := prog_26_method_5_code
def yJ2_getChar_3b067 : MethodName := ⟨RJ2, "getChar", "([BI)C"⟩
abbrev cJ2_length_9d52b : ByteArray := prog_26_method_6_code
def yJ2_length_9d52b : MethodName := ⟨RJ2, "length", "([B)I"⟩
abbrev cJ2_indexOf_4cfef : ByteArray := prog_26_method_40_code
def yJ2_indexOf_4cfef : MethodName := ⟨RJ2, "indexOf", "([BIII)I"⟩
abbrev cJ2_indexOfChar_4cfef : ByteArray := prog_26_method_47_code
def yJ2_indexOfChar_4cfef : MethodName := ⟨RJ2, "indexOfChar", "([BIII)I"⟩
abbrev cJ2_indexOfCharUnsafe_4cfef : ByteArray := prog_26_method_48_code
def yJ2_indexOfCharUnsafe_4cfef : MethodName := ⟨RJ2, "indexOfCharUnsafe", "([BIII)I"⟩
abbrev cJ2_indexOfSupplementary_4cfef : ByteArray := prog_26_method_49_code
def yJ2_indexOfSupplementary_4cfef : MethodName := ⟨RJ2, "indexOfSupplementary", "([BIII)I"⟩
abbrev cJ2_charAt_3b067 : ByteArray := prog_26_method_83_code
def yJ2_charAt_3b067 : MethodName := ⟨RJ2, "charAt", "([BI)C"⟩
abbrev cJ2_checkIndex_2214a : ByteArray := prog_26_method_91_code
def yJ2_checkIndex_2214a : MethodName := ⟨RJ2, "checkIndex", "(I[B)V"⟩
abbrev cJ2_checkBoundsBeginEnd_d044e : ByteArray := prog_26_method_93_code
def yJ2_checkBoundsBeginEnd_d044e : MethodName := ⟨RJ2, "checkBoundsBeginEnd", "(II[B)V"⟩
def RJ10 : String := "java/lang/System"
def RJxfd54e : String := "java/lang/constant/Constable"
def RJx3cf43 : String := "java/lang/constant/ConstantDesc"
def RJ7 : String := "java/util/Arrays"
abbrev cJ7_fill_53178 : ByteArray := prog_31_method_103_code
def yJ7_fill_53178 : MethodName := ⟨RJ7, "fill", "([II)V"⟩
abbrev cJ7_copyOf_59c91 : ByteArray := prog_31_method_123_code
def yJ7_copyOf_59c91 : MethodName := ⟨RJ7, "copyOf", "([II)[I"⟩
def RJ3 : String := "jdk/internal/util/Preconditions"
abbrev cJ3_checkIndex_8e157 : ByteArray := prog_33_method_11_code
def yJ3_checkIndex_8e157 : MethodName := ⟨RJ3, "checkIndex", "(IILjava/util/function/BiFunction;)I"⟩
abbrev cJ3_checkFromToIndex_8c36e : ByteArray := prog_33_method_12_code
def yJ3_checkFromToIndex_8c36e : MethodName := ⟨RJ3, "checkFromToIndex", "(IIILjava/util/function/BiFunction;)I"⟩
def RL : String := "FenceYardsLaw"
abbrev cL_farm : ByteArray := method_3_code
def yL_farm : MethodName := ⟨RL, "farm", "(LFenceYards;II[J)I"⟩
abbrev cL_law : ByteArray := code
def yL_law : MethodName := ⟨RL, "law", "([I)Z"⟩
