-- ===== PART A: goes FIRST, ahead of the names: the tables' words, and 'selects' of the private methods out of them =====
/-- a private method of a class that the tables say can be made, by its rows of tables_1 -/
def lw_okq (q : MethodName × Nat) : Prop := (q.1.cls ≠ "java/lang/invoke/MethodHandle" ∧ q.1.cls ≠ "java/lang/invoke/VarHandle") ∧ Cond.instantiable q.1.cls q.2 ∈ tables_1 ∧ Cond.privateMethod q.1 ∈ tables_1 ∧ Cond.instanceMethod q.1 ∈ tables_1
theorem lw_p0 : lw_okq (⟨"MayGreen", "refuse", "(I)Z"⟩, 12) := ⟨⟨by decide +kernel, by decide +kernel⟩, List.mem_of_getElem? (i := 20) (by decide +kernel), List.mem_of_getElem? (i := 424) (by decide +kernel), List.mem_of_getElem? (i := 425) (by decide +kernel)⟩
theorem lw_p1 : lw_okq (⟨"MayGreen$Reader", "scan", "()V"⟩, 10) := ⟨⟨by decide +kernel, by decide +kernel⟩, List.mem_of_getElem? (i := 142) (by decide +kernel), List.mem_of_getElem? (i := 467) (by decide +kernel), List.mem_of_getElem? (i := 468) (by decide +kernel)⟩
theorem lw_p2 : lw_okq (⟨"MayGreen$Reader", "readLine", "()Z"⟩, 10) := ⟨⟨by decide +kernel, by decide +kernel⟩, List.mem_of_getElem? (i := 142) (by decide +kernel), List.mem_of_getElem? (i := 483) (by decide +kernel), List.mem_of_getElem? (i := 484) (by decide +kernel)⟩
theorem lw_p3 : lw_okq (⟨"MayGreen$Reader", "isWord", "(Ljava/lang/String;)Z"⟩, 10) := ⟨⟨by decide +kernel, by decide +kernel⟩, List.mem_of_getElem? (i := 142) (by decide +kernel), List.mem_of_getElem? (i := 488) (by decide +kernel), List.mem_of_getElem? (i := 489) (by decide +kernel)⟩
theorem lw_p4 : lw_okq (⟨"MayGreen$Reader", "readPerson", "(II)Z"⟩, 10) := ⟨⟨by decide +kernel, by decide +kernel⟩, List.mem_of_getElem? (i := 142) (by decide +kernel), List.mem_of_getElem? (i := 540) (by decide +kernel), List.mem_of_getElem? (i := 541) (by decide +kernel)⟩
theorem lw_p5 : lw_okq (⟨"MayGreen$Reader", "nameHere", "()J"⟩, 10) := ⟨⟨by decide +kernel, by decide +kernel⟩, List.mem_of_getElem? (i := 142) (by decide +kernel), List.mem_of_getElem? (i := 544) (by decide +kernel), List.mem_of_getElem? (i := 545) (by decide +kernel)⟩
theorem lw_p6 : lw_okq (⟨"MayGreen$Reader", "isLineWord", "()Z"⟩, 10) := ⟨⟨by decide +kernel, by decide +kernel⟩, List.mem_of_getElem? (i := 142) (by decide +kernel), List.mem_of_getElem? (i := 549) (by decide +kernel), List.mem_of_getElem? (i := 550) (by decide +kernel)⟩
theorem lw_p7 : lw_okq (⟨"MayGreen$Reader", "slotNamed", "(J)I"⟩, 10) := ⟨⟨by decide +kernel, by decide +kernel⟩, List.mem_of_getElem? (i := 142) (by decide +kernel), List.mem_of_getElem? (i := 561) (by decide +kernel), List.mem_of_getElem? (i := 562) (by decide +kernel)⟩
theorem lw_p8 : lw_okq (⟨"MayGreen$Reader", "takeNumber", "(II)Z"⟩, 10) := ⟨⟨by decide +kernel, by decide +kernel⟩, List.mem_of_getElem? (i := 142) (by decide +kernel), List.mem_of_getElem? (i := 569) (by decide +kernel), List.mem_of_getElem? (i := 570) (by decide +kernel)⟩
theorem lw_p9 : lw_okq (⟨"MayGreen$Reader", "numberHere", "()I"⟩, 10) := ⟨⟨by decide +kernel, by decide +kernel⟩, List.mem_of_getElem? (i := 142) (by decide +kernel), List.mem_of_getElem? (i := 573) (by decide +kernel), List.mem_of_getElem? (i := 574) (by decide +kernel)⟩
theorem lw_p10 : lw_okq (⟨"MayGreen$Reader", "takeStop", "()Z"⟩, 10) := ⟨⟨by decide +kernel, by decide +kernel⟩, List.mem_of_getElem? (i := 142) (by decide +kernel), List.mem_of_getElem? (i := 582) (by decide +kernel), List.mem_of_getElem? (i := 583) (by decide +kernel)⟩
theorem lw_p11 : lw_okq (⟨"MayGreen$Reader", "readThink", "()Z"⟩, 10) := ⟨⟨by decide +kernel, by decide +kernel⟩, List.mem_of_getElem? (i := 142) (by decide +kernel), List.mem_of_getElem? (i := 586) (by decide +kernel), List.mem_of_getElem? (i := 587) (by decide +kernel)⟩
theorem lw_p12 : lw_okq (⟨"MayGreen$Reader", "readFit", "()Z"⟩, 10) := ⟨⟨by decide +kernel, by decide +kernel⟩, List.mem_of_getElem? (i := 142) (by decide +kernel), List.mem_of_getElem? (i := 602) (by decide +kernel), List.mem_of_getElem? (i := 603) (by decide +kernel)⟩
theorem lw_p13 : lw_okq (⟨"MayGreen$Reader", "readWorth", "()Z"⟩, 10) := ⟨⟨by decide +kernel, by decide +kernel⟩, List.mem_of_getElem? (i := 142) (by decide +kernel), List.mem_of_getElem? (i := 609) (by decide +kernel), List.mem_of_getElem? (i := 610) (by decide +kernel)⟩
theorem lw_p14 : lw_okq (⟨"MayGreen$Reader", "firstTold", "(I)Z"⟩, 10) := ⟨⟨by decide +kernel, by decide +kernel⟩, List.mem_of_getElem? (i := 142) (by decide +kernel), List.mem_of_getElem? (i := 613) (by decide +kernel), List.mem_of_getElem? (i := 614) (by decide +kernel)⟩
theorem lw_p15 : lw_okq (⟨"MayGreen$Reader", "readHouse", "()Z"⟩, 10) := ⟨⟨by decide +kernel, by decide +kernel⟩, List.mem_of_getElem? (i := 142) (by decide +kernel), List.mem_of_getElem? (i := 617) (by decide +kernel), List.mem_of_getElem? (i := 618) (by decide +kernel)⟩
def lw_privs_1 : List (MethodName × Nat) := [(⟨"MayGreen", "refuse", "(I)Z"⟩, 12), (⟨"MayGreen$Reader", "scan", "()V"⟩, 10), (⟨"MayGreen$Reader", "readLine", "()Z"⟩, 10), (⟨"MayGreen$Reader", "isWord", "(Ljava/lang/String;)Z"⟩, 10), (⟨"MayGreen$Reader", "readPerson", "(II)Z"⟩, 10), (⟨"MayGreen$Reader", "nameHere", "()J"⟩, 10), (⟨"MayGreen$Reader", "isLineWord", "()Z"⟩, 10), (⟨"MayGreen$Reader", "slotNamed", "(J)I"⟩, 10), (⟨"MayGreen$Reader", "takeNumber", "(II)Z"⟩, 10), (⟨"MayGreen$Reader", "numberHere", "()I"⟩, 10), (⟨"MayGreen$Reader", "takeStop", "()Z"⟩, 10), (⟨"MayGreen$Reader", "readThink", "()Z"⟩, 10), (⟨"MayGreen$Reader", "readFit", "()Z"⟩, 10), (⟨"MayGreen$Reader", "readWorth", "()Z"⟩, 10), (⟨"MayGreen$Reader", "firstTold", "(I)Z"⟩, 10), (⟨"MayGreen$Reader", "readHouse", "()Z"⟩, 10)]
theorem lw_r1 : ∀ q ∈ lw_privs_1, lw_okq q := List.forall_mem_cons.mpr ⟨lw_p0, List.forall_mem_cons.mpr ⟨lw_p1, List.forall_mem_cons.mpr ⟨lw_p2, List.forall_mem_cons.mpr ⟨lw_p3, List.forall_mem_cons.mpr ⟨lw_p4, List.forall_mem_cons.mpr ⟨lw_p5, List.forall_mem_cons.mpr ⟨lw_p6, List.forall_mem_cons.mpr ⟨lw_p7, List.forall_mem_cons.mpr ⟨lw_p8, List.forall_mem_cons.mpr ⟨lw_p9, List.forall_mem_cons.mpr ⟨lw_p10, List.forall_mem_cons.mpr ⟨lw_p11, List.forall_mem_cons.mpr ⟨lw_p12, List.forall_mem_cons.mpr ⟨lw_p13, List.forall_mem_cons.mpr ⟨lw_p14, List.forall_mem_cons.mpr ⟨lw_p15, fun _ h => absurd h List.not_mem_nil⟩⟩⟩⟩⟩⟩⟩⟩⟩⟩⟩⟩⟩⟩⟩⟩
theorem lw_p16 : lw_okq (⟨"MayGreen$Reader", "readChild", "()Z"⟩, 10) := ⟨⟨by decide +kernel, by decide +kernel⟩, List.mem_of_getElem? (i := 142) (by decide +kernel), List.mem_of_getElem? (i := 621) (by decide +kernel), List.mem_of_getElem? (i := 622) (by decide +kernel)⟩
theorem lw_p17 : lw_okq (⟨"MayGreen$Reader", "readCow", "()Z"⟩, 10) := ⟨⟨by decide +kernel, by decide +kernel⟩, List.mem_of_getElem? (i := 142) (by decide +kernel), List.mem_of_getElem? (i := 625) (by decide +kernel), List.mem_of_getElem? (i := 626) (by decide +kernel)⟩
theorem lw_p18 : lw_okq (⟨"MayGreen$Reader", "readAhead", "()Z"⟩, 10) := ⟨⟨by decide +kernel, by decide +kernel⟩, List.mem_of_getElem? (i := 142) (by decide +kernel), List.mem_of_getElem? (i := 629) (by decide +kernel), List.mem_of_getElem? (i := 630) (by decide +kernel)⟩
theorem lw_p19 : lw_okq (⟨"MayGreen$Plan", "reckonShown", "()V"⟩, 16) := ⟨⟨by decide +kernel, by decide +kernel⟩, List.mem_of_getElem? (i := 42) (by decide +kernel), List.mem_of_getElem? (i := 649) (by decide +kernel), List.mem_of_getElem? (i := 650) (by decide +kernel)⟩
theorem lw_p20 : lw_okq (⟨"MayGreen$Plan", "goodNext", "(III)I"⟩, 16) := ⟨⟨by decide +kernel, by decide +kernel⟩, List.mem_of_getElem? (i := 42) (by decide +kernel), List.mem_of_getElem? (i := 653) (by decide +kernel), List.mem_of_getElem? (i := 654) (by decide +kernel)⟩
theorem lw_p21 : lw_okq (⟨"MayGreen$Plan", "rightAfter", "(III)J"⟩, 16) := ⟨⟨by decide +kernel, by decide +kernel⟩, List.mem_of_getElem? (i := 42) (by decide +kernel), List.mem_of_getElem? (i := 657) (by decide +kernel), List.mem_of_getElem? (i := 658) (by decide +kernel)⟩
theorem lw_p22 : lw_okq (⟨"MayGreen$Plan", "otherAfter", "(III)J"⟩, 16) := ⟨⟨by decide +kernel, by decide +kernel⟩, List.mem_of_getElem? (i := 42) (by decide +kernel), List.mem_of_getElem? (i := 665) (by decide +kernel), List.mem_of_getElem? (i := 666) (by decide +kernel)⟩
theorem lw_p23 : lw_okq (⟨"MayGreen$Elders", "spread", "(I)Z"⟩, 3) := ⟨⟨by decide +kernel, by decide +kernel⟩, List.mem_of_getElem? (i := 339) (by decide +kernel), List.mem_of_getElem? (i := 676) (by decide +kernel), List.mem_of_getElem? (i := 677) (by decide +kernel)⟩
theorem lw_p24 : lw_okq (⟨"MayGreen$Plan", "trueYear", "(II)I"⟩, 16) := ⟨⟨by decide +kernel, by decide +kernel⟩, List.mem_of_getElem? (i := 42) (by decide +kernel), List.mem_of_getElem? (i := 689) (by decide +kernel), List.mem_of_getElem? (i := 690) (by decide +kernel)⟩
theorem lw_p25 : lw_okq (⟨"MayGreen$Green", "would", "(II)Z"⟩, 7) := ⟨⟨by decide +kernel, by decide +kernel⟩, List.mem_of_getElem? (i := 309) (by decide +kernel), List.mem_of_getElem? (i := 774) (by decide +kernel), List.mem_of_getElem? (i := 775) (by decide +kernel)⟩
theorem lw_p26 : lw_okq (⟨"MayGreen$Green", "likes", "(II)I"⟩, 7) := ⟨⟨by decide +kernel, by decide +kernel⟩, List.mem_of_getElem? (i := 309) (by decide +kernel), List.mem_of_getElem? (i := 778) (by decide +kernel), List.mem_of_getElem? (i := 779) (by decide +kernel)⟩
theorem lw_p27 : lw_okq (⟨"MayGreen$Mind", "worthOf", "(III)J"⟩, 11) := ⟨⟨by decide +kernel, by decide +kernel⟩, List.mem_of_getElem? (i := 269) (by decide +kernel), List.mem_of_getElem? (i := 811) (by decide +kernel), List.mem_of_getElem? (i := 812) (by decide +kernel)⟩
theorem lw_p28 : lw_okq (⟨"MayGreen$Mind", "doing", "(IIII)J"⟩, 11) := ⟨⟨by decide +kernel, by decide +kernel⟩, List.mem_of_getElem? (i := 269) (by decide +kernel), List.mem_of_getElem? (i := 815) (by decide +kernel), List.mem_of_getElem? (i := 816) (by decide +kernel)⟩
theorem lw_p29 : lw_okq (⟨"MayGreen$Mind", "isShut", "(I)Z"⟩, 11) := ⟨⟨by decide +kernel, by decide +kernel⟩, List.mem_of_getElem? (i := 269) (by decide +kernel), List.mem_of_getElem? (i := 822) (by decide +kernel), List.mem_of_getElem? (i := 823) (by decide +kernel)⟩
theorem lw_p30 : lw_okq (⟨"MayGreen$Green", "askAll", "(I)V"⟩, 7) := ⟨⟨by decide +kernel, by decide +kernel⟩, List.mem_of_getElem? (i := 309) (by decide +kernel), List.mem_of_getElem? (i := 906) (by decide +kernel), List.mem_of_getElem? (i := 907) (by decide +kernel)⟩
theorem lw_p31 : lw_okq (⟨"MayGreen$Green", "soonestToAsk", "(I)I"⟩, 7) := ⟨⟨by decide +kernel, by decide +kernel⟩, List.mem_of_getElem? (i := 309) (by decide +kernel), List.mem_of_getElem? (i := 910) (by decide +kernel), List.mem_of_getElem? (i := 911) (by decide +kernel)⟩
def lw_privs_2 : List (MethodName × Nat) := [(⟨"MayGreen$Reader", "readChild", "()Z"⟩, 10), (⟨"MayGreen$Reader", "readCow", "()Z"⟩, 10), (⟨"MayGreen$Reader", "readAhead", "()Z"⟩, 10), (⟨"MayGreen$Plan", "reckonShown", "()V"⟩, 16), (⟨"MayGreen$Plan", "goodNext", "(III)I"⟩, 16), (⟨"MayGreen$Plan", "rightAfter", "(III)J"⟩, 16), (⟨"MayGreen$Plan", "otherAfter", "(III)J"⟩, 16), (⟨"MayGreen$Elders", "spread", "(I)Z"⟩, 3), (⟨"MayGreen$Plan", "trueYear", "(II)I"⟩, 16), (⟨"MayGreen$Green", "would", "(II)Z"⟩, 7), (⟨"MayGreen$Green", "likes", "(II)I"⟩, 7), (⟨"MayGreen$Mind", "worthOf", "(III)J"⟩, 11), (⟨"MayGreen$Mind", "doing", "(IIII)J"⟩, 11), (⟨"MayGreen$Mind", "isShut", "(I)Z"⟩, 11), (⟨"MayGreen$Green", "askAll", "(I)V"⟩, 7), (⟨"MayGreen$Green", "soonestToAsk", "(I)I"⟩, 7)]
theorem lw_r2 : ∀ q ∈ lw_privs_2, lw_okq q := List.forall_mem_cons.mpr ⟨lw_p16, List.forall_mem_cons.mpr ⟨lw_p17, List.forall_mem_cons.mpr ⟨lw_p18, List.forall_mem_cons.mpr ⟨lw_p19, List.forall_mem_cons.mpr ⟨lw_p20, List.forall_mem_cons.mpr ⟨lw_p21, List.forall_mem_cons.mpr ⟨lw_p22, List.forall_mem_cons.mpr ⟨lw_p23, List.forall_mem_cons.mpr ⟨lw_p24, List.forall_mem_cons.mpr ⟨lw_p25, List.forall_mem_cons.mpr ⟨lw_p26, List.forall_mem_cons.mpr ⟨lw_p27, List.forall_mem_cons.mpr ⟨lw_p28, List.forall_mem_cons.mpr ⟨lw_p29, List.forall_mem_cons.mpr ⟨lw_p30, List.forall_mem_cons.mpr ⟨lw_p31, fun _ h => absurd h List.not_mem_nil⟩⟩⟩⟩⟩⟩⟩⟩⟩⟩⟩⟩⟩⟩⟩⟩
theorem lw_p32 : lw_okq (⟨"MayGreen$Green", "canMeet", "(II)Z"⟩, 7) := ⟨⟨by decide +kernel, by decide +kernel⟩, List.mem_of_getElem? (i := 309) (by decide +kernel), List.mem_of_getElem? (i := 915) (by decide +kernel), List.mem_of_getElem? (i := 916) (by decide +kernel)⟩
theorem lw_p33 : lw_okq (⟨"MayGreen$Green", "ask", "(II)V"⟩, 7) := ⟨⟨by decide +kernel, by decide +kernel⟩, List.mem_of_getElem? (i := 309) (by decide +kernel), List.mem_of_getElem? (i := 921) (by decide +kernel), List.mem_of_getElem? (i := 922) (by decide +kernel)⟩
theorem lw_p34 : lw_okq (⟨"MayGreen$Green", "tie", "(II)V"⟩, 7) := ⟨⟨by decide +kernel, by decide +kernel⟩, List.mem_of_getElem? (i := 309) (by decide +kernel), List.mem_of_getElem? (i := 925) (by decide +kernel), List.mem_of_getElem? (i := 926) (by decide +kernel)⟩
theorem lw_p35 : lw_okq (⟨"MayGreen$Green", "takeTurns", "()V"⟩, 7) := ⟨⟨by decide +kernel, by decide +kernel⟩, List.mem_of_getElem? (i := 309) (by decide +kernel), List.mem_of_getElem? (i := 929) (by decide +kernel), List.mem_of_getElem? (i := 930) (by decide +kernel)⟩
theorem lw_p36 : lw_okq (⟨"MayGreen$Green", "isLeftFor", "(II)Z"⟩, 7) := ⟨⟨by decide +kernel, by decide +kernel⟩, List.mem_of_getElem? (i := 309) (by decide +kernel), List.mem_of_getElem? (i := 933) (by decide +kernel), List.mem_of_getElem? (i := 934) (by decide +kernel)⟩
theorem lw_p37 : lw_okq (⟨"MayGreen$Green", "drawLots", "()V"⟩, 7) := ⟨⟨by decide +kernel, by decide +kernel⟩, List.mem_of_getElem? (i := 309) (by decide +kernel), List.mem_of_getElem? (i := 937) (by decide +kernel), List.mem_of_getElem? (i := 938) (by decide +kernel)⟩
theorem lw_p38 : lw_okq (⟨"MayGreen$Green", "openOne", "(II)I"⟩, 7) := ⟨⟨by decide +kernel, by decide +kernel⟩, List.mem_of_getElem? (i := 309) (by decide +kernel), List.mem_of_getElem? (i := 948) (by decide +kernel), List.mem_of_getElem? (i := 949) (by decide +kernel)⟩
theorem lw_p39 : lw_okq (⟨"MayGreen$Season", "askPaired", "()V"⟩, 5) := ⟨⟨by decide +kernel, by decide +kernel⟩, List.mem_of_getElem? (i := 356) (by decide +kernel), List.mem_of_getElem? (i := 961) (by decide +kernel), List.mem_of_getElem? (i := 962) (by decide +kernel)⟩
theorem lw_p40 : lw_okq (⟨"MayGreen$Season", "endPairs", "()V"⟩, 5) := ⟨⟨by decide +kernel, by decide +kernel⟩, List.mem_of_getElem? (i := 356) (by decide +kernel), List.mem_of_getElem? (i := 969) (by decide +kernel), List.mem_of_getElem? (i := 970) (by decide +kernel)⟩
theorem lw_p41 : lw_okq (⟨"MayGreen$Season", "hear", "(II)V"⟩, 5) := ⟨⟨by decide +kernel, by decide +kernel⟩, List.mem_of_getElem? (i := 356) (by decide +kernel), List.mem_of_getElem? (i := 973) (by decide +kernel), List.mem_of_getElem? (i := 974) (by decide +kernel)⟩
theorem lw_p42 : lw_okq (⟨"MayGreen$Life", "free", "(I)V"⟩, 11) := ⟨⟨by decide +kernel, by decide +kernel⟩, List.mem_of_getElem? (i := 181) (by decide +kernel), List.mem_of_getElem? (i := 994) (by decide +kernel), List.mem_of_getElem? (i := 995) (by decide +kernel)⟩
theorem lw_p43 : lw_okq (⟨"MayGreen$Season", "bindNewPairs", "()V"⟩, 5) := ⟨⟨by decide +kernel, by decide +kernel⟩, List.mem_of_getElem? (i := 356) (by decide +kernel), List.mem_of_getElem? (i := 1001) (by decide +kernel), List.mem_of_getElem? (i := 1002) (by decide +kernel)⟩
theorem lw_p44 : lw_okq (⟨"MayGreen$Season", "passYear", "()V"⟩, 5) := ⟨⟨by decide +kernel, by decide +kernel⟩, List.mem_of_getElem? (i := 356) (by decide +kernel), List.mem_of_getElem? (i := 1009) (by decide +kernel), List.mem_of_getElem? (i := 1010) (by decide +kernel)⟩
theorem lw_p45 : lw_okq (⟨"MayGreen$Season", "liveTogether", "(II)V"⟩, 5) := ⟨⟨by decide +kernel, by decide +kernel⟩, List.mem_of_getElem? (i := 356) (by decide +kernel), List.mem_of_getElem? (i := 1013) (by decide +kernel), List.mem_of_getElem? (i := 1014) (by decide +kernel)⟩
theorem lw_p46 : lw_okq (⟨"MayGreen$Green", "isBetter", "(II)Z"⟩, 7) := ⟨⟨by decide +kernel, by decide +kernel⟩, List.mem_of_getElem? (i := 309) (by decide +kernel), List.mem_of_getElem? (i := 1053) (by decide +kernel), List.mem_of_getElem? (i := 1054) (by decide +kernel)⟩
theorem lw_p47 : lw_okq (⟨"MayGreen", "neverTried", "()I"⟩, 12) := ⟨⟨by decide +kernel, by decide +kernel⟩, List.mem_of_getElem? (i := 20) (by decide +kernel), List.mem_of_getElem? (i := 1076) (by decide +kernel), List.mem_of_getElem? (i := 1077) (by decide +kernel)⟩
def lw_privs_3 : List (MethodName × Nat) := [(⟨"MayGreen$Green", "canMeet", "(II)Z"⟩, 7), (⟨"MayGreen$Green", "ask", "(II)V"⟩, 7), (⟨"MayGreen$Green", "tie", "(II)V"⟩, 7), (⟨"MayGreen$Green", "takeTurns", "()V"⟩, 7), (⟨"MayGreen$Green", "isLeftFor", "(II)Z"⟩, 7), (⟨"MayGreen$Green", "drawLots", "()V"⟩, 7), (⟨"MayGreen$Green", "openOne", "(II)I"⟩, 7), (⟨"MayGreen$Season", "askPaired", "()V"⟩, 5), (⟨"MayGreen$Season", "endPairs", "()V"⟩, 5), (⟨"MayGreen$Season", "hear", "(II)V"⟩, 5), (⟨"MayGreen$Life", "free", "(I)V"⟩, 11), (⟨"MayGreen$Season", "bindNewPairs", "()V"⟩, 5), (⟨"MayGreen$Season", "passYear", "()V"⟩, 5), (⟨"MayGreen$Season", "liveTogether", "(II)V"⟩, 5), (⟨"MayGreen$Green", "isBetter", "(II)Z"⟩, 7), (⟨"MayGreen", "neverTried", "()I"⟩, 12)]
theorem lw_r3 : ∀ q ∈ lw_privs_3, lw_okq q := List.forall_mem_cons.mpr ⟨lw_p32, List.forall_mem_cons.mpr ⟨lw_p33, List.forall_mem_cons.mpr ⟨lw_p34, List.forall_mem_cons.mpr ⟨lw_p35, List.forall_mem_cons.mpr ⟨lw_p36, List.forall_mem_cons.mpr ⟨lw_p37, List.forall_mem_cons.mpr ⟨lw_p38, List.forall_mem_cons.mpr ⟨lw_p39, List.forall_mem_cons.mpr ⟨lw_p40, List.forall_mem_cons.mpr ⟨lw_p41, List.forall_mem_cons.mpr ⟨lw_p42, List.forall_mem_cons.mpr ⟨lw_p43, List.forall_mem_cons.mpr ⟨lw_p44, List.forall_mem_cons.mpr ⟨lw_p45, List.forall_mem_cons.mpr ⟨lw_p46, List.forall_mem_cons.mpr ⟨lw_p47, fun _ h => absurd h List.not_mem_nil⟩⟩⟩⟩⟩⟩⟩⟩⟩⟩⟩⟩⟩⟩⟩⟩
theorem lw_p48 : lw_okq (⟨"MayGreen", "pictureAt", "(I)LMayGreen$Life;"⟩, 12) := ⟨⟨by decide +kernel, by decide +kernel⟩, List.mem_of_getElem? (i := 20) (by decide +kernel), List.mem_of_getElem? (i := 1096) (by decide +kernel), List.mem_of_getElem? (i := 1097) (by decide +kernel)⟩
theorem lw_p49 : lw_okq (⟨"MayGreenModel", "refuse", "(I)I"⟩, 55) := ⟨⟨by decide +kernel, by decide +kernel⟩, List.mem_of_getElem? (i := 1124) (by decide +kernel), List.mem_of_getElem? (i := 1321) (by decide +kernel), List.mem_of_getElem? (i := 1322) (by decide +kernel)⟩
theorem lw_p50 : lw_okq (⟨"MayGreenModel", "feeds", "(I)V"⟩, 55) := ⟨⟨by decide +kernel, by decide +kernel⟩, List.mem_of_getElem? (i := 1124) (by decide +kernel), List.mem_of_getElem? (i := 1325) (by decide +kernel), List.mem_of_getElem? (i := 1326) (by decide +kernel)⟩
theorem lw_p51 : lw_okq (⟨"MayGreenModel", "deny", "(I)Z"⟩, 55) := ⟨⟨by decide +kernel, by decide +kernel⟩, List.mem_of_getElem? (i := 1124) (by decide +kernel), List.mem_of_getElem? (i := 1333) (by decide +kernel), List.mem_of_getElem? (i := 1334) (by decide +kernel)⟩
theorem lw_p52 : lw_okq (⟨"MayGreenModel", "reads", "()V"⟩, 55) := ⟨⟨by decide +kernel, by decide +kernel⟩, List.mem_of_getElem? (i := 1124) (by decide +kernel), List.mem_of_getElem? (i := 1341) (by decide +kernel), List.mem_of_getElem? (i := 1342) (by decide +kernel)⟩
theorem lw_p53 : lw_okq (⟨"MayGreenModel", "next", "()V"⟩, 55) := ⟨⟨by decide +kernel, by decide +kernel⟩, List.mem_of_getElem? (i := 1124) (by decide +kernel), List.mem_of_getElem? (i := 1345) (by decide +kernel), List.mem_of_getElem? (i := 1346) (by decide +kernel)⟩
theorem lw_p54 : lw_okq (⟨"MayGreenModel", "between", "(III)Z"⟩, 55) := ⟨⟨by decide +kernel, by decide +kernel⟩, List.mem_of_getElem? (i := 1124) (by decide +kernel), List.mem_of_getElem? (i := 1349) (by decide +kernel), List.mem_of_getElem? (i := 1350) (by decide +kernel)⟩
theorem lw_p55 : lw_okq (⟨"MayGreenModel", "line", "()Z"⟩, 55) := ⟨⟨by decide +kernel, by decide +kernel⟩, List.mem_of_getElem? (i := 1124) (by decide +kernel), List.mem_of_getElem? (i := 1353) (by decide +kernel), List.mem_of_getElem? (i := 1354) (by decide +kernel)⟩
theorem lw_p56 : lw_okq (⟨"MayGreenModel", "wordHere", "()I"⟩, 55) := ⟨⟨by decide +kernel, by decide +kernel⟩, List.mem_of_getElem? (i := 1124) (by decide +kernel), List.mem_of_getElem? (i := 1357) (by decide +kernel), List.mem_of_getElem? (i := 1358) (by decide +kernel)⟩
theorem lw_p57 : lw_okq (⟨"MayGreenModel", "personRead", "(I)Z"⟩, 55) := ⟨⟨by decide +kernel, by decide +kernel⟩, List.mem_of_getElem? (i := 1124) (by decide +kernel), List.mem_of_getElem? (i := 1363) (by decide +kernel), List.mem_of_getElem? (i := 1364) (by decide +kernel)⟩
theorem lw_p58 : lw_okq (⟨"MayGreenModel", "passes", "(Z)Z"⟩, 55) := ⟨⟨by decide +kernel, by decide +kernel⟩, List.mem_of_getElem? (i := 1124) (by decide +kernel), List.mem_of_getElem? (i := 1367) (by decide +kernel), List.mem_of_getElem? (i := 1368) (by decide +kernel)⟩
theorem lw_p59 : lw_okq (⟨"MayGreenModel", "nameHere", "()J"⟩, 55) := ⟨⟨by decide +kernel, by decide +kernel⟩, List.mem_of_getElem? (i := 1124) (by decide +kernel), List.mem_of_getElem? (i := 1371) (by decide +kernel), List.mem_of_getElem? (i := 1372) (by decide +kernel)⟩
theorem lw_p60 : lw_okq (⟨"MayGreenModel", "found", "()I"⟩, 55) := ⟨⟨by decide +kernel, by decide +kernel⟩, List.mem_of_getElem? (i := 1124) (by decide +kernel), List.mem_of_getElem? (i := 1378) (by decide +kernel), List.mem_of_getElem? (i := 1379) (by decide +kernel)⟩
theorem lw_p61 : lw_okq (⟨"MayGreenModel", "into", "([IIII)Z"⟩, 55) := ⟨⟨by decide +kernel, by decide +kernel⟩, List.mem_of_getElem? (i := 1124) (by decide +kernel), List.mem_of_getElem? (i := 1382) (by decide +kernel), List.mem_of_getElem? (i := 1383) (by decide +kernel)⟩
theorem lw_p62 : lw_okq (⟨"MayGreenModel", "closes", "()Z"⟩, 55) := ⟨⟨by decide +kernel, by decide +kernel⟩, List.mem_of_getElem? (i := 1124) (by decide +kernel), List.mem_of_getElem? (i := 1386) (by decide +kernel), List.mem_of_getElem? (i := 1387) (by decide +kernel)⟩
theorem lw_p63 : lw_okq (⟨"MayGreenModel", "thinkRead", "()Z"⟩, 55) := ⟨⟨by decide +kernel, by decide +kernel⟩, List.mem_of_getElem? (i := 1124) (by decide +kernel), List.mem_of_getElem? (i := 1390) (by decide +kernel), List.mem_of_getElem? (i := 1391) (by decide +kernel)⟩
def lw_privs_4 : List (MethodName × Nat) := [(⟨"MayGreen", "pictureAt", "(I)LMayGreen$Life;"⟩, 12), (⟨"MayGreenModel", "refuse", "(I)I"⟩, 55), (⟨"MayGreenModel", "feeds", "(I)V"⟩, 55), (⟨"MayGreenModel", "deny", "(I)Z"⟩, 55), (⟨"MayGreenModel", "reads", "()V"⟩, 55), (⟨"MayGreenModel", "next", "()V"⟩, 55), (⟨"MayGreenModel", "between", "(III)Z"⟩, 55), (⟨"MayGreenModel", "line", "()Z"⟩, 55), (⟨"MayGreenModel", "wordHere", "()I"⟩, 55), (⟨"MayGreenModel", "personRead", "(I)Z"⟩, 55), (⟨"MayGreenModel", "passes", "(Z)Z"⟩, 55), (⟨"MayGreenModel", "nameHere", "()J"⟩, 55), (⟨"MayGreenModel", "found", "()I"⟩, 55), (⟨"MayGreenModel", "into", "([IIII)Z"⟩, 55), (⟨"MayGreenModel", "closes", "()Z"⟩, 55), (⟨"MayGreenModel", "thinkRead", "()Z"⟩, 55)]
theorem lw_r4 : ∀ q ∈ lw_privs_4, lw_okq q := List.forall_mem_cons.mpr ⟨lw_p48, List.forall_mem_cons.mpr ⟨lw_p49, List.forall_mem_cons.mpr ⟨lw_p50, List.forall_mem_cons.mpr ⟨lw_p51, List.forall_mem_cons.mpr ⟨lw_p52, List.forall_mem_cons.mpr ⟨lw_p53, List.forall_mem_cons.mpr ⟨lw_p54, List.forall_mem_cons.mpr ⟨lw_p55, List.forall_mem_cons.mpr ⟨lw_p56, List.forall_mem_cons.mpr ⟨lw_p57, List.forall_mem_cons.mpr ⟨lw_p58, List.forall_mem_cons.mpr ⟨lw_p59, List.forall_mem_cons.mpr ⟨lw_p60, List.forall_mem_cons.mpr ⟨lw_p61, List.forall_mem_cons.mpr ⟨lw_p62, List.forall_mem_cons.mpr ⟨lw_p63, fun _ h => absurd h List.not_mem_nil⟩⟩⟩⟩⟩⟩⟩⟩⟩⟩⟩⟩⟩⟩⟩⟩
theorem lw_p64 : lw_okq (⟨"MayGreenModel", "fitRead", "()Z"⟩, 55) := ⟨⟨by decide +kernel, by decide +kernel⟩, List.mem_of_getElem? (i := 1124) (by decide +kernel), List.mem_of_getElem? (i := 1397) (by decide +kernel), List.mem_of_getElem? (i := 1398) (by decide +kernel)⟩
theorem lw_p65 : lw_okq (⟨"MayGreenModel", "onceRead", "(I)Z"⟩, 55) := ⟨⟨by decide +kernel, by decide +kernel⟩, List.mem_of_getElem? (i := 1124) (by decide +kernel), List.mem_of_getElem? (i := 1402) (by decide +kernel), List.mem_of_getElem? (i := 1403) (by decide +kernel)⟩
theorem lw_p66 : lw_okq (⟨"MayGreenModel", "who", "(I)I"⟩, 55) := ⟨⟨by decide +kernel, by decide +kernel⟩, List.mem_of_getElem? (i := 1124) (by decide +kernel), List.mem_of_getElem? (i := 1417) (by decide +kernel), List.mem_of_getElem? (i := 1418) (by decide +kernel)⟩
theorem lw_p67 : lw_okq (⟨"MayGreenModel", "shows", "(IIIII)I"⟩, 55) := ⟨⟨by decide +kernel, by decide +kernel⟩, List.mem_of_getElem? (i := 1124) (by decide +kernel), List.mem_of_getElem? (i := 1449) (by decide +kernel), List.mem_of_getElem? (i := 1450) (by decide +kernel)⟩
theorem lw_p68 : lw_okq (⟨"MayGreenModel", "likesNow", "(II)I"⟩, 55) := ⟨⟨by decide +kernel, by decide +kernel⟩, List.mem_of_getElem? (i := 1124) (by decide +kernel), List.mem_of_getElem? (i := 1462) (by decide +kernel), List.mem_of_getElem? (i := 1463) (by decide +kernel)⟩
theorem lw_p69 : lw_okq (⟨"MayGreenModel", "likes", "(III)I"⟩, 55) := ⟨⟨by decide +kernel, by decide +kernel⟩, List.mem_of_getElem? (i := 1124) (by decide +kernel), List.mem_of_getElem? (i := 1466) (by decide +kernel), List.mem_of_getElem? (i := 1467) (by decide +kernel)⟩
theorem lw_p70 : lw_okq (⟨"MayGreenModel", "isSooner", "(III)Z"⟩, 55) := ⟨⟨by decide +kernel, by decide +kernel⟩, List.mem_of_getElem? (i := 1124) (by decide +kernel), List.mem_of_getElem? (i := 1474) (by decide +kernel), List.mem_of_getElem? (i := 1475) (by decide +kernel)⟩
theorem lw_p71 : lw_okq (⟨"MayGreenModel", "bestOf", "(II)I"⟩, 55) := ⟨⟨by decide +kernel, by decide +kernel⟩, List.mem_of_getElem? (i := 1124) (by decide +kernel), List.mem_of_getElem? (i := 1486) (by decide +kernel), List.mem_of_getElem? (i := 1487) (by decide +kernel)⟩
theorem lw_p72 : lw_okq (⟨"MayGreenModel", "lays", "(I)V"⟩, 55) := ⟨⟨by decide +kernel, by decide +kernel⟩, List.mem_of_getElem? (i := 1124) (by decide +kernel), List.mem_of_getElem? (i := 1490) (by decide +kernel), List.mem_of_getElem? (i := 1491) (by decide +kernel)⟩
theorem lw_p73 : lw_okq (⟨"MayGreenModel", "mateOf", "(I)I"⟩, 55) := ⟨⟨by decide +kernel, by decide +kernel⟩, List.mem_of_getElem? (i := 1124) (by decide +kernel), List.mem_of_getElem? (i := 1494) (by decide +kernel), List.mem_of_getElem? (i := 1495) (by decide +kernel)⟩
theorem lw_p74 : lw_okq (⟨"MayGreenModel", "worth", "(III)I"⟩, 55) := ⟨⟨by decide +kernel, by decide +kernel⟩, List.mem_of_getElem? (i := 1124) (by decide +kernel), List.mem_of_getElem? (i := 1498) (by decide +kernel), List.mem_of_getElem? (i := 1499) (by decide +kernel)⟩
theorem lw_p75 : lw_okq (⟨"MayGreenModel", "by", "(IIII)I"⟩, 55) := ⟨⟨by decide +kernel, by decide +kernel⟩, List.mem_of_getElem? (i := 1124) (by decide +kernel), List.mem_of_getElem? (i := 1502) (by decide +kernel), List.mem_of_getElem? (i := 1503) (by decide +kernel)⟩
theorem lw_p76 : lw_okq (⟨"MayGreenModel", "with", "(III)I"⟩, 55) := ⟨⟨by decide +kernel, by decide +kernel⟩, List.mem_of_getElem? (i := 1124) (by decide +kernel), List.mem_of_getElem? (i := 1506) (by decide +kernel), List.mem_of_getElem? (i := 1507) (by decide +kernel)⟩
theorem lw_p77 : lw_okq (⟨"MayGreenModel", "othersMany", "()I"⟩, 55) := ⟨⟨by decide +kernel, by decide +kernel⟩, List.mem_of_getElem? (i := 1124) (by decide +kernel), List.mem_of_getElem? (i := 1511) (by decide +kernel), List.mem_of_getElem? (i := 1512) (by decide +kernel)⟩
theorem lw_p78 : lw_okq (⟨"MayGreenModel", "toldOf", "(II)I"⟩, 55) := ⟨⟨by decide +kernel, by decide +kernel⟩, List.mem_of_getElem? (i := 1124) (by decide +kernel), List.mem_of_getElem? (i := 1515) (by decide +kernel), List.mem_of_getElem? (i := 1516) (by decide +kernel)⟩
theorem lw_p79 : lw_okq (⟨"MayGreenModel", "isSilent", "(II)Z"⟩, 55) := ⟨⟨by decide +kernel, by decide +kernel⟩, List.mem_of_getElem? (i := 1124) (by decide +kernel), List.mem_of_getElem? (i := 1527) (by decide +kernel), List.mem_of_getElem? (i := 1528) (by decide +kernel)⟩
def lw_privs_5 : List (MethodName × Nat) := [(⟨"MayGreenModel", "fitRead", "()Z"⟩, 55), (⟨"MayGreenModel", "onceRead", "(I)Z"⟩, 55), (⟨"MayGreenModel", "who", "(I)I"⟩, 55), (⟨"MayGreenModel", "shows", "(IIIII)I"⟩, 55), (⟨"MayGreenModel", "likesNow", "(II)I"⟩, 55), (⟨"MayGreenModel", "likes", "(III)I"⟩, 55), (⟨"MayGreenModel", "isSooner", "(III)Z"⟩, 55), (⟨"MayGreenModel", "bestOf", "(II)I"⟩, 55), (⟨"MayGreenModel", "lays", "(I)V"⟩, 55), (⟨"MayGreenModel", "mateOf", "(I)I"⟩, 55), (⟨"MayGreenModel", "worth", "(III)I"⟩, 55), (⟨"MayGreenModel", "by", "(IIII)I"⟩, 55), (⟨"MayGreenModel", "with", "(III)I"⟩, 55), (⟨"MayGreenModel", "othersMany", "()I"⟩, 55), (⟨"MayGreenModel", "toldOf", "(II)I"⟩, 55), (⟨"MayGreenModel", "isSilent", "(II)Z"⟩, 55)]
theorem lw_r5 : ∀ q ∈ lw_privs_5, lw_okq q := List.forall_mem_cons.mpr ⟨lw_p64, List.forall_mem_cons.mpr ⟨lw_p65, List.forall_mem_cons.mpr ⟨lw_p66, List.forall_mem_cons.mpr ⟨lw_p67, List.forall_mem_cons.mpr ⟨lw_p68, List.forall_mem_cons.mpr ⟨lw_p69, List.forall_mem_cons.mpr ⟨lw_p70, List.forall_mem_cons.mpr ⟨lw_p71, List.forall_mem_cons.mpr ⟨lw_p72, List.forall_mem_cons.mpr ⟨lw_p73, List.forall_mem_cons.mpr ⟨lw_p74, List.forall_mem_cons.mpr ⟨lw_p75, List.forall_mem_cons.mpr ⟨lw_p76, List.forall_mem_cons.mpr ⟨lw_p77, List.forall_mem_cons.mpr ⟨lw_p78, List.forall_mem_cons.mpr ⟨lw_p79, fun _ h => absurd h List.not_mem_nil⟩⟩⟩⟩⟩⟩⟩⟩⟩⟩⟩⟩⟩⟩⟩⟩
theorem lw_p80 : lw_okq (⟨"MayGreenModel", "goes", "(I)V"⟩, 55) := ⟨⟨by decide +kernel, by decide +kernel⟩, List.mem_of_getElem? (i := 1124) (by decide +kernel), List.mem_of_getElem? (i := 1557) (by decide +kernel), List.mem_of_getElem? (i := 1558) (by decide +kernel)⟩
theorem lw_p81 : lw_okq (⟨"MayGreenModel", "asks", "(I)V"⟩, 55) := ⟨⟨by decide +kernel, by decide +kernel⟩, List.mem_of_getElem? (i := 1124) (by decide +kernel), List.mem_of_getElem? (i := 1561) (by decide +kernel), List.mem_of_getElem? (i := 1562) (by decide +kernel)⟩
theorem lw_p82 : lw_okq (⟨"MayGreenModel", "both", "(II)Z"⟩, 55) := ⟨⟨by decide +kernel, by decide +kernel⟩, List.mem_of_getElem? (i := 1124) (by decide +kernel), List.mem_of_getElem? (i := 1565) (by decide +kernel), List.mem_of_getElem? (i := 1566) (by decide +kernel)⟩
theorem lw_p83 : lw_okq (⟨"MayGreenModel", "would", "(II)Z"⟩, 55) := ⟨⟨by decide +kernel, by decide +kernel⟩, List.mem_of_getElem? (i := 1124) (by decide +kernel), List.mem_of_getElem? (i := 1569) (by decide +kernel), List.mem_of_getElem? (i := 1570) (by decide +kernel)⟩
theorem lw_p84 : lw_okq (⟨"MayGreenModel", "gives", "(II)V"⟩, 55) := ⟨⟨by decide +kernel, by decide +kernel⟩, List.mem_of_getElem? (i := 1124) (by decide +kernel), List.mem_of_getElem? (i := 1573) (by decide +kernel), List.mem_of_getElem? (i := 1574) (by decide +kernel)⟩
theorem lw_p85 : lw_okq (⟨"MayGreenModel", "inTurn", "()V"⟩, 55) := ⟨⟨by decide +kernel, by decide +kernel⟩, List.mem_of_getElem? (i := 1124) (by decide +kernel), List.mem_of_getElem? (i := 1577) (by decide +kernel), List.mem_of_getElem? (i := 1578) (by decide +kernel)⟩
theorem lw_p86 : lw_okq (⟨"MayGreenModel", "byLot", "()V"⟩, 55) := ⟨⟨by decide +kernel, by decide +kernel⟩, List.mem_of_getElem? (i := 1124) (by decide +kernel), List.mem_of_getElem? (i := 1581) (by decide +kernel), List.mem_of_getElem? (i := 1582) (by decide +kernel)⟩
theorem lw_p87 : lw_okq (⟨"MayGreenModel", "lot", "(I)I"⟩, 55) := ⟨⟨by decide +kernel, by decide +kernel⟩, List.mem_of_getElem? (i := 1124) (by decide +kernel), List.mem_of_getElem? (i := 1585) (by decide +kernel), List.mem_of_getElem? (i := 1586) (by decide +kernel)⟩
theorem lw_p88 : lw_okq (⟨"MayGreenModel", "may", "()V"⟩, 55) := ⟨⟨by decide +kernel, by decide +kernel⟩, List.mem_of_getElem? (i := 1124) (by decide +kernel), List.mem_of_getElem? (i := 1602) (by decide +kernel), List.mem_of_getElem? (i := 1603) (by decide +kernel)⟩
theorem lw_p89 : lw_okq (⟨"MayGreenModel", "asked", "()V"⟩, 55) := ⟨⟨by decide +kernel, by decide +kernel⟩, List.mem_of_getElem? (i := 1124) (by decide +kernel), List.mem_of_getElem? (i := 1606) (by decide +kernel), List.mem_of_getElem? (i := 1607) (by decide +kernel)⟩
theorem lw_p90 : lw_okq (⟨"MayGreenModel", "notes", "(II)V"⟩, 55) := ⟨⟨by decide +kernel, by decide +kernel⟩, List.mem_of_getElem? (i := 1124) (by decide +kernel), List.mem_of_getElem? (i := 1610) (by decide +kernel), List.mem_of_getElem? (i := 1611) (by decide +kernel)⟩
theorem lw_p91 : lw_okq (⟨"MayGreenModel", "parts", "(I)V"⟩, 55) := ⟨⟨by decide +kernel, by decide +kernel⟩, List.mem_of_getElem? (i := 1124) (by decide +kernel), List.mem_of_getElem? (i := 1614) (by decide +kernel), List.mem_of_getElem? (i := 1615) (by decide +kernel)⟩
theorem lw_p92 : lw_okq (⟨"MayGreenModel", "joins", "(II)V"⟩, 55) := ⟨⟨by decide +kernel, by decide +kernel⟩, List.mem_of_getElem? (i := 1124) (by decide +kernel), List.mem_of_getElem? (i := 1618) (by decide +kernel), List.mem_of_getElem? (i := 1619) (by decide +kernel)⟩
theorem lw_p93 : lw_okq (⟨"MayGreenModel", "lives", "(I)V"⟩, 55) := ⟨⟨by decide +kernel, by decide +kernel⟩, List.mem_of_getElem? (i := 1124) (by decide +kernel), List.mem_of_getElem? (i := 1622) (by decide +kernel), List.mem_of_getElem? (i := 1623) (by decide +kernel)⟩
theorem lw_p94 : lw_okq (⟨"MayGreenModel", "isFree", "(II)Z"⟩, 55) := ⟨⟨by decide +kernel, by decide +kernel⟩, List.mem_of_getElem? (i := 1124) (by decide +kernel), List.mem_of_getElem? (i := 1638) (by decide +kernel), List.mem_of_getElem? (i := 1639) (by decide +kernel)⟩
theorem lw_p95 : lw_okq (⟨"MayGreenModel", "findsParents", "()V"⟩, 55) := ⟨⟨by decide +kernel, by decide +kernel⟩, List.mem_of_getElem? (i := 1124) (by decide +kernel), List.mem_of_getElem? (i := 1646) (by decide +kernel), List.mem_of_getElem? (i := 1647) (by decide +kernel)⟩
def lw_privs_6 : List (MethodName × Nat) := [(⟨"MayGreenModel", "goes", "(I)V"⟩, 55), (⟨"MayGreenModel", "asks", "(I)V"⟩, 55), (⟨"MayGreenModel", "both", "(II)Z"⟩, 55), (⟨"MayGreenModel", "would", "(II)Z"⟩, 55), (⟨"MayGreenModel", "gives", "(II)V"⟩, 55), (⟨"MayGreenModel", "inTurn", "()V"⟩, 55), (⟨"MayGreenModel", "byLot", "()V"⟩, 55), (⟨"MayGreenModel", "lot", "(I)I"⟩, 55), (⟨"MayGreenModel", "may", "()V"⟩, 55), (⟨"MayGreenModel", "asked", "()V"⟩, 55), (⟨"MayGreenModel", "notes", "(II)V"⟩, 55), (⟨"MayGreenModel", "parts", "(I)V"⟩, 55), (⟨"MayGreenModel", "joins", "(II)V"⟩, 55), (⟨"MayGreenModel", "lives", "(I)V"⟩, 55), (⟨"MayGreenModel", "isFree", "(II)Z"⟩, 55), (⟨"MayGreenModel", "findsParents", "()V"⟩, 55)]
theorem lw_r6 : ∀ q ∈ lw_privs_6, lw_okq q := List.forall_mem_cons.mpr ⟨lw_p80, List.forall_mem_cons.mpr ⟨lw_p81, List.forall_mem_cons.mpr ⟨lw_p82, List.forall_mem_cons.mpr ⟨lw_p83, List.forall_mem_cons.mpr ⟨lw_p84, List.forall_mem_cons.mpr ⟨lw_p85, List.forall_mem_cons.mpr ⟨lw_p86, List.forall_mem_cons.mpr ⟨lw_p87, List.forall_mem_cons.mpr ⟨lw_p88, List.forall_mem_cons.mpr ⟨lw_p89, List.forall_mem_cons.mpr ⟨lw_p90, List.forall_mem_cons.mpr ⟨lw_p91, List.forall_mem_cons.mpr ⟨lw_p92, List.forall_mem_cons.mpr ⟨lw_p93, List.forall_mem_cons.mpr ⟨lw_p94, List.forall_mem_cons.mpr ⟨lw_p95, fun _ h => absurd h List.not_mem_nil⟩⟩⟩⟩⟩⟩⟩⟩⟩⟩⟩⟩⟩⟩⟩⟩
theorem lw_p96 : lw_okq (⟨"MayGreenModel", "parentsFrom", "(I)V"⟩, 55) := ⟨⟨by decide +kernel, by decide +kernel⟩, List.mem_of_getElem? (i := 1124) (by decide +kernel), List.mem_of_getElem? (i := 1650) (by decide +kernel), List.mem_of_getElem? (i := 1651) (by decide +kernel)⟩
theorem lw_p97 : lw_okq (⟨"MayGreenModel", "sumOf", "([I)I"⟩, 55) := ⟨⟨by decide +kernel, by decide +kernel⟩, List.mem_of_getElem? (i := 1124) (by decide +kernel), List.mem_of_getElem? (i := 1654) (by decide +kernel), List.mem_of_getElem? (i := 1655) (by decide +kernel)⟩
theorem lw_p98 : lw_okq (⟨"MayGreenModel", "truly", "(II)I"⟩, 55) := ⟨⟨by decide +kernel, by decide +kernel⟩, List.mem_of_getElem? (i := 1124) (by decide +kernel), List.mem_of_getElem? (i := 1658) (by decide +kernel), List.mem_of_getElem? (i := 1659) (by decide +kernel)⟩
theorem lw_p99 : lw_okq (⟨"MayGreenModel", "lifeOf", "([II)I"⟩, 55) := ⟨⟨by decide +kernel, by decide +kernel⟩, List.mem_of_getElem? (i := 1124) (by decide +kernel), List.mem_of_getElem? (i := 1667) (by decide +kernel), List.mem_of_getElem? (i := 1668) (by decide +kernel)⟩
theorem lw_p100 : lw_okq (⟨"MayGreenModel", "moves", "([IZ)V"⟩, 55) := ⟨⟨by decide +kernel, by decide +kernel⟩, List.mem_of_getElem? (i := 1124) (by decide +kernel), List.mem_of_getElem? (i := 1684) (by decide +kernel), List.mem_of_getElem? (i := 1685) (by decide +kernel)⟩
theorem lw_p101 : lw_okq (⟨"MayGreenModel", "move", "([I[IZ)V"⟩, 55) := ⟨⟨by decide +kernel, by decide +kernel⟩, List.mem_of_getElem? (i := 1124) (by decide +kernel), List.mem_of_getElem? (i := 1688) (by decide +kernel), List.mem_of_getElem? (i := 1689) (by decide +kernel)⟩
def lw_privs_7 : List (MethodName × Nat) := [(⟨"MayGreenModel", "parentsFrom", "(I)V"⟩, 55), (⟨"MayGreenModel", "sumOf", "([I)I"⟩, 55), (⟨"MayGreenModel", "truly", "(II)I"⟩, 55), (⟨"MayGreenModel", "lifeOf", "([II)I"⟩, 55), (⟨"MayGreenModel", "moves", "([IZ)V"⟩, 55), (⟨"MayGreenModel", "move", "([I[IZ)V"⟩, 55)]
theorem lw_r7 : ∀ q ∈ lw_privs_7, lw_okq q := List.forall_mem_cons.mpr ⟨lw_p96, List.forall_mem_cons.mpr ⟨lw_p97, List.forall_mem_cons.mpr ⟨lw_p98, List.forall_mem_cons.mpr ⟨lw_p99, List.forall_mem_cons.mpr ⟨lw_p100, List.forall_mem_cons.mpr ⟨lw_p101, fun _ h => absurd h List.not_mem_nil⟩⟩⟩⟩⟩⟩
def lw_privs : List (MethodName × Nat) := lw_privs_1 ++ (lw_privs_2 ++ (lw_privs_3 ++ (lw_privs_4 ++ (lw_privs_5 ++ (lw_privs_6 ++ (lw_privs_7))))))
def lw_tbl : List Cond := k2_sels lw_privs ++ tables_1
theorem lw_privs_ok : ∀ q ∈ lw_privs, lw_okq q := by
  show ∀ q ∈ lw_privs_1 ++ (lw_privs_2 ++ (lw_privs_3 ++ (lw_privs_4 ++ (lw_privs_5 ++ (lw_privs_6 ++ (lw_privs_7)))))), lw_okq q
  exact List.forall_mem_append.mpr ⟨lw_r1, List.forall_mem_append.mpr ⟨lw_r2, List.forall_mem_append.mpr ⟨lw_r3, List.forall_mem_append.mpr ⟨lw_r4, List.forall_mem_append.mpr ⟨lw_r5, List.forall_mem_append.mpr ⟨lw_r6, lw_r7⟩⟩⟩⟩⟩⟩
def RX0 : String := "MayGreen$Elders"
def TX0 : u_T := fun k => match k with
  | 0 => ("MayGreen$Elders", "plan", "LMayGreen$Plan;", true)
  | 1 => ("MayGreen$Elders", "trial", "[I", true)
  | _ => ("MayGreen$Elders", "mate", "[I", true)
def tyX0 : Nat → FieldType := fun k => match k with
  | 0 => .object "MayGreen$Plan"
  | 1 => .array .int
  | _ => .array .int
abbrev wsX00 : List Cond := u_ws RX0 TX0 3
theorem nmX0 : ∀ a, a < 3 → ∀ b, b < 3 → a ≠ b → (TX0 a).2.1 ≠ (TX0 b).2.1 := by decide +kernel
theorem tyX0_ok : ∀ k, k < 3 → parseFieldDescriptor (TX0 k).2.2.1 = some (tyX0 k) := by decide +kernel
abbrev cX0_init : ByteArray := prog_2_method_1_code
def yX0_init : MethodName := ⟨RX0, "<init>", "(LMayGreen$Plan;)V"⟩
abbrev cX0_choose : ByteArray := prog_2_method_2_code
def yX0_choose : MethodName := ⟨RX0, "choose", "()V"⟩
abbrev cX0_spread : ByteArray := prog_2_method_3_code
def yX0_spread : MethodName := ⟨RX0, "spread", "(I)Z"⟩
def RX1 : String := "MayGreen$Ended"
def TX1 : u_T := fun k => match k with
  | 0 => ("MayGreen$Ended", "cells", "[I", true)
  | 1 => ("MayGreen$Ended", "first", "I", false)
  | _ => ("MayGreen$Ended", "size", "I", false)
def tyX1 : Nat → FieldType := fun k => match k with
  | 0 => .array .int
  | 1 => .int
  | _ => .int
abbrev wsX10 : List Cond := u_ws RX1 TX1 3
theorem nmX1 : ∀ a, a < 3 → ∀ b, b < 3 → a ≠ b → (TX1 a).2.1 ≠ (TX1 b).2.1 := by decide +kernel
theorem tyX1_ok : ∀ k, k < 3 → parseFieldDescriptor (TX1 k).2.2.1 = some (tyX1 k) := by decide +kernel
abbrev cX1_init : ByteArray := prog_3_method_1_code
def yX1_init : MethodName := ⟨RX1, "<init>", "()V"⟩
abbrev cX1_size : ByteArray := prog_3_method_2_code
def yX1_size : MethodName := ⟨RX1, "size", "()I"⟩
abbrev cX1_clear : ByteArray := prog_3_method_3_code
def yX1_clear : MethodName := ⟨RX1, "clear", "()V"⟩
abbrev cX1_copyOf : ByteArray := prog_3_method_4_code
def yX1_copyOf : MethodName := ⟨RX1, "copyOf", "(LMayGreen$Ended;)V"⟩
abbrev cX1_add : ByteArray := prog_3_method_5_code
def yX1_add : MethodName := ⟨RX1, "add", "(IIIII)V"⟩
abbrev cX1_tell : ByteArray := prog_3_method_6_code
def yX1_tell : MethodName := ⟨RX1, "tell", "(II)I"⟩
def RX2 : String := "MayGreen$Green"
def TX2 : u_T := fun k => match k with
  | 0 => ("MayGreen$Green", "plan", "LMayGreen$Plan;", true)
  | 1 => ("MayGreen$Green", "life", "LMayGreen$Life;", true)
  | 2 => ("MayGreen$Green", "likings", "[I", true)
  | 3 => ("MayGreen$Green", "both", "[Z", true)
  | 4 => ("MayGreen$Green", "here", "[Z", true)
  | 5 => ("MayGreen$Green", "saidNo", "[Z", true)
  | _ => ("MayGreen$Green", "mate", "[I", true)
def tyX2 : Nat → FieldType := fun k => match k with
  | 0 => .object "MayGreen$Plan"
  | 1 => .object "MayGreen$Life"
  | 2 => .array .int
  | 3 => .array .boolean
  | 4 => .array .boolean
  | 5 => .array .boolean
  | _ => .array .int
abbrev wsX20 : List Cond := u_ws RX2 TX2 7
theorem nmX2 : ∀ a, a < 7 → ∀ b, b < 7 → a ≠ b → (TX2 a).2.1 ≠ (TX2 b).2.1 := by decide +kernel
theorem tyX2_ok : ∀ k, k < 7 → parseFieldDescriptor (TX2 k).2.2.1 = some (tyX2 k) := by decide +kernel
abbrev cX2_init : ByteArray := prog_4_method_1_code
def yX2_init : MethodName := ⟨RX2, "<init>", "(LMayGreen$Plan;LMayGreen$Life;)V"⟩
abbrev cX2_gather : ByteArray := prog_4_method_2_code
def yX2_gather : MethodName := ⟨RX2, "gather", "(Z)V"⟩
abbrev cX2_look : ByteArray := prog_4_method_3_code
def yX2_look : MethodName := ⟨RX2, "look", "(Z)V"⟩
abbrev cX2_pairUp : ByteArray := prog_4_method_4_code
def yX2_pairUp : MethodName := ⟨RX2, "pairUp", "(I)V"⟩
abbrev cX2_soonerOf : ByteArray := prog_4_method_5_code
def yX2_soonerOf : MethodName := ⟨RX2, "soonerOf", "(III)Z"⟩
abbrev cX2_wouldSooner : ByteArray := prog_4_method_6_code
def yX2_wouldSooner : MethodName := ⟨RX2, "wouldSooner", "(II)Z"⟩
abbrev cX2_isBetter : ByteArray := prog_4_method_7_code
def yX2_isBetter : MethodName := ⟨RX2, "isBetter", "(II)Z"⟩
abbrev cX2_likingOf : ByteArray := prog_4_method_8_code
def yX2_likingOf : MethodName := ⟨RX2, "likingOf", "(IIZ)I"⟩
abbrev cX2_likes : ByteArray := prog_4_method_9_code
def yX2_likes : MethodName := ⟨RX2, "likes", "(II)I"⟩
abbrev cX2_would : ByteArray := prog_4_method_10_code
def yX2_would : MethodName := ⟨RX2, "would", "(II)Z"⟩
abbrev cX2_canMeet : ByteArray := prog_4_method_11_code
def yX2_canMeet : MethodName := ⟨RX2, "canMeet", "(II)Z"⟩
abbrev cX2_askAll : ByteArray := prog_4_method_12_code
def yX2_askAll : MethodName := ⟨RX2, "askAll", "(I)V"⟩
abbrev cX2_soonestToAsk : ByteArray := prog_4_method_13_code
def yX2_soonestToAsk : MethodName := ⟨RX2, "soonestToAsk", "(I)I"⟩
abbrev cX2_ask : ByteArray := prog_4_method_14_code
def yX2_ask : MethodName := ⟨RX2, "ask", "(II)V"⟩
abbrev cX2_takeTurns : ByteArray := prog_4_method_15_code
def yX2_takeTurns : MethodName := ⟨RX2, "takeTurns", "()V"⟩
abbrev cX2_drawLots : ByteArray := prog_4_method_16_code
def yX2_drawLots : MethodName := ⟨RX2, "drawLots", "()V"⟩
abbrev cX2_openOne : ByteArray := prog_4_method_17_code
def yX2_openOne : MethodName := ⟨RX2, "openOne", "(II)I"⟩
abbrev cX2_isLeftFor : ByteArray := prog_4_method_18_code
def yX2_isLeftFor : MethodName := ⟨RX2, "isLeftFor", "(II)Z"⟩
abbrev cX2_tie : ByteArray := prog_4_method_19_code
def yX2_tie : MethodName := ⟨RX2, "tie", "(II)V"⟩
def RX3 : String := "MayGreen$Life"
def TX3 : u_T := fun k => match k with
  | 0 => ("MayGreen$Life", "year", "I", false)
  | 1 => ("MayGreen$Life", "way", "I", false)
  | 2 => ("MayGreen$Life", "x", "I", false)
  | 3 => ("MayGreen$Life", "mate", "[I", true)
  | 4 => ("MayGreen$Life", "years", "[I", true)
  | 5 => ("MayGreen$Life", "yeses", "[I", true)
  | 6 => ("MayGreen$Life", "earned", "[I", true)
  | 7 => ("MayGreen$Life", "good", "[I", true)
  | 8 => ("MayGreen$Life", "poor", "[I", true)
  | 9 => ("MayGreen$Life", "children", "[I", true)
  | _ => ("MayGreen$Life", "ended", "LMayGreen$Ended;", true)
def tyX3 : Nat → FieldType := fun k => match k with
  | 0 => .int
  | 1 => .int
  | 2 => .int
  | 3 => .array .int
  | 4 => .array .int
  | 5 => .array .int
  | 6 => .array .int
  | 7 => .array .int
  | 8 => .array .int
  | 9 => .array .int
  | _ => .object "MayGreen$Ended"
abbrev wsX30 : List Cond := u_ws RX3 TX3 11
theorem nmX3 : ∀ a, a < 11 → ∀ b, b < 11 → a ≠ b → (TX3 a).2.1 ≠ (TX3 b).2.1 := by decide +kernel
theorem tyX3_ok : ∀ k, k < 11 → parseFieldDescriptor (TX3 k).2.2.1 = some (tyX3 k) := by decide +kernel
abbrev cX3_init : ByteArray := prog_5_method_1_code
def yX3_init : MethodName := ⟨RX3, "<init>", "()V"⟩
abbrev cX3_begin : ByteArray := prog_5_method_2_code
def yX3_begin : MethodName := ⟨RX3, "begin", "()V"⟩
abbrev cX3_copyOf : ByteArray := prog_5_method_3_code
def yX3_copyOf : MethodName := ⟨RX3, "copyOf", "(LMayGreen$Life;)V"⟩
abbrev cX3_bind : ByteArray := prog_5_method_4_code
def yX3_bind : MethodName := ⟨RX3, "bind", "(II)V"⟩
abbrev cX3_loosen : ByteArray := prog_5_method_5_code
def yX3_loosen : MethodName := ⟨RX3, "loosen", "(II)V"⟩
abbrev cX3_arePair : ByteArray := prog_5_method_6_code
def yX3_arePair : MethodName := ⟨RX3, "arePair", "(II)Z"⟩
abbrev cX3_haveTried : ByteArray := prog_5_method_7_code
def yX3_haveTried : MethodName := ⟨RX3, "haveTried", "(I)Z"⟩
abbrev cX3_pairsOf : ByteArray := prog_5_method_8_code
def yX3_pairsOf : MethodName := ⟨RX3, "pairsOf", "(I)I"⟩
abbrev cX3_earn : ByteArray := prog_5_method_9_code
def yX3_earn : MethodName := ⟨RX3, "earn", "(II)V"⟩
abbrev cX3_lot : ByteArray := prog_5_method_10_code
def yX3_lot : MethodName := ⟨RX3, "lot", "(I)I"⟩
abbrev cX3_free : ByteArray := prog_5_method_11_code
def yX3_free : MethodName := ⟨RX3, "free", "(I)V"⟩
def RX4 : String := "MayGreen$Mind"
def TX4 : u_T := fun k => match k with
  | 0 => ("MayGreen$Mind", "plan", "LMayGreen$Plan;", true)
  | 1 => ("MayGreen$Mind", "life", "LMayGreen$Life;", true)
  | 2 => ("MayGreen$Mind", "good", "[I", true)
  | 3 => ("MayGreen$Mind", "poor", "[I", true)
  | 4 => ("MayGreen$Mind", "childWorth", "[I", true)
  | 5 => ("MayGreen$Mind", "me", "I", false)
  | 6 => ("MayGreen$Mind", "others", "I", false)
  | 7 => ("MayGreen$Mind", "has", "I", false)
  | 8 => ("MayGreen$Mind", "hasFor", "I", false)
  | 9 => ("MayGreen$Mind", "cow", "I", false)
  | _ => ("MayGreen$Mind", "shut", "I", false)
def tyX4 : Nat → FieldType := fun k => match k with
  | 0 => .object "MayGreen$Plan"
  | 1 => .object "MayGreen$Life"
  | 2 => .array .int
  | 3 => .array .int
  | 4 => .array .int
  | 5 => .int
  | 6 => .int
  | 7 => .int
  | 8 => .int
  | 9 => .int
  | _ => .int
abbrev wsX40 : List Cond := u_ws RX4 TX4 11
theorem nmX4 : ∀ a, a < 11 → ∀ b, b < 11 → a ≠ b → (TX4 a).2.1 ≠ (TX4 b).2.1 := by decide +kernel
theorem tyX4_ok : ∀ k, k < 11 → parseFieldDescriptor (TX4 k).2.2.1 = some (tyX4 k) := by decide +kernel
abbrev cX4_init : ByteArray := prog_6_method_1_code
def yX4_init : MethodName := ⟨RX4, "<init>", "(LMayGreen$Plan;LMayGreen$Life;)V"⟩
abbrev cX4_enter : ByteArray := prog_6_method_2_code
def yX4_enter : MethodName := ⟨RX4, "enter", "(I)V"⟩
abbrev cX4_shutOut : ByteArray := prog_6_method_3_code
def yX4_shutOut : MethodName := ⟨RX4, "shutOut", "(I)V"⟩
abbrev cX4_bestWorth : ByteArray := prog_6_method_4_code
def yX4_bestWorth : MethodName := ⟨RX4, "bestWorth", "(I)J"⟩
abbrev cX4_worthOfAct : ByteArray := prog_6_method_5_code
def yX4_worthOfAct : MethodName := ⟨RX4, "worthOfAct", "(II)J"⟩
abbrev cX4_bestAct : ByteArray := prog_6_method_6_code
def yX4_bestAct : MethodName := ⟨RX4, "bestAct", "(I)I"⟩
abbrev cX4_stays : ByteArray := prog_6_method_7_code
def yX4_stays : MethodName := ⟨RX4, "stays", "(I)Z"⟩
abbrev cX4_leastGood : ByteArray := prog_6_method_8_code
def yX4_leastGood : MethodName := ⟨RX4, "leastGood", "(III)I"⟩
abbrev cX4_leastCow : ByteArray := prog_6_method_9_code
def yX4_leastCow : MethodName := ⟨RX4, "leastCow", "(I)I"⟩
abbrev cX4_isShut : ByteArray := prog_6_method_10_code
def yX4_isShut : MethodName := ⟨RX4, "isShut", "(I)Z"⟩
abbrev cX4_worthOf : ByteArray := prog_6_method_11_code
def yX4_worthOf : MethodName := ⟨RX4, "worthOf", "(III)J"⟩
abbrev cX4_doing : ByteArray := prog_6_method_12_code
def yX4_doing : MethodName := ⟨RX4, "doing", "(IIII)J"⟩
def RX5 : String := "MayGreen$Plan"
def TX5 : u_T := fun k => match k with
  | 0 => ("MayGreen$Plan", "lefts", "I", false)
  | 1 => ("MayGreen$Plan", "rights", "I", false)
  | 2 => ("MayGreen$Plan", "worthGood", "I", false)
  | 3 => ("MayGreen$Plan", "worthPoor", "I", false)
  | 4 => ("MayGreen$Plan", "houseYears", "I", false)
  | 5 => ("MayGreen$Plan", "house", "I", false)
  | 6 => ("MayGreen$Plan", "childChance", "I", false)
  | 7 => ("MayGreen$Plan", "child", "I", false)
  | 8 => ("MayGreen$Plan", "cow", "I", false)
  | 9 => ("MayGreen$Plan", "ahead", "I", false)
  | 10 => ("MayGreen$Plan", "alone", "[I", true)
  | 11 => ("MayGreen$Plan", "chance", "[I", true)
  | 12 => ("MayGreen$Plan", "ifRight", "[I", true)
  | 13 => ("MayGreen$Plan", "ifNot", "[I", true)
  | 14 => ("MayGreen$Plan", "fit", "[I", true)
  | _ => ("MayGreen$Plan", "goodAfter", "[I", true)
def tyX5 : Nat → FieldType := fun k => match k with
  | 0 => .int
  | 1 => .int
  | 2 => .int
  | 3 => .int
  | 4 => .int
  | 5 => .int
  | 6 => .int
  | 7 => .int
  | 8 => .int
  | 9 => .int
  | 10 => .array .int
  | 11 => .array .int
  | 12 => .array .int
  | 13 => .array .int
  | 14 => .array .int
  | _ => .array .int
abbrev wsX50 : List Cond := u_ws RX5 TX5 16
theorem nmX5 : ∀ a, a < 16 → ∀ b, b < 16 → a ≠ b → (TX5 a).2.1 ≠ (TX5 b).2.1 := by decide +kernel
theorem tyX5_ok : ∀ k, k < 16 → parseFieldDescriptor (TX5 k).2.2.1 = some (tyX5 k) := by decide +kernel
abbrev cX5_init : ByteArray := prog_7_method_1_code
def yX5_init : MethodName := ⟨RX5, "<init>", "()V"⟩
abbrev cX5_clear : ByteArray := prog_7_method_2_code
def yX5_clear : MethodName := ⟨RX5, "clear", "()V"⟩
abbrev cX5_take : ByteArray := prog_7_method_3_code
def yX5_take : MethodName := ⟨RX5, "take", "(LMayGreen$Plan;)V"⟩
abbrev cX5_stands : ByteArray := prog_7_method_4_code
def yX5_stands : MethodName := ⟨RX5, "stands", "()Z"⟩
abbrev cX5_slotOf : ByteArray := prog_7_method_5_code
def yX5_slotOf : MethodName := ⟨RX5, "slotOf", "(I)I"⟩
abbrev cX5_isPerson : ByteArray := prog_7_method_6_code
def yX5_isPerson : MethodName := ⟨RX5, "isPerson", "(I)Z"⟩
abbrev cX5_shownRight : ByteArray := prog_7_method_7_code
def yX5_shownRight : MethodName := ⟨RX5, "shownRight", "(III)I"⟩
abbrev cX5_shownGood : ByteArray := prog_7_method_8_code
def yX5_shownGood : MethodName := ⟨RX5, "shownGood", "(III)I"⟩
abbrev cX5_gain : ByteArray := prog_7_method_9_code
def yX5_gain : MethodName := ⟨RX5, "gain", "(III)I"⟩
abbrev cX5_yearSum : ByteArray := prog_7_method_10_code
def yX5_yearSum : MethodName := ⟨RX5, "yearSum", "([I)I"⟩
abbrev cX5_sumOf : ByteArray := prog_7_method_11_code
def yX5_sumOf : MethodName := ⟨RX5, "sumOf", "([II)I"⟩
abbrev cX5_trueYear : ByteArray := prog_7_method_12_code
def yX5_trueYear : MethodName := ⟨RX5, "trueYear", "(II)I"⟩
abbrev cX5_reckonShown : ByteArray := prog_7_method_13_code
def yX5_reckonShown : MethodName := ⟨RX5, "reckonShown", "()V"⟩
abbrev cX5_goodNext : ByteArray := prog_7_method_14_code
def yX5_goodNext : MethodName := ⟨RX5, "goodNext", "(III)I"⟩
abbrev cX5_rightAfter : ByteArray := prog_7_method_15_code
def yX5_rightAfter : MethodName := ⟨RX5, "rightAfter", "(III)J"⟩
abbrev cX5_otherAfter : ByteArray := prog_7_method_16_code
def yX5_otherAfter : MethodName := ⟨RX5, "otherAfter", "(III)J"⟩
abbrev cX5_oddsOf : ByteArray := prog_7_method_17_code
def yX5_oddsOf : MethodName := ⟨RX5, "oddsOf", "(III)J"⟩
def RX6 : String := "MayGreen$Reader"
def TX6 : u_T := fun k => match k with
  | 0 => ("MayGreen$Reader", "text", "LMayGreen$Text;", true)
  | 1 => ("MayGreen$Reader", "plan", "LMayGreen$Plan;", true)
  | 2 => ("MayGreen$Reader", "names", "[J", true)
  | 3 => ("MayGreen$Reader", "thought", "[Z", true)
  | 4 => ("MayGreen$Reader", "fitted", "[Z", true)
  | 5 => ("MayGreen$Reader", "once", "I", false)
  | 6 => ("MayGreen$Reader", "kind", "I", false)
  | 7 => ("MayGreen$Reader", "start", "I", false)
  | 8 => ("MayGreen$Reader", "next", "I", false)
  | _ => ("MayGreen$Reader", "value", "I", false)
def tyX6 : Nat → FieldType := fun k => match k with
  | 0 => .object "MayGreen$Text"
  | 1 => .object "MayGreen$Plan"
  | 2 => .array .long
  | 3 => .array .boolean
  | 4 => .array .boolean
  | 5 => .int
  | 6 => .int
  | 7 => .int
  | 8 => .int
  | _ => .int
abbrev wsX60 : List Cond := u_ws RX6 TX6 10
theorem nmX6 : ∀ a, a < 10 → ∀ b, b < 10 → a ≠ b → (TX6 a).2.1 ≠ (TX6 b).2.1 := by decide +kernel
theorem tyX6_ok : ∀ k, k < 10 → parseFieldDescriptor (TX6 k).2.2.1 = some (tyX6 k) := by decide +kernel
abbrev cX6_init : ByteArray := prog_8_method_1_code
def yX6_init : MethodName := ⟨RX6, "<init>", "(LMayGreen$Text;LMayGreen$Plan;)V"⟩
abbrev cX6_read : ByteArray := prog_8_method_2_code
def yX6_read : MethodName := ⟨RX6, "read", "()I"⟩
abbrev cX6_scan : ByteArray := prog_8_method_3_code
def yX6_scan : MethodName := ⟨RX6, "scan", "()V"⟩
abbrev cX6_isBlank : ByteArray := prog_8_method_4_code
def yX6_isBlank : MethodName := ⟨RX6, "isBlank", "(I)Z"⟩
abbrev cX6_kindOf : ByteArray := prog_8_method_5_code
def yX6_kindOf : MethodName := ⟨RX6, "kindOf", "(I)I"⟩
abbrev cX6_readLine : ByteArray := prog_8_method_6_code
def yX6_readLine : MethodName := ⟨RX6, "readLine", "()Z"⟩
abbrev cX6_readPerson : ByteArray := prog_8_method_7_code
def yX6_readPerson : MethodName := ⟨RX6, "readPerson", "(II)Z"⟩
abbrev cX6_readThink : ByteArray := prog_8_method_8_code
def yX6_readThink : MethodName := ⟨RX6, "readThink", "()Z"⟩
abbrev cX6_readFit : ByteArray := prog_8_method_9_code
def yX6_readFit : MethodName := ⟨RX6, "readFit", "()Z"⟩
abbrev cX6_readWorth : ByteArray := prog_8_method_10_code
def yX6_readWorth : MethodName := ⟨RX6, "readWorth", "()Z"⟩
abbrev cX6_readHouse : ByteArray := prog_8_method_11_code
def yX6_readHouse : MethodName := ⟨RX6, "readHouse", "()Z"⟩
abbrev cX6_readChild : ByteArray := prog_8_method_12_code
def yX6_readChild : MethodName := ⟨RX6, "readChild", "()Z"⟩
abbrev cX6_readCow : ByteArray := prog_8_method_13_code
def yX6_readCow : MethodName := ⟨RX6, "readCow", "()Z"⟩
abbrev cX6_readAhead : ByteArray := prog_8_method_14_code
def yX6_readAhead : MethodName := ⟨RX6, "readAhead", "()Z"⟩
abbrev cX6_firstTold : ByteArray := prog_8_method_15_code
def yX6_firstTold : MethodName := ⟨RX6, "firstTold", "(I)Z"⟩
abbrev cX6_takeNumber : ByteArray := prog_8_method_16_code
def yX6_takeNumber : MethodName := ⟨RX6, "takeNumber", "(II)Z"⟩
abbrev cX6_takeStop : ByteArray := prog_8_method_17_code
def yX6_takeStop : MethodName := ⟨RX6, "takeStop", "()Z"⟩
abbrev cX6_numberHere : ByteArray := prog_8_method_18_code
def yX6_numberHere : MethodName := ⟨RX6, "numberHere", "()I"⟩
abbrev cX6_nameHere : ByteArray := prog_8_method_19_code
def yX6_nameHere : MethodName := ⟨RX6, "nameHere", "()J"⟩
abbrev cX6_slotNamed : ByteArray := prog_8_method_20_code
def yX6_slotNamed : MethodName := ⟨RX6, "slotNamed", "(J)I"⟩
abbrev cX6_isLineWord : ByteArray := prog_8_method_21_code
def yX6_isLineWord : MethodName := ⟨RX6, "isLineWord", "()Z"⟩
abbrev cX6_isWord : ByteArray := prog_8_method_22_code
def yX6_isWord : MethodName := ⟨RX6, "isWord", "(Ljava/lang/String;)Z"⟩
def RX7 : String := "MayGreen$Rows"
def TX7 : u_T := fun k => match k with
  | _ => ("", "", "", false)
def tyX7 : Nat → FieldType := fun k => match k with
  | _ => .int
abbrev wsX70 : List Cond := u_ws RX7 TX7 0
theorem nmX7 : ∀ a, a < 0 → ∀ b, b < 0 → a ≠ b → (TX7 a).2.1 ≠ (TX7 b).2.1 := by decide +kernel
theorem tyX7_ok : ∀ k, k < 0 → parseFieldDescriptor (TX7 k).2.2.1 = some (tyX7 k) := by decide +kernel
abbrev cX7_at : ByteArray := prog_9_method_2_code
def yX7_at : MethodName := ⟨RX7, "at", "([II)I"⟩
abbrev cX7_put : ByteArray := prog_9_method_3_code
def yX7_put : MethodName := ⟨RX7, "put", "([III)V"⟩
abbrev cX7_is : ByteArray := prog_9_method_4_code
def yX7_is : MethodName := ⟨RX7, "is", "([ZI)Z"⟩
abbrev cX7_mark : ByteArray := prog_9_method_5_code
def yX7_mark : MethodName := ⟨RX7, "mark", "([ZIZ)V"⟩
abbrev cX7_copy : ByteArray := prog_9_method_6_code
def yX7_copy : MethodName := ⟨RX7, "copy", "([I[I)V"⟩
abbrev cX7_fill : ByteArray := prog_9_method_7_code
def yX7_fill : MethodName := ⟨RX7, "fill", "([II)V"⟩
abbrev cX7_unmark : ByteArray := prog_9_method_8_code
def yX7_unmark : MethodName := ⟨RX7, "unmark", "([Z)V"⟩
def RX8 : String := "MayGreen$Season"
def TX8 : u_T := fun k => match k with
  | 0 => ("MayGreen$Season", "plan", "LMayGreen$Plan;", true)
  | 1 => ("MayGreen$Season", "life", "LMayGreen$Life;", true)
  | 2 => ("MayGreen$Season", "mind", "LMayGreen$Mind;", true)
  | 3 => ("MayGreen$Season", "green", "LMayGreen$Green;", true)
  | _ => ("MayGreen$Season", "silence", "[Z", true)
def tyX8 : Nat → FieldType := fun k => match k with
  | 0 => .object "MayGreen$Plan"
  | 1 => .object "MayGreen$Life"
  | 2 => .object "MayGreen$Mind"
  | 3 => .object "MayGreen$Green"
  | _ => .array .boolean
abbrev wsX80 : List Cond := u_ws RX8 TX8 5
theorem nmX8 : ∀ a, a < 5 → ∀ b, b < 5 → a ≠ b → (TX8 a).2.1 ≠ (TX8 b).2.1 := by decide +kernel
theorem tyX8_ok : ∀ k, k < 5 → parseFieldDescriptor (TX8 k).2.2.1 = some (tyX8 k) := by decide +kernel
abbrev cX8_init : ByteArray := prog_10_method_1_code
def yX8_init : MethodName := ⟨RX8, "<init>", "(LMayGreen$Plan;LMayGreen$Life;LMayGreen$Mind;LMayGreen$Green;)V"⟩
abbrev cX8_hold : ByteArray := prog_10_method_2_code
def yX8_hold : MethodName := ⟨RX8, "hold", "()V"⟩
abbrev cX8_askPaired : ByteArray := prog_10_method_3_code
def yX8_askPaired : MethodName := ⟨RX8, "askPaired", "()V"⟩
abbrev cX8_endPairs : ByteArray := prog_10_method_4_code
def yX8_endPairs : MethodName := ⟨RX8, "endPairs", "()V"⟩
abbrev cX8_hear : ByteArray := prog_10_method_5_code
def yX8_hear : MethodName := ⟨RX8, "hear", "(II)V"⟩
abbrev cX8_bindNewPairs : ByteArray := prog_10_method_6_code
def yX8_bindNewPairs : MethodName := ⟨RX8, "bindNewPairs", "()V"⟩
abbrev cX8_passYear : ByteArray := prog_10_method_7_code
def yX8_passYear : MethodName := ⟨RX8, "passYear", "()V"⟩
abbrev cX8_liveTogether : ByteArray := prog_10_method_8_code
def yX8_liveTogether : MethodName := ⟨RX8, "liveTogether", "(II)V"⟩
def RX9 : String := "MayGreen$Text"
def TX9 : u_T := fun k => match k with
  | 0 => ("MayGreen$Text", "bytes", "[I", true)
  | _ => ("MayGreen$Text", "length", "I", false)
def tyX9 : Nat → FieldType := fun k => match k with
  | 0 => .array .int
  | _ => .int
abbrev wsX90 : List Cond := u_ws RX9 TX9 2
theorem nmX9 : ∀ a, a < 2 → ∀ b, b < 2 → a ≠ b → (TX9 a).2.1 ≠ (TX9 b).2.1 := by decide +kernel
theorem tyX9_ok : ∀ k, k < 2 → parseFieldDescriptor (TX9 k).2.2.1 = some (tyX9 k) := by decide +kernel
abbrev cX9_init : ByteArray := prog_11_method_1_code
def yX9_init : MethodName := ⟨RX9, "<init>", "()V"⟩
abbrev cX9_length : ByteArray := prog_11_method_2_code
def yX9_length : MethodName := ⟨RX9, "length", "()I"⟩
abbrev cX9_hasRoomFor : ByteArray := prog_11_method_3_code
def yX9_hasRoomFor : MethodName := ⟨RX9, "hasRoomFor", "(I)Z"⟩
abbrev cX9_append : ByteArray := prog_11_method_4_code
def yX9_append : MethodName := ⟨RX9, "append", "(I)V"⟩
abbrev cX9_cutTo : ByteArray := prog_11_method_5_code
def yX9_cutTo : MethodName := ⟨RX9, "cutTo", "(I)V"⟩
abbrev cX9_byteAt : ByteArray := prog_11_method_6_code
def yX9_byteAt : MethodName := ⟨RX9, "byteAt", "(I)I"⟩
def RX10 : String := "MayGreen$Who"
def TX10 : u_T := fun k => match k with
  | _ => ("", "", "", false)
def tyX10 : Nat → FieldType := fun k => match k with
  | _ => .int
abbrev wsX100 : List Cond := u_ws RX10 TX10 0
theorem nmX10 : ∀ a, a < 0 → ∀ b, b < 0 → a ≠ b → (TX10 a).2.1 ≠ (TX10 b).2.1 := by decide +kernel
theorem tyX10_ok : ∀ k, k < 0 → parseFieldDescriptor (TX10 k).2.2.1 = some (tyX10 k) := by decide +kernel
abbrev cX10_numberOf : ByteArray := prog_12_method_2_code
def yX10_numberOf : MethodName := ⟨RX10, "numberOf", "(I)I"⟩
abbrev cX10_placeOf : ByteArray := prog_12_method_3_code
def yX10_placeOf : MethodName := ⟨RX10, "placeOf", "(I)I"⟩
abbrev cX10_facing : ByteArray := prog_12_method_4_code
def yX10_facing : MethodName := ⟨RX10, "facing", "(II)I"⟩
abbrev cX10_unlike : ByteArray := prog_12_method_5_code
def yX10_unlike : MethodName := ⟨RX10, "unlike", "(II)Z"⟩
abbrev cX10_couple : ByteArray := prog_12_method_6_code
def yX10_couple : MethodName := ⟨RX10, "couple", "(II)I"⟩
abbrev cX10_view : ByteArray := prog_12_method_7_code
def yX10_view : MethodName := ⟨RX10, "view", "(II)I"⟩
def RX11 : String := "MayGreen"
def TX11 : u_T := fun k => match k with
  | 0 => ("MayGreen", "text", "LMayGreen$Text;", true)
  | 1 => ("MayGreen", "draft", "LMayGreen$Plan;", true)
  | 2 => ("MayGreen", "reader", "LMayGreen$Reader;", true)
  | 3 => ("MayGreen", "plan", "LMayGreen$Plan;", true)
  | 4 => ("MayGreen", "now", "LMayGreen$Life;", true)
  | 5 => ("MayGreen", "mind", "LMayGreen$Mind;", true)
  | 6 => ("MayGreen", "meadow", "LMayGreen$Green;", true)
  | 7 => ("MayGreen", "elders", "LMayGreen$Elders;", true)
  | 8 => ("MayGreen", "season", "LMayGreen$Season;", true)
  | 9 => ("MayGreen", "album", "[LMayGreen$Life;", true)
  | 10 => ("MayGreen", "kept", "[Z", true)
  | _ => ("MayGreen", "refused", "[I", true)
def tyX11 : Nat → FieldType := fun k => match k with
  | 0 => .object "MayGreen$Text"
  | 1 => .object "MayGreen$Plan"
  | 2 => .object "MayGreen$Reader"
  | 3 => .object "MayGreen$Plan"
  | 4 => .object "MayGreen$Life"
  | 5 => .object "MayGreen$Mind"
  | 6 => .object "MayGreen$Green"
  | 7 => .object "MayGreen$Elders"
  | 8 => .object "MayGreen$Season"
  | 9 => .array (.object "MayGreen$Life")
  | 10 => .array .boolean
  | _ => .array .int
abbrev wsX110 : List Cond := u_ws RX11 TX11 12
theorem nmX11 : ∀ a, a < 12 → ∀ b, b < 12 → a ≠ b → (TX11 a).2.1 ≠ (TX11 b).2.1 := by decide +kernel
theorem tyX11_ok : ∀ k, k < 12 → parseFieldDescriptor (TX11 k).2.2.1 = some (tyX11 k) := by decide +kernel
abbrev cX11_init : ByteArray := prog_1_method_1_code
def yX11_init : MethodName := ⟨RX11, "<init>", "()V"⟩
abbrev cX11_feed : ByteArray := prog_1_method_2_code
def yX11_feed : MethodName := ⟨RX11, "feed", "(IIIII)I"⟩
abbrev cX11_end : ByteArray := prog_1_method_3_code
def yX11_end : MethodName := ⟨RX11, "end", "(I)Z"⟩
abbrev cX11_fault : ByteArray := prog_1_method_4_code
def yX11_fault : MethodName := ⟨RX11, "fault", "()I"⟩
abbrev cX11_village : ByteArray := prog_1_method_5_code
def yX11_village : MethodName := ⟨RX11, "village", "()I"⟩
abbrev cX11_person : ByteArray := prog_1_method_6_code
def yX11_person : MethodName := ⟨RX11, "person", "(II)I"⟩
abbrev cX11_earned : ByteArray := prog_1_method_7_code
def yX11_earned : MethodName := ⟨RX11, "earned", "(I)I"⟩
abbrev cX11_two : ByteArray := prog_1_method_8_code
def yX11_two : MethodName := ⟨RX11, "two", "(III)I"⟩
abbrev cX11_think : ByteArray := prog_1_method_9_code
def yX11_think : MethodName := ⟨RX11, "think", "(III)I"⟩
abbrev cX11_shown : ByteArray := prog_1_method_10_code
def yX11_shown : MethodName := ⟨RX11, "shown", "(III)I"⟩
abbrev cX11_liking : ByteArray := prog_1_method_11_code
def yX11_liking : MethodName := ⟨RX11, "liking", "(II)I"⟩
abbrev cX11_sooner : ByteArray := prog_1_method_12_code
def yX11_sooner : MethodName := ⟨RX11, "sooner", "(III)I"⟩
abbrev cX11_best : ByteArray := prog_1_method_13_code
def yX11_best : MethodName := ⟨RX11, "best", "(III)I"⟩
abbrev cX11_act : ByteArray := prog_1_method_14_code
def yX11_act : MethodName := ⟨RX11, "act", "(III)I"⟩
abbrev cX11_silent : ByteArray := prog_1_method_15_code
def yX11_silent : MethodName := ⟨RX11, "silent", "(II)I"⟩
abbrev cX11_bar : ByteArray := prog_1_method_16_code
def yX11_bar : MethodName := ⟨RX11, "bar", "(IIII)I"⟩
abbrev cX11_price : ByteArray := prog_1_method_17_code
def yX11_price : MethodName := ⟨RX11, "price", "(II)I"⟩
abbrev cX11_waits : ByteArray := prog_1_method_18_code
def yX11_waits : MethodName := ⟨RX11, "waits", "(III)I"⟩
abbrev cX11_way : ByteArray := prog_1_method_19_code
def yX11_way : MethodName := ⟨RX11, "way", "(I)Z"⟩
abbrev cX11_seed : ByteArray := prog_1_method_20_code
def yX11_seed : MethodName := ⟨RX11, "seed", "(I)Z"⟩
abbrev cX11_green : ByteArray := prog_1_method_21_code
def yX11_green : MethodName := ⟨RX11, "green", "(II)I"⟩
abbrev cX11_may : ByteArray := prog_1_method_22_code
def yX11_may : MethodName := ⟨RX11, "may", "(I)I"⟩
abbrev cX11_join : ByteArray := prog_1_method_23_code
def yX11_join : MethodName := ⟨RX11, "join", "(II)Z"⟩
abbrev cX11_part : ByteArray := prog_1_method_24_code
def yX11_part : MethodName := ⟨RX11, "part", "(I)Z"⟩
abbrev cX11_log : ByteArray := prog_1_method_25_code
def yX11_log : MethodName := ⟨RX11, "log", "(II)I"⟩
abbrev cX11_blocks : ByteArray := prog_1_method_26_code
def yX11_blocks : MethodName := ⟨RX11, "blocks", "(I)I"⟩
abbrev cX11_parents : ByteArray := prog_1_method_27_code
def yX11_parents : MethodName := ⟨RX11, "parents", "(I)I"⟩
abbrev cX11_life : ByteArray := prog_1_method_28_code
def yX11_life : MethodName := ⟨RX11, "life", "(II)I"⟩
abbrev cX11_never : ByteArray := prog_1_method_29_code
def yX11_never : MethodName := ⟨RX11, "never", "(I)I"⟩
abbrev cX11_pairs : ByteArray := prog_1_method_30_code
def yX11_pairs : MethodName := ⟨RX11, "pairs", "(II)I"⟩
abbrev cX11_image : ByteArray := prog_1_method_31_code
def yX11_image : MethodName := ⟨RX11, "image", "(I)Z"⟩
abbrev cX11_on : ByteArray := prog_1_method_32_code
def yX11_on : MethodName := ⟨RX11, "on", "(I)Z"⟩
abbrev cX11_status : ByteArray := prog_1_method_33_code
def yX11_status : MethodName := ⟨RX11, "status", "(I)I"⟩
abbrev cX11_count : ByteArray := prog_1_method_34_code
def yX11_count : MethodName := ⟨RX11, "count", "(I)I"⟩
abbrev cX11_refuse : ByteArray := prog_1_method_35_code
def yX11_refuse : MethodName := ⟨RX11, "refuse", "(I)Z"⟩
abbrev cX11_pictureAt : ByteArray := prog_1_method_36_code
def yX11_pictureAt : MethodName := ⟨RX11, "pictureAt", "(I)LMayGreen$Life;"⟩
abbrev cX11_canReckon : ByteArray := prog_1_method_37_code
def yX11_canReckon : MethodName := ⟨RX11, "canReckon", "(I)Z"⟩
abbrev cX11_neverTried : ByteArray := prog_1_method_38_code
def yX11_neverTried : MethodName := ⟨RX11, "neverTried", "()I"⟩
def RX12 : String := "MayGreenModel"
def TX12 : u_T := fun k => match k with
  | 0 => ("MayGreenModel", "refused", "[I", true)
  | 1 => ("MayGreenModel", "text", "[B", true)
  | 2 => ("MayGreenModel", "textMany", "I", false)
  | 3 => ("MayGreenModel", "at", "I", false)
  | 4 => ("MayGreenModel", "to", "I", false)
  | 5 => ("MayGreenModel", "faultAt", "I", false)
  | 6 => ("MayGreenModel", "value", "I", false)
  | 7 => ("MayGreenModel", "alone", "[[I", true)
  | 8 => ("MayGreenModel", "chance", "[[I", true)
  | 9 => ("MayGreenModel", "good", "[[I", true)
  | 10 => ("MayGreenModel", "poor", "[[I", true)
  | 11 => ("MayGreenModel", "fit", "[[I", true)
  | 12 => ("MayGreenModel", "head", "[[I", true)
  | 13 => ("MayGreenModel", "many", "[[I", true)
  | 14 => ("MayGreenModel", "names", "[J", true)
  | 15 => ("MayGreenModel", "isThought", "[Z", true)
  | 16 => ("MayGreenModel", "isFit", "[Z", true)
  | 17 => ("MayGreenModel", "isTold", "[Z", true)
  | 18 => ("MayGreenModel", "hasVillage", "Z", false)
  | 19 => ("MayGreenModel", "words", "[Ljava/lang/String;", true)
  | 20 => ("MayGreenModel", "mate", "[I", true)
  | 21 => ("MayGreenModel", "years", "[I", true)
  | 22 => ("MayGreenModel", "yeses", "[I", true)
  | 23 => ("MayGreenModel", "earned", "[I", true)
  | 24 => ("MayGreenModel", "goods", "[I", true)
  | 25 => ("MayGreenModel", "poors", "[I", true)
  | 26 => ("MayGreenModel", "children", "[I", true)
  | 27 => ("MayGreenModel", "year", "I", false)
  | 28 => ("MayGreenModel", "way", "I", false)
  | 29 => ("MayGreenModel", "logMany", "I", false)
  | 30 => ("MayGreenModel", "lots", "J", false)
  | 31 => ("MayGreenModel", "a", "[I", true)
  | 32 => ("MayGreenModel", "b", "[I", true)
  | 33 => ("MayGreenModel", "gains", "[I", true)
  | 34 => ("MayGreenModel", "bringing", "[I", true)
  | 35 => ("MayGreenModel", "self", "I", false)
  | 36 => ("MayGreenModel", "cow", "I", false)
  | 37 => ("MayGreenModel", "never", "I", false)
  | 38 => ("MayGreenModel", "actNow", "I", false)
  | 39 => ("MayGreenModel", "has", "[I", true)
  | 40 => ("MayGreenModel", "isOut", "[I", true)
  | 41 => ("MayGreenModel", "said", "[I", true)
  | 42 => ("MayGreenModel", "logs", "[I", true)
  | 43 => ("MayGreenModel", "isSilentNow", "[I", true)
  | 44 => ("MayGreenModel", "now", "[I", true)
  | 45 => ("MayGreenModel", "parents", "[I", true)
  | 46 => ("MayGreenModel", "parentsSum", "I", false)
  | 47 => ("MayGreenModel", "heldGoods", "[I", true)
  | 48 => ("MayGreenModel", "heldPoors", "[I", true)
  | 49 => ("MayGreenModel", "heldChildren", "[I", true)
  | 50 => ("MayGreenModel", "pairsNow", "[I", true)
  | 51 => ("MayGreenModel", "kept", "[[I", true)
  | 52 => ("MayGreenModel", "keptLots", "[J", true)
  | 53 => ("MayGreenModel", "hasImage", "[Z", true)
  | _ => ("MayGreenModel", "cursor", "I", false)
def tyX12 : Nat → FieldType := fun k => match k with
  | 0 => .array .int
  | 1 => .array .byte
  | 2 => .int
  | 3 => .int
  | 4 => .int
  | 5 => .int
  | 6 => .int
  | 7 => .array (.array .int)
  | 8 => .array (.array .int)
  | 9 => .array (.array .int)
  | 10 => .array (.array .int)
  | 11 => .array (.array .int)
  | 12 => .array (.array .int)
  | 13 => .array (.array .int)
  | 14 => .array .long
  | 15 => .array .boolean
  | 16 => .array .boolean
  | 17 => .array .boolean
  | 18 => .boolean
  | 19 => .array (.object "java/lang/String")
  | 20 => .array .int
  | 21 => .array .int
  | 22 => .array .int
  | 23 => .array .int
  | 24 => .array .int
  | 25 => .array .int
  | 26 => .array .int
  | 27 => .int
  | 28 => .int
  | 29 => .int
  | 30 => .long
  | 31 => .array .int
  | 32 => .array .int
  | 33 => .array .int
  | 34 => .array .int
  | 35 => .int
  | 36 => .int
  | 37 => .int
  | 38 => .int
  | 39 => .array .int
  | 40 => .array .int
  | 41 => .array .int
  | 42 => .array .int
  | 43 => .array .int
  | 44 => .array .int
  | 45 => .array .int
  | 46 => .int
  | 47 => .array .int
  | 48 => .array .int
  | 49 => .array .int
  | 50 => .array .int
  | 51 => .array (.array .int)
  | 52 => .array .long
  | 53 => .array .boolean
  | _ => .int
abbrev wsX120 : List Cond := u_ws RX12 TX12 55
theorem nmX12 : ∀ a, a < 55 → ∀ b, b < 55 → a ≠ b → (TX12 a).2.1 ≠ (TX12 b).2.1 := by decide +kernel
theorem tyX12_ok : ∀ k, k < 55 → parseFieldDescriptor (TX12 k).2.2.1 = some (tyX12 k) := by decide +kernel
abbrev cX12_init : ByteArray := prog_14_method_1_code
def yX12_init : MethodName := ⟨RX12, "<init>", "()V"⟩
abbrev cX12_in : ByteArray := prog_14_method_2_code
def yX12_in : MethodName := ⟨RX12, "in", "(JJJ)Z"⟩
abbrev cX12_refuse : ByteArray := prog_14_method_3_code
def yX12_refuse : MethodName := ⟨RX12, "refuse", "(I)I"⟩
abbrev cX12_deny : ByteArray := prog_14_method_4_code
def yX12_deny : MethodName := ⟨RX12, "deny", "(I)Z"⟩
abbrev cX12_status : ByteArray := prog_14_method_5_code
def yX12_status : MethodName := ⟨RX12, "status", "(I)I"⟩
abbrev cX12_feeds : ByteArray := prog_14_method_6_code
def yX12_feeds : MethodName := ⟨RX12, "feeds", "(I)V"⟩
abbrev cX12_feed : ByteArray := prog_14_method_7_code
def yX12_feed : MethodName := ⟨RX12, "feed", "(IIIII)I"⟩
abbrev cX12_end : ByteArray := prog_14_method_8_code
def yX12_end : MethodName := ⟨RX12, "end", "(I)Z"⟩
abbrev cX12_between : ByteArray := prog_14_method_9_code
def yX12_between : MethodName := ⟨RX12, "between", "(III)Z"⟩
abbrev cX12_next : ByteArray := prog_14_method_10_code
def yX12_next : MethodName := ⟨RX12, "next", "()V"⟩
abbrev cX12_passes : ByteArray := prog_14_method_11_code
def yX12_passes : MethodName := ⟨RX12, "passes", "(Z)Z"⟩
abbrev cX12_wordHere : ByteArray := prog_14_method_12_code
def yX12_wordHere : MethodName := ⟨RX12, "wordHere", "()I"⟩
abbrev cX12_closes : ByteArray := prog_14_method_13_code
def yX12_closes : MethodName := ⟨RX12, "closes", "()Z"⟩
abbrev cX12_into : ByteArray := prog_14_method_14_code
def yX12_into : MethodName := ⟨RX12, "into", "([IIII)Z"⟩
abbrev cX12_nameHere : ByteArray := prog_14_method_15_code
def yX12_nameHere : MethodName := ⟨RX12, "nameHere", "()J"⟩
abbrev cX12_found : ByteArray := prog_14_method_16_code
def yX12_found : MethodName := ⟨RX12, "found", "()I"⟩
abbrev cX12_personRead : ByteArray := prog_14_method_17_code
def yX12_personRead : MethodName := ⟨RX12, "personRead", "(I)Z"⟩
abbrev cX12_coupleOf : ByteArray := prog_14_method_18_code
def yX12_coupleOf : MethodName := ⟨RX12, "coupleOf", "(II)I"⟩
abbrev cX12_thinkRead : ByteArray := prog_14_method_19_code
def yX12_thinkRead : MethodName := ⟨RX12, "thinkRead", "()Z"⟩
abbrev cX12_fitRead : ByteArray := prog_14_method_20_code
def yX12_fitRead : MethodName := ⟨RX12, "fitRead", "()Z"⟩
abbrev cX12_onceRead : ByteArray := prog_14_method_21_code
def yX12_onceRead : MethodName := ⟨RX12, "onceRead", "(I)Z"⟩
abbrev cX12_line : ByteArray := prog_14_method_22_code
def yX12_line : MethodName := ⟨RX12, "line", "()Z"⟩
abbrev cX12_reads : ByteArray := prog_14_method_23_code
def yX12_reads : MethodName := ⟨RX12, "reads", "()V"⟩
abbrev cX12_fault : ByteArray := prog_14_method_24_code
def yX12_fault : MethodName := ⟨RX12, "fault", "()I"⟩
abbrev cX12_copies : ByteArray := prog_14_method_25_code
def yX12_copies : MethodName := ⟨RX12, "copies", "([[I)V"⟩
abbrev cX12_village : ByteArray := prog_14_method_26_code
def yX12_village : MethodName := ⟨RX12, "village", "()I"⟩
abbrev cX12_who : ByteArray := prog_14_method_27_code
def yX12_who : MethodName := ⟨RX12, "who", "(I)I"⟩
abbrev cX12_told : ByteArray := prog_14_method_28_code
def yX12_told : MethodName := ⟨RX12, "told", "(I)I"⟩
abbrev cX12_two : ByteArray := prog_14_method_29_code
def yX12_two : MethodName := ⟨RX12, "two", "(II)I"⟩
abbrev cX12_areTwo : ByteArray := prog_14_method_30_code
def yX12_areTwo : MethodName := ⟨RX12, "areTwo", "(II)Z"⟩
abbrev cX12_person : ByteArray := prog_14_method_31_code
def yX12_person : MethodName := ⟨RX12, "person", "(II)I"⟩
abbrev cX12_earned : ByteArray := prog_14_method_32_code
def yX12_earned : MethodName := ⟨RX12, "earned", "(I)I"⟩
abbrev cX12_two_ : ByteArray := prog_14_method_33_code
def yX12_two_ : MethodName := ⟨RX12, "two", "(III)I"⟩
abbrev cX12_think : ByteArray := prog_14_method_34_code
def yX12_think : MethodName := ⟨RX12, "think", "(III)I"⟩
abbrev cX12_power : ByteArray := prog_14_method_35_code
def yX12_power : MethodName := ⟨RX12, "power", "(II)J"⟩
abbrev cX12_shows : ByteArray := prog_14_method_36_code
def yX12_shows : MethodName := ⟨RX12, "shows", "(IIIII)I"⟩
abbrev cX12_shown : ByteArray := prog_14_method_37_code
def yX12_shown : MethodName := ⟨RX12, "shown", "(III)I"⟩
abbrev cX12_likes : ByteArray := prog_14_method_38_code
def yX12_likes : MethodName := ⟨RX12, "likes", "(III)I"⟩
abbrev cX12_likesNow : ByteArray := prog_14_method_39_code
def yX12_likesNow : MethodName := ⟨RX12, "likesNow", "(II)I"⟩
abbrev cX12_liking : ByteArray := prog_14_method_40_code
def yX12_liking : MethodName := ⟨RX12, "liking", "(II)I"⟩
abbrev cX12_isSooner : ByteArray := prog_14_method_41_code
def yX12_isSooner : MethodName := ⟨RX12, "isSooner", "(III)Z"⟩
abbrev cX12_sooner : ByteArray := prog_14_method_42_code
def yX12_sooner : MethodName := ⟨RX12, "sooner", "(III)I"⟩
abbrev cX12_would : ByteArray := prog_14_method_43_code
def yX12_would : MethodName := ⟨RX12, "would", "(II)Z"⟩
abbrev cX12_both : ByteArray := prog_14_method_44_code
def yX12_both : MethodName := ⟨RX12, "both", "(II)Z"⟩
abbrev cX12_lays : ByteArray := prog_14_method_45_code
def yX12_lays : MethodName := ⟨RX12, "lays", "(I)V"⟩
abbrev cX12_othersMany : ByteArray := prog_14_method_46_code
def yX12_othersMany : MethodName := ⟨RX12, "othersMany", "()I"⟩
abbrev cX12_with : ByteArray := prog_14_method_47_code
def yX12_with : MethodName := ⟨RX12, "with", "(III)I"⟩
abbrev cX12_by : ByteArray := prog_14_method_48_code
def yX12_by : MethodName := ⟨RX12, "by", "(IIII)I"⟩
abbrev cX12_worth : ByteArray := prog_14_method_49_code
def yX12_worth : MethodName := ⟨RX12, "worth", "(III)I"⟩
abbrev cX12_mateOf : ByteArray := prog_14_method_50_code
def yX12_mateOf : MethodName := ⟨RX12, "mateOf", "(I)I"⟩
abbrev cX12_bestOf : ByteArray := prog_14_method_51_code
def yX12_bestOf : MethodName := ⟨RX12, "bestOf", "(II)I"⟩
abbrev cX12_toldOf : ByteArray := prog_14_method_52_code
def yX12_toldOf : MethodName := ⟨RX12, "toldOf", "(II)I"⟩
abbrev cX12_areMays : ByteArray := prog_14_method_53_code
def yX12_areMays : MethodName := ⟨RX12, "areMays", "(I)Z"⟩
abbrev cX12_best : ByteArray := prog_14_method_54_code
def yX12_best : MethodName := ⟨RX12, "best", "(III)I"⟩
abbrev cX12_act : ByteArray := prog_14_method_55_code
def yX12_act : MethodName := ⟨RX12, "act", "(III)I"⟩
abbrev cX12_isSilent : ByteArray := prog_14_method_56_code
def yX12_isSilent : MethodName := ⟨RX12, "isSilent", "(II)Z"⟩
abbrev cX12_silent : ByteArray := prog_14_method_57_code
def yX12_silent : MethodName := ⟨RX12, "silent", "(II)I"⟩
abbrev cX12_bar : ByteArray := prog_14_method_58_code
def yX12_bar : MethodName := ⟨RX12, "bar", "(IIII)I"⟩
abbrev cX12_price : ByteArray := prog_14_method_59_code
def yX12_price : MethodName := ⟨RX12, "price", "(II)I"⟩
abbrev cX12_waits : ByteArray := prog_14_method_60_code
def yX12_waits : MethodName := ⟨RX12, "waits", "(III)I"⟩
abbrev cX12_lot : ByteArray := prog_14_method_61_code
def yX12_lot : MethodName := ⟨RX12, "lot", "(I)I"⟩
abbrev cX12_gives : ByteArray := prog_14_method_62_code
def yX12_gives : MethodName := ⟨RX12, "gives", "(II)V"⟩
abbrev cX12_asks : ByteArray := prog_14_method_63_code
def yX12_asks : MethodName := ⟨RX12, "asks", "(I)V"⟩
abbrev cX12_inTurn : ByteArray := prog_14_method_64_code
def yX12_inTurn : MethodName := ⟨RX12, "inTurn", "()V"⟩
abbrev cX12_byLot : ByteArray := prog_14_method_65_code
def yX12_byLot : MethodName := ⟨RX12, "byLot", "()V"⟩
abbrev cX12_goes : ByteArray := prog_14_method_66_code
def yX12_goes : MethodName := ⟨RX12, "goes", "(I)V"⟩
abbrev cX12_way : ByteArray := prog_14_method_67_code
def yX12_way : MethodName := ⟨RX12, "way", "(I)Z"⟩
abbrev cX12_seed : ByteArray := prog_14_method_68_code
def yX12_seed : MethodName := ⟨RX12, "seed", "(I)Z"⟩
abbrev cX12_green : ByteArray := prog_14_method_69_code
def yX12_green : MethodName := ⟨RX12, "green", "(II)I"⟩
abbrev cX12_notes : ByteArray := prog_14_method_70_code
def yX12_notes : MethodName := ⟨RX12, "notes", "(II)V"⟩
abbrev cX12_log : ByteArray := prog_14_method_71_code
def yX12_log : MethodName := ⟨RX12, "log", "(II)I"⟩
abbrev cX12_joins : ByteArray := prog_14_method_72_code
def yX12_joins : MethodName := ⟨RX12, "joins", "(II)V"⟩
abbrev cX12_parts : ByteArray := prog_14_method_73_code
def yX12_parts : MethodName := ⟨RX12, "parts", "(I)V"⟩
abbrev cX12_asked : ByteArray := prog_14_method_74_code
def yX12_asked : MethodName := ⟨RX12, "asked", "()V"⟩
abbrev cX12_lives : ByteArray := prog_14_method_75_code
def yX12_lives : MethodName := ⟨RX12, "lives", "(I)V"⟩
abbrev cX12_may : ByteArray := prog_14_method_76_code
def yX12_may : MethodName := ⟨RX12, "may", "()V"⟩
abbrev cX12_may_ : ByteArray := prog_14_method_77_code
def yX12_may_ : MethodName := ⟨RX12, "may", "(I)I"⟩
abbrev cX12_join : ByteArray := prog_14_method_78_code
def yX12_join : MethodName := ⟨RX12, "join", "(II)Z"⟩
abbrev cX12_part : ByteArray := prog_14_method_79_code
def yX12_part : MethodName := ⟨RX12, "part", "(I)Z"⟩
abbrev cX12_isFree : ByteArray := prog_14_method_80_code
def yX12_isFree : MethodName := ⟨RX12, "isFree", "(II)Z"⟩
abbrev cX12_blocks : ByteArray := prog_14_method_81_code
def yX12_blocks : MethodName := ⟨RX12, "blocks", "(I)I"⟩
abbrev cX12_truly : ByteArray := prog_14_method_82_code
def yX12_truly : MethodName := ⟨RX12, "truly", "(II)I"⟩
abbrev cX12_sumOf : ByteArray := prog_14_method_83_code
def yX12_sumOf : MethodName := ⟨RX12, "sumOf", "([I)I"⟩
abbrev cX12_parentsFrom : ByteArray := prog_14_method_84_code
def yX12_parentsFrom : MethodName := ⟨RX12, "parentsFrom", "(I)V"⟩
abbrev cX12_findsParents : ByteArray := prog_14_method_85_code
def yX12_findsParents : MethodName := ⟨RX12, "findsParents", "()V"⟩
abbrev cX12_parents : ByteArray := prog_14_method_86_code
def yX12_parents : MethodName := ⟨RX12, "parents", "(I)I"⟩
abbrev cX12_lifeOf : ByteArray := prog_14_method_87_code
def yX12_lifeOf : MethodName := ⟨RX12, "lifeOf", "([II)I"⟩
abbrev cX12_life : ByteArray := prog_14_method_88_code
def yX12_life : MethodName := ⟨RX12, "life", "(II)I"⟩
abbrev cX12_never : ByteArray := prog_14_method_89_code
def yX12_never : MethodName := ⟨RX12, "never", "(I)I"⟩
abbrev cX12_pairs : ByteArray := prog_14_method_90_code
def yX12_pairs : MethodName := ⟨RX12, "pairs", "(II)I"⟩
abbrev cX12_move : ByteArray := prog_14_method_91_code
def yX12_move : MethodName := ⟨RX12, "move", "([I[IZ)V"⟩
abbrev cX12_moves : ByteArray := prog_14_method_92_code
def yX12_moves : MethodName := ⟨RX12, "moves", "([IZ)V"⟩
abbrev cX12_image : ByteArray := prog_14_method_93_code
def yX12_image : MethodName := ⟨RX12, "image", "(I)Z"⟩
abbrev cX12_on : ByteArray := prog_14_method_94_code
def yX12_on : MethodName := ⟨RX12, "on", "(I)Z"⟩
abbrev cX12_count : ByteArray := prog_14_method_95_code
def yX12_count : MethodName := ⟨RX12, "count", "(I)I"⟩
def RJ9 : String := "java/lang/Math"
def TJ9 : u_T := fun k => match k with
  | _ => ("", "", "", false)
def tyJ9 : Nat → FieldType := fun k => match k with
  | _ => .int
abbrev wsJ90 : List Cond := u_ws RJ9 TJ9 0
theorem nmJ9 : ∀ a, a < 0 → ∀ b, b < 0 → a ≠ b → (TJ9 a).2.1 ≠ (TJ9 b).2.1 := by decide +kernel
theorem tyJ9_ok : ∀ k, k < 0 → parseFieldDescriptor (TJ9 k).2.2.1 = some (tyJ9 k) := by decide +kernel
abbrev cJ9_max_7cf53 : ByteArray := prog_15_method_65_code
def yJ9_max_7cf53 : MethodName := ⟨RJ9, "max", "(II)I"⟩
abbrev cJ9_max_f86c9 : ByteArray := prog_15_method_66_code
def yJ9_max_f86c9 : MethodName := ⟨RJ9, "max", "(JJ)J"⟩
abbrev cJ9_min_7cf53 : ByteArray := prog_15_method_69_code
def yJ9_min_7cf53 : MethodName := ⟨RJ9, "min", "(II)I"⟩
def RJ0 : String := "java/lang/String"
def TJ0 : u_T := fun k => match k with
  | _ => ("", "", "", false)
def tyJ0 : Nat → FieldType := fun k => match k with
  | _ => .int
abbrev wsJ00 : List Cond := u_ws RJ0 TJ0 0
theorem nmJ0 : ∀ a, a < 0 → ∀ b, b < 0 → a ≠ b → (TJ0 a).2.1 ≠ (TJ0 b).2.1 := by decide +kernel
theorem tyJ0_ok : ∀ k, k < 0 → parseFieldDescriptor (TJ0 k).2.2.1 = some (tyJ0 k) := by decide +kernel
abbrev cJ0_length_8abf5 : ByteArray := prog_16_method_54_code
def yJ0_length_8abf5 : MethodName := ⟨RJ0, "length", "()I"⟩
abbrev cJ0_charAt_5068e : ByteArray := prog_16_method_56_code
def yJ0_charAt_5068e : MethodName := ⟨RJ0, "charAt", "(I)C"⟩
abbrev cJ0_coder_7d493 : ByteArray := prog_16_method_152_code
def yJ0_coder_7d493 : MethodName := ⟨RJ0, "coder", "()B"⟩
abbrev cJ0_isLatin1_aae02 : ByteArray := prog_16_method_154_code
def yJ0_isLatin1_aae02 : MethodName := ⟨RJ0, "isLatin1", "()Z"⟩
abbrev cJ0_checkIndex_df160 : ByteArray := prog_16_method_155_code
def yJ0_checkIndex_df160 : MethodName := ⟨RJ0, "checkIndex", "(II)V"⟩
def RJ1 : String := "java/lang/StringLatin1"
def TJ1 : u_T := fun k => match k with
  | _ => ("", "", "", false)
def tyJ1 : Nat → FieldType := fun k => match k with
  | _ => .int
abbrev wsJ10 : List Cond := u_ws RJ1 TJ1 0
theorem nmJ1 : ∀ a, a < 0 → ∀ b, b < 0 → a ≠ b → (TJ1 a).2.1 ≠ (TJ1 b).2.1 := by decide +kernel
theorem tyJ1_ok : ∀ k, k < 0 → parseFieldDescriptor (TJ1 k).2.2.1 = some (tyJ1 k) := by decide +kernel
abbrev cJ1_charAt_3b067 : ByteArray := prog_17_method_2_code
def yJ1_charAt_3b067 : MethodName := ⟨RJ1, "charAt", "([BI)C"⟩
def RJ2 : String := "java/lang/StringUTF16"
def TJ2 : u_T := fun k => match k with
  | _ => ("", "", "", false)
def tyJ2 : Nat → FieldType := fun k => match k with
  | _ => .int
abbrev wsJ20 : List Cond := u_ws RJ2 TJ2 0
theorem nmJ2 : ∀ a, a < 0 → ∀ b, b < 0 → a ≠ b → (TJ2 a).2.1 ≠ (TJ2 b).2.1 := by decide +kernel
theorem tyJ2_ok : ∀ k, k < 0 → parseFieldDescriptor (TJ2 k).2.2.1 = some (tyJ2 k) := by decide +kernel
abbrev cJ2_getChar_3b067 : ByteArray := prog_18_method_5_code
def yJ2_getChar_3b067 : MethodName := ⟨RJ2, "getChar", "([BI)C"⟩
abbrev cJ2_length_9d52b : ByteArray := prog_18_method_6_code
def yJ2_length_9d52b : MethodName := ⟨RJ2, "length", "([B)I"⟩
abbrev cJ2_charAt_3b067 : ByteArray := prog_18_method_83_code
def yJ2_charAt_3b067 : MethodName := ⟨RJ2, "charAt", "([BI)C"⟩
abbrev cJ2_checkIndex_2214a : ByteArray := prog_18_method_91_code
def yJ2_checkIndex_2214a : MethodName := ⟨RJ2, "checkIndex", "(I[B)V"⟩
def RJ3 : String := "jdk/internal/util/Preconditions"
def TJ3 : u_T := fun k => match k with
  | _ => ("", "", "", false)
def tyJ3 : Nat → FieldType := fun k => match k with
  | _ => .int
abbrev wsJ30 : List Cond := u_ws RJ3 TJ3 0
theorem nmJ3 : ∀ a, a < 0 → ∀ b, b < 0 → a ≠ b → (TJ3 a).2.1 ≠ (TJ3 b).2.1 := by decide +kernel
theorem tyJ3_ok : ∀ k, k < 0 → parseFieldDescriptor (TJ3 k).2.2.1 = some (tyJ3 k) := by decide +kernel
abbrev cJ3_checkIndex_8e157 : ByteArray := prog_19_method_11_code
def yJ3_checkIndex_8e157 : MethodName := ⟨RJ3, "checkIndex", "(IILjava/util/function/BiFunction;)I"⟩
def RL : String := "MayGreenLaw"
abbrev cL_law : ByteArray := code
def yL_law : MethodName := ⟨RL, "law", "([I)Z"⟩
abbrev vwCl : List vw_C := [(RX0, TX0, 3), (RX1, TX1, 3), (RX2, TX2, 7), (RX3, TX3, 11), (RX4, TX4, 11), (RX5, TX5, 16), (RX6, TX6, 10), (RX8, TX8, 5), (RX9, TX9, 2), (RX11, TX11, 12), (RX12, TX12, 55)]
