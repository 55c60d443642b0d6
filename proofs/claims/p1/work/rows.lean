section
-- ===== PART A: goes FIRST, ahead of the names: the tables' words, and 'selects' of the private methods out of them =====
/-- a private method of a class that the tables say can be made, by its rows of tables_1 -/
def lw_okq (q : MethodName × Nat) : Prop := (q.1.cls ≠ "java/lang/invoke/MethodHandle" ∧ q.1.cls ≠ "java/lang/invoke/VarHandle") ∧ Cond.instantiable q.1.cls q.2 ∈ tables_1 ∧ Cond.privateMethod q.1 ∈ tables_1 ∧ Cond.instanceMethod q.1 ∈ tables_1
theorem lw_p0 : lw_okq (⟨"MayGreen", "refuse", "(I)Z"⟩, 12) := ⟨⟨by decide +kernel, by decide +kernel⟩, List.mem_of_getElem? (i := 20) (by decide +kernel), List.mem_of_getElem? (i := 424) (by decide +kernel), List.mem_of_getElem? (i := 425) (by decide +kernel)⟩
theorem lw_p1 : lw_okq (⟨"MayGreen$Reader", "scan", "()V"⟩, 10) := ⟨⟨by decide +kernel, by decide +kernel⟩, List.mem_of_getElem? (i := 142) (by decide +kernel), List.mem_of_getElem? (i := 467) (by decide +kernel), List.mem_of_getElem? (i := 468) (by decide +kernel)⟩
theorem lw_p2 : lw_okq (⟨"MayGreen$Reader", "readLine", "()Z"⟩, 10) := ⟨⟨by decide +kernel, by decide +kernel⟩, List.mem_of_getElem? (i := 142) (by decide +kernel), List.mem_of_getElem? (i := 483) (by decide +kernel), List.mem_of_getElem? (i := 484) (by decide +kernel)⟩
theorem lw_p3 : lw_okq (⟨"MayGreen$Reader", "isWord", "(Ljava/lang/String;)Z"⟩, 10) := ⟨⟨by decide +kernel, by decide +kernel⟩, List.mem_of_getElem? (i := 142) (by decide +kernel), List.mem_of_getElem? (i := 488) (by decide +kernel), List.mem_of_getElem? (i := 489) (by decide +kernel)⟩
theorem lw_p4 : lw_okq (⟨"MayGreen$Reader", "readPerson", "(II)Z"⟩, 10) := ⟨⟨by decide +kernel, by decide +kernel⟩, List.mem_of_getElem? (i := 142) (by decide +kernel), List.mem_of_getElem? (i := 540) (by decide +kernel), List.mem_of_getElem? (i := 541) (by decide +kernel)⟩
theorem lw_p5 : lw_okq (⟨"MayGreen$Reader", "nameHere", "()J"⟩, 10) := ⟨⟨by decide +kernel, by decide +kernel⟩, List.mem_of_getElem? (i := 142) (by decide +kernel), List.mem_of_getElem? (i := 544) (by decide +kernel), List.mem_of_getElem? (i := 545) (by decide +kernel)⟩
theorem lw_p6 : lw_okq (⟨"MayGreen$Reader", "isLineWord", "()Z"⟩, 10) := ⟨⟨by decide +kernel, by decide +kernel⟩, List.mem_of_getElem? (i := 142) (by decide +kernel), List.mem_of_getElem? (i := 549) (by decide +kernel), List.mem_of_getElem? (i := 550) (by decide +kernel)⟩
theorem lw_p7 : lw_okq (⟨"MayGreen$Reader", "slotNamed", "(J)I"⟩, 10) := ⟨⟨by decide +kernel, by decide +kernel⟩, List.mem_of_getElem? (i := 142) (by decide +kernel), List.mem_of_getElem? (i := 561) (by decide +kernel), List.mem_of_getElem? (i := 562) (by decide +kernel)⟩
theorem lw_p8 : lw_okq (⟨"MayGreen$Reader", "takeNumber", "(II)Z"⟩, 10) := ⟨⟨by decide +kernel, by decide +kernel⟩, List.mem_of_getElem? (i := 142) (by decide +kernel), List.mem_of_getElem? (i := 569) (by decide +kernel), List.mem_of_getElem? (i := 570) (by decide +kernel)⟩
theorem lw_p9 : lw_okq (⟨"MayGreen$Reader", "numberHere", "()I"⟩, 10) := ⟨⟨by decide +kernel, by decide +kernel⟩, List.mem_of_getElem? (i := 142) (by decide +kernel), List.mem_of_getElem? (i := 573) (by decide +kernel), List.mem_of_getElem? (i := 574) (by decide +kernel)⟩
theorem lw_p10 : lw_okq (⟨"MayGreen$Reader", "takeStop", "()Z"⟩, 10) := ⟨⟨by decide +kernel, by decide +kernel⟩, List.mem_of_getElem? (i := 142) (by decide +kernel), List.mem_of_getElem? (i := 582) (by decide +kernel), List.mem_of_getElem? (i := 583) (by decide +kernel)⟩
theorem lw_p11 : lw_okq (⟨"MayGreen$Reader", "readThink", "()Z"⟩, 10) := ⟨⟨by decide +kernel, by decide +kernel⟩, List.mem_of_getElem? (i := 142) (by decide +kernel), List.mem_of_getElem? (i := 586) (by decide +kernel), List.mem_of_getElem? (i := 587) (by decide +kernel)⟩
theorem lw_p12 : lw_okq (⟨"MayGreen$Reader", "readFit", "()Z"⟩, 10) := ⟨⟨by decide +kernel, by decide +kernel⟩, List.mem_of_getElem? (i := 142) (by decide +kernel), List.mem_of_getElem? (i := 602) (by decide +kernel), List.mem_of_getElem? (i := 603) (by decide +kernel)⟩
theorem lw_p13 : lw_okq (⟨"MayGreen$Reader", "readWorth", "()Z"⟩, 10) := ⟨⟨by decide +kernel, by decide +kernel⟩, List.mem_of_getElem? (i := 142) (by decide +kernel), List.mem_of_getElem? (i := 609) (by decide +kernel), List.mem_of_getElem? (i := 610) (by decide +kernel)⟩
theorem lw_p14 : lw_okq (⟨"MayGreen$Reader", "firstTold", "(I)Z"⟩, 10) := ⟨⟨by decide +kernel, by decide +kernel⟩, List.mem_of_getElem? (i := 142) (by decide +kernel), List.mem_of_getElem? (i := 613) (by decide +kernel), List.mem_of_getElem? (i := 614) (by decide +kernel)⟩
theorem lw_p15 : lw_okq (⟨"MayGreen$Reader", "readHouse", "()Z"⟩, 10) := ⟨⟨by decide +kernel, by decide +kernel⟩, List.mem_of_getElem? (i := 142) (by decide +kernel), List.mem_of_getElem? (i := 617) (by decide +kernel), List.mem_of_getElem? (i := 618) (by decide +kernel)⟩
def lw_privs_1 : List (MethodName × Nat) := [(⟨"MayGreen", "refuse", "(I)Z"⟩, 12), (⟨"MayGreen$Reader", "scan", "()V"⟩, 10), (⟨"MayGreen$Reader", "readLine", "()Z"⟩, 10), (⟨"MayGreen$Reader", "isWord", "(Ljava/lang/String;)Z"⟩, 10), (⟨"MayGreen$Reader", "readPerson", "(II)Z"⟩, 10), (⟨"MayGreen$Reader", "nameHere", "()J"⟩, 10), (⟨"MayGreen$Reader", "isLineWord", "()Z"⟩, 10), (⟨"MayGreen$Reader", "slotNamed", "(J)I"⟩, 10), (⟨"MayGreen$Reader", "takeNumber", "(II)Z"⟩, 10), (⟨"MayGreen$Reader", "numberHere", "()I"⟩, 10), (⟨"MayGreen$Reader", "takeStop", "()Z"⟩, 10), (⟨"MayGreen$Reader", "readThink", "()Z"⟩, 10), (⟨"MayGreen$Reader", "readFit", "()Z"⟩, 10), (⟨"MayGreen$Reader", "readWorth", "()Z"⟩, 10), (⟨"MayGreen$Reader", "firstTold", "(I)Z"⟩, 10), (⟨"MayGreen$Reader", "readHouse", "()Z"⟩, 10)]
theorem lw_r1 : ∀ q ∈ lw_privs_1, lw_okq q := List.forall_mem_cons.mpr ⟨lw_p0, List.forall_mem_cons.mpr ⟨lw_p1, List.forall_mem_cons.mpr ⟨lw_p2, List.forall_mem_cons.mpr ⟨lw_p3, List.forall_mem_cons.mpr ⟨lw_p4, List.forall_mem_cons.mpr ⟨lw_p5, List.forall_mem_cons.mpr ⟨lw_p6, List.forall_mem_cons.mpr ⟨lw_p7, List.forall_mem_cons.mpr ⟨lw_p8, List.forall_mem_cons.mpr ⟨lw_p9, List.forall_mem_cons.mpr ⟨lw_p10, List.forall_mem_cons.mpr ⟨lw_p11, List.forall_mem_cons.mpr ⟨lw_p12, List.forall_mem_cons.mpr ⟨lw_p13, List.forall_mem_cons.mpr ⟨lw_p14, List.forall_mem_cons.mpr ⟨lw_p15, fun _ h => absurd h List.not_mem_nil⟩⟩⟩⟩⟩⟩⟩⟩⟩⟩⟩⟩⟩⟩⟩⟩
theorem lw_p16 : lw_okq (⟨"MayGreen$Reader", "readChild", "()Z"⟩, 10) := ⟨⟨by decide +kernel, by decide +kernel⟩, List.mem_of_getElem? (i := 142) (by decide +kernel), List.mem_of_getElem? (i := 621) (by decide +kernel), List.mem_of_getElem? (i := 622) (by decide +kernel)⟩
theorem lw_p17 : lw_okq (⟨"MayGreen$Reader", "readCow", "()Z"⟩, 10) := ⟨⟨by decide +kernel, by decide +kernel⟩, List.mem_of_getElem? (i := 142) (by decide +kernel), List.mem_of_getElem? (i := 625) (by decide +kernel), List.mem_of_getElem? (i := 626) (by decide +kernel)⟩
theorem lw_p18 : lw_okq (⟨"MayGreen$Reader", "readAhead", "()Z"⟩, 10) := ⟨⟨by decide +kernel, by decide +kernel⟩, List.mem_of_getElem? (i := 142) (by decide +kernel), List.mem_of_getElem? (i := 629) (by decide +kernel), List.mem_of_getElem? (i := 630) (by decide +kernel)⟩
theorem lw_p19 : lw_okq (⟨"MayGreen$Plan", "reckonShown", "()V"⟩, 16) := ⟨⟨by decide +kernel, by decide +kernel⟩, List.mem_of_getElem? (i := 42) (by decide +kernel), List.mem_of_getElem? (i := 649) (by decide +kernel), List.mem_of_getElem? (i := 650) (by decide +kernel)⟩
theorem lw_p20 : lw_okq (⟨"MayGreen$Plan", "goodNext", "(III)I"⟩, 16) := ⟨⟨by decide +kernel, by decide +kernel⟩, List.mem_of_getElem? (i := 42) (by decide +kernel), List.mem_of_getElem? (i := 653) (by decide +kernel), List.mem_of_getElem? (i := 654) (by decide +kernel)⟩
theorem lw_p21 : lw_okq (⟨"MayGreen$Plan", "rightAfter", "(III)J"⟩, 16) := ⟨⟨by decide +kernel, by decide +kernel⟩, List.mem_of_getElem? (i := 42) (by decide +kernel), List.mem_of_getElem? (i := 657) (by decide +kernel), List.mem_of_getElem? (i := 658) (by decide +kernel)⟩
theorem lw_p22 : lw_okq (⟨"MayGreen$Plan", "otherAfter", "(III)J"⟩, 16) := ⟨⟨by decide +kernel, by decide +kernel⟩, List.mem_of_getElem? (i := 42) (by decide +kernel), List.mem_of_getElem? (i := 665) (by decide +kernel), List.mem_of_getElem? (i := 666) (by decide +kernel)⟩
theorem lw_p23 : lw_okq (⟨"MayGreen$Elders", "spread", "(I)Z"⟩, 3) := ⟨⟨by decide +kernel, by decide +kernel⟩, List.mem_of_getElem? (i := 339) (by decide +kernel), List.mem_of_getElem? (i := 676) (by decide +kernel), List.mem_of_getElem? (i := 677) (by decide +kernel)⟩
theorem lw_p24 : lw_okq (⟨"MayGreen$Plan", "trueYear", "(II)I"⟩, 16) := ⟨⟨by decide +kernel, by decide +kernel⟩, List.mem_of_getElem? (i := 42) (by decide +kernel), List.mem_of_getElem? (i := 689) (by decide +kernel), List.mem_of_getElem? (i := 690) (by decide +kernel)⟩
theorem lw_p25 : lw_okq (⟨"MayGreen$Green", "would", "(II)Z"⟩, 7) := ⟨⟨by decide +kernel, by decide +kernel⟩, List.mem_of_getElem? (i := 309) (by decide +kernel), List.mem_of_getElem? (i := 774) (by decide +kernel), List.mem_of_getElem? (i := 775) (by decide +kernel)⟩
theorem lw_p26 : lw_okq (⟨"MayGreen$Green", "likes", "(II)I"⟩, 7) := ⟨⟨by decide +kernel, by decide +kernel⟩, List.mem_of_getElem? (i := 309) (by decide +kernel), List.mem_of_getElem? (i := 778) (by decide +kernel), List.mem_of_getElem? (i := 779) (by decide +kernel)⟩
theorem lw_p27 : lw_okq (⟨"MayGreen$Mind", "worthOf", "(III)J"⟩, 11) := ⟨⟨by decide +kernel, by decide +kernel⟩, List.mem_of_getElem? (i := 269) (by decide +kernel), List.mem_of_getElem? (i := 811) (by decide +kernel), List.mem_of_getElem? (i := 812) (by decide +kernel)⟩
theorem lw_p28 : lw_okq (⟨"MayGreen$Mind", "doing", "(IIII)J"⟩, 11) := ⟨⟨by decide +kernel, by decide +kernel⟩, List.mem_of_getElem? (i := 269) (by decide +kernel), List.mem_of_getElem? (i := 815) (by decide +kernel), List.mem_of_getElem? (i := 816) (by decide +kernel)⟩
theorem lw_p29 : lw_okq (⟨"MayGreen$Mind", "isShut", "(I)Z"⟩, 11) := ⟨⟨by decide +kernel, by decide +kernel⟩, List.mem_of_getElem? (i := 269) (by decide +kernel), List.mem_of_getElem? (i := 822) (by decide +kernel), List.mem_of_getElem? (i := 823) (by decide +kernel)⟩
theorem lw_p30 : lw_okq (⟨"MayGreen$Green", "askAll", "(I)V"⟩, 7) := ⟨⟨by decide +kernel, by decide +kernel⟩, List.mem_of_getElem? (i := 309) (by decide +kernel), List.mem_of_getElem? (i := 906) (by decide +kernel), List.mem_of_getElem? (i := 907) (by decide +kernel)⟩
theorem lw_p31 : lw_okq (⟨"MayGreen$Green", "soonestToAsk", "(I)I"⟩, 7) := ⟨⟨by decide +kernel, by decide +kernel⟩, List.mem_of_getElem? (i := 309) (by decide +kernel), List.mem_of_getElem? (i := 910) (by decide +kernel), List.mem_of_getElem? (i := 911) (by decide +kernel)⟩
def lw_privs_2 : List (MethodName × Nat) := [(⟨"MayGreen$Reader", "readChild", "()Z"⟩, 10), (⟨"MayGreen$Reader", "readCow", "()Z"⟩, 10), (⟨"MayGreen$Reader", "readAhead", "()Z"⟩, 10), (⟨"MayGreen$Plan", "reckonShown", "()V"⟩, 16), (⟨"MayGreen$Plan", "goodNext", "(III)I"⟩, 16), (⟨"MayGreen$Plan", "rightAfter", "(III)J"⟩, 16), (⟨"MayGreen$Plan", "otherAfter", "(III)J"⟩, 16), (⟨"MayGreen$Elders", "spread", "(I)Z"⟩, 3), (⟨"MayGreen$Plan", "trueYear", "(II)I"⟩, 16), (⟨"MayGreen$Green", "would", "(II)Z"⟩, 7), (⟨"MayGreen$Green", "likes", "(II)I"⟩, 7), (⟨"MayGreen$Mind", "worthOf", "(III)J"⟩, 11), (⟨"MayGreen$Mind", "doing", "(IIII)J"⟩, 11), (⟨"MayGreen$Mind", "isShut", "(I)Z"⟩, 11), (⟨"MayGreen$Green", "askAll", "(I)V"⟩, 7), (⟨"MayGreen$Green", "soonestToAsk", "(I)I"⟩, 7)]
theorem lw_r2 : ∀ q ∈ lw_privs_2, lw_okq q := List.forall_mem_cons.mpr ⟨lw_p16, List.forall_mem_cons.mpr ⟨lw_p17, List.forall_mem_cons.mpr ⟨lw_p18, List.forall_mem_cons.mpr ⟨lw_p19, List.forall_mem_cons.mpr ⟨lw_p20, List.forall_mem_cons.mpr ⟨lw_p21, List.forall_mem_cons.mpr ⟨lw_p22, List.forall_mem_cons.mpr ⟨lw_p23, List.forall_mem_cons.mpr ⟨lw_p24, List.forall_mem_cons.mpr ⟨lw_p25, List.forall_mem_cons.mpr ⟨lw_p26, List.forall_mem_cons.mpr ⟨lw_p27, List.forall_mem_cons.mpr ⟨lw_p28, List.forall_mem_cons.mpr ⟨lw_p29, List.forall_mem_cons.mpr ⟨lw_p30, List.forall_mem_cons.mpr ⟨lw_p31, fun _ h => absurd h List.not_mem_nil⟩⟩⟩⟩⟩⟩⟩⟩⟩⟩⟩⟩⟩⟩⟩⟩
theorem lw_p32 : lw_okq (⟨"MayGreen$Green", "canMeet", "(II)Z"⟩, 7) := ⟨⟨by decide +kernel, by decide +kernel⟩, List.mem_of_getElem? (i := 309) (by decide +kernel), List.mem_of_getElem? (i := 915) (by decide +kernel), List.mem_of_getElem? (i := 916) (by decide +kernel)⟩
theorem lw_p33 : lw_okq (⟨"MayGreen$Green", "ask", "(II)V"⟩, 7) := ⟨⟨by decide +kernel, by decide +kernel⟩, List.mem_of_getElem? (i := 309) (by decide +kernel), List.mem_of_getElem? (i := 921) (by decide +kernel), List.mem_of_getElem? (i := 922) (by decide +kernel)⟩
theorem lw_p34 : lw_okq (⟨"MayGreen$Green", "tie", "(II)V"⟩, 7) := ⟨⟨by decide +kernel, by decide +kernel⟩, List.mem_of_getElem? (i := 309) (by decide +kernel), List.mem_of_getElem? (i := 925) (by decide +kernel), List.mem_of_getElem? (i := 926) (by decide +kernel)⟩
theorem lw_p35 : lw_okq (⟨"MayGreen$Green", "takeTurns", "()V"⟩, 7) := ⟨⟨by decide +kernel, by decide +kernel⟩, List.mem_of_getElem? (i := 309) (by decide +kernel), List.mem_of_getElem? (i := 929) (by decide +kernel), List.mem_of_getElem? (i := 930) (by decide +kernel)⟩
theorem lw_p36 : lw_okq (⟨"MayGreen$Green", "isLeftFor", "(II)Z"⟩, 7) := ⟨⟨by decide +kernel, by decide +kernel⟩, List.mem_of_getElem? (i := 309) (by decide +kernel), List.mem_of_getElem? (i := 933) (by decide +kernel), List.mem_of_getElem? (i := 934) (by decide +kernel)⟩
theorem lw_p37 : lw_okq (⟨"MayGreen$Green", "drawLots", "()V"⟩, 7) := ⟨⟨by decide +kernel, by decide +kernel⟩, List.mem_of_getElem? (i := 309) (by decide +kernel), List.mem_of_getElem? (i := 937) (by decide +kernel), List.mem_of_getElem? (i := 938) (by decide +kernel)⟩
theorem lw_p38 : lw_okq (⟨"MayGreen$Green", "openOne", "(II)I"⟩, 7) := ⟨⟨by decide +kernel, by decide +kernel⟩, List.mem_of_getElem? (i := 309) (by decide +kernel), List.mem_of_getElem? (i := 948) (by decide +kernel), List.mem_of_getElem? (i := 949) (by decide +kernel)⟩
theorem lw_p39 : lw_okq (⟨"MayGreen$Season", "askPaired", "()V"⟩, 5) := ⟨⟨by decide +kernel, by decide +kernel⟩, List.mem_of_getElem? (i := 356) (by decide +kernel), List.mem_of_getElem? (i := 961) (by decide +kernel), List.mem_of_getElem? (i := 962) (by decide +kernel)⟩
theorem lw_p40 : lw_okq (⟨"MayGreen$Season", "endPairs", "()V"⟩, 5) := ⟨⟨by decide +kernel, by decide +kernel⟩, List.mem_of_getElem? (i := 356) (by decide +kernel), List.mem_of_getElem? (i := 969) (by decide +kernel), List.mem_of_getElem? (i := 970) (by decide +kernel)⟩
theorem lw_p41 : lw_okq (⟨"MayGreen$Season", "hear", "(II)V"⟩, 5) := ⟨⟨by decide +kernel, by decide +kernel⟩, List.mem_of_getElem? (i := 356) (by decide +kernel), List.mem_of_getElem? (i := 973) (by decide +kernel), List.mem_of_getElem? (i := 974) (by decide +kernel)⟩
theorem lw_p42 : lw_okq (⟨"MayGreen$Life", "free", "(I)V"⟩, 11) := ⟨⟨by decide +kernel, by decide +kernel⟩, List.mem_of_getElem? (i := 181) (by decide +kernel), List.mem_of_getElem? (i := 994) (by decide +kernel), List.mem_of_getElem? (i := 995) (by decide +kernel)⟩
theorem lw_p43 : lw_okq (⟨"MayGreen$Season", "bindNewPairs", "()V"⟩, 5) := ⟨⟨by decide +kernel, by decide +kernel⟩, List.mem_of_getElem? (i := 356) (by decide +kernel), List.mem_of_getElem? (i := 1001) (by decide +kernel), List.mem_of_getElem? (i := 1002) (by decide +kernel)⟩
theorem lw_p44 : lw_okq (⟨"MayGreen$Season", "passYear", "()V"⟩, 5) := ⟨⟨by decide +kernel, by decide +kernel⟩, List.mem_of_getElem? (i := 356) (by decide +kernel), List.mem_of_getElem? (i := 1009) (by decide +kernel), List.mem_of_getElem? (i := 1010) (by decide +kernel)⟩
theorem lw_p45 : lw_okq (⟨"MayGreen$Season", "liveTogether", "(II)V"⟩, 5) := ⟨⟨by decide +kernel, by decide +kernel⟩, List.mem_of_getElem? (i := 356) (by decide +kernel), List.mem_of_getElem? (i := 1013) (by decide +kernel), List.mem_of_getElem? (i := 1014) (by decide +kernel)⟩
theorem lw_p46 : lw_okq (⟨"MayGreen$Green", "isBetter", "(II)Z"⟩, 7) := ⟨⟨by decide +kernel, by decide +kernel⟩, List.mem_of_getElem? (i := 309) (by decide +kernel), List.mem_of_getElem? (i := 1053) (by decide +kernel), List.mem_of_getElem? (i := 1054) (by decide +kernel)⟩
theorem lw_p47 : lw_okq (⟨"MayGreen", "neverTried", "()I"⟩, 12) := ⟨⟨by decide +kernel, by decide +kernel⟩, List.mem_of_getElem? (i := 20) (by decide +kernel), List.mem_of_getElem? (i := 1076) (by decide +kernel), List.mem_of_getElem? (i := 1077) (by decide +kernel)⟩
def lw_privs_3 : List (MethodName × Nat) := [(⟨"MayGreen$Green", "canMeet", "(II)Z"⟩, 7), (⟨"MayGreen$Green", "ask", "(II)V"⟩, 7), (⟨"MayGreen$Green", "tie", "(II)V"⟩, 7), (⟨"MayGreen$Green", "takeTurns", "()V"⟩, 7), (⟨"MayGreen$Green", "isLeftFor", "(II)Z"⟩, 7), (⟨"MayGreen$Green", "drawLots", "()V"⟩, 7), (⟨"MayGreen$Green", "openOne", "(II)I"⟩, 7), (⟨"MayGreen$Season", "askPaired", "()V"⟩, 5), (⟨"MayGreen$Season", "endPairs", "()V"⟩, 5), (⟨"MayGreen$Season", "hear", "(II)V"⟩, 5), (⟨"MayGreen$Life", "free", "(I)V"⟩, 11), (⟨"MayGreen$Season", "bindNewPairs", "()V"⟩, 5), (⟨"MayGreen$Season", "passYear", "()V"⟩, 5), (⟨"MayGreen$Season", "liveTogether", "(II)V"⟩, 5), (⟨"MayGreen$Green", "isBetter", "(II)Z"⟩, 7), (⟨"MayGreen", "neverTried", "()I"⟩, 12)]
theorem lw_r3 : ∀ q ∈ lw_privs_3, lw_okq q := List.forall_mem_cons.mpr ⟨lw_p32, List.forall_mem_cons.mpr ⟨lw_p33, List.forall_mem_cons.mpr ⟨lw_p34, List.forall_mem_cons.mpr ⟨lw_p35, List.forall_mem_cons.mpr ⟨lw_p36, List.forall_mem_cons.mpr ⟨lw_p37, List.forall_mem_cons.mpr ⟨lw_p38, List.forall_mem_cons.mpr ⟨lw_p39, List.forall_mem_cons.mpr ⟨lw_p40, List.forall_mem_cons.mpr ⟨lw_p41, List.forall_mem_cons.mpr ⟨lw_p42, List.forall_mem_cons.mpr ⟨lw_p43, List.forall_mem_cons.mpr ⟨lw_p44, List.forall_mem_cons.mpr ⟨lw_p45, List.forall_mem_cons.mpr ⟨lw_p46, List.forall_mem_cons.mpr ⟨lw_p47, fun _ h => absurd h List.not_mem_nil⟩⟩⟩⟩⟩⟩⟩⟩⟩⟩⟩⟩⟩⟩⟩⟩
theorem lw_p48 : lw_okq (⟨"MayGreen", "pictureAt", "(I)LMayGreen$Life;"⟩, 12) := ⟨⟨by decide +kernel, by decide +kernel⟩, List.mem_of_getElem? (i := 20) (by decide +kernel), List.mem_of_getElem? (i := 1096) (by decide +kernel), List.mem_of_getElem? (i := 1097) (by decide +kernel)⟩
theorem lw_p49 : lw_okq (⟨"MayGreenModel", "refuse", "(I)I"⟩, 55) := ⟨⟨by decide +kernel, by decide +kernel⟩, List.mem_of_getElem? (i := 1124) (by decide +kernel), List.mem_of_getElem? (i := 1321) (by decide +kernel), List.mem_of_getElem? (i := 1322) (by decide +kernel)⟩
theorem lw_p50 : lw_okq (⟨"MayGreenModel", "feeds", "(I)V"⟩, 55) := ⟨⟨by decide +kernel, by decide +kernel⟩, List.mem_of_getElem? (i := 1124) (by decide +kernel), List.mem_of_getElem? (i := 1325) (by decide +kernel), List.mem_of_getElem? (i := 1326) (by decide +kernel)⟩
theorem lw_p51 : lw_okq (⟨"MayGreenModel", "deny", "(I)Z"⟩, 55) := ⟨⟨by decide +kernel, by decide +kernel⟩, List.mem_of_getElem? (i := 1124) (by decide +kernel), List.mem_of_getElem? (i := 1333) (by decide +kernel), List.mem_of_getElem? (i := 1334) (by decide +kernel)⟩
theorem lw_p52 : lw_okq (⟨"MayGreenModel", "reads", "()V"⟩, 55) := ⟨⟨by decide +kernel, by decide +kernel⟩, List.mem_of_getElem? (i := 1124) (by decide +kernel), List.mem_of_getElem? (i := 1341) (by decide +kernel), List.mem_of_getElem? (i := 1342) (by decide +kernel)⟩
theorem lw_p53 : lw_okq (⟨"MayGreenModel", "next", "()V"⟩, 55) := ⟨⟨by decide +kernel, by decide +kernel⟩, List.mem_of_getElem? (i := 1124) (by decide +kernel), List.mem_of_getElem? (i := 1345) (by decide +kernel), List.mem_of_getElem? (i := 1346) (by decide +kernel)⟩
theorem lw_p54 : lw_okq (⟨"MayGreenModel", "between", "(III)Z"⟩, 55) := ⟨⟨by decide +kernel, by decide +kernel⟩, List.mem_of_getElem? (i := 1124) (by decide +kernel), List.mem_of_getElem? (i := 1349) (by decide +kernel), List.mem_of_getElem? (i := 1350) (by decide +kernel)⟩
theorem lw_p55 : lw_okq (⟨"MayGreenModel", "line", "()Z"⟩, 55) := ⟨⟨by decide +kernel, by decide +kernel⟩, List.mem_of_getElem? (i := 1124) (by decide +kernel), List.mem_of_getElem? (i := 1353) (by decide +kernel), List.mem_of_getElem? (i := 1354) (by decide +kernel)⟩
theorem lw_p56 : lw_okq (⟨"MayGreenModel", "wordHere", "()I"⟩, 55) := ⟨⟨by decide +kernel, by decide +kernel⟩, List.mem_of_getElem? (i := 1124) (by decide +kernel), List.mem_of_getElem? (i := 1357) (by decide +kernel), List.mem_of_getElem? (i := 1358) (by decide +kernel)⟩
theorem lw_p57 : lw_okq (⟨"MayGreenModel", "personRead", "(I)Z"⟩, 55) := ⟨⟨by decide +kernel, by decide +kernel⟩, List.mem_of_getElem? (i := 1124) (by decide +kernel), List.mem_of_getElem? (i := 1363) (by decide +kernel), List.mem_of_getElem? (i := 1364) (by decide +kernel)⟩
theorem lw_p58 : lw_okq (⟨"MayGreenModel", "passes", "(Z)Z"⟩, 55) := ⟨⟨by decide +kernel, by decide +kernel⟩, List.mem_of_getElem? (i := 1124) (by decide +kernel), List.mem_of_getElem? (i := 1367) (by decide +kernel), List.mem_of_getElem? (i := 1368) (by decide +kernel)⟩
theorem lw_p59 : lw_okq (⟨"MayGreenModel", "nameHere", "()J"⟩, 55) := ⟨⟨by decide +kernel, by decide +kernel⟩, List.mem_of_getElem? (i := 1124) (by decide +kernel), List.mem_of_getElem? (i := 1371) (by decide +kernel), List.mem_of_getElem? (i := 1372) (by decide +kernel)⟩
theorem lw_p60 : lw_okq (⟨"MayGreenModel", "found", "()I"⟩, 55) := ⟨⟨by decide +kernel, by decide +kernel⟩, List.mem_of_getElem? (i := 1124) (by decide +kernel), List.mem_of_getElem? (i := 1378) (by decide +kernel), List.mem_of_getElem? (i := 1379) (by decide +kernel)⟩
theorem lw_p61 : lw_okq (⟨"MayGreenModel", "into", "([IIII)Z"⟩, 55) := ⟨⟨by decide +kernel, by decide +kernel⟩, List.mem_of_getElem? (i := 1124) (by decide +kernel), List.mem_of_getElem? (i := 1382) (by decide +kernel), List.mem_of_getElem? (i := 1383) (by decide +kernel)⟩
theorem lw_p62 : lw_okq (⟨"MayGreenModel", "closes", "()Z"⟩, 55) := ⟨⟨by decide +kernel, by decide +kernel⟩, List.mem_of_getElem? (i := 1124) (by decide +kernel), List.mem_of_getElem? (i := 1386) (by decide +kernel), List.mem_of_getElem? (i := 1387) (by decide +kernel)⟩
theorem lw_p63 : lw_okq (⟨"MayGreenModel", "thinkRead", "()Z"⟩, 55) := ⟨⟨by decide +kernel, by decide +kernel⟩, List.mem_of_getElem? (i := 1124) (by decide +kernel), List.mem_of_getElem? (i := 1390) (by decide +kernel), List.mem_of_getElem? (i := 1391) (by decide +kernel)⟩
def lw_privs_4 : List (MethodName × Nat) := [(⟨"MayGreen", "pictureAt", "(I)LMayGreen$Life;"⟩, 12), (⟨"MayGreenModel", "refuse", "(I)I"⟩, 55), (⟨"MayGreenModel", "feeds", "(I)V"⟩, 55), (⟨"MayGreenModel", "deny", "(I)Z"⟩, 55), (⟨"MayGreenModel", "reads", "()V"⟩, 55), (⟨"MayGreenModel", "next", "()V"⟩, 55), (⟨"MayGreenModel", "between", "(III)Z"⟩, 55), (⟨"MayGreenModel", "line", "()Z"⟩, 55), (⟨"MayGreenModel", "wordHere", "()I"⟩, 55), (⟨"MayGreenModel", "personRead", "(I)Z"⟩, 55), (⟨"MayGreenModel", "passes", "(Z)Z"⟩, 55), (⟨"MayGreenModel", "nameHere", "()J"⟩, 55), (⟨"MayGreenModel", "found", "()I"⟩, 55), (⟨"MayGreenModel", "into", "([IIII)Z"⟩, 55), (⟨"MayGreenModel", "closes", "()Z"⟩, 55), (⟨"MayGreenModel", "thinkRead", "()Z"⟩, 55)]
theorem lw_r4 : ∀ q ∈ lw_privs_4, lw_okq q := List.forall_mem_cons.mpr ⟨lw_p48, List.forall_mem_cons.mpr ⟨lw_p49, List.forall_mem_cons.mpr ⟨lw_p50, List.forall_mem_cons.mpr ⟨lw_p51, List.forall_mem_cons.mpr ⟨lw_p52, List.forall_mem_cons.mpr ⟨lw_p53, List.forall_mem_cons.mpr ⟨lw_p54, List.forall_mem_cons.mpr ⟨lw_p55, List.forall_mem_cons.mpr ⟨lw_p56, List.forall_mem_cons.mpr ⟨lw_p57, List.forall_mem_cons.mpr ⟨lw_p58, List.forall_mem_cons.mpr ⟨lw_p59, List.forall_mem_cons.mpr ⟨lw_p60, List.forall_mem_cons.mpr ⟨lw_p61, List.forall_mem_cons.mpr ⟨lw_p62, List.forall_mem_cons.mpr ⟨lw_p63, fun _ h => absurd h List.not_mem_nil⟩⟩⟩⟩⟩⟩⟩⟩⟩⟩⟩⟩⟩⟩⟩⟩
theorem lw_p64 : lw_okq (⟨"MayGreenModel", "fitRead", "()Z"⟩, 55) := ⟨⟨by decide +kernel, by decide +kernel⟩, List.mem_of_getElem? (i := 1124) (by decide +kernel), List.mem_of_getElem? (i := 1397) (by decide +kernel), List.mem_of_getElem? (i := 1398) (by decide +kernel)⟩
theorem lw_p65 : lw_okq (⟨"MayGreenModel", "onceRead", "(I)Z"⟩, 55) := ⟨⟨by decide +kernel, by decide +kernel⟩, List.mem_of_getElem? (i := 1124) (by decide +kernel), List.mem_of_getElem? (i := 1402) (by decide +kernel), List.mem_of_getElem? (i := 1403) (by decide +kernel)⟩
theorem lw_p66 : lw_okq (⟨"MayGreenModel", "who", "(I)I"⟩, 55) := ⟨⟨by decide +kernel, by decide +kernel⟩, List.mem_of_getElem? (i := 1124) (by decide +kernel), List.mem_of_getElem? (i := 1417) (by decide +kernel), List.mem_of_getElem? (i := 1418) (by decide +kernel)⟩
theorem lw_p67 : lw_okq (⟨"MayGreenModel", "shows", "(IIIII)I"⟩, 55) := ⟨⟨by decide +kernel, by decide +kernel⟩, List.mem_of_getElem? (i := 1124) (by decide +kernel), List.mem_of_getElem? (i := 1449) (by decide +kernel), List.mem_of_getElem? (i := 1450) (by decide +kernel)⟩
theorem lw_p68 : lw_okq (⟨"MayGreenModel", "likesNow", "(II)I"⟩, 55) := ⟨⟨by decide +kernel, by decide +kernel⟩, List.mem_of_getElem? (i := 1124) (by decide +kernel), List.mem_of_getElem? (i := 1462) (by decide +kernel), List.mem_of_getElem? (i := 1463) (by decide +kernel)⟩
theorem lw_p69 : lw_okq (⟨"MayGreenModel", "likes", "(III)I"⟩, 55) := ⟨⟨by decide +kernel, by decide +kernel⟩, List.mem_of_getElem? (i := 1124) (by decide +kernel), List.mem_of_getElem? (i := 1466) (by decide +kernel), List.mem_of_getElem? (i := 1467) (by decide +kernel)⟩
theorem lw_p70 : lw_okq (⟨"MayGreenModel", "isSooner", "(III)Z"⟩, 55) := ⟨⟨by decide +kernel, by decide +kernel⟩, List.mem_of_getElem? (i := 1124) (by decide +kernel), List.mem_of_getElem? (i := 1474) (by decide +kernel), List.mem_of_getElem? (i := 1475) (by decide +kernel)⟩
theorem lw_p71 : lw_okq (⟨"MayGreenModel", "bestOf", "(II)I"⟩, 55) := ⟨⟨by decide +kernel, by decide +kernel⟩, List.mem_of_getElem? (i := 1124) (by decide +kernel), List.mem_of_getElem? (i := 1486) (by decide +kernel), List.mem_of_getElem? (i := 1487) (by decide +kernel)⟩
theorem lw_p72 : lw_okq (⟨"MayGreenModel", "lays", "(I)V"⟩, 55) := ⟨⟨by decide +kernel, by decide +kernel⟩, List.mem_of_getElem? (i := 1124) (by decide +kernel), List.mem_of_getElem? (i := 1490) (by decide +kernel), List.mem_of_getElem? (i := 1491) (by decide +kernel)⟩
theorem lw_p73 : lw_okq (⟨"MayGreenModel", "mateOf", "(I)I"⟩, 55) := ⟨⟨by decide +kernel, by decide +kernel⟩, List.mem_of_getElem? (i := 1124) (by decide +kernel), List.mem_of_getElem? (i := 1494) (by decide +kernel), List.mem_of_getElem? (i := 1495) (by decide +kernel)⟩
theorem lw_p74 : lw_okq (⟨"MayGreenModel", "worth", "(III)I"⟩, 55) := ⟨⟨by decide +kernel, by decide +kernel⟩, List.mem_of_getElem? (i := 1124) (by decide +kernel), List.mem_of_getElem? (i := 1498) (by decide +kernel), List.mem_of_getElem? (i := 1499) (by decide +kernel)⟩
theorem lw_p75 : lw_okq (⟨"MayGreenModel", "by", "(IIII)I"⟩, 55) := ⟨⟨by decide +kernel, by decide +kernel⟩, List.mem_of_getElem? (i := 1124) (by decide +kernel), List.mem_of_getElem? (i := 1502) (by decide +kernel), List.mem_of_getElem? (i := 1503) (by decide +kernel)⟩
theorem lw_p76 : lw_okq (⟨"MayGreenModel", "with", "(III)I"⟩, 55) := ⟨⟨by decide +kernel, by decide +kernel⟩, List.mem_of_getElem? (i := 1124) (by decide +kernel), List.mem_of_getElem? (i := 1506) (by decide +kernel), List.mem_of_getElem? (i := 1507) (by decide +kernel)⟩
theorem lw_p77 : lw_okq (⟨"MayGreenModel", "othersMany", "()I"⟩, 55) := ⟨⟨by decide +kernel, by decide +kernel⟩, List.mem_of_getElem? (i := 1124) (by decide +kernel), List.mem_of_getElem? (i := 1511) (by decide +kernel), List.mem_of_getElem? (i := 1512) (by decide +kernel)⟩
theorem lw_p78 : lw_okq (⟨"MayGreenModel", "toldOf", "(II)I"⟩, 55) := ⟨⟨by decide +kernel, by decide +kernel⟩, List.mem_of_getElem? (i := 1124) (by decide +kernel), List.mem_of_getElem? (i := 1515) (by decide +kernel), List.mem_of_getElem? (i := 1516) (by decide +kernel)⟩
theorem lw_p79 : lw_okq (⟨"MayGreenModel", "isSilent", "(II)Z"⟩, 55) := ⟨⟨by decide +kernel, by decide +kernel⟩, List.mem_of_getElem? (i := 1124) (by decide +kernel), List.mem_of_getElem? (i := 1527) (by decide +kernel), List.mem_of_getElem? (i := 1528) (by decide +kernel)⟩
def lw_privs_5 : List (MethodName × Nat) := [(⟨"MayGreenModel", "fitRead", "()Z"⟩, 55), (⟨"MayGreenModel", "onceRead", "(I)Z"⟩, 55), (⟨"MayGreenModel", "who", "(I)I"⟩, 55), (⟨"MayGreenModel", "shows", "(IIIII)I"⟩, 55), (⟨"MayGreenModel", "likesNow", "(II)I"⟩, 55), (⟨"MayGreenModel", "likes", "(III)I"⟩, 55), (⟨"MayGreenModel", "isSooner", "(III)Z"⟩, 55), (⟨"MayGreenModel", "bestOf", "(II)I"⟩, 55), (⟨"MayGreenModel", "lays", "(I)V"⟩, 55), (⟨"MayGreenModel", "mateOf", "(I)I"⟩, 55), (⟨"MayGreenModel", "worth", "(III)I"⟩, 55), (⟨"MayGreenModel", "by", "(IIII)I"⟩, 55), (⟨"MayGreenModel", "with", "(III)I"⟩, 55), (⟨"MayGreenModel", "othersMany", "()I"⟩, 55), (⟨"MayGreenModel", "toldOf", "(II)I"⟩, 55), (⟨"MayGreenModel", "isSilent", "(II)Z"⟩, 55)]
theorem lw_r5 : ∀ q ∈ lw_privs_5, lw_okq q := List.forall_mem_cons.mpr ⟨lw_p64, List.forall_mem_cons.mpr ⟨lw_p65, List.forall_mem_cons.mpr ⟨lw_p66, List.forall_mem_cons.mpr ⟨lw_p67, List.forall_mem_cons.mpr ⟨lw_p68, List.forall_mem_cons.mpr ⟨lw_p69, List.forall_mem_cons.mpr ⟨lw_p70, List.forall_mem_cons.mpr ⟨lw_p71, List.forall_mem_cons.mpr ⟨lw_p72, List.forall_mem_cons.mpr ⟨lw_p73, List.forall_mem_cons.mpr ⟨lw_p74, List.forall_mem_cons.mpr ⟨lw_p75, List.forall_mem_cons.mpr ⟨lw_p76, List.forall_mem_cons.mpr ⟨lw_p77, List.forall_mem_cons.mpr ⟨lw_p78, List.forall_mem_cons.mpr ⟨lw_p79, fun _ h => absurd h List.not_mem_nil⟩⟩⟩⟩⟩⟩⟩⟩⟩⟩⟩⟩⟩⟩⟩⟩
theorem lw_p80 : lw_okq (⟨"MayGreenModel", "goes", "(I)V"⟩, 55) := ⟨⟨by decide +kernel, by decide +kernel⟩, List.mem_of_getElem? (i := 1124) (by decide +kernel), List.mem_of_getElem? (i := 1557) (by decide +kernel), List.mem_of_getElem? (i := 1558) (by decide +kernel)⟩
theorem lw_p81 : lw_okq (⟨"MayGreenModel", "asks", "(I)V"⟩, 55) := ⟨⟨by decide +kernel, by decide +kernel⟩, List.mem_of_getElem? (i := 1124) (by decide +kernel), List.mem_of_getElem? (i := 1561) (by decide +kernel), List.mem_of_getElem? (i := 1562) (by decide +kernel)⟩
theorem lw_p82 : lw_okq (⟨"MayGreenModel", "both", "(II)Z"⟩, 55) := ⟨⟨by decide +kernel, by decide +kernel⟩, List.mem_of_getElem? (i := 1124) (by decide +kernel), List.mem_of_getElem? (i := 1565) (by decide +kernel), List.mem_of_getElem? (i := 1566) (by decide +kernel)⟩
theorem lw_p83 : lw_okq (⟨"MayGreenModel", "would", "(II)Z"⟩, 55) := ⟨⟨by decide +kernel, by decide +kernel⟩, List.mem_of_getElem? (i := 1124) (by decide +kernel), List.mem_of_getElem? (i := 1569) (by decide +kernel), List.mem_of_getElem? (i := 1570) (by decide +kernel)⟩
theorem lw_p84 : lw_okq (⟨"MayGreenModel", "gives", "(II)V"⟩, 55) := ⟨⟨by decide +kernel, by decide +kernel⟩, List.mem_of_getElem? (i := 1124) (by decide +kernel), List.mem_of_getElem? (i := 1573) (by decide +kernel), List.mem_of_getElem? (i := 1574) (by decide +kernel)⟩
theorem lw_p85 : lw_okq (⟨"MayGreenModel", "inTurn", "()V"⟩, 55) := ⟨⟨by decide +kernel, by decide +kernel⟩, List.mem_of_getElem? (i := 1124) (by decide +kernel), List.mem_of_getElem? (i := 1577) (by decide +kernel), List.mem_of_getElem? (i := 1578) (by decide +kernel)⟩
theorem lw_p86 : lw_okq (⟨"MayGreenModel", "byLot", "()V"⟩, 55) := ⟨⟨by decide +kernel, by decide +kernel⟩, List.mem_of_getElem? (i := 1124) (by decide +kernel), List.mem_of_getElem? (i := 1581) (by decide +kernel), List.mem_of_getElem? (i := 1582) (by decide +kernel)⟩
theorem lw_p87 : lw_okq (⟨"MayGreenModel", "lot", "(I)I"⟩, 55) := ⟨⟨by decide +kernel, by decide +kernel⟩, List.mem_of_getElem? (i := 1124) (by decide +kernel), List.mem_of_getElem? (i := 1585) (by decide +kernel), List.mem_of_getElem? (i := 1586) (by decide +kernel)⟩
theorem lw_p88 : lw_okq (⟨"MayGreenModel", "may", "()V"⟩, 55) := ⟨⟨by decide +kernel, by decide +kernel⟩, List.mem_of_getElem? (i := 1124) (by decide +kernel), List.mem_of_getElem? (i := 1602) (by decide +kernel), List.mem_of_getElem? (i := 1603) (by decide +kernel)⟩
theorem lw_p89 : lw_okq (⟨"MayGreenModel", "asked", "()V"⟩, 55) := ⟨⟨by decide +kernel, by decide +kernel⟩, List.mem_of_getElem? (i := 1124) (by decide +kernel), List.mem_of_getElem? (i := 1606) (by decide +kernel), List.mem_of_getElem? (i := 1607) (by decide +kernel)⟩
theorem lw_p90 : lw_okq (⟨"MayGreenModel", "notes", "(II)V"⟩, 55) := ⟨⟨by decide +kernel, by decide +kernel⟩, List.mem_of_getElem? (i := 1124) (by decide +kernel), List.mem_of_getElem? (i := 1610) (by decide +kernel), List.mem_of_getElem? (i := 1611) (by decide +kernel)⟩
theorem lw_p91 : lw_okq (⟨"MayGreenModel", "parts", "(I)V"⟩, 55) := ⟨⟨by decide +kernel, by decide +kernel⟩, List.mem_of_getElem? (i := 1124) (by decide +kernel), List.mem_of_getElem? (i := 1614) (by decide +kernel), List.mem_of_getElem? (i := 1615) (by decide +kernel)⟩
theorem lw_p92 : lw_okq (⟨"MayGreenModel", "joins", "(II)V"⟩, 55) := ⟨⟨by decide +kernel, by decide +kernel⟩, List.mem_of_getElem? (i := 1124) (by decide +kernel), List.mem_of_getElem? (i := 1618) (by decide +kernel), List.mem_of_getElem? (i := 1619) (by decide +kernel)⟩
theorem lw_p93 : lw_okq (⟨"MayGreenModel", "lives", "(I)V"⟩, 55) := ⟨⟨by decide +kernel, by decide +kernel⟩, List.mem_of_getElem? (i := 1124) (by decide +kernel), List.mem_of_getElem? (i := 1622) (by decide +kernel), List.mem_of_getElem? (i := 1623) (by decide +kernel)⟩
theorem lw_p94 : lw_okq (⟨"MayGreenModel", "isFree", "(II)Z"⟩, 55) := ⟨⟨by decide +kernel, by decide +kernel⟩, List.mem_of_getElem? (i := 1124) (by decide +kernel), List.mem_of_getElem? (i := 1638) (by decide +kernel), List.mem_of_getElem? (i := 1639) (by decide +kernel)⟩
theorem lw_p95 : lw_okq (⟨"MayGreenModel", "findsParents", "()V"⟩, 55) := ⟨⟨by decide +kernel, by decide +kernel⟩, List.mem_of_getElem? (i := 1124) (by decide +kernel), List.mem_of_getElem? (i := 1646) (by decide +kernel), List.mem_of_getElem? (i := 1647) (by decide +kernel)⟩
def lw_privs_6 : List (MethodName × Nat) := [(⟨"MayGreenModel", "goes", "(I)V"⟩, 55), (⟨"MayGreenModel", "asks", "(I)V"⟩, 55), (⟨"MayGreenModel", "both", "(II)Z"⟩, 55), (⟨"MayGreenModel", "would", "(II)Z"⟩, 55), (⟨"MayGreenModel", "gives", "(II)V"⟩, 55), (⟨"MayGreenModel", "inTurn", "()V"⟩, 55), (⟨"MayGreenModel", "byLot", "()V"⟩, 55), (⟨"MayGreenModel", "lot", "(I)I"⟩, 55), (⟨"MayGreenModel", "may", "()V"⟩, 55), (⟨"MayGreenModel", "asked", "()V"⟩, 55), (⟨"MayGreenModel", "notes", "(II)V"⟩, 55), (⟨"MayGreenModel", "parts", "(I)V"⟩, 55), (⟨"MayGreenModel", "joins", "(II)V"⟩, 55), (⟨"MayGreenModel", "lives", "(I)V"⟩, 55), (⟨"MayGreenModel", "isFree", "(II)Z"⟩, 55), (⟨"MayGreenModel", "findsParents", "()V"⟩, 55)]
theorem lw_r6 : ∀ q ∈ lw_privs_6, lw_okq q := List.forall_mem_cons.mpr ⟨lw_p80, List.forall_mem_cons.mpr ⟨lw_p81, List.forall_mem_cons.mpr ⟨lw_p82, List.forall_mem_cons.mpr ⟨lw_p83, List.forall_mem_cons.mpr ⟨lw_p84, List.forall_mem_cons.mpr ⟨lw_p85, List.forall_mem_cons.mpr ⟨lw_p86, List.forall_mem_cons.mpr ⟨lw_p87, List.forall_mem_cons.mpr ⟨lw_p88, List.forall_mem_cons.mpr ⟨lw_p89, List.forall_mem_cons.mpr ⟨lw_p90, List.forall_mem_cons.mpr ⟨lw_p91, List.forall_mem_cons.mpr ⟨lw_p92, List.forall_mem_cons.mpr ⟨lw_p93, List.forall_mem_cons.mpr ⟨lw_p94, List.forall_mem_cons.mpr ⟨lw_p95, fun _ h => absurd h List.not_mem_nil⟩⟩⟩⟩⟩⟩⟩⟩⟩⟩⟩⟩⟩⟩⟩⟩
theorem lw_p96 : lw_okq (⟨"MayGreenModel", "parentsFrom", "(I)V"⟩, 55) := ⟨⟨by decide +kernel, by decide +kernel⟩, List.mem_of_getElem? (i := 1124) (by decide +kernel), List.mem_of_getElem? (i := 1650) (by decide +kernel), List.mem_of_getElem? (i := 1651) (by decide +kernel)⟩
theorem lw_p97 : lw_okq (⟨"MayGreenModel", "sumOf", "([I)I"⟩, 55) := ⟨⟨by decide +kernel, by decide +kernel⟩, List.mem_of_getElem? (i := 1124) (by decide +kernel), List.mem_of_getElem? (i := 1654) (by decide +kernel), List.mem_of_getElem? (i := 1655) (by decide +kernel)⟩
theorem lw_p98 : lw_okq (⟨"MayGreenModel", "truly", "(II)I"⟩, 55) := ⟨⟨by decide +kernel, by decide +kernel⟩, List.mem_of_getElem? (i := 1124) (by decide +kernel), List.mem_of_getElem? (i := 1658) (by decide +kernel), List.mem_of_getElem? (i := 1659) (by decide +kernel)⟩
theorem lw_p99 : lw_okq (⟨"MayGreenModel", "lifeOf", "([II)I"⟩, 55) := ⟨⟨by decide +kernel, by decide +kernel⟩, List.mem_of_getElem? (i := 1124) (by decide +kernel), List.mem_of_getElem? (i := 1667) (by decide +kernel), List.mem_of_getElem? (i := 1668) (by decide +kernel)⟩
theorem lw_p100 : lw_okq (⟨"MayGreenModel", "moves", "([IZ)V"⟩, 55) := ⟨⟨by decide +kernel, by decide +kernel⟩, List.mem_of_getElem? (i := 1124) (by decide +kernel), List.mem_of_getElem? (i := 1684) (by decide +kernel), List.mem_of_getElem? (i := 1685) (by decide +kernel)⟩
theorem lw_p101 : lw_okq (⟨"MayGreenModel", "move", "([I[IZ)V"⟩, 55) := ⟨⟨by decide +kernel, by decide +kernel⟩, List.mem_of_getElem? (i := 1124) (by decide +kernel), List.mem_of_getElem? (i := 1688) (by decide +kernel), List.mem_of_getElem? (i := 1689) (by decide +kernel)⟩
def lw_privs_7 : List (MethodName × Nat) := [(⟨"MayGreenModel", "parentsFrom", "(I)V"⟩, 55), (⟨"MayGreenModel", "sumOf", "([I)I"⟩, 55), (⟨"MayGreenModel", "truly", "(II)I"⟩, 55), (⟨"MayGreenModel", "lifeOf", "([II)I"⟩, 55), (⟨"MayGreenModel", "moves", "([IZ)V"⟩, 55), (⟨"MayGreenModel", "move", "([I[IZ)V"⟩, 55)]
theorem lw_r7 : ∀ q ∈ lw_privs_7, lw_okq q := List.forall_mem_cons.mpr ⟨lw_p96, List.forall_mem_cons.mpr ⟨lw_p97, List.forall_mem_cons.mpr ⟨lw_p98, List.forall_mem_cons.mpr ⟨lw_p99, List.forall_mem_cons.mpr ⟨lw_p100, List.forall_mem_cons.mpr ⟨lw_p101, fun _ h => absurd h List.not_mem_nil⟩⟩⟩⟩⟩⟩
def lw_privs : List (MethodName × Nat) := lw_privs_1 ++ (lw_privs_2 ++ (lw_privs_3 ++ (lw_privs_4 ++ (lw_privs_5 ++ (lw_privs_6 ++ (lw_privs_7))))))
def lw_tbl : List Cond := k2_sels lw_privs ++ tables_1
theorem lw_privs_ok : ∀ q ∈ lw_privs, lw_okq q := by
  show ∀ q ∈ lw_privs_1 ++ (lw_privs_2 ++ (lw_privs_3 ++ (lw_privs_4 ++ (lw_privs_5 ++ (lw_privs_6 ++ (lw_privs_7)))))), lw_okq q
  exact List.forall_mem_append.mpr ⟨lw_r1, List.forall_mem_append.mpr ⟨lw_r2, List.forall_mem_append.mpr ⟨lw_r3, List.forall_mem_append.mpr ⟨lw_r4, List.forall_mem_append.mpr ⟨lw_r5, List.forall_mem_append.mpr ⟨lw_r6, lw_r7⟩⟩⟩⟩⟩⟩
def RX0 : String := "MayGreen$Elders"
def TX0 : u_T := fun k => match k with
  | 0 => ("MayGreen$Elders", "plan", "LMayGreen$Plan;", true)
  | 1 => ("MayGreen$Elders", "trial", "[I", true)
  | _ => ("MayGreen$Elders", "mate", "[I", true)
def tyX0 : Nat → FieldType := fun k => match k with
  | 0 => .object "MayGreen$Plan"
  | 1 => .array .int
  | _ => .array .int
abbrev wsX00 : List Cond := u_ws RX0 TX0 3
theorem nmX0 : ∀ a, a < 3 → ∀ b, b < 3 → a ≠ b → (TX0 a).2.1 ≠ (TX0 b).2.1 := by decide +kernel
theorem tyX0_ok : ∀ k, k < 3 → parseFieldDescriptor (TX0 k).2.2.1 = some (tyX0 k) := by decide +kernel
abbrev cX0_init : ByteArray := prog_2_method_1_code
def yX0_init : MethodName := ⟨RX0, "<init>", "(LMayGreen$Plan;)V"⟩
abbrev cX0_choose : ByteArray := prog_2_method_2_code
def yX0_choose : MethodName := ⟨RX0, "choose", "()V"⟩
abbrev cX0_spread : ByteArray := prog_2_method_3_code
def yX0_spread : MethodName := ⟨RX0, "spread", "(I)Z"⟩
def RX1 : String := "MayGreen$Ended"
def TX1 : u_T := fun k => match k with
  | 0 => ("MayGreen$Ended", "cells", "[I", true)
  | 1 => ("MayGreen$Ended", "first", "I", false)
  | _ => ("MayGreen$Ended", "size", "I", false)
def tyX1 : Nat → FieldType := fun k => match k with
  | 0 => .array .int
  | 1 => .int
  | _ => .int
abbrev wsX10 : List Cond := u_ws RX1 TX1 3
theorem nmX1 : ∀ a, a < 3 → ∀ b, b < 3 → a ≠ b → (TX1 a).2.1 ≠ (TX1 b).2.1 := by decide +kernel
theorem tyX1_ok : ∀ k, k < 3 → parseFieldDescriptor (TX1 k).2.2.1 = some (tyX1 k) := by decide +kernel
abbrev cX1_init : ByteArray := prog_3_method_1_code
def yX1_init : MethodName := ⟨RX1, "<init>", "()V"⟩
abbrev cX1_size : ByteArray := prog_3_method_2_code
def yX1_size : MethodName := ⟨RX1, "size", "()I"⟩
abbrev cX1_clear : ByteArray := prog_3_method_3_code
def yX1_clear : MethodName := ⟨RX1, "clear", "()V"⟩
abbrev cX1_copyOf : ByteArray := prog_3_method_4_code
def yX1_copyOf : MethodName := ⟨RX1, "copyOf", "(LMayGreen$Ended;)V"⟩
abbrev cX1_add : ByteArray := prog_3_method_5_code
def yX1_add : MethodName := ⟨RX1, "add", "(IIIII)V"⟩
abbrev cX1_tell : ByteArray := prog_3_method_6_code
def yX1_tell : MethodName := ⟨RX1, "tell", "(II)I"⟩
def RX2 : String := "MayGreen$Green"
def TX2 : u_T := fun k => match k with
  | 0 => ("MayGreen$Green", "plan", "LMayGreen$Plan;", true)
  | 1 => ("MayGreen$Green", "life", "LMayGreen$Life;", true)
  | 2 => ("MayGreen$Green", "likings", "[I", true)
  | 3 => ("MayGreen$Green", "both", "[Z", true)
  | 4 => ("MayGreen$Green", "here", "[Z", true)
  | 5 => ("MayGreen$Green", "saidNo", "[Z", true)
  | _ => ("MayGreen$Green", "mate", "[I", true)
def tyX2 : Nat → FieldType := fun k => match k with
  | 0 => .object "MayGreen$Plan"
  | 1 => .object "MayGreen$Life"
  | 2 => .array .int
  | 3 => .array .boolean
  | 4 => .array .boolean
  | 5 => .array .boolean
  | _ => .array .int
abbrev wsX20 : List Cond := u_ws RX2 TX2 7
theorem nmX2 : ∀ a, a < 7 → ∀ b, b < 7 → a ≠ b → (TX2 a).2.1 ≠ (TX2 b).2.1 := by decide +kernel
theorem tyX2_ok : ∀ k, k < 7 → parseFieldDescriptor (TX2 k).2.2.1 = some (tyX2 k) := by decide +kernel
abbrev cX2_init : ByteArray := prog_4_method_1_code
def yX2_init : MethodName := ⟨RX2, "<init>", "(LMayGreen$Plan;LMayGreen$Life;)V"⟩
abbrev cX2_gather : ByteArray := prog_4_method_2_code
def yX2_gather : MethodName := ⟨RX2, "gather", "(Z)V"⟩
abbrev cX2_look : ByteArray := prog_4_method_3_code
def yX2_look : MethodName := ⟨RX2, "look", "(Z)V"⟩
abbrev cX2_pairUp : ByteArray := prog_4_method_4_code
def yX2_pairUp : MethodName := ⟨RX2, "pairUp", "(I)V"⟩
abbrev cX2_soonerOf : ByteArray := prog_4_method_5_code
def yX2_soonerOf : MethodName := ⟨RX2, "soonerOf", "(III)Z"⟩
abbrev cX2_wouldSooner : ByteArray := prog_4_method_6_code
def yX2_wouldSooner : MethodName := ⟨RX2, "wouldSooner", "(II)Z"⟩
abbrev cX2_isBetter : ByteArray := prog_4_method_7_code
def yX2_isBetter : MethodName := ⟨RX2, "isBetter", "(II)Z"⟩
abbrev cX2_likingOf : ByteArray := prog_4_method_8_code
def yX2_likingOf : MethodName := ⟨RX2, "likingOf", "(IIZ)I"⟩
abbrev cX2_likes : ByteArray := prog_4_method_9_code
def yX2_likes : MethodName := ⟨RX2, "likes", "(II)I"⟩
abbrev cX2_would : ByteArray := prog_4_method_10_code
def yX2_would : MethodName := ⟨RX2, "would", "(II)Z"⟩
abbrev cX2_canMeet : ByteArray := prog_4_method_11_code
def yX2_canMeet : MethodName := ⟨RX2, "canMeet", "(II)Z"⟩
abbrev cX2_askAll : ByteArray := prog_4_method_12_code
def yX2_askAll : MethodName := ⟨RX2, "askAll", "(I)V"⟩
abbrev cX2_soonestToAsk : ByteArray := prog_4_method_13_code
def yX2_soonestToAsk : MethodName := ⟨RX2, "soonestToAsk", "(I)I"⟩
abbrev cX2_ask : ByteArray := prog_4_method_14_code
def yX2_ask : MethodName := ⟨RX2, "ask", "(II)V"⟩
abbrev cX2_takeTurns : ByteArray := prog_4_method_15_code
def yX2_takeTurns : MethodName := ⟨RX2, "takeTurns", "()V"⟩
abbrev cX2_drawLots : ByteArray := prog_4_method_16_code
def yX2_drawLots : MethodName := ⟨RX2, "drawLots", "()V"⟩
abbrev cX2_openOne : ByteArray := prog_4_method_17_code
def yX2_openOne : MethodName := ⟨RX2, "openOne", "(II)I"⟩
abbrev cX2_isLeftFor : ByteArray := prog_4_method_18_code
def yX2_isLeftFor : MethodName := ⟨RX2, "isLeftFor", "(II)Z"⟩
abbrev cX2_tie : ByteArray := prog_4_method_19_code
def yX2_tie : MethodName := ⟨RX2, "tie", "(II)V"⟩
def RX3 : String := "MayGreen$Life"
def TX3 : u_T := fun k => match k with
  | 0 => ("MayGreen$Life", "year", "I", false)
  | 1 => ("MayGreen$Life", "way", "I", false)
  | 2 => ("MayGreen$Life", "x", "I", false)
  | 3 => ("MayGreen$Life", "mate", "[I", true)
  | 4 => ("MayGreen$Life", "years", "[I", true)
  | 5 => ("MayGreen$Life", "yeses", "[I", true)
  | 6 => ("MayGreen$Life", "earned", "[I", true)
  | 7 => ("MayGreen$Life", "good", "[I", true)
  | 8 => ("MayGreen$Life", "poor", "[I", true)
  | 9 => ("MayGreen$Life", "children", "[I", true)
  | _ => ("MayGreen$Life", "ended", "LMayGreen$Ended;", true)
def tyX3 : Nat → FieldType := fun k => match k with
  | 0 => .int
  | 1 => .int
  | 2 => .int
  | 3 => .array .int
  | 4 => .array .int
  | 5 => .array .int
  | 6 => .array .int
  | 7 => .array .int
  | 8 => .array .int
  | 9 => .array .int
  | _ => .object "MayGreen$Ended"
abbrev wsX30 : List Cond := u_ws RX3 TX3 11
theorem nmX3 : ∀ a, a < 11 → ∀ b, b < 11 → a ≠ b → (TX3 a).2.1 ≠ (TX3 b).2.1 := by decide +kernel
theorem tyX3_ok : ∀ k, k < 11 → parseFieldDescriptor (TX3 k).2.2.1 = some (tyX3 k) := by decide +kernel
abbrev cX3_init : ByteArray := prog_5_method_1_code
def yX3_init : MethodName := ⟨RX3, "<init>", "()V"⟩
abbrev cX3_begin : ByteArray := prog_5_method_2_code
def yX3_begin : MethodName := ⟨RX3, "begin", "()V"⟩
abbrev cX3_copyOf : ByteArray := prog_5_method_3_code
def yX3_copyOf : MethodName := ⟨RX3, "copyOf", "(LMayGreen$Life;)V"⟩
abbrev cX3_bind : ByteArray := prog_5_method_4_code
def yX3_bind : MethodName := ⟨RX3, "bind", "(II)V"⟩
abbrev cX3_loosen : ByteArray := prog_5_method_5_code
def yX3_loosen : MethodName := ⟨RX3, "loosen", "(II)V"⟩
abbrev cX3_arePair : ByteArray := prog_5_method_6_code
def yX3_arePair : MethodName := ⟨RX3, "arePair", "(II)Z"⟩
abbrev cX3_haveTried : ByteArray := prog_5_method_7_code
def yX3_haveTried : MethodName := ⟨RX3, "haveTried", "(I)Z"⟩
abbrev cX3_pairsOf : ByteArray := prog_5_method_8_code
def yX3_pairsOf : MethodName := ⟨RX3, "pairsOf", "(I)I"⟩
abbrev cX3_earn : ByteArray := prog_5_method_9_code
def yX3_earn : MethodName := ⟨RX3, "earn", "(II)V"⟩
abbrev cX3_lot : ByteArray := prog_5_method_10_code
def yX3_lot : MethodName := ⟨RX3, "lot", "(I)I"⟩
abbrev cX3_free : ByteArray := prog_5_method_11_code
def yX3_free : MethodName := ⟨RX3, "free", "(I)V"⟩
def RX4 : String := "MayGreen$Mind"
def TX4 : u_T := fun k => match k with
  | 0 => ("MayGreen$Mind", "plan", "LMayGreen$Plan;", true)
  | 1 => ("MayGreen$Mind", "life", "LMayGreen$Life;", true)
  | 2 => ("MayGreen$Mind", "good", "[I", true)
  | 3 => ("MayGreen$Mind", "poor", "[I", true)
  | 4 => ("MayGreen$Mind", "childWorth", "[I", true)
  | 5 => ("MayGreen$Mind", "me", "I", false)
  | 6 => ("MayGreen$Mind", "others", "I", false)
  | 7 => ("MayGreen$Mind", "has", "I", false)
  | 8 => ("MayGreen$Mind", "hasFor", "I", false)
  | 9 => ("MayGreen$Mind", "cow", "I", false)
  | _ => ("MayGreen$Mind", "shut", "I", false)
def tyX4 : Nat → FieldType := fun k => match k with
  | 0 => .object "MayGreen$Plan"
  | 1 => .object "MayGreen$Life"
  | 2 => .array .int
  | 3 => .array .int
  | 4 => .array .int
  | 5 => .int
  | 6 => .int
  | 7 => .int
  | 8 => .int
  | 9 => .int
  | _ => .int
abbrev wsX40 : List Cond := u_ws RX4 TX4 11
theorem nmX4 : ∀ a, a < 11 → ∀ b, b < 11 → a ≠ b → (TX4 a).2.1 ≠ (TX4 b).2.1 := by decide +kernel
theorem tyX4_ok : ∀ k, k < 11 → parseFieldDescriptor (TX4 k).2.2.1 = some (tyX4 k) := by decide +kernel
abbrev cX4_init : ByteArray := prog_6_method_1_code
def yX4_init : MethodName := ⟨RX4, "<init>", "(LMayGreen$Plan;LMayGreen$Life;)V"⟩
abbrev cX4_enter : ByteArray := prog_6_method_2_code
def yX4_enter : MethodName := ⟨RX4, "enter", "(I)V"⟩
abbrev cX4_shutOut : ByteArray := prog_6_method_3_code
def yX4_shutOut : MethodName := ⟨RX4, "shutOut", "(I)V"⟩
abbrev cX4_bestWorth : ByteArray := prog_6_method_4_code
def yX4_bestWorth : MethodName := ⟨RX4, "bestWorth", "(I)J"⟩
abbrev cX4_worthOfAct : ByteArray := prog_6_method_5_code
def yX4_worthOfAct : MethodName := ⟨RX4, "worthOfAct", "(II)J"⟩
abbrev cX4_bestAct : ByteArray := prog_6_method_6_code
def yX4_bestAct : MethodName := ⟨RX4, "bestAct", "(I)I"⟩
abbrev cX4_stays : ByteArray := prog_6_method_7_code
def yX4_stays : MethodName := ⟨RX4, "stays", "(I)Z"⟩
abbrev cX4_leastGood : ByteArray := prog_6_method_8_code
def yX4_leastGood : MethodName := ⟨RX4, "leastGood", "(III)I"⟩
abbrev cX4_leastCow : ByteArray := prog_6_method_9_code
def yX4_leastCow : MethodName := ⟨RX4, "leastCow", "(I)I"⟩
abbrev cX4_isShut : ByteArray := prog_6_method_10_code
def yX4_isShut : MethodName := ⟨RX4, "isShut", "(I)Z"⟩
abbrev cX4_worthOf : ByteArray := prog_6_method_11_code
def yX4_worthOf : MethodName := ⟨RX4, "worthOf", "(III)J"⟩
abbrev cX4_doing : ByteArray := prog_6_method_12_code
def yX4_doing : MethodName := ⟨RX4, "doing", "(IIII)J"⟩
def RX5 : String := "MayGreen$Plan"
def TX5 : u_T := fun k => match k with
  | 0 => ("MayGreen$Plan", "lefts", "I", false)
  | 1 => ("MayGreen$Plan", "rights", "I", false)
  | 2 => ("MayGreen$Plan", "worthGood", "I", false)
  | 3 => ("MayGreen$Plan", "worthPoor", "I", false)
  | 4 => ("MayGreen$Plan", "houseYears", "I", false)
  | 5 => ("MayGreen$Plan", "house", "I", false)
  | 6 => ("MayGreen$Plan", "childChance", "I", false)
  | 7 => ("MayGreen$Plan", "child", "I", false)
  | 8 => ("MayGreen$Plan", "cow", "I", false)
  | 9 => ("MayGreen$Plan", "ahead", "I", false)
  | 10 => ("MayGreen$Plan", "alone", "[I", true)
  | 11 => ("MayGreen$Plan", "chance", "[I", true)
  | 12 => ("MayGreen$Plan", "ifRight", "[I", true)
  | 13 => ("MayGreen$Plan", "ifNot", "[I", true)
  | 14 => ("MayGreen$Plan", "fit", "[I", true)
  | _ => ("MayGreen$Plan", "goodAfter", "[I", true)
def tyX5 : Nat → FieldType := fun k => match k with
  | 0 => .int
  | 1 => .int
  | 2 => .int
  | 3 => .int
  | 4 => .int
  | 5 => .int
  | 6 => .int
  | 7 => .int
  | 8 => .int
  | 9 => .int
  | 10 => .array .int
  | 11 => .array .int
  | 12 => .array .int
  | 13 => .array .int
  | 14 => .array .int
  | _ => .array .int
abbrev wsX50 : List Cond := u_ws RX5 TX5 16
theorem nmX5 : ∀ a, a < 16 → ∀ b, b < 16 → a ≠ b → (TX5 a).2.1 ≠ (TX5 b).2.1 := by decide +kernel
theorem tyX5_ok : ∀ k, k < 16 → parseFieldDescriptor (TX5 k).2.2.1 = some (tyX5 k) := by decide +kernel
abbrev cX5_init : ByteArray := prog_7_method_1_code
def yX5_init : MethodName := ⟨RX5, "<init>", "()V"⟩
abbrev cX5_clear : ByteArray := prog_7_method_2_code
def yX5_clear : MethodName := ⟨RX5, "clear", "()V"⟩
abbrev cX5_take : ByteArray := prog_7_method_3_code
def yX5_take : MethodName := ⟨RX5, "take", "(LMayGreen$Plan;)V"⟩
abbrev cX5_stands : ByteArray := prog_7_method_4_code
def yX5_stands : MethodName := ⟨RX5, "stands", "()Z"⟩
abbrev cX5_slotOf : ByteArray := prog_7_method_5_code
def yX5_slotOf : MethodName := ⟨RX5, "slotOf", "(I)I"⟩
abbrev cX5_isPerson : ByteArray := prog_7_method_6_code
def yX5_isPerson : MethodName := ⟨RX5, "isPerson", "(I)Z"⟩
abbrev cX5_shownRight : ByteArray := prog_7_method_7_code
def yX5_shownRight : MethodName := ⟨RX5, "shownRight", "(III)I"⟩
abbrev cX5_shownGood : ByteArray := prog_7_method_8_code
def yX5_shownGood : MethodName := ⟨RX5, "shownGood", "(III)I"⟩
abbrev cX5_gain : ByteArray := prog_7_method_9_code
def yX5_gain : MethodName := ⟨RX5, "gain", "(III)I"⟩
abbrev cX5_yearSum : ByteArray := prog_7_method_10_code
def yX5_yearSum : MethodName := ⟨RX5, "yearSum", "([I)I"⟩
abbrev cX5_sumOf : ByteArray := prog_7_method_11_code
def yX5_sumOf : MethodName := ⟨RX5, "sumOf", "([II)I"⟩
abbrev cX5_trueYear : ByteArray := prog_7_method_12_code
def yX5_trueYear : MethodName := ⟨RX5, "trueYear", "(II)I"⟩
abbrev cX5_reckonShown : ByteArray := prog_7_method_13_code
def yX5_reckonShown : MethodName := ⟨RX5, "reckonShown", "()V"⟩
abbrev cX5_goodNext : ByteArray := prog_7_method_14_code
def yX5_goodNext : MethodName := ⟨RX5, "goodNext", "(III)I"⟩
abbrev cX5_rightAfter : ByteArray := prog_7_method_15_code
def yX5_rightAfter : MethodName := ⟨RX5, "rightAfter", "(III)J"⟩
abbrev cX5_otherAfter : ByteArray := prog_7_method_16_code
def yX5_otherAfter : MethodName := ⟨RX5, "otherAfter", "(III)J"⟩
abbrev cX5_oddsOf : ByteArray := prog_7_method_17_code
def yX5_oddsOf : MethodName := ⟨RX5, "oddsOf", "(III)J"⟩
def RX6 : String := "MayGreen$Reader"
def TX6 : u_T := fun k => match k with
  | 0 => ("MayGreen$Reader", "text", "LMayGreen$Text;", true)
  | 1 => ("MayGreen$Reader", "plan", "LMayGreen$Plan;", true)
  | 2 => ("MayGreen$Reader", "names", "[J", true)
  | 3 => ("MayGreen$Reader", "thought", "[Z", true)
  | 4 => ("MayGreen$Reader", "fitted", "[Z", true)
  | 5 => ("MayGreen$Reader", "once", "I", false)
  | 6 => ("MayGreen$Reader", "kind", "I", false)
  | 7 => ("MayGreen$Reader", "start", "I", false)
  | 8 => ("MayGreen$Reader", "next", "I", false)
  | _ => ("MayGreen$Reader", "value", "I", false)
def tyX6 : Nat → FieldType := fun k => match k with
  | 0 => .object "MayGreen$Text"
  | 1 => .object "MayGreen$Plan"
  | 2 => .array .long
  | 3 => .array .boolean
  | 4 => .array .boolean
  | 5 => .int
  | 6 => .int
  | 7 => .int
  | 8 => .int
  | _ => .int
abbrev wsX60 : List Cond := u_ws RX6 TX6 10
theorem nmX6 : ∀ a, a < 10 → ∀ b, b < 10 → a ≠ b → (TX6 a).2.1 ≠ (TX6 b).2.1 := by decide +kernel
theorem tyX6_ok : ∀ k, k < 10 → parseFieldDescriptor (TX6 k).2.2.1 = some (tyX6 k) := by decide +kernel
abbrev cX6_init : ByteArray := prog_8_method_1_code
def yX6_init : MethodName := ⟨RX6, "<init>", "(LMayGreen$Text;LMayGreen$Plan;)V"⟩
abbrev cX6_read : ByteArray := prog_8_method_2_code
def yX6_read : MethodName := ⟨RX6, "read", "()I"⟩
abbrev cX6_scan : ByteArray := prog_8_method_3_code
def yX6_scan : MethodName := ⟨RX6, "scan", "()V"⟩
abbrev cX6_isBlank : ByteArray := prog_8_method_4_code
def yX6_isBlank : MethodName := ⟨RX6, "isBlank", "(I)Z"⟩
abbrev cX6_kindOf : ByteArray := prog_8_method_5_code
def yX6_kindOf : MethodName := ⟨RX6, "kindOf", "(I)I"⟩
abbrev cX6_readLine : ByteArray := prog_8_method_6_code
def yX6_readLine : MethodName := ⟨RX6, "readLine", "()Z"⟩
abbrev cX6_readPerson : ByteArray := prog_8_method_7_code
def yX6_readPerson : MethodName := ⟨RX6, "readPerson", "(II)Z"⟩
abbrev cX6_readThink : ByteArray := prog_8_method_8_code
def yX6_readThink : MethodName := ⟨RX6, "readThink", "()Z"⟩
abbrev cX6_readFit : ByteArray := prog_8_method_9_code
def yX6_readFit : MethodName := ⟨RX6, "readFit", "()Z"⟩
abbrev cX6_readWorth : ByteArray := prog_8_method_10_code
def yX6_readWorth : MethodName := ⟨RX6, "readWorth", "()Z"⟩
abbrev cX6_readHouse : ByteArray := prog_8_method_11_code
def yX6_readHouse : MethodName := ⟨RX6, "readHouse", "()Z"⟩
abbrev cX6_readChild : ByteArray := prog_8_method_12_code
def yX6_readChild : MethodName := ⟨RX6, "readChild", "()Z"⟩
abbrev cX6_readCow : ByteArray := prog_8_method_13_code
def yX6_readCow : MethodName := ⟨RX6, "readCow", "()Z"⟩
abbrev cX6_readAhead : ByteArray := prog_8_method_14_code
def yX6_readAhead : MethodName := ⟨RX6, "readAhead", "()Z"⟩
abbrev cX6_firstTold : ByteArray := prog_8_method_15_code
def yX6_firstTold : MethodName := ⟨RX6, "firstTold", "(I)Z"⟩
abbrev cX6_takeNumber : ByteArray := prog_8_method_16_code
def yX6_takeNumber : MethodName := ⟨RX6, "takeNumber", "(II)Z"⟩
abbrev cX6_takeStop : ByteArray := prog_8_method_17_code
def yX6_takeStop : MethodName := ⟨RX6, "takeStop", "()Z"⟩
abbrev cX6_numberHere : ByteArray := prog_8_method_18_code
def yX6_numberHere : MethodName := ⟨RX6, "numberHere", "()I"⟩
abbrev cX6_nameHere : ByteArray := prog_8_method_19_code
def yX6_nameHere : MethodName := ⟨RX6, "nameHere", "()J"⟩
abbrev cX6_slotNamed : ByteArray := prog_8_method_20_code
def yX6_slotNamed : MethodName := ⟨RX6, "slotNamed", "(J)I"⟩
abbrev cX6_isLineWord : ByteArray := prog_8_method_21_code
def yX6_isLineWord : MethodName := ⟨RX6, "isLineWord", "()Z"⟩
abbrev cX6_isWord : ByteArray := prog_8_method_22_code
def yX6_isWord : MethodName := ⟨RX6, "isWord", "(Ljava/lang/String;)Z"⟩
def RX7 : String := "MayGreen$Rows"
def TX7 : u_T := fun k => match k with
  | _ => ("", "", "", false)
def tyX7 : Nat → FieldType := fun k => match k with
  | _ => .int
abbrev wsX70 : List Cond := u_ws RX7 TX7 0
theorem nmX7 : ∀ a, a < 0 → ∀ b, b < 0 → a ≠ b → (TX7 a).2.1 ≠ (TX7 b).2.1 := by decide +kernel
theorem tyX7_ok : ∀ k, k < 0 → parseFieldDescriptor (TX7 k).2.2.1 = some (tyX7 k) := by decide +kernel
abbrev cX7_at : ByteArray := prog_9_method_2_code
def yX7_at : MethodName := ⟨RX7, "at", "([II)I"⟩
abbrev cX7_put : ByteArray := prog_9_method_3_code
def yX7_put : MethodName := ⟨RX7, "put", "([III)V"⟩
abbrev cX7_is : ByteArray := prog_9_method_4_code
def yX7_is : MethodName := ⟨RX7, "is", "([ZI)Z"⟩
abbrev cX7_mark : ByteArray := prog_9_method_5_code
def yX7_mark : MethodName := ⟨RX7, "mark", "([ZIZ)V"⟩
abbrev cX7_copy : ByteArray := prog_9_method_6_code
def yX7_copy : MethodName := ⟨RX7, "copy", "([I[I)V"⟩
abbrev cX7_fill : ByteArray := prog_9_method_7_code
def yX7_fill : MethodName := ⟨RX7, "fill", "([II)V"⟩
abbrev cX7_unmark : ByteArray := prog_9_method_8_code
def yX7_unmark : MethodName := ⟨RX7, "unmark", "([Z)V"⟩
def RX8 : String := "MayGreen$Season"
def TX8 : u_T := fun k => match k with
  | 0 => ("MayGreen$Season", "plan", "LMayGreen$Plan;", true)
  | 1 => ("MayGreen$Season", "life", "LMayGreen$Life;", true)
  | 2 => ("MayGreen$Season", "mind", "LMayGreen$Mind;", true)
  | 3 => ("MayGreen$Season", "green", "LMayGreen$Green;", true)
  | _ => ("MayGreen$Season", "silence", "[Z", true)
def tyX8 : Nat → FieldType := fun k => match k with
  | 0 => .object "MayGreen$Plan"
  | 1 => .object "MayGreen$Life"
  | 2 => .object "MayGreen$Mind"
  | 3 => .object "MayGreen$Green"
  | _ => .array .boolean
abbrev wsX80 : List Cond := u_ws RX8 TX8 5
theorem nmX8 : ∀ a, a < 5 → ∀ b, b < 5 → a ≠ b → (TX8 a).2.1 ≠ (TX8 b).2.1 := by decide +kernel
theorem tyX8_ok : ∀ k, k < 5 → parseFieldDescriptor (TX8 k).2.2.1 = some (tyX8 k) := by decide +kernel
abbrev cX8_init : ByteArray := prog_10_method_1_code
def yX8_init : MethodName := ⟨RX8, "<init>", "(LMayGreen$Plan;LMayGreen$Life;LMayGreen$Mind;LMayGreen$Green;)V"⟩
abbrev cX8_hold : ByteArray := prog_10_method_2_code
def yX8_hold : MethodName := ⟨RX8, "hold", "()V"⟩
abbrev cX8_askPaired : ByteArray := prog_10_method_3_code
def yX8_askPaired : MethodName := ⟨RX8, "askPaired", "()V"⟩
abbrev cX8_endPairs : ByteArray := prog_10_method_4_code
def yX8_endPairs : MethodName := ⟨RX8, "endPairs", "()V"⟩
abbrev cX8_hear : ByteArray := prog_10_method_5_code
def yX8_hear : MethodName := ⟨RX8, "hear", "(II)V"⟩
abbrev cX8_bindNewPairs : ByteArray := prog_10_method_6_code
def yX8_bindNewPairs : MethodName := ⟨RX8, "bindNewPairs", "()V"⟩
abbrev cX8_passYear : ByteArray := prog_10_method_7_code
def yX8_passYear : MethodName := ⟨RX8, "passYear", "()V"⟩
abbrev cX8_liveTogether : ByteArray := prog_10_method_8_code
def yX8_liveTogether : MethodName := ⟨RX8, "liveTogether", "(II)V"⟩
def RX9 : String := "MayGreen$Text"
def TX9 : u_T := fun k => match k with
  | 0 => ("MayGreen$Text", "bytes", "[I", true)
  | _ => ("MayGreen$Text", "length", "I", false)
def tyX9 : Nat → FieldType := fun k => match k with
  | 0 => .array .int
  | _ => .int
abbrev wsX90 : List Cond := u_ws RX9 TX9 2
theorem nmX9 : ∀ a, a < 2 → ∀ b, b < 2 → a ≠ b → (TX9 a).2.1 ≠ (TX9 b).2.1 := by decide +kernel
theorem tyX9_ok : ∀ k, k < 2 → parseFieldDescriptor (TX9 k).2.2.1 = some (tyX9 k) := by decide +kernel
abbrev cX9_init : ByteArray := prog_11_method_1_code
def yX9_init : MethodName := ⟨RX9, "<init>", "()V"⟩
abbrev cX9_length : ByteArray := prog_11_method_2_code
def yX9_length : MethodName := ⟨RX9, "length", "()I"⟩
abbrev cX9_hasRoomFor : ByteArray := prog_11_method_3_code
def yX9_hasRoomFor : MethodName := ⟨RX9, "hasRoomFor", "(I)Z"⟩
abbrev cX9_append : ByteArray := prog_11_method_4_code
def yX9_append : MethodName := ⟨RX9, "append", "(I)V"⟩
abbrev cX9_cutTo : ByteArray := prog_11_method_5_code
def yX9_cutTo : MethodName := ⟨RX9, "cutTo", "(I)V"⟩
abbrev cX9_byteAt : ByteArray := prog_11_method_6_code
def yX9_byteAt : MethodName := ⟨RX9, "byteAt", "(I)I"⟩
def RX10 : String := "MayGreen$Who"
def TX10 : u_T := fun k => match k with
  | _ => ("", "", "", false)
def tyX10 : Nat → FieldType := fun k => match k with
  | _ => .int
abbrev wsX100 : List Cond := u_ws RX10 TX10 0
theorem nmX10 : ∀ a, a < 0 → ∀ b, b < 0 → a ≠ b → (TX10 a).2.1 ≠ (TX10 b).2.1 := by decide +kernel
theorem tyX10_ok : ∀ k, k < 0 → parseFieldDescriptor (TX10 k).2.2.1 = some (tyX10 k) := by decide +kernel
abbrev cX10_numberOf : ByteArray := prog_12_method_2_code
def yX10_numberOf : MethodName := ⟨RX10, "numberOf", "(I)I"⟩
abbrev cX10_placeOf : ByteArray := prog_12_method_3_code
def yX10_placeOf : MethodName := ⟨RX10, "placeOf", "(I)I"⟩
abbrev cX10_facing : ByteArray := prog_12_method_4_code
def yX10_facing : MethodName := ⟨RX10, "facing", "(II)I"⟩
abbrev cX10_unlike : ByteArray := prog_12_method_5_code
def yX10_unlike : MethodName := ⟨RX10, "unlike", "(II)Z"⟩
abbrev cX10_couple : ByteArray := prog_12_method_6_code
def yX10_couple : MethodName := ⟨RX10, "couple", "(II)I"⟩
abbrev cX10_view : ByteArray := prog_12_method_7_code
def yX10_view : MethodName := ⟨RX10, "view", "(II)I"⟩
def RX11 : String := "MayGreen"
def TX11 : u_T := fun k => match k with
  | 0 => ("MayGreen", "text", "LMayGreen$Text;", true)
  | 1 => ("MayGreen", "draft", "LMayGreen$Plan;", true)
  | 2 => ("MayGreen", "reader", "LMayGreen$Reader;", true)
  | 3 => ("MayGreen", "plan", "LMayGreen$Plan;", true)
  | 4 => ("MayGreen", "now", "LMayGreen$Life;", true)
  | 5 => ("MayGreen", "mind", "LMayGreen$Mind;", true)
  | 6 => ("MayGreen", "meadow", "LMayGreen$Green;", true)
  | 7 => ("MayGreen", "elders", "LMayGreen$Elders;", true)
  | 8 => ("MayGreen", "season", "LMayGreen$Season;", true)
  | 9 => ("MayGreen", "album", "[LMayGreen$Life;", true)
  | 10 => ("MayGreen", "kept", "[Z", true)
  | _ => ("MayGreen", "refused", "[I", true)
def tyX11 : Nat → FieldType := fun k => match k with
  | 0 => .object "MayGreen$Text"
  | 1 => .object "MayGreen$Plan"
  | 2 => .object "MayGreen$Reader"
  | 3 => .object "MayGreen$Plan"
  | 4 => .object "MayGreen$Life"
  | 5 => .object "MayGreen$Mind"
  | 6 => .object "MayGreen$Green"
  | 7 => .object "MayGreen$Elders"
  | 8 => .object "MayGreen$Season"
  | 9 => .array (.object "MayGreen$Life")
  | 10 => .array .boolean
  | _ => .array .int
abbrev wsX110 : List Cond := u_ws RX11 TX11 12
theorem nmX11 : ∀ a, a < 12 → ∀ b, b < 12 → a ≠ b → (TX11 a).2.1 ≠ (TX11 b).2.1 := by decide +kernel
theorem tyX11_ok : ∀ k, k < 12 → parseFieldDescriptor (TX11 k).2.2.1 = some (tyX11 k) := by decide +kernel
abbrev cX11_init : ByteArray := prog_1_method_1_code
def yX11_init : MethodName := ⟨RX11, "<init>", "()V"⟩
abbrev cX11_feed : ByteArray := prog_1_method_2_code
def yX11_feed : MethodName := ⟨RX11, "feed", "(IIIII)I"⟩
abbrev cX11_end : ByteArray := prog_1_method_3_code
def yX11_end : MethodName := ⟨RX11, "end", "(I)Z"⟩
abbrev cX11_fault : ByteArray := prog_1_method_4_code
def yX11_fault : MethodName := ⟨RX11, "fault", "()I"⟩
abbrev cX11_village : ByteArray := prog_1_method_5_code
def yX11_village : MethodName := ⟨RX11, "village", "()I"⟩
abbrev cX11_person : ByteArray := prog_1_method_6_code
def yX11_person : MethodName := ⟨RX11, "person", "(II)I"⟩
abbrev cX11_earned : ByteArray := prog_1_method_7_code
def yX11_earned : MethodName := ⟨RX11, "earned", "(I)I"⟩
abbrev cX11_two : ByteArray := prog_1_method_8_code
def yX11_two : MethodName := ⟨RX11, "two", "(III)I"⟩
abbrev cX11_think : ByteArray := prog_1_method_9_code
def yX11_think : MethodName := ⟨RX11, "think", "(III)I"⟩
abbrev cX11_shown : ByteArray := prog_1_method_10_code
def yX11_shown : MethodName := ⟨RX11, "shown", "(III)I"⟩
abbrev cX11_liking : ByteArray := prog_1_method_11_code
def yX11_liking : MethodName := ⟨RX11, "liking", "(II)I"⟩
abbrev cX11_sooner : ByteArray := prog_1_method_12_code
def yX11_sooner : MethodName := ⟨RX11, "sooner", "(III)I"⟩
abbrev cX11_best : ByteArray := prog_1_method_13_code
def yX11_best : MethodName := ⟨RX11, "best", "(III)I"⟩
abbrev cX11_act : ByteArray := prog_1_method_14_code
def yX11_act : MethodName := ⟨RX11, "act", "(III)I"⟩
abbrev cX11_silent : ByteArray := prog_1_method_15_code
def yX11_silent : MethodName := ⟨RX11, "silent", "(II)I"⟩
abbrev cX11_bar : ByteArray := prog_1_method_16_code
def yX11_bar : MethodName := ⟨RX11, "bar", "(IIII)I"⟩
abbrev cX11_price : ByteArray := prog_1_method_17_code
def yX11_price : MethodName := ⟨RX11, "price", "(II)I"⟩
abbrev cX11_waits : ByteArray := prog_1_method_18_code
def yX11_waits : MethodName := ⟨RX11, "waits", "(III)I"⟩
abbrev cX11_way : ByteArray := prog_1_method_19_code
def yX11_way : MethodName := ⟨RX11, "way", "(I)Z"⟩
abbrev cX11_seed : ByteArray := prog_1_method_20_code
def yX11_seed : MethodName := ⟨RX11, "seed", "(I)Z"⟩
abbrev cX11_green : ByteArray := prog_1_method_21_code
def yX11_green : MethodName := ⟨RX11, "green", "(II)I"⟩
abbrev cX11_may : ByteArray := prog_1_method_22_code
def yX11_may : MethodName := ⟨RX11, "may", "(I)I"⟩
abbrev cX11_join : ByteArray := prog_1_method_23_code
def yX11_join : MethodName := ⟨RX11, "join", "(II)Z"⟩
abbrev cX11_part : ByteArray := prog_1_method_24_code
def yX11_part : MethodName := ⟨RX11, "part", "(I)Z"⟩
abbrev cX11_log : ByteArray := prog_1_method_25_code
def yX11_log : MethodName := ⟨RX11, "log", "(II)I"⟩
abbrev cX11_blocks : ByteArray := prog_1_method_26_code
def yX11_blocks : MethodName := ⟨RX11, "blocks", "(I)I"⟩
abbrev cX11_parents : ByteArray := prog_1_method_27_code
def yX11_parents : MethodName := ⟨RX11, "parents", "(I)I"⟩
abbrev cX11_life : ByteArray := prog_1_method_28_code
def yX11_life : MethodName := ⟨RX11, "life", "(II)I"⟩
abbrev cX11_never : ByteArray := prog_1_method_29_code
def yX11_never : MethodName := ⟨RX11, "never", "(I)I"⟩
abbrev cX11_pairs : ByteArray := prog_1_method_30_code
def yX11_pairs : MethodName := ⟨RX11, "pairs", "(II)I"⟩
abbrev cX11_image : ByteArray := prog_1_method_31_code
def yX11_image : MethodName := ⟨RX11, "image", "(I)Z"⟩
abbrev cX11_on : ByteArray := prog_1_method_32_code
def yX11_on : MethodName := ⟨RX11, "on", "(I)Z"⟩
abbrev cX11_status : ByteArray := prog_1_method_33_code
def yX11_status : MethodName := ⟨RX11, "status", "(I)I"⟩
abbrev cX11_count : ByteArray := prog_1_method_34_code
def yX11_count : MethodName := ⟨RX11, "count", "(I)I"⟩
abbrev cX11_refuse : ByteArray := prog_1_method_35_code
def yX11_refuse : MethodName := ⟨RX11, "refuse", "(I)Z"⟩
abbrev cX11_pictureAt : ByteArray := prog_1_method_36_code
def yX11_pictureAt : MethodName := ⟨RX11, "pictureAt", "(I)LMayGreen$Life;"⟩
abbrev cX11_canReckon : ByteArray := prog_1_method_37_code
def yX11_canReckon : MethodName := ⟨RX11, "canReckon", "(I)Z"⟩
abbrev cX11_neverTried : ByteArray := prog_1_method_38_code
def yX11_neverTried : MethodName := ⟨RX11, "neverTried", "()I"⟩
def RX12 : String := "MayGreenModel"
def TX12 : u_T := fun k => match k with
  | 0 => ("MayGreenModel", "refused", "[I", true)
  | 1 => ("MayGreenModel", "text", "[B", true)
  | 2 => ("MayGreenModel", "textMany", "I", false)
  | 3 => ("MayGreenModel", "at", "I", false)
  | 4 => ("MayGreenModel", "to", "I", false)
  | 5 => ("MayGreenModel", "faultAt", "I", false)
  | 6 => ("MayGreenModel", "value", "I", false)
  | 7 => ("MayGreenModel", "alone", "[[I", true)
  | 8 => ("MayGreenModel", "chance", "[[I", true)
  | 9 => ("MayGreenModel", "good", "[[I", true)
  | 10 => ("MayGreenModel", "poor", "[[I", true)
  | 11 => ("MayGreenModel", "fit", "[[I", true)
  | 12 => ("MayGreenModel", "head", "[[I", true)
  | 13 => ("MayGreenModel", "many", "[[I", true)
  | 14 => ("MayGreenModel", "names", "[J", true)
  | 15 => ("MayGreenModel", "isThought", "[Z", true)
  | 16 => ("MayGreenModel", "isFit", "[Z", true)
  | 17 => ("MayGreenModel", "isTold", "[Z", true)
  | 18 => ("MayGreenModel", "hasVillage", "Z", false)
  | 19 => ("MayGreenModel", "words", "[Ljava/lang/String;", true)
  | 20 => ("MayGreenModel", "mate", "[I", true)
  | 21 => ("MayGreenModel", "years", "[I", true)
  | 22 => ("MayGreenModel", "yeses", "[I", true)
  | 23 => ("MayGreenModel", "earned", "[I", true)
  | 24 => ("MayGreenModel", "goods", "[I", true)
  | 25 => ("MayGreenModel", "poors", "[I", true)
  | 26 => ("MayGreenModel", "children", "[I", true)
  | 27 => ("MayGreenModel", "year", "I", false)
  | 28 => ("MayGreenModel", "way", "I", false)
  | 29 => ("MayGreenModel", "logMany", "I", false)
  | 30 => ("MayGreenModel", "lots", "J", false)
  | 31 => ("MayGreenModel", "a", "[I", true)
  | 32 => ("MayGreenModel", "b", "[I", true)
  | 33 => ("MayGreenModel", "gains", "[I", true)
  | 34 => ("MayGreenModel", "bringing", "[I", true)
  | 35 => ("MayGreenModel", "self", "I", false)
  | 36 => ("MayGreenModel", "cow", "I", false)
  | 37 => ("MayGreenModel", "never", "I", false)
  | 38 => ("MayGreenModel", "actNow", "I", false)
  | 39 => ("MayGreenModel", "has", "[I", true)
  | 40 => ("MayGreenModel", "isOut", "[I", true)
  | 41 => ("MayGreenModel", "said", "[I", true)
  | 42 => ("MayGreenModel", "logs", "[I", true)
  | 43 => ("MayGreenModel", "isSilentNow", "[I", true)
  | 44 => ("MayGreenModel", "now", "[I", true)
  | 45 => ("MayGreenModel", "parents", "[I", true)
  | 46 => ("MayGreenModel", "parentsSum", "I", false)
  | 47 => ("MayGreenModel", "heldGoods", "[I", true)
  | 48 => ("MayGreenModel", "heldPoors", "[I", true)
  | 49 => ("MayGreenModel", "heldChildren", "[I", true)
  | 50 => ("MayGreenModel", "pairsNow", "[I", true)
  | 51 => ("MayGreenModel", "kept", "[[I", true)
  | 52 => ("MayGreenModel", "keptLots", "[J", true)
  | 53 => ("MayGreenModel", "hasImage", "[Z", true)
  | _ => ("MayGreenModel", "cursor", "I", false)
def tyX12 : Nat → FieldType := fun k => match k with
  | 0 => .array .int
  | 1 => .array .byte
  | 2 => .int
  | 3 => .int
  | 4 => .int
  | 5 => .int
  | 6 => .int
  | 7 => .array (.array .int)
  | 8 => .array (.array .int)
  | 9 => .array (.array .int)
  | 10 => .array (.array .int)
  | 11 => .array (.array .int)
  | 12 => .array (.array .int)
  | 13 => .array (.array .int)
  | 14 => .array .long
  | 15 => .array .boolean
  | 16 => .array .boolean
  | 17 => .array .boolean
  | 18 => .boolean
  | 19 => .array (.object "java/lang/String")
  | 20 => .array .int
  | 21 => .array .int
  | 22 => .array .int
  | 23 => .array .int
  | 24 => .array .int
  | 25 => .array .int
  | 26 => .array .int
  | 27 => .int
  | 28 => .int
  | 29 => .int
  | 30 => .long
  | 31 => .array .int
  | 32 => .array .int
  | 33 => .array .int
  | 34 => .array .int
  | 35 => .int
  | 36 => .int
  | 37 => .int
  | 38 => .int
  | 39 => .array .int
  | 40 => .array .int
  | 41 => .array .int
  | 42 => .array .int
  | 43 => .array .int
  | 44 => .array .int
  | 45 => .array .int
  | 46 => .int
  | 47 => .array .int
  | 48 => .array .int
  | 49 => .array .int
  | 50 => .array .int
  | 51 => .array (.array .int)
  | 52 => .array .long
  | 53 => .array .boolean
  | _ => .int
abbrev wsX120 : List Cond := u_ws RX12 TX12 55
theorem nmX12 : ∀ a, a < 55 → ∀ b, b < 55 → a ≠ b → (TX12 a).2.1 ≠ (TX12 b).2.1 := by decide +kernel
theorem tyX12_ok : ∀ k, k < 55 → parseFieldDescriptor (TX12 k).2.2.1 = some (tyX12 k) := by decide +kernel
abbrev cX12_init : ByteArray := prog_14_method_1_code
def yX12_init : MethodName := ⟨RX12, "<init>", "()V"⟩
abbrev cX12_in : ByteArray := prog_14_method_2_code
def yX12_in : MethodName := ⟨RX12, "in", "(JJJ)Z"⟩
abbrev cX12_refuse : ByteArray := prog_14_method_3_code
def yX12_refuse : MethodName := ⟨RX12, "refuse", "(I)I"⟩
abbrev cX12_deny : ByteArray := prog_14_method_4_code
def yX12_deny : MethodName := ⟨RX12, "deny", "(I)Z"⟩
abbrev cX12_status : ByteArray := prog_14_method_5_code
def yX12_status : MethodName := ⟨RX12, "status", "(I)I"⟩
abbrev cX12_feeds : ByteArray := prog_14_method_6_code
def yX12_feeds : MethodName := ⟨RX12, "feeds", "(I)V"⟩
abbrev cX12_feed : ByteArray := prog_14_method_7_code
def yX12_feed : MethodName := ⟨RX12, "feed", "(IIIII)I"⟩
abbrev cX12_end : ByteArray := prog_14_method_8_code
def yX12_end : MethodName := ⟨RX12, "end", "(I)Z"⟩
abbrev cX12_between : ByteArray := prog_14_method_9_code
def yX12_between : MethodName := ⟨RX12, "between", "(III)Z"⟩
abbrev cX12_next : ByteArray := prog_14_method_10_code
def yX12_next : MethodName := ⟨RX12, "next", "()V"⟩
abbrev cX12_passes : ByteArray := prog_14_method_11_code
def yX12_passes : MethodName := ⟨RX12, "passes", "(Z)Z"⟩
abbrev cX12_wordHere : ByteArray := prog_14_method_12_code
def yX12_wordHere : MethodName := ⟨RX12, "wordHere", "()I"⟩
abbrev cX12_closes : ByteArray := prog_14_method_13_code
def yX12_closes : MethodName := ⟨RX12, "closes", "()Z"⟩
abbrev cX12_into : ByteArray := prog_14_method_14_code
def yX12_into : MethodName := ⟨RX12, "into", "([IIII)Z"⟩
abbrev cX12_nameHere : ByteArray := prog_14_method_15_code
def yX12_nameHere : MethodName := ⟨RX12, "nameHere", "()J"⟩
abbrev cX12_found : ByteArray := prog_14_method_16_code
def yX12_found : MethodName := ⟨RX12, "found", "()I"⟩
abbrev cX12_personRead : ByteArray := prog_14_method_17_code
def yX12_personRead : MethodName := ⟨RX12, "personRead", "(I)Z"⟩
abbrev cX12_coupleOf : ByteArray := prog_14_method_18_code
def yX12_coupleOf : MethodName := ⟨RX12, "coupleOf", "(II)I"⟩
abbrev cX12_thinkRead : ByteArray := prog_14_method_19_code
def yX12_thinkRead : MethodName := ⟨RX12, "thinkRead", "()Z"⟩
abbrev cX12_fitRead : ByteArray := prog_14_method_20_code
def yX12_fitRead : MethodName := ⟨RX12, "fitRead", "()Z"⟩
abbrev cX12_onceRead : ByteArray := prog_14_method_21_code
def yX12_onceRead : MethodName := ⟨RX12, "onceRead", "(I)Z"⟩
abbrev cX12_line : ByteArray := prog_14_method_22_code
def yX12_line : MethodName := ⟨RX12, "line", "()Z"⟩
abbrev cX12_reads : ByteArray := prog_14_method_23_code
def yX12_reads : MethodName := ⟨RX12, "reads", "()V"⟩
abbrev cX12_fault : ByteArray := prog_14_method_24_code
def yX12_fault : MethodName := ⟨RX12, "fault", "()I"⟩
abbrev cX12_copies : ByteArray := prog_14_method_25_code
def yX12_copies : MethodName := ⟨RX12, "copies", "([[I)V"⟩
abbrev cX12_village : ByteArray := prog_14_method_26_code
def yX12_village : MethodName := ⟨RX12, "village", "()I"⟩
abbrev cX12_who : ByteArray := prog_14_method_27_code
def yX12_who : MethodName := ⟨RX12, "who", "(I)I"⟩
abbrev cX12_told : ByteArray := prog_14_method_28_code
def yX12_told : MethodName := ⟨RX12, "told", "(I)I"⟩
abbrev cX12_two : ByteArray := prog_14_method_29_code
def yX12_two : MethodName := ⟨RX12, "two", "(II)I"⟩
abbrev cX12_areTwo : ByteArray := prog_14_method_30_code
def yX12_areTwo : MethodName := ⟨RX12, "areTwo", "(II)Z"⟩
abbrev cX12_person : ByteArray := prog_14_method_31_code
def yX12_person : MethodName := ⟨RX12, "person", "(II)I"⟩
abbrev cX12_earned : ByteArray := prog_14_method_32_code
def yX12_earned : MethodName := ⟨RX12, "earned", "(I)I"⟩
abbrev cX12_two_ : ByteArray := prog_14_method_33_code
def yX12_two_ : MethodName := ⟨RX12, "two", "(III)I"⟩
abbrev cX12_think : ByteArray := prog_14_method_34_code
def yX12_think : MethodName := ⟨RX12, "think", "(III)I"⟩
abbrev cX12_power : ByteArray := prog_14_method_35_code
def yX12_power : MethodName := ⟨RX12, "power", "(II)J"⟩
abbrev cX12_shows : ByteArray := prog_14_method_36_code
def yX12_shows : MethodName := ⟨RX12, "shows", "(IIIII)I"⟩
abbrev cX12_shown : ByteArray := prog_14_method_37_code
def yX12_shown : MethodName := ⟨RX12, "shown", "(III)I"⟩
abbrev cX12_likes : ByteArray := prog_14_method_38_code
def yX12_likes : MethodName := ⟨RX12, "likes", "(III)I"⟩
abbrev cX12_likesNow : ByteArray := prog_14_method_39_code
def yX12_likesNow : MethodName := ⟨RX12, "likesNow", "(II)I"⟩
abbrev cX12_liking : ByteArray := prog_14_method_40_code
def yX12_liking : MethodName := ⟨RX12, "liking", "(II)I"⟩
abbrev cX12_isSooner : ByteArray := prog_14_method_41_code
def yX12_isSooner : MethodName := ⟨RX12, "isSooner", "(III)Z"⟩
abbrev cX12_sooner : ByteArray := prog_14_method_42_code
def yX12_sooner : MethodName := ⟨RX12, "sooner", "(III)I"⟩
abbrev cX12_would : ByteArray := prog_14_method_43_code
def yX12_would : MethodName := ⟨RX12, "would", "(II)Z"⟩
abbrev cX12_both : ByteArray := prog_14_method_44_code
def yX12_both : MethodName := ⟨RX12, "both", "(II)Z"⟩
abbrev cX12_lays : ByteArray := prog_14_method_45_code
def yX12_lays : MethodName := ⟨RX12, "lays", "(I)V"⟩
abbrev cX12_othersMany : ByteArray := prog_14_method_46_code
def yX12_othersMany : MethodName := ⟨RX12, "othersMany", "()I"⟩
abbrev cX12_with : ByteArray := prog_14_method_47_code
def yX12_with : MethodName := ⟨RX12, "with", "(III)I"⟩
abbrev cX12_by : ByteArray := prog_14_method_48_code
def yX12_by : MethodName := ⟨RX12, "by", "(IIII)I"⟩
abbrev cX12_worth : ByteArray := prog_14_method_49_code
def yX12_worth : MethodName := ⟨RX12, "worth", "(III)I"⟩
abbrev cX12_mateOf : ByteArray := prog_14_method_50_code
def yX12_mateOf : MethodName := ⟨RX12, "mateOf", "(I)I"⟩
abbrev cX12_bestOf : ByteArray := prog_14_method_51_code
def yX12_bestOf : MethodName := ⟨RX12, "bestOf", "(II)I"⟩
abbrev cX12_toldOf : ByteArray := prog_14_method_52_code
def yX12_toldOf : MethodName := ⟨RX12, "toldOf", "(II)I"⟩
abbrev cX12_areMays : ByteArray := prog_14_method_53_code
def yX12_areMays : MethodName := ⟨RX12, "areMays", "(I)Z"⟩
abbrev cX12_best : ByteArray := prog_14_method_54_code
def yX12_best : MethodName := ⟨RX12, "best", "(III)I"⟩
abbrev cX12_act : ByteArray := prog_14_method_55_code
def yX12_act : MethodName := ⟨RX12, "act", "(III)I"⟩
abbrev cX12_isSilent : ByteArray := prog_14_method_56_code
def yX12_isSilent : MethodName := ⟨RX12, "isSilent", "(II)Z"⟩
abbrev cX12_silent : ByteArray := prog_14_method_57_code
def yX12_silent : MethodName := ⟨RX12, "silent", "(II)I"⟩
abbrev cX12_bar : ByteArray := prog_14_method_58_code
def yX12_bar : MethodName := ⟨RX12, "bar", "(IIII)I"⟩
abbrev cX12_price : ByteArray := prog_14_method_59_code
def yX12_price : MethodName := ⟨RX12, "price", "(II)I"⟩
abbrev cX12_waits : ByteArray := prog_14_method_60_code
def yX12_waits : MethodName := ⟨RX12, "waits", "(III)I"⟩
abbrev cX12_lot : ByteArray := prog_14_method_61_code
def yX12_lot : MethodName := ⟨RX12, "lot", "(I)I"⟩
abbrev cX12_gives : ByteArray := prog_14_method_62_code
def yX12_gives : MethodName := ⟨RX12, "gives", "(II)V"⟩
abbrev cX12_asks : ByteArray := prog_14_method_63_code
def yX12_asks : MethodName := ⟨RX12, "asks", "(I)V"⟩
abbrev cX12_inTurn : ByteArray := prog_14_method_64_code
def yX12_inTurn : MethodName := ⟨RX12, "inTurn", "()V"⟩
abbrev cX12_byLot : ByteArray := prog_14_method_65_code
def yX12_byLot : MethodName := ⟨RX12, "byLot", "()V"⟩
abbrev cX12_goes : ByteArray := prog_14_method_66_code
def yX12_goes : MethodName := ⟨RX12, "goes", "(I)V"⟩
abbrev cX12_way : ByteArray := prog_14_method_67_code
def yX12_way : MethodName := ⟨RX12, "way", "(I)Z"⟩
abbrev cX12_seed : ByteArray := prog_14_method_68_code
def yX12_seed : MethodName := ⟨RX12, "seed", "(I)Z"⟩
abbrev cX12_green : ByteArray := prog_14_method_69_code
def yX12_green : MethodName := ⟨RX12, "green", "(II)I"⟩
abbrev cX12_notes : ByteArray := prog_14_method_70_code
def yX12_notes : MethodName := ⟨RX12, "notes", "(II)V"⟩
abbrev cX12_log : ByteArray := prog_14_method_71_code
def yX12_log : MethodName := ⟨RX12, "log", "(II)I"⟩
abbrev cX12_joins : ByteArray := prog_14_method_72_code
def yX12_joins : MethodName := ⟨RX12, "joins", "(II)V"⟩
abbrev cX12_parts : ByteArray := prog_14_method_73_code
def yX12_parts : MethodName := ⟨RX12, "parts", "(I)V"⟩
abbrev cX12_asked : ByteArray := prog_14_method_74_code
def yX12_asked : MethodName := ⟨RX12, "asked", "()V"⟩
abbrev cX12_lives : ByteArray := prog_14_method_75_code
def yX12_lives : MethodName := ⟨RX12, "lives", "(I)V"⟩
abbrev cX12_may : ByteArray := prog_14_method_76_code
def yX12_may : MethodName := ⟨RX12, "may", "()V"⟩
abbrev cX12_may_ : ByteArray := prog_14_method_77_code
def yX12_may_ : MethodName := ⟨RX12, "may", "(I)I"⟩
abbrev cX12_join : ByteArray := prog_14_method_78_code
def yX12_join : MethodName := ⟨RX12, "join", "(II)Z"⟩
abbrev cX12_part : ByteArray := prog_14_method_79_code
def yX12_part : MethodName := ⟨RX12, "part", "(I)Z"⟩
abbrev cX12_isFree : ByteArray := prog_14_method_80_code
def yX12_isFree : MethodName := ⟨RX12, "isFree", "(II)Z"⟩
abbrev cX12_blocks : ByteArray := prog_14_method_81_code
def yX12_blocks : MethodName := ⟨RX12, "blocks", "(I)I"⟩
abbrev cX12_truly : ByteArray := prog_14_method_82_code
def yX12_truly : MethodName := ⟨RX12, "truly", "(II)I"⟩
abbrev cX12_sumOf : ByteArray := prog_14_method_83_code
def yX12_sumOf : MethodName := ⟨RX12, "sumOf", "([I)I"⟩
abbrev cX12_parentsFrom : ByteArray := prog_14_method_84_code
def yX12_parentsFrom : MethodName := ⟨RX12, "parentsFrom", "(I)V"⟩
abbrev cX12_findsParents : ByteArray := prog_14_method_85_code
def yX12_findsParents : MethodName := ⟨RX12, "findsParents", "()V"⟩
abbrev cX12_parents : ByteArray := prog_14_method_86_code
def yX12_parents : MethodName := ⟨RX12, "parents", "(I)I"⟩
abbrev cX12_lifeOf : ByteArray := prog_14_method_87_code
def yX12_lifeOf : MethodName := ⟨RX12, "lifeOf", "([II)I"⟩
abbrev cX12_life : ByteArray := prog_14_method_88_code
def yX12_life : MethodName := ⟨RX12, "life", "(II)I"⟩
abbrev cX12_never : ByteArray := prog_14_method_89_code
def yX12_never : MethodName := ⟨RX12, "never", "(I)I"⟩
abbrev cX12_pairs : ByteArray := prog_14_method_90_code
def yX12_pairs : MethodName := ⟨RX12, "pairs", "(II)I"⟩
abbrev cX12_move : ByteArray := prog_14_method_91_code
def yX12_move : MethodName := ⟨RX12, "move", "([I[IZ)V"⟩
abbrev cX12_moves : ByteArray := prog_14_method_92_code
def yX12_moves : MethodName := ⟨RX12, "moves", "([IZ)V"⟩
abbrev cX12_image : ByteArray := prog_14_method_93_code
def yX12_image : MethodName := ⟨RX12, "image", "(I)Z"⟩
abbrev cX12_on : ByteArray := prog_14_method_94_code
def yX12_on : MethodName := ⟨RX12, "on", "(I)Z"⟩
abbrev cX12_count : ByteArray := prog_14_method_95_code
def yX12_count : MethodName := ⟨RX12, "count", "(I)I"⟩
def RJ9 : String := "java/lang/Math"
def TJ9 : u_T := fun k => match k with
  | _ => ("", "", "", false)
def tyJ9 : Nat → FieldType := fun k => match k with
  | _ => .int
abbrev wsJ90 : List Cond := u_ws RJ9 TJ9 0
theorem nmJ9 : ∀ a, a < 0 → ∀ b, b < 0 → a ≠ b → (TJ9 a).2.1 ≠ (TJ9 b).2.1 := by decide +kernel
theorem tyJ9_ok : ∀ k, k < 0 → parseFieldDescriptor (TJ9 k).2.2.1 = some (tyJ9 k) := by decide +kernel
abbrev cJ9_max_7cf53 : ByteArray := prog_15_method_65_code
def yJ9_max_7cf53 : MethodName := ⟨RJ9, "max", "(II)I"⟩
abbrev cJ9_max_f86c9 : ByteArray := prog_15_method_66_code
def yJ9_max_f86c9 : MethodName := ⟨RJ9, "max", "(JJ)J"⟩
abbrev cJ9_min_7cf53 : ByteArray := prog_15_method_69_code
def yJ9_min_7cf53 : MethodName := ⟨RJ9, "min", "(II)I"⟩
def RJ0 : String := "java/lang/String"
def TJ0 : u_T := fun k => match k with
  | _ => ("", "", "", false)
def tyJ0 : Nat → FieldType := fun k => match k with
  | _ => .int
abbrev wsJ00 : List Cond := u_ws RJ0 TJ0 0
theorem nmJ0 : ∀ a, a < 0 → ∀ b, b < 0 → a ≠ b → (TJ0 a).2.1 ≠ (TJ0 b).2.1 := by decide +kernel
theorem tyJ0_ok : ∀ k, k < 0 → parseFieldDescriptor (TJ0 k).2.2.1 = some (tyJ0 k) := by decide +kernel
abbrev cJ0_length_8abf5 : ByteArray := prog_16_method_54_code
def yJ0_length_8abf5 : MethodName := ⟨RJ0, "length", "()I"⟩
abbrev cJ0_charAt_5068e : ByteArray := prog_16_method_56_code
def yJ0_charAt_5068e : MethodName := ⟨RJ0, "charAt", "(I)C"⟩
abbrev cJ0_coder_7d493 : ByteArray := prog_16_method_152_code
def yJ0_coder_7d493 : MethodName := ⟨RJ0, "coder", "()B"⟩
abbrev cJ0_isLatin1_aae02 : ByteArray := prog_16_method_154_code
def yJ0_isLatin1_aae02 : MethodName := ⟨RJ0, "isLatin1", "()Z"⟩
abbrev cJ0_checkIndex_df160 : ByteArray := prog_16_method_155_code
def yJ0_checkIndex_df160 : MethodName := ⟨RJ0, "checkIndex", "(II)V"⟩
def RJ1 : String := "java/lang/StringLatin1"
def TJ1 : u_T := fun k => match k with
  | _ => ("", "", "", false)
def tyJ1 : Nat → FieldType := fun k => match k with
  | _ => .int
abbrev wsJ10 : List Cond := u_ws RJ1 TJ1 0
theorem nmJ1 : ∀ a, a < 0 → ∀ b, b < 0 → a ≠ b → (TJ1 a).2.1 ≠ (TJ1 b).2.1 := by decide +kernel
theorem tyJ1_ok : ∀ k, k < 0 → parseFieldDescriptor (TJ1 k).2.2.1 = some (tyJ1 k) := by decide +kernel
abbrev cJ1_charAt_3b067 : ByteArray := prog_17_method_2_code
def yJ1_charAt_3b067 : MethodName := ⟨RJ1, "charAt", "([BI)C"⟩
def RJ2 : String := "java/lang/StringUTF16"
def TJ2 : u_T := fun k => match k with
  | _ => ("", "", "", false)
def tyJ2 : Nat → FieldType := fun k => match k with
  | _ => .int
abbrev wsJ20 : List Cond := u_ws RJ2 TJ2 0
theorem nmJ2 : ∀ a, a < 0 → ∀ b, b < 0 → a ≠ b → (TJ2 a).2.1 ≠ (TJ2 b).2.1 := by decide +kernel
theorem tyJ2_ok : ∀ k, k < 0 → parseFieldDescriptor (TJ2 k).2.2.1 = some (tyJ2 k) := by decide +kernel
abbrev cJ2_getChar_3b067 : ByteArray := prog_18_method_5_code
def yJ2_getChar_3b067 : MethodName := ⟨RJ2, "getChar", "([BI)C"⟩
abbrev cJ2_length_9d52b : ByteArray := prog_18_method_6_code
def yJ2_length_9d52b : MethodName := ⟨RJ2, "length", "([B)I"⟩
abbrev cJ2_charAt_3b067 : ByteArray := prog_18_method_83_code
def yJ2_charAt_3b067 : MethodName := ⟨RJ2, "charAt", "([BI)C"⟩
abbrev cJ2_checkIndex_2214a : ByteArray := prog_18_method_91_code
def yJ2_checkIndex_2214a : MethodName := ⟨RJ2, "checkIndex", "(I[B)V"⟩
def RJ3 : String := "jdk/internal/util/Preconditions"
def TJ3 : u_T := fun k => match k with
  | _ => ("", "", "", false)
def tyJ3 : Nat → FieldType := fun k => match k with
  | _ => .int
abbrev wsJ30 : List Cond := u_ws RJ3 TJ3 0
theorem nmJ3 : ∀ a, a < 0 → ∀ b, b < 0 → a ≠ b → (TJ3 a).2.1 ≠ (TJ3 b).2.1 := by decide +kernel
theorem tyJ3_ok : ∀ k, k < 0 → parseFieldDescriptor (TJ3 k).2.2.1 = some (tyJ3 k) := by decide +kernel
abbrev cJ3_checkIndex_8e157 : ByteArray := prog_19_method_11_code
def yJ3_checkIndex_8e157 : MethodName := ⟨RJ3, "checkIndex", "(IILjava/util/function/BiFunction;)I"⟩
def RL : String := "MayGreenLaw"
abbrev cL_law : ByteArray := code
def yL_law : MethodName := ⟨RL, "law", "([I)Z"⟩
abbrev vwCl : List vw_C := [(RX0, TX0, 3), (RX1, TX1, 3), (RX2, TX2, 7), (RX3, TX3, 11), (RX4, TX4, 11), (RX5, TX5, 16), (RX6, TX6, 10), (RX8, TX8, 5), (RX9, TX9, 2), (RX11, TX11, 12), (RX12, TX12, 55)]
end
section
/-! OWN LAYER, first half: values as whole numbers, the judgement, the rules of locals, stack, arithmetic, branches -/
abbrev gj_V : Type := Int ⊕ (Int ⊕ Int)
abbrev jI (x : Int) : gj_V := .inl x
abbrev jL (x : Int) : gj_V := .inr (.inl x)
abbrev jR (x : Int) : gj_V := .inr (.inr x)
/-- wrap-around -/
def gj_w (x : Int) : Int := (x + 2147483648) % 4294967296 - 2147483648
def gj_wl (x : Int) : Int := (x + 9223372036854775808) % 18446744073709551616 - 9223372036854775808
def gj_b8 (x : Int) : Int := (x + 128) % 256 - 128
abbrev gj_i32 (x : Int) : Prop := -2147483648 ≤ x ∧ x < 2147483648
abbrev gj_i64 (x : Int) : Prop := -9223372036854775808 ≤ x ∧ x < 9223372036854775808
theorem gj_w_ok (x : Int) : gj_i32 (gj_w x) := by unfold gj_w gj_i32; omega
theorem gj_wl_ok (x : Int) : gj_i64 (gj_wl x) := by unfold gj_wl gj_i64; omega
theorem gj_w_id {x : Int} (h : gj_i32 x) : gj_w x = x := by unfold gj_i32 at h; unfold gj_w; omega
theorem gj_wl_id {x : Int} (h : gj_i64 x) : gj_wl x = x := by unfold gj_i64 at h; unfold gj_wl; omega
theorem gj_wle {x : Int} (h1 : -2147483648 ≤ x) (h2 : x < 2147483648) : gj_w x = x := gj_w_id ⟨h1, h2⟩
theorem gj_wlle {x : Int} (h1 : -9223372036854775808 ≤ x) (h2 : x < 9223372036854775808) : gj_wl x = x := gj_wl_id ⟨h1, h2⟩
theorem gj_32_64 {x : Int} (h : gj_i32 x) : gj_i64 x := by unfold gj_i32 at h; unfold gj_i64; omega
theorem gj_bmod (x : Int) : x.bmod 4294967296 = gj_w x := by
  unfold gj_w
  rw [Int.bmod_def]
  split <;> omega
theorem gj_bmodl (x : Int) : x.bmod 18446744073709551616 = gj_wl x := by
  unfold gj_wl
  rw [Int.bmod_def]
  split <;> omega
theorem gj_toI (x : Int) : (Int32.ofInt x).toInt = gj_w x := by
  rw [Int32.toInt_ofInt]
  exact gj_bmod x
theorem gj_toL (x : Int) : (Int64.ofInt x).toInt = gj_wl x := by
  rw [Int64.toInt_ofInt]
  exact gj_bmodl x
theorem gj_ofw (x : Int) : Int32.ofInt (gj_w x) = Int32.ofInt x := Int32.toInt_inj.1 (by rw [gj_toI, gj_toI, gj_w_id (gj_w_ok x)])
theorem gj_ofwl (x : Int) : Int64.ofInt (gj_wl x) = Int64.ofInt x := Int64.toInt_inj.1 (by rw [gj_toL, gj_toL, gj_wl_id (gj_wl_ok x)])
theorem gj_toI' {x : Int} (h : gj_i32 x) : (Int32.ofInt x).toInt = x := by rw [gj_toI, gj_w_id h]
theorem gj_toL' {x : Int} (h : gj_i64 x) : (Int64.ofInt x).toInt = x := by rw [gj_toL, gj_wl_id h]
theorem gj_eqI {a : Int} {x : Int32} (h : x.toInt = gj_w a) : x = Int32.ofInt a := Int32.toInt_inj.1 (by rw [gj_toI, h])
theorem gj_eqL {a : Int} {x : Int64} (h : x.toInt = gj_wl a) : x = Int64.ofInt a := Int64.toInt_inj.1 (by rw [gj_toL, h])
theorem gj_injI {a b : Int} (ha : gj_i32 a) (hb : gj_i32 b) : Int32.ofInt a = Int32.ofInt b ↔ a = b := ⟨fun h => by rw [← gj_toI' ha, ← gj_toI' hb, h], fun h => by rw [h]⟩
theorem gj_ltI {a b : Int} (ha : gj_i32 a) (hb : gj_i32 b) : Int32.ofInt a < Int32.ofInt b ↔ a < b := by rw [Int32.lt_iff_toInt_lt, gj_toI' ha, gj_toI' hb]
theorem gj_leI {a b : Int} (ha : gj_i32 a) (hb : gj_i32 b) : Int32.ofInt a ≤ Int32.ofInt b ↔ a ≤ b := by rw [Int32.le_iff_toInt_le, gj_toI' ha, gj_toI' hb]
theorem gj_0I : Int32.ofInt 0 = 0 := rfl
theorem gj_z32 : gj_i32 0 := ⟨by decide, by decide⟩
/-- what the machine's bit operations do, as whole numbers -/
def gj_and (a b : Int) : Int := (Int32.ofInt a &&& Int32.ofInt b).toInt
def gj_or (a b : Int) : Int := (Int32.ofInt a ||| Int32.ofInt b).toInt
def gj_ushr (a b : Int) : Int := ((Int32.ofInt a).toUInt32 >>> ((Int32.ofInt b).toUInt32 &&& Int32.toUInt32 31)).toInt32.toInt
def gj_land (a b : Int) : Int := (Int64.ofInt a &&& Int64.ofInt b).toInt
def gj_cmp (a b : Int) : Int := if b < a then 1 else if a = b then 0 else -1
theorem gj_rI (x : Int32) : gj_i32 x.toInt := by
  have h1 := Int32.le_toInt x
  have h2 := Int32.toInt_lt x
  unfold gj_i32
  omega
theorem gj_rL (x : Int64) : gj_i64 x.toInt := by
  have h1 := Int64.le_toInt x
  have h2 := Int64.toInt_lt x
  unfold gj_i64
  omega
theorem gj_cmp_ok (a b : Int) : gj_i32 (gj_cmp a b) := by
  unfold gj_cmp gj_i32
  split
  · omega
  · split <;> omega
theorem gj_cmp_eq {a b : Int} (ha : gj_i64 a) (hb : gj_i64 b) : lg_cmp (Int64.ofInt a) (Int64.ofInt b) = Int32.ofInt (gj_cmp a b) := by
  unfold lg_cmp gj_cmp
  simp only [gt_iff_lt, Int64.lt_iff_toInt_lt, ← Int64.toInt_inj, gj_toL' ha, gj_toL' hb]
  split
  · rfl
  · split <;> rfl
theorem gj_tmod_ok {a b : Int} (ha : gj_i32 a) : gj_i32 (a.tmod b) := by
  unfold gj_i32 at *
  rcases Int.le_total 0 a with h | h
  · have h1 := Int.tmod_nonneg b h
    have h2 : a.tmod b ≤ a := by
      have := Int.natAbs_tmod a b
      have h3 : (a.natAbs % b.natAbs) ≤ a.natAbs := Nat.mod_le _ _
      omega
    omega
  · have h1 : a.tmod b = -((-a).tmod b) := by rw [Int.neg_tmod]; omega
    have h4 := Int.tmod_nonneg b (show 0 ≤ -a by omega)
    have h2 : (-a).tmod b ≤ -a := by
      have := Int.natAbs_tmod (-a) b
      have h3 : ((-a).natAbs % b.natAbs) ≤ (-a).natAbs := Nat.mod_le _ _
      omega
    omega
theorem gj_tmodl_ok {a b : Int} (ha : gj_i64 a) : gj_i64 (a.tmod b) := by
  unfold gj_i64 at *
  rcases Int.le_total 0 a with h | h
  · have h1 := Int.tmod_nonneg b h
    have h2 : a.tmod b ≤ a := by
      have := Int.natAbs_tmod a b
      have h3 : (a.natAbs % b.natAbs) ≤ a.natAbs := Nat.mod_le _ _
      omega
    omega
  · have h1 : a.tmod b = -((-a).tmod b) := by rw [Int.neg_tmod]; omega
    have h4 := Int.tmod_nonneg b (show 0 ≤ -a by omega)
    have h2 : (-a).tmod b ≤ -a := by
      have := Int.natAbs_tmod (-a) b
      have h3 : ((-a).natAbs % b.natAbs) ≤ (-a).natAbs := Nat.mod_le _ _
      omega
    omega
theorem gj_divI {a b : Int} (ha : gj_i32 a) (hb : gj_i32 b) : Int32.ofInt a / Int32.ofInt b = Int32.ofInt (gj_w (a.tdiv b)) := by
  refine gj_eqI ?_
  rw [Int32.toInt_div, gj_toI' ha, gj_toI' hb, gj_w_id (gj_w_ok _)]
  exact gj_bmod _
theorem gj_divL {a b : Int} (ha : gj_i64 a) (hb : gj_i64 b) : Int64.ofInt a / Int64.ofInt b = Int64.ofInt (gj_wl (a.tdiv b)) := by
  refine gj_eqL ?_
  rw [Int64.toInt_div, gj_toL' ha, gj_toL' hb, gj_wl_id (gj_wl_ok _)]
  exact gj_bmodl _
theorem gj_remI {a b : Int} (ha : gj_i32 a) (hb : gj_i32 b) : Int32.ofInt a - Int32.ofInt a / Int32.ofInt b * Int32.ofInt b = Int32.ofInt (a.tmod b) := by
  rw [gj_divI ha hb, gj_ofw, ← Int32.ofInt_mul, ← Int32.ofInt_sub, Int.tmod_def, Int.mul_comm]
theorem gj_remL {a b : Int} (ha : gj_i64 a) (hb : gj_i64 b) : Int64.ofInt a - Int64.ofInt a / Int64.ofInt b * Int64.ofInt b = Int64.ofInt (a.tmod b) := by
  rw [gj_divL ha hb, gj_ofwl, ← Int64.ofInt_mul, ← Int64.ofInt_sub, Int.tmod_def, Int.mul_comm]
/-! the world: what is fixed of a launch (class numbers, array classes, string constants, the heap at the start, the script), the system's heap as numbers -/
abbrev gj_G : Type := va_G × (Nat → ClassId) × (Nat → Nat) × (Nat → Nat) × Heap × Nat × Nat × (Nat → Int32) × Nat
def gj_D (G : gj_G) : va_G := G.1
def gj_cA (G : gj_G) : Nat → ClassId := G.2.1
def gj_aK (G : gj_G) : Nat → Nat := G.2.2.1
def gj_aV (G : gj_G) : Nat → Nat := G.2.2.2.1
def gj_H (G : gj_G) : Heap := G.2.2.2.2.1
def gj_b (G : gj_G) : Nat := G.2.2.2.2.2.1
def gj_n (G : gj_G) : Nat := G.2.2.2.2.2.2.1
def gj_x (G : gj_G) : Nat → Int32 := G.2.2.2.2.2.2.2.1
def gj_f (G : gj_G) : Nat := G.2.2.2.2.2.2.2.2
def gj_base (G : gj_G) : Nat := (gj_H G).size
/-- a reference's address: the system's objects by number from 0 on; -1 null; -2 - i the i-th text, -30 - i its bytes; -100 the script; -200 an object of the JDK's -/
def gj_ad (G : gj_G) (z : Int) : Nat := if 0 ≤ z then gj_base G + z.toNat else if z = -100 then gj_b G else if z = -200 then gj_f G else if z ≤ -30 then gj_aV G (-30 - z).toNat else gj_aK G (-2 - z).toNat
def gj_ro (G : gj_G) (z : Int) : Option Nat := if z = -1 then none else some (gj_ad G z)
def gj_rv (G : gj_G) (z : Int) : Value := va_rf (gj_ro G z)
def gj_v (G : gj_G) : gj_V → Value
  | .inl x => .int (Int32.ofInt x)
  | .inr (.inl x) => .long (Int64.ofInt x)
  | .inr (.inr z) => gj_rv G z
def gj_okv : gj_V → Prop
  | .inl x => gj_i32 x
  | .inr (.inl x) => gj_i64 x
  | .inr (.inr _) => True
/-- the system's objects: how many; of each its kind (0 int, 1 long, 2 byte, 3 boolean arrays, 4 arrays of Life, 5 of String, 6 of int arrays, 10 + c objects of class c) and length; its references -/
abbrev gj_S : Type := Int × (Int → Nat × Int) × (Int → Int → Int)
/-- what they hold of numbers -/
abbrev gj_M : Type := Int → Int → Int
def gj_up (M : gj_M) (o i v : Int) : gj_M := fun a b => if a = o ∧ b = i then v else M a b
def gj_ftc : FieldType → Nat
  | .int => 0
  | .long => 1
  | .byte => 2
  | .boolean => 3
  | _ => 4
def gj_fts : List (Nat → FieldType) := [tyX0, tyX1, tyX2, tyX3, tyX4, tyX5, tyX6, tyX8, tyX9, tyX11, tyX12]
def gj_ft (ci k : Nat) : Nat := gj_ftc ((gj_fts.getD ci tyX0) k)
def gj_ty (k i : Nat) : Nat := if k < 4 then k else if k < 10 then 4 else gj_ft (k - 10) i
def gj_okx (t : Nat) (x : Int) : Prop := (t = 0 → gj_i32 x) ∧ (t = 1 → gj_i64 x) ∧ (t = 2 → -128 ≤ x ∧ x < 128) ∧ (t = 3 → x = 0 ∨ x = 1)
def gj_okm (S : gj_S) (M : gj_M) : Prop := ∀ (o : Int) (i : Nat), gj_okx (gj_ty (S.2.1 o).1 i) (M o i)
def gj_okS (S : gj_S) : Prop := 0 ≤ S.1 ∧ (∀ z, (z < 0 ∨ S.1 ≤ z) → S.2.1 z = (99, 0)) ∧ ∀ z, 0 ≤ (S.2.1 z).2 ∧ (S.2.1 z).2 < 2147483648
def gj_fv (G : gj_G) (S : gj_S) (M : gj_M) (o : Int) (ci i : Nat) : Value := if gj_ft ci i = 1 then .long (Int64.ofInt (M o i)) else if gj_ft ci i = 4 then gj_rv G (S.2.2 o i) else .int (Int32.ofInt (M o i))
def gj_e (G : gj_G) (S : gj_S) (M : gj_M) (o : Int) : va_E :=
  if (S.2.1 o).1 < 10 then .inl (gj_cA G (S.2.1 o).1, (S.2.1 o).2.toNat, if (S.2.1 o).1 = 1 then .inr (.inl fun i : Nat => Int64.ofInt (M o i)) else if (S.2.1 o).1 < 4 then .inl (fun i : Nat => Int32.ofInt (M o i)) else .inr (.inr (.inr (.inr fun i : Nat => gj_ro G (S.2.2 o i)))))
  else .inr ((S.2.1 o).1 - 10, (List.range (S.2.1 o).2.toNat).map (gj_fv G S M o ((S.2.1 o).1 - 10)))
/-- the heap holds the system's objects behind what was there at the start -/
def gj_R (G : gj_G) (S : gj_S) (M : gj_M) (H : Heap) : Prop :=
  H.size = gj_base G + S.1.toNat ∧ (∀ q : Nat, q < gj_base G → H[q]? = (gj_H G)[q]?) ∧ (∀ o : Nat, (o : Int) < S.1 → va_at (gj_D G) vwCl (gj_base G + o, gj_e G S M o) H) ∧ gj_okS S ∧ gj_okm S M
def gj_tys (G : gj_G) : List (ClassId × FieldType) := [(gj_cA G 0, .int), (gj_cA G 1, .long), (gj_cA G 2, .byte), (gj_cA G 3, .boolean), (gj_cA G 4, .object "MayGreen$Life"), (gj_cA G 5, .object "java/lang/String"), (gj_cA G 6, .array .int)]
def gj_A (G : gj_G) : Nat → Prop := fun q => gj_base G ≤ q
/-- the texts: left right think fit worth house child cow ahead -/
def gj_st : List String := ["left", "right", "think", "fit", "worth", "house", "child", "cow", "ahead"]
def gj_sl : List Nat := [4, 5, 5, 3, 5, 5, 5, 3, 5]
def gj_sb : List (List Int32) := [[108, 101, 102, 116], [114, 105, 103, 104, 116], [116, 104, 105, 110, 107], [102, 105, 116], [119, 111, 114, 116, 104], [104, 111, 117, 115, 101], [99, 104, 105, 108, 100], [99, 111, 119], [97, 104, 101, 97, 100]]
def gj_s6 : List Nat := [81, 94, 99, 104, 109, 114, 119, 124, 129]
def gj_s12 : List Nat := [56, 58, 60, 62, 63, 65, 67, 69, 71]
/-- the tables' word on arrays of int arrays -/
def gj_AOA (U : State) : Prop := (Cond.arrayOver (.array .int)).before #[] U = true
theorem gj_AOA.moved {u U : State} (hvm : u.vm.Alike U.vm) (h : gj_AOA u) : gj_AOA U := by
  have h1 := Cond.overAtom_setVm hvm (Cond.arrayOver (.array .int)) rfl h
  exact h1
/-- the private constructors that nest mates call -/
def gj_nest : List (String × Nat × MethodName × String) := [(RX11, 9, yX9_init, RX11), (RX11, 18, yX5_init, RX11), (RX3, 35, yX1_init, RX11)]
def gj_K (G : gj_G) (U : State) : Prop :=
  va_K (gj_D G) vwCl (gj_tys G) U ∧ (∀ i, i < 9 → vk_R RX6 (gj_s6.getD i 0) (gj_st.getD i "") (gj_aK G i) U ∧ vk_R RX12 (gj_s12.getD i 0) (gj_st.getD i "") (gj_aK G i) U) ∧
  vk_S 9 gj_sl gj_sb (gj_aK G) (gj_aV G) (gj_A G) U (gj_H G) ∧ va_Z "java/lang/String" "COMPACT_STRINGS" "Z" (.int 1) (gj_A G) U (gj_H G) ∧
  va_Z "jdk/internal/util/Preconditions" "SIOOBE_FORMATTER" "Ljava/util/function/BiFunction;" (.ref (gj_f G)) (gj_A G) U (gj_H G) ∧
  va_X (gj_b G) (gj_n G) (gj_x G) U (gj_H G) ∧ gj_b G < gj_base G ∧ gj_n G < 2147483648 ∧ va_AO "MayGreen$Life" U ∧ va_AO "java/lang/String" U ∧ gj_AOA U ∧ ∀ q ∈ gj_nest, va_Nw (.methodLinkNest q.1 q.2.1 q.2.2.1 q.2.2.2) U
theorem gj_K.same {G : gj_G} {u U : State} (hv : U.vm = u.vm) (h : gj_K G u) : gj_K G U := by
  obtain ⟨h1, h2, h3, h4, h5, h6, h7, h8, h9, h10, h11, h12⟩ := h
  have ha : u.vm.Alike U.vm := by rw [hv]; exact Vm.Alike.refl _
  exact ⟨h1.moved ha, fun i hi => ⟨(h2 i hi).1.same hv, (h2 i hi).2.same hv⟩, h3.moved ha, h4.moved ha, h5.moved ha, h6.moved ha, h7, h8, h9.moved ha, h10.moved ha, h11.moved ha, fun q hq => (h12 q hq).same rfl hv.symm⟩
theorem gj_K.warm {G : gj_G} {s U : State} (hW : s.WarmedH U.vm) (h : gj_K G s) : gj_K G U := by
  obtain ⟨h1, h2, h3, h4, h5, h6, h7, h8, h9, h10, h11, h12⟩ := h
  have ha : s.vm.Alike U.vm := hW.alike
  exact ⟨h1.moved ha, fun i hi => ⟨(h2 i hi).1.warm hW, (h2 i hi).2.warm hW⟩, h3.moved ha, h4.moved ha, h5.moved ha, h6.moved ha, h7, h8, h9.moved ha, h10.moved ha, h11.moved ha, fun q hq => (h12 q hq).warmM hW⟩
/-! the tables' words that any method may use -/
def gj_TB : List Cond := lw_tbl.filter goodWord
theorem gj_mem {w : Cond} (i : Nat) (h : lw_tbl[i]? = some w) (hg : goodWord w = true) : w ∈ gj_TB := List.mem_filter.mpr ⟨List.mem_of_getElem? h, hg⟩
def gj_ws (y : MethodName) (cc : ByteArray) (nL : Nat) (ret : Option FieldType) : List Cond := Cond.code y cc nL ret :: gj_TB
/-! locals -/
def gj_lk (ls : List (Nat × gj_V)) (i : Nat) : Option gj_V := match ls with
  | [] => none
  | q :: r => if q.1 = i then some q.2 else gj_lk r i
def gj_two : gj_V → Bool
  | .inr (.inl _) => true
  | _ => false
def gj_s1 (ls : List (Nat × gj_V)) (i : Nat) (v : gj_V) : List (Nat × gj_V) := (i, v) :: ls.filter (fun q => !(q.1 == i) && !(q.1 + 1 == i && gj_two q.2))
def gj_s2 (ls : List (Nat × gj_V)) (i : Nat) (v : gj_V) : List (Nat × gj_V) := (i, v) :: ls.filter (fun q => !(q.1 == i) && (!(q.1 == i + 1) && !(q.1 + 1 == i && gj_two q.2)))
def gj_lv (G : gj_G) (ls : List (Nat × gj_V)) : List (Nat × Value) := ls.map (fun q => (q.1, gj_v G q.2))
theorem gj_cat (G : gj_G) (v : gj_V) : ((gj_v G v).category == 2) = gj_two v := by
  rcases v with x | x | x
  · rfl
  · rfl
  · show ((gj_rv G x).category == 2) = false
    unfold gj_rv gj_ro
    split <;> rfl
theorem gj_cat1 (G : gj_G) {v : gj_V} (h : gj_two v = false) : (gj_v G v).category = 1 := by
  have h1 := gj_cat G v
  rw [h] at h1
  rcases lv_cat (gj_v G v) with q | q
  · exact q
  · rw [q] at h1; cases h1
theorem gj_lk_mem {ls : List (Nat × gj_V)} {i : Nat} {v : gj_V} (h : gj_lk ls i = some v) : (i, v) ∈ ls := by
  induction ls with
  | nil => cases h
  | cons q r ih =>
    obtain ⟨a, b⟩ := q
    unfold gj_lk at h
    by_cases e : a = i
    · rw [if_pos e] at h
      cases h
      subst e
      exact List.mem_cons_self
    · rw [if_neg e] at h
      exact List.mem_cons_of_mem _ (ih h)
theorem gj_lk_at {G : gj_G} {ls : List (Nat × gj_V)} {lsm : Array Slot} {nL i : Nat} {v : gj_V} (h : lv_has lsm nL (gj_lv G ls)) (hv : gj_lk ls i = some v) : lsm[i]? = some (.val (gj_v G v)) := by
  have h1 := gj_lk_mem hv
  exact h.2.2 (i, gj_v G v) (List.mem_map.mpr ⟨(i, v), h1, rfl⟩)
theorem gj_lv_s1 (G : gj_G) (ls : List (Nat × gj_V)) (i : Nat) (v : gj_V) : (i, gj_v G v) :: (gj_lv G ls).filter (fun q => !(q.1 == i) && !(q.1 + 1 == i && q.2.category == 2)) = gj_lv G (gj_s1 ls i v) := by
  unfold gj_lv gj_s1
  rw [List.map_cons, List.filter_map]
  congr 2
  refine List.filter_congr fun q _ => ?_
  show (!(q.1 == i) && !(q.1 + 1 == i && (gj_v G q.2).category == 2)) = _
  rw [gj_cat]
theorem gj_lv_s2 (G : gj_G) (ls : List (Nat × gj_V)) (i : Nat) (v : gj_V) : (i, gj_v G v) :: (gj_lv G ls).filter (fun q => !(q.1 == i) && (!(q.1 == i + 1) && !(q.1 + 1 == i && q.2.category == 2))) = gj_lv G (gj_s2 ls i v) := by
  unfold gj_lv gj_s2
  rw [List.map_cons, List.filter_map]
  congr 2
  refine List.filter_congr fun q _ => ?_
  show (!(q.1 == i) && (!(q.1 == i + 1) && !(q.1 + 1 == i && (gj_v G q.2).category == 2))) = _
  rw [gj_cat]
def gj_oks (ls : List (Nat × gj_V)) (st : List gj_V) : Prop := (∀ q ∈ ls, gj_okv q.2) ∧ ∀ v ∈ st, gj_okv v
theorem gj_oks.s1 {ls : List (Nat × gj_V)} {st st' : List gj_V} {i : Nat} {v : gj_V} (h : gj_oks ls st) (hv : gj_okv v) (h2 : ∀ w ∈ st', w ∈ st) : gj_oks (gj_s1 ls i v) st' := by
  refine ⟨fun q hq => ?_, fun w hw => h.2 w (h2 w hw)⟩
  rcases List.mem_cons.mp hq with rfl | hq
  · exact hv
  · exact h.1 q (List.mem_filter.mp hq).1
theorem gj_oks.s2 {ls : List (Nat × gj_V)} {st st' : List gj_V} {i : Nat} {v : gj_V} (h : gj_oks ls st) (hv : gj_okv v) (h2 : ∀ w ∈ st', w ∈ st) : gj_oks (gj_s2 ls i v) st' := by
  refine ⟨fun q hq => ?_, fun w hw => h.2 w (h2 w hw)⟩
  rcases List.mem_cons.mp hq with rfl | hq
  · exact hv
  · exact h.1 q (List.mem_filter.mp hq).1
theorem gj_oks.lk {ls : List (Nat × gj_V)} {st : List gj_V} {i : Nat} {v : gj_V} (h : gj_oks ls st) (hv : gj_lk ls i = some v) : gj_okv v := h.1 (i, v) (gj_lk_mem hv)
theorem gj_oks.push {ls : List (Nat × gj_V)} {st st' : List gj_V} {v : gj_V} (h : gj_oks ls st) (hv : gj_okv v) (h2 : ∀ w ∈ st', w ∈ st) : gj_oks ls (v :: st') := by
  refine ⟨h.1, fun w hw => ?_⟩
  rcases List.mem_cons.mp hw with rfl | hw
  · exact hv
  · exact h.2 w (h2 w hw)
/-! the judgement -/
/-- how a method may end: the instruction at pc, the value that it gives -/
def gj_rt (cc : ByteArray) (pc : Nat) (ret : Option FieldType) : Option gj_V → Prop
  | none => decode cc pc = .ok (.return_, 1) ∧ ret = none
  | some (.inl x) => decode cc pc = .ok (.ireturn, 1) ∧ ∃ ty, ret = some ty ∧ narrow ty (.int (Int32.ofInt x)) = .int (Int32.ofInt x)
  | some (.inr (.inl _)) => decode cc pc = .ok (.lreturn, 1) ∧ ret = some .long
  | some (.inr (.inr _)) => decode cc pc = .ok (.areturn, 1) ∧ ∃ nm, ret = some (.object nm)
def gj_cx (G : gj_G) (d mc ms : Nat) (y : MethodName) (cc : ByteArray) (nL : Nat) (ret : Option FieldType) (p : Program) (R : Room) (s : State) (m : MethodId) (args : Array Value) (meth : Method) (c : Code) : Prop :=
  p.tables.exec = Jvm.exec ∧ c.code = cc ∧ meth.sig.returnType = ret ∧ c.maxLocals = nL ∧ s.vm.findClass y.cls = some m.cls ∧ (∀ w ∈ gj_TB, w.before args s = true) ∧ meth.locks = false ∧ gj_K G s ∧ d ≤ R.frames ∧ 64 * d ≤ R.locals ∧ R.cells = mc ∧ R.slots = ms ∧ meth.name = y.name
def gj_fin (G : gj_G) (mc ms : Nat) (cc : ByteArray) (ret : Option FieldType) (Q : Option gj_V → gj_S → gj_M → Prop) (p : Program) (l : Launch) (e : Env) (R : Room) (s : State) (m : MethodId) (args : Array Value) (below : List Frame) (meth : Method) (c : Code) (Z : State → Prop) : Prop :=
  ∀ (H : Heap) (locs : List Loc) (k n pc : Nat) (lsm : Array Slot) (v : Option gj_V) (S : gj_S) (M : gj_M), Q v S M → gj_R G S M H → (∀ q ∈ locs, gj_base G ≤ q.base) → k ≤ mc → n ≤ ms → (∀ x, v = some x → gj_okv x) → gj_rt cc pc ret v →
    W p l e R s m args below meth c H locs k n Z (F0 m pc lsm ((v.map (gj_v G)).toList))
def gj_W (G : gj_G) (l : Launch) (d mc ms : Nat) (y : MethodName) (cc : ByteArray) (nL : Nat) (ret : Option FieldType) (Q : Option gj_V → gj_S → gj_M → Prop) (k n pc : Nat) (ls : List (Nat × gj_V)) (st : List gj_V) (S : gj_S) (M : gj_M) : Prop :=
  ∀ (p : Program) (e : Env) (R : Room) (s : State) (m : MethodId) (args : Array Value) (below : List Frame) (meth : Method) (c : Code) (H : Heap) (locs : List Loc) (lsm : Array Slot) (Z : State → Prop),
    gj_cx G d mc ms y cc nL ret p R s m args meth c → gj_fin G mc ms cc ret Q p l e R s m args below meth c Z → gj_R G S M H → (∀ q ∈ locs, gj_base G ≤ q.base) → lv_has lsm nL (gj_lv G ls) → gj_oks ls st → k ≤ mc → n ≤ ms →
    W p l e R s m args below meth c H locs k n Z (F0 m pc lsm (st.map (gj_v G)))
def gj_Pc (G : gj_G) (av : List gj_V) (S : gj_S) (M : gj_M) : Array Value → State → Prop := fun a U => a = (av.map (gj_v G)).toArray ∧ gj_K G U ∧ gj_R G S M U.heap ∧ ∀ v ∈ av, gj_okv v
def gj_Qc (G : gj_G) (Q : Option gj_V → gj_S → gj_M → Prop) : Array Value → State → Outcome → State → Prop := fun _ _ o t => ∃ (r : Option gj_V) (S : gj_S) (M : gj_M), o = .returned (r.map (gj_v G)) ∧ Q r S M ∧ gj_R G S M t.heap ∧ ∀ v, r = some v → gj_okv v
/-- a method's contract: from this heap it ends, with Q -/
def gj_C (G : gj_G) (l : Launch) (d mc ms : Nat) (y : MethodName) (cc : ByteArray) (nL : Nat) (ret : Option FieldType) (av : List gj_V) (S : gj_S) (M : gj_M) (Q : Option gj_V → gj_S → gj_M → Prop) : Prop :=
  Met l y (gj_ws y cc nL ret) { frames := d, cells := mc, slots := ms, locals := 64 * d } (gj_Pc G av S M) (gj_Qc G Q) mc ms (fun q => gj_base G ≤ q)
def gj_ar : Nat → List gj_V → List (Nat × gj_V)
  | _, [] => []
  | i, v :: vs => (i, v) :: gj_ar (if gj_two v = true then i + 2 else i + 1) vs
theorem gj_ar_lv (G : gj_G) : ∀ (i : Nat) (av : List gj_V), lv_args i (av.map (gj_v G)) = gj_lv G (gj_ar i av)
  | _, [] => rfl
  | i, v :: vs => by
    show (i, gj_v G v) :: lv_args (if (gj_v G v).category = 2 then i + 2 else i + 1) (vs.map (gj_v G)) = (i, gj_v G v) :: gj_lv G (gj_ar (if gj_two v = true then i + 2 else i + 1) vs)
    rw [← gj_cat G v]
    by_cases h : (gj_v G v).category = 2
    · rw [if_pos h, if_pos (by rw [h]; rfl), gj_ar_lv G]
    · rw [if_neg h, if_neg (by simpa using h), gj_ar_lv G]
theorem gj_ar_ok : ∀ (i : Nat) (av : List gj_V), (∀ v ∈ av, gj_okv v) → ∀ q ∈ gj_ar i av, gj_okv q.2
  | _, [], _ => fun q hq => by cases hq
  | i, v :: vs, h => fun q hq => by
    rcases List.mem_cons.mp hq with rfl | hq
    · exact h v List.mem_cons_self
    · exact gj_ar_ok _ vs (fun w hw => h w (List.mem_cons_of_mem _ hw)) q hq
set_option maxHeartbeats 1000000 in
theorem gj_C.of {G : gj_G} {l : Launch} {d mc ms : Nat} {y : MethodName} {cc : ByteArray} {nL : Nat} {ret : Option FieldType} {av : List gj_V} {S : gj_S} {M : gj_M} {Q : Option gj_V → gj_S → gj_M → Prop}
    (hy : plainName y.cls = true) (hn : ∀ G, (lg_sl (av.map (gj_v G))).length ≤ nL) (hW : gj_W G l d mc ms y cc nL ret Q 0 0 0 (gj_ar 0 av) [] S M) : gj_C G l d mc ms y cc nL ret av S M Q := by
  refine Met.ofW (cc := cc) (maxL := nL) (ret := ret) hy rfl ?_
  intro p e s m args below meth c s₁ B hml hv
  obtain ⟨rfl, hK, hR, hok⟩ := hv
  have hts := atoms_spec (ws := gj_ws y cc nL ret) B.pre
  have hown : s.vm.findClass y.cls = some m.cls := findClass_of_methodNamed B.named
  have hl := lv_entry (av.map (gj_v G)) (n := nL) (hn G)
  rw [lg_entry_eq]
  rw [gj_ar_lv] at hl
  refine hW p e _ s m _ below meth c s.heap [] _ _ ⟨B.exec, B.bytes, B.returns, hml, hown, fun w h => hts w (List.mem_cons_of_mem _ h), B.notSynchronized, hK, Nat.le_refl _, Nat.le_refl _, rfl, rfl, (name_of_methodNamed B.named B.method).1⟩ ?_ hR (fun q hq => by cases hq) hl ⟨gj_ar_ok 0 av hok, fun v hv => by cases hv⟩ (Nat.zero_le _) (Nat.zero_le _)
  intro H locs k n pc lsm v S' M' hq hR' hloc hk hn' hvo hrt
  refine W.widen hk hn' ?_
  have hlocks := B.notSynchronized
  have fin : ∀ t : State, t.heap = H → s.WarmedH t.vm → gj_Qc G Q (av.map (gj_v G)).toArray s (.returned (v.map (gj_v G))) t := fun t ht _ => ⟨v, S', M', rfl, hq, by rw [ht]; exact hR', hvo⟩
  rcases v with _ | v
  · obtain ⟨h1, h2⟩ := hrt
    exact W.vret B.exec B.bytes (by rw [B.returns]; exact h2) fin hloc h1 hlocks
  · rcases v with x | x | x
    · obtain ⟨h1, ty, h2, h3⟩ := hrt
      exact W.zret B.exec B.bytes (by rw [B.returns]; exact h2) h3 fin hloc h1 hlocks
    · obtain ⟨h1, h2⟩ := hrt
      exact W.lret B.exec B.bytes (by rw [B.returns]; exact h2) fin hloc h1 hlocks
    · obtain ⟨h1, nm, h2⟩ := hrt
      refine W.aret B.exec B.bytes (by rw [B.returns]; exact h2) (Or.inl ⟨nm, rfl⟩) ?_ fin hloc h1 hlocks
      show gj_rv G x = .null ∨ ∃ a, gj_rv G x = .ref a
      unfold gj_rv gj_ro
      split
      · exact Or.inl rfl
      · exact Or.inr ⟨_, rfl⟩
end
section
/-! OWN LAYER, second half: a rule an instruction -/
section GJ
variable {G : gj_G} {l : Launch} {d mc ms : Nat} {y : MethodName} {cc : ByteArray} {nL : Nat} {ret : Option FieldType} {Q : Option gj_V → gj_S → gj_M → Prop} {k n pc q : Nat} {ls : List (Nat × gj_V)} {st st' : List gj_V} {S : gj_S} {M : gj_M}
/-- a step that moves the stack alone -/
theorem gj_op (h : ∀ (p : Program) (e : Env) (R : Room) (s : State) (m : MethodId) (args : Array Value) (below : List Frame) (meth : Method) (c : Code) (H : Heap) (locs : List Loc) (lsm : Array Slot) (Z : State → Prop), p.tables.exec = Jvm.exec → c.code = cc → s.vm.findClass y.cls = some m.cls → (∀ w ∈ gj_TB, w.before args s = true) → gj_K G s → lv_has lsm nL (gj_lv G ls) → gj_oks ls st →
      W p l e R s m args below meth c H locs k n Z (F0 m q lsm (st'.map (gj_v G))) → W p l e R s m args below meth c H locs k n Z (F0 m pc lsm (st.map (gj_v G))))
    (hok : gj_oks ls st → gj_oks ls st') (K : gj_W G l d mc ms y cc nL ret Q k n q ls st' S M) : gj_W G l d mc ms y cc nL ret Q k n pc ls st S M := by
  intro p e R s m args below meth c H locs lsm Z X hZ hR hlc hl ho hk hn
  exact h p e R s m args below meth c H locs lsm Z X.1 X.2.1 X.2.2.2.2.1 X.2.2.2.2.2.1 X.2.2.2.2.2.2.2.1 hl ho (K p e R s m args below meth c H locs lsm Z X hZ hR hlc hl (hok ho) hk hn)
/-- whatever is on the stack and in the locals is in its range -/
theorem gj_rng (K : gj_oks ls st → gj_okm S M → gj_okS S → gj_W G l d mc ms y cc nL ret Q k n pc ls st S M) : gj_W G l d mc ms y cc nL ret Q k n pc ls st S M := by
  intro p e R s m args below meth c H locs lsm Z X hZ hR hlc hl ho hk hn
  exact K ho hR.2.2.2.2 hR.2.2.2.1 p e R s m args below meth c H locs lsm Z X hZ hR hlc hl ho hk hn
/-- fewer locals -/
def gj_has (ls : List (Nat × gj_V)) : List (Nat × gj_V) → Prop
  | [] => True
  | q :: r => gj_lk ls q.1 = some q.2 ∧ gj_has ls r
theorem gj_has_mem {ls ls' : List (Nat × gj_V)} (h : gj_has ls ls') : ∀ q ∈ ls', gj_lk ls q.1 = some q.2 := by
  induction ls' with
  | nil => intro q hq; cases hq
  | cons a r ih =>
    intro q hq
    rcases List.mem_cons.mp hq with rfl | hq
    · exact h.1
    · exact ih h.2 q hq
theorem gj_sub (ls' : List (Nat × gj_V)) (h : gj_has ls ls') (K : gj_W G l d mc ms y cc nL ret Q k n pc ls' st S M) : gj_W G l d mc ms y cc nL ret Q k n pc ls st S M := by
  intro p e R s m args below meth c H locs lsm Z X hZ hR hlc hl ho hk hn
  refine K p e R s m args below meth c H locs lsm Z X hZ hR hlc ⟨hl.1, hl.2.1, fun q hq => ?_⟩ ⟨fun q hq => ?_, ho.2⟩ hk hn
  · obtain ⟨w, hw, rfl⟩ := List.mem_map.mp hq
    exact gj_lk_at hl (gj_has_mem h w hw)
  · exact ho.lk (gj_has_mem h q hq)
theorem gj_pI {z : Int} (h : gj_oks ls st) (hz : gj_i32 z) : gj_oks ls (jI z :: st) := h.push (v := jI z) hz (fun _ hw => hw)
theorem gj_pL {z : Int} (h : gj_oks ls st) (hz : gj_i64 z) : gj_oks ls (jL z :: st) := h.push (v := jL z) hz (fun _ hw => hw)
theorem gj_pR {z : Int} (h : gj_oks ls st) : gj_oks ls (jR z :: st) := h.push (v := jR z) trivial (fun _ hw => hw)
theorem gj_2I {a b : gj_V} {x : Int} (hv : gj_i32 x) (h : gj_oks ls (b :: a :: st)) : gj_oks ls (jI x :: st) := h.push (v := jI x) hv (fun _ hw => List.mem_cons_of_mem _ (List.mem_cons_of_mem _ hw))
theorem gj_2L {a b : gj_V} {x : Int} (hv : gj_i64 x) (h : gj_oks ls (b :: a :: st)) : gj_oks ls (jL x :: st) := h.push (v := jL x) hv (fun _ hw => List.mem_cons_of_mem _ (List.mem_cons_of_mem _ hw))
theorem gj_1I {a : gj_V} {x : Int} (hv : gj_i32 x) (h : gj_oks ls (a :: st)) : gj_oks ls (jI x :: st) := h.push (v := jI x) hv (fun _ hw => List.mem_cons_of_mem _ hw)
theorem gj_1L {a : gj_V} {x : Int} (hv : gj_i64 x) (h : gj_oks ls (a :: st)) : gj_oks ls (jL x :: st) := h.push (v := jL x) hv (fun _ hw => List.mem_cons_of_mem _ hw)
-- constants
theorem gj_iconst {z : Int} (hd : decode cc pc = .ok (.iconst z, 1)) (hz : gj_i32 z) (hq : pc + 1 = q) (K : gj_W G l d mc ms y cc nL ret Q k n q ls (jI z :: st) S M) : gj_W G l d mc ms y cc nL ret Q k n pc ls st S M := by
  subst hq
  exact gj_op (fun p e R s m args below meth c H locs lsm Z hx hb hown hts hK hl ho k => lv_iconst hx hb hd rfl k) (fun h => gj_pI h hz) K
theorem gj_bipush {z : Int} (hd : decode cc pc = .ok (.bipush z, 2)) (hz : gj_i32 z) (he : (Int8.ofInt z).toInt32 = Int32.ofInt z) (hq : pc + 2 = q) (K : gj_W G l d mc ms y cc nL ret Q k n q ls (jI z :: st) S M) : gj_W G l d mc ms y cc nL ret Q k n pc ls st S M := by
  subst hq
  exact gj_op (fun p e R s m args below meth c H locs lsm Z hx hb hown hts hK hl ho k => lv_bipush hx hb hd he k) (fun h => gj_pI h hz) K
theorem gj_sipush {z : Int} (hd : decode cc pc = .ok (.sipush z, 3)) (hz : gj_i32 z) (he : (Int16.ofInt z).toInt32 = Int32.ofInt z) (hq : pc + 3 = q) (K : gj_W G l d mc ms y cc nL ret Q k n q ls (jI z :: st) S M) : gj_W G l d mc ms y cc nL ret Q k n pc ls st S M := by
  subst hq
  exact gj_op (fun p e R s m args below meth c H locs lsm Z hx hb hown hts hK hl ho k => lv_sipush hx hb hd he k) (fun h => gj_pI h hz) K
theorem gj_lconst {i : Fin 2} {z : Int} (hd : decode cc pc = .ok (.lconst i, 1)) (he : Int64.ofNat (i : Nat) = Int64.ofInt z) (hz : gj_i64 z) (hq : pc + 1 = q) (K : gj_W G l d mc ms y cc nL ret Q k n q ls (jL z :: st) S M) : gj_W G l d mc ms y cc nL ret Q k n pc ls st S M := by
  subst hq
  exact gj_op (fun p e R s m args below meth c H locs lsm Z hx hb hown hts hK hl ho k => lv_lconst hx hb hd he k) (fun h => gj_pL h hz) K
theorem gj_ldc {i : Nat} {z : Int} (hd : decode cc pc = .ok (.ldc i, 2)) (hw : Cond.constant y.cls i (Int32.ofInt z) ∈ gj_TB) (hz : gj_i32 z) (hq : pc + 2 = q) (K : gj_W G l d mc ms y cc nL ret Q k n q ls (jI z :: st) S M) : gj_W G l d mc ms y cc nL ret Q k n pc ls st S M := by
  subst hq
  exact gj_op (fun p e R s m args below meth c H locs lsm Z hx hb hown hts hK hl ho k => lv_ldc hx hb hown (hts _ hw) hd k) (fun h => gj_pI h hz) K
theorem gj_ldcw {i : Nat} {z : Int} (hd : decode cc pc = .ok (.ldc_w i, 3)) (hw : Cond.constant y.cls i (Int32.ofInt z) ∈ gj_TB) (hz : gj_i32 z) (hq : pc + 3 = q) (K : gj_W G l d mc ms y cc nL ret Q k n q ls (jI z :: st) S M) : gj_W G l d mc ms y cc nL ret Q k n pc ls st S M := by
  subst hq
  exact gj_op (fun p e R s m args below meth c H locs lsm Z hx hb hown hts hK hl ho k => lv_ldcw hx hb hown (hts _ hw) hd k) (fun h => gj_pI h hz) K
theorem gj_ldc2 {i : Nat} {z : Int} (hd : decode cc pc = .ok (.ldc2_w i, 3)) (hw : Cond.constantLong y.cls i (Int64.ofInt z) ∈ gj_TB) (hz : gj_i64 z) (hq : pc + 3 = q) (K : gj_W G l d mc ms y cc nL ret Q k n q ls (jL z :: st) S M) : gj_W G l d mc ms y cc nL ret Q k n pc ls st S M := by
  subst hq
  exact gj_op (fun p e R s m args below meth c H locs lsm Z hx hb hown hts hK hl ho k => lv_ldc2 hx hb hown (hts _ hw) hd k) (fun h => gj_pL h hz) K
theorem gj_null (hd : decode cc pc = .ok (.aconst_null, 1)) (hq : pc + 1 = q) (K : gj_W G l d mc ms y cc nL ret Q k n q ls (jR (-1) :: st) S M) : gj_W G l d mc ms y cc nL ret Q k n pc ls st S M := by
  subst hq
  exact gj_op (fun p e R s m args below meth c H locs lsm Z hx hb hown hts hK hl ho k => lv_null hx hb hd k) (fun h => gj_pR h) K
theorem gj_ldc6 {i : Nat} (j : Nat) (hd : decode cc pc = .ok (.ldc i, 2)) (hy : y.cls = RX6) (hj : j < 9) (hi : gj_s6.getD j 0 = i) (hq : pc + 2 = q) {z : Int} (hz : -2 - (j : Int) = z) (K : gj_W G l d mc ms y cc nL ret Q k n q ls (jR z :: st) S M) : gj_W G l d mc ms y cc nL ret Q k n pc ls st S M := by
  subst hq
  subst hi
  subst hz
  refine gj_op (fun p e R s m args below meth c H locs lsm Z hx hb hown hts hK hl ho k => va_ldcS hx hb hown (tx := gj_st.getD j "") (q := gj_aK G j) (by rw [hy]; exact (hK.2.1 j hj).1) hd ?_) (fun h => gj_pR h) K
  have e1 : gj_v G (jR (-2 - (j : Int))) = .ref (gj_aK G j) := by
    show gj_rv G _ = _
    unfold gj_rv gj_ro gj_ad
    rw [if_neg (by omega), if_neg (by omega), if_neg (by omega), if_neg (by omega), if_neg (by omega)]
    show Value.ref _ = _
    congr 2
    omega
  rw [List.map_cons, e1] at k
  exact k
theorem gj_ldc12 {i : Nat} (j : Nat) (hd : decode cc pc = .ok (.ldc i, 2)) (hy : y.cls = RX12) (hj : j < 9) (hi : gj_s12.getD j 0 = i) (hq : pc + 2 = q) {z : Int} (hz : -2 - (j : Int) = z) (K : gj_W G l d mc ms y cc nL ret Q k n q ls (jR z :: st) S M) : gj_W G l d mc ms y cc nL ret Q k n pc ls st S M := by
  subst hq
  subst hi
  subst hz
  refine gj_op (fun p e R s m args below meth c H locs lsm Z hx hb hown hts hK hl ho k => va_ldcS hx hb hown (tx := gj_st.getD j "") (q := gj_aK G j) (by rw [hy]; exact (hK.2.1 j hj).2) hd ?_) (fun h => gj_pR h) K
  have e1 : gj_v G (jR (-2 - (j : Int))) = .ref (gj_aK G j) := by
    show gj_rv G _ = _
    unfold gj_rv gj_ro gj_ad
    rw [if_neg (by omega), if_neg (by omega), if_neg (by omega), if_neg (by omega), if_neg (by omega)]
    show Value.ref _ = _
    congr 2
    omega
  rw [List.map_cons, e1] at k
  exact k
-- loads
theorem gj_iload_n {i : Fin 4} {x : Int} (hd : decode cc pc = .ok (.iload_n i, 1)) (hv : gj_lk ls (i : Nat) = some (jI x)) (hq : pc + 1 = q) (K : gj_W G l d mc ms y cc nL ret Q k n q ls (jI x :: st) S M) : gj_W G l d mc ms y cc nL ret Q k n pc ls st S M := by
  subst hq
  exact gj_op (fun p e R s m args below meth c H locs lsm Z hx hb hown hts hK hl ho k => lv_iload_n hx hb hd rfl (gj_lk_at hl hv) k) (fun h => gj_pI h (h.lk hv)) K
theorem gj_iload {i : Nat} {x : Int} (hd : decode cc pc = .ok (.iload i, 2)) (hv : gj_lk ls i = some (jI x)) (hq : pc + 2 = q) (K : gj_W G l d mc ms y cc nL ret Q k n q ls (jI x :: st) S M) : gj_W G l d mc ms y cc nL ret Q k n pc ls st S M := by
  subst hq
  exact gj_op (fun p e R s m args below meth c H locs lsm Z hx hb hown hts hK hl ho k => lv_iload hx hb hd (gj_lk_at hl hv) k) (fun h => gj_pI h (h.lk hv)) K
theorem gj_lload_n {i : Fin 4} {x : Int} (hd : decode cc pc = .ok (.lload_n i, 1)) (hv : gj_lk ls (i : Nat) = some (jL x)) (hq : pc + 1 = q) (K : gj_W G l d mc ms y cc nL ret Q k n q ls (jL x :: st) S M) : gj_W G l d mc ms y cc nL ret Q k n pc ls st S M := by
  subst hq
  exact gj_op (fun p e R s m args below meth c H locs lsm Z hx hb hown hts hK hl ho k => lv_lload_n hx hb hd rfl (gj_lk_at hl hv) k) (fun h => gj_pL h (h.lk hv)) K
theorem gj_lload {i : Nat} {x : Int} (hd : decode cc pc = .ok (.lload i, 2)) (hv : gj_lk ls i = some (jL x)) (hq : pc + 2 = q) (K : gj_W G l d mc ms y cc nL ret Q k n q ls (jL x :: st) S M) : gj_W G l d mc ms y cc nL ret Q k n pc ls st S M := by
  subst hq
  exact gj_op (fun p e R s m args below meth c H locs lsm Z hx hb hown hts hK hl ho k => lv_lload hx hb hd (gj_lk_at hl hv) k) (fun h => gj_pL h (h.lk hv)) K
theorem gj_aload_n {i : Fin 4} {x : Int} (hd : decode cc pc = .ok (.aload_n i, 1)) (hv : gj_lk ls (i : Nat) = some (jR x)) (hq : pc + 1 = q) (K : gj_W G l d mc ms y cc nL ret Q k n q ls (jR x :: st) S M) : gj_W G l d mc ms y cc nL ret Q k n pc ls st S M := by
  subst hq
  refine gj_op (fun p e R s m args below meth c H locs lsm Z hx hb hown hts hK hl ho k => ?_) (fun h => gj_pR h) K
  have h1 := gj_lk_at hl hv
  change lsm[(i : Nat)]? = some (.val (gj_rv G x)) at h1
  rw [List.map_cons] at k
  change W p l e R s m args below meth c H locs _ _ Z (F0 m (pc + 1) lsm (gj_rv G x :: st.map (gj_v G))) at k
  unfold gj_rv at h1 k
  cases ho2 : gj_ro G x with
  | none => rw [ho2] at h1 k; exact lv_aload_nN hx hb hd rfl h1 k
  | some a => rw [ho2] at h1 k; exact lv_aload_n hx hb hd rfl h1 k
theorem gj_aload {i : Nat} {x : Int} (hd : decode cc pc = .ok (.aload i, 2)) (hv : gj_lk ls i = some (jR x)) (hq : pc + 2 = q) (K : gj_W G l d mc ms y cc nL ret Q k n q ls (jR x :: st) S M) : gj_W G l d mc ms y cc nL ret Q k n pc ls st S M := by
  subst hq
  refine gj_op (fun p e R s m args below meth c H locs lsm Z hx hb hown hts hK hl ho k => ?_) (fun h => gj_pR h) K
  have h1 := gj_lk_at hl hv
  change lsm[i]? = some (.val (gj_rv G x)) at h1
  rw [List.map_cons] at k
  change W p l e R s m args below meth c H locs _ _ Z (F0 m (pc + 2) lsm (gj_rv G x :: st.map (gj_v G))) at k
  unfold gj_rv at h1 k
  cases ho2 : gj_ro G x with
  | none => rw [ho2] at h1 k; exact lv_aloadN hx hb hd h1 k
  | some a => rw [ho2] at h1 k; exact lv_aload hx hb hd h1 k
-- stores
theorem gj_sto {i : Nat} {v : gj_V} {ls' : List (Nat × gj_V)} (h : ∀ (p : Program) (e : Env) (R : Room) (s : State) (m : MethodId) (args : Array Value) (below : List Frame) (meth : Method) (c : Code) (H : Heap) (locs : List Loc) (lsm : Array Slot) (Z : State → Prop), p.tables.exec = Jvm.exec → c.code = cc → lv_has lsm nL (gj_lv G ls) →
      (∀ lsm', lv_has lsm' nL (gj_lv G ls') → W p l e R s m args below meth c H locs k n Z (F0 m q lsm' (st.map (gj_v G)))) → W p l e R s m args below meth c H locs k n Z (F0 m pc lsm ((v :: st).map (gj_v G))))
    (hok : gj_oks ls (v :: st) → gj_oks ls' st) (K : gj_W G l d mc ms y cc nL ret Q k n q ls' st S M) : gj_W G l d mc ms y cc nL ret Q k n pc ls (v :: st) S M := by
  intro p e R s m args below meth c H locs lsm Z X hZ hR hlc hl ho hk hn
  exact h p e R s m args below meth c H locs lsm Z X.1 X.2.1 hl (fun lsm' hl' => K p e R s m args below meth c H locs lsm' Z X hZ hR hlc hl' (hok ho) hk hn)
theorem gj_istore_n {i : Fin 4} {x : Int} (hd : decode cc pc = .ok (.istore_n i, 1)) (hn : (i : Nat) < nL) (hq : pc + 1 = q) (K : gj_W G l d mc ms y cc nL ret Q k n q (gj_s1 ls (i : Nat) (jI x)) st S M) : gj_W G l d mc ms y cc nL ret Q k n pc ls (jI x :: st) S M := by
  subst hq
  exact gj_sto (i := i) (fun p e R s m args below meth c H locs lsm Z hx hb hl kk => lv_istore_n hx hb hd rfl hl hn (gj_lv_s1 G ls i (jI x)) kk) (fun h => h.s1 (h.2 _ List.mem_cons_self) (fun w hw => List.mem_cons_of_mem _ hw)) K
theorem gj_istore {i : Nat} {x : Int} (hd : decode cc pc = .ok (.istore i, 2)) (hn : i < nL) (hq : pc + 2 = q) (K : gj_W G l d mc ms y cc nL ret Q k n q (gj_s1 ls i (jI x)) st S M) : gj_W G l d mc ms y cc nL ret Q k n pc ls (jI x :: st) S M := by
  subst hq
  exact gj_sto (i := i) (fun p e R s m args below meth c H locs lsm Z hx hb hl kk => lv_istore hx hb hd hl hn (gj_lv_s1 G ls i (jI x)) kk) (fun h => h.s1 (h.2 _ List.mem_cons_self) (fun w hw => List.mem_cons_of_mem _ hw)) K
theorem gj_lstore_n {i : Fin 4} {x : Int} (hd : decode cc pc = .ok (.lstore_n i, 1)) (hn : (i : Nat) + 1 < nL) (hq : pc + 1 = q) (K : gj_W G l d mc ms y cc nL ret Q k n q (gj_s2 ls (i : Nat) (jL x)) st S M) : gj_W G l d mc ms y cc nL ret Q k n pc ls (jL x :: st) S M := by
  subst hq
  exact gj_sto (i := i) (fun p e R s m args below meth c H locs lsm Z hx hb hl kk => lv_lstore_n hx hb hd rfl hl hn (gj_lv_s2 G ls i (jL x)) kk) (fun h => h.s2 (h.2 _ List.mem_cons_self) (fun w hw => List.mem_cons_of_mem _ hw)) K
theorem gj_lstore {i : Nat} {x : Int} (hd : decode cc pc = .ok (.lstore i, 2)) (hn : i + 1 < nL) (hq : pc + 2 = q) (K : gj_W G l d mc ms y cc nL ret Q k n q (gj_s2 ls i (jL x)) st S M) : gj_W G l d mc ms y cc nL ret Q k n pc ls (jL x :: st) S M := by
  subst hq
  exact gj_sto (i := i) (fun p e R s m args below meth c H locs lsm Z hx hb hl kk => lv_lstore hx hb hd hl hn (gj_lv_s2 G ls i (jL x)) kk) (fun h => h.s2 (h.2 _ List.mem_cons_self) (fun w hw => List.mem_cons_of_mem _ hw)) K
theorem gj_astore_n {i : Fin 4} {x : Int} (hd : decode cc pc = .ok (.astore_n i, 1)) (hn : (i : Nat) < nL) (hq : pc + 1 = q) (K : gj_W G l d mc ms y cc nL ret Q k n q (gj_s1 ls (i : Nat) (jR x)) st S M) : gj_W G l d mc ms y cc nL ret Q k n pc ls (jR x :: st) S M := by
  subst hq
  refine gj_sto (i := i) (fun p e R s m args below meth c H locs lsm Z hx hb hl kk => ?_) (fun h => h.s1 (h.2 _ List.mem_cons_self) (fun w hw => List.mem_cons_of_mem _ hw)) K
  have h1 := gj_lv_s1 G ls i (jR x)
  change (_, gj_rv G x) :: _ = _ at h1
  show W p l e R s m args below meth c H locs _ _ Z (F0 m pc lsm (gj_rv G x :: st.map (gj_v G)))
  unfold gj_rv at h1 ⊢
  cases ho2 : gj_ro G x with
  | none => rw [ho2] at h1; exact lv_astore_nN hx hb hd rfl hl hn h1 kk
  | some a => rw [ho2] at h1; exact lv_astore_n hx hb hd rfl hl hn h1 kk
theorem gj_astore {i : Nat} {x : Int} (hd : decode cc pc = .ok (.astore i, 2)) (hn : i < nL) (hq : pc + 2 = q) (K : gj_W G l d mc ms y cc nL ret Q k n q (gj_s1 ls i (jR x)) st S M) : gj_W G l d mc ms y cc nL ret Q k n pc ls (jR x :: st) S M := by
  subst hq
  refine gj_sto (i := i) (fun p e R s m args below meth c H locs lsm Z hx hb hl kk => ?_) (fun h => h.s1 (h.2 _ List.mem_cons_self) (fun w hw => List.mem_cons_of_mem _ hw)) K
  have h1 := gj_lv_s1 G ls i (jR x)
  change (_, gj_rv G x) :: _ = _ at h1
  show W p l e R s m args below meth c H locs _ _ Z (F0 m pc lsm (gj_rv G x :: st.map (gj_v G)))
  unfold gj_rv at h1 ⊢
  cases ho2 : gj_ro G x with
  | none => rw [ho2] at h1; exact lv_astoreN hx hb hd hl hn h1 kk
  | some a => rw [ho2] at h1; exact lv_astore hx hb hd hl hn h1 kk
theorem gj_iinc {i : Nat} {z x v : Int} (hd : decode cc pc = .ok (.iinc i z, 3)) (hv : gj_lk ls i = some (jI x)) (hn : i < nL) (he : gj_w (x + z) = v) (hq : pc + 3 = q) (K : gj_W G l d mc ms y cc nL ret Q k n q (gj_s1 ls i (jI v)) st S M) : gj_W G l d mc ms y cc nL ret Q k n pc ls st S M := by
  subst hq
  subst he
  intro p e R s m args below meth c H locs lsm Z X hZ hR hlc hl ho hk hn2
  obtain ⟨j, hj⟩ := List.mem_iff_getElem?.mp (gj_lk_mem hv)
  have hj2 : (gj_lv G ls)[j]? = some (i, .int (Int32.ofInt x)) := by
    unfold gj_lv
    rw [List.getElem?_map, hj]
    rfl
  have hok := ho.s1 (i := i) (v := jI (gj_w (x + z))) (gj_w_ok _) (fun w hw => hw)
  refine lv_iinc (v := Int32.ofInt (gj_w (x + z))) X.1 X.2.1 hd hl hj2 (by rw [gj_ofw, Int32.ofInt_add]) hn (gj_lv_s1 G ls i (jI (gj_w (x + z)))) (fun lsm' hl' => ?_)
  exact K p e R s m args below meth c H locs lsm' Z X hZ hR hlc hl' hok hk hn2
-- arithmetic
theorem gj_oks2 {a b v : gj_V} (hv : gj_okv v) (h : gj_oks ls (b :: a :: st)) : gj_oks ls (v :: st) := h.push hv (fun w hw => List.mem_cons_of_mem _ (List.mem_cons_of_mem _ hw))
theorem gj_oks1 {a v : gj_V} (hv : gj_okv v) (h : gj_oks ls (a :: st)) : gj_oks ls (v :: st) := h.push hv (fun w hw => List.mem_cons_of_mem _ hw)
theorem gj_iadd {a b : Int} (hd : decode cc pc = .ok (.iadd, 1)) (hq : pc + 1 = q) (K : gj_W G l d mc ms y cc nL ret Q k n q ls (jI (gj_w (a + b)) :: st) S M) : gj_W G l d mc ms y cc nL ret Q k n pc ls (jI b :: jI a :: st) S M := by
  subst hq
  refine gj_op (fun p e R s m args below meth c H locs lsm Z hx hb hown hts hK hl ho k => lv_iadd hx hb hd ?_) (gj_2I (gj_w_ok _)) K
  rw [← Int32.ofInt_add, ← gj_ofw]
  exact k
theorem gj_isub {a b : Int} (hd : decode cc pc = .ok (.isub, 1)) (hq : pc + 1 = q) (K : gj_W G l d mc ms y cc nL ret Q k n q ls (jI (gj_w (a - b)) :: st) S M) : gj_W G l d mc ms y cc nL ret Q k n pc ls (jI b :: jI a :: st) S M := by
  subst hq
  refine gj_op (fun p e R s m args below meth c H locs lsm Z hx hb hown hts hK hl ho k => lv_isub hx hb hd ?_) (gj_2I (gj_w_ok _)) K
  rw [← Int32.ofInt_sub, ← gj_ofw]
  exact k
theorem gj_imul {a b : Int} (hd : decode cc pc = .ok (.imul, 1)) (hq : pc + 1 = q) (K : gj_W G l d mc ms y cc nL ret Q k n q ls (jI (gj_w (a * b)) :: st) S M) : gj_W G l d mc ms y cc nL ret Q k n pc ls (jI b :: jI a :: st) S M := by
  subst hq
  refine gj_op (fun p e R s m args below meth c H locs lsm Z hx hb hown hts hK hl ho k => lv_imul hx hb hd ?_) (gj_2I (gj_w_ok _)) K
  rw [← Int32.ofInt_mul, ← gj_ofw]
  exact k
theorem gj_ineg {a : Int} (hd : decode cc pc = .ok (.ineg, 1)) (hq : pc + 1 = q) (K : gj_W G l d mc ms y cc nL ret Q k n q ls (jI (gj_w (-a)) :: st) S M) : gj_W G l d mc ms y cc nL ret Q k n pc ls (jI a :: st) S M := by
  subst hq
  refine gj_op (fun p e R s m args below meth c H locs lsm Z hx hb hown hts hK hl ho k => lv_ineg hx hb hd ?_) (gj_1I (gj_w_ok _)) K
  rw [← Int32.ofInt_neg, ← gj_ofw]
  exact k
theorem gj_o1 {a : Int} {b : gj_V} (h : gj_oks ls (b :: jI a :: st)) : gj_i32 a := h.2 (jI a) (List.mem_cons_of_mem _ List.mem_cons_self)
theorem gj_o0 {b : Int} (h : gj_oks ls (jI b :: st)) : gj_i32 b := h.2 (jI b) List.mem_cons_self
theorem gj_O1 {a : Int} {b : gj_V} (h : gj_oks ls (b :: jL a :: st)) : gj_i64 a := h.2 (jL a) (List.mem_cons_of_mem _ List.mem_cons_self)
theorem gj_O0 {b : Int} (h : gj_oks ls (jL b :: st)) : gj_i64 b := h.2 (jL b) List.mem_cons_self
theorem gj_idiv {a b : Int} (hd : decode cc pc = .ok (.idiv, 1)) (hb0 : b ≠ 0) (hq : pc + 1 = q) (K : gj_W G l d mc ms y cc nL ret Q k n q ls (jI (gj_w (a.tdiv b)) :: st) S M) : gj_W G l d mc ms y cc nL ret Q k n pc ls (jI b :: jI a :: st) S M := by
  subst hq
  refine gj_op (fun p e R s m args below meth c H locs lsm Z hx hb hown hts hK hl ho k => lv_idiv hx hb hd (fun h => hb0 ((gj_injI (gj_o0 ho) gj_z32).mp (h.trans gj_0I.symm))) ?_) (gj_2I (gj_w_ok _)) K
  rw [gj_divI (gj_o1 ho) (gj_o0 ho)]
  exact k
theorem gj_irem {a b : Int} (hd : decode cc pc = .ok (.irem, 1)) (hb0 : b ≠ 0) (hq : pc + 1 = q) (K : gj_W G l d mc ms y cc nL ret Q k n q ls (jI (a.tmod b) :: st) S M) : gj_W G l d mc ms y cc nL ret Q k n pc ls (jI b :: jI a :: st) S M := by
  subst hq
  refine gj_op (fun p e R s m args below meth c H locs lsm Z hx hb hown hts hK hl ho k => lv_irem hx hb hd (fun h => hb0 ((gj_injI (gj_o0 ho) gj_z32).mp (h.trans gj_0I.symm))) ?_) (fun h => gj_2I (gj_tmod_ok (gj_o1 h)) h) K
  rw [gj_remI (gj_o1 ho) (gj_o0 ho)]
  exact k
theorem gj_iand {a b : Int} (hd : decode cc pc = .ok (.iand, 1)) (hq : pc + 1 = q) (K : gj_W G l d mc ms y cc nL ret Q k n q ls (jI (gj_and a b) :: st) S M) : gj_W G l d mc ms y cc nL ret Q k n pc ls (jI b :: jI a :: st) S M := by
  subst hq
  refine gj_op (fun p e R s m args below meth c H locs lsm Z hx hb hown hts hK hl ho k => lv_iand hx hb hd ?_) (gj_2I (gj_rI _)) K
  rw [← Int32.ofInt_toInt (Int32.ofInt a &&& Int32.ofInt b)]
  exact k
theorem gj_ior {a b : Int} (hd : decode cc pc = .ok (.ior, 1)) (hq : pc + 1 = q) (K : gj_W G l d mc ms y cc nL ret Q k n q ls (jI (gj_or a b) :: st) S M) : gj_W G l d mc ms y cc nL ret Q k n pc ls (jI b :: jI a :: st) S M := by
  subst hq
  refine gj_op (fun p e R s m args below meth c H locs lsm Z hx hb hown hts hK hl ho k => lv_ior hx hb hd ?_) (gj_2I (gj_rI _)) K
  rw [← Int32.ofInt_toInt (Int32.ofInt a ||| Int32.ofInt b)]
  exact k
theorem gj_iushr {a b : Int} (hd : decode cc pc = .ok (.iushr, 1)) (hq : pc + 1 = q) (K : gj_W G l d mc ms y cc nL ret Q k n q ls (jI (gj_ushr a b) :: st) S M) : gj_W G l d mc ms y cc nL ret Q k n pc ls (jI b :: jI a :: st) S M := by
  subst hq
  refine gj_op (fun p e R s m args below meth c H locs lsm Z hx hb hown hts hK hl ho k => lv_iushr hx hb hd (v := Int32.ofInt (gj_ushr a b)) ?_ k) (gj_2I (gj_rI _)) K
  exact (Int32.ofInt_toInt _).symm
theorem gj_ladd {a b : Int} (hd : decode cc pc = .ok (.ladd, 1)) (hq : pc + 1 = q) (K : gj_W G l d mc ms y cc nL ret Q k n q ls (jL (gj_wl (a + b)) :: st) S M) : gj_W G l d mc ms y cc nL ret Q k n pc ls (jL b :: jL a :: st) S M := by
  subst hq
  refine gj_op (fun p e R s m args below meth c H locs lsm Z hx hb hown hts hK hl ho k => lv_ladd hx hb hd ?_) (gj_2L (gj_wl_ok _)) K
  rw [← Int64.ofInt_add, ← gj_ofwl]
  exact k
theorem gj_lsub {a b : Int} (hd : decode cc pc = .ok (.lsub, 1)) (hq : pc + 1 = q) (K : gj_W G l d mc ms y cc nL ret Q k n q ls (jL (gj_wl (a - b)) :: st) S M) : gj_W G l d mc ms y cc nL ret Q k n pc ls (jL b :: jL a :: st) S M := by
  subst hq
  refine gj_op (fun p e R s m args below meth c H locs lsm Z hx hb hown hts hK hl ho k => lv_lsub hx hb hd ?_) (gj_2L (gj_wl_ok _)) K
  rw [← Int64.ofInt_sub, ← gj_ofwl]
  exact k
theorem gj_lmul {a b : Int} (hd : decode cc pc = .ok (.lmul, 1)) (hq : pc + 1 = q) (K : gj_W G l d mc ms y cc nL ret Q k n q ls (jL (gj_wl (a * b)) :: st) S M) : gj_W G l d mc ms y cc nL ret Q k n pc ls (jL b :: jL a :: st) S M := by
  subst hq
  refine gj_op (fun p e R s m args below meth c H locs lsm Z hx hb hown hts hK hl ho k => lv_lmul hx hb hd ?_) (gj_2L (gj_wl_ok _)) K
  rw [← Int64.ofInt_mul, ← gj_ofwl]
  exact k
theorem gj_z64 : gj_i64 0 := ⟨by decide, by decide⟩
theorem gj_injL {a b : Int} (ha : gj_i64 a) (hb : gj_i64 b) : Int64.ofInt a = Int64.ofInt b ↔ a = b := ⟨fun h => by rw [← gj_toL' ha, ← gj_toL' hb, h], fun h => by rw [h]⟩
theorem gj_ldiv {a b : Int} (hd : decode cc pc = .ok (.ldiv, 1)) (hb0 : b ≠ 0) (hq : pc + 1 = q) (K : gj_W G l d mc ms y cc nL ret Q k n q ls (jL (gj_wl (a.tdiv b)) :: st) S M) : gj_W G l d mc ms y cc nL ret Q k n pc ls (jL b :: jL a :: st) S M := by
  subst hq
  refine gj_op (fun p e R s m args below meth c H locs lsm Z hx hb hown hts hK hl ho k => lv_ldiv hx hb hd (fun h => hb0 ((gj_injL (gj_O0 ho) gj_z64).mp (h.trans (show (0 : Int64) = Int64.ofInt 0 from rfl)))) ?_) (gj_2L (gj_wl_ok _)) K
  rw [gj_divL (gj_O1 ho) (gj_O0 ho)]
  exact k
theorem gj_lrem {a b : Int} (hd : decode cc pc = .ok (.lrem, 1)) (hb0 : b ≠ 0) (hq : pc + 1 = q) (K : gj_W G l d mc ms y cc nL ret Q k n q ls (jL (a.tmod b) :: st) S M) : gj_W G l d mc ms y cc nL ret Q k n pc ls (jL b :: jL a :: st) S M := by
  subst hq
  refine gj_op (fun p e R s m args below meth c H locs lsm Z hx hb hown hts hK hl ho k => lv_lrem hx hb hd (fun h => hb0 ((gj_injL (gj_O0 ho) gj_z64).mp (h.trans (show (0 : Int64) = Int64.ofInt 0 from rfl)))) ?_) (fun h => gj_2L (gj_tmodl_ok (gj_O1 h)) h) K
  rw [gj_remL (gj_O1 ho) (gj_O0 ho)]
  exact k
theorem gj_landR {a b : Int} (hd : decode cc pc = .ok (.land, 1)) (hq : pc + 1 = q) (K : gj_W G l d mc ms y cc nL ret Q k n q ls (jL (gj_land a b) :: st) S M) : gj_W G l d mc ms y cc nL ret Q k n pc ls (jL b :: jL a :: st) S M := by
  subst hq
  refine gj_op (fun p e R s m args below meth c H locs lsm Z hx hb hown hts hK hl ho k => lv_land hx hb hd ?_) (gj_2L (gj_rL _)) K
  rw [← Int64.ofInt_toInt (Int64.ofInt a &&& Int64.ofInt b)]
  exact k
theorem gj_lcmp {a b : Int} (hd : decode cc pc = .ok (.lcmp, 1)) (hq : pc + 1 = q) (K : gj_W G l d mc ms y cc nL ret Q k n q ls (jI (gj_cmp a b) :: st) S M) : gj_W G l d mc ms y cc nL ret Q k n pc ls (jL b :: jL a :: st) S M := by
  subst hq
  refine gj_op (fun p e R s m args below meth c H locs lsm Z hx hb hown hts hK hl ho k => W.lcmp hx hb hd ?_) (gj_2I (gj_cmp_ok _ _)) K
  rw [gj_cmp_eq (gj_O1 ho) (gj_O0 ho)]
  exact k
theorem gj_i2l {a : Int} (hd : decode cc pc = .ok (.i2l, 1)) (hq : pc + 1 = q) (K : gj_W G l d mc ms y cc nL ret Q k n q ls (jL a :: st) S M) : gj_W G l d mc ms y cc nL ret Q k n pc ls (jI a :: st) S M := by
  subst hq
  refine gj_op (fun p e R s m args below meth c H locs lsm Z hx hb hown hts hK hl ho k => lv_i2l hx hb hd (v := Int64.ofInt a) ?_ k) (fun h => gj_1L (gj_32_64 (gj_o0 h)) h) K
  have h := gj_o0 ho
  exact Int64.toInt_inj.1 (by rw [Int32.toInt_toInt64, gj_toI' h, gj_toL' (gj_32_64 h)])
theorem gj_l2i {a : Int} (hd : decode cc pc = .ok (.l2i, 1)) (hq : pc + 1 = q) (K : gj_W G l d mc ms y cc nL ret Q k n q ls (jI (gj_w a) :: st) S M) : gj_W G l d mc ms y cc nL ret Q k n pc ls (jL a :: st) S M := by
  subst hq
  refine gj_op (fun p e R s m args below meth c H locs lsm Z hx hb hown hts hK hl ho k => lv_l2i hx hb hd (v := Int32.ofInt (gj_w a)) ?_ k) (gj_1I (gj_w_ok _)) K
  rw [gj_ofw]
  exact Int64.toInt32_ofInt
theorem gj_b8_ok (a : Int) : -128 ≤ gj_b8 a ∧ gj_b8 a < 128 := by unfold gj_b8; omega
theorem gj_b8_32 (a : Int) : gj_i32 (gj_b8 a) := by unfold gj_b8 gj_i32; omega
theorem gj_i2b {a : Int} (hd : decode cc pc = .ok (.i2b, 1)) (hq : pc + 1 = q) (K : gj_W G l d mc ms y cc nL ret Q k n q ls (jI (gj_b8 a) :: st) S M) : gj_W G l d mc ms y cc nL ret Q k n pc ls (jI a :: st) S M := by
  subst hq
  refine gj_op (fun p e R s m args below meth c H locs lsm Z hx hb hown hts hK hl ho k => lv_i2b hx hb hd (v := Int32.ofInt (gj_b8 a)) ?_ k) (gj_1I (gj_b8_32 _)) K
  refine Int32.toInt_inj.1 ?_
  rw [gj_toI' (gj_b8_32 a), Int8.toInt_toInt32, Int32.toInt_toInt8, gj_toI' (gj_o0 ho)]
  show a.bmod 256 = gj_b8 a
  unfold gj_b8
  rw [Int.bmod_def]
  split <;> omega
-- the stack
theorem gj_dup {v : gj_V} (hd : decode cc pc = .ok (.dup, 1)) (hv : gj_two v = false) (hq : pc + 1 = q) (K : gj_W G l d mc ms y cc nL ret Q k n q ls (v :: v :: st) S M) : gj_W G l d mc ms y cc nL ret Q k n pc ls (v :: st) S M := by
  subst hq
  exact gj_op (fun p e R s m args below meth c H locs lsm Z hx hb hown hts hK hl ho k => lv_dup hx hb hd (gj_cat1 G hv) k) (fun h => h.push (h.2 _ List.mem_cons_self) (fun w hw => hw)) K
theorem gj_pop {v : gj_V} (hd : decode cc pc = .ok (.pop, 1)) (hv : gj_two v = false) (hq : pc + 1 = q) (K : gj_W G l d mc ms y cc nL ret Q k n q ls st S M) : gj_W G l d mc ms y cc nL ret Q k n pc ls (v :: st) S M := by
  subst hq
  exact gj_op (fun p e R s m args below meth c H locs lsm Z hx hb hown hts hK hl ho k => lv_pop hx hb hd (gj_cat1 G hv) k) (fun h => ⟨h.1, fun w hw => h.2 w (List.mem_cons_of_mem _ hw)⟩) K
theorem gj_dup2 {v w : gj_V} (hd : decode cc pc = .ok (.dup2, 1)) (hv : gj_two v = false) (hw : gj_two w = false) (hq : pc + 1 = q) (K : gj_W G l d mc ms y cc nL ret Q k n q ls (v :: w :: v :: w :: st) S M) : gj_W G l d mc ms y cc nL ret Q k n pc ls (v :: w :: st) S M := by
  subst hq
  exact gj_op (fun p e R s m args below meth c H locs lsm Z hx hb hown hts hK hl ho k => lv_dup2_11 hx hb hd (gj_cat1 G hv) (gj_cat1 G hw) k) (fun h => (h.push (h.2 w (List.mem_cons_of_mem _ List.mem_cons_self)) (fun w hw => hw)).push (h.2 v List.mem_cons_self) (fun w hw => hw)) K
theorem gj_dup_x1 {v w : gj_V} (hd : decode cc pc = .ok (.dup_x1, 1)) (hv : gj_two v = false) (hw : gj_two w = false) (hq : pc + 1 = q) (K : gj_W G l d mc ms y cc nL ret Q k n q ls (v :: w :: v :: st) S M) : gj_W G l d mc ms y cc nL ret Q k n pc ls (v :: w :: st) S M := by
  subst hq
  refine gj_op (fun p e R s m args below meth c H locs lsm Z hx hb hown hts hK hl ho k => lv_dup_x1 hx hb hd (gj_cat1 G hv) (gj_cat1 G hw) k) (fun h => ⟨h.1, fun x hx => ?_⟩) K
  simp only [List.mem_cons] at hx
  rcases hx with rfl | rfl | rfl | hx
  · exact h.2 _ List.mem_cons_self
  · exact h.2 _ (List.mem_cons_of_mem _ List.mem_cons_self)
  · exact h.2 _ List.mem_cons_self
  · exact h.2 _ (List.mem_cons_of_mem _ (List.mem_cons_of_mem _ hx))
end GJ
end
section
/-! OWN LAYER: branches, returns, the heap, calls -/
section GJ2
variable {G : gj_G} {l : Launch} {d mc ms : Nat} {y : MethodName} {cc : ByteArray} {nL : Nat} {ret : Option FieldType} {Q : Option gj_V → gj_S → gj_M → Prop} {k n pc q : Nat} {ls : List (Nat × gj_V)} {st st' : List gj_V} {S : gj_S} {M : gj_M}
theorem gj_if_eq {a : Int} {off : Int} {tgt : Nat} (hd : decode cc pc = .ok (.ifCond .eq off, 3)) (ht : (pc : Int) + off = (tgt : Int)) (hq : pc + 3 = q) (KT : a = 0 → gj_W G l d mc ms y cc nL ret Q k n tgt ls st S M) (KF : ¬ (a = 0) → gj_W G l d mc ms y cc nL ret Q k n q ls st S M) : gj_W G l d mc ms y cc nL ret Q k n pc ls (jI a :: st) S M := by
  subst hq
  intro p e R s m args below meth c H locs lsm Z X hZ hR hlc hl ho hk hn
  have ho2 : gj_oks ls st := ⟨ho.1, fun w hw => ho.2 w (List.mem_cons_of_mem _ hw)⟩
  exact lv_if_eq X.1 X.2.1 hd ht (fun h => KT ((gj_injI (gj_o0 ho) gj_z32).mp h) p e R s m args below meth c H locs lsm Z X hZ hR hlc hl ho2 hk hn) (fun h => KF (fun z => h ((gj_injI (gj_o0 ho) gj_z32).mpr z)) p e R s m args below meth c H locs lsm Z X hZ hR hlc hl ho2 hk hn)
theorem gj_icmp_eq {a b : Int} {off : Int} {tgt : Nat} (hd : decode cc pc = .ok (.if_icmp .eq off, 3)) (ht : (pc : Int) + off = (tgt : Int)) (hq : pc + 3 = q) (KT : a = b → gj_W G l d mc ms y cc nL ret Q k n tgt ls st S M) (KF : ¬ (a = b) → gj_W G l d mc ms y cc nL ret Q k n q ls st S M) : gj_W G l d mc ms y cc nL ret Q k n pc ls (jI b :: jI a :: st) S M := by
  subst hq
  intro p e R s m args below meth c H locs lsm Z X hZ hR hlc hl ho hk hn
  have ho2 : gj_oks ls st := ⟨ho.1, fun w hw => ho.2 w (List.mem_cons_of_mem _ (List.mem_cons_of_mem _ hw))⟩
  exact lv_icmp_eq X.1 X.2.1 hd ht (fun h => KT ((gj_injI (gj_o1 ho) (gj_o0 ho)).mp h) p e R s m args below meth c H locs lsm Z X hZ hR hlc hl ho2 hk hn) (fun h => KF (fun z => h ((gj_injI (gj_o1 ho) (gj_o0 ho)).mpr z)) p e R s m args below meth c H locs lsm Z X hZ hR hlc hl ho2 hk hn)
theorem gj_if_ne {a : Int} {off : Int} {tgt : Nat} (hd : decode cc pc = .ok (.ifCond .ne off, 3)) (ht : (pc : Int) + off = (tgt : Int)) (hq : pc + 3 = q) (KT : ¬ a = 0 → gj_W G l d mc ms y cc nL ret Q k n tgt ls st S M) (KF : a = 0 → gj_W G l d mc ms y cc nL ret Q k n q ls st S M) : gj_W G l d mc ms y cc nL ret Q k n pc ls (jI a :: st) S M := by
  subst hq
  intro p e R s m args below meth c H locs lsm Z X hZ hR hlc hl ho hk hn
  have ho2 : gj_oks ls st := ⟨ho.1, fun w hw => ho.2 w (List.mem_cons_of_mem _ hw)⟩
  exact lv_if_ne X.1 X.2.1 hd ht (fun h => KT ((not_congr (gj_injI (gj_o0 ho) gj_z32)).mp h) p e R s m args below meth c H locs lsm Z X hZ hR hlc hl ho2 hk hn) (fun h => KF ((gj_injI (gj_o0 ho) gj_z32).mp h) p e R s m args below meth c H locs lsm Z X hZ hR hlc hl ho2 hk hn)
theorem gj_icmp_ne {a b : Int} {off : Int} {tgt : Nat} (hd : decode cc pc = .ok (.if_icmp .ne off, 3)) (ht : (pc : Int) + off = (tgt : Int)) (hq : pc + 3 = q) (KT : ¬ a = b → gj_W G l d mc ms y cc nL ret Q k n tgt ls st S M) (KF : a = b → gj_W G l d mc ms y cc nL ret Q k n q ls st S M) : gj_W G l d mc ms y cc nL ret Q k n pc ls (jI b :: jI a :: st) S M := by
  subst hq
  intro p e R s m args below meth c H locs lsm Z X hZ hR hlc hl ho hk hn
  have ho2 : gj_oks ls st := ⟨ho.1, fun w hw => ho.2 w (List.mem_cons_of_mem _ (List.mem_cons_of_mem _ hw))⟩
  exact lv_icmp_ne X.1 X.2.1 hd ht (fun h => KT ((not_congr (gj_injI (gj_o1 ho) (gj_o0 ho))).mp h) p e R s m args below meth c H locs lsm Z X hZ hR hlc hl ho2 hk hn) (fun h => KF ((gj_injI (gj_o1 ho) (gj_o0 ho)).mp h) p e R s m args below meth c H locs lsm Z X hZ hR hlc hl ho2 hk hn)
theorem gj_if_lt {a : Int} {off : Int} {tgt : Nat} (hd : decode cc pc = .ok (.ifCond .lt off, 3)) (ht : (pc : Int) + off = (tgt : Int)) (hq : pc + 3 = q) (KT : a < 0 → gj_W G l d mc ms y cc nL ret Q k n tgt ls st S M) (KF : ¬ (a < 0) → gj_W G l d mc ms y cc nL ret Q k n q ls st S M) : gj_W G l d mc ms y cc nL ret Q k n pc ls (jI a :: st) S M := by
  subst hq
  intro p e R s m args below meth c H locs lsm Z X hZ hR hlc hl ho hk hn
  have ho2 : gj_oks ls st := ⟨ho.1, fun w hw => ho.2 w (List.mem_cons_of_mem _ hw)⟩
  exact lv_if_lt X.1 X.2.1 hd ht (fun h => KT ((gj_ltI (gj_o0 ho) gj_z32).mp h) p e R s m args below meth c H locs lsm Z X hZ hR hlc hl ho2 hk hn) (fun h => KF (fun z => h ((gj_ltI (gj_o0 ho) gj_z32).mpr z)) p e R s m args below meth c H locs lsm Z X hZ hR hlc hl ho2 hk hn)
theorem gj_icmp_lt {a b : Int} {off : Int} {tgt : Nat} (hd : decode cc pc = .ok (.if_icmp .lt off, 3)) (ht : (pc : Int) + off = (tgt : Int)) (hq : pc + 3 = q) (KT : a < b → gj_W G l d mc ms y cc nL ret Q k n tgt ls st S M) (KF : ¬ (a < b) → gj_W G l d mc ms y cc nL ret Q k n q ls st S M) : gj_W G l d mc ms y cc nL ret Q k n pc ls (jI b :: jI a :: st) S M := by
  subst hq
  intro p e R s m args below meth c H locs lsm Z X hZ hR hlc hl ho hk hn
  have ho2 : gj_oks ls st := ⟨ho.1, fun w hw => ho.2 w (List.mem_cons_of_mem _ (List.mem_cons_of_mem _ hw))⟩
  exact lv_icmp_lt X.1 X.2.1 hd ht (fun h => KT ((gj_ltI (gj_o1 ho) (gj_o0 ho)).mp h) p e R s m args below meth c H locs lsm Z X hZ hR hlc hl ho2 hk hn) (fun h => KF (fun z => h ((gj_ltI (gj_o1 ho) (gj_o0 ho)).mpr z)) p e R s m args below meth c H locs lsm Z X hZ hR hlc hl ho2 hk hn)
theorem gj_if_ge {a : Int} {off : Int} {tgt : Nat} (hd : decode cc pc = .ok (.ifCond .ge off, 3)) (ht : (pc : Int) + off = (tgt : Int)) (hq : pc + 3 = q) (KT : 0 ≤ a → gj_W G l d mc ms y cc nL ret Q k n tgt ls st S M) (KF : ¬ (0 ≤ a) → gj_W G l d mc ms y cc nL ret Q k n q ls st S M) : gj_W G l d mc ms y cc nL ret Q k n pc ls (jI a :: st) S M := by
  subst hq
  intro p e R s m args below meth c H locs lsm Z X hZ hR hlc hl ho hk hn
  have ho2 : gj_oks ls st := ⟨ho.1, fun w hw => ho.2 w (List.mem_cons_of_mem _ hw)⟩
  exact lv_if_ge X.1 X.2.1 hd ht (fun h => KT ((gj_leI gj_z32 (gj_o0 ho)).mp h) p e R s m args below meth c H locs lsm Z X hZ hR hlc hl ho2 hk hn) (fun h => KF (fun z => h ((gj_leI gj_z32 (gj_o0 ho)).mpr z)) p e R s m args below meth c H locs lsm Z X hZ hR hlc hl ho2 hk hn)
theorem gj_icmp_ge {a b : Int} {off : Int} {tgt : Nat} (hd : decode cc pc = .ok (.if_icmp .ge off, 3)) (ht : (pc : Int) + off = (tgt : Int)) (hq : pc + 3 = q) (KT : b ≤ a → gj_W G l d mc ms y cc nL ret Q k n tgt ls st S M) (KF : ¬ (b ≤ a) → gj_W G l d mc ms y cc nL ret Q k n q ls st S M) : gj_W G l d mc ms y cc nL ret Q k n pc ls (jI b :: jI a :: st) S M := by
  subst hq
  intro p e R s m args below meth c H locs lsm Z X hZ hR hlc hl ho hk hn
  have ho2 : gj_oks ls st := ⟨ho.1, fun w hw => ho.2 w (List.mem_cons_of_mem _ (List.mem_cons_of_mem _ hw))⟩
  exact lv_icmp_ge X.1 X.2.1 hd ht (fun h => KT ((gj_leI (gj_o0 ho) (gj_o1 ho)).mp h) p e R s m args below meth c H locs lsm Z X hZ hR hlc hl ho2 hk hn) (fun h => KF (fun z => h ((gj_leI (gj_o0 ho) (gj_o1 ho)).mpr z)) p e R s m args below meth c H locs lsm Z X hZ hR hlc hl ho2 hk hn)
theorem gj_if_gt {a : Int} {off : Int} {tgt : Nat} (hd : decode cc pc = .ok (.ifCond .gt off, 3)) (ht : (pc : Int) + off = (tgt : Int)) (hq : pc + 3 = q) (KT : 0 < a → gj_W G l d mc ms y cc nL ret Q k n tgt ls st S M) (KF : ¬ (0 < a) → gj_W G l d mc ms y cc nL ret Q k n q ls st S M) : gj_W G l d mc ms y cc nL ret Q k n pc ls (jI a :: st) S M := by
  subst hq
  intro p e R s m args below meth c H locs lsm Z X hZ hR hlc hl ho hk hn
  have ho2 : gj_oks ls st := ⟨ho.1, fun w hw => ho.2 w (List.mem_cons_of_mem _ hw)⟩
  exact lv_if_gt X.1 X.2.1 hd ht (fun h => KT ((gj_ltI gj_z32 (gj_o0 ho)).mp h) p e R s m args below meth c H locs lsm Z X hZ hR hlc hl ho2 hk hn) (fun h => KF (fun z => h ((gj_ltI gj_z32 (gj_o0 ho)).mpr z)) p e R s m args below meth c H locs lsm Z X hZ hR hlc hl ho2 hk hn)
theorem gj_icmp_gt {a b : Int} {off : Int} {tgt : Nat} (hd : decode cc pc = .ok (.if_icmp .gt off, 3)) (ht : (pc : Int) + off = (tgt : Int)) (hq : pc + 3 = q) (KT : b < a → gj_W G l d mc ms y cc nL ret Q k n tgt ls st S M) (KF : ¬ (b < a) → gj_W G l d mc ms y cc nL ret Q k n q ls st S M) : gj_W G l d mc ms y cc nL ret Q k n pc ls (jI b :: jI a :: st) S M := by
  subst hq
  intro p e R s m args below meth c H locs lsm Z X hZ hR hlc hl ho hk hn
  have ho2 : gj_oks ls st := ⟨ho.1, fun w hw => ho.2 w (List.mem_cons_of_mem _ (List.mem_cons_of_mem _ hw))⟩
  exact lv_icmp_gt X.1 X.2.1 hd ht (fun h => KT ((gj_ltI (gj_o0 ho) (gj_o1 ho)).mp h) p e R s m args below meth c H locs lsm Z X hZ hR hlc hl ho2 hk hn) (fun h => KF (fun z => h ((gj_ltI (gj_o0 ho) (gj_o1 ho)).mpr z)) p e R s m args below meth c H locs lsm Z X hZ hR hlc hl ho2 hk hn)
theorem gj_if_le {a : Int} {off : Int} {tgt : Nat} (hd : decode cc pc = .ok (.ifCond .le off, 3)) (ht : (pc : Int) + off = (tgt : Int)) (hq : pc + 3 = q) (KT : a ≤ 0 → gj_W G l d mc ms y cc nL ret Q k n tgt ls st S M) (KF : ¬ (a ≤ 0) → gj_W G l d mc ms y cc nL ret Q k n q ls st S M) : gj_W G l d mc ms y cc nL ret Q k n pc ls (jI a :: st) S M := by
  subst hq
  intro p e R s m args below meth c H locs lsm Z X hZ hR hlc hl ho hk hn
  have ho2 : gj_oks ls st := ⟨ho.1, fun w hw => ho.2 w (List.mem_cons_of_mem _ hw)⟩
  exact lv_if_le X.1 X.2.1 hd ht (fun h => KT ((gj_leI (gj_o0 ho) gj_z32).mp h) p e R s m args below meth c H locs lsm Z X hZ hR hlc hl ho2 hk hn) (fun h => KF (fun z => h ((gj_leI (gj_o0 ho) gj_z32).mpr z)) p e R s m args below meth c H locs lsm Z X hZ hR hlc hl ho2 hk hn)
theorem gj_icmp_le {a b : Int} {off : Int} {tgt : Nat} (hd : decode cc pc = .ok (.if_icmp .le off, 3)) (ht : (pc : Int) + off = (tgt : Int)) (hq : pc + 3 = q) (KT : a ≤ b → gj_W G l d mc ms y cc nL ret Q k n tgt ls st S M) (KF : ¬ (a ≤ b) → gj_W G l d mc ms y cc nL ret Q k n q ls st S M) : gj_W G l d mc ms y cc nL ret Q k n pc ls (jI b :: jI a :: st) S M := by
  subst hq
  intro p e R s m args below meth c H locs lsm Z X hZ hR hlc hl ho hk hn
  have ho2 : gj_oks ls st := ⟨ho.1, fun w hw => ho.2 w (List.mem_cons_of_mem _ (List.mem_cons_of_mem _ hw))⟩
  exact lv_icmp_le X.1 X.2.1 hd ht (fun h => KT ((gj_leI (gj_o1 ho) (gj_o0 ho)).mp h) p e R s m args below meth c H locs lsm Z X hZ hR hlc hl ho2 hk hn) (fun h => KF (fun z => h ((gj_leI (gj_o1 ho) (gj_o0 ho)).mpr z)) p e R s m args below meth c H locs lsm Z X hZ hR hlc hl ho2 hk hn)
theorem gj_goto {off : Int} {tgt : Nat} (hd : decode cc pc = .ok (.goto off, 3)) (ht : (pc : Int) + off = (tgt : Int)) (K : gj_W G l d mc ms y cc nL ret Q k n tgt ls st S M) : gj_W G l d mc ms y cc nL ret Q k n pc ls st S M := by
  exact gj_op (fun p e R s m args below meth c H locs lsm Z hx hb hown hts hK hl ho k => lv_goto hx hb hd ht k) (fun h => h) K
theorem gj_tail {v : gj_V} (h : gj_oks ls (v :: st)) : gj_oks ls st := ⟨h.1, fun w hw => h.2 w (List.mem_cons_of_mem _ hw)⟩
theorem gj_ifnull {z : Int} {off : Int} {tgt : Nat} (hd : decode cc pc = .ok (.ifnull off, 3)) (ht : (pc : Int) + off = (tgt : Int)) (hq : pc + 3 = q) (KT : z = -1 → gj_W G l d mc ms y cc nL ret Q k n tgt ls st S M) (KF : ¬ z = -1 → gj_W G l d mc ms y cc nL ret Q k n q ls st S M) : gj_W G l d mc ms y cc nL ret Q k n pc ls (jR z :: st) S M := by
  subst hq
  intro p e R s m args below meth c H locs lsm Z X hZ hR hlc hl ho hk hn
  show W p l e R s m args below meth c H locs k n Z (F0 m pc lsm (gj_rv G z :: st.map (gj_v G)))
  unfold gj_rv gj_ro
  by_cases hz : z = -1
  · rw [if_pos hz]
    exact lv_ifnullN X.1 X.2.1 hd ht (KT hz p e R s m args below meth c H locs lsm Z X hZ hR hlc hl (gj_tail ho) hk hn)
  · rw [if_neg hz]
    exact lv_ifnull X.1 X.2.1 hd (KF hz p e R s m args below meth c H locs lsm Z X hZ hR hlc hl (gj_tail ho) hk hn)
theorem gj_ifnonnull {z : Int} {off : Int} {tgt : Nat} (hd : decode cc pc = .ok (.ifnonnull off, 3)) (ht : (pc : Int) + off = (tgt : Int)) (hq : pc + 3 = q) (KT : ¬ z = -1 → gj_W G l d mc ms y cc nL ret Q k n tgt ls st S M) (KF : z = -1 → gj_W G l d mc ms y cc nL ret Q k n q ls st S M) : gj_W G l d mc ms y cc nL ret Q k n pc ls (jR z :: st) S M := by
  subst hq
  intro p e R s m args below meth c H locs lsm Z X hZ hR hlc hl ho hk hn
  show W p l e R s m args below meth c H locs k n Z (F0 m pc lsm (gj_rv G z :: st.map (gj_v G)))
  unfold gj_rv gj_ro
  by_cases hz : z = -1
  · rw [if_pos hz]
    exact lv_ifnonnullN X.1 X.2.1 hd (KF hz p e R s m args below meth c H locs lsm Z X hZ hR hlc hl (gj_tail ho) hk hn)
  · rw [if_neg hz]
    exact lv_ifnonnull X.1 X.2.1 hd ht (KT hz p e R s m args below meth c H locs lsm Z X hZ hR hlc hl (gj_tail ho) hk hn)
theorem gj_tabOut {dflt lo hi : Int} {offs : Array Int} {len tgt : Nat} {a : Int} (hd : decode cc pc = .ok (.tableswitch dflt lo hi offs, len)) (h : a < lo ∨ hi < a) (ht : (pc : Int) + dflt = (tgt : Int)) (K : gj_W G l d mc ms y cc nL ret Q k n tgt ls st S M) : gj_W G l d mc ms y cc nL ret Q k n pc ls (jI a :: st) S M := by
  intro p e R s m args below meth c H locs lsm Z X hZ hR hlc hl ho hk hn
  exact lv_tableOut X.1 X.2.1 hd (by rw [gj_toI' (gj_o0 ho)]; exact h) ht (K p e R s m args below meth c H locs lsm Z X hZ hR hlc hl (gj_tail ho) hk hn)
theorem gj_tabIn (i : Int) {dflt lo hi : Int} {offs : Array Int} {len tgt : Nat} {off : Int} {a : Int} (hd : decode cc pc = .ok (.tableswitch dflt lo hi offs, len)) (hai : a = i) (h : lo ≤ i ∧ i ≤ hi ∧ offs[(i - lo).toNat]? = some off) (ht : (pc : Int) + off = (tgt : Int)) (K : gj_W G l d mc ms y cc nL ret Q k n tgt ls st S M) : gj_W G l d mc ms y cc nL ret Q k n pc ls (jI a :: st) S M := by
  subst hai
  intro p e R s m args below meth c H locs lsm Z X hZ hR hlc hl ho hk hn
  have e1 := gj_toI' (gj_o0 ho)
  exact lv_tableIn X.1 X.2.1 hd (by rw [e1]; omega) (by rw [e1]; omega) (by rw [e1]; exact h.2.2) ht (K p e R s m args below meth c H locs lsm Z X hZ hR hlc hl (gj_tail ho) hk hn)
theorem gj_lookup {dflt off : Int} {ps : Array (Int × Int)} {len tgt : Nat} {a : Int} (hd : decode cc pc = .ok (.lookupswitch dflt ps, len)) (hp : (ps.toList.zip (ps.toList.drop 1)).all (fun (a, next) => a.1 < next.1) = true) (ho2 : Op.lookupswitch.offset ps.toList dflt a = off) (ht : (pc : Int) + off = (tgt : Int)) (K : gj_W G l d mc ms y cc nL ret Q k n tgt ls st S M) : gj_W G l d mc ms y cc nL ret Q k n pc ls (jI a :: st) S M := by
  intro p e R s m args below meth c H locs lsm Z X hZ hR hlc hl ho hk hn
  exact lv_lookup X.1 X.2.1 hd hp (by rw [gj_toI' (gj_o0 ho)]; exact ho2) ht (K p e R s m args below meth c H locs lsm Z X hZ hR hlc hl (gj_tail ho) hk hn)
-- ends
theorem gj_ireturn {a : Int} (ty : FieldType) (hd : decode cc pc = .ok (.ireturn, 1)) (hr : ret = some ty) (hn2 : narrow ty (.int (Int32.ofInt a)) = .int (Int32.ofInt a)) (hQ : Q (some (jI a)) S M) : gj_W G l d mc ms y cc nL ret Q k n pc ls [jI a] S M := by
  intro p e R s m args below meth c H locs lsm Z X hZ hR hlc hl ho hk hn
  exact hZ H locs k n pc lsm (some (jI a)) S M hQ hR hlc hk hn (fun x hx => by cases hx; exact gj_o0 ho) ⟨hd, ty, hr, hn2⟩
theorem gj_iret {a : Int} (hd : decode cc pc = .ok (.ireturn, 1)) (hr : ret = some .int) (hQ : Q (some (jI a)) S M) : gj_W G l d mc ms y cc nL ret Q k n pc ls [jI a] S M := gj_ireturn .int hd hr rfl hQ
theorem gj_narZ {a : Int} (h : a = 0 ∨ a = 1) : narrow .boolean (.int (Int32.ofInt a)) = .int (Int32.ofInt a) := by rcases h with rfl | rfl <;> rfl
theorem gj_zret {a : Int} (hd : decode cc pc = .ok (.ireturn, 1)) (hr : ret = some .boolean) (h : a = 0 ∨ a = 1) (hQ : Q (some (jI a)) S M) : gj_W G l d mc ms y cc nL ret Q k n pc ls [jI a] S M := gj_ireturn .boolean hd hr (gj_narZ h) hQ
theorem gj_lret {a : Int} (hd : decode cc pc = .ok (.lreturn, 1)) (hr : ret = some .long) (hQ : Q (some (jL a)) S M) : gj_W G l d mc ms y cc nL ret Q k n pc ls [jL a] S M := by
  intro p e R s m args below meth c H locs lsm Z X hZ hR hlc hl ho hk hn
  exact hZ H locs k n pc lsm (some (jL a)) S M hQ hR hlc hk hn (fun x hx => by cases hx; exact gj_O0 ho) ⟨hd, hr⟩
theorem gj_aret {a : Int} {nm : String} (hd : decode cc pc = .ok (.areturn, 1)) (hr : ret = some (.object nm)) (hQ : Q (some (jR a)) S M) : gj_W G l d mc ms y cc nL ret Q k n pc ls [jR a] S M := by
  intro p e R s m args below meth c H locs lsm Z X hZ hR hlc hl ho hk hn
  exact hZ H locs k n pc lsm (some (jR a)) S M hQ hR hlc hk hn (fun x hx => by cases hx; exact trivial) ⟨hd, nm, hr⟩
theorem gj_vret (hd : decode cc pc = .ok (.return_, 1)) (hr : ret = none) (hQ : Q none S M) : gj_W G l d mc ms y cc nL ret Q k n pc ls [] S M := by
  intro p e R s m args below meth c H locs lsm Z X hZ hR hlc hl ho hk hn
  exact hZ H locs k n pc lsm none S M hQ hR hlc hk hn (fun x hx => by cases hx) ⟨hd, hr⟩
end GJ2
theorem gj_cwl (ws : List Cond) (ps : List Nat) (hp : ws = ps.filterMap (fun i => lw_tbl[i]?)) (h : ws.all goodWord = true) : ∀ w ∈ ws, w ∈ gj_TB := by
  intro w hw
  have h1 := List.all_eq_true.mp h w hw
  rw [hp] at hw
  obtain ⟨i, -, hi⟩ := List.mem_filterMap.mp hw
  exact gj_mem i hi h1
set_option maxRecDepth 100000 in
theorem gj_cw0 : ∀ w ∈ u_ws RX0 TX0 3, w ∈ gj_TB := gj_cwl _ [450, 452, 454] (by decide +kernel) (by decide +kernel)
set_option maxRecDepth 100000 in
theorem gj_cw1 : ∀ w ∈ u_ws RX1 TX1 3, w ∈ gj_TB := gj_cwl _ [297, 299, 301] (by decide +kernel) (by decide +kernel)
set_option maxRecDepth 100000 in
theorem gj_cw2 : ∀ w ∈ u_ws RX2 TX2 7, w ∈ gj_TB := gj_cwl _ [425, 427, 429, 431, 433, 435, 437] (by decide +kernel) (by decide +kernel)
set_option maxRecDepth 100000 in
theorem gj_cw3 : ∀ w ∈ u_ws RX3 TX3 11, w ∈ gj_TB := gj_cwl _ [347, 349, 351, 353, 355, 357, 359, 361, 363, 365, 367] (by decide +kernel) (by decide +kernel)
set_option maxRecDepth 100000 in
theorem gj_cw4 : ∀ w ∈ u_ws RX4 TX4 11, w ∈ gj_TB := gj_cwl _ [387, 389, 391, 393, 395, 397, 399, 401, 403, 405, 407] (by decide +kernel) (by decide +kernel)
set_option maxRecDepth 100000 in
theorem gj_cw5 : ∀ w ∈ u_ws RX5 TX5 16, w ∈ gj_TB := gj_cwl _ [210, 212, 214, 216, 218, 220, 222, 224, 226, 228, 230, 232, 234, 236, 238, 240] (by decide +kernel) (by decide +kernel)
set_option maxRecDepth 100000 in
theorem gj_cw6 : ∀ w ∈ u_ws RX6 TX6 10, w ∈ gj_TB := gj_cwl _ [259, 261, 263, 265, 267, 269, 271, 273, 275, 277] (by decide +kernel) (by decide +kernel)
set_option maxRecDepth 100000 in
theorem gj_cw7 : ∀ w ∈ u_ws RX8 TX8 5, w ∈ gj_TB := gj_cwl _ [468, 470, 472, 474, 476] (by decide +kernel) (by decide +kernel)
set_option maxRecDepth 100000 in
theorem gj_cw8 : ∀ w ∈ u_ws RX9 TX9 2, w ∈ gj_TB := gj_cwl _ [137, 139] (by decide +kernel) (by decide +kernel)
set_option maxRecDepth 100000 in
theorem gj_cw9 : ∀ w ∈ u_ws RX11 TX11 12, w ∈ gj_TB := gj_cwl _ [492, 494, 496, 498, 500, 502, 504, 506, 508, 510, 512, 514] (by decide +kernel) (by decide +kernel)
set_option maxRecDepth 100000 in
theorem gj_cw10 : ∀ w ∈ u_ws RX12 TX12 55, w ∈ gj_TB := gj_cwl _ [1299, 1301, 1303, 1305, 1307, 1309, 1311, 1313, 1315, 1317, 1319, 1321, 1323, 1325, 1327, 1329, 1331, 1333, 1335, 1337, 1339, 1341, 1343, 1345, 1347, 1349, 1351, 1353, 1355, 1357, 1359, 1361, 1363, 1365, 1367, 1369, 1371, 1373, 1375, 1377, 1379, 1381, 1383, 1385, 1387, 1389, 1391, 1393, 1395, 1397, 1399, 1401, 1403, 1405, 1407] (by decide +kernel) (by decide +kernel)
def gj_cok (ci : Nat) (r : vw_C) : Prop := (∀ w ∈ u_ws r.1 r.2.1 r.2.2, w ∈ gj_TB) ∧ (∀ k, k < r.2.2 → parseFieldDescriptor (r.2.1 k).2.2.1 = some ((gj_fts.getD ci tyX0) k)) ∧ ∀ a, a < r.2.2 → ∀ b, b < r.2.2 → a ≠ b → (r.2.1 a).2.1 ≠ (r.2.1 b).2.1
theorem gj_cls {ci : Nat} {r : vw_C} (h : vwCl[ci]? = some r) : gj_cok ci r := by
  match ci, h with
  | 0, h => cases h; exact ⟨gj_cw0, tyX0_ok, nmX0⟩
  | 1, h => cases h; exact ⟨gj_cw1, tyX1_ok, nmX1⟩
  | 2, h => cases h; exact ⟨gj_cw2, tyX2_ok, nmX2⟩
  | 3, h => cases h; exact ⟨gj_cw3, tyX3_ok, nmX3⟩
  | 4, h => cases h; exact ⟨gj_cw4, tyX4_ok, nmX4⟩
  | 5, h => cases h; exact ⟨gj_cw5, tyX5_ok, nmX5⟩
  | 6, h => cases h; exact ⟨gj_cw6, tyX6_ok, nmX6⟩
  | 7, h => cases h; exact ⟨gj_cw7, tyX8_ok, nmX8⟩
  | 8, h => cases h; exact ⟨gj_cw8, tyX9_ok, nmX9⟩
  | 9, h => cases h; exact ⟨gj_cw9, tyX11_ok, nmX11⟩
  | 10, h => cases h; exact ⟨gj_cw10, tyX12_ok, nmX12⟩
  | i + 11, h => simp [vwCl] at h
end
section
/-! OWN LAYER: the heap -/
section GJ3
variable {G : gj_G} {l : Launch} {d mc ms : Nat} {y : MethodName} {cc : ByteArray} {nL : Nat} {ret : Option FieldType} {Q : Option gj_V → gj_S → gj_M → Prop} {k n pc q : Nat} {ls : List (Nat × gj_V)} {st st' : List gj_V} {S : gj_S} {M : gj_M}
theorem gj_in {z len : Int} {kd : Nat} (hS : gj_okS S) (h : S.2.1 z = (kd, len)) (hk : kd ≠ 99) : 0 ≤ z ∧ z < S.1 := by
  by_cases h1 : z < 0 ∨ S.1 ≤ z
  · rw [hS.2.1 z h1] at h
    cases h
    exact absurd rfl hk
  · omega
theorem gj_vR {z : Int} (h : 0 ≤ z) : gj_v G (jR z) = .ref (gj_base G + z.toNat) := by
  show gj_rv G z = _
  unfold gj_rv gj_ro gj_ad
  rw [if_neg (by omega), if_pos h]
  rfl
theorem gj_roR {z : Int} (h : 0 ≤ z) : gj_ro G z = some (gj_base G + z.toNat) := by
  unfold gj_ro gj_ad
  rw [if_neg (by omega), if_pos h]
theorem gj_at {H : Heap} {z : Int} (hR : gj_R G S M H) (h0 : 0 ≤ z) (h1 : z < S.1) : va_P (gj_D G) vwCl [(gj_base G + z.toNat, gj_e G S M z)] H := by
  intro k q hq
  cases k with
  | zero =>
    cases hq
    have h := hR.2.2.1 z.toNat (by omega)
    rw [Int.toNat_of_nonneg h0] at h
    exact h
  | succ k => cases hq
theorem gj_e_i {z len : Int} {kd : Nat} (h : S.2.1 z = (kd, len)) (hk : kd = 0 ∨ kd = 2 ∨ kd = 3) : gj_e G S M z = .inl (gj_cA G kd, len.toNat, .inl (fun i : Nat => Int32.ofInt (M z i))) := by
  unfold gj_e
  rw [h]
  rcases hk with rfl | rfl | rfl <;> rfl
theorem gj_e_l {z len : Int} (h : S.2.1 z = (1, len)) : gj_e G S M z = .inl (gj_cA G 1, len.toNat, .inr (.inl (fun i : Nat => Int64.ofInt (M z i)))) := by
  unfold gj_e
  rw [h]
  rfl
theorem gj_e_r {z len : Int} {kd : Nat} (h : S.2.1 z = (kd, len)) (hk : kd = 4 ∨ kd = 5 ∨ kd = 6) : gj_e G S M z = .inl (gj_cA G kd, len.toNat, .inr (.inr (.inr (.inr (fun i : Nat => gj_ro G (S.2.2 z i)))))) := by
  unfold gj_e
  rw [h]
  rcases hk with rfl | rfl | rfl <;> rfl
theorem gj_e_o {z len : Int} {ci : Nat} (h : S.2.1 z = (10 + ci, len)) : gj_e G S M z = .inr (ci, (List.range len.toNat).map (gj_fv G S M z ci)) := by
  unfold gj_e
  rw [h]
  have e1 : ¬ (10 + ci < 10) := by omega
  have e2 : 10 + ci - 10 = ci := by omega
  simp only [e1, if_false, e2]
theorem gj_ix {i len : Int} (h0 : 0 ≤ i) (h1 : i < len) (h2 : len < 2147483648) : vp_in (Int32.ofInt i) len.toNat ∧ (Int32.ofInt i).toNatClampNeg = i.toNat := by
  have e1 : (Int32.ofInt i).toInt = i := gj_toI' ⟨by omega, by omega⟩
  have e2 : (Int32.ofInt i).toNatClampNeg = i.toNat := by
    show (Int32.ofInt i).toInt.toNat = _
    rw [e1]
  refine ⟨?_, e2⟩
  unfold vp_in
  rw [e2, Int32.lt_iff_toInt_lt, e1, Int32.toInt_zero]
  omega
theorem gj_pN {i : Int} (h : 0 ≤ i) : ((i.toNat : Nat) : Int) = i := Int.toNat_of_nonneg h
def gj_tyk (kd : Nat) : FieldType := match kd with
  | 0 => .int
  | 1 => .long
  | 2 => .byte
  | 3 => .boolean
  | 4 => .object "MayGreen$Life"
  | 5 => .object "java/lang/String"
  | _ => .array .int
theorem gj_tys_at (kd : Nat) (h : kd < 7) : (gj_tys G)[kd]? = some (gj_cA G kd, gj_tyk kd) := by
  have : kd = 0 ∨ kd = 1 ∨ kd = 2 ∨ kd = 3 ∨ kd = 4 ∨ kd = 5 ∨ kd = 6 := by omega
  rcases this with rfl | rfl | rfl | rfl | rfl | rfl | rfl <;> rfl
theorem gj_okm_ld {z : Int} {i : Int} {kd : Nat} {len : Int} (hM : gj_okm S M) (h : S.2.1 z = (kd, len)) (h0 : 0 ≤ i) (hk : kd < 4) : gj_okx kd (M z i) := by
  have h1 := hM z i.toNat
  rw [gj_pN h0, h] at h1
  unfold gj_ty at h1
  rw [if_pos hk] at h1
  exact h1
-- array loads
theorem gj_iald {z i len : Int} (hd : decode cc pc = .ok (.iaload, 1)) (hs : S.2.1 z = (0, len)) (h0 : 0 ≤ i) (h1 : i < len) (hq : pc + 1 = q) (K : gj_W G l d mc ms y cc nL ret Q k n q ls (jI (M z i) :: st) S M) : gj_W G l d mc ms y cc nL ret Q k n pc ls (jI i :: jR z :: st) S M := by
  subst hq
  intro p e R s m args below meth c H locs lsm Z X hZ hR hlc hl ho hk hn
  obtain ⟨z0, z1⟩ := gj_in hR.2.2.2.1 hs (by decide)
  have hln : len < 2147483648 := by have := (hR.2.2.2.1.2.2 z).2; rw [hs] at this; exact this
  obtain ⟨v1, v2⟩ := gj_ix h0 h1 hln
  have hx := gj_okm_ld hR.2.2.2.2 hs h0 (by decide)
  have kk := K p e R s m args below meth c H locs lsm Z X hZ hR hlc hl (gj_2I (hx.1 rfl) ho) hk hn
  rw [List.map_cons, List.map_cons, gj_vR z0]
  refine va_iald X.1 X.2.1 X.2.2.2.2.2.2.2.1.1 (gj_at hR z0 z1) 0 0 (by rw [gj_e_i hs (Or.inl rfl)]; rfl) (gj_tys_at 0 (by decide)) v1 hd ?_
  rw [v2, gj_pN h0]
  exact kk
theorem gj_bald {z i len : Int} (hd : decode cc pc = .ok (.baload, 1)) (hs : S.2.1 z = (2, len)) (h0 : 0 ≤ i) (h1 : i < len) (hq : pc + 1 = q) (K : gj_W G l d mc ms y cc nL ret Q k n q ls (jI (M z i) :: st) S M) : gj_W G l d mc ms y cc nL ret Q k n pc ls (jI i :: jR z :: st) S M := by
  subst hq
  intro p e R s m args below meth c H locs lsm Z X hZ hR hlc hl ho hk hn
  obtain ⟨z0, z1⟩ := gj_in hR.2.2.2.1 hs (by decide)
  have hln : len < 2147483648 := by have := (hR.2.2.2.1.2.2 z).2; rw [hs] at this; exact this
  obtain ⟨v1, v2⟩ := gj_ix h0 h1 hln
  have hx := (gj_okm_ld hR.2.2.2.2 hs h0 (by decide)).2.2.1 rfl
  have kk := K p e R s m args below meth c H locs lsm Z X hZ hR hlc hl (gj_2I ⟨by omega, by omega⟩ ho) hk hn
  rw [List.map_cons, List.map_cons, gj_vR z0]
  refine va_bald X.1 X.2.1 X.2.2.2.2.2.2.2.1.1 (gj_at hR z0 z1) 0 2 (by rw [gj_e_i hs (Or.inr (Or.inl rfl))]; rfl) (gj_tys_at 2 (by decide)) v1 hd ?_
  rw [v2, gj_pN h0]
  exact kk
theorem gj_zald {z i len : Int} (hd : decode cc pc = .ok (.baload, 1)) (hs : S.2.1 z = (3, len)) (h0 : 0 ≤ i) (h1 : i < len) (hq : pc + 1 = q) (K : gj_W G l d mc ms y cc nL ret Q k n q ls (jI (M z i) :: st) S M) : gj_W G l d mc ms y cc nL ret Q k n pc ls (jI i :: jR z :: st) S M := by
  subst hq
  intro p e R s m args below meth c H locs lsm Z X hZ hR hlc hl ho hk hn
  obtain ⟨z0, z1⟩ := gj_in hR.2.2.2.1 hs (by decide)
  have hln : len < 2147483648 := by have := (hR.2.2.2.1.2.2 z).2; rw [hs] at this; exact this
  obtain ⟨v1, v2⟩ := gj_ix h0 h1 hln
  have hx := (gj_okm_ld hR.2.2.2.2 hs h0 (by decide)).2.2.2 rfl
  have kk := K p e R s m args below meth c H locs lsm Z X hZ hR hlc hl (gj_2I (by rcases hx with h | h <;> rw [h] <;> decide) ho) hk hn
  rw [List.map_cons, List.map_cons, gj_vR z0]
  refine va_zald X.1 X.2.1 X.2.2.2.2.2.2.2.1.1 (gj_at hR z0 z1) 0 3 (by rw [gj_e_i hs (Or.inr (Or.inr rfl))]; rfl) (gj_tys_at 3 (by decide)) v1 hd ?_
  rw [v2, gj_pN h0]
  exact kk
theorem gj_lald {z i len : Int} (hd : decode cc pc = .ok (.laload, 1)) (hs : S.2.1 z = (1, len)) (h0 : 0 ≤ i) (h1 : i < len) (hq : pc + 1 = q) (K : gj_W G l d mc ms y cc nL ret Q k n q ls (jL (M z i) :: st) S M) : gj_W G l d mc ms y cc nL ret Q k n pc ls (jI i :: jR z :: st) S M := by
  subst hq
  intro p e R s m args below meth c H locs lsm Z X hZ hR hlc hl ho hk hn
  obtain ⟨z0, z1⟩ := gj_in hR.2.2.2.1 hs (by decide)
  have hln : len < 2147483648 := by have := (hR.2.2.2.1.2.2 z).2; rw [hs] at this; exact this
  obtain ⟨v1, v2⟩ := gj_ix h0 h1 hln
  have hx := gj_okm_ld hR.2.2.2.2 hs h0 (by decide)
  have kk := K p e R s m args below meth c H locs lsm Z X hZ hR hlc hl (gj_2L (hx.2.1 rfl) ho) hk hn
  rw [List.map_cons, List.map_cons, gj_vR z0]
  refine va_lald X.1 X.2.1 X.2.2.2.2.2.2.2.1.1 (gj_at hR z0 z1) 0 1 (by rw [gj_e_l hs]; rfl) (gj_tys_at 1 (by decide)) v1 hd ?_
  rw [v2, gj_pN h0]
  exact kk
theorem gj_aald {z i len w : Int} {kd : Nat} (hd : decode cc pc = .ok (.aaload, 1)) (hs : S.2.1 z = (kd, len)) (hkd : kd = 4 ∨ kd = 5 ∨ kd = 6) (h0 : 0 ≤ i) (h1 : i < len) (hw : S.2.2 z i = w) (hq : pc + 1 = q) (K : gj_W G l d mc ms y cc nL ret Q k n q ls (jR w :: st) S M) : gj_W G l d mc ms y cc nL ret Q k n pc ls (jI i :: jR z :: st) S M := by
  subst hq
  subst hw
  intro p e R s m args below meth c H locs lsm Z X hZ hR hlc hl ho hk hn
  obtain ⟨z0, z1⟩ := gj_in hR.2.2.2.1 hs (by omega)
  have hln : len < 2147483648 := by have := (hR.2.2.2.1.2.2 z).2; rw [hs] at this; exact this
  obtain ⟨v1, v2⟩ := gj_ix h0 h1 hln
  have kk := K p e R s m args below meth c H locs lsm Z X hZ hR hlc hl (gj_pR (gj_tail (gj_tail ho))) hk hn
  rw [List.map_cons, List.map_cons, gj_vR z0]
  have hP := gj_at hR z0 z1
  rw [gj_e_r hs hkd] at hP
  have hc := hP 0 _ rfl
  have hlt : (Int32.ofInt i).toNatClampNeg < len.toNat := by rw [v2]; omega
  refine W.aald (v := gj_rv G (S.2.2 z i)) (ty := gj_tyk kd) X.1 X.2.1 hc ((X.2.2.2.2.2.2.2.1.1.2 kd _ (gj_tys_at kd (by omega))).1 len.toNat (fun j : Nat => va_rf (gj_ro G (S.2.2 z j)))) (by rcases hkd with rfl | rfl | rfl <;> rfl) (fun q => by cases q) (by show ¬ (_ ∨ (arrV _ _ _).slots.size ≤ _); rw [arrV_size]; exact v1) ?_ rfl rfl hd kk
  show (arrV _ _ _).slots[_]? = _
  rw [arrV_read _ _ hlt, v2]
  show some (gj_rv G (S.2.2 z ((i.toNat : Nat) : Int))) = some (gj_rv G (S.2.2 z i))
  rw [gj_pN h0]
theorem gj_alen {z len : Int} {kd : Nat} (hd : decode cc pc = .ok (.arraylength, 1)) (hs : S.2.1 z = (kd, len)) (hk7 : kd < 7) (hq : pc + 1 = q) (K : gj_W G l d mc ms y cc nL ret Q k n q ls (jI len :: st) S M) : gj_W G l d mc ms y cc nL ret Q k n pc ls (jR z :: st) S M := by
  subst hq
  intro p e R s m args below meth c H locs lsm Z X hZ hR hlc hl ho hk hn
  obtain ⟨z0, z1⟩ := gj_in hR.2.2.2.1 hs (by omega)
  have hln := hR.2.2.2.1.2.2 z
  rw [hs] at hln
  have kk := K p e R s m args below meth c H locs lsm Z X hZ hR hlc hl (gj_1I ⟨by omega, hln.2⟩ ho) hk hn
  rw [List.map_cons, gj_vR z0]
  have e1 : Int32.ofNat len.toNat = Int32.ofInt len := by
    rw [← Int32.ofInt_eq_ofNat, gj_pN hln.1]
  have e2 : ∃ x : vp_A, gj_e G S M z = .inl (gj_cA G kd, x) ∧ x.1 = len.toNat := by
    have : kd = 0 ∨ kd = 1 ∨ kd = 2 ∨ kd = 3 ∨ kd = 4 ∨ kd = 5 ∨ kd = 6 := by omega
    rcases this with rfl | rfl | rfl | rfl | rfl | rfl | rfl
    · exact ⟨_, gj_e_i hs (Or.inl rfl), rfl⟩
    · exact ⟨_, gj_e_l hs, rfl⟩
    · exact ⟨_, gj_e_i hs (Or.inr (Or.inl rfl)), rfl⟩
    · exact ⟨_, gj_e_i hs (Or.inr (Or.inr rfl)), rfl⟩
    · exact ⟨_, gj_e_r hs (Or.inl rfl), rfl⟩
    · exact ⟨_, gj_e_r hs (Or.inr (Or.inl rfl)), rfl⟩
    · exact ⟨_, gj_e_r hs (Or.inr (Or.inr rfl)), rfl⟩
  obtain ⟨x, hx1, hx2⟩ := e2
  exact va_alen X.1 X.2.1 X.2.2.2.2.2.2.2.1.1 (gj_at hR z0 z1) 0 kd (by rw [hx1]; rfl) (gj_tys_at kd hk7) (by rw [hx2]; exact e1) hd kk
-- a cell changes
theorem gj_e_congr {S' : gj_S} {M' : gj_M} {z : Int} (h1 : S'.2.1 z = S.2.1 z) (h2 : ∀ b, S'.2.2 z b = S.2.2 z b) (h3 : ∀ b, M' z b = M z b) : gj_e G S' M' z = gj_e G S M z := by
  have e : ∀ ci i, gj_fv G S' M' z ci i = gj_fv G S M z ci i := fun ci i => by unfold gj_fv; rw [h2, h3]
  have e2 : gj_fv G S' M' z = gj_fv G S M z := funext fun ci => funext fun i => e ci i
  unfold gj_e
  rw [h1, e2]
  simp only [h2, h3]
theorem gj_R.put {H H1 : Heap} (hR : gj_R G S M H) {z : Int} {S' : gj_S} {M' : gj_M} (z0 : 0 ≤ z) (hsz : H1.size = H.size) (hoth : ∀ q : Nat, q ≠ gj_base G + z.toNat → H1[q]? = H[q]?) (hat : va_at (gj_D G) vwCl (gj_base G + z.toNat, gj_e G S' M' z) H1)
    (hS1 : S'.1 = S.1) (h1 : ∀ w, w ≠ z → S'.2.1 w = S.2.1 w) (h2 : ∀ w, w ≠ z → ∀ b, S'.2.2 w b = S.2.2 w b) (h3 : ∀ w, w ≠ z → ∀ b, M' w b = M w b) (hS' : gj_okS S') (hM' : gj_okm S' M') : gj_R G S' M' H1 := by
  obtain ⟨a1, a2, a3, a4, a5⟩ := hR
  refine ⟨by rw [hsz, a1, hS1], fun q hq => ?_, fun o hoo => ?_, hS', hM'⟩
  · rw [hoth q (by omega)]
    exact a2 q hq
  · by_cases hz : (o : Int) = z
    · subst hz
      exact hat
    · have hP : va_P (gj_D G) vwCl [(gj_base G + o, gj_e G S M o)] H := by
        have := gj_at (G := G) ⟨a1, a2, a3, a4, a5⟩ (z := o) (by omega) (by rw [← hS1]; exact hoo)
        exact this
      have h := hP.kept (H1 := H1) (fun k q hq => by
        cases k with
        | zero => cases hq; exact hoth _ (by show gj_base G + o ≠ _; omega)
        | succ k => cases hq)
      have h4 := h 0 _ rfl
      rw [gj_e_congr (h1 _ hz) (h2 _ hz) (h3 _ hz)]
      exact h4
theorem gj_okm.up {z i x : Int} (hM : gj_okm S M) (hx : ∀ j : Nat, (j : Int) = i → gj_okx (gj_ty (S.2.1 z).1 j) x) : gj_okm S (gj_up M z i x) := by
  intro o j
  unfold gj_up
  by_cases h : o = z ∧ (j : Int) = i
  · rw [if_pos h, h.1]
    exact hx j h.2
  · rw [if_neg h]
    exact hM o j
theorem gj_locs {locs : List Loc} {a i : Nat} (h : ∀ q ∈ locs, gj_base G ≤ q.base) : ∀ q ∈ locs ++ [(⟨gj_base G + a, i⟩ : Loc)], gj_base G ≤ q.base := by
  intro q hq
  rcases List.mem_append.mp hq with h1 | h1
  · exact h q h1
  · rw [List.mem_singleton] at h1
    subst h1
    exact Nat.le_add_right _ _
theorem gj_up_cell {z i : Int} {x : Int} (h0 : 0 ≤ i) (f : Int → Value) : updV (fun j : Nat => f (M z j)) i.toNat (f x) = fun j : Nat => f (gj_up M z i x z j) := by
  funext j
  unfold updV gj_up
  by_cases h : j = i.toNat
  · subst h
    rw [if_pos rfl, if_pos ⟨rfl, gj_pN h0⟩]
  · rw [if_neg h, if_neg (fun q => h (by omega))]
theorem gj_iast {z i x len : Int} (hd : decode cc pc = .ok (.iastore, 1)) (hs : S.2.1 z = (0, len)) (h0 : 0 ≤ i) (h1 : i < len) (hq : pc + 1 = q) (K : gj_W G l d mc ms y cc nL ret Q k n q ls st S (gj_up M z i x)) : gj_W G l d mc ms y cc nL ret Q k n pc ls (jI x :: jI i :: jR z :: st) S M := by
  subst hq
  intro p e R s m args below meth c H locs lsm Z X hZ hR hlc hl ho hk hn
  obtain ⟨z0, z1⟩ := gj_in hR.2.2.2.1 hs (by decide)
  have hln : len < 2147483648 := by have := (hR.2.2.2.1.2.2 z).2; rw [hs] at this; exact this
  obtain ⟨v1, v2⟩ := gj_ix h0 h1 hln
  rw [List.map_cons, List.map_cons, List.map_cons, gj_vR z0]
  have hP := gj_at hR z0 z1
  rw [gj_e_i hs (Or.inl rfl)] at hP
  have hc := hP 0 _ rfl
  refine W.iast X.1 X.2.1 hc ((X.2.2.2.2.2.2.2.1.1.2 0 _ (gj_tys_at 0 (by decide))).1 len.toNat (fun j : Nat => .int (Int32.ofInt (M z j)))) (fun q => by cases q) (by show ¬ (_ ∨ (arrV _ _ _).slots.size ≤ _); rw [arrV_size]; exact v1) rfl rfl hd fun H1 e1 e2 e3 => ?_
  refine K p e R s m args below meth c H1 _ lsm Z X hZ (hR.put z0 e2 e3 ?_ rfl (fun _ _ => rfl) (fun _ _ _ => rfl) (fun w hw b => if_neg (fun q => hw q.1)) hR.2.2.2.1 (hR.2.2.2.2.up fun j hj => ?_)) (gj_locs hlc) hl (gj_tail (gj_tail (gj_tail ho))) hk hn
  · rw [gj_e_i hs (Or.inl rfl)]
    show H1[_]? = some (vp_cell _ _)
    rw [e1, vp_cell_i, vp_cell_i, arrV_store, v2]
    exact congrArg (fun f => some (arrV _ _ f)) (gj_up_cell h0 (fun x => .int (Int32.ofInt x)))
  · rw [hs]
    exact ⟨fun _ => gj_o0 ho, (fun q => by cases q), (fun q => by cases q), (fun q => by cases q)⟩
theorem gj_zast {z i x len : Int} (hd : decode cc pc = .ok (.bastore, 1)) (hs : S.2.1 z = (3, len)) (h0 : 0 ≤ i) (h1 : i < len) (hx : x = 0 ∨ x = 1) (hq : pc + 1 = q) (K : gj_W G l d mc ms y cc nL ret Q k n q ls st S (gj_up M z i x)) : gj_W G l d mc ms y cc nL ret Q k n pc ls (jI x :: jI i :: jR z :: st) S M := by
  subst hq
  intro p e R s m args below meth c H locs lsm Z X hZ hR hlc hl ho hk hn
  obtain ⟨z0, z1⟩ := gj_in hR.2.2.2.1 hs (by decide)
  have hln : len < 2147483648 := by have := (hR.2.2.2.1.2.2 z).2; rw [hs] at this; exact this
  obtain ⟨v1, v2⟩ := gj_ix h0 h1 hln
  rw [List.map_cons, List.map_cons, List.map_cons, gj_vR z0]
  have hP := gj_at hR z0 z1
  rw [gj_e_i hs (Or.inr (Or.inr rfl))] at hP
  have hc := hP 0 _ rfl
  refine W.zast X.1 X.2.1 hc ((X.2.2.2.2.2.2.2.1.1.2 3 _ (gj_tys_at 3 (by decide))).1 len.toNat (fun j : Nat => .int (Int32.ofInt (M z j)))) (fun q => by cases q) (by show ¬ (_ ∨ (arrV _ _ _).slots.size ≤ _); rw [arrV_size]; exact v1) rfl rfl hd fun H1 e1 e2 e3 => ?_
  refine K p e R s m args below meth c H1 _ lsm Z X hZ (hR.put z0 e2 e3 ?_ rfl (fun _ _ => rfl) (fun _ _ _ => rfl) (fun w hw b => if_neg (fun q => hw q.1)) hR.2.2.2.1 (hR.2.2.2.2.up fun j hj => ?_)) (gj_locs hlc) hl (gj_tail (gj_tail (gj_tail ho))) hk hn
  · rw [gj_e_i hs (Or.inr (Or.inr rfl))]
    show H1[_]? = some (vp_cell _ _)
    rw [e1, gj_narZ hx, vp_cell_i, vp_cell_i, arrV_store, v2]
    exact congrArg (fun f => some (arrV _ _ f)) (gj_up_cell h0 (fun x => .int (Int32.ofInt x)))
  · rw [hs]
    exact ⟨(fun q => by cases q), (fun q => by cases q), (fun q => by cases q), fun _ => hx⟩
theorem gj_narB {x : Int} (h : -128 ≤ x ∧ x < 128) : narrow .byte (.int (Int32.ofInt x)) = .int (Int32.ofInt x) := by
  have e : (Int32.ofInt x).toInt8.toInt32 = Int32.ofInt x := by
    refine Int32.toInt_inj.1 ?_
    rw [Int8.toInt_toInt32, Int32.toInt_toInt8, gj_toI' ⟨by omega, by omega⟩]
    show x.bmod 256 = x
    rw [Int.bmod_def]
    split <;> omega
  rw [← e]
  exact pk_nb _
theorem gj_bast {z i x len : Int} (hd : decode cc pc = .ok (.bastore, 1)) (hs : S.2.1 z = (2, len)) (h0 : 0 ≤ i) (h1 : i < len) (hx : -128 ≤ x ∧ x < 128) (hq : pc + 1 = q) (K : gj_W G l d mc ms y cc nL ret Q k n q ls st S (gj_up M z i x)) : gj_W G l d mc ms y cc nL ret Q k n pc ls (jI x :: jI i :: jR z :: st) S M := by
  subst hq
  intro p e R s m args below meth c H locs lsm Z X hZ hR hlc hl ho hk hn
  obtain ⟨z0, z1⟩ := gj_in hR.2.2.2.1 hs (by decide)
  have hln : len < 2147483648 := by have := (hR.2.2.2.1.2.2 z).2; rw [hs] at this; exact this
  obtain ⟨v1, v2⟩ := gj_ix h0 h1 hln
  rw [List.map_cons, List.map_cons, List.map_cons, gj_vR z0]
  have hP := gj_at hR z0 z1
  rw [gj_e_i hs (Or.inr (Or.inl rfl))] at hP
  have hc := hP 0 _ rfl
  refine W.bast X.1 X.2.1 hc ((X.2.2.2.2.2.2.2.1.1.2 2 _ (gj_tys_at 2 (by decide))).1 len.toNat (fun j : Nat => .int (Int32.ofInt (M z j)))) (fun q => by cases q) (by show ¬ (_ ∨ (arrV _ _ _).slots.size ≤ _); rw [arrV_size]; exact v1) rfl rfl hd fun H1 e1 e2 e3 => ?_
  refine K p e R s m args below meth c H1 _ lsm Z X hZ (hR.put z0 e2 e3 ?_ rfl (fun _ _ => rfl) (fun _ _ _ => rfl) (fun w hw b => if_neg (fun q => hw q.1)) hR.2.2.2.1 (hR.2.2.2.2.up fun j hj => ?_)) (gj_locs hlc) hl (gj_tail (gj_tail (gj_tail ho))) hk hn
  · rw [gj_e_i hs (Or.inr (Or.inl rfl))]
    show H1[_]? = some (vp_cell _ _)
    rw [e1, gj_narB hx, vp_cell_i, vp_cell_i, arrV_store, v2]
    exact congrArg (fun f => some (arrV _ _ f)) (gj_up_cell h0 (fun x => .int (Int32.ofInt x)))
  · rw [hs]
    exact ⟨(fun q => by cases q), (fun q => by cases q), (fun _ => hx), (fun q => by cases q)⟩
theorem gj_last {z i x len : Int} (hd : decode cc pc = .ok (.lastore, 1)) (hs : S.2.1 z = (1, len)) (h0 : 0 ≤ i) (h1 : i < len) (hq : pc + 1 = q) (K : gj_W G l d mc ms y cc nL ret Q k n q ls st S (gj_up M z i x)) : gj_W G l d mc ms y cc nL ret Q k n pc ls (jL x :: jI i :: jR z :: st) S M := by
  subst hq
  intro p e R s m args below meth c H locs lsm Z X hZ hR hlc hl ho hk hn
  obtain ⟨z0, z1⟩ := gj_in hR.2.2.2.1 hs (by decide)
  have hln : len < 2147483648 := by have := (hR.2.2.2.1.2.2 z).2; rw [hs] at this; exact this
  obtain ⟨v1, v2⟩ := gj_ix h0 h1 hln
  rw [List.map_cons, List.map_cons, List.map_cons, gj_vR z0]
  have hP := gj_at hR z0 z1
  rw [gj_e_l hs] at hP
  have hc := hP 0 _ rfl
  refine W.last X.1 X.2.1 hc ((X.2.2.2.2.2.2.2.1.1.2 1 _ (gj_tys_at 1 (by decide))).1 len.toNat (fun j : Nat => .long (Int64.ofInt (M z j)))) (fun q => by cases q) (by show ¬ (_ ∨ (arrV _ _ _).slots.size ≤ _); rw [arrV_size]; exact v1) rfl rfl hd fun H1 e1 e2 e3 => ?_
  refine K p e R s m args below meth c H1 _ lsm Z X hZ (hR.put z0 e2 e3 ?_ rfl (fun _ _ => rfl) (fun _ _ _ => rfl) (fun w hw b => if_neg (fun q => hw q.1)) hR.2.2.2.1 (hR.2.2.2.2.up fun j hj => ?_)) (gj_locs hlc) hl (gj_tail (gj_tail (gj_tail ho))) hk hn
  · rw [gj_e_l hs]
    show H1[_]? = some (vp_cell _ _)
    rw [e1, vp_cell_l, vp_cell_l, arrV_store, v2]
    exact congrArg (fun f => some (arrV _ _ f)) (gj_up_cell h0 (fun x => .long (Int64.ofInt x)))
  · rw [hs]
    exact ⟨(fun q => by cases q), (fun _ => gj_O0 ho), (fun q => by cases q), (fun q => by cases q)⟩
-- fields
/-- the field that the entry idx of the class own names: the k-th of the N fields of class ci, its type t, final or not -/
def gj_F (own : String) (idx ci k N t : Nat) (fin : Bool) : Prop := ∃ (C : String) (T : u_T), vwCl[ci]? = some (C, T, N) ∧ Cond.fieldLink own idx C (T k).2.1 (T k).2.2.1 ∈ gj_TB ∧ k < N ∧ (T k).1 = C ∧ (T k).2.2.2 = fin ∧ gj_ft ci k = t
theorem gj_fs {z : Int} {ci N i : Nat} (hi : i < N) : ((List.range ((N : Int)).toNat).map (gj_fv G S M z ci))[i]? = some (gj_fv G S M z ci i) := by
  rw [Int.toNat_natCast, List.getElem?_map, List.getElem?_range hi]
  rfl
theorem gj_getX {z : Int} {idx ci i N t : Nat} {fin : Bool} {v : gj_V} (hd : decode cc pc = .ok (.getfield idx, 3)) (hf : gj_F y.cls idx ci i N t fin) (hs : S.2.1 z = (10 + ci, (N : Int))) (hk99 : ci ≠ 89) (hv : gj_fv G S M z ci i = gj_v G v) (hok : gj_okS S → gj_okm S M → gj_okv v) (hq : pc + 3 = q) (K : gj_W G l d mc ms y cc nL ret Q k n q ls (v :: st) S M) : gj_W G l d mc ms y cc nL ret Q k n pc ls (jR z :: st) S M := by
  subst hq
  intro p e R s m args below meth c H locs lsm Z X hZ hR hlc hl ho hk hn
  obtain ⟨z0, z1⟩ := gj_in hR.2.2.2.1 hs (by omega)
  obtain ⟨C, T, f1, f2, f3, f4, f5, f6⟩ := hf
  have kk := K p e R s m args below meth c H locs lsm Z X hZ hR hlc hl ⟨ho.1, fun w hw => by
    rcases List.mem_cons.mp hw with rfl | hw
    · exact hok hR.2.2.2.1 hR.2.2.2.2
    · exact ho.2 w (List.mem_cons_of_mem _ hw)⟩ hk hn
  rw [List.map_cons] at kk
  rw [List.map_cons, gj_vR z0]
  refine va_get (C := C) (T := T) (N := N) (ref := C) X.1 X.2.1 X.2.2.2.2.2.1 (gj_cls f1).1 X.2.2.2.2.1 X.2.2.2.2.2.2.2.1.1 (gj_at hR z0 z1) 0 (fs := (List.range ((N : Int)).toNat).map (gj_fv G S M z ci)) (by rw [gj_e_o hs]; rfl) f1 i f3 (X.2.2.2.2.2.1 _ f2) (fun x hx => by rw [f4] at hx; exact hx) (v := gj_v G v) (by rw [gj_fs f3, hv]) hd kk
theorem gj_okf {z : Int} {ci i : Nat} {len : Int} (hM : gj_okm S M) (hs : S.2.1 z = (10 + ci, len)) : gj_okx (gj_ft ci i) (M z i) := by
  have h := hM z i
  rw [hs] at h
  unfold gj_ty at h
  rw [if_neg (by omega), if_neg (by omega)] at h
  have e2 : 10 + ci - 10 = ci := by omega
  rw [e2] at h
  exact h
theorem gj_getI {z : Int} {idx ci i N : Nat} {fin : Bool} (hd : decode cc pc = .ok (.getfield idx, 3)) (hf : gj_F y.cls idx ci i N 0 fin) (hs : S.2.1 z = (10 + ci, (N : Int))) (hk99 : ci ≠ 89) (hq : pc + 3 = q) (K : gj_W G l d mc ms y cc nL ret Q k n q ls (jI (M z i) :: st) S M) : gj_W G l d mc ms y cc nL ret Q k n pc ls (jR z :: st) S M := by
  have f6 : gj_ft ci i = 0 := hf.choose_spec.choose_spec.2.2.2.2.2
  refine gj_getX hd hf hs hk99 ?_ (fun _ hM => ?_) hq K
  · unfold gj_fv
    rw [f6]
    rfl
  · have h := gj_okf (i := i) hM hs
    rw [f6] at h
    exact h.1 rfl
theorem gj_getZ {z : Int} {idx ci i N : Nat} {fin : Bool} (hd : decode cc pc = .ok (.getfield idx, 3)) (hf : gj_F y.cls idx ci i N 3 fin) (hs : S.2.1 z = (10 + ci, (N : Int))) (hk99 : ci ≠ 89) (hq : pc + 3 = q) (K : gj_W G l d mc ms y cc nL ret Q k n q ls (jI (M z i) :: st) S M) : gj_W G l d mc ms y cc nL ret Q k n pc ls (jR z :: st) S M := by
  have f6 : gj_ft ci i = 3 := hf.choose_spec.choose_spec.2.2.2.2.2
  refine gj_getX hd hf hs hk99 ?_ (fun _ hM => ?_) hq K
  · unfold gj_fv
    rw [f6]
    rfl
  · have h := gj_okf (i := i) hM hs
    rw [f6] at h
    rcases h.2.2.2 rfl with h | h
    · rw [h]; exact ⟨by decide, by decide⟩
    · rw [h]; exact ⟨by decide, by decide⟩
theorem gj_getL {z : Int} {idx ci i N : Nat} {fin : Bool} (hd : decode cc pc = .ok (.getfield idx, 3)) (hf : gj_F y.cls idx ci i N 1 fin) (hs : S.2.1 z = (10 + ci, (N : Int))) (hk99 : ci ≠ 89) (hq : pc + 3 = q) (K : gj_W G l d mc ms y cc nL ret Q k n q ls (jL (M z i) :: st) S M) : gj_W G l d mc ms y cc nL ret Q k n pc ls (jR z :: st) S M := by
  have f6 : gj_ft ci i = 1 := hf.choose_spec.choose_spec.2.2.2.2.2
  refine gj_getX hd hf hs hk99 ?_ (fun _ hM => ?_) hq K
  · unfold gj_fv
    rw [f6]
    rfl
  · have h := gj_okf (i := i) hM hs
    rw [f6] at h
    exact h.2.1 rfl
theorem gj_getR {z w : Int} {idx ci i N : Nat} {fin : Bool} (hd : decode cc pc = .ok (.getfield idx, 3)) (hf : gj_F y.cls idx ci i N 4 fin) (hs : S.2.1 z = (10 + ci, (N : Int))) (hk99 : ci ≠ 89) (hw : S.2.2 z i = w) (hq : pc + 3 = q) (K : gj_W G l d mc ms y cc nL ret Q k n q ls (jR w :: st) S M) : gj_W G l d mc ms y cc nL ret Q k n pc ls (jR z :: st) S M := by
  subst hw
  have f6 : gj_ft ci i = 4 := hf.choose_spec.choose_spec.2.2.2.2.2
  refine gj_getX (v := jR (S.2.2 z i)) hd hf hs hk99 ?_ (fun _ _ => trivial) hq K
  unfold gj_fv
  rw [f6]
  rfl
end GJ3
end
section
/-! OWN LAYER: stores into fields, new objects and arrays, calls -/
section GJ4
variable {G : gj_G} {l : Launch} {d mc ms : Nat} {y : MethodName} {cc : ByteArray} {nL : Nat} {ret : Option FieldType} {Q : Option gj_V → gj_S → gj_M → Prop} {k n pc q : Nat} {ls : List (Nat × gj_V)} {st st' : List gj_V} {S : gj_S} {M : gj_M}
theorem gj_vV {N j : Nat} {F : Nat → Value} (h : j < N) : vp_V ((List.range ((N : Int)).toNat).map F) j = F j := by
  unfold vp_V
  rw [Int.toNat_natCast, List.getD_eq_getElem?_getD, List.getElem?_map, List.getElem?_range h]
  rfl
theorem gj_putX {z x : Int} {idx ci i N t : Nat} {v : gj_V} (hd : decode cc pc = .ok (.putfield idx, 3)) (hf : gj_F y.cls idx ci i N t false) (hs : S.2.1 z = (10 + ci, (N : Int))) (hk99 : ci ≠ 89)
    (hty : ∀ ty : FieldType, gj_ftc ty = t → narrow ty (gj_v G v) = gj_v G v ∧ fits ty (gj_v G v) = true) (hfv : gj_fv G S (gj_up M z i x) z ci i = gj_v G v) (hokx : gj_okv v → gj_okx t x) (hq : pc + 3 = q) (K : gj_W G l d mc ms y cc nL ret Q k n q ls st S (gj_up M z i x)) : gj_W G l d mc ms y cc nL ret Q k n pc ls (v :: jR z :: st) S M := by
  subst hq
  intro p e R s m args below meth c H locs lsm Z X hZ hR hlc hl ho hk hn
  obtain ⟨z0, z1⟩ := gj_in hR.2.2.2.1 hs (by omega)
  obtain ⟨C, T, f1, f2, f3, f4, f5, f6⟩ := hf
  have hts := X.2.2.2.2.2.1
  have hK := X.2.2.2.2.2.2.2.1.1
  obtain ⟨g1, g2, g3⟩ := gj_cls f1
  have hap := va_apart (own := y.cls) hts g1 _ g2 g3 hK f1
  have hP := gj_at hR z0 z1
  rw [gj_e_o hs] at hP
  obtain ⟨r, h1, cell, q1, q2, q3, q4⟩ := hP 0 _ rfl
  have hr : r = (C, T, N) := Option.some.inj (h1.symm.trans f1)
  subst hr
  obtain ⟨hS, hfc, kC, hkC, hkind⟩ := hK.1 ci _ f1
  obtain ⟨cf, kf, fi, f, hi, hsl⟩ := hS i f3
  have hlay := hts _ (g1 _ (u_in_lay f3))
  unfold u_lay at hlay
  rw [if_neg (by rw [show (T i).2.2.2 = false from f5]; decide)] at hlay
  have hst := (u_facts hfc hkC (u_lays hts g1 f3) hi).1
  obtain ⟨n1, n2⟩ := hty ((gj_fts.getD ci tyX0) i) f6
  have h6 := u_store hfc hkC hkind hlay hi (g2 i f3) n1 n2
  rw [List.map_cons, List.map_cons, gj_vR z0]
  refine W.putK X.1 X.2.1 (f := f) ⟨X.2.2.2.2.1, hts _ f2, ⟨_, _, _, by rw [show (T i).1 = C from f4] at hi; exact hi⟩, hst⟩ (by rw [q2]; exact h6) q1 q3 (by rw [hsl]; exact k2_hasslot (q4 i f3)) rfl rfl hd fun H' e1 e2 e3 => ?_
  rw [hsl] at e1 ⊢
  refine K p e R s m args below meth c H' _ lsm Z X hZ (hR.put z0 e2 e3 ?_ rfl (fun _ _ => rfl) (fun _ _ _ => rfl) (fun w hw b => if_neg (fun q => hw q.1)) hR.2.2.2.1 (hR.2.2.2.2.up fun j hj => ?_)) (gj_locs hlc) hl (gj_tail (gj_tail ho)) hk hn
  · rw [gj_e_o hs]
    refine ⟨_, h1, t_OB.to (V := updV (vp_V _) i (gj_v G v)) ⟨_, e1, q2, q3, t_set q4 hap f3 _⟩ (fun j hj => ?_)⟩
    rw [gj_vV hj]
    unfold updV
    by_cases hji : j = i
    · subst hji
      rw [if_pos rfl, hfv]
    · rw [if_neg hji, gj_vV hj]
      unfold gj_fv gj_up
      rw [if_neg (show ¬ (z = z ∧ (j : Int) = (i : Int)) from fun q => hji (by omega))]
  · have : j = i := by omega
    subst this
    rw [hs]
    unfold gj_ty
    rw [if_neg (by omega), if_neg (by omega), show 10 + ci - 10 = ci by omega, f6]
    exact hokx (ho.2 v List.mem_cons_self)
theorem gj_ftc0 {ty : FieldType} (h : gj_ftc ty = 0) : ty = .int := by cases ty <;> first | rfl | cases h
theorem gj_ftc1 {ty : FieldType} (h : gj_ftc ty = 1) : ty = .long := by cases ty <;> first | rfl | cases h
theorem gj_ftc3 {ty : FieldType} (h : gj_ftc ty = 3) : ty = .boolean := by cases ty <;> first | rfl | cases h
theorem gj_up_at {z i x : Int} : gj_up M z i x z i = x := if_pos ⟨rfl, rfl⟩
theorem gj_putI {z x : Int} {idx ci i N : Nat} (hd : decode cc pc = .ok (.putfield idx, 3)) (hf : gj_F y.cls idx ci i N 0 false) (hs : S.2.1 z = (10 + ci, (N : Int))) (hk99 : ci ≠ 89) (hq : pc + 3 = q) (K : gj_W G l d mc ms y cc nL ret Q k n q ls st S (gj_up M z i x)) : gj_W G l d mc ms y cc nL ret Q k n pc ls (jI x :: jR z :: st) S M := by
  have f6 : gj_ft ci i = 0 := hf.choose_spec.choose_spec.2.2.2.2.2
  refine gj_putX hd hf hs hk99 (fun ty h => by cases gj_ftc0 h; exact ⟨rfl, rfl⟩) ?_ (fun h => ⟨fun _ => h, (fun q => by cases q), (fun q => by cases q), (fun q => by cases q)⟩) hq K
  unfold gj_fv
  rw [f6, gj_up_at]
  rfl
theorem gj_putL {z x : Int} {idx ci i N : Nat} (hd : decode cc pc = .ok (.putfield idx, 3)) (hf : gj_F y.cls idx ci i N 1 false) (hs : S.2.1 z = (10 + ci, (N : Int))) (hk99 : ci ≠ 89) (hq : pc + 3 = q) (K : gj_W G l d mc ms y cc nL ret Q k n q ls st S (gj_up M z i x)) : gj_W G l d mc ms y cc nL ret Q k n pc ls (jL x :: jR z :: st) S M := by
  have f6 : gj_ft ci i = 1 := hf.choose_spec.choose_spec.2.2.2.2.2
  refine gj_putX hd hf hs hk99 (fun ty h => by cases gj_ftc1 h; exact ⟨rfl, rfl⟩) ?_ (fun h => ⟨(fun q => by cases q), (fun _ => h), (fun q => by cases q), (fun q => by cases q)⟩) hq K
  unfold gj_fv
  rw [f6, gj_up_at]
  rfl
theorem gj_putZ {z x : Int} {idx ci i N : Nat} (hd : decode cc pc = .ok (.putfield idx, 3)) (hf : gj_F y.cls idx ci i N 3 false) (hs : S.2.1 z = (10 + ci, (N : Int))) (hk99 : ci ≠ 89) (hx : x = 0 ∨ x = 1) (hq : pc + 3 = q) (K : gj_W G l d mc ms y cc nL ret Q k n q ls st S (gj_up M z i x)) : gj_W G l d mc ms y cc nL ret Q k n pc ls (jI x :: jR z :: st) S M := by
  have f6 : gj_ft ci i = 3 := hf.choose_spec.choose_spec.2.2.2.2.2
  refine gj_putX hd hf hs hk99 (fun ty h => by cases gj_ftc3 h; exact ⟨gj_narZ hx, by rcases hx with rfl | rfl <;> rfl⟩) ?_ (fun h => ⟨(fun q => by cases q), (fun q => by cases q), (fun q => by cases q), (fun _ => hx)⟩) hq K
  unfold gj_fv
  rw [f6, gj_up_at]
  rfl
def gj_upS (S : gj_S) (z i w : Int) : gj_S := (S.1, S.2.1, fun a b => if a = z ∧ b = i then w else S.2.2 a b)
theorem gj_rvF {w : Int} {ty : FieldType} (h : (∃ nm, ty = .object nm) ∨ ∃ t, ty = .array t) : narrow ty (gj_rv G w) = gj_rv G w ∧ fits ty (gj_rv G w) = true := by
  unfold gj_rv
  rcases h with ⟨nm, rfl⟩ | ⟨t, rfl⟩ <;> cases gj_ro G w <;> exact ⟨rfl, rfl⟩
/-- a final reference, in the constructor -/
theorem gj_putR {z w : Int} {idx ci i N : Nat} (hd : decode cc pc = .ok (.putfield idx, 3)) (hf : gj_F y.cls idx ci i N 4 true) (hs : S.2.1 z = (10 + ci, (N : Int))) (hk99 : ci ≠ 89) (hin : y.name = "<init>") (hcl : (vwCl[ci]?).map (·.1) = some y.cls) (hrt : (∃ nm, (gj_fts.getD ci tyX0) i = .object nm) ∨ ∃ t, (gj_fts.getD ci tyX0) i = .array t) (hq : pc + 3 = q)
    (K : gj_W G l d mc ms y cc nL ret Q k n q ls st (gj_upS S z i w) M) : gj_W G l d mc ms y cc nL ret Q k n pc ls (jR w :: jR z :: st) S M := by
  subst hq
  intro p e R s m args below meth c H locs lsm Z X hZ hR hlc hl ho hk hn
  obtain ⟨z0, z1⟩ := gj_in hR.2.2.2.1 hs (by omega)
  obtain ⟨C, T, f1, f2, f3, f4, f5, f6⟩ := hf
  have hts := X.2.2.2.2.2.1
  have hK := X.2.2.2.2.2.2.2.1.1
  obtain ⟨g1, g2, g3⟩ := gj_cls f1
  have hap := va_apart (own := y.cls) hts g1 _ g2 g3 hK f1
  have hP := gj_at hR z0 z1
  rw [gj_e_o hs] at hP
  obtain ⟨r, h1, cell, q1, q2, q3, q4⟩ := hP 0 _ rfl
  have hr : r = (C, T, N) := Option.some.inj (h1.symm.trans f1)
  subst hr
  obtain ⟨hS, hfc, kC, hkC, hkind⟩ := hK.1 ci _ f1
  obtain ⟨cf, kf, fi, f, hi, hsl⟩ := hS i f3
  have hlay := hts _ (g1 _ (u_in_lay f3))
  unfold u_lay at hlay
  rw [if_pos (show (T i).2.2.2 = true from f5)] at hlay
  have hst := (u_facts hfc hkC (u_lays hts g1 f3) hi).1
  have hCy : C = y.cls := by
    rw [f1] at hcl
    exact Option.some.inj hcl
  have hcf : m.cls = cf := by
    obtain ⟨_, _, c', _, _, _, -, -, hf', -, -, -, hown2, -⟩ := Cond.laysFinal_spec hlay
    have e1 : c' = cf := by have := hi.symm.trans hf'; simp at this; exact this.1.symm
    have hdecl : (T i).1 = y.cls := by rw [show (T i).1 = C from f4, hCy]
    rw [hdecl] at hown2
    rw [← e1]
    exact Option.some.inj (X.2.2.2.2.1.symm.trans hown2)
  obtain ⟨n1, n2⟩ := gj_rvF (G := G) (w := w) hrt
  have h6 := u_fits hfc hkC hkind (Or.inr hlay) hi (g2 i f3) n1 n2
  have hR' : gj_okS (gj_upS S z i w) := hR.2.2.2.1
  rw [List.map_cons, List.map_cons, gj_vR z0]
  refine W.putFinK X.1 X.2.1 X.2.2.2.2.1 (hts _ f2) (by rw [show (T i).1 = C from f4] at hi; exact hi) hst hcf (X.2.2.2.2.2.2.2.2.2.2.2.2.trans hin) (by rw [q2]; exact h6) q1 q3 (by rw [hsl]; exact k2_hasslot (q4 i f3)) rfl rfl hd fun H' e1 e2 e3 => ?_
  rw [hsl] at e1 ⊢
  refine K p e R s m args below meth c H' _ lsm Z X hZ (hR.put z0 e2 e3 ?_ rfl (fun _ _ => rfl) (fun w2 hw b => if_neg (fun q => hw q.1)) (fun _ _ _ => rfl) hR' hR.2.2.2.2) (gj_locs hlc) hl (gj_tail (gj_tail ho)) hk hn
  have hs' : (gj_upS S z i w).2.1 z = (10 + ci, (N : Int)) := hs
  rw [gj_e_o hs']
  refine ⟨_, h1, t_OB.to (V := updV (vp_V _) i (gj_rv G w)) ⟨_, e1, q2, q3, t_set q4 hap f3 _⟩ (fun j hj => ?_)⟩
  rw [gj_vV hj]
  unfold updV
  by_cases hji : j = i
  · subst hji
    rw [if_pos rfl]
    unfold gj_fv gj_upS
    rw [show gj_ft ci j = 4 from f6]
    show _ = gj_rv G (if z = z ∧ (j : Int) = (j : Int) then w else _)
    rw [if_pos ⟨rfl, rfl⟩]
  · rw [if_neg hji, gj_vV hj]
    unfold gj_fv gj_upS
    show _ = (if gj_ft ci j = 1 then Value.long (Int64.ofInt (M z j)) else if gj_ft ci j = 4 then gj_rv G (if z = z ∧ (j : Int) = (i : Int) then w else S.2.2 z j) else Value.int (Int32.ofInt (M z j)))
    rw [if_neg (show ¬ (z = z ∧ (j : Int) = (i : Int)) from fun q => hji (by omega))]
-- new
def gj_nS (S : gj_S) (kd : Nat) (len : Int) : gj_S := (S.1 + 1, (fun z => if z = S.1 then (kd, len) else S.2.1 z), fun z b => if z = S.1 then -1 else S.2.2 z b)
def gj_nM (S : gj_S) (M : gj_M) : gj_M := fun z b => if z = S.1 then 0 else M z b
theorem gj_okx_0 (t : Nat) : gj_okx t 0 := ⟨fun _ => ⟨by decide, by decide⟩, fun _ => ⟨by decide, by decide⟩, fun _ => ⟨by decide, by decide⟩, fun _ => Or.inl rfl⟩
theorem gj_nS_ok {kd : Nat} {len : Int} (hS : gj_okS S) (h : 0 ≤ len ∧ len < 2147483648) : gj_okS (gj_nS S kd len) := by
  obtain ⟨a, b, c⟩ := hS
  refine ⟨by show 0 ≤ S.1 + 1; omega, fun z hz => ?_, fun z => ?_⟩
  · have hz' : z < 0 ∨ S.1 + 1 ≤ z := hz
    show (if z = S.1 then (kd, len) else S.2.1 z) = _
    rw [if_neg (by omega)]
    exact b z (by omega)
  · show 0 ≤ (if z = S.1 then (kd, len) else S.2.1 z).2 ∧ (if z = S.1 then (kd, len) else S.2.1 z).2 < _
    split
    · exact h
    · exact c z
theorem gj_nM_ok {kd : Nat} {len : Int} (hM : gj_okm S M) : gj_okm (gj_nS S kd len) (gj_nM S M) := by
  intro o i
  show gj_okx (gj_ty (if o = S.1 then (kd, len) else S.2.1 o).1 i) (if o = S.1 then 0 else M o i)
  split
  · exact gj_okx_0 _
  · exact hM o i
theorem gj_R.grow {H H1 : Heap} (hR : gj_R G S M H) {kd : Nat} {len : Int} (hlen : 0 ≤ len ∧ len < 2147483648) (hsz : H1.size = H.size + 1) (hold : ∀ q : Nat, q < H.size → H1[q]? = H[q]?) (hat : va_at (gj_D G) vwCl (H.size, gj_e G (gj_nS S kd len) (gj_nM S M) S.1) H1) : gj_R G (gj_nS S kd len) (gj_nM S M) H1 := by
  obtain ⟨a1, a2, a3, a4, a5⟩ := hR
  have h0 := a4.1
  refine ⟨by show H1.size = gj_base G + (S.1 + 1).toNat; omega, fun q hq => ?_, fun o hoo => ?_, gj_nS_ok a4 hlen, gj_nM_ok a5⟩
  · rw [hold q (by omega)]
    exact a2 q hq
  · have hoo' : (o : Int) < S.1 + 1 := hoo
    by_cases hz : (o : Int) = S.1
    · rw [hz, show gj_base G + o = H.size by omega]
      exact hat
    · have hP : va_P (gj_D G) vwCl [(gj_base G + o, gj_e G S M o)] H := by
        have := gj_at (G := G) ⟨a1, a2, a3, a4, a5⟩ (z := o) (by omega) (by omega)
        exact this
      have h := hP.kept (H1 := H1) (fun k q hq => by
        cases k with
        | zero => cases hq; exact hold _ (by show gj_base G + o < _; omega)
        | succ k => cases hq)
      rw [gj_e_congr (S := S) (M := M) (show (gj_nS S kd len).2.1 o = _ from if_neg hz) (fun b => if_neg hz) (fun b => if_neg hz)]
      exact h 0 _ rfl
theorem gj_nRef {H : Heap} (hR : gj_R G S M H) : gj_v G (jR S.1) = .ref H.size := by
  rw [gj_vR hR.2.2.2.1.1, hR.1]
def gj_dv : FieldType → Bool
  | .int => true
  | .long => true
  | .byte => true
  | .boolean => true
  | .object _ => true
  | .array _ => true
  | _ => false
theorem gj_cdv : ∀ ci, ci < 11 → ∀ j, j < 60 → gj_dv ((gj_fts.getD ci tyX0) j) = true := by decide +kernel
theorem gj_dflt {ty : FieldType} (h : gj_dv ty = true) : defaultValue ty = if gj_ftc ty = 1 then Value.long (Int64.ofInt 0) else if gj_ftc ty = 4 then gj_rv G (-1) else Value.int (Int32.ofInt 0) := by
  cases ty <;> first | rfl | cases h
theorem gj_new {idx ci N : Nat} {C : String} {T : u_T} (hd : decode cc pc = .ok (.new idx, 3)) (hc : vwCl[ci]? = some (C, T, N)) (hcl : Cond.classLink y.cls idx C ∈ gj_TB) (hins : Cond.instantiable C N ∈ gj_TB) (hini : Cond.initialized C ∈ gj_TB) (hN : N < 100) (hmc : k + 1 ≤ mc) (hms : n + N ≤ ms) (hq : pc + 3 = q)
    (K : gj_W G l d mc ms y cc nL ret Q (k + 1) (n + N) q ls (jR S.1 :: st) (gj_nS S (10 + ci) N) (gj_nM S M)) : gj_W G l d mc ms y cc nL ret Q k n pc ls st S M := by
  subst hq
  intro p e R s m args below meth c H locs lsm Z X hZ hR hlc hl ho hk hn
  have hts := X.2.2.2.2.2.1
  have hK := X.2.2.2.2.2.2.2.1.1
  obtain ⟨g1, g2, g3⟩ := gj_cls hc
  have hKn := hK.1 ci _ hc
  refine W.newcK X.1 X.2.1 X.2.2.2.2.1 (hts _ hcl) (hts _ hins) (hts _ hini) rfl hd (by rw [X.2.2.2.2.2.2.2.2.2.2.1]; exact hmc) (by rw [X.2.2.2.2.2.2.2.2.2.2.2.1]; exact hms) hKn.2.1 rfl fun H1 kC hkC e1 z1 o1 => ?_
  have hs : (gj_nS S (10 + ci) N).2.1 S.1 = (10 + ci, (N : Int)) := if_pos rfl
  have kk := K p e R s m args below meth c H1 locs lsm Z X hZ (hR.grow ⟨by omega, by omega⟩ z1 o1 ?_) hlc hl (gj_pR ho) hmc hms
  · rw [List.map_cons, gj_nRef hR] at kk
    exact kk
  · rw [gj_e_o hs]
    refine ⟨_, hc, (u_born _ hts g1 hKn hkC e1 g2).to fun j hj => ?_⟩
    rw [gj_vV hj]
    unfold gj_fv gj_ft
    have e0 : gj_nM S M S.1 j = 0 := if_pos rfl
    have e4 : (gj_nS S (10 + ci) N).2.2 S.1 j = -1 := if_pos rfl
    rw [e0, e4]
    have hci : ci < 11 := (List.getElem?_eq_some_iff.mp hc).1
    have hN2 : N ≤ 60 := by
      have : ∀ ci, ci < 11 → (vwCl.getD ci (RX0, TX0, 3)).2.2 ≤ 60 := by decide +kernel
      have h2 := this ci hci
      rw [List.getD_eq_getElem?_getD, hc] at h2
      exact h2
    have hj2 : j < N := hj
    exact gj_dflt (gj_cdv ci hci j (by omega))
theorem gj_newarr {idx : ArrayType} {kd : Nat} {len : Int} (hd : decode cc pc = .ok (.newarray idx, 2)) (hkd : kd < 4) (hty : newarray.typeOf idx = gj_tyk kd) (harr : Cond.arrayClass (gj_tyk kd) ∈ gj_TB) (h0 : 0 ≤ len) (h1 : len ≤ 1000000) (hmc : k + 1 ≤ mc) (hms : n + len.toNat ≤ ms) (hq : pc + 2 = q)
    (K : gj_W G l d mc ms y cc nL ret Q (k + 1) (n + len.toNat) q ls (jR S.1 :: st) (gj_nS S kd len) (gj_nM S M)) : gj_W G l d mc ms y cc nL ret Q k n pc ls (jI len :: st) S M := by
  subst hq
  intro p e R s m args below meth c H locs lsm Z X hZ hR hlc hl ho hk hn
  have hts := X.2.2.2.2.2.1
  have hK := X.2.2.2.2.2.2.2.1.1
  obtain ⟨v1, v2⟩ := gj_ix (i := len) (len := len + 1) h0 (by omega) (by omega)
  have hneg : ¬ Int32.ofInt len < 0 := fun h => v1 (Or.inl h)
  have hbytes : len.toNat * componentBytes (newarray.typeOf idx) ≤ 536870912 := by
    have : componentBytes (newarray.typeOf idx) ≤ 8 := by cases idx <;> decide
    have h2 : len.toNat ≤ 1000000 := by omega
    calc _ ≤ 1000000 * 8 := Nat.mul_le_mul h2 this
      _ ≤ _ := by decide
  refine va_newaK X.1 X.2.1 (by rw [hty]; exact hts _ harr) rfl hd rfl hneg v2 hbytes (by rw [X.2.2.2.2.2.2.2.2.2.2.1]; exact hmc) (by rw [X.2.2.2.2.2.2.2.2.2.2.2.1]; exact hms) rfl fun H1 cA e1 z1 o1 hAr hNm => ?_
  have hcA : cA = gj_cA G kd := by
    have h2 := (hK.2 kd _ (gj_tys_at kd (by omega))).2
    have : kd = 0 ∨ kd = 1 ∨ kd = 2 ∨ kd = 3 := by omega
    rw [hty] at hNm
    rcases this with rfl | rfl | rfl | rfl <;> exact Option.some.inj (hNm.symm.trans h2)
  subst hcA
  have hs : (gj_nS S kd len).2.1 S.1 = (kd, len) := if_pos rfl
  have kk := K p e R s m args below meth c H1 locs lsm Z X hZ (hR.grow ⟨h0, by omega⟩ z1 o1 ?_) hlc hl (gj_pR (gj_tail ho)) hmc hms
  · rw [List.map_cons, gj_nRef hR] at kk
    exact kk
  · have e0 : ∀ j : Int, gj_nM S M S.1 j = 0 := fun j => if_pos rfl
    rw [hty] at e1
    have : kd = 0 ∨ kd = 1 ∨ kd = 2 ∨ kd = 3 := by omega
    rcases this with rfl | rfl | rfl | rfl
    · rw [gj_e_i hs (Or.inl rfl)]
      simp only [e0]
      exact e1
    · rw [gj_e_l hs]
      simp only [e0]
      exact e1
    · rw [gj_e_i hs (Or.inr (Or.inl rfl))]
      simp only [e0]
      exact e1
    · rw [gj_e_i hs (Or.inr (Or.inr rfl))]
      simp only [e0]
      exact e1
theorem gj_newarrR {idx : Nat} {kd : Nat} {len : Int} {C : String} (hd : decode cc pc = .ok (.anewarray idx, 3)) (hkd : kd = 4 ∧ C = "MayGreen$Life" ∨ kd = 5 ∧ C = "java/lang/String") (hcl : Cond.classLink y.cls idx C ∈ gj_TB) (h0 : 0 ≤ len) (h1 : len ≤ 1000000) (hmc : k + 1 ≤ mc) (hms : n + len.toNat ≤ ms) (hq : pc + 3 = q)
    (K : gj_W G l d mc ms y cc nL ret Q (k + 1) (n + len.toNat) q ls (jR S.1 :: st) (gj_nS S kd len) (gj_nM S M)) : gj_W G l d mc ms y cc nL ret Q k n pc ls (jI len :: st) S M := by
  subst hq
  intro p e R s m args below meth c H locs lsm Z X hZ hR hlc hl ho hk hn
  have hts := X.2.2.2.2.2.1
  have hK := X.2.2.2.2.2.2.2.1
  obtain ⟨v1, v2⟩ := gj_ix (i := len) (len := len + 1) h0 (by omega) (by omega)
  have hneg : ¬ Int32.ofInt len < 0 := fun h => v1 (Or.inl h)
  have hover : (Cond.arrayOver (.object C)).before args s = true := by
    rcases hkd with ⟨-, rfl⟩ | ⟨-, rfl⟩
    · exact hK.2.2.2.2.2.2.2.2.1.use
    · exact hK.2.2.2.2.2.2.2.2.2.1.use
  refine W.anew X.1 X.2.1 X.2.2.2.2.1 (hts _ hcl) hover rfl hd rfl hneg (by rw [v2]; omega) (by rw [X.2.2.2.2.2.2.2.2.2.2.1]; exact hmc) (by rw [X.2.2.2.2.2.2.2.2.2.2.2.1, v2]; exact hms) fun cA kA comp f1 f2 f3 f4 => ?_
  rw [v2]
  generalize hH1 : H.push ({ cls := cA, slots := Array.replicate len.toNat .null, vm := .none } : Cell) = H1
  have z1 : H1.size = H.size + 1 := by rw [← hH1, Array.size_push]
  have e1 : H1[H.size]? = some (arrV cA len.toNat (fun _ => .null)) := by rw [← hH1, Array.getElem?_push_size, ← arrV_new]
  have o1 : ∀ q : Nat, q < H.size → H1[q]? = H[q]? := fun q hq => by rw [← hH1, Array.getElem?_push, if_neg (Nat.ne_of_lt hq)]
  have hcA : cA = gj_cA G kd := by
    rcases hkd with ⟨rfl, rfl⟩ | ⟨rfl, rfl⟩
    · obtain ⟨_, _, -, -, -, h2⟩ := (hK.1.2 4 _ (gj_tys_at 4 (by decide))).2
      exact Option.some.inj (f1.symm.trans h2)
    · obtain ⟨_, _, -, -, -, h2⟩ := (hK.1.2 5 _ (gj_tys_at 5 (by decide))).2
      exact Option.some.inj (f1.symm.trans h2)
  subst hcA
  have hs : (gj_nS S kd len).2.1 S.1 = (kd, len) := if_pos rfl
  have kk := K p e R s m args below meth c H1 locs lsm Z X hZ (hR.grow ⟨h0, by omega⟩ z1 o1 ?_) hlc hl (gj_pR (gj_tail ho)) hmc hms
  · rw [List.map_cons, gj_nRef hR] at kk
    exact kk
  · have e4 : ∀ j : Int, (gj_nS S kd len).2.2 S.1 j = -1 := fun j => if_pos rfl
    rw [gj_e_r hs (by omega)]
    simp only [e4]
    exact e1
-- new int[a][b]
theorem gj_outer (c : ClassId) (N h0 : Nat) : ∀ i : Nat, Jvm.Free.Multi.outerC c N h0 i = arrV c N (fun j => va_rf (if j < i then some (h0 + 1 + j) else none))
  | 0 => by
    show ({ cls := c, slots := Array.replicate N .null, vm := .none } : Cell) = _
    rw [arrV_new]
    refine congrArg (arrV c N) (funext fun j => ?_)
    simp [va_rf]
  | i + 1 => by
    show (Jvm.Free.Multi.outerC c N h0 i).setSlot i (.ref (h0 + 1 + i)) = _
    rw [gj_outer c N h0 i, arrV_store]
    refine congrArg (arrV c N) (funext fun j => ?_)
    by_cases e : j = i
    · subst e
      simp [updV, va_rf]
    · by_cases h : j < i
      · simp [updV, e, h, Nat.lt_succ_of_lt h]
      · simp [updV, e, h, show ¬ j < i + 1 by omega]
def gj_mS (S : gj_S) (a b : Int) : gj_S := (S.1 + 1 + a, (fun z => if z = S.1 then (6, a) else if S.1 < z ∧ z < S.1 + 1 + a then (0, b) else S.2.1 z), fun z j => if z = S.1 then (if 0 ≤ j ∧ j < a then S.1 + 1 + j else -1) else if S.1 < z ∧ z < S.1 + 1 + a then -1 else S.2.2 z j)
def gj_mM (S : gj_S) (M : gj_M) (a : Int) : gj_M := fun z j => if S.1 ≤ z ∧ z < S.1 + 1 + a then 0 else M z j
theorem gj_mS_ok {a b : Int} (hS : gj_okS S) (h0 : 0 ≤ a ∧ a < 1000000) (h1 : 0 ≤ b ∧ b < 1000000) : gj_okS (gj_mS S a b) := by
  obtain ⟨p1, p2, p3⟩ := hS
  refine ⟨by show 0 ≤ S.1 + 1 + a; omega, fun z hz => ?_, fun z => ?_⟩
  · have hz' : z < 0 ∨ S.1 + 1 + a ≤ z := hz
    show (if z = S.1 then ((6 : Nat), a) else if S.1 < z ∧ z < S.1 + 1 + a then (0, b) else S.2.1 z) = _
    rw [if_neg (by omega), if_neg (by omega)]
    exact p2 z (by omega)
  · show 0 ≤ (if z = S.1 then ((6 : Nat), a) else if S.1 < z ∧ z < S.1 + 1 + a then (0, b) else S.2.1 z).2 ∧ (if z = S.1 then ((6 : Nat), a) else if S.1 < z ∧ z < S.1 + 1 + a then (0, b) else S.2.1 z).2 < _
    split
    · show 0 ≤ a ∧ a < _; omega
    · split
      · show 0 ≤ b ∧ b < _; omega
      · exact p3 z
theorem gj_mM_ok {a b : Int} (h0 : 0 ≤ a) (hM : gj_okm S M) : gj_okm (gj_mS S a b) (gj_mM S M a) := by
  intro o i
  show gj_okx (gj_ty (if o = S.1 then ((6 : Nat), a) else if S.1 < o ∧ o < S.1 + 1 + a then (0, b) else S.2.1 o).1 i) (if S.1 ≤ o ∧ o < S.1 + 1 + a then 0 else M o i)
  by_cases h : S.1 ≤ o ∧ o < S.1 + 1 + a
  · rw [if_pos h]
    exact gj_okx_0 _
  · rw [if_neg h, if_neg (by omega), if_neg (by omega)]
    exact hM o i
theorem gj_newarr2 {idx : Nat} {a b : Int} (hd : decode cc pc = .ok (.multianewarray idx 2, 4)) (hcl : Cond.classLink y.cls idx "[[I" ∈ gj_TB) (harr : Cond.arrayClass .int ∈ gj_TB) (ha : 0 ≤ a ∧ a < 1000000) (hb : 0 ≤ b ∧ b < 1000000) (hmc : k + 1 + a.toNat ≤ mc) (hms : n + a.toNat + a.toNat * b.toNat ≤ ms) (hq : pc + 4 = q)
    (K : gj_W G l d mc ms y cc nL ret Q (k + 1 + a.toNat) (n + a.toNat + a.toNat * b.toNat) q ls (jR S.1 :: st) (gj_mS S a b) (gj_mM S M a)) : gj_W G l d mc ms y cc nL ret Q k n pc ls (jI b :: jI a :: st) S M := by
  subst hq
  intro p e R s m args below meth c H locs lsm Z X hZ hR hlc hl ho hk hn
  have hts := X.2.2.2.2.2.1
  have hK := X.2.2.2.2.2.2.2.1
  obtain ⟨v1, v2⟩ := gj_ix (i := a) (len := a + 1) ha.1 (by omega) (by omega)
  have hnegA : ¬ Int32.ofInt a < 0 := fun h => v1 (Or.inl h)
  obtain ⟨w1, w2⟩ := gj_ix (i := b) (len := b + 1) hb.1 (by omega) (by omega)
  have hnegB : ¬ Int32.ofInt b < 0 := fun h => w1 (Or.inl h)
  have hover : (Cond.arrayOver (.array .int)).before args s = true := hK.2.2.2.2.2.2.2.2.2.2.1
  rw [List.map_cons, List.map_cons]
  intro T hT Xs
  obtain ⟨vm₁, cA, comp, -, fA, fC, hO, -, X', step⟩ := Xs.multianewarray2F (ty := .int) X.1 X.2.2.2.2.1 (hts _ hcl) hover (hts _ harr) (g := F0 m pc lsm (.int (Int32.ofInt b) :: .int (Int32.ofInt a) :: st.map (gj_v G))) rfl (by rw [X.2.1]; exact hd) rfl hnegA hnegB (by rw [v2]; omega) (by rw [w2]; show b.toNat * 4 ≤ _; omega) (by rw [w2]; omega) rfl rfl (by rw [X.2.2.2.2.2.2.2.2.2.2.1, v2]; omega) (by rw [X.2.2.2.2.2.2.2.2.2.2.2.1, v2, w2]; omega)
  rw [v2, w2] at X' step
  have ec : comp = gj_cA G 0 := by
    have h2 := (hK.1.2 0 _ (gj_tys_at 0 (by decide))).2
    exact Option.some.inj (fC.symm.trans h2)
  have ec2 : cA = gj_cA G 6 := by
    have h2 := (hK.1.2 6 _ (gj_tys_at 6 (by decide))).2
    exact Option.some.inj (fA.symm.trans h2)
  subst ec
  subst ec2
  generalize hF : Jvm.Free.Multi.fill (T.setVm vm₁) (gj_cA G 6) (gj_cA G 0) a.toNat b.toNat (defaultValue .int) a.toNat = F at X' step
  have hTh : (T.setVm vm₁).heap = H := hT
  obtain ⟨f1, f2, -, -⟩ := Jvm.Free.Multi.fill_facts (T.setVm vm₁) (gj_cA G 6) (gj_cA G 0) a.toNat b.toNat (defaultValue .int) a.toNat
  rw [hF, hTh] at f1 f2
  have hold : ∀ x : Nat, x < H.size → F.heap[x]? = H[x]? := fun x hx => by
    have := Jvm.Free.Multi.fill_old (T.setVm vm₁) (gj_cA G 6) (gj_cA G 0) a.toNat b.toNat (defaultValue .int) (a := x) (by rw [hTh]; exact hx) a.toNat
    rw [hF, hTh] at this
    exact this
  have hrow : ∀ j : Nat, j < a.toNat → F.heap[H.size + 1 + j]? = some (arrV (gj_cA G 0) b.toNat (fun _ => .int 0)) := fun j hj => by
    have := Jvm.Free.Multi.fill_inner (T.setVm vm₁) (gj_cA G 6) (gj_cA G 0) a.toNat b.toNat (defaultValue .int) a.toNat j hj
    rw [hF, hTh] at this
    rw [this, ← arrV_new]
    rfl
  rw [gj_outer] at f2
  obtain ⟨a1, a2, a3, a4, a5⟩ := hR
  have s0 := a4.1
  have hR' : gj_R G (gj_mS S a b) (gj_mM S M a) F.heap := by
    refine ⟨by show F.heap.size = gj_base G + (S.1 + 1 + a).toNat; omega, fun q hq => ?_, fun o hoo => ?_, gj_mS_ok a4 ha hb, gj_mM_ok ha.1 a5⟩
    · rw [hold q (by omega)]
      exact a2 q hq
    · have hoo' : (o : Int) < S.1 + 1 + a := hoo
      by_cases hz : (o : Int) = S.1
      · have hs : (gj_mS S a b).2.1 o = (6, a) := if_pos hz
        rw [gj_e_r hs (Or.inr (Or.inr rfl)), show gj_base G + o = H.size by omega]
        show F.heap[_]? = some (vp_cell _ _)
        rw [f2, vp_cell_q]
        refine congrArg (fun f => some (arrV _ _ f)) (funext fun j => congrArg va_rf ?_)
        have hrf : (gj_mS S a b).2.2 o j = if 0 ≤ (j : Int) ∧ (j : Int) < a then S.1 + 1 + j else -1 := if_pos hz
        rw [hrf]
        by_cases hj : j < a.toNat
        · rw [if_pos hj, if_pos (by omega), gj_roR (by omega)]
          congr 1
          omega
        · rw [if_neg hj, if_neg (by omega)]
          rfl
      · by_cases hz2 : S.1 < (o : Int)
        · have hs : (gj_mS S a b).2.1 o = (0, b) := by
            show (if (o : Int) = S.1 then _ else if S.1 < (o : Int) ∧ (o : Int) < S.1 + 1 + a then _ else _) = _
            rw [if_neg hz, if_pos ⟨hz2, hoo'⟩]
          rw [gj_e_i hs (Or.inl rfl)]
          have h3 := hrow (o - S.1.toNat - 1) (by omega)
          rw [show H.size + 1 + (o - S.1.toNat - 1) = gj_base G + o by omega] at h3
          have e0 : ∀ j : Int, gj_mM S M a o j = 0 := fun j => if_pos (by omega)
          simp only [e0]
          exact h3
        · have hP : va_P (gj_D G) vwCl [(gj_base G + o, gj_e G S M o)] H := by
            have := gj_at (G := G) ⟨a1, a2, a3, a4, a5⟩ (z := o) (by omega) (by omega)
            exact this
          have h := hP.kept (H1 := F.heap) (fun k q hq => by
            cases k with
            | zero => cases hq; exact hold _ (by show gj_base G + o < _; omega)
            | succ k => cases hq)
          rw [gj_e_congr (S := S) (M := M) (show (gj_mS S a b).2.1 o = _ from ?_) (fun j => ?_) (fun j => if_neg (by omega))]
          · exact h 0 _ rfl
          · show (if (o : Int) = S.1 then _ else if S.1 < (o : Int) ∧ (o : Int) < S.1 + 1 + a then _ else _) = _
            rw [if_neg hz, if_neg (by omega)]
          · show (if (o : Int) = S.1 then _ else if S.1 < (o : Int) ∧ (o : Int) < S.1 + 1 + a then _ else _) = _
            rw [if_neg hz, if_neg (by omega)]
  have kk := K p e R s m args below meth c F.heap locs lsm Z X hZ hR' hlc hl (gj_pR (gj_tail (gj_tail ho))) hmc hms
  rw [List.map_cons, gj_nRef ⟨a1, a2, a3, a4, a5⟩] at kk
  obtain ⟨t, b1, b2⟩ := kk F rfl X'
  have e9 : T.heap.size = H.size := by rw [hT]
  refine ⟨t, step t ?_, b2⟩
  rw [e9]
  exact b1
-- a reference is stored into an array, in constructors
theorem gj_aastL {z i w len len2 : Int} (hd : decode cc pc = .ok (.aastore, 1)) (hs : S.2.1 z = (4, len)) (hs2 : S.2.1 w = (13, len2)) (h0 : 0 ≤ i) (h1 : i < len) (hq : pc + 1 = q) (K : gj_W G l d mc ms y cc nL ret Q k n q ls st (gj_upS S z i w) M) : gj_W G l d mc ms y cc nL ret Q k n pc ls (jR w :: jI i :: jR z :: st) S M := by
  subst hq
  intro p e R s m args below meth c H locs lsm Z X hZ hR hlc hl ho hk hn
  obtain ⟨z0, z1⟩ := gj_in hR.2.2.2.1 hs (by decide)
  obtain ⟨y0, y1⟩ := gj_in hR.2.2.2.1 hs2 (by decide)
  have hln : len < 2147483648 := by have := (hR.2.2.2.1.2.2 z).2; rw [hs] at this; exact this
  obtain ⟨v1, v2⟩ := gj_ix h0 h1 hln
  rw [List.map_cons, List.map_cons, List.map_cons, gj_vR z0, gj_vR y0]
  have hK := X.2.2.2.2.2.2.2.1.1
  have hP := gj_at hR z0 z1
  rw [gj_e_r hs (Or.inl rfl)] at hP
  have hP2 := gj_at hR y0 y1
  rw [gj_e_o (ci := 3) hs2] at hP2
  have hc := hP 0 _ rfl
  obtain ⟨r', hr', cellV, g1, g2, g3, -⟩ := hP2 0 _ rfl
  have hr0 : r' = (RX3, TX3, 11) := Option.some.inj (hr'.symm.trans (show vwCl[3]? = some (RX3, TX3, 11) from rfl))
  have hcls := (hK.1 3 r' hr').2
  obtain ⟨kA, comp, k1, k2, k3, -⟩ := (hK.2 4 _ (gj_tys_at 4 (by decide))).2
  have hcomp : comp = (gj_D G).1 3 := by
    have h9 := hcls.1
    rw [hr0] at h9
    exact Option.some.inj (k3.symm.trans h9)
  subst hcomp
  obtain ⟨kC, hkC, -⟩ := hcls.2
  have hjl : (Int32.ofInt i).toNatClampNeg < len.toNat := by rw [v2]; omega
  refine W.aast (j := Int32.ofInt i) X.1 X.2.1 hc (fun q h => by cases h) (fun h => by cases h) k1 k2 rfl hkC ⟨fun h => v1 (Or.inl h), by show _ < (arrV _ _ _).slots.size; rw [arrV_size]; exact hjl⟩ g1 (fun q h => by rw [g3] at h; cases h) (by rw [g2]; exact hkC) (by rw [g2]; exact va_assign hcls) rfl rfl hd fun H1 e1 e2 e3 => ?_
  have hR' : gj_okS (gj_upS S z i w) := hR.2.2.2.1
  refine K p e R s m args below meth c H1 _ lsm Z X hZ (hR.put z0 e2 e3 ?_ rfl (fun _ _ => rfl) (fun w2 hw b => if_neg (fun q => hw q.1)) (fun _ _ _ => rfl) hR' hR.2.2.2.2) (gj_locs hlc) hl (gj_tail (gj_tail (gj_tail ho))) hk hn
  have hs' : (gj_upS S z i w).2.1 z = (4, len) := hs
  rw [gj_e_r hs' (Or.inl rfl)]
  show H1[_]? = some (vp_cell _ _)
  rw [e1, vp_cell_q, vp_cell_q, arrV_store, v2]
  refine congrArg (fun f => some (arrV _ _ f)) (funext fun j => ?_)
  unfold updV gj_upS
  by_cases h : j = i.toNat
  · subst h
    rw [if_pos rfl]
    show _ = va_rf (gj_ro G (if z = z ∧ ((i.toNat : Nat) : Int) = i then w else _))
    rw [if_pos ⟨rfl, gj_pN h0⟩, gj_roR y0]
    rfl
  · rw [if_neg h]
    show _ = va_rf (gj_ro G (if z = z ∧ (j : Int) = i then w else _))
    rw [if_neg (fun q => h (by omega))]
theorem gj_aastS {z i len : Int} (j : Nat) (hd : decode cc pc = .ok (.aastore, 1)) (hs : S.2.1 z = (5, len)) (hj : j < 9) (h0 : 0 ≤ i) (h1 : i < len) (hq : pc + 1 = q) {w : Int} (hw : -2 - (j : Int) = w) (K : gj_W G l d mc ms y cc nL ret Q k n q ls st (gj_upS S z i w) M) : gj_W G l d mc ms y cc nL ret Q k n pc ls (jR w :: jI i :: jR z :: st) S M := by
  subst hq
  subst hw
  intro p e R s m args below meth c H locs lsm Z X hZ hR hlc hl ho hk hn
  obtain ⟨z0, z1⟩ := gj_in hR.2.2.2.1 hs (by decide)
  have hln : len < 2147483648 := by have := (hR.2.2.2.1.2.2 z).2; rw [hs] at this; exact this
  obtain ⟨v1, v2⟩ := gj_ix h0 h1 hln
  have ew : gj_ro G (-2 - (j : Int)) = some (gj_aK G j) := by
    unfold gj_ro gj_ad
    rw [if_neg (by omega), if_neg (by omega), if_neg (by omega), if_neg (by omega), if_neg (by omega)]
    congr 2
    omega
  have ew2 : gj_v G (jR (-2 - (j : Int))) = .ref (gj_aK G j) := by
    show va_rf (gj_ro G _) = _
    rw [ew]
    rfl
  rw [List.map_cons, List.map_cons, List.map_cons, gj_vR z0, ew2]
  have hK := X.2.2.2.2.2.2.2.1
  have hP := gj_at hR z0 z1
  rw [gj_e_r hs (Or.inr (Or.inl rfl))] at hP
  have hc := hP 0 _ rfl
  obtain ⟨cellV, g1, g2, g3, g4⟩ := (hK.2.2.1.1 j hj).1
  obtain ⟨kA, comp, k1, k2, k3, -⟩ := (hK.1.2 5 _ (gj_tys_at 5 (by decide))).2
  have hcomp : comp = cellV.cls := Option.some.inj (k3.symm.trans g3)
  have hbk : gj_aK G j < gj_base G := (Array.getElem?_eq_some_iff.mp g1).1
  have g1' : H[gj_aK G j]? = some cellV := by rw [hR.2.1 _ hbk]; exact g1
  obtain ⟨kC, hkC, -⟩ := Vm.findClass_spec g3
  have hjl : (Int32.ofInt i).toNatClampNeg < len.toNat := by rw [v2]; omega
  refine W.aast (j := Int32.ofInt i) X.1 X.2.1 hc (fun q h => by cases h) (fun h => by cases h) k1 k2 rfl (by rw [hcomp]; exact hkC) ⟨fun h => v1 (Or.inl h), by show _ < (arrV _ _ _).slots.size; rw [arrV_size]; exact hjl⟩ g1' (fun q h => by rw [h] at g2; cases g2) hkC (by rw [hcomp]; exact va_asg _ _) rfl rfl hd fun H1 e1 e2 e3 => ?_
  have hR' : gj_okS (gj_upS S z i (-2 - (j : Int))) := hR.2.2.2.1
  refine K p e R s m args below meth c H1 _ lsm Z X hZ (hR.put z0 e2 e3 ?_ rfl (fun _ _ => rfl) (fun w2 hw b => if_neg (fun q => hw q.1)) (fun _ _ _ => rfl) hR' hR.2.2.2.2) (gj_locs hlc) hl (gj_tail (gj_tail (gj_tail ho))) hk hn
  have hs' : (gj_upS S z i (-2 - (j : Int))).2.1 z = (5, len) := hs
  rw [gj_e_r hs' (Or.inr (Or.inl rfl))]
  show H1[_]? = some (vp_cell _ _)
  rw [e1, vp_cell_q, vp_cell_q, arrV_store, v2]
  refine congrArg (fun f => some (arrV _ _ f)) (funext fun j2 => ?_)
  unfold updV gj_upS
  by_cases h : j2 = i.toNat
  · subst h
    rw [if_pos rfl]
    show _ = va_rf (gj_ro G (if z = z ∧ ((i.toNat : Nat) : Int) = i then _ else _))
    rw [if_pos ⟨rfl, gj_pN h0⟩, ew]
    rfl
  · rw [if_neg h]
    show _ = va_rf (gj_ro G (if z = z ∧ (j2 : Int) = i then _ else _))
    rw [if_neg (fun q => h (by omega))]
end GJ4
end
section
/-! OWN LAYER: calls; what a method's end looks like; the script, texts -/
section GJ5
variable {G : gj_G} {l : Launch} {d mc ms : Nat} {y : MethodName} {cc : ByteArray} {nL : Nat} {ret : Option FieldType} {Q : Option gj_V → gj_S → gj_M → Prop} {k n pc q : Nat} {ls : List (Nat × gj_V)} {st st' : List gj_V} {S : gj_S} {M : gj_M}
variable {y' : MethodName} {cc' : ByteArray} {nL' d' mc' ms' n' : Nat} {ret' : Option FieldType} {av : List gj_V} {Q' : Option gj_V → gj_S → gj_M → Prop}
def gj_M0 (y : MethodName) (cc : ByteArray) (nL : Nat) (ret : Option FieldType) (n : Nat) : Prop := Cond.code y cc nL ret ∈ gj_TB ∧ Cond.initialized y.cls ∈ gj_TB ∧ (y.cls ≠ "java/lang/invoke/MethodHandle" ∧ y.cls ≠ "java/lang/invoke/VarHandle") ∧ (parseMethodDescriptor y.desc).map (fun d => d.parameters.length) = some n
def gj_MS (y : MethodName) (cc : ByteArray) (nL : Nat) (ret : Option FieldType) (n : Nat) : Prop := gj_M0 y cc nL ret n ∧ Cond.static y ∈ gj_TB
def gj_MV (y : MethodName) (cc : ByteArray) (nL : Nat) (ret : Option FieldType) (n : Nat) : Prop := gj_M0 y cc nL ret n ∧ Cond.instanceMethod y ∈ gj_TB ∧ Cond.selects y.cls y y ∈ gj_TB
def gj_MI (y : MethodName) (cc : ByteArray) (nL : Nat) (n : Nat) : Prop := gj_M0 y cc nL none n ∧ Cond.instanceMethod y ∈ gj_TB ∧ y.name = "<init>"
def gj_cats (st : List gj_V) : Nat := (st.map (fun v => if gj_two v then 2 else 1)).sum
theorem gj_cats_eq (st : List gj_V) : ((st.map (gj_v G)).map fun v => v.category).sum = gj_cats st := by
  induction st with
  | nil => rfl
  | cons v r ih =>
    have h := gj_cat G v
    rw [List.map_cons, List.map_cons, List.sum_cons, ih]
    show _ = (if gj_two v then 2 else 1) + gj_cats r
    rcases lv_cat (gj_v G v) with h1 | h1
    · rw [h1] at h
      rw [h1, ← h]
      rfl
    · rw [h1] at h
      rw [h1, ← h]
      rfl
theorem gj_blind : FrameBlind (gj_Pc G av S M) := by
  intro a U g mk h
  exact ⟨h.1, h.2.1.same rfl, h.2.2.1, h.2.2.2⟩
theorem gj_cwB {p : Program} {R : Room} {s : State} {m : MethodId} {args : Array Value} {meth : Method} {c : Code} {idx : Nat} (X : gj_cx G d mc ms y cc nL ret p R s m args meth c) (hm : gj_M0 y' cc' nL' ret' n') (hdd : d' + 1 ≤ d) (hnL : nL' ≤ 45) (hl : Cond.methodLink y.cls idx y' ∈ gj_TB) :
    CallB R s args y.cls idx y' cc' nL' ret' (gj_ws y' cc' nL' ret') { frames := d', cells := mc', slots := ms', locals := 64 * d' } mc' ms' n' := by
  have hts := X.2.2.2.2.2.1
  have h1 := X.2.2.2.2.2.2.2.2.1
  have h2 := X.2.2.2.2.2.2.2.2.2.1
  refine ⟨rfl, rfl, Nat.le_trans hdd h1, ?_, fun w hw a' U hW => ?_, List.mem_cons_self, hts _ hm.1, hts _ hm.2.1, hm.2.2.1, fun sig h => ?_, hts _ hl⟩
  · show 8 + (nL' + 11) + 64 * d' ≤ R.locals
    omega
  · have hw' : w ∈ gj_TB := by
      rcases List.mem_cons.mp hw with rfl | hw
      · exact hm.1
      · exact hw
    exact word_at hW (good_of_word (List.mem_filter.mp hw').2) (hts w hw')
  · have h3 := hm.2.2.2
    rw [h] at h3
    exact (Option.some.inj h3).symm
theorem gj_pre {s : State} {H : Heap} (hK : gj_K G s) (hR : gj_R G S M H) (hok : ∀ v ∈ av, gj_okv v) : ∀ U : State, U.heap = H → s.WarmedH U.vm → gj_Pc G av S M (av.map (gj_v G)).toArray U :=
  fun U hU hW => ⟨rfl, hK.warm hW, by rw [hU]; exact hR, hok⟩
theorem gj_run {p : Program} {e : Env} {R : Room} {s : State} {m : MethodId} {args : Array Value} {below : List Frame} {meth : Method} {c : Code} {H : Heap} {locs : List Loc} {lsm : Array Slot} {Z : State → Prop} {a : Array Value} {rest : List gj_V} {stv : List Value}
    (X : gj_cx G d mc ms y cc nL ret p R s m args meth c) (hZ : gj_fin G mc ms cc ret Q p l e R s m args below meth c Z) (hlc : ∀ q ∈ locs, gj_base G ≤ q.base) (hl : lv_has lsm nL (gj_lv G ls)) (ho : gj_oks ls rest) (hk : k + mc' ≤ mc) (hn : n + ms' ≤ ms)
    (hr : va_Run p l e R s m args below meth c H locs k n mc' ms' (F0 m pc lsm stv) (rest.map (gj_v G)) (gj_Qc G Q' a) (fun q => gj_base G ≤ q))
    (K : ∀ (r : Option gj_V) (S' : gj_S) (M' : gj_M), Q' r S' M' → gj_W G l d mc ms y cc nL ret Q (k + mc') (n + ms') (pc + 3) ls (r.toList ++ rest) S' M') : W p l e R s m args below meth c H locs k n Z (F0 m pc lsm stv) := by
  intro T hT Xs
  obtain ⟨v, st₀, t, T', L, h0, X', hL, e1, e2, ⟨r, S', M', hv, hq, hR', hok⟩, stp⟩ := hr T hT Xs
  cases hv
  have kk := K r S' M' hq p e R s m args below meth c T'.heap (locs ++ L) lsm Z X hZ (by rw [e1]; exact hR') (fun q hq => by
    rcases List.mem_append.mp hq with h | h
    · exact hlc q h
    · exact hL q h) hl ⟨ho.1, fun w hw => by
      rcases List.mem_append.mp hw with h | h
      · cases r with
        | none => cases h
        | some x =>
          rw [Option.toList_some, List.mem_singleton] at h
          rw [h]
          exact hok x rfl
      · exact ho.2 w h⟩ hk hn
  obtain ⟨t2, a1, b1⟩ := kk T' rfl X'
  refine ⟨t2, stp t2 ?_, b1⟩
  have e3 : (r.toList ++ rest).map (gj_v G) = (r.map (gj_v G)).toList ++ rest.map (gj_v G) := by
    rw [List.map_append]
    cases r <;> rfl
  rw [e3] at a1
  exact a1
theorem gj_okA {stk : List gj_V} (hst : stk = av.reverse ++ st) (ho : gj_oks ls stk) : (∀ v ∈ av, gj_okv v) ∧ gj_oks ls st := by
  subst hst
  exact ⟨fun v hv => ho.2 v (List.mem_append_left _ (List.mem_reverse.mpr hv)), ho.1, fun v hv => ho.2 v (List.mem_append_right _ hv)⟩
theorem gj_callS {stk : List gj_V} {idx : Nat} (av : List gj_V) (hst : stk = av.reverse ++ st) (hC : gj_C G l d' mc' ms' y' cc' nL' ret' av S M Q') (hd : decode cc pc = .ok (.invokestatic idx, 3)) (hl : Cond.methodLink y.cls idx y' ∈ gj_TB) (hm : gj_MS y' cc' nL' ret' n') (hnum : d' + 1 ≤ d ∧ nL' ≤ 45 ∧ av.length = n' ∧ gj_cats st ≤ 8 ∧ k + mc' ≤ mc ∧ n + ms' ≤ ms) (hq : pc + 3 = q)
    (K : ∀ (r : Option gj_V) (S' : gj_S) (M' : gj_M), Q' r S' M' → gj_W G l d mc ms y cc nL ret Q (k + mc') (n + ms') q ls (r.toList ++ st) S' M') : gj_W G l d mc ms y cc nL ret Q k n pc ls stk S M := by
  subst hq
  obtain ⟨n1, n2, n3, n4, n5, n6⟩ := hnum
  intro p e R s m args below meth c H locs lsm Z X hZ hR hlc hlv ho hk hn
  obtain ⟨ho1, ho2⟩ := gj_okA hst ho
  refine gj_run (Q := Q) X hZ hlc hlv ho2 n5 n6 (va_runS (As := av.map (gj_v G)) (Ts := gj_TB) ⟨X.1, X.2.1, X.2.2.2.1, X.2.2.2.2.1, X.2.2.2.2.2.1⟩ hC ⟨gj_cwB X hm.1 n1 n2 hl, X.2.2.2.2.2.1 _ hm.2⟩ ⟨gj_blind, gj_pre X.2.2.2.2.2.2.2.1 hR ho1⟩ rfl (by rw [List.length_map]; exact n3) hlv.1 (by show stk.map (gj_v G) = _; rw [hst, List.map_append, List.map_reverse]) (lv_room (by rw [gj_cats_eq]; exact n4)) hd ⟨by rw [X.2.2.2.2.2.2.2.2.2.2.1]; exact n5, by rw [X.2.2.2.2.2.2.2.2.2.2.2.1]; exact n6⟩) K
theorem gj_callV {stk : List gj_V} {idx ci : Nat} {z len : Int} (av : List gj_V) (hst : stk = av.reverse ++ jR z :: st) (hC : gj_C G l d' mc' ms' y' cc' nL' ret' (jR z :: av) S M Q') (hd : decode cc pc = .ok (.invokevirtual idx, 3)) (hl : Cond.methodLink y.cls idx y' ∈ gj_TB) (hm : gj_MV y' cc' nL' ret' n') (hs : S.2.1 z = (10 + ci, len)) (hci : (vwCl[ci]?).map (·.1) = some y'.cls) (hnum : d' + 1 ≤ d ∧ nL' ≤ 45 ∧ av.length = n' ∧ gj_cats st ≤ 8 ∧ k + mc' ≤ mc ∧ n + ms' ≤ ms) (hq : pc + 3 = q)
    (K : ∀ (r : Option gj_V) (S' : gj_S) (M' : gj_M), Q' r S' M' → gj_W G l d mc ms y cc nL ret Q (k + mc') (n + ms') q ls (r.toList ++ st) S' M') : gj_W G l d mc ms y cc nL ret Q k n pc ls stk S M := by
  subst hq
  obtain ⟨n1, n2, n3, n4, n5, n6⟩ := hnum
  intro p e R s m args below meth c H locs lsm Z X hZ hR hlc hlv ho hk hn
  have hst2 : stk = (jR z :: av).reverse ++ st := by rw [hst, List.reverse_cons, List.append_assoc]; rfl
  obtain ⟨ho1, ho2⟩ := gj_okA hst2 ho
  have hlt : ci < 11 := by
    cases h : vwCl[ci]? with
    | none => rw [h] at hci; cases hci
    | some r => exact (List.getElem?_eq_some_iff.mp h).1
  obtain ⟨z0, z1⟩ := gj_in hR.2.2.2.1 hs (by omega)
  have hP := gj_at hR z0 z1
  rw [gj_e_o hs] at hP
  have hK := X.2.2.2.2.2.2.2.1
  obtain ⟨r0, hr0⟩ : ∃ r0, vwCl[ci]? = some r0 := by
    cases h : vwCl[ci]? with
    | none => rw [h] at hci; cases hci
    | some r => exact ⟨r, rfl⟩
  have hrc := va_recv hK.1 hP hr0 (q0 := 0) rfl
  have hcls : r0.1 = y'.cls := by
    rw [hr0] at hci
    exact Option.some.inj hci
  rw [hcls] at hrc
  have hpre := gj_pre (av := jR z :: av) hK hR ho1
  rw [List.map_cons, gj_vR z0] at hpre
  refine gj_run (Q := Q) X hZ hlc hlv ho2 n5 n6 (va_runV (As := av.map (gj_v G)) (Ts := gj_TB) (C := y'.cls) ⟨X.1, X.2.1, X.2.2.2.1, X.2.2.2.2.1, X.2.2.2.2.2.1⟩ hC ⟨gj_cwB X hm.1 n1 n2 hl, X.2.2.2.2.2.1 _ hm.2.1, X.2.2.2.2.2.1 _ hm.2.2⟩ ⟨gj_blind, hrc, hpre⟩ rfl (by rw [List.length_map]; exact n3) hlv.1 (by show stk.map (gj_v G) = _; rw [hst, List.map_append, List.map_reverse, List.map_cons, gj_vR z0]) (lv_room (by rw [gj_cats_eq]; exact n4)) hd ⟨by rw [X.2.2.2.2.2.2.2.2.2.2.1]; exact n5, by rw [X.2.2.2.2.2.2.2.2.2.2.2.1]; exact n6⟩) K
theorem gj_callI {stk : List gj_V} {idx : Nat} {z : Int} (av : List gj_V) (hst : stk = av.reverse ++ jR z :: st) (hC : gj_C G l d' mc' ms' y' cc' nL' none (jR z :: av) S M Q') (hd : decode cc pc = .ok (.invokespecial idx, 3)) (hl : Cond.methodLink y.cls idx y' ∈ gj_TB) (hm : gj_MI y' cc' nL' n') (z0 : 0 ≤ z) (hnum : d' + 1 ≤ d ∧ nL' ≤ 45 ∧ av.length = n' ∧ gj_cats st ≤ 8 ∧ k + mc' ≤ mc ∧ n + ms' ≤ ms) (hq : pc + 3 = q)
    (K : ∀ (r : Option gj_V) (S' : gj_S) (M' : gj_M), Q' r S' M' → gj_W G l d mc ms y cc nL ret Q (k + mc') (n + ms') q ls (r.toList ++ st) S' M') : gj_W G l d mc ms y cc nL ret Q k n pc ls stk S M := by
  subst hq
  obtain ⟨n1, n2, n3, n4, n5, n6⟩ := hnum
  intro p e R s m args below meth c H locs lsm Z X hZ hR hlc hlv ho hk hn
  have hst2 : stk = (jR z :: av).reverse ++ st := by rw [hst, List.reverse_cons, List.append_assoc]; rfl
  obtain ⟨ho1, ho2⟩ := gj_okA hst2 ho
  have hK := X.2.2.2.2.2.2.2.1
  have hpre := gj_pre (av := jR z :: av) hK hR ho1
  rw [List.map_cons, gj_vR z0] at hpre
  refine gj_run (Q := Q) X hZ hlc hlv ho2 n5 n6 (va_runI (As := av.map (gj_v G)) (Ts := gj_TB) ⟨X.1, X.2.1, X.2.2.2.1, X.2.2.2.2.1, X.2.2.2.2.2.1⟩ hC ⟨gj_cwB X hm.1 n1 n2 hl, hm.2.2, X.2.2.2.2.2.1 _ hm.2.1⟩ ⟨gj_blind, hpre⟩ rfl (by rw [List.length_map]; exact n3) hlv.1 (by show stk.map (gj_v G) = _; rw [hst, List.map_append, List.map_reverse, List.map_cons, gj_vR z0]) (lv_room (by rw [gj_cats_eq]; exact n4)) hd ⟨by rw [X.2.2.2.2.2.2.2.2.2.2.1]; exact n5, by rw [X.2.2.2.2.2.2.2.2.2.2.2.1]; exact n6⟩) K
/-- a private constructor of a nest mate's -/
theorem gj_callN {stk : List gj_V} {idx : Nat} {z : Int} {host : String} (av : List gj_V) (hst : stk = av.reverse ++ jR z :: st) (hC : gj_C G l d' mc' ms' y' cc' nL' none (jR z :: av) S M Q') (hd : decode cc pc = .ok (.invokespecial idx, 3)) (hl : (y.cls, idx, y', host) ∈ gj_nest) (hm : gj_MI y' cc' nL' n') (z0 : 0 ≤ z) (hnum : d' + 1 ≤ d ∧ nL' ≤ 45 ∧ av.length = n' ∧ gj_cats st ≤ 8 ∧ k + mc' ≤ mc ∧ n + ms' ≤ ms) (hq : pc + 3 = q)
    (K : ∀ (r : Option gj_V) (S' : gj_S) (M' : gj_M), Q' r S' M' → gj_W G l d mc ms y cc nL ret Q (k + mc') (n + ms') q ls (r.toList ++ st) S' M') : gj_W G l d mc ms y cc nL ret Q k n pc ls stk S M := by
  subst hq
  obtain ⟨n1, n2, n3, n4, n5, n6⟩ := hnum
  intro p e R s m args below meth c H locs lsm Z X hZ hR hlc hlv ho hk hn
  have hst2 : stk = (jR z :: av).reverse ++ st := by rw [hst, List.reverse_cons, List.append_assoc]; rfl
  obtain ⟨ho1, ho2⟩ := gj_okA hst2 ho
  have hK := X.2.2.2.2.2.2.2.1
  have hts := X.2.2.2.2.2.1
  have h1 := X.2.2.2.2.2.2.2.2.1
  have h2 := X.2.2.2.2.2.2.2.2.2.1
  have hpre := gj_pre (av := jR z :: av) hK hR ho1
  rw [List.map_cons, gj_vR z0] at hpre
  have cw : va_CN R s args y.cls idx y' host cc' nL' none (gj_ws y' cc' nL' none) { frames := d', cells := mc', slots := ms', locals := 64 * d' } mc' ms' n' := by
    refine ⟨⟨rfl, rfl, Nat.le_trans n1 h1, by show 8 + (nL' + 11) + 64 * d' ≤ R.locals; omega, fun w hw a' U hW => ?_, List.mem_cons_self⟩, hts _ hm.1.1, hts _ hm.1.2.1, hm.1.2.2.1, fun sig h => ?_, (hK.2.2.2.2.2.2.2.2.2.2.2 _ hl).use rfl⟩
    · have hw' : w ∈ gj_TB := by
        rcases List.mem_cons.mp hw with rfl | hw
        · exact hm.1.1
        · exact hw
      exact word_at hW (good_of_word (List.mem_filter.mp hw').2) (hts w hw')
    · have h3 := hm.1.2.2.2
      rw [h] at h3
      exact (Option.some.inj h3).symm
  refine gj_run (Q := Q) X hZ hlc hlv ho2 n5 n6 (va_runIN (As := av.map (gj_v G)) (Ts := gj_TB) ⟨X.1, X.2.1, X.2.2.2.1, X.2.2.2.2.1, X.2.2.2.2.2.1⟩ hC ⟨cw, hm.2.2, hts _ hm.2.1⟩ ⟨gj_blind, hpre⟩ rfl (by rw [List.length_map]; exact n3) hlv.1 (by show stk.map (gj_v G) = _; rw [hst, List.map_append, List.map_reverse, List.map_cons, gj_vR z0]) (lv_room (by rw [gj_cats_eq]; exact n4)) hd ⟨by rw [X.2.2.2.2.2.2.2.2.2.2.1]; exact n5, by rw [X.2.2.2.2.2.2.2.2.2.2.2.1]; exact n6⟩) K
theorem gj_objInit {idx : Nat} {z : Int} (hd : decode cc pc = .ok (.invokespecial idx, 3)) (z0 : 0 ≤ z) (hl : Cond.methodLink y.cls idx Lib.objectInit ∈ gj_TB) (hi : Cond.instanceMethod Lib.objectInit ∈ gj_TB) (hco : Cond.code Lib.objectInit ⟨#[0xb1]⟩ 1 none ∈ gj_TB) (hnum : 1 ≤ d ∧ gj_cats st ≤ 8) (hq : pc + 3 = q) (K : gj_W G l d mc ms y cc nL ret Q k n q ls st S M) : gj_W G l d mc ms y cc nL ret Q k n pc ls (jR z :: st) S M := by
  subst hq
  intro p e R s m args below meth c H locs lsm Z X hZ hR hlc hlv ho hk hn
  have kk := K p e R s m args below meth c H locs lsm Z X hZ hR hlc hlv (gj_tail ho) hk hn
  have hts := X.2.2.2.2.2.1
  have h1 := X.2.2.2.2.2.2.2.2.1
  have h2 := X.2.2.2.2.2.2.2.2.2.1
  rw [List.map_cons, gj_vR z0]
  have h8 := lv_room (m := m) (pc := pc) (ls := lsm) (rest := .ref (gj_base G + z.toNat) :: st.map (gj_v G)) (st := st.map (gj_v G)) (by rw [gj_cats_eq]; exact hnum.2)
  exact W.objInit X.1 X.2.1 X.2.2.2.2.1 (hts _ hl) (hts _ hi) (hts _ hco) rfl (by rw [X.2.2.2.1]; exact hlv.1) rfl hd (by omega) (by omega) kk
-- ends of methods, by kind
def gj_qI (P : Int → gj_S → gj_M → Prop) : Option gj_V → gj_S → gj_M → Prop := fun r S M => ∃ x, r = some (jI x) ∧ P x S M
def gj_qL (P : Int → gj_S → gj_M → Prop) : Option gj_V → gj_S → gj_M → Prop := fun r S M => ∃ x, r = some (jL x) ∧ P x S M
def gj_qR (P : Int → gj_S → gj_M → Prop) : Option gj_V → gj_S → gj_M → Prop := fun r S M => ∃ x, r = some (jR x) ∧ P x S M
def gj_qV (P : gj_S → gj_M → Prop) : Option gj_V → gj_S → gj_M → Prop := fun r S M => r = none ∧ P S M
theorem gj_kI {P : Int → gj_S → gj_M → Prop} {k n pc : Nat} (K : ∀ x S' M', P x S' M' → gj_W G l d mc ms y cc nL ret Q k n pc ls (jI x :: st) S' M') : ∀ (r : Option gj_V) (S' : gj_S) (M' : gj_M), gj_qI P r S' M' → gj_W G l d mc ms y cc nL ret Q k n pc ls (r.toList ++ st) S' M' := by
  rintro _ S' M' ⟨x, rfl, h⟩
  exact K x S' M' h
theorem gj_kL {P : Int → gj_S → gj_M → Prop} {k n pc : Nat} (K : ∀ x S' M', P x S' M' → gj_W G l d mc ms y cc nL ret Q k n pc ls (jL x :: st) S' M') : ∀ (r : Option gj_V) (S' : gj_S) (M' : gj_M), gj_qL P r S' M' → gj_W G l d mc ms y cc nL ret Q k n pc ls (r.toList ++ st) S' M' := by
  rintro _ S' M' ⟨x, rfl, h⟩
  exact K x S' M' h
theorem gj_kR {P : Int → gj_S → gj_M → Prop} {k n pc : Nat} (K : ∀ x S' M', P x S' M' → gj_W G l d mc ms y cc nL ret Q k n pc ls (jR x :: st) S' M') : ∀ (r : Option gj_V) (S' : gj_S) (M' : gj_M), gj_qR P r S' M' → gj_W G l d mc ms y cc nL ret Q k n pc ls (r.toList ++ st) S' M' := by
  rintro _ S' M' ⟨x, rfl, h⟩
  exact K x S' M' h
theorem gj_kV {P : gj_S → gj_M → Prop} {k n pc : Nat} (K : ∀ S' M', P S' M' → gj_W G l d mc ms y cc nL ret Q k n pc ls st S' M') : ∀ (r : Option gj_V) (S' : gj_S) (M' : gj_M), gj_qV P r S' M' → gj_W G l d mc ms y cc nL ret Q k n pc ls (r.toList ++ st) S' M' := by
  rintro _ S' M' ⟨rfl, h⟩
  exact K S' M' h
-- the script
theorem gj_sv {L : Int} {hL : L = -100} : gj_v G (jR L) = .ref (gj_b G) := by
  subst hL
  rfl
theorem gj_sld {i : Int} (hd : decode cc pc = .ok (.iaload, 1)) (h0 : 0 ≤ i) (h1 : i < gj_n G) (hq : pc + 1 = q) (K : gj_W G l d mc ms y cc nL ret Q k n q ls (jI (gj_x G i.toNat).toInt :: st) S M) : gj_W G l d mc ms y cc nL ret Q k n pc ls (jI i :: jR (-100) :: st) S M := by
  subst hq
  intro p e R s m args below meth c H locs lsm Z X hZ hR hlc hlv ho hk hn
  have kk := K p e R s m args below meth c H locs lsm Z X hZ hR hlc hlv (gj_2I (gj_rI _) ho) hk hn
  have hK := X.2.2.2.2.2.2.2.1
  obtain ⟨scr, x1, x2, x3, x4, x5⟩ := hK.2.2.2.2.2.1
  have hb := hK.2.2.2.2.2.2.1
  have hn2 := hK.2.2.2.2.2.2.2.1
  obtain ⟨v1, v2⟩ := gj_ix (i := i) (len := gj_n G) h0 h1 (by omega)
  rw [Int.toNat_natCast] at v1
  rw [List.map_cons, List.map_cons]
  refine W.iald (v := .int (gj_x G i.toNat)) X.1 X.2.1 (a := gj_b G) (cell := scr) (by rw [hR.2.1 _ hb]; exact x1) x2 x3 (by rw [x4]; exact v1) (by rw [v2]; exact x5 _ (by omega)) rfl rfl hd ?_
  rw [List.map_cons] at kk
  have e1 : gj_v G (jI (gj_x G i.toNat).toInt) = .int (gj_x G i.toNat) := by
    show Value.int (Int32.ofInt _) = _
    rw [Int32.ofInt_toInt]
  rw [e1] at kk
  exact kk
theorem gj_slen (hd : decode cc pc = .ok (.arraylength, 1)) (hq : pc + 1 = q) (K : gj_W G l d mc ms y cc nL ret Q k n q ls (jI (gj_n G) :: st) S M) : gj_W G l d mc ms y cc nL ret Q k n pc ls (jR (-100) :: st) S M := by
  subst hq
  intro p e R s m args below meth c H locs lsm Z X hZ hR hlc hlv ho hk hn
  have hK := X.2.2.2.2.2.2.2.1
  have hn2 := hK.2.2.2.2.2.2.2.1
  have kk := K p e R s m args below meth c H locs lsm Z X hZ hR hlc hlv (gj_1I ⟨by omega, by omega⟩ ho) hk hn
  obtain ⟨scr, x1, x2, x3, x4, x5⟩ := hK.2.2.2.2.2.1
  have hb := hK.2.2.2.2.2.2.1
  rw [List.map_cons]
  refine W.alen (n := Int32.ofInt (gj_n G)) X.1 X.2.1 (a := gj_b G) (cell := scr) (by rw [hR.2.1 _ hb]; exact x1) x2 (by rw [x4]; exact (Int32.ofInt_eq_ofNat).symm) rfl rfl hd kk
end GJ5
end
section
theorem gj_tw {w : Cond} (h : w ∈ tables_1) (hg : goodWord w = true) : w ∈ gj_TB := List.mem_filter.mpr ⟨List.mem_append_right _ h, hg⟩
theorem gj_t0 {w : Cond} (h : w ∈ tables_1_1) (hg : goodWord w = true) : w ∈ gj_TB := gj_tw (List.mem_append_left _ h) hg
theorem gj_t1 {w : Cond} (h : w ∈ tables_1_2) (hg : goodWord w = true) : w ∈ gj_TB := gj_tw (List.mem_append_right _ (List.mem_append_left _ h)) hg
theorem gj_t2 {w : Cond} (h : w ∈ tables_1_3) (hg : goodWord w = true) : w ∈ gj_TB := gj_tw (List.mem_append_right _ (List.mem_append_right _ (List.mem_append_left _ h))) hg
theorem gj_t3 {w : Cond} (h : w ∈ tables_1_4) (hg : goodWord w = true) : w ∈ gj_TB := gj_tw (List.mem_append_right _ (List.mem_append_right _ (List.mem_append_right _ (List.mem_append_left _ h)))) hg
theorem gj_t4 {w : Cond} (h : w ∈ tables_1_5) (hg : goodWord w = true) : w ∈ gj_TB := gj_tw (List.mem_append_right _ (List.mem_append_right _ (List.mem_append_right _ (List.mem_append_right _ (List.mem_append_left _ h))))) hg
theorem gj_t5 {w : Cond} (h : w ∈ tables_1_6) (hg : goodWord w = true) : w ∈ gj_TB := gj_tw (List.mem_append_right _ (List.mem_append_right _ (List.mem_append_right _ (List.mem_append_right _ (List.mem_append_right _ (List.mem_append_left _ h)))))) hg
theorem gj_t6 {w : Cond} (h : w ∈ tables_1_7) (hg : goodWord w = true) : w ∈ gj_TB := gj_tw (List.mem_append_right _ (List.mem_append_right _ (List.mem_append_right _ (List.mem_append_right _ (List.mem_append_right _ (List.mem_append_right _ (List.mem_append_left _ h))))))) hg
theorem gj_t7 {w : Cond} (h : w ∈ tables_1_8) (hg : goodWord w = true) : w ∈ gj_TB := gj_tw (List.mem_append_right _ (List.mem_append_right _ (List.mem_append_right _ (List.mem_append_right _ (List.mem_append_right _ (List.mem_append_right _ (List.mem_append_right _ (h)))))))) hg
theorem gj_tp {q : MethodName × Nat} (h : q ∈ lw_privs) : Cond.selects q.1.cls q.1 q.1 ∈ gj_TB := List.mem_filter.mpr ⟨List.mem_append_left _ (List.mem_map.mpr ⟨q, h, rfl⟩), rfl⟩
theorem gj_p0 {q : MethodName × Nat} (h : q ∈ lw_privs_1) : Cond.selects q.1.cls q.1 q.1 ∈ gj_TB := gj_tp (List.mem_append_left _ h)
theorem gj_p1 {q : MethodName × Nat} (h : q ∈ lw_privs_2) : Cond.selects q.1.cls q.1 q.1 ∈ gj_TB := gj_tp (List.mem_append_right _ (List.mem_append_left _ h))
theorem gj_p2 {q : MethodName × Nat} (h : q ∈ lw_privs_3) : Cond.selects q.1.cls q.1 q.1 ∈ gj_TB := gj_tp (List.mem_append_right _ (List.mem_append_right _ (List.mem_append_left _ h)))
theorem gj_p3 {q : MethodName × Nat} (h : q ∈ lw_privs_4) : Cond.selects q.1.cls q.1 q.1 ∈ gj_TB := gj_tp (List.mem_append_right _ (List.mem_append_right _ (List.mem_append_right _ (List.mem_append_left _ h))))
theorem gj_p4 {q : MethodName × Nat} (h : q ∈ lw_privs_5) : Cond.selects q.1.cls q.1 q.1 ∈ gj_TB := gj_tp (List.mem_append_right _ (List.mem_append_right _ (List.mem_append_right _ (List.mem_append_right _ (List.mem_append_left _ h)))))
theorem gj_p5 {q : MethodName × Nat} (h : q ∈ lw_privs_6) : Cond.selects q.1.cls q.1 q.1 ∈ gj_TB := gj_tp (List.mem_append_right _ (List.mem_append_right _ (List.mem_append_right _ (List.mem_append_right _ (List.mem_append_right _ (List.mem_append_left _ h))))))
theorem gj_p6 {q : MethodName × Nat} (h : q ∈ lw_privs_7) : Cond.selects q.1.cls q.1 q.1 ∈ gj_TB := gj_tp (List.mem_append_right _ (List.mem_append_right _ (List.mem_append_right _ (List.mem_append_right _ (List.mem_append_right _ (List.mem_append_right _ (h)))))))
theorem ini_L : Cond.initialized RL ∈ gj_TB := gj_t0 (List.mem_of_getElem? (i := 0) rfl) rfl
theorem ini_X11 : Cond.initialized RX11 ∈ gj_TB := gj_t0 (List.mem_of_getElem? (i := 1) rfl) rfl
theorem ini_X9 : Cond.initialized RX9 ∈ gj_TB := gj_t0 (List.mem_of_getElem? (i := 2) rfl) rfl
theorem ini_X5 : Cond.initialized RX5 ∈ gj_TB := gj_t0 (List.mem_of_getElem? (i := 3) rfl) rfl
theorem ini_X6 : Cond.initialized RX6 ∈ gj_TB := gj_t0 (List.mem_of_getElem? (i := 4) rfl) rfl
theorem ini_X3 : Cond.initialized RX3 ∈ gj_TB := gj_t0 (List.mem_of_getElem? (i := 5) rfl) rfl
theorem ini_X1 : Cond.initialized RX1 ∈ gj_TB := gj_t0 (List.mem_of_getElem? (i := 6) rfl) rfl
theorem ini_X7 : Cond.initialized RX7 ∈ gj_TB := gj_t0 (List.mem_of_getElem? (i := 7) rfl) rfl
theorem ini_X4 : Cond.initialized RX4 ∈ gj_TB := gj_t0 (List.mem_of_getElem? (i := 8) rfl) rfl
theorem ini_X2 : Cond.initialized RX2 ∈ gj_TB := gj_t0 (List.mem_of_getElem? (i := 9) rfl) rfl
theorem ini_X0 : Cond.initialized RX0 ∈ gj_TB := gj_t0 (List.mem_of_getElem? (i := 10) rfl) rfl
theorem ini_X8 : Cond.initialized RX8 ∈ gj_TB := gj_t0 (List.mem_of_getElem? (i := 11) rfl) rfl
theorem ini_X12 : Cond.initialized RX12 ∈ gj_TB := gj_t0 (List.mem_of_getElem? (i := 12) rfl) rfl
theorem ini_J0 : Cond.initialized RJ0 ∈ gj_TB := gj_t0 (List.mem_of_getElem? (i := 13) rfl) rfl
theorem ini_J1 : Cond.initialized RJ1 ∈ gj_TB := gj_t0 (List.mem_of_getElem? (i := 14) rfl) rfl
theorem ini_J3 : Cond.initialized RJ3 ∈ gj_TB := gj_t0 (List.mem_of_getElem? (i := 15) rfl) rfl
theorem ini_J2 : Cond.initialized RJ2 ∈ gj_TB := gj_t0 (List.mem_of_getElem? (i := 16) rfl) rfl
theorem ini_J9 : Cond.initialized RJ9 ∈ gj_TB := gj_t0 (List.mem_of_getElem? (i := 17) rfl) rfl
theorem ini_X10 : Cond.initialized RX10 ∈ gj_TB := gj_t0 (List.mem_of_getElem? (i := 18) rfl) rfl
theorem cl_L_7 : Cond.classLink RL 7 RX11 ∈ gj_TB := gj_t0 (List.mem_of_getElem? (i := 19) rfl) rfl
theorem ins_X11 : Cond.instantiable RX11 12 ∈ gj_TB := gj_t0 (List.mem_of_getElem? (i := 20) rfl) rfl
theorem ml_L_9 : Cond.methodLink RL 9 yX11_init ∈ gj_TB := gj_t0 (List.mem_of_getElem? (i := 21) rfl) rfl
theorem ml_X11_1 : Cond.methodLink RX11 1 Lib.objectInit ∈ gj_TB := gj_t0 (List.mem_of_getElem? (i := 24) rfl) rfl
theorem cl_X11_7 : Cond.classLink RX11 7 RX9 ∈ gj_TB := gj_t0 (List.mem_of_getElem? (i := 27) rfl) rfl
theorem ins_X9 : Cond.instantiable RX9 2 ∈ gj_TB := gj_t0 (List.mem_of_getElem? (i := 28) rfl) rfl
theorem ml_X9_3 : Cond.methodLink RX9 3 Lib.objectInit ∈ gj_TB := gj_t0 (List.mem_of_getElem? (i := 32) rfl) rfl
theorem kf_X9_9 : Cond.fieldLink RX9 9 RX9 "bytes" "[I" ∈ gj_TB := gj_t0 (List.mem_of_getElem? (i := 33) rfl) rfl
theorem kf_X9_15 : Cond.fieldLink RX9 15 RX9 "length" "I" ∈ gj_TB := gj_t0 (List.mem_of_getElem? (i := 34) rfl) rfl
theorem ka_int : Cond.arrayClass .int ∈ gj_TB := gj_t0 (List.mem_of_getElem? (i := 40) rfl) rfl
theorem cl_X11_16 : Cond.classLink RX11 16 RX5 ∈ gj_TB := gj_t0 (List.mem_of_getElem? (i := 41) rfl) rfl
theorem ins_X5 : Cond.instantiable RX5 16 ∈ gj_TB := gj_t0 (List.mem_of_getElem? (i := 42) rfl) rfl
theorem ml_X5_3 : Cond.methodLink RX5 3 Lib.objectInit ∈ gj_TB := gj_t0 (List.mem_of_getElem? (i := 46) rfl) rfl
theorem kf_X5_30 : Cond.fieldLink RX5 30 RX5 "lefts" "I" ∈ gj_TB := gj_t0 (List.mem_of_getElem? (i := 47) rfl) rfl
theorem kf_X4_38 : Cond.fieldLink RX4 38 RX5 "lefts" "I" ∈ gj_TB := gj_t0 (List.mem_of_getElem? (i := 48) rfl) rfl
theorem kf_X11_124 : Cond.fieldLink RX11 124 RX5 "lefts" "I" ∈ gj_TB := gj_t0 (List.mem_of_getElem? (i := 49) rfl) rfl
theorem kf_X6_87 : Cond.fieldLink RX6 87 RX5 "lefts" "I" ∈ gj_TB := gj_t0 (List.mem_of_getElem? (i := 50) rfl) rfl
theorem kf_X5_34 : Cond.fieldLink RX5 34 RX5 "rights" "I" ∈ gj_TB := gj_t0 (List.mem_of_getElem? (i := 51) rfl) rfl
theorem kf_X4_33 : Cond.fieldLink RX4 33 RX5 "rights" "I" ∈ gj_TB := gj_t0 (List.mem_of_getElem? (i := 52) rfl) rfl
theorem kf_X11_128 : Cond.fieldLink RX11 128 RX5 "rights" "I" ∈ gj_TB := gj_t0 (List.mem_of_getElem? (i := 53) rfl) rfl
theorem kf_X6_96 : Cond.fieldLink RX6 96 RX5 "rights" "I" ∈ gj_TB := gj_t0 (List.mem_of_getElem? (i := 54) rfl) rfl
theorem kf_X5_37 : Cond.fieldLink RX5 37 RX5 "worthGood" "I" ∈ gj_TB := gj_t0 (List.mem_of_getElem? (i := 55) rfl) rfl
theorem kf_X8_165 : Cond.fieldLink RX8 165 RX5 "worthGood" "I" ∈ gj_TB := gj_t0 (List.mem_of_getElem? (i := 56) rfl) rfl
theorem kf_X6_196 : Cond.fieldLink RX6 196 RX5 "worthGood" "I" ∈ gj_TB := gj_t0 (List.mem_of_getElem? (i := 57) rfl) rfl
theorem kf_X4_136 : Cond.fieldLink RX4 136 RX5 "worthGood" "I" ∈ gj_TB := gj_t0 (List.mem_of_getElem? (i := 58) rfl) rfl
theorem kf_X5_40 : Cond.fieldLink RX5 40 RX5 "worthPoor" "I" ∈ gj_TB := gj_t0 (List.mem_of_getElem? (i := 59) rfl) rfl
theorem kf_X8_168 : Cond.fieldLink RX8 168 RX5 "worthPoor" "I" ∈ gj_TB := gj_t0 (List.mem_of_getElem? (i := 60) rfl) rfl
theorem kf_X6_199 : Cond.fieldLink RX6 199 RX5 "worthPoor" "I" ∈ gj_TB := gj_t0 (List.mem_of_getElem? (i := 61) rfl) rfl
theorem kf_X4_139 : Cond.fieldLink RX4 139 RX5 "worthPoor" "I" ∈ gj_TB := gj_t0 (List.mem_of_getElem? (i := 62) rfl) rfl
theorem kf_X5_43 : Cond.fieldLink RX5 43 RX5 "houseYears" "I" ∈ gj_TB := gj_t0 (List.mem_of_getElem? (i := 63) rfl) rfl
theorem kf_X8_174 : Cond.fieldLink RX8 174 RX5 "houseYears" "I" ∈ gj_TB := gj_t0 (List.mem_of_getElem? (i := 64) rfl) rfl
theorem kf_X6_202 : Cond.fieldLink RX6 202 RX5 "houseYears" "I" ∈ gj_TB := gj_t0 (List.mem_of_getElem? (i := 65) rfl) rfl
theorem kf_X4_142 : Cond.fieldLink RX4 142 RX5 "houseYears" "I" ∈ gj_TB := gj_t0 (List.mem_of_getElem? (i := 66) rfl) rfl
theorem kf_X5_46 : Cond.fieldLink RX5 46 RX5 "house" "I" ∈ gj_TB := gj_t0 (List.mem_of_getElem? (i := 67) rfl) rfl
theorem kf_X8_177 : Cond.fieldLink RX8 177 RX5 "house" "I" ∈ gj_TB := gj_t0 (List.mem_of_getElem? (i := 68) rfl) rfl
theorem kf_X6_205 : Cond.fieldLink RX6 205 RX5 "house" "I" ∈ gj_TB := gj_t0 (List.mem_of_getElem? (i := 69) rfl) rfl
theorem kf_X4_145 : Cond.fieldLink RX4 145 RX5 "house" "I" ∈ gj_TB := gj_t0 (List.mem_of_getElem? (i := 70) rfl) rfl
theorem kf_X5_49 : Cond.fieldLink RX5 49 RX5 "childChance" "I" ∈ gj_TB := gj_t0 (List.mem_of_getElem? (i := 71) rfl) rfl
theorem kf_X8_159 : Cond.fieldLink RX8 159 RX5 "childChance" "I" ∈ gj_TB := gj_t0 (List.mem_of_getElem? (i := 72) rfl) rfl
theorem kf_X6_207 : Cond.fieldLink RX6 207 RX5 "childChance" "I" ∈ gj_TB := gj_t0 (List.mem_of_getElem? (i := 73) rfl) rfl
theorem kf_X5_52 : Cond.fieldLink RX5 52 RX5 "child" "I" ∈ gj_TB := gj_t0 (List.mem_of_getElem? (i := 74) rfl) rfl
theorem kf_X4_67 : Cond.fieldLink RX4 67 RX5 "child" "I" ∈ gj_TB := gj_t0 (List.mem_of_getElem? (i := 75) rfl) rfl
theorem kf_X2_121 : Cond.fieldLink RX2 121 RX5 "child" "I" ∈ gj_TB := gj_t0 (List.mem_of_getElem? (i := 76) rfl) rfl
theorem kf_X8_171 : Cond.fieldLink RX8 171 RX5 "child" "I" ∈ gj_TB := gj_t0 (List.mem_of_getElem? (i := 77) rfl) rfl
theorem kf_X6_210 : Cond.fieldLink RX6 210 RX5 "child" "I" ∈ gj_TB := gj_t0 (List.mem_of_getElem? (i := 78) rfl) rfl
theorem kf_X5_55 : Cond.fieldLink RX5 55 RX5 "cow" "I" ∈ gj_TB := gj_t0 (List.mem_of_getElem? (i := 79) rfl) rfl
theorem kf_X4_89 : Cond.fieldLink RX4 89 RX5 "cow" "I" ∈ gj_TB := gj_t0 (List.mem_of_getElem? (i := 80) rfl) rfl
theorem kf_X8_105 : Cond.fieldLink RX8 105 RX5 "cow" "I" ∈ gj_TB := gj_t0 (List.mem_of_getElem? (i := 81) rfl) rfl
theorem kf_X6_212 : Cond.fieldLink RX6 212 RX5 "cow" "I" ∈ gj_TB := gj_t0 (List.mem_of_getElem? (i := 82) rfl) rfl
theorem kf_X11_246 : Cond.fieldLink RX11 246 RX5 "cow" "I" ∈ gj_TB := gj_t0 (List.mem_of_getElem? (i := 83) rfl) rfl
theorem kf_X5_58 : Cond.fieldLink RX5 58 RX5 "ahead" "I" ∈ gj_TB := gj_t0 (List.mem_of_getElem? (i := 84) rfl) rfl
theorem kf_X8_77 : Cond.fieldLink RX8 77 RX5 "ahead" "I" ∈ gj_TB := gj_t0 (List.mem_of_getElem? (i := 85) rfl) rfl
theorem kf_X6_214 : Cond.fieldLink RX6 214 RX5 "ahead" "I" ∈ gj_TB := gj_t0 (List.mem_of_getElem? (i := 86) rfl) rfl
theorem kf_X11_330 : Cond.fieldLink RX11 330 RX5 "ahead" "I" ∈ gj_TB := gj_t0 (List.mem_of_getElem? (i := 87) rfl) rfl
theorem kf_X5_9 : Cond.fieldLink RX5 9 RX5 "alone" "[I" ∈ gj_TB := gj_t0 (List.mem_of_getElem? (i := 88) rfl) rfl
theorem kf_X11_136 : Cond.fieldLink RX11 136 RX5 "alone" "[I" ∈ gj_TB := gj_t0 (List.mem_of_getElem? (i := 89) rfl) rfl
theorem kf_X8_146 : Cond.fieldLink RX8 146 RX5 "alone" "[I" ∈ gj_TB := gj_t0 (List.mem_of_getElem? (i := 90) rfl) rfl
theorem kf_X6_148 : Cond.fieldLink RX6 148 RX5 "alone" "[I" ∈ gj_TB := gj_t0 (List.mem_of_getElem? (i := 91) rfl) rfl
theorem kf_X2_128 : Cond.fieldLink RX2 128 RX5 "alone" "[I" ∈ gj_TB := gj_t0 (List.mem_of_getElem? (i := 92) rfl) rfl
theorem kf_X4_129 : Cond.fieldLink RX4 129 RX5 "alone" "[I" ∈ gj_TB := gj_t0 (List.mem_of_getElem? (i := 93) rfl) rfl
theorem kf_X5_15 : Cond.fieldLink RX5 15 RX5 "chance" "[I" ∈ gj_TB := gj_t0 (List.mem_of_getElem? (i := 94) rfl) rfl
theorem kf_X6_179 : Cond.fieldLink RX6 179 RX5 "chance" "[I" ∈ gj_TB := gj_t0 (List.mem_of_getElem? (i := 95) rfl) rfl
theorem kf_X11_186 : Cond.fieldLink RX11 186 RX5 "chance" "[I" ∈ gj_TB := gj_t0 (List.mem_of_getElem? (i := 96) rfl) rfl
theorem kf_X5_18 : Cond.fieldLink RX5 18 RX5 "ifRight" "[I" ∈ gj_TB := gj_t0 (List.mem_of_getElem? (i := 97) rfl) rfl
theorem kf_X6_182 : Cond.fieldLink RX6 182 RX5 "ifRight" "[I" ∈ gj_TB := gj_t0 (List.mem_of_getElem? (i := 98) rfl) rfl
theorem kf_X11_189 : Cond.fieldLink RX11 189 RX5 "ifRight" "[I" ∈ gj_TB := gj_t0 (List.mem_of_getElem? (i := 99) rfl) rfl
theorem kf_X5_21 : Cond.fieldLink RX5 21 RX5 "ifNot" "[I" ∈ gj_TB := gj_t0 (List.mem_of_getElem? (i := 100) rfl) rfl
theorem kf_X6_185 : Cond.fieldLink RX6 185 RX5 "ifNot" "[I" ∈ gj_TB := gj_t0 (List.mem_of_getElem? (i := 101) rfl) rfl
theorem kf_X11_192 : Cond.fieldLink RX11 192 RX5 "ifNot" "[I" ∈ gj_TB := gj_t0 (List.mem_of_getElem? (i := 102) rfl) rfl
theorem kf_X5_24 : Cond.fieldLink RX5 24 RX5 "fit" "[I" ∈ gj_TB := gj_t0 (List.mem_of_getElem? (i := 103) rfl) rfl
theorem kf_X8_156 : Cond.fieldLink RX8 156 RX5 "fit" "[I" ∈ gj_TB := gj_t0 (List.mem_of_getElem? (i := 104) rfl) rfl
theorem kf_X11_174 : Cond.fieldLink RX11 174 RX5 "fit" "[I" ∈ gj_TB := gj_t0 (List.mem_of_getElem? (i := 105) rfl) rfl
theorem kf_X6_191 : Cond.fieldLink RX6 191 RX5 "fit" "[I" ∈ gj_TB := gj_t0 (List.mem_of_getElem? (i := 106) rfl) rfl
theorem kf_X5_27 : Cond.fieldLink RX5 27 RX5 "goodAfter" "[I" ∈ gj_TB := gj_t0 (List.mem_of_getElem? (i := 107) rfl) rfl
theorem cl_X11_23 : Cond.classLink RX11 23 RX6 ∈ gj_TB := gj_t0 (List.mem_of_getElem? (i := 141) rfl) rfl
theorem ins_X6 : Cond.instantiable RX6 10 ∈ gj_TB := gj_t0 (List.mem_of_getElem? (i := 142) rfl) rfl
theorem ml_X11_25 : Cond.methodLink RX11 25 yX6_init ∈ gj_TB := gj_t0 (List.mem_of_getElem? (i := 143) rfl) rfl
theorem ml_X6_3 : Cond.methodLink RX6 3 Lib.objectInit ∈ gj_TB := gj_t0 (List.mem_of_getElem? (i := 146) rfl) rfl
theorem kf_X6_22 : Cond.fieldLink RX6 22 RX6 "text" "LMayGreen$Text;" ∈ gj_TB := gj_t0 (List.mem_of_getElem? (i := 147) rfl) rfl
theorem kf_X6_26 : Cond.fieldLink RX6 26 RX6 "plan" "LMayGreen$Plan;" ∈ gj_TB := gj_t0 (List.mem_of_getElem? (i := 148) rfl) rfl
theorem kf_X6_9 : Cond.fieldLink RX6 9 RX6 "names" "[J" ∈ gj_TB := gj_t0 (List.mem_of_getElem? (i := 149) rfl) rfl
theorem kf_X6_15 : Cond.fieldLink RX6 15 RX6 "thought" "[Z" ∈ gj_TB := gj_t0 (List.mem_of_getElem? (i := 150) rfl) rfl
theorem kf_X6_19 : Cond.fieldLink RX6 19 RX6 "fitted" "[Z" ∈ gj_TB := gj_t0 (List.mem_of_getElem? (i := 151) rfl) rfl
theorem kf_X6_35 : Cond.fieldLink RX6 35 RX6 "once" "I" ∈ gj_TB := gj_t0 (List.mem_of_getElem? (i := 152) rfl) rfl
theorem kf_X6_57 : Cond.fieldLink RX6 57 RX6 "kind" "I" ∈ gj_TB := gj_t0 (List.mem_of_getElem? (i := 153) rfl) rfl
theorem kf_X6_64 : Cond.fieldLink RX6 64 RX6 "start" "I" ∈ gj_TB := gj_t0 (List.mem_of_getElem? (i := 154) rfl) rfl
theorem kf_X6_39 : Cond.fieldLink RX6 39 RX6 "next" "I" ∈ gj_TB := gj_t0 (List.mem_of_getElem? (i := 155) rfl) rfl
theorem kf_X6_152 : Cond.fieldLink RX6 152 RX6 "value" "I" ∈ gj_TB := gj_t0 (List.mem_of_getElem? (i := 156) rfl) rfl
theorem ka_long : Cond.arrayClass .long ∈ gj_TB := gj_t0 (List.mem_of_getElem? (i := 178) rfl) rfl
theorem ka_boolean : Cond.arrayClass .boolean ∈ gj_TB := gj_t0 (List.mem_of_getElem? (i := 179) rfl) rfl
theorem cl_X11_35 : Cond.classLink RX11 35 RX3 ∈ gj_TB := gj_t0 (List.mem_of_getElem? (i := 180) rfl) rfl
theorem ins_X3 : Cond.instantiable RX3 11 ∈ gj_TB := gj_t0 (List.mem_of_getElem? (i := 181) rfl) rfl
theorem ml_X11_37 : Cond.methodLink RX11 37 yX3_init ∈ gj_TB := gj_t0 (List.mem_of_getElem? (i := 182) rfl) rfl
theorem ml_X3_3 : Cond.methodLink RX3 3 Lib.objectInit ∈ gj_TB := gj_t0 (List.mem_of_getElem? (i := 185) rfl) rfl
theorem cl_X3_33 : Cond.classLink RX3 33 RX1 ∈ gj_TB := gj_t0 (List.mem_of_getElem? (i := 186) rfl) rfl
theorem ins_X1 : Cond.instantiable RX1 3 ∈ gj_TB := gj_t0 (List.mem_of_getElem? (i := 187) rfl) rfl
theorem ml_X1_3 : Cond.methodLink RX1 3 Lib.objectInit ∈ gj_TB := gj_t0 (List.mem_of_getElem? (i := 191) rfl) rfl
theorem kf_X1_11 : Cond.fieldLink RX1 11 RX1 "cells" "[I" ∈ gj_TB := gj_t0 (List.mem_of_getElem? (i := 192) rfl) rfl
theorem kf_X1_19 : Cond.fieldLink RX1 19 RX1 "first" "I" ∈ gj_TB := gj_t0 (List.mem_of_getElem? (i := 193) rfl) rfl
theorem kf_X1_15 : Cond.fieldLink RX1 15 RX1 "size" "I" ∈ gj_TB := gj_t0 (List.mem_of_getElem? (i := 194) rfl) rfl
theorem ml_X3_40 : Cond.methodLink RX3 40 yX7_fill ∈ gj_TB := gj_t0 (List.mem_of_getElem? (i := 202) rfl) rfl
theorem kf_X3_46 : Cond.fieldLink RX3 46 RX3 "year" "I" ∈ gj_TB := gj_t0 (List.mem_of_getElem? (i := 205) rfl) rfl
theorem kf_X8_115 : Cond.fieldLink RX8 115 RX3 "year" "I" ∈ gj_TB := gj_t0 (List.mem_of_getElem? (i := 206) rfl) rfl
theorem kf_X11_275 : Cond.fieldLink RX11 275 RX3 "year" "I" ∈ gj_TB := gj_t0 (List.mem_of_getElem? (i := 207) rfl) rfl
theorem kf_X3_50 : Cond.fieldLink RX3 50 RX3 "way" "I" ∈ gj_TB := gj_t0 (List.mem_of_getElem? (i := 208) rfl) rfl
theorem kf_X8_46 : Cond.fieldLink RX8 46 RX3 "way" "I" ∈ gj_TB := gj_t0 (List.mem_of_getElem? (i := 209) rfl) rfl
theorem kf_X11_254 : Cond.fieldLink RX11 254 RX3 "way" "I" ∈ gj_TB := gj_t0 (List.mem_of_getElem? (i := 210) rfl) rfl
theorem kf_X3_53 : Cond.fieldLink RX3 53 RX3 "x" "I" ∈ gj_TB := gj_t0 (List.mem_of_getElem? (i := 211) rfl) rfl
theorem kf_X11_258 : Cond.fieldLink RX11 258 RX3 "x" "I" ∈ gj_TB := gj_t0 (List.mem_of_getElem? (i := 212) rfl) rfl
theorem kf_X3_9 : Cond.fieldLink RX3 9 RX3 "mate" "[I" ∈ gj_TB := gj_t0 (List.mem_of_getElem? (i := 213) rfl) rfl
theorem kf_X2_36 : Cond.fieldLink RX2 36 RX3 "mate" "[I" ∈ gj_TB := gj_t0 (List.mem_of_getElem? (i := 214) rfl) rfl
theorem kf_X4_73 : Cond.fieldLink RX4 73 RX3 "mate" "[I" ∈ gj_TB := gj_t0 (List.mem_of_getElem? (i := 215) rfl) rfl
theorem kf_X8_62 : Cond.fieldLink RX8 62 RX3 "mate" "[I" ∈ gj_TB := gj_t0 (List.mem_of_getElem? (i := 216) rfl) rfl
theorem kf_X11_143 : Cond.fieldLink RX11 143 RX3 "mate" "[I" ∈ gj_TB := gj_t0 (List.mem_of_getElem? (i := 217) rfl) rfl
theorem kf_X3_15 : Cond.fieldLink RX3 15 RX3 "years" "[I" ∈ gj_TB := gj_t0 (List.mem_of_getElem? (i := 218) rfl) rfl
theorem kf_X4_83 : Cond.fieldLink RX4 83 RX3 "years" "[I" ∈ gj_TB := gj_t0 (List.mem_of_getElem? (i := 219) rfl) rfl
theorem kf_X8_124 : Cond.fieldLink RX8 124 RX3 "years" "[I" ∈ gj_TB := gj_t0 (List.mem_of_getElem? (i := 220) rfl) rfl
theorem kf_X11_151 : Cond.fieldLink RX11 151 RX3 "years" "[I" ∈ gj_TB := gj_t0 (List.mem_of_getElem? (i := 221) rfl) rfl
theorem kf_X3_18 : Cond.fieldLink RX3 18 RX3 "yeses" "[I" ∈ gj_TB := gj_t0 (List.mem_of_getElem? (i := 222) rfl) rfl
theorem kf_X8_98 : Cond.fieldLink RX8 98 RX3 "yeses" "[I" ∈ gj_TB := gj_t0 (List.mem_of_getElem? (i := 223) rfl) rfl
theorem kf_X11_180 : Cond.fieldLink RX11 180 RX3 "yeses" "[I" ∈ gj_TB := gj_t0 (List.mem_of_getElem? (i := 224) rfl) rfl
theorem kf_X3_21 : Cond.fieldLink RX3 21 RX3 "earned" "[I" ∈ gj_TB := gj_t0 (List.mem_of_getElem? (i := 225) rfl) rfl
theorem kf_X11_154 : Cond.fieldLink RX11 154 RX3 "earned" "[I" ∈ gj_TB := gj_t0 (List.mem_of_getElem? (i := 226) rfl) rfl
theorem kf_X3_24 : Cond.fieldLink RX3 24 RX3 "good" "[I" ∈ gj_TB := gj_t0 (List.mem_of_getElem? (i := 227) rfl) rfl
theorem kf_X4_53 : Cond.fieldLink RX4 53 RX3 "good" "[I" ∈ gj_TB := gj_t0 (List.mem_of_getElem? (i := 228) rfl) rfl
theorem kf_X2_111 : Cond.fieldLink RX2 111 RX3 "good" "[I" ∈ gj_TB := gj_t0 (List.mem_of_getElem? (i := 229) rfl) rfl
theorem kf_X11_165 : Cond.fieldLink RX11 165 RX3 "good" "[I" ∈ gj_TB := gj_t0 (List.mem_of_getElem? (i := 230) rfl) rfl
theorem kf_X8_180 : Cond.fieldLink RX8 180 RX3 "good" "[I" ∈ gj_TB := gj_t0 (List.mem_of_getElem? (i := 231) rfl) rfl
theorem kf_X3_27 : Cond.fieldLink RX3 27 RX3 "poor" "[I" ∈ gj_TB := gj_t0 (List.mem_of_getElem? (i := 232) rfl) rfl
theorem kf_X4_66 : Cond.fieldLink RX4 66 RX3 "poor" "[I" ∈ gj_TB := gj_t0 (List.mem_of_getElem? (i := 233) rfl) rfl
theorem kf_X2_114 : Cond.fieldLink RX2 114 RX3 "poor" "[I" ∈ gj_TB := gj_t0 (List.mem_of_getElem? (i := 234) rfl) rfl
theorem kf_X11_168 : Cond.fieldLink RX11 168 RX3 "poor" "[I" ∈ gj_TB := gj_t0 (List.mem_of_getElem? (i := 235) rfl) rfl
theorem kf_X8_183 : Cond.fieldLink RX8 183 RX3 "poor" "[I" ∈ gj_TB := gj_t0 (List.mem_of_getElem? (i := 236) rfl) rfl
theorem kf_X3_30 : Cond.fieldLink RX3 30 RX3 "children" "[I" ∈ gj_TB := gj_t0 (List.mem_of_getElem? (i := 237) rfl) rfl
theorem kf_X4_70 : Cond.fieldLink RX4 70 RX3 "children" "[I" ∈ gj_TB := gj_t0 (List.mem_of_getElem? (i := 238) rfl) rfl
theorem kf_X8_162 : Cond.fieldLink RX8 162 RX3 "children" "[I" ∈ gj_TB := gj_t0 (List.mem_of_getElem? (i := 239) rfl) rfl
theorem kf_X2_125 : Cond.fieldLink RX2 125 RX3 "children" "[I" ∈ gj_TB := gj_t1 (List.mem_of_getElem? (i := 0) rfl) rfl
theorem kf_X11_171 : Cond.fieldLink RX11 171 RX3 "children" "[I" ∈ gj_TB := gj_t1 (List.mem_of_getElem? (i := 1) rfl) rfl
theorem kf_X3_36 : Cond.fieldLink RX3 36 RX3 "ended" "LMayGreen$Ended;" ∈ gj_TB := gj_t1 (List.mem_of_getElem? (i := 2) rfl) rfl
theorem kf_X8_111 : Cond.fieldLink RX8 111 RX3 "ended" "LMayGreen$Ended;" ∈ gj_TB := gj_t1 (List.mem_of_getElem? (i := 3) rfl) rfl
theorem kf_X11_285 : Cond.fieldLink RX11 285 RX3 "ended" "LMayGreen$Ended;" ∈ gj_TB := gj_t1 (List.mem_of_getElem? (i := 4) rfl) rfl
theorem cl_X11_42 : Cond.classLink RX11 42 RX4 ∈ gj_TB := gj_t1 (List.mem_of_getElem? (i := 28) rfl) rfl
theorem ins_X4 : Cond.instantiable RX4 11 ∈ gj_TB := gj_t1 (List.mem_of_getElem? (i := 29) rfl) rfl
theorem ml_X11_44 : Cond.methodLink RX11 44 yX4_init ∈ gj_TB := gj_t1 (List.mem_of_getElem? (i := 30) rfl) rfl
theorem ml_X4_3 : Cond.methodLink RX4 3 Lib.objectInit ∈ gj_TB := gj_t1 (List.mem_of_getElem? (i := 33) rfl) rfl
theorem kf_X4_21 : Cond.fieldLink RX4 21 RX4 "plan" "LMayGreen$Plan;" ∈ gj_TB := gj_t1 (List.mem_of_getElem? (i := 34) rfl) rfl
theorem kf_X4_25 : Cond.fieldLink RX4 25 RX4 "life" "LMayGreen$Life;" ∈ gj_TB := gj_t1 (List.mem_of_getElem? (i := 35) rfl) rfl
theorem kf_X4_9 : Cond.fieldLink RX4 9 RX4 "good" "[I" ∈ gj_TB := gj_t1 (List.mem_of_getElem? (i := 36) rfl) rfl
theorem kf_X4_15 : Cond.fieldLink RX4 15 RX4 "poor" "[I" ∈ gj_TB := gj_t1 (List.mem_of_getElem? (i := 37) rfl) rfl
theorem kf_X4_18 : Cond.fieldLink RX4 18 RX4 "childWorth" "[I" ∈ gj_TB := gj_t1 (List.mem_of_getElem? (i := 38) rfl) rfl
theorem kf_X4_29 : Cond.fieldLink RX4 29 RX4 "me" "I" ∈ gj_TB := gj_t1 (List.mem_of_getElem? (i := 39) rfl) rfl
theorem kf_X4_41 : Cond.fieldLink RX4 41 RX4 "others" "I" ∈ gj_TB := gj_t1 (List.mem_of_getElem? (i := 40) rfl) rfl
theorem kf_X4_80 : Cond.fieldLink RX4 80 RX4 "has" "I" ∈ gj_TB := gj_t1 (List.mem_of_getElem? (i := 41) rfl) rfl
theorem kf_X4_86 : Cond.fieldLink RX4 86 RX4 "hasFor" "I" ∈ gj_TB := gj_t1 (List.mem_of_getElem? (i := 42) rfl) rfl
theorem kf_X4_92 : Cond.fieldLink RX4 92 RX4 "cow" "I" ∈ gj_TB := gj_t1 (List.mem_of_getElem? (i := 43) rfl) rfl
theorem kf_X4_93 : Cond.fieldLink RX4 93 RX4 "shut" "I" ∈ gj_TB := gj_t1 (List.mem_of_getElem? (i := 44) rfl) rfl
theorem cl_X11_51 : Cond.classLink RX11 51 RX2 ∈ gj_TB := gj_t1 (List.mem_of_getElem? (i := 68) rfl) rfl
theorem ins_X2 : Cond.instantiable RX2 7 ∈ gj_TB := gj_t1 (List.mem_of_getElem? (i := 69) rfl) rfl
theorem ml_X11_53 : Cond.methodLink RX11 53 yX2_init ∈ gj_TB := gj_t1 (List.mem_of_getElem? (i := 70) rfl) rfl
theorem ml_X2_3 : Cond.methodLink RX2 3 Lib.objectInit ∈ gj_TB := gj_t1 (List.mem_of_getElem? (i := 73) rfl) rfl
theorem kf_X2_28 : Cond.fieldLink RX2 28 RX2 "plan" "LMayGreen$Plan;" ∈ gj_TB := gj_t1 (List.mem_of_getElem? (i := 74) rfl) rfl
theorem kf_X2_32 : Cond.fieldLink RX2 32 RX2 "life" "LMayGreen$Life;" ∈ gj_TB := gj_t1 (List.mem_of_getElem? (i := 75) rfl) rfl
theorem kf_X2_9 : Cond.fieldLink RX2 9 RX2 "likings" "[I" ∈ gj_TB := gj_t1 (List.mem_of_getElem? (i := 76) rfl) rfl
theorem kf_X2_15 : Cond.fieldLink RX2 15 RX2 "both" "[Z" ∈ gj_TB := gj_t1 (List.mem_of_getElem? (i := 77) rfl) rfl
theorem kf_X2_19 : Cond.fieldLink RX2 19 RX2 "here" "[Z" ∈ gj_TB := gj_t1 (List.mem_of_getElem? (i := 78) rfl) rfl
theorem kf_X2_22 : Cond.fieldLink RX2 22 RX2 "saidNo" "[Z" ∈ gj_TB := gj_t1 (List.mem_of_getElem? (i := 79) rfl) rfl
theorem kf_X2_25 : Cond.fieldLink RX2 25 RX2 "mate" "[I" ∈ gj_TB := gj_t1 (List.mem_of_getElem? (i := 80) rfl) rfl
theorem kf_X8_136 : Cond.fieldLink RX8 136 RX2 "mate" "[I" ∈ gj_TB := gj_t1 (List.mem_of_getElem? (i := 81) rfl) rfl
theorem kf_X11_267 : Cond.fieldLink RX11 267 RX2 "mate" "[I" ∈ gj_TB := gj_t1 (List.mem_of_getElem? (i := 82) rfl) rfl
theorem cl_X11_58 : Cond.classLink RX11 58 RX0 ∈ gj_TB := gj_t1 (List.mem_of_getElem? (i := 98) rfl) rfl
theorem ins_X0 : Cond.instantiable RX0 3 ∈ gj_TB := gj_t1 (List.mem_of_getElem? (i := 99) rfl) rfl
theorem ml_X11_60 : Cond.methodLink RX11 60 yX0_init ∈ gj_TB := gj_t1 (List.mem_of_getElem? (i := 100) rfl) rfl
theorem ml_X0_5 : Cond.methodLink RX0 5 Lib.objectInit ∈ gj_TB := gj_t1 (List.mem_of_getElem? (i := 103) rfl) rfl
theorem kf_X0_18 : Cond.fieldLink RX0 18 RX0 "plan" "LMayGreen$Plan;" ∈ gj_TB := gj_t1 (List.mem_of_getElem? (i := 104) rfl) rfl
theorem kf_X0_11 : Cond.fieldLink RX0 11 RX0 "trial" "[I" ∈ gj_TB := gj_t1 (List.mem_of_getElem? (i := 105) rfl) rfl
theorem kf_X0_15 : Cond.fieldLink RX0 15 RX0 "mate" "[I" ∈ gj_TB := gj_t1 (List.mem_of_getElem? (i := 106) rfl) rfl
theorem kf_X11_300 : Cond.fieldLink RX11 300 RX0 "mate" "[I" ∈ gj_TB := gj_t1 (List.mem_of_getElem? (i := 107) rfl) rfl
theorem cl_X11_67 : Cond.classLink RX11 67 RX8 ∈ gj_TB := gj_t1 (List.mem_of_getElem? (i := 115) rfl) rfl
theorem ins_X8 : Cond.instantiable RX8 5 ∈ gj_TB := gj_t1 (List.mem_of_getElem? (i := 116) rfl) rfl
theorem ml_X11_69 : Cond.methodLink RX11 69 yX8_init ∈ gj_TB := gj_t1 (List.mem_of_getElem? (i := 117) rfl) rfl
theorem ml_X8_3 : Cond.methodLink RX8 3 Lib.objectInit ∈ gj_TB := gj_t1 (List.mem_of_getElem? (i := 120) rfl) rfl
theorem kf_X8_15 : Cond.fieldLink RX8 15 RX8 "plan" "LMayGreen$Plan;" ∈ gj_TB := gj_t1 (List.mem_of_getElem? (i := 121) rfl) rfl
theorem kf_X8_19 : Cond.fieldLink RX8 19 RX8 "life" "LMayGreen$Life;" ∈ gj_TB := gj_t1 (List.mem_of_getElem? (i := 122) rfl) rfl
theorem kf_X8_23 : Cond.fieldLink RX8 23 RX8 "mind" "LMayGreen$Mind;" ∈ gj_TB := gj_t1 (List.mem_of_getElem? (i := 123) rfl) rfl
theorem kf_X8_27 : Cond.fieldLink RX8 27 RX8 "green" "LMayGreen$Green;" ∈ gj_TB := gj_t1 (List.mem_of_getElem? (i := 124) rfl) rfl
theorem kf_X8_9 : Cond.fieldLink RX8 9 RX8 "silence" "[Z" ∈ gj_TB := gj_t1 (List.mem_of_getElem? (i := 125) rfl) rfl
theorem kf_X11_10 : Cond.fieldLink RX11 10 RX11 "text" "LMayGreen$Text;" ∈ gj_TB := gj_t1 (List.mem_of_getElem? (i := 138) rfl) rfl
theorem kf_X11_19 : Cond.fieldLink RX11 19 RX11 "draft" "LMayGreen$Plan;" ∈ gj_TB := gj_t1 (List.mem_of_getElem? (i := 139) rfl) rfl
theorem kf_X11_28 : Cond.fieldLink RX11 28 RX11 "reader" "LMayGreen$Reader;" ∈ gj_TB := gj_t1 (List.mem_of_getElem? (i := 140) rfl) rfl
theorem kf_X11_32 : Cond.fieldLink RX11 32 RX11 "plan" "LMayGreen$Plan;" ∈ gj_TB := gj_t1 (List.mem_of_getElem? (i := 141) rfl) rfl
theorem kf_X11_38 : Cond.fieldLink RX11 38 RX11 "now" "LMayGreen$Life;" ∈ gj_TB := gj_t1 (List.mem_of_getElem? (i := 142) rfl) rfl
theorem kf_X11_47 : Cond.fieldLink RX11 47 RX11 "mind" "LMayGreen$Mind;" ∈ gj_TB := gj_t1 (List.mem_of_getElem? (i := 143) rfl) rfl
theorem kf_X11_54 : Cond.fieldLink RX11 54 RX11 "meadow" "LMayGreen$Green;" ∈ gj_TB := gj_t1 (List.mem_of_getElem? (i := 144) rfl) rfl
theorem kf_X11_63 : Cond.fieldLink RX11 63 RX11 "elders" "LMayGreen$Elders;" ∈ gj_TB := gj_t1 (List.mem_of_getElem? (i := 145) rfl) rfl
theorem kf_X11_72 : Cond.fieldLink RX11 72 RX11 "season" "LMayGreen$Season;" ∈ gj_TB := gj_t1 (List.mem_of_getElem? (i := 146) rfl) rfl
theorem kf_X11_76 : Cond.fieldLink RX11 76 RX11 "album" "[LMayGreen$Life;" ∈ gj_TB := gj_t1 (List.mem_of_getElem? (i := 147) rfl) rfl
theorem kf_X11_80 : Cond.fieldLink RX11 80 RX11 "kept" "[Z" ∈ gj_TB := gj_t1 (List.mem_of_getElem? (i := 148) rfl) rfl
theorem kf_X11_84 : Cond.fieldLink RX11 84 RX11 "refused" "[I" ∈ gj_TB := gj_t1 (List.mem_of_getElem? (i := 149) rfl) rfl
theorem ml_L_13 : Cond.methodLink RL 13 yX11_feed ∈ gj_TB := gj_t1 (List.mem_of_getElem? (i := 175) rfl) rfl
theorem ml_X11_88 : Cond.methodLink RX11 88 yX9_hasRoomFor ∈ gj_TB := gj_t1 (List.mem_of_getElem? (i := 179) rfl) rfl
theorem ml_X11_92 : Cond.methodLink RX11 92 yX11_refuse ∈ gj_TB := gj_t1 (List.mem_of_getElem? (i := 183) rfl) rfl
theorem ml_X11_139 : Cond.methodLink RX11 139 yX7_at ∈ gj_TB := gj_t1 (List.mem_of_getElem? (i := 187) rfl) rfl
theorem ml_X11_333 : Cond.methodLink RX11 333 yX7_put ∈ gj_TB := gj_t1 (List.mem_of_getElem? (i := 190) rfl) rfl
theorem ml_X11_95 : Cond.methodLink RX11 95 yX9_append ∈ gj_TB := gj_t1 (List.mem_of_getElem? (i := 193) rfl) rfl
theorem ml_X9_19 : Cond.methodLink RX9 19 yX7_put ∈ gj_TB := gj_t1 (List.mem_of_getElem? (i := 197) rfl) rfl
theorem ml_X11_99 : Cond.methodLink RX11 99 yX9_length ∈ gj_TB := gj_t1 (List.mem_of_getElem? (i := 198) rfl) rfl
theorem ml_L_18 : Cond.methodLink RL 18 yX11_end ∈ gj_TB := gj_t1 (List.mem_of_getElem? (i := 202) rfl) rfl
theorem ml_X11_103 : Cond.methodLink RX11 103 yX9_cutTo ∈ gj_TB := gj_t1 (List.mem_of_getElem? (i := 206) rfl) rfl
theorem ml_L_23 : Cond.methodLink RL 23 yX11_fault ∈ gj_TB := gj_t1 (List.mem_of_getElem? (i := 210) rfl) rfl
theorem ml_X11_106 : Cond.methodLink RX11 106 yX6_read ∈ gj_TB := gj_t1 (List.mem_of_getElem? (i := 214) rfl) rfl
theorem ml_X6_30 : Cond.methodLink RX6 30 yX5_clear ∈ gj_TB := gj_t1 (List.mem_of_getElem? (i := 218) rfl) rfl
theorem ml_X5_61 : Cond.methodLink RX5 61 yX7_fill ∈ gj_TB := gj_t1 (List.mem_of_getElem? (i := 222) rfl) rfl
theorem ml_X6_42 : Cond.methodLink RX6 42 yX7_unmark ∈ gj_TB := gj_t1 (List.mem_of_getElem? (i := 223) rfl) rfl
theorem ml_X6_48 : Cond.methodLink RX6 48 yX6_scan ∈ gj_TB := gj_t1 (List.mem_of_getElem? (i := 226) rfl) rfl
theorem ml_X6_51 : Cond.methodLink RX6 51 yX9_length ∈ gj_TB := gj_t1 (List.mem_of_getElem? (i := 230) rfl) rfl
theorem ml_X6_70 : Cond.methodLink RX6 70 yX9_byteAt ∈ gj_TB := gj_t1 (List.mem_of_getElem? (i := 231) rfl) rfl
theorem ml_X9_25 : Cond.methodLink RX9 25 yX7_at ∈ gj_TB := gj_t1 (List.mem_of_getElem? (i := 235) rfl) rfl
theorem ml_X6_74 : Cond.methodLink RX6 74 yX6_isBlank ∈ gj_TB := gj_t1 (List.mem_of_getElem? (i := 236) rfl) rfl
theorem ml_X6_78 : Cond.methodLink RX6 78 yX6_kindOf ∈ gj_TB := gj_t1 (List.mem_of_getElem? (i := 239) rfl) rfl
theorem ml_X6_60 : Cond.methodLink RX6 60 yX6_readLine ∈ gj_TB := gj_t2 (List.mem_of_getElem? (i := 2) rfl) rfl
theorem ml_X6_83 : Cond.methodLink RX6 83 yX6_isWord ∈ gj_TB := gj_t2 (List.mem_of_getElem? (i := 7) rfl) rfl
theorem ml_X6_230 : Cond.methodLink RX6 230 yJ0_length_8abf5 ∈ gj_TB := gj_t2 (List.mem_of_getElem? (i := 11) rfl) rfl
theorem ml_J0_335 : Cond.methodLink RJ0 335 yJ0_coder_7d493 ∈ gj_TB := gj_t2 (List.mem_of_getElem? (i := 15) rfl) rfl
theorem kf_J0_38 : Cond.fieldLink RJ0 38 RJ0 "COMPACT_STRINGS" "Z" ∈ gj_TB := gj_t2 (List.mem_of_getElem? (i := 19) rfl) rfl
theorem ml_X6_233 : Cond.methodLink RX6 233 yJ0_charAt_5068e ∈ gj_TB := gj_t2 (List.mem_of_getElem? (i := 21) rfl) rfl
theorem ml_J0_492 : Cond.methodLink RJ0 492 yJ0_isLatin1_aae02 ∈ gj_TB := gj_t2 (List.mem_of_getElem? (i := 25) rfl) rfl
theorem ml_J0_495 : Cond.methodLink RJ0 495 yJ1_charAt_3b067 ∈ gj_TB := gj_t2 (List.mem_of_getElem? (i := 29) rfl) rfl
theorem ml_J1_9 : Cond.methodLink RJ1 9 yJ0_checkIndex_df160 ∈ gj_TB := gj_t2 (List.mem_of_getElem? (i := 32) rfl) rfl
theorem kf_J0_1053 : Cond.fieldLink RJ0 1053 RJ3 "SIOOBE_FORMATTER" "Ljava/util/function/BiFunction;" ∈ gj_TB := gj_t2 (List.mem_of_getElem? (i := 35) rfl) rfl
theorem ml_J0_1059 : Cond.methodLink RJ0 1059 yJ3_checkIndex_8e157 ∈ gj_TB := gj_t2 (List.mem_of_getElem? (i := 37) rfl) rfl
theorem ml_J0_498 : Cond.methodLink RJ0 498 yJ2_charAt_3b067 ∈ gj_TB := gj_t2 (List.mem_of_getElem? (i := 40) rfl) rfl
theorem ml_J2_67 : Cond.methodLink RJ2 67 yJ2_checkIndex_2214a ∈ gj_TB := gj_t2 (List.mem_of_getElem? (i := 43) rfl) rfl
theorem ml_J2_48 : Cond.methodLink RJ2 48 yJ2_length_9d52b ∈ gj_TB := gj_t2 (List.mem_of_getElem? (i := 46) rfl) rfl
theorem ml_J2_414 : Cond.methodLink RJ2 414 yJ0_checkIndex_df160 ∈ gj_TB := gj_t2 (List.mem_of_getElem? (i := 49) rfl) rfl
theorem ml_J2_71 : Cond.methodLink RJ2 71 yJ2_getChar_3b067 ∈ gj_TB := gj_t2 (List.mem_of_getElem? (i := 50) rfl) rfl
theorem kf_J2_44 : Cond.fieldLink RJ2 44 RJ2 "$assertionsDisabled" "Z" ∈ gj_TB := gj_t2 (List.mem_of_getElem? (i := 53) rfl) rfl
theorem kf_J2_59 : Cond.fieldLink RJ2 59 RJ2 "HI_BYTE_SHIFT" "I" ∈ gj_TB := gj_t2 (List.mem_of_getElem? (i := 55) rfl) rfl
theorem kf_J2_63 : Cond.fieldLink RJ2 63 RJ2 "LO_BYTE_SHIFT" "I" ∈ gj_TB := gj_t2 (List.mem_of_getElem? (i := 57) rfl) rfl
theorem ml_X6_90 : Cond.methodLink RX6 90 yX6_readPerson ∈ gj_TB := gj_t2 (List.mem_of_getElem? (i := 59) rfl) rfl
theorem ml_X6_134 : Cond.methodLink RX6 134 yX6_nameHere ∈ gj_TB := gj_t2 (List.mem_of_getElem? (i := 63) rfl) rfl
theorem kl_X6_225 : Cond.constantLong RX6 225 (Int64.ofInt (256)) ∈ gj_TB := gj_t2 (List.mem_of_getElem? (i := 67) rfl) rfl
theorem ml_X6_138 : Cond.methodLink RX6 138 yX6_isLineWord ∈ gj_TB := gj_t2 (List.mem_of_getElem? (i := 68) rfl) rfl
theorem ml_X6_141 : Cond.methodLink RX6 141 yX6_slotNamed ∈ gj_TB := gj_t2 (List.mem_of_getElem? (i := 80) rfl) rfl
theorem ml_X6_227 : Cond.methodLink RX6 227 yX5_isPerson ∈ gj_TB := gj_t2 (List.mem_of_getElem? (i := 84) rfl) rfl
theorem ml_X6_145 : Cond.methodLink RX6 145 yX6_takeNumber ∈ gj_TB := gj_t2 (List.mem_of_getElem? (i := 88) rfl) rfl
theorem ml_X6_216 : Cond.methodLink RX6 216 yX6_numberHere ∈ gj_TB := gj_t2 (List.mem_of_getElem? (i := 92) rfl) rfl
theorem kc_X6_219 : Cond.constant RX6 219 (Int32.ofInt (1000000)) ∈ gj_TB := gj_t2 (List.mem_of_getElem? (i := 96) rfl) rfl
theorem ml_X6_220 : Cond.methodLink RX6 220 yJ9_min_7cf53 ∈ gj_TB := gj_t2 (List.mem_of_getElem? (i := 97) rfl) rfl
theorem ml_X6_155 : Cond.methodLink RX6 155 yX7_put ∈ gj_TB := gj_t2 (List.mem_of_getElem? (i := 100) rfl) rfl
theorem ml_X6_159 : Cond.methodLink RX6 159 yX6_takeStop ∈ gj_TB := gj_t2 (List.mem_of_getElem? (i := 101) rfl) rfl
theorem ml_X6_101 : Cond.methodLink RX6 101 yX6_readThink ∈ gj_TB := gj_t2 (List.mem_of_getElem? (i := 105) rfl) rfl
theorem ml_X6_162 : Cond.methodLink RX6 162 yX10_unlike ∈ gj_TB := gj_t2 (List.mem_of_getElem? (i := 109) rfl) rfl
theorem ml_X6_167 : Cond.methodLink RX6 167 yX10_view ∈ gj_TB := gj_t2 (List.mem_of_getElem? (i := 112) rfl) rfl
theorem ml_X6_171 : Cond.methodLink RX6 171 yX7_is ∈ gj_TB := gj_t2 (List.mem_of_getElem? (i := 115) rfl) rfl
theorem ml_X6_175 : Cond.methodLink RX6 175 yX7_mark ∈ gj_TB := gj_t2 (List.mem_of_getElem? (i := 118) rfl) rfl
theorem ml_X6_106 : Cond.methodLink RX6 106 yX6_readFit ∈ gj_TB := gj_t2 (List.mem_of_getElem? (i := 121) rfl) rfl
theorem ml_X6_188 : Cond.methodLink RX6 188 yX10_couple ∈ gj_TB := gj_t2 (List.mem_of_getElem? (i := 125) rfl) rfl
theorem ml_X6_111 : Cond.methodLink RX6 111 yX6_readWorth ∈ gj_TB := gj_t2 (List.mem_of_getElem? (i := 128) rfl) rfl
theorem ml_X6_193 : Cond.methodLink RX6 193 yX6_firstTold ∈ gj_TB := gj_t2 (List.mem_of_getElem? (i := 132) rfl) rfl
theorem ml_X6_116 : Cond.methodLink RX6 116 yX6_readHouse ∈ gj_TB := gj_t2 (List.mem_of_getElem? (i := 136) rfl) rfl
theorem ml_X6_121 : Cond.methodLink RX6 121 yX6_readChild ∈ gj_TB := gj_t2 (List.mem_of_getElem? (i := 140) rfl) rfl
theorem ml_X6_126 : Cond.methodLink RX6 126 yX6_readCow ∈ gj_TB := gj_t2 (List.mem_of_getElem? (i := 144) rfl) rfl
theorem ml_X6_131 : Cond.methodLink RX6 131 yX6_readAhead ∈ gj_TB := gj_t2 (List.mem_of_getElem? (i := 148) rfl) rfl
theorem ml_X6_67 : Cond.methodLink RX6 67 yX5_stands ∈ gj_TB := gj_t2 (List.mem_of_getElem? (i := 152) rfl) rfl
theorem ka_byte : Cond.arrayClass .byte ∈ gj_TB := gj_t2 (List.mem_of_getElem? (i := 156) rfl) rfl
theorem ml_L_28 : Cond.methodLink RL 28 yX11_village ∈ gj_TB := gj_t2 (List.mem_of_getElem? (i := 157) rfl) rfl
theorem ml_X11_109 : Cond.methodLink RX11 109 yX5_take ∈ gj_TB := gj_t2 (List.mem_of_getElem? (i := 161) rfl) rfl
theorem ml_X5_67 : Cond.methodLink RX5 67 yX7_copy ∈ gj_TB := gj_t2 (List.mem_of_getElem? (i := 165) rfl) rfl
theorem ml_X5_71 : Cond.methodLink RX5 71 yX5_reckonShown ∈ gj_TB := gj_t2 (List.mem_of_getElem? (i := 168) rfl) rfl
theorem ml_X5_113 : Cond.methodLink RX5 113 yX5_goodNext ∈ gj_TB := gj_t2 (List.mem_of_getElem? (i := 172) rfl) rfl
theorem ml_X5_74 : Cond.methodLink RX5 74 yX5_rightAfter ∈ gj_TB := gj_t2 (List.mem_of_getElem? (i := 176) rfl) rfl
theorem ml_X5_83 : Cond.methodLink RX5 83 yX7_at ∈ gj_TB := gj_t2 (List.mem_of_getElem? (i := 180) rfl) rfl
theorem ml_X5_122 : Cond.methodLink RX5 122 yX5_oddsOf ∈ gj_TB := gj_t2 (List.mem_of_getElem? (i := 181) rfl) rfl
theorem ml_X5_78 : Cond.methodLink RX5 78 yX5_otherAfter ∈ gj_TB := gj_t2 (List.mem_of_getElem? (i := 184) rfl) rfl
theorem kl_X5_120 : Cond.constantLong RX5 120 (Int64.ofInt (16)) ∈ gj_TB := gj_t2 (List.mem_of_getElem? (i := 188) rfl) rfl
theorem kl_X5_81 : Cond.constantLong RX5 81 (Int64.ofInt (1000)) ∈ gj_TB := gj_t2 (List.mem_of_getElem? (i := 189) rfl) rfl
theorem ml_X5_116 : Cond.methodLink RX5 116 yX7_put ∈ gj_TB := gj_t2 (List.mem_of_getElem? (i := 190) rfl) rfl
theorem ml_X11_112 : Cond.methodLink RX11 112 yX0_choose ∈ gj_TB := gj_t2 (List.mem_of_getElem? (i := 191) rfl) rfl
theorem ml_X0_22 : Cond.methodLink RX0 22 yX0_spread ∈ gj_TB := gj_t2 (List.mem_of_getElem? (i := 195) rfl) rfl
theorem ml_X0_38 : Cond.methodLink RX0 38 yX7_fill ∈ gj_TB := gj_t2 (List.mem_of_getElem? (i := 199) rfl) rfl
theorem ml_X0_42 : Cond.methodLink RX0 42 yX5_isPerson ∈ gj_TB := gj_t2 (List.mem_of_getElem? (i := 200) rfl) rfl
theorem ml_X0_45 : Cond.methodLink RX0 45 yX7_at ∈ gj_TB := gj_t2 (List.mem_of_getElem? (i := 201) rfl) rfl
theorem ml_X0_49 : Cond.methodLink RX0 49 yX7_put ∈ gj_TB := gj_t2 (List.mem_of_getElem? (i := 202) rfl) rfl
theorem ml_X0_26 : Cond.methodLink RX0 26 yX5_yearSum ∈ gj_TB := gj_t2 (List.mem_of_getElem? (i := 203) rfl) rfl
theorem ml_X5_91 : Cond.methodLink RX5 91 yX5_isPerson ∈ gj_TB := gj_t2 (List.mem_of_getElem? (i := 207) rfl) rfl
theorem ml_X5_95 : Cond.methodLink RX5 95 yX5_trueYear ∈ gj_TB := gj_t2 (List.mem_of_getElem? (i := 208) rfl) rfl
theorem ml_X5_108 : Cond.methodLink RX5 108 yX10_couple ∈ gj_TB := gj_t2 (List.mem_of_getElem? (i := 212) rfl) rfl
theorem ml_X0_32 : Cond.methodLink RX0 32 yX7_copy ∈ gj_TB := gj_t2 (List.mem_of_getElem? (i := 213) rfl) rfl
theorem ml_X11_115 : Cond.methodLink RX11 115 yX3_begin ∈ gj_TB := gj_t2 (List.mem_of_getElem? (i := 214) rfl) rfl
theorem ml_X3_56 : Cond.methodLink RX3 56 yX1_clear ∈ gj_TB := gj_t2 (List.mem_of_getElem? (i := 218) rfl) rfl
theorem ml_X11_118 : Cond.methodLink RX11 118 yX7_unmark ∈ gj_TB := gj_t2 (List.mem_of_getElem? (i := 222) rfl) rfl
theorem ml_L_32 : Cond.methodLink RL 32 yX11_person ∈ gj_TB := gj_t2 (List.mem_of_getElem? (i := 223) rfl) rfl
theorem ml_X11_131 : Cond.methodLink RX11 131 yX5_slotOf ∈ gj_TB := gj_t2 (List.mem_of_getElem? (i := 227) rfl) rfl
theorem kc_X11_135 : Cond.constant RX11 135 (Int32.ofInt (-2147483648)) ∈ gj_TB := gj_t2 (List.mem_of_getElem? (i := 231) rfl) rfl
theorem ml_X11_146 : Cond.methodLink RX11 146 yX10_numberOf ∈ gj_TB := gj_t2 (List.mem_of_getElem? (i := 232) rfl) rfl
theorem ml_L_37 : Cond.methodLink RL 37 yX11_earned ∈ gj_TB := gj_t2 (List.mem_of_getElem? (i := 235) rfl) rfl
theorem ml_L_42 : Cond.methodLink RL 42 yX11_two ∈ gj_TB := gj_t2 (List.mem_of_getElem? (i := 239) rfl) rfl
theorem ml_X11_157 : Cond.methodLink RX11 157 yX10_unlike ∈ gj_TB := gj_t3 (List.mem_of_getElem? (i := 3) rfl) rfl
theorem ml_X11_161 : Cond.methodLink RX11 161 yX10_couple ∈ gj_TB := gj_t3 (List.mem_of_getElem? (i := 4) rfl) rfl
theorem ml_X11_177 : Cond.methodLink RX11 177 yX3_arePair ∈ gj_TB := gj_t3 (List.mem_of_getElem? (i := 5) rfl) rfl
theorem ml_X3_75 : Cond.methodLink RX3 75 yX7_at ∈ gj_TB := gj_t3 (List.mem_of_getElem? (i := 9) rfl) rfl
theorem ml_L_47 : Cond.methodLink RL 47 yX11_think ∈ gj_TB := gj_t3 (List.mem_of_getElem? (i := 10) rfl) rfl
theorem ml_X11_183 : Cond.methodLink RX11 183 yX10_view ∈ gj_TB := gj_t3 (List.mem_of_getElem? (i := 14) rfl) rfl
theorem ml_L_51 : Cond.methodLink RL 51 yX11_shown ∈ gj_TB := gj_t3 (List.mem_of_getElem? (i := 15) rfl) rfl
theorem ml_X11_195 : Cond.methodLink RX11 195 yX5_shownRight ∈ gj_TB := gj_t3 (List.mem_of_getElem? (i := 19) rfl) rfl
theorem ml_X11_199 : Cond.methodLink RX11 199 yX5_shownGood ∈ gj_TB := gj_t3 (List.mem_of_getElem? (i := 23) rfl) rfl
theorem ml_L_55 : Cond.methodLink RL 55 yX11_liking ∈ gj_TB := gj_t3 (List.mem_of_getElem? (i := 27) rfl) rfl
theorem ml_X11_202 : Cond.methodLink RX11 202 yX2_likingOf ∈ gj_TB := gj_t3 (List.mem_of_getElem? (i := 31) rfl) rfl
theorem ml_X2_69 : Cond.methodLink RX2 69 yX10_couple ∈ gj_TB := gj_t3 (List.mem_of_getElem? (i := 35) rfl) rfl
theorem ml_X2_39 : Cond.methodLink RX2 39 yX7_at ∈ gj_TB := gj_t3 (List.mem_of_getElem? (i := 36) rfl) rfl
theorem ml_X2_55 : Cond.methodLink RX2 55 yX10_view ∈ gj_TB := gj_t3 (List.mem_of_getElem? (i := 37) rfl) rfl
theorem ml_X2_117 : Cond.methodLink RX2 117 yX5_gain ∈ gj_TB := gj_t3 (List.mem_of_getElem? (i := 38) rfl) rfl
theorem ml_X5_87 : Cond.methodLink RX5 87 yX5_shownGood ∈ gj_TB := gj_t3 (List.mem_of_getElem? (i := 42) rfl) rfl
theorem ml_L_59 : Cond.methodLink RL 59 yX11_sooner ∈ gj_TB := gj_t3 (List.mem_of_getElem? (i := 43) rfl) rfl
theorem ml_X11_206 : Cond.methodLink RX11 206 yX2_look ∈ gj_TB := gj_t3 (List.mem_of_getElem? (i := 47) rfl) rfl
theorem ml_X2_61 : Cond.methodLink RX2 61 yX2_likingOf ∈ gj_TB := gj_t3 (List.mem_of_getElem? (i := 51) rfl) rfl
theorem ml_X2_65 : Cond.methodLink RX2 65 yX7_put ∈ gj_TB := gj_t3 (List.mem_of_getElem? (i := 52) rfl) rfl
theorem ml_X2_72 : Cond.methodLink RX2 72 yX2_would ∈ gj_TB := gj_t3 (List.mem_of_getElem? (i := 53) rfl) rfl
theorem ml_X2_94 : Cond.methodLink RX2 94 yX2_likes ∈ gj_TB := gj_t3 (List.mem_of_getElem? (i := 57) rfl) rfl
theorem ml_X2_51 : Cond.methodLink RX2 51 yX7_mark ∈ gj_TB := gj_t3 (List.mem_of_getElem? (i := 61) rfl) rfl
theorem ml_X11_210 : Cond.methodLink RX11 210 yX2_soonerOf ∈ gj_TB := gj_t3 (List.mem_of_getElem? (i := 62) rfl) rfl
theorem ml_L_63 : Cond.methodLink RL 63 yX11_best ∈ gj_TB := gj_t3 (List.mem_of_getElem? (i := 66) rfl) rfl
theorem ml_X11_214 : Cond.methodLink RX11 214 yX11_canReckon ∈ gj_TB := gj_t3 (List.mem_of_getElem? (i := 70) rfl) rfl
theorem ml_X11_217 : Cond.methodLink RX11 217 yX4_enter ∈ gj_TB := gj_t3 (List.mem_of_getElem? (i := 73) rfl) rfl
theorem ml_X4_44 : Cond.methodLink RX4 44 yX10_facing ∈ gj_TB := gj_t3 (List.mem_of_getElem? (i := 77) rfl) rfl
theorem ml_X4_50 : Cond.methodLink RX4 50 yX10_couple ∈ gj_TB := gj_t3 (List.mem_of_getElem? (i := 80) rfl) rfl
theorem ml_X4_56 : Cond.methodLink RX4 56 yX7_at ∈ gj_TB := gj_t3 (List.mem_of_getElem? (i := 81) rfl) rfl
theorem ml_X4_62 : Cond.methodLink RX4 62 yX7_put ∈ gj_TB := gj_t3 (List.mem_of_getElem? (i := 82) rfl) rfl
theorem ml_X4_76 : Cond.methodLink RX4 76 yX10_placeOf ∈ gj_TB := gj_t3 (List.mem_of_getElem? (i := 83) rfl) rfl
theorem ml_X11_220 : Cond.methodLink RX11 220 yX4_bestWorth ∈ gj_TB := gj_t3 (List.mem_of_getElem? (i := 86) rfl) rfl
theorem ml_X4_96 : Cond.methodLink RX4 96 yX4_worthOf ∈ gj_TB := gj_t3 (List.mem_of_getElem? (i := 90) rfl) rfl
theorem ml_X4_100 : Cond.methodLink RX4 100 yX4_doing ∈ gj_TB := gj_t3 (List.mem_of_getElem? (i := 94) rfl) rfl
theorem kl_X4_122 : Cond.constantLong RX4 122 (Int64.ofInt (1000)) ∈ gj_TB := gj_t3 (List.mem_of_getElem? (i := 98) rfl) rfl
theorem ml_X4_132 : Cond.methodLink RX4 132 yX5_shownGood ∈ gj_TB := gj_t3 (List.mem_of_getElem? (i := 99) rfl) rfl
theorem ml_X4_111 : Cond.methodLink RX4 111 yJ9_min_7cf53 ∈ gj_TB := gj_t3 (List.mem_of_getElem? (i := 100) rfl) rfl
theorem ml_X4_104 : Cond.methodLink RX4 104 yX4_isShut ∈ gj_TB := gj_t3 (List.mem_of_getElem? (i := 101) rfl) rfl
theorem ml_X4_126 : Cond.methodLink RX4 126 yJ9_max_f86c9 ∈ gj_TB := gj_t3 (List.mem_of_getElem? (i := 105) rfl) rfl
theorem ml_X11_224 : Cond.methodLink RX11 224 yX4_bestAct ∈ gj_TB := gj_t3 (List.mem_of_getElem? (i := 108) rfl) rfl
theorem ml_X11_227 : Cond.methodLink RX11 227 yX10_facing ∈ gj_TB := gj_t3 (List.mem_of_getElem? (i := 112) rfl) rfl
theorem ml_L_67 : Cond.methodLink RL 67 yX11_act ∈ gj_TB := gj_t3 (List.mem_of_getElem? (i := 113) rfl) rfl
theorem ml_X11_230 : Cond.methodLink RX11 230 yX10_placeOf ∈ gj_TB := gj_t3 (List.mem_of_getElem? (i := 117) rfl) rfl
theorem ml_X11_233 : Cond.methodLink RX11 233 yX4_worthOfAct ∈ gj_TB := gj_t3 (List.mem_of_getElem? (i := 118) rfl) rfl
theorem ml_L_71 : Cond.methodLink RL 71 yX11_silent ∈ gj_TB := gj_t3 (List.mem_of_getElem? (i := 122) rfl) rfl
theorem ml_X11_237 : Cond.methodLink RX11 237 yX4_stays ∈ gj_TB := gj_t3 (List.mem_of_getElem? (i := 126) rfl) rfl
theorem ml_X4_108 : Cond.methodLink RX4 108 yX4_bestAct ∈ gj_TB := gj_t3 (List.mem_of_getElem? (i := 130) rfl) rfl
theorem ml_L_75 : Cond.methodLink RL 75 yX11_bar ∈ gj_TB := gj_t3 (List.mem_of_getElem? (i := 131) rfl) rfl
theorem ml_X11_240 : Cond.methodLink RX11 240 yX4_leastGood ∈ gj_TB := gj_t3 (List.mem_of_getElem? (i := 135) rfl) rfl
theorem ml_X4_116 : Cond.methodLink RX4 116 yX4_stays ∈ gj_TB := gj_t3 (List.mem_of_getElem? (i := 139) rfl) rfl
theorem ml_L_80 : Cond.methodLink RL 80 yX11_price ∈ gj_TB := gj_t3 (List.mem_of_getElem? (i := 140) rfl) rfl
theorem ml_X11_243 : Cond.methodLink RX11 243 yX4_leastCow ∈ gj_TB := gj_t3 (List.mem_of_getElem? (i := 144) rfl) rfl
theorem ml_X4_119 : Cond.methodLink RX4 119 yJ9_max_7cf53 ∈ gj_TB := gj_t3 (List.mem_of_getElem? (i := 148) rfl) rfl
theorem kl_X4_124 : Cond.constantLong RX4 124 (Int64.ofInt (999)) ∈ gj_TB := gj_t3 (List.mem_of_getElem? (i := 151) rfl) rfl
theorem ml_L_84 : Cond.methodLink RL 84 yX11_waits ∈ gj_TB := gj_t3 (List.mem_of_getElem? (i := 152) rfl) rfl
theorem kl_X11_249 : Cond.constantLong RX11 249 (Int64.ofInt (1000)) ∈ gj_TB := gj_t3 (List.mem_of_getElem? (i := 156) rfl) rfl
theorem ml_X11_251 : Cond.methodLink RX11 251 yX4_shutOut ∈ gj_TB := gj_t3 (List.mem_of_getElem? (i := 157) rfl) rfl
theorem ml_L_88 : Cond.methodLink RL 88 yX11_way ∈ gj_TB := gj_t3 (List.mem_of_getElem? (i := 161) rfl) rfl
theorem ml_L_92 : Cond.methodLink RL 92 yX11_seed ∈ gj_TB := gj_t3 (List.mem_of_getElem? (i := 165) rfl) rfl
theorem kc_X11_257 : Cond.constant RX11 257 (Int32.ofInt (1000000)) ∈ gj_TB := gj_t3 (List.mem_of_getElem? (i := 169) rfl) rfl
theorem ml_L_96 : Cond.methodLink RL 96 yX11_green ∈ gj_TB := gj_t3 (List.mem_of_getElem? (i := 170) rfl) rfl
theorem ml_X11_261 : Cond.methodLink RX11 261 yX2_gather ∈ gj_TB := gj_t3 (List.mem_of_getElem? (i := 174) rfl) rfl
theorem ml_X2_45 : Cond.methodLink RX2 45 yX5_isPerson ∈ gj_TB := gj_t3 (List.mem_of_getElem? (i := 178) rfl) rfl
theorem ml_X11_264 : Cond.methodLink RX11 264 yX2_pairUp ∈ gj_TB := gj_t3 (List.mem_of_getElem? (i := 179) rfl) rfl
theorem ml_X2_76 : Cond.methodLink RX2 76 yX7_fill ∈ gj_TB := gj_t3 (List.mem_of_getElem? (i := 183) rfl) rfl
theorem ml_X2_80 : Cond.methodLink RX2 80 yX7_unmark ∈ gj_TB := gj_t3 (List.mem_of_getElem? (i := 184) rfl) rfl
theorem ml_X2_84 : Cond.methodLink RX2 84 yX2_askAll ∈ gj_TB := gj_t3 (List.mem_of_getElem? (i := 185) rfl) rfl
theorem ml_X2_131 : Cond.methodLink RX2 131 yX2_soonestToAsk ∈ gj_TB := gj_t3 (List.mem_of_getElem? (i := 189) rfl) rfl
theorem ml_X2_139 : Cond.methodLink RX2 139 yX10_facing ∈ gj_TB := gj_t3 (List.mem_of_getElem? (i := 193) rfl) rfl
theorem ml_X2_142 : Cond.methodLink RX2 142 yX2_canMeet ∈ gj_TB := gj_t3 (List.mem_of_getElem? (i := 194) rfl) rfl
theorem ml_X2_97 : Cond.methodLink RX2 97 yX7_is ∈ gj_TB := gj_t3 (List.mem_of_getElem? (i := 198) rfl) rfl
theorem ml_X2_107 : Cond.methodLink RX2 107 yX2_soonerOf ∈ gj_TB := gj_t3 (List.mem_of_getElem? (i := 199) rfl) rfl
theorem ml_X2_135 : Cond.methodLink RX2 135 yX2_ask ∈ gj_TB := gj_t3 (List.mem_of_getElem? (i := 200) rfl) rfl
theorem ml_X2_145 : Cond.methodLink RX2 145 yX2_tie ∈ gj_TB := gj_t3 (List.mem_of_getElem? (i := 204) rfl) rfl
theorem ml_X2_88 : Cond.methodLink RX2 88 yX2_takeTurns ∈ gj_TB := gj_t3 (List.mem_of_getElem? (i := 208) rfl) rfl
theorem ml_X2_148 : Cond.methodLink RX2 148 yX2_isLeftFor ∈ gj_TB := gj_t3 (List.mem_of_getElem? (i := 212) rfl) rfl
theorem ml_X2_91 : Cond.methodLink RX2 91 yX2_drawLots ∈ gj_TB := gj_t3 (List.mem_of_getElem? (i := 216) rfl) rfl
theorem ml_X2_151 : Cond.methodLink RX2 151 yX3_lot ∈ gj_TB := gj_t3 (List.mem_of_getElem? (i := 220) rfl) rfl
theorem kl_X3_79 : Cond.constantLong RX3 79 (Int64.ofInt (1103515245)) ∈ gj_TB := gj_t3 (List.mem_of_getElem? (i := 224) rfl) rfl
theorem kl_X3_81 : Cond.constantLong RX3 81 (Int64.ofInt (12345)) ∈ gj_TB := gj_t3 (List.mem_of_getElem? (i := 225) rfl) rfl
theorem kl_X3_83 : Cond.constantLong RX3 83 (Int64.ofInt (2147483647)) ∈ gj_TB := gj_t3 (List.mem_of_getElem? (i := 226) rfl) rfl
theorem ml_X2_154 : Cond.methodLink RX2 154 yX2_openOne ∈ gj_TB := gj_t3 (List.mem_of_getElem? (i := 227) rfl) rfl
theorem ml_L_100 : Cond.methodLink RL 100 yX11_may ∈ gj_TB := gj_t3 (List.mem_of_getElem? (i := 231) rfl) rfl
theorem ml_X11_268 : Cond.methodLink RX11 268 yX5_stands ∈ gj_TB := gj_t3 (List.mem_of_getElem? (i := 235) rfl) rfl
theorem ml_X11_272 : Cond.methodLink RX11 272 yX8_hold ∈ gj_TB := gj_t3 (List.mem_of_getElem? (i := 236) rfl) rfl
theorem ml_X8_31 : Cond.methodLink RX8 31 yX8_askPaired ∈ gj_TB := gj_t4 (List.mem_of_getElem? (i := 0) rfl) rfl
theorem ml_X8_66 : Cond.methodLink RX8 66 yX7_at ∈ gj_TB := gj_t4 (List.mem_of_getElem? (i := 4) rfl) rfl
theorem ml_X8_72 : Cond.methodLink RX8 72 yX4_enter ∈ gj_TB := gj_t4 (List.mem_of_getElem? (i := 5) rfl) rfl
theorem ml_X8_82 : Cond.methodLink RX8 82 yX4_stays ∈ gj_TB := gj_t4 (List.mem_of_getElem? (i := 6) rfl) rfl
theorem ml_X8_86 : Cond.methodLink RX8 86 yX7_mark ∈ gj_TB := gj_t4 (List.mem_of_getElem? (i := 7) rfl) rfl
theorem ml_X8_34 : Cond.methodLink RX8 34 yX8_endPairs ∈ gj_TB := gj_t4 (List.mem_of_getElem? (i := 8) rfl) rfl
theorem ml_X8_90 : Cond.methodLink RX8 90 yX8_hear ∈ gj_TB := gj_t4 (List.mem_of_getElem? (i := 12) rfl) rfl
theorem ml_X8_94 : Cond.methodLink RX8 94 yX7_is ∈ gj_TB := gj_t4 (List.mem_of_getElem? (i := 16) rfl) rfl
theorem ml_X8_101 : Cond.methodLink RX8 101 yX7_put ∈ gj_TB := gj_t4 (List.mem_of_getElem? (i := 17) rfl) rfl
theorem ml_X8_108 : Cond.methodLink RX8 108 yX3_earn ∈ gj_TB := gj_t4 (List.mem_of_getElem? (i := 18) rfl) rfl
theorem ml_X3_67 : Cond.methodLink RX3 67 yX7_put ∈ gj_TB := gj_t4 (List.mem_of_getElem? (i := 22) rfl) rfl
theorem ml_X8_118 : Cond.methodLink RX8 118 yX10_numberOf ∈ gj_TB := gj_t4 (List.mem_of_getElem? (i := 23) rfl) rfl
theorem ml_X8_127 : Cond.methodLink RX8 127 yX1_add ∈ gj_TB := gj_t4 (List.mem_of_getElem? (i := 24) rfl) rfl
theorem ml_X1_28 : Cond.methodLink RX1 28 yX7_put ∈ gj_TB := gj_t4 (List.mem_of_getElem? (i := 28) rfl) rfl
theorem ml_X8_133 : Cond.methodLink RX8 133 yX3_loosen ∈ gj_TB := gj_t4 (List.mem_of_getElem? (i := 29) rfl) rfl
theorem ml_X3_71 : Cond.methodLink RX3 71 yX3_free ∈ gj_TB := gj_t4 (List.mem_of_getElem? (i := 33) rfl) rfl
theorem ml_X8_37 : Cond.methodLink RX8 37 yX2_gather ∈ gj_TB := gj_t4 (List.mem_of_getElem? (i := 37) rfl) rfl
theorem ml_X8_43 : Cond.methodLink RX8 43 yX2_look ∈ gj_TB := gj_t4 (List.mem_of_getElem? (i := 38) rfl) rfl
theorem ml_X8_52 : Cond.methodLink RX8 52 yX2_pairUp ∈ gj_TB := gj_t4 (List.mem_of_getElem? (i := 39) rfl) rfl
theorem ml_X8_56 : Cond.methodLink RX8 56 yX8_bindNewPairs ∈ gj_TB := gj_t4 (List.mem_of_getElem? (i := 40) rfl) rfl
theorem ml_X8_137 : Cond.methodLink RX8 137 yX3_bind ∈ gj_TB := gj_t4 (List.mem_of_getElem? (i := 44) rfl) rfl
theorem ml_X8_59 : Cond.methodLink RX8 59 yX8_passYear ∈ gj_TB := gj_t4 (List.mem_of_getElem? (i := 48) rfl) rfl
theorem ml_X8_140 : Cond.methodLink RX8 140 yX8_liveTogether ∈ gj_TB := gj_t4 (List.mem_of_getElem? (i := 52) rfl) rfl
theorem ml_X8_149 : Cond.methodLink RX8 149 yX10_couple ∈ gj_TB := gj_t4 (List.mem_of_getElem? (i := 56) rfl) rfl
theorem ml_X8_153 : Cond.methodLink RX8 153 yX3_lot ∈ gj_TB := gj_t4 (List.mem_of_getElem? (i := 57) rfl) rfl
theorem ml_X8_186 : Cond.methodLink RX8 186 yJ9_min_7cf53 ∈ gj_TB := gj_t4 (List.mem_of_getElem? (i := 58) rfl) rfl
theorem ml_X8_143 : Cond.methodLink RX8 143 yX5_isPerson ∈ gj_TB := gj_t4 (List.mem_of_getElem? (i := 59) rfl) rfl
theorem ml_L_104 : Cond.methodLink RL 104 yX11_join ∈ gj_TB := gj_t4 (List.mem_of_getElem? (i := 60) rfl) rfl
theorem ml_X11_278 : Cond.methodLink RX11 278 yX3_bind ∈ gj_TB := gj_t4 (List.mem_of_getElem? (i := 64) rfl) rfl
theorem ml_L_109 : Cond.methodLink RL 109 yX11_part ∈ gj_TB := gj_t4 (List.mem_of_getElem? (i := 65) rfl) rfl
theorem ml_X11_282 : Cond.methodLink RX11 282 yX3_loosen ∈ gj_TB := gj_t4 (List.mem_of_getElem? (i := 69) rfl) rfl
theorem ml_L_113 : Cond.methodLink RL 113 yX11_log ∈ gj_TB := gj_t4 (List.mem_of_getElem? (i := 70) rfl) rfl
theorem ml_X11_289 : Cond.methodLink RX11 289 yX1_size ∈ gj_TB := gj_t4 (List.mem_of_getElem? (i := 74) rfl) rfl
theorem ml_X11_294 : Cond.methodLink RX11 294 yX1_tell ∈ gj_TB := gj_t4 (List.mem_of_getElem? (i := 78) rfl) rfl
theorem ml_X1_32 : Cond.methodLink RX1 32 yX7_at ∈ gj_TB := gj_t4 (List.mem_of_getElem? (i := 82) rfl) rfl
theorem ml_L_117 : Cond.methodLink RL 117 yX11_blocks ∈ gj_TB := gj_t4 (List.mem_of_getElem? (i := 83) rfl) rfl
theorem ml_X11_297 : Cond.methodLink RX11 297 yX2_wouldSooner ∈ gj_TB := gj_t4 (List.mem_of_getElem? (i := 87) rfl) rfl
theorem ml_X2_101 : Cond.methodLink RX2 101 yX3_arePair ∈ gj_TB := gj_t4 (List.mem_of_getElem? (i := 91) rfl) rfl
theorem ml_X2_104 : Cond.methodLink RX2 104 yX2_isBetter ∈ gj_TB := gj_t4 (List.mem_of_getElem? (i := 92) rfl) rfl
theorem ml_L_121 : Cond.methodLink RL 121 yX11_parents ∈ gj_TB := gj_t4 (List.mem_of_getElem? (i := 96) rfl) rfl
theorem ml_X11_301 : Cond.methodLink RX11 301 yX5_yearSum ∈ gj_TB := gj_t4 (List.mem_of_getElem? (i := 100) rfl) rfl
theorem ml_L_125 : Cond.methodLink RL 125 yX11_life ∈ gj_TB := gj_t4 (List.mem_of_getElem? (i := 101) rfl) rfl
theorem ml_X11_305 : Cond.methodLink RX11 305 yX5_sumOf ∈ gj_TB := gj_t4 (List.mem_of_getElem? (i := 105) rfl) rfl
theorem ml_X5_99 : Cond.methodLink RX5 99 yJ9_max_7cf53 ∈ gj_TB := gj_t4 (List.mem_of_getElem? (i := 109) rfl) rfl
theorem ml_X5_104 : Cond.methodLink RX5 104 yX5_yearSum ∈ gj_TB := gj_t4 (List.mem_of_getElem? (i := 110) rfl) rfl
theorem ml_L_129 : Cond.methodLink RL 129 yX11_never ∈ gj_TB := gj_t4 (List.mem_of_getElem? (i := 111) rfl) rfl
theorem ml_X11_308 : Cond.methodLink RX11 308 yX11_neverTried ∈ gj_TB := gj_t4 (List.mem_of_getElem? (i := 115) rfl) rfl
theorem ml_X11_337 : Cond.methodLink RX11 337 yX3_haveTried ∈ gj_TB := gj_t4 (List.mem_of_getElem? (i := 119) rfl) rfl
theorem ml_L_133 : Cond.methodLink RL 133 yX11_pairs ∈ gj_TB := gj_t4 (List.mem_of_getElem? (i := 123) rfl) rfl
theorem ml_X11_311 : Cond.methodLink RX11 311 yX3_pairsOf ∈ gj_TB := gj_t4 (List.mem_of_getElem? (i := 127) rfl) rfl
theorem ml_L_137 : Cond.methodLink RL 137 yX11_image ∈ gj_TB := gj_t4 (List.mem_of_getElem? (i := 131) rfl) rfl
theorem ml_X11_314 : Cond.methodLink RX11 314 yX11_pictureAt ∈ gj_TB := gj_t4 (List.mem_of_getElem? (i := 135) rfl) rfl
theorem ml_X11_318 : Cond.methodLink RX11 318 yX3_copyOf ∈ gj_TB := gj_t4 (List.mem_of_getElem? (i := 139) rfl) rfl
theorem ml_X3_59 : Cond.methodLink RX3 59 yX7_copy ∈ gj_TB := gj_t4 (List.mem_of_getElem? (i := 143) rfl) rfl
theorem ml_X3_63 : Cond.methodLink RX3 63 yX1_copyOf ∈ gj_TB := gj_t4 (List.mem_of_getElem? (i := 144) rfl) rfl
theorem ml_X1_22 : Cond.methodLink RX1 22 yX7_copy ∈ gj_TB := gj_t4 (List.mem_of_getElem? (i := 148) rfl) rfl
theorem ml_X11_322 : Cond.methodLink RX11 322 yX7_mark ∈ gj_TB := gj_t4 (List.mem_of_getElem? (i := 149) rfl) rfl
theorem ml_L_141 : Cond.methodLink RL 141 yX11_on ∈ gj_TB := gj_t4 (List.mem_of_getElem? (i := 150) rfl) rfl
theorem ml_X11_326 : Cond.methodLink RX11 326 yX7_is ∈ gj_TB := gj_t4 (List.mem_of_getElem? (i := 154) rfl) rfl
theorem ml_L_145 : Cond.methodLink RL 145 yX11_status ∈ gj_TB := gj_t4 (List.mem_of_getElem? (i := 155) rfl) rfl
theorem ml_L_149 : Cond.methodLink RL 149 yX11_count ∈ gj_TB := gj_t4 (List.mem_of_getElem? (i := 159) rfl) rfl
theorem cl_L_10 : Cond.classLink RL 10 RX12 ∈ gj_TB := gj_t4 (List.mem_of_getElem? (i := 163) rfl) rfl
theorem ins_X12 : Cond.instantiable RX12 55 ∈ gj_TB := gj_t4 (List.mem_of_getElem? (i := 164) rfl) rfl
theorem ml_L_12 : Cond.methodLink RL 12 yX12_init ∈ gj_TB := gj_t4 (List.mem_of_getElem? (i := 165) rfl) rfl
theorem ml_X12_1 : Cond.methodLink RX12 1 Lib.objectInit ∈ gj_TB := gj_t4 (List.mem_of_getElem? (i := 168) rfl) rfl
theorem cl_X12_17 : Cond.classLink RX12 17 "[[I" ∈ gj_TB := gj_t4 (List.mem_of_getElem? (i := 169) rfl) rfl
theorem cl_X12_54 : Cond.classLink RX12 54 RJ0 ∈ gj_TB := gj_t4 (List.mem_of_getElem? (i := 171) rfl) rfl
theorem kf_X12_7 : Cond.fieldLink RX12 7 RX12 "refused" "[I" ∈ gj_TB := gj_t4 (List.mem_of_getElem? (i := 182) rfl) rfl
theorem kf_X12_13 : Cond.fieldLink RX12 13 RX12 "text" "[B" ∈ gj_TB := gj_t4 (List.mem_of_getElem? (i := 183) rfl) rfl
theorem kf_X12_162 : Cond.fieldLink RX12 162 RX12 "textMany" "I" ∈ gj_TB := gj_t4 (List.mem_of_getElem? (i := 184) rfl) rfl
theorem kf_X12_180 : Cond.fieldLink RX12 180 RX12 "at" "I" ∈ gj_TB := gj_t4 (List.mem_of_getElem? (i := 185) rfl) rfl
theorem kf_X12_177 : Cond.fieldLink RX12 177 RX12 "to" "I" ∈ gj_TB := gj_t4 (List.mem_of_getElem? (i := 186) rfl) rfl
theorem kf_X12_187 : Cond.fieldLink RX12 187 RX12 "faultAt" "I" ∈ gj_TB := gj_t4 (List.mem_of_getElem? (i := 187) rfl) rfl
theorem kf_X12_205 : Cond.fieldLink RX12 205 RX12 "value" "I" ∈ gj_TB := gj_t4 (List.mem_of_getElem? (i := 188) rfl) rfl
theorem kf_X12_19 : Cond.fieldLink RX12 19 RX12 "alone" "[[I" ∈ gj_TB := gj_t4 (List.mem_of_getElem? (i := 189) rfl) rfl
theorem kf_X12_22 : Cond.fieldLink RX12 22 RX12 "chance" "[[I" ∈ gj_TB := gj_t4 (List.mem_of_getElem? (i := 190) rfl) rfl
theorem kf_X12_25 : Cond.fieldLink RX12 25 RX12 "good" "[[I" ∈ gj_TB := gj_t4 (List.mem_of_getElem? (i := 191) rfl) rfl
theorem kf_X12_28 : Cond.fieldLink RX12 28 RX12 "poor" "[[I" ∈ gj_TB := gj_t4 (List.mem_of_getElem? (i := 192) rfl) rfl
theorem kf_X12_31 : Cond.fieldLink RX12 31 RX12 "fit" "[[I" ∈ gj_TB := gj_t4 (List.mem_of_getElem? (i := 193) rfl) rfl
theorem kf_X12_34 : Cond.fieldLink RX12 34 RX12 "head" "[[I" ∈ gj_TB := gj_t4 (List.mem_of_getElem? (i := 194) rfl) rfl
theorem kf_X12_37 : Cond.fieldLink RX12 37 RX12 "many" "[[I" ∈ gj_TB := gj_t4 (List.mem_of_getElem? (i := 195) rfl) rfl
theorem kf_X12_40 : Cond.fieldLink RX12 40 RX12 "names" "[J" ∈ gj_TB := gj_t4 (List.mem_of_getElem? (i := 196) rfl) rfl
theorem kf_X12_44 : Cond.fieldLink RX12 44 RX12 "isThought" "[Z" ∈ gj_TB := gj_t4 (List.mem_of_getElem? (i := 197) rfl) rfl
theorem kf_X12_48 : Cond.fieldLink RX12 48 RX12 "isFit" "[Z" ∈ gj_TB := gj_t4 (List.mem_of_getElem? (i := 198) rfl) rfl
theorem kf_X12_51 : Cond.fieldLink RX12 51 RX12 "isTold" "[Z" ∈ gj_TB := gj_t4 (List.mem_of_getElem? (i := 199) rfl) rfl
theorem kf_X12_260 : Cond.fieldLink RX12 260 RX12 "hasVillage" "Z" ∈ gj_TB := gj_t4 (List.mem_of_getElem? (i := 200) rfl) rfl
theorem kf_X12_73 : Cond.fieldLink RX12 73 RX12 "words" "[Ljava/lang/String;" ∈ gj_TB := gj_t4 (List.mem_of_getElem? (i := 201) rfl) rfl
theorem kf_X12_77 : Cond.fieldLink RX12 77 RX12 "mate" "[I" ∈ gj_TB := gj_t4 (List.mem_of_getElem? (i := 202) rfl) rfl
theorem kf_X12_80 : Cond.fieldLink RX12 80 RX12 "years" "[I" ∈ gj_TB := gj_t4 (List.mem_of_getElem? (i := 203) rfl) rfl
theorem kf_X12_83 : Cond.fieldLink RX12 83 RX12 "yeses" "[I" ∈ gj_TB := gj_t4 (List.mem_of_getElem? (i := 204) rfl) rfl
theorem kf_X12_86 : Cond.fieldLink RX12 86 RX12 "earned" "[I" ∈ gj_TB := gj_t4 (List.mem_of_getElem? (i := 205) rfl) rfl
theorem kf_X12_89 : Cond.fieldLink RX12 89 RX12 "goods" "[I" ∈ gj_TB := gj_t4 (List.mem_of_getElem? (i := 206) rfl) rfl
theorem kf_X12_92 : Cond.fieldLink RX12 92 RX12 "poors" "[I" ∈ gj_TB := gj_t4 (List.mem_of_getElem? (i := 207) rfl) rfl
theorem kf_X12_95 : Cond.fieldLink RX12 95 RX12 "children" "[I" ∈ gj_TB := gj_t4 (List.mem_of_getElem? (i := 208) rfl) rfl
theorem kf_X12_264 : Cond.fieldLink RX12 264 RX12 "year" "I" ∈ gj_TB := gj_t4 (List.mem_of_getElem? (i := 209) rfl) rfl
theorem kf_X12_267 : Cond.fieldLink RX12 267 RX12 "way" "I" ∈ gj_TB := gj_t4 (List.mem_of_getElem? (i := 210) rfl) rfl
theorem kf_X12_274 : Cond.fieldLink RX12 274 RX12 "logMany" "I" ∈ gj_TB := gj_t4 (List.mem_of_getElem? (i := 211) rfl) rfl
theorem kf_X12_270 : Cond.fieldLink RX12 270 RX12 "lots" "J" ∈ gj_TB := gj_t4 (List.mem_of_getElem? (i := 212) rfl) rfl
theorem kf_X12_98 : Cond.fieldLink RX12 98 RX12 "a" "[I" ∈ gj_TB := gj_t4 (List.mem_of_getElem? (i := 213) rfl) rfl
theorem kf_X12_101 : Cond.fieldLink RX12 101 RX12 "b" "[I" ∈ gj_TB := gj_t4 (List.mem_of_getElem? (i := 214) rfl) rfl
theorem kf_X12_104 : Cond.fieldLink RX12 104 RX12 "gains" "[I" ∈ gj_TB := gj_t4 (List.mem_of_getElem? (i := 215) rfl) rfl
theorem kf_X12_107 : Cond.fieldLink RX12 107 RX12 "bringing" "[I" ∈ gj_TB := gj_t4 (List.mem_of_getElem? (i := 216) rfl) rfl
theorem kf_X12_320 : Cond.fieldLink RX12 320 RX12 "self" "I" ∈ gj_TB := gj_t4 (List.mem_of_getElem? (i := 217) rfl) rfl
theorem kf_X12_323 : Cond.fieldLink RX12 323 RX12 "cow" "I" ∈ gj_TB := gj_t4 (List.mem_of_getElem? (i := 218) rfl) rfl
theorem kf_X12_110 : Cond.fieldLink RX12 110 RX12 "never" "I" ∈ gj_TB := gj_t4 (List.mem_of_getElem? (i := 219) rfl) rfl
theorem kf_X12_342 : Cond.fieldLink RX12 342 RX12 "actNow" "I" ∈ gj_TB := gj_t4 (List.mem_of_getElem? (i := 220) rfl) rfl
theorem kf_X12_114 : Cond.fieldLink RX12 114 RX12 "has" "[I" ∈ gj_TB := gj_t4 (List.mem_of_getElem? (i := 221) rfl) rfl
theorem kf_X12_117 : Cond.fieldLink RX12 117 RX12 "isOut" "[I" ∈ gj_TB := gj_t4 (List.mem_of_getElem? (i := 222) rfl) rfl
theorem kf_X12_120 : Cond.fieldLink RX12 120 RX12 "said" "[I" ∈ gj_TB := gj_t4 (List.mem_of_getElem? (i := 223) rfl) rfl
theorem kf_X12_123 : Cond.fieldLink RX12 123 RX12 "logs" "[I" ∈ gj_TB := gj_t4 (List.mem_of_getElem? (i := 224) rfl) rfl
theorem kf_X12_126 : Cond.fieldLink RX12 126 RX12 "isSilentNow" "[I" ∈ gj_TB := gj_t4 (List.mem_of_getElem? (i := 225) rfl) rfl
theorem kf_X12_129 : Cond.fieldLink RX12 129 RX12 "now" "[I" ∈ gj_TB := gj_t4 (List.mem_of_getElem? (i := 226) rfl) rfl
theorem kf_X12_132 : Cond.fieldLink RX12 132 RX12 "parents" "[I" ∈ gj_TB := gj_t4 (List.mem_of_getElem? (i := 227) rfl) rfl
theorem kf_X12_429 : Cond.fieldLink RX12 429 RX12 "parentsSum" "I" ∈ gj_TB := gj_t4 (List.mem_of_getElem? (i := 228) rfl) rfl
theorem kf_X12_135 : Cond.fieldLink RX12 135 RX12 "heldGoods" "[I" ∈ gj_TB := gj_t4 (List.mem_of_getElem? (i := 229) rfl) rfl
theorem kf_X12_138 : Cond.fieldLink RX12 138 RX12 "heldPoors" "[I" ∈ gj_TB := gj_t4 (List.mem_of_getElem? (i := 230) rfl) rfl
theorem kf_X12_141 : Cond.fieldLink RX12 141 RX12 "heldChildren" "[I" ∈ gj_TB := gj_t4 (List.mem_of_getElem? (i := 231) rfl) rfl
theorem kf_X12_144 : Cond.fieldLink RX12 144 RX12 "pairsNow" "[I" ∈ gj_TB := gj_t4 (List.mem_of_getElem? (i := 232) rfl) rfl
theorem kf_X12_147 : Cond.fieldLink RX12 147 RX12 "kept" "[[I" ∈ gj_TB := gj_t4 (List.mem_of_getElem? (i := 233) rfl) rfl
theorem kf_X12_150 : Cond.fieldLink RX12 150 RX12 "keptLots" "[J" ∈ gj_TB := gj_t4 (List.mem_of_getElem? (i := 234) rfl) rfl
theorem kf_X12_153 : Cond.fieldLink RX12 153 RX12 "hasImage" "[Z" ∈ gj_TB := gj_t4 (List.mem_of_getElem? (i := 235) rfl) rfl
theorem kf_X12_447 : Cond.fieldLink RX12 447 RX12 "cursor" "I" ∈ gj_TB := gj_t4 (List.mem_of_getElem? (i := 236) rfl) rfl
theorem ml_L_148 : Cond.methodLink RL 148 yX12_status ∈ gj_TB := gj_t5 (List.mem_of_getElem? (i := 108) rfl) rfl
theorem kl_X12_156 : Cond.constantLong RX12 156 (Int64.ofInt (2)) ∈ gj_TB := gj_t5 (List.mem_of_getElem? (i := 112) rfl) rfl
theorem ml_X12_158 : Cond.methodLink RX12 158 yX12_in ∈ gj_TB := gj_t5 (List.mem_of_getElem? (i := 113) rfl) rfl
theorem ml_L_17 : Cond.methodLink RL 17 yX12_feed ∈ gj_TB := gj_t5 (List.mem_of_getElem? (i := 116) rfl) rfl
theorem ml_X12_165 : Cond.methodLink RX12 165 yX12_refuse ∈ gj_TB := gj_t5 (List.mem_of_getElem? (i := 120) rfl) rfl
theorem ml_X12_169 : Cond.methodLink RX12 169 yX12_feeds ∈ gj_TB := gj_t5 (List.mem_of_getElem? (i := 124) rfl) rfl
theorem ml_L_22 : Cond.methodLink RL 22 yX12_end ∈ gj_TB := gj_t5 (List.mem_of_getElem? (i := 128) rfl) rfl
theorem ml_X12_173 : Cond.methodLink RX12 173 yX12_deny ∈ gj_TB := gj_t5 (List.mem_of_getElem? (i := 132) rfl) rfl
theorem ml_L_27 : Cond.methodLink RL 27 yX12_fault ∈ gj_TB := gj_t5 (List.mem_of_getElem? (i := 136) rfl) rfl
theorem ml_X12_253 : Cond.methodLink RX12 253 yX12_reads ∈ gj_TB := gj_t5 (List.mem_of_getElem? (i := 140) rfl) rfl
theorem ml_X12_190 : Cond.methodLink RX12 190 yX12_next ∈ gj_TB := gj_t5 (List.mem_of_getElem? (i := 144) rfl) rfl
theorem ml_X12_183 : Cond.methodLink RX12 183 yX12_between ∈ gj_TB := gj_t5 (List.mem_of_getElem? (i := 148) rfl) rfl
theorem ml_X12_250 : Cond.methodLink RX12 250 yX12_line ∈ gj_TB := gj_t5 (List.mem_of_getElem? (i := 152) rfl) rfl
theorem ml_X12_208 : Cond.methodLink RX12 208 yX12_wordHere ∈ gj_TB := gj_t5 (List.mem_of_getElem? (i := 156) rfl) rfl
theorem ml_X12_193 : Cond.methodLink RX12 193 yJ0_length_8abf5 ∈ gj_TB := gj_t5 (List.mem_of_getElem? (i := 160) rfl) rfl
theorem ml_X12_197 : Cond.methodLink RX12 197 yJ0_charAt_5068e ∈ gj_TB := gj_t5 (List.mem_of_getElem? (i := 161) rfl) rfl
theorem ml_X12_238 : Cond.methodLink RX12 238 yX12_personRead ∈ gj_TB := gj_t5 (List.mem_of_getElem? (i := 162) rfl) rfl
theorem ml_X12_201 : Cond.methodLink RX12 201 yX12_passes ∈ gj_TB := gj_t5 (List.mem_of_getElem? (i := 166) rfl) rfl
theorem ml_X12_217 : Cond.methodLink RX12 217 yX12_nameHere ∈ gj_TB := gj_t5 (List.mem_of_getElem? (i := 170) rfl) rfl
theorem kl_X12_211 : Cond.constantLong RX12 211 (Int64.ofInt (-1)) ∈ gj_TB := gj_t5 (List.mem_of_getElem? (i := 174) rfl) rfl
theorem kl_X12_213 : Cond.constantLong RX12 213 (Int64.ofInt (32)) ∈ gj_TB := gj_t5 (List.mem_of_getElem? (i := 175) rfl) rfl
theorem kl_X12_215 : Cond.constantLong RX12 215 (Int64.ofInt (97)) ∈ gj_TB := gj_t5 (List.mem_of_getElem? (i := 176) rfl) rfl
theorem ml_X12_221 : Cond.methodLink RX12 221 yX12_found ∈ gj_TB := gj_t5 (List.mem_of_getElem? (i := 177) rfl) rfl
theorem ml_X12_224 : Cond.methodLink RX12 224 yX12_into ∈ gj_TB := gj_t5 (List.mem_of_getElem? (i := 181) rfl) rfl
theorem ml_X12_228 : Cond.methodLink RX12 228 yX12_closes ∈ gj_TB := gj_t5 (List.mem_of_getElem? (i := 185) rfl) rfl
theorem ml_X12_241 : Cond.methodLink RX12 241 yX12_thinkRead ∈ gj_TB := gj_t5 (List.mem_of_getElem? (i := 189) rfl) rfl
theorem ml_X12_232 : Cond.methodLink RX12 232 yX12_coupleOf ∈ gj_TB := gj_t5 (List.mem_of_getElem? (i := 193) rfl) rfl
theorem ml_X12_244 : Cond.methodLink RX12 244 yX12_fitRead ∈ gj_TB := gj_t5 (List.mem_of_getElem? (i := 196) rfl) rfl
theorem kl_X12_236 : Cond.constantLong RX12 236 (Int64.ofInt (3)) ∈ gj_TB := gj_t5 (List.mem_of_getElem? (i := 200) rfl) rfl
theorem ml_X12_247 : Cond.methodLink RX12 247 yX12_onceRead ∈ gj_TB := gj_t5 (List.mem_of_getElem? (i := 201) rfl) rfl
theorem ml_L_31 : Cond.methodLink RL 31 yX12_village ∈ gj_TB := gj_t5 (List.mem_of_getElem? (i := 205) rfl) rfl
theorem ml_X12_256 : Cond.methodLink RX12 256 yX12_copies ∈ gj_TB := gj_t5 (List.mem_of_getElem? (i := 209) rfl) rfl
theorem ml_L_36 : Cond.methodLink RL 36 yX12_person ∈ gj_TB := gj_t5 (List.mem_of_getElem? (i := 212) rfl) rfl
theorem ml_X12_281 : Cond.methodLink RX12 281 yX12_who ∈ gj_TB := gj_t5 (List.mem_of_getElem? (i := 216) rfl) rfl
theorem kl_X12_277 : Cond.constantLong RX12 277 (Int64.ofInt (10)) ∈ gj_TB := gj_t5 (List.mem_of_getElem? (i := 220) rfl) rfl
theorem kl_X12_279 : Cond.constantLong RX12 279 (Int64.ofInt (13)) ∈ gj_TB := gj_t5 (List.mem_of_getElem? (i := 221) rfl) rfl
theorem kc_X12_284 : Cond.constant RX12 284 (Int32.ofInt (-2147483648)) ∈ gj_TB := gj_t5 (List.mem_of_getElem? (i := 222) rfl) rfl
theorem ml_X12_285 : Cond.methodLink RX12 285 yX12_told ∈ gj_TB := gj_t5 (List.mem_of_getElem? (i := 223) rfl) rfl
theorem ml_L_41 : Cond.methodLink RL 41 yX12_earned ∈ gj_TB := gj_t5 (List.mem_of_getElem? (i := 226) rfl) rfl
theorem ml_L_46 : Cond.methodLink RL 46 yX12_two_ ∈ gj_TB := gj_t5 (List.mem_of_getElem? (i := 230) rfl) rfl
theorem ml_X12_288 : Cond.methodLink RX12 288 yX12_areTwo ∈ gj_TB := gj_t5 (List.mem_of_getElem? (i := 234) rfl) rfl
theorem ml_X12_292 : Cond.methodLink RX12 292 yX12_two ∈ gj_TB := gj_t5 (List.mem_of_getElem? (i := 237) rfl) rfl
theorem ml_L_50 : Cond.methodLink RL 50 yX12_think ∈ gj_TB := gj_t6 (List.mem_of_getElem? (i := 0) rfl) rfl
theorem ml_L_54 : Cond.methodLink RL 54 yX12_shown ∈ gj_TB := gj_t6 (List.mem_of_getElem? (i := 4) rfl) rfl
theorem ml_X12_303 : Cond.methodLink RX12 303 yX12_shows ∈ gj_TB := gj_t6 (List.mem_of_getElem? (i := 8) rfl) rfl
theorem ml_X12_295 : Cond.methodLink RX12 295 yX12_power ∈ gj_TB := gj_t6 (List.mem_of_getElem? (i := 12) rfl) rfl
theorem kl_X12_299 : Cond.constantLong RX12 299 (Int64.ofInt (1000)) ∈ gj_TB := gj_t6 (List.mem_of_getElem? (i := 15) rfl) rfl
theorem kl_X12_301 : Cond.constantLong RX12 301 (Int64.ofInt (16)) ∈ gj_TB := gj_t6 (List.mem_of_getElem? (i := 16) rfl) rfl
theorem ml_L_58 : Cond.methodLink RL 58 yX12_liking ∈ gj_TB := gj_t6 (List.mem_of_getElem? (i := 17) rfl) rfl
theorem ml_X12_311 : Cond.methodLink RX12 311 yX12_likesNow ∈ gj_TB := gj_t6 (List.mem_of_getElem? (i := 21) rfl) rfl
theorem ml_X12_307 : Cond.methodLink RX12 307 yX12_likes ∈ gj_TB := gj_t6 (List.mem_of_getElem? (i := 25) rfl) rfl
theorem ml_L_62 : Cond.methodLink RL 62 yX12_sooner ∈ gj_TB := gj_t6 (List.mem_of_getElem? (i := 29) rfl) rfl
theorem ml_X12_314 : Cond.methodLink RX12 314 yX12_isSooner ∈ gj_TB := gj_t6 (List.mem_of_getElem? (i := 33) rfl) rfl
theorem ml_L_66 : Cond.methodLink RL 66 yX12_best ∈ gj_TB := gj_t6 (List.mem_of_getElem? (i := 37) rfl) rfl
theorem ml_X12_353 : Cond.methodLink RX12 353 yX12_areMays ∈ gj_TB := gj_t6 (List.mem_of_getElem? (i := 41) rfl) rfl
theorem kl_X12_351 : Cond.constantLong RX12 351 (Int64.ofInt (4)) ∈ gj_TB := gj_t6 (List.mem_of_getElem? (i := 44) rfl) rfl
theorem ml_X12_356 : Cond.methodLink RX12 356 yX12_bestOf ∈ gj_TB := gj_t6 (List.mem_of_getElem? (i := 45) rfl) rfl
theorem ml_X12_345 : Cond.methodLink RX12 345 yX12_lays ∈ gj_TB := gj_t6 (List.mem_of_getElem? (i := 49) rfl) rfl
theorem ml_X12_348 : Cond.methodLink RX12 348 yX12_mateOf ∈ gj_TB := gj_t6 (List.mem_of_getElem? (i := 53) rfl) rfl
theorem ml_X12_330 : Cond.methodLink RX12 330 yX12_worth ∈ gj_TB := gj_t6 (List.mem_of_getElem? (i := 57) rfl) rfl
theorem ml_X12_335 : Cond.methodLink RX12 335 yX12_by ∈ gj_TB := gj_t6 (List.mem_of_getElem? (i := 61) rfl) rfl
theorem ml_X12_332 : Cond.methodLink RX12 332 yX12_with ∈ gj_TB := gj_t6 (List.mem_of_getElem? (i := 65) rfl) rfl
theorem ml_X12_325 : Cond.methodLink RX12 325 yJ9_min_7cf53 ∈ gj_TB := gj_t6 (List.mem_of_getElem? (i := 69) rfl) rfl
theorem ml_X12_339 : Cond.methodLink RX12 339 yX12_othersMany ∈ gj_TB := gj_t6 (List.mem_of_getElem? (i := 70) rfl) rfl
theorem ml_X12_359 : Cond.methodLink RX12 359 yX12_toldOf ∈ gj_TB := gj_t6 (List.mem_of_getElem? (i := 74) rfl) rfl
theorem ml_L_70 : Cond.methodLink RL 70 yX12_act ∈ gj_TB := gj_t6 (List.mem_of_getElem? (i := 78) rfl) rfl
theorem ml_L_74 : Cond.methodLink RL 74 yX12_silent ∈ gj_TB := gj_t6 (List.mem_of_getElem? (i := 82) rfl) rfl
theorem ml_X12_362 : Cond.methodLink RX12 362 yX12_isSilent ∈ gj_TB := gj_t6 (List.mem_of_getElem? (i := 86) rfl) rfl
theorem ml_L_79 : Cond.methodLink RL 79 yX12_bar ∈ gj_TB := gj_t6 (List.mem_of_getElem? (i := 90) rfl) rfl
theorem kl_X12_365 : Cond.constantLong RX12 365 (Int64.ofInt (6)) ∈ gj_TB := gj_t6 (List.mem_of_getElem? (i := 94) rfl) rfl
theorem ml_L_83 : Cond.methodLink RL 83 yX12_price ∈ gj_TB := gj_t6 (List.mem_of_getElem? (i := 95) rfl) rfl
theorem ml_L_87 : Cond.methodLink RL 87 yX12_waits ∈ gj_TB := gj_t6 (List.mem_of_getElem? (i := 99) rfl) rfl
theorem ml_L_91 : Cond.methodLink RL 91 yX12_way ∈ gj_TB := gj_t6 (List.mem_of_getElem? (i := 103) rfl) rfl
theorem ml_L_95 : Cond.methodLink RL 95 yX12_seed ∈ gj_TB := gj_t6 (List.mem_of_getElem? (i := 107) rfl) rfl
theorem kl_X12_394 : Cond.constantLong RX12 394 (Int64.ofInt (1000000)) ∈ gj_TB := gj_t6 (List.mem_of_getElem? (i := 111) rfl) rfl
theorem ml_L_99 : Cond.methodLink RL 99 yX12_green ∈ gj_TB := gj_t6 (List.mem_of_getElem? (i := 112) rfl) rfl
theorem ml_X12_396 : Cond.methodLink RX12 396 yX12_goes ∈ gj_TB := gj_t6 (List.mem_of_getElem? (i := 116) rfl) rfl
theorem ml_X12_385 : Cond.methodLink RX12 385 yX12_asks ∈ gj_TB := gj_t6 (List.mem_of_getElem? (i := 120) rfl) rfl
theorem ml_X12_375 : Cond.methodLink RX12 375 yX12_both ∈ gj_TB := gj_t6 (List.mem_of_getElem? (i := 124) rfl) rfl
theorem ml_X12_317 : Cond.methodLink RX12 317 yX12_would ∈ gj_TB := gj_t6 (List.mem_of_getElem? (i := 128) rfl) rfl
theorem ml_X12_378 : Cond.methodLink RX12 378 yX12_gives ∈ gj_TB := gj_t6 (List.mem_of_getElem? (i := 132) rfl) rfl
theorem ml_X12_388 : Cond.methodLink RX12 388 yX12_inTurn ∈ gj_TB := gj_t6 (List.mem_of_getElem? (i := 136) rfl) rfl
theorem ml_X12_391 : Cond.methodLink RX12 391 yX12_byLot ∈ gj_TB := gj_t6 (List.mem_of_getElem? (i := 140) rfl) rfl
theorem ml_X12_382 : Cond.methodLink RX12 382 yX12_lot ∈ gj_TB := gj_t6 (List.mem_of_getElem? (i := 144) rfl) rfl
theorem kl_X12_367 : Cond.constantLong RX12 367 (Int64.ofInt (1103515245)) ∈ gj_TB := gj_t6 (List.mem_of_getElem? (i := 148) rfl) rfl
theorem kl_X12_369 : Cond.constantLong RX12 369 (Int64.ofInt (12345)) ∈ gj_TB := gj_t6 (List.mem_of_getElem? (i := 149) rfl) rfl
theorem kl_X12_371 : Cond.constantLong RX12 371 (Int64.ofInt (2147483647)) ∈ gj_TB := gj_t6 (List.mem_of_getElem? (i := 150) rfl) rfl
theorem kl_X12_373 : Cond.constantLong RX12 373 (Int64.ofInt (256)) ∈ gj_TB := gj_t6 (List.mem_of_getElem? (i := 151) rfl) rfl
theorem ml_L_116 : Cond.methodLink RL 116 yX12_log ∈ gj_TB := gj_t6 (List.mem_of_getElem? (i := 152) rfl) rfl
theorem ml_L_103 : Cond.methodLink RL 103 yX12_may_ ∈ gj_TB := gj_t6 (List.mem_of_getElem? (i := 156) rfl) rfl
theorem kl_X12_414 : Cond.constantLong RX12 414 (Int64.ofInt (50)) ∈ gj_TB := gj_t6 (List.mem_of_getElem? (i := 160) rfl) rfl
theorem ml_X12_416 : Cond.methodLink RX12 416 yX12_may ∈ gj_TB := gj_t6 (List.mem_of_getElem? (i := 161) rfl) rfl
theorem ml_X12_405 : Cond.methodLink RX12 405 yX12_asked ∈ gj_TB := gj_t6 (List.mem_of_getElem? (i := 165) rfl) rfl
theorem ml_X12_399 : Cond.methodLink RX12 399 yX12_notes ∈ gj_TB := gj_t6 (List.mem_of_getElem? (i := 169) rfl) rfl
theorem ml_X12_402 : Cond.methodLink RX12 402 yX12_parts ∈ gj_TB := gj_t6 (List.mem_of_getElem? (i := 173) rfl) rfl
theorem ml_X12_408 : Cond.methodLink RX12 408 yX12_joins ∈ gj_TB := gj_t6 (List.mem_of_getElem? (i := 177) rfl) rfl
theorem ml_X12_411 : Cond.methodLink RX12 411 yX12_lives ∈ gj_TB := gj_t6 (List.mem_of_getElem? (i := 181) rfl) rfl
theorem ml_L_108 : Cond.methodLink RL 108 yX12_join ∈ gj_TB := gj_t6 (List.mem_of_getElem? (i := 185) rfl) rfl
theorem ml_L_112 : Cond.methodLink RL 112 yX12_part ∈ gj_TB := gj_t6 (List.mem_of_getElem? (i := 189) rfl) rfl
theorem ml_L_120 : Cond.methodLink RL 120 yX12_blocks ∈ gj_TB := gj_t6 (List.mem_of_getElem? (i := 193) rfl) rfl
theorem ml_X12_419 : Cond.methodLink RX12 419 yX12_isFree ∈ gj_TB := gj_t6 (List.mem_of_getElem? (i := 197) rfl) rfl
theorem ml_L_124 : Cond.methodLink RL 124 yX12_parents ∈ gj_TB := gj_t6 (List.mem_of_getElem? (i := 201) rfl) rfl
theorem ml_X12_435 : Cond.methodLink RX12 435 yX12_findsParents ∈ gj_TB := gj_t6 (List.mem_of_getElem? (i := 205) rfl) rfl
theorem ml_X12_432 : Cond.methodLink RX12 432 yX12_parentsFrom ∈ gj_TB := gj_t6 (List.mem_of_getElem? (i := 209) rfl) rfl
theorem ml_X12_425 : Cond.methodLink RX12 425 yX12_sumOf ∈ gj_TB := gj_t6 (List.mem_of_getElem? (i := 213) rfl) rfl
theorem ml_X12_422 : Cond.methodLink RX12 422 yX12_truly ∈ gj_TB := gj_t6 (List.mem_of_getElem? (i := 217) rfl) rfl
theorem ml_L_128 : Cond.methodLink RL 128 yX12_life ∈ gj_TB := gj_t6 (List.mem_of_getElem? (i := 221) rfl) rfl
theorem kl_X12_441 : Cond.constantLong RX12 441 (Int64.ofInt (100)) ∈ gj_TB := gj_t6 (List.mem_of_getElem? (i := 225) rfl) rfl
theorem ml_X12_443 : Cond.methodLink RX12 443 yX12_lifeOf ∈ gj_TB := gj_t6 (List.mem_of_getElem? (i := 226) rfl) rfl
theorem ml_X12_438 : Cond.methodLink RX12 438 yJ9_max_7cf53 ∈ gj_TB := gj_t6 (List.mem_of_getElem? (i := 230) rfl) rfl
theorem ml_L_132 : Cond.methodLink RL 132 yX12_never ∈ gj_TB := gj_t6 (List.mem_of_getElem? (i := 231) rfl) rfl
theorem ml_L_136 : Cond.methodLink RL 136 yX12_pairs ∈ gj_TB := gj_t6 (List.mem_of_getElem? (i := 235) rfl) rfl
theorem ml_L_140 : Cond.methodLink RL 140 yX12_image ∈ gj_TB := gj_t6 (List.mem_of_getElem? (i := 239) rfl) rfl
theorem ml_X12_454 : Cond.methodLink RX12 454 yX12_moves ∈ gj_TB := gj_t7 (List.mem_of_getElem? (i := 3) rfl) rfl
theorem ml_X12_450 : Cond.methodLink RX12 450 yX12_move ∈ gj_TB := gj_t7 (List.mem_of_getElem? (i := 7) rfl) rfl
theorem ml_L_144 : Cond.methodLink RL 144 yX12_on ∈ gj_TB := gj_t7 (List.mem_of_getElem? (i := 11) rfl) rfl
theorem ml_L_152 : Cond.methodLink RL 152 yX12_count ∈ gj_TB := gj_t7 (List.mem_of_getElem? (i := 15) rfl) rfl
theorem kf_J0_9 : Cond.fieldLink RJ0 9 RJ0 "value" "[B" ∈ gj_TB := gj_t7 (List.mem_of_getElem? (i := 19) rfl) rfl
theorem kf_J0_15 : Cond.fieldLink RJ0 15 RJ0 "coder" "B" ∈ gj_TB := gj_t7 (List.mem_of_getElem? (i := 20) rfl) rfl
theorem kd_X11_init : Cond.code yX11_init cX11_init 2 none ∈ gj_TB := gj_t0 (List.mem_of_getElem? (i := 23) rfl) rfl
theorem kd_Obj_init : Cond.code Lib.objectInit ⟨#[0xb1]⟩ 1 none ∈ gj_TB := gj_t0 (List.mem_of_getElem? (i := 26) rfl) rfl
theorem kd_X9_init : Cond.code yX9_init cX9_init 1 none ∈ gj_TB := gj_t0 (List.mem_of_getElem? (i := 31) rfl) rfl
theorem kd_X5_init : Cond.code yX5_init cX5_init 1 none ∈ gj_TB := gj_t0 (List.mem_of_getElem? (i := 45) rfl) rfl
theorem kd_X6_init : Cond.code yX6_init cX6_init 3 none ∈ gj_TB := gj_t0 (List.mem_of_getElem? (i := 145) rfl) rfl
theorem kd_X3_init : Cond.code yX3_init cX3_init 1 none ∈ gj_TB := gj_t0 (List.mem_of_getElem? (i := 184) rfl) rfl
theorem kd_X1_init : Cond.code yX1_init cX1_init 1 none ∈ gj_TB := gj_t0 (List.mem_of_getElem? (i := 190) rfl) rfl
theorem kd_X7_fill : Cond.code yX7_fill cX7_fill 3 none ∈ gj_TB := gj_t0 (List.mem_of_getElem? (i := 204) rfl) rfl
theorem kd_X4_init : Cond.code yX4_init cX4_init 3 none ∈ gj_TB := gj_t1 (List.mem_of_getElem? (i := 32) rfl) rfl
theorem kd_X2_init : Cond.code yX2_init cX2_init 3 none ∈ gj_TB := gj_t1 (List.mem_of_getElem? (i := 72) rfl) rfl
theorem kd_X0_init : Cond.code yX0_init cX0_init 2 none ∈ gj_TB := gj_t1 (List.mem_of_getElem? (i := 102) rfl) rfl
theorem kd_X8_init : Cond.code yX8_init cX8_init 5 none ∈ gj_TB := gj_t1 (List.mem_of_getElem? (i := 119) rfl) rfl
theorem kd_X11_feed : Cond.code yX11_feed cX11_feed 6 (some .int) ∈ gj_TB := gj_t1 (List.mem_of_getElem? (i := 178) rfl) rfl
theorem kd_X9_hasRoomFor : Cond.code yX9_hasRoomFor cX9_hasRoomFor 2 (some .boolean) ∈ gj_TB := gj_t1 (List.mem_of_getElem? (i := 182) rfl) rfl
theorem kd_X11_refuse : Cond.code yX11_refuse cX11_refuse 2 (some .boolean) ∈ gj_TB := gj_t1 (List.mem_of_getElem? (i := 186) rfl) rfl
theorem kd_X7_at : Cond.code yX7_at cX7_at 2 (some .int) ∈ gj_TB := gj_t1 (List.mem_of_getElem? (i := 189) rfl) rfl
theorem kd_X7_put : Cond.code yX7_put cX7_put 3 none ∈ gj_TB := gj_t1 (List.mem_of_getElem? (i := 192) rfl) rfl
theorem kd_X9_append : Cond.code yX9_append cX9_append 3 none ∈ gj_TB := gj_t1 (List.mem_of_getElem? (i := 196) rfl) rfl
theorem kd_X9_length : Cond.code yX9_length cX9_length 1 (some .int) ∈ gj_TB := gj_t1 (List.mem_of_getElem? (i := 201) rfl) rfl
theorem kd_X11_end : Cond.code yX11_end cX11_end 2 (some .boolean) ∈ gj_TB := gj_t1 (List.mem_of_getElem? (i := 205) rfl) rfl
theorem kd_X9_cutTo : Cond.code yX9_cutTo cX9_cutTo 2 none ∈ gj_TB := gj_t1 (List.mem_of_getElem? (i := 209) rfl) rfl
theorem kd_X11_fault : Cond.code yX11_fault cX11_fault 1 (some .int) ∈ gj_TB := gj_t1 (List.mem_of_getElem? (i := 213) rfl) rfl
theorem kd_X6_read : Cond.code yX6_read cX6_read 2 (some .int) ∈ gj_TB := gj_t1 (List.mem_of_getElem? (i := 217) rfl) rfl
theorem kd_X5_clear : Cond.code yX5_clear cX5_clear 1 none ∈ gj_TB := gj_t1 (List.mem_of_getElem? (i := 221) rfl) rfl
theorem kd_X7_unmark : Cond.code yX7_unmark cX7_unmark 2 none ∈ gj_TB := gj_t1 (List.mem_of_getElem? (i := 225) rfl) rfl
theorem kd_X6_scan : Cond.code yX6_scan cX6_scan 1 none ∈ gj_TB := gj_t1 (List.mem_of_getElem? (i := 229) rfl) rfl
theorem kd_X9_byteAt : Cond.code yX9_byteAt cX9_byteAt 2 (some .int) ∈ gj_TB := gj_t1 (List.mem_of_getElem? (i := 234) rfl) rfl
theorem kd_X6_isBlank : Cond.code yX6_isBlank cX6_isBlank 1 (some .boolean) ∈ gj_TB := gj_t1 (List.mem_of_getElem? (i := 238) rfl) rfl
theorem kd_X6_kindOf : Cond.code yX6_kindOf cX6_kindOf 1 (some .int) ∈ gj_TB := gj_t2 (List.mem_of_getElem? (i := 1) rfl) rfl
theorem kd_X6_readLine : Cond.code yX6_readLine cX6_readLine 1 (some .boolean) ∈ gj_TB := gj_t2 (List.mem_of_getElem? (i := 5) rfl) rfl
theorem kd_X6_isWord : Cond.code yX6_isWord cX6_isWord 3 (some .boolean) ∈ gj_TB := gj_t2 (List.mem_of_getElem? (i := 10) rfl) rfl
theorem kd_J0_length_8abf5 : Cond.code yJ0_length_8abf5 cJ0_length_8abf5 1 (some .int) ∈ gj_TB := gj_t2 (List.mem_of_getElem? (i := 14) rfl) rfl
theorem kd_J0_coder_7d493 : Cond.code yJ0_coder_7d493 cJ0_coder_7d493 1 (some .byte) ∈ gj_TB := gj_t2 (List.mem_of_getElem? (i := 18) rfl) rfl
theorem kd_J0_charAt_5068e : Cond.code yJ0_charAt_5068e cJ0_charAt_5068e 2 (some .char) ∈ gj_TB := gj_t2 (List.mem_of_getElem? (i := 24) rfl) rfl
theorem kd_J0_isLatin1_aae02 : Cond.code yJ0_isLatin1_aae02 cJ0_isLatin1_aae02 1 (some .boolean) ∈ gj_TB := gj_t2 (List.mem_of_getElem? (i := 28) rfl) rfl
theorem kd_J1_charAt_3b067 : Cond.code yJ1_charAt_3b067 cJ1_charAt_3b067 2 (some .char) ∈ gj_TB := gj_t2 (List.mem_of_getElem? (i := 31) rfl) rfl
theorem kd_J0_checkIndex_df160 : Cond.code yJ0_checkIndex_df160 cJ0_checkIndex_df160 2 none ∈ gj_TB := gj_t2 (List.mem_of_getElem? (i := 34) rfl) rfl
theorem kd_J3_checkIndex_8e157 : Cond.code yJ3_checkIndex_8e157 cJ3_checkIndex_8e157 3 (some .int) ∈ gj_TB := gj_t2 (List.mem_of_getElem? (i := 39) rfl) rfl
theorem kd_J2_charAt_3b067 : Cond.code yJ2_charAt_3b067 cJ2_charAt_3b067 2 (some .char) ∈ gj_TB := gj_t2 (List.mem_of_getElem? (i := 42) rfl) rfl
theorem kd_J2_checkIndex_2214a : Cond.code yJ2_checkIndex_2214a cJ2_checkIndex_2214a 2 none ∈ gj_TB := gj_t2 (List.mem_of_getElem? (i := 45) rfl) rfl
theorem kd_J2_length_9d52b : Cond.code yJ2_length_9d52b cJ2_length_9d52b 1 (some .int) ∈ gj_TB := gj_t2 (List.mem_of_getElem? (i := 48) rfl) rfl
theorem kd_J2_getChar_3b067 : Cond.code yJ2_getChar_3b067 cJ2_getChar_3b067 2 (some .char) ∈ gj_TB := gj_t2 (List.mem_of_getElem? (i := 52) rfl) rfl
theorem kd_X6_readPerson : Cond.code yX6_readPerson cX6_readPerson 6 (some .boolean) ∈ gj_TB := gj_t2 (List.mem_of_getElem? (i := 62) rfl) rfl
theorem kd_X6_nameHere : Cond.code yX6_nameHere cX6_nameHere 4 (some .long) ∈ gj_TB := gj_t2 (List.mem_of_getElem? (i := 66) rfl) rfl
theorem kd_X6_isLineWord : Cond.code yX6_isLineWord cX6_isLineWord 1 (some .boolean) ∈ gj_TB := gj_t2 (List.mem_of_getElem? (i := 71) rfl) rfl
theorem kd_X6_slotNamed : Cond.code yX6_slotNamed cX6_slotNamed 4 (some .int) ∈ gj_TB := gj_t2 (List.mem_of_getElem? (i := 83) rfl) rfl
theorem kd_X5_isPerson : Cond.code yX5_isPerson cX5_isPerson 2 (some .boolean) ∈ gj_TB := gj_t2 (List.mem_of_getElem? (i := 87) rfl) rfl
theorem kd_X6_takeNumber : Cond.code yX6_takeNumber cX6_takeNumber 4 (some .boolean) ∈ gj_TB := gj_t2 (List.mem_of_getElem? (i := 91) rfl) rfl
theorem kd_X6_numberHere : Cond.code yX6_numberHere cX6_numberHere 3 (some .int) ∈ gj_TB := gj_t2 (List.mem_of_getElem? (i := 95) rfl) rfl
theorem kd_J9_min_7cf53 : Cond.code yJ9_min_7cf53 cJ9_min_7cf53 2 (some .int) ∈ gj_TB := gj_t2 (List.mem_of_getElem? (i := 99) rfl) rfl
theorem kd_X6_takeStop : Cond.code yX6_takeStop cX6_takeStop 1 (some .boolean) ∈ gj_TB := gj_t2 (List.mem_of_getElem? (i := 104) rfl) rfl
theorem kd_X6_readThink : Cond.code yX6_readThink cX6_readThink 4 (some .boolean) ∈ gj_TB := gj_t2 (List.mem_of_getElem? (i := 108) rfl) rfl
theorem kd_X10_unlike : Cond.code yX10_unlike cX10_unlike 2 (some .boolean) ∈ gj_TB := gj_t2 (List.mem_of_getElem? (i := 111) rfl) rfl
theorem kd_X10_view : Cond.code yX10_view cX10_view 2 (some .int) ∈ gj_TB := gj_t2 (List.mem_of_getElem? (i := 114) rfl) rfl
theorem kd_X7_is : Cond.code yX7_is cX7_is 2 (some .boolean) ∈ gj_TB := gj_t2 (List.mem_of_getElem? (i := 117) rfl) rfl
theorem kd_X7_mark : Cond.code yX7_mark cX7_mark 3 none ∈ gj_TB := gj_t2 (List.mem_of_getElem? (i := 120) rfl) rfl
theorem kd_X6_readFit : Cond.code yX6_readFit cX6_readFit 4 (some .boolean) ∈ gj_TB := gj_t2 (List.mem_of_getElem? (i := 124) rfl) rfl
theorem kd_X10_couple : Cond.code yX10_couple cX10_couple 2 (some .int) ∈ gj_TB := gj_t2 (List.mem_of_getElem? (i := 127) rfl) rfl
theorem kd_X6_readWorth : Cond.code yX6_readWorth cX6_readWorth 1 (some .boolean) ∈ gj_TB := gj_t2 (List.mem_of_getElem? (i := 131) rfl) rfl
theorem kd_X6_firstTold : Cond.code yX6_firstTold cX6_firstTold 2 (some .boolean) ∈ gj_TB := gj_t2 (List.mem_of_getElem? (i := 135) rfl) rfl
theorem kd_X6_readHouse : Cond.code yX6_readHouse cX6_readHouse 1 (some .boolean) ∈ gj_TB := gj_t2 (List.mem_of_getElem? (i := 139) rfl) rfl
theorem kd_X6_readChild : Cond.code yX6_readChild cX6_readChild 1 (some .boolean) ∈ gj_TB := gj_t2 (List.mem_of_getElem? (i := 143) rfl) rfl
theorem kd_X6_readCow : Cond.code yX6_readCow cX6_readCow 1 (some .boolean) ∈ gj_TB := gj_t2 (List.mem_of_getElem? (i := 147) rfl) rfl
theorem kd_X6_readAhead : Cond.code yX6_readAhead cX6_readAhead 1 (some .boolean) ∈ gj_TB := gj_t2 (List.mem_of_getElem? (i := 151) rfl) rfl
theorem kd_X5_stands : Cond.code yX5_stands cX5_stands 1 (some .boolean) ∈ gj_TB := gj_t2 (List.mem_of_getElem? (i := 155) rfl) rfl
theorem kd_X11_village : Cond.code yX11_village cX11_village 1 (some .int) ∈ gj_TB := gj_t2 (List.mem_of_getElem? (i := 160) rfl) rfl
theorem kd_X5_take : Cond.code yX5_take cX5_take 2 none ∈ gj_TB := gj_t2 (List.mem_of_getElem? (i := 164) rfl) rfl
theorem kd_X7_copy : Cond.code yX7_copy cX7_copy 3 none ∈ gj_TB := gj_t2 (List.mem_of_getElem? (i := 167) rfl) rfl
theorem kd_X5_reckonShown : Cond.code yX5_reckonShown cX5_reckonShown 4 none ∈ gj_TB := gj_t2 (List.mem_of_getElem? (i := 171) rfl) rfl
theorem kd_X5_goodNext : Cond.code yX5_goodNext cX5_goodNext 10 (some .int) ∈ gj_TB := gj_t2 (List.mem_of_getElem? (i := 175) rfl) rfl
theorem kd_X5_rightAfter : Cond.code yX5_rightAfter cX5_rightAfter 4 (some .long) ∈ gj_TB := gj_t2 (List.mem_of_getElem? (i := 179) rfl) rfl
theorem kd_X5_oddsOf : Cond.code yX5_oddsOf cX5_oddsOf 6 (some .long) ∈ gj_TB := gj_t2 (List.mem_of_getElem? (i := 183) rfl) rfl
theorem kd_X5_otherAfter : Cond.code yX5_otherAfter cX5_otherAfter 4 (some .long) ∈ gj_TB := gj_t2 (List.mem_of_getElem? (i := 187) rfl) rfl
theorem kd_X0_choose : Cond.code yX0_choose cX0_choose 4 none ∈ gj_TB := gj_t2 (List.mem_of_getElem? (i := 194) rfl) rfl
theorem kd_X0_spread : Cond.code yX0_spread cX0_spread 6 (some .boolean) ∈ gj_TB := gj_t2 (List.mem_of_getElem? (i := 198) rfl) rfl
theorem kd_X5_yearSum : Cond.code yX5_yearSum cX5_yearSum 4 (some .int) ∈ gj_TB := gj_t2 (List.mem_of_getElem? (i := 206) rfl) rfl
theorem kd_X5_trueYear : Cond.code yX5_trueYear cX5_trueYear 4 (some .int) ∈ gj_TB := gj_t2 (List.mem_of_getElem? (i := 211) rfl) rfl
theorem kd_X3_begin : Cond.code yX3_begin cX3_begin 1 none ∈ gj_TB := gj_t2 (List.mem_of_getElem? (i := 217) rfl) rfl
theorem kd_X1_clear : Cond.code yX1_clear cX1_clear 1 none ∈ gj_TB := gj_t2 (List.mem_of_getElem? (i := 221) rfl) rfl
theorem kd_X11_person : Cond.code yX11_person cX11_person 4 (some .int) ∈ gj_TB := gj_t2 (List.mem_of_getElem? (i := 226) rfl) rfl
theorem kd_X5_slotOf : Cond.code yX5_slotOf cX5_slotOf 2 (some .int) ∈ gj_TB := gj_t2 (List.mem_of_getElem? (i := 230) rfl) rfl
theorem kd_X10_numberOf : Cond.code yX10_numberOf cX10_numberOf 1 (some .int) ∈ gj_TB := gj_t2 (List.mem_of_getElem? (i := 234) rfl) rfl
theorem kd_X11_earned : Cond.code yX11_earned cX11_earned 3 (some .int) ∈ gj_TB := gj_t2 (List.mem_of_getElem? (i := 238) rfl) rfl
theorem kd_X11_two : Cond.code yX11_two cX11_two 7 (some .int) ∈ gj_TB := gj_t3 (List.mem_of_getElem? (i := 2) rfl) rfl
theorem kd_X3_arePair : Cond.code yX3_arePair cX3_arePair 3 (some .boolean) ∈ gj_TB := gj_t3 (List.mem_of_getElem? (i := 8) rfl) rfl
theorem kd_X11_think : Cond.code yX11_think cX11_think 7 (some .int) ∈ gj_TB := gj_t3 (List.mem_of_getElem? (i := 13) rfl) rfl
theorem kd_X11_shown : Cond.code yX11_shown cX11_shown 10 (some .int) ∈ gj_TB := gj_t3 (List.mem_of_getElem? (i := 18) rfl) rfl
theorem kd_X5_shownRight : Cond.code yX5_shownRight cX5_shownRight 8 (some .int) ∈ gj_TB := gj_t3 (List.mem_of_getElem? (i := 22) rfl) rfl
theorem kd_X5_shownGood : Cond.code yX5_shownGood cX5_shownGood 4 (some .int) ∈ gj_TB := gj_t3 (List.mem_of_getElem? (i := 26) rfl) rfl
theorem kd_X11_liking : Cond.code yX11_liking cX11_liking 5 (some .int) ∈ gj_TB := gj_t3 (List.mem_of_getElem? (i := 30) rfl) rfl
theorem kd_X2_likingOf : Cond.code yX2_likingOf cX2_likingOf 8 (some .int) ∈ gj_TB := gj_t3 (List.mem_of_getElem? (i := 34) rfl) rfl
theorem kd_X5_gain : Cond.code yX5_gain cX5_gain 5 (some .int) ∈ gj_TB := gj_t3 (List.mem_of_getElem? (i := 41) rfl) rfl
theorem kd_X11_sooner : Cond.code yX11_sooner cX11_sooner 7 (some .int) ∈ gj_TB := gj_t3 (List.mem_of_getElem? (i := 46) rfl) rfl
theorem kd_X2_look : Cond.code yX2_look cX2_look 4 none ∈ gj_TB := gj_t3 (List.mem_of_getElem? (i := 50) rfl) rfl
theorem kd_X2_would : Cond.code yX2_would cX2_would 3 (some .boolean) ∈ gj_TB := gj_t3 (List.mem_of_getElem? (i := 56) rfl) rfl
theorem kd_X2_likes : Cond.code yX2_likes cX2_likes 3 (some .int) ∈ gj_TB := gj_t3 (List.mem_of_getElem? (i := 60) rfl) rfl
theorem kd_X2_soonerOf : Cond.code yX2_soonerOf cX2_soonerOf 6 (some .boolean) ∈ gj_TB := gj_t3 (List.mem_of_getElem? (i := 65) rfl) rfl
theorem kd_X11_best : Cond.code yX11_best cX11_best 5 (some .int) ∈ gj_TB := gj_t3 (List.mem_of_getElem? (i := 69) rfl) rfl
theorem kd_X11_canReckon : Cond.code yX11_canReckon cX11_canReckon 1 (some .boolean) ∈ gj_TB := gj_t3 (List.mem_of_getElem? (i := 72) rfl) rfl
theorem kd_X4_enter : Cond.code yX4_enter cX4_enter 4 none ∈ gj_TB := gj_t3 (List.mem_of_getElem? (i := 76) rfl) rfl
theorem kd_X10_facing : Cond.code yX10_facing cX10_facing 2 (some .int) ∈ gj_TB := gj_t3 (List.mem_of_getElem? (i := 79) rfl) rfl
theorem kd_X10_placeOf : Cond.code yX10_placeOf cX10_placeOf 1 (some .int) ∈ gj_TB := gj_t3 (List.mem_of_getElem? (i := 85) rfl) rfl
theorem kd_X4_bestWorth : Cond.code yX4_bestWorth cX4_bestWorth 2 (some .long) ∈ gj_TB := gj_t3 (List.mem_of_getElem? (i := 89) rfl) rfl
theorem kd_X4_worthOf : Cond.code yX4_worthOf cX4_worthOf 7 (some .long) ∈ gj_TB := gj_t3 (List.mem_of_getElem? (i := 93) rfl) rfl
theorem kd_X4_doing : Cond.code yX4_doing cX4_doing 18 (some .long) ∈ gj_TB := gj_t3 (List.mem_of_getElem? (i := 97) rfl) rfl
theorem kd_X4_isShut : Cond.code yX4_isShut cX4_isShut 2 (some .boolean) ∈ gj_TB := gj_t3 (List.mem_of_getElem? (i := 104) rfl) rfl
theorem kd_J9_max_f86c9 : Cond.code yJ9_max_f86c9 cJ9_max_f86c9 4 (some .long) ∈ gj_TB := gj_t3 (List.mem_of_getElem? (i := 107) rfl) rfl
theorem kd_X4_bestAct : Cond.code yX4_bestAct cX4_bestAct 8 (some .int) ∈ gj_TB := gj_t3 (List.mem_of_getElem? (i := 111) rfl) rfl
theorem kd_X11_act : Cond.code yX11_act cX11_act 6 (some .int) ∈ gj_TB := gj_t3 (List.mem_of_getElem? (i := 116) rfl) rfl
theorem kd_X4_worthOfAct : Cond.code yX4_worthOfAct cX4_worthOfAct 3 (some .long) ∈ gj_TB := gj_t3 (List.mem_of_getElem? (i := 121) rfl) rfl
theorem kd_X11_silent : Cond.code yX11_silent cX11_silent 4 (some .int) ∈ gj_TB := gj_t3 (List.mem_of_getElem? (i := 125) rfl) rfl
theorem kd_X4_stays : Cond.code yX4_stays cX4_stays 2 (some .boolean) ∈ gj_TB := gj_t3 (List.mem_of_getElem? (i := 129) rfl) rfl
theorem kd_X11_bar : Cond.code yX11_bar cX11_bar 7 (some .int) ∈ gj_TB := gj_t3 (List.mem_of_getElem? (i := 134) rfl) rfl
theorem kd_X4_leastGood : Cond.code yX4_leastGood cX4_leastGood 5 (some .int) ∈ gj_TB := gj_t3 (List.mem_of_getElem? (i := 138) rfl) rfl
theorem kd_X11_price : Cond.code yX11_price cX11_price 4 (some .int) ∈ gj_TB := gj_t3 (List.mem_of_getElem? (i := 143) rfl) rfl
theorem kd_X4_leastCow : Cond.code yX4_leastCow cX4_leastCow 9 (some .int) ∈ gj_TB := gj_t3 (List.mem_of_getElem? (i := 147) rfl) rfl
theorem kd_J9_max_7cf53 : Cond.code yJ9_max_7cf53 cJ9_max_7cf53 2 (some .int) ∈ gj_TB := gj_t3 (List.mem_of_getElem? (i := 150) rfl) rfl
theorem kd_X11_waits : Cond.code yX11_waits cX11_waits 9 (some .int) ∈ gj_TB := gj_t3 (List.mem_of_getElem? (i := 155) rfl) rfl
theorem kd_X4_shutOut : Cond.code yX4_shutOut cX4_shutOut 2 none ∈ gj_TB := gj_t3 (List.mem_of_getElem? (i := 160) rfl) rfl
theorem kd_X11_way : Cond.code yX11_way cX11_way 2 (some .boolean) ∈ gj_TB := gj_t3 (List.mem_of_getElem? (i := 164) rfl) rfl
theorem kd_X11_seed : Cond.code yX11_seed cX11_seed 2 (some .boolean) ∈ gj_TB := gj_t3 (List.mem_of_getElem? (i := 168) rfl) rfl
theorem kd_X11_green : Cond.code yX11_green cX11_green 4 (some .int) ∈ gj_TB := gj_t3 (List.mem_of_getElem? (i := 173) rfl) rfl
theorem kd_X2_gather : Cond.code yX2_gather cX2_gather 4 none ∈ gj_TB := gj_t3 (List.mem_of_getElem? (i := 177) rfl) rfl
theorem kd_X2_pairUp : Cond.code yX2_pairUp cX2_pairUp 2 none ∈ gj_TB := gj_t3 (List.mem_of_getElem? (i := 182) rfl) rfl
theorem kd_X2_askAll : Cond.code yX2_askAll cX2_askAll 4 none ∈ gj_TB := gj_t3 (List.mem_of_getElem? (i := 188) rfl) rfl
theorem kd_X2_soonestToAsk : Cond.code yX2_soonestToAsk cX2_soonestToAsk 6 (some .int) ∈ gj_TB := gj_t3 (List.mem_of_getElem? (i := 192) rfl) rfl
theorem kd_X2_canMeet : Cond.code yX2_canMeet cX2_canMeet 3 (some .boolean) ∈ gj_TB := gj_t3 (List.mem_of_getElem? (i := 197) rfl) rfl
theorem kd_X2_ask : Cond.code yX2_ask cX2_ask 4 none ∈ gj_TB := gj_t3 (List.mem_of_getElem? (i := 203) rfl) rfl
theorem kd_X2_tie : Cond.code yX2_tie cX2_tie 3 none ∈ gj_TB := gj_t3 (List.mem_of_getElem? (i := 207) rfl) rfl
theorem kd_X2_takeTurns : Cond.code yX2_takeTurns cX2_takeTurns 4 none ∈ gj_TB := gj_t3 (List.mem_of_getElem? (i := 211) rfl) rfl
theorem kd_X2_isLeftFor : Cond.code yX2_isLeftFor cX2_isLeftFor 3 (some .boolean) ∈ gj_TB := gj_t3 (List.mem_of_getElem? (i := 215) rfl) rfl
theorem kd_X2_drawLots : Cond.code yX2_drawLots cX2_drawLots 4 none ∈ gj_TB := gj_t3 (List.mem_of_getElem? (i := 219) rfl) rfl
theorem kd_X3_lot : Cond.code yX3_lot cX3_lot 2 (some .int) ∈ gj_TB := gj_t3 (List.mem_of_getElem? (i := 223) rfl) rfl
theorem kd_X2_openOne : Cond.code yX2_openOne cX2_openOne 5 (some .int) ∈ gj_TB := gj_t3 (List.mem_of_getElem? (i := 230) rfl) rfl
theorem kd_X11_may : Cond.code yX11_may cX11_may 3 (some .int) ∈ gj_TB := gj_t3 (List.mem_of_getElem? (i := 234) rfl) rfl
theorem kd_X8_hold : Cond.code yX8_hold cX8_hold 1 none ∈ gj_TB := gj_t3 (List.mem_of_getElem? (i := 239) rfl) rfl
theorem kd_X8_askPaired : Cond.code yX8_askPaired cX8_askPaired 3 none ∈ gj_TB := gj_t4 (List.mem_of_getElem? (i := 3) rfl) rfl
theorem kd_X8_endPairs : Cond.code yX8_endPairs cX8_endPairs 3 none ∈ gj_TB := gj_t4 (List.mem_of_getElem? (i := 11) rfl) rfl
theorem kd_X8_hear : Cond.code yX8_hear cX8_hear 5 none ∈ gj_TB := gj_t4 (List.mem_of_getElem? (i := 15) rfl) rfl
theorem kd_X3_earn : Cond.code yX3_earn cX3_earn 3 none ∈ gj_TB := gj_t4 (List.mem_of_getElem? (i := 21) rfl) rfl
theorem kd_X1_add : Cond.code yX1_add cX1_add 7 none ∈ gj_TB := gj_t4 (List.mem_of_getElem? (i := 27) rfl) rfl
theorem kd_X3_loosen : Cond.code yX3_loosen cX3_loosen 3 none ∈ gj_TB := gj_t4 (List.mem_of_getElem? (i := 32) rfl) rfl
theorem kd_X3_free : Cond.code yX3_free cX3_free 2 none ∈ gj_TB := gj_t4 (List.mem_of_getElem? (i := 36) rfl) rfl
theorem kd_X8_bindNewPairs : Cond.code yX8_bindNewPairs cX8_bindNewPairs 3 none ∈ gj_TB := gj_t4 (List.mem_of_getElem? (i := 43) rfl) rfl
theorem kd_X3_bind : Cond.code yX3_bind cX3_bind 3 none ∈ gj_TB := gj_t4 (List.mem_of_getElem? (i := 47) rfl) rfl
theorem kd_X8_passYear : Cond.code yX8_passYear cX8_passYear 3 none ∈ gj_TB := gj_t4 (List.mem_of_getElem? (i := 51) rfl) rfl
theorem kd_X8_liveTogether : Cond.code yX8_liveTogether cX8_liveTogether 10 none ∈ gj_TB := gj_t4 (List.mem_of_getElem? (i := 55) rfl) rfl
theorem kd_X11_join : Cond.code yX11_join cX11_join 5 (some .boolean) ∈ gj_TB := gj_t4 (List.mem_of_getElem? (i := 63) rfl) rfl
theorem kd_X11_part : Cond.code yX11_part cX11_part 4 (some .boolean) ∈ gj_TB := gj_t4 (List.mem_of_getElem? (i := 68) rfl) rfl
theorem kd_X11_log : Cond.code yX11_log cX11_log 3 (some .int) ∈ gj_TB := gj_t4 (List.mem_of_getElem? (i := 73) rfl) rfl
theorem kd_X1_size : Cond.code yX1_size cX1_size 1 (some .int) ∈ gj_TB := gj_t4 (List.mem_of_getElem? (i := 77) rfl) rfl
theorem kd_X1_tell : Cond.code yX1_tell cX1_tell 3 (some .int) ∈ gj_TB := gj_t4 (List.mem_of_getElem? (i := 81) rfl) rfl
theorem kd_X11_blocks : Cond.code yX11_blocks cX11_blocks 5 (some .int) ∈ gj_TB := gj_t4 (List.mem_of_getElem? (i := 86) rfl) rfl
theorem kd_X2_wouldSooner : Cond.code yX2_wouldSooner cX2_wouldSooner 3 (some .boolean) ∈ gj_TB := gj_t4 (List.mem_of_getElem? (i := 90) rfl) rfl
theorem kd_X2_isBetter : Cond.code yX2_isBetter cX2_isBetter 4 (some .boolean) ∈ gj_TB := gj_t4 (List.mem_of_getElem? (i := 95) rfl) rfl
theorem kd_X11_parents : Cond.code yX11_parents cX11_parents 3 (some .int) ∈ gj_TB := gj_t4 (List.mem_of_getElem? (i := 99) rfl) rfl
theorem kd_X11_life : Cond.code yX11_life cX11_life 4 (some .int) ∈ gj_TB := gj_t4 (List.mem_of_getElem? (i := 104) rfl) rfl
theorem kd_X5_sumOf : Cond.code yX5_sumOf cX5_sumOf 6 (some .int) ∈ gj_TB := gj_t4 (List.mem_of_getElem? (i := 108) rfl) rfl
theorem kd_X11_never : Cond.code yX11_never cX11_never 2 (some .int) ∈ gj_TB := gj_t4 (List.mem_of_getElem? (i := 114) rfl) rfl
theorem kd_X11_neverTried : Cond.code yX11_neverTried cX11_neverTried 4 (some .int) ∈ gj_TB := gj_t4 (List.mem_of_getElem? (i := 118) rfl) rfl
theorem kd_X3_haveTried : Cond.code yX3_haveTried cX3_haveTried 2 (some .boolean) ∈ gj_TB := gj_t4 (List.mem_of_getElem? (i := 122) rfl) rfl
theorem kd_X11_pairs : Cond.code yX11_pairs cX11_pairs 3 (some .int) ∈ gj_TB := gj_t4 (List.mem_of_getElem? (i := 126) rfl) rfl
theorem kd_X3_pairsOf : Cond.code yX3_pairsOf cX3_pairsOf 4 (some .int) ∈ gj_TB := gj_t4 (List.mem_of_getElem? (i := 130) rfl) rfl
theorem kd_X11_image : Cond.code yX11_image cX11_image 3 (some .boolean) ∈ gj_TB := gj_t4 (List.mem_of_getElem? (i := 134) rfl) rfl
theorem kd_X11_pictureAt : Cond.code yX11_pictureAt cX11_pictureAt 2 (some (.object "MayGreen$Life")) ∈ gj_TB := gj_t4 (List.mem_of_getElem? (i := 138) rfl) rfl
theorem kd_X3_copyOf : Cond.code yX3_copyOf cX3_copyOf 2 none ∈ gj_TB := gj_t4 (List.mem_of_getElem? (i := 142) rfl) rfl
theorem kd_X1_copyOf : Cond.code yX1_copyOf cX1_copyOf 2 none ∈ gj_TB := gj_t4 (List.mem_of_getElem? (i := 147) rfl) rfl
theorem kd_X11_on : Cond.code yX11_on cX11_on 3 (some .boolean) ∈ gj_TB := gj_t4 (List.mem_of_getElem? (i := 153) rfl) rfl
theorem kd_X11_status : Cond.code yX11_status cX11_status 2 (some .int) ∈ gj_TB := gj_t4 (List.mem_of_getElem? (i := 158) rfl) rfl
theorem kd_X11_count : Cond.code yX11_count cX11_count 3 (some .int) ∈ gj_TB := gj_t4 (List.mem_of_getElem? (i := 162) rfl) rfl
theorem kd_X12_init : Cond.code yX12_init cX12_init 1 none ∈ gj_TB := gj_t4 (List.mem_of_getElem? (i := 167) rfl) rfl
theorem kd_X12_status : Cond.code yX12_status cX12_status 2 (some .int) ∈ gj_TB := gj_t5 (List.mem_of_getElem? (i := 111) rfl) rfl
theorem kd_X12_in : Cond.code yX12_in cX12_in 6 (some .boolean) ∈ gj_TB := gj_t5 (List.mem_of_getElem? (i := 115) rfl) rfl
theorem kd_X12_feed : Cond.code yX12_feed cX12_feed 6 (some .int) ∈ gj_TB := gj_t5 (List.mem_of_getElem? (i := 119) rfl) rfl
theorem kd_X12_refuse : Cond.code yX12_refuse cX12_refuse 2 (some .int) ∈ gj_TB := gj_t5 (List.mem_of_getElem? (i := 123) rfl) rfl
theorem kd_X12_feeds : Cond.code yX12_feeds cX12_feeds 3 none ∈ gj_TB := gj_t5 (List.mem_of_getElem? (i := 127) rfl) rfl
theorem kd_X12_end : Cond.code yX12_end cX12_end 2 (some .boolean) ∈ gj_TB := gj_t5 (List.mem_of_getElem? (i := 131) rfl) rfl
theorem kd_X12_deny : Cond.code yX12_deny cX12_deny 2 (some .boolean) ∈ gj_TB := gj_t5 (List.mem_of_getElem? (i := 135) rfl) rfl
theorem kd_X12_fault : Cond.code yX12_fault cX12_fault 1 (some .int) ∈ gj_TB := gj_t5 (List.mem_of_getElem? (i := 139) rfl) rfl
theorem kd_X12_reads : Cond.code yX12_reads cX12_reads 3 none ∈ gj_TB := gj_t5 (List.mem_of_getElem? (i := 143) rfl) rfl
theorem kd_X12_next : Cond.code yX12_next cX12_next 1 none ∈ gj_TB := gj_t5 (List.mem_of_getElem? (i := 147) rfl) rfl
theorem kd_X12_between : Cond.code yX12_between cX12_between 4 (some .boolean) ∈ gj_TB := gj_t5 (List.mem_of_getElem? (i := 151) rfl) rfl
theorem kd_X12_line : Cond.code yX12_line cX12_line 2 (some .boolean) ∈ gj_TB := gj_t5 (List.mem_of_getElem? (i := 155) rfl) rfl
theorem kd_X12_wordHere : Cond.code yX12_wordHere cX12_wordHere 4 (some .int) ∈ gj_TB := gj_t5 (List.mem_of_getElem? (i := 159) rfl) rfl
theorem kd_X12_personRead : Cond.code yX12_personRead cX12_personRead 5 (some .boolean) ∈ gj_TB := gj_t5 (List.mem_of_getElem? (i := 165) rfl) rfl
theorem kd_X12_passes : Cond.code yX12_passes cX12_passes 2 (some .boolean) ∈ gj_TB := gj_t5 (List.mem_of_getElem? (i := 169) rfl) rfl
theorem kd_X12_nameHere : Cond.code yX12_nameHere cX12_nameHere 4 (some .long) ∈ gj_TB := gj_t5 (List.mem_of_getElem? (i := 173) rfl) rfl
theorem kd_X12_found : Cond.code yX12_found cX12_found 5 (some .int) ∈ gj_TB := gj_t5 (List.mem_of_getElem? (i := 180) rfl) rfl
theorem kd_X12_into : Cond.code yX12_into cX12_into 6 (some .boolean) ∈ gj_TB := gj_t5 (List.mem_of_getElem? (i := 184) rfl) rfl
theorem kd_X12_closes : Cond.code yX12_closes cX12_closes 1 (some .boolean) ∈ gj_TB := gj_t5 (List.mem_of_getElem? (i := 188) rfl) rfl
theorem kd_X12_thinkRead : Cond.code yX12_thinkRead cX12_thinkRead 4 (some .boolean) ∈ gj_TB := gj_t5 (List.mem_of_getElem? (i := 192) rfl) rfl
theorem kd_X12_coupleOf : Cond.code yX12_coupleOf cX12_coupleOf 2 (some .int) ∈ gj_TB := gj_t5 (List.mem_of_getElem? (i := 195) rfl) rfl
theorem kd_X12_fitRead : Cond.code yX12_fitRead cX12_fitRead 3 (some .boolean) ∈ gj_TB := gj_t5 (List.mem_of_getElem? (i := 199) rfl) rfl
theorem kd_X12_onceRead : Cond.code yX12_onceRead cX12_onceRead 3 (some .boolean) ∈ gj_TB := gj_t5 (List.mem_of_getElem? (i := 204) rfl) rfl
theorem kd_X12_village : Cond.code yX12_village cX12_village 2 (some .int) ∈ gj_TB := gj_t5 (List.mem_of_getElem? (i := 208) rfl) rfl
theorem kd_X12_copies : Cond.code yX12_copies cX12_copies 2 none ∈ gj_TB := gj_t5 (List.mem_of_getElem? (i := 211) rfl) rfl
theorem kd_X12_person : Cond.code yX12_person cX12_person 4 (some .int) ∈ gj_TB := gj_t5 (List.mem_of_getElem? (i := 215) rfl) rfl
theorem kd_X12_who : Cond.code yX12_who cX12_who 3 (some .int) ∈ gj_TB := gj_t5 (List.mem_of_getElem? (i := 219) rfl) rfl
theorem kd_X12_told : Cond.code yX12_told cX12_told 1 (some .int) ∈ gj_TB := gj_t5 (List.mem_of_getElem? (i := 225) rfl) rfl
theorem kd_X12_earned : Cond.code yX12_earned cX12_earned 3 (some .int) ∈ gj_TB := gj_t5 (List.mem_of_getElem? (i := 229) rfl) rfl
theorem kd_X12_two_ : Cond.code yX12_two_ cX12_two_ 7 (some .int) ∈ gj_TB := gj_t5 (List.mem_of_getElem? (i := 233) rfl) rfl
theorem kd_X12_areTwo : Cond.code yX12_areTwo cX12_areTwo 2 (some .boolean) ∈ gj_TB := gj_t5 (List.mem_of_getElem? (i := 236) rfl) rfl
theorem kd_X12_two : Cond.code yX12_two cX12_two 2 (some .int) ∈ gj_TB := gj_t5 (List.mem_of_getElem? (i := 239) rfl) rfl
theorem kd_X12_think : Cond.code yX12_think cX12_think 7 (some .int) ∈ gj_TB := gj_t6 (List.mem_of_getElem? (i := 3) rfl) rfl
theorem kd_X12_shown : Cond.code yX12_shown cX12_shown 6 (some .int) ∈ gj_TB := gj_t6 (List.mem_of_getElem? (i := 7) rfl) rfl
theorem kd_X12_shows : Cond.code yX12_shows cX12_shows 11 (some .int) ∈ gj_TB := gj_t6 (List.mem_of_getElem? (i := 11) rfl) rfl
theorem kd_X12_power : Cond.code yX12_power cX12_power 5 (some .long) ∈ gj_TB := gj_t6 (List.mem_of_getElem? (i := 14) rfl) rfl
theorem kd_X12_liking : Cond.code yX12_liking cX12_liking 5 (some .int) ∈ gj_TB := gj_t6 (List.mem_of_getElem? (i := 20) rfl) rfl
theorem kd_X12_likesNow : Cond.code yX12_likesNow cX12_likesNow 3 (some .int) ∈ gj_TB := gj_t6 (List.mem_of_getElem? (i := 24) rfl) rfl
theorem kd_X12_likes : Cond.code yX12_likes cX12_likes 4 (some .int) ∈ gj_TB := gj_t6 (List.mem_of_getElem? (i := 28) rfl) rfl
theorem kd_X12_sooner : Cond.code yX12_sooner cX12_sooner 7 (some .int) ∈ gj_TB := gj_t6 (List.mem_of_getElem? (i := 32) rfl) rfl
theorem kd_X12_isSooner : Cond.code yX12_isSooner cX12_isSooner 6 (some .boolean) ∈ gj_TB := gj_t6 (List.mem_of_getElem? (i := 36) rfl) rfl
theorem kd_X12_best : Cond.code yX12_best cX12_best 6 (some .int) ∈ gj_TB := gj_t6 (List.mem_of_getElem? (i := 40) rfl) rfl
theorem kd_X12_areMays : Cond.code yX12_areMays cX12_areMays 1 (some .boolean) ∈ gj_TB := gj_t6 (List.mem_of_getElem? (i := 43) rfl) rfl
theorem kd_X12_bestOf : Cond.code yX12_bestOf cX12_bestOf 3 (some .int) ∈ gj_TB := gj_t6 (List.mem_of_getElem? (i := 48) rfl) rfl
theorem kd_X12_lays : Cond.code yX12_lays cX12_lays 5 none ∈ gj_TB := gj_t6 (List.mem_of_getElem? (i := 52) rfl) rfl
theorem kd_X12_mateOf : Cond.code yX12_mateOf cX12_mateOf 2 (some .int) ∈ gj_TB := gj_t6 (List.mem_of_getElem? (i := 56) rfl) rfl
theorem kd_X12_worth : Cond.code yX12_worth cX12_worth 8 (some .int) ∈ gj_TB := gj_t6 (List.mem_of_getElem? (i := 60) rfl) rfl
theorem kd_X12_by : Cond.code yX12_by cX12_by 6 (some .int) ∈ gj_TB := gj_t6 (List.mem_of_getElem? (i := 64) rfl) rfl
theorem kd_X12_with : Cond.code yX12_with cX12_with 11 (some .int) ∈ gj_TB := gj_t6 (List.mem_of_getElem? (i := 68) rfl) rfl
theorem kd_X12_othersMany : Cond.code yX12_othersMany cX12_othersMany 1 (some .int) ∈ gj_TB := gj_t6 (List.mem_of_getElem? (i := 73) rfl) rfl
theorem kd_X12_toldOf : Cond.code yX12_toldOf cX12_toldOf 3 (some .int) ∈ gj_TB := gj_t6 (List.mem_of_getElem? (i := 77) rfl) rfl
theorem kd_X12_act : Cond.code yX12_act cX12_act 6 (some .int) ∈ gj_TB := gj_t6 (List.mem_of_getElem? (i := 81) rfl) rfl
theorem kd_X12_silent : Cond.code yX12_silent cX12_silent 4 (some .int) ∈ gj_TB := gj_t6 (List.mem_of_getElem? (i := 85) rfl) rfl
theorem kd_X12_isSilent : Cond.code yX12_isSilent cX12_isSilent 4 (some .boolean) ∈ gj_TB := gj_t6 (List.mem_of_getElem? (i := 89) rfl) rfl
theorem kd_X12_bar : Cond.code yX12_bar cX12_bar 10 (some .int) ∈ gj_TB := gj_t6 (List.mem_of_getElem? (i := 93) rfl) rfl
theorem kd_X12_price : Cond.code yX12_price cX12_price 6 (some .int) ∈ gj_TB := gj_t6 (List.mem_of_getElem? (i := 98) rfl) rfl
theorem kd_X12_waits : Cond.code yX12_waits cX12_waits 8 (some .int) ∈ gj_TB := gj_t6 (List.mem_of_getElem? (i := 102) rfl) rfl
theorem kd_X12_way : Cond.code yX12_way cX12_way 2 (some .boolean) ∈ gj_TB := gj_t6 (List.mem_of_getElem? (i := 106) rfl) rfl
theorem kd_X12_seed : Cond.code yX12_seed cX12_seed 2 (some .boolean) ∈ gj_TB := gj_t6 (List.mem_of_getElem? (i := 110) rfl) rfl
theorem kd_X12_green : Cond.code yX12_green cX12_green 5 (some .int) ∈ gj_TB := gj_t6 (List.mem_of_getElem? (i := 115) rfl) rfl
theorem kd_X12_goes : Cond.code yX12_goes cX12_goes 3 none ∈ gj_TB := gj_t6 (List.mem_of_getElem? (i := 119) rfl) rfl
theorem kd_X12_asks : Cond.code yX12_asks cX12_asks 8 none ∈ gj_TB := gj_t6 (List.mem_of_getElem? (i := 123) rfl) rfl
theorem kd_X12_both : Cond.code yX12_both cX12_both 3 (some .boolean) ∈ gj_TB := gj_t6 (List.mem_of_getElem? (i := 127) rfl) rfl
theorem kd_X12_would : Cond.code yX12_would cX12_would 3 (some .boolean) ∈ gj_TB := gj_t6 (List.mem_of_getElem? (i := 131) rfl) rfl
theorem kd_X12_gives : Cond.code yX12_gives cX12_gives 3 none ∈ gj_TB := gj_t6 (List.mem_of_getElem? (i := 135) rfl) rfl
theorem kd_X12_inTurn : Cond.code yX12_inTurn cX12_inTurn 4 none ∈ gj_TB := gj_t6 (List.mem_of_getElem? (i := 139) rfl) rfl
theorem kd_X12_byLot : Cond.code yX12_byLot cX12_byLot 5 none ∈ gj_TB := gj_t6 (List.mem_of_getElem? (i := 143) rfl) rfl
theorem kd_X12_lot : Cond.code yX12_lot cX12_lot 2 (some .int) ∈ gj_TB := gj_t6 (List.mem_of_getElem? (i := 147) rfl) rfl
theorem kd_X12_log : Cond.code yX12_log cX12_log 3 (some .int) ∈ gj_TB := gj_t6 (List.mem_of_getElem? (i := 155) rfl) rfl
theorem kd_X12_may_ : Cond.code yX12_may_ cX12_may_ 3 (some .int) ∈ gj_TB := gj_t6 (List.mem_of_getElem? (i := 159) rfl) rfl
theorem kd_X12_may : Cond.code yX12_may cX12_may 2 none ∈ gj_TB := gj_t6 (List.mem_of_getElem? (i := 164) rfl) rfl
theorem kd_X12_asked : Cond.code yX12_asked cX12_asked 3 none ∈ gj_TB := gj_t6 (List.mem_of_getElem? (i := 168) rfl) rfl
theorem kd_X12_notes : Cond.code yX12_notes cX12_notes 5 none ∈ gj_TB := gj_t6 (List.mem_of_getElem? (i := 172) rfl) rfl
theorem kd_X12_parts : Cond.code yX12_parts cX12_parts 2 none ∈ gj_TB := gj_t6 (List.mem_of_getElem? (i := 176) rfl) rfl
theorem kd_X12_joins : Cond.code yX12_joins cX12_joins 3 none ∈ gj_TB := gj_t6 (List.mem_of_getElem? (i := 180) rfl) rfl
theorem kd_X12_lives : Cond.code yX12_lives cX12_lives 6 none ∈ gj_TB := gj_t6 (List.mem_of_getElem? (i := 184) rfl) rfl
theorem kd_X12_join : Cond.code yX12_join cX12_join 5 (some .boolean) ∈ gj_TB := gj_t6 (List.mem_of_getElem? (i := 188) rfl) rfl
theorem kd_X12_part : Cond.code yX12_part cX12_part 3 (some .boolean) ∈ gj_TB := gj_t6 (List.mem_of_getElem? (i := 192) rfl) rfl
theorem kd_X12_blocks : Cond.code yX12_blocks cX12_blocks 5 (some .int) ∈ gj_TB := gj_t6 (List.mem_of_getElem? (i := 196) rfl) rfl
theorem kd_X12_isFree : Cond.code yX12_isFree cX12_isFree 3 (some .boolean) ∈ gj_TB := gj_t6 (List.mem_of_getElem? (i := 200) rfl) rfl
theorem kd_X12_parents : Cond.code yX12_parents cX12_parents 3 (some .int) ∈ gj_TB := gj_t6 (List.mem_of_getElem? (i := 204) rfl) rfl
theorem kd_X12_findsParents : Cond.code yX12_findsParents cX12_findsParents 2 none ∈ gj_TB := gj_t6 (List.mem_of_getElem? (i := 208) rfl) rfl
theorem kd_X12_parentsFrom : Cond.code yX12_parentsFrom cX12_parentsFrom 4 none ∈ gj_TB := gj_t6 (List.mem_of_getElem? (i := 212) rfl) rfl
theorem kd_X12_sumOf : Cond.code yX12_sumOf cX12_sumOf 4 (some .int) ∈ gj_TB := gj_t6 (List.mem_of_getElem? (i := 216) rfl) rfl
theorem kd_X12_truly : Cond.code yX12_truly cX12_truly 4 (some .int) ∈ gj_TB := gj_t6 (List.mem_of_getElem? (i := 220) rfl) rfl
theorem kd_X12_life : Cond.code yX12_life cX12_life 4 (some .int) ∈ gj_TB := gj_t6 (List.mem_of_getElem? (i := 224) rfl) rfl
theorem kd_X12_lifeOf : Cond.code yX12_lifeOf cX12_lifeOf 5 (some .int) ∈ gj_TB := gj_t6 (List.mem_of_getElem? (i := 229) rfl) rfl
theorem kd_X12_never : Cond.code yX12_never cX12_never 4 (some .int) ∈ gj_TB := gj_t6 (List.mem_of_getElem? (i := 234) rfl) rfl
theorem kd_X12_pairs : Cond.code yX12_pairs cX12_pairs 5 (some .int) ∈ gj_TB := gj_t6 (List.mem_of_getElem? (i := 238) rfl) rfl
theorem kd_X12_image : Cond.code yX12_image cX12_image 2 (some .boolean) ∈ gj_TB := gj_t7 (List.mem_of_getElem? (i := 2) rfl) rfl
theorem kd_X12_moves : Cond.code yX12_moves cX12_moves 3 none ∈ gj_TB := gj_t7 (List.mem_of_getElem? (i := 6) rfl) rfl
theorem kd_X12_move : Cond.code yX12_move cX12_move 5 none ∈ gj_TB := gj_t7 (List.mem_of_getElem? (i := 10) rfl) rfl
theorem kd_X12_on : Cond.code yX12_on cX12_on 2 (some .boolean) ∈ gj_TB := gj_t7 (List.mem_of_getElem? (i := 14) rfl) rfl
theorem kd_X12_count : Cond.code yX12_count cX12_count 2 (some .int) ∈ gj_TB := gj_t7 (List.mem_of_getElem? (i := 18) rfl) rfl
theorem ki_X11_init : Cond.instanceMethod yX11_init ∈ gj_TB := gj_t0 (List.mem_of_getElem? (i := 22) rfl) rfl
theorem ki_Obj_init : Cond.instanceMethod Lib.objectInit ∈ gj_TB := gj_t0 (List.mem_of_getElem? (i := 25) rfl) rfl
theorem ki_X9_init : Cond.instanceMethod yX9_init ∈ gj_TB := gj_t0 (List.mem_of_getElem? (i := 30) rfl) rfl
theorem ki_X5_init : Cond.instanceMethod yX5_init ∈ gj_TB := gj_t0 (List.mem_of_getElem? (i := 44) rfl) rfl
theorem ki_X6_init : Cond.instanceMethod yX6_init ∈ gj_TB := gj_t0 (List.mem_of_getElem? (i := 144) rfl) rfl
theorem ki_X3_init : Cond.instanceMethod yX3_init ∈ gj_TB := gj_t0 (List.mem_of_getElem? (i := 183) rfl) rfl
theorem ki_X1_init : Cond.instanceMethod yX1_init ∈ gj_TB := gj_t0 (List.mem_of_getElem? (i := 189) rfl) rfl
theorem ki_X4_init : Cond.instanceMethod yX4_init ∈ gj_TB := gj_t1 (List.mem_of_getElem? (i := 31) rfl) rfl
theorem ki_X2_init : Cond.instanceMethod yX2_init ∈ gj_TB := gj_t1 (List.mem_of_getElem? (i := 71) rfl) rfl
theorem ki_X0_init : Cond.instanceMethod yX0_init ∈ gj_TB := gj_t1 (List.mem_of_getElem? (i := 101) rfl) rfl
theorem ki_X8_init : Cond.instanceMethod yX8_init ∈ gj_TB := gj_t1 (List.mem_of_getElem? (i := 118) rfl) rfl
theorem ki_X11_feed : Cond.instanceMethod yX11_feed ∈ gj_TB := gj_t1 (List.mem_of_getElem? (i := 176) rfl) rfl
theorem ki_X9_hasRoomFor : Cond.instanceMethod yX9_hasRoomFor ∈ gj_TB := gj_t1 (List.mem_of_getElem? (i := 180) rfl) rfl
theorem ki_X11_refuse : Cond.instanceMethod yX11_refuse ∈ gj_TB := gj_t1 (List.mem_of_getElem? (i := 185) rfl) rfl
theorem ki_X9_append : Cond.instanceMethod yX9_append ∈ gj_TB := gj_t1 (List.mem_of_getElem? (i := 194) rfl) rfl
theorem ki_X9_length : Cond.instanceMethod yX9_length ∈ gj_TB := gj_t1 (List.mem_of_getElem? (i := 199) rfl) rfl
theorem ki_X11_end : Cond.instanceMethod yX11_end ∈ gj_TB := gj_t1 (List.mem_of_getElem? (i := 203) rfl) rfl
theorem ki_X9_cutTo : Cond.instanceMethod yX9_cutTo ∈ gj_TB := gj_t1 (List.mem_of_getElem? (i := 207) rfl) rfl
theorem ki_X11_fault : Cond.instanceMethod yX11_fault ∈ gj_TB := gj_t1 (List.mem_of_getElem? (i := 211) rfl) rfl
theorem ki_X6_read : Cond.instanceMethod yX6_read ∈ gj_TB := gj_t1 (List.mem_of_getElem? (i := 215) rfl) rfl
theorem ki_X5_clear : Cond.instanceMethod yX5_clear ∈ gj_TB := gj_t1 (List.mem_of_getElem? (i := 219) rfl) rfl
theorem ki_X6_scan : Cond.instanceMethod yX6_scan ∈ gj_TB := gj_t1 (List.mem_of_getElem? (i := 228) rfl) rfl
theorem ki_X9_byteAt : Cond.instanceMethod yX9_byteAt ∈ gj_TB := gj_t1 (List.mem_of_getElem? (i := 232) rfl) rfl
theorem ki_X6_readLine : Cond.instanceMethod yX6_readLine ∈ gj_TB := gj_t2 (List.mem_of_getElem? (i := 4) rfl) rfl
theorem ki_X6_isWord : Cond.instanceMethod yX6_isWord ∈ gj_TB := gj_t2 (List.mem_of_getElem? (i := 9) rfl) rfl
theorem ki_J0_length_8abf5 : Cond.instanceMethod yJ0_length_8abf5 ∈ gj_TB := gj_t2 (List.mem_of_getElem? (i := 12) rfl) rfl
theorem ki_J0_coder_7d493 : Cond.instanceMethod yJ0_coder_7d493 ∈ gj_TB := gj_t2 (List.mem_of_getElem? (i := 16) rfl) rfl
theorem ki_J0_charAt_5068e : Cond.instanceMethod yJ0_charAt_5068e ∈ gj_TB := gj_t2 (List.mem_of_getElem? (i := 22) rfl) rfl
theorem ki_J0_isLatin1_aae02 : Cond.instanceMethod yJ0_isLatin1_aae02 ∈ gj_TB := gj_t2 (List.mem_of_getElem? (i := 26) rfl) rfl
theorem ki_X6_readPerson : Cond.instanceMethod yX6_readPerson ∈ gj_TB := gj_t2 (List.mem_of_getElem? (i := 61) rfl) rfl
theorem ki_X6_nameHere : Cond.instanceMethod yX6_nameHere ∈ gj_TB := gj_t2 (List.mem_of_getElem? (i := 65) rfl) rfl
theorem ki_X6_isLineWord : Cond.instanceMethod yX6_isLineWord ∈ gj_TB := gj_t2 (List.mem_of_getElem? (i := 70) rfl) rfl
theorem ki_X6_slotNamed : Cond.instanceMethod yX6_slotNamed ∈ gj_TB := gj_t2 (List.mem_of_getElem? (i := 82) rfl) rfl
theorem ki_X5_isPerson : Cond.instanceMethod yX5_isPerson ∈ gj_TB := gj_t2 (List.mem_of_getElem? (i := 85) rfl) rfl
theorem ki_X6_takeNumber : Cond.instanceMethod yX6_takeNumber ∈ gj_TB := gj_t2 (List.mem_of_getElem? (i := 90) rfl) rfl
theorem ki_X6_numberHere : Cond.instanceMethod yX6_numberHere ∈ gj_TB := gj_t2 (List.mem_of_getElem? (i := 94) rfl) rfl
theorem ki_X6_takeStop : Cond.instanceMethod yX6_takeStop ∈ gj_TB := gj_t2 (List.mem_of_getElem? (i := 103) rfl) rfl
theorem ki_X6_readThink : Cond.instanceMethod yX6_readThink ∈ gj_TB := gj_t2 (List.mem_of_getElem? (i := 107) rfl) rfl
theorem ki_X6_readFit : Cond.instanceMethod yX6_readFit ∈ gj_TB := gj_t2 (List.mem_of_getElem? (i := 123) rfl) rfl
theorem ki_X6_readWorth : Cond.instanceMethod yX6_readWorth ∈ gj_TB := gj_t2 (List.mem_of_getElem? (i := 130) rfl) rfl
theorem ki_X6_firstTold : Cond.instanceMethod yX6_firstTold ∈ gj_TB := gj_t2 (List.mem_of_getElem? (i := 134) rfl) rfl
theorem ki_X6_readHouse : Cond.instanceMethod yX6_readHouse ∈ gj_TB := gj_t2 (List.mem_of_getElem? (i := 138) rfl) rfl
theorem ki_X6_readChild : Cond.instanceMethod yX6_readChild ∈ gj_TB := gj_t2 (List.mem_of_getElem? (i := 142) rfl) rfl
theorem ki_X6_readCow : Cond.instanceMethod yX6_readCow ∈ gj_TB := gj_t2 (List.mem_of_getElem? (i := 146) rfl) rfl
theorem ki_X6_readAhead : Cond.instanceMethod yX6_readAhead ∈ gj_TB := gj_t2 (List.mem_of_getElem? (i := 150) rfl) rfl
theorem ki_X5_stands : Cond.instanceMethod yX5_stands ∈ gj_TB := gj_t2 (List.mem_of_getElem? (i := 153) rfl) rfl
theorem ki_X11_village : Cond.instanceMethod yX11_village ∈ gj_TB := gj_t2 (List.mem_of_getElem? (i := 158) rfl) rfl
theorem ki_X5_take : Cond.instanceMethod yX5_take ∈ gj_TB := gj_t2 (List.mem_of_getElem? (i := 162) rfl) rfl
theorem ki_X5_reckonShown : Cond.instanceMethod yX5_reckonShown ∈ gj_TB := gj_t2 (List.mem_of_getElem? (i := 170) rfl) rfl
theorem ki_X5_goodNext : Cond.instanceMethod yX5_goodNext ∈ gj_TB := gj_t2 (List.mem_of_getElem? (i := 174) rfl) rfl
theorem ki_X5_rightAfter : Cond.instanceMethod yX5_rightAfter ∈ gj_TB := gj_t2 (List.mem_of_getElem? (i := 178) rfl) rfl
theorem ki_X5_otherAfter : Cond.instanceMethod yX5_otherAfter ∈ gj_TB := gj_t2 (List.mem_of_getElem? (i := 186) rfl) rfl
theorem ki_X0_choose : Cond.instanceMethod yX0_choose ∈ gj_TB := gj_t2 (List.mem_of_getElem? (i := 192) rfl) rfl
theorem ki_X0_spread : Cond.instanceMethod yX0_spread ∈ gj_TB := gj_t2 (List.mem_of_getElem? (i := 197) rfl) rfl
theorem ki_X5_yearSum : Cond.instanceMethod yX5_yearSum ∈ gj_TB := gj_t2 (List.mem_of_getElem? (i := 204) rfl) rfl
theorem ki_X5_trueYear : Cond.instanceMethod yX5_trueYear ∈ gj_TB := gj_t2 (List.mem_of_getElem? (i := 210) rfl) rfl
theorem ki_X3_begin : Cond.instanceMethod yX3_begin ∈ gj_TB := gj_t2 (List.mem_of_getElem? (i := 215) rfl) rfl
theorem ki_X1_clear : Cond.instanceMethod yX1_clear ∈ gj_TB := gj_t2 (List.mem_of_getElem? (i := 219) rfl) rfl
theorem ki_X11_person : Cond.instanceMethod yX11_person ∈ gj_TB := gj_t2 (List.mem_of_getElem? (i := 224) rfl) rfl
theorem ki_X5_slotOf : Cond.instanceMethod yX5_slotOf ∈ gj_TB := gj_t2 (List.mem_of_getElem? (i := 228) rfl) rfl
theorem ki_X11_earned : Cond.instanceMethod yX11_earned ∈ gj_TB := gj_t2 (List.mem_of_getElem? (i := 236) rfl) rfl
theorem ki_X11_two : Cond.instanceMethod yX11_two ∈ gj_TB := gj_t3 (List.mem_of_getElem? (i := 0) rfl) rfl
theorem ki_X3_arePair : Cond.instanceMethod yX3_arePair ∈ gj_TB := gj_t3 (List.mem_of_getElem? (i := 6) rfl) rfl
theorem ki_X11_think : Cond.instanceMethod yX11_think ∈ gj_TB := gj_t3 (List.mem_of_getElem? (i := 11) rfl) rfl
theorem ki_X11_shown : Cond.instanceMethod yX11_shown ∈ gj_TB := gj_t3 (List.mem_of_getElem? (i := 16) rfl) rfl
theorem ki_X5_shownRight : Cond.instanceMethod yX5_shownRight ∈ gj_TB := gj_t3 (List.mem_of_getElem? (i := 20) rfl) rfl
theorem ki_X5_shownGood : Cond.instanceMethod yX5_shownGood ∈ gj_TB := gj_t3 (List.mem_of_getElem? (i := 24) rfl) rfl
theorem ki_X11_liking : Cond.instanceMethod yX11_liking ∈ gj_TB := gj_t3 (List.mem_of_getElem? (i := 28) rfl) rfl
theorem ki_X2_likingOf : Cond.instanceMethod yX2_likingOf ∈ gj_TB := gj_t3 (List.mem_of_getElem? (i := 32) rfl) rfl
theorem ki_X5_gain : Cond.instanceMethod yX5_gain ∈ gj_TB := gj_t3 (List.mem_of_getElem? (i := 39) rfl) rfl
theorem ki_X11_sooner : Cond.instanceMethod yX11_sooner ∈ gj_TB := gj_t3 (List.mem_of_getElem? (i := 44) rfl) rfl
theorem ki_X2_look : Cond.instanceMethod yX2_look ∈ gj_TB := gj_t3 (List.mem_of_getElem? (i := 48) rfl) rfl
theorem ki_X2_would : Cond.instanceMethod yX2_would ∈ gj_TB := gj_t3 (List.mem_of_getElem? (i := 55) rfl) rfl
theorem ki_X2_likes : Cond.instanceMethod yX2_likes ∈ gj_TB := gj_t3 (List.mem_of_getElem? (i := 59) rfl) rfl
theorem ki_X2_soonerOf : Cond.instanceMethod yX2_soonerOf ∈ gj_TB := gj_t3 (List.mem_of_getElem? (i := 63) rfl) rfl
theorem ki_X11_best : Cond.instanceMethod yX11_best ∈ gj_TB := gj_t3 (List.mem_of_getElem? (i := 67) rfl) rfl
theorem ki_X4_enter : Cond.instanceMethod yX4_enter ∈ gj_TB := gj_t3 (List.mem_of_getElem? (i := 74) rfl) rfl
theorem ki_X4_bestWorth : Cond.instanceMethod yX4_bestWorth ∈ gj_TB := gj_t3 (List.mem_of_getElem? (i := 87) rfl) rfl
theorem ki_X4_worthOf : Cond.instanceMethod yX4_worthOf ∈ gj_TB := gj_t3 (List.mem_of_getElem? (i := 92) rfl) rfl
theorem ki_X4_doing : Cond.instanceMethod yX4_doing ∈ gj_TB := gj_t3 (List.mem_of_getElem? (i := 96) rfl) rfl
theorem ki_X4_isShut : Cond.instanceMethod yX4_isShut ∈ gj_TB := gj_t3 (List.mem_of_getElem? (i := 103) rfl) rfl
theorem ki_X4_bestAct : Cond.instanceMethod yX4_bestAct ∈ gj_TB := gj_t3 (List.mem_of_getElem? (i := 109) rfl) rfl
theorem ki_X11_act : Cond.instanceMethod yX11_act ∈ gj_TB := gj_t3 (List.mem_of_getElem? (i := 114) rfl) rfl
theorem ki_X4_worthOfAct : Cond.instanceMethod yX4_worthOfAct ∈ gj_TB := gj_t3 (List.mem_of_getElem? (i := 119) rfl) rfl
theorem ki_X11_silent : Cond.instanceMethod yX11_silent ∈ gj_TB := gj_t3 (List.mem_of_getElem? (i := 123) rfl) rfl
theorem ki_X4_stays : Cond.instanceMethod yX4_stays ∈ gj_TB := gj_t3 (List.mem_of_getElem? (i := 127) rfl) rfl
theorem ki_X11_bar : Cond.instanceMethod yX11_bar ∈ gj_TB := gj_t3 (List.mem_of_getElem? (i := 132) rfl) rfl
theorem ki_X4_leastGood : Cond.instanceMethod yX4_leastGood ∈ gj_TB := gj_t3 (List.mem_of_getElem? (i := 136) rfl) rfl
theorem ki_X11_price : Cond.instanceMethod yX11_price ∈ gj_TB := gj_t3 (List.mem_of_getElem? (i := 141) rfl) rfl
theorem ki_X4_leastCow : Cond.instanceMethod yX4_leastCow ∈ gj_TB := gj_t3 (List.mem_of_getElem? (i := 145) rfl) rfl
theorem ki_X11_waits : Cond.instanceMethod yX11_waits ∈ gj_TB := gj_t3 (List.mem_of_getElem? (i := 153) rfl) rfl
theorem ki_X4_shutOut : Cond.instanceMethod yX4_shutOut ∈ gj_TB := gj_t3 (List.mem_of_getElem? (i := 158) rfl) rfl
theorem ki_X11_way : Cond.instanceMethod yX11_way ∈ gj_TB := gj_t3 (List.mem_of_getElem? (i := 162) rfl) rfl
theorem ki_X11_seed : Cond.instanceMethod yX11_seed ∈ gj_TB := gj_t3 (List.mem_of_getElem? (i := 166) rfl) rfl
theorem ki_X11_green : Cond.instanceMethod yX11_green ∈ gj_TB := gj_t3 (List.mem_of_getElem? (i := 171) rfl) rfl
theorem ki_X2_gather : Cond.instanceMethod yX2_gather ∈ gj_TB := gj_t3 (List.mem_of_getElem? (i := 175) rfl) rfl
theorem ki_X2_pairUp : Cond.instanceMethod yX2_pairUp ∈ gj_TB := gj_t3 (List.mem_of_getElem? (i := 180) rfl) rfl
theorem ki_X2_askAll : Cond.instanceMethod yX2_askAll ∈ gj_TB := gj_t3 (List.mem_of_getElem? (i := 187) rfl) rfl
theorem ki_X2_soonestToAsk : Cond.instanceMethod yX2_soonestToAsk ∈ gj_TB := gj_t3 (List.mem_of_getElem? (i := 191) rfl) rfl
theorem ki_X2_canMeet : Cond.instanceMethod yX2_canMeet ∈ gj_TB := gj_t3 (List.mem_of_getElem? (i := 196) rfl) rfl
theorem ki_X2_ask : Cond.instanceMethod yX2_ask ∈ gj_TB := gj_t3 (List.mem_of_getElem? (i := 202) rfl) rfl
theorem ki_X2_tie : Cond.instanceMethod yX2_tie ∈ gj_TB := gj_t3 (List.mem_of_getElem? (i := 206) rfl) rfl
theorem ki_X2_takeTurns : Cond.instanceMethod yX2_takeTurns ∈ gj_TB := gj_t3 (List.mem_of_getElem? (i := 210) rfl) rfl
theorem ki_X2_isLeftFor : Cond.instanceMethod yX2_isLeftFor ∈ gj_TB := gj_t3 (List.mem_of_getElem? (i := 214) rfl) rfl
theorem ki_X2_drawLots : Cond.instanceMethod yX2_drawLots ∈ gj_TB := gj_t3 (List.mem_of_getElem? (i := 218) rfl) rfl
theorem ki_X3_lot : Cond.instanceMethod yX3_lot ∈ gj_TB := gj_t3 (List.mem_of_getElem? (i := 221) rfl) rfl
theorem ki_X2_openOne : Cond.instanceMethod yX2_openOne ∈ gj_TB := gj_t3 (List.mem_of_getElem? (i := 229) rfl) rfl
theorem ki_X11_may : Cond.instanceMethod yX11_may ∈ gj_TB := gj_t3 (List.mem_of_getElem? (i := 232) rfl) rfl
theorem ki_X8_hold : Cond.instanceMethod yX8_hold ∈ gj_TB := gj_t3 (List.mem_of_getElem? (i := 237) rfl) rfl
theorem ki_X8_askPaired : Cond.instanceMethod yX8_askPaired ∈ gj_TB := gj_t4 (List.mem_of_getElem? (i := 2) rfl) rfl
theorem ki_X8_endPairs : Cond.instanceMethod yX8_endPairs ∈ gj_TB := gj_t4 (List.mem_of_getElem? (i := 10) rfl) rfl
theorem ki_X8_hear : Cond.instanceMethod yX8_hear ∈ gj_TB := gj_t4 (List.mem_of_getElem? (i := 14) rfl) rfl
theorem ki_X3_earn : Cond.instanceMethod yX3_earn ∈ gj_TB := gj_t4 (List.mem_of_getElem? (i := 19) rfl) rfl
theorem ki_X1_add : Cond.instanceMethod yX1_add ∈ gj_TB := gj_t4 (List.mem_of_getElem? (i := 25) rfl) rfl
theorem ki_X3_loosen : Cond.instanceMethod yX3_loosen ∈ gj_TB := gj_t4 (List.mem_of_getElem? (i := 30) rfl) rfl
theorem ki_X3_free : Cond.instanceMethod yX3_free ∈ gj_TB := gj_t4 (List.mem_of_getElem? (i := 35) rfl) rfl
theorem ki_X8_bindNewPairs : Cond.instanceMethod yX8_bindNewPairs ∈ gj_TB := gj_t4 (List.mem_of_getElem? (i := 42) rfl) rfl
theorem ki_X3_bind : Cond.instanceMethod yX3_bind ∈ gj_TB := gj_t4 (List.mem_of_getElem? (i := 45) rfl) rfl
theorem ki_X8_passYear : Cond.instanceMethod yX8_passYear ∈ gj_TB := gj_t4 (List.mem_of_getElem? (i := 50) rfl) rfl
theorem ki_X8_liveTogether : Cond.instanceMethod yX8_liveTogether ∈ gj_TB := gj_t4 (List.mem_of_getElem? (i := 54) rfl) rfl
theorem ki_X11_join : Cond.instanceMethod yX11_join ∈ gj_TB := gj_t4 (List.mem_of_getElem? (i := 61) rfl) rfl
theorem ki_X11_part : Cond.instanceMethod yX11_part ∈ gj_TB := gj_t4 (List.mem_of_getElem? (i := 66) rfl) rfl
theorem ki_X11_log : Cond.instanceMethod yX11_log ∈ gj_TB := gj_t4 (List.mem_of_getElem? (i := 71) rfl) rfl
theorem ki_X1_size : Cond.instanceMethod yX1_size ∈ gj_TB := gj_t4 (List.mem_of_getElem? (i := 75) rfl) rfl
theorem ki_X1_tell : Cond.instanceMethod yX1_tell ∈ gj_TB := gj_t4 (List.mem_of_getElem? (i := 79) rfl) rfl
theorem ki_X11_blocks : Cond.instanceMethod yX11_blocks ∈ gj_TB := gj_t4 (List.mem_of_getElem? (i := 84) rfl) rfl
theorem ki_X2_wouldSooner : Cond.instanceMethod yX2_wouldSooner ∈ gj_TB := gj_t4 (List.mem_of_getElem? (i := 88) rfl) rfl
theorem ki_X2_isBetter : Cond.instanceMethod yX2_isBetter ∈ gj_TB := gj_t4 (List.mem_of_getElem? (i := 94) rfl) rfl
theorem ki_X11_parents : Cond.instanceMethod yX11_parents ∈ gj_TB := gj_t4 (List.mem_of_getElem? (i := 97) rfl) rfl
theorem ki_X11_life : Cond.instanceMethod yX11_life ∈ gj_TB := gj_t4 (List.mem_of_getElem? (i := 102) rfl) rfl
theorem ki_X5_sumOf : Cond.instanceMethod yX5_sumOf ∈ gj_TB := gj_t4 (List.mem_of_getElem? (i := 106) rfl) rfl
theorem ki_X11_never : Cond.instanceMethod yX11_never ∈ gj_TB := gj_t4 (List.mem_of_getElem? (i := 112) rfl) rfl
theorem ki_X11_neverTried : Cond.instanceMethod yX11_neverTried ∈ gj_TB := gj_t4 (List.mem_of_getElem? (i := 117) rfl) rfl
theorem ki_X3_haveTried : Cond.instanceMethod yX3_haveTried ∈ gj_TB := gj_t4 (List.mem_of_getElem? (i := 120) rfl) rfl
theorem ki_X11_pairs : Cond.instanceMethod yX11_pairs ∈ gj_TB := gj_t4 (List.mem_of_getElem? (i := 124) rfl) rfl
theorem ki_X3_pairsOf : Cond.instanceMethod yX3_pairsOf ∈ gj_TB := gj_t4 (List.mem_of_getElem? (i := 128) rfl) rfl
theorem ki_X11_image : Cond.instanceMethod yX11_image ∈ gj_TB := gj_t4 (List.mem_of_getElem? (i := 132) rfl) rfl
theorem ki_X11_pictureAt : Cond.instanceMethod yX11_pictureAt ∈ gj_TB := gj_t4 (List.mem_of_getElem? (i := 137) rfl) rfl
theorem ki_X3_copyOf : Cond.instanceMethod yX3_copyOf ∈ gj_TB := gj_t4 (List.mem_of_getElem? (i := 140) rfl) rfl
theorem ki_X1_copyOf : Cond.instanceMethod yX1_copyOf ∈ gj_TB := gj_t4 (List.mem_of_getElem? (i := 145) rfl) rfl
theorem ki_X11_on : Cond.instanceMethod yX11_on ∈ gj_TB := gj_t4 (List.mem_of_getElem? (i := 151) rfl) rfl
theorem ki_X11_status : Cond.instanceMethod yX11_status ∈ gj_TB := gj_t4 (List.mem_of_getElem? (i := 156) rfl) rfl
theorem ki_X11_count : Cond.instanceMethod yX11_count ∈ gj_TB := gj_t4 (List.mem_of_getElem? (i := 160) rfl) rfl
theorem ki_X12_init : Cond.instanceMethod yX12_init ∈ gj_TB := gj_t4 (List.mem_of_getElem? (i := 166) rfl) rfl
theorem ki_X12_status : Cond.instanceMethod yX12_status ∈ gj_TB := gj_t5 (List.mem_of_getElem? (i := 109) rfl) rfl
theorem ki_X12_feed : Cond.instanceMethod yX12_feed ∈ gj_TB := gj_t5 (List.mem_of_getElem? (i := 117) rfl) rfl
theorem ki_X12_refuse : Cond.instanceMethod yX12_refuse ∈ gj_TB := gj_t5 (List.mem_of_getElem? (i := 122) rfl) rfl
theorem ki_X12_feeds : Cond.instanceMethod yX12_feeds ∈ gj_TB := gj_t5 (List.mem_of_getElem? (i := 126) rfl) rfl
theorem ki_X12_end : Cond.instanceMethod yX12_end ∈ gj_TB := gj_t5 (List.mem_of_getElem? (i := 129) rfl) rfl
theorem ki_X12_deny : Cond.instanceMethod yX12_deny ∈ gj_TB := gj_t5 (List.mem_of_getElem? (i := 134) rfl) rfl
theorem ki_X12_fault : Cond.instanceMethod yX12_fault ∈ gj_TB := gj_t5 (List.mem_of_getElem? (i := 137) rfl) rfl
theorem ki_X12_reads : Cond.instanceMethod yX12_reads ∈ gj_TB := gj_t5 (List.mem_of_getElem? (i := 142) rfl) rfl
theorem ki_X12_next : Cond.instanceMethod yX12_next ∈ gj_TB := gj_t5 (List.mem_of_getElem? (i := 146) rfl) rfl
theorem ki_X12_between : Cond.instanceMethod yX12_between ∈ gj_TB := gj_t5 (List.mem_of_getElem? (i := 150) rfl) rfl
theorem ki_X12_line : Cond.instanceMethod yX12_line ∈ gj_TB := gj_t5 (List.mem_of_getElem? (i := 154) rfl) rfl
theorem ki_X12_wordHere : Cond.instanceMethod yX12_wordHere ∈ gj_TB := gj_t5 (List.mem_of_getElem? (i := 158) rfl) rfl
theorem ki_X12_personRead : Cond.instanceMethod yX12_personRead ∈ gj_TB := gj_t5 (List.mem_of_getElem? (i := 164) rfl) rfl
theorem ki_X12_passes : Cond.instanceMethod yX12_passes ∈ gj_TB := gj_t5 (List.mem_of_getElem? (i := 168) rfl) rfl
theorem ki_X12_nameHere : Cond.instanceMethod yX12_nameHere ∈ gj_TB := gj_t5 (List.mem_of_getElem? (i := 172) rfl) rfl
theorem ki_X12_found : Cond.instanceMethod yX12_found ∈ gj_TB := gj_t5 (List.mem_of_getElem? (i := 179) rfl) rfl
theorem ki_X12_into : Cond.instanceMethod yX12_into ∈ gj_TB := gj_t5 (List.mem_of_getElem? (i := 183) rfl) rfl
theorem ki_X12_closes : Cond.instanceMethod yX12_closes ∈ gj_TB := gj_t5 (List.mem_of_getElem? (i := 187) rfl) rfl
theorem ki_X12_thinkRead : Cond.instanceMethod yX12_thinkRead ∈ gj_TB := gj_t5 (List.mem_of_getElem? (i := 191) rfl) rfl
theorem ki_X12_fitRead : Cond.instanceMethod yX12_fitRead ∈ gj_TB := gj_t5 (List.mem_of_getElem? (i := 198) rfl) rfl
theorem ki_X12_onceRead : Cond.instanceMethod yX12_onceRead ∈ gj_TB := gj_t5 (List.mem_of_getElem? (i := 203) rfl) rfl
theorem ki_X12_village : Cond.instanceMethod yX12_village ∈ gj_TB := gj_t5 (List.mem_of_getElem? (i := 206) rfl) rfl
theorem ki_X12_person : Cond.instanceMethod yX12_person ∈ gj_TB := gj_t5 (List.mem_of_getElem? (i := 213) rfl) rfl
theorem ki_X12_who : Cond.instanceMethod yX12_who ∈ gj_TB := gj_t5 (List.mem_of_getElem? (i := 218) rfl) rfl
theorem ki_X12_earned : Cond.instanceMethod yX12_earned ∈ gj_TB := gj_t5 (List.mem_of_getElem? (i := 227) rfl) rfl
theorem ki_X12_two_ : Cond.instanceMethod yX12_two_ ∈ gj_TB := gj_t5 (List.mem_of_getElem? (i := 231) rfl) rfl
theorem ki_X12_think : Cond.instanceMethod yX12_think ∈ gj_TB := gj_t6 (List.mem_of_getElem? (i := 1) rfl) rfl
theorem ki_X12_shown : Cond.instanceMethod yX12_shown ∈ gj_TB := gj_t6 (List.mem_of_getElem? (i := 5) rfl) rfl
theorem ki_X12_shows : Cond.instanceMethod yX12_shows ∈ gj_TB := gj_t6 (List.mem_of_getElem? (i := 10) rfl) rfl
theorem ki_X12_liking : Cond.instanceMethod yX12_liking ∈ gj_TB := gj_t6 (List.mem_of_getElem? (i := 18) rfl) rfl
theorem ki_X12_likesNow : Cond.instanceMethod yX12_likesNow ∈ gj_TB := gj_t6 (List.mem_of_getElem? (i := 23) rfl) rfl
theorem ki_X12_likes : Cond.instanceMethod yX12_likes ∈ gj_TB := gj_t6 (List.mem_of_getElem? (i := 27) rfl) rfl
theorem ki_X12_sooner : Cond.instanceMethod yX12_sooner ∈ gj_TB := gj_t6 (List.mem_of_getElem? (i := 30) rfl) rfl
theorem ki_X12_isSooner : Cond.instanceMethod yX12_isSooner ∈ gj_TB := gj_t6 (List.mem_of_getElem? (i := 35) rfl) rfl
theorem ki_X12_best : Cond.instanceMethod yX12_best ∈ gj_TB := gj_t6 (List.mem_of_getElem? (i := 38) rfl) rfl
theorem ki_X12_bestOf : Cond.instanceMethod yX12_bestOf ∈ gj_TB := gj_t6 (List.mem_of_getElem? (i := 47) rfl) rfl
theorem ki_X12_lays : Cond.instanceMethod yX12_lays ∈ gj_TB := gj_t6 (List.mem_of_getElem? (i := 51) rfl) rfl
theorem ki_X12_mateOf : Cond.instanceMethod yX12_mateOf ∈ gj_TB := gj_t6 (List.mem_of_getElem? (i := 55) rfl) rfl
theorem ki_X12_worth : Cond.instanceMethod yX12_worth ∈ gj_TB := gj_t6 (List.mem_of_getElem? (i := 59) rfl) rfl
theorem ki_X12_by : Cond.instanceMethod yX12_by ∈ gj_TB := gj_t6 (List.mem_of_getElem? (i := 63) rfl) rfl
theorem ki_X12_with : Cond.instanceMethod yX12_with ∈ gj_TB := gj_t6 (List.mem_of_getElem? (i := 67) rfl) rfl
theorem ki_X12_othersMany : Cond.instanceMethod yX12_othersMany ∈ gj_TB := gj_t6 (List.mem_of_getElem? (i := 72) rfl) rfl
theorem ki_X12_toldOf : Cond.instanceMethod yX12_toldOf ∈ gj_TB := gj_t6 (List.mem_of_getElem? (i := 76) rfl) rfl
theorem ki_X12_act : Cond.instanceMethod yX12_act ∈ gj_TB := gj_t6 (List.mem_of_getElem? (i := 79) rfl) rfl
theorem ki_X12_silent : Cond.instanceMethod yX12_silent ∈ gj_TB := gj_t6 (List.mem_of_getElem? (i := 83) rfl) rfl
theorem ki_X12_isSilent : Cond.instanceMethod yX12_isSilent ∈ gj_TB := gj_t6 (List.mem_of_getElem? (i := 88) rfl) rfl
theorem ki_X12_bar : Cond.instanceMethod yX12_bar ∈ gj_TB := gj_t6 (List.mem_of_getElem? (i := 91) rfl) rfl
theorem ki_X12_price : Cond.instanceMethod yX12_price ∈ gj_TB := gj_t6 (List.mem_of_getElem? (i := 96) rfl) rfl
theorem ki_X12_waits : Cond.instanceMethod yX12_waits ∈ gj_TB := gj_t6 (List.mem_of_getElem? (i := 100) rfl) rfl
theorem ki_X12_way : Cond.instanceMethod yX12_way ∈ gj_TB := gj_t6 (List.mem_of_getElem? (i := 104) rfl) rfl
theorem ki_X12_seed : Cond.instanceMethod yX12_seed ∈ gj_TB := gj_t6 (List.mem_of_getElem? (i := 108) rfl) rfl
theorem ki_X12_green : Cond.instanceMethod yX12_green ∈ gj_TB := gj_t6 (List.mem_of_getElem? (i := 113) rfl) rfl
theorem ki_X12_goes : Cond.instanceMethod yX12_goes ∈ gj_TB := gj_t6 (List.mem_of_getElem? (i := 118) rfl) rfl
theorem ki_X12_asks : Cond.instanceMethod yX12_asks ∈ gj_TB := gj_t6 (List.mem_of_getElem? (i := 122) rfl) rfl
theorem ki_X12_both : Cond.instanceMethod yX12_both ∈ gj_TB := gj_t6 (List.mem_of_getElem? (i := 126) rfl) rfl
theorem ki_X12_would : Cond.instanceMethod yX12_would ∈ gj_TB := gj_t6 (List.mem_of_getElem? (i := 130) rfl) rfl
theorem ki_X12_gives : Cond.instanceMethod yX12_gives ∈ gj_TB := gj_t6 (List.mem_of_getElem? (i := 134) rfl) rfl
theorem ki_X12_inTurn : Cond.instanceMethod yX12_inTurn ∈ gj_TB := gj_t6 (List.mem_of_getElem? (i := 138) rfl) rfl
theorem ki_X12_byLot : Cond.instanceMethod yX12_byLot ∈ gj_TB := gj_t6 (List.mem_of_getElem? (i := 142) rfl) rfl
theorem ki_X12_lot : Cond.instanceMethod yX12_lot ∈ gj_TB := gj_t6 (List.mem_of_getElem? (i := 146) rfl) rfl
theorem ki_X12_log : Cond.instanceMethod yX12_log ∈ gj_TB := gj_t6 (List.mem_of_getElem? (i := 153) rfl) rfl
theorem ki_X12_may_ : Cond.instanceMethod yX12_may_ ∈ gj_TB := gj_t6 (List.mem_of_getElem? (i := 157) rfl) rfl
theorem ki_X12_may : Cond.instanceMethod yX12_may ∈ gj_TB := gj_t6 (List.mem_of_getElem? (i := 163) rfl) rfl
theorem ki_X12_asked : Cond.instanceMethod yX12_asked ∈ gj_TB := gj_t6 (List.mem_of_getElem? (i := 167) rfl) rfl
theorem ki_X12_notes : Cond.instanceMethod yX12_notes ∈ gj_TB := gj_t6 (List.mem_of_getElem? (i := 171) rfl) rfl
theorem ki_X12_parts : Cond.instanceMethod yX12_parts ∈ gj_TB := gj_t6 (List.mem_of_getElem? (i := 175) rfl) rfl
theorem ki_X12_joins : Cond.instanceMethod yX12_joins ∈ gj_TB := gj_t6 (List.mem_of_getElem? (i := 179) rfl) rfl
theorem ki_X12_lives : Cond.instanceMethod yX12_lives ∈ gj_TB := gj_t6 (List.mem_of_getElem? (i := 183) rfl) rfl
theorem ki_X12_join : Cond.instanceMethod yX12_join ∈ gj_TB := gj_t6 (List.mem_of_getElem? (i := 186) rfl) rfl
theorem ki_X12_part : Cond.instanceMethod yX12_part ∈ gj_TB := gj_t6 (List.mem_of_getElem? (i := 190) rfl) rfl
theorem ki_X12_blocks : Cond.instanceMethod yX12_blocks ∈ gj_TB := gj_t6 (List.mem_of_getElem? (i := 194) rfl) rfl
theorem ki_X12_isFree : Cond.instanceMethod yX12_isFree ∈ gj_TB := gj_t6 (List.mem_of_getElem? (i := 199) rfl) rfl
theorem ki_X12_parents : Cond.instanceMethod yX12_parents ∈ gj_TB := gj_t6 (List.mem_of_getElem? (i := 202) rfl) rfl
theorem ki_X12_findsParents : Cond.instanceMethod yX12_findsParents ∈ gj_TB := gj_t6 (List.mem_of_getElem? (i := 207) rfl) rfl
theorem ki_X12_parentsFrom : Cond.instanceMethod yX12_parentsFrom ∈ gj_TB := gj_t6 (List.mem_of_getElem? (i := 211) rfl) rfl
theorem ki_X12_sumOf : Cond.instanceMethod yX12_sumOf ∈ gj_TB := gj_t6 (List.mem_of_getElem? (i := 215) rfl) rfl
theorem ki_X12_truly : Cond.instanceMethod yX12_truly ∈ gj_TB := gj_t6 (List.mem_of_getElem? (i := 219) rfl) rfl
theorem ki_X12_life : Cond.instanceMethod yX12_life ∈ gj_TB := gj_t6 (List.mem_of_getElem? (i := 222) rfl) rfl
theorem ki_X12_lifeOf : Cond.instanceMethod yX12_lifeOf ∈ gj_TB := gj_t6 (List.mem_of_getElem? (i := 228) rfl) rfl
theorem ki_X12_never : Cond.instanceMethod yX12_never ∈ gj_TB := gj_t6 (List.mem_of_getElem? (i := 232) rfl) rfl
theorem ki_X12_pairs : Cond.instanceMethod yX12_pairs ∈ gj_TB := gj_t6 (List.mem_of_getElem? (i := 236) rfl) rfl
theorem ki_X12_image : Cond.instanceMethod yX12_image ∈ gj_TB := gj_t7 (List.mem_of_getElem? (i := 0) rfl) rfl
theorem ki_X12_moves : Cond.instanceMethod yX12_moves ∈ gj_TB := gj_t7 (List.mem_of_getElem? (i := 5) rfl) rfl
theorem ki_X12_move : Cond.instanceMethod yX12_move ∈ gj_TB := gj_t7 (List.mem_of_getElem? (i := 9) rfl) rfl
theorem ki_X12_on : Cond.instanceMethod yX12_on ∈ gj_TB := gj_t7 (List.mem_of_getElem? (i := 12) rfl) rfl
theorem ki_X12_count : Cond.instanceMethod yX12_count ∈ gj_TB := gj_t7 (List.mem_of_getElem? (i := 16) rfl) rfl
theorem kt_X7_fill : Cond.static yX7_fill ∈ gj_TB := gj_t0 (List.mem_of_getElem? (i := 203) rfl) rfl
theorem kt_X7_at : Cond.static yX7_at ∈ gj_TB := gj_t1 (List.mem_of_getElem? (i := 188) rfl) rfl
theorem kt_X7_put : Cond.static yX7_put ∈ gj_TB := gj_t1 (List.mem_of_getElem? (i := 191) rfl) rfl
theorem kt_X7_unmark : Cond.static yX7_unmark ∈ gj_TB := gj_t1 (List.mem_of_getElem? (i := 224) rfl) rfl
theorem kt_X6_isBlank : Cond.static yX6_isBlank ∈ gj_TB := gj_t1 (List.mem_of_getElem? (i := 237) rfl) rfl
theorem kt_X6_kindOf : Cond.static yX6_kindOf ∈ gj_TB := gj_t2 (List.mem_of_getElem? (i := 0) rfl) rfl
theorem kt_J1_charAt_3b067 : Cond.static yJ1_charAt_3b067 ∈ gj_TB := gj_t2 (List.mem_of_getElem? (i := 30) rfl) rfl
theorem kt_J0_checkIndex_df160 : Cond.static yJ0_checkIndex_df160 ∈ gj_TB := gj_t2 (List.mem_of_getElem? (i := 33) rfl) rfl
theorem kt_J3_checkIndex_8e157 : Cond.static yJ3_checkIndex_8e157 ∈ gj_TB := gj_t2 (List.mem_of_getElem? (i := 38) rfl) rfl
theorem kt_J2_charAt_3b067 : Cond.static yJ2_charAt_3b067 ∈ gj_TB := gj_t2 (List.mem_of_getElem? (i := 41) rfl) rfl
theorem kt_J2_checkIndex_2214a : Cond.static yJ2_checkIndex_2214a ∈ gj_TB := gj_t2 (List.mem_of_getElem? (i := 44) rfl) rfl
theorem kt_J2_length_9d52b : Cond.static yJ2_length_9d52b ∈ gj_TB := gj_t2 (List.mem_of_getElem? (i := 47) rfl) rfl
theorem kt_J2_getChar_3b067 : Cond.static yJ2_getChar_3b067 ∈ gj_TB := gj_t2 (List.mem_of_getElem? (i := 51) rfl) rfl
theorem kt_J9_min_7cf53 : Cond.static yJ9_min_7cf53 ∈ gj_TB := gj_t2 (List.mem_of_getElem? (i := 98) rfl) rfl
theorem kt_X10_unlike : Cond.static yX10_unlike ∈ gj_TB := gj_t2 (List.mem_of_getElem? (i := 110) rfl) rfl
theorem kt_X10_view : Cond.static yX10_view ∈ gj_TB := gj_t2 (List.mem_of_getElem? (i := 113) rfl) rfl
theorem kt_X7_is : Cond.static yX7_is ∈ gj_TB := gj_t2 (List.mem_of_getElem? (i := 116) rfl) rfl
theorem kt_X7_mark : Cond.static yX7_mark ∈ gj_TB := gj_t2 (List.mem_of_getElem? (i := 119) rfl) rfl
theorem kt_X10_couple : Cond.static yX10_couple ∈ gj_TB := gj_t2 (List.mem_of_getElem? (i := 126) rfl) rfl
theorem kt_X7_copy : Cond.static yX7_copy ∈ gj_TB := gj_t2 (List.mem_of_getElem? (i := 166) rfl) rfl
theorem kt_X5_oddsOf : Cond.static yX5_oddsOf ∈ gj_TB := gj_t2 (List.mem_of_getElem? (i := 182) rfl) rfl
theorem kt_X10_numberOf : Cond.static yX10_numberOf ∈ gj_TB := gj_t2 (List.mem_of_getElem? (i := 233) rfl) rfl
theorem kt_X11_canReckon : Cond.static yX11_canReckon ∈ gj_TB := gj_t3 (List.mem_of_getElem? (i := 71) rfl) rfl
theorem kt_X10_facing : Cond.static yX10_facing ∈ gj_TB := gj_t3 (List.mem_of_getElem? (i := 78) rfl) rfl
theorem kt_X10_placeOf : Cond.static yX10_placeOf ∈ gj_TB := gj_t3 (List.mem_of_getElem? (i := 84) rfl) rfl
theorem kt_J9_max_f86c9 : Cond.static yJ9_max_f86c9 ∈ gj_TB := gj_t3 (List.mem_of_getElem? (i := 106) rfl) rfl
theorem kt_J9_max_7cf53 : Cond.static yJ9_max_7cf53 ∈ gj_TB := gj_t3 (List.mem_of_getElem? (i := 149) rfl) rfl
theorem kt_X12_in : Cond.static yX12_in ∈ gj_TB := gj_t5 (List.mem_of_getElem? (i := 114) rfl) rfl
theorem kt_X12_coupleOf : Cond.static yX12_coupleOf ∈ gj_TB := gj_t5 (List.mem_of_getElem? (i := 194) rfl) rfl
theorem kt_X12_copies : Cond.static yX12_copies ∈ gj_TB := gj_t5 (List.mem_of_getElem? (i := 210) rfl) rfl
theorem kt_X12_told : Cond.static yX12_told ∈ gj_TB := gj_t5 (List.mem_of_getElem? (i := 224) rfl) rfl
theorem kt_X12_areTwo : Cond.static yX12_areTwo ∈ gj_TB := gj_t5 (List.mem_of_getElem? (i := 235) rfl) rfl
theorem kt_X12_two : Cond.static yX12_two ∈ gj_TB := gj_t5 (List.mem_of_getElem? (i := 238) rfl) rfl
theorem kt_X12_power : Cond.static yX12_power ∈ gj_TB := gj_t6 (List.mem_of_getElem? (i := 13) rfl) rfl
theorem kt_X12_areMays : Cond.static yX12_areMays ∈ gj_TB := gj_t6 (List.mem_of_getElem? (i := 42) rfl) rfl
theorem ks_X2_askAll : Cond.selects yX2_askAll.cls yX2_askAll yX2_askAll ∈ gj_TB := gj_p1 (q := (yX2_askAll, 7)) (List.mem_of_getElem? (i := 14) rfl)
theorem ks_X12_think : Cond.selects yX12_think.cls yX12_think yX12_think ∈ gj_TB := gj_t6 (List.mem_of_getElem? (i := 2) rfl) rfl
theorem ks_X12_village : Cond.selects yX12_village.cls yX12_village yX12_village ∈ gj_TB := gj_t5 (List.mem_of_getElem? (i := 207) rfl) rfl
theorem ks_J0_isLatin1_aae02 : Cond.selects yJ0_isLatin1_aae02.cls yJ0_isLatin1_aae02 yJ0_isLatin1_aae02 ∈ gj_TB := gj_t2 (List.mem_of_getElem? (i := 27) rfl) rfl
theorem ks_X1_tell : Cond.selects yX1_tell.cls yX1_tell yX1_tell ∈ gj_TB := gj_t4 (List.mem_of_getElem? (i := 80) rfl) rfl
theorem ks_X6_nameHere : Cond.selects yX6_nameHere.cls yX6_nameHere yX6_nameHere ∈ gj_TB := gj_p0 (q := (yX6_nameHere, 10)) (List.mem_of_getElem? (i := 5) rfl)
theorem ks_X2_openOne : Cond.selects yX2_openOne.cls yX2_openOne yX2_openOne ∈ gj_TB := gj_p2 (q := (yX2_openOne, 7)) (List.mem_of_getElem? (i := 6) rfl)
theorem ks_X8_hear : Cond.selects yX8_hear.cls yX8_hear yX8_hear ∈ gj_TB := gj_p2 (q := (yX8_hear, 5)) (List.mem_of_getElem? (i := 9) rfl)
theorem ks_X5_shownGood : Cond.selects yX5_shownGood.cls yX5_shownGood yX5_shownGood ∈ gj_TB := gj_t3 (List.mem_of_getElem? (i := 25) rfl) rfl
theorem ks_X11_blocks : Cond.selects yX11_blocks.cls yX11_blocks yX11_blocks ∈ gj_TB := gj_t4 (List.mem_of_getElem? (i := 85) rfl) rfl
theorem ks_X12_shows : Cond.selects yX12_shows.cls yX12_shows yX12_shows ∈ gj_TB := gj_p4 (q := (yX12_shows, 55)) (List.mem_of_getElem? (i := 3) rfl)
theorem ks_X12_isFree : Cond.selects yX12_isFree.cls yX12_isFree yX12_isFree ∈ gj_TB := gj_p5 (q := (yX12_isFree, 55)) (List.mem_of_getElem? (i := 14) rfl)
theorem ks_X12_two_ : Cond.selects yX12_two_.cls yX12_two_ yX12_two_ ∈ gj_TB := gj_t5 (List.mem_of_getElem? (i := 232) rfl) rfl
theorem ks_X11_liking : Cond.selects yX11_liking.cls yX11_liking yX11_liking ∈ gj_TB := gj_t3 (List.mem_of_getElem? (i := 29) rfl) rfl
theorem ks_X12_fault : Cond.selects yX12_fault.cls yX12_fault yX12_fault ∈ gj_TB := gj_t5 (List.mem_of_getElem? (i := 138) rfl) rfl
theorem ks_X12_seed : Cond.selects yX12_seed.cls yX12_seed yX12_seed ∈ gj_TB := gj_t6 (List.mem_of_getElem? (i := 109) rfl) rfl
theorem ks_X4_bestWorth : Cond.selects yX4_bestWorth.cls yX4_bestWorth yX4_bestWorth ∈ gj_TB := gj_t3 (List.mem_of_getElem? (i := 88) rfl) rfl
theorem ks_X5_reckonShown : Cond.selects yX5_reckonShown.cls yX5_reckonShown yX5_reckonShown ∈ gj_TB := gj_p1 (q := (yX5_reckonShown, 16)) (List.mem_of_getElem? (i := 3) rfl)
theorem ks_X12_status : Cond.selects yX12_status.cls yX12_status yX12_status ∈ gj_TB := gj_t5 (List.mem_of_getElem? (i := 110) rfl) rfl
theorem ks_X11_best : Cond.selects yX11_best.cls yX11_best yX11_best ∈ gj_TB := gj_t3 (List.mem_of_getElem? (i := 68) rfl) rfl
theorem ks_X12_would : Cond.selects yX12_would.cls yX12_would yX12_would ∈ gj_TB := gj_p5 (q := (yX12_would, 55)) (List.mem_of_getElem? (i := 3) rfl)
theorem ks_X1_copyOf : Cond.selects yX1_copyOf.cls yX1_copyOf yX1_copyOf ∈ gj_TB := gj_t4 (List.mem_of_getElem? (i := 146) rfl) rfl
theorem ks_X6_readChild : Cond.selects yX6_readChild.cls yX6_readChild yX6_readChild ∈ gj_TB := gj_p1 (q := (yX6_readChild, 10)) (List.mem_of_getElem? (i := 0) rfl)
theorem ks_X2_tie : Cond.selects yX2_tie.cls yX2_tie yX2_tie ∈ gj_TB := gj_p2 (q := (yX2_tie, 7)) (List.mem_of_getElem? (i := 2) rfl)
theorem ks_X5_gain : Cond.selects yX5_gain.cls yX5_gain yX5_gain ∈ gj_TB := gj_t3 (List.mem_of_getElem? (i := 40) rfl) rfl
theorem ks_X11_parents : Cond.selects yX11_parents.cls yX11_parents yX11_parents ∈ gj_TB := gj_t4 (List.mem_of_getElem? (i := 98) rfl) rfl
theorem ks_X5_sumOf : Cond.selects yX5_sumOf.cls yX5_sumOf yX5_sumOf ∈ gj_TB := gj_t4 (List.mem_of_getElem? (i := 107) rfl) rfl
theorem ks_X6_readAhead : Cond.selects yX6_readAhead.cls yX6_readAhead yX6_readAhead ∈ gj_TB := gj_p1 (q := (yX6_readAhead, 10)) (List.mem_of_getElem? (i := 2) rfl)
theorem ks_J0_length_8abf5 : Cond.selects yJ0_length_8abf5.cls yJ0_length_8abf5 yJ0_length_8abf5 ∈ gj_TB := gj_t2 (List.mem_of_getElem? (i := 13) rfl) rfl
theorem ks_X12_on : Cond.selects yX12_on.cls yX12_on yX12_on ∈ gj_TB := gj_t7 (List.mem_of_getElem? (i := 13) rfl) rfl
theorem ks_X3_begin : Cond.selects yX3_begin.cls yX3_begin yX3_begin ∈ gj_TB := gj_t2 (List.mem_of_getElem? (i := 216) rfl) rfl
theorem ks_X12_inTurn : Cond.selects yX12_inTurn.cls yX12_inTurn yX12_inTurn ∈ gj_TB := gj_p5 (q := (yX12_inTurn, 55)) (List.mem_of_getElem? (i := 5) rfl)
theorem ks_X11_fault : Cond.selects yX11_fault.cls yX11_fault yX11_fault ∈ gj_TB := gj_t1 (List.mem_of_getElem? (i := 212) rfl) rfl
theorem ks_X11_earned : Cond.selects yX11_earned.cls yX11_earned yX11_earned ∈ gj_TB := gj_t2 (List.mem_of_getElem? (i := 237) rfl) rfl
theorem ks_X12_image : Cond.selects yX12_image.cls yX12_image yX12_image ∈ gj_TB := gj_t7 (List.mem_of_getElem? (i := 1) rfl) rfl
theorem ks_X2_gather : Cond.selects yX2_gather.cls yX2_gather yX2_gather ∈ gj_TB := gj_t3 (List.mem_of_getElem? (i := 176) rfl) rfl
theorem ks_X12_waits : Cond.selects yX12_waits.cls yX12_waits yX12_waits ∈ gj_TB := gj_t6 (List.mem_of_getElem? (i := 101) rfl) rfl
theorem ks_X4_leastCow : Cond.selects yX4_leastCow.cls yX4_leastCow yX4_leastCow ∈ gj_TB := gj_t3 (List.mem_of_getElem? (i := 146) rfl) rfl
theorem ks_X4_shutOut : Cond.selects yX4_shutOut.cls yX4_shutOut yX4_shutOut ∈ gj_TB := gj_t3 (List.mem_of_getElem? (i := 159) rfl) rfl
theorem ks_X12_truly : Cond.selects yX12_truly.cls yX12_truly yX12_truly ∈ gj_TB := gj_p6 (q := (yX12_truly, 55)) (List.mem_of_getElem? (i := 2) rfl)
theorem ks_X12_parents : Cond.selects yX12_parents.cls yX12_parents yX12_parents ∈ gj_TB := gj_t6 (List.mem_of_getElem? (i := 203) rfl) rfl
theorem ks_X1_clear : Cond.selects yX1_clear.cls yX1_clear yX1_clear ∈ gj_TB := gj_t2 (List.mem_of_getElem? (i := 220) rfl) rfl
theorem ks_X12_personRead : Cond.selects yX12_personRead.cls yX12_personRead yX12_personRead ∈ gj_TB := gj_p3 (q := (yX12_personRead, 55)) (List.mem_of_getElem? (i := 9) rfl)
theorem ks_X12_likes : Cond.selects yX12_likes.cls yX12_likes yX12_likes ∈ gj_TB := gj_p4 (q := (yX12_likes, 55)) (List.mem_of_getElem? (i := 5) rfl)
theorem ks_X11_act : Cond.selects yX11_act.cls yX11_act yX11_act ∈ gj_TB := gj_t3 (List.mem_of_getElem? (i := 115) rfl) rfl
theorem ks_X12_shown : Cond.selects yX12_shown.cls yX12_shown yX12_shown ∈ gj_TB := gj_t6 (List.mem_of_getElem? (i := 6) rfl) rfl
theorem ks_X5_rightAfter : Cond.selects yX5_rightAfter.cls yX5_rightAfter yX5_rightAfter ∈ gj_TB := gj_p1 (q := (yX5_rightAfter, 16)) (List.mem_of_getElem? (i := 5) rfl)
theorem ks_X4_doing : Cond.selects yX4_doing.cls yX4_doing yX4_doing ∈ gj_TB := gj_p1 (q := (yX4_doing, 11)) (List.mem_of_getElem? (i := 12) rfl)
theorem ks_X12_byLot : Cond.selects yX12_byLot.cls yX12_byLot yX12_byLot ∈ gj_TB := gj_p5 (q := (yX12_byLot, 55)) (List.mem_of_getElem? (i := 6) rfl)
theorem ks_X12_asked : Cond.selects yX12_asked.cls yX12_asked yX12_asked ∈ gj_TB := gj_p5 (q := (yX12_asked, 55)) (List.mem_of_getElem? (i := 9) rfl)
theorem ks_X11_green : Cond.selects yX11_green.cls yX11_green yX11_green ∈ gj_TB := gj_t3 (List.mem_of_getElem? (i := 172) rfl) rfl
theorem ks_X3_bind : Cond.selects yX3_bind.cls yX3_bind yX3_bind ∈ gj_TB := gj_t4 (List.mem_of_getElem? (i := 46) rfl) rfl
theorem ks_X12_asks : Cond.selects yX12_asks.cls yX12_asks yX12_asks ∈ gj_TB := gj_p5 (q := (yX12_asks, 55)) (List.mem_of_getElem? (i := 1) rfl)
theorem ks_X12_count : Cond.selects yX12_count.cls yX12_count yX12_count ∈ gj_TB := gj_t7 (List.mem_of_getElem? (i := 17) rfl) rfl
theorem ks_X5_yearSum : Cond.selects yX5_yearSum.cls yX5_yearSum yX5_yearSum ∈ gj_TB := gj_t2 (List.mem_of_getElem? (i := 205) rfl) rfl
theorem ks_X4_worthOfAct : Cond.selects yX4_worthOfAct.cls yX4_worthOfAct yX4_worthOfAct ∈ gj_TB := gj_t3 (List.mem_of_getElem? (i := 120) rfl) rfl
theorem ks_X11_count : Cond.selects yX11_count.cls yX11_count yX11_count ∈ gj_TB := gj_t4 (List.mem_of_getElem? (i := 161) rfl) rfl
theorem ks_X12_othersMany : Cond.selects yX12_othersMany.cls yX12_othersMany yX12_othersMany ∈ gj_TB := gj_p4 (q := (yX12_othersMany, 55)) (List.mem_of_getElem? (i := 13) rfl)
theorem ks_X11_part : Cond.selects yX11_part.cls yX11_part yX11_part ∈ gj_TB := gj_t4 (List.mem_of_getElem? (i := 67) rfl) rfl
theorem ks_X12_deny : Cond.selects yX12_deny.cls yX12_deny yX12_deny ∈ gj_TB := gj_p3 (q := (yX12_deny, 55)) (List.mem_of_getElem? (i := 3) rfl)
theorem ks_X12_with : Cond.selects yX12_with.cls yX12_with yX12_with ∈ gj_TB := gj_p4 (q := (yX12_with, 55)) (List.mem_of_getElem? (i := 12) rfl)
theorem ks_X8_liveTogether : Cond.selects yX8_liveTogether.cls yX8_liveTogether yX8_liveTogether ∈ gj_TB := gj_p2 (q := (yX8_liveTogether, 5)) (List.mem_of_getElem? (i := 13) rfl)
theorem ks_X2_ask : Cond.selects yX2_ask.cls yX2_ask yX2_ask ∈ gj_TB := gj_p2 (q := (yX2_ask, 7)) (List.mem_of_getElem? (i := 1) rfl)
theorem ks_X6_scan : Cond.selects yX6_scan.cls yX6_scan yX6_scan ∈ gj_TB := gj_p0 (q := (yX6_scan, 10)) (List.mem_of_getElem? (i := 1) rfl)
theorem ks_X12_parentsFrom : Cond.selects yX12_parentsFrom.cls yX12_parentsFrom yX12_parentsFrom ∈ gj_TB := gj_p6 (q := (yX12_parentsFrom, 55)) (List.mem_of_getElem? (i := 0) rfl)
theorem ks_X11_may : Cond.selects yX11_may.cls yX11_may yX11_may ∈ gj_TB := gj_t3 (List.mem_of_getElem? (i := 233) rfl) rfl
theorem ks_X12_moves : Cond.selects yX12_moves.cls yX12_moves yX12_moves ∈ gj_TB := gj_p6 (q := (yX12_moves, 55)) (List.mem_of_getElem? (i := 4) rfl)
theorem ks_X9_length : Cond.selects yX9_length.cls yX9_length yX9_length ∈ gj_TB := gj_t1 (List.mem_of_getElem? (i := 200) rfl) rfl
theorem ks_X12_mateOf : Cond.selects yX12_mateOf.cls yX12_mateOf yX12_mateOf ∈ gj_TB := gj_p4 (q := (yX12_mateOf, 55)) (List.mem_of_getElem? (i := 9) rfl)
theorem ks_X12_sumOf : Cond.selects yX12_sumOf.cls yX12_sumOf yX12_sumOf ∈ gj_TB := gj_p6 (q := (yX12_sumOf, 55)) (List.mem_of_getElem? (i := 1) rfl)
theorem ks_X12_nameHere : Cond.selects yX12_nameHere.cls yX12_nameHere yX12_nameHere ∈ gj_TB := gj_p3 (q := (yX12_nameHere, 55)) (List.mem_of_getElem? (i := 11) rfl)
theorem ks_X11_person : Cond.selects yX11_person.cls yX11_person yX11_person ∈ gj_TB := gj_t2 (List.mem_of_getElem? (i := 225) rfl) rfl
theorem ks_X1_size : Cond.selects yX1_size.cls yX1_size yX1_size ∈ gj_TB := gj_t4 (List.mem_of_getElem? (i := 76) rfl) rfl
theorem ks_X6_isWord : Cond.selects yX6_isWord.cls yX6_isWord yX6_isWord ∈ gj_TB := gj_p0 (q := (yX6_isWord, 10)) (List.mem_of_getElem? (i := 3) rfl)
theorem ks_X4_isShut : Cond.selects yX4_isShut.cls yX4_isShut yX4_isShut ∈ gj_TB := gj_p1 (q := (yX4_isShut, 11)) (List.mem_of_getElem? (i := 13) rfl)
theorem ks_X6_isLineWord : Cond.selects yX6_isLineWord.cls yX6_isLineWord yX6_isLineWord ∈ gj_TB := gj_p0 (q := (yX6_isLineWord, 10)) (List.mem_of_getElem? (i := 6) rfl)
theorem ks_X6_readHouse : Cond.selects yX6_readHouse.cls yX6_readHouse yX6_readHouse ∈ gj_TB := gj_p0 (q := (yX6_readHouse, 10)) (List.mem_of_getElem? (i := 15) rfl)
theorem ks_X3_free : Cond.selects yX3_free.cls yX3_free yX3_free ∈ gj_TB := gj_p2 (q := (yX3_free, 11)) (List.mem_of_getElem? (i := 10) rfl)
theorem ks_X11_seed : Cond.selects yX11_seed.cls yX11_seed yX11_seed ∈ gj_TB := gj_t3 (List.mem_of_getElem? (i := 167) rfl) rfl
theorem ks_X6_readLine : Cond.selects yX6_readLine.cls yX6_readLine yX6_readLine ∈ gj_TB := gj_p0 (q := (yX6_readLine, 10)) (List.mem_of_getElem? (i := 2) rfl)
theorem ks_X12_closes : Cond.selects yX12_closes.cls yX12_closes yX12_closes ∈ gj_TB := gj_p3 (q := (yX12_closes, 55)) (List.mem_of_getElem? (i := 14) rfl)
theorem ks_X12_green : Cond.selects yX12_green.cls yX12_green yX12_green ∈ gj_TB := gj_t6 (List.mem_of_getElem? (i := 114) rfl) rfl
theorem ks_X12_earned : Cond.selects yX12_earned.cls yX12_earned yX12_earned ∈ gj_TB := gj_t5 (List.mem_of_getElem? (i := 228) rfl) rfl
theorem ks_X6_takeStop : Cond.selects yX6_takeStop.cls yX6_takeStop yX6_takeStop ∈ gj_TB := gj_p0 (q := (yX6_takeStop, 10)) (List.mem_of_getElem? (i := 10) rfl)
theorem ks_X12_passes : Cond.selects yX12_passes.cls yX12_passes yX12_passes ∈ gj_TB := gj_p3 (q := (yX12_passes, 55)) (List.mem_of_getElem? (i := 10) rfl)
theorem ks_X2_pairUp : Cond.selects yX2_pairUp.cls yX2_pairUp yX2_pairUp ∈ gj_TB := gj_t3 (List.mem_of_getElem? (i := 181) rfl) rfl
theorem ks_X12_feeds : Cond.selects yX12_feeds.cls yX12_feeds yX12_feeds ∈ gj_TB := gj_p3 (q := (yX12_feeds, 55)) (List.mem_of_getElem? (i := 2) rfl)
theorem ks_X11_image : Cond.selects yX11_image.cls yX11_image yX11_image ∈ gj_TB := gj_t4 (List.mem_of_getElem? (i := 133) rfl) rfl
theorem ks_X12_onceRead : Cond.selects yX12_onceRead.cls yX12_onceRead yX12_onceRead ∈ gj_TB := gj_p4 (q := (yX12_onceRead, 55)) (List.mem_of_getElem? (i := 1) rfl)
theorem ks_X4_bestAct : Cond.selects yX4_bestAct.cls yX4_bestAct yX4_bestAct ∈ gj_TB := gj_t3 (List.mem_of_getElem? (i := 110) rfl) rfl
theorem ks_X12_move : Cond.selects yX12_move.cls yX12_move yX12_move ∈ gj_TB := gj_p6 (q := (yX12_move, 55)) (List.mem_of_getElem? (i := 5) rfl)
theorem ks_X6_readPerson : Cond.selects yX6_readPerson.cls yX6_readPerson yX6_readPerson ∈ gj_TB := gj_p0 (q := (yX6_readPerson, 10)) (List.mem_of_getElem? (i := 4) rfl)
theorem ks_X12_fitRead : Cond.selects yX12_fitRead.cls yX12_fitRead yX12_fitRead ∈ gj_TB := gj_p4 (q := (yX12_fitRead, 55)) (List.mem_of_getElem? (i := 0) rfl)
theorem ks_X11_end : Cond.selects yX11_end.cls yX11_end yX11_end ∈ gj_TB := gj_t1 (List.mem_of_getElem? (i := 204) rfl) rfl
theorem ks_X11_two : Cond.selects yX11_two.cls yX11_two yX11_two ∈ gj_TB := gj_t3 (List.mem_of_getElem? (i := 1) rfl) rfl
theorem ks_X11_way : Cond.selects yX11_way.cls yX11_way yX11_way ∈ gj_TB := gj_t3 (List.mem_of_getElem? (i := 163) rfl) rfl
theorem ks_X11_life : Cond.selects yX11_life.cls yX11_life yX11_life ∈ gj_TB := gj_t4 (List.mem_of_getElem? (i := 103) rfl) rfl
theorem ks_X5_take : Cond.selects yX5_take.cls yX5_take yX5_take ∈ gj_TB := gj_t2 (List.mem_of_getElem? (i := 163) rfl) rfl
theorem ks_X2_likingOf : Cond.selects yX2_likingOf.cls yX2_likingOf yX2_likingOf ∈ gj_TB := gj_t3 (List.mem_of_getElem? (i := 33) rfl) rfl
theorem ks_X3_haveTried : Cond.selects yX3_haveTried.cls yX3_haveTried yX3_haveTried ∈ gj_TB := gj_t4 (List.mem_of_getElem? (i := 121) rfl) rfl
theorem ks_X12_goes : Cond.selects yX12_goes.cls yX12_goes yX12_goes ∈ gj_TB := gj_p5 (q := (yX12_goes, 55)) (List.mem_of_getElem? (i := 0) rfl)
theorem ks_X12_wordHere : Cond.selects yX12_wordHere.cls yX12_wordHere yX12_wordHere ∈ gj_TB := gj_p3 (q := (yX12_wordHere, 55)) (List.mem_of_getElem? (i := 8) rfl)
theorem ks_X12_notes : Cond.selects yX12_notes.cls yX12_notes yX12_notes ∈ gj_TB := gj_p5 (q := (yX12_notes, 55)) (List.mem_of_getElem? (i := 10) rfl)
theorem ks_X11_join : Cond.selects yX11_join.cls yX11_join yX11_join ∈ gj_TB := gj_t4 (List.mem_of_getElem? (i := 62) rfl) rfl
theorem ks_X6_firstTold : Cond.selects yX6_firstTold.cls yX6_firstTold yX6_firstTold ∈ gj_TB := gj_p0 (q := (yX6_firstTold, 10)) (List.mem_of_getElem? (i := 14) rfl)
theorem ks_X12_feed : Cond.selects yX12_feed.cls yX12_feed yX12_feed ∈ gj_TB := gj_t5 (List.mem_of_getElem? (i := 118) rfl) rfl
theorem ks_X12_worth : Cond.selects yX12_worth.cls yX12_worth yX12_worth ∈ gj_TB := gj_p4 (q := (yX12_worth, 55)) (List.mem_of_getElem? (i := 10) rfl)
theorem ks_X6_readWorth : Cond.selects yX6_readWorth.cls yX6_readWorth yX6_readWorth ∈ gj_TB := gj_p0 (q := (yX6_readWorth, 10)) (List.mem_of_getElem? (i := 13) rfl)
theorem ks_X12_who : Cond.selects yX12_who.cls yX12_who yX12_who ∈ gj_TB := gj_p4 (q := (yX12_who, 55)) (List.mem_of_getElem? (i := 2) rfl)
theorem ks_X12_between : Cond.selects yX12_between.cls yX12_between yX12_between ∈ gj_TB := gj_p3 (q := (yX12_between, 55)) (List.mem_of_getElem? (i := 6) rfl)
theorem ks_X3_loosen : Cond.selects yX3_loosen.cls yX3_loosen yX3_loosen ∈ gj_TB := gj_t4 (List.mem_of_getElem? (i := 31) rfl) rfl
theorem ks_X12_pairs : Cond.selects yX12_pairs.cls yX12_pairs yX12_pairs ∈ gj_TB := gj_t6 (List.mem_of_getElem? (i := 237) rfl) rfl
theorem ks_X12_findsParents : Cond.selects yX12_findsParents.cls yX12_findsParents yX12_findsParents ∈ gj_TB := gj_p5 (q := (yX12_findsParents, 55)) (List.mem_of_getElem? (i := 15) rfl)
theorem ks_X12_way : Cond.selects yX12_way.cls yX12_way yX12_way ∈ gj_TB := gj_t6 (List.mem_of_getElem? (i := 105) rfl) rfl
theorem ks_X12_likesNow : Cond.selects yX12_likesNow.cls yX12_likesNow yX12_likesNow ∈ gj_TB := gj_p4 (q := (yX12_likesNow, 55)) (List.mem_of_getElem? (i := 4) rfl)
theorem ks_X0_spread : Cond.selects yX0_spread.cls yX0_spread yX0_spread ∈ gj_TB := gj_p1 (q := (yX0_spread, 3)) (List.mem_of_getElem? (i := 7) rfl)
theorem ks_X12_part : Cond.selects yX12_part.cls yX12_part yX12_part ∈ gj_TB := gj_t6 (List.mem_of_getElem? (i := 191) rfl) rfl
theorem ks_X8_bindNewPairs : Cond.selects yX8_bindNewPairs.cls yX8_bindNewPairs yX8_bindNewPairs ∈ gj_TB := gj_p2 (q := (yX8_bindNewPairs, 5)) (List.mem_of_getElem? (i := 11) rfl)
theorem ks_X11_neverTried : Cond.selects yX11_neverTried.cls yX11_neverTried yX11_neverTried ∈ gj_TB := gj_p2 (q := (yX11_neverTried, 12)) (List.mem_of_getElem? (i := 15) rfl)
theorem ks_X2_likes : Cond.selects yX2_likes.cls yX2_likes yX2_likes ∈ gj_TB := gj_p1 (q := (yX2_likes, 7)) (List.mem_of_getElem? (i := 10) rfl)
theorem ks_X5_isPerson : Cond.selects yX5_isPerson.cls yX5_isPerson yX5_isPerson ∈ gj_TB := gj_t2 (List.mem_of_getElem? (i := 86) rfl) rfl
theorem ks_X12_isSilent : Cond.selects yX12_isSilent.cls yX12_isSilent yX12_isSilent ∈ gj_TB := gj_p4 (q := (yX12_isSilent, 55)) (List.mem_of_getElem? (i := 15) rfl)
theorem ks_X6_readFit : Cond.selects yX6_readFit.cls yX6_readFit yX6_readFit ∈ gj_TB := gj_p0 (q := (yX6_readFit, 10)) (List.mem_of_getElem? (i := 12) rfl)
theorem ks_X12_blocks : Cond.selects yX12_blocks.cls yX12_blocks yX12_blocks ∈ gj_TB := gj_t6 (List.mem_of_getElem? (i := 195) rfl) rfl
theorem ks_X5_shownRight : Cond.selects yX5_shownRight.cls yX5_shownRight yX5_shownRight ∈ gj_TB := gj_t3 (List.mem_of_getElem? (i := 21) rfl) rfl
theorem ks_X6_takeNumber : Cond.selects yX6_takeNumber.cls yX6_takeNumber yX6_takeNumber ∈ gj_TB := gj_p0 (q := (yX6_takeNumber, 10)) (List.mem_of_getElem? (i := 8) rfl)
theorem ks_X6_slotNamed : Cond.selects yX6_slotNamed.cls yX6_slotNamed yX6_slotNamed ∈ gj_TB := gj_p0 (q := (yX6_slotNamed, 10)) (List.mem_of_getElem? (i := 7) rfl)
theorem ks_X2_takeTurns : Cond.selects yX2_takeTurns.cls yX2_takeTurns yX2_takeTurns ∈ gj_TB := gj_p2 (q := (yX2_takeTurns, 7)) (List.mem_of_getElem? (i := 3) rfl)
theorem ks_X11_log : Cond.selects yX11_log.cls yX11_log yX11_log ∈ gj_TB := gj_t4 (List.mem_of_getElem? (i := 72) rfl) rfl
theorem ks_X12_line : Cond.selects yX12_line.cls yX12_line yX12_line ∈ gj_TB := gj_p3 (q := (yX12_line, 55)) (List.mem_of_getElem? (i := 7) rfl)
theorem ks_X12_never : Cond.selects yX12_never.cls yX12_never yX12_never ∈ gj_TB := gj_t6 (List.mem_of_getElem? (i := 233) rfl) rfl
theorem ks_X12_may : Cond.selects yX12_may.cls yX12_may yX12_may ∈ gj_TB := gj_p5 (q := (yX12_may, 55)) (List.mem_of_getElem? (i := 8) rfl)
theorem ks_X4_enter : Cond.selects yX4_enter.cls yX4_enter yX4_enter ∈ gj_TB := gj_t3 (List.mem_of_getElem? (i := 75) rfl) rfl
theorem ks_X12_end : Cond.selects yX12_end.cls yX12_end yX12_end ∈ gj_TB := gj_t5 (List.mem_of_getElem? (i := 130) rfl) rfl
theorem ks_X12_next : Cond.selects yX12_next.cls yX12_next yX12_next ∈ gj_TB := gj_p3 (q := (yX12_next, 55)) (List.mem_of_getElem? (i := 5) rfl)
theorem ks_X5_goodNext : Cond.selects yX5_goodNext.cls yX5_goodNext yX5_goodNext ∈ gj_TB := gj_p1 (q := (yX5_goodNext, 16)) (List.mem_of_getElem? (i := 4) rfl)
theorem ks_X12_by : Cond.selects yX12_by.cls yX12_by yX12_by ∈ gj_TB := gj_p4 (q := (yX12_by, 55)) (List.mem_of_getElem? (i := 11) rfl)
theorem ks_X3_lot : Cond.selects yX3_lot.cls yX3_lot yX3_lot ∈ gj_TB := gj_t3 (List.mem_of_getElem? (i := 222) rfl) rfl
theorem ks_J0_charAt_5068e : Cond.selects yJ0_charAt_5068e.cls yJ0_charAt_5068e yJ0_charAt_5068e ∈ gj_TB := gj_t2 (List.mem_of_getElem? (i := 23) rfl) rfl
theorem ks_X4_leastGood : Cond.selects yX4_leastGood.cls yX4_leastGood yX4_leastGood ∈ gj_TB := gj_t3 (List.mem_of_getElem? (i := 137) rfl) rfl
theorem ks_X12_best : Cond.selects yX12_best.cls yX12_best yX12_best ∈ gj_TB := gj_t6 (List.mem_of_getElem? (i := 39) rfl) rfl
theorem ks_X5_trueYear : Cond.selects yX5_trueYear.cls yX5_trueYear yX5_trueYear ∈ gj_TB := gj_p1 (q := (yX5_trueYear, 16)) (List.mem_of_getElem? (i := 8) rfl)
theorem ks_X12_price : Cond.selects yX12_price.cls yX12_price yX12_price ∈ gj_TB := gj_t6 (List.mem_of_getElem? (i := 97) rfl) rfl
theorem ks_X12_isSooner : Cond.selects yX12_isSooner.cls yX12_isSooner yX12_isSooner ∈ gj_TB := gj_p4 (q := (yX12_isSooner, 55)) (List.mem_of_getElem? (i := 6) rfl)
theorem ks_X12_joins : Cond.selects yX12_joins.cls yX12_joins yX12_joins ∈ gj_TB := gj_p5 (q := (yX12_joins, 55)) (List.mem_of_getElem? (i := 12) rfl)
theorem ks_X11_on : Cond.selects yX11_on.cls yX11_on yX11_on ∈ gj_TB := gj_t4 (List.mem_of_getElem? (i := 152) rfl) rfl
theorem ks_X12_toldOf : Cond.selects yX12_toldOf.cls yX12_toldOf yX12_toldOf ∈ gj_TB := gj_p4 (q := (yX12_toldOf, 55)) (List.mem_of_getElem? (i := 14) rfl)
theorem ks_X11_silent : Cond.selects yX11_silent.cls yX11_silent yX11_silent ∈ gj_TB := gj_t3 (List.mem_of_getElem? (i := 124) rfl) rfl
theorem ks_X5_otherAfter : Cond.selects yX5_otherAfter.cls yX5_otherAfter yX5_otherAfter ∈ gj_TB := gj_p1 (q := (yX5_otherAfter, 16)) (List.mem_of_getElem? (i := 6) rfl)
theorem ks_X12_log : Cond.selects yX12_log.cls yX12_log yX12_log ∈ gj_TB := gj_t6 (List.mem_of_getElem? (i := 154) rfl) rfl
theorem ks_X9_cutTo : Cond.selects yX9_cutTo.cls yX9_cutTo yX9_cutTo ∈ gj_TB := gj_t1 (List.mem_of_getElem? (i := 208) rfl) rfl
theorem ks_X6_read : Cond.selects yX6_read.cls yX6_read yX6_read ∈ gj_TB := gj_t1 (List.mem_of_getElem? (i := 216) rfl) rfl
theorem ks_X2_isLeftFor : Cond.selects yX2_isLeftFor.cls yX2_isLeftFor yX2_isLeftFor ∈ gj_TB := gj_p2 (q := (yX2_isLeftFor, 7)) (List.mem_of_getElem? (i := 4) rfl)
theorem ks_X8_endPairs : Cond.selects yX8_endPairs.cls yX8_endPairs yX8_endPairs ∈ gj_TB := gj_p2 (q := (yX8_endPairs, 5)) (List.mem_of_getElem? (i := 8) rfl)
theorem ks_X12_lifeOf : Cond.selects yX12_lifeOf.cls yX12_lifeOf yX12_lifeOf ∈ gj_TB := gj_p6 (q := (yX12_lifeOf, 55)) (List.mem_of_getElem? (i := 3) rfl)
theorem ks_X12_join : Cond.selects yX12_join.cls yX12_join yX12_join ∈ gj_TB := gj_t6 (List.mem_of_getElem? (i := 187) rfl) rfl
theorem ks_X12_act : Cond.selects yX12_act.cls yX12_act yX12_act ∈ gj_TB := gj_t6 (List.mem_of_getElem? (i := 80) rfl) rfl
theorem ks_X12_liking : Cond.selects yX12_liking.cls yX12_liking yX12_liking ∈ gj_TB := gj_t6 (List.mem_of_getElem? (i := 19) rfl) rfl
theorem ks_X12_lot : Cond.selects yX12_lot.cls yX12_lot yX12_lot ∈ gj_TB := gj_p5 (q := (yX12_lot, 55)) (List.mem_of_getElem? (i := 7) rfl)
theorem ks_X12_both : Cond.selects yX12_both.cls yX12_both yX12_both ∈ gj_TB := gj_p5 (q := (yX12_both, 55)) (List.mem_of_getElem? (i := 2) rfl)
theorem ks_X12_lives : Cond.selects yX12_lives.cls yX12_lives yX12_lives ∈ gj_TB := gj_p5 (q := (yX12_lives, 55)) (List.mem_of_getElem? (i := 13) rfl)
theorem ks_X2_drawLots : Cond.selects yX2_drawLots.cls yX2_drawLots yX2_drawLots ∈ gj_TB := gj_p2 (q := (yX2_drawLots, 7)) (List.mem_of_getElem? (i := 5) rfl)
theorem ks_X11_never : Cond.selects yX11_never.cls yX11_never yX11_never ∈ gj_TB := gj_t4 (List.mem_of_getElem? (i := 113) rfl) rfl
theorem ks_X11_feed : Cond.selects yX11_feed.cls yX11_feed yX11_feed ∈ gj_TB := gj_t1 (List.mem_of_getElem? (i := 177) rfl) rfl
theorem ks_X8_hold : Cond.selects yX8_hold.cls yX8_hold yX8_hold ∈ gj_TB := gj_t3 (List.mem_of_getElem? (i := 238) rfl) rfl
theorem ks_J0_coder_7d493 : Cond.selects yJ0_coder_7d493.cls yJ0_coder_7d493 yJ0_coder_7d493 ∈ gj_TB := gj_t2 (List.mem_of_getElem? (i := 17) rfl) rfl
theorem ks_X9_hasRoomFor : Cond.selects yX9_hasRoomFor.cls yX9_hasRoomFor yX9_hasRoomFor ∈ gj_TB := gj_t1 (List.mem_of_getElem? (i := 181) rfl) rfl
theorem ks_X11_village : Cond.selects yX11_village.cls yX11_village yX11_village ∈ gj_TB := gj_t2 (List.mem_of_getElem? (i := 159) rfl) rfl
theorem ks_X12_found : Cond.selects yX12_found.cls yX12_found yX12_found ∈ gj_TB := gj_p3 (q := (yX12_found, 55)) (List.mem_of_getElem? (i := 12) rfl)
theorem ks_X11_shown : Cond.selects yX11_shown.cls yX11_shown yX11_shown ∈ gj_TB := gj_t3 (List.mem_of_getElem? (i := 17) rfl) rfl
theorem ks_X11_status : Cond.selects yX11_status.cls yX11_status yX11_status ∈ gj_TB := gj_t4 (List.mem_of_getElem? (i := 157) rfl) rfl
theorem ks_X2_would : Cond.selects yX2_would.cls yX2_would yX2_would ∈ gj_TB := gj_p1 (q := (yX2_would, 7)) (List.mem_of_getElem? (i := 9) rfl)
theorem ks_X11_pairs : Cond.selects yX11_pairs.cls yX11_pairs yX11_pairs ∈ gj_TB := gj_t4 (List.mem_of_getElem? (i := 125) rfl) rfl
theorem ks_X6_numberHere : Cond.selects yX6_numberHere.cls yX6_numberHere yX6_numberHere ∈ gj_TB := gj_p0 (q := (yX6_numberHere, 10)) (List.mem_of_getElem? (i := 9) rfl)
theorem ks_X2_look : Cond.selects yX2_look.cls yX2_look yX2_look ∈ gj_TB := gj_t3 (List.mem_of_getElem? (i := 49) rfl) rfl
theorem ks_X12_bar : Cond.selects yX12_bar.cls yX12_bar yX12_bar ∈ gj_TB := gj_t6 (List.mem_of_getElem? (i := 92) rfl) rfl
theorem ks_X2_soonestToAsk : Cond.selects yX2_soonestToAsk.cls yX2_soonestToAsk yX2_soonestToAsk ∈ gj_TB := gj_p1 (q := (yX2_soonestToAsk, 7)) (List.mem_of_getElem? (i := 15) rfl)
theorem ks_X2_canMeet : Cond.selects yX2_canMeet.cls yX2_canMeet yX2_canMeet ∈ gj_TB := gj_p2 (q := (yX2_canMeet, 7)) (List.mem_of_getElem? (i := 0) rfl)
theorem ks_X3_earn : Cond.selects yX3_earn.cls yX3_earn yX3_earn ∈ gj_TB := gj_t4 (List.mem_of_getElem? (i := 20) rfl) rfl
theorem ks_X12_person : Cond.selects yX12_person.cls yX12_person yX12_person ∈ gj_TB := gj_t5 (List.mem_of_getElem? (i := 214) rfl) rfl
theorem ks_X2_soonerOf : Cond.selects yX2_soonerOf.cls yX2_soonerOf yX2_soonerOf ∈ gj_TB := gj_t3 (List.mem_of_getElem? (i := 64) rfl) rfl
theorem ks_X11_waits : Cond.selects yX11_waits.cls yX11_waits yX11_waits ∈ gj_TB := gj_t3 (List.mem_of_getElem? (i := 154) rfl) rfl
theorem ks_X8_askPaired : Cond.selects yX8_askPaired.cls yX8_askPaired yX8_askPaired ∈ gj_TB := gj_p2 (q := (yX8_askPaired, 5)) (List.mem_of_getElem? (i := 7) rfl)
theorem ks_X11_pictureAt : Cond.selects yX11_pictureAt.cls yX11_pictureAt yX11_pictureAt ∈ gj_TB := gj_p3 (q := (yX11_pictureAt, 12)) (List.mem_of_getElem? (i := 0) rfl)
theorem ks_X12_reads : Cond.selects yX12_reads.cls yX12_reads yX12_reads ∈ gj_TB := gj_p3 (q := (yX12_reads, 55)) (List.mem_of_getElem? (i := 4) rfl)
theorem ks_X12_lays : Cond.selects yX12_lays.cls yX12_lays yX12_lays ∈ gj_TB := gj_p4 (q := (yX12_lays, 55)) (List.mem_of_getElem? (i := 8) rfl)
theorem ks_X2_isBetter : Cond.selects yX2_isBetter.cls yX2_isBetter yX2_isBetter ∈ gj_TB := gj_p2 (q := (yX2_isBetter, 7)) (List.mem_of_getElem? (i := 14) rfl)
theorem ks_X9_append : Cond.selects yX9_append.cls yX9_append yX9_append ∈ gj_TB := gj_t1 (List.mem_of_getElem? (i := 195) rfl) rfl
theorem ks_X9_byteAt : Cond.selects yX9_byteAt.cls yX9_byteAt yX9_byteAt ∈ gj_TB := gj_t1 (List.mem_of_getElem? (i := 233) rfl) rfl
theorem ks_X12_sooner : Cond.selects yX12_sooner.cls yX12_sooner yX12_sooner ∈ gj_TB := gj_t6 (List.mem_of_getElem? (i := 31) rfl) rfl
theorem ks_X5_slotOf : Cond.selects yX5_slotOf.cls yX5_slotOf yX5_slotOf ∈ gj_TB := gj_t2 (List.mem_of_getElem? (i := 229) rfl) rfl
theorem ks_X3_copyOf : Cond.selects yX3_copyOf.cls yX3_copyOf yX3_copyOf ∈ gj_TB := gj_t4 (List.mem_of_getElem? (i := 141) rfl) rfl
theorem ks_X12_bestOf : Cond.selects yX12_bestOf.cls yX12_bestOf yX12_bestOf ∈ gj_TB := gj_p4 (q := (yX12_bestOf, 55)) (List.mem_of_getElem? (i := 7) rfl)
theorem ks_X2_wouldSooner : Cond.selects yX2_wouldSooner.cls yX2_wouldSooner yX2_wouldSooner ∈ gj_TB := gj_t4 (List.mem_of_getElem? (i := 89) rfl) rfl
theorem ks_X12_refuse : Cond.selects yX12_refuse.cls yX12_refuse yX12_refuse ∈ gj_TB := gj_p3 (q := (yX12_refuse, 55)) (List.mem_of_getElem? (i := 1) rfl)
theorem ks_X11_refuse : Cond.selects yX11_refuse.cls yX11_refuse yX11_refuse ∈ gj_TB := gj_p0 (q := (yX11_refuse, 12)) (List.mem_of_getElem? (i := 0) rfl)
theorem ks_X4_worthOf : Cond.selects yX4_worthOf.cls yX4_worthOf yX4_worthOf ∈ gj_TB := gj_p1 (q := (yX4_worthOf, 11)) (List.mem_of_getElem? (i := 11) rfl)
theorem ks_X12_gives : Cond.selects yX12_gives.cls yX12_gives yX12_gives ∈ gj_TB := gj_p5 (q := (yX12_gives, 55)) (List.mem_of_getElem? (i := 4) rfl)
theorem ks_X0_choose : Cond.selects yX0_choose.cls yX0_choose yX0_choose ∈ gj_TB := gj_t2 (List.mem_of_getElem? (i := 193) rfl) rfl
theorem ks_X6_readCow : Cond.selects yX6_readCow.cls yX6_readCow yX6_readCow ∈ gj_TB := gj_p1 (q := (yX6_readCow, 10)) (List.mem_of_getElem? (i := 1) rfl)
theorem ks_X12_silent : Cond.selects yX12_silent.cls yX12_silent yX12_silent ∈ gj_TB := gj_t6 (List.mem_of_getElem? (i := 84) rfl) rfl
theorem ks_X12_into : Cond.selects yX12_into.cls yX12_into yX12_into ∈ gj_TB := gj_p3 (q := (yX12_into, 55)) (List.mem_of_getElem? (i := 13) rfl)
theorem ks_X5_stands : Cond.selects yX5_stands.cls yX5_stands yX5_stands ∈ gj_TB := gj_t2 (List.mem_of_getElem? (i := 154) rfl) rfl
theorem ks_X1_add : Cond.selects yX1_add.cls yX1_add yX1_add ∈ gj_TB := gj_t4 (List.mem_of_getElem? (i := 26) rfl) rfl
theorem ks_X12_life : Cond.selects yX12_life.cls yX12_life yX12_life ∈ gj_TB := gj_t6 (List.mem_of_getElem? (i := 223) rfl) rfl
theorem ks_X12_may_ : Cond.selects yX12_may_.cls yX12_may_ yX12_may_ ∈ gj_TB := gj_t6 (List.mem_of_getElem? (i := 158) rfl) rfl
theorem ks_X6_readThink : Cond.selects yX6_readThink.cls yX6_readThink yX6_readThink ∈ gj_TB := gj_p0 (q := (yX6_readThink, 10)) (List.mem_of_getElem? (i := 11) rfl)
theorem ks_X11_sooner : Cond.selects yX11_sooner.cls yX11_sooner yX11_sooner ∈ gj_TB := gj_t3 (List.mem_of_getElem? (i := 45) rfl) rfl
theorem ks_X3_arePair : Cond.selects yX3_arePair.cls yX3_arePair yX3_arePair ∈ gj_TB := gj_t3 (List.mem_of_getElem? (i := 7) rfl) rfl
theorem ks_X11_price : Cond.selects yX11_price.cls yX11_price yX11_price ∈ gj_TB := gj_t3 (List.mem_of_getElem? (i := 142) rfl) rfl
theorem ks_X3_pairsOf : Cond.selects yX3_pairsOf.cls yX3_pairsOf yX3_pairsOf ∈ gj_TB := gj_t4 (List.mem_of_getElem? (i := 129) rfl) rfl
theorem ks_X12_thinkRead : Cond.selects yX12_thinkRead.cls yX12_thinkRead yX12_thinkRead ∈ gj_TB := gj_p3 (q := (yX12_thinkRead, 55)) (List.mem_of_getElem? (i := 15) rfl)
theorem ks_X4_stays : Cond.selects yX4_stays.cls yX4_stays yX4_stays ∈ gj_TB := gj_t3 (List.mem_of_getElem? (i := 128) rfl) rfl
theorem ks_X11_think : Cond.selects yX11_think.cls yX11_think yX11_think ∈ gj_TB := gj_t3 (List.mem_of_getElem? (i := 12) rfl) rfl
theorem ks_X12_parts : Cond.selects yX12_parts.cls yX12_parts yX12_parts ∈ gj_TB := gj_p5 (q := (yX12_parts, 55)) (List.mem_of_getElem? (i := 11) rfl)
theorem ks_X11_bar : Cond.selects yX11_bar.cls yX11_bar yX11_bar ∈ gj_TB := gj_t3 (List.mem_of_getElem? (i := 133) rfl) rfl
theorem ks_X8_passYear : Cond.selects yX8_passYear.cls yX8_passYear yX8_passYear ∈ gj_TB := gj_p2 (q := (yX8_passYear, 5)) (List.mem_of_getElem? (i := 12) rfl)
theorem ks_X5_clear : Cond.selects yX5_clear.cls yX5_clear yX5_clear ∈ gj_TB := gj_t1 (List.mem_of_getElem? (i := 220) rfl) rfl
theorem mn_X11_9 : (RX11, 9, yX9_init, RX11) ∈ gj_nest := by decide +kernel
theorem ff_X9_9 : gj_F RX9 9 8 0 2 4 true := ⟨_, _, rfl, kf_X9_9, by decide, rfl, rfl, rfl⟩
theorem ff_X9_15 : gj_F RX9 15 8 1 2 0 false := ⟨_, _, rfl, kf_X9_15, by decide, rfl, rfl, rfl⟩
theorem mn_X11_18 : (RX11, 18, yX5_init, RX11) ∈ gj_nest := by decide +kernel
theorem ff_X5_30 : gj_F RX5 30 5 0 16 0 false := ⟨_, _, rfl, kf_X5_30, by decide, rfl, rfl, rfl⟩
theorem ff_X4_38 : gj_F RX4 38 5 0 16 0 false := ⟨_, _, rfl, kf_X4_38, by decide, rfl, rfl, rfl⟩
theorem ff_X11_124 : gj_F RX11 124 5 0 16 0 false := ⟨_, _, rfl, kf_X11_124, by decide, rfl, rfl, rfl⟩
theorem ff_X6_87 : gj_F RX6 87 5 0 16 0 false := ⟨_, _, rfl, kf_X6_87, by decide, rfl, rfl, rfl⟩
theorem ff_X5_34 : gj_F RX5 34 5 1 16 0 false := ⟨_, _, rfl, kf_X5_34, by decide, rfl, rfl, rfl⟩
theorem ff_X4_33 : gj_F RX4 33 5 1 16 0 false := ⟨_, _, rfl, kf_X4_33, by decide, rfl, rfl, rfl⟩
theorem ff_X11_128 : gj_F RX11 128 5 1 16 0 false := ⟨_, _, rfl, kf_X11_128, by decide, rfl, rfl, rfl⟩
theorem ff_X6_96 : gj_F RX6 96 5 1 16 0 false := ⟨_, _, rfl, kf_X6_96, by decide, rfl, rfl, rfl⟩
theorem ff_X5_37 : gj_F RX5 37 5 2 16 0 false := ⟨_, _, rfl, kf_X5_37, by decide, rfl, rfl, rfl⟩
theorem ff_X8_165 : gj_F RX8 165 5 2 16 0 false := ⟨_, _, rfl, kf_X8_165, by decide, rfl, rfl, rfl⟩
theorem ff_X6_196 : gj_F RX6 196 5 2 16 0 false := ⟨_, _, rfl, kf_X6_196, by decide, rfl, rfl, rfl⟩
theorem ff_X4_136 : gj_F RX4 136 5 2 16 0 false := ⟨_, _, rfl, kf_X4_136, by decide, rfl, rfl, rfl⟩
theorem ff_X5_40 : gj_F RX5 40 5 3 16 0 false := ⟨_, _, rfl, kf_X5_40, by decide, rfl, rfl, rfl⟩
theorem ff_X8_168 : gj_F RX8 168 5 3 16 0 false := ⟨_, _, rfl, kf_X8_168, by decide, rfl, rfl, rfl⟩
theorem ff_X6_199 : gj_F RX6 199 5 3 16 0 false := ⟨_, _, rfl, kf_X6_199, by decide, rfl, rfl, rfl⟩
theorem ff_X4_139 : gj_F RX4 139 5 3 16 0 false := ⟨_, _, rfl, kf_X4_139, by decide, rfl, rfl, rfl⟩
theorem ff_X5_43 : gj_F RX5 43 5 4 16 0 false := ⟨_, _, rfl, kf_X5_43, by decide, rfl, rfl, rfl⟩
theorem ff_X8_174 : gj_F RX8 174 5 4 16 0 false := ⟨_, _, rfl, kf_X8_174, by decide, rfl, rfl, rfl⟩
theorem ff_X6_202 : gj_F RX6 202 5 4 16 0 false := ⟨_, _, rfl, kf_X6_202, by decide, rfl, rfl, rfl⟩
theorem ff_X4_142 : gj_F RX4 142 5 4 16 0 false := ⟨_, _, rfl, kf_X4_142, by decide, rfl, rfl, rfl⟩
theorem ff_X5_46 : gj_F RX5 46 5 5 16 0 false := ⟨_, _, rfl, kf_X5_46, by decide, rfl, rfl, rfl⟩
theorem ff_X8_177 : gj_F RX8 177 5 5 16 0 false := ⟨_, _, rfl, kf_X8_177, by decide, rfl, rfl, rfl⟩
theorem ff_X6_205 : gj_F RX6 205 5 5 16 0 false := ⟨_, _, rfl, kf_X6_205, by decide, rfl, rfl, rfl⟩
theorem ff_X4_145 : gj_F RX4 145 5 5 16 0 false := ⟨_, _, rfl, kf_X4_145, by decide, rfl, rfl, rfl⟩
theorem ff_X5_49 : gj_F RX5 49 5 6 16 0 false := ⟨_, _, rfl, kf_X5_49, by decide, rfl, rfl, rfl⟩
theorem ff_X8_159 : gj_F RX8 159 5 6 16 0 false := ⟨_, _, rfl, kf_X8_159, by decide, rfl, rfl, rfl⟩
theorem ff_X6_207 : gj_F RX6 207 5 6 16 0 false := ⟨_, _, rfl, kf_X6_207, by decide, rfl, rfl, rfl⟩
theorem ff_X5_52 : gj_F RX5 52 5 7 16 0 false := ⟨_, _, rfl, kf_X5_52, by decide, rfl, rfl, rfl⟩
theorem ff_X4_67 : gj_F RX4 67 5 7 16 0 false := ⟨_, _, rfl, kf_X4_67, by decide, rfl, rfl, rfl⟩
theorem ff_X2_121 : gj_F RX2 121 5 7 16 0 false := ⟨_, _, rfl, kf_X2_121, by decide, rfl, rfl, rfl⟩
theorem ff_X8_171 : gj_F RX8 171 5 7 16 0 false := ⟨_, _, rfl, kf_X8_171, by decide, rfl, rfl, rfl⟩
theorem ff_X6_210 : gj_F RX6 210 5 7 16 0 false := ⟨_, _, rfl, kf_X6_210, by decide, rfl, rfl, rfl⟩
theorem ff_X5_55 : gj_F RX5 55 5 8 16 0 false := ⟨_, _, rfl, kf_X5_55, by decide, rfl, rfl, rfl⟩
theorem ff_X4_89 : gj_F RX4 89 5 8 16 0 false := ⟨_, _, rfl, kf_X4_89, by decide, rfl, rfl, rfl⟩
theorem ff_X8_105 : gj_F RX8 105 5 8 16 0 false := ⟨_, _, rfl, kf_X8_105, by decide, rfl, rfl, rfl⟩
theorem ff_X6_212 : gj_F RX6 212 5 8 16 0 false := ⟨_, _, rfl, kf_X6_212, by decide, rfl, rfl, rfl⟩
theorem ff_X11_246 : gj_F RX11 246 5 8 16 0 false := ⟨_, _, rfl, kf_X11_246, by decide, rfl, rfl, rfl⟩
theorem ff_X5_58 : gj_F RX5 58 5 9 16 0 false := ⟨_, _, rfl, kf_X5_58, by decide, rfl, rfl, rfl⟩
theorem ff_X8_77 : gj_F RX8 77 5 9 16 0 false := ⟨_, _, rfl, kf_X8_77, by decide, rfl, rfl, rfl⟩
theorem ff_X6_214 : gj_F RX6 214 5 9 16 0 false := ⟨_, _, rfl, kf_X6_214, by decide, rfl, rfl, rfl⟩
theorem ff_X11_330 : gj_F RX11 330 5 9 16 0 false := ⟨_, _, rfl, kf_X11_330, by decide, rfl, rfl, rfl⟩
theorem ff_X5_9 : gj_F RX5 9 5 10 16 4 true := ⟨_, _, rfl, kf_X5_9, by decide, rfl, rfl, rfl⟩
theorem ff_X11_136 : gj_F RX11 136 5 10 16 4 true := ⟨_, _, rfl, kf_X11_136, by decide, rfl, rfl, rfl⟩
theorem ff_X8_146 : gj_F RX8 146 5 10 16 4 true := ⟨_, _, rfl, kf_X8_146, by decide, rfl, rfl, rfl⟩
theorem ff_X6_148 : gj_F RX6 148 5 10 16 4 true := ⟨_, _, rfl, kf_X6_148, by decide, rfl, rfl, rfl⟩
theorem ff_X2_128 : gj_F RX2 128 5 10 16 4 true := ⟨_, _, rfl, kf_X2_128, by decide, rfl, rfl, rfl⟩
theorem ff_X4_129 : gj_F RX4 129 5 10 16 4 true := ⟨_, _, rfl, kf_X4_129, by decide, rfl, rfl, rfl⟩
theorem ff_X5_15 : gj_F RX5 15 5 11 16 4 true := ⟨_, _, rfl, kf_X5_15, by decide, rfl, rfl, rfl⟩
theorem ff_X6_179 : gj_F RX6 179 5 11 16 4 true := ⟨_, _, rfl, kf_X6_179, by decide, rfl, rfl, rfl⟩
theorem ff_X11_186 : gj_F RX11 186 5 11 16 4 true := ⟨_, _, rfl, kf_X11_186, by decide, rfl, rfl, rfl⟩
theorem ff_X5_18 : gj_F RX5 18 5 12 16 4 true := ⟨_, _, rfl, kf_X5_18, by decide, rfl, rfl, rfl⟩
theorem ff_X6_182 : gj_F RX6 182 5 12 16 4 true := ⟨_, _, rfl, kf_X6_182, by decide, rfl, rfl, rfl⟩
theorem ff_X11_189 : gj_F RX11 189 5 12 16 4 true := ⟨_, _, rfl, kf_X11_189, by decide, rfl, rfl, rfl⟩
theorem ff_X5_21 : gj_F RX5 21 5 13 16 4 true := ⟨_, _, rfl, kf_X5_21, by decide, rfl, rfl, rfl⟩
theorem ff_X6_185 : gj_F RX6 185 5 13 16 4 true := ⟨_, _, rfl, kf_X6_185, by decide, rfl, rfl, rfl⟩
theorem ff_X11_192 : gj_F RX11 192 5 13 16 4 true := ⟨_, _, rfl, kf_X11_192, by decide, rfl, rfl, rfl⟩
theorem ff_X5_24 : gj_F RX5 24 5 14 16 4 true := ⟨_, _, rfl, kf_X5_24, by decide, rfl, rfl, rfl⟩
theorem ff_X8_156 : gj_F RX8 156 5 14 16 4 true := ⟨_, _, rfl, kf_X8_156, by decide, rfl, rfl, rfl⟩
theorem ff_X11_174 : gj_F RX11 174 5 14 16 4 true := ⟨_, _, rfl, kf_X11_174, by decide, rfl, rfl, rfl⟩
theorem ff_X6_191 : gj_F RX6 191 5 14 16 4 true := ⟨_, _, rfl, kf_X6_191, by decide, rfl, rfl, rfl⟩
theorem ff_X5_27 : gj_F RX5 27 5 15 16 4 true := ⟨_, _, rfl, kf_X5_27, by decide, rfl, rfl, rfl⟩
theorem ff_X6_22 : gj_F RX6 22 6 0 10 4 true := ⟨_, _, rfl, kf_X6_22, by decide, rfl, rfl, rfl⟩
theorem ff_X6_26 : gj_F RX6 26 6 1 10 4 true := ⟨_, _, rfl, kf_X6_26, by decide, rfl, rfl, rfl⟩
theorem ff_X6_9 : gj_F RX6 9 6 2 10 4 true := ⟨_, _, rfl, kf_X6_9, by decide, rfl, rfl, rfl⟩
theorem ff_X6_15 : gj_F RX6 15 6 3 10 4 true := ⟨_, _, rfl, kf_X6_15, by decide, rfl, rfl, rfl⟩
theorem ff_X6_19 : gj_F RX6 19 6 4 10 4 true := ⟨_, _, rfl, kf_X6_19, by decide, rfl, rfl, rfl⟩
theorem ff_X6_35 : gj_F RX6 35 6 5 10 0 false := ⟨_, _, rfl, kf_X6_35, by decide, rfl, rfl, rfl⟩
theorem ff_X6_57 : gj_F RX6 57 6 6 10 0 false := ⟨_, _, rfl, kf_X6_57, by decide, rfl, rfl, rfl⟩
theorem ff_X6_64 : gj_F RX6 64 6 7 10 0 false := ⟨_, _, rfl, kf_X6_64, by decide, rfl, rfl, rfl⟩
theorem ff_X6_39 : gj_F RX6 39 6 8 10 0 false := ⟨_, _, rfl, kf_X6_39, by decide, rfl, rfl, rfl⟩
theorem ff_X6_152 : gj_F RX6 152 6 9 10 0 false := ⟨_, _, rfl, kf_X6_152, by decide, rfl, rfl, rfl⟩
theorem mn_X3_35 : (RX3, 35, yX1_init, RX11) ∈ gj_nest := by decide +kernel
theorem ff_X1_11 : gj_F RX1 11 1 0 3 4 true := ⟨_, _, rfl, kf_X1_11, by decide, rfl, rfl, rfl⟩
theorem ff_X1_19 : gj_F RX1 19 1 1 3 0 false := ⟨_, _, rfl, kf_X1_19, by decide, rfl, rfl, rfl⟩
theorem ff_X1_15 : gj_F RX1 15 1 2 3 0 false := ⟨_, _, rfl, kf_X1_15, by decide, rfl, rfl, rfl⟩
theorem ff_X3_46 : gj_F RX3 46 3 0 11 0 false := ⟨_, _, rfl, kf_X3_46, by decide, rfl, rfl, rfl⟩
theorem ff_X8_115 : gj_F RX8 115 3 0 11 0 false := ⟨_, _, rfl, kf_X8_115, by decide, rfl, rfl, rfl⟩
theorem ff_X11_275 : gj_F RX11 275 3 0 11 0 false := ⟨_, _, rfl, kf_X11_275, by decide, rfl, rfl, rfl⟩
theorem ff_X3_50 : gj_F RX3 50 3 1 11 0 false := ⟨_, _, rfl, kf_X3_50, by decide, rfl, rfl, rfl⟩
theorem ff_X8_46 : gj_F RX8 46 3 1 11 0 false := ⟨_, _, rfl, kf_X8_46, by decide, rfl, rfl, rfl⟩
theorem ff_X11_254 : gj_F RX11 254 3 1 11 0 false := ⟨_, _, rfl, kf_X11_254, by decide, rfl, rfl, rfl⟩
theorem ff_X3_53 : gj_F RX3 53 3 2 11 0 false := ⟨_, _, rfl, kf_X3_53, by decide, rfl, rfl, rfl⟩
theorem ff_X11_258 : gj_F RX11 258 3 2 11 0 false := ⟨_, _, rfl, kf_X11_258, by decide, rfl, rfl, rfl⟩
theorem ff_X3_9 : gj_F RX3 9 3 3 11 4 true := ⟨_, _, rfl, kf_X3_9, by decide, rfl, rfl, rfl⟩
theorem ff_X2_36 : gj_F RX2 36 3 3 11 4 true := ⟨_, _, rfl, kf_X2_36, by decide, rfl, rfl, rfl⟩
theorem ff_X4_73 : gj_F RX4 73 3 3 11 4 true := ⟨_, _, rfl, kf_X4_73, by decide, rfl, rfl, rfl⟩
theorem ff_X8_62 : gj_F RX8 62 3 3 11 4 true := ⟨_, _, rfl, kf_X8_62, by decide, rfl, rfl, rfl⟩
theorem ff_X11_143 : gj_F RX11 143 3 3 11 4 true := ⟨_, _, rfl, kf_X11_143, by decide, rfl, rfl, rfl⟩
theorem ff_X3_15 : gj_F RX3 15 3 4 11 4 true := ⟨_, _, rfl, kf_X3_15, by decide, rfl, rfl, rfl⟩
theorem ff_X4_83 : gj_F RX4 83 3 4 11 4 true := ⟨_, _, rfl, kf_X4_83, by decide, rfl, rfl, rfl⟩
theorem ff_X8_124 : gj_F RX8 124 3 4 11 4 true := ⟨_, _, rfl, kf_X8_124, by decide, rfl, rfl, rfl⟩
theorem ff_X11_151 : gj_F RX11 151 3 4 11 4 true := ⟨_, _, rfl, kf_X11_151, by decide, rfl, rfl, rfl⟩
theorem ff_X3_18 : gj_F RX3 18 3 5 11 4 true := ⟨_, _, rfl, kf_X3_18, by decide, rfl, rfl, rfl⟩
theorem ff_X8_98 : gj_F RX8 98 3 5 11 4 true := ⟨_, _, rfl, kf_X8_98, by decide, rfl, rfl, rfl⟩
theorem ff_X11_180 : gj_F RX11 180 3 5 11 4 true := ⟨_, _, rfl, kf_X11_180, by decide, rfl, rfl, rfl⟩
theorem ff_X3_21 : gj_F RX3 21 3 6 11 4 true := ⟨_, _, rfl, kf_X3_21, by decide, rfl, rfl, rfl⟩
theorem ff_X11_154 : gj_F RX11 154 3 6 11 4 true := ⟨_, _, rfl, kf_X11_154, by decide, rfl, rfl, rfl⟩
theorem ff_X3_24 : gj_F RX3 24 3 7 11 4 true := ⟨_, _, rfl, kf_X3_24, by decide, rfl, rfl, rfl⟩
theorem ff_X4_53 : gj_F RX4 53 3 7 11 4 true := ⟨_, _, rfl, kf_X4_53, by decide, rfl, rfl, rfl⟩
theorem ff_X2_111 : gj_F RX2 111 3 7 11 4 true := ⟨_, _, rfl, kf_X2_111, by decide, rfl, rfl, rfl⟩
theorem ff_X11_165 : gj_F RX11 165 3 7 11 4 true := ⟨_, _, rfl, kf_X11_165, by decide, rfl, rfl, rfl⟩
theorem ff_X8_180 : gj_F RX8 180 3 7 11 4 true := ⟨_, _, rfl, kf_X8_180, by decide, rfl, rfl, rfl⟩
theorem ff_X3_27 : gj_F RX3 27 3 8 11 4 true := ⟨_, _, rfl, kf_X3_27, by decide, rfl, rfl, rfl⟩
theorem ff_X4_66 : gj_F RX4 66 3 8 11 4 true := ⟨_, _, rfl, kf_X4_66, by decide, rfl, rfl, rfl⟩
theorem ff_X2_114 : gj_F RX2 114 3 8 11 4 true := ⟨_, _, rfl, kf_X2_114, by decide, rfl, rfl, rfl⟩
theorem ff_X11_168 : gj_F RX11 168 3 8 11 4 true := ⟨_, _, rfl, kf_X11_168, by decide, rfl, rfl, rfl⟩
theorem ff_X8_183 : gj_F RX8 183 3 8 11 4 true := ⟨_, _, rfl, kf_X8_183, by decide, rfl, rfl, rfl⟩
theorem ff_X3_30 : gj_F RX3 30 3 9 11 4 true := ⟨_, _, rfl, kf_X3_30, by decide, rfl, rfl, rfl⟩
theorem ff_X4_70 : gj_F RX4 70 3 9 11 4 true := ⟨_, _, rfl, kf_X4_70, by decide, rfl, rfl, rfl⟩
theorem ff_X8_162 : gj_F RX8 162 3 9 11 4 true := ⟨_, _, rfl, kf_X8_162, by decide, rfl, rfl, rfl⟩
theorem ff_X2_125 : gj_F RX2 125 3 9 11 4 true := ⟨_, _, rfl, kf_X2_125, by decide, rfl, rfl, rfl⟩
theorem ff_X11_171 : gj_F RX11 171 3 9 11 4 true := ⟨_, _, rfl, kf_X11_171, by decide, rfl, rfl, rfl⟩
theorem ff_X3_36 : gj_F RX3 36 3 10 11 4 true := ⟨_, _, rfl, kf_X3_36, by decide, rfl, rfl, rfl⟩
theorem ff_X8_111 : gj_F RX8 111 3 10 11 4 true := ⟨_, _, rfl, kf_X8_111, by decide, rfl, rfl, rfl⟩
theorem ff_X11_285 : gj_F RX11 285 3 10 11 4 true := ⟨_, _, rfl, kf_X11_285, by decide, rfl, rfl, rfl⟩
theorem ff_X4_21 : gj_F RX4 21 4 0 11 4 true := ⟨_, _, rfl, kf_X4_21, by decide, rfl, rfl, rfl⟩
theorem ff_X4_25 : gj_F RX4 25 4 1 11 4 true := ⟨_, _, rfl, kf_X4_25, by decide, rfl, rfl, rfl⟩
theorem ff_X4_9 : gj_F RX4 9 4 2 11 4 true := ⟨_, _, rfl, kf_X4_9, by decide, rfl, rfl, rfl⟩
theorem ff_X4_15 : gj_F RX4 15 4 3 11 4 true := ⟨_, _, rfl, kf_X4_15, by decide, rfl, rfl, rfl⟩
theorem ff_X4_18 : gj_F RX4 18 4 4 11 4 true := ⟨_, _, rfl, kf_X4_18, by decide, rfl, rfl, rfl⟩
theorem ff_X4_29 : gj_F RX4 29 4 5 11 0 false := ⟨_, _, rfl, kf_X4_29, by decide, rfl, rfl, rfl⟩
theorem ff_X4_41 : gj_F RX4 41 4 6 11 0 false := ⟨_, _, rfl, kf_X4_41, by decide, rfl, rfl, rfl⟩
theorem ff_X4_80 : gj_F RX4 80 4 7 11 0 false := ⟨_, _, rfl, kf_X4_80, by decide, rfl, rfl, rfl⟩
theorem ff_X4_86 : gj_F RX4 86 4 8 11 0 false := ⟨_, _, rfl, kf_X4_86, by decide, rfl, rfl, rfl⟩
theorem ff_X4_92 : gj_F RX4 92 4 9 11 0 false := ⟨_, _, rfl, kf_X4_92, by decide, rfl, rfl, rfl⟩
theorem ff_X4_93 : gj_F RX4 93 4 10 11 0 false := ⟨_, _, rfl, kf_X4_93, by decide, rfl, rfl, rfl⟩
theorem ff_X2_28 : gj_F RX2 28 2 0 7 4 true := ⟨_, _, rfl, kf_X2_28, by decide, rfl, rfl, rfl⟩
theorem ff_X2_32 : gj_F RX2 32 2 1 7 4 true := ⟨_, _, rfl, kf_X2_32, by decide, rfl, rfl, rfl⟩
theorem ff_X2_9 : gj_F RX2 9 2 2 7 4 true := ⟨_, _, rfl, kf_X2_9, by decide, rfl, rfl, rfl⟩
theorem ff_X2_15 : gj_F RX2 15 2 3 7 4 true := ⟨_, _, rfl, kf_X2_15, by decide, rfl, rfl, rfl⟩
theorem ff_X2_19 : gj_F RX2 19 2 4 7 4 true := ⟨_, _, rfl, kf_X2_19, by decide, rfl, rfl, rfl⟩
theorem ff_X2_22 : gj_F RX2 22 2 5 7 4 true := ⟨_, _, rfl, kf_X2_22, by decide, rfl, rfl, rfl⟩
theorem ff_X2_25 : gj_F RX2 25 2 6 7 4 true := ⟨_, _, rfl, kf_X2_25, by decide, rfl, rfl, rfl⟩
theorem ff_X8_136 : gj_F RX8 136 2 6 7 4 true := ⟨_, _, rfl, kf_X8_136, by decide, rfl, rfl, rfl⟩
theorem ff_X11_267 : gj_F RX11 267 2 6 7 4 true := ⟨_, _, rfl, kf_X11_267, by decide, rfl, rfl, rfl⟩
theorem ff_X0_18 : gj_F RX0 18 0 0 3 4 true := ⟨_, _, rfl, kf_X0_18, by decide, rfl, rfl, rfl⟩
theorem ff_X0_11 : gj_F RX0 11 0 1 3 4 true := ⟨_, _, rfl, kf_X0_11, by decide, rfl, rfl, rfl⟩
theorem ff_X0_15 : gj_F RX0 15 0 2 3 4 true := ⟨_, _, rfl, kf_X0_15, by decide, rfl, rfl, rfl⟩
theorem ff_X11_300 : gj_F RX11 300 0 2 3 4 true := ⟨_, _, rfl, kf_X11_300, by decide, rfl, rfl, rfl⟩
theorem ff_X8_15 : gj_F RX8 15 7 0 5 4 true := ⟨_, _, rfl, kf_X8_15, by decide, rfl, rfl, rfl⟩
theorem ff_X8_19 : gj_F RX8 19 7 1 5 4 true := ⟨_, _, rfl, kf_X8_19, by decide, rfl, rfl, rfl⟩
theorem ff_X8_23 : gj_F RX8 23 7 2 5 4 true := ⟨_, _, rfl, kf_X8_23, by decide, rfl, rfl, rfl⟩
theorem ff_X8_27 : gj_F RX8 27 7 3 5 4 true := ⟨_, _, rfl, kf_X8_27, by decide, rfl, rfl, rfl⟩
theorem ff_X8_9 : gj_F RX8 9 7 4 5 4 true := ⟨_, _, rfl, kf_X8_9, by decide, rfl, rfl, rfl⟩
theorem ff_X11_10 : gj_F RX11 10 9 0 12 4 true := ⟨_, _, rfl, kf_X11_10, by decide, rfl, rfl, rfl⟩
theorem ff_X11_19 : gj_F RX11 19 9 1 12 4 true := ⟨_, _, rfl, kf_X11_19, by decide, rfl, rfl, rfl⟩
theorem ff_X11_28 : gj_F RX11 28 9 2 12 4 true := ⟨_, _, rfl, kf_X11_28, by decide, rfl, rfl, rfl⟩
theorem ff_X11_32 : gj_F RX11 32 9 3 12 4 true := ⟨_, _, rfl, kf_X11_32, by decide, rfl, rfl, rfl⟩
theorem ff_X11_38 : gj_F RX11 38 9 4 12 4 true := ⟨_, _, rfl, kf_X11_38, by decide, rfl, rfl, rfl⟩
theorem ff_X11_47 : gj_F RX11 47 9 5 12 4 true := ⟨_, _, rfl, kf_X11_47, by decide, rfl, rfl, rfl⟩
theorem ff_X11_54 : gj_F RX11 54 9 6 12 4 true := ⟨_, _, rfl, kf_X11_54, by decide, rfl, rfl, rfl⟩
theorem ff_X11_63 : gj_F RX11 63 9 7 12 4 true := ⟨_, _, rfl, kf_X11_63, by decide, rfl, rfl, rfl⟩
theorem ff_X11_72 : gj_F RX11 72 9 8 12 4 true := ⟨_, _, rfl, kf_X11_72, by decide, rfl, rfl, rfl⟩
theorem ff_X11_76 : gj_F RX11 76 9 9 12 4 true := ⟨_, _, rfl, kf_X11_76, by decide, rfl, rfl, rfl⟩
theorem ff_X11_80 : gj_F RX11 80 9 10 12 4 true := ⟨_, _, rfl, kf_X11_80, by decide, rfl, rfl, rfl⟩
theorem ff_X11_84 : gj_F RX11 84 9 11 12 4 true := ⟨_, _, rfl, kf_X11_84, by decide, rfl, rfl, rfl⟩
theorem ff_X12_7 : gj_F RX12 7 10 0 55 4 true := ⟨_, _, rfl, kf_X12_7, by decide, rfl, rfl, rfl⟩
theorem ff_X12_13 : gj_F RX12 13 10 1 55 4 true := ⟨_, _, rfl, kf_X12_13, by decide, rfl, rfl, rfl⟩
theorem ff_X12_162 : gj_F RX12 162 10 2 55 0 false := ⟨_, _, rfl, kf_X12_162, by decide, rfl, rfl, rfl⟩
theorem ff_X12_180 : gj_F RX12 180 10 3 55 0 false := ⟨_, _, rfl, kf_X12_180, by decide, rfl, rfl, rfl⟩
theorem ff_X12_177 : gj_F RX12 177 10 4 55 0 false := ⟨_, _, rfl, kf_X12_177, by decide, rfl, rfl, rfl⟩
theorem ff_X12_187 : gj_F RX12 187 10 5 55 0 false := ⟨_, _, rfl, kf_X12_187, by decide, rfl, rfl, rfl⟩
theorem ff_X12_205 : gj_F RX12 205 10 6 55 0 false := ⟨_, _, rfl, kf_X12_205, by decide, rfl, rfl, rfl⟩
theorem ff_X12_19 : gj_F RX12 19 10 7 55 4 true := ⟨_, _, rfl, kf_X12_19, by decide, rfl, rfl, rfl⟩
theorem ff_X12_22 : gj_F RX12 22 10 8 55 4 true := ⟨_, _, rfl, kf_X12_22, by decide, rfl, rfl, rfl⟩
theorem ff_X12_25 : gj_F RX12 25 10 9 55 4 true := ⟨_, _, rfl, kf_X12_25, by decide, rfl, rfl, rfl⟩
theorem ff_X12_28 : gj_F RX12 28 10 10 55 4 true := ⟨_, _, rfl, kf_X12_28, by decide, rfl, rfl, rfl⟩
theorem ff_X12_31 : gj_F RX12 31 10 11 55 4 true := ⟨_, _, rfl, kf_X12_31, by decide, rfl, rfl, rfl⟩
theorem ff_X12_34 : gj_F RX12 34 10 12 55 4 true := ⟨_, _, rfl, kf_X12_34, by decide, rfl, rfl, rfl⟩
theorem ff_X12_37 : gj_F RX12 37 10 13 55 4 true := ⟨_, _, rfl, kf_X12_37, by decide, rfl, rfl, rfl⟩
theorem ff_X12_40 : gj_F RX12 40 10 14 55 4 true := ⟨_, _, rfl, kf_X12_40, by decide, rfl, rfl, rfl⟩
theorem ff_X12_44 : gj_F RX12 44 10 15 55 4 true := ⟨_, _, rfl, kf_X12_44, by decide, rfl, rfl, rfl⟩
theorem ff_X12_48 : gj_F RX12 48 10 16 55 4 true := ⟨_, _, rfl, kf_X12_48, by decide, rfl, rfl, rfl⟩
theorem ff_X12_51 : gj_F RX12 51 10 17 55 4 true := ⟨_, _, rfl, kf_X12_51, by decide, rfl, rfl, rfl⟩
theorem ff_X12_260 : gj_F RX12 260 10 18 55 3 false := ⟨_, _, rfl, kf_X12_260, by decide, rfl, rfl, rfl⟩
theorem ff_X12_73 : gj_F RX12 73 10 19 55 4 true := ⟨_, _, rfl, kf_X12_73, by decide, rfl, rfl, rfl⟩
theorem ff_X12_77 : gj_F RX12 77 10 20 55 4 true := ⟨_, _, rfl, kf_X12_77, by decide, rfl, rfl, rfl⟩
theorem ff_X12_80 : gj_F RX12 80 10 21 55 4 true := ⟨_, _, rfl, kf_X12_80, by decide, rfl, rfl, rfl⟩
theorem ff_X12_83 : gj_F RX12 83 10 22 55 4 true := ⟨_, _, rfl, kf_X12_83, by decide, rfl, rfl, rfl⟩
theorem ff_X12_86 : gj_F RX12 86 10 23 55 4 true := ⟨_, _, rfl, kf_X12_86, by decide, rfl, rfl, rfl⟩
theorem ff_X12_89 : gj_F RX12 89 10 24 55 4 true := ⟨_, _, rfl, kf_X12_89, by decide, rfl, rfl, rfl⟩
theorem ff_X12_92 : gj_F RX12 92 10 25 55 4 true := ⟨_, _, rfl, kf_X12_92, by decide, rfl, rfl, rfl⟩
theorem ff_X12_95 : gj_F RX12 95 10 26 55 4 true := ⟨_, _, rfl, kf_X12_95, by decide, rfl, rfl, rfl⟩
theorem ff_X12_264 : gj_F RX12 264 10 27 55 0 false := ⟨_, _, rfl, kf_X12_264, by decide, rfl, rfl, rfl⟩
theorem ff_X12_267 : gj_F RX12 267 10 28 55 0 false := ⟨_, _, rfl, kf_X12_267, by decide, rfl, rfl, rfl⟩
theorem ff_X12_274 : gj_F RX12 274 10 29 55 0 false := ⟨_, _, rfl, kf_X12_274, by decide, rfl, rfl, rfl⟩
theorem ff_X12_270 : gj_F RX12 270 10 30 55 1 false := ⟨_, _, rfl, kf_X12_270, by decide, rfl, rfl, rfl⟩
theorem ff_X12_98 : gj_F RX12 98 10 31 55 4 true := ⟨_, _, rfl, kf_X12_98, by decide, rfl, rfl, rfl⟩
theorem ff_X12_101 : gj_F RX12 101 10 32 55 4 true := ⟨_, _, rfl, kf_X12_101, by decide, rfl, rfl, rfl⟩
theorem ff_X12_104 : gj_F RX12 104 10 33 55 4 true := ⟨_, _, rfl, kf_X12_104, by decide, rfl, rfl, rfl⟩
theorem ff_X12_107 : gj_F RX12 107 10 34 55 4 true := ⟨_, _, rfl, kf_X12_107, by decide, rfl, rfl, rfl⟩
theorem ff_X12_320 : gj_F RX12 320 10 35 55 0 false := ⟨_, _, rfl, kf_X12_320, by decide, rfl, rfl, rfl⟩
theorem ff_X12_323 : gj_F RX12 323 10 36 55 0 false := ⟨_, _, rfl, kf_X12_323, by decide, rfl, rfl, rfl⟩
theorem ff_X12_110 : gj_F RX12 110 10 37 55 0 false := ⟨_, _, rfl, kf_X12_110, by decide, rfl, rfl, rfl⟩
theorem ff_X12_342 : gj_F RX12 342 10 38 55 0 false := ⟨_, _, rfl, kf_X12_342, by decide, rfl, rfl, rfl⟩
theorem ff_X12_114 : gj_F RX12 114 10 39 55 4 true := ⟨_, _, rfl, kf_X12_114, by decide, rfl, rfl, rfl⟩
theorem ff_X12_117 : gj_F RX12 117 10 40 55 4 true := ⟨_, _, rfl, kf_X12_117, by decide, rfl, rfl, rfl⟩
theorem ff_X12_120 : gj_F RX12 120 10 41 55 4 true := ⟨_, _, rfl, kf_X12_120, by decide, rfl, rfl, rfl⟩
theorem ff_X12_123 : gj_F RX12 123 10 42 55 4 true := ⟨_, _, rfl, kf_X12_123, by decide, rfl, rfl, rfl⟩
theorem ff_X12_126 : gj_F RX12 126 10 43 55 4 true := ⟨_, _, rfl, kf_X12_126, by decide, rfl, rfl, rfl⟩
theorem ff_X12_129 : gj_F RX12 129 10 44 55 4 true := ⟨_, _, rfl, kf_X12_129, by decide, rfl, rfl, rfl⟩
theorem ff_X12_132 : gj_F RX12 132 10 45 55 4 true := ⟨_, _, rfl, kf_X12_132, by decide, rfl, rfl, rfl⟩
theorem ff_X12_429 : gj_F RX12 429 10 46 55 0 false := ⟨_, _, rfl, kf_X12_429, by decide, rfl, rfl, rfl⟩
theorem ff_X12_135 : gj_F RX12 135 10 47 55 4 true := ⟨_, _, rfl, kf_X12_135, by decide, rfl, rfl, rfl⟩
theorem ff_X12_138 : gj_F RX12 138 10 48 55 4 true := ⟨_, _, rfl, kf_X12_138, by decide, rfl, rfl, rfl⟩
theorem ff_X12_141 : gj_F RX12 141 10 49 55 4 true := ⟨_, _, rfl, kf_X12_141, by decide, rfl, rfl, rfl⟩
theorem ff_X12_144 : gj_F RX12 144 10 50 55 4 true := ⟨_, _, rfl, kf_X12_144, by decide, rfl, rfl, rfl⟩
theorem ff_X12_147 : gj_F RX12 147 10 51 55 4 true := ⟨_, _, rfl, kf_X12_147, by decide, rfl, rfl, rfl⟩
theorem ff_X12_150 : gj_F RX12 150 10 52 55 4 true := ⟨_, _, rfl, kf_X12_150, by decide, rfl, rfl, rfl⟩
theorem ff_X12_153 : gj_F RX12 153 10 53 55 4 true := ⟨_, _, rfl, kf_X12_153, by decide, rfl, rfl, rfl⟩
theorem ff_X12_447 : gj_F RX12 447 10 54 55 0 false := ⟨_, _, rfl, kf_X12_447, by decide, rfl, rfl, rfl⟩
theorem me_J0_charAt_5068e : gj_MV yJ0_charAt_5068e cJ0_charAt_5068e 2 (some .char) 1 := ⟨⟨kd_J0_charAt_5068e, ini_J0, ⟨by decide, by decide⟩, by decide +kernel⟩, ki_J0_charAt_5068e, ks_J0_charAt_5068e⟩
theorem me_J0_checkIndex_df160 : gj_MS yJ0_checkIndex_df160 cJ0_checkIndex_df160 2 none 2 := ⟨⟨kd_J0_checkIndex_df160, ini_J0, ⟨by decide, by decide⟩, by decide +kernel⟩, kt_J0_checkIndex_df160⟩
theorem me_J0_coder_7d493 : gj_MV yJ0_coder_7d493 cJ0_coder_7d493 1 (some .byte) 0 := ⟨⟨kd_J0_coder_7d493, ini_J0, ⟨by decide, by decide⟩, by decide +kernel⟩, ki_J0_coder_7d493, ks_J0_coder_7d493⟩
theorem me_J0_isLatin1_aae02 : gj_MV yJ0_isLatin1_aae02 cJ0_isLatin1_aae02 1 (some .boolean) 0 := ⟨⟨kd_J0_isLatin1_aae02, ini_J0, ⟨by decide, by decide⟩, by decide +kernel⟩, ki_J0_isLatin1_aae02, ks_J0_isLatin1_aae02⟩
theorem me_J0_length_8abf5 : gj_MV yJ0_length_8abf5 cJ0_length_8abf5 1 (some .int) 0 := ⟨⟨kd_J0_length_8abf5, ini_J0, ⟨by decide, by decide⟩, by decide +kernel⟩, ki_J0_length_8abf5, ks_J0_length_8abf5⟩
theorem me_J1_charAt_3b067 : gj_MS yJ1_charAt_3b067 cJ1_charAt_3b067 2 (some .char) 2 := ⟨⟨kd_J1_charAt_3b067, ini_J1, ⟨by decide, by decide⟩, by decide +kernel⟩, kt_J1_charAt_3b067⟩
theorem me_J2_charAt_3b067 : gj_MS yJ2_charAt_3b067 cJ2_charAt_3b067 2 (some .char) 2 := ⟨⟨kd_J2_charAt_3b067, ini_J2, ⟨by decide, by decide⟩, by decide +kernel⟩, kt_J2_charAt_3b067⟩
theorem me_J2_checkIndex_2214a : gj_MS yJ2_checkIndex_2214a cJ2_checkIndex_2214a 2 none 2 := ⟨⟨kd_J2_checkIndex_2214a, ini_J2, ⟨by decide, by decide⟩, by decide +kernel⟩, kt_J2_checkIndex_2214a⟩
theorem me_J2_getChar_3b067 : gj_MS yJ2_getChar_3b067 cJ2_getChar_3b067 2 (some .char) 2 := ⟨⟨kd_J2_getChar_3b067, ini_J2, ⟨by decide, by decide⟩, by decide +kernel⟩, kt_J2_getChar_3b067⟩
theorem me_J2_length_9d52b : gj_MS yJ2_length_9d52b cJ2_length_9d52b 1 (some .int) 1 := ⟨⟨kd_J2_length_9d52b, ini_J2, ⟨by decide, by decide⟩, by decide +kernel⟩, kt_J2_length_9d52b⟩
theorem me_J3_checkIndex_8e157 : gj_MS yJ3_checkIndex_8e157 cJ3_checkIndex_8e157 3 (some .int) 3 := ⟨⟨kd_J3_checkIndex_8e157, ini_J3, ⟨by decide, by decide⟩, by decide +kernel⟩, kt_J3_checkIndex_8e157⟩
theorem me_J9_max_7cf53 : gj_MS yJ9_max_7cf53 cJ9_max_7cf53 2 (some .int) 2 := ⟨⟨kd_J9_max_7cf53, ini_J9, ⟨by decide, by decide⟩, by decide +kernel⟩, kt_J9_max_7cf53⟩
theorem me_J9_max_f86c9 : gj_MS yJ9_max_f86c9 cJ9_max_f86c9 4 (some .long) 2 := ⟨⟨kd_J9_max_f86c9, ini_J9, ⟨by decide, by decide⟩, by decide +kernel⟩, kt_J9_max_f86c9⟩
theorem me_J9_min_7cf53 : gj_MS yJ9_min_7cf53 cJ9_min_7cf53 2 (some .int) 2 := ⟨⟨kd_J9_min_7cf53, ini_J9, ⟨by decide, by decide⟩, by decide +kernel⟩, kt_J9_min_7cf53⟩
theorem me_X0_choose : gj_MV yX0_choose cX0_choose 4 none 0 := ⟨⟨kd_X0_choose, ini_X0, ⟨by decide, by decide⟩, by decide +kernel⟩, ki_X0_choose, ks_X0_choose⟩
theorem me_X0_init : gj_MI yX0_init cX0_init 2 1 := ⟨⟨kd_X0_init, ini_X0, ⟨by decide, by decide⟩, by decide +kernel⟩, ki_X0_init, rfl⟩
theorem me_X0_spread : gj_MV yX0_spread cX0_spread 6 (some .boolean) 1 := ⟨⟨kd_X0_spread, ini_X0, ⟨by decide, by decide⟩, by decide +kernel⟩, ki_X0_spread, ks_X0_spread⟩
theorem me_X10_couple : gj_MS yX10_couple cX10_couple 2 (some .int) 2 := ⟨⟨kd_X10_couple, ini_X10, ⟨by decide, by decide⟩, by decide +kernel⟩, kt_X10_couple⟩
theorem me_X10_facing : gj_MS yX10_facing cX10_facing 2 (some .int) 2 := ⟨⟨kd_X10_facing, ini_X10, ⟨by decide, by decide⟩, by decide +kernel⟩, kt_X10_facing⟩
theorem me_X10_numberOf : gj_MS yX10_numberOf cX10_numberOf 1 (some .int) 1 := ⟨⟨kd_X10_numberOf, ini_X10, ⟨by decide, by decide⟩, by decide +kernel⟩, kt_X10_numberOf⟩
theorem me_X10_placeOf : gj_MS yX10_placeOf cX10_placeOf 1 (some .int) 1 := ⟨⟨kd_X10_placeOf, ini_X10, ⟨by decide, by decide⟩, by decide +kernel⟩, kt_X10_placeOf⟩
theorem me_X10_unlike : gj_MS yX10_unlike cX10_unlike 2 (some .boolean) 2 := ⟨⟨kd_X10_unlike, ini_X10, ⟨by decide, by decide⟩, by decide +kernel⟩, kt_X10_unlike⟩
theorem me_X10_view : gj_MS yX10_view cX10_view 2 (some .int) 2 := ⟨⟨kd_X10_view, ini_X10, ⟨by decide, by decide⟩, by decide +kernel⟩, kt_X10_view⟩
theorem me_X11_act : gj_MV yX11_act cX11_act 6 (some .int) 3 := ⟨⟨kd_X11_act, ini_X11, ⟨by decide, by decide⟩, by decide +kernel⟩, ki_X11_act, ks_X11_act⟩
theorem me_X11_bar : gj_MV yX11_bar cX11_bar 7 (some .int) 4 := ⟨⟨kd_X11_bar, ini_X11, ⟨by decide, by decide⟩, by decide +kernel⟩, ki_X11_bar, ks_X11_bar⟩
theorem me_X11_best : gj_MV yX11_best cX11_best 5 (some .int) 3 := ⟨⟨kd_X11_best, ini_X11, ⟨by decide, by decide⟩, by decide +kernel⟩, ki_X11_best, ks_X11_best⟩
theorem me_X11_blocks : gj_MV yX11_blocks cX11_blocks 5 (some .int) 1 := ⟨⟨kd_X11_blocks, ini_X11, ⟨by decide, by decide⟩, by decide +kernel⟩, ki_X11_blocks, ks_X11_blocks⟩
theorem me_X11_canReckon : gj_MS yX11_canReckon cX11_canReckon 1 (some .boolean) 1 := ⟨⟨kd_X11_canReckon, ini_X11, ⟨by decide, by decide⟩, by decide +kernel⟩, kt_X11_canReckon⟩
theorem me_X11_count : gj_MV yX11_count cX11_count 3 (some .int) 1 := ⟨⟨kd_X11_count, ini_X11, ⟨by decide, by decide⟩, by decide +kernel⟩, ki_X11_count, ks_X11_count⟩
theorem me_X11_earned : gj_MV yX11_earned cX11_earned 3 (some .int) 1 := ⟨⟨kd_X11_earned, ini_X11, ⟨by decide, by decide⟩, by decide +kernel⟩, ki_X11_earned, ks_X11_earned⟩
theorem me_X11_end : gj_MV yX11_end cX11_end 2 (some .boolean) 1 := ⟨⟨kd_X11_end, ini_X11, ⟨by decide, by decide⟩, by decide +kernel⟩, ki_X11_end, ks_X11_end⟩
theorem me_X11_fault : gj_MV yX11_fault cX11_fault 1 (some .int) 0 := ⟨⟨kd_X11_fault, ini_X11, ⟨by decide, by decide⟩, by decide +kernel⟩, ki_X11_fault, ks_X11_fault⟩
theorem me_X11_feed : gj_MV yX11_feed cX11_feed 6 (some .int) 5 := ⟨⟨kd_X11_feed, ini_X11, ⟨by decide, by decide⟩, by decide +kernel⟩, ki_X11_feed, ks_X11_feed⟩
theorem me_X11_green : gj_MV yX11_green cX11_green 4 (some .int) 2 := ⟨⟨kd_X11_green, ini_X11, ⟨by decide, by decide⟩, by decide +kernel⟩, ki_X11_green, ks_X11_green⟩
theorem me_X11_image : gj_MV yX11_image cX11_image 3 (some .boolean) 1 := ⟨⟨kd_X11_image, ini_X11, ⟨by decide, by decide⟩, by decide +kernel⟩, ki_X11_image, ks_X11_image⟩
theorem me_X11_init : gj_MI yX11_init cX11_init 2 0 := ⟨⟨kd_X11_init, ini_X11, ⟨by decide, by decide⟩, by decide +kernel⟩, ki_X11_init, rfl⟩
theorem me_X11_join : gj_MV yX11_join cX11_join 5 (some .boolean) 2 := ⟨⟨kd_X11_join, ini_X11, ⟨by decide, by decide⟩, by decide +kernel⟩, ki_X11_join, ks_X11_join⟩
theorem me_X11_life : gj_MV yX11_life cX11_life 4 (some .int) 2 := ⟨⟨kd_X11_life, ini_X11, ⟨by decide, by decide⟩, by decide +kernel⟩, ki_X11_life, ks_X11_life⟩
theorem me_X11_liking : gj_MV yX11_liking cX11_liking 5 (some .int) 2 := ⟨⟨kd_X11_liking, ini_X11, ⟨by decide, by decide⟩, by decide +kernel⟩, ki_X11_liking, ks_X11_liking⟩
theorem me_X11_log : gj_MV yX11_log cX11_log 3 (some .int) 2 := ⟨⟨kd_X11_log, ini_X11, ⟨by decide, by decide⟩, by decide +kernel⟩, ki_X11_log, ks_X11_log⟩
theorem me_X11_may : gj_MV yX11_may cX11_may 3 (some .int) 1 := ⟨⟨kd_X11_may, ini_X11, ⟨by decide, by decide⟩, by decide +kernel⟩, ki_X11_may, ks_X11_may⟩
theorem me_X11_never : gj_MV yX11_never cX11_never 2 (some .int) 1 := ⟨⟨kd_X11_never, ini_X11, ⟨by decide, by decide⟩, by decide +kernel⟩, ki_X11_never, ks_X11_never⟩
theorem me_X11_neverTried : gj_MV yX11_neverTried cX11_neverTried 4 (some .int) 0 := ⟨⟨kd_X11_neverTried, ini_X11, ⟨by decide, by decide⟩, by decide +kernel⟩, ki_X11_neverTried, ks_X11_neverTried⟩
theorem me_X11_on : gj_MV yX11_on cX11_on 3 (some .boolean) 1 := ⟨⟨kd_X11_on, ini_X11, ⟨by decide, by decide⟩, by decide +kernel⟩, ki_X11_on, ks_X11_on⟩
theorem me_X11_pairs : gj_MV yX11_pairs cX11_pairs 3 (some .int) 2 := ⟨⟨kd_X11_pairs, ini_X11, ⟨by decide, by decide⟩, by decide +kernel⟩, ki_X11_pairs, ks_X11_pairs⟩
theorem me_X11_parents : gj_MV yX11_parents cX11_parents 3 (some .int) 1 := ⟨⟨kd_X11_parents, ini_X11, ⟨by decide, by decide⟩, by decide +kernel⟩, ki_X11_parents, ks_X11_parents⟩
theorem me_X11_part : gj_MV yX11_part cX11_part 4 (some .boolean) 1 := ⟨⟨kd_X11_part, ini_X11, ⟨by decide, by decide⟩, by decide +kernel⟩, ki_X11_part, ks_X11_part⟩
theorem me_X11_person : gj_MV yX11_person cX11_person 4 (some .int) 2 := ⟨⟨kd_X11_person, ini_X11, ⟨by decide, by decide⟩, by decide +kernel⟩, ki_X11_person, ks_X11_person⟩
theorem me_X11_pictureAt : gj_MV yX11_pictureAt cX11_pictureAt 2 (some (.object "MayGreen$Life")) 1 := ⟨⟨kd_X11_pictureAt, ini_X11, ⟨by decide, by decide⟩, by decide +kernel⟩, ki_X11_pictureAt, ks_X11_pictureAt⟩
theorem me_X11_price : gj_MV yX11_price cX11_price 4 (some .int) 2 := ⟨⟨kd_X11_price, ini_X11, ⟨by decide, by decide⟩, by decide +kernel⟩, ki_X11_price, ks_X11_price⟩
theorem me_X11_refuse : gj_MV yX11_refuse cX11_refuse 2 (some .boolean) 1 := ⟨⟨kd_X11_refuse, ini_X11, ⟨by decide, by decide⟩, by decide +kernel⟩, ki_X11_refuse, ks_X11_refuse⟩
theorem me_X11_seed : gj_MV yX11_seed cX11_seed 2 (some .boolean) 1 := ⟨⟨kd_X11_seed, ini_X11, ⟨by decide, by decide⟩, by decide +kernel⟩, ki_X11_seed, ks_X11_seed⟩
theorem me_X11_shown : gj_MV yX11_shown cX11_shown 10 (some .int) 3 := ⟨⟨kd_X11_shown, ini_X11, ⟨by decide, by decide⟩, by decide +kernel⟩, ki_X11_shown, ks_X11_shown⟩
theorem me_X11_silent : gj_MV yX11_silent cX11_silent 4 (some .int) 2 := ⟨⟨kd_X11_silent, ini_X11, ⟨by decide, by decide⟩, by decide +kernel⟩, ki_X11_silent, ks_X11_silent⟩
theorem me_X11_sooner : gj_MV yX11_sooner cX11_sooner 7 (some .int) 3 := ⟨⟨kd_X11_sooner, ini_X11, ⟨by decide, by decide⟩, by decide +kernel⟩, ki_X11_sooner, ks_X11_sooner⟩
theorem me_X11_status : gj_MV yX11_status cX11_status 2 (some .int) 1 := ⟨⟨kd_X11_status, ini_X11, ⟨by decide, by decide⟩, by decide +kernel⟩, ki_X11_status, ks_X11_status⟩
theorem me_X11_think : gj_MV yX11_think cX11_think 7 (some .int) 3 := ⟨⟨kd_X11_think, ini_X11, ⟨by decide, by decide⟩, by decide +kernel⟩, ki_X11_think, ks_X11_think⟩
theorem me_X11_two : gj_MV yX11_two cX11_two 7 (some .int) 3 := ⟨⟨kd_X11_two, ini_X11, ⟨by decide, by decide⟩, by decide +kernel⟩, ki_X11_two, ks_X11_two⟩
theorem me_X11_village : gj_MV yX11_village cX11_village 1 (some .int) 0 := ⟨⟨kd_X11_village, ini_X11, ⟨by decide, by decide⟩, by decide +kernel⟩, ki_X11_village, ks_X11_village⟩
theorem me_X11_waits : gj_MV yX11_waits cX11_waits 9 (some .int) 3 := ⟨⟨kd_X11_waits, ini_X11, ⟨by decide, by decide⟩, by decide +kernel⟩, ki_X11_waits, ks_X11_waits⟩
theorem me_X11_way : gj_MV yX11_way cX11_way 2 (some .boolean) 1 := ⟨⟨kd_X11_way, ini_X11, ⟨by decide, by decide⟩, by decide +kernel⟩, ki_X11_way, ks_X11_way⟩
theorem me_X12_act : gj_MV yX12_act cX12_act 6 (some .int) 3 := ⟨⟨kd_X12_act, ini_X12, ⟨by decide, by decide⟩, by decide +kernel⟩, ki_X12_act, ks_X12_act⟩
theorem me_X12_areMays : gj_MS yX12_areMays cX12_areMays 1 (some .boolean) 1 := ⟨⟨kd_X12_areMays, ini_X12, ⟨by decide, by decide⟩, by decide +kernel⟩, kt_X12_areMays⟩
theorem me_X12_areTwo : gj_MS yX12_areTwo cX12_areTwo 2 (some .boolean) 2 := ⟨⟨kd_X12_areTwo, ini_X12, ⟨by decide, by decide⟩, by decide +kernel⟩, kt_X12_areTwo⟩
theorem me_X12_asked : gj_MV yX12_asked cX12_asked 3 none 0 := ⟨⟨kd_X12_asked, ini_X12, ⟨by decide, by decide⟩, by decide +kernel⟩, ki_X12_asked, ks_X12_asked⟩
theorem me_X12_asks : gj_MV yX12_asks cX12_asks 8 none 1 := ⟨⟨kd_X12_asks, ini_X12, ⟨by decide, by decide⟩, by decide +kernel⟩, ki_X12_asks, ks_X12_asks⟩
theorem me_X12_bar : gj_MV yX12_bar cX12_bar 10 (some .int) 4 := ⟨⟨kd_X12_bar, ini_X12, ⟨by decide, by decide⟩, by decide +kernel⟩, ki_X12_bar, ks_X12_bar⟩
theorem me_X12_best : gj_MV yX12_best cX12_best 6 (some .int) 3 := ⟨⟨kd_X12_best, ini_X12, ⟨by decide, by decide⟩, by decide +kernel⟩, ki_X12_best, ks_X12_best⟩
theorem me_X12_bestOf : gj_MV yX12_bestOf cX12_bestOf 3 (some .int) 2 := ⟨⟨kd_X12_bestOf, ini_X12, ⟨by decide, by decide⟩, by decide +kernel⟩, ki_X12_bestOf, ks_X12_bestOf⟩
theorem me_X12_between : gj_MV yX12_between cX12_between 4 (some .boolean) 3 := ⟨⟨kd_X12_between, ini_X12, ⟨by decide, by decide⟩, by decide +kernel⟩, ki_X12_between, ks_X12_between⟩
theorem me_X12_blocks : gj_MV yX12_blocks cX12_blocks 5 (some .int) 1 := ⟨⟨kd_X12_blocks, ini_X12, ⟨by decide, by decide⟩, by decide +kernel⟩, ki_X12_blocks, ks_X12_blocks⟩
theorem me_X12_both : gj_MV yX12_both cX12_both 3 (some .boolean) 2 := ⟨⟨kd_X12_both, ini_X12, ⟨by decide, by decide⟩, by decide +kernel⟩, ki_X12_both, ks_X12_both⟩
theorem me_X12_by : gj_MV yX12_by cX12_by 6 (some .int) 4 := ⟨⟨kd_X12_by, ini_X12, ⟨by decide, by decide⟩, by decide +kernel⟩, ki_X12_by, ks_X12_by⟩
theorem me_X12_byLot : gj_MV yX12_byLot cX12_byLot 5 none 0 := ⟨⟨kd_X12_byLot, ini_X12, ⟨by decide, by decide⟩, by decide +kernel⟩, ki_X12_byLot, ks_X12_byLot⟩
theorem me_X12_closes : gj_MV yX12_closes cX12_closes 1 (some .boolean) 0 := ⟨⟨kd_X12_closes, ini_X12, ⟨by decide, by decide⟩, by decide +kernel⟩, ki_X12_closes, ks_X12_closes⟩
theorem me_X12_copies : gj_MS yX12_copies cX12_copies 2 none 1 := ⟨⟨kd_X12_copies, ini_X12, ⟨by decide, by decide⟩, by decide +kernel⟩, kt_X12_copies⟩
theorem me_X12_count : gj_MV yX12_count cX12_count 2 (some .int) 1 := ⟨⟨kd_X12_count, ini_X12, ⟨by decide, by decide⟩, by decide +kernel⟩, ki_X12_count, ks_X12_count⟩
theorem me_X12_coupleOf : gj_MS yX12_coupleOf cX12_coupleOf 2 (some .int) 2 := ⟨⟨kd_X12_coupleOf, ini_X12, ⟨by decide, by decide⟩, by decide +kernel⟩, kt_X12_coupleOf⟩
theorem me_X12_deny : gj_MV yX12_deny cX12_deny 2 (some .boolean) 1 := ⟨⟨kd_X12_deny, ini_X12, ⟨by decide, by decide⟩, by decide +kernel⟩, ki_X12_deny, ks_X12_deny⟩
theorem me_X12_earned : gj_MV yX12_earned cX12_earned 3 (some .int) 1 := ⟨⟨kd_X12_earned, ini_X12, ⟨by decide, by decide⟩, by decide +kernel⟩, ki_X12_earned, ks_X12_earned⟩
theorem me_X12_end : gj_MV yX12_end cX12_end 2 (some .boolean) 1 := ⟨⟨kd_X12_end, ini_X12, ⟨by decide, by decide⟩, by decide +kernel⟩, ki_X12_end, ks_X12_end⟩
theorem me_X12_fault : gj_MV yX12_fault cX12_fault 1 (some .int) 0 := ⟨⟨kd_X12_fault, ini_X12, ⟨by decide, by decide⟩, by decide +kernel⟩, ki_X12_fault, ks_X12_fault⟩
theorem me_X12_feed : gj_MV yX12_feed cX12_feed 6 (some .int) 5 := ⟨⟨kd_X12_feed, ini_X12, ⟨by decide, by decide⟩, by decide +kernel⟩, ki_X12_feed, ks_X12_feed⟩
theorem me_X12_feeds : gj_MV yX12_feeds cX12_feeds 3 none 1 := ⟨⟨kd_X12_feeds, ini_X12, ⟨by decide, by decide⟩, by decide +kernel⟩, ki_X12_feeds, ks_X12_feeds⟩
theorem me_X12_findsParents : gj_MV yX12_findsParents cX12_findsParents 2 none 0 := ⟨⟨kd_X12_findsParents, ini_X12, ⟨by decide, by decide⟩, by decide +kernel⟩, ki_X12_findsParents, ks_X12_findsParents⟩
theorem me_X12_fitRead : gj_MV yX12_fitRead cX12_fitRead 3 (some .boolean) 0 := ⟨⟨kd_X12_fitRead, ini_X12, ⟨by decide, by decide⟩, by decide +kernel⟩, ki_X12_fitRead, ks_X12_fitRead⟩
theorem me_X12_found : gj_MV yX12_found cX12_found 5 (some .int) 0 := ⟨⟨kd_X12_found, ini_X12, ⟨by decide, by decide⟩, by decide +kernel⟩, ki_X12_found, ks_X12_found⟩
theorem me_X12_gives : gj_MV yX12_gives cX12_gives 3 none 2 := ⟨⟨kd_X12_gives, ini_X12, ⟨by decide, by decide⟩, by decide +kernel⟩, ki_X12_gives, ks_X12_gives⟩
theorem me_X12_goes : gj_MV yX12_goes cX12_goes 3 none 1 := ⟨⟨kd_X12_goes, ini_X12, ⟨by decide, by decide⟩, by decide +kernel⟩, ki_X12_goes, ks_X12_goes⟩
theorem me_X12_green : gj_MV yX12_green cX12_green 5 (some .int) 2 := ⟨⟨kd_X12_green, ini_X12, ⟨by decide, by decide⟩, by decide +kernel⟩, ki_X12_green, ks_X12_green⟩
theorem me_X12_image : gj_MV yX12_image cX12_image 2 (some .boolean) 1 := ⟨⟨kd_X12_image, ini_X12, ⟨by decide, by decide⟩, by decide +kernel⟩, ki_X12_image, ks_X12_image⟩
theorem me_X12_in : gj_MS yX12_in cX12_in 6 (some .boolean) 3 := ⟨⟨kd_X12_in, ini_X12, ⟨by decide, by decide⟩, by decide +kernel⟩, kt_X12_in⟩
theorem me_X12_inTurn : gj_MV yX12_inTurn cX12_inTurn 4 none 0 := ⟨⟨kd_X12_inTurn, ini_X12, ⟨by decide, by decide⟩, by decide +kernel⟩, ki_X12_inTurn, ks_X12_inTurn⟩
theorem me_X12_init : gj_MI yX12_init cX12_init 1 0 := ⟨⟨kd_X12_init, ini_X12, ⟨by decide, by decide⟩, by decide +kernel⟩, ki_X12_init, rfl⟩
theorem me_X12_into : gj_MV yX12_into cX12_into 6 (some .boolean) 4 := ⟨⟨kd_X12_into, ini_X12, ⟨by decide, by decide⟩, by decide +kernel⟩, ki_X12_into, ks_X12_into⟩
theorem me_X12_isFree : gj_MV yX12_isFree cX12_isFree 3 (some .boolean) 2 := ⟨⟨kd_X12_isFree, ini_X12, ⟨by decide, by decide⟩, by decide +kernel⟩, ki_X12_isFree, ks_X12_isFree⟩
theorem me_X12_isSilent : gj_MV yX12_isSilent cX12_isSilent 4 (some .boolean) 2 := ⟨⟨kd_X12_isSilent, ini_X12, ⟨by decide, by decide⟩, by decide +kernel⟩, ki_X12_isSilent, ks_X12_isSilent⟩
theorem me_X12_isSooner : gj_MV yX12_isSooner cX12_isSooner 6 (some .boolean) 3 := ⟨⟨kd_X12_isSooner, ini_X12, ⟨by decide, by decide⟩, by decide +kernel⟩, ki_X12_isSooner, ks_X12_isSooner⟩
theorem me_X12_join : gj_MV yX12_join cX12_join 5 (some .boolean) 2 := ⟨⟨kd_X12_join, ini_X12, ⟨by decide, by decide⟩, by decide +kernel⟩, ki_X12_join, ks_X12_join⟩
theorem me_X12_joins : gj_MV yX12_joins cX12_joins 3 none 2 := ⟨⟨kd_X12_joins, ini_X12, ⟨by decide, by decide⟩, by decide +kernel⟩, ki_X12_joins, ks_X12_joins⟩
theorem me_X12_lays : gj_MV yX12_lays cX12_lays 5 none 1 := ⟨⟨kd_X12_lays, ini_X12, ⟨by decide, by decide⟩, by decide +kernel⟩, ki_X12_lays, ks_X12_lays⟩
theorem me_X12_life : gj_MV yX12_life cX12_life 4 (some .int) 2 := ⟨⟨kd_X12_life, ini_X12, ⟨by decide, by decide⟩, by decide +kernel⟩, ki_X12_life, ks_X12_life⟩
theorem me_X12_lifeOf : gj_MV yX12_lifeOf cX12_lifeOf 5 (some .int) 2 := ⟨⟨kd_X12_lifeOf, ini_X12, ⟨by decide, by decide⟩, by decide +kernel⟩, ki_X12_lifeOf, ks_X12_lifeOf⟩
theorem me_X12_likes : gj_MV yX12_likes cX12_likes 4 (some .int) 3 := ⟨⟨kd_X12_likes, ini_X12, ⟨by decide, by decide⟩, by decide +kernel⟩, ki_X12_likes, ks_X12_likes⟩
theorem me_X12_likesNow : gj_MV yX12_likesNow cX12_likesNow 3 (some .int) 2 := ⟨⟨kd_X12_likesNow, ini_X12, ⟨by decide, by decide⟩, by decide +kernel⟩, ki_X12_likesNow, ks_X12_likesNow⟩
theorem me_X12_liking : gj_MV yX12_liking cX12_liking 5 (some .int) 2 := ⟨⟨kd_X12_liking, ini_X12, ⟨by decide, by decide⟩, by decide +kernel⟩, ki_X12_liking, ks_X12_liking⟩
theorem me_X12_line : gj_MV yX12_line cX12_line 2 (some .boolean) 0 := ⟨⟨kd_X12_line, ini_X12, ⟨by decide, by decide⟩, by decide +kernel⟩, ki_X12_line, ks_X12_line⟩
theorem me_X12_lives : gj_MV yX12_lives cX12_lives 6 none 1 := ⟨⟨kd_X12_lives, ini_X12, ⟨by decide, by decide⟩, by decide +kernel⟩, ki_X12_lives, ks_X12_lives⟩
theorem me_X12_log : gj_MV yX12_log cX12_log 3 (some .int) 2 := ⟨⟨kd_X12_log, ini_X12, ⟨by decide, by decide⟩, by decide +kernel⟩, ki_X12_log, ks_X12_log⟩
theorem me_X12_lot : gj_MV yX12_lot cX12_lot 2 (some .int) 1 := ⟨⟨kd_X12_lot, ini_X12, ⟨by decide, by decide⟩, by decide +kernel⟩, ki_X12_lot, ks_X12_lot⟩
theorem me_X12_mateOf : gj_MV yX12_mateOf cX12_mateOf 2 (some .int) 1 := ⟨⟨kd_X12_mateOf, ini_X12, ⟨by decide, by decide⟩, by decide +kernel⟩, ki_X12_mateOf, ks_X12_mateOf⟩
theorem me_X12_may : gj_MV yX12_may cX12_may 2 none 0 := ⟨⟨kd_X12_may, ini_X12, ⟨by decide, by decide⟩, by decide +kernel⟩, ki_X12_may, ks_X12_may⟩
theorem me_X12_may_ : gj_MV yX12_may_ cX12_may_ 3 (some .int) 1 := ⟨⟨kd_X12_may_, ini_X12, ⟨by decide, by decide⟩, by decide +kernel⟩, ki_X12_may_, ks_X12_may_⟩
theorem me_X12_move : gj_MV yX12_move cX12_move 5 none 3 := ⟨⟨kd_X12_move, ini_X12, ⟨by decide, by decide⟩, by decide +kernel⟩, ki_X12_move, ks_X12_move⟩
theorem me_X12_moves : gj_MV yX12_moves cX12_moves 3 none 2 := ⟨⟨kd_X12_moves, ini_X12, ⟨by decide, by decide⟩, by decide +kernel⟩, ki_X12_moves, ks_X12_moves⟩
theorem me_X12_nameHere : gj_MV yX12_nameHere cX12_nameHere 4 (some .long) 0 := ⟨⟨kd_X12_nameHere, ini_X12, ⟨by decide, by decide⟩, by decide +kernel⟩, ki_X12_nameHere, ks_X12_nameHere⟩
theorem me_X12_never : gj_MV yX12_never cX12_never 4 (some .int) 1 := ⟨⟨kd_X12_never, ini_X12, ⟨by decide, by decide⟩, by decide +kernel⟩, ki_X12_never, ks_X12_never⟩
theorem me_X12_next : gj_MV yX12_next cX12_next 1 none 0 := ⟨⟨kd_X12_next, ini_X12, ⟨by decide, by decide⟩, by decide +kernel⟩, ki_X12_next, ks_X12_next⟩
theorem me_X12_notes : gj_MV yX12_notes cX12_notes 5 none 2 := ⟨⟨kd_X12_notes, ini_X12, ⟨by decide, by decide⟩, by decide +kernel⟩, ki_X12_notes, ks_X12_notes⟩
theorem me_X12_on : gj_MV yX12_on cX12_on 2 (some .boolean) 1 := ⟨⟨kd_X12_on, ini_X12, ⟨by decide, by decide⟩, by decide +kernel⟩, ki_X12_on, ks_X12_on⟩
theorem me_X12_onceRead : gj_MV yX12_onceRead cX12_onceRead 3 (some .boolean) 1 := ⟨⟨kd_X12_onceRead, ini_X12, ⟨by decide, by decide⟩, by decide +kernel⟩, ki_X12_onceRead, ks_X12_onceRead⟩
theorem me_X12_othersMany : gj_MV yX12_othersMany cX12_othersMany 1 (some .int) 0 := ⟨⟨kd_X12_othersMany, ini_X12, ⟨by decide, by decide⟩, by decide +kernel⟩, ki_X12_othersMany, ks_X12_othersMany⟩
theorem me_X12_pairs : gj_MV yX12_pairs cX12_pairs 5 (some .int) 2 := ⟨⟨kd_X12_pairs, ini_X12, ⟨by decide, by decide⟩, by decide +kernel⟩, ki_X12_pairs, ks_X12_pairs⟩
theorem me_X12_parents : gj_MV yX12_parents cX12_parents 3 (some .int) 1 := ⟨⟨kd_X12_parents, ini_X12, ⟨by decide, by decide⟩, by decide +kernel⟩, ki_X12_parents, ks_X12_parents⟩
theorem me_X12_parentsFrom : gj_MV yX12_parentsFrom cX12_parentsFrom 4 none 1 := ⟨⟨kd_X12_parentsFrom, ini_X12, ⟨by decide, by decide⟩, by decide +kernel⟩, ki_X12_parentsFrom, ks_X12_parentsFrom⟩
theorem me_X12_part : gj_MV yX12_part cX12_part 3 (some .boolean) 1 := ⟨⟨kd_X12_part, ini_X12, ⟨by decide, by decide⟩, by decide +kernel⟩, ki_X12_part, ks_X12_part⟩
theorem me_X12_parts : gj_MV yX12_parts cX12_parts 2 none 1 := ⟨⟨kd_X12_parts, ini_X12, ⟨by decide, by decide⟩, by decide +kernel⟩, ki_X12_parts, ks_X12_parts⟩
theorem me_X12_passes : gj_MV yX12_passes cX12_passes 2 (some .boolean) 1 := ⟨⟨kd_X12_passes, ini_X12, ⟨by decide, by decide⟩, by decide +kernel⟩, ki_X12_passes, ks_X12_passes⟩
theorem me_X12_person : gj_MV yX12_person cX12_person 4 (some .int) 2 := ⟨⟨kd_X12_person, ini_X12, ⟨by decide, by decide⟩, by decide +kernel⟩, ki_X12_person, ks_X12_person⟩
theorem me_X12_personRead : gj_MV yX12_personRead cX12_personRead 5 (some .boolean) 1 := ⟨⟨kd_X12_personRead, ini_X12, ⟨by decide, by decide⟩, by decide +kernel⟩, ki_X12_personRead, ks_X12_personRead⟩
theorem me_X12_power : gj_MS yX12_power cX12_power 5 (some .long) 2 := ⟨⟨kd_X12_power, ini_X12, ⟨by decide, by decide⟩, by decide +kernel⟩, kt_X12_power⟩
theorem me_X12_price : gj_MV yX12_price cX12_price 6 (some .int) 2 := ⟨⟨kd_X12_price, ini_X12, ⟨by decide, by decide⟩, by decide +kernel⟩, ki_X12_price, ks_X12_price⟩
theorem me_X12_reads : gj_MV yX12_reads cX12_reads 3 none 0 := ⟨⟨kd_X12_reads, ini_X12, ⟨by decide, by decide⟩, by decide +kernel⟩, ki_X12_reads, ks_X12_reads⟩
theorem me_X12_refuse : gj_MV yX12_refuse cX12_refuse 2 (some .int) 1 := ⟨⟨kd_X12_refuse, ini_X12, ⟨by decide, by decide⟩, by decide +kernel⟩, ki_X12_refuse, ks_X12_refuse⟩
theorem me_X12_seed : gj_MV yX12_seed cX12_seed 2 (some .boolean) 1 := ⟨⟨kd_X12_seed, ini_X12, ⟨by decide, by decide⟩, by decide +kernel⟩, ki_X12_seed, ks_X12_seed⟩
theorem me_X12_shown : gj_MV yX12_shown cX12_shown 6 (some .int) 3 := ⟨⟨kd_X12_shown, ini_X12, ⟨by decide, by decide⟩, by decide +kernel⟩, ki_X12_shown, ks_X12_shown⟩
theorem me_X12_shows : gj_MV yX12_shows cX12_shows 11 (some .int) 5 := ⟨⟨kd_X12_shows, ini_X12, ⟨by decide, by decide⟩, by decide +kernel⟩, ki_X12_shows, ks_X12_shows⟩
theorem me_X12_silent : gj_MV yX12_silent cX12_silent 4 (some .int) 2 := ⟨⟨kd_X12_silent, ini_X12, ⟨by decide, by decide⟩, by decide +kernel⟩, ki_X12_silent, ks_X12_silent⟩
theorem me_X12_sooner : gj_MV yX12_sooner cX12_sooner 7 (some .int) 3 := ⟨⟨kd_X12_sooner, ini_X12, ⟨by decide, by decide⟩, by decide +kernel⟩, ki_X12_sooner, ks_X12_sooner⟩
theorem me_X12_status : gj_MV yX12_status cX12_status 2 (some .int) 1 := ⟨⟨kd_X12_status, ini_X12, ⟨by decide, by decide⟩, by decide +kernel⟩, ki_X12_status, ks_X12_status⟩
theorem me_X12_sumOf : gj_MV yX12_sumOf cX12_sumOf 4 (some .int) 1 := ⟨⟨kd_X12_sumOf, ini_X12, ⟨by decide, by decide⟩, by decide +kernel⟩, ki_X12_sumOf, ks_X12_sumOf⟩
theorem me_X12_think : gj_MV yX12_think cX12_think 7 (some .int) 3 := ⟨⟨kd_X12_think, ini_X12, ⟨by decide, by decide⟩, by decide +kernel⟩, ki_X12_think, ks_X12_think⟩
theorem me_X12_thinkRead : gj_MV yX12_thinkRead cX12_thinkRead 4 (some .boolean) 0 := ⟨⟨kd_X12_thinkRead, ini_X12, ⟨by decide, by decide⟩, by decide +kernel⟩, ki_X12_thinkRead, ks_X12_thinkRead⟩
theorem me_X12_told : gj_MS yX12_told cX12_told 1 (some .int) 1 := ⟨⟨kd_X12_told, ini_X12, ⟨by decide, by decide⟩, by decide +kernel⟩, kt_X12_told⟩
theorem me_X12_toldOf : gj_MV yX12_toldOf cX12_toldOf 3 (some .int) 2 := ⟨⟨kd_X12_toldOf, ini_X12, ⟨by decide, by decide⟩, by decide +kernel⟩, ki_X12_toldOf, ks_X12_toldOf⟩
theorem me_X12_truly : gj_MV yX12_truly cX12_truly 4 (some .int) 2 := ⟨⟨kd_X12_truly, ini_X12, ⟨by decide, by decide⟩, by decide +kernel⟩, ki_X12_truly, ks_X12_truly⟩
theorem me_X12_two : gj_MS yX12_two cX12_two 2 (some .int) 2 := ⟨⟨kd_X12_two, ini_X12, ⟨by decide, by decide⟩, by decide +kernel⟩, kt_X12_two⟩
theorem me_X12_two_ : gj_MV yX12_two_ cX12_two_ 7 (some .int) 3 := ⟨⟨kd_X12_two_, ini_X12, ⟨by decide, by decide⟩, by decide +kernel⟩, ki_X12_two_, ks_X12_two_⟩
theorem me_X12_village : gj_MV yX12_village cX12_village 2 (some .int) 0 := ⟨⟨kd_X12_village, ini_X12, ⟨by decide, by decide⟩, by decide +kernel⟩, ki_X12_village, ks_X12_village⟩
theorem me_X12_waits : gj_MV yX12_waits cX12_waits 8 (some .int) 3 := ⟨⟨kd_X12_waits, ini_X12, ⟨by decide, by decide⟩, by decide +kernel⟩, ki_X12_waits, ks_X12_waits⟩
theorem me_X12_way : gj_MV yX12_way cX12_way 2 (some .boolean) 1 := ⟨⟨kd_X12_way, ini_X12, ⟨by decide, by decide⟩, by decide +kernel⟩, ki_X12_way, ks_X12_way⟩
theorem me_X12_who : gj_MV yX12_who cX12_who 3 (some .int) 1 := ⟨⟨kd_X12_who, ini_X12, ⟨by decide, by decide⟩, by decide +kernel⟩, ki_X12_who, ks_X12_who⟩
theorem me_X12_with : gj_MV yX12_with cX12_with 11 (some .int) 3 := ⟨⟨kd_X12_with, ini_X12, ⟨by decide, by decide⟩, by decide +kernel⟩, ki_X12_with, ks_X12_with⟩
theorem me_X12_wordHere : gj_MV yX12_wordHere cX12_wordHere 4 (some .int) 0 := ⟨⟨kd_X12_wordHere, ini_X12, ⟨by decide, by decide⟩, by decide +kernel⟩, ki_X12_wordHere, ks_X12_wordHere⟩
theorem me_X12_worth : gj_MV yX12_worth cX12_worth 8 (some .int) 3 := ⟨⟨kd_X12_worth, ini_X12, ⟨by decide, by decide⟩, by decide +kernel⟩, ki_X12_worth, ks_X12_worth⟩
theorem me_X12_would : gj_MV yX12_would cX12_would 3 (some .boolean) 2 := ⟨⟨kd_X12_would, ini_X12, ⟨by decide, by decide⟩, by decide +kernel⟩, ki_X12_would, ks_X12_would⟩
theorem me_X1_add : gj_MV yX1_add cX1_add 7 none 5 := ⟨⟨kd_X1_add, ini_X1, ⟨by decide, by decide⟩, by decide +kernel⟩, ki_X1_add, ks_X1_add⟩
theorem me_X1_clear : gj_MV yX1_clear cX1_clear 1 none 0 := ⟨⟨kd_X1_clear, ini_X1, ⟨by decide, by decide⟩, by decide +kernel⟩, ki_X1_clear, ks_X1_clear⟩
theorem me_X1_copyOf : gj_MV yX1_copyOf cX1_copyOf 2 none 1 := ⟨⟨kd_X1_copyOf, ini_X1, ⟨by decide, by decide⟩, by decide +kernel⟩, ki_X1_copyOf, ks_X1_copyOf⟩
theorem me_X1_init : gj_MI yX1_init cX1_init 1 0 := ⟨⟨kd_X1_init, ini_X1, ⟨by decide, by decide⟩, by decide +kernel⟩, ki_X1_init, rfl⟩
theorem me_X1_size : gj_MV yX1_size cX1_size 1 (some .int) 0 := ⟨⟨kd_X1_size, ini_X1, ⟨by decide, by decide⟩, by decide +kernel⟩, ki_X1_size, ks_X1_size⟩
theorem me_X1_tell : gj_MV yX1_tell cX1_tell 3 (some .int) 2 := ⟨⟨kd_X1_tell, ini_X1, ⟨by decide, by decide⟩, by decide +kernel⟩, ki_X1_tell, ks_X1_tell⟩
theorem me_X2_ask : gj_MV yX2_ask cX2_ask 4 none 2 := ⟨⟨kd_X2_ask, ini_X2, ⟨by decide, by decide⟩, by decide +kernel⟩, ki_X2_ask, ks_X2_ask⟩
theorem me_X2_askAll : gj_MV yX2_askAll cX2_askAll 4 none 1 := ⟨⟨kd_X2_askAll, ini_X2, ⟨by decide, by decide⟩, by decide +kernel⟩, ki_X2_askAll, ks_X2_askAll⟩
theorem me_X2_canMeet : gj_MV yX2_canMeet cX2_canMeet 3 (some .boolean) 2 := ⟨⟨kd_X2_canMeet, ini_X2, ⟨by decide, by decide⟩, by decide +kernel⟩, ki_X2_canMeet, ks_X2_canMeet⟩
theorem me_X2_drawLots : gj_MV yX2_drawLots cX2_drawLots 4 none 0 := ⟨⟨kd_X2_drawLots, ini_X2, ⟨by decide, by decide⟩, by decide +kernel⟩, ki_X2_drawLots, ks_X2_drawLots⟩
theorem me_X2_gather : gj_MV yX2_gather cX2_gather 4 none 1 := ⟨⟨kd_X2_gather, ini_X2, ⟨by decide, by decide⟩, by decide +kernel⟩, ki_X2_gather, ks_X2_gather⟩
theorem me_X2_init : gj_MI yX2_init cX2_init 3 2 := ⟨⟨kd_X2_init, ini_X2, ⟨by decide, by decide⟩, by decide +kernel⟩, ki_X2_init, rfl⟩
theorem me_X2_isBetter : gj_MV yX2_isBetter cX2_isBetter 4 (some .boolean) 2 := ⟨⟨kd_X2_isBetter, ini_X2, ⟨by decide, by decide⟩, by decide +kernel⟩, ki_X2_isBetter, ks_X2_isBetter⟩
theorem me_X2_isLeftFor : gj_MV yX2_isLeftFor cX2_isLeftFor 3 (some .boolean) 2 := ⟨⟨kd_X2_isLeftFor, ini_X2, ⟨by decide, by decide⟩, by decide +kernel⟩, ki_X2_isLeftFor, ks_X2_isLeftFor⟩
theorem me_X2_likes : gj_MV yX2_likes cX2_likes 3 (some .int) 2 := ⟨⟨kd_X2_likes, ini_X2, ⟨by decide, by decide⟩, by decide +kernel⟩, ki_X2_likes, ks_X2_likes⟩
theorem me_X2_likingOf : gj_MV yX2_likingOf cX2_likingOf 8 (some .int) 3 := ⟨⟨kd_X2_likingOf, ini_X2, ⟨by decide, by decide⟩, by decide +kernel⟩, ki_X2_likingOf, ks_X2_likingOf⟩
theorem me_X2_look : gj_MV yX2_look cX2_look 4 none 1 := ⟨⟨kd_X2_look, ini_X2, ⟨by decide, by decide⟩, by decide +kernel⟩, ki_X2_look, ks_X2_look⟩
theorem me_X2_openOne : gj_MV yX2_openOne cX2_openOne 5 (some .int) 2 := ⟨⟨kd_X2_openOne, ini_X2, ⟨by decide, by decide⟩, by decide +kernel⟩, ki_X2_openOne, ks_X2_openOne⟩
theorem me_X2_pairUp : gj_MV yX2_pairUp cX2_pairUp 2 none 1 := ⟨⟨kd_X2_pairUp, ini_X2, ⟨by decide, by decide⟩, by decide +kernel⟩, ki_X2_pairUp, ks_X2_pairUp⟩
theorem me_X2_soonerOf : gj_MV yX2_soonerOf cX2_soonerOf 6 (some .boolean) 3 := ⟨⟨kd_X2_soonerOf, ini_X2, ⟨by decide, by decide⟩, by decide +kernel⟩, ki_X2_soonerOf, ks_X2_soonerOf⟩
theorem me_X2_soonestToAsk : gj_MV yX2_soonestToAsk cX2_soonestToAsk 6 (some .int) 1 := ⟨⟨kd_X2_soonestToAsk, ini_X2, ⟨by decide, by decide⟩, by decide +kernel⟩, ki_X2_soonestToAsk, ks_X2_soonestToAsk⟩
theorem me_X2_takeTurns : gj_MV yX2_takeTurns cX2_takeTurns 4 none 0 := ⟨⟨kd_X2_takeTurns, ini_X2, ⟨by decide, by decide⟩, by decide +kernel⟩, ki_X2_takeTurns, ks_X2_takeTurns⟩
theorem me_X2_tie : gj_MV yX2_tie cX2_tie 3 none 2 := ⟨⟨kd_X2_tie, ini_X2, ⟨by decide, by decide⟩, by decide +kernel⟩, ki_X2_tie, ks_X2_tie⟩
theorem me_X2_would : gj_MV yX2_would cX2_would 3 (some .boolean) 2 := ⟨⟨kd_X2_would, ini_X2, ⟨by decide, by decide⟩, by decide +kernel⟩, ki_X2_would, ks_X2_would⟩
theorem me_X2_wouldSooner : gj_MV yX2_wouldSooner cX2_wouldSooner 3 (some .boolean) 2 := ⟨⟨kd_X2_wouldSooner, ini_X2, ⟨by decide, by decide⟩, by decide +kernel⟩, ki_X2_wouldSooner, ks_X2_wouldSooner⟩
theorem me_X3_arePair : gj_MV yX3_arePair cX3_arePair 3 (some .boolean) 2 := ⟨⟨kd_X3_arePair, ini_X3, ⟨by decide, by decide⟩, by decide +kernel⟩, ki_X3_arePair, ks_X3_arePair⟩
theorem me_X3_begin : gj_MV yX3_begin cX3_begin 1 none 0 := ⟨⟨kd_X3_begin, ini_X3, ⟨by decide, by decide⟩, by decide +kernel⟩, ki_X3_begin, ks_X3_begin⟩
theorem me_X3_bind : gj_MV yX3_bind cX3_bind 3 none 2 := ⟨⟨kd_X3_bind, ini_X3, ⟨by decide, by decide⟩, by decide +kernel⟩, ki_X3_bind, ks_X3_bind⟩
theorem me_X3_copyOf : gj_MV yX3_copyOf cX3_copyOf 2 none 1 := ⟨⟨kd_X3_copyOf, ini_X3, ⟨by decide, by decide⟩, by decide +kernel⟩, ki_X3_copyOf, ks_X3_copyOf⟩
theorem me_X3_earn : gj_MV yX3_earn cX3_earn 3 none 2 := ⟨⟨kd_X3_earn, ini_X3, ⟨by decide, by decide⟩, by decide +kernel⟩, ki_X3_earn, ks_X3_earn⟩
theorem me_X3_free : gj_MV yX3_free cX3_free 2 none 1 := ⟨⟨kd_X3_free, ini_X3, ⟨by decide, by decide⟩, by decide +kernel⟩, ki_X3_free, ks_X3_free⟩
theorem me_X3_haveTried : gj_MV yX3_haveTried cX3_haveTried 2 (some .boolean) 1 := ⟨⟨kd_X3_haveTried, ini_X3, ⟨by decide, by decide⟩, by decide +kernel⟩, ki_X3_haveTried, ks_X3_haveTried⟩
theorem me_X3_init : gj_MI yX3_init cX3_init 1 0 := ⟨⟨kd_X3_init, ini_X3, ⟨by decide, by decide⟩, by decide +kernel⟩, ki_X3_init, rfl⟩
theorem me_X3_loosen : gj_MV yX3_loosen cX3_loosen 3 none 2 := ⟨⟨kd_X3_loosen, ini_X3, ⟨by decide, by decide⟩, by decide +kernel⟩, ki_X3_loosen, ks_X3_loosen⟩
theorem me_X3_lot : gj_MV yX3_lot cX3_lot 2 (some .int) 1 := ⟨⟨kd_X3_lot, ini_X3, ⟨by decide, by decide⟩, by decide +kernel⟩, ki_X3_lot, ks_X3_lot⟩
theorem me_X3_pairsOf : gj_MV yX3_pairsOf cX3_pairsOf 4 (some .int) 1 := ⟨⟨kd_X3_pairsOf, ini_X3, ⟨by decide, by decide⟩, by decide +kernel⟩, ki_X3_pairsOf, ks_X3_pairsOf⟩
theorem me_X4_bestAct : gj_MV yX4_bestAct cX4_bestAct 8 (some .int) 1 := ⟨⟨kd_X4_bestAct, ini_X4, ⟨by decide, by decide⟩, by decide +kernel⟩, ki_X4_bestAct, ks_X4_bestAct⟩
theorem me_X4_bestWorth : gj_MV yX4_bestWorth cX4_bestWorth 2 (some .long) 1 := ⟨⟨kd_X4_bestWorth, ini_X4, ⟨by decide, by decide⟩, by decide +kernel⟩, ki_X4_bestWorth, ks_X4_bestWorth⟩
theorem me_X4_doing : gj_MV yX4_doing cX4_doing 18 (some .long) 4 := ⟨⟨kd_X4_doing, ini_X4, ⟨by decide, by decide⟩, by decide +kernel⟩, ki_X4_doing, ks_X4_doing⟩
theorem me_X4_enter : gj_MV yX4_enter cX4_enter 4 none 1 := ⟨⟨kd_X4_enter, ini_X4, ⟨by decide, by decide⟩, by decide +kernel⟩, ki_X4_enter, ks_X4_enter⟩
theorem me_X4_init : gj_MI yX4_init cX4_init 3 2 := ⟨⟨kd_X4_init, ini_X4, ⟨by decide, by decide⟩, by decide +kernel⟩, ki_X4_init, rfl⟩
theorem me_X4_isShut : gj_MV yX4_isShut cX4_isShut 2 (some .boolean) 1 := ⟨⟨kd_X4_isShut, ini_X4, ⟨by decide, by decide⟩, by decide +kernel⟩, ki_X4_isShut, ks_X4_isShut⟩
theorem me_X4_leastCow : gj_MV yX4_leastCow cX4_leastCow 9 (some .int) 1 := ⟨⟨kd_X4_leastCow, ini_X4, ⟨by decide, by decide⟩, by decide +kernel⟩, ki_X4_leastCow, ks_X4_leastCow⟩
theorem me_X4_leastGood : gj_MV yX4_leastGood cX4_leastGood 5 (some .int) 3 := ⟨⟨kd_X4_leastGood, ini_X4, ⟨by decide, by decide⟩, by decide +kernel⟩, ki_X4_leastGood, ks_X4_leastGood⟩
theorem me_X4_shutOut : gj_MV yX4_shutOut cX4_shutOut 2 none 1 := ⟨⟨kd_X4_shutOut, ini_X4, ⟨by decide, by decide⟩, by decide +kernel⟩, ki_X4_shutOut, ks_X4_shutOut⟩
theorem me_X4_stays : gj_MV yX4_stays cX4_stays 2 (some .boolean) 1 := ⟨⟨kd_X4_stays, ini_X4, ⟨by decide, by decide⟩, by decide +kernel⟩, ki_X4_stays, ks_X4_stays⟩
theorem me_X4_worthOf : gj_MV yX4_worthOf cX4_worthOf 7 (some .long) 3 := ⟨⟨kd_X4_worthOf, ini_X4, ⟨by decide, by decide⟩, by decide +kernel⟩, ki_X4_worthOf, ks_X4_worthOf⟩
theorem me_X4_worthOfAct : gj_MV yX4_worthOfAct cX4_worthOfAct 3 (some .long) 2 := ⟨⟨kd_X4_worthOfAct, ini_X4, ⟨by decide, by decide⟩, by decide +kernel⟩, ki_X4_worthOfAct, ks_X4_worthOfAct⟩
theorem me_X5_clear : gj_MV yX5_clear cX5_clear 1 none 0 := ⟨⟨kd_X5_clear, ini_X5, ⟨by decide, by decide⟩, by decide +kernel⟩, ki_X5_clear, ks_X5_clear⟩
theorem me_X5_gain : gj_MV yX5_gain cX5_gain 5 (some .int) 3 := ⟨⟨kd_X5_gain, ini_X5, ⟨by decide, by decide⟩, by decide +kernel⟩, ki_X5_gain, ks_X5_gain⟩
theorem me_X5_goodNext : gj_MV yX5_goodNext cX5_goodNext 10 (some .int) 3 := ⟨⟨kd_X5_goodNext, ini_X5, ⟨by decide, by decide⟩, by decide +kernel⟩, ki_X5_goodNext, ks_X5_goodNext⟩
theorem me_X5_init : gj_MI yX5_init cX5_init 1 0 := ⟨⟨kd_X5_init, ini_X5, ⟨by decide, by decide⟩, by decide +kernel⟩, ki_X5_init, rfl⟩
theorem me_X5_isPerson : gj_MV yX5_isPerson cX5_isPerson 2 (some .boolean) 1 := ⟨⟨kd_X5_isPerson, ini_X5, ⟨by decide, by decide⟩, by decide +kernel⟩, ki_X5_isPerson, ks_X5_isPerson⟩
theorem me_X5_oddsOf : gj_MS yX5_oddsOf cX5_oddsOf 6 (some .long) 3 := ⟨⟨kd_X5_oddsOf, ini_X5, ⟨by decide, by decide⟩, by decide +kernel⟩, kt_X5_oddsOf⟩
theorem me_X5_otherAfter : gj_MV yX5_otherAfter cX5_otherAfter 4 (some .long) 3 := ⟨⟨kd_X5_otherAfter, ini_X5, ⟨by decide, by decide⟩, by decide +kernel⟩, ki_X5_otherAfter, ks_X5_otherAfter⟩
theorem me_X5_reckonShown : gj_MV yX5_reckonShown cX5_reckonShown 4 none 0 := ⟨⟨kd_X5_reckonShown, ini_X5, ⟨by decide, by decide⟩, by decide +kernel⟩, ki_X5_reckonShown, ks_X5_reckonShown⟩
theorem me_X5_rightAfter : gj_MV yX5_rightAfter cX5_rightAfter 4 (some .long) 3 := ⟨⟨kd_X5_rightAfter, ini_X5, ⟨by decide, by decide⟩, by decide +kernel⟩, ki_X5_rightAfter, ks_X5_rightAfter⟩
theorem me_X5_shownGood : gj_MV yX5_shownGood cX5_shownGood 4 (some .int) 3 := ⟨⟨kd_X5_shownGood, ini_X5, ⟨by decide, by decide⟩, by decide +kernel⟩, ki_X5_shownGood, ks_X5_shownGood⟩
theorem me_X5_shownRight : gj_MV yX5_shownRight cX5_shownRight 8 (some .int) 3 := ⟨⟨kd_X5_shownRight, ini_X5, ⟨by decide, by decide⟩, by decide +kernel⟩, ki_X5_shownRight, ks_X5_shownRight⟩
theorem me_X5_slotOf : gj_MV yX5_slotOf cX5_slotOf 2 (some .int) 1 := ⟨⟨kd_X5_slotOf, ini_X5, ⟨by decide, by decide⟩, by decide +kernel⟩, ki_X5_slotOf, ks_X5_slotOf⟩
theorem me_X5_stands : gj_MV yX5_stands cX5_stands 1 (some .boolean) 0 := ⟨⟨kd_X5_stands, ini_X5, ⟨by decide, by decide⟩, by decide +kernel⟩, ki_X5_stands, ks_X5_stands⟩
theorem me_X5_sumOf : gj_MV yX5_sumOf cX5_sumOf 6 (some .int) 2 := ⟨⟨kd_X5_sumOf, ini_X5, ⟨by decide, by decide⟩, by decide +kernel⟩, ki_X5_sumOf, ks_X5_sumOf⟩
theorem me_X5_take : gj_MV yX5_take cX5_take 2 none 1 := ⟨⟨kd_X5_take, ini_X5, ⟨by decide, by decide⟩, by decide +kernel⟩, ki_X5_take, ks_X5_take⟩
theorem me_X5_trueYear : gj_MV yX5_trueYear cX5_trueYear 4 (some .int) 2 := ⟨⟨kd_X5_trueYear, ini_X5, ⟨by decide, by decide⟩, by decide +kernel⟩, ki_X5_trueYear, ks_X5_trueYear⟩
theorem me_X5_yearSum : gj_MV yX5_yearSum cX5_yearSum 4 (some .int) 1 := ⟨⟨kd_X5_yearSum, ini_X5, ⟨by decide, by decide⟩, by decide +kernel⟩, ki_X5_yearSum, ks_X5_yearSum⟩
theorem me_X6_firstTold : gj_MV yX6_firstTold cX6_firstTold 2 (some .boolean) 1 := ⟨⟨kd_X6_firstTold, ini_X6, ⟨by decide, by decide⟩, by decide +kernel⟩, ki_X6_firstTold, ks_X6_firstTold⟩
theorem me_X6_init : gj_MI yX6_init cX6_init 3 2 := ⟨⟨kd_X6_init, ini_X6, ⟨by decide, by decide⟩, by decide +kernel⟩, ki_X6_init, rfl⟩
theorem me_X6_isBlank : gj_MS yX6_isBlank cX6_isBlank 1 (some .boolean) 1 := ⟨⟨kd_X6_isBlank, ini_X6, ⟨by decide, by decide⟩, by decide +kernel⟩, kt_X6_isBlank⟩
theorem me_X6_isLineWord : gj_MV yX6_isLineWord cX6_isLineWord 1 (some .boolean) 0 := ⟨⟨kd_X6_isLineWord, ini_X6, ⟨by decide, by decide⟩, by decide +kernel⟩, ki_X6_isLineWord, ks_X6_isLineWord⟩
theorem me_X6_isWord : gj_MV yX6_isWord cX6_isWord 3 (some .boolean) 1 := ⟨⟨kd_X6_isWord, ini_X6, ⟨by decide, by decide⟩, by decide +kernel⟩, ki_X6_isWord, ks_X6_isWord⟩
theorem me_X6_kindOf : gj_MS yX6_kindOf cX6_kindOf 1 (some .int) 1 := ⟨⟨kd_X6_kindOf, ini_X6, ⟨by decide, by decide⟩, by decide +kernel⟩, kt_X6_kindOf⟩
theorem me_X6_nameHere : gj_MV yX6_nameHere cX6_nameHere 4 (some .long) 0 := ⟨⟨kd_X6_nameHere, ini_X6, ⟨by decide, by decide⟩, by decide +kernel⟩, ki_X6_nameHere, ks_X6_nameHere⟩
theorem me_X6_numberHere : gj_MV yX6_numberHere cX6_numberHere 3 (some .int) 0 := ⟨⟨kd_X6_numberHere, ini_X6, ⟨by decide, by decide⟩, by decide +kernel⟩, ki_X6_numberHere, ks_X6_numberHere⟩
theorem me_X6_read : gj_MV yX6_read cX6_read 2 (some .int) 0 := ⟨⟨kd_X6_read, ini_X6, ⟨by decide, by decide⟩, by decide +kernel⟩, ki_X6_read, ks_X6_read⟩
theorem me_X6_readAhead : gj_MV yX6_readAhead cX6_readAhead 1 (some .boolean) 0 := ⟨⟨kd_X6_readAhead, ini_X6, ⟨by decide, by decide⟩, by decide +kernel⟩, ki_X6_readAhead, ks_X6_readAhead⟩
theorem me_X6_readChild : gj_MV yX6_readChild cX6_readChild 1 (some .boolean) 0 := ⟨⟨kd_X6_readChild, ini_X6, ⟨by decide, by decide⟩, by decide +kernel⟩, ki_X6_readChild, ks_X6_readChild⟩
theorem me_X6_readCow : gj_MV yX6_readCow cX6_readCow 1 (some .boolean) 0 := ⟨⟨kd_X6_readCow, ini_X6, ⟨by decide, by decide⟩, by decide +kernel⟩, ki_X6_readCow, ks_X6_readCow⟩
theorem me_X6_readFit : gj_MV yX6_readFit cX6_readFit 4 (some .boolean) 0 := ⟨⟨kd_X6_readFit, ini_X6, ⟨by decide, by decide⟩, by decide +kernel⟩, ki_X6_readFit, ks_X6_readFit⟩
theorem me_X6_readHouse : gj_MV yX6_readHouse cX6_readHouse 1 (some .boolean) 0 := ⟨⟨kd_X6_readHouse, ini_X6, ⟨by decide, by decide⟩, by decide +kernel⟩, ki_X6_readHouse, ks_X6_readHouse⟩
theorem me_X6_readLine : gj_MV yX6_readLine cX6_readLine 1 (some .boolean) 0 := ⟨⟨kd_X6_readLine, ini_X6, ⟨by decide, by decide⟩, by decide +kernel⟩, ki_X6_readLine, ks_X6_readLine⟩
theorem me_X6_readPerson : gj_MV yX6_readPerson cX6_readPerson 6 (some .boolean) 2 := ⟨⟨kd_X6_readPerson, ini_X6, ⟨by decide, by decide⟩, by decide +kernel⟩, ki_X6_readPerson, ks_X6_readPerson⟩
theorem me_X6_readThink : gj_MV yX6_readThink cX6_readThink 4 (some .boolean) 0 := ⟨⟨kd_X6_readThink, ini_X6, ⟨by decide, by decide⟩, by decide +kernel⟩, ki_X6_readThink, ks_X6_readThink⟩
theorem me_X6_readWorth : gj_MV yX6_readWorth cX6_readWorth 1 (some .boolean) 0 := ⟨⟨kd_X6_readWorth, ini_X6, ⟨by decide, by decide⟩, by decide +kernel⟩, ki_X6_readWorth, ks_X6_readWorth⟩
theorem me_X6_scan : gj_MV yX6_scan cX6_scan 1 none 0 := ⟨⟨kd_X6_scan, ini_X6, ⟨by decide, by decide⟩, by decide +kernel⟩, ki_X6_scan, ks_X6_scan⟩
theorem me_X6_slotNamed : gj_MV yX6_slotNamed cX6_slotNamed 4 (some .int) 1 := ⟨⟨kd_X6_slotNamed, ini_X6, ⟨by decide, by decide⟩, by decide +kernel⟩, ki_X6_slotNamed, ks_X6_slotNamed⟩
theorem me_X6_takeNumber : gj_MV yX6_takeNumber cX6_takeNumber 4 (some .boolean) 2 := ⟨⟨kd_X6_takeNumber, ini_X6, ⟨by decide, by decide⟩, by decide +kernel⟩, ki_X6_takeNumber, ks_X6_takeNumber⟩
theorem me_X6_takeStop : gj_MV yX6_takeStop cX6_takeStop 1 (some .boolean) 0 := ⟨⟨kd_X6_takeStop, ini_X6, ⟨by decide, by decide⟩, by decide +kernel⟩, ki_X6_takeStop, ks_X6_takeStop⟩
theorem me_X7_at : gj_MS yX7_at cX7_at 2 (some .int) 2 := ⟨⟨kd_X7_at, ini_X7, ⟨by decide, by decide⟩, by decide +kernel⟩, kt_X7_at⟩
theorem me_X7_copy : gj_MS yX7_copy cX7_copy 3 none 2 := ⟨⟨kd_X7_copy, ini_X7, ⟨by decide, by decide⟩, by decide +kernel⟩, kt_X7_copy⟩
theorem me_X7_fill : gj_MS yX7_fill cX7_fill 3 none 2 := ⟨⟨kd_X7_fill, ini_X7, ⟨by decide, by decide⟩, by decide +kernel⟩, kt_X7_fill⟩
theorem me_X7_is : gj_MS yX7_is cX7_is 2 (some .boolean) 2 := ⟨⟨kd_X7_is, ini_X7, ⟨by decide, by decide⟩, by decide +kernel⟩, kt_X7_is⟩
theorem me_X7_mark : gj_MS yX7_mark cX7_mark 3 none 3 := ⟨⟨kd_X7_mark, ini_X7, ⟨by decide, by decide⟩, by decide +kernel⟩, kt_X7_mark⟩
theorem me_X7_put : gj_MS yX7_put cX7_put 3 none 3 := ⟨⟨kd_X7_put, ini_X7, ⟨by decide, by decide⟩, by decide +kernel⟩, kt_X7_put⟩
theorem me_X7_unmark : gj_MS yX7_unmark cX7_unmark 2 none 1 := ⟨⟨kd_X7_unmark, ini_X7, ⟨by decide, by decide⟩, by decide +kernel⟩, kt_X7_unmark⟩
theorem me_X8_askPaired : gj_MV yX8_askPaired cX8_askPaired 3 none 0 := ⟨⟨kd_X8_askPaired, ini_X8, ⟨by decide, by decide⟩, by decide +kernel⟩, ki_X8_askPaired, ks_X8_askPaired⟩
theorem me_X8_bindNewPairs : gj_MV yX8_bindNewPairs cX8_bindNewPairs 3 none 0 := ⟨⟨kd_X8_bindNewPairs, ini_X8, ⟨by decide, by decide⟩, by decide +kernel⟩, ki_X8_bindNewPairs, ks_X8_bindNewPairs⟩
theorem me_X8_endPairs : gj_MV yX8_endPairs cX8_endPairs 3 none 0 := ⟨⟨kd_X8_endPairs, ini_X8, ⟨by decide, by decide⟩, by decide +kernel⟩, ki_X8_endPairs, ks_X8_endPairs⟩
theorem me_X8_hear : gj_MV yX8_hear cX8_hear 5 none 2 := ⟨⟨kd_X8_hear, ini_X8, ⟨by decide, by decide⟩, by decide +kernel⟩, ki_X8_hear, ks_X8_hear⟩
theorem me_X8_hold : gj_MV yX8_hold cX8_hold 1 none 0 := ⟨⟨kd_X8_hold, ini_X8, ⟨by decide, by decide⟩, by decide +kernel⟩, ki_X8_hold, ks_X8_hold⟩
theorem me_X8_init : gj_MI yX8_init cX8_init 5 4 := ⟨⟨kd_X8_init, ini_X8, ⟨by decide, by decide⟩, by decide +kernel⟩, ki_X8_init, rfl⟩
theorem me_X8_liveTogether : gj_MV yX8_liveTogether cX8_liveTogether 10 none 2 := ⟨⟨kd_X8_liveTogether, ini_X8, ⟨by decide, by decide⟩, by decide +kernel⟩, ki_X8_liveTogether, ks_X8_liveTogether⟩
theorem me_X8_passYear : gj_MV yX8_passYear cX8_passYear 3 none 0 := ⟨⟨kd_X8_passYear, ini_X8, ⟨by decide, by decide⟩, by decide +kernel⟩, ki_X8_passYear, ks_X8_passYear⟩
theorem me_X9_append : gj_MV yX9_append cX9_append 3 none 1 := ⟨⟨kd_X9_append, ini_X9, ⟨by decide, by decide⟩, by decide +kernel⟩, ki_X9_append, ks_X9_append⟩
theorem me_X9_byteAt : gj_MV yX9_byteAt cX9_byteAt 2 (some .int) 1 := ⟨⟨kd_X9_byteAt, ini_X9, ⟨by decide, by decide⟩, by decide +kernel⟩, ki_X9_byteAt, ks_X9_byteAt⟩
theorem me_X9_cutTo : gj_MV yX9_cutTo cX9_cutTo 2 none 1 := ⟨⟨kd_X9_cutTo, ini_X9, ⟨by decide, by decide⟩, by decide +kernel⟩, ki_X9_cutTo, ks_X9_cutTo⟩
theorem me_X9_hasRoomFor : gj_MV yX9_hasRoomFor cX9_hasRoomFor 2 (some .boolean) 1 := ⟨⟨kd_X9_hasRoomFor, ini_X9, ⟨by decide, by decide⟩, by decide +kernel⟩, ki_X9_hasRoomFor, ks_X9_hasRoomFor⟩
theorem me_X9_init : gj_MI yX9_init cX9_init 1 0 := ⟨⟨kd_X9_init, ini_X9, ⟨by decide, by decide⟩, by decide +kernel⟩, ki_X9_init, rfl⟩
theorem me_X9_length : gj_MV yX9_length cX9_length 1 (some .int) 0 := ⟨⟨kd_X9_length, ini_X9, ⟨by decide, by decide⟩, by decide +kernel⟩, ki_X9_length, ks_X9_length⟩
end
section
/-- a method's instructions by their places: checked at once -/
def gj_dok (cc : ByteArray) (tb : List (Nat × Instr × Nat)) : Bool := tb.all (fun q => decide (decode cc q.1 = .ok q.2))
theorem gj_dk {cc : ByteArray} {tb : List (Nat × Instr × Nat)} (h : gj_dok cc tb = true) (i : Nat) {pc : Nat} {I : Instr} {len : Nat} (hi : tb[i]? = some (pc, I, len)) : decode cc pc = .ok (I, len) := by
  have h1 := List.all_eq_true.mp h _ (List.mem_of_getElem? hi)
  exact of_decide_eq_true h1

def tbX0_init : List (Nat × Instr × Nat) := [(0, .aload_n 0, 1), (1, .invokespecial 5, 3), (4, .aload_n 0, 1), (5, .bipush 8, 2), (7, .newarray .int, 2), (9, .putfield 11, 3), (12, .aload_n 0, 1), (13, .bipush 8, 2), (15, .newarray .int, 2), (17, .putfield 15, 3), (20, .aload_n 0, 1), (21, .aload_n 1, 1), (22, .putfield 18, 3), (25, .return_, 1)]
set_option maxRecDepth 100000 in
theorem okX0_init : gj_dok cX0_init tbX0_init = true := by decide +kernel
def tbX0_choose : List (Nat × Instr × Nat) := [(0, .iconst (-1), 1), (1, .istore_n 1, 1), (2, .iconst 0, 1), (3, .istore_n 2, 1), (4, .iload_n 2, 1), (5, .sipush 625, 3), (8, .if_icmp .ge 47, 3), (11, .aload_n 0, 1), (12, .iload_n 2, 1), (13, .invokevirtual 22, 3), (16, .ifCond .eq 33, 3), (19, .aload_n 0, 1), (20, .getfield 18, 3), (23, .aload_n 0, 1), (24, .getfield 11, 3), (27, .invokevirtual 26, 3), (30, .istore_n 3, 1), (31, .iload_n 3, 1), (32, .iload_n 1, 1), (33, .if_icmp .le 16, 3), (36, .iload_n 3, 1), (37, .istore_n 1, 1), (38, .aload_n 0, 1), (39, .getfield 11, 3), (42, .aload_n 0, 1), (43, .getfield 15, 3), (46, .invokestatic 32, 3), (49, .iinc 2 1, 3), (52, .goto (-48), 3), (55, .return_, 1)]
set_option maxRecDepth 100000 in
theorem okX0_choose : gj_dok cX0_choose tbX0_choose = true := by decide +kernel
def tbX0_spread : List (Nat × Instr × Nat) := [(0, .aload_n 0, 1), (1, .getfield 11, 3), (4, .iconst (-1), 1), (5, .invokestatic 38, 3), (8, .iload_n 1, 1), (9, .istore_n 2, 1), (10, .iconst 3, 1), (11, .istore_n 3, 1), (12, .iload_n 3, 1), (13, .ifCond .lt 92, 3), (16, .iload_n 2, 1), (17, .iconst 5, 1), (18, .irem, 1), (19, .istore 4, 2), (21, .iload_n 2, 1), (22, .iconst 5, 1), (23, .idiv, 1), (24, .istore_n 2, 1), (25, .iload 4, 2), (27, .ifCond .ne 6, 3), (30, .goto 69, 3), (33, .iconst 4, 1), (34, .iload 4, 2), (36, .iadd, 1), (37, .iconst 1, 1), (38, .isub, 1), (39, .istore 5, 2), (41, .aload_n 0, 1), (42, .getfield 18, 3), (45, .iload_n 3, 1), (46, .invokevirtual 42, 3), (49, .ifCond .eq 28, 3), (52, .aload_n 0, 1), (53, .getfield 18, 3), (56, .iload 5, 2), (58, .invokevirtual 42, 3), (61, .ifCond .eq 16, 3), (64, .aload_n 0, 1), (65, .getfield 11, 3), (68, .iload 5, 2), (70, .invokestatic 45, 3), (73, .iconst (-1), 1), (74, .if_icmp .eq 5, 3), (77, .iconst 0, 1), (78, .ireturn, 1), (79, .aload_n 0, 1), (80, .getfield 11, 3), (83, .iload_n 3, 1), (84, .iload 5, 2), (86, .invokestatic 49, 3), (89, .aload_n 0, 1), (90, .getfield 11, 3), (93, .iload 5, 2), (95, .iload_n 3, 1), (96, .invokestatic 49, 3), (99, .iinc 3 (-1), 3), (102, .goto (-90), 3), (105, .iconst 1, 1), (106, .ireturn, 1)]
set_option maxRecDepth 100000 in
theorem okX0_spread : gj_dok cX0_spread tbX0_spread = true := by decide +kernel
def tbX1_init : List (Nat × Instr × Nat) := [(0, .aload_n 0, 1), (1, .invokespecial 3, 3), (4, .aload_n 0, 1), (5, .sipush 200, 3), (8, .newarray .int, 2), (10, .putfield 11, 3), (13, .return_, 1)]
set_option maxRecDepth 100000 in
theorem okX1_init : gj_dok cX1_init tbX1_init = true := by decide +kernel
def tbX1_size : List (Nat × Instr × Nat) := [(0, .aload_n 0, 1), (1, .getfield 15, 3), (4, .ireturn, 1)]
set_option maxRecDepth 100000 in
theorem okX1_size : gj_dok cX1_size tbX1_size = true := by decide +kernel
def tbX1_clear : List (Nat × Instr × Nat) := [(0, .aload_n 0, 1), (1, .iconst 0, 1), (2, .putfield 19, 3), (5, .aload_n 0, 1), (6, .iconst 0, 1), (7, .putfield 15, 3), (10, .return_, 1)]
set_option maxRecDepth 100000 in
theorem okX1_clear : gj_dok cX1_clear tbX1_clear = true := by decide +kernel
def tbX1_copyOf : List (Nat × Instr × Nat) := [(0, .aload_n 1, 1), (1, .ifnonnull 4, 3), (4, .return_, 1), (5, .aload_n 0, 1), (6, .aload_n 1, 1), (7, .getfield 19, 3), (10, .putfield 19, 3), (13, .aload_n 0, 1), (14, .aload_n 1, 1), (15, .getfield 15, 3), (18, .putfield 15, 3), (21, .aload_n 1, 1), (22, .getfield 11, 3), (25, .aload_n 0, 1), (26, .getfield 11, 3), (29, .invokestatic 22, 3), (32, .return_, 1)]
set_option maxRecDepth 100000 in
theorem okX1_copyOf : gj_dok cX1_copyOf tbX1_copyOf = true := by decide +kernel
def tbX1_add : List (Nat × Instr × Nat) := [(0, .aload_n 0, 1), (1, .getfield 19, 3), (4, .aload_n 0, 1), (5, .getfield 15, 3), (8, .iadd, 1), (9, .bipush 40, 2), (11, .irem, 1), (12, .iconst 5, 1), (13, .imul, 1), (14, .istore 6, 2), (16, .aload_n 0, 1), (17, .getfield 11, 3), (20, .iload 6, 2), (22, .iload_n 1, 1), (23, .invokestatic 28, 3), (26, .aload_n 0, 1), (27, .getfield 11, 3), (30, .iload 6, 2), (32, .iconst 1, 1), (33, .iadd, 1), (34, .iload_n 2, 1), (35, .invokestatic 28, 3), (38, .aload_n 0, 1), (39, .getfield 11, 3), (42, .iload 6, 2), (44, .iconst 2, 1), (45, .iadd, 1), (46, .iload_n 3, 1), (47, .invokestatic 28, 3), (50, .aload_n 0, 1), (51, .getfield 11, 3), (54, .iload 6, 2), (56, .iconst 3, 1), (57, .iadd, 1), (58, .iload 4, 2), (60, .invokestatic 28, 3), (63, .aload_n 0, 1), (64, .getfield 11, 3), (67, .iload 6, 2), (69, .iconst 4, 1), (70, .iadd, 1), (71, .iload 5, 2), (73, .invokestatic 28, 3), (76, .aload_n 0, 1), (77, .getfield 15, 3), (80, .bipush 40, 2), (82, .if_icmp .ge 16, 3), (85, .aload_n 0, 1), (86, .dup, 1), (87, .getfield 15, 3), (90, .iconst 1, 1), (91, .iadd, 1), (92, .putfield 15, 3), (95, .goto 16, 3), (98, .aload_n 0, 1), (99, .aload_n 0, 1), (100, .getfield 19, 3), (103, .iconst 1, 1), (104, .iadd, 1), (105, .bipush 40, 2), (107, .irem, 1), (108, .putfield 19, 3), (111, .return_, 1)]
set_option maxRecDepth 100000 in
theorem okX1_add : gj_dok cX1_add tbX1_add = true := by decide +kernel
def tbX1_tell : List (Nat × Instr × Nat) := [(0, .iload_n 1, 1), (1, .ifCond .lt 20, 3), (4, .iload_n 1, 1), (5, .aload_n 0, 1), (6, .getfield 15, 3), (9, .if_icmp .ge 12, 3), (12, .iload_n 2, 1), (13, .ifCond .lt 8, 3), (16, .iload_n 2, 1), (17, .iconst 5, 1), (18, .if_icmp .lt 5, 3), (21, .iconst (-1), 1), (22, .ireturn, 1), (23, .aload_n 0, 1), (24, .getfield 11, 3), (27, .aload_n 0, 1), (28, .getfield 19, 3), (31, .iload_n 1, 1), (32, .iadd, 1), (33, .bipush 40, 2), (35, .irem, 1), (36, .iconst 5, 1), (37, .imul, 1), (38, .iload_n 2, 1), (39, .iadd, 1), (40, .invokestatic 32, 3), (43, .ireturn, 1)]
set_option maxRecDepth 100000 in
theorem okX1_tell : gj_dok cX1_tell tbX1_tell = true := by decide +kernel
def tbX2_init : List (Nat × Instr × Nat) := [(0, .aload_n 0, 1), (1, .invokespecial 3, 3), (4, .aload_n 0, 1), (5, .bipush 32, 2), (7, .newarray .int, 2), (9, .putfield 9, 3), (12, .aload_n 0, 1), (13, .bipush 16, 2), (15, .newarray .boolean, 2), (17, .putfield 15, 3), (20, .aload_n 0, 1), (21, .bipush 8, 2), (23, .newarray .boolean, 2), (25, .putfield 19, 3), (28, .aload_n 0, 1), (29, .bipush 16, 2), (31, .newarray .boolean, 2), (33, .putfield 22, 3), (36, .aload_n 0, 1), (37, .bipush 8, 2), (39, .newarray .int, 2), (41, .putfield 25, 3), (44, .aload_n 0, 1), (45, .aload_n 1, 1), (46, .putfield 28, 3), (49, .aload_n 0, 1), (50, .aload_n 2, 1), (51, .putfield 32, 3), (54, .return_, 1)]
set_option maxRecDepth 100000 in
theorem okX2_init : gj_dok cX2_init tbX2_init = true := by decide +kernel
def tbX2_gather : List (Nat × Instr × Nat) := [(0, .iconst 0, 1), (1, .istore_n 2, 1), (2, .iload_n 2, 1), (3, .bipush 8, 2), (5, .if_icmp .ge 62, 3), (8, .iload_n 1, 1), (9, .ifCond .ne 18, 3), (12, .aload_n 0, 1), (13, .getfield 32, 3), (16, .getfield 36, 3), (19, .iload_n 2, 1), (20, .invokestatic 39, 3), (23, .iconst (-1), 1), (24, .if_icmp .ne 7, 3), (27, .iconst 1, 1), (28, .goto 4, 3), (31, .iconst 0, 1), (32, .istore_n 3, 1), (33, .aload_n 0, 1), (34, .getfield 19, 3), (37, .iload_n 2, 1), (38, .iload_n 3, 1), (39, .ifCond .eq 18, 3), (42, .aload_n 0, 1), (43, .getfield 28, 3), (46, .iload_n 2, 1), (47, .invokevirtual 45, 3), (50, .ifCond .eq 7, 3), (53, .iconst 1, 1), (54, .goto 4, 3), (57, .iconst 0, 1), (58, .invokestatic 51, 3), (61, .iinc 2 1, 3), (64, .goto (-62), 3), (67, .return_, 1)]
set_option maxRecDepth 100000 in
theorem okX2_gather : gj_dok cX2_gather tbX2_gather = true := by decide +kernel
def tbX2_look : List (Nat × Instr × Nat) := [(0, .iconst 0, 1), (1, .istore_n 2, 1), (2, .iload_n 2, 1), (3, .iconst 4, 1), (4, .if_icmp .ge 96, 3), (7, .iconst 4, 1), (8, .istore_n 3, 1), (9, .iload_n 3, 1), (10, .bipush 8, 2), (12, .if_icmp .ge 82, 3), (15, .aload_n 0, 1), (16, .getfield 9, 3), (19, .iload_n 2, 1), (20, .iload_n 3, 1), (21, .invokestatic 55, 3), (24, .aload_n 0, 1), (25, .iload_n 2, 1), (26, .iload_n 3, 1), (27, .iload_n 1, 1), (28, .invokevirtual 61, 3), (31, .invokestatic 65, 3), (34, .aload_n 0, 1), (35, .getfield 9, 3), (38, .iload_n 3, 1), (39, .iload_n 2, 1), (40, .invokestatic 55, 3), (43, .aload_n 0, 1), (44, .iload_n 3, 1), (45, .iload_n 2, 1), (46, .iload_n 1, 1), (47, .invokevirtual 61, 3), (50, .invokestatic 65, 3), (53, .aload_n 0, 1), (54, .getfield 15, 3), (57, .iload_n 2, 1), (58, .iload_n 3, 1), (59, .invokestatic 69, 3), (62, .aload_n 0, 1), (63, .iload_n 2, 1), (64, .iload_n 3, 1), (65, .invokevirtual 72, 3), (68, .ifCond .eq 16, 3), (71, .aload_n 0, 1), (72, .iload_n 3, 1), (73, .iload_n 2, 1), (74, .invokevirtual 72, 3), (77, .ifCond .eq 7, 3), (80, .iconst 1, 1), (81, .goto 4, 3), (84, .iconst 0, 1), (85, .invokestatic 51, 3), (88, .iinc 3 1, 3), (91, .goto (-82), 3), (94, .iinc 2 1, 3), (97, .goto (-95), 3), (100, .return_, 1)]
set_option maxRecDepth 100000 in
theorem okX2_look : gj_dok cX2_look tbX2_look = true := by decide +kernel
def tbX2_pairUp : List (Nat × Instr × Nat) := [(0, .aload_n 0, 1), (1, .getfield 25, 3), (4, .iconst (-1), 1), (5, .invokestatic 76, 3), (8, .aload_n 0, 1), (9, .getfield 22, 3), (12, .invokestatic 80, 3), (15, .iload_n 1, 1), (16, .tableswitch 51 0 2 #[28, 36, 44], 28), (44, .aload_n 0, 1), (45, .iconst 0, 1), (46, .invokevirtual 84, 3), (49, .goto 22, 3), (52, .aload_n 0, 1), (53, .iconst 4, 1), (54, .invokevirtual 84, 3), (57, .goto 14, 3), (60, .aload_n 0, 1), (61, .invokevirtual 88, 3), (64, .goto 7, 3), (67, .aload_n 0, 1), (68, .invokevirtual 91, 3), (71, .return_, 1)]
set_option maxRecDepth 100000 in
theorem okX2_pairUp : gj_dok cX2_pairUp tbX2_pairUp = true := by decide +kernel
def tbX2_soonerOf : List (Nat × Instr × Nat) := [(0, .aload_n 0, 1), (1, .iload_n 1, 1), (2, .iload_n 2, 1), (3, .invokevirtual 94, 3), (6, .istore 4, 2), (8, .aload_n 0, 1), (9, .iload_n 1, 1), (10, .iload_n 3, 1), (11, .invokevirtual 94, 3), (14, .istore 5, 2), (16, .iload 4, 2), (18, .iload 5, 2), (20, .if_icmp .gt 15, 3), (23, .iload 4, 2), (25, .iload 5, 2), (27, .if_icmp .ne 12, 3), (30, .iload_n 2, 1), (31, .iload_n 3, 1), (32, .if_icmp .ge 7, 3), (35, .iconst 1, 1), (36, .goto 4, 3), (39, .iconst 0, 1), (40, .ireturn, 1)]
set_option maxRecDepth 100000 in
theorem okX2_soonerOf : gj_dok cX2_soonerOf tbX2_soonerOf = true := by decide +kernel
def tbX2_wouldSooner : List (Nat × Instr × Nat) := [(0, .aload_n 0, 1), (1, .getfield 15, 3), (4, .iload_n 1, 1), (5, .iload_n 2, 1), (6, .invokestatic 69, 3), (9, .invokestatic 97, 3), (12, .ifCond .eq 37, 3), (15, .aload_n 0, 1), (16, .getfield 32, 3), (19, .iload_n 1, 1), (20, .iload_n 2, 1), (21, .invokevirtual 101, 3), (24, .ifCond .ne 25, 3), (27, .aload_n 0, 1), (28, .iload_n 1, 1), (29, .iload_n 2, 1), (30, .invokevirtual 104, 3), (33, .ifCond .eq 16, 3), (36, .aload_n 0, 1), (37, .iload_n 2, 1), (38, .iload_n 1, 1), (39, .invokevirtual 104, 3), (42, .ifCond .eq 7, 3), (45, .iconst 1, 1), (46, .goto 4, 3), (49, .iconst 0, 1), (50, .ireturn, 1)]
set_option maxRecDepth 100000 in
theorem okX2_wouldSooner : gj_dok cX2_wouldSooner tbX2_wouldSooner = true := by decide +kernel
def tbX2_isBetter : List (Nat × Instr × Nat) := [(0, .aload_n 0, 1), (1, .getfield 32, 3), (4, .getfield 36, 3), (7, .iload_n 1, 1), (8, .invokestatic 39, 3), (11, .istore_n 3, 1), (12, .iload_n 3, 1), (13, .iconst (-1), 1), (14, .if_icmp .eq 13, 3), (17, .aload_n 0, 1), (18, .iload_n 1, 1), (19, .iload_n 2, 1), (20, .iload_n 3, 1), (21, .invokevirtual 107, 3), (24, .ifCond .eq 7, 3), (27, .iconst 1, 1), (28, .goto 4, 3), (31, .iconst 0, 1), (32, .ireturn, 1)]
set_option maxRecDepth 100000 in
theorem okX2_isBetter : gj_dok cX2_isBetter tbX2_isBetter = true := by decide +kernel
def tbX2_likingOf : List (Nat × Instr × Nat) := [(0, .iload_n 1, 1), (1, .iload_n 2, 1), (2, .invokestatic 69, 3), (5, .istore 4, 2), (7, .iload_n 3, 1), (8, .ifCond .eq 18, 3), (11, .aload_n 0, 1), (12, .getfield 32, 3), (15, .getfield 111, 3), (18, .iload 4, 2), (20, .invokestatic 39, 3), (23, .goto 4, 3), (26, .iconst 0, 1), (27, .istore 5, 2), (29, .iload_n 3, 1), (30, .ifCond .eq 18, 3), (33, .aload_n 0, 1), (34, .getfield 32, 3), (37, .getfield 114, 3), (40, .iload 4, 2), (42, .invokestatic 39, 3), (45, .goto 4, 3), (48, .iconst 0, 1), (49, .istore 6, 2), (51, .aload_n 0, 1), (52, .getfield 28, 3), (55, .iload_n 1, 1), (56, .iload_n 2, 1), (57, .invokestatic 55, 3), (60, .iload 5, 2), (62, .iload 6, 2), (64, .invokevirtual 117, 3), (67, .istore 7, 2), (69, .iload 7, 2), (71, .sipush 1000, 3), (74, .aload_n 0, 1), (75, .getfield 28, 3), (78, .getfield 121, 3), (81, .imul, 1), (82, .aload_n 0, 1), (83, .getfield 32, 3), (86, .getfield 125, 3), (89, .iload 4, 2), (91, .invokestatic 39, 3), (94, .imul, 1), (95, .iadd, 1), (96, .ireturn, 1)]
set_option maxRecDepth 100000 in
theorem okX2_likingOf : gj_dok cX2_likingOf tbX2_likingOf = true := by decide +kernel
def tbX2_likes : List (Nat × Instr × Nat) := [(0, .aload_n 0, 1), (1, .getfield 9, 3), (4, .iload_n 1, 1), (5, .iload_n 2, 1), (6, .invokestatic 55, 3), (9, .invokestatic 39, 3), (12, .ireturn, 1)]
set_option maxRecDepth 100000 in
theorem okX2_likes : gj_dok cX2_likes tbX2_likes = true := by decide +kernel
def tbX2_would : List (Nat × Instr × Nat) := [(0, .aload_n 0, 1), (1, .iload_n 1, 1), (2, .iload_n 2, 1), (3, .invokevirtual 94, 3), (6, .sipush 1000, 3), (9, .aload_n 0, 1), (10, .getfield 28, 3), (13, .getfield 128, 3), (16, .iload_n 1, 1), (17, .invokestatic 39, 3), (20, .imul, 1), (21, .if_icmp .le 7, 3), (24, .iconst 1, 1), (25, .goto 4, 3), (28, .iconst 0, 1), (29, .ireturn, 1)]
set_option maxRecDepth 100000 in
theorem okX2_would : gj_dok cX2_would tbX2_would = true := by decide +kernel
def tbX2_canMeet : List (Nat × Instr × Nat) := [(0, .aload_n 0, 1), (1, .getfield 19, 3), (4, .iload_n 1, 1), (5, .invokestatic 97, 3), (8, .ifCond .eq 33, 3), (11, .aload_n 0, 1), (12, .getfield 19, 3), (15, .iload_n 2, 1), (16, .invokestatic 97, 3), (19, .ifCond .eq 22, 3), (22, .aload_n 0, 1), (23, .getfield 15, 3), (26, .iload_n 1, 1), (27, .iload_n 2, 1), (28, .invokestatic 69, 3), (31, .invokestatic 97, 3), (34, .ifCond .eq 7, 3), (37, .iconst 1, 1), (38, .goto 4, 3), (41, .iconst 0, 1), (42, .ireturn, 1)]
set_option maxRecDepth 100000 in
theorem okX2_canMeet : gj_dok cX2_canMeet tbX2_canMeet = true := by decide +kernel
def tbX2_askAll : List (Nat × Instr × Nat) := [(0, .iconst 0, 1), (1, .istore_n 2, 1), (2, .iload_n 2, 1), (3, .bipush 16, 2), (5, .if_icmp .gt 46, 3), (8, .iload_n 1, 1), (9, .istore_n 3, 1), (10, .iload_n 3, 1), (11, .iload_n 1, 1), (12, .iconst 4, 1), (13, .iadd, 1), (14, .if_icmp .ge 31, 3), (17, .aload_n 0, 1), (18, .getfield 25, 3), (21, .iload_n 3, 1), (22, .invokestatic 39, 3), (25, .iconst (-1), 1), (26, .if_icmp .ne 13, 3), (29, .aload_n 0, 1), (30, .iload_n 3, 1), (31, .aload_n 0, 1), (32, .iload_n 3, 1), (33, .invokevirtual 131, 3), (36, .invokevirtual 135, 3), (39, .iinc 3 1, 3), (42, .goto (-32), 3), (45, .iinc 2 1, 3), (48, .goto (-46), 3), (51, .return_, 1)]
set_option maxRecDepth 100000 in
theorem okX2_askAll : gj_dok cX2_askAll tbX2_askAll = true := by decide +kernel
def tbX2_soonestToAsk : List (Nat × Instr × Nat) := [(0, .iconst (-1), 1), (1, .istore_n 2, 1), (2, .iconst 0, 1), (3, .istore_n 3, 1), (4, .iload_n 3, 1), (5, .iconst 4, 1), (6, .if_icmp .ge 73, 3), (9, .iload_n 1, 1), (10, .iload_n 3, 1), (11, .invokestatic 139, 3), (14, .istore 4, 2), (16, .aload_n 0, 1), (17, .iload_n 1, 1), (18, .iload 4, 2), (20, .invokevirtual 142, 3), (23, .ifCond .eq 23, 3), (26, .aload_n 0, 1), (27, .getfield 22, 3), (30, .iload_n 1, 1), (31, .iload 4, 2), (33, .invokestatic 69, 3), (36, .invokestatic 97, 3), (39, .ifCond .ne 7, 3), (42, .iconst 1, 1), (43, .goto 4, 3), (46, .iconst 0, 1), (47, .istore 5, 2), (49, .iload 5, 2), (51, .ifCond .eq 22, 3), (54, .iload_n 2, 1), (55, .iconst (-1), 1), (56, .if_icmp .eq 14, 3), (59, .aload_n 0, 1), (60, .iload_n 1, 1), (61, .iload 4, 2), (63, .iload_n 2, 1), (64, .invokevirtual 107, 3), (67, .ifCond .eq 6, 3), (70, .iload 4, 2), (72, .istore_n 2, 1), (73, .iinc 3 1, 3), (76, .goto (-72), 3), (79, .iload_n 2, 1), (80, .ireturn, 1)]
set_option maxRecDepth 100000 in
theorem okX2_soonestToAsk : gj_dok cX2_soonestToAsk tbX2_soonestToAsk = true := by decide +kernel
def tbX2_ask : List (Nat × Instr × Nat) := [(0, .iload_n 2, 1), (1, .iconst (-1), 1), (2, .if_icmp .ne 4, 3), (5, .return_, 1), (6, .aload_n 0, 1), (7, .getfield 25, 3), (10, .iload_n 2, 1), (11, .invokestatic 39, 3), (14, .istore_n 3, 1), (15, .iload_n 3, 1), (16, .iconst (-1), 1), (17, .if_icmp .eq 27, 3), (20, .aload_n 0, 1), (21, .iload_n 2, 1), (22, .iload_n 1, 1), (23, .iload_n 3, 1), (24, .invokevirtual 107, 3), (27, .ifCond .ne 17, 3), (30, .aload_n 0, 1), (31, .getfield 22, 3), (34, .iload_n 1, 1), (35, .iload_n 2, 1), (36, .invokestatic 69, 3), (39, .iconst 1, 1), (40, .invokestatic 51, 3), (43, .return_, 1), (44, .iload_n 3, 1), (45, .iconst (-1), 1), (46, .if_icmp .eq 25, 3), (49, .aload_n 0, 1), (50, .getfield 22, 3), (53, .iload_n 3, 1), (54, .iload_n 2, 1), (55, .invokestatic 69, 3), (58, .iconst 1, 1), (59, .invokestatic 51, 3), (62, .aload_n 0, 1), (63, .getfield 25, 3), (66, .iload_n 3, 1), (67, .iconst (-1), 1), (68, .invokestatic 65, 3), (71, .aload_n 0, 1), (72, .iload_n 1, 1), (73, .iload_n 2, 1), (74, .invokevirtual 145, 3), (77, .return_, 1)]
set_option maxRecDepth 100000 in
theorem okX2_ask : gj_dok cX2_ask tbX2_ask = true := by decide +kernel
def tbX2_takeTurns : List (Nat × Instr × Nat) := [(0, .iconst 0, 1), (1, .istore_n 1, 1), (2, .iload_n 1, 1), (3, .iconst 4, 1), (4, .if_icmp .ge 57, 3), (7, .iconst (-1), 1), (8, .istore_n 2, 1), (9, .iconst 4, 1), (10, .istore_n 3, 1), (11, .iload_n 3, 1), (12, .bipush 8, 2), (14, .if_icmp .ge 35, 3), (17, .aload_n 0, 1), (18, .iload_n 1, 1), (19, .iload_n 3, 1), (20, .invokevirtual 148, 3), (23, .ifCond .eq 20, 3), (26, .iload_n 2, 1), (27, .iconst (-1), 1), (28, .if_icmp .eq 13, 3), (31, .aload_n 0, 1), (32, .iload_n 1, 1), (33, .iload_n 3, 1), (34, .iload_n 2, 1), (35, .invokevirtual 107, 3), (38, .ifCond .eq 5, 3), (41, .iload_n 3, 1), (42, .istore_n 2, 1), (43, .iinc 3 1, 3), (46, .goto (-35), 3), (49, .aload_n 0, 1), (50, .iload_n 1, 1), (51, .iload_n 2, 1), (52, .invokevirtual 145, 3), (55, .iinc 1 1, 3), (58, .goto (-56), 3), (61, .return_, 1)]
set_option maxRecDepth 100000 in
theorem okX2_takeTurns : gj_dok cX2_takeTurns tbX2_takeTurns = true := by decide +kernel
def tbX2_drawLots : List (Nat × Instr × Nat) := [(0, .iconst 0, 1), (1, .istore_n 1, 1), (2, .iload_n 1, 1), (3, .iconst 4, 1), (4, .if_icmp .ge 64, 3), (7, .iconst 0, 1), (8, .istore_n 2, 1), (9, .iconst 4, 1), (10, .istore_n 3, 1), (11, .iload_n 3, 1), (12, .bipush 8, 2), (14, .if_icmp .ge 26, 3), (17, .iload_n 2, 1), (18, .aload_n 0, 1), (19, .iload_n 1, 1), (20, .iload_n 3, 1), (21, .invokevirtual 148, 3), (24, .ifCond .eq 7, 3), (27, .iconst 1, 1), (28, .goto 4, 3), (31, .iconst 0, 1), (32, .iadd, 1), (33, .istore_n 2, 1), (34, .iinc 3 1, 3), (37, .goto (-26), 3), (40, .iload_n 2, 1), (41, .ifCond .le 21, 3), (44, .aload_n 0, 1), (45, .iload_n 1, 1), (46, .aload_n 0, 1), (47, .iload_n 1, 1), (48, .aload_n 0, 1), (49, .getfield 32, 3), (52, .iload_n 2, 1), (53, .invokevirtual 151, 3), (56, .invokevirtual 154, 3), (59, .invokevirtual 145, 3), (62, .iinc 1 1, 3), (65, .goto (-63), 3), (68, .return_, 1)]
set_option maxRecDepth 100000 in
theorem okX2_drawLots : gj_dok cX2_drawLots tbX2_drawLots = true := by decide +kernel
def tbX2_openOne : List (Nat × Instr × Nat) := [(0, .iload_n 2, 1), (1, .istore_n 3, 1), (2, .iconst 4, 1), (3, .istore 4, 2), (5, .iload 4, 2), (7, .bipush 8, 2), (9, .if_icmp .ge 29, 3), (12, .aload_n 0, 1), (13, .iload_n 1, 1), (14, .iload 4, 2), (16, .invokevirtual 148, 3), (19, .ifCond .eq 13, 3), (22, .iload_n 3, 1), (23, .ifCond .ne 6, 3), (26, .iload 4, 2), (28, .ireturn, 1), (29, .iinc 3 (-1), 3), (32, .iinc 4 1, 3), (35, .goto (-30), 3), (38, .iconst (-1), 1), (39, .ireturn, 1)]
set_option maxRecDepth 100000 in
theorem okX2_openOne : gj_dok cX2_openOne tbX2_openOne = true := by decide +kernel
def tbX2_isLeftFor : List (Nat × Instr × Nat) := [(0, .aload_n 0, 1), (1, .iload_n 1, 1), (2, .iload_n 2, 1), (3, .invokevirtual 142, 3), (6, .ifCond .eq 19, 3), (9, .aload_n 0, 1), (10, .getfield 25, 3), (13, .iload_n 2, 1), (14, .invokestatic 39, 3), (17, .iconst (-1), 1), (18, .if_icmp .ne 7, 3), (21, .iconst 1, 1), (22, .goto 4, 3), (25, .iconst 0, 1), (26, .ireturn, 1)]
set_option maxRecDepth 100000 in
theorem okX2_isLeftFor : gj_dok cX2_isLeftFor tbX2_isLeftFor = true := by decide +kernel
def tbX2_tie : List (Nat × Instr × Nat) := [(0, .iload_n 2, 1), (1, .iconst (-1), 1), (2, .if_icmp .eq 21, 3), (5, .aload_n 0, 1), (6, .getfield 25, 3), (9, .iload_n 1, 1), (10, .iload_n 2, 1), (11, .invokestatic 65, 3), (14, .aload_n 0, 1), (15, .getfield 25, 3), (18, .iload_n 2, 1), (19, .iload_n 1, 1), (20, .invokestatic 65, 3), (23, .return_, 1)]
set_option maxRecDepth 100000 in
theorem okX2_tie : gj_dok cX2_tie tbX2_tie = true := by decide +kernel
def tbX3_init : List (Nat × Instr × Nat) := [(0, .aload_n 0, 1), (1, .invokespecial 3, 3), (4, .aload_n 0, 1), (5, .bipush 8, 2), (7, .newarray .int, 2), (9, .putfield 9, 3), (12, .aload_n 0, 1), (13, .bipush 8, 2), (15, .newarray .int, 2), (17, .putfield 15, 3), (20, .aload_n 0, 1), (21, .bipush 8, 2), (23, .newarray .int, 2), (25, .putfield 18, 3), (28, .aload_n 0, 1), (29, .bipush 8, 2), (31, .newarray .int, 2), (33, .putfield 21, 3), (36, .aload_n 0, 1), (37, .bipush 16, 2), (39, .newarray .int, 2), (41, .putfield 24, 3), (44, .aload_n 0, 1), (45, .bipush 16, 2), (47, .newarray .int, 2), (49, .putfield 27, 3), (52, .aload_n 0, 1), (53, .bipush 16, 2), (55, .newarray .int, 2), (57, .putfield 30, 3), (60, .aload_n 0, 1), (61, .new 33, 3), (64, .dup, 1), (65, .invokespecial 35, 3), (68, .putfield 36, 3), (71, .aload_n 0, 1), (72, .getfield 9, 3), (75, .iconst (-1), 1), (76, .invokestatic 40, 3), (79, .return_, 1)]
set_option maxRecDepth 100000 in
theorem okX3_init : gj_dok cX3_init tbX3_init = true := by decide +kernel
def tbX3_begin : List (Nat × Instr × Nat) := [(0, .aload_n 0, 1), (1, .iconst 0, 1), (2, .putfield 46, 3), (5, .aload_n 0, 1), (6, .iconst 0, 1), (7, .putfield 50, 3), (10, .aload_n 0, 1), (11, .iconst 0, 1), (12, .putfield 53, 3), (15, .aload_n 0, 1), (16, .getfield 9, 3), (19, .iconst (-1), 1), (20, .invokestatic 40, 3), (23, .aload_n 0, 1), (24, .getfield 15, 3), (27, .iconst 0, 1), (28, .invokestatic 40, 3), (31, .aload_n 0, 1), (32, .getfield 18, 3), (35, .iconst 0, 1), (36, .invokestatic 40, 3), (39, .aload_n 0, 1), (40, .getfield 21, 3), (43, .iconst 0, 1), (44, .invokestatic 40, 3), (47, .aload_n 0, 1), (48, .getfield 24, 3), (51, .iconst 0, 1), (52, .invokestatic 40, 3), (55, .aload_n 0, 1), (56, .getfield 27, 3), (59, .iconst 0, 1), (60, .invokestatic 40, 3), (63, .aload_n 0, 1), (64, .getfield 30, 3), (67, .iconst 0, 1), (68, .invokestatic 40, 3), (71, .aload_n 0, 1), (72, .getfield 36, 3), (75, .invokevirtual 56, 3), (78, .return_, 1)]
set_option maxRecDepth 100000 in
theorem okX3_begin : gj_dok cX3_begin tbX3_begin = true := by decide +kernel
def tbX3_copyOf : List (Nat × Instr × Nat) := [(0, .aload_n 1, 1), (1, .ifnonnull 4, 3), (4, .return_, 1), (5, .aload_n 0, 1), (6, .aload_n 1, 1), (7, .getfield 46, 3), (10, .putfield 46, 3), (13, .aload_n 0, 1), (14, .aload_n 1, 1), (15, .getfield 50, 3), (18, .putfield 50, 3), (21, .aload_n 0, 1), (22, .aload_n 1, 1), (23, .getfield 53, 3), (26, .putfield 53, 3), (29, .aload_n 1, 1), (30, .getfield 9, 3), (33, .aload_n 0, 1), (34, .getfield 9, 3), (37, .invokestatic 59, 3), (40, .aload_n 1, 1), (41, .getfield 15, 3), (44, .aload_n 0, 1), (45, .getfield 15, 3), (48, .invokestatic 59, 3), (51, .aload_n 1, 1), (52, .getfield 18, 3), (55, .aload_n 0, 1), (56, .getfield 18, 3), (59, .invokestatic 59, 3), (62, .aload_n 1, 1), (63, .getfield 21, 3), (66, .aload_n 0, 1), (67, .getfield 21, 3), (70, .invokestatic 59, 3), (73, .aload_n 1, 1), (74, .getfield 24, 3), (77, .aload_n 0, 1), (78, .getfield 24, 3), (81, .invokestatic 59, 3), (84, .aload_n 1, 1), (85, .getfield 27, 3), (88, .aload_n 0, 1), (89, .getfield 27, 3), (92, .invokestatic 59, 3), (95, .aload_n 1, 1), (96, .getfield 30, 3), (99, .aload_n 0, 1), (100, .getfield 30, 3), (103, .invokestatic 59, 3), (106, .aload_n 0, 1), (107, .getfield 36, 3), (110, .aload_n 1, 1), (111, .getfield 36, 3), (114, .invokevirtual 63, 3), (117, .return_, 1)]
set_option maxRecDepth 100000 in
theorem okX3_copyOf : gj_dok cX3_copyOf tbX3_copyOf = true := by decide +kernel
def tbX3_bind : List (Nat × Instr × Nat) := [(0, .aload_n 0, 1), (1, .getfield 9, 3), (4, .iload_n 1, 1), (5, .iload_n 2, 1), (6, .invokestatic 67, 3), (9, .aload_n 0, 1), (10, .getfield 9, 3), (13, .iload_n 2, 1), (14, .iload_n 1, 1), (15, .invokestatic 67, 3), (18, .return_, 1)]
set_option maxRecDepth 100000 in
theorem okX3_bind : gj_dok cX3_bind tbX3_bind = true := by decide +kernel
def tbX3_loosen : List (Nat × Instr × Nat) := [(0, .aload_n 0, 1), (1, .iload_n 1, 1), (2, .invokevirtual 71, 3), (5, .aload_n 0, 1), (6, .iload_n 2, 1), (7, .invokevirtual 71, 3), (10, .return_, 1)]
set_option maxRecDepth 100000 in
theorem okX3_loosen : gj_dok cX3_loosen tbX3_loosen = true := by decide +kernel
def tbX3_arePair : List (Nat × Instr × Nat) := [(0, .iload_n 1, 1), (1, .iconst (-1), 1), (2, .if_icmp .eq 24, 3), (5, .iload_n 2, 1), (6, .iconst (-1), 1), (7, .if_icmp .eq 19, 3), (10, .aload_n 0, 1), (11, .getfield 9, 3), (14, .iload_n 1, 1), (15, .invokestatic 75, 3), (18, .iload_n 2, 1), (19, .if_icmp .ne 7, 3), (22, .iconst 1, 1), (23, .goto 4, 3), (26, .iconst 0, 1), (27, .ireturn, 1)]
set_option maxRecDepth 100000 in
theorem okX3_arePair : gj_dok cX3_arePair tbX3_arePair = true := by decide +kernel
def tbX3_haveTried : List (Nat × Instr × Nat) := [(0, .aload_n 0, 1), (1, .getfield 24, 3), (4, .iload_n 1, 1), (5, .invokestatic 75, 3), (8, .aload_n 0, 1), (9, .getfield 27, 3), (12, .iload_n 1, 1), (13, .invokestatic 75, 3), (16, .iadd, 1), (17, .ifCond .le 7, 3), (20, .iconst 1, 1), (21, .goto 4, 3), (24, .iconst 0, 1), (25, .ireturn, 1)]
set_option maxRecDepth 100000 in
theorem okX3_haveTried : gj_dok cX3_haveTried tbX3_haveTried = true := by decide +kernel
def tbX3_pairsOf : List (Nat × Instr × Nat) := [(0, .iconst 0, 1), (1, .istore_n 2, 1), (2, .iconst 0, 1), (3, .istore_n 3, 1), (4, .iload_n 3, 1), (5, .iconst 4, 1), (6, .if_icmp .ge 36, 3), (9, .aload_n 0, 1), (10, .getfield 9, 3), (13, .iload_n 3, 1), (14, .invokestatic 75, 3), (17, .iconst (-1), 1), (18, .if_icmp .eq 18, 3), (21, .aload_n 0, 1), (22, .getfield 18, 3), (25, .iload_n 3, 1), (26, .invokestatic 75, 3), (29, .iload_n 1, 1), (30, .if_icmp .lt 6, 3), (33, .iinc 2 1, 3), (36, .iinc 3 1, 3), (39, .goto (-35), 3), (42, .iload_n 2, 1), (43, .ireturn, 1)]
set_option maxRecDepth 100000 in
theorem okX3_pairsOf : gj_dok cX3_pairsOf tbX3_pairsOf = true := by decide +kernel
def tbX3_earn : List (Nat × Instr × Nat) := [(0, .aload_n 0, 1), (1, .getfield 21, 3), (4, .iload_n 1, 1), (5, .aload_n 0, 1), (6, .getfield 21, 3), (9, .iload_n 1, 1), (10, .invokestatic 75, 3), (13, .iload_n 2, 1), (14, .iadd, 1), (15, .invokestatic 67, 3), (18, .return_, 1)]
set_option maxRecDepth 100000 in
theorem okX3_earn : gj_dok cX3_earn tbX3_earn = true := by decide +kernel
def tbX3_lot : List (Nat × Instr × Nat) := [(0, .aload_n 0, 1), (1, .aload_n 0, 1), (2, .getfield 53, 3), (5, .i2l, 1), (6, .ldc2_w 79, 3), (9, .lmul, 1), (10, .ldc2_w 81, 3), (13, .ladd, 1), (14, .ldc2_w 83, 3), (17, .land, 1), (18, .l2i, 1), (19, .putfield 53, 3), (22, .iload_n 1, 1), (23, .ifCond .le 16, 3), (26, .aload_n 0, 1), (27, .getfield 53, 3), (30, .sipush 256, 3), (33, .idiv, 1), (34, .iload_n 1, 1), (35, .irem, 1), (36, .goto 4, 3), (39, .iconst 0, 1), (40, .ireturn, 1)]
set_option maxRecDepth 100000 in
theorem okX3_lot : gj_dok cX3_lot tbX3_lot = true := by decide +kernel
def tbX3_free : List (Nat × Instr × Nat) := [(0, .aload_n 0, 1), (1, .getfield 9, 3), (4, .iload_n 1, 1), (5, .iconst (-1), 1), (6, .invokestatic 67, 3), (9, .aload_n 0, 1), (10, .getfield 15, 3), (13, .iload_n 1, 1), (14, .iconst 0, 1), (15, .invokestatic 67, 3), (18, .aload_n 0, 1), (19, .getfield 18, 3), (22, .iload_n 1, 1), (23, .iconst 0, 1), (24, .invokestatic 67, 3), (27, .return_, 1)]
set_option maxRecDepth 100000 in
theorem okX3_free : gj_dok cX3_free tbX3_free = true := by decide +kernel
def tbX4_init : List (Nat × Instr × Nat) := [(0, .aload_n 0, 1), (1, .invokespecial 3, 3), (4, .aload_n 0, 1), (5, .iconst 4, 1), (6, .newarray .int, 2), (8, .putfield 9, 3), (11, .aload_n 0, 1), (12, .iconst 4, 1), (13, .newarray .int, 2), (15, .putfield 15, 3), (18, .aload_n 0, 1), (19, .iconst 4, 1), (20, .newarray .int, 2), (22, .putfield 18, 3), (25, .aload_n 0, 1), (26, .aload_n 1, 1), (27, .putfield 21, 3), (30, .aload_n 0, 1), (31, .aload_n 2, 1), (32, .putfield 25, 3), (35, .return_, 1)]
set_option maxRecDepth 100000 in
theorem okX4_init : gj_dok cX4_init tbX4_init = true := by decide +kernel
def tbX4_enter : List (Nat × Instr × Nat) := [(0, .aload_n 0, 1), (1, .iload_n 1, 1), (2, .putfield 29, 3), (5, .aload_n 0, 1), (6, .iload_n 1, 1), (7, .iconst 4, 1), (8, .if_icmp .ge 13, 3), (11, .aload_n 0, 1), (12, .getfield 21, 3), (15, .getfield 33, 3), (18, .goto 10, 3), (21, .aload_n 0, 1), (22, .getfield 21, 3), (25, .getfield 38, 3), (28, .putfield 41, 3), (31, .iconst 0, 1), (32, .istore_n 2, 1), (33, .iload_n 2, 1), (34, .iconst 4, 1), (35, .if_icmp .ge 88, 3), (38, .iload_n 1, 1), (39, .iload_n 1, 1), (40, .iload_n 2, 1), (41, .invokestatic 44, 3), (44, .invokestatic 50, 3), (47, .istore_n 3, 1), (48, .aload_n 0, 1), (49, .getfield 9, 3), (52, .iload_n 2, 1), (53, .aload_n 0, 1), (54, .getfield 25, 3), (57, .getfield 53, 3), (60, .iload_n 3, 1), (61, .invokestatic 56, 3), (64, .invokestatic 62, 3), (67, .aload_n 0, 1), (68, .getfield 15, 3), (71, .iload_n 2, 1), (72, .aload_n 0, 1), (73, .getfield 25, 3), (76, .getfield 66, 3), (79, .iload_n 3, 1), (80, .invokestatic 56, 3), (83, .invokestatic 62, 3), (86, .aload_n 0, 1), (87, .getfield 18, 3), (90, .iload_n 2, 1), (91, .sipush 1000, 3), (94, .aload_n 0, 1), (95, .getfield 21, 3), (98, .getfield 67, 3), (101, .imul, 1), (102, .aload_n 0, 1), (103, .getfield 25, 3), (106, .getfield 70, 3), (109, .iload_n 3, 1), (110, .invokestatic 56, 3), (113, .imul, 1), (114, .invokestatic 62, 3), (117, .iinc 2 1, 3), (120, .goto (-87), 3), (123, .aload_n 0, 1), (124, .aload_n 0, 1), (125, .getfield 25, 3), (128, .getfield 73, 3), (131, .iload_n 1, 1), (132, .invokestatic 56, 3), (135, .invokestatic 76, 3), (138, .putfield 80, 3), (141, .aload_n 0, 1), (142, .aload_n 0, 1), (143, .getfield 25, 3), (146, .getfield 83, 3), (149, .iload_n 1, 1), (150, .invokestatic 56, 3), (153, .putfield 86, 3), (156, .aload_n 0, 1), (157, .aload_n 0, 1), (158, .getfield 21, 3), (161, .getfield 89, 3), (164, .putfield 92, 3), (167, .aload_n 0, 1), (168, .iconst (-1), 1), (169, .putfield 93, 3), (172, .return_, 1)]
set_option maxRecDepth 100000 in
theorem okX4_enter : gj_dok cX4_enter tbX4_enter = true := by decide +kernel
def tbX4_shutOut : List (Nat × Instr × Nat) := [(0, .aload_n 0, 1), (1, .iload_n 1, 1), (2, .putfield 93, 3), (5, .return_, 1)]
set_option maxRecDepth 100000 in
theorem okX4_shutOut : gj_dok cX4_shutOut tbX4_shutOut = true := by decide +kernel
def tbX4_bestWorth : List (Nat × Instr × Nat) := [(0, .aload_n 0, 1), (1, .iload_n 1, 1), (2, .aload_n 0, 1), (3, .getfield 80, 3), (6, .aload_n 0, 1), (7, .getfield 86, 3), (10, .invokevirtual 96, 3), (13, .lreturn, 1)]
set_option maxRecDepth 100000 in
theorem okX4_bestWorth : gj_dok cX4_bestWorth tbX4_bestWorth = true := by decide +kernel
def tbX4_worthOfAct : List (Nat × Instr × Nat) := [(0, .aload_n 0, 1), (1, .iload_n 1, 1), (2, .iload_n 2, 1), (3, .aload_n 0, 1), (4, .getfield 80, 3), (7, .aload_n 0, 1), (8, .getfield 86, 3), (11, .invokevirtual 100, 3), (14, .lreturn, 1)]
set_option maxRecDepth 100000 in
theorem okX4_worthOfAct : gj_dok cX4_worthOfAct tbX4_worthOfAct = true := by decide +kernel
def tbX4_bestAct : List (Nat × Instr × Nat) := [(0, .aload_n 0, 1), (1, .getfield 80, 3), (4, .istore_n 2, 1), (5, .aload_n 0, 1), (6, .aload_n 0, 1), (7, .getfield 80, 3), (10, .iload_n 1, 1), (11, .aload_n 0, 1), (12, .getfield 80, 3), (15, .aload_n 0, 1), (16, .getfield 86, 3), (19, .invokevirtual 100, 3), (22, .lstore_n 3, 1), (23, .iconst (-1), 1), (24, .istore 5, 2), (26, .iload 5, 2), (28, .aload_n 0, 1), (29, .getfield 41, 3), (32, .if_icmp .ge 60, 3), (35, .iload 5, 2), (37, .aload_n 0, 1), (38, .getfield 80, 3), (41, .if_icmp .eq 45, 3), (44, .aload_n 0, 1), (45, .iload 5, 2), (47, .invokevirtual 104, 3), (50, .ifCond .eq 6, 3), (53, .goto 33, 3), (56, .aload_n 0, 1), (57, .iload 5, 2), (59, .iload_n 1, 1), (60, .aload_n 0, 1), (61, .getfield 80, 3), (64, .aload_n 0, 1), (65, .getfield 86, 3), (68, .invokevirtual 100, 3), (71, .lstore 6, 2), (73, .lload 6, 2), (75, .lload_n 3, 1), (76, .lcmp, 1), (77, .ifCond .le 9, 3), (80, .lload 6, 2), (82, .lstore_n 3, 1), (83, .iload 5, 2), (85, .istore_n 2, 1), (86, .iinc 5 1, 3), (89, .goto (-63), 3), (92, .iload_n 2, 1), (93, .ireturn, 1)]
set_option maxRecDepth 100000 in
theorem okX4_bestAct : gj_dok cX4_bestAct tbX4_bestAct = true := by decide +kernel
def tbX4_stays : List (Nat × Instr × Nat) := [(0, .aload_n 0, 1), (1, .getfield 80, 3), (4, .iconst (-1), 1), (5, .if_icmp .eq 15, 3), (8, .aload_n 0, 1), (9, .iload_n 1, 1), (10, .invokevirtual 108, 3), (13, .aload_n 0, 1), (14, .getfield 80, 3), (17, .if_icmp .ne 7, 3), (20, .iconst 1, 1), (21, .goto 4, 3), (24, .iconst 0, 1), (25, .ireturn, 1)]
set_option maxRecDepth 100000 in
theorem okX4_stays : gj_dok cX4_stays tbX4_stays = true := by decide +kernel
def tbX4_leastGood : List (Nat × Instr × Nat) := [(0, .aload_n 0, 1), (1, .iload_n 1, 1), (2, .putfield 80, 3), (5, .aload_n 0, 1), (6, .iload_n 2, 1), (7, .putfield 86, 3), (10, .iconst 0, 1), (11, .istore 4, 2), (13, .iload 4, 2), (15, .iload_n 2, 1), (16, .if_icmp .gt 50, 3), (19, .aload_n 0, 1), (20, .getfield 9, 3), (23, .iload_n 1, 1), (24, .iconst 4, 1), (25, .iload 4, 2), (27, .invokestatic 111, 3), (30, .invokestatic 62, 3), (33, .aload_n 0, 1), (34, .getfield 15, 3), (37, .iload_n 1, 1), (38, .iconst 4, 1), (39, .iload_n 2, 1), (40, .iload 4, 2), (42, .isub, 1), (43, .invokestatic 111, 3), (46, .invokestatic 62, 3), (49, .aload_n 0, 1), (50, .iload_n 3, 1), (51, .invokevirtual 116, 3), (54, .ifCond .eq 6, 3), (57, .iload 4, 2), (59, .ireturn, 1), (60, .iinc 4 1, 3), (63, .goto (-50), 3), (66, .iconst (-1), 1), (67, .ireturn, 1)]
set_option maxRecDepth 100000 in
theorem okX4_leastGood : gj_dok cX4_leastGood tbX4_leastGood = true := by decide +kernel
def tbX4_leastCow : List (Nat × Instr × Nat) := [(0, .iconst 1, 1), (1, .iload_n 1, 1), (2, .invokestatic 119, 3), (5, .i2l, 1), (6, .ldc2_w 122, 3), (9, .lmul, 1), (10, .lstore_n 2, 1), (11, .lconst 0, 1), (12, .lstore 4, 2), (14, .iconst 0, 1), (15, .istore 6, 2), (17, .iload 6, 2), (19, .sipush 999, 3), (22, .if_icmp .gt 83, 3), (25, .lload 4, 2), (27, .ldc2_w 124, 3), (30, .lcmp, 1), (31, .ifCond .gt 74, 3), (34, .aload_n 0, 1), (35, .lload 4, 2), (37, .l2i, 1), (38, .putfield 92, 3), (41, .aload_n 0, 1), (42, .iload_n 1, 1), (43, .aload_n 0, 1), (44, .getfield 80, 3), (47, .aload_n 0, 1), (48, .getfield 86, 3), (51, .invokevirtual 96, 3), (54, .aload_n 0, 1), (55, .aload_n 0, 1), (56, .getfield 80, 3), (59, .iload_n 1, 1), (60, .aload_n 0, 1), (61, .getfield 80, 3), (64, .aload_n 0, 1), (65, .getfield 86, 3), (68, .invokevirtual 100, 3), (71, .lsub, 1), (72, .lstore 7, 2), (74, .lload 7, 2), (76, .lconst 0, 1), (77, .lcmp, 1), (78, .ifCond .gt 8, 3), (81, .aload_n 0, 1), (82, .getfield 92, 3), (85, .ireturn, 1), (86, .lload 4, 2), (88, .lload 7, 2), (90, .lload_n 2, 1), (91, .ladd, 1), (92, .lconst 1, 1), (93, .lsub, 1), (94, .lload_n 2, 1), (95, .ldiv, 1), (96, .ladd, 1), (97, .lstore 4, 2), (99, .iinc 6 1, 3), (102, .goto (-85), 3), (105, .iconst (-1), 1), (106, .ireturn, 1)]
set_option maxRecDepth 100000 in
theorem okX4_leastCow : gj_dok cX4_leastCow tbX4_leastCow = true := by decide +kernel
def tbX4_isShut : List (Nat × Instr × Nat) := [(0, .iload_n 1, 1), (1, .iconst (-1), 1), (2, .if_icmp .eq 15, 3), (5, .iload_n 1, 1), (6, .aload_n 0, 1), (7, .getfield 93, 3), (10, .if_icmp .ne 7, 3), (13, .iconst 1, 1), (14, .goto 4, 3), (17, .iconst 0, 1), (18, .ireturn, 1)]
set_option maxRecDepth 100000 in
theorem okX4_isShut : gj_dok cX4_isShut tbX4_isShut = true := by decide +kernel
def tbX4_worthOf : List (Nat × Instr × Nat) := [(0, .iload_n 1, 1), (1, .ifCond .gt 5, 3), (4, .lconst 0, 1), (5, .lreturn, 1), (6, .aload_n 0, 1), (7, .iload_n 2, 1), (8, .iload_n 1, 1), (9, .iload_n 2, 1), (10, .iload_n 3, 1), (11, .invokevirtual 100, 3), (14, .lstore 4, 2), (16, .iconst (-1), 1), (17, .istore 6, 2), (19, .iload 6, 2), (21, .aload_n 0, 1), (22, .getfield 41, 3), (25, .if_icmp .ge 40, 3), (28, .iload 6, 2), (30, .iload_n 2, 1), (31, .if_icmp .eq 28, 3), (34, .aload_n 0, 1), (35, .iload 6, 2), (37, .invokevirtual 104, 3), (40, .ifCond .ne 19, 3), (43, .lload 4, 2), (45, .aload_n 0, 1), (46, .iload 6, 2), (48, .iload_n 1, 1), (49, .iload_n 2, 1), (50, .iload_n 3, 1), (51, .invokevirtual 100, 3), (54, .invokestatic 126, 3), (57, .lstore 4, 2), (59, .iinc 6 1, 3), (62, .goto (-43), 3), (65, .lload 4, 2), (67, .lreturn, 1)]
set_option maxRecDepth 100000 in
theorem okX4_worthOf : gj_dok cX4_worthOf tbX4_worthOf = true := by decide +kernel
def tbX4_doing_0 : List (Nat × Instr × Nat) := [(0, .iload_n 3, 1), (1, .iconst (-1), 1), (2, .if_icmp .eq 20, 3), (5, .iload_n 1, 1), (6, .iload_n 3, 1), (7, .if_icmp .eq 15, 3), (10, .ldc2_w 122, 3), (13, .aload_n 0, 1), (14, .getfield 92, 3), (17, .i2l, 1), (18, .lmul, 1), (19, .goto 4, 3), (22, .lconst 0, 1), (23, .lstore 5, 2), (25, .iload_n 1, 1), (26, .iconst (-1), 1), (27, .if_icmp .ne 36, 3), (30, .ldc2_w 122, 3), (33, .aload_n 0, 1), (34, .getfield 21, 3), (37, .getfield 129, 3), (40, .aload_n 0, 1), (41, .getfield 29, 3), (44, .invokestatic 56, 3), (47, .i2l, 1), (48, .lmul, 1), (49, .lload 5, 2), (51, .lsub, 1), (52, .aload_n 0, 1), (53, .iload_n 2, 1), (54, .iconst 1, 1), (55, .isub, 1), (56, .iconst (-1), 1), (57, .iconst 0, 1), (58, .invokevirtual 96, 3), (61, .ladd, 1), (62, .lreturn, 1), (63, .aload_n 0, 1), (64, .getfield 9, 3), (67, .iload_n 1, 1), (68, .invokestatic 56, 3), (71, .istore 7, 2), (73, .aload_n 0, 1), (74, .getfield 15, 3), (77, .iload_n 1, 1), (78, .invokestatic 56, 3), (81, .istore 8, 2), (83, .iload_n 1, 1), (84, .iload_n 3, 1), (85, .if_icmp .ne 8, 3), (88, .iload 4, 2), (90, .goto 4, 3), (93, .iconst 0, 1), (94, .istore 9, 2), (96, .aload_n 0, 1), (97, .getfield 21, 3), (100, .aload_n 0, 1), (101, .getfield 29, 3), (104, .iconst 4, 1), (105, .imul, 1)]
set_option maxRecDepth 100000 in
theorem okX4_doing_0 : gj_dok cX4_doing tbX4_doing_0 = true := by decide +kernel
def tbX4_doing_1 : List (Nat × Instr × Nat) := [(106, .iload_n 1, 1), (107, .iadd, 1), (108, .iload 7, 2), (110, .iload 8, 2), (112, .invokevirtual 132, 3), (115, .i2l, 1), (116, .lstore 10, 2), (118, .lload 10, 2), (120, .aload_n 0, 1), (121, .getfield 21, 3), (124, .getfield 136, 3), (127, .i2l, 1), (128, .lmul, 1), (129, .ldc2_w 122, 3), (132, .lload 10, 2), (134, .lsub, 1), (135, .aload_n 0, 1), (136, .getfield 21, 3), (139, .getfield 139, 3), (142, .i2l, 1), (143, .lmul, 1), (144, .ladd, 1), (145, .aload_n 0, 1), (146, .getfield 18, 3), (149, .iload_n 1, 1), (150, .invokestatic 56, 3), (153, .i2l, 1), (154, .ladd, 1), (155, .lstore 12, 2), (157, .iload 9, 2), (159, .aload_n 0, 1), (160, .getfield 21, 3), (163, .getfield 142, 3), (166, .if_icmp .lt 20, 3), (169, .lload 12, 2), (171, .ldc2_w 122, 3), (174, .aload_n 0, 1), (175, .getfield 21, 3), (178, .getfield 145, 3), (181, .i2l, 1), (182, .lmul, 1), (183, .ladd, 1), (184, .lstore 12, 2), (186, .iload_n 2, 1), (187, .iconst 1, 1), (188, .if_icmp .gt 9, 3), (191, .lload 12, 2), (193, .lload 5, 2), (195, .lsub, 1), (196, .lreturn, 1), (197, .aload_n 0, 1), (198, .getfield 9, 3), (201, .iload_n 1, 1), (202, .iconst 4, 1), (203, .iload 7, 2), (205, .iconst 1, 1), (206, .iadd, 1), (207, .invokestatic 111, 3), (210, .invokestatic 62, 3), (213, .aload_n 0, 1)]
set_option maxRecDepth 100000 in
theorem okX4_doing_1 : gj_dok cX4_doing tbX4_doing_1 = true := by decide +kernel
def tbX4_doing_2 : List (Nat × Instr × Nat) := [(214, .iload_n 2, 1), (215, .iconst 1, 1), (216, .isub, 1), (217, .iload_n 1, 1), (218, .iload 9, 2), (220, .iconst 1, 1), (221, .iadd, 1), (222, .invokevirtual 96, 3), (225, .lstore 14, 2), (227, .aload_n 0, 1), (228, .getfield 9, 3), (231, .iload_n 1, 1), (232, .iload 7, 2), (234, .invokestatic 62, 3), (237, .aload_n 0, 1), (238, .getfield 15, 3), (241, .iload_n 1, 1), (242, .iconst 4, 1), (243, .iload 8, 2), (245, .iconst 1, 1), (246, .iadd, 1), (247, .invokestatic 111, 3), (250, .invokestatic 62, 3), (253, .aload_n 0, 1), (254, .iload_n 2, 1), (255, .iconst 1, 1), (256, .isub, 1), (257, .iload_n 1, 1), (258, .iload 9, 2), (260, .iconst 1, 1), (261, .iadd, 1), (262, .invokevirtual 96, 3), (265, .lstore 16, 2), (267, .aload_n 0, 1), (268, .getfield 15, 3), (271, .iload_n 1, 1), (272, .iload 8, 2), (274, .invokestatic 62, 3), (277, .lload 12, 2), (279, .lload 5, 2), (281, .lsub, 1), (282, .lload 10, 2), (284, .lload 14, 2), (286, .lmul, 1), (287, .ldc2_w 122, 3), (290, .lload 10, 2), (292, .lsub, 1), (293, .lload 16, 2), (295, .lmul, 1), (296, .ladd, 1), (297, .ldc2_w 122, 3), (300, .ldiv, 1), (301, .ladd, 1), (302, .lreturn, 1)]
set_option maxRecDepth 100000 in
theorem okX4_doing_2 : gj_dok cX4_doing tbX4_doing_2 = true := by decide +kernel
def tbX5_init : List (Nat × Instr × Nat) := [(0, .aload_n 0, 1), (1, .invokespecial 3, 3), (4, .aload_n 0, 1), (5, .bipush 8, 2), (7, .newarray .int, 2), (9, .putfield 9, 3), (12, .aload_n 0, 1), (13, .bipush 32, 2), (15, .newarray .int, 2), (17, .putfield 15, 3), (20, .aload_n 0, 1), (21, .bipush 32, 2), (23, .newarray .int, 2), (25, .putfield 18, 3), (28, .aload_n 0, 1), (29, .bipush 32, 2), (31, .newarray .int, 2), (33, .putfield 21, 3), (36, .aload_n 0, 1), (37, .bipush 16, 2), (39, .newarray .int, 2), (41, .putfield 24, 3), (44, .aload_n 0, 1), (45, .sipush 800, 3), (48, .newarray .int, 2), (50, .putfield 27, 3), (53, .return_, 1)]
set_option maxRecDepth 100000 in
theorem okX5_init : gj_dok cX5_init tbX5_init = true := by decide +kernel
def tbX5_clear : List (Nat × Instr × Nat) := [(0, .aload_n 0, 1), (1, .iconst 0, 1), (2, .putfield 30, 3), (5, .aload_n 0, 1), (6, .iconst 0, 1), (7, .putfield 34, 3), (10, .aload_n 0, 1), (11, .bipush 10, 2), (13, .putfield 37, 3), (16, .aload_n 0, 1), (17, .iconst 0, 1), (18, .putfield 40, 3), (21, .aload_n 0, 1), (22, .iconst 1, 1), (23, .putfield 43, 3), (26, .aload_n 0, 1), (27, .iconst 0, 1), (28, .putfield 46, 3), (31, .aload_n 0, 1), (32, .iconst 0, 1), (33, .putfield 49, 3), (36, .aload_n 0, 1), (37, .iconst 0, 1), (38, .putfield 52, 3), (41, .aload_n 0, 1), (42, .iconst 0, 1), (43, .putfield 55, 3), (46, .aload_n 0, 1), (47, .iconst 3, 1), (48, .putfield 58, 3), (51, .aload_n 0, 1), (52, .getfield 9, 3), (55, .iconst 0, 1), (56, .invokestatic 61, 3), (59, .aload_n 0, 1), (60, .getfield 15, 3), (63, .bipush 8, 2), (65, .invokestatic 61, 3), (68, .aload_n 0, 1), (69, .getfield 18, 3), (72, .bipush 12, 2), (74, .invokestatic 61, 3), (77, .aload_n 0, 1), (78, .getfield 21, 3), (81, .iconst 4, 1), (82, .invokestatic 61, 3), (85, .aload_n 0, 1), (86, .getfield 24, 3), (89, .bipush 8, 2), (91, .invokestatic 61, 3), (94, .return_, 1)]
set_option maxRecDepth 100000 in
theorem okX5_clear : gj_dok cX5_clear tbX5_clear = true := by decide +kernel
def tbX5_take : List (Nat × Instr × Nat) := [(0, .aload_n 1, 1), (1, .ifnonnull 4, 3), (4, .return_, 1), (5, .aload_n 0, 1), (6, .aload_n 1, 1), (7, .getfield 30, 3), (10, .putfield 30, 3), (13, .aload_n 0, 1), (14, .aload_n 1, 1), (15, .getfield 34, 3), (18, .putfield 34, 3), (21, .aload_n 0, 1), (22, .aload_n 1, 1), (23, .getfield 37, 3), (26, .putfield 37, 3), (29, .aload_n 0, 1), (30, .aload_n 1, 1), (31, .getfield 40, 3), (34, .putfield 40, 3), (37, .aload_n 0, 1), (38, .aload_n 1, 1), (39, .getfield 43, 3), (42, .putfield 43, 3), (45, .aload_n 0, 1), (46, .aload_n 1, 1), (47, .getfield 46, 3), (50, .putfield 46, 3), (53, .aload_n 0, 1), (54, .aload_n 1, 1), (55, .getfield 49, 3), (58, .putfield 49, 3), (61, .aload_n 0, 1), (62, .aload_n 1, 1), (63, .getfield 52, 3), (66, .putfield 52, 3), (69, .aload_n 0, 1), (70, .aload_n 1, 1), (71, .getfield 55, 3), (74, .putfield 55, 3), (77, .aload_n 0, 1), (78, .aload_n 1, 1), (79, .getfield 58, 3), (82, .putfield 58, 3), (85, .aload_n 1, 1), (86, .getfield 9, 3), (89, .aload_n 0, 1), (90, .getfield 9, 3), (93, .invokestatic 67, 3), (96, .aload_n 1, 1), (97, .getfield 15, 3), (100, .aload_n 0, 1), (101, .getfield 15, 3), (104, .invokestatic 67, 3), (107, .aload_n 1, 1), (108, .getfield 18, 3), (111, .aload_n 0, 1), (112, .getfield 18, 3), (115, .invokestatic 67, 3), (118, .aload_n 1, 1), (119, .getfield 21, 3), (122, .aload_n 0, 1), (123, .getfield 21, 3), (126, .invokestatic 67, 3), (129, .aload_n 1, 1), (130, .getfield 24, 3), (133, .aload_n 0, 1), (134, .getfield 24, 3), (137, .invokestatic 67, 3), (140, .aload_n 0, 1), (141, .invokevirtual 71, 3), (144, .return_, 1)]
set_option maxRecDepth 100000 in
theorem okX5_take : gj_dok cX5_take tbX5_take = true := by decide +kernel
def tbX5_stands : List (Nat × Instr × Nat) := [(0, .aload_n 0, 1), (1, .getfield 30, 3), (4, .ifCond .le 14, 3), (7, .aload_n 0, 1), (8, .getfield 34, 3), (11, .ifCond .le 7, 3), (14, .iconst 1, 1), (15, .goto 4, 3), (18, .iconst 0, 1), (19, .ireturn, 1)]
set_option maxRecDepth 100000 in
theorem okX5_stands : gj_dok cX5_stands tbX5_stands = true := by decide +kernel
def tbX5_slotOf : List (Nat × Instr × Nat) := [(0, .iload_n 1, 1), (1, .ifCond .lt 13, 3), (4, .iload_n 1, 1), (5, .aload_n 0, 1), (6, .getfield 30, 3), (9, .if_icmp .ge 5, 3), (12, .iload_n 1, 1), (13, .ireturn, 1), (14, .iload_n 1, 1), (15, .bipush 10, 2), (17, .if_icmp .lt 21, 3), (20, .iload_n 1, 1), (21, .bipush 10, 2), (23, .aload_n 0, 1), (24, .getfield 34, 3), (27, .iadd, 1), (28, .if_icmp .ge 10, 3), (31, .iload_n 1, 1), (32, .bipush 10, 2), (34, .isub, 1), (35, .iconst 4, 1), (36, .iadd, 1), (37, .ireturn, 1), (38, .iconst (-1), 1), (39, .ireturn, 1)]
set_option maxRecDepth 100000 in
theorem okX5_slotOf : gj_dok cX5_slotOf tbX5_slotOf = true := by decide +kernel
def tbX5_isPerson : List (Nat × Instr × Nat) := [(0, .iload_n 1, 1), (1, .iconst 4, 1), (2, .if_icmp .ge 23, 3), (5, .iload_n 1, 1), (6, .ifCond .lt 15, 3), (9, .iload_n 1, 1), (10, .aload_n 0, 1), (11, .getfield 30, 3), (14, .if_icmp .ge 7, 3), (17, .iconst 1, 1), (18, .goto 22, 3), (21, .iconst 0, 1), (22, .goto 18, 3), (25, .iload_n 1, 1), (26, .iconst 4, 1), (27, .isub, 1), (28, .aload_n 0, 1), (29, .getfield 34, 3), (32, .if_icmp .ge 7, 3), (35, .iconst 1, 1), (36, .goto 4, 3), (39, .iconst 0, 1), (40, .ireturn, 1)]
set_option maxRecDepth 100000 in
theorem okX5_isPerson : gj_dok cX5_isPerson tbX5_isPerson = true := by decide +kernel
def tbX5_shownRight : List (Nat × Instr × Nat) := [(0, .aload_n 0, 1), (1, .iload_n 1, 1), (2, .iload_n 2, 1), (3, .iload_n 3, 1), (4, .invokevirtual 74, 3), (7, .lstore 4, 2), (9, .lload 4, 2), (11, .aload_n 0, 1), (12, .iload_n 1, 1), (13, .iload_n 2, 1), (14, .iload_n 3, 1), (15, .invokevirtual 78, 3), (18, .ladd, 1), (19, .lstore 6, 2), (21, .lload 6, 2), (23, .lconst 0, 1), (24, .lcmp, 1), (25, .ifCond .gt 7, 3), (28, .iconst 0, 1), (29, .goto 13, 3), (32, .ldc2_w 81, 3), (35, .lload 4, 2), (37, .lmul, 1), (38, .lload 6, 2), (40, .ldiv, 1), (41, .l2i, 1), (42, .ireturn, 1)]
set_option maxRecDepth 100000 in
theorem okX5_shownRight : gj_dok cX5_shownRight tbX5_shownRight = true := by decide +kernel
def tbX5_shownGood : List (Nat × Instr × Nat) := [(0, .aload_n 0, 1), (1, .getfield 27, 3), (4, .iload_n 1, 1), (5, .iconst 5, 1), (6, .imul, 1), (7, .iload_n 2, 1), (8, .iadd, 1), (9, .iconst 5, 1), (10, .imul, 1), (11, .iload_n 3, 1), (12, .iadd, 1), (13, .invokestatic 83, 3), (16, .ireturn, 1)]
set_option maxRecDepth 100000 in
theorem okX5_shownGood : gj_dok cX5_shownGood tbX5_shownGood = true := by decide +kernel
def tbX5_gain : List (Nat × Instr × Nat) := [(0, .aload_n 0, 1), (1, .iload_n 1, 1), (2, .iload_n 2, 1), (3, .iload_n 3, 1), (4, .invokevirtual 87, 3), (7, .istore 4, 2), (9, .iload 4, 2), (11, .aload_n 0, 1), (12, .getfield 37, 3), (15, .imul, 1), (16, .sipush 1000, 3), (19, .iload 4, 2), (21, .isub, 1), (22, .aload_n 0, 1), (23, .getfield 40, 3), (26, .imul, 1), (27, .iadd, 1), (28, .ireturn, 1)]
set_option maxRecDepth 100000 in
theorem okX5_gain : gj_dok cX5_gain tbX5_gain = true := by decide +kernel
def tbX5_yearSum : List (Nat × Instr × Nat) := [(0, .iconst 0, 1), (1, .istore_n 2, 1), (2, .iconst 0, 1), (3, .istore_n 3, 1), (4, .iload_n 3, 1), (5, .bipush 8, 2), (7, .if_icmp .ge 30, 3), (10, .aload_n 0, 1), (11, .iload_n 3, 1), (12, .invokevirtual 91, 3), (15, .ifCond .eq 16, 3), (18, .iload_n 2, 1), (19, .aload_n 0, 1), (20, .iload_n 3, 1), (21, .aload_n 1, 1), (22, .iload_n 3, 1), (23, .invokestatic 83, 3), (26, .invokevirtual 95, 3), (29, .iadd, 1), (30, .istore_n 2, 1), (31, .iinc 3 1, 3), (34, .goto (-30), 3), (37, .iload_n 2, 1), (38, .ireturn, 1)]
set_option maxRecDepth 100000 in
theorem okX5_yearSum : gj_dok cX5_yearSum tbX5_yearSum = true := by decide +kernel
def tbX5_sumOf : List (Nat × Instr × Nat) := [(0, .iconst 0, 1), (1, .iload_n 2, 1), (2, .aload_n 0, 1), (3, .getfield 43, 3), (6, .isub, 1), (7, .invokestatic 99, 3), (10, .bipush 16, 2), (12, .imul, 1), (13, .aload_n 0, 1), (14, .getfield 46, 3), (17, .imul, 1), (18, .istore_n 3, 1), (19, .aload_n 0, 1), (20, .aload_n 1, 1), (21, .invokevirtual 104, 3), (24, .iload_n 2, 1), (25, .imul, 1), (26, .istore 4, 2), (28, .iconst 0, 1), (29, .istore 5, 2), (31, .iload 5, 2), (33, .bipush 8, 2), (35, .if_icmp .ge 34, 3), (38, .aload_n 0, 1), (39, .iload 5, 2), (41, .invokevirtual 91, 3), (44, .ifCond .eq 19, 3), (47, .aload_n 1, 1), (48, .iload 5, 2), (50, .invokestatic 83, 3), (53, .iconst (-1), 1), (54, .if_icmp .eq 9, 3), (57, .iload 4, 2), (59, .iload_n 3, 1), (60, .iadd, 1), (61, .istore 4, 2), (63, .iinc 5 1, 3), (66, .goto (-35), 3), (69, .iload 4, 2), (71, .ireturn, 1)]
set_option maxRecDepth 100000 in
theorem okX5_sumOf : gj_dok cX5_sumOf tbX5_sumOf = true := by decide +kernel
def tbX5_trueYear : List (Nat × Instr × Nat) := [(0, .iload_n 2, 1), (1, .iconst (-1), 1), (2, .if_icmp .ne 15, 3), (5, .bipush 16, 2), (7, .aload_n 0, 1), (8, .getfield 9, 3), (11, .iload_n 1, 1), (12, .invokestatic 83, 3), (15, .imul, 1), (16, .ireturn, 1), (17, .aload_n 0, 1), (18, .getfield 24, 3), (21, .iload_n 1, 1), (22, .iload_n 2, 1), (23, .invokestatic 108, 3), (26, .invokestatic 83, 3), (29, .istore_n 3, 1), (30, .iload_n 3, 1), (31, .aload_n 0, 1), (32, .getfield 37, 3), (35, .imul, 1), (36, .bipush 16, 2), (38, .iload_n 3, 1), (39, .isub, 1), (40, .aload_n 0, 1), (41, .getfield 40, 3), (44, .imul, 1), (45, .iadd, 1), (46, .ireturn, 1)]
set_option maxRecDepth 100000 in
theorem okX5_trueYear : gj_dok cX5_trueYear tbX5_trueYear = true := by decide +kernel
def tbX5_reckonShown : List (Nat × Instr × Nat) := [(0, .iconst 0, 1), (1, .istore_n 1, 1), (2, .iload_n 1, 1), (3, .bipush 32, 2), (5, .if_icmp .ge 58, 3), (8, .iconst 0, 1), (9, .istore_n 2, 1), (10, .iload_n 2, 1), (11, .iconst 5, 1), (12, .if_icmp .ge 45, 3), (15, .iconst 0, 1), (16, .istore_n 3, 1), (17, .iload_n 3, 1), (18, .iconst 5, 1), (19, .if_icmp .ge 32, 3), (22, .aload_n 0, 1), (23, .getfield 27, 3), (26, .iload_n 1, 1), (27, .iconst 5, 1), (28, .imul, 1), (29, .iload_n 2, 1), (30, .iadd, 1), (31, .iconst 5, 1), (32, .imul, 1), (33, .iload_n 3, 1), (34, .iadd, 1), (35, .aload_n 0, 1), (36, .iload_n 1, 1), (37, .iload_n 2, 1), (38, .iload_n 3, 1), (39, .invokevirtual 113, 3), (42, .invokestatic 116, 3), (45, .iinc 3 1, 3), (48, .goto (-31), 3), (51, .iinc 2 1, 3), (54, .goto (-44), 3), (57, .iinc 1 1, 3), (60, .goto (-58), 3), (63, .return_, 1)]
set_option maxRecDepth 100000 in
theorem okX5_reckonShown : gj_dok cX5_reckonShown tbX5_reckonShown = true := by decide +kernel
def tbX5_goodNext : List (Nat × Instr × Nat) := [(0, .aload_n 0, 1), (1, .iload_n 1, 1), (2, .iload_n 2, 1), (3, .iload_n 3, 1), (4, .invokevirtual 74, 3), (7, .lstore 4, 2), (9, .aload_n 0, 1), (10, .iload_n 1, 1), (11, .iload_n 2, 1), (12, .iload_n 3, 1), (13, .invokevirtual 78, 3), (16, .lstore 6, 2), (18, .ldc2_w 120, 3), (21, .lload 4, 2), (23, .lload 6, 2), (25, .ladd, 1), (26, .lmul, 1), (27, .lstore 8, 2), (29, .lload 8, 2), (31, .lconst 0, 1), (32, .lcmp, 1), (33, .ifCond .gt 5, 3), (36, .iconst 0, 1), (37, .ireturn, 1), (38, .ldc2_w 81, 3), (41, .lload 4, 2), (43, .aload_n 0, 1), (44, .getfield 18, 3), (47, .iload_n 1, 1), (48, .invokestatic 83, 3), (51, .i2l, 1), (52, .lmul, 1), (53, .lload 6, 2), (55, .aload_n 0, 1), (56, .getfield 21, 3), (59, .iload_n 1, 1), (60, .invokestatic 83, 3), (63, .i2l, 1), (64, .lmul, 1), (65, .ladd, 1), (66, .lmul, 1), (67, .lload 8, 2), (69, .ldiv, 1), (70, .l2i, 1), (71, .ireturn, 1)]
set_option maxRecDepth 100000 in
theorem okX5_goodNext : gj_dok cX5_goodNext tbX5_goodNext = true := by decide +kernel
def tbX5_rightAfter : List (Nat × Instr × Nat) := [(0, .aload_n 0, 1), (1, .getfield 15, 3), (4, .iload_n 1, 1), (5, .invokestatic 83, 3), (8, .i2l, 1), (9, .aload_n 0, 1), (10, .getfield 18, 3), (13, .iload_n 1, 1), (14, .invokestatic 83, 3), (17, .iload_n 2, 1), (18, .iload_n 3, 1), (19, .invokestatic 122, 3), (22, .lmul, 1), (23, .lreturn, 1)]
set_option maxRecDepth 100000 in
theorem okX5_rightAfter : gj_dok cX5_rightAfter tbX5_rightAfter = true := by decide +kernel
def tbX5_otherAfter : List (Nat × Instr × Nat) := [(0, .bipush 16, 2), (2, .aload_n 0, 1), (3, .getfield 15, 3), (6, .iload_n 1, 1), (7, .invokestatic 83, 3), (10, .isub, 1), (11, .i2l, 1), (12, .aload_n 0, 1), (13, .getfield 21, 3), (16, .iload_n 1, 1), (17, .invokestatic 83, 3), (20, .iload_n 2, 1), (21, .iload_n 3, 1), (22, .invokestatic 122, 3), (25, .lmul, 1), (26, .lreturn, 1)]
set_option maxRecDepth 100000 in
theorem okX5_otherAfter : gj_dok cX5_otherAfter tbX5_otherAfter = true := by decide +kernel
def tbX5_oddsOf : List (Nat × Instr × Nat) := [(0, .lconst 1, 1), (1, .lstore_n 3, 1), (2, .iconst 0, 1), (3, .istore 5, 2), (5, .iload 5, 2), (7, .iload_n 1, 1), (8, .if_icmp .ge 20, 3), (11, .iload 5, 2), (13, .iconst 4, 1), (14, .if_icmp .ge 14, 3), (17, .lload_n 3, 1), (18, .iload_n 0, 1), (19, .i2l, 1), (20, .lmul, 1), (21, .lstore_n 3, 1), (22, .iinc 5 1, 3), (25, .goto (-20), 3), (28, .iconst 0, 1), (29, .istore 5, 2), (31, .iload 5, 2), (33, .iload_n 2, 1), (34, .if_icmp .ge 23, 3), (37, .iload 5, 2), (39, .iconst 4, 1), (40, .if_icmp .ge 17, 3), (43, .lload_n 3, 1), (44, .bipush 16, 2), (46, .iload_n 0, 1), (47, .isub, 1), (48, .i2l, 1), (49, .lmul, 1), (50, .lstore_n 3, 1), (51, .iinc 5 1, 3), (54, .goto (-23), 3), (57, .lload_n 3, 1), (58, .lreturn, 1)]
set_option maxRecDepth 100000 in
theorem okX5_oddsOf : gj_dok cX5_oddsOf tbX5_oddsOf = true := by decide +kernel
def tbX6_init : List (Nat × Instr × Nat) := [(0, .aload_n 0, 1), (1, .invokespecial 3, 3), (4, .aload_n 0, 1), (5, .bipush 8, 2), (7, .newarray .long, 2), (9, .putfield 9, 3), (12, .aload_n 0, 1), (13, .bipush 32, 2), (15, .newarray .boolean, 2), (17, .putfield 15, 3), (20, .aload_n 0, 1), (21, .bipush 16, 2), (23, .newarray .boolean, 2), (25, .putfield 19, 3), (28, .aload_n 0, 1), (29, .aload_n 1, 1), (30, .putfield 22, 3), (33, .aload_n 0, 1), (34, .aload_n 2, 1), (35, .putfield 26, 3), (38, .return_, 1)]
set_option maxRecDepth 100000 in
theorem okX6_init : gj_dok cX6_init tbX6_init = true := by decide +kernel
def tbX6_read : List (Nat × Instr × Nat) := [(0, .aload_n 0, 1), (1, .getfield 26, 3), (4, .invokevirtual 30, 3), (7, .aload_n 0, 1), (8, .iconst 0, 1), (9, .putfield 35, 3), (12, .aload_n 0, 1), (13, .iconst 0, 1), (14, .putfield 39, 3), (17, .aload_n 0, 1), (18, .getfield 15, 3), (21, .invokestatic 42, 3), (24, .aload_n 0, 1), (25, .getfield 19, 3), (28, .invokestatic 42, 3), (31, .aload_n 0, 1), (32, .invokevirtual 48, 3), (35, .iconst 0, 1), (36, .istore_n 1, 1), (37, .iload_n 1, 1), (38, .aload_n 0, 1), (39, .getfield 22, 3), (42, .invokevirtual 51, 3), (45, .if_icmp .gt 28, 3), (48, .aload_n 0, 1), (49, .getfield 57, 3), (52, .ifCond .eq 21, 3), (55, .aload_n 0, 1), (56, .invokevirtual 60, 3), (59, .ifCond .ne 8, 3), (62, .aload_n 0, 1), (63, .getfield 64, 3), (66, .ireturn, 1), (67, .iinc 1 1, 3), (70, .goto (-33), 3), (73, .aload_n 0, 1), (74, .getfield 26, 3), (77, .invokevirtual 67, 3), (80, .ifCond .eq 7, 3), (83, .iconst (-1), 1), (84, .goto 10, 3), (87, .aload_n 0, 1), (88, .getfield 22, 3), (91, .invokevirtual 51, 3), (94, .ireturn, 1)]
set_option maxRecDepth 100000 in
theorem okX6_read : gj_dok cX6_read tbX6_read = true := by decide +kernel
def tbX6_scan : List (Nat × Instr × Nat) := [(0, .aload_n 0, 1), (1, .aload_n 0, 1), (2, .getfield 39, 3), (5, .putfield 64, 3), (8, .aload_n 0, 1), (9, .getfield 64, 3), (12, .aload_n 0, 1), (13, .getfield 22, 3), (16, .invokevirtual 51, 3), (19, .if_icmp .ge 33, 3), (22, .aload_n 0, 1), (23, .getfield 22, 3), (26, .aload_n 0, 1), (27, .getfield 64, 3), (30, .invokevirtual 70, 3), (33, .invokestatic 74, 3), (36, .ifCond .eq 16, 3), (39, .aload_n 0, 1), (40, .dup, 1), (41, .getfield 64, 3), (44, .iconst 1, 1), (45, .iadd, 1), (46, .putfield 64, 3), (49, .goto (-41), 3), (52, .aload_n 0, 1), (53, .aload_n 0, 1), (54, .getfield 22, 3), (57, .aload_n 0, 1), (58, .getfield 64, 3), (61, .invokevirtual 70, 3), (64, .invokestatic 78, 3), (67, .putfield 57, 3), (70, .aload_n 0, 1), (71, .aload_n 0, 1), (72, .getfield 57, 3), (75, .ifCond .ne 10, 3), (78, .aload_n 0, 1), (79, .getfield 64, 3), (82, .goto 9, 3), (85, .aload_n 0, 1), (86, .getfield 64, 3), (89, .iconst 1, 1), (90, .iadd, 1), (91, .putfield 39, 3), (94, .aload_n 0, 1), (95, .getfield 57, 3), (98, .iconst 1, 1), (99, .if_icmp .eq 11, 3), (102, .aload_n 0, 1), (103, .getfield 57, 3), (106, .iconst 2, 1), (107, .if_icmp .ne 51, 3), (110, .aload_n 0, 1), (111, .getfield 39, 3), (114, .aload_n 0, 1), (115, .getfield 22, 3), (118, .invokevirtual 51, 3), (121, .if_icmp .ge 37, 3), (124, .aload_n 0, 1), (125, .getfield 22, 3), (128, .aload_n 0, 1), (129, .getfield 39, 3), (132, .invokevirtual 70, 3), (135, .invokestatic 78, 3), (138, .aload_n 0, 1), (139, .getfield 57, 3), (142, .if_icmp .ne 16, 3), (145, .aload_n 0, 1), (146, .dup, 1), (147, .getfield 39, 3), (150, .iconst 1, 1), (151, .iadd, 1), (152, .putfield 39, 3), (155, .goto (-45), 3), (158, .return_, 1)]
set_option maxRecDepth 100000 in
theorem okX6_scan : gj_dok cX6_scan tbX6_scan = true := by decide +kernel
def tbX6_isBlank : List (Nat × Instr × Nat) := [(0, .iload_n 0, 1), (1, .bipush 32, 2), (3, .if_icmp .eq 9, 3), (6, .iload_n 0, 1), (7, .bipush 10, 2), (9, .if_icmp .ne 7, 3), (12, .iconst 1, 1), (13, .goto 4, 3), (16, .iconst 0, 1), (17, .ireturn, 1)]
set_option maxRecDepth 100000 in
theorem okX6_isBlank : gj_dok cX6_isBlank tbX6_isBlank = true := by decide +kernel
def tbX6_kindOf : List (Nat × Instr × Nat) := [(0, .iload_n 0, 1), (1, .iconst (-1), 1), (2, .if_icmp .ne 5, 3), (5, .iconst 0, 1), (6, .ireturn, 1), (7, .iload_n 0, 1), (8, .bipush 97, 2), (10, .if_icmp .lt 11, 3), (13, .iload_n 0, 1), (14, .bipush 122, 2), (16, .if_icmp .gt 5, 3), (19, .iconst 1, 1), (20, .ireturn, 1), (21, .iload_n 0, 1), (22, .bipush 48, 2), (24, .if_icmp .lt 11, 3), (27, .iload_n 0, 1), (28, .bipush 57, 2), (30, .if_icmp .gt 5, 3), (33, .iconst 2, 1), (34, .ireturn, 1), (35, .iload_n 0, 1), (36, .bipush 59, 2), (38, .if_icmp .ne 7, 3), (41, .iconst 3, 1), (42, .goto 4, 3), (45, .iconst 4, 1), (46, .ireturn, 1)]
set_option maxRecDepth 100000 in
theorem okX6_kindOf : gj_dok cX6_kindOf tbX6_kindOf = true := by decide +kernel
def tbX6_readLine : List (Nat × Instr × Nat) := [(0, .aload_n 0, 1), (1, .ldc 81, 2), (3, .invokevirtual 83, 3), (6, .ifCond .eq 16, 3), (9, .aload_n 0, 1), (10, .iconst 0, 1), (11, .aload_n 0, 1), (12, .getfield 26, 3), (15, .getfield 87, 3), (18, .invokevirtual 90, 3), (21, .ireturn, 1), (22, .aload_n 0, 1), (23, .ldc 94, 2), (25, .invokevirtual 83, 3), (28, .ifCond .eq 16, 3), (31, .aload_n 0, 1), (32, .iconst 4, 1), (33, .aload_n 0, 1), (34, .getfield 26, 3), (37, .getfield 96, 3), (40, .invokevirtual 90, 3), (43, .ireturn, 1), (44, .aload_n 0, 1), (45, .ldc 99, 2), (47, .invokevirtual 83, 3), (50, .ifCond .eq 8, 3), (53, .aload_n 0, 1), (54, .invokevirtual 101, 3), (57, .ireturn, 1), (58, .aload_n 0, 1), (59, .ldc 104, 2), (61, .invokevirtual 83, 3), (64, .ifCond .eq 8, 3), (67, .aload_n 0, 1), (68, .invokevirtual 106, 3), (71, .ireturn, 1), (72, .aload_n 0, 1), (73, .ldc 109, 2), (75, .invokevirtual 83, 3), (78, .ifCond .eq 8, 3), (81, .aload_n 0, 1), (82, .invokevirtual 111, 3), (85, .ireturn, 1), (86, .aload_n 0, 1), (87, .ldc 114, 2), (89, .invokevirtual 83, 3), (92, .ifCond .eq 8, 3), (95, .aload_n 0, 1), (96, .invokevirtual 116, 3), (99, .ireturn, 1), (100, .aload_n 0, 1), (101, .ldc 119, 2), (103, .invokevirtual 83, 3), (106, .ifCond .eq 8, 3), (109, .aload_n 0, 1), (110, .invokevirtual 121, 3), (113, .ireturn, 1), (114, .aload_n 0, 1), (115, .ldc 124, 2), (117, .invokevirtual 83, 3), (120, .ifCond .eq 8, 3), (123, .aload_n 0, 1), (124, .invokevirtual 126, 3), (127, .ireturn, 1), (128, .aload_n 0, 1), (129, .ldc 129, 2), (131, .invokevirtual 83, 3), (134, .ifCond .eq 14, 3), (137, .aload_n 0, 1), (138, .invokevirtual 131, 3), (141, .ifCond .eq 7, 3), (144, .iconst 1, 1), (145, .goto 4, 3), (148, .iconst 0, 1), (149, .ireturn, 1)]
set_option maxRecDepth 100000 in
theorem okX6_readLine : gj_dok cX6_readLine tbX6_readLine = true := by decide +kernel
def tbX6_readPerson : List (Nat × Instr × Nat) := [(0, .iload_n 2, 1), (1, .iconst 4, 1), (2, .if_icmp .lt 5, 3), (5, .iconst 0, 1), (6, .ireturn, 1), (7, .aload_n 0, 1), (8, .invokevirtual 48, 3), (11, .aload_n 0, 1), (12, .invokevirtual 134, 3), (15, .lstore_n 3, 1), (16, .lload_n 3, 1), (17, .lconst 0, 1), (18, .lcmp, 1), (19, .ifCond .eq 19, 3), (22, .aload_n 0, 1), (23, .invokevirtual 138, 3), (26, .ifCond .ne 12, 3), (29, .aload_n 0, 1), (30, .lload_n 3, 1), (31, .invokevirtual 141, 3), (34, .iconst (-1), 1), (35, .if_icmp .eq 5, 3), (38, .iconst 0, 1), (39, .ireturn, 1), (40, .aload_n 0, 1), (41, .invokevirtual 48, 3), (44, .aload_n 0, 1), (45, .iconst 0, 1), (46, .bipush 99, 2), (48, .invokevirtual 145, 3), (51, .ifCond .ne 5, 3), (54, .iconst 0, 1), (55, .ireturn, 1), (56, .iload_n 1, 1), (57, .iload_n 2, 1), (58, .iadd, 1), (59, .istore 5, 2), (61, .iload 5, 2), (63, .ifCond .lt 21, 3), (66, .iload 5, 2), (68, .aload_n 0, 1), (69, .getfield 9, 3), (72, .arraylength, 1), (73, .if_icmp .ge 11, 3), (76, .aload_n 0, 1), (77, .getfield 9, 3), (80, .iload 5, 2), (82, .lload_n 3, 1), (83, .lastore, 1), (84, .aload_n 0, 1), (85, .getfield 26, 3), (88, .getfield 148, 3), (91, .iload 5, 2), (93, .aload_n 0, 1), (94, .getfield 152, 3), (97, .invokestatic 155, 3), (100, .iload_n 1, 1), (101, .ifCond .ne 19, 3), (104, .aload_n 0, 1), (105, .getfield 26, 3), (108, .dup, 1), (109, .getfield 87, 3), (112, .iconst 1, 1), (113, .iadd, 1), (114, .putfield 87, 3), (117, .goto 16, 3), (120, .aload_n 0, 1), (121, .getfield 26, 3), (124, .dup, 1), (125, .getfield 96, 3), (128, .iconst 1, 1), (129, .iadd, 1), (130, .putfield 96, 3), (133, .aload_n 0, 1), (134, .invokevirtual 159, 3), (137, .ireturn, 1)]
set_option maxRecDepth 100000 in
theorem okX6_readPerson : gj_dok cX6_readPerson tbX6_readPerson = true := by decide +kernel
def tbX6_readThink : List (Nat × Instr × Nat) := [(0, .aload_n 0, 1), (1, .invokevirtual 48, 3), (4, .aload_n 0, 1), (5, .aload_n 0, 1), (6, .invokevirtual 134, 3), (9, .invokevirtual 141, 3), (12, .istore_n 1, 1), (13, .iload_n 1, 1), (14, .iconst (-1), 1), (15, .if_icmp .ne 5, 3), (18, .iconst 0, 1), (19, .ireturn, 1), (20, .aload_n 0, 1), (21, .invokevirtual 48, 3), (24, .aload_n 0, 1), (25, .aload_n 0, 1), (26, .invokevirtual 134, 3), (29, .invokevirtual 141, 3), (32, .istore_n 2, 1), (33, .iload_n 1, 1), (34, .iload_n 2, 1), (35, .invokestatic 162, 3), (38, .ifCond .eq 18, 3), (41, .aload_n 0, 1), (42, .getfield 15, 3), (45, .iload_n 1, 1), (46, .iload_n 2, 1), (47, .invokestatic 167, 3), (50, .invokestatic 171, 3), (53, .ifCond .eq 5, 3), (56, .iconst 0, 1), (57, .ireturn, 1), (58, .iload_n 1, 1), (59, .iload_n 2, 1), (60, .invokestatic 167, 3), (63, .istore_n 3, 1), (64, .aload_n 0, 1), (65, .invokevirtual 48, 3), (68, .aload_n 0, 1), (69, .getfield 15, 3), (72, .iload_n 3, 1), (73, .iconst 1, 1), (74, .invokestatic 175, 3), (77, .aload_n 0, 1), (78, .iconst 0, 1), (79, .bipush 16, 2), (81, .invokevirtual 145, 3), (84, .ifCond .ne 5, 3), (87, .iconst 0, 1), (88, .ireturn, 1), (89, .aload_n 0, 1), (90, .getfield 26, 3), (93, .getfield 179, 3), (96, .iload_n 3, 1), (97, .aload_n 0, 1), (98, .getfield 152, 3), (101, .invokestatic 155, 3), (104, .aload_n 0, 1), (105, .iconst 0, 1), (106, .bipush 16, 2), (108, .invokevirtual 145, 3), (111, .ifCond .ne 5, 3), (114, .iconst 0, 1), (115, .ireturn, 1), (116, .aload_n 0, 1), (117, .getfield 26, 3), (120, .getfield 182, 3), (123, .iload_n 3, 1), (124, .aload_n 0, 1), (125, .getfield 152, 3), (128, .invokestatic 155, 3), (131, .aload_n 0, 1), (132, .iconst 0, 1), (133, .aload_n 0, 1), (134, .getfield 152, 3), (137, .invokevirtual 145, 3), (140, .ifCond .ne 5, 3), (143, .iconst 0, 1), (144, .ireturn, 1), (145, .aload_n 0, 1), (146, .getfield 26, 3), (149, .getfield 185, 3), (152, .iload_n 3, 1), (153, .aload_n 0, 1), (154, .getfield 152, 3), (157, .invokestatic 155, 3), (160, .aload_n 0, 1), (161, .invokevirtual 159, 3), (164, .ireturn, 1)]
set_option maxRecDepth 100000 in
theorem okX6_readThink : gj_dok cX6_readThink tbX6_readThink = true := by decide +kernel
def tbX6_readFit : List (Nat × Instr × Nat) := [(0, .aload_n 0, 1), (1, .invokevirtual 48, 3), (4, .aload_n 0, 1), (5, .aload_n 0, 1), (6, .invokevirtual 134, 3), (9, .invokevirtual 141, 3), (12, .istore_n 1, 1), (13, .iload_n 1, 1), (14, .iconst (-1), 1), (15, .if_icmp .eq 8, 3), (18, .iload_n 1, 1), (19, .iconst 4, 1), (20, .if_icmp .lt 5, 3), (23, .iconst 0, 1), (24, .ireturn, 1), (25, .aload_n 0, 1), (26, .invokevirtual 48, 3), (29, .aload_n 0, 1), (30, .aload_n 0, 1), (31, .invokevirtual 134, 3), (34, .invokevirtual 141, 3), (37, .istore_n 2, 1), (38, .iload_n 1, 1), (39, .iload_n 2, 1), (40, .invokestatic 162, 3), (43, .ifCond .eq 18, 3), (46, .aload_n 0, 1), (47, .getfield 19, 3), (50, .iload_n 1, 1), (51, .iload_n 2, 1), (52, .invokestatic 188, 3), (55, .invokestatic 171, 3), (58, .ifCond .eq 5, 3), (61, .iconst 0, 1), (62, .ireturn, 1), (63, .iload_n 1, 1), (64, .iload_n 2, 1), (65, .invokestatic 188, 3), (68, .istore_n 3, 1), (69, .aload_n 0, 1), (70, .invokevirtual 48, 3), (73, .aload_n 0, 1), (74, .getfield 19, 3), (77, .iload_n 3, 1), (78, .iconst 1, 1), (79, .invokestatic 175, 3), (82, .aload_n 0, 1), (83, .iconst 0, 1), (84, .bipush 16, 2), (86, .invokevirtual 145, 3), (89, .ifCond .ne 5, 3), (92, .iconst 0, 1), (93, .ireturn, 1), (94, .aload_n 0, 1), (95, .getfield 26, 3), (98, .getfield 191, 3), (101, .iload_n 3, 1), (102, .aload_n 0, 1), (103, .getfield 152, 3), (106, .invokestatic 155, 3), (109, .aload_n 0, 1), (110, .invokevirtual 159, 3), (113, .ireturn, 1)]
set_option maxRecDepth 100000 in
theorem okX6_readFit : gj_dok cX6_readFit tbX6_readFit = true := by decide +kernel
def tbX6_readWorth : List (Nat × Instr × Nat) := [(0, .aload_n 0, 1), (1, .iconst 1, 1), (2, .invokevirtual 193, 3), (5, .ifCond .eq 13, 3), (8, .aload_n 0, 1), (9, .iconst 0, 1), (10, .bipush 99, 2), (12, .invokevirtual 145, 3), (15, .ifCond .ne 5, 3), (18, .iconst 0, 1), (19, .ireturn, 1), (20, .aload_n 0, 1), (21, .getfield 26, 3), (24, .aload_n 0, 1), (25, .getfield 152, 3), (28, .putfield 196, 3), (31, .aload_n 0, 1), (32, .iconst 0, 1), (33, .bipush 99, 2), (35, .invokevirtual 145, 3), (38, .ifCond .ne 5, 3), (41, .iconst 0, 1), (42, .ireturn, 1), (43, .aload_n 0, 1), (44, .getfield 26, 3), (47, .aload_n 0, 1), (48, .getfield 152, 3), (51, .putfield 199, 3), (54, .aload_n 0, 1), (55, .invokevirtual 159, 3), (58, .ireturn, 1)]
set_option maxRecDepth 100000 in
theorem okX6_readWorth : gj_dok cX6_readWorth tbX6_readWorth = true := by decide +kernel
def tbX6_readHouse : List (Nat × Instr × Nat) := [(0, .aload_n 0, 1), (1, .iconst 2, 1), (2, .invokevirtual 193, 3), (5, .ifCond .eq 13, 3), (8, .aload_n 0, 1), (9, .iconst 1, 1), (10, .bipush 9, 2), (12, .invokevirtual 145, 3), (15, .ifCond .ne 5, 3), (18, .iconst 0, 1), (19, .ireturn, 1), (20, .aload_n 0, 1), (21, .getfield 26, 3), (24, .aload_n 0, 1), (25, .getfield 152, 3), (28, .putfield 202, 3), (31, .aload_n 0, 1), (32, .iconst 0, 1), (33, .bipush 99, 2), (35, .invokevirtual 145, 3), (38, .ifCond .ne 5, 3), (41, .iconst 0, 1), (42, .ireturn, 1), (43, .aload_n 0, 1), (44, .getfield 26, 3), (47, .aload_n 0, 1), (48, .getfield 152, 3), (51, .putfield 205, 3), (54, .aload_n 0, 1), (55, .invokevirtual 159, 3), (58, .ireturn, 1)]
set_option maxRecDepth 100000 in
theorem okX6_readHouse : gj_dok cX6_readHouse tbX6_readHouse = true := by decide +kernel
def tbX6_readChild : List (Nat × Instr × Nat) := [(0, .aload_n 0, 1), (1, .iconst 4, 1), (2, .invokevirtual 193, 3), (5, .ifCond .eq 13, 3), (8, .aload_n 0, 1), (9, .iconst 0, 1), (10, .bipush 16, 2), (12, .invokevirtual 145, 3), (15, .ifCond .ne 5, 3), (18, .iconst 0, 1), (19, .ireturn, 1), (20, .aload_n 0, 1), (21, .getfield 26, 3), (24, .aload_n 0, 1), (25, .getfield 152, 3), (28, .putfield 207, 3), (31, .aload_n 0, 1), (32, .iconst 0, 1), (33, .bipush 99, 2), (35, .invokevirtual 145, 3), (38, .ifCond .ne 5, 3), (41, .iconst 0, 1), (42, .ireturn, 1), (43, .aload_n 0, 1), (44, .getfield 26, 3), (47, .aload_n 0, 1), (48, .getfield 152, 3), (51, .putfield 210, 3), (54, .aload_n 0, 1), (55, .invokevirtual 159, 3), (58, .ireturn, 1)]
set_option maxRecDepth 100000 in
theorem okX6_readChild : gj_dok cX6_readChild tbX6_readChild = true := by decide +kernel
def tbX6_readCow : List (Nat × Instr × Nat) := [(0, .aload_n 0, 1), (1, .bipush 8, 2), (3, .invokevirtual 193, 3), (6, .ifCond .eq 14, 3), (9, .aload_n 0, 1), (10, .iconst 0, 1), (11, .sipush 999, 3), (14, .invokevirtual 145, 3), (17, .ifCond .ne 5, 3), (20, .iconst 0, 1), (21, .ireturn, 1), (22, .aload_n 0, 1), (23, .getfield 26, 3), (26, .aload_n 0, 1), (27, .getfield 152, 3), (30, .putfield 212, 3), (33, .aload_n 0, 1), (34, .invokevirtual 159, 3), (37, .ireturn, 1)]
set_option maxRecDepth 100000 in
theorem okX6_readCow : gj_dok cX6_readCow tbX6_readCow = true := by decide +kernel
def tbX6_readAhead : List (Nat × Instr × Nat) := [(0, .aload_n 0, 1), (1, .bipush 16, 2), (3, .invokevirtual 193, 3), (6, .ifCond .eq 12, 3), (9, .aload_n 0, 1), (10, .iconst 1, 1), (11, .iconst 4, 1), (12, .invokevirtual 145, 3), (15, .ifCond .ne 5, 3), (18, .iconst 0, 1), (19, .ireturn, 1), (20, .aload_n 0, 1), (21, .getfield 26, 3), (24, .aload_n 0, 1), (25, .getfield 152, 3), (28, .putfield 214, 3), (31, .aload_n 0, 1), (32, .invokevirtual 159, 3), (35, .ireturn, 1)]
set_option maxRecDepth 100000 in
theorem okX6_readAhead : gj_dok cX6_readAhead tbX6_readAhead = true := by decide +kernel
def tbX6_firstTold : List (Nat × Instr × Nat) := [(0, .aload_n 0, 1), (1, .getfield 35, 3), (4, .iload_n 1, 1), (5, .iand, 1), (6, .ifCond .eq 5, 3), (9, .iconst 0, 1), (10, .ireturn, 1), (11, .aload_n 0, 1), (12, .dup, 1), (13, .getfield 35, 3), (16, .iload_n 1, 1), (17, .ior, 1), (18, .putfield 35, 3), (21, .aload_n 0, 1), (22, .invokevirtual 48, 3), (25, .iconst 1, 1), (26, .ireturn, 1)]
set_option maxRecDepth 100000 in
theorem okX6_firstTold : gj_dok cX6_firstTold tbX6_firstTold = true := by decide +kernel
def tbX6_takeNumber : List (Nat × Instr × Nat) := [(0, .aload_n 0, 1), (1, .getfield 57, 3), (4, .iconst 2, 1), (5, .if_icmp .eq 5, 3), (8, .iconst 0, 1), (9, .ireturn, 1), (10, .aload_n 0, 1), (11, .invokevirtual 216, 3), (14, .istore_n 3, 1), (15, .iload_n 3, 1), (16, .iload_n 1, 1), (17, .if_icmp .lt 8, 3), (20, .iload_n 3, 1), (21, .iload_n 2, 1), (22, .if_icmp .le 5, 3), (25, .iconst 0, 1), (26, .ireturn, 1), (27, .aload_n 0, 1), (28, .iload_n 3, 1), (29, .putfield 152, 3), (32, .aload_n 0, 1), (33, .invokevirtual 48, 3), (36, .iconst 1, 1), (37, .ireturn, 1)]
set_option maxRecDepth 100000 in
theorem okX6_takeNumber : gj_dok cX6_takeNumber tbX6_takeNumber = true := by decide +kernel
def tbX6_takeStop : List (Nat × Instr × Nat) := [(0, .aload_n 0, 1), (1, .getfield 57, 3), (4, .iconst 3, 1), (5, .if_icmp .eq 5, 3), (8, .iconst 0, 1), (9, .ireturn, 1), (10, .aload_n 0, 1), (11, .invokevirtual 48, 3), (14, .iconst 1, 1), (15, .ireturn, 1)]
set_option maxRecDepth 100000 in
theorem okX6_takeStop : gj_dok cX6_takeStop tbX6_takeStop = true := by decide +kernel
def tbX6_numberHere : List (Nat × Instr × Nat) := [(0, .iconst 0, 1), (1, .istore_n 1, 1), (2, .aload_n 0, 1), (3, .getfield 64, 3), (6, .istore_n 2, 1), (7, .iload_n 2, 1), (8, .aload_n 0, 1), (9, .getfield 39, 3), (12, .if_icmp .ge 31, 3), (15, .ldc 219, 2), (17, .iload_n 1, 1), (18, .bipush 10, 2), (20, .imul, 1), (21, .aload_n 0, 1), (22, .getfield 22, 3), (25, .iload_n 2, 1), (26, .invokevirtual 70, 3), (29, .iadd, 1), (30, .bipush 48, 2), (32, .isub, 1), (33, .invokestatic 220, 3), (36, .istore_n 1, 1), (37, .iinc 2 1, 3), (40, .goto (-33), 3), (43, .iload_n 1, 1), (44, .ireturn, 1)]
set_option maxRecDepth 100000 in
theorem okX6_numberHere : gj_dok cX6_numberHere tbX6_numberHere = true := by decide +kernel
def tbX6_nameHere : List (Nat × Instr × Nat) := [(0, .aload_n 0, 1), (1, .getfield 57, 3), (4, .iconst 1, 1), (5, .if_icmp .ne 17, 3), (8, .aload_n 0, 1), (9, .getfield 39, 3), (12, .aload_n 0, 1), (13, .getfield 64, 3), (16, .isub, 1), (17, .bipush 8, 2), (19, .if_icmp .le 5, 3), (22, .lconst 0, 1), (23, .lreturn, 1), (24, .lconst 0, 1), (25, .lstore_n 1, 1), (26, .aload_n 0, 1), (27, .getfield 64, 3), (30, .istore_n 3, 1), (31, .iload_n 3, 1), (32, .aload_n 0, 1), (33, .getfield 39, 3), (36, .if_icmp .ge 25, 3), (39, .lload_n 1, 1), (40, .ldc2_w 225, 3), (43, .lmul, 1), (44, .aload_n 0, 1), (45, .getfield 22, 3), (48, .iload_n 3, 1), (49, .invokevirtual 70, 3), (52, .i2l, 1), (53, .ladd, 1), (54, .lstore_n 1, 1), (55, .iinc 3 1, 3), (58, .goto (-27), 3), (61, .lload_n 1, 1), (62, .lreturn, 1)]
set_option maxRecDepth 100000 in
theorem okX6_nameHere : gj_dok cX6_nameHere tbX6_nameHere = true := by decide +kernel
def tbX6_slotNamed : List (Nat × Instr × Nat) := [(0, .iconst 0, 1), (1, .istore_n 3, 1), (2, .iload_n 3, 1), (3, .aload_n 0, 1), (4, .getfield 9, 3), (7, .arraylength, 1), (8, .if_icmp .ge 39, 3), (11, .lload_n 1, 1), (12, .lconst 0, 1), (13, .lcmp, 1), (14, .ifCond .eq 27, 3), (17, .aload_n 0, 1), (18, .getfield 26, 3), (21, .iload_n 3, 1), (22, .invokevirtual 227, 3), (25, .ifCond .eq 16, 3), (28, .aload_n 0, 1), (29, .getfield 9, 3), (32, .iload_n 3, 1), (33, .laload, 1), (34, .lload_n 1, 1), (35, .lcmp, 1), (36, .ifCond .ne 5, 3), (39, .iload_n 3, 1), (40, .ireturn, 1), (41, .iinc 3 1, 3), (44, .goto (-42), 3), (47, .iconst (-1), 1), (48, .ireturn, 1)]
set_option maxRecDepth 100000 in
theorem okX6_slotNamed : gj_dok cX6_slotNamed tbX6_slotNamed = true := by decide +kernel
def tbX6_isLineWord : List (Nat × Instr × Nat) := [(0, .aload_n 0, 1), (1, .ldc 81, 2), (3, .invokevirtual 83, 3), (6, .ifCond .ne 75, 3), (9, .aload_n 0, 1), (10, .ldc 94, 2), (12, .invokevirtual 83, 3), (15, .ifCond .ne 66, 3), (18, .aload_n 0, 1), (19, .ldc 99, 2), (21, .invokevirtual 83, 3), (24, .ifCond .ne 57, 3), (27, .aload_n 0, 1), (28, .ldc 104, 2), (30, .invokevirtual 83, 3), (33, .ifCond .ne 48, 3), (36, .aload_n 0, 1), (37, .ldc 109, 2), (39, .invokevirtual 83, 3), (42, .ifCond .ne 39, 3), (45, .aload_n 0, 1), (46, .ldc 114, 2), (48, .invokevirtual 83, 3), (51, .ifCond .ne 30, 3), (54, .aload_n 0, 1), (55, .ldc 119, 2), (57, .invokevirtual 83, 3), (60, .ifCond .ne 21, 3), (63, .aload_n 0, 1), (64, .ldc 124, 2), (66, .invokevirtual 83, 3), (69, .ifCond .ne 12, 3), (72, .aload_n 0, 1), (73, .ldc 129, 2), (75, .invokevirtual 83, 3), (78, .ifCond .eq 7, 3), (81, .iconst 1, 1), (82, .goto 4, 3), (85, .iconst 0, 1), (86, .ireturn, 1)]
set_option maxRecDepth 100000 in
theorem okX6_isLineWord : gj_dok cX6_isLineWord tbX6_isLineWord = true := by decide +kernel
def tbX6_isWord : List (Nat × Instr × Nat) := [(0, .aload_n 0, 1), (1, .getfield 57, 3), (4, .iconst 1, 1), (5, .if_icmp .ne 19, 3), (8, .aload_n 1, 1), (9, .invokevirtual 230, 3), (12, .aload_n 0, 1), (13, .getfield 39, 3), (16, .aload_n 0, 1), (17, .getfield 64, 3), (20, .isub, 1), (21, .if_icmp .eq 5, 3), (24, .iconst 0, 1), (25, .ireturn, 1), (26, .iconst 0, 1), (27, .istore_n 2, 1), (28, .iload_n 2, 1), (29, .aload_n 1, 1), (30, .invokevirtual 230, 3), (33, .if_icmp .ge 32, 3), (36, .aload_n 1, 1), (37, .iload_n 2, 1), (38, .invokevirtual 233, 3), (41, .aload_n 0, 1), (42, .getfield 22, 3), (45, .aload_n 0, 1), (46, .getfield 64, 3), (49, .iload_n 2, 1), (50, .iadd, 1), (51, .invokevirtual 70, 3), (54, .if_icmp .eq 5, 3), (57, .iconst 0, 1), (58, .ireturn, 1), (59, .iinc 2 1, 3), (62, .goto (-34), 3), (65, .iconst 1, 1), (66, .ireturn, 1)]
set_option maxRecDepth 100000 in
theorem okX6_isWord : gj_dok cX6_isWord tbX6_isWord = true := by decide +kernel
def tbX7_at : List (Nat × Instr × Nat) := [(0, .aload_n 0, 1), (1, .ifnull 19, 3), (4, .iload_n 1, 1), (5, .ifCond .lt 15, 3), (8, .iload_n 1, 1), (9, .aload_n 0, 1), (10, .arraylength, 1), (11, .if_icmp .ge 9, 3), (14, .aload_n 0, 1), (15, .iload_n 1, 1), (16, .iaload, 1), (17, .goto 4, 3), (20, .iconst 0, 1), (21, .ireturn, 1)]
set_option maxRecDepth 100000 in
theorem okX7_at : gj_dok cX7_at tbX7_at = true := by decide +kernel
def tbX7_put : List (Nat × Instr × Nat) := [(0, .aload_n 0, 1), (1, .ifnull 17, 3), (4, .iload_n 1, 1), (5, .ifCond .lt 13, 3), (8, .iload_n 1, 1), (9, .aload_n 0, 1), (10, .arraylength, 1), (11, .if_icmp .ge 7, 3), (14, .aload_n 0, 1), (15, .iload_n 1, 1), (16, .iload_n 2, 1), (17, .iastore, 1), (18, .return_, 1)]
set_option maxRecDepth 100000 in
theorem okX7_put : gj_dok cX7_put tbX7_put = true := by decide +kernel
def tbX7_is : List (Nat × Instr × Nat) := [(0, .aload_n 0, 1), (1, .ifnull 23, 3), (4, .iload_n 1, 1), (5, .ifCond .lt 19, 3), (8, .iload_n 1, 1), (9, .aload_n 0, 1), (10, .arraylength, 1), (11, .if_icmp .ge 13, 3), (14, .aload_n 0, 1), (15, .iload_n 1, 1), (16, .baload, 1), (17, .ifCond .eq 7, 3), (20, .iconst 1, 1), (21, .goto 4, 3), (24, .iconst 0, 1), (25, .ireturn, 1)]
set_option maxRecDepth 100000 in
theorem okX7_is : gj_dok cX7_is tbX7_is = true := by decide +kernel
def tbX7_mark : List (Nat × Instr × Nat) := [(0, .aload_n 0, 1), (1, .ifnull 17, 3), (4, .iload_n 1, 1), (5, .ifCond .lt 13, 3), (8, .iload_n 1, 1), (9, .aload_n 0, 1), (10, .arraylength, 1), (11, .if_icmp .ge 7, 3), (14, .aload_n 0, 1), (15, .iload_n 1, 1), (16, .iload_n 2, 1), (17, .bastore, 1), (18, .return_, 1)]
set_option maxRecDepth 100000 in
theorem okX7_mark : gj_dok cX7_mark tbX7_mark = true := by decide +kernel
def tbX7_copy : List (Nat × Instr × Nat) := [(0, .aload_n 0, 1), (1, .ifnull 7, 3), (4, .aload_n 1, 1), (5, .ifnonnull 4, 3), (8, .return_, 1), (9, .iconst 0, 1), (10, .istore_n 2, 1), (11, .iload_n 2, 1), (12, .aload_n 0, 1), (13, .arraylength, 1), (14, .if_icmp .ge 21, 3), (17, .iload_n 2, 1), (18, .aload_n 1, 1), (19, .arraylength, 1), (20, .if_icmp .ge 15, 3), (23, .aload_n 1, 1), (24, .iload_n 2, 1), (25, .aload_n 0, 1), (26, .iload_n 2, 1), (27, .iaload, 1), (28, .iastore, 1), (29, .iinc 2 1, 3), (32, .goto (-21), 3), (35, .return_, 1)]
set_option maxRecDepth 100000 in
theorem okX7_copy : gj_dok cX7_copy tbX7_copy = true := by decide +kernel
def tbX7_fill : List (Nat × Instr × Nat) := [(0, .aload_n 0, 1), (1, .ifnonnull 4, 3), (4, .return_, 1), (5, .iconst 0, 1), (6, .istore_n 2, 1), (7, .iload_n 2, 1), (8, .aload_n 0, 1), (9, .arraylength, 1), (10, .if_icmp .ge 13, 3), (13, .aload_n 0, 1), (14, .iload_n 2, 1), (15, .iload_n 1, 1), (16, .iastore, 1), (17, .iinc 2 1, 3), (20, .goto (-13), 3), (23, .return_, 1)]
set_option maxRecDepth 100000 in
theorem okX7_fill : gj_dok cX7_fill tbX7_fill = true := by decide +kernel
def tbX7_unmark : List (Nat × Instr × Nat) := [(0, .aload_n 0, 1), (1, .ifnonnull 4, 3), (4, .return_, 1), (5, .iconst 0, 1), (6, .istore_n 1, 1), (7, .iload_n 1, 1), (8, .aload_n 0, 1), (9, .arraylength, 1), (10, .if_icmp .ge 13, 3), (13, .aload_n 0, 1), (14, .iload_n 1, 1), (15, .iconst 0, 1), (16, .bastore, 1), (17, .iinc 1 1, 3), (20, .goto (-13), 3), (23, .return_, 1)]
set_option maxRecDepth 100000 in
theorem okX7_unmark : gj_dok cX7_unmark tbX7_unmark = true := by decide +kernel
def tbX8_init : List (Nat × Instr × Nat) := [(0, .aload_n 0, 1), (1, .invokespecial 3, 3), (4, .aload_n 0, 1), (5, .bipush 8, 2), (7, .newarray .boolean, 2), (9, .putfield 9, 3), (12, .aload_n 0, 1), (13, .aload_n 1, 1), (14, .putfield 15, 3), (17, .aload_n 0, 1), (18, .aload_n 2, 1), (19, .putfield 19, 3), (22, .aload_n 0, 1), (23, .aload_n 3, 1), (24, .putfield 23, 3), (27, .aload_n 0, 1), (28, .aload 4, 2), (30, .putfield 27, 3), (33, .return_, 1)]
set_option maxRecDepth 100000 in
theorem okX8_init : gj_dok cX8_init tbX8_init = true := by decide +kernel
def tbX8_hold : List (Nat × Instr × Nat) := [(0, .aload_n 0, 1), (1, .invokevirtual 31, 3), (4, .aload_n 0, 1), (5, .invokevirtual 34, 3), (8, .aload_n 0, 1), (9, .getfield 27, 3), (12, .iconst 0, 1), (13, .invokevirtual 37, 3), (16, .aload_n 0, 1), (17, .getfield 27, 3), (20, .iconst 1, 1), (21, .invokevirtual 43, 3), (24, .aload_n 0, 1), (25, .getfield 27, 3), (28, .aload_n 0, 1), (29, .getfield 19, 3), (32, .getfield 46, 3), (35, .invokevirtual 52, 3), (38, .aload_n 0, 1), (39, .invokevirtual 56, 3), (42, .aload_n 0, 1), (43, .invokevirtual 59, 3), (46, .return_, 1)]
set_option maxRecDepth 100000 in
theorem okX8_hold : gj_dok cX8_hold tbX8_hold = true := by decide +kernel
def tbX8_askPaired : List (Nat × Instr × Nat) := [(0, .iconst 0, 1), (1, .istore_n 1, 1), (2, .iload_n 1, 1), (3, .bipush 8, 2), (5, .if_icmp .ge 66, 3), (8, .iconst 0, 1), (9, .istore_n 2, 1), (10, .aload_n 0, 1), (11, .getfield 19, 3), (14, .getfield 62, 3), (17, .iload_n 1, 1), (18, .invokestatic 66, 3), (21, .iconst (-1), 1), (22, .if_icmp .eq 34, 3), (25, .aload_n 0, 1), (26, .getfield 23, 3), (29, .iload_n 1, 1), (30, .invokevirtual 72, 3), (33, .aload_n 0, 1), (34, .getfield 23, 3), (37, .aload_n 0, 1), (38, .getfield 15, 3), (41, .getfield 77, 3), (44, .invokevirtual 82, 3), (47, .ifCond .ne 7, 3), (50, .iconst 1, 1), (51, .goto 4, 3), (54, .iconst 0, 1), (55, .istore_n 2, 1), (56, .aload_n 0, 1), (57, .getfield 9, 3), (60, .iload_n 1, 1), (61, .iload_n 2, 1), (62, .invokestatic 86, 3), (65, .iinc 1 1, 3), (68, .goto (-66), 3), (71, .return_, 1)]
set_option maxRecDepth 100000 in
theorem okX8_askPaired : gj_dok cX8_askPaired tbX8_askPaired = true := by decide +kernel
def tbX8_endPairs : List (Nat × Instr × Nat) := [(0, .iconst 0, 1), (1, .istore_n 1, 1), (2, .iload_n 1, 1), (3, .iconst 4, 1), (4, .if_icmp .ge 32, 3), (7, .aload_n 0, 1), (8, .getfield 19, 3), (11, .getfield 62, 3), (14, .iload_n 1, 1), (15, .invokestatic 66, 3), (18, .istore_n 2, 1), (19, .iload_n 2, 1), (20, .iconst (-1), 1), (21, .if_icmp .eq 9, 3), (24, .aload_n 0, 1), (25, .iload_n 1, 1), (26, .iload_n 2, 1), (27, .invokevirtual 90, 3), (30, .iinc 1 1, 3), (33, .goto (-31), 3), (36, .return_, 1)]
set_option maxRecDepth 100000 in
theorem okX8_endPairs : gj_dok cX8_endPairs tbX8_endPairs = true := by decide +kernel
def tbX8_hear : List (Nat × Instr × Nat) := [(0, .aload_n 0, 1), (1, .getfield 9, 3), (4, .iload_n 1, 1), (5, .invokestatic 94, 3), (8, .ifCond .eq 7, 3), (11, .iconst 1, 1), (12, .goto 4, 3), (15, .iconst 0, 1), (16, .aload_n 0, 1), (17, .getfield 9, 3), (20, .iload_n 2, 1), (21, .invokestatic 94, 3), (24, .ifCond .eq 7, 3), (27, .iconst 2, 1), (28, .goto 4, 3), (31, .iconst 0, 1), (32, .iadd, 1), (33, .istore_n 3, 1), (34, .iload_n 3, 1), (35, .ifCond .ne 45, 3), (38, .aload_n 0, 1), (39, .getfield 19, 3), (42, .getfield 98, 3), (45, .iload_n 1, 1), (46, .invokestatic 66, 3), (49, .iconst 1, 1), (50, .iadd, 1), (51, .istore 4, 2), (53, .aload_n 0, 1), (54, .getfield 19, 3), (57, .getfield 98, 3), (60, .iload_n 1, 1), (61, .iload 4, 2), (63, .invokestatic 101, 3), (66, .aload_n 0, 1), (67, .getfield 19, 3), (70, .getfield 98, 3), (73, .iload_n 2, 1), (74, .iload 4, 2), (76, .invokestatic 101, 3), (79, .return_, 1), (80, .aload_n 0, 1), (81, .getfield 19, 3), (84, .iload_n 1, 1), (85, .aload_n 0, 1), (86, .getfield 9, 3), (89, .iload_n 1, 1), (90, .invokestatic 94, 3), (93, .ifCond .eq 14, 3), (96, .aload_n 0, 1), (97, .getfield 15, 3), (100, .getfield 105, 3), (103, .ineg, 1), (104, .goto 4, 3), (107, .iconst 0, 1), (108, .invokevirtual 108, 3), (111, .aload_n 0, 1), (112, .getfield 19, 3), (115, .iload_n 2, 1), (116, .aload_n 0, 1), (117, .getfield 9, 3), (120, .iload_n 2, 1), (121, .invokestatic 94, 3), (124, .ifCond .eq 14, 3), (127, .aload_n 0, 1), (128, .getfield 15, 3), (131, .getfield 105, 3), (134, .ineg, 1), (135, .goto 4, 3), (138, .iconst 0, 1), (139, .invokevirtual 108, 3), (142, .aload_n 0, 1), (143, .getfield 19, 3), (146, .getfield 111, 3), (149, .aload_n 0, 1), (150, .getfield 19, 3), (153, .getfield 115, 3), (156, .iload_n 1, 1), (157, .iload_n 2, 1), (158, .invokestatic 118, 3), (161, .aload_n 0, 1), (162, .getfield 19, 3), (165, .getfield 124, 3), (168, .iload_n 1, 1), (169, .invokestatic 66, 3), (172, .iload_n 3, 1), (173, .invokevirtual 127, 3), (176, .aload_n 0, 1), (177, .getfield 19, 3), (180, .iload_n 1, 1), (181, .iload_n 2, 1), (182, .invokevirtual 133, 3), (185, .return_, 1)]
set_option maxRecDepth 100000 in
theorem okX8_hear : gj_dok cX8_hear tbX8_hear = true := by decide +kernel
def tbX8_bindNewPairs : List (Nat × Instr × Nat) := [(0, .iconst 0, 1), (1, .istore_n 1, 1), (2, .iload_n 1, 1), (3, .iconst 4, 1), (4, .if_icmp .ge 35, 3), (7, .aload_n 0, 1), (8, .getfield 27, 3), (11, .getfield 136, 3), (14, .iload_n 1, 1), (15, .invokestatic 66, 3), (18, .istore_n 2, 1), (19, .iload_n 2, 1), (20, .iconst (-1), 1), (21, .if_icmp .eq 12, 3), (24, .aload_n 0, 1), (25, .getfield 19, 3), (28, .iload_n 1, 1), (29, .iload_n 2, 1), (30, .invokevirtual 137, 3), (33, .iinc 1 1, 3), (36, .goto (-34), 3), (39, .return_, 1)]
set_option maxRecDepth 100000 in
theorem okX8_bindNewPairs : gj_dok cX8_bindNewPairs tbX8_bindNewPairs = true := by decide +kernel
def tbX8_passYear : List (Nat × Instr × Nat) := [(0, .iconst 0, 1), (1, .istore_n 1, 1), (2, .iload_n 1, 1), (3, .iconst 4, 1), (4, .if_icmp .ge 32, 3), (7, .aload_n 0, 1), (8, .getfield 19, 3), (11, .getfield 62, 3), (14, .iload_n 1, 1), (15, .invokestatic 66, 3), (18, .istore_n 2, 1), (19, .iload_n 2, 1), (20, .iconst (-1), 1), (21, .if_icmp .eq 9, 3), (24, .aload_n 0, 1), (25, .iload_n 1, 1), (26, .iload_n 2, 1), (27, .invokevirtual 140, 3), (30, .iinc 1 1, 3), (33, .goto (-31), 3), (36, .iconst 0, 1), (37, .istore_n 1, 1), (38, .iload_n 1, 1), (39, .bipush 8, 2), (41, .if_icmp .ge 54, 3), (44, .aload_n 0, 1), (45, .getfield 15, 3), (48, .iload_n 1, 1), (49, .invokevirtual 143, 3), (52, .ifCond .eq 37, 3), (55, .aload_n 0, 1), (56, .getfield 19, 3), (59, .getfield 62, 3), (62, .iload_n 1, 1), (63, .invokestatic 66, 3), (66, .iconst (-1), 1), (67, .if_icmp .ne 22, 3), (70, .aload_n 0, 1), (71, .getfield 19, 3), (74, .iload_n 1, 1), (75, .aload_n 0, 1), (76, .getfield 15, 3), (79, .getfield 146, 3), (82, .iload_n 1, 1), (83, .invokestatic 66, 3), (86, .invokevirtual 108, 3), (89, .iinc 1 1, 3), (92, .goto (-54), 3), (95, .aload_n 0, 1), (96, .getfield 19, 3), (99, .dup, 1), (100, .getfield 115, 3), (103, .iconst 1, 1), (104, .iadd, 1), (105, .putfield 115, 3), (108, .return_, 1)]
set_option maxRecDepth 100000 in
theorem okX8_passYear : gj_dok cX8_passYear tbX8_passYear = true := by decide +kernel
def tbX8_liveTogether : List (Nat × Instr × Nat) := [(0, .iload_n 1, 1), (1, .iload_n 2, 1), (2, .invokestatic 149, 3), (5, .istore_n 3, 1), (6, .aload_n 0, 1), (7, .getfield 19, 3), (10, .bipush 16, 2), (12, .invokevirtual 153, 3), (15, .aload_n 0, 1), (16, .getfield 15, 3), (19, .getfield 156, 3), (22, .iload_n 3, 1), (23, .invokestatic 66, 3), (26, .if_icmp .ge 7, 3), (29, .iconst 1, 1), (30, .goto 4, 3), (33, .iconst 0, 1), (34, .istore 4, 2), (36, .aload_n 0, 1), (37, .getfield 19, 3), (40, .bipush 16, 2), (42, .invokevirtual 153, 3), (45, .aload_n 0, 1), (46, .getfield 15, 3), (49, .getfield 159, 3), (52, .if_icmp .ge 7, 3), (55, .iconst 1, 1), (56, .goto 4, 3), (59, .iconst 0, 1), (60, .istore 5, 2), (62, .aload_n 0, 1), (63, .getfield 19, 3), (66, .getfield 124, 3), (69, .iload_n 1, 1), (70, .invokestatic 66, 3), (73, .istore 6, 2), (75, .aload_n 0, 1), (76, .getfield 19, 3), (79, .getfield 162, 3), (82, .iload_n 3, 1), (83, .invokestatic 66, 3), (86, .istore 7, 2), (88, .iload 4, 2), (90, .ifCond .eq 13, 3), (93, .aload_n 0, 1), (94, .getfield 15, 3), (97, .getfield 165, 3), (100, .goto 10, 3), (103, .aload_n 0, 1), (104, .getfield 15, 3), (107, .getfield 168, 3), (110, .aload_n 0, 1), (111, .getfield 15, 3), (114, .getfield 171, 3), (117, .iload 7, 2), (119, .imul, 1), (120, .iadd, 1), (121, .istore 8, 2), (123, .iload 6, 2), (125, .aload_n 0, 1), (126, .getfield 15, 3), (129, .getfield 174, 3), (132, .if_icmp .lt 15, 3), (135, .iload 8, 2), (137, .aload_n 0, 1), (138, .getfield 15, 3), (141, .getfield 177, 3), (144, .iadd, 1), (145, .istore 8, 2), (147, .aload_n 0, 1), (148, .getfield 19, 3), (151, .iload_n 1, 1), (152, .iload 8, 2), (154, .invokevirtual 108, 3), (157, .aload_n 0, 1), (158, .getfield 19, 3), (161, .iload_n 2, 1), (162, .iload 8, 2), (164, .invokevirtual 108, 3), (167, .aload_n 0, 1), (168, .getfield 19, 3), (171, .getfield 124, 3), (174, .iload_n 1, 1), (175, .iload 6, 2), (177, .iconst 1, 1), (178, .iadd, 1), (179, .invokestatic 101, 3), (182, .aload_n 0, 1), (183, .getfield 19, 3), (186, .getfield 124, 3), (189, .iload_n 2, 1), (190, .iload 6, 2), (192, .iconst 1, 1), (193, .iadd, 1), (194, .invokestatic 101, 3), (197, .iload 4, 2), (199, .ifCond .eq 13, 3), (202, .aload_n 0, 1), (203, .getfield 19, 3), (206, .getfield 180, 3), (209, .goto 10, 3), (212, .aload_n 0, 1), (213, .getfield 19, 3), (216, .getfield 183, 3), (219, .astore 9, 2), (221, .aload 9, 2), (223, .iload_n 3, 1), (224, .iconst 4, 1), (225, .aload 9, 2), (227, .iload_n 3, 1), (228, .invokestatic 66, 3), (231, .iconst 1, 1), (232, .iadd, 1), (233, .invokestatic 186, 3), (236, .invokestatic 101, 3), (239, .iload 5, 2), (241, .ifCond .eq 23, 3), (244, .aload_n 0, 1), (245, .getfield 19, 3), (248, .getfield 162, 3), (251, .iload_n 3, 1), (252, .bipush 99, 2), (254, .iload 7, 2), (256, .iconst 1, 1), (257, .iadd, 1), (258, .invokestatic 186, 3), (261, .invokestatic 101, 3), (264, .return_, 1)]
set_option maxRecDepth 100000 in
theorem okX8_liveTogether : gj_dok cX8_liveTogether tbX8_liveTogether = true := by decide +kernel
def tbX9_init : List (Nat × Instr × Nat) := [(0, .aload_n 0, 1), (1, .invokespecial 3, 3), (4, .aload_n 0, 1), (5, .sipush 500, 3), (8, .newarray .int, 2), (10, .putfield 9, 3), (13, .return_, 1)]
set_option maxRecDepth 100000 in
theorem okX9_init : gj_dok cX9_init tbX9_init = true := by decide +kernel
def tbX9_length : List (Nat × Instr × Nat) := [(0, .aload_n 0, 1), (1, .getfield 15, 3), (4, .ireturn, 1)]
set_option maxRecDepth 100000 in
theorem okX9_length : gj_dok cX9_length tbX9_length = true := by decide +kernel
def tbX9_hasRoomFor : List (Nat × Instr × Nat) := [(0, .aload_n 0, 1), (1, .getfield 15, 3), (4, .iload_n 1, 1), (5, .iadd, 1), (6, .aload_n 0, 1), (7, .getfield 9, 3), (10, .arraylength, 1), (11, .if_icmp .gt 7, 3), (14, .iconst 1, 1), (15, .goto 4, 3), (18, .iconst 0, 1), (19, .ireturn, 1)]
set_option maxRecDepth 100000 in
theorem okX9_hasRoomFor : gj_dok cX9_hasRoomFor tbX9_hasRoomFor = true := by decide +kernel
def tbX9_append : List (Nat × Instr × Nat) := [(0, .bipush 24, 2), (2, .istore_n 2, 1), (3, .iload_n 2, 1), (4, .ifCond .lt 49, 3), (7, .aload_n 0, 1), (8, .getfield 15, 3), (11, .aload_n 0, 1), (12, .getfield 9, 3), (15, .arraylength, 1), (16, .if_icmp .ge 31, 3), (19, .aload_n 0, 1), (20, .getfield 9, 3), (23, .aload_n 0, 1), (24, .getfield 15, 3), (27, .iload_n 1, 1), (28, .iload_n 2, 1), (29, .iushr, 1), (30, .sipush 255, 3), (33, .iand, 1), (34, .invokestatic 19, 3), (37, .aload_n 0, 1), (38, .dup, 1), (39, .getfield 15, 3), (42, .iconst 1, 1), (43, .iadd, 1), (44, .putfield 15, 3), (47, .iinc 2 (-8), 3), (50, .goto (-47), 3), (53, .return_, 1)]
set_option maxRecDepth 100000 in
theorem okX9_append : gj_dok cX9_append tbX9_append = true := by decide +kernel
def tbX9_cutTo : List (Nat × Instr × Nat) := [(0, .iload_n 1, 1), (1, .ifCond .lt 16, 3), (4, .iload_n 1, 1), (5, .aload_n 0, 1), (6, .getfield 15, 3), (9, .if_icmp .gt 8, 3), (12, .aload_n 0, 1), (13, .iload_n 1, 1), (14, .putfield 15, 3), (17, .return_, 1)]
set_option maxRecDepth 100000 in
theorem okX9_cutTo : gj_dok cX9_cutTo tbX9_cutTo = true := by decide +kernel
def tbX9_byteAt : List (Nat × Instr × Nat) := [(0, .iload_n 1, 1), (1, .aload_n 0, 1), (2, .getfield 15, 3), (5, .if_icmp .ge 14, 3), (8, .aload_n 0, 1), (9, .getfield 9, 3), (12, .iload_n 1, 1), (13, .invokestatic 25, 3), (16, .goto 4, 3), (19, .iconst (-1), 1), (20, .ireturn, 1)]
set_option maxRecDepth 100000 in
theorem okX9_byteAt : gj_dok cX9_byteAt tbX9_byteAt = true := by decide +kernel
def tbX10_numberOf : List (Nat × Instr × Nat) := [(0, .iload_n 0, 1), (1, .iconst 4, 1), (2, .if_icmp .ge 7, 3), (5, .iload_n 0, 1), (6, .goto 9, 3), (9, .iload_n 0, 1), (10, .iconst 4, 1), (11, .isub, 1), (12, .bipush 10, 2), (14, .iadd, 1), (15, .ireturn, 1)]
set_option maxRecDepth 100000 in
theorem okX10_numberOf : gj_dok cX10_numberOf tbX10_numberOf = true := by decide +kernel
def tbX10_placeOf : List (Nat × Instr × Nat) := [(0, .iload_n 0, 1), (1, .iconst 4, 1), (2, .if_icmp .ge 7, 3), (5, .iload_n 0, 1), (6, .goto 6, 3), (9, .iload_n 0, 1), (10, .iconst 4, 1), (11, .isub, 1), (12, .ireturn, 1)]
set_option maxRecDepth 100000 in
theorem okX10_placeOf : gj_dok cX10_placeOf tbX10_placeOf = true := by decide +kernel
def tbX10_facing : List (Nat × Instr × Nat) := [(0, .iload_n 1, 1), (1, .iconst (-1), 1), (2, .if_icmp .ne 5, 3), (5, .iconst (-1), 1), (6, .ireturn, 1), (7, .iload_n 0, 1), (8, .iconst 4, 1), (9, .if_icmp .ge 9, 3), (12, .iload_n 1, 1), (13, .iconst 4, 1), (14, .iadd, 1), (15, .goto 4, 3), (18, .iload_n 1, 1), (19, .ireturn, 1)]
set_option maxRecDepth 100000 in
theorem okX10_facing : gj_dok cX10_facing tbX10_facing = true := by decide +kernel
def tbX10_unlike : List (Nat × Instr × Nat) := [(0, .iload_n 0, 1), (1, .iconst (-1), 1), (2, .if_icmp .eq 35, 3), (5, .iload_n 1, 1), (6, .iconst (-1), 1), (7, .if_icmp .eq 30, 3), (10, .iload_n 0, 1), (11, .iconst 4, 1), (12, .if_icmp .ge 7, 3), (15, .iconst 1, 1), (16, .goto 4, 3), (19, .iconst 0, 1), (20, .iload_n 1, 1), (21, .iconst 4, 1), (22, .if_icmp .ge 7, 3), (25, .iconst 1, 1), (26, .goto 4, 3), (29, .iconst 0, 1), (30, .if_icmp .eq 7, 3), (33, .iconst 1, 1), (34, .goto 4, 3), (37, .iconst 0, 1), (38, .ireturn, 1)]
set_option maxRecDepth 100000 in
theorem okX10_unlike : gj_dok cX10_unlike tbX10_unlike = true := by decide +kernel
def tbX10_couple : List (Nat × Instr × Nat) := [(0, .iload_n 0, 1), (1, .iload_n 1, 1), (2, .if_icmp .ge 13, 3), (5, .iload_n 0, 1), (6, .iconst 4, 1), (7, .imul, 1), (8, .iload_n 1, 1), (9, .iadd, 1), (10, .iconst 4, 1), (11, .isub, 1), (12, .goto 10, 3), (15, .iload_n 1, 1), (16, .iconst 4, 1), (17, .imul, 1), (18, .iload_n 0, 1), (19, .iadd, 1), (20, .iconst 4, 1), (21, .isub, 1), (22, .ireturn, 1)]
set_option maxRecDepth 100000 in
theorem okX10_couple : gj_dok cX10_couple tbX10_couple = true := by decide +kernel
def tbX10_view : List (Nat × Instr × Nat) := [(0, .iload_n 0, 1), (1, .iconst 4, 1), (2, .imul, 1), (3, .iload_n 1, 1), (4, .iconst 4, 1), (5, .irem, 1), (6, .iadd, 1), (7, .ireturn, 1)]
set_option maxRecDepth 100000 in
theorem okX10_view : gj_dok cX10_view tbX10_view = true := by decide +kernel
def tbX11_init : List (Nat × Instr × Nat) := [(0, .aload_n 0, 1), (1, .invokespecial 1, 3), (4, .aload_n 0, 1), (5, .new 7, 3), (8, .dup, 1), (9, .invokespecial 9, 3), (12, .putfield 10, 3), (15, .aload_n 0, 1), (16, .new 16, 3), (19, .dup, 1), (20, .invokespecial 18, 3), (23, .putfield 19, 3), (26, .aload_n 0, 1), (27, .new 23, 3), (30, .dup, 1), (31, .aload_n 0, 1), (32, .getfield 10, 3), (35, .aload_n 0, 1), (36, .getfield 19, 3), (39, .invokespecial 25, 3), (42, .putfield 28, 3), (45, .aload_n 0, 1), (46, .new 16, 3), (49, .dup, 1), (50, .invokespecial 18, 3), (53, .putfield 32, 3), (56, .aload_n 0, 1), (57, .new 35, 3), (60, .dup, 1), (61, .invokespecial 37, 3), (64, .putfield 38, 3), (67, .aload_n 0, 1), (68, .new 42, 3), (71, .dup, 1), (72, .aload_n 0, 1), (73, .getfield 32, 3), (76, .aload_n 0, 1), (77, .getfield 38, 3), (80, .invokespecial 44, 3), (83, .putfield 47, 3), (86, .aload_n 0, 1), (87, .new 51, 3), (90, .dup, 1), (91, .aload_n 0, 1), (92, .getfield 32, 3), (95, .aload_n 0, 1), (96, .getfield 38, 3), (99, .invokespecial 53, 3), (102, .putfield 54, 3), (105, .aload_n 0, 1), (106, .new 58, 3), (109, .dup, 1), (110, .aload_n 0, 1), (111, .getfield 32, 3), (114, .invokespecial 60, 3), (117, .putfield 63, 3), (120, .aload_n 0, 1), (121, .new 67, 3), (124, .dup, 1), (125, .aload_n 0, 1), (126, .getfield 32, 3), (129, .aload_n 0, 1), (130, .getfield 38, 3), (133, .aload_n 0, 1), (134, .getfield 47, 3), (137, .aload_n 0, 1), (138, .getfield 54, 3), (141, .invokespecial 69, 3), (144, .putfield 72, 3), (147, .aload_n 0, 1), (148, .iconst 3, 1), (149, .anewarray 35, 3), (152, .putfield 76, 3), (155, .iconst 0, 1), (156, .istore_n 1, 1), (157, .iload_n 1, 1), (158, .aload_n 0, 1), (159, .getfield 76, 3), (162, .arraylength, 1), (163, .if_icmp .ge 22, 3), (166, .aload_n 0, 1), (167, .getfield 76, 3), (170, .iload_n 1, 1), (171, .new 35, 3), (174, .dup, 1), (175, .invokespecial 37, 3), (178, .aastore, 1), (179, .iinc 1 1, 3), (182, .goto (-25), 3), (185, .aload_n 0, 1), (186, .iconst 3, 1), (187, .newarray .boolean, 2), (189, .putfield 80, 3), (192, .aload_n 0, 1), (193, .iconst 3, 1), (194, .newarray .int, 2), (196, .putfield 84, 3), (199, .return_, 1)]
set_option maxRecDepth 100000 in
theorem okX11_init : gj_dok cX11_init tbX11_init = true := by decide +kernel
def tbX11_feed : List (Nat × Instr × Nat) := [(0, .aload_n 0, 1), (1, .getfield 10, 3), (4, .bipush 20, 2), (6, .invokevirtual 88, 3), (9, .ifCond .ne 11, 3), (12, .aload_n 0, 1), (13, .iconst 1, 1), (14, .invokevirtual 92, 3), (17, .pop, 1), (18, .iconst (-1), 1), (19, .ireturn, 1), (20, .aload_n 0, 1), (21, .getfield 10, 3), (24, .iload_n 1, 1), (25, .invokevirtual 95, 3), (28, .aload_n 0, 1), (29, .getfield 10, 3), (32, .iload_n 2, 1), (33, .invokevirtual 95, 3), (36, .aload_n 0, 1), (37, .getfield 10, 3), (40, .iload_n 3, 1), (41, .invokevirtual 95, 3), (44, .aload_n 0, 1), (45, .getfield 10, 3), (48, .iload 4, 2), (50, .invokevirtual 95, 3), (53, .aload_n 0, 1), (54, .getfield 10, 3), (57, .iload 5, 2), (59, .invokevirtual 95, 3), (62, .aload_n 0, 1), (63, .getfield 10, 3), (66, .invokevirtual 99, 3), (69, .ireturn, 1)]
set_option maxRecDepth 100000 in
theorem okX11_feed : gj_dok cX11_feed tbX11_feed = true := by decide +kernel
def tbX11_end : List (Nat × Instr × Nat) := [(0, .iload_n 1, 1), (1, .ifCond .lt 14, 3), (4, .iload_n 1, 1), (5, .aload_n 0, 1), (6, .getfield 10, 3), (9, .invokevirtual 99, 3), (12, .if_icmp .le 9, 3), (15, .aload_n 0, 1), (16, .iconst 2, 1), (17, .invokevirtual 92, 3), (20, .ireturn, 1), (21, .aload_n 0, 1), (22, .getfield 10, 3), (25, .iload_n 1, 1), (26, .invokevirtual 103, 3), (29, .iconst 1, 1), (30, .ireturn, 1)]
set_option maxRecDepth 100000 in
theorem okX11_end : gj_dok cX11_end tbX11_end = true := by decide +kernel
def tbX11_fault : List (Nat × Instr × Nat) := [(0, .aload_n 0, 1), (1, .getfield 28, 3), (4, .invokevirtual 106, 3), (7, .ireturn, 1)]
set_option maxRecDepth 100000 in
theorem okX11_fault : gj_dok cX11_fault tbX11_fault = true := by decide +kernel
def tbX11_village : List (Nat × Instr × Nat) := [(0, .aload_n 0, 1), (1, .getfield 28, 3), (4, .invokevirtual 106, 3), (7, .iconst (-1), 1), (8, .if_icmp .eq 11, 3), (11, .aload_n 0, 1), (12, .iconst 2, 1), (13, .invokevirtual 92, 3), (16, .pop, 1), (17, .iconst (-1), 1), (18, .ireturn, 1), (19, .aload_n 0, 1), (20, .getfield 32, 3), (23, .aload_n 0, 1), (24, .getfield 19, 3), (27, .invokevirtual 109, 3), (30, .aload_n 0, 1), (31, .getfield 63, 3), (34, .invokevirtual 112, 3), (37, .aload_n 0, 1), (38, .getfield 38, 3), (41, .invokevirtual 115, 3), (44, .aload_n 0, 1), (45, .getfield 80, 3), (48, .invokestatic 118, 3), (51, .aload_n 0, 1), (52, .getfield 10, 3), (55, .iconst 0, 1), (56, .invokevirtual 103, 3), (59, .aload_n 0, 1), (60, .getfield 32, 3), (63, .getfield 124, 3), (66, .aload_n 0, 1), (67, .getfield 32, 3), (70, .getfield 128, 3), (73, .iadd, 1), (74, .ireturn, 1)]
set_option maxRecDepth 100000 in
theorem okX11_village : gj_dok cX11_village tbX11_village = true := by decide +kernel
def tbX11_person : List (Nat × Instr × Nat) := [(0, .aload_n 0, 1), (1, .getfield 32, 3), (4, .iload_n 1, 1), (5, .invokevirtual 131, 3), (8, .istore_n 3, 1), (9, .iload_n 3, 1), (10, .iconst (-1), 1), (11, .if_icmp .ne 6, 3), (14, .ldc 135, 2), (16, .ireturn, 1), (17, .iload_n 2, 1), (18, .tableswitch 65 0 2 #[26, 38, 53], 26), (44, .aload_n 0, 1), (45, .getfield 32, 3), (48, .getfield 136, 3), (51, .iload_n 3, 1), (52, .invokestatic 139, 3), (55, .ireturn, 1), (56, .aload_n 0, 1), (57, .getfield 38, 3), (60, .getfield 143, 3), (63, .iload_n 3, 1), (64, .invokestatic 139, 3), (67, .invokestatic 146, 3), (70, .ireturn, 1), (71, .aload_n 0, 1), (72, .getfield 38, 3), (75, .getfield 151, 3), (78, .iload_n 3, 1), (79, .invokestatic 139, 3), (82, .ireturn, 1), (83, .ldc 135, 2), (85, .ireturn, 1)]
set_option maxRecDepth 100000 in
theorem okX11_person : gj_dok cX11_person tbX11_person = true := by decide +kernel
def tbX11_earned : List (Nat × Instr × Nat) := [(0, .aload_n 0, 1), (1, .getfield 32, 3), (4, .iload_n 1, 1), (5, .invokevirtual 131, 3), (8, .istore_n 2, 1), (9, .iload_n 2, 1), (10, .iconst (-1), 1), (11, .if_icmp .ne 8, 3), (14, .ldc 135, 2), (16, .goto 14, 3), (19, .aload_n 0, 1), (20, .getfield 38, 3), (23, .getfield 154, 3), (26, .iload_n 2, 1), (27, .invokestatic 139, 3), (30, .ireturn, 1)]
set_option maxRecDepth 100000 in
theorem okX11_earned : gj_dok cX11_earned tbX11_earned = true := by decide +kernel
def tbX11_two : List (Nat × Instr × Nat) := [(0, .aload_n 0, 1), (1, .getfield 32, 3), (4, .iload_n 1, 1), (5, .invokevirtual 131, 3), (8, .istore 4, 2), (10, .aload_n 0, 1), (11, .getfield 32, 3), (14, .iload_n 2, 1), (15, .invokevirtual 131, 3), (18, .istore 5, 2), (20, .iload 4, 2), (22, .iload 5, 2), (24, .invokestatic 157, 3), (27, .ifCond .ne 5, 3), (30, .iconst (-1), 1), (31, .ireturn, 1), (32, .iload 4, 2), (34, .iload 5, 2), (36, .invokestatic 161, 3), (39, .istore 6, 2), (41, .iload_n 3, 1), (42, .tableswitch 117 0 4 #[34, 47, 60, 73, 86], 34), (76, .aload_n 0, 1), (77, .getfield 38, 3), (80, .getfield 165, 3), (83, .iload 6, 2), (85, .invokestatic 139, 3), (88, .ireturn, 1), (89, .aload_n 0, 1), (90, .getfield 38, 3), (93, .getfield 168, 3), (96, .iload 6, 2), (98, .invokestatic 139, 3), (101, .ireturn, 1), (102, .aload_n 0, 1), (103, .getfield 38, 3), (106, .getfield 171, 3), (109, .iload 6, 2), (111, .invokestatic 139, 3), (114, .ireturn, 1), (115, .aload_n 0, 1), (116, .getfield 32, 3), (119, .getfield 174, 3), (122, .iload 6, 2), (124, .invokestatic 139, 3), (127, .ireturn, 1), (128, .aload_n 0, 1), (129, .getfield 38, 3), (132, .iload 4, 2), (134, .iload 5, 2), (136, .invokevirtual 177, 3), (139, .ifCond .eq 18, 3), (142, .aload_n 0, 1), (143, .getfield 38, 3), (146, .getfield 180, 3), (149, .iload 4, 2), (151, .invokestatic 139, 3), (154, .goto 4, 3), (157, .iconst 0, 1), (158, .ireturn, 1), (159, .iconst (-1), 1), (160, .ireturn, 1)]
set_option maxRecDepth 100000 in
theorem okX11_two : gj_dok cX11_two tbX11_two = true := by decide +kernel
def tbX11_think : List (Nat × Instr × Nat) := [(0, .aload_n 0, 1), (1, .getfield 32, 3), (4, .iload_n 1, 1), (5, .invokevirtual 131, 3), (8, .istore 4, 2), (10, .aload_n 0, 1), (11, .getfield 32, 3), (14, .iload_n 2, 1), (15, .invokevirtual 131, 3), (18, .istore 5, 2), (20, .iload 4, 2), (22, .iload 5, 2), (24, .invokestatic 157, 3), (27, .ifCond .ne 5, 3), (30, .iconst (-1), 1), (31, .ireturn, 1), (32, .iload 4, 2), (34, .iload 5, 2), (36, .invokestatic 183, 3), (39, .istore 6, 2), (41, .iload_n 3, 1), (42, .tableswitch 65 0 2 #[26, 39, 52], 26), (68, .aload_n 0, 1), (69, .getfield 32, 3), (72, .getfield 186, 3), (75, .iload 6, 2), (77, .invokestatic 139, 3), (80, .ireturn, 1), (81, .aload_n 0, 1), (82, .getfield 32, 3), (85, .getfield 189, 3), (88, .iload 6, 2), (90, .invokestatic 139, 3), (93, .ireturn, 1), (94, .aload_n 0, 1), (95, .getfield 32, 3), (98, .getfield 192, 3), (101, .iload 6, 2), (103, .invokestatic 139, 3), (106, .ireturn, 1), (107, .iconst (-1), 1), (108, .ireturn, 1)]
set_option maxRecDepth 100000 in
theorem okX11_think : gj_dok cX11_think tbX11_think = true := by decide +kernel
def tbX11_shown : List (Nat × Instr × Nat) := [(0, .aload_n 0, 1), (1, .getfield 32, 3), (4, .iload_n 1, 1), (5, .invokevirtual 131, 3), (8, .istore 4, 2), (10, .aload_n 0, 1), (11, .getfield 32, 3), (14, .iload_n 2, 1), (15, .invokevirtual 131, 3), (18, .istore 5, 2), (20, .iload 4, 2), (22, .iload 5, 2), (24, .invokestatic 157, 3), (27, .ifCond .ne 5, 3), (30, .iconst (-1), 1), (31, .ireturn, 1), (32, .iload 4, 2), (34, .iload 5, 2), (36, .invokestatic 183, 3), (39, .istore 6, 2), (41, .iload 4, 2), (43, .iload 5, 2), (45, .invokestatic 161, 3), (48, .istore 7, 2), (50, .aload_n 0, 1), (51, .getfield 38, 3), (54, .getfield 165, 3), (57, .iload 7, 2), (59, .invokestatic 139, 3), (62, .istore 8, 2), (64, .aload_n 0, 1), (65, .getfield 38, 3), (68, .getfield 168, 3), (71, .iload 7, 2), (73, .invokestatic 139, 3), (76, .istore 9, 2), (78, .iload_n 3, 1), (79, .lookupswitch 53 #[(0, 25), (1, 39)], 25), (104, .aload_n 0, 1), (105, .getfield 32, 3), (108, .iload 6, 2), (110, .iload 8, 2), (112, .iload 9, 2), (114, .invokevirtual 195, 3), (117, .ireturn, 1), (118, .aload_n 0, 1), (119, .getfield 32, 3), (122, .iload 6, 2), (124, .iload 8, 2), (126, .iload 9, 2), (128, .invokevirtual 199, 3), (131, .ireturn, 1), (132, .iconst (-1), 1), (133, .ireturn, 1)]
set_option maxRecDepth 100000 in
theorem okX11_shown : gj_dok cX11_shown tbX11_shown = true := by decide +kernel
def tbX11_liking : List (Nat × Instr × Nat) := [(0, .aload_n 0, 1), (1, .getfield 32, 3), (4, .iload_n 1, 1), (5, .invokevirtual 131, 3), (8, .istore_n 3, 1), (9, .aload_n 0, 1), (10, .getfield 32, 3), (13, .iload_n 2, 1), (14, .invokevirtual 131, 3), (17, .istore 4, 2), (19, .iload_n 3, 1), (20, .iload 4, 2), (22, .invokestatic 157, 3), (25, .ifCond .eq 17, 3), (28, .aload_n 0, 1), (29, .getfield 54, 3), (32, .iload_n 3, 1), (33, .iload 4, 2), (35, .iconst 1, 1), (36, .invokevirtual 202, 3), (39, .goto 4, 3), (42, .iconst (-1), 1), (43, .ireturn, 1)]
set_option maxRecDepth 100000 in
theorem okX11_liking : gj_dok cX11_liking tbX11_liking = true := by decide +kernel
def tbX11_sooner : List (Nat × Instr × Nat) := [(0, .aload_n 0, 1), (1, .getfield 32, 3), (4, .iload_n 1, 1), (5, .invokevirtual 131, 3), (8, .istore 4, 2), (10, .aload_n 0, 1), (11, .getfield 32, 3), (14, .iload_n 2, 1), (15, .invokevirtual 131, 3), (18, .istore 5, 2), (20, .aload_n 0, 1), (21, .getfield 32, 3), (24, .iload_n 3, 1), (25, .invokevirtual 131, 3), (28, .istore 6, 2), (30, .iload 4, 2), (32, .iload 5, 2), (34, .invokestatic 157, 3), (37, .ifCond .eq 13, 3), (40, .iload 4, 2), (42, .iload 6, 2), (44, .invokestatic 157, 3), (47, .ifCond .ne 5, 3), (50, .iconst (-1), 1), (51, .ireturn, 1), (52, .aload_n 0, 1), (53, .getfield 54, 3), (56, .iconst 1, 1), (57, .invokevirtual 206, 3), (60, .aload_n 0, 1), (61, .getfield 54, 3), (64, .iload 4, 2), (66, .iload 5, 2), (68, .iload 6, 2), (70, .invokevirtual 210, 3), (73, .ifCond .eq 7, 3), (76, .iconst 1, 1), (77, .goto 4, 3), (80, .iconst 0, 1), (81, .ireturn, 1)]
set_option maxRecDepth 100000 in
theorem okX11_sooner : gj_dok cX11_sooner tbX11_sooner = true := by decide +kernel
def tbX11_best : List (Nat × Instr × Nat) := [(0, .aload_n 0, 1), (1, .getfield 32, 3), (4, .iload_n 1, 1), (5, .invokevirtual 131, 3), (8, .istore 4, 2), (10, .iload 4, 2), (12, .iconst (-1), 1), (13, .if_icmp .eq 10, 3), (16, .iload_n 2, 1), (17, .invokestatic 214, 3), (20, .ifCond .ne 6, 3), (23, .ldc 135, 2), (25, .ireturn, 1), (26, .aload_n 0, 1), (27, .getfield 47, 3), (30, .iload 4, 2), (32, .invokevirtual 217, 3), (35, .iload_n 3, 1), (36, .lookupswitch 55 #[(0, 28), (1, 38)], 28), (64, .aload_n 0, 1), (65, .getfield 47, 3), (68, .iload_n 2, 1), (69, .invokevirtual 220, 3), (72, .l2i, 1), (73, .ireturn, 1), (74, .iload 4, 2), (76, .aload_n 0, 1), (77, .getfield 47, 3), (80, .iload_n 2, 1), (81, .invokevirtual 224, 3), (84, .invokestatic 227, 3), (87, .invokestatic 146, 3), (90, .ireturn, 1), (91, .ldc 135, 2), (93, .ireturn, 1)]
set_option maxRecDepth 100000 in
theorem okX11_best : gj_dok cX11_best tbX11_best = true := by decide +kernel
def tbX11_act : List (Nat × Instr × Nat) := [(0, .aload_n 0, 1), (1, .getfield 32, 3), (4, .iload_n 1, 1), (5, .invokevirtual 131, 3), (8, .istore 4, 2), (10, .aload_n 0, 1), (11, .getfield 32, 3), (14, .iload_n 3, 1), (15, .invokevirtual 131, 3), (18, .istore 5, 2), (20, .iload 4, 2), (22, .iconst (-1), 1), (23, .if_icmp .eq 25, 3), (26, .iload_n 2, 1), (27, .invokestatic 214, 3), (30, .ifCond .eq 18, 3), (33, .iload_n 3, 1), (34, .iconst (-1), 1), (35, .if_icmp .eq 16, 3), (38, .iload 4, 2), (40, .iload 5, 2), (42, .invokestatic 157, 3), (45, .ifCond .ne 6, 3), (48, .ldc 135, 2), (50, .ireturn, 1), (51, .aload_n 0, 1), (52, .getfield 47, 3), (55, .iload 4, 2), (57, .invokevirtual 217, 3), (60, .aload_n 0, 1), (61, .getfield 47, 3), (64, .iload 5, 2), (66, .invokestatic 230, 3), (69, .iload_n 2, 1), (70, .invokevirtual 233, 3), (73, .l2i, 1), (74, .ireturn, 1)]
set_option maxRecDepth 100000 in
theorem okX11_act : gj_dok cX11_act tbX11_act = true := by decide +kernel
def tbX11_silent : List (Nat × Instr × Nat) := [(0, .aload_n 0, 1), (1, .getfield 32, 3), (4, .iload_n 1, 1), (5, .invokevirtual 131, 3), (8, .istore_n 3, 1), (9, .iload_n 3, 1), (10, .iconst (-1), 1), (11, .if_icmp .eq 10, 3), (14, .iload_n 2, 1), (15, .invokestatic 214, 3), (18, .ifCond .ne 5, 3), (21, .iconst (-1), 1), (22, .ireturn, 1), (23, .aload_n 0, 1), (24, .getfield 47, 3), (27, .iload_n 3, 1), (28, .invokevirtual 217, 3), (31, .aload_n 0, 1), (32, .getfield 47, 3), (35, .iload_n 2, 1), (36, .invokevirtual 237, 3), (39, .ifCond .eq 7, 3), (42, .iconst 0, 1), (43, .goto 4, 3), (46, .iconst 1, 1), (47, .ireturn, 1)]
set_option maxRecDepth 100000 in
theorem okX11_silent : gj_dok cX11_silent tbX11_silent = true := by decide +kernel
def tbX11_bar : List (Nat × Instr × Nat) := [(0, .aload_n 0, 1), (1, .getfield 32, 3), (4, .iload_n 1, 1), (5, .invokevirtual 131, 3), (8, .istore 5, 2), (10, .aload_n 0, 1), (11, .getfield 32, 3), (14, .iload_n 2, 1), (15, .invokevirtual 131, 3), (18, .istore 6, 2), (20, .iload 5, 2), (22, .iload 6, 2), (24, .invokestatic 157, 3), (27, .ifCond .eq 22, 3), (30, .iload_n 3, 1), (31, .iconst 1, 1), (32, .if_icmp .lt 17, 3), (35, .iload_n 3, 1), (36, .bipush 6, 2), (38, .if_icmp .gt 11, 3), (41, .iload 4, 2), (43, .invokestatic 214, 3), (46, .ifCond .ne 5, 3), (49, .iconst (-1), 1), (50, .ireturn, 1), (51, .aload_n 0, 1), (52, .getfield 47, 3), (55, .iload 5, 2), (57, .invokevirtual 217, 3), (60, .aload_n 0, 1), (61, .getfield 47, 3), (64, .iload 6, 2), (66, .invokestatic 230, 3), (69, .iload_n 3, 1), (70, .iload 4, 2), (72, .invokevirtual 240, 3), (75, .ireturn, 1)]
set_option maxRecDepth 100000 in
theorem okX11_bar : gj_dok cX11_bar tbX11_bar = true := by decide +kernel
def tbX11_price : List (Nat × Instr × Nat) := [(0, .aload_n 0, 1), (1, .getfield 32, 3), (4, .iload_n 1, 1), (5, .invokevirtual 131, 3), (8, .istore_n 3, 1), (9, .iload_n 3, 1), (10, .iconst (-1), 1), (11, .if_icmp .eq 25, 3), (14, .iload_n 2, 1), (15, .invokestatic 214, 3), (18, .ifCond .eq 18, 3), (21, .aload_n 0, 1), (22, .getfield 38, 3), (25, .getfield 143, 3), (28, .iload_n 3, 1), (29, .invokestatic 139, 3), (32, .iconst (-1), 1), (33, .if_icmp .ne 5, 3), (36, .iconst (-1), 1), (37, .ireturn, 1), (38, .aload_n 0, 1), (39, .getfield 47, 3), (42, .iload_n 3, 1), (43, .invokevirtual 217, 3), (46, .aload_n 0, 1), (47, .getfield 47, 3), (50, .iload_n 2, 1), (51, .invokevirtual 243, 3), (54, .ireturn, 1)]
set_option maxRecDepth 100000 in
theorem okX11_price : gj_dok cX11_price tbX11_price = true := by decide +kernel
def tbX11_waits : List (Nat × Instr × Nat) := [(0, .aload_n 0, 1), (1, .getfield 32, 3), (4, .iload_n 1, 1), (5, .invokevirtual 131, 3), (8, .istore 4, 2), (10, .aload_n 0, 1), (11, .getfield 32, 3), (14, .iload_n 2, 1), (15, .invokevirtual 131, 3), (18, .istore 5, 2), (20, .iload 4, 2), (22, .iload 5, 2), (24, .invokestatic 157, 3), (27, .ifCond .eq 29, 3), (30, .iload_n 3, 1), (31, .iconst 2, 1), (32, .if_icmp .lt 24, 3), (35, .iload_n 3, 1), (36, .invokestatic 214, 3), (39, .ifCond .eq 17, 3), (42, .aload_n 0, 1), (43, .getfield 38, 3), (46, .iload 4, 2), (48, .iload 5, 2), (50, .invokevirtual 177, 3), (53, .ifCond .eq 6, 3), (56, .ldc 135, 2), (58, .ireturn, 1), (59, .aload_n 0, 1), (60, .getfield 38, 3), (63, .getfield 143, 3), (66, .iload 4, 2), (68, .invokestatic 139, 3), (71, .iconst (-1), 1), (72, .if_icmp .ne 7, 3), (75, .iconst 0, 1), (76, .goto 10, 3), (79, .aload_n 0, 1), (80, .getfield 32, 3), (83, .getfield 246, 3), (86, .istore 6, 2), (88, .ldc2_w 249, 3), (91, .aload_n 0, 1), (92, .getfield 32, 3), (95, .getfield 136, 3), (98, .iload 4, 2), (100, .invokestatic 139, 3), (103, .iload 6, 2), (105, .isub, 1), (106, .i2l, 1), (107, .lmul, 1), (108, .lstore 7, 2), (110, .lload 7, 2), (112, .iload_n 3, 1), (113, .i2l, 1), (114, .lconst 1, 1), (115, .lsub, 1), (116, .aload_n 0, 1), (117, .getfield 54, 3), (120, .iload 4, 2), (122, .iload 5, 2), (124, .iconst 1, 1), (125, .invokevirtual 202, 3), (128, .i2l, 1), (129, .lmul, 1), (130, .ladd, 1), (131, .lstore 7, 2), (133, .aload_n 0, 1), (134, .getfield 47, 3), (137, .iload 4, 2), (139, .invokevirtual 217, 3), (142, .aload_n 0, 1), (143, .getfield 47, 3), (146, .iload 5, 2), (148, .invokestatic 230, 3), (151, .invokevirtual 251, 3), (154, .lload 7, 2), (156, .aload_n 0, 1), (157, .getfield 47, 3), (160, .iload_n 3, 1), (161, .invokevirtual 220, 3), (164, .lsub, 1), (165, .l2i, 1), (166, .ireturn, 1)]
set_option maxRecDepth 100000 in
theorem okX11_waits : gj_dok cX11_waits tbX11_waits = true := by decide +kernel
def tbX11_way : List (Nat × Instr × Nat) := [(0, .iload_n 1, 1), (1, .ifCond .lt 8, 3), (4, .iload_n 1, 1), (5, .iconst 3, 1), (6, .if_icmp .le 9, 3), (9, .aload_n 0, 1), (10, .iconst 0, 1), (11, .invokevirtual 92, 3), (14, .ireturn, 1), (15, .aload_n 0, 1), (16, .getfield 38, 3), (19, .iload_n 1, 1), (20, .putfield 254, 3), (23, .iconst 1, 1), (24, .ireturn, 1)]
set_option maxRecDepth 100000 in
theorem okX11_way : gj_dok cX11_way tbX11_way = true := by decide +kernel
def tbX11_seed : List (Nat × Instr × Nat) := [(0, .iload_n 1, 1), (1, .ifCond .lt 10, 3), (4, .iload_n 1, 1), (5, .ldc_w 257, 3), (8, .if_icmp .le 9, 3), (11, .aload_n 0, 1), (12, .iconst 2, 1), (13, .invokevirtual 92, 3), (16, .ireturn, 1), (17, .aload_n 0, 1), (18, .getfield 38, 3), (21, .iload_n 1, 1), (22, .putfield 258, 3), (25, .iconst 1, 1), (26, .ireturn, 1)]
set_option maxRecDepth 100000 in
theorem okX11_seed : gj_dok cX11_seed tbX11_seed = true := by decide +kernel
def tbX11_green : List (Nat × Instr × Nat) := [(0, .aload_n 0, 1), (1, .getfield 32, 3), (4, .iload_n 2, 1), (5, .invokevirtual 131, 3), (8, .istore_n 3, 1), (9, .iload_n 3, 1), (10, .iconst (-1), 1), (11, .if_icmp .eq 12, 3), (14, .iload_n 1, 1), (15, .ifCond .lt 8, 3), (18, .iload_n 1, 1), (19, .iconst 2, 1), (20, .if_icmp .le 6, 3), (23, .ldc 135, 2), (25, .ireturn, 1), (26, .aload_n 0, 1), (27, .getfield 54, 3), (30, .iconst 1, 1), (31, .invokevirtual 261, 3), (34, .aload_n 0, 1), (35, .getfield 54, 3), (38, .iconst 1, 1), (39, .invokevirtual 206, 3), (42, .aload_n 0, 1), (43, .getfield 54, 3), (46, .iload_n 1, 1), (47, .invokevirtual 264, 3), (50, .aload_n 0, 1), (51, .getfield 54, 3), (54, .getfield 267, 3), (57, .iload_n 3, 1), (58, .invokestatic 139, 3), (61, .invokestatic 146, 3), (64, .ireturn, 1)]
set_option maxRecDepth 100000 in
theorem okX11_green : gj_dok cX11_green tbX11_green = true := by decide +kernel
def tbX11_may : List (Nat × Instr × Nat) := [(0, .iload_n 1, 1), (1, .iconst 1, 1), (2, .if_icmp .lt 19, 3), (5, .iload_n 1, 1), (6, .bipush 50, 2), (8, .if_icmp .gt 13, 3), (11, .aload_n 0, 1), (12, .getfield 32, 3), (15, .invokevirtual 268, 3), (18, .ifCond .ne 11, 3), (21, .aload_n 0, 1), (22, .iconst 2, 1), (23, .invokevirtual 92, 3), (26, .pop, 1), (27, .iconst (-1), 1), (28, .ireturn, 1), (29, .iconst 0, 1), (30, .istore_n 2, 1), (31, .iload_n 2, 1), (32, .iload_n 1, 1), (33, .if_icmp .ge 16, 3), (36, .aload_n 0, 1), (37, .getfield 72, 3), (40, .invokevirtual 272, 3), (43, .iinc 2 1, 3), (46, .goto (-15), 3), (49, .aload_n 0, 1), (50, .getfield 38, 3), (53, .getfield 275, 3), (56, .ireturn, 1)]
set_option maxRecDepth 100000 in
theorem okX11_may : gj_dok cX11_may tbX11_may = true := by decide +kernel
def tbX11_join : List (Nat × Instr × Nat) := [(0, .aload_n 0, 1), (1, .getfield 32, 3), (4, .iload_n 1, 1), (5, .invokevirtual 131, 3), (8, .istore_n 3, 1), (9, .aload_n 0, 1), (10, .getfield 32, 3), (13, .iload_n 2, 1), (14, .invokevirtual 131, 3), (17, .istore 4, 2), (19, .iload_n 3, 1), (20, .iload 4, 2), (22, .invokestatic 157, 3), (25, .ifCond .eq 9, 3), (28, .iload_n 3, 1), (29, .iload 4, 2), (31, .if_icmp .le 9, 3), (34, .aload_n 0, 1), (35, .iconst 0, 1), (36, .invokevirtual 92, 3), (39, .ireturn, 1), (40, .aload_n 0, 1), (41, .getfield 38, 3), (44, .getfield 143, 3), (47, .iload_n 3, 1), (48, .invokestatic 139, 3), (51, .iconst (-1), 1), (52, .if_icmp .ne 19, 3), (55, .aload_n 0, 1), (56, .getfield 38, 3), (59, .getfield 143, 3), (62, .iload 4, 2), (64, .invokestatic 139, 3), (67, .iconst (-1), 1), (68, .if_icmp .eq 9, 3), (71, .aload_n 0, 1), (72, .iconst 2, 1), (73, .invokevirtual 92, 3), (76, .ireturn, 1), (77, .aload_n 0, 1), (78, .getfield 38, 3), (81, .iload_n 3, 1), (82, .iload 4, 2), (84, .invokevirtual 278, 3), (87, .iconst 1, 1), (88, .ireturn, 1)]
set_option maxRecDepth 100000 in
theorem okX11_join : gj_dok cX11_join tbX11_join = true := by decide +kernel
def tbX11_part : List (Nat × Instr × Nat) := [(0, .aload_n 0, 1), (1, .getfield 32, 3), (4, .iload_n 1, 1), (5, .invokevirtual 131, 3), (8, .istore_n 2, 1), (9, .iload_n 2, 1), (10, .iconst (-1), 1), (11, .if_icmp .ne 9, 3), (14, .aload_n 0, 1), (15, .iconst 0, 1), (16, .invokevirtual 92, 3), (19, .ireturn, 1), (20, .aload_n 0, 1), (21, .getfield 38, 3), (24, .getfield 143, 3), (27, .iload_n 2, 1), (28, .invokestatic 139, 3), (31, .istore_n 3, 1), (32, .iload_n 3, 1), (33, .iconst (-1), 1), (34, .if_icmp .ne 9, 3), (37, .aload_n 0, 1), (38, .iconst 2, 1), (39, .invokevirtual 92, 3), (42, .ireturn, 1), (43, .aload_n 0, 1), (44, .getfield 38, 3), (47, .iload_n 2, 1), (48, .iload_n 3, 1), (49, .invokevirtual 282, 3), (52, .iconst 1, 1), (53, .ireturn, 1)]
set_option maxRecDepth 100000 in
theorem okX11_part : gj_dok cX11_part tbX11_part = true := by decide +kernel
def tbX11_log : List (Nat × Instr × Nat) := [(0, .iload_n 1, 1), (1, .iconst (-1), 1), (2, .if_icmp .ne 16, 3), (5, .aload_n 0, 1), (6, .getfield 38, 3), (9, .getfield 285, 3), (12, .invokevirtual 289, 3), (15, .goto 15, 3), (18, .aload_n 0, 1), (19, .getfield 38, 3), (22, .getfield 285, 3), (25, .iload_n 1, 1), (26, .iload_n 2, 1), (27, .invokevirtual 294, 3), (30, .ireturn, 1)]
set_option maxRecDepth 100000 in
theorem okX11_log : gj_dok cX11_log tbX11_log = true := by decide +kernel
def tbX11_blocks : List (Nat × Instr × Nat) := [(0, .aload_n 0, 1), (1, .getfield 54, 3), (4, .iconst 1, 1), (5, .invokevirtual 206, 3), (8, .iconst 0, 1), (9, .istore_n 2, 1), (10, .iconst 0, 1), (11, .istore_n 3, 1), (12, .iload_n 3, 1), (13, .aload_n 0, 1), (14, .getfield 32, 3), (17, .getfield 124, 3), (20, .if_icmp .ge 67, 3), (23, .iconst 0, 1), (24, .istore 4, 2), (26, .iload 4, 2), (28, .aload_n 0, 1), (29, .getfield 32, 3), (32, .getfield 128, 3), (35, .if_icmp .ge 46, 3), (38, .aload_n 0, 1), (39, .getfield 54, 3), (42, .iload_n 3, 1), (43, .iconst 4, 1), (44, .iload 4, 2), (46, .iadd, 1), (47, .invokevirtual 297, 3), (50, .ifCond .ne 6, 3), (53, .goto 22, 3), (56, .iload_n 2, 1), (57, .iload_n 1, 1), (58, .if_icmp .ne 14, 3), (61, .iload_n 3, 1), (62, .bipush 100, 2), (64, .imul, 1), (65, .bipush 10, 2), (67, .iadd, 1), (68, .iload 4, 2), (70, .iadd, 1), (71, .ireturn, 1), (72, .iinc 2 1, 3), (75, .iinc 4 1, 3), (78, .goto (-52), 3), (81, .iinc 3 1, 3), (84, .goto (-72), 3), (87, .iload_n 1, 1), (88, .iconst (-1), 1), (89, .if_icmp .ne 7, 3), (92, .iload_n 2, 1), (93, .goto 4, 3), (96, .iconst (-1), 1), (97, .ireturn, 1)]
set_option maxRecDepth 100000 in
theorem okX11_blocks : gj_dok cX11_blocks tbX11_blocks = true := by decide +kernel
def tbX11_parents : List (Nat × Instr × Nat) := [(0, .aload_n 0, 1), (1, .getfield 32, 3), (4, .invokevirtual 268, 3), (7, .ifCond .ne 6, 3), (10, .ldc 135, 2), (12, .ireturn, 1), (13, .iload_n 1, 1), (14, .iconst (-1), 1), (15, .if_icmp .ne 18, 3), (18, .aload_n 0, 1), (19, .getfield 32, 3), (22, .aload_n 0, 1), (23, .getfield 63, 3), (26, .getfield 300, 3), (29, .invokevirtual 301, 3), (32, .ireturn, 1), (33, .aload_n 0, 1), (34, .getfield 32, 3), (37, .iload_n 1, 1), (38, .invokevirtual 131, 3), (41, .istore_n 2, 1), (42, .iload_n 2, 1), (43, .iconst (-1), 1), (44, .if_icmp .ne 8, 3), (47, .ldc 135, 2), (49, .goto 17, 3), (52, .aload_n 0, 1), (53, .getfield 63, 3), (56, .getfield 300, 3), (59, .iload_n 2, 1), (60, .invokestatic 139, 3), (63, .invokestatic 146, 3), (66, .ireturn, 1)]
set_option maxRecDepth 100000 in
theorem okX11_parents : gj_dok cX11_parents tbX11_parents = true := by decide +kernel
def tbX11_life : List (Nat × Instr × Nat) := [(0, .aload_n 0, 1), (1, .getfield 32, 3), (4, .invokevirtual 268, 3), (7, .ifCond .eq 23, 3), (10, .iload_n 1, 1), (11, .iconst 1, 1), (12, .if_icmp .lt 18, 3), (15, .iload_n 1, 1), (16, .bipush 100, 2), (18, .if_icmp .gt 12, 3), (21, .iload_n 2, 1), (22, .ifCond .lt 8, 3), (25, .iload_n 2, 1), (26, .iconst 1, 1), (27, .if_icmp .le 6, 3), (30, .ldc 135, 2), (32, .ireturn, 1), (33, .aload_n 0, 1), (34, .getfield 54, 3), (37, .iconst 1, 1), (38, .invokevirtual 261, 3), (41, .aload_n 0, 1), (42, .getfield 54, 3), (45, .iconst 0, 1), (46, .invokevirtual 206, 3), (49, .aload_n 0, 1), (50, .getfield 54, 3), (53, .iconst 0, 1), (54, .invokevirtual 264, 3), (57, .aload_n 0, 1), (58, .getfield 32, 3), (61, .aload_n 0, 1), (62, .getfield 54, 3), (65, .getfield 267, 3), (68, .iload_n 1, 1), (69, .invokevirtual 305, 3), (72, .istore_n 3, 1), (73, .iload_n 2, 1), (74, .ifCond .ne 7, 3), (77, .iload_n 3, 1), (78, .goto 20, 3), (81, .iload_n 3, 1), (82, .aload_n 0, 1), (83, .getfield 32, 3), (86, .aload_n 0, 1), (87, .getfield 63, 3), (90, .getfield 300, 3), (93, .iload_n 1, 1), (94, .invokevirtual 305, 3), (97, .isub, 1), (98, .ireturn, 1)]
set_option maxRecDepth 100000 in
theorem okX11_life : gj_dok cX11_life tbX11_life = true := by decide +kernel
def tbX11_never : List (Nat × Instr × Nat) := [(0, .aload_n 0, 1), (1, .getfield 32, 3), (4, .invokevirtual 268, 3), (7, .ifCond .ne 6, 3), (10, .ldc 135, 2), (12, .ireturn, 1), (13, .iload_n 1, 1), (14, .lookupswitch 61 #[(0, 26), (1, 31)], 26), (40, .aload_n 0, 1), (41, .invokevirtual 308, 3), (44, .ireturn, 1), (45, .aload_n 0, 1), (46, .getfield 32, 3), (49, .aload_n 0, 1), (50, .getfield 63, 3), (53, .getfield 300, 3), (56, .invokevirtual 301, 3), (59, .aload_n 0, 1), (60, .getfield 32, 3), (63, .aload_n 0, 1), (64, .getfield 38, 3), (67, .getfield 143, 3), (70, .invokevirtual 301, 3), (73, .isub, 1), (74, .ireturn, 1), (75, .ldc 135, 2), (77, .ireturn, 1)]
set_option maxRecDepth 100000 in
theorem okX11_never : gj_dok cX11_never tbX11_never = true := by decide +kernel
def tbX11_pairs : List (Nat × Instr × Nat) := [(0, .iload_n 1, 1), (1, .ifCond .lt 9, 3), (4, .iload_n 1, 1), (5, .bipush 100, 2), (7, .if_icmp .le 5, 3), (10, .iconst (-1), 1), (11, .ireturn, 1), (12, .iload_n 2, 1), (13, .lookupswitch 45 #[(0, 27), (1, 36)], 27), (40, .aload_n 0, 1), (41, .getfield 38, 3), (44, .iconst 0, 1), (45, .invokevirtual 311, 3), (48, .ireturn, 1), (49, .aload_n 0, 1), (50, .getfield 38, 3), (53, .iload_n 1, 1), (54, .invokevirtual 311, 3), (57, .ireturn, 1), (58, .iconst (-1), 1), (59, .ireturn, 1)]
set_option maxRecDepth 100000 in
theorem okX11_pairs : gj_dok cX11_pairs tbX11_pairs = true := by decide +kernel
def tbX11_image : List (Nat × Instr × Nat) := [(0, .aload_n 0, 1), (1, .iload_n 1, 1), (2, .invokevirtual 314, 3), (5, .astore_n 2, 1), (6, .aload_n 2, 1), (7, .ifnonnull 9, 3), (10, .aload_n 0, 1), (11, .iconst 0, 1), (12, .invokevirtual 92, 3), (15, .ireturn, 1), (16, .aload_n 0, 1), (17, .getfield 32, 3), (20, .invokevirtual 268, 3), (23, .ifCond .ne 9, 3), (26, .aload_n 0, 1), (27, .iconst 2, 1), (28, .invokevirtual 92, 3), (31, .ireturn, 1), (32, .aload_n 2, 1), (33, .aload_n 0, 1), (34, .getfield 38, 3), (37, .invokevirtual 318, 3), (40, .aload_n 0, 1), (41, .getfield 80, 3), (44, .iload_n 1, 1), (45, .iconst 1, 1), (46, .invokestatic 322, 3), (49, .iconst 1, 1), (50, .ireturn, 1)]
set_option maxRecDepth 100000 in
theorem okX11_image : gj_dok cX11_image tbX11_image = true := by decide +kernel
def tbX11_on : List (Nat × Instr × Nat) := [(0, .aload_n 0, 1), (1, .iload_n 1, 1), (2, .invokevirtual 314, 3), (5, .astore_n 2, 1), (6, .aload_n 2, 1), (7, .ifnull 14, 3), (10, .aload_n 0, 1), (11, .getfield 80, 3), (14, .iload_n 1, 1), (15, .invokestatic 326, 3), (18, .ifCond .ne 9, 3), (21, .aload_n 0, 1), (22, .iconst 0, 1), (23, .invokevirtual 92, 3), (26, .ireturn, 1), (27, .aload_n 0, 1), (28, .getfield 38, 3), (31, .aload_n 2, 1), (32, .invokevirtual 318, 3), (35, .iconst 1, 1), (36, .ireturn, 1)]
set_option maxRecDepth 100000 in
theorem okX11_on : gj_dok cX11_on tbX11_on = true := by decide +kernel
def tbX11_status : List (Nat × Instr × Nat) := [(0, .iload_n 1, 1), (1, .ifCond .lt 12, 3), (4, .iload_n 1, 1), (5, .aload_n 0, 1), (6, .getfield 84, 3), (9, .arraylength, 1), (10, .if_icmp .lt 7, 3), (13, .iconst (-1), 1), (14, .goto 9, 3), (17, .aload_n 0, 1), (18, .getfield 84, 3), (21, .iload_n 1, 1), (22, .iaload, 1), (23, .ireturn, 1)]
set_option maxRecDepth 100000 in
theorem okX11_status : gj_dok cX11_status tbX11_status = true := by decide +kernel
def tbX11_count : List (Nat × Instr × Nat) := [(0, .aload_n 0, 1), (1, .getfield 32, 3), (4, .invokevirtual 268, 3), (7, .istore_n 2, 1), (8, .iload_n 1, 1), (9, .tableswitch 111 0 5 #[39, 47, 55, 71, 87, 103], 39), (48, .aload_n 0, 1), (49, .getfield 32, 3), (52, .getfield 124, 3), (55, .ireturn, 1), (56, .aload_n 0, 1), (57, .getfield 32, 3), (60, .getfield 128, 3), (63, .ireturn, 1), (64, .iload_n 2, 1), (65, .ifCond .eq 13, 3), (68, .aload_n 0, 1), (69, .getfield 38, 3), (72, .getfield 275, 3), (75, .goto 4, 3), (78, .iconst 0, 1), (79, .ireturn, 1), (80, .iload_n 2, 1), (81, .ifCond .eq 13, 3), (84, .aload_n 0, 1), (85, .getfield 38, 3), (88, .getfield 254, 3), (91, .goto 4, 3), (94, .iconst 0, 1), (95, .ireturn, 1), (96, .iload_n 2, 1), (97, .ifCond .eq 13, 3), (100, .aload_n 0, 1), (101, .getfield 32, 3), (104, .getfield 330, 3), (107, .goto 4, 3), (110, .iconst 0, 1), (111, .ireturn, 1), (112, .aload_n 0, 1), (113, .getfield 10, 3), (116, .invokevirtual 99, 3), (119, .ireturn, 1), (120, .iconst (-1), 1), (121, .ireturn, 1)]
set_option maxRecDepth 100000 in
theorem okX11_count : gj_dok cX11_count tbX11_count = true := by decide +kernel
def tbX11_refuse : List (Nat × Instr × Nat) := [(0, .aload_n 0, 1), (1, .getfield 84, 3), (4, .iload_n 1, 1), (5, .aload_n 0, 1), (6, .getfield 84, 3), (9, .iload_n 1, 1), (10, .invokestatic 139, 3), (13, .iconst 1, 1), (14, .iadd, 1), (15, .invokestatic 333, 3), (18, .iconst 0, 1), (19, .ireturn, 1)]
set_option maxRecDepth 100000 in
theorem okX11_refuse : gj_dok cX11_refuse tbX11_refuse = true := by decide +kernel
def tbX11_pictureAt : List (Nat × Instr × Nat) := [(0, .iload_n 1, 1), (1, .ifCond .lt 12, 3), (4, .iload_n 1, 1), (5, .aload_n 0, 1), (6, .getfield 76, 3), (9, .arraylength, 1), (10, .if_icmp .lt 7, 3), (13, .aconst_null, 1), (14, .goto 9, 3), (17, .aload_n 0, 1), (18, .getfield 76, 3), (21, .iload_n 1, 1), (22, .aaload, 1), (23, .areturn, 1)]
set_option maxRecDepth 100000 in
theorem okX11_pictureAt : gj_dok cX11_pictureAt tbX11_pictureAt = true := by decide +kernel
def tbX11_canReckon : List (Nat × Instr × Nat) := [(0, .iload_n 0, 1), (1, .iconst 1, 1), (2, .if_icmp .lt 12, 3), (5, .iload_n 0, 1), (6, .iconst 4, 1), (7, .if_icmp .gt 7, 3), (10, .iconst 1, 1), (11, .goto 4, 3), (14, .iconst 0, 1), (15, .ireturn, 1)]
set_option maxRecDepth 100000 in
theorem okX11_canReckon : gj_dok cX11_canReckon tbX11_canReckon = true := by decide +kernel
def tbX11_neverTried : List (Nat × Instr × Nat) := [(0, .iconst 0, 1), (1, .istore_n 1, 1), (2, .iconst 0, 1), (3, .istore_n 2, 1), (4, .iload_n 2, 1), (5, .iconst 4, 1), (6, .if_icmp .ge 44, 3), (9, .aload_n 0, 1), (10, .getfield 63, 3), (13, .getfield 300, 3), (16, .iload_n 2, 1), (17, .invokestatic 139, 3), (20, .istore_n 3, 1), (21, .iload_n 3, 1), (22, .iconst (-1), 1), (23, .if_icmp .eq 21, 3), (26, .aload_n 0, 1), (27, .getfield 38, 3), (30, .iload_n 2, 1), (31, .iload_n 3, 1), (32, .invokestatic 161, 3), (35, .invokevirtual 337, 3), (38, .ifCond .ne 6, 3), (41, .iinc 1 1, 3), (44, .iinc 2 1, 3), (47, .goto (-43), 3), (50, .iload_n 1, 1), (51, .ireturn, 1)]
set_option maxRecDepth 100000 in
theorem okX11_neverTried : gj_dok cX11_neverTried tbX11_neverTried = true := by decide +kernel
def tbJ9_max_7cf53 : List (Nat × Instr × Nat) := [(0, .iload_n 0, 1), (1, .iload_n 1, 1), (2, .if_icmp .lt 7, 3), (5, .iload_n 0, 1), (6, .goto 4, 3), (9, .iload_n 1, 1), (10, .ireturn, 1)]
set_option maxRecDepth 100000 in
theorem okJ9_max_7cf53 : gj_dok cJ9_max_7cf53 tbJ9_max_7cf53 = true := by decide +kernel
def tbJ9_max_f86c9 : List (Nat × Instr × Nat) := [(0, .lload_n 0, 1), (1, .lload_n 2, 1), (2, .lcmp, 1), (3, .ifCond .lt 7, 3), (6, .lload_n 0, 1), (7, .goto 4, 3), (10, .lload_n 2, 1), (11, .lreturn, 1)]
set_option maxRecDepth 100000 in
theorem okJ9_max_f86c9 : gj_dok cJ9_max_f86c9 tbJ9_max_f86c9 = true := by decide +kernel
def tbJ9_min_7cf53 : List (Nat × Instr × Nat) := [(0, .iload_n 0, 1), (1, .iload_n 1, 1), (2, .if_icmp .gt 7, 3), (5, .iload_n 0, 1), (6, .goto 4, 3), (9, .iload_n 1, 1), (10, .ireturn, 1)]
set_option maxRecDepth 100000 in
theorem okJ9_min_7cf53 : gj_dok cJ9_min_7cf53 tbJ9_min_7cf53 = true := by decide +kernel
def tbJ0_length_8abf5 : List (Nat × Instr × Nat) := [(0, .aload_n 0, 1), (1, .getfield 9, 3), (4, .arraylength, 1), (5, .aload_n 0, 1), (6, .invokevirtual 335, 3), (9, .ishr, 1), (10, .ireturn, 1)]
set_option maxRecDepth 100000 in
theorem okJ0_length_8abf5 : gj_dok cJ0_length_8abf5 tbJ0_length_8abf5 = true := by decide +kernel
def tbJ0_charAt_5068e : List (Nat × Instr × Nat) := [(0, .aload_n 0, 1), (1, .invokevirtual 492, 3), (4, .ifCond .eq 12, 3), (7, .aload_n 0, 1), (8, .getfield 9, 3), (11, .iload_n 1, 1), (12, .invokestatic 495, 3), (15, .ireturn, 1), (16, .aload_n 0, 1), (17, .getfield 9, 3), (20, .iload_n 1, 1), (21, .invokestatic 498, 3), (24, .ireturn, 1)]
set_option maxRecDepth 100000 in
theorem okJ0_charAt_5068e : gj_dok cJ0_charAt_5068e tbJ0_charAt_5068e = true := by decide +kernel
def tbJ0_coder_7d493 : List (Nat × Instr × Nat) := [(0, .getstatic 38, 3), (3, .ifCond .eq 10, 3), (6, .aload_n 0, 1), (7, .getfield 15, 3), (10, .goto 4, 3), (13, .iconst 1, 1), (14, .ireturn, 1)]
set_option maxRecDepth 100000 in
theorem okJ0_coder_7d493 : gj_dok cJ0_coder_7d493 tbJ0_coder_7d493 = true := by decide +kernel
def tbJ0_isLatin1_aae02 : List (Nat × Instr × Nat) := [(0, .getstatic 38, 3), (3, .ifCond .eq 14, 3), (6, .aload_n 0, 1), (7, .getfield 15, 3), (10, .ifCond .ne 7, 3), (13, .iconst 1, 1), (14, .goto 4, 3), (17, .iconst 0, 1), (18, .ireturn, 1)]
set_option maxRecDepth 100000 in
theorem okJ0_isLatin1_aae02 : gj_dok cJ0_isLatin1_aae02 tbJ0_isLatin1_aae02 = true := by decide +kernel
def tbJ0_checkIndex_df160 : List (Nat × Instr × Nat) := [(0, .iload_n 0, 1), (1, .iload_n 1, 1), (2, .getstatic 1053, 3), (5, .invokestatic 1059, 3), (8, .pop, 1), (9, .return_, 1)]
set_option maxRecDepth 100000 in
theorem okJ0_checkIndex_df160 : gj_dok cJ0_checkIndex_df160 tbJ0_checkIndex_df160 = true := by decide +kernel
def tbJ1_charAt_3b067 : List (Nat × Instr × Nat) := [(0, .iload_n 1, 1), (1, .aload_n 0, 1), (2, .arraylength, 1), (3, .invokestatic 9, 3), (6, .aload_n 0, 1), (7, .iload_n 1, 1), (8, .baload, 1), (9, .sipush 255, 3), (12, .iand, 1), (13, .i2c, 1), (14, .ireturn, 1)]
set_option maxRecDepth 100000 in
theorem okJ1_charAt_3b067 : gj_dok cJ1_charAt_3b067 tbJ1_charAt_3b067 = true := by decide +kernel
def tbJ2_getChar_3b067 : List (Nat × Instr × Nat) := [(0, .getstatic 44, 3), (3, .ifCond .ne 25, 3), (6, .iload_n 1, 1), (7, .ifCond .lt 11, 3), (10, .iload_n 1, 1), (11, .aload_n 0, 1), (12, .invokestatic 48, 3), (15, .if_icmp .lt 13, 3), (18, .new 52, 3), (21, .dup, 1), (22, .ldc 54, 2), (24, .invokespecial 56, 3), (27, .athrow, 1), (28, .iload_n 1, 1), (29, .iconst 1, 1), (30, .ishl, 1), (31, .istore_n 1, 1), (32, .aload_n 0, 1), (33, .iload_n 1, 1), (34, .iinc 1 1, 3), (37, .baload, 1), (38, .sipush 255, 3), (41, .iand, 1), (42, .getstatic 59, 3), (45, .ishl, 1), (46, .aload_n 0, 1), (47, .iload_n 1, 1), (48, .baload, 1), (49, .sipush 255, 3), (52, .iand, 1), (53, .getstatic 63, 3), (56, .ishl, 1), (57, .ior, 1), (58, .i2c, 1), (59, .ireturn, 1)]
set_option maxRecDepth 100000 in
theorem okJ2_getChar_3b067 : gj_dok cJ2_getChar_3b067 tbJ2_getChar_3b067 = true := by decide +kernel
def tbJ2_length_9d52b : List (Nat × Instr × Nat) := [(0, .aload_n 0, 1), (1, .arraylength, 1), (2, .iconst 1, 1), (3, .ishr, 1), (4, .ireturn, 1)]
set_option maxRecDepth 100000 in
theorem okJ2_length_9d52b : gj_dok cJ2_length_9d52b tbJ2_length_9d52b = true := by decide +kernel
def tbJ2_charAt_3b067 : List (Nat × Instr × Nat) := [(0, .iload_n 1, 1), (1, .aload_n 0, 1), (2, .invokestatic 67, 3), (5, .aload_n 0, 1), (6, .iload_n 1, 1), (7, .invokestatic 71, 3), (10, .ireturn, 1)]
set_option maxRecDepth 100000 in
theorem okJ2_charAt_3b067 : gj_dok cJ2_charAt_3b067 tbJ2_charAt_3b067 = true := by decide +kernel
def tbJ2_checkIndex_2214a : List (Nat × Instr × Nat) := [(0, .iload_n 0, 1), (1, .aload_n 1, 1), (2, .invokestatic 48, 3), (5, .invokestatic 414, 3), (8, .return_, 1)]
set_option maxRecDepth 100000 in
theorem okJ2_checkIndex_2214a : gj_dok cJ2_checkIndex_2214a tbJ2_checkIndex_2214a = true := by decide +kernel
def tbJ3_checkIndex_8e157 : List (Nat × Instr × Nat) := [(0, .iload_n 0, 1), (1, .ifCond .lt 8, 3), (4, .iload_n 0, 1), (5, .iload_n 1, 1), (6, .if_icmp .lt 10, 3), (9, .aload_n 2, 1), (10, .iload_n 0, 1), (11, .iload_n 1, 1), (12, .invokestatic 95, 3), (15, .athrow, 1), (16, .iload_n 0, 1), (17, .ireturn, 1)]
set_option maxRecDepth 100000 in
theorem okJ3_checkIndex_8e157 : gj_dok cJ3_checkIndex_8e157 tbJ3_checkIndex_8e157 = true := by decide +kernel
end
section
def tbX12_init_0 : List (Nat × Instr × Nat) := [(0, .aload_n 0, 1), (1, .invokespecial 1, 3), (4, .aload_n 0, 1), (5, .iconst 3, 1), (6, .newarray .int, 2), (8, .putfield 7, 3), (11, .aload_n 0, 1), (12, .sipush 500, 3), (15, .newarray .byte, 2), (17, .putfield 13, 3), (20, .aload_n 0, 1), (21, .iconst 2, 1), (22, .bipush 8, 2), (24, .multianewarray 17 2, 4), (28, .putfield 19, 3), (31, .aload_n 0, 1), (32, .iconst 2, 1), (33, .bipush 32, 2), (35, .multianewarray 17 2, 4), (39, .putfield 22, 3), (42, .aload_n 0, 1), (43, .iconst 2, 1), (44, .bipush 32, 2), (46, .multianewarray 17 2, 4), (50, .putfield 25, 3), (53, .aload_n 0, 1), (54, .iconst 2, 1), (55, .bipush 32, 2), (57, .multianewarray 17 2, 4), (61, .putfield 28, 3), (64, .aload_n 0, 1), (65, .iconst 2, 1), (66, .bipush 16, 2), (68, .multianewarray 17 2, 4), (72, .putfield 31, 3), (75, .aload_n 0, 1), (76, .iconst 2, 1), (77, .bipush 8, 2), (79, .multianewarray 17 2, 4), (83, .putfield 34, 3), (86, .aload_n 0, 1), (87, .iconst 2, 1), (88, .iconst 2, 1), (89, .multianewarray 17 2, 4), (93, .putfield 37, 3), (96, .aload_n 0, 1), (97, .bipush 8, 2), (99, .newarray .long, 2), (101, .putfield 40, 3), (104, .aload_n 0, 1), (105, .bipush 32, 2), (107, .newarray .boolean, 2), (109, .putfield 44, 3), (112, .aload_n 0, 1), (113, .bipush 16, 2), (115, .newarray .boolean, 2), (117, .putfield 48, 3), (120, .aload_n 0, 1), (121, .bipush 9, 2), (123, .newarray .boolean, 2)]
set_option maxRecDepth 100000 in
theorem okX12_init_0 : gj_dok cX12_init tbX12_init_0 = true := by decide +kernel
def tbX12_init_1 : List (Nat × Instr × Nat) := [(125, .putfield 51, 3), (128, .aload_n 0, 1), (129, .bipush 9, 2), (131, .anewarray 54, 3), (134, .dup, 1), (135, .iconst 0, 1), (136, .ldc 56, 2), (138, .aastore, 1), (139, .dup, 1), (140, .iconst 1, 1), (141, .ldc 58, 2), (143, .aastore, 1), (144, .dup, 1), (145, .iconst 2, 1), (146, .ldc 60, 2), (148, .aastore, 1), (149, .dup, 1), (150, .iconst 3, 1), (151, .ldc 62, 2), (153, .aastore, 1), (154, .dup, 1), (155, .iconst 4, 1), (156, .ldc 63, 2), (158, .aastore, 1), (159, .dup, 1), (160, .iconst 5, 1), (161, .ldc 65, 2), (163, .aastore, 1), (164, .dup, 1), (165, .bipush 6, 2), (167, .ldc 67, 2), (169, .aastore, 1), (170, .dup, 1), (171, .bipush 7, 2), (173, .ldc 69, 2), (175, .aastore, 1), (176, .dup, 1), (177, .bipush 8, 2), (179, .ldc 71, 2), (181, .aastore, 1), (182, .putfield 73, 3), (185, .aload_n 0, 1), (186, .bipush 8, 2), (188, .newarray .int, 2), (190, .putfield 77, 3), (193, .aload_n 0, 1), (194, .bipush 8, 2), (196, .newarray .int, 2), (198, .putfield 80, 3), (201, .aload_n 0, 1), (202, .bipush 8, 2), (204, .newarray .int, 2), (206, .putfield 83, 3), (209, .aload_n 0, 1), (210, .bipush 8, 2), (212, .newarray .int, 2), (214, .putfield 86, 3), (217, .aload_n 0, 1), (218, .bipush 16, 2), (220, .newarray .int, 2)]
set_option maxRecDepth 100000 in
theorem okX12_init_1 : gj_dok cX12_init tbX12_init_1 = true := by decide +kernel
def tbX12_init_2 : List (Nat × Instr × Nat) := [(222, .putfield 89, 3), (225, .aload_n 0, 1), (226, .bipush 16, 2), (228, .newarray .int, 2), (230, .putfield 92, 3), (233, .aload_n 0, 1), (234, .bipush 16, 2), (236, .newarray .int, 2), (238, .putfield 95, 3), (241, .aload_n 0, 1), (242, .iconst 4, 1), (243, .newarray .int, 2), (245, .putfield 98, 3), (248, .aload_n 0, 1), (249, .iconst 4, 1), (250, .newarray .int, 2), (252, .putfield 101, 3), (255, .aload_n 0, 1), (256, .bipush 100, 2), (258, .newarray .int, 2), (260, .putfield 104, 3), (263, .aload_n 0, 1), (264, .bipush 100, 2), (266, .newarray .int, 2), (268, .putfield 107, 3), (271, .aload_n 0, 1), (272, .iconst (-1), 1), (273, .putfield 110, 3), (276, .aload_n 0, 1), (277, .bipush 8, 2), (279, .newarray .int, 2), (281, .putfield 114, 3), (284, .aload_n 0, 1), (285, .bipush 8, 2), (287, .newarray .int, 2), (289, .putfield 117, 3), (292, .aload_n 0, 1), (293, .bipush 16, 2), (295, .newarray .int, 2), (297, .putfield 120, 3), (300, .aload_n 0, 1), (301, .sipush 200, 3), (304, .newarray .int, 2), (306, .putfield 123, 3), (309, .aload_n 0, 1), (310, .bipush 8, 2), (312, .newarray .int, 2), (314, .putfield 126, 3), (317, .aload_n 0, 1), (318, .bipush 8, 2), (320, .newarray .int, 2), (322, .putfield 129, 3), (325, .aload_n 0, 1), (326, .bipush 8, 2), (328, .newarray .int, 2), (330, .putfield 132, 3), (333, .aload_n 0, 1), (334, .bipush 16, 2), (336, .newarray .int, 2), (338, .putfield 135, 3)]
set_option maxRecDepth 100000 in
theorem okX12_init_2 : gj_dok cX12_init tbX12_init_2 = true := by decide +kernel
def tbX12_init_3 : List (Nat × Instr × Nat) := [(341, .aload_n 0, 1), (342, .bipush 16, 2), (344, .newarray .int, 2), (346, .putfield 138, 3), (349, .aload_n 0, 1), (350, .bipush 16, 2), (352, .newarray .int, 2), (354, .putfield 141, 3), (357, .aload_n 0, 1), (358, .bipush 8, 2), (360, .newarray .int, 2), (362, .putfield 144, 3), (365, .aload_n 0, 1), (366, .iconst 3, 1), (367, .sipush 284, 3), (370, .multianewarray 17 2, 4), (374, .putfield 147, 3), (377, .aload_n 0, 1), (378, .iconst 3, 1), (379, .newarray .long, 2), (381, .putfield 150, 3), (384, .aload_n 0, 1), (385, .iconst 3, 1), (386, .newarray .boolean, 2), (388, .putfield 153, 3), (391, .return_, 1)]
set_option maxRecDepth 100000 in
theorem okX12_init_3 : gj_dok cX12_init tbX12_init_3 = true := by decide +kernel
def tbX12_in : List (Nat × Instr × Nat) := [(0, .lload_n 0, 1), (1, .lload_n 2, 1), (2, .lcmp, 1), (3, .ifCond .lt 14, 3), (6, .lload_n 0, 1), (7, .lload 4, 2), (9, .lcmp, 1), (10, .ifCond .gt 7, 3), (13, .iconst 1, 1), (14, .goto 4, 3), (17, .iconst 0, 1), (18, .ireturn, 1)]
set_option maxRecDepth 100000 in
theorem okX12_in : gj_dok cX12_in tbX12_in = true := by decide +kernel
def tbX12_refuse : List (Nat × Instr × Nat) := [(0, .aload_n 0, 1), (1, .getfield 7, 3), (4, .iload_n 1, 1), (5, .dup2, 1), (6, .iaload, 1), (7, .iconst 1, 1), (8, .iadd, 1), (9, .iastore, 1), (10, .iconst (-1), 1), (11, .ireturn, 1)]
set_option maxRecDepth 100000 in
theorem okX12_refuse : gj_dok cX12_refuse tbX12_refuse = true := by decide +kernel
def tbX12_deny : List (Nat × Instr × Nat) := [(0, .aload_n 0, 1), (1, .getfield 7, 3), (4, .iload_n 1, 1), (5, .dup2, 1), (6, .iaload, 1), (7, .iconst 1, 1), (8, .iadd, 1), (9, .iastore, 1), (10, .iconst 0, 1), (11, .ireturn, 1)]
set_option maxRecDepth 100000 in
theorem okX12_deny : gj_dok cX12_deny tbX12_deny = true := by decide +kernel
def tbX12_status : List (Nat × Instr × Nat) := [(0, .iload_n 1, 1), (1, .i2l, 1), (2, .lconst 0, 1), (3, .ldc2_w 156, 3), (6, .invokestatic 158, 3), (9, .ifCond .eq 12, 3), (12, .aload_n 0, 1), (13, .getfield 7, 3), (16, .iload_n 1, 1), (17, .iaload, 1), (18, .goto 4, 3), (21, .iconst (-1), 1), (22, .ireturn, 1)]
set_option maxRecDepth 100000 in
theorem okX12_status : gj_dok cX12_status tbX12_status = true := by decide +kernel
def tbX12_feeds : List (Nat × Instr × Nat) := [(0, .iconst 3, 1), (1, .istore_n 2, 1), (2, .iload_n 2, 1), (3, .ifCond .lt 35, 3), (6, .aload_n 0, 1), (7, .getfield 13, 3), (10, .aload_n 0, 1), (11, .getfield 162, 3), (14, .iload_n 1, 1), (15, .bipush 8, 2), (17, .iload_n 2, 1), (18, .imul, 1), (19, .iushr, 1), (20, .i2b, 1), (21, .bastore, 1), (22, .aload_n 0, 1), (23, .dup, 1), (24, .getfield 162, 3), (27, .iconst 1, 1), (28, .iadd, 1), (29, .putfield 162, 3), (32, .iinc 2 (-1), 3), (35, .goto (-33), 3), (38, .return_, 1)]
set_option maxRecDepth 100000 in
theorem okX12_feeds : gj_dok cX12_feeds tbX12_feeds = true := by decide +kernel
def tbX12_feed : List (Nat × Instr × Nat) := [(0, .aload_n 0, 1), (1, .getfield 162, 3), (4, .bipush 20, 2), (6, .iadd, 1), (7, .sipush 500, 3), (10, .if_icmp .le 9, 3), (13, .aload_n 0, 1), (14, .iconst 1, 1), (15, .invokevirtual 165, 3), (18, .ireturn, 1), (19, .aload_n 0, 1), (20, .iload_n 1, 1), (21, .invokevirtual 169, 3), (24, .aload_n 0, 1), (25, .iload_n 2, 1), (26, .invokevirtual 169, 3), (29, .aload_n 0, 1), (30, .iload_n 3, 1), (31, .invokevirtual 169, 3), (34, .aload_n 0, 1), (35, .iload 4, 2), (37, .invokevirtual 169, 3), (40, .aload_n 0, 1), (41, .iload 5, 2), (43, .invokevirtual 169, 3), (46, .aload_n 0, 1), (47, .getfield 162, 3), (50, .ireturn, 1)]
set_option maxRecDepth 100000 in
theorem okX12_feed : gj_dok cX12_feed tbX12_feed = true := by decide +kernel
def tbX12_end : List (Nat × Instr × Nat) := [(0, .iload_n 1, 1), (1, .i2l, 1), (2, .lconst 0, 1), (3, .aload_n 0, 1), (4, .getfield 162, 3), (7, .i2l, 1), (8, .invokestatic 158, 3), (11, .ifCond .ne 9, 3), (14, .aload_n 0, 1), (15, .iconst 2, 1), (16, .invokevirtual 173, 3), (19, .ireturn, 1), (20, .aload_n 0, 1), (21, .iload_n 1, 1), (22, .putfield 162, 3), (25, .iconst 1, 1), (26, .ireturn, 1)]
set_option maxRecDepth 100000 in
theorem okX12_end : gj_dok cX12_end tbX12_end = true := by decide +kernel
def tbX12_between : List (Nat × Instr × Nat) := [(0, .iload_n 1, 1), (1, .aload_n 0, 1), (2, .getfield 162, 3), (5, .if_icmp .ge 27, 3), (8, .aload_n 0, 1), (9, .getfield 13, 3), (12, .iload_n 1, 1), (13, .baload, 1), (14, .iload_n 2, 1), (15, .if_icmp .lt 17, 3), (18, .aload_n 0, 1), (19, .getfield 13, 3), (22, .iload_n 1, 1), (23, .baload, 1), (24, .iload_n 3, 1), (25, .if_icmp .gt 7, 3), (28, .iconst 1, 1), (29, .goto 4, 3), (32, .iconst 0, 1), (33, .ireturn, 1)]
set_option maxRecDepth 100000 in
theorem okX12_between : gj_dok cX12_between tbX12_between = true := by decide +kernel
def tbX12_next : List (Nat × Instr × Nat) := [(0, .aload_n 0, 1), (1, .aload_n 0, 1), (2, .getfield 177, 3), (5, .putfield 180, 3), (8, .aload_n 0, 1), (9, .getfield 180, 3), (12, .aload_n 0, 1), (13, .getfield 162, 3), (16, .if_icmp .ge 44, 3), (19, .aload_n 0, 1), (20, .getfield 13, 3), (23, .aload_n 0, 1), (24, .getfield 180, 3), (27, .baload, 1), (28, .bipush 32, 2), (30, .if_icmp .eq 17, 3), (33, .aload_n 0, 1), (34, .getfield 13, 3), (37, .aload_n 0, 1), (38, .getfield 180, 3), (41, .baload, 1), (42, .bipush 10, 2), (44, .if_icmp .ne 16, 3), (47, .aload_n 0, 1), (48, .dup, 1), (49, .getfield 180, 3), (52, .iconst 1, 1), (53, .iadd, 1), (54, .putfield 180, 3), (57, .goto (-49), 3), (60, .aload_n 0, 1), (61, .aload_n 0, 1), (62, .getfield 180, 3), (65, .putfield 177, 3), (68, .aload_n 0, 1), (69, .aload_n 0, 1), (70, .getfield 180, 3), (73, .bipush 97, 2), (75, .bipush 122, 2), (77, .invokevirtual 183, 3), (80, .ifCond .eq 31, 3), (83, .aload_n 0, 1), (84, .aload_n 0, 1), (85, .getfield 177, 3), (88, .bipush 97, 2), (90, .bipush 122, 2), (92, .invokevirtual 183, 3), (95, .ifCond .eq 80, 3), (98, .aload_n 0, 1), (99, .dup, 1), (100, .getfield 177, 3), (103, .iconst 1, 1), (104, .iadd, 1), (105, .putfield 177, 3), (108, .goto (-25), 3), (111, .aload_n 0, 1), (112, .aload_n 0, 1), (113, .getfield 180, 3), (116, .bipush 48, 2), (118, .bipush 57, 2), (120, .invokevirtual 183, 3), (123, .ifCond .eq 31, 3), (126, .aload_n 0, 1), (127, .aload_n 0, 1), (128, .getfield 177, 3), (131, .bipush 48, 2), (133, .bipush 57, 2), (135, .invokevirtual 183, 3), (138, .ifCond .eq 37, 3), (141, .aload_n 0, 1), (142, .dup, 1), (143, .getfield 177, 3), (146, .iconst 1, 1), (147, .iadd, 1), (148, .putfield 177, 3), (151, .goto (-25), 3), (154, .aload_n 0, 1), (155, .getfield 180, 3), (158, .aload_n 0, 1), (159, .getfield 162, 3), (162, .if_icmp .ge 13, 3), (165, .aload_n 0, 1), (166, .dup, 1), (167, .getfield 177, 3), (170, .iconst 1, 1), (171, .iadd, 1), (172, .putfield 177, 3), (175, .return_, 1)]
set_option maxRecDepth 100000 in
theorem okX12_next : gj_dok cX12_next tbX12_next = true := by decide +kernel
def tbX12_passes : List (Nat × Instr × Nat) := [(0, .iload_n 1, 1), (1, .ifCond .ne 21, 3), (4, .aload_n 0, 1), (5, .getfield 187, 3), (8, .iconst (-1), 1), (9, .if_icmp .ne 11, 3), (12, .aload_n 0, 1), (13, .aload_n 0, 1), (14, .getfield 180, 3), (17, .putfield 187, 3), (20, .iconst 0, 1), (21, .ireturn, 1), (22, .aload_n 0, 1), (23, .invokevirtual 190, 3), (26, .iconst 1, 1), (27, .ireturn, 1)]
set_option maxRecDepth 100000 in
theorem okX12_passes : gj_dok cX12_passes tbX12_passes = true := by decide +kernel
def tbX12_wordHere : List (Nat × Instr × Nat) := [(0, .iconst 0, 1), (1, .istore_n 1, 1), (2, .iload_n 1, 1), (3, .bipush 9, 2), (5, .if_icmp .ge 106, 3), (8, .aload_n 0, 1), (9, .getfield 180, 3), (12, .aload_n 0, 1), (13, .getfield 162, 3), (16, .if_icmp .ge 28, 3), (19, .aload_n 0, 1), (20, .getfield 177, 3), (23, .aload_n 0, 1), (24, .getfield 180, 3), (27, .isub, 1), (28, .aload_n 0, 1), (29, .getfield 73, 3), (32, .iload_n 1, 1), (33, .aaload, 1), (34, .invokevirtual 193, 3), (37, .if_icmp .ne 7, 3), (40, .iconst 1, 1), (41, .goto 4, 3), (44, .iconst 0, 1), (45, .istore_n 2, 1), (46, .aload_n 0, 1), (47, .getfield 180, 3), (50, .istore_n 3, 1), (51, .iload_n 2, 1), (52, .ifCond .eq 47, 3), (55, .iload_n 3, 1), (56, .aload_n 0, 1), (57, .getfield 177, 3), (60, .if_icmp .ge 39, 3), (63, .aload_n 0, 1), (64, .getfield 13, 3), (67, .iload_n 3, 1), (68, .baload, 1), (69, .aload_n 0, 1), (70, .getfield 73, 3), (73, .iload_n 1, 1), (74, .aaload, 1), (75, .iload_n 3, 1), (76, .aload_n 0, 1), (77, .getfield 180, 3), (80, .isub, 1), (81, .invokevirtual 197, 3), (84, .if_icmp .ne 7, 3), (87, .iconst 1, 1), (88, .goto 4, 3), (91, .iconst 0, 1), (92, .istore_n 2, 1), (93, .iinc 3 1, 3), (96, .goto (-45), 3), (99, .iload_n 2, 1), (100, .ifCond .eq 5, 3), (103, .iload_n 1, 1), (104, .ireturn, 1), (105, .iinc 1 1, 3), (108, .goto (-106), 3), (111, .iconst (-1), 1), (112, .ireturn, 1)]
set_option maxRecDepth 100000 in
theorem okX12_wordHere : gj_dok cX12_wordHere tbX12_wordHere = true := by decide +kernel
def tbX12_closes : List (Nat × Instr × Nat) := [(0, .aload_n 0, 1), (1, .aload_n 0, 1), (2, .getfield 180, 3), (5, .aload_n 0, 1), (6, .getfield 162, 3), (9, .if_icmp .ge 21, 3), (12, .aload_n 0, 1), (13, .getfield 13, 3), (16, .aload_n 0, 1), (17, .getfield 180, 3), (20, .baload, 1), (21, .bipush 59, 2), (23, .if_icmp .ne 7, 3), (26, .iconst 1, 1), (27, .goto 4, 3), (30, .iconst 0, 1), (31, .invokevirtual 201, 3), (34, .ireturn, 1)]
set_option maxRecDepth 100000 in
theorem okX12_closes : gj_dok cX12_closes tbX12_closes = true := by decide +kernel
def tbX12_into : List (Nat × Instr × Nat) := [(0, .aload_n 0, 1), (1, .aload_n 0, 1), (2, .aload_n 0, 1), (3, .getfield 180, 3), (6, .bipush 48, 2), (8, .bipush 57, 2), (10, .invokevirtual 183, 3), (13, .ifCond .eq 7, 3), (16, .iconst 0, 1), (17, .goto 4, 3), (20, .iconst (-1), 1), (21, .putfield 205, 3), (24, .aload_n 0, 1), (25, .getfield 180, 3), (28, .istore 5, 2), (30, .aload_n 0, 1), (31, .getfield 205, 3), (34, .iconst (-1), 1), (35, .if_icmp .eq 57, 3), (38, .iload 5, 2), (40, .aload_n 0, 1), (41, .getfield 177, 3), (44, .if_icmp .ge 48, 3), (47, .aload_n 0, 1), (48, .aload_n 0, 1), (49, .getfield 205, 3), (52, .sipush 9999, 3), (55, .if_icmp .le 10, 3), (58, .aload_n 0, 1), (59, .getfield 205, 3), (62, .goto 21, 3), (65, .bipush 10, 2), (67, .aload_n 0, 1), (68, .getfield 205, 3), (71, .imul, 1), (72, .aload_n 0, 1), (73, .getfield 13, 3), (76, .iload 5, 2), (78, .baload, 1), (79, .iadd, 1), (80, .bipush 48, 2), (82, .isub, 1), (83, .putfield 205, 3), (86, .iinc 5 1, 3), (89, .goto (-59), 3), (92, .aload_n 0, 1), (93, .aload_n 0, 1), (94, .getfield 205, 3), (97, .i2l, 1), (98, .iload_n 3, 1), (99, .i2l, 1), (100, .iload 4, 2), (102, .i2l, 1), (103, .invokestatic 158, 3), (106, .invokevirtual 201, 3), (109, .ifCond .ne 5, 3), (112, .iconst 0, 1), (113, .ireturn, 1), (114, .aload_n 1, 1), (115, .iload_n 2, 1), (116, .aload_n 0, 1), (117, .getfield 205, 3), (120, .iastore, 1), (121, .iconst 1, 1), (122, .ireturn, 1)]
set_option maxRecDepth 100000 in
theorem okX12_into : gj_dok cX12_into tbX12_into = true := by decide +kernel
def tbX12_nameHere : List (Nat × Instr × Nat) := [(0, .aload_n 0, 1), (1, .aload_n 0, 1), (2, .getfield 180, 3), (5, .bipush 97, 2), (7, .bipush 122, 2), (9, .invokevirtual 183, 3), (12, .ifCond .eq 25, 3), (15, .aload_n 0, 1), (16, .getfield 177, 3), (19, .aload_n 0, 1), (20, .getfield 180, 3), (23, .isub, 1), (24, .bipush 8, 2), (26, .if_icmp .gt 11, 3), (29, .aload_n 0, 1), (30, .invokevirtual 208, 3), (33, .iconst (-1), 1), (34, .if_icmp .eq 7, 3), (37, .ldc2_w 211, 3), (40, .lreturn, 1), (41, .lconst 0, 1), (42, .lstore_n 1, 1), (43, .aload_n 0, 1), (44, .getfield 180, 3), (47, .istore_n 3, 1), (48, .iload_n 3, 1), (49, .aload_n 0, 1), (50, .getfield 177, 3), (53, .if_icmp .ge 29, 3), (56, .ldc2_w 213, 3), (59, .lload_n 1, 1), (60, .lmul, 1), (61, .aload_n 0, 1), (62, .getfield 13, 3), (65, .iload_n 3, 1), (66, .baload, 1), (67, .i2l, 1), (68, .ladd, 1), (69, .ldc2_w 215, 3), (72, .lsub, 1), (73, .lconst 1, 1), (74, .ladd, 1), (75, .lstore_n 1, 1), (76, .iinc 3 1, 3), (79, .goto (-31), 3), (82, .lload_n 1, 1), (83, .lreturn, 1)]
set_option maxRecDepth 100000 in
theorem okX12_nameHere : gj_dok cX12_nameHere tbX12_nameHere = true := by decide +kernel
def tbX12_found : List (Nat × Instr × Nat) := [(0, .aload_n 0, 1), (1, .invokevirtual 217, 3), (4, .lstore_n 1, 1), (5, .iconst 0, 1), (6, .istore_n 3, 1), (7, .iload_n 3, 1), (8, .iconst 2, 1), (9, .if_icmp .ge 54, 3), (12, .iconst 0, 1), (13, .istore 4, 2), (15, .iload 4, 2), (17, .aload_n 0, 1), (18, .getfield 37, 3), (21, .iconst 1, 1), (22, .aaload, 1), (23, .iload_n 3, 1), (24, .iaload, 1), (25, .if_icmp .ge 32, 3), (28, .aload_n 0, 1), (29, .getfield 40, 3), (32, .iconst 4, 1), (33, .iload_n 3, 1), (34, .imul, 1), (35, .iload 4, 2), (37, .iadd, 1), (38, .laload, 1), (39, .lload_n 1, 1), (40, .lcmp, 1), (41, .ifCond .ne 10, 3), (44, .iconst 4, 1), (45, .iload_n 3, 1), (46, .imul, 1), (47, .iload 4, 2), (49, .iadd, 1), (50, .ireturn, 1), (51, .iinc 4 1, 3), (54, .goto (-39), 3), (57, .iinc 3 1, 3), (60, .goto (-53), 3), (63, .iconst (-1), 1), (64, .ireturn, 1)]
set_option maxRecDepth 100000 in
theorem okX12_found : gj_dok cX12_found tbX12_found = true := by decide +kernel
def tbX12_personRead : List (Nat × Instr × Nat) := [(0, .iconst 4, 1), (1, .iload_n 1, 1), (2, .imul, 1), (3, .aload_n 0, 1), (4, .getfield 37, 3), (7, .iconst 1, 1), (8, .aaload, 1), (9, .iload_n 1, 1), (10, .iaload, 1), (11, .iadd, 1), (12, .istore_n 2, 1), (13, .aload_n 0, 1), (14, .aload_n 0, 1), (15, .getfield 37, 3), (18, .iconst 1, 1), (19, .aaload, 1), (20, .iload_n 1, 1), (21, .iaload, 1), (22, .iconst 4, 1), (23, .if_icmp .ge 7, 3), (26, .iconst 1, 1), (27, .goto 4, 3), (30, .iconst 0, 1), (31, .invokevirtual 201, 3), (34, .ifCond .ne 5, 3), (37, .iconst 0, 1), (38, .ireturn, 1), (39, .aload_n 0, 1), (40, .invokevirtual 217, 3), (43, .lstore_n 3, 1), (44, .aload_n 0, 1), (45, .lload_n 3, 1), (46, .ldc2_w 211, 3), (49, .lcmp, 1), (50, .ifCond .eq 15, 3), (53, .aload_n 0, 1), (54, .invokevirtual 221, 3), (57, .iconst (-1), 1), (58, .if_icmp .ne 7, 3), (61, .iconst 1, 1), (62, .goto 4, 3), (65, .iconst 0, 1), (66, .invokevirtual 201, 3), (69, .ifCond .ne 5, 3), (72, .iconst 0, 1), (73, .ireturn, 1), (74, .aload_n 0, 1), (75, .getfield 40, 3), (78, .iload_n 2, 1), (79, .lload_n 3, 1), (80, .lastore, 1), (81, .aload_n 0, 1), (82, .aload_n 0, 1), (83, .getfield 19, 3), (86, .iconst 1, 1), (87, .aaload, 1), (88, .iload_n 2, 1), (89, .iconst 0, 1), (90, .bipush 99, 2), (92, .invokevirtual 224, 3), (95, .ifCond .ne 5, 3), (98, .iconst 0, 1), (99, .ireturn, 1), (100, .aload_n 0, 1), (101, .getfield 37, 3), (104, .iconst 1, 1), (105, .aaload, 1), (106, .iload_n 1, 1), (107, .dup2, 1), (108, .iaload, 1), (109, .iconst 1, 1), (110, .iadd, 1), (111, .iastore, 1), (112, .aload_n 0, 1), (113, .invokevirtual 228, 3), (116, .ireturn, 1)]
set_option maxRecDepth 100000 in
theorem okX12_personRead : gj_dok cX12_personRead tbX12_personRead = true := by decide +kernel
def tbX12_coupleOf : List (Nat × Instr × Nat) := [(0, .iconst 4, 1), (1, .iload_n 0, 1), (2, .imul, 1), (3, .iload_n 1, 1), (4, .iconst 4, 1), (5, .irem, 1), (6, .iadd, 1), (7, .ireturn, 1)]
set_option maxRecDepth 100000 in
theorem okX12_coupleOf : gj_dok cX12_coupleOf tbX12_coupleOf = true := by decide +kernel
def tbX12_thinkRead : List (Nat × Instr × Nat) := [(0, .aload_n 0, 1), (1, .iconst 1, 1), (2, .invokevirtual 201, 3), (5, .ifCond .ne 5, 3), (8, .iconst 0, 1), (9, .ireturn, 1), (10, .aload_n 0, 1), (11, .invokevirtual 221, 3), (14, .istore_n 1, 1), (15, .aload_n 0, 1), (16, .iload_n 1, 1), (17, .iconst (-1), 1), (18, .if_icmp .eq 7, 3), (21, .iconst 1, 1), (22, .goto 4, 3), (25, .iconst 0, 1), (26, .invokevirtual 201, 3), (29, .ifCond .ne 5, 3), (32, .iconst 0, 1), (33, .ireturn, 1), (34, .aload_n 0, 1), (35, .invokevirtual 221, 3), (38, .istore_n 2, 1), (39, .aload_n 0, 1), (40, .iload_n 2, 1), (41, .iconst (-1), 1), (42, .if_icmp .eq 29, 3), (45, .iload_n 1, 1), (46, .iconst 4, 1), (47, .idiv, 1), (48, .iload_n 2, 1), (49, .iconst 4, 1), (50, .idiv, 1), (51, .if_icmp .eq 20, 3), (54, .aload_n 0, 1), (55, .getfield 44, 3), (58, .iload_n 1, 1), (59, .iload_n 2, 1), (60, .invokestatic 232, 3), (63, .baload, 1), (64, .ifCond .ne 7, 3), (67, .iconst 1, 1), (68, .goto 4, 3), (71, .iconst 0, 1), (72, .invokevirtual 201, 3), (75, .ifCond .ne 5, 3), (78, .iconst 0, 1), (79, .ireturn, 1), (80, .iload_n 1, 1), (81, .iload_n 2, 1), (82, .invokestatic 232, 3), (85, .istore_n 3, 1), (86, .aload_n 0, 1), (87, .getfield 44, 3), (90, .iload_n 3, 1), (91, .iconst 1, 1), (92, .bastore, 1), (93, .aload_n 0, 1), (94, .aload_n 0, 1), (95, .getfield 22, 3), (98, .iconst 1, 1), (99, .aaload, 1), (100, .iload_n 3, 1), (101, .iconst 0, 1), (102, .bipush 16, 2), (104, .invokevirtual 224, 3), (107, .ifCond .eq 54, 3), (110, .aload_n 0, 1), (111, .aload_n 0, 1), (112, .getfield 25, 3), (115, .iconst 1, 1), (116, .aaload, 1), (117, .iload_n 3, 1), (118, .iconst 0, 1), (119, .bipush 16, 2), (121, .invokevirtual 224, 3), (124, .ifCond .eq 37, 3), (127, .aload_n 0, 1), (128, .aload_n 0, 1), (129, .getfield 28, 3), (132, .iconst 1, 1), (133, .aaload, 1), (134, .iload_n 3, 1), (135, .iconst 0, 1), (136, .aload_n 0, 1), (137, .getfield 25, 3), (140, .iconst 1, 1), (141, .aaload, 1), (142, .iload_n 3, 1), (143, .iaload, 1), (144, .invokevirtual 224, 3), (147, .ifCond .eq 14, 3), (150, .aload_n 0, 1), (151, .invokevirtual 228, 3), (154, .ifCond .eq 7, 3), (157, .iconst 1, 1), (158, .goto 4, 3), (161, .iconst 0, 1), (162, .ireturn, 1)]
set_option maxRecDepth 100000 in
theorem okX12_thinkRead : gj_dok cX12_thinkRead tbX12_thinkRead = true := by decide +kernel
def tbX12_fitRead : List (Nat × Instr × Nat) := [(0, .aload_n 0, 1), (1, .iconst 1, 1), (2, .invokevirtual 201, 3), (5, .ifCond .ne 5, 3), (8, .iconst 0, 1), (9, .ireturn, 1), (10, .aload_n 0, 1), (11, .invokevirtual 221, 3), (14, .istore_n 1, 1), (15, .aload_n 0, 1), (16, .iload_n 1, 1), (17, .i2l, 1), (18, .lconst 0, 1), (19, .ldc2_w 236, 3), (22, .invokestatic 158, 3), (25, .invokevirtual 201, 3), (28, .ifCond .ne 5, 3), (31, .iconst 0, 1), (32, .ireturn, 1), (33, .aload_n 0, 1), (34, .invokevirtual 221, 3), (37, .istore_n 2, 1), (38, .aload_n 0, 1), (39, .iload_n 2, 1), (40, .iconst 4, 1), (41, .if_icmp .lt 20, 3), (44, .aload_n 0, 1), (45, .getfield 48, 3), (48, .iload_n 1, 1), (49, .iload_n 2, 1), (50, .invokestatic 232, 3), (53, .baload, 1), (54, .ifCond .ne 7, 3), (57, .iconst 1, 1), (58, .goto 4, 3), (61, .iconst 0, 1), (62, .invokevirtual 201, 3), (65, .ifCond .ne 5, 3), (68, .iconst 0, 1), (69, .ireturn, 1), (70, .aload_n 0, 1), (71, .getfield 48, 3), (74, .iload_n 1, 1), (75, .iload_n 2, 1), (76, .invokestatic 232, 3), (79, .iconst 1, 1), (80, .bastore, 1), (81, .aload_n 0, 1), (82, .aload_n 0, 1), (83, .getfield 31, 3), (86, .iconst 1, 1), (87, .aaload, 1), (88, .iload_n 1, 1), (89, .iload_n 2, 1), (90, .invokestatic 232, 3), (93, .iconst 0, 1), (94, .bipush 16, 2), (96, .invokevirtual 224, 3), (99, .ifCond .eq 14, 3), (102, .aload_n 0, 1), (103, .invokevirtual 228, 3), (106, .ifCond .eq 7, 3), (109, .iconst 1, 1), (110, .goto 4, 3), (113, .iconst 0, 1), (114, .ireturn, 1)]
set_option maxRecDepth 100000 in
theorem okX12_fitRead : gj_dok cX12_fitRead tbX12_fitRead = true := by decide +kernel
def tbX12_onceRead : List (Nat × Instr × Nat) := [(0, .aload_n 0, 1), (1, .iload_n 1, 1), (2, .iconst 4, 1), (3, .if_icmp .lt 16, 3), (6, .aload_n 0, 1), (7, .getfield 51, 3), (10, .iload_n 1, 1), (11, .baload, 1), (12, .ifCond .ne 7, 3), (15, .iconst 1, 1), (16, .goto 4, 3), (19, .iconst 0, 1), (20, .invokevirtual 201, 3), (23, .ifCond .ne 5, 3), (26, .iconst 0, 1), (27, .ireturn, 1), (28, .aload_n 0, 1), (29, .getfield 51, 3), (32, .iload_n 1, 1), (33, .iconst 1, 1), (34, .bastore, 1), (35, .aload_n 0, 1), (36, .getfield 34, 3), (39, .iconst 1, 1), (40, .aaload, 1), (41, .astore_n 2, 1), (42, .iload_n 1, 1), (43, .tableswitch 167 4 7 #[29, 66, 103, 140], 29), (72, .aload_n 0, 1), (73, .aload_n 2, 1), (74, .iconst 0, 1), (75, .iconst 0, 1), (76, .bipush 99, 2), (78, .invokevirtual 224, 3), (81, .ifCond .eq 26, 3), (84, .aload_n 0, 1), (85, .aload_n 2, 1), (86, .iconst 1, 1), (87, .iconst 0, 1), (88, .bipush 99, 2), (90, .invokevirtual 224, 3), (93, .ifCond .eq 14, 3), (96, .aload_n 0, 1), (97, .invokevirtual 228, 3), (100, .ifCond .eq 7, 3), (103, .iconst 1, 1), (104, .goto 4, 3), (107, .iconst 0, 1), (108, .ireturn, 1), (109, .aload_n 0, 1), (110, .aload_n 2, 1), (111, .iconst 2, 1), (112, .iconst 1, 1), (113, .bipush 9, 2), (115, .invokevirtual 224, 3), (118, .ifCond .eq 26, 3), (121, .aload_n 0, 1), (122, .aload_n 2, 1), (123, .iconst 3, 1), (124, .iconst 0, 1), (125, .bipush 99, 2), (127, .invokevirtual 224, 3), (130, .ifCond .eq 14, 3), (133, .aload_n 0, 1), (134, .invokevirtual 228, 3), (137, .ifCond .eq 7, 3), (140, .iconst 1, 1), (141, .goto 4, 3), (144, .iconst 0, 1), (145, .ireturn, 1), (146, .aload_n 0, 1), (147, .aload_n 2, 1), (148, .iconst 4, 1), (149, .iconst 0, 1), (150, .bipush 16, 2), (152, .invokevirtual 224, 3), (155, .ifCond .eq 26, 3), (158, .aload_n 0, 1), (159, .aload_n 2, 1), (160, .iconst 5, 1), (161, .iconst 0, 1), (162, .bipush 99, 2), (164, .invokevirtual 224, 3), (167, .ifCond .eq 14, 3), (170, .aload_n 0, 1), (171, .invokevirtual 228, 3), (174, .ifCond .eq 7, 3), (177, .iconst 1, 1), (178, .goto 4, 3), (181, .iconst 0, 1), (182, .ireturn, 1), (183, .aload_n 0, 1), (184, .aload_n 2, 1), (185, .bipush 6, 2), (187, .iconst 0, 1), (188, .sipush 999, 3), (191, .invokevirtual 224, 3), (194, .ifCond .eq 14, 3), (197, .aload_n 0, 1), (198, .invokevirtual 228, 3), (201, .ifCond .eq 7, 3), (204, .iconst 1, 1), (205, .goto 4, 3), (208, .iconst 0, 1), (209, .ireturn, 1), (210, .aload_n 0, 1), (211, .aload_n 2, 1), (212, .bipush 7, 2), (214, .iconst 1, 1), (215, .iconst 4, 1), (216, .invokevirtual 224, 3), (219, .ifCond .eq 14, 3), (222, .aload_n 0, 1), (223, .invokevirtual 228, 3), (226, .ifCond .eq 7, 3), (229, .iconst 1, 1), (230, .goto 4, 3), (233, .iconst 0, 1), (234, .ireturn, 1)]
set_option maxRecDepth 100000 in
theorem okX12_onceRead : gj_dok cX12_onceRead tbX12_onceRead = true := by decide +kernel
def tbX12_line : List (Nat × Instr × Nat) := [(0, .aload_n 0, 1), (1, .invokevirtual 208, 3), (4, .istore_n 1, 1), (5, .iload_n 1, 1), (6, .ifCond .eq 8, 3), (9, .iload_n 1, 1), (10, .iconst 1, 1), (11, .if_icmp .ne 9, 3), (14, .aload_n 0, 1), (15, .iload_n 1, 1), (16, .invokevirtual 238, 3), (19, .ireturn, 1), (20, .iload_n 1, 1), (21, .iconst 2, 1), (22, .if_icmp .ne 8, 3), (25, .aload_n 0, 1), (26, .invokevirtual 241, 3), (29, .ireturn, 1), (30, .iload_n 1, 1), (31, .iconst 3, 1), (32, .if_icmp .ne 10, 3), (35, .aload_n 0, 1), (36, .invokevirtual 244, 3), (39, .goto 8, 3), (42, .aload_n 0, 1), (43, .iload_n 1, 1), (44, .invokevirtual 247, 3), (47, .ireturn, 1)]
set_option maxRecDepth 100000 in
theorem okX12_line : gj_dok cX12_line tbX12_line = true := by decide +kernel
def tbX12_reads_0 : List (Nat × Instr × Nat) := [(0, .aload_n 0, 1), (1, .iconst (-1), 1), (2, .putfield 187, 3), (5, .aload_n 0, 1), (6, .getfield 37, 3), (9, .iconst 1, 1), (10, .aaload, 1), (11, .iconst 0, 1), (12, .iconst 0, 1), (13, .iastore, 1), (14, .aload_n 0, 1), (15, .getfield 37, 3), (18, .iconst 1, 1), (19, .aaload, 1), (20, .iconst 1, 1), (21, .iconst 0, 1), (22, .iastore, 1), (23, .iconst 0, 1), (24, .istore_n 1, 1), (25, .iload_n 1, 1), (26, .bipush 32, 2), (28, .if_icmp .ge 45, 3), (31, .aload_n 0, 1), (32, .getfield 44, 3), (35, .iload_n 1, 1), (36, .iconst 0, 1), (37, .bastore, 1), (38, .aload_n 0, 1), (39, .getfield 22, 3), (42, .iconst 1, 1), (43, .aaload, 1), (44, .iload_n 1, 1), (45, .bipush 8, 2), (47, .iastore, 1), (48, .aload_n 0, 1), (49, .getfield 25, 3), (52, .iconst 1, 1), (53, .aaload, 1), (54, .iload_n 1, 1), (55, .bipush 12, 2), (57, .iastore, 1), (58, .aload_n 0, 1), (59, .getfield 28, 3), (62, .iconst 1, 1), (63, .aaload, 1), (64, .iload_n 1, 1), (65, .iconst 4, 1), (66, .iastore, 1), (67, .iinc 1 1, 3), (70, .goto (-45), 3), (73, .iconst 0, 1), (74, .istore_n 1, 1), (75, .iload_n 1, 1), (76, .bipush 16, 2), (78, .if_icmp .ge 26, 3), (81, .aload_n 0, 1), (82, .getfield 48, 3), (85, .iload_n 1, 1), (86, .iconst 0, 1), (87, .bastore, 1)]
set_option maxRecDepth 100000 in
theorem okX12_reads_0 : gj_dok cX12_reads tbX12_reads_0 = true := by decide +kernel
def tbX12_reads_1 : List (Nat × Instr × Nat) := [(88, .aload_n 0, 1), (89, .getfield 31, 3), (92, .iconst 1, 1), (93, .aaload, 1), (94, .iload_n 1, 1), (95, .bipush 8, 2), (97, .iastore, 1), (98, .iinc 1 1, 3), (101, .goto (-26), 3), (104, .iconst 0, 1), (105, .istore_n 1, 1), (106, .iload_n 1, 1), (107, .bipush 9, 2), (109, .if_icmp .ge 16, 3), (112, .aload_n 0, 1), (113, .getfield 51, 3), (116, .iload_n 1, 1), (117, .iconst 0, 1), (118, .bastore, 1), (119, .iinc 1 1, 3), (122, .goto (-16), 3), (125, .bipush 8, 2), (127, .newarray .int, 2), (129, .dup, 1), (130, .iconst 0, 1), (131, .bipush 10, 2), (133, .iastore, 1), (134, .dup, 1), (135, .iconst 1, 1), (136, .iconst 0, 1), (137, .iastore, 1), (138, .dup, 1), (139, .iconst 2, 1), (140, .iconst 1, 1), (141, .iastore, 1), (142, .dup, 1), (143, .iconst 3, 1), (144, .iconst 0, 1), (145, .iastore, 1), (146, .dup, 1), (147, .iconst 4, 1), (148, .iconst 0, 1), (149, .iastore, 1), (150, .dup, 1), (151, .iconst 5, 1), (152, .iconst 0, 1), (153, .iastore, 1), (154, .dup, 1), (155, .bipush 6, 2), (157, .iconst 0, 1), (158, .iastore, 1), (159, .dup, 1), (160, .bipush 7, 2), (162, .iconst 3, 1), (163, .iastore, 1), (164, .astore_n 1, 1), (165, .iconst 0, 1), (166, .istore_n 2, 1), (167, .iload_n 2, 1), (168, .bipush 8, 2)]
set_option maxRecDepth 100000 in
theorem okX12_reads_1 : gj_dok cX12_reads tbX12_reads_1 = true := by decide +kernel
def tbX12_reads_2 : List (Nat × Instr × Nat) := [(170, .if_icmp .ge 20, 3), (173, .aload_n 0, 1), (174, .getfield 34, 3), (177, .iconst 1, 1), (178, .aaload, 1), (179, .iload_n 2, 1), (180, .aload_n 1, 1), (181, .iload_n 2, 1), (182, .iaload, 1), (183, .iastore, 1), (184, .iinc 2 1, 3), (187, .goto (-20), 3), (190, .aload_n 0, 1), (191, .iconst 0, 1), (192, .putfield 177, 3), (195, .aload_n 0, 1), (196, .invokevirtual 190, 3), (199, .iconst 1, 1), (200, .istore_n 2, 1), (201, .iload_n 2, 1), (202, .ifCond .eq 22, 3), (205, .aload_n 0, 1), (206, .getfield 180, 3), (209, .aload_n 0, 1), (210, .getfield 162, 3), (213, .if_icmp .ge 11, 3), (216, .aload_n 0, 1), (217, .invokevirtual 250, 3), (220, .istore_n 2, 1), (221, .goto (-20), 3), (224, .iload_n 2, 1), (225, .ifCond .eq 33, 3), (228, .aload_n 0, 1), (229, .getfield 37, 3), (232, .iconst 1, 1), (233, .aaload, 1), (234, .iconst 0, 1), (235, .iaload, 1), (236, .ifCond .eq 14, 3), (239, .aload_n 0, 1), (240, .getfield 37, 3), (243, .iconst 1, 1), (244, .aaload, 1), (245, .iconst 1, 1), (246, .iaload, 1), (247, .ifCond .ne 11, 3), (250, .aload_n 0, 1), (251, .aload_n 0, 1), (252, .getfield 162, 3), (255, .putfield 187, 3), (258, .return_, 1)]
set_option maxRecDepth 100000 in
theorem okX12_reads_2 : gj_dok cX12_reads tbX12_reads_2 = true := by decide +kernel
def tbX12_fault : List (Nat × Instr × Nat) := [(0, .aload_n 0, 1), (1, .invokevirtual 253, 3), (4, .aload_n 0, 1), (5, .getfield 187, 3), (8, .ireturn, 1)]
set_option maxRecDepth 100000 in
theorem okX12_fault : gj_dok cX12_fault tbX12_fault = true := by decide +kernel
def tbX12_copies : List (Nat × Instr × Nat) := [(0, .iconst 0, 1), (1, .istore_n 1, 1), (2, .iload_n 1, 1), (3, .aload_n 0, 1), (4, .iconst 0, 1), (5, .aaload, 1), (6, .arraylength, 1), (7, .if_icmp .ge 19, 3), (10, .aload_n 0, 1), (11, .iconst 0, 1), (12, .aaload, 1), (13, .iload_n 1, 1), (14, .aload_n 0, 1), (15, .iconst 1, 1), (16, .aaload, 1), (17, .iload_n 1, 1), (18, .iaload, 1), (19, .iastore, 1), (20, .iinc 1 1, 3), (23, .goto (-21), 3), (26, .return_, 1)]
set_option maxRecDepth 100000 in
theorem okX12_copies : gj_dok cX12_copies tbX12_copies = true := by decide +kernel
def tbX12_village : List (Nat × Instr × Nat) := [(0, .aload_n 0, 1), (1, .invokevirtual 253, 3), (4, .aload_n 0, 1), (5, .getfield 187, 3), (8, .iconst (-1), 1), (9, .if_icmp .eq 9, 3), (12, .aload_n 0, 1), (13, .iconst 2, 1), (14, .invokevirtual 165, 3), (17, .ireturn, 1), (18, .aload_n 0, 1), (19, .getfield 19, 3), (22, .invokestatic 256, 3), (25, .aload_n 0, 1), (26, .getfield 22, 3), (29, .invokestatic 256, 3), (32, .aload_n 0, 1), (33, .getfield 25, 3), (36, .invokestatic 256, 3), (39, .aload_n 0, 1), (40, .getfield 28, 3), (43, .invokestatic 256, 3), (46, .aload_n 0, 1), (47, .getfield 31, 3), (50, .invokestatic 256, 3), (53, .aload_n 0, 1), (54, .getfield 34, 3), (57, .invokestatic 256, 3), (60, .aload_n 0, 1), (61, .getfield 37, 3), (64, .invokestatic 256, 3), (67, .aload_n 0, 1), (68, .iconst 0, 1), (69, .putfield 162, 3), (72, .aload_n 0, 1), (73, .iconst 1, 1), (74, .putfield 260, 3), (77, .aload_n 0, 1), (78, .iconst 0, 1), (79, .putfield 264, 3), (82, .aload_n 0, 1), (83, .iconst 0, 1), (84, .putfield 267, 3), (87, .aload_n 0, 1), (88, .lconst 0, 1), (89, .putfield 270, 3), (92, .aload_n 0, 1), (93, .iconst 0, 1), (94, .putfield 274, 3), (97, .iconst 0, 1), (98, .istore_n 1, 1), (99, .iload_n 1, 1), (100, .bipush 8, 2), (102, .if_icmp .ge 37, 3), (105, .aload_n 0, 1), (106, .getfield 77, 3), (109, .iload_n 1, 1), (110, .iconst (-1), 1), (111, .iastore, 1), (112, .aload_n 0, 1), (113, .getfield 80, 3), (116, .iload_n 1, 1), (117, .iconst 0, 1), (118, .iastore, 1), (119, .aload_n 0, 1), (120, .getfield 83, 3), (123, .iload_n 1, 1), (124, .iconst 0, 1), (125, .iastore, 1), (126, .aload_n 0, 1), (127, .getfield 86, 3), (130, .iload_n 1, 1), (131, .iconst 0, 1), (132, .iastore, 1), (133, .iinc 1 1, 3), (136, .goto (-37), 3), (139, .iconst 0, 1), (140, .istore_n 1, 1), (141, .iload_n 1, 1), (142, .bipush 16, 2), (144, .if_icmp .ge 30, 3), (147, .aload_n 0, 1), (148, .getfield 89, 3), (151, .iload_n 1, 1), (152, .iconst 0, 1), (153, .iastore, 1), (154, .aload_n 0, 1), (155, .getfield 92, 3), (158, .iload_n 1, 1), (159, .iconst 0, 1), (160, .iastore, 1), (161, .aload_n 0, 1), (162, .getfield 95, 3), (165, .iload_n 1, 1), (166, .iconst 0, 1), (167, .iastore, 1), (168, .iinc 1 1, 3), (171, .goto (-30), 3), (174, .iconst 0, 1), (175, .istore_n 1, 1), (176, .iload_n 1, 1), (177, .iconst 3, 1), (178, .if_icmp .ge 16, 3), (181, .aload_n 0, 1), (182, .getfield 153, 3), (185, .iload_n 1, 1), (186, .iconst 0, 1), (187, .bastore, 1), (188, .iinc 1 1, 3), (191, .goto (-15), 3), (194, .aload_n 0, 1), (195, .getfield 37, 3), (198, .iconst 0, 1), (199, .aaload, 1), (200, .iconst 0, 1), (201, .iaload, 1), (202, .aload_n 0, 1), (203, .getfield 37, 3), (206, .iconst 0, 1), (207, .aaload, 1), (208, .iconst 1, 1), (209, .iaload, 1), (210, .iadd, 1), (211, .ireturn, 1)]
set_option maxRecDepth 100000 in
theorem okX12_village : gj_dok cX12_village tbX12_village = true := by decide +kernel
def tbX12_who : List (Nat × Instr × Nat) := [(0, .iload_n 1, 1), (1, .i2l, 1), (2, .lconst 0, 1), (3, .ldc2_w 236, 3), (6, .invokestatic 158, 3), (9, .ifCond .eq 7, 3), (12, .iload_n 1, 1), (13, .goto 25, 3), (16, .iload_n 1, 1), (17, .i2l, 1), (18, .ldc2_w 277, 3), (21, .ldc2_w 279, 3), (24, .invokestatic 158, 3), (27, .ifCond .eq 10, 3), (30, .iload_n 1, 1), (31, .bipush 6, 2), (33, .isub, 1), (34, .goto 4, 3), (37, .iconst (-1), 1), (38, .istore_n 2, 1), (39, .aload_n 0, 1), (40, .getfield 260, 3), (43, .ifCond .eq 28, 3), (46, .iload_n 2, 1), (47, .iconst (-1), 1), (48, .if_icmp .eq 23, 3), (51, .iload_n 2, 1), (52, .iconst 4, 1), (53, .irem, 1), (54, .aload_n 0, 1), (55, .getfield 37, 3), (58, .iconst 0, 1), (59, .aaload, 1), (60, .iload_n 2, 1), (61, .iconst 4, 1), (62, .idiv, 1), (63, .iaload, 1), (64, .if_icmp .ge 7, 3), (67, .iload_n 2, 1), (68, .goto 4, 3), (71, .iconst (-1), 1), (72, .ireturn, 1)]
set_option maxRecDepth 100000 in
theorem okX12_who : gj_dok cX12_who tbX12_who = true := by decide +kernel
def tbX12_told : List (Nat × Instr × Nat) := [(0, .iload_n 0, 1), (1, .iconst 4, 1), (2, .if_icmp .ge 7, 3), (5, .iload_n 0, 1), (6, .goto 7, 3), (9, .iload_n 0, 1), (10, .bipush 6, 2), (12, .iadd, 1), (13, .ireturn, 1)]
set_option maxRecDepth 100000 in
theorem okX12_told : gj_dok cX12_told tbX12_told = true := by decide +kernel
def tbX12_two : List (Nat × Instr × Nat) := [(0, .iload_n 0, 1), (1, .iconst 4, 1), (2, .if_icmp .ge 13, 3), (5, .iconst 4, 1), (6, .iload_n 0, 1), (7, .imul, 1), (8, .iload_n 1, 1), (9, .iadd, 1), (10, .iconst 4, 1), (11, .isub, 1), (12, .goto 10, 3), (15, .iconst 4, 1), (16, .iload_n 1, 1), (17, .imul, 1), (18, .iload_n 0, 1), (19, .iadd, 1), (20, .iconst 4, 1), (21, .isub, 1), (22, .ireturn, 1)]
set_option maxRecDepth 100000 in
theorem okX12_two : gj_dok cX12_two tbX12_two = true := by decide +kernel
def tbX12_areTwo : List (Nat × Instr × Nat) := [(0, .iload_n 0, 1), (1, .iconst (-1), 1), (2, .if_icmp .eq 21, 3), (5, .iload_n 1, 1), (6, .iconst (-1), 1), (7, .if_icmp .eq 16, 3), (10, .iload_n 0, 1), (11, .iconst 4, 1), (12, .idiv, 1), (13, .iload_n 1, 1), (14, .iconst 4, 1), (15, .idiv, 1), (16, .if_icmp .eq 7, 3), (19, .iconst 1, 1), (20, .goto 4, 3), (23, .iconst 0, 1), (24, .ireturn, 1)]
set_option maxRecDepth 100000 in
theorem okX12_areTwo : gj_dok cX12_areTwo tbX12_areTwo = true := by decide +kernel
def tbX12_person : List (Nat × Instr × Nat) := [(0, .aload_n 0, 1), (1, .iload_n 1, 1), (2, .invokevirtual 281, 3), (5, .istore_n 3, 1), (6, .iload_n 3, 1), (7, .iconst (-1), 1), (8, .if_icmp .ne 7, 3), (11, .ldc_w 284, 3), (14, .ireturn, 1), (15, .iload_n 2, 1), (16, .tableswitch 82 0 2 #[28, 37, 61], 28), (44, .aload_n 0, 1), (45, .getfield 19, 3), (48, .iconst 0, 1), (49, .aaload, 1), (50, .iload_n 3, 1), (51, .iaload, 1), (52, .ireturn, 1), (53, .aload_n 0, 1), (54, .getfield 77, 3), (57, .iload_n 3, 1), (58, .iaload, 1), (59, .iconst (-1), 1), (60, .if_icmp .ne 7, 3), (63, .iconst (-1), 1), (64, .goto 12, 3), (67, .aload_n 0, 1), (68, .getfield 77, 3), (71, .iload_n 3, 1), (72, .iaload, 1), (73, .invokestatic 285, 3), (76, .ireturn, 1), (77, .aload_n 0, 1), (78, .getfield 77, 3), (81, .iload_n 3, 1), (82, .iaload, 1), (83, .iconst (-1), 1), (84, .if_icmp .ne 7, 3), (87, .iconst 0, 1), (88, .goto 9, 3), (91, .aload_n 0, 1), (92, .getfield 80, 3), (95, .iload_n 3, 1), (96, .iaload, 1), (97, .ireturn, 1), (98, .ldc_w 284, 3), (101, .ireturn, 1)]
set_option maxRecDepth 100000 in
theorem okX12_person : gj_dok cX12_person tbX12_person = true := by decide +kernel
def tbX12_earned : List (Nat × Instr × Nat) := [(0, .aload_n 0, 1), (1, .iload_n 1, 1), (2, .invokevirtual 281, 3), (5, .istore_n 2, 1), (6, .iload_n 2, 1), (7, .iconst (-1), 1), (8, .if_icmp .ne 9, 3), (11, .ldc_w 284, 3), (14, .goto 9, 3), (17, .aload_n 0, 1), (18, .getfield 86, 3), (21, .iload_n 2, 1), (22, .iaload, 1), (23, .ireturn, 1)]
set_option maxRecDepth 100000 in
theorem okX12_earned : gj_dok cX12_earned tbX12_earned = true := by decide +kernel
def tbX12_two_ : List (Nat × Instr × Nat) := [(0, .aload_n 0, 1), (1, .iload_n 1, 1), (2, .invokevirtual 281, 3), (5, .istore 4, 2), (7, .aload_n 0, 1), (8, .iload_n 2, 1), (9, .invokevirtual 281, 3), (12, .istore 5, 2), (14, .iload 4, 2), (16, .iload 5, 2), (18, .invokestatic 288, 3), (21, .ifCond .ne 5, 3), (24, .iconst (-1), 1), (25, .ireturn, 1), (26, .iload 4, 2), (28, .iload 5, 2), (30, .invokestatic 292, 3), (33, .istore 6, 2), (35, .iload_n 3, 1), (36, .tableswitch 94 0 4 #[36, 44, 52, 60, 70], 36), (72, .aload_n 0, 1), (73, .getfield 89, 3), (76, .iload 6, 2), (78, .iaload, 1), (79, .ireturn, 1), (80, .aload_n 0, 1), (81, .getfield 92, 3), (84, .iload 6, 2), (86, .iaload, 1), (87, .ireturn, 1), (88, .aload_n 0, 1), (89, .getfield 95, 3), (92, .iload 6, 2), (94, .iaload, 1), (95, .ireturn, 1), (96, .aload_n 0, 1), (97, .getfield 31, 3), (100, .iconst 0, 1), (101, .aaload, 1), (102, .iload 6, 2), (104, .iaload, 1), (105, .ireturn, 1), (106, .aload_n 0, 1), (107, .getfield 77, 3), (110, .iload 4, 2), (112, .iaload, 1), (113, .iload 5, 2), (115, .if_icmp .ne 13, 3), (118, .aload_n 0, 1), (119, .getfield 83, 3), (122, .iload 4, 2), (124, .iaload, 1), (125, .goto 4, 3), (128, .iconst 0, 1), (129, .ireturn, 1), (130, .iconst (-1), 1), (131, .ireturn, 1)]
set_option maxRecDepth 100000 in
theorem okX12_two_ : gj_dok cX12_two_ tbX12_two_ = true := by decide +kernel
def tbX12_think : List (Nat × Instr × Nat) := [(0, .aload_n 0, 1), (1, .iload_n 1, 1), (2, .invokevirtual 281, 3), (5, .istore 4, 2), (7, .aload_n 0, 1), (8, .iload_n 2, 1), (9, .invokevirtual 281, 3), (12, .istore 5, 2), (14, .iload 4, 2), (16, .iload 5, 2), (18, .invokestatic 288, 3), (21, .ifCond .ne 5, 3), (24, .iconst (-1), 1), (25, .ireturn, 1), (26, .iload 4, 2), (28, .iload 5, 2), (30, .invokestatic 232, 3), (33, .istore 6, 2), (35, .iload_n 3, 1), (36, .ifCond .ne 15, 3), (39, .aload_n 0, 1), (40, .getfield 22, 3), (43, .iconst 0, 1), (44, .aaload, 1), (45, .iload 6, 2), (47, .iaload, 1), (48, .goto 38, 3), (51, .iload_n 3, 1), (52, .iconst 1, 1), (53, .if_icmp .ne 15, 3), (56, .aload_n 0, 1), (57, .getfield 25, 3), (60, .iconst 0, 1), (61, .aaload, 1), (62, .iload 6, 2), (64, .iaload, 1), (65, .goto 21, 3), (68, .iload_n 3, 1), (69, .iconst 2, 1), (70, .if_icmp .ne 15, 3), (73, .aload_n 0, 1), (74, .getfield 28, 3), (77, .iconst 0, 1), (78, .aaload, 1), (79, .iload 6, 2), (81, .iaload, 1), (82, .goto 4, 3), (85, .iconst (-1), 1), (86, .ireturn, 1)]
set_option maxRecDepth 100000 in
theorem okX12_think : gj_dok cX12_think tbX12_think = true := by decide +kernel
def tbX12_power : List (Nat × Instr × Nat) := [(0, .lconst 1, 1), (1, .lstore_n 2, 1), (2, .iconst 0, 1), (3, .istore 4, 2), (5, .iload 4, 2), (7, .iload_n 1, 1), (8, .if_icmp .ge 14, 3), (11, .lload_n 2, 1), (12, .iload_n 0, 1), (13, .i2l, 1), (14, .lmul, 1), (15, .lstore_n 2, 1), (16, .iinc 4 1, 3), (19, .goto (-14), 3), (22, .lload_n 2, 1), (23, .lreturn, 1)]
set_option maxRecDepth 100000 in
theorem okX12_power : gj_dok cX12_power tbX12_power = true := by decide +kernel
def tbX12_shows : List (Nat × Instr × Nat) := [(0, .iload_n 1, 1), (1, .iload_n 2, 1), (2, .invokestatic 232, 3), (5, .istore 6, 2), (7, .aload_n 0, 1), (8, .getfield 22, 3), (11, .iconst 0, 1), (12, .aaload, 1), (13, .iload 6, 2), (15, .iaload, 1), (16, .i2l, 1), (17, .aload_n 0, 1), (18, .getfield 25, 3), (21, .iconst 0, 1), (22, .aaload, 1), (23, .iload 6, 2), (25, .iaload, 1), (26, .iload_n 3, 1), (27, .invokestatic 295, 3), (30, .lmul, 1), (31, .bipush 16, 2), (33, .aload_n 0, 1), (34, .getfield 25, 3), (37, .iconst 0, 1), (38, .aaload, 1), (39, .iload 6, 2), (41, .iaload, 1), (42, .isub, 1), (43, .iload 4, 2), (45, .invokestatic 295, 3), (48, .lmul, 1), (49, .lstore 7, 2), (51, .bipush 16, 2), (53, .aload_n 0, 1), (54, .getfield 22, 3), (57, .iconst 0, 1), (58, .aaload, 1), (59, .iload 6, 2), (61, .iaload, 1), (62, .isub, 1), (63, .i2l, 1), (64, .aload_n 0, 1), (65, .getfield 28, 3), (68, .iconst 0, 1), (69, .aaload, 1), (70, .iload 6, 2), (72, .iaload, 1), (73, .iload_n 3, 1), (74, .invokestatic 295, 3), (77, .lmul, 1), (78, .bipush 16, 2), (80, .aload_n 0, 1), (81, .getfield 28, 3), (84, .iconst 0, 1), (85, .aaload, 1), (86, .iload 6, 2), (88, .iaload, 1), (89, .isub, 1), (90, .iload 4, 2), (92, .invokestatic 295, 3), (95, .lmul, 1), (96, .lstore 9, 2), (98, .lload 7, 2), (100, .lload 9, 2), (102, .ladd, 1), (103, .lconst 0, 1), (104, .lcmp, 1), (105, .ifCond .ne 5, 3), (108, .iconst 0, 1), (109, .ireturn, 1), (110, .iload 5, 2), (112, .ifCond .ne 18, 3), (115, .ldc2_w 299, 3), (118, .lload 7, 2), (120, .lmul, 1), (121, .lload 7, 2), (123, .lload 9, 2), (125, .ladd, 1), (126, .ldiv, 1), (127, .goto 44, 3), (130, .ldc2_w 299, 3), (133, .lload 7, 2), (135, .aload_n 0, 1), (136, .getfield 25, 3), (139, .iconst 0, 1), (140, .aaload, 1), (141, .iload 6, 2), (143, .iaload, 1), (144, .i2l, 1), (145, .lmul, 1), (146, .lload 9, 2), (148, .aload_n 0, 1), (149, .getfield 28, 3), (152, .iconst 0, 1), (153, .aaload, 1), (154, .iload 6, 2), (156, .iaload, 1), (157, .i2l, 1), (158, .lmul, 1), (159, .ladd, 1), (160, .lmul, 1), (161, .ldc2_w 301, 3), (164, .lload 7, 2), (166, .lload 9, 2), (168, .ladd, 1), (169, .lmul, 1), (170, .ldiv, 1), (171, .l2i, 1), (172, .ireturn, 1)]
set_option maxRecDepth 100000 in
theorem okX12_shows : gj_dok cX12_shows tbX12_shows = true := by decide +kernel
def tbX12_shown : List (Nat × Instr × Nat) := [(0, .aload_n 0, 1), (1, .iload_n 1, 1), (2, .invokevirtual 281, 3), (5, .istore 4, 2), (7, .aload_n 0, 1), (8, .iload_n 2, 1), (9, .invokevirtual 281, 3), (12, .istore 5, 2), (14, .iload 4, 2), (16, .iload 5, 2), (18, .invokestatic 288, 3), (21, .ifCond .eq 49, 3), (24, .iload_n 3, 1), (25, .i2l, 1), (26, .lconst 0, 1), (27, .lconst 1, 1), (28, .invokestatic 158, 3), (31, .ifCond .eq 39, 3), (34, .aload_n 0, 1), (35, .iload 4, 2), (37, .iload 5, 2), (39, .aload_n 0, 1), (40, .getfield 89, 3), (43, .iload 4, 2), (45, .iload 5, 2), (47, .invokestatic 292, 3), (50, .iaload, 1), (51, .aload_n 0, 1), (52, .getfield 92, 3), (55, .iload 4, 2), (57, .iload 5, 2), (59, .invokestatic 292, 3), (62, .iaload, 1), (63, .iload_n 3, 1), (64, .invokevirtual 303, 3), (67, .goto 4, 3), (70, .iconst (-1), 1), (71, .ireturn, 1)]
set_option maxRecDepth 100000 in
theorem okX12_shown : gj_dok cX12_shown tbX12_shown = true := by decide +kernel
def tbX12_likes : List (Nat × Instr × Nat) := [(0, .iload_n 3, 1), (1, .aload_n 0, 1), (2, .getfield 34, 3), (5, .iconst 0, 1), (6, .aaload, 1), (7, .iconst 0, 1), (8, .iaload, 1), (9, .imul, 1), (10, .sipush 1000, 3), (13, .iload_n 3, 1), (14, .isub, 1), (15, .aload_n 0, 1), (16, .getfield 34, 3), (19, .iconst 0, 1), (20, .aaload, 1), (21, .iconst 1, 1), (22, .iaload, 1), (23, .imul, 1), (24, .iadd, 1), (25, .sipush 1000, 3), (28, .aload_n 0, 1), (29, .getfield 34, 3), (32, .iconst 0, 1), (33, .aaload, 1), (34, .iconst 5, 1), (35, .iaload, 1), (36, .imul, 1), (37, .aload_n 0, 1), (38, .getfield 95, 3), (41, .iload_n 1, 1), (42, .iload_n 2, 1), (43, .invokestatic 292, 3), (46, .iaload, 1), (47, .imul, 1), (48, .iadd, 1), (49, .ireturn, 1)]
set_option maxRecDepth 100000 in
theorem okX12_likes : gj_dok cX12_likes tbX12_likes = true := by decide +kernel
def tbX12_likesNow : List (Nat × Instr × Nat) := [(0, .aload_n 0, 1), (1, .iload_n 1, 1), (2, .iload_n 2, 1), (3, .aload_n 0, 1), (4, .iload_n 1, 1), (5, .iload_n 2, 1), (6, .aload_n 0, 1), (7, .getfield 89, 3), (10, .iload_n 1, 1), (11, .iload_n 2, 1), (12, .invokestatic 292, 3), (15, .iaload, 1), (16, .aload_n 0, 1), (17, .getfield 92, 3), (20, .iload_n 1, 1), (21, .iload_n 2, 1), (22, .invokestatic 292, 3), (25, .iaload, 1), (26, .iconst 1, 1), (27, .invokevirtual 303, 3), (30, .invokevirtual 307, 3), (33, .ireturn, 1)]
set_option maxRecDepth 100000 in
theorem okX12_likesNow : gj_dok cX12_likesNow tbX12_likesNow = true := by decide +kernel
def tbX12_liking : List (Nat × Instr × Nat) := [(0, .aload_n 0, 1), (1, .iload_n 1, 1), (2, .invokevirtual 281, 3), (5, .istore_n 3, 1), (6, .aload_n 0, 1), (7, .iload_n 2, 1), (8, .invokevirtual 281, 3), (11, .istore 4, 2), (13, .iload_n 3, 1), (14, .iload 4, 2), (16, .invokestatic 288, 3), (19, .ifCond .eq 13, 3), (22, .aload_n 0, 1), (23, .iload_n 3, 1), (24, .iload 4, 2), (26, .invokevirtual 311, 3), (29, .goto 4, 3), (32, .iconst (-1), 1), (33, .ireturn, 1)]
set_option maxRecDepth 100000 in
theorem okX12_liking : gj_dok cX12_liking tbX12_liking = true := by decide +kernel
def tbX12_isSooner : List (Nat × Instr × Nat) := [(0, .aload_n 0, 1), (1, .iload_n 1, 1), (2, .iload_n 2, 1), (3, .invokevirtual 311, 3), (6, .istore 4, 2), (8, .aload_n 0, 1), (9, .iload_n 1, 1), (10, .iload_n 3, 1), (11, .invokevirtual 311, 3), (14, .istore 5, 2), (16, .iload 4, 2), (18, .iload 5, 2), (20, .if_icmp .gt 15, 3), (23, .iload 4, 2), (25, .iload 5, 2), (27, .if_icmp .ne 12, 3), (30, .iload_n 2, 1), (31, .iload_n 3, 1), (32, .if_icmp .ge 7, 3), (35, .iconst 1, 1), (36, .goto 4, 3), (39, .iconst 0, 1), (40, .ireturn, 1)]
set_option maxRecDepth 100000 in
theorem okX12_isSooner : gj_dok cX12_isSooner tbX12_isSooner = true := by decide +kernel
def tbX12_sooner : List (Nat × Instr × Nat) := [(0, .aload_n 0, 1), (1, .iload_n 1, 1), (2, .invokevirtual 281, 3), (5, .istore 4, 2), (7, .aload_n 0, 1), (8, .iload_n 2, 1), (9, .invokevirtual 281, 3), (12, .istore 5, 2), (14, .aload_n 0, 1), (15, .iload_n 3, 1), (16, .invokevirtual 281, 3), (19, .istore 6, 2), (21, .iload 4, 2), (23, .iload 5, 2), (25, .invokestatic 288, 3), (28, .ifCond .eq 34, 3), (31, .iload 4, 2), (33, .iload 6, 2), (35, .invokestatic 288, 3), (38, .ifCond .eq 24, 3), (41, .aload_n 0, 1), (42, .iload 4, 2), (44, .iload 5, 2), (46, .iload 6, 2), (48, .invokevirtual 314, 3), (51, .ifCond .eq 7, 3), (54, .iconst 1, 1), (55, .goto 8, 3), (58, .iconst 0, 1), (59, .goto 4, 3), (62, .iconst (-1), 1), (63, .ireturn, 1)]
set_option maxRecDepth 100000 in
theorem okX12_sooner : gj_dok cX12_sooner tbX12_sooner = true := by decide +kernel
def tbX12_would : List (Nat × Instr × Nat) := [(0, .aload_n 0, 1), (1, .iload_n 1, 1), (2, .iload_n 2, 1), (3, .invokevirtual 311, 3), (6, .sipush 1000, 3), (9, .aload_n 0, 1), (10, .getfield 19, 3), (13, .iconst 0, 1), (14, .aaload, 1), (15, .iload_n 1, 1), (16, .iaload, 1), (17, .imul, 1), (18, .if_icmp .le 7, 3), (21, .iconst 1, 1), (22, .goto 4, 3), (25, .iconst 0, 1), (26, .ireturn, 1)]
set_option maxRecDepth 100000 in
theorem okX12_would : gj_dok cX12_would tbX12_would = true := by decide +kernel
def tbX12_both : List (Nat × Instr × Nat) := [(0, .aload_n 0, 1), (1, .iload_n 1, 1), (2, .iload_n 2, 1), (3, .invokevirtual 317, 3), (6, .ifCond .eq 16, 3), (9, .aload_n 0, 1), (10, .iload_n 2, 1), (11, .iload_n 1, 1), (12, .invokevirtual 317, 3), (15, .ifCond .eq 7, 3), (18, .iconst 1, 1), (19, .goto 4, 3), (22, .iconst 0, 1), (23, .ireturn, 1)]
set_option maxRecDepth 100000 in
theorem okX12_both : gj_dok cX12_both tbX12_both = true := by decide +kernel
def tbX12_lays : List (Nat × Instr × Nat) := [(0, .aload_n 0, 1), (1, .iload_n 1, 1), (2, .putfield 320, 3), (5, .aload_n 0, 1), (6, .aload_n 0, 1), (7, .getfield 34, 3), (10, .iconst 0, 1), (11, .aaload, 1), (12, .bipush 6, 2), (14, .iaload, 1), (15, .putfield 323, 3), (18, .aload_n 0, 1), (19, .iconst (-1), 1), (20, .putfield 110, 3), (23, .iconst 0, 1), (24, .istore_n 2, 1), (25, .iload_n 2, 1), (26, .aload_n 0, 1), (27, .getfield 37, 3), (30, .iconst 0, 1), (31, .aaload, 1), (32, .iconst 1, 1), (33, .iload_n 1, 1), (34, .iconst 4, 1), (35, .idiv, 1), (36, .isub, 1), (37, .iaload, 1), (38, .if_icmp .ge 124, 3), (41, .iconst 4, 1), (42, .iconst 1, 1), (43, .iload_n 1, 1), (44, .iconst 4, 1), (45, .idiv, 1), (46, .isub, 1), (47, .imul, 1), (48, .iload_n 2, 1), (49, .iadd, 1), (50, .istore_n 3, 1), (51, .aload_n 0, 1), (52, .getfield 98, 3), (55, .iload_n 2, 1), (56, .aload_n 0, 1), (57, .getfield 89, 3), (60, .iload_n 1, 1), (61, .iload_n 3, 1), (62, .invokestatic 292, 3), (65, .iaload, 1), (66, .iastore, 1), (67, .aload_n 0, 1), (68, .getfield 101, 3), (71, .iload_n 2, 1), (72, .aload_n 0, 1), (73, .getfield 92, 3), (76, .iload_n 1, 1), (77, .iload_n 3, 1), (78, .invokestatic 292, 3), (81, .iaload, 1), (82, .iastore, 1), (83, .iconst 0, 1), (84, .istore 4, 2), (86, .iload 4, 2), (88, .bipush 25, 2), (90, .if_icmp .ge 66, 3), (93, .aload_n 0, 1), (94, .getfield 104, 3), (97, .bipush 25, 2), (99, .iload_n 2, 1), (100, .imul, 1), (101, .iload 4, 2), (103, .iadd, 1), (104, .aload_n 0, 1), (105, .iload_n 1, 1), (106, .iload_n 3, 1), (107, .iload 4, 2), (109, .iconst 5, 1), (110, .idiv, 1), (111, .iload 4, 2), (113, .iconst 5, 1), (114, .irem, 1), (115, .iconst 1, 1), (116, .invokevirtual 303, 3), (119, .iastore, 1), (120, .aload_n 0, 1), (121, .getfield 107, 3), (124, .bipush 25, 2), (126, .iload_n 2, 1), (127, .imul, 1), (128, .iload 4, 2), (130, .iadd, 1), (131, .aload_n 0, 1), (132, .iload_n 1, 1), (133, .iload_n 3, 1), (134, .aload_n 0, 1), (135, .getfield 104, 3), (138, .bipush 25, 2), (140, .iload_n 2, 1), (141, .imul, 1), (142, .iload 4, 2), (144, .iadd, 1), (145, .iaload, 1), (146, .invokevirtual 307, 3), (149, .iastore, 1), (150, .iinc 4 1, 3), (153, .goto (-67), 3), (156, .iinc 2 1, 3), (159, .goto (-134), 3), (162, .return_, 1)]
set_option maxRecDepth 100000 in
theorem okX12_lays : gj_dok cX12_lays tbX12_lays = true := by decide +kernel
def tbX12_othersMany : List (Nat × Instr × Nat) := [(0, .aload_n 0, 1), (1, .getfield 37, 3), (4, .iconst 0, 1), (5, .aaload, 1), (6, .iconst 1, 1), (7, .aload_n 0, 1), (8, .getfield 320, 3), (11, .iconst 4, 1), (12, .idiv, 1), (13, .isub, 1), (14, .iaload, 1), (15, .ireturn, 1)]
set_option maxRecDepth 100000 in
theorem okX12_othersMany : gj_dok cX12_othersMany tbX12_othersMany = true := by decide +kernel
def tbX12_with : List (Nat × Instr × Nat) := [(0, .bipush 25, 2), (2, .iload_n 1, 1), (3, .imul, 1), (4, .iconst 5, 1), (5, .aload_n 0, 1), (6, .getfield 98, 3), (9, .iload_n 1, 1), (10, .iaload, 1), (11, .imul, 1), (12, .iadd, 1), (13, .aload_n 0, 1), (14, .getfield 101, 3), (17, .iload_n 1, 1), (18, .iaload, 1), (19, .iadd, 1), (20, .istore 4, 2), (22, .aload_n 0, 1), (23, .getfield 104, 3), (26, .iload 4, 2), (28, .iaload, 1), (29, .istore 5, 2), (31, .aload_n 0, 1), (32, .getfield 107, 3), (35, .iload 4, 2), (37, .iaload, 1), (38, .iload_n 2, 1), (39, .aload_n 0, 1), (40, .getfield 34, 3), (43, .iconst 0, 1), (44, .aaload, 1), (45, .iconst 2, 1), (46, .iaload, 1), (47, .if_icmp .lt 18, 3), (50, .sipush 1000, 3), (53, .aload_n 0, 1), (54, .getfield 34, 3), (57, .iconst 0, 1), (58, .aaload, 1), (59, .iconst 3, 1), (60, .iaload, 1), (61, .imul, 1), (62, .goto 4, 3), (65, .iconst 0, 1), (66, .iadd, 1), (67, .istore 6, 2), (69, .aload_n 0, 1), (70, .getfield 98, 3), (73, .iload_n 1, 1), (74, .iaload, 1), (75, .istore 7, 2), (77, .aload_n 0, 1), (78, .getfield 101, 3), (81, .iload_n 1, 1), (82, .iaload, 1), (83, .istore 8, 2), (85, .aload_n 0, 1), (86, .getfield 98, 3), (89, .iload_n 1, 1), (90, .iconst 4, 1), (91, .iload 7, 2), (93, .iconst 1, 1), (94, .iadd, 1), (95, .invokestatic 325, 3), (98, .iastore, 1), (99, .iload 5, 2), (101, .i2l, 1), (102, .aload_n 0, 1), (103, .iload_n 1, 1), (104, .iload_n 2, 1), (105, .iconst 1, 1), (106, .iadd, 1), (107, .iload_n 3, 1), (108, .iconst 1, 1), (109, .isub, 1), (110, .invokevirtual 330, 3), (113, .i2l, 1), (114, .lmul, 1), (115, .lstore 9, 2), (117, .aload_n 0, 1), (118, .getfield 98, 3), (121, .iload_n 1, 1), (122, .iload 7, 2), (124, .iastore, 1), (125, .aload_n 0, 1), (126, .getfield 101, 3), (129, .iload_n 1, 1), (130, .iconst 4, 1), (131, .iload 8, 2), (133, .iconst 1, 1), (134, .iadd, 1), (135, .invokestatic 325, 3), (138, .iastore, 1), (139, .lload 9, 2), (141, .sipush 1000, 3), (144, .iload 5, 2), (146, .isub, 1), (147, .i2l, 1), (148, .aload_n 0, 1), (149, .iload_n 1, 1), (150, .iload_n 2, 1), (151, .iconst 1, 1), (152, .iadd, 1), (153, .iload_n 3, 1), (154, .iconst 1, 1), (155, .isub, 1), (156, .invokevirtual 330, 3), (159, .i2l, 1), (160, .lmul, 1), (161, .ladd, 1), (162, .lstore 9, 2), (164, .aload_n 0, 1), (165, .getfield 101, 3), (168, .iload_n 1, 1), (169, .iload 8, 2), (171, .iastore, 1), (172, .iload 6, 2), (174, .lload 9, 2), (176, .ldc2_w 299, 3), (179, .ldiv, 1), (180, .l2i, 1), (181, .iadd, 1), (182, .ireturn, 1)]
set_option maxRecDepth 100000 in
theorem okX12_with : gj_dok cX12_with tbX12_with = true := by decide +kernel
def tbX12_by : List (Nat × Instr × Nat) := [(0, .iload_n 1, 1), (1, .iconst (-1), 1), (2, .if_icmp .eq 20, 3), (5, .iload 4, 2), (7, .iload_n 1, 1), (8, .if_icmp .eq 14, 3), (11, .sipush 1000, 3), (14, .aload_n 0, 1), (15, .getfield 323, 3), (18, .imul, 1), (19, .goto 4, 3), (22, .iconst 0, 1), (23, .istore 5, 2), (25, .iload 4, 2), (27, .iconst (-1), 1), (28, .if_icmp .ne 32, 3), (31, .sipush 1000, 3), (34, .aload_n 0, 1), (35, .getfield 19, 3), (38, .iconst 0, 1), (39, .aaload, 1), (40, .aload_n 0, 1), (41, .getfield 320, 3), (44, .iaload, 1), (45, .imul, 1), (46, .iload 5, 2), (48, .isub, 1), (49, .aload_n 0, 1), (50, .iconst (-1), 1), (51, .iconst 0, 1), (52, .iload_n 3, 1), (53, .iconst 1, 1), (54, .isub, 1), (55, .invokevirtual 330, 3), (58, .iadd, 1), (59, .ireturn, 1), (60, .aload_n 0, 1), (61, .iload 4, 2), (63, .iload 4, 2), (65, .iload_n 1, 1), (66, .if_icmp .ne 7, 3), (69, .iload_n 2, 1), (70, .goto 4, 3), (73, .iconst 0, 1), (74, .iload_n 3, 1), (75, .invokevirtual 332, 3), (78, .iload 5, 2), (80, .isub, 1), (81, .ireturn, 1)]
set_option maxRecDepth 100000 in
theorem okX12_by : gj_dok cX12_by tbX12_by = true := by decide +kernel
def tbX12_worth : List (Nat × Instr × Nat) := [(0, .iload_n 3, 1), (1, .ifCond .ne 5, 3), (4, .iconst 0, 1), (5, .ireturn, 1), (6, .iload_n 1, 1), (7, .istore 4, 2), (9, .aload_n 0, 1), (10, .iload_n 1, 1), (11, .iload_n 2, 1), (12, .iload_n 3, 1), (13, .iload_n 1, 1), (14, .invokevirtual 335, 3), (17, .istore 5, 2), (19, .iload_n 1, 1), (20, .iconst (-1), 1), (21, .if_icmp .ne 7, 3), (24, .iconst 0, 1), (25, .goto 4, 3), (28, .iconst (-1), 1), (29, .istore 6, 2), (31, .iload 6, 2), (33, .aload_n 0, 1), (34, .invokevirtual 339, 3), (37, .if_icmp .ge 62, 3), (40, .iload 6, 2), (42, .iload_n 1, 1), (43, .if_icmp .eq 50, 3), (46, .iload 6, 2), (48, .iconst (-1), 1), (49, .if_icmp .eq 15, 3), (52, .iload 6, 2), (54, .aload_n 0, 1), (55, .getfield 110, 3), (58, .if_icmp .ne 6, 3), (61, .goto 32, 3), (64, .aload_n 0, 1), (65, .iload_n 1, 1), (66, .iload_n 2, 1), (67, .iload_n 3, 1), (68, .iload 6, 2), (70, .invokevirtual 335, 3), (73, .istore 7, 2), (75, .iload 7, 2), (77, .iload 5, 2), (79, .if_icmp .gt 6, 3), (82, .goto 11, 3), (85, .iload 7, 2), (87, .istore 5, 2), (89, .iload 6, 2), (91, .istore 4, 2), (93, .iinc 6 1, 3), (96, .goto (-65), 3), (99, .aload_n 0, 1), (100, .iload 4, 2), (102, .putfield 342, 3), (105, .iload 5, 2), (107, .ireturn, 1)]
set_option maxRecDepth 100000 in
theorem okX12_worth : gj_dok cX12_worth tbX12_worth = true := by decide +kernel
def tbX12_mateOf : List (Nat × Instr × Nat) := [(0, .aload_n 0, 1), (1, .getfield 77, 3), (4, .iload_n 1, 1), (5, .iaload, 1), (6, .iconst (-1), 1), (7, .if_icmp .ne 7, 3), (10, .iconst (-1), 1), (11, .goto 11, 3), (14, .aload_n 0, 1), (15, .getfield 77, 3), (18, .iload_n 1, 1), (19, .iaload, 1), (20, .iconst 4, 1), (21, .irem, 1), (22, .ireturn, 1)]
set_option maxRecDepth 100000 in
theorem okX12_mateOf : gj_dok cX12_mateOf tbX12_mateOf = true := by decide +kernel
def tbX12_bestOf : List (Nat × Instr × Nat) := [(0, .aload_n 0, 1), (1, .iload_n 1, 1), (2, .invokevirtual 345, 3), (5, .aload_n 0, 1), (6, .aload_n 0, 1), (7, .iload_n 1, 1), (8, .invokevirtual 348, 3), (11, .aload_n 0, 1), (12, .getfield 77, 3), (15, .iload_n 1, 1), (16, .iaload, 1), (17, .iconst (-1), 1), (18, .if_icmp .ne 7, 3), (21, .iconst 0, 1), (22, .goto 9, 3), (25, .aload_n 0, 1), (26, .getfield 80, 3), (29, .iload_n 1, 1), (30, .iaload, 1), (31, .iload_n 2, 1), (32, .invokevirtual 330, 3), (35, .ireturn, 1)]
set_option maxRecDepth 100000 in
theorem okX12_bestOf : gj_dok cX12_bestOf tbX12_bestOf = true := by decide +kernel
def tbX12_toldOf : List (Nat × Instr × Nat) := [(0, .iload_n 2, 1), (1, .iconst (-1), 1), (2, .if_icmp .ne 7, 3), (5, .iconst (-1), 1), (6, .goto 15, 3), (9, .iconst 4, 1), (10, .iconst 1, 1), (11, .iload_n 1, 1), (12, .iconst 4, 1), (13, .idiv, 1), (14, .isub, 1), (15, .imul, 1), (16, .iload_n 2, 1), (17, .iadd, 1), (18, .invokestatic 285, 3), (21, .ireturn, 1)]
set_option maxRecDepth 100000 in
theorem okX12_toldOf : gj_dok cX12_toldOf tbX12_toldOf = true := by decide +kernel
def tbX12_areMays : List (Nat × Instr × Nat) := [(0, .iload_n 0, 1), (1, .i2l, 1), (2, .lconst 1, 1), (3, .ldc2_w 351, 3), (6, .invokestatic 158, 3), (9, .ireturn, 1)]
set_option maxRecDepth 100000 in
theorem okX12_areMays : gj_dok cX12_areMays tbX12_areMays = true := by decide +kernel
def tbX12_best : List (Nat × Instr × Nat) := [(0, .aload_n 0, 1), (1, .iload_n 1, 1), (2, .invokevirtual 281, 3), (5, .istore 4, 2), (7, .iload 4, 2), (9, .iconst (-1), 1), (10, .if_icmp .eq 20, 3), (13, .iload_n 2, 1), (14, .invokestatic 353, 3), (17, .ifCond .eq 13, 3), (20, .iload_n 3, 1), (21, .i2l, 1), (22, .lconst 0, 1), (23, .lconst 1, 1), (24, .invokestatic 158, 3), (27, .ifCond .ne 7, 3), (30, .ldc_w 284, 3), (33, .ireturn, 1), (34, .aload_n 0, 1), (35, .iload 4, 2), (37, .iload_n 2, 1), (38, .invokevirtual 356, 3), (41, .istore 5, 2), (43, .iload_n 3, 1), (44, .ifCond .ne 8, 3), (47, .iload 5, 2), (49, .goto 13, 3), (52, .aload_n 0, 1), (53, .iload 4, 2), (55, .aload_n 0, 1), (56, .getfield 342, 3), (59, .invokevirtual 359, 3), (62, .ireturn, 1)]
set_option maxRecDepth 100000 in
theorem okX12_best : gj_dok cX12_best tbX12_best = true := by decide +kernel
def tbX12_act : List (Nat × Instr × Nat) := [(0, .aload_n 0, 1), (1, .iload_n 1, 1), (2, .invokevirtual 281, 3), (5, .istore 4, 2), (7, .aload_n 0, 1), (8, .iload_n 3, 1), (9, .invokevirtual 281, 3), (12, .istore 5, 2), (14, .iload 4, 2), (16, .iconst (-1), 1), (17, .if_icmp .eq 25, 3), (20, .iload_n 2, 1), (21, .invokestatic 353, 3), (24, .ifCond .eq 18, 3), (27, .iload_n 3, 1), (28, .iconst (-1), 1), (29, .if_icmp .eq 17, 3), (32, .iload 4, 2), (34, .iload 5, 2), (36, .invokestatic 288, 3), (39, .ifCond .ne 7, 3), (42, .ldc_w 284, 3), (45, .ireturn, 1), (46, .aload_n 0, 1), (47, .iload 4, 2), (49, .invokevirtual 345, 3), (52, .aload_n 0, 1), (53, .aload_n 0, 1), (54, .iload 4, 2), (56, .invokevirtual 348, 3), (59, .aload_n 0, 1), (60, .getfield 77, 3), (63, .iload 4, 2), (65, .iaload, 1), (66, .iconst (-1), 1), (67, .if_icmp .ne 7, 3), (70, .iconst 0, 1), (71, .goto 10, 3), (74, .aload_n 0, 1), (75, .getfield 80, 3), (78, .iload 4, 2), (80, .iaload, 1), (81, .iload_n 2, 1), (82, .iload_n 3, 1), (83, .iconst (-1), 1), (84, .if_icmp .ne 7, 3), (87, .iconst (-1), 1), (88, .goto 7, 3), (91, .iload 5, 2), (93, .iconst 4, 1), (94, .irem, 1), (95, .invokevirtual 335, 3), (98, .ireturn, 1)]
set_option maxRecDepth 100000 in
theorem okX12_act : gj_dok cX12_act tbX12_act = true := by decide +kernel
def tbX12_isSilent : List (Nat × Instr × Nat) := [(0, .aload_n 0, 1), (1, .getfield 77, 3), (4, .iload_n 1, 1), (5, .iaload, 1), (6, .iconst (-1), 1), (7, .if_icmp .ne 5, 3), (10, .iconst 0, 1), (11, .ireturn, 1), (12, .aload_n 0, 1), (13, .iload_n 1, 1), (14, .iload_n 2, 1), (15, .invokevirtual 356, 3), (18, .istore_n 3, 1), (19, .aload_n 0, 1), (20, .getfield 342, 3), (23, .aload_n 0, 1), (24, .iload_n 1, 1), (25, .invokevirtual 348, 3), (28, .if_icmp .eq 7, 3), (31, .iconst 1, 1), (32, .goto 4, 3), (35, .iconst 0, 1), (36, .ireturn, 1)]
set_option maxRecDepth 100000 in
theorem okX12_isSilent : gj_dok cX12_isSilent tbX12_isSilent = true := by decide +kernel
def tbX12_silent : List (Nat × Instr × Nat) := [(0, .aload_n 0, 1), (1, .iload_n 1, 1), (2, .invokevirtual 281, 3), (5, .istore_n 3, 1), (6, .iload_n 3, 1), (7, .iconst (-1), 1), (8, .if_icmp .eq 10, 3), (11, .iload_n 2, 1), (12, .invokestatic 353, 3), (15, .ifCond .ne 7, 3), (18, .iconst (-1), 1), (19, .goto 17, 3), (22, .aload_n 0, 1), (23, .iload_n 3, 1), (24, .iload_n 2, 1), (25, .invokevirtual 362, 3), (28, .ifCond .eq 7, 3), (31, .iconst 1, 1), (32, .goto 4, 3), (35, .iconst 0, 1), (36, .ireturn, 1)]
set_option maxRecDepth 100000 in
theorem okX12_silent : gj_dok cX12_silent tbX12_silent = true := by decide +kernel
def tbX12_bar : List (Nat × Instr × Nat) := [(0, .aload_n 0, 1), (1, .iload_n 1, 1), (2, .invokevirtual 281, 3), (5, .istore 5, 2), (7, .aload_n 0, 1), (8, .iload_n 2, 1), (9, .invokevirtual 281, 3), (12, .istore 6, 2), (14, .iload 5, 2), (16, .iload 6, 2), (18, .invokestatic 288, 3), (21, .ifCond .eq 23, 3), (24, .iload_n 3, 1), (25, .i2l, 1), (26, .lconst 1, 1), (27, .ldc2_w 365, 3), (30, .invokestatic 158, 3), (33, .ifCond .eq 11, 3), (36, .iload 4, 2), (38, .invokestatic 353, 3), (41, .ifCond .ne 5, 3), (44, .iconst (-1), 1), (45, .ireturn, 1), (46, .aload_n 0, 1), (47, .iload 5, 2), (49, .invokevirtual 345, 3), (52, .iload 6, 2), (54, .iconst 4, 1), (55, .irem, 1), (56, .istore 7, 2), (58, .iconst 0, 1), (59, .istore 8, 2), (61, .iload 8, 2), (63, .iload_n 3, 1), (64, .if_icmp .gt 60, 3), (67, .aload_n 0, 1), (68, .getfield 98, 3), (71, .iload 7, 2), (73, .iconst 4, 1), (74, .iload 8, 2), (76, .invokestatic 325, 3), (79, .iastore, 1), (80, .aload_n 0, 1), (81, .getfield 101, 3), (84, .iload 7, 2), (86, .iconst 4, 1), (87, .iload_n 3, 1), (88, .iload 8, 2), (90, .isub, 1), (91, .invokestatic 325, 3), (94, .iastore, 1), (95, .aload_n 0, 1), (96, .iload 7, 2), (98, .iload_n 3, 1), (99, .iload 4, 2), (101, .invokevirtual 330, 3), (104, .istore 9, 2), (106, .aload_n 0, 1), (107, .getfield 342, 3), (110, .iload 7, 2), (112, .if_icmp .ne 6, 3), (115, .iload 8, 2), (117, .ireturn, 1), (118, .iinc 8 1, 3), (121, .goto (-60), 3), (124, .iconst (-1), 1), (125, .ireturn, 1)]
set_option maxRecDepth 100000 in
theorem okX12_bar : gj_dok cX12_bar tbX12_bar = true := by decide +kernel
def tbX12_price : List (Nat × Instr × Nat) := [(0, .aload_n 0, 1), (1, .iload_n 1, 1), (2, .invokevirtual 281, 3), (5, .istore_n 3, 1), (6, .iload_n 3, 1), (7, .iconst (-1), 1), (8, .if_icmp .eq 20, 3), (11, .iload_n 2, 1), (12, .invokestatic 353, 3), (15, .ifCond .eq 13, 3), (18, .aload_n 0, 1), (19, .getfield 77, 3), (22, .iload_n 3, 1), (23, .iaload, 1), (24, .iconst (-1), 1), (25, .if_icmp .ne 5, 3), (28, .iconst (-1), 1), (29, .ireturn, 1), (30, .aload_n 0, 1), (31, .iload_n 3, 1), (32, .invokevirtual 345, 3), (35, .iconst 0, 1), (36, .istore 4, 2), (38, .iload 4, 2), (40, .sipush 999, 3), (43, .if_icmp .gt 48, 3), (46, .aload_n 0, 1), (47, .iload 4, 2), (49, .putfield 323, 3), (52, .aload_n 0, 1), (53, .aload_n 0, 1), (54, .iload_n 3, 1), (55, .invokevirtual 348, 3), (58, .aload_n 0, 1), (59, .getfield 80, 3), (62, .iload_n 3, 1), (63, .iaload, 1), (64, .iload_n 2, 1), (65, .invokevirtual 330, 3), (68, .istore 5, 2), (70, .aload_n 0, 1), (71, .getfield 342, 3), (74, .aload_n 0, 1), (75, .iload_n 3, 1), (76, .invokevirtual 348, 3), (79, .if_icmp .ne 6, 3), (82, .iload 4, 2), (84, .ireturn, 1), (85, .iinc 4 1, 3), (88, .goto (-50), 3), (91, .iconst (-1), 1), (92, .ireturn, 1)]
set_option maxRecDepth 100000 in
theorem okX12_price : gj_dok cX12_price tbX12_price = true := by decide +kernel
def tbX12_waits : List (Nat × Instr × Nat) := [(0, .aload_n 0, 1), (1, .iload_n 1, 1), (2, .invokevirtual 281, 3), (5, .istore 4, 2), (7, .aload_n 0, 1), (8, .iload_n 2, 1), (9, .invokevirtual 281, 3), (12, .istore 5, 2), (14, .iload 4, 2), (16, .iload 5, 2), (18, .invokestatic 288, 3), (21, .ifCond .eq 29, 3), (24, .iload_n 3, 1), (25, .i2l, 1), (26, .ldc2_w 156, 3), (29, .ldc2_w 351, 3), (32, .invokestatic 158, 3), (35, .ifCond .eq 15, 3), (38, .aload_n 0, 1), (39, .getfield 77, 3), (42, .iload 4, 2), (44, .iaload, 1), (45, .iload 5, 2), (47, .if_icmp .ne 7, 3), (50, .ldc_w 284, 3), (53, .ireturn, 1), (54, .aload_n 0, 1), (55, .iload 4, 2), (57, .invokevirtual 345, 3), (60, .aload_n 0, 1), (61, .iload 5, 2), (63, .iconst 4, 1), (64, .irem, 1), (65, .putfield 110, 3), (68, .aload_n 0, 1), (69, .aload_n 0, 1), (70, .iload 4, 2), (72, .invokevirtual 348, 3), (75, .aload_n 0, 1), (76, .getfield 77, 3), (79, .iload 4, 2), (81, .iaload, 1), (82, .iconst (-1), 1), (83, .if_icmp .ne 7, 3), (86, .iconst 0, 1), (87, .goto 10, 3), (90, .aload_n 0, 1), (91, .getfield 80, 3), (94, .iload 4, 2), (96, .iaload, 1), (97, .iload_n 3, 1), (98, .invokevirtual 330, 3), (101, .istore 6, 2), (103, .sipush 1000, 3), (106, .aload_n 0, 1), (107, .getfield 19, 3), (110, .iconst 0, 1), (111, .aaload, 1), (112, .iload 4, 2), (114, .iaload, 1), (115, .imul, 1), (116, .iload_n 3, 1), (117, .iconst 1, 1), (118, .isub, 1), (119, .aload_n 0, 1), (120, .iload 4, 2), (122, .iload 5, 2), (124, .invokevirtual 311, 3), (127, .imul, 1), (128, .iadd, 1), (129, .aload_n 0, 1), (130, .getfield 77, 3), (133, .iload 4, 2), (135, .iaload, 1), (136, .iconst (-1), 1), (137, .if_icmp .ne 7, 3), (140, .iconst 0, 1), (141, .goto 11, 3), (144, .sipush 1000, 3), (147, .aload_n 0, 1), (148, .getfield 323, 3), (151, .imul, 1), (152, .isub, 1), (153, .istore 7, 2), (155, .iload 7, 2), (157, .iload 6, 2), (159, .isub, 1), (160, .ireturn, 1)]
set_option maxRecDepth 100000 in
theorem okX12_waits : gj_dok cX12_waits tbX12_waits = true := by decide +kernel
def tbX12_lot : List (Nat × Instr × Nat) := [(0, .aload_n 0, 1), (1, .aload_n 0, 1), (2, .getfield 270, 3), (5, .ldc2_w 367, 3), (8, .lmul, 1), (9, .ldc2_w 369, 3), (12, .ladd, 1), (13, .ldc2_w 371, 3), (16, .land, 1), (17, .putfield 270, 3), (20, .aload_n 0, 1), (21, .getfield 270, 3), (24, .ldc2_w 373, 3), (27, .ldiv, 1), (28, .iload_n 1, 1), (29, .i2l, 1), (30, .lrem, 1), (31, .l2i, 1), (32, .ireturn, 1)]
set_option maxRecDepth 100000 in
theorem okX12_lot : gj_dok cX12_lot tbX12_lot = true := by decide +kernel
def tbX12_gives : List (Nat × Instr × Nat) := [(0, .aload_n 0, 1), (1, .getfield 114, 3), (4, .iload_n 1, 1), (5, .iload_n 2, 1), (6, .iastore, 1), (7, .aload_n 0, 1), (8, .getfield 114, 3), (11, .iload_n 2, 1), (12, .iload_n 1, 1), (13, .iastore, 1), (14, .return_, 1)]
set_option maxRecDepth 100000 in
theorem okX12_gives : gj_dok cX12_gives tbX12_gives = true := by decide +kernel
def tbX12_asks : List (Nat × Instr × Nat) := [(0, .iconst 0, 1), (1, .istore_n 2, 1), (2, .iload_n 2, 1), (3, .bipush 16, 2), (5, .if_icmp .ge 16, 3), (8, .aload_n 0, 1), (9, .getfield 120, 3), (12, .iload_n 2, 1), (13, .iconst 0, 1), (14, .iastore, 1), (15, .iinc 2 1, 3), (18, .goto (-16), 3), (21, .iconst 1, 1), (22, .istore_n 2, 1), (23, .iload_n 2, 1), (24, .ifCond .eq 246, 3), (27, .iconst 0, 1), (28, .istore_n 2, 1), (29, .iconst 0, 1), (30, .istore_n 3, 1), (31, .iload_n 3, 1), (32, .aload_n 0, 1), (33, .getfield 37, 3), (36, .iconst 0, 1), (37, .aaload, 1), (38, .iload_n 1, 1), (39, .iaload, 1), (40, .if_icmp .ge 227, 3), (43, .iconst 4, 1), (44, .iload_n 1, 1), (45, .imul, 1), (46, .iload_n 3, 1), (47, .iadd, 1), (48, .istore 4, 2), (50, .aload_n 0, 1), (51, .getfield 117, 3), (54, .iload 4, 2), (56, .iaload, 1), (57, .iconst 1, 1), (58, .if_icmp .eq 203, 3), (61, .aload_n 0, 1), (62, .getfield 114, 3), (65, .iload 4, 2), (67, .iaload, 1), (68, .iconst (-1), 1), (69, .if_icmp .eq 6, 3), (72, .goto 189, 3), (75, .iconst (-1), 1), (76, .istore 5, 2), (78, .iconst 0, 1), (79, .istore 6, 2), (81, .iload 6, 2), (83, .aload_n 0, 1), (84, .getfield 37, 3), (87, .iconst 0, 1), (88, .aaload, 1), (89, .iconst 1, 1), (90, .iload_n 1, 1), (91, .isub, 1), (92, .iaload, 1), (93, .if_icmp .ge 78, 3), (96, .iconst 4, 1), (97, .iconst 1, 1), (98, .iload_n 1, 1), (99, .isub, 1), (100, .imul, 1), (101, .iload 6, 2), (103, .iadd, 1), (104, .istore 7, 2), (106, .aload_n 0, 1), (107, .getfield 117, 3), (110, .iload 7, 2), (112, .iaload, 1), (113, .ifCond .ne 52, 3), (116, .aload_n 0, 1), (117, .getfield 120, 3), (120, .iload 4, 2), (122, .iload 7, 2), (124, .invokestatic 292, 3), (127, .iaload, 1), (128, .ifCond .ne 37, 3), (131, .aload_n 0, 1), (132, .iload 4, 2), (134, .iload 7, 2), (136, .invokevirtual 375, 3), (139, .ifCond .eq 26, 3), (142, .iload 5, 2), (144, .iconst (-1), 1), (145, .if_icmp .eq 16, 3), (148, .aload_n 0, 1), (149, .iload 4, 2), (151, .iload 7, 2), (153, .iload 5, 2), (155, .invokevirtual 314, 3), (158, .ifCond .eq 7, 3), (161, .iload 7, 2), (163, .istore 5, 2), (165, .iinc 6 1, 3), (168, .goto (-87), 3), (171, .iload 5, 2), (173, .iconst (-1), 1), (174, .if_icmp .ne 6, 3), (177, .goto 84, 3), (180, .iconst 1, 1), (181, .istore_n 2, 1), (182, .aload_n 0, 1), (183, .getfield 114, 3), (186, .iload 5, 2), (188, .iaload, 1), (189, .istore 6, 2), (191, .iload 6, 2), (193, .iconst (-1), 1), (194, .if_icmp .eq 16, 3), (197, .aload_n 0, 1), (198, .iload 5, 2), (200, .iload 4, 2), (202, .iload 6, 2), (204, .invokevirtual 314, 3), (207, .ifCond .eq 41, 3), (210, .iload 6, 2), (212, .iconst (-1), 1), (213, .if_icmp .eq 24, 3), (216, .aload_n 0, 1), (217, .getfield 114, 3), (220, .iload 6, 2), (222, .iconst (-1), 1), (223, .iastore, 1), (224, .aload_n 0, 1), (225, .getfield 120, 3), (228, .iload 6, 2), (230, .iload 5, 2), (232, .invokestatic 292, 3), (235, .iconst 1, 1), (236, .iastore, 1), (237, .aload_n 0, 1), (238, .iload 4, 2), (240, .iload 5, 2), (242, .invokevirtual 378, 3), (245, .goto 16, 3), (248, .aload_n 0, 1), (249, .getfield 120, 3), (252, .iload 4, 2), (254, .iload 5, 2), (256, .invokestatic 292, 3), (259, .iconst 1, 1), (260, .iastore, 1), (261, .iinc 3 1, 3), (264, .goto (-233), 3), (267, .goto (-244), 3), (270, .return_, 1)]
set_option maxRecDepth 100000 in
theorem okX12_asks : gj_dok cX12_asks tbX12_asks = true := by decide +kernel
def tbX12_inTurn : List (Nat × Instr × Nat) := [(0, .iconst 0, 1), (1, .istore_n 1, 1), (2, .iload_n 1, 1), (3, .aload_n 0, 1), (4, .getfield 37, 3), (7, .iconst 0, 1), (8, .aaload, 1), (9, .iconst 0, 1), (10, .iaload, 1), (11, .if_icmp .ge 102, 3), (14, .aload_n 0, 1), (15, .getfield 117, 3), (18, .iload_n 1, 1), (19, .iaload, 1), (20, .iconst 1, 1), (21, .if_icmp .ne 6, 3), (24, .goto 83, 3), (27, .iconst (-1), 1), (28, .istore_n 2, 1), (29, .iconst 4, 1), (30, .istore_n 3, 1), (31, .iload_n 3, 1), (32, .iconst 4, 1), (33, .aload_n 0, 1), (34, .getfield 37, 3), (37, .iconst 0, 1), (38, .aaload, 1), (39, .iconst 1, 1), (40, .iaload, 1), (41, .iadd, 1), (42, .if_icmp .ge 54, 3), (45, .aload_n 0, 1), (46, .getfield 117, 3), (49, .iload_n 3, 1), (50, .iaload, 1), (51, .ifCond .ne 39, 3), (54, .aload_n 0, 1), (55, .getfield 114, 3), (58, .iload_n 3, 1), (59, .iaload, 1), (60, .iconst (-1), 1), (61, .if_icmp .ne 29, 3), (64, .aload_n 0, 1), (65, .iload_n 1, 1), (66, .iload_n 3, 1), (67, .invokevirtual 375, 3), (70, .ifCond .eq 20, 3), (73, .iload_n 2, 1), (74, .iconst (-1), 1), (75, .if_icmp .eq 13, 3), (78, .aload_n 0, 1), (79, .iload_n 1, 1), (80, .iload_n 3, 1), (81, .iload_n 2, 1), (82, .invokevirtual 314, 3), (85, .ifCond .eq 5, 3), (88, .iload_n 3, 1), (89, .istore_n 2, 1), (90, .iinc 3 1, 3), (93, .goto (-62), 3), (96, .iload_n 2, 1), (97, .iconst (-1), 1), (98, .if_icmp .eq 9, 3), (101, .aload_n 0, 1), (102, .iload_n 1, 1), (103, .iload_n 2, 1), (104, .invokevirtual 378, 3), (107, .iinc 1 1, 3), (110, .goto (-108), 3), (113, .return_, 1)]
set_option maxRecDepth 100000 in
theorem okX12_inTurn : gj_dok cX12_inTurn tbX12_inTurn = true := by decide +kernel
def tbX12_byLot : List (Nat × Instr × Nat) := [(0, .iconst 0, 1), (1, .istore_n 1, 1), (2, .iload_n 1, 1), (3, .aload_n 0, 1), (4, .getfield 37, 3), (7, .iconst 0, 1), (8, .aaload, 1), (9, .iconst 0, 1), (10, .iaload, 1), (11, .if_icmp .ge 171, 3), (14, .aload_n 0, 1), (15, .getfield 117, 3), (18, .iload_n 1, 1), (19, .iaload, 1), (20, .iconst 1, 1), (21, .if_icmp .ne 6, 3), (24, .goto 152, 3), (27, .iconst 0, 1), (28, .istore_n 2, 1), (29, .iconst 4, 1), (30, .istore_n 3, 1), (31, .iload_n 3, 1), (32, .iconst 4, 1), (33, .aload_n 0, 1), (34, .getfield 37, 3), (37, .iconst 0, 1), (38, .aaload, 1), (39, .iconst 1, 1), (40, .iaload, 1), (41, .iadd, 1), (42, .if_icmp .ge 45, 3), (45, .iload_n 2, 1), (46, .aload_n 0, 1), (47, .getfield 117, 3), (50, .iload_n 3, 1), (51, .iaload, 1), (52, .ifCond .ne 26, 3), (55, .aload_n 0, 1), (56, .getfield 114, 3), (59, .iload_n 3, 1), (60, .iaload, 1), (61, .iconst (-1), 1), (62, .if_icmp .ne 16, 3), (65, .aload_n 0, 1), (66, .iload_n 1, 1), (67, .iload_n 3, 1), (68, .invokevirtual 375, 3), (71, .ifCond .eq 7, 3), (74, .iconst 1, 1), (75, .goto 4, 3), (78, .iconst 0, 1), (79, .iadd, 1), (80, .istore_n 2, 1), (81, .iinc 3 1, 3), (84, .goto (-53), 3), (87, .iload_n 2, 1), (88, .ifCond .ne 6, 3), (91, .goto 85, 3), (94, .aload_n 0, 1), (95, .iload_n 2, 1), (96, .invokevirtual 382, 3), (99, .istore_n 3, 1), (100, .iconst 4, 1), (101, .istore 4, 2), (103, .iload 4, 2), (105, .iconst 4, 1), (106, .aload_n 0, 1), (107, .getfield 37, 3), (110, .iconst 0, 1), (111, .aaload, 1), (112, .iconst 1, 1), (113, .iaload, 1), (114, .iadd, 1), (115, .if_icmp .ge 61, 3), (118, .aload_n 0, 1), (119, .getfield 117, 3), (122, .iload 4, 2), (124, .iaload, 1), (125, .iconst 1, 1), (126, .if_icmp .eq 44, 3), (129, .aload_n 0, 1), (130, .getfield 114, 3), (133, .iload 4, 2), (135, .iaload, 1), (136, .iconst (-1), 1), (137, .if_icmp .ne 33, 3), (140, .aload_n 0, 1), (141, .iload_n 1, 1), (142, .iload 4, 2), (144, .invokevirtual 375, 3), (147, .ifCond .ne 6, 3), (150, .goto 20, 3), (153, .iload_n 3, 1), (154, .ifCond .ne 13, 3), (157, .aload_n 0, 1), (158, .iload_n 1, 1), (159, .iload 4, 2), (161, .invokevirtual 378, 3), (164, .goto 12, 3), (167, .iinc 3 (-1), 3), (170, .iinc 4 1, 3), (173, .goto (-70), 3), (176, .iinc 1 1, 3), (179, .goto (-177), 3), (182, .return_, 1)]
set_option maxRecDepth 100000 in
theorem okX12_byLot : gj_dok cX12_byLot tbX12_byLot = true := by decide +kernel
def tbX12_goes : List (Nat × Instr × Nat) := [(0, .iconst 0, 1), (1, .istore_n 2, 1), (2, .iload_n 2, 1), (3, .bipush 8, 2), (5, .if_icmp .ge 16, 3), (8, .aload_n 0, 1), (9, .getfield 114, 3), (12, .iload_n 2, 1), (13, .iconst (-1), 1), (14, .iastore, 1), (15, .iinc 2 1, 3), (18, .goto (-16), 3), (21, .iload_n 1, 1), (22, .iconst 2, 1), (23, .if_icmp .ge 11, 3), (26, .aload_n 0, 1), (27, .iload_n 1, 1), (28, .invokevirtual 385, 3), (31, .goto 19, 3), (34, .iload_n 1, 1), (35, .iconst 2, 1), (36, .if_icmp .ne 10, 3), (39, .aload_n 0, 1), (40, .invokevirtual 388, 3), (43, .goto 7, 3), (46, .aload_n 0, 1), (47, .invokevirtual 391, 3), (50, .return_, 1)]
set_option maxRecDepth 100000 in
theorem okX12_goes : gj_dok cX12_goes tbX12_goes = true := by decide +kernel
def tbX12_way : List (Nat × Instr × Nat) := [(0, .iload_n 1, 1), (1, .i2l, 1), (2, .lconst 0, 1), (3, .ldc2_w 236, 3), (6, .invokestatic 158, 3), (9, .ifCond .ne 9, 3), (12, .aload_n 0, 1), (13, .iconst 0, 1), (14, .invokevirtual 173, 3), (17, .ireturn, 1), (18, .aload_n 0, 1), (19, .iload_n 1, 1), (20, .putfield 267, 3), (23, .iconst 1, 1), (24, .ireturn, 1)]
set_option maxRecDepth 100000 in
theorem okX12_way : gj_dok cX12_way tbX12_way = true := by decide +kernel
def tbX12_seed : List (Nat × Instr × Nat) := [(0, .iload_n 1, 1), (1, .i2l, 1), (2, .lconst 0, 1), (3, .ldc2_w 394, 3), (6, .invokestatic 158, 3), (9, .ifCond .ne 9, 3), (12, .aload_n 0, 1), (13, .iconst 2, 1), (14, .invokevirtual 173, 3), (17, .ireturn, 1), (18, .aload_n 0, 1), (19, .iload_n 1, 1), (20, .i2l, 1), (21, .putfield 270, 3), (24, .iconst 1, 1), (25, .ireturn, 1)]
set_option maxRecDepth 100000 in
theorem okX12_seed : gj_dok cX12_seed tbX12_seed = true := by decide +kernel
def tbX12_green : List (Nat × Instr × Nat) := [(0, .aload_n 0, 1), (1, .iload_n 2, 1), (2, .invokevirtual 281, 3), (5, .istore_n 3, 1), (6, .iload_n 3, 1), (7, .iconst (-1), 1), (8, .if_icmp .eq 15, 3), (11, .iload_n 1, 1), (12, .i2l, 1), (13, .lconst 0, 1), (14, .ldc2_w 156, 3), (17, .invokestatic 158, 3), (20, .ifCond .ne 7, 3), (23, .ldc_w 284, 3), (26, .ireturn, 1), (27, .iconst 0, 1), (28, .istore 4, 2), (30, .iload 4, 2), (32, .bipush 8, 2), (34, .if_icmp .ge 17, 3), (37, .aload_n 0, 1), (38, .getfield 117, 3), (41, .iload 4, 2), (43, .iconst 0, 1), (44, .iastore, 1), (45, .iinc 4 1, 3), (48, .goto (-18), 3), (51, .aload_n 0, 1), (52, .iload_n 1, 1), (53, .invokevirtual 396, 3), (56, .aload_n 0, 1), (57, .getfield 114, 3), (60, .iload_n 3, 1), (61, .iaload, 1), (62, .iconst (-1), 1), (63, .if_icmp .ne 7, 3), (66, .iconst (-1), 1), (67, .goto 12, 3), (70, .aload_n 0, 1), (71, .getfield 114, 3), (74, .iload_n 3, 1), (75, .iaload, 1), (76, .invokestatic 285, 3), (79, .ireturn, 1)]
set_option maxRecDepth 100000 in
theorem okX12_green : gj_dok cX12_green tbX12_green = true := by decide +kernel
def tbX12_notes : List (Nat × Instr × Nat) := [(0, .aload_n 0, 1), (1, .getfield 274, 3), (4, .bipush 40, 2), (6, .if_icmp .ne 42, 3), (9, .iconst 5, 1), (10, .istore_n 3, 1), (11, .iload_n 3, 1), (12, .sipush 200, 3), (15, .if_icmp .ge 23, 3), (18, .aload_n 0, 1), (19, .getfield 123, 3), (22, .iload_n 3, 1), (23, .iconst 5, 1), (24, .isub, 1), (25, .aload_n 0, 1), (26, .getfield 123, 3), (29, .iload_n 3, 1), (30, .iaload, 1), (31, .iastore, 1), (32, .iinc 3 1, 3), (35, .goto (-24), 3), (38, .aload_n 0, 1), (39, .dup, 1), (40, .getfield 274, 3), (43, .iconst 1, 1), (44, .isub, 1), (45, .putfield 274, 3), (48, .iconst 5, 1), (49, .newarray .int, 2), (51, .dup, 1), (52, .iconst 0, 1), (53, .aload_n 0, 1), (54, .getfield 264, 3), (57, .iastore, 1), (58, .dup, 1), (59, .iconst 1, 1), (60, .iload_n 1, 1), (61, .iastore, 1), (62, .dup, 1), (63, .iconst 2, 1), (64, .aload_n 0, 1), (65, .getfield 77, 3), (68, .iload_n 1, 1), (69, .iaload, 1), (70, .invokestatic 285, 3), (73, .iastore, 1), (74, .dup, 1), (75, .iconst 3, 1), (76, .aload_n 0, 1), (77, .getfield 80, 3), (80, .iload_n 1, 1), (81, .iaload, 1), (82, .iastore, 1), (83, .dup, 1), (84, .iconst 4, 1), (85, .iload_n 2, 1), (86, .iastore, 1), (87, .astore_n 3, 1), (88, .iconst 0, 1), (89, .istore 4, 2), (91, .iload 4, 2), (93, .iconst 5, 1), (94, .if_icmp .ge 27, 3), (97, .aload_n 0, 1), (98, .getfield 123, 3), (101, .iconst 5, 1), (102, .aload_n 0, 1), (103, .getfield 274, 3), (106, .imul, 1), (107, .iload 4, 2), (109, .iadd, 1), (110, .aload_n 3, 1), (111, .iload 4, 2), (113, .iaload, 1), (114, .iastore, 1), (115, .iinc 4 1, 3), (118, .goto (-27), 3), (121, .aload_n 0, 1), (122, .dup, 1), (123, .getfield 274, 3), (126, .iconst 1, 1), (127, .iadd, 1), (128, .putfield 274, 3), (131, .return_, 1)]
set_option maxRecDepth 100000 in
theorem okX12_notes : gj_dok cX12_notes tbX12_notes = true := by decide +kernel
def tbX12_log : List (Nat × Instr × Nat) := [(0, .iload_n 1, 1), (1, .iconst (-1), 1), (2, .if_icmp .ne 8, 3), (5, .aload_n 0, 1), (6, .getfield 274, 3), (9, .ireturn, 1), (10, .iload_n 1, 1), (11, .i2l, 1), (12, .lconst 0, 1), (13, .aload_n 0, 1), (14, .getfield 274, 3), (17, .iconst 1, 1), (18, .isub, 1), (19, .i2l, 1), (20, .invokestatic 158, 3), (23, .ifCond .eq 28, 3), (26, .iload_n 2, 1), (27, .i2l, 1), (28, .lconst 0, 1), (29, .ldc2_w 351, 3), (32, .invokestatic 158, 3), (35, .ifCond .eq 16, 3), (38, .aload_n 0, 1), (39, .getfield 123, 3), (42, .iconst 5, 1), (43, .iload_n 1, 1), (44, .imul, 1), (45, .iload_n 2, 1), (46, .iadd, 1), (47, .iaload, 1), (48, .goto 4, 3), (51, .iconst (-1), 1), (52, .ireturn, 1)]
set_option maxRecDepth 100000 in
theorem okX12_log : gj_dok cX12_log tbX12_log = true := by decide +kernel
def tbX12_joins : List (Nat × Instr × Nat) := [(0, .aload_n 0, 1), (1, .getfield 77, 3), (4, .iload_n 1, 1), (5, .iload_n 2, 1), (6, .iastore, 1), (7, .aload_n 0, 1), (8, .getfield 77, 3), (11, .iload_n 2, 1), (12, .iload_n 1, 1), (13, .iastore, 1), (14, .aload_n 0, 1), (15, .getfield 80, 3), (18, .iload_n 1, 1), (19, .iconst 0, 1), (20, .iastore, 1), (21, .aload_n 0, 1), (22, .getfield 80, 3), (25, .iload_n 2, 1), (26, .iconst 0, 1), (27, .iastore, 1), (28, .aload_n 0, 1), (29, .getfield 83, 3), (32, .iload_n 1, 1), (33, .iconst 0, 1), (34, .iastore, 1), (35, .aload_n 0, 1), (36, .getfield 83, 3), (39, .iload_n 2, 1), (40, .iconst 0, 1), (41, .iastore, 1), (42, .return_, 1)]
set_option maxRecDepth 100000 in
theorem okX12_joins : gj_dok cX12_joins tbX12_joins = true := by decide +kernel
def tbX12_parts : List (Nat × Instr × Nat) := [(0, .aload_n 0, 1), (1, .getfield 77, 3), (4, .aload_n 0, 1), (5, .getfield 77, 3), (8, .iload_n 1, 1), (9, .iaload, 1), (10, .iconst (-1), 1), (11, .iastore, 1), (12, .aload_n 0, 1), (13, .getfield 77, 3), (16, .iload_n 1, 1), (17, .iconst (-1), 1), (18, .iastore, 1), (19, .return_, 1)]
set_option maxRecDepth 100000 in
theorem okX12_parts : gj_dok cX12_parts tbX12_parts = true := by decide +kernel
def tbX12_asked : List (Nat × Instr × Nat) := [(0, .iconst 0, 1), (1, .istore_n 1, 1), (2, .iload_n 1, 1), (3, .bipush 8, 2), (5, .if_icmp .ge 53, 3), (8, .aload_n 0, 1), (9, .getfield 126, 3), (12, .iload_n 1, 1), (13, .iload_n 1, 1), (14, .iconst 4, 1), (15, .irem, 1), (16, .aload_n 0, 1), (17, .getfield 37, 3), (20, .iconst 0, 1), (21, .aaload, 1), (22, .iload_n 1, 1), (23, .iconst 4, 1), (24, .idiv, 1), (25, .iaload, 1), (26, .if_icmp .ge 24, 3), (29, .aload_n 0, 1), (30, .iload_n 1, 1), (31, .aload_n 0, 1), (32, .getfield 34, 3), (35, .iconst 0, 1), (36, .aaload, 1), (37, .bipush 7, 2), (39, .iaload, 1), (40, .invokevirtual 362, 3), (43, .ifCond .eq 7, 3), (46, .iconst 1, 1), (47, .goto 4, 3), (50, .iconst 0, 1), (51, .iastore, 1), (52, .iinc 1 1, 3), (55, .goto (-53), 3), (58, .iconst 0, 1), (59, .istore_n 1, 1), (60, .iload_n 1, 1), (61, .aload_n 0, 1), (62, .getfield 37, 3), (65, .iconst 0, 1), (66, .aaload, 1), (67, .iconst 0, 1), (68, .iaload, 1), (69, .if_icmp .ge 139, 3), (72, .aload_n 0, 1), (73, .getfield 77, 3), (76, .iload_n 1, 1), (77, .iaload, 1), (78, .iconst (-1), 1), (79, .if_icmp .ne 6, 3), (82, .goto 120, 3), (85, .aload_n 0, 1), (86, .getfield 126, 3), (89, .iload_n 1, 1), (90, .iaload, 1), (91, .iconst 2, 1), (92, .aload_n 0, 1), (93, .getfield 126, 3), (96, .aload_n 0, 1), (97, .getfield 77, 3), (100, .iload_n 1, 1), (101, .iaload, 1), (102, .iaload, 1), (103, .imul, 1), (104, .iadd, 1), (105, .istore_n 2, 1), (106, .iload_n 2, 1), (107, .ifCond .ne 31, 3), (110, .aload_n 0, 1), (111, .getfield 83, 3), (114, .iload_n 1, 1), (115, .dup2, 1), (116, .iaload, 1), (117, .iconst 1, 1), (118, .iadd, 1), (119, .iastore, 1), (120, .aload_n 0, 1), (121, .getfield 83, 3), (124, .aload_n 0, 1), (125, .getfield 77, 3), (128, .iload_n 1, 1), (129, .iaload, 1), (130, .dup2, 1), (131, .iaload, 1), (132, .iconst 1, 1), (133, .iadd, 1), (134, .iastore, 1), (135, .goto 67, 3), (138, .iload_n 2, 1), (139, .iconst 1, 1), (140, .iand, 1), (141, .iconst 1, 1), (142, .if_icmp .ne 21, 3), (145, .aload_n 0, 1), (146, .getfield 86, 3), (149, .iload_n 1, 1), (150, .dup2, 1), (151, .iaload, 1), (152, .aload_n 0, 1), (153, .getfield 34, 3), (156, .iconst 0, 1), (157, .aaload, 1), (158, .bipush 6, 2), (160, .iaload, 1), (161, .isub, 1), (162, .iastore, 1), (163, .iload_n 2, 1), (164, .iconst 1, 1), (165, .if_icmp .le 26, 3), (168, .aload_n 0, 1), (169, .getfield 86, 3), (172, .aload_n 0, 1), (173, .getfield 77, 3), (176, .iload_n 1, 1), (177, .iaload, 1), (178, .dup2, 1), (179, .iaload, 1), (180, .aload_n 0, 1), (181, .getfield 34, 3), (184, .iconst 0, 1), (185, .aaload, 1), (186, .bipush 6, 2), (188, .iaload, 1), (189, .isub, 1), (190, .iastore, 1), (191, .aload_n 0, 1), (192, .iload_n 1, 1), (193, .iload_n 2, 1), (194, .invokevirtual 399, 3), (197, .aload_n 0, 1), (198, .iload_n 1, 1), (199, .invokevirtual 402, 3), (202, .iinc 1 1, 3), (205, .goto (-145), 3), (208, .return_, 1)]
set_option maxRecDepth 100000 in
theorem okX12_asked : gj_dok cX12_asked tbX12_asked = true := by decide +kernel
def tbX12_lives_0 : List (Nat × Instr × Nat) := [(0, .aload_n 0, 1), (1, .getfield 77, 3), (4, .iload_n 1, 1), (5, .iaload, 1), (6, .istore_n 2, 1), (7, .iload_n 1, 1), (8, .iload_n 2, 1), (9, .invokestatic 292, 3), (12, .istore_n 3, 1), (13, .aload_n 0, 1), (14, .bipush 16, 2), (16, .invokevirtual 382, 3), (19, .aload_n 0, 1), (20, .getfield 31, 3), (23, .iconst 0, 1), (24, .aaload, 1), (25, .iload_n 3, 1), (26, .iaload, 1), (27, .if_icmp .ge 7, 3), (30, .iconst 1, 1), (31, .goto 4, 3), (34, .iconst 0, 1), (35, .istore 4, 2), (37, .iload 4, 2), (39, .ifCond .eq 14, 3), (42, .aload_n 0, 1), (43, .getfield 34, 3), (46, .iconst 0, 1), (47, .aaload, 1), (48, .iconst 0, 1), (49, .iaload, 1), (50, .goto 11, 3), (53, .aload_n 0, 1), (54, .getfield 34, 3), (57, .iconst 0, 1), (58, .aaload, 1), (59, .iconst 1, 1), (60, .iaload, 1), (61, .aload_n 0, 1), (62, .getfield 80, 3), (65, .iload_n 1, 1), (66, .iaload, 1), (67, .aload_n 0, 1), (68, .getfield 34, 3), (71, .iconst 0, 1), (72, .aaload, 1), (73, .iconst 2, 1), (74, .iaload, 1), (75, .if_icmp .lt 14, 3), (78, .aload_n 0, 1), (79, .getfield 34, 3), (82, .iconst 0, 1), (83, .aaload, 1), (84, .iconst 3, 1), (85, .iaload, 1), (86, .goto 4, 3), (89, .iconst 0, 1), (90, .iadd, 1), (91, .aload_n 0, 1), (92, .getfield 34, 3)]
set_option maxRecDepth 100000 in
theorem okX12_lives_0 : gj_dok cX12_lives tbX12_lives_0 = true := by decide +kernel
def tbX12_lives_1 : List (Nat × Instr × Nat) := [(95, .iconst 0, 1), (96, .aaload, 1), (97, .iconst 5, 1), (98, .iaload, 1), (99, .aload_n 0, 1), (100, .getfield 95, 3), (103, .iload_n 3, 1), (104, .iaload, 1), (105, .imul, 1), (106, .iadd, 1), (107, .istore 5, 2), (109, .aload_n 0, 1), (110, .getfield 86, 3), (113, .iload_n 1, 1), (114, .dup2, 1), (115, .iaload, 1), (116, .iload 5, 2), (118, .iadd, 1), (119, .iastore, 1), (120, .aload_n 0, 1), (121, .getfield 86, 3), (124, .iload_n 2, 1), (125, .dup2, 1), (126, .iaload, 1), (127, .iload 5, 2), (129, .iadd, 1), (130, .iastore, 1), (131, .iload 4, 2), (133, .ifCond .eq 24, 3), (136, .aload_n 0, 1), (137, .getfield 89, 3), (140, .iload_n 3, 1), (141, .iconst 4, 1), (142, .aload_n 0, 1), (143, .getfield 89, 3), (146, .iload_n 3, 1), (147, .iaload, 1), (148, .iconst 1, 1), (149, .iadd, 1), (150, .invokestatic 325, 3), (153, .iastore, 1), (154, .goto 21, 3), (157, .aload_n 0, 1), (158, .getfield 92, 3), (161, .iload_n 3, 1), (162, .iconst 4, 1), (163, .aload_n 0, 1), (164, .getfield 92, 3), (167, .iload_n 3, 1), (168, .iaload, 1), (169, .iconst 1, 1), (170, .iadd, 1), (171, .invokestatic 325, 3), (174, .iastore, 1), (175, .aload_n 0, 1), (176, .bipush 16, 2), (178, .invokevirtual 382, 3), (181, .aload_n 0, 1), (182, .getfield 34, 3), (185, .iconst 0, 1)]
set_option maxRecDepth 100000 in
theorem okX12_lives_1 : gj_dok cX12_lives tbX12_lives_1 = true := by decide +kernel
def tbX12_lives_2 : List (Nat × Instr × Nat) := [(186, .aaload, 1), (187, .iconst 4, 1), (188, .iaload, 1), (189, .if_icmp .ge 22, 3), (192, .aload_n 0, 1), (193, .getfield 95, 3), (196, .iload_n 3, 1), (197, .bipush 99, 2), (199, .aload_n 0, 1), (200, .getfield 95, 3), (203, .iload_n 3, 1), (204, .iaload, 1), (205, .iconst 1, 1), (206, .iadd, 1), (207, .invokestatic 325, 3), (210, .iastore, 1), (211, .aload_n 0, 1), (212, .getfield 80, 3), (215, .iload_n 1, 1), (216, .dup2, 1), (217, .iaload, 1), (218, .iconst 1, 1), (219, .iadd, 1), (220, .iastore, 1), (221, .aload_n 0, 1), (222, .getfield 80, 3), (225, .iload_n 2, 1), (226, .dup2, 1), (227, .iaload, 1), (228, .iconst 1, 1), (229, .iadd, 1), (230, .iastore, 1), (231, .return_, 1)]
set_option maxRecDepth 100000 in
theorem okX12_lives_2 : gj_dok cX12_lives tbX12_lives_2 = true := by decide +kernel
def tbX12_may : List (Nat × Instr × Nat) := [(0, .aload_n 0, 1), (1, .invokevirtual 405, 3), (4, .iconst 0, 1), (5, .istore_n 1, 1), (6, .iload_n 1, 1), (7, .bipush 8, 2), (9, .if_icmp .ge 30, 3), (12, .aload_n 0, 1), (13, .getfield 117, 3), (16, .iload_n 1, 1), (17, .aload_n 0, 1), (18, .getfield 77, 3), (21, .iload_n 1, 1), (22, .iaload, 1), (23, .iconst (-1), 1), (24, .if_icmp .eq 7, 3), (27, .iconst 1, 1), (28, .goto 4, 3), (31, .iconst 0, 1), (32, .iastore, 1), (33, .iinc 1 1, 3), (36, .goto (-30), 3), (39, .aload_n 0, 1), (40, .aload_n 0, 1), (41, .getfield 267, 3), (44, .invokevirtual 396, 3), (47, .iconst 0, 1), (48, .istore_n 1, 1), (49, .iload_n 1, 1), (50, .aload_n 0, 1), (51, .getfield 37, 3), (54, .iconst 0, 1), (55, .aaload, 1), (56, .iconst 0, 1), (57, .iaload, 1), (58, .if_icmp .ge 30, 3), (61, .aload_n 0, 1), (62, .getfield 114, 3), (65, .iload_n 1, 1), (66, .iaload, 1), (67, .iconst (-1), 1), (68, .if_icmp .eq 14, 3), (71, .aload_n 0, 1), (72, .iload_n 1, 1), (73, .aload_n 0, 1), (74, .getfield 114, 3), (77, .iload_n 1, 1), (78, .iaload, 1), (79, .invokevirtual 408, 3), (82, .iinc 1 1, 3), (85, .goto (-36), 3), (88, .iconst 0, 1), (89, .istore_n 1, 1), (90, .iload_n 1, 1), (91, .aload_n 0, 1), (92, .getfield 37, 3), (95, .iconst 0, 1), (96, .aaload, 1), (97, .iconst 0, 1), (98, .iaload, 1), (99, .if_icmp .ge 24, 3), (102, .aload_n 0, 1), (103, .getfield 77, 3), (106, .iload_n 1, 1), (107, .iaload, 1), (108, .iconst (-1), 1), (109, .if_icmp .eq 8, 3), (112, .aload_n 0, 1), (113, .iload_n 1, 1), (114, .invokevirtual 411, 3), (117, .iinc 1 1, 3), (120, .goto (-30), 3), (123, .iconst 0, 1), (124, .istore_n 1, 1), (125, .iload_n 1, 1), (126, .bipush 8, 2), (128, .if_icmp .ge 52, 3), (131, .iload_n 1, 1), (132, .iconst 4, 1), (133, .irem, 1), (134, .aload_n 0, 1), (135, .getfield 37, 3), (138, .iconst 0, 1), (139, .aaload, 1), (140, .iload_n 1, 1), (141, .iconst 4, 1), (142, .idiv, 1), (143, .iaload, 1), (144, .if_icmp .ge 30, 3), (147, .aload_n 0, 1), (148, .getfield 77, 3), (151, .iload_n 1, 1), (152, .iaload, 1), (153, .iconst (-1), 1), (154, .if_icmp .ne 20, 3), (157, .aload_n 0, 1), (158, .getfield 86, 3), (161, .iload_n 1, 1), (162, .dup2, 1), (163, .iaload, 1), (164, .aload_n 0, 1), (165, .getfield 19, 3), (168, .iconst 0, 1), (169, .aaload, 1), (170, .iload_n 1, 1), (171, .iaload, 1), (172, .iadd, 1), (173, .iastore, 1), (174, .iinc 1 1, 3), (177, .goto (-52), 3), (180, .aload_n 0, 1), (181, .dup, 1), (182, .getfield 264, 3), (185, .iconst 1, 1), (186, .iadd, 1), (187, .putfield 264, 3), (190, .return_, 1)]
set_option maxRecDepth 100000 in
theorem okX12_may : gj_dok cX12_may tbX12_may = true := by decide +kernel
def tbX12_may_ : List (Nat × Instr × Nat) := [(0, .aload_n 0, 1), (1, .getfield 260, 3), (4, .ifCond .eq 15, 3), (7, .iload_n 1, 1), (8, .i2l, 1), (9, .lconst 1, 1), (10, .ldc2_w 414, 3), (13, .invokestatic 158, 3), (16, .ifCond .ne 9, 3), (19, .aload_n 0, 1), (20, .iconst 2, 1), (21, .invokevirtual 165, 3), (24, .ireturn, 1), (25, .iconst 0, 1), (26, .istore_n 2, 1), (27, .iload_n 2, 1), (28, .iload_n 1, 1), (29, .if_icmp .ge 13, 3), (32, .aload_n 0, 1), (33, .invokevirtual 416, 3), (36, .iinc 2 1, 3), (39, .goto (-12), 3), (42, .aload_n 0, 1), (43, .getfield 264, 3), (46, .ireturn, 1)]
set_option maxRecDepth 100000 in
theorem okX12_may_ : gj_dok cX12_may_ tbX12_may_ = true := by decide +kernel
def tbX12_join : List (Nat × Instr × Nat) := [(0, .aload_n 0, 1), (1, .iload_n 1, 1), (2, .invokevirtual 281, 3), (5, .istore_n 3, 1), (6, .aload_n 0, 1), (7, .iload_n 2, 1), (8, .invokevirtual 281, 3), (11, .istore 4, 2), (13, .iload_n 3, 1), (14, .iconst (-1), 1), (15, .if_icmp .eq 20, 3), (18, .iload 4, 2), (20, .iconst (-1), 1), (21, .if_icmp .eq 14, 3), (24, .iload_n 3, 1), (25, .iconst 4, 1), (26, .if_icmp .ge 9, 3), (29, .iload 4, 2), (31, .iconst 4, 1), (32, .if_icmp .ge 9, 3), (35, .aload_n 0, 1), (36, .iconst 0, 1), (37, .invokevirtual 173, 3), (40, .ireturn, 1), (41, .aload_n 0, 1), (42, .getfield 77, 3), (45, .iload_n 3, 1), (46, .iaload, 1), (47, .iconst (-1), 1), (48, .if_icmp .ne 14, 3), (51, .aload_n 0, 1), (52, .getfield 77, 3), (55, .iload 4, 2), (57, .iaload, 1), (58, .iconst (-1), 1), (59, .if_icmp .eq 9, 3), (62, .aload_n 0, 1), (63, .iconst 2, 1), (64, .invokevirtual 173, 3), (67, .ireturn, 1), (68, .aload_n 0, 1), (69, .iload_n 3, 1), (70, .iload 4, 2), (72, .invokevirtual 408, 3), (75, .iconst 1, 1), (76, .ireturn, 1)]
set_option maxRecDepth 100000 in
theorem okX12_join : gj_dok cX12_join tbX12_join = true := by decide +kernel
def tbX12_part : List (Nat × Instr × Nat) := [(0, .aload_n 0, 1), (1, .iload_n 1, 1), (2, .invokevirtual 281, 3), (5, .istore_n 2, 1), (6, .iload_n 2, 1), (7, .iconst (-1), 1), (8, .if_icmp .eq 13, 3), (11, .aload_n 0, 1), (12, .getfield 77, 3), (15, .iload_n 2, 1), (16, .iaload, 1), (17, .iconst (-1), 1), (18, .if_icmp .ne 18, 3), (21, .aload_n 0, 1), (22, .iload_n 2, 1), (23, .iconst (-1), 1), (24, .if_icmp .ne 7, 3), (27, .iconst 0, 1), (28, .goto 4, 3), (31, .iconst 2, 1), (32, .invokevirtual 173, 3), (35, .ireturn, 1), (36, .aload_n 0, 1), (37, .iload_n 2, 1), (38, .invokevirtual 402, 3), (41, .iconst 1, 1), (42, .ireturn, 1)]
set_option maxRecDepth 100000 in
theorem okX12_part : gj_dok cX12_part tbX12_part = true := by decide +kernel
def tbX12_isFree : List (Nat × Instr × Nat) := [(0, .aload_n 0, 1), (1, .getfield 77, 3), (4, .iload_n 1, 1), (5, .iaload, 1), (6, .iconst (-1), 1), (7, .if_icmp .eq 18, 3), (10, .aload_n 0, 1), (11, .iload_n 1, 1), (12, .iload_n 2, 1), (13, .aload_n 0, 1), (14, .getfield 77, 3), (17, .iload_n 1, 1), (18, .iaload, 1), (19, .invokevirtual 314, 3), (22, .ifCond .eq 7, 3), (25, .iconst 1, 1), (26, .goto 4, 3), (29, .iconst 0, 1), (30, .ireturn, 1)]
set_option maxRecDepth 100000 in
theorem okX12_isFree : gj_dok cX12_isFree tbX12_isFree = true := by decide +kernel
def tbX12_blocks : List (Nat × Instr × Nat) := [(0, .aload_n 0, 1), (1, .getfield 260, 3), (4, .ifCond .ne 14, 3), (7, .iload_n 1, 1), (8, .iconst (-1), 1), (9, .if_icmp .ne 7, 3), (12, .iconst 0, 1), (13, .goto 4, 3), (16, .iconst (-1), 1), (17, .ireturn, 1), (18, .iconst 0, 1), (19, .istore_n 2, 1), (20, .iconst 0, 1), (21, .istore_n 3, 1), (22, .iload_n 3, 1), (23, .aload_n 0, 1), (24, .getfield 37, 3), (27, .iconst 0, 1), (28, .aaload, 1), (29, .iconst 0, 1), (30, .iaload, 1), (31, .if_icmp .ge 96, 3), (34, .iconst 4, 1), (35, .istore 4, 2), (37, .iload 4, 2), (39, .iconst 4, 1), (40, .aload_n 0, 1), (41, .getfield 37, 3), (44, .iconst 0, 1), (45, .aaload, 1), (46, .iconst 1, 1), (47, .iaload, 1), (48, .iadd, 1), (49, .if_icmp .ge 72, 3), (52, .aload_n 0, 1), (53, .getfield 77, 3), (56, .iload_n 3, 1), (57, .iaload, 1), (58, .iload 4, 2), (60, .if_icmp .eq 55, 3), (63, .aload_n 0, 1), (64, .iload_n 3, 1), (65, .iload 4, 2), (67, .invokevirtual 375, 3), (70, .ifCond .eq 45, 3), (73, .aload_n 0, 1), (74, .iload_n 3, 1), (75, .iload 4, 2), (77, .invokevirtual 419, 3), (80, .ifCond .eq 35, 3), (83, .aload_n 0, 1), (84, .iload 4, 2), (86, .iload_n 3, 1), (87, .invokevirtual 419, 3), (90, .ifCond .ne 6, 3), (93, .goto 22, 3), (96, .iload_n 2, 1), (97, .iload_n 1, 1), (98, .if_icmp .ne 14, 3), (101, .bipush 100, 2), (103, .iload_n 3, 1), (104, .imul, 1), (105, .iload 4, 2), (107, .invokestatic 285, 3), (110, .iadd, 1), (111, .ireturn, 1), (112, .iinc 2 1, 3), (115, .iinc 4 1, 3), (118, .goto (-81), 3), (121, .iinc 3 1, 3), (124, .goto (-102), 3), (127, .iload_n 1, 1), (128, .iconst (-1), 1), (129, .if_icmp .ne 7, 3), (132, .iload_n 2, 1), (133, .goto 4, 3), (136, .iconst (-1), 1), (137, .ireturn, 1)]
set_option maxRecDepth 100000 in
theorem okX12_blocks : gj_dok cX12_blocks tbX12_blocks = true := by decide +kernel
def tbX12_truly : List (Nat × Instr × Nat) := [(0, .aload_n 0, 1), (1, .getfield 31, 3), (4, .iconst 0, 1), (5, .aaload, 1), (6, .iload_n 1, 1), (7, .iload_n 2, 1), (8, .invokestatic 292, 3), (11, .iaload, 1), (12, .istore_n 3, 1), (13, .iconst 2, 1), (14, .iload_n 3, 1), (15, .aload_n 0, 1), (16, .getfield 34, 3), (19, .iconst 0, 1), (20, .aaload, 1), (21, .iconst 0, 1), (22, .iaload, 1), (23, .imul, 1), (24, .bipush 16, 2), (26, .iload_n 3, 1), (27, .isub, 1), (28, .aload_n 0, 1), (29, .getfield 34, 3), (32, .iconst 0, 1), (33, .aaload, 1), (34, .iconst 1, 1), (35, .iaload, 1), (36, .imul, 1), (37, .iadd, 1), (38, .imul, 1), (39, .ireturn, 1)]
set_option maxRecDepth 100000 in
theorem okX12_truly : gj_dok cX12_truly tbX12_truly = true := by decide +kernel
def tbX12_sumOf : List (Nat × Instr × Nat) := [(0, .iconst 0, 1), (1, .istore_n 2, 1), (2, .iconst 0, 1), (3, .istore_n 3, 1), (4, .iload_n 3, 1), (5, .bipush 8, 2), (7, .if_icmp .ge 68, 3), (10, .iload_n 3, 1), (11, .iconst 4, 1), (12, .irem, 1), (13, .aload_n 0, 1), (14, .getfield 37, 3), (17, .iconst 0, 1), (18, .aaload, 1), (19, .iload_n 3, 1), (20, .iconst 4, 1), (21, .idiv, 1), (22, .iaload, 1), (23, .if_icmp .lt 6, 3), (26, .goto 43, 3), (29, .aload_n 1, 1), (30, .iload_n 3, 1), (31, .iaload, 1), (32, .iconst (-1), 1), (33, .if_icmp .ne 20, 3), (36, .iload_n 2, 1), (37, .bipush 16, 2), (39, .aload_n 0, 1), (40, .getfield 19, 3), (43, .iconst 0, 1), (44, .aaload, 1), (45, .iload_n 3, 1), (46, .iaload, 1), (47, .imul, 1), (48, .iadd, 1), (49, .istore_n 2, 1), (50, .goto 19, 3), (53, .iload_n 3, 1), (54, .iconst 4, 1), (55, .if_icmp .ge 14, 3), (58, .iload_n 2, 1), (59, .aload_n 0, 1), (60, .iload_n 3, 1), (61, .aload_n 1, 1), (62, .iload_n 3, 1), (63, .iaload, 1), (64, .invokevirtual 422, 3), (67, .iadd, 1), (68, .istore_n 2, 1), (69, .iinc 3 1, 3), (72, .goto (-68), 3), (75, .iload_n 2, 1), (76, .ireturn, 1)]
set_option maxRecDepth 100000 in
theorem okX12_sumOf : gj_dok cX12_sumOf tbX12_sumOf = true := by decide +kernel
def tbX12_parentsFrom : List (Nat × Instr × Nat) := [(0, .iload_n 1, 1), (1, .aload_n 0, 1), (2, .getfield 37, 3), (5, .iconst 0, 1), (6, .aaload, 1), (7, .iconst 0, 1), (8, .iaload, 1), (9, .if_icmp .ne 53, 3), (12, .aload_n 0, 1), (13, .aload_n 0, 1), (14, .getfield 129, 3), (17, .invokevirtual 425, 3), (20, .istore_n 2, 1), (21, .iload_n 2, 1), (22, .aload_n 0, 1), (23, .getfield 429, 3), (26, .if_icmp .gt 4, 3), (29, .return_, 1), (30, .aload_n 0, 1), (31, .iload_n 2, 1), (32, .putfield 429, 3), (35, .iconst 0, 1), (36, .istore_n 3, 1), (37, .iload_n 3, 1), (38, .bipush 8, 2), (40, .if_icmp .ge 21, 3), (43, .aload_n 0, 1), (44, .getfield 132, 3), (47, .iload_n 3, 1), (48, .aload_n 0, 1), (49, .getfield 129, 3), (52, .iload_n 3, 1), (53, .iaload, 1), (54, .iastore, 1), (55, .iinc 3 1, 3), (58, .goto (-21), 3), (61, .return_, 1), (62, .aload_n 0, 1), (63, .getfield 129, 3), (66, .iload_n 1, 1), (67, .iconst (-1), 1), (68, .iastore, 1), (69, .aload_n 0, 1), (70, .iload_n 1, 1), (71, .iconst 1, 1), (72, .iadd, 1), (73, .invokevirtual 432, 3), (76, .iconst 4, 1), (77, .istore_n 2, 1), (78, .iload_n 2, 1), (79, .iconst 4, 1), (80, .aload_n 0, 1), (81, .getfield 37, 3), (84, .iconst 0, 1), (85, .aaload, 1), (86, .iconst 1, 1), (87, .iaload, 1), (88, .iadd, 1), (89, .if_icmp .ge 50, 3), (92, .aload_n 0, 1), (93, .getfield 129, 3), (96, .iload_n 2, 1), (97, .iaload, 1), (98, .iconst (-1), 1), (99, .if_icmp .eq 6, 3), (102, .goto 31, 3), (105, .aload_n 0, 1), (106, .getfield 129, 3), (109, .iload_n 1, 1), (110, .iload_n 2, 1), (111, .iastore, 1), (112, .aload_n 0, 1), (113, .getfield 129, 3), (116, .iload_n 2, 1), (117, .iload_n 1, 1), (118, .iastore, 1), (119, .aload_n 0, 1), (120, .iload_n 1, 1), (121, .iconst 1, 1), (122, .iadd, 1), (123, .invokevirtual 432, 3), (126, .aload_n 0, 1), (127, .getfield 129, 3), (130, .iload_n 2, 1), (131, .iconst (-1), 1), (132, .iastore, 1), (133, .iinc 2 1, 3), (136, .goto (-58), 3), (139, .aload_n 0, 1), (140, .getfield 129, 3), (143, .iload_n 1, 1), (144, .iconst (-1), 1), (145, .iastore, 1), (146, .return_, 1)]
set_option maxRecDepth 100000 in
theorem okX12_parentsFrom : gj_dok cX12_parentsFrom tbX12_parentsFrom = true := by decide +kernel
def tbX12_findsParents : List (Nat × Instr × Nat) := [(0, .iconst 0, 1), (1, .istore_n 1, 1), (2, .iload_n 1, 1), (3, .bipush 8, 2), (5, .if_icmp .ge 16, 3), (8, .aload_n 0, 1), (9, .getfield 129, 3), (12, .iload_n 1, 1), (13, .iconst (-1), 1), (14, .iastore, 1), (15, .iinc 1 1, 3), (18, .goto (-16), 3), (21, .aload_n 0, 1), (22, .iconst (-1), 1), (23, .putfield 429, 3), (26, .aload_n 0, 1), (27, .iconst 0, 1), (28, .invokevirtual 432, 3), (31, .return_, 1)]
set_option maxRecDepth 100000 in
theorem okX12_findsParents : gj_dok cX12_findsParents tbX12_findsParents = true := by decide +kernel
def tbX12_parents : List (Nat × Instr × Nat) := [(0, .aload_n 0, 1), (1, .getfield 260, 3), (4, .ifCond .eq 17, 3), (7, .iload_n 1, 1), (8, .iconst (-1), 1), (9, .if_icmp .eq 16, 3), (12, .aload_n 0, 1), (13, .iload_n 1, 1), (14, .invokevirtual 281, 3), (17, .iconst (-1), 1), (18, .if_icmp .ne 7, 3), (21, .ldc_w 284, 3), (24, .ireturn, 1), (25, .aload_n 0, 1), (26, .invokevirtual 435, 3), (29, .iload_n 1, 1), (30, .iconst (-1), 1), (31, .if_icmp .ne 8, 3), (34, .aload_n 0, 1), (35, .getfield 429, 3), (38, .ireturn, 1), (39, .aload_n 0, 1), (40, .getfield 132, 3), (43, .aload_n 0, 1), (44, .iload_n 1, 1), (45, .invokevirtual 281, 3), (48, .iaload, 1), (49, .istore_n 2, 1), (50, .iload_n 2, 1), (51, .iconst (-1), 1), (52, .if_icmp .ne 7, 3), (55, .iconst (-1), 1), (56, .goto 7, 3), (59, .iload_n 2, 1), (60, .invokestatic 285, 3), (63, .ireturn, 1)]
set_option maxRecDepth 100000 in
theorem okX12_parents : gj_dok cX12_parents tbX12_parents = true := by decide +kernel
def tbX12_lifeOf : List (Nat × Instr × Nat) := [(0, .iload_n 2, 1), (1, .aload_n 0, 1), (2, .aload_n 1, 1), (3, .invokevirtual 425, 3), (6, .imul, 1), (7, .istore_n 3, 1), (8, .iconst 0, 1), (9, .istore 4, 2), (11, .iload 4, 2), (13, .aload_n 0, 1), (14, .getfield 37, 3), (17, .iconst 0, 1), (18, .aaload, 1), (19, .iconst 0, 1), (20, .iaload, 1), (21, .if_icmp .ge 46, 3), (24, .aload_n 1, 1), (25, .iload 4, 2), (27, .iaload, 1), (28, .iconst (-1), 1), (29, .if_icmp .eq 32, 3), (32, .iload_n 3, 1), (33, .bipush 32, 2), (35, .aload_n 0, 1), (36, .getfield 34, 3), (39, .iconst 0, 1), (40, .aaload, 1), (41, .iconst 3, 1), (42, .iaload, 1), (43, .imul, 1), (44, .iconst 0, 1), (45, .iload_n 2, 1), (46, .aload_n 0, 1), (47, .getfield 34, 3), (50, .iconst 0, 1), (51, .aaload, 1), (52, .iconst 2, 1), (53, .iaload, 1), (54, .isub, 1), (55, .invokestatic 438, 3), (58, .imul, 1), (59, .iadd, 1), (60, .istore_n 3, 1), (61, .iinc 4 1, 3), (64, .goto (-53), 3), (67, .iload_n 3, 1), (68, .ireturn, 1)]
set_option maxRecDepth 100000 in
theorem okX12_lifeOf : gj_dok cX12_lifeOf tbX12_lifeOf = true := by decide +kernel
def tbX12_life : List (Nat × Instr × Nat) := [(0, .aload_n 0, 1), (1, .getfield 260, 3), (4, .ifCond .eq 25, 3), (7, .iload_n 1, 1), (8, .i2l, 1), (9, .lconst 1, 1), (10, .ldc2_w 441, 3), (13, .invokestatic 158, 3), (16, .ifCond .eq 13, 3), (19, .iload_n 2, 1), (20, .i2l, 1), (21, .lconst 0, 1), (22, .lconst 1, 1), (23, .invokestatic 158, 3), (26, .ifCond .ne 7, 3), (29, .ldc_w 284, 3), (32, .ireturn, 1), (33, .iconst 0, 1), (34, .istore_n 3, 1), (35, .iload_n 3, 1), (36, .bipush 16, 2), (38, .if_icmp .ge 66, 3), (41, .aload_n 0, 1), (42, .getfield 135, 3), (45, .iload_n 3, 1), (46, .aload_n 0, 1), (47, .getfield 89, 3), (50, .iload_n 3, 1), (51, .iaload, 1), (52, .iastore, 1), (53, .aload_n 0, 1), (54, .getfield 138, 3), (57, .iload_n 3, 1), (58, .aload_n 0, 1), (59, .getfield 92, 3), (62, .iload_n 3, 1), (63, .iaload, 1), (64, .iastore, 1), (65, .aload_n 0, 1), (66, .getfield 141, 3), (69, .iload_n 3, 1), (70, .aload_n 0, 1), (71, .getfield 95, 3), (74, .iload_n 3, 1), (75, .iaload, 1), (76, .iastore, 1), (77, .aload_n 0, 1), (78, .getfield 89, 3), (81, .iload_n 3, 1), (82, .iconst 0, 1), (83, .iastore, 1), (84, .aload_n 0, 1), (85, .getfield 92, 3), (88, .iload_n 3, 1), (89, .iconst 0, 1), (90, .iastore, 1), (91, .aload_n 0, 1), (92, .getfield 95, 3), (95, .iload_n 3, 1), (96, .iconst 0, 1), (97, .iastore, 1), (98, .iinc 3 1, 3), (101, .goto (-66), 3), (104, .iconst 0, 1), (105, .istore_n 3, 1), (106, .iload_n 3, 1), (107, .bipush 8, 2), (109, .if_icmp .ge 16, 3), (112, .aload_n 0, 1), (113, .getfield 117, 3), (116, .iload_n 3, 1), (117, .iconst 0, 1), (118, .iastore, 1), (119, .iinc 3 1, 3), (122, .goto (-16), 3), (125, .aload_n 0, 1), (126, .iconst 0, 1), (127, .invokevirtual 396, 3), (130, .iconst 0, 1), (131, .istore_n 3, 1), (132, .iload_n 3, 1), (133, .bipush 16, 2), (135, .if_icmp .ge 45, 3), (138, .aload_n 0, 1), (139, .getfield 89, 3), (142, .iload_n 3, 1), (143, .aload_n 0, 1), (144, .getfield 135, 3), (147, .iload_n 3, 1), (148, .iaload, 1), (149, .iastore, 1), (150, .aload_n 0, 1), (151, .getfield 92, 3), (154, .iload_n 3, 1), (155, .aload_n 0, 1), (156, .getfield 138, 3), (159, .iload_n 3, 1), (160, .iaload, 1), (161, .iastore, 1), (162, .aload_n 0, 1), (163, .getfield 95, 3), (166, .iload_n 3, 1), (167, .aload_n 0, 1), (168, .getfield 141, 3), (171, .iload_n 3, 1), (172, .iaload, 1), (173, .iastore, 1), (174, .iinc 3 1, 3), (177, .goto (-45), 3), (180, .aload_n 0, 1), (181, .aload_n 0, 1), (182, .getfield 114, 3), (185, .iload_n 1, 1), (186, .invokevirtual 443, 3), (189, .istore_n 3, 1), (190, .iload_n 2, 1), (191, .ifCond .ne 5, 3), (194, .iload_n 3, 1), (195, .ireturn, 1), (196, .aload_n 0, 1), (197, .invokevirtual 435, 3), (200, .iload_n 3, 1), (201, .aload_n 0, 1), (202, .aload_n 0, 1), (203, .getfield 132, 3), (206, .iload_n 1, 1), (207, .invokevirtual 443, 3), (210, .isub, 1), (211, .ireturn, 1)]
set_option maxRecDepth 100000 in
theorem okX12_life : gj_dok cX12_life tbX12_life = true := by decide +kernel
def tbX12_never : List (Nat × Instr × Nat) := [(0, .aload_n 0, 1), (1, .getfield 260, 3), (4, .ifCond .eq 13, 3), (7, .iload_n 1, 1), (8, .i2l, 1), (9, .lconst 0, 1), (10, .lconst 1, 1), (11, .invokestatic 158, 3), (14, .ifCond .ne 7, 3), (17, .ldc_w 284, 3), (20, .ireturn, 1), (21, .aload_n 0, 1), (22, .invokevirtual 435, 3), (25, .iload_n 1, 1), (26, .iconst 1, 1), (27, .if_icmp .ne 17, 3), (30, .aload_n 0, 1), (31, .getfield 429, 3), (34, .aload_n 0, 1), (35, .aload_n 0, 1), (36, .getfield 77, 3), (39, .invokevirtual 425, 3), (42, .isub, 1), (43, .ireturn, 1), (44, .iconst 0, 1), (45, .istore_n 2, 1), (46, .iconst 0, 1), (47, .istore_n 3, 1), (48, .iload_n 3, 1), (49, .aload_n 0, 1), (50, .getfield 37, 3), (53, .iconst 0, 1), (54, .aaload, 1), (55, .iconst 0, 1), (56, .iaload, 1), (57, .if_icmp .ge 61, 3), (60, .iload_n 2, 1), (61, .aload_n 0, 1), (62, .getfield 132, 3), (65, .iload_n 3, 1), (66, .iaload, 1), (67, .iconst (-1), 1), (68, .if_icmp .eq 41, 3), (71, .aload_n 0, 1), (72, .getfield 89, 3), (75, .iload_n 3, 1), (76, .aload_n 0, 1), (77, .getfield 132, 3), (80, .iload_n 3, 1), (81, .iaload, 1), (82, .invokestatic 292, 3), (85, .iaload, 1), (86, .aload_n 0, 1), (87, .getfield 92, 3), (90, .iload_n 3, 1), (91, .aload_n 0, 1), (92, .getfield 132, 3), (95, .iload_n 3, 1), (96, .iaload, 1), (97, .invokestatic 292, 3), (100, .iaload, 1), (101, .iadd, 1), (102, .ifCond .ne 7, 3), (105, .iconst 1, 1), (106, .goto 4, 3), (109, .iconst 0, 1), (110, .iadd, 1), (111, .istore_n 2, 1), (112, .iinc 3 1, 3), (115, .goto (-67), 3), (118, .iload_n 2, 1), (119, .ireturn, 1)]
set_option maxRecDepth 100000 in
theorem okX12_never : gj_dok cX12_never tbX12_never = true := by decide +kernel
def tbX12_pairs : List (Nat × Instr × Nat) := [(0, .iload_n 2, 1), (1, .i2l, 1), (2, .lconst 0, 1), (3, .lconst 1, 1), (4, .invokestatic 158, 3), (7, .ifCond .eq 15, 3), (10, .iload_n 1, 1), (11, .i2l, 1), (12, .lconst 0, 1), (13, .ldc2_w 441, 3), (16, .invokestatic 158, 3), (19, .ifCond .ne 5, 3), (22, .iconst (-1), 1), (23, .ireturn, 1), (24, .iconst 0, 1), (25, .istore_n 3, 1), (26, .iconst 0, 1), (27, .istore 4, 2), (29, .aload_n 0, 1), (30, .getfield 260, 3), (33, .ifCond .eq 56, 3), (36, .iload 4, 2), (38, .aload_n 0, 1), (39, .getfield 37, 3), (42, .iconst 0, 1), (43, .aaload, 1), (44, .iconst 0, 1), (45, .iaload, 1), (46, .if_icmp .ge 43, 3), (49, .iload_n 3, 1), (50, .aload_n 0, 1), (51, .getfield 77, 3), (54, .iload 4, 2), (56, .iaload, 1), (57, .iconst (-1), 1), (58, .if_icmp .eq 22, 3), (61, .iload_n 2, 1), (62, .ifCond .eq 14, 3), (65, .aload_n 0, 1), (66, .getfield 83, 3), (69, .iload 4, 2), (71, .iaload, 1), (72, .iload_n 1, 1), (73, .if_icmp .lt 7, 3), (76, .iconst 1, 1), (77, .goto 4, 3), (80, .iconst 0, 1), (81, .iadd, 1), (82, .istore_n 3, 1), (83, .iinc 4 1, 3), (86, .goto (-57), 3), (89, .iload_n 3, 1), (90, .ireturn, 1)]
set_option maxRecDepth 100000 in
theorem okX12_pairs : gj_dok cX12_pairs tbX12_pairs = true := by decide +kernel
def tbX12_move : List (Nat × Instr × Nat) := [(0, .iconst 0, 1), (1, .istore 4, 2), (3, .iload 4, 2), (5, .aload_n 1, 1), (6, .arraylength, 1), (7, .if_icmp .ge 46, 3), (10, .iload_n 3, 1), (11, .ifCond .eq 16, 3), (14, .aload_n 2, 1), (15, .aload_n 0, 1), (16, .getfield 447, 3), (19, .aload_n 1, 1), (20, .iload 4, 2), (22, .iaload, 1), (23, .iastore, 1), (24, .goto 13, 3), (27, .aload_n 1, 1), (28, .iload 4, 2), (30, .aload_n 2, 1), (31, .aload_n 0, 1), (32, .getfield 447, 3), (35, .iaload, 1), (36, .iastore, 1), (37, .aload_n 0, 1), (38, .dup, 1), (39, .getfield 447, 3), (42, .iconst 1, 1), (43, .iadd, 1), (44, .putfield 447, 3), (47, .iinc 4 1, 3), (50, .goto (-47), 3), (53, .return_, 1)]
set_option maxRecDepth 100000 in
theorem okX12_move : gj_dok cX12_move tbX12_move = true := by decide +kernel
def tbX12_moves : List (Nat × Instr × Nat) := [(0, .aload_n 0, 1), (1, .iconst 4, 1), (2, .putfield 447, 3), (5, .aload_n 0, 1), (6, .aload_n 0, 1), (7, .getfield 77, 3), (10, .aload_n 1, 1), (11, .iload_n 2, 1), (12, .invokevirtual 450, 3), (15, .aload_n 0, 1), (16, .aload_n 0, 1), (17, .getfield 80, 3), (20, .aload_n 1, 1), (21, .iload_n 2, 1), (22, .invokevirtual 450, 3), (25, .aload_n 0, 1), (26, .aload_n 0, 1), (27, .getfield 83, 3), (30, .aload_n 1, 1), (31, .iload_n 2, 1), (32, .invokevirtual 450, 3), (35, .aload_n 0, 1), (36, .aload_n 0, 1), (37, .getfield 86, 3), (40, .aload_n 1, 1), (41, .iload_n 2, 1), (42, .invokevirtual 450, 3), (45, .aload_n 0, 1), (46, .aload_n 0, 1), (47, .getfield 89, 3), (50, .aload_n 1, 1), (51, .iload_n 2, 1), (52, .invokevirtual 450, 3), (55, .aload_n 0, 1), (56, .aload_n 0, 1), (57, .getfield 92, 3), (60, .aload_n 1, 1), (61, .iload_n 2, 1), (62, .invokevirtual 450, 3), (65, .aload_n 0, 1), (66, .aload_n 0, 1), (67, .getfield 95, 3), (70, .aload_n 1, 1), (71, .iload_n 2, 1), (72, .invokevirtual 450, 3), (75, .aload_n 0, 1), (76, .aload_n 0, 1), (77, .getfield 123, 3), (80, .aload_n 1, 1), (81, .iload_n 2, 1), (82, .invokevirtual 450, 3), (85, .return_, 1)]
set_option maxRecDepth 100000 in
theorem okX12_moves : gj_dok cX12_moves tbX12_moves = true := by decide +kernel
def tbX12_image : List (Nat × Instr × Nat) := [(0, .iload_n 1, 1), (1, .i2l, 1), (2, .lconst 0, 1), (3, .ldc2_w 156, 3), (6, .invokestatic 158, 3), (9, .ifCond .eq 10, 3), (12, .aload_n 0, 1), (13, .getfield 260, 3), (16, .ifCond .ne 25, 3), (19, .aload_n 0, 1), (20, .iload_n 1, 1), (21, .i2l, 1), (22, .lconst 0, 1), (23, .ldc2_w 156, 3), (26, .invokestatic 158, 3), (29, .ifCond .eq 7, 3), (32, .iconst 2, 1), (33, .goto 4, 3), (36, .iconst 0, 1), (37, .invokevirtual 173, 3), (40, .ireturn, 1), (41, .aload_n 0, 1), (42, .getfield 147, 3), (45, .iload_n 1, 1), (46, .aaload, 1), (47, .iconst 0, 1), (48, .aload_n 0, 1), (49, .getfield 264, 3), (52, .iastore, 1), (53, .aload_n 0, 1), (54, .getfield 147, 3), (57, .iload_n 1, 1), (58, .aaload, 1), (59, .iconst 1, 1), (60, .aload_n 0, 1), (61, .getfield 267, 3), (64, .iastore, 1), (65, .aload_n 0, 1), (66, .getfield 147, 3), (69, .iload_n 1, 1), (70, .aaload, 1), (71, .iconst 2, 1), (72, .aload_n 0, 1), (73, .getfield 274, 3), (76, .iastore, 1), (77, .aload_n 0, 1), (78, .getfield 150, 3), (81, .iload_n 1, 1), (82, .aload_n 0, 1), (83, .getfield 270, 3), (86, .lastore, 1), (87, .aload_n 0, 1), (88, .aload_n 0, 1), (89, .getfield 147, 3), (92, .iload_n 1, 1), (93, .aaload, 1), (94, .iconst 1, 1), (95, .invokevirtual 454, 3), (98, .aload_n 0, 1), (99, .getfield 153, 3), (102, .iload_n 1, 1), (103, .iconst 1, 1), (104, .bastore, 1), (105, .iconst 1, 1), (106, .ireturn, 1)]
set_option maxRecDepth 100000 in
theorem okX12_image : gj_dok cX12_image tbX12_image = true := by decide +kernel
def tbX12_on : List (Nat × Instr × Nat) := [(0, .iload_n 1, 1), (1, .i2l, 1), (2, .lconst 0, 1), (3, .ldc2_w 156, 3), (6, .invokestatic 158, 3), (9, .ifCond .eq 12, 3), (12, .aload_n 0, 1), (13, .getfield 153, 3), (16, .iload_n 1, 1), (17, .baload, 1), (18, .ifCond .ne 9, 3), (21, .aload_n 0, 1), (22, .iconst 0, 1), (23, .invokevirtual 173, 3), (26, .ireturn, 1), (27, .aload_n 0, 1), (28, .aload_n 0, 1), (29, .getfield 147, 3), (32, .iload_n 1, 1), (33, .aaload, 1), (34, .iconst 0, 1), (35, .iaload, 1), (36, .putfield 264, 3), (39, .aload_n 0, 1), (40, .aload_n 0, 1), (41, .getfield 147, 3), (44, .iload_n 1, 1), (45, .aaload, 1), (46, .iconst 1, 1), (47, .iaload, 1), (48, .putfield 267, 3), (51, .aload_n 0, 1), (52, .aload_n 0, 1), (53, .getfield 147, 3), (56, .iload_n 1, 1), (57, .aaload, 1), (58, .iconst 2, 1), (59, .iaload, 1), (60, .putfield 274, 3), (63, .aload_n 0, 1), (64, .aload_n 0, 1), (65, .getfield 150, 3), (68, .iload_n 1, 1), (69, .laload, 1), (70, .putfield 270, 3), (73, .aload_n 0, 1), (74, .aload_n 0, 1), (75, .getfield 147, 3), (78, .iload_n 1, 1), (79, .aaload, 1), (80, .iconst 0, 1), (81, .invokevirtual 454, 3), (84, .iconst 1, 1), (85, .ireturn, 1)]
set_option maxRecDepth 100000 in
theorem okX12_on : gj_dok cX12_on tbX12_on = true := by decide +kernel
def tbX12_count : List (Nat × Instr × Nat) := [(0, .iload_n 1, 1), (1, .tableswitch 137 0 5 #[39, 59, 79, 95, 111, 132], 39), (40, .aload_n 0, 1), (41, .getfield 260, 3), (44, .ifCond .eq 14, 3), (47, .aload_n 0, 1), (48, .getfield 37, 3), (51, .iconst 0, 1), (52, .aaload, 1), (53, .iconst 0, 1), (54, .iaload, 1), (55, .goto 4, 3), (58, .iconst 0, 1), (59, .ireturn, 1), (60, .aload_n 0, 1), (61, .getfield 260, 3), (64, .ifCond .eq 14, 3), (67, .aload_n 0, 1), (68, .getfield 37, 3), (71, .iconst 0, 1), (72, .aaload, 1), (73, .iconst 1, 1), (74, .iaload, 1), (75, .goto 4, 3), (78, .iconst 0, 1), (79, .ireturn, 1), (80, .aload_n 0, 1), (81, .getfield 260, 3), (84, .ifCond .eq 10, 3), (87, .aload_n 0, 1), (88, .getfield 264, 3), (91, .goto 4, 3), (94, .iconst 0, 1), (95, .ireturn, 1), (96, .aload_n 0, 1), (97, .getfield 260, 3), (100, .ifCond .eq 10, 3), (103, .aload_n 0, 1), (104, .getfield 267, 3), (107, .goto 4, 3), (110, .iconst 0, 1), (111, .ireturn, 1), (112, .aload_n 0, 1), (113, .getfield 260, 3), (116, .ifCond .eq 15, 3), (119, .aload_n 0, 1), (120, .getfield 34, 3), (123, .iconst 0, 1), (124, .aaload, 1), (125, .bipush 7, 2), (127, .iaload, 1), (128, .goto 4, 3), (131, .iconst 0, 1), (132, .ireturn, 1), (133, .aload_n 0, 1), (134, .getfield 162, 3), (137, .ireturn, 1), (138, .iconst (-1), 1), (139, .ireturn, 1)]
set_option maxRecDepth 100000 in
theorem okX12_count : gj_dok cX12_count tbX12_count = true := by decide +kernel
end
section
def tbL_law_0 : List (Nat × Instr × Nat) := [(0, .new 7, 3), (3, .dup, 1), (4, .invokespecial 9, 3), (7, .astore_n 1, 1), (8, .new 10, 3), (11, .dup, 1), (12, .invokespecial 12, 3), (15, .astore_n 2, 1), (16, .iconst 0, 1), (17, .istore_n 3, 1), (18, .iload_n 3, 1), (19, .aload_n 0, 1), (20, .arraylength, 1), (21, .bipush 6, 2), (23, .isub, 1), (24, .if_icmp .gt 1201, 3), (27, .aload_n 0, 1), (28, .iload_n 3, 1), (29, .iaload, 1), (30, .bipush 63, 2), (32, .iand, 1), (33, .tableswitch 1186 0 32 #[147, 210, 233, 246, 259, 292, 315, 358, 401, 444, 477, 520, 563, 606, 639, 692, 725, 768, 791, 814, 847, 870, 903, 926, 959, 982, 1005, 1038, 1061, 1094, 1117, 1140, 1163], 147), (180, .aload_n 1, 1), (181, .aload_n 0, 1), (182, .iload_n 3, 1), (183, .iconst 1, 1), (184, .iadd, 1), (185, .iaload, 1), (186, .aload_n 0, 1), (187, .iload_n 3, 1), (188, .iconst 2, 1), (189, .iadd, 1), (190, .iaload, 1), (191, .aload_n 0, 1), (192, .iload_n 3, 1), (193, .iconst 3, 1), (194, .iadd, 1), (195, .iaload, 1), (196, .aload_n 0, 1), (197, .iload_n 3, 1), (198, .iconst 4, 1), (199, .iadd, 1), (200, .iaload, 1), (201, .aload_n 0, 1), (202, .iload_n 3, 1), (203, .iconst 5, 1), (204, .iadd, 1), (205, .iaload, 1), (206, .invokevirtual 13, 3), (209, .aload_n 2, 1), (210, .aload_n 0, 1), (211, .iload_n 3, 1), (212, .iconst 1, 1), (213, .iadd, 1), (214, .iaload, 1), (215, .aload_n 0, 1), (216, .iload_n 3, 1), (217, .iconst 2, 1), (218, .iadd, 1), (219, .iaload, 1)]
set_option maxRecDepth 100000 in
theorem okL_law_0 : gj_dok cL_law tbL_law_0 = true := by decide +kernel
def tbL_law_1 : List (Nat × Instr × Nat) := [(220, .aload_n 0, 1), (221, .iload_n 3, 1), (222, .iconst 3, 1), (223, .iadd, 1), (224, .iaload, 1), (225, .aload_n 0, 1), (226, .iload_n 3, 1), (227, .iconst 4, 1), (228, .iadd, 1), (229, .iaload, 1), (230, .aload_n 0, 1), (231, .iload_n 3, 1), (232, .iconst 5, 1), (233, .iadd, 1), (234, .iaload, 1), (235, .invokevirtual 17, 3), (238, .if_icmp .eq 981, 3), (241, .iconst 0, 1), (242, .ireturn, 1), (243, .aload_n 1, 1), (244, .aload_n 0, 1), (245, .iload_n 3, 1), (246, .iconst 1, 1), (247, .iadd, 1), (248, .iaload, 1), (249, .invokevirtual 18, 3), (252, .aload_n 2, 1), (253, .aload_n 0, 1), (254, .iload_n 3, 1), (255, .iconst 1, 1), (256, .iadd, 1), (257, .iaload, 1), (258, .invokevirtual 22, 3), (261, .if_icmp .eq 958, 3), (264, .iconst 0, 1), (265, .ireturn, 1), (266, .aload_n 1, 1), (267, .invokevirtual 23, 3), (270, .aload_n 2, 1), (271, .invokevirtual 27, 3), (274, .if_icmp .eq 945, 3), (277, .iconst 0, 1), (278, .ireturn, 1), (279, .aload_n 1, 1), (280, .invokevirtual 28, 3), (283, .aload_n 2, 1), (284, .invokevirtual 31, 3), (287, .if_icmp .eq 932, 3), (290, .iconst 0, 1), (291, .ireturn, 1), (292, .aload_n 1, 1), (293, .aload_n 0, 1), (294, .iload_n 3, 1), (295, .iconst 1, 1), (296, .iadd, 1), (297, .iaload, 1), (298, .aload_n 0, 1), (299, .iload_n 3, 1), (300, .iconst 2, 1), (301, .iadd, 1)]
set_option maxRecDepth 100000 in
theorem okL_law_1 : gj_dok cL_law tbL_law_1 = true := by decide +kernel
def tbL_law_2 : List (Nat × Instr × Nat) := [(302, .iaload, 1), (303, .invokevirtual 32, 3), (306, .aload_n 2, 1), (307, .aload_n 0, 1), (308, .iload_n 3, 1), (309, .iconst 1, 1), (310, .iadd, 1), (311, .iaload, 1), (312, .aload_n 0, 1), (313, .iload_n 3, 1), (314, .iconst 2, 1), (315, .iadd, 1), (316, .iaload, 1), (317, .invokevirtual 36, 3), (320, .if_icmp .eq 899, 3), (323, .iconst 0, 1), (324, .ireturn, 1), (325, .aload_n 1, 1), (326, .aload_n 0, 1), (327, .iload_n 3, 1), (328, .iconst 1, 1), (329, .iadd, 1), (330, .iaload, 1), (331, .invokevirtual 37, 3), (334, .aload_n 2, 1), (335, .aload_n 0, 1), (336, .iload_n 3, 1), (337, .iconst 1, 1), (338, .iadd, 1), (339, .iaload, 1), (340, .invokevirtual 41, 3), (343, .if_icmp .eq 876, 3), (346, .iconst 0, 1), (347, .ireturn, 1), (348, .aload_n 1, 1), (349, .aload_n 0, 1), (350, .iload_n 3, 1), (351, .iconst 1, 1), (352, .iadd, 1), (353, .iaload, 1), (354, .aload_n 0, 1), (355, .iload_n 3, 1), (356, .iconst 2, 1), (357, .iadd, 1), (358, .iaload, 1), (359, .aload_n 0, 1), (360, .iload_n 3, 1), (361, .iconst 3, 1), (362, .iadd, 1), (363, .iaload, 1), (364, .invokevirtual 42, 3), (367, .aload_n 2, 1), (368, .aload_n 0, 1), (369, .iload_n 3, 1), (370, .iconst 1, 1), (371, .iadd, 1), (372, .iaload, 1), (373, .aload_n 0, 1), (374, .iload_n 3, 1), (375, .iconst 2, 1)]
set_option maxRecDepth 100000 in
theorem okL_law_2 : gj_dok cL_law tbL_law_2 = true := by decide +kernel
def tbL_law_3 : List (Nat × Instr × Nat) := [(376, .iadd, 1), (377, .iaload, 1), (378, .aload_n 0, 1), (379, .iload_n 3, 1), (380, .iconst 3, 1), (381, .iadd, 1), (382, .iaload, 1), (383, .invokevirtual 46, 3), (386, .if_icmp .eq 833, 3), (389, .iconst 0, 1), (390, .ireturn, 1), (391, .aload_n 1, 1), (392, .aload_n 0, 1), (393, .iload_n 3, 1), (394, .iconst 1, 1), (395, .iadd, 1), (396, .iaload, 1), (397, .aload_n 0, 1), (398, .iload_n 3, 1), (399, .iconst 2, 1), (400, .iadd, 1), (401, .iaload, 1), (402, .aload_n 0, 1), (403, .iload_n 3, 1), (404, .iconst 3, 1), (405, .iadd, 1), (406, .iaload, 1), (407, .invokevirtual 47, 3), (410, .aload_n 2, 1), (411, .aload_n 0, 1), (412, .iload_n 3, 1), (413, .iconst 1, 1), (414, .iadd, 1), (415, .iaload, 1), (416, .aload_n 0, 1), (417, .iload_n 3, 1), (418, .iconst 2, 1), (419, .iadd, 1), (420, .iaload, 1), (421, .aload_n 0, 1), (422, .iload_n 3, 1), (423, .iconst 3, 1), (424, .iadd, 1), (425, .iaload, 1), (426, .invokevirtual 50, 3), (429, .if_icmp .eq 790, 3), (432, .iconst 0, 1), (433, .ireturn, 1), (434, .aload_n 1, 1), (435, .aload_n 0, 1), (436, .iload_n 3, 1), (437, .iconst 1, 1), (438, .iadd, 1), (439, .iaload, 1), (440, .aload_n 0, 1), (441, .iload_n 3, 1), (442, .iconst 2, 1), (443, .iadd, 1), (444, .iaload, 1), (445, .aload_n 0, 1)]
set_option maxRecDepth 100000 in
theorem okL_law_3 : gj_dok cL_law tbL_law_3 = true := by decide +kernel
def tbL_law_4 : List (Nat × Instr × Nat) := [(446, .iload_n 3, 1), (447, .iconst 3, 1), (448, .iadd, 1), (449, .iaload, 1), (450, .invokevirtual 51, 3), (453, .aload_n 2, 1), (454, .aload_n 0, 1), (455, .iload_n 3, 1), (456, .iconst 1, 1), (457, .iadd, 1), (458, .iaload, 1), (459, .aload_n 0, 1), (460, .iload_n 3, 1), (461, .iconst 2, 1), (462, .iadd, 1), (463, .iaload, 1), (464, .aload_n 0, 1), (465, .iload_n 3, 1), (466, .iconst 3, 1), (467, .iadd, 1), (468, .iaload, 1), (469, .invokevirtual 54, 3), (472, .if_icmp .eq 747, 3), (475, .iconst 0, 1), (476, .ireturn, 1), (477, .aload_n 1, 1), (478, .aload_n 0, 1), (479, .iload_n 3, 1), (480, .iconst 1, 1), (481, .iadd, 1), (482, .iaload, 1), (483, .aload_n 0, 1), (484, .iload_n 3, 1), (485, .iconst 2, 1), (486, .iadd, 1), (487, .iaload, 1), (488, .invokevirtual 55, 3), (491, .aload_n 2, 1), (492, .aload_n 0, 1), (493, .iload_n 3, 1), (494, .iconst 1, 1), (495, .iadd, 1), (496, .iaload, 1), (497, .aload_n 0, 1), (498, .iload_n 3, 1), (499, .iconst 2, 1), (500, .iadd, 1), (501, .iaload, 1), (502, .invokevirtual 58, 3), (505, .if_icmp .eq 714, 3), (508, .iconst 0, 1), (509, .ireturn, 1), (510, .aload_n 1, 1), (511, .aload_n 0, 1), (512, .iload_n 3, 1), (513, .iconst 1, 1), (514, .iadd, 1), (515, .iaload, 1), (516, .aload_n 0, 1), (517, .iload_n 3, 1)]
set_option maxRecDepth 100000 in
theorem okL_law_4 : gj_dok cL_law tbL_law_4 = true := by decide +kernel
def tbL_law_5 : List (Nat × Instr × Nat) := [(518, .iconst 2, 1), (519, .iadd, 1), (520, .iaload, 1), (521, .aload_n 0, 1), (522, .iload_n 3, 1), (523, .iconst 3, 1), (524, .iadd, 1), (525, .iaload, 1), (526, .invokevirtual 59, 3), (529, .aload_n 2, 1), (530, .aload_n 0, 1), (531, .iload_n 3, 1), (532, .iconst 1, 1), (533, .iadd, 1), (534, .iaload, 1), (535, .aload_n 0, 1), (536, .iload_n 3, 1), (537, .iconst 2, 1), (538, .iadd, 1), (539, .iaload, 1), (540, .aload_n 0, 1), (541, .iload_n 3, 1), (542, .iconst 3, 1), (543, .iadd, 1), (544, .iaload, 1), (545, .invokevirtual 62, 3), (548, .if_icmp .eq 671, 3), (551, .iconst 0, 1), (552, .ireturn, 1), (553, .aload_n 1, 1), (554, .aload_n 0, 1), (555, .iload_n 3, 1), (556, .iconst 1, 1), (557, .iadd, 1), (558, .iaload, 1), (559, .aload_n 0, 1), (560, .iload_n 3, 1), (561, .iconst 2, 1), (562, .iadd, 1), (563, .iaload, 1), (564, .aload_n 0, 1), (565, .iload_n 3, 1), (566, .iconst 3, 1), (567, .iadd, 1), (568, .iaload, 1), (569, .invokevirtual 63, 3), (572, .aload_n 2, 1), (573, .aload_n 0, 1), (574, .iload_n 3, 1), (575, .iconst 1, 1), (576, .iadd, 1), (577, .iaload, 1), (578, .aload_n 0, 1), (579, .iload_n 3, 1), (580, .iconst 2, 1), (581, .iadd, 1), (582, .iaload, 1), (583, .aload_n 0, 1), (584, .iload_n 3, 1), (585, .iconst 3, 1)]
set_option maxRecDepth 100000 in
theorem okL_law_5 : gj_dok cL_law tbL_law_5 = true := by decide +kernel
def tbL_law_6 : List (Nat × Instr × Nat) := [(586, .iadd, 1), (587, .iaload, 1), (588, .invokevirtual 66, 3), (591, .if_icmp .eq 628, 3), (594, .iconst 0, 1), (595, .ireturn, 1), (596, .aload_n 1, 1), (597, .aload_n 0, 1), (598, .iload_n 3, 1), (599, .iconst 1, 1), (600, .iadd, 1), (601, .iaload, 1), (602, .aload_n 0, 1), (603, .iload_n 3, 1), (604, .iconst 2, 1), (605, .iadd, 1), (606, .iaload, 1), (607, .aload_n 0, 1), (608, .iload_n 3, 1), (609, .iconst 3, 1), (610, .iadd, 1), (611, .iaload, 1), (612, .invokevirtual 67, 3), (615, .aload_n 2, 1), (616, .aload_n 0, 1), (617, .iload_n 3, 1), (618, .iconst 1, 1), (619, .iadd, 1), (620, .iaload, 1), (621, .aload_n 0, 1), (622, .iload_n 3, 1), (623, .iconst 2, 1), (624, .iadd, 1), (625, .iaload, 1), (626, .aload_n 0, 1), (627, .iload_n 3, 1), (628, .iconst 3, 1), (629, .iadd, 1), (630, .iaload, 1), (631, .invokevirtual 70, 3), (634, .if_icmp .eq 585, 3), (637, .iconst 0, 1), (638, .ireturn, 1), (639, .aload_n 1, 1), (640, .aload_n 0, 1), (641, .iload_n 3, 1), (642, .iconst 1, 1), (643, .iadd, 1), (644, .iaload, 1), (645, .aload_n 0, 1), (646, .iload_n 3, 1), (647, .iconst 2, 1), (648, .iadd, 1), (649, .iaload, 1), (650, .invokevirtual 71, 3), (653, .aload_n 2, 1), (654, .aload_n 0, 1), (655, .iload_n 3, 1), (656, .iconst 1, 1), (657, .iadd, 1)]
set_option maxRecDepth 100000 in
theorem okL_law_6 : gj_dok cL_law tbL_law_6 = true := by decide +kernel
def tbL_law_7 : List (Nat × Instr × Nat) := [(658, .iaload, 1), (659, .aload_n 0, 1), (660, .iload_n 3, 1), (661, .iconst 2, 1), (662, .iadd, 1), (663, .iaload, 1), (664, .invokevirtual 74, 3), (667, .if_icmp .eq 552, 3), (670, .iconst 0, 1), (671, .ireturn, 1), (672, .aload_n 1, 1), (673, .aload_n 0, 1), (674, .iload_n 3, 1), (675, .iconst 1, 1), (676, .iadd, 1), (677, .iaload, 1), (678, .aload_n 0, 1), (679, .iload_n 3, 1), (680, .iconst 2, 1), (681, .iadd, 1), (682, .iaload, 1), (683, .aload_n 0, 1), (684, .iload_n 3, 1), (685, .iconst 3, 1), (686, .iadd, 1), (687, .iaload, 1), (688, .aload_n 0, 1), (689, .iload_n 3, 1), (690, .iconst 4, 1), (691, .iadd, 1), (692, .iaload, 1), (693, .invokevirtual 75, 3), (696, .aload_n 2, 1), (697, .aload_n 0, 1), (698, .iload_n 3, 1), (699, .iconst 1, 1), (700, .iadd, 1), (701, .iaload, 1), (702, .aload_n 0, 1), (703, .iload_n 3, 1), (704, .iconst 2, 1), (705, .iadd, 1), (706, .iaload, 1), (707, .aload_n 0, 1), (708, .iload_n 3, 1), (709, .iconst 3, 1), (710, .iadd, 1), (711, .iaload, 1), (712, .aload_n 0, 1), (713, .iload_n 3, 1), (714, .iconst 4, 1), (715, .iadd, 1), (716, .iaload, 1), (717, .invokevirtual 79, 3), (720, .if_icmp .eq 499, 3), (723, .iconst 0, 1), (724, .ireturn, 1), (725, .aload_n 1, 1), (726, .aload_n 0, 1), (727, .iload_n 3, 1)]
set_option maxRecDepth 100000 in
theorem okL_law_7 : gj_dok cL_law tbL_law_7 = true := by decide +kernel
def tbL_law_8 : List (Nat × Instr × Nat) := [(728, .iconst 1, 1), (729, .iadd, 1), (730, .iaload, 1), (731, .aload_n 0, 1), (732, .iload_n 3, 1), (733, .iconst 2, 1), (734, .iadd, 1), (735, .iaload, 1), (736, .invokevirtual 80, 3), (739, .aload_n 2, 1), (740, .aload_n 0, 1), (741, .iload_n 3, 1), (742, .iconst 1, 1), (743, .iadd, 1), (744, .iaload, 1), (745, .aload_n 0, 1), (746, .iload_n 3, 1), (747, .iconst 2, 1), (748, .iadd, 1), (749, .iaload, 1), (750, .invokevirtual 83, 3), (753, .if_icmp .eq 466, 3), (756, .iconst 0, 1), (757, .ireturn, 1), (758, .aload_n 1, 1), (759, .aload_n 0, 1), (760, .iload_n 3, 1), (761, .iconst 1, 1), (762, .iadd, 1), (763, .iaload, 1), (764, .aload_n 0, 1), (765, .iload_n 3, 1), (766, .iconst 2, 1), (767, .iadd, 1), (768, .iaload, 1), (769, .aload_n 0, 1), (770, .iload_n 3, 1), (771, .iconst 3, 1), (772, .iadd, 1), (773, .iaload, 1), (774, .invokevirtual 84, 3), (777, .aload_n 2, 1), (778, .aload_n 0, 1), (779, .iload_n 3, 1), (780, .iconst 1, 1), (781, .iadd, 1), (782, .iaload, 1), (783, .aload_n 0, 1), (784, .iload_n 3, 1), (785, .iconst 2, 1), (786, .iadd, 1), (787, .iaload, 1), (788, .aload_n 0, 1), (789, .iload_n 3, 1), (790, .iconst 3, 1), (791, .iadd, 1), (792, .iaload, 1), (793, .invokevirtual 87, 3), (796, .if_icmp .eq 423, 3), (799, .iconst 0, 1)]
set_option maxRecDepth 100000 in
theorem okL_law_8 : gj_dok cL_law tbL_law_8 = true := by decide +kernel
def tbL_law_9 : List (Nat × Instr × Nat) := [(800, .ireturn, 1), (801, .aload_n 1, 1), (802, .aload_n 0, 1), (803, .iload_n 3, 1), (804, .iconst 1, 1), (805, .iadd, 1), (806, .iaload, 1), (807, .invokevirtual 88, 3), (810, .aload_n 2, 1), (811, .aload_n 0, 1), (812, .iload_n 3, 1), (813, .iconst 1, 1), (814, .iadd, 1), (815, .iaload, 1), (816, .invokevirtual 91, 3), (819, .if_icmp .eq 400, 3), (822, .iconst 0, 1), (823, .ireturn, 1), (824, .aload_n 1, 1), (825, .aload_n 0, 1), (826, .iload_n 3, 1), (827, .iconst 1, 1), (828, .iadd, 1), (829, .iaload, 1), (830, .invokevirtual 92, 3), (833, .aload_n 2, 1), (834, .aload_n 0, 1), (835, .iload_n 3, 1), (836, .iconst 1, 1), (837, .iadd, 1), (838, .iaload, 1), (839, .invokevirtual 95, 3), (842, .if_icmp .eq 377, 3), (845, .iconst 0, 1), (846, .ireturn, 1), (847, .aload_n 1, 1), (848, .aload_n 0, 1), (849, .iload_n 3, 1), (850, .iconst 1, 1), (851, .iadd, 1), (852, .iaload, 1), (853, .aload_n 0, 1), (854, .iload_n 3, 1), (855, .iconst 2, 1), (856, .iadd, 1), (857, .iaload, 1), (858, .invokevirtual 96, 3), (861, .aload_n 2, 1), (862, .aload_n 0, 1), (863, .iload_n 3, 1), (864, .iconst 1, 1), (865, .iadd, 1), (866, .iaload, 1), (867, .aload_n 0, 1), (868, .iload_n 3, 1), (869, .iconst 2, 1), (870, .iadd, 1), (871, .iaload, 1), (872, .invokevirtual 99, 3), (875, .if_icmp .eq 344, 3)]
set_option maxRecDepth 100000 in
theorem okL_law_9 : gj_dok cL_law tbL_law_9 = true := by decide +kernel
def tbL_law_10 : List (Nat × Instr × Nat) := [(878, .iconst 0, 1), (879, .ireturn, 1), (880, .aload_n 1, 1), (881, .aload_n 0, 1), (882, .iload_n 3, 1), (883, .iconst 1, 1), (884, .iadd, 1), (885, .iaload, 1), (886, .invokevirtual 100, 3), (889, .aload_n 2, 1), (890, .aload_n 0, 1), (891, .iload_n 3, 1), (892, .iconst 1, 1), (893, .iadd, 1), (894, .iaload, 1), (895, .invokevirtual 103, 3), (898, .if_icmp .eq 321, 3), (901, .iconst 0, 1), (902, .ireturn, 1), (903, .aload_n 1, 1), (904, .aload_n 0, 1), (905, .iload_n 3, 1), (906, .iconst 1, 1), (907, .iadd, 1), (908, .iaload, 1), (909, .aload_n 0, 1), (910, .iload_n 3, 1), (911, .iconst 2, 1), (912, .iadd, 1), (913, .iaload, 1), (914, .invokevirtual 104, 3), (917, .aload_n 2, 1), (918, .aload_n 0, 1), (919, .iload_n 3, 1), (920, .iconst 1, 1), (921, .iadd, 1), (922, .iaload, 1), (923, .aload_n 0, 1), (924, .iload_n 3, 1), (925, .iconst 2, 1), (926, .iadd, 1), (927, .iaload, 1), (928, .invokevirtual 108, 3), (931, .if_icmp .eq 288, 3), (934, .iconst 0, 1), (935, .ireturn, 1), (936, .aload_n 1, 1), (937, .aload_n 0, 1), (938, .iload_n 3, 1), (939, .iconst 1, 1), (940, .iadd, 1), (941, .iaload, 1), (942, .invokevirtual 109, 3), (945, .aload_n 2, 1), (946, .aload_n 0, 1), (947, .iload_n 3, 1), (948, .iconst 1, 1), (949, .iadd, 1), (950, .iaload, 1), (951, .invokevirtual 112, 3)]
set_option maxRecDepth 100000 in
theorem okL_law_10 : gj_dok cL_law tbL_law_10 = true := by decide +kernel
def tbL_law_11 : List (Nat × Instr × Nat) := [(954, .if_icmp .eq 265, 3), (957, .iconst 0, 1), (958, .ireturn, 1), (959, .aload_n 1, 1), (960, .aload_n 0, 1), (961, .iload_n 3, 1), (962, .iconst 1, 1), (963, .iadd, 1), (964, .iaload, 1), (965, .aload_n 0, 1), (966, .iload_n 3, 1), (967, .iconst 2, 1), (968, .iadd, 1), (969, .iaload, 1), (970, .invokevirtual 113, 3), (973, .aload_n 2, 1), (974, .aload_n 0, 1), (975, .iload_n 3, 1), (976, .iconst 1, 1), (977, .iadd, 1), (978, .iaload, 1), (979, .aload_n 0, 1), (980, .iload_n 3, 1), (981, .iconst 2, 1), (982, .iadd, 1), (983, .iaload, 1), (984, .invokevirtual 116, 3), (987, .if_icmp .eq 232, 3), (990, .iconst 0, 1), (991, .ireturn, 1), (992, .aload_n 1, 1), (993, .aload_n 0, 1), (994, .iload_n 3, 1), (995, .iconst 1, 1), (996, .iadd, 1), (997, .iaload, 1), (998, .invokevirtual 117, 3), (1001, .aload_n 2, 1), (1002, .aload_n 0, 1), (1003, .iload_n 3, 1), (1004, .iconst 1, 1), (1005, .iadd, 1), (1006, .iaload, 1), (1007, .invokevirtual 120, 3), (1010, .if_icmp .eq 209, 3), (1013, .iconst 0, 1), (1014, .ireturn, 1), (1015, .aload_n 1, 1), (1016, .aload_n 0, 1), (1017, .iload_n 3, 1), (1018, .iconst 1, 1), (1019, .iadd, 1), (1020, .iaload, 1), (1021, .invokevirtual 121, 3), (1024, .aload_n 2, 1), (1025, .aload_n 0, 1), (1026, .iload_n 3, 1), (1027, .iconst 1, 1), (1028, .iadd, 1), (1029, .iaload, 1)]
set_option maxRecDepth 100000 in
theorem okL_law_11 : gj_dok cL_law tbL_law_11 = true := by decide +kernel
def tbL_law_12 : List (Nat × Instr × Nat) := [(1030, .invokevirtual 124, 3), (1033, .if_icmp .eq 186, 3), (1036, .iconst 0, 1), (1037, .ireturn, 1), (1038, .aload_n 1, 1), (1039, .aload_n 0, 1), (1040, .iload_n 3, 1), (1041, .iconst 1, 1), (1042, .iadd, 1), (1043, .iaload, 1), (1044, .aload_n 0, 1), (1045, .iload_n 3, 1), (1046, .iconst 2, 1), (1047, .iadd, 1), (1048, .iaload, 1), (1049, .invokevirtual 125, 3), (1052, .aload_n 2, 1), (1053, .aload_n 0, 1), (1054, .iload_n 3, 1), (1055, .iconst 1, 1), (1056, .iadd, 1), (1057, .iaload, 1), (1058, .aload_n 0, 1), (1059, .iload_n 3, 1), (1060, .iconst 2, 1), (1061, .iadd, 1), (1062, .iaload, 1), (1063, .invokevirtual 128, 3), (1066, .if_icmp .eq 153, 3), (1069, .iconst 0, 1), (1070, .ireturn, 1), (1071, .aload_n 1, 1), (1072, .aload_n 0, 1), (1073, .iload_n 3, 1), (1074, .iconst 1, 1), (1075, .iadd, 1), (1076, .iaload, 1), (1077, .invokevirtual 129, 3), (1080, .aload_n 2, 1), (1081, .aload_n 0, 1), (1082, .iload_n 3, 1), (1083, .iconst 1, 1), (1084, .iadd, 1), (1085, .iaload, 1), (1086, .invokevirtual 132, 3), (1089, .if_icmp .eq 130, 3), (1092, .iconst 0, 1), (1093, .ireturn, 1), (1094, .aload_n 1, 1), (1095, .aload_n 0, 1), (1096, .iload_n 3, 1), (1097, .iconst 1, 1), (1098, .iadd, 1), (1099, .iaload, 1), (1100, .aload_n 0, 1), (1101, .iload_n 3, 1), (1102, .iconst 2, 1), (1103, .iadd, 1), (1104, .iaload, 1), (1105, .invokevirtual 133, 3)]
set_option maxRecDepth 100000 in
theorem okL_law_12 : gj_dok cL_law tbL_law_12 = true := by decide +kernel
def tbL_law_13 : List (Nat × Instr × Nat) := [(1108, .aload_n 2, 1), (1109, .aload_n 0, 1), (1110, .iload_n 3, 1), (1111, .iconst 1, 1), (1112, .iadd, 1), (1113, .iaload, 1), (1114, .aload_n 0, 1), (1115, .iload_n 3, 1), (1116, .iconst 2, 1), (1117, .iadd, 1), (1118, .iaload, 1), (1119, .invokevirtual 136, 3), (1122, .if_icmp .eq 97, 3), (1125, .iconst 0, 1), (1126, .ireturn, 1), (1127, .aload_n 1, 1), (1128, .aload_n 0, 1), (1129, .iload_n 3, 1), (1130, .iconst 1, 1), (1131, .iadd, 1), (1132, .iaload, 1), (1133, .invokevirtual 137, 3), (1136, .aload_n 2, 1), (1137, .aload_n 0, 1), (1138, .iload_n 3, 1), (1139, .iconst 1, 1), (1140, .iadd, 1), (1141, .iaload, 1), (1142, .invokevirtual 140, 3), (1145, .if_icmp .eq 74, 3), (1148, .iconst 0, 1), (1149, .ireturn, 1), (1150, .aload_n 1, 1), (1151, .aload_n 0, 1), (1152, .iload_n 3, 1), (1153, .iconst 1, 1), (1154, .iadd, 1), (1155, .iaload, 1), (1156, .invokevirtual 141, 3), (1159, .aload_n 2, 1), (1160, .aload_n 0, 1), (1161, .iload_n 3, 1), (1162, .iconst 1, 1), (1163, .iadd, 1), (1164, .iaload, 1), (1165, .invokevirtual 144, 3), (1168, .if_icmp .eq 51, 3), (1171, .iconst 0, 1), (1172, .ireturn, 1), (1173, .aload_n 1, 1), (1174, .aload_n 0, 1), (1175, .iload_n 3, 1), (1176, .iconst 1, 1), (1177, .iadd, 1), (1178, .iaload, 1), (1179, .invokevirtual 145, 3), (1182, .aload_n 2, 1), (1183, .aload_n 0, 1), (1184, .iload_n 3, 1), (1185, .iconst 1, 1)]
set_option maxRecDepth 100000 in
theorem okL_law_13 : gj_dok cL_law tbL_law_13 = true := by decide +kernel
def tbL_law_14 : List (Nat × Instr × Nat) := [(1186, .iadd, 1), (1187, .iaload, 1), (1188, .invokevirtual 148, 3), (1191, .if_icmp .eq 28, 3), (1194, .iconst 0, 1), (1195, .ireturn, 1), (1196, .aload_n 1, 1), (1197, .aload_n 0, 1), (1198, .iload_n 3, 1), (1199, .iconst 1, 1), (1200, .iadd, 1), (1201, .iaload, 1), (1202, .invokevirtual 149, 3), (1205, .aload_n 2, 1), (1206, .aload_n 0, 1), (1207, .iload_n 3, 1), (1208, .iconst 1, 1), (1209, .iadd, 1), (1210, .iaload, 1), (1211, .invokevirtual 152, 3), (1214, .if_icmp .eq 5, 3), (1217, .iconst 0, 1), (1218, .ireturn, 1), (1219, .iinc 3 6, 3), (1222, .goto (-1204), 3), (1225, .iconst 1, 1), (1226, .ireturn, 1)]
set_option maxRecDepth 100000 in
theorem okL_law_14 : gj_dok cL_law tbL_law_14 = true := by decide +kernel
end
section
/-! THE SYSTEM'S OBJECTS, by the order in which the two constructors make them (0 the class, 79 the reference) -/
section GJ6
variable {G : gj_G} {l : Launch} {d mc ms : Nat} {y : MethodName} {cc : ByteArray} {nL : Nat} {ret : Option FieldType} {Q : Option gj_V → gj_S → gj_M → Prop} {k n pc q : Nat} {ls : List (Nat × gj_V)} {st st' : List gj_V} {S : gj_S} {M : gj_M}
theorem gj_gI {z j : Int} {idx ci i N : Nat} {fin : Bool} (hd : decode cc pc = .ok (.getfield idx, 3)) (hf : gj_F y.cls idx ci i N 0 fin) (hs : S.2.1 z = (10 + ci, (N : Int))) (hk99 : ci ≠ 89) (hj : (i : Int) = j) (hq : pc + 3 = q) (K : gj_W G l d mc ms y cc nL ret Q k n q ls (jI (M z j) :: st) S M) : gj_W G l d mc ms y cc nL ret Q k n pc ls (jR z :: st) S M := by
  subst hj
  exact gj_getI hd hf hs hk99 hq K
theorem gj_gZ {z j : Int} {idx ci i N : Nat} {fin : Bool} (hd : decode cc pc = .ok (.getfield idx, 3)) (hf : gj_F y.cls idx ci i N 3 fin) (hs : S.2.1 z = (10 + ci, (N : Int))) (hk99 : ci ≠ 89) (hj : (i : Int) = j) (hq : pc + 3 = q) (K : gj_W G l d mc ms y cc nL ret Q k n q ls (jI (M z j) :: st) S M) : gj_W G l d mc ms y cc nL ret Q k n pc ls (jR z :: st) S M := by
  subst hj
  exact gj_getZ hd hf hs hk99 hq K
theorem gj_gL {z j : Int} {idx ci i N : Nat} {fin : Bool} (hd : decode cc pc = .ok (.getfield idx, 3)) (hf : gj_F y.cls idx ci i N 1 fin) (hs : S.2.1 z = (10 + ci, (N : Int))) (hk99 : ci ≠ 89) (hj : (i : Int) = j) (hq : pc + 3 = q) (K : gj_W G l d mc ms y cc nL ret Q k n q ls (jL (M z j) :: st) S M) : gj_W G l d mc ms y cc nL ret Q k n pc ls (jR z :: st) S M := by
  subst hj
  exact gj_getL hd hf hs hk99 hq K
theorem gj_gR {z w j : Int} {idx ci i N : Nat} {fin : Bool} (hd : decode cc pc = .ok (.getfield idx, 3)) (hf : gj_F y.cls idx ci i N 4 fin) (hs : S.2.1 z = (10 + ci, (N : Int))) (hk99 : ci ≠ 89) (hj : (i : Int) = j) (hw : S.2.2 z j = w) (hq : pc + 3 = q) (K : gj_W G l d mc ms y cc nL ret Q k n q ls (jR w :: st) S M) : gj_W G l d mc ms y cc nL ret Q k n pc ls (jR z :: st) S M := by
  subst hj
  exact gj_getR hd hf hs hk99 hw hq K
theorem gj_pfI {z x j : Int} {idx ci i N : Nat} (hd : decode cc pc = .ok (.putfield idx, 3)) (hf : gj_F y.cls idx ci i N 0 false) (hs : S.2.1 z = (10 + ci, (N : Int))) (hk99 : ci ≠ 89) (hj : (i : Int) = j) (hq : pc + 3 = q) (K : gj_W G l d mc ms y cc nL ret Q k n q ls st S (gj_up M z j x)) : gj_W G l d mc ms y cc nL ret Q k n pc ls (jI x :: jR z :: st) S M := by
  subst hj
  exact gj_putI hd hf hs hk99 hq K
theorem gj_pfL {z x j : Int} {idx ci i N : Nat} (hd : decode cc pc = .ok (.putfield idx, 3)) (hf : gj_F y.cls idx ci i N 1 false) (hs : S.2.1 z = (10 + ci, (N : Int))) (hk99 : ci ≠ 89) (hj : (i : Int) = j) (hq : pc + 3 = q) (K : gj_W G l d mc ms y cc nL ret Q k n q ls st S (gj_up M z j x)) : gj_W G l d mc ms y cc nL ret Q k n pc ls (jL x :: jR z :: st) S M := by
  subst hj
  exact gj_putL hd hf hs hk99 hq K
theorem gj_pfZ {z x j : Int} {idx ci i N : Nat} (hd : decode cc pc = .ok (.putfield idx, 3)) (hf : gj_F y.cls idx ci i N 3 false) (hs : S.2.1 z = (10 + ci, (N : Int))) (hk99 : ci ≠ 89) (hx : x = 0 ∨ x = 1) (hj : (i : Int) = j) (hq : pc + 3 = q) (K : gj_W G l d mc ms y cc nL ret Q k n q ls st S (gj_up M z j x)) : gj_W G l d mc ms y cc nL ret Q k n pc ls (jI x :: jR z :: st) S M := by
  subst hj
  exact gj_putZ hd hf hs hk99 hx hq K
end GJ6
def gj_shl : List (Nat × Int) := [(19, 12), (18, 2), (0, 500), (15, 16), (0, 8), (0, 32), (0, 32), (0, 32), (0, 16), (0, 800), (16, 10), (1, 8), (3, 32), (3, 16), (15, 16), (0, 8), (0, 32), (0, 32), (0, 32), (0, 16), (0, 800), (13, 11), (0, 8), (0, 8), (0, 8), (0, 8), (0, 16), (0, 16), (0, 16), (11, 3), (0, 200), (14, 11), (0, 4), (0, 4), (0, 4), (12, 7), (0, 32), (3, 16), (3, 8), (3, 16), (0, 8), (10, 3), (0, 8), (0, 8), (17, 5), (3, 8), (4, 3), (13, 11), (0, 8), (0, 8), (0, 8), (0, 8), (0, 16), (0, 16), (0, 16), (11, 3), (0, 200), (13, 11), (0, 8), (0, 8), (0, 8), (0, 8), (0, 16), (0, 16), (0, 16), (11, 3), (0, 200), (13, 11), (0, 8), (0, 8), (0, 8), (0, 8), (0, 16), (0, 16), (0, 16), (11, 3), (0, 200), (3, 3), (0, 3), (20, 55), (0, 3), (2, 500), (6, 2), (0, 8), (0, 8), (6, 2), (0, 32), (0, 32), (6, 2), (0, 32), (0, 32), (6, 2), (0, 32), (0, 32), (6, 2), (0, 16), (0, 16), (6, 2), (0, 8), (0, 8), (6, 2), (0, 2), (0, 2), (1, 8), (3, 32), (3, 16), (3, 9), (5, 9), (0, 8), (0, 8), (0, 8), (0, 8), (0, 16), (0, 16), (0, 16), (0, 4), (0, 4), (0, 100), (0, 100), (0, 8), (0, 8), (0, 16), (0, 200), (0, 8), (0, 8), (0, 8), (0, 16), (0, 16), (0, 16), (0, 8), (6, 3), (0, 284), (0, 284), (0, 284), (1, 3), (3, 3)]
def gj_rfl : List (List Int) := [[1, 3, 10, 14, 21, 31, 35, 41, 44, 46, 77, 78], [2], [], [-1, -1, -1, -1, -1, -1, -1, -1, -1, -1, 4, 5, 6, 7, 8, 9], [], [], [], [], [], [], [1, 3, 11, 12, 13], [], [], [], [-1, -1, -1, -1, -1, -1, -1, -1, -1, -1, 15, 16, 17, 18, 19, 20], [], [], [], [], [], [], [-1, -1, -1, 22, 23, 24, 25, 26, 27, 28, 29], [], [], [], [], [], [], [], [30], [], [14, 21, 32, 33, 34], [], [], [], [14, 21, 36, 37, 38, 39, 40], [], [], [], [], [], [14, 42, 43], [], [], [14, 21, 31, 35, 45], [], [47, 57, 67], [-1, -1, -1, 48, 49, 50, 51, 52, 53, 54, 55], [], [], [], [], [], [], [], [56], [], [-1, -1, -1, 58, 59, 60, 61, 62, 63, 64, 65], [], [], [], [], [], [], [], [66], [], [-1, -1, -1, 68, 69, 70, 71, 72, 73, 74, 75], [], [], [], [], [], [], [], [76], [], [], [], [80, 81, -1, -1, -1, -1, -1, 82, 85, 88, 91, 94, 97, 100, 103, 104, 105, 106, -1, 107, 108, 109, 110, 111, 112, 113, 114, -1, -1, -1, -1, 115, 116, 117, 118, -1, -1, -1, -1, 119, 120, 121, 122, 123, 124, 125, -1, 126, 127, 128, 129, 130, 134, 135], [], [], [83, 84], [], [], [86, 87], [], [], [89, 90], [], [], [92, 93], [], [], [95, 96], [], [], [98, 99], [], [], [101, 102], [], [], [], [], [], [], [-2, -3, -4, -5, -6, -7, -8, -9, -10], [], [], [], [], [], [], [], [], [], [], [], [], [], [], [], [], [], [], [], [], [], [], [131, 132, 133], [], [], [], [], []]
def gj_sh0 (z : Int) : Nat × Int := gj_shl.getD z.toNat (99, 0)
def gj_rf0 (z i : Int) : Int := if 0 ≤ i then (gj_rfl.getD z.toNat []).getD i.toNat (-1) else -1
/-- the system stands: its 136 objects with their references; what came later are arrays of numbers -/
def gj_Stat (S : gj_S) : Prop := 136 ≤ S.1 ∧ (∀ z : Int, 0 ≤ z → z < 136 → S.2.1 z = gj_sh0 z) ∧ ∀ z i : Int, 0 ≤ z → z < 136 → 0 ≤ i → S.2.2 z i = gj_rf0 z i
section GJ7
variable {S : gj_S}
theorem sh0 (h : gj_Stat S) : S.2.1 0 = (19, 12) := h.2.1 0 (by decide) (by decide)
theorem sh1 (h : gj_Stat S) : S.2.1 1 = (18, 2) := h.2.1 1 (by decide) (by decide)
theorem sh2 (h : gj_Stat S) : S.2.1 2 = (0, 500) := h.2.1 2 (by decide) (by decide)
theorem sh3 (h : gj_Stat S) : S.2.1 3 = (15, 16) := h.2.1 3 (by decide) (by decide)
theorem sh4 (h : gj_Stat S) : S.2.1 4 = (0, 8) := h.2.1 4 (by decide) (by decide)
theorem sh5 (h : gj_Stat S) : S.2.1 5 = (0, 32) := h.2.1 5 (by decide) (by decide)
theorem sh6 (h : gj_Stat S) : S.2.1 6 = (0, 32) := h.2.1 6 (by decide) (by decide)
theorem sh7 (h : gj_Stat S) : S.2.1 7 = (0, 32) := h.2.1 7 (by decide) (by decide)
theorem sh8 (h : gj_Stat S) : S.2.1 8 = (0, 16) := h.2.1 8 (by decide) (by decide)
theorem sh9 (h : gj_Stat S) : S.2.1 9 = (0, 800) := h.2.1 9 (by decide) (by decide)
theorem sh10 (h : gj_Stat S) : S.2.1 10 = (16, 10) := h.2.1 10 (by decide) (by decide)
theorem sh11 (h : gj_Stat S) : S.2.1 11 = (1, 8) := h.2.1 11 (by decide) (by decide)
theorem sh12 (h : gj_Stat S) : S.2.1 12 = (3, 32) := h.2.1 12 (by decide) (by decide)
theorem sh13 (h : gj_Stat S) : S.2.1 13 = (3, 16) := h.2.1 13 (by decide) (by decide)
theorem sh14 (h : gj_Stat S) : S.2.1 14 = (15, 16) := h.2.1 14 (by decide) (by decide)
theorem sh15 (h : gj_Stat S) : S.2.1 15 = (0, 8) := h.2.1 15 (by decide) (by decide)
theorem sh16 (h : gj_Stat S) : S.2.1 16 = (0, 32) := h.2.1 16 (by decide) (by decide)
theorem sh17 (h : gj_Stat S) : S.2.1 17 = (0, 32) := h.2.1 17 (by decide) (by decide)
theorem sh18 (h : gj_Stat S) : S.2.1 18 = (0, 32) := h.2.1 18 (by decide) (by decide)
theorem sh19 (h : gj_Stat S) : S.2.1 19 = (0, 16) := h.2.1 19 (by decide) (by decide)
theorem sh20 (h : gj_Stat S) : S.2.1 20 = (0, 800) := h.2.1 20 (by decide) (by decide)
theorem sh21 (h : gj_Stat S) : S.2.1 21 = (13, 11) := h.2.1 21 (by decide) (by decide)
theorem sh22 (h : gj_Stat S) : S.2.1 22 = (0, 8) := h.2.1 22 (by decide) (by decide)
theorem sh23 (h : gj_Stat S) : S.2.1 23 = (0, 8) := h.2.1 23 (by decide) (by decide)
theorem sh24 (h : gj_Stat S) : S.2.1 24 = (0, 8) := h.2.1 24 (by decide) (by decide)
theorem sh25 (h : gj_Stat S) : S.2.1 25 = (0, 8) := h.2.1 25 (by decide) (by decide)
theorem sh26 (h : gj_Stat S) : S.2.1 26 = (0, 16) := h.2.1 26 (by decide) (by decide)
theorem sh27 (h : gj_Stat S) : S.2.1 27 = (0, 16) := h.2.1 27 (by decide) (by decide)
theorem sh28 (h : gj_Stat S) : S.2.1 28 = (0, 16) := h.2.1 28 (by decide) (by decide)
theorem sh29 (h : gj_Stat S) : S.2.1 29 = (11, 3) := h.2.1 29 (by decide) (by decide)
theorem sh30 (h : gj_Stat S) : S.2.1 30 = (0, 200) := h.2.1 30 (by decide) (by decide)
theorem sh31 (h : gj_Stat S) : S.2.1 31 = (14, 11) := h.2.1 31 (by decide) (by decide)
theorem sh32 (h : gj_Stat S) : S.2.1 32 = (0, 4) := h.2.1 32 (by decide) (by decide)
theorem sh33 (h : gj_Stat S) : S.2.1 33 = (0, 4) := h.2.1 33 (by decide) (by decide)
theorem sh34 (h : gj_Stat S) : S.2.1 34 = (0, 4) := h.2.1 34 (by decide) (by decide)
theorem sh35 (h : gj_Stat S) : S.2.1 35 = (12, 7) := h.2.1 35 (by decide) (by decide)
theorem sh36 (h : gj_Stat S) : S.2.1 36 = (0, 32) := h.2.1 36 (by decide) (by decide)
theorem sh37 (h : gj_Stat S) : S.2.1 37 = (3, 16) := h.2.1 37 (by decide) (by decide)
theorem sh38 (h : gj_Stat S) : S.2.1 38 = (3, 8) := h.2.1 38 (by decide) (by decide)
theorem sh39 (h : gj_Stat S) : S.2.1 39 = (3, 16) := h.2.1 39 (by decide) (by decide)
theorem sh40 (h : gj_Stat S) : S.2.1 40 = (0, 8) := h.2.1 40 (by decide) (by decide)
theorem sh41 (h : gj_Stat S) : S.2.1 41 = (10, 3) := h.2.1 41 (by decide) (by decide)
theorem sh42 (h : gj_Stat S) : S.2.1 42 = (0, 8) := h.2.1 42 (by decide) (by decide)
theorem sh43 (h : gj_Stat S) : S.2.1 43 = (0, 8) := h.2.1 43 (by decide) (by decide)
theorem sh44 (h : gj_Stat S) : S.2.1 44 = (17, 5) := h.2.1 44 (by decide) (by decide)
theorem sh45 (h : gj_Stat S) : S.2.1 45 = (3, 8) := h.2.1 45 (by decide) (by decide)
theorem sh46 (h : gj_Stat S) : S.2.1 46 = (4, 3) := h.2.1 46 (by decide) (by decide)
theorem sh47 (h : gj_Stat S) : S.2.1 47 = (13, 11) := h.2.1 47 (by decide) (by decide)
theorem sh48 (h : gj_Stat S) : S.2.1 48 = (0, 8) := h.2.1 48 (by decide) (by decide)
theorem sh49 (h : gj_Stat S) : S.2.1 49 = (0, 8) := h.2.1 49 (by decide) (by decide)
theorem sh50 (h : gj_Stat S) : S.2.1 50 = (0, 8) := h.2.1 50 (by decide) (by decide)
theorem sh51 (h : gj_Stat S) : S.2.1 51 = (0, 8) := h.2.1 51 (by decide) (by decide)
theorem sh52 (h : gj_Stat S) : S.2.1 52 = (0, 16) := h.2.1 52 (by decide) (by decide)
theorem sh53 (h : gj_Stat S) : S.2.1 53 = (0, 16) := h.2.1 53 (by decide) (by decide)
theorem sh54 (h : gj_Stat S) : S.2.1 54 = (0, 16) := h.2.1 54 (by decide) (by decide)
theorem sh55 (h : gj_Stat S) : S.2.1 55 = (11, 3) := h.2.1 55 (by decide) (by decide)
theorem sh56 (h : gj_Stat S) : S.2.1 56 = (0, 200) := h.2.1 56 (by decide) (by decide)
theorem sh57 (h : gj_Stat S) : S.2.1 57 = (13, 11) := h.2.1 57 (by decide) (by decide)
theorem sh58 (h : gj_Stat S) : S.2.1 58 = (0, 8) := h.2.1 58 (by decide) (by decide)
theorem sh59 (h : gj_Stat S) : S.2.1 59 = (0, 8) := h.2.1 59 (by decide) (by decide)
theorem sh60 (h : gj_Stat S) : S.2.1 60 = (0, 8) := h.2.1 60 (by decide) (by decide)
theorem sh61 (h : gj_Stat S) : S.2.1 61 = (0, 8) := h.2.1 61 (by decide) (by decide)
theorem sh62 (h : gj_Stat S) : S.2.1 62 = (0, 16) := h.2.1 62 (by decide) (by decide)
theorem sh63 (h : gj_Stat S) : S.2.1 63 = (0, 16) := h.2.1 63 (by decide) (by decide)
theorem sh64 (h : gj_Stat S) : S.2.1 64 = (0, 16) := h.2.1 64 (by decide) (by decide)
theorem sh65 (h : gj_Stat S) : S.2.1 65 = (11, 3) := h.2.1 65 (by decide) (by decide)
theorem sh66 (h : gj_Stat S) : S.2.1 66 = (0, 200) := h.2.1 66 (by decide) (by decide)
theorem sh67 (h : gj_Stat S) : S.2.1 67 = (13, 11) := h.2.1 67 (by decide) (by decide)
theorem sh68 (h : gj_Stat S) : S.2.1 68 = (0, 8) := h.2.1 68 (by decide) (by decide)
theorem sh69 (h : gj_Stat S) : S.2.1 69 = (0, 8) := h.2.1 69 (by decide) (by decide)
theorem sh70 (h : gj_Stat S) : S.2.1 70 = (0, 8) := h.2.1 70 (by decide) (by decide)
theorem sh71 (h : gj_Stat S) : S.2.1 71 = (0, 8) := h.2.1 71 (by decide) (by decide)
theorem sh72 (h : gj_Stat S) : S.2.1 72 = (0, 16) := h.2.1 72 (by decide) (by decide)
theorem sh73 (h : gj_Stat S) : S.2.1 73 = (0, 16) := h.2.1 73 (by decide) (by decide)
theorem sh74 (h : gj_Stat S) : S.2.1 74 = (0, 16) := h.2.1 74 (by decide) (by decide)
theorem sh75 (h : gj_Stat S) : S.2.1 75 = (11, 3) := h.2.1 75 (by decide) (by decide)
theorem sh76 (h : gj_Stat S) : S.2.1 76 = (0, 200) := h.2.1 76 (by decide) (by decide)
theorem sh77 (h : gj_Stat S) : S.2.1 77 = (3, 3) := h.2.1 77 (by decide) (by decide)
theorem sh78 (h : gj_Stat S) : S.2.1 78 = (0, 3) := h.2.1 78 (by decide) (by decide)
theorem sh79 (h : gj_Stat S) : S.2.1 79 = (20, 55) := h.2.1 79 (by decide) (by decide)
theorem sh80 (h : gj_Stat S) : S.2.1 80 = (0, 3) := h.2.1 80 (by decide) (by decide)
theorem sh81 (h : gj_Stat S) : S.2.1 81 = (2, 500) := h.2.1 81 (by decide) (by decide)
theorem sh82 (h : gj_Stat S) : S.2.1 82 = (6, 2) := h.2.1 82 (by decide) (by decide)
theorem sh83 (h : gj_Stat S) : S.2.1 83 = (0, 8) := h.2.1 83 (by decide) (by decide)
theorem sh84 (h : gj_Stat S) : S.2.1 84 = (0, 8) := h.2.1 84 (by decide) (by decide)
theorem sh85 (h : gj_Stat S) : S.2.1 85 = (6, 2) := h.2.1 85 (by decide) (by decide)
theorem sh86 (h : gj_Stat S) : S.2.1 86 = (0, 32) := h.2.1 86 (by decide) (by decide)
theorem sh87 (h : gj_Stat S) : S.2.1 87 = (0, 32) := h.2.1 87 (by decide) (by decide)
theorem sh88 (h : gj_Stat S) : S.2.1 88 = (6, 2) := h.2.1 88 (by decide) (by decide)
theorem sh89 (h : gj_Stat S) : S.2.1 89 = (0, 32) := h.2.1 89 (by decide) (by decide)
theorem sh90 (h : gj_Stat S) : S.2.1 90 = (0, 32) := h.2.1 90 (by decide) (by decide)
theorem sh91 (h : gj_Stat S) : S.2.1 91 = (6, 2) := h.2.1 91 (by decide) (by decide)
theorem sh92 (h : gj_Stat S) : S.2.1 92 = (0, 32) := h.2.1 92 (by decide) (by decide)
theorem sh93 (h : gj_Stat S) : S.2.1 93 = (0, 32) := h.2.1 93 (by decide) (by decide)
theorem sh94 (h : gj_Stat S) : S.2.1 94 = (6, 2) := h.2.1 94 (by decide) (by decide)
theorem sh95 (h : gj_Stat S) : S.2.1 95 = (0, 16) := h.2.1 95 (by decide) (by decide)
theorem sh96 (h : gj_Stat S) : S.2.1 96 = (0, 16) := h.2.1 96 (by decide) (by decide)
theorem sh97 (h : gj_Stat S) : S.2.1 97 = (6, 2) := h.2.1 97 (by decide) (by decide)
theorem sh98 (h : gj_Stat S) : S.2.1 98 = (0, 8) := h.2.1 98 (by decide) (by decide)
theorem sh99 (h : gj_Stat S) : S.2.1 99 = (0, 8) := h.2.1 99 (by decide) (by decide)
theorem sh100 (h : gj_Stat S) : S.2.1 100 = (6, 2) := h.2.1 100 (by decide) (by decide)
theorem sh101 (h : gj_Stat S) : S.2.1 101 = (0, 2) := h.2.1 101 (by decide) (by decide)
theorem sh102 (h : gj_Stat S) : S.2.1 102 = (0, 2) := h.2.1 102 (by decide) (by decide)
theorem sh103 (h : gj_Stat S) : S.2.1 103 = (1, 8) := h.2.1 103 (by decide) (by decide)
theorem sh104 (h : gj_Stat S) : S.2.1 104 = (3, 32) := h.2.1 104 (by decide) (by decide)
theorem sh105 (h : gj_Stat S) : S.2.1 105 = (3, 16) := h.2.1 105 (by decide) (by decide)
theorem sh106 (h : gj_Stat S) : S.2.1 106 = (3, 9) := h.2.1 106 (by decide) (by decide)
theorem sh107 (h : gj_Stat S) : S.2.1 107 = (5, 9) := h.2.1 107 (by decide) (by decide)
theorem sh108 (h : gj_Stat S) : S.2.1 108 = (0, 8) := h.2.1 108 (by decide) (by decide)
theorem sh109 (h : gj_Stat S) : S.2.1 109 = (0, 8) := h.2.1 109 (by decide) (by decide)
theorem sh110 (h : gj_Stat S) : S.2.1 110 = (0, 8) := h.2.1 110 (by decide) (by decide)
theorem sh111 (h : gj_Stat S) : S.2.1 111 = (0, 8) := h.2.1 111 (by decide) (by decide)
theorem sh112 (h : gj_Stat S) : S.2.1 112 = (0, 16) := h.2.1 112 (by decide) (by decide)
theorem sh113 (h : gj_Stat S) : S.2.1 113 = (0, 16) := h.2.1 113 (by decide) (by decide)
theorem sh114 (h : gj_Stat S) : S.2.1 114 = (0, 16) := h.2.1 114 (by decide) (by decide)
theorem sh115 (h : gj_Stat S) : S.2.1 115 = (0, 4) := h.2.1 115 (by decide) (by decide)
theorem sh116 (h : gj_Stat S) : S.2.1 116 = (0, 4) := h.2.1 116 (by decide) (by decide)
theorem sh117 (h : gj_Stat S) : S.2.1 117 = (0, 100) := h.2.1 117 (by decide) (by decide)
theorem sh118 (h : gj_Stat S) : S.2.1 118 = (0, 100) := h.2.1 118 (by decide) (by decide)
theorem sh119 (h : gj_Stat S) : S.2.1 119 = (0, 8) := h.2.1 119 (by decide) (by decide)
theorem sh120 (h : gj_Stat S) : S.2.1 120 = (0, 8) := h.2.1 120 (by decide) (by decide)
theorem sh121 (h : gj_Stat S) : S.2.1 121 = (0, 16) := h.2.1 121 (by decide) (by decide)
theorem sh122 (h : gj_Stat S) : S.2.1 122 = (0, 200) := h.2.1 122 (by decide) (by decide)
theorem sh123 (h : gj_Stat S) : S.2.1 123 = (0, 8) := h.2.1 123 (by decide) (by decide)
theorem sh124 (h : gj_Stat S) : S.2.1 124 = (0, 8) := h.2.1 124 (by decide) (by decide)
theorem sh125 (h : gj_Stat S) : S.2.1 125 = (0, 8) := h.2.1 125 (by decide) (by decide)
theorem sh126 (h : gj_Stat S) : S.2.1 126 = (0, 16) := h.2.1 126 (by decide) (by decide)
theorem sh127 (h : gj_Stat S) : S.2.1 127 = (0, 16) := h.2.1 127 (by decide) (by decide)
theorem sh128 (h : gj_Stat S) : S.2.1 128 = (0, 16) := h.2.1 128 (by decide) (by decide)
theorem sh129 (h : gj_Stat S) : S.2.1 129 = (0, 8) := h.2.1 129 (by decide) (by decide)
theorem sh130 (h : gj_Stat S) : S.2.1 130 = (6, 3) := h.2.1 130 (by decide) (by decide)
theorem sh131 (h : gj_Stat S) : S.2.1 131 = (0, 284) := h.2.1 131 (by decide) (by decide)
theorem sh132 (h : gj_Stat S) : S.2.1 132 = (0, 284) := h.2.1 132 (by decide) (by decide)
theorem sh133 (h : gj_Stat S) : S.2.1 133 = (0, 284) := h.2.1 133 (by decide) (by decide)
theorem sh134 (h : gj_Stat S) : S.2.1 134 = (1, 3) := h.2.1 134 (by decide) (by decide)
theorem sh135 (h : gj_Stat S) : S.2.1 135 = (3, 3) := h.2.1 135 (by decide) (by decide)
theorem rf0_0 (h : gj_Stat S) : S.2.2 0 0 = 1 := h.2.2 0 0 (by decide) (by decide) (by decide)
theorem rf0_1 (h : gj_Stat S) : S.2.2 0 1 = 3 := h.2.2 0 1 (by decide) (by decide) (by decide)
theorem rf0_2 (h : gj_Stat S) : S.2.2 0 2 = 10 := h.2.2 0 2 (by decide) (by decide) (by decide)
theorem rf0_3 (h : gj_Stat S) : S.2.2 0 3 = 14 := h.2.2 0 3 (by decide) (by decide) (by decide)
theorem rf0_4 (h : gj_Stat S) : S.2.2 0 4 = 21 := h.2.2 0 4 (by decide) (by decide) (by decide)
theorem rf0_5 (h : gj_Stat S) : S.2.2 0 5 = 31 := h.2.2 0 5 (by decide) (by decide) (by decide)
theorem rf0_6 (h : gj_Stat S) : S.2.2 0 6 = 35 := h.2.2 0 6 (by decide) (by decide) (by decide)
theorem rf0_7 (h : gj_Stat S) : S.2.2 0 7 = 41 := h.2.2 0 7 (by decide) (by decide) (by decide)
theorem rf0_8 (h : gj_Stat S) : S.2.2 0 8 = 44 := h.2.2 0 8 (by decide) (by decide) (by decide)
theorem rf0_9 (h : gj_Stat S) : S.2.2 0 9 = 46 := h.2.2 0 9 (by decide) (by decide) (by decide)
theorem rf0_10 (h : gj_Stat S) : S.2.2 0 10 = 77 := h.2.2 0 10 (by decide) (by decide) (by decide)
theorem rf0_11 (h : gj_Stat S) : S.2.2 0 11 = 78 := h.2.2 0 11 (by decide) (by decide) (by decide)
theorem rf1_0 (h : gj_Stat S) : S.2.2 1 0 = 2 := h.2.2 1 0 (by decide) (by decide) (by decide)
theorem rf3_10 (h : gj_Stat S) : S.2.2 3 10 = 4 := h.2.2 3 10 (by decide) (by decide) (by decide)
theorem rf3_11 (h : gj_Stat S) : S.2.2 3 11 = 5 := h.2.2 3 11 (by decide) (by decide) (by decide)
theorem rf3_12 (h : gj_Stat S) : S.2.2 3 12 = 6 := h.2.2 3 12 (by decide) (by decide) (by decide)
theorem rf3_13 (h : gj_Stat S) : S.2.2 3 13 = 7 := h.2.2 3 13 (by decide) (by decide) (by decide)
theorem rf3_14 (h : gj_Stat S) : S.2.2 3 14 = 8 := h.2.2 3 14 (by decide) (by decide) (by decide)
theorem rf3_15 (h : gj_Stat S) : S.2.2 3 15 = 9 := h.2.2 3 15 (by decide) (by decide) (by decide)
theorem rf10_0 (h : gj_Stat S) : S.2.2 10 0 = 1 := h.2.2 10 0 (by decide) (by decide) (by decide)
theorem rf10_1 (h : gj_Stat S) : S.2.2 10 1 = 3 := h.2.2 10 1 (by decide) (by decide) (by decide)
theorem rf10_2 (h : gj_Stat S) : S.2.2 10 2 = 11 := h.2.2 10 2 (by decide) (by decide) (by decide)
theorem rf10_3 (h : gj_Stat S) : S.2.2 10 3 = 12 := h.2.2 10 3 (by decide) (by decide) (by decide)
theorem rf10_4 (h : gj_Stat S) : S.2.2 10 4 = 13 := h.2.2 10 4 (by decide) (by decide) (by decide)
theorem rf14_10 (h : gj_Stat S) : S.2.2 14 10 = 15 := h.2.2 14 10 (by decide) (by decide) (by decide)
theorem rf14_11 (h : gj_Stat S) : S.2.2 14 11 = 16 := h.2.2 14 11 (by decide) (by decide) (by decide)
theorem rf14_12 (h : gj_Stat S) : S.2.2 14 12 = 17 := h.2.2 14 12 (by decide) (by decide) (by decide)
theorem rf14_13 (h : gj_Stat S) : S.2.2 14 13 = 18 := h.2.2 14 13 (by decide) (by decide) (by decide)
theorem rf14_14 (h : gj_Stat S) : S.2.2 14 14 = 19 := h.2.2 14 14 (by decide) (by decide) (by decide)
theorem rf14_15 (h : gj_Stat S) : S.2.2 14 15 = 20 := h.2.2 14 15 (by decide) (by decide) (by decide)
theorem rf21_3 (h : gj_Stat S) : S.2.2 21 3 = 22 := h.2.2 21 3 (by decide) (by decide) (by decide)
theorem rf21_4 (h : gj_Stat S) : S.2.2 21 4 = 23 := h.2.2 21 4 (by decide) (by decide) (by decide)
theorem rf21_5 (h : gj_Stat S) : S.2.2 21 5 = 24 := h.2.2 21 5 (by decide) (by decide) (by decide)
theorem rf21_6 (h : gj_Stat S) : S.2.2 21 6 = 25 := h.2.2 21 6 (by decide) (by decide) (by decide)
theorem rf21_7 (h : gj_Stat S) : S.2.2 21 7 = 26 := h.2.2 21 7 (by decide) (by decide) (by decide)
theorem rf21_8 (h : gj_Stat S) : S.2.2 21 8 = 27 := h.2.2 21 8 (by decide) (by decide) (by decide)
theorem rf21_9 (h : gj_Stat S) : S.2.2 21 9 = 28 := h.2.2 21 9 (by decide) (by decide) (by decide)
theorem rf21_10 (h : gj_Stat S) : S.2.2 21 10 = 29 := h.2.2 21 10 (by decide) (by decide) (by decide)
theorem rf29_0 (h : gj_Stat S) : S.2.2 29 0 = 30 := h.2.2 29 0 (by decide) (by decide) (by decide)
theorem rf31_0 (h : gj_Stat S) : S.2.2 31 0 = 14 := h.2.2 31 0 (by decide) (by decide) (by decide)
theorem rf31_1 (h : gj_Stat S) : S.2.2 31 1 = 21 := h.2.2 31 1 (by decide) (by decide) (by decide)
theorem rf31_2 (h : gj_Stat S) : S.2.2 31 2 = 32 := h.2.2 31 2 (by decide) (by decide) (by decide)
theorem rf31_3 (h : gj_Stat S) : S.2.2 31 3 = 33 := h.2.2 31 3 (by decide) (by decide) (by decide)
theorem rf31_4 (h : gj_Stat S) : S.2.2 31 4 = 34 := h.2.2 31 4 (by decide) (by decide) (by decide)
theorem rf35_0 (h : gj_Stat S) : S.2.2 35 0 = 14 := h.2.2 35 0 (by decide) (by decide) (by decide)
theorem rf35_1 (h : gj_Stat S) : S.2.2 35 1 = 21 := h.2.2 35 1 (by decide) (by decide) (by decide)
theorem rf35_2 (h : gj_Stat S) : S.2.2 35 2 = 36 := h.2.2 35 2 (by decide) (by decide) (by decide)
theorem rf35_3 (h : gj_Stat S) : S.2.2 35 3 = 37 := h.2.2 35 3 (by decide) (by decide) (by decide)
theorem rf35_4 (h : gj_Stat S) : S.2.2 35 4 = 38 := h.2.2 35 4 (by decide) (by decide) (by decide)
theorem rf35_5 (h : gj_Stat S) : S.2.2 35 5 = 39 := h.2.2 35 5 (by decide) (by decide) (by decide)
theorem rf35_6 (h : gj_Stat S) : S.2.2 35 6 = 40 := h.2.2 35 6 (by decide) (by decide) (by decide)
theorem rf41_0 (h : gj_Stat S) : S.2.2 41 0 = 14 := h.2.2 41 0 (by decide) (by decide) (by decide)
theorem rf41_1 (h : gj_Stat S) : S.2.2 41 1 = 42 := h.2.2 41 1 (by decide) (by decide) (by decide)
theorem rf41_2 (h : gj_Stat S) : S.2.2 41 2 = 43 := h.2.2 41 2 (by decide) (by decide) (by decide)
theorem rf44_0 (h : gj_Stat S) : S.2.2 44 0 = 14 := h.2.2 44 0 (by decide) (by decide) (by decide)
theorem rf44_1 (h : gj_Stat S) : S.2.2 44 1 = 21 := h.2.2 44 1 (by decide) (by decide) (by decide)
theorem rf44_2 (h : gj_Stat S) : S.2.2 44 2 = 31 := h.2.2 44 2 (by decide) (by decide) (by decide)
theorem rf44_3 (h : gj_Stat S) : S.2.2 44 3 = 35 := h.2.2 44 3 (by decide) (by decide) (by decide)
theorem rf44_4 (h : gj_Stat S) : S.2.2 44 4 = 45 := h.2.2 44 4 (by decide) (by decide) (by decide)
theorem rf46_0 (h : gj_Stat S) : S.2.2 46 0 = 47 := h.2.2 46 0 (by decide) (by decide) (by decide)
theorem rf46_1 (h : gj_Stat S) : S.2.2 46 1 = 57 := h.2.2 46 1 (by decide) (by decide) (by decide)
theorem rf46_2 (h : gj_Stat S) : S.2.2 46 2 = 67 := h.2.2 46 2 (by decide) (by decide) (by decide)
theorem rf47_3 (h : gj_Stat S) : S.2.2 47 3 = 48 := h.2.2 47 3 (by decide) (by decide) (by decide)
theorem rf47_4 (h : gj_Stat S) : S.2.2 47 4 = 49 := h.2.2 47 4 (by decide) (by decide) (by decide)
theorem rf47_5 (h : gj_Stat S) : S.2.2 47 5 = 50 := h.2.2 47 5 (by decide) (by decide) (by decide)
theorem rf47_6 (h : gj_Stat S) : S.2.2 47 6 = 51 := h.2.2 47 6 (by decide) (by decide) (by decide)
theorem rf47_7 (h : gj_Stat S) : S.2.2 47 7 = 52 := h.2.2 47 7 (by decide) (by decide) (by decide)
theorem rf47_8 (h : gj_Stat S) : S.2.2 47 8 = 53 := h.2.2 47 8 (by decide) (by decide) (by decide)
theorem rf47_9 (h : gj_Stat S) : S.2.2 47 9 = 54 := h.2.2 47 9 (by decide) (by decide) (by decide)
theorem rf47_10 (h : gj_Stat S) : S.2.2 47 10 = 55 := h.2.2 47 10 (by decide) (by decide) (by decide)
theorem rf55_0 (h : gj_Stat S) : S.2.2 55 0 = 56 := h.2.2 55 0 (by decide) (by decide) (by decide)
theorem rf57_3 (h : gj_Stat S) : S.2.2 57 3 = 58 := h.2.2 57 3 (by decide) (by decide) (by decide)
theorem rf57_4 (h : gj_Stat S) : S.2.2 57 4 = 59 := h.2.2 57 4 (by decide) (by decide) (by decide)
theorem rf57_5 (h : gj_Stat S) : S.2.2 57 5 = 60 := h.2.2 57 5 (by decide) (by decide) (by decide)
theorem rf57_6 (h : gj_Stat S) : S.2.2 57 6 = 61 := h.2.2 57 6 (by decide) (by decide) (by decide)
theorem rf57_7 (h : gj_Stat S) : S.2.2 57 7 = 62 := h.2.2 57 7 (by decide) (by decide) (by decide)
theorem rf57_8 (h : gj_Stat S) : S.2.2 57 8 = 63 := h.2.2 57 8 (by decide) (by decide) (by decide)
theorem rf57_9 (h : gj_Stat S) : S.2.2 57 9 = 64 := h.2.2 57 9 (by decide) (by decide) (by decide)
theorem rf57_10 (h : gj_Stat S) : S.2.2 57 10 = 65 := h.2.2 57 10 (by decide) (by decide) (by decide)
theorem rf65_0 (h : gj_Stat S) : S.2.2 65 0 = 66 := h.2.2 65 0 (by decide) (by decide) (by decide)
theorem rf67_3 (h : gj_Stat S) : S.2.2 67 3 = 68 := h.2.2 67 3 (by decide) (by decide) (by decide)
theorem rf67_4 (h : gj_Stat S) : S.2.2 67 4 = 69 := h.2.2 67 4 (by decide) (by decide) (by decide)
theorem rf67_5 (h : gj_Stat S) : S.2.2 67 5 = 70 := h.2.2 67 5 (by decide) (by decide) (by decide)
theorem rf67_6 (h : gj_Stat S) : S.2.2 67 6 = 71 := h.2.2 67 6 (by decide) (by decide) (by decide)
theorem rf67_7 (h : gj_Stat S) : S.2.2 67 7 = 72 := h.2.2 67 7 (by decide) (by decide) (by decide)
theorem rf67_8 (h : gj_Stat S) : S.2.2 67 8 = 73 := h.2.2 67 8 (by decide) (by decide) (by decide)
theorem rf67_9 (h : gj_Stat S) : S.2.2 67 9 = 74 := h.2.2 67 9 (by decide) (by decide) (by decide)
theorem rf67_10 (h : gj_Stat S) : S.2.2 67 10 = 75 := h.2.2 67 10 (by decide) (by decide) (by decide)
theorem rf75_0 (h : gj_Stat S) : S.2.2 75 0 = 76 := h.2.2 75 0 (by decide) (by decide) (by decide)
theorem rf79_0 (h : gj_Stat S) : S.2.2 79 0 = 80 := h.2.2 79 0 (by decide) (by decide) (by decide)
theorem rf79_1 (h : gj_Stat S) : S.2.2 79 1 = 81 := h.2.2 79 1 (by decide) (by decide) (by decide)
theorem rf79_7 (h : gj_Stat S) : S.2.2 79 7 = 82 := h.2.2 79 7 (by decide) (by decide) (by decide)
theorem rf79_8 (h : gj_Stat S) : S.2.2 79 8 = 85 := h.2.2 79 8 (by decide) (by decide) (by decide)
theorem rf79_9 (h : gj_Stat S) : S.2.2 79 9 = 88 := h.2.2 79 9 (by decide) (by decide) (by decide)
theorem rf79_10 (h : gj_Stat S) : S.2.2 79 10 = 91 := h.2.2 79 10 (by decide) (by decide) (by decide)
theorem rf79_11 (h : gj_Stat S) : S.2.2 79 11 = 94 := h.2.2 79 11 (by decide) (by decide) (by decide)
theorem rf79_12 (h : gj_Stat S) : S.2.2 79 12 = 97 := h.2.2 79 12 (by decide) (by decide) (by decide)
theorem rf79_13 (h : gj_Stat S) : S.2.2 79 13 = 100 := h.2.2 79 13 (by decide) (by decide) (by decide)
theorem rf79_14 (h : gj_Stat S) : S.2.2 79 14 = 103 := h.2.2 79 14 (by decide) (by decide) (by decide)
theorem rf79_15 (h : gj_Stat S) : S.2.2 79 15 = 104 := h.2.2 79 15 (by decide) (by decide) (by decide)
theorem rf79_16 (h : gj_Stat S) : S.2.2 79 16 = 105 := h.2.2 79 16 (by decide) (by decide) (by decide)
theorem rf79_17 (h : gj_Stat S) : S.2.2 79 17 = 106 := h.2.2 79 17 (by decide) (by decide) (by decide)
theorem rf79_19 (h : gj_Stat S) : S.2.2 79 19 = 107 := h.2.2 79 19 (by decide) (by decide) (by decide)
theorem rf79_20 (h : gj_Stat S) : S.2.2 79 20 = 108 := h.2.2 79 20 (by decide) (by decide) (by decide)
theorem rf79_21 (h : gj_Stat S) : S.2.2 79 21 = 109 := h.2.2 79 21 (by decide) (by decide) (by decide)
theorem rf79_22 (h : gj_Stat S) : S.2.2 79 22 = 110 := h.2.2 79 22 (by decide) (by decide) (by decide)
theorem rf79_23 (h : gj_Stat S) : S.2.2 79 23 = 111 := h.2.2 79 23 (by decide) (by decide) (by decide)
theorem rf79_24 (h : gj_Stat S) : S.2.2 79 24 = 112 := h.2.2 79 24 (by decide) (by decide) (by decide)
theorem rf79_25 (h : gj_Stat S) : S.2.2 79 25 = 113 := h.2.2 79 25 (by decide) (by decide) (by decide)
theorem rf79_26 (h : gj_Stat S) : S.2.2 79 26 = 114 := h.2.2 79 26 (by decide) (by decide) (by decide)
theorem rf79_31 (h : gj_Stat S) : S.2.2 79 31 = 115 := h.2.2 79 31 (by decide) (by decide) (by decide)
theorem rf79_32 (h : gj_Stat S) : S.2.2 79 32 = 116 := h.2.2 79 32 (by decide) (by decide) (by decide)
theorem rf79_33 (h : gj_Stat S) : S.2.2 79 33 = 117 := h.2.2 79 33 (by decide) (by decide) (by decide)
theorem rf79_34 (h : gj_Stat S) : S.2.2 79 34 = 118 := h.2.2 79 34 (by decide) (by decide) (by decide)
theorem rf79_39 (h : gj_Stat S) : S.2.2 79 39 = 119 := h.2.2 79 39 (by decide) (by decide) (by decide)
theorem rf79_40 (h : gj_Stat S) : S.2.2 79 40 = 120 := h.2.2 79 40 (by decide) (by decide) (by decide)
theorem rf79_41 (h : gj_Stat S) : S.2.2 79 41 = 121 := h.2.2 79 41 (by decide) (by decide) (by decide)
theorem rf79_42 (h : gj_Stat S) : S.2.2 79 42 = 122 := h.2.2 79 42 (by decide) (by decide) (by decide)
theorem rf79_43 (h : gj_Stat S) : S.2.2 79 43 = 123 := h.2.2 79 43 (by decide) (by decide) (by decide)
theorem rf79_44 (h : gj_Stat S) : S.2.2 79 44 = 124 := h.2.2 79 44 (by decide) (by decide) (by decide)
theorem rf79_45 (h : gj_Stat S) : S.2.2 79 45 = 125 := h.2.2 79 45 (by decide) (by decide) (by decide)
theorem rf79_47 (h : gj_Stat S) : S.2.2 79 47 = 126 := h.2.2 79 47 (by decide) (by decide) (by decide)
theorem rf79_48 (h : gj_Stat S) : S.2.2 79 48 = 127 := h.2.2 79 48 (by decide) (by decide) (by decide)
theorem rf79_49 (h : gj_Stat S) : S.2.2 79 49 = 128 := h.2.2 79 49 (by decide) (by decide) (by decide)
theorem rf79_50 (h : gj_Stat S) : S.2.2 79 50 = 129 := h.2.2 79 50 (by decide) (by decide) (by decide)
theorem rf79_51 (h : gj_Stat S) : S.2.2 79 51 = 130 := h.2.2 79 51 (by decide) (by decide) (by decide)
theorem rf79_52 (h : gj_Stat S) : S.2.2 79 52 = 134 := h.2.2 79 52 (by decide) (by decide) (by decide)
theorem rf79_53 (h : gj_Stat S) : S.2.2 79 53 = 135 := h.2.2 79 53 (by decide) (by decide) (by decide)
theorem rf82_0 (h : gj_Stat S) : S.2.2 82 0 = 83 := h.2.2 82 0 (by decide) (by decide) (by decide)
theorem rf82_1 (h : gj_Stat S) : S.2.2 82 1 = 84 := h.2.2 82 1 (by decide) (by decide) (by decide)
theorem rf85_0 (h : gj_Stat S) : S.2.2 85 0 = 86 := h.2.2 85 0 (by decide) (by decide) (by decide)
theorem rf85_1 (h : gj_Stat S) : S.2.2 85 1 = 87 := h.2.2 85 1 (by decide) (by decide) (by decide)
theorem rf88_0 (h : gj_Stat S) : S.2.2 88 0 = 89 := h.2.2 88 0 (by decide) (by decide) (by decide)
theorem rf88_1 (h : gj_Stat S) : S.2.2 88 1 = 90 := h.2.2 88 1 (by decide) (by decide) (by decide)
theorem rf91_0 (h : gj_Stat S) : S.2.2 91 0 = 92 := h.2.2 91 0 (by decide) (by decide) (by decide)
theorem rf91_1 (h : gj_Stat S) : S.2.2 91 1 = 93 := h.2.2 91 1 (by decide) (by decide) (by decide)
theorem rf94_0 (h : gj_Stat S) : S.2.2 94 0 = 95 := h.2.2 94 0 (by decide) (by decide) (by decide)
theorem rf94_1 (h : gj_Stat S) : S.2.2 94 1 = 96 := h.2.2 94 1 (by decide) (by decide) (by decide)
theorem rf97_0 (h : gj_Stat S) : S.2.2 97 0 = 98 := h.2.2 97 0 (by decide) (by decide) (by decide)
theorem rf97_1 (h : gj_Stat S) : S.2.2 97 1 = 99 := h.2.2 97 1 (by decide) (by decide) (by decide)
theorem rf100_0 (h : gj_Stat S) : S.2.2 100 0 = 101 := h.2.2 100 0 (by decide) (by decide) (by decide)
theorem rf100_1 (h : gj_Stat S) : S.2.2 100 1 = 102 := h.2.2 100 1 (by decide) (by decide) (by decide)
theorem rf107_0 (h : gj_Stat S) : S.2.2 107 0 = -2 := h.2.2 107 0 (by decide) (by decide) (by decide)
theorem rf107_1 (h : gj_Stat S) : S.2.2 107 1 = -3 := h.2.2 107 1 (by decide) (by decide) (by decide)
theorem rf107_2 (h : gj_Stat S) : S.2.2 107 2 = -4 := h.2.2 107 2 (by decide) (by decide) (by decide)
theorem rf107_3 (h : gj_Stat S) : S.2.2 107 3 = -5 := h.2.2 107 3 (by decide) (by decide) (by decide)
theorem rf107_4 (h : gj_Stat S) : S.2.2 107 4 = -6 := h.2.2 107 4 (by decide) (by decide) (by decide)
theorem rf107_5 (h : gj_Stat S) : S.2.2 107 5 = -7 := h.2.2 107 5 (by decide) (by decide) (by decide)
theorem rf107_6 (h : gj_Stat S) : S.2.2 107 6 = -8 := h.2.2 107 6 (by decide) (by decide) (by decide)
theorem rf107_7 (h : gj_Stat S) : S.2.2 107 7 = -9 := h.2.2 107 7 (by decide) (by decide) (by decide)
theorem rf107_8 (h : gj_Stat S) : S.2.2 107 8 = -10 := h.2.2 107 8 (by decide) (by decide) (by decide)
theorem rf130_0 (h : gj_Stat S) : S.2.2 130 0 = 131 := h.2.2 130 0 (by decide) (by decide) (by decide)
theorem rf130_1 (h : gj_Stat S) : S.2.2 130 1 = 132 := h.2.2 130 1 (by decide) (by decide) (by decide)
theorem rf130_2 (h : gj_Stat S) : S.2.2 130 2 = 133 := h.2.2 130 2 (by decide) (by decide) (by decide)
end GJ7
end
section
/-! the JDK's String: length and charAt of the constants; Math.min and max -/
section GJ8
variable {G : gj_G} {l : Launch} {d mc ms : Nat} {y : MethodName} {cc : ByteArray} {nL : Nat} {ret : Option FieldType} {Q : Option gj_V → gj_S → gj_M → Prop} {k n pc q : Nat} {ls : List (Nat × gj_V)} {st st' : List gj_V} {S : gj_S} {M : gj_M}
variable {y' : MethodName} {cc' : ByteArray} {nL' d' mc' ms' n' : Nat} {ret' : Option FieldType} {av : List gj_V} {Q' : Option gj_V → gj_S → gj_M → Prop}
theorem gj_nm {d' d nL' n' k mc' mc n ms' ms : Nat} {av st : List gj_V} (h : (Nat.ble (d' + 1) d && (Nat.ble nL' 45 && (Nat.beq av.length n' && (Nat.ble (gj_cats st) 8 && (Nat.ble (k + mc') mc && Nat.ble (n + ms') ms))))) = true) : d' + 1 ≤ d ∧ nL' ≤ 45 ∧ av.length = n' ∧ gj_cats st ≤ 8 ∧ k + mc' ≤ mc ∧ n + ms' ≤ ms := by
  simp only [Bool.and_eq_true] at h
  exact ⟨Nat.le_of_ble_eq_true h.1, Nat.le_of_ble_eq_true h.2.1, Nat.eq_of_beq_eq_true h.2.2.1, Nat.le_of_ble_eq_true h.2.2.2.1, Nat.le_of_ble_eq_true h.2.2.2.2.1, Nat.le_of_ble_eq_true h.2.2.2.2.2⟩
theorem gj_abs (K : ∀ M', M' = M → gj_W G l d mc ms y cc nL ret Q k n pc ls st S M') : gj_W G l d mc ms y cc nL ret Q k n pc ls st S M := K M rfl
theorem gj_lgsl (G : gj_G) (av : List gj_V) : (lg_sl (av.map (gj_v G))).length = gj_cats av := by
  induction av with
  | nil => rfl
  | cons v r ih =>
    have h := gj_cat G v
    have e1 : lg_sl ((v :: r).map (gj_v G)) = (if (gj_v G v).category = 2 then [Slot.val (gj_v G v), .second] else [.val (gj_v G v)]) ++ lg_sl (r.map (gj_v G)) := by
      unfold lg_sl
      rw [List.map_cons, List.flatMap_cons]
    rw [e1, List.length_append, ih]
    show _ = (if gj_two v then 2 else 1) + gj_cats r
    rcases lv_cat (gj_v G v) with h1 | h1
    · rw [h1] at h
      rw [h1, ← h]
      rfl
    · rw [h1] at h
      rw [h1, ← h]
      rfl
theorem gj_Cof {d mc ms : Nat} {y : MethodName} {cc : ByteArray} {nL : Nat} {ret : Option FieldType} {av : List gj_V} {Q : Option gj_V → gj_S → gj_M → Prop}
    (hy : plainName y.cls = true) (hn : gj_cats av ≤ nL) (hW : gj_W G l d mc ms y cc nL ret Q 0 0 0 (gj_ar 0 av) [] S M) : gj_C G l d mc ms y cc nL ret av S M Q :=
  gj_C.of hy (fun G => by rw [gj_lgsl]; exact hn) hW
def gj_len (j : Nat) : Int := ((gj_sl.getD j 0 : Nat) : Int)
def gj_ch (j i : Nat) : Int := ((gj_sb.getD j []).getD i 0).toInt
theorem gj_sl_ok : ∀ j, j < 9 → gj_sl.getD j 0 = (gj_sb.getD j []).length ∧ gj_sl.getD j 0 ≤ 5 ∧ 3 ≤ gj_sl.getD j 0 := by decide +kernel
theorem gj_ch_ok : ∀ j, j < 9 → ∀ i, i < 5 → gj_and (gj_ch j i) 255 = gj_ch j i ∧ 0 ≤ gj_ch j i ∧ gj_ch j i < 128 := by decide +kernel
theorem gj_vT {j : Nat} (hj : j < 9) : gj_v G (jR (-2 - (j : Int))) = .ref (gj_aK G j) := by
  show gj_rv G _ = _
  unfold gj_rv gj_ro gj_ad
  rw [if_neg (by omega), if_neg (by omega), if_neg (by omega), if_neg (by omega), if_neg (by omega)]
  show Value.ref _ = _
  congr 2
  omega
theorem gj_vB {j : Nat} (hj : j < 9) : gj_v G (jR (-30 - (j : Int))) = .ref (gj_aV G j) := by
  show gj_rv G _ = _
  unfold gj_rv gj_ro gj_ad
  rw [if_neg (by omega), if_neg (by omega), if_neg (by omega), if_neg (by omega), if_pos (by omega)]
  show Value.ref _ = _
  congr 2
  omega
theorem gj_getsI {idx : Nat} (hd : decode cc pc = .ok (.getstatic idx, 3)) (hl : Cond.fieldLink y.cls idx "java/lang/String" "COMPACT_STRINGS" "Z" ∈ gj_TB) (hq : pc + 3 = q) (K : gj_W G l d mc ms y cc nL ret Q k n q ls (jI 1 :: st) S M) : gj_W G l d mc ms y cc nL ret Q k n pc ls st S M := by
  subst hq
  intro p e R s m args below meth c H locs lsm Z X hZ hR hlc hlv ho hk hn
  have kk := K p e R s m args below meth c H locs lsm Z X hZ hR hlc hlv (gj_pI ho ⟨by decide, by decide⟩) hk hn
  obtain ⟨cf, kf, fi, f, a, cell, h1, h2, h3, h4, h5, h6, h7, h8⟩ := X.2.2.2.2.2.2.2.1.2.2.2.1
  have hb : a < gj_base G := (Array.getElem?_eq_some_iff.mp h5).1
  have h5' : H[a]? = some cell := by rw [hR.2.1 a hb]; exact h5
  exact W.gets X.1 X.2.1 X.2.2.2.2.1 (X.2.2.2.2.2.1 _ hl) h1 h2 h3 h4 h5' (fun e => by rw [e] at h6; cases h6) h7 rfl hd kk
theorem gj_getsF {idx : Nat} (hd : decode cc pc = .ok (.getstatic idx, 3)) (hl : Cond.fieldLink y.cls idx "jdk/internal/util/Preconditions" "SIOOBE_FORMATTER" "Ljava/util/function/BiFunction;" ∈ gj_TB) (hq : pc + 3 = q) (K : gj_W G l d mc ms y cc nL ret Q k n q ls (jR (-200) :: st) S M) : gj_W G l d mc ms y cc nL ret Q k n pc ls st S M := by
  subst hq
  intro p e R s m args below meth c H locs lsm Z X hZ hR hlc hlv ho hk hn
  have kk := K p e R s m args below meth c H locs lsm Z X hZ hR hlc hlv (gj_pR ho) hk hn
  obtain ⟨cf, kf, fi, f, a, cell, h1, h2, h3, h4, h5, h6, h7, h8⟩ := X.2.2.2.2.2.2.2.1.2.2.2.2.1
  have hb : a < gj_base G := (Array.getElem?_eq_some_iff.mp h5).1
  have h5' : H[a]? = some cell := by rw [hR.2.1 a hb]; exact h5
  exact W.gets X.1 X.2.1 X.2.2.2.2.1 (X.2.2.2.2.2.1 _ hl) h1 h2 h3 h4 h5' (fun e => by rw [e] at h6; cases h6) h7 rfl hd kk
theorem gj_getTv {idx j : Nat} {z : Int} (hj : j < 9) (hz : z = -2 - (j : Int)) (hd : decode cc pc = .ok (.getfield idx, 3)) (hl : Cond.fieldLink y.cls idx "java/lang/String" "value" "[B" ∈ gj_TB) (hq : pc + 3 = q) (K : gj_W G l d mc ms y cc nL ret Q k n q ls (jR (-30 - (j : Int)) :: st) S M) : gj_W G l d mc ms y cc nL ret Q k n pc ls (jR z :: st) S M := by
  subst hq
  subst hz
  intro p e R s m args below meth c H locs lsm Z X hZ hR hlc hlv ho hk hn
  have kk := K p e R s m args below meth c H locs lsm Z X hZ hR hlc hlv (gj_pR (gj_tail ho)) hk hn
  obtain ⟨cf, kf, fi, f, cell, h1, h2, h3, h4, h5, h6⟩ := (X.2.2.2.2.2.2.2.1.2.2.1.1 j hj).2.2.1
  have hb : gj_aK G j < gj_base G := (Array.getElem?_eq_some_iff.mp h3).1
  have h3' : H[gj_aK G j]? = some cell := by rw [hR.2.1 _ hb]; exact h3
  rw [List.map_cons, gj_vT hj]
  rw [List.map_cons, gj_vB hj] at kk
  exact W.getf X.1 X.2.1 X.2.2.2.2.1 (X.2.2.2.2.2.1 _ hl) h1 h2 h3' h4 h5 rfl rfl hd kk
theorem gj_getTc {idx j : Nat} {z : Int} (hj : j < 9) (hz : z = -2 - (j : Int)) (hd : decode cc pc = .ok (.getfield idx, 3)) (hl : Cond.fieldLink y.cls idx "java/lang/String" "coder" "B" ∈ gj_TB) (hq : pc + 3 = q) (K : gj_W G l d mc ms y cc nL ret Q k n q ls (jI 0 :: st) S M) : gj_W G l d mc ms y cc nL ret Q k n pc ls (jR z :: st) S M := by
  subst hq
  subst hz
  intro p e R s m args below meth c H locs lsm Z X hZ hR hlc hlv ho hk hn
  have kk := K p e R s m args below meth c H locs lsm Z X hZ hR hlc hlv (gj_pI (gj_tail ho) ⟨by decide, by decide⟩) hk hn
  obtain ⟨cf, kf, fi, f, cell, h1, h2, h3, h4, h5, h6⟩ := (X.2.2.2.2.2.2.2.1.2.2.1.1 j hj).2.1
  have hb : gj_aK G j < gj_base G := (Array.getElem?_eq_some_iff.mp h3).1
  have h3' : H[gj_aK G j]? = some cell := by rw [hR.2.1 _ hb]; exact h3
  rw [List.map_cons, gj_vT hj]
  exact W.getf X.1 X.2.1 X.2.2.2.2.1 (X.2.2.2.2.2.1 _ hl) h1 h2 h3' h4 h5 rfl rfl hd kk
theorem gj_Tlen {j : Nat} (hj : j < 9) (hd : decode cc pc = .ok (.arraylength, 1)) (hq : pc + 1 = q) (K : gj_W G l d mc ms y cc nL ret Q k n q ls (jI (gj_len j) :: st) S M) : gj_W G l d mc ms y cc nL ret Q k n pc ls (jR (-30 - (j : Int)) :: st) S M := by
  subst hq
  intro p e R s m args below meth c H locs lsm Z X hZ hR hlc hlv ho hk hn
  have hl5 := gj_sl_ok j hj
  have kk := K p e R s m args below meth c H locs lsm Z X hZ hR hlc hlv (gj_pI (gj_tail ho) (by unfold gj_len; exact ⟨by omega, by omega⟩)) hk hn
  obtain ⟨cell, h1, h2, h3, h4, h5, h6, h7⟩ := (X.2.2.2.2.2.2.2.1.2.2.1.1 j hj).2.2.2
  have hb : gj_aV G j < gj_base G := (Array.getElem?_eq_some_iff.mp h1).1
  have h1' : H[gj_aV G j]? = some cell := by rw [hR.2.1 _ hb]; exact h1
  rw [List.map_cons, gj_vB hj]
  exact W.alen (n := Int32.ofInt (gj_len j)) X.1 X.2.1 h1' h2 (h5.trans (Int32.ofInt_eq_ofNat).symm) rfl rfl hd kk
theorem gj_Tld {j : Nat} {i : Int} (hj : j < 9) (h0 : 0 ≤ i) (h1 : i < gj_len j) (hd : decode cc pc = .ok (.baload, 1)) (hq : pc + 1 = q) (K : gj_W G l d mc ms y cc nL ret Q k n q ls (jI (gj_ch j i.toNat) :: st) S M) : gj_W G l d mc ms y cc nL ret Q k n pc ls (jI i :: jR (-30 - (j : Int)) :: st) S M := by
  subst hq
  intro p e R s m args below meth c H locs lsm Z X hZ hR hlc hlv ho hk hn
  have hl5 := gj_sl_ok j hj
  have hlen : gj_len j ≤ 5 := by unfold gj_len; omega
  have kk := K p e R s m args below meth c H locs lsm Z X hZ hR hlc hlv (gj_pI (gj_tail (gj_tail ho)) (gj_rI _)) hk hn
  obtain ⟨cell, h2, h3, h4, h5, h6, h7, h8⟩ := (X.2.2.2.2.2.2.2.1.2.2.1.1 j hj).2.2.2
  have hb : gj_aV G j < gj_base G := (Array.getElem?_eq_some_iff.mp h2).1
  have h2' : H[gj_aV G j]? = some cell := by rw [hR.2.1 _ hb]; exact h2
  obtain ⟨v1, v2⟩ := gj_ix h0 h1 (by omega)
  rw [List.map_cons, List.map_cons, gj_vB hj]
  have hlt : i.toNat < gj_sl.getD j 0 := by
    have h9 : i < ((gj_sl.getD j 0 : Nat) : Int) := h1
    omega
  refine W.bald (v := .int (Int32.ofInt (gj_ch j i.toNat))) X.1 X.2.1 h2' h3 h4 ?_ ?_ rfl rfl hd kk
  · rw [v2]
    rintro (h | h)
    · exact v1 (Or.inl h)
    · omega
  · rw [v2, h7 _ hlt]
    unfold gj_ch
    rw [Int32.ofInt_toInt]
theorem gj_ishr0 {a : Int} (hd : decode cc pc = .ok (.ishr, 1)) (hq : pc + 1 = q) (K : gj_W G l d mc ms y cc nL ret Q k n q ls (jI a :: st) S M) : gj_W G l d mc ms y cc nL ret Q k n pc ls (jI 0 :: jI a :: st) S M := by
  subst hq
  refine gj_op (fun p e R s m args below meth c H locs lsm Z hx hb hown hts hK hl ho k => lv_ishr hx hb hd ?_) (fun h => gj_2I (gj_o1 h) h) K
  have e1 : Int32.ofInt a >>> (Int32.ofInt 0 &&& 31) = Int32.ofInt a := by
    refine Int32.toInt_inj.1 ?_
    rw [pk_shr _ _ 0 (by decide)]
    simp
  rw [e1]
  exact k
theorem gj_i2c {a : Int} (hd : decode cc pc = .ok (.i2c, 1)) (h0 : 0 ≤ a ∧ a < 65536) (hq : pc + 1 = q) (K : gj_W G l d mc ms y cc nL ret Q k n q ls (jI a :: st) S M) : gj_W G l d mc ms y cc nL ret Q k n pc ls (jI a :: st) S M := by
  subst hq
  refine gj_op (fun p e R s m args below meth c H locs lsm Z hx hb hown hts hK hl ho k => lv_i2c hx hb hd (v := Int32.ofInt a) ?_ k) (fun h => h) K
  obtain ⟨b, rfl⟩ := Int.eq_ofNat_of_zero_le h0.1
  have hb : b < 65536 := by omega
  have e1 : Int32.ofInt (b : Int) = nI b := Int32.ofInt_eq_ofNat
  rw [e1, pk_char, pk_tn (by omega), Nat.mod_eq_of_lt hb]
theorem gj_narC {a : Int} (h0 : 0 ≤ a ∧ a < 65536) : narrow .char (.int (Int32.ofInt a)) = .int (Int32.ofInt a) := by
  obtain ⟨b, rfl⟩ := Int.eq_ofNat_of_zero_le h0.1
  rw [show Int32.ofInt (b : Int) = nI b from Int32.ofInt_eq_ofNat]
  exact (pk_charN (by omega)).1
/-- a method of a text -/
theorem gj_callT {stk : List gj_V} {idx j : Nat} {z : Int} (av : List gj_V) (hj : j < 9) (hz : z = -2 - (j : Int)) (hst : stk = av.reverse ++ jR z :: st) (hC : gj_C G l d' mc' ms' y' cc' nL' ret' (jR z :: av) S M Q') (hd : decode cc pc = .ok (.invokevirtual idx, 3)) (hl : Cond.methodLink y.cls idx y' ∈ gj_TB) (hm : gj_MV y' cc' nL' ret' n') (hcy : y'.cls = "java/lang/String") (hnum : d' + 1 ≤ d ∧ nL' ≤ 45 ∧ av.length = n' ∧ gj_cats st ≤ 8 ∧ k + mc' ≤ mc ∧ n + ms' ≤ ms) (hq : pc + 3 = q)
    (K : ∀ (r : Option gj_V) (S' : gj_S) (M' : gj_M), Q' r S' M' → gj_W G l d mc ms y cc nL ret Q (k + mc') (n + ms') q ls (r.toList ++ st) S' M') : gj_W G l d mc ms y cc nL ret Q k n pc ls stk S M := by
  subst hq
  subst hz
  obtain ⟨n1, n2, n3, n4, n5, n6⟩ := hnum
  intro p e R s m args below meth c H locs lsm Z X hZ hR hlc hlv ho hk hn
  have hst2 : stk = (jR (-2 - (j : Int)) :: av).reverse ++ st := by rw [hst, List.reverse_cons, List.append_assoc]; rfl
  obtain ⟨ho1, ho2⟩ := gj_okA hst2 ho
  have hK := X.2.2.2.2.2.2.2.1
  obtain ⟨cell, h1, h2, h3, h4⟩ := (hK.2.2.1.1 j hj).1
  have hb : gj_aK G j < gj_base G := (Array.getElem?_eq_some_iff.mp h1).1
  have hrc : ∃ cell : Cell, H[gj_aK G j]? = some cell ∧ cell.vm.isStatics = false ∧ s.vm.findClass y'.cls = some cell.cls := ⟨cell, by rw [hR.2.1 _ hb]; exact h1, h2, by rw [hcy]; exact h3⟩
  have hpre := gj_pre (av := jR (-2 - (j : Int)) :: av) hK hR ho1
  rw [List.map_cons, gj_vT hj] at hpre
  refine gj_run (Q := Q) X hZ hlc hlv ho2 n5 n6 (va_runV (As := av.map (gj_v G)) (Ts := gj_TB) (C := y'.cls) ⟨X.1, X.2.1, X.2.2.2.1, X.2.2.2.2.1, X.2.2.2.2.2.1⟩ hC ⟨gj_cwB X hm.1 n1 n2 hl, X.2.2.2.2.2.1 _ hm.2.1, X.2.2.2.2.2.1 _ hm.2.2⟩ ⟨gj_blind, hrc, hpre⟩ rfl (by rw [List.length_map]; exact n3) hlv.1 (by show stk.map (gj_v G) = _; rw [hst, List.map_append, List.map_reverse, List.map_cons, gj_vT hj]) (lv_room (by rw [gj_cats_eq]; exact n4)) hd ⟨by rw [X.2.2.2.2.2.2.2.2.2.2.1]; exact n5, by rw [X.2.2.2.2.2.2.2.2.2.2.2.1]; exact n6⟩) K
end GJ8
section GJ9
variable {G : gj_G} {l : Launch} {S : gj_S} {M : gj_M}
theorem c_J0_coder {j : Nat} (hj : j < 9) : gj_C G l 1 0 0 yJ0_coder_7d493 cJ0_coder_7d493 1 (some .byte) [jR (-2 - (j : Int))] S M (gj_qI fun x S' M' => 0 = x ∧ S = S' ∧ M = M') := by
  refine gj_Cof (by decide +kernel) (Nat.le_of_ble_eq_true rfl) ?_
  refine gj_getsI (q := 3) (gj_dk okJ0_coder_7d493 0 rfl) kf_J0_38 rfl ?_
  refine gj_if_eq (q := 6) (tgt := 13) (gj_dk okJ0_coder_7d493 1 rfl) (by decide) rfl (fun c => absurd c (by decide)) (fun _ => ?_)
  refine gj_aload_n (q := 7) (gj_dk okJ0_coder_7d493 2 rfl) rfl rfl ?_
  refine gj_getTc (q := 10) hj rfl (gj_dk okJ0_coder_7d493 3 rfl) kf_J0_15 rfl ?_
  refine gj_goto (tgt := 14) (gj_dk okJ0_coder_7d493 4 rfl) (by decide) ?_
  exact gj_ireturn .byte (gj_dk okJ0_coder_7d493 6 rfl) rfl rfl ⟨_, rfl, rfl, rfl, rfl⟩
theorem c_J0_isLatin1 {j : Nat} (hj : j < 9) : gj_C G l 1 0 0 yJ0_isLatin1_aae02 cJ0_isLatin1_aae02 1 (some .boolean) [jR (-2 - (j : Int))] S M (gj_qI fun x S' M' => 1 = x ∧ S = S' ∧ M = M') := by
  refine gj_Cof (by decide +kernel) (Nat.le_of_ble_eq_true rfl) ?_
  refine gj_getsI (q := 3) (gj_dk okJ0_isLatin1_aae02 0 rfl) kf_J0_38 rfl ?_
  refine gj_if_eq (q := 6) (tgt := 17) (gj_dk okJ0_isLatin1_aae02 1 rfl) (by decide) rfl (fun c => absurd c (by decide)) (fun _ => ?_)
  refine gj_aload_n (q := 7) (gj_dk okJ0_isLatin1_aae02 2 rfl) rfl rfl ?_
  refine gj_getTc (q := 10) hj rfl (gj_dk okJ0_isLatin1_aae02 3 rfl) kf_J0_15 rfl ?_
  refine gj_if_ne (q := 13) (tgt := 17) (gj_dk okJ0_isLatin1_aae02 4 rfl) (by decide) rfl (fun c => absurd rfl c) (fun _ => ?_)
  refine gj_iconst (q := 14) (gj_dk okJ0_isLatin1_aae02 5 rfl) (by decide) rfl ?_
  refine gj_goto (tgt := 18) (gj_dk okJ0_isLatin1_aae02 6 rfl) (by decide) ?_
  exact gj_zret (gj_dk okJ0_isLatin1_aae02 8 rfl) rfl (by decide) ⟨_, rfl, rfl, rfl, rfl⟩
theorem c_J0_length {j : Nat} {z : Int} (hj : j < 9) (hz : z = -2 - (j : Int)) : gj_C G l 2 0 0 yJ0_length_8abf5 cJ0_length_8abf5 1 (some .int) [jR z] S M (gj_qI fun x S' M' => gj_len j = x ∧ S = S' ∧ M = M') := by
  subst hz
  refine gj_Cof (by decide +kernel) (Nat.le_of_ble_eq_true rfl) ?_
  refine gj_aload_n (q := 1) (gj_dk okJ0_length_8abf5 0 rfl) rfl rfl ?_
  refine gj_getTv (q := 4) hj rfl (gj_dk okJ0_length_8abf5 1 rfl) kf_J0_9 rfl ?_
  refine gj_Tlen (q := 5) hj (gj_dk okJ0_length_8abf5 2 rfl) rfl ?_
  refine gj_aload_n (q := 6) (gj_dk okJ0_length_8abf5 3 rfl) rfl rfl ?_
  refine gj_callT (q := 9) [] hj rfl rfl (c_J0_coder hj) (gj_dk okJ0_length_8abf5 4 rfl) ml_J0_335 me_J0_coder_7d493 rfl (gj_nm rfl) rfl (gj_kI fun x S' M' h => ?_)
  obtain ⟨e0, e1, e2⟩ := h
  subst e0
  subst e1
  subst e2
  refine gj_ishr0 (q := 10) (gj_dk okJ0_length_8abf5 5 rfl) rfl ?_
  exact gj_iret (gj_dk okJ0_length_8abf5 6 rfl) rfl ⟨_, rfl, rfl, rfl, rfl⟩
theorem c_J3_checkIndex {i n : Int} {z : Int} (h0 : 0 ≤ i) (h1 : i < n) : gj_C G l 1 0 0 yJ3_checkIndex_8e157 cJ3_checkIndex_8e157 3 (some .int) [jI i, jI n, jR z] S M (gj_qI fun x S' M' => S = S' ∧ M = M') := by
  refine gj_Cof (by decide +kernel) (Nat.le_of_ble_eq_true rfl) ?_
  refine gj_iload_n (q := 1) (gj_dk okJ3_checkIndex_8e157 0 rfl) rfl rfl ?_
  refine gj_if_lt (q := 4) (tgt := 9) (gj_dk okJ3_checkIndex_8e157 1 rfl) (by decide) rfl (fun c => by omega) (fun _ => ?_)
  refine gj_iload_n (q := 5) (gj_dk okJ3_checkIndex_8e157 2 rfl) rfl rfl ?_
  refine gj_iload_n (q := 6) (gj_dk okJ3_checkIndex_8e157 3 rfl) rfl rfl ?_
  refine gj_icmp_lt (q := 9) (tgt := 16) (gj_dk okJ3_checkIndex_8e157 4 rfl) (by decide) rfl (fun _ => ?_) (fun c => by omega)
  refine gj_iload_n (q := 17) (gj_dk okJ3_checkIndex_8e157 10 rfl) rfl rfl ?_
  exact gj_iret (gj_dk okJ3_checkIndex_8e157 11 rfl) rfl ⟨_, rfl, rfl, rfl⟩
theorem c_J0_checkIndex {i n : Int} (h0 : 0 ≤ i) (h1 : i < n) : gj_C G l 2 0 0 yJ0_checkIndex_df160 cJ0_checkIndex_df160 2 none [jI i, jI n] S M (gj_qV fun S' M' => S = S' ∧ M = M') := by
  refine gj_Cof (by decide +kernel) (Nat.le_of_ble_eq_true rfl) ?_
  refine gj_iload_n (q := 1) (gj_dk okJ0_checkIndex_df160 0 rfl) rfl rfl ?_
  refine gj_iload_n (q := 2) (gj_dk okJ0_checkIndex_df160 1 rfl) rfl rfl ?_
  refine gj_getsF (q := 5) (gj_dk okJ0_checkIndex_df160 2 rfl) kf_J0_1053 rfl ?_
  refine gj_callS (q := 8) [_, _, _] rfl (c_J3_checkIndex h0 h1) (gj_dk okJ0_checkIndex_df160 3 rfl) ml_J0_1059 me_J3_checkIndex_8e157 (gj_nm rfl) rfl (gj_kI fun x S' M' h => ?_)
  obtain ⟨e1, e2⟩ := h
  subst e1
  subst e2
  refine gj_pop (q := 9) (gj_dk okJ0_checkIndex_df160 4 rfl) rfl rfl ?_
  exact gj_vret (gj_dk okJ0_checkIndex_df160 5 rfl) rfl ⟨rfl, rfl, rfl⟩
theorem c_J1_charAt {j : Nat} {i : Int} (hj : j < 9) (h0 : 0 ≤ i) (h1 : i < gj_len j) : gj_C G l 3 0 0 yJ1_charAt_3b067 cJ1_charAt_3b067 2 (some .char) [jR (-30 - (j : Int)), jI i] S M (gj_qI fun x S' M' => gj_ch j i.toNat = x ∧ S = S' ∧ M = M') := by
  have hl5 := gj_sl_ok j hj
  have hlen : gj_len j ≤ 5 := by unfold gj_len; omega
  obtain ⟨g1, g2, g3⟩ := gj_ch_ok j hj i.toNat (by omega)
  refine gj_Cof (by decide +kernel) (Nat.le_of_ble_eq_true rfl) ?_
  refine gj_iload_n (q := 1) (gj_dk okJ1_charAt_3b067 0 rfl) rfl rfl ?_
  refine gj_aload_n (q := 2) (gj_dk okJ1_charAt_3b067 1 rfl) rfl rfl ?_
  refine gj_Tlen (q := 3) hj (gj_dk okJ1_charAt_3b067 2 rfl) rfl ?_
  refine gj_callS (q := 6) [_, _] rfl (c_J0_checkIndex h0 h1) (gj_dk okJ1_charAt_3b067 3 rfl) ml_J1_9 me_J0_checkIndex_df160 (gj_nm rfl) rfl (gj_kV fun S' M' h => ?_)
  obtain ⟨e1, e2⟩ := h
  subst e1
  subst e2
  refine gj_aload_n (q := 7) (gj_dk okJ1_charAt_3b067 4 rfl) rfl rfl ?_
  refine gj_iload_n (q := 8) (gj_dk okJ1_charAt_3b067 5 rfl) rfl rfl ?_
  refine gj_Tld (q := 9) hj h0 h1 (gj_dk okJ1_charAt_3b067 6 rfl) rfl ?_
  refine gj_sipush (q := 12) (gj_dk okJ1_charAt_3b067 7 rfl) (by decide) rfl rfl ?_
  refine gj_iand (q := 13) (gj_dk okJ1_charAt_3b067 8 rfl) rfl ?_
  rw [g1]
  refine gj_i2c (q := 14) (gj_dk okJ1_charAt_3b067 9 rfl) ⟨g2, by omega⟩ rfl ?_
  exact gj_ireturn .char (gj_dk okJ1_charAt_3b067 10 rfl) rfl (gj_narC ⟨g2, by omega⟩) ⟨_, rfl, rfl, rfl, rfl⟩
theorem c_J0_charAt {j : Nat} {i z : Int} (hj : j < 9) (hz : z = -2 - (j : Int)) (h0 : 0 ≤ i) (h1 : i < gj_len j) : gj_C G l 4 0 0 yJ0_charAt_5068e cJ0_charAt_5068e 2 (some .char) [jR z, jI i] S M (gj_qI fun x S' M' => gj_ch j i.toNat = x ∧ S = S' ∧ M = M') := by
  subst hz
  have hl5 := gj_sl_ok j hj
  have hlen : gj_len j ≤ 5 := by unfold gj_len; omega
  obtain ⟨g1, g2, g3⟩ := gj_ch_ok j hj i.toNat (by omega)
  refine gj_Cof (by decide +kernel) (Nat.le_of_ble_eq_true rfl) ?_
  refine gj_aload_n (q := 1) (gj_dk okJ0_charAt_5068e 0 rfl) rfl rfl ?_
  refine gj_callT (q := 4) [] hj rfl rfl (c_J0_isLatin1 hj) (gj_dk okJ0_charAt_5068e 1 rfl) ml_J0_492 me_J0_isLatin1_aae02 rfl (gj_nm rfl) rfl (gj_kI fun x S' M' h => ?_)
  obtain ⟨e0, e1, e2⟩ := h
  subst e0
  subst e1
  subst e2
  refine gj_if_eq (q := 7) (tgt := 16) (gj_dk okJ0_charAt_5068e 2 rfl) (by decide) rfl (fun c => absurd c (by decide)) (fun _ => ?_)
  refine gj_aload_n (q := 8) (gj_dk okJ0_charAt_5068e 3 rfl) rfl rfl ?_
  refine gj_getTv (q := 11) hj rfl (gj_dk okJ0_charAt_5068e 4 rfl) kf_J0_9 rfl ?_
  refine gj_iload_n (q := 12) (gj_dk okJ0_charAt_5068e 5 rfl) rfl rfl ?_
  refine gj_callS (q := 15) [_, _] rfl (c_J1_charAt hj h0 h1) (gj_dk okJ0_charAt_5068e 6 rfl) ml_J0_495 me_J1_charAt_3b067 (gj_nm rfl) rfl (gj_kI fun x S' M' h => ?_)
  obtain ⟨e0, e1, e2⟩ := h
  subst e0
  subst e1
  subst e2
  exact gj_ireturn .char (gj_dk okJ0_charAt_5068e 7 rfl) rfl (gj_narC ⟨g2, by omega⟩) ⟨_, rfl, rfl, rfl, rfl⟩
end GJ9
end
