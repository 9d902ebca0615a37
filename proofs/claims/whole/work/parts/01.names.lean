-- ===== PART A: goes FIRST, ahead of the names: the tables' words, and 'selects' of the private methods out of them =====
/-- a private method of a class that the tables say can be made, by its rows of tables_1 -/
def lw_okq (q : MethodName × Nat) : Prop := (q.1.cls ≠ "java/lang/invoke/MethodHandle" ∧ q.1.cls ≠ "java/lang/invoke/VarHandle") ∧ Cond.instantiable q.1.cls q.2 ∈ tables_1 ∧ Cond.privateMethod q.1 ∈ tables_1 ∧ Cond.instanceMethod q.1 ∈ tables_1
theorem lw_p0 : lw_okq (⟨"RoundTrips", "none", "(I)I"⟩, 10) := ⟨⟨by decide +kernel, by decide +kernel⟩, List.mem_of_getElem? (i := 24) (by decide +kernel), List.mem_of_getElem? (i := 443) (by decide +kernel), List.mem_of_getElem? (i := 444) (by decide +kernel)⟩
theorem lw_p1 : lw_okq (⟨"RoundTrips$Reader", "advance", "()V"⟩, 13) := ⟨⟨by decide +kernel, by decide +kernel⟩, List.mem_of_getElem? (i := 104) (by decide +kernel), List.mem_of_getElem? (i := 458) (by decide +kernel), List.mem_of_getElem? (i := 459) (by decide +kernel)⟩
theorem lw_p2 : lw_okq (⟨"RoundTrips$Reader", "byteAt", "(I)I"⟩, 13) := ⟨⟨by decide +kernel, by decide +kernel⟩, List.mem_of_getElem? (i := 104) (by decide +kernel), List.mem_of_getElem? (i := 462) (by decide +kernel), List.mem_of_getElem? (i := 463) (by decide +kernel)⟩
theorem lw_p3 : lw_okq (⟨"RoundTrips$Reader", "readWord", "()V"⟩, 13) := ⟨⟨by decide +kernel, by decide +kernel⟩, List.mem_of_getElem? (i := 104) (by decide +kernel), List.mem_of_getElem? (i := 469) (by decide +kernel), List.mem_of_getElem? (i := 470) (by decide +kernel)⟩
theorem lw_p4 : lw_okq (⟨"RoundTrips$Reader", "keywordHere", "()I"⟩, 13) := ⟨⟨by decide +kernel, by decide +kernel⟩, List.mem_of_getElem? (i := 104) (by decide +kernel), List.mem_of_getElem? (i := 473) (by decide +kernel), List.mem_of_getElem? (i := 474) (by decide +kernel)⟩
theorem lw_p5 : lw_okq (⟨"RoundTrips$Reader", "readNumber", "()V"⟩, 13) := ⟨⟨by decide +kernel, by decide +kernel⟩, List.mem_of_getElem? (i := 104) (by decide +kernel), List.mem_of_getElem? (i := 487) (by decide +kernel), List.mem_of_getElem? (i := 488) (by decide +kernel)⟩
theorem lw_p6 : lw_okq (⟨"RoundTrips$Reader", "stands", "(I)Z"⟩, 13) := ⟨⟨by decide +kernel, by decide +kernel⟩, List.mem_of_getElem? (i := 104) (by decide +kernel), List.mem_of_getElem? (i := 491) (by decide +kernel), List.mem_of_getElem? (i := 492) (by decide +kernel)⟩
theorem lw_p7 : lw_okq (⟨"RoundTrips$Reader", "failed", "(I)Z"⟩, 13) := ⟨⟨by decide +kernel, by decide +kernel⟩, List.mem_of_getElem? (i := 104) (by decide +kernel), List.mem_of_getElem? (i := 495) (by decide +kernel), List.mem_of_getElem? (i := 496) (by decide +kernel)⟩
theorem lw_p8 : lw_okq (⟨"RoundTrips$Reader", "readPay", "()V"⟩, 13) := ⟨⟨by decide +kernel, by decide +kernel⟩, List.mem_of_getElem? (i := 104) (by decide +kernel), List.mem_of_getElem? (i := 499) (by decide +kernel), List.mem_of_getElem? (i := 500) (by decide +kernel)⟩
theorem lw_p9 : lw_okq (⟨"RoundTrips$Reader", "takeAccount", "(I)I"⟩, 13) := ⟨⟨by decide +kernel, by decide +kernel⟩, List.mem_of_getElem? (i := 104) (by decide +kernel), List.mem_of_getElem? (i := 503) (by decide +kernel), List.mem_of_getElem? (i := 504) (by decide +kernel)⟩
theorem lw_p10 : lw_okq (⟨"RoundTrips$Reader", "knownAccount", "()I"⟩, 13) := ⟨⟨by decide +kernel, by decide +kernel⟩, List.mem_of_getElem? (i := 104) (by decide +kernel), List.mem_of_getElem? (i := 507) (by decide +kernel), List.mem_of_getElem? (i := 508) (by decide +kernel)⟩
theorem lw_p11 : lw_okq (⟨"RoundTrips$Reader", "isName", "()Z"⟩, 13) := ⟨⟨by decide +kernel, by decide +kernel⟩, List.mem_of_getElem? (i := 104) (by decide +kernel), List.mem_of_getElem? (i := 511) (by decide +kernel), List.mem_of_getElem? (i := 512) (by decide +kernel)⟩
theorem lw_p12 : lw_okq (⟨"RoundTrips$Reader", "accountNamed", "()I"⟩, 13) := ⟨⟨by decide +kernel, by decide +kernel⟩, List.mem_of_getElem? (i := 104) (by decide +kernel), List.mem_of_getElem? (i := 515) (by decide +kernel), List.mem_of_getElem? (i := 516) (by decide +kernel)⟩
theorem lw_p13 : lw_okq (⟨"RoundTrips$Reader", "takeSign", "(C)Z"⟩, 13) := ⟨⟨by decide +kernel, by decide +kernel⟩, List.mem_of_getElem? (i := 104) (by decide +kernel), List.mem_of_getElem? (i := 519) (by decide +kernel), List.mem_of_getElem? (i := 520) (by decide +kernel)⟩
theorem lw_p14 : lw_okq (⟨"RoundTrips$Reader", "takeNumber", "(II)I"⟩, 13) := ⟨⟨by decide +kernel, by decide +kernel⟩, List.mem_of_getElem? (i := 104) (by decide +kernel), List.mem_of_getElem? (i := 523) (by decide +kernel), List.mem_of_getElem? (i := 524) (by decide +kernel)⟩
theorem lw_p15 : lw_okq (⟨"RoundTrips$Reader", "numberValue", "()I"⟩, 13) := ⟨⟨by decide +kernel, by decide +kernel⟩, List.mem_of_getElem? (i := 104) (by decide +kernel), List.mem_of_getElem? (i := 527) (by decide +kernel), List.mem_of_getElem? (i := 528) (by decide +kernel)⟩
def lw_privs_1 : List (MethodName × Nat) := [(⟨"RoundTrips", "none", "(I)I"⟩, 10), (⟨"RoundTrips$Reader", "advance", "()V"⟩, 13), (⟨"RoundTrips$Reader", "byteAt", "(I)I"⟩, 13), (⟨"RoundTrips$Reader", "readWord", "()V"⟩, 13), (⟨"RoundTrips$Reader", "keywordHere", "()I"⟩, 13), (⟨"RoundTrips$Reader", "readNumber", "()V"⟩, 13), (⟨"RoundTrips$Reader", "stands", "(I)Z"⟩, 13), (⟨"RoundTrips$Reader", "failed", "(I)Z"⟩, 13), (⟨"RoundTrips$Reader", "readPay", "()V"⟩, 13), (⟨"RoundTrips$Reader", "takeAccount", "(I)I"⟩, 13), (⟨"RoundTrips$Reader", "knownAccount", "()I"⟩, 13), (⟨"RoundTrips$Reader", "isName", "()Z"⟩, 13), (⟨"RoundTrips$Reader", "accountNamed", "()I"⟩, 13), (⟨"RoundTrips$Reader", "takeSign", "(C)Z"⟩, 13), (⟨"RoundTrips$Reader", "takeNumber", "(II)I"⟩, 13), (⟨"RoundTrips$Reader", "numberValue", "()I"⟩, 13)]
theorem lw_r1 : ∀ q ∈ lw_privs_1, lw_okq q := List.forall_mem_cons.mpr ⟨lw_p0, List.forall_mem_cons.mpr ⟨lw_p1, List.forall_mem_cons.mpr ⟨lw_p2, List.forall_mem_cons.mpr ⟨lw_p3, List.forall_mem_cons.mpr ⟨lw_p4, List.forall_mem_cons.mpr ⟨lw_p5, List.forall_mem_cons.mpr ⟨lw_p6, List.forall_mem_cons.mpr ⟨lw_p7, List.forall_mem_cons.mpr ⟨lw_p8, List.forall_mem_cons.mpr ⟨lw_p9, List.forall_mem_cons.mpr ⟨lw_p10, List.forall_mem_cons.mpr ⟨lw_p11, List.forall_mem_cons.mpr ⟨lw_p12, List.forall_mem_cons.mpr ⟨lw_p13, List.forall_mem_cons.mpr ⟨lw_p14, List.forall_mem_cons.mpr ⟨lw_p15, fun _ h => absurd h List.not_mem_nil⟩⟩⟩⟩⟩⟩⟩⟩⟩⟩⟩⟩⟩⟩⟩⟩
theorem lw_p16 : lw_okq (⟨"RoundTrips$Reader", "takeAt", "()Z"⟩, 13) := ⟨⟨by decide +kernel, by decide +kernel⟩, List.mem_of_getElem? (i := 104) (by decide +kernel), List.mem_of_getElem? (i := 531) (by decide +kernel), List.mem_of_getElem? (i := 532) (by decide +kernel)⟩
theorem lw_p17 : lw_okq (⟨"RoundTrips$Book", "moveTransfer", "(II)V"⟩, 8) := ⟨⟨by decide +kernel, by decide +kernel⟩, List.mem_of_getElem? (i := 32) (by decide +kernel), List.mem_of_getElem? (i := 539) (by decide +kernel), List.mem_of_getElem? (i := 540) (by decide +kernel)⟩
theorem lw_p18 : lw_okq (⟨"RoundTrips$Reader", "readTrust", "()V"⟩, 13) := ⟨⟨by decide +kernel, by decide +kernel⟩, List.mem_of_getElem? (i := 104) (by decide +kernel), List.mem_of_getElem? (i := 543) (by decide +kernel), List.mem_of_getElem? (i := 544) (by decide +kernel)⟩
theorem lw_p19 : lw_okq (⟨"RoundTrips$Reader", "readBound", "(I)V"⟩, 13) := ⟨⟨by decide +kernel, by decide +kernel⟩, List.mem_of_getElem? (i := 104) (by decide +kernel), List.mem_of_getElem? (i := 551) (by decide +kernel), List.mem_of_getElem? (i := 552) (by decide +kernel)⟩
theorem lw_p20 : lw_okq (⟨"RoundTrips$Reader", "readNames", "()V"⟩, 13) := ⟨⟨by decide +kernel, by decide +kernel⟩, List.mem_of_getElem? (i := 104) (by decide +kernel), List.mem_of_getElem? (i := 558) (by decide +kernel), List.mem_of_getElem? (i := 559) (by decide +kernel)⟩
theorem lw_p21 : lw_okq (⟨"RoundTrips$Reader", "readNewName", "()Z"⟩, 13) := ⟨⟨by decide +kernel, by decide +kernel⟩, List.mem_of_getElem? (i := 104) (by decide +kernel), List.mem_of_getElem? (i := 562) (by decide +kernel), List.mem_of_getElem? (i := 563) (by decide +kernel)⟩
theorem lw_p22 : lw_okq (⟨"RoundTrips", "beginAct", "()V"⟩, 10) := ⟨⟨by decide +kernel, by decide +kernel⟩, List.mem_of_getElem? (i := 24) (by decide +kernel), List.mem_of_getElem? (i := 566) (by decide +kernel), List.mem_of_getElem? (i := 567) (by decide +kernel)⟩
theorem lw_p23 : lw_okq (⟨"RoundTrips", "answer", "(I)I"⟩, 10) := ⟨⟨by decide +kernel, by decide +kernel⟩, List.mem_of_getElem? (i := 24) (by decide +kernel), List.mem_of_getElem? (i := 583) (by decide +kernel), List.mem_of_getElem? (i := 584) (by decide +kernel)⟩
theorem lw_p24 : lw_okq (⟨"RoundTrips", "freshRounds", "()LRoundTrips$Rounds;"⟩, 10) := ⟨⟨by decide +kernel, by decide +kernel⟩, List.mem_of_getElem? (i := 24) (by decide +kernel), List.mem_of_getElem? (i := 595) (by decide +kernel), List.mem_of_getElem? (i := 596) (by decide +kernel)⟩
theorem lw_p25 : lw_okq (⟨"RoundTrips$Rounds", "widen", "()Z"⟩, 14) := ⟨⟨by decide +kernel, by decide +kernel⟩, List.mem_of_getElem? (i := 185) (by decide +kernel), List.mem_of_getElem? (i := 647) (by decide +kernel), List.mem_of_getElem? (i := 648) (by decide +kernel)⟩
theorem lw_p26 : lw_okq (⟨"RoundTrips$Rounds", "countIn", "(I)V"⟩, 14) := ⟨⟨by decide +kernel, by decide +kernel⟩, List.mem_of_getElem? (i := 185) (by decide +kernel), List.mem_of_getElem? (i := 664) (by decide +kernel), List.mem_of_getElem? (i := 665) (by decide +kernel)⟩
theorem lw_p27 : lw_okq (⟨"RoundTrips$Rounds", "transferAt", "(II)I"⟩, 14) := ⟨⟨by decide +kernel, by decide +kernel⟩, List.mem_of_getElem? (i := 185) (by decide +kernel), List.mem_of_getElem? (i := 672) (by decide +kernel), List.mem_of_getElem? (i := 673) (by decide +kernel)⟩
theorem lw_p28 : lw_okq (⟨"RoundTrips$Rounds", "lastOf", "(I)I"⟩, 14) := ⟨⟨by decide +kernel, by decide +kernel⟩, List.mem_of_getElem? (i := 185) (by decide +kernel), List.mem_of_getElem? (i := 676) (by decide +kernel), List.mem_of_getElem? (i := 677) (by decide +kernel)⟩
theorem lw_p29 : lw_okq (⟨"RoundTrips$Rounds", "net", "(I)V"⟩, 14) := ⟨⟨by decide +kernel, by decide +kernel⟩, List.mem_of_getElem? (i := 185) (by decide +kernel), List.mem_of_getElem? (i := 680) (by decide +kernel), List.mem_of_getElem? (i := 681) (by decide +kernel)⟩
theorem lw_p30 : lw_okq (⟨"RoundTrips$Rounds", "ringOf", "(I)I"⟩, 14) := ⟨⟨by decide +kernel, by decide +kernel⟩, List.mem_of_getElem? (i := 185) (by decide +kernel), List.mem_of_getElem? (i := 685) (by decide +kernel), List.mem_of_getElem? (i := 686) (by decide +kernel)⟩
theorem lw_p31 : lw_okq (⟨"RoundTrips$Rounds", "spanOf", "(I)I"⟩, 14) := ⟨⟨by decide +kernel, by decide +kernel⟩, List.mem_of_getElem? (i := 185) (by decide +kernel), List.mem_of_getElem? (i := 689) (by decide +kernel), List.mem_of_getElem? (i := 690) (by decide +kernel)⟩
def lw_privs_2 : List (MethodName × Nat) := [(⟨"RoundTrips$Reader", "takeAt", "()Z"⟩, 13), (⟨"RoundTrips$Book", "moveTransfer", "(II)V"⟩, 8), (⟨"RoundTrips$Reader", "readTrust", "()V"⟩, 13), (⟨"RoundTrips$Reader", "readBound", "(I)V"⟩, 13), (⟨"RoundTrips$Reader", "readNames", "()V"⟩, 13), (⟨"RoundTrips$Reader", "readNewName", "()Z"⟩, 13), (⟨"RoundTrips", "beginAct", "()V"⟩, 10), (⟨"RoundTrips", "answer", "(I)I"⟩, 10), (⟨"RoundTrips", "freshRounds", "()LRoundTrips$Rounds;"⟩, 10), (⟨"RoundTrips$Rounds", "widen", "()Z"⟩, 14), (⟨"RoundTrips$Rounds", "countIn", "(I)V"⟩, 14), (⟨"RoundTrips$Rounds", "transferAt", "(II)I"⟩, 14), (⟨"RoundTrips$Rounds", "lastOf", "(I)I"⟩, 14), (⟨"RoundTrips$Rounds", "net", "(I)V"⟩, 14), (⟨"RoundTrips$Rounds", "ringOf", "(I)I"⟩, 14), (⟨"RoundTrips$Rounds", "spanOf", "(I)I"⟩, 14)]
theorem lw_r2 : ∀ q ∈ lw_privs_2, lw_okq q := List.forall_mem_cons.mpr ⟨lw_p16, List.forall_mem_cons.mpr ⟨lw_p17, List.forall_mem_cons.mpr ⟨lw_p18, List.forall_mem_cons.mpr ⟨lw_p19, List.forall_mem_cons.mpr ⟨lw_p20, List.forall_mem_cons.mpr ⟨lw_p21, List.forall_mem_cons.mpr ⟨lw_p22, List.forall_mem_cons.mpr ⟨lw_p23, List.forall_mem_cons.mpr ⟨lw_p24, List.forall_mem_cons.mpr ⟨lw_p25, List.forall_mem_cons.mpr ⟨lw_p26, List.forall_mem_cons.mpr ⟨lw_p27, List.forall_mem_cons.mpr ⟨lw_p28, List.forall_mem_cons.mpr ⟨lw_p29, List.forall_mem_cons.mpr ⟨lw_p30, List.forall_mem_cons.mpr ⟨lw_p31, fun _ h => absurd h List.not_mem_nil⟩⟩⟩⟩⟩⟩⟩⟩⟩⟩⟩⟩⟩⟩⟩⟩
theorem lw_p32 : lw_okq (⟨"RoundTrips$Alarms", "find", "(I)I"⟩, 11) := ⟨⟨by decide +kernel, by decide +kernel⟩, List.mem_of_getElem? (i := 196) (by decide +kernel), List.mem_of_getElem? (i := 709) (by decide +kernel), List.mem_of_getElem? (i := 710) (by decide +kernel)⟩
theorem lw_p33 : lw_okq (⟨"RoundTrips$Alarms", "begin", "(I)I"⟩, 11) := ⟨⟨by decide +kernel, by decide +kernel⟩, List.mem_of_getElem? (i := 196) (by decide +kernel), List.mem_of_getElem? (i := 720) (by decide +kernel), List.mem_of_getElem? (i := 721) (by decide +kernel)⟩
theorem lw_p34 : lw_okq (⟨"RoundTrips$Alarms", "widen", "()Z"⟩, 11) := ⟨⟨by decide +kernel, by decide +kernel⟩, List.mem_of_getElem? (i := 196) (by decide +kernel), List.mem_of_getElem? (i := 724) (by decide +kernel), List.mem_of_getElem? (i := 725) (by decide +kernel)⟩
theorem lw_p35 : lw_okq (⟨"RoundTrips$Alarms", "clusterSet", "(I)I"⟩, 11) := ⟨⟨by decide +kernel, by decide +kernel⟩, List.mem_of_getElem? (i := 196) (by decide +kernel), List.mem_of_getElem? (i := 754) (by decide +kernel), List.mem_of_getElem? (i := 755) (by decide +kernel)⟩
theorem lw_p36 : lw_okq (⟨"RoundTrips$Book", "isAt", "(IIZ)Z"⟩, 8) := ⟨⟨by decide +kernel, by decide +kernel⟩, List.mem_of_getElem? (i := 32) (by decide +kernel), List.mem_of_getElem? (i := 785) (by decide +kernel), List.mem_of_getElem? (i := 786) (by decide +kernel)⟩
theorem lw_p37 : lw_okq (⟨"RoundTrips", "whyNoTransfer", "(IIII)I"⟩, 10) := ⟨⟨by decide +kernel, by decide +kernel⟩, List.mem_of_getElem? (i := 24) (by decide +kernel), List.mem_of_getElem? (i := 811) (by decide +kernel), List.mem_of_getElem? (i := 812) (by decide +kernel)⟩
theorem lw_p38 : lw_okq (⟨"RoundTrips", "refuse", "(I)Z"⟩, 10) := ⟨⟨by decide +kernel, by decide +kernel⟩, List.mem_of_getElem? (i := 24) (by decide +kernel), List.mem_of_getElem? (i := 831) (by decide +kernel), List.mem_of_getElem? (i := 832) (by decide +kernel)⟩
theorem lw_p39 : lw_okq (⟨"RoundTrips", "known", "(I)I"⟩, 10) := ⟨⟨by decide +kernel, by decide +kernel⟩, List.mem_of_getElem? (i := 24) (by decide +kernel), List.mem_of_getElem? (i := 909) (by decide +kernel), List.mem_of_getElem? (i := 910) (by decide +kernel)⟩
theorem lw_p40 : lw_okq (⟨"RoundTrips$Rounds", "tallyAlarm", "(I)V"⟩, 14) := ⟨⟨by decide +kernel, by decide +kernel⟩, List.mem_of_getElem? (i := 185) (by decide +kernel), List.mem_of_getElem? (i := 923) (by decide +kernel), List.mem_of_getElem? (i := 924) (by decide +kernel)⟩
theorem lw_p41 : lw_okq (⟨"RoundTrips$Rounds", "isApart", "(I)Z"⟩, 14) := ⟨⟨by decide +kernel, by decide +kernel⟩, List.mem_of_getElem? (i := 185) (by decide +kernel), List.mem_of_getElem? (i := 927) (by decide +kernel), List.mem_of_getElem? (i := 928) (by decide +kernel)⟩
theorem lw_p42 : lw_okq (⟨"RoundTrips", "placeByHeat", "(LRoundTrips$Rounds;I)I"⟩, 10) := ⟨⟨by decide +kernel, by decide +kernel⟩, List.mem_of_getElem? (i := 24) (by decide +kernel), List.mem_of_getElem? (i := 1036) (by decide +kernel), List.mem_of_getElem? (i := 1037) (by decide +kernel)⟩
theorem lw_p43 : lw_okq (⟨"RoundTrips", "heatOf", "(LRoundTrips$Rounds;I)F"⟩, 10) := ⟨⟨by decide +kernel, by decide +kernel⟩, List.mem_of_getElem? (i := 24) (by decide +kernel), List.mem_of_getElem? (i := 1040) (by decide +kernel), List.mem_of_getElem? (i := 1041) (by decide +kernel)⟩
theorem lw_p44 : lw_okq (⟨"RoundTrips", "walk", "(III)I"⟩, 10) := ⟨⟨by decide +kernel, by decide +kernel⟩, List.mem_of_getElem? (i := 24) (by decide +kernel), List.mem_of_getElem? (i := 1048) (by decide +kernel), List.mem_of_getElem? (i := 1049) (by decide +kernel)⟩
theorem lw_p45 : lw_okq (⟨"RoundTrips$Ways", "arrive", "(II)V"⟩, 11) := ⟨⟨by decide +kernel, by decide +kernel⟩, List.mem_of_getElem? (i := 336) (by decide +kernel), List.mem_of_getElem? (i := 1061) (by decide +kernel), List.mem_of_getElem? (i := 1062) (by decide +kernel)⟩
theorem lw_p46 : lw_okq (⟨"RoundTrips", "walkAnywhere", "(II)I"⟩, 10) := ⟨⟨by decide +kernel, by decide +kernel⟩, List.mem_of_getElem? (i := 24) (by decide +kernel), List.mem_of_getElem? (i := 1084) (by decide +kernel), List.mem_of_getElem? (i := 1085) (by decide +kernel)⟩
theorem lw_p47 : lw_okq (⟨"RoundTrips$Parts", "together", "(II)Z"⟩, 2) := ⟨⟨by decide +kernel, by decide +kernel⟩, List.mem_of_getElem? (i := 383) (by decide +kernel), List.mem_of_getElem? (i := 1106) (by decide +kernel), List.mem_of_getElem? (i := 1107) (by decide +kernel)⟩
def lw_privs_3 : List (MethodName × Nat) := [(⟨"RoundTrips$Alarms", "find", "(I)I"⟩, 11), (⟨"RoundTrips$Alarms", "begin", "(I)I"⟩, 11), (⟨"RoundTrips$Alarms", "widen", "()Z"⟩, 11), (⟨"RoundTrips$Alarms", "clusterSet", "(I)I"⟩, 11), (⟨"RoundTrips$Book", "isAt", "(IIZ)Z"⟩, 8), (⟨"RoundTrips", "whyNoTransfer", "(IIII)I"⟩, 10), (⟨"RoundTrips", "refuse", "(I)Z"⟩, 10), (⟨"RoundTrips", "known", "(I)I"⟩, 10), (⟨"RoundTrips$Rounds", "tallyAlarm", "(I)V"⟩, 14), (⟨"RoundTrips$Rounds", "isApart", "(I)Z"⟩, 14), (⟨"RoundTrips", "placeByHeat", "(LRoundTrips$Rounds;I)I"⟩, 10), (⟨"RoundTrips", "heatOf", "(LRoundTrips$Rounds;I)F"⟩, 10), (⟨"RoundTrips", "walk", "(III)I"⟩, 10), (⟨"RoundTrips$Ways", "arrive", "(II)V"⟩, 11), (⟨"RoundTrips", "walkAnywhere", "(II)I"⟩, 10), (⟨"RoundTrips$Parts", "together", "(II)Z"⟩, 2)]
theorem lw_r3 : ∀ q ∈ lw_privs_3, lw_okq q := List.forall_mem_cons.mpr ⟨lw_p32, List.forall_mem_cons.mpr ⟨lw_p33, List.forall_mem_cons.mpr ⟨lw_p34, List.forall_mem_cons.mpr ⟨lw_p35, List.forall_mem_cons.mpr ⟨lw_p36, List.forall_mem_cons.mpr ⟨lw_p37, List.forall_mem_cons.mpr ⟨lw_p38, List.forall_mem_cons.mpr ⟨lw_p39, List.forall_mem_cons.mpr ⟨lw_p40, List.forall_mem_cons.mpr ⟨lw_p41, List.forall_mem_cons.mpr ⟨lw_p42, List.forall_mem_cons.mpr ⟨lw_p43, List.forall_mem_cons.mpr ⟨lw_p44, List.forall_mem_cons.mpr ⟨lw_p45, List.forall_mem_cons.mpr ⟨lw_p46, List.forall_mem_cons.mpr ⟨lw_p47, fun _ h => absurd h List.not_mem_nil⟩⟩⟩⟩⟩⟩⟩⟩⟩⟩⟩⟩⟩⟩⟩⟩
theorem lw_p48 : lw_okq (⟨"RoundTrips$Alarms", "allMeet", "(I)Z"⟩, 11) := ⟨⟨by decide +kernel, by decide +kernel⟩, List.mem_of_getElem? (i := 196) (by decide +kernel), List.mem_of_getElem? (i := 1137) (by decide +kernel), List.mem_of_getElem? (i := 1138) (by decide +kernel)⟩
theorem lw_p49 : lw_okq (⟨"RoundTrips$Book", "joinsFunnel", "(IIIZ)Z"⟩, 8) := ⟨⟨by decide +kernel, by decide +kernel⟩, List.mem_of_getElem? (i := 32) (by decide +kernel), List.mem_of_getElem? (i := 1161) (by decide +kernel), List.mem_of_getElem? (i := 1162) (by decide +kernel)⟩
theorem lw_p50 : lw_okq (⟨"RoundTrips", "leastRate", "(I)I"⟩, 10) := ⟨⟨by decide +kernel, by decide +kernel⟩, List.mem_of_getElem? (i := 24) (by decide +kernel), List.mem_of_getElem? (i := 1200) (by decide +kernel), List.mem_of_getElem? (i := 1201) (by decide +kernel)⟩
theorem lw_p51 : lw_okq (⟨"RoundTripsModel", "begins", "()V"⟩, 37) := ⟨⟨by decide +kernel, by decide +kernel⟩, List.mem_of_getElem? (i := 1204) (by decide +kernel), List.mem_of_getElem? (i := 1211) (by decide +kernel), List.mem_of_getElem? (i := 1212) (by decide +kernel)⟩
theorem lw_p52 : lw_okq (⟨"RoundTripsModel", "of", "(I)I"⟩, 37) := ⟨⟨by decide +kernel, by decide +kernel⟩, List.mem_of_getElem? (i := 1204) (by decide +kernel), List.mem_of_getElem? (i := 1336) (by decide +kernel), List.mem_of_getElem? (i := 1337) (by decide +kernel)⟩
theorem lw_p53 : lw_okq (⟨"RoundTripsModel", "refuse", "(I)I"⟩, 37) := ⟨⟨by decide +kernel, by decide +kernel⟩, List.mem_of_getElem? (i := 1204) (by decide +kernel), List.mem_of_getElem? (i := 1340) (by decide +kernel), List.mem_of_getElem? (i := 1341) (by decide +kernel)⟩
theorem lw_p54 : lw_okq (⟨"RoundTripsModel", "acted", "()V"⟩, 37) := ⟨⟨by decide +kernel, by decide +kernel⟩, List.mem_of_getElem? (i := 1204) (by decide +kernel), List.mem_of_getElem? (i := 1344) (by decide +kernel), List.mem_of_getElem? (i := 1345) (by decide +kernel)⟩
theorem lw_p55 : lw_okq (⟨"RoundTripsModel", "copies", "(II)V"⟩, 37) := ⟨⟨by decide +kernel, by decide +kernel⟩, List.mem_of_getElem? (i := 1204) (by decide +kernel), List.mem_of_getElem? (i := 1348) (by decide +kernel), List.mem_of_getElem? (i := 1349) (by decide +kernel)⟩
theorem lw_p56 : lw_okq (⟨"RoundTripsModel", "gives", "(I)I"⟩, 37) := ⟨⟨by decide +kernel, by decide +kernel⟩, List.mem_of_getElem? (i := 1204) (by decide +kernel), List.mem_of_getElem? (i := 1352) (by decide +kernel), List.mem_of_getElem? (i := 1353) (by decide +kernel)⟩
theorem lw_p57 : lw_okq (⟨"RoundTripsModel", "wrongPay", "(IIII)I"⟩, 37) := ⟨⟨by decide +kernel, by decide +kernel⟩, List.mem_of_getElem? (i := 1204) (by decide +kernel), List.mem_of_getElem? (i := 1360) (by decide +kernel), List.mem_of_getElem? (i := 1361) (by decide +kernel)⟩
theorem lw_p58 : lw_okq (⟨"RoundTripsModel", "isAccount", "(I)Z"⟩, 37) := ⟨⟨by decide +kernel, by decide +kernel⟩, List.mem_of_getElem? (i := 1204) (by decide +kernel), List.mem_of_getElem? (i := 1367) (by decide +kernel), List.mem_of_getElem? (i := 1368) (by decide +kernel)⟩
theorem lw_p59 : lw_okq (⟨"RoundTripsModel", "comes", "(IIII)I"⟩, 37) := ⟨⟨by decide +kernel, by decide +kernel⟩, List.mem_of_getElem? (i := 1204) (by decide +kernel), List.mem_of_getElem? (i := 1371) (by decide +kernel), List.mem_of_getElem? (i := 1372) (by decide +kernel)⟩
theorem lw_p60 : lw_okq (⟨"RoundTripsModel", "time", "(I)I"⟩, 37) := ⟨⟨by decide +kernel, by decide +kernel⟩, List.mem_of_getElem? (i := 1204) (by decide +kernel), List.mem_of_getElem? (i := 1375) (by decide +kernel), List.mem_of_getElem? (i := 1376) (by decide +kernel)⟩
theorem lw_p61 : lw_okq (⟨"RoundTripsModel", "isTransfer", "(I)Z"⟩, 37) := ⟨⟨by decide +kernel, by decide +kernel⟩, List.mem_of_getElem? (i := 1204) (by decide +kernel), List.mem_of_getElem? (i := 1386) (by decide +kernel), List.mem_of_getElem? (i := 1387) (by decide +kernel)⟩
theorem lw_p62 : lw_okq (⟨"RoundTripsModel", "goes", "(I)V"⟩, 37) := ⟨⟨by decide +kernel, by decide +kernel⟩, List.mem_of_getElem? (i := 1204) (by decide +kernel), List.mem_of_getElem? (i := 1390) (by decide +kernel), List.mem_of_getElem? (i := 1391) (by decide +kernel)⟩
theorem lw_p63 : lw_okq (⟨"RoundTripsModel", "isSo", "(I)Z"⟩, 37) := ⟨⟨by decide +kernel, by decide +kernel⟩, List.mem_of_getElem? (i := 1204) (by decide +kernel), List.mem_of_getElem? (i := 1398) (by decide +kernel), List.mem_of_getElem? (i := 1399) (by decide +kernel)⟩
def lw_privs_4 : List (MethodName × Nat) := [(⟨"RoundTrips$Alarms", "allMeet", "(I)Z"⟩, 11), (⟨"RoundTrips$Book", "joinsFunnel", "(IIIZ)Z"⟩, 8), (⟨"RoundTrips", "leastRate", "(I)I"⟩, 10), (⟨"RoundTripsModel", "begins", "()V"⟩, 37), (⟨"RoundTripsModel", "of", "(I)I"⟩, 37), (⟨"RoundTripsModel", "refuse", "(I)I"⟩, 37), (⟨"RoundTripsModel", "acted", "()V"⟩, 37), (⟨"RoundTripsModel", "copies", "(II)V"⟩, 37), (⟨"RoundTripsModel", "gives", "(I)I"⟩, 37), (⟨"RoundTripsModel", "wrongPay", "(IIII)I"⟩, 37), (⟨"RoundTripsModel", "isAccount", "(I)Z"⟩, 37), (⟨"RoundTripsModel", "comes", "(IIII)I"⟩, 37), (⟨"RoundTripsModel", "time", "(I)I"⟩, 37), (⟨"RoundTripsModel", "isTransfer", "(I)Z"⟩, 37), (⟨"RoundTripsModel", "goes", "(I)V"⟩, 37), (⟨"RoundTripsModel", "isSo", "(I)Z"⟩, 37)]
theorem lw_r4 : ∀ q ∈ lw_privs_4, lw_okq q := List.forall_mem_cons.mpr ⟨lw_p48, List.forall_mem_cons.mpr ⟨lw_p49, List.forall_mem_cons.mpr ⟨lw_p50, List.forall_mem_cons.mpr ⟨lw_p51, List.forall_mem_cons.mpr ⟨lw_p52, List.forall_mem_cons.mpr ⟨lw_p53, List.forall_mem_cons.mpr ⟨lw_p54, List.forall_mem_cons.mpr ⟨lw_p55, List.forall_mem_cons.mpr ⟨lw_p56, List.forall_mem_cons.mpr ⟨lw_p57, List.forall_mem_cons.mpr ⟨lw_p58, List.forall_mem_cons.mpr ⟨lw_p59, List.forall_mem_cons.mpr ⟨lw_p60, List.forall_mem_cons.mpr ⟨lw_p61, List.forall_mem_cons.mpr ⟨lw_p62, List.forall_mem_cons.mpr ⟨lw_p63, fun _ h => absurd h List.not_mem_nil⟩⟩⟩⟩⟩⟩⟩⟩⟩⟩⟩⟩⟩⟩⟩⟩
theorem lw_p64 : lw_okq (⟨"RoundTripsModel", "bound0", "(I)I"⟩, 37) := ⟨⟨by decide +kernel, by decide +kernel⟩, List.mem_of_getElem? (i := 1204) (by decide +kernel), List.mem_of_getElem? (i := 1412) (by decide +kernel), List.mem_of_getElem? (i := 1413) (by decide +kernel)⟩
theorem lw_p65 : lw_okq (⟨"RoundTripsModel", "from", "(I)I"⟩, 37) := ⟨⟨by decide +kernel, by decide +kernel⟩, List.mem_of_getElem? (i := 1204) (by decide +kernel), List.mem_of_getElem? (i := 1422) (by decide +kernel), List.mem_of_getElem? (i := 1423) (by decide +kernel)⟩
theorem lw_p66 : lw_okq (⟨"RoundTripsModel", "to", "(I)I"⟩, 37) := ⟨⟨by decide +kernel, by decide +kernel⟩, List.mem_of_getElem? (i := 1204) (by decide +kernel), List.mem_of_getElem? (i := 1426) (by decide +kernel), List.mem_of_getElem? (i := 1427) (by decide +kernel)⟩
theorem lw_p67 : lw_okq (⟨"RoundTripsModel", "four", "(I)V"⟩, 37) := ⟨⟨by decide +kernel, by decide +kernel⟩, List.mem_of_getElem? (i := 1204) (by decide +kernel), List.mem_of_getElem? (i := 1446) (by decide +kernel), List.mem_of_getElem? (i := 1447) (by decide +kernel)⟩
theorem lw_p68 : lw_okq (⟨"RoundTripsModel", "ahead", "()V"⟩, 37) := ⟨⟨by decide +kernel, by decide +kernel⟩, List.mem_of_getElem? (i := 1204) (by decide +kernel), List.mem_of_getElem? (i := 1454) (by decide +kernel), List.mem_of_getElem? (i := 1455) (by decide +kernel)⟩
theorem lw_p69 : lw_okq (⟨"RoundTripsModel", "byteAt", "(I)I"⟩, 37) := ⟨⟨by decide +kernel, by decide +kernel⟩, List.mem_of_getElem? (i := 1204) (by decide +kernel), List.mem_of_getElem? (i := 1458) (by decide +kernel), List.mem_of_getElem? (i := 1459) (by decide +kernel)⟩
theorem lw_p70 : lw_okq (⟨"RoundTripsModel", "aLine", "()Z"⟩, 37) := ⟨⟨by decide +kernel, by decide +kernel⟩, List.mem_of_getElem? (i := 1204) (by decide +kernel), List.mem_of_getElem? (i := 1469) (by decide +kernel), List.mem_of_getElem? (i := 1470) (by decide +kernel)⟩
theorem lw_p71 : lw_okq (⟨"RoundTripsModel", "key", "()I"⟩, 37) := ⟨⟨by decide +kernel, by decide +kernel⟩, List.mem_of_getElem? (i := 1204) (by decide +kernel), List.mem_of_getElem? (i := 1473) (by decide +kernel), List.mem_of_getElem? (i := 1474) (by decide +kernel)⟩
theorem lw_p72 : lw_okq (⟨"RoundTripsModel", "isName", "()Z"⟩, 37) := ⟨⟨by decide +kernel, by decide +kernel⟩, List.mem_of_getElem? (i := 1204) (by decide +kernel), List.mem_of_getElem? (i := 1526) (by decide +kernel), List.mem_of_getElem? (i := 1527) (by decide +kernel)⟩
theorem lw_p73 : lw_okq (⟨"RoundTripsModel", "someAccounts", "()Z"⟩, 37) := ⟨⟨by decide +kernel, by decide +kernel⟩, List.mem_of_getElem? (i := 1204) (by decide +kernel), List.mem_of_getElem? (i := 1530) (by decide +kernel), List.mem_of_getElem? (i := 1531) (by decide +kernel)⟩
theorem lw_p74 : lw_okq (⟨"RoundTripsModel", "named", "()I"⟩, 37) := ⟨⟨by decide +kernel, by decide +kernel⟩, List.mem_of_getElem? (i := 1204) (by decide +kernel), List.mem_of_getElem? (i := 1534) (by decide +kernel), List.mem_of_getElem? (i := 1535) (by decide +kernel)⟩
theorem lw_p75 : lw_okq (⟨"RoundTripsModel", "nameHere", "()I"⟩, 37) := ⟨⟨by decide +kernel, by decide +kernel⟩, List.mem_of_getElem? (i := 1204) (by decide +kernel), List.mem_of_getElem? (i := 1538) (by decide +kernel), List.mem_of_getElem? (i := 1539) (by decide +kernel)⟩
theorem lw_p76 : lw_okq (⟨"RoundTripsModel", "fails", "(I)Z"⟩, 37) := ⟨⟨by decide +kernel, by decide +kernel⟩, List.mem_of_getElem? (i := 1204) (by decide +kernel), List.mem_of_getElem? (i := 1542) (by decide +kernel), List.mem_of_getElem? (i := 1543) (by decide +kernel)⟩
theorem lw_p77 : lw_okq (⟨"RoundTripsModel", "aPay", "()Z"⟩, 37) := ⟨⟨by decide +kernel, by decide +kernel⟩, List.mem_of_getElem? (i := 1204) (by decide +kernel), List.mem_of_getElem? (i := 1546) (by decide +kernel), List.mem_of_getElem? (i := 1547) (by decide +kernel)⟩
theorem lw_p78 : lw_okq (⟨"RoundTripsModel", "accountHere", "()I"⟩, 37) := ⟨⟨by decide +kernel, by decide +kernel⟩, List.mem_of_getElem? (i := 1204) (by decide +kernel), List.mem_of_getElem? (i := 1550) (by decide +kernel), List.mem_of_getElem? (i := 1551) (by decide +kernel)⟩
theorem lw_p79 : lw_okq (⟨"RoundTripsModel", "takesSign", "(I)Z"⟩, 37) := ⟨⟨by decide +kernel, by decide +kernel⟩, List.mem_of_getElem? (i := 1204) (by decide +kernel), List.mem_of_getElem? (i := 1554) (by decide +kernel), List.mem_of_getElem? (i := 1555) (by decide +kernel)⟩
def lw_privs_5 : List (MethodName × Nat) := [(⟨"RoundTripsModel", "bound0", "(I)I"⟩, 37), (⟨"RoundTripsModel", "from", "(I)I"⟩, 37), (⟨"RoundTripsModel", "to", "(I)I"⟩, 37), (⟨"RoundTripsModel", "four", "(I)V"⟩, 37), (⟨"RoundTripsModel", "ahead", "()V"⟩, 37), (⟨"RoundTripsModel", "byteAt", "(I)I"⟩, 37), (⟨"RoundTripsModel", "aLine", "()Z"⟩, 37), (⟨"RoundTripsModel", "key", "()I"⟩, 37), (⟨"RoundTripsModel", "isName", "()Z"⟩, 37), (⟨"RoundTripsModel", "someAccounts", "()Z"⟩, 37), (⟨"RoundTripsModel", "named", "()I"⟩, 37), (⟨"RoundTripsModel", "nameHere", "()I"⟩, 37), (⟨"RoundTripsModel", "fails", "(I)Z"⟩, 37), (⟨"RoundTripsModel", "aPay", "()Z"⟩, 37), (⟨"RoundTripsModel", "accountHere", "()I"⟩, 37), (⟨"RoundTripsModel", "takesSign", "(I)Z"⟩, 37)]
theorem lw_r5 : ∀ q ∈ lw_privs_5, lw_okq q := List.forall_mem_cons.mpr ⟨lw_p64, List.forall_mem_cons.mpr ⟨lw_p65, List.forall_mem_cons.mpr ⟨lw_p66, List.forall_mem_cons.mpr ⟨lw_p67, List.forall_mem_cons.mpr ⟨lw_p68, List.forall_mem_cons.mpr ⟨lw_p69, List.forall_mem_cons.mpr ⟨lw_p70, List.forall_mem_cons.mpr ⟨lw_p71, List.forall_mem_cons.mpr ⟨lw_p72, List.forall_mem_cons.mpr ⟨lw_p73, List.forall_mem_cons.mpr ⟨lw_p74, List.forall_mem_cons.mpr ⟨lw_p75, List.forall_mem_cons.mpr ⟨lw_p76, List.forall_mem_cons.mpr ⟨lw_p77, List.forall_mem_cons.mpr ⟨lw_p78, List.forall_mem_cons.mpr ⟨lw_p79, fun _ h => absurd h List.not_mem_nil⟩⟩⟩⟩⟩⟩⟩⟩⟩⟩⟩⟩⟩⟩⟩⟩
theorem lw_p80 : lw_okq (⟨"RoundTripsModel", "takesOn", "()Z"⟩, 37) := ⟨⟨by decide +kernel, by decide +kernel⟩, List.mem_of_getElem? (i := 1204) (by decide +kernel), List.mem_of_getElem? (i := 1558) (by decide +kernel), List.mem_of_getElem? (i := 1559) (by decide +kernel)⟩
theorem lw_p81 : lw_okq (⟨"RoundTripsModel", "takesNumber", "(II)Z"⟩, 37) := ⟨⟨by decide +kernel, by decide +kernel⟩, List.mem_of_getElem? (i := 1204) (by decide +kernel), List.mem_of_getElem? (i := 1562) (by decide +kernel), List.mem_of_getElem? (i := 1563) (by decide +kernel)⟩
theorem lw_p82 : lw_okq (⟨"RoundTripsModel", "aTrust", "()Z"⟩, 37) := ⟨⟨by decide +kernel, by decide +kernel⟩, List.mem_of_getElem? (i := 1204) (by decide +kernel), List.mem_of_getElem? (i := 1566) (by decide +kernel), List.mem_of_getElem? (i := 1567) (by decide +kernel)⟩
theorem lw_p83 : lw_okq (⟨"RoundTripsModel", "aBound", "(I)Z"⟩, 37) := ⟨⟨by decide +kernel, by decide +kernel⟩, List.mem_of_getElem? (i := 1204) (by decide +kernel), List.mem_of_getElem? (i := 1570) (by decide +kernel), List.mem_of_getElem? (i := 1571) (by decide +kernel)⟩
theorem lw_p84 : lw_okq (⟨"RoundTripsModel", "lays", "()V"⟩, 37) := ⟨⟨by decide +kernel, by decide +kernel⟩, List.mem_of_getElem? (i := 1204) (by decide +kernel), List.mem_of_getElem? (i := 1582) (by decide +kernel), List.mem_of_getElem? (i := 1583) (by decide +kernel)⟩
theorem lw_p85 : lw_okq (⟨"RoundTripsModel", "goesOn", "(II)V"⟩, 37) := ⟨⟨by decide +kernel, by decide +kernel⟩, List.mem_of_getElem? (i := 1204) (by decide +kernel), List.mem_of_getElem? (i := 1586) (by decide +kernel), List.mem_of_getElem? (i := 1587) (by decide +kernel)⟩
theorem lw_p86 : lw_okq (⟨"RoundTripsModel", "isRound", "(II)V"⟩, 37) := ⟨⟨by decide +kernel, by decide +kernel⟩, List.mem_of_getElem? (i := 1204) (by decide +kernel), List.mem_of_getElem? (i := 1590) (by decide +kernel), List.mem_of_getElem? (i := 1591) (by decide +kernel)⟩
theorem lw_p87 : lw_okq (⟨"RoundTripsModel", "isStep", "(II)Z"⟩, 37) := ⟨⟨by decide +kernel, by decide +kernel⟩, List.mem_of_getElem? (i := 1204) (by decide +kernel), List.mem_of_getElem? (i := 1594) (by decide +kernel), List.mem_of_getElem? (i := 1595) (by decide +kernel)⟩
theorem lw_p88 : lw_okq (⟨"RoundTripsModel", "amount", "(I)I"⟩, 37) := ⟨⟨by decide +kernel, by decide +kernel⟩, List.mem_of_getElem? (i := 1204) (by decide +kernel), List.mem_of_getElem? (i := 1598) (by decide +kernel), List.mem_of_getElem? (i := 1599) (by decide +kernel)⟩
theorem lw_p89 : lw_okq (⟨"RoundTripsModel", "isAs", "(II)Z"⟩, 37) := ⟨⟨by decide +kernel, by decide +kernel⟩, List.mem_of_getElem? (i := 1204) (by decide +kernel), List.mem_of_getElem? (i := 1602) (by decide +kernel), List.mem_of_getElem? (i := 1603) (by decide +kernel)⟩
theorem lw_p90 : lw_okq (⟨"RoundTripsModel", "isLike", "(II)Z"⟩, 37) := ⟨⟨by decide +kernel, by decide +kernel⟩, List.mem_of_getElem? (i := 1204) (by decide +kernel), List.mem_of_getElem? (i := 1606) (by decide +kernel), List.mem_of_getElem? (i := 1607) (by decide +kernel)⟩
theorem lw_p91 : lw_okq (⟨"RoundTripsModel", "ringOf", "(II)I"⟩, 37) := ⟨⟨by decide +kernel, by decide +kernel⟩, List.mem_of_getElem? (i := 1204) (by decide +kernel), List.mem_of_getElem? (i := 1610) (by decide +kernel), List.mem_of_getElem? (i := 1611) (by decide +kernel)⟩
theorem lw_p92 : lw_okq (⟨"RoundTripsModel", "hop0", "(II)I"⟩, 37) := ⟨⟨by decide +kernel, by decide +kernel⟩, List.mem_of_getElem? (i := 1204) (by decide +kernel), List.mem_of_getElem? (i := 1614) (by decide +kernel), List.mem_of_getElem? (i := 1615) (by decide +kernel)⟩
theorem lw_p93 : lw_okq (⟨"RoundTripsModel", "amounts", "()I"⟩, 37) := ⟨⟨by decide +kernel, by decide +kernel⟩, List.mem_of_getElem? (i := 1204) (by decide +kernel), List.mem_of_getElem? (i := 1618) (by decide +kernel), List.mem_of_getElem? (i := 1619) (by decide +kernel)⟩
theorem lw_p94 : lw_okq (⟨"RoundTripsModel", "areCouples", "()Z"⟩, 37) := ⟨⟨by decide +kernel, by decide +kernel⟩, List.mem_of_getElem? (i := 1204) (by decide +kernel), List.mem_of_getElem? (i := 1622) (by decide +kernel), List.mem_of_getElem? (i := 1623) (by decide +kernel)⟩
theorem lw_p95 : lw_okq (⟨"RoundTripsModel", "clusters", "()I"⟩, 37) := ⟨⟨by decide +kernel, by decide +kernel⟩, List.mem_of_getElem? (i := 1204) (by decide +kernel), List.mem_of_getElem? (i := 1626) (by decide +kernel), List.mem_of_getElem? (i := 1627) (by decide +kernel)⟩
def lw_privs_6 : List (MethodName × Nat) := [(⟨"RoundTripsModel", "takesOn", "()Z"⟩, 37), (⟨"RoundTripsModel", "takesNumber", "(II)Z"⟩, 37), (⟨"RoundTripsModel", "aTrust", "()Z"⟩, 37), (⟨"RoundTripsModel", "aBound", "(I)Z"⟩, 37), (⟨"RoundTripsModel", "lays", "()V"⟩, 37), (⟨"RoundTripsModel", "goesOn", "(II)V"⟩, 37), (⟨"RoundTripsModel", "isRound", "(II)V"⟩, 37), (⟨"RoundTripsModel", "isStep", "(II)Z"⟩, 37), (⟨"RoundTripsModel", "amount", "(I)I"⟩, 37), (⟨"RoundTripsModel", "isAs", "(II)Z"⟩, 37), (⟨"RoundTripsModel", "isLike", "(II)Z"⟩, 37), (⟨"RoundTripsModel", "ringOf", "(II)I"⟩, 37), (⟨"RoundTripsModel", "hop0", "(II)I"⟩, 37), (⟨"RoundTripsModel", "amounts", "()I"⟩, 37), (⟨"RoundTripsModel", "areCouples", "()Z"⟩, 37), (⟨"RoundTripsModel", "clusters", "()I"⟩, 37)]
theorem lw_r6 : ∀ q ∈ lw_privs_6, lw_okq q := List.forall_mem_cons.mpr ⟨lw_p80, List.forall_mem_cons.mpr ⟨lw_p81, List.forall_mem_cons.mpr ⟨lw_p82, List.forall_mem_cons.mpr ⟨lw_p83, List.forall_mem_cons.mpr ⟨lw_p84, List.forall_mem_cons.mpr ⟨lw_p85, List.forall_mem_cons.mpr ⟨lw_p86, List.forall_mem_cons.mpr ⟨lw_p87, List.forall_mem_cons.mpr ⟨lw_p88, List.forall_mem_cons.mpr ⟨lw_p89, List.forall_mem_cons.mpr ⟨lw_p90, List.forall_mem_cons.mpr ⟨lw_p91, List.forall_mem_cons.mpr ⟨lw_p92, List.forall_mem_cons.mpr ⟨lw_p93, List.forall_mem_cons.mpr ⟨lw_p94, List.forall_mem_cons.mpr ⟨lw_p95, fun _ h => absurd h List.not_mem_nil⟩⟩⟩⟩⟩⟩⟩⟩⟩⟩⟩⟩⟩⟩⟩⟩
theorem lw_p96 : lw_okq (⟨"RoundTripsModel", "togetherWith", "(I)I"⟩, 37) := ⟨⟨by decide +kernel, by decide +kernel⟩, List.mem_of_getElem? (i := 1204) (by decide +kernel), List.mem_of_getElem? (i := 1630) (by decide +kernel), List.mem_of_getElem? (i := 1631) (by decide +kernel)⟩
theorem lw_p97 : lw_okq (⟨"RoundTripsModel", "nets", "()I"⟩, 37) := ⟨⟨by decide +kernel, by decide +kernel⟩, List.mem_of_getElem? (i := 1204) (by decide +kernel), List.mem_of_getElem? (i := 1634) (by decide +kernel), List.mem_of_getElem? (i := 1635) (by decide +kernel)⟩
theorem lw_p98 : lw_okq (⟨"RoundTripsModel", "inRounds", "(I)I"⟩, 37) := ⟨⟨by decide +kernel, by decide +kernel⟩, List.mem_of_getElem? (i := 1204) (by decide +kernel), List.mem_of_getElem? (i := 1646) (by decide +kernel), List.mem_of_getElem? (i := 1647) (by decide +kernel)⟩
theorem lw_p99 : lw_okq (⟨"RoundTripsModel", "isIn", "(II)Z"⟩, 37) := ⟨⟨by decide +kernel, by decide +kernel⟩, List.mem_of_getElem? (i := 1204) (by decide +kernel), List.mem_of_getElem? (i := 1650) (by decide +kernel), List.mem_of_getElem? (i := 1651) (by decide +kernel)⟩
theorem lw_p100 : lw_okq (⟨"RoundTripsModel", "closes", "(I)I"⟩, 37) := ⟨⟨by decide +kernel, by decide +kernel⟩, List.mem_of_getElem? (i := 1204) (by decide +kernel), List.mem_of_getElem? (i := 1654) (by decide +kernel), List.mem_of_getElem? (i := 1655) (by decide +kernel)⟩
theorem lw_p101 : lw_okq (⟨"RoundTripsModel", "last", "(I)I"⟩, 37) := ⟨⟨by decide +kernel, by decide +kernel⟩, List.mem_of_getElem? (i := 1204) (by decide +kernel), List.mem_of_getElem? (i := 1658) (by decide +kernel), List.mem_of_getElem? (i := 1659) (by decide +kernel)⟩
theorem lw_p102 : lw_okq (⟨"RoundTripsModel", "roundsOf", "(I)I"⟩, 37) := ⟨⟨by decide +kernel, by decide +kernel⟩, List.mem_of_getElem? (i := 1204) (by decide +kernel), List.mem_of_getElem? (i := 1666) (by decide +kernel), List.mem_of_getElem? (i := 1667) (by decide +kernel)⟩
theorem lw_p103 : lw_okq (⟨"RoundTripsModel", "alarmsOf", "(I)I"⟩, 37) := ⟨⟨by decide +kernel, by decide +kernel⟩, List.mem_of_getElem? (i := 1204) (by decide +kernel), List.mem_of_getElem? (i := 1670) (by decide +kernel), List.mem_of_getElem? (i := 1671) (by decide +kernel)⟩
theorem lw_p104 : lw_okq (⟨"RoundTripsModel", "leastHad", "(I)I"⟩, 37) := ⟨⟨by decide +kernel, by decide +kernel⟩, List.mem_of_getElem? (i := 1204) (by decide +kernel), List.mem_of_getElem? (i := 1674) (by decide +kernel), List.mem_of_getElem? (i := 1675) (by decide +kernel)⟩
theorem lw_p105 : lw_okq (⟨"RoundTripsModel", "sideOf", "(IIZ)I"⟩, 37) := ⟨⟨by decide +kernel, by decide +kernel⟩, List.mem_of_getElem? (i := 1204) (by decide +kernel), List.mem_of_getElem? (i := 1678) (by decide +kernel), List.mem_of_getElem? (i := 1679) (by decide +kernel)⟩
theorem lw_p106 : lw_okq (⟨"RoundTripsModel", "flow", "(I)I"⟩, 37) := ⟨⟨by decide +kernel, by decide +kernel⟩, List.mem_of_getElem? (i := 1204) (by decide +kernel), List.mem_of_getElem? (i := 1686) (by decide +kernel), List.mem_of_getElem? (i := 1687) (by decide +kernel)⟩
theorem lw_p107 : lw_okq (⟨"RoundTripsModel", "kept", "(I)F"⟩, 37) := ⟨⟨by decide +kernel, by decide +kernel⟩, List.mem_of_getElem? (i := 1204) (by decide +kernel), List.mem_of_getElem? (i := 1690) (by decide +kernel), List.mem_of_getElem? (i := 1691) (by decide +kernel)⟩
theorem lw_p108 : lw_okq (⟨"RoundTripsModel", "pace", "(I)F"⟩, 37) := ⟨⟨by decide +kernel, by decide +kernel⟩, List.mem_of_getElem? (i := 1204) (by decide +kernel), List.mem_of_getElem? (i := 1704) (by decide +kernel), List.mem_of_getElem? (i := 1705) (by decide +kernel)⟩
theorem lw_p109 : lw_okq (⟨"RoundTripsModel", "takes", "(I)I"⟩, 37) := ⟨⟨by decide +kernel, by decide +kernel⟩, List.mem_of_getElem? (i := 1204) (by decide +kernel), List.mem_of_getElem? (i := 1708) (by decide +kernel), List.mem_of_getElem? (i := 1709) (by decide +kernel)⟩
theorem lw_p110 : lw_okq (⟨"RoundTripsModel", "usesOf", "(I)I"⟩, 37) := ⟨⟨by decide +kernel, by decide +kernel⟩, List.mem_of_getElem? (i := 1204) (by decide +kernel), List.mem_of_getElem? (i := 1720) (by decide +kernel), List.mem_of_getElem? (i := 1721) (by decide +kernel)⟩
theorem lw_p111 : lw_okq (⟨"RoundTripsModel", "witness", "(I)I"⟩, 37) := ⟨⟨by decide +kernel, by decide +kernel⟩, List.mem_of_getElem? (i := 1204) (by decide +kernel), List.mem_of_getElem? (i := 1724) (by decide +kernel), List.mem_of_getElem? (i := 1725) (by decide +kernel)⟩
def lw_privs_7 : List (MethodName × Nat) := [(⟨"RoundTripsModel", "togetherWith", "(I)I"⟩, 37), (⟨"RoundTripsModel", "nets", "()I"⟩, 37), (⟨"RoundTripsModel", "inRounds", "(I)I"⟩, 37), (⟨"RoundTripsModel", "isIn", "(II)Z"⟩, 37), (⟨"RoundTripsModel", "closes", "(I)I"⟩, 37), (⟨"RoundTripsModel", "last", "(I)I"⟩, 37), (⟨"RoundTripsModel", "roundsOf", "(I)I"⟩, 37), (⟨"RoundTripsModel", "alarmsOf", "(I)I"⟩, 37), (⟨"RoundTripsModel", "leastHad", "(I)I"⟩, 37), (⟨"RoundTripsModel", "sideOf", "(IIZ)I"⟩, 37), (⟨"RoundTripsModel", "flow", "(I)I"⟩, 37), (⟨"RoundTripsModel", "kept", "(I)F"⟩, 37), (⟨"RoundTripsModel", "pace", "(I)F"⟩, 37), (⟨"RoundTripsModel", "takes", "(I)I"⟩, 37), (⟨"RoundTripsModel", "usesOf", "(I)I"⟩, 37), (⟨"RoundTripsModel", "witness", "(I)I"⟩, 37)]
theorem lw_r7 : ∀ q ∈ lw_privs_7, lw_okq q := List.forall_mem_cons.mpr ⟨lw_p96, List.forall_mem_cons.mpr ⟨lw_p97, List.forall_mem_cons.mpr ⟨lw_p98, List.forall_mem_cons.mpr ⟨lw_p99, List.forall_mem_cons.mpr ⟨lw_p100, List.forall_mem_cons.mpr ⟨lw_p101, List.forall_mem_cons.mpr ⟨lw_p102, List.forall_mem_cons.mpr ⟨lw_p103, List.forall_mem_cons.mpr ⟨lw_p104, List.forall_mem_cons.mpr ⟨lw_p105, List.forall_mem_cons.mpr ⟨lw_p106, List.forall_mem_cons.mpr ⟨lw_p107, List.forall_mem_cons.mpr ⟨lw_p108, List.forall_mem_cons.mpr ⟨lw_p109, List.forall_mem_cons.mpr ⟨lw_p110, List.forall_mem_cons.mpr ⟨lw_p111, fun _ h => absurd h List.not_mem_nil⟩⟩⟩⟩⟩⟩⟩⟩⟩⟩⟩⟩⟩⟩⟩⟩
theorem lw_p112 : lw_okq (⟨"RoundTripsModel", "isApart", "(I)Z"⟩, 37) := ⟨⟨by decide +kernel, by decide +kernel⟩, List.mem_of_getElem? (i := 1204) (by decide +kernel), List.mem_of_getElem? (i := 1728) (by decide +kernel), List.mem_of_getElem? (i := 1729) (by decide +kernel)⟩
theorem lw_p113 : lw_okq (⟨"RoundTripsModel", "isAbove", "(III)Z"⟩, 37) := ⟨⟨by decide +kernel, by decide +kernel⟩, List.mem_of_getElem? (i := 1204) (by decide +kernel), List.mem_of_getElem? (i := 1748) (by decide +kernel), List.mem_of_getElem? (i := 1749) (by decide +kernel)⟩
theorem lw_p114 : lw_okq (⟨"RoundTripsModel", "clusterOf", "(I)I"⟩, 37) := ⟨⟨by decide +kernel, by decide +kernel⟩, List.mem_of_getElem? (i := 1204) (by decide +kernel), List.mem_of_getElem? (i := 1760) (by decide +kernel), List.mem_of_getElem? (i := 1761) (by decide +kernel)⟩
theorem lw_p115 : lw_okq (⟨"RoundTripsModel", "stand", "(I)I"⟩, 37) := ⟨⟨by decide +kernel, by decide +kernel⟩, List.mem_of_getElem? (i := 1204) (by decide +kernel), List.mem_of_getElem? (i := 1772) (by decide +kernel), List.mem_of_getElem? (i := 1773) (by decide +kernel)⟩
theorem lw_p116 : lw_okq (⟨"RoundTripsModel", "isStanding", "(II)Z"⟩, 37) := ⟨⟨by decide +kernel, by decide +kernel⟩, List.mem_of_getElem? (i := 1204) (by decide +kernel), List.mem_of_getElem? (i := 1776) (by decide +kernel), List.mem_of_getElem? (i := 1777) (by decide +kernel)⟩
theorem lw_p117 : lw_okq (⟨"RoundTripsModel", "unlikeOf", "(IZ)I"⟩, 37) := ⟨⟨by decide +kernel, by decide +kernel⟩, List.mem_of_getElem? (i := 1204) (by decide +kernel), List.mem_of_getElem? (i := 1780) (by decide +kernel), List.mem_of_getElem? (i := 1781) (by decide +kernel)⟩
theorem lw_p118 : lw_okq (⟨"RoundTripsModel", "heatOf", "(I)F"⟩, 37) := ⟨⟨by decide +kernel, by decide +kernel⟩, List.mem_of_getElem? (i := 1204) (by decide +kernel), List.mem_of_getElem? (i := 1792) (by decide +kernel), List.mem_of_getElem? (i := 1793) (by decide +kernel)⟩
theorem lw_p119 : lw_okq (⟨"RoundTripsModel", "wrongWay", "(III)I"⟩, 37) := ⟨⟨by decide +kernel, by decide +kernel⟩, List.mem_of_getElem? (i := 1204) (by decide +kernel), List.mem_of_getElem? (i := 1808) (by decide +kernel), List.mem_of_getElem? (i := 1809) (by decide +kernel)⟩
theorem lw_p120 : lw_okq (⟨"RoundTripsModel", "seeksAll", "(III)V"⟩, 37) := ⟨⟨by decide +kernel, by decide +kernel⟩, List.mem_of_getElem? (i := 1204) (by decide +kernel), List.mem_of_getElem? (i := 1812) (by decide +kernel), List.mem_of_getElem? (i := 1813) (by decide +kernel)⟩
theorem lw_p121 : lw_okq (⟨"RoundTripsModel", "seeks", "(III)V"⟩, 37) := ⟨⟨by decide +kernel, by decide +kernel⟩, List.mem_of_getElem? (i := 1204) (by decide +kernel), List.mem_of_getElem? (i := 1816) (by decide +kernel), List.mem_of_getElem? (i := 1817) (by decide +kernel)⟩
theorem lw_p122 : lw_okq (⟨"RoundTripsModel", "isBetter", "(I)Z"⟩, 37) := ⟨⟨by decide +kernel, by decide +kernel⟩, List.mem_of_getElem? (i := 1204) (by decide +kernel), List.mem_of_getElem? (i := 1820) (by decide +kernel), List.mem_of_getElem? (i := 1821) (by decide +kernel)⟩
theorem lw_p123 : lw_okq (⟨"RoundTripsModel", "partOf", "(III)I"⟩, 37) := ⟨⟨by decide +kernel, by decide +kernel⟩, List.mem_of_getElem? (i := 1204) (by decide +kernel), List.mem_of_getElem? (i := 1844) (by decide +kernel), List.mem_of_getElem? (i := 1845) (by decide +kernel)⟩
theorem lw_p124 : lw_okq (⟨"RoundTripsModel", "comesTo", "(III)I"⟩, 37) := ⟨⟨by decide +kernel, by decide +kernel⟩, List.mem_of_getElem? (i := 1204) (by decide +kernel), List.mem_of_getElem? (i := 1848) (by decide +kernel), List.mem_of_getElem? (i := 1849) (by decide +kernel)⟩
theorem lw_p125 : lw_okq (⟨"RoundTripsModel", "isHit", "(I)Z"⟩, 37) := ⟨⟨by decide +kernel, by decide +kernel⟩, List.mem_of_getElem? (i := 1204) (by decide +kernel), List.mem_of_getElem? (i := 1866) (by decide +kernel), List.mem_of_getElem? (i := 1867) (by decide +kernel)⟩
theorem lw_p126 : lw_okq (⟨"RoundTripsModel", "leftBy", "(I)I"⟩, 37) := ⟨⟨by decide +kernel, by decide +kernel⟩, List.mem_of_getElem? (i := 1204) (by decide +kernel), List.mem_of_getElem? (i := 1874) (by decide +kernel), List.mem_of_getElem? (i := 1875) (by decide +kernel)⟩
theorem lw_p127 : lw_okq (⟨"RoundTripsModel", "isFunnel", "(IIZ)Z"⟩, 37) := ⟨⟨by decide +kernel, by decide +kernel⟩, List.mem_of_getElem? (i := 1204) (by decide +kernel), List.mem_of_getElem? (i := 1882) (by decide +kernel), List.mem_of_getElem? (i := 1883) (by decide +kernel)⟩
def lw_privs_8 : List (MethodName × Nat) := [(⟨"RoundTripsModel", "isApart", "(I)Z"⟩, 37), (⟨"RoundTripsModel", "isAbove", "(III)Z"⟩, 37), (⟨"RoundTripsModel", "clusterOf", "(I)I"⟩, 37), (⟨"RoundTripsModel", "stand", "(I)I"⟩, 37), (⟨"RoundTripsModel", "isStanding", "(II)Z"⟩, 37), (⟨"RoundTripsModel", "unlikeOf", "(IZ)I"⟩, 37), (⟨"RoundTripsModel", "heatOf", "(I)F"⟩, 37), (⟨"RoundTripsModel", "wrongWay", "(III)I"⟩, 37), (⟨"RoundTripsModel", "seeksAll", "(III)V"⟩, 37), (⟨"RoundTripsModel", "seeks", "(III)V"⟩, 37), (⟨"RoundTripsModel", "isBetter", "(I)Z"⟩, 37), (⟨"RoundTripsModel", "partOf", "(III)I"⟩, 37), (⟨"RoundTripsModel", "comesTo", "(III)I"⟩, 37), (⟨"RoundTripsModel", "isHit", "(I)Z"⟩, 37), (⟨"RoundTripsModel", "leftBy", "(I)I"⟩, 37), (⟨"RoundTripsModel", "isFunnel", "(IIZ)Z"⟩, 37)]
theorem lw_r8 : ∀ q ∈ lw_privs_8, lw_okq q := List.forall_mem_cons.mpr ⟨lw_p112, List.forall_mem_cons.mpr ⟨lw_p113, List.forall_mem_cons.mpr ⟨lw_p114, List.forall_mem_cons.mpr ⟨lw_p115, List.forall_mem_cons.mpr ⟨lw_p116, List.forall_mem_cons.mpr ⟨lw_p117, List.forall_mem_cons.mpr ⟨lw_p118, List.forall_mem_cons.mpr ⟨lw_p119, List.forall_mem_cons.mpr ⟨lw_p120, List.forall_mem_cons.mpr ⟨lw_p121, List.forall_mem_cons.mpr ⟨lw_p122, List.forall_mem_cons.mpr ⟨lw_p123, List.forall_mem_cons.mpr ⟨lw_p124, List.forall_mem_cons.mpr ⟨lw_p125, List.forall_mem_cons.mpr ⟨lw_p126, List.forall_mem_cons.mpr ⟨lw_p127, fun _ h => absurd h List.not_mem_nil⟩⟩⟩⟩⟩⟩⟩⟩⟩⟩⟩⟩⟩⟩⟩⟩
def lw_privs : List (MethodName × Nat) := lw_privs_1 ++ (lw_privs_2 ++ (lw_privs_3 ++ (lw_privs_4 ++ (lw_privs_5 ++ (lw_privs_6 ++ (lw_privs_7 ++ (lw_privs_8)))))))
def lw_tbl : List Cond := k2_sels lw_privs ++ tables_1
theorem lw_privs_ok : ∀ q ∈ lw_privs, lw_okq q := by
  show ∀ q ∈ lw_privs_1 ++ (lw_privs_2 ++ (lw_privs_3 ++ (lw_privs_4 ++ (lw_privs_5 ++ (lw_privs_6 ++ (lw_privs_7 ++ (lw_privs_8))))))), lw_okq q
  exact List.forall_mem_append.mpr ⟨lw_r1, List.forall_mem_append.mpr ⟨lw_r2, List.forall_mem_append.mpr ⟨lw_r3, List.forall_mem_append.mpr ⟨lw_r4, List.forall_mem_append.mpr ⟨lw_r5, List.forall_mem_append.mpr ⟨lw_r6, List.forall_mem_append.mpr ⟨lw_r7, lw_r8⟩⟩⟩⟩⟩⟩⟩
/-- the streams that the claim lets the run draw from -/
abbrev lw_cs : List Choice := [Jvm.Choice.named "NaN.bits"]
theorem lw_bits : nanBits ∈ lw_cs := by first | decide | exact List.mem_cons_self | simp [lw_cs, nanBits]
theorem goodIn_r {big : List Cond} (ws : List Cond) (ps : List Nat) (hp : ws = ps.filterMap (fun i => big[i]?)) (h : ws.all goodWord = true) : GoodIn big ws := by
  intro w hw
  have h1 := List.all_eq_true.mp h w hw
  rw [hp] at hw
  obtain ⟨i, -, hi⟩ := List.mem_filterMap.mp hw
  have hm : w ∈ big := by first | exact List.mem_of_getElem? hi | exact List.getElem?_mem hi
  exact ⟨hm, good_of_word h1⟩
def RX0 : String := "RoundTrips$Alarms"
def TX0 : u_T := fun k => match k with
  | 0 => ("RoundTrips$Alarms", "count", "I", false)
  | 1 => ("RoundTrips$Alarms", "heads", "[I", true)
  | 2 => ("RoundTrips$Alarms", "after", "[I", false)
  | 3 => ("RoundTrips$Alarms", "code", "[I", false)
  | 4 => ("RoundTrips$Alarms", "members", "[I", false)
  | 5 => ("RoundTrips$Alarms", "rounds", "[I", false)
  | 6 => ("RoundTrips$Alarms", "witness", "[I", false)
  | 7 => ("RoundTrips$Alarms", "span", "[I", false)
  | 8 => ("RoundTrips$Alarms", "flow", "[I", false)
  | 9 => ("RoundTrips$Alarms", "called", "[I", false)
  | _ => ("RoundTrips$Alarms", "call", "I", false)
def tyX0 : Nat → FieldType := fun k => match k with
  | 0 => .int
  | 1 => .array .int
  | 2 => .array .int
  | 3 => .array .int
  | 4 => .array .int
  | 5 => .array .int
  | 6 => .array .int
  | 7 => .array .int
  | 8 => .array .int
  | 9 => .array .int
  | _ => .int
abbrev wsX00 : List Cond := u_ws RX0 TX0 11
theorem nmX0 : ∀ a, a < 11 → ∀ b, b < 11 → a ≠ b → (TX0 a).2.1 ≠ (TX0 b).2.1 := by decide +kernel
theorem tyX0_ok : ∀ k, k < 11 → parseFieldDescriptor (TX0 k).2.2.1 = some (tyX0 k) := by decide +kernel
abbrev cX0_init : ByteArray := prog_2_method_1_code
def yX0_init : MethodName := ⟨RX0, "<init>", "()V"⟩
abbrev cX0_wipe : ByteArray := prog_2_method_2_code
def yX0_wipe : MethodName := ⟨RX0, "wipe", "()V"⟩
abbrev cX0_has : ByteArray := prog_2_method_3_code
def yX0_has : MethodName := ⟨RX0, "has", "(I)Z"⟩
abbrev cX0_note : ByteArray := prog_2_method_4_code
def yX0_note : MethodName := ⟨RX0, "note", "(IIII)I"⟩
abbrev cX0_headOf : ByteArray := prog_2_method_5_code
def yX0_headOf : MethodName := ⟨RX0, "headOf", "(I)I"⟩
abbrev cX0_find : ByteArray := prog_2_method_6_code
def yX0_find : MethodName := ⟨RX0, "find", "(I)I"⟩
abbrev cX0_begin : ByteArray := prog_2_method_7_code
def yX0_begin : MethodName := ⟨RX0, "begin", "(I)I"⟩
abbrev cX0_widen : ByteArray := prog_2_method_8_code
def yX0_widen : MethodName := ⟨RX0, "widen", "()Z"⟩
abbrev cX0_membersOf : ByteArray := prog_2_method_9_code
def yX0_membersOf : MethodName := ⟨RX0, "membersOf", "(I)I"⟩
abbrev cX0_beginCall : ByteArray := prog_2_method_10_code
def yX0_beginCall : MethodName := ⟨RX0, "beginCall", "()V"⟩
abbrev cX0_callOnce : ByteArray := prog_2_method_11_code
def yX0_callOnce : MethodName := ⟨RX0, "callOnce", "(I)Z"⟩
abbrev cX0_accountOf : ByteArray := prog_2_method_12_code
def yX0_accountOf : MethodName := ⟨RX0, "accountOf", "(II)I"⟩
abbrev cX0_sizeOf : ByteArray := prog_2_method_13_code
def yX0_sizeOf : MethodName := ⟨RX0, "sizeOf", "(I)I"⟩
abbrev cX0_allOfTwo : ByteArray := prog_2_method_14_code
def yX0_allOfTwo : MethodName := ⟨RX0, "allOfTwo", "()Z"⟩
abbrev cX0_countWith : ByteArray := prog_2_method_15_code
def yX0_countWith : MethodName := ⟨RX0, "countWith", "(I)I"⟩
abbrev cX0_roundsWith : ByteArray := prog_2_method_16_code
def yX0_roundsWith : MethodName := ⟨RX0, "roundsWith", "(I)I"⟩
abbrev cX0_roundsWithout : ByteArray := prog_2_method_17_code
def yX0_roundsWithout : MethodName := ⟨RX0, "roundsWithout", "(I)I"⟩
abbrev cX0_clusterSet : ByteArray := prog_2_method_18_code
def yX0_clusterSet : MethodName := ⟨RX0, "clusterSet", "(I)I"⟩
abbrev cX0_clusterOf : ByteArray := prog_2_method_19_code
def yX0_clusterOf : MethodName := ⟨RX0, "clusterOf", "(I)I"⟩
abbrev cX0_clusters : ByteArray := prog_2_method_20_code
def yX0_clusters : MethodName := ⟨RX0, "clusters", "()I"⟩
abbrev cX0_allMeet : ByteArray := prog_2_method_21_code
def yX0_allMeet : MethodName := ⟨RX0, "allMeet", "(I)Z"⟩
abbrev cX0_fewestInAll : ByteArray := prog_2_method_22_code
def yX0_fewestInAll : MethodName := ⟨RX0, "fewestInAll", "(I)I"⟩
def RX1 : String := "RoundTrips$Book"
def TX1 : u_T := fun k => match k with
  | 0 => ("RoundTrips$Book", "accounts", "I", false)
  | 1 => ("RoundTrips$Book", "trusted", "I", false)
  | 2 => ("RoundTrips$Book", "transfers", "I", false)
  | 3 => ("RoundTrips$Book", "from", "[I", true)
  | 4 => ("RoundTrips$Book", "to", "[I", true)
  | 5 => ("RoundTrips$Book", "time", "[I", true)
  | 6 => ("RoundTrips$Book", "amount", "[I", true)
  | _ => ("RoundTrips$Book", "bounds", "[I", true)
def tyX1 : Nat → FieldType := fun k => match k with
  | 0 => .int
  | 1 => .int
  | 2 => .int
  | 3 => .array .int
  | 4 => .array .int
  | 5 => .array .int
  | 6 => .array .int
  | _ => .array .int
abbrev wsX10 : List Cond := u_ws RX1 TX1 8
theorem nmX1 : ∀ a, a < 8 → ∀ b, b < 8 → a ≠ b → (TX1 a).2.1 ≠ (TX1 b).2.1 := by decide +kernel
theorem tyX1_ok : ∀ k, k < 8 → parseFieldDescriptor (TX1 k).2.2.1 = some (tyX1 k) := by decide +kernel
abbrev cX1_init : ByteArray := prog_3_method_1_code
def yX1_init : MethodName := ⟨RX1, "<init>", "()V"⟩
abbrev cX1_wipe : ByteArray := prog_3_method_2_code
def yX1_wipe : MethodName := ⟨RX1, "wipe", "()V"⟩
abbrev cX1_copy : ByteArray := prog_3_method_3_code
def yX1_copy : MethodName := ⟨RX1, "copy", "(LRoundTrips$Book;)V"⟩
abbrev cX1_boundCanBe : ByteArray := prog_3_method_4_code
def yX1_boundCanBe : MethodName := ⟨RX1, "boundCanBe", "(II)Z"⟩
abbrev cX1_hasAccount : ByteArray := prog_3_method_5_code
def yX1_hasAccount : MethodName := ⟨RX1, "hasAccount", "(I)Z"⟩
abbrev cX1_hasTransfer : ByteArray := prog_3_method_6_code
def yX1_hasTransfer : MethodName := ⟨RX1, "hasTransfer", "(I)Z"⟩
abbrev cX1_isTrusted : ByteArray := prog_3_method_7_code
def yX1_isTrusted : MethodName := ⟨RX1, "isTrusted", "(I)Z"⟩
abbrev cX1_insert : ByteArray := prog_3_method_8_code
def yX1_insert : MethodName := ⟨RX1, "insert", "(IIII)I"⟩
abbrev cX1_removeAt : ByteArray := prog_3_method_9_code
def yX1_removeAt : MethodName := ⟨RX1, "removeAt", "(I)V"⟩
abbrev cX1_merge : ByteArray := prog_3_method_10_code
def yX1_merge : MethodName := ⟨RX1, "merge", "(II)I"⟩
abbrev cX1_mergedName : ByteArray := prog_3_method_11_code
def yX1_mergedName : MethodName := ⟨RX1, "mergedName", "(III)I"⟩
abbrev cX1_moveTransfer : ByteArray := prog_3_method_12_code
def yX1_moveTransfer : MethodName := ⟨RX1, "moveTransfer", "(II)V"⟩
abbrev cX1_fits : ByteArray := prog_3_method_13_code
def yX1_fits : MethodName := ⟨RX1, "fits", "(II)Z"⟩
abbrev cX1_stepsFrom : ByteArray := prog_3_method_14_code
def yX1_stepsFrom : MethodName := ⟨RX1, "stepsFrom", "(I)I"⟩
abbrev cX1_allAmounts : ByteArray := prog_3_method_15_code
def yX1_allAmounts : MethodName := ⟨RX1, "allAmounts", "()I"⟩
abbrev cX1_isAt : ByteArray := prog_3_method_16_code
def yX1_isAt : MethodName := ⟨RX1, "isAt", "(IIZ)Z"⟩
abbrev cX1_countAt : ByteArray := prog_3_method_17_code
def yX1_countAt : MethodName := ⟨RX1, "countAt", "(IZ)I"⟩
abbrev cX1_amountAt : ByteArray := prog_3_method_18_code
def yX1_amountAt : MethodName := ⟨RX1, "amountAt", "(IZ)I"⟩
abbrev cX1_lowestHeld : ByteArray := prog_3_method_19_code
def yX1_lowestHeld : MethodName := ⟨RX1, "lowestHeld", "(I)I"⟩
abbrev cX1_countUntil : ByteArray := prog_3_method_20_code
def yX1_countUntil : MethodName := ⟨RX1, "countUntil", "(I)I"⟩
abbrev cX1_joinsFunnel : ByteArray := prog_3_method_21_code
def yX1_joinsFunnel : MethodName := ⟨RX1, "joinsFunnel", "(IIIZ)Z"⟩
abbrev cX1_funnelCount : ByteArray := prog_3_method_22_code
def yX1_funnelCount : MethodName := ⟨RX1, "funnelCount", "(IIZ)I"⟩
abbrev cX1_funnelAmount : ByteArray := prog_3_method_23_code
def yX1_funnelAmount : MethodName := ⟨RX1, "funnelAmount", "(IIZ)I"⟩
abbrev cX1_isFunnel : ByteArray := prog_3_method_24_code
def yX1_isFunnel : MethodName := ⟨RX1, "isFunnel", "(IIZ)Z"⟩
def RX2 : String := "RoundTrips$Closers"
def TX2 : u_T := fun k => match k with
  | 0 => ("RoundTrips$Hunt", "book", "LRoundTrips$Book;", true)
  | 1 => ("RoundTrips$Hunt", "path", "[I", true)
  | 2 => ("RoundTrips$Hunt", "window", "I", false)
  | 3 => ("RoundTrips$Hunt", "next", "[I", true)
  | 4 => ("RoundTrips$Closers", "closing", "I", false)
  | _ => ("RoundTrips$Closers", "found", "I", false)
def tyX2 : Nat → FieldType := fun k => match k with
  | 0 => .object "RoundTrips$Book"
  | 1 => .array .int
  | 2 => .int
  | 3 => .array .int
  | 4 => .int
  | _ => .int
abbrev wsX20 : List Cond := u_ws RX2 TX2 6
theorem nmX2 : ∀ a, a < 6 → ∀ b, b < 6 → a ≠ b → (TX2 a).2.1 ≠ (TX2 b).2.1 := by decide +kernel
theorem tyX2_ok : ∀ k, k < 6 → parseFieldDescriptor (TX2 k).2.2.1 = some (tyX2 k) := by decide +kernel
abbrev cX2_init : ByteArray := prog_4_method_1_code
def yX2_init : MethodName := ⟨RX2, "<init>", "()V"⟩
abbrev cX2_countFor : ByteArray := prog_4_method_2_code
def yX2_countFor : MethodName := ⟨RX2, "countFor", "(LRoundTrips$Book;IIII)I"⟩
abbrev cX2_meet : ByteArray := prog_4_method_3_code
def yX2_meet : MethodName := ⟨RX2, "meet", "(I)V"⟩
def RX3 : String := "RoundTrips$History"
def TX3 : u_T := fun k => match k with
  | 0 => ("RoundTrips$History", "past", "[LRoundTrips$Book;", true)
  | 1 => ("RoundTrips$History", "marked", "[LRoundTrips$Book;", true)
  | 2 => ("RoundTrips$History", "newest", "I", false)
  | 3 => ("RoundTrips$History", "acts", "I", false)
  | _ => ("RoundTrips$History", "marks", "I", false)
def tyX3 : Nat → FieldType := fun k => match k with
  | 0 => .array (.object "RoundTrips$Book")
  | 1 => .array (.object "RoundTrips$Book")
  | 2 => .int
  | 3 => .int
  | _ => .int
abbrev wsX30 : List Cond := u_ws RX3 TX3 5
theorem nmX3 : ∀ a, a < 5 → ∀ b, b < 5 → a ≠ b → (TX3 a).2.1 ≠ (TX3 b).2.1 := by decide +kernel
theorem tyX3_ok : ∀ k, k < 5 → parseFieldDescriptor (TX3 k).2.2.1 = some (tyX3 k) := by decide +kernel
abbrev cX3_init : ByteArray := prog_5_method_1_code
def yX3_init : MethodName := ⟨RX3, "<init>", "()V"⟩
abbrev cX3_keepAct : ByteArray := prog_5_method_2_code
def yX3_keepAct : MethodName := ⟨RX3, "keepAct", "(LRoundTrips$Book;)V"⟩
abbrev cX3_undoLatest : ByteArray := prog_5_method_3_code
def yX3_undoLatest : MethodName := ⟨RX3, "undoLatest", "(LRoundTrips$Book;)V"⟩
abbrev cX3_keepMark : ByteArray := prog_5_method_4_code
def yX3_keepMark : MethodName := ⟨RX3, "keepMark", "(LRoundTrips$Book;)V"⟩
abbrev cX3_takeMark : ByteArray := prog_5_method_5_code
def yX3_takeMark : MethodName := ⟨RX3, "takeMark", "(LRoundTrips$Book;)V"⟩
def RX4 : String := "RoundTrips$Hunt"
def TX4 : u_T := fun k => match k with
  | _ => ("", "", "", false)
def tyX4 : Nat → FieldType := fun k => match k with
  | _ => .int
abbrev wsX40 : List Cond := u_ws RX4 TX4 0
theorem nmX4 : ∀ a, a < 0 → ∀ b, b < 0 → a ≠ b → (TX4 a).2.1 ≠ (TX4 b).2.1 := by decide +kernel
theorem tyX4_ok : ∀ k, k < 0 → parseFieldDescriptor (TX4 k).2.2.1 = some (tyX4 k) := by decide +kernel
abbrev cX4_init : ByteArray := prog_6_method_1_code
def yX4_init : MethodName := ⟨RX4, "<init>", "()V"⟩
abbrev cX4_hunt : ByteArray := prog_6_method_3_code
def yX4_hunt : MethodName := ⟨RX4, "hunt", "()V"⟩
abbrev cX4_extend : ByteArray := prog_6_method_4_code
def yX4_extend : MethodName := ⟨RX4, "extend", "(LRoundTrips$Hunt;II)V"⟩
def RX5 : String := "RoundTrips$Narrowest"
def TX5 : u_T := fun k => match k with
  | 0 => ("RoundTrips$Hunt", "book", "LRoundTrips$Book;", true)
  | 1 => ("RoundTrips$Hunt", "path", "[I", true)
  | 2 => ("RoundTrips$Hunt", "window", "I", false)
  | 3 => ("RoundTrips$Hunt", "next", "[I", true)
  | _ => ("RoundTrips$Narrowest", "least", "I", false)
def tyX5 : Nat → FieldType := fun k => match k with
  | 0 => .object "RoundTrips$Book"
  | 1 => .array .int
  | 2 => .int
  | 3 => .array .int
  | _ => .int
abbrev wsX50 : List Cond := u_ws RX5 TX5 5
theorem nmX5 : ∀ a, a < 5 → ∀ b, b < 5 → a ≠ b → (TX5 a).2.1 ≠ (TX5 b).2.1 := by decide +kernel
theorem tyX5_ok : ∀ k, k < 5 → parseFieldDescriptor (TX5 k).2.2.1 = some (tyX5 k) := by decide +kernel
abbrev cX5_init : ByteArray := prog_7_method_1_code
def yX5_init : MethodName := ⟨RX5, "<init>", "()V"⟩
abbrev cX5_leastBy : ByteArray := prog_7_method_2_code
def yX5_leastBy : MethodName := ⟨RX5, "leastBy", "(LRoundTrips$Book;II)I"⟩
abbrev cX5_meet : ByteArray := prog_7_method_3_code
def yX5_meet : MethodName := ⟨RX5, "meet", "(I)V"⟩
def RX6 : String := "RoundTrips$Parts"
def TX6 : u_T := fun k => match k with
  | 0 => ("RoundTrips$Parts", "reached", "[I", true)
  | _ => ("RoundTrips$Parts", "accounts", "I", false)
def tyX6 : Nat → FieldType := fun k => match k with
  | 0 => .array .int
  | _ => .int
abbrev wsX60 : List Cond := u_ws RX6 TX6 2
theorem nmX6 : ∀ a, a < 2 → ∀ b, b < 2 → a ≠ b → (TX6 a).2.1 ≠ (TX6 b).2.1 := by decide +kernel
theorem tyX6_ok : ∀ k, k < 2 → parseFieldDescriptor (TX6 k).2.2.1 = some (tyX6 k) := by decide +kernel
abbrev cX6_init : ByteArray := prog_8_method_1_code
def yX6_init : MethodName := ⟨RX6, "<init>", "()V"⟩
abbrev cX6_lay : ByteArray := prog_8_method_2_code
def yX6_lay : MethodName := ⟨RX6, "lay", "(LRoundTrips$Book;II)V"⟩
abbrev cX6_together : ByteArray := prog_8_method_3_code
def yX6_together : MethodName := ⟨RX6, "together", "(II)Z"⟩
abbrev cX6_leastOf : ByteArray := prog_8_method_4_code
def yX6_leastOf : MethodName := ⟨RX6, "leastOf", "(I)I"⟩
abbrev cX6_sizeOf : ByteArray := prog_8_method_5_code
def yX6_sizeOf : MethodName := ⟨RX6, "sizeOf", "(I)I"⟩
abbrev cX6_countFrom : ByteArray := prog_8_method_6_code
def yX6_countFrom : MethodName := ⟨RX6, "countFrom", "(I)I"⟩
abbrev cX6_greatest : ByteArray := prog_8_method_7_code
def yX6_greatest : MethodName := ⟨RX6, "greatest", "()I"⟩
def RX7 : String := "RoundTrips$Reader"
def TX7 : u_T := fun k => match k with
  | 0 => ("RoundTrips$Reader", "book", "LRoundTrips$Book;", true)
  | 1 => ("RoundTrips$Reader", "fed", "I", false)
  | 2 => ("RoundTrips$Reader", "fault", "I", false)
  | 3 => ("RoundTrips$Reader", "place", "I", false)
  | 4 => ("RoundTrips$Reader", "text", "[B", true)
  | 5 => ("RoundTrips$Reader", "names", "[J", true)
  | 6 => ("RoundTrips$Reader", "length", "I", false)
  | 7 => ("RoundTrips$Reader", "told", "I", false)
  | 8 => ("RoundTrips$Reader", "kind", "I", false)
  | 9 => ("RoundTrips$Reader", "start", "I", false)
  | 10 => ("RoundTrips$Reader", "end", "I", false)
  | 11 => ("RoundTrips$Reader", "keyword", "I", false)
  | _ => ("RoundTrips$Reader", "letters", "J", false)
def tyX7 : Nat → FieldType := fun k => match k with
  | 0 => .object "RoundTrips$Book"
  | 1 => .int
  | 2 => .int
  | 3 => .int
  | 4 => .array .byte
  | 5 => .array .long
  | 6 => .int
  | 7 => .int
  | 8 => .int
  | 9 => .int
  | 10 => .int
  | 11 => .int
  | _ => .long
abbrev wsX70 : List Cond := u_ws RX7 TX7 13
theorem nmX7 : ∀ a, a < 13 → ∀ b, b < 13 → a ≠ b → (TX7 a).2.1 ≠ (TX7 b).2.1 := by decide +kernel
theorem tyX7_ok : ∀ k, k < 13 → parseFieldDescriptor (TX7 k).2.2.1 = some (tyX7 k) := by decide +kernel
abbrev cX7_init : ByteArray := prog_9_method_1_code
def yX7_init : MethodName := ⟨RX7, "<init>", "()V"⟩
abbrev cX7_append : ByteArray := prog_9_method_2_code
def yX7_append : MethodName := ⟨RX7, "append", "(I)V"⟩
abbrev cX7_read : ByteArray := prog_9_method_3_code
def yX7_read : MethodName := ⟨RX7, "read", "(I)V"⟩
abbrev cX7_readNames : ByteArray := prog_9_method_4_code
def yX7_readNames : MethodName := ⟨RX7, "readNames", "()V"⟩
abbrev cX7_readNewName : ByteArray := prog_9_method_5_code
def yX7_readNewName : MethodName := ⟨RX7, "readNewName", "()Z"⟩
abbrev cX7_readPay : ByteArray := prog_9_method_6_code
def yX7_readPay : MethodName := ⟨RX7, "readPay", "()V"⟩
abbrev cX7_readTrust : ByteArray := prog_9_method_7_code
def yX7_readTrust : MethodName := ⟨RX7, "readTrust", "()V"⟩
abbrev cX7_readBound : ByteArray := prog_9_method_8_code
def yX7_readBound : MethodName := ⟨RX7, "readBound", "(I)V"⟩
abbrev cX7_failed : ByteArray := prog_9_method_9_code
def yX7_failed : MethodName := ⟨RX7, "failed", "(I)Z"⟩
abbrev cX7_stands : ByteArray := prog_9_method_10_code
def yX7_stands : MethodName := ⟨RX7, "stands", "(I)Z"⟩
abbrev cX7_takeSign : ByteArray := prog_9_method_11_code
def yX7_takeSign : MethodName := ⟨RX7, "takeSign", "(C)Z"⟩
abbrev cX7_takeAt : ByteArray := prog_9_method_12_code
def yX7_takeAt : MethodName := ⟨RX7, "takeAt", "()Z"⟩
abbrev cX7_takeNumber : ByteArray := prog_9_method_13_code
def yX7_takeNumber : MethodName := ⟨RX7, "takeNumber", "(II)I"⟩
abbrev cX7_takeAccount : ByteArray := prog_9_method_14_code
def yX7_takeAccount : MethodName := ⟨RX7, "takeAccount", "(I)I"⟩
abbrev cX7_knownAccount : ByteArray := prog_9_method_15_code
def yX7_knownAccount : MethodName := ⟨RX7, "knownAccount", "()I"⟩
abbrev cX7_accountNamed : ByteArray := prog_9_method_16_code
def yX7_accountNamed : MethodName := ⟨RX7, "accountNamed", "()I"⟩
abbrev cX7_isName : ByteArray := prog_9_method_17_code
def yX7_isName : MethodName := ⟨RX7, "isName", "()Z"⟩
abbrev cX7_numberValue : ByteArray := prog_9_method_18_code
def yX7_numberValue : MethodName := ⟨RX7, "numberValue", "()I"⟩
abbrev cX7_advance : ByteArray := prog_9_method_19_code
def yX7_advance : MethodName := ⟨RX7, "advance", "()V"⟩
abbrev cX7_readWord : ByteArray := prog_9_method_20_code
def yX7_readWord : MethodName := ⟨RX7, "readWord", "()V"⟩
abbrev cX7_readNumber : ByteArray := prog_9_method_21_code
def yX7_readNumber : MethodName := ⟨RX7, "readNumber", "()V"⟩
abbrev cX7_keywordHere : ByteArray := prog_9_method_22_code
def yX7_keywordHere : MethodName := ⟨RX7, "keywordHere", "()I"⟩
abbrev cX7_byteAt : ByteArray := prog_9_method_23_code
def yX7_byteAt : MethodName := ⟨RX7, "byteAt", "(I)I"⟩
abbrev cX7_isLetter : ByteArray := prog_9_method_24_code
def yX7_isLetter : MethodName := ⟨RX7, "isLetter", "(I)Z"⟩
abbrev cX7_isDigit : ByteArray := prog_9_method_25_code
def yX7_isDigit : MethodName := ⟨RX7, "isDigit", "(I)Z"⟩
def RX8 : String := "RoundTrips$Rounds"
def TX8 : u_T := fun k => match k with
  | 0 => ("RoundTrips$Hunt", "book", "LRoundTrips$Book;", true)
  | 1 => ("RoundTrips$Hunt", "path", "[I", true)
  | 2 => ("RoundTrips$Hunt", "window", "I", false)
  | 3 => ("RoundTrips$Hunt", "next", "[I", true)
  | 4 => ("RoundTrips$Rounds", "count", "I", false)
  | 5 => ("RoundTrips$Rounds", "packed", "[I", false)
  | 6 => ("RoundTrips$Rounds", "alarmOf", "[I", false)
  | 7 => ("RoundTrips$Rounds", "uses", "[I", true)
  | 8 => ("RoundTrips$Rounds", "closes", "[I", true)
  | 9 => ("RoundTrips$Rounds", "touched", "[I", true)
  | 10 => ("RoundTrips$Rounds", "unspent", "[I", true)
  | 11 => ("RoundTrips$Rounds", "tally", "[I", true)
  | 12 => ("RoundTrips$Rounds", "netted", "I", false)
  | _ => ("RoundTrips$Rounds", "alarms", "LRoundTrips$Alarms;", true)
def tyX8 : Nat → FieldType := fun k => match k with
  | 0 => .object "RoundTrips$Book"
  | 1 => .array .int
  | 2 => .int
  | 3 => .array .int
  | 4 => .int
  | 5 => .array .int
  | 6 => .array .int
  | 7 => .array .int
  | 8 => .array .int
  | 9 => .array .int
  | 10 => .array .int
  | 11 => .array .int
  | 12 => .int
  | _ => .object "RoundTrips$Alarms"
abbrev wsX80 : List Cond := u_ws RX8 TX8 14
theorem nmX8 : ∀ a, a < 14 → ∀ b, b < 14 → a ≠ b → (TX8 a).2.1 ≠ (TX8 b).2.1 := by decide +kernel
theorem tyX8_ok : ∀ k, k < 14 → parseFieldDescriptor (TX8 k).2.2.1 = some (tyX8 k) := by decide +kernel
abbrev cX8_init : ByteArray := prog_10_method_1_code
def yX8_init : MethodName := ⟨RX8, "<init>", "()V"⟩
abbrev cX8_gather : ByteArray := prog_10_method_2_code
def yX8_gather : MethodName := ⟨RX8, "gather", "(LRoundTrips$Book;)V"⟩
abbrev cX8_meet : ByteArray := prog_10_method_3_code
def yX8_meet : MethodName := ⟨RX8, "meet", "(I)V"⟩
abbrev cX8_widen : ByteArray := prog_10_method_4_code
def yX8_widen : MethodName := ⟨RX8, "widen", "()Z"⟩
abbrev cX8_countIn : ByteArray := prog_10_method_5_code
def yX8_countIn : MethodName := ⟨RX8, "countIn", "(I)V"⟩
abbrev cX8_net : ByteArray := prog_10_method_6_code
def yX8_net : MethodName := ⟨RX8, "net", "(I)V"⟩
abbrev cX8_ringOf : ByteArray := prog_10_method_7_code
def yX8_ringOf : MethodName := ⟨RX8, "ringOf", "(I)I"⟩
abbrev cX8_hopOf : ByteArray := prog_10_method_8_code
def yX8_hopOf : MethodName := ⟨RX8, "hopOf", "(II)I"⟩
abbrev cX8_transferAt : ByteArray := prog_10_method_9_code
def yX8_transferAt : MethodName := ⟨RX8, "transferAt", "(II)I"⟩
abbrev cX8_lastOf : ByteArray := prog_10_method_10_code
def yX8_lastOf : MethodName := ⟨RX8, "lastOf", "(I)I"⟩
abbrev cX8_lengthOf : ByteArray := prog_10_method_11_code
def yX8_lengthOf : MethodName := ⟨RX8, "lengthOf", "(I)I"⟩
abbrev cX8_alarmAt : ByteArray := prog_10_method_12_code
def yX8_alarmAt : MethodName := ⟨RX8, "alarmAt", "(I)I"⟩
abbrev cX8_firstTime : ByteArray := prog_10_method_13_code
def yX8_firstTime : MethodName := ⟨RX8, "firstTime", "(I)I"⟩
abbrev cX8_lastTime : ByteArray := prog_10_method_14_code
def yX8_lastTime : MethodName := ⟨RX8, "lastTime", "(I)I"⟩
abbrev cX8_spanOf : ByteArray := prog_10_method_15_code
def yX8_spanOf : MethodName := ⟨RX8, "spanOf", "(I)I"⟩
abbrev cX8_flowOf : ByteArray := prog_10_method_16_code
def yX8_flowOf : MethodName := ⟨RX8, "flowOf", "(I)I"⟩
abbrev cX8_keptOf : ByteArray := prog_10_method_17_code
def yX8_keptOf : MethodName := ⟨RX8, "keptOf", "(I)F"⟩
abbrev cX8_paceOf : ByteArray := prog_10_method_18_code
def yX8_paceOf : MethodName := ⟨RX8, "paceOf", "(I)F"⟩
abbrev cX8_busiest : ByteArray := prog_10_method_19_code
def yX8_busiest : MethodName := ⟨RX8, "busiest", "()I"⟩
abbrev cX8_greatestFlow : ByteArray := prog_10_method_20_code
def yX8_greatestFlow : MethodName := ⟨RX8, "greatestFlow", "()I"⟩
abbrev cX8_greatestPace : ByteArray := prog_10_method_21_code
def yX8_greatestPace : MethodName := ⟨RX8, "greatestPace", "()I"⟩
abbrev cX8_leastKept : ByteArray := prog_10_method_22_code
def yX8_leastKept : MethodName := ⟨RX8, "leastKept", "()I"⟩
abbrev cX8_closedBy : ByteArray := prog_10_method_23_code
def yX8_closedBy : MethodName := ⟨RX8, "closedBy", "(II)I"⟩
abbrev cX8_closedBetween : ByteArray := prog_10_method_24_code
def yX8_closedBetween : MethodName := ⟨RX8, "closedBetween", "(II)I"⟩
abbrev cX8_alarmsBetween : ByteArray := prog_10_method_25_code
def yX8_alarmsBetween : MethodName := ⟨RX8, "alarmsBetween", "(II)I"⟩
abbrev cX8_peakTime : ByteArray := prog_10_method_26_code
def yX8_peakTime : MethodName := ⟨RX8, "peakTime", "()I"⟩
abbrev cX8_tallyAlarm : ByteArray := prog_10_method_27_code
def yX8_tallyAlarm : MethodName := ⟨RX8, "tallyAlarm", "(I)V"⟩
abbrev cX8_apartIn : ByteArray := prog_10_method_28_code
def yX8_apartIn : MethodName := ⟨RX8, "apartIn", "(I)I"⟩
abbrev cX8_isApart : ByteArray := prog_10_method_29_code
def yX8_isApart : MethodName := ⟨RX8, "isApart", "(I)Z"⟩
abbrev cX8_hingeOf : ByteArray := prog_10_method_30_code
def yX8_hingeOf : MethodName := ⟨RX8, "hingeOf", "(I)I"⟩
def RX9 : String := "RoundTrips$Ways"
def TX9 : u_T := fun k => match k with
  | 0 => ("RoundTrips$Ways", "seen", "[I", true)
  | 1 => ("RoundTrips$Ways", "next", "[I", true)
  | 2 => ("RoundTrips$Ways", "path", "[I", true)
  | 3 => ("RoundTrips$Ways", "best", "[I", true)
  | 4 => ("RoundTrips$Ways", "book", "LRoundTrips$Book;", true)
  | 5 => ("RoundTrips$Ways", "target", "I", false)
  | 6 => ("RoundTrips$Ways", "lastTime", "I", false)
  | 7 => ("RoundTrips$Ways", "count", "I", false)
  | 8 => ("RoundTrips$Ways", "most", "I", false)
  | 9 => ("RoundTrips$Ways", "reached", "I", false)
  | _ => ("RoundTrips$Ways", "longest", "I", false)
def tyX9 : Nat → FieldType := fun k => match k with
  | 0 => .array .int
  | 1 => .array .int
  | 2 => .array .int
  | 3 => .array .int
  | 4 => .object "RoundTrips$Book"
  | 5 => .int
  | 6 => .int
  | 7 => .int
  | 8 => .int
  | 9 => .int
  | _ => .int
abbrev wsX90 : List Cond := u_ws RX9 TX9 11
theorem nmX9 : ∀ a, a < 11 → ∀ b, b < 11 → a ≠ b → (TX9 a).2.1 ≠ (TX9 b).2.1 := by decide +kernel
theorem tyX9_ok : ∀ k, k < 11 → parseFieldDescriptor (TX9 k).2.2.1 = some (tyX9 k) := by decide +kernel
abbrev cX9_init : ByteArray := prog_11_method_1_code
def yX9_init : MethodName := ⟨RX9, "<init>", "()V"⟩
abbrev cX9_walk : ByteArray := prog_11_method_2_code
def yX9_walk : MethodName := ⟨RX9, "walk", "(LRoundTrips$Book;III)V"⟩
abbrev cX9_go : ByteArray := prog_11_method_3_code
def yX9_go : MethodName := ⟨RX9, "go", "(LRoundTrips$Ways;III)V"⟩
abbrev cX9_arrive : ByteArray := prog_11_method_4_code
def yX9_arrive : MethodName := ⟨RX9, "arrive", "(II)V"⟩
abbrev cX9_transferAt : ByteArray := prog_11_method_5_code
def yX9_transferAt : MethodName := ⟨RX9, "transferAt", "(I)I"⟩
def RX10 : String := "RoundTrips"
def TX10 : u_T := fun k => match k with
  | 0 => ("RoundTrips", "book", "LRoundTrips$Book;", true)
  | 1 => ("RoundTrips", "reader", "LRoundTrips$Reader;", true)
  | 2 => ("RoundTrips", "history", "LRoundTrips$History;", true)
  | 3 => ("RoundTrips", "rounds", "LRoundTrips$Rounds;", true)
  | 4 => ("RoundTrips", "closers", "LRoundTrips$Closers;", true)
  | 5 => ("RoundTrips", "narrowest", "LRoundTrips$Narrowest;", true)
  | 6 => ("RoundTrips", "ways", "LRoundTrips$Ways;", true)
  | 7 => ("RoundTrips", "parts", "LRoundTrips$Parts;", true)
  | 8 => ("RoundTrips", "status", "I", false)
  | _ => ("RoundTrips", "stale", "Z", false)
def tyX10 : Nat → FieldType := fun k => match k with
  | 0 => .object "RoundTrips$Book"
  | 1 => .object "RoundTrips$Reader"
  | 2 => .object "RoundTrips$History"
  | 3 => .object "RoundTrips$Rounds"
  | 4 => .object "RoundTrips$Closers"
  | 5 => .object "RoundTrips$Narrowest"
  | 6 => .object "RoundTrips$Ways"
  | 7 => .object "RoundTrips$Parts"
  | 8 => .int
  | _ => .boolean
abbrev wsX100 : List Cond := u_ws RX10 TX10 10
theorem nmX10 : ∀ a, a < 10 → ∀ b, b < 10 → a ≠ b → (TX10 a).2.1 ≠ (TX10 b).2.1 := by decide +kernel
theorem tyX10_ok : ∀ k, k < 10 → parseFieldDescriptor (TX10 k).2.2.1 = some (tyX10 k) := by decide +kernel
abbrev cX10_init : ByteArray := prog_1_method_1_code
def yX10_init : MethodName := ⟨RX10, "<init>", "()V"⟩
abbrev cX10_status : ByteArray := prog_1_method_2_code
def yX10_status : MethodName := ⟨RX10, "status", "()I"⟩
abbrev cX10_feed : ByteArray := prog_1_method_3_code
def yX10_feed : MethodName := ⟨RX10, "feed", "(IIIII)I"⟩
abbrev cX10_load : ByteArray := prog_1_method_4_code
def yX10_load : MethodName := ⟨RX10, "load", "(I)I"⟩
abbrev cX10_fault : ByteArray := prog_1_method_5_code
def yX10_fault : MethodName := ⟨RX10, "fault", "(I)I"⟩
abbrev cX10_many : ByteArray := prog_1_method_6_code
def yX10_many : MethodName := ⟨RX10, "many", "(I)I"⟩
abbrev cX10_bounds : ByteArray := prog_1_method_7_code
def yX10_bounds : MethodName := ⟨RX10, "bounds", "(I)I"⟩
abbrev cX10_transfer : ByteArray := prog_1_method_8_code
def yX10_transfer : MethodName := ⟨RX10, "transfer", "(II)I"⟩
abbrev cX10_account : ByteArray := prog_1_method_9_code
def yX10_account : MethodName := ⟨RX10, "account", "(II)I"⟩
abbrev cX10_add : ByteArray := prog_1_method_10_code
def yX10_add : MethodName := ⟨RX10, "add", "()I"⟩
abbrev cX10_pay : ByteArray := prog_1_method_11_code
def yX10_pay : MethodName := ⟨RX10, "pay", "(IIII)I"⟩
abbrev cX10_strike : ByteArray := prog_1_method_12_code
def yX10_strike : MethodName := ⟨RX10, "strike", "(I)I"⟩
abbrev cX10_trust : ByteArray := prog_1_method_13_code
def yX10_trust : MethodName := ⟨RX10, "trust", "(IZ)Z"⟩
abbrev cX10_bound : ByteArray := prog_1_method_14_code
def yX10_bound : MethodName := ⟨RX10, "bound", "(II)I"⟩
abbrev cX10_join : ByteArray := prog_1_method_15_code
def yX10_join : MethodName := ⟨RX10, "join", "(II)I"⟩
abbrev cX10_undo : ByteArray := prog_1_method_16_code
def yX10_undo : MethodName := ⟨RX10, "undo", "()I"⟩
abbrev cX10_mark : ByteArray := prog_1_method_17_code
def yX10_mark : MethodName := ⟨RX10, "mark", "()I"⟩
abbrev cX10_back : ByteArray := prog_1_method_18_code
def yX10_back : MethodName := ⟨RX10, "back", "()I"⟩
abbrev cX10_round : ByteArray := prog_1_method_19_code
def yX10_round : MethodName := ⟨RX10, "round", "(II)I"⟩
abbrev cX10_hop : ByteArray := prog_1_method_20_code
def yX10_hop : MethodName := ⟨RX10, "hop", "(II)I"⟩
abbrev cX10_alarm : ByteArray := prog_1_method_21_code
def yX10_alarm : MethodName := ⟨RX10, "alarm", "(II)I"⟩
abbrev cX10_ring : ByteArray := prog_1_method_22_code
def yX10_ring : MethodName := ⟨RX10, "ring", "(II)I"⟩
abbrev cX10_closed : ByteArray := prog_1_method_23_code
def yX10_closed : MethodName := ⟨RX10, "closed", "(II)I"⟩
abbrev cX10_would : ByteArray := prog_1_method_24_code
def yX10_would : MethodName := ⟨RX10, "would", "(IIII)I"⟩
abbrev cX10_top : ByteArray := prog_1_method_25_code
def yX10_top : MethodName := ⟨RX10, "top", "(I)I"⟩
abbrev cX10_left : ByteArray := prog_1_method_26_code
def yX10_left : MethodName := ⟨RX10, "left", "(I)I"⟩
abbrev cX10_cluster : ByteArray := prog_1_method_27_code
def yX10_cluster : MethodName := ⟨RX10, "cluster", "(I)I"⟩
abbrev cX10_hinge : ByteArray := prog_1_method_28_code
def yX10_hinge : MethodName := ⟨RX10, "hinge", "(I)I"⟩
abbrev cX10_standing : ByteArray := prog_1_method_29_code
def yX10_standing : MethodName := ⟨RX10, "standing", "(II)I"⟩
abbrev cX10_peak : ByteArray := prog_1_method_30_code
def yX10_peak : MethodName := ⟨RX10, "peak", "(I)I"⟩
abbrev cX10_ranked : ByteArray := prog_1_method_31_code
def yX10_ranked : MethodName := ⟨RX10, "ranked", "(I)I"⟩
abbrev cX10_soonest : ByteArray := prog_1_method_32_code
def yX10_soonest : MethodName := ⟨RX10, "soonest", "(IIII)I"⟩
abbrev cX10_step : ByteArray := prog_1_method_33_code
def yX10_step : MethodName := ⟨RX10, "step", "(IIII)I"⟩
abbrev cX10_most : ByteArray := prog_1_method_34_code
def yX10_most : MethodName := ⟨RX10, "most", "(III)I"⟩
abbrev cX10_reach : ByteArray := prog_1_method_35_code
def yX10_reach : MethodName := ⟨RX10, "reach", "(II)I"⟩
abbrev cX10_chain : ByteArray := prog_1_method_36_code
def yX10_chain : MethodName := ⟨RX10, "chain", "(II)I"⟩
abbrev cX10_part : ByteArray := prog_1_method_37_code
def yX10_part : MethodName := ⟨RX10, "part", "(III)I"⟩
abbrev cX10_parts : ByteArray := prog_1_method_38_code
def yX10_parts : MethodName := ⟨RX10, "parts", "(III)I"⟩
abbrev cX10_freeze : ByteArray := prog_1_method_39_code
def yX10_freeze : MethodName := ⟨RX10, "freeze", "()I"⟩
abbrev cX10_without : ByteArray := prog_1_method_40_code
def yX10_without : MethodName := ⟨RX10, "without", "(I)I"⟩
abbrev cX10_heat : ByteArray := prog_1_method_41_code
def yX10_heat : MethodName := ⟨RX10, "heat", "(I)I"⟩
abbrev cX10_funnel : ByteArray := prog_1_method_42_code
def yX10_funnel : MethodName := ⟨RX10, "funnel", "(III)I"⟩
abbrev cX10_funnels : ByteArray := prog_1_method_43_code
def yX10_funnels : MethodName := ⟨RX10, "funnels", "(IZ)I"⟩
abbrev cX10_until : ByteArray := prog_1_method_44_code
def yX10_until : MethodName := ⟨RX10, "until", "(II)I"⟩
abbrev cX10_need : ByteArray := prog_1_method_45_code
def yX10_need : MethodName := ⟨RX10, "need", "(I)I"⟩
abbrev cX10_answer : ByteArray := prog_1_method_46_code
def yX10_answer : MethodName := ⟨RX10, "answer", "(I)I"⟩
abbrev cX10_none : ByteArray := prog_1_method_47_code
def yX10_none : MethodName := ⟨RX10, "none", "(I)I"⟩
abbrev cX10_refuse : ByteArray := prog_1_method_48_code
def yX10_refuse : MethodName := ⟨RX10, "refuse", "(I)Z"⟩
abbrev cX10_known : ByteArray := prog_1_method_49_code
def yX10_known : MethodName := ⟨RX10, "known", "(I)I"⟩
abbrev cX10_outside : ByteArray := prog_1_method_50_code
def yX10_outside : MethodName := ⟨RX10, "outside", "(III)Z"⟩
abbrev cX10_notTime : ByteArray := prog_1_method_51_code
def yX10_notTime : MethodName := ⟨RX10, "notTime", "(I)Z"⟩
abbrev cX10_beginAct : ByteArray := prog_1_method_52_code
def yX10_beginAct : MethodName := ⟨RX10, "beginAct", "()V"⟩
abbrev cX10_freshRounds : ByteArray := prog_1_method_53_code
def yX10_freshRounds : MethodName := ⟨RX10, "freshRounds", "()LRoundTrips$Rounds;"⟩
abbrev cX10_whyNoTransfer : ByteArray := prog_1_method_54_code
def yX10_whyNoTransfer : MethodName := ⟨RX10, "whyNoTransfer", "(IIII)I"⟩
abbrev cX10_walk : ByteArray := prog_1_method_55_code
def yX10_walk : MethodName := ⟨RX10, "walk", "(III)I"⟩
abbrev cX10_walkAnywhere : ByteArray := prog_1_method_56_code
def yX10_walkAnywhere : MethodName := ⟨RX10, "walkAnywhere", "(II)I"⟩
abbrev cX10_heatOf : ByteArray := prog_1_method_57_code
def yX10_heatOf : MethodName := ⟨RX10, "heatOf", "(LRoundTrips$Rounds;I)F"⟩
abbrev cX10_placeByHeat : ByteArray := prog_1_method_58_code
def yX10_placeByHeat : MethodName := ⟨RX10, "placeByHeat", "(LRoundTrips$Rounds;I)I"⟩
abbrev cX10_leastRate : ByteArray := prog_1_method_59_code
def yX10_leastRate : MethodName := ⟨RX10, "leastRate", "(I)I"⟩
abbrev cX10_bitsOf : ByteArray := prog_1_method_60_code
def yX10_bitsOf : MethodName := ⟨RX10, "bitsOf", "(F)I"⟩
abbrev cX10_lowestBit : ByteArray := prog_1_method_61_code
def yX10_lowestBit : MethodName := ⟨RX10, "lowestBit", "(I)I"⟩
def RX11 : String := "RoundTripsModel"
def TX11 : u_T := fun k => match k with
  | 0 => ("RoundTripsModel", "all", "[I", true)
  | 1 => ("RoundTripsModel", "status", "I", false)
  | 2 => ("RoundTripsModel", "acts", "I", false)
  | 3 => ("RoundTripsModel", "marks", "I", false)
  | 4 => ("RoundTripsModel", "hops", "[I", true)
  | 5 => ("RoundTripsModel", "lengths", "[I", true)
  | 6 => ("RoundTripsModel", "whose", "[I", true)
  | 7 => ("RoundTripsModel", "alarmOf", "[I", true)
  | 8 => ("RoundTripsModel", "firstOf", "[I", true)
  | 9 => ("RoundTripsModel", "way", "[I", true)
  | 10 => ("RoundTripsModel", "rounds", "I", false)
  | 11 => ("RoundTripsModel", "alarms", "I", false)
  | 12 => ("RoundTripsModel", "isLaid", "Z", false)
  | 13 => ("RoundTripsModel", "tape", "[B", true)
  | 14 => ("RoundTripsModel", "text", "[B", true)
  | 15 => ("RoundTripsModel", "names", "[I", true)
  | 16 => ("RoundTripsModel", "taped", "I", false)
  | 17 => ("RoundTripsModel", "size", "I", false)
  | 18 => ("RoundTripsModel", "token", "I", false)
  | 19 => ("RoundTripsModel", "begin", "I", false)
  | 20 => ("RoundTripsModel", "end", "I", false)
  | 21 => ("RoundTripsModel", "value", "I", false)
  | 22 => ("RoundTripsModel", "faults", "I", false)
  | 23 => ("RoundTripsModel", "faultPlace", "I", false)
  | 24 => ("RoundTripsModel", "faultKind", "I", false)
  | 25 => ("RoundTripsModel", "told", "I", false)
  | 26 => ("RoundTripsModel", "taken", "I", false)
  | 27 => ("RoundTripsModel", "used", "[I", true)
  | 28 => ("RoundTripsModel", "lefts", "[I", true)
  | 29 => ("RoundTripsModel", "seen", "[Z", true)
  | 30 => ("RoundTripsModel", "bestWay", "[I", true)
  | 31 => ("RoundTripsModel", "bestMany", "I", false)
  | 32 => ("RoundTripsModel", "mostMuch", "I", false)
  | 33 => ("RoundTripsModel", "reached", "I", false)
  | 34 => ("RoundTripsModel", "longest", "I", false)
  | 35 => ("RoundTripsModel", "funnelMany", "I", false)
  | _ => ("RoundTripsModel", "funnelMuch", "I", false)
def tyX11 : Nat → FieldType := fun k => match k with
  | 0 => .array .int
  | 1 => .int
  | 2 => .int
  | 3 => .int
  | 4 => .array .int
  | 5 => .array .int
  | 6 => .array .int
  | 7 => .array .int
  | 8 => .array .int
  | 9 => .array .int
  | 10 => .int
  | 11 => .int
  | 12 => .boolean
  | 13 => .array .byte
  | 14 => .array .byte
  | 15 => .array .int
  | 16 => .int
  | 17 => .int
  | 18 => .int
  | 19 => .int
  | 20 => .int
  | 21 => .int
  | 22 => .int
  | 23 => .int
  | 24 => .int
  | 25 => .int
  | 26 => .int
  | 27 => .array .int
  | 28 => .array .int
  | 29 => .array .boolean
  | 30 => .array .int
  | 31 => .int
  | 32 => .int
  | 33 => .int
  | 34 => .int
  | 35 => .int
  | _ => .int
abbrev wsX110 : List Cond := u_ws RX11 TX11 37
theorem nmX11 : ∀ a, a < 37 → ∀ b, b < 37 → a ≠ b → (TX11 a).2.1 ≠ (TX11 b).2.1 := by decide +kernel
theorem tyX11_ok : ∀ k, k < 37 → parseFieldDescriptor (TX11 k).2.2.1 = some (tyX11 k) := by decide +kernel
abbrev cX11_init : ByteArray := prog_13_method_1_code
def yX11_init : MethodName := ⟨RX11, "<init>", "()V"⟩
abbrev cX11_status : ByteArray := prog_13_method_2_code
def yX11_status : MethodName := ⟨RX11, "status", "()I"⟩
abbrev cX11_refuse : ByteArray := prog_13_method_3_code
def yX11_refuse : MethodName := ⟨RX11, "refuse", "(I)I"⟩
abbrev cX11_isSo : ByteArray := prog_13_method_4_code
def yX11_isSo : MethodName := ⟨RX11, "isSo", "(I)Z"⟩
abbrev cX11_gives : ByteArray := prog_13_method_5_code
def yX11_gives : MethodName := ⟨RX11, "gives", "(I)I"⟩
abbrev cX11_isFrom : ByteArray := prog_13_method_6_code
def yX11_isFrom : MethodName := ⟨RX11, "isFrom", "(III)Z"⟩
abbrev cX11_has : ByteArray := prog_13_method_7_code
def yX11_has : MethodName := ⟨RX11, "has", "(II)Z"⟩
abbrev cX11_bits : ByteArray := prog_13_method_8_code
def yX11_bits : MethodName := ⟨RX11, "bits", "(I)I"⟩
abbrev cX11_of : ByteArray := prog_13_method_9_code
def yX11_of : MethodName := ⟨RX11, "of", "(I)I"⟩
abbrev cX11_copies : ByteArray := prog_13_method_10_code
def yX11_copies : MethodName := ⟨RX11, "copies", "(II)V"⟩
abbrev cX11_begins : ByteArray := prog_13_method_11_code
def yX11_begins : MethodName := ⟨RX11, "begins", "()V"⟩
abbrev cX11_bound0 : ByteArray := prog_13_method_12_code
def yX11_bound0 : MethodName := ⟨RX11, "bound0", "(I)I"⟩
abbrev cX11_at : ByteArray := prog_13_method_13_code
def yX11_at : MethodName := ⟨RX11, "at", "(I)I"⟩
abbrev cX11_from : ByteArray := prog_13_method_14_code
def yX11_from : MethodName := ⟨RX11, "from", "(I)I"⟩
abbrev cX11_to : ByteArray := prog_13_method_15_code
def yX11_to : MethodName := ⟨RX11, "to", "(I)I"⟩
abbrev cX11_time : ByteArray := prog_13_method_16_code
def yX11_time : MethodName := ⟨RX11, "time", "(I)I"⟩
abbrev cX11_amount : ByteArray := prog_13_method_17_code
def yX11_amount : MethodName := ⟨RX11, "amount", "(I)I"⟩
abbrev cX11_isAccount : ByteArray := prog_13_method_18_code
def yX11_isAccount : MethodName := ⟨RX11, "isAccount", "(I)Z"⟩
abbrev cX11_isTransfer : ByteArray := prog_13_method_19_code
def yX11_isTransfer : MethodName := ⟨RX11, "isTransfer", "(I)Z"⟩
abbrev cX11_acted : ByteArray := prog_13_method_20_code
def yX11_acted : MethodName := ⟨RX11, "acted", "()V"⟩
abbrev cX11_comes : ByteArray := prog_13_method_21_code
def yX11_comes : MethodName := ⟨RX11, "comes", "(IIII)I"⟩
abbrev cX11_goes : ByteArray := prog_13_method_22_code
def yX11_goes : MethodName := ⟨RX11, "goes", "(I)V"⟩
abbrev cX11_add : ByteArray := prog_13_method_23_code
def yX11_add : MethodName := ⟨RX11, "add", "()I"⟩
abbrev cX11_wrongPay : ByteArray := prog_13_method_24_code
def yX11_wrongPay : MethodName := ⟨RX11, "wrongPay", "(IIII)I"⟩
abbrev cX11_pay : ByteArray := prog_13_method_25_code
def yX11_pay : MethodName := ⟨RX11, "pay", "(IIII)I"⟩
abbrev cX11_strike : ByteArray := prog_13_method_26_code
def yX11_strike : MethodName := ⟨RX11, "strike", "(I)I"⟩
abbrev cX11_trust : ByteArray := prog_13_method_27_code
def yX11_trust : MethodName := ⟨RX11, "trust", "(IZ)Z"⟩
abbrev cX11_isBound : ByteArray := prog_13_method_28_code
def yX11_isBound : MethodName := ⟨RX11, "isBound", "(II)Z"⟩
abbrev cX11_bound : ByteArray := prog_13_method_29_code
def yX11_bound : MethodName := ⟨RX11, "bound", "(II)I"⟩
abbrev cX11_join : ByteArray := prog_13_method_30_code
def yX11_join : MethodName := ⟨RX11, "join", "(II)I"⟩
abbrev cX11_undo : ByteArray := prog_13_method_31_code
def yX11_undo : MethodName := ⟨RX11, "undo", "()I"⟩
abbrev cX11_mark : ByteArray := prog_13_method_32_code
def yX11_mark : MethodName := ⟨RX11, "mark", "()I"⟩
abbrev cX11_back : ByteArray := prog_13_method_33_code
def yX11_back : MethodName := ⟨RX11, "back", "()I"⟩
abbrev cX11_isAs : ByteArray := prog_13_method_34_code
def yX11_isAs : MethodName := ⟨RX11, "isAs", "(II)Z"⟩
abbrev cX11_isStep : ByteArray := prog_13_method_35_code
def yX11_isStep : MethodName := ⟨RX11, "isStep", "(II)Z"⟩
abbrev cX11_hop0 : ByteArray := prog_13_method_36_code
def yX11_hop0 : MethodName := ⟨RX11, "hop0", "(II)I"⟩
abbrev cX11_last : ByteArray := prog_13_method_37_code
def yX11_last : MethodName := ⟨RX11, "last", "(I)I"⟩
abbrev cX11_isRound : ByteArray := prog_13_method_38_code
def yX11_isRound : MethodName := ⟨RX11, "isRound", "(II)V"⟩
abbrev cX11_goesOn : ByteArray := prog_13_method_39_code
def yX11_goesOn : MethodName := ⟨RX11, "goesOn", "(II)V"⟩
abbrev cX11_ringOf : ByteArray := prog_13_method_40_code
def yX11_ringOf : MethodName := ⟨RX11, "ringOf", "(II)I"⟩
abbrev cX11_isLike : ByteArray := prog_13_method_41_code
def yX11_isLike : MethodName := ⟨RX11, "isLike", "(II)Z"⟩
abbrev cX11_lays : ByteArray := prog_13_method_42_code
def yX11_lays : MethodName := ⟨RX11, "lays", "()V"⟩
abbrev cX11_isIn : ByteArray := prog_13_method_43_code
def yX11_isIn : MethodName := ⟨RX11, "isIn", "(II)Z"⟩
abbrev cX11_flow : ByteArray := prog_13_method_44_code
def yX11_flow : MethodName := ⟨RX11, "flow", "(I)I"⟩
abbrev cX11_takes : ByteArray := prog_13_method_45_code
def yX11_takes : MethodName := ⟨RX11, "takes", "(I)I"⟩
abbrev cX11_kept : ByteArray := prog_13_method_46_code
def yX11_kept : MethodName := ⟨RX11, "kept", "(I)F"⟩
abbrev cX11_pace : ByteArray := prog_13_method_47_code
def yX11_pace : MethodName := ⟨RX11, "pace", "(I)F"⟩
abbrev cX11_feed : ByteArray := prog_13_method_48_code
def yX11_feed : MethodName := ⟨RX11, "feed", "(IIIII)I"⟩
abbrev cX11_four : ByteArray := prog_13_method_49_code
def yX11_four : MethodName := ⟨RX11, "four", "(I)V"⟩
abbrev cX11_byteAt : ByteArray := prog_13_method_50_code
def yX11_byteAt : MethodName := ⟨RX11, "byteAt", "(I)I"⟩
abbrev cX11_isSmall : ByteArray := prog_13_method_51_code
def yX11_isSmall : MethodName := ⟨RX11, "isSmall", "(I)Z"⟩
abbrev cX11_isDigit : ByteArray := prog_13_method_52_code
def yX11_isDigit : MethodName := ⟨RX11, "isDigit", "(I)Z"⟩
abbrev cX11_ahead : ByteArray := prog_13_method_53_code
def yX11_ahead : MethodName := ⟨RX11, "ahead", "()V"⟩
abbrev cX11_key : ByteArray := prog_13_method_54_code
def yX11_key : MethodName := ⟨RX11, "key", "()I"⟩
abbrev cX11_fails : ByteArray := prog_13_method_55_code
def yX11_fails : MethodName := ⟨RX11, "fails", "(I)Z"⟩
abbrev cX11_takesOn : ByteArray := prog_13_method_56_code
def yX11_takesOn : MethodName := ⟨RX11, "takesOn", "()Z"⟩
abbrev cX11_takesSign : ByteArray := prog_13_method_57_code
def yX11_takesSign : MethodName := ⟨RX11, "takesSign", "(I)Z"⟩
abbrev cX11_takesNumber : ByteArray := prog_13_method_58_code
def yX11_takesNumber : MethodName := ⟨RX11, "takesNumber", "(II)Z"⟩
abbrev cX11_isName : ByteArray := prog_13_method_59_code
def yX11_isName : MethodName := ⟨RX11, "isName", "()Z"⟩
abbrev cX11_nameHere : ByteArray := prog_13_method_60_code
def yX11_nameHere : MethodName := ⟨RX11, "nameHere", "()I"⟩
abbrev cX11_named : ByteArray := prog_13_method_61_code
def yX11_named : MethodName := ⟨RX11, "named", "()I"⟩
abbrev cX11_accountHere : ByteArray := prog_13_method_62_code
def yX11_accountHere : MethodName := ⟨RX11, "accountHere", "()I"⟩
abbrev cX11_someAccounts : ByteArray := prog_13_method_63_code
def yX11_someAccounts : MethodName := ⟨RX11, "someAccounts", "()Z"⟩
abbrev cX11_aPay : ByteArray := prog_13_method_64_code
def yX11_aPay : MethodName := ⟨RX11, "aPay", "()Z"⟩
abbrev cX11_aTrust : ByteArray := prog_13_method_65_code
def yX11_aTrust : MethodName := ⟨RX11, "aTrust", "()Z"⟩
abbrev cX11_aBound : ByteArray := prog_13_method_66_code
def yX11_aBound : MethodName := ⟨RX11, "aBound", "(I)Z"⟩
abbrev cX11_aLine : ByteArray := prog_13_method_67_code
def yX11_aLine : MethodName := ⟨RX11, "aLine", "()Z"⟩
abbrev cX11_load : ByteArray := prog_13_method_68_code
def yX11_load : MethodName := ⟨RX11, "load", "(I)I"⟩
abbrev cX11_fault : ByteArray := prog_13_method_69_code
def yX11_fault : MethodName := ⟨RX11, "fault", "(I)I"⟩
abbrev cX11_amounts : ByteArray := prog_13_method_70_code
def yX11_amounts : MethodName := ⟨RX11, "amounts", "()I"⟩
abbrev cX11_areCouples : ByteArray := prog_13_method_71_code
def yX11_areCouples : MethodName := ⟨RX11, "areCouples", "()Z"⟩
abbrev cX11_many : ByteArray := prog_13_method_72_code
def yX11_many : MethodName := ⟨RX11, "many", "(I)I"⟩
abbrev cX11_bounds : ByteArray := prog_13_method_73_code
def yX11_bounds : MethodName := ⟨RX11, "bounds", "(I)I"⟩
abbrev cX11_inRounds : ByteArray := prog_13_method_74_code
def yX11_inRounds : MethodName := ⟨RX11, "inRounds", "(I)I"⟩
abbrev cX11_closes : ByteArray := prog_13_method_75_code
def yX11_closes : MethodName := ⟨RX11, "closes", "(I)I"⟩
abbrev cX11_transfer : ByteArray := prog_13_method_76_code
def yX11_transfer : MethodName := ⟨RX11, "transfer", "(II)I"⟩
abbrev cX11_roundsOf : ByteArray := prog_13_method_77_code
def yX11_roundsOf : MethodName := ⟨RX11, "roundsOf", "(I)I"⟩
abbrev cX11_alarmsOf : ByteArray := prog_13_method_78_code
def yX11_alarmsOf : MethodName := ⟨RX11, "alarmsOf", "(I)I"⟩
abbrev cX11_leastHad : ByteArray := prog_13_method_79_code
def yX11_leastHad : MethodName := ⟨RX11, "leastHad", "(I)I"⟩
abbrev cX11_sideOf : ByteArray := prog_13_method_80_code
def yX11_sideOf : MethodName := ⟨RX11, "sideOf", "(IIZ)I"⟩
abbrev cX11_account : ByteArray := prog_13_method_81_code
def yX11_account : MethodName := ⟨RX11, "account", "(II)I"⟩
abbrev cX11_round : ByteArray := prog_13_method_82_code
def yX11_round : MethodName := ⟨RX11, "round", "(II)I"⟩
abbrev cX11_hop : ByteArray := prog_13_method_83_code
def yX11_hop : MethodName := ⟨RX11, "hop", "(II)I"⟩
abbrev cX11_witness : ByteArray := prog_13_method_84_code
def yX11_witness : MethodName := ⟨RX11, "witness", "(I)I"⟩
abbrev cX11_usesOf : ByteArray := prog_13_method_85_code
def yX11_usesOf : MethodName := ⟨RX11, "usesOf", "(I)I"⟩
abbrev cX11_isApart : ByteArray := prog_13_method_86_code
def yX11_isApart : MethodName := ⟨RX11, "isApart", "(I)Z"⟩
abbrev cX11_alarm : ByteArray := prog_13_method_87_code
def yX11_alarm : MethodName := ⟨RX11, "alarm", "(II)I"⟩
abbrev cX11_ring : ByteArray := prog_13_method_88_code
def yX11_ring : MethodName := ⟨RX11, "ring", "(II)I"⟩
abbrev cX11_closed : ByteArray := prog_13_method_89_code
def yX11_closed : MethodName := ⟨RX11, "closed", "(II)I"⟩
abbrev cX11_would : ByteArray := prog_13_method_90_code
def yX11_would : MethodName := ⟨RX11, "would", "(IIII)I"⟩
abbrev cX11_heatOf : ByteArray := prog_13_method_91_code
def yX11_heatOf : MethodName := ⟨RX11, "heatOf", "(I)F"⟩
abbrev cX11_isAbove : ByteArray := prog_13_method_92_code
def yX11_isAbove : MethodName := ⟨RX11, "isAbove", "(III)Z"⟩
abbrev cX11_top : ByteArray := prog_13_method_93_code
def yX11_top : MethodName := ⟨RX11, "top", "(I)I"⟩
abbrev cX11_nets : ByteArray := prog_13_method_94_code
def yX11_nets : MethodName := ⟨RX11, "nets", "()I"⟩
abbrev cX11_left : ByteArray := prog_13_method_95_code
def yX11_left : MethodName := ⟨RX11, "left", "(I)I"⟩
abbrev cX11_togetherWith : ByteArray := prog_13_method_96_code
def yX11_togetherWith : MethodName := ⟨RX11, "togetherWith", "(I)I"⟩
abbrev cX11_clusterOf : ByteArray := prog_13_method_97_code
def yX11_clusterOf : MethodName := ⟨RX11, "clusterOf", "(I)I"⟩
abbrev cX11_clusters : ByteArray := prog_13_method_98_code
def yX11_clusters : MethodName := ⟨RX11, "clusters", "()I"⟩
abbrev cX11_cluster : ByteArray := prog_13_method_99_code
def yX11_cluster : MethodName := ⟨RX11, "cluster", "(I)I"⟩
abbrev cX11_hinge : ByteArray := prog_13_method_100_code
def yX11_hinge : MethodName := ⟨RX11, "hinge", "(I)I"⟩
abbrev cX11_isStanding : ByteArray := prog_13_method_101_code
def yX11_isStanding : MethodName := ⟨RX11, "isStanding", "(II)Z"⟩
abbrev cX11_stand : ByteArray := prog_13_method_102_code
def yX11_stand : MethodName := ⟨RX11, "stand", "(I)I"⟩
abbrev cX11_standing : ByteArray := prog_13_method_103_code
def yX11_standing : MethodName := ⟨RX11, "standing", "(II)I"⟩
abbrev cX11_unlikeOf : ByteArray := prog_13_method_104_code
def yX11_unlikeOf : MethodName := ⟨RX11, "unlikeOf", "(IZ)I"⟩
abbrev cX11_peak : ByteArray := prog_13_method_105_code
def yX11_peak : MethodName := ⟨RX11, "peak", "(I)I"⟩
abbrev cX11_ranked : ByteArray := prog_13_method_106_code
def yX11_ranked : MethodName := ⟨RX11, "ranked", "(I)I"⟩
abbrev cX11_heat : ByteArray := prog_13_method_107_code
def yX11_heat : MethodName := ⟨RX11, "heat", "(I)I"⟩
abbrev cX11_until : ByteArray := prog_13_method_108_code
def yX11_until : MethodName := ⟨RX11, "until", "(II)I"⟩
abbrev cX11_isBetter : ByteArray := prog_13_method_109_code
def yX11_isBetter : MethodName := ⟨RX11, "isBetter", "(I)Z"⟩
abbrev cX11_seeks : ByteArray := prog_13_method_110_code
def yX11_seeks : MethodName := ⟨RX11, "seeks", "(III)V"⟩
abbrev cX11_seeksAll : ByteArray := prog_13_method_111_code
def yX11_seeksAll : MethodName := ⟨RX11, "seeksAll", "(III)V"⟩
abbrev cX11_wrongWay : ByteArray := prog_13_method_112_code
def yX11_wrongWay : MethodName := ⟨RX11, "wrongWay", "(III)I"⟩
abbrev cX11_soonest : ByteArray := prog_13_method_113_code
def yX11_soonest : MethodName := ⟨RX11, "soonest", "(IIII)I"⟩
abbrev cX11_step : ByteArray := prog_13_method_114_code
def yX11_step : MethodName := ⟨RX11, "step", "(IIII)I"⟩
abbrev cX11_most : ByteArray := prog_13_method_115_code
def yX11_most : MethodName := ⟨RX11, "most", "(III)I"⟩
abbrev cX11_reach : ByteArray := prog_13_method_116_code
def yX11_reach : MethodName := ⟨RX11, "reach", "(II)I"⟩
abbrev cX11_chain : ByteArray := prog_13_method_117_code
def yX11_chain : MethodName := ⟨RX11, "chain", "(II)I"⟩
abbrev cX11_comesTo : ByteArray := prog_13_method_118_code
def yX11_comesTo : MethodName := ⟨RX11, "comesTo", "(III)I"⟩
abbrev cX11_partOf : ByteArray := prog_13_method_119_code
def yX11_partOf : MethodName := ⟨RX11, "partOf", "(III)I"⟩
abbrev cX11_leastOf : ByteArray := prog_13_method_120_code
def yX11_leastOf : MethodName := ⟨RX11, "leastOf", "(I)I"⟩
abbrev cX11_part : ByteArray := prog_13_method_121_code
def yX11_part : MethodName := ⟨RX11, "part", "(III)I"⟩
abbrev cX11_parts : ByteArray := prog_13_method_122_code
def yX11_parts : MethodName := ⟨RX11, "parts", "(III)I"⟩
abbrev cX11_leftBy : ByteArray := prog_13_method_123_code
def yX11_leftBy : MethodName := ⟨RX11, "leftBy", "(I)I"⟩
abbrev cX11_freeze : ByteArray := prog_13_method_124_code
def yX11_freeze : MethodName := ⟨RX11, "freeze", "()I"⟩
abbrev cX11_isHit : ByteArray := prog_13_method_125_code
def yX11_isHit : MethodName := ⟨RX11, "isHit", "(I)Z"⟩
abbrev cX11_without : ByteArray := prog_13_method_126_code
def yX11_without : MethodName := ⟨RX11, "without", "(I)I"⟩
abbrev cX11_isFunnel : ByteArray := prog_13_method_127_code
def yX11_isFunnel : MethodName := ⟨RX11, "isFunnel", "(IIZ)Z"⟩
abbrev cX11_funnel : ByteArray := prog_13_method_128_code
def yX11_funnel : MethodName := ⟨RX11, "funnel", "(III)I"⟩
abbrev cX11_funnels : ByteArray := prog_13_method_129_code
def yX11_funnels : MethodName := ⟨RX11, "funnels", "(IZ)I"⟩
abbrev cX11_need : ByteArray := prog_13_method_130_code
def yX11_need : MethodName := ⟨RX11, "need", "(I)I"⟩
def RJx145de : String := "java/io/Serializable"
def TJx145de : u_T := fun k => match k with
  | _ => ("", "", "", false)
def tyJx145de : Nat → FieldType := fun k => match k with
  | _ => .int
abbrev wsJx145de0 : List Cond := u_ws RJx145de TJx145de 0
theorem nmJx145de : ∀ a, a < 0 → ∀ b, b < 0 → a ≠ b → (TJx145de a).2.1 ≠ (TJx145de b).2.1 := by decide +kernel
theorem tyJx145de_ok : ∀ k, k < 0 → parseFieldDescriptor (TJx145de k).2.2.1 = some (tyJx145de k) := by decide +kernel
def RJx9f9b0 : String := "java/lang/CharSequence"
def TJx9f9b0 : u_T := fun k => match k with
  | _ => ("", "", "", false)
def tyJx9f9b0 : Nat → FieldType := fun k => match k with
  | _ => .int
abbrev wsJx9f9b00 : List Cond := u_ws RJx9f9b0 TJx9f9b0 0
theorem nmJx9f9b0 : ∀ a, a < 0 → ∀ b, b < 0 → a ≠ b → (TJx9f9b0 a).2.1 ≠ (TJx9f9b0 b).2.1 := by decide +kernel
theorem tyJx9f9b0_ok : ∀ k, k < 0 → parseFieldDescriptor (TJx9f9b0 k).2.2.1 = some (tyJx9f9b0 k) := by decide +kernel
def RJx8e188 : String := "java/lang/Cloneable"
def TJx8e188 : u_T := fun k => match k with
  | _ => ("", "", "", false)
def tyJx8e188 : Nat → FieldType := fun k => match k with
  | _ => .int
abbrev wsJx8e1880 : List Cond := u_ws RJx8e188 TJx8e188 0
theorem nmJx8e188 : ∀ a, a < 0 → ∀ b, b < 0 → a ≠ b → (TJx8e188 a).2.1 ≠ (TJx8e188 b).2.1 := by decide +kernel
theorem tyJx8e188_ok : ∀ k, k < 0 → parseFieldDescriptor (TJx8e188 k).2.2.1 = some (tyJx8e188 k) := by decide +kernel
def RJxb160c : String := "java/lang/Comparable"
def TJxb160c : u_T := fun k => match k with
  | _ => ("", "", "", false)
def tyJxb160c : Nat → FieldType := fun k => match k with
  | _ => .int
abbrev wsJxb160c0 : List Cond := u_ws RJxb160c TJxb160c 0
theorem nmJxb160c : ∀ a, a < 0 → ∀ b, b < 0 → a ≠ b → (TJxb160c a).2.1 ≠ (TJxb160c b).2.1 := by decide +kernel
theorem tyJxb160c_ok : ∀ k, k < 0 → parseFieldDescriptor (TJxb160c k).2.2.1 = some (tyJxb160c k) := by decide +kernel
def RJxf58ca : String := "java/lang/Float"
def TJxf58ca : u_T := fun k => match k with
  | _ => ("", "", "", false)
def tyJxf58ca : Nat → FieldType := fun k => match k with
  | _ => .int
abbrev wsJxf58ca0 : List Cond := u_ws RJxf58ca TJxf58ca 0
theorem nmJxf58ca : ∀ a, a < 0 → ∀ b, b < 0 → a ≠ b → (TJxf58ca a).2.1 ≠ (TJxf58ca b).2.1 := by decide +kernel
theorem tyJxf58ca_ok : ∀ k, k < 0 → parseFieldDescriptor (TJxf58ca k).2.2.1 = some (tyJxf58ca k) := by decide +kernel
abbrev cJxf58ca_isNaN_12338 : ByteArray := prog_15_method_6_code
def yJxf58ca_isNaN_12338 : MethodName := ⟨RJxf58ca, "isNaN", "(F)Z"⟩
abbrev cJxf58ca_floatToIntBits_5c35a : ByteArray := prog_15_method_24_code
def yJxf58ca_floatToIntBits_5c35a : MethodName := ⟨RJxf58ca, "floatToIntBits", "(F)I"⟩
def RJ6 : String := "java/lang/Integer"
def TJ6 : u_T := fun k => match k with
  | _ => ("", "", "", false)
def tyJ6 : Nat → FieldType := fun k => match k with
  | _ => .int
abbrev wsJ60 : List Cond := u_ws RJ6 TJ6 0
theorem nmJ6 : ∀ a, a < 0 → ∀ b, b < 0 → a ≠ b → (TJ6 a).2.1 ≠ (TJ6 b).2.1 := by decide +kernel
theorem tyJ6_ok : ∀ k, k < 0 → parseFieldDescriptor (TJ6 k).2.2.1 = some (tyJ6 k) := by decide +kernel
abbrev cJ6_bitCount_0f7a4 : ByteArray := prog_16_method_49_code
def yJ6_bitCount_0f7a4 : MethodName := ⟨RJ6, "bitCount", "(I)I"⟩
def RJ9 : String := "java/lang/Math"
def TJ9 : u_T := fun k => match k with
  | _ => ("", "", "", false)
def tyJ9 : Nat → FieldType := fun k => match k with
  | _ => .int
abbrev wsJ90 : List Cond := u_ws RJ9 TJ9 0
theorem nmJ9 : ∀ a, a < 0 → ∀ b, b < 0 → a ≠ b → (TJ9 a).2.1 ≠ (TJ9 b).2.1 := by decide +kernel
theorem tyJ9_ok : ∀ k, k < 0 → parseFieldDescriptor (TJ9 k).2.2.1 = some (tyJ9 k) := by decide +kernel
abbrev cJ9_max_7cf53 : ByteArray := prog_17_method_65_code
def yJ9_max_7cf53 : MethodName := ⟨RJ9, "max", "(II)I"⟩
abbrev cJ9_min_7cf53 : ByteArray := prog_17_method_69_code
def yJ9_min_7cf53 : MethodName := ⟨RJ9, "min", "(II)I"⟩
def RJxd2413 : String := "java/lang/Number"
def TJxd2413 : u_T := fun k => match k with
  | _ => ("", "", "", false)
def tyJxd2413 : Nat → FieldType := fun k => match k with
  | _ => .int
abbrev wsJxd24130 : List Cond := u_ws RJxd2413 TJxd2413 0
theorem nmJxd2413 : ∀ a, a < 0 → ∀ b, b < 0 → a ≠ b → (TJxd2413 a).2.1 ≠ (TJxd2413 b).2.1 := by decide +kernel
theorem tyJxd2413_ok : ∀ k, k < 0 → parseFieldDescriptor (TJxd2413 k).2.2.1 = some (tyJxd2413 k) := by decide +kernel
def RJ0 : String := "java/lang/String"
def TJ0 : u_T := fun k => match k with
  | _ => ("", "", "", false)
def tyJ0 : Nat → FieldType := fun k => match k with
  | _ => .int
abbrev wsJ00 : List Cond := u_ws RJ0 TJ0 0
theorem nmJ0 : ∀ a, a < 0 → ∀ b, b < 0 → a ≠ b → (TJ0 a).2.1 ≠ (TJ0 b).2.1 := by decide +kernel
theorem tyJ0_ok : ∀ k, k < 0 → parseFieldDescriptor (TJ0 k).2.2.1 = some (tyJ0 k) := by decide +kernel
abbrev cJ0_length_8abf5 : ByteArray := prog_19_method_54_code
def yJ0_length_8abf5 : MethodName := ⟨RJ0, "length", "()I"⟩
abbrev cJ0_charAt_5068e : ByteArray := prog_19_method_56_code
def yJ0_charAt_5068e : MethodName := ⟨RJ0, "charAt", "(I)C"⟩
abbrev cJ0_coder_7d493 : ByteArray := prog_19_method_152_code
def yJ0_coder_7d493 : MethodName := ⟨RJ0, "coder", "()B"⟩
abbrev cJ0_isLatin1_aae02 : ByteArray := prog_19_method_154_code
def yJ0_isLatin1_aae02 : MethodName := ⟨RJ0, "isLatin1", "()Z"⟩
abbrev cJ0_checkIndex_df160 : ByteArray := prog_19_method_155_code
def yJ0_checkIndex_df160 : MethodName := ⟨RJ0, "checkIndex", "(II)V"⟩
def RJ1 : String := "java/lang/StringLatin1"
def TJ1 : u_T := fun k => match k with
  | _ => ("", "", "", false)
def tyJ1 : Nat → FieldType := fun k => match k with
  | _ => .int
abbrev wsJ10 : List Cond := u_ws RJ1 TJ1 0
theorem nmJ1 : ∀ a, a < 0 → ∀ b, b < 0 → a ≠ b → (TJ1 a).2.1 ≠ (TJ1 b).2.1 := by decide +kernel
theorem tyJ1_ok : ∀ k, k < 0 → parseFieldDescriptor (TJ1 k).2.2.1 = some (tyJ1 k) := by decide +kernel
abbrev cJ1_charAt_3b067 : ByteArray := prog_20_method_2_code
def yJ1_charAt_3b067 : MethodName := ⟨RJ1, "charAt", "([BI)C"⟩
def RJ2 : String := "java/lang/StringUTF16"
def TJ2 : u_T := fun k => match k with
  | _ => ("", "", "", false)
def tyJ2 : Nat → FieldType := fun k => match k with
  | _ => .int
abbrev wsJ20 : List Cond := u_ws RJ2 TJ2 0
theorem nmJ2 : ∀ a, a < 0 → ∀ b, b < 0 → a ≠ b → (TJ2 a).2.1 ≠ (TJ2 b).2.1 := by decide +kernel
theorem tyJ2_ok : ∀ k, k < 0 → parseFieldDescriptor (TJ2 k).2.2.1 = some (tyJ2 k) := by decide +kernel
abbrev cJ2_getChar_3b067 : ByteArray := prog_21_method_5_code
def yJ2_getChar_3b067 : MethodName := ⟨RJ2, "getChar", "([BI)C"⟩
abbrev cJ2_length_9d52b : ByteArray := prog_21_method_6_code
def yJ2_length_9d52b : MethodName := ⟨RJ2, "length", "([B)I"⟩
abbrev cJ2_charAt_3b067 : ByteArray := prog_21_method_83_code
def yJ2_charAt_3b067 : MethodName := ⟨RJ2, "charAt", "([BI)C"⟩
abbrev cJ2_checkIndex_2214a : ByteArray := prog_21_method_91_code
def yJ2_checkIndex_2214a : MethodName := ⟨RJ2, "checkIndex", "(I[B)V"⟩
def RJ10 : String := "java/lang/System"
def TJ10 : u_T := fun k => match k with
  | _ => ("", "", "", false)
def tyJ10 : Nat → FieldType := fun k => match k with
  | _ => .int
abbrev wsJ100 : List Cond := u_ws RJ10 TJ10 0
theorem nmJ10 : ∀ a, a < 0 → ∀ b, b < 0 → a ≠ b → (TJ10 a).2.1 ≠ (TJ10 b).2.1 := by decide +kernel
theorem tyJ10_ok : ∀ k, k < 0 → parseFieldDescriptor (TJ10 k).2.2.1 = some (tyJ10 k) := by decide +kernel
def RJxfd54e : String := "java/lang/constant/Constable"
def TJxfd54e : u_T := fun k => match k with
  | _ => ("", "", "", false)
def tyJxfd54e : Nat → FieldType := fun k => match k with
  | _ => .int
abbrev wsJxfd54e0 : List Cond := u_ws RJxfd54e TJxfd54e 0
theorem nmJxfd54e : ∀ a, a < 0 → ∀ b, b < 0 → a ≠ b → (TJxfd54e a).2.1 ≠ (TJxfd54e b).2.1 := by decide +kernel
theorem tyJxfd54e_ok : ∀ k, k < 0 → parseFieldDescriptor (TJxfd54e k).2.2.1 = some (tyJxfd54e k) := by decide +kernel
def RJx3cf43 : String := "java/lang/constant/ConstantDesc"
def TJx3cf43 : u_T := fun k => match k with
  | _ => ("", "", "", false)
def tyJx3cf43 : Nat → FieldType := fun k => match k with
  | _ => .int
abbrev wsJx3cf430 : List Cond := u_ws RJx3cf43 TJx3cf43 0
theorem nmJx3cf43 : ∀ a, a < 0 → ∀ b, b < 0 → a ≠ b → (TJx3cf43 a).2.1 ≠ (TJx3cf43 b).2.1 := by decide +kernel
theorem tyJx3cf43_ok : ∀ k, k < 0 → parseFieldDescriptor (TJx3cf43 k).2.2.1 = some (tyJx3cf43 k) := by decide +kernel
def RJ7 : String := "java/util/Arrays"
def TJ7 : u_T := fun k => match k with
  | _ => ("", "", "", false)
def tyJ7 : Nat → FieldType := fun k => match k with
  | _ => .int
abbrev wsJ70 : List Cond := u_ws RJ7 TJ7 0
theorem nmJ7 : ∀ a, a < 0 → ∀ b, b < 0 → a ≠ b → (TJ7 a).2.1 ≠ (TJ7 b).2.1 := by decide +kernel
theorem tyJ7_ok : ∀ k, k < 0 → parseFieldDescriptor (TJ7 k).2.2.1 = some (tyJ7 k) := by decide +kernel
abbrev cJ7_copyOf_59c91 : ByteArray := prog_23_method_123_code
def yJ7_copyOf_59c91 : MethodName := ⟨RJ7, "copyOf", "([II)[I"⟩
def RJ3 : String := "jdk/internal/util/Preconditions"
def TJ3 : u_T := fun k => match k with
  | _ => ("", "", "", false)
def tyJ3 : Nat → FieldType := fun k => match k with
  | _ => .int
abbrev wsJ30 : List Cond := u_ws RJ3 TJ3 0
theorem nmJ3 : ∀ a, a < 0 → ∀ b, b < 0 → a ≠ b → (TJ3 a).2.1 ≠ (TJ3 b).2.1 := by decide +kernel
theorem tyJ3_ok : ∀ k, k < 0 → parseFieldDescriptor (TJ3 k).2.2.1 = some (tyJ3 k) := by decide +kernel
abbrev cJ3_checkIndex_8e157 : ByteArray := prog_24_method_11_code
def yJ3_checkIndex_8e157 : MethodName := ⟨RJ3, "checkIndex", "(IILjava/util/function/BiFunction;)I"⟩
def RL : String := "RoundTripsLaw"
abbrev cL_law : ByteArray := code
def yL_law : MethodName := ⟨RL, "law", "([I)Z"⟩
abbrev vwCl : List vw_C := [(RX0, TX0, 11), (RX1, TX1, 8), (RX2, TX2, 6), (RX3, TX3, 5), (RX5, TX5, 5), (RX6, TX6, 2), (RX7, TX7, 13), (RX8, TX8, 14), (RX9, TX9, 11), (RX10, TX10, 10), (RX11, TX11, 37)]
theorem g_inX0 : GoodIn lw_tbl wsX00 := goodIn_r _ [345, 347, 349, 351, 353, 355, 357, 359, 361, 363, 365] (by decide +kernel) (by decide +kernel)
theorem innX0 : ∀ w ∈ wsX00, w ∈ lw_tbl := fun w h => (g_inX0 w h).1
theorem g_inX1 : GoodIn lw_tbl wsX10 := goodIn_r _ [213, 215, 217, 219, 221, 223, 225, 227] (by decide +kernel) (by decide +kernel)
theorem innX1 : ∀ w ∈ wsX10, w ∈ lw_tbl := fun w h => (g_inX1 w h).1
theorem g_inX2 : GoodIn lw_tbl wsX20 := goodIn_r _ [444, 445, 446, 447, 440, 442] (by decide +kernel) (by decide +kernel)
theorem innX2 : ∀ w ∈ wsX20, w ∈ lw_tbl := fun w h => (g_inX2 w h).1
theorem g_inX3 : GoodIn lw_tbl wsX30 := goodIn_r _ [301, 303, 305, 307, 309] (by decide +kernel) (by decide +kernel)
theorem innX3 : ∀ w ∈ wsX30, w ∈ lw_tbl := fun w h => (g_inX3 w h).1
theorem g_inX5 : GoodIn lw_tbl wsX50 := goodIn_r _ [458, 459, 460, 461, 456] (by decide +kernel) (by decide +kernel)
theorem innX5 : ∀ w ∈ wsX50, w ∈ lw_tbl := fun w h => (g_inX5 w h).1
theorem g_inX6 : GoodIn lw_tbl wsX60 := goodIn_r _ [518, 520] (by decide +kernel) (by decide +kernel)
theorem innX6 : ∀ w ∈ wsX60, w ∈ lw_tbl := fun w h => (g_inX6 w h).1
theorem g_inX7 : GoodIn lw_tbl wsX70 := goodIn_r _ [256, 258, 260, 262, 264, 266, 268, 270, 272, 274, 276, 278, 280] (by decide +kernel) (by decide +kernel)
theorem innX7 : ∀ w ∈ wsX70, w ∈ lw_tbl := fun w h => (g_inX7 w h).1
theorem g_inX8 : GoodIn lw_tbl wsX80 := goodIn_r _ [423, 425, 427, 429, 403, 405, 407, 409, 411, 413, 415, 417, 419, 421] (by decide +kernel) (by decide +kernel)
theorem innX8 : ∀ w ∈ wsX80, w ∈ lw_tbl := fun w h => (g_inX8 w h).1
theorem g_inX9 : GoodIn lw_tbl wsX90 := goodIn_r _ [487, 489, 491, 493, 495, 497, 499, 501, 503, 505, 507] (by decide +kernel) (by decide +kernel)
theorem innX9 : ∀ w ∈ wsX90, w ∈ lw_tbl := fun w h => (g_inX9 w h).1
theorem g_inX10 : GoodIn lw_tbl wsX100 := goodIn_r _ [533, 535, 537, 539, 541, 543, 545, 547, 549, 551] (by decide +kernel) (by decide +kernel)
theorem innX10 : ∀ w ∈ wsX100, w ∈ lw_tbl := fun w h => (g_inX10 w h).1
theorem g_inX11 : GoodIn lw_tbl wsX110 := goodIn_r _ [1379, 1381, 1383, 1385, 1387, 1389, 1391, 1393, 1395, 1397, 1399, 1401, 1403, 1405, 1407, 1409, 1411, 1413, 1415, 1417, 1419, 1421, 1423, 1425, 1427, 1429, 1431, 1433, 1435, 1437, 1439, 1441, 1443, 1445, 1447, 1449, 1451] (by decide +kernel) (by decide +kernel)
theorem innX11 : ∀ w ∈ wsX110, w ∈ lw_tbl := fun w h => (g_inX11 w h).1
