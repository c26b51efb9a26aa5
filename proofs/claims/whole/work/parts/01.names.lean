-- ===== PART A: goes FIRST, ahead of the names: the tables' words, and 'selects' of the private methods out of them =====
/-- a private method of a class that the tables say can be made, by its rows of tables_1 -/
def lw_okq (q : MethodName × Nat) : Prop := (q.1.cls ≠ "java/lang/invoke/MethodHandle" ∧ q.1.cls ≠ "java/lang/invoke/VarHandle") ∧ Cond.instantiable q.1.cls q.2 ∈ tables_1 ∧ Cond.privateMethod q.1 ∈ tables_1 ∧ Cond.instanceMethod q.1 ∈ tables_1
theorem lw_p0 : lw_okq (⟨"RoadBoards", "saleAt", "(I)LRoadBoards$Sale;"⟩, 10) := ⟨⟨by decide +kernel, by decide +kernel⟩, List.mem_of_getElem? (i := 20) (by decide +kernel), List.mem_of_getElem? (i := 436) (by decide +kernel), List.mem_of_getElem? (i := 437) (by decide +kernel)⟩
theorem lw_p1 : lw_okq (⟨"RoadBoards$Reader", "scanTokens", "(LRoadBoards$State;)V"⟩, 9) := ⟨⟨by decide +kernel, by decide +kernel⟩, List.mem_of_getElem? (i := 175) (by decide +kernel), List.mem_of_getElem? (i := 444) (by decide +kernel), List.mem_of_getElem? (i := 445) (by decide +kernel)⟩
theorem lw_p2 : lw_okq (⟨"RoadBoards$Reader", "addToken", "(LRoadBoards$State;III)V"⟩, 9) := ⟨⟨by decide +kernel, by decide +kernel⟩, List.mem_of_getElem? (i := 175) (by decide +kernel), List.mem_of_getElem? (i := 451) (by decide +kernel), List.mem_of_getElem? (i := 452) (by decide +kernel)⟩
theorem lw_p3 : lw_okq (⟨"RoadBoards$Reader", "readLine", "()V"⟩, 9) := ⟨⟨by decide +kernel, by decide +kernel⟩, List.mem_of_getElem? (i := 175) (by decide +kernel), List.mem_of_getElem? (i := 514) (by decide +kernel), List.mem_of_getElem? (i := 515) (by decide +kernel)⟩
theorem lw_p4 : lw_okq (⟨"RoadBoards$Reader", "note", "(II)V"⟩, 9) := ⟨⟨by decide +kernel, by decide +kernel⟩, List.mem_of_getElem? (i := 175) (by decide +kernel), List.mem_of_getElem? (i := 518) (by decide +kernel), List.mem_of_getElem? (i := 519) (by decide +kernel)⟩
theorem lw_p5 : lw_okq (⟨"RoadBoards$Reader", "goOn", "()V"⟩, 9) := ⟨⟨by decide +kernel, by decide +kernel⟩, List.mem_of_getElem? (i := 175) (by decide +kernel), List.mem_of_getElem? (i := 522) (by decide +kernel), List.mem_of_getElem? (i := 523) (by decide +kernel)⟩
theorem lw_p6 : lw_okq (⟨"RoadBoards$Reader", "readBoard", "(I)V"⟩, 9) := ⟨⟨by decide +kernel, by decide +kernel⟩, List.mem_of_getElem? (i := 175) (by decide +kernel), List.mem_of_getElem? (i := 526) (by decide +kernel), List.mem_of_getElem? (i := 527) (by decide +kernel)⟩
theorem lw_p7 : lw_okq (⟨"RoadBoards$Reader", "takeNumber", "(II)I"⟩, 9) := ⟨⟨by decide +kernel, by decide +kernel⟩, List.mem_of_getElem? (i := 175) (by decide +kernel), List.mem_of_getElem? (i := 530) (by decide +kernel), List.mem_of_getElem? (i := 531) (by decide +kernel)⟩
theorem lw_p8 : lw_okq (⟨"RoadBoards$Reader", "stumble", "(I)V"⟩, 9) := ⟨⟨by decide +kernel, by decide +kernel⟩, List.mem_of_getElem? (i := 175) (by decide +kernel), List.mem_of_getElem? (i := 534) (by decide +kernel), List.mem_of_getElem? (i := 535) (by decide +kernel)⟩
theorem lw_p9 : lw_okq (⟨"RoadBoards$Reader", "takeStop", "()V"⟩, 9) := ⟨⟨by decide +kernel, by decide +kernel⟩, List.mem_of_getElem? (i := 175) (by decide +kernel), List.mem_of_getElem? (i := 538) (by decide +kernel), List.mem_of_getElem? (i := 539) (by decide +kernel)⟩
theorem lw_p10 : lw_okq (⟨"RoadBoards$Reader", "readBidder", "(I)V"⟩, 9) := ⟨⟨by decide +kernel, by decide +kernel⟩, List.mem_of_getElem? (i := 175) (by decide +kernel), List.mem_of_getElem? (i := 542) (by decide +kernel), List.mem_of_getElem? (i := 543) (by decide +kernel)⟩
theorem lw_p11 : lw_okq (⟨"RoadBoards$Reader", "readOfBidder", "([III)V"⟩, 9) := ⟨⟨by decide +kernel, by decide +kernel⟩, List.mem_of_getElem? (i := 175) (by decide +kernel), List.mem_of_getElem? (i := 546) (by decide +kernel), List.mem_of_getElem? (i := 547) (by decide +kernel)⟩
theorem lw_p12 : lw_okq (⟨"RoadBoards$Reader", "takeBidder", "()I"⟩, 9) := ⟨⟨by decide +kernel, by decide +kernel⟩, List.mem_of_getElem? (i := 175) (by decide +kernel), List.mem_of_getElem? (i := 550) (by decide +kernel), List.mem_of_getElem? (i := 551) (by decide +kernel)⟩
theorem lw_p13 : lw_okq (⟨"RoadBoards$Reader", "readExtra", "()V"⟩, 9) := ⟨⟨by decide +kernel, by decide +kernel⟩, List.mem_of_getElem? (i := 175) (by decide +kernel), List.mem_of_getElem? (i := 558) (by decide +kernel), List.mem_of_getElem? (i := 559) (by decide +kernel)⟩
theorem lw_p14 : lw_okq (⟨"RoadBoards$Reader", "takeAmount", "()I"⟩, 9) := ⟨⟨by decide +kernel, by decide +kernel⟩, List.mem_of_getElem? (i := 175) (by decide +kernel), List.mem_of_getElem? (i := 562) (by decide +kernel), List.mem_of_getElem? (i := 563) (by decide +kernel)⟩
theorem lw_p15 : lw_okq (⟨"RoadBoards$Reader", "readSort", "(I)V"⟩, 9) := ⟨⟨by decide +kernel, by decide +kernel⟩, List.mem_of_getElem? (i := 175) (by decide +kernel), List.mem_of_getElem? (i := 570) (by decide +kernel), List.mem_of_getElem? (i := 571) (by decide +kernel)⟩
def lw_privs_1 : List (MethodName × Nat) := [(⟨"RoadBoards", "saleAt", "(I)LRoadBoards$Sale;"⟩, 10), (⟨"RoadBoards$Reader", "scanTokens", "(LRoadBoards$State;)V"⟩, 9), (⟨"RoadBoards$Reader", "addToken", "(LRoadBoards$State;III)V"⟩, 9), (⟨"RoadBoards$Reader", "readLine", "()V"⟩, 9), (⟨"RoadBoards$Reader", "note", "(II)V"⟩, 9), (⟨"RoadBoards$Reader", "goOn", "()V"⟩, 9), (⟨"RoadBoards$Reader", "readBoard", "(I)V"⟩, 9), (⟨"RoadBoards$Reader", "takeNumber", "(II)I"⟩, 9), (⟨"RoadBoards$Reader", "stumble", "(I)V"⟩, 9), (⟨"RoadBoards$Reader", "takeStop", "()V"⟩, 9), (⟨"RoadBoards$Reader", "readBidder", "(I)V"⟩, 9), (⟨"RoadBoards$Reader", "readOfBidder", "([III)V"⟩, 9), (⟨"RoadBoards$Reader", "takeBidder", "()I"⟩, 9), (⟨"RoadBoards$Reader", "readExtra", "()V"⟩, 9), (⟨"RoadBoards$Reader", "takeAmount", "()I"⟩, 9), (⟨"RoadBoards$Reader", "readSort", "(I)V"⟩, 9)]
theorem lw_r1 : ∀ q ∈ lw_privs_1, lw_okq q := List.forall_mem_cons.mpr ⟨lw_p0, List.forall_mem_cons.mpr ⟨lw_p1, List.forall_mem_cons.mpr ⟨lw_p2, List.forall_mem_cons.mpr ⟨lw_p3, List.forall_mem_cons.mpr ⟨lw_p4, List.forall_mem_cons.mpr ⟨lw_p5, List.forall_mem_cons.mpr ⟨lw_p6, List.forall_mem_cons.mpr ⟨lw_p7, List.forall_mem_cons.mpr ⟨lw_p8, List.forall_mem_cons.mpr ⟨lw_p9, List.forall_mem_cons.mpr ⟨lw_p10, List.forall_mem_cons.mpr ⟨lw_p11, List.forall_mem_cons.mpr ⟨lw_p12, List.forall_mem_cons.mpr ⟨lw_p13, List.forall_mem_cons.mpr ⟨lw_p14, List.forall_mem_cons.mpr ⟨lw_p15, fun _ h => absurd h List.not_mem_nil⟩⟩⟩⟩⟩⟩⟩⟩⟩⟩⟩⟩⟩⟩⟩⟩
theorem lw_p16 : lw_okq (⟨"RoadBoards$Reader", "readFriend", "()V"⟩, 9) := ⟨⟨by decide +kernel, by decide +kernel⟩, List.mem_of_getElem? (i := 175) (by decide +kernel), List.mem_of_getElem? (i := 574) (by decide +kernel), List.mem_of_getElem? (i := 575) (by decide +kernel)⟩
theorem lw_p17 : lw_okq (⟨"RoadBoards$Reader", "takeOther", "(I)I"⟩, 9) := ⟨⟨by decide +kernel, by decide +kernel⟩, List.mem_of_getElem? (i := 175) (by decide +kernel), List.mem_of_getElem? (i := 578) (by decide +kernel), List.mem_of_getElem? (i := 579) (by decide +kernel)⟩
theorem lw_p18 : lw_okq (⟨"RoadBoards$Reader", "readFoe", "()V"⟩, 9) := ⟨⟨by decide +kernel, by decide +kernel⟩, List.mem_of_getElem? (i := 175) (by decide +kernel), List.mem_of_getElem? (i := 582) (by decide +kernel), List.mem_of_getElem? (i := 583) (by decide +kernel)⟩
theorem lw_p19 : lw_okq (⟨"RoadBoards$Reader", "readWay", "()V"⟩, 9) := ⟨⟨by decide +kernel, by decide +kernel⟩, List.mem_of_getElem? (i := 175) (by decide +kernel), List.mem_of_getElem? (i := 586) (by decide +kernel), List.mem_of_getElem? (i := 587) (by decide +kernel)⟩
theorem lw_p20 : lw_okq (⟨"RoadBoards$Reader", "readBar", "()V"⟩, 9) := ⟨⟨by decide +kernel, by decide +kernel⟩, List.mem_of_getElem? (i := 175) (by decide +kernel), List.mem_of_getElem? (i := 590) (by decide +kernel), List.mem_of_getElem? (i := 591) (by decide +kernel)⟩
theorem lw_p21 : lw_okq (⟨"RoadBoards$Line", "askFor", "(IIII)I"⟩, 9) := ⟨⟨by decide +kernel, by decide +kernel⟩, List.mem_of_getElem? (i := 215) (by decide +kernel), List.mem_of_getElem? (i := 694) (by decide +kernel), List.mem_of_getElem? (i := 695) (by decide +kernel)⟩
theorem lw_p22 : lw_okq (⟨"RoadBoards$Replier", "gainNow", "(LRoadBoards$Sale;I)I"⟩, 9) := ⟨⟨by decide +kernel, by decide +kernel⟩, List.mem_of_getElem? (i := 256) (by decide +kernel), List.mem_of_getElem? (i := 741) (by decide +kernel), List.mem_of_getElem? (i := 742) (by decide +kernel)⟩
theorem lw_p23 : lw_okq (⟨"RoadBoards$Replier", "somebodyReplies", "(LRoadBoards$Sale;)Z"⟩, 9) := ⟨⟨by decide +kernel, by decide +kernel⟩, List.mem_of_getElem? (i := 256) (by decide +kernel), List.mem_of_getElem? (i := 767) (by decide +kernel), List.mem_of_getElem? (i := 768) (by decide +kernel)⟩
theorem lw_p24 : lw_okq (⟨"RoadBoards$Replier", "isAsBefore", "()Z"⟩, 9) := ⟨⟨by decide +kernel, by decide +kernel⟩, List.mem_of_getElem? (i := 256) (by decide +kernel), List.mem_of_getElem? (i := 771) (by decide +kernel), List.mem_of_getElem? (i := 772) (by decide +kernel)⟩
theorem lw_p25 : lw_okq (⟨"RoadBoards$Replier", "nextRow", "(LRoadBoards$Sale;I)Z"⟩, 9) := ⟨⟨by decide +kernel, by decide +kernel⟩, List.mem_of_getElem? (i := 256) (by decide +kernel), List.mem_of_getElem? (i := 787) (by decide +kernel), List.mem_of_getElem? (i := 788) (by decide +kernel)⟩
theorem lw_p26 : lw_okq (⟨"RoadBoards$Match", "weigh", "(LRoadBoards$Sale;)V"⟩, 6) := ⟨⟨by decide +kernel, by decide +kernel⟩, List.mem_of_getElem? (i := 299) (by decide +kernel), List.mem_of_getElem? (i := 808) (by decide +kernel), List.mem_of_getElem? (i := 809) (by decide +kernel)⟩
theorem lw_p27 : lw_okq (⟨"RoadBoards$Match", "solveWithRow", "(LRoadBoards$Sale;)I"⟩, 6) := ⟨⟨by decide +kernel, by decide +kernel⟩, List.mem_of_getElem? (i := 299) (by decide +kernel), List.mem_of_getElem? (i := 813) (by decide +kernel), List.mem_of_getElem? (i := 814) (by decide +kernel)⟩
theorem lw_p28 : lw_okq (⟨"RoadBoards$Match", "listBoards", "(LRoadBoards$Sale;I)V"⟩, 6) := ⟨⟨by decide +kernel, by decide +kernel⟩, List.mem_of_getElem? (i := 299) (by decide +kernel), List.mem_of_getElem? (i := 817) (by decide +kernel), List.mem_of_getElem? (i := 818) (by decide +kernel)⟩
theorem lw_p29 : lw_okq (⟨"RoadBoards$Match", "solve", "(LRoadBoards$Sale;I)I"⟩, 6) := ⟨⟨by decide +kernel, by decide +kernel⟩, List.mem_of_getElem? (i := 299) (by decide +kernel), List.mem_of_getElem? (i := 821) (by decide +kernel), List.mem_of_getElem? (i := 822) (by decide +kernel)⟩
theorem lw_p30 : lw_okq (⟨"RoadBoards$Match", "solveAt", "(LRoadBoards$Sale;II)V"⟩, 6) := ⟨⟨by decide +kernel, by decide +kernel⟩, List.mem_of_getElem? (i := 299) (by decide +kernel), List.mem_of_getElem? (i := 837) (by decide +kernel), List.mem_of_getElem? (i := 838) (by decide +kernel)⟩
theorem lw_p31 : lw_okq (⟨"RoadBoards$Match", "mostWithHim", "(LRoadBoards$Sale;IIII)I"⟩, 6) := ⟨⟨by decide +kernel, by decide +kernel⟩, List.mem_of_getElem? (i := 299) (by decide +kernel), List.mem_of_getElem? (i := 844) (by decide +kernel), List.mem_of_getElem? (i := 845) (by decide +kernel)⟩
def lw_privs_2 : List (MethodName × Nat) := [(⟨"RoadBoards$Reader", "readFriend", "()V"⟩, 9), (⟨"RoadBoards$Reader", "takeOther", "(I)I"⟩, 9), (⟨"RoadBoards$Reader", "readFoe", "()V"⟩, 9), (⟨"RoadBoards$Reader", "readWay", "()V"⟩, 9), (⟨"RoadBoards$Reader", "readBar", "()V"⟩, 9), (⟨"RoadBoards$Line", "askFor", "(IIII)I"⟩, 9), (⟨"RoadBoards$Replier", "gainNow", "(LRoadBoards$Sale;I)I"⟩, 9), (⟨"RoadBoards$Replier", "somebodyReplies", "(LRoadBoards$Sale;)Z"⟩, 9), (⟨"RoadBoards$Replier", "isAsBefore", "()Z"⟩, 9), (⟨"RoadBoards$Replier", "nextRow", "(LRoadBoards$Sale;I)Z"⟩, 9), (⟨"RoadBoards$Match", "weigh", "(LRoadBoards$Sale;)V"⟩, 6), (⟨"RoadBoards$Match", "solveWithRow", "(LRoadBoards$Sale;)I"⟩, 6), (⟨"RoadBoards$Match", "listBoards", "(LRoadBoards$Sale;I)V"⟩, 6), (⟨"RoadBoards$Match", "solve", "(LRoadBoards$Sale;I)I"⟩, 6), (⟨"RoadBoards$Match", "solveAt", "(LRoadBoards$Sale;II)V"⟩, 6), (⟨"RoadBoards$Match", "mostWithHim", "(LRoadBoards$Sale;IIII)I"⟩, 6)]
theorem lw_r2 : ∀ q ∈ lw_privs_2, lw_okq q := List.forall_mem_cons.mpr ⟨lw_p16, List.forall_mem_cons.mpr ⟨lw_p17, List.forall_mem_cons.mpr ⟨lw_p18, List.forall_mem_cons.mpr ⟨lw_p19, List.forall_mem_cons.mpr ⟨lw_p20, List.forall_mem_cons.mpr ⟨lw_p21, List.forall_mem_cons.mpr ⟨lw_p22, List.forall_mem_cons.mpr ⟨lw_p23, List.forall_mem_cons.mpr ⟨lw_p24, List.forall_mem_cons.mpr ⟨lw_p25, List.forall_mem_cons.mpr ⟨lw_p26, List.forall_mem_cons.mpr ⟨lw_p27, List.forall_mem_cons.mpr ⟨lw_p28, List.forall_mem_cons.mpr ⟨lw_p29, List.forall_mem_cons.mpr ⟨lw_p30, List.forall_mem_cons.mpr ⟨lw_p31, fun _ h => absurd h List.not_mem_nil⟩⟩⟩⟩⟩⟩⟩⟩⟩⟩⟩⟩⟩⟩⟩⟩
theorem lw_p32 : lw_okq (⟨"RoadBoards$Match", "lastBehind", "(I)I"⟩, 6) := ⟨⟨by decide +kernel, by decide +kernel⟩, List.mem_of_getElem? (i := 299) (by decide +kernel), List.mem_of_getElem? (i := 848) (by decide +kernel), List.mem_of_getElem? (i := 849) (by decide +kernel)⟩
theorem lw_p33 : lw_okq (⟨"RoadBoards$Match", "chooseRow", "(LRoadBoards$Sale;)V"⟩, 6) := ⟨⟨by decide +kernel, by decide +kernel⟩, List.mem_of_getElem? (i := 299) (by decide +kernel), List.mem_of_getElem? (i := 853) (by decide +kernel), List.mem_of_getElem? (i := 854) (by decide +kernel)⟩
theorem lw_p34 : lw_okq (⟨"RoadBoards$Match", "chooseFor", "(LRoadBoards$Sale;III)I"⟩, 6) := ⟨⟨by decide +kernel, by decide +kernel⟩, List.mem_of_getElem? (i := 299) (by decide +kernel), List.mem_of_getElem? (i := 857) (by decide +kernel), List.mem_of_getElem? (i := 858) (by decide +kernel)⟩
theorem lw_p35 : lw_okq (⟨"RoadBoards$Chances", "firstRow", "(LRoadBoards$Sale;)V"⟩, 6) := ⟨⟨by decide +kernel, by decide +kernel⟩, List.mem_of_getElem? (i := 325) (by decide +kernel), List.mem_of_getElem? (i := 917) (by decide +kernel), List.mem_of_getElem? (i := 918) (by decide +kernel)⟩
theorem lw_p36 : lw_okq (⟨"RoadBoards$Chances", "pick", "(LRoadBoards$Sale;II)V"⟩, 6) := ⟨⟨by decide +kernel, by decide +kernel⟩, List.mem_of_getElem? (i := 325) (by decide +kernel), List.mem_of_getElem? (i := 921) (by decide +kernel), List.mem_of_getElem? (i := 922) (by decide +kernel)⟩
theorem lw_p37 : lw_okq (⟨"RoadBoards$Chances", "partsOfRow", "(LRoadBoards$Sale;I)J"⟩, 6) := ⟨⟨by decide +kernel, by decide +kernel⟩, List.mem_of_getElem? (i := 325) (by decide +kernel), List.mem_of_getElem? (i := 927) (by decide +kernel), List.mem_of_getElem? (i := 928) (by decide +kernel)⟩
theorem lw_p38 : lw_okq (⟨"RoadBoards$Chances", "nextRowOfSorts", "(LRoadBoards$Sale;I)Z"⟩, 6) := ⟨⟨by decide +kernel, by decide +kernel⟩, List.mem_of_getElem? (i := 325) (by decide +kernel), List.mem_of_getElem? (i := 932) (by decide +kernel), List.mem_of_getElem? (i := 933) (by decide +kernel)⟩
theorem lw_p39 : lw_okq (⟨"RoadBoards$Chances", "addBarsOfRow", "(LRoadBoards$Sale;J)V"⟩, 6) := ⟨⟨by decide +kernel, by decide +kernel⟩, List.mem_of_getElem? (i := 325) (by decide +kernel), List.mem_of_getElem? (i := 944) (by decide +kernel), List.mem_of_getElem? (i := 945) (by decide +kernel)⟩
theorem lw_p40 : lw_okq (⟨"RoadBoards$Chances", "addPays", "(IIJ)V"⟩, 6) := ⟨⟨by decide +kernel, by decide +kernel⟩, List.mem_of_getElem? (i := 325) (by decide +kernel), List.mem_of_getElem? (i := 952) (by decide +kernel), List.mem_of_getElem? (i := 953) (by decide +kernel)⟩
theorem lw_p41 : lw_okq (⟨"RoadBoards$Purses", "sellOn", "(LRoadBoards$Sale;I)V"⟩, 3) := ⟨⟨by decide +kernel, by decide +kernel⟩, List.mem_of_getElem? (i := 354) (by decide +kernel), List.mem_of_getElem? (i := 983) (by decide +kernel), List.mem_of_getElem? (i := 984) (by decide +kernel)⟩
theorem lw_p42 : lw_okq (⟨"RoadBoards$Purses", "lineUpLeft", "(LRoadBoards$Sale;)V"⟩, 3) := ⟨⟨by decide +kernel, by decide +kernel⟩, List.mem_of_getElem? (i := 354) (by decide +kernel), List.mem_of_getElem? (i := 987) (by decide +kernel), List.mem_of_getElem? (i := 988) (by decide +kernel)⟩
theorem lw_p43 : lw_okq (⟨"RoadBoards$Purses", "firstWhoCannotPay", "()I"⟩, 3) := ⟨⟨by decide +kernel, by decide +kernel⟩, List.mem_of_getElem? (i := 354) (by decide +kernel), List.mem_of_getElem? (i := 993) (by decide +kernel), List.mem_of_getElem? (i := 994) (by decide +kernel)⟩
theorem lw_p44 : lw_okq (⟨"RoadBoards$Chances", "addGainsOfRow", "(LRoadBoards$Sale;IJ)V"⟩, 6) := ⟨⟨by decide +kernel, by decide +kernel⟩, List.mem_of_getElem? (i := 325) (by decide +kernel), List.mem_of_getElem? (i := 1052) (by decide +kernel), List.mem_of_getElem? (i := 1053) (by decide +kernel)⟩
theorem lw_p45 : lw_okq (⟨"RoadBoards$Replier", "noteGain", "(LRoadBoards$Sale;III)V"⟩, 9) := ⟨⟨by decide +kernel, by decide +kernel⟩, List.mem_of_getElem? (i := 256) (by decide +kernel), List.mem_of_getElem? (i := 1068) (by decide +kernel), List.mem_of_getElem? (i := 1069) (by decide +kernel)⟩
theorem lw_p46 : lw_okq (⟨"RoadBoards$Replier", "bidBeside", "(LRoadBoards$Sale;II)V"⟩, 9) := ⟨⟨by decide +kernel, by decide +kernel⟩, List.mem_of_getElem? (i := 256) (by decide +kernel), List.mem_of_getElem? (i := 1073) (by decide +kernel), List.mem_of_getElem? (i := 1074) (by decide +kernel)⟩
theorem lw_p47 : lw_okq (⟨"RoadBoards$Climber", "crowdedSet", "(LRoadBoards$Sale;)I"⟩, 2) := ⟨⟨by decide +kernel, by decide +kernel⟩, List.mem_of_getElem? (i := 375) (by decide +kernel), List.mem_of_getElem? (i := 1097) (by decide +kernel), List.mem_of_getElem? (i := 1098) (by decide +kernel)⟩
def lw_privs_3 : List (MethodName × Nat) := [(⟨"RoadBoards$Match", "lastBehind", "(I)I"⟩, 6), (⟨"RoadBoards$Match", "chooseRow", "(LRoadBoards$Sale;)V"⟩, 6), (⟨"RoadBoards$Match", "chooseFor", "(LRoadBoards$Sale;III)I"⟩, 6), (⟨"RoadBoards$Chances", "firstRow", "(LRoadBoards$Sale;)V"⟩, 6), (⟨"RoadBoards$Chances", "pick", "(LRoadBoards$Sale;II)V"⟩, 6), (⟨"RoadBoards$Chances", "partsOfRow", "(LRoadBoards$Sale;I)J"⟩, 6), (⟨"RoadBoards$Chances", "nextRowOfSorts", "(LRoadBoards$Sale;I)Z"⟩, 6), (⟨"RoadBoards$Chances", "addBarsOfRow", "(LRoadBoards$Sale;J)V"⟩, 6), (⟨"RoadBoards$Chances", "addPays", "(IIJ)V"⟩, 6), (⟨"RoadBoards$Purses", "sellOn", "(LRoadBoards$Sale;I)V"⟩, 3), (⟨"RoadBoards$Purses", "lineUpLeft", "(LRoadBoards$Sale;)V"⟩, 3), (⟨"RoadBoards$Purses", "firstWhoCannotPay", "()I"⟩, 3), (⟨"RoadBoards$Chances", "addGainsOfRow", "(LRoadBoards$Sale;IJ)V"⟩, 6), (⟨"RoadBoards$Replier", "noteGain", "(LRoadBoards$Sale;III)V"⟩, 9), (⟨"RoadBoards$Replier", "bidBeside", "(LRoadBoards$Sale;II)V"⟩, 9), (⟨"RoadBoards$Climber", "crowdedSet", "(LRoadBoards$Sale;)I"⟩, 2)]
theorem lw_r3 : ∀ q ∈ lw_privs_3, lw_okq q := List.forall_mem_cons.mpr ⟨lw_p32, List.forall_mem_cons.mpr ⟨lw_p33, List.forall_mem_cons.mpr ⟨lw_p34, List.forall_mem_cons.mpr ⟨lw_p35, List.forall_mem_cons.mpr ⟨lw_p36, List.forall_mem_cons.mpr ⟨lw_p37, List.forall_mem_cons.mpr ⟨lw_p38, List.forall_mem_cons.mpr ⟨lw_p39, List.forall_mem_cons.mpr ⟨lw_p40, List.forall_mem_cons.mpr ⟨lw_p41, List.forall_mem_cons.mpr ⟨lw_p42, List.forall_mem_cons.mpr ⟨lw_p43, List.forall_mem_cons.mpr ⟨lw_p44, List.forall_mem_cons.mpr ⟨lw_p45, List.forall_mem_cons.mpr ⟨lw_p46, List.forall_mem_cons.mpr ⟨lw_p47, fun _ h => absurd h List.not_mem_nil⟩⟩⟩⟩⟩⟩⟩⟩⟩⟩⟩⟩⟩⟩⟩⟩
theorem lw_p48 : lw_okq (⟨"RoadBoards$Climber", "wantedBy", "(LRoadBoards$Sale;I)I"⟩, 2) := ⟨⟨by decide +kernel, by decide +kernel⟩, List.mem_of_getElem? (i := 375) (by decide +kernel), List.mem_of_getElem? (i := 1101) (by decide +kernel), List.mem_of_getElem? (i := 1102) (by decide +kernel)⟩
theorem lw_p49 : lw_okq (⟨"RoadBoards$Climber", "countCrowd", "(LRoadBoards$Sale;I)I"⟩, 2) := ⟨⟨by decide +kernel, by decide +kernel⟩, List.mem_of_getElem? (i := 375) (by decide +kernel), List.mem_of_getElem? (i := 1108) (by decide +kernel), List.mem_of_getElem? (i := 1109) (by decide +kernel)⟩
theorem lw_p50 : lw_okq (⟨"RoadBoards$Climber", "raisePrices", "(I)V"⟩, 2) := ⟨⟨by decide +kernel, by decide +kernel⟩, List.mem_of_getElem? (i := 375) (by decide +kernel), List.mem_of_getElem? (i := 1113) (by decide +kernel), List.mem_of_getElem? (i := 1114) (by decide +kernel)⟩
theorem lw_p51 : lw_okq (⟨"RoadBoardsModel", "advance", "()V"⟩, 40) := ⟨⟨by decide +kernel, by decide +kernel⟩, List.mem_of_getElem? (i := 1139) (by decide +kernel), List.mem_of_getElem? (i := 1281) (by decide +kernel), List.mem_of_getElem? (i := 1282) (by decide +kernel)⟩
theorem lw_p52 : lw_okq (⟨"RoadBoardsModel", "byteAt", "(I)I"⟩, 40) := ⟨⟨by decide +kernel, by decide +kernel⟩, List.mem_of_getElem? (i := 1139) (by decide +kernel), List.mem_of_getElem? (i := 1285) (by decide +kernel), List.mem_of_getElem? (i := 1286) (by decide +kernel)⟩
theorem lw_p53 : lw_okq (⟨"RoadBoardsModel", "aLine", "()V"⟩, 40) := ⟨⟨by decide +kernel, by decide +kernel⟩, List.mem_of_getElem? (i := 1139) (by decide +kernel), List.mem_of_getElem? (i := 1310) (by decide +kernel), List.mem_of_getElem? (i := 1311) (by decide +kernel)⟩
theorem lw_p54 : lw_okq (⟨"RoadBoardsModel", "ends", "()V"⟩, 40) := ⟨⟨by decide +kernel, by decide +kernel⟩, List.mem_of_getElem? (i := 1139) (by decide +kernel), List.mem_of_getElem? (i := 1314) (by decide +kernel), List.mem_of_getElem? (i := 1315) (by decide +kernel)⟩
theorem lw_p55 : lw_okq (⟨"RoadBoardsModel", "also", "(II)V"⟩, 40) := ⟨⟨by decide +kernel, by decide +kernel⟩, List.mem_of_getElem? (i := 1139) (by decide +kernel), List.mem_of_getElem? (i := 1318) (by decide +kernel), List.mem_of_getElem? (i := 1319) (by decide +kernel)⟩
theorem lw_p56 : lw_okq (⟨"RoadBoardsModel", "aBoard", "(I)V"⟩, 40) := ⟨⟨by decide +kernel, by decide +kernel⟩, List.mem_of_getElem? (i := 1139) (by decide +kernel), List.mem_of_getElem? (i := 1322) (by decide +kernel), List.mem_of_getElem? (i := 1323) (by decide +kernel)⟩
theorem lw_p57 : lw_okq (⟨"RoadBoardsModel", "numbered", "(II)I"⟩, 40) := ⟨⟨by decide +kernel, by decide +kernel⟩, List.mem_of_getElem? (i := 1139) (by decide +kernel), List.mem_of_getElem? (i := 1326) (by decide +kernel), List.mem_of_getElem? (i := 1327) (by decide +kernel)⟩
theorem lw_p58 : lw_okq (⟨"RoadBoardsModel", "aBidder", "(I)V"⟩, 40) := ⟨⟨by decide +kernel, by decide +kernel⟩, List.mem_of_getElem? (i := 1139) (by decide +kernel), List.mem_of_getElem? (i := 1330) (by decide +kernel), List.mem_of_getElem? (i := 1331) (by decide +kernel)⟩
theorem lw_p59 : lw_okq (⟨"RoadBoardsModel", "oneBidder", "()I"⟩, 40) := ⟨⟨by decide +kernel, by decide +kernel⟩, List.mem_of_getElem? (i := 1139) (by decide +kernel), List.mem_of_getElem? (i := 1334) (by decide +kernel), List.mem_of_getElem? (i := 1335) (by decide +kernel)⟩
theorem lw_p60 : lw_okq (⟨"RoadBoardsModel", "moreOrLess", "()I"⟩, 40) := ⟨⟨by decide +kernel, by decide +kernel⟩, List.mem_of_getElem? (i := 1139) (by decide +kernel), List.mem_of_getElem? (i := 1338) (by decide +kernel), List.mem_of_getElem? (i := 1339) (by decide +kernel)⟩
theorem lw_p61 : lw_okq (⟨"RoadBoardsModel", "aSort", "(I)V"⟩, 40) := ⟨⟨by decide +kernel, by decide +kernel⟩, List.mem_of_getElem? (i := 1139) (by decide +kernel), List.mem_of_getElem? (i := 1342) (by decide +kernel), List.mem_of_getElem? (i := 1343) (by decide +kernel)⟩
theorem lw_p62 : lw_okq (⟨"RoadBoardsModel", "twoBidders", "()I"⟩, 40) := ⟨⟨by decide +kernel, by decide +kernel⟩, List.mem_of_getElem? (i := 1139) (by decide +kernel), List.mem_of_getElem? (i := 1346) (by decide +kernel), List.mem_of_getElem? (i := 1347) (by decide +kernel)⟩
theorem lw_p63 : lw_okq (⟨"RoadBoardsModel", "isSale", "(I)Z"⟩, 40) := ⟨⟨by decide +kernel, by decide +kernel⟩, List.mem_of_getElem? (i := 1139) (by decide +kernel), List.mem_of_getElem? (i := 1358) (by decide +kernel), List.mem_of_getElem? (i := 1359) (by decide +kernel)⟩
def lw_privs_4 : List (MethodName × Nat) := [(⟨"RoadBoards$Climber", "wantedBy", "(LRoadBoards$Sale;I)I"⟩, 2), (⟨"RoadBoards$Climber", "countCrowd", "(LRoadBoards$Sale;I)I"⟩, 2), (⟨"RoadBoards$Climber", "raisePrices", "(I)V"⟩, 2), (⟨"RoadBoardsModel", "advance", "()V"⟩, 40), (⟨"RoadBoardsModel", "byteAt", "(I)I"⟩, 40), (⟨"RoadBoardsModel", "aLine", "()V"⟩, 40), (⟨"RoadBoardsModel", "ends", "()V"⟩, 40), (⟨"RoadBoardsModel", "also", "(II)V"⟩, 40), (⟨"RoadBoardsModel", "aBoard", "(I)V"⟩, 40), (⟨"RoadBoardsModel", "numbered", "(II)I"⟩, 40), (⟨"RoadBoardsModel", "aBidder", "(I)V"⟩, 40), (⟨"RoadBoardsModel", "oneBidder", "()I"⟩, 40), (⟨"RoadBoardsModel", "moreOrLess", "()I"⟩, 40), (⟨"RoadBoardsModel", "aSort", "(I)V"⟩, 40), (⟨"RoadBoardsModel", "twoBidders", "()I"⟩, 40), (⟨"RoadBoardsModel", "isSale", "(I)Z"⟩, 40)]
theorem lw_r4 : ∀ q ∈ lw_privs_4, lw_okq q := List.forall_mem_cons.mpr ⟨lw_p48, List.forall_mem_cons.mpr ⟨lw_p49, List.forall_mem_cons.mpr ⟨lw_p50, List.forall_mem_cons.mpr ⟨lw_p51, List.forall_mem_cons.mpr ⟨lw_p52, List.forall_mem_cons.mpr ⟨lw_p53, List.forall_mem_cons.mpr ⟨lw_p54, List.forall_mem_cons.mpr ⟨lw_p55, List.forall_mem_cons.mpr ⟨lw_p56, List.forall_mem_cons.mpr ⟨lw_p57, List.forall_mem_cons.mpr ⟨lw_p58, List.forall_mem_cons.mpr ⟨lw_p59, List.forall_mem_cons.mpr ⟨lw_p60, List.forall_mem_cons.mpr ⟨lw_p61, List.forall_mem_cons.mpr ⟨lw_p62, List.forall_mem_cons.mpr ⟨lw_p63, fun _ h => absurd h List.not_mem_nil⟩⟩⟩⟩⟩⟩⟩⟩⟩⟩⟩⟩⟩⟩⟩⟩
theorem lw_p64 : lw_okq (⟨"RoadBoardsModel", "of", "(I)I"⟩, 40) := ⟨⟨by decide +kernel, by decide +kernel⟩, List.mem_of_getElem? (i := 1139) (by decide +kernel), List.mem_of_getElem? (i := 1362) (by decide +kernel), List.mem_of_getElem? (i := 1363) (by decide +kernel)⟩
theorem lw_p65 : lw_okq (⟨"RoadBoardsModel", "isBidder", "(I)Z"⟩, 40) := ⟨⟨by decide +kernel, by decide +kernel⟩, List.mem_of_getElem? (i := 1139) (by decide +kernel), List.mem_of_getElem? (i := 1370) (by decide +kernel), List.mem_of_getElem? (i := 1371) (by decide +kernel)⟩
theorem lw_p66 : lw_okq (⟨"RoadBoardsModel", "isBoard", "(I)Z"⟩, 40) := ⟨⟨by decide +kernel, by decide +kernel⟩, List.mem_of_getElem? (i := 1139) (by decide +kernel), List.mem_of_getElem? (i := 1374) (by decide +kernel), List.mem_of_getElem? (i := 1375) (by decide +kernel)⟩
theorem lw_p67 : lw_okq (⟨"RoadBoardsModel", "worthOf", "(II)I"⟩, 40) := ⟨⟨by decide +kernel, by decide +kernel⟩, List.mem_of_getElem? (i := 1139) (by decide +kernel), List.mem_of_getElem? (i := 1378) (by decide +kernel), List.mem_of_getElem? (i := 1379) (by decide +kernel)⟩
theorem lw_p68 : lw_okq (⟨"RoadBoardsModel", "worthBy", "(III)I"⟩, 40) := ⟨⟨by decide +kernel, by decide +kernel⟩, List.mem_of_getElem? (i := 1139) (by decide +kernel), List.mem_of_getElem? (i := 1382) (by decide +kernel), List.mem_of_getElem? (i := 1383) (by decide +kernel)⟩
theorem lw_p69 : lw_okq (⟨"RoadBoardsModel", "laid", "(I)Z"⟩, 40) := ⟨⟨by decide +kernel, by decide +kernel⟩, List.mem_of_getElem? (i := 1139) (by decide +kernel), List.mem_of_getElem? (i := 1398) (by decide +kernel), List.mem_of_getElem? (i := 1399) (by decide +kernel)⟩
theorem lw_p70 : lw_okq (⟨"RoadBoardsModel", "takesSale", "(I)Z"⟩, 40) := ⟨⟨by decide +kernel, by decide +kernel⟩, List.mem_of_getElem? (i := 1139) (by decide +kernel), List.mem_of_getElem? (i := 1402) (by decide +kernel), List.mem_of_getElem? (i := 1403) (by decide +kernel)⟩
theorem lw_p71 : lw_okq (⟨"RoadBoardsModel", "takes", "()V"⟩, 40) := ⟨⟨by decide +kernel, by decide +kernel⟩, List.mem_of_getElem? (i := 1139) (by decide +kernel), List.mem_of_getElem? (i := 1406) (by decide +kernel), List.mem_of_getElem? (i := 1407) (by decide +kernel)⟩
theorem lw_p72 : lw_okq (⟨"RoadBoardsModel", "lays", "(II)V"⟩, 40) := ⟨⟨by decide +kernel, by decide +kernel⟩, List.mem_of_getElem? (i := 1139) (by decide +kernel), List.mem_of_getElem? (i := 1410) (by decide +kernel), List.mem_of_getElem? (i := 1411) (by decide +kernel)⟩
theorem lw_p73 : lw_okq (⟨"RoadBoardsModel", "payOf", "(II)I"⟩, 40) := ⟨⟨by decide +kernel, by decide +kernel⟩, List.mem_of_getElem? (i := 1139) (by decide +kernel), List.mem_of_getElem? (i := 1414) (by decide +kernel), List.mem_of_getElem? (i := 1415) (by decide +kernel)⟩
theorem lw_p74 : lw_okq (⟨"RoadBoardsModel", "passOf", "(I)I"⟩, 40) := ⟨⟨by decide +kernel, by decide +kernel⟩, List.mem_of_getElem? (i := 1139) (by decide +kernel), List.mem_of_getElem? (i := 1418) (by decide +kernel), List.mem_of_getElem? (i := 1419) (by decide +kernel)⟩
theorem lw_p75 : lw_okq (⟨"RoadBoardsModel", "score", "(I)I"⟩, 40) := ⟨⟨by decide +kernel, by decide +kernel⟩, List.mem_of_getElem? (i := 1139) (by decide +kernel), List.mem_of_getElem? (i := 1425) (by decide +kernel), List.mem_of_getElem? (i := 1426) (by decide +kernel)⟩
theorem lw_p76 : lw_okq (⟨"RoadBoardsModel", "placeOf", "(I)I"⟩, 40) := ⟨⟨by decide +kernel, by decide +kernel⟩, List.mem_of_getElem? (i := 1139) (by decide +kernel), List.mem_of_getElem? (i := 1437) (by decide +kernel), List.mem_of_getElem? (i := 1438) (by decide +kernel)⟩
theorem lw_p77 : lw_okq (⟨"RoadBoardsModel", "gainOf", "(I)I"⟩, 40) := ⟨⟨by decide +kernel, by decide +kernel⟩, List.mem_of_getElem? (i := 1139) (by decide +kernel), List.mem_of_getElem? (i := 1441) (by decide +kernel), List.mem_of_getElem? (i := 1442) (by decide +kernel)⟩
theorem lw_p78 : lw_okq (⟨"RoadBoardsModel", "takeNow", "()I"⟩, 40) := ⟨⟨by decide +kernel, by decide +kernel⟩, List.mem_of_getElem? (i := 1139) (by decide +kernel), List.mem_of_getElem? (i := 1449) (by decide +kernel), List.mem_of_getElem? (i := 1450) (by decide +kernel)⟩
theorem lw_p79 : lw_okq (⟨"RoadBoardsModel", "replyOf", "(II)I"⟩, 40) := ⟨⟨by decide +kernel, by decide +kernel⟩, List.mem_of_getElem? (i := 1139) (by decide +kernel), List.mem_of_getElem? (i := 1461) (by decide +kernel), List.mem_of_getElem? (i := 1462) (by decide +kernel)⟩
def lw_privs_5 : List (MethodName × Nat) := [(⟨"RoadBoardsModel", "of", "(I)I"⟩, 40), (⟨"RoadBoardsModel", "isBidder", "(I)Z"⟩, 40), (⟨"RoadBoardsModel", "isBoard", "(I)Z"⟩, 40), (⟨"RoadBoardsModel", "worthOf", "(II)I"⟩, 40), (⟨"RoadBoardsModel", "worthBy", "(III)I"⟩, 40), (⟨"RoadBoardsModel", "laid", "(I)Z"⟩, 40), (⟨"RoadBoardsModel", "takesSale", "(I)Z"⟩, 40), (⟨"RoadBoardsModel", "takes", "()V"⟩, 40), (⟨"RoadBoardsModel", "lays", "(II)V"⟩, 40), (⟨"RoadBoardsModel", "payOf", "(II)I"⟩, 40), (⟨"RoadBoardsModel", "passOf", "(I)I"⟩, 40), (⟨"RoadBoardsModel", "score", "(I)I"⟩, 40), (⟨"RoadBoardsModel", "placeOf", "(I)I"⟩, 40), (⟨"RoadBoardsModel", "gainOf", "(I)I"⟩, 40), (⟨"RoadBoardsModel", "takeNow", "()I"⟩, 40), (⟨"RoadBoardsModel", "replyOf", "(II)I"⟩, 40)]
theorem lw_r5 : ∀ q ∈ lw_privs_5, lw_okq q := List.forall_mem_cons.mpr ⟨lw_p64, List.forall_mem_cons.mpr ⟨lw_p65, List.forall_mem_cons.mpr ⟨lw_p66, List.forall_mem_cons.mpr ⟨lw_p67, List.forall_mem_cons.mpr ⟨lw_p68, List.forall_mem_cons.mpr ⟨lw_p69, List.forall_mem_cons.mpr ⟨lw_p70, List.forall_mem_cons.mpr ⟨lw_p71, List.forall_mem_cons.mpr ⟨lw_p72, List.forall_mem_cons.mpr ⟨lw_p73, List.forall_mem_cons.mpr ⟨lw_p74, List.forall_mem_cons.mpr ⟨lw_p75, List.forall_mem_cons.mpr ⟨lw_p76, List.forall_mem_cons.mpr ⟨lw_p77, List.forall_mem_cons.mpr ⟨lw_p78, List.forall_mem_cons.mpr ⟨lw_p79, fun _ h => absurd h List.not_mem_nil⟩⟩⟩⟩⟩⟩⟩⟩⟩⟩⟩⟩⟩⟩⟩⟩
theorem lw_p80 : lw_okq (⟨"RoadBoardsModel", "turnsNow", "()V"⟩, 40) := ⟨⟨by decide +kernel, by decide +kernel⟩, List.mem_of_getElem? (i := 1139) (by decide +kernel), List.mem_of_getElem? (i := 1473) (by decide +kernel), List.mem_of_getElem? (i := 1474) (by decide +kernel)⟩
theorem lw_p81 : lw_okq (⟨"RoadBoardsModel", "isAsBefore", "(I)Z"⟩, 40) := ⟨⟨by decide +kernel, by decide +kernel⟩, List.mem_of_getElem? (i := 1139) (by decide +kernel), List.mem_of_getElem? (i := 1477) (by decide +kernel), List.mem_of_getElem? (i := 1478) (by decide +kernel)⟩
theorem lw_p82 : lw_okq (⟨"RoadBoardsModel", "isFew", "(II)Z"⟩, 40) := ⟨⟨by decide +kernel, by decide +kernel⟩, List.mem_of_getElem? (i := 1139) (by decide +kernel), List.mem_of_getElem? (i := 1485) (by decide +kernel), List.mem_of_getElem? (i := 1486) (by decide +kernel)⟩
theorem lw_p83 : lw_okq (⟨"RoadBoardsModel", "restsUpTo", "(II)I"⟩, 40) := ⟨⟨by decide +kernel, by decide +kernel⟩, List.mem_of_getElem? (i := 1139) (by decide +kernel), List.mem_of_getElem? (i := 1489) (by decide +kernel), List.mem_of_getElem? (i := 1490) (by decide +kernel)⟩
theorem lw_p84 : lw_okq (⟨"RoadBoardsModel", "isRest", "(I)Z"⟩, 40) := ⟨⟨by decide +kernel, by decide +kernel⟩, List.mem_of_getElem? (i := 1139) (by decide +kernel), List.mem_of_getElem? (i := 1493) (by decide +kernel), List.mem_of_getElem? (i := 1494) (by decide +kernel)⟩
theorem lw_p85 : lw_okq (⟨"RoadBoardsModel", "bestNow", "()V"⟩, 40) := ⟨⟨by decide +kernel, by decide +kernel⟩, List.mem_of_getElem? (i := 1139) (by decide +kernel), List.mem_of_getElem? (i := 1505) (by decide +kernel), List.mem_of_getElem? (i := 1506) (by decide +kernel)⟩
theorem lw_p86 : lw_okq (⟨"RoadBoardsModel", "allRows", "()V"⟩, 40) := ⟨⟨by decide +kernel, by decide +kernel⟩, List.mem_of_getElem? (i := 1139) (by decide +kernel), List.mem_of_getElem? (i := 1509) (by decide +kernel), List.mem_of_getElem? (i := 1510) (by decide +kernel)⟩
theorem lw_p87 : lw_okq (⟨"RoadBoardsModel", "mostOf", "(I)I"⟩, 40) := ⟨⟨by decide +kernel, by decide +kernel⟩, List.mem_of_getElem? (i := 1139) (by decide +kernel), List.mem_of_getElem? (i := 1513) (by decide +kernel), List.mem_of_getElem? (i := 1514) (by decide +kernel)⟩
theorem lw_p88 : lw_okq (⟨"RoadBoardsModel", "bestPlace", "(I)I"⟩, 40) := ⟨⟨by decide +kernel, by decide +kernel⟩, List.mem_of_getElem? (i := 1139) (by decide +kernel), List.mem_of_getElem? (i := 1525) (by decide +kernel), List.mem_of_getElem? (i := 1526) (by decide +kernel)⟩
theorem lw_p89 : lw_okq (⟨"RoadBoardsModel", "partsNow", "()J"⟩, 40) := ⟨⟨by decide +kernel, by decide +kernel⟩, List.mem_of_getElem? (i := 1139) (by decide +kernel), List.mem_of_getElem? (i := 1541) (by decide +kernel), List.mem_of_getElem? (i := 1542) (by decide +kernel)⟩
theorem lw_p90 : lw_okq (⟨"RoadBoardsModel", "takenBy", "(I)J"⟩, 40) := ⟨⟨by decide +kernel, by decide +kernel⟩, List.mem_of_getElem? (i := 1139) (by decide +kernel), List.mem_of_getElem? (i := 1550) (by decide +kernel), List.mem_of_getElem? (i := 1551) (by decide +kernel)⟩
theorem lw_p91 : lw_okq (⟨"RoadBoardsModel", "daysNow", "(I)V"⟩, 40) := ⟨⟨by decide +kernel, by decide +kernel⟩, List.mem_of_getElem? (i := 1139) (by decide +kernel), List.mem_of_getElem? (i := 1562) (by decide +kernel), List.mem_of_getElem? (i := 1563) (by decide +kernel)⟩
theorem lw_p92 : lw_okq (⟨"RoadBoardsModel", "besideNow", "()V"⟩, 40) := ⟨⟨by decide +kernel, by decide +kernel⟩, List.mem_of_getElem? (i := 1139) (by decide +kernel), List.mem_of_getElem? (i := 1574) (by decide +kernel), List.mem_of_getElem? (i := 1575) (by decide +kernel)⟩
theorem lw_p93 : lw_okq (⟨"RoadBoardsModel", "stepTo", "(IIII)I"⟩, 40) := ⟨⟨by decide +kernel, by decide +kernel⟩, List.mem_of_getElem? (i := 1139) (by decide +kernel), List.mem_of_getElem? (i := 1578) (by decide +kernel), List.mem_of_getElem? (i := 1579) (by decide +kernel)⟩
theorem lw_p94 : lw_okq (⟨"RoadBoardsModel", "besideAt", "(I)I"⟩, 40) := ⟨⟨by decide +kernel, by decide +kernel⟩, List.mem_of_getElem? (i := 1139) (by decide +kernel), List.mem_of_getElem? (i := 1583) (by decide +kernel), List.mem_of_getElem? (i := 1584) (by decide +kernel)⟩
theorem lw_p95 : lw_okq (⟨"RoadBoardsModel", "sparedOf", "(I)I"⟩, 40) := ⟨⟨by decide +kernel, by decide +kernel⟩, List.mem_of_getElem? (i := 1139) (by decide +kernel), List.mem_of_getElem? (i := 1595) (by decide +kernel), List.mem_of_getElem? (i := 1596) (by decide +kernel)⟩
def lw_privs_6 : List (MethodName × Nat) := [(⟨"RoadBoardsModel", "turnsNow", "()V"⟩, 40), (⟨"RoadBoardsModel", "isAsBefore", "(I)Z"⟩, 40), (⟨"RoadBoardsModel", "isFew", "(II)Z"⟩, 40), (⟨"RoadBoardsModel", "restsUpTo", "(II)I"⟩, 40), (⟨"RoadBoardsModel", "isRest", "(I)Z"⟩, 40), (⟨"RoadBoardsModel", "bestNow", "()V"⟩, 40), (⟨"RoadBoardsModel", "allRows", "()V"⟩, 40), (⟨"RoadBoardsModel", "mostOf", "(I)I"⟩, 40), (⟨"RoadBoardsModel", "bestPlace", "(I)I"⟩, 40), (⟨"RoadBoardsModel", "partsNow", "()J"⟩, 40), (⟨"RoadBoardsModel", "takenBy", "(I)J"⟩, 40), (⟨"RoadBoardsModel", "daysNow", "(I)V"⟩, 40), (⟨"RoadBoardsModel", "besideNow", "()V"⟩, 40), (⟨"RoadBoardsModel", "stepTo", "(IIII)I"⟩, 40), (⟨"RoadBoardsModel", "besideAt", "(I)I"⟩, 40), (⟨"RoadBoardsModel", "sparedOf", "(I)I"⟩, 40)]
theorem lw_r6 : ∀ q ∈ lw_privs_6, lw_okq q := List.forall_mem_cons.mpr ⟨lw_p80, List.forall_mem_cons.mpr ⟨lw_p81, List.forall_mem_cons.mpr ⟨lw_p82, List.forall_mem_cons.mpr ⟨lw_p83, List.forall_mem_cons.mpr ⟨lw_p84, List.forall_mem_cons.mpr ⟨lw_p85, List.forall_mem_cons.mpr ⟨lw_p86, List.forall_mem_cons.mpr ⟨lw_p87, List.forall_mem_cons.mpr ⟨lw_p88, List.forall_mem_cons.mpr ⟨lw_p89, List.forall_mem_cons.mpr ⟨lw_p90, List.forall_mem_cons.mpr ⟨lw_p91, List.forall_mem_cons.mpr ⟨lw_p92, List.forall_mem_cons.mpr ⟨lw_p93, List.forall_mem_cons.mpr ⟨lw_p94, List.forall_mem_cons.mpr ⟨lw_p95, fun _ h => absurd h List.not_mem_nil⟩⟩⟩⟩⟩⟩⟩⟩⟩⟩⟩⟩⟩⟩⟩⟩
theorem lw_p96 : lw_okq (⟨"RoadBoardsModel", "gainBy", "(II)J"⟩, 40) := ⟨⟨by decide +kernel, by decide +kernel⟩, List.mem_of_getElem? (i := 1139) (by decide +kernel), List.mem_of_getElem? (i := 1616) (by decide +kernel), List.mem_of_getElem? (i := 1617) (by decide +kernel)⟩
theorem lw_p97 : lw_okq (⟨"RoadBoardsModel", "climbsBy", "(I)I"⟩, 40) := ⟨⟨by decide +kernel, by decide +kernel⟩, List.mem_of_getElem? (i := 1139) (by decide +kernel), List.mem_of_getElem? (i := 1632) (by decide +kernel), List.mem_of_getElem? (i := 1633) (by decide +kernel)⟩
theorem lw_p98 : lw_okq (⟨"RoadBoardsModel", "wishes", "()V"⟩, 40) := ⟨⟨by decide +kernel, by decide +kernel⟩, List.mem_of_getElem? (i := 1139) (by decide +kernel), List.mem_of_getElem? (i := 1636) (by decide +kernel), List.mem_of_getElem? (i := 1637) (by decide +kernel)⟩
theorem lw_p99 : lw_okq (⟨"RoadBoardsModel", "crowded", "()I"⟩, 40) := ⟨⟨by decide +kernel, by decide +kernel⟩, List.mem_of_getElem? (i := 1139) (by decide +kernel), List.mem_of_getElem? (i := 1640) (by decide +kernel), List.mem_of_getElem? (i := 1641) (by decide +kernel)⟩
def lw_privs_7 : List (MethodName × Nat) := [(⟨"RoadBoardsModel", "gainBy", "(II)J"⟩, 40), (⟨"RoadBoardsModel", "climbsBy", "(I)I"⟩, 40), (⟨"RoadBoardsModel", "wishes", "()V"⟩, 40), (⟨"RoadBoardsModel", "crowded", "()I"⟩, 40)]
theorem lw_r7 : ∀ q ∈ lw_privs_7, lw_okq q := List.forall_mem_cons.mpr ⟨lw_p96, List.forall_mem_cons.mpr ⟨lw_p97, List.forall_mem_cons.mpr ⟨lw_p98, List.forall_mem_cons.mpr ⟨lw_p99, fun _ h => absurd h List.not_mem_nil⟩⟩⟩⟩
def lw_privs : List (MethodName × Nat) := lw_privs_1 ++ (lw_privs_2 ++ (lw_privs_3 ++ (lw_privs_4 ++ (lw_privs_5 ++ (lw_privs_6 ++ (lw_privs_7))))))
def lw_tbl : List Cond := k2_sels lw_privs ++ tables_1
theorem lw_privs_ok : ∀ q ∈ lw_privs, lw_okq q := by
  show ∀ q ∈ lw_privs_1 ++ (lw_privs_2 ++ (lw_privs_3 ++ (lw_privs_4 ++ (lw_privs_5 ++ (lw_privs_6 ++ (lw_privs_7)))))), lw_okq q
  exact List.forall_mem_append.mpr ⟨lw_r1, List.forall_mem_append.mpr ⟨lw_r2, List.forall_mem_append.mpr ⟨lw_r3, List.forall_mem_append.mpr ⟨lw_r4, List.forall_mem_append.mpr ⟨lw_r5, List.forall_mem_append.mpr ⟨lw_r6, lw_r7⟩⟩⟩⟩⟩⟩
-- ===== end of PART A; then your names; then what follows =====
/-! ===== BEGIN words of one list among another's, by their places ===== -/
theorem goodIn_r {big : List Cond} (ws : List Cond) (ps : List Nat) (hp : ws = ps.filterMap (fun i => big[i]?)) (h : ws.all goodWord = true) : GoodIn big ws := by
  intro w hw
  have h1 := List.all_eq_true.mp h w hw
  rw [hp] at hw
  obtain ⟨i, -, hi⟩ := List.mem_filterMap.mp hw
  have hm : w ∈ big := by first | exact List.mem_of_getElem? hi | exact List.getElem?_mem hi
  exact ⟨hm, good_of_word h1⟩
theorem goodIn_app {big a b : List Cond} (ha : GoodIn big a) (hb : GoodIn big b) : GoodIn big (a ++ b) := fun w h => (List.mem_append.mp h).elim (ha w) (hb w)
theorem goodIn_ca {big a b : List Cond} {c : Cond} (ha : GoodIn big (c :: a)) (hb : GoodIn big b) : GoodIn big (c :: (a ++ b)) := fun w h => (List.mem_cons.mp h).elim (fun e => ha w (List.mem_cons.mpr (Or.inl e))) (fun h => (List.mem_append.mp h).elim (fun h => ha w (List.mem_cons.mpr (Or.inr h))) (hb w))
theorem goodIn_sub {big ws : List Cond} (hm : ∀ w ∈ ws, w ∈ big) (h : ws.all goodWord = true) : GoodIn big ws := fun w hw => ⟨hm w hw, good_of_word (List.all_eq_true.mp h w hw)⟩
/-! ===== END ===== -/

/-! ===== BEGIN printed: names, fields, word lists, decode rows ===== -/
def RX0 : String := "RoadBoards$Chances"
def TX0 : u_T := fun k => match k with
  | 0 => ("RoadBoards$Chances", "line", "LRoadBoards$Line;", true)
  | 1 => ("RoadBoards$Chances", "picked", "[I", true)
  | 2 => ("RoadBoards$Chances", "bids", "[I", true)
  | 3 => ("RoadBoards$Chances", "sums", "[J", true)
  | 4 => ("RoadBoards$Chances", "flat", "[J", true)
  | _ => ("RoadBoards$Chances", "steep", "[J", true)
def tyX0 : Nat → FieldType := fun k => match k with
  | 0 => .object "RoadBoards$Line"
  | 1 => .array .int
  | 2 => .array .int
  | 3 => .array .long
  | 4 => .array .long
  | _ => .array .long
abbrev wsX00 : List Cond := u_ws RX0 TX0 6
theorem nmX0 : ∀ a, a < 6 → ∀ b, b < 6 → a ≠ b → (TX0 a).2.1 ≠ (TX0 b).2.1 := by decide +kernel
theorem tyX0_ok : ∀ k, k < 6 → parseFieldDescriptor (TX0 k).2.2.1 = some (tyX0 k) := by decide +kernel
abbrev cX0_init : ByteArray := prog_2_method_1_code
def yX0_init : MethodName := ⟨RX0, "<init>", "()V"⟩
abbrev cX0_allParts : ByteArray := prog_2_method_2_code
def yX0_allParts : MethodName := ⟨RX0, "allParts", "(LRoadBoards$Sale;)J"⟩
abbrev cX0_takenWith : ByteArray := prog_2_method_3_code
def yX0_takenWith : MethodName := ⟨RX0, "takenWith", "(LRoadBoards$Sale;I)J"⟩
abbrev cX0_addUpBars : ByteArray := prog_2_method_4_code
def yX0_addUpBars : MethodName := ⟨RX0, "addUpBars", "(LRoadBoards$Sale;)V"⟩
abbrev cX0_addBarsOfRow : ByteArray := prog_2_method_5_code
def yX0_addBarsOfRow : MethodName := ⟨RX0, "addBarsOfRow", "(LRoadBoards$Sale;J)V"⟩
abbrev cX0_addPays : ByteArray := prog_2_method_6_code
def yX0_addPays : MethodName := ⟨RX0, "addPays", "(IIJ)V"⟩
abbrev cX0_addUpGains : ByteArray := prog_2_method_7_code
def yX0_addUpGains : MethodName := ⟨RX0, "addUpGains", "(LRoadBoards$Sale;I)V"⟩
abbrev cX0_addGainsOfRow : ByteArray := prog_2_method_8_code
def yX0_addGainsOfRow : MethodName := ⟨RX0, "addGainsOfRow", "(LRoadBoards$Sale;IJ)V"⟩
abbrev cX0_firstGreatest : ByteArray := prog_2_method_9_code
def yX0_firstGreatest : MethodName := ⟨RX0, "firstGreatest", "()I"⟩
abbrev cX0_firstRow : ByteArray := prog_2_method_10_code
def yX0_firstRow : MethodName := ⟨RX0, "firstRow", "(LRoadBoards$Sale;)V"⟩
abbrev cX0_pick : ByteArray := prog_2_method_11_code
def yX0_pick : MethodName := ⟨RX0, "pick", "(LRoadBoards$Sale;II)V"⟩
abbrev cX0_nextRowOfSorts : ByteArray := prog_2_method_12_code
def yX0_nextRowOfSorts : MethodName := ⟨RX0, "nextRowOfSorts", "(LRoadBoards$Sale;I)Z"⟩
abbrev cX0_partsOfRow : ByteArray := prog_2_method_13_code
def yX0_partsOfRow : MethodName := ⟨RX0, "partsOfRow", "(LRoadBoards$Sale;I)J"⟩
def RX1 : String := "RoadBoards$Climber"
def TX1 : u_T := fun k => match k with
  | 0 => ("RoadBoards$Climber", "prices", "[I", true)
  | _ => ("RoadBoards$Climber", "wants", "[I", true)
def tyX1 : Nat → FieldType := fun k => match k with
  | 0 => .array .int
  | _ => .array .int
abbrev wsX10 : List Cond := u_ws RX1 TX1 2
theorem nmX1 : ∀ a, a < 2 → ∀ b, b < 2 → a ≠ b → (TX1 a).2.1 ≠ (TX1 b).2.1 := by decide +kernel
theorem tyX1_ok : ∀ k, k < 2 → parseFieldDescriptor (TX1 k).2.2.1 = some (tyX1 k) := by decide +kernel
abbrev cX1_init : ByteArray := prog_3_method_1_code
def yX1_init : MethodName := ⟨RX1, "<init>", "()V"⟩
abbrev cX1_climbFor : ByteArray := prog_3_method_2_code
def yX1_climbFor : MethodName := ⟨RX1, "climbFor", "(LRoadBoards$Sale;I)I"⟩
abbrev cX1_raisePrices : ByteArray := prog_3_method_3_code
def yX1_raisePrices : MethodName := ⟨RX1, "raisePrices", "(I)V"⟩
abbrev cX1_crowdedSet : ByteArray := prog_3_method_4_code
def yX1_crowdedSet : MethodName := ⟨RX1, "crowdedSet", "(LRoadBoards$Sale;)I"⟩
abbrev cX1_wantedBy : ByteArray := prog_3_method_5_code
def yX1_wantedBy : MethodName := ⟨RX1, "wantedBy", "(LRoadBoards$Sale;I)I"⟩
abbrev cX1_countCrowd : ByteArray := prog_3_method_6_code
def yX1_countCrowd : MethodName := ⟨RX1, "countCrowd", "(LRoadBoards$Sale;I)I"⟩
def RX2 : String := "RoadBoards$Line"
def TX2 : u_T := fun k => match k with
  | 0 => ("RoadBoards$Line", "pass", "[I", true)
  | 1 => ("RoadBoards$Line", "who", "[I", true)
  | 2 => ("RoadBoards$Line", "bids", "[I", true)
  | 3 => ("RoadBoards$Line", "marks", "[I", true)
  | 4 => ("RoadBoards$Line", "scores", "[I", true)
  | 5 => ("RoadBoards$Line", "boards", "I", false)
  | 6 => ("RoadBoards$Line", "way", "I", false)
  | 7 => ("RoadBoards$Line", "bar", "I", false)
  | _ => ("RoadBoards$Line", "length", "I", false)
def tyX2 : Nat → FieldType := fun k => match k with
  | 0 => .array .int
  | 1 => .array .int
  | 2 => .array .int
  | 3 => .array .int
  | 4 => .array .int
  | 5 => .int
  | 6 => .int
  | 7 => .int
  | _ => .int
abbrev wsX20 : List Cond := u_ws RX2 TX2 9
theorem nmX2 : ∀ a, a < 9 → ∀ b, b < 9 → a ≠ b → (TX2 a).2.1 ≠ (TX2 b).2.1 := by decide +kernel
theorem tyX2_ok : ∀ k, k < 9 → parseFieldDescriptor (TX2 k).2.2.1 = some (tyX2 k) := by decide +kernel
abbrev cX2_init : ByteArray := prog_4_method_1_code
def yX2_init : MethodName := ⟨RX2, "<init>", "()V"⟩
abbrev cX2_open : ByteArray := prog_4_method_2_code
def yX2_open : MethodName := ⟨RX2, "open", "(LRoadBoards$Sale;I)V"⟩
abbrev cX2_lineUp : ByteArray := prog_4_method_3_code
def yX2_lineUp : MethodName := ⟨RX2, "lineUp", "(LRoadBoards$Sale;)V"⟩
abbrev cX2_putOthers : ByteArray := prog_4_method_4_code
def yX2_putOthers : MethodName := ⟨RX2, "putOthers", "(LRoadBoards$Sale;[II)V"⟩
abbrev cX2_putIn : ByteArray := prog_4_method_5_code
def yX2_putIn : MethodName := ⟨RX2, "putIn", "(III)I"⟩
abbrev cX2_dropAt : ByteArray := prog_4_method_6_code
def yX2_dropAt : MethodName := ⟨RX2, "dropAt", "(I)V"⟩
abbrev cX2_raiseBar : ByteArray := prog_4_method_7_code
def yX2_raiseBar : MethodName := ⟨RX2, "raiseBar", "(I)V"⟩
abbrev cX2_leastBid : ByteArray := prog_4_method_8_code
def yX2_leastBid : MethodName := ⟨RX2, "leastBid", "()I"⟩
abbrev cX2_admits : ByteArray := prog_4_method_9_code
def yX2_admits : MethodName := ⟨RX2, "admits", "(I)Z"⟩
abbrev cX2_placeFrom : ByteArray := prog_4_method_10_code
def yX2_placeFrom : MethodName := ⟨RX2, "placeFrom", "(III)I"⟩
abbrev cX2_countStanding : ByteArray := prog_4_method_11_code
def yX2_countStanding : MethodName := ⟨RX2, "countStanding", "()I"⟩
abbrev cX2_whoStands : ByteArray := prog_4_method_12_code
def yX2_whoStands : MethodName := ⟨RX2, "whoStands", "(I)I"⟩
abbrev cX2_boardOf : ByteArray := prog_4_method_13_code
def yX2_boardOf : MethodName := ⟨RX2, "boardOf", "(I)I"⟩
abbrev cX2_payAt : ByteArray := prog_4_method_14_code
def yX2_payAt : MethodName := ⟨RX2, "payAt", "(I)I"⟩
abbrev cX2_askFor : ByteArray := prog_4_method_15_code
def yX2_askFor : MethodName := ⟨RX2, "askFor", "(IIII)I"⟩
abbrev cX2_allPays : ByteArray := prog_4_method_16_code
def yX2_allPays : MethodName := ⟨RX2, "allPays", "()I"⟩
abbrev cX2_askAt : ByteArray := prog_4_method_17_code
def yX2_askAt : MethodName := ⟨RX2, "askAt", "(I)I"⟩
abbrev cX2_allWorths : ByteArray := prog_4_method_18_code
def yX2_allWorths : MethodName := ⟨RX2, "allWorths", "(LRoadBoards$Sale;)I"⟩
abbrev cX2_gainOf : ByteArray := prog_4_method_19_code
def yX2_gainOf : MethodName := ⟨RX2, "gainOf", "(LRoadBoards$Sale;I)I"⟩
abbrev cX2_gainIfHeBids : ByteArray := prog_4_method_20_code
def yX2_gainIfHeBids : MethodName := ⟨RX2, "gainIfHeBids", "(LRoadBoards$Sale;III)I"⟩
abbrev cX2_ratherThan : ByteArray := prog_4_method_21_code
def yX2_ratherThan : MethodName := ⟨RX2, "ratherThan", "(LRoadBoards$Sale;I)I"⟩
abbrev cX2_sparedInTurns : ByteArray := prog_4_method_22_code
def yX2_sparedInTurns : MethodName := ⟨RX2, "sparedInTurns", "(LRoadBoards$Sale;I)I"⟩
abbrev cX2_bitsFrom : ByteArray := prog_4_method_23_code
def yX2_bitsFrom : MethodName := ⟨RX2, "bitsFrom", "(I)I"⟩
def RX3 : String := "RoadBoards$Match"
def TX3 : u_T := fun k => match k with
  | 0 => ("RoadBoards$Match", "worths", "[I", true)
  | 1 => ("RoadBoards$Match", "list", "[I", true)
  | 2 => ("RoadBoards$Match", "listed", "I", false)
  | 3 => ("RoadBoards$Match", "row", "[I", true)
  | 4 => ("RoadBoards$Match", "most", "[I", true)
  | _ => ("RoadBoards$Match", "byNeighbours", "Z", false)
def tyX3 : Nat → FieldType := fun k => match k with
  | 0 => .array .int
  | 1 => .array .int
  | 2 => .int
  | 3 => .array .int
  | 4 => .array .int
  | _ => .boolean
abbrev wsX30 : List Cond := u_ws RX3 TX3 6
theorem nmX3 : ∀ a, a < 6 → ∀ b, b < 6 → a ≠ b → (TX3 a).2.1 ≠ (TX3 b).2.1 := by decide +kernel
theorem tyX3_ok : ∀ k, k < 6 → parseFieldDescriptor (TX3 k).2.2.1 = some (tyX3 k) := by decide +kernel
abbrev cX3_init : ByteArray := prog_5_method_1_code
def yX3_init : MethodName := ⟨RX3, "<init>", "()V"⟩
abbrev cX3_solveBest : ByteArray := prog_5_method_2_code
def yX3_solveBest : MethodName := ⟨RX3, "solveBest", "(LRoadBoards$Sale;)I"⟩
abbrev cX3_solveTold : ByteArray := prog_5_method_3_code
def yX3_solveTold : MethodName := ⟨RX3, "solveTold", "(LRoadBoards$Sale;II)I"⟩
abbrev cX3_solveBeside : ByteArray := prog_5_method_4_code
def yX3_solveBeside : MethodName := ⟨RX3, "solveBeside", "(LRoadBoards$Sale;)I"⟩
abbrev cX3_weigh : ByteArray := prog_5_method_5_code
def yX3_weigh : MethodName := ⟨RX3, "weigh", "(LRoadBoards$Sale;)V"⟩
abbrev cX3_solveWithRow : ByteArray := prog_5_method_6_code
def yX3_solveWithRow : MethodName := ⟨RX3, "solveWithRow", "(LRoadBoards$Sale;)I"⟩
abbrev cX3_mostWithTwo : ByteArray := prog_5_method_7_code
def yX3_mostWithTwo : MethodName := ⟨RX3, "mostWithTwo", "(LRoadBoards$Sale;I)I"⟩
abbrev cX3_mostWithout : ByteArray := prog_5_method_8_code
def yX3_mostWithout : MethodName := ⟨RX3, "mostWithout", "(LRoadBoards$Sale;I)I"⟩
abbrev cX3_harmOf : ByteArray := prog_5_method_9_code
def yX3_harmOf : MethodName := ⟨RX3, "harmOf", "(LRoadBoards$Sale;II)I"⟩
abbrev cX3_boardOfBidder : ByteArray := prog_5_method_10_code
def yX3_boardOfBidder : MethodName := ⟨RX3, "boardOfBidder", "(LRoadBoards$Sale;I)I"⟩
abbrev cX3_judge : ByteArray := prog_5_method_11_code
def yX3_judge : MethodName := ⟨RX3, "judge", "(LRoadBoards$Sale;)I"⟩
abbrev cX3_mostAtPrices : ByteArray := prog_5_method_12_code
def yX3_mostAtPrices : MethodName := ⟨RX3, "mostAtPrices", "(LRoadBoards$Sale;I)I"⟩
abbrev cX3_listBoards : ByteArray := prog_5_method_13_code
def yX3_listBoards : MethodName := ⟨RX3, "listBoards", "(LRoadBoards$Sale;I)V"⟩
abbrev cX3_solve : ByteArray := prog_5_method_14_code
def yX3_solve : MethodName := ⟨RX3, "solve", "(LRoadBoards$Sale;I)I"⟩
abbrev cX3_comesUp : ByteArray := prog_5_method_15_code
def yX3_comesUp : MethodName := ⟨RX3, "comesUp", "(III)Z"⟩
abbrev cX3_solveAt : ByteArray := prog_5_method_16_code
def yX3_solveAt : MethodName := ⟨RX3, "solveAt", "(LRoadBoards$Sale;II)V"⟩
abbrev cX3_chooseRow : ByteArray := prog_5_method_17_code
def yX3_chooseRow : MethodName := ⟨RX3, "chooseRow", "(LRoadBoards$Sale;)V"⟩
abbrev cX3_chooseFor : ByteArray := prog_5_method_18_code
def yX3_chooseFor : MethodName := ⟨RX3, "chooseFor", "(LRoadBoards$Sale;III)I"⟩
abbrev cX3_mayStand : ByteArray := prog_5_method_19_code
def yX3_mayStand : MethodName := ⟨RX3, "mayStand", "(LRoadBoards$Sale;III)Z"⟩
abbrev cX3_mostWithHim : ByteArray := prog_5_method_20_code
def yX3_mostWithHim : MethodName := ⟨RX3, "mostWithHim", "(LRoadBoards$Sale;IIII)I"⟩
abbrev cX3_lastBehind : ByteArray := prog_5_method_21_code
def yX3_lastBehind : MethodName := ⟨RX3, "lastBehind", "(I)I"⟩
abbrev cX3_slotOf : ByteArray := prog_5_method_22_code
def yX3_slotOf : MethodName := ⟨RX3, "slotOf", "(III)I"⟩
def RX4 : String := "RoadBoards$Purses"
def TX4 : u_T := fun k => match k with
  | 0 => ("RoadBoards$Purses", "line", "LRoadBoards$Line;", true)
  | 1 => ("RoadBoards$Purses", "left", "[I", true)
  | _ => ("RoadBoards$Purses", "endedOn", "[I", true)
def tyX4 : Nat → FieldType := fun k => match k with
  | 0 => .object "RoadBoards$Line"
  | 1 => .array .int
  | _ => .array .int
abbrev wsX40 : List Cond := u_ws RX4 TX4 3
theorem nmX4 : ∀ a, a < 3 → ∀ b, b < 3 → a ≠ b → (TX4 a).2.1 ≠ (TX4 b).2.1 := by decide +kernel
theorem tyX4_ok : ∀ k, k < 3 → parseFieldDescriptor (TX4 k).2.2.1 = some (tyX4 k) := by decide +kernel
abbrev cX4_init : ByteArray := prog_6_method_1_code
def yX4_init : MethodName := ⟨RX4, "<init>", "()V"⟩
abbrev cX4_sellFor : ByteArray := prog_6_method_2_code
def yX4_sellFor : MethodName := ⟨RX4, "sellFor", "(LRoadBoards$Sale;I)V"⟩
abbrev cX4_sellOn : ByteArray := prog_6_method_3_code
def yX4_sellOn : MethodName := ⟨RX4, "sellOn", "(LRoadBoards$Sale;I)V"⟩
abbrev cX4_lineUpLeft : ByteArray := prog_6_method_4_code
def yX4_lineUpLeft : MethodName := ⟨RX4, "lineUpLeft", "(LRoadBoards$Sale;)V"⟩
abbrev cX4_firstWhoCannotPay : ByteArray := prog_6_method_5_code
def yX4_firstWhoCannotPay : MethodName := ⟨RX4, "firstWhoCannotPay", "()I"⟩
def RX5 : String := "RoadBoards$Reader"
def TX5 : u_T := fun k => match k with
  | 0 => ("RoadBoards$Reader", "made", "LRoadBoards$Sale;", true)
  | 1 => ("RoadBoards$Reader", "fault", "I", false)
  | 2 => ("RoadBoards$Reader", "place", "I", false)
  | 3 => ("RoadBoards$Reader", "lines", "I", false)
  | 4 => ("RoadBoards$Reader", "kinds", "[I", true)
  | 5 => ("RoadBoards$Reader", "starts", "[I", true)
  | 6 => ("RoadBoards$Reader", "numbers", "[I", true)
  | 7 => ("RoadBoards$Reader", "tokens", "I", false)
  | _ => ("RoadBoards$Reader", "at", "I", false)
def tyX5 : Nat → FieldType := fun k => match k with
  | 0 => .object "RoadBoards$Sale"
  | 1 => .int
  | 2 => .int
  | 3 => .int
  | 4 => .array .int
  | 5 => .array .int
  | 6 => .array .int
  | 7 => .int
  | _ => .int
abbrev wsX50 : List Cond := u_ws RX5 TX5 9
theorem nmX5 : ∀ a, a < 9 → ∀ b, b < 9 → a ≠ b → (TX5 a).2.1 ≠ (TX5 b).2.1 := by decide +kernel
theorem tyX5_ok : ∀ k, k < 9 → parseFieldDescriptor (TX5 k).2.2.1 = some (tyX5 k) := by decide +kernel
abbrev cX5_init : ByteArray := prog_7_method_1_code
def yX5_init : MethodName := ⟨RX5, "<init>", "()V"⟩
abbrev cX5_readText : ByteArray := prog_7_method_2_code
def yX5_readText : MethodName := ⟨RX5, "readText", "(LRoadBoards$State;)V"⟩
abbrev cX5_scanTokens : ByteArray := prog_7_method_3_code
def yX5_scanTokens : MethodName := ⟨RX5, "scanTokens", "(LRoadBoards$State;)V"⟩
abbrev cX5_addToken : ByteArray := prog_7_method_4_code
def yX5_addToken : MethodName := ⟨RX5, "addToken", "(LRoadBoards$State;III)V"⟩
abbrev cX5_kindOf : ByteArray := prog_7_method_5_code
def yX5_kindOf : MethodName := ⟨RX5, "kindOf", "(I)I"⟩
abbrev cX5_wordOf : ByteArray := prog_7_method_6_code
def yX5_wordOf : MethodName := ⟨RX5, "wordOf", "(LRoadBoards$State;II)I"⟩
abbrev cX5_spells : ByteArray := prog_7_method_7_code
def yX5_spells : MethodName := ⟨RX5, "spells", "(LRoadBoards$State;III)Z"⟩
abbrev cX5_readLine : ByteArray := prog_7_method_8_code
def yX5_readLine : MethodName := ⟨RX5, "readLine", "()V"⟩
abbrev cX5_readBoard : ByteArray := prog_7_method_9_code
def yX5_readBoard : MethodName := ⟨RX5, "readBoard", "(I)V"⟩
abbrev cX5_readBidder : ByteArray := prog_7_method_10_code
def yX5_readBidder : MethodName := ⟨RX5, "readBidder", "(I)V"⟩
abbrev cX5_readOfBidder : ByteArray := prog_7_method_11_code
def yX5_readOfBidder : MethodName := ⟨RX5, "readOfBidder", "([III)V"⟩
abbrev cX5_readExtra : ByteArray := prog_7_method_12_code
def yX5_readExtra : MethodName := ⟨RX5, "readExtra", "()V"⟩
abbrev cX5_readSort : ByteArray := prog_7_method_13_code
def yX5_readSort : MethodName := ⟨RX5, "readSort", "(I)V"⟩
abbrev cX5_readFriend : ByteArray := prog_7_method_14_code
def yX5_readFriend : MethodName := ⟨RX5, "readFriend", "()V"⟩
abbrev cX5_readFoe : ByteArray := prog_7_method_15_code
def yX5_readFoe : MethodName := ⟨RX5, "readFoe", "()V"⟩
abbrev cX5_readWay : ByteArray := prog_7_method_16_code
def yX5_readWay : MethodName := ⟨RX5, "readWay", "()V"⟩
abbrev cX5_readBar : ByteArray := prog_7_method_17_code
def yX5_readBar : MethodName := ⟨RX5, "readBar", "()V"⟩
abbrev cX5_takeBidder : ByteArray := prog_7_method_18_code
def yX5_takeBidder : MethodName := ⟨RX5, "takeBidder", "()I"⟩
abbrev cX5_takeOther : ByteArray := prog_7_method_19_code
def yX5_takeOther : MethodName := ⟨RX5, "takeOther", "(I)I"⟩
abbrev cX5_takeAmount : ByteArray := prog_7_method_20_code
def yX5_takeAmount : MethodName := ⟨RX5, "takeAmount", "()I"⟩
abbrev cX5_takeNumber : ByteArray := prog_7_method_21_code
def yX5_takeNumber : MethodName := ⟨RX5, "takeNumber", "(II)I"⟩
abbrev cX5_takeStop : ByteArray := prog_7_method_22_code
def yX5_takeStop : MethodName := ⟨RX5, "takeStop", "()V"⟩
abbrev cX5_goOn : ByteArray := prog_7_method_23_code
def yX5_goOn : MethodName := ⟨RX5, "goOn", "()V"⟩
abbrev cX5_note : ByteArray := prog_7_method_24_code
def yX5_note : MethodName := ⟨RX5, "note", "(II)V"⟩
abbrev cX5_stumble : ByteArray := prog_7_method_25_code
def yX5_stumble : MethodName := ⟨RX5, "stumble", "(I)V"⟩
def RX6 : String := "RoadBoards$Replier"
def TX6 : u_T := fun k => match k with
  | 0 => ("RoadBoards$Replier", "line", "LRoadBoards$Line;", true)
  | 1 => ("RoadBoards$Replier", "bids", "[I", true)
  | 2 => ("RoadBoards$Replier", "past", "[I", true)
  | 3 => ("RoadBoards$Replier", "reply", "I", false)
  | 4 => ("RoadBoards$Replier", "rounds", "I", false)
  | 5 => ("RoadBoards$Replier", "ending", "I", false)
  | 6 => ("RoadBoards$Replier", "pairGain", "I", false)
  | 7 => ("RoadBoards$Replier", "pairLesser", "I", false)
  | _ => ("RoadBoards$Replier", "pairOther", "I", false)
def tyX6 : Nat → FieldType := fun k => match k with
  | 0 => .object "RoadBoards$Line"
  | 1 => .array .int
  | 2 => .array .int
  | 3 => .int
  | 4 => .int
  | 5 => .int
  | 6 => .int
  | 7 => .int
  | _ => .int
abbrev wsX60 : List Cond := u_ws RX6 TX6 9
theorem nmX6 : ∀ a, a < 9 → ∀ b, b < 9 → a ≠ b → (TX6 a).2.1 ≠ (TX6 b).2.1 := by decide +kernel
theorem tyX6_ok : ∀ k, k < 9 → parseFieldDescriptor (TX6 k).2.2.1 = some (tyX6 k) := by decide +kernel
abbrev cX6_init : ByteArray := prog_8_method_1_code
def yX6_init : MethodName := ⟨RX6, "<init>", "()V"⟩
abbrev cX6_lookAt : ByteArray := prog_8_method_2_code
def yX6_lookAt : MethodName := ⟨RX6, "lookAt", "(LRoadBoards$Sale;)V"⟩
abbrev cX6_seekReply : ByteArray := prog_8_method_3_code
def yX6_seekReply : MethodName := ⟨RX6, "seekReply", "(LRoadBoards$Sale;II)Z"⟩
abbrev cX6_gainNow : ByteArray := prog_8_method_4_code
def yX6_gainNow : MethodName := ⟨RX6, "gainNow", "(LRoadBoards$Sale;I)I"⟩
abbrev cX6_firstRestless : ByteArray := prog_8_method_5_code
def yX6_firstRestless : MethodName := ⟨RX6, "firstRestless", "(LRoadBoards$Sale;I)I"⟩
abbrev cX6_takeTurns : ByteArray := prog_8_method_6_code
def yX6_takeTurns : MethodName := ⟨RX6, "takeTurns", "(LRoadBoards$Sale;)V"⟩
abbrev cX6_somebodyReplies : ByteArray := prog_8_method_7_code
def yX6_somebodyReplies : MethodName := ⟨RX6, "somebodyReplies", "(LRoadBoards$Sale;)Z"⟩
abbrev cX6_isAsBefore : ByteArray := prog_8_method_8_code
def yX6_isAsBefore : MethodName := ⟨RX6, "isAsBefore", "()Z"⟩
abbrev cX6_seekRests : ByteArray := prog_8_method_9_code
def yX6_seekRests : MethodName := ⟨RX6, "seekRests", "(LRoadBoards$Sale;II)I"⟩
abbrev cX6_nextRow : ByteArray := prog_8_method_10_code
def yX6_nextRow : MethodName := ⟨RX6, "nextRow", "(LRoadBoards$Sale;I)Z"⟩
abbrev cX6_bidAsOne : ByteArray := prog_8_method_11_code
def yX6_bidAsOne : MethodName := ⟨RX6, "bidAsOne", "(LRoadBoards$Sale;II)V"⟩
abbrev cX6_bidBeside : ByteArray := prog_8_method_12_code
def yX6_bidBeside : MethodName := ⟨RX6, "bidBeside", "(LRoadBoards$Sale;II)V"⟩
abbrev cX6_noteGain : ByteArray := prog_8_method_13_code
def yX6_noteGain : MethodName := ⟨RX6, "noteGain", "(LRoadBoards$Sale;III)V"⟩
def RX7 : String := "RoadBoards$Sale"
def TX7 : u_T := fun k => match k with
  | 0 => ("RoadBoards$Sale", "boards", "I", false)
  | 1 => ("RoadBoards$Sale", "bidders", "I", false)
  | 2 => ("RoadBoards$Sale", "way", "I", false)
  | 3 => ("RoadBoards$Sale", "bar", "I", false)
  | 4 => ("RoadBoards$Sale", "pass", "[I", true)
  | 5 => ("RoadBoards$Sale", "price", "[I", true)
  | 6 => ("RoadBoards$Sale", "value", "[I", true)
  | 7 => ("RoadBoards$Sale", "bid", "[I", true)
  | 8 => ("RoadBoards$Sale", "mark", "[I", true)
  | 9 => ("RoadBoards$Sale", "purse", "[I", true)
  | 10 => ("RoadBoards$Sale", "sorts", "[I", true)
  | 11 => ("RoadBoards$Sale", "sortValue", "[I", true)
  | 12 => ("RoadBoards$Sale", "sortChance", "[I", true)
  | 13 => ("RoadBoards$Sale", "extra", "[I", true)
  | 14 => ("RoadBoards$Sale", "friend", "[I", true)
  | _ => ("RoadBoards$Sale", "foe", "[I", true)
def tyX7 : Nat → FieldType := fun k => match k with
  | 0 => .int
  | 1 => .int
  | 2 => .int
  | 3 => .int
  | 4 => .array .int
  | 5 => .array .int
  | 6 => .array .int
  | 7 => .array .int
  | 8 => .array .int
  | 9 => .array .int
  | 10 => .array .int
  | 11 => .array .int
  | 12 => .array .int
  | 13 => .array .int
  | 14 => .array .int
  | _ => .array .int
abbrev wsX70 : List Cond := u_ws RX7 TX7 16
theorem nmX7 : ∀ a, a < 16 → ∀ b, b < 16 → a ≠ b → (TX7 a).2.1 ≠ (TX7 b).2.1 := by decide +kernel
theorem tyX7_ok : ∀ k, k < 16 → parseFieldDescriptor (TX7 k).2.2.1 = some (tyX7 k) := by decide +kernel
abbrev cX7_init : ByteArray := prog_9_method_1_code
def yX7_init : MethodName := ⟨RX7, "<init>", "()V"⟩
abbrev cX7_clearSale : ByteArray := prog_9_method_2_code
def yX7_clearSale : MethodName := ⟨RX7, "clearSale", "()V"⟩
abbrev cX7_copySale : ByteArray := prog_9_method_3_code
def yX7_copySale : MethodName := ⟨RX7, "copySale", "(LRoadBoards$Sale;)V"⟩
abbrev cX7_hasBoard : ByteArray := prog_9_method_4_code
def yX7_hasBoard : MethodName := ⟨RX7, "hasBoard", "(I)Z"⟩
abbrev cX7_hasBidder : ByteArray := prog_9_method_5_code
def yX7_hasBidder : MethodName := ⟨RX7, "hasBidder", "(I)Z"⟩
abbrev cX7_worthTo : ByteArray := prog_9_method_6_code
def yX7_worthTo : MethodName := ⟨RX7, "worthTo", "(II)I"⟩
abbrev cX7_worthBy : ByteArray := prog_9_method_7_code
def yX7_worthBy : MethodName := ⟨RX7, "worthBy", "(III)I"⟩
def RX8 : String := "RoadBoards$State"
def TX8 : u_T := fun k => match k with
  | 0 => ("RoadBoards$State", "tape", "[B", true)
  | 1 => ("RoadBoards$State", "length", "I", false)
  | 2 => ("RoadBoards$State", "fault", "I", false)
  | 3 => ("RoadBoards$State", "place", "I", false)
  | 4 => ("RoadBoards$State", "count", "I", false)
  | _ => ("RoadBoards$State", "sales", "[LRoadBoards$Sale;", true)
def tyX8 : Nat → FieldType := fun k => match k with
  | 0 => .array .byte
  | 1 => .int
  | 2 => .int
  | 3 => .int
  | 4 => .int
  | _ => .array (.object "RoadBoards$Sale")
abbrev wsX80 : List Cond := u_ws RX8 TX8 6
theorem nmX8 : ∀ a, a < 6 → ∀ b, b < 6 → a ≠ b → (TX8 a).2.1 ≠ (TX8 b).2.1 := by decide +kernel
theorem tyX8_ok : ∀ k, k < 6 → parseFieldDescriptor (TX8 k).2.2.1 = some (tyX8 k) := by decide +kernel
abbrev cX8_init : ByteArray := prog_10_method_1_code
def yX8_init : MethodName := ⟨RX8, "<init>", "()V"⟩
abbrev cX8_addBytes : ByteArray := prog_10_method_2_code
def yX8_addBytes : MethodName := ⟨RX8, "addBytes", "(I)V"⟩
abbrev cX8_copyState : ByteArray := prog_10_method_3_code
def yX8_copyState : MethodName := ⟨RX8, "copyState", "(LRoadBoards$State;)V"⟩
def RX9 : String := "RoadBoards"
def TX9 : u_T := fun k => match k with
  | 0 => ("RoadBoards", "now", "LRoadBoards$State;", true)
  | 1 => ("RoadBoards", "images", "[LRoadBoards$State;", true)
  | 2 => ("RoadBoards", "kept", "[Z", true)
  | 3 => ("RoadBoards", "reader", "LRoadBoards$Reader;", true)
  | 4 => ("RoadBoards", "line", "LRoadBoards$Line;", true)
  | 5 => ("RoadBoards", "replier", "LRoadBoards$Replier;", true)
  | 6 => ("RoadBoards", "match", "LRoadBoards$Match;", true)
  | 7 => ("RoadBoards", "chances", "LRoadBoards$Chances;", true)
  | 8 => ("RoadBoards", "purses", "LRoadBoards$Purses;", true)
  | _ => ("RoadBoards", "climber", "LRoadBoards$Climber;", true)
def tyX9 : Nat → FieldType := fun k => match k with
  | 0 => .object "RoadBoards$State"
  | 1 => .array (.object "RoadBoards$State")
  | 2 => .array .boolean
  | 3 => .object "RoadBoards$Reader"
  | 4 => .object "RoadBoards$Line"
  | 5 => .object "RoadBoards$Replier"
  | 6 => .object "RoadBoards$Match"
  | 7 => .object "RoadBoards$Chances"
  | 8 => .object "RoadBoards$Purses"
  | _ => .object "RoadBoards$Climber"
abbrev wsX90 : List Cond := u_ws RX9 TX9 10
theorem nmX9 : ∀ a, a < 10 → ∀ b, b < 10 → a ≠ b → (TX9 a).2.1 ≠ (TX9 b).2.1 := by decide +kernel
theorem tyX9_ok : ∀ k, k < 10 → parseFieldDescriptor (TX9 k).2.2.1 = some (tyX9 k) := by decide +kernel
abbrev cX9_init : ByteArray := prog_1_method_1_code
def yX9_init : MethodName := ⟨RX9, "<init>", "()V"⟩
abbrev cX9_feed : ByteArray := prog_1_method_2_code
def yX9_feed : MethodName := ⟨RX9, "feed", "(IIIII)I"⟩
abbrev cX9_end : ByteArray := prog_1_method_3_code
def yX9_end : MethodName := ⟨RX9, "end", "(I)I"⟩
abbrev cX9_sale : ByteArray := prog_1_method_4_code
def yX9_sale : MethodName := ⟨RX9, "sale", "(I)I"⟩
abbrev cX9_fault : ByteArray := prog_1_method_5_code
def yX9_fault : MethodName := ⟨RX9, "fault", "(I)I"⟩
abbrev cX9_about : ByteArray := prog_1_method_6_code
def yX9_about : MethodName := ⟨RX9, "about", "(II)I"⟩
abbrev cX9_worth : ByteArray := prog_1_method_7_code
def yX9_worth : MethodName := ⟨RX9, "worth", "(III)I"⟩
abbrev cX9_bid : ByteArray := prog_1_method_8_code
def yX9_bid : MethodName := ⟨RX9, "bid", "(III)Z"⟩
abbrev cX9_rule : ByteArray := prog_1_method_9_code
def yX9_rule : MethodName := ⟨RX9, "rule", "(III)Z"⟩
abbrev cX9_stands : ByteArray := prog_1_method_10_code
def yX9_stands : MethodName := ⟨RX9, "stands", "(II)I"⟩
abbrev cX9_pay : ByteArray := prog_1_method_11_code
def yX9_pay : MethodName := ⟨RX9, "pay", "(IIZ)I"⟩
abbrev cX9_take : ByteArray := prog_1_method_12_code
def yX9_take : MethodName := ⟨RX9, "take", "(I)I"⟩
abbrev cX9_rather : ByteArray := prog_1_method_13_code
def yX9_rather : MethodName := ⟨RX9, "rather", "(IZ)I"⟩
abbrev cX9_reply : ByteArray := prog_1_method_14_code
def yX9_reply : MethodName := ⟨RX9, "reply", "(II)I"⟩
abbrev cX9_restless : ByteArray := prog_1_method_15_code
def yX9_restless : MethodName := ⟨RX9, "restless", "(I)I"⟩
abbrev cX9_replies : ByteArray := prog_1_method_16_code
def yX9_replies : MethodName := ⟨RX9, "replies", "(II)I"⟩
abbrev cX9_rests : ByteArray := prog_1_method_17_code
def yX9_rests : MethodName := ⟨RX9, "rests", "(II)I"⟩
abbrev cX9_rest : ByteArray := prog_1_method_18_code
def yX9_rest : MethodName := ⟨RX9, "rest", "(IIII)I"⟩
abbrev cX9_best : ByteArray := prog_1_method_19_code
def yX9_best : MethodName := ⟨RX9, "best", "(II)I"⟩
abbrev cX9_even : ByteArray := prog_1_method_20_code
def yX9_even : MethodName := ⟨RX9, "even", "(IIZ)I"⟩
abbrev cX9_truly : ByteArray := prog_1_method_21_code
def yX9_truly : MethodName := ⟨RX9, "truly", "(II)I"⟩
abbrev cX9_price : ByteArray := prog_1_method_22_code
def yX9_price : MethodName := ⟨RX9, "price", "(III)Z"⟩
abbrev cX9_judged : ByteArray := prog_1_method_23_code
def yX9_judged : MethodName := ⟨RX9, "judged", "(I)I"⟩
abbrev cX9_parts : ByteArray := prog_1_method_24_code
def yX9_parts : MethodName := ⟨RX9, "parts", "(I)J"⟩
abbrev cX9_taken : ByteArray := prog_1_method_25_code
def yX9_taken : MethodName := ⟨RX9, "taken", "(II)J"⟩
abbrev cX9_high : ByteArray := prog_1_method_26_code
def yX9_high : MethodName := ⟨RX9, "high", "(I)I"⟩
abbrev cX9_day : ByteArray := prog_1_method_27_code
def yX9_day : MethodName := ⟨RX9, "day", "(III)I"⟩
abbrev cX9_spent : ByteArray := prog_1_method_28_code
def yX9_spent : MethodName := ⟨RX9, "spent", "(II)I"⟩
abbrev cX9_beside : ByteArray := prog_1_method_29_code
def yX9_beside : MethodName := ⟨RX9, "beside", "(II)I"⟩
abbrev cX9_come : ByteArray := prog_1_method_30_code
def yX9_come : MethodName := ⟨RX9, "come", "(III)I"⟩
abbrev cX9_spared : ByteArray := prog_1_method_31_code
def yX9_spared : MethodName := ⟨RX9, "spared", "(II)I"⟩
abbrev cX9_breaks : ByteArray := prog_1_method_32_code
def yX9_breaks : MethodName := ⟨RX9, "breaks", "(I)I"⟩
abbrev cX9_mark : ByteArray := prog_1_method_33_code
def yX9_mark : MethodName := ⟨RX9, "mark", "(II)I"⟩
abbrev cX9_without : ByteArray := prog_1_method_34_code
def yX9_without : MethodName := ⟨RX9, "without", "(II)I"⟩
abbrev cX9_guess : ByteArray := prog_1_method_35_code
def yX9_guess : MethodName := ⟨RX9, "guess", "(IIZ)J"⟩
abbrev cX9_pair : ByteArray := prog_1_method_36_code
def yX9_pair : MethodName := ⟨RX9, "pair", "(IIII)I"⟩
abbrev cX9_tells : ByteArray := prog_1_method_37_code
def yX9_tells : MethodName := ⟨RX9, "tells", "(IIIZ)I"⟩
abbrev cX9_climb : ByteArray := prog_1_method_38_code
def yX9_climb : MethodName := ⟨RX9, "climb", "(III)I"⟩
abbrev cX9_climbs : ByteArray := prog_1_method_39_code
def yX9_climbs : MethodName := ⟨RX9, "climbs", "(I)I"⟩
abbrev cX9_count : ByteArray := prog_1_method_40_code
def yX9_count : MethodName := ⟨RX9, "count", "()I"⟩
abbrev cX9_image : ByteArray := prog_1_method_41_code
def yX9_image : MethodName := ⟨RX9, "image", "(I)Z"⟩
abbrev cX9_again : ByteArray := prog_1_method_42_code
def yX9_again : MethodName := ⟨RX9, "again", "(I)Z"⟩
abbrev cX9_saleAt : ByteArray := prog_1_method_43_code
def yX9_saleAt : MethodName := ⟨RX9, "saleAt", "(I)LRoadBoards$Sale;"⟩
abbrev cX9_aboutAll : ByteArray := prog_1_method_44_code
def yX9_aboutAll : MethodName := ⟨RX9, "aboutAll", "(LRoadBoards$Sale;I)I"⟩
abbrev cX9_isFew : ByteArray := prog_1_method_45_code
def yX9_isFew : MethodName := ⟨RX9, "isFew", "(LRoadBoards$Sale;I)Z"⟩
abbrev cX9_upToTop : ByteArray := prog_1_method_46_code
def yX9_upToTop : MethodName := ⟨RX9, "upToTop", "(I)Z"⟩
abbrev cX9_behind : ByteArray := prog_1_method_47_code
def yX9_behind : MethodName := ⟨RX9, "behind", "(III)I"⟩
def RX10 : String := "RoadBoardsModel"
def TX10 : u_T := fun k => match k with
  | 0 => ("RoadBoardsModel", "all", "[I", true)
  | 1 => ("RoadBoardsModel", "has", "[Z", true)
  | 2 => ("RoadBoardsModel", "size", "I", false)
  | 3 => ("RoadBoardsModel", "next", "I", false)
  | 4 => ("RoadBoardsModel", "where", "I", false)
  | 5 => ("RoadBoardsModel", "token", "I", false)
  | 6 => ("RoadBoardsModel", "number", "I", false)
  | 7 => ("RoadBoardsModel", "word", "I", false)
  | 8 => ("RoadBoardsModel", "wrong", "Z", false)
  | 9 => ("RoadBoardsModel", "lines", "I", false)
  | 10 => ("RoadBoardsModel", "read", "[I", true)
  | 11 => ("RoadBoardsModel", "good", "Z", false)
  | 12 => ("RoadBoardsModel", "base", "I", false)
  | 13 => ("RoadBoardsModel", "boards", "I", false)
  | 14 => ("RoadBoardsModel", "bidders", "I", false)
  | 15 => ("RoadBoardsModel", "bids", "[I", true)
  | 16 => ("RoadBoardsModel", "marks", "[I", true)
  | 17 => ("RoadBoardsModel", "out", "[Z", true)
  | 18 => ("RoadBoardsModel", "many", "I", false)
  | 19 => ("RoadBoardsModel", "order", "[I", true)
  | 20 => ("RoadBoardsModel", "pays", "[I", true)
  | 21 => ("RoadBoardsModel", "teller", "I", false)
  | 22 => ("RoadBoardsModel", "telling", "I", false)
  | 23 => ("RoadBoardsModel", "bestGain", "I", false)
  | 24 => ("RoadBoardsModel", "before", "[I", true)
  | 25 => ("RoadBoardsModel", "rounds", "I", false)
  | 26 => ("RoadBoardsModel", "ended", "I", false)
  | 27 => ("RoadBoardsModel", "found", "[I", true)
  | 28 => ("RoadBoardsModel", "rows", "I", false)
  | 29 => ("RoadBoardsModel", "rowOf", "[I", true)
  | 30 => ("RoadBoardsModel", "most", "[I", true)
  | 31 => ("RoadBoardsModel", "bestRow", "[I", true)
  | 32 => ("RoadBoardsModel", "bestAll", "I", false)
  | 33 => ("RoadBoardsModel", "purse", "[I", true)
  | 34 => ("RoadBoardsModel", "outOn", "[I", true)
  | 35 => ("RoadBoardsModel", "beside", "[I", true)
  | 36 => ("RoadBoardsModel", "was", "[I", true)
  | 37 => ("RoadBoardsModel", "guessGain", "J", false)
  | 38 => ("RoadBoardsModel", "climbed", "[I", true)
  | _ => ("RoadBoardsModel", "wants", "[I", true)
def tyX10 : Nat → FieldType := fun k => match k with
  | 0 => .array .int
  | 1 => .array .boolean
  | 2 => .int
  | 3 => .int
  | 4 => .int
  | 5 => .int
  | 6 => .int
  | 7 => .int
  | 8 => .boolean
  | 9 => .int
  | 10 => .array .int
  | 11 => .boolean
  | 12 => .int
  | 13 => .int
  | 14 => .int
  | 15 => .array .int
  | 16 => .array .int
  | 17 => .array .boolean
  | 18 => .int
  | 19 => .array .int
  | 20 => .array .int
  | 21 => .int
  | 22 => .int
  | 23 => .int
  | 24 => .array .int
  | 25 => .int
  | 26 => .int
  | 27 => .array .int
  | 28 => .int
  | 29 => .array .int
  | 30 => .array .int
  | 31 => .array .int
  | 32 => .int
  | 33 => .array .int
  | 34 => .array .int
  | 35 => .array .int
  | 36 => .array .int
  | 37 => .long
  | 38 => .array .int
  | _ => .array .int
abbrev wsX100 : List Cond := u_ws RX10 TX10 40
theorem nmX10 : ∀ a, a < 40 → ∀ b, b < 40 → a ≠ b → (TX10 a).2.1 ≠ (TX10 b).2.1 := by decide +kernel
theorem tyX10_ok : ∀ k, k < 40 → parseFieldDescriptor (TX10 k).2.2.1 = some (tyX10 k) := by decide +kernel
abbrev cX10_init : ByteArray := prog_12_method_1_code
def yX10_init : MethodName := ⟨RX10, "<init>", "()V"⟩
abbrev cX10_isIn : ByteArray := prog_12_method_2_code
def yX10_isIn : MethodName := ⟨RX10, "isIn", "(III)Z"⟩
abbrev cX10_feed : ByteArray := prog_12_method_3_code
def yX10_feed : MethodName := ⟨RX10, "feed", "(IIIII)I"⟩
abbrev cX10_end : ByteArray := prog_12_method_4_code
def yX10_end : MethodName := ⟨RX10, "end", "(I)I"⟩
abbrev cX10_byteAt : ByteArray := prog_12_method_5_code
def yX10_byteAt : MethodName := ⟨RX10, "byteAt", "(I)I"⟩
abbrev cX10_isLetter : ByteArray := prog_12_method_6_code
def yX10_isLetter : MethodName := ⟨RX10, "isLetter", "(I)Z"⟩
abbrev cX10_isDigit : ByteArray := prog_12_method_7_code
def yX10_isDigit : MethodName := ⟨RX10, "isDigit", "(I)Z"⟩
abbrev cX10_three : ByteArray := prog_12_method_8_code
def yX10_three : MethodName := ⟨RX10, "three", "(III)J"⟩
abbrev cX10_four : ByteArray := prog_12_method_9_code
def yX10_four : MethodName := ⟨RX10, "four", "(IIII)J"⟩
abbrev cX10_five : ByteArray := prog_12_method_10_code
def yX10_five : MethodName := ⟨RX10, "five", "(IIIII)J"⟩
abbrev cX10_wordOf : ByteArray := prog_12_method_11_code
def yX10_wordOf : MethodName := ⟨RX10, "wordOf", "(J)I"⟩
abbrev cX10_advance : ByteArray := prog_12_method_12_code
def yX10_advance : MethodName := ⟨RX10, "advance", "()V"⟩
abbrev cX10_ends : ByteArray := prog_12_method_13_code
def yX10_ends : MethodName := ⟨RX10, "ends", "()V"⟩
abbrev cX10_also : ByteArray := prog_12_method_14_code
def yX10_also : MethodName := ⟨RX10, "also", "(II)V"⟩
abbrev cX10_numbered : ByteArray := prog_12_method_15_code
def yX10_numbered : MethodName := ⟨RX10, "numbered", "(II)I"⟩
abbrev cX10_oneBidder : ByteArray := prog_12_method_16_code
def yX10_oneBidder : MethodName := ⟨RX10, "oneBidder", "()I"⟩
abbrev cX10_twoBidders : ByteArray := prog_12_method_17_code
def yX10_twoBidders : MethodName := ⟨RX10, "twoBidders", "()I"⟩
abbrev cX10_moreOrLess : ByteArray := prog_12_method_18_code
def yX10_moreOrLess : MethodName := ⟨RX10, "moreOrLess", "()I"⟩
abbrev cX10_aBoard : ByteArray := prog_12_method_19_code
def yX10_aBoard : MethodName := ⟨RX10, "aBoard", "(I)V"⟩
abbrev cX10_aBidder : ByteArray := prog_12_method_20_code
def yX10_aBidder : MethodName := ⟨RX10, "aBidder", "(I)V"⟩
abbrev cX10_aSort : ByteArray := prog_12_method_21_code
def yX10_aSort : MethodName := ⟨RX10, "aSort", "(I)V"⟩
abbrev cX10_aLine : ByteArray := prog_12_method_22_code
def yX10_aLine : MethodName := ⟨RX10, "aLine", "()V"⟩
abbrev cX10_sale : ByteArray := prog_12_method_23_code
def yX10_sale : MethodName := ⟨RX10, "sale", "(I)I"⟩
abbrev cX10_fault : ByteArray := prog_12_method_24_code
def yX10_fault : MethodName := ⟨RX10, "fault", "(I)I"⟩
abbrev cX10_of : ByteArray := prog_12_method_25_code
def yX10_of : MethodName := ⟨RX10, "of", "(I)I"⟩
abbrev cX10_isSale : ByteArray := prog_12_method_26_code
def yX10_isSale : MethodName := ⟨RX10, "isSale", "(I)Z"⟩
abbrev cX10_takes : ByteArray := prog_12_method_27_code
def yX10_takes : MethodName := ⟨RX10, "takes", "()V"⟩
abbrev cX10_takesSale : ByteArray := prog_12_method_28_code
def yX10_takesSale : MethodName := ⟨RX10, "takesSale", "(I)Z"⟩
abbrev cX10_isBidder : ByteArray := prog_12_method_29_code
def yX10_isBidder : MethodName := ⟨RX10, "isBidder", "(I)Z"⟩
abbrev cX10_isBoard : ByteArray := prog_12_method_30_code
def yX10_isBoard : MethodName := ⟨RX10, "isBoard", "(I)Z"⟩
abbrev cX10_score : ByteArray := prog_12_method_31_code
def yX10_score : MethodName := ⟨RX10, "score", "(I)I"⟩
abbrev cX10_up : ByteArray := prog_12_method_32_code
def yX10_up : MethodName := ⟨RX10, "up", "(II)I"⟩
abbrev cX10_greater : ByteArray := prog_12_method_33_code
def yX10_greater : MethodName := ⟨RX10, "greater", "(II)I"⟩
abbrev cX10_passOf : ByteArray := prog_12_method_34_code
def yX10_passOf : MethodName := ⟨RX10, "passOf", "(I)I"⟩
abbrev cX10_lays : ByteArray := prog_12_method_35_code
def yX10_lays : MethodName := ⟨RX10, "lays", "(II)V"⟩
abbrev cX10_payOf : ByteArray := prog_12_method_36_code
def yX10_payOf : MethodName := ⟨RX10, "payOf", "(II)I"⟩
abbrev cX10_placeOf : ByteArray := prog_12_method_37_code
def yX10_placeOf : MethodName := ⟨RX10, "placeOf", "(I)I"⟩
abbrev cX10_worthBy : ByteArray := prog_12_method_38_code
def yX10_worthBy : MethodName := ⟨RX10, "worthBy", "(III)I"⟩
abbrev cX10_worthOf : ByteArray := prog_12_method_39_code
def yX10_worthOf : MethodName := ⟨RX10, "worthOf", "(II)I"⟩
abbrev cX10_gainOf : ByteArray := prog_12_method_40_code
def yX10_gainOf : MethodName := ⟨RX10, "gainOf", "(I)I"⟩
abbrev cX10_laid : ByteArray := prog_12_method_41_code
def yX10_laid : MethodName := ⟨RX10, "laid", "(I)Z"⟩
abbrev cX10_about : ByteArray := prog_12_method_42_code
def yX10_about : MethodName := ⟨RX10, "about", "(II)I"⟩
abbrev cX10_worth : ByteArray := prog_12_method_43_code
def yX10_worth : MethodName := ⟨RX10, "worth", "(III)I"⟩
abbrev cX10_bid : ByteArray := prog_12_method_44_code
def yX10_bid : MethodName := ⟨RX10, "bid", "(III)Z"⟩
abbrev cX10_rule : ByteArray := prog_12_method_45_code
def yX10_rule : MethodName := ⟨RX10, "rule", "(III)Z"⟩
abbrev cX10_stands : ByteArray := prog_12_method_46_code
def yX10_stands : MethodName := ⟨RX10, "stands", "(II)I"⟩
abbrev cX10_pay : ByteArray := prog_12_method_47_code
def yX10_pay : MethodName := ⟨RX10, "pay", "(IIZ)I"⟩
abbrev cX10_takeNow : ByteArray := prog_12_method_48_code
def yX10_takeNow : MethodName := ⟨RX10, "takeNow", "()I"⟩
abbrev cX10_take : ByteArray := prog_12_method_49_code
def yX10_take : MethodName := ⟨RX10, "take", "(I)I"⟩
abbrev cX10_rather : ByteArray := prog_12_method_50_code
def yX10_rather : MethodName := ⟨RX10, "rather", "(IZ)I"⟩
abbrev cX10_replyOf : ByteArray := prog_12_method_51_code
def yX10_replyOf : MethodName := ⟨RX10, "replyOf", "(II)I"⟩
abbrev cX10_reply : ByteArray := prog_12_method_52_code
def yX10_reply : MethodName := ⟨RX10, "reply", "(II)I"⟩
abbrev cX10_restless : ByteArray := prog_12_method_53_code
def yX10_restless : MethodName := ⟨RX10, "restless", "(I)I"⟩
abbrev cX10_isAsBefore : ByteArray := prog_12_method_54_code
def yX10_isAsBefore : MethodName := ⟨RX10, "isAsBefore", "(I)Z"⟩
abbrev cX10_turnsNow : ByteArray := prog_12_method_55_code
def yX10_turnsNow : MethodName := ⟨RX10, "turnsNow", "()V"⟩
abbrev cX10_replies : ByteArray := prog_12_method_56_code
def yX10_replies : MethodName := ⟨RX10, "replies", "(II)I"⟩
abbrev cX10_isRest : ByteArray := prog_12_method_57_code
def yX10_isRest : MethodName := ⟨RX10, "isRest", "(I)Z"⟩
abbrev cX10_restsUpTo : ByteArray := prog_12_method_58_code
def yX10_restsUpTo : MethodName := ⟨RX10, "restsUpTo", "(II)I"⟩
abbrev cX10_isFew : ByteArray := prog_12_method_59_code
def yX10_isFew : MethodName := ⟨RX10, "isFew", "(II)Z"⟩
abbrev cX10_rests : ByteArray := prog_12_method_60_code
def yX10_rests : MethodName := ⟨RX10, "rests", "(II)I"⟩
abbrev cX10_rest : ByteArray := prog_12_method_61_code
def yX10_rest : MethodName := ⟨RX10, "rest", "(IIII)I"⟩
abbrev cX10_allRows : ByteArray := prog_12_method_62_code
def yX10_allRows : MethodName := ⟨RX10, "allRows", "()V"⟩
abbrev cX10_mostOf : ByteArray := prog_12_method_63_code
def yX10_mostOf : MethodName := ⟨RX10, "mostOf", "(I)I"⟩
abbrev cX10_bestNow : ByteArray := prog_12_method_64_code
def yX10_bestNow : MethodName := ⟨RX10, "bestNow", "()V"⟩
abbrev cX10_bestPlace : ByteArray := prog_12_method_65_code
def yX10_bestPlace : MethodName := ⟨RX10, "bestPlace", "(I)I"⟩
abbrev cX10_best : ByteArray := prog_12_method_66_code
def yX10_best : MethodName := ⟨RX10, "best", "(II)I"⟩
abbrev cX10_even : ByteArray := prog_12_method_67_code
def yX10_even : MethodName := ⟨RX10, "even", "(IIZ)I"⟩
abbrev cX10_truly : ByteArray := prog_12_method_68_code
def yX10_truly : MethodName := ⟨RX10, "truly", "(II)I"⟩
abbrev cX10_price : ByteArray := prog_12_method_69_code
def yX10_price : MethodName := ⟨RX10, "price", "(III)Z"⟩
abbrev cX10_judged : ByteArray := prog_12_method_70_code
def yX10_judged : MethodName := ⟨RX10, "judged", "(I)I"⟩
abbrev cX10_partsNow : ByteArray := prog_12_method_71_code
def yX10_partsNow : MethodName := ⟨RX10, "partsNow", "()J"⟩
abbrev cX10_parts : ByteArray := prog_12_method_72_code
def yX10_parts : MethodName := ⟨RX10, "parts", "(I)J"⟩
abbrev cX10_takenBy : ByteArray := prog_12_method_73_code
def yX10_takenBy : MethodName := ⟨RX10, "takenBy", "(I)J"⟩
abbrev cX10_taken : ByteArray := prog_12_method_74_code
def yX10_taken : MethodName := ⟨RX10, "taken", "(II)J"⟩
abbrev cX10_high : ByteArray := prog_12_method_75_code
def yX10_high : MethodName := ⟨RX10, "high", "(I)I"⟩
abbrev cX10_daysNow : ByteArray := prog_12_method_76_code
def yX10_daysNow : MethodName := ⟨RX10, "daysNow", "(I)V"⟩
abbrev cX10_day : ByteArray := prog_12_method_77_code
def yX10_day : MethodName := ⟨RX10, "day", "(III)I"⟩
abbrev cX10_spent : ByteArray := prog_12_method_78_code
def yX10_spent : MethodName := ⟨RX10, "spent", "(II)I"⟩
abbrev cX10_stepTo : ByteArray := prog_12_method_79_code
def yX10_stepTo : MethodName := ⟨RX10, "stepTo", "(IIII)I"⟩
abbrev cX10_besideNow : ByteArray := prog_12_method_80_code
def yX10_besideNow : MethodName := ⟨RX10, "besideNow", "()V"⟩
abbrev cX10_besideAt : ByteArray := prog_12_method_81_code
def yX10_besideAt : MethodName := ⟨RX10, "besideAt", "(I)I"⟩
abbrev cX10_beside : ByteArray := prog_12_method_82_code
def yX10_beside : MethodName := ⟨RX10, "beside", "(II)I"⟩
abbrev cX10_come : ByteArray := prog_12_method_83_code
def yX10_come : MethodName := ⟨RX10, "come", "(III)I"⟩
abbrev cX10_sparedOf : ByteArray := prog_12_method_84_code
def yX10_sparedOf : MethodName := ⟨RX10, "sparedOf", "(I)I"⟩
abbrev cX10_spared : ByteArray := prog_12_method_85_code
def yX10_spared : MethodName := ⟨RX10, "spared", "(II)I"⟩
abbrev cX10_breaks : ByteArray := prog_12_method_86_code
def yX10_breaks : MethodName := ⟨RX10, "breaks", "(I)I"⟩
abbrev cX10_mark : ByteArray := prog_12_method_87_code
def yX10_mark : MethodName := ⟨RX10, "mark", "(II)I"⟩
abbrev cX10_without : ByteArray := prog_12_method_88_code
def yX10_without : MethodName := ⟨RX10, "without", "(II)I"⟩
abbrev cX10_gainBy : ByteArray := prog_12_method_89_code
def yX10_gainBy : MethodName := ⟨RX10, "gainBy", "(II)J"⟩
abbrev cX10_guess : ByteArray := prog_12_method_90_code
def yX10_guess : MethodName := ⟨RX10, "guess", "(IIZ)J"⟩
abbrev cX10_pair : ByteArray := prog_12_method_91_code
def yX10_pair : MethodName := ⟨RX10, "pair", "(IIII)I"⟩
abbrev cX10_tells : ByteArray := prog_12_method_92_code
def yX10_tells : MethodName := ⟨RX10, "tells", "(IIIZ)I"⟩
abbrev cX10_wishes : ByteArray := prog_12_method_93_code
def yX10_wishes : MethodName := ⟨RX10, "wishes", "()V"⟩
abbrev cX10_ones : ByteArray := prog_12_method_94_code
def yX10_ones : MethodName := ⟨RX10, "ones", "(I)I"⟩
abbrev cX10_crowded : ByteArray := prog_12_method_95_code
def yX10_crowded : MethodName := ⟨RX10, "crowded", "()I"⟩
abbrev cX10_climbsBy : ByteArray := prog_12_method_96_code
def yX10_climbsBy : MethodName := ⟨RX10, "climbsBy", "(I)I"⟩
abbrev cX10_climb : ByteArray := prog_12_method_97_code
def yX10_climb : MethodName := ⟨RX10, "climb", "(III)I"⟩
abbrev cX10_climbs : ByteArray := prog_12_method_98_code
def yX10_climbs : MethodName := ⟨RX10, "climbs", "(I)I"⟩
abbrev cX10_count : ByteArray := prog_12_method_99_code
def yX10_count : MethodName := ⟨RX10, "count", "()I"⟩
abbrev cX10_image : ByteArray := prog_12_method_100_code
def yX10_image : MethodName := ⟨RX10, "image", "(I)Z"⟩
abbrev cX10_again : ByteArray := prog_12_method_101_code
def yX10_again : MethodName := ⟨RX10, "again", "(I)Z"⟩
def RJ6 : String := "java/lang/Integer"
def TJ6 : u_T := fun k => match k with
  | _ => ("", "", "", false)
def tyJ6 : Nat → FieldType := fun k => match k with
  | _ => .int
abbrev wsJ60 : List Cond := u_ws RJ6 TJ6 0
theorem nmJ6 : ∀ a, a < 0 → ∀ b, b < 0 → a ≠ b → (TJ6 a).2.1 ≠ (TJ6 b).2.1 := by decide +kernel
theorem tyJ6_ok : ∀ k, k < 0 → parseFieldDescriptor (TJ6 k).2.2.1 = some (tyJ6 k) := by decide +kernel
abbrev cJ6_bitCount_0f7a4 : ByteArray := prog_13_method_49_code
def yJ6_bitCount_0f7a4 : MethodName := ⟨RJ6, "bitCount", "(I)I"⟩
def RJ9 : String := "java/lang/Math"
def TJ9 : u_T := fun k => match k with
  | _ => ("", "", "", false)
def tyJ9 : Nat → FieldType := fun k => match k with
  | _ => .int
abbrev wsJ90 : List Cond := u_ws RJ9 TJ9 0
theorem nmJ9 : ∀ a, a < 0 → ∀ b, b < 0 → a ≠ b → (TJ9 a).2.1 ≠ (TJ9 b).2.1 := by decide +kernel
theorem tyJ9_ok : ∀ k, k < 0 → parseFieldDescriptor (TJ9 k).2.2.1 = some (tyJ9 k) := by decide +kernel
abbrev cJ9_max_7cf53 : ByteArray := prog_14_method_65_code
def yJ9_max_7cf53 : MethodName := ⟨RJ9, "max", "(II)I"⟩
abbrev cJ9_min_7cf53 : ByteArray := prog_14_method_69_code
def yJ9_min_7cf53 : MethodName := ⟨RJ9, "min", "(II)I"⟩
def RJ0 : String := "java/lang/String"
def TJ0 : u_T := fun k => match k with
  | _ => ("", "", "", false)
def tyJ0 : Nat → FieldType := fun k => match k with
  | _ => .int
abbrev wsJ00 : List Cond := u_ws RJ0 TJ0 0
theorem nmJ0 : ∀ a, a < 0 → ∀ b, b < 0 → a ≠ b → (TJ0 a).2.1 ≠ (TJ0 b).2.1 := by decide +kernel
theorem tyJ0_ok : ∀ k, k < 0 → parseFieldDescriptor (TJ0 k).2.2.1 = some (tyJ0 k) := by decide +kernel
abbrev cJ0_length_8abf5 : ByteArray := prog_15_method_54_code
def yJ0_length_8abf5 : MethodName := ⟨RJ0, "length", "()I"⟩
abbrev cJ0_charAt_5068e : ByteArray := prog_15_method_56_code
def yJ0_charAt_5068e : MethodName := ⟨RJ0, "charAt", "(I)C"⟩
abbrev cJ0_coder_7d493 : ByteArray := prog_15_method_152_code
def yJ0_coder_7d493 : MethodName := ⟨RJ0, "coder", "()B"⟩
abbrev cJ0_isLatin1_aae02 : ByteArray := prog_15_method_154_code
def yJ0_isLatin1_aae02 : MethodName := ⟨RJ0, "isLatin1", "()Z"⟩
abbrev cJ0_checkIndex_df160 : ByteArray := prog_15_method_155_code
def yJ0_checkIndex_df160 : MethodName := ⟨RJ0, "checkIndex", "(II)V"⟩
def RJ1 : String := "java/lang/StringLatin1"
def TJ1 : u_T := fun k => match k with
  | _ => ("", "", "", false)
def tyJ1 : Nat → FieldType := fun k => match k with
  | _ => .int
abbrev wsJ10 : List Cond := u_ws RJ1 TJ1 0
theorem nmJ1 : ∀ a, a < 0 → ∀ b, b < 0 → a ≠ b → (TJ1 a).2.1 ≠ (TJ1 b).2.1 := by decide +kernel
theorem tyJ1_ok : ∀ k, k < 0 → parseFieldDescriptor (TJ1 k).2.2.1 = some (tyJ1 k) := by decide +kernel
abbrev cJ1_charAt_3b067 : ByteArray := prog_16_method_2_code
def yJ1_charAt_3b067 : MethodName := ⟨RJ1, "charAt", "([BI)C"⟩
def RJ2 : String := "java/lang/StringUTF16"
def TJ2 : u_T := fun k => match k with
  | _ => ("", "", "", false)
def tyJ2 : Nat → FieldType := fun k => match k with
  | _ => .int
abbrev wsJ20 : List Cond := u_ws RJ2 TJ2 0
theorem nmJ2 : ∀ a, a < 0 → ∀ b, b < 0 → a ≠ b → (TJ2 a).2.1 ≠ (TJ2 b).2.1 := by decide +kernel
theorem tyJ2_ok : ∀ k, k < 0 → parseFieldDescriptor (TJ2 k).2.2.1 = some (tyJ2 k) := by decide +kernel
abbrev cJ2_getChar_3b067 : ByteArray := prog_17_method_5_code
def yJ2_getChar_3b067 : MethodName := ⟨RJ2, "getChar", "([BI)C"⟩
abbrev cJ2_length_9d52b : ByteArray := prog_17_method_6_code
def yJ2_length_9d52b : MethodName := ⟨RJ2, "length", "([B)I"⟩
abbrev cJ2_charAt_3b067 : ByteArray := prog_17_method_83_code
def yJ2_charAt_3b067 : MethodName := ⟨RJ2, "charAt", "([BI)C"⟩
abbrev cJ2_checkIndex_2214a : ByteArray := prog_17_method_91_code
def yJ2_checkIndex_2214a : MethodName := ⟨RJ2, "checkIndex", "(I[B)V"⟩
def RJ10 : String := "java/lang/System"
def TJ10 : u_T := fun k => match k with
  | _ => ("", "", "", false)
def tyJ10 : Nat → FieldType := fun k => match k with
  | _ => .int
abbrev wsJ100 : List Cond := u_ws RJ10 TJ10 0
theorem nmJ10 : ∀ a, a < 0 → ∀ b, b < 0 → a ≠ b → (TJ10 a).2.1 ≠ (TJ10 b).2.1 := by decide +kernel
theorem tyJ10_ok : ∀ k, k < 0 → parseFieldDescriptor (TJ10 k).2.2.1 = some (tyJ10 k) := by decide +kernel
def RJ3 : String := "jdk/internal/util/Preconditions"
def TJ3 : u_T := fun k => match k with
  | _ => ("", "", "", false)
def tyJ3 : Nat → FieldType := fun k => match k with
  | _ => .int
abbrev wsJ30 : List Cond := u_ws RJ3 TJ3 0
theorem nmJ3 : ∀ a, a < 0 → ∀ b, b < 0 → a ≠ b → (TJ3 a).2.1 ≠ (TJ3 b).2.1 := by decide +kernel
theorem tyJ3_ok : ∀ k, k < 0 → parseFieldDescriptor (TJ3 k).2.2.1 = some (tyJ3 k) := by decide +kernel
abbrev cJ3_checkIndex_8e157 : ByteArray := prog_19_method_11_code
def yJ3_checkIndex_8e157 : MethodName := ⟨RJ3, "checkIndex", "(IILjava/util/function/BiFunction;)I"⟩
def RL : String := "RoadBoardsLaw"
abbrev cL_law : ByteArray := code
def yL_law : MethodName := ⟨RL, "law", "([I)Z"⟩
abbrev vwCl : List vw_C := [(RX0, TX0, 6), (RX1, TX1, 2), (RX2, TX2, 9), (RX3, TX3, 6), (RX4, TX4, 3), (RX5, TX5, 9), (RX6, TX6, 9), (RX7, TX7, 16), (RX8, TX8, 6), (RX9, TX9, 10), (RX10, TX10, 40)]
