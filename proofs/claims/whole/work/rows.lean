section
/-- a private method of a class that the tables say can be made, by its rows of tables_1 -/
def lw_okq (q : MethodName × Nat) : Prop := (q.1.cls ≠ "java/lang/invoke/MethodHandle" ∧ q.1.cls ≠ "java/lang/invoke/VarHandle") ∧ Cond.instantiable q.1.cls q.2 ∈ tables_1 ∧ Cond.privateMethod q.1 ∈ tables_1 ∧ Cond.instanceMethod q.1 ∈ tables_1
theorem lw_p0 : lw_okq (⟨"CandleIsADebt", "refuse", "(I)I"⟩, 11) := ⟨⟨by decide +kernel, by decide +kernel⟩, List.mem_of_getElem? (i := 13) (by decide +kernel), List.mem_of_getElem? (i := 183) (by decide +kernel), List.mem_of_getElem? (i := 184) (by decide +kernel)⟩
theorem lw_p1 : lw_okq (⟨"CandleIsADebt$Letters", "firstMisspelt", "()I"⟩, 2) := ⟨⟨by decide +kernel, by decide +kernel⟩, List.mem_of_getElem? (i := 99) (by decide +kernel), List.mem_of_getElem? (i := 211) (by decide +kernel), List.mem_of_getElem? (i := 212) (by decide +kernel)⟩
theorem lw_p2 : lw_okq (⟨"CandleIsADebt$Letters", "misspeltFrom", "(I)I"⟩, 2) := ⟨⟨by decide +kernel, by decide +kernel⟩, List.mem_of_getElem? (i := 99) (by decide +kernel), List.mem_of_getElem? (i := 215) (by decide +kernel), List.mem_of_getElem? (i := 216) (by decide +kernel)⟩
theorem lw_p3 : lw_okq (⟨"CandleIsADebt$Letters", "tellStatement", "(LCandleIsADebt$World;I)Z"⟩, 2) := ⟨⟨by decide +kernel, by decide +kernel⟩, List.mem_of_getElem? (i := 99) (by decide +kernel), List.mem_of_getElem? (i := 222) (by decide +kernel), List.mem_of_getElem? (i := 223) (by decide +kernel)⟩
theorem lw_p4 : lw_okq (⟨"CandleIsADebt$Letters", "digit", "(I)I"⟩, 2) := ⟨⟨by decide +kernel, by decide +kernel⟩, List.mem_of_getElem? (i := 99) (by decide +kernel), List.mem_of_getElem? (i := 226) (by decide +kernel), List.mem_of_getElem? (i := 227) (by decide +kernel)⟩
theorem lw_p5 : lw_okq (⟨"CandleIsADebt$Letters", "pair", "(I)I"⟩, 2) := ⟨⟨by decide +kernel, by decide +kernel⟩, List.mem_of_getElem? (i := 99) (by decide +kernel), List.mem_of_getElem? (i := 230) (by decide +kernel), List.mem_of_getElem? (i := 231) (by decide +kernel)⟩
theorem lw_p6 : lw_okq (⟨"CandleIsADebt", "mostOwed", "()I"⟩, 11) := ⟨⟨by decide +kernel, by decide +kernel⟩, List.mem_of_getElem? (i := 13) (by decide +kernel), List.mem_of_getElem? (i := 461) (by decide +kernel), List.mem_of_getElem? (i := 462) (by decide +kernel)⟩
theorem lw_p7 : lw_okq (⟨"CandleIsADebt", "debtor", "()I"⟩, 11) := ⟨⟨by decide +kernel, by decide +kernel⟩, List.mem_of_getElem? (i := 13) (by decide +kernel), List.mem_of_getElem? (i := 466) (by decide +kernel), List.mem_of_getElem? (i := 467) (by decide +kernel)⟩
theorem lw_p8 : lw_okq (⟨"CandleIsADebt$WayFinder", "shortestAt", "(IIII)I"⟩, 3) := ⟨⟨by decide +kernel, by decide +kernel⟩, List.mem_of_getElem? (i := 113) (by decide +kernel), List.mem_of_getElem? (i := 480) (by decide +kernel), List.mem_of_getElem? (i := 481) (by decide +kernel)⟩
theorem lw_p9 : lw_okq (⟨"CandleIsADebt$WayFinder", "openCells", "(I)J"⟩, 3) := ⟨⟨by decide +kernel, by decide +kernel⟩, List.mem_of_getElem? (i := 113) (by decide +kernel), List.mem_of_getElem? (i := 485) (by decide +kernel), List.mem_of_getElem? (i := 486) (by decide +kernel)⟩
theorem lw_p10 : lw_okq (⟨"CandleIsADebt$Round", "nextDoor", "(LCandleIsADebt$World;II)I"⟩, 2) := ⟨⟨by decide +kernel, by decide +kernel⟩, List.mem_of_getElem? (i := 131) (by decide +kernel), List.mem_of_getElem? (i := 508) (by decide +kernel), List.mem_of_getElem? (i := 509) (by decide +kernel)⟩
theorem lw_p11 : lw_okq (⟨"CandleIsADebt$Round", "stepsBy", "(LCandleIsADebt$World;III)I"⟩, 2) := ⟨⟨by decide +kernel, by decide +kernel⟩, List.mem_of_getElem? (i := 131) (by decide +kernel), List.mem_of_getElem? (i := 512) (by decide +kernel), List.mem_of_getElem? (i := 513) (by decide +kernel)⟩
theorem lw_p12 : lw_okq (⟨"CandleIsADebt", "debtless", "()I"⟩, 11) := ⟨⟨by decide +kernel, by decide +kernel⟩, List.mem_of_getElem? (i := 13) (by decide +kernel), List.mem_of_getElem? (i := 556) (by decide +kernel), List.mem_of_getElem? (i := 557) (by decide +kernel)⟩
theorem lw_p13 : lw_okq (⟨"CandleIsADebt", "owedByOne", "()I"⟩, 11) := ⟨⟨by decide +kernel, by decide +kernel⟩, List.mem_of_getElem? (i := 13) (by decide +kernel), List.mem_of_getElem? (i := 560) (by decide +kernel), List.mem_of_getElem? (i := 561) (by decide +kernel)⟩
theorem lw_p14 : lw_okq (⟨"CandleIsADebt", "fittingKinds", "(II)I"⟩, 11) := ⟨⟨by decide +kernel, by decide +kernel⟩, List.mem_of_getElem? (i := 13) (by decide +kernel), List.mem_of_getElem? (i := 568) (by decide +kernel), List.mem_of_getElem? (i := 569) (by decide +kernel)⟩
theorem lw_p15 : lw_okq (⟨"CandleIsADebt", "fitsNumbers", "(II)Z"⟩, 11) := ⟨⟨by decide +kernel, by decide +kernel⟩, List.mem_of_getElem? (i := 13) (by decide +kernel), List.mem_of_getElem? (i := 572) (by decide +kernel), List.mem_of_getElem? (i := 573) (by decide +kernel)⟩
def lw_privs_1 : List (MethodName × Nat) := [(⟨"CandleIsADebt", "refuse", "(I)I"⟩, 11), (⟨"CandleIsADebt$Letters", "firstMisspelt", "()I"⟩, 2), (⟨"CandleIsADebt$Letters", "misspeltFrom", "(I)I"⟩, 2), (⟨"CandleIsADebt$Letters", "tellStatement", "(LCandleIsADebt$World;I)Z"⟩, 2), (⟨"CandleIsADebt$Letters", "digit", "(I)I"⟩, 2), (⟨"CandleIsADebt$Letters", "pair", "(I)I"⟩, 2), (⟨"CandleIsADebt", "mostOwed", "()I"⟩, 11), (⟨"CandleIsADebt", "debtor", "()I"⟩, 11), (⟨"CandleIsADebt$WayFinder", "shortestAt", "(IIII)I"⟩, 3), (⟨"CandleIsADebt$WayFinder", "openCells", "(I)J"⟩, 3), (⟨"CandleIsADebt$Round", "nextDoor", "(LCandleIsADebt$World;II)I"⟩, 2), (⟨"CandleIsADebt$Round", "stepsBy", "(LCandleIsADebt$World;III)I"⟩, 2), (⟨"CandleIsADebt", "debtless", "()I"⟩, 11), (⟨"CandleIsADebt", "owedByOne", "()I"⟩, 11), (⟨"CandleIsADebt", "fittingKinds", "(II)I"⟩, 11), (⟨"CandleIsADebt", "fitsNumbers", "(II)Z"⟩, 11)]
theorem lw_r1 : ∀ q ∈ lw_privs_1, lw_okq q := List.forall_mem_cons.mpr ⟨lw_p0, List.forall_mem_cons.mpr ⟨lw_p1, List.forall_mem_cons.mpr ⟨lw_p2, List.forall_mem_cons.mpr ⟨lw_p3, List.forall_mem_cons.mpr ⟨lw_p4, List.forall_mem_cons.mpr ⟨lw_p5, List.forall_mem_cons.mpr ⟨lw_p6, List.forall_mem_cons.mpr ⟨lw_p7, List.forall_mem_cons.mpr ⟨lw_p8, List.forall_mem_cons.mpr ⟨lw_p9, List.forall_mem_cons.mpr ⟨lw_p10, List.forall_mem_cons.mpr ⟨lw_p11, List.forall_mem_cons.mpr ⟨lw_p12, List.forall_mem_cons.mpr ⟨lw_p13, List.forall_mem_cons.mpr ⟨lw_p14, List.forall_mem_cons.mpr ⟨lw_p15, fun _ h => absurd h List.not_mem_nil⟩⟩⟩⟩⟩⟩⟩⟩⟩⟩⟩⟩⟩⟩⟩⟩
theorem lw_p16 : lw_okq (⟨"CandleIsADebt", "fittingFigures", "(II)I"⟩, 11) := ⟨⟨by decide +kernel, by decide +kernel⟩, List.mem_of_getElem? (i := 13) (by decide +kernel), List.mem_of_getElem? (i := 576) (by decide +kernel), List.mem_of_getElem? (i := 577) (by decide +kernel)⟩
theorem lw_p17 : lw_okq (⟨"CandleIsADebt", "bestShutter", "(II)I"⟩, 11) := ⟨⟨by decide +kernel, by decide +kernel⟩, List.mem_of_getElem? (i := 13) (by decide +kernel), List.mem_of_getElem? (i := 584) (by decide +kernel), List.mem_of_getElem? (i := 585) (by decide +kernel)⟩
theorem lw_p18 : lw_okq (⟨"CandleIsADebt", "refuseLong", "(I)J"⟩, 11) := ⟨⟨by decide +kernel, by decide +kernel⟩, List.mem_of_getElem? (i := 13) (by decide +kernel), List.mem_of_getElem? (i := 592) (by decide +kernel), List.mem_of_getElem? (i := 593) (by decide +kernel)⟩
theorem lw_p19 : lw_okq (⟨"CandleIsADebt", "highestAge", "()I"⟩, 11) := ⟨⟨by decide +kernel, by decide +kernel⟩, List.mem_of_getElem? (i := 13) (by decide +kernel), List.mem_of_getElem? (i := 605) (by decide +kernel), List.mem_of_getElem? (i := 606) (by decide +kernel)⟩
theorem lw_p20 : lw_okq (⟨"CandleIsADebt", "longestOwing", "()I"⟩, 11) := ⟨⟨by decide +kernel, by decide +kernel⟩, List.mem_of_getElem? (i := 13) (by decide +kernel), List.mem_of_getElem? (i := 617) (by decide +kernel), List.mem_of_getElem? (i := 618) (by decide +kernel)⟩
theorem lw_p21 : lw_okq (⟨"CandleIsADebt", "lane", "()I"⟩, 11) := ⟨⟨by decide +kernel, by decide +kernel⟩, List.mem_of_getElem? (i := 13) (by decide +kernel), List.mem_of_getElem? (i := 621) (by decide +kernel), List.mem_of_getElem? (i := 622) (by decide +kernel)⟩
theorem lw_p22 : lw_okq (⟨"CandleIsADebt", "eveningsOfNewDebts", "()J"⟩, 11) := ⟨⟨by decide +kernel, by decide +kernel⟩, List.mem_of_getElem? (i := 13) (by decide +kernel), List.mem_of_getElem? (i := 645) (by decide +kernel), List.mem_of_getElem? (i := 646) (by decide +kernel)⟩
theorem lw_p23 : lw_okq (⟨"CandleIsADebtModel", "refuse", "(I)I"⟩, 39) := ⟨⟨by decide +kernel, by decide +kernel⟩, List.mem_of_getElem? (i := 698) (by decide +kernel), List.mem_of_getElem? (i := 826) (by decide +kernel), List.mem_of_getElem? (i := 827) (by decide +kernel)⟩
theorem lw_p24 : lw_okq (⟨"CandleIsADebtModel", "readStatement", "()V"⟩, 39) := ⟨⟨by decide +kernel, by decide +kernel⟩, List.mem_of_getElem? (i := 698) (by decide +kernel), List.mem_of_getElem? (i := 834) (by decide +kernel), List.mem_of_getElem? (i := 835) (by decide +kernel)⟩
theorem lw_p25 : lw_okq (⟨"CandleIsADebtModel", "here", "()I"⟩, 39) := ⟨⟨by decide +kernel, by decide +kernel⟩, List.mem_of_getElem? (i := 698) (by decide +kernel), List.mem_of_getElem? (i := 838) (by decide +kernel), List.mem_of_getElem? (i := 839) (by decide +kernel)⟩
theorem lw_p26 : lw_okq (⟨"CandleIsADebtModel", "readNumbers", "(II)V"⟩, 39) := ⟨⟨by decide +kernel, by decide +kernel⟩, List.mem_of_getElem? (i := 698) (by decide +kernel), List.mem_of_getElem? (i := 845) (by decide +kernel), List.mem_of_getElem? (i := 846) (by decide +kernel)⟩
theorem lw_p27 : lw_okq (⟨"CandleIsADebtModel", "readDigits", "(I)I"⟩, 39) := ⟨⟨by decide +kernel, by decide +kernel⟩, List.mem_of_getElem? (i := 698) (by decide +kernel), List.mem_of_getElem? (i := 849) (by decide +kernel), List.mem_of_getElem? (i := 850) (by decide +kernel)⟩
theorem lw_p28 : lw_okq (⟨"CandleIsADebtModel", "think", "()V"⟩, 39) := ⟨⟨by decide +kernel, by decide +kernel⟩, List.mem_of_getElem? (i := 698) (by decide +kernel), List.mem_of_getElem? (i := 858) (by decide +kernel), List.mem_of_getElem? (i := 859) (by decide +kernel)⟩
theorem lw_p29 : lw_okq (⟨"CandleIsADebtModel", "carryAll", "([IZ)V"⟩, 39) := ⟨⟨by decide +kernel, by decide +kernel⟩, List.mem_of_getElem? (i := 698) (by decide +kernel), List.mem_of_getElem? (i := 862) (by decide +kernel), List.mem_of_getElem? (i := 863) (by decide +kernel)⟩
theorem lw_p30 : lw_okq (⟨"CandleIsADebtModel", "carry", "(I)I"⟩, 39) := ⟨⟨by decide +kernel, by decide +kernel⟩, List.mem_of_getElem? (i := 698) (by decide +kernel), List.mem_of_getElem? (i := 866) (by decide +kernel), List.mem_of_getElem? (i := 867) (by decide +kernel)⟩
theorem lw_p31 : lw_okq (⟨"CandleIsADebtModel", "comesTold", "(I)Z"⟩, 39) := ⟨⟨by decide +kernel, by decide +kernel⟩, List.mem_of_getElem? (i := 698) (by decide +kernel), List.mem_of_getElem? (i := 870) (by decide +kernel), List.mem_of_getElem? (i := 871) (by decide +kernel)⟩
def lw_privs_2 : List (MethodName × Nat) := [(⟨"CandleIsADebt", "fittingFigures", "(II)I"⟩, 11), (⟨"CandleIsADebt", "bestShutter", "(II)I"⟩, 11), (⟨"CandleIsADebt", "refuseLong", "(I)J"⟩, 11), (⟨"CandleIsADebt", "highestAge", "()I"⟩, 11), (⟨"CandleIsADebt", "longestOwing", "()I"⟩, 11), (⟨"CandleIsADebt", "lane", "()I"⟩, 11), (⟨"CandleIsADebt", "eveningsOfNewDebts", "()J"⟩, 11), (⟨"CandleIsADebtModel", "refuse", "(I)I"⟩, 39), (⟨"CandleIsADebtModel", "readStatement", "()V"⟩, 39), (⟨"CandleIsADebtModel", "here", "()I"⟩, 39), (⟨"CandleIsADebtModel", "readNumbers", "(II)V"⟩, 39), (⟨"CandleIsADebtModel", "readDigits", "(I)I"⟩, 39), (⟨"CandleIsADebtModel", "think", "()V"⟩, 39), (⟨"CandleIsADebtModel", "carryAll", "([IZ)V"⟩, 39), (⟨"CandleIsADebtModel", "carry", "(I)I"⟩, 39), (⟨"CandleIsADebtModel", "comesTold", "(I)Z"⟩, 39)]
theorem lw_r2 : ∀ q ∈ lw_privs_2, lw_okq q := List.forall_mem_cons.mpr ⟨lw_p16, List.forall_mem_cons.mpr ⟨lw_p17, List.forall_mem_cons.mpr ⟨lw_p18, List.forall_mem_cons.mpr ⟨lw_p19, List.forall_mem_cons.mpr ⟨lw_p20, List.forall_mem_cons.mpr ⟨lw_p21, List.forall_mem_cons.mpr ⟨lw_p22, List.forall_mem_cons.mpr ⟨lw_p23, List.forall_mem_cons.mpr ⟨lw_p24, List.forall_mem_cons.mpr ⟨lw_p25, List.forall_mem_cons.mpr ⟨lw_p26, List.forall_mem_cons.mpr ⟨lw_p27, List.forall_mem_cons.mpr ⟨lw_p28, List.forall_mem_cons.mpr ⟨lw_p29, List.forall_mem_cons.mpr ⟨lw_p30, List.forall_mem_cons.mpr ⟨lw_p31, fun _ h => absurd h List.not_mem_nil⟩⟩⟩⟩⟩⟩⟩⟩⟩⟩⟩⟩⟩⟩⟩⟩
theorem lw_p32 : lw_okq (⟨"CandleIsADebtModel", "houseComes", "(III)Z"⟩, 39) := ⟨⟨by decide +kernel, by decide +kernel⟩, List.mem_of_getElem? (i := 698) (by decide +kernel), List.mem_of_getElem? (i := 874) (by decide +kernel), List.mem_of_getElem? (i := 875) (by decide +kernel)⟩
theorem lw_p33 : lw_okq (⟨"CandleIsADebtModel", "walkerComes", "(III)Z"⟩, 39) := ⟨⟨by decide +kernel, by decide +kernel⟩, List.mem_of_getElem? (i := 698) (by decide +kernel), List.mem_of_getElem? (i := 881) (by decide +kernel), List.mem_of_getElem? (i := 882) (by decide +kernel)⟩
theorem lw_p34 : lw_okq (⟨"CandleIsADebtModel", "isHouse", "(I)Z"⟩, 39) := ⟨⟨by decide +kernel, by decide +kernel⟩, List.mem_of_getElem? (i := 698) (by decide +kernel), List.mem_of_getElem? (i := 885) (by decide +kernel), List.mem_of_getElem? (i := 886) (by decide +kernel)⟩
theorem lw_p35 : lw_okq (⟨"CandleIsADebtModel", "isWalker", "(I)Z"⟩, 39) := ⟨⟨by decide +kernel, by decide +kernel⟩, List.mem_of_getElem? (i := 698) (by decide +kernel), List.mem_of_getElem? (i := 889) (by decide +kernel), List.mem_of_getElem? (i := 890) (by decide +kernel)⟩
theorem lw_p36 : lw_okq (⟨"CandleIsADebtModel", "goEvenings", "(I)V"⟩, 39) := ⟨⟨by decide +kernel, by decide +kernel⟩, List.mem_of_getElem? (i := 698) (by decide +kernel), List.mem_of_getElem? (i := 894) (by decide +kernel), List.mem_of_getElem? (i := 895) (by decide +kernel)⟩
theorem lw_p37 : lw_okq (⟨"CandleIsADebtModel", "eveningBy", "(Z)V"⟩, 39) := ⟨⟨by decide +kernel, by decide +kernel⟩, List.mem_of_getElem? (i := 698) (by decide +kernel), List.mem_of_getElem? (i := 898) (by decide +kernel), List.mem_of_getElem? (i := 899) (by decide +kernel)⟩
theorem lw_p38 : lw_okq (⟨"CandleIsADebtModel", "seenFrom", "(II)I"⟩, 39) := ⟨⟨by decide +kernel, by decide +kernel⟩, List.mem_of_getElem? (i := 698) (by decide +kernel), List.mem_of_getElem? (i := 905) (by decide +kernel), List.mem_of_getElem? (i := 906) (by decide +kernel)⟩
theorem lw_p39 : lw_okq (⟨"CandleIsADebtModel", "canSee", "(III)Z"⟩, 39) := ⟨⟨by decide +kernel, by decide +kernel⟩, List.mem_of_getElem? (i := 698) (by decide +kernel), List.mem_of_getElem? (i := 909) (by decide +kernel), List.mem_of_getElem? (i := 910) (by decide +kernel)⟩
theorem lw_p40 : lw_okq (⟨"CandleIsADebtModel", "reachOf", "(I)I"⟩, 39) := ⟨⟨by decide +kernel, by decide +kernel⟩, List.mem_of_getElem? (i := 698) (by decide +kernel), List.mem_of_getElem? (i := 913) (by decide +kernel), List.mem_of_getElem? (i := 914) (by decide +kernel)⟩
theorem lw_p41 : lw_okq (⟨"CandleIsADebtModel", "again", "()V"⟩, 39) := ⟨⟨by decide +kernel, by decide +kernel⟩, List.mem_of_getElem? (i := 698) (by decide +kernel), List.mem_of_getElem? (i := 926) (by decide +kernel), List.mem_of_getElem? (i := 927) (by decide +kernel)⟩
theorem lw_p42 : lw_okq (⟨"CandleIsADebtModel", "minutesOf", "(II)I"⟩, 39) := ⟨⟨by decide +kernel, by decide +kernel⟩, List.mem_of_getElem? (i := 698) (by decide +kernel), List.mem_of_getElem? (i := 947) (by decide +kernel), List.mem_of_getElem? (i := 948) (by decide +kernel)⟩
theorem lw_p43 : lw_okq (⟨"CandleIsADebtModel", "owersOf", "(I)I"⟩, 39) := ⟨⟨by decide +kernel, by decide +kernel⟩, List.mem_of_getElem? (i := 698) (by decide +kernel), List.mem_of_getElem? (i := 951) (by decide +kernel), List.mem_of_getElem? (i := 952) (by decide +kernel)⟩
theorem lw_p44 : lw_okq (⟨"CandleIsADebtModel", "seersOf", "(I)I"⟩, 39) := ⟨⟨by decide +kernel, by decide +kernel⟩, List.mem_of_getElem? (i := 698) (by decide +kernel), List.mem_of_getElem? (i := 955) (by decide +kernel), List.mem_of_getElem? (i := 956) (by decide +kernel)⟩
theorem lw_p45 : lw_okq (⟨"CandleIsADebtModel", "owesBits", "(I)I"⟩, 39) := ⟨⟨by decide +kernel, by decide +kernel⟩, List.mem_of_getElem? (i := 698) (by decide +kernel), List.mem_of_getElem? (i := 964) (by decide +kernel), List.mem_of_getElem? (i := 965) (by decide +kernel)⟩
theorem lw_p46 : lw_okq (⟨"CandleIsADebtModel", "priceOf", "(I)I"⟩, 39) := ⟨⟨by decide +kernel, by decide +kernel⟩, List.mem_of_getElem? (i := 698) (by decide +kernel), List.mem_of_getElem? (i := 968) (by decide +kernel), List.mem_of_getElem? (i := 969) (by decide +kernel)⟩
theorem lw_p47 : lw_okq (⟨"CandleIsADebtModel", "wrongBoth", "(II)I"⟩, 39) := ⟨⟨by decide +kernel, by decide +kernel⟩, List.mem_of_getElem? (i := 698) (by decide +kernel), List.mem_of_getElem? (i := 976) (by decide +kernel), List.mem_of_getElem? (i := 977) (by decide +kernel)⟩
def lw_privs_3 : List (MethodName × Nat) := [(⟨"CandleIsADebtModel", "houseComes", "(III)Z"⟩, 39), (⟨"CandleIsADebtModel", "walkerComes", "(III)Z"⟩, 39), (⟨"CandleIsADebtModel", "isHouse", "(I)Z"⟩, 39), (⟨"CandleIsADebtModel", "isWalker", "(I)Z"⟩, 39), (⟨"CandleIsADebtModel", "goEvenings", "(I)V"⟩, 39), (⟨"CandleIsADebtModel", "eveningBy", "(Z)V"⟩, 39), (⟨"CandleIsADebtModel", "seenFrom", "(II)I"⟩, 39), (⟨"CandleIsADebtModel", "canSee", "(III)Z"⟩, 39), (⟨"CandleIsADebtModel", "reachOf", "(I)I"⟩, 39), (⟨"CandleIsADebtModel", "again", "()V"⟩, 39), (⟨"CandleIsADebtModel", "minutesOf", "(II)I"⟩, 39), (⟨"CandleIsADebtModel", "owersOf", "(I)I"⟩, 39), (⟨"CandleIsADebtModel", "seersOf", "(I)I"⟩, 39), (⟨"CandleIsADebtModel", "owesBits", "(I)I"⟩, 39), (⟨"CandleIsADebtModel", "priceOf", "(I)I"⟩, 39), (⟨"CandleIsADebtModel", "wrongBoth", "(II)I"⟩, 39)]
theorem lw_r3 : ∀ q ∈ lw_privs_3, lw_okq q := List.forall_mem_cons.mpr ⟨lw_p32, List.forall_mem_cons.mpr ⟨lw_p33, List.forall_mem_cons.mpr ⟨lw_p34, List.forall_mem_cons.mpr ⟨lw_p35, List.forall_mem_cons.mpr ⟨lw_p36, List.forall_mem_cons.mpr ⟨lw_p37, List.forall_mem_cons.mpr ⟨lw_p38, List.forall_mem_cons.mpr ⟨lw_p39, List.forall_mem_cons.mpr ⟨lw_p40, List.forall_mem_cons.mpr ⟨lw_p41, List.forall_mem_cons.mpr ⟨lw_p42, List.forall_mem_cons.mpr ⟨lw_p43, List.forall_mem_cons.mpr ⟨lw_p44, List.forall_mem_cons.mpr ⟨lw_p45, List.forall_mem_cons.mpr ⟨lw_p46, List.forall_mem_cons.mpr ⟨lw_p47, fun _ h => absurd h List.not_mem_nil⟩⟩⟩⟩⟩⟩⟩⟩⟩⟩⟩⟩⟩⟩⟩⟩
theorem lw_p48 : lw_okq (⟨"CandleIsADebtModel", "keepTurn", "()V"⟩, 39) := ⟨⟨by decide +kernel, by decide +kernel⟩, List.mem_of_getElem? (i := 698) (by decide +kernel), List.mem_of_getElem? (i := 995) (by decide +kernel), List.mem_of_getElem? (i := 996) (by decide +kernel)⟩
theorem lw_p49 : lw_okq (⟨"CandleIsADebtModel", "allDebts", "()I"⟩, 39) := ⟨⟨by decide +kernel, by decide +kernel⟩, List.mem_of_getElem? (i := 698) (by decide +kernel), List.mem_of_getElem? (i := 1015) (by decide +kernel), List.mem_of_getElem? (i := 1016) (by decide +kernel)⟩
theorem lw_p50 : lw_okq (⟨"CandleIsADebtModel", "allPrices", "()I"⟩, 39) := ⟨⟨by decide +kernel, by decide +kernel⟩, List.mem_of_getElem? (i := 698) (by decide +kernel), List.mem_of_getElem? (i := 1033) (by decide +kernel), List.mem_of_getElem? (i := 1034) (by decide +kernel)⟩
theorem lw_p51 : lw_okq (⟨"CandleIsADebtModel", "layWays", "(I)V"⟩, 39) := ⟨⟨by decide +kernel, by decide +kernel⟩, List.mem_of_getElem? (i := 698) (by decide +kernel), List.mem_of_getElem? (i := 1053) (by decide +kernel), List.mem_of_getElem? (i := 1054) (by decide +kernel)⟩
theorem lw_p52 : lw_okq (⟨"CandleIsADebtModel", "layPaying", "()V"⟩, 39) := ⟨⟨by decide +kernel, by decide +kernel⟩, List.mem_of_getElem? (i := 698) (by decide +kernel), List.mem_of_getElem? (i := 1064) (by decide +kernel), List.mem_of_getElem? (i := 1065) (by decide +kernel)⟩
theorem lw_p53 : lw_okq (⟨"CandleIsADebtModel", "nextOn", "(II)I"⟩, 39) := ⟨⟨by decide +kernel, by decide +kernel⟩, List.mem_of_getElem? (i := 698) (by decide +kernel), List.mem_of_getElem? (i := 1068) (by decide +kernel), List.mem_of_getElem? (i := 1069) (by decide +kernel)⟩
theorem lw_p54 : lw_okq (⟨"CandleIsADebtModel", "heavyPrices", "()I"⟩, 39) := ⟨⟨by decide +kernel, by decide +kernel⟩, List.mem_of_getElem? (i := 698) (by decide +kernel), List.mem_of_getElem? (i := 1089) (by decide +kernel), List.mem_of_getElem? (i := 1090) (by decide +kernel)⟩
theorem lw_p55 : lw_okq (⟨"CandleIsADebtModel", "isRow", "(II)Z"⟩, 39) := ⟨⟨by decide +kernel, by decide +kernel⟩, List.mem_of_getElem? (i := 698) (by decide +kernel), List.mem_of_getElem? (i := 1105) (by decide +kernel), List.mem_of_getElem? (i := 1106) (by decide +kernel)⟩
theorem lw_p56 : lw_okq (⟨"CandleIsADebtModel", "oldestAge", "()I"⟩, 39) := ⟨⟨by decide +kernel, by decide +kernel⟩, List.mem_of_getElem? (i := 698) (by decide +kernel), List.mem_of_getElem? (i := 1128) (by decide +kernel), List.mem_of_getElem? (i := 1129) (by decide +kernel)⟩
theorem lw_p57 : lw_okq (⟨"CandleIsADebtModel", "oldestBy", "()I"⟩, 39) := ⟨⟨by decide +kernel, by decide +kernel⟩, List.mem_of_getElem? (i := 698) (by decide +kernel), List.mem_of_getElem? (i := 1132) (by decide +kernel), List.mem_of_getElem? (i := 1133) (by decide +kernel)⟩
theorem lw_p58 : lw_okq (⟨"CandleIsADebtModel", "laneTwos", "()I"⟩, 39) := ⟨⟨by decide +kernel, by decide +kernel⟩, List.mem_of_getElem? (i := 698) (by decide +kernel), List.mem_of_getElem? (i := 1136) (by decide +kernel), List.mem_of_getElem? (i := 1137) (by decide +kernel)⟩
theorem lw_p59 : lw_okq (⟨"CandleIsADebtModel", "darkBits", "()I"⟩, 39) := ⟨⟨by decide +kernel, by decide +kernel⟩, List.mem_of_getElem? (i := 698) (by decide +kernel), List.mem_of_getElem? (i := 1140) (by decide +kernel), List.mem_of_getElem? (i := 1141) (by decide +kernel)⟩
theorem lw_p60 : lw_okq (⟨"CandleIsADebtModel", "drawBelow", "(I)I"⟩, 39) := ⟨⟨by decide +kernel, by decide +kernel⟩, List.mem_of_getElem? (i := 698) (by decide +kernel), List.mem_of_getElem? (i := 1193) (by decide +kernel), List.mem_of_getElem? (i := 1194) (by decide +kernel)⟩
def lw_privs_4 : List (MethodName × Nat) := [(⟨"CandleIsADebtModel", "keepTurn", "()V"⟩, 39), (⟨"CandleIsADebtModel", "allDebts", "()I"⟩, 39), (⟨"CandleIsADebtModel", "allPrices", "()I"⟩, 39), (⟨"CandleIsADebtModel", "layWays", "(I)V"⟩, 39), (⟨"CandleIsADebtModel", "layPaying", "()V"⟩, 39), (⟨"CandleIsADebtModel", "nextOn", "(II)I"⟩, 39), (⟨"CandleIsADebtModel", "heavyPrices", "()I"⟩, 39), (⟨"CandleIsADebtModel", "isRow", "(II)Z"⟩, 39), (⟨"CandleIsADebtModel", "oldestAge", "()I"⟩, 39), (⟨"CandleIsADebtModel", "oldestBy", "()I"⟩, 39), (⟨"CandleIsADebtModel", "laneTwos", "()I"⟩, 39), (⟨"CandleIsADebtModel", "darkBits", "()I"⟩, 39), (⟨"CandleIsADebtModel", "drawBelow", "(I)I"⟩, 39)]
theorem lw_r4 : ∀ q ∈ lw_privs_4, lw_okq q := List.forall_mem_cons.mpr ⟨lw_p48, List.forall_mem_cons.mpr ⟨lw_p49, List.forall_mem_cons.mpr ⟨lw_p50, List.forall_mem_cons.mpr ⟨lw_p51, List.forall_mem_cons.mpr ⟨lw_p52, List.forall_mem_cons.mpr ⟨lw_p53, List.forall_mem_cons.mpr ⟨lw_p54, List.forall_mem_cons.mpr ⟨lw_p55, List.forall_mem_cons.mpr ⟨lw_p56, List.forall_mem_cons.mpr ⟨lw_p57, List.forall_mem_cons.mpr ⟨lw_p58, List.forall_mem_cons.mpr ⟨lw_p59, List.forall_mem_cons.mpr ⟨lw_p60, fun _ h => absurd h List.not_mem_nil⟩⟩⟩⟩⟩⟩⟩⟩⟩⟩⟩⟩⟩
def lw_privs : List (MethodName × Nat) := lw_privs_1 ++ (lw_privs_2 ++ (lw_privs_3 ++ (lw_privs_4)))
def lw_tbl : List Cond := k2_sels lw_privs ++ tables_1
theorem lw_privs_ok : ∀ q ∈ lw_privs, lw_okq q := by
  show ∀ q ∈ lw_privs_1 ++ (lw_privs_2 ++ (lw_privs_3 ++ (lw_privs_4))), lw_okq q
  exact List.forall_mem_append.mpr ⟨lw_r1, List.forall_mem_append.mpr ⟨lw_r2, List.forall_mem_append.mpr ⟨lw_r3, lw_r4⟩⟩⟩
end
section
def RX0 : String := "CandleIsADebt$History"
def TX0 : u_T := fun k => match k with
  | 0 => ("CandleIsADebt$History", "kept", "[LCandleIsADebt$World;", true)
  | 1 => ("CandleIsADebt$History", "next", "I", false)
  | _ => ("CandleIsADebt$History", "size", "I", false)
def tyX0 : Nat → FieldType := fun k => match k with
  | 0 => .array (.object "CandleIsADebt$World")
  | 1 => .int
  | _ => .int
abbrev wsX00 : List Cond := u_ws RX0 TX0 3
theorem nmX0 : ∀ a, a < 3 → ∀ b, b < 3 → a ≠ b → (TX0 a).2.1 ≠ (TX0 b).2.1 := by decide +kernel
theorem tyX0_ok : ∀ k, k < 3 → parseFieldDescriptor (TX0 k).2.2.1 = some (tyX0 k) := by decide +kernel
abbrev cX0_init : ByteArray := prog_2_method_1_code
def yX0_init : MethodName := ⟨RX0, "<init>", "()V"⟩
abbrev cX0_keep : ByteArray := prog_2_method_2_code
def yX0_keep : MethodName := ⟨RX0, "keep", "(LCandleIsADebt$World;)V"⟩
abbrev cX0_takeBack : ByteArray := prog_2_method_3_code
def yX0_takeBack : MethodName := ⟨RX0, "takeBack", "(LCandleIsADebt$World;)V"⟩
abbrev cX0_forget : ByteArray := prog_2_method_4_code
def yX0_forget : MethodName := ⟨RX0, "forget", "()V"⟩
def RX1 : String := "CandleIsADebt$Letters"
def TX1 : u_T := fun k => match k with
  | 0 => ("CandleIsADebt$Letters", "signs", "[I", true)
  | _ => ("CandleIsADebt$Letters", "length", "I", false)
def tyX1 : Nat → FieldType := fun k => match k with
  | 0 => .array .int
  | _ => .int
abbrev wsX10 : List Cond := u_ws RX1 TX1 2
theorem nmX1 : ∀ a, a < 2 → ∀ b, b < 2 → a ≠ b → (TX1 a).2.1 ≠ (TX1 b).2.1 := by decide +kernel
theorem tyX1_ok : ∀ k, k < 2 → parseFieldDescriptor (TX1 k).2.2.1 = some (tyX1 k) := by decide +kernel
abbrev cX1_init : ByteArray := prog_3_method_1_code
def yX1_init : MethodName := ⟨RX1, "<init>", "()V"⟩
abbrev cX1_areFull : ByteArray := prog_3_method_2_code
def yX1_areFull : MethodName := ⟨RX1, "areFull", "()Z"⟩
abbrev cX1_take : ByteArray := prog_3_method_3_code
def yX1_take : MethodName := ⟨RX1, "take", "(I)I"⟩
abbrev cX1_drop : ByteArray := prog_3_method_4_code
def yX1_drop : MethodName := ⟨RX1, "drop", "()V"⟩
abbrev cX1_tell : ByteArray := prog_3_method_5_code
def yX1_tell : MethodName := ⟨RX1, "tell", "(LCandleIsADebt$World;)I"⟩
abbrev cX1_firstMisspelt : ByteArray := prog_3_method_6_code
def yX1_firstMisspelt : MethodName := ⟨RX1, "firstMisspelt", "()I"⟩
abbrev cX1_misspeltFrom : ByteArray := prog_3_method_7_code
def yX1_misspeltFrom : MethodName := ⟨RX1, "misspeltFrom", "(I)I"⟩
abbrev cX1_digitsBehind : ByteArray := prog_3_method_8_code
def yX1_digitsBehind : MethodName := ⟨RX1, "digitsBehind", "(I)I"⟩
abbrev cX1_tellStatement : ByteArray := prog_3_method_9_code
def yX1_tellStatement : MethodName := ⟨RX1, "tellStatement", "(LCandleIsADebt$World;I)Z"⟩
abbrev cX1_digit : ByteArray := prog_3_method_10_code
def yX1_digit : MethodName := ⟨RX1, "digit", "(I)I"⟩
abbrev cX1_pair : ByteArray := prog_3_method_11_code
def yX1_pair : MethodName := ⟨RX1, "pair", "(I)I"⟩
def RX2 : String := "CandleIsADebt$Round"
def TX2 : u_T := fun k => match k with
  | 0 => ("CandleIsADebt$Round", "left", "[I", true)
  | _ => ("CandleIsADebt$Round", "all", "I", false)
def tyX2 : Nat → FieldType := fun k => match k with
  | 0 => .array .int
  | _ => .int
abbrev wsX20 : List Cond := u_ws RX2 TX2 2
theorem nmX2 : ∀ a, a < 2 → ∀ b, b < 2 → a ≠ b → (TX2 a).2.1 ≠ (TX2 b).2.1 := by decide +kernel
theorem tyX2_ok : ∀ k, k < 2 → parseFieldDescriptor (TX2 k).2.2.1 = some (tyX2 k) := by decide +kernel
abbrev cX2_init : ByteArray := prog_4_method_1_code
def yX2_init : MethodName := ⟨RX2, "<init>", "()V"⟩
abbrev cX2_plan : ByteArray := prog_4_method_2_code
def yX2_plan : MethodName := ⟨RX2, "plan", "(LCandleIsADebt$World;I)V"⟩
abbrev cX2_fewest : ByteArray := prog_4_method_3_code
def yX2_fewest : MethodName := ⟨RX2, "fewest", "(LCandleIsADebt$World;II)I"⟩
abbrev cX2_stop : ByteArray := prog_4_method_4_code
def yX2_stop : MethodName := ⟨RX2, "stop", "(LCandleIsADebt$World;II)I"⟩
abbrev cX2_nextDoor : ByteArray := prog_4_method_5_code
def yX2_nextDoor : MethodName := ⟨RX2, "nextDoor", "(LCandleIsADebt$World;II)I"⟩
abbrev cX2_stepsBy : ByteArray := prog_4_method_6_code
def yX2_stepsBy : MethodName := ⟨RX2, "stepsBy", "(LCandleIsADebt$World;III)I"⟩
def RX3 : String := "CandleIsADebt$WayFinder"
def TX3 : u_T := fun k => match k with
  | 0 => ("CandleIsADebt$WayFinder", "costs", "[I", true)
  | 1 => ("CandleIsADebt$WayFinder", "more", "I", false)
  | _ => ("CandleIsADebt$WayFinder", "length", "I", false)
def tyX3 : Nat → FieldType := fun k => match k with
  | 0 => .array .int
  | 1 => .int
  | _ => .int
abbrev wsX30 : List Cond := u_ws RX3 TX3 3
theorem nmX3 : ∀ a, a < 3 → ∀ b, b < 3 → a ≠ b → (TX3 a).2.1 ≠ (TX3 b).2.1 := by decide +kernel
theorem tyX3_ok : ∀ k, k < 3 → parseFieldDescriptor (TX3 k).2.2.1 = some (tyX3 k) := by decide +kernel
abbrev cX3_init : ByteArray := prog_5_method_1_code
def yX3_init : MethodName := ⟨RX3, "<init>", "()V"⟩
abbrev cX3_find : ByteArray := prog_5_method_2_code
def yX3_find : MethodName := ⟨RX3, "find", "(LCandleIsADebt$World;II)V"⟩
abbrev cX3_shortestAt : ByteArray := prog_5_method_3_code
def yX3_shortestAt : MethodName := ⟨RX3, "shortestAt", "(IIII)I"⟩
abbrev cX3_openCells : ByteArray := prog_5_method_4_code
def yX3_openCells : MethodName := ⟨RX3, "openCells", "(I)J"⟩
abbrev cX3_shortestOver : ByteArray := prog_5_method_5_code
def yX3_shortestOver : MethodName := ⟨RX3, "shortestOver", "(JII)I"⟩
def RX4 : String := "CandleIsADebt$World"
def TX4 : u_T := fun k => match k with
  | 0 => ("CandleIsADebt$World", "houseCount", "I", false)
  | 1 => ("CandleIsADebt$World", "kind", "[I", true)
  | 2 => ("CandleIsADebt$World", "figure", "[I", true)
  | 3 => ("CandleIsADebt$World", "cell", "[I", true)
  | 4 => ("CandleIsADebt$World", "lit", "I", false)
  | 5 => ("CandleIsADebt$World", "walkerCount", "I", false)
  | 6 => ("CandleIsADebt$World", "at", "[I", true)
  | 7 => ("CandleIsADebt$World", "goal", "[I", true)
  | 8 => ("CandleIsADebt$World", "sight", "[I", true)
  | 9 => ("CandleIsADebt$World", "debts", "[I", true)
  | _ => ("CandleIsADebt$World", "evening", "I", false)
def tyX4 : Nat → FieldType := fun k => match k with
  | 0 => .int
  | 1 => .array .int
  | 2 => .array .int
  | 3 => .array .int
  | 4 => .int
  | 5 => .int
  | 6 => .array .int
  | 7 => .array .int
  | 8 => .array .int
  | 9 => .array .int
  | _ => .int
abbrev wsX40 : List Cond := u_ws RX4 TX4 11
theorem nmX4 : ∀ a, a < 11 → ∀ b, b < 11 → a ≠ b → (TX4 a).2.1 ≠ (TX4 b).2.1 := by decide +kernel
theorem tyX4_ok : ∀ k, k < 11 → parseFieldDescriptor (TX4 k).2.2.1 = some (tyX4 k) := by decide +kernel
abbrev cX4_init : ByteArray := prog_6_method_1_code
def yX4_init : MethodName := ⟨RX4, "<init>", "()V"⟩
abbrev cX4_become : ByteArray := prog_6_method_2_code
def yX4_become : MethodName := ⟨RX4, "become", "(LCandleIsADebt$World;)V"⟩
abbrev cX4_hasHouse : ByteArray := prog_6_method_3_code
def yX4_hasHouse : MethodName := ⟨RX4, "hasHouse", "(I)Z"⟩
abbrev cX4_hasWalker : ByteArray := prog_6_method_4_code
def yX4_hasWalker : MethodName := ⟨RX4, "hasWalker", "(I)Z"⟩
abbrev cX4_isLit : ByteArray := prog_6_method_5_code
def yX4_isLit : MethodName := ⟨RX4, "isLit", "(I)Z"⟩
abbrev cX4_addHouse : ByteArray := prog_6_method_6_code
def yX4_addHouse : MethodName := ⟨RX4, "addHouse", "(III)Z"⟩
abbrev cX4_setCandle : ByteArray := prog_6_method_7_code
def yX4_setCandle : MethodName := ⟨RX4, "setCandle", "()I"⟩
abbrev cX4_addWalker : ByteArray := prog_6_method_8_code
def yX4_addWalker : MethodName := ⟨RX4, "addWalker", "(III)Z"⟩
abbrev cX4_turn : ByteArray := prog_6_method_9_code
def yX4_turn : MethodName := ⟨RX4, "turn", "(I)Z"⟩
abbrev cX4_aim : ByteArray := prog_6_method_10_code
def yX4_aim : MethodName := ⟨RX4, "aim", "(II)Z"⟩
abbrev cX4_addDebt : ByteArray := prog_6_method_11_code
def yX4_addDebt : MethodName := ⟨RX4, "addDebt", "(II)Z"⟩
abbrev cX4_pass : ByteArray := prog_6_method_12_code
def yX4_pass : MethodName := ⟨RX4, "pass", "(I)Z"⟩
abbrev cX4_setDebt : ByteArray := prog_6_method_13_code
def yX4_setDebt : MethodName := ⟨RX4, "setDebt", "(III)V"⟩
abbrev cX4_owes : ByteArray := prog_6_method_14_code
def yX4_owes : MethodName := ⟨RX4, "owes", "(II)Z"⟩
abbrev cX4_minutesOf : ByteArray := prog_6_method_15_code
def yX4_minutesOf : MethodName := ⟨RX4, "minutesOf", "(II)I"⟩
abbrev cX4_rangeOf : ByteArray := prog_6_method_16_code
def yX4_rangeOf : MethodName := ⟨RX4, "rangeOf", "(II)I"⟩
abbrev cX4_seesFrom : ByteArray := prog_6_method_17_code
def yX4_seesFrom : MethodName := ⟨RX4, "seesFrom", "(II)I"⟩
abbrev cX4_seenBy : ByteArray := prog_6_method_18_code
def yX4_seenBy : MethodName := ⟨RX4, "seenBy", "(I)I"⟩
abbrev cX4_placeBehind : ByteArray := prog_6_method_19_code
def yX4_placeBehind : MethodName := ⟨RX4, "placeBehind", "(II)I"⟩
abbrev cX4_firstSighting : ByteArray := prog_6_method_20_code
def yX4_firstSighting : MethodName := ⟨RX4, "firstSighting", "(III)I"⟩
abbrev cX4_sightings : ByteArray := prog_6_method_21_code
def yX4_sightings : MethodName := ⟨RX4, "sightings", "(III)I"⟩
abbrev cX4_ageBehind : ByteArray := prog_6_method_22_code
def yX4_ageBehind : MethodName := ⟨RX4, "ageBehind", "(III)I"⟩
abbrev cX4_minutesBehind : ByteArray := prog_6_method_23_code
def yX4_minutesBehind : MethodName := ⟨RX4, "minutesBehind", "(III)I"⟩
abbrev cX4_priceBehind : ByteArray := prog_6_method_24_code
def yX4_priceBehind : MethodName := ⟨RX4, "priceBehind", "(II)I"⟩
abbrev cX4_pricesBehind : ByteArray := prog_6_method_25_code
def yX4_pricesBehind : MethodName := ⟨RX4, "pricesBehind", "(I)I"⟩
abbrev cX4_owesBehind : ByteArray := prog_6_method_26_code
def yX4_owesBehind : MethodName := ⟨RX4, "owesBehind", "(II)I"⟩
abbrev cX4_owersBehind : ByteArray := prog_6_method_27_code
def yX4_owersBehind : MethodName := ⟨RX4, "owersBehind", "(II)I"⟩
abbrev cX4_debtsBehind : ByteArray := prog_6_method_28_code
def yX4_debtsBehind : MethodName := ⟨RX4, "debtsBehind", "(I)I"⟩
abbrev cX4_burden : ByteArray := prog_6_method_29_code
def yX4_burden : MethodName := ⟨RX4, "burden", "()I"⟩
abbrev cX4_highestAgeOf : ByteArray := prog_6_method_30_code
def yX4_highestAgeOf : MethodName := ⟨RX4, "highestAgeOf", "(I)I"⟩
def RX5 : String := "CandleIsADebt"
def TX5 : u_T := fun k => match k with
  | 0 => ("CandleIsADebt", "now", "LCandleIsADebt$World;", true)
  | 1 => ("CandleIsADebt", "mind", "LCandleIsADebt$World;", true)
  | 2 => ("CandleIsADebt", "picture", "LCandleIsADebt$World;", true)
  | 3 => ("CandleIsADebt", "pictured", "Z", false)
  | 4 => ("CandleIsADebt", "history", "LCandleIsADebt$History;", true)
  | 5 => ("CandleIsADebt", "letters", "LCandleIsADebt$Letters;", true)
  | 6 => ("CandleIsADebt", "ways", "LCandleIsADebt$WayFinder;", true)
  | 7 => ("CandleIsADebt", "round", "LCandleIsADebt$Round;", true)
  | 8 => ("CandleIsADebt", "numbers", "[I", true)
  | 9 => ("CandleIsADebt", "numberCount", "I", false)
  | _ => ("CandleIsADebt", "refusals", "[I", true)
def tyX5 : Nat → FieldType := fun k => match k with
  | 0 => .object "CandleIsADebt$World"
  | 1 => .object "CandleIsADebt$World"
  | 2 => .object "CandleIsADebt$World"
  | 3 => .boolean
  | 4 => .object "CandleIsADebt$History"
  | 5 => .object "CandleIsADebt$Letters"
  | 6 => .object "CandleIsADebt$WayFinder"
  | 7 => .object "CandleIsADebt$Round"
  | 8 => .array .int
  | 9 => .int
  | _ => .array .int
abbrev wsX50 : List Cond := u_ws RX5 TX5 11
theorem nmX5 : ∀ a, a < 11 → ∀ b, b < 11 → a ≠ b → (TX5 a).2.1 ≠ (TX5 b).2.1 := by decide +kernel
theorem tyX5_ok : ∀ k, k < 11 → parseFieldDescriptor (TX5 k).2.2.1 = some (tyX5 k) := by decide +kernel
abbrev cX5_init : ByteArray := prog_1_method_1_code
def yX5_init : MethodName := ⟨RX5, "<init>", "()V"⟩
abbrev cX5_feed : ByteArray := prog_1_method_2_code
def yX5_feed : MethodName := ⟨RX5, "feed", "(I)I"⟩
abbrev cX5_village : ByteArray := prog_1_method_3_code
def yX5_village : MethodName := ⟨RX5, "village", "()I"⟩
abbrev cX5_houseOf : ByteArray := prog_1_method_4_code
def yX5_houseOf : MethodName := ⟨RX5, "houseOf", "(II)I"⟩
abbrev cX5_walkerOf : ByteArray := prog_1_method_5_code
def yX5_walkerOf : MethodName := ⟨RX5, "walkerOf", "(II)I"⟩
abbrev cX5_age : ByteArray := prog_1_method_6_code
def yX5_age : MethodName := ⟨RX5, "age", "(II)I"⟩
abbrev cX5_house : ByteArray := prog_1_method_7_code
def yX5_house : MethodName := ⟨RX5, "house", "(III)I"⟩
abbrev cX5_walker : ByteArray := prog_1_method_8_code
def yX5_walker : MethodName := ⟨RX5, "walker", "(III)I"⟩
abbrev cX5_lights : ByteArray := prog_1_method_9_code
def yX5_lights : MethodName := ⟨RX5, "lights", "(I)I"⟩
abbrev cX5_goals : ByteArray := prog_1_method_10_code
def yX5_goals : MethodName := ⟨RX5, "goals", "(II)I"⟩
abbrev cX5_visits : ByteArray := prog_1_method_11_code
def yX5_visits : MethodName := ⟨RX5, "visits", "(II)I"⟩
abbrev cX5_trades : ByteArray := prog_1_method_12_code
def yX5_trades : MethodName := ⟨RX5, "trades", "(III)I"⟩
abbrev cX5_evenings : ByteArray := prog_1_method_13_code
def yX5_evenings : MethodName := ⟨RX5, "evenings", "(I)I"⟩
abbrev cX5_back : ByteArray := prog_1_method_14_code
def yX5_back : MethodName := ⟨RX5, "back", "()I"⟩
abbrev cX5_walkerIn : ByteArray := prog_1_method_15_code
def yX5_walkerIn : MethodName := ⟨RX5, "walkerIn", "(III)I"⟩
abbrev cX5_prices : ByteArray := prog_1_method_16_code
def yX5_prices : MethodName := ⟨RX5, "prices", "(I)I"⟩
abbrev cX5_owed : ByteArray := prog_1_method_17_code
def yX5_owed : MethodName := ⟨RX5, "owed", "(II)I"⟩
abbrev cX5_home : ByteArray := prog_1_method_18_code
def yX5_home : MethodName := ⟨RX5, "home", "(I)I"⟩
abbrev cX5_richest : ByteArray := prog_1_method_19_code
def yX5_richest : MethodName := ⟨RX5, "richest", "(I)I"⟩
abbrev cX5_way : ByteArray := prog_1_method_20_code
def yX5_way : MethodName := ⟨RX5, "way", "(III)I"⟩
abbrev cX5_payAll : ByteArray := prog_1_method_21_code
def yX5_payAll : MethodName := ⟨RX5, "payAll", "(II)I"⟩
abbrev cX5_clear : ByteArray := prog_1_method_22_code
def yX5_clear : MethodName := ⟨RX5, "clear", "(II)I"⟩
abbrev cX5_burn : ByteArray := prog_1_method_23_code
def yX5_burn : MethodName := ⟨RX5, "burn", "(II)I"⟩
abbrev cX5_shut : ByteArray := prog_1_method_24_code
def yX5_shut : MethodName := ⟨RX5, "shut", "(I)I"⟩
abbrev cX5_trade : ByteArray := prog_1_method_25_code
def yX5_trade : MethodName := ⟨RX5, "trade", "(II)I"⟩
abbrev cX5_whoWent : ByteArray := prog_1_method_26_code
def yX5_whoWent : MethodName := ⟨RX5, "whoWent", "(I)I"⟩
abbrev cX5_spread : ByteArray := prog_1_method_27_code
def yX5_spread : MethodName := ⟨RX5, "spread", "(I)I"⟩
abbrev cX5_whatKind : ByteArray := prog_1_method_28_code
def yX5_whatKind : MethodName := ⟨RX5, "whatKind", "(III)I"⟩
abbrev cX5_two : ByteArray := prog_1_method_29_code
def yX5_two : MethodName := ⟨RX5, "two", "(III)I"⟩
abbrev cX5_mist : ByteArray := prog_1_method_30_code
def yX5_mist : MethodName := ⟨RX5, "mist", "(IIIII)J"⟩
abbrev cX5_oldest : ByteArray := prog_1_method_31_code
def yX5_oldest : MethodName := ⟨RX5, "oldest", "(I)I"⟩
abbrev cX5_mean : ByteArray := prog_1_method_32_code
def yX5_mean : MethodName := ⟨RX5, "mean", "(I)J"⟩
abbrev cX5_forgiven : ByteArray := prog_1_method_33_code
def yX5_forgiven : MethodName := ⟨RX5, "forgiven", "()I"⟩
abbrev cX5_nearest : ByteArray := prog_1_method_34_code
def yX5_nearest : MethodName := ⟨RX5, "nearest", "(I)I"⟩
abbrev cX5_allSeen : ByteArray := prog_1_method_35_code
def yX5_allSeen : MethodName := ⟨RX5, "allSeen", "(I)I"⟩
abbrev cX5_gaps : ByteArray := prog_1_method_36_code
def yX5_gaps : MethodName := ⟨RX5, "gaps", "()I"⟩
abbrev cX5_blind : ByteArray := prog_1_method_37_code
def yX5_blind : MethodName := ⟨RX5, "blind", "()I"⟩
abbrev cX5_moved : ByteArray := prog_1_method_38_code
def yX5_moved : MethodName := ⟨RX5, "moved", "(III)I"⟩
abbrev cX5_street : ByteArray := prog_1_method_39_code
def yX5_street : MethodName := ⟨RX5, "street", "(I)I"⟩
abbrev cX5_row : ByteArray := prog_1_method_40_code
def yX5_row : MethodName := ⟨RX5, "row", "(I)I"⟩
abbrev cX5_judge : ByteArray := prog_1_method_41_code
def yX5_judge : MethodName := ⟨RX5, "judge", "()I"⟩
abbrev cX5_empties : ByteArray := prog_1_method_42_code
def yX5_empties : MethodName := ⟨RX5, "empties", "()I"⟩
abbrev cX5_lots : ByteArray := prog_1_method_43_code
def yX5_lots : MethodName := ⟨RX5, "lots", "(III)I"⟩
abbrev cX5_image : ByteArray := prog_1_method_44_code
def yX5_image : MethodName := ⟨RX5, "image", "()I"⟩
abbrev cX5_restore : ByteArray := prog_1_method_45_code
def yX5_restore : MethodName := ⟨RX5, "restore", "()I"⟩
abbrev cX5_count : ByteArray := prog_1_method_46_code
def yX5_count : MethodName := ⟨RX5, "count", "(I)I"⟩
abbrev cX5_refuse : ByteArray := prog_1_method_47_code
def yX5_refuse : MethodName := ⟨RX5, "refuse", "(I)I"⟩
abbrev cX5_refuseLong : ByteArray := prog_1_method_48_code
def yX5_refuseLong : MethodName := ⟨RX5, "refuseLong", "(I)J"⟩
abbrev cX5_mostOwed : ByteArray := prog_1_method_49_code
def yX5_mostOwed : MethodName := ⟨RX5, "mostOwed", "()I"⟩
abbrev cX5_debtor : ByteArray := prog_1_method_50_code
def yX5_debtor : MethodName := ⟨RX5, "debtor", "()I"⟩
abbrev cX5_debtless : ByteArray := prog_1_method_51_code
def yX5_debtless : MethodName := ⟨RX5, "debtless", "()I"⟩
abbrev cX5_owedByOne : ByteArray := prog_1_method_52_code
def yX5_owedByOne : MethodName := ⟨RX5, "owedByOne", "()I"⟩
abbrev cX5_fittingKinds : ByteArray := prog_1_method_53_code
def yX5_fittingKinds : MethodName := ⟨RX5, "fittingKinds", "(II)I"⟩
abbrev cX5_fittingFigures : ByteArray := prog_1_method_54_code
def yX5_fittingFigures : MethodName := ⟨RX5, "fittingFigures", "(II)I"⟩
abbrev cX5_fitsNumbers : ByteArray := prog_1_method_55_code
def yX5_fitsNumbers : MethodName := ⟨RX5, "fitsNumbers", "(II)Z"⟩
abbrev cX5_bestShutter : ByteArray := prog_1_method_56_code
def yX5_bestShutter : MethodName := ⟨RX5, "bestShutter", "(II)I"⟩
abbrev cX5_highestAge : ByteArray := prog_1_method_57_code
def yX5_highestAge : MethodName := ⟨RX5, "highestAge", "()I"⟩
abbrev cX5_longestOwing : ByteArray := prog_1_method_58_code
def yX5_longestOwing : MethodName := ⟨RX5, "longestOwing", "()I"⟩
abbrev cX5_lane : ByteArray := prog_1_method_59_code
def yX5_lane : MethodName := ⟨RX5, "lane", "()I"⟩
abbrev cX5_eveningsOfNewDebts : ByteArray := prog_1_method_60_code
def yX5_eveningsOfNewDebts : MethodName := ⟨RX5, "eveningsOfNewDebts", "()J"⟩
abbrev cX5_nextSeed : ByteArray := prog_1_method_61_code
def yX5_nextSeed : MethodName := ⟨RX5, "nextSeed", "(I)I"⟩
abbrev cX5_drawnCell : ByteArray := prog_1_method_62_code
def yX5_drawnCell : MethodName := ⟨RX5, "drawnCell", "(I)I"⟩
abbrev cX5_isCell : ByteArray := prog_1_method_63_code
def yX5_isCell : MethodName := ⟨RX5, "isCell", "(I)Z"⟩
abbrev cX5_steps : ByteArray := prog_1_method_64_code
def yX5_steps : MethodName := ⟨RX5, "steps", "(II)I"⟩
abbrev cX5_stepTowards : ByteArray := prog_1_method_65_code
def yX5_stepTowards : MethodName := ⟨RX5, "stepTowards", "(II)I"⟩
abbrev cX5_reach : ByteArray := prog_1_method_66_code
def yX5_reach : MethodName := ⟨RX5, "reach", "(II)I"⟩
abbrev cX5_minutes : ByteArray := prog_1_method_67_code
def yX5_minutes : MethodName := ⟨RX5, "minutes", "(III)I"⟩
def RX6 : String := "CandleIsADebtModel"
def TX6 : u_T := fun k => match k with
  | 0 => ("CandleIsADebtModel", "houses", "I", false)
  | 1 => ("CandleIsADebtModel", "kinds", "[I", true)
  | 2 => ("CandleIsADebtModel", "figures", "[I", true)
  | 3 => ("CandleIsADebtModel", "cells0", "[I", true)
  | 4 => ("CandleIsADebtModel", "lit", "[I", true)
  | 5 => ("CandleIsADebtModel", "walkers", "I", false)
  | 6 => ("CandleIsADebtModel", "ats", "[I", true)
  | 7 => ("CandleIsADebtModel", "goals0", "[I", true)
  | 8 => ("CandleIsADebtModel", "sights", "[I", true)
  | 9 => ("CandleIsADebtModel", "debts", "[I", true)
  | 10 => ("CandleIsADebtModel", "today", "I", false)
  | 11 => ("CandleIsADebtModel", "thrown", "I", false)
  | 12 => ("CandleIsADebtModel", "refusals", "[I", true)
  | 13 => ("CandleIsADebtModel", "letters", "[I", true)
  | 14 => ("CandleIsADebtModel", "letterMany", "I", false)
  | 15 => ("CandleIsADebtModel", "at0", "I", false)
  | 16 => ("CandleIsADebtModel", "isBad", "Z", false)
  | 17 => ("CandleIsADebtModel", "statements", "I", false)
  | 18 => ("CandleIsADebtModel", "placeIn", "[I", true)
  | 19 => ("CandleIsADebtModel", "letterOf", "[I", true)
  | 20 => ("CandleIsADebtModel", "told", "[I", true)
  | 21 => ("CandleIsADebtModel", "kept", "[I", true)
  | 22 => ("CandleIsADebtModel", "imaged", "[I", true)
  | 23 => ("CandleIsADebtModel", "hasImage", "Z", false)
  | 24 => ("CandleIsADebtModel", "place0", "I", false)
  | 25 => ("CandleIsADebtModel", "isTaking", "Z", false)
  | 26 => ("CandleIsADebtModel", "keptIn", "[I", false)
  | 27 => ("CandleIsADebtModel", "turns0", "[I", true)
  | 28 => ("CandleIsADebtModel", "turnOf", "[I", true)
  | 29 => ("CandleIsADebtModel", "turned", "I", false)
  | 30 => ("CandleIsADebtModel", "stepsTo", "[I", true)
  | 31 => ("CandleIsADebtModel", "waiting", "[I", true)
  | 32 => ("CandleIsADebtModel", "waits", "I", false)
  | 33 => ("CandleIsADebtModel", "shortest", "[I", true)
  | 34 => ("CandleIsADebtModel", "metBy", "[I", true)
  | 35 => ("CandleIsADebtModel", "row", "[I", true)
  | 36 => ("CandleIsADebtModel", "rowMany", "I", false)
  | 37 => ("CandleIsADebtModel", "gains", "[I", true)
  | _ => ("CandleIsADebtModel", "seed", "I", false)
def tyX6 : Nat → FieldType := fun k => match k with
  | 0 => .int
  | 1 => .array .int
  | 2 => .array .int
  | 3 => .array .int
  | 4 => .array .int
  | 5 => .int
  | 6 => .array .int
  | 7 => .array .int
  | 8 => .array .int
  | 9 => .array .int
  | 10 => .int
  | 11 => .int
  | 12 => .array .int
  | 13 => .array .int
  | 14 => .int
  | 15 => .int
  | 16 => .boolean
  | 17 => .int
  | 18 => .array .int
  | 19 => .array .int
  | 20 => .array .int
  | 21 => .array .int
  | 22 => .array .int
  | 23 => .boolean
  | 24 => .int
  | 25 => .boolean
  | 26 => .array .int
  | 27 => .array .int
  | 28 => .array .int
  | 29 => .int
  | 30 => .array .int
  | 31 => .array .int
  | 32 => .int
  | 33 => .array .int
  | 34 => .array .int
  | 35 => .array .int
  | 36 => .int
  | 37 => .array .int
  | _ => .int
abbrev wsX60 : List Cond := u_ws RX6 TX6 39
theorem nmX6 : ∀ a, a < 39 → ∀ b, b < 39 → a ≠ b → (TX6 a).2.1 ≠ (TX6 b).2.1 := by decide +kernel
theorem tyX6_ok : ∀ k, k < 39 → parseFieldDescriptor (TX6 k).2.2.1 = some (tyX6 k) := by decide +kernel
abbrev cX6_init : ByteArray := prog_8_method_1_code
def yX6_init : MethodName := ⟨RX6, "<init>", "()V"⟩
abbrev cX6_in : ByteArray := prog_8_method_3_code
def yX6_in : MethodName := ⟨RX6, "in", "(JJJ)Z"⟩
abbrev cX6_refuse : ByteArray := prog_8_method_4_code
def yX6_refuse : MethodName := ⟨RX6, "refuse", "(I)I"⟩
abbrev cX6_isCell : ByteArray := prog_8_method_5_code
def yX6_isCell : MethodName := ⟨RX6, "isCell", "(I)Z"⟩
abbrev cX6_isHouse : ByteArray := prog_8_method_6_code
def yX6_isHouse : MethodName := ⟨RX6, "isHouse", "(I)Z"⟩
abbrev cX6_isWalker : ByteArray := prog_8_method_7_code
def yX6_isWalker : MethodName := ⟨RX6, "isWalker", "(I)Z"⟩
abbrev cX6_wrongNumber : ByteArray := prog_8_method_8_code
def yX6_wrongNumber : MethodName := ⟨RX6, "wrongNumber", "(III)I"⟩
abbrev cX6_wrongBit : ByteArray := prog_8_method_9_code
def yX6_wrongBit : MethodName := ⟨RX6, "wrongBit", "(III)I"⟩
abbrev cX6_hasBit : ByteArray := prog_8_method_10_code
def yX6_hasBit : MethodName := ⟨RX6, "hasBit", "(II)Z"⟩
abbrev cX6_onesOf : ByteArray := prog_8_method_11_code
def yX6_onesOf : MethodName := ⟨RX6, "onesOf", "(I)I"⟩
abbrev cX6_apartBy : ByteArray := prog_8_method_12_code
def yX6_apartBy : MethodName := ⟨RX6, "apartBy", "(II)I"⟩
abbrev cX6_stepsOf : ByteArray := prog_8_method_13_code
def yX6_stepsOf : MethodName := ⟨RX6, "stepsOf", "(II)I"⟩
abbrev cX6_reachOf : ByteArray := prog_8_method_14_code
def yX6_reachOf : MethodName := ⟨RX6, "reachOf", "(I)I"⟩
abbrev cX6_minutesOf : ByteArray := prog_8_method_15_code
def yX6_minutesOf : MethodName := ⟨RX6, "minutesOf", "(II)I"⟩
abbrev cX6_canSee : ByteArray := prog_8_method_16_code
def yX6_canSee : MethodName := ⟨RX6, "canSee", "(III)Z"⟩
abbrev cX6_seenFrom : ByteArray := prog_8_method_17_code
def yX6_seenFrom : MethodName := ⟨RX6, "seenFrom", "(II)I"⟩
abbrev cX6_owesBits : ByteArray := prog_8_method_18_code
def yX6_owesBits : MethodName := ⟨RX6, "owesBits", "(I)I"⟩
abbrev cX6_priceOf : ByteArray := prog_8_method_19_code
def yX6_priceOf : MethodName := ⟨RX6, "priceOf", "(I)I"⟩
abbrev cX6_allPrices : ByteArray := prog_8_method_20_code
def yX6_allPrices : MethodName := ⟨RX6, "allPrices", "()I"⟩
abbrev cX6_allDebts : ByteArray := prog_8_method_21_code
def yX6_allDebts : MethodName := ⟨RX6, "allDebts", "()I"⟩
abbrev cX6_owersOf : ByteArray := prog_8_method_22_code
def yX6_owersOf : MethodName := ⟨RX6, "owersOf", "(I)I"⟩
abbrev cX6_towards : ByteArray := prog_8_method_23_code
def yX6_towards : MethodName := ⟨RX6, "towards", "(II)I"⟩
abbrev cX6_eveningBy : ByteArray := prog_8_method_24_code
def yX6_eveningBy : MethodName := ⟨RX6, "eveningBy", "(Z)V"⟩
abbrev cX6_goEvenings : ByteArray := prog_8_method_25_code
def yX6_goEvenings : MethodName := ⟨RX6, "goEvenings", "(I)V"⟩
abbrev cX6_houseComes : ByteArray := prog_8_method_26_code
def yX6_houseComes : MethodName := ⟨RX6, "houseComes", "(III)Z"⟩
abbrev cX6_walkerComes : ByteArray := prog_8_method_27_code
def yX6_walkerComes : MethodName := ⟨RX6, "walkerComes", "(III)Z"⟩
abbrev cX6_feed : ByteArray := prog_8_method_28_code
def yX6_feed : MethodName := ⟨RX6, "feed", "(I)I"⟩
abbrev cX6_here : ByteArray := prog_8_method_29_code
def yX6_here : MethodName := ⟨RX6, "here", "()I"⟩
abbrev cX6_readDigits : ByteArray := prog_8_method_30_code
def yX6_readDigits : MethodName := ⟨RX6, "readDigits", "(I)I"⟩
abbrev cX6_isLetter : ByteArray := prog_8_method_31_code
def yX6_isLetter : MethodName := ⟨RX6, "isLetter", "(I)Z"⟩
abbrev cX6_readNumbers : ByteArray := prog_8_method_32_code
def yX6_readNumbers : MethodName := ⟨RX6, "readNumbers", "(II)V"⟩
abbrev cX6_readStatement : ByteArray := prog_8_method_33_code
def yX6_readStatement : MethodName := ⟨RX6, "readStatement", "()V"⟩
abbrev cX6_comesTold : ByteArray := prog_8_method_34_code
def yX6_comesTold : MethodName := ⟨RX6, "comesTold", "(I)Z"⟩
abbrev cX6_village : ByteArray := prog_8_method_35_code
def yX6_village : MethodName := ⟨RX6, "village", "()I"⟩
abbrev cX6_carry : ByteArray := prog_8_method_36_code
def yX6_carry : MethodName := ⟨RX6, "carry", "(I)I"⟩
abbrev cX6_carryAll : ByteArray := prog_8_method_37_code
def yX6_carryAll : MethodName := ⟨RX6, "carryAll", "([IZ)V"⟩
abbrev cX6_think : ByteArray := prog_8_method_38_code
def yX6_think : MethodName := ⟨RX6, "think", "()V"⟩
abbrev cX6_again : ByteArray := prog_8_method_39_code
def yX6_again : MethodName := ⟨RX6, "again", "()V"⟩
abbrev cX6_image : ByteArray := prog_8_method_40_code
def yX6_image : MethodName := ⟨RX6, "image", "()I"⟩
abbrev cX6_restore : ByteArray := prog_8_method_41_code
def yX6_restore : MethodName := ⟨RX6, "restore", "()I"⟩
abbrev cX6_keepTurn : ByteArray := prog_8_method_42_code
def yX6_keepTurn : MethodName := ⟨RX6, "keepTurn", "()V"⟩
abbrev cX6_back : ByteArray := prog_8_method_43_code
def yX6_back : MethodName := ⟨RX6, "back", "()I"⟩
abbrev cX6_seersOf : ByteArray := prog_8_method_44_code
def yX6_seersOf : MethodName := ⟨RX6, "seersOf", "(I)I"⟩
abbrev cX6_houseOf : ByteArray := prog_8_method_45_code
def yX6_houseOf : MethodName := ⟨RX6, "houseOf", "(II)I"⟩
abbrev cX6_walkerOf : ByteArray := prog_8_method_46_code
def yX6_walkerOf : MethodName := ⟨RX6, "walkerOf", "(II)I"⟩
abbrev cX6_wrongBoth : ByteArray := prog_8_method_47_code
def yX6_wrongBoth : MethodName := ⟨RX6, "wrongBoth", "(II)I"⟩
abbrev cX6_age : ByteArray := prog_8_method_48_code
def yX6_age : MethodName := ⟨RX6, "age", "(II)I"⟩
abbrev cX6_house : ByteArray := prog_8_method_49_code
def yX6_house : MethodName := ⟨RX6, "house", "(III)I"⟩
abbrev cX6_walker : ByteArray := prog_8_method_50_code
def yX6_walker : MethodName := ⟨RX6, "walker", "(III)I"⟩
abbrev cX6_lights : ByteArray := prog_8_method_51_code
def yX6_lights : MethodName := ⟨RX6, "lights", "(I)I"⟩
abbrev cX6_goals : ByteArray := prog_8_method_52_code
def yX6_goals : MethodName := ⟨RX6, "goals", "(II)I"⟩
abbrev cX6_visits : ByteArray := prog_8_method_53_code
def yX6_visits : MethodName := ⟨RX6, "visits", "(II)I"⟩
abbrev cX6_trades : ByteArray := prog_8_method_54_code
def yX6_trades : MethodName := ⟨RX6, "trades", "(III)I"⟩
abbrev cX6_evenings : ByteArray := prog_8_method_55_code
def yX6_evenings : MethodName := ⟨RX6, "evenings", "(I)I"⟩
abbrev cX6_walkerIn : ByteArray := prog_8_method_56_code
def yX6_walkerIn : MethodName := ⟨RX6, "walkerIn", "(III)I"⟩
abbrev cX6_prices : ByteArray := prog_8_method_57_code
def yX6_prices : MethodName := ⟨RX6, "prices", "(I)I"⟩
abbrev cX6_owed : ByteArray := prog_8_method_58_code
def yX6_owed : MethodName := ⟨RX6, "owed", "(II)I"⟩
abbrev cX6_home : ByteArray := prog_8_method_59_code
def yX6_home : MethodName := ⟨RX6, "home", "(I)I"⟩
abbrev cX6_richest : ByteArray := prog_8_method_60_code
def yX6_richest : MethodName := ⟨RX6, "richest", "(I)I"⟩
abbrev cX6_beside : ByteArray := prog_8_method_61_code
def yX6_beside : MethodName := ⟨RX6, "beside", "(II)I"⟩
abbrev cX6_layWays : ByteArray := prog_8_method_62_code
def yX6_layWays : MethodName := ⟨RX6, "layWays", "(I)V"⟩
abbrev cX6_way : ByteArray := prog_8_method_63_code
def yX6_way : MethodName := ⟨RX6, "way", "(III)I"⟩
abbrev cX6_layPaying : ByteArray := prog_8_method_64_code
def yX6_layPaying : MethodName := ⟨RX6, "layPaying", "()V"⟩
abbrev cX6_nextOn : ByteArray := prog_8_method_65_code
def yX6_nextOn : MethodName := ⟨RX6, "nextOn", "(II)I"⟩
abbrev cX6_payAll : ByteArray := prog_8_method_66_code
def yX6_payAll : MethodName := ⟨RX6, "payAll", "(II)I"⟩
abbrev cX6_clear : ByteArray := prog_8_method_67_code
def yX6_clear : MethodName := ⟨RX6, "clear", "(II)I"⟩
abbrev cX6_burn : ByteArray := prog_8_method_68_code
def yX6_burn : MethodName := ⟨RX6, "burn", "(II)I"⟩
abbrev cX6_shut : ByteArray := prog_8_method_69_code
def yX6_shut : MethodName := ⟨RX6, "shut", "(I)I"⟩
abbrev cX6_heavyPrices : ByteArray := prog_8_method_70_code
def yX6_heavyPrices : MethodName := ⟨RX6, "heavyPrices", "()I"⟩
abbrev cX6_trade : ByteArray := prog_8_method_71_code
def yX6_trade : MethodName := ⟨RX6, "trade", "(II)I"⟩
abbrev cX6_whoWent : ByteArray := prog_8_method_72_code
def yX6_whoWent : MethodName := ⟨RX6, "whoWent", "(I)I"⟩
abbrev cX6_spread : ByteArray := prog_8_method_73_code
def yX6_spread : MethodName := ⟨RX6, "spread", "(I)I"⟩
abbrev cX6_isRow : ByteArray := prog_8_method_74_code
def yX6_isRow : MethodName := ⟨RX6, "isRow", "(II)Z"⟩
abbrev cX6_whatKind : ByteArray := prog_8_method_75_code
def yX6_whatKind : MethodName := ⟨RX6, "whatKind", "(III)I"⟩
abbrev cX6_two : ByteArray := prog_8_method_76_code
def yX6_two : MethodName := ⟨RX6, "two", "(III)I"⟩
abbrev cX6_divisor : ByteArray := prog_8_method_77_code
def yX6_divisor : MethodName := ⟨RX6, "divisor", "(JJ)J"⟩
abbrev cX6_partOf : ByteArray := prog_8_method_78_code
def yX6_partOf : MethodName := ⟨RX6, "partOf", "(JJI)J"⟩
abbrev cX6_mist : ByteArray := prog_8_method_79_code
def yX6_mist : MethodName := ⟨RX6, "mist", "(IIIII)J"⟩
abbrev cX6_oldestAge : ByteArray := prog_8_method_80_code
def yX6_oldestAge : MethodName := ⟨RX6, "oldestAge", "()I"⟩
abbrev cX6_oldestBy : ByteArray := prog_8_method_81_code
def yX6_oldestBy : MethodName := ⟨RX6, "oldestBy", "()I"⟩
abbrev cX6_laneTwos : ByteArray := prog_8_method_82_code
def yX6_laneTwos : MethodName := ⟨RX6, "laneTwos", "()I"⟩
abbrev cX6_darkBits : ByteArray := prog_8_method_83_code
def yX6_darkBits : MethodName := ⟨RX6, "darkBits", "()I"⟩
abbrev cX6_oldest : ByteArray := prog_8_method_84_code
def yX6_oldest : MethodName := ⟨RX6, "oldest", "(I)I"⟩
abbrev cX6_mean : ByteArray := prog_8_method_85_code
def yX6_mean : MethodName := ⟨RX6, "mean", "(I)J"⟩
abbrev cX6_forgiven : ByteArray := prog_8_method_86_code
def yX6_forgiven : MethodName := ⟨RX6, "forgiven", "()I"⟩
abbrev cX6_nearest : ByteArray := prog_8_method_87_code
def yX6_nearest : MethodName := ⟨RX6, "nearest", "(I)I"⟩
abbrev cX6_allSeen : ByteArray := prog_8_method_88_code
def yX6_allSeen : MethodName := ⟨RX6, "allSeen", "(I)I"⟩
abbrev cX6_gaps : ByteArray := prog_8_method_89_code
def yX6_gaps : MethodName := ⟨RX6, "gaps", "()I"⟩
abbrev cX6_blind : ByteArray := prog_8_method_90_code
def yX6_blind : MethodName := ⟨RX6, "blind", "()I"⟩
abbrev cX6_moved : ByteArray := prog_8_method_91_code
def yX6_moved : MethodName := ⟨RX6, "moved", "(III)I"⟩
abbrev cX6_street : ByteArray := prog_8_method_92_code
def yX6_street : MethodName := ⟨RX6, "street", "(I)I"⟩
abbrev cX6_row : ByteArray := prog_8_method_93_code
def yX6_row : MethodName := ⟨RX6, "row", "(I)I"⟩
abbrev cX6_judge : ByteArray := prog_8_method_94_code
def yX6_judge : MethodName := ⟨RX6, "judge", "()I"⟩
abbrev cX6_empties : ByteArray := prog_8_method_95_code
def yX6_empties : MethodName := ⟨RX6, "empties", "()I"⟩
abbrev cX6_drawBelow : ByteArray := prog_8_method_96_code
def yX6_drawBelow : MethodName := ⟨RX6, "drawBelow", "(I)I"⟩
abbrev cX6_lots : ByteArray := prog_8_method_97_code
def yX6_lots : MethodName := ⟨RX6, "lots", "(III)I"⟩
abbrev cX6_count : ByteArray := prog_8_method_98_code
def yX6_count : MethodName := ⟨RX6, "count", "(I)I"⟩
def RJ6 : String := "java/lang/Integer"
def TJ6 : u_T := fun k => match k with
  | _ => ("", "", "", false)
def tyJ6 : Nat → FieldType := fun k => match k with
  | _ => .int
abbrev wsJ60 : List Cond := u_ws RJ6 TJ6 0
theorem nmJ6 : ∀ a, a < 0 → ∀ b, b < 0 → a ≠ b → (TJ6 a).2.1 ≠ (TJ6 b).2.1 := by decide +kernel
theorem tyJ6_ok : ∀ k, k < 0 → parseFieldDescriptor (TJ6 k).2.2.1 = some (tyJ6 k) := by decide +kernel
abbrev cJ6_compare_7cf53 : ByteArray := prog_9_method_40_code
def yJ6_compare_7cf53 : MethodName := ⟨RJ6, "compare", "(II)I"⟩
abbrev cJ6_bitCount_0f7a4 : ByteArray := prog_9_method_49_code
def yJ6_bitCount_0f7a4 : MethodName := ⟨RJ6, "bitCount", "(I)I"⟩
def RJ9 : String := "java/lang/Math"
def TJ9 : u_T := fun k => match k with
  | _ => ("", "", "", false)
def tyJ9 : Nat → FieldType := fun k => match k with
  | _ => .int
abbrev wsJ90 : List Cond := u_ws RJ9 TJ9 0
theorem nmJ9 : ∀ a, a < 0 → ∀ b, b < 0 → a ≠ b → (TJ9 a).2.1 ≠ (TJ9 b).2.1 := by decide +kernel
theorem tyJ9_ok : ∀ k, k < 0 → parseFieldDescriptor (TJ9 k).2.2.1 = some (tyJ9 k) := by decide +kernel
abbrev cJ9_abs_0f7a4 : ByteArray := prog_10_method_59_code
def yJ9_abs_0f7a4 : MethodName := ⟨RJ9, "abs", "(I)I"⟩
abbrev cJ9_max_7cf53 : ByteArray := prog_10_method_65_code
def yJ9_max_7cf53 : MethodName := ⟨RJ9, "max", "(II)I"⟩
abbrev cJ9_min_7cf53 : ByteArray := prog_10_method_69_code
def yJ9_min_7cf53 : MethodName := ⟨RJ9, "min", "(II)I"⟩
def RJ10 : String := "java/lang/System"
def TJ10 : u_T := fun k => match k with
  | _ => ("", "", "", false)
def tyJ10 : Nat → FieldType := fun k => match k with
  | _ => .int
abbrev wsJ100 : List Cond := u_ws RJ10 TJ10 0
theorem nmJ10 : ∀ a, a < 0 → ∀ b, b < 0 → a ≠ b → (TJ10 a).2.1 ≠ (TJ10 b).2.1 := by decide +kernel
theorem tyJ10_ok : ∀ k, k < 0 → parseFieldDescriptor (TJ10 k).2.2.1 = some (tyJ10 k) := by decide +kernel
def RJ7 : String := "java/util/Arrays"
def TJ7 : u_T := fun k => match k with
  | _ => ("", "", "", false)
def tyJ7 : Nat → FieldType := fun k => match k with
  | _ => .int
abbrev wsJ70 : List Cond := u_ws RJ7 TJ7 0
theorem nmJ7 : ∀ a, a < 0 → ∀ b, b < 0 → a ≠ b → (TJ7 a).2.1 ≠ (TJ7 b).2.1 := by decide +kernel
theorem tyJ7_ok : ∀ k, k < 0 → parseFieldDescriptor (TJ7 k).2.2.1 = some (tyJ7 k) := by decide +kernel
abbrev cJ7_fill_53178 : ByteArray := prog_12_method_103_code
def yJ7_fill_53178 : MethodName := ⟨RJ7, "fill", "([II)V"⟩
def RL : String := "CandleIsADebtLaw"
abbrev cL_law : ByteArray := code
def yL_law : MethodName := ⟨RL, "law", "([I)Z"⟩
end
section
theorem dX0_init_0 : decode cX0_init 0 = .ok (.aload_n 0, 1) := by decide +kernel
theorem dX0_init_1 : decode cX0_init 1 = .ok (.invokespecial 1, 3) := by decide +kernel
theorem dX0_init_4 : decode cX0_init 4 = .ok (.aload_n 0, 1) := by decide +kernel
theorem dX0_init_5 : decode cX0_init 5 = .ok (.bipush 8, 2) := by decide +kernel
theorem dX0_init_7 : decode cX0_init 7 = .ok (.anewarray 9, 3) := by decide +kernel
theorem dX0_init_10 : decode cX0_init 10 = .ok (.putfield 11, 3) := by decide +kernel
theorem dX0_init_13 : decode cX0_init 13 = .ok (.iconst 0, 1) := by decide +kernel
theorem dX0_init_14 : decode cX0_init 14 = .ok (.istore_n 1, 1) := by decide +kernel
theorem dX0_init_15 : decode cX0_init 15 = .ok (.iload_n 1, 1) := by decide +kernel
theorem dX0_init_16 : decode cX0_init 16 = .ok (.bipush 8, 2) := by decide +kernel
theorem dX0_init_18 : decode cX0_init 18 = .ok (.if_icmp .ge 22, 3) := by decide +kernel
theorem dX0_init_21 : decode cX0_init 21 = .ok (.aload_n 0, 1) := by decide +kernel
theorem dX0_init_22 : decode cX0_init 22 = .ok (.getfield 11, 3) := by decide +kernel
theorem dX0_init_25 : decode cX0_init 25 = .ok (.iload_n 1, 1) := by decide +kernel
theorem dX0_init_26 : decode cX0_init 26 = .ok (.new 9, 3) := by decide +kernel
theorem dX0_init_29 : decode cX0_init 29 = .ok (.dup, 1) := by decide +kernel
theorem dX0_init_30 : decode cX0_init 30 = .ok (.invokespecial 15, 3) := by decide +kernel
theorem dX0_init_33 : decode cX0_init 33 = .ok (.aastore, 1) := by decide +kernel
theorem dX0_init_34 : decode cX0_init 34 = .ok (.iinc 1 1, 3) := by decide +kernel
theorem dX0_init_37 : decode cX0_init 37 = .ok (.goto (-22), 3) := by decide +kernel
theorem dX0_init_40 : decode cX0_init 40 = .ok (.return_, 1) := by decide +kernel
theorem dX0_keep_0 : decode cX0_keep 0 = .ok (.aload_n 0, 1) := by decide +kernel
theorem dX0_keep_1 : decode cX0_keep 1 = .ok (.getfield 11, 3) := by decide +kernel
theorem dX0_keep_4 : decode cX0_keep 4 = .ok (.aload_n 0, 1) := by decide +kernel
theorem dX0_keep_5 : decode cX0_keep 5 = .ok (.getfield 16, 3) := by decide +kernel
theorem dX0_keep_8 : decode cX0_keep 8 = .ok (.aaload, 1) := by decide +kernel
theorem dX0_keep_9 : decode cX0_keep 9 = .ok (.aload_n 1, 1) := by decide +kernel
theorem dX0_keep_10 : decode cX0_keep 10 = .ok (.invokevirtual 20, 3) := by decide +kernel
theorem dX0_keep_13 : decode cX0_keep 13 = .ok (.aload_n 0, 1) := by decide +kernel
theorem dX0_keep_14 : decode cX0_keep 14 = .ok (.aload_n 0, 1) := by decide +kernel
theorem dX0_keep_15 : decode cX0_keep 15 = .ok (.getfield 16, 3) := by decide +kernel
theorem dX0_keep_18 : decode cX0_keep 18 = .ok (.iconst 1, 1) := by decide +kernel
theorem dX0_keep_19 : decode cX0_keep 19 = .ok (.iadd, 1) := by decide +kernel
theorem dX0_keep_20 : decode cX0_keep 20 = .ok (.bipush 8, 2) := by decide +kernel
theorem dX0_keep_22 : decode cX0_keep 22 = .ok (.irem, 1) := by decide +kernel
theorem dX0_keep_23 : decode cX0_keep 23 = .ok (.putfield 16, 3) := by decide +kernel
theorem dX0_keep_26 : decode cX0_keep 26 = .ok (.aload_n 0, 1) := by decide +kernel
theorem dX0_keep_27 : decode cX0_keep 27 = .ok (.bipush 8, 2) := by decide +kernel
theorem dX0_keep_29 : decode cX0_keep 29 = .ok (.aload_n 0, 1) := by decide +kernel
theorem dX0_keep_30 : decode cX0_keep 30 = .ok (.getfield 24, 3) := by decide +kernel
theorem dX0_keep_33 : decode cX0_keep 33 = .ok (.iconst 1, 1) := by decide +kernel
theorem dX0_keep_34 : decode cX0_keep 34 = .ok (.iadd, 1) := by decide +kernel
theorem dX0_keep_35 : decode cX0_keep 35 = .ok (.invokestatic 27, 3) := by decide +kernel
theorem dX0_keep_38 : decode cX0_keep 38 = .ok (.putfield 24, 3) := by decide +kernel
theorem dX0_keep_41 : decode cX0_keep 41 = .ok (.return_, 1) := by decide +kernel
theorem dX0_takeBack_0 : decode cX0_takeBack 0 = .ok (.aload_n 0, 1) := by decide +kernel
theorem dX0_takeBack_1 : decode cX0_takeBack 1 = .ok (.getfield 24, 3) := by decide +kernel
theorem dX0_takeBack_4 : decode cX0_takeBack 4 = .ok (.ifCond .ne 4, 3) := by decide +kernel
theorem dX0_takeBack_7 : decode cX0_takeBack 7 = .ok (.return_, 1) := by decide +kernel
theorem dX0_takeBack_8 : decode cX0_takeBack 8 = .ok (.aload_n 0, 1) := by decide +kernel
theorem dX0_takeBack_9 : decode cX0_takeBack 9 = .ok (.aload_n 0, 1) := by decide +kernel
theorem dX0_takeBack_10 : decode cX0_takeBack 10 = .ok (.getfield 16, 3) := by decide +kernel
theorem dX0_takeBack_13 : decode cX0_takeBack 13 = .ok (.bipush 8, 2) := by decide +kernel
theorem dX0_takeBack_15 : decode cX0_takeBack 15 = .ok (.iadd, 1) := by decide +kernel
theorem dX0_takeBack_16 : decode cX0_takeBack 16 = .ok (.iconst 1, 1) := by decide +kernel
theorem dX0_takeBack_17 : decode cX0_takeBack 17 = .ok (.isub, 1) := by decide +kernel
theorem dX0_takeBack_18 : decode cX0_takeBack 18 = .ok (.bipush 8, 2) := by decide +kernel
theorem dX0_takeBack_20 : decode cX0_takeBack 20 = .ok (.irem, 1) := by decide +kernel
theorem dX0_takeBack_21 : decode cX0_takeBack 21 = .ok (.putfield 16, 3) := by decide +kernel
theorem dX0_takeBack_24 : decode cX0_takeBack 24 = .ok (.aload_n 0, 1) := by decide +kernel
theorem dX0_takeBack_25 : decode cX0_takeBack 25 = .ok (.dup, 1) := by decide +kernel
theorem dX0_takeBack_26 : decode cX0_takeBack 26 = .ok (.getfield 24, 3) := by decide +kernel
theorem dX0_takeBack_29 : decode cX0_takeBack 29 = .ok (.iconst 1, 1) := by decide +kernel
theorem dX0_takeBack_30 : decode cX0_takeBack 30 = .ok (.isub, 1) := by decide +kernel
theorem dX0_takeBack_31 : decode cX0_takeBack 31 = .ok (.putfield 24, 3) := by decide +kernel
theorem dX0_takeBack_34 : decode cX0_takeBack 34 = .ok (.aload_n 1, 1) := by decide +kernel
theorem dX0_takeBack_35 : decode cX0_takeBack 35 = .ok (.aload_n 0, 1) := by decide +kernel
theorem dX0_takeBack_36 : decode cX0_takeBack 36 = .ok (.getfield 11, 3) := by decide +kernel
theorem dX0_takeBack_39 : decode cX0_takeBack 39 = .ok (.aload_n 0, 1) := by decide +kernel
theorem dX0_takeBack_40 : decode cX0_takeBack 40 = .ok (.getfield 16, 3) := by decide +kernel
theorem dX0_takeBack_43 : decode cX0_takeBack 43 = .ok (.aaload, 1) := by decide +kernel
theorem dX0_takeBack_44 : decode cX0_takeBack 44 = .ok (.invokevirtual 20, 3) := by decide +kernel
theorem dX0_takeBack_47 : decode cX0_takeBack 47 = .ok (.return_, 1) := by decide +kernel
theorem dX0_forget_0 : decode cX0_forget 0 = .ok (.aload_n 0, 1) := by decide +kernel
theorem dX0_forget_1 : decode cX0_forget 1 = .ok (.iconst 0, 1) := by decide +kernel
theorem dX0_forget_2 : decode cX0_forget 2 = .ok (.putfield 24, 3) := by decide +kernel
theorem dX0_forget_5 : decode cX0_forget 5 = .ok (.return_, 1) := by decide +kernel
theorem dX1_init_0 : decode cX1_init 0 = .ok (.aload_n 0, 1) := by decide +kernel
theorem dX1_init_1 : decode cX1_init 1 = .ok (.invokespecial 3, 3) := by decide +kernel
theorem dX1_init_4 : decode cX1_init 4 = .ok (.aload_n 0, 1) := by decide +kernel
theorem dX1_init_5 : decode cX1_init 5 = .ok (.bipush 96, 2) := by decide +kernel
theorem dX1_init_7 : decode cX1_init 7 = .ok (.newarray .int, 2) := by decide +kernel
theorem dX1_init_9 : decode cX1_init 9 = .ok (.putfield 9, 3) := by decide +kernel
theorem dX1_init_12 : decode cX1_init 12 = .ok (.return_, 1) := by decide +kernel
theorem dX1_areFull_0 : decode cX1_areFull 0 = .ok (.aload_n 0, 1) := by decide +kernel
theorem dX1_areFull_1 : decode cX1_areFull 1 = .ok (.getfield 15, 3) := by decide +kernel
theorem dX1_areFull_4 : decode cX1_areFull 4 = .ok (.bipush 96, 2) := by decide +kernel
theorem dX1_areFull_6 : decode cX1_areFull 6 = .ok (.if_icmp .lt 7, 3) := by decide +kernel
theorem dX1_areFull_9 : decode cX1_areFull 9 = .ok (.iconst 1, 1) := by decide +kernel
theorem dX1_areFull_10 : decode cX1_areFull 10 = .ok (.goto 4, 3) := by decide +kernel
theorem dX1_areFull_13 : decode cX1_areFull 13 = .ok (.iconst 0, 1) := by decide +kernel
theorem dX1_areFull_14 : decode cX1_areFull 14 = .ok (.ireturn, 1) := by decide +kernel
theorem dX1_take_0 : decode cX1_take 0 = .ok (.aload_n 0, 1) := by decide +kernel
theorem dX1_take_1 : decode cX1_take 1 = .ok (.invokevirtual 19, 3) := by decide +kernel
theorem dX1_take_4 : decode cX1_take 4 = .ok (.ifCond .eq 8, 3) := by decide +kernel
theorem dX1_take_7 : decode cX1_take 7 = .ok (.aload_n 0, 1) := by decide +kernel
theorem dX1_take_8 : decode cX1_take 8 = .ok (.getfield 15, 3) := by decide +kernel
theorem dX1_take_11 : decode cX1_take 11 = .ok (.ireturn, 1) := by decide +kernel
theorem dX1_take_12 : decode cX1_take 12 = .ok (.aload_n 0, 1) := by decide +kernel
theorem dX1_take_13 : decode cX1_take 13 = .ok (.getfield 9, 3) := by decide +kernel
theorem dX1_take_16 : decode cX1_take 16 = .ok (.aload_n 0, 1) := by decide +kernel
theorem dX1_take_17 : decode cX1_take 17 = .ok (.getfield 15, 3) := by decide +kernel
theorem dX1_take_20 : decode cX1_take 20 = .ok (.iload_n 1, 1) := by decide +kernel
theorem dX1_take_21 : decode cX1_take 21 = .ok (.iastore, 1) := by decide +kernel
theorem dX1_take_22 : decode cX1_take 22 = .ok (.aload_n 0, 1) := by decide +kernel
theorem dX1_take_23 : decode cX1_take 23 = .ok (.dup, 1) := by decide +kernel
theorem dX1_take_24 : decode cX1_take 24 = .ok (.getfield 15, 3) := by decide +kernel
theorem dX1_take_27 : decode cX1_take 27 = .ok (.iconst 1, 1) := by decide +kernel
theorem dX1_take_28 : decode cX1_take 28 = .ok (.iadd, 1) := by decide +kernel
theorem dX1_take_29 : decode cX1_take 29 = .ok (.putfield 15, 3) := by decide +kernel
theorem dX1_take_32 : decode cX1_take 32 = .ok (.aload_n 0, 1) := by decide +kernel
theorem dX1_take_33 : decode cX1_take 33 = .ok (.getfield 15, 3) := by decide +kernel
theorem dX1_take_36 : decode cX1_take 36 = .ok (.ireturn, 1) := by decide +kernel
theorem dX1_drop_0 : decode cX1_drop 0 = .ok (.aload_n 0, 1) := by decide +kernel
theorem dX1_drop_1 : decode cX1_drop 1 = .ok (.iconst 0, 1) := by decide +kernel
theorem dX1_drop_2 : decode cX1_drop 2 = .ok (.putfield 15, 3) := by decide +kernel
theorem dX1_drop_5 : decode cX1_drop 5 = .ok (.return_, 1) := by decide +kernel
theorem dX1_tell_0 : decode cX1_tell 0 = .ok (.aload_n 0, 1) := by decide +kernel
theorem dX1_tell_1 : decode cX1_tell 1 = .ok (.invokevirtual 23, 3) := by decide +kernel
theorem dX1_tell_4 : decode cX1_tell 4 = .ok (.istore_n 2, 1) := by decide +kernel
theorem dX1_tell_5 : decode cX1_tell 5 = .ok (.iload_n 2, 1) := by decide +kernel
theorem dX1_tell_6 : decode cX1_tell 6 = .ok (.ifCond .lt 9, 3) := by decide +kernel
theorem dX1_tell_9 : decode cX1_tell 9 = .ok (.sipush (-1000), 3) := by decide +kernel
theorem dX1_tell_12 : decode cX1_tell 12 = .ok (.iload_n 2, 1) := by decide +kernel
theorem dX1_tell_13 : decode cX1_tell 13 = .ok (.isub, 1) := by decide +kernel
theorem dX1_tell_14 : decode cX1_tell 14 = .ok (.ireturn, 1) := by decide +kernel
theorem dX1_tell_15 : decode cX1_tell 15 = .ok (.iconst 0, 1) := by decide +kernel
theorem dX1_tell_16 : decode cX1_tell 16 = .ok (.istore_n 3, 1) := by decide +kernel
theorem dX1_tell_17 : decode cX1_tell 17 = .ok (.iconst 0, 1) := by decide +kernel
theorem dX1_tell_18 : decode cX1_tell 18 = .ok (.istore 4, 2) := by decide +kernel
theorem dX1_tell_20 : decode cX1_tell 20 = .ok (.iload 4, 2) := by decide +kernel
theorem dX1_tell_22 : decode cX1_tell 22 = .ok (.aload_n 0, 1) := by decide +kernel
theorem dX1_tell_23 : decode cX1_tell 23 = .ok (.getfield 15, 3) := by decide +kernel
theorem dX1_tell_26 : decode cX1_tell 26 = .ok (.if_icmp .ge 43, 3) := by decide +kernel
theorem dX1_tell_29 : decode cX1_tell 29 = .ok (.aload_n 0, 1) := by decide +kernel
theorem dX1_tell_30 : decode cX1_tell 30 = .ok (.aload_n 1, 1) := by decide +kernel
theorem dX1_tell_31 : decode cX1_tell 31 = .ok (.iload 4, 2) := by decide +kernel
theorem dX1_tell_33 : decode cX1_tell 33 = .ok (.invokevirtual 27, 3) := by decide +kernel
theorem dX1_tell_36 : decode cX1_tell 36 = .ok (.ifCond .ne 10, 3) := by decide +kernel
theorem dX1_tell_39 : decode cX1_tell 39 = .ok (.sipush (-2000), 3) := by decide +kernel
theorem dX1_tell_42 : decode cX1_tell 42 = .ok (.iload 4, 2) := by decide +kernel
theorem dX1_tell_44 : decode cX1_tell 44 = .ok (.isub, 1) := by decide +kernel
theorem dX1_tell_45 : decode cX1_tell 45 = .ok (.ireturn, 1) := by decide +kernel
theorem dX1_tell_46 : decode cX1_tell 46 = .ok (.iinc 3 1, 3) := by decide +kernel
theorem dX1_tell_49 : decode cX1_tell 49 = .ok (.iload 4, 2) := by decide +kernel
theorem dX1_tell_51 : decode cX1_tell 51 = .ok (.aload_n 0, 1) := by decide +kernel
theorem dX1_tell_52 : decode cX1_tell 52 = .ok (.getfield 9, 3) := by decide +kernel
theorem dX1_tell_55 : decode cX1_tell 55 = .ok (.iload 4, 2) := by decide +kernel
theorem dX1_tell_57 : decode cX1_tell 57 = .ok (.iaload, 1) := by decide +kernel
theorem dX1_tell_58 : decode cX1_tell 58 = .ok (.invokestatic 31, 3) := by decide +kernel
theorem dX1_tell_61 : decode cX1_tell 61 = .ok (.iconst 2, 1) := by decide +kernel
theorem dX1_tell_62 : decode cX1_tell 62 = .ok (.iadd, 1) := by decide +kernel
theorem dX1_tell_63 : decode cX1_tell 63 = .ok (.iadd, 1) := by decide +kernel
theorem dX1_tell_64 : decode cX1_tell 64 = .ok (.istore 4, 2) := by decide +kernel
theorem dX1_tell_66 : decode cX1_tell 66 = .ok (.goto (-46), 3) := by decide +kernel
theorem dX1_tell_69 : decode cX1_tell 69 = .ok (.iload_n 3, 1) := by decide +kernel
theorem dX1_tell_70 : decode cX1_tell 70 = .ok (.ireturn, 1) := by decide +kernel
theorem dX1_firstMisspelt_0 : decode cX1_firstMisspelt 0 = .ok (.aload_n 0, 1) := by decide +kernel
theorem dX1_firstMisspelt_1 : decode cX1_firstMisspelt 1 = .ok (.getfield 15, 3) := by decide +kernel
theorem dX1_firstMisspelt_4 : decode cX1_firstMisspelt 4 = .ok (.ifCond .ne 5, 3) := by decide +kernel
theorem dX1_firstMisspelt_7 : decode cX1_firstMisspelt 7 = .ok (.iconst 0, 1) := by decide +kernel
theorem dX1_firstMisspelt_8 : decode cX1_firstMisspelt 8 = .ok (.ireturn, 1) := by decide +kernel
theorem dX1_firstMisspelt_9 : decode cX1_firstMisspelt 9 = .ok (.iconst 0, 1) := by decide +kernel
theorem dX1_firstMisspelt_10 : decode cX1_firstMisspelt 10 = .ok (.istore_n 1, 1) := by decide +kernel
theorem dX1_firstMisspelt_11 : decode cX1_firstMisspelt 11 = .ok (.iload_n 1, 1) := by decide +kernel
theorem dX1_firstMisspelt_12 : decode cX1_firstMisspelt 12 = .ok (.aload_n 0, 1) := by decide +kernel
theorem dX1_firstMisspelt_13 : decode cX1_firstMisspelt 13 = .ok (.getfield 15, 3) := by decide +kernel
theorem dX1_firstMisspelt_16 : decode cX1_firstMisspelt 16 = .ok (.if_icmp .ge 32, 3) := by decide +kernel
theorem dX1_firstMisspelt_19 : decode cX1_firstMisspelt 19 = .ok (.aload_n 0, 1) := by decide +kernel
theorem dX1_firstMisspelt_20 : decode cX1_firstMisspelt 20 = .ok (.iload_n 1, 1) := by decide +kernel
theorem dX1_firstMisspelt_21 : decode cX1_firstMisspelt 21 = .ok (.invokevirtual 35, 3) := by decide +kernel
theorem dX1_firstMisspelt_24 : decode cX1_firstMisspelt 24 = .ok (.istore_n 2, 1) := by decide +kernel
theorem dX1_firstMisspelt_25 : decode cX1_firstMisspelt 25 = .ok (.iload_n 2, 1) := by decide +kernel
theorem dX1_firstMisspelt_26 : decode cX1_firstMisspelt 26 = .ok (.ifCond .lt 5, 3) := by decide +kernel
theorem dX1_firstMisspelt_29 : decode cX1_firstMisspelt 29 = .ok (.iload_n 2, 1) := by decide +kernel
theorem dX1_firstMisspelt_30 : decode cX1_firstMisspelt 30 = .ok (.ireturn, 1) := by decide +kernel
theorem dX1_firstMisspelt_31 : decode cX1_firstMisspelt 31 = .ok (.iload_n 1, 1) := by decide +kernel
theorem dX1_firstMisspelt_32 : decode cX1_firstMisspelt 32 = .ok (.aload_n 0, 1) := by decide +kernel
theorem dX1_firstMisspelt_33 : decode cX1_firstMisspelt 33 = .ok (.getfield 9, 3) := by decide +kernel
theorem dX1_firstMisspelt_36 : decode cX1_firstMisspelt 36 = .ok (.iload_n 1, 1) := by decide +kernel
theorem dX1_firstMisspelt_37 : decode cX1_firstMisspelt 37 = .ok (.iaload, 1) := by decide +kernel
theorem dX1_firstMisspelt_38 : decode cX1_firstMisspelt 38 = .ok (.invokestatic 31, 3) := by decide +kernel
theorem dX1_firstMisspelt_41 : decode cX1_firstMisspelt 41 = .ok (.iconst 2, 1) := by decide +kernel
theorem dX1_firstMisspelt_42 : decode cX1_firstMisspelt 42 = .ok (.iadd, 1) := by decide +kernel
theorem dX1_firstMisspelt_43 : decode cX1_firstMisspelt 43 = .ok (.iadd, 1) := by decide +kernel
theorem dX1_firstMisspelt_44 : decode cX1_firstMisspelt 44 = .ok (.istore_n 1, 1) := by decide +kernel
theorem dX1_firstMisspelt_45 : decode cX1_firstMisspelt 45 = .ok (.goto (-34), 3) := by decide +kernel
theorem dX1_firstMisspelt_48 : decode cX1_firstMisspelt 48 = .ok (.iconst (-1), 1) := by decide +kernel
theorem dX1_firstMisspelt_49 : decode cX1_firstMisspelt 49 = .ok (.ireturn, 1) := by decide +kernel
theorem dX1_misspeltFrom_0 : decode cX1_misspeltFrom 0 = .ok (.aload_n 0, 1) := by decide +kernel
theorem dX1_misspeltFrom_1 : decode cX1_misspeltFrom 1 = .ok (.getfield 9, 3) := by decide +kernel
theorem dX1_misspeltFrom_4 : decode cX1_misspeltFrom 4 = .ok (.iload_n 1, 1) := by decide +kernel
theorem dX1_misspeltFrom_5 : decode cX1_misspeltFrom 5 = .ok (.iaload, 1) := by decide +kernel
theorem dX1_misspeltFrom_6 : decode cX1_misspeltFrom 6 = .ok (.invokestatic 31, 3) := by decide +kernel
theorem dX1_misspeltFrom_9 : decode cX1_misspeltFrom 9 = .ok (.istore_n 2, 1) := by decide +kernel
theorem dX1_misspeltFrom_10 : decode cX1_misspeltFrom 10 = .ok (.iload_n 2, 1) := by decide +kernel
theorem dX1_misspeltFrom_11 : decode cX1_misspeltFrom 11 = .ok (.ifCond .ne 5, 3) := by decide +kernel
theorem dX1_misspeltFrom_14 : decode cX1_misspeltFrom 14 = .ok (.iload_n 1, 1) := by decide +kernel
theorem dX1_misspeltFrom_15 : decode cX1_misspeltFrom 15 = .ok (.ireturn, 1) := by decide +kernel
theorem dX1_misspeltFrom_16 : decode cX1_misspeltFrom 16 = .ok (.iload_n 1, 1) := by decide +kernel
theorem dX1_misspeltFrom_17 : decode cX1_misspeltFrom 17 = .ok (.iload_n 2, 1) := by decide +kernel
theorem dX1_misspeltFrom_18 : decode cX1_misspeltFrom 18 = .ok (.iadd, 1) := by decide +kernel
theorem dX1_misspeltFrom_19 : decode cX1_misspeltFrom 19 = .ok (.iconst 1, 1) := by decide +kernel
theorem dX1_misspeltFrom_20 : decode cX1_misspeltFrom 20 = .ok (.iadd, 1) := by decide +kernel
theorem dX1_misspeltFrom_21 : decode cX1_misspeltFrom 21 = .ok (.istore_n 3, 1) := by decide +kernel
theorem dX1_misspeltFrom_22 : decode cX1_misspeltFrom 22 = .ok (.iload_n 1, 1) := by decide +kernel
theorem dX1_misspeltFrom_23 : decode cX1_misspeltFrom 23 = .ok (.iconst 1, 1) := by decide +kernel
theorem dX1_misspeltFrom_24 : decode cX1_misspeltFrom 24 = .ok (.iadd, 1) := by decide +kernel
theorem dX1_misspeltFrom_25 : decode cX1_misspeltFrom 25 = .ok (.istore 4, 2) := by decide +kernel
theorem dX1_misspeltFrom_27 : decode cX1_misspeltFrom 27 = .ok (.iload 4, 2) := by decide +kernel
theorem dX1_misspeltFrom_29 : decode cX1_misspeltFrom 29 = .ok (.iload_n 3, 1) := by decide +kernel
theorem dX1_misspeltFrom_30 : decode cX1_misspeltFrom 30 = .ok (.if_icmp .ge 45, 3) := by decide +kernel
theorem dX1_misspeltFrom_33 : decode cX1_misspeltFrom 33 = .ok (.iload 4, 2) := by decide +kernel
theorem dX1_misspeltFrom_35 : decode cX1_misspeltFrom 35 = .ok (.aload_n 0, 1) := by decide +kernel
theorem dX1_misspeltFrom_36 : decode cX1_misspeltFrom 36 = .ok (.getfield 15, 3) := by decide +kernel
theorem dX1_misspeltFrom_39 : decode cX1_misspeltFrom 39 = .ok (.if_icmp .ge 27, 3) := by decide +kernel
theorem dX1_misspeltFrom_42 : decode cX1_misspeltFrom 42 = .ok (.aload_n 0, 1) := by decide +kernel
theorem dX1_misspeltFrom_43 : decode cX1_misspeltFrom 43 = .ok (.getfield 9, 3) := by decide +kernel
theorem dX1_misspeltFrom_46 : decode cX1_misspeltFrom 46 = .ok (.iload 4, 2) := by decide +kernel
theorem dX1_misspeltFrom_48 : decode cX1_misspeltFrom 48 = .ok (.iaload, 1) := by decide +kernel
theorem dX1_misspeltFrom_49 : decode cX1_misspeltFrom 49 = .ok (.bipush 48, 2) := by decide +kernel
theorem dX1_misspeltFrom_51 : decode cX1_misspeltFrom 51 = .ok (.if_icmp .lt 15, 3) := by decide +kernel
theorem dX1_misspeltFrom_54 : decode cX1_misspeltFrom 54 = .ok (.aload_n 0, 1) := by decide +kernel
theorem dX1_misspeltFrom_55 : decode cX1_misspeltFrom 55 = .ok (.getfield 9, 3) := by decide +kernel
theorem dX1_misspeltFrom_58 : decode cX1_misspeltFrom 58 = .ok (.iload 4, 2) := by decide +kernel
theorem dX1_misspeltFrom_60 : decode cX1_misspeltFrom 60 = .ok (.iaload, 1) := by decide +kernel
theorem dX1_misspeltFrom_61 : decode cX1_misspeltFrom 61 = .ok (.bipush 57, 2) := by decide +kernel
theorem dX1_misspeltFrom_63 : decode cX1_misspeltFrom 63 = .ok (.if_icmp .le 6, 3) := by decide +kernel
theorem dX1_misspeltFrom_66 : decode cX1_misspeltFrom 66 = .ok (.iload 4, 2) := by decide +kernel
theorem dX1_misspeltFrom_68 : decode cX1_misspeltFrom 68 = .ok (.ireturn, 1) := by decide +kernel
theorem dX1_misspeltFrom_69 : decode cX1_misspeltFrom 69 = .ok (.iinc 4 1, 3) := by decide +kernel
theorem dX1_misspeltFrom_72 : decode cX1_misspeltFrom 72 = .ok (.goto (-45), 3) := by decide +kernel
theorem dX1_misspeltFrom_75 : decode cX1_misspeltFrom 75 = .ok (.iload_n 3, 1) := by decide +kernel
theorem dX1_misspeltFrom_76 : decode cX1_misspeltFrom 76 = .ok (.aload_n 0, 1) := by decide +kernel
theorem dX1_misspeltFrom_77 : decode cX1_misspeltFrom 77 = .ok (.getfield 15, 3) := by decide +kernel
theorem dX1_misspeltFrom_80 : decode cX1_misspeltFrom 80 = .ok (.if_icmp .ge 18, 3) := by decide +kernel
theorem dX1_misspeltFrom_83 : decode cX1_misspeltFrom 83 = .ok (.aload_n 0, 1) := by decide +kernel
theorem dX1_misspeltFrom_84 : decode cX1_misspeltFrom 84 = .ok (.getfield 9, 3) := by decide +kernel
theorem dX1_misspeltFrom_87 : decode cX1_misspeltFrom 87 = .ok (.iload_n 3, 1) := by decide +kernel
theorem dX1_misspeltFrom_88 : decode cX1_misspeltFrom 88 = .ok (.iaload, 1) := by decide +kernel
theorem dX1_misspeltFrom_89 : decode cX1_misspeltFrom 89 = .ok (.bipush 59, 2) := by decide +kernel
theorem dX1_misspeltFrom_91 : decode cX1_misspeltFrom 91 = .ok (.if_icmp .ne 7, 3) := by decide +kernel
theorem dX1_misspeltFrom_94 : decode cX1_misspeltFrom 94 = .ok (.iconst (-1), 1) := by decide +kernel
theorem dX1_misspeltFrom_95 : decode cX1_misspeltFrom 95 = .ok (.goto 4, 3) := by decide +kernel
theorem dX1_misspeltFrom_98 : decode cX1_misspeltFrom 98 = .ok (.iload_n 3, 1) := by decide +kernel
theorem dX1_misspeltFrom_99 : decode cX1_misspeltFrom 99 = .ok (.ireturn, 1) := by decide +kernel
theorem dX1_digitsBehind_0 : decode cX1_digitsBehind 0 = .ok (.iload_n 0, 1) := by decide +kernel
theorem dX1_digitsBehind_1 : decode cX1_digitsBehind 1 = .ok (.tableswitch 103 101 119 #[101, 103, 97, 91, 103, 103, 103, 95, 103, 103, 99, 103, 103, 103, 103, 103, 103, 103, 93], 91) := by decide +kernel
theorem dX1_digitsBehind_92 : decode cX1_digitsBehind 92 = .ok (.iconst 4, 1) := by decide +kernel
theorem dX1_digitsBehind_93 : decode cX1_digitsBehind 93 = .ok (.ireturn, 1) := by decide +kernel
theorem dX1_digitsBehind_94 : decode cX1_digitsBehind 94 = .ok (.iconst 5, 1) := by decide +kernel
theorem dX1_digitsBehind_95 : decode cX1_digitsBehind 95 = .ok (.ireturn, 1) := by decide +kernel
theorem dX1_digitsBehind_96 : decode cX1_digitsBehind 96 = .ok (.iconst 1, 1) := by decide +kernel
theorem dX1_digitsBehind_97 : decode cX1_digitsBehind 97 = .ok (.ireturn, 1) := by decide +kernel
theorem dX1_digitsBehind_98 : decode cX1_digitsBehind 98 = .ok (.iconst 3, 1) := by decide +kernel
theorem dX1_digitsBehind_99 : decode cX1_digitsBehind 99 = .ok (.ireturn, 1) := by decide +kernel
theorem dX1_digitsBehind_100 : decode cX1_digitsBehind 100 = .ok (.iconst 2, 1) := by decide +kernel
theorem dX1_digitsBehind_101 : decode cX1_digitsBehind 101 = .ok (.ireturn, 1) := by decide +kernel
theorem dX1_digitsBehind_102 : decode cX1_digitsBehind 102 = .ok (.iconst 2, 1) := by decide +kernel
theorem dX1_digitsBehind_103 : decode cX1_digitsBehind 103 = .ok (.ireturn, 1) := by decide +kernel
theorem dX1_digitsBehind_104 : decode cX1_digitsBehind 104 = .ok (.iconst 0, 1) := by decide +kernel
theorem dX1_digitsBehind_105 : decode cX1_digitsBehind 105 = .ok (.ireturn, 1) := by decide +kernel
theorem dX1_tellStatement_0 : decode cX1_tellStatement 0 = .ok (.aload_n 0, 1) := by decide +kernel
theorem dX1_tellStatement_1 : decode cX1_tellStatement 1 = .ok (.getfield 9, 3) := by decide +kernel
theorem dX1_tellStatement_4 : decode cX1_tellStatement 4 = .ok (.iload_n 2, 1) := by decide +kernel
theorem dX1_tellStatement_5 : decode cX1_tellStatement 5 = .ok (.iaload, 1) := by decide +kernel
theorem dX1_tellStatement_6 : decode cX1_tellStatement 6 = .ok (.tableswitch 204 101 119 #[192, 204, 154, 90, 204, 204, 204, 142, 204, 204, 173, 204, 204, 204, 204, 204, 204, 204, 116], 90) := by decide +kernel
theorem dX1_tellStatement_96 : decode cX1_tellStatement 96 = .ok (.aload_n 1, 1) := by decide +kernel
theorem dX1_tellStatement_97 : decode cX1_tellStatement 97 = .ok (.aload_n 0, 1) := by decide +kernel
theorem dX1_tellStatement_98 : decode cX1_tellStatement 98 = .ok (.iload_n 2, 1) := by decide +kernel
theorem dX1_tellStatement_99 : decode cX1_tellStatement 99 = .ok (.iconst 1, 1) := by decide +kernel
theorem dX1_tellStatement_100 : decode cX1_tellStatement 100 = .ok (.iadd, 1) := by decide +kernel
theorem dX1_tellStatement_101 : decode cX1_tellStatement 101 = .ok (.invokevirtual 38, 3) := by decide +kernel
theorem dX1_tellStatement_104 : decode cX1_tellStatement 104 = .ok (.aload_n 0, 1) := by decide +kernel
theorem dX1_tellStatement_105 : decode cX1_tellStatement 105 = .ok (.iload_n 2, 1) := by decide +kernel
theorem dX1_tellStatement_106 : decode cX1_tellStatement 106 = .ok (.iconst 2, 1) := by decide +kernel
theorem dX1_tellStatement_107 : decode cX1_tellStatement 107 = .ok (.iadd, 1) := by decide +kernel
theorem dX1_tellStatement_108 : decode cX1_tellStatement 108 = .ok (.invokevirtual 38, 3) := by decide +kernel
theorem dX1_tellStatement_111 : decode cX1_tellStatement 111 = .ok (.aload_n 0, 1) := by decide +kernel
theorem dX1_tellStatement_112 : decode cX1_tellStatement 112 = .ok (.iload_n 2, 1) := by decide +kernel
theorem dX1_tellStatement_113 : decode cX1_tellStatement 113 = .ok (.iconst 3, 1) := by decide +kernel
theorem dX1_tellStatement_114 : decode cX1_tellStatement 114 = .ok (.iadd, 1) := by decide +kernel
theorem dX1_tellStatement_115 : decode cX1_tellStatement 115 = .ok (.invokevirtual 41, 3) := by decide +kernel
theorem dX1_tellStatement_118 : decode cX1_tellStatement 118 = .ok (.invokevirtual 44, 3) := by decide +kernel
theorem dX1_tellStatement_121 : decode cX1_tellStatement 121 = .ok (.ireturn, 1) := by decide +kernel
theorem dX1_tellStatement_122 : decode cX1_tellStatement 122 = .ok (.aload_n 1, 1) := by decide +kernel
theorem dX1_tellStatement_123 : decode cX1_tellStatement 123 = .ok (.aload_n 0, 1) := by decide +kernel
theorem dX1_tellStatement_124 : decode cX1_tellStatement 124 = .ok (.iload_n 2, 1) := by decide +kernel
theorem dX1_tellStatement_125 : decode cX1_tellStatement 125 = .ok (.iconst 1, 1) := by decide +kernel
theorem dX1_tellStatement_126 : decode cX1_tellStatement 126 = .ok (.iadd, 1) := by decide +kernel
theorem dX1_tellStatement_127 : decode cX1_tellStatement 127 = .ok (.invokevirtual 41, 3) := by decide +kernel
theorem dX1_tellStatement_130 : decode cX1_tellStatement 130 = .ok (.aload_n 0, 1) := by decide +kernel
theorem dX1_tellStatement_131 : decode cX1_tellStatement 131 = .ok (.iload_n 2, 1) := by decide +kernel
theorem dX1_tellStatement_132 : decode cX1_tellStatement 132 = .ok (.iconst 3, 1) := by decide +kernel
theorem dX1_tellStatement_133 : decode cX1_tellStatement 133 = .ok (.iadd, 1) := by decide +kernel
theorem dX1_tellStatement_134 : decode cX1_tellStatement 134 = .ok (.invokevirtual 41, 3) := by decide +kernel
theorem dX1_tellStatement_137 : decode cX1_tellStatement 137 = .ok (.aload_n 0, 1) := by decide +kernel
theorem dX1_tellStatement_138 : decode cX1_tellStatement 138 = .ok (.iload_n 2, 1) := by decide +kernel
theorem dX1_tellStatement_139 : decode cX1_tellStatement 139 = .ok (.iconst 5, 1) := by decide +kernel
theorem dX1_tellStatement_140 : decode cX1_tellStatement 140 = .ok (.iadd, 1) := by decide +kernel
theorem dX1_tellStatement_141 : decode cX1_tellStatement 141 = .ok (.invokevirtual 38, 3) := by decide +kernel
theorem dX1_tellStatement_144 : decode cX1_tellStatement 144 = .ok (.invokevirtual 50, 3) := by decide +kernel
theorem dX1_tellStatement_147 : decode cX1_tellStatement 147 = .ok (.ireturn, 1) := by decide +kernel
theorem dX1_tellStatement_148 : decode cX1_tellStatement 148 = .ok (.aload_n 1, 1) := by decide +kernel
theorem dX1_tellStatement_149 : decode cX1_tellStatement 149 = .ok (.aload_n 0, 1) := by decide +kernel
theorem dX1_tellStatement_150 : decode cX1_tellStatement 150 = .ok (.iload_n 2, 1) := by decide +kernel
theorem dX1_tellStatement_151 : decode cX1_tellStatement 151 = .ok (.iconst 1, 1) := by decide +kernel
theorem dX1_tellStatement_152 : decode cX1_tellStatement 152 = .ok (.iadd, 1) := by decide +kernel
theorem dX1_tellStatement_153 : decode cX1_tellStatement 153 = .ok (.invokevirtual 38, 3) := by decide +kernel
theorem dX1_tellStatement_156 : decode cX1_tellStatement 156 = .ok (.invokevirtual 53, 3) := by decide +kernel
theorem dX1_tellStatement_159 : decode cX1_tellStatement 159 = .ok (.ireturn, 1) := by decide +kernel
theorem dX1_tellStatement_160 : decode cX1_tellStatement 160 = .ok (.aload_n 1, 1) := by decide +kernel
theorem dX1_tellStatement_161 : decode cX1_tellStatement 161 = .ok (.aload_n 0, 1) := by decide +kernel
theorem dX1_tellStatement_162 : decode cX1_tellStatement 162 = .ok (.iload_n 2, 1) := by decide +kernel
theorem dX1_tellStatement_163 : decode cX1_tellStatement 163 = .ok (.iconst 1, 1) := by decide +kernel
theorem dX1_tellStatement_164 : decode cX1_tellStatement 164 = .ok (.iadd, 1) := by decide +kernel
theorem dX1_tellStatement_165 : decode cX1_tellStatement 165 = .ok (.invokevirtual 38, 3) := by decide +kernel
theorem dX1_tellStatement_168 : decode cX1_tellStatement 168 = .ok (.aload_n 0, 1) := by decide +kernel
theorem dX1_tellStatement_169 : decode cX1_tellStatement 169 = .ok (.iload_n 2, 1) := by decide +kernel
theorem dX1_tellStatement_170 : decode cX1_tellStatement 170 = .ok (.iconst 2, 1) := by decide +kernel
theorem dX1_tellStatement_171 : decode cX1_tellStatement 171 = .ok (.iadd, 1) := by decide +kernel
theorem dX1_tellStatement_172 : decode cX1_tellStatement 172 = .ok (.invokevirtual 41, 3) := by decide +kernel
theorem dX1_tellStatement_175 : decode cX1_tellStatement 175 = .ok (.invokevirtual 57, 3) := by decide +kernel
theorem dX1_tellStatement_178 : decode cX1_tellStatement 178 = .ok (.ireturn, 1) := by decide +kernel
theorem dX1_tellStatement_179 : decode cX1_tellStatement 179 = .ok (.aload_n 1, 1) := by decide +kernel
theorem dX1_tellStatement_180 : decode cX1_tellStatement 180 = .ok (.aload_n 0, 1) := by decide +kernel
theorem dX1_tellStatement_181 : decode cX1_tellStatement 181 = .ok (.iload_n 2, 1) := by decide +kernel
theorem dX1_tellStatement_182 : decode cX1_tellStatement 182 = .ok (.iconst 1, 1) := by decide +kernel
theorem dX1_tellStatement_183 : decode cX1_tellStatement 183 = .ok (.iadd, 1) := by decide +kernel
theorem dX1_tellStatement_184 : decode cX1_tellStatement 184 = .ok (.invokevirtual 38, 3) := by decide +kernel
theorem dX1_tellStatement_187 : decode cX1_tellStatement 187 = .ok (.aload_n 0, 1) := by decide +kernel
theorem dX1_tellStatement_188 : decode cX1_tellStatement 188 = .ok (.iload_n 2, 1) := by decide +kernel
theorem dX1_tellStatement_189 : decode cX1_tellStatement 189 = .ok (.iconst 2, 1) := by decide +kernel
theorem dX1_tellStatement_190 : decode cX1_tellStatement 190 = .ok (.iadd, 1) := by decide +kernel
theorem dX1_tellStatement_191 : decode cX1_tellStatement 191 = .ok (.invokevirtual 38, 3) := by decide +kernel
theorem dX1_tellStatement_194 : decode cX1_tellStatement 194 = .ok (.invokevirtual 61, 3) := by decide +kernel
theorem dX1_tellStatement_197 : decode cX1_tellStatement 197 = .ok (.ireturn, 1) := by decide +kernel
theorem dX1_tellStatement_198 : decode cX1_tellStatement 198 = .ok (.aload_n 1, 1) := by decide +kernel
theorem dX1_tellStatement_199 : decode cX1_tellStatement 199 = .ok (.aload_n 0, 1) := by decide +kernel
theorem dX1_tellStatement_200 : decode cX1_tellStatement 200 = .ok (.iload_n 2, 1) := by decide +kernel
theorem dX1_tellStatement_201 : decode cX1_tellStatement 201 = .ok (.iconst 1, 1) := by decide +kernel
theorem dX1_tellStatement_202 : decode cX1_tellStatement 202 = .ok (.iadd, 1) := by decide +kernel
theorem dX1_tellStatement_203 : decode cX1_tellStatement 203 = .ok (.invokevirtual 41, 3) := by decide +kernel
theorem dX1_tellStatement_206 : decode cX1_tellStatement 206 = .ok (.invokevirtual 64, 3) := by decide +kernel
theorem dX1_tellStatement_209 : decode cX1_tellStatement 209 = .ok (.ireturn, 1) := by decide +kernel
theorem dX1_tellStatement_210 : decode cX1_tellStatement 210 = .ok (.iconst 0, 1) := by decide +kernel
theorem dX1_tellStatement_211 : decode cX1_tellStatement 211 = .ok (.ireturn, 1) := by decide +kernel
theorem dX1_digit_0 : decode cX1_digit 0 = .ok (.iload_n 1, 1) := by decide +kernel
theorem dX1_digit_1 : decode cX1_digit 1 = .ok (.aload_n 0, 1) := by decide +kernel
theorem dX1_digit_2 : decode cX1_digit 2 = .ok (.getfield 15, 3) := by decide +kernel
theorem dX1_digit_5 : decode cX1_digit 5 = .ok (.if_icmp .ge 15, 3) := by decide +kernel
theorem dX1_digit_8 : decode cX1_digit 8 = .ok (.aload_n 0, 1) := by decide +kernel
theorem dX1_digit_9 : decode cX1_digit 9 = .ok (.getfield 9, 3) := by decide +kernel
theorem dX1_digit_12 : decode cX1_digit 12 = .ok (.iload_n 1, 1) := by decide +kernel
theorem dX1_digit_13 : decode cX1_digit 13 = .ok (.iaload, 1) := by decide +kernel
theorem dX1_digit_14 : decode cX1_digit 14 = .ok (.bipush 48, 2) := by decide +kernel
theorem dX1_digit_16 : decode cX1_digit 16 = .ok (.isub, 1) := by decide +kernel
theorem dX1_digit_17 : decode cX1_digit 17 = .ok (.goto 4, 3) := by decide +kernel
theorem dX1_digit_20 : decode cX1_digit 20 = .ok (.iconst 0, 1) := by decide +kernel
theorem dX1_digit_21 : decode cX1_digit 21 = .ok (.ireturn, 1) := by decide +kernel
theorem dX1_pair_0 : decode cX1_pair 0 = .ok (.bipush 10, 2) := by decide +kernel
theorem dX1_pair_2 : decode cX1_pair 2 = .ok (.aload_n 0, 1) := by decide +kernel
theorem dX1_pair_3 : decode cX1_pair 3 = .ok (.iload_n 1, 1) := by decide +kernel
theorem dX1_pair_4 : decode cX1_pair 4 = .ok (.invokevirtual 38, 3) := by decide +kernel
theorem dX1_pair_7 : decode cX1_pair 7 = .ok (.imul, 1) := by decide +kernel
theorem dX1_pair_8 : decode cX1_pair 8 = .ok (.aload_n 0, 1) := by decide +kernel
theorem dX1_pair_9 : decode cX1_pair 9 = .ok (.iload_n 1, 1) := by decide +kernel
theorem dX1_pair_10 : decode cX1_pair 10 = .ok (.iconst 1, 1) := by decide +kernel
theorem dX1_pair_11 : decode cX1_pair 11 = .ok (.iadd, 1) := by decide +kernel
theorem dX1_pair_12 : decode cX1_pair 12 = .ok (.invokevirtual 38, 3) := by decide +kernel
theorem dX1_pair_15 : decode cX1_pair 15 = .ok (.iadd, 1) := by decide +kernel
theorem dX1_pair_16 : decode cX1_pair 16 = .ok (.ireturn, 1) := by decide +kernel
theorem dX2_init_0 : decode cX2_init 0 = .ok (.aload_n 0, 1) := by decide +kernel
theorem dX2_init_1 : decode cX2_init 1 = .ok (.invokespecial 3, 3) := by decide +kernel
theorem dX2_init_4 : decode cX2_init 4 = .ok (.aload_n 0, 1) := by decide +kernel
theorem dX2_init_5 : decode cX2_init 5 = .ok (.sipush 896, 3) := by decide +kernel
theorem dX2_init_8 : decode cX2_init 8 = .ok (.newarray .int, 2) := by decide +kernel
theorem dX2_init_10 : decode cX2_init 10 = .ok (.putfield 9, 3) := by decide +kernel
theorem dX2_init_13 : decode cX2_init 13 = .ok (.return_, 1) := by decide +kernel
theorem dX2_plan_0 : decode cX2_plan 0 = .ok (.aload_n 0, 1) := by decide +kernel
theorem dX2_plan_1 : decode cX2_plan 1 = .ok (.aload_n 1, 1) := by decide +kernel
theorem dX2_plan_2 : decode cX2_plan 2 = .ok (.iload_n 2, 1) := by decide +kernel
theorem dX2_plan_3 : decode cX2_plan 3 = .ok (.iconst 0, 1) := by decide +kernel
theorem dX2_plan_4 : decode cX2_plan 4 = .ok (.invokevirtual 15, 3) := by decide +kernel
theorem dX2_plan_7 : decode cX2_plan 7 = .ok (.putfield 21, 3) := by decide +kernel
theorem dX2_plan_10 : decode cX2_plan 10 = .ok (.iconst 0, 1) := by decide +kernel
theorem dX2_plan_11 : decode cX2_plan 11 = .ok (.istore_n 3, 1) := by decide +kernel
theorem dX2_plan_12 : decode cX2_plan 12 = .ok (.iload_n 3, 1) := by decide +kernel
theorem dX2_plan_13 : decode cX2_plan 13 = .ok (.aload_n 0, 1) := by decide +kernel
theorem dX2_plan_14 : decode cX2_plan 14 = .ok (.getfield 21, 3) := by decide +kernel
theorem dX2_plan_17 : decode cX2_plan 17 = .ok (.if_icmp .gt 66, 3) := by decide +kernel
theorem dX2_plan_20 : decode cX2_plan 20 = .ok (.iload_n 3, 1) := by decide +kernel
theorem dX2_plan_21 : decode cX2_plan 21 = .ok (.aload_n 0, 1) := by decide +kernel
theorem dX2_plan_22 : decode cX2_plan 22 = .ok (.getfield 21, 3) := by decide +kernel
theorem dX2_plan_25 : decode cX2_plan 25 = .ok (.iconst (-1), 1) := by decide +kernel
theorem dX2_plan_26 : decode cX2_plan 26 = .ok (.ixor, 1) := by decide +kernel
theorem dX2_plan_27 : decode cX2_plan 27 = .ok (.iand, 1) := by decide +kernel
theorem dX2_plan_28 : decode cX2_plan 28 = .ok (.ifCond .eq 6, 3) := by decide +kernel
theorem dX2_plan_31 : decode cX2_plan 31 = .ok (.goto 46, 3) := by decide +kernel
theorem dX2_plan_34 : decode cX2_plan 34 = .ok (.iconst 0, 1) := by decide +kernel
theorem dX2_plan_35 : decode cX2_plan 35 = .ok (.istore 4, 2) := by decide +kernel
theorem dX2_plan_37 : decode cX2_plan 37 = .ok (.iload 4, 2) := by decide +kernel
theorem dX2_plan_39 : decode cX2_plan 39 = .ok (.aload_n 1, 1) := by decide +kernel
theorem dX2_plan_40 : decode cX2_plan 40 = .ok (.getfield 25, 3) := by decide +kernel
theorem dX2_plan_43 : decode cX2_plan 43 = .ok (.if_icmp .ge 34, 3) := by decide +kernel
theorem dX2_plan_46 : decode cX2_plan 46 = .ok (.aload_n 0, 1) := by decide +kernel
theorem dX2_plan_47 : decode cX2_plan 47 = .ok (.getfield 9, 3) := by decide +kernel
theorem dX2_plan_50 : decode cX2_plan 50 = .ok (.iload_n 3, 1) := by decide +kernel
theorem dX2_plan_51 : decode cX2_plan 51 = .ok (.bipush 7, 2) := by decide +kernel
theorem dX2_plan_53 : decode cX2_plan 53 = .ok (.imul, 1) := by decide +kernel
theorem dX2_plan_54 : decode cX2_plan 54 = .ok (.iload 4, 2) := by decide +kernel
theorem dX2_plan_56 : decode cX2_plan 56 = .ok (.iadd, 1) := by decide +kernel
theorem dX2_plan_57 : decode cX2_plan 57 = .ok (.aload_n 0, 1) := by decide +kernel
theorem dX2_plan_58 : decode cX2_plan 58 = .ok (.aload_n 1, 1) := by decide +kernel
theorem dX2_plan_59 : decode cX2_plan 59 = .ok (.aload_n 1, 1) := by decide +kernel
theorem dX2_plan_60 : decode cX2_plan 60 = .ok (.getfield 28, 3) := by decide +kernel
theorem dX2_plan_63 : decode cX2_plan 63 = .ok (.iload 4, 2) := by decide +kernel
theorem dX2_plan_65 : decode cX2_plan 65 = .ok (.iaload, 1) := by decide +kernel
theorem dX2_plan_66 : decode cX2_plan 66 = .ok (.iload_n 3, 1) := by decide +kernel
theorem dX2_plan_67 : decode cX2_plan 67 = .ok (.invokevirtual 31, 3) := by decide +kernel
theorem dX2_plan_70 : decode cX2_plan 70 = .ok (.iastore, 1) := by decide +kernel
theorem dX2_plan_71 : decode cX2_plan 71 = .ok (.iinc 4 1, 3) := by decide +kernel
theorem dX2_plan_74 : decode cX2_plan 74 = .ok (.goto (-37), 3) := by decide +kernel
theorem dX2_plan_77 : decode cX2_plan 77 = .ok (.iinc 3 1, 3) := by decide +kernel
theorem dX2_plan_80 : decode cX2_plan 80 = .ok (.goto (-68), 3) := by decide +kernel
theorem dX2_plan_83 : decode cX2_plan 83 = .ok (.return_, 1) := by decide +kernel
theorem dX2_fewest_0 : decode cX2_fewest 0 = .ok (.aload_n 0, 1) := by decide +kernel
theorem dX2_fewest_1 : decode cX2_fewest 1 = .ok (.aload_n 1, 1) := by decide +kernel
theorem dX2_fewest_2 : decode cX2_fewest 2 = .ok (.iload_n 2, 1) := by decide +kernel
theorem dX2_fewest_3 : decode cX2_fewest 3 = .ok (.iload_n 3, 1) := by decide +kernel
theorem dX2_fewest_4 : decode cX2_fewest 4 = .ok (.invokevirtual 35, 3) := by decide +kernel
theorem dX2_fewest_7 : decode cX2_fewest 7 = .ok (.istore 4, 2) := by decide +kernel
theorem dX2_fewest_9 : decode cX2_fewest 9 = .ok (.iload 4, 2) := by decide +kernel
theorem dX2_fewest_11 : decode cX2_fewest 11 = .ok (.bipush (-9), 2) := by decide +kernel
theorem dX2_fewest_13 : decode cX2_fewest 13 = .ok (.if_icmp .ne 7, 3) := by decide +kernel
theorem dX2_fewest_16 : decode cX2_fewest 16 = .ok (.iconst 0, 1) := by decide +kernel
theorem dX2_fewest_17 : decode cX2_fewest 17 = .ok (.goto 12, 3) := by decide +kernel
theorem dX2_fewest_20 : decode cX2_fewest 20 = .ok (.aload_n 0, 1) := by decide +kernel
theorem dX2_fewest_21 : decode cX2_fewest 21 = .ok (.aload_n 1, 1) := by decide +kernel
theorem dX2_fewest_22 : decode cX2_fewest 22 = .ok (.iload_n 2, 1) := by decide +kernel
theorem dX2_fewest_23 : decode cX2_fewest 23 = .ok (.iload_n 3, 1) := by decide +kernel
theorem dX2_fewest_24 : decode cX2_fewest 24 = .ok (.iload 4, 2) := by decide +kernel
theorem dX2_fewest_26 : decode cX2_fewest 26 = .ok (.invokevirtual 38, 3) := by decide +kernel
theorem dX2_fewest_29 : decode cX2_fewest 29 = .ok (.ireturn, 1) := by decide +kernel
theorem dX2_stop_0 : decode cX2_stop 0 = .ok (.aload_n 0, 1) := by decide +kernel
theorem dX2_stop_1 : decode cX2_stop 1 = .ok (.getfield 21, 3) := by decide +kernel
theorem dX2_stop_4 : decode cX2_stop 4 = .ok (.istore 4, 2) := by decide +kernel
theorem dX2_stop_6 : decode cX2_stop 6 = .ok (.iload_n 2, 1) := by decide +kernel
theorem dX2_stop_7 : decode cX2_stop 7 = .ok (.istore 5, 2) := by decide +kernel
theorem dX2_stop_9 : decode cX2_stop 9 = .ok (.iconst 0, 1) := by decide +kernel
theorem dX2_stop_10 : decode cX2_stop 10 = .ok (.istore 6, 2) := by decide +kernel
theorem dX2_stop_12 : decode cX2_stop 12 = .ok (.iload 6, 2) := by decide +kernel
theorem dX2_stop_14 : decode cX2_stop 14 = .ok (.bipush 7, 2) := by decide +kernel
theorem dX2_stop_16 : decode cX2_stop 16 = .ok (.if_icmp .ge 56, 3) := by decide +kernel
theorem dX2_stop_19 : decode cX2_stop 19 = .ok (.aload_n 0, 1) := by decide +kernel
theorem dX2_stop_20 : decode cX2_stop 20 = .ok (.aload_n 1, 1) := by decide +kernel
theorem dX2_stop_21 : decode cX2_stop 21 = .ok (.iload 5, 2) := by decide +kernel
theorem dX2_stop_23 : decode cX2_stop 23 = .ok (.iload 4, 2) := by decide +kernel
theorem dX2_stop_25 : decode cX2_stop 25 = .ok (.invokevirtual 35, 3) := by decide +kernel
theorem dX2_stop_28 : decode cX2_stop 28 = .ok (.istore 7, 2) := by decide +kernel
theorem dX2_stop_30 : decode cX2_stop 30 = .ok (.iload 7, 2) := by decide +kernel
theorem dX2_stop_32 : decode cX2_stop 32 = .ok (.bipush (-9), 2) := by decide +kernel
theorem dX2_stop_34 : decode cX2_stop 34 = .ok (.if_icmp .eq 9, 3) := by decide +kernel
theorem dX2_stop_37 : decode cX2_stop 37 = .ok (.iload 6, 2) := by decide +kernel
theorem dX2_stop_39 : decode cX2_stop 39 = .ok (.iload_n 3, 1) := by decide +kernel
theorem dX2_stop_40 : decode cX2_stop 40 = .ok (.if_icmp .ne 6, 3) := by decide +kernel
theorem dX2_stop_43 : decode cX2_stop 43 = .ok (.iload 7, 2) := by decide +kernel
theorem dX2_stop_45 : decode cX2_stop 45 = .ok (.ireturn, 1) := by decide +kernel
theorem dX2_stop_46 : decode cX2_stop 46 = .ok (.aload_n 1, 1) := by decide +kernel
theorem dX2_stop_47 : decode cX2_stop 47 = .ok (.getfield 28, 3) := by decide +kernel
theorem dX2_stop_50 : decode cX2_stop 50 = .ok (.iload 7, 2) := by decide +kernel
theorem dX2_stop_52 : decode cX2_stop 52 = .ok (.iaload, 1) := by decide +kernel
theorem dX2_stop_53 : decode cX2_stop 53 = .ok (.istore 5, 2) := by decide +kernel
theorem dX2_stop_55 : decode cX2_stop 55 = .ok (.iload 4, 2) := by decide +kernel
theorem dX2_stop_57 : decode cX2_stop 57 = .ok (.iconst 1, 1) := by decide +kernel
theorem dX2_stop_58 : decode cX2_stop 58 = .ok (.iload 7, 2) := by decide +kernel
theorem dX2_stop_60 : decode cX2_stop 60 = .ok (.ishl, 1) := by decide +kernel
theorem dX2_stop_61 : decode cX2_stop 61 = .ok (.iconst (-1), 1) := by decide +kernel
theorem dX2_stop_62 : decode cX2_stop 62 = .ok (.ixor, 1) := by decide +kernel
theorem dX2_stop_63 : decode cX2_stop 63 = .ok (.iand, 1) := by decide +kernel
theorem dX2_stop_64 : decode cX2_stop 64 = .ok (.istore 4, 2) := by decide +kernel
theorem dX2_stop_66 : decode cX2_stop 66 = .ok (.iinc 6 1, 3) := by decide +kernel
theorem dX2_stop_69 : decode cX2_stop 69 = .ok (.goto (-57), 3) := by decide +kernel
theorem dX2_stop_72 : decode cX2_stop 72 = .ok (.bipush (-9), 2) := by decide +kernel
theorem dX2_stop_74 : decode cX2_stop 74 = .ok (.ireturn, 1) := by decide +kernel
theorem dX2_nextDoor_0 : decode cX2_nextDoor 0 = .ok (.bipush (-9), 2) := by decide +kernel
theorem dX2_nextDoor_2 : decode cX2_nextDoor 2 = .ok (.istore 4, 2) := by decide +kernel
theorem dX2_nextDoor_4 : decode cX2_nextDoor 4 = .ok (.iconst 0, 1) := by decide +kernel
theorem dX2_nextDoor_5 : decode cX2_nextDoor 5 = .ok (.istore 5, 2) := by decide +kernel
theorem dX2_nextDoor_7 : decode cX2_nextDoor 7 = .ok (.iconst 0, 1) := by decide +kernel
theorem dX2_nextDoor_8 : decode cX2_nextDoor 8 = .ok (.istore 6, 2) := by decide +kernel
theorem dX2_nextDoor_10 : decode cX2_nextDoor 10 = .ok (.iload 6, 2) := by decide +kernel
theorem dX2_nextDoor_12 : decode cX2_nextDoor 12 = .ok (.aload_n 1, 1) := by decide +kernel
theorem dX2_nextDoor_13 : decode cX2_nextDoor 13 = .ok (.getfield 25, 3) := by decide +kernel
theorem dX2_nextDoor_16 : decode cX2_nextDoor 16 = .ok (.if_icmp .ge 54, 3) := by decide +kernel
theorem dX2_nextDoor_19 : decode cX2_nextDoor 19 = .ok (.iload_n 3, 1) := by decide +kernel
theorem dX2_nextDoor_20 : decode cX2_nextDoor 20 = .ok (.iload 6, 2) := by decide +kernel
theorem dX2_nextDoor_22 : decode cX2_nextDoor 22 = .ok (.ishr, 1) := by decide +kernel
theorem dX2_nextDoor_23 : decode cX2_nextDoor 23 = .ok (.iconst 1, 1) := by decide +kernel
theorem dX2_nextDoor_24 : decode cX2_nextDoor 24 = .ok (.iand, 1) := by decide +kernel
theorem dX2_nextDoor_25 : decode cX2_nextDoor 25 = .ok (.ifCond .ne 6, 3) := by decide +kernel
theorem dX2_nextDoor_28 : decode cX2_nextDoor 28 = .ok (.goto 36, 3) := by decide +kernel
theorem dX2_nextDoor_31 : decode cX2_nextDoor 31 = .ok (.aload_n 0, 1) := by decide +kernel
theorem dX2_nextDoor_32 : decode cX2_nextDoor 32 = .ok (.aload_n 1, 1) := by decide +kernel
theorem dX2_nextDoor_33 : decode cX2_nextDoor 33 = .ok (.iload_n 2, 1) := by decide +kernel
theorem dX2_nextDoor_34 : decode cX2_nextDoor 34 = .ok (.iload_n 3, 1) := by decide +kernel
theorem dX2_nextDoor_35 : decode cX2_nextDoor 35 = .ok (.iload 6, 2) := by decide +kernel
theorem dX2_nextDoor_37 : decode cX2_nextDoor 37 = .ok (.invokevirtual 38, 3) := by decide +kernel
theorem dX2_nextDoor_40 : decode cX2_nextDoor 40 = .ok (.istore 7, 2) := by decide +kernel
theorem dX2_nextDoor_42 : decode cX2_nextDoor 42 = .ok (.iload 4, 2) := by decide +kernel
theorem dX2_nextDoor_44 : decode cX2_nextDoor 44 = .ok (.bipush (-9), 2) := by decide +kernel
theorem dX2_nextDoor_46 : decode cX2_nextDoor 46 = .ok (.if_icmp .eq 10, 3) := by decide +kernel
theorem dX2_nextDoor_49 : decode cX2_nextDoor 49 = .ok (.iload 7, 2) := by decide +kernel
theorem dX2_nextDoor_51 : decode cX2_nextDoor 51 = .ok (.iload 5, 2) := by decide +kernel
theorem dX2_nextDoor_53 : decode cX2_nextDoor 53 = .ok (.if_icmp .ge 11, 3) := by decide +kernel
theorem dX2_nextDoor_56 : decode cX2_nextDoor 56 = .ok (.iload 7, 2) := by decide +kernel
theorem dX2_nextDoor_58 : decode cX2_nextDoor 58 = .ok (.istore 5, 2) := by decide +kernel
theorem dX2_nextDoor_60 : decode cX2_nextDoor 60 = .ok (.iload 6, 2) := by decide +kernel
theorem dX2_nextDoor_62 : decode cX2_nextDoor 62 = .ok (.istore 4, 2) := by decide +kernel
theorem dX2_nextDoor_64 : decode cX2_nextDoor 64 = .ok (.iinc 6 1, 3) := by decide +kernel
theorem dX2_nextDoor_67 : decode cX2_nextDoor 67 = .ok (.goto (-57), 3) := by decide +kernel
theorem dX2_nextDoor_70 : decode cX2_nextDoor 70 = .ok (.iload 4, 2) := by decide +kernel
theorem dX2_nextDoor_72 : decode cX2_nextDoor 72 = .ok (.ireturn, 1) := by decide +kernel
theorem dX2_stepsBy_0 : decode cX2_stepsBy 0 = .ok (.iload_n 2, 1) := by decide +kernel
theorem dX2_stepsBy_1 : decode cX2_stepsBy 1 = .ok (.aload_n 1, 1) := by decide +kernel
theorem dX2_stepsBy_2 : decode cX2_stepsBy 2 = .ok (.getfield 28, 3) := by decide +kernel
theorem dX2_stepsBy_5 : decode cX2_stepsBy 5 = .ok (.iload 4, 2) := by decide +kernel
theorem dX2_stepsBy_7 : decode cX2_stepsBy 7 = .ok (.iaload, 1) := by decide +kernel
theorem dX2_stepsBy_8 : decode cX2_stepsBy 8 = .ok (.invokestatic 42, 3) := by decide +kernel
theorem dX2_stepsBy_11 : decode cX2_stepsBy 11 = .ok (.aload_n 0, 1) := by decide +kernel
theorem dX2_stepsBy_12 : decode cX2_stepsBy 12 = .ok (.getfield 9, 3) := by decide +kernel
theorem dX2_stepsBy_15 : decode cX2_stepsBy 15 = .ok (.iload_n 3, 1) := by decide +kernel
theorem dX2_stepsBy_16 : decode cX2_stepsBy 16 = .ok (.iconst 1, 1) := by decide +kernel
theorem dX2_stepsBy_17 : decode cX2_stepsBy 17 = .ok (.iload 4, 2) := by decide +kernel
theorem dX2_stepsBy_19 : decode cX2_stepsBy 19 = .ok (.ishl, 1) := by decide +kernel
theorem dX2_stepsBy_20 : decode cX2_stepsBy 20 = .ok (.iconst (-1), 1) := by decide +kernel
theorem dX2_stepsBy_21 : decode cX2_stepsBy 21 = .ok (.ixor, 1) := by decide +kernel
theorem dX2_stepsBy_22 : decode cX2_stepsBy 22 = .ok (.iand, 1) := by decide +kernel
theorem dX2_stepsBy_23 : decode cX2_stepsBy 23 = .ok (.bipush 7, 2) := by decide +kernel
theorem dX2_stepsBy_25 : decode cX2_stepsBy 25 = .ok (.imul, 1) := by decide +kernel
theorem dX2_stepsBy_26 : decode cX2_stepsBy 26 = .ok (.iload 4, 2) := by decide +kernel
theorem dX2_stepsBy_28 : decode cX2_stepsBy 28 = .ok (.iadd, 1) := by decide +kernel
theorem dX2_stepsBy_29 : decode cX2_stepsBy 29 = .ok (.iaload, 1) := by decide +kernel
theorem dX2_stepsBy_30 : decode cX2_stepsBy 30 = .ok (.iadd, 1) := by decide +kernel
theorem dX2_stepsBy_31 : decode cX2_stepsBy 31 = .ok (.ireturn, 1) := by decide +kernel
theorem dX3_init_0 : decode cX3_init 0 = .ok (.aload_n 0, 1) := by decide +kernel
theorem dX3_init_1 : decode cX3_init 1 = .ok (.invokespecial 5, 3) := by decide +kernel
theorem dX3_init_4 : decode cX3_init 4 = .ok (.aload_n 0, 1) := by decide +kernel
theorem dX3_init_5 : decode cX3_init 5 = .ok (.bipush 49, 2) := by decide +kernel
theorem dX3_init_7 : decode cX3_init 7 = .ok (.newarray .int, 2) := by decide +kernel
theorem dX3_init_9 : decode cX3_init 9 = .ok (.putfield 11, 3) := by decide +kernel
theorem dX3_init_12 : decode cX3_init 12 = .ok (.return_, 1) := by decide +kernel
theorem dX3_find_0 : decode cX3_find 0 = .ok (.aload_n 1, 1) := by decide +kernel
theorem dX3_find_1 : decode cX3_find 1 = .ok (.getfield 15, 3) := by decide +kernel
theorem dX3_find_4 : decode cX3_find 4 = .ok (.iload_n 2, 1) := by decide +kernel
theorem dX3_find_5 : decode cX3_find 5 = .ok (.iaload, 1) := by decide +kernel
theorem dX3_find_6 : decode cX3_find 6 = .ok (.istore 4, 2) := by decide +kernel
theorem dX3_find_8 : decode cX3_find 8 = .ok (.aload_n 1, 1) := by decide +kernel
theorem dX3_find_9 : decode cX3_find 9 = .ok (.iload_n 2, 1) := by decide +kernel
theorem dX3_find_10 : decode cX3_find 10 = .ok (.iconst 0, 1) := by decide +kernel
theorem dX3_find_11 : decode cX3_find 11 = .ok (.invokevirtual 20, 3) := by decide +kernel
theorem dX3_find_14 : decode cX3_find 14 = .ok (.istore 5, 2) := by decide +kernel
theorem dX3_find_16 : decode cX3_find 16 = .ok (.iconst 0, 1) := by decide +kernel
theorem dX3_find_17 : decode cX3_find 17 = .ok (.istore 6, 2) := by decide +kernel
theorem dX3_find_19 : decode cX3_find 19 = .ok (.iload 6, 2) := by decide +kernel
theorem dX3_find_21 : decode cX3_find 21 = .ok (.bipush 49, 2) := by decide +kernel
theorem dX3_find_23 : decode cX3_find 23 = .ok (.if_icmp .ge 28, 3) := by decide +kernel
theorem dX3_find_26 : decode cX3_find 26 = .ok (.aload_n 0, 1) := by decide +kernel
theorem dX3_find_27 : decode cX3_find 27 = .ok (.getfield 11, 3) := by decide +kernel
theorem dX3_find_30 : decode cX3_find 30 = .ok (.iload 6, 2) := by decide +kernel
theorem dX3_find_32 : decode cX3_find 32 = .ok (.aload_n 1, 1) := by decide +kernel
theorem dX3_find_33 : decode cX3_find 33 = .ok (.iload_n 2, 1) := by decide +kernel
theorem dX3_find_34 : decode cX3_find 34 = .ok (.iload 6, 2) := by decide +kernel
theorem dX3_find_36 : decode cX3_find 36 = .ok (.invokevirtual 24, 3) := by decide +kernel
theorem dX3_find_39 : decode cX3_find 39 = .ok (.iload 5, 2) := by decide +kernel
theorem dX3_find_41 : decode cX3_find 41 = .ok (.iconst (-1), 1) := by decide +kernel
theorem dX3_find_42 : decode cX3_find 42 = .ok (.ixor, 1) := by decide +kernel
theorem dX3_find_43 : decode cX3_find 43 = .ok (.iand, 1) := by decide +kernel
theorem dX3_find_44 : decode cX3_find 44 = .ok (.iastore, 1) := by decide +kernel
theorem dX3_find_45 : decode cX3_find 45 = .ok (.iinc 6 1, 3) := by decide +kernel
theorem dX3_find_48 : decode cX3_find 48 = .ok (.goto (-29), 3) := by decide +kernel
theorem dX3_find_51 : decode cX3_find 51 = .ok (.aload_n 0, 1) := by decide +kernel
theorem dX3_find_52 : decode cX3_find 52 = .ok (.iconst 0, 1) := by decide +kernel
theorem dX3_find_53 : decode cX3_find 53 = .ok (.putfield 27, 3) := by decide +kernel
theorem dX3_find_56 : decode cX3_find 56 = .ok (.aload_n 0, 1) := by decide +kernel
theorem dX3_find_57 : decode cX3_find 57 = .ok (.iconst 0, 1) := by decide +kernel
theorem dX3_find_58 : decode cX3_find 58 = .ok (.putfield 31, 3) := by decide +kernel
theorem dX3_find_61 : decode cX3_find 61 = .ok (.iload 4, 2) := by decide +kernel
theorem dX3_find_63 : decode cX3_find 63 = .ok (.iload_n 3, 1) := by decide +kernel
theorem dX3_find_64 : decode cX3_find 64 = .ok (.if_icmp .ne 4, 3) := by decide +kernel
theorem dX3_find_67 : decode cX3_find 67 = .ok (.return_, 1) := by decide +kernel
theorem dX3_find_68 : decode cX3_find 68 = .ok (.aload_n 0, 1) := by decide +kernel
theorem dX3_find_69 : decode cX3_find 69 = .ok (.iconst 0, 1) := by decide +kernel
theorem dX3_find_70 : decode cX3_find 70 = .ok (.putfield 27, 3) := by decide +kernel
theorem dX3_find_73 : decode cX3_find 73 = .ok (.aload_n 0, 1) := by decide +kernel
theorem dX3_find_74 : decode cX3_find 74 = .ok (.getfield 27, 3) := by decide +kernel
theorem dX3_find_77 : decode cX3_find 77 = .ok (.aload_n 1, 1) := by decide +kernel
theorem dX3_find_78 : decode cX3_find 78 = .ok (.getfield 34, 3) := by decide +kernel
theorem dX3_find_81 : decode cX3_find 81 = .ok (.if_icmp .ge 45, 3) := by decide +kernel
theorem dX3_find_84 : decode cX3_find 84 = .ok (.aload_n 0, 1) := by decide +kernel
theorem dX3_find_85 : decode cX3_find 85 = .ok (.aload_n 0, 1) := by decide +kernel
theorem dX3_find_86 : decode cX3_find 86 = .ok (.aload_n 0, 1) := by decide +kernel
theorem dX3_find_87 : decode cX3_find 87 = .ok (.getfield 27, 3) := by decide +kernel
theorem dX3_find_90 : decode cX3_find 90 = .ok (.aload_n 1, 1) := by decide +kernel
theorem dX3_find_91 : decode cX3_find 91 = .ok (.getfield 34, 3) := by decide +kernel
theorem dX3_find_94 : decode cX3_find 94 = .ok (.iload 4, 2) := by decide +kernel
theorem dX3_find_96 : decode cX3_find 96 = .ok (.iload_n 3, 1) := by decide +kernel
theorem dX3_find_97 : decode cX3_find 97 = .ok (.invokevirtual 37, 3) := by decide +kernel
theorem dX3_find_100 : decode cX3_find 100 = .ok (.putfield 31, 3) := by decide +kernel
theorem dX3_find_103 : decode cX3_find 103 = .ok (.aload_n 0, 1) := by decide +kernel
theorem dX3_find_104 : decode cX3_find 104 = .ok (.getfield 31, 3) := by decide +kernel
theorem dX3_find_107 : decode cX3_find 107 = .ok (.bipush (-9), 2) := by decide +kernel
theorem dX3_find_109 : decode cX3_find 109 = .ok (.if_icmp .eq 4, 3) := by decide +kernel
theorem dX3_find_112 : decode cX3_find 112 = .ok (.return_, 1) := by decide +kernel
theorem dX3_find_113 : decode cX3_find 113 = .ok (.aload_n 0, 1) := by decide +kernel
theorem dX3_find_114 : decode cX3_find 114 = .ok (.dup, 1) := by decide +kernel
theorem dX3_find_115 : decode cX3_find 115 = .ok (.getfield 27, 3) := by decide +kernel
theorem dX3_find_118 : decode cX3_find 118 = .ok (.iconst 1, 1) := by decide +kernel
theorem dX3_find_119 : decode cX3_find 119 = .ok (.iadd, 1) := by decide +kernel
theorem dX3_find_120 : decode cX3_find 120 = .ok (.putfield 27, 3) := by decide +kernel
theorem dX3_find_123 : decode cX3_find 123 = .ok (.goto (-50), 3) := by decide +kernel
theorem dX3_find_126 : decode cX3_find 126 = .ok (.aload_n 0, 1) := by decide +kernel
theorem dX3_find_127 : decode cX3_find 127 = .ok (.iload 4, 2) := by decide +kernel
theorem dX3_find_129 : decode cX3_find 129 = .ok (.iload_n 3, 1) := by decide +kernel
theorem dX3_find_130 : decode cX3_find 130 = .ok (.invokestatic 41, 3) := by decide +kernel
theorem dX3_find_133 : decode cX3_find 133 = .ok (.putfield 31, 3) := by decide +kernel
theorem dX3_find_136 : decode cX3_find 136 = .ok (.return_, 1) := by decide +kernel
theorem dX3_shortestAt_0 : decode cX3_shortestAt 0 = .ok (.bipush (-9), 2) := by decide +kernel
theorem dX3_shortestAt_2 : decode cX3_shortestAt 2 = .ok (.istore 5, 2) := by decide +kernel
theorem dX3_shortestAt_4 : decode cX3_shortestAt 4 = .ok (.iconst 0, 1) := by decide +kernel
theorem dX3_shortestAt_5 : decode cX3_shortestAt 5 = .ok (.istore 6, 2) := by decide +kernel
theorem dX3_shortestAt_7 : decode cX3_shortestAt 7 = .ok (.iload 6, 2) := by decide +kernel
theorem dX3_shortestAt_9 : decode cX3_shortestAt 9 = .ok (.iconst 1, 1) := by decide +kernel
theorem dX3_shortestAt_10 : decode cX3_shortestAt 10 = .ok (.iload_n 2, 1) := by decide +kernel
theorem dX3_shortestAt_11 : decode cX3_shortestAt 11 = .ok (.ishl, 1) := by decide +kernel
theorem dX3_shortestAt_12 : decode cX3_shortestAt 12 = .ok (.if_icmp .ge 75, 3) := by decide +kernel
theorem dX3_shortestAt_15 : decode cX3_shortestAt 15 = .ok (.iload 6, 2) := by decide +kernel
theorem dX3_shortestAt_17 : decode cX3_shortestAt 17 = .ok (.invokestatic 44, 3) := by decide +kernel
theorem dX3_shortestAt_20 : decode cX3_shortestAt 20 = .ok (.iload_n 1, 1) := by decide +kernel
theorem dX3_shortestAt_21 : decode cX3_shortestAt 21 = .ok (.if_icmp .ne 60, 3) := by decide +kernel
theorem dX3_shortestAt_24 : decode cX3_shortestAt 24 = .ok (.aload_n 0, 1) := by decide +kernel
theorem dX3_shortestAt_25 : decode cX3_shortestAt 25 = .ok (.getfield 11, 3) := by decide +kernel
theorem dX3_shortestAt_28 : decode cX3_shortestAt 28 = .ok (.iload 4, 2) := by decide +kernel
theorem dX3_shortestAt_30 : decode cX3_shortestAt 30 = .ok (.iaload, 1) := by decide +kernel
theorem dX3_shortestAt_31 : decode cX3_shortestAt 31 = .ok (.iload 6, 2) := by decide +kernel
theorem dX3_shortestAt_33 : decode cX3_shortestAt 33 = .ok (.iconst (-1), 1) := by decide +kernel
theorem dX3_shortestAt_34 : decode cX3_shortestAt 34 = .ok (.ixor, 1) := by decide +kernel
theorem dX3_shortestAt_35 : decode cX3_shortestAt 35 = .ok (.iand, 1) := by decide +kernel
theorem dX3_shortestAt_36 : decode cX3_shortestAt 36 = .ok (.ifCond .eq 6, 3) := by decide +kernel
theorem dX3_shortestAt_39 : decode cX3_shortestAt 39 = .ok (.goto 42, 3) := by decide +kernel
theorem dX3_shortestAt_42 : decode cX3_shortestAt 42 = .ok (.aload_n 0, 1) := by decide +kernel
theorem dX3_shortestAt_43 : decode cX3_shortestAt 43 = .ok (.iload 6, 2) := by decide +kernel
theorem dX3_shortestAt_45 : decode cX3_shortestAt 45 = .ok (.invokevirtual 50, 3) := by decide +kernel
theorem dX3_shortestAt_48 : decode cX3_shortestAt 48 = .ok (.iload_n 3, 1) := by decide +kernel
theorem dX3_shortestAt_49 : decode cX3_shortestAt 49 = .ok (.iload 4, 2) := by decide +kernel
theorem dX3_shortestAt_51 : decode cX3_shortestAt 51 = .ok (.invokestatic 54, 3) := by decide +kernel
theorem dX3_shortestAt_54 : decode cX3_shortestAt 54 = .ok (.istore 7, 2) := by decide +kernel
theorem dX3_shortestAt_56 : decode cX3_shortestAt 56 = .ok (.iload 7, 2) := by decide +kernel
theorem dX3_shortestAt_58 : decode cX3_shortestAt 58 = .ok (.bipush (-9), 2) := by decide +kernel
theorem dX3_shortestAt_60 : decode cX3_shortestAt 60 = .ok (.if_icmp .eq 21, 3) := by decide +kernel
theorem dX3_shortestAt_63 : decode cX3_shortestAt 63 = .ok (.iload 5, 2) := by decide +kernel
theorem dX3_shortestAt_65 : decode cX3_shortestAt 65 = .ok (.bipush (-9), 2) := by decide +kernel
theorem dX3_shortestAt_67 : decode cX3_shortestAt 67 = .ok (.if_icmp .eq 10, 3) := by decide +kernel
theorem dX3_shortestAt_70 : decode cX3_shortestAt 70 = .ok (.iload 7, 2) := by decide +kernel
theorem dX3_shortestAt_72 : decode cX3_shortestAt 72 = .ok (.iload 5, 2) := by decide +kernel
theorem dX3_shortestAt_74 : decode cX3_shortestAt 74 = .ok (.if_icmp .ge 7, 3) := by decide +kernel
theorem dX3_shortestAt_77 : decode cX3_shortestAt 77 = .ok (.iload 7, 2) := by decide +kernel
theorem dX3_shortestAt_79 : decode cX3_shortestAt 79 = .ok (.istore 5, 2) := by decide +kernel
theorem dX3_shortestAt_81 : decode cX3_shortestAt 81 = .ok (.iinc 6 1, 3) := by decide +kernel
theorem dX3_shortestAt_84 : decode cX3_shortestAt 84 = .ok (.goto (-77), 3) := by decide +kernel
theorem dX3_shortestAt_87 : decode cX3_shortestAt 87 = .ok (.iload 5, 2) := by decide +kernel
theorem dX3_shortestAt_89 : decode cX3_shortestAt 89 = .ok (.ireturn, 1) := by decide +kernel
theorem dX3_openCells_0 : decode cX3_openCells 0 = .ok (.lconst 0, 1) := by decide +kernel
theorem dX3_openCells_1 : decode cX3_openCells 1 = .ok (.lstore_n 2, 1) := by decide +kernel
theorem dX3_openCells_2 : decode cX3_openCells 2 = .ok (.iconst 0, 1) := by decide +kernel
theorem dX3_openCells_3 : decode cX3_openCells 3 = .ok (.istore 4, 2) := by decide +kernel
theorem dX3_openCells_5 : decode cX3_openCells 5 = .ok (.iload 4, 2) := by decide +kernel
theorem dX3_openCells_7 : decode cX3_openCells 7 = .ok (.bipush 49, 2) := by decide +kernel
theorem dX3_openCells_9 : decode cX3_openCells 9 = .ok (.if_icmp .ge 30, 3) := by decide +kernel
theorem dX3_openCells_12 : decode cX3_openCells 12 = .ok (.aload_n 0, 1) := by decide +kernel
theorem dX3_openCells_13 : decode cX3_openCells 13 = .ok (.getfield 11, 3) := by decide +kernel
theorem dX3_openCells_16 : decode cX3_openCells 16 = .ok (.iload 4, 2) := by decide +kernel
theorem dX3_openCells_18 : decode cX3_openCells 18 = .ok (.iaload, 1) := by decide +kernel
theorem dX3_openCells_19 : decode cX3_openCells 19 = .ok (.iload_n 1, 1) := by decide +kernel
theorem dX3_openCells_20 : decode cX3_openCells 20 = .ok (.iconst (-1), 1) := by decide +kernel
theorem dX3_openCells_21 : decode cX3_openCells 21 = .ok (.ixor, 1) := by decide +kernel
theorem dX3_openCells_22 : decode cX3_openCells 22 = .ok (.iand, 1) := by decide +kernel
theorem dX3_openCells_23 : decode cX3_openCells 23 = .ok (.ifCond .ne 10, 3) := by decide +kernel
theorem dX3_openCells_26 : decode cX3_openCells 26 = .ok (.lload_n 2, 1) := by decide +kernel
theorem dX3_openCells_27 : decode cX3_openCells 27 = .ok (.lconst 1, 1) := by decide +kernel
theorem dX3_openCells_28 : decode cX3_openCells 28 = .ok (.iload 4, 2) := by decide +kernel
theorem dX3_openCells_30 : decode cX3_openCells 30 = .ok (.lshl, 1) := by decide +kernel
theorem dX3_openCells_31 : decode cX3_openCells 31 = .ok (.lor, 1) := by decide +kernel
theorem dX3_openCells_32 : decode cX3_openCells 32 = .ok (.lstore_n 2, 1) := by decide +kernel
theorem dX3_openCells_33 : decode cX3_openCells 33 = .ok (.iinc 4 1, 3) := by decide +kernel
theorem dX3_openCells_36 : decode cX3_openCells 36 = .ok (.goto (-31), 3) := by decide +kernel
theorem dX3_openCells_39 : decode cX3_openCells 39 = .ok (.lload_n 2, 1) := by decide +kernel
theorem dX3_openCells_40 : decode cX3_openCells 40 = .ok (.lreturn, 1) := by decide +kernel
theorem dX3_shortestOver_0 : decode cX3_shortestOver 0 = .ok (.iload_n 2, 1) := by decide +kernel
theorem dX3_shortestOver_1 : decode cX3_shortestOver 1 = .ok (.iload_n 3, 1) := by decide +kernel
theorem dX3_shortestOver_2 : decode cX3_shortestOver 2 = .ok (.invokestatic 41, 3) := by decide +kernel
theorem dX3_shortestOver_5 : decode cX3_shortestOver 5 = .ok (.bipush 12, 2) := by decide +kernel
theorem dX3_shortestOver_7 : decode cX3_shortestOver 7 = .ok (.iadd, 1) := by decide +kernel
theorem dX3_shortestOver_8 : decode cX3_shortestOver 8 = .ok (.istore 4, 2) := by decide +kernel
theorem dX3_shortestOver_10 : decode cX3_shortestOver 10 = .ok (.lconst 1, 1) := by decide +kernel
theorem dX3_shortestOver_11 : decode cX3_shortestOver 11 = .ok (.iload_n 2, 1) := by decide +kernel
theorem dX3_shortestOver_12 : decode cX3_shortestOver 12 = .ok (.lshl, 1) := by decide +kernel
theorem dX3_shortestOver_13 : decode cX3_shortestOver 13 = .ok (.lstore 5, 2) := by decide +kernel
theorem dX3_shortestOver_15 : decode cX3_shortestOver 15 = .ok (.iconst 1, 1) := by decide +kernel
theorem dX3_shortestOver_16 : decode cX3_shortestOver 16 = .ok (.istore 7, 2) := by decide +kernel
theorem dX3_shortestOver_18 : decode cX3_shortestOver 18 = .ok (.iload 7, 2) := by decide +kernel
theorem dX3_shortestOver_20 : decode cX3_shortestOver 20 = .ok (.iload 4, 2) := by decide +kernel
theorem dX3_shortestOver_22 : decode cX3_shortestOver 22 = .ok (.if_icmp .gt 63, 3) := by decide +kernel
theorem dX3_shortestOver_25 : decode cX3_shortestOver 25 = .ok (.lload 5, 2) := by decide +kernel
theorem dX3_shortestOver_27 : decode cX3_shortestOver 27 = .ok (.ldc2_w 58, 3) := by decide +kernel
theorem dX3_shortestOver_30 : decode cX3_shortestOver 30 = .ok (.land, 1) := by decide +kernel
theorem dX3_shortestOver_31 : decode cX3_shortestOver 31 = .ok (.iconst 1, 1) := by decide +kernel
theorem dX3_shortestOver_32 : decode cX3_shortestOver 32 = .ok (.lshl, 1) := by decide +kernel
theorem dX3_shortestOver_33 : decode cX3_shortestOver 33 = .ok (.lload 5, 2) := by decide +kernel
theorem dX3_shortestOver_35 : decode cX3_shortestOver 35 = .ok (.ldc2_w 60, 3) := by decide +kernel
theorem dX3_shortestOver_38 : decode cX3_shortestOver 38 = .ok (.land, 1) := by decide +kernel
theorem dX3_shortestOver_39 : decode cX3_shortestOver 39 = .ok (.iconst 1, 1) := by decide +kernel
theorem dX3_shortestOver_40 : decode cX3_shortestOver 40 = .ok (.lushr, 1) := by decide +kernel
theorem dX3_shortestOver_41 : decode cX3_shortestOver 41 = .ok (.lor, 1) := by decide +kernel
theorem dX3_shortestOver_42 : decode cX3_shortestOver 42 = .ok (.lstore 8, 2) := by decide +kernel
theorem dX3_shortestOver_44 : decode cX3_shortestOver 44 = .ok (.lload 5, 2) := by decide +kernel
theorem dX3_shortestOver_46 : decode cX3_shortestOver 46 = .ok (.lload 5, 2) := by decide +kernel
theorem dX3_shortestOver_48 : decode cX3_shortestOver 48 = .ok (.bipush 7, 2) := by decide +kernel
theorem dX3_shortestOver_50 : decode cX3_shortestOver 50 = .ok (.lshl, 1) := by decide +kernel
theorem dX3_shortestOver_51 : decode cX3_shortestOver 51 = .ok (.lor, 1) := by decide +kernel
theorem dX3_shortestOver_52 : decode cX3_shortestOver 52 = .ok (.lload 5, 2) := by decide +kernel
theorem dX3_shortestOver_54 : decode cX3_shortestOver 54 = .ok (.bipush 7, 2) := by decide +kernel
theorem dX3_shortestOver_56 : decode cX3_shortestOver 56 = .ok (.lushr, 1) := by decide +kernel
theorem dX3_shortestOver_57 : decode cX3_shortestOver 57 = .ok (.lor, 1) := by decide +kernel
theorem dX3_shortestOver_58 : decode cX3_shortestOver 58 = .ok (.lload 8, 2) := by decide +kernel
theorem dX3_shortestOver_60 : decode cX3_shortestOver 60 = .ok (.lor, 1) := by decide +kernel
theorem dX3_shortestOver_61 : decode cX3_shortestOver 61 = .ok (.lload_n 0, 1) := by decide +kernel
theorem dX3_shortestOver_62 : decode cX3_shortestOver 62 = .ok (.land, 1) := by decide +kernel
theorem dX3_shortestOver_63 : decode cX3_shortestOver 63 = .ok (.lstore 5, 2) := by decide +kernel
theorem dX3_shortestOver_65 : decode cX3_shortestOver 65 = .ok (.lload 5, 2) := by decide +kernel
theorem dX3_shortestOver_67 : decode cX3_shortestOver 67 = .ok (.iload_n 3, 1) := by decide +kernel
theorem dX3_shortestOver_68 : decode cX3_shortestOver 68 = .ok (.lushr, 1) := by decide +kernel
theorem dX3_shortestOver_69 : decode cX3_shortestOver 69 = .ok (.lconst 1, 1) := by decide +kernel
theorem dX3_shortestOver_70 : decode cX3_shortestOver 70 = .ok (.land, 1) := by decide +kernel
theorem dX3_shortestOver_71 : decode cX3_shortestOver 71 = .ok (.lconst 0, 1) := by decide +kernel
theorem dX3_shortestOver_72 : decode cX3_shortestOver 72 = .ok (.lcmp, 1) := by decide +kernel
theorem dX3_shortestOver_73 : decode cX3_shortestOver 73 = .ok (.ifCond .eq 6, 3) := by decide +kernel
theorem dX3_shortestOver_76 : decode cX3_shortestOver 76 = .ok (.iload 7, 2) := by decide +kernel
theorem dX3_shortestOver_78 : decode cX3_shortestOver 78 = .ok (.ireturn, 1) := by decide +kernel
theorem dX3_shortestOver_79 : decode cX3_shortestOver 79 = .ok (.iinc 7 1, 3) := by decide +kernel
theorem dX3_shortestOver_82 : decode cX3_shortestOver 82 = .ok (.goto (-64), 3) := by decide +kernel
theorem dX3_shortestOver_85 : decode cX3_shortestOver 85 = .ok (.bipush (-9), 2) := by decide +kernel
theorem dX3_shortestOver_87 : decode cX3_shortestOver 87 = .ok (.ireturn, 1) := by decide +kernel
theorem dX4_init_0 : decode cX4_init 0 = .ok (.aload_n 0, 1) := by decide +kernel
theorem dX4_init_1 : decode cX4_init 1 = .ok (.invokespecial 3, 3) := by decide +kernel
theorem dX4_init_4 : decode cX4_init 4 = .ok (.aload_n 0, 1) := by decide +kernel
theorem dX4_init_5 : decode cX4_init 5 = .ok (.bipush 8, 2) := by decide +kernel
theorem dX4_init_7 : decode cX4_init 7 = .ok (.newarray .int, 2) := by decide +kernel
theorem dX4_init_9 : decode cX4_init 9 = .ok (.putfield 9, 3) := by decide +kernel
theorem dX4_init_12 : decode cX4_init 12 = .ok (.aload_n 0, 1) := by decide +kernel
theorem dX4_init_13 : decode cX4_init 13 = .ok (.bipush 8, 2) := by decide +kernel
theorem dX4_init_15 : decode cX4_init 15 = .ok (.newarray .int, 2) := by decide +kernel
theorem dX4_init_17 : decode cX4_init 17 = .ok (.putfield 15, 3) := by decide +kernel
theorem dX4_init_20 : decode cX4_init 20 = .ok (.aload_n 0, 1) := by decide +kernel
theorem dX4_init_21 : decode cX4_init 21 = .ok (.bipush 8, 2) := by decide +kernel
theorem dX4_init_23 : decode cX4_init 23 = .ok (.newarray .int, 2) := by decide +kernel
theorem dX4_init_25 : decode cX4_init 25 = .ok (.putfield 18, 3) := by decide +kernel
theorem dX4_init_28 : decode cX4_init 28 = .ok (.aload_n 0, 1) := by decide +kernel
theorem dX4_init_29 : decode cX4_init 29 = .ok (.bipush 6, 2) := by decide +kernel
theorem dX4_init_31 : decode cX4_init 31 = .ok (.newarray .int, 2) := by decide +kernel
theorem dX4_init_33 : decode cX4_init 33 = .ok (.putfield 21, 3) := by decide +kernel
theorem dX4_init_36 : decode cX4_init 36 = .ok (.aload_n 0, 1) := by decide +kernel
theorem dX4_init_37 : decode cX4_init 37 = .ok (.bipush 6, 2) := by decide +kernel
theorem dX4_init_39 : decode cX4_init 39 = .ok (.newarray .int, 2) := by decide +kernel
theorem dX4_init_41 : decode cX4_init 41 = .ok (.putfield 24, 3) := by decide +kernel
theorem dX4_init_44 : decode cX4_init 44 = .ok (.aload_n 0, 1) := by decide +kernel
theorem dX4_init_45 : decode cX4_init 45 = .ok (.bipush 6, 2) := by decide +kernel
theorem dX4_init_47 : decode cX4_init 47 = .ok (.newarray .int, 2) := by decide +kernel
theorem dX4_init_49 : decode cX4_init 49 = .ok (.putfield 27, 3) := by decide +kernel
theorem dX4_init_52 : decode cX4_init 52 = .ok (.aload_n 0, 1) := by decide +kernel
theorem dX4_init_53 : decode cX4_init 53 = .ok (.bipush 48, 2) := by decide +kernel
theorem dX4_init_55 : decode cX4_init 55 = .ok (.newarray .int, 2) := by decide +kernel
theorem dX4_init_57 : decode cX4_init 57 = .ok (.putfield 30, 3) := by decide +kernel
theorem dX4_init_60 : decode cX4_init 60 = .ok (.aload_n 0, 1) := by decide +kernel
theorem dX4_init_61 : decode cX4_init 61 = .ok (.getfield 30, 3) := by decide +kernel
theorem dX4_init_64 : decode cX4_init 64 = .ok (.iconst (-1), 1) := by decide +kernel
theorem dX4_init_65 : decode cX4_init 65 = .ok (.invokestatic 33, 3) := by decide +kernel
theorem dX4_init_68 : decode cX4_init 68 = .ok (.return_, 1) := by decide +kernel
theorem dX4_become_0 : decode cX4_become 0 = .ok (.aload_n 0, 1) := by decide +kernel
theorem dX4_become_1 : decode cX4_become 1 = .ok (.aload_n 1, 1) := by decide +kernel
theorem dX4_become_2 : decode cX4_become 2 = .ok (.getfield 39, 3) := by decide +kernel
theorem dX4_become_5 : decode cX4_become 5 = .ok (.putfield 39, 3) := by decide +kernel
theorem dX4_become_8 : decode cX4_become 8 = .ok (.aload_n 1, 1) := by decide +kernel
theorem dX4_become_9 : decode cX4_become 9 = .ok (.getfield 9, 3) := by decide +kernel
theorem dX4_become_12 : decode cX4_become 12 = .ok (.iconst 0, 1) := by decide +kernel
theorem dX4_become_13 : decode cX4_become 13 = .ok (.aload_n 0, 1) := by decide +kernel
theorem dX4_become_14 : decode cX4_become 14 = .ok (.getfield 9, 3) := by decide +kernel
theorem dX4_become_17 : decode cX4_become 17 = .ok (.iconst 0, 1) := by decide +kernel
theorem dX4_become_18 : decode cX4_become 18 = .ok (.bipush 8, 2) := by decide +kernel
theorem dX4_become_20 : decode cX4_become 20 = .ok (.invokestatic 43, 3) := by decide +kernel
theorem dX4_become_23 : decode cX4_become 23 = .ok (.aload_n 1, 1) := by decide +kernel
theorem dX4_become_24 : decode cX4_become 24 = .ok (.getfield 15, 3) := by decide +kernel
theorem dX4_become_27 : decode cX4_become 27 = .ok (.iconst 0, 1) := by decide +kernel
theorem dX4_become_28 : decode cX4_become 28 = .ok (.aload_n 0, 1) := by decide +kernel
theorem dX4_become_29 : decode cX4_become 29 = .ok (.getfield 15, 3) := by decide +kernel
theorem dX4_become_32 : decode cX4_become 32 = .ok (.iconst 0, 1) := by decide +kernel
theorem dX4_become_33 : decode cX4_become 33 = .ok (.bipush 8, 2) := by decide +kernel
theorem dX4_become_35 : decode cX4_become 35 = .ok (.invokestatic 43, 3) := by decide +kernel
theorem dX4_become_38 : decode cX4_become 38 = .ok (.aload_n 1, 1) := by decide +kernel
theorem dX4_become_39 : decode cX4_become 39 = .ok (.getfield 18, 3) := by decide +kernel
theorem dX4_become_42 : decode cX4_become 42 = .ok (.iconst 0, 1) := by decide +kernel
theorem dX4_become_43 : decode cX4_become 43 = .ok (.aload_n 0, 1) := by decide +kernel
theorem dX4_become_44 : decode cX4_become 44 = .ok (.getfield 18, 3) := by decide +kernel
theorem dX4_become_47 : decode cX4_become 47 = .ok (.iconst 0, 1) := by decide +kernel
theorem dX4_become_48 : decode cX4_become 48 = .ok (.bipush 8, 2) := by decide +kernel
theorem dX4_become_50 : decode cX4_become 50 = .ok (.invokestatic 43, 3) := by decide +kernel
theorem dX4_become_53 : decode cX4_become 53 = .ok (.aload_n 0, 1) := by decide +kernel
theorem dX4_become_54 : decode cX4_become 54 = .ok (.aload_n 1, 1) := by decide +kernel
theorem dX4_become_55 : decode cX4_become 55 = .ok (.getfield 49, 3) := by decide +kernel
theorem dX4_become_58 : decode cX4_become 58 = .ok (.putfield 49, 3) := by decide +kernel
theorem dX4_become_61 : decode cX4_become 61 = .ok (.aload_n 0, 1) := by decide +kernel
theorem dX4_become_62 : decode cX4_become 62 = .ok (.aload_n 1, 1) := by decide +kernel
theorem dX4_become_63 : decode cX4_become 63 = .ok (.getfield 52, 3) := by decide +kernel
theorem dX4_become_66 : decode cX4_become 66 = .ok (.putfield 52, 3) := by decide +kernel
theorem dX4_become_69 : decode cX4_become 69 = .ok (.aload_n 1, 1) := by decide +kernel
theorem dX4_become_70 : decode cX4_become 70 = .ok (.getfield 21, 3) := by decide +kernel
theorem dX4_become_73 : decode cX4_become 73 = .ok (.iconst 0, 1) := by decide +kernel
theorem dX4_become_74 : decode cX4_become 74 = .ok (.aload_n 0, 1) := by decide +kernel
theorem dX4_become_75 : decode cX4_become 75 = .ok (.getfield 21, 3) := by decide +kernel
theorem dX4_become_78 : decode cX4_become 78 = .ok (.iconst 0, 1) := by decide +kernel
theorem dX4_become_79 : decode cX4_become 79 = .ok (.bipush 6, 2) := by decide +kernel
theorem dX4_become_81 : decode cX4_become 81 = .ok (.invokestatic 43, 3) := by decide +kernel
theorem dX4_become_84 : decode cX4_become 84 = .ok (.aload_n 1, 1) := by decide +kernel
theorem dX4_become_85 : decode cX4_become 85 = .ok (.getfield 24, 3) := by decide +kernel
theorem dX4_become_88 : decode cX4_become 88 = .ok (.iconst 0, 1) := by decide +kernel
theorem dX4_become_89 : decode cX4_become 89 = .ok (.aload_n 0, 1) := by decide +kernel
theorem dX4_become_90 : decode cX4_become 90 = .ok (.getfield 24, 3) := by decide +kernel
theorem dX4_become_93 : decode cX4_become 93 = .ok (.iconst 0, 1) := by decide +kernel
theorem dX4_become_94 : decode cX4_become 94 = .ok (.bipush 6, 2) := by decide +kernel
theorem dX4_become_96 : decode cX4_become 96 = .ok (.invokestatic 43, 3) := by decide +kernel
theorem dX4_become_99 : decode cX4_become 99 = .ok (.aload_n 1, 1) := by decide +kernel
theorem dX4_become_100 : decode cX4_become 100 = .ok (.getfield 27, 3) := by decide +kernel
theorem dX4_become_103 : decode cX4_become 103 = .ok (.iconst 0, 1) := by decide +kernel
theorem dX4_become_104 : decode cX4_become 104 = .ok (.aload_n 0, 1) := by decide +kernel
theorem dX4_become_105 : decode cX4_become 105 = .ok (.getfield 27, 3) := by decide +kernel
theorem dX4_become_108 : decode cX4_become 108 = .ok (.iconst 0, 1) := by decide +kernel
theorem dX4_become_109 : decode cX4_become 109 = .ok (.bipush 6, 2) := by decide +kernel
theorem dX4_become_111 : decode cX4_become 111 = .ok (.invokestatic 43, 3) := by decide +kernel
theorem dX4_become_114 : decode cX4_become 114 = .ok (.aload_n 1, 1) := by decide +kernel
theorem dX4_become_115 : decode cX4_become 115 = .ok (.getfield 30, 3) := by decide +kernel
theorem dX4_become_118 : decode cX4_become 118 = .ok (.iconst 0, 1) := by decide +kernel
theorem dX4_become_119 : decode cX4_become 119 = .ok (.aload_n 0, 1) := by decide +kernel
theorem dX4_become_120 : decode cX4_become 120 = .ok (.getfield 30, 3) := by decide +kernel
theorem dX4_become_123 : decode cX4_become 123 = .ok (.iconst 0, 1) := by decide +kernel
theorem dX4_become_124 : decode cX4_become 124 = .ok (.bipush 48, 2) := by decide +kernel
theorem dX4_become_126 : decode cX4_become 126 = .ok (.invokestatic 43, 3) := by decide +kernel
theorem dX4_become_129 : decode cX4_become 129 = .ok (.aload_n 0, 1) := by decide +kernel
theorem dX4_become_130 : decode cX4_become 130 = .ok (.aload_n 1, 1) := by decide +kernel
theorem dX4_become_131 : decode cX4_become 131 = .ok (.getfield 55, 3) := by decide +kernel
theorem dX4_become_134 : decode cX4_become 134 = .ok (.putfield 55, 3) := by decide +kernel
theorem dX4_become_137 : decode cX4_become 137 = .ok (.return_, 1) := by decide +kernel
theorem dX4_hasHouse_0 : decode cX4_hasHouse 0 = .ok (.iload_n 1, 1) := by decide +kernel
theorem dX4_hasHouse_1 : decode cX4_hasHouse 1 = .ok (.ifCond .lt 15, 3) := by decide +kernel
theorem dX4_hasHouse_4 : decode cX4_hasHouse 4 = .ok (.iload_n 1, 1) := by decide +kernel
theorem dX4_hasHouse_5 : decode cX4_hasHouse 5 = .ok (.aload_n 0, 1) := by decide +kernel
theorem dX4_hasHouse_6 : decode cX4_hasHouse 6 = .ok (.getfield 39, 3) := by decide +kernel
theorem dX4_hasHouse_9 : decode cX4_hasHouse 9 = .ok (.if_icmp .ge 7, 3) := by decide +kernel
theorem dX4_hasHouse_12 : decode cX4_hasHouse 12 = .ok (.iconst 1, 1) := by decide +kernel
theorem dX4_hasHouse_13 : decode cX4_hasHouse 13 = .ok (.goto 4, 3) := by decide +kernel
theorem dX4_hasHouse_16 : decode cX4_hasHouse 16 = .ok (.iconst 0, 1) := by decide +kernel
theorem dX4_hasHouse_17 : decode cX4_hasHouse 17 = .ok (.ireturn, 1) := by decide +kernel
theorem dX4_hasWalker_0 : decode cX4_hasWalker 0 = .ok (.iload_n 1, 1) := by decide +kernel
theorem dX4_hasWalker_1 : decode cX4_hasWalker 1 = .ok (.ifCond .lt 15, 3) := by decide +kernel
theorem dX4_hasWalker_4 : decode cX4_hasWalker 4 = .ok (.iload_n 1, 1) := by decide +kernel
theorem dX4_hasWalker_5 : decode cX4_hasWalker 5 = .ok (.aload_n 0, 1) := by decide +kernel
theorem dX4_hasWalker_6 : decode cX4_hasWalker 6 = .ok (.getfield 52, 3) := by decide +kernel
theorem dX4_hasWalker_9 : decode cX4_hasWalker 9 = .ok (.if_icmp .ge 7, 3) := by decide +kernel
theorem dX4_hasWalker_12 : decode cX4_hasWalker 12 = .ok (.iconst 1, 1) := by decide +kernel
theorem dX4_hasWalker_13 : decode cX4_hasWalker 13 = .ok (.goto 4, 3) := by decide +kernel
theorem dX4_hasWalker_16 : decode cX4_hasWalker 16 = .ok (.iconst 0, 1) := by decide +kernel
theorem dX4_hasWalker_17 : decode cX4_hasWalker 17 = .ok (.ireturn, 1) := by decide +kernel
theorem dX4_isLit_0 : decode cX4_isLit 0 = .ok (.aload_n 0, 1) := by decide +kernel
theorem dX4_isLit_1 : decode cX4_isLit 1 = .ok (.getfield 49, 3) := by decide +kernel
theorem dX4_isLit_4 : decode cX4_isLit 4 = .ok (.iload_n 1, 1) := by decide +kernel
theorem dX4_isLit_5 : decode cX4_isLit 5 = .ok (.ishr, 1) := by decide +kernel
theorem dX4_isLit_6 : decode cX4_isLit 6 = .ok (.iconst 1, 1) := by decide +kernel
theorem dX4_isLit_7 : decode cX4_isLit 7 = .ok (.iand, 1) := by decide +kernel
theorem dX4_isLit_8 : decode cX4_isLit 8 = .ok (.ifCond .eq 7, 3) := by decide +kernel
theorem dX4_isLit_11 : decode cX4_isLit 11 = .ok (.iconst 1, 1) := by decide +kernel
theorem dX4_isLit_12 : decode cX4_isLit 12 = .ok (.goto 4, 3) := by decide +kernel
theorem dX4_isLit_15 : decode cX4_isLit 15 = .ok (.iconst 0, 1) := by decide +kernel
theorem dX4_isLit_16 : decode cX4_isLit 16 = .ok (.ireturn, 1) := by decide +kernel
theorem dX4_addHouse_0 : decode cX4_addHouse 0 = .ok (.iload_n 1, 1) := by decide +kernel
theorem dX4_addHouse_1 : decode cX4_addHouse 1 = .ok (.ifCond .lt 19, 3) := by decide +kernel
theorem dX4_addHouse_4 : decode cX4_addHouse 4 = .ok (.iload_n 1, 1) := by decide +kernel
theorem dX4_addHouse_5 : decode cX4_addHouse 5 = .ok (.bipush 6, 2) := by decide +kernel
theorem dX4_addHouse_7 : decode cX4_addHouse 7 = .ok (.if_icmp .ge 13, 3) := by decide +kernel
theorem dX4_addHouse_10 : decode cX4_addHouse 10 = .ok (.iload_n 2, 1) := by decide +kernel
theorem dX4_addHouse_11 : decode cX4_addHouse 11 = .ok (.ifCond .lt 9, 3) := by decide +kernel
theorem dX4_addHouse_14 : decode cX4_addHouse 14 = .ok (.iload_n 2, 1) := by decide +kernel
theorem dX4_addHouse_15 : decode cX4_addHouse 15 = .ok (.bipush 10, 2) := by decide +kernel
theorem dX4_addHouse_17 : decode cX4_addHouse 17 = .ok (.if_icmp .lt 5, 3) := by decide +kernel
theorem dX4_addHouse_20 : decode cX4_addHouse 20 = .ok (.iconst 0, 1) := by decide +kernel
theorem dX4_addHouse_21 : decode cX4_addHouse 21 = .ok (.ireturn, 1) := by decide +kernel
theorem dX4_addHouse_22 : decode cX4_addHouse 22 = .ok (.iload_n 3, 1) := by decide +kernel
theorem dX4_addHouse_23 : decode cX4_addHouse 23 = .ok (.invokestatic 58, 3) := by decide +kernel
theorem dX4_addHouse_26 : decode cX4_addHouse 26 = .ok (.ifCond .eq 12, 3) := by decide +kernel
theorem dX4_addHouse_29 : decode cX4_addHouse 29 = .ok (.aload_n 0, 1) := by decide +kernel
theorem dX4_addHouse_30 : decode cX4_addHouse 30 = .ok (.getfield 39, 3) := by decide +kernel
theorem dX4_addHouse_33 : decode cX4_addHouse 33 = .ok (.bipush 7, 2) := by decide +kernel
theorem dX4_addHouse_35 : decode cX4_addHouse 35 = .ok (.if_icmp .lt 5, 3) := by decide +kernel
theorem dX4_addHouse_38 : decode cX4_addHouse 38 = .ok (.iconst 0, 1) := by decide +kernel
theorem dX4_addHouse_39 : decode cX4_addHouse 39 = .ok (.ireturn, 1) := by decide +kernel
theorem dX4_addHouse_40 : decode cX4_addHouse 40 = .ok (.aload_n 0, 1) := by decide +kernel
theorem dX4_addHouse_41 : decode cX4_addHouse 41 = .ok (.getfield 9, 3) := by decide +kernel
theorem dX4_addHouse_44 : decode cX4_addHouse 44 = .ok (.aload_n 0, 1) := by decide +kernel
theorem dX4_addHouse_45 : decode cX4_addHouse 45 = .ok (.getfield 39, 3) := by decide +kernel
theorem dX4_addHouse_48 : decode cX4_addHouse 48 = .ok (.iload_n 1, 1) := by decide +kernel
theorem dX4_addHouse_49 : decode cX4_addHouse 49 = .ok (.iastore, 1) := by decide +kernel
theorem dX4_addHouse_50 : decode cX4_addHouse 50 = .ok (.aload_n 0, 1) := by decide +kernel
theorem dX4_addHouse_51 : decode cX4_addHouse 51 = .ok (.getfield 15, 3) := by decide +kernel
theorem dX4_addHouse_54 : decode cX4_addHouse 54 = .ok (.aload_n 0, 1) := by decide +kernel
theorem dX4_addHouse_55 : decode cX4_addHouse 55 = .ok (.getfield 39, 3) := by decide +kernel
theorem dX4_addHouse_58 : decode cX4_addHouse 58 = .ok (.iload_n 2, 1) := by decide +kernel
theorem dX4_addHouse_59 : decode cX4_addHouse 59 = .ok (.iastore, 1) := by decide +kernel
theorem dX4_addHouse_60 : decode cX4_addHouse 60 = .ok (.aload_n 0, 1) := by decide +kernel
theorem dX4_addHouse_61 : decode cX4_addHouse 61 = .ok (.getfield 18, 3) := by decide +kernel
theorem dX4_addHouse_64 : decode cX4_addHouse 64 = .ok (.aload_n 0, 1) := by decide +kernel
theorem dX4_addHouse_65 : decode cX4_addHouse 65 = .ok (.getfield 39, 3) := by decide +kernel
theorem dX4_addHouse_68 : decode cX4_addHouse 68 = .ok (.iload_n 3, 1) := by decide +kernel
theorem dX4_addHouse_69 : decode cX4_addHouse 69 = .ok (.iastore, 1) := by decide +kernel
theorem dX4_addHouse_70 : decode cX4_addHouse 70 = .ok (.aload_n 0, 1) := by decide +kernel
theorem dX4_addHouse_71 : decode cX4_addHouse 71 = .ok (.dup, 1) := by decide +kernel
theorem dX4_addHouse_72 : decode cX4_addHouse 72 = .ok (.getfield 49, 3) := by decide +kernel
theorem dX4_addHouse_75 : decode cX4_addHouse 75 = .ok (.iconst 1, 1) := by decide +kernel
theorem dX4_addHouse_76 : decode cX4_addHouse 76 = .ok (.aload_n 0, 1) := by decide +kernel
theorem dX4_addHouse_77 : decode cX4_addHouse 77 = .ok (.getfield 39, 3) := by decide +kernel
theorem dX4_addHouse_80 : decode cX4_addHouse 80 = .ok (.ishl, 1) := by decide +kernel
theorem dX4_addHouse_81 : decode cX4_addHouse 81 = .ok (.ior, 1) := by decide +kernel
theorem dX4_addHouse_82 : decode cX4_addHouse 82 = .ok (.putfield 49, 3) := by decide +kernel
theorem dX4_addHouse_85 : decode cX4_addHouse 85 = .ok (.aload_n 0, 1) := by decide +kernel
theorem dX4_addHouse_86 : decode cX4_addHouse 86 = .ok (.dup, 1) := by decide +kernel
theorem dX4_addHouse_87 : decode cX4_addHouse 87 = .ok (.getfield 39, 3) := by decide +kernel
theorem dX4_addHouse_90 : decode cX4_addHouse 90 = .ok (.iconst 1, 1) := by decide +kernel
theorem dX4_addHouse_91 : decode cX4_addHouse 91 = .ok (.iadd, 1) := by decide +kernel
theorem dX4_addHouse_92 : decode cX4_addHouse 92 = .ok (.putfield 39, 3) := by decide +kernel
theorem dX4_addHouse_95 : decode cX4_addHouse 95 = .ok (.iconst 1, 1) := by decide +kernel
theorem dX4_addHouse_96 : decode cX4_addHouse 96 = .ok (.ireturn, 1) := by decide +kernel
theorem dX4_setCandle_0 : decode cX4_setCandle 0 = .ok (.aload_n 0, 1) := by decide +kernel
theorem dX4_setCandle_1 : decode cX4_setCandle 1 = .ok (.getfield 9, 3) := by decide +kernel
theorem dX4_setCandle_4 : decode cX4_setCandle 4 = .ok (.aload_n 0, 1) := by decide +kernel
theorem dX4_setCandle_5 : decode cX4_setCandle 5 = .ok (.getfield 39, 3) := by decide +kernel
theorem dX4_setCandle_8 : decode cX4_setCandle 8 = .ok (.iconst 0, 1) := by decide +kernel
theorem dX4_setCandle_9 : decode cX4_setCandle 9 = .ok (.iastore, 1) := by decide +kernel
theorem dX4_setCandle_10 : decode cX4_setCandle 10 = .ok (.aload_n 0, 1) := by decide +kernel
theorem dX4_setCandle_11 : decode cX4_setCandle 11 = .ok (.getfield 15, 3) := by decide +kernel
theorem dX4_setCandle_14 : decode cX4_setCandle 14 = .ok (.aload_n 0, 1) := by decide +kernel
theorem dX4_setCandle_15 : decode cX4_setCandle 15 = .ok (.getfield 39, 3) := by decide +kernel
theorem dX4_setCandle_18 : decode cX4_setCandle 18 = .ok (.iconst 0, 1) := by decide +kernel
theorem dX4_setCandle_19 : decode cX4_setCandle 19 = .ok (.iastore, 1) := by decide +kernel
theorem dX4_setCandle_20 : decode cX4_setCandle 20 = .ok (.aload_n 0, 1) := by decide +kernel
theorem dX4_setCandle_21 : decode cX4_setCandle 21 = .ok (.dup, 1) := by decide +kernel
theorem dX4_setCandle_22 : decode cX4_setCandle 22 = .ok (.getfield 49, 3) := by decide +kernel
theorem dX4_setCandle_25 : decode cX4_setCandle 25 = .ok (.iconst 1, 1) := by decide +kernel
theorem dX4_setCandle_26 : decode cX4_setCandle 26 = .ok (.aload_n 0, 1) := by decide +kernel
theorem dX4_setCandle_27 : decode cX4_setCandle 27 = .ok (.getfield 39, 3) := by decide +kernel
theorem dX4_setCandle_30 : decode cX4_setCandle 30 = .ok (.ishl, 1) := by decide +kernel
theorem dX4_setCandle_31 : decode cX4_setCandle 31 = .ok (.ior, 1) := by decide +kernel
theorem dX4_setCandle_32 : decode cX4_setCandle 32 = .ok (.putfield 49, 3) := by decide +kernel
theorem dX4_setCandle_35 : decode cX4_setCandle 35 = .ok (.aload_n 0, 1) := by decide +kernel
theorem dX4_setCandle_36 : decode cX4_setCandle 36 = .ok (.getfield 39, 3) := by decide +kernel
theorem dX4_setCandle_39 : decode cX4_setCandle 39 = .ok (.ireturn, 1) := by decide +kernel
theorem dX4_addWalker_0 : decode cX4_addWalker 0 = .ok (.iload_n 1, 1) := by decide +kernel
theorem dX4_addWalker_1 : decode cX4_addWalker 1 = .ok (.invokestatic 58, 3) := by decide +kernel
theorem dX4_addWalker_4 : decode cX4_addWalker 4 = .ok (.ifCond .eq 10, 3) := by decide +kernel
theorem dX4_addWalker_7 : decode cX4_addWalker 7 = .ok (.iload_n 2, 1) := by decide +kernel
theorem dX4_addWalker_8 : decode cX4_addWalker 8 = .ok (.invokestatic 58, 3) := by decide +kernel
theorem dX4_addWalker_11 : decode cX4_addWalker 11 = .ok (.ifCond .ne 5, 3) := by decide +kernel
theorem dX4_addWalker_14 : decode cX4_addWalker 14 = .ok (.iconst 0, 1) := by decide +kernel
theorem dX4_addWalker_15 : decode cX4_addWalker 15 = .ok (.ireturn, 1) := by decide +kernel
theorem dX4_addWalker_16 : decode cX4_addWalker 16 = .ok (.iload_n 3, 1) := by decide +kernel
theorem dX4_addWalker_17 : decode cX4_addWalker 17 = .ok (.ifCond .lt 17, 3) := by decide +kernel
theorem dX4_addWalker_20 : decode cX4_addWalker 20 = .ok (.iload_n 3, 1) := by decide +kernel
theorem dX4_addWalker_21 : decode cX4_addWalker 21 = .ok (.iconst 2, 1) := by decide +kernel
theorem dX4_addWalker_22 : decode cX4_addWalker 22 = .ok (.if_icmp .gt 12, 3) := by decide +kernel
theorem dX4_addWalker_25 : decode cX4_addWalker 25 = .ok (.aload_n 0, 1) := by decide +kernel
theorem dX4_addWalker_26 : decode cX4_addWalker 26 = .ok (.getfield 52, 3) := by decide +kernel
theorem dX4_addWalker_29 : decode cX4_addWalker 29 = .ok (.bipush 6, 2) := by decide +kernel
theorem dX4_addWalker_31 : decode cX4_addWalker 31 = .ok (.if_icmp .lt 5, 3) := by decide +kernel
theorem dX4_addWalker_34 : decode cX4_addWalker 34 = .ok (.iconst 0, 1) := by decide +kernel
theorem dX4_addWalker_35 : decode cX4_addWalker 35 = .ok (.ireturn, 1) := by decide +kernel
theorem dX4_addWalker_36 : decode cX4_addWalker 36 = .ok (.aload_n 0, 1) := by decide +kernel
theorem dX4_addWalker_37 : decode cX4_addWalker 37 = .ok (.getfield 21, 3) := by decide +kernel
theorem dX4_addWalker_40 : decode cX4_addWalker 40 = .ok (.aload_n 0, 1) := by decide +kernel
theorem dX4_addWalker_41 : decode cX4_addWalker 41 = .ok (.getfield 52, 3) := by decide +kernel
theorem dX4_addWalker_44 : decode cX4_addWalker 44 = .ok (.iload_n 1, 1) := by decide +kernel
theorem dX4_addWalker_45 : decode cX4_addWalker 45 = .ok (.iastore, 1) := by decide +kernel
theorem dX4_addWalker_46 : decode cX4_addWalker 46 = .ok (.aload_n 0, 1) := by decide +kernel
theorem dX4_addWalker_47 : decode cX4_addWalker 47 = .ok (.getfield 24, 3) := by decide +kernel
theorem dX4_addWalker_50 : decode cX4_addWalker 50 = .ok (.aload_n 0, 1) := by decide +kernel
theorem dX4_addWalker_51 : decode cX4_addWalker 51 = .ok (.getfield 52, 3) := by decide +kernel
theorem dX4_addWalker_54 : decode cX4_addWalker 54 = .ok (.iload_n 2, 1) := by decide +kernel
theorem dX4_addWalker_55 : decode cX4_addWalker 55 = .ok (.iastore, 1) := by decide +kernel
theorem dX4_addWalker_56 : decode cX4_addWalker 56 = .ok (.aload_n 0, 1) := by decide +kernel
theorem dX4_addWalker_57 : decode cX4_addWalker 57 = .ok (.getfield 27, 3) := by decide +kernel
theorem dX4_addWalker_60 : decode cX4_addWalker 60 = .ok (.aload_n 0, 1) := by decide +kernel
theorem dX4_addWalker_61 : decode cX4_addWalker 61 = .ok (.getfield 52, 3) := by decide +kernel
theorem dX4_addWalker_64 : decode cX4_addWalker 64 = .ok (.iload_n 3, 1) := by decide +kernel
theorem dX4_addWalker_65 : decode cX4_addWalker 65 = .ok (.iastore, 1) := by decide +kernel
theorem dX4_addWalker_66 : decode cX4_addWalker 66 = .ok (.aload_n 0, 1) := by decide +kernel
theorem dX4_addWalker_67 : decode cX4_addWalker 67 = .ok (.dup, 1) := by decide +kernel
theorem dX4_addWalker_68 : decode cX4_addWalker 68 = .ok (.getfield 52, 3) := by decide +kernel
theorem dX4_addWalker_71 : decode cX4_addWalker 71 = .ok (.iconst 1, 1) := by decide +kernel
theorem dX4_addWalker_72 : decode cX4_addWalker 72 = .ok (.iadd, 1) := by decide +kernel
theorem dX4_addWalker_73 : decode cX4_addWalker 73 = .ok (.putfield 52, 3) := by decide +kernel
theorem dX4_addWalker_76 : decode cX4_addWalker 76 = .ok (.iconst 1, 1) := by decide +kernel
theorem dX4_addWalker_77 : decode cX4_addWalker 77 = .ok (.ireturn, 1) := by decide +kernel
theorem dX4_turn_0 : decode cX4_turn 0 = .ok (.aload_n 0, 1) := by decide +kernel
theorem dX4_turn_1 : decode cX4_turn 1 = .ok (.iload_n 1, 1) := by decide +kernel
theorem dX4_turn_2 : decode cX4_turn 2 = .ok (.invokevirtual 62, 3) := by decide +kernel
theorem dX4_turn_5 : decode cX4_turn 5 = .ok (.ifCond .ne 5, 3) := by decide +kernel
theorem dX4_turn_8 : decode cX4_turn 8 = .ok (.iconst 0, 1) := by decide +kernel
theorem dX4_turn_9 : decode cX4_turn 9 = .ok (.ireturn, 1) := by decide +kernel
theorem dX4_turn_10 : decode cX4_turn 10 = .ok (.aload_n 0, 1) := by decide +kernel
theorem dX4_turn_11 : decode cX4_turn 11 = .ok (.dup, 1) := by decide +kernel
theorem dX4_turn_12 : decode cX4_turn 12 = .ok (.getfield 49, 3) := by decide +kernel
theorem dX4_turn_15 : decode cX4_turn 15 = .ok (.iconst 1, 1) := by decide +kernel
theorem dX4_turn_16 : decode cX4_turn 16 = .ok (.iload_n 1, 1) := by decide +kernel
theorem dX4_turn_17 : decode cX4_turn 17 = .ok (.ishl, 1) := by decide +kernel
theorem dX4_turn_18 : decode cX4_turn 18 = .ok (.ixor, 1) := by decide +kernel
theorem dX4_turn_19 : decode cX4_turn 19 = .ok (.putfield 49, 3) := by decide +kernel
theorem dX4_turn_22 : decode cX4_turn 22 = .ok (.iconst 1, 1) := by decide +kernel
theorem dX4_turn_23 : decode cX4_turn 23 = .ok (.ireturn, 1) := by decide +kernel
theorem dX4_aim_0 : decode cX4_aim 0 = .ok (.aload_n 0, 1) := by decide +kernel
theorem dX4_aim_1 : decode cX4_aim 1 = .ok (.iload_n 1, 1) := by decide +kernel
theorem dX4_aim_2 : decode cX4_aim 2 = .ok (.invokevirtual 65, 3) := by decide +kernel
theorem dX4_aim_5 : decode cX4_aim 5 = .ok (.ifCond .eq 10, 3) := by decide +kernel
theorem dX4_aim_8 : decode cX4_aim 8 = .ok (.iload_n 2, 1) := by decide +kernel
theorem dX4_aim_9 : decode cX4_aim 9 = .ok (.invokestatic 58, 3) := by decide +kernel
theorem dX4_aim_12 : decode cX4_aim 12 = .ok (.ifCond .ne 5, 3) := by decide +kernel
theorem dX4_aim_15 : decode cX4_aim 15 = .ok (.iconst 0, 1) := by decide +kernel
theorem dX4_aim_16 : decode cX4_aim 16 = .ok (.ireturn, 1) := by decide +kernel
theorem dX4_aim_17 : decode cX4_aim 17 = .ok (.aload_n 0, 1) := by decide +kernel
theorem dX4_aim_18 : decode cX4_aim 18 = .ok (.getfield 24, 3) := by decide +kernel
theorem dX4_aim_21 : decode cX4_aim 21 = .ok (.iload_n 1, 1) := by decide +kernel
theorem dX4_aim_22 : decode cX4_aim 22 = .ok (.iload_n 2, 1) := by decide +kernel
theorem dX4_aim_23 : decode cX4_aim 23 = .ok (.iastore, 1) := by decide +kernel
theorem dX4_aim_24 : decode cX4_aim 24 = .ok (.iconst 1, 1) := by decide +kernel
theorem dX4_aim_25 : decode cX4_aim 25 = .ok (.ireturn, 1) := by decide +kernel
theorem dX4_addDebt_0 : decode cX4_addDebt 0 = .ok (.aload_n 0, 1) := by decide +kernel
theorem dX4_addDebt_1 : decode cX4_addDebt 1 = .ok (.iload_n 1, 1) := by decide +kernel
theorem dX4_addDebt_2 : decode cX4_addDebt 2 = .ok (.invokevirtual 65, 3) := by decide +kernel
theorem dX4_addDebt_5 : decode cX4_addDebt 5 = .ok (.ifCond .eq 11, 3) := by decide +kernel
theorem dX4_addDebt_8 : decode cX4_addDebt 8 = .ok (.aload_n 0, 1) := by decide +kernel
theorem dX4_addDebt_9 : decode cX4_addDebt 9 = .ok (.iload_n 2, 1) := by decide +kernel
theorem dX4_addDebt_10 : decode cX4_addDebt 10 = .ok (.invokevirtual 62, 3) := by decide +kernel
theorem dX4_addDebt_13 : decode cX4_addDebt 13 = .ok (.ifCond .ne 5, 3) := by decide +kernel
theorem dX4_addDebt_16 : decode cX4_addDebt 16 = .ok (.iconst 0, 1) := by decide +kernel
theorem dX4_addDebt_17 : decode cX4_addDebt 17 = .ok (.ireturn, 1) := by decide +kernel
theorem dX4_addDebt_18 : decode cX4_addDebt 18 = .ok (.aload_n 0, 1) := by decide +kernel
theorem dX4_addDebt_19 : decode cX4_addDebt 19 = .ok (.iload_n 1, 1) := by decide +kernel
theorem dX4_addDebt_20 : decode cX4_addDebt 20 = .ok (.iload_n 2, 1) := by decide +kernel
theorem dX4_addDebt_21 : decode cX4_addDebt 21 = .ok (.invokevirtual 68, 3) := by decide +kernel
theorem dX4_addDebt_24 : decode cX4_addDebt 24 = .ok (.ifCond .ne 10, 3) := by decide +kernel
theorem dX4_addDebt_27 : decode cX4_addDebt 27 = .ok (.aload_n 0, 1) := by decide +kernel
theorem dX4_addDebt_28 : decode cX4_addDebt 28 = .ok (.iload_n 1, 1) := by decide +kernel
theorem dX4_addDebt_29 : decode cX4_addDebt 29 = .ok (.iload_n 2, 1) := by decide +kernel
theorem dX4_addDebt_30 : decode cX4_addDebt 30 = .ok (.iconst 0, 1) := by decide +kernel
theorem dX4_addDebt_31 : decode cX4_addDebt 31 = .ok (.invokevirtual 72, 3) := by decide +kernel
theorem dX4_addDebt_34 : decode cX4_addDebt 34 = .ok (.iconst 1, 1) := by decide +kernel
theorem dX4_addDebt_35 : decode cX4_addDebt 35 = .ok (.ireturn, 1) := by decide +kernel
theorem dX4_pass_0 : decode cX4_pass 0 = .ok (.iload_n 1, 1) := by decide +kernel
theorem dX4_pass_1 : decode cX4_pass 1 = .ok (.iconst 1, 1) := by decide +kernel
theorem dX4_pass_2 : decode cX4_pass 2 = .ok (.if_icmp .lt 21, 3) := by decide +kernel
theorem dX4_pass_5 : decode cX4_pass 5 = .ok (.iload_n 1, 1) := by decide +kernel
theorem dX4_pass_6 : decode cX4_pass 6 = .ok (.bipush 60, 2) := by decide +kernel
theorem dX4_pass_8 : decode cX4_pass 8 = .ok (.if_icmp .gt 15, 3) := by decide +kernel
theorem dX4_pass_11 : decode cX4_pass 11 = .ok (.aload_n 0, 1) := by decide +kernel
theorem dX4_pass_12 : decode cX4_pass 12 = .ok (.getfield 55, 3) := by decide +kernel
theorem dX4_pass_15 : decode cX4_pass 15 = .ok (.iload_n 1, 1) := by decide +kernel
theorem dX4_pass_16 : decode cX4_pass 16 = .ok (.iadd, 1) := by decide +kernel
theorem dX4_pass_17 : decode cX4_pass 17 = .ok (.sipush 999, 3) := by decide +kernel
theorem dX4_pass_20 : decode cX4_pass 20 = .ok (.if_icmp .le 5, 3) := by decide +kernel
theorem dX4_pass_23 : decode cX4_pass 23 = .ok (.iconst 0, 1) := by decide +kernel
theorem dX4_pass_24 : decode cX4_pass 24 = .ok (.ireturn, 1) := by decide +kernel
theorem dX4_pass_25 : decode cX4_pass 25 = .ok (.iconst 0, 1) := by decide +kernel
theorem dX4_pass_26 : decode cX4_pass 26 = .ok (.istore_n 2, 1) := by decide +kernel
theorem dX4_pass_27 : decode cX4_pass 27 = .ok (.iload_n 2, 1) := by decide +kernel
theorem dX4_pass_28 : decode cX4_pass 28 = .ok (.aload_n 0, 1) := by decide +kernel
theorem dX4_pass_29 : decode cX4_pass 29 = .ok (.getfield 52, 3) := by decide +kernel
theorem dX4_pass_32 : decode cX4_pass 32 = .ok (.if_icmp .ge 50, 3) := by decide +kernel
theorem dX4_pass_35 : decode cX4_pass 35 = .ok (.iconst 0, 1) := by decide +kernel
theorem dX4_pass_36 : decode cX4_pass 36 = .ok (.istore_n 3, 1) := by decide +kernel
theorem dX4_pass_37 : decode cX4_pass 37 = .ok (.iload_n 3, 1) := by decide +kernel
theorem dX4_pass_38 : decode cX4_pass 38 = .ok (.aload_n 0, 1) := by decide +kernel
theorem dX4_pass_39 : decode cX4_pass 39 = .ok (.getfield 39, 3) := by decide +kernel
theorem dX4_pass_42 : decode cX4_pass 42 = .ok (.if_icmp .ge 22, 3) := by decide +kernel
theorem dX4_pass_45 : decode cX4_pass 45 = .ok (.aload_n 0, 1) := by decide +kernel
theorem dX4_pass_46 : decode cX4_pass 46 = .ok (.iload_n 2, 1) := by decide +kernel
theorem dX4_pass_47 : decode cX4_pass 47 = .ok (.iload_n 3, 1) := by decide +kernel
theorem dX4_pass_48 : decode cX4_pass 48 = .ok (.aload_n 0, 1) := by decide +kernel
theorem dX4_pass_49 : decode cX4_pass 49 = .ok (.iload_n 2, 1) := by decide +kernel
theorem dX4_pass_50 : decode cX4_pass 50 = .ok (.iload_n 3, 1) := by decide +kernel
theorem dX4_pass_51 : decode cX4_pass 51 = .ok (.iload_n 1, 1) := by decide +kernel
theorem dX4_pass_52 : decode cX4_pass 52 = .ok (.invokevirtual 76, 3) := by decide +kernel
theorem dX4_pass_55 : decode cX4_pass 55 = .ok (.invokevirtual 72, 3) := by decide +kernel
theorem dX4_pass_58 : decode cX4_pass 58 = .ok (.iinc 3 1, 3) := by decide +kernel
theorem dX4_pass_61 : decode cX4_pass 61 = .ok (.goto (-24), 3) := by decide +kernel
theorem dX4_pass_64 : decode cX4_pass 64 = .ok (.aload_n 0, 1) := by decide +kernel
theorem dX4_pass_65 : decode cX4_pass 65 = .ok (.getfield 21, 3) := by decide +kernel
theorem dX4_pass_68 : decode cX4_pass 68 = .ok (.iload_n 2, 1) := by decide +kernel
theorem dX4_pass_69 : decode cX4_pass 69 = .ok (.aload_n 0, 1) := by decide +kernel
theorem dX4_pass_70 : decode cX4_pass 70 = .ok (.iload_n 2, 1) := by decide +kernel
theorem dX4_pass_71 : decode cX4_pass 71 = .ok (.iload_n 1, 1) := by decide +kernel
theorem dX4_pass_72 : decode cX4_pass 72 = .ok (.invokevirtual 80, 3) := by decide +kernel
theorem dX4_pass_75 : decode cX4_pass 75 = .ok (.iastore, 1) := by decide +kernel
theorem dX4_pass_76 : decode cX4_pass 76 = .ok (.iinc 2 1, 3) := by decide +kernel
theorem dX4_pass_79 : decode cX4_pass 79 = .ok (.goto (-52), 3) := by decide +kernel
theorem dX4_pass_82 : decode cX4_pass 82 = .ok (.aload_n 0, 1) := by decide +kernel
theorem dX4_pass_83 : decode cX4_pass 83 = .ok (.dup, 1) := by decide +kernel
theorem dX4_pass_84 : decode cX4_pass 84 = .ok (.getfield 55, 3) := by decide +kernel
theorem dX4_pass_87 : decode cX4_pass 87 = .ok (.iload_n 1, 1) := by decide +kernel
theorem dX4_pass_88 : decode cX4_pass 88 = .ok (.iadd, 1) := by decide +kernel
theorem dX4_pass_89 : decode cX4_pass 89 = .ok (.putfield 55, 3) := by decide +kernel
theorem dX4_pass_92 : decode cX4_pass 92 = .ok (.iconst 1, 1) := by decide +kernel
theorem dX4_pass_93 : decode cX4_pass 93 = .ok (.ireturn, 1) := by decide +kernel
theorem dX4_setDebt_0 : decode cX4_setDebt 0 = .ok (.aload_n 0, 1) := by decide +kernel
theorem dX4_setDebt_1 : decode cX4_setDebt 1 = .ok (.getfield 30, 3) := by decide +kernel
theorem dX4_setDebt_4 : decode cX4_setDebt 4 = .ok (.iload_n 1, 1) := by decide +kernel
theorem dX4_setDebt_5 : decode cX4_setDebt 5 = .ok (.bipush 8, 2) := by decide +kernel
theorem dX4_setDebt_7 : decode cX4_setDebt 7 = .ok (.imul, 1) := by decide +kernel
theorem dX4_setDebt_8 : decode cX4_setDebt 8 = .ok (.iload_n 2, 1) := by decide +kernel
theorem dX4_setDebt_9 : decode cX4_setDebt 9 = .ok (.iadd, 1) := by decide +kernel
theorem dX4_setDebt_10 : decode cX4_setDebt 10 = .ok (.iload_n 3, 1) := by decide +kernel
theorem dX4_setDebt_11 : decode cX4_setDebt 11 = .ok (.iastore, 1) := by decide +kernel
theorem dX4_setDebt_12 : decode cX4_setDebt 12 = .ok (.return_, 1) := by decide +kernel
theorem dX4_owes_0 : decode cX4_owes 0 = .ok (.aload_n 0, 1) := by decide +kernel
theorem dX4_owes_1 : decode cX4_owes 1 = .ok (.getfield 30, 3) := by decide +kernel
theorem dX4_owes_4 : decode cX4_owes 4 = .ok (.iload_n 1, 1) := by decide +kernel
theorem dX4_owes_5 : decode cX4_owes 5 = .ok (.bipush 8, 2) := by decide +kernel
theorem dX4_owes_7 : decode cX4_owes 7 = .ok (.imul, 1) := by decide +kernel
theorem dX4_owes_8 : decode cX4_owes 8 = .ok (.iload_n 2, 1) := by decide +kernel
theorem dX4_owes_9 : decode cX4_owes 9 = .ok (.iadd, 1) := by decide +kernel
theorem dX4_owes_10 : decode cX4_owes 10 = .ok (.iaload, 1) := by decide +kernel
theorem dX4_owes_11 : decode cX4_owes 11 = .ok (.iconst (-1), 1) := by decide +kernel
theorem dX4_owes_12 : decode cX4_owes 12 = .ok (.if_icmp .eq 7, 3) := by decide +kernel
theorem dX4_owes_15 : decode cX4_owes 15 = .ok (.iconst 1, 1) := by decide +kernel
theorem dX4_owes_16 : decode cX4_owes 16 = .ok (.goto 4, 3) := by decide +kernel
theorem dX4_owes_19 : decode cX4_owes 19 = .ok (.iconst 0, 1) := by decide +kernel
theorem dX4_owes_20 : decode cX4_owes 20 = .ok (.ireturn, 1) := by decide +kernel
theorem dX4_minutesOf_0 : decode cX4_minutesOf 0 = .ok (.aload_n 0, 1) := by decide +kernel
theorem dX4_minutesOf_1 : decode cX4_minutesOf 1 = .ok (.getfield 9, 3) := by decide +kernel
theorem dX4_minutesOf_4 : decode cX4_minutesOf 4 = .ok (.iload_n 1, 1) := by decide +kernel
theorem dX4_minutesOf_5 : decode cX4_minutesOf 5 = .ok (.iaload, 1) := by decide +kernel
theorem dX4_minutesOf_6 : decode cX4_minutesOf 6 = .ok (.aload_n 0, 1) := by decide +kernel
theorem dX4_minutesOf_7 : decode cX4_minutesOf 7 = .ok (.getfield 15, 3) := by decide +kernel
theorem dX4_minutesOf_10 : decode cX4_minutesOf 10 = .ok (.iload_n 1, 1) := by decide +kernel
theorem dX4_minutesOf_11 : decode cX4_minutesOf 11 = .ok (.iaload, 1) := by decide +kernel
theorem dX4_minutesOf_12 : decode cX4_minutesOf 12 = .ok (.iload_n 2, 1) := by decide +kernel
theorem dX4_minutesOf_13 : decode cX4_minutesOf 13 = .ok (.invokestatic 84, 3) := by decide +kernel
theorem dX4_minutesOf_16 : decode cX4_minutesOf 16 = .ok (.ireturn, 1) := by decide +kernel
theorem dX4_rangeOf_0 : decode cX4_rangeOf 0 = .ok (.aload_n 0, 1) := by decide +kernel
theorem dX4_rangeOf_1 : decode cX4_rangeOf 1 = .ok (.iload_n 2, 1) := by decide +kernel
theorem dX4_rangeOf_2 : decode cX4_rangeOf 2 = .ok (.invokevirtual 87, 3) := by decide +kernel
theorem dX4_rangeOf_5 : decode cX4_rangeOf 5 = .ok (.ifCond .ne 5, 3) := by decide +kernel
theorem dX4_rangeOf_8 : decode cX4_rangeOf 8 = .ok (.iconst (-1), 1) := by decide +kernel
theorem dX4_rangeOf_9 : decode cX4_rangeOf 9 = .ok (.ireturn, 1) := by decide +kernel
theorem dX4_rangeOf_10 : decode cX4_rangeOf 10 = .ok (.aload_n 0, 1) := by decide +kernel
theorem dX4_rangeOf_11 : decode cX4_rangeOf 11 = .ok (.getfield 9, 3) := by decide +kernel
theorem dX4_rangeOf_14 : decode cX4_rangeOf 14 = .ok (.iload_n 2, 1) := by decide +kernel
theorem dX4_rangeOf_15 : decode cX4_rangeOf 15 = .ok (.iaload, 1) := by decide +kernel
theorem dX4_rangeOf_16 : decode cX4_rangeOf 16 = .ok (.aload_n 0, 1) := by decide +kernel
theorem dX4_rangeOf_17 : decode cX4_rangeOf 17 = .ok (.getfield 15, 3) := by decide +kernel
theorem dX4_rangeOf_20 : decode cX4_rangeOf 20 = .ok (.iload_n 2, 1) := by decide +kernel
theorem dX4_rangeOf_21 : decode cX4_rangeOf 21 = .ok (.iaload, 1) := by decide +kernel
theorem dX4_rangeOf_22 : decode cX4_rangeOf 22 = .ok (.invokestatic 90, 3) := by decide +kernel
theorem dX4_rangeOf_25 : decode cX4_rangeOf 25 = .ok (.istore_n 3, 1) := by decide +kernel
theorem dX4_rangeOf_26 : decode cX4_rangeOf 26 = .ok (.aload_n 0, 1) := by decide +kernel
theorem dX4_rangeOf_27 : decode cX4_rangeOf 27 = .ok (.getfield 27, 3) := by decide +kernel
theorem dX4_rangeOf_30 : decode cX4_rangeOf 30 = .ok (.iload_n 1, 1) := by decide +kernel
theorem dX4_rangeOf_31 : decode cX4_rangeOf 31 = .ok (.iaload, 1) := by decide +kernel
theorem dX4_rangeOf_32 : decode cX4_rangeOf 32 = .ok (.iconst 2, 1) := by decide +kernel
theorem dX4_rangeOf_33 : decode cX4_rangeOf 33 = .ok (.if_icmp .ne 5, 3) := by decide +kernel
theorem dX4_rangeOf_36 : decode cX4_rangeOf 36 = .ok (.iload_n 3, 1) := by decide +kernel
theorem dX4_rangeOf_37 : decode cX4_rangeOf 37 = .ok (.ireturn, 1) := by decide +kernel
theorem dX4_rangeOf_38 : decode cX4_rangeOf 38 = .ok (.aload_n 0, 1) := by decide +kernel
theorem dX4_rangeOf_39 : decode cX4_rangeOf 39 = .ok (.getfield 27, 3) := by decide +kernel
theorem dX4_rangeOf_42 : decode cX4_rangeOf 42 = .ok (.iload_n 1, 1) := by decide +kernel
theorem dX4_rangeOf_43 : decode cX4_rangeOf 43 = .ok (.iaload, 1) := by decide +kernel
theorem dX4_rangeOf_44 : decode cX4_rangeOf 44 = .ok (.iconst 1, 1) := by decide +kernel
theorem dX4_rangeOf_45 : decode cX4_rangeOf 45 = .ok (.if_icmp .ne 9, 3) := by decide +kernel
theorem dX4_rangeOf_48 : decode cX4_rangeOf 48 = .ok (.iload_n 3, 1) := by decide +kernel
theorem dX4_rangeOf_49 : decode cX4_rangeOf 49 = .ok (.iconst 2, 1) := by decide +kernel
theorem dX4_rangeOf_50 : decode cX4_rangeOf 50 = .ok (.idiv, 1) := by decide +kernel
theorem dX4_rangeOf_51 : decode cX4_rangeOf 51 = .ok (.goto 4, 3) := by decide +kernel
theorem dX4_rangeOf_54 : decode cX4_rangeOf 54 = .ok (.iconst (-1), 1) := by decide +kernel
theorem dX4_rangeOf_55 : decode cX4_rangeOf 55 = .ok (.ireturn, 1) := by decide +kernel
theorem dX4_seesFrom_0 : decode cX4_seesFrom 0 = .ok (.iconst 0, 1) := by decide +kernel
theorem dX4_seesFrom_1 : decode cX4_seesFrom 1 = .ok (.istore_n 3, 1) := by decide +kernel
theorem dX4_seesFrom_2 : decode cX4_seesFrom 2 = .ok (.iconst 0, 1) := by decide +kernel
theorem dX4_seesFrom_3 : decode cX4_seesFrom 3 = .ok (.istore 4, 2) := by decide +kernel
theorem dX4_seesFrom_5 : decode cX4_seesFrom 5 = .ok (.iload 4, 2) := by decide +kernel
theorem dX4_seesFrom_7 : decode cX4_seesFrom 7 = .ok (.aload_n 0, 1) := by decide +kernel
theorem dX4_seesFrom_8 : decode cX4_seesFrom 8 = .ok (.getfield 39, 3) := by decide +kernel
theorem dX4_seesFrom_11 : decode cX4_seesFrom 11 = .ok (.if_icmp .ge 37, 3) := by decide +kernel
theorem dX4_seesFrom_14 : decode cX4_seesFrom 14 = .ok (.iload_n 2, 1) := by decide +kernel
theorem dX4_seesFrom_15 : decode cX4_seesFrom 15 = .ok (.aload_n 0, 1) := by decide +kernel
theorem dX4_seesFrom_16 : decode cX4_seesFrom 16 = .ok (.getfield 18, 3) := by decide +kernel
theorem dX4_seesFrom_19 : decode cX4_seesFrom 19 = .ok (.iload 4, 2) := by decide +kernel
theorem dX4_seesFrom_21 : decode cX4_seesFrom 21 = .ok (.iaload, 1) := by decide +kernel
theorem dX4_seesFrom_22 : decode cX4_seesFrom 22 = .ok (.invokestatic 93, 3) := by decide +kernel
theorem dX4_seesFrom_25 : decode cX4_seesFrom 25 = .ok (.aload_n 0, 1) := by decide +kernel
theorem dX4_seesFrom_26 : decode cX4_seesFrom 26 = .ok (.iload_n 1, 1) := by decide +kernel
theorem dX4_seesFrom_27 : decode cX4_seesFrom 27 = .ok (.iload 4, 2) := by decide +kernel
theorem dX4_seesFrom_29 : decode cX4_seesFrom 29 = .ok (.invokevirtual 96, 3) := by decide +kernel
theorem dX4_seesFrom_32 : decode cX4_seesFrom 32 = .ok (.if_icmp .gt 10, 3) := by decide +kernel
theorem dX4_seesFrom_35 : decode cX4_seesFrom 35 = .ok (.iload_n 3, 1) := by decide +kernel
theorem dX4_seesFrom_36 : decode cX4_seesFrom 36 = .ok (.iconst 1, 1) := by decide +kernel
theorem dX4_seesFrom_37 : decode cX4_seesFrom 37 = .ok (.iload 4, 2) := by decide +kernel
theorem dX4_seesFrom_39 : decode cX4_seesFrom 39 = .ok (.ishl, 1) := by decide +kernel
theorem dX4_seesFrom_40 : decode cX4_seesFrom 40 = .ok (.ior, 1) := by decide +kernel
theorem dX4_seesFrom_41 : decode cX4_seesFrom 41 = .ok (.istore_n 3, 1) := by decide +kernel
theorem dX4_seesFrom_42 : decode cX4_seesFrom 42 = .ok (.iinc 4 1, 3) := by decide +kernel
theorem dX4_seesFrom_45 : decode cX4_seesFrom 45 = .ok (.goto (-40), 3) := by decide +kernel
theorem dX4_seesFrom_48 : decode cX4_seesFrom 48 = .ok (.iload_n 3, 1) := by decide +kernel
theorem dX4_seesFrom_49 : decode cX4_seesFrom 49 = .ok (.ireturn, 1) := by decide +kernel
theorem dX4_seenBy_0 : decode cX4_seenBy 0 = .ok (.iconst 0, 1) := by decide +kernel
theorem dX4_seenBy_1 : decode cX4_seenBy 1 = .ok (.istore_n 2, 1) := by decide +kernel
theorem dX4_seenBy_2 : decode cX4_seenBy 2 = .ok (.iconst 0, 1) := by decide +kernel
theorem dX4_seenBy_3 : decode cX4_seenBy 3 = .ok (.istore_n 3, 1) := by decide +kernel
theorem dX4_seenBy_4 : decode cX4_seenBy 4 = .ok (.iload_n 3, 1) := by decide +kernel
theorem dX4_seenBy_5 : decode cX4_seenBy 5 = .ok (.aload_n 0, 1) := by decide +kernel
theorem dX4_seenBy_6 : decode cX4_seenBy 6 = .ok (.getfield 52, 3) := by decide +kernel
theorem dX4_seenBy_9 : decode cX4_seenBy 9 = .ok (.if_icmp .ge 39, 3) := by decide +kernel
theorem dX4_seenBy_12 : decode cX4_seenBy 12 = .ok (.aload_n 0, 1) := by decide +kernel
theorem dX4_seenBy_13 : decode cX4_seenBy 13 = .ok (.getfield 21, 3) := by decide +kernel
theorem dX4_seenBy_16 : decode cX4_seenBy 16 = .ok (.iload_n 3, 1) := by decide +kernel
theorem dX4_seenBy_17 : decode cX4_seenBy 17 = .ok (.iaload, 1) := by decide +kernel
theorem dX4_seenBy_18 : decode cX4_seenBy 18 = .ok (.aload_n 0, 1) := by decide +kernel
theorem dX4_seenBy_19 : decode cX4_seenBy 19 = .ok (.getfield 18, 3) := by decide +kernel
theorem dX4_seenBy_22 : decode cX4_seenBy 22 = .ok (.iload_n 1, 1) := by decide +kernel
theorem dX4_seenBy_23 : decode cX4_seenBy 23 = .ok (.iaload, 1) := by decide +kernel
theorem dX4_seenBy_24 : decode cX4_seenBy 24 = .ok (.invokestatic 93, 3) := by decide +kernel
theorem dX4_seenBy_27 : decode cX4_seenBy 27 = .ok (.aload_n 0, 1) := by decide +kernel
theorem dX4_seenBy_28 : decode cX4_seenBy 28 = .ok (.iload_n 3, 1) := by decide +kernel
theorem dX4_seenBy_29 : decode cX4_seenBy 29 = .ok (.iload_n 1, 1) := by decide +kernel
theorem dX4_seenBy_30 : decode cX4_seenBy 30 = .ok (.invokevirtual 96, 3) := by decide +kernel
theorem dX4_seenBy_33 : decode cX4_seenBy 33 = .ok (.if_icmp .gt 9, 3) := by decide +kernel
theorem dX4_seenBy_36 : decode cX4_seenBy 36 = .ok (.iload_n 2, 1) := by decide +kernel
theorem dX4_seenBy_37 : decode cX4_seenBy 37 = .ok (.iconst 1, 1) := by decide +kernel
theorem dX4_seenBy_38 : decode cX4_seenBy 38 = .ok (.iload_n 3, 1) := by decide +kernel
theorem dX4_seenBy_39 : decode cX4_seenBy 39 = .ok (.ishl, 1) := by decide +kernel
theorem dX4_seenBy_40 : decode cX4_seenBy 40 = .ok (.ior, 1) := by decide +kernel
theorem dX4_seenBy_41 : decode cX4_seenBy 41 = .ok (.istore_n 2, 1) := by decide +kernel
theorem dX4_seenBy_42 : decode cX4_seenBy 42 = .ok (.iinc 3 1, 3) := by decide +kernel
theorem dX4_seenBy_45 : decode cX4_seenBy 45 = .ok (.goto (-41), 3) := by decide +kernel
theorem dX4_seenBy_48 : decode cX4_seenBy 48 = .ok (.iload_n 2, 1) := by decide +kernel
theorem dX4_seenBy_49 : decode cX4_seenBy 49 = .ok (.ireturn, 1) := by decide +kernel
theorem dX4_placeBehind_0 : decode cX4_placeBehind 0 = .ok (.aload_n 0, 1) := by decide +kernel
theorem dX4_placeBehind_1 : decode cX4_placeBehind 1 = .ok (.getfield 21, 3) := by decide +kernel
theorem dX4_placeBehind_4 : decode cX4_placeBehind 4 = .ok (.iload_n 1, 1) := by decide +kernel
theorem dX4_placeBehind_5 : decode cX4_placeBehind 5 = .ok (.iaload, 1) := by decide +kernel
theorem dX4_placeBehind_6 : decode cX4_placeBehind 6 = .ok (.istore_n 3, 1) := by decide +kernel
theorem dX4_placeBehind_7 : decode cX4_placeBehind 7 = .ok (.iconst 1, 1) := by decide +kernel
theorem dX4_placeBehind_8 : decode cX4_placeBehind 8 = .ok (.istore 4, 2) := by decide +kernel
theorem dX4_placeBehind_10 : decode cX4_placeBehind 10 = .ok (.iload 4, 2) := by decide +kernel
theorem dX4_placeBehind_12 : decode cX4_placeBehind 12 = .ok (.iload_n 2, 1) := by decide +kernel
theorem dX4_placeBehind_13 : decode cX4_placeBehind 13 = .ok (.if_icmp .gt 30, 3) := by decide +kernel
theorem dX4_placeBehind_16 : decode cX4_placeBehind 16 = .ok (.iload_n 3, 1) := by decide +kernel
theorem dX4_placeBehind_17 : decode cX4_placeBehind 17 = .ok (.aload_n 0, 1) := by decide +kernel
theorem dX4_placeBehind_18 : decode cX4_placeBehind 18 = .ok (.getfield 24, 3) := by decide +kernel
theorem dX4_placeBehind_21 : decode cX4_placeBehind 21 = .ok (.iload_n 1, 1) := by decide +kernel
theorem dX4_placeBehind_22 : decode cX4_placeBehind 22 = .ok (.iaload, 1) := by decide +kernel
theorem dX4_placeBehind_23 : decode cX4_placeBehind 23 = .ok (.if_icmp .eq 20, 3) := by decide +kernel
theorem dX4_placeBehind_26 : decode cX4_placeBehind 26 = .ok (.iload_n 3, 1) := by decide +kernel
theorem dX4_placeBehind_27 : decode cX4_placeBehind 27 = .ok (.aload_n 0, 1) := by decide +kernel
theorem dX4_placeBehind_28 : decode cX4_placeBehind 28 = .ok (.getfield 24, 3) := by decide +kernel
theorem dX4_placeBehind_31 : decode cX4_placeBehind 31 = .ok (.iload_n 1, 1) := by decide +kernel
theorem dX4_placeBehind_32 : decode cX4_placeBehind 32 = .ok (.iaload, 1) := by decide +kernel
theorem dX4_placeBehind_33 : decode cX4_placeBehind 33 = .ok (.invokestatic 99, 3) := by decide +kernel
theorem dX4_placeBehind_36 : decode cX4_placeBehind 36 = .ok (.istore_n 3, 1) := by decide +kernel
theorem dX4_placeBehind_37 : decode cX4_placeBehind 37 = .ok (.iinc 4 1, 3) := by decide +kernel
theorem dX4_placeBehind_40 : decode cX4_placeBehind 40 = .ok (.goto (-30), 3) := by decide +kernel
theorem dX4_placeBehind_43 : decode cX4_placeBehind 43 = .ok (.iload_n 3, 1) := by decide +kernel
theorem dX4_placeBehind_44 : decode cX4_placeBehind 44 = .ok (.ireturn, 1) := by decide +kernel
theorem dX4_firstSighting_0 : decode cX4_firstSighting 0 = .ok (.aload_n 0, 1) := by decide +kernel
theorem dX4_firstSighting_1 : decode cX4_firstSighting 1 = .ok (.iload_n 1, 1) := by decide +kernel
theorem dX4_firstSighting_2 : decode cX4_firstSighting 2 = .ok (.iload_n 2, 1) := by decide +kernel
theorem dX4_firstSighting_3 : decode cX4_firstSighting 3 = .ok (.invokevirtual 96, 3) := by decide +kernel
theorem dX4_firstSighting_6 : decode cX4_firstSighting 6 = .ok (.istore 4, 2) := by decide +kernel
theorem dX4_firstSighting_8 : decode cX4_firstSighting 8 = .ok (.iload 4, 2) := by decide +kernel
theorem dX4_firstSighting_10 : decode cX4_firstSighting 10 = .ok (.ifCond .ge 6, 3) := by decide +kernel
theorem dX4_firstSighting_13 : decode cX4_firstSighting 13 = .ok (.bipush (-9), 2) := by decide +kernel
theorem dX4_firstSighting_15 : decode cX4_firstSighting 15 = .ok (.ireturn, 1) := by decide +kernel
theorem dX4_firstSighting_16 : decode cX4_firstSighting 16 = .ok (.aload_n 0, 1) := by decide +kernel
theorem dX4_firstSighting_17 : decode cX4_firstSighting 17 = .ok (.getfield 21, 3) := by decide +kernel
theorem dX4_firstSighting_20 : decode cX4_firstSighting 20 = .ok (.iload_n 1, 1) := by decide +kernel
theorem dX4_firstSighting_21 : decode cX4_firstSighting 21 = .ok (.iaload, 1) := by decide +kernel
theorem dX4_firstSighting_22 : decode cX4_firstSighting 22 = .ok (.istore 5, 2) := by decide +kernel
theorem dX4_firstSighting_24 : decode cX4_firstSighting 24 = .ok (.iconst 1, 1) := by decide +kernel
theorem dX4_firstSighting_25 : decode cX4_firstSighting 25 = .ok (.istore 6, 2) := by decide +kernel
theorem dX4_firstSighting_27 : decode cX4_firstSighting 27 = .ok (.iload 6, 2) := by decide +kernel
theorem dX4_firstSighting_29 : decode cX4_firstSighting 29 = .ok (.iload_n 3, 1) := by decide +kernel
theorem dX4_firstSighting_30 : decode cX4_firstSighting 30 = .ok (.if_icmp .gt 55, 3) := by decide +kernel
theorem dX4_firstSighting_33 : decode cX4_firstSighting 33 = .ok (.iload 5, 2) := by decide +kernel
theorem dX4_firstSighting_35 : decode cX4_firstSighting 35 = .ok (.aload_n 0, 1) := by decide +kernel
theorem dX4_firstSighting_36 : decode cX4_firstSighting 36 = .ok (.getfield 24, 3) := by decide +kernel
theorem dX4_firstSighting_39 : decode cX4_firstSighting 39 = .ok (.iload_n 1, 1) := by decide +kernel
theorem dX4_firstSighting_40 : decode cX4_firstSighting 40 = .ok (.iaload, 1) := by decide +kernel
theorem dX4_firstSighting_41 : decode cX4_firstSighting 41 = .ok (.invokestatic 99, 3) := by decide +kernel
theorem dX4_firstSighting_44 : decode cX4_firstSighting 44 = .ok (.istore 5, 2) := by decide +kernel
theorem dX4_firstSighting_46 : decode cX4_firstSighting 46 = .ok (.iload 5, 2) := by decide +kernel
theorem dX4_firstSighting_48 : decode cX4_firstSighting 48 = .ok (.aload_n 0, 1) := by decide +kernel
theorem dX4_firstSighting_49 : decode cX4_firstSighting 49 = .ok (.getfield 18, 3) := by decide +kernel
theorem dX4_firstSighting_52 : decode cX4_firstSighting 52 = .ok (.iload_n 2, 1) := by decide +kernel
theorem dX4_firstSighting_53 : decode cX4_firstSighting 53 = .ok (.iaload, 1) := by decide +kernel
theorem dX4_firstSighting_54 : decode cX4_firstSighting 54 = .ok (.invokestatic 93, 3) := by decide +kernel
theorem dX4_firstSighting_57 : decode cX4_firstSighting 57 = .ok (.iload 4, 2) := by decide +kernel
theorem dX4_firstSighting_59 : decode cX4_firstSighting 59 = .ok (.if_icmp .gt 6, 3) := by decide +kernel
theorem dX4_firstSighting_62 : decode cX4_firstSighting 62 = .ok (.iload 6, 2) := by decide +kernel
theorem dX4_firstSighting_64 : decode cX4_firstSighting 64 = .ok (.ireturn, 1) := by decide +kernel
theorem dX4_firstSighting_65 : decode cX4_firstSighting 65 = .ok (.iload 5, 2) := by decide +kernel
theorem dX4_firstSighting_67 : decode cX4_firstSighting 67 = .ok (.aload_n 0, 1) := by decide +kernel
theorem dX4_firstSighting_68 : decode cX4_firstSighting 68 = .ok (.getfield 24, 3) := by decide +kernel
theorem dX4_firstSighting_71 : decode cX4_firstSighting 71 = .ok (.iload_n 1, 1) := by decide +kernel
theorem dX4_firstSighting_72 : decode cX4_firstSighting 72 = .ok (.iaload, 1) := by decide +kernel
theorem dX4_firstSighting_73 : decode cX4_firstSighting 73 = .ok (.if_icmp .ne 6, 3) := by decide +kernel
theorem dX4_firstSighting_76 : decode cX4_firstSighting 76 = .ok (.bipush (-9), 2) := by decide +kernel
theorem dX4_firstSighting_78 : decode cX4_firstSighting 78 = .ok (.ireturn, 1) := by decide +kernel
theorem dX4_firstSighting_79 : decode cX4_firstSighting 79 = .ok (.iinc 6 1, 3) := by decide +kernel
theorem dX4_firstSighting_82 : decode cX4_firstSighting 82 = .ok (.goto (-55), 3) := by decide +kernel
theorem dX4_firstSighting_85 : decode cX4_firstSighting 85 = .ok (.bipush (-9), 2) := by decide +kernel
theorem dX4_firstSighting_87 : decode cX4_firstSighting 87 = .ok (.ireturn, 1) := by decide +kernel
theorem dX4_sightings_0 : decode cX4_sightings 0 = .ok (.iconst 0, 1) := by decide +kernel
theorem dX4_sightings_1 : decode cX4_sightings 1 = .ok (.istore 4, 2) := by decide +kernel
theorem dX4_sightings_3 : decode cX4_sightings 3 = .ok (.iconst 1, 1) := by decide +kernel
theorem dX4_sightings_4 : decode cX4_sightings 4 = .ok (.istore 5, 2) := by decide +kernel
theorem dX4_sightings_6 : decode cX4_sightings 6 = .ok (.iload 5, 2) := by decide +kernel
theorem dX4_sightings_8 : decode cX4_sightings 8 = .ok (.iload_n 3, 1) := by decide +kernel
theorem dX4_sightings_9 : decode cX4_sightings 9 = .ok (.if_icmp .gt 37, 3) := by decide +kernel
theorem dX4_sightings_12 : decode cX4_sightings 12 = .ok (.aload_n 0, 1) := by decide +kernel
theorem dX4_sightings_13 : decode cX4_sightings 13 = .ok (.iload_n 1, 1) := by decide +kernel
theorem dX4_sightings_14 : decode cX4_sightings 14 = .ok (.iload 5, 2) := by decide +kernel
theorem dX4_sightings_16 : decode cX4_sightings 16 = .ok (.invokevirtual 80, 3) := by decide +kernel
theorem dX4_sightings_19 : decode cX4_sightings 19 = .ok (.aload_n 0, 1) := by decide +kernel
theorem dX4_sightings_20 : decode cX4_sightings 20 = .ok (.getfield 18, 3) := by decide +kernel
theorem dX4_sightings_23 : decode cX4_sightings 23 = .ok (.iload_n 2, 1) := by decide +kernel
theorem dX4_sightings_24 : decode cX4_sightings 24 = .ok (.iaload, 1) := by decide +kernel
theorem dX4_sightings_25 : decode cX4_sightings 25 = .ok (.invokestatic 93, 3) := by decide +kernel
theorem dX4_sightings_28 : decode cX4_sightings 28 = .ok (.aload_n 0, 1) := by decide +kernel
theorem dX4_sightings_29 : decode cX4_sightings 29 = .ok (.iload_n 1, 1) := by decide +kernel
theorem dX4_sightings_30 : decode cX4_sightings 30 = .ok (.iload_n 2, 1) := by decide +kernel
theorem dX4_sightings_31 : decode cX4_sightings 31 = .ok (.invokevirtual 96, 3) := by decide +kernel
theorem dX4_sightings_34 : decode cX4_sightings 34 = .ok (.if_icmp .gt 6, 3) := by decide +kernel
theorem dX4_sightings_37 : decode cX4_sightings 37 = .ok (.iinc 4 1, 3) := by decide +kernel
theorem dX4_sightings_40 : decode cX4_sightings 40 = .ok (.iinc 5 1, 3) := by decide +kernel
theorem dX4_sightings_43 : decode cX4_sightings 43 = .ok (.goto (-37), 3) := by decide +kernel
theorem dX4_sightings_46 : decode cX4_sightings 46 = .ok (.iload 4, 2) := by decide +kernel
theorem dX4_sightings_48 : decode cX4_sightings 48 = .ok (.ireturn, 1) := by decide +kernel
theorem dX4_ageBehind_0 : decode cX4_ageBehind 0 = .ok (.aload_n 0, 1) := by decide +kernel
theorem dX4_ageBehind_1 : decode cX4_ageBehind 1 = .ok (.getfield 30, 3) := by decide +kernel
theorem dX4_ageBehind_4 : decode cX4_ageBehind 4 = .ok (.iload_n 1, 1) := by decide +kernel
theorem dX4_ageBehind_5 : decode cX4_ageBehind 5 = .ok (.bipush 8, 2) := by decide +kernel
theorem dX4_ageBehind_7 : decode cX4_ageBehind 7 = .ok (.imul, 1) := by decide +kernel
theorem dX4_ageBehind_8 : decode cX4_ageBehind 8 = .ok (.iload_n 2, 1) := by decide +kernel
theorem dX4_ageBehind_9 : decode cX4_ageBehind 9 = .ok (.iadd, 1) := by decide +kernel
theorem dX4_ageBehind_10 : decode cX4_ageBehind 10 = .ok (.iaload, 1) := by decide +kernel
theorem dX4_ageBehind_11 : decode cX4_ageBehind 11 = .ok (.istore 4, 2) := by decide +kernel
theorem dX4_ageBehind_13 : decode cX4_ageBehind 13 = .ok (.iload 4, 2) := by decide +kernel
theorem dX4_ageBehind_15 : decode cX4_ageBehind 15 = .ok (.iconst (-1), 1) := by decide +kernel
theorem dX4_ageBehind_16 : decode cX4_ageBehind 16 = .ok (.if_icmp .eq 13, 3) := by decide +kernel
theorem dX4_ageBehind_19 : decode cX4_ageBehind 19 = .ok (.bipush 99, 2) := by decide +kernel
theorem dX4_ageBehind_21 : decode cX4_ageBehind 21 = .ok (.iload 4, 2) := by decide +kernel
theorem dX4_ageBehind_23 : decode cX4_ageBehind 23 = .ok (.iload_n 3, 1) := by decide +kernel
theorem dX4_ageBehind_24 : decode cX4_ageBehind 24 = .ok (.iadd, 1) := by decide +kernel
theorem dX4_ageBehind_25 : decode cX4_ageBehind 25 = .ok (.invokestatic 102, 3) := by decide +kernel
theorem dX4_ageBehind_28 : decode cX4_ageBehind 28 = .ok (.ireturn, 1) := by decide +kernel
theorem dX4_ageBehind_29 : decode cX4_ageBehind 29 = .ok (.aload_n 0, 1) := by decide +kernel
theorem dX4_ageBehind_30 : decode cX4_ageBehind 30 = .ok (.iload_n 1, 1) := by decide +kernel
theorem dX4_ageBehind_31 : decode cX4_ageBehind 31 = .ok (.iload_n 2, 1) := by decide +kernel
theorem dX4_ageBehind_32 : decode cX4_ageBehind 32 = .ok (.iload_n 3, 1) := by decide +kernel
theorem dX4_ageBehind_33 : decode cX4_ageBehind 33 = .ok (.invokevirtual 107, 3) := by decide +kernel
theorem dX4_ageBehind_36 : decode cX4_ageBehind 36 = .ok (.istore 5, 2) := by decide +kernel
theorem dX4_ageBehind_38 : decode cX4_ageBehind 38 = .ok (.iload 5, 2) := by decide +kernel
theorem dX4_ageBehind_40 : decode cX4_ageBehind 40 = .ok (.ifCond .le 10, 3) := by decide +kernel
theorem dX4_ageBehind_43 : decode cX4_ageBehind 43 = .ok (.iload_n 3, 1) := by decide +kernel
theorem dX4_ageBehind_44 : decode cX4_ageBehind 44 = .ok (.iload 5, 2) := by decide +kernel
theorem dX4_ageBehind_46 : decode cX4_ageBehind 46 = .ok (.isub, 1) := by decide +kernel
theorem dX4_ageBehind_47 : decode cX4_ageBehind 47 = .ok (.goto 4, 3) := by decide +kernel
theorem dX4_ageBehind_50 : decode cX4_ageBehind 50 = .ok (.iconst (-1), 1) := by decide +kernel
theorem dX4_ageBehind_51 : decode cX4_ageBehind 51 = .ok (.ireturn, 1) := by decide +kernel
theorem dX4_minutesBehind_0 : decode cX4_minutesBehind 0 = .ok (.aload_n 0, 1) := by decide +kernel
theorem dX4_minutesBehind_1 : decode cX4_minutesBehind 1 = .ok (.iload_n 1, 1) := by decide +kernel
theorem dX4_minutesBehind_2 : decode cX4_minutesBehind 2 = .ok (.iload_n 2, 1) := by decide +kernel
theorem dX4_minutesBehind_3 : decode cX4_minutesBehind 3 = .ok (.iload_n 3, 1) := by decide +kernel
theorem dX4_minutesBehind_4 : decode cX4_minutesBehind 4 = .ok (.invokevirtual 76, 3) := by decide +kernel
theorem dX4_minutesBehind_7 : decode cX4_minutesBehind 7 = .ok (.istore 4, 2) := by decide +kernel
theorem dX4_minutesBehind_9 : decode cX4_minutesBehind 9 = .ok (.iload 4, 2) := by decide +kernel
theorem dX4_minutesBehind_11 : decode cX4_minutesBehind 11 = .ok (.iconst (-1), 1) := by decide +kernel
theorem dX4_minutesBehind_12 : decode cX4_minutesBehind 12 = .ok (.if_icmp .ne 7, 3) := by decide +kernel
theorem dX4_minutesBehind_15 : decode cX4_minutesBehind 15 = .ok (.iconst 0, 1) := by decide +kernel
theorem dX4_minutesBehind_16 : decode cX4_minutesBehind 16 = .ok (.goto 10, 3) := by decide +kernel
theorem dX4_minutesBehind_19 : decode cX4_minutesBehind 19 = .ok (.aload_n 0, 1) := by decide +kernel
theorem dX4_minutesBehind_20 : decode cX4_minutesBehind 20 = .ok (.iload_n 2, 1) := by decide +kernel
theorem dX4_minutesBehind_21 : decode cX4_minutesBehind 21 = .ok (.iload 4, 2) := by decide +kernel
theorem dX4_minutesBehind_23 : decode cX4_minutesBehind 23 = .ok (.invokevirtual 110, 3) := by decide +kernel
theorem dX4_minutesBehind_26 : decode cX4_minutesBehind 26 = .ok (.ireturn, 1) := by decide +kernel
theorem dX4_priceBehind_0 : decode cX4_priceBehind 0 = .ok (.iconst 0, 1) := by decide +kernel
theorem dX4_priceBehind_1 : decode cX4_priceBehind 1 = .ok (.istore_n 3, 1) := by decide +kernel
theorem dX4_priceBehind_2 : decode cX4_priceBehind 2 = .ok (.iconst 0, 1) := by decide +kernel
theorem dX4_priceBehind_3 : decode cX4_priceBehind 3 = .ok (.istore 4, 2) := by decide +kernel
theorem dX4_priceBehind_5 : decode cX4_priceBehind 5 = .ok (.iload 4, 2) := by decide +kernel
theorem dX4_priceBehind_7 : decode cX4_priceBehind 7 = .ok (.aload_n 0, 1) := by decide +kernel
theorem dX4_priceBehind_8 : decode cX4_priceBehind 8 = .ok (.getfield 39, 3) := by decide +kernel
theorem dX4_priceBehind_11 : decode cX4_priceBehind 11 = .ok (.if_icmp .ge 20, 3) := by decide +kernel
theorem dX4_priceBehind_14 : decode cX4_priceBehind 14 = .ok (.iload_n 3, 1) := by decide +kernel
theorem dX4_priceBehind_15 : decode cX4_priceBehind 15 = .ok (.aload_n 0, 1) := by decide +kernel
theorem dX4_priceBehind_16 : decode cX4_priceBehind 16 = .ok (.iload_n 1, 1) := by decide +kernel
theorem dX4_priceBehind_17 : decode cX4_priceBehind 17 = .ok (.iload 4, 2) := by decide +kernel
theorem dX4_priceBehind_19 : decode cX4_priceBehind 19 = .ok (.iload_n 2, 1) := by decide +kernel
theorem dX4_priceBehind_20 : decode cX4_priceBehind 20 = .ok (.invokevirtual 113, 3) := by decide +kernel
theorem dX4_priceBehind_23 : decode cX4_priceBehind 23 = .ok (.iadd, 1) := by decide +kernel
theorem dX4_priceBehind_24 : decode cX4_priceBehind 24 = .ok (.istore_n 3, 1) := by decide +kernel
theorem dX4_priceBehind_25 : decode cX4_priceBehind 25 = .ok (.iinc 4 1, 3) := by decide +kernel
theorem dX4_priceBehind_28 : decode cX4_priceBehind 28 = .ok (.goto (-23), 3) := by decide +kernel
theorem dX4_priceBehind_31 : decode cX4_priceBehind 31 = .ok (.iload_n 3, 1) := by decide +kernel
theorem dX4_priceBehind_32 : decode cX4_priceBehind 32 = .ok (.ireturn, 1) := by decide +kernel
theorem dX4_pricesBehind_0 : decode cX4_pricesBehind 0 = .ok (.iconst 0, 1) := by decide +kernel
theorem dX4_pricesBehind_1 : decode cX4_pricesBehind 1 = .ok (.istore_n 2, 1) := by decide +kernel
theorem dX4_pricesBehind_2 : decode cX4_pricesBehind 2 = .ok (.iconst 0, 1) := by decide +kernel
theorem dX4_pricesBehind_3 : decode cX4_pricesBehind 3 = .ok (.istore_n 3, 1) := by decide +kernel
theorem dX4_pricesBehind_4 : decode cX4_pricesBehind 4 = .ok (.iload_n 3, 1) := by decide +kernel
theorem dX4_pricesBehind_5 : decode cX4_pricesBehind 5 = .ok (.aload_n 0, 1) := by decide +kernel
theorem dX4_pricesBehind_6 : decode cX4_pricesBehind 6 = .ok (.getfield 52, 3) := by decide +kernel
theorem dX4_pricesBehind_9 : decode cX4_pricesBehind 9 = .ok (.if_icmp .ge 38, 3) := by decide +kernel
theorem dX4_pricesBehind_12 : decode cX4_pricesBehind 12 = .ok (.iconst 0, 1) := by decide +kernel
theorem dX4_pricesBehind_13 : decode cX4_pricesBehind 13 = .ok (.istore 4, 2) := by decide +kernel
theorem dX4_pricesBehind_15 : decode cX4_pricesBehind 15 = .ok (.iload 4, 2) := by decide +kernel
theorem dX4_pricesBehind_17 : decode cX4_pricesBehind 17 = .ok (.aload_n 0, 1) := by decide +kernel
theorem dX4_pricesBehind_18 : decode cX4_pricesBehind 18 = .ok (.getfield 39, 3) := by decide +kernel
theorem dX4_pricesBehind_21 : decode cX4_pricesBehind 21 = .ok (.if_icmp .ge 20, 3) := by decide +kernel
theorem dX4_pricesBehind_24 : decode cX4_pricesBehind 24 = .ok (.iload_n 2, 1) := by decide +kernel
theorem dX4_pricesBehind_25 : decode cX4_pricesBehind 25 = .ok (.aload_n 0, 1) := by decide +kernel
theorem dX4_pricesBehind_26 : decode cX4_pricesBehind 26 = .ok (.iload_n 3, 1) := by decide +kernel
theorem dX4_pricesBehind_27 : decode cX4_pricesBehind 27 = .ok (.iload 4, 2) := by decide +kernel
theorem dX4_pricesBehind_29 : decode cX4_pricesBehind 29 = .ok (.iload_n 1, 1) := by decide +kernel
theorem dX4_pricesBehind_30 : decode cX4_pricesBehind 30 = .ok (.invokevirtual 113, 3) := by decide +kernel
theorem dX4_pricesBehind_33 : decode cX4_pricesBehind 33 = .ok (.iadd, 1) := by decide +kernel
theorem dX4_pricesBehind_34 : decode cX4_pricesBehind 34 = .ok (.istore_n 2, 1) := by decide +kernel
theorem dX4_pricesBehind_35 : decode cX4_pricesBehind 35 = .ok (.iinc 4 1, 3) := by decide +kernel
theorem dX4_pricesBehind_38 : decode cX4_pricesBehind 38 = .ok (.goto (-23), 3) := by decide +kernel
theorem dX4_pricesBehind_41 : decode cX4_pricesBehind 41 = .ok (.iinc 3 1, 3) := by decide +kernel
theorem dX4_pricesBehind_44 : decode cX4_pricesBehind 44 = .ok (.goto (-40), 3) := by decide +kernel
theorem dX4_pricesBehind_47 : decode cX4_pricesBehind 47 = .ok (.iload_n 2, 1) := by decide +kernel
theorem dX4_pricesBehind_48 : decode cX4_pricesBehind 48 = .ok (.ireturn, 1) := by decide +kernel
theorem dX4_owesBehind_0 : decode cX4_owesBehind 0 = .ok (.iconst 0, 1) := by decide +kernel
theorem dX4_owesBehind_1 : decode cX4_owesBehind 1 = .ok (.istore_n 3, 1) := by decide +kernel
theorem dX4_owesBehind_2 : decode cX4_owesBehind 2 = .ok (.iconst 0, 1) := by decide +kernel
theorem dX4_owesBehind_3 : decode cX4_owesBehind 3 = .ok (.istore 4, 2) := by decide +kernel
theorem dX4_owesBehind_5 : decode cX4_owesBehind 5 = .ok (.iload 4, 2) := by decide +kernel
theorem dX4_owesBehind_7 : decode cX4_owesBehind 7 = .ok (.aload_n 0, 1) := by decide +kernel
theorem dX4_owesBehind_8 : decode cX4_owesBehind 8 = .ok (.getfield 39, 3) := by decide +kernel
theorem dX4_owesBehind_11 : decode cX4_owesBehind 11 = .ok (.if_icmp .ge 28, 3) := by decide +kernel
theorem dX4_owesBehind_14 : decode cX4_owesBehind 14 = .ok (.aload_n 0, 1) := by decide +kernel
theorem dX4_owesBehind_15 : decode cX4_owesBehind 15 = .ok (.iload_n 1, 1) := by decide +kernel
theorem dX4_owesBehind_16 : decode cX4_owesBehind 16 = .ok (.iload 4, 2) := by decide +kernel
theorem dX4_owesBehind_18 : decode cX4_owesBehind 18 = .ok (.iload_n 2, 1) := by decide +kernel
theorem dX4_owesBehind_19 : decode cX4_owesBehind 19 = .ok (.invokevirtual 76, 3) := by decide +kernel
theorem dX4_owesBehind_22 : decode cX4_owesBehind 22 = .ok (.iconst (-1), 1) := by decide +kernel
theorem dX4_owesBehind_23 : decode cX4_owesBehind 23 = .ok (.if_icmp .eq 10, 3) := by decide +kernel
theorem dX4_owesBehind_26 : decode cX4_owesBehind 26 = .ok (.iload_n 3, 1) := by decide +kernel
theorem dX4_owesBehind_27 : decode cX4_owesBehind 27 = .ok (.iconst 1, 1) := by decide +kernel
theorem dX4_owesBehind_28 : decode cX4_owesBehind 28 = .ok (.iload 4, 2) := by decide +kernel
theorem dX4_owesBehind_30 : decode cX4_owesBehind 30 = .ok (.ishl, 1) := by decide +kernel
theorem dX4_owesBehind_31 : decode cX4_owesBehind 31 = .ok (.ior, 1) := by decide +kernel
theorem dX4_owesBehind_32 : decode cX4_owesBehind 32 = .ok (.istore_n 3, 1) := by decide +kernel
theorem dX4_owesBehind_33 : decode cX4_owesBehind 33 = .ok (.iinc 4 1, 3) := by decide +kernel
theorem dX4_owesBehind_36 : decode cX4_owesBehind 36 = .ok (.goto (-31), 3) := by decide +kernel
theorem dX4_owesBehind_39 : decode cX4_owesBehind 39 = .ok (.iload_n 3, 1) := by decide +kernel
theorem dX4_owesBehind_40 : decode cX4_owesBehind 40 = .ok (.ireturn, 1) := by decide +kernel
theorem dX4_owersBehind_0 : decode cX4_owersBehind 0 = .ok (.iconst 0, 1) := by decide +kernel
theorem dX4_owersBehind_1 : decode cX4_owersBehind 1 = .ok (.istore_n 3, 1) := by decide +kernel
theorem dX4_owersBehind_2 : decode cX4_owersBehind 2 = .ok (.iconst 0, 1) := by decide +kernel
theorem dX4_owersBehind_3 : decode cX4_owersBehind 3 = .ok (.istore 4, 2) := by decide +kernel
theorem dX4_owersBehind_5 : decode cX4_owersBehind 5 = .ok (.iload 4, 2) := by decide +kernel
theorem dX4_owersBehind_7 : decode cX4_owersBehind 7 = .ok (.aload_n 0, 1) := by decide +kernel
theorem dX4_owersBehind_8 : decode cX4_owersBehind 8 = .ok (.getfield 52, 3) := by decide +kernel
theorem dX4_owersBehind_11 : decode cX4_owersBehind 11 = .ok (.if_icmp .ge 28, 3) := by decide +kernel
theorem dX4_owersBehind_14 : decode cX4_owersBehind 14 = .ok (.aload_n 0, 1) := by decide +kernel
theorem dX4_owersBehind_15 : decode cX4_owersBehind 15 = .ok (.iload 4, 2) := by decide +kernel
theorem dX4_owersBehind_17 : decode cX4_owersBehind 17 = .ok (.iload_n 1, 1) := by decide +kernel
theorem dX4_owersBehind_18 : decode cX4_owersBehind 18 = .ok (.iload_n 2, 1) := by decide +kernel
theorem dX4_owersBehind_19 : decode cX4_owersBehind 19 = .ok (.invokevirtual 76, 3) := by decide +kernel
theorem dX4_owersBehind_22 : decode cX4_owersBehind 22 = .ok (.iconst (-1), 1) := by decide +kernel
theorem dX4_owersBehind_23 : decode cX4_owersBehind 23 = .ok (.if_icmp .eq 10, 3) := by decide +kernel
theorem dX4_owersBehind_26 : decode cX4_owersBehind 26 = .ok (.iload_n 3, 1) := by decide +kernel
theorem dX4_owersBehind_27 : decode cX4_owersBehind 27 = .ok (.iconst 1, 1) := by decide +kernel
theorem dX4_owersBehind_28 : decode cX4_owersBehind 28 = .ok (.iload 4, 2) := by decide +kernel
theorem dX4_owersBehind_30 : decode cX4_owersBehind 30 = .ok (.ishl, 1) := by decide +kernel
theorem dX4_owersBehind_31 : decode cX4_owersBehind 31 = .ok (.ior, 1) := by decide +kernel
theorem dX4_owersBehind_32 : decode cX4_owersBehind 32 = .ok (.istore_n 3, 1) := by decide +kernel
theorem dX4_owersBehind_33 : decode cX4_owersBehind 33 = .ok (.iinc 4 1, 3) := by decide +kernel
theorem dX4_owersBehind_36 : decode cX4_owersBehind 36 = .ok (.goto (-31), 3) := by decide +kernel
theorem dX4_owersBehind_39 : decode cX4_owersBehind 39 = .ok (.iload_n 3, 1) := by decide +kernel
theorem dX4_owersBehind_40 : decode cX4_owersBehind 40 = .ok (.ireturn, 1) := by decide +kernel
theorem dX4_debtsBehind_0 : decode cX4_debtsBehind 0 = .ok (.iconst 0, 1) := by decide +kernel
theorem dX4_debtsBehind_1 : decode cX4_debtsBehind 1 = .ok (.istore_n 2, 1) := by decide +kernel
theorem dX4_debtsBehind_2 : decode cX4_debtsBehind 2 = .ok (.iconst 0, 1) := by decide +kernel
theorem dX4_debtsBehind_3 : decode cX4_debtsBehind 3 = .ok (.istore_n 3, 1) := by decide +kernel
theorem dX4_debtsBehind_4 : decode cX4_debtsBehind 4 = .ok (.iload_n 3, 1) := by decide +kernel
theorem dX4_debtsBehind_5 : decode cX4_debtsBehind 5 = .ok (.aload_n 0, 1) := by decide +kernel
theorem dX4_debtsBehind_6 : decode cX4_debtsBehind 6 = .ok (.getfield 52, 3) := by decide +kernel
theorem dX4_debtsBehind_9 : decode cX4_debtsBehind 9 = .ok (.if_icmp .ge 21, 3) := by decide +kernel
theorem dX4_debtsBehind_12 : decode cX4_debtsBehind 12 = .ok (.iload_n 2, 1) := by decide +kernel
theorem dX4_debtsBehind_13 : decode cX4_debtsBehind 13 = .ok (.aload_n 0, 1) := by decide +kernel
theorem dX4_debtsBehind_14 : decode cX4_debtsBehind 14 = .ok (.iload_n 3, 1) := by decide +kernel
theorem dX4_debtsBehind_15 : decode cX4_debtsBehind 15 = .ok (.iload_n 1, 1) := by decide +kernel
theorem dX4_debtsBehind_16 : decode cX4_debtsBehind 16 = .ok (.invokevirtual 116, 3) := by decide +kernel
theorem dX4_debtsBehind_19 : decode cX4_debtsBehind 19 = .ok (.invokestatic 119, 3) := by decide +kernel
theorem dX4_debtsBehind_22 : decode cX4_debtsBehind 22 = .ok (.iadd, 1) := by decide +kernel
theorem dX4_debtsBehind_23 : decode cX4_debtsBehind 23 = .ok (.istore_n 2, 1) := by decide +kernel
theorem dX4_debtsBehind_24 : decode cX4_debtsBehind 24 = .ok (.iinc 3 1, 3) := by decide +kernel
theorem dX4_debtsBehind_27 : decode cX4_debtsBehind 27 = .ok (.goto (-23), 3) := by decide +kernel
theorem dX4_debtsBehind_30 : decode cX4_debtsBehind 30 = .ok (.iload_n 2, 1) := by decide +kernel
theorem dX4_debtsBehind_31 : decode cX4_debtsBehind 31 = .ok (.ireturn, 1) := by decide +kernel
theorem dX4_burden_0 : decode cX4_burden 0 = .ok (.iconst 0, 1) := by decide +kernel
theorem dX4_burden_1 : decode cX4_burden 1 = .ok (.istore_n 1, 1) := by decide +kernel
theorem dX4_burden_2 : decode cX4_burden 2 = .ok (.iconst 0, 1) := by decide +kernel
theorem dX4_burden_3 : decode cX4_burden 3 = .ok (.istore_n 2, 1) := by decide +kernel
theorem dX4_burden_4 : decode cX4_burden 4 = .ok (.iload_n 2, 1) := by decide +kernel
theorem dX4_burden_5 : decode cX4_burden 5 = .ok (.aload_n 0, 1) := by decide +kernel
theorem dX4_burden_6 : decode cX4_burden 6 = .ok (.getfield 52, 3) := by decide +kernel
theorem dX4_burden_9 : decode cX4_burden 9 = .ok (.if_icmp .ge 32, 3) := by decide +kernel
theorem dX4_burden_12 : decode cX4_burden 12 = .ok (.aload_n 0, 1) := by decide +kernel
theorem dX4_burden_13 : decode cX4_burden 13 = .ok (.iload_n 2, 1) := by decide +kernel
theorem dX4_burden_14 : decode cX4_burden 14 = .ok (.iconst 0, 1) := by decide +kernel
theorem dX4_burden_15 : decode cX4_burden 15 = .ok (.invokevirtual 125, 3) := by decide +kernel
theorem dX4_burden_18 : decode cX4_burden 18 = .ok (.istore_n 3, 1) := by decide +kernel
theorem dX4_burden_19 : decode cX4_burden 19 = .ok (.iload_n 1, 1) := by decide +kernel
theorem dX4_burden_20 : decode cX4_burden 20 = .ok (.iload_n 3, 1) := by decide +kernel
theorem dX4_burden_21 : decode cX4_burden 21 = .ok (.bipush 30, 2) := by decide +kernel
theorem dX4_burden_23 : decode cX4_burden 23 = .ok (.if_icmp .le 9, 3) := by decide +kernel
theorem dX4_burden_26 : decode cX4_burden 26 = .ok (.iconst 2, 1) := by decide +kernel
theorem dX4_burden_27 : decode cX4_burden 27 = .ok (.iload_n 3, 1) := by decide +kernel
theorem dX4_burden_28 : decode cX4_burden 28 = .ok (.imul, 1) := by decide +kernel
theorem dX4_burden_29 : decode cX4_burden 29 = .ok (.goto 4, 3) := by decide +kernel
theorem dX4_burden_32 : decode cX4_burden 32 = .ok (.iload_n 3, 1) := by decide +kernel
theorem dX4_burden_33 : decode cX4_burden 33 = .ok (.iadd, 1) := by decide +kernel
theorem dX4_burden_34 : decode cX4_burden 34 = .ok (.istore_n 1, 1) := by decide +kernel
theorem dX4_burden_35 : decode cX4_burden 35 = .ok (.iinc 2 1, 3) := by decide +kernel
theorem dX4_burden_38 : decode cX4_burden 38 = .ok (.goto (-34), 3) := by decide +kernel
theorem dX4_burden_41 : decode cX4_burden 41 = .ok (.iload_n 1, 1) := by decide +kernel
theorem dX4_burden_42 : decode cX4_burden 42 = .ok (.ireturn, 1) := by decide +kernel
theorem dX4_highestAgeOf_0 : decode cX4_highestAgeOf 0 = .ok (.iconst (-1), 1) := by decide +kernel
theorem dX4_highestAgeOf_1 : decode cX4_highestAgeOf 1 = .ok (.istore_n 2, 1) := by decide +kernel
theorem dX4_highestAgeOf_2 : decode cX4_highestAgeOf 2 = .ok (.iconst 0, 1) := by decide +kernel
theorem dX4_highestAgeOf_3 : decode cX4_highestAgeOf 3 = .ok (.istore_n 3, 1) := by decide +kernel
theorem dX4_highestAgeOf_4 : decode cX4_highestAgeOf 4 = .ok (.iload_n 3, 1) := by decide +kernel
theorem dX4_highestAgeOf_5 : decode cX4_highestAgeOf 5 = .ok (.aload_n 0, 1) := by decide +kernel
theorem dX4_highestAgeOf_6 : decode cX4_highestAgeOf 6 = .ok (.getfield 39, 3) := by decide +kernel
theorem dX4_highestAgeOf_9 : decode cX4_highestAgeOf 9 = .ok (.if_icmp .ge 25, 3) := by decide +kernel
theorem dX4_highestAgeOf_12 : decode cX4_highestAgeOf 12 = .ok (.iload_n 2, 1) := by decide +kernel
theorem dX4_highestAgeOf_13 : decode cX4_highestAgeOf 13 = .ok (.aload_n 0, 1) := by decide +kernel
theorem dX4_highestAgeOf_14 : decode cX4_highestAgeOf 14 = .ok (.getfield 30, 3) := by decide +kernel
theorem dX4_highestAgeOf_17 : decode cX4_highestAgeOf 17 = .ok (.iload_n 1, 1) := by decide +kernel
theorem dX4_highestAgeOf_18 : decode cX4_highestAgeOf 18 = .ok (.bipush 8, 2) := by decide +kernel
theorem dX4_highestAgeOf_20 : decode cX4_highestAgeOf 20 = .ok (.imul, 1) := by decide +kernel
theorem dX4_highestAgeOf_21 : decode cX4_highestAgeOf 21 = .ok (.iload_n 3, 1) := by decide +kernel
theorem dX4_highestAgeOf_22 : decode cX4_highestAgeOf 22 = .ok (.iadd, 1) := by decide +kernel
theorem dX4_highestAgeOf_23 : decode cX4_highestAgeOf 23 = .ok (.iaload, 1) := by decide +kernel
theorem dX4_highestAgeOf_24 : decode cX4_highestAgeOf 24 = .ok (.invokestatic 128, 3) := by decide +kernel
theorem dX4_highestAgeOf_27 : decode cX4_highestAgeOf 27 = .ok (.istore_n 2, 1) := by decide +kernel
theorem dX4_highestAgeOf_28 : decode cX4_highestAgeOf 28 = .ok (.iinc 3 1, 3) := by decide +kernel
theorem dX4_highestAgeOf_31 : decode cX4_highestAgeOf 31 = .ok (.goto (-27), 3) := by decide +kernel
theorem dX4_highestAgeOf_34 : decode cX4_highestAgeOf 34 = .ok (.iload_n 2, 1) := by decide +kernel
theorem dX4_highestAgeOf_35 : decode cX4_highestAgeOf 35 = .ok (.ireturn, 1) := by decide +kernel
theorem dX5_init_0 : decode cX5_init 0 = .ok (.aload_n 0, 1) := by decide +kernel
theorem dX5_init_1 : decode cX5_init 1 = .ok (.invokespecial 3, 3) := by decide +kernel
theorem dX5_init_4 : decode cX5_init 4 = .ok (.aload_n 0, 1) := by decide +kernel
theorem dX5_init_5 : decode cX5_init 5 = .ok (.new 9, 3) := by decide +kernel
theorem dX5_init_8 : decode cX5_init 8 = .ok (.dup, 1) := by decide +kernel
theorem dX5_init_9 : decode cX5_init 9 = .ok (.invokespecial 11, 3) := by decide +kernel
theorem dX5_init_12 : decode cX5_init 12 = .ok (.putfield 12, 3) := by decide +kernel
theorem dX5_init_15 : decode cX5_init 15 = .ok (.aload_n 0, 1) := by decide +kernel
theorem dX5_init_16 : decode cX5_init 16 = .ok (.new 9, 3) := by decide +kernel
theorem dX5_init_19 : decode cX5_init 19 = .ok (.dup, 1) := by decide +kernel
theorem dX5_init_20 : decode cX5_init 20 = .ok (.invokespecial 11, 3) := by decide +kernel
theorem dX5_init_23 : decode cX5_init 23 = .ok (.putfield 16, 3) := by decide +kernel
theorem dX5_init_26 : decode cX5_init 26 = .ok (.aload_n 0, 1) := by decide +kernel
theorem dX5_init_27 : decode cX5_init 27 = .ok (.new 9, 3) := by decide +kernel
theorem dX5_init_30 : decode cX5_init 30 = .ok (.dup, 1) := by decide +kernel
theorem dX5_init_31 : decode cX5_init 31 = .ok (.invokespecial 11, 3) := by decide +kernel
theorem dX5_init_34 : decode cX5_init 34 = .ok (.putfield 19, 3) := by decide +kernel
theorem dX5_init_37 : decode cX5_init 37 = .ok (.aload_n 0, 1) := by decide +kernel
theorem dX5_init_38 : decode cX5_init 38 = .ok (.iconst 0, 1) := by decide +kernel
theorem dX5_init_39 : decode cX5_init 39 = .ok (.putfield 22, 3) := by decide +kernel
theorem dX5_init_42 : decode cX5_init 42 = .ok (.aload_n 0, 1) := by decide +kernel
theorem dX5_init_43 : decode cX5_init 43 = .ok (.new 26, 3) := by decide +kernel
theorem dX5_init_46 : decode cX5_init 46 = .ok (.dup, 1) := by decide +kernel
theorem dX5_init_47 : decode cX5_init 47 = .ok (.invokespecial 28, 3) := by decide +kernel
theorem dX5_init_50 : decode cX5_init 50 = .ok (.putfield 29, 3) := by decide +kernel
theorem dX5_init_53 : decode cX5_init 53 = .ok (.aload_n 0, 1) := by decide +kernel
theorem dX5_init_54 : decode cX5_init 54 = .ok (.new 33, 3) := by decide +kernel
theorem dX5_init_57 : decode cX5_init 57 = .ok (.dup, 1) := by decide +kernel
theorem dX5_init_58 : decode cX5_init 58 = .ok (.invokespecial 35, 3) := by decide +kernel
theorem dX5_init_61 : decode cX5_init 61 = .ok (.putfield 36, 3) := by decide +kernel
theorem dX5_init_64 : decode cX5_init 64 = .ok (.aload_n 0, 1) := by decide +kernel
theorem dX5_init_65 : decode cX5_init 65 = .ok (.new 40, 3) := by decide +kernel
theorem dX5_init_68 : decode cX5_init 68 = .ok (.dup, 1) := by decide +kernel
theorem dX5_init_69 : decode cX5_init 69 = .ok (.invokespecial 42, 3) := by decide +kernel
theorem dX5_init_72 : decode cX5_init 72 = .ok (.putfield 43, 3) := by decide +kernel
theorem dX5_init_75 : decode cX5_init 75 = .ok (.aload_n 0, 1) := by decide +kernel
theorem dX5_init_76 : decode cX5_init 76 = .ok (.new 47, 3) := by decide +kernel
theorem dX5_init_79 : decode cX5_init 79 = .ok (.dup, 1) := by decide +kernel
theorem dX5_init_80 : decode cX5_init 80 = .ok (.invokespecial 49, 3) := by decide +kernel
theorem dX5_init_83 : decode cX5_init 83 = .ok (.putfield 50, 3) := by decide +kernel
theorem dX5_init_86 : decode cX5_init 86 = .ok (.aload_n 0, 1) := by decide +kernel
theorem dX5_init_87 : decode cX5_init 87 = .ok (.bipush 12, 2) := by decide +kernel
theorem dX5_init_89 : decode cX5_init 89 = .ok (.newarray .int, 2) := by decide +kernel
theorem dX5_init_91 : decode cX5_init 91 = .ok (.putfield 54, 3) := by decide +kernel
theorem dX5_init_94 : decode cX5_init 94 = .ok (.aload_n 0, 1) := by decide +kernel
theorem dX5_init_95 : decode cX5_init 95 = .ok (.iconst 0, 1) := by decide +kernel
theorem dX5_init_96 : decode cX5_init 96 = .ok (.putfield 58, 3) := by decide +kernel
theorem dX5_init_99 : decode cX5_init 99 = .ok (.aload_n 0, 1) := by decide +kernel
theorem dX5_init_100 : decode cX5_init 100 = .ok (.bipush 7, 2) := by decide +kernel
theorem dX5_init_102 : decode cX5_init 102 = .ok (.newarray .int, 2) := by decide +kernel
theorem dX5_init_104 : decode cX5_init 104 = .ok (.putfield 62, 3) := by decide +kernel
theorem dX5_init_107 : decode cX5_init 107 = .ok (.return_, 1) := by decide +kernel
theorem dX5_feed_0 : decode cX5_feed 0 = .ok (.iload_n 1, 1) := by decide +kernel
theorem dX5_feed_1 : decode cX5_feed 1 = .ok (.ifCond .ge 10, 3) := by decide +kernel
theorem dX5_feed_4 : decode cX5_feed 4 = .ok (.aload_n 0, 1) := by decide +kernel
theorem dX5_feed_5 : decode cX5_feed 5 = .ok (.bipush (-4), 2) := by decide +kernel
theorem dX5_feed_7 : decode cX5_feed 7 = .ok (.invokevirtual 65, 3) := by decide +kernel
theorem dX5_feed_10 : decode cX5_feed 10 = .ok (.ireturn, 1) := by decide +kernel
theorem dX5_feed_11 : decode cX5_feed 11 = .ok (.iload_n 1, 1) := by decide +kernel
theorem dX5_feed_12 : decode cX5_feed 12 = .ok (.sipush 255, 3) := by decide +kernel
theorem dX5_feed_15 : decode cX5_feed 15 = .ok (.if_icmp .gt 13, 3) := by decide +kernel
theorem dX5_feed_18 : decode cX5_feed 18 = .ok (.aload_n 0, 1) := by decide +kernel
theorem dX5_feed_19 : decode cX5_feed 19 = .ok (.getfield 36, 3) := by decide +kernel
theorem dX5_feed_22 : decode cX5_feed 22 = .ok (.invokevirtual 69, 3) := by decide +kernel
theorem dX5_feed_25 : decode cX5_feed 25 = .ok (.ifCond .eq 10, 3) := by decide +kernel
theorem dX5_feed_28 : decode cX5_feed 28 = .ok (.aload_n 0, 1) := by decide +kernel
theorem dX5_feed_29 : decode cX5_feed 29 = .ok (.bipush (-6), 2) := by decide +kernel
theorem dX5_feed_31 : decode cX5_feed 31 = .ok (.invokevirtual 65, 3) := by decide +kernel
theorem dX5_feed_34 : decode cX5_feed 34 = .ok (.ireturn, 1) := by decide +kernel
theorem dX5_feed_35 : decode cX5_feed 35 = .ok (.aload_n 0, 1) := by decide +kernel
theorem dX5_feed_36 : decode cX5_feed 36 = .ok (.getfield 36, 3) := by decide +kernel
theorem dX5_feed_39 : decode cX5_feed 39 = .ok (.iload_n 1, 1) := by decide +kernel
theorem dX5_feed_40 : decode cX5_feed 40 = .ok (.invokevirtual 73, 3) := by decide +kernel
theorem dX5_feed_43 : decode cX5_feed 43 = .ok (.ireturn, 1) := by decide +kernel
theorem dX5_village_0 : decode cX5_village 0 = .ok (.aload_n 0, 1) := by decide +kernel
theorem dX5_village_1 : decode cX5_village 1 = .ok (.getfield 16, 3) := by decide +kernel
theorem dX5_village_4 : decode cX5_village 4 = .ok (.aload_n 0, 1) := by decide +kernel
theorem dX5_village_5 : decode cX5_village 5 = .ok (.getfield 12, 3) := by decide +kernel
theorem dX5_village_8 : decode cX5_village 8 = .ok (.invokevirtual 76, 3) := by decide +kernel
theorem dX5_village_11 : decode cX5_village 11 = .ok (.aload_n 0, 1) := by decide +kernel
theorem dX5_village_12 : decode cX5_village 12 = .ok (.getfield 36, 3) := by decide +kernel
theorem dX5_village_15 : decode cX5_village 15 = .ok (.aload_n 0, 1) := by decide +kernel
theorem dX5_village_16 : decode cX5_village 16 = .ok (.getfield 16, 3) := by decide +kernel
theorem dX5_village_19 : decode cX5_village 19 = .ok (.invokevirtual 80, 3) := by decide +kernel
theorem dX5_village_22 : decode cX5_village 22 = .ok (.istore_n 1, 1) := by decide +kernel
theorem dX5_village_23 : decode cX5_village 23 = .ok (.aload_n 0, 1) := by decide +kernel
theorem dX5_village_24 : decode cX5_village 24 = .ok (.getfield 36, 3) := by decide +kernel
theorem dX5_village_27 : decode cX5_village 27 = .ok (.invokevirtual 84, 3) := by decide +kernel
theorem dX5_village_30 : decode cX5_village 30 = .ok (.iload_n 1, 1) := by decide +kernel
theorem dX5_village_31 : decode cX5_village 31 = .ok (.ifCond .ge 5, 3) := by decide +kernel
theorem dX5_village_34 : decode cX5_village 34 = .ok (.iload_n 1, 1) := by decide +kernel
theorem dX5_village_35 : decode cX5_village 35 = .ok (.ireturn, 1) := by decide +kernel
theorem dX5_village_36 : decode cX5_village 36 = .ok (.aload_n 0, 1) := by decide +kernel
theorem dX5_village_37 : decode cX5_village 37 = .ok (.getfield 12, 3) := by decide +kernel
theorem dX5_village_40 : decode cX5_village 40 = .ok (.aload_n 0, 1) := by decide +kernel
theorem dX5_village_41 : decode cX5_village 41 = .ok (.getfield 16, 3) := by decide +kernel
theorem dX5_village_44 : decode cX5_village 44 = .ok (.invokevirtual 76, 3) := by decide +kernel
theorem dX5_village_47 : decode cX5_village 47 = .ok (.aload_n 0, 1) := by decide +kernel
theorem dX5_village_48 : decode cX5_village 48 = .ok (.getfield 29, 3) := by decide +kernel
theorem dX5_village_51 : decode cX5_village 51 = .ok (.invokevirtual 87, 3) := by decide +kernel
theorem dX5_village_54 : decode cX5_village 54 = .ok (.iload_n 1, 1) := by decide +kernel
theorem dX5_village_55 : decode cX5_village 55 = .ok (.ireturn, 1) := by decide +kernel
theorem dX5_houseOf_0 : decode cX5_houseOf 0 = .ok (.aload_n 0, 1) := by decide +kernel
theorem dX5_houseOf_1 : decode cX5_houseOf 1 = .ok (.getfield 12, 3) := by decide +kernel
theorem dX5_houseOf_4 : decode cX5_houseOf 4 = .ok (.iload_n 1, 1) := by decide +kernel
theorem dX5_houseOf_5 : decode cX5_houseOf 5 = .ok (.invokevirtual 90, 3) := by decide +kernel
theorem dX5_houseOf_8 : decode cX5_houseOf 8 = .ok (.ifCond .ne 9, 3) := by decide +kernel
theorem dX5_houseOf_11 : decode cX5_houseOf 11 = .ok (.aload_n 0, 1) := by decide +kernel
theorem dX5_houseOf_12 : decode cX5_houseOf 12 = .ok (.iconst (-1), 1) := by decide +kernel
theorem dX5_houseOf_13 : decode cX5_houseOf 13 = .ok (.invokevirtual 65, 3) := by decide +kernel
theorem dX5_houseOf_16 : decode cX5_houseOf 16 = .ok (.ireturn, 1) := by decide +kernel
theorem dX5_houseOf_17 : decode cX5_houseOf 17 = .ok (.iload_n 2, 1) := by decide +kernel
theorem dX5_houseOf_18 : decode cX5_houseOf 18 = .ok (.tableswitch 144 0 7 #[46, 56, 66, 76, 93, 115, 125, 135], 46) := by decide +kernel
theorem dX5_houseOf_64 : decode cX5_houseOf 64 = .ok (.aload_n 0, 1) := by decide +kernel
theorem dX5_houseOf_65 : decode cX5_houseOf 65 = .ok (.getfield 12, 3) := by decide +kernel
theorem dX5_houseOf_68 : decode cX5_houseOf 68 = .ok (.getfield 94, 3) := by decide +kernel
theorem dX5_houseOf_71 : decode cX5_houseOf 71 = .ok (.iload_n 1, 1) := by decide +kernel
theorem dX5_houseOf_72 : decode cX5_houseOf 72 = .ok (.iaload, 1) := by decide +kernel
theorem dX5_houseOf_73 : decode cX5_houseOf 73 = .ok (.ireturn, 1) := by decide +kernel
theorem dX5_houseOf_74 : decode cX5_houseOf 74 = .ok (.aload_n 0, 1) := by decide +kernel
theorem dX5_houseOf_75 : decode cX5_houseOf 75 = .ok (.getfield 12, 3) := by decide +kernel
theorem dX5_houseOf_78 : decode cX5_houseOf 78 = .ok (.getfield 97, 3) := by decide +kernel
theorem dX5_houseOf_81 : decode cX5_houseOf 81 = .ok (.iload_n 1, 1) := by decide +kernel
theorem dX5_houseOf_82 : decode cX5_houseOf 82 = .ok (.iaload, 1) := by decide +kernel
theorem dX5_houseOf_83 : decode cX5_houseOf 83 = .ok (.ireturn, 1) := by decide +kernel
theorem dX5_houseOf_84 : decode cX5_houseOf 84 = .ok (.aload_n 0, 1) := by decide +kernel
theorem dX5_houseOf_85 : decode cX5_houseOf 85 = .ok (.getfield 12, 3) := by decide +kernel
theorem dX5_houseOf_88 : decode cX5_houseOf 88 = .ok (.getfield 100, 3) := by decide +kernel
theorem dX5_houseOf_91 : decode cX5_houseOf 91 = .ok (.iload_n 1, 1) := by decide +kernel
theorem dX5_houseOf_92 : decode cX5_houseOf 92 = .ok (.iaload, 1) := by decide +kernel
theorem dX5_houseOf_93 : decode cX5_houseOf 93 = .ok (.ireturn, 1) := by decide +kernel
theorem dX5_houseOf_94 : decode cX5_houseOf 94 = .ok (.aload_n 0, 1) := by decide +kernel
theorem dX5_houseOf_95 : decode cX5_houseOf 95 = .ok (.getfield 12, 3) := by decide +kernel
theorem dX5_houseOf_98 : decode cX5_houseOf 98 = .ok (.iload_n 1, 1) := by decide +kernel
theorem dX5_houseOf_99 : decode cX5_houseOf 99 = .ok (.invokevirtual 103, 3) := by decide +kernel
theorem dX5_houseOf_102 : decode cX5_houseOf 102 = .ok (.ifCond .eq 7, 3) := by decide +kernel
theorem dX5_houseOf_105 : decode cX5_houseOf 105 = .ok (.iconst 1, 1) := by decide +kernel
theorem dX5_houseOf_106 : decode cX5_houseOf 106 = .ok (.goto 4, 3) := by decide +kernel
theorem dX5_houseOf_109 : decode cX5_houseOf 109 = .ok (.iconst 0, 1) := by decide +kernel
theorem dX5_houseOf_110 : decode cX5_houseOf 110 = .ok (.ireturn, 1) := by decide +kernel
theorem dX5_houseOf_111 : decode cX5_houseOf 111 = .ok (.aload_n 0, 1) := by decide +kernel
theorem dX5_houseOf_112 : decode cX5_houseOf 112 = .ok (.getfield 12, 3) := by decide +kernel
theorem dX5_houseOf_115 : decode cX5_houseOf 115 = .ok (.getfield 94, 3) := by decide +kernel
theorem dX5_houseOf_118 : decode cX5_houseOf 118 = .ok (.iload_n 1, 1) := by decide +kernel
theorem dX5_houseOf_119 : decode cX5_houseOf 119 = .ok (.iaload, 1) := by decide +kernel
theorem dX5_houseOf_120 : decode cX5_houseOf 120 = .ok (.aload_n 0, 1) := by decide +kernel
theorem dX5_houseOf_121 : decode cX5_houseOf 121 = .ok (.getfield 12, 3) := by decide +kernel
theorem dX5_houseOf_124 : decode cX5_houseOf 124 = .ok (.getfield 97, 3) := by decide +kernel
theorem dX5_houseOf_127 : decode cX5_houseOf 127 = .ok (.iload_n 1, 1) := by decide +kernel
theorem dX5_houseOf_128 : decode cX5_houseOf 128 = .ok (.iaload, 1) := by decide +kernel
theorem dX5_houseOf_129 : decode cX5_houseOf 129 = .ok (.invokestatic 106, 3) := by decide +kernel
theorem dX5_houseOf_132 : decode cX5_houseOf 132 = .ok (.ireturn, 1) := by decide +kernel
theorem dX5_houseOf_133 : decode cX5_houseOf 133 = .ok (.aload_n 0, 1) := by decide +kernel
theorem dX5_houseOf_134 : decode cX5_houseOf 134 = .ok (.getfield 12, 3) := by decide +kernel
theorem dX5_houseOf_137 : decode cX5_houseOf 137 = .ok (.iload_n 1, 1) := by decide +kernel
theorem dX5_houseOf_138 : decode cX5_houseOf 138 = .ok (.iconst 0, 1) := by decide +kernel
theorem dX5_houseOf_139 : decode cX5_houseOf 139 = .ok (.invokevirtual 110, 3) := by decide +kernel
theorem dX5_houseOf_142 : decode cX5_houseOf 142 = .ok (.ireturn, 1) := by decide +kernel
theorem dX5_houseOf_143 : decode cX5_houseOf 143 = .ok (.aload_n 0, 1) := by decide +kernel
theorem dX5_houseOf_144 : decode cX5_houseOf 144 = .ok (.getfield 12, 3) := by decide +kernel
theorem dX5_houseOf_147 : decode cX5_houseOf 147 = .ok (.iload_n 1, 1) := by decide +kernel
theorem dX5_houseOf_148 : decode cX5_houseOf 148 = .ok (.iconst 0, 1) := by decide +kernel
theorem dX5_houseOf_149 : decode cX5_houseOf 149 = .ok (.invokevirtual 113, 3) := by decide +kernel
theorem dX5_houseOf_152 : decode cX5_houseOf 152 = .ok (.ireturn, 1) := by decide +kernel
theorem dX5_houseOf_153 : decode cX5_houseOf 153 = .ok (.aload_n 0, 1) := by decide +kernel
theorem dX5_houseOf_154 : decode cX5_houseOf 154 = .ok (.getfield 12, 3) := by decide +kernel
theorem dX5_houseOf_157 : decode cX5_houseOf 157 = .ok (.iload_n 1, 1) := by decide +kernel
theorem dX5_houseOf_158 : decode cX5_houseOf 158 = .ok (.invokevirtual 116, 3) := by decide +kernel
theorem dX5_houseOf_161 : decode cX5_houseOf 161 = .ok (.ireturn, 1) := by decide +kernel
theorem dX5_houseOf_162 : decode cX5_houseOf 162 = .ok (.aload_n 0, 1) := by decide +kernel
theorem dX5_houseOf_163 : decode cX5_houseOf 163 = .ok (.bipush (-2), 2) := by decide +kernel
theorem dX5_houseOf_165 : decode cX5_houseOf 165 = .ok (.invokevirtual 65, 3) := by decide +kernel
theorem dX5_houseOf_168 : decode cX5_houseOf 168 = .ok (.ireturn, 1) := by decide +kernel
theorem dX5_walkerOf_0 : decode cX5_walkerOf 0 = .ok (.aload_n 0, 1) := by decide +kernel
theorem dX5_walkerOf_1 : decode cX5_walkerOf 1 = .ok (.getfield 12, 3) := by decide +kernel
theorem dX5_walkerOf_4 : decode cX5_walkerOf 4 = .ok (.iload_n 1, 1) := by decide +kernel
theorem dX5_walkerOf_5 : decode cX5_walkerOf 5 = .ok (.invokevirtual 119, 3) := by decide +kernel
theorem dX5_walkerOf_8 : decode cX5_walkerOf 8 = .ok (.ifCond .ne 9, 3) := by decide +kernel
theorem dX5_walkerOf_11 : decode cX5_walkerOf 11 = .ok (.aload_n 0, 1) := by decide +kernel
theorem dX5_walkerOf_12 : decode cX5_walkerOf 12 = .ok (.iconst (-1), 1) := by decide +kernel
theorem dX5_walkerOf_13 : decode cX5_walkerOf 13 = .ok (.invokevirtual 65, 3) := by decide +kernel
theorem dX5_walkerOf_16 : decode cX5_walkerOf 16 = .ok (.ireturn, 1) := by decide +kernel
theorem dX5_walkerOf_17 : decode cX5_walkerOf 17 = .ok (.iload_n 2, 1) := by decide +kernel
theorem dX5_walkerOf_18 : decode cX5_walkerOf 18 = .ok (.tableswitch 106 0 5 #[38, 48, 58, 68, 78, 96], 38) := by decide +kernel
theorem dX5_walkerOf_56 : decode cX5_walkerOf 56 = .ok (.aload_n 0, 1) := by decide +kernel
theorem dX5_walkerOf_57 : decode cX5_walkerOf 57 = .ok (.getfield 12, 3) := by decide +kernel
theorem dX5_walkerOf_60 : decode cX5_walkerOf 60 = .ok (.getfield 122, 3) := by decide +kernel
theorem dX5_walkerOf_63 : decode cX5_walkerOf 63 = .ok (.iload_n 1, 1) := by decide +kernel
theorem dX5_walkerOf_64 : decode cX5_walkerOf 64 = .ok (.iaload, 1) := by decide +kernel
theorem dX5_walkerOf_65 : decode cX5_walkerOf 65 = .ok (.ireturn, 1) := by decide +kernel
theorem dX5_walkerOf_66 : decode cX5_walkerOf 66 = .ok (.aload_n 0, 1) := by decide +kernel
theorem dX5_walkerOf_67 : decode cX5_walkerOf 67 = .ok (.getfield 12, 3) := by decide +kernel
theorem dX5_walkerOf_70 : decode cX5_walkerOf 70 = .ok (.getfield 125, 3) := by decide +kernel
theorem dX5_walkerOf_73 : decode cX5_walkerOf 73 = .ok (.iload_n 1, 1) := by decide +kernel
theorem dX5_walkerOf_74 : decode cX5_walkerOf 74 = .ok (.iaload, 1) := by decide +kernel
theorem dX5_walkerOf_75 : decode cX5_walkerOf 75 = .ok (.ireturn, 1) := by decide +kernel
theorem dX5_walkerOf_76 : decode cX5_walkerOf 76 = .ok (.aload_n 0, 1) := by decide +kernel
theorem dX5_walkerOf_77 : decode cX5_walkerOf 77 = .ok (.getfield 12, 3) := by decide +kernel
theorem dX5_walkerOf_80 : decode cX5_walkerOf 80 = .ok (.getfield 128, 3) := by decide +kernel
theorem dX5_walkerOf_83 : decode cX5_walkerOf 83 = .ok (.iload_n 1, 1) := by decide +kernel
theorem dX5_walkerOf_84 : decode cX5_walkerOf 84 = .ok (.iaload, 1) := by decide +kernel
theorem dX5_walkerOf_85 : decode cX5_walkerOf 85 = .ok (.ireturn, 1) := by decide +kernel
theorem dX5_walkerOf_86 : decode cX5_walkerOf 86 = .ok (.aload_n 0, 1) := by decide +kernel
theorem dX5_walkerOf_87 : decode cX5_walkerOf 87 = .ok (.getfield 12, 3) := by decide +kernel
theorem dX5_walkerOf_90 : decode cX5_walkerOf 90 = .ok (.iload_n 1, 1) := by decide +kernel
theorem dX5_walkerOf_91 : decode cX5_walkerOf 91 = .ok (.iconst 0, 1) := by decide +kernel
theorem dX5_walkerOf_92 : decode cX5_walkerOf 92 = .ok (.invokevirtual 131, 3) := by decide +kernel
theorem dX5_walkerOf_95 : decode cX5_walkerOf 95 = .ok (.ireturn, 1) := by decide +kernel
theorem dX5_walkerOf_96 : decode cX5_walkerOf 96 = .ok (.aload_n 0, 1) := by decide +kernel
theorem dX5_walkerOf_97 : decode cX5_walkerOf 97 = .ok (.getfield 12, 3) := by decide +kernel
theorem dX5_walkerOf_100 : decode cX5_walkerOf 100 = .ok (.iload_n 1, 1) := by decide +kernel
theorem dX5_walkerOf_101 : decode cX5_walkerOf 101 = .ok (.aload_n 0, 1) := by decide +kernel
theorem dX5_walkerOf_102 : decode cX5_walkerOf 102 = .ok (.getfield 12, 3) := by decide +kernel
theorem dX5_walkerOf_105 : decode cX5_walkerOf 105 = .ok (.getfield 122, 3) := by decide +kernel
theorem dX5_walkerOf_108 : decode cX5_walkerOf 108 = .ok (.iload_n 1, 1) := by decide +kernel
theorem dX5_walkerOf_109 : decode cX5_walkerOf 109 = .ok (.iaload, 1) := by decide +kernel
theorem dX5_walkerOf_110 : decode cX5_walkerOf 110 = .ok (.invokevirtual 134, 3) := by decide +kernel
theorem dX5_walkerOf_113 : decode cX5_walkerOf 113 = .ok (.ireturn, 1) := by decide +kernel
theorem dX5_walkerOf_114 : decode cX5_walkerOf 114 = .ok (.aload_n 0, 1) := by decide +kernel
theorem dX5_walkerOf_115 : decode cX5_walkerOf 115 = .ok (.getfield 12, 3) := by decide +kernel
theorem dX5_walkerOf_118 : decode cX5_walkerOf 118 = .ok (.iload_n 1, 1) := by decide +kernel
theorem dX5_walkerOf_119 : decode cX5_walkerOf 119 = .ok (.iconst 0, 1) := by decide +kernel
theorem dX5_walkerOf_120 : decode cX5_walkerOf 120 = .ok (.invokevirtual 137, 3) := by decide +kernel
theorem dX5_walkerOf_123 : decode cX5_walkerOf 123 = .ok (.ireturn, 1) := by decide +kernel
theorem dX5_walkerOf_124 : decode cX5_walkerOf 124 = .ok (.aload_n 0, 1) := by decide +kernel
theorem dX5_walkerOf_125 : decode cX5_walkerOf 125 = .ok (.bipush (-2), 2) := by decide +kernel
theorem dX5_walkerOf_127 : decode cX5_walkerOf 127 = .ok (.invokevirtual 65, 3) := by decide +kernel
theorem dX5_walkerOf_130 : decode cX5_walkerOf 130 = .ok (.ireturn, 1) := by decide +kernel
theorem dX5_age_0 : decode cX5_age 0 = .ok (.aload_n 0, 1) := by decide +kernel
theorem dX5_age_1 : decode cX5_age 1 = .ok (.getfield 12, 3) := by decide +kernel
theorem dX5_age_4 : decode cX5_age 4 = .ok (.iload_n 1, 1) := by decide +kernel
theorem dX5_age_5 : decode cX5_age 5 = .ok (.invokevirtual 119, 3) := by decide +kernel
theorem dX5_age_8 : decode cX5_age 8 = .ok (.ifCond .eq 14, 3) := by decide +kernel
theorem dX5_age_11 : decode cX5_age 11 = .ok (.aload_n 0, 1) := by decide +kernel
theorem dX5_age_12 : decode cX5_age 12 = .ok (.getfield 12, 3) := by decide +kernel
theorem dX5_age_15 : decode cX5_age 15 = .ok (.iload_n 2, 1) := by decide +kernel
theorem dX5_age_16 : decode cX5_age 16 = .ok (.invokevirtual 90, 3) := by decide +kernel
theorem dX5_age_19 : decode cX5_age 19 = .ok (.ifCond .ne 9, 3) := by decide +kernel
theorem dX5_age_22 : decode cX5_age 22 = .ok (.aload_n 0, 1) := by decide +kernel
theorem dX5_age_23 : decode cX5_age 23 = .ok (.iconst (-1), 1) := by decide +kernel
theorem dX5_age_24 : decode cX5_age 24 = .ok (.invokevirtual 65, 3) := by decide +kernel
theorem dX5_age_27 : decode cX5_age 27 = .ok (.ireturn, 1) := by decide +kernel
theorem dX5_age_28 : decode cX5_age 28 = .ok (.aload_n 0, 1) := by decide +kernel
theorem dX5_age_29 : decode cX5_age 29 = .ok (.getfield 12, 3) := by decide +kernel
theorem dX5_age_32 : decode cX5_age 32 = .ok (.iload_n 1, 1) := by decide +kernel
theorem dX5_age_33 : decode cX5_age 33 = .ok (.iload_n 2, 1) := by decide +kernel
theorem dX5_age_34 : decode cX5_age 34 = .ok (.invokevirtual 140, 3) := by decide +kernel
theorem dX5_age_37 : decode cX5_age 37 = .ok (.ifCond .eq 16, 3) := by decide +kernel
theorem dX5_age_40 : decode cX5_age 40 = .ok (.aload_n 0, 1) := by decide +kernel
theorem dX5_age_41 : decode cX5_age 41 = .ok (.getfield 12, 3) := by decide +kernel
theorem dX5_age_44 : decode cX5_age 44 = .ok (.iload_n 1, 1) := by decide +kernel
theorem dX5_age_45 : decode cX5_age 45 = .ok (.iload_n 2, 1) := by decide +kernel
theorem dX5_age_46 : decode cX5_age 46 = .ok (.iconst 0, 1) := by decide +kernel
theorem dX5_age_47 : decode cX5_age 47 = .ok (.invokevirtual 144, 3) := by decide +kernel
theorem dX5_age_50 : decode cX5_age 50 = .ok (.goto 5, 3) := by decide +kernel
theorem dX5_age_53 : decode cX5_age 53 = .ok (.bipush (-9), 2) := by decide +kernel
theorem dX5_age_55 : decode cX5_age 55 = .ok (.ireturn, 1) := by decide +kernel
theorem dX5_house_0 : decode cX5_house 0 = .ok (.iload_n 1, 1) := by decide +kernel
theorem dX5_house_1 : decode cX5_house 1 = .ok (.ifCond .lt 9, 3) := by decide +kernel
theorem dX5_house_4 : decode cX5_house 4 = .ok (.iload_n 1, 1) := by decide +kernel
theorem dX5_house_5 : decode cX5_house 5 = .ok (.bipush 6, 2) := by decide +kernel
theorem dX5_house_7 : decode cX5_house 7 = .ok (.if_icmp .lt 10, 3) := by decide +kernel
theorem dX5_house_10 : decode cX5_house 10 = .ok (.aload_n 0, 1) := by decide +kernel
theorem dX5_house_11 : decode cX5_house 11 = .ok (.bipush (-2), 2) := by decide +kernel
theorem dX5_house_13 : decode cX5_house 13 = .ok (.invokevirtual 65, 3) := by decide +kernel
theorem dX5_house_16 : decode cX5_house 16 = .ok (.ireturn, 1) := by decide +kernel
theorem dX5_house_17 : decode cX5_house 17 = .ok (.iload_n 2, 1) := by decide +kernel
theorem dX5_house_18 : decode cX5_house 18 = .ok (.ifCond .ge 10, 3) := by decide +kernel
theorem dX5_house_21 : decode cX5_house 21 = .ok (.aload_n 0, 1) := by decide +kernel
theorem dX5_house_22 : decode cX5_house 22 = .ok (.bipush (-4), 2) := by decide +kernel
theorem dX5_house_24 : decode cX5_house 24 = .ok (.invokevirtual 65, 3) := by decide +kernel
theorem dX5_house_27 : decode cX5_house 27 = .ok (.ireturn, 1) := by decide +kernel
theorem dX5_house_28 : decode cX5_house 28 = .ok (.iload_n 2, 1) := by decide +kernel
theorem dX5_house_29 : decode cX5_house 29 = .ok (.bipush 10, 2) := by decide +kernel
theorem dX5_house_31 : decode cX5_house 31 = .ok (.if_icmp .ge 15, 3) := by decide +kernel
theorem dX5_house_34 : decode cX5_house 34 = .ok (.aload_n 0, 1) := by decide +kernel
theorem dX5_house_35 : decode cX5_house 35 = .ok (.getfield 12, 3) := by decide +kernel
theorem dX5_house_38 : decode cX5_house 38 = .ok (.getfield 148, 3) := by decide +kernel
theorem dX5_house_41 : decode cX5_house 41 = .ok (.bipush 7, 2) := by decide +kernel
theorem dX5_house_43 : decode cX5_house 43 = .ok (.if_icmp .lt 10, 3) := by decide +kernel
theorem dX5_house_46 : decode cX5_house 46 = .ok (.aload_n 0, 1) := by decide +kernel
theorem dX5_house_47 : decode cX5_house 47 = .ok (.bipush (-6), 2) := by decide +kernel
theorem dX5_house_49 : decode cX5_house 49 = .ok (.invokevirtual 65, 3) := by decide +kernel
theorem dX5_house_52 : decode cX5_house 52 = .ok (.ireturn, 1) := by decide +kernel
theorem dX5_house_53 : decode cX5_house 53 = .ok (.iload_n 3, 1) := by decide +kernel
theorem dX5_house_54 : decode cX5_house 54 = .ok (.invokestatic 151, 3) := by decide +kernel
theorem dX5_house_57 : decode cX5_house 57 = .ok (.ifCond .ne 9, 3) := by decide +kernel
theorem dX5_house_60 : decode cX5_house 60 = .ok (.aload_n 0, 1) := by decide +kernel
theorem dX5_house_61 : decode cX5_house 61 = .ok (.iconst (-1), 1) := by decide +kernel
theorem dX5_house_62 : decode cX5_house 62 = .ok (.invokevirtual 65, 3) := by decide +kernel
theorem dX5_house_65 : decode cX5_house 65 = .ok (.ireturn, 1) := by decide +kernel
theorem dX5_house_66 : decode cX5_house 66 = .ok (.aload_n 0, 1) := by decide +kernel
theorem dX5_house_67 : decode cX5_house 67 = .ok (.getfield 12, 3) := by decide +kernel
theorem dX5_house_70 : decode cX5_house 70 = .ok (.iload_n 1, 1) := by decide +kernel
theorem dX5_house_71 : decode cX5_house 71 = .ok (.iload_n 2, 1) := by decide +kernel
theorem dX5_house_72 : decode cX5_house 72 = .ok (.iload_n 3, 1) := by decide +kernel
theorem dX5_house_73 : decode cX5_house 73 = .ok (.invokevirtual 154, 3) := by decide +kernel
theorem dX5_house_76 : decode cX5_house 76 = .ok (.pop, 1) := by decide +kernel
theorem dX5_house_77 : decode cX5_house 77 = .ok (.aload_n 0, 1) := by decide +kernel
theorem dX5_house_78 : decode cX5_house 78 = .ok (.getfield 29, 3) := by decide +kernel
theorem dX5_house_81 : decode cX5_house 81 = .ok (.invokevirtual 87, 3) := by decide +kernel
theorem dX5_house_84 : decode cX5_house 84 = .ok (.aload_n 0, 1) := by decide +kernel
theorem dX5_house_85 : decode cX5_house 85 = .ok (.getfield 12, 3) := by decide +kernel
theorem dX5_house_88 : decode cX5_house 88 = .ok (.getfield 148, 3) := by decide +kernel
theorem dX5_house_91 : decode cX5_house 91 = .ok (.iconst 1, 1) := by decide +kernel
theorem dX5_house_92 : decode cX5_house 92 = .ok (.isub, 1) := by decide +kernel
theorem dX5_house_93 : decode cX5_house 93 = .ok (.ireturn, 1) := by decide +kernel
theorem dX5_walker_0 : decode cX5_walker 0 = .ok (.iload_n 1, 1) := by decide +kernel
theorem dX5_walker_1 : decode cX5_walker 1 = .ok (.invokestatic 151, 3) := by decide +kernel
theorem dX5_walker_4 : decode cX5_walker 4 = .ok (.ifCond .eq 10, 3) := by decide +kernel
theorem dX5_walker_7 : decode cX5_walker 7 = .ok (.iload_n 2, 1) := by decide +kernel
theorem dX5_walker_8 : decode cX5_walker 8 = .ok (.invokestatic 151, 3) := by decide +kernel
theorem dX5_walker_11 : decode cX5_walker 11 = .ok (.ifCond .ne 9, 3) := by decide +kernel
theorem dX5_walker_14 : decode cX5_walker 14 = .ok (.aload_n 0, 1) := by decide +kernel
theorem dX5_walker_15 : decode cX5_walker 15 = .ok (.iconst (-1), 1) := by decide +kernel
theorem dX5_walker_16 : decode cX5_walker 16 = .ok (.invokevirtual 65, 3) := by decide +kernel
theorem dX5_walker_19 : decode cX5_walker 19 = .ok (.ireturn, 1) := by decide +kernel
theorem dX5_walker_20 : decode cX5_walker 20 = .ok (.iload_n 3, 1) := by decide +kernel
theorem dX5_walker_21 : decode cX5_walker 21 = .ok (.ifCond .ge 10, 3) := by decide +kernel
theorem dX5_walker_24 : decode cX5_walker 24 = .ok (.aload_n 0, 1) := by decide +kernel
theorem dX5_walker_25 : decode cX5_walker 25 = .ok (.bipush (-4), 2) := by decide +kernel
theorem dX5_walker_27 : decode cX5_walker 27 = .ok (.invokevirtual 65, 3) := by decide +kernel
theorem dX5_walker_30 : decode cX5_walker 30 = .ok (.ireturn, 1) := by decide +kernel
theorem dX5_walker_31 : decode cX5_walker 31 = .ok (.iload_n 3, 1) := by decide +kernel
theorem dX5_walker_32 : decode cX5_walker 32 = .ok (.iconst 2, 1) := by decide +kernel
theorem dX5_walker_33 : decode cX5_walker 33 = .ok (.if_icmp .gt 15, 3) := by decide +kernel
theorem dX5_walker_36 : decode cX5_walker 36 = .ok (.aload_n 0, 1) := by decide +kernel
theorem dX5_walker_37 : decode cX5_walker 37 = .ok (.getfield 12, 3) := by decide +kernel
theorem dX5_walker_40 : decode cX5_walker 40 = .ok (.getfield 158, 3) := by decide +kernel
theorem dX5_walker_43 : decode cX5_walker 43 = .ok (.bipush 6, 2) := by decide +kernel
theorem dX5_walker_45 : decode cX5_walker 45 = .ok (.if_icmp .lt 10, 3) := by decide +kernel
theorem dX5_walker_48 : decode cX5_walker 48 = .ok (.aload_n 0, 1) := by decide +kernel
theorem dX5_walker_49 : decode cX5_walker 49 = .ok (.bipush (-6), 2) := by decide +kernel
theorem dX5_walker_51 : decode cX5_walker 51 = .ok (.invokevirtual 65, 3) := by decide +kernel
theorem dX5_walker_54 : decode cX5_walker 54 = .ok (.ireturn, 1) := by decide +kernel
theorem dX5_walker_55 : decode cX5_walker 55 = .ok (.aload_n 0, 1) := by decide +kernel
theorem dX5_walker_56 : decode cX5_walker 56 = .ok (.getfield 12, 3) := by decide +kernel
theorem dX5_walker_59 : decode cX5_walker 59 = .ok (.iload_n 1, 1) := by decide +kernel
theorem dX5_walker_60 : decode cX5_walker 60 = .ok (.iload_n 2, 1) := by decide +kernel
theorem dX5_walker_61 : decode cX5_walker 61 = .ok (.iload_n 3, 1) := by decide +kernel
theorem dX5_walker_62 : decode cX5_walker 62 = .ok (.invokevirtual 161, 3) := by decide +kernel
theorem dX5_walker_65 : decode cX5_walker 65 = .ok (.pop, 1) := by decide +kernel
theorem dX5_walker_66 : decode cX5_walker 66 = .ok (.aload_n 0, 1) := by decide +kernel
theorem dX5_walker_67 : decode cX5_walker 67 = .ok (.getfield 29, 3) := by decide +kernel
theorem dX5_walker_70 : decode cX5_walker 70 = .ok (.invokevirtual 87, 3) := by decide +kernel
theorem dX5_walker_73 : decode cX5_walker 73 = .ok (.aload_n 0, 1) := by decide +kernel
theorem dX5_walker_74 : decode cX5_walker 74 = .ok (.getfield 12, 3) := by decide +kernel
theorem dX5_walker_77 : decode cX5_walker 77 = .ok (.getfield 158, 3) := by decide +kernel
theorem dX5_walker_80 : decode cX5_walker 80 = .ok (.iconst 1, 1) := by decide +kernel
theorem dX5_walker_81 : decode cX5_walker 81 = .ok (.isub, 1) := by decide +kernel
theorem dX5_walker_82 : decode cX5_walker 82 = .ok (.ireturn, 1) := by decide +kernel
theorem dX5_lights_0 : decode cX5_lights 0 = .ok (.aload_n 0, 1) := by decide +kernel
theorem dX5_lights_1 : decode cX5_lights 1 = .ok (.getfield 12, 3) := by decide +kernel
theorem dX5_lights_4 : decode cX5_lights 4 = .ok (.iload_n 1, 1) := by decide +kernel
theorem dX5_lights_5 : decode cX5_lights 5 = .ok (.invokevirtual 90, 3) := by decide +kernel
theorem dX5_lights_8 : decode cX5_lights 8 = .ok (.ifCond .ne 9, 3) := by decide +kernel
theorem dX5_lights_11 : decode cX5_lights 11 = .ok (.aload_n 0, 1) := by decide +kernel
theorem dX5_lights_12 : decode cX5_lights 12 = .ok (.iconst (-1), 1) := by decide +kernel
theorem dX5_lights_13 : decode cX5_lights 13 = .ok (.invokevirtual 65, 3) := by decide +kernel
theorem dX5_lights_16 : decode cX5_lights 16 = .ok (.ireturn, 1) := by decide +kernel
theorem dX5_lights_17 : decode cX5_lights 17 = .ok (.aload_n 0, 1) := by decide +kernel
theorem dX5_lights_18 : decode cX5_lights 18 = .ok (.getfield 29, 3) := by decide +kernel
theorem dX5_lights_21 : decode cX5_lights 21 = .ok (.aload_n 0, 1) := by decide +kernel
theorem dX5_lights_22 : decode cX5_lights 22 = .ok (.getfield 12, 3) := by decide +kernel
theorem dX5_lights_25 : decode cX5_lights 25 = .ok (.invokevirtual 164, 3) := by decide +kernel
theorem dX5_lights_28 : decode cX5_lights 28 = .ok (.aload_n 0, 1) := by decide +kernel
theorem dX5_lights_29 : decode cX5_lights 29 = .ok (.getfield 12, 3) := by decide +kernel
theorem dX5_lights_32 : decode cX5_lights 32 = .ok (.iload_n 1, 1) := by decide +kernel
theorem dX5_lights_33 : decode cX5_lights 33 = .ok (.invokevirtual 167, 3) := by decide +kernel
theorem dX5_lights_36 : decode cX5_lights 36 = .ok (.pop, 1) := by decide +kernel
theorem dX5_lights_37 : decode cX5_lights 37 = .ok (.aload_n 0, 1) := by decide +kernel
theorem dX5_lights_38 : decode cX5_lights 38 = .ok (.getfield 12, 3) := by decide +kernel
theorem dX5_lights_41 : decode cX5_lights 41 = .ok (.iload_n 1, 1) := by decide +kernel
theorem dX5_lights_42 : decode cX5_lights 42 = .ok (.invokevirtual 103, 3) := by decide +kernel
theorem dX5_lights_45 : decode cX5_lights 45 = .ok (.ifCond .eq 7, 3) := by decide +kernel
theorem dX5_lights_48 : decode cX5_lights 48 = .ok (.iconst 1, 1) := by decide +kernel
theorem dX5_lights_49 : decode cX5_lights 49 = .ok (.goto 4, 3) := by decide +kernel
theorem dX5_lights_52 : decode cX5_lights 52 = .ok (.iconst 0, 1) := by decide +kernel
theorem dX5_lights_53 : decode cX5_lights 53 = .ok (.ireturn, 1) := by decide +kernel
theorem dX5_goals_0 : decode cX5_goals 0 = .ok (.aload_n 0, 1) := by decide +kernel
theorem dX5_goals_1 : decode cX5_goals 1 = .ok (.getfield 12, 3) := by decide +kernel
theorem dX5_goals_4 : decode cX5_goals 4 = .ok (.iload_n 1, 1) := by decide +kernel
theorem dX5_goals_5 : decode cX5_goals 5 = .ok (.invokevirtual 119, 3) := by decide +kernel
theorem dX5_goals_8 : decode cX5_goals 8 = .ok (.ifCond .eq 10, 3) := by decide +kernel
theorem dX5_goals_11 : decode cX5_goals 11 = .ok (.iload_n 2, 1) := by decide +kernel
theorem dX5_goals_12 : decode cX5_goals 12 = .ok (.invokestatic 151, 3) := by decide +kernel
theorem dX5_goals_15 : decode cX5_goals 15 = .ok (.ifCond .ne 9, 3) := by decide +kernel
theorem dX5_goals_18 : decode cX5_goals 18 = .ok (.aload_n 0, 1) := by decide +kernel
theorem dX5_goals_19 : decode cX5_goals 19 = .ok (.iconst (-1), 1) := by decide +kernel
theorem dX5_goals_20 : decode cX5_goals 20 = .ok (.invokevirtual 65, 3) := by decide +kernel
theorem dX5_goals_23 : decode cX5_goals 23 = .ok (.ireturn, 1) := by decide +kernel
theorem dX5_goals_24 : decode cX5_goals 24 = .ok (.aload_n 0, 1) := by decide +kernel
theorem dX5_goals_25 : decode cX5_goals 25 = .ok (.getfield 12, 3) := by decide +kernel
theorem dX5_goals_28 : decode cX5_goals 28 = .ok (.getfield 125, 3) := by decide +kernel
theorem dX5_goals_31 : decode cX5_goals 31 = .ok (.iload_n 1, 1) := by decide +kernel
theorem dX5_goals_32 : decode cX5_goals 32 = .ok (.iaload, 1) := by decide +kernel
theorem dX5_goals_33 : decode cX5_goals 33 = .ok (.istore_n 3, 1) := by decide +kernel
theorem dX5_goals_34 : decode cX5_goals 34 = .ok (.aload_n 0, 1) := by decide +kernel
theorem dX5_goals_35 : decode cX5_goals 35 = .ok (.getfield 29, 3) := by decide +kernel
theorem dX5_goals_38 : decode cX5_goals 38 = .ok (.aload_n 0, 1) := by decide +kernel
theorem dX5_goals_39 : decode cX5_goals 39 = .ok (.getfield 12, 3) := by decide +kernel
theorem dX5_goals_42 : decode cX5_goals 42 = .ok (.invokevirtual 164, 3) := by decide +kernel
theorem dX5_goals_45 : decode cX5_goals 45 = .ok (.aload_n 0, 1) := by decide +kernel
theorem dX5_goals_46 : decode cX5_goals 46 = .ok (.getfield 12, 3) := by decide +kernel
theorem dX5_goals_49 : decode cX5_goals 49 = .ok (.iload_n 1, 1) := by decide +kernel
theorem dX5_goals_50 : decode cX5_goals 50 = .ok (.iload_n 2, 1) := by decide +kernel
theorem dX5_goals_51 : decode cX5_goals 51 = .ok (.invokevirtual 170, 3) := by decide +kernel
theorem dX5_goals_54 : decode cX5_goals 54 = .ok (.pop, 1) := by decide +kernel
theorem dX5_goals_55 : decode cX5_goals 55 = .ok (.iload_n 3, 1) := by decide +kernel
theorem dX5_goals_56 : decode cX5_goals 56 = .ok (.ireturn, 1) := by decide +kernel
theorem dX5_visits_0 : decode cX5_visits 0 = .ok (.aload_n 0, 1) := by decide +kernel
theorem dX5_visits_1 : decode cX5_visits 1 = .ok (.getfield 12, 3) := by decide +kernel
theorem dX5_visits_4 : decode cX5_visits 4 = .ok (.iload_n 1, 1) := by decide +kernel
theorem dX5_visits_5 : decode cX5_visits 5 = .ok (.invokevirtual 119, 3) := by decide +kernel
theorem dX5_visits_8 : decode cX5_visits 8 = .ok (.ifCond .eq 14, 3) := by decide +kernel
theorem dX5_visits_11 : decode cX5_visits 11 = .ok (.aload_n 0, 1) := by decide +kernel
theorem dX5_visits_12 : decode cX5_visits 12 = .ok (.getfield 12, 3) := by decide +kernel
theorem dX5_visits_15 : decode cX5_visits 15 = .ok (.iload_n 2, 1) := by decide +kernel
theorem dX5_visits_16 : decode cX5_visits 16 = .ok (.invokevirtual 90, 3) := by decide +kernel
theorem dX5_visits_19 : decode cX5_visits 19 = .ok (.ifCond .ne 9, 3) := by decide +kernel
theorem dX5_visits_22 : decode cX5_visits 22 = .ok (.aload_n 0, 1) := by decide +kernel
theorem dX5_visits_23 : decode cX5_visits 23 = .ok (.iconst (-1), 1) := by decide +kernel
theorem dX5_visits_24 : decode cX5_visits 24 = .ok (.invokevirtual 65, 3) := by decide +kernel
theorem dX5_visits_27 : decode cX5_visits 27 = .ok (.ireturn, 1) := by decide +kernel
theorem dX5_visits_28 : decode cX5_visits 28 = .ok (.aload_n 0, 1) := by decide +kernel
theorem dX5_visits_29 : decode cX5_visits 29 = .ok (.getfield 12, 3) := by decide +kernel
theorem dX5_visits_32 : decode cX5_visits 32 = .ok (.iload_n 1, 1) := by decide +kernel
theorem dX5_visits_33 : decode cX5_visits 33 = .ok (.iload_n 2, 1) := by decide +kernel
theorem dX5_visits_34 : decode cX5_visits 34 = .ok (.invokevirtual 140, 3) := by decide +kernel
theorem dX5_visits_37 : decode cX5_visits 37 = .ok (.ifCond .eq 24, 3) := by decide +kernel
theorem dX5_visits_40 : decode cX5_visits 40 = .ok (.aload_n 0, 1) := by decide +kernel
theorem dX5_visits_41 : decode cX5_visits 41 = .ok (.getfield 12, 3) := by decide +kernel
theorem dX5_visits_44 : decode cX5_visits 44 = .ok (.getfield 122, 3) := by decide +kernel
theorem dX5_visits_47 : decode cX5_visits 47 = .ok (.iload_n 1, 1) := by decide +kernel
theorem dX5_visits_48 : decode cX5_visits 48 = .ok (.iaload, 1) := by decide +kernel
theorem dX5_visits_49 : decode cX5_visits 49 = .ok (.aload_n 0, 1) := by decide +kernel
theorem dX5_visits_50 : decode cX5_visits 50 = .ok (.getfield 12, 3) := by decide +kernel
theorem dX5_visits_53 : decode cX5_visits 53 = .ok (.getfield 100, 3) := by decide +kernel
theorem dX5_visits_56 : decode cX5_visits 56 = .ok (.iload_n 2, 1) := by decide +kernel
theorem dX5_visits_57 : decode cX5_visits 57 = .ok (.iaload, 1) := by decide +kernel
theorem dX5_visits_58 : decode cX5_visits 58 = .ok (.if_icmp .eq 10, 3) := by decide +kernel
theorem dX5_visits_61 : decode cX5_visits 61 = .ok (.aload_n 0, 1) := by decide +kernel
theorem dX5_visits_62 : decode cX5_visits 62 = .ok (.bipush (-3), 2) := by decide +kernel
theorem dX5_visits_64 : decode cX5_visits 64 = .ok (.invokevirtual 65, 3) := by decide +kernel
theorem dX5_visits_67 : decode cX5_visits 67 = .ok (.ireturn, 1) := by decide +kernel
theorem dX5_visits_68 : decode cX5_visits 68 = .ok (.aload_n 0, 1) := by decide +kernel
theorem dX5_visits_69 : decode cX5_visits 69 = .ok (.getfield 12, 3) := by decide +kernel
theorem dX5_visits_72 : decode cX5_visits 72 = .ok (.iload_n 1, 1) := by decide +kernel
theorem dX5_visits_73 : decode cX5_visits 73 = .ok (.iload_n 2, 1) := by decide +kernel
theorem dX5_visits_74 : decode cX5_visits 74 = .ok (.iconst 0, 1) := by decide +kernel
theorem dX5_visits_75 : decode cX5_visits 75 = .ok (.invokevirtual 173, 3) := by decide +kernel
theorem dX5_visits_78 : decode cX5_visits 78 = .ok (.istore_n 3, 1) := by decide +kernel
theorem dX5_visits_79 : decode cX5_visits 79 = .ok (.aload_n 0, 1) := by decide +kernel
theorem dX5_visits_80 : decode cX5_visits 80 = .ok (.getfield 29, 3) := by decide +kernel
theorem dX5_visits_83 : decode cX5_visits 83 = .ok (.aload_n 0, 1) := by decide +kernel
theorem dX5_visits_84 : decode cX5_visits 84 = .ok (.getfield 12, 3) := by decide +kernel
theorem dX5_visits_87 : decode cX5_visits 87 = .ok (.invokevirtual 164, 3) := by decide +kernel
theorem dX5_visits_90 : decode cX5_visits 90 = .ok (.aload_n 0, 1) := by decide +kernel
theorem dX5_visits_91 : decode cX5_visits 91 = .ok (.getfield 12, 3) := by decide +kernel
theorem dX5_visits_94 : decode cX5_visits 94 = .ok (.iload_n 1, 1) := by decide +kernel
theorem dX5_visits_95 : decode cX5_visits 95 = .ok (.iload_n 2, 1) := by decide +kernel
theorem dX5_visits_96 : decode cX5_visits 96 = .ok (.iconst (-1), 1) := by decide +kernel
theorem dX5_visits_97 : decode cX5_visits 97 = .ok (.invokevirtual 176, 3) := by decide +kernel
theorem dX5_visits_100 : decode cX5_visits 100 = .ok (.iload_n 3, 1) := by decide +kernel
theorem dX5_visits_101 : decode cX5_visits 101 = .ok (.ireturn, 1) := by decide +kernel
theorem dX5_trades_0 : decode cX5_trades 0 = .ok (.aload_n 0, 1) := by decide +kernel
theorem dX5_trades_1 : decode cX5_trades 1 = .ok (.getfield 12, 3) := by decide +kernel
theorem dX5_trades_4 : decode cX5_trades 4 = .ok (.iload_n 1, 1) := by decide +kernel
theorem dX5_trades_5 : decode cX5_trades 5 = .ok (.invokevirtual 90, 3) := by decide +kernel
theorem dX5_trades_8 : decode cX5_trades 8 = .ok (.ifCond .eq 25, 3) := by decide +kernel
theorem dX5_trades_11 : decode cX5_trades 11 = .ok (.aload_n 0, 1) := by decide +kernel
theorem dX5_trades_12 : decode cX5_trades 12 = .ok (.getfield 12, 3) := by decide +kernel
theorem dX5_trades_15 : decode cX5_trades 15 = .ok (.iload_n 2, 1) := by decide +kernel
theorem dX5_trades_16 : decode cX5_trades 16 = .ok (.invokevirtual 119, 3) := by decide +kernel
theorem dX5_trades_19 : decode cX5_trades 19 = .ok (.ifCond .eq 14, 3) := by decide +kernel
theorem dX5_trades_22 : decode cX5_trades 22 = .ok (.aload_n 0, 1) := by decide +kernel
theorem dX5_trades_23 : decode cX5_trades 23 = .ok (.getfield 12, 3) := by decide +kernel
theorem dX5_trades_26 : decode cX5_trades 26 = .ok (.iload_n 3, 1) := by decide +kernel
theorem dX5_trades_27 : decode cX5_trades 27 = .ok (.invokevirtual 119, 3) := by decide +kernel
theorem dX5_trades_30 : decode cX5_trades 30 = .ok (.ifCond .ne 9, 3) := by decide +kernel
theorem dX5_trades_33 : decode cX5_trades 33 = .ok (.aload_n 0, 1) := by decide +kernel
theorem dX5_trades_34 : decode cX5_trades 34 = .ok (.iconst (-1), 1) := by decide +kernel
theorem dX5_trades_35 : decode cX5_trades 35 = .ok (.invokevirtual 65, 3) := by decide +kernel
theorem dX5_trades_38 : decode cX5_trades 38 = .ok (.ireturn, 1) := by decide +kernel
theorem dX5_trades_39 : decode cX5_trades 39 = .ok (.iload_n 2, 1) := by decide +kernel
theorem dX5_trades_40 : decode cX5_trades 40 = .ok (.iload_n 3, 1) := by decide +kernel
theorem dX5_trades_41 : decode cX5_trades 41 = .ok (.if_icmp .ne 9, 3) := by decide +kernel
theorem dX5_trades_44 : decode cX5_trades 44 = .ok (.aload_n 0, 1) := by decide +kernel
theorem dX5_trades_45 : decode cX5_trades 45 = .ok (.iconst (-1), 1) := by decide +kernel
theorem dX5_trades_46 : decode cX5_trades 46 = .ok (.invokevirtual 65, 3) := by decide +kernel
theorem dX5_trades_49 : decode cX5_trades 49 = .ok (.ireturn, 1) := by decide +kernel
theorem dX5_trades_50 : decode cX5_trades 50 = .ok (.aload_n 0, 1) := by decide +kernel
theorem dX5_trades_51 : decode cX5_trades 51 = .ok (.getfield 12, 3) := by decide +kernel
theorem dX5_trades_54 : decode cX5_trades 54 = .ok (.iload_n 2, 1) := by decide +kernel
theorem dX5_trades_55 : decode cX5_trades 55 = .ok (.iload_n 1, 1) := by decide +kernel
theorem dX5_trades_56 : decode cX5_trades 56 = .ok (.invokevirtual 140, 3) := by decide +kernel
theorem dX5_trades_59 : decode cX5_trades 59 = .ok (.ifCond .eq 15, 3) := by decide +kernel
theorem dX5_trades_62 : decode cX5_trades 62 = .ok (.aload_n 0, 1) := by decide +kernel
theorem dX5_trades_63 : decode cX5_trades 63 = .ok (.getfield 12, 3) := by decide +kernel
theorem dX5_trades_66 : decode cX5_trades 66 = .ok (.iload_n 3, 1) := by decide +kernel
theorem dX5_trades_67 : decode cX5_trades 67 = .ok (.iload_n 1, 1) := by decide +kernel
theorem dX5_trades_68 : decode cX5_trades 68 = .ok (.invokevirtual 140, 3) := by decide +kernel
theorem dX5_trades_71 : decode cX5_trades 71 = .ok (.ifCond .eq 10, 3) := by decide +kernel
theorem dX5_trades_74 : decode cX5_trades 74 = .ok (.aload_n 0, 1) := by decide +kernel
theorem dX5_trades_75 : decode cX5_trades 75 = .ok (.bipush (-3), 2) := by decide +kernel
theorem dX5_trades_77 : decode cX5_trades 77 = .ok (.invokevirtual 65, 3) := by decide +kernel
theorem dX5_trades_80 : decode cX5_trades 80 = .ok (.ireturn, 1) := by decide +kernel
theorem dX5_trades_81 : decode cX5_trades 81 = .ok (.aload_n 0, 1) := by decide +kernel
theorem dX5_trades_82 : decode cX5_trades 82 = .ok (.getfield 12, 3) := by decide +kernel
theorem dX5_trades_85 : decode cX5_trades 85 = .ok (.iload_n 2, 1) := by decide +kernel
theorem dX5_trades_86 : decode cX5_trades 86 = .ok (.iload_n 1, 1) := by decide +kernel
theorem dX5_trades_87 : decode cX5_trades 87 = .ok (.iconst 0, 1) := by decide +kernel
theorem dX5_trades_88 : decode cX5_trades 88 = .ok (.invokevirtual 144, 3) := by decide +kernel
theorem dX5_trades_91 : decode cX5_trades 91 = .ok (.istore 4, 2) := by decide +kernel
theorem dX5_trades_93 : decode cX5_trades 93 = .ok (.aload_n 0, 1) := by decide +kernel
theorem dX5_trades_94 : decode cX5_trades 94 = .ok (.getfield 29, 3) := by decide +kernel
theorem dX5_trades_97 : decode cX5_trades 97 = .ok (.aload_n 0, 1) := by decide +kernel
theorem dX5_trades_98 : decode cX5_trades 98 = .ok (.getfield 12, 3) := by decide +kernel
theorem dX5_trades_101 : decode cX5_trades 101 = .ok (.invokevirtual 164, 3) := by decide +kernel
theorem dX5_trades_104 : decode cX5_trades 104 = .ok (.aload_n 0, 1) := by decide +kernel
theorem dX5_trades_105 : decode cX5_trades 105 = .ok (.getfield 12, 3) := by decide +kernel
theorem dX5_trades_108 : decode cX5_trades 108 = .ok (.iload_n 2, 1) := by decide +kernel
theorem dX5_trades_109 : decode cX5_trades 109 = .ok (.iload_n 1, 1) := by decide +kernel
theorem dX5_trades_110 : decode cX5_trades 110 = .ok (.iconst (-1), 1) := by decide +kernel
theorem dX5_trades_111 : decode cX5_trades 111 = .ok (.invokevirtual 176, 3) := by decide +kernel
theorem dX5_trades_114 : decode cX5_trades 114 = .ok (.aload_n 0, 1) := by decide +kernel
theorem dX5_trades_115 : decode cX5_trades 115 = .ok (.getfield 12, 3) := by decide +kernel
theorem dX5_trades_118 : decode cX5_trades 118 = .ok (.iload_n 3, 1) := by decide +kernel
theorem dX5_trades_119 : decode cX5_trades 119 = .ok (.iload_n 1, 1) := by decide +kernel
theorem dX5_trades_120 : decode cX5_trades 120 = .ok (.iload 4, 2) := by decide +kernel
theorem dX5_trades_122 : decode cX5_trades 122 = .ok (.invokevirtual 176, 3) := by decide +kernel
theorem dX5_trades_125 : decode cX5_trades 125 = .ok (.iload 4, 2) := by decide +kernel
theorem dX5_trades_127 : decode cX5_trades 127 = .ok (.ireturn, 1) := by decide +kernel
theorem dX5_evenings_0 : decode cX5_evenings 0 = .ok (.iload_n 1, 1) := by decide +kernel
theorem dX5_evenings_1 : decode cX5_evenings 1 = .ok (.iconst 1, 1) := by decide +kernel
theorem dX5_evenings_2 : decode cX5_evenings 2 = .ok (.if_icmp .ge 10, 3) := by decide +kernel
theorem dX5_evenings_5 : decode cX5_evenings 5 = .ok (.aload_n 0, 1) := by decide +kernel
theorem dX5_evenings_6 : decode cX5_evenings 6 = .ok (.bipush (-4), 2) := by decide +kernel
theorem dX5_evenings_8 : decode cX5_evenings 8 = .ok (.invokevirtual 65, 3) := by decide +kernel
theorem dX5_evenings_11 : decode cX5_evenings 11 = .ok (.ireturn, 1) := by decide +kernel
theorem dX5_evenings_12 : decode cX5_evenings 12 = .ok (.iload_n 1, 1) := by decide +kernel
theorem dX5_evenings_13 : decode cX5_evenings 13 = .ok (.bipush 60, 2) := by decide +kernel
theorem dX5_evenings_15 : decode cX5_evenings 15 = .ok (.if_icmp .gt 18, 3) := by decide +kernel
theorem dX5_evenings_18 : decode cX5_evenings 18 = .ok (.aload_n 0, 1) := by decide +kernel
theorem dX5_evenings_19 : decode cX5_evenings 19 = .ok (.getfield 12, 3) := by decide +kernel
theorem dX5_evenings_22 : decode cX5_evenings 22 = .ok (.getfield 180, 3) := by decide +kernel
theorem dX5_evenings_25 : decode cX5_evenings 25 = .ok (.iload_n 1, 1) := by decide +kernel
theorem dX5_evenings_26 : decode cX5_evenings 26 = .ok (.iadd, 1) := by decide +kernel
theorem dX5_evenings_27 : decode cX5_evenings 27 = .ok (.sipush 999, 3) := by decide +kernel
theorem dX5_evenings_30 : decode cX5_evenings 30 = .ok (.if_icmp .le 10, 3) := by decide +kernel
theorem dX5_evenings_33 : decode cX5_evenings 33 = .ok (.aload_n 0, 1) := by decide +kernel
theorem dX5_evenings_34 : decode cX5_evenings 34 = .ok (.bipush (-6), 2) := by decide +kernel
theorem dX5_evenings_36 : decode cX5_evenings 36 = .ok (.invokevirtual 65, 3) := by decide +kernel
theorem dX5_evenings_39 : decode cX5_evenings 39 = .ok (.ireturn, 1) := by decide +kernel
theorem dX5_evenings_40 : decode cX5_evenings 40 = .ok (.aload_n 0, 1) := by decide +kernel
theorem dX5_evenings_41 : decode cX5_evenings 41 = .ok (.getfield 29, 3) := by decide +kernel
theorem dX5_evenings_44 : decode cX5_evenings 44 = .ok (.aload_n 0, 1) := by decide +kernel
theorem dX5_evenings_45 : decode cX5_evenings 45 = .ok (.getfield 12, 3) := by decide +kernel
theorem dX5_evenings_48 : decode cX5_evenings 48 = .ok (.invokevirtual 164, 3) := by decide +kernel
theorem dX5_evenings_51 : decode cX5_evenings 51 = .ok (.aload_n 0, 1) := by decide +kernel
theorem dX5_evenings_52 : decode cX5_evenings 52 = .ok (.getfield 12, 3) := by decide +kernel
theorem dX5_evenings_55 : decode cX5_evenings 55 = .ok (.iload_n 1, 1) := by decide +kernel
theorem dX5_evenings_56 : decode cX5_evenings 56 = .ok (.invokevirtual 183, 3) := by decide +kernel
theorem dX5_evenings_59 : decode cX5_evenings 59 = .ok (.pop, 1) := by decide +kernel
theorem dX5_evenings_60 : decode cX5_evenings 60 = .ok (.aload_n 0, 1) := by decide +kernel
theorem dX5_evenings_61 : decode cX5_evenings 61 = .ok (.getfield 12, 3) := by decide +kernel
theorem dX5_evenings_64 : decode cX5_evenings 64 = .ok (.iconst 0, 1) := by decide +kernel
theorem dX5_evenings_65 : decode cX5_evenings 65 = .ok (.invokevirtual 186, 3) := by decide +kernel
theorem dX5_evenings_68 : decode cX5_evenings 68 = .ok (.ireturn, 1) := by decide +kernel
theorem dX5_back_0 : decode cX5_back 0 = .ok (.aload_n 0, 1) := by decide +kernel
theorem dX5_back_1 : decode cX5_back 1 = .ok (.getfield 29, 3) := by decide +kernel
theorem dX5_back_4 : decode cX5_back 4 = .ok (.getfield 189, 3) := by decide +kernel
theorem dX5_back_7 : decode cX5_back 7 = .ok (.ifCond .ne 10, 3) := by decide +kernel
theorem dX5_back_10 : decode cX5_back 10 = .ok (.aload_n 0, 1) := by decide +kernel
theorem dX5_back_11 : decode cX5_back 11 = .ok (.bipush (-3), 2) := by decide +kernel
theorem dX5_back_13 : decode cX5_back 13 = .ok (.invokevirtual 65, 3) := by decide +kernel
theorem dX5_back_16 : decode cX5_back 16 = .ok (.ireturn, 1) := by decide +kernel
theorem dX5_back_17 : decode cX5_back 17 = .ok (.aload_n 0, 1) := by decide +kernel
theorem dX5_back_18 : decode cX5_back 18 = .ok (.getfield 29, 3) := by decide +kernel
theorem dX5_back_21 : decode cX5_back 21 = .ok (.aload_n 0, 1) := by decide +kernel
theorem dX5_back_22 : decode cX5_back 22 = .ok (.getfield 12, 3) := by decide +kernel
theorem dX5_back_25 : decode cX5_back 25 = .ok (.invokevirtual 192, 3) := by decide +kernel
theorem dX5_back_28 : decode cX5_back 28 = .ok (.aload_n 0, 1) := by decide +kernel
theorem dX5_back_29 : decode cX5_back 29 = .ok (.getfield 29, 3) := by decide +kernel
theorem dX5_back_32 : decode cX5_back 32 = .ok (.getfield 189, 3) := by decide +kernel
theorem dX5_back_35 : decode cX5_back 35 = .ok (.ireturn, 1) := by decide +kernel
theorem dX5_walkerIn_0 : decode cX5_walkerIn 0 = .ok (.aload_n 0, 1) := by decide +kernel
theorem dX5_walkerIn_1 : decode cX5_walkerIn 1 = .ok (.getfield 12, 3) := by decide +kernel
theorem dX5_walkerIn_4 : decode cX5_walkerIn 4 = .ok (.iload_n 1, 1) := by decide +kernel
theorem dX5_walkerIn_5 : decode cX5_walkerIn 5 = .ok (.invokevirtual 119, 3) := by decide +kernel
theorem dX5_walkerIn_8 : decode cX5_walkerIn 8 = .ok (.ifCond .ne 9, 3) := by decide +kernel
theorem dX5_walkerIn_11 : decode cX5_walkerIn 11 = .ok (.aload_n 0, 1) := by decide +kernel
theorem dX5_walkerIn_12 : decode cX5_walkerIn 12 = .ok (.iconst (-1), 1) := by decide +kernel
theorem dX5_walkerIn_13 : decode cX5_walkerIn 13 = .ok (.invokevirtual 65, 3) := by decide +kernel
theorem dX5_walkerIn_16 : decode cX5_walkerIn 16 = .ok (.ireturn, 1) := by decide +kernel
theorem dX5_walkerIn_17 : decode cX5_walkerIn 17 = .ok (.iload_n 2, 1) := by decide +kernel
theorem dX5_walkerIn_18 : decode cX5_walkerIn 18 = .ok (.ifCond .ge 10, 3) := by decide +kernel
theorem dX5_walkerIn_21 : decode cX5_walkerIn 21 = .ok (.aload_n 0, 1) := by decide +kernel
theorem dX5_walkerIn_22 : decode cX5_walkerIn 22 = .ok (.bipush (-4), 2) := by decide +kernel
theorem dX5_walkerIn_24 : decode cX5_walkerIn 24 = .ok (.invokevirtual 65, 3) := by decide +kernel
theorem dX5_walkerIn_27 : decode cX5_walkerIn 27 = .ok (.ireturn, 1) := by decide +kernel
theorem dX5_walkerIn_28 : decode cX5_walkerIn 28 = .ok (.iload_n 2, 1) := by decide +kernel
theorem dX5_walkerIn_29 : decode cX5_walkerIn 29 = .ok (.bipush 60, 2) := by decide +kernel
theorem dX5_walkerIn_31 : decode cX5_walkerIn 31 = .ok (.if_icmp .le 10, 3) := by decide +kernel
theorem dX5_walkerIn_34 : decode cX5_walkerIn 34 = .ok (.aload_n 0, 1) := by decide +kernel
theorem dX5_walkerIn_35 : decode cX5_walkerIn 35 = .ok (.bipush (-6), 2) := by decide +kernel
theorem dX5_walkerIn_37 : decode cX5_walkerIn 37 = .ok (.invokevirtual 65, 3) := by decide +kernel
theorem dX5_walkerIn_40 : decode cX5_walkerIn 40 = .ok (.ireturn, 1) := by decide +kernel
theorem dX5_walkerIn_41 : decode cX5_walkerIn 41 = .ok (.iload_n 3, 1) := by decide +kernel
theorem dX5_walkerIn_42 : decode cX5_walkerIn 42 = .ok (.tableswitch 56 0 2 #[26, 36, 46], 26) := by decide +kernel
theorem dX5_walkerIn_68 : decode cX5_walkerIn 68 = .ok (.aload_n 0, 1) := by decide +kernel
theorem dX5_walkerIn_69 : decode cX5_walkerIn 69 = .ok (.getfield 12, 3) := by decide +kernel
theorem dX5_walkerIn_72 : decode cX5_walkerIn 72 = .ok (.iload_n 1, 1) := by decide +kernel
theorem dX5_walkerIn_73 : decode cX5_walkerIn 73 = .ok (.iload_n 2, 1) := by decide +kernel
theorem dX5_walkerIn_74 : decode cX5_walkerIn 74 = .ok (.invokevirtual 195, 3) := by decide +kernel
theorem dX5_walkerIn_77 : decode cX5_walkerIn 77 = .ok (.ireturn, 1) := by decide +kernel
theorem dX5_walkerIn_78 : decode cX5_walkerIn 78 = .ok (.aload_n 0, 1) := by decide +kernel
theorem dX5_walkerIn_79 : decode cX5_walkerIn 79 = .ok (.getfield 12, 3) := by decide +kernel
theorem dX5_walkerIn_82 : decode cX5_walkerIn 82 = .ok (.iload_n 1, 1) := by decide +kernel
theorem dX5_walkerIn_83 : decode cX5_walkerIn 83 = .ok (.iload_n 2, 1) := by decide +kernel
theorem dX5_walkerIn_84 : decode cX5_walkerIn 84 = .ok (.invokevirtual 131, 3) := by decide +kernel
theorem dX5_walkerIn_87 : decode cX5_walkerIn 87 = .ok (.ireturn, 1) := by decide +kernel
theorem dX5_walkerIn_88 : decode cX5_walkerIn 88 = .ok (.aload_n 0, 1) := by decide +kernel
theorem dX5_walkerIn_89 : decode cX5_walkerIn 89 = .ok (.getfield 12, 3) := by decide +kernel
theorem dX5_walkerIn_92 : decode cX5_walkerIn 92 = .ok (.iload_n 1, 1) := by decide +kernel
theorem dX5_walkerIn_93 : decode cX5_walkerIn 93 = .ok (.iload_n 2, 1) := by decide +kernel
theorem dX5_walkerIn_94 : decode cX5_walkerIn 94 = .ok (.invokevirtual 137, 3) := by decide +kernel
theorem dX5_walkerIn_97 : decode cX5_walkerIn 97 = .ok (.ireturn, 1) := by decide +kernel
theorem dX5_walkerIn_98 : decode cX5_walkerIn 98 = .ok (.aload_n 0, 1) := by decide +kernel
theorem dX5_walkerIn_99 : decode cX5_walkerIn 99 = .ok (.bipush (-2), 2) := by decide +kernel
theorem dX5_walkerIn_101 : decode cX5_walkerIn 101 = .ok (.invokevirtual 65, 3) := by decide +kernel
theorem dX5_walkerIn_104 : decode cX5_walkerIn 104 = .ok (.ireturn, 1) := by decide +kernel
theorem dX5_prices_0 : decode cX5_prices 0 = .ok (.iload_n 1, 1) := by decide +kernel
theorem dX5_prices_1 : decode cX5_prices 1 = .ok (.ifCond .ge 10, 3) := by decide +kernel
theorem dX5_prices_4 : decode cX5_prices 4 = .ok (.aload_n 0, 1) := by decide +kernel
theorem dX5_prices_5 : decode cX5_prices 5 = .ok (.bipush (-4), 2) := by decide +kernel
theorem dX5_prices_7 : decode cX5_prices 7 = .ok (.invokevirtual 65, 3) := by decide +kernel
theorem dX5_prices_10 : decode cX5_prices 10 = .ok (.ireturn, 1) := by decide +kernel
theorem dX5_prices_11 : decode cX5_prices 11 = .ok (.iload_n 1, 1) := by decide +kernel
theorem dX5_prices_12 : decode cX5_prices 12 = .ok (.bipush 60, 2) := by decide +kernel
theorem dX5_prices_14 : decode cX5_prices 14 = .ok (.if_icmp .le 10, 3) := by decide +kernel
theorem dX5_prices_17 : decode cX5_prices 17 = .ok (.aload_n 0, 1) := by decide +kernel
theorem dX5_prices_18 : decode cX5_prices 18 = .ok (.bipush (-6), 2) := by decide +kernel
theorem dX5_prices_20 : decode cX5_prices 20 = .ok (.invokevirtual 65, 3) := by decide +kernel
theorem dX5_prices_23 : decode cX5_prices 23 = .ok (.ireturn, 1) := by decide +kernel
theorem dX5_prices_24 : decode cX5_prices 24 = .ok (.aload_n 0, 1) := by decide +kernel
theorem dX5_prices_25 : decode cX5_prices 25 = .ok (.getfield 12, 3) := by decide +kernel
theorem dX5_prices_28 : decode cX5_prices 28 = .ok (.iload_n 1, 1) := by decide +kernel
theorem dX5_prices_29 : decode cX5_prices 29 = .ok (.invokevirtual 198, 3) := by decide +kernel
theorem dX5_prices_32 : decode cX5_prices 32 = .ok (.ireturn, 1) := by decide +kernel
theorem dX5_owed_0 : decode cX5_owed 0 = .ok (.aload_n 0, 1) := by decide +kernel
theorem dX5_owed_1 : decode cX5_owed 1 = .ok (.getfield 12, 3) := by decide +kernel
theorem dX5_owed_4 : decode cX5_owed 4 = .ok (.iload_n 1, 1) := by decide +kernel
theorem dX5_owed_5 : decode cX5_owed 5 = .ok (.invokevirtual 119, 3) := by decide +kernel
theorem dX5_owed_8 : decode cX5_owed 8 = .ok (.ifCond .eq 14, 3) := by decide +kernel
theorem dX5_owed_11 : decode cX5_owed 11 = .ok (.aload_n 0, 1) := by decide +kernel
theorem dX5_owed_12 : decode cX5_owed 12 = .ok (.getfield 12, 3) := by decide +kernel
theorem dX5_owed_15 : decode cX5_owed 15 = .ok (.iload_n 2, 1) := by decide +kernel
theorem dX5_owed_16 : decode cX5_owed 16 = .ok (.invokevirtual 90, 3) := by decide +kernel
theorem dX5_owed_19 : decode cX5_owed 19 = .ok (.ifCond .ne 9, 3) := by decide +kernel
theorem dX5_owed_22 : decode cX5_owed 22 = .ok (.aload_n 0, 1) := by decide +kernel
theorem dX5_owed_23 : decode cX5_owed 23 = .ok (.iconst (-1), 1) := by decide +kernel
theorem dX5_owed_24 : decode cX5_owed 24 = .ok (.invokevirtual 65, 3) := by decide +kernel
theorem dX5_owed_27 : decode cX5_owed 27 = .ok (.ireturn, 1) := by decide +kernel
theorem dX5_owed_28 : decode cX5_owed 28 = .ok (.aload_n 0, 1) := by decide +kernel
theorem dX5_owed_29 : decode cX5_owed 29 = .ok (.getfield 12, 3) := by decide +kernel
theorem dX5_owed_32 : decode cX5_owed 32 = .ok (.iload_n 1, 1) := by decide +kernel
theorem dX5_owed_33 : decode cX5_owed 33 = .ok (.iload_n 2, 1) := by decide +kernel
theorem dX5_owed_34 : decode cX5_owed 34 = .ok (.invokevirtual 140, 3) := by decide +kernel
theorem dX5_owed_37 : decode cX5_owed 37 = .ok (.ifCond .eq 5, 3) := by decide +kernel
theorem dX5_owed_40 : decode cX5_owed 40 = .ok (.iconst 0, 1) := by decide +kernel
theorem dX5_owed_41 : decode cX5_owed 41 = .ok (.ireturn, 1) := by decide +kernel
theorem dX5_owed_42 : decode cX5_owed 42 = .ok (.aload_n 0, 1) := by decide +kernel
theorem dX5_owed_43 : decode cX5_owed 43 = .ok (.getfield 12, 3) := by decide +kernel
theorem dX5_owed_46 : decode cX5_owed 46 = .ok (.iload_n 1, 1) := by decide +kernel
theorem dX5_owed_47 : decode cX5_owed 47 = .ok (.iload_n 2, 1) := by decide +kernel
theorem dX5_owed_48 : decode cX5_owed 48 = .ok (.bipush 60, 2) := by decide +kernel
theorem dX5_owed_50 : decode cX5_owed 50 = .ok (.invokevirtual 201, 3) := by decide +kernel
theorem dX5_owed_53 : decode cX5_owed 53 = .ok (.ireturn, 1) := by decide +kernel
theorem dX5_home_0 : decode cX5_home 0 = .ok (.aload_n 0, 1) := by decide +kernel
theorem dX5_home_1 : decode cX5_home 1 = .ok (.getfield 12, 3) := by decide +kernel
theorem dX5_home_4 : decode cX5_home 4 = .ok (.iload_n 1, 1) := by decide +kernel
theorem dX5_home_5 : decode cX5_home 5 = .ok (.invokevirtual 119, 3) := by decide +kernel
theorem dX5_home_8 : decode cX5_home 8 = .ok (.ifCond .ne 9, 3) := by decide +kernel
theorem dX5_home_11 : decode cX5_home 11 = .ok (.aload_n 0, 1) := by decide +kernel
theorem dX5_home_12 : decode cX5_home 12 = .ok (.iconst (-1), 1) := by decide +kernel
theorem dX5_home_13 : decode cX5_home 13 = .ok (.invokevirtual 65, 3) := by decide +kernel
theorem dX5_home_16 : decode cX5_home 16 = .ok (.ireturn, 1) := by decide +kernel
theorem dX5_home_17 : decode cX5_home 17 = .ok (.aload_n 0, 1) := by decide +kernel
theorem dX5_home_18 : decode cX5_home 18 = .ok (.getfield 12, 3) := by decide +kernel
theorem dX5_home_21 : decode cX5_home 21 = .ok (.getfield 122, 3) := by decide +kernel
theorem dX5_home_24 : decode cX5_home 24 = .ok (.iload_n 1, 1) := by decide +kernel
theorem dX5_home_25 : decode cX5_home 25 = .ok (.iaload, 1) := by decide +kernel
theorem dX5_home_26 : decode cX5_home 26 = .ok (.aload_n 0, 1) := by decide +kernel
theorem dX5_home_27 : decode cX5_home 27 = .ok (.getfield 12, 3) := by decide +kernel
theorem dX5_home_30 : decode cX5_home 30 = .ok (.getfield 125, 3) := by decide +kernel
theorem dX5_home_33 : decode cX5_home 33 = .ok (.iload_n 1, 1) := by decide +kernel
theorem dX5_home_34 : decode cX5_home 34 = .ok (.iaload, 1) := by decide +kernel
theorem dX5_home_35 : decode cX5_home 35 = .ok (.invokestatic 204, 3) := by decide +kernel
theorem dX5_home_38 : decode cX5_home 38 = .ok (.ireturn, 1) := by decide +kernel
theorem dX5_richest_0 : decode cX5_richest 0 = .ok (.iload_n 1, 1) := by decide +kernel
theorem dX5_richest_1 : decode cX5_richest 1 = .ok (.ifCond .eq 15, 3) := by decide +kernel
theorem dX5_richest_4 : decode cX5_richest 4 = .ok (.iload_n 1, 1) := by decide +kernel
theorem dX5_richest_5 : decode cX5_richest 5 = .ok (.iconst 1, 1) := by decide +kernel
theorem dX5_richest_6 : decode cX5_richest 6 = .ok (.if_icmp .eq 10, 3) := by decide +kernel
theorem dX5_richest_9 : decode cX5_richest 9 = .ok (.aload_n 0, 1) := by decide +kernel
theorem dX5_richest_10 : decode cX5_richest 10 = .ok (.bipush (-2), 2) := by decide +kernel
theorem dX5_richest_12 : decode cX5_richest 12 = .ok (.invokevirtual 65, 3) := by decide +kernel
theorem dX5_richest_15 : decode cX5_richest 15 = .ok (.ireturn, 1) := by decide +kernel
theorem dX5_richest_16 : decode cX5_richest 16 = .ok (.iload_n 1, 1) := by decide +kernel
theorem dX5_richest_17 : decode cX5_richest 17 = .ok (.ifCond .ne 10, 3) := by decide +kernel
theorem dX5_richest_20 : decode cX5_richest 20 = .ok (.aload_n 0, 1) := by decide +kernel
theorem dX5_richest_21 : decode cX5_richest 21 = .ok (.invokevirtual 207, 3) := by decide +kernel
theorem dX5_richest_24 : decode cX5_richest 24 = .ok (.goto 7, 3) := by decide +kernel
theorem dX5_richest_27 : decode cX5_richest 27 = .ok (.aload_n 0, 1) := by decide +kernel
theorem dX5_richest_28 : decode cX5_richest 28 = .ok (.invokevirtual 211, 3) := by decide +kernel
theorem dX5_richest_31 : decode cX5_richest 31 = .ok (.ireturn, 1) := by decide +kernel
theorem dX5_way_0 : decode cX5_way 0 = .ok (.aload_n 0, 1) := by decide +kernel
theorem dX5_way_1 : decode cX5_way 1 = .ok (.getfield 12, 3) := by decide +kernel
theorem dX5_way_4 : decode cX5_way 4 = .ok (.iload_n 1, 1) := by decide +kernel
theorem dX5_way_5 : decode cX5_way 5 = .ok (.invokevirtual 119, 3) := by decide +kernel
theorem dX5_way_8 : decode cX5_way 8 = .ok (.ifCond .eq 10, 3) := by decide +kernel
theorem dX5_way_11 : decode cX5_way 11 = .ok (.iload_n 2, 1) := by decide +kernel
theorem dX5_way_12 : decode cX5_way 12 = .ok (.invokestatic 151, 3) := by decide +kernel
theorem dX5_way_15 : decode cX5_way 15 = .ok (.ifCond .ne 9, 3) := by decide +kernel
theorem dX5_way_18 : decode cX5_way 18 = .ok (.aload_n 0, 1) := by decide +kernel
theorem dX5_way_19 : decode cX5_way 19 = .ok (.iconst (-1), 1) := by decide +kernel
theorem dX5_way_20 : decode cX5_way 20 = .ok (.invokevirtual 65, 3) := by decide +kernel
theorem dX5_way_23 : decode cX5_way 23 = .ok (.ireturn, 1) := by decide +kernel
theorem dX5_way_24 : decode cX5_way 24 = .ok (.iload_n 3, 1) := by decide +kernel
theorem dX5_way_25 : decode cX5_way 25 = .ok (.ifCond .eq 15, 3) := by decide +kernel
theorem dX5_way_28 : decode cX5_way 28 = .ok (.iload_n 3, 1) := by decide +kernel
theorem dX5_way_29 : decode cX5_way 29 = .ok (.iconst 1, 1) := by decide +kernel
theorem dX5_way_30 : decode cX5_way 30 = .ok (.if_icmp .eq 10, 3) := by decide +kernel
theorem dX5_way_33 : decode cX5_way 33 = .ok (.aload_n 0, 1) := by decide +kernel
theorem dX5_way_34 : decode cX5_way 34 = .ok (.bipush (-2), 2) := by decide +kernel
theorem dX5_way_36 : decode cX5_way 36 = .ok (.invokevirtual 65, 3) := by decide +kernel
theorem dX5_way_39 : decode cX5_way 39 = .ok (.ireturn, 1) := by decide +kernel
theorem dX5_way_40 : decode cX5_way 40 = .ok (.aload_n 0, 1) := by decide +kernel
theorem dX5_way_41 : decode cX5_way 41 = .ok (.getfield 43, 3) := by decide +kernel
theorem dX5_way_44 : decode cX5_way 44 = .ok (.aload_n 0, 1) := by decide +kernel
theorem dX5_way_45 : decode cX5_way 45 = .ok (.getfield 12, 3) := by decide +kernel
theorem dX5_way_48 : decode cX5_way 48 = .ok (.iload_n 1, 1) := by decide +kernel
theorem dX5_way_49 : decode cX5_way 49 = .ok (.iload_n 2, 1) := by decide +kernel
theorem dX5_way_50 : decode cX5_way 50 = .ok (.invokevirtual 214, 3) := by decide +kernel
theorem dX5_way_53 : decode cX5_way 53 = .ok (.iload_n 3, 1) := by decide +kernel
theorem dX5_way_54 : decode cX5_way 54 = .ok (.ifCond .ne 13, 3) := by decide +kernel
theorem dX5_way_57 : decode cX5_way 57 = .ok (.aload_n 0, 1) := by decide +kernel
theorem dX5_way_58 : decode cX5_way 58 = .ok (.getfield 43, 3) := by decide +kernel
theorem dX5_way_61 : decode cX5_way 61 = .ok (.getfield 218, 3) := by decide +kernel
theorem dX5_way_64 : decode cX5_way 64 = .ok (.goto 10, 3) := by decide +kernel
theorem dX5_way_67 : decode cX5_way 67 = .ok (.aload_n 0, 1) := by decide +kernel
theorem dX5_way_68 : decode cX5_way 68 = .ok (.getfield 43, 3) := by decide +kernel
theorem dX5_way_71 : decode cX5_way 71 = .ok (.getfield 221, 3) := by decide +kernel
theorem dX5_way_74 : decode cX5_way 74 = .ok (.ireturn, 1) := by decide +kernel
theorem dX5_payAll_0 : decode cX5_payAll 0 = .ok (.aload_n 0, 1) := by decide +kernel
theorem dX5_payAll_1 : decode cX5_payAll 1 = .ok (.getfield 12, 3) := by decide +kernel
theorem dX5_payAll_4 : decode cX5_payAll 4 = .ok (.iload_n 1, 1) := by decide +kernel
theorem dX5_payAll_5 : decode cX5_payAll 5 = .ok (.invokevirtual 119, 3) := by decide +kernel
theorem dX5_payAll_8 : decode cX5_payAll 8 = .ok (.ifCond .ne 9, 3) := by decide +kernel
theorem dX5_payAll_11 : decode cX5_payAll 11 = .ok (.aload_n 0, 1) := by decide +kernel
theorem dX5_payAll_12 : decode cX5_payAll 12 = .ok (.iconst (-1), 1) := by decide +kernel
theorem dX5_payAll_13 : decode cX5_payAll 13 = .ok (.invokevirtual 65, 3) := by decide +kernel
theorem dX5_payAll_16 : decode cX5_payAll 16 = .ok (.ireturn, 1) := by decide +kernel
theorem dX5_payAll_17 : decode cX5_payAll 17 = .ok (.iload_n 2, 1) := by decide +kernel
theorem dX5_payAll_18 : decode cX5_payAll 18 = .ok (.iconst (-1), 1) := by decide +kernel
theorem dX5_payAll_19 : decode cX5_payAll 19 = .ok (.if_icmp .ge 10, 3) := by decide +kernel
theorem dX5_payAll_22 : decode cX5_payAll 22 = .ok (.aload_n 0, 1) := by decide +kernel
theorem dX5_payAll_23 : decode cX5_payAll 23 = .ok (.bipush (-4), 2) := by decide +kernel
theorem dX5_payAll_25 : decode cX5_payAll 25 = .ok (.invokevirtual 65, 3) := by decide +kernel
theorem dX5_payAll_28 : decode cX5_payAll 28 = .ok (.ireturn, 1) := by decide +kernel
theorem dX5_payAll_29 : decode cX5_payAll 29 = .ok (.aload_n 0, 1) := by decide +kernel
theorem dX5_payAll_30 : decode cX5_payAll 30 = .ok (.getfield 50, 3) := by decide +kernel
theorem dX5_payAll_33 : decode cX5_payAll 33 = .ok (.aload_n 0, 1) := by decide +kernel
theorem dX5_payAll_34 : decode cX5_payAll 34 = .ok (.getfield 12, 3) := by decide +kernel
theorem dX5_payAll_37 : decode cX5_payAll 37 = .ok (.iload_n 1, 1) := by decide +kernel
theorem dX5_payAll_38 : decode cX5_payAll 38 = .ok (.invokevirtual 224, 3) := by decide +kernel
theorem dX5_payAll_41 : decode cX5_payAll 41 = .ok (.iload_n 2, 1) := by decide +kernel
theorem dX5_payAll_42 : decode cX5_payAll 42 = .ok (.iconst (-1), 1) := by decide +kernel
theorem dX5_payAll_43 : decode cX5_payAll 43 = .ok (.if_icmp .ne 43, 3) := by decide +kernel
theorem dX5_payAll_46 : decode cX5_payAll 46 = .ok (.aload_n 0, 1) := by decide +kernel
theorem dX5_payAll_47 : decode cX5_payAll 47 = .ok (.getfield 12, 3) := by decide +kernel
theorem dX5_payAll_50 : decode cX5_payAll 50 = .ok (.iload_n 1, 1) := by decide +kernel
theorem dX5_payAll_51 : decode cX5_payAll 51 = .ok (.iconst 0, 1) := by decide +kernel
theorem dX5_payAll_52 : decode cX5_payAll 52 = .ok (.invokevirtual 137, 3) := by decide +kernel
theorem dX5_payAll_55 : decode cX5_payAll 55 = .ok (.iconst 3, 1) := by decide +kernel
theorem dX5_payAll_56 : decode cX5_payAll 56 = .ok (.aload_n 0, 1) := by decide +kernel
theorem dX5_payAll_57 : decode cX5_payAll 57 = .ok (.getfield 50, 3) := by decide +kernel
theorem dX5_payAll_60 : decode cX5_payAll 60 = .ok (.aload_n 0, 1) := by decide +kernel
theorem dX5_payAll_61 : decode cX5_payAll 61 = .ok (.getfield 12, 3) := by decide +kernel
theorem dX5_payAll_64 : decode cX5_payAll 64 = .ok (.aload_n 0, 1) := by decide +kernel
theorem dX5_payAll_65 : decode cX5_payAll 65 = .ok (.getfield 12, 3) := by decide +kernel
theorem dX5_payAll_68 : decode cX5_payAll 68 = .ok (.getfield 122, 3) := by decide +kernel
theorem dX5_payAll_71 : decode cX5_payAll 71 = .ok (.iload_n 1, 1) := by decide +kernel
theorem dX5_payAll_72 : decode cX5_payAll 72 = .ok (.iaload, 1) := by decide +kernel
theorem dX5_payAll_73 : decode cX5_payAll 73 = .ok (.aload_n 0, 1) := by decide +kernel
theorem dX5_payAll_74 : decode cX5_payAll 74 = .ok (.getfield 50, 3) := by decide +kernel
theorem dX5_payAll_77 : decode cX5_payAll 77 = .ok (.getfield 228, 3) := by decide +kernel
theorem dX5_payAll_80 : decode cX5_payAll 80 = .ok (.invokevirtual 231, 3) := by decide +kernel
theorem dX5_payAll_83 : decode cX5_payAll 83 = .ok (.imul, 1) := by decide +kernel
theorem dX5_payAll_84 : decode cX5_payAll 84 = .ok (.iadd, 1) := by decide +kernel
theorem dX5_payAll_85 : decode cX5_payAll 85 = .ok (.ireturn, 1) := by decide +kernel
theorem dX5_payAll_86 : decode cX5_payAll 86 = .ok (.aload_n 0, 1) := by decide +kernel
theorem dX5_payAll_87 : decode cX5_payAll 87 = .ok (.getfield 50, 3) := by decide +kernel
theorem dX5_payAll_90 : decode cX5_payAll 90 = .ok (.aload_n 0, 1) := by decide +kernel
theorem dX5_payAll_91 : decode cX5_payAll 91 = .ok (.getfield 12, 3) := by decide +kernel
theorem dX5_payAll_94 : decode cX5_payAll 94 = .ok (.aload_n 0, 1) := by decide +kernel
theorem dX5_payAll_95 : decode cX5_payAll 95 = .ok (.getfield 12, 3) := by decide +kernel
theorem dX5_payAll_98 : decode cX5_payAll 98 = .ok (.getfield 122, 3) := by decide +kernel
theorem dX5_payAll_101 : decode cX5_payAll 101 = .ok (.iload_n 1, 1) := by decide +kernel
theorem dX5_payAll_102 : decode cX5_payAll 102 = .ok (.iaload, 1) := by decide +kernel
theorem dX5_payAll_103 : decode cX5_payAll 103 = .ok (.iload_n 2, 1) := by decide +kernel
theorem dX5_payAll_104 : decode cX5_payAll 104 = .ok (.invokevirtual 235, 3) := by decide +kernel
theorem dX5_payAll_107 : decode cX5_payAll 107 = .ok (.ireturn, 1) := by decide +kernel
theorem dX5_clear_0 : decode cX5_clear 0 = .ok (.aload_n 0, 1) := by decide +kernel
theorem dX5_clear_1 : decode cX5_clear 1 = .ok (.getfield 12, 3) := by decide +kernel
theorem dX5_clear_4 : decode cX5_clear 4 = .ok (.iload_n 1, 1) := by decide +kernel
theorem dX5_clear_5 : decode cX5_clear 5 = .ok (.invokevirtual 90, 3) := by decide +kernel
theorem dX5_clear_8 : decode cX5_clear 8 = .ok (.ifCond .eq 19, 3) := by decide +kernel
theorem dX5_clear_11 : decode cX5_clear 11 = .ok (.aload_n 0, 1) := by decide +kernel
theorem dX5_clear_12 : decode cX5_clear 12 = .ok (.getfield 12, 3) := by decide +kernel
theorem dX5_clear_15 : decode cX5_clear 15 = .ok (.iload_n 2, 1) := by decide +kernel
theorem dX5_clear_16 : decode cX5_clear 16 = .ok (.invokevirtual 90, 3) := by decide +kernel
theorem dX5_clear_19 : decode cX5_clear 19 = .ok (.ifCond .eq 8, 3) := by decide +kernel
theorem dX5_clear_22 : decode cX5_clear 22 = .ok (.iload_n 1, 1) := by decide +kernel
theorem dX5_clear_23 : decode cX5_clear 23 = .ok (.iload_n 2, 1) := by decide +kernel
theorem dX5_clear_24 : decode cX5_clear 24 = .ok (.if_icmp .ne 12, 3) := by decide +kernel
theorem dX5_clear_27 : decode cX5_clear 27 = .ok (.ldc 238, 2) := by decide +kernel
theorem dX5_clear_29 : decode cX5_clear 29 = .ok (.aload_n 0, 1) := by decide +kernel
theorem dX5_clear_30 : decode cX5_clear 30 = .ok (.iconst (-1), 1) := by decide +kernel
theorem dX5_clear_31 : decode cX5_clear 31 = .ok (.invokevirtual 65, 3) := by decide +kernel
theorem dX5_clear_34 : decode cX5_clear 34 = .ok (.isub, 1) := by decide +kernel
theorem dX5_clear_35 : decode cX5_clear 35 = .ok (.ireturn, 1) := by decide +kernel
theorem dX5_clear_36 : decode cX5_clear 36 = .ok (.aload_n 0, 1) := by decide +kernel
theorem dX5_clear_37 : decode cX5_clear 37 = .ok (.getfield 12, 3) := by decide +kernel
theorem dX5_clear_40 : decode cX5_clear 40 = .ok (.iload_n 1, 1) := by decide +kernel
theorem dX5_clear_41 : decode cX5_clear 41 = .ok (.iconst 0, 1) := by decide +kernel
theorem dX5_clear_42 : decode cX5_clear 42 = .ok (.invokevirtual 113, 3) := by decide +kernel
theorem dX5_clear_45 : decode cX5_clear 45 = .ok (.istore_n 3, 1) := by decide +kernel
theorem dX5_clear_46 : decode cX5_clear 46 = .ok (.aload_n 0, 1) := by decide +kernel
theorem dX5_clear_47 : decode cX5_clear 47 = .ok (.getfield 12, 3) := by decide +kernel
theorem dX5_clear_50 : decode cX5_clear 50 = .ok (.iload_n 2, 1) := by decide +kernel
theorem dX5_clear_51 : decode cX5_clear 51 = .ok (.iconst 0, 1) := by decide +kernel
theorem dX5_clear_52 : decode cX5_clear 52 = .ok (.invokevirtual 113, 3) := by decide +kernel
theorem dX5_clear_55 : decode cX5_clear 55 = .ok (.istore 4, 2) := by decide +kernel
theorem dX5_clear_57 : decode cX5_clear 57 = .ok (.iload_n 3, 1) := by decide +kernel
theorem dX5_clear_58 : decode cX5_clear 58 = .ok (.iload 4, 2) := by decide +kernel
theorem dX5_clear_60 : decode cX5_clear 60 = .ok (.iconst (-1), 1) := by decide +kernel
theorem dX5_clear_61 : decode cX5_clear 61 = .ok (.ixor, 1) := by decide +kernel
theorem dX5_clear_62 : decode cX5_clear 62 = .ok (.iand, 1) := by decide +kernel
theorem dX5_clear_63 : decode cX5_clear 63 = .ok (.invokestatic 239, 3) := by decide +kernel
theorem dX5_clear_66 : decode cX5_clear 66 = .ok (.iload 4, 2) := by decide +kernel
theorem dX5_clear_68 : decode cX5_clear 68 = .ok (.iload_n 3, 1) := by decide +kernel
theorem dX5_clear_69 : decode cX5_clear 69 = .ok (.iconst (-1), 1) := by decide +kernel
theorem dX5_clear_70 : decode cX5_clear 70 = .ok (.ixor, 1) := by decide +kernel
theorem dX5_clear_71 : decode cX5_clear 71 = .ok (.iand, 1) := by decide +kernel
theorem dX5_clear_72 : decode cX5_clear 72 = .ok (.invokestatic 239, 3) := by decide +kernel
theorem dX5_clear_75 : decode cX5_clear 75 = .ok (.isub, 1) := by decide +kernel
theorem dX5_clear_76 : decode cX5_clear 76 = .ok (.ireturn, 1) := by decide +kernel
theorem dX5_burn_0 : decode cX5_burn 0 = .ok (.iload_n 1, 1) := by decide +kernel
theorem dX5_burn_1 : decode cX5_burn 1 = .ok (.iconst 1, 1) := by decide +kernel
theorem dX5_burn_2 : decode cX5_burn 2 = .ok (.if_icmp .ge 10, 3) := by decide +kernel
theorem dX5_burn_5 : decode cX5_burn 5 = .ok (.aload_n 0, 1) := by decide +kernel
theorem dX5_burn_6 : decode cX5_burn 6 = .ok (.bipush (-4), 2) := by decide +kernel
theorem dX5_burn_8 : decode cX5_burn 8 = .ok (.invokevirtual 65, 3) := by decide +kernel
theorem dX5_burn_11 : decode cX5_burn 11 = .ok (.ireturn, 1) := by decide +kernel
theorem dX5_burn_12 : decode cX5_burn 12 = .ok (.iload_n 1, 1) := by decide +kernel
theorem dX5_burn_13 : decode cX5_burn 13 = .ok (.bipush 30, 2) := by decide +kernel
theorem dX5_burn_15 : decode cX5_burn 15 = .ok (.if_icmp .le 10, 3) := by decide +kernel
theorem dX5_burn_18 : decode cX5_burn 18 = .ok (.aload_n 0, 1) := by decide +kernel
theorem dX5_burn_19 : decode cX5_burn 19 = .ok (.bipush (-6), 2) := by decide +kernel
theorem dX5_burn_21 : decode cX5_burn 21 = .ok (.invokevirtual 65, 3) := by decide +kernel
theorem dX5_burn_24 : decode cX5_burn 24 = .ok (.ireturn, 1) := by decide +kernel
theorem dX5_burn_25 : decode cX5_burn 25 = .ok (.iload_n 2, 1) := by decide +kernel
theorem dX5_burn_26 : decode cX5_burn 26 = .ok (.ifCond .eq 15, 3) := by decide +kernel
theorem dX5_burn_29 : decode cX5_burn 29 = .ok (.iload_n 2, 1) := by decide +kernel
theorem dX5_burn_30 : decode cX5_burn 30 = .ok (.iconst 1, 1) := by decide +kernel
theorem dX5_burn_31 : decode cX5_burn 31 = .ok (.if_icmp .eq 10, 3) := by decide +kernel
theorem dX5_burn_34 : decode cX5_burn 34 = .ok (.aload_n 0, 1) := by decide +kernel
theorem dX5_burn_35 : decode cX5_burn 35 = .ok (.bipush (-2), 2) := by decide +kernel
theorem dX5_burn_37 : decode cX5_burn 37 = .ok (.invokevirtual 65, 3) := by decide +kernel
theorem dX5_burn_40 : decode cX5_burn 40 = .ok (.ireturn, 1) := by decide +kernel
theorem dX5_burn_41 : decode cX5_burn 41 = .ok (.iconst 0, 1) := by decide +kernel
theorem dX5_burn_42 : decode cX5_burn 42 = .ok (.istore_n 3, 1) := by decide +kernel
theorem dX5_burn_43 : decode cX5_burn 43 = .ok (.iconst 0, 1) := by decide +kernel
theorem dX5_burn_44 : decode cX5_burn 44 = .ok (.istore 4, 2) := by decide +kernel
theorem dX5_burn_46 : decode cX5_burn 46 = .ok (.aload_n 0, 1) := by decide +kernel
theorem dX5_burn_47 : decode cX5_burn 47 = .ok (.getfield 16, 3) := by decide +kernel
theorem dX5_burn_50 : decode cX5_burn 50 = .ok (.aload_n 0, 1) := by decide +kernel
theorem dX5_burn_51 : decode cX5_burn 51 = .ok (.getfield 12, 3) := by decide +kernel
theorem dX5_burn_54 : decode cX5_burn 54 = .ok (.invokevirtual 76, 3) := by decide +kernel
theorem dX5_burn_57 : decode cX5_burn 57 = .ok (.aload_n 0, 1) := by decide +kernel
theorem dX5_burn_58 : decode cX5_burn 58 = .ok (.getfield 16, 3) := by decide +kernel
theorem dX5_burn_61 : decode cX5_burn 61 = .ok (.invokevirtual 244, 3) := by decide +kernel
theorem dX5_burn_64 : decode cX5_burn 64 = .ok (.istore 5, 2) := by decide +kernel
theorem dX5_burn_66 : decode cX5_burn 66 = .ok (.iconst 0, 1) := by decide +kernel
theorem dX5_burn_67 : decode cX5_burn 67 = .ok (.istore 6, 2) := by decide +kernel
theorem dX5_burn_69 : decode cX5_burn 69 = .ok (.iload 6, 2) := by decide +kernel
theorem dX5_burn_71 : decode cX5_burn 71 = .ok (.bipush 49, 2) := by decide +kernel
theorem dX5_burn_73 : decode cX5_burn 73 = .ok (.if_icmp .ge 50, 3) := by decide +kernel
theorem dX5_burn_76 : decode cX5_burn 76 = .ok (.aload_n 0, 1) := by decide +kernel
theorem dX5_burn_77 : decode cX5_burn 77 = .ok (.getfield 16, 3) := by decide +kernel
theorem dX5_burn_80 : decode cX5_burn 80 = .ok (.getfield 100, 3) := by decide +kernel
theorem dX5_burn_83 : decode cX5_burn 83 = .ok (.iload 5, 2) := by decide +kernel
theorem dX5_burn_85 : decode cX5_burn 85 = .ok (.iload 6, 2) := by decide +kernel
theorem dX5_burn_87 : decode cX5_burn 87 = .ok (.iastore, 1) := by decide +kernel
theorem dX5_burn_88 : decode cX5_burn 88 = .ok (.aload_n 0, 1) := by decide +kernel
theorem dX5_burn_89 : decode cX5_burn 89 = .ok (.getfield 16, 3) := by decide +kernel
theorem dX5_burn_92 : decode cX5_burn 92 = .ok (.iload 5, 2) := by decide +kernel
theorem dX5_burn_94 : decode cX5_burn 94 = .ok (.iload_n 1, 1) := by decide +kernel
theorem dX5_burn_95 : decode cX5_burn 95 = .ok (.invokevirtual 113, 3) := by decide +kernel
theorem dX5_burn_98 : decode cX5_burn 98 = .ok (.invokestatic 239, 3) := by decide +kernel
theorem dX5_burn_101 : decode cX5_burn 101 = .ok (.istore 7, 2) := by decide +kernel
theorem dX5_burn_103 : decode cX5_burn 103 = .ok (.iload 7, 2) := by decide +kernel
theorem dX5_burn_105 : decode cX5_burn 105 = .ok (.iload 4, 2) := by decide +kernel
theorem dX5_burn_107 : decode cX5_burn 107 = .ok (.if_icmp .le 10, 3) := by decide +kernel
theorem dX5_burn_110 : decode cX5_burn 110 = .ok (.iload 7, 2) := by decide +kernel
theorem dX5_burn_112 : decode cX5_burn 112 = .ok (.istore 4, 2) := by decide +kernel
theorem dX5_burn_114 : decode cX5_burn 114 = .ok (.iload 6, 2) := by decide +kernel
theorem dX5_burn_116 : decode cX5_burn 116 = .ok (.istore_n 3, 1) := by decide +kernel
theorem dX5_burn_117 : decode cX5_burn 117 = .ok (.iinc 6 1, 3) := by decide +kernel
theorem dX5_burn_120 : decode cX5_burn 120 = .ok (.goto (-51), 3) := by decide +kernel
theorem dX5_burn_123 : decode cX5_burn 123 = .ok (.iload_n 2, 1) := by decide +kernel
theorem dX5_burn_124 : decode cX5_burn 124 = .ok (.ifCond .ne 7, 3) := by decide +kernel
theorem dX5_burn_127 : decode cX5_burn 127 = .ok (.iload_n 3, 1) := by decide +kernel
theorem dX5_burn_128 : decode cX5_burn 128 = .ok (.goto 5, 3) := by decide +kernel
theorem dX5_burn_131 : decode cX5_burn 131 = .ok (.iload 4, 2) := by decide +kernel
theorem dX5_burn_133 : decode cX5_burn 133 = .ok (.ireturn, 1) := by decide +kernel
theorem dX5_shut_0 : decode cX5_shut 0 = .ok (.iload_n 1, 1) := by decide +kernel
theorem dX5_shut_1 : decode cX5_shut 1 = .ok (.ifCond .ge 10, 3) := by decide +kernel
theorem dX5_shut_4 : decode cX5_shut 4 = .ok (.aload_n 0, 1) := by decide +kernel
theorem dX5_shut_5 : decode cX5_shut 5 = .ok (.bipush (-4), 2) := by decide +kernel
theorem dX5_shut_7 : decode cX5_shut 7 = .ok (.invokevirtual 65, 3) := by decide +kernel
theorem dX5_shut_10 : decode cX5_shut 10 = .ok (.ireturn, 1) := by decide +kernel
theorem dX5_shut_11 : decode cX5_shut 11 = .ok (.iload_n 1, 1) := by decide +kernel
theorem dX5_shut_12 : decode cX5_shut 12 = .ok (.bipush 60, 2) := by decide +kernel
theorem dX5_shut_14 : decode cX5_shut 14 = .ok (.if_icmp .le 10, 3) := by decide +kernel
theorem dX5_shut_17 : decode cX5_shut 17 = .ok (.aload_n 0, 1) := by decide +kernel
theorem dX5_shut_18 : decode cX5_shut 18 = .ok (.bipush (-6), 2) := by decide +kernel
theorem dX5_shut_20 : decode cX5_shut 20 = .ok (.invokevirtual 65, 3) := by decide +kernel
theorem dX5_shut_23 : decode cX5_shut 23 = .ok (.ireturn, 1) := by decide +kernel
theorem dX5_shut_24 : decode cX5_shut 24 = .ok (.bipush (-9), 2) := by decide +kernel
theorem dX5_shut_26 : decode cX5_shut 26 = .ok (.istore_n 2, 1) := by decide +kernel
theorem dX5_shut_27 : decode cX5_shut 27 = .ok (.aload_n 0, 1) := by decide +kernel
theorem dX5_shut_28 : decode cX5_shut 28 = .ok (.getfield 12, 3) := by decide +kernel
theorem dX5_shut_31 : decode cX5_shut 31 = .ok (.iload_n 1, 1) := by decide +kernel
theorem dX5_shut_32 : decode cX5_shut 32 = .ok (.invokevirtual 198, 3) := by decide +kernel
theorem dX5_shut_35 : decode cX5_shut 35 = .ok (.istore_n 3, 1) := by decide +kernel
theorem dX5_shut_36 : decode cX5_shut 36 = .ok (.iconst 0, 1) := by decide +kernel
theorem dX5_shut_37 : decode cX5_shut 37 = .ok (.istore 4, 2) := by decide +kernel
theorem dX5_shut_39 : decode cX5_shut 39 = .ok (.iload 4, 2) := by decide +kernel
theorem dX5_shut_41 : decode cX5_shut 41 = .ok (.aload_n 0, 1) := by decide +kernel
theorem dX5_shut_42 : decode cX5_shut 42 = .ok (.getfield 12, 3) := by decide +kernel
theorem dX5_shut_45 : decode cX5_shut 45 = .ok (.getfield 148, 3) := by decide +kernel
theorem dX5_shut_48 : decode cX5_shut 48 = .ok (.if_icmp .ge 67, 3) := by decide +kernel
theorem dX5_shut_51 : decode cX5_shut 51 = .ok (.aload_n 0, 1) := by decide +kernel
theorem dX5_shut_52 : decode cX5_shut 52 = .ok (.getfield 12, 3) := by decide +kernel
theorem dX5_shut_55 : decode cX5_shut 55 = .ok (.iload 4, 2) := by decide +kernel
theorem dX5_shut_57 : decode cX5_shut 57 = .ok (.invokevirtual 103, 3) := by decide +kernel
theorem dX5_shut_60 : decode cX5_shut 60 = .ok (.ifCond .ne 6, 3) := by decide +kernel
theorem dX5_shut_63 : decode cX5_shut 63 = .ok (.goto 46, 3) := by decide +kernel
theorem dX5_shut_66 : decode cX5_shut 66 = .ok (.aload_n 0, 1) := by decide +kernel
theorem dX5_shut_67 : decode cX5_shut 67 = .ok (.getfield 16, 3) := by decide +kernel
theorem dX5_shut_70 : decode cX5_shut 70 = .ok (.aload_n 0, 1) := by decide +kernel
theorem dX5_shut_71 : decode cX5_shut 71 = .ok (.getfield 12, 3) := by decide +kernel
theorem dX5_shut_74 : decode cX5_shut 74 = .ok (.invokevirtual 76, 3) := by decide +kernel
theorem dX5_shut_77 : decode cX5_shut 77 = .ok (.aload_n 0, 1) := by decide +kernel
theorem dX5_shut_78 : decode cX5_shut 78 = .ok (.getfield 16, 3) := by decide +kernel
theorem dX5_shut_81 : decode cX5_shut 81 = .ok (.iload 4, 2) := by decide +kernel
theorem dX5_shut_83 : decode cX5_shut 83 = .ok (.invokevirtual 167, 3) := by decide +kernel
theorem dX5_shut_86 : decode cX5_shut 86 = .ok (.pop, 1) := by decide +kernel
theorem dX5_shut_87 : decode cX5_shut 87 = .ok (.aload_n 0, 1) := by decide +kernel
theorem dX5_shut_88 : decode cX5_shut 88 = .ok (.getfield 16, 3) := by decide +kernel
theorem dX5_shut_91 : decode cX5_shut 91 = .ok (.iload_n 1, 1) := by decide +kernel
theorem dX5_shut_92 : decode cX5_shut 92 = .ok (.invokevirtual 198, 3) := by decide +kernel
theorem dX5_shut_95 : decode cX5_shut 95 = .ok (.istore 5, 2) := by decide +kernel
theorem dX5_shut_97 : decode cX5_shut 97 = .ok (.iload 5, 2) := by decide +kernel
theorem dX5_shut_99 : decode cX5_shut 99 = .ok (.iload_n 3, 1) := by decide +kernel
theorem dX5_shut_100 : decode cX5_shut 100 = .ok (.if_icmp .ge 9, 3) := by decide +kernel
theorem dX5_shut_103 : decode cX5_shut 103 = .ok (.iload 5, 2) := by decide +kernel
theorem dX5_shut_105 : decode cX5_shut 105 = .ok (.istore_n 3, 1) := by decide +kernel
theorem dX5_shut_106 : decode cX5_shut 106 = .ok (.iload 4, 2) := by decide +kernel
theorem dX5_shut_108 : decode cX5_shut 108 = .ok (.istore_n 2, 1) := by decide +kernel
theorem dX5_shut_109 : decode cX5_shut 109 = .ok (.iinc 4 1, 3) := by decide +kernel
theorem dX5_shut_112 : decode cX5_shut 112 = .ok (.goto (-73), 3) := by decide +kernel
theorem dX5_shut_115 : decode cX5_shut 115 = .ok (.iload_n 2, 1) := by decide +kernel
theorem dX5_shut_116 : decode cX5_shut 116 = .ok (.ireturn, 1) := by decide +kernel
theorem dX5_trade_0 : decode cX5_trade 0 = .ok (.aload_n 0, 1) := by decide +kernel
theorem dX5_trade_1 : decode cX5_trade 1 = .ok (.getfield 12, 3) := by decide +kernel
theorem dX5_trade_4 : decode cX5_trade 4 = .ok (.iload_n 1, 1) := by decide +kernel
theorem dX5_trade_5 : decode cX5_trade 5 = .ok (.invokevirtual 119, 3) := by decide +kernel
theorem dX5_trade_8 : decode cX5_trade 8 = .ok (.ifCond .eq 14, 3) := by decide +kernel
theorem dX5_trade_11 : decode cX5_trade 11 = .ok (.aload_n 0, 1) := by decide +kernel
theorem dX5_trade_12 : decode cX5_trade 12 = .ok (.getfield 12, 3) := by decide +kernel
theorem dX5_trade_15 : decode cX5_trade 15 = .ok (.iload_n 2, 1) := by decide +kernel
theorem dX5_trade_16 : decode cX5_trade 16 = .ok (.invokevirtual 90, 3) := by decide +kernel
theorem dX5_trade_19 : decode cX5_trade 19 = .ok (.ifCond .ne 9, 3) := by decide +kernel
theorem dX5_trade_22 : decode cX5_trade 22 = .ok (.aload_n 0, 1) := by decide +kernel
theorem dX5_trade_23 : decode cX5_trade 23 = .ok (.iconst (-1), 1) := by decide +kernel
theorem dX5_trade_24 : decode cX5_trade 24 = .ok (.invokevirtual 65, 3) := by decide +kernel
theorem dX5_trade_27 : decode cX5_trade 27 = .ok (.ireturn, 1) := by decide +kernel
theorem dX5_trade_28 : decode cX5_trade 28 = .ok (.aload_n 0, 1) := by decide +kernel
theorem dX5_trade_29 : decode cX5_trade 29 = .ok (.getfield 12, 3) := by decide +kernel
theorem dX5_trade_32 : decode cX5_trade 32 = .ok (.iload_n 1, 1) := by decide +kernel
theorem dX5_trade_33 : decode cX5_trade 33 = .ok (.iload_n 2, 1) := by decide +kernel
theorem dX5_trade_34 : decode cX5_trade 34 = .ok (.invokevirtual 140, 3) := by decide +kernel
theorem dX5_trade_37 : decode cX5_trade 37 = .ok (.ifCond .ne 10, 3) := by decide +kernel
theorem dX5_trade_40 : decode cX5_trade 40 = .ok (.aload_n 0, 1) := by decide +kernel
theorem dX5_trade_41 : decode cX5_trade 41 = .ok (.bipush (-3), 2) := by decide +kernel
theorem dX5_trade_43 : decode cX5_trade 43 = .ok (.invokevirtual 65, 3) := by decide +kernel
theorem dX5_trade_46 : decode cX5_trade 46 = .ok (.ireturn, 1) := by decide +kernel
theorem dX5_trade_47 : decode cX5_trade 47 = .ok (.bipush (-9), 2) := by decide +kernel
theorem dX5_trade_49 : decode cX5_trade 49 = .ok (.istore_n 3, 1) := by decide +kernel
theorem dX5_trade_50 : decode cX5_trade 50 = .ok (.aload_n 0, 1) := by decide +kernel
theorem dX5_trade_51 : decode cX5_trade 51 = .ok (.getfield 12, 3) := by decide +kernel
theorem dX5_trade_54 : decode cX5_trade 54 = .ok (.invokevirtual 247, 3) := by decide +kernel
theorem dX5_trade_57 : decode cX5_trade 57 = .ok (.istore 4, 2) := by decide +kernel
theorem dX5_trade_59 : decode cX5_trade 59 = .ok (.iconst 0, 1) := by decide +kernel
theorem dX5_trade_60 : decode cX5_trade 60 = .ok (.istore 5, 2) := by decide +kernel
theorem dX5_trade_62 : decode cX5_trade 62 = .ok (.iload 5, 2) := by decide +kernel
theorem dX5_trade_64 : decode cX5_trade 64 = .ok (.aload_n 0, 1) := by decide +kernel
theorem dX5_trade_65 : decode cX5_trade 65 = .ok (.getfield 12, 3) := by decide +kernel
theorem dX5_trade_68 : decode cX5_trade 68 = .ok (.getfield 158, 3) := by decide +kernel
theorem dX5_trade_71 : decode cX5_trade 71 = .ok (.if_icmp .ge 89, 3) := by decide +kernel
theorem dX5_trade_74 : decode cX5_trade 74 = .ok (.aload_n 0, 1) := by decide +kernel
theorem dX5_trade_75 : decode cX5_trade 75 = .ok (.getfield 12, 3) := by decide +kernel
theorem dX5_trade_78 : decode cX5_trade 78 = .ok (.iload 5, 2) := by decide +kernel
theorem dX5_trade_80 : decode cX5_trade 80 = .ok (.iload_n 2, 1) := by decide +kernel
theorem dX5_trade_81 : decode cX5_trade 81 = .ok (.invokevirtual 140, 3) := by decide +kernel
theorem dX5_trade_84 : decode cX5_trade 84 = .ok (.ifCond .eq 6, 3) := by decide +kernel
theorem dX5_trade_87 : decode cX5_trade 87 = .ok (.goto 67, 3) := by decide +kernel
theorem dX5_trade_90 : decode cX5_trade 90 = .ok (.aload_n 0, 1) := by decide +kernel
theorem dX5_trade_91 : decode cX5_trade 91 = .ok (.getfield 16, 3) := by decide +kernel
theorem dX5_trade_94 : decode cX5_trade 94 = .ok (.aload_n 0, 1) := by decide +kernel
theorem dX5_trade_95 : decode cX5_trade 95 = .ok (.getfield 12, 3) := by decide +kernel
theorem dX5_trade_98 : decode cX5_trade 98 = .ok (.invokevirtual 76, 3) := by decide +kernel
theorem dX5_trade_101 : decode cX5_trade 101 = .ok (.aload_n 0, 1) := by decide +kernel
theorem dX5_trade_102 : decode cX5_trade 102 = .ok (.getfield 16, 3) := by decide +kernel
theorem dX5_trade_105 : decode cX5_trade 105 = .ok (.iload_n 1, 1) := by decide +kernel
theorem dX5_trade_106 : decode cX5_trade 106 = .ok (.iload_n 2, 1) := by decide +kernel
theorem dX5_trade_107 : decode cX5_trade 107 = .ok (.iconst (-1), 1) := by decide +kernel
theorem dX5_trade_108 : decode cX5_trade 108 = .ok (.invokevirtual 176, 3) := by decide +kernel
theorem dX5_trade_111 : decode cX5_trade 111 = .ok (.aload_n 0, 1) := by decide +kernel
theorem dX5_trade_112 : decode cX5_trade 112 = .ok (.getfield 16, 3) := by decide +kernel
theorem dX5_trade_115 : decode cX5_trade 115 = .ok (.iload 5, 2) := by decide +kernel
theorem dX5_trade_117 : decode cX5_trade 117 = .ok (.iload_n 2, 1) := by decide +kernel
theorem dX5_trade_118 : decode cX5_trade 118 = .ok (.aload_n 0, 1) := by decide +kernel
theorem dX5_trade_119 : decode cX5_trade 119 = .ok (.getfield 12, 3) := by decide +kernel
theorem dX5_trade_122 : decode cX5_trade 122 = .ok (.iload_n 1, 1) := by decide +kernel
theorem dX5_trade_123 : decode cX5_trade 123 = .ok (.iload_n 2, 1) := by decide +kernel
theorem dX5_trade_124 : decode cX5_trade 124 = .ok (.iconst 0, 1) := by decide +kernel
theorem dX5_trade_125 : decode cX5_trade 125 = .ok (.invokevirtual 144, 3) := by decide +kernel
theorem dX5_trade_128 : decode cX5_trade 128 = .ok (.invokevirtual 176, 3) := by decide +kernel
theorem dX5_trade_131 : decode cX5_trade 131 = .ok (.aload_n 0, 1) := by decide +kernel
theorem dX5_trade_132 : decode cX5_trade 132 = .ok (.getfield 16, 3) := by decide +kernel
theorem dX5_trade_135 : decode cX5_trade 135 = .ok (.invokevirtual 247, 3) := by decide +kernel
theorem dX5_trade_138 : decode cX5_trade 138 = .ok (.istore 6, 2) := by decide +kernel
theorem dX5_trade_140 : decode cX5_trade 140 = .ok (.iload 6, 2) := by decide +kernel
theorem dX5_trade_142 : decode cX5_trade 142 = .ok (.iload 4, 2) := by decide +kernel
theorem dX5_trade_144 : decode cX5_trade 144 = .ok (.if_icmp .ge 10, 3) := by decide +kernel
theorem dX5_trade_147 : decode cX5_trade 147 = .ok (.iload 6, 2) := by decide +kernel
theorem dX5_trade_149 : decode cX5_trade 149 = .ok (.istore 4, 2) := by decide +kernel
theorem dX5_trade_151 : decode cX5_trade 151 = .ok (.iload 5, 2) := by decide +kernel
theorem dX5_trade_153 : decode cX5_trade 153 = .ok (.istore_n 3, 1) := by decide +kernel
theorem dX5_trade_154 : decode cX5_trade 154 = .ok (.iinc 5 1, 3) := by decide +kernel
theorem dX5_trade_157 : decode cX5_trade 157 = .ok (.goto (-95), 3) := by decide +kernel
theorem dX5_trade_160 : decode cX5_trade 160 = .ok (.iload_n 3, 1) := by decide +kernel
theorem dX5_trade_161 : decode cX5_trade 161 = .ok (.ireturn, 1) := by decide +kernel
theorem dX5_whoWent_0 : decode cX5_whoWent 0 = .ok (.aload_n 0, 1) := by decide +kernel
theorem dX5_whoWent_1 : decode cX5_whoWent 1 = .ok (.getfield 12, 3) := by decide +kernel
theorem dX5_whoWent_4 : decode cX5_whoWent 4 = .ok (.iload_n 1, 1) := by decide +kernel
theorem dX5_whoWent_5 : decode cX5_whoWent 5 = .ok (.invokevirtual 90, 3) := by decide +kernel
theorem dX5_whoWent_8 : decode cX5_whoWent 8 = .ok (.ifCond .ne 9, 3) := by decide +kernel
theorem dX5_whoWent_11 : decode cX5_whoWent 11 = .ok (.aload_n 0, 1) := by decide +kernel
theorem dX5_whoWent_12 : decode cX5_whoWent 12 = .ok (.iconst (-1), 1) := by decide +kernel
theorem dX5_whoWent_13 : decode cX5_whoWent 13 = .ok (.invokevirtual 65, 3) := by decide +kernel
theorem dX5_whoWent_16 : decode cX5_whoWent 16 = .ok (.ireturn, 1) := by decide +kernel
theorem dX5_whoWent_17 : decode cX5_whoWent 17 = .ok (.iconst 0, 1) := by decide +kernel
theorem dX5_whoWent_18 : decode cX5_whoWent 18 = .ok (.istore_n 2, 1) := by decide +kernel
theorem dX5_whoWent_19 : decode cX5_whoWent 19 = .ok (.iconst 0, 1) := by decide +kernel
theorem dX5_whoWent_20 : decode cX5_whoWent 20 = .ok (.istore_n 3, 1) := by decide +kernel
theorem dX5_whoWent_21 : decode cX5_whoWent 21 = .ok (.iload_n 3, 1) := by decide +kernel
theorem dX5_whoWent_22 : decode cX5_whoWent 22 = .ok (.aload_n 0, 1) := by decide +kernel
theorem dX5_whoWent_23 : decode cX5_whoWent 23 = .ok (.getfield 12, 3) := by decide +kernel
theorem dX5_whoWent_26 : decode cX5_whoWent 26 = .ok (.getfield 158, 3) := by decide +kernel
theorem dX5_whoWent_29 : decode cX5_whoWent 29 = .ok (.if_icmp .ge 48, 3) := by decide +kernel
theorem dX5_whoWent_32 : decode cX5_whoWent 32 = .ok (.aload_n 0, 1) := by decide +kernel
theorem dX5_whoWent_33 : decode cX5_whoWent 33 = .ok (.getfield 12, 3) := by decide +kernel
theorem dX5_whoWent_36 : decode cX5_whoWent 36 = .ok (.getfield 122, 3) := by decide +kernel
theorem dX5_whoWent_39 : decode cX5_whoWent 39 = .ok (.iload_n 3, 1) := by decide +kernel
theorem dX5_whoWent_40 : decode cX5_whoWent 40 = .ok (.iaload, 1) := by decide +kernel
theorem dX5_whoWent_41 : decode cX5_whoWent 41 = .ok (.aload_n 0, 1) := by decide +kernel
theorem dX5_whoWent_42 : decode cX5_whoWent 42 = .ok (.getfield 12, 3) := by decide +kernel
theorem dX5_whoWent_45 : decode cX5_whoWent 45 = .ok (.getfield 100, 3) := by decide +kernel
theorem dX5_whoWent_48 : decode cX5_whoWent 48 = .ok (.iload_n 1, 1) := by decide +kernel
theorem dX5_whoWent_49 : decode cX5_whoWent 49 = .ok (.iaload, 1) := by decide +kernel
theorem dX5_whoWent_50 : decode cX5_whoWent 50 = .ok (.if_icmp .ne 21, 3) := by decide +kernel
theorem dX5_whoWent_53 : decode cX5_whoWent 53 = .ok (.aload_n 0, 1) := by decide +kernel
theorem dX5_whoWent_54 : decode cX5_whoWent 54 = .ok (.getfield 12, 3) := by decide +kernel
theorem dX5_whoWent_57 : decode cX5_whoWent 57 = .ok (.iload_n 3, 1) := by decide +kernel
theorem dX5_whoWent_58 : decode cX5_whoWent 58 = .ok (.iload_n 1, 1) := by decide +kernel
theorem dX5_whoWent_59 : decode cX5_whoWent 59 = .ok (.invokevirtual 140, 3) := by decide +kernel
theorem dX5_whoWent_62 : decode cX5_whoWent 62 = .ok (.ifCond .eq 9, 3) := by decide +kernel
theorem dX5_whoWent_65 : decode cX5_whoWent 65 = .ok (.iload_n 2, 1) := by decide +kernel
theorem dX5_whoWent_66 : decode cX5_whoWent 66 = .ok (.iconst 1, 1) := by decide +kernel
theorem dX5_whoWent_67 : decode cX5_whoWent 67 = .ok (.iload_n 3, 1) := by decide +kernel
theorem dX5_whoWent_68 : decode cX5_whoWent 68 = .ok (.ishl, 1) := by decide +kernel
theorem dX5_whoWent_69 : decode cX5_whoWent 69 = .ok (.ior, 1) := by decide +kernel
theorem dX5_whoWent_70 : decode cX5_whoWent 70 = .ok (.istore_n 2, 1) := by decide +kernel
theorem dX5_whoWent_71 : decode cX5_whoWent 71 = .ok (.iinc 3 1, 3) := by decide +kernel
theorem dX5_whoWent_74 : decode cX5_whoWent 74 = .ok (.goto (-53), 3) := by decide +kernel
theorem dX5_whoWent_77 : decode cX5_whoWent 77 = .ok (.iload_n 2, 1) := by decide +kernel
theorem dX5_whoWent_78 : decode cX5_whoWent 78 = .ok (.ireturn, 1) := by decide +kernel
theorem dX5_spread_0 : decode cX5_spread 0 = .ok (.iload_n 1, 1) := by decide +kernel
theorem dX5_spread_1 : decode cX5_spread 1 = .ok (.ifCond .eq 15, 3) := by decide +kernel
theorem dX5_spread_4 : decode cX5_spread 4 = .ok (.iload_n 1, 1) := by decide +kernel
theorem dX5_spread_5 : decode cX5_spread 5 = .ok (.iconst 1, 1) := by decide +kernel
theorem dX5_spread_6 : decode cX5_spread 6 = .ok (.if_icmp .eq 10, 3) := by decide +kernel
theorem dX5_spread_9 : decode cX5_spread 9 = .ok (.aload_n 0, 1) := by decide +kernel
theorem dX5_spread_10 : decode cX5_spread 10 = .ok (.bipush (-2), 2) := by decide +kernel
theorem dX5_spread_12 : decode cX5_spread 12 = .ok (.invokevirtual 65, 3) := by decide +kernel
theorem dX5_spread_15 : decode cX5_spread 15 = .ok (.ireturn, 1) := by decide +kernel
theorem dX5_spread_16 : decode cX5_spread 16 = .ok (.iload_n 1, 1) := by decide +kernel
theorem dX5_spread_17 : decode cX5_spread 17 = .ok (.ifCond .ne 10, 3) := by decide +kernel
theorem dX5_spread_20 : decode cX5_spread 20 = .ok (.aload_n 0, 1) := by decide +kernel
theorem dX5_spread_21 : decode cX5_spread 21 = .ok (.invokevirtual 250, 3) := by decide +kernel
theorem dX5_spread_24 : decode cX5_spread 24 = .ok (.goto 7, 3) := by decide +kernel
theorem dX5_spread_27 : decode cX5_spread 27 = .ok (.aload_n 0, 1) := by decide +kernel
theorem dX5_spread_28 : decode cX5_spread 28 = .ok (.invokevirtual 253, 3) := by decide +kernel
theorem dX5_spread_31 : decode cX5_spread 31 = .ok (.ireturn, 1) := by decide +kernel
theorem dX5_whatKind_0 : decode cX5_whatKind 0 = .ok (.aload_n 0, 1) := by decide +kernel
theorem dX5_whatKind_1 : decode cX5_whatKind 1 = .ok (.getfield 12, 3) := by decide +kernel
theorem dX5_whatKind_4 : decode cX5_whatKind 4 = .ok (.iload_n 1, 1) := by decide +kernel
theorem dX5_whatKind_5 : decode cX5_whatKind 5 = .ok (.invokevirtual 119, 3) := by decide +kernel
theorem dX5_whatKind_8 : decode cX5_whatKind 8 = .ok (.ifCond .eq 14, 3) := by decide +kernel
theorem dX5_whatKind_11 : decode cX5_whatKind 11 = .ok (.aload_n 0, 1) := by decide +kernel
theorem dX5_whatKind_12 : decode cX5_whatKind 12 = .ok (.getfield 12, 3) := by decide +kernel
theorem dX5_whatKind_15 : decode cX5_whatKind 15 = .ok (.iload_n 2, 1) := by decide +kernel
theorem dX5_whatKind_16 : decode cX5_whatKind 16 = .ok (.invokevirtual 90, 3) := by decide +kernel
theorem dX5_whatKind_19 : decode cX5_whatKind 19 = .ok (.ifCond .ne 9, 3) := by decide +kernel
theorem dX5_whatKind_22 : decode cX5_whatKind 22 = .ok (.aload_n 0, 1) := by decide +kernel
theorem dX5_whatKind_23 : decode cX5_whatKind 23 = .ok (.iconst (-1), 1) := by decide +kernel
theorem dX5_whatKind_24 : decode cX5_whatKind 24 = .ok (.invokevirtual 65, 3) := by decide +kernel
theorem dX5_whatKind_27 : decode cX5_whatKind 27 = .ok (.ireturn, 1) := by decide +kernel
theorem dX5_whatKind_28 : decode cX5_whatKind 28 = .ok (.iload_n 3, 1) := by decide +kernel
theorem dX5_whatKind_29 : decode cX5_whatKind 29 = .ok (.ifCond .eq 15, 3) := by decide +kernel
theorem dX5_whatKind_32 : decode cX5_whatKind 32 = .ok (.iload_n 3, 1) := by decide +kernel
theorem dX5_whatKind_33 : decode cX5_whatKind 33 = .ok (.iconst 1, 1) := by decide +kernel
theorem dX5_whatKind_34 : decode cX5_whatKind 34 = .ok (.if_icmp .eq 10, 3) := by decide +kernel
theorem dX5_whatKind_37 : decode cX5_whatKind 37 = .ok (.aload_n 0, 1) := by decide +kernel
theorem dX5_whatKind_38 : decode cX5_whatKind 38 = .ok (.bipush (-2), 2) := by decide +kernel
theorem dX5_whatKind_40 : decode cX5_whatKind 40 = .ok (.invokevirtual 65, 3) := by decide +kernel
theorem dX5_whatKind_43 : decode cX5_whatKind 43 = .ok (.ireturn, 1) := by decide +kernel
theorem dX5_whatKind_44 : decode cX5_whatKind 44 = .ok (.iload_n 3, 1) := by decide +kernel
theorem dX5_whatKind_45 : decode cX5_whatKind 45 = .ok (.ifCond .ne 12, 3) := by decide +kernel
theorem dX5_whatKind_48 : decode cX5_whatKind 48 = .ok (.aload_n 0, 1) := by decide +kernel
theorem dX5_whatKind_49 : decode cX5_whatKind 49 = .ok (.iload_n 1, 1) := by decide +kernel
theorem dX5_whatKind_50 : decode cX5_whatKind 50 = .ok (.iload_n 2, 1) := by decide +kernel
theorem dX5_whatKind_51 : decode cX5_whatKind 51 = .ok (.invokevirtual 256, 3) := by decide +kernel
theorem dX5_whatKind_54 : decode cX5_whatKind 54 = .ok (.goto 9, 3) := by decide +kernel
theorem dX5_whatKind_57 : decode cX5_whatKind 57 = .ok (.aload_n 0, 1) := by decide +kernel
theorem dX5_whatKind_58 : decode cX5_whatKind 58 = .ok (.iload_n 1, 1) := by decide +kernel
theorem dX5_whatKind_59 : decode cX5_whatKind 59 = .ok (.iload_n 2, 1) := by decide +kernel
theorem dX5_whatKind_60 : decode cX5_whatKind 60 = .ok (.invokevirtual 259, 3) := by decide +kernel
theorem dX5_whatKind_63 : decode cX5_whatKind 63 = .ok (.ireturn, 1) := by decide +kernel
theorem dX5_two_0 : decode cX5_two 0 = .ok (.aload_n 0, 1) := by decide +kernel
theorem dX5_two_1 : decode cX5_two 1 = .ok (.getfield 12, 3) := by decide +kernel
theorem dX5_two_4 : decode cX5_two 4 = .ok (.iload_n 1, 1) := by decide +kernel
theorem dX5_two_5 : decode cX5_two 5 = .ok (.invokevirtual 90, 3) := by decide +kernel
theorem dX5_two_8 : decode cX5_two 8 = .ok (.ifCond .eq 19, 3) := by decide +kernel
theorem dX5_two_11 : decode cX5_two 11 = .ok (.aload_n 0, 1) := by decide +kernel
theorem dX5_two_12 : decode cX5_two 12 = .ok (.getfield 12, 3) := by decide +kernel
theorem dX5_two_15 : decode cX5_two 15 = .ok (.iload_n 2, 1) := by decide +kernel
theorem dX5_two_16 : decode cX5_two 16 = .ok (.invokevirtual 90, 3) := by decide +kernel
theorem dX5_two_19 : decode cX5_two 19 = .ok (.ifCond .eq 8, 3) := by decide +kernel
theorem dX5_two_22 : decode cX5_two 22 = .ok (.iload_n 1, 1) := by decide +kernel
theorem dX5_two_23 : decode cX5_two 23 = .ok (.iload_n 2, 1) := by decide +kernel
theorem dX5_two_24 : decode cX5_two 24 = .ok (.if_icmp .ne 9, 3) := by decide +kernel
theorem dX5_two_27 : decode cX5_two 27 = .ok (.aload_n 0, 1) := by decide +kernel
theorem dX5_two_28 : decode cX5_two 28 = .ok (.iconst (-1), 1) := by decide +kernel
theorem dX5_two_29 : decode cX5_two 29 = .ok (.invokevirtual 65, 3) := by decide +kernel
theorem dX5_two_32 : decode cX5_two 32 = .ok (.ireturn, 1) := by decide +kernel
theorem dX5_two_33 : decode cX5_two 33 = .ok (.iload_n 3, 1) := by decide +kernel
theorem dX5_two_34 : decode cX5_two 34 = .ok (.ifCond .ge 10, 3) := by decide +kernel
theorem dX5_two_37 : decode cX5_two 37 = .ok (.aload_n 0, 1) := by decide +kernel
theorem dX5_two_38 : decode cX5_two 38 = .ok (.bipush (-4), 2) := by decide +kernel
theorem dX5_two_40 : decode cX5_two 40 = .ok (.invokevirtual 65, 3) := by decide +kernel
theorem dX5_two_43 : decode cX5_two 43 = .ok (.ireturn, 1) := by decide +kernel
theorem dX5_two_44 : decode cX5_two 44 = .ok (.iload_n 3, 1) := by decide +kernel
theorem dX5_two_45 : decode cX5_two 45 = .ok (.bipush 60, 2) := by decide +kernel
theorem dX5_two_47 : decode cX5_two 47 = .ok (.if_icmp .le 10, 3) := by decide +kernel
theorem dX5_two_50 : decode cX5_two 50 = .ok (.aload_n 0, 1) := by decide +kernel
theorem dX5_two_51 : decode cX5_two 51 = .ok (.bipush (-6), 2) := by decide +kernel
theorem dX5_two_53 : decode cX5_two 53 = .ok (.invokevirtual 65, 3) := by decide +kernel
theorem dX5_two_56 : decode cX5_two 56 = .ok (.ireturn, 1) := by decide +kernel
theorem dX5_two_57 : decode cX5_two 57 = .ok (.bipush 10, 2) := by decide +kernel
theorem dX5_two_59 : decode cX5_two 59 = .ok (.aload_n 0, 1) := by decide +kernel
theorem dX5_two_60 : decode cX5_two 60 = .ok (.iload_n 1, 1) := by decide +kernel
theorem dX5_two_61 : decode cX5_two 61 = .ok (.iload_n 3, 1) := by decide +kernel
theorem dX5_two_62 : decode cX5_two 62 = .ok (.invokevirtual 262, 3) := by decide +kernel
theorem dX5_two_65 : decode cX5_two 65 = .ok (.imul, 1) := by decide +kernel
theorem dX5_two_66 : decode cX5_two 66 = .ok (.aload_n 0, 1) := by decide +kernel
theorem dX5_two_67 : decode cX5_two 67 = .ok (.iload_n 2, 1) := by decide +kernel
theorem dX5_two_68 : decode cX5_two 68 = .ok (.iload_n 3, 1) := by decide +kernel
theorem dX5_two_69 : decode cX5_two 69 = .ok (.invokevirtual 262, 3) := by decide +kernel
theorem dX5_two_72 : decode cX5_two 72 = .ok (.iadd, 1) := by decide +kernel
theorem dX5_two_73 : decode cX5_two 73 = .ok (.ireturn, 1) := by decide +kernel
theorem dX5_mist_0 : decode cX5_mist 0 = .ok (.aload_n 0, 1) := by decide +kernel
theorem dX5_mist_1 : decode cX5_mist 1 = .ok (.getfield 12, 3) := by decide +kernel
theorem dX5_mist_4 : decode cX5_mist 4 = .ok (.iload_n 1, 1) := by decide +kernel
theorem dX5_mist_5 : decode cX5_mist 5 = .ok (.invokevirtual 119, 3) := by decide +kernel
theorem dX5_mist_8 : decode cX5_mist 8 = .ok (.ifCond .eq 14, 3) := by decide +kernel
theorem dX5_mist_11 : decode cX5_mist 11 = .ok (.aload_n 0, 1) := by decide +kernel
theorem dX5_mist_12 : decode cX5_mist 12 = .ok (.getfield 12, 3) := by decide +kernel
theorem dX5_mist_15 : decode cX5_mist 15 = .ok (.iload_n 2, 1) := by decide +kernel
theorem dX5_mist_16 : decode cX5_mist 16 = .ok (.invokevirtual 90, 3) := by decide +kernel
theorem dX5_mist_19 : decode cX5_mist 19 = .ok (.ifCond .ne 9, 3) := by decide +kernel
theorem dX5_mist_22 : decode cX5_mist 22 = .ok (.aload_n 0, 1) := by decide +kernel
theorem dX5_mist_23 : decode cX5_mist 23 = .ok (.iconst (-1), 1) := by decide +kernel
theorem dX5_mist_24 : decode cX5_mist 24 = .ok (.invokevirtual 265, 3) := by decide +kernel
theorem dX5_mist_27 : decode cX5_mist 27 = .ok (.lreturn, 1) := by decide +kernel
theorem dX5_mist_28 : decode cX5_mist 28 = .ok (.iload_n 3, 1) := by decide +kernel
theorem dX5_mist_29 : decode cX5_mist 29 = .ok (.ifCond .lt 9, 3) := by decide +kernel
theorem dX5_mist_32 : decode cX5_mist 32 = .ok (.iload 4, 2) := by decide +kernel
theorem dX5_mist_34 : decode cX5_mist 34 = .ok (.iconst 2, 1) := by decide +kernel
theorem dX5_mist_35 : decode cX5_mist 35 = .ok (.if_icmp .ge 10, 3) := by decide +kernel
theorem dX5_mist_38 : decode cX5_mist 38 = .ok (.aload_n 0, 1) := by decide +kernel
theorem dX5_mist_39 : decode cX5_mist 39 = .ok (.bipush (-4), 2) := by decide +kernel
theorem dX5_mist_41 : decode cX5_mist 41 = .ok (.invokevirtual 265, 3) := by decide +kernel
theorem dX5_mist_44 : decode cX5_mist 44 = .ok (.lreturn, 1) := by decide +kernel
theorem dX5_mist_45 : decode cX5_mist 45 = .ok (.iload_n 3, 1) := by decide +kernel
theorem dX5_mist_46 : decode cX5_mist 46 = .ok (.bipush 7, 2) := by decide +kernel
theorem dX5_mist_48 : decode cX5_mist 48 = .ok (.if_icmp .gt 10, 3) := by decide +kernel
theorem dX5_mist_51 : decode cX5_mist 51 = .ok (.iload 4, 2) := by decide +kernel
theorem dX5_mist_53 : decode cX5_mist 53 = .ok (.bipush 20, 2) := by decide +kernel
theorem dX5_mist_55 : decode cX5_mist 55 = .ok (.if_icmp .le 10, 3) := by decide +kernel
theorem dX5_mist_58 : decode cX5_mist 58 = .ok (.aload_n 0, 1) := by decide +kernel
theorem dX5_mist_59 : decode cX5_mist 59 = .ok (.bipush (-6), 2) := by decide +kernel
theorem dX5_mist_61 : decode cX5_mist 61 = .ok (.invokevirtual 265, 3) := by decide +kernel
theorem dX5_mist_64 : decode cX5_mist 64 = .ok (.lreturn, 1) := by decide +kernel
theorem dX5_mist_65 : decode cX5_mist 65 = .ok (.iload 5, 2) := by decide +kernel
theorem dX5_mist_67 : decode cX5_mist 67 = .ok (.ifCond .eq 16, 3) := by decide +kernel
theorem dX5_mist_70 : decode cX5_mist 70 = .ok (.iload 5, 2) := by decide +kernel
theorem dX5_mist_72 : decode cX5_mist 72 = .ok (.iconst 1, 1) := by decide +kernel
theorem dX5_mist_73 : decode cX5_mist 73 = .ok (.if_icmp .eq 10, 3) := by decide +kernel
theorem dX5_mist_76 : decode cX5_mist 76 = .ok (.aload_n 0, 1) := by decide +kernel
theorem dX5_mist_77 : decode cX5_mist 77 = .ok (.bipush (-2), 2) := by decide +kernel
theorem dX5_mist_79 : decode cX5_mist 79 = .ok (.invokevirtual 265, 3) := by decide +kernel
theorem dX5_mist_82 : decode cX5_mist 82 = .ok (.lreturn, 1) := by decide +kernel
theorem dX5_mist_83 : decode cX5_mist 83 = .ok (.aload_n 0, 1) := by decide +kernel
theorem dX5_mist_84 : decode cX5_mist 84 = .ok (.getfield 12, 3) := by decide +kernel
theorem dX5_mist_87 : decode cX5_mist 87 = .ok (.iload_n 1, 1) := by decide +kernel
theorem dX5_mist_88 : decode cX5_mist 88 = .ok (.iload_n 2, 1) := by decide +kernel
theorem dX5_mist_89 : decode cX5_mist 89 = .ok (.invokevirtual 140, 3) := by decide +kernel
theorem dX5_mist_92 : decode cX5_mist 92 = .ok (.ifCond .eq 5, 3) := by decide +kernel
theorem dX5_mist_95 : decode cX5_mist 95 = .ok (.lconst 1, 1) := by decide +kernel
theorem dX5_mist_96 : decode cX5_mist 96 = .ok (.lreturn, 1) := by decide +kernel
theorem dX5_mist_97 : decode cX5_mist 97 = .ok (.aload_n 0, 1) := by decide +kernel
theorem dX5_mist_98 : decode cX5_mist 98 = .ok (.getfield 12, 3) := by decide +kernel
theorem dX5_mist_101 : decode cX5_mist 101 = .ok (.iload_n 1, 1) := by decide +kernel
theorem dX5_mist_102 : decode cX5_mist 102 = .ok (.iload_n 2, 1) := by decide +kernel
theorem dX5_mist_103 : decode cX5_mist 103 = .ok (.iload_n 3, 1) := by decide +kernel
theorem dX5_mist_104 : decode cX5_mist 104 = .ok (.invokevirtual 269, 3) := by decide +kernel
theorem dX5_mist_107 : decode cX5_mist 107 = .ok (.istore 6, 2) := by decide +kernel
theorem dX5_mist_109 : decode cX5_mist 109 = .ok (.lconst 1, 1) := by decide +kernel
theorem dX5_mist_110 : decode cX5_mist 110 = .ok (.lstore 7, 2) := by decide +kernel
theorem dX5_mist_112 : decode cX5_mist 112 = .ok (.iconst 0, 1) := by decide +kernel
theorem dX5_mist_113 : decode cX5_mist 113 = .ok (.istore 9, 2) := by decide +kernel
theorem dX5_mist_115 : decode cX5_mist 115 = .ok (.iload 9, 2) := by decide +kernel
theorem dX5_mist_117 : decode cX5_mist 117 = .ok (.iload 6, 2) := by decide +kernel
theorem dX5_mist_119 : decode cX5_mist 119 = .ok (.if_icmp .ge 17, 3) := by decide +kernel
theorem dX5_mist_122 : decode cX5_mist 122 = .ok (.lload 7, 2) := by decide +kernel
theorem dX5_mist_124 : decode cX5_mist 124 = .ok (.iload 4, 2) := by decide +kernel
theorem dX5_mist_126 : decode cX5_mist 126 = .ok (.i2l, 1) := by decide +kernel
theorem dX5_mist_127 : decode cX5_mist 127 = .ok (.lmul, 1) := by decide +kernel
theorem dX5_mist_128 : decode cX5_mist 128 = .ok (.lstore 7, 2) := by decide +kernel
theorem dX5_mist_130 : decode cX5_mist 130 = .ok (.iinc 9 1, 3) := by decide +kernel
theorem dX5_mist_133 : decode cX5_mist 133 = .ok (.goto (-18), 3) := by decide +kernel
theorem dX5_mist_136 : decode cX5_mist 136 = .ok (.iload 5, 2) := by decide +kernel
theorem dX5_mist_138 : decode cX5_mist 138 = .ok (.ifCond .ne 10, 3) := by decide +kernel
theorem dX5_mist_141 : decode cX5_mist 141 = .ok (.lload 7, 2) := by decide +kernel
theorem dX5_mist_143 : decode cX5_mist 143 = .ok (.lconst 1, 1) := by decide +kernel
theorem dX5_mist_144 : decode cX5_mist 144 = .ok (.lsub, 1) := by decide +kernel
theorem dX5_mist_145 : decode cX5_mist 145 = .ok (.goto 5, 3) := by decide +kernel
theorem dX5_mist_148 : decode cX5_mist 148 = .ok (.lload 7, 2) := by decide +kernel
theorem dX5_mist_150 : decode cX5_mist 150 = .ok (.lreturn, 1) := by decide +kernel
theorem dX5_oldest_0 : decode cX5_oldest 0 = .ok (.iload_n 1, 1) := by decide +kernel
theorem dX5_oldest_1 : decode cX5_oldest 1 = .ok (.tableswitch 72 0 3 #[31, 40, 45, 50], 31) := by decide +kernel
theorem dX5_oldest_32 : decode cX5_oldest 32 = .ok (.iconst 0, 1) := by decide +kernel
theorem dX5_oldest_33 : decode cX5_oldest 33 = .ok (.aload_n 0, 1) := by decide +kernel
theorem dX5_oldest_34 : decode cX5_oldest 34 = .ok (.invokevirtual 272, 3) := by decide +kernel
theorem dX5_oldest_37 : decode cX5_oldest 37 = .ok (.invokestatic 275, 3) := by decide +kernel
theorem dX5_oldest_40 : decode cX5_oldest 40 = .ok (.ireturn, 1) := by decide +kernel
theorem dX5_oldest_41 : decode cX5_oldest 41 = .ok (.aload_n 0, 1) := by decide +kernel
theorem dX5_oldest_42 : decode cX5_oldest 42 = .ok (.invokevirtual 280, 3) := by decide +kernel
theorem dX5_oldest_45 : decode cX5_oldest 45 = .ok (.ireturn, 1) := by decide +kernel
theorem dX5_oldest_46 : decode cX5_oldest 46 = .ok (.aload_n 0, 1) := by decide +kernel
theorem dX5_oldest_47 : decode cX5_oldest 47 = .ok (.invokevirtual 283, 3) := by decide +kernel
theorem dX5_oldest_50 : decode cX5_oldest 50 = .ok (.ireturn, 1) := by decide +kernel
theorem dX5_oldest_51 : decode cX5_oldest 51 = .ok (.iconst 1, 1) := by decide +kernel
theorem dX5_oldest_52 : decode cX5_oldest 52 = .ok (.aload_n 0, 1) := by decide +kernel
theorem dX5_oldest_53 : decode cX5_oldest 53 = .ok (.getfield 12, 3) := by decide +kernel
theorem dX5_oldest_56 : decode cX5_oldest 56 = .ok (.getfield 148, 3) := by decide +kernel
theorem dX5_oldest_59 : decode cX5_oldest 59 = .ok (.ishl, 1) := by decide +kernel
theorem dX5_oldest_60 : decode cX5_oldest 60 = .ok (.iconst 1, 1) := by decide +kernel
theorem dX5_oldest_61 : decode cX5_oldest 61 = .ok (.isub, 1) := by decide +kernel
theorem dX5_oldest_62 : decode cX5_oldest 62 = .ok (.aload_n 0, 1) := by decide +kernel
theorem dX5_oldest_63 : decode cX5_oldest 63 = .ok (.getfield 12, 3) := by decide +kernel
theorem dX5_oldest_66 : decode cX5_oldest 66 = .ok (.getfield 286, 3) := by decide +kernel
theorem dX5_oldest_69 : decode cX5_oldest 69 = .ok (.iconst (-1), 1) := by decide +kernel
theorem dX5_oldest_70 : decode cX5_oldest 70 = .ok (.ixor, 1) := by decide +kernel
theorem dX5_oldest_71 : decode cX5_oldest 71 = .ok (.iand, 1) := by decide +kernel
theorem dX5_oldest_72 : decode cX5_oldest 72 = .ok (.ireturn, 1) := by decide +kernel
theorem dX5_oldest_73 : decode cX5_oldest 73 = .ok (.aload_n 0, 1) := by decide +kernel
theorem dX5_oldest_74 : decode cX5_oldest 74 = .ok (.bipush (-2), 2) := by decide +kernel
theorem dX5_oldest_76 : decode cX5_oldest 76 = .ok (.invokevirtual 65, 3) := by decide +kernel
theorem dX5_oldest_79 : decode cX5_oldest 79 = .ok (.ireturn, 1) := by decide +kernel
theorem dX5_mean_0 : decode cX5_mean 0 = .ok (.iload_n 1, 1) := by decide +kernel
theorem dX5_mean_1 : decode cX5_mean 1 = .ok (.ifCond .eq 15, 3) := by decide +kernel
theorem dX5_mean_4 : decode cX5_mean 4 = .ok (.iload_n 1, 1) := by decide +kernel
theorem dX5_mean_5 : decode cX5_mean 5 = .ok (.iconst 1, 1) := by decide +kernel
theorem dX5_mean_6 : decode cX5_mean 6 = .ok (.if_icmp .eq 10, 3) := by decide +kernel
theorem dX5_mean_9 : decode cX5_mean 9 = .ok (.aload_n 0, 1) := by decide +kernel
theorem dX5_mean_10 : decode cX5_mean 10 = .ok (.bipush (-2), 2) := by decide +kernel
theorem dX5_mean_12 : decode cX5_mean 12 = .ok (.invokevirtual 265, 3) := by decide +kernel
theorem dX5_mean_15 : decode cX5_mean 15 = .ok (.lreturn, 1) := by decide +kernel
theorem dX5_mean_16 : decode cX5_mean 16 = .ok (.aload_n 0, 1) := by decide +kernel
theorem dX5_mean_17 : decode cX5_mean 17 = .ok (.getfield 12, 3) := by decide +kernel
theorem dX5_mean_20 : decode cX5_mean 20 = .ok (.iconst 0, 1) := by decide +kernel
theorem dX5_mean_21 : decode cX5_mean 21 = .ok (.invokevirtual 198, 3) := by decide +kernel
theorem dX5_mean_24 : decode cX5_mean 24 = .ok (.istore_n 2, 1) := by decide +kernel
theorem dX5_mean_25 : decode cX5_mean 25 = .ok (.iconst 1, 1) := by decide +kernel
theorem dX5_mean_26 : decode cX5_mean 26 = .ok (.istore_n 3, 1) := by decide +kernel
theorem dX5_mean_27 : decode cX5_mean 27 = .ok (.iconst 2, 1) := by decide +kernel
theorem dX5_mean_28 : decode cX5_mean 28 = .ok (.istore 4, 2) := by decide +kernel
theorem dX5_mean_30 : decode cX5_mean 30 = .ok (.iload 4, 2) := by decide +kernel
theorem dX5_mean_32 : decode cX5_mean 32 = .ok (.aload_n 0, 1) := by decide +kernel
theorem dX5_mean_33 : decode cX5_mean 33 = .ok (.getfield 12, 3) := by decide +kernel
theorem dX5_mean_36 : decode cX5_mean 36 = .ok (.getfield 158, 3) := by decide +kernel
theorem dX5_mean_39 : decode cX5_mean 39 = .ok (.if_icmp .gt 32, 3) := by decide +kernel
theorem dX5_mean_42 : decode cX5_mean 42 = .ok (.iload_n 2, 1) := by decide +kernel
theorem dX5_mean_43 : decode cX5_mean 43 = .ok (.iload 4, 2) := by decide +kernel
theorem dX5_mean_45 : decode cX5_mean 45 = .ok (.irem, 1) := by decide +kernel
theorem dX5_mean_46 : decode cX5_mean 46 = .ok (.ifCond .ne 19, 3) := by decide +kernel
theorem dX5_mean_49 : decode cX5_mean 49 = .ok (.aload_n 0, 1) := by decide +kernel
theorem dX5_mean_50 : decode cX5_mean 50 = .ok (.getfield 12, 3) := by decide +kernel
theorem dX5_mean_53 : decode cX5_mean 53 = .ok (.getfield 158, 3) := by decide +kernel
theorem dX5_mean_56 : decode cX5_mean 56 = .ok (.iload 4, 2) := by decide +kernel
theorem dX5_mean_58 : decode cX5_mean 58 = .ok (.irem, 1) := by decide +kernel
theorem dX5_mean_59 : decode cX5_mean 59 = .ok (.ifCond .ne 6, 3) := by decide +kernel
theorem dX5_mean_62 : decode cX5_mean 62 = .ok (.iload 4, 2) := by decide +kernel
theorem dX5_mean_64 : decode cX5_mean 64 = .ok (.istore_n 3, 1) := by decide +kernel
theorem dX5_mean_65 : decode cX5_mean 65 = .ok (.iinc 4 1, 3) := by decide +kernel
theorem dX5_mean_68 : decode cX5_mean 68 = .ok (.goto (-38), 3) := by decide +kernel
theorem dX5_mean_71 : decode cX5_mean 71 = .ok (.iload_n 1, 1) := by decide +kernel
theorem dX5_mean_72 : decode cX5_mean 72 = .ok (.ifCond .ne 10, 3) := by decide +kernel
theorem dX5_mean_75 : decode cX5_mean 75 = .ok (.iload_n 2, 1) := by decide +kernel
theorem dX5_mean_76 : decode cX5_mean 76 = .ok (.iload_n 3, 1) := by decide +kernel
theorem dX5_mean_77 : decode cX5_mean 77 = .ok (.idiv, 1) := by decide +kernel
theorem dX5_mean_78 : decode cX5_mean 78 = .ok (.i2l, 1) := by decide +kernel
theorem dX5_mean_79 : decode cX5_mean 79 = .ok (.goto 17, 3) := by decide +kernel
theorem dX5_mean_82 : decode cX5_mean 82 = .ok (.iconst 1, 1) := by decide +kernel
theorem dX5_mean_83 : decode cX5_mean 83 = .ok (.aload_n 0, 1) := by decide +kernel
theorem dX5_mean_84 : decode cX5_mean 84 = .ok (.getfield 12, 3) := by decide +kernel
theorem dX5_mean_87 : decode cX5_mean 87 = .ok (.getfield 158, 3) := by decide +kernel
theorem dX5_mean_90 : decode cX5_mean 90 = .ok (.invokestatic 275, 3) := by decide +kernel
theorem dX5_mean_93 : decode cX5_mean 93 = .ok (.iload_n 3, 1) := by decide +kernel
theorem dX5_mean_94 : decode cX5_mean 94 = .ok (.idiv, 1) := by decide +kernel
theorem dX5_mean_95 : decode cX5_mean 95 = .ok (.i2l, 1) := by decide +kernel
theorem dX5_mean_96 : decode cX5_mean 96 = .ok (.lreturn, 1) := by decide +kernel
theorem dX5_forgiven_0 : decode cX5_forgiven 0 = .ok (.iconst 0, 1) := by decide +kernel
theorem dX5_forgiven_1 : decode cX5_forgiven 1 = .ok (.istore_n 1, 1) := by decide +kernel
theorem dX5_forgiven_2 : decode cX5_forgiven 2 = .ok (.iconst 0, 1) := by decide +kernel
theorem dX5_forgiven_3 : decode cX5_forgiven 3 = .ok (.istore_n 2, 1) := by decide +kernel
theorem dX5_forgiven_4 : decode cX5_forgiven 4 = .ok (.iload_n 2, 1) := by decide +kernel
theorem dX5_forgiven_5 : decode cX5_forgiven 5 = .ok (.aload_n 0, 1) := by decide +kernel
theorem dX5_forgiven_6 : decode cX5_forgiven 6 = .ok (.getfield 12, 3) := by decide +kernel
theorem dX5_forgiven_9 : decode cX5_forgiven 9 = .ok (.getfield 158, 3) := by decide +kernel
theorem dX5_forgiven_12 : decode cX5_forgiven 12 = .ok (.if_icmp .ge 66, 3) := by decide +kernel
theorem dX5_forgiven_15 : decode cX5_forgiven 15 = .ok (.iconst 0, 1) := by decide +kernel
theorem dX5_forgiven_16 : decode cX5_forgiven 16 = .ok (.istore_n 3, 1) := by decide +kernel
theorem dX5_forgiven_17 : decode cX5_forgiven 17 = .ok (.iload_n 3, 1) := by decide +kernel
theorem dX5_forgiven_18 : decode cX5_forgiven 18 = .ok (.aload_n 0, 1) := by decide +kernel
theorem dX5_forgiven_19 : decode cX5_forgiven 19 = .ok (.getfield 12, 3) := by decide +kernel
theorem dX5_forgiven_22 : decode cX5_forgiven 22 = .ok (.getfield 148, 3) := by decide +kernel
theorem dX5_forgiven_25 : decode cX5_forgiven 25 = .ok (.if_icmp .ge 47, 3) := by decide +kernel
theorem dX5_forgiven_28 : decode cX5_forgiven 28 = .ok (.aload_n 0, 1) := by decide +kernel
theorem dX5_forgiven_29 : decode cX5_forgiven 29 = .ok (.getfield 12, 3) := by decide +kernel
theorem dX5_forgiven_32 : decode cX5_forgiven 32 = .ok (.iload_n 2, 1) := by decide +kernel
theorem dX5_forgiven_33 : decode cX5_forgiven 33 = .ok (.iload_n 3, 1) := by decide +kernel
theorem dX5_forgiven_34 : decode cX5_forgiven 34 = .ok (.invokevirtual 140, 3) := by decide +kernel
theorem dX5_forgiven_37 : decode cX5_forgiven 37 = .ok (.ifCond .ne 6, 3) := by decide +kernel
theorem dX5_forgiven_40 : decode cX5_forgiven 40 = .ok (.goto 26, 3) := by decide +kernel
theorem dX5_forgiven_43 : decode cX5_forgiven 43 = .ok (.iload_n 1, 1) := by decide +kernel
theorem dX5_forgiven_44 : decode cX5_forgiven 44 = .ok (.aload_n 0, 1) := by decide +kernel
theorem dX5_forgiven_45 : decode cX5_forgiven 45 = .ok (.getfield 12, 3) := by decide +kernel
theorem dX5_forgiven_48 : decode cX5_forgiven 48 = .ok (.iload_n 2, 1) := by decide +kernel
theorem dX5_forgiven_49 : decode cX5_forgiven 49 = .ok (.iload_n 3, 1) := by decide +kernel
theorem dX5_forgiven_50 : decode cX5_forgiven 50 = .ok (.iconst 0, 1) := by decide +kernel
theorem dX5_forgiven_51 : decode cX5_forgiven 51 = .ok (.invokevirtual 173, 3) := by decide +kernel
theorem dX5_forgiven_54 : decode cX5_forgiven 54 = .ok (.aload_n 0, 1) := by decide +kernel
theorem dX5_forgiven_55 : decode cX5_forgiven 55 = .ok (.getfield 12, 3) := by decide +kernel
theorem dX5_forgiven_58 : decode cX5_forgiven 58 = .ok (.iload_n 3, 1) := by decide +kernel
theorem dX5_forgiven_59 : decode cX5_forgiven 59 = .ok (.iconst 0, 1) := by decide +kernel
theorem dX5_forgiven_60 : decode cX5_forgiven 60 = .ok (.invokevirtual 110, 3) := by decide +kernel
theorem dX5_forgiven_63 : decode cX5_forgiven 63 = .ok (.isub, 1) := by decide +kernel
theorem dX5_forgiven_64 : decode cX5_forgiven 64 = .ok (.iadd, 1) := by decide +kernel
theorem dX5_forgiven_65 : decode cX5_forgiven 65 = .ok (.istore_n 1, 1) := by decide +kernel
theorem dX5_forgiven_66 : decode cX5_forgiven 66 = .ok (.iinc 3 1, 3) := by decide +kernel
theorem dX5_forgiven_69 : decode cX5_forgiven 69 = .ok (.goto (-52), 3) := by decide +kernel
theorem dX5_forgiven_72 : decode cX5_forgiven 72 = .ok (.iinc 2 1, 3) := by decide +kernel
theorem dX5_forgiven_75 : decode cX5_forgiven 75 = .ok (.goto (-71), 3) := by decide +kernel
theorem dX5_forgiven_78 : decode cX5_forgiven 78 = .ok (.iload_n 1, 1) := by decide +kernel
theorem dX5_forgiven_79 : decode cX5_forgiven 79 = .ok (.ireturn, 1) := by decide +kernel
theorem dX5_nearest_0 : decode cX5_nearest 0 = .ok (.aload_n 0, 1) := by decide +kernel
theorem dX5_nearest_1 : decode cX5_nearest 1 = .ok (.getfield 12, 3) := by decide +kernel
theorem dX5_nearest_4 : decode cX5_nearest 4 = .ok (.iload_n 1, 1) := by decide +kernel
theorem dX5_nearest_5 : decode cX5_nearest 5 = .ok (.invokevirtual 119, 3) := by decide +kernel
theorem dX5_nearest_8 : decode cX5_nearest 8 = .ok (.ifCond .ne 9, 3) := by decide +kernel
theorem dX5_nearest_11 : decode cX5_nearest 11 = .ok (.aload_n 0, 1) := by decide +kernel
theorem dX5_nearest_12 : decode cX5_nearest 12 = .ok (.iconst (-1), 1) := by decide +kernel
theorem dX5_nearest_13 : decode cX5_nearest 13 = .ok (.invokevirtual 65, 3) := by decide +kernel
theorem dX5_nearest_16 : decode cX5_nearest 16 = .ok (.ireturn, 1) := by decide +kernel
theorem dX5_nearest_17 : decode cX5_nearest 17 = .ok (.bipush (-9), 2) := by decide +kernel
theorem dX5_nearest_19 : decode cX5_nearest 19 = .ok (.istore_n 2, 1) := by decide +kernel
theorem dX5_nearest_20 : decode cX5_nearest 20 = .ok (.bipush 49, 2) := by decide +kernel
theorem dX5_nearest_22 : decode cX5_nearest 22 = .ok (.istore_n 3, 1) := by decide +kernel
theorem dX5_nearest_23 : decode cX5_nearest 23 = .ok (.iconst 0, 1) := by decide +kernel
theorem dX5_nearest_24 : decode cX5_nearest 24 = .ok (.istore 4, 2) := by decide +kernel
theorem dX5_nearest_26 : decode cX5_nearest 26 = .ok (.iload 4, 2) := by decide +kernel
theorem dX5_nearest_28 : decode cX5_nearest 28 = .ok (.aload_n 0, 1) := by decide +kernel
theorem dX5_nearest_29 : decode cX5_nearest 29 = .ok (.getfield 12, 3) := by decide +kernel
theorem dX5_nearest_32 : decode cX5_nearest 32 = .ok (.getfield 148, 3) := by decide +kernel
theorem dX5_nearest_35 : decode cX5_nearest 35 = .ok (.if_icmp .ge 58, 3) := by decide +kernel
theorem dX5_nearest_38 : decode cX5_nearest 38 = .ok (.aload_n 0, 1) := by decide +kernel
theorem dX5_nearest_39 : decode cX5_nearest 39 = .ok (.getfield 12, 3) := by decide +kernel
theorem dX5_nearest_42 : decode cX5_nearest 42 = .ok (.getfield 122, 3) := by decide +kernel
theorem dX5_nearest_45 : decode cX5_nearest 45 = .ok (.iload_n 1, 1) := by decide +kernel
theorem dX5_nearest_46 : decode cX5_nearest 46 = .ok (.iaload, 1) := by decide +kernel
theorem dX5_nearest_47 : decode cX5_nearest 47 = .ok (.aload_n 0, 1) := by decide +kernel
theorem dX5_nearest_48 : decode cX5_nearest 48 = .ok (.getfield 12, 3) := by decide +kernel
theorem dX5_nearest_51 : decode cX5_nearest 51 = .ok (.getfield 100, 3) := by decide +kernel
theorem dX5_nearest_54 : decode cX5_nearest 54 = .ok (.iload 4, 2) := by decide +kernel
theorem dX5_nearest_56 : decode cX5_nearest 56 = .ok (.iaload, 1) := by decide +kernel
theorem dX5_nearest_57 : decode cX5_nearest 57 = .ok (.invokestatic 204, 3) := by decide +kernel
theorem dX5_nearest_60 : decode cX5_nearest 60 = .ok (.istore 5, 2) := by decide +kernel
theorem dX5_nearest_62 : decode cX5_nearest 62 = .ok (.aload_n 0, 1) := by decide +kernel
theorem dX5_nearest_63 : decode cX5_nearest 63 = .ok (.getfield 12, 3) := by decide +kernel
theorem dX5_nearest_66 : decode cX5_nearest 66 = .ok (.iload_n 1, 1) := by decide +kernel
theorem dX5_nearest_67 : decode cX5_nearest 67 = .ok (.iload 4, 2) := by decide +kernel
theorem dX5_nearest_69 : decode cX5_nearest 69 = .ok (.invokevirtual 140, 3) := by decide +kernel
theorem dX5_nearest_72 : decode cX5_nearest 72 = .ok (.ifCond .eq 15, 3) := by decide +kernel
theorem dX5_nearest_75 : decode cX5_nearest 75 = .ok (.iload 5, 2) := by decide +kernel
theorem dX5_nearest_77 : decode cX5_nearest 77 = .ok (.iload_n 3, 1) := by decide +kernel
theorem dX5_nearest_78 : decode cX5_nearest 78 = .ok (.if_icmp .ge 9, 3) := by decide +kernel
theorem dX5_nearest_81 : decode cX5_nearest 81 = .ok (.iload 5, 2) := by decide +kernel
theorem dX5_nearest_83 : decode cX5_nearest 83 = .ok (.istore_n 3, 1) := by decide +kernel
theorem dX5_nearest_84 : decode cX5_nearest 84 = .ok (.iload 4, 2) := by decide +kernel
theorem dX5_nearest_86 : decode cX5_nearest 86 = .ok (.istore_n 2, 1) := by decide +kernel
theorem dX5_nearest_87 : decode cX5_nearest 87 = .ok (.iinc 4 1, 3) := by decide +kernel
theorem dX5_nearest_90 : decode cX5_nearest 90 = .ok (.goto (-64), 3) := by decide +kernel
theorem dX5_nearest_93 : decode cX5_nearest 93 = .ok (.iload_n 2, 1) := by decide +kernel
theorem dX5_nearest_94 : decode cX5_nearest 94 = .ok (.ireturn, 1) := by decide +kernel
theorem dX5_allSeen_0 : decode cX5_allSeen 0 = .ok (.aload_n 0, 1) := by decide +kernel
theorem dX5_allSeen_1 : decode cX5_allSeen 1 = .ok (.getfield 12, 3) := by decide +kernel
theorem dX5_allSeen_4 : decode cX5_allSeen 4 = .ok (.iload_n 1, 1) := by decide +kernel
theorem dX5_allSeen_5 : decode cX5_allSeen 5 = .ok (.invokevirtual 90, 3) := by decide +kernel
theorem dX5_allSeen_8 : decode cX5_allSeen 8 = .ok (.ifCond .ne 9, 3) := by decide +kernel
theorem dX5_allSeen_11 : decode cX5_allSeen 11 = .ok (.aload_n 0, 1) := by decide +kernel
theorem dX5_allSeen_12 : decode cX5_allSeen 12 = .ok (.iconst (-1), 1) := by decide +kernel
theorem dX5_allSeen_13 : decode cX5_allSeen 13 = .ok (.invokevirtual 65, 3) := by decide +kernel
theorem dX5_allSeen_16 : decode cX5_allSeen 16 = .ok (.ireturn, 1) := by decide +kernel
theorem dX5_allSeen_17 : decode cX5_allSeen 17 = .ok (.aload_n 0, 1) := by decide +kernel
theorem dX5_allSeen_18 : decode cX5_allSeen 18 = .ok (.getfield 12, 3) := by decide +kernel
theorem dX5_allSeen_21 : decode cX5_allSeen 21 = .ok (.getfield 94, 3) := by decide +kernel
theorem dX5_allSeen_24 : decode cX5_allSeen 24 = .ok (.iload_n 1, 1) := by decide +kernel
theorem dX5_allSeen_25 : decode cX5_allSeen 25 = .ok (.iaload, 1) := by decide +kernel
theorem dX5_allSeen_26 : decode cX5_allSeen 26 = .ok (.aload_n 0, 1) := by decide +kernel
theorem dX5_allSeen_27 : decode cX5_allSeen 27 = .ok (.getfield 12, 3) := by decide +kernel
theorem dX5_allSeen_30 : decode cX5_allSeen 30 = .ok (.getfield 97, 3) := by decide +kernel
theorem dX5_allSeen_33 : decode cX5_allSeen 33 = .ok (.iload_n 1, 1) := by decide +kernel
theorem dX5_allSeen_34 : decode cX5_allSeen 34 = .ok (.iaload, 1) := by decide +kernel
theorem dX5_allSeen_35 : decode cX5_allSeen 35 = .ok (.invokestatic 106, 3) := by decide +kernel
theorem dX5_allSeen_38 : decode cX5_allSeen 38 = .ok (.istore_n 2, 1) := by decide +kernel
theorem dX5_allSeen_39 : decode cX5_allSeen 39 = .ok (.iconst 0, 1) := by decide +kernel
theorem dX5_allSeen_40 : decode cX5_allSeen 40 = .ok (.istore_n 3, 1) := by decide +kernel
theorem dX5_allSeen_41 : decode cX5_allSeen 41 = .ok (.iconst 0, 1) := by decide +kernel
theorem dX5_allSeen_42 : decode cX5_allSeen 42 = .ok (.istore 4, 2) := by decide +kernel
theorem dX5_allSeen_44 : decode cX5_allSeen 44 = .ok (.iload 4, 2) := by decide +kernel
theorem dX5_allSeen_46 : decode cX5_allSeen 46 = .ok (.bipush 49, 2) := by decide +kernel
theorem dX5_allSeen_48 : decode cX5_allSeen 48 = .ok (.if_icmp .ge 30, 3) := by decide +kernel
theorem dX5_allSeen_51 : decode cX5_allSeen 51 = .ok (.iload 4, 2) := by decide +kernel
theorem dX5_allSeen_53 : decode cX5_allSeen 53 = .ok (.aload_n 0, 1) := by decide +kernel
theorem dX5_allSeen_54 : decode cX5_allSeen 54 = .ok (.getfield 12, 3) := by decide +kernel
theorem dX5_allSeen_57 : decode cX5_allSeen 57 = .ok (.getfield 100, 3) := by decide +kernel
theorem dX5_allSeen_60 : decode cX5_allSeen 60 = .ok (.iload_n 1, 1) := by decide +kernel
theorem dX5_allSeen_61 : decode cX5_allSeen 61 = .ok (.iaload, 1) := by decide +kernel
theorem dX5_allSeen_62 : decode cX5_allSeen 62 = .ok (.invokestatic 204, 3) := by decide +kernel
theorem dX5_allSeen_65 : decode cX5_allSeen 65 = .ok (.iload_n 2, 1) := by decide +kernel
theorem dX5_allSeen_66 : decode cX5_allSeen 66 = .ok (.if_icmp .gt 6, 3) := by decide +kernel
theorem dX5_allSeen_69 : decode cX5_allSeen 69 = .ok (.iinc 3 1, 3) := by decide +kernel
theorem dX5_allSeen_72 : decode cX5_allSeen 72 = .ok (.iinc 4 1, 3) := by decide +kernel
theorem dX5_allSeen_75 : decode cX5_allSeen 75 = .ok (.goto (-31), 3) := by decide +kernel
theorem dX5_allSeen_78 : decode cX5_allSeen 78 = .ok (.iload_n 3, 1) := by decide +kernel
theorem dX5_allSeen_79 : decode cX5_allSeen 79 = .ok (.ireturn, 1) := by decide +kernel
theorem dX5_gaps_0 : decode cX5_gaps 0 = .ok (.aload_n 0, 1) := by decide +kernel
theorem dX5_gaps_1 : decode cX5_gaps 1 = .ok (.invokevirtual 289, 3) := by decide +kernel
theorem dX5_gaps_4 : decode cX5_gaps 4 = .ok (.lstore_n 1, 1) := by decide +kernel
theorem dX5_gaps_5 : decode cX5_gaps 5 = .ok (.iconst 0, 1) := by decide +kernel
theorem dX5_gaps_6 : decode cX5_gaps 6 = .ok (.istore_n 3, 1) := by decide +kernel
theorem dX5_gaps_7 : decode cX5_gaps 7 = .ok (.iload_n 3, 1) := by decide +kernel
theorem dX5_gaps_8 : decode cX5_gaps 8 = .ok (.bipush 60, 2) := by decide +kernel
theorem dX5_gaps_10 : decode cX5_gaps 10 = .ok (.if_icmp .gt 23, 3) := by decide +kernel
theorem dX5_gaps_13 : decode cX5_gaps 13 = .ok (.lload_n 1, 1) := by decide +kernel
theorem dX5_gaps_14 : decode cX5_gaps 14 = .ok (.iload_n 3, 1) := by decide +kernel
theorem dX5_gaps_15 : decode cX5_gaps 15 = .ok (.iconst 1, 1) := by decide +kernel
theorem dX5_gaps_16 : decode cX5_gaps 16 = .ok (.iadd, 1) := by decide +kernel
theorem dX5_gaps_17 : decode cX5_gaps 17 = .ok (.lshr, 1) := by decide +kernel
theorem dX5_gaps_18 : decode cX5_gaps 18 = .ok (.lconst 1, 1) := by decide +kernel
theorem dX5_gaps_19 : decode cX5_gaps 19 = .ok (.land, 1) := by decide +kernel
theorem dX5_gaps_20 : decode cX5_gaps 20 = .ok (.lconst 0, 1) := by decide +kernel
theorem dX5_gaps_21 : decode cX5_gaps 21 = .ok (.lcmp, 1) := by decide +kernel
theorem dX5_gaps_22 : decode cX5_gaps 22 = .ok (.ifCond .ne 5, 3) := by decide +kernel
theorem dX5_gaps_25 : decode cX5_gaps 25 = .ok (.iload_n 3, 1) := by decide +kernel
theorem dX5_gaps_26 : decode cX5_gaps 26 = .ok (.ireturn, 1) := by decide +kernel
theorem dX5_gaps_27 : decode cX5_gaps 27 = .ok (.iinc 3 1, 3) := by decide +kernel
theorem dX5_gaps_30 : decode cX5_gaps 30 = .ok (.goto (-23), 3) := by decide +kernel
theorem dX5_gaps_33 : decode cX5_gaps 33 = .ok (.bipush (-9), 2) := by decide +kernel
theorem dX5_gaps_35 : decode cX5_gaps 35 = .ok (.ireturn, 1) := by decide +kernel
theorem dX5_blind_0 : decode cX5_blind 0 = .ok (.iconst 0, 1) := by decide +kernel
theorem dX5_blind_1 : decode cX5_blind 1 = .ok (.istore_n 1, 1) := by decide +kernel
theorem dX5_blind_2 : decode cX5_blind 2 = .ok (.iconst 0, 1) := by decide +kernel
theorem dX5_blind_3 : decode cX5_blind 3 = .ok (.istore_n 2, 1) := by decide +kernel
theorem dX5_blind_4 : decode cX5_blind 4 = .ok (.iload_n 2, 1) := by decide +kernel
theorem dX5_blind_5 : decode cX5_blind 5 = .ok (.aload_n 0, 1) := by decide +kernel
theorem dX5_blind_6 : decode cX5_blind 6 = .ok (.getfield 12, 3) := by decide +kernel
theorem dX5_blind_9 : decode cX5_blind 9 = .ok (.getfield 158, 3) := by decide +kernel
theorem dX5_blind_12 : decode cX5_blind 12 = .ok (.if_icmp .ge 35, 3) := by decide +kernel
theorem dX5_blind_15 : decode cX5_blind 15 = .ok (.aload_n 0, 1) := by decide +kernel
theorem dX5_blind_16 : decode cX5_blind 16 = .ok (.getfield 12, 3) := by decide +kernel
theorem dX5_blind_19 : decode cX5_blind 19 = .ok (.iload_n 2, 1) := by decide +kernel
theorem dX5_blind_20 : decode cX5_blind 20 = .ok (.aload_n 0, 1) := by decide +kernel
theorem dX5_blind_21 : decode cX5_blind 21 = .ok (.getfield 12, 3) := by decide +kernel
theorem dX5_blind_24 : decode cX5_blind 24 = .ok (.getfield 122, 3) := by decide +kernel
theorem dX5_blind_27 : decode cX5_blind 27 = .ok (.iload_n 2, 1) := by decide +kernel
theorem dX5_blind_28 : decode cX5_blind 28 = .ok (.iaload, 1) := by decide +kernel
theorem dX5_blind_29 : decode cX5_blind 29 = .ok (.invokevirtual 134, 3) := by decide +kernel
theorem dX5_blind_32 : decode cX5_blind 32 = .ok (.ifCond .ne 9, 3) := by decide +kernel
theorem dX5_blind_35 : decode cX5_blind 35 = .ok (.iload_n 1, 1) := by decide +kernel
theorem dX5_blind_36 : decode cX5_blind 36 = .ok (.iconst 1, 1) := by decide +kernel
theorem dX5_blind_37 : decode cX5_blind 37 = .ok (.iload_n 2, 1) := by decide +kernel
theorem dX5_blind_38 : decode cX5_blind 38 = .ok (.ishl, 1) := by decide +kernel
theorem dX5_blind_39 : decode cX5_blind 39 = .ok (.ior, 1) := by decide +kernel
theorem dX5_blind_40 : decode cX5_blind 40 = .ok (.istore_n 1, 1) := by decide +kernel
theorem dX5_blind_41 : decode cX5_blind 41 = .ok (.iinc 2 1, 3) := by decide +kernel
theorem dX5_blind_44 : decode cX5_blind 44 = .ok (.goto (-40), 3) := by decide +kernel
theorem dX5_blind_47 : decode cX5_blind 47 = .ok (.iload_n 1, 1) := by decide +kernel
theorem dX5_blind_48 : decode cX5_blind 48 = .ok (.ireturn, 1) := by decide +kernel
theorem dX5_moved_0 : decode cX5_moved 0 = .ok (.aload_n 0, 1) := by decide +kernel
theorem dX5_moved_1 : decode cX5_moved 1 = .ok (.getfield 12, 3) := by decide +kernel
theorem dX5_moved_4 : decode cX5_moved 4 = .ok (.iload_n 1, 1) := by decide +kernel
theorem dX5_moved_5 : decode cX5_moved 5 = .ok (.invokevirtual 119, 3) := by decide +kernel
theorem dX5_moved_8 : decode cX5_moved 8 = .ok (.ifCond .eq 10, 3) := by decide +kernel
theorem dX5_moved_11 : decode cX5_moved 11 = .ok (.iload_n 2, 1) := by decide +kernel
theorem dX5_moved_12 : decode cX5_moved 12 = .ok (.invokestatic 151, 3) := by decide +kernel
theorem dX5_moved_15 : decode cX5_moved 15 = .ok (.ifCond .ne 12, 3) := by decide +kernel
theorem dX5_moved_18 : decode cX5_moved 18 = .ok (.ldc 238, 2) := by decide +kernel
theorem dX5_moved_20 : decode cX5_moved 20 = .ok (.aload_n 0, 1) := by decide +kernel
theorem dX5_moved_21 : decode cX5_moved 21 = .ok (.iconst (-1), 1) := by decide +kernel
theorem dX5_moved_22 : decode cX5_moved 22 = .ok (.invokevirtual 65, 3) := by decide +kernel
theorem dX5_moved_25 : decode cX5_moved 25 = .ok (.isub, 1) := by decide +kernel
theorem dX5_moved_26 : decode cX5_moved 26 = .ok (.ireturn, 1) := by decide +kernel
theorem dX5_moved_27 : decode cX5_moved 27 = .ok (.iload_n 3, 1) := by decide +kernel
theorem dX5_moved_28 : decode cX5_moved 28 = .ok (.ifCond .ge 13, 3) := by decide +kernel
theorem dX5_moved_31 : decode cX5_moved 31 = .ok (.ldc 238, 2) := by decide +kernel
theorem dX5_moved_33 : decode cX5_moved 33 = .ok (.aload_n 0, 1) := by decide +kernel
theorem dX5_moved_34 : decode cX5_moved 34 = .ok (.bipush (-4), 2) := by decide +kernel
theorem dX5_moved_36 : decode cX5_moved 36 = .ok (.invokevirtual 65, 3) := by decide +kernel
theorem dX5_moved_39 : decode cX5_moved 39 = .ok (.isub, 1) := by decide +kernel
theorem dX5_moved_40 : decode cX5_moved 40 = .ok (.ireturn, 1) := by decide +kernel
theorem dX5_moved_41 : decode cX5_moved 41 = .ok (.iload_n 3, 1) := by decide +kernel
theorem dX5_moved_42 : decode cX5_moved 42 = .ok (.bipush 60, 2) := by decide +kernel
theorem dX5_moved_44 : decode cX5_moved 44 = .ok (.if_icmp .le 13, 3) := by decide +kernel
theorem dX5_moved_47 : decode cX5_moved 47 = .ok (.ldc 238, 2) := by decide +kernel
theorem dX5_moved_49 : decode cX5_moved 49 = .ok (.aload_n 0, 1) := by decide +kernel
theorem dX5_moved_50 : decode cX5_moved 50 = .ok (.bipush (-6), 2) := by decide +kernel
theorem dX5_moved_52 : decode cX5_moved 52 = .ok (.invokevirtual 65, 3) := by decide +kernel
theorem dX5_moved_55 : decode cX5_moved 55 = .ok (.isub, 1) := by decide +kernel
theorem dX5_moved_56 : decode cX5_moved 56 = .ok (.ireturn, 1) := by decide +kernel
theorem dX5_moved_57 : decode cX5_moved 57 = .ok (.aload_n 0, 1) := by decide +kernel
theorem dX5_moved_58 : decode cX5_moved 58 = .ok (.getfield 16, 3) := by decide +kernel
theorem dX5_moved_61 : decode cX5_moved 61 = .ok (.aload_n 0, 1) := by decide +kernel
theorem dX5_moved_62 : decode cX5_moved 62 = .ok (.getfield 12, 3) := by decide +kernel
theorem dX5_moved_65 : decode cX5_moved 65 = .ok (.invokevirtual 76, 3) := by decide +kernel
theorem dX5_moved_68 : decode cX5_moved 68 = .ok (.aload_n 0, 1) := by decide +kernel
theorem dX5_moved_69 : decode cX5_moved 69 = .ok (.getfield 16, 3) := by decide +kernel
theorem dX5_moved_72 : decode cX5_moved 72 = .ok (.iload_n 1, 1) := by decide +kernel
theorem dX5_moved_73 : decode cX5_moved 73 = .ok (.iload_n 2, 1) := by decide +kernel
theorem dX5_moved_74 : decode cX5_moved 74 = .ok (.invokevirtual 170, 3) := by decide +kernel
theorem dX5_moved_77 : decode cX5_moved 77 = .ok (.pop, 1) := by decide +kernel
theorem dX5_moved_78 : decode cX5_moved 78 = .ok (.aload_n 0, 1) := by decide +kernel
theorem dX5_moved_79 : decode cX5_moved 79 = .ok (.getfield 16, 3) := by decide +kernel
theorem dX5_moved_82 : decode cX5_moved 82 = .ok (.iload_n 1, 1) := by decide +kernel
theorem dX5_moved_83 : decode cX5_moved 83 = .ok (.iload_n 3, 1) := by decide +kernel
theorem dX5_moved_84 : decode cX5_moved 84 = .ok (.invokevirtual 137, 3) := by decide +kernel
theorem dX5_moved_87 : decode cX5_moved 87 = .ok (.aload_n 0, 1) := by decide +kernel
theorem dX5_moved_88 : decode cX5_moved 88 = .ok (.getfield 12, 3) := by decide +kernel
theorem dX5_moved_91 : decode cX5_moved 91 = .ok (.iload_n 1, 1) := by decide +kernel
theorem dX5_moved_92 : decode cX5_moved 92 = .ok (.iload_n 3, 1) := by decide +kernel
theorem dX5_moved_93 : decode cX5_moved 93 = .ok (.invokevirtual 137, 3) := by decide +kernel
theorem dX5_moved_96 : decode cX5_moved 96 = .ok (.isub, 1) := by decide +kernel
theorem dX5_moved_97 : decode cX5_moved 97 = .ok (.ireturn, 1) := by decide +kernel
theorem dX5_street_0 : decode cX5_street 0 = .ok (.iload_n 1, 1) := by decide +kernel
theorem dX5_street_1 : decode cX5_street 1 = .ok (.ifCond .lt 9, 3) := by decide +kernel
theorem dX5_street_4 : decode cX5_street 4 = .ok (.iload_n 1, 1) := by decide +kernel
theorem dX5_street_5 : decode cX5_street 5 = .ok (.bipush 7, 2) := by decide +kernel
theorem dX5_street_7 : decode cX5_street 7 = .ok (.if_icmp .lt 9, 3) := by decide +kernel
theorem dX5_street_10 : decode cX5_street 10 = .ok (.aload_n 0, 1) := by decide +kernel
theorem dX5_street_11 : decode cX5_street 11 = .ok (.iconst (-1), 1) := by decide +kernel
theorem dX5_street_12 : decode cX5_street 12 = .ok (.invokevirtual 65, 3) := by decide +kernel
theorem dX5_street_15 : decode cX5_street 15 = .ok (.ireturn, 1) := by decide +kernel
theorem dX5_street_16 : decode cX5_street 16 = .ok (.iconst 0, 1) := by decide +kernel
theorem dX5_street_17 : decode cX5_street 17 = .ok (.istore_n 2, 1) := by decide +kernel
theorem dX5_street_18 : decode cX5_street 18 = .ok (.iconst 0, 1) := by decide +kernel
theorem dX5_street_19 : decode cX5_street 19 = .ok (.istore_n 3, 1) := by decide +kernel
theorem dX5_street_20 : decode cX5_street 20 = .ok (.iload_n 3, 1) := by decide +kernel
theorem dX5_street_21 : decode cX5_street 21 = .ok (.aload_n 0, 1) := by decide +kernel
theorem dX5_street_22 : decode cX5_street 22 = .ok (.getfield 12, 3) := by decide +kernel
theorem dX5_street_25 : decode cX5_street 25 = .ok (.getfield 148, 3) := by decide +kernel
theorem dX5_street_28 : decode cX5_street 28 = .ok (.if_icmp .ge 63, 3) := by decide +kernel
theorem dX5_street_31 : decode cX5_street 31 = .ok (.aload_n 0, 1) := by decide +kernel
theorem dX5_street_32 : decode cX5_street 32 = .ok (.getfield 12, 3) := by decide +kernel
theorem dX5_street_35 : decode cX5_street 35 = .ok (.getfield 100, 3) := by decide +kernel
theorem dX5_street_38 : decode cX5_street 38 = .ok (.iload_n 3, 1) := by decide +kernel
theorem dX5_street_39 : decode cX5_street 39 = .ok (.iaload, 1) := by decide +kernel
theorem dX5_street_40 : decode cX5_street 40 = .ok (.bipush 7, 2) := by decide +kernel
theorem dX5_street_42 : decode cX5_street 42 = .ok (.idiv, 1) := by decide +kernel
theorem dX5_street_43 : decode cX5_street 43 = .ok (.iload_n 1, 1) := by decide +kernel
theorem dX5_street_44 : decode cX5_street 44 = .ok (.if_icmp .eq 6, 3) := by decide +kernel
theorem dX5_street_47 : decode cX5_street 47 = .ok (.goto 38, 3) := by decide +kernel
theorem dX5_street_50 : decode cX5_street 50 = .ok (.iconst 0, 1) := by decide +kernel
theorem dX5_street_51 : decode cX5_street 51 = .ok (.istore 4, 2) := by decide +kernel
theorem dX5_street_53 : decode cX5_street 53 = .ok (.iload 4, 2) := by decide +kernel
theorem dX5_street_55 : decode cX5_street 55 = .ok (.aload_n 0, 1) := by decide +kernel
theorem dX5_street_56 : decode cX5_street 56 = .ok (.getfield 12, 3) := by decide +kernel
theorem dX5_street_59 : decode cX5_street 59 = .ok (.getfield 158, 3) := by decide +kernel
theorem dX5_street_62 : decode cX5_street 62 = .ok (.if_icmp .ge 23, 3) := by decide +kernel
theorem dX5_street_65 : decode cX5_street 65 = .ok (.iload_n 2, 1) := by decide +kernel
theorem dX5_street_66 : decode cX5_street 66 = .ok (.aload_n 0, 1) := by decide +kernel
theorem dX5_street_67 : decode cX5_street 67 = .ok (.getfield 12, 3) := by decide +kernel
theorem dX5_street_70 : decode cX5_street 70 = .ok (.iload 4, 2) := by decide +kernel
theorem dX5_street_72 : decode cX5_street 72 = .ok (.iload_n 3, 1) := by decide +kernel
theorem dX5_street_73 : decode cX5_street 73 = .ok (.iconst 0, 1) := by decide +kernel
theorem dX5_street_74 : decode cX5_street 74 = .ok (.invokevirtual 173, 3) := by decide +kernel
theorem dX5_street_77 : decode cX5_street 77 = .ok (.iadd, 1) := by decide +kernel
theorem dX5_street_78 : decode cX5_street 78 = .ok (.istore_n 2, 1) := by decide +kernel
theorem dX5_street_79 : decode cX5_street 79 = .ok (.iinc 4 1, 3) := by decide +kernel
theorem dX5_street_82 : decode cX5_street 82 = .ok (.goto (-29), 3) := by decide +kernel
theorem dX5_street_85 : decode cX5_street 85 = .ok (.iinc 3 1, 3) := by decide +kernel
theorem dX5_street_88 : decode cX5_street 88 = .ok (.goto (-68), 3) := by decide +kernel
theorem dX5_street_91 : decode cX5_street 91 = .ok (.iload_n 2, 1) := by decide +kernel
theorem dX5_street_92 : decode cX5_street 92 = .ok (.ireturn, 1) := by decide +kernel
theorem dX5_row_0 : decode cX5_row 0 = .ok (.iload_n 1, 1) := by decide +kernel
theorem dX5_row_1 : decode cX5_row 1 = .ok (.ifCond .ge 10, 3) := by decide +kernel
theorem dX5_row_4 : decode cX5_row 4 = .ok (.aload_n 0, 1) := by decide +kernel
theorem dX5_row_5 : decode cX5_row 5 = .ok (.bipush (-4), 2) := by decide +kernel
theorem dX5_row_7 : decode cX5_row 7 = .ok (.invokevirtual 65, 3) := by decide +kernel
theorem dX5_row_10 : decode cX5_row 10 = .ok (.ireturn, 1) := by decide +kernel
theorem dX5_row_11 : decode cX5_row 11 = .ok (.iload_n 1, 1) := by decide +kernel
theorem dX5_row_12 : decode cX5_row 12 = .ok (.bipush 99, 2) := by decide +kernel
theorem dX5_row_14 : decode cX5_row 14 = .ok (.if_icmp .gt 12, 3) := by decide +kernel
theorem dX5_row_17 : decode cX5_row 17 = .ok (.aload_n 0, 1) := by decide +kernel
theorem dX5_row_18 : decode cX5_row 18 = .ok (.getfield 58, 3) := by decide +kernel
theorem dX5_row_21 : decode cX5_row 21 = .ok (.bipush 12, 2) := by decide +kernel
theorem dX5_row_23 : decode cX5_row 23 = .ok (.if_icmp .lt 10, 3) := by decide +kernel
theorem dX5_row_26 : decode cX5_row 26 = .ok (.aload_n 0, 1) := by decide +kernel
theorem dX5_row_27 : decode cX5_row 27 = .ok (.bipush (-6), 2) := by decide +kernel
theorem dX5_row_29 : decode cX5_row 29 = .ok (.invokevirtual 65, 3) := by decide +kernel
theorem dX5_row_32 : decode cX5_row 32 = .ok (.ireturn, 1) := by decide +kernel
theorem dX5_row_33 : decode cX5_row 33 = .ok (.aload_n 0, 1) := by decide +kernel
theorem dX5_row_34 : decode cX5_row 34 = .ok (.getfield 54, 3) := by decide +kernel
theorem dX5_row_37 : decode cX5_row 37 = .ok (.aload_n 0, 1) := by decide +kernel
theorem dX5_row_38 : decode cX5_row 38 = .ok (.getfield 58, 3) := by decide +kernel
theorem dX5_row_41 : decode cX5_row 41 = .ok (.iload_n 1, 1) := by decide +kernel
theorem dX5_row_42 : decode cX5_row 42 = .ok (.iastore, 1) := by decide +kernel
theorem dX5_row_43 : decode cX5_row 43 = .ok (.aload_n 0, 1) := by decide +kernel
theorem dX5_row_44 : decode cX5_row 44 = .ok (.dup, 1) := by decide +kernel
theorem dX5_row_45 : decode cX5_row 45 = .ok (.getfield 58, 3) := by decide +kernel
theorem dX5_row_48 : decode cX5_row 48 = .ok (.iconst 1, 1) := by decide +kernel
theorem dX5_row_49 : decode cX5_row 49 = .ok (.iadd, 1) := by decide +kernel
theorem dX5_row_50 : decode cX5_row 50 = .ok (.putfield 58, 3) := by decide +kernel
theorem dX5_row_53 : decode cX5_row 53 = .ok (.aload_n 0, 1) := by decide +kernel
theorem dX5_row_54 : decode cX5_row 54 = .ok (.getfield 58, 3) := by decide +kernel
theorem dX5_row_57 : decode cX5_row 57 = .ok (.ireturn, 1) := by decide +kernel
theorem dX5_judge_0 : decode cX5_judge 0 = .ok (.aload_n 0, 1) := by decide +kernel
theorem dX5_judge_1 : decode cX5_judge 1 = .ok (.getfield 58, 3) := by decide +kernel
theorem dX5_judge_4 : decode cX5_judge 4 = .ok (.istore_n 1, 1) := by decide +kernel
theorem dX5_judge_5 : decode cX5_judge 5 = .ok (.aload_n 0, 1) := by decide +kernel
theorem dX5_judge_6 : decode cX5_judge 6 = .ok (.iconst 0, 1) := by decide +kernel
theorem dX5_judge_7 : decode cX5_judge 7 = .ok (.putfield 58, 3) := by decide +kernel
theorem dX5_judge_10 : decode cX5_judge 10 = .ok (.iconst 0, 1) := by decide +kernel
theorem dX5_judge_11 : decode cX5_judge 11 = .ok (.istore_n 2, 1) := by decide +kernel
theorem dX5_judge_12 : decode cX5_judge 12 = .ok (.iload_n 2, 1) := by decide +kernel
theorem dX5_judge_13 : decode cX5_judge 13 = .ok (.iload_n 1, 1) := by decide +kernel
theorem dX5_judge_14 : decode cX5_judge 14 = .ok (.if_icmp .ge 45, 3) := by decide +kernel
theorem dX5_judge_17 : decode cX5_judge 17 = .ok (.aload_n 0, 1) := by decide +kernel
theorem dX5_judge_18 : decode cX5_judge 18 = .ok (.getfield 12, 3) := by decide +kernel
theorem dX5_judge_21 : decode cX5_judge 21 = .ok (.iload_n 2, 1) := by decide +kernel
theorem dX5_judge_22 : decode cX5_judge 22 = .ok (.invokevirtual 90, 3) := by decide +kernel
theorem dX5_judge_25 : decode cX5_judge 25 = .ok (.ifCond .ne 5, 3) := by decide +kernel
theorem dX5_judge_28 : decode cX5_judge 28 = .ok (.iload_n 2, 1) := by decide +kernel
theorem dX5_judge_29 : decode cX5_judge 29 = .ok (.ireturn, 1) := by decide +kernel
theorem dX5_judge_30 : decode cX5_judge 30 = .ok (.aload_n 0, 1) := by decide +kernel
theorem dX5_judge_31 : decode cX5_judge 31 = .ok (.getfield 12, 3) := by decide +kernel
theorem dX5_judge_34 : decode cX5_judge 34 = .ok (.iload_n 2, 1) := by decide +kernel
theorem dX5_judge_35 : decode cX5_judge 35 = .ok (.iconst 0, 1) := by decide +kernel
theorem dX5_judge_36 : decode cX5_judge 36 = .ok (.invokevirtual 113, 3) := by decide +kernel
theorem dX5_judge_39 : decode cX5_judge 39 = .ok (.invokestatic 239, 3) := by decide +kernel
theorem dX5_judge_42 : decode cX5_judge 42 = .ok (.aload_n 0, 1) := by decide +kernel
theorem dX5_judge_43 : decode cX5_judge 43 = .ok (.getfield 54, 3) := by decide +kernel
theorem dX5_judge_46 : decode cX5_judge 46 = .ok (.iload_n 2, 1) := by decide +kernel
theorem dX5_judge_47 : decode cX5_judge 47 = .ok (.iaload, 1) := by decide +kernel
theorem dX5_judge_48 : decode cX5_judge 48 = .ok (.if_icmp .eq 5, 3) := by decide +kernel
theorem dX5_judge_51 : decode cX5_judge 51 = .ok (.iload_n 2, 1) := by decide +kernel
theorem dX5_judge_52 : decode cX5_judge 52 = .ok (.ireturn, 1) := by decide +kernel
theorem dX5_judge_53 : decode cX5_judge 53 = .ok (.iinc 2 1, 3) := by decide +kernel
theorem dX5_judge_56 : decode cX5_judge 56 = .ok (.goto (-44), 3) := by decide +kernel
theorem dX5_judge_59 : decode cX5_judge 59 = .ok (.bipush (-9), 2) := by decide +kernel
theorem dX5_judge_61 : decode cX5_judge 61 = .ok (.ireturn, 1) := by decide +kernel
theorem dX5_empties_0 : decode cX5_empties 0 = .ok (.aload_n 0, 1) := by decide +kernel
theorem dX5_empties_1 : decode cX5_empties 1 = .ok (.getfield 58, 3) := by decide +kernel
theorem dX5_empties_4 : decode cX5_empties 4 = .ok (.istore_n 1, 1) := by decide +kernel
theorem dX5_empties_5 : decode cX5_empties 5 = .ok (.aload_n 0, 1) := by decide +kernel
theorem dX5_empties_6 : decode cX5_empties 6 = .ok (.iconst 0, 1) := by decide +kernel
theorem dX5_empties_7 : decode cX5_empties 7 = .ok (.putfield 58, 3) := by decide +kernel
theorem dX5_empties_10 : decode cX5_empties 10 = .ok (.iload_n 1, 1) := by decide +kernel
theorem dX5_empties_11 : decode cX5_empties 11 = .ok (.ireturn, 1) := by decide +kernel
theorem dX5_lots_0 : decode cX5_lots 0 = .ok (.iload_n 1, 1) := by decide +kernel
theorem dX5_lots_1 : decode cX5_lots 1 = .ok (.iconst 1, 1) := by decide +kernel
theorem dX5_lots_2 : decode cX5_lots 2 = .ok (.if_icmp .ge 10, 3) := by decide +kernel
theorem dX5_lots_5 : decode cX5_lots 5 = .ok (.aload_n 0, 1) := by decide +kernel
theorem dX5_lots_6 : decode cX5_lots 6 = .ok (.bipush (-4), 2) := by decide +kernel
theorem dX5_lots_8 : decode cX5_lots 8 = .ok (.invokevirtual 65, 3) := by decide +kernel
theorem dX5_lots_11 : decode cX5_lots 11 = .ok (.ireturn, 1) := by decide +kernel
theorem dX5_lots_12 : decode cX5_lots 12 = .ok (.iload_n 1, 1) := by decide +kernel
theorem dX5_lots_13 : decode cX5_lots 13 = .ok (.bipush 20, 2) := by decide +kernel
theorem dX5_lots_15 : decode cX5_lots 15 = .ok (.if_icmp .le 10, 3) := by decide +kernel
theorem dX5_lots_18 : decode cX5_lots 18 = .ok (.aload_n 0, 1) := by decide +kernel
theorem dX5_lots_19 : decode cX5_lots 19 = .ok (.bipush (-6), 2) := by decide +kernel
theorem dX5_lots_21 : decode cX5_lots 21 = .ok (.invokevirtual 65, 3) := by decide +kernel
theorem dX5_lots_24 : decode cX5_lots 24 = .ok (.ireturn, 1) := by decide +kernel
theorem dX5_lots_25 : decode cX5_lots 25 = .ok (.iload_n 3, 1) := by decide +kernel
theorem dX5_lots_26 : decode cX5_lots 26 = .ok (.ifCond .eq 15, 3) := by decide +kernel
theorem dX5_lots_29 : decode cX5_lots 29 = .ok (.iload_n 3, 1) := by decide +kernel
theorem dX5_lots_30 : decode cX5_lots 30 = .ok (.iconst 1, 1) := by decide +kernel
theorem dX5_lots_31 : decode cX5_lots 31 = .ok (.if_icmp .eq 10, 3) := by decide +kernel
theorem dX5_lots_34 : decode cX5_lots 34 = .ok (.aload_n 0, 1) := by decide +kernel
theorem dX5_lots_35 : decode cX5_lots 35 = .ok (.bipush (-2), 2) := by decide +kernel
theorem dX5_lots_37 : decode cX5_lots 37 = .ok (.invokevirtual 65, 3) := by decide +kernel
theorem dX5_lots_40 : decode cX5_lots 40 = .ok (.ireturn, 1) := by decide +kernel
theorem dX5_lots_41 : decode cX5_lots 41 = .ok (.iconst 0, 1) := by decide +kernel
theorem dX5_lots_42 : decode cX5_lots 42 = .ok (.istore 4, 2) := by decide +kernel
theorem dX5_lots_44 : decode cX5_lots 44 = .ok (.iload_n 2, 1) := by decide +kernel
theorem dX5_lots_45 : decode cX5_lots 45 = .ok (.istore 5, 2) := by decide +kernel
theorem dX5_lots_47 : decode cX5_lots 47 = .ok (.aload_n 0, 1) := by decide +kernel
theorem dX5_lots_48 : decode cX5_lots 48 = .ok (.getfield 16, 3) := by decide +kernel
theorem dX5_lots_51 : decode cX5_lots 51 = .ok (.aload_n 0, 1) := by decide +kernel
theorem dX5_lots_52 : decode cX5_lots 52 = .ok (.getfield 12, 3) := by decide +kernel
theorem dX5_lots_55 : decode cX5_lots 55 = .ok (.invokevirtual 76, 3) := by decide +kernel
theorem dX5_lots_58 : decode cX5_lots 58 = .ok (.iconst 0, 1) := by decide +kernel
theorem dX5_lots_59 : decode cX5_lots 59 = .ok (.istore 6, 2) := by decide +kernel
theorem dX5_lots_61 : decode cX5_lots 61 = .ok (.iload 6, 2) := by decide +kernel
theorem dX5_lots_63 : decode cX5_lots 63 = .ok (.iload_n 1, 1) := by decide +kernel
theorem dX5_lots_64 : decode cX5_lots 64 = .ok (.if_icmp .ge 104, 3) := by decide +kernel
theorem dX5_lots_67 : decode cX5_lots 67 = .ok (.iconst 0, 1) := by decide +kernel
theorem dX5_lots_68 : decode cX5_lots 68 = .ok (.istore 7, 2) := by decide +kernel
theorem dX5_lots_70 : decode cX5_lots 70 = .ok (.iload 7, 2) := by decide +kernel
theorem dX5_lots_72 : decode cX5_lots 72 = .ok (.aload_n 0, 1) := by decide +kernel
theorem dX5_lots_73 : decode cX5_lots 73 = .ok (.getfield 16, 3) := by decide +kernel
theorem dX5_lots_76 : decode cX5_lots 76 = .ok (.getfield 158, 3) := by decide +kernel
theorem dX5_lots_79 : decode cX5_lots 79 = .ok (.if_icmp .ge 53, 3) := by decide +kernel
theorem dX5_lots_82 : decode cX5_lots 82 = .ok (.iload 5, 2) := by decide +kernel
theorem dX5_lots_84 : decode cX5_lots 84 = .ok (.invokestatic 293, 3) := by decide +kernel
theorem dX5_lots_87 : decode cX5_lots 87 = .ok (.istore 5, 2) := by decide +kernel
theorem dX5_lots_89 : decode cX5_lots 89 = .ok (.aload_n 0, 1) := by decide +kernel
theorem dX5_lots_90 : decode cX5_lots 90 = .ok (.getfield 16, 3) := by decide +kernel
theorem dX5_lots_93 : decode cX5_lots 93 = .ok (.getfield 122, 3) := by decide +kernel
theorem dX5_lots_96 : decode cX5_lots 96 = .ok (.iload 7, 2) := by decide +kernel
theorem dX5_lots_98 : decode cX5_lots 98 = .ok (.iload 5, 2) := by decide +kernel
theorem dX5_lots_100 : decode cX5_lots 100 = .ok (.invokestatic 296, 3) := by decide +kernel
theorem dX5_lots_103 : decode cX5_lots 103 = .ok (.iastore, 1) := by decide +kernel
theorem dX5_lots_104 : decode cX5_lots 104 = .ok (.iload 5, 2) := by decide +kernel
theorem dX5_lots_106 : decode cX5_lots 106 = .ok (.invokestatic 293, 3) := by decide +kernel
theorem dX5_lots_109 : decode cX5_lots 109 = .ok (.istore 5, 2) := by decide +kernel
theorem dX5_lots_111 : decode cX5_lots 111 = .ok (.aload_n 0, 1) := by decide +kernel
theorem dX5_lots_112 : decode cX5_lots 112 = .ok (.getfield 16, 3) := by decide +kernel
theorem dX5_lots_115 : decode cX5_lots 115 = .ok (.getfield 125, 3) := by decide +kernel
theorem dX5_lots_118 : decode cX5_lots 118 = .ok (.iload 7, 2) := by decide +kernel
theorem dX5_lots_120 : decode cX5_lots 120 = .ok (.iload 5, 2) := by decide +kernel
theorem dX5_lots_122 : decode cX5_lots 122 = .ok (.invokestatic 296, 3) := by decide +kernel
theorem dX5_lots_125 : decode cX5_lots 125 = .ok (.iastore, 1) := by decide +kernel
theorem dX5_lots_126 : decode cX5_lots 126 = .ok (.iinc 7 1, 3) := by decide +kernel
theorem dX5_lots_129 : decode cX5_lots 129 = .ok (.goto (-59), 3) := by decide +kernel
theorem dX5_lots_132 : decode cX5_lots 132 = .ok (.iload 4, 2) := by decide +kernel
theorem dX5_lots_134 : decode cX5_lots 134 = .ok (.iload_n 3, 1) := by decide +kernel
theorem dX5_lots_135 : decode cX5_lots 135 = .ok (.ifCond .ne 15, 3) := by decide +kernel
theorem dX5_lots_138 : decode cX5_lots 138 = .ok (.aload_n 0, 1) := by decide +kernel
theorem dX5_lots_139 : decode cX5_lots 139 = .ok (.getfield 16, 3) := by decide +kernel
theorem dX5_lots_142 : decode cX5_lots 142 = .ok (.bipush 12, 2) := by decide +kernel
theorem dX5_lots_144 : decode cX5_lots 144 = .ok (.invokevirtual 186, 3) := by decide +kernel
theorem dX5_lots_147 : decode cX5_lots 147 = .ok (.goto 12, 3) := by decide +kernel
theorem dX5_lots_150 : decode cX5_lots 150 = .ok (.aload_n 0, 1) := by decide +kernel
theorem dX5_lots_151 : decode cX5_lots 151 = .ok (.getfield 16, 3) := by decide +kernel
theorem dX5_lots_154 : decode cX5_lots 154 = .ok (.bipush 12, 2) := by decide +kernel
theorem dX5_lots_156 : decode cX5_lots 156 = .ok (.invokevirtual 198, 3) := by decide +kernel
theorem dX5_lots_159 : decode cX5_lots 159 = .ok (.iadd, 1) := by decide +kernel
theorem dX5_lots_160 : decode cX5_lots 160 = .ok (.istore 4, 2) := by decide +kernel
theorem dX5_lots_162 : decode cX5_lots 162 = .ok (.iinc 6 1, 3) := by decide +kernel
theorem dX5_lots_165 : decode cX5_lots 165 = .ok (.goto (-104), 3) := by decide +kernel
theorem dX5_lots_168 : decode cX5_lots 168 = .ok (.iload 4, 2) := by decide +kernel
theorem dX5_lots_170 : decode cX5_lots 170 = .ok (.ireturn, 1) := by decide +kernel
theorem dX5_image_0 : decode cX5_image 0 = .ok (.aload_n 0, 1) := by decide +kernel
theorem dX5_image_1 : decode cX5_image 1 = .ok (.getfield 19, 3) := by decide +kernel
theorem dX5_image_4 : decode cX5_image 4 = .ok (.aload_n 0, 1) := by decide +kernel
theorem dX5_image_5 : decode cX5_image 5 = .ok (.getfield 12, 3) := by decide +kernel
theorem dX5_image_8 : decode cX5_image 8 = .ok (.invokevirtual 76, 3) := by decide +kernel
theorem dX5_image_11 : decode cX5_image 11 = .ok (.aload_n 0, 1) := by decide +kernel
theorem dX5_image_12 : decode cX5_image 12 = .ok (.iconst 1, 1) := by decide +kernel
theorem dX5_image_13 : decode cX5_image 13 = .ok (.putfield 22, 3) := by decide +kernel
theorem dX5_image_16 : decode cX5_image 16 = .ok (.aload_n 0, 1) := by decide +kernel
theorem dX5_image_17 : decode cX5_image 17 = .ok (.getfield 12, 3) := by decide +kernel
theorem dX5_image_20 : decode cX5_image 20 = .ok (.getfield 180, 3) := by decide +kernel
theorem dX5_image_23 : decode cX5_image 23 = .ok (.ireturn, 1) := by decide +kernel
theorem dX5_restore_0 : decode cX5_restore 0 = .ok (.aload_n 0, 1) := by decide +kernel
theorem dX5_restore_1 : decode cX5_restore 1 = .ok (.getfield 22, 3) := by decide +kernel
theorem dX5_restore_4 : decode cX5_restore 4 = .ok (.ifCond .ne 10, 3) := by decide +kernel
theorem dX5_restore_7 : decode cX5_restore 7 = .ok (.aload_n 0, 1) := by decide +kernel
theorem dX5_restore_8 : decode cX5_restore 8 = .ok (.bipush (-3), 2) := by decide +kernel
theorem dX5_restore_10 : decode cX5_restore 10 = .ok (.invokevirtual 65, 3) := by decide +kernel
theorem dX5_restore_13 : decode cX5_restore 13 = .ok (.ireturn, 1) := by decide +kernel
theorem dX5_restore_14 : decode cX5_restore 14 = .ok (.aload_n 0, 1) := by decide +kernel
theorem dX5_restore_15 : decode cX5_restore 15 = .ok (.getfield 12, 3) := by decide +kernel
theorem dX5_restore_18 : decode cX5_restore 18 = .ok (.aload_n 0, 1) := by decide +kernel
theorem dX5_restore_19 : decode cX5_restore 19 = .ok (.getfield 19, 3) := by decide +kernel
theorem dX5_restore_22 : decode cX5_restore 22 = .ok (.invokevirtual 76, 3) := by decide +kernel
theorem dX5_restore_25 : decode cX5_restore 25 = .ok (.aload_n 0, 1) := by decide +kernel
theorem dX5_restore_26 : decode cX5_restore 26 = .ok (.getfield 29, 3) := by decide +kernel
theorem dX5_restore_29 : decode cX5_restore 29 = .ok (.invokevirtual 87, 3) := by decide +kernel
theorem dX5_restore_32 : decode cX5_restore 32 = .ok (.aload_n 0, 1) := by decide +kernel
theorem dX5_restore_33 : decode cX5_restore 33 = .ok (.getfield 12, 3) := by decide +kernel
theorem dX5_restore_36 : decode cX5_restore 36 = .ok (.getfield 180, 3) := by decide +kernel
theorem dX5_restore_39 : decode cX5_restore 39 = .ok (.ireturn, 1) := by decide +kernel
theorem dX5_count_0 : decode cX5_count 0 = .ok (.iload_n 1, 1) := by decide +kernel
theorem dX5_count_1 : decode cX5_count 1 = .ok (.tableswitch 110 0 7 #[47, 55, 63, 71, 80, 89, 97, 102], 47) := by decide +kernel
theorem dX5_count_48 : decode cX5_count 48 = .ok (.aload_n 0, 1) := by decide +kernel
theorem dX5_count_49 : decode cX5_count 49 = .ok (.getfield 12, 3) := by decide +kernel
theorem dX5_count_52 : decode cX5_count 52 = .ok (.getfield 148, 3) := by decide +kernel
theorem dX5_count_55 : decode cX5_count 55 = .ok (.ireturn, 1) := by decide +kernel
theorem dX5_count_56 : decode cX5_count 56 = .ok (.aload_n 0, 1) := by decide +kernel
theorem dX5_count_57 : decode cX5_count 57 = .ok (.getfield 12, 3) := by decide +kernel
theorem dX5_count_60 : decode cX5_count 60 = .ok (.getfield 158, 3) := by decide +kernel
theorem dX5_count_63 : decode cX5_count 63 = .ok (.ireturn, 1) := by decide +kernel
theorem dX5_count_64 : decode cX5_count 64 = .ok (.aload_n 0, 1) := by decide +kernel
theorem dX5_count_65 : decode cX5_count 65 = .ok (.getfield 12, 3) := by decide +kernel
theorem dX5_count_68 : decode cX5_count 68 = .ok (.getfield 180, 3) := by decide +kernel
theorem dX5_count_71 : decode cX5_count 71 = .ok (.ireturn, 1) := by decide +kernel
theorem dX5_count_72 : decode cX5_count 72 = .ok (.aload_n 0, 1) := by decide +kernel
theorem dX5_count_73 : decode cX5_count 73 = .ok (.getfield 12, 3) := by decide +kernel
theorem dX5_count_76 : decode cX5_count 76 = .ok (.iconst 0, 1) := by decide +kernel
theorem dX5_count_77 : decode cX5_count 77 = .ok (.invokevirtual 186, 3) := by decide +kernel
theorem dX5_count_80 : decode cX5_count 80 = .ok (.ireturn, 1) := by decide +kernel
theorem dX5_count_81 : decode cX5_count 81 = .ok (.aload_n 0, 1) := by decide +kernel
theorem dX5_count_82 : decode cX5_count 82 = .ok (.getfield 12, 3) := by decide +kernel
theorem dX5_count_85 : decode cX5_count 85 = .ok (.iconst 0, 1) := by decide +kernel
theorem dX5_count_86 : decode cX5_count 86 = .ok (.invokevirtual 198, 3) := by decide +kernel
theorem dX5_count_89 : decode cX5_count 89 = .ok (.ireturn, 1) := by decide +kernel
theorem dX5_count_90 : decode cX5_count 90 = .ok (.aload_n 0, 1) := by decide +kernel
theorem dX5_count_91 : decode cX5_count 91 = .ok (.getfield 36, 3) := by decide +kernel
theorem dX5_count_94 : decode cX5_count 94 = .ok (.getfield 299, 3) := by decide +kernel
theorem dX5_count_97 : decode cX5_count 97 = .ok (.ireturn, 1) := by decide +kernel
theorem dX5_count_98 : decode cX5_count 98 = .ok (.aload_n 0, 1) := by decide +kernel
theorem dX5_count_99 : decode cX5_count 99 = .ok (.getfield 58, 3) := by decide +kernel
theorem dX5_count_102 : decode cX5_count 102 = .ok (.ireturn, 1) := by decide +kernel
theorem dX5_count_103 : decode cX5_count 103 = .ok (.aload_n 0, 1) := by decide +kernel
theorem dX5_count_104 : decode cX5_count 104 = .ok (.getfield 29, 3) := by decide +kernel
theorem dX5_count_107 : decode cX5_count 107 = .ok (.getfield 189, 3) := by decide +kernel
theorem dX5_count_110 : decode cX5_count 110 = .ok (.ireturn, 1) := by decide +kernel
theorem dX5_count_111 : decode cX5_count 111 = .ok (.iload_n 1, 1) := by decide +kernel
theorem dX5_count_112 : decode cX5_count 112 = .ok (.bipush 11, 2) := by decide +kernel
theorem dX5_count_114 : decode cX5_count 114 = .ok (.if_icmp .lt 21, 3) := by decide +kernel
theorem dX5_count_117 : decode cX5_count 117 = .ok (.iload_n 1, 1) := by decide +kernel
theorem dX5_count_118 : decode cX5_count 118 = .ok (.bipush 16, 2) := by decide +kernel
theorem dX5_count_120 : decode cX5_count 120 = .ok (.if_icmp .gt 15, 3) := by decide +kernel
theorem dX5_count_123 : decode cX5_count 123 = .ok (.aload_n 0, 1) := by decide +kernel
theorem dX5_count_124 : decode cX5_count 124 = .ok (.getfield 62, 3) := by decide +kernel
theorem dX5_count_127 : decode cX5_count 127 = .ok (.iload_n 1, 1) := by decide +kernel
theorem dX5_count_128 : decode cX5_count 128 = .ok (.bipush 10, 2) := by decide +kernel
theorem dX5_count_130 : decode cX5_count 130 = .ok (.isub, 1) := by decide +kernel
theorem dX5_count_131 : decode cX5_count 131 = .ok (.iaload, 1) := by decide +kernel
theorem dX5_count_132 : decode cX5_count 132 = .ok (.goto 5, 3) := by decide +kernel
theorem dX5_count_135 : decode cX5_count 135 = .ok (.bipush (-9), 2) := by decide +kernel
theorem dX5_count_137 : decode cX5_count 137 = .ok (.ireturn, 1) := by decide +kernel
theorem dX5_refuse_0 : decode cX5_refuse 0 = .ok (.aload_n 0, 1) := by decide +kernel
theorem dX5_refuse_1 : decode cX5_refuse 1 = .ok (.getfield 62, 3) := by decide +kernel
theorem dX5_refuse_4 : decode cX5_refuse 4 = .ok (.iload_n 1, 1) := by decide +kernel
theorem dX5_refuse_5 : decode cX5_refuse 5 = .ok (.ineg, 1) := by decide +kernel
theorem dX5_refuse_6 : decode cX5_refuse 6 = .ok (.dup2, 1) := by decide +kernel
theorem dX5_refuse_7 : decode cX5_refuse 7 = .ok (.iaload, 1) := by decide +kernel
theorem dX5_refuse_8 : decode cX5_refuse 8 = .ok (.iconst 1, 1) := by decide +kernel
theorem dX5_refuse_9 : decode cX5_refuse 9 = .ok (.iadd, 1) := by decide +kernel
theorem dX5_refuse_10 : decode cX5_refuse 10 = .ok (.iastore, 1) := by decide +kernel
theorem dX5_refuse_11 : decode cX5_refuse 11 = .ok (.iload_n 1, 1) := by decide +kernel
theorem dX5_refuse_12 : decode cX5_refuse 12 = .ok (.ireturn, 1) := by decide +kernel
theorem dX5_refuseLong_0 : decode cX5_refuseLong 0 = .ok (.ldc2_w 300, 3) := by decide +kernel
theorem dX5_refuseLong_3 : decode cX5_refuseLong 3 = .ok (.aload_n 0, 1) := by decide +kernel
theorem dX5_refuseLong_4 : decode cX5_refuseLong 4 = .ok (.iload_n 1, 1) := by decide +kernel
theorem dX5_refuseLong_5 : decode cX5_refuseLong 5 = .ok (.invokevirtual 65, 3) := by decide +kernel
theorem dX5_refuseLong_8 : decode cX5_refuseLong 8 = .ok (.i2l, 1) := by decide +kernel
theorem dX5_refuseLong_9 : decode cX5_refuseLong 9 = .ok (.lsub, 1) := by decide +kernel
theorem dX5_refuseLong_10 : decode cX5_refuseLong 10 = .ok (.lreturn, 1) := by decide +kernel
theorem dX5_mostOwed_0 : decode cX5_mostOwed 0 = .ok (.bipush (-9), 2) := by decide +kernel
theorem dX5_mostOwed_2 : decode cX5_mostOwed 2 = .ok (.istore_n 1, 1) := by decide +kernel
theorem dX5_mostOwed_3 : decode cX5_mostOwed 3 = .ok (.iconst 0, 1) := by decide +kernel
theorem dX5_mostOwed_4 : decode cX5_mostOwed 4 = .ok (.istore_n 2, 1) := by decide +kernel
theorem dX5_mostOwed_5 : decode cX5_mostOwed 5 = .ok (.iconst 0, 1) := by decide +kernel
theorem dX5_mostOwed_6 : decode cX5_mostOwed 6 = .ok (.istore_n 3, 1) := by decide +kernel
theorem dX5_mostOwed_7 : decode cX5_mostOwed 7 = .ok (.iload_n 3, 1) := by decide +kernel
theorem dX5_mostOwed_8 : decode cX5_mostOwed 8 = .ok (.aload_n 0, 1) := by decide +kernel
theorem dX5_mostOwed_9 : decode cX5_mostOwed 9 = .ok (.getfield 12, 3) := by decide +kernel
theorem dX5_mostOwed_12 : decode cX5_mostOwed 12 = .ok (.getfield 148, 3) := by decide +kernel
theorem dX5_mostOwed_15 : decode cX5_mostOwed 15 = .ok (.if_icmp .ge 34, 3) := by decide +kernel
theorem dX5_mostOwed_18 : decode cX5_mostOwed 18 = .ok (.aload_n 0, 1) := by decide +kernel
theorem dX5_mostOwed_19 : decode cX5_mostOwed 19 = .ok (.getfield 12, 3) := by decide +kernel
theorem dX5_mostOwed_22 : decode cX5_mostOwed 22 = .ok (.iload_n 3, 1) := by decide +kernel
theorem dX5_mostOwed_23 : decode cX5_mostOwed 23 = .ok (.iconst 0, 1) := by decide +kernel
theorem dX5_mostOwed_24 : decode cX5_mostOwed 24 = .ok (.invokevirtual 113, 3) := by decide +kernel
theorem dX5_mostOwed_27 : decode cX5_mostOwed 27 = .ok (.invokestatic 239, 3) := by decide +kernel
theorem dX5_mostOwed_30 : decode cX5_mostOwed 30 = .ok (.istore 4, 2) := by decide +kernel
theorem dX5_mostOwed_32 : decode cX5_mostOwed 32 = .ok (.iload 4, 2) := by decide +kernel
theorem dX5_mostOwed_34 : decode cX5_mostOwed 34 = .ok (.iload_n 2, 1) := by decide +kernel
theorem dX5_mostOwed_35 : decode cX5_mostOwed 35 = .ok (.if_icmp .le 8, 3) := by decide +kernel
theorem dX5_mostOwed_38 : decode cX5_mostOwed 38 = .ok (.iload 4, 2) := by decide +kernel
theorem dX5_mostOwed_40 : decode cX5_mostOwed 40 = .ok (.istore_n 2, 1) := by decide +kernel
theorem dX5_mostOwed_41 : decode cX5_mostOwed 41 = .ok (.iload_n 3, 1) := by decide +kernel
theorem dX5_mostOwed_42 : decode cX5_mostOwed 42 = .ok (.istore_n 1, 1) := by decide +kernel
theorem dX5_mostOwed_43 : decode cX5_mostOwed 43 = .ok (.iinc 3 1, 3) := by decide +kernel
theorem dX5_mostOwed_46 : decode cX5_mostOwed 46 = .ok (.goto (-39), 3) := by decide +kernel
theorem dX5_mostOwed_49 : decode cX5_mostOwed 49 = .ok (.iload_n 1, 1) := by decide +kernel
theorem dX5_mostOwed_50 : decode cX5_mostOwed 50 = .ok (.ireturn, 1) := by decide +kernel
theorem dX5_debtor_0 : decode cX5_debtor 0 = .ok (.bipush (-9), 2) := by decide +kernel
theorem dX5_debtor_2 : decode cX5_debtor 2 = .ok (.istore_n 1, 1) := by decide +kernel
theorem dX5_debtor_3 : decode cX5_debtor 3 = .ok (.iconst 0, 1) := by decide +kernel
theorem dX5_debtor_4 : decode cX5_debtor 4 = .ok (.istore_n 2, 1) := by decide +kernel
theorem dX5_debtor_5 : decode cX5_debtor 5 = .ok (.iconst 0, 1) := by decide +kernel
theorem dX5_debtor_6 : decode cX5_debtor 6 = .ok (.istore_n 3, 1) := by decide +kernel
theorem dX5_debtor_7 : decode cX5_debtor 7 = .ok (.iload_n 3, 1) := by decide +kernel
theorem dX5_debtor_8 : decode cX5_debtor 8 = .ok (.aload_n 0, 1) := by decide +kernel
theorem dX5_debtor_9 : decode cX5_debtor 9 = .ok (.getfield 12, 3) := by decide +kernel
theorem dX5_debtor_12 : decode cX5_debtor 12 = .ok (.getfield 158, 3) := by decide +kernel
theorem dX5_debtor_15 : decode cX5_debtor 15 = .ok (.if_icmp .ge 31, 3) := by decide +kernel
theorem dX5_debtor_18 : decode cX5_debtor 18 = .ok (.aload_n 0, 1) := by decide +kernel
theorem dX5_debtor_19 : decode cX5_debtor 19 = .ok (.getfield 12, 3) := by decide +kernel
theorem dX5_debtor_22 : decode cX5_debtor 22 = .ok (.iload_n 3, 1) := by decide +kernel
theorem dX5_debtor_23 : decode cX5_debtor 23 = .ok (.iconst 0, 1) := by decide +kernel
theorem dX5_debtor_24 : decode cX5_debtor 24 = .ok (.invokevirtual 137, 3) := by decide +kernel
theorem dX5_debtor_27 : decode cX5_debtor 27 = .ok (.istore 4, 2) := by decide +kernel
theorem dX5_debtor_29 : decode cX5_debtor 29 = .ok (.iload 4, 2) := by decide +kernel
theorem dX5_debtor_31 : decode cX5_debtor 31 = .ok (.iload_n 2, 1) := by decide +kernel
theorem dX5_debtor_32 : decode cX5_debtor 32 = .ok (.if_icmp .le 8, 3) := by decide +kernel
theorem dX5_debtor_35 : decode cX5_debtor 35 = .ok (.iload 4, 2) := by decide +kernel
theorem dX5_debtor_37 : decode cX5_debtor 37 = .ok (.istore_n 2, 1) := by decide +kernel
theorem dX5_debtor_38 : decode cX5_debtor 38 = .ok (.iload_n 3, 1) := by decide +kernel
theorem dX5_debtor_39 : decode cX5_debtor 39 = .ok (.istore_n 1, 1) := by decide +kernel
theorem dX5_debtor_40 : decode cX5_debtor 40 = .ok (.iinc 3 1, 3) := by decide +kernel
theorem dX5_debtor_43 : decode cX5_debtor 43 = .ok (.goto (-36), 3) := by decide +kernel
theorem dX5_debtor_46 : decode cX5_debtor 46 = .ok (.iload_n 1, 1) := by decide +kernel
theorem dX5_debtor_47 : decode cX5_debtor 47 = .ok (.ireturn, 1) := by decide +kernel
theorem dX5_debtless_0 : decode cX5_debtless 0 = .ok (.iconst 0, 1) := by decide +kernel
theorem dX5_debtless_1 : decode cX5_debtless 1 = .ok (.istore_n 1, 1) := by decide +kernel
theorem dX5_debtless_2 : decode cX5_debtless 2 = .ok (.iconst 0, 1) := by decide +kernel
theorem dX5_debtless_3 : decode cX5_debtless 3 = .ok (.istore_n 2, 1) := by decide +kernel
theorem dX5_debtless_4 : decode cX5_debtless 4 = .ok (.iload_n 2, 1) := by decide +kernel
theorem dX5_debtless_5 : decode cX5_debtless 5 = .ok (.aload_n 0, 1) := by decide +kernel
theorem dX5_debtless_6 : decode cX5_debtless 6 = .ok (.getfield 12, 3) := by decide +kernel
theorem dX5_debtless_9 : decode cX5_debtless 9 = .ok (.getfield 158, 3) := by decide +kernel
theorem dX5_debtless_12 : decode cX5_debtless 12 = .ok (.if_icmp .ge 27, 3) := by decide +kernel
theorem dX5_debtless_15 : decode cX5_debtless 15 = .ok (.aload_n 0, 1) := by decide +kernel
theorem dX5_debtless_16 : decode cX5_debtless 16 = .ok (.getfield 12, 3) := by decide +kernel
theorem dX5_debtless_19 : decode cX5_debtless 19 = .ok (.iload_n 2, 1) := by decide +kernel
theorem dX5_debtless_20 : decode cX5_debtless 20 = .ok (.iconst 0, 1) := by decide +kernel
theorem dX5_debtless_21 : decode cX5_debtless 21 = .ok (.invokevirtual 131, 3) := by decide +kernel
theorem dX5_debtless_24 : decode cX5_debtless 24 = .ok (.ifCond .ne 9, 3) := by decide +kernel
theorem dX5_debtless_27 : decode cX5_debtless 27 = .ok (.iload_n 1, 1) := by decide +kernel
theorem dX5_debtless_28 : decode cX5_debtless 28 = .ok (.iconst 1, 1) := by decide +kernel
theorem dX5_debtless_29 : decode cX5_debtless 29 = .ok (.iload_n 2, 1) := by decide +kernel
theorem dX5_debtless_30 : decode cX5_debtless 30 = .ok (.ishl, 1) := by decide +kernel
theorem dX5_debtless_31 : decode cX5_debtless 31 = .ok (.ior, 1) := by decide +kernel
theorem dX5_debtless_32 : decode cX5_debtless 32 = .ok (.istore_n 1, 1) := by decide +kernel
theorem dX5_debtless_33 : decode cX5_debtless 33 = .ok (.iinc 2 1, 3) := by decide +kernel
theorem dX5_debtless_36 : decode cX5_debtless 36 = .ok (.goto (-32), 3) := by decide +kernel
theorem dX5_debtless_39 : decode cX5_debtless 39 = .ok (.iload_n 1, 1) := by decide +kernel
theorem dX5_debtless_40 : decode cX5_debtless 40 = .ok (.ireturn, 1) := by decide +kernel
theorem dX5_owedByOne_0 : decode cX5_owedByOne 0 = .ok (.iconst 0, 1) := by decide +kernel
theorem dX5_owedByOne_1 : decode cX5_owedByOne 1 = .ok (.istore_n 1, 1) := by decide +kernel
theorem dX5_owedByOne_2 : decode cX5_owedByOne 2 = .ok (.iconst 0, 1) := by decide +kernel
theorem dX5_owedByOne_3 : decode cX5_owedByOne 3 = .ok (.istore_n 2, 1) := by decide +kernel
theorem dX5_owedByOne_4 : decode cX5_owedByOne 4 = .ok (.iload_n 2, 1) := by decide +kernel
theorem dX5_owedByOne_5 : decode cX5_owedByOne 5 = .ok (.aload_n 0, 1) := by decide +kernel
theorem dX5_owedByOne_6 : decode cX5_owedByOne 6 = .ok (.getfield 12, 3) := by decide +kernel
theorem dX5_owedByOne_9 : decode cX5_owedByOne 9 = .ok (.getfield 148, 3) := by decide +kernel
theorem dX5_owedByOne_12 : decode cX5_owedByOne 12 = .ok (.if_icmp .ge 31, 3) := by decide +kernel
theorem dX5_owedByOne_15 : decode cX5_owedByOne 15 = .ok (.aload_n 0, 1) := by decide +kernel
theorem dX5_owedByOne_16 : decode cX5_owedByOne 16 = .ok (.getfield 12, 3) := by decide +kernel
theorem dX5_owedByOne_19 : decode cX5_owedByOne 19 = .ok (.iload_n 2, 1) := by decide +kernel
theorem dX5_owedByOne_20 : decode cX5_owedByOne 20 = .ok (.iconst 0, 1) := by decide +kernel
theorem dX5_owedByOne_21 : decode cX5_owedByOne 21 = .ok (.invokevirtual 113, 3) := by decide +kernel
theorem dX5_owedByOne_24 : decode cX5_owedByOne 24 = .ok (.invokestatic 239, 3) := by decide +kernel
theorem dX5_owedByOne_27 : decode cX5_owedByOne 27 = .ok (.iconst 1, 1) := by decide +kernel
theorem dX5_owedByOne_28 : decode cX5_owedByOne 28 = .ok (.if_icmp .ne 9, 3) := by decide +kernel
theorem dX5_owedByOne_31 : decode cX5_owedByOne 31 = .ok (.iload_n 1, 1) := by decide +kernel
theorem dX5_owedByOne_32 : decode cX5_owedByOne 32 = .ok (.iconst 1, 1) := by decide +kernel
theorem dX5_owedByOne_33 : decode cX5_owedByOne 33 = .ok (.iload_n 2, 1) := by decide +kernel
theorem dX5_owedByOne_34 : decode cX5_owedByOne 34 = .ok (.ishl, 1) := by decide +kernel
theorem dX5_owedByOne_35 : decode cX5_owedByOne 35 = .ok (.ior, 1) := by decide +kernel
theorem dX5_owedByOne_36 : decode cX5_owedByOne 36 = .ok (.istore_n 1, 1) := by decide +kernel
theorem dX5_owedByOne_37 : decode cX5_owedByOne 37 = .ok (.iinc 2 1, 3) := by decide +kernel
theorem dX5_owedByOne_40 : decode cX5_owedByOne 40 = .ok (.goto (-36), 3) := by decide +kernel
theorem dX5_owedByOne_43 : decode cX5_owedByOne 43 = .ok (.iload_n 1, 1) := by decide +kernel
theorem dX5_owedByOne_44 : decode cX5_owedByOne 44 = .ok (.ireturn, 1) := by decide +kernel
theorem dX5_fittingKinds_0 : decode cX5_fittingKinds 0 = .ok (.iconst 0, 1) := by decide +kernel
theorem dX5_fittingKinds_1 : decode cX5_fittingKinds 1 = .ok (.istore_n 3, 1) := by decide +kernel
theorem dX5_fittingKinds_2 : decode cX5_fittingKinds 2 = .ok (.aload_n 0, 1) := by decide +kernel
theorem dX5_fittingKinds_3 : decode cX5_fittingKinds 3 = .ok (.getfield 16, 3) := by decide +kernel
theorem dX5_fittingKinds_6 : decode cX5_fittingKinds 6 = .ok (.aload_n 0, 1) := by decide +kernel
theorem dX5_fittingKinds_7 : decode cX5_fittingKinds 7 = .ok (.getfield 12, 3) := by decide +kernel
theorem dX5_fittingKinds_10 : decode cX5_fittingKinds 10 = .ok (.invokevirtual 76, 3) := by decide +kernel
theorem dX5_fittingKinds_13 : decode cX5_fittingKinds 13 = .ok (.iconst 0, 1) := by decide +kernel
theorem dX5_fittingKinds_14 : decode cX5_fittingKinds 14 = .ok (.istore 4, 2) := by decide +kernel
theorem dX5_fittingKinds_16 : decode cX5_fittingKinds 16 = .ok (.iload 4, 2) := by decide +kernel
theorem dX5_fittingKinds_18 : decode cX5_fittingKinds 18 = .ok (.bipush 6, 2) := by decide +kernel
theorem dX5_fittingKinds_20 : decode cX5_fittingKinds 20 = .ok (.if_icmp .ge 36, 3) := by decide +kernel
theorem dX5_fittingKinds_23 : decode cX5_fittingKinds 23 = .ok (.aload_n 0, 1) := by decide +kernel
theorem dX5_fittingKinds_24 : decode cX5_fittingKinds 24 = .ok (.getfield 16, 3) := by decide +kernel
theorem dX5_fittingKinds_27 : decode cX5_fittingKinds 27 = .ok (.getfield 94, 3) := by decide +kernel
theorem dX5_fittingKinds_30 : decode cX5_fittingKinds 30 = .ok (.iload_n 2, 1) := by decide +kernel
theorem dX5_fittingKinds_31 : decode cX5_fittingKinds 31 = .ok (.iload 4, 2) := by decide +kernel
theorem dX5_fittingKinds_33 : decode cX5_fittingKinds 33 = .ok (.iastore, 1) := by decide +kernel
theorem dX5_fittingKinds_34 : decode cX5_fittingKinds 34 = .ok (.aload_n 0, 1) := by decide +kernel
theorem dX5_fittingKinds_35 : decode cX5_fittingKinds 35 = .ok (.iload_n 1, 1) := by decide +kernel
theorem dX5_fittingKinds_36 : decode cX5_fittingKinds 36 = .ok (.iload_n 2, 1) := by decide +kernel
theorem dX5_fittingKinds_37 : decode cX5_fittingKinds 37 = .ok (.invokevirtual 302, 3) := by decide +kernel
theorem dX5_fittingKinds_40 : decode cX5_fittingKinds 40 = .ok (.ifCond .eq 10, 3) := by decide +kernel
theorem dX5_fittingKinds_43 : decode cX5_fittingKinds 43 = .ok (.iload_n 3, 1) := by decide +kernel
theorem dX5_fittingKinds_44 : decode cX5_fittingKinds 44 = .ok (.iconst 1, 1) := by decide +kernel
theorem dX5_fittingKinds_45 : decode cX5_fittingKinds 45 = .ok (.iload 4, 2) := by decide +kernel
theorem dX5_fittingKinds_47 : decode cX5_fittingKinds 47 = .ok (.ishl, 1) := by decide +kernel
theorem dX5_fittingKinds_48 : decode cX5_fittingKinds 48 = .ok (.ior, 1) := by decide +kernel
theorem dX5_fittingKinds_49 : decode cX5_fittingKinds 49 = .ok (.istore_n 3, 1) := by decide +kernel
theorem dX5_fittingKinds_50 : decode cX5_fittingKinds 50 = .ok (.iinc 4 1, 3) := by decide +kernel
theorem dX5_fittingKinds_53 : decode cX5_fittingKinds 53 = .ok (.goto (-37), 3) := by decide +kernel
theorem dX5_fittingKinds_56 : decode cX5_fittingKinds 56 = .ok (.iload_n 3, 1) := by decide +kernel
theorem dX5_fittingKinds_57 : decode cX5_fittingKinds 57 = .ok (.ireturn, 1) := by decide +kernel
theorem dX5_fittingFigures_0 : decode cX5_fittingFigures 0 = .ok (.iconst 0, 1) := by decide +kernel
theorem dX5_fittingFigures_1 : decode cX5_fittingFigures 1 = .ok (.istore_n 3, 1) := by decide +kernel
theorem dX5_fittingFigures_2 : decode cX5_fittingFigures 2 = .ok (.aload_n 0, 1) := by decide +kernel
theorem dX5_fittingFigures_3 : decode cX5_fittingFigures 3 = .ok (.getfield 16, 3) := by decide +kernel
theorem dX5_fittingFigures_6 : decode cX5_fittingFigures 6 = .ok (.aload_n 0, 1) := by decide +kernel
theorem dX5_fittingFigures_7 : decode cX5_fittingFigures 7 = .ok (.getfield 12, 3) := by decide +kernel
theorem dX5_fittingFigures_10 : decode cX5_fittingFigures 10 = .ok (.invokevirtual 76, 3) := by decide +kernel
theorem dX5_fittingFigures_13 : decode cX5_fittingFigures 13 = .ok (.iconst 0, 1) := by decide +kernel
theorem dX5_fittingFigures_14 : decode cX5_fittingFigures 14 = .ok (.istore 4, 2) := by decide +kernel
theorem dX5_fittingFigures_16 : decode cX5_fittingFigures 16 = .ok (.iload 4, 2) := by decide +kernel
theorem dX5_fittingFigures_18 : decode cX5_fittingFigures 18 = .ok (.bipush 10, 2) := by decide +kernel
theorem dX5_fittingFigures_20 : decode cX5_fittingFigures 20 = .ok (.if_icmp .ge 36, 3) := by decide +kernel
theorem dX5_fittingFigures_23 : decode cX5_fittingFigures 23 = .ok (.aload_n 0, 1) := by decide +kernel
theorem dX5_fittingFigures_24 : decode cX5_fittingFigures 24 = .ok (.getfield 16, 3) := by decide +kernel
theorem dX5_fittingFigures_27 : decode cX5_fittingFigures 27 = .ok (.getfield 97, 3) := by decide +kernel
theorem dX5_fittingFigures_30 : decode cX5_fittingFigures 30 = .ok (.iload_n 2, 1) := by decide +kernel
theorem dX5_fittingFigures_31 : decode cX5_fittingFigures 31 = .ok (.iload 4, 2) := by decide +kernel
theorem dX5_fittingFigures_33 : decode cX5_fittingFigures 33 = .ok (.iastore, 1) := by decide +kernel
theorem dX5_fittingFigures_34 : decode cX5_fittingFigures 34 = .ok (.aload_n 0, 1) := by decide +kernel
theorem dX5_fittingFigures_35 : decode cX5_fittingFigures 35 = .ok (.iload_n 1, 1) := by decide +kernel
theorem dX5_fittingFigures_36 : decode cX5_fittingFigures 36 = .ok (.iload_n 2, 1) := by decide +kernel
theorem dX5_fittingFigures_37 : decode cX5_fittingFigures 37 = .ok (.invokevirtual 302, 3) := by decide +kernel
theorem dX5_fittingFigures_40 : decode cX5_fittingFigures 40 = .ok (.ifCond .eq 10, 3) := by decide +kernel
theorem dX5_fittingFigures_43 : decode cX5_fittingFigures 43 = .ok (.iload_n 3, 1) := by decide +kernel
theorem dX5_fittingFigures_44 : decode cX5_fittingFigures 44 = .ok (.iconst 1, 1) := by decide +kernel
theorem dX5_fittingFigures_45 : decode cX5_fittingFigures 45 = .ok (.iload 4, 2) := by decide +kernel
theorem dX5_fittingFigures_47 : decode cX5_fittingFigures 47 = .ok (.ishl, 1) := by decide +kernel
theorem dX5_fittingFigures_48 : decode cX5_fittingFigures 48 = .ok (.ior, 1) := by decide +kernel
theorem dX5_fittingFigures_49 : decode cX5_fittingFigures 49 = .ok (.istore_n 3, 1) := by decide +kernel
theorem dX5_fittingFigures_50 : decode cX5_fittingFigures 50 = .ok (.iinc 4 1, 3) := by decide +kernel
theorem dX5_fittingFigures_53 : decode cX5_fittingFigures 53 = .ok (.goto (-37), 3) := by decide +kernel
theorem dX5_fittingFigures_56 : decode cX5_fittingFigures 56 = .ok (.iload_n 3, 1) := by decide +kernel
theorem dX5_fittingFigures_57 : decode cX5_fittingFigures 57 = .ok (.ireturn, 1) := by decide +kernel
theorem dX5_fitsNumbers_0 : decode cX5_fitsNumbers 0 = .ok (.iconst 0, 1) := by decide +kernel
theorem dX5_fitsNumbers_1 : decode cX5_fitsNumbers 1 = .ok (.istore_n 3, 1) := by decide +kernel
theorem dX5_fitsNumbers_2 : decode cX5_fitsNumbers 2 = .ok (.iload_n 3, 1) := by decide +kernel
theorem dX5_fitsNumbers_3 : decode cX5_fitsNumbers 3 = .ok (.aload_n 0, 1) := by decide +kernel
theorem dX5_fitsNumbers_4 : decode cX5_fitsNumbers 4 = .ok (.getfield 58, 3) := by decide +kernel
theorem dX5_fitsNumbers_7 : decode cX5_fitsNumbers 7 = .ok (.if_icmp .ge 49, 3) := by decide +kernel
theorem dX5_fitsNumbers_10 : decode cX5_fitsNumbers 10 = .ok (.aload_n 0, 1) := by decide +kernel
theorem dX5_fitsNumbers_11 : decode cX5_fitsNumbers 11 = .ok (.getfield 54, 3) := by decide +kernel
theorem dX5_fitsNumbers_14 : decode cX5_fitsNumbers 14 = .ok (.iload_n 3, 1) := by decide +kernel
theorem dX5_fitsNumbers_15 : decode cX5_fitsNumbers 15 = .ok (.iaload, 1) := by decide +kernel
theorem dX5_fitsNumbers_16 : decode cX5_fitsNumbers 16 = .ok (.bipush 99, 2) := by decide +kernel
theorem dX5_fitsNumbers_18 : decode cX5_fitsNumbers 18 = .ok (.if_icmp .ne 7, 3) := by decide +kernel
theorem dX5_fitsNumbers_21 : decode cX5_fitsNumbers 21 = .ok (.iconst (-1), 1) := by decide +kernel
theorem dX5_fitsNumbers_22 : decode cX5_fitsNumbers 22 = .ok (.goto 9, 3) := by decide +kernel
theorem dX5_fitsNumbers_25 : decode cX5_fitsNumbers 25 = .ok (.aload_n 0, 1) := by decide +kernel
theorem dX5_fitsNumbers_26 : decode cX5_fitsNumbers 26 = .ok (.getfield 54, 3) := by decide +kernel
theorem dX5_fitsNumbers_29 : decode cX5_fitsNumbers 29 = .ok (.iload_n 3, 1) := by decide +kernel
theorem dX5_fitsNumbers_30 : decode cX5_fitsNumbers 30 = .ok (.iaload, 1) := by decide +kernel
theorem dX5_fitsNumbers_31 : decode cX5_fitsNumbers 31 = .ok (.istore 4, 2) := by decide +kernel
theorem dX5_fitsNumbers_33 : decode cX5_fitsNumbers 33 = .ok (.aload_n 0, 1) := by decide +kernel
theorem dX5_fitsNumbers_34 : decode cX5_fitsNumbers 34 = .ok (.getfield 16, 3) := by decide +kernel
theorem dX5_fitsNumbers_37 : decode cX5_fitsNumbers 37 = .ok (.iload_n 1, 1) := by decide +kernel
theorem dX5_fitsNumbers_38 : decode cX5_fitsNumbers 38 = .ok (.iload_n 2, 1) := by decide +kernel
theorem dX5_fitsNumbers_39 : decode cX5_fitsNumbers 39 = .ok (.iload_n 3, 1) := by decide +kernel
theorem dX5_fitsNumbers_40 : decode cX5_fitsNumbers 40 = .ok (.invokevirtual 144, 3) := by decide +kernel
theorem dX5_fitsNumbers_43 : decode cX5_fitsNumbers 43 = .ok (.iload 4, 2) := by decide +kernel
theorem dX5_fitsNumbers_45 : decode cX5_fitsNumbers 45 = .ok (.if_icmp .eq 5, 3) := by decide +kernel
theorem dX5_fitsNumbers_48 : decode cX5_fitsNumbers 48 = .ok (.iconst 0, 1) := by decide +kernel
theorem dX5_fitsNumbers_49 : decode cX5_fitsNumbers 49 = .ok (.ireturn, 1) := by decide +kernel
theorem dX5_fitsNumbers_50 : decode cX5_fitsNumbers 50 = .ok (.iinc 3 1, 3) := by decide +kernel
theorem dX5_fitsNumbers_53 : decode cX5_fitsNumbers 53 = .ok (.goto (-51), 3) := by decide +kernel
theorem dX5_fitsNumbers_56 : decode cX5_fitsNumbers 56 = .ok (.iconst 1, 1) := by decide +kernel
theorem dX5_fitsNumbers_57 : decode cX5_fitsNumbers 57 = .ok (.ireturn, 1) := by decide +kernel
theorem dX5_bestShutter_0 : decode cX5_bestShutter 0 = .ok (.aload_n 0, 1) := by decide +kernel
theorem dX5_bestShutter_1 : decode cX5_bestShutter 1 = .ok (.getfield 16, 3) := by decide +kernel
theorem dX5_bestShutter_4 : decode cX5_bestShutter 4 = .ok (.aload_n 0, 1) := by decide +kernel
theorem dX5_bestShutter_5 : decode cX5_bestShutter 5 = .ok (.getfield 12, 3) := by decide +kernel
theorem dX5_bestShutter_8 : decode cX5_bestShutter 8 = .ok (.invokevirtual 76, 3) := by decide +kernel
theorem dX5_bestShutter_11 : decode cX5_bestShutter 11 = .ok (.aload_n 0, 1) := by decide +kernel
theorem dX5_bestShutter_12 : decode cX5_bestShutter 12 = .ok (.getfield 16, 3) := by decide +kernel
theorem dX5_bestShutter_15 : decode cX5_bestShutter 15 = .ok (.dup, 1) := by decide +kernel
theorem dX5_bestShutter_16 : decode cX5_bestShutter 16 = .ok (.getfield 286, 3) := by decide +kernel
theorem dX5_bestShutter_19 : decode cX5_bestShutter 19 = .ok (.iconst 1, 1) := by decide +kernel
theorem dX5_bestShutter_20 : decode cX5_bestShutter 20 = .ok (.iload_n 1, 1) := by decide +kernel
theorem dX5_bestShutter_21 : decode cX5_bestShutter 21 = .ok (.ishl, 1) := by decide +kernel
theorem dX5_bestShutter_22 : decode cX5_bestShutter 22 = .ok (.ior, 1) := by decide +kernel
theorem dX5_bestShutter_23 : decode cX5_bestShutter 23 = .ok (.putfield 286, 3) := by decide +kernel
theorem dX5_bestShutter_26 : decode cX5_bestShutter 26 = .ok (.aload_n 0, 1) := by decide +kernel
theorem dX5_bestShutter_27 : decode cX5_bestShutter 27 = .ok (.getfield 16, 3) := by decide +kernel
theorem dX5_bestShutter_30 : decode cX5_bestShutter 30 = .ok (.iload_n 1, 1) := by decide +kernel
theorem dX5_bestShutter_31 : decode cX5_bestShutter 31 = .ok (.iload_n 2, 1) := by decide +kernel
theorem dX5_bestShutter_32 : decode cX5_bestShutter 32 = .ok (.invokevirtual 113, 3) := by decide +kernel
theorem dX5_bestShutter_35 : decode cX5_bestShutter 35 = .ok (.invokestatic 239, 3) := by decide +kernel
theorem dX5_bestShutter_38 : decode cX5_bestShutter 38 = .ok (.iconst 1, 1) := by decide +kernel
theorem dX5_bestShutter_39 : decode cX5_bestShutter 39 = .ok (.isub, 1) := by decide +kernel
theorem dX5_bestShutter_40 : decode cX5_bestShutter 40 = .ok (.istore_n 3, 1) := by decide +kernel
theorem dX5_bestShutter_41 : decode cX5_bestShutter 41 = .ok (.aload_n 0, 1) := by decide +kernel
theorem dX5_bestShutter_42 : decode cX5_bestShutter 42 = .ok (.getfield 16, 3) := by decide +kernel
theorem dX5_bestShutter_45 : decode cX5_bestShutter 45 = .ok (.iload_n 1, 1) := by decide +kernel
theorem dX5_bestShutter_46 : decode cX5_bestShutter 46 = .ok (.invokevirtual 167, 3) := by decide +kernel
theorem dX5_bestShutter_49 : decode cX5_bestShutter 49 = .ok (.pop, 1) := by decide +kernel
theorem dX5_bestShutter_50 : decode cX5_bestShutter 50 = .ok (.aload_n 0, 1) := by decide +kernel
theorem dX5_bestShutter_51 : decode cX5_bestShutter 51 = .ok (.getfield 16, 3) := by decide +kernel
theorem dX5_bestShutter_54 : decode cX5_bestShutter 54 = .ok (.iload_n 1, 1) := by decide +kernel
theorem dX5_bestShutter_55 : decode cX5_bestShutter 55 = .ok (.iload_n 2, 1) := by decide +kernel
theorem dX5_bestShutter_56 : decode cX5_bestShutter 56 = .ok (.invokevirtual 113, 3) := by decide +kernel
theorem dX5_bestShutter_59 : decode cX5_bestShutter 59 = .ok (.invokestatic 239, 3) := by decide +kernel
theorem dX5_bestShutter_62 : decode cX5_bestShutter 62 = .ok (.istore 4, 2) := by decide +kernel
theorem dX5_bestShutter_64 : decode cX5_bestShutter 64 = .ok (.iload 4, 2) := by decide +kernel
theorem dX5_bestShutter_66 : decode cX5_bestShutter 66 = .ok (.iload_n 3, 1) := by decide +kernel
theorem dX5_bestShutter_67 : decode cX5_bestShutter 67 = .ok (.if_icmp .le 7, 3) := by decide +kernel
theorem dX5_bestShutter_70 : decode cX5_bestShutter 70 = .ok (.iconst 1, 1) := by decide +kernel
theorem dX5_bestShutter_71 : decode cX5_bestShutter 71 = .ok (.goto 4, 3) := by decide +kernel
theorem dX5_bestShutter_74 : decode cX5_bestShutter 74 = .ok (.iconst 0, 1) := by decide +kernel
theorem dX5_bestShutter_75 : decode cX5_bestShutter 75 = .ok (.ireturn, 1) := by decide +kernel
theorem dX5_highestAge_0 : decode cX5_highestAge 0 = .ok (.iconst (-1), 1) := by decide +kernel
theorem dX5_highestAge_1 : decode cX5_highestAge 1 = .ok (.istore_n 1, 1) := by decide +kernel
theorem dX5_highestAge_2 : decode cX5_highestAge 2 = .ok (.iconst 0, 1) := by decide +kernel
theorem dX5_highestAge_3 : decode cX5_highestAge 3 = .ok (.istore_n 2, 1) := by decide +kernel
theorem dX5_highestAge_4 : decode cX5_highestAge 4 = .ok (.iload_n 2, 1) := by decide +kernel
theorem dX5_highestAge_5 : decode cX5_highestAge 5 = .ok (.aload_n 0, 1) := by decide +kernel
theorem dX5_highestAge_6 : decode cX5_highestAge 6 = .ok (.getfield 12, 3) := by decide +kernel
theorem dX5_highestAge_9 : decode cX5_highestAge 9 = .ok (.getfield 158, 3) := by decide +kernel
theorem dX5_highestAge_12 : decode cX5_highestAge 12 = .ok (.if_icmp .ge 22, 3) := by decide +kernel
theorem dX5_highestAge_15 : decode cX5_highestAge 15 = .ok (.iload_n 1, 1) := by decide +kernel
theorem dX5_highestAge_16 : decode cX5_highestAge 16 = .ok (.aload_n 0, 1) := by decide +kernel
theorem dX5_highestAge_17 : decode cX5_highestAge 17 = .ok (.getfield 12, 3) := by decide +kernel
theorem dX5_highestAge_20 : decode cX5_highestAge 20 = .ok (.iload_n 2, 1) := by decide +kernel
theorem dX5_highestAge_21 : decode cX5_highestAge 21 = .ok (.invokevirtual 305, 3) := by decide +kernel
theorem dX5_highestAge_24 : decode cX5_highestAge 24 = .ok (.invokestatic 275, 3) := by decide +kernel
theorem dX5_highestAge_27 : decode cX5_highestAge 27 = .ok (.istore_n 1, 1) := by decide +kernel
theorem dX5_highestAge_28 : decode cX5_highestAge 28 = .ok (.iinc 2 1, 3) := by decide +kernel
theorem dX5_highestAge_31 : decode cX5_highestAge 31 = .ok (.goto (-27), 3) := by decide +kernel
theorem dX5_highestAge_34 : decode cX5_highestAge 34 = .ok (.iload_n 1, 1) := by decide +kernel
theorem dX5_highestAge_35 : decode cX5_highestAge 35 = .ok (.ireturn, 1) := by decide +kernel
theorem dX5_longestOwing_0 : decode cX5_longestOwing 0 = .ok (.aload_n 0, 1) := by decide +kernel
theorem dX5_longestOwing_1 : decode cX5_longestOwing 1 = .ok (.invokevirtual 272, 3) := by decide +kernel
theorem dX5_longestOwing_4 : decode cX5_longestOwing 4 = .ok (.istore_n 1, 1) := by decide +kernel
theorem dX5_longestOwing_5 : decode cX5_longestOwing 5 = .ok (.iconst 0, 1) := by decide +kernel
theorem dX5_longestOwing_6 : decode cX5_longestOwing 6 = .ok (.istore_n 2, 1) := by decide +kernel
theorem dX5_longestOwing_7 : decode cX5_longestOwing 7 = .ok (.iload_n 2, 1) := by decide +kernel
theorem dX5_longestOwing_8 : decode cX5_longestOwing 8 = .ok (.aload_n 0, 1) := by decide +kernel
theorem dX5_longestOwing_9 : decode cX5_longestOwing 9 = .ok (.getfield 12, 3) := by decide +kernel
theorem dX5_longestOwing_12 : decode cX5_longestOwing 12 = .ok (.getfield 158, 3) := by decide +kernel
theorem dX5_longestOwing_15 : decode cX5_longestOwing 15 = .ok (.if_icmp .ge 28, 3) := by decide +kernel
theorem dX5_longestOwing_18 : decode cX5_longestOwing 18 = .ok (.iload_n 1, 1) := by decide +kernel
theorem dX5_longestOwing_19 : decode cX5_longestOwing 19 = .ok (.iconst (-1), 1) := by decide +kernel
theorem dX5_longestOwing_20 : decode cX5_longestOwing 20 = .ok (.if_icmp .eq 17, 3) := by decide +kernel
theorem dX5_longestOwing_23 : decode cX5_longestOwing 23 = .ok (.aload_n 0, 1) := by decide +kernel
theorem dX5_longestOwing_24 : decode cX5_longestOwing 24 = .ok (.getfield 12, 3) := by decide +kernel
theorem dX5_longestOwing_27 : decode cX5_longestOwing 27 = .ok (.iload_n 2, 1) := by decide +kernel
theorem dX5_longestOwing_28 : decode cX5_longestOwing 28 = .ok (.invokevirtual 305, 3) := by decide +kernel
theorem dX5_longestOwing_31 : decode cX5_longestOwing 31 = .ok (.iload_n 1, 1) := by decide +kernel
theorem dX5_longestOwing_32 : decode cX5_longestOwing 32 = .ok (.if_icmp .ne 5, 3) := by decide +kernel
theorem dX5_longestOwing_35 : decode cX5_longestOwing 35 = .ok (.iload_n 2, 1) := by decide +kernel
theorem dX5_longestOwing_36 : decode cX5_longestOwing 36 = .ok (.ireturn, 1) := by decide +kernel
theorem dX5_longestOwing_37 : decode cX5_longestOwing 37 = .ok (.iinc 2 1, 3) := by decide +kernel
theorem dX5_longestOwing_40 : decode cX5_longestOwing 40 = .ok (.goto (-33), 3) := by decide +kernel
theorem dX5_longestOwing_43 : decode cX5_longestOwing 43 = .ok (.bipush (-9), 2) := by decide +kernel
theorem dX5_longestOwing_45 : decode cX5_longestOwing 45 = .ok (.ireturn, 1) := by decide +kernel
theorem dX5_lane_0 : decode cX5_lane 0 = .ok (.iconst 0, 1) := by decide +kernel
theorem dX5_lane_1 : decode cX5_lane 1 = .ok (.istore_n 1, 1) := by decide +kernel
theorem dX5_lane_2 : decode cX5_lane 2 = .ok (.iconst 0, 1) := by decide +kernel
theorem dX5_lane_3 : decode cX5_lane 3 = .ok (.istore_n 2, 1) := by decide +kernel
theorem dX5_lane_4 : decode cX5_lane 4 = .ok (.iload_n 2, 1) := by decide +kernel
theorem dX5_lane_5 : decode cX5_lane 5 = .ok (.aload_n 0, 1) := by decide +kernel
theorem dX5_lane_6 : decode cX5_lane 6 = .ok (.getfield 12, 3) := by decide +kernel
theorem dX5_lane_9 : decode cX5_lane 9 = .ok (.getfield 148, 3) := by decide +kernel
theorem dX5_lane_12 : decode cX5_lane 12 = .ok (.if_icmp .ge 92, 3) := by decide +kernel
theorem dX5_lane_15 : decode cX5_lane 15 = .ok (.iload_n 2, 1) := by decide +kernel
theorem dX5_lane_16 : decode cX5_lane 16 = .ok (.iconst 1, 1) := by decide +kernel
theorem dX5_lane_17 : decode cX5_lane 17 = .ok (.iadd, 1) := by decide +kernel
theorem dX5_lane_18 : decode cX5_lane 18 = .ok (.istore_n 3, 1) := by decide +kernel
theorem dX5_lane_19 : decode cX5_lane 19 = .ok (.iload_n 3, 1) := by decide +kernel
theorem dX5_lane_20 : decode cX5_lane 20 = .ok (.aload_n 0, 1) := by decide +kernel
theorem dX5_lane_21 : decode cX5_lane 21 = .ok (.getfield 12, 3) := by decide +kernel
theorem dX5_lane_24 : decode cX5_lane 24 = .ok (.getfield 148, 3) := by decide +kernel
theorem dX5_lane_27 : decode cX5_lane 27 = .ok (.if_icmp .ge 71, 3) := by decide +kernel
theorem dX5_lane_30 : decode cX5_lane 30 = .ok (.aload_n 0, 1) := by decide +kernel
theorem dX5_lane_31 : decode cX5_lane 31 = .ok (.getfield 12, 3) := by decide +kernel
theorem dX5_lane_34 : decode cX5_lane 34 = .ok (.iload_n 2, 1) := by decide +kernel
theorem dX5_lane_35 : decode cX5_lane 35 = .ok (.invokevirtual 103, 3) := by decide +kernel
theorem dX5_lane_38 : decode cX5_lane 38 = .ok (.ifCond .eq 18, 3) := by decide +kernel
theorem dX5_lane_41 : decode cX5_lane 41 = .ok (.aload_n 0, 1) := by decide +kernel
theorem dX5_lane_42 : decode cX5_lane 42 = .ok (.getfield 12, 3) := by decide +kernel
theorem dX5_lane_45 : decode cX5_lane 45 = .ok (.iload_n 3, 1) := by decide +kernel
theorem dX5_lane_46 : decode cX5_lane 46 = .ok (.invokevirtual 103, 3) := by decide +kernel
theorem dX5_lane_49 : decode cX5_lane 49 = .ok (.ifCond .eq 7, 3) := by decide +kernel
theorem dX5_lane_52 : decode cX5_lane 52 = .ok (.iconst 1, 1) := by decide +kernel
theorem dX5_lane_53 : decode cX5_lane 53 = .ok (.goto 4, 3) := by decide +kernel
theorem dX5_lane_56 : decode cX5_lane 56 = .ok (.iconst 0, 1) := by decide +kernel
theorem dX5_lane_57 : decode cX5_lane 57 = .ok (.istore 4, 2) := by decide +kernel
theorem dX5_lane_59 : decode cX5_lane 59 = .ok (.iload 4, 2) := by decide +kernel
theorem dX5_lane_61 : decode cX5_lane 61 = .ok (.ifCond .eq 31, 3) := by decide +kernel
theorem dX5_lane_64 : decode cX5_lane 64 = .ok (.aload_n 0, 1) := by decide +kernel
theorem dX5_lane_65 : decode cX5_lane 65 = .ok (.getfield 12, 3) := by decide +kernel
theorem dX5_lane_68 : decode cX5_lane 68 = .ok (.getfield 100, 3) := by decide +kernel
theorem dX5_lane_71 : decode cX5_lane 71 = .ok (.iload_n 2, 1) := by decide +kernel
theorem dX5_lane_72 : decode cX5_lane 72 = .ok (.iaload, 1) := by decide +kernel
theorem dX5_lane_73 : decode cX5_lane 73 = .ok (.aload_n 0, 1) := by decide +kernel
theorem dX5_lane_74 : decode cX5_lane 74 = .ok (.getfield 12, 3) := by decide +kernel
theorem dX5_lane_77 : decode cX5_lane 77 = .ok (.getfield 100, 3) := by decide +kernel
theorem dX5_lane_80 : decode cX5_lane 80 = .ok (.iload_n 3, 1) := by decide +kernel
theorem dX5_lane_81 : decode cX5_lane 81 = .ok (.iaload, 1) := by decide +kernel
theorem dX5_lane_82 : decode cX5_lane 82 = .ok (.invokestatic 204, 3) := by decide +kernel
theorem dX5_lane_85 : decode cX5_lane 85 = .ok (.iconst 2, 1) := by decide +kernel
theorem dX5_lane_86 : decode cX5_lane 86 = .ok (.if_icmp .gt 6, 3) := by decide +kernel
theorem dX5_lane_89 : decode cX5_lane 89 = .ok (.iinc 1 1, 3) := by decide +kernel
theorem dX5_lane_92 : decode cX5_lane 92 = .ok (.iinc 3 1, 3) := by decide +kernel
theorem dX5_lane_95 : decode cX5_lane 95 = .ok (.goto (-76), 3) := by decide +kernel
theorem dX5_lane_98 : decode cX5_lane 98 = .ok (.iinc 2 1, 3) := by decide +kernel
theorem dX5_lane_101 : decode cX5_lane 101 = .ok (.goto (-97), 3) := by decide +kernel
theorem dX5_lane_104 : decode cX5_lane 104 = .ok (.iload_n 1, 1) := by decide +kernel
theorem dX5_lane_105 : decode cX5_lane 105 = .ok (.ireturn, 1) := by decide +kernel
theorem dX5_eveningsOfNewDebts_0 : decode cX5_eveningsOfNewDebts 0 = .ok (.lconst 0, 1) := by decide +kernel
theorem dX5_eveningsOfNewDebts_1 : decode cX5_eveningsOfNewDebts 1 = .ok (.lstore_n 1, 1) := by decide +kernel
theorem dX5_eveningsOfNewDebts_2 : decode cX5_eveningsOfNewDebts 2 = .ok (.iconst 0, 1) := by decide +kernel
theorem dX5_eveningsOfNewDebts_3 : decode cX5_eveningsOfNewDebts 3 = .ok (.istore_n 3, 1) := by decide +kernel
theorem dX5_eveningsOfNewDebts_4 : decode cX5_eveningsOfNewDebts 4 = .ok (.iload_n 3, 1) := by decide +kernel
theorem dX5_eveningsOfNewDebts_5 : decode cX5_eveningsOfNewDebts 5 = .ok (.aload_n 0, 1) := by decide +kernel
theorem dX5_eveningsOfNewDebts_6 : decode cX5_eveningsOfNewDebts 6 = .ok (.getfield 12, 3) := by decide +kernel
theorem dX5_eveningsOfNewDebts_9 : decode cX5_eveningsOfNewDebts 9 = .ok (.getfield 158, 3) := by decide +kernel
theorem dX5_eveningsOfNewDebts_12 : decode cX5_eveningsOfNewDebts 12 = .ok (.if_icmp .ge 72, 3) := by decide +kernel
theorem dX5_eveningsOfNewDebts_15 : decode cX5_eveningsOfNewDebts 15 = .ok (.iconst 0, 1) := by decide +kernel
theorem dX5_eveningsOfNewDebts_16 : decode cX5_eveningsOfNewDebts 16 = .ok (.istore 4, 2) := by decide +kernel
theorem dX5_eveningsOfNewDebts_18 : decode cX5_eveningsOfNewDebts 18 = .ok (.iload 4, 2) := by decide +kernel
theorem dX5_eveningsOfNewDebts_20 : decode cX5_eveningsOfNewDebts 20 = .ok (.aload_n 0, 1) := by decide +kernel
theorem dX5_eveningsOfNewDebts_21 : decode cX5_eveningsOfNewDebts 21 = .ok (.getfield 12, 3) := by decide +kernel
theorem dX5_eveningsOfNewDebts_24 : decode cX5_eveningsOfNewDebts 24 = .ok (.getfield 148, 3) := by decide +kernel
theorem dX5_eveningsOfNewDebts_27 : decode cX5_eveningsOfNewDebts 27 = .ok (.if_icmp .ge 51, 3) := by decide +kernel
theorem dX5_eveningsOfNewDebts_30 : decode cX5_eveningsOfNewDebts 30 = .ok (.aload_n 0, 1) := by decide +kernel
theorem dX5_eveningsOfNewDebts_31 : decode cX5_eveningsOfNewDebts 31 = .ok (.getfield 12, 3) := by decide +kernel
theorem dX5_eveningsOfNewDebts_34 : decode cX5_eveningsOfNewDebts 34 = .ok (.iload_n 3, 1) := by decide +kernel
theorem dX5_eveningsOfNewDebts_35 : decode cX5_eveningsOfNewDebts 35 = .ok (.iload 4, 2) := by decide +kernel
theorem dX5_eveningsOfNewDebts_37 : decode cX5_eveningsOfNewDebts 37 = .ok (.invokevirtual 140, 3) := by decide +kernel
theorem dX5_eveningsOfNewDebts_40 : decode cX5_eveningsOfNewDebts 40 = .ok (.ifCond .eq 6, 3) := by decide +kernel
theorem dX5_eveningsOfNewDebts_43 : decode cX5_eveningsOfNewDebts 43 = .ok (.goto 29, 3) := by decide +kernel
theorem dX5_eveningsOfNewDebts_46 : decode cX5_eveningsOfNewDebts 46 = .ok (.aload_n 0, 1) := by decide +kernel
theorem dX5_eveningsOfNewDebts_47 : decode cX5_eveningsOfNewDebts 47 = .ok (.getfield 12, 3) := by decide +kernel
theorem dX5_eveningsOfNewDebts_50 : decode cX5_eveningsOfNewDebts 50 = .ok (.iload_n 3, 1) := by decide +kernel
theorem dX5_eveningsOfNewDebts_51 : decode cX5_eveningsOfNewDebts 51 = .ok (.iload 4, 2) := by decide +kernel
theorem dX5_eveningsOfNewDebts_53 : decode cX5_eveningsOfNewDebts 53 = .ok (.bipush 61, 2) := by decide +kernel
theorem dX5_eveningsOfNewDebts_55 : decode cX5_eveningsOfNewDebts 55 = .ok (.invokevirtual 201, 3) := by decide +kernel
theorem dX5_eveningsOfNewDebts_58 : decode cX5_eveningsOfNewDebts 58 = .ok (.istore 5, 2) := by decide +kernel
theorem dX5_eveningsOfNewDebts_60 : decode cX5_eveningsOfNewDebts 60 = .ok (.iload 5, 2) := by decide +kernel
theorem dX5_eveningsOfNewDebts_62 : decode cX5_eveningsOfNewDebts 62 = .ok (.ifCond .le 10, 3) := by decide +kernel
theorem dX5_eveningsOfNewDebts_65 : decode cX5_eveningsOfNewDebts 65 = .ok (.lload_n 1, 1) := by decide +kernel
theorem dX5_eveningsOfNewDebts_66 : decode cX5_eveningsOfNewDebts 66 = .ok (.lconst 1, 1) := by decide +kernel
theorem dX5_eveningsOfNewDebts_67 : decode cX5_eveningsOfNewDebts 67 = .ok (.iload 5, 2) := by decide +kernel
theorem dX5_eveningsOfNewDebts_69 : decode cX5_eveningsOfNewDebts 69 = .ok (.lshl, 1) := by decide +kernel
theorem dX5_eveningsOfNewDebts_70 : decode cX5_eveningsOfNewDebts 70 = .ok (.lor, 1) := by decide +kernel
theorem dX5_eveningsOfNewDebts_71 : decode cX5_eveningsOfNewDebts 71 = .ok (.lstore_n 1, 1) := by decide +kernel
theorem dX5_eveningsOfNewDebts_72 : decode cX5_eveningsOfNewDebts 72 = .ok (.iinc 4 1, 3) := by decide +kernel
theorem dX5_eveningsOfNewDebts_75 : decode cX5_eveningsOfNewDebts 75 = .ok (.goto (-57), 3) := by decide +kernel
theorem dX5_eveningsOfNewDebts_78 : decode cX5_eveningsOfNewDebts 78 = .ok (.iinc 3 1, 3) := by decide +kernel
theorem dX5_eveningsOfNewDebts_81 : decode cX5_eveningsOfNewDebts 81 = .ok (.goto (-77), 3) := by decide +kernel
theorem dX5_eveningsOfNewDebts_84 : decode cX5_eveningsOfNewDebts 84 = .ok (.lload_n 1, 1) := by decide +kernel
theorem dX5_eveningsOfNewDebts_85 : decode cX5_eveningsOfNewDebts 85 = .ok (.lreturn, 1) := by decide +kernel
theorem dX5_nextSeed_0 : decode cX5_nextSeed 0 = .ok (.iload_n 0, 1) := by decide +kernel
theorem dX5_nextSeed_1 : decode cX5_nextSeed 1 = .ok (.ldc_w 308, 3) := by decide +kernel
theorem dX5_nextSeed_4 : decode cX5_nextSeed 4 = .ok (.imul, 1) := by decide +kernel
theorem dX5_nextSeed_5 : decode cX5_nextSeed 5 = .ok (.sipush 12345, 3) := by decide +kernel
theorem dX5_nextSeed_8 : decode cX5_nextSeed 8 = .ok (.iadd, 1) := by decide +kernel
theorem dX5_nextSeed_9 : decode cX5_nextSeed 9 = .ok (.ireturn, 1) := by decide +kernel
theorem dX5_drawnCell_0 : decode cX5_drawnCell 0 = .ok (.iload_n 0, 1) := by decide +kernel
theorem dX5_drawnCell_1 : decode cX5_drawnCell 1 = .ok (.ldc_w 309, 3) := by decide +kernel
theorem dX5_drawnCell_4 : decode cX5_drawnCell 4 = .ok (.iand, 1) := by decide +kernel
theorem dX5_drawnCell_5 : decode cX5_drawnCell 5 = .ok (.ldc_w 310, 3) := by decide +kernel
theorem dX5_drawnCell_8 : decode cX5_drawnCell 8 = .ok (.idiv, 1) := by decide +kernel
theorem dX5_drawnCell_9 : decode cX5_drawnCell 9 = .ok (.bipush 49, 2) := by decide +kernel
theorem dX5_drawnCell_11 : decode cX5_drawnCell 11 = .ok (.irem, 1) := by decide +kernel
theorem dX5_drawnCell_12 : decode cX5_drawnCell 12 = .ok (.ireturn, 1) := by decide +kernel
theorem dX5_isCell_0 : decode cX5_isCell 0 = .ok (.iload_n 0, 1) := by decide +kernel
theorem dX5_isCell_1 : decode cX5_isCell 1 = .ok (.ifCond .lt 13, 3) := by decide +kernel
theorem dX5_isCell_4 : decode cX5_isCell 4 = .ok (.iload_n 0, 1) := by decide +kernel
theorem dX5_isCell_5 : decode cX5_isCell 5 = .ok (.bipush 49, 2) := by decide +kernel
theorem dX5_isCell_7 : decode cX5_isCell 7 = .ok (.if_icmp .ge 7, 3) := by decide +kernel
theorem dX5_isCell_10 : decode cX5_isCell 10 = .ok (.iconst 1, 1) := by decide +kernel
theorem dX5_isCell_11 : decode cX5_isCell 11 = .ok (.goto 4, 3) := by decide +kernel
theorem dX5_isCell_14 : decode cX5_isCell 14 = .ok (.iconst 0, 1) := by decide +kernel
theorem dX5_isCell_15 : decode cX5_isCell 15 = .ok (.ireturn, 1) := by decide +kernel
theorem dX5_steps_0 : decode cX5_steps 0 = .ok (.iload_n 0, 1) := by decide +kernel
theorem dX5_steps_1 : decode cX5_steps 1 = .ok (.bipush 7, 2) := by decide +kernel
theorem dX5_steps_3 : decode cX5_steps 3 = .ok (.idiv, 1) := by decide +kernel
theorem dX5_steps_4 : decode cX5_steps 4 = .ok (.iload_n 1, 1) := by decide +kernel
theorem dX5_steps_5 : decode cX5_steps 5 = .ok (.bipush 7, 2) := by decide +kernel
theorem dX5_steps_7 : decode cX5_steps 7 = .ok (.idiv, 1) := by decide +kernel
theorem dX5_steps_8 : decode cX5_steps 8 = .ok (.isub, 1) := by decide +kernel
theorem dX5_steps_9 : decode cX5_steps 9 = .ok (.invokestatic 311, 3) := by decide +kernel
theorem dX5_steps_12 : decode cX5_steps 12 = .ok (.iload_n 0, 1) := by decide +kernel
theorem dX5_steps_13 : decode cX5_steps 13 = .ok (.bipush 7, 2) := by decide +kernel
theorem dX5_steps_15 : decode cX5_steps 15 = .ok (.irem, 1) := by decide +kernel
theorem dX5_steps_16 : decode cX5_steps 16 = .ok (.iload_n 1, 1) := by decide +kernel
theorem dX5_steps_17 : decode cX5_steps 17 = .ok (.bipush 7, 2) := by decide +kernel
theorem dX5_steps_19 : decode cX5_steps 19 = .ok (.irem, 1) := by decide +kernel
theorem dX5_steps_20 : decode cX5_steps 20 = .ok (.isub, 1) := by decide +kernel
theorem dX5_steps_21 : decode cX5_steps 21 = .ok (.invokestatic 311, 3) := by decide +kernel
theorem dX5_steps_24 : decode cX5_steps 24 = .ok (.iadd, 1) := by decide +kernel
theorem dX5_steps_25 : decode cX5_steps 25 = .ok (.ireturn, 1) := by decide +kernel
theorem dX5_stepTowards_0 : decode cX5_stepTowards 0 = .ok (.iload_n 0, 1) := by decide +kernel
theorem dX5_stepTowards_1 : decode cX5_stepTowards 1 = .ok (.bipush 7, 2) := by decide +kernel
theorem dX5_stepTowards_3 : decode cX5_stepTowards 3 = .ok (.idiv, 1) := by decide +kernel
theorem dX5_stepTowards_4 : decode cX5_stepTowards 4 = .ok (.iload_n 1, 1) := by decide +kernel
theorem dX5_stepTowards_5 : decode cX5_stepTowards 5 = .ok (.bipush 7, 2) := by decide +kernel
theorem dX5_stepTowards_7 : decode cX5_stepTowards 7 = .ok (.idiv, 1) := by decide +kernel
theorem dX5_stepTowards_8 : decode cX5_stepTowards 8 = .ok (.if_icmp .ge 8, 3) := by decide +kernel
theorem dX5_stepTowards_11 : decode cX5_stepTowards 11 = .ok (.iload_n 0, 1) := by decide +kernel
theorem dX5_stepTowards_12 : decode cX5_stepTowards 12 = .ok (.bipush 7, 2) := by decide +kernel
theorem dX5_stepTowards_14 : decode cX5_stepTowards 14 = .ok (.iadd, 1) := by decide +kernel
theorem dX5_stepTowards_15 : decode cX5_stepTowards 15 = .ok (.ireturn, 1) := by decide +kernel
theorem dX5_stepTowards_16 : decode cX5_stepTowards 16 = .ok (.iload_n 0, 1) := by decide +kernel
theorem dX5_stepTowards_17 : decode cX5_stepTowards 17 = .ok (.bipush 7, 2) := by decide +kernel
theorem dX5_stepTowards_19 : decode cX5_stepTowards 19 = .ok (.idiv, 1) := by decide +kernel
theorem dX5_stepTowards_20 : decode cX5_stepTowards 20 = .ok (.iload_n 1, 1) := by decide +kernel
theorem dX5_stepTowards_21 : decode cX5_stepTowards 21 = .ok (.bipush 7, 2) := by decide +kernel
theorem dX5_stepTowards_23 : decode cX5_stepTowards 23 = .ok (.idiv, 1) := by decide +kernel
theorem dX5_stepTowards_24 : decode cX5_stepTowards 24 = .ok (.if_icmp .le 8, 3) := by decide +kernel
theorem dX5_stepTowards_27 : decode cX5_stepTowards 27 = .ok (.iload_n 0, 1) := by decide +kernel
theorem dX5_stepTowards_28 : decode cX5_stepTowards 28 = .ok (.bipush 7, 2) := by decide +kernel
theorem dX5_stepTowards_30 : decode cX5_stepTowards 30 = .ok (.isub, 1) := by decide +kernel
theorem dX5_stepTowards_31 : decode cX5_stepTowards 31 = .ok (.ireturn, 1) := by decide +kernel
theorem dX5_stepTowards_32 : decode cX5_stepTowards 32 = .ok (.iload_n 0, 1) := by decide +kernel
theorem dX5_stepTowards_33 : decode cX5_stepTowards 33 = .ok (.iload_n 1, 1) := by decide +kernel
theorem dX5_stepTowards_34 : decode cX5_stepTowards 34 = .ok (.iload_n 0, 1) := by decide +kernel
theorem dX5_stepTowards_35 : decode cX5_stepTowards 35 = .ok (.invokestatic 314, 3) := by decide +kernel
theorem dX5_stepTowards_38 : decode cX5_stepTowards 38 = .ok (.iadd, 1) := by decide +kernel
theorem dX5_stepTowards_39 : decode cX5_stepTowards 39 = .ok (.ireturn, 1) := by decide +kernel
theorem dX5_reach_0 : decode cX5_reach 0 = .ok (.iload_n 0, 1) := by decide +kernel
theorem dX5_reach_1 : decode cX5_reach 1 = .ok (.tableswitch 57 0 5 #[39, 41, 57, 43, 49, 51], 39) := by decide +kernel
theorem dX5_reach_40 : decode cX5_reach 40 = .ok (.iconst 2, 1) := by decide +kernel
theorem dX5_reach_41 : decode cX5_reach 41 = .ok (.ireturn, 1) := by decide +kernel
theorem dX5_reach_42 : decode cX5_reach 42 = .ok (.iconst 3, 1) := by decide +kernel
theorem dX5_reach_43 : decode cX5_reach 43 = .ok (.ireturn, 1) := by decide +kernel
theorem dX5_reach_44 : decode cX5_reach 44 = .ok (.iconst 2, 1) := by decide +kernel
theorem dX5_reach_45 : decode cX5_reach 45 = .ok (.iload_n 1, 1) := by decide +kernel
theorem dX5_reach_46 : decode cX5_reach 46 = .ok (.iconst 2, 1) := by decide +kernel
theorem dX5_reach_47 : decode cX5_reach 47 = .ok (.idiv, 1) := by decide +kernel
theorem dX5_reach_48 : decode cX5_reach 48 = .ok (.iadd, 1) := by decide +kernel
theorem dX5_reach_49 : decode cX5_reach 49 = .ok (.ireturn, 1) := by decide +kernel
theorem dX5_reach_50 : decode cX5_reach 50 = .ok (.iconst 1, 1) := by decide +kernel
theorem dX5_reach_51 : decode cX5_reach 51 = .ok (.ireturn, 1) := by decide +kernel
theorem dX5_reach_52 : decode cX5_reach 52 = .ok (.iconst 4, 1) := by decide +kernel
theorem dX5_reach_53 : decode cX5_reach 53 = .ok (.iload_n 1, 1) := by decide +kernel
theorem dX5_reach_54 : decode cX5_reach 54 = .ok (.iconst 2, 1) := by decide +kernel
theorem dX5_reach_55 : decode cX5_reach 55 = .ok (.idiv, 1) := by decide +kernel
theorem dX5_reach_56 : decode cX5_reach 56 = .ok (.iadd, 1) := by decide +kernel
theorem dX5_reach_57 : decode cX5_reach 57 = .ok (.ireturn, 1) := by decide +kernel
theorem dX5_reach_58 : decode cX5_reach 58 = .ok (.iconst 0, 1) := by decide +kernel
theorem dX5_reach_59 : decode cX5_reach 59 = .ok (.ireturn, 1) := by decide +kernel
theorem dX5_minutes_0 : decode cX5_minutes 0 = .ok (.iload_n 1, 1) := by decide +kernel
theorem dX5_minutes_1 : decode cX5_minutes 1 = .ok (.iconst 5, 1) := by decide +kernel
theorem dX5_minutes_2 : decode cX5_minutes 2 = .ok (.iadd, 1) := by decide +kernel
theorem dX5_minutes_3 : decode cX5_minutes 3 = .ok (.istore_n 3, 1) := by decide +kernel
theorem dX5_minutes_4 : decode cX5_minutes 4 = .ok (.iload_n 0, 1) := by decide +kernel
theorem dX5_minutes_5 : decode cX5_minutes 5 = .ok (.tableswitch 63 1 5 #[35, 39, 43, 48, 54], 35) := by decide +kernel
theorem dX5_minutes_40 : decode cX5_minutes 40 = .ok (.iconst 2, 1) := by decide +kernel
theorem dX5_minutes_41 : decode cX5_minutes 41 = .ok (.iload_n 3, 1) := by decide +kernel
theorem dX5_minutes_42 : decode cX5_minutes 42 = .ok (.imul, 1) := by decide +kernel
theorem dX5_minutes_43 : decode cX5_minutes 43 = .ok (.ireturn, 1) := by decide +kernel
theorem dX5_minutes_44 : decode cX5_minutes 44 = .ok (.iload_n 3, 1) := by decide +kernel
theorem dX5_minutes_45 : decode cX5_minutes 45 = .ok (.iconst 2, 1) := by decide +kernel
theorem dX5_minutes_46 : decode cX5_minutes 46 = .ok (.idiv, 1) := by decide +kernel
theorem dX5_minutes_47 : decode cX5_minutes 47 = .ok (.ireturn, 1) := by decide +kernel
theorem dX5_minutes_48 : decode cX5_minutes 48 = .ok (.iload_n 3, 1) := by decide +kernel
theorem dX5_minutes_49 : decode cX5_minutes 49 = .ok (.bipush 20, 2) := by decide +kernel
theorem dX5_minutes_51 : decode cX5_minutes 51 = .ok (.iadd, 1) := by decide +kernel
theorem dX5_minutes_52 : decode cX5_minutes 52 = .ok (.ireturn, 1) := by decide +kernel
theorem dX5_minutes_53 : decode cX5_minutes 53 = .ok (.iload_n 3, 1) := by decide +kernel
theorem dX5_minutes_54 : decode cX5_minutes 54 = .ok (.iconst 2, 1) := by decide +kernel
theorem dX5_minutes_55 : decode cX5_minutes 55 = .ok (.idiv, 1) := by decide +kernel
theorem dX5_minutes_56 : decode cX5_minutes 56 = .ok (.iload_n 2, 1) := by decide +kernel
theorem dX5_minutes_57 : decode cX5_minutes 57 = .ok (.iadd, 1) := by decide +kernel
theorem dX5_minutes_58 : decode cX5_minutes 58 = .ok (.ireturn, 1) := by decide +kernel
theorem dX5_minutes_59 : decode cX5_minutes 59 = .ok (.iload_n 3, 1) := by decide +kernel
theorem dX5_minutes_60 : decode cX5_minutes 60 = .ok (.bipush 20, 2) := by decide +kernel
theorem dX5_minutes_62 : decode cX5_minutes 62 = .ok (.iadd, 1) := by decide +kernel
theorem dX5_minutes_63 : decode cX5_minutes 63 = .ok (.iconst 2, 1) := by decide +kernel
theorem dX5_minutes_64 : decode cX5_minutes 64 = .ok (.iload_n 2, 1) := by decide +kernel
theorem dX5_minutes_65 : decode cX5_minutes 65 = .ok (.imul, 1) := by decide +kernel
theorem dX5_minutes_66 : decode cX5_minutes 66 = .ok (.iadd, 1) := by decide +kernel
theorem dX5_minutes_67 : decode cX5_minutes 67 = .ok (.ireturn, 1) := by decide +kernel
theorem dX5_minutes_68 : decode cX5_minutes 68 = .ok (.iload_n 3, 1) := by decide +kernel
theorem dX5_minutes_69 : decode cX5_minutes 69 = .ok (.ireturn, 1) := by decide +kernel
theorem dJ6_compare_7cf53_0 : decode cJ6_compare_7cf53 0 = .ok (.iload_n 0, 1) := by decide +kernel
theorem dJ6_compare_7cf53_1 : decode cJ6_compare_7cf53 1 = .ok (.iload_n 1, 1) := by decide +kernel
theorem dJ6_compare_7cf53_2 : decode cJ6_compare_7cf53 2 = .ok (.if_icmp .ge 7, 3) := by decide +kernel
theorem dJ6_compare_7cf53_5 : decode cJ6_compare_7cf53 5 = .ok (.iconst (-1), 1) := by decide +kernel
theorem dJ6_compare_7cf53_6 : decode cJ6_compare_7cf53 6 = .ok (.goto 13, 3) := by decide +kernel
theorem dJ6_compare_7cf53_9 : decode cJ6_compare_7cf53 9 = .ok (.iload_n 0, 1) := by decide +kernel
theorem dJ6_compare_7cf53_10 : decode cJ6_compare_7cf53 10 = .ok (.iload_n 1, 1) := by decide +kernel
theorem dJ6_compare_7cf53_11 : decode cJ6_compare_7cf53 11 = .ok (.if_icmp .ne 7, 3) := by decide +kernel
theorem dJ6_compare_7cf53_14 : decode cJ6_compare_7cf53 14 = .ok (.iconst 0, 1) := by decide +kernel
theorem dJ6_compare_7cf53_15 : decode cJ6_compare_7cf53 15 = .ok (.goto 4, 3) := by decide +kernel
theorem dJ6_compare_7cf53_18 : decode cJ6_compare_7cf53 18 = .ok (.iconst 1, 1) := by decide +kernel
theorem dJ6_compare_7cf53_19 : decode cJ6_compare_7cf53 19 = .ok (.ireturn, 1) := by decide +kernel
theorem dJ6_bitCount_0f7a4_0 : decode cJ6_bitCount_0f7a4 0 = .ok (.iload_n 0, 1) := by decide +kernel
theorem dJ6_bitCount_0f7a4_1 : decode cJ6_bitCount_0f7a4 1 = .ok (.iload_n 0, 1) := by decide +kernel
theorem dJ6_bitCount_0f7a4_2 : decode cJ6_bitCount_0f7a4 2 = .ok (.iconst 1, 1) := by decide +kernel
theorem dJ6_bitCount_0f7a4_3 : decode cJ6_bitCount_0f7a4 3 = .ok (.iushr, 1) := by decide +kernel
theorem dJ6_bitCount_0f7a4_4 : decode cJ6_bitCount_0f7a4 4 = .ok (.ldc_w 265, 3) := by decide +kernel
theorem dJ6_bitCount_0f7a4_7 : decode cJ6_bitCount_0f7a4 7 = .ok (.iand, 1) := by decide +kernel
theorem dJ6_bitCount_0f7a4_8 : decode cJ6_bitCount_0f7a4 8 = .ok (.isub, 1) := by decide +kernel
theorem dJ6_bitCount_0f7a4_9 : decode cJ6_bitCount_0f7a4 9 = .ok (.istore_n 0, 1) := by decide +kernel
theorem dJ6_bitCount_0f7a4_10 : decode cJ6_bitCount_0f7a4 10 = .ok (.iload_n 0, 1) := by decide +kernel
theorem dJ6_bitCount_0f7a4_11 : decode cJ6_bitCount_0f7a4 11 = .ok (.ldc_w 266, 3) := by decide +kernel
theorem dJ6_bitCount_0f7a4_14 : decode cJ6_bitCount_0f7a4 14 = .ok (.iand, 1) := by decide +kernel
theorem dJ6_bitCount_0f7a4_15 : decode cJ6_bitCount_0f7a4 15 = .ok (.iload_n 0, 1) := by decide +kernel
theorem dJ6_bitCount_0f7a4_16 : decode cJ6_bitCount_0f7a4 16 = .ok (.iconst 2, 1) := by decide +kernel
theorem dJ6_bitCount_0f7a4_17 : decode cJ6_bitCount_0f7a4 17 = .ok (.iushr, 1) := by decide +kernel
theorem dJ6_bitCount_0f7a4_18 : decode cJ6_bitCount_0f7a4 18 = .ok (.ldc_w 266, 3) := by decide +kernel
theorem dJ6_bitCount_0f7a4_21 : decode cJ6_bitCount_0f7a4 21 = .ok (.iand, 1) := by decide +kernel
theorem dJ6_bitCount_0f7a4_22 : decode cJ6_bitCount_0f7a4 22 = .ok (.iadd, 1) := by decide +kernel
theorem dJ6_bitCount_0f7a4_23 : decode cJ6_bitCount_0f7a4 23 = .ok (.istore_n 0, 1) := by decide +kernel
theorem dJ6_bitCount_0f7a4_24 : decode cJ6_bitCount_0f7a4 24 = .ok (.iload_n 0, 1) := by decide +kernel
theorem dJ6_bitCount_0f7a4_25 : decode cJ6_bitCount_0f7a4 25 = .ok (.iload_n 0, 1) := by decide +kernel
theorem dJ6_bitCount_0f7a4_26 : decode cJ6_bitCount_0f7a4 26 = .ok (.iconst 4, 1) := by decide +kernel
theorem dJ6_bitCount_0f7a4_27 : decode cJ6_bitCount_0f7a4 27 = .ok (.iushr, 1) := by decide +kernel
theorem dJ6_bitCount_0f7a4_28 : decode cJ6_bitCount_0f7a4 28 = .ok (.iadd, 1) := by decide +kernel
theorem dJ6_bitCount_0f7a4_29 : decode cJ6_bitCount_0f7a4 29 = .ok (.ldc_w 267, 3) := by decide +kernel
theorem dJ6_bitCount_0f7a4_32 : decode cJ6_bitCount_0f7a4 32 = .ok (.iand, 1) := by decide +kernel
theorem dJ6_bitCount_0f7a4_33 : decode cJ6_bitCount_0f7a4 33 = .ok (.istore_n 0, 1) := by decide +kernel
theorem dJ6_bitCount_0f7a4_34 : decode cJ6_bitCount_0f7a4 34 = .ok (.iload_n 0, 1) := by decide +kernel
theorem dJ6_bitCount_0f7a4_35 : decode cJ6_bitCount_0f7a4 35 = .ok (.iload_n 0, 1) := by decide +kernel
theorem dJ6_bitCount_0f7a4_36 : decode cJ6_bitCount_0f7a4 36 = .ok (.bipush 8, 2) := by decide +kernel
theorem dJ6_bitCount_0f7a4_38 : decode cJ6_bitCount_0f7a4 38 = .ok (.iushr, 1) := by decide +kernel
theorem dJ6_bitCount_0f7a4_39 : decode cJ6_bitCount_0f7a4 39 = .ok (.iadd, 1) := by decide +kernel
theorem dJ6_bitCount_0f7a4_40 : decode cJ6_bitCount_0f7a4 40 = .ok (.istore_n 0, 1) := by decide +kernel
theorem dJ6_bitCount_0f7a4_41 : decode cJ6_bitCount_0f7a4 41 = .ok (.iload_n 0, 1) := by decide +kernel
theorem dJ6_bitCount_0f7a4_42 : decode cJ6_bitCount_0f7a4 42 = .ok (.iload_n 0, 1) := by decide +kernel
theorem dJ6_bitCount_0f7a4_43 : decode cJ6_bitCount_0f7a4 43 = .ok (.bipush 16, 2) := by decide +kernel
theorem dJ6_bitCount_0f7a4_45 : decode cJ6_bitCount_0f7a4 45 = .ok (.iushr, 1) := by decide +kernel
theorem dJ6_bitCount_0f7a4_46 : decode cJ6_bitCount_0f7a4 46 = .ok (.iadd, 1) := by decide +kernel
theorem dJ6_bitCount_0f7a4_47 : decode cJ6_bitCount_0f7a4 47 = .ok (.istore_n 0, 1) := by decide +kernel
theorem dJ6_bitCount_0f7a4_48 : decode cJ6_bitCount_0f7a4 48 = .ok (.iload_n 0, 1) := by decide +kernel
theorem dJ6_bitCount_0f7a4_49 : decode cJ6_bitCount_0f7a4 49 = .ok (.bipush 63, 2) := by decide +kernel
theorem dJ6_bitCount_0f7a4_51 : decode cJ6_bitCount_0f7a4 51 = .ok (.iand, 1) := by decide +kernel
theorem dJ6_bitCount_0f7a4_52 : decode cJ6_bitCount_0f7a4 52 = .ok (.ireturn, 1) := by decide +kernel
theorem dJ9_abs_0f7a4_0 : decode cJ9_abs_0f7a4 0 = .ok (.iload_n 0, 1) := by decide +kernel
theorem dJ9_abs_0f7a4_1 : decode cJ9_abs_0f7a4 1 = .ok (.ifCond .ge 8, 3) := by decide +kernel
theorem dJ9_abs_0f7a4_4 : decode cJ9_abs_0f7a4 4 = .ok (.iload_n 0, 1) := by decide +kernel
theorem dJ9_abs_0f7a4_5 : decode cJ9_abs_0f7a4 5 = .ok (.ineg, 1) := by decide +kernel
theorem dJ9_abs_0f7a4_6 : decode cJ9_abs_0f7a4 6 = .ok (.goto 4, 3) := by decide +kernel
theorem dJ9_abs_0f7a4_9 : decode cJ9_abs_0f7a4 9 = .ok (.iload_n 0, 1) := by decide +kernel
theorem dJ9_abs_0f7a4_10 : decode cJ9_abs_0f7a4 10 = .ok (.ireturn, 1) := by decide +kernel
theorem dJ9_max_7cf53_0 : decode cJ9_max_7cf53 0 = .ok (.iload_n 0, 1) := by decide +kernel
theorem dJ9_max_7cf53_1 : decode cJ9_max_7cf53 1 = .ok (.iload_n 1, 1) := by decide +kernel
theorem dJ9_max_7cf53_2 : decode cJ9_max_7cf53 2 = .ok (.if_icmp .lt 7, 3) := by decide +kernel
theorem dJ9_max_7cf53_5 : decode cJ9_max_7cf53 5 = .ok (.iload_n 0, 1) := by decide +kernel
theorem dJ9_max_7cf53_6 : decode cJ9_max_7cf53 6 = .ok (.goto 4, 3) := by decide +kernel
theorem dJ9_max_7cf53_9 : decode cJ9_max_7cf53 9 = .ok (.iload_n 1, 1) := by decide +kernel
theorem dJ9_max_7cf53_10 : decode cJ9_max_7cf53 10 = .ok (.ireturn, 1) := by decide +kernel
theorem dJ9_min_7cf53_0 : decode cJ9_min_7cf53 0 = .ok (.iload_n 0, 1) := by decide +kernel
theorem dJ9_min_7cf53_1 : decode cJ9_min_7cf53 1 = .ok (.iload_n 1, 1) := by decide +kernel
theorem dJ9_min_7cf53_2 : decode cJ9_min_7cf53 2 = .ok (.if_icmp .gt 7, 3) := by decide +kernel
theorem dJ9_min_7cf53_5 : decode cJ9_min_7cf53 5 = .ok (.iload_n 0, 1) := by decide +kernel
theorem dJ9_min_7cf53_6 : decode cJ9_min_7cf53 6 = .ok (.goto 4, 3) := by decide +kernel
theorem dJ9_min_7cf53_9 : decode cJ9_min_7cf53 9 = .ok (.iload_n 1, 1) := by decide +kernel
theorem dJ9_min_7cf53_10 : decode cJ9_min_7cf53 10 = .ok (.ireturn, 1) := by decide +kernel
theorem dJ7_fill_53178_0 : decode cJ7_fill_53178 0 = .ok (.iconst 0, 1) := by decide +kernel
theorem dJ7_fill_53178_1 : decode cJ7_fill_53178 1 = .ok (.istore_n 2, 1) := by decide +kernel
theorem dJ7_fill_53178_2 : decode cJ7_fill_53178 2 = .ok (.aload_n 0, 1) := by decide +kernel
theorem dJ7_fill_53178_3 : decode cJ7_fill_53178 3 = .ok (.arraylength, 1) := by decide +kernel
theorem dJ7_fill_53178_4 : decode cJ7_fill_53178 4 = .ok (.istore_n 3, 1) := by decide +kernel
theorem dJ7_fill_53178_5 : decode cJ7_fill_53178 5 = .ok (.iload_n 2, 1) := by decide +kernel
theorem dJ7_fill_53178_6 : decode cJ7_fill_53178 6 = .ok (.iload_n 3, 1) := by decide +kernel
theorem dJ7_fill_53178_7 : decode cJ7_fill_53178 7 = .ok (.if_icmp .ge 13, 3) := by decide +kernel
theorem dJ7_fill_53178_10 : decode cJ7_fill_53178 10 = .ok (.aload_n 0, 1) := by decide +kernel
theorem dJ7_fill_53178_11 : decode cJ7_fill_53178 11 = .ok (.iload_n 2, 1) := by decide +kernel
theorem dJ7_fill_53178_12 : decode cJ7_fill_53178 12 = .ok (.iload_n 1, 1) := by decide +kernel
theorem dJ7_fill_53178_13 : decode cJ7_fill_53178 13 = .ok (.iastore, 1) := by decide +kernel
theorem dJ7_fill_53178_14 : decode cJ7_fill_53178 14 = .ok (.iinc 2 1, 3) := by decide +kernel
theorem dJ7_fill_53178_17 : decode cJ7_fill_53178 17 = .ok (.goto (-12), 3) := by decide +kernel
theorem dJ7_fill_53178_20 : decode cJ7_fill_53178 20 = .ok (.return_, 1) := by decide +kernel
end
section
theorem dX6_init_0 : decode cX6_init 0 = .ok (.aload_n 0, 1) := by decide +kernel
theorem dX6_init_1 : decode cX6_init 1 = .ok (.invokespecial 1, 3) := by decide +kernel
theorem dX6_init_4 : decode cX6_init 4 = .ok (.aload_n 0, 1) := by decide +kernel
theorem dX6_init_5 : decode cX6_init 5 = .ok (.bipush 8, 2) := by decide +kernel
theorem dX6_init_7 : decode cX6_init 7 = .ok (.newarray .int, 2) := by decide +kernel
theorem dX6_init_9 : decode cX6_init 9 = .ok (.putfield 7, 3) := by decide +kernel
theorem dX6_init_12 : decode cX6_init 12 = .ok (.aload_n 0, 1) := by decide +kernel
theorem dX6_init_13 : decode cX6_init 13 = .ok (.bipush 8, 2) := by decide +kernel
theorem dX6_init_15 : decode cX6_init 15 = .ok (.newarray .int, 2) := by decide +kernel
theorem dX6_init_17 : decode cX6_init 17 = .ok (.putfield 13, 3) := by decide +kernel
theorem dX6_init_20 : decode cX6_init 20 = .ok (.aload_n 0, 1) := by decide +kernel
theorem dX6_init_21 : decode cX6_init 21 = .ok (.bipush 8, 2) := by decide +kernel
theorem dX6_init_23 : decode cX6_init 23 = .ok (.newarray .int, 2) := by decide +kernel
theorem dX6_init_25 : decode cX6_init 25 = .ok (.putfield 16, 3) := by decide +kernel
theorem dX6_init_28 : decode cX6_init 28 = .ok (.aload_n 0, 1) := by decide +kernel
theorem dX6_init_29 : decode cX6_init 29 = .ok (.bipush 8, 2) := by decide +kernel
theorem dX6_init_31 : decode cX6_init 31 = .ok (.newarray .int, 2) := by decide +kernel
theorem dX6_init_33 : decode cX6_init 33 = .ok (.putfield 19, 3) := by decide +kernel
theorem dX6_init_36 : decode cX6_init 36 = .ok (.aload_n 0, 1) := by decide +kernel
theorem dX6_init_37 : decode cX6_init 37 = .ok (.bipush 6, 2) := by decide +kernel
theorem dX6_init_39 : decode cX6_init 39 = .ok (.newarray .int, 2) := by decide +kernel
theorem dX6_init_41 : decode cX6_init 41 = .ok (.putfield 22, 3) := by decide +kernel
theorem dX6_init_44 : decode cX6_init 44 = .ok (.aload_n 0, 1) := by decide +kernel
theorem dX6_init_45 : decode cX6_init 45 = .ok (.bipush 6, 2) := by decide +kernel
theorem dX6_init_47 : decode cX6_init 47 = .ok (.newarray .int, 2) := by decide +kernel
theorem dX6_init_49 : decode cX6_init 49 = .ok (.putfield 25, 3) := by decide +kernel
theorem dX6_init_52 : decode cX6_init 52 = .ok (.aload_n 0, 1) := by decide +kernel
theorem dX6_init_53 : decode cX6_init 53 = .ok (.bipush 6, 2) := by decide +kernel
theorem dX6_init_55 : decode cX6_init 55 = .ok (.newarray .int, 2) := by decide +kernel
theorem dX6_init_57 : decode cX6_init 57 = .ok (.putfield 28, 3) := by decide +kernel
theorem dX6_init_60 : decode cX6_init 60 = .ok (.aload_n 0, 1) := by decide +kernel
theorem dX6_init_61 : decode cX6_init 61 = .ok (.bipush 42, 2) := by decide +kernel
theorem dX6_init_63 : decode cX6_init 63 = .ok (.newarray .int, 2) := by decide +kernel
theorem dX6_init_65 : decode cX6_init 65 = .ok (.putfield 31, 3) := by decide +kernel
theorem dX6_init_68 : decode cX6_init 68 = .ok (.aload_n 0, 1) := by decide +kernel
theorem dX6_init_69 : decode cX6_init 69 = .ok (.bipush 7, 2) := by decide +kernel
theorem dX6_init_71 : decode cX6_init 71 = .ok (.newarray .int, 2) := by decide +kernel
theorem dX6_init_73 : decode cX6_init 73 = .ok (.putfield 34, 3) := by decide +kernel
theorem dX6_init_76 : decode cX6_init 76 = .ok (.aload_n 0, 1) := by decide +kernel
theorem dX6_init_77 : decode cX6_init 77 = .ok (.bipush 96, 2) := by decide +kernel
theorem dX6_init_79 : decode cX6_init 79 = .ok (.newarray .int, 2) := by decide +kernel
theorem dX6_init_81 : decode cX6_init 81 = .ok (.putfield 37, 3) := by decide +kernel
theorem dX6_init_84 : decode cX6_init 84 = .ok (.aload_n 0, 1) := by decide +kernel
theorem dX6_init_85 : decode cX6_init 85 = .ok (.bipush 49, 2) := by decide +kernel
theorem dX6_init_87 : decode cX6_init 87 = .ok (.newarray .int, 2) := by decide +kernel
theorem dX6_init_89 : decode cX6_init 89 = .ok (.putfield 40, 3) := by decide +kernel
theorem dX6_init_92 : decode cX6_init 92 = .ok (.aload_n 0, 1) := by decide +kernel
theorem dX6_init_93 : decode cX6_init 93 = .ok (.bipush 49, 2) := by decide +kernel
theorem dX6_init_95 : decode cX6_init 95 = .ok (.newarray .int, 2) := by decide +kernel
theorem dX6_init_97 : decode cX6_init 97 = .ok (.putfield 43, 3) := by decide +kernel
theorem dX6_init_100 : decode cX6_init 100 = .ok (.aload_n 0, 1) := by decide +kernel
theorem dX6_init_101 : decode cX6_init 101 = .ok (.sipush 147, 3) := by decide +kernel
theorem dX6_init_104 : decode cX6_init 104 = .ok (.newarray .int, 2) := by decide +kernel
theorem dX6_init_106 : decode cX6_init 106 = .ok (.putfield 46, 3) := by decide +kernel
theorem dX6_init_109 : decode cX6_init 109 = .ok (.aload_n 0, 1) := by decide +kernel
theorem dX6_init_110 : decode cX6_init 110 = .ok (.bipush 91, 2) := by decide +kernel
theorem dX6_init_112 : decode cX6_init 112 = .ok (.newarray .int, 2) := by decide +kernel
theorem dX6_init_114 : decode cX6_init 114 = .ok (.putfield 49, 3) := by decide +kernel
theorem dX6_init_117 : decode cX6_init 117 = .ok (.aload_n 0, 1) := by decide +kernel
theorem dX6_init_118 : decode cX6_init 118 = .ok (.bipush 91, 2) := by decide +kernel
theorem dX6_init_120 : decode cX6_init 120 = .ok (.newarray .int, 2) := by decide +kernel
theorem dX6_init_122 : decode cX6_init 122 = .ok (.putfield 52, 3) := by decide +kernel
theorem dX6_init_125 : decode cX6_init 125 = .ok (.aload_n 0, 1) := by decide +kernel
theorem dX6_init_126 : decode cX6_init 126 = .ok (.sipush 728, 3) := by decide +kernel
theorem dX6_init_129 : decode cX6_init 129 = .ok (.newarray .int, 2) := by decide +kernel
theorem dX6_init_131 : decode cX6_init 131 = .ok (.putfield 55, 3) := by decide +kernel
theorem dX6_init_134 : decode cX6_init 134 = .ok (.aload_n 0, 1) := by decide +kernel
theorem dX6_init_135 : decode cX6_init 135 = .ok (.bipush 91, 2) := by decide +kernel
theorem dX6_init_137 : decode cX6_init 137 = .ok (.newarray .int, 2) := by decide +kernel
theorem dX6_init_139 : decode cX6_init 139 = .ok (.putfield 58, 3) := by decide +kernel
theorem dX6_init_142 : decode cX6_init 142 = .ok (.aload_n 0, 1) := by decide +kernel
theorem dX6_init_143 : decode cX6_init 143 = .ok (.sipush 6272, 3) := by decide +kernel
theorem dX6_init_146 : decode cX6_init 146 = .ok (.newarray .int, 2) := by decide +kernel
theorem dX6_init_148 : decode cX6_init 148 = .ok (.putfield 61, 3) := by decide +kernel
theorem dX6_init_151 : decode cX6_init 151 = .ok (.aload_n 0, 1) := by decide +kernel
theorem dX6_init_152 : decode cX6_init 152 = .ok (.sipush 6272, 3) := by decide +kernel
theorem dX6_init_155 : decode cX6_init 155 = .ok (.newarray .int, 2) := by decide +kernel
theorem dX6_init_157 : decode cX6_init 157 = .ok (.putfield 64, 3) := by decide +kernel
theorem dX6_init_160 : decode cX6_init 160 = .ok (.aload_n 0, 1) := by decide +kernel
theorem dX6_init_161 : decode cX6_init 161 = .ok (.sipush 1024, 3) := by decide +kernel
theorem dX6_init_164 : decode cX6_init 164 = .ok (.newarray .int, 2) := by decide +kernel
theorem dX6_init_166 : decode cX6_init 166 = .ok (.putfield 67, 3) := by decide +kernel
theorem dX6_init_169 : decode cX6_init 169 = .ok (.aload_n 0, 1) := by decide +kernel
theorem dX6_init_170 : decode cX6_init 170 = .ok (.bipush 49, 2) := by decide +kernel
theorem dX6_init_172 : decode cX6_init 172 = .ok (.newarray .int, 2) := by decide +kernel
theorem dX6_init_174 : decode cX6_init 174 = .ok (.putfield 70, 3) := by decide +kernel
theorem dX6_init_177 : decode cX6_init 177 = .ok (.aload_n 0, 1) := by decide +kernel
theorem dX6_init_178 : decode cX6_init 178 = .ok (.bipush 12, 2) := by decide +kernel
theorem dX6_init_180 : decode cX6_init 180 = .ok (.newarray .int, 2) := by decide +kernel
theorem dX6_init_182 : decode cX6_init 182 = .ok (.putfield 73, 3) := by decide +kernel
theorem dX6_init_185 : decode cX6_init 185 = .ok (.aload_n 0, 1) := by decide +kernel
theorem dX6_init_186 : decode cX6_init 186 = .ok (.bipush 8, 2) := by decide +kernel
theorem dX6_init_188 : decode cX6_init 188 = .ok (.newarray .int, 2) := by decide +kernel
theorem dX6_init_190 : decode cX6_init 190 = .ok (.putfield 76, 3) := by decide +kernel
theorem dX6_init_193 : decode cX6_init 193 = .ok (.aload_n 0, 1) := by decide +kernel
theorem dX6_init_194 : decode cX6_init 194 = .ok (.iconst 0, 1) := by decide +kernel
theorem dX6_init_195 : decode cX6_init 195 = .ok (.putfield 79, 3) := by decide +kernel
theorem dX6_init_198 : decode cX6_init 198 = .ok (.return_, 1) := by decide +kernel
theorem dX6_in_0 : decode cX6_in 0 = .ok (.lload_n 0, 1) := by decide +kernel
theorem dX6_in_1 : decode cX6_in 1 = .ok (.lload_n 2, 1) := by decide +kernel
theorem dX6_in_2 : decode cX6_in 2 = .ok (.lcmp, 1) := by decide +kernel
theorem dX6_in_3 : decode cX6_in 3 = .ok (.ifCond .lt 14, 3) := by decide +kernel
theorem dX6_in_6 : decode cX6_in 6 = .ok (.lload_n 0, 1) := by decide +kernel
theorem dX6_in_7 : decode cX6_in 7 = .ok (.lload 4, 2) := by decide +kernel
theorem dX6_in_9 : decode cX6_in 9 = .ok (.lcmp, 1) := by decide +kernel
theorem dX6_in_10 : decode cX6_in 10 = .ok (.ifCond .gt 7, 3) := by decide +kernel
theorem dX6_in_13 : decode cX6_in 13 = .ok (.iconst 1, 1) := by decide +kernel
theorem dX6_in_14 : decode cX6_in 14 = .ok (.goto 4, 3) := by decide +kernel
theorem dX6_in_17 : decode cX6_in 17 = .ok (.iconst 0, 1) := by decide +kernel
theorem dX6_in_18 : decode cX6_in 18 = .ok (.ireturn, 1) := by decide +kernel
theorem dX6_refuse_0 : decode cX6_refuse 0 = .ok (.aload_n 0, 1) := by decide +kernel
theorem dX6_refuse_1 : decode cX6_refuse 1 = .ok (.getfield 34, 3) := by decide +kernel
theorem dX6_refuse_4 : decode cX6_refuse 4 = .ok (.iload_n 1, 1) := by decide +kernel
theorem dX6_refuse_5 : decode cX6_refuse 5 = .ok (.ineg, 1) := by decide +kernel
theorem dX6_refuse_6 : decode cX6_refuse 6 = .ok (.dup2, 1) := by decide +kernel
theorem dX6_refuse_7 : decode cX6_refuse 7 = .ok (.iaload, 1) := by decide +kernel
theorem dX6_refuse_8 : decode cX6_refuse 8 = .ok (.iconst 1, 1) := by decide +kernel
theorem dX6_refuse_9 : decode cX6_refuse 9 = .ok (.iadd, 1) := by decide +kernel
theorem dX6_refuse_10 : decode cX6_refuse 10 = .ok (.iastore, 1) := by decide +kernel
theorem dX6_refuse_11 : decode cX6_refuse 11 = .ok (.iload_n 1, 1) := by decide +kernel
theorem dX6_refuse_12 : decode cX6_refuse 12 = .ok (.ireturn, 1) := by decide +kernel
theorem dX6_isCell_0 : decode cX6_isCell 0 = .ok (.iload_n 0, 1) := by decide +kernel
theorem dX6_isCell_1 : decode cX6_isCell 1 = .ok (.i2l, 1) := by decide +kernel
theorem dX6_isCell_2 : decode cX6_isCell 2 = .ok (.lconst 0, 1) := by decide +kernel
theorem dX6_isCell_3 : decode cX6_isCell 3 = .ok (.ldc2_w 83, 3) := by decide +kernel
theorem dX6_isCell_6 : decode cX6_isCell 6 = .ok (.invokestatic 85, 3) := by decide +kernel
theorem dX6_isCell_9 : decode cX6_isCell 9 = .ok (.ireturn, 1) := by decide +kernel
theorem dX6_isHouse_0 : decode cX6_isHouse 0 = .ok (.iload_n 1, 1) := by decide +kernel
theorem dX6_isHouse_1 : decode cX6_isHouse 1 = .ok (.i2l, 1) := by decide +kernel
theorem dX6_isHouse_2 : decode cX6_isHouse 2 = .ok (.lconst 0, 1) := by decide +kernel
theorem dX6_isHouse_3 : decode cX6_isHouse 3 = .ok (.aload_n 0, 1) := by decide +kernel
theorem dX6_isHouse_4 : decode cX6_isHouse 4 = .ok (.getfield 89, 3) := by decide +kernel
theorem dX6_isHouse_7 : decode cX6_isHouse 7 = .ok (.iconst 1, 1) := by decide +kernel
theorem dX6_isHouse_8 : decode cX6_isHouse 8 = .ok (.isub, 1) := by decide +kernel
theorem dX6_isHouse_9 : decode cX6_isHouse 9 = .ok (.i2l, 1) := by decide +kernel
theorem dX6_isHouse_10 : decode cX6_isHouse 10 = .ok (.invokestatic 85, 3) := by decide +kernel
theorem dX6_isHouse_13 : decode cX6_isHouse 13 = .ok (.ireturn, 1) := by decide +kernel
theorem dX6_isWalker_0 : decode cX6_isWalker 0 = .ok (.iload_n 1, 1) := by decide +kernel
theorem dX6_isWalker_1 : decode cX6_isWalker 1 = .ok (.i2l, 1) := by decide +kernel
theorem dX6_isWalker_2 : decode cX6_isWalker 2 = .ok (.lconst 0, 1) := by decide +kernel
theorem dX6_isWalker_3 : decode cX6_isWalker 3 = .ok (.aload_n 0, 1) := by decide +kernel
theorem dX6_isWalker_4 : decode cX6_isWalker 4 = .ok (.getfield 92, 3) := by decide +kernel
theorem dX6_isWalker_7 : decode cX6_isWalker 7 = .ok (.iconst 1, 1) := by decide +kernel
theorem dX6_isWalker_8 : decode cX6_isWalker 8 = .ok (.isub, 1) := by decide +kernel
theorem dX6_isWalker_9 : decode cX6_isWalker 9 = .ok (.i2l, 1) := by decide +kernel
theorem dX6_isWalker_10 : decode cX6_isWalker 10 = .ok (.invokestatic 85, 3) := by decide +kernel
theorem dX6_isWalker_13 : decode cX6_isWalker 13 = .ok (.ireturn, 1) := by decide +kernel
theorem dX6_wrongNumber_0 : decode cX6_wrongNumber 0 = .ok (.iload_n 0, 1) := by decide +kernel
theorem dX6_wrongNumber_1 : decode cX6_wrongNumber 1 = .ok (.iload_n 1, 1) := by decide +kernel
theorem dX6_wrongNumber_2 : decode cX6_wrongNumber 2 = .ok (.if_icmp .ge 8, 3) := by decide +kernel
theorem dX6_wrongNumber_5 : decode cX6_wrongNumber 5 = .ok (.bipush (-4), 2) := by decide +kernel
theorem dX6_wrongNumber_7 : decode cX6_wrongNumber 7 = .ok (.goto 14, 3) := by decide +kernel
theorem dX6_wrongNumber_10 : decode cX6_wrongNumber 10 = .ok (.iload_n 0, 1) := by decide +kernel
theorem dX6_wrongNumber_11 : decode cX6_wrongNumber 11 = .ok (.iload_n 2, 1) := by decide +kernel
theorem dX6_wrongNumber_12 : decode cX6_wrongNumber 12 = .ok (.if_icmp .le 8, 3) := by decide +kernel
theorem dX6_wrongNumber_15 : decode cX6_wrongNumber 15 = .ok (.bipush (-6), 2) := by decide +kernel
theorem dX6_wrongNumber_17 : decode cX6_wrongNumber 17 = .ok (.goto 4, 3) := by decide +kernel
theorem dX6_wrongNumber_20 : decode cX6_wrongNumber 20 = .ok (.iconst 0, 1) := by decide +kernel
theorem dX6_wrongNumber_21 : decode cX6_wrongNumber 21 = .ok (.ireturn, 1) := by decide +kernel
theorem dX6_wrongBit_0 : decode cX6_wrongBit 0 = .ok (.iload_n 0, 1) := by decide +kernel
theorem dX6_wrongBit_1 : decode cX6_wrongBit 1 = .ok (.ifCond .ne 19, 3) := by decide +kernel
theorem dX6_wrongBit_4 : decode cX6_wrongBit 4 = .ok (.iload_n 1, 1) := by decide +kernel
theorem dX6_wrongBit_5 : decode cX6_wrongBit 5 = .ok (.i2l, 1) := by decide +kernel
theorem dX6_wrongBit_6 : decode cX6_wrongBit 6 = .ok (.lconst 0, 1) := by decide +kernel
theorem dX6_wrongBit_7 : decode cX6_wrongBit 7 = .ok (.iload_n 2, 1) := by decide +kernel
theorem dX6_wrongBit_8 : decode cX6_wrongBit 8 = .ok (.i2l, 1) := by decide +kernel
theorem dX6_wrongBit_9 : decode cX6_wrongBit 9 = .ok (.invokestatic 85, 3) := by decide +kernel
theorem dX6_wrongBit_12 : decode cX6_wrongBit 12 = .ok (.ifCond .ne 8, 3) := by decide +kernel
theorem dX6_wrongBit_15 : decode cX6_wrongBit 15 = .ok (.bipush (-2), 2) := by decide +kernel
theorem dX6_wrongBit_17 : decode cX6_wrongBit 17 = .ok (.goto 4, 3) := by decide +kernel
theorem dX6_wrongBit_20 : decode cX6_wrongBit 20 = .ok (.iload_n 0, 1) := by decide +kernel
theorem dX6_wrongBit_21 : decode cX6_wrongBit 21 = .ok (.ireturn, 1) := by decide +kernel
theorem dX6_hasBit_0 : decode cX6_hasBit 0 = .ok (.iload_n 0, 1) := by decide +kernel
theorem dX6_hasBit_1 : decode cX6_hasBit 1 = .ok (.iload_n 1, 1) := by decide +kernel
theorem dX6_hasBit_2 : decode cX6_hasBit 2 = .ok (.ishr, 1) := by decide +kernel
theorem dX6_hasBit_3 : decode cX6_hasBit 3 = .ok (.iconst 1, 1) := by decide +kernel
theorem dX6_hasBit_4 : decode cX6_hasBit 4 = .ok (.iand, 1) := by decide +kernel
theorem dX6_hasBit_5 : decode cX6_hasBit 5 = .ok (.iconst 1, 1) := by decide +kernel
theorem dX6_hasBit_6 : decode cX6_hasBit 6 = .ok (.if_icmp .ne 7, 3) := by decide +kernel
theorem dX6_hasBit_9 : decode cX6_hasBit 9 = .ok (.iconst 1, 1) := by decide +kernel
theorem dX6_hasBit_10 : decode cX6_hasBit 10 = .ok (.goto 4, 3) := by decide +kernel
theorem dX6_hasBit_13 : decode cX6_hasBit 13 = .ok (.iconst 0, 1) := by decide +kernel
theorem dX6_hasBit_14 : decode cX6_hasBit 14 = .ok (.ireturn, 1) := by decide +kernel
theorem dX6_onesOf_0 : decode cX6_onesOf 0 = .ok (.iconst 0, 1) := by decide +kernel
theorem dX6_onesOf_1 : decode cX6_onesOf 1 = .ok (.istore_n 1, 1) := by decide +kernel
theorem dX6_onesOf_2 : decode cX6_onesOf 2 = .ok (.iload_n 0, 1) := by decide +kernel
theorem dX6_onesOf_3 : decode cX6_onesOf 3 = .ok (.istore_n 2, 1) := by decide +kernel
theorem dX6_onesOf_4 : decode cX6_onesOf 4 = .ok (.iload_n 2, 1) := by decide +kernel
theorem dX6_onesOf_5 : decode cX6_onesOf 5 = .ok (.ifCond .eq 15, 3) := by decide +kernel
theorem dX6_onesOf_8 : decode cX6_onesOf 8 = .ok (.iinc 1 1, 3) := by decide +kernel
theorem dX6_onesOf_11 : decode cX6_onesOf 11 = .ok (.iload_n 2, 1) := by decide +kernel
theorem dX6_onesOf_12 : decode cX6_onesOf 12 = .ok (.iload_n 2, 1) := by decide +kernel
theorem dX6_onesOf_13 : decode cX6_onesOf 13 = .ok (.iconst 1, 1) := by decide +kernel
theorem dX6_onesOf_14 : decode cX6_onesOf 14 = .ok (.isub, 1) := by decide +kernel
theorem dX6_onesOf_15 : decode cX6_onesOf 15 = .ok (.iand, 1) := by decide +kernel
theorem dX6_onesOf_16 : decode cX6_onesOf 16 = .ok (.istore_n 2, 1) := by decide +kernel
theorem dX6_onesOf_17 : decode cX6_onesOf 17 = .ok (.goto (-13), 3) := by decide +kernel
theorem dX6_onesOf_20 : decode cX6_onesOf 20 = .ok (.iload_n 1, 1) := by decide +kernel
theorem dX6_onesOf_21 : decode cX6_onesOf 21 = .ok (.ireturn, 1) := by decide +kernel
theorem dX6_apartBy_0 : decode cX6_apartBy 0 = .ok (.iload_n 0, 1) := by decide +kernel
theorem dX6_apartBy_1 : decode cX6_apartBy 1 = .ok (.iload_n 1, 1) := by decide +kernel
theorem dX6_apartBy_2 : decode cX6_apartBy 2 = .ok (.if_icmp .le 9, 3) := by decide +kernel
theorem dX6_apartBy_5 : decode cX6_apartBy 5 = .ok (.iload_n 0, 1) := by decide +kernel
theorem dX6_apartBy_6 : decode cX6_apartBy 6 = .ok (.iload_n 1, 1) := by decide +kernel
theorem dX6_apartBy_7 : decode cX6_apartBy 7 = .ok (.isub, 1) := by decide +kernel
theorem dX6_apartBy_8 : decode cX6_apartBy 8 = .ok (.goto 6, 3) := by decide +kernel
theorem dX6_apartBy_11 : decode cX6_apartBy 11 = .ok (.iload_n 1, 1) := by decide +kernel
theorem dX6_apartBy_12 : decode cX6_apartBy 12 = .ok (.iload_n 0, 1) := by decide +kernel
theorem dX6_apartBy_13 : decode cX6_apartBy 13 = .ok (.isub, 1) := by decide +kernel
theorem dX6_apartBy_14 : decode cX6_apartBy 14 = .ok (.ireturn, 1) := by decide +kernel
theorem dX6_stepsOf_0 : decode cX6_stepsOf 0 = .ok (.iload_n 0, 1) := by decide +kernel
theorem dX6_stepsOf_1 : decode cX6_stepsOf 1 = .ok (.bipush 7, 2) := by decide +kernel
theorem dX6_stepsOf_3 : decode cX6_stepsOf 3 = .ok (.idiv, 1) := by decide +kernel
theorem dX6_stepsOf_4 : decode cX6_stepsOf 4 = .ok (.iload_n 1, 1) := by decide +kernel
theorem dX6_stepsOf_5 : decode cX6_stepsOf 5 = .ok (.bipush 7, 2) := by decide +kernel
theorem dX6_stepsOf_7 : decode cX6_stepsOf 7 = .ok (.idiv, 1) := by decide +kernel
theorem dX6_stepsOf_8 : decode cX6_stepsOf 8 = .ok (.invokestatic 95, 3) := by decide +kernel
theorem dX6_stepsOf_11 : decode cX6_stepsOf 11 = .ok (.iload_n 0, 1) := by decide +kernel
theorem dX6_stepsOf_12 : decode cX6_stepsOf 12 = .ok (.bipush 7, 2) := by decide +kernel
theorem dX6_stepsOf_14 : decode cX6_stepsOf 14 = .ok (.irem, 1) := by decide +kernel
theorem dX6_stepsOf_15 : decode cX6_stepsOf 15 = .ok (.iload_n 1, 1) := by decide +kernel
theorem dX6_stepsOf_16 : decode cX6_stepsOf 16 = .ok (.bipush 7, 2) := by decide +kernel
theorem dX6_stepsOf_18 : decode cX6_stepsOf 18 = .ok (.irem, 1) := by decide +kernel
theorem dX6_stepsOf_19 : decode cX6_stepsOf 19 = .ok (.invokestatic 95, 3) := by decide +kernel
theorem dX6_stepsOf_22 : decode cX6_stepsOf 22 = .ok (.iadd, 1) := by decide +kernel
theorem dX6_stepsOf_23 : decode cX6_stepsOf 23 = .ok (.ireturn, 1) := by decide +kernel
theorem dX6_reachOf_0 : decode cX6_reachOf 0 = .ok (.aload_n 0, 1) := by decide +kernel
theorem dX6_reachOf_1 : decode cX6_reachOf 1 = .ok (.getfield 7, 3) := by decide +kernel
theorem dX6_reachOf_4 : decode cX6_reachOf 4 = .ok (.iload_n 1, 1) := by decide +kernel
theorem dX6_reachOf_5 : decode cX6_reachOf 5 = .ok (.iaload, 1) := by decide +kernel
theorem dX6_reachOf_6 : decode cX6_reachOf 6 = .ok (.tableswitch 62 1 5 #[34, 36, 38, 49, 51], 34) := by decide +kernel
theorem dX6_reachOf_40 : decode cX6_reachOf 40 = .ok (.iconst 3, 1) := by decide +kernel
theorem dX6_reachOf_41 : decode cX6_reachOf 41 = .ok (.ireturn, 1) := by decide +kernel
theorem dX6_reachOf_42 : decode cX6_reachOf 42 = .ok (.iconst 0, 1) := by decide +kernel
theorem dX6_reachOf_43 : decode cX6_reachOf 43 = .ok (.ireturn, 1) := by decide +kernel
theorem dX6_reachOf_44 : decode cX6_reachOf 44 = .ok (.iconst 2, 1) := by decide +kernel
theorem dX6_reachOf_45 : decode cX6_reachOf 45 = .ok (.aload_n 0, 1) := by decide +kernel
theorem dX6_reachOf_46 : decode cX6_reachOf 46 = .ok (.getfield 13, 3) := by decide +kernel
theorem dX6_reachOf_49 : decode cX6_reachOf 49 = .ok (.iload_n 1, 1) := by decide +kernel
theorem dX6_reachOf_50 : decode cX6_reachOf 50 = .ok (.iaload, 1) := by decide +kernel
theorem dX6_reachOf_51 : decode cX6_reachOf 51 = .ok (.iconst 2, 1) := by decide +kernel
theorem dX6_reachOf_52 : decode cX6_reachOf 52 = .ok (.idiv, 1) := by decide +kernel
theorem dX6_reachOf_53 : decode cX6_reachOf 53 = .ok (.iadd, 1) := by decide +kernel
theorem dX6_reachOf_54 : decode cX6_reachOf 54 = .ok (.ireturn, 1) := by decide +kernel
theorem dX6_reachOf_55 : decode cX6_reachOf 55 = .ok (.iconst 1, 1) := by decide +kernel
theorem dX6_reachOf_56 : decode cX6_reachOf 56 = .ok (.ireturn, 1) := by decide +kernel
theorem dX6_reachOf_57 : decode cX6_reachOf 57 = .ok (.iconst 4, 1) := by decide +kernel
theorem dX6_reachOf_58 : decode cX6_reachOf 58 = .ok (.aload_n 0, 1) := by decide +kernel
theorem dX6_reachOf_59 : decode cX6_reachOf 59 = .ok (.getfield 13, 3) := by decide +kernel
theorem dX6_reachOf_62 : decode cX6_reachOf 62 = .ok (.iload_n 1, 1) := by decide +kernel
theorem dX6_reachOf_63 : decode cX6_reachOf 63 = .ok (.iaload, 1) := by decide +kernel
theorem dX6_reachOf_64 : decode cX6_reachOf 64 = .ok (.iconst 2, 1) := by decide +kernel
theorem dX6_reachOf_65 : decode cX6_reachOf 65 = .ok (.idiv, 1) := by decide +kernel
theorem dX6_reachOf_66 : decode cX6_reachOf 66 = .ok (.iadd, 1) := by decide +kernel
theorem dX6_reachOf_67 : decode cX6_reachOf 67 = .ok (.ireturn, 1) := by decide +kernel
theorem dX6_reachOf_68 : decode cX6_reachOf 68 = .ok (.iconst 2, 1) := by decide +kernel
theorem dX6_reachOf_69 : decode cX6_reachOf 69 = .ok (.ireturn, 1) := by decide +kernel
theorem dX6_minutesOf_0 : decode cX6_minutesOf 0 = .ok (.aload_n 0, 1) := by decide +kernel
theorem dX6_minutesOf_1 : decode cX6_minutesOf 1 = .ok (.getfield 13, 3) := by decide +kernel
theorem dX6_minutesOf_4 : decode cX6_minutesOf 4 = .ok (.iload_n 1, 1) := by decide +kernel
theorem dX6_minutesOf_5 : decode cX6_minutesOf 5 = .ok (.iaload, 1) := by decide +kernel
theorem dX6_minutesOf_6 : decode cX6_minutesOf 6 = .ok (.iconst 5, 1) := by decide +kernel
theorem dX6_minutesOf_7 : decode cX6_minutesOf 7 = .ok (.iadd, 1) := by decide +kernel
theorem dX6_minutesOf_8 : decode cX6_minutesOf 8 = .ok (.istore_n 3, 1) := by decide +kernel
theorem dX6_minutesOf_9 : decode cX6_minutesOf 9 = .ok (.aload_n 0, 1) := by decide +kernel
theorem dX6_minutesOf_10 : decode cX6_minutesOf 10 = .ok (.getfield 7, 3) := by decide +kernel
theorem dX6_minutesOf_13 : decode cX6_minutesOf 13 = .ok (.iload_n 1, 1) := by decide +kernel
theorem dX6_minutesOf_14 : decode cX6_minutesOf 14 = .ok (.iaload, 1) := by decide +kernel
theorem dX6_minutesOf_15 : decode cX6_minutesOf 15 = .ok (.tableswitch 61 1 5 #[33, 37, 41, 46, 52], 33) := by decide +kernel
theorem dX6_minutesOf_48 : decode cX6_minutesOf 48 = .ok (.iconst 2, 1) := by decide +kernel
theorem dX6_minutesOf_49 : decode cX6_minutesOf 49 = .ok (.iload_n 3, 1) := by decide +kernel
theorem dX6_minutesOf_50 : decode cX6_minutesOf 50 = .ok (.imul, 1) := by decide +kernel
theorem dX6_minutesOf_51 : decode cX6_minutesOf 51 = .ok (.ireturn, 1) := by decide +kernel
theorem dX6_minutesOf_52 : decode cX6_minutesOf 52 = .ok (.iload_n 3, 1) := by decide +kernel
theorem dX6_minutesOf_53 : decode cX6_minutesOf 53 = .ok (.iconst 2, 1) := by decide +kernel
theorem dX6_minutesOf_54 : decode cX6_minutesOf 54 = .ok (.idiv, 1) := by decide +kernel
theorem dX6_minutesOf_55 : decode cX6_minutesOf 55 = .ok (.ireturn, 1) := by decide +kernel
theorem dX6_minutesOf_56 : decode cX6_minutesOf 56 = .ok (.iload_n 3, 1) := by decide +kernel
theorem dX6_minutesOf_57 : decode cX6_minutesOf 57 = .ok (.bipush 20, 2) := by decide +kernel
theorem dX6_minutesOf_59 : decode cX6_minutesOf 59 = .ok (.iadd, 1) := by decide +kernel
theorem dX6_minutesOf_60 : decode cX6_minutesOf 60 = .ok (.ireturn, 1) := by decide +kernel
theorem dX6_minutesOf_61 : decode cX6_minutesOf 61 = .ok (.iload_n 3, 1) := by decide +kernel
theorem dX6_minutesOf_62 : decode cX6_minutesOf 62 = .ok (.iconst 2, 1) := by decide +kernel
theorem dX6_minutesOf_63 : decode cX6_minutesOf 63 = .ok (.idiv, 1) := by decide +kernel
theorem dX6_minutesOf_64 : decode cX6_minutesOf 64 = .ok (.iload_n 2, 1) := by decide +kernel
theorem dX6_minutesOf_65 : decode cX6_minutesOf 65 = .ok (.iadd, 1) := by decide +kernel
theorem dX6_minutesOf_66 : decode cX6_minutesOf 66 = .ok (.ireturn, 1) := by decide +kernel
theorem dX6_minutesOf_67 : decode cX6_minutesOf 67 = .ok (.iload_n 3, 1) := by decide +kernel
theorem dX6_minutesOf_68 : decode cX6_minutesOf 68 = .ok (.bipush 20, 2) := by decide +kernel
theorem dX6_minutesOf_70 : decode cX6_minutesOf 70 = .ok (.iadd, 1) := by decide +kernel
theorem dX6_minutesOf_71 : decode cX6_minutesOf 71 = .ok (.iconst 2, 1) := by decide +kernel
theorem dX6_minutesOf_72 : decode cX6_minutesOf 72 = .ok (.iload_n 2, 1) := by decide +kernel
theorem dX6_minutesOf_73 : decode cX6_minutesOf 73 = .ok (.imul, 1) := by decide +kernel
theorem dX6_minutesOf_74 : decode cX6_minutesOf 74 = .ok (.iadd, 1) := by decide +kernel
theorem dX6_minutesOf_75 : decode cX6_minutesOf 75 = .ok (.ireturn, 1) := by decide +kernel
theorem dX6_minutesOf_76 : decode cX6_minutesOf 76 = .ok (.iload_n 3, 1) := by decide +kernel
theorem dX6_minutesOf_77 : decode cX6_minutesOf 77 = .ok (.ireturn, 1) := by decide +kernel
theorem dX6_canSee_0 : decode cX6_canSee 0 = .ok (.aload_n 0, 1) := by decide +kernel
theorem dX6_canSee_1 : decode cX6_canSee 1 = .ok (.getfield 28, 3) := by decide +kernel
theorem dX6_canSee_4 : decode cX6_canSee 4 = .ok (.iload_n 1, 1) := by decide +kernel
theorem dX6_canSee_5 : decode cX6_canSee 5 = .ok (.iaload, 1) := by decide +kernel
theorem dX6_canSee_6 : decode cX6_canSee 6 = .ok (.iconst 2, 1) := by decide +kernel
theorem dX6_canSee_7 : decode cX6_canSee 7 = .ok (.if_icmp .ne 11, 3) := by decide +kernel
theorem dX6_canSee_10 : decode cX6_canSee 10 = .ok (.aload_n 0, 1) := by decide +kernel
theorem dX6_canSee_11 : decode cX6_canSee 11 = .ok (.iload_n 3, 1) := by decide +kernel
theorem dX6_canSee_12 : decode cX6_canSee 12 = .ok (.invokevirtual 99, 3) := by decide +kernel
theorem dX6_canSee_15 : decode cX6_canSee 15 = .ok (.goto 24, 3) := by decide +kernel
theorem dX6_canSee_18 : decode cX6_canSee 18 = .ok (.aload_n 0, 1) := by decide +kernel
theorem dX6_canSee_19 : decode cX6_canSee 19 = .ok (.getfield 28, 3) := by decide +kernel
theorem dX6_canSee_22 : decode cX6_canSee 22 = .ok (.iload_n 1, 1) := by decide +kernel
theorem dX6_canSee_23 : decode cX6_canSee 23 = .ok (.iaload, 1) := by decide +kernel
theorem dX6_canSee_24 : decode cX6_canSee 24 = .ok (.iconst 1, 1) := by decide +kernel
theorem dX6_canSee_25 : decode cX6_canSee 25 = .ok (.if_icmp .ne 13, 3) := by decide +kernel
theorem dX6_canSee_28 : decode cX6_canSee 28 = .ok (.aload_n 0, 1) := by decide +kernel
theorem dX6_canSee_29 : decode cX6_canSee 29 = .ok (.iload_n 3, 1) := by decide +kernel
theorem dX6_canSee_30 : decode cX6_canSee 30 = .ok (.invokevirtual 99, 3) := by decide +kernel
theorem dX6_canSee_33 : decode cX6_canSee 33 = .ok (.iconst 2, 1) := by decide +kernel
theorem dX6_canSee_34 : decode cX6_canSee 34 = .ok (.idiv, 1) := by decide +kernel
theorem dX6_canSee_35 : decode cX6_canSee 35 = .ok (.goto 4, 3) := by decide +kernel
theorem dX6_canSee_38 : decode cX6_canSee 38 = .ok (.iconst (-1), 1) := by decide +kernel
theorem dX6_canSee_39 : decode cX6_canSee 39 = .ok (.istore 4, 2) := by decide +kernel
theorem dX6_canSee_41 : decode cX6_canSee 41 = .ok (.aload_n 0, 1) := by decide +kernel
theorem dX6_canSee_42 : decode cX6_canSee 42 = .ok (.getfield 19, 3) := by decide +kernel
theorem dX6_canSee_45 : decode cX6_canSee 45 = .ok (.iload_n 3, 1) := by decide +kernel
theorem dX6_canSee_46 : decode cX6_canSee 46 = .ok (.iaload, 1) := by decide +kernel
theorem dX6_canSee_47 : decode cX6_canSee 47 = .ok (.iconst 1, 1) := by decide +kernel
theorem dX6_canSee_48 : decode cX6_canSee 48 = .ok (.if_icmp .ne 22, 3) := by decide +kernel
theorem dX6_canSee_51 : decode cX6_canSee 51 = .ok (.iload_n 2, 1) := by decide +kernel
theorem dX6_canSee_52 : decode cX6_canSee 52 = .ok (.aload_n 0, 1) := by decide +kernel
theorem dX6_canSee_53 : decode cX6_canSee 53 = .ok (.getfield 16, 3) := by decide +kernel
theorem dX6_canSee_56 : decode cX6_canSee 56 = .ok (.iload_n 3, 1) := by decide +kernel
theorem dX6_canSee_57 : decode cX6_canSee 57 = .ok (.iaload, 1) := by decide +kernel
theorem dX6_canSee_58 : decode cX6_canSee 58 = .ok (.invokestatic 103, 3) := by decide +kernel
theorem dX6_canSee_61 : decode cX6_canSee 61 = .ok (.iload 4, 2) := by decide +kernel
theorem dX6_canSee_63 : decode cX6_canSee 63 = .ok (.if_icmp .gt 7, 3) := by decide +kernel
theorem dX6_canSee_66 : decode cX6_canSee 66 = .ok (.iconst 1, 1) := by decide +kernel
theorem dX6_canSee_67 : decode cX6_canSee 67 = .ok (.goto 4, 3) := by decide +kernel
theorem dX6_canSee_70 : decode cX6_canSee 70 = .ok (.iconst 0, 1) := by decide +kernel
theorem dX6_canSee_71 : decode cX6_canSee 71 = .ok (.ireturn, 1) := by decide +kernel
theorem dX6_seenFrom_0 : decode cX6_seenFrom 0 = .ok (.iconst 0, 1) := by decide +kernel
theorem dX6_seenFrom_1 : decode cX6_seenFrom 1 = .ok (.istore_n 3, 1) := by decide +kernel
theorem dX6_seenFrom_2 : decode cX6_seenFrom 2 = .ok (.iconst 0, 1) := by decide +kernel
theorem dX6_seenFrom_3 : decode cX6_seenFrom 3 = .ok (.istore 4, 2) := by decide +kernel
theorem dX6_seenFrom_5 : decode cX6_seenFrom 5 = .ok (.iload 4, 2) := by decide +kernel
theorem dX6_seenFrom_7 : decode cX6_seenFrom 7 = .ok (.aload_n 0, 1) := by decide +kernel
theorem dX6_seenFrom_8 : decode cX6_seenFrom 8 = .ok (.getfield 89, 3) := by decide +kernel
theorem dX6_seenFrom_11 : decode cX6_seenFrom 11 = .ok (.if_icmp .ge 31, 3) := by decide +kernel
theorem dX6_seenFrom_14 : decode cX6_seenFrom 14 = .ok (.iload_n 3, 1) := by decide +kernel
theorem dX6_seenFrom_15 : decode cX6_seenFrom 15 = .ok (.aload_n 0, 1) := by decide +kernel
theorem dX6_seenFrom_16 : decode cX6_seenFrom 16 = .ok (.iload_n 1, 1) := by decide +kernel
theorem dX6_seenFrom_17 : decode cX6_seenFrom 17 = .ok (.iload_n 2, 1) := by decide +kernel
theorem dX6_seenFrom_18 : decode cX6_seenFrom 18 = .ok (.iload 4, 2) := by decide +kernel
theorem dX6_seenFrom_20 : decode cX6_seenFrom 20 = .ok (.invokevirtual 106, 3) := by decide +kernel
theorem dX6_seenFrom_23 : decode cX6_seenFrom 23 = .ok (.ifCond .eq 10, 3) := by decide +kernel
theorem dX6_seenFrom_26 : decode cX6_seenFrom 26 = .ok (.iconst 1, 1) := by decide +kernel
theorem dX6_seenFrom_27 : decode cX6_seenFrom 27 = .ok (.iload 4, 2) := by decide +kernel
theorem dX6_seenFrom_29 : decode cX6_seenFrom 29 = .ok (.ishl, 1) := by decide +kernel
theorem dX6_seenFrom_30 : decode cX6_seenFrom 30 = .ok (.goto 4, 3) := by decide +kernel
theorem dX6_seenFrom_33 : decode cX6_seenFrom 33 = .ok (.iconst 0, 1) := by decide +kernel
theorem dX6_seenFrom_34 : decode cX6_seenFrom 34 = .ok (.ior, 1) := by decide +kernel
theorem dX6_seenFrom_35 : decode cX6_seenFrom 35 = .ok (.istore_n 3, 1) := by decide +kernel
theorem dX6_seenFrom_36 : decode cX6_seenFrom 36 = .ok (.iinc 4 1, 3) := by decide +kernel
theorem dX6_seenFrom_39 : decode cX6_seenFrom 39 = .ok (.goto (-34), 3) := by decide +kernel
theorem dX6_seenFrom_42 : decode cX6_seenFrom 42 = .ok (.iload_n 3, 1) := by decide +kernel
theorem dX6_seenFrom_43 : decode cX6_seenFrom 43 = .ok (.ireturn, 1) := by decide +kernel
theorem dX6_owesBits_0 : decode cX6_owesBits 0 = .ok (.iconst 0, 1) := by decide +kernel
theorem dX6_owesBits_1 : decode cX6_owesBits 1 = .ok (.istore_n 2, 1) := by decide +kernel
theorem dX6_owesBits_2 : decode cX6_owesBits 2 = .ok (.iconst 0, 1) := by decide +kernel
theorem dX6_owesBits_3 : decode cX6_owesBits 3 = .ok (.istore_n 3, 1) := by decide +kernel
theorem dX6_owesBits_4 : decode cX6_owesBits 4 = .ok (.iload_n 3, 1) := by decide +kernel
theorem dX6_owesBits_5 : decode cX6_owesBits 5 = .ok (.aload_n 0, 1) := by decide +kernel
theorem dX6_owesBits_6 : decode cX6_owesBits 6 = .ok (.getfield 89, 3) := by decide +kernel
theorem dX6_owesBits_9 : decode cX6_owesBits 9 = .ok (.if_icmp .ge 33, 3) := by decide +kernel
theorem dX6_owesBits_12 : decode cX6_owesBits 12 = .ok (.iload_n 2, 1) := by decide +kernel
theorem dX6_owesBits_13 : decode cX6_owesBits 13 = .ok (.aload_n 0, 1) := by decide +kernel
theorem dX6_owesBits_14 : decode cX6_owesBits 14 = .ok (.getfield 31, 3) := by decide +kernel
theorem dX6_owesBits_17 : decode cX6_owesBits 17 = .ok (.bipush 7, 2) := by decide +kernel
theorem dX6_owesBits_19 : decode cX6_owesBits 19 = .ok (.iload_n 1, 1) := by decide +kernel
theorem dX6_owesBits_20 : decode cX6_owesBits 20 = .ok (.imul, 1) := by decide +kernel
theorem dX6_owesBits_21 : decode cX6_owesBits 21 = .ok (.iload_n 3, 1) := by decide +kernel
theorem dX6_owesBits_22 : decode cX6_owesBits 22 = .ok (.iadd, 1) := by decide +kernel
theorem dX6_owesBits_23 : decode cX6_owesBits 23 = .ok (.iaload, 1) := by decide +kernel
theorem dX6_owesBits_24 : decode cX6_owesBits 24 = .ok (.ifCond .le 9, 3) := by decide +kernel
theorem dX6_owesBits_27 : decode cX6_owesBits 27 = .ok (.iconst 1, 1) := by decide +kernel
theorem dX6_owesBits_28 : decode cX6_owesBits 28 = .ok (.iload_n 3, 1) := by decide +kernel
theorem dX6_owesBits_29 : decode cX6_owesBits 29 = .ok (.ishl, 1) := by decide +kernel
theorem dX6_owesBits_30 : decode cX6_owesBits 30 = .ok (.goto 4, 3) := by decide +kernel
theorem dX6_owesBits_33 : decode cX6_owesBits 33 = .ok (.iconst 0, 1) := by decide +kernel
theorem dX6_owesBits_34 : decode cX6_owesBits 34 = .ok (.ior, 1) := by decide +kernel
theorem dX6_owesBits_35 : decode cX6_owesBits 35 = .ok (.istore_n 2, 1) := by decide +kernel
theorem dX6_owesBits_36 : decode cX6_owesBits 36 = .ok (.iinc 3 1, 3) := by decide +kernel
theorem dX6_owesBits_39 : decode cX6_owesBits 39 = .ok (.goto (-35), 3) := by decide +kernel
theorem dX6_owesBits_42 : decode cX6_owesBits 42 = .ok (.iload_n 2, 1) := by decide +kernel
theorem dX6_owesBits_43 : decode cX6_owesBits 43 = .ok (.ireturn, 1) := by decide +kernel
theorem dX6_priceOf_0 : decode cX6_priceOf 0 = .ok (.iconst 0, 1) := by decide +kernel
theorem dX6_priceOf_1 : decode cX6_priceOf 1 = .ok (.istore_n 2, 1) := by decide +kernel
theorem dX6_priceOf_2 : decode cX6_priceOf 2 = .ok (.iconst 0, 1) := by decide +kernel
theorem dX6_priceOf_3 : decode cX6_priceOf 3 = .ok (.istore_n 3, 1) := by decide +kernel
theorem dX6_priceOf_4 : decode cX6_priceOf 4 = .ok (.iload_n 3, 1) := by decide +kernel
theorem dX6_priceOf_5 : decode cX6_priceOf 5 = .ok (.aload_n 0, 1) := by decide +kernel
theorem dX6_priceOf_6 : decode cX6_priceOf 6 = .ok (.getfield 89, 3) := by decide +kernel
theorem dX6_priceOf_9 : decode cX6_priceOf 9 = .ok (.if_icmp .ge 43, 3) := by decide +kernel
theorem dX6_priceOf_12 : decode cX6_priceOf 12 = .ok (.aload_n 0, 1) := by decide +kernel
theorem dX6_priceOf_13 : decode cX6_priceOf 13 = .ok (.getfield 31, 3) := by decide +kernel
theorem dX6_priceOf_16 : decode cX6_priceOf 16 = .ok (.bipush 7, 2) := by decide +kernel
theorem dX6_priceOf_18 : decode cX6_priceOf 18 = .ok (.iload_n 1, 1) := by decide +kernel
theorem dX6_priceOf_19 : decode cX6_priceOf 19 = .ok (.imul, 1) := by decide +kernel
theorem dX6_priceOf_20 : decode cX6_priceOf 20 = .ok (.iload_n 3, 1) := by decide +kernel
theorem dX6_priceOf_21 : decode cX6_priceOf 21 = .ok (.iadd, 1) := by decide +kernel
theorem dX6_priceOf_22 : decode cX6_priceOf 22 = .ok (.iaload, 1) := by decide +kernel
theorem dX6_priceOf_23 : decode cX6_priceOf 23 = .ok (.istore 4, 2) := by decide +kernel
theorem dX6_priceOf_25 : decode cX6_priceOf 25 = .ok (.iload_n 2, 1) := by decide +kernel
theorem dX6_priceOf_26 : decode cX6_priceOf 26 = .ok (.iload 4, 2) := by decide +kernel
theorem dX6_priceOf_28 : decode cX6_priceOf 28 = .ok (.ifCond .le 15, 3) := by decide +kernel
theorem dX6_priceOf_31 : decode cX6_priceOf 31 = .ok (.aload_n 0, 1) := by decide +kernel
theorem dX6_priceOf_32 : decode cX6_priceOf 32 = .ok (.iload_n 3, 1) := by decide +kernel
theorem dX6_priceOf_33 : decode cX6_priceOf 33 = .ok (.iload 4, 2) := by decide +kernel
theorem dX6_priceOf_35 : decode cX6_priceOf 35 = .ok (.iconst 1, 1) := by decide +kernel
theorem dX6_priceOf_36 : decode cX6_priceOf 36 = .ok (.isub, 1) := by decide +kernel
theorem dX6_priceOf_37 : decode cX6_priceOf 37 = .ok (.invokevirtual 110, 3) := by decide +kernel
theorem dX6_priceOf_40 : decode cX6_priceOf 40 = .ok (.goto 4, 3) := by decide +kernel
theorem dX6_priceOf_43 : decode cX6_priceOf 43 = .ok (.iconst 0, 1) := by decide +kernel
theorem dX6_priceOf_44 : decode cX6_priceOf 44 = .ok (.iadd, 1) := by decide +kernel
theorem dX6_priceOf_45 : decode cX6_priceOf 45 = .ok (.istore_n 2, 1) := by decide +kernel
theorem dX6_priceOf_46 : decode cX6_priceOf 46 = .ok (.iinc 3 1, 3) := by decide +kernel
theorem dX6_priceOf_49 : decode cX6_priceOf 49 = .ok (.goto (-45), 3) := by decide +kernel
theorem dX6_priceOf_52 : decode cX6_priceOf 52 = .ok (.iload_n 2, 1) := by decide +kernel
theorem dX6_priceOf_53 : decode cX6_priceOf 53 = .ok (.ireturn, 1) := by decide +kernel
theorem dX6_allPrices_0 : decode cX6_allPrices 0 = .ok (.iconst 0, 1) := by decide +kernel
theorem dX6_allPrices_1 : decode cX6_allPrices 1 = .ok (.istore_n 1, 1) := by decide +kernel
theorem dX6_allPrices_2 : decode cX6_allPrices 2 = .ok (.iconst 0, 1) := by decide +kernel
theorem dX6_allPrices_3 : decode cX6_allPrices 3 = .ok (.istore_n 2, 1) := by decide +kernel
theorem dX6_allPrices_4 : decode cX6_allPrices 4 = .ok (.iload_n 2, 1) := by decide +kernel
theorem dX6_allPrices_5 : decode cX6_allPrices 5 = .ok (.aload_n 0, 1) := by decide +kernel
theorem dX6_allPrices_6 : decode cX6_allPrices 6 = .ok (.getfield 92, 3) := by decide +kernel
theorem dX6_allPrices_9 : decode cX6_allPrices 9 = .ok (.if_icmp .ge 17, 3) := by decide +kernel
theorem dX6_allPrices_12 : decode cX6_allPrices 12 = .ok (.iload_n 1, 1) := by decide +kernel
theorem dX6_allPrices_13 : decode cX6_allPrices 13 = .ok (.aload_n 0, 1) := by decide +kernel
theorem dX6_allPrices_14 : decode cX6_allPrices 14 = .ok (.iload_n 2, 1) := by decide +kernel
theorem dX6_allPrices_15 : decode cX6_allPrices 15 = .ok (.invokevirtual 113, 3) := by decide +kernel
theorem dX6_allPrices_18 : decode cX6_allPrices 18 = .ok (.iadd, 1) := by decide +kernel
theorem dX6_allPrices_19 : decode cX6_allPrices 19 = .ok (.istore_n 1, 1) := by decide +kernel
theorem dX6_allPrices_20 : decode cX6_allPrices 20 = .ok (.iinc 2 1, 3) := by decide +kernel
theorem dX6_allPrices_23 : decode cX6_allPrices 23 = .ok (.goto (-19), 3) := by decide +kernel
theorem dX6_allPrices_26 : decode cX6_allPrices 26 = .ok (.iload_n 1, 1) := by decide +kernel
theorem dX6_allPrices_27 : decode cX6_allPrices 27 = .ok (.ireturn, 1) := by decide +kernel
theorem dX6_allDebts_0 : decode cX6_allDebts 0 = .ok (.iconst 0, 1) := by decide +kernel
theorem dX6_allDebts_1 : decode cX6_allDebts 1 = .ok (.istore_n 1, 1) := by decide +kernel
theorem dX6_allDebts_2 : decode cX6_allDebts 2 = .ok (.iconst 0, 1) := by decide +kernel
theorem dX6_allDebts_3 : decode cX6_allDebts 3 = .ok (.istore_n 2, 1) := by decide +kernel
theorem dX6_allDebts_4 : decode cX6_allDebts 4 = .ok (.iload_n 2, 1) := by decide +kernel
theorem dX6_allDebts_5 : decode cX6_allDebts 5 = .ok (.aload_n 0, 1) := by decide +kernel
theorem dX6_allDebts_6 : decode cX6_allDebts 6 = .ok (.getfield 92, 3) := by decide +kernel
theorem dX6_allDebts_9 : decode cX6_allDebts 9 = .ok (.if_icmp .ge 20, 3) := by decide +kernel
theorem dX6_allDebts_12 : decode cX6_allDebts 12 = .ok (.iload_n 1, 1) := by decide +kernel
theorem dX6_allDebts_13 : decode cX6_allDebts 13 = .ok (.aload_n 0, 1) := by decide +kernel
theorem dX6_allDebts_14 : decode cX6_allDebts 14 = .ok (.iload_n 2, 1) := by decide +kernel
theorem dX6_allDebts_15 : decode cX6_allDebts 15 = .ok (.invokevirtual 116, 3) := by decide +kernel
theorem dX6_allDebts_18 : decode cX6_allDebts 18 = .ok (.invokestatic 119, 3) := by decide +kernel
theorem dX6_allDebts_21 : decode cX6_allDebts 21 = .ok (.iadd, 1) := by decide +kernel
theorem dX6_allDebts_22 : decode cX6_allDebts 22 = .ok (.istore_n 1, 1) := by decide +kernel
theorem dX6_allDebts_23 : decode cX6_allDebts 23 = .ok (.iinc 2 1, 3) := by decide +kernel
theorem dX6_allDebts_26 : decode cX6_allDebts 26 = .ok (.goto (-22), 3) := by decide +kernel
theorem dX6_allDebts_29 : decode cX6_allDebts 29 = .ok (.iload_n 1, 1) := by decide +kernel
theorem dX6_allDebts_30 : decode cX6_allDebts 30 = .ok (.ireturn, 1) := by decide +kernel
theorem dX6_owersOf_0 : decode cX6_owersOf 0 = .ok (.iconst 0, 1) := by decide +kernel
theorem dX6_owersOf_1 : decode cX6_owersOf 1 = .ok (.istore_n 2, 1) := by decide +kernel
theorem dX6_owersOf_2 : decode cX6_owersOf 2 = .ok (.iconst 0, 1) := by decide +kernel
theorem dX6_owersOf_3 : decode cX6_owersOf 3 = .ok (.istore_n 3, 1) := by decide +kernel
theorem dX6_owersOf_4 : decode cX6_owersOf 4 = .ok (.iload_n 3, 1) := by decide +kernel
theorem dX6_owersOf_5 : decode cX6_owersOf 5 = .ok (.aload_n 0, 1) := by decide +kernel
theorem dX6_owersOf_6 : decode cX6_owersOf 6 = .ok (.getfield 92, 3) := by decide +kernel
theorem dX6_owersOf_9 : decode cX6_owersOf 9 = .ok (.if_icmp .ge 33, 3) := by decide +kernel
theorem dX6_owersOf_12 : decode cX6_owersOf 12 = .ok (.iload_n 2, 1) := by decide +kernel
theorem dX6_owersOf_13 : decode cX6_owersOf 13 = .ok (.aload_n 0, 1) := by decide +kernel
theorem dX6_owersOf_14 : decode cX6_owersOf 14 = .ok (.getfield 31, 3) := by decide +kernel
theorem dX6_owersOf_17 : decode cX6_owersOf 17 = .ok (.bipush 7, 2) := by decide +kernel
theorem dX6_owersOf_19 : decode cX6_owersOf 19 = .ok (.iload_n 3, 1) := by decide +kernel
theorem dX6_owersOf_20 : decode cX6_owersOf 20 = .ok (.imul, 1) := by decide +kernel
theorem dX6_owersOf_21 : decode cX6_owersOf 21 = .ok (.iload_n 1, 1) := by decide +kernel
theorem dX6_owersOf_22 : decode cX6_owersOf 22 = .ok (.iadd, 1) := by decide +kernel
theorem dX6_owersOf_23 : decode cX6_owersOf 23 = .ok (.iaload, 1) := by decide +kernel
theorem dX6_owersOf_24 : decode cX6_owersOf 24 = .ok (.ifCond .le 9, 3) := by decide +kernel
theorem dX6_owersOf_27 : decode cX6_owersOf 27 = .ok (.iconst 1, 1) := by decide +kernel
theorem dX6_owersOf_28 : decode cX6_owersOf 28 = .ok (.iload_n 3, 1) := by decide +kernel
theorem dX6_owersOf_29 : decode cX6_owersOf 29 = .ok (.ishl, 1) := by decide +kernel
theorem dX6_owersOf_30 : decode cX6_owersOf 30 = .ok (.goto 4, 3) := by decide +kernel
theorem dX6_owersOf_33 : decode cX6_owersOf 33 = .ok (.iconst 0, 1) := by decide +kernel
theorem dX6_owersOf_34 : decode cX6_owersOf 34 = .ok (.ior, 1) := by decide +kernel
theorem dX6_owersOf_35 : decode cX6_owersOf 35 = .ok (.istore_n 2, 1) := by decide +kernel
theorem dX6_owersOf_36 : decode cX6_owersOf 36 = .ok (.iinc 3 1, 3) := by decide +kernel
theorem dX6_owersOf_39 : decode cX6_owersOf 39 = .ok (.goto (-35), 3) := by decide +kernel
theorem dX6_owersOf_42 : decode cX6_owersOf 42 = .ok (.iload_n 2, 1) := by decide +kernel
theorem dX6_owersOf_43 : decode cX6_owersOf 43 = .ok (.ireturn, 1) := by decide +kernel
theorem dX6_towards_0 : decode cX6_towards 0 = .ok (.iload_n 0, 1) := by decide +kernel
theorem dX6_towards_1 : decode cX6_towards 1 = .ok (.bipush 7, 2) := by decide +kernel
theorem dX6_towards_3 : decode cX6_towards 3 = .ok (.idiv, 1) := by decide +kernel
theorem dX6_towards_4 : decode cX6_towards 4 = .ok (.iload_n 1, 1) := by decide +kernel
theorem dX6_towards_5 : decode cX6_towards 5 = .ok (.bipush 7, 2) := by decide +kernel
theorem dX6_towards_7 : decode cX6_towards 7 = .ok (.idiv, 1) := by decide +kernel
theorem dX6_towards_8 : decode cX6_towards 8 = .ok (.if_icmp .eq 26, 3) := by decide +kernel
theorem dX6_towards_11 : decode cX6_towards 11 = .ok (.iload_n 0, 1) := by decide +kernel
theorem dX6_towards_12 : decode cX6_towards 12 = .ok (.bipush 7, 2) := by decide +kernel
theorem dX6_towards_14 : decode cX6_towards 14 = .ok (.idiv, 1) := by decide +kernel
theorem dX6_towards_15 : decode cX6_towards 15 = .ok (.iload_n 1, 1) := by decide +kernel
theorem dX6_towards_16 : decode cX6_towards 16 = .ok (.bipush 7, 2) := by decide +kernel
theorem dX6_towards_18 : decode cX6_towards 18 = .ok (.idiv, 1) := by decide +kernel
theorem dX6_towards_19 : decode cX6_towards 19 = .ok (.if_icmp .ge 10, 3) := by decide +kernel
theorem dX6_towards_22 : decode cX6_towards 22 = .ok (.iload_n 0, 1) := by decide +kernel
theorem dX6_towards_23 : decode cX6_towards 23 = .ok (.bipush 7, 2) := by decide +kernel
theorem dX6_towards_25 : decode cX6_towards 25 = .ok (.iadd, 1) := by decide +kernel
theorem dX6_towards_26 : decode cX6_towards 26 = .ok (.goto 7, 3) := by decide +kernel
theorem dX6_towards_29 : decode cX6_towards 29 = .ok (.iload_n 0, 1) := by decide +kernel
theorem dX6_towards_30 : decode cX6_towards 30 = .ok (.bipush 7, 2) := by decide +kernel
theorem dX6_towards_32 : decode cX6_towards 32 = .ok (.isub, 1) := by decide +kernel
theorem dX6_towards_33 : decode cX6_towards 33 = .ok (.ireturn, 1) := by decide +kernel
theorem dX6_towards_34 : decode cX6_towards 34 = .ok (.iload_n 0, 1) := by decide +kernel
theorem dX6_towards_35 : decode cX6_towards 35 = .ok (.iload_n 1, 1) := by decide +kernel
theorem dX6_towards_36 : decode cX6_towards 36 = .ok (.if_icmp .ge 9, 3) := by decide +kernel
theorem dX6_towards_39 : decode cX6_towards 39 = .ok (.iload_n 0, 1) := by decide +kernel
theorem dX6_towards_40 : decode cX6_towards 40 = .ok (.iconst 1, 1) := by decide +kernel
theorem dX6_towards_41 : decode cX6_towards 41 = .ok (.iadd, 1) := by decide +kernel
theorem dX6_towards_42 : decode cX6_towards 42 = .ok (.goto 15, 3) := by decide +kernel
theorem dX6_towards_45 : decode cX6_towards 45 = .ok (.iload_n 0, 1) := by decide +kernel
theorem dX6_towards_46 : decode cX6_towards 46 = .ok (.iload_n 1, 1) := by decide +kernel
theorem dX6_towards_47 : decode cX6_towards 47 = .ok (.if_icmp .le 9, 3) := by decide +kernel
theorem dX6_towards_50 : decode cX6_towards 50 = .ok (.iload_n 0, 1) := by decide +kernel
theorem dX6_towards_51 : decode cX6_towards 51 = .ok (.iconst 1, 1) := by decide +kernel
theorem dX6_towards_52 : decode cX6_towards 52 = .ok (.isub, 1) := by decide +kernel
theorem dX6_towards_53 : decode cX6_towards 53 = .ok (.goto 4, 3) := by decide +kernel
theorem dX6_towards_56 : decode cX6_towards 56 = .ok (.iload_n 0, 1) := by decide +kernel
theorem dX6_towards_57 : decode cX6_towards 57 = .ok (.ireturn, 1) := by decide +kernel
theorem dX6_eveningBy_0 : decode cX6_eveningBy 0 = .ok (.aload_n 0, 1) := by decide +kernel
theorem dX6_eveningBy_1 : decode cX6_eveningBy 1 = .ok (.dup, 1) := by decide +kernel
theorem dX6_eveningBy_2 : decode cX6_eveningBy 2 = .ok (.getfield 122, 3) := by decide +kernel
theorem dX6_eveningBy_5 : decode cX6_eveningBy 5 = .ok (.iconst 1, 1) := by decide +kernel
theorem dX6_eveningBy_6 : decode cX6_eveningBy 6 = .ok (.iadd, 1) := by decide +kernel
theorem dX6_eveningBy_7 : decode cX6_eveningBy 7 = .ok (.putfield 122, 3) := by decide +kernel
theorem dX6_eveningBy_10 : decode cX6_eveningBy 10 = .ok (.iconst 0, 1) := by decide +kernel
theorem dX6_eveningBy_11 : decode cX6_eveningBy 11 = .ok (.istore_n 2, 1) := by decide +kernel
theorem dX6_eveningBy_12 : decode cX6_eveningBy 12 = .ok (.iload_n 2, 1) := by decide +kernel
theorem dX6_eveningBy_13 : decode cX6_eveningBy 13 = .ok (.bipush 42, 2) := by decide +kernel
theorem dX6_eveningBy_15 : decode cX6_eveningBy 15 = .ok (.if_icmp .ge 43, 3) := by decide +kernel
theorem dX6_eveningBy_18 : decode cX6_eveningBy 18 = .ok (.aload_n 0, 1) := by decide +kernel
theorem dX6_eveningBy_19 : decode cX6_eveningBy 19 = .ok (.getfield 31, 3) := by decide +kernel
theorem dX6_eveningBy_22 : decode cX6_eveningBy 22 = .ok (.iload_n 2, 1) := by decide +kernel
theorem dX6_eveningBy_23 : decode cX6_eveningBy 23 = .ok (.dup2, 1) := by decide +kernel
theorem dX6_eveningBy_24 : decode cX6_eveningBy 24 = .ok (.iaload, 1) := by decide +kernel
theorem dX6_eveningBy_25 : decode cX6_eveningBy 25 = .ok (.aload_n 0, 1) := by decide +kernel
theorem dX6_eveningBy_26 : decode cX6_eveningBy 26 = .ok (.getfield 31, 3) := by decide +kernel
theorem dX6_eveningBy_29 : decode cX6_eveningBy 29 = .ok (.iload_n 2, 1) := by decide +kernel
theorem dX6_eveningBy_30 : decode cX6_eveningBy 30 = .ok (.iaload, 1) := by decide +kernel
theorem dX6_eveningBy_31 : decode cX6_eveningBy 31 = .ok (.ifCond .le 18, 3) := by decide +kernel
theorem dX6_eveningBy_34 : decode cX6_eveningBy 34 = .ok (.aload_n 0, 1) := by decide +kernel
theorem dX6_eveningBy_35 : decode cX6_eveningBy 35 = .ok (.getfield 31, 3) := by decide +kernel
theorem dX6_eveningBy_38 : decode cX6_eveningBy 38 = .ok (.iload_n 2, 1) := by decide +kernel
theorem dX6_eveningBy_39 : decode cX6_eveningBy 39 = .ok (.iaload, 1) := by decide +kernel
theorem dX6_eveningBy_40 : decode cX6_eveningBy 40 = .ok (.bipush 100, 2) := by decide +kernel
theorem dX6_eveningBy_42 : decode cX6_eveningBy 42 = .ok (.if_icmp .ge 7, 3) := by decide +kernel
theorem dX6_eveningBy_45 : decode cX6_eveningBy 45 = .ok (.iconst 1, 1) := by decide +kernel
theorem dX6_eveningBy_46 : decode cX6_eveningBy 46 = .ok (.goto 4, 3) := by decide +kernel
theorem dX6_eveningBy_49 : decode cX6_eveningBy 49 = .ok (.iconst 0, 1) := by decide +kernel
theorem dX6_eveningBy_50 : decode cX6_eveningBy 50 = .ok (.iadd, 1) := by decide +kernel
theorem dX6_eveningBy_51 : decode cX6_eveningBy 51 = .ok (.iastore, 1) := by decide +kernel
theorem dX6_eveningBy_52 : decode cX6_eveningBy 52 = .ok (.iinc 2 1, 3) := by decide +kernel
theorem dX6_eveningBy_55 : decode cX6_eveningBy 55 = .ok (.goto (-43), 3) := by decide +kernel
theorem dX6_eveningBy_58 : decode cX6_eveningBy 58 = .ok (.iconst 0, 1) := by decide +kernel
theorem dX6_eveningBy_59 : decode cX6_eveningBy 59 = .ok (.istore_n 2, 1) := by decide +kernel
theorem dX6_eveningBy_60 : decode cX6_eveningBy 60 = .ok (.iload_n 2, 1) := by decide +kernel
theorem dX6_eveningBy_61 : decode cX6_eveningBy 61 = .ok (.aload_n 0, 1) := by decide +kernel
theorem dX6_eveningBy_62 : decode cX6_eveningBy 62 = .ok (.getfield 92, 3) := by decide +kernel
theorem dX6_eveningBy_65 : decode cX6_eveningBy 65 = .ok (.if_icmp .ge 120, 3) := by decide +kernel
theorem dX6_eveningBy_68 : decode cX6_eveningBy 68 = .ok (.aload_n 0, 1) := by decide +kernel
theorem dX6_eveningBy_69 : decode cX6_eveningBy 69 = .ok (.getfield 22, 3) := by decide +kernel
theorem dX6_eveningBy_72 : decode cX6_eveningBy 72 = .ok (.iload_n 2, 1) := by decide +kernel
theorem dX6_eveningBy_73 : decode cX6_eveningBy 73 = .ok (.aload_n 0, 1) := by decide +kernel
theorem dX6_eveningBy_74 : decode cX6_eveningBy 74 = .ok (.getfield 22, 3) := by decide +kernel
theorem dX6_eveningBy_77 : decode cX6_eveningBy 77 = .ok (.iload_n 2, 1) := by decide +kernel
theorem dX6_eveningBy_78 : decode cX6_eveningBy 78 = .ok (.iaload, 1) := by decide +kernel
theorem dX6_eveningBy_79 : decode cX6_eveningBy 79 = .ok (.aload_n 0, 1) := by decide +kernel
theorem dX6_eveningBy_80 : decode cX6_eveningBy 80 = .ok (.getfield 25, 3) := by decide +kernel
theorem dX6_eveningBy_83 : decode cX6_eveningBy 83 = .ok (.iload_n 2, 1) := by decide +kernel
theorem dX6_eveningBy_84 : decode cX6_eveningBy 84 = .ok (.iaload, 1) := by decide +kernel
theorem dX6_eveningBy_85 : decode cX6_eveningBy 85 = .ok (.invokestatic 125, 3) := by decide +kernel
theorem dX6_eveningBy_88 : decode cX6_eveningBy 88 = .ok (.iastore, 1) := by decide +kernel
theorem dX6_eveningBy_89 : decode cX6_eveningBy 89 = .ok (.iload_n 1, 1) := by decide +kernel
theorem dX6_eveningBy_90 : decode cX6_eveningBy 90 = .ok (.ifCond .eq 7, 3) := by decide +kernel
theorem dX6_eveningBy_93 : decode cX6_eveningBy 93 = .ok (.iconst 0, 1) := by decide +kernel
theorem dX6_eveningBy_94 : decode cX6_eveningBy 94 = .ok (.goto 14, 3) := by decide +kernel
theorem dX6_eveningBy_97 : decode cX6_eveningBy 97 = .ok (.aload_n 0, 1) := by decide +kernel
theorem dX6_eveningBy_98 : decode cX6_eveningBy 98 = .ok (.iload_n 2, 1) := by decide +kernel
theorem dX6_eveningBy_99 : decode cX6_eveningBy 99 = .ok (.aload_n 0, 1) := by decide +kernel
theorem dX6_eveningBy_100 : decode cX6_eveningBy 100 = .ok (.getfield 22, 3) := by decide +kernel
theorem dX6_eveningBy_103 : decode cX6_eveningBy 103 = .ok (.iload_n 2, 1) := by decide +kernel
theorem dX6_eveningBy_104 : decode cX6_eveningBy 104 = .ok (.iaload, 1) := by decide +kernel
theorem dX6_eveningBy_105 : decode cX6_eveningBy 105 = .ok (.invokevirtual 128, 3) := by decide +kernel
theorem dX6_eveningBy_108 : decode cX6_eveningBy 108 = .ok (.istore_n 3, 1) := by decide +kernel
theorem dX6_eveningBy_109 : decode cX6_eveningBy 109 = .ok (.iconst 0, 1) := by decide +kernel
theorem dX6_eveningBy_110 : decode cX6_eveningBy 110 = .ok (.istore 4, 2) := by decide +kernel
theorem dX6_eveningBy_112 : decode cX6_eveningBy 112 = .ok (.iload 4, 2) := by decide +kernel
theorem dX6_eveningBy_114 : decode cX6_eveningBy 114 = .ok (.aload_n 0, 1) := by decide +kernel
theorem dX6_eveningBy_115 : decode cX6_eveningBy 115 = .ok (.getfield 89, 3) := by decide +kernel
theorem dX6_eveningBy_118 : decode cX6_eveningBy 118 = .ok (.if_icmp .ge 61, 3) := by decide +kernel
theorem dX6_eveningBy_121 : decode cX6_eveningBy 121 = .ok (.aload_n 0, 1) := by decide +kernel
theorem dX6_eveningBy_122 : decode cX6_eveningBy 122 = .ok (.getfield 31, 3) := by decide +kernel
theorem dX6_eveningBy_125 : decode cX6_eveningBy 125 = .ok (.bipush 7, 2) := by decide +kernel
theorem dX6_eveningBy_127 : decode cX6_eveningBy 127 = .ok (.iload_n 2, 1) := by decide +kernel
theorem dX6_eveningBy_128 : decode cX6_eveningBy 128 = .ok (.imul, 1) := by decide +kernel
theorem dX6_eveningBy_129 : decode cX6_eveningBy 129 = .ok (.iload 4, 2) := by decide +kernel
theorem dX6_eveningBy_131 : decode cX6_eveningBy 131 = .ok (.iadd, 1) := by decide +kernel
theorem dX6_eveningBy_132 : decode cX6_eveningBy 132 = .ok (.aload_n 0, 1) := by decide +kernel
theorem dX6_eveningBy_133 : decode cX6_eveningBy 133 = .ok (.getfield 31, 3) := by decide +kernel
theorem dX6_eveningBy_136 : decode cX6_eveningBy 136 = .ok (.bipush 7, 2) := by decide +kernel
theorem dX6_eveningBy_138 : decode cX6_eveningBy 138 = .ok (.iload_n 2, 1) := by decide +kernel
theorem dX6_eveningBy_139 : decode cX6_eveningBy 139 = .ok (.imul, 1) := by decide +kernel
theorem dX6_eveningBy_140 : decode cX6_eveningBy 140 = .ok (.iload 4, 2) := by decide +kernel
theorem dX6_eveningBy_142 : decode cX6_eveningBy 142 = .ok (.iadd, 1) := by decide +kernel
theorem dX6_eveningBy_143 : decode cX6_eveningBy 143 = .ok (.iaload, 1) := by decide +kernel
theorem dX6_eveningBy_144 : decode cX6_eveningBy 144 = .ok (.ifCond .ne 16, 3) := by decide +kernel
theorem dX6_eveningBy_147 : decode cX6_eveningBy 147 = .ok (.iload_n 3, 1) := by decide +kernel
theorem dX6_eveningBy_148 : decode cX6_eveningBy 148 = .ok (.iload 4, 2) := by decide +kernel
theorem dX6_eveningBy_150 : decode cX6_eveningBy 150 = .ok (.invokestatic 131, 3) := by decide +kernel
theorem dX6_eveningBy_153 : decode cX6_eveningBy 153 = .ok (.ifCond .eq 7, 3) := by decide +kernel
theorem dX6_eveningBy_156 : decode cX6_eveningBy 156 = .ok (.iconst 1, 1) := by decide +kernel
theorem dX6_eveningBy_157 : decode cX6_eveningBy 157 = .ok (.goto 15, 3) := by decide +kernel
theorem dX6_eveningBy_160 : decode cX6_eveningBy 160 = .ok (.aload_n 0, 1) := by decide +kernel
theorem dX6_eveningBy_161 : decode cX6_eveningBy 161 = .ok (.getfield 31, 3) := by decide +kernel
theorem dX6_eveningBy_164 : decode cX6_eveningBy 164 = .ok (.bipush 7, 2) := by decide +kernel
theorem dX6_eveningBy_166 : decode cX6_eveningBy 166 = .ok (.iload_n 2, 1) := by decide +kernel
theorem dX6_eveningBy_167 : decode cX6_eveningBy 167 = .ok (.imul, 1) := by decide +kernel
theorem dX6_eveningBy_168 : decode cX6_eveningBy 168 = .ok (.iload 4, 2) := by decide +kernel
theorem dX6_eveningBy_170 : decode cX6_eveningBy 170 = .ok (.iadd, 1) := by decide +kernel
theorem dX6_eveningBy_171 : decode cX6_eveningBy 171 = .ok (.iaload, 1) := by decide +kernel
theorem dX6_eveningBy_172 : decode cX6_eveningBy 172 = .ok (.iastore, 1) := by decide +kernel
theorem dX6_eveningBy_173 : decode cX6_eveningBy 173 = .ok (.iinc 4 1, 3) := by decide +kernel
theorem dX6_eveningBy_176 : decode cX6_eveningBy 176 = .ok (.goto (-64), 3) := by decide +kernel
theorem dX6_eveningBy_179 : decode cX6_eveningBy 179 = .ok (.iinc 2 1, 3) := by decide +kernel
theorem dX6_eveningBy_182 : decode cX6_eveningBy 182 = .ok (.goto (-122), 3) := by decide +kernel
theorem dX6_eveningBy_185 : decode cX6_eveningBy 185 = .ok (.return_, 1) := by decide +kernel
theorem dX6_goEvenings_0 : decode cX6_goEvenings 0 = .ok (.iconst 0, 1) := by decide +kernel
theorem dX6_goEvenings_1 : decode cX6_goEvenings 1 = .ok (.istore_n 2, 1) := by decide +kernel
theorem dX6_goEvenings_2 : decode cX6_goEvenings 2 = .ok (.iload_n 2, 1) := by decide +kernel
theorem dX6_goEvenings_3 : decode cX6_goEvenings 3 = .ok (.iload_n 1, 1) := by decide +kernel
theorem dX6_goEvenings_4 : decode cX6_goEvenings 4 = .ok (.if_icmp .ge 14, 3) := by decide +kernel
theorem dX6_goEvenings_7 : decode cX6_goEvenings 7 = .ok (.aload_n 0, 1) := by decide +kernel
theorem dX6_goEvenings_8 : decode cX6_goEvenings 8 = .ok (.iconst 0, 1) := by decide +kernel
theorem dX6_goEvenings_9 : decode cX6_goEvenings 9 = .ok (.invokevirtual 135, 3) := by decide +kernel
theorem dX6_goEvenings_12 : decode cX6_goEvenings 12 = .ok (.iinc 2 1, 3) := by decide +kernel
theorem dX6_goEvenings_15 : decode cX6_goEvenings 15 = .ok (.goto (-13), 3) := by decide +kernel
theorem dX6_goEvenings_18 : decode cX6_goEvenings 18 = .ok (.return_, 1) := by decide +kernel
theorem dX6_houseComes_0 : decode cX6_houseComes 0 = .ok (.iload_n 1, 1) := by decide +kernel
theorem dX6_houseComes_1 : decode cX6_houseComes 1 = .ok (.bipush 6, 2) := by decide +kernel
theorem dX6_houseComes_3 : decode cX6_houseComes 3 = .ok (.if_icmp .ge 23, 3) := by decide +kernel
theorem dX6_houseComes_6 : decode cX6_houseComes 6 = .ok (.iload_n 3, 1) := by decide +kernel
theorem dX6_houseComes_7 : decode cX6_houseComes 7 = .ok (.invokestatic 139, 3) := by decide +kernel
theorem dX6_houseComes_10 : decode cX6_houseComes 10 = .ok (.ifCond .eq 16, 3) := by decide +kernel
theorem dX6_houseComes_13 : decode cX6_houseComes 13 = .ok (.aload_n 0, 1) := by decide +kernel
theorem dX6_houseComes_14 : decode cX6_houseComes 14 = .ok (.getfield 89, 3) := by decide +kernel
theorem dX6_houseComes_17 : decode cX6_houseComes 17 = .ok (.bipush 7, 2) := by decide +kernel
theorem dX6_houseComes_19 : decode cX6_houseComes 19 = .ok (.if_icmp .ge 7, 3) := by decide +kernel
theorem dX6_houseComes_22 : decode cX6_houseComes 22 = .ok (.iconst 1, 1) := by decide +kernel
theorem dX6_houseComes_23 : decode cX6_houseComes 23 = .ok (.goto 4, 3) := by decide +kernel
theorem dX6_houseComes_26 : decode cX6_houseComes 26 = .ok (.iconst 0, 1) := by decide +kernel
theorem dX6_houseComes_27 : decode cX6_houseComes 27 = .ok (.istore 4, 2) := by decide +kernel
theorem dX6_houseComes_29 : decode cX6_houseComes 29 = .ok (.iload 4, 2) := by decide +kernel
theorem dX6_houseComes_31 : decode cX6_houseComes 31 = .ok (.ifCond .eq 85, 3) := by decide +kernel
theorem dX6_houseComes_34 : decode cX6_houseComes 34 = .ok (.aload_n 0, 1) := by decide +kernel
theorem dX6_houseComes_35 : decode cX6_houseComes 35 = .ok (.getfield 7, 3) := by decide +kernel
theorem dX6_houseComes_38 : decode cX6_houseComes 38 = .ok (.aload_n 0, 1) := by decide +kernel
theorem dX6_houseComes_39 : decode cX6_houseComes 39 = .ok (.getfield 89, 3) := by decide +kernel
theorem dX6_houseComes_42 : decode cX6_houseComes 42 = .ok (.iload_n 1, 1) := by decide +kernel
theorem dX6_houseComes_43 : decode cX6_houseComes 43 = .ok (.iastore, 1) := by decide +kernel
theorem dX6_houseComes_44 : decode cX6_houseComes 44 = .ok (.aload_n 0, 1) := by decide +kernel
theorem dX6_houseComes_45 : decode cX6_houseComes 45 = .ok (.getfield 13, 3) := by decide +kernel
theorem dX6_houseComes_48 : decode cX6_houseComes 48 = .ok (.aload_n 0, 1) := by decide +kernel
theorem dX6_houseComes_49 : decode cX6_houseComes 49 = .ok (.getfield 89, 3) := by decide +kernel
theorem dX6_houseComes_52 : decode cX6_houseComes 52 = .ok (.iload_n 2, 1) := by decide +kernel
theorem dX6_houseComes_53 : decode cX6_houseComes 53 = .ok (.iastore, 1) := by decide +kernel
theorem dX6_houseComes_54 : decode cX6_houseComes 54 = .ok (.aload_n 0, 1) := by decide +kernel
theorem dX6_houseComes_55 : decode cX6_houseComes 55 = .ok (.getfield 16, 3) := by decide +kernel
theorem dX6_houseComes_58 : decode cX6_houseComes 58 = .ok (.aload_n 0, 1) := by decide +kernel
theorem dX6_houseComes_59 : decode cX6_houseComes 59 = .ok (.getfield 89, 3) := by decide +kernel
theorem dX6_houseComes_62 : decode cX6_houseComes 62 = .ok (.iload_n 3, 1) := by decide +kernel
theorem dX6_houseComes_63 : decode cX6_houseComes 63 = .ok (.iastore, 1) := by decide +kernel
theorem dX6_houseComes_64 : decode cX6_houseComes 64 = .ok (.aload_n 0, 1) := by decide +kernel
theorem dX6_houseComes_65 : decode cX6_houseComes 65 = .ok (.getfield 19, 3) := by decide +kernel
theorem dX6_houseComes_68 : decode cX6_houseComes 68 = .ok (.aload_n 0, 1) := by decide +kernel
theorem dX6_houseComes_69 : decode cX6_houseComes 69 = .ok (.getfield 89, 3) := by decide +kernel
theorem dX6_houseComes_72 : decode cX6_houseComes 72 = .ok (.iconst 1, 1) := by decide +kernel
theorem dX6_houseComes_73 : decode cX6_houseComes 73 = .ok (.iastore, 1) := by decide +kernel
theorem dX6_houseComes_74 : decode cX6_houseComes 74 = .ok (.iconst 0, 1) := by decide +kernel
theorem dX6_houseComes_75 : decode cX6_houseComes 75 = .ok (.istore 5, 2) := by decide +kernel
theorem dX6_houseComes_77 : decode cX6_houseComes 77 = .ok (.iload 5, 2) := by decide +kernel
theorem dX6_houseComes_79 : decode cX6_houseComes 79 = .ok (.bipush 6, 2) := by decide +kernel
theorem dX6_houseComes_81 : decode cX6_houseComes 81 = .ok (.if_icmp .ge 25, 3) := by decide +kernel
theorem dX6_houseComes_84 : decode cX6_houseComes 84 = .ok (.aload_n 0, 1) := by decide +kernel
theorem dX6_houseComes_85 : decode cX6_houseComes 85 = .ok (.getfield 31, 3) := by decide +kernel
theorem dX6_houseComes_88 : decode cX6_houseComes 88 = .ok (.bipush 7, 2) := by decide +kernel
theorem dX6_houseComes_90 : decode cX6_houseComes 90 = .ok (.iload 5, 2) := by decide +kernel
theorem dX6_houseComes_92 : decode cX6_houseComes 92 = .ok (.imul, 1) := by decide +kernel
theorem dX6_houseComes_93 : decode cX6_houseComes 93 = .ok (.aload_n 0, 1) := by decide +kernel
theorem dX6_houseComes_94 : decode cX6_houseComes 94 = .ok (.getfield 89, 3) := by decide +kernel
theorem dX6_houseComes_97 : decode cX6_houseComes 97 = .ok (.iadd, 1) := by decide +kernel
theorem dX6_houseComes_98 : decode cX6_houseComes 98 = .ok (.iconst 0, 1) := by decide +kernel
theorem dX6_houseComes_99 : decode cX6_houseComes 99 = .ok (.iastore, 1) := by decide +kernel
theorem dX6_houseComes_100 : decode cX6_houseComes 100 = .ok (.iinc 5 1, 3) := by decide +kernel
theorem dX6_houseComes_103 : decode cX6_houseComes 103 = .ok (.goto (-26), 3) := by decide +kernel
theorem dX6_houseComes_106 : decode cX6_houseComes 106 = .ok (.aload_n 0, 1) := by decide +kernel
theorem dX6_houseComes_107 : decode cX6_houseComes 107 = .ok (.dup, 1) := by decide +kernel
theorem dX6_houseComes_108 : decode cX6_houseComes 108 = .ok (.getfield 89, 3) := by decide +kernel
theorem dX6_houseComes_111 : decode cX6_houseComes 111 = .ok (.iconst 1, 1) := by decide +kernel
theorem dX6_houseComes_112 : decode cX6_houseComes 112 = .ok (.iadd, 1) := by decide +kernel
theorem dX6_houseComes_113 : decode cX6_houseComes 113 = .ok (.putfield 89, 3) := by decide +kernel
theorem dX6_houseComes_116 : decode cX6_houseComes 116 = .ok (.iload 4, 2) := by decide +kernel
theorem dX6_houseComes_118 : decode cX6_houseComes 118 = .ok (.ireturn, 1) := by decide +kernel
theorem dX6_walkerComes_0 : decode cX6_walkerComes 0 = .ok (.iload_n 1, 1) := by decide +kernel
theorem dX6_walkerComes_1 : decode cX6_walkerComes 1 = .ok (.invokestatic 139, 3) := by decide +kernel
theorem dX6_walkerComes_4 : decode cX6_walkerComes 4 = .ok (.ifCond .eq 28, 3) := by decide +kernel
theorem dX6_walkerComes_7 : decode cX6_walkerComes 7 = .ok (.iload_n 2, 1) := by decide +kernel
theorem dX6_walkerComes_8 : decode cX6_walkerComes 8 = .ok (.invokestatic 139, 3) := by decide +kernel
theorem dX6_walkerComes_11 : decode cX6_walkerComes 11 = .ok (.ifCond .eq 21, 3) := by decide +kernel
theorem dX6_walkerComes_14 : decode cX6_walkerComes 14 = .ok (.iload_n 3, 1) := by decide +kernel
theorem dX6_walkerComes_15 : decode cX6_walkerComes 15 = .ok (.iconst 2, 1) := by decide +kernel
theorem dX6_walkerComes_16 : decode cX6_walkerComes 16 = .ok (.if_icmp .gt 16, 3) := by decide +kernel
theorem dX6_walkerComes_19 : decode cX6_walkerComes 19 = .ok (.aload_n 0, 1) := by decide +kernel
theorem dX6_walkerComes_20 : decode cX6_walkerComes 20 = .ok (.getfield 92, 3) := by decide +kernel
theorem dX6_walkerComes_23 : decode cX6_walkerComes 23 = .ok (.bipush 6, 2) := by decide +kernel
theorem dX6_walkerComes_25 : decode cX6_walkerComes 25 = .ok (.if_icmp .ge 7, 3) := by decide +kernel
theorem dX6_walkerComes_28 : decode cX6_walkerComes 28 = .ok (.iconst 1, 1) := by decide +kernel
theorem dX6_walkerComes_29 : decode cX6_walkerComes 29 = .ok (.goto 4, 3) := by decide +kernel
theorem dX6_walkerComes_32 : decode cX6_walkerComes 32 = .ok (.iconst 0, 1) := by decide +kernel
theorem dX6_walkerComes_33 : decode cX6_walkerComes 33 = .ok (.istore 4, 2) := by decide +kernel
theorem dX6_walkerComes_35 : decode cX6_walkerComes 35 = .ok (.iload 4, 2) := by decide +kernel
theorem dX6_walkerComes_37 : decode cX6_walkerComes 37 = .ok (.ifCond .eq 75, 3) := by decide +kernel
theorem dX6_walkerComes_40 : decode cX6_walkerComes 40 = .ok (.aload_n 0, 1) := by decide +kernel
theorem dX6_walkerComes_41 : decode cX6_walkerComes 41 = .ok (.getfield 22, 3) := by decide +kernel
theorem dX6_walkerComes_44 : decode cX6_walkerComes 44 = .ok (.aload_n 0, 1) := by decide +kernel
theorem dX6_walkerComes_45 : decode cX6_walkerComes 45 = .ok (.getfield 92, 3) := by decide +kernel
theorem dX6_walkerComes_48 : decode cX6_walkerComes 48 = .ok (.iload_n 1, 1) := by decide +kernel
theorem dX6_walkerComes_49 : decode cX6_walkerComes 49 = .ok (.iastore, 1) := by decide +kernel
theorem dX6_walkerComes_50 : decode cX6_walkerComes 50 = .ok (.aload_n 0, 1) := by decide +kernel
theorem dX6_walkerComes_51 : decode cX6_walkerComes 51 = .ok (.getfield 25, 3) := by decide +kernel
theorem dX6_walkerComes_54 : decode cX6_walkerComes 54 = .ok (.aload_n 0, 1) := by decide +kernel
theorem dX6_walkerComes_55 : decode cX6_walkerComes 55 = .ok (.getfield 92, 3) := by decide +kernel
theorem dX6_walkerComes_58 : decode cX6_walkerComes 58 = .ok (.iload_n 2, 1) := by decide +kernel
theorem dX6_walkerComes_59 : decode cX6_walkerComes 59 = .ok (.iastore, 1) := by decide +kernel
theorem dX6_walkerComes_60 : decode cX6_walkerComes 60 = .ok (.aload_n 0, 1) := by decide +kernel
theorem dX6_walkerComes_61 : decode cX6_walkerComes 61 = .ok (.getfield 28, 3) := by decide +kernel
theorem dX6_walkerComes_64 : decode cX6_walkerComes 64 = .ok (.aload_n 0, 1) := by decide +kernel
theorem dX6_walkerComes_65 : decode cX6_walkerComes 65 = .ok (.getfield 92, 3) := by decide +kernel
theorem dX6_walkerComes_68 : decode cX6_walkerComes 68 = .ok (.iload_n 3, 1) := by decide +kernel
theorem dX6_walkerComes_69 : decode cX6_walkerComes 69 = .ok (.iastore, 1) := by decide +kernel
theorem dX6_walkerComes_70 : decode cX6_walkerComes 70 = .ok (.iconst 0, 1) := by decide +kernel
theorem dX6_walkerComes_71 : decode cX6_walkerComes 71 = .ok (.istore 5, 2) := by decide +kernel
theorem dX6_walkerComes_73 : decode cX6_walkerComes 73 = .ok (.iload 5, 2) := by decide +kernel
theorem dX6_walkerComes_75 : decode cX6_walkerComes 75 = .ok (.bipush 7, 2) := by decide +kernel
theorem dX6_walkerComes_77 : decode cX6_walkerComes 77 = .ok (.if_icmp .ge 25, 3) := by decide +kernel
theorem dX6_walkerComes_80 : decode cX6_walkerComes 80 = .ok (.aload_n 0, 1) := by decide +kernel
theorem dX6_walkerComes_81 : decode cX6_walkerComes 81 = .ok (.getfield 31, 3) := by decide +kernel
theorem dX6_walkerComes_84 : decode cX6_walkerComes 84 = .ok (.bipush 7, 2) := by decide +kernel
theorem dX6_walkerComes_86 : decode cX6_walkerComes 86 = .ok (.aload_n 0, 1) := by decide +kernel
theorem dX6_walkerComes_87 : decode cX6_walkerComes 87 = .ok (.getfield 92, 3) := by decide +kernel
theorem dX6_walkerComes_90 : decode cX6_walkerComes 90 = .ok (.imul, 1) := by decide +kernel
theorem dX6_walkerComes_91 : decode cX6_walkerComes 91 = .ok (.iload 5, 2) := by decide +kernel
theorem dX6_walkerComes_93 : decode cX6_walkerComes 93 = .ok (.iadd, 1) := by decide +kernel
theorem dX6_walkerComes_94 : decode cX6_walkerComes 94 = .ok (.iconst 0, 1) := by decide +kernel
theorem dX6_walkerComes_95 : decode cX6_walkerComes 95 = .ok (.iastore, 1) := by decide +kernel
theorem dX6_walkerComes_96 : decode cX6_walkerComes 96 = .ok (.iinc 5 1, 3) := by decide +kernel
theorem dX6_walkerComes_99 : decode cX6_walkerComes 99 = .ok (.goto (-26), 3) := by decide +kernel
theorem dX6_walkerComes_102 : decode cX6_walkerComes 102 = .ok (.aload_n 0, 1) := by decide +kernel
theorem dX6_walkerComes_103 : decode cX6_walkerComes 103 = .ok (.dup, 1) := by decide +kernel
theorem dX6_walkerComes_104 : decode cX6_walkerComes 104 = .ok (.getfield 92, 3) := by decide +kernel
theorem dX6_walkerComes_107 : decode cX6_walkerComes 107 = .ok (.iconst 1, 1) := by decide +kernel
theorem dX6_walkerComes_108 : decode cX6_walkerComes 108 = .ok (.iadd, 1) := by decide +kernel
theorem dX6_walkerComes_109 : decode cX6_walkerComes 109 = .ok (.putfield 92, 3) := by decide +kernel
theorem dX6_walkerComes_112 : decode cX6_walkerComes 112 = .ok (.iload 4, 2) := by decide +kernel
theorem dX6_walkerComes_114 : decode cX6_walkerComes 114 = .ok (.ireturn, 1) := by decide +kernel
theorem dX6_feed_0 : decode cX6_feed 0 = .ok (.aload_n 0, 1) := by decide +kernel
theorem dX6_feed_1 : decode cX6_feed 1 = .ok (.iconst 0, 1) := by decide +kernel
theorem dX6_feed_2 : decode cX6_feed 2 = .ok (.putfield 79, 3) := by decide +kernel
theorem dX6_feed_5 : decode cX6_feed 5 = .ok (.iload_n 1, 1) := by decide +kernel
theorem dX6_feed_6 : decode cX6_feed 6 = .ok (.ifCond .ge 10, 3) := by decide +kernel
theorem dX6_feed_9 : decode cX6_feed 9 = .ok (.aload_n 0, 1) := by decide +kernel
theorem dX6_feed_10 : decode cX6_feed 10 = .ok (.bipush (-4), 2) := by decide +kernel
theorem dX6_feed_12 : decode cX6_feed 12 = .ok (.invokevirtual 143, 3) := by decide +kernel
theorem dX6_feed_15 : decode cX6_feed 15 = .ok (.ireturn, 1) := by decide +kernel
theorem dX6_feed_16 : decode cX6_feed 16 = .ok (.iload_n 1, 1) := by decide +kernel
theorem dX6_feed_17 : decode cX6_feed 17 = .ok (.sipush 255, 3) := by decide +kernel
theorem dX6_feed_20 : decode cX6_feed 20 = .ok (.if_icmp .gt 12, 3) := by decide +kernel
theorem dX6_feed_23 : decode cX6_feed 23 = .ok (.aload_n 0, 1) := by decide +kernel
theorem dX6_feed_24 : decode cX6_feed 24 = .ok (.getfield 146, 3) := by decide +kernel
theorem dX6_feed_27 : decode cX6_feed 27 = .ok (.bipush 96, 2) := by decide +kernel
theorem dX6_feed_29 : decode cX6_feed 29 = .ok (.if_icmp .ne 10, 3) := by decide +kernel
theorem dX6_feed_32 : decode cX6_feed 32 = .ok (.aload_n 0, 1) := by decide +kernel
theorem dX6_feed_33 : decode cX6_feed 33 = .ok (.bipush (-6), 2) := by decide +kernel
theorem dX6_feed_35 : decode cX6_feed 35 = .ok (.invokevirtual 143, 3) := by decide +kernel
theorem dX6_feed_38 : decode cX6_feed 38 = .ok (.ireturn, 1) := by decide +kernel
theorem dX6_feed_39 : decode cX6_feed 39 = .ok (.aload_n 0, 1) := by decide +kernel
theorem dX6_feed_40 : decode cX6_feed 40 = .ok (.getfield 37, 3) := by decide +kernel
theorem dX6_feed_43 : decode cX6_feed 43 = .ok (.aload_n 0, 1) := by decide +kernel
theorem dX6_feed_44 : decode cX6_feed 44 = .ok (.getfield 146, 3) := by decide +kernel
theorem dX6_feed_47 : decode cX6_feed 47 = .ok (.iload_n 1, 1) := by decide +kernel
theorem dX6_feed_48 : decode cX6_feed 48 = .ok (.iastore, 1) := by decide +kernel
theorem dX6_feed_49 : decode cX6_feed 49 = .ok (.aload_n 0, 1) := by decide +kernel
theorem dX6_feed_50 : decode cX6_feed 50 = .ok (.dup, 1) := by decide +kernel
theorem dX6_feed_51 : decode cX6_feed 51 = .ok (.getfield 146, 3) := by decide +kernel
theorem dX6_feed_54 : decode cX6_feed 54 = .ok (.iconst 1, 1) := by decide +kernel
theorem dX6_feed_55 : decode cX6_feed 55 = .ok (.iadd, 1) := by decide +kernel
theorem dX6_feed_56 : decode cX6_feed 56 = .ok (.putfield 146, 3) := by decide +kernel
theorem dX6_feed_59 : decode cX6_feed 59 = .ok (.aload_n 0, 1) := by decide +kernel
theorem dX6_feed_60 : decode cX6_feed 60 = .ok (.getfield 146, 3) := by decide +kernel
theorem dX6_feed_63 : decode cX6_feed 63 = .ok (.ireturn, 1) := by decide +kernel
theorem dX6_here_0 : decode cX6_here 0 = .ok (.aload_n 0, 1) := by decide +kernel
theorem dX6_here_1 : decode cX6_here 1 = .ok (.getfield 149, 3) := by decide +kernel
theorem dX6_here_4 : decode cX6_here 4 = .ok (.aload_n 0, 1) := by decide +kernel
theorem dX6_here_5 : decode cX6_here 5 = .ok (.getfield 146, 3) := by decide +kernel
theorem dX6_here_8 : decode cX6_here 8 = .ok (.if_icmp .ge 15, 3) := by decide +kernel
theorem dX6_here_11 : decode cX6_here 11 = .ok (.aload_n 0, 1) := by decide +kernel
theorem dX6_here_12 : decode cX6_here 12 = .ok (.getfield 37, 3) := by decide +kernel
theorem dX6_here_15 : decode cX6_here 15 = .ok (.aload_n 0, 1) := by decide +kernel
theorem dX6_here_16 : decode cX6_here 16 = .ok (.getfield 149, 3) := by decide +kernel
theorem dX6_here_19 : decode cX6_here 19 = .ok (.iaload, 1) := by decide +kernel
theorem dX6_here_20 : decode cX6_here 20 = .ok (.goto 4, 3) := by decide +kernel
theorem dX6_here_23 : decode cX6_here 23 = .ok (.iconst (-1), 1) := by decide +kernel
theorem dX6_here_24 : decode cX6_here 24 = .ok (.ireturn, 1) := by decide +kernel
theorem dX6_readDigits_0 : decode cX6_readDigits 0 = .ok (.iconst 0, 1) := by decide +kernel
theorem dX6_readDigits_1 : decode cX6_readDigits 1 = .ok (.istore_n 2, 1) := by decide +kernel
theorem dX6_readDigits_2 : decode cX6_readDigits 2 = .ok (.iconst 0, 1) := by decide +kernel
theorem dX6_readDigits_3 : decode cX6_readDigits 3 = .ok (.istore_n 3, 1) := by decide +kernel
theorem dX6_readDigits_4 : decode cX6_readDigits 4 = .ok (.iload_n 3, 1) := by decide +kernel
theorem dX6_readDigits_5 : decode cX6_readDigits 5 = .ok (.iload_n 1, 1) := by decide +kernel
theorem dX6_readDigits_6 : decode cX6_readDigits 6 = .ok (.if_icmp .ge 92, 3) := by decide +kernel
theorem dX6_readDigits_9 : decode cX6_readDigits 9 = .ok (.aload_n 0, 1) := by decide +kernel
theorem dX6_readDigits_10 : decode cX6_readDigits 10 = .ok (.aload_n 0, 1) := by decide +kernel
theorem dX6_readDigits_11 : decode cX6_readDigits 11 = .ok (.getfield 152, 3) := by decide +kernel
theorem dX6_readDigits_14 : decode cX6_readDigits 14 = .ok (.ifCond .ne 20, 3) := by decide +kernel
theorem dX6_readDigits_17 : decode cX6_readDigits 17 = .ok (.aload_n 0, 1) := by decide +kernel
theorem dX6_readDigits_18 : decode cX6_readDigits 18 = .ok (.invokevirtual 156, 3) := by decide +kernel
theorem dX6_readDigits_21 : decode cX6_readDigits 21 = .ok (.i2l, 1) := by decide +kernel
theorem dX6_readDigits_22 : decode cX6_readDigits 22 = .ok (.ldc2_w 83, 3) := by decide +kernel
theorem dX6_readDigits_25 : decode cX6_readDigits 25 = .ok (.ldc2_w 160, 3) := by decide +kernel
theorem dX6_readDigits_28 : decode cX6_readDigits 28 = .ok (.invokestatic 85, 3) := by decide +kernel
theorem dX6_readDigits_31 : decode cX6_readDigits 31 = .ok (.ifCond .ne 7, 3) := by decide +kernel
theorem dX6_readDigits_34 : decode cX6_readDigits 34 = .ok (.iconst 1, 1) := by decide +kernel
theorem dX6_readDigits_35 : decode cX6_readDigits 35 = .ok (.goto 4, 3) := by decide +kernel
theorem dX6_readDigits_38 : decode cX6_readDigits 38 = .ok (.iconst 0, 1) := by decide +kernel
theorem dX6_readDigits_39 : decode cX6_readDigits 39 = .ok (.putfield 152, 3) := by decide +kernel
theorem dX6_readDigits_42 : decode cX6_readDigits 42 = .ok (.aload_n 0, 1) := by decide +kernel
theorem dX6_readDigits_43 : decode cX6_readDigits 43 = .ok (.getfield 152, 3) := by decide +kernel
theorem dX6_readDigits_46 : decode cX6_readDigits 46 = .ok (.ifCond .eq 7, 3) := by decide +kernel
theorem dX6_readDigits_49 : decode cX6_readDigits 49 = .ok (.iconst 0, 1) := by decide +kernel
theorem dX6_readDigits_50 : decode cX6_readDigits 50 = .ok (.goto 20, 3) := by decide +kernel
theorem dX6_readDigits_53 : decode cX6_readDigits 53 = .ok (.bipush 10, 2) := by decide +kernel
theorem dX6_readDigits_55 : decode cX6_readDigits 55 = .ok (.iload_n 2, 1) := by decide +kernel
theorem dX6_readDigits_56 : decode cX6_readDigits 56 = .ok (.imul, 1) := by decide +kernel
theorem dX6_readDigits_57 : decode cX6_readDigits 57 = .ok (.aload_n 0, 1) := by decide +kernel
theorem dX6_readDigits_58 : decode cX6_readDigits 58 = .ok (.getfield 37, 3) := by decide +kernel
theorem dX6_readDigits_61 : decode cX6_readDigits 61 = .ok (.aload_n 0, 1) := by decide +kernel
theorem dX6_readDigits_62 : decode cX6_readDigits 62 = .ok (.getfield 149, 3) := by decide +kernel
theorem dX6_readDigits_65 : decode cX6_readDigits 65 = .ok (.iaload, 1) := by decide +kernel
theorem dX6_readDigits_66 : decode cX6_readDigits 66 = .ok (.iadd, 1) := by decide +kernel
theorem dX6_readDigits_67 : decode cX6_readDigits 67 = .ok (.bipush 48, 2) := by decide +kernel
theorem dX6_readDigits_69 : decode cX6_readDigits 69 = .ok (.isub, 1) := by decide +kernel
theorem dX6_readDigits_70 : decode cX6_readDigits 70 = .ok (.istore_n 2, 1) := by decide +kernel
theorem dX6_readDigits_71 : decode cX6_readDigits 71 = .ok (.aload_n 0, 1) := by decide +kernel
theorem dX6_readDigits_72 : decode cX6_readDigits 72 = .ok (.dup, 1) := by decide +kernel
theorem dX6_readDigits_73 : decode cX6_readDigits 73 = .ok (.getfield 149, 3) := by decide +kernel
theorem dX6_readDigits_76 : decode cX6_readDigits 76 = .ok (.aload_n 0, 1) := by decide +kernel
theorem dX6_readDigits_77 : decode cX6_readDigits 77 = .ok (.getfield 152, 3) := by decide +kernel
theorem dX6_readDigits_80 : decode cX6_readDigits 80 = .ok (.ifCond .eq 7, 3) := by decide +kernel
theorem dX6_readDigits_83 : decode cX6_readDigits 83 = .ok (.iconst 0, 1) := by decide +kernel
theorem dX6_readDigits_84 : decode cX6_readDigits 84 = .ok (.goto 4, 3) := by decide +kernel
theorem dX6_readDigits_87 : decode cX6_readDigits 87 = .ok (.iconst 1, 1) := by decide +kernel
theorem dX6_readDigits_88 : decode cX6_readDigits 88 = .ok (.iadd, 1) := by decide +kernel
theorem dX6_readDigits_89 : decode cX6_readDigits 89 = .ok (.putfield 149, 3) := by decide +kernel
theorem dX6_readDigits_92 : decode cX6_readDigits 92 = .ok (.iinc 3 1, 3) := by decide +kernel
theorem dX6_readDigits_95 : decode cX6_readDigits 95 = .ok (.goto (-91), 3) := by decide +kernel
theorem dX6_readDigits_98 : decode cX6_readDigits 98 = .ok (.iload_n 2, 1) := by decide +kernel
theorem dX6_readDigits_99 : decode cX6_readDigits 99 = .ok (.ireturn, 1) := by decide +kernel
theorem dX6_isLetter_0 : decode cX6_isLetter 0 = .ok (.iload_n 0, 1) := by decide +kernel
theorem dX6_isLetter_1 : decode cX6_isLetter 1 = .ok (.bipush 104, 2) := by decide +kernel
theorem dX6_isLetter_3 : decode cX6_isLetter 3 = .ok (.if_icmp .eq 33, 3) := by decide +kernel
theorem dX6_isLetter_6 : decode cX6_isLetter 6 = .ok (.iload_n 0, 1) := by decide +kernel
theorem dX6_isLetter_7 : decode cX6_isLetter 7 = .ok (.bipush 119, 2) := by decide +kernel
theorem dX6_isLetter_9 : decode cX6_isLetter 9 = .ok (.if_icmp .eq 27, 3) := by decide +kernel
theorem dX6_isLetter_12 : decode cX6_isLetter 12 = .ok (.iload_n 0, 1) := by decide +kernel
theorem dX6_isLetter_13 : decode cX6_isLetter 13 = .ok (.bipush 108, 2) := by decide +kernel
theorem dX6_isLetter_15 : decode cX6_isLetter 15 = .ok (.if_icmp .eq 21, 3) := by decide +kernel
theorem dX6_isLetter_18 : decode cX6_isLetter 18 = .ok (.iload_n 0, 1) := by decide +kernel
theorem dX6_isLetter_19 : decode cX6_isLetter 19 = .ok (.bipush 103, 2) := by decide +kernel
theorem dX6_isLetter_21 : decode cX6_isLetter 21 = .ok (.if_icmp .eq 15, 3) := by decide +kernel
theorem dX6_isLetter_24 : decode cX6_isLetter 24 = .ok (.iload_n 0, 1) := by decide +kernel
theorem dX6_isLetter_25 : decode cX6_isLetter 25 = .ok (.bipush 111, 2) := by decide +kernel
theorem dX6_isLetter_27 : decode cX6_isLetter 27 = .ok (.if_icmp .eq 9, 3) := by decide +kernel
theorem dX6_isLetter_30 : decode cX6_isLetter 30 = .ok (.iload_n 0, 1) := by decide +kernel
theorem dX6_isLetter_31 : decode cX6_isLetter 31 = .ok (.bipush 101, 2) := by decide +kernel
theorem dX6_isLetter_33 : decode cX6_isLetter 33 = .ok (.if_icmp .ne 7, 3) := by decide +kernel
theorem dX6_isLetter_36 : decode cX6_isLetter 36 = .ok (.iconst 1, 1) := by decide +kernel
theorem dX6_isLetter_37 : decode cX6_isLetter 37 = .ok (.goto 4, 3) := by decide +kernel
theorem dX6_isLetter_40 : decode cX6_isLetter 40 = .ok (.iconst 0, 1) := by decide +kernel
theorem dX6_isLetter_41 : decode cX6_isLetter 41 = .ok (.ireturn, 1) := by decide +kernel
theorem dX6_readNumbers_0 : decode cX6_readNumbers 0 = .ok (.aload_n 0, 1) := by decide +kernel
theorem dX6_readNumbers_1 : decode cX6_readNumbers 1 = .ok (.getfield 46, 3) := by decide +kernel
theorem dX6_readNumbers_4 : decode cX6_readNumbers 4 = .ok (.iload_n 2, 1) := by decide +kernel
theorem dX6_readNumbers_5 : decode cX6_readNumbers 5 = .ok (.aload_n 0, 1) := by decide +kernel
theorem dX6_readNumbers_6 : decode cX6_readNumbers 6 = .ok (.iload_n 1, 1) := by decide +kernel
theorem dX6_readNumbers_7 : decode cX6_readNumbers 7 = .ok (.bipush 119, 2) := by decide +kernel
theorem dX6_readNumbers_9 : decode cX6_readNumbers 9 = .ok (.if_icmp .eq 9, 3) := by decide +kernel
theorem dX6_readNumbers_12 : decode cX6_readNumbers 12 = .ok (.iload_n 1, 1) := by decide +kernel
theorem dX6_readNumbers_13 : decode cX6_readNumbers 13 = .ok (.bipush 101, 2) := by decide +kernel
theorem dX6_readNumbers_15 : decode cX6_readNumbers 15 = .ok (.if_icmp .ne 7, 3) := by decide +kernel
theorem dX6_readNumbers_18 : decode cX6_readNumbers 18 = .ok (.iconst 2, 1) := by decide +kernel
theorem dX6_readNumbers_19 : decode cX6_readNumbers 19 = .ok (.goto 4, 3) := by decide +kernel
theorem dX6_readNumbers_22 : decode cX6_readNumbers 22 = .ok (.iconst 1, 1) := by decide +kernel
theorem dX6_readNumbers_23 : decode cX6_readNumbers 23 = .ok (.invokevirtual 162, 3) := by decide +kernel
theorem dX6_readNumbers_26 : decode cX6_readNumbers 26 = .ok (.iastore, 1) := by decide +kernel
theorem dX6_readNumbers_27 : decode cX6_readNumbers 27 = .ok (.iload_n 1, 1) := by decide +kernel
theorem dX6_readNumbers_28 : decode cX6_readNumbers 28 = .ok (.bipush 104, 2) := by decide +kernel
theorem dX6_readNumbers_30 : decode cX6_readNumbers 30 = .ok (.if_icmp .ne 32, 3) := by decide +kernel
theorem dX6_readNumbers_33 : decode cX6_readNumbers 33 = .ok (.aload_n 0, 1) := by decide +kernel
theorem dX6_readNumbers_34 : decode cX6_readNumbers 34 = .ok (.getfield 46, 3) := by decide +kernel
theorem dX6_readNumbers_37 : decode cX6_readNumbers 37 = .ok (.iload_n 2, 1) := by decide +kernel
theorem dX6_readNumbers_38 : decode cX6_readNumbers 38 = .ok (.iconst 1, 1) := by decide +kernel
theorem dX6_readNumbers_39 : decode cX6_readNumbers 39 = .ok (.iadd, 1) := by decide +kernel
theorem dX6_readNumbers_40 : decode cX6_readNumbers 40 = .ok (.aload_n 0, 1) := by decide +kernel
theorem dX6_readNumbers_41 : decode cX6_readNumbers 41 = .ok (.iconst 1, 1) := by decide +kernel
theorem dX6_readNumbers_42 : decode cX6_readNumbers 42 = .ok (.invokevirtual 162, 3) := by decide +kernel
theorem dX6_readNumbers_45 : decode cX6_readNumbers 45 = .ok (.iastore, 1) := by decide +kernel
theorem dX6_readNumbers_46 : decode cX6_readNumbers 46 = .ok (.aload_n 0, 1) := by decide +kernel
theorem dX6_readNumbers_47 : decode cX6_readNumbers 47 = .ok (.getfield 46, 3) := by decide +kernel
theorem dX6_readNumbers_50 : decode cX6_readNumbers 50 = .ok (.iload_n 2, 1) := by decide +kernel
theorem dX6_readNumbers_51 : decode cX6_readNumbers 51 = .ok (.iconst 2, 1) := by decide +kernel
theorem dX6_readNumbers_52 : decode cX6_readNumbers 52 = .ok (.iadd, 1) := by decide +kernel
theorem dX6_readNumbers_53 : decode cX6_readNumbers 53 = .ok (.aload_n 0, 1) := by decide +kernel
theorem dX6_readNumbers_54 : decode cX6_readNumbers 54 = .ok (.iconst 2, 1) := by decide +kernel
theorem dX6_readNumbers_55 : decode cX6_readNumbers 55 = .ok (.invokevirtual 162, 3) := by decide +kernel
theorem dX6_readNumbers_58 : decode cX6_readNumbers 58 = .ok (.iastore, 1) := by decide +kernel
theorem dX6_readNumbers_59 : decode cX6_readNumbers 59 = .ok (.goto 79, 3) := by decide +kernel
theorem dX6_readNumbers_62 : decode cX6_readNumbers 62 = .ok (.iload_n 1, 1) := by decide +kernel
theorem dX6_readNumbers_63 : decode cX6_readNumbers 63 = .ok (.bipush 119, 2) := by decide +kernel
theorem dX6_readNumbers_65 : decode cX6_readNumbers 65 = .ok (.if_icmp .ne 32, 3) := by decide +kernel
theorem dX6_readNumbers_68 : decode cX6_readNumbers 68 = .ok (.aload_n 0, 1) := by decide +kernel
theorem dX6_readNumbers_69 : decode cX6_readNumbers 69 = .ok (.getfield 46, 3) := by decide +kernel
theorem dX6_readNumbers_72 : decode cX6_readNumbers 72 = .ok (.iload_n 2, 1) := by decide +kernel
theorem dX6_readNumbers_73 : decode cX6_readNumbers 73 = .ok (.iconst 1, 1) := by decide +kernel
theorem dX6_readNumbers_74 : decode cX6_readNumbers 74 = .ok (.iadd, 1) := by decide +kernel
theorem dX6_readNumbers_75 : decode cX6_readNumbers 75 = .ok (.aload_n 0, 1) := by decide +kernel
theorem dX6_readNumbers_76 : decode cX6_readNumbers 76 = .ok (.iconst 2, 1) := by decide +kernel
theorem dX6_readNumbers_77 : decode cX6_readNumbers 77 = .ok (.invokevirtual 162, 3) := by decide +kernel
theorem dX6_readNumbers_80 : decode cX6_readNumbers 80 = .ok (.iastore, 1) := by decide +kernel
theorem dX6_readNumbers_81 : decode cX6_readNumbers 81 = .ok (.aload_n 0, 1) := by decide +kernel
theorem dX6_readNumbers_82 : decode cX6_readNumbers 82 = .ok (.getfield 46, 3) := by decide +kernel
theorem dX6_readNumbers_85 : decode cX6_readNumbers 85 = .ok (.iload_n 2, 1) := by decide +kernel
theorem dX6_readNumbers_86 : decode cX6_readNumbers 86 = .ok (.iconst 2, 1) := by decide +kernel
theorem dX6_readNumbers_87 : decode cX6_readNumbers 87 = .ok (.iadd, 1) := by decide +kernel
theorem dX6_readNumbers_88 : decode cX6_readNumbers 88 = .ok (.aload_n 0, 1) := by decide +kernel
theorem dX6_readNumbers_89 : decode cX6_readNumbers 89 = .ok (.iconst 1, 1) := by decide +kernel
theorem dX6_readNumbers_90 : decode cX6_readNumbers 90 = .ok (.invokevirtual 162, 3) := by decide +kernel
theorem dX6_readNumbers_93 : decode cX6_readNumbers 93 = .ok (.iastore, 1) := by decide +kernel
theorem dX6_readNumbers_94 : decode cX6_readNumbers 94 = .ok (.goto 44, 3) := by decide +kernel
theorem dX6_readNumbers_97 : decode cX6_readNumbers 97 = .ok (.iload_n 1, 1) := by decide +kernel
theorem dX6_readNumbers_98 : decode cX6_readNumbers 98 = .ok (.bipush 103, 2) := by decide +kernel
theorem dX6_readNumbers_100 : decode cX6_readNumbers 100 = .ok (.if_icmp .ne 19, 3) := by decide +kernel
theorem dX6_readNumbers_103 : decode cX6_readNumbers 103 = .ok (.aload_n 0, 1) := by decide +kernel
theorem dX6_readNumbers_104 : decode cX6_readNumbers 104 = .ok (.getfield 46, 3) := by decide +kernel
theorem dX6_readNumbers_107 : decode cX6_readNumbers 107 = .ok (.iload_n 2, 1) := by decide +kernel
theorem dX6_readNumbers_108 : decode cX6_readNumbers 108 = .ok (.iconst 1, 1) := by decide +kernel
theorem dX6_readNumbers_109 : decode cX6_readNumbers 109 = .ok (.iadd, 1) := by decide +kernel
theorem dX6_readNumbers_110 : decode cX6_readNumbers 110 = .ok (.aload_n 0, 1) := by decide +kernel
theorem dX6_readNumbers_111 : decode cX6_readNumbers 111 = .ok (.iconst 2, 1) := by decide +kernel
theorem dX6_readNumbers_112 : decode cX6_readNumbers 112 = .ok (.invokevirtual 162, 3) := by decide +kernel
theorem dX6_readNumbers_115 : decode cX6_readNumbers 115 = .ok (.iastore, 1) := by decide +kernel
theorem dX6_readNumbers_116 : decode cX6_readNumbers 116 = .ok (.goto 22, 3) := by decide +kernel
theorem dX6_readNumbers_119 : decode cX6_readNumbers 119 = .ok (.iload_n 1, 1) := by decide +kernel
theorem dX6_readNumbers_120 : decode cX6_readNumbers 120 = .ok (.bipush 111, 2) := by decide +kernel
theorem dX6_readNumbers_122 : decode cX6_readNumbers 122 = .ok (.if_icmp .ne 16, 3) := by decide +kernel
theorem dX6_readNumbers_125 : decode cX6_readNumbers 125 = .ok (.aload_n 0, 1) := by decide +kernel
theorem dX6_readNumbers_126 : decode cX6_readNumbers 126 = .ok (.getfield 46, 3) := by decide +kernel
theorem dX6_readNumbers_129 : decode cX6_readNumbers 129 = .ok (.iload_n 2, 1) := by decide +kernel
theorem dX6_readNumbers_130 : decode cX6_readNumbers 130 = .ok (.iconst 1, 1) := by decide +kernel
theorem dX6_readNumbers_131 : decode cX6_readNumbers 131 = .ok (.iadd, 1) := by decide +kernel
theorem dX6_readNumbers_132 : decode cX6_readNumbers 132 = .ok (.aload_n 0, 1) := by decide +kernel
theorem dX6_readNumbers_133 : decode cX6_readNumbers 133 = .ok (.iconst 1, 1) := by decide +kernel
theorem dX6_readNumbers_134 : decode cX6_readNumbers 134 = .ok (.invokevirtual 162, 3) := by decide +kernel
theorem dX6_readNumbers_137 : decode cX6_readNumbers 137 = .ok (.iastore, 1) := by decide +kernel
theorem dX6_readNumbers_138 : decode cX6_readNumbers 138 = .ok (.return_, 1) := by decide +kernel
theorem dX6_readStatement_0 : decode cX6_readStatement 0 = .ok (.aload_n 0, 1) := by decide +kernel
theorem dX6_readStatement_1 : decode cX6_readStatement 1 = .ok (.getfield 165, 3) := by decide +kernel
theorem dX6_readStatement_4 : decode cX6_readStatement 4 = .ok (.istore_n 1, 1) := by decide +kernel
theorem dX6_readStatement_5 : decode cX6_readStatement 5 = .ok (.aload_n 0, 1) := by decide +kernel
theorem dX6_readStatement_6 : decode cX6_readStatement 6 = .ok (.invokevirtual 156, 3) := by decide +kernel
theorem dX6_readStatement_9 : decode cX6_readStatement 9 = .ok (.istore_n 2, 1) := by decide +kernel
theorem dX6_readStatement_10 : decode cX6_readStatement 10 = .ok (.aload_n 0, 1) := by decide +kernel
theorem dX6_readStatement_11 : decode cX6_readStatement 11 = .ok (.getfield 40, 3) := by decide +kernel
theorem dX6_readStatement_14 : decode cX6_readStatement 14 = .ok (.iload_n 1, 1) := by decide +kernel
theorem dX6_readStatement_15 : decode cX6_readStatement 15 = .ok (.aload_n 0, 1) := by decide +kernel
theorem dX6_readStatement_16 : decode cX6_readStatement 16 = .ok (.getfield 149, 3) := by decide +kernel
theorem dX6_readStatement_19 : decode cX6_readStatement 19 = .ok (.iastore, 1) := by decide +kernel
theorem dX6_readStatement_20 : decode cX6_readStatement 20 = .ok (.aload_n 0, 1) := by decide +kernel
theorem dX6_readStatement_21 : decode cX6_readStatement 21 = .ok (.getfield 43, 3) := by decide +kernel
theorem dX6_readStatement_24 : decode cX6_readStatement 24 = .ok (.iload_n 1, 1) := by decide +kernel
theorem dX6_readStatement_25 : decode cX6_readStatement 25 = .ok (.iload_n 2, 1) := by decide +kernel
theorem dX6_readStatement_26 : decode cX6_readStatement 26 = .ok (.iastore, 1) := by decide +kernel
theorem dX6_readStatement_27 : decode cX6_readStatement 27 = .ok (.aload_n 0, 1) := by decide +kernel
theorem dX6_readStatement_28 : decode cX6_readStatement 28 = .ok (.aload_n 0, 1) := by decide +kernel
theorem dX6_readStatement_29 : decode cX6_readStatement 29 = .ok (.getfield 152, 3) := by decide +kernel
theorem dX6_readStatement_32 : decode cX6_readStatement 32 = .ok (.ifCond .ne 10, 3) := by decide +kernel
theorem dX6_readStatement_35 : decode cX6_readStatement 35 = .ok (.iload_n 2, 1) := by decide +kernel
theorem dX6_readStatement_36 : decode cX6_readStatement 36 = .ok (.invokestatic 168, 3) := by decide +kernel
theorem dX6_readStatement_39 : decode cX6_readStatement 39 = .ok (.ifCond .ne 7, 3) := by decide +kernel
theorem dX6_readStatement_42 : decode cX6_readStatement 42 = .ok (.iconst 1, 1) := by decide +kernel
theorem dX6_readStatement_43 : decode cX6_readStatement 43 = .ok (.goto 4, 3) := by decide +kernel
theorem dX6_readStatement_46 : decode cX6_readStatement 46 = .ok (.iconst 0, 1) := by decide +kernel
theorem dX6_readStatement_47 : decode cX6_readStatement 47 = .ok (.putfield 152, 3) := by decide +kernel
theorem dX6_readStatement_50 : decode cX6_readStatement 50 = .ok (.aload_n 0, 1) := by decide +kernel
theorem dX6_readStatement_51 : decode cX6_readStatement 51 = .ok (.dup, 1) := by decide +kernel
theorem dX6_readStatement_52 : decode cX6_readStatement 52 = .ok (.getfield 149, 3) := by decide +kernel
theorem dX6_readStatement_55 : decode cX6_readStatement 55 = .ok (.aload_n 0, 1) := by decide +kernel
theorem dX6_readStatement_56 : decode cX6_readStatement 56 = .ok (.getfield 152, 3) := by decide +kernel
theorem dX6_readStatement_59 : decode cX6_readStatement 59 = .ok (.ifCond .eq 7, 3) := by decide +kernel
theorem dX6_readStatement_62 : decode cX6_readStatement 62 = .ok (.iconst 0, 1) := by decide +kernel
theorem dX6_readStatement_63 : decode cX6_readStatement 63 = .ok (.goto 4, 3) := by decide +kernel
theorem dX6_readStatement_66 : decode cX6_readStatement 66 = .ok (.iconst 1, 1) := by decide +kernel
theorem dX6_readStatement_67 : decode cX6_readStatement 67 = .ok (.iadd, 1) := by decide +kernel
theorem dX6_readStatement_68 : decode cX6_readStatement 68 = .ok (.putfield 149, 3) := by decide +kernel
theorem dX6_readStatement_71 : decode cX6_readStatement 71 = .ok (.aload_n 0, 1) := by decide +kernel
theorem dX6_readStatement_72 : decode cX6_readStatement 72 = .ok (.getfield 152, 3) := by decide +kernel
theorem dX6_readStatement_75 : decode cX6_readStatement 75 = .ok (.ifCond .ne 11, 3) := by decide +kernel
theorem dX6_readStatement_78 : decode cX6_readStatement 78 = .ok (.aload_n 0, 1) := by decide +kernel
theorem dX6_readStatement_79 : decode cX6_readStatement 79 = .ok (.iload_n 2, 1) := by decide +kernel
theorem dX6_readStatement_80 : decode cX6_readStatement 80 = .ok (.iconst 3, 1) := by decide +kernel
theorem dX6_readStatement_81 : decode cX6_readStatement 81 = .ok (.iload_n 1, 1) := by decide +kernel
theorem dX6_readStatement_82 : decode cX6_readStatement 82 = .ok (.imul, 1) := by decide +kernel
theorem dX6_readStatement_83 : decode cX6_readStatement 83 = .ok (.invokevirtual 171, 3) := by decide +kernel
theorem dX6_readStatement_86 : decode cX6_readStatement 86 = .ok (.aload_n 0, 1) := by decide +kernel
theorem dX6_readStatement_87 : decode cX6_readStatement 87 = .ok (.aload_n 0, 1) := by decide +kernel
theorem dX6_readStatement_88 : decode cX6_readStatement 88 = .ok (.getfield 152, 3) := by decide +kernel
theorem dX6_readStatement_91 : decode cX6_readStatement 91 = .ok (.ifCond .ne 12, 3) := by decide +kernel
theorem dX6_readStatement_94 : decode cX6_readStatement 94 = .ok (.aload_n 0, 1) := by decide +kernel
theorem dX6_readStatement_95 : decode cX6_readStatement 95 = .ok (.invokevirtual 156, 3) := by decide +kernel
theorem dX6_readStatement_98 : decode cX6_readStatement 98 = .ok (.bipush 59, 2) := by decide +kernel
theorem dX6_readStatement_100 : decode cX6_readStatement 100 = .ok (.if_icmp .eq 7, 3) := by decide +kernel
theorem dX6_readStatement_103 : decode cX6_readStatement 103 = .ok (.iconst 1, 1) := by decide +kernel
theorem dX6_readStatement_104 : decode cX6_readStatement 104 = .ok (.goto 4, 3) := by decide +kernel
theorem dX6_readStatement_107 : decode cX6_readStatement 107 = .ok (.iconst 0, 1) := by decide +kernel
theorem dX6_readStatement_108 : decode cX6_readStatement 108 = .ok (.putfield 152, 3) := by decide +kernel
theorem dX6_readStatement_111 : decode cX6_readStatement 111 = .ok (.aload_n 0, 1) := by decide +kernel
theorem dX6_readStatement_112 : decode cX6_readStatement 112 = .ok (.dup, 1) := by decide +kernel
theorem dX6_readStatement_113 : decode cX6_readStatement 113 = .ok (.getfield 149, 3) := by decide +kernel
theorem dX6_readStatement_116 : decode cX6_readStatement 116 = .ok (.aload_n 0, 1) := by decide +kernel
theorem dX6_readStatement_117 : decode cX6_readStatement 117 = .ok (.getfield 152, 3) := by decide +kernel
theorem dX6_readStatement_120 : decode cX6_readStatement 120 = .ok (.ifCond .eq 7, 3) := by decide +kernel
theorem dX6_readStatement_123 : decode cX6_readStatement 123 = .ok (.iconst 0, 1) := by decide +kernel
theorem dX6_readStatement_124 : decode cX6_readStatement 124 = .ok (.goto 4, 3) := by decide +kernel
theorem dX6_readStatement_127 : decode cX6_readStatement 127 = .ok (.iconst 1, 1) := by decide +kernel
theorem dX6_readStatement_128 : decode cX6_readStatement 128 = .ok (.iadd, 1) := by decide +kernel
theorem dX6_readStatement_129 : decode cX6_readStatement 129 = .ok (.putfield 149, 3) := by decide +kernel
theorem dX6_readStatement_132 : decode cX6_readStatement 132 = .ok (.aload_n 0, 1) := by decide +kernel
theorem dX6_readStatement_133 : decode cX6_readStatement 133 = .ok (.dup, 1) := by decide +kernel
theorem dX6_readStatement_134 : decode cX6_readStatement 134 = .ok (.getfield 165, 3) := by decide +kernel
theorem dX6_readStatement_137 : decode cX6_readStatement 137 = .ok (.iconst 1, 1) := by decide +kernel
theorem dX6_readStatement_138 : decode cX6_readStatement 138 = .ok (.iadd, 1) := by decide +kernel
theorem dX6_readStatement_139 : decode cX6_readStatement 139 = .ok (.putfield 165, 3) := by decide +kernel
theorem dX6_readStatement_142 : decode cX6_readStatement 142 = .ok (.return_, 1) := by decide +kernel
theorem dX6_comesTold_0 : decode cX6_comesTold 0 = .ok (.aload_n 0, 1) := by decide +kernel
theorem dX6_comesTold_1 : decode cX6_comesTold 1 = .ok (.getfield 46, 3) := by decide +kernel
theorem dX6_comesTold_4 : decode cX6_comesTold 4 = .ok (.iconst 3, 1) := by decide +kernel
theorem dX6_comesTold_5 : decode cX6_comesTold 5 = .ok (.iload_n 1, 1) := by decide +kernel
theorem dX6_comesTold_6 : decode cX6_comesTold 6 = .ok (.imul, 1) := by decide +kernel
theorem dX6_comesTold_7 : decode cX6_comesTold 7 = .ok (.iaload, 1) := by decide +kernel
theorem dX6_comesTold_8 : decode cX6_comesTold 8 = .ok (.istore_n 2, 1) := by decide +kernel
theorem dX6_comesTold_9 : decode cX6_comesTold 9 = .ok (.aload_n 0, 1) := by decide +kernel
theorem dX6_comesTold_10 : decode cX6_comesTold 10 = .ok (.getfield 46, 3) := by decide +kernel
theorem dX6_comesTold_13 : decode cX6_comesTold 13 = .ok (.iconst 3, 1) := by decide +kernel
theorem dX6_comesTold_14 : decode cX6_comesTold 14 = .ok (.iload_n 1, 1) := by decide +kernel
theorem dX6_comesTold_15 : decode cX6_comesTold 15 = .ok (.imul, 1) := by decide +kernel
theorem dX6_comesTold_16 : decode cX6_comesTold 16 = .ok (.iconst 1, 1) := by decide +kernel
theorem dX6_comesTold_17 : decode cX6_comesTold 17 = .ok (.iadd, 1) := by decide +kernel
theorem dX6_comesTold_18 : decode cX6_comesTold 18 = .ok (.iaload, 1) := by decide +kernel
theorem dX6_comesTold_19 : decode cX6_comesTold 19 = .ok (.istore_n 3, 1) := by decide +kernel
theorem dX6_comesTold_20 : decode cX6_comesTold 20 = .ok (.aload_n 0, 1) := by decide +kernel
theorem dX6_comesTold_21 : decode cX6_comesTold 21 = .ok (.getfield 46, 3) := by decide +kernel
theorem dX6_comesTold_24 : decode cX6_comesTold 24 = .ok (.iconst 3, 1) := by decide +kernel
theorem dX6_comesTold_25 : decode cX6_comesTold 25 = .ok (.iload_n 1, 1) := by decide +kernel
theorem dX6_comesTold_26 : decode cX6_comesTold 26 = .ok (.imul, 1) := by decide +kernel
theorem dX6_comesTold_27 : decode cX6_comesTold 27 = .ok (.iconst 2, 1) := by decide +kernel
theorem dX6_comesTold_28 : decode cX6_comesTold 28 = .ok (.iadd, 1) := by decide +kernel
theorem dX6_comesTold_29 : decode cX6_comesTold 29 = .ok (.iaload, 1) := by decide +kernel
theorem dX6_comesTold_30 : decode cX6_comesTold 30 = .ok (.istore 4, 2) := by decide +kernel
theorem dX6_comesTold_32 : decode cX6_comesTold 32 = .ok (.iconst 1, 1) := by decide +kernel
theorem dX6_comesTold_33 : decode cX6_comesTold 33 = .ok (.istore 5, 2) := by decide +kernel
theorem dX6_comesTold_35 : decode cX6_comesTold 35 = .ok (.aload_n 0, 1) := by decide +kernel
theorem dX6_comesTold_36 : decode cX6_comesTold 36 = .ok (.getfield 43, 3) := by decide +kernel
theorem dX6_comesTold_39 : decode cX6_comesTold 39 = .ok (.iload_n 1, 1) := by decide +kernel
theorem dX6_comesTold_40 : decode cX6_comesTold 40 = .ok (.iaload, 1) := by decide +kernel
theorem dX6_comesTold_41 : decode cX6_comesTold 41 = .ok (.lookupswitch 192 #[(103, 98), (104, 51), (108, 69), (111, 135), (119, 60)], 51) := by decide +kernel
theorem dX6_comesTold_92 : decode cX6_comesTold 92 = .ok (.aload_n 0, 1) := by decide +kernel
theorem dX6_comesTold_93 : decode cX6_comesTold 93 = .ok (.iload_n 2, 1) := by decide +kernel
theorem dX6_comesTold_94 : decode cX6_comesTold 94 = .ok (.iload_n 3, 1) := by decide +kernel
theorem dX6_comesTold_95 : decode cX6_comesTold 95 = .ok (.iload 4, 2) := by decide +kernel
theorem dX6_comesTold_97 : decode cX6_comesTold 97 = .ok (.invokevirtual 175, 3) := by decide +kernel
theorem dX6_comesTold_100 : decode cX6_comesTold 100 = .ok (.ireturn, 1) := by decide +kernel
theorem dX6_comesTold_101 : decode cX6_comesTold 101 = .ok (.aload_n 0, 1) := by decide +kernel
theorem dX6_comesTold_102 : decode cX6_comesTold 102 = .ok (.iload_n 2, 1) := by decide +kernel
theorem dX6_comesTold_103 : decode cX6_comesTold 103 = .ok (.iload_n 3, 1) := by decide +kernel
theorem dX6_comesTold_104 : decode cX6_comesTold 104 = .ok (.iload 4, 2) := by decide +kernel
theorem dX6_comesTold_106 : decode cX6_comesTold 106 = .ok (.invokevirtual 178, 3) := by decide +kernel
theorem dX6_comesTold_109 : decode cX6_comesTold 109 = .ok (.ireturn, 1) := by decide +kernel
theorem dX6_comesTold_110 : decode cX6_comesTold 110 = .ok (.aload_n 0, 1) := by decide +kernel
theorem dX6_comesTold_111 : decode cX6_comesTold 111 = .ok (.iload_n 2, 1) := by decide +kernel
theorem dX6_comesTold_112 : decode cX6_comesTold 112 = .ok (.invokevirtual 181, 3) := by decide +kernel
theorem dX6_comesTold_115 : decode cX6_comesTold 115 = .ok (.istore 5, 2) := by decide +kernel
theorem dX6_comesTold_117 : decode cX6_comesTold 117 = .ok (.iload 5, 2) := by decide +kernel
theorem dX6_comesTold_119 : decode cX6_comesTold 119 = .ok (.ifCond .eq 17, 3) := by decide +kernel
theorem dX6_comesTold_122 : decode cX6_comesTold 122 = .ok (.aload_n 0, 1) := by decide +kernel
theorem dX6_comesTold_123 : decode cX6_comesTold 123 = .ok (.getfield 19, 3) := by decide +kernel
theorem dX6_comesTold_126 : decode cX6_comesTold 126 = .ok (.iload_n 2, 1) := by decide +kernel
theorem dX6_comesTold_127 : decode cX6_comesTold 127 = .ok (.iconst 1, 1) := by decide +kernel
theorem dX6_comesTold_128 : decode cX6_comesTold 128 = .ok (.aload_n 0, 1) := by decide +kernel
theorem dX6_comesTold_129 : decode cX6_comesTold 129 = .ok (.getfield 19, 3) := by decide +kernel
theorem dX6_comesTold_132 : decode cX6_comesTold 132 = .ok (.iload_n 2, 1) := by decide +kernel
theorem dX6_comesTold_133 : decode cX6_comesTold 133 = .ok (.iaload, 1) := by decide +kernel
theorem dX6_comesTold_134 : decode cX6_comesTold 134 = .ok (.isub, 1) := by decide +kernel
theorem dX6_comesTold_135 : decode cX6_comesTold 135 = .ok (.iastore, 1) := by decide +kernel
theorem dX6_comesTold_136 : decode cX6_comesTold 136 = .ok (.iload 5, 2) := by decide +kernel
theorem dX6_comesTold_138 : decode cX6_comesTold 138 = .ok (.ireturn, 1) := by decide +kernel
theorem dX6_comesTold_139 : decode cX6_comesTold 139 = .ok (.aload_n 0, 1) := by decide +kernel
theorem dX6_comesTold_140 : decode cX6_comesTold 140 = .ok (.iload_n 2, 1) := by decide +kernel
theorem dX6_comesTold_141 : decode cX6_comesTold 141 = .ok (.invokevirtual 184, 3) := by decide +kernel
theorem dX6_comesTold_144 : decode cX6_comesTold 144 = .ok (.ifCond .eq 14, 3) := by decide +kernel
theorem dX6_comesTold_147 : decode cX6_comesTold 147 = .ok (.iload_n 3, 1) := by decide +kernel
theorem dX6_comesTold_148 : decode cX6_comesTold 148 = .ok (.invokestatic 139, 3) := by decide +kernel
theorem dX6_comesTold_151 : decode cX6_comesTold 151 = .ok (.ifCond .eq 7, 3) := by decide +kernel
theorem dX6_comesTold_154 : decode cX6_comesTold 154 = .ok (.iconst 1, 1) := by decide +kernel
theorem dX6_comesTold_155 : decode cX6_comesTold 155 = .ok (.goto 4, 3) := by decide +kernel
theorem dX6_comesTold_158 : decode cX6_comesTold 158 = .ok (.iconst 0, 1) := by decide +kernel
theorem dX6_comesTold_159 : decode cX6_comesTold 159 = .ok (.istore 5, 2) := by decide +kernel
theorem dX6_comesTold_161 : decode cX6_comesTold 161 = .ok (.iload 5, 2) := by decide +kernel
theorem dX6_comesTold_163 : decode cX6_comesTold 163 = .ok (.ifCond .eq 10, 3) := by decide +kernel
theorem dX6_comesTold_166 : decode cX6_comesTold 166 = .ok (.aload_n 0, 1) := by decide +kernel
theorem dX6_comesTold_167 : decode cX6_comesTold 167 = .ok (.getfield 25, 3) := by decide +kernel
theorem dX6_comesTold_170 : decode cX6_comesTold 170 = .ok (.iload_n 2, 1) := by decide +kernel
theorem dX6_comesTold_171 : decode cX6_comesTold 171 = .ok (.iload_n 3, 1) := by decide +kernel
theorem dX6_comesTold_172 : decode cX6_comesTold 172 = .ok (.iastore, 1) := by decide +kernel
theorem dX6_comesTold_173 : decode cX6_comesTold 173 = .ok (.iload 5, 2) := by decide +kernel
theorem dX6_comesTold_175 : decode cX6_comesTold 175 = .ok (.ireturn, 1) := by decide +kernel
theorem dX6_comesTold_176 : decode cX6_comesTold 176 = .ok (.aload_n 0, 1) := by decide +kernel
theorem dX6_comesTold_177 : decode cX6_comesTold 177 = .ok (.iload_n 2, 1) := by decide +kernel
theorem dX6_comesTold_178 : decode cX6_comesTold 178 = .ok (.invokevirtual 184, 3) := by decide +kernel
theorem dX6_comesTold_181 : decode cX6_comesTold 181 = .ok (.ifCond .eq 15, 3) := by decide +kernel
theorem dX6_comesTold_184 : decode cX6_comesTold 184 = .ok (.aload_n 0, 1) := by decide +kernel
theorem dX6_comesTold_185 : decode cX6_comesTold 185 = .ok (.iload_n 3, 1) := by decide +kernel
theorem dX6_comesTold_186 : decode cX6_comesTold 186 = .ok (.invokevirtual 181, 3) := by decide +kernel
theorem dX6_comesTold_189 : decode cX6_comesTold 189 = .ok (.ifCond .eq 7, 3) := by decide +kernel
theorem dX6_comesTold_192 : decode cX6_comesTold 192 = .ok (.iconst 1, 1) := by decide +kernel
theorem dX6_comesTold_193 : decode cX6_comesTold 193 = .ok (.goto 4, 3) := by decide +kernel
theorem dX6_comesTold_196 : decode cX6_comesTold 196 = .ok (.iconst 0, 1) := by decide +kernel
theorem dX6_comesTold_197 : decode cX6_comesTold 197 = .ok (.istore 5, 2) := by decide +kernel
theorem dX6_comesTold_199 : decode cX6_comesTold 199 = .ok (.iload 5, 2) := by decide +kernel
theorem dX6_comesTold_201 : decode cX6_comesTold 201 = .ok (.ifCond .eq 29, 3) := by decide +kernel
theorem dX6_comesTold_204 : decode cX6_comesTold 204 = .ok (.aload_n 0, 1) := by decide +kernel
theorem dX6_comesTold_205 : decode cX6_comesTold 205 = .ok (.getfield 31, 3) := by decide +kernel
theorem dX6_comesTold_208 : decode cX6_comesTold 208 = .ok (.bipush 7, 2) := by decide +kernel
theorem dX6_comesTold_210 : decode cX6_comesTold 210 = .ok (.iload_n 2, 1) := by decide +kernel
theorem dX6_comesTold_211 : decode cX6_comesTold 211 = .ok (.imul, 1) := by decide +kernel
theorem dX6_comesTold_212 : decode cX6_comesTold 212 = .ok (.iload_n 3, 1) := by decide +kernel
theorem dX6_comesTold_213 : decode cX6_comesTold 213 = .ok (.iadd, 1) := by decide +kernel
theorem dX6_comesTold_214 : decode cX6_comesTold 214 = .ok (.iaload, 1) := by decide +kernel
theorem dX6_comesTold_215 : decode cX6_comesTold 215 = .ok (.ifCond .ne 15, 3) := by decide +kernel
theorem dX6_comesTold_218 : decode cX6_comesTold 218 = .ok (.aload_n 0, 1) := by decide +kernel
theorem dX6_comesTold_219 : decode cX6_comesTold 219 = .ok (.getfield 31, 3) := by decide +kernel
theorem dX6_comesTold_222 : decode cX6_comesTold 222 = .ok (.bipush 7, 2) := by decide +kernel
theorem dX6_comesTold_224 : decode cX6_comesTold 224 = .ok (.iload_n 2, 1) := by decide +kernel
theorem dX6_comesTold_225 : decode cX6_comesTold 225 = .ok (.imul, 1) := by decide +kernel
theorem dX6_comesTold_226 : decode cX6_comesTold 226 = .ok (.iload_n 3, 1) := by decide +kernel
theorem dX6_comesTold_227 : decode cX6_comesTold 227 = .ok (.iadd, 1) := by decide +kernel
theorem dX6_comesTold_228 : decode cX6_comesTold 228 = .ok (.iconst 1, 1) := by decide +kernel
theorem dX6_comesTold_229 : decode cX6_comesTold 229 = .ok (.iastore, 1) := by decide +kernel
theorem dX6_comesTold_230 : decode cX6_comesTold 230 = .ok (.iload 5, 2) := by decide +kernel
theorem dX6_comesTold_232 : decode cX6_comesTold 232 = .ok (.ireturn, 1) := by decide +kernel
theorem dX6_comesTold_233 : decode cX6_comesTold 233 = .ok (.iload_n 2, 1) := by decide +kernel
theorem dX6_comesTold_234 : decode cX6_comesTold 234 = .ok (.i2l, 1) := by decide +kernel
theorem dX6_comesTold_235 : decode cX6_comesTold 235 = .ok (.lconst 1, 1) := by decide +kernel
theorem dX6_comesTold_236 : decode cX6_comesTold 236 = .ok (.ldc2_w 187, 3) := by decide +kernel
theorem dX6_comesTold_239 : decode cX6_comesTold 239 = .ok (.invokestatic 85, 3) := by decide +kernel
theorem dX6_comesTold_242 : decode cX6_comesTold 242 = .ok (.ifCond .eq 19, 3) := by decide +kernel
theorem dX6_comesTold_245 : decode cX6_comesTold 245 = .ok (.aload_n 0, 1) := by decide +kernel
theorem dX6_comesTold_246 : decode cX6_comesTold 246 = .ok (.getfield 122, 3) := by decide +kernel
theorem dX6_comesTold_249 : decode cX6_comesTold 249 = .ok (.iload_n 2, 1) := by decide +kernel
theorem dX6_comesTold_250 : decode cX6_comesTold 250 = .ok (.iadd, 1) := by decide +kernel
theorem dX6_comesTold_251 : decode cX6_comesTold 251 = .ok (.sipush 999, 3) := by decide +kernel
theorem dX6_comesTold_254 : decode cX6_comesTold 254 = .ok (.if_icmp .gt 7, 3) := by decide +kernel
theorem dX6_comesTold_257 : decode cX6_comesTold 257 = .ok (.iconst 1, 1) := by decide +kernel
theorem dX6_comesTold_258 : decode cX6_comesTold 258 = .ok (.goto 4, 3) := by decide +kernel
theorem dX6_comesTold_261 : decode cX6_comesTold 261 = .ok (.iconst 0, 1) := by decide +kernel
theorem dX6_comesTold_262 : decode cX6_comesTold 262 = .ok (.istore 5, 2) := by decide +kernel
theorem dX6_comesTold_264 : decode cX6_comesTold 264 = .ok (.iload 5, 2) := by decide +kernel
theorem dX6_comesTold_266 : decode cX6_comesTold 266 = .ok (.ifCond .eq 8, 3) := by decide +kernel
theorem dX6_comesTold_269 : decode cX6_comesTold 269 = .ok (.aload_n 0, 1) := by decide +kernel
theorem dX6_comesTold_270 : decode cX6_comesTold 270 = .ok (.iload_n 2, 1) := by decide +kernel
theorem dX6_comesTold_271 : decode cX6_comesTold 271 = .ok (.invokevirtual 189, 3) := by decide +kernel
theorem dX6_comesTold_274 : decode cX6_comesTold 274 = .ok (.iload 5, 2) := by decide +kernel
theorem dX6_comesTold_276 : decode cX6_comesTold 276 = .ok (.ireturn, 1) := by decide +kernel
theorem dX6_village_0 : decode cX6_village 0 = .ok (.aload_n 0, 1) := by decide +kernel
theorem dX6_village_1 : decode cX6_village 1 = .ok (.iconst 0, 1) := by decide +kernel
theorem dX6_village_2 : decode cX6_village 2 = .ok (.putfield 79, 3) := by decide +kernel
theorem dX6_village_5 : decode cX6_village 5 = .ok (.aload_n 0, 1) := by decide +kernel
theorem dX6_village_6 : decode cX6_village 6 = .ok (.iconst 0, 1) := by decide +kernel
theorem dX6_village_7 : decode cX6_village 7 = .ok (.putfield 149, 3) := by decide +kernel
theorem dX6_village_10 : decode cX6_village 10 = .ok (.aload_n 0, 1) := by decide +kernel
theorem dX6_village_11 : decode cX6_village 11 = .ok (.iconst 0, 1) := by decide +kernel
theorem dX6_village_12 : decode cX6_village 12 = .ok (.putfield 152, 3) := by decide +kernel
theorem dX6_village_15 : decode cX6_village 15 = .ok (.aload_n 0, 1) := by decide +kernel
theorem dX6_village_16 : decode cX6_village 16 = .ok (.iconst 0, 1) := by decide +kernel
theorem dX6_village_17 : decode cX6_village 17 = .ok (.putfield 165, 3) := by decide +kernel
theorem dX6_village_20 : decode cX6_village 20 = .ok (.aload_n 0, 1) := by decide +kernel
theorem dX6_village_21 : decode cX6_village 21 = .ok (.getfield 152, 3) := by decide +kernel
theorem dX6_village_24 : decode cX6_village 24 = .ok (.ifCond .ne 28, 3) := by decide +kernel
theorem dX6_village_27 : decode cX6_village 27 = .ok (.aload_n 0, 1) := by decide +kernel
theorem dX6_village_28 : decode cX6_village 28 = .ok (.getfield 165, 3) := by decide +kernel
theorem dX6_village_31 : decode cX6_village 31 = .ok (.ifCond .eq 14, 3) := by decide +kernel
theorem dX6_village_34 : decode cX6_village 34 = .ok (.aload_n 0, 1) := by decide +kernel
theorem dX6_village_35 : decode cX6_village 35 = .ok (.getfield 149, 3) := by decide +kernel
theorem dX6_village_38 : decode cX6_village 38 = .ok (.aload_n 0, 1) := by decide +kernel
theorem dX6_village_39 : decode cX6_village 39 = .ok (.getfield 146, 3) := by decide +kernel
theorem dX6_village_42 : decode cX6_village 42 = .ok (.if_icmp .ge 10, 3) := by decide +kernel
theorem dX6_village_45 : decode cX6_village 45 = .ok (.aload_n 0, 1) := by decide +kernel
theorem dX6_village_46 : decode cX6_village 46 = .ok (.invokevirtual 193, 3) := by decide +kernel
theorem dX6_village_49 : decode cX6_village 49 = .ok (.goto (-29), 3) := by decide +kernel
theorem dX6_village_52 : decode cX6_village 52 = .ok (.aload_n 0, 1) := by decide +kernel
theorem dX6_village_53 : decode cX6_village 53 = .ok (.iconst 0, 1) := by decide +kernel
theorem dX6_village_54 : decode cX6_village 54 = .ok (.putfield 146, 3) := by decide +kernel
theorem dX6_village_57 : decode cX6_village 57 = .ok (.aload_n 0, 1) := by decide +kernel
theorem dX6_village_58 : decode cX6_village 58 = .ok (.getfield 152, 3) := by decide +kernel
theorem dX6_village_61 : decode cX6_village 61 = .ok (.ifCond .eq 12, 3) := by decide +kernel
theorem dX6_village_64 : decode cX6_village 64 = .ok (.sipush (-1000), 3) := by decide +kernel
theorem dX6_village_67 : decode cX6_village 67 = .ok (.aload_n 0, 1) := by decide +kernel
theorem dX6_village_68 : decode cX6_village 68 = .ok (.getfield 149, 3) := by decide +kernel
theorem dX6_village_71 : decode cX6_village 71 = .ok (.isub, 1) := by decide +kernel
theorem dX6_village_72 : decode cX6_village 72 = .ok (.ireturn, 1) := by decide +kernel
theorem dX6_village_73 : decode cX6_village 73 = .ok (.aload_n 0, 1) := by decide +kernel
theorem dX6_village_74 : decode cX6_village 74 = .ok (.invokevirtual 196, 3) := by decide +kernel
theorem dX6_village_77 : decode cX6_village 77 = .ok (.iconst 0, 1) := by decide +kernel
theorem dX6_village_78 : decode cX6_village 78 = .ok (.istore_n 1, 1) := by decide +kernel
theorem dX6_village_79 : decode cX6_village 79 = .ok (.iload_n 1, 1) := by decide +kernel
theorem dX6_village_80 : decode cX6_village 80 = .ok (.aload_n 0, 1) := by decide +kernel
theorem dX6_village_81 : decode cX6_village 81 = .ok (.getfield 165, 3) := by decide +kernel
theorem dX6_village_84 : decode cX6_village 84 = .ok (.if_icmp .ge 32, 3) := by decide +kernel
theorem dX6_village_87 : decode cX6_village 87 = .ok (.aload_n 0, 1) := by decide +kernel
theorem dX6_village_88 : decode cX6_village 88 = .ok (.iload_n 1, 1) := by decide +kernel
theorem dX6_village_89 : decode cX6_village 89 = .ok (.invokevirtual 199, 3) := by decide +kernel
theorem dX6_village_92 : decode cX6_village 92 = .ok (.ifCond .ne 18, 3) := by decide +kernel
theorem dX6_village_95 : decode cX6_village 95 = .ok (.aload_n 0, 1) := by decide +kernel
theorem dX6_village_96 : decode cX6_village 96 = .ok (.invokevirtual 202, 3) := by decide +kernel
theorem dX6_village_99 : decode cX6_village 99 = .ok (.sipush (-2000), 3) := by decide +kernel
theorem dX6_village_102 : decode cX6_village 102 = .ok (.aload_n 0, 1) := by decide +kernel
theorem dX6_village_103 : decode cX6_village 103 = .ok (.getfield 40, 3) := by decide +kernel
theorem dX6_village_106 : decode cX6_village 106 = .ok (.iload_n 1, 1) := by decide +kernel
theorem dX6_village_107 : decode cX6_village 107 = .ok (.iaload, 1) := by decide +kernel
theorem dX6_village_108 : decode cX6_village 108 = .ok (.isub, 1) := by decide +kernel
theorem dX6_village_109 : decode cX6_village 109 = .ok (.ireturn, 1) := by decide +kernel
theorem dX6_village_110 : decode cX6_village 110 = .ok (.iinc 1 1, 3) := by decide +kernel
theorem dX6_village_113 : decode cX6_village 113 = .ok (.goto (-34), 3) := by decide +kernel
theorem dX6_village_116 : decode cX6_village 116 = .ok (.aload_n 0, 1) := by decide +kernel
theorem dX6_village_117 : decode cX6_village 117 = .ok (.iconst 0, 1) := by decide +kernel
theorem dX6_village_118 : decode cX6_village 118 = .ok (.putfield 205, 3) := by decide +kernel
theorem dX6_village_121 : decode cX6_village 121 = .ok (.aload_n 0, 1) := by decide +kernel
theorem dX6_village_122 : decode cX6_village 122 = .ok (.getfield 165, 3) := by decide +kernel
theorem dX6_village_125 : decode cX6_village 125 = .ok (.ireturn, 1) := by decide +kernel
theorem dX6_carry_0 : decode cX6_carry 0 = .ok (.aload_n 0, 1) := by decide +kernel
theorem dX6_carry_1 : decode cX6_carry 1 = .ok (.getfield 208, 3) := by decide +kernel
theorem dX6_carry_4 : decode cX6_carry 4 = .ok (.ifCond .eq 13, 3) := by decide +kernel
theorem dX6_carry_7 : decode cX6_carry 7 = .ok (.aload_n 0, 1) := by decide +kernel
theorem dX6_carry_8 : decode cX6_carry 8 = .ok (.getfield 211, 3) := by decide +kernel
theorem dX6_carry_11 : decode cX6_carry 11 = .ok (.aload_n 0, 1) := by decide +kernel
theorem dX6_carry_12 : decode cX6_carry 12 = .ok (.getfield 214, 3) := by decide +kernel
theorem dX6_carry_15 : decode cX6_carry 15 = .ok (.iload_n 1, 1) := by decide +kernel
theorem dX6_carry_16 : decode cX6_carry 16 = .ok (.iastore, 1) := by decide +kernel
theorem dX6_carry_17 : decode cX6_carry 17 = .ok (.aload_n 0, 1) := by decide +kernel
theorem dX6_carry_18 : decode cX6_carry 18 = .ok (.dup, 1) := by decide +kernel
theorem dX6_carry_19 : decode cX6_carry 19 = .ok (.getfield 214, 3) := by decide +kernel
theorem dX6_carry_22 : decode cX6_carry 22 = .ok (.iconst 1, 1) := by decide +kernel
theorem dX6_carry_23 : decode cX6_carry 23 = .ok (.iadd, 1) := by decide +kernel
theorem dX6_carry_24 : decode cX6_carry 24 = .ok (.putfield 214, 3) := by decide +kernel
theorem dX6_carry_27 : decode cX6_carry 27 = .ok (.aload_n 0, 1) := by decide +kernel
theorem dX6_carry_28 : decode cX6_carry 28 = .ok (.getfield 211, 3) := by decide +kernel
theorem dX6_carry_31 : decode cX6_carry 31 = .ok (.aload_n 0, 1) := by decide +kernel
theorem dX6_carry_32 : decode cX6_carry 32 = .ok (.getfield 214, 3) := by decide +kernel
theorem dX6_carry_35 : decode cX6_carry 35 = .ok (.iconst 1, 1) := by decide +kernel
theorem dX6_carry_36 : decode cX6_carry 36 = .ok (.isub, 1) := by decide +kernel
theorem dX6_carry_37 : decode cX6_carry 37 = .ok (.iaload, 1) := by decide +kernel
theorem dX6_carry_38 : decode cX6_carry 38 = .ok (.ireturn, 1) := by decide +kernel
theorem dX6_carryAll_0 : decode cX6_carryAll 0 = .ok (.aload_n 0, 1) := by decide +kernel
theorem dX6_carryAll_1 : decode cX6_carryAll 1 = .ok (.aload_n 1, 1) := by decide +kernel
theorem dX6_carryAll_2 : decode cX6_carryAll 2 = .ok (.putfield 211, 3) := by decide +kernel
theorem dX6_carryAll_5 : decode cX6_carryAll 5 = .ok (.aload_n 0, 1) := by decide +kernel
theorem dX6_carryAll_6 : decode cX6_carryAll 6 = .ok (.iload_n 2, 1) := by decide +kernel
theorem dX6_carryAll_7 : decode cX6_carryAll 7 = .ok (.putfield 208, 3) := by decide +kernel
theorem dX6_carryAll_10 : decode cX6_carryAll 10 = .ok (.aload_n 0, 1) := by decide +kernel
theorem dX6_carryAll_11 : decode cX6_carryAll 11 = .ok (.iconst 0, 1) := by decide +kernel
theorem dX6_carryAll_12 : decode cX6_carryAll 12 = .ok (.putfield 214, 3) := by decide +kernel
theorem dX6_carryAll_15 : decode cX6_carryAll 15 = .ok (.aload_n 0, 1) := by decide +kernel
theorem dX6_carryAll_16 : decode cX6_carryAll 16 = .ok (.aload_n 0, 1) := by decide +kernel
theorem dX6_carryAll_17 : decode cX6_carryAll 17 = .ok (.aload_n 0, 1) := by decide +kernel
theorem dX6_carryAll_18 : decode cX6_carryAll 18 = .ok (.getfield 89, 3) := by decide +kernel
theorem dX6_carryAll_21 : decode cX6_carryAll 21 = .ok (.invokevirtual 217, 3) := by decide +kernel
theorem dX6_carryAll_24 : decode cX6_carryAll 24 = .ok (.putfield 89, 3) := by decide +kernel
theorem dX6_carryAll_27 : decode cX6_carryAll 27 = .ok (.aload_n 0, 1) := by decide +kernel
theorem dX6_carryAll_28 : decode cX6_carryAll 28 = .ok (.aload_n 0, 1) := by decide +kernel
theorem dX6_carryAll_29 : decode cX6_carryAll 29 = .ok (.aload_n 0, 1) := by decide +kernel
theorem dX6_carryAll_30 : decode cX6_carryAll 30 = .ok (.getfield 92, 3) := by decide +kernel
theorem dX6_carryAll_33 : decode cX6_carryAll 33 = .ok (.invokevirtual 217, 3) := by decide +kernel
theorem dX6_carryAll_36 : decode cX6_carryAll 36 = .ok (.putfield 92, 3) := by decide +kernel
theorem dX6_carryAll_39 : decode cX6_carryAll 39 = .ok (.aload_n 0, 1) := by decide +kernel
theorem dX6_carryAll_40 : decode cX6_carryAll 40 = .ok (.aload_n 0, 1) := by decide +kernel
theorem dX6_carryAll_41 : decode cX6_carryAll 41 = .ok (.aload_n 0, 1) := by decide +kernel
theorem dX6_carryAll_42 : decode cX6_carryAll 42 = .ok (.getfield 122, 3) := by decide +kernel
theorem dX6_carryAll_45 : decode cX6_carryAll 45 = .ok (.invokevirtual 217, 3) := by decide +kernel
theorem dX6_carryAll_48 : decode cX6_carryAll 48 = .ok (.putfield 122, 3) := by decide +kernel
theorem dX6_carryAll_51 : decode cX6_carryAll 51 = .ok (.iconst 0, 1) := by decide +kernel
theorem dX6_carryAll_52 : decode cX6_carryAll 52 = .ok (.istore_n 3, 1) := by decide +kernel
theorem dX6_carryAll_53 : decode cX6_carryAll 53 = .ok (.iload_n 3, 1) := by decide +kernel
theorem dX6_carryAll_54 : decode cX6_carryAll 54 = .ok (.bipush 7, 2) := by decide +kernel
theorem dX6_carryAll_56 : decode cX6_carryAll 56 = .ok (.if_icmp .ge 73, 3) := by decide +kernel
theorem dX6_carryAll_59 : decode cX6_carryAll 59 = .ok (.aload_n 0, 1) := by decide +kernel
theorem dX6_carryAll_60 : decode cX6_carryAll 60 = .ok (.getfield 7, 3) := by decide +kernel
theorem dX6_carryAll_63 : decode cX6_carryAll 63 = .ok (.iload_n 3, 1) := by decide +kernel
theorem dX6_carryAll_64 : decode cX6_carryAll 64 = .ok (.aload_n 0, 1) := by decide +kernel
theorem dX6_carryAll_65 : decode cX6_carryAll 65 = .ok (.aload_n 0, 1) := by decide +kernel
theorem dX6_carryAll_66 : decode cX6_carryAll 66 = .ok (.getfield 7, 3) := by decide +kernel
theorem dX6_carryAll_69 : decode cX6_carryAll 69 = .ok (.iload_n 3, 1) := by decide +kernel
theorem dX6_carryAll_70 : decode cX6_carryAll 70 = .ok (.iaload, 1) := by decide +kernel
theorem dX6_carryAll_71 : decode cX6_carryAll 71 = .ok (.invokevirtual 217, 3) := by decide +kernel
theorem dX6_carryAll_74 : decode cX6_carryAll 74 = .ok (.iastore, 1) := by decide +kernel
theorem dX6_carryAll_75 : decode cX6_carryAll 75 = .ok (.aload_n 0, 1) := by decide +kernel
theorem dX6_carryAll_76 : decode cX6_carryAll 76 = .ok (.getfield 13, 3) := by decide +kernel
theorem dX6_carryAll_79 : decode cX6_carryAll 79 = .ok (.iload_n 3, 1) := by decide +kernel
theorem dX6_carryAll_80 : decode cX6_carryAll 80 = .ok (.aload_n 0, 1) := by decide +kernel
theorem dX6_carryAll_81 : decode cX6_carryAll 81 = .ok (.aload_n 0, 1) := by decide +kernel
theorem dX6_carryAll_82 : decode cX6_carryAll 82 = .ok (.getfield 13, 3) := by decide +kernel
theorem dX6_carryAll_85 : decode cX6_carryAll 85 = .ok (.iload_n 3, 1) := by decide +kernel
theorem dX6_carryAll_86 : decode cX6_carryAll 86 = .ok (.iaload, 1) := by decide +kernel
theorem dX6_carryAll_87 : decode cX6_carryAll 87 = .ok (.invokevirtual 217, 3) := by decide +kernel
theorem dX6_carryAll_90 : decode cX6_carryAll 90 = .ok (.iastore, 1) := by decide +kernel
theorem dX6_carryAll_91 : decode cX6_carryAll 91 = .ok (.aload_n 0, 1) := by decide +kernel
theorem dX6_carryAll_92 : decode cX6_carryAll 92 = .ok (.getfield 16, 3) := by decide +kernel
theorem dX6_carryAll_95 : decode cX6_carryAll 95 = .ok (.iload_n 3, 1) := by decide +kernel
theorem dX6_carryAll_96 : decode cX6_carryAll 96 = .ok (.aload_n 0, 1) := by decide +kernel
theorem dX6_carryAll_97 : decode cX6_carryAll 97 = .ok (.aload_n 0, 1) := by decide +kernel
theorem dX6_carryAll_98 : decode cX6_carryAll 98 = .ok (.getfield 16, 3) := by decide +kernel
theorem dX6_carryAll_101 : decode cX6_carryAll 101 = .ok (.iload_n 3, 1) := by decide +kernel
theorem dX6_carryAll_102 : decode cX6_carryAll 102 = .ok (.iaload, 1) := by decide +kernel
theorem dX6_carryAll_103 : decode cX6_carryAll 103 = .ok (.invokevirtual 217, 3) := by decide +kernel
theorem dX6_carryAll_106 : decode cX6_carryAll 106 = .ok (.iastore, 1) := by decide +kernel
theorem dX6_carryAll_107 : decode cX6_carryAll 107 = .ok (.aload_n 0, 1) := by decide +kernel
theorem dX6_carryAll_108 : decode cX6_carryAll 108 = .ok (.getfield 19, 3) := by decide +kernel
theorem dX6_carryAll_111 : decode cX6_carryAll 111 = .ok (.iload_n 3, 1) := by decide +kernel
theorem dX6_carryAll_112 : decode cX6_carryAll 112 = .ok (.aload_n 0, 1) := by decide +kernel
theorem dX6_carryAll_113 : decode cX6_carryAll 113 = .ok (.aload_n 0, 1) := by decide +kernel
theorem dX6_carryAll_114 : decode cX6_carryAll 114 = .ok (.getfield 19, 3) := by decide +kernel
theorem dX6_carryAll_117 : decode cX6_carryAll 117 = .ok (.iload_n 3, 1) := by decide +kernel
theorem dX6_carryAll_118 : decode cX6_carryAll 118 = .ok (.iaload, 1) := by decide +kernel
theorem dX6_carryAll_119 : decode cX6_carryAll 119 = .ok (.invokevirtual 217, 3) := by decide +kernel
theorem dX6_carryAll_122 : decode cX6_carryAll 122 = .ok (.iastore, 1) := by decide +kernel
theorem dX6_carryAll_123 : decode cX6_carryAll 123 = .ok (.iinc 3 1, 3) := by decide +kernel
theorem dX6_carryAll_126 : decode cX6_carryAll 126 = .ok (.goto (-73), 3) := by decide +kernel
theorem dX6_carryAll_129 : decode cX6_carryAll 129 = .ok (.iconst 0, 1) := by decide +kernel
theorem dX6_carryAll_130 : decode cX6_carryAll 130 = .ok (.istore_n 3, 1) := by decide +kernel
theorem dX6_carryAll_131 : decode cX6_carryAll 131 = .ok (.iload_n 3, 1) := by decide +kernel
theorem dX6_carryAll_132 : decode cX6_carryAll 132 = .ok (.bipush 6, 2) := by decide +kernel
theorem dX6_carryAll_134 : decode cX6_carryAll 134 = .ok (.if_icmp .ge 57, 3) := by decide +kernel
theorem dX6_carryAll_137 : decode cX6_carryAll 137 = .ok (.aload_n 0, 1) := by decide +kernel
theorem dX6_carryAll_138 : decode cX6_carryAll 138 = .ok (.getfield 22, 3) := by decide +kernel
theorem dX6_carryAll_141 : decode cX6_carryAll 141 = .ok (.iload_n 3, 1) := by decide +kernel
theorem dX6_carryAll_142 : decode cX6_carryAll 142 = .ok (.aload_n 0, 1) := by decide +kernel
theorem dX6_carryAll_143 : decode cX6_carryAll 143 = .ok (.aload_n 0, 1) := by decide +kernel
theorem dX6_carryAll_144 : decode cX6_carryAll 144 = .ok (.getfield 22, 3) := by decide +kernel
theorem dX6_carryAll_147 : decode cX6_carryAll 147 = .ok (.iload_n 3, 1) := by decide +kernel
theorem dX6_carryAll_148 : decode cX6_carryAll 148 = .ok (.iaload, 1) := by decide +kernel
theorem dX6_carryAll_149 : decode cX6_carryAll 149 = .ok (.invokevirtual 217, 3) := by decide +kernel
theorem dX6_carryAll_152 : decode cX6_carryAll 152 = .ok (.iastore, 1) := by decide +kernel
theorem dX6_carryAll_153 : decode cX6_carryAll 153 = .ok (.aload_n 0, 1) := by decide +kernel
theorem dX6_carryAll_154 : decode cX6_carryAll 154 = .ok (.getfield 25, 3) := by decide +kernel
theorem dX6_carryAll_157 : decode cX6_carryAll 157 = .ok (.iload_n 3, 1) := by decide +kernel
theorem dX6_carryAll_158 : decode cX6_carryAll 158 = .ok (.aload_n 0, 1) := by decide +kernel
theorem dX6_carryAll_159 : decode cX6_carryAll 159 = .ok (.aload_n 0, 1) := by decide +kernel
theorem dX6_carryAll_160 : decode cX6_carryAll 160 = .ok (.getfield 25, 3) := by decide +kernel
theorem dX6_carryAll_163 : decode cX6_carryAll 163 = .ok (.iload_n 3, 1) := by decide +kernel
theorem dX6_carryAll_164 : decode cX6_carryAll 164 = .ok (.iaload, 1) := by decide +kernel
theorem dX6_carryAll_165 : decode cX6_carryAll 165 = .ok (.invokevirtual 217, 3) := by decide +kernel
theorem dX6_carryAll_168 : decode cX6_carryAll 168 = .ok (.iastore, 1) := by decide +kernel
theorem dX6_carryAll_169 : decode cX6_carryAll 169 = .ok (.aload_n 0, 1) := by decide +kernel
theorem dX6_carryAll_170 : decode cX6_carryAll 170 = .ok (.getfield 28, 3) := by decide +kernel
theorem dX6_carryAll_173 : decode cX6_carryAll 173 = .ok (.iload_n 3, 1) := by decide +kernel
theorem dX6_carryAll_174 : decode cX6_carryAll 174 = .ok (.aload_n 0, 1) := by decide +kernel
theorem dX6_carryAll_175 : decode cX6_carryAll 175 = .ok (.aload_n 0, 1) := by decide +kernel
theorem dX6_carryAll_176 : decode cX6_carryAll 176 = .ok (.getfield 28, 3) := by decide +kernel
theorem dX6_carryAll_179 : decode cX6_carryAll 179 = .ok (.iload_n 3, 1) := by decide +kernel
theorem dX6_carryAll_180 : decode cX6_carryAll 180 = .ok (.iaload, 1) := by decide +kernel
theorem dX6_carryAll_181 : decode cX6_carryAll 181 = .ok (.invokevirtual 217, 3) := by decide +kernel
theorem dX6_carryAll_184 : decode cX6_carryAll 184 = .ok (.iastore, 1) := by decide +kernel
theorem dX6_carryAll_185 : decode cX6_carryAll 185 = .ok (.iinc 3 1, 3) := by decide +kernel
theorem dX6_carryAll_188 : decode cX6_carryAll 188 = .ok (.goto (-57), 3) := by decide +kernel
theorem dX6_carryAll_191 : decode cX6_carryAll 191 = .ok (.iconst 0, 1) := by decide +kernel
theorem dX6_carryAll_192 : decode cX6_carryAll 192 = .ok (.istore_n 3, 1) := by decide +kernel
theorem dX6_carryAll_193 : decode cX6_carryAll 193 = .ok (.iload_n 3, 1) := by decide +kernel
theorem dX6_carryAll_194 : decode cX6_carryAll 194 = .ok (.bipush 42, 2) := by decide +kernel
theorem dX6_carryAll_196 : decode cX6_carryAll 196 = .ok (.if_icmp .ge 25, 3) := by decide +kernel
theorem dX6_carryAll_199 : decode cX6_carryAll 199 = .ok (.aload_n 0, 1) := by decide +kernel
theorem dX6_carryAll_200 : decode cX6_carryAll 200 = .ok (.getfield 31, 3) := by decide +kernel
theorem dX6_carryAll_203 : decode cX6_carryAll 203 = .ok (.iload_n 3, 1) := by decide +kernel
theorem dX6_carryAll_204 : decode cX6_carryAll 204 = .ok (.aload_n 0, 1) := by decide +kernel
theorem dX6_carryAll_205 : decode cX6_carryAll 205 = .ok (.aload_n 0, 1) := by decide +kernel
theorem dX6_carryAll_206 : decode cX6_carryAll 206 = .ok (.getfield 31, 3) := by decide +kernel
theorem dX6_carryAll_209 : decode cX6_carryAll 209 = .ok (.iload_n 3, 1) := by decide +kernel
theorem dX6_carryAll_210 : decode cX6_carryAll 210 = .ok (.iaload, 1) := by decide +kernel
theorem dX6_carryAll_211 : decode cX6_carryAll 211 = .ok (.invokevirtual 217, 3) := by decide +kernel
theorem dX6_carryAll_214 : decode cX6_carryAll 214 = .ok (.iastore, 1) := by decide +kernel
theorem dX6_carryAll_215 : decode cX6_carryAll 215 = .ok (.iinc 3 1, 3) := by decide +kernel
theorem dX6_carryAll_218 : decode cX6_carryAll 218 = .ok (.goto (-25), 3) := by decide +kernel
theorem dX6_carryAll_221 : decode cX6_carryAll 221 = .ok (.return_, 1) := by decide +kernel
theorem dX6_think_0 : decode cX6_think 0 = .ok (.aload_n 0, 1) := by decide +kernel
theorem dX6_think_1 : decode cX6_think 1 = .ok (.aload_n 0, 1) := by decide +kernel
theorem dX6_think_2 : decode cX6_think 2 = .ok (.getfield 49, 3) := by decide +kernel
theorem dX6_think_5 : decode cX6_think 5 = .ok (.iconst 1, 1) := by decide +kernel
theorem dX6_think_6 : decode cX6_think 6 = .ok (.invokevirtual 220, 3) := by decide +kernel
theorem dX6_think_9 : decode cX6_think 9 = .ok (.return_, 1) := by decide +kernel
theorem dX6_again_0 : decode cX6_again 0 = .ok (.aload_n 0, 1) := by decide +kernel
theorem dX6_again_1 : decode cX6_again 1 = .ok (.aload_n 0, 1) := by decide +kernel
theorem dX6_again_2 : decode cX6_again 2 = .ok (.getfield 49, 3) := by decide +kernel
theorem dX6_again_5 : decode cX6_again 5 = .ok (.iconst 0, 1) := by decide +kernel
theorem dX6_again_6 : decode cX6_again 6 = .ok (.invokevirtual 220, 3) := by decide +kernel
theorem dX6_again_9 : decode cX6_again 9 = .ok (.return_, 1) := by decide +kernel
theorem dX6_image_0 : decode cX6_image 0 = .ok (.aload_n 0, 1) := by decide +kernel
theorem dX6_image_1 : decode cX6_image 1 = .ok (.iconst 0, 1) := by decide +kernel
theorem dX6_image_2 : decode cX6_image 2 = .ok (.putfield 79, 3) := by decide +kernel
theorem dX6_image_5 : decode cX6_image 5 = .ok (.aload_n 0, 1) := by decide +kernel
theorem dX6_image_6 : decode cX6_image 6 = .ok (.iconst 1, 1) := by decide +kernel
theorem dX6_image_7 : decode cX6_image 7 = .ok (.putfield 224, 3) := by decide +kernel
theorem dX6_image_10 : decode cX6_image 10 = .ok (.aload_n 0, 1) := by decide +kernel
theorem dX6_image_11 : decode cX6_image 11 = .ok (.aload_n 0, 1) := by decide +kernel
theorem dX6_image_12 : decode cX6_image 12 = .ok (.getfield 52, 3) := by decide +kernel
theorem dX6_image_15 : decode cX6_image 15 = .ok (.iconst 1, 1) := by decide +kernel
theorem dX6_image_16 : decode cX6_image 16 = .ok (.invokevirtual 220, 3) := by decide +kernel
theorem dX6_image_19 : decode cX6_image 19 = .ok (.aload_n 0, 1) := by decide +kernel
theorem dX6_image_20 : decode cX6_image 20 = .ok (.getfield 122, 3) := by decide +kernel
theorem dX6_image_23 : decode cX6_image 23 = .ok (.ireturn, 1) := by decide +kernel
theorem dX6_restore_0 : decode cX6_restore 0 = .ok (.aload_n 0, 1) := by decide +kernel
theorem dX6_restore_1 : decode cX6_restore 1 = .ok (.iconst 0, 1) := by decide +kernel
theorem dX6_restore_2 : decode cX6_restore 2 = .ok (.putfield 79, 3) := by decide +kernel
theorem dX6_restore_5 : decode cX6_restore 5 = .ok (.aload_n 0, 1) := by decide +kernel
theorem dX6_restore_6 : decode cX6_restore 6 = .ok (.getfield 224, 3) := by decide +kernel
theorem dX6_restore_9 : decode cX6_restore 9 = .ok (.ifCond .ne 10, 3) := by decide +kernel
theorem dX6_restore_12 : decode cX6_restore 12 = .ok (.aload_n 0, 1) := by decide +kernel
theorem dX6_restore_13 : decode cX6_restore 13 = .ok (.bipush (-3), 2) := by decide +kernel
theorem dX6_restore_15 : decode cX6_restore 15 = .ok (.invokevirtual 143, 3) := by decide +kernel
theorem dX6_restore_18 : decode cX6_restore 18 = .ok (.ireturn, 1) := by decide +kernel
theorem dX6_restore_19 : decode cX6_restore 19 = .ok (.aload_n 0, 1) := by decide +kernel
theorem dX6_restore_20 : decode cX6_restore 20 = .ok (.aload_n 0, 1) := by decide +kernel
theorem dX6_restore_21 : decode cX6_restore 21 = .ok (.getfield 52, 3) := by decide +kernel
theorem dX6_restore_24 : decode cX6_restore 24 = .ok (.iconst 0, 1) := by decide +kernel
theorem dX6_restore_25 : decode cX6_restore 25 = .ok (.invokevirtual 220, 3) := by decide +kernel
theorem dX6_restore_28 : decode cX6_restore 28 = .ok (.aload_n 0, 1) := by decide +kernel
theorem dX6_restore_29 : decode cX6_restore 29 = .ok (.iconst 0, 1) := by decide +kernel
theorem dX6_restore_30 : decode cX6_restore 30 = .ok (.putfield 205, 3) := by decide +kernel
theorem dX6_restore_33 : decode cX6_restore 33 = .ok (.aload_n 0, 1) := by decide +kernel
theorem dX6_restore_34 : decode cX6_restore 34 = .ok (.getfield 122, 3) := by decide +kernel
theorem dX6_restore_37 : decode cX6_restore 37 = .ok (.ireturn, 1) := by decide +kernel
theorem dX6_keepTurn_0 : decode cX6_keepTurn 0 = .ok (.aload_n 0, 1) := by decide +kernel
theorem dX6_keepTurn_1 : decode cX6_keepTurn 1 = .ok (.getfield 205, 3) := by decide +kernel
theorem dX6_keepTurn_4 : decode cX6_keepTurn 4 = .ok (.bipush 8, 2) := by decide +kernel
theorem dX6_keepTurn_6 : decode cX6_keepTurn 6 = .ok (.if_icmp .ne 44, 3) := by decide +kernel
theorem dX6_keepTurn_9 : decode cX6_keepTurn 9 = .ok (.bipush 91, 2) := by decide +kernel
theorem dX6_keepTurn_11 : decode cX6_keepTurn 11 = .ok (.istore_n 1, 1) := by decide +kernel
theorem dX6_keepTurn_12 : decode cX6_keepTurn 12 = .ok (.iload_n 1, 1) := by decide +kernel
theorem dX6_keepTurn_13 : decode cX6_keepTurn 13 = .ok (.sipush 728, 3) := by decide +kernel
theorem dX6_keepTurn_16 : decode cX6_keepTurn 16 = .ok (.if_icmp .ge 24, 3) := by decide +kernel
theorem dX6_keepTurn_19 : decode cX6_keepTurn 19 = .ok (.aload_n 0, 1) := by decide +kernel
theorem dX6_keepTurn_20 : decode cX6_keepTurn 20 = .ok (.getfield 55, 3) := by decide +kernel
theorem dX6_keepTurn_23 : decode cX6_keepTurn 23 = .ok (.iload_n 1, 1) := by decide +kernel
theorem dX6_keepTurn_24 : decode cX6_keepTurn 24 = .ok (.bipush 91, 2) := by decide +kernel
theorem dX6_keepTurn_26 : decode cX6_keepTurn 26 = .ok (.isub, 1) := by decide +kernel
theorem dX6_keepTurn_27 : decode cX6_keepTurn 27 = .ok (.aload_n 0, 1) := by decide +kernel
theorem dX6_keepTurn_28 : decode cX6_keepTurn 28 = .ok (.getfield 55, 3) := by decide +kernel
theorem dX6_keepTurn_31 : decode cX6_keepTurn 31 = .ok (.iload_n 1, 1) := by decide +kernel
theorem dX6_keepTurn_32 : decode cX6_keepTurn 32 = .ok (.iaload, 1) := by decide +kernel
theorem dX6_keepTurn_33 : decode cX6_keepTurn 33 = .ok (.iastore, 1) := by decide +kernel
theorem dX6_keepTurn_34 : decode cX6_keepTurn 34 = .ok (.iinc 1 1, 3) := by decide +kernel
theorem dX6_keepTurn_37 : decode cX6_keepTurn 37 = .ok (.goto (-25), 3) := by decide +kernel
theorem dX6_keepTurn_40 : decode cX6_keepTurn 40 = .ok (.aload_n 0, 1) := by decide +kernel
theorem dX6_keepTurn_41 : decode cX6_keepTurn 41 = .ok (.dup, 1) := by decide +kernel
theorem dX6_keepTurn_42 : decode cX6_keepTurn 42 = .ok (.getfield 205, 3) := by decide +kernel
theorem dX6_keepTurn_45 : decode cX6_keepTurn 45 = .ok (.iconst 1, 1) := by decide +kernel
theorem dX6_keepTurn_46 : decode cX6_keepTurn 46 = .ok (.isub, 1) := by decide +kernel
theorem dX6_keepTurn_47 : decode cX6_keepTurn 47 = .ok (.putfield 205, 3) := by decide +kernel
theorem dX6_keepTurn_50 : decode cX6_keepTurn 50 = .ok (.aload_n 0, 1) := by decide +kernel
theorem dX6_keepTurn_51 : decode cX6_keepTurn 51 = .ok (.aload_n 0, 1) := by decide +kernel
theorem dX6_keepTurn_52 : decode cX6_keepTurn 52 = .ok (.getfield 58, 3) := by decide +kernel
theorem dX6_keepTurn_55 : decode cX6_keepTurn 55 = .ok (.iconst 1, 1) := by decide +kernel
theorem dX6_keepTurn_56 : decode cX6_keepTurn 56 = .ok (.invokevirtual 220, 3) := by decide +kernel
theorem dX6_keepTurn_59 : decode cX6_keepTurn 59 = .ok (.iconst 0, 1) := by decide +kernel
theorem dX6_keepTurn_60 : decode cX6_keepTurn 60 = .ok (.istore_n 1, 1) := by decide +kernel
theorem dX6_keepTurn_61 : decode cX6_keepTurn 61 = .ok (.iload_n 1, 1) := by decide +kernel
theorem dX6_keepTurn_62 : decode cX6_keepTurn 62 = .ok (.bipush 91, 2) := by decide +kernel
theorem dX6_keepTurn_64 : decode cX6_keepTurn 64 = .ok (.if_icmp .ge 29, 3) := by decide +kernel
theorem dX6_keepTurn_67 : decode cX6_keepTurn 67 = .ok (.aload_n 0, 1) := by decide +kernel
theorem dX6_keepTurn_68 : decode cX6_keepTurn 68 = .ok (.getfield 55, 3) := by decide +kernel
theorem dX6_keepTurn_71 : decode cX6_keepTurn 71 = .ok (.bipush 91, 2) := by decide +kernel
theorem dX6_keepTurn_73 : decode cX6_keepTurn 73 = .ok (.aload_n 0, 1) := by decide +kernel
theorem dX6_keepTurn_74 : decode cX6_keepTurn 74 = .ok (.getfield 205, 3) := by decide +kernel
theorem dX6_keepTurn_77 : decode cX6_keepTurn 77 = .ok (.imul, 1) := by decide +kernel
theorem dX6_keepTurn_78 : decode cX6_keepTurn 78 = .ok (.iload_n 1, 1) := by decide +kernel
theorem dX6_keepTurn_79 : decode cX6_keepTurn 79 = .ok (.iadd, 1) := by decide +kernel
theorem dX6_keepTurn_80 : decode cX6_keepTurn 80 = .ok (.aload_n 0, 1) := by decide +kernel
theorem dX6_keepTurn_81 : decode cX6_keepTurn 81 = .ok (.getfield 58, 3) := by decide +kernel
theorem dX6_keepTurn_84 : decode cX6_keepTurn 84 = .ok (.iload_n 1, 1) := by decide +kernel
theorem dX6_keepTurn_85 : decode cX6_keepTurn 85 = .ok (.iaload, 1) := by decide +kernel
theorem dX6_keepTurn_86 : decode cX6_keepTurn 86 = .ok (.iastore, 1) := by decide +kernel
theorem dX6_keepTurn_87 : decode cX6_keepTurn 87 = .ok (.iinc 1 1, 3) := by decide +kernel
theorem dX6_keepTurn_90 : decode cX6_keepTurn 90 = .ok (.goto (-29), 3) := by decide +kernel
theorem dX6_keepTurn_93 : decode cX6_keepTurn 93 = .ok (.aload_n 0, 1) := by decide +kernel
theorem dX6_keepTurn_94 : decode cX6_keepTurn 94 = .ok (.dup, 1) := by decide +kernel
theorem dX6_keepTurn_95 : decode cX6_keepTurn 95 = .ok (.getfield 205, 3) := by decide +kernel
theorem dX6_keepTurn_98 : decode cX6_keepTurn 98 = .ok (.iconst 1, 1) := by decide +kernel
theorem dX6_keepTurn_99 : decode cX6_keepTurn 99 = .ok (.iadd, 1) := by decide +kernel
theorem dX6_keepTurn_100 : decode cX6_keepTurn 100 = .ok (.putfield 205, 3) := by decide +kernel
theorem dX6_keepTurn_103 : decode cX6_keepTurn 103 = .ok (.return_, 1) := by decide +kernel
theorem dX6_back_0 : decode cX6_back 0 = .ok (.aload_n 0, 1) := by decide +kernel
theorem dX6_back_1 : decode cX6_back 1 = .ok (.iconst 0, 1) := by decide +kernel
theorem dX6_back_2 : decode cX6_back 2 = .ok (.putfield 79, 3) := by decide +kernel
theorem dX6_back_5 : decode cX6_back 5 = .ok (.aload_n 0, 1) := by decide +kernel
theorem dX6_back_6 : decode cX6_back 6 = .ok (.getfield 205, 3) := by decide +kernel
theorem dX6_back_9 : decode cX6_back 9 = .ok (.ifCond .ne 10, 3) := by decide +kernel
theorem dX6_back_12 : decode cX6_back 12 = .ok (.aload_n 0, 1) := by decide +kernel
theorem dX6_back_13 : decode cX6_back 13 = .ok (.bipush (-3), 2) := by decide +kernel
theorem dX6_back_15 : decode cX6_back 15 = .ok (.invokevirtual 143, 3) := by decide +kernel
theorem dX6_back_18 : decode cX6_back 18 = .ok (.ireturn, 1) := by decide +kernel
theorem dX6_back_19 : decode cX6_back 19 = .ok (.aload_n 0, 1) := by decide +kernel
theorem dX6_back_20 : decode cX6_back 20 = .ok (.dup, 1) := by decide +kernel
theorem dX6_back_21 : decode cX6_back 21 = .ok (.getfield 205, 3) := by decide +kernel
theorem dX6_back_24 : decode cX6_back 24 = .ok (.iconst 1, 1) := by decide +kernel
theorem dX6_back_25 : decode cX6_back 25 = .ok (.isub, 1) := by decide +kernel
theorem dX6_back_26 : decode cX6_back 26 = .ok (.putfield 205, 3) := by decide +kernel
theorem dX6_back_29 : decode cX6_back 29 = .ok (.iconst 0, 1) := by decide +kernel
theorem dX6_back_30 : decode cX6_back 30 = .ok (.istore_n 1, 1) := by decide +kernel
theorem dX6_back_31 : decode cX6_back 31 = .ok (.iload_n 1, 1) := by decide +kernel
theorem dX6_back_32 : decode cX6_back 32 = .ok (.bipush 91, 2) := by decide +kernel
theorem dX6_back_34 : decode cX6_back 34 = .ok (.if_icmp .ge 29, 3) := by decide +kernel
theorem dX6_back_37 : decode cX6_back 37 = .ok (.aload_n 0, 1) := by decide +kernel
theorem dX6_back_38 : decode cX6_back 38 = .ok (.getfield 58, 3) := by decide +kernel
theorem dX6_back_41 : decode cX6_back 41 = .ok (.iload_n 1, 1) := by decide +kernel
theorem dX6_back_42 : decode cX6_back 42 = .ok (.aload_n 0, 1) := by decide +kernel
theorem dX6_back_43 : decode cX6_back 43 = .ok (.getfield 55, 3) := by decide +kernel
theorem dX6_back_46 : decode cX6_back 46 = .ok (.bipush 91, 2) := by decide +kernel
theorem dX6_back_48 : decode cX6_back 48 = .ok (.aload_n 0, 1) := by decide +kernel
theorem dX6_back_49 : decode cX6_back 49 = .ok (.getfield 205, 3) := by decide +kernel
theorem dX6_back_52 : decode cX6_back 52 = .ok (.imul, 1) := by decide +kernel
theorem dX6_back_53 : decode cX6_back 53 = .ok (.iload_n 1, 1) := by decide +kernel
theorem dX6_back_54 : decode cX6_back 54 = .ok (.iadd, 1) := by decide +kernel
theorem dX6_back_55 : decode cX6_back 55 = .ok (.iaload, 1) := by decide +kernel
theorem dX6_back_56 : decode cX6_back 56 = .ok (.iastore, 1) := by decide +kernel
theorem dX6_back_57 : decode cX6_back 57 = .ok (.iinc 1 1, 3) := by decide +kernel
theorem dX6_back_60 : decode cX6_back 60 = .ok (.goto (-29), 3) := by decide +kernel
theorem dX6_back_63 : decode cX6_back 63 = .ok (.aload_n 0, 1) := by decide +kernel
theorem dX6_back_64 : decode cX6_back 64 = .ok (.aload_n 0, 1) := by decide +kernel
theorem dX6_back_65 : decode cX6_back 65 = .ok (.getfield 58, 3) := by decide +kernel
theorem dX6_back_68 : decode cX6_back 68 = .ok (.iconst 0, 1) := by decide +kernel
theorem dX6_back_69 : decode cX6_back 69 = .ok (.invokevirtual 220, 3) := by decide +kernel
theorem dX6_back_72 : decode cX6_back 72 = .ok (.aload_n 0, 1) := by decide +kernel
theorem dX6_back_73 : decode cX6_back 73 = .ok (.getfield 205, 3) := by decide +kernel
theorem dX6_back_76 : decode cX6_back 76 = .ok (.ireturn, 1) := by decide +kernel
theorem dX6_seersOf_0 : decode cX6_seersOf 0 = .ok (.iconst 0, 1) := by decide +kernel
theorem dX6_seersOf_1 : decode cX6_seersOf 1 = .ok (.istore_n 2, 1) := by decide +kernel
theorem dX6_seersOf_2 : decode cX6_seersOf 2 = .ok (.iconst 0, 1) := by decide +kernel
theorem dX6_seersOf_3 : decode cX6_seersOf 3 = .ok (.istore_n 3, 1) := by decide +kernel
theorem dX6_seersOf_4 : decode cX6_seersOf 4 = .ok (.iload_n 3, 1) := by decide +kernel
theorem dX6_seersOf_5 : decode cX6_seersOf 5 = .ok (.aload_n 0, 1) := by decide +kernel
theorem dX6_seersOf_6 : decode cX6_seersOf 6 = .ok (.getfield 92, 3) := by decide +kernel
theorem dX6_seersOf_9 : decode cX6_seersOf 9 = .ok (.if_icmp .ge 34, 3) := by decide +kernel
theorem dX6_seersOf_12 : decode cX6_seersOf 12 = .ok (.iload_n 2, 1) := by decide +kernel
theorem dX6_seersOf_13 : decode cX6_seersOf 13 = .ok (.aload_n 0, 1) := by decide +kernel
theorem dX6_seersOf_14 : decode cX6_seersOf 14 = .ok (.iload_n 3, 1) := by decide +kernel
theorem dX6_seersOf_15 : decode cX6_seersOf 15 = .ok (.aload_n 0, 1) := by decide +kernel
theorem dX6_seersOf_16 : decode cX6_seersOf 16 = .ok (.getfield 22, 3) := by decide +kernel
theorem dX6_seersOf_19 : decode cX6_seersOf 19 = .ok (.iload_n 3, 1) := by decide +kernel
theorem dX6_seersOf_20 : decode cX6_seersOf 20 = .ok (.iaload, 1) := by decide +kernel
theorem dX6_seersOf_21 : decode cX6_seersOf 21 = .ok (.iload_n 1, 1) := by decide +kernel
theorem dX6_seersOf_22 : decode cX6_seersOf 22 = .ok (.invokevirtual 106, 3) := by decide +kernel
theorem dX6_seersOf_25 : decode cX6_seersOf 25 = .ok (.ifCond .eq 9, 3) := by decide +kernel
theorem dX6_seersOf_28 : decode cX6_seersOf 28 = .ok (.iconst 1, 1) := by decide +kernel
theorem dX6_seersOf_29 : decode cX6_seersOf 29 = .ok (.iload_n 3, 1) := by decide +kernel
theorem dX6_seersOf_30 : decode cX6_seersOf 30 = .ok (.ishl, 1) := by decide +kernel
theorem dX6_seersOf_31 : decode cX6_seersOf 31 = .ok (.goto 4, 3) := by decide +kernel
theorem dX6_seersOf_34 : decode cX6_seersOf 34 = .ok (.iconst 0, 1) := by decide +kernel
theorem dX6_seersOf_35 : decode cX6_seersOf 35 = .ok (.ior, 1) := by decide +kernel
theorem dX6_seersOf_36 : decode cX6_seersOf 36 = .ok (.istore_n 2, 1) := by decide +kernel
theorem dX6_seersOf_37 : decode cX6_seersOf 37 = .ok (.iinc 3 1, 3) := by decide +kernel
theorem dX6_seersOf_40 : decode cX6_seersOf 40 = .ok (.goto (-36), 3) := by decide +kernel
theorem dX6_seersOf_43 : decode cX6_seersOf 43 = .ok (.iload_n 2, 1) := by decide +kernel
theorem dX6_seersOf_44 : decode cX6_seersOf 44 = .ok (.ireturn, 1) := by decide +kernel
theorem dX6_houseOf_0 : decode cX6_houseOf 0 = .ok (.aload_n 0, 1) := by decide +kernel
theorem dX6_houseOf_1 : decode cX6_houseOf 1 = .ok (.iconst 0, 1) := by decide +kernel
theorem dX6_houseOf_2 : decode cX6_houseOf 2 = .ok (.putfield 79, 3) := by decide +kernel
theorem dX6_houseOf_5 : decode cX6_houseOf 5 = .ok (.aload_n 0, 1) := by decide +kernel
theorem dX6_houseOf_6 : decode cX6_houseOf 6 = .ok (.iload_n 1, 1) := by decide +kernel
theorem dX6_houseOf_7 : decode cX6_houseOf 7 = .ok (.invokevirtual 181, 3) := by decide +kernel
theorem dX6_houseOf_10 : decode cX6_houseOf 10 = .ok (.ifCond .eq 15, 3) := by decide +kernel
theorem dX6_houseOf_13 : decode cX6_houseOf 13 = .ok (.iload_n 2, 1) := by decide +kernel
theorem dX6_houseOf_14 : decode cX6_houseOf 14 = .ok (.i2l, 1) := by decide +kernel
theorem dX6_houseOf_15 : decode cX6_houseOf 15 = .ok (.lconst 0, 1) := by decide +kernel
theorem dX6_houseOf_16 : decode cX6_houseOf 16 = .ok (.ldc2_w 227, 3) := by decide +kernel
theorem dX6_houseOf_19 : decode cX6_houseOf 19 = .ok (.invokestatic 85, 3) := by decide +kernel
theorem dX6_houseOf_22 : decode cX6_houseOf 22 = .ok (.ifCond .ne 22, 3) := by decide +kernel
theorem dX6_houseOf_25 : decode cX6_houseOf 25 = .ok (.aload_n 0, 1) := by decide +kernel
theorem dX6_houseOf_26 : decode cX6_houseOf 26 = .ok (.aload_n 0, 1) := by decide +kernel
theorem dX6_houseOf_27 : decode cX6_houseOf 27 = .ok (.iload_n 1, 1) := by decide +kernel
theorem dX6_houseOf_28 : decode cX6_houseOf 28 = .ok (.invokevirtual 181, 3) := by decide +kernel
theorem dX6_houseOf_31 : decode cX6_houseOf 31 = .ok (.ifCond .eq 8, 3) := by decide +kernel
theorem dX6_houseOf_34 : decode cX6_houseOf 34 = .ok (.bipush (-2), 2) := by decide +kernel
theorem dX6_houseOf_36 : decode cX6_houseOf 36 = .ok (.goto 4, 3) := by decide +kernel
theorem dX6_houseOf_39 : decode cX6_houseOf 39 = .ok (.iconst (-1), 1) := by decide +kernel
theorem dX6_houseOf_40 : decode cX6_houseOf 40 = .ok (.invokevirtual 143, 3) := by decide +kernel
theorem dX6_houseOf_43 : decode cX6_houseOf 43 = .ok (.ireturn, 1) := by decide +kernel
theorem dX6_houseOf_44 : decode cX6_houseOf 44 = .ok (.iload_n 2, 1) := by decide +kernel
theorem dX6_houseOf_45 : decode cX6_houseOf 45 = .ok (.tableswitch 90 0 6 #[43, 50, 57, 64, 71, 77, 84], 43) := by decide +kernel
theorem dX6_houseOf_88 : decode cX6_houseOf 88 = .ok (.aload_n 0, 1) := by decide +kernel
theorem dX6_houseOf_89 : decode cX6_houseOf 89 = .ok (.getfield 7, 3) := by decide +kernel
theorem dX6_houseOf_92 : decode cX6_houseOf 92 = .ok (.iload_n 1, 1) := by decide +kernel
theorem dX6_houseOf_93 : decode cX6_houseOf 93 = .ok (.iaload, 1) := by decide +kernel
theorem dX6_houseOf_94 : decode cX6_houseOf 94 = .ok (.ireturn, 1) := by decide +kernel
theorem dX6_houseOf_95 : decode cX6_houseOf 95 = .ok (.aload_n 0, 1) := by decide +kernel
theorem dX6_houseOf_96 : decode cX6_houseOf 96 = .ok (.getfield 13, 3) := by decide +kernel
theorem dX6_houseOf_99 : decode cX6_houseOf 99 = .ok (.iload_n 1, 1) := by decide +kernel
theorem dX6_houseOf_100 : decode cX6_houseOf 100 = .ok (.iaload, 1) := by decide +kernel
theorem dX6_houseOf_101 : decode cX6_houseOf 101 = .ok (.ireturn, 1) := by decide +kernel
theorem dX6_houseOf_102 : decode cX6_houseOf 102 = .ok (.aload_n 0, 1) := by decide +kernel
theorem dX6_houseOf_103 : decode cX6_houseOf 103 = .ok (.getfield 16, 3) := by decide +kernel
theorem dX6_houseOf_106 : decode cX6_houseOf 106 = .ok (.iload_n 1, 1) := by decide +kernel
theorem dX6_houseOf_107 : decode cX6_houseOf 107 = .ok (.iaload, 1) := by decide +kernel
theorem dX6_houseOf_108 : decode cX6_houseOf 108 = .ok (.ireturn, 1) := by decide +kernel
theorem dX6_houseOf_109 : decode cX6_houseOf 109 = .ok (.aload_n 0, 1) := by decide +kernel
theorem dX6_houseOf_110 : decode cX6_houseOf 110 = .ok (.getfield 19, 3) := by decide +kernel
theorem dX6_houseOf_113 : decode cX6_houseOf 113 = .ok (.iload_n 1, 1) := by decide +kernel
theorem dX6_houseOf_114 : decode cX6_houseOf 114 = .ok (.iaload, 1) := by decide +kernel
theorem dX6_houseOf_115 : decode cX6_houseOf 115 = .ok (.ireturn, 1) := by decide +kernel
theorem dX6_houseOf_116 : decode cX6_houseOf 116 = .ok (.aload_n 0, 1) := by decide +kernel
theorem dX6_houseOf_117 : decode cX6_houseOf 117 = .ok (.iload_n 1, 1) := by decide +kernel
theorem dX6_houseOf_118 : decode cX6_houseOf 118 = .ok (.invokevirtual 99, 3) := by decide +kernel
theorem dX6_houseOf_121 : decode cX6_houseOf 121 = .ok (.ireturn, 1) := by decide +kernel
theorem dX6_houseOf_122 : decode cX6_houseOf 122 = .ok (.aload_n 0, 1) := by decide +kernel
theorem dX6_houseOf_123 : decode cX6_houseOf 123 = .ok (.iload_n 1, 1) := by decide +kernel
theorem dX6_houseOf_124 : decode cX6_houseOf 124 = .ok (.iconst 0, 1) := by decide +kernel
theorem dX6_houseOf_125 : decode cX6_houseOf 125 = .ok (.invokevirtual 110, 3) := by decide +kernel
theorem dX6_houseOf_128 : decode cX6_houseOf 128 = .ok (.ireturn, 1) := by decide +kernel
theorem dX6_houseOf_129 : decode cX6_houseOf 129 = .ok (.aload_n 0, 1) := by decide +kernel
theorem dX6_houseOf_130 : decode cX6_houseOf 130 = .ok (.iload_n 1, 1) := by decide +kernel
theorem dX6_houseOf_131 : decode cX6_houseOf 131 = .ok (.invokevirtual 229, 3) := by decide +kernel
theorem dX6_houseOf_134 : decode cX6_houseOf 134 = .ok (.ireturn, 1) := by decide +kernel
theorem dX6_houseOf_135 : decode cX6_houseOf 135 = .ok (.aload_n 0, 1) := by decide +kernel
theorem dX6_houseOf_136 : decode cX6_houseOf 136 = .ok (.iload_n 1, 1) := by decide +kernel
theorem dX6_houseOf_137 : decode cX6_houseOf 137 = .ok (.invokevirtual 232, 3) := by decide +kernel
theorem dX6_houseOf_140 : decode cX6_houseOf 140 = .ok (.ireturn, 1) := by decide +kernel
theorem dX6_walkerOf_0 : decode cX6_walkerOf 0 = .ok (.aload_n 0, 1) := by decide +kernel
theorem dX6_walkerOf_1 : decode cX6_walkerOf 1 = .ok (.iconst 0, 1) := by decide +kernel
theorem dX6_walkerOf_2 : decode cX6_walkerOf 2 = .ok (.putfield 79, 3) := by decide +kernel
theorem dX6_walkerOf_5 : decode cX6_walkerOf 5 = .ok (.aload_n 0, 1) := by decide +kernel
theorem dX6_walkerOf_6 : decode cX6_walkerOf 6 = .ok (.iload_n 1, 1) := by decide +kernel
theorem dX6_walkerOf_7 : decode cX6_walkerOf 7 = .ok (.invokevirtual 184, 3) := by decide +kernel
theorem dX6_walkerOf_10 : decode cX6_walkerOf 10 = .ok (.ifCond .eq 15, 3) := by decide +kernel
theorem dX6_walkerOf_13 : decode cX6_walkerOf 13 = .ok (.iload_n 2, 1) := by decide +kernel
theorem dX6_walkerOf_14 : decode cX6_walkerOf 14 = .ok (.i2l, 1) := by decide +kernel
theorem dX6_walkerOf_15 : decode cX6_walkerOf 15 = .ok (.lconst 0, 1) := by decide +kernel
theorem dX6_walkerOf_16 : decode cX6_walkerOf 16 = .ok (.ldc2_w 235, 3) := by decide +kernel
theorem dX6_walkerOf_19 : decode cX6_walkerOf 19 = .ok (.invokestatic 85, 3) := by decide +kernel
theorem dX6_walkerOf_22 : decode cX6_walkerOf 22 = .ok (.ifCond .ne 22, 3) := by decide +kernel
theorem dX6_walkerOf_25 : decode cX6_walkerOf 25 = .ok (.aload_n 0, 1) := by decide +kernel
theorem dX6_walkerOf_26 : decode cX6_walkerOf 26 = .ok (.aload_n 0, 1) := by decide +kernel
theorem dX6_walkerOf_27 : decode cX6_walkerOf 27 = .ok (.iload_n 1, 1) := by decide +kernel
theorem dX6_walkerOf_28 : decode cX6_walkerOf 28 = .ok (.invokevirtual 184, 3) := by decide +kernel
theorem dX6_walkerOf_31 : decode cX6_walkerOf 31 = .ok (.ifCond .eq 8, 3) := by decide +kernel
theorem dX6_walkerOf_34 : decode cX6_walkerOf 34 = .ok (.bipush (-2), 2) := by decide +kernel
theorem dX6_walkerOf_36 : decode cX6_walkerOf 36 = .ok (.goto 4, 3) := by decide +kernel
theorem dX6_walkerOf_39 : decode cX6_walkerOf 39 = .ok (.iconst (-1), 1) := by decide +kernel
theorem dX6_walkerOf_40 : decode cX6_walkerOf 40 = .ok (.invokevirtual 143, 3) := by decide +kernel
theorem dX6_walkerOf_43 : decode cX6_walkerOf 43 = .ok (.ireturn, 1) := by decide +kernel
theorem dX6_walkerOf_44 : decode cX6_walkerOf 44 = .ok (.iload_n 2, 1) := by decide +kernel
theorem dX6_walkerOf_45 : decode cX6_walkerOf 45 = .ok (.tableswitch 74 0 4 #[35, 42, 49, 56, 62], 35) := by decide +kernel
theorem dX6_walkerOf_80 : decode cX6_walkerOf 80 = .ok (.aload_n 0, 1) := by decide +kernel
theorem dX6_walkerOf_81 : decode cX6_walkerOf 81 = .ok (.getfield 22, 3) := by decide +kernel
theorem dX6_walkerOf_84 : decode cX6_walkerOf 84 = .ok (.iload_n 1, 1) := by decide +kernel
theorem dX6_walkerOf_85 : decode cX6_walkerOf 85 = .ok (.iaload, 1) := by decide +kernel
theorem dX6_walkerOf_86 : decode cX6_walkerOf 86 = .ok (.ireturn, 1) := by decide +kernel
theorem dX6_walkerOf_87 : decode cX6_walkerOf 87 = .ok (.aload_n 0, 1) := by decide +kernel
theorem dX6_walkerOf_88 : decode cX6_walkerOf 88 = .ok (.getfield 25, 3) := by decide +kernel
theorem dX6_walkerOf_91 : decode cX6_walkerOf 91 = .ok (.iload_n 1, 1) := by decide +kernel
theorem dX6_walkerOf_92 : decode cX6_walkerOf 92 = .ok (.iaload, 1) := by decide +kernel
theorem dX6_walkerOf_93 : decode cX6_walkerOf 93 = .ok (.ireturn, 1) := by decide +kernel
theorem dX6_walkerOf_94 : decode cX6_walkerOf 94 = .ok (.aload_n 0, 1) := by decide +kernel
theorem dX6_walkerOf_95 : decode cX6_walkerOf 95 = .ok (.getfield 28, 3) := by decide +kernel
theorem dX6_walkerOf_98 : decode cX6_walkerOf 98 = .ok (.iload_n 1, 1) := by decide +kernel
theorem dX6_walkerOf_99 : decode cX6_walkerOf 99 = .ok (.iaload, 1) := by decide +kernel
theorem dX6_walkerOf_100 : decode cX6_walkerOf 100 = .ok (.ireturn, 1) := by decide +kernel
theorem dX6_walkerOf_101 : decode cX6_walkerOf 101 = .ok (.aload_n 0, 1) := by decide +kernel
theorem dX6_walkerOf_102 : decode cX6_walkerOf 102 = .ok (.iload_n 1, 1) := by decide +kernel
theorem dX6_walkerOf_103 : decode cX6_walkerOf 103 = .ok (.invokevirtual 116, 3) := by decide +kernel
theorem dX6_walkerOf_106 : decode cX6_walkerOf 106 = .ok (.ireturn, 1) := by decide +kernel
theorem dX6_walkerOf_107 : decode cX6_walkerOf 107 = .ok (.aload_n 0, 1) := by decide +kernel
theorem dX6_walkerOf_108 : decode cX6_walkerOf 108 = .ok (.iload_n 1, 1) := by decide +kernel
theorem dX6_walkerOf_109 : decode cX6_walkerOf 109 = .ok (.aload_n 0, 1) := by decide +kernel
theorem dX6_walkerOf_110 : decode cX6_walkerOf 110 = .ok (.getfield 22, 3) := by decide +kernel
theorem dX6_walkerOf_113 : decode cX6_walkerOf 113 = .ok (.iload_n 1, 1) := by decide +kernel
theorem dX6_walkerOf_114 : decode cX6_walkerOf 114 = .ok (.iaload, 1) := by decide +kernel
theorem dX6_walkerOf_115 : decode cX6_walkerOf 115 = .ok (.invokevirtual 128, 3) := by decide +kernel
theorem dX6_walkerOf_118 : decode cX6_walkerOf 118 = .ok (.ireturn, 1) := by decide +kernel
theorem dX6_walkerOf_119 : decode cX6_walkerOf 119 = .ok (.aload_n 0, 1) := by decide +kernel
theorem dX6_walkerOf_120 : decode cX6_walkerOf 120 = .ok (.iload_n 1, 1) := by decide +kernel
theorem dX6_walkerOf_121 : decode cX6_walkerOf 121 = .ok (.invokevirtual 113, 3) := by decide +kernel
theorem dX6_walkerOf_124 : decode cX6_walkerOf 124 = .ok (.ireturn, 1) := by decide +kernel
theorem dX6_wrongBoth_0 : decode cX6_wrongBoth 0 = .ok (.aload_n 0, 1) := by decide +kernel
theorem dX6_wrongBoth_1 : decode cX6_wrongBoth 1 = .ok (.iload_n 1, 1) := by decide +kernel
theorem dX6_wrongBoth_2 : decode cX6_wrongBoth 2 = .ok (.invokevirtual 184, 3) := by decide +kernel
theorem dX6_wrongBoth_5 : decode cX6_wrongBoth 5 = .ok (.ifCond .eq 15, 3) := by decide +kernel
theorem dX6_wrongBoth_8 : decode cX6_wrongBoth 8 = .ok (.aload_n 0, 1) := by decide +kernel
theorem dX6_wrongBoth_9 : decode cX6_wrongBoth 9 = .ok (.iload_n 2, 1) := by decide +kernel
theorem dX6_wrongBoth_10 : decode cX6_wrongBoth 10 = .ok (.invokevirtual 181, 3) := by decide +kernel
theorem dX6_wrongBoth_13 : decode cX6_wrongBoth 13 = .ok (.ifCond .eq 7, 3) := by decide +kernel
theorem dX6_wrongBoth_16 : decode cX6_wrongBoth 16 = .ok (.iconst 0, 1) := by decide +kernel
theorem dX6_wrongBoth_17 : decode cX6_wrongBoth 17 = .ok (.goto 4, 3) := by decide +kernel
theorem dX6_wrongBoth_20 : decode cX6_wrongBoth 20 = .ok (.iconst (-1), 1) := by decide +kernel
theorem dX6_wrongBoth_21 : decode cX6_wrongBoth 21 = .ok (.ireturn, 1) := by decide +kernel
theorem dX6_age_0 : decode cX6_age 0 = .ok (.aload_n 0, 1) := by decide +kernel
theorem dX6_age_1 : decode cX6_age 1 = .ok (.iconst 0, 1) := by decide +kernel
theorem dX6_age_2 : decode cX6_age 2 = .ok (.putfield 79, 3) := by decide +kernel
theorem dX6_age_5 : decode cX6_age 5 = .ok (.aload_n 0, 1) := by decide +kernel
theorem dX6_age_6 : decode cX6_age 6 = .ok (.iload_n 1, 1) := by decide +kernel
theorem dX6_age_7 : decode cX6_age 7 = .ok (.iload_n 2, 1) := by decide +kernel
theorem dX6_age_8 : decode cX6_age 8 = .ok (.invokevirtual 237, 3) := by decide +kernel
theorem dX6_age_11 : decode cX6_age 11 = .ok (.ifCond .ge 9, 3) := by decide +kernel
theorem dX6_age_14 : decode cX6_age 14 = .ok (.aload_n 0, 1) := by decide +kernel
theorem dX6_age_15 : decode cX6_age 15 = .ok (.iconst (-1), 1) := by decide +kernel
theorem dX6_age_16 : decode cX6_age 16 = .ok (.invokevirtual 143, 3) := by decide +kernel
theorem dX6_age_19 : decode cX6_age 19 = .ok (.ireturn, 1) := by decide +kernel
theorem dX6_age_20 : decode cX6_age 20 = .ok (.aload_n 0, 1) := by decide +kernel
theorem dX6_age_21 : decode cX6_age 21 = .ok (.getfield 31, 3) := by decide +kernel
theorem dX6_age_24 : decode cX6_age 24 = .ok (.bipush 7, 2) := by decide +kernel
theorem dX6_age_26 : decode cX6_age 26 = .ok (.iload_n 1, 1) := by decide +kernel
theorem dX6_age_27 : decode cX6_age 27 = .ok (.imul, 1) := by decide +kernel
theorem dX6_age_28 : decode cX6_age 28 = .ok (.iload_n 2, 1) := by decide +kernel
theorem dX6_age_29 : decode cX6_age 29 = .ok (.iadd, 1) := by decide +kernel
theorem dX6_age_30 : decode cX6_age 30 = .ok (.iaload, 1) := by decide +kernel
theorem dX6_age_31 : decode cX6_age 31 = .ok (.istore_n 3, 1) := by decide +kernel
theorem dX6_age_32 : decode cX6_age 32 = .ok (.iload_n 3, 1) := by decide +kernel
theorem dX6_age_33 : decode cX6_age 33 = .ok (.ifCond .ne 8, 3) := by decide +kernel
theorem dX6_age_36 : decode cX6_age 36 = .ok (.bipush (-9), 2) := by decide +kernel
theorem dX6_age_38 : decode cX6_age 38 = .ok (.goto 6, 3) := by decide +kernel
theorem dX6_age_41 : decode cX6_age 41 = .ok (.iload_n 3, 1) := by decide +kernel
theorem dX6_age_42 : decode cX6_age 42 = .ok (.iconst 1, 1) := by decide +kernel
theorem dX6_age_43 : decode cX6_age 43 = .ok (.isub, 1) := by decide +kernel
theorem dX6_age_44 : decode cX6_age 44 = .ok (.ireturn, 1) := by decide +kernel
theorem dX6_house_0 : decode cX6_house 0 = .ok (.aload_n 0, 1) := by decide +kernel
theorem dX6_house_1 : decode cX6_house 1 = .ok (.iconst 0, 1) := by decide +kernel
theorem dX6_house_2 : decode cX6_house 2 = .ok (.putfield 79, 3) := by decide +kernel
theorem dX6_house_5 : decode cX6_house 5 = .ok (.iload_n 1, 1) := by decide +kernel
theorem dX6_house_6 : decode cX6_house 6 = .ok (.i2l, 1) := by decide +kernel
theorem dX6_house_7 : decode cX6_house 7 = .ok (.lconst 0, 1) := by decide +kernel
theorem dX6_house_8 : decode cX6_house 8 = .ok (.ldc2_w 235, 3) := by decide +kernel
theorem dX6_house_11 : decode cX6_house 11 = .ok (.invokestatic 85, 3) := by decide +kernel
theorem dX6_house_14 : decode cX6_house 14 = .ok (.ifCond .eq 13, 3) := by decide +kernel
theorem dX6_house_17 : decode cX6_house 17 = .ok (.iload_n 2, 1) := by decide +kernel
theorem dX6_house_18 : decode cX6_house 18 = .ok (.iconst 0, 1) := by decide +kernel
theorem dX6_house_19 : decode cX6_house 19 = .ok (.bipush 9, 2) := by decide +kernel
theorem dX6_house_21 : decode cX6_house 21 = .ok (.invokestatic 240, 3) := by decide +kernel
theorem dX6_house_24 : decode cX6_house 24 = .ok (.goto 5, 3) := by decide +kernel
theorem dX6_house_27 : decode cX6_house 27 = .ok (.bipush (-2), 2) := by decide +kernel
theorem dX6_house_29 : decode cX6_house 29 = .ok (.istore 4, 2) := by decide +kernel
theorem dX6_house_31 : decode cX6_house 31 = .ok (.iload 4, 2) := by decide +kernel
theorem dX6_house_33 : decode cX6_house 33 = .ok (.ifCond .ne 17, 3) := by decide +kernel
theorem dX6_house_36 : decode cX6_house 36 = .ok (.aload_n 0, 1) := by decide +kernel
theorem dX6_house_37 : decode cX6_house 37 = .ok (.getfield 89, 3) := by decide +kernel
theorem dX6_house_40 : decode cX6_house 40 = .ok (.bipush 7, 2) := by decide +kernel
theorem dX6_house_42 : decode cX6_house 42 = .ok (.if_icmp .ne 8, 3) := by decide +kernel
theorem dX6_house_45 : decode cX6_house 45 = .ok (.bipush (-6), 2) := by decide +kernel
theorem dX6_house_47 : decode cX6_house 47 = .ok (.goto 5, 3) := by decide +kernel
theorem dX6_house_50 : decode cX6_house 50 = .ok (.iload 4, 2) := by decide +kernel
theorem dX6_house_52 : decode cX6_house 52 = .ok (.istore 4, 2) := by decide +kernel
theorem dX6_house_54 : decode cX6_house 54 = .ok (.iload 4, 2) := by decide +kernel
theorem dX6_house_56 : decode cX6_house 56 = .ok (.ifCond .ne 14, 3) := by decide +kernel
theorem dX6_house_59 : decode cX6_house 59 = .ok (.iload_n 3, 1) := by decide +kernel
theorem dX6_house_60 : decode cX6_house 60 = .ok (.invokestatic 139, 3) := by decide +kernel
theorem dX6_house_63 : decode cX6_house 63 = .ok (.ifCond .ne 7, 3) := by decide +kernel
theorem dX6_house_66 : decode cX6_house 66 = .ok (.iconst (-1), 1) := by decide +kernel
theorem dX6_house_67 : decode cX6_house 67 = .ok (.goto 5, 3) := by decide +kernel
theorem dX6_house_70 : decode cX6_house 70 = .ok (.iload 4, 2) := by decide +kernel
theorem dX6_house_72 : decode cX6_house 72 = .ok (.istore 4, 2) := by decide +kernel
theorem dX6_house_74 : decode cX6_house 74 = .ok (.iload 4, 2) := by decide +kernel
theorem dX6_house_76 : decode cX6_house 76 = .ok (.ifCond .ge 10, 3) := by decide +kernel
theorem dX6_house_79 : decode cX6_house 79 = .ok (.aload_n 0, 1) := by decide +kernel
theorem dX6_house_80 : decode cX6_house 80 = .ok (.iload 4, 2) := by decide +kernel
theorem dX6_house_82 : decode cX6_house 82 = .ok (.invokevirtual 143, 3) := by decide +kernel
theorem dX6_house_85 : decode cX6_house 85 = .ok (.ireturn, 1) := by decide +kernel
theorem dX6_house_86 : decode cX6_house 86 = .ok (.aload_n 0, 1) := by decide +kernel
theorem dX6_house_87 : decode cX6_house 87 = .ok (.iload_n 1, 1) := by decide +kernel
theorem dX6_house_88 : decode cX6_house 88 = .ok (.iload_n 2, 1) := by decide +kernel
theorem dX6_house_89 : decode cX6_house 89 = .ok (.iload_n 3, 1) := by decide +kernel
theorem dX6_house_90 : decode cX6_house 90 = .ok (.invokevirtual 175, 3) := by decide +kernel
theorem dX6_house_93 : decode cX6_house 93 = .ok (.pop, 1) := by decide +kernel
theorem dX6_house_94 : decode cX6_house 94 = .ok (.aload_n 0, 1) := by decide +kernel
theorem dX6_house_95 : decode cX6_house 95 = .ok (.iconst 0, 1) := by decide +kernel
theorem dX6_house_96 : decode cX6_house 96 = .ok (.putfield 205, 3) := by decide +kernel
theorem dX6_house_99 : decode cX6_house 99 = .ok (.aload_n 0, 1) := by decide +kernel
theorem dX6_house_100 : decode cX6_house 100 = .ok (.getfield 89, 3) := by decide +kernel
theorem dX6_house_103 : decode cX6_house 103 = .ok (.iconst 1, 1) := by decide +kernel
theorem dX6_house_104 : decode cX6_house 104 = .ok (.isub, 1) := by decide +kernel
theorem dX6_house_105 : decode cX6_house 105 = .ok (.ireturn, 1) := by decide +kernel
theorem dX6_walker_0 : decode cX6_walker 0 = .ok (.aload_n 0, 1) := by decide +kernel
theorem dX6_walker_1 : decode cX6_walker 1 = .ok (.iconst 0, 1) := by decide +kernel
theorem dX6_walker_2 : decode cX6_walker 2 = .ok (.putfield 79, 3) := by decide +kernel
theorem dX6_walker_5 : decode cX6_walker 5 = .ok (.iload_n 1, 1) := by decide +kernel
theorem dX6_walker_6 : decode cX6_walker 6 = .ok (.invokestatic 139, 3) := by decide +kernel
theorem dX6_walker_9 : decode cX6_walker 9 = .ok (.ifCond .eq 19, 3) := by decide +kernel
theorem dX6_walker_12 : decode cX6_walker 12 = .ok (.iload_n 2, 1) := by decide +kernel
theorem dX6_walker_13 : decode cX6_walker 13 = .ok (.invokestatic 139, 3) := by decide +kernel
theorem dX6_walker_16 : decode cX6_walker 16 = .ok (.ifCond .eq 12, 3) := by decide +kernel
theorem dX6_walker_19 : decode cX6_walker 19 = .ok (.iload_n 3, 1) := by decide +kernel
theorem dX6_walker_20 : decode cX6_walker 20 = .ok (.iconst 0, 1) := by decide +kernel
theorem dX6_walker_21 : decode cX6_walker 21 = .ok (.iconst 2, 1) := by decide +kernel
theorem dX6_walker_22 : decode cX6_walker 22 = .ok (.invokestatic 240, 3) := by decide +kernel
theorem dX6_walker_25 : decode cX6_walker 25 = .ok (.goto 4, 3) := by decide +kernel
theorem dX6_walker_28 : decode cX6_walker 28 = .ok (.iconst (-1), 1) := by decide +kernel
theorem dX6_walker_29 : decode cX6_walker 29 = .ok (.istore 4, 2) := by decide +kernel
theorem dX6_walker_31 : decode cX6_walker 31 = .ok (.iload 4, 2) := by decide +kernel
theorem dX6_walker_33 : decode cX6_walker 33 = .ok (.ifCond .ne 17, 3) := by decide +kernel
theorem dX6_walker_36 : decode cX6_walker 36 = .ok (.aload_n 0, 1) := by decide +kernel
theorem dX6_walker_37 : decode cX6_walker 37 = .ok (.getfield 92, 3) := by decide +kernel
theorem dX6_walker_40 : decode cX6_walker 40 = .ok (.bipush 6, 2) := by decide +kernel
theorem dX6_walker_42 : decode cX6_walker 42 = .ok (.if_icmp .ne 8, 3) := by decide +kernel
theorem dX6_walker_45 : decode cX6_walker 45 = .ok (.bipush (-6), 2) := by decide +kernel
theorem dX6_walker_47 : decode cX6_walker 47 = .ok (.goto 5, 3) := by decide +kernel
theorem dX6_walker_50 : decode cX6_walker 50 = .ok (.iload 4, 2) := by decide +kernel
theorem dX6_walker_52 : decode cX6_walker 52 = .ok (.istore 4, 2) := by decide +kernel
theorem dX6_walker_54 : decode cX6_walker 54 = .ok (.iload 4, 2) := by decide +kernel
theorem dX6_walker_56 : decode cX6_walker 56 = .ok (.ifCond .ge 10, 3) := by decide +kernel
theorem dX6_walker_59 : decode cX6_walker 59 = .ok (.aload_n 0, 1) := by decide +kernel
theorem dX6_walker_60 : decode cX6_walker 60 = .ok (.iload 4, 2) := by decide +kernel
theorem dX6_walker_62 : decode cX6_walker 62 = .ok (.invokevirtual 143, 3) := by decide +kernel
theorem dX6_walker_65 : decode cX6_walker 65 = .ok (.ireturn, 1) := by decide +kernel
theorem dX6_walker_66 : decode cX6_walker 66 = .ok (.aload_n 0, 1) := by decide +kernel
theorem dX6_walker_67 : decode cX6_walker 67 = .ok (.iload_n 1, 1) := by decide +kernel
theorem dX6_walker_68 : decode cX6_walker 68 = .ok (.iload_n 2, 1) := by decide +kernel
theorem dX6_walker_69 : decode cX6_walker 69 = .ok (.iload_n 3, 1) := by decide +kernel
theorem dX6_walker_70 : decode cX6_walker 70 = .ok (.invokevirtual 178, 3) := by decide +kernel
theorem dX6_walker_73 : decode cX6_walker 73 = .ok (.pop, 1) := by decide +kernel
theorem dX6_walker_74 : decode cX6_walker 74 = .ok (.aload_n 0, 1) := by decide +kernel
theorem dX6_walker_75 : decode cX6_walker 75 = .ok (.iconst 0, 1) := by decide +kernel
theorem dX6_walker_76 : decode cX6_walker 76 = .ok (.putfield 205, 3) := by decide +kernel
theorem dX6_walker_79 : decode cX6_walker 79 = .ok (.aload_n 0, 1) := by decide +kernel
theorem dX6_walker_80 : decode cX6_walker 80 = .ok (.getfield 92, 3) := by decide +kernel
theorem dX6_walker_83 : decode cX6_walker 83 = .ok (.iconst 1, 1) := by decide +kernel
theorem dX6_walker_84 : decode cX6_walker 84 = .ok (.isub, 1) := by decide +kernel
theorem dX6_walker_85 : decode cX6_walker 85 = .ok (.ireturn, 1) := by decide +kernel
theorem dX6_lights_0 : decode cX6_lights 0 = .ok (.aload_n 0, 1) := by decide +kernel
theorem dX6_lights_1 : decode cX6_lights 1 = .ok (.iconst 0, 1) := by decide +kernel
theorem dX6_lights_2 : decode cX6_lights 2 = .ok (.putfield 79, 3) := by decide +kernel
theorem dX6_lights_5 : decode cX6_lights 5 = .ok (.aload_n 0, 1) := by decide +kernel
theorem dX6_lights_6 : decode cX6_lights 6 = .ok (.iload_n 1, 1) := by decide +kernel
theorem dX6_lights_7 : decode cX6_lights 7 = .ok (.invokevirtual 181, 3) := by decide +kernel
theorem dX6_lights_10 : decode cX6_lights 10 = .ok (.ifCond .ne 9, 3) := by decide +kernel
theorem dX6_lights_13 : decode cX6_lights 13 = .ok (.aload_n 0, 1) := by decide +kernel
theorem dX6_lights_14 : decode cX6_lights 14 = .ok (.iconst (-1), 1) := by decide +kernel
theorem dX6_lights_15 : decode cX6_lights 15 = .ok (.invokevirtual 143, 3) := by decide +kernel
theorem dX6_lights_18 : decode cX6_lights 18 = .ok (.ireturn, 1) := by decide +kernel
theorem dX6_lights_19 : decode cX6_lights 19 = .ok (.aload_n 0, 1) := by decide +kernel
theorem dX6_lights_20 : decode cX6_lights 20 = .ok (.invokevirtual 244, 3) := by decide +kernel
theorem dX6_lights_23 : decode cX6_lights 23 = .ok (.aload_n 0, 1) := by decide +kernel
theorem dX6_lights_24 : decode cX6_lights 24 = .ok (.getfield 19, 3) := by decide +kernel
theorem dX6_lights_27 : decode cX6_lights 27 = .ok (.iload_n 1, 1) := by decide +kernel
theorem dX6_lights_28 : decode cX6_lights 28 = .ok (.iconst 1, 1) := by decide +kernel
theorem dX6_lights_29 : decode cX6_lights 29 = .ok (.aload_n 0, 1) := by decide +kernel
theorem dX6_lights_30 : decode cX6_lights 30 = .ok (.getfield 19, 3) := by decide +kernel
theorem dX6_lights_33 : decode cX6_lights 33 = .ok (.iload_n 1, 1) := by decide +kernel
theorem dX6_lights_34 : decode cX6_lights 34 = .ok (.iaload, 1) := by decide +kernel
theorem dX6_lights_35 : decode cX6_lights 35 = .ok (.isub, 1) := by decide +kernel
theorem dX6_lights_36 : decode cX6_lights 36 = .ok (.iastore, 1) := by decide +kernel
theorem dX6_lights_37 : decode cX6_lights 37 = .ok (.aload_n 0, 1) := by decide +kernel
theorem dX6_lights_38 : decode cX6_lights 38 = .ok (.getfield 19, 3) := by decide +kernel
theorem dX6_lights_41 : decode cX6_lights 41 = .ok (.iload_n 1, 1) := by decide +kernel
theorem dX6_lights_42 : decode cX6_lights 42 = .ok (.iaload, 1) := by decide +kernel
theorem dX6_lights_43 : decode cX6_lights 43 = .ok (.ireturn, 1) := by decide +kernel
theorem dX6_goals_0 : decode cX6_goals 0 = .ok (.aload_n 0, 1) := by decide +kernel
theorem dX6_goals_1 : decode cX6_goals 1 = .ok (.iconst 0, 1) := by decide +kernel
theorem dX6_goals_2 : decode cX6_goals 2 = .ok (.putfield 79, 3) := by decide +kernel
theorem dX6_goals_5 : decode cX6_goals 5 = .ok (.aload_n 0, 1) := by decide +kernel
theorem dX6_goals_6 : decode cX6_goals 6 = .ok (.iload_n 1, 1) := by decide +kernel
theorem dX6_goals_7 : decode cX6_goals 7 = .ok (.invokevirtual 184, 3) := by decide +kernel
theorem dX6_goals_10 : decode cX6_goals 10 = .ok (.ifCond .eq 10, 3) := by decide +kernel
theorem dX6_goals_13 : decode cX6_goals 13 = .ok (.iload_n 2, 1) := by decide +kernel
theorem dX6_goals_14 : decode cX6_goals 14 = .ok (.invokestatic 139, 3) := by decide +kernel
theorem dX6_goals_17 : decode cX6_goals 17 = .ok (.ifCond .ne 9, 3) := by decide +kernel
theorem dX6_goals_20 : decode cX6_goals 20 = .ok (.aload_n 0, 1) := by decide +kernel
theorem dX6_goals_21 : decode cX6_goals 21 = .ok (.iconst (-1), 1) := by decide +kernel
theorem dX6_goals_22 : decode cX6_goals 22 = .ok (.invokevirtual 143, 3) := by decide +kernel
theorem dX6_goals_25 : decode cX6_goals 25 = .ok (.ireturn, 1) := by decide +kernel
theorem dX6_goals_26 : decode cX6_goals 26 = .ok (.aload_n 0, 1) := by decide +kernel
theorem dX6_goals_27 : decode cX6_goals 27 = .ok (.invokevirtual 244, 3) := by decide +kernel
theorem dX6_goals_30 : decode cX6_goals 30 = .ok (.aload_n 0, 1) := by decide +kernel
theorem dX6_goals_31 : decode cX6_goals 31 = .ok (.getfield 25, 3) := by decide +kernel
theorem dX6_goals_34 : decode cX6_goals 34 = .ok (.iload_n 1, 1) := by decide +kernel
theorem dX6_goals_35 : decode cX6_goals 35 = .ok (.iaload, 1) := by decide +kernel
theorem dX6_goals_36 : decode cX6_goals 36 = .ok (.istore_n 3, 1) := by decide +kernel
theorem dX6_goals_37 : decode cX6_goals 37 = .ok (.aload_n 0, 1) := by decide +kernel
theorem dX6_goals_38 : decode cX6_goals 38 = .ok (.getfield 25, 3) := by decide +kernel
theorem dX6_goals_41 : decode cX6_goals 41 = .ok (.iload_n 1, 1) := by decide +kernel
theorem dX6_goals_42 : decode cX6_goals 42 = .ok (.iload_n 2, 1) := by decide +kernel
theorem dX6_goals_43 : decode cX6_goals 43 = .ok (.iastore, 1) := by decide +kernel
theorem dX6_goals_44 : decode cX6_goals 44 = .ok (.iload_n 3, 1) := by decide +kernel
theorem dX6_goals_45 : decode cX6_goals 45 = .ok (.ireturn, 1) := by decide +kernel
theorem dX6_visits_0 : decode cX6_visits 0 = .ok (.aload_n 0, 1) := by decide +kernel
theorem dX6_visits_1 : decode cX6_visits 1 = .ok (.iconst 0, 1) := by decide +kernel
theorem dX6_visits_2 : decode cX6_visits 2 = .ok (.putfield 79, 3) := by decide +kernel
theorem dX6_visits_5 : decode cX6_visits 5 = .ok (.aload_n 0, 1) := by decide +kernel
theorem dX6_visits_6 : decode cX6_visits 6 = .ok (.iload_n 1, 1) := by decide +kernel
theorem dX6_visits_7 : decode cX6_visits 7 = .ok (.iload_n 2, 1) := by decide +kernel
theorem dX6_visits_8 : decode cX6_visits 8 = .ok (.invokevirtual 237, 3) := by decide +kernel
theorem dX6_visits_11 : decode cX6_visits 11 = .ok (.istore_n 3, 1) := by decide +kernel
theorem dX6_visits_12 : decode cX6_visits 12 = .ok (.iload_n 3, 1) := by decide +kernel
theorem dX6_visits_13 : decode cX6_visits 13 = .ok (.ifCond .ne 37, 3) := by decide +kernel
theorem dX6_visits_16 : decode cX6_visits 16 = .ok (.aload_n 0, 1) := by decide +kernel
theorem dX6_visits_17 : decode cX6_visits 17 = .ok (.getfield 31, 3) := by decide +kernel
theorem dX6_visits_20 : decode cX6_visits 20 = .ok (.bipush 7, 2) := by decide +kernel
theorem dX6_visits_22 : decode cX6_visits 22 = .ok (.iload_n 1, 1) := by decide +kernel
theorem dX6_visits_23 : decode cX6_visits 23 = .ok (.imul, 1) := by decide +kernel
theorem dX6_visits_24 : decode cX6_visits 24 = .ok (.iload_n 2, 1) := by decide +kernel
theorem dX6_visits_25 : decode cX6_visits 25 = .ok (.iadd, 1) := by decide +kernel
theorem dX6_visits_26 : decode cX6_visits 26 = .ok (.iaload, 1) := by decide +kernel
theorem dX6_visits_27 : decode cX6_visits 27 = .ok (.ifCond .eq 18, 3) := by decide +kernel
theorem dX6_visits_30 : decode cX6_visits 30 = .ok (.aload_n 0, 1) := by decide +kernel
theorem dX6_visits_31 : decode cX6_visits 31 = .ok (.getfield 22, 3) := by decide +kernel
theorem dX6_visits_34 : decode cX6_visits 34 = .ok (.iload_n 1, 1) := by decide +kernel
theorem dX6_visits_35 : decode cX6_visits 35 = .ok (.iaload, 1) := by decide +kernel
theorem dX6_visits_36 : decode cX6_visits 36 = .ok (.aload_n 0, 1) := by decide +kernel
theorem dX6_visits_37 : decode cX6_visits 37 = .ok (.getfield 16, 3) := by decide +kernel
theorem dX6_visits_40 : decode cX6_visits 40 = .ok (.iload_n 2, 1) := by decide +kernel
theorem dX6_visits_41 : decode cX6_visits 41 = .ok (.iaload, 1) := by decide +kernel
theorem dX6_visits_42 : decode cX6_visits 42 = .ok (.if_icmp .eq 8, 3) := by decide +kernel
theorem dX6_visits_45 : decode cX6_visits 45 = .ok (.bipush (-3), 2) := by decide +kernel
theorem dX6_visits_47 : decode cX6_visits 47 = .ok (.goto 4, 3) := by decide +kernel
theorem dX6_visits_50 : decode cX6_visits 50 = .ok (.iload_n 3, 1) := by decide +kernel
theorem dX6_visits_51 : decode cX6_visits 51 = .ok (.istore_n 3, 1) := by decide +kernel
theorem dX6_visits_52 : decode cX6_visits 52 = .ok (.iload_n 3, 1) := by decide +kernel
theorem dX6_visits_53 : decode cX6_visits 53 = .ok (.ifCond .ge 9, 3) := by decide +kernel
theorem dX6_visits_56 : decode cX6_visits 56 = .ok (.aload_n 0, 1) := by decide +kernel
theorem dX6_visits_57 : decode cX6_visits 57 = .ok (.iload_n 3, 1) := by decide +kernel
theorem dX6_visits_58 : decode cX6_visits 58 = .ok (.invokevirtual 143, 3) := by decide +kernel
theorem dX6_visits_61 : decode cX6_visits 61 = .ok (.ireturn, 1) := by decide +kernel
theorem dX6_visits_62 : decode cX6_visits 62 = .ok (.aload_n 0, 1) := by decide +kernel
theorem dX6_visits_63 : decode cX6_visits 63 = .ok (.invokevirtual 244, 3) := by decide +kernel
theorem dX6_visits_66 : decode cX6_visits 66 = .ok (.aload_n 0, 1) := by decide +kernel
theorem dX6_visits_67 : decode cX6_visits 67 = .ok (.iload_n 2, 1) := by decide +kernel
theorem dX6_visits_68 : decode cX6_visits 68 = .ok (.aload_n 0, 1) := by decide +kernel
theorem dX6_visits_69 : decode cX6_visits 69 = .ok (.getfield 31, 3) := by decide +kernel
theorem dX6_visits_72 : decode cX6_visits 72 = .ok (.bipush 7, 2) := by decide +kernel
theorem dX6_visits_74 : decode cX6_visits 74 = .ok (.iload_n 1, 1) := by decide +kernel
theorem dX6_visits_75 : decode cX6_visits 75 = .ok (.imul, 1) := by decide +kernel
theorem dX6_visits_76 : decode cX6_visits 76 = .ok (.iload_n 2, 1) := by decide +kernel
theorem dX6_visits_77 : decode cX6_visits 77 = .ok (.iadd, 1) := by decide +kernel
theorem dX6_visits_78 : decode cX6_visits 78 = .ok (.iaload, 1) := by decide +kernel
theorem dX6_visits_79 : decode cX6_visits 79 = .ok (.iconst 1, 1) := by decide +kernel
theorem dX6_visits_80 : decode cX6_visits 80 = .ok (.isub, 1) := by decide +kernel
theorem dX6_visits_81 : decode cX6_visits 81 = .ok (.invokevirtual 110, 3) := by decide +kernel
theorem dX6_visits_84 : decode cX6_visits 84 = .ok (.istore 4, 2) := by decide +kernel
theorem dX6_visits_86 : decode cX6_visits 86 = .ok (.aload_n 0, 1) := by decide +kernel
theorem dX6_visits_87 : decode cX6_visits 87 = .ok (.getfield 31, 3) := by decide +kernel
theorem dX6_visits_90 : decode cX6_visits 90 = .ok (.bipush 7, 2) := by decide +kernel
theorem dX6_visits_92 : decode cX6_visits 92 = .ok (.iload_n 1, 1) := by decide +kernel
theorem dX6_visits_93 : decode cX6_visits 93 = .ok (.imul, 1) := by decide +kernel
theorem dX6_visits_94 : decode cX6_visits 94 = .ok (.iload_n 2, 1) := by decide +kernel
theorem dX6_visits_95 : decode cX6_visits 95 = .ok (.iadd, 1) := by decide +kernel
theorem dX6_visits_96 : decode cX6_visits 96 = .ok (.iconst 0, 1) := by decide +kernel
theorem dX6_visits_97 : decode cX6_visits 97 = .ok (.iastore, 1) := by decide +kernel
theorem dX6_visits_98 : decode cX6_visits 98 = .ok (.iload 4, 2) := by decide +kernel
theorem dX6_visits_100 : decode cX6_visits 100 = .ok (.ireturn, 1) := by decide +kernel
theorem dX6_trades_0 : decode cX6_trades 0 = .ok (.aload_n 0, 1) := by decide +kernel
theorem dX6_trades_1 : decode cX6_trades 1 = .ok (.iconst 0, 1) := by decide +kernel
theorem dX6_trades_2 : decode cX6_trades 2 = .ok (.putfield 79, 3) := by decide +kernel
theorem dX6_trades_5 : decode cX6_trades 5 = .ok (.aload_n 0, 1) := by decide +kernel
theorem dX6_trades_6 : decode cX6_trades 6 = .ok (.iload_n 1, 1) := by decide +kernel
theorem dX6_trades_7 : decode cX6_trades 7 = .ok (.invokevirtual 181, 3) := by decide +kernel
theorem dX6_trades_10 : decode cX6_trades 10 = .ok (.ifCond .eq 28, 3) := by decide +kernel
theorem dX6_trades_13 : decode cX6_trades 13 = .ok (.aload_n 0, 1) := by decide +kernel
theorem dX6_trades_14 : decode cX6_trades 14 = .ok (.iload_n 2, 1) := by decide +kernel
theorem dX6_trades_15 : decode cX6_trades 15 = .ok (.invokevirtual 184, 3) := by decide +kernel
theorem dX6_trades_18 : decode cX6_trades 18 = .ok (.ifCond .eq 20, 3) := by decide +kernel
theorem dX6_trades_21 : decode cX6_trades 21 = .ok (.aload_n 0, 1) := by decide +kernel
theorem dX6_trades_22 : decode cX6_trades 22 = .ok (.iload_n 3, 1) := by decide +kernel
theorem dX6_trades_23 : decode cX6_trades 23 = .ok (.invokevirtual 184, 3) := by decide +kernel
theorem dX6_trades_26 : decode cX6_trades 26 = .ok (.ifCond .eq 12, 3) := by decide +kernel
theorem dX6_trades_29 : decode cX6_trades 29 = .ok (.iload_n 2, 1) := by decide +kernel
theorem dX6_trades_30 : decode cX6_trades 30 = .ok (.iload_n 3, 1) := by decide +kernel
theorem dX6_trades_31 : decode cX6_trades 31 = .ok (.if_icmp .eq 7, 3) := by decide +kernel
theorem dX6_trades_34 : decode cX6_trades 34 = .ok (.iconst 0, 1) := by decide +kernel
theorem dX6_trades_35 : decode cX6_trades 35 = .ok (.goto 4, 3) := by decide +kernel
theorem dX6_trades_38 : decode cX6_trades 38 = .ok (.iconst (-1), 1) := by decide +kernel
theorem dX6_trades_39 : decode cX6_trades 39 = .ok (.istore 4, 2) := by decide +kernel
theorem dX6_trades_41 : decode cX6_trades 41 = .ok (.iload 4, 2) := by decide +kernel
theorem dX6_trades_43 : decode cX6_trades 43 = .ok (.ifCond .ne 36, 3) := by decide +kernel
theorem dX6_trades_46 : decode cX6_trades 46 = .ok (.aload_n 0, 1) := by decide +kernel
theorem dX6_trades_47 : decode cX6_trades 47 = .ok (.getfield 31, 3) := by decide +kernel
theorem dX6_trades_50 : decode cX6_trades 50 = .ok (.bipush 7, 2) := by decide +kernel
theorem dX6_trades_52 : decode cX6_trades 52 = .ok (.iload_n 2, 1) := by decide +kernel
theorem dX6_trades_53 : decode cX6_trades 53 = .ok (.imul, 1) := by decide +kernel
theorem dX6_trades_54 : decode cX6_trades 54 = .ok (.iload_n 1, 1) := by decide +kernel
theorem dX6_trades_55 : decode cX6_trades 55 = .ok (.iadd, 1) := by decide +kernel
theorem dX6_trades_56 : decode cX6_trades 56 = .ok (.iaload, 1) := by decide +kernel
theorem dX6_trades_57 : decode cX6_trades 57 = .ok (.ifCond .eq 17, 3) := by decide +kernel
theorem dX6_trades_60 : decode cX6_trades 60 = .ok (.aload_n 0, 1) := by decide +kernel
theorem dX6_trades_61 : decode cX6_trades 61 = .ok (.getfield 31, 3) := by decide +kernel
theorem dX6_trades_64 : decode cX6_trades 64 = .ok (.bipush 7, 2) := by decide +kernel
theorem dX6_trades_66 : decode cX6_trades 66 = .ok (.iload_n 3, 1) := by decide +kernel
theorem dX6_trades_67 : decode cX6_trades 67 = .ok (.imul, 1) := by decide +kernel
theorem dX6_trades_68 : decode cX6_trades 68 = .ok (.iload_n 1, 1) := by decide +kernel
theorem dX6_trades_69 : decode cX6_trades 69 = .ok (.iadd, 1) := by decide +kernel
theorem dX6_trades_70 : decode cX6_trades 70 = .ok (.iaload, 1) := by decide +kernel
theorem dX6_trades_71 : decode cX6_trades 71 = .ok (.ifCond .le 8, 3) := by decide +kernel
theorem dX6_trades_74 : decode cX6_trades 74 = .ok (.bipush (-3), 2) := by decide +kernel
theorem dX6_trades_76 : decode cX6_trades 76 = .ok (.goto 5, 3) := by decide +kernel
theorem dX6_trades_79 : decode cX6_trades 79 = .ok (.iload 4, 2) := by decide +kernel
theorem dX6_trades_81 : decode cX6_trades 81 = .ok (.istore 4, 2) := by decide +kernel
theorem dX6_trades_83 : decode cX6_trades 83 = .ok (.iload 4, 2) := by decide +kernel
theorem dX6_trades_85 : decode cX6_trades 85 = .ok (.ifCond .ge 10, 3) := by decide +kernel
theorem dX6_trades_88 : decode cX6_trades 88 = .ok (.aload_n 0, 1) := by decide +kernel
theorem dX6_trades_89 : decode cX6_trades 89 = .ok (.iload 4, 2) := by decide +kernel
theorem dX6_trades_91 : decode cX6_trades 91 = .ok (.invokevirtual 143, 3) := by decide +kernel
theorem dX6_trades_94 : decode cX6_trades 94 = .ok (.ireturn, 1) := by decide +kernel
theorem dX6_trades_95 : decode cX6_trades 95 = .ok (.aload_n 0, 1) := by decide +kernel
theorem dX6_trades_96 : decode cX6_trades 96 = .ok (.invokevirtual 244, 3) := by decide +kernel
theorem dX6_trades_99 : decode cX6_trades 99 = .ok (.aload_n 0, 1) := by decide +kernel
theorem dX6_trades_100 : decode cX6_trades 100 = .ok (.getfield 31, 3) := by decide +kernel
theorem dX6_trades_103 : decode cX6_trades 103 = .ok (.bipush 7, 2) := by decide +kernel
theorem dX6_trades_105 : decode cX6_trades 105 = .ok (.iload_n 3, 1) := by decide +kernel
theorem dX6_trades_106 : decode cX6_trades 106 = .ok (.imul, 1) := by decide +kernel
theorem dX6_trades_107 : decode cX6_trades 107 = .ok (.iload_n 1, 1) := by decide +kernel
theorem dX6_trades_108 : decode cX6_trades 108 = .ok (.iadd, 1) := by decide +kernel
theorem dX6_trades_109 : decode cX6_trades 109 = .ok (.aload_n 0, 1) := by decide +kernel
theorem dX6_trades_110 : decode cX6_trades 110 = .ok (.getfield 31, 3) := by decide +kernel
theorem dX6_trades_113 : decode cX6_trades 113 = .ok (.bipush 7, 2) := by decide +kernel
theorem dX6_trades_115 : decode cX6_trades 115 = .ok (.iload_n 2, 1) := by decide +kernel
theorem dX6_trades_116 : decode cX6_trades 116 = .ok (.imul, 1) := by decide +kernel
theorem dX6_trades_117 : decode cX6_trades 117 = .ok (.iload_n 1, 1) := by decide +kernel
theorem dX6_trades_118 : decode cX6_trades 118 = .ok (.iadd, 1) := by decide +kernel
theorem dX6_trades_119 : decode cX6_trades 119 = .ok (.iaload, 1) := by decide +kernel
theorem dX6_trades_120 : decode cX6_trades 120 = .ok (.iastore, 1) := by decide +kernel
theorem dX6_trades_121 : decode cX6_trades 121 = .ok (.aload_n 0, 1) := by decide +kernel
theorem dX6_trades_122 : decode cX6_trades 122 = .ok (.getfield 31, 3) := by decide +kernel
theorem dX6_trades_125 : decode cX6_trades 125 = .ok (.bipush 7, 2) := by decide +kernel
theorem dX6_trades_127 : decode cX6_trades 127 = .ok (.iload_n 2, 1) := by decide +kernel
theorem dX6_trades_128 : decode cX6_trades 128 = .ok (.imul, 1) := by decide +kernel
theorem dX6_trades_129 : decode cX6_trades 129 = .ok (.iload_n 1, 1) := by decide +kernel
theorem dX6_trades_130 : decode cX6_trades 130 = .ok (.iadd, 1) := by decide +kernel
theorem dX6_trades_131 : decode cX6_trades 131 = .ok (.iconst 0, 1) := by decide +kernel
theorem dX6_trades_132 : decode cX6_trades 132 = .ok (.iastore, 1) := by decide +kernel
theorem dX6_trades_133 : decode cX6_trades 133 = .ok (.aload_n 0, 1) := by decide +kernel
theorem dX6_trades_134 : decode cX6_trades 134 = .ok (.getfield 31, 3) := by decide +kernel
theorem dX6_trades_137 : decode cX6_trades 137 = .ok (.bipush 7, 2) := by decide +kernel
theorem dX6_trades_139 : decode cX6_trades 139 = .ok (.iload_n 3, 1) := by decide +kernel
theorem dX6_trades_140 : decode cX6_trades 140 = .ok (.imul, 1) := by decide +kernel
theorem dX6_trades_141 : decode cX6_trades 141 = .ok (.iload_n 1, 1) := by decide +kernel
theorem dX6_trades_142 : decode cX6_trades 142 = .ok (.iadd, 1) := by decide +kernel
theorem dX6_trades_143 : decode cX6_trades 143 = .ok (.iaload, 1) := by decide +kernel
theorem dX6_trades_144 : decode cX6_trades 144 = .ok (.iconst 1, 1) := by decide +kernel
theorem dX6_trades_145 : decode cX6_trades 145 = .ok (.isub, 1) := by decide +kernel
theorem dX6_trades_146 : decode cX6_trades 146 = .ok (.ireturn, 1) := by decide +kernel
theorem dX6_evenings_0 : decode cX6_evenings 0 = .ok (.aload_n 0, 1) := by decide +kernel
theorem dX6_evenings_1 : decode cX6_evenings 1 = .ok (.iconst 0, 1) := by decide +kernel
theorem dX6_evenings_2 : decode cX6_evenings 2 = .ok (.putfield 79, 3) := by decide +kernel
theorem dX6_evenings_5 : decode cX6_evenings 5 = .ok (.iload_n 1, 1) := by decide +kernel
theorem dX6_evenings_6 : decode cX6_evenings 6 = .ok (.iconst 1, 1) := by decide +kernel
theorem dX6_evenings_7 : decode cX6_evenings 7 = .ok (.bipush 60, 2) := by decide +kernel
theorem dX6_evenings_9 : decode cX6_evenings 9 = .ok (.invokestatic 240, 3) := by decide +kernel
theorem dX6_evenings_12 : decode cX6_evenings 12 = .ok (.istore_n 2, 1) := by decide +kernel
theorem dX6_evenings_13 : decode cX6_evenings 13 = .ok (.iload_n 2, 1) := by decide +kernel
theorem dX6_evenings_14 : decode cX6_evenings 14 = .ok (.ifCond .ne 20, 3) := by decide +kernel
theorem dX6_evenings_17 : decode cX6_evenings 17 = .ok (.aload_n 0, 1) := by decide +kernel
theorem dX6_evenings_18 : decode cX6_evenings 18 = .ok (.getfield 122, 3) := by decide +kernel
theorem dX6_evenings_21 : decode cX6_evenings 21 = .ok (.iload_n 1, 1) := by decide +kernel
theorem dX6_evenings_22 : decode cX6_evenings 22 = .ok (.iadd, 1) := by decide +kernel
theorem dX6_evenings_23 : decode cX6_evenings 23 = .ok (.sipush 999, 3) := by decide +kernel
theorem dX6_evenings_26 : decode cX6_evenings 26 = .ok (.if_icmp .le 8, 3) := by decide +kernel
theorem dX6_evenings_29 : decode cX6_evenings 29 = .ok (.bipush (-6), 2) := by decide +kernel
theorem dX6_evenings_31 : decode cX6_evenings 31 = .ok (.goto 4, 3) := by decide +kernel
theorem dX6_evenings_34 : decode cX6_evenings 34 = .ok (.iload_n 2, 1) := by decide +kernel
theorem dX6_evenings_35 : decode cX6_evenings 35 = .ok (.istore_n 2, 1) := by decide +kernel
theorem dX6_evenings_36 : decode cX6_evenings 36 = .ok (.iload_n 2, 1) := by decide +kernel
theorem dX6_evenings_37 : decode cX6_evenings 37 = .ok (.ifCond .ge 9, 3) := by decide +kernel
theorem dX6_evenings_40 : decode cX6_evenings 40 = .ok (.aload_n 0, 1) := by decide +kernel
theorem dX6_evenings_41 : decode cX6_evenings 41 = .ok (.iload_n 2, 1) := by decide +kernel
theorem dX6_evenings_42 : decode cX6_evenings 42 = .ok (.invokevirtual 143, 3) := by decide +kernel
theorem dX6_evenings_45 : decode cX6_evenings 45 = .ok (.ireturn, 1) := by decide +kernel
theorem dX6_evenings_46 : decode cX6_evenings 46 = .ok (.aload_n 0, 1) := by decide +kernel
theorem dX6_evenings_47 : decode cX6_evenings 47 = .ok (.invokevirtual 244, 3) := by decide +kernel
theorem dX6_evenings_50 : decode cX6_evenings 50 = .ok (.aload_n 0, 1) := by decide +kernel
theorem dX6_evenings_51 : decode cX6_evenings 51 = .ok (.iload_n 1, 1) := by decide +kernel
theorem dX6_evenings_52 : decode cX6_evenings 52 = .ok (.invokevirtual 189, 3) := by decide +kernel
theorem dX6_evenings_55 : decode cX6_evenings 55 = .ok (.aload_n 0, 1) := by decide +kernel
theorem dX6_evenings_56 : decode cX6_evenings 56 = .ok (.invokevirtual 247, 3) := by decide +kernel
theorem dX6_evenings_59 : decode cX6_evenings 59 = .ok (.ireturn, 1) := by decide +kernel
theorem dX6_walkerIn_0 : decode cX6_walkerIn 0 = .ok (.aload_n 0, 1) := by decide +kernel
theorem dX6_walkerIn_1 : decode cX6_walkerIn 1 = .ok (.iconst 0, 1) := by decide +kernel
theorem dX6_walkerIn_2 : decode cX6_walkerIn 2 = .ok (.putfield 79, 3) := by decide +kernel
theorem dX6_walkerIn_5 : decode cX6_walkerIn 5 = .ok (.aload_n 0, 1) := by decide +kernel
theorem dX6_walkerIn_6 : decode cX6_walkerIn 6 = .ok (.iload_n 1, 1) := by decide +kernel
theorem dX6_walkerIn_7 : decode cX6_walkerIn 7 = .ok (.invokevirtual 184, 3) := by decide +kernel
theorem dX6_walkerIn_10 : decode cX6_walkerIn 10 = .ok (.ifCond .eq 13, 3) := by decide +kernel
theorem dX6_walkerIn_13 : decode cX6_walkerIn 13 = .ok (.iload_n 2, 1) := by decide +kernel
theorem dX6_walkerIn_14 : decode cX6_walkerIn 14 = .ok (.iconst 0, 1) := by decide +kernel
theorem dX6_walkerIn_15 : decode cX6_walkerIn 15 = .ok (.bipush 60, 2) := by decide +kernel
theorem dX6_walkerIn_17 : decode cX6_walkerIn 17 = .ok (.invokestatic 240, 3) := by decide +kernel
theorem dX6_walkerIn_20 : decode cX6_walkerIn 20 = .ok (.goto 4, 3) := by decide +kernel
theorem dX6_walkerIn_23 : decode cX6_walkerIn 23 = .ok (.iconst (-1), 1) := by decide +kernel
theorem dX6_walkerIn_24 : decode cX6_walkerIn 24 = .ok (.iload_n 3, 1) := by decide +kernel
theorem dX6_walkerIn_25 : decode cX6_walkerIn 25 = .ok (.iconst 2, 1) := by decide +kernel
theorem dX6_walkerIn_26 : decode cX6_walkerIn 26 = .ok (.invokestatic 250, 3) := by decide +kernel
theorem dX6_walkerIn_29 : decode cX6_walkerIn 29 = .ok (.istore 4, 2) := by decide +kernel
theorem dX6_walkerIn_31 : decode cX6_walkerIn 31 = .ok (.iload 4, 2) := by decide +kernel
theorem dX6_walkerIn_33 : decode cX6_walkerIn 33 = .ok (.ifCond .ge 10, 3) := by decide +kernel
theorem dX6_walkerIn_36 : decode cX6_walkerIn 36 = .ok (.aload_n 0, 1) := by decide +kernel
theorem dX6_walkerIn_37 : decode cX6_walkerIn 37 = .ok (.iload 4, 2) := by decide +kernel
theorem dX6_walkerIn_39 : decode cX6_walkerIn 39 = .ok (.invokevirtual 143, 3) := by decide +kernel
theorem dX6_walkerIn_42 : decode cX6_walkerIn 42 = .ok (.ireturn, 1) := by decide +kernel
theorem dX6_walkerIn_43 : decode cX6_walkerIn 43 = .ok (.aload_n 0, 1) := by decide +kernel
theorem dX6_walkerIn_44 : decode cX6_walkerIn 44 = .ok (.invokevirtual 196, 3) := by decide +kernel
theorem dX6_walkerIn_47 : decode cX6_walkerIn 47 = .ok (.aload_n 0, 1) := by decide +kernel
theorem dX6_walkerIn_48 : decode cX6_walkerIn 48 = .ok (.iload_n 2, 1) := by decide +kernel
theorem dX6_walkerIn_49 : decode cX6_walkerIn 49 = .ok (.invokevirtual 189, 3) := by decide +kernel
theorem dX6_walkerIn_52 : decode cX6_walkerIn 52 = .ok (.iload_n 3, 1) := by decide +kernel
theorem dX6_walkerIn_53 : decode cX6_walkerIn 53 = .ok (.ifCond .ne 12, 3) := by decide +kernel
theorem dX6_walkerIn_56 : decode cX6_walkerIn 56 = .ok (.aload_n 0, 1) := by decide +kernel
theorem dX6_walkerIn_57 : decode cX6_walkerIn 57 = .ok (.getfield 22, 3) := by decide +kernel
theorem dX6_walkerIn_60 : decode cX6_walkerIn 60 = .ok (.iload_n 1, 1) := by decide +kernel
theorem dX6_walkerIn_61 : decode cX6_walkerIn 61 = .ok (.iaload, 1) := by decide +kernel
theorem dX6_walkerIn_62 : decode cX6_walkerIn 62 = .ok (.goto 21, 3) := by decide +kernel
theorem dX6_walkerIn_65 : decode cX6_walkerIn 65 = .ok (.iload_n 3, 1) := by decide +kernel
theorem dX6_walkerIn_66 : decode cX6_walkerIn 66 = .ok (.iconst 1, 1) := by decide +kernel
theorem dX6_walkerIn_67 : decode cX6_walkerIn 67 = .ok (.if_icmp .ne 11, 3) := by decide +kernel
theorem dX6_walkerIn_70 : decode cX6_walkerIn 70 = .ok (.aload_n 0, 1) := by decide +kernel
theorem dX6_walkerIn_71 : decode cX6_walkerIn 71 = .ok (.iload_n 1, 1) := by decide +kernel
theorem dX6_walkerIn_72 : decode cX6_walkerIn 72 = .ok (.invokevirtual 116, 3) := by decide +kernel
theorem dX6_walkerIn_75 : decode cX6_walkerIn 75 = .ok (.goto 8, 3) := by decide +kernel
theorem dX6_walkerIn_78 : decode cX6_walkerIn 78 = .ok (.aload_n 0, 1) := by decide +kernel
theorem dX6_walkerIn_79 : decode cX6_walkerIn 79 = .ok (.iload_n 1, 1) := by decide +kernel
theorem dX6_walkerIn_80 : decode cX6_walkerIn 80 = .ok (.invokevirtual 113, 3) := by decide +kernel
theorem dX6_walkerIn_83 : decode cX6_walkerIn 83 = .ok (.istore 5, 2) := by decide +kernel
theorem dX6_walkerIn_85 : decode cX6_walkerIn 85 = .ok (.aload_n 0, 1) := by decide +kernel
theorem dX6_walkerIn_86 : decode cX6_walkerIn 86 = .ok (.invokevirtual 202, 3) := by decide +kernel
theorem dX6_walkerIn_89 : decode cX6_walkerIn 89 = .ok (.iload 5, 2) := by decide +kernel
theorem dX6_walkerIn_91 : decode cX6_walkerIn 91 = .ok (.ireturn, 1) := by decide +kernel
theorem dX6_prices_0 : decode cX6_prices 0 = .ok (.aload_n 0, 1) := by decide +kernel
theorem dX6_prices_1 : decode cX6_prices 1 = .ok (.iconst 0, 1) := by decide +kernel
theorem dX6_prices_2 : decode cX6_prices 2 = .ok (.putfield 79, 3) := by decide +kernel
theorem dX6_prices_5 : decode cX6_prices 5 = .ok (.iload_n 1, 1) := by decide +kernel
theorem dX6_prices_6 : decode cX6_prices 6 = .ok (.iconst 0, 1) := by decide +kernel
theorem dX6_prices_7 : decode cX6_prices 7 = .ok (.bipush 60, 2) := by decide +kernel
theorem dX6_prices_9 : decode cX6_prices 9 = .ok (.invokestatic 240, 3) := by decide +kernel
theorem dX6_prices_12 : decode cX6_prices 12 = .ok (.istore_n 2, 1) := by decide +kernel
theorem dX6_prices_13 : decode cX6_prices 13 = .ok (.iload_n 2, 1) := by decide +kernel
theorem dX6_prices_14 : decode cX6_prices 14 = .ok (.ifCond .ge 9, 3) := by decide +kernel
theorem dX6_prices_17 : decode cX6_prices 17 = .ok (.aload_n 0, 1) := by decide +kernel
theorem dX6_prices_18 : decode cX6_prices 18 = .ok (.iload_n 2, 1) := by decide +kernel
theorem dX6_prices_19 : decode cX6_prices 19 = .ok (.invokevirtual 143, 3) := by decide +kernel
theorem dX6_prices_22 : decode cX6_prices 22 = .ok (.ireturn, 1) := by decide +kernel
theorem dX6_prices_23 : decode cX6_prices 23 = .ok (.aload_n 0, 1) := by decide +kernel
theorem dX6_prices_24 : decode cX6_prices 24 = .ok (.invokevirtual 196, 3) := by decide +kernel
theorem dX6_prices_27 : decode cX6_prices 27 = .ok (.aload_n 0, 1) := by decide +kernel
theorem dX6_prices_28 : decode cX6_prices 28 = .ok (.iload_n 1, 1) := by decide +kernel
theorem dX6_prices_29 : decode cX6_prices 29 = .ok (.invokevirtual 189, 3) := by decide +kernel
theorem dX6_prices_32 : decode cX6_prices 32 = .ok (.aload_n 0, 1) := by decide +kernel
theorem dX6_prices_33 : decode cX6_prices 33 = .ok (.invokevirtual 253, 3) := by decide +kernel
theorem dX6_prices_36 : decode cX6_prices 36 = .ok (.istore_n 3, 1) := by decide +kernel
theorem dX6_prices_37 : decode cX6_prices 37 = .ok (.aload_n 0, 1) := by decide +kernel
theorem dX6_prices_38 : decode cX6_prices 38 = .ok (.invokevirtual 202, 3) := by decide +kernel
theorem dX6_prices_41 : decode cX6_prices 41 = .ok (.iload_n 3, 1) := by decide +kernel
theorem dX6_prices_42 : decode cX6_prices 42 = .ok (.ireturn, 1) := by decide +kernel
theorem dX6_owed_0 : decode cX6_owed 0 = .ok (.aload_n 0, 1) := by decide +kernel
theorem dX6_owed_1 : decode cX6_owed 1 = .ok (.iconst 0, 1) := by decide +kernel
theorem dX6_owed_2 : decode cX6_owed 2 = .ok (.putfield 79, 3) := by decide +kernel
theorem dX6_owed_5 : decode cX6_owed 5 = .ok (.aload_n 0, 1) := by decide +kernel
theorem dX6_owed_6 : decode cX6_owed 6 = .ok (.iload_n 1, 1) := by decide +kernel
theorem dX6_owed_7 : decode cX6_owed 7 = .ok (.iload_n 2, 1) := by decide +kernel
theorem dX6_owed_8 : decode cX6_owed 8 = .ok (.invokevirtual 237, 3) := by decide +kernel
theorem dX6_owed_11 : decode cX6_owed 11 = .ok (.ifCond .ge 9, 3) := by decide +kernel
theorem dX6_owed_14 : decode cX6_owed 14 = .ok (.aload_n 0, 1) := by decide +kernel
theorem dX6_owed_15 : decode cX6_owed 15 = .ok (.iconst (-1), 1) := by decide +kernel
theorem dX6_owed_16 : decode cX6_owed 16 = .ok (.invokevirtual 143, 3) := by decide +kernel
theorem dX6_owed_19 : decode cX6_owed 19 = .ok (.ireturn, 1) := by decide +kernel
theorem dX6_owed_20 : decode cX6_owed 20 = .ok (.bipush (-9), 2) := by decide +kernel
theorem dX6_owed_22 : decode cX6_owed 22 = .ok (.istore_n 3, 1) := by decide +kernel
theorem dX6_owed_23 : decode cX6_owed 23 = .ok (.aload_n 0, 1) := by decide +kernel
theorem dX6_owed_24 : decode cX6_owed 24 = .ok (.invokevirtual 196, 3) := by decide +kernel
theorem dX6_owed_27 : decode cX6_owed 27 = .ok (.iconst 0, 1) := by decide +kernel
theorem dX6_owed_28 : decode cX6_owed 28 = .ok (.istore 4, 2) := by decide +kernel
theorem dX6_owed_30 : decode cX6_owed 30 = .ok (.iload 4, 2) := by decide +kernel
theorem dX6_owed_32 : decode cX6_owed 32 = .ok (.bipush 60, 2) := by decide +kernel
theorem dX6_owed_34 : decode cX6_owed 34 = .ok (.if_icmp .gt 40, 3) := by decide +kernel
theorem dX6_owed_37 : decode cX6_owed 37 = .ok (.iload_n 3, 1) := by decide +kernel
theorem dX6_owed_38 : decode cX6_owed 38 = .ok (.ifCond .ge 36, 3) := by decide +kernel
theorem dX6_owed_41 : decode cX6_owed 41 = .ok (.aload_n 0, 1) := by decide +kernel
theorem dX6_owed_42 : decode cX6_owed 42 = .ok (.getfield 31, 3) := by decide +kernel
theorem dX6_owed_45 : decode cX6_owed 45 = .ok (.bipush 7, 2) := by decide +kernel
theorem dX6_owed_47 : decode cX6_owed 47 = .ok (.iload_n 1, 1) := by decide +kernel
theorem dX6_owed_48 : decode cX6_owed 48 = .ok (.imul, 1) := by decide +kernel
theorem dX6_owed_49 : decode cX6_owed 49 = .ok (.iload_n 2, 1) := by decide +kernel
theorem dX6_owed_50 : decode cX6_owed 50 = .ok (.iadd, 1) := by decide +kernel
theorem dX6_owed_51 : decode cX6_owed 51 = .ok (.iaload, 1) := by decide +kernel
theorem dX6_owed_52 : decode cX6_owed 52 = .ok (.ifCond .le 8, 3) := by decide +kernel
theorem dX6_owed_55 : decode cX6_owed 55 = .ok (.iload 4, 2) := by decide +kernel
theorem dX6_owed_57 : decode cX6_owed 57 = .ok (.goto 5, 3) := by decide +kernel
theorem dX6_owed_60 : decode cX6_owed 60 = .ok (.bipush (-9), 2) := by decide +kernel
theorem dX6_owed_62 : decode cX6_owed 62 = .ok (.istore_n 3, 1) := by decide +kernel
theorem dX6_owed_63 : decode cX6_owed 63 = .ok (.aload_n 0, 1) := by decide +kernel
theorem dX6_owed_64 : decode cX6_owed 64 = .ok (.iconst 0, 1) := by decide +kernel
theorem dX6_owed_65 : decode cX6_owed 65 = .ok (.invokevirtual 135, 3) := by decide +kernel
theorem dX6_owed_68 : decode cX6_owed 68 = .ok (.iinc 4 1, 3) := by decide +kernel
theorem dX6_owed_71 : decode cX6_owed 71 = .ok (.goto (-41), 3) := by decide +kernel
theorem dX6_owed_74 : decode cX6_owed 74 = .ok (.aload_n 0, 1) := by decide +kernel
theorem dX6_owed_75 : decode cX6_owed 75 = .ok (.invokevirtual 202, 3) := by decide +kernel
theorem dX6_owed_78 : decode cX6_owed 78 = .ok (.iload_n 3, 1) := by decide +kernel
theorem dX6_owed_79 : decode cX6_owed 79 = .ok (.ireturn, 1) := by decide +kernel
theorem dX6_home_0 : decode cX6_home 0 = .ok (.aload_n 0, 1) := by decide +kernel
theorem dX6_home_1 : decode cX6_home 1 = .ok (.iconst 0, 1) := by decide +kernel
theorem dX6_home_2 : decode cX6_home 2 = .ok (.putfield 79, 3) := by decide +kernel
theorem dX6_home_5 : decode cX6_home 5 = .ok (.aload_n 0, 1) := by decide +kernel
theorem dX6_home_6 : decode cX6_home 6 = .ok (.iload_n 1, 1) := by decide +kernel
theorem dX6_home_7 : decode cX6_home 7 = .ok (.invokevirtual 184, 3) := by decide +kernel
theorem dX6_home_10 : decode cX6_home 10 = .ok (.ifCond .ne 9, 3) := by decide +kernel
theorem dX6_home_13 : decode cX6_home 13 = .ok (.aload_n 0, 1) := by decide +kernel
theorem dX6_home_14 : decode cX6_home 14 = .ok (.iconst (-1), 1) := by decide +kernel
theorem dX6_home_15 : decode cX6_home 15 = .ok (.invokevirtual 143, 3) := by decide +kernel
theorem dX6_home_18 : decode cX6_home 18 = .ok (.ireturn, 1) := by decide +kernel
theorem dX6_home_19 : decode cX6_home 19 = .ok (.bipush (-9), 2) := by decide +kernel
theorem dX6_home_21 : decode cX6_home 21 = .ok (.istore_n 2, 1) := by decide +kernel
theorem dX6_home_22 : decode cX6_home 22 = .ok (.aload_n 0, 1) := by decide +kernel
theorem dX6_home_23 : decode cX6_home 23 = .ok (.invokevirtual 196, 3) := by decide +kernel
theorem dX6_home_26 : decode cX6_home 26 = .ok (.iconst 0, 1) := by decide +kernel
theorem dX6_home_27 : decode cX6_home 27 = .ok (.istore_n 3, 1) := by decide +kernel
theorem dX6_home_28 : decode cX6_home 28 = .ok (.iload_n 3, 1) := by decide +kernel
theorem dX6_home_29 : decode cX6_home 29 = .ok (.bipush 60, 2) := by decide +kernel
theorem dX6_home_31 : decode cX6_home 31 = .ok (.if_icmp .gt 40, 3) := by decide +kernel
theorem dX6_home_34 : decode cX6_home 34 = .ok (.iload_n 2, 1) := by decide +kernel
theorem dX6_home_35 : decode cX6_home 35 = .ok (.ifCond .ge 36, 3) := by decide +kernel
theorem dX6_home_38 : decode cX6_home 38 = .ok (.aload_n 0, 1) := by decide +kernel
theorem dX6_home_39 : decode cX6_home 39 = .ok (.getfield 22, 3) := by decide +kernel
theorem dX6_home_42 : decode cX6_home 42 = .ok (.iload_n 1, 1) := by decide +kernel
theorem dX6_home_43 : decode cX6_home 43 = .ok (.iaload, 1) := by decide +kernel
theorem dX6_home_44 : decode cX6_home 44 = .ok (.aload_n 0, 1) := by decide +kernel
theorem dX6_home_45 : decode cX6_home 45 = .ok (.getfield 25, 3) := by decide +kernel
theorem dX6_home_48 : decode cX6_home 48 = .ok (.iload_n 1, 1) := by decide +kernel
theorem dX6_home_49 : decode cX6_home 49 = .ok (.iaload, 1) := by decide +kernel
theorem dX6_home_50 : decode cX6_home 50 = .ok (.if_icmp .ne 7, 3) := by decide +kernel
theorem dX6_home_53 : decode cX6_home 53 = .ok (.iload_n 3, 1) := by decide +kernel
theorem dX6_home_54 : decode cX6_home 54 = .ok (.goto 5, 3) := by decide +kernel
theorem dX6_home_57 : decode cX6_home 57 = .ok (.bipush (-9), 2) := by decide +kernel
theorem dX6_home_59 : decode cX6_home 59 = .ok (.istore_n 2, 1) := by decide +kernel
theorem dX6_home_60 : decode cX6_home 60 = .ok (.aload_n 0, 1) := by decide +kernel
theorem dX6_home_61 : decode cX6_home 61 = .ok (.iconst 0, 1) := by decide +kernel
theorem dX6_home_62 : decode cX6_home 62 = .ok (.invokevirtual 135, 3) := by decide +kernel
theorem dX6_home_65 : decode cX6_home 65 = .ok (.iinc 3 1, 3) := by decide +kernel
theorem dX6_home_68 : decode cX6_home 68 = .ok (.goto (-40), 3) := by decide +kernel
theorem dX6_home_71 : decode cX6_home 71 = .ok (.aload_n 0, 1) := by decide +kernel
theorem dX6_home_72 : decode cX6_home 72 = .ok (.invokevirtual 202, 3) := by decide +kernel
theorem dX6_home_75 : decode cX6_home 75 = .ok (.iload_n 2, 1) := by decide +kernel
theorem dX6_home_76 : decode cX6_home 76 = .ok (.ireturn, 1) := by decide +kernel
theorem dX6_richest_0 : decode cX6_richest 0 = .ok (.aload_n 0, 1) := by decide +kernel
theorem dX6_richest_1 : decode cX6_richest 1 = .ok (.iconst 0, 1) := by decide +kernel
theorem dX6_richest_2 : decode cX6_richest 2 = .ok (.putfield 79, 3) := by decide +kernel
theorem dX6_richest_5 : decode cX6_richest 5 = .ok (.iload_n 1, 1) := by decide +kernel
theorem dX6_richest_6 : decode cX6_richest 6 = .ok (.i2l, 1) := by decide +kernel
theorem dX6_richest_7 : decode cX6_richest 7 = .ok (.lconst 0, 1) := by decide +kernel
theorem dX6_richest_8 : decode cX6_richest 8 = .ok (.lconst 1, 1) := by decide +kernel
theorem dX6_richest_9 : decode cX6_richest 9 = .ok (.invokestatic 85, 3) := by decide +kernel
theorem dX6_richest_12 : decode cX6_richest 12 = .ok (.ifCond .ne 10, 3) := by decide +kernel
theorem dX6_richest_15 : decode cX6_richest 15 = .ok (.aload_n 0, 1) := by decide +kernel
theorem dX6_richest_16 : decode cX6_richest 16 = .ok (.bipush (-2), 2) := by decide +kernel
theorem dX6_richest_18 : decode cX6_richest 18 = .ok (.invokevirtual 143, 3) := by decide +kernel
theorem dX6_richest_21 : decode cX6_richest 21 = .ok (.ireturn, 1) := by decide +kernel
theorem dX6_richest_22 : decode cX6_richest 22 = .ok (.bipush (-9), 2) := by decide +kernel
theorem dX6_richest_24 : decode cX6_richest 24 = .ok (.istore_n 2, 1) := by decide +kernel
theorem dX6_richest_25 : decode cX6_richest 25 = .ok (.iconst 0, 1) := by decide +kernel
theorem dX6_richest_26 : decode cX6_richest 26 = .ok (.istore_n 3, 1) := by decide +kernel
theorem dX6_richest_27 : decode cX6_richest 27 = .ok (.iconst 0, 1) := by decide +kernel
theorem dX6_richest_28 : decode cX6_richest 28 = .ok (.istore 4, 2) := by decide +kernel
theorem dX6_richest_30 : decode cX6_richest 30 = .ok (.iload 4, 2) := by decide +kernel
theorem dX6_richest_32 : decode cX6_richest 32 = .ok (.iload_n 1, 1) := by decide +kernel
theorem dX6_richest_33 : decode cX6_richest 33 = .ok (.ifCond .ne 10, 3) := by decide +kernel
theorem dX6_richest_36 : decode cX6_richest 36 = .ok (.aload_n 0, 1) := by decide +kernel
theorem dX6_richest_37 : decode cX6_richest 37 = .ok (.getfield 89, 3) := by decide +kernel
theorem dX6_richest_40 : decode cX6_richest 40 = .ok (.goto 7, 3) := by decide +kernel
theorem dX6_richest_43 : decode cX6_richest 43 = .ok (.aload_n 0, 1) := by decide +kernel
theorem dX6_richest_44 : decode cX6_richest 44 = .ok (.getfield 92, 3) := by decide +kernel
theorem dX6_richest_47 : decode cX6_richest 47 = .ok (.if_icmp .ge 59, 3) := by decide +kernel
theorem dX6_richest_50 : decode cX6_richest 50 = .ok (.iload_n 1, 1) := by decide +kernel
theorem dX6_richest_51 : decode cX6_richest 51 = .ok (.ifCond .ne 15, 3) := by decide +kernel
theorem dX6_richest_54 : decode cX6_richest 54 = .ok (.aload_n 0, 1) := by decide +kernel
theorem dX6_richest_55 : decode cX6_richest 55 = .ok (.iload 4, 2) := by decide +kernel
theorem dX6_richest_57 : decode cX6_richest 57 = .ok (.invokevirtual 229, 3) := by decide +kernel
theorem dX6_richest_60 : decode cX6_richest 60 = .ok (.invokestatic 119, 3) := by decide +kernel
theorem dX6_richest_63 : decode cX6_richest 63 = .ok (.goto 9, 3) := by decide +kernel
theorem dX6_richest_66 : decode cX6_richest 66 = .ok (.aload_n 0, 1) := by decide +kernel
theorem dX6_richest_67 : decode cX6_richest 67 = .ok (.iload 4, 2) := by decide +kernel
theorem dX6_richest_69 : decode cX6_richest 69 = .ok (.invokevirtual 113, 3) := by decide +kernel
theorem dX6_richest_72 : decode cX6_richest 72 = .ok (.istore 5, 2) := by decide +kernel
theorem dX6_richest_74 : decode cX6_richest 74 = .ok (.iload 5, 2) := by decide +kernel
theorem dX6_richest_76 : decode cX6_richest 76 = .ok (.iload_n 3, 1) := by decide +kernel
theorem dX6_richest_77 : decode cX6_richest 77 = .ok (.if_icmp .le 8, 3) := by decide +kernel
theorem dX6_richest_80 : decode cX6_richest 80 = .ok (.iload 4, 2) := by decide +kernel
theorem dX6_richest_82 : decode cX6_richest 82 = .ok (.goto 4, 3) := by decide +kernel
theorem dX6_richest_85 : decode cX6_richest 85 = .ok (.iload_n 2, 1) := by decide +kernel
theorem dX6_richest_86 : decode cX6_richest 86 = .ok (.istore_n 2, 1) := by decide +kernel
theorem dX6_richest_87 : decode cX6_richest 87 = .ok (.iload 5, 2) := by decide +kernel
theorem dX6_richest_89 : decode cX6_richest 89 = .ok (.iload_n 3, 1) := by decide +kernel
theorem dX6_richest_90 : decode cX6_richest 90 = .ok (.if_icmp .le 8, 3) := by decide +kernel
theorem dX6_richest_93 : decode cX6_richest 93 = .ok (.iload 5, 2) := by decide +kernel
theorem dX6_richest_95 : decode cX6_richest 95 = .ok (.goto 4, 3) := by decide +kernel
theorem dX6_richest_98 : decode cX6_richest 98 = .ok (.iload_n 3, 1) := by decide +kernel
theorem dX6_richest_99 : decode cX6_richest 99 = .ok (.istore_n 3, 1) := by decide +kernel
theorem dX6_richest_100 : decode cX6_richest 100 = .ok (.iinc 4 1, 3) := by decide +kernel
theorem dX6_richest_103 : decode cX6_richest 103 = .ok (.goto (-73), 3) := by decide +kernel
theorem dX6_richest_106 : decode cX6_richest 106 = .ok (.iload_n 2, 1) := by decide +kernel
theorem dX6_richest_107 : decode cX6_richest 107 = .ok (.ireturn, 1) := by decide +kernel
theorem dX6_beside_0 : decode cX6_beside 0 = .ok (.iload_n 1, 1) := by decide +kernel
theorem dX6_beside_1 : decode cX6_beside 1 = .ok (.tableswitch 74 0 2 #[27, 42, 59], 27) := by decide +kernel
theorem dX6_beside_28 : decode cX6_beside 28 = .ok (.iload_n 0, 1) := by decide +kernel
theorem dX6_beside_29 : decode cX6_beside 29 = .ok (.bipush 6, 2) := by decide +kernel
theorem dX6_beside_31 : decode cX6_beside 31 = .ok (.if_icmp .le 10, 3) := by decide +kernel
theorem dX6_beside_34 : decode cX6_beside 34 = .ok (.iload_n 0, 1) := by decide +kernel
theorem dX6_beside_35 : decode cX6_beside 35 = .ok (.bipush 7, 2) := by decide +kernel
theorem dX6_beside_37 : decode cX6_beside 37 = .ok (.isub, 1) := by decide +kernel
theorem dX6_beside_38 : decode cX6_beside 38 = .ok (.goto 4, 3) := by decide +kernel
theorem dX6_beside_41 : decode cX6_beside 41 = .ok (.iconst (-1), 1) := by decide +kernel
theorem dX6_beside_42 : decode cX6_beside 42 = .ok (.ireturn, 1) := by decide +kernel
theorem dX6_beside_43 : decode cX6_beside 43 = .ok (.iload_n 0, 1) := by decide +kernel
theorem dX6_beside_44 : decode cX6_beside 44 = .ok (.bipush 7, 2) := by decide +kernel
theorem dX6_beside_46 : decode cX6_beside 46 = .ok (.irem, 1) := by decide +kernel
theorem dX6_beside_47 : decode cX6_beside 47 = .ok (.bipush 6, 2) := by decide +kernel
theorem dX6_beside_49 : decode cX6_beside 49 = .ok (.if_icmp .ge 9, 3) := by decide +kernel
theorem dX6_beside_52 : decode cX6_beside 52 = .ok (.iload_n 0, 1) := by decide +kernel
theorem dX6_beside_53 : decode cX6_beside 53 = .ok (.iconst 1, 1) := by decide +kernel
theorem dX6_beside_54 : decode cX6_beside 54 = .ok (.iadd, 1) := by decide +kernel
theorem dX6_beside_55 : decode cX6_beside 55 = .ok (.goto 4, 3) := by decide +kernel
theorem dX6_beside_58 : decode cX6_beside 58 = .ok (.iconst (-1), 1) := by decide +kernel
theorem dX6_beside_59 : decode cX6_beside 59 = .ok (.ireturn, 1) := by decide +kernel
theorem dX6_beside_60 : decode cX6_beside 60 = .ok (.iload_n 0, 1) := by decide +kernel
theorem dX6_beside_61 : decode cX6_beside 61 = .ok (.bipush 42, 2) := by decide +kernel
theorem dX6_beside_63 : decode cX6_beside 63 = .ok (.if_icmp .ge 10, 3) := by decide +kernel
theorem dX6_beside_66 : decode cX6_beside 66 = .ok (.iload_n 0, 1) := by decide +kernel
theorem dX6_beside_67 : decode cX6_beside 67 = .ok (.bipush 7, 2) := by decide +kernel
theorem dX6_beside_69 : decode cX6_beside 69 = .ok (.iadd, 1) := by decide +kernel
theorem dX6_beside_70 : decode cX6_beside 70 = .ok (.goto 4, 3) := by decide +kernel
theorem dX6_beside_73 : decode cX6_beside 73 = .ok (.iconst (-1), 1) := by decide +kernel
theorem dX6_beside_74 : decode cX6_beside 74 = .ok (.ireturn, 1) := by decide +kernel
theorem dX6_beside_75 : decode cX6_beside 75 = .ok (.iload_n 0, 1) := by decide +kernel
theorem dX6_beside_76 : decode cX6_beside 76 = .ok (.bipush 7, 2) := by decide +kernel
theorem dX6_beside_78 : decode cX6_beside 78 = .ok (.irem, 1) := by decide +kernel
theorem dX6_beside_79 : decode cX6_beside 79 = .ok (.ifCond .le 9, 3) := by decide +kernel
theorem dX6_beside_82 : decode cX6_beside 82 = .ok (.iload_n 0, 1) := by decide +kernel
theorem dX6_beside_83 : decode cX6_beside 83 = .ok (.iconst 1, 1) := by decide +kernel
theorem dX6_beside_84 : decode cX6_beside 84 = .ok (.isub, 1) := by decide +kernel
theorem dX6_beside_85 : decode cX6_beside 85 = .ok (.goto 4, 3) := by decide +kernel
theorem dX6_beside_88 : decode cX6_beside 88 = .ok (.iconst (-1), 1) := by decide +kernel
theorem dX6_beside_89 : decode cX6_beside 89 = .ok (.ireturn, 1) := by decide +kernel
theorem dX6_layWays_0 : decode cX6_layWays 0 = .ok (.iconst 0, 1) := by decide +kernel
theorem dX6_layWays_1 : decode cX6_layWays 1 = .ok (.istore_n 2, 1) := by decide +kernel
theorem dX6_layWays_2 : decode cX6_layWays 2 = .ok (.iload_n 2, 1) := by decide +kernel
theorem dX6_layWays_3 : decode cX6_layWays 3 = .ok (.sipush 6272, 3) := by decide +kernel
theorem dX6_layWays_6 : decode cX6_layWays 6 = .ok (.if_icmp .ge 16, 3) := by decide +kernel
theorem dX6_layWays_9 : decode cX6_layWays 9 = .ok (.aload_n 0, 1) := by decide +kernel
theorem dX6_layWays_10 : decode cX6_layWays 10 = .ok (.getfield 61, 3) := by decide +kernel
theorem dX6_layWays_13 : decode cX6_layWays 13 = .ok (.iload_n 2, 1) := by decide +kernel
theorem dX6_layWays_14 : decode cX6_layWays 14 = .ok (.iconst (-1), 1) := by decide +kernel
theorem dX6_layWays_15 : decode cX6_layWays 15 = .ok (.iastore, 1) := by decide +kernel
theorem dX6_layWays_16 : decode cX6_layWays 16 = .ok (.iinc 2 1, 3) := by decide +kernel
theorem dX6_layWays_19 : decode cX6_layWays 19 = .ok (.goto (-17), 3) := by decide +kernel
theorem dX6_layWays_22 : decode cX6_layWays 22 = .ok (.aload_n 0, 1) := by decide +kernel
theorem dX6_layWays_23 : decode cX6_layWays 23 = .ok (.iload_n 1, 1) := by decide +kernel
theorem dX6_layWays_24 : decode cX6_layWays 24 = .ok (.invokevirtual 116, 3) := by decide +kernel
theorem dX6_layWays_27 : decode cX6_layWays 27 = .ok (.istore_n 2, 1) := by decide +kernel
theorem dX6_layWays_28 : decode cX6_layWays 28 = .ok (.aload_n 0, 1) := by decide +kernel
theorem dX6_layWays_29 : decode cX6_layWays 29 = .ok (.getfield 61, 3) := by decide +kernel
theorem dX6_layWays_32 : decode cX6_layWays 32 = .ok (.sipush 128, 3) := by decide +kernel
theorem dX6_layWays_35 : decode cX6_layWays 35 = .ok (.aload_n 0, 1) := by decide +kernel
theorem dX6_layWays_36 : decode cX6_layWays 36 = .ok (.getfield 22, 3) := by decide +kernel
theorem dX6_layWays_39 : decode cX6_layWays 39 = .ok (.iload_n 1, 1) := by decide +kernel
theorem dX6_layWays_40 : decode cX6_layWays 40 = .ok (.iaload, 1) := by decide +kernel
theorem dX6_layWays_41 : decode cX6_layWays 41 = .ok (.imul, 1) := by decide +kernel
theorem dX6_layWays_42 : decode cX6_layWays 42 = .ok (.iconst 0, 1) := by decide +kernel
theorem dX6_layWays_43 : decode cX6_layWays 43 = .ok (.iastore, 1) := by decide +kernel
theorem dX6_layWays_44 : decode cX6_layWays 44 = .ok (.aload_n 0, 1) := by decide +kernel
theorem dX6_layWays_45 : decode cX6_layWays 45 = .ok (.getfield 64, 3) := by decide +kernel
theorem dX6_layWays_48 : decode cX6_layWays 48 = .ok (.iconst 0, 1) := by decide +kernel
theorem dX6_layWays_49 : decode cX6_layWays 49 = .ok (.sipush 128, 3) := by decide +kernel
theorem dX6_layWays_52 : decode cX6_layWays 52 = .ok (.aload_n 0, 1) := by decide +kernel
theorem dX6_layWays_53 : decode cX6_layWays 53 = .ok (.getfield 22, 3) := by decide +kernel
theorem dX6_layWays_56 : decode cX6_layWays 56 = .ok (.iload_n 1, 1) := by decide +kernel
theorem dX6_layWays_57 : decode cX6_layWays 57 = .ok (.iaload, 1) := by decide +kernel
theorem dX6_layWays_58 : decode cX6_layWays 58 = .ok (.imul, 1) := by decide +kernel
theorem dX6_layWays_59 : decode cX6_layWays 59 = .ok (.iastore, 1) := by decide +kernel
theorem dX6_layWays_60 : decode cX6_layWays 60 = .ok (.aload_n 0, 1) := by decide +kernel
theorem dX6_layWays_61 : decode cX6_layWays 61 = .ok (.iconst 1, 1) := by decide +kernel
theorem dX6_layWays_62 : decode cX6_layWays 62 = .ok (.putfield 256, 3) := by decide +kernel
theorem dX6_layWays_65 : decode cX6_layWays 65 = .ok (.iconst 0, 1) := by decide +kernel
theorem dX6_layWays_66 : decode cX6_layWays 66 = .ok (.istore_n 3, 1) := by decide +kernel
theorem dX6_layWays_67 : decode cX6_layWays 67 = .ok (.iload_n 3, 1) := by decide +kernel
theorem dX6_layWays_68 : decode cX6_layWays 68 = .ok (.aload_n 0, 1) := by decide +kernel
theorem dX6_layWays_69 : decode cX6_layWays 69 = .ok (.getfield 256, 3) := by decide +kernel
theorem dX6_layWays_72 : decode cX6_layWays 72 = .ok (.if_icmp .ge 151, 3) := by decide +kernel
theorem dX6_layWays_75 : decode cX6_layWays 75 = .ok (.iconst 0, 1) := by decide +kernel
theorem dX6_layWays_76 : decode cX6_layWays 76 = .ok (.istore 4, 2) := by decide +kernel
theorem dX6_layWays_78 : decode cX6_layWays 78 = .ok (.iload 4, 2) := by decide +kernel
theorem dX6_layWays_80 : decode cX6_layWays 80 = .ok (.iconst 4, 1) := by decide +kernel
theorem dX6_layWays_81 : decode cX6_layWays 81 = .ok (.if_icmp .ge 136, 3) := by decide +kernel
theorem dX6_layWays_84 : decode cX6_layWays 84 = .ok (.aload_n 0, 1) := by decide +kernel
theorem dX6_layWays_85 : decode cX6_layWays 85 = .ok (.getfield 64, 3) := by decide +kernel
theorem dX6_layWays_88 : decode cX6_layWays 88 = .ok (.iload_n 3, 1) := by decide +kernel
theorem dX6_layWays_89 : decode cX6_layWays 89 = .ok (.iaload, 1) := by decide +kernel
theorem dX6_layWays_90 : decode cX6_layWays 90 = .ok (.sipush 128, 3) := by decide +kernel
theorem dX6_layWays_93 : decode cX6_layWays 93 = .ok (.idiv, 1) := by decide +kernel
theorem dX6_layWays_94 : decode cX6_layWays 94 = .ok (.iload 4, 2) := by decide +kernel
theorem dX6_layWays_96 : decode cX6_layWays 96 = .ok (.invokestatic 259, 3) := by decide +kernel
theorem dX6_layWays_99 : decode cX6_layWays 99 = .ok (.istore 5, 2) := by decide +kernel
theorem dX6_layWays_101 : decode cX6_layWays 101 = .ok (.iload 5, 2) := by decide +kernel
theorem dX6_layWays_103 : decode cX6_layWays 103 = .ok (.ifCond .ge 7, 3) := by decide +kernel
theorem dX6_layWays_106 : decode cX6_layWays 106 = .ok (.iconst 0, 1) := by decide +kernel
theorem dX6_layWays_107 : decode cX6_layWays 107 = .ok (.goto 25, 3) := by decide +kernel
theorem dX6_layWays_110 : decode cX6_layWays 110 = .ok (.aload_n 0, 1) := by decide +kernel
theorem dX6_layWays_111 : decode cX6_layWays 111 = .ok (.getfield 64, 3) := by decide +kernel
theorem dX6_layWays_114 : decode cX6_layWays 114 = .ok (.iload_n 3, 1) := by decide +kernel
theorem dX6_layWays_115 : decode cX6_layWays 115 = .ok (.iaload, 1) := by decide +kernel
theorem dX6_layWays_116 : decode cX6_layWays 116 = .ok (.sipush 128, 3) := by decide +kernel
theorem dX6_layWays_119 : decode cX6_layWays 119 = .ok (.irem, 1) := by decide +kernel
theorem dX6_layWays_120 : decode cX6_layWays 120 = .ok (.aload_n 0, 1) := by decide +kernel
theorem dX6_layWays_121 : decode cX6_layWays 121 = .ok (.iload_n 1, 1) := by decide +kernel
theorem dX6_layWays_122 : decode cX6_layWays 122 = .ok (.iload 5, 2) := by decide +kernel
theorem dX6_layWays_124 : decode cX6_layWays 124 = .ok (.invokevirtual 128, 3) := by decide +kernel
theorem dX6_layWays_127 : decode cX6_layWays 127 = .ok (.iload_n 2, 1) := by decide +kernel
theorem dX6_layWays_128 : decode cX6_layWays 128 = .ok (.iconst (-1), 1) := by decide +kernel
theorem dX6_layWays_129 : decode cX6_layWays 129 = .ok (.ixor, 1) := by decide +kernel
theorem dX6_layWays_130 : decode cX6_layWays 130 = .ok (.iand, 1) := by decide +kernel
theorem dX6_layWays_131 : decode cX6_layWays 131 = .ok (.ior, 1) := by decide +kernel
theorem dX6_layWays_132 : decode cX6_layWays 132 = .ok (.istore 6, 2) := by decide +kernel
theorem dX6_layWays_134 : decode cX6_layWays 134 = .ok (.iload 5, 2) := by decide +kernel
theorem dX6_layWays_136 : decode cX6_layWays 136 = .ok (.ifCond .lt 75, 3) := by decide +kernel
theorem dX6_layWays_139 : decode cX6_layWays 139 = .ok (.aload_n 0, 1) := by decide +kernel
theorem dX6_layWays_140 : decode cX6_layWays 140 = .ok (.getfield 61, 3) := by decide +kernel
theorem dX6_layWays_143 : decode cX6_layWays 143 = .ok (.sipush 128, 3) := by decide +kernel
theorem dX6_layWays_146 : decode cX6_layWays 146 = .ok (.iload 5, 2) := by decide +kernel
theorem dX6_layWays_148 : decode cX6_layWays 148 = .ok (.imul, 1) := by decide +kernel
theorem dX6_layWays_149 : decode cX6_layWays 149 = .ok (.iload 6, 2) := by decide +kernel
theorem dX6_layWays_151 : decode cX6_layWays 151 = .ok (.iadd, 1) := by decide +kernel
theorem dX6_layWays_152 : decode cX6_layWays 152 = .ok (.iaload, 1) := by decide +kernel
theorem dX6_layWays_153 : decode cX6_layWays 153 = .ok (.ifCond .ge 58, 3) := by decide +kernel
theorem dX6_layWays_156 : decode cX6_layWays 156 = .ok (.aload_n 0, 1) := by decide +kernel
theorem dX6_layWays_157 : decode cX6_layWays 157 = .ok (.getfield 61, 3) := by decide +kernel
theorem dX6_layWays_160 : decode cX6_layWays 160 = .ok (.sipush 128, 3) := by decide +kernel
theorem dX6_layWays_163 : decode cX6_layWays 163 = .ok (.iload 5, 2) := by decide +kernel
theorem dX6_layWays_165 : decode cX6_layWays 165 = .ok (.imul, 1) := by decide +kernel
theorem dX6_layWays_166 : decode cX6_layWays 166 = .ok (.iload 6, 2) := by decide +kernel
theorem dX6_layWays_168 : decode cX6_layWays 168 = .ok (.iadd, 1) := by decide +kernel
theorem dX6_layWays_169 : decode cX6_layWays 169 = .ok (.aload_n 0, 1) := by decide +kernel
theorem dX6_layWays_170 : decode cX6_layWays 170 = .ok (.getfield 61, 3) := by decide +kernel
theorem dX6_layWays_173 : decode cX6_layWays 173 = .ok (.aload_n 0, 1) := by decide +kernel
theorem dX6_layWays_174 : decode cX6_layWays 174 = .ok (.getfield 64, 3) := by decide +kernel
theorem dX6_layWays_177 : decode cX6_layWays 177 = .ok (.iload_n 3, 1) := by decide +kernel
theorem dX6_layWays_178 : decode cX6_layWays 178 = .ok (.iaload, 1) := by decide +kernel
theorem dX6_layWays_179 : decode cX6_layWays 179 = .ok (.iaload, 1) := by decide +kernel
theorem dX6_layWays_180 : decode cX6_layWays 180 = .ok (.iconst 1, 1) := by decide +kernel
theorem dX6_layWays_181 : decode cX6_layWays 181 = .ok (.iadd, 1) := by decide +kernel
theorem dX6_layWays_182 : decode cX6_layWays 182 = .ok (.iastore, 1) := by decide +kernel
theorem dX6_layWays_183 : decode cX6_layWays 183 = .ok (.aload_n 0, 1) := by decide +kernel
theorem dX6_layWays_184 : decode cX6_layWays 184 = .ok (.getfield 64, 3) := by decide +kernel
theorem dX6_layWays_187 : decode cX6_layWays 187 = .ok (.aload_n 0, 1) := by decide +kernel
theorem dX6_layWays_188 : decode cX6_layWays 188 = .ok (.getfield 256, 3) := by decide +kernel
theorem dX6_layWays_191 : decode cX6_layWays 191 = .ok (.sipush 128, 3) := by decide +kernel
theorem dX6_layWays_194 : decode cX6_layWays 194 = .ok (.iload 5, 2) := by decide +kernel
theorem dX6_layWays_196 : decode cX6_layWays 196 = .ok (.imul, 1) := by decide +kernel
theorem dX6_layWays_197 : decode cX6_layWays 197 = .ok (.iload 6, 2) := by decide +kernel
theorem dX6_layWays_199 : decode cX6_layWays 199 = .ok (.iadd, 1) := by decide +kernel
theorem dX6_layWays_200 : decode cX6_layWays 200 = .ok (.iastore, 1) := by decide +kernel
theorem dX6_layWays_201 : decode cX6_layWays 201 = .ok (.aload_n 0, 1) := by decide +kernel
theorem dX6_layWays_202 : decode cX6_layWays 202 = .ok (.dup, 1) := by decide +kernel
theorem dX6_layWays_203 : decode cX6_layWays 203 = .ok (.getfield 256, 3) := by decide +kernel
theorem dX6_layWays_206 : decode cX6_layWays 206 = .ok (.iconst 1, 1) := by decide +kernel
theorem dX6_layWays_207 : decode cX6_layWays 207 = .ok (.iadd, 1) := by decide +kernel
theorem dX6_layWays_208 : decode cX6_layWays 208 = .ok (.putfield 256, 3) := by decide +kernel
theorem dX6_layWays_211 : decode cX6_layWays 211 = .ok (.iinc 4 1, 3) := by decide +kernel
theorem dX6_layWays_214 : decode cX6_layWays 214 = .ok (.goto (-136), 3) := by decide +kernel
theorem dX6_layWays_217 : decode cX6_layWays 217 = .ok (.iinc 3 1, 3) := by decide +kernel
theorem dX6_layWays_220 : decode cX6_layWays 220 = .ok (.goto (-153), 3) := by decide +kernel
theorem dX6_layWays_223 : decode cX6_layWays 223 = .ok (.return_, 1) := by decide +kernel
theorem dX6_way_0 : decode cX6_way 0 = .ok (.aload_n 0, 1) := by decide +kernel
theorem dX6_way_1 : decode cX6_way 1 = .ok (.iconst 0, 1) := by decide +kernel
theorem dX6_way_2 : decode cX6_way 2 = .ok (.putfield 79, 3) := by decide +kernel
theorem dX6_way_5 : decode cX6_way 5 = .ok (.aload_n 0, 1) := by decide +kernel
theorem dX6_way_6 : decode cX6_way 6 = .ok (.iload_n 1, 1) := by decide +kernel
theorem dX6_way_7 : decode cX6_way 7 = .ok (.invokevirtual 184, 3) := by decide +kernel
theorem dX6_way_10 : decode cX6_way 10 = .ok (.ifCond .eq 14, 3) := by decide +kernel
theorem dX6_way_13 : decode cX6_way 13 = .ok (.iload_n 2, 1) := by decide +kernel
theorem dX6_way_14 : decode cX6_way 14 = .ok (.invokestatic 139, 3) := by decide +kernel
theorem dX6_way_17 : decode cX6_way 17 = .ok (.ifCond .eq 7, 3) := by decide +kernel
theorem dX6_way_20 : decode cX6_way 20 = .ok (.iconst 0, 1) := by decide +kernel
theorem dX6_way_21 : decode cX6_way 21 = .ok (.goto 4, 3) := by decide +kernel
theorem dX6_way_24 : decode cX6_way 24 = .ok (.iconst (-1), 1) := by decide +kernel
theorem dX6_way_25 : decode cX6_way 25 = .ok (.iload_n 3, 1) := by decide +kernel
theorem dX6_way_26 : decode cX6_way 26 = .ok (.iconst 1, 1) := by decide +kernel
theorem dX6_way_27 : decode cX6_way 27 = .ok (.invokestatic 250, 3) := by decide +kernel
theorem dX6_way_30 : decode cX6_way 30 = .ok (.istore 4, 2) := by decide +kernel
theorem dX6_way_32 : decode cX6_way 32 = .ok (.iload 4, 2) := by decide +kernel
theorem dX6_way_34 : decode cX6_way 34 = .ok (.ifCond .ge 10, 3) := by decide +kernel
theorem dX6_way_37 : decode cX6_way 37 = .ok (.aload_n 0, 1) := by decide +kernel
theorem dX6_way_38 : decode cX6_way 38 = .ok (.iload 4, 2) := by decide +kernel
theorem dX6_way_40 : decode cX6_way 40 = .ok (.invokevirtual 143, 3) := by decide +kernel
theorem dX6_way_43 : decode cX6_way 43 = .ok (.ireturn, 1) := by decide +kernel
theorem dX6_way_44 : decode cX6_way 44 = .ok (.aload_n 0, 1) := by decide +kernel
theorem dX6_way_45 : decode cX6_way 45 = .ok (.iload_n 1, 1) := by decide +kernel
theorem dX6_way_46 : decode cX6_way 46 = .ok (.invokevirtual 262, 3) := by decide +kernel
theorem dX6_way_49 : decode cX6_way 49 = .ok (.aload_n 0, 1) := by decide +kernel
theorem dX6_way_50 : decode cX6_way 50 = .ok (.getfield 22, 3) := by decide +kernel
theorem dX6_way_53 : decode cX6_way 53 = .ok (.iload_n 1, 1) := by decide +kernel
theorem dX6_way_54 : decode cX6_way 54 = .ok (.iaload, 1) := by decide +kernel
theorem dX6_way_55 : decode cX6_way 55 = .ok (.iload_n 2, 1) := by decide +kernel
theorem dX6_way_56 : decode cX6_way 56 = .ok (.invokestatic 103, 3) := by decide +kernel
theorem dX6_way_59 : decode cX6_way 59 = .ok (.bipush 12, 2) := by decide +kernel
theorem dX6_way_61 : decode cX6_way 61 = .ok (.iadd, 1) := by decide +kernel
theorem dX6_way_62 : decode cX6_way 62 = .ok (.istore 5, 2) := by decide +kernel
theorem dX6_way_64 : decode cX6_way 64 = .ok (.bipush 8, 2) := by decide +kernel
theorem dX6_way_66 : decode cX6_way 66 = .ok (.istore 6, 2) := by decide +kernel
theorem dX6_way_68 : decode cX6_way 68 = .ok (.iconst 0, 1) := by decide +kernel
theorem dX6_way_69 : decode cX6_way 69 = .ok (.istore 7, 2) := by decide +kernel
theorem dX6_way_71 : decode cX6_way 71 = .ok (.iconst 0, 1) := by decide +kernel
theorem dX6_way_72 : decode cX6_way 72 = .ok (.istore 8, 2) := by decide +kernel
theorem dX6_way_74 : decode cX6_way 74 = .ok (.iload 8, 2) := by decide +kernel
theorem dX6_way_76 : decode cX6_way 76 = .ok (.sipush 128, 3) := by decide +kernel
theorem dX6_way_79 : decode cX6_way 79 = .ok (.if_icmp .ge 72, 3) := by decide +kernel
theorem dX6_way_82 : decode cX6_way 82 = .ok (.aload_n 0, 1) := by decide +kernel
theorem dX6_way_83 : decode cX6_way 83 = .ok (.getfield 61, 3) := by decide +kernel
theorem dX6_way_86 : decode cX6_way 86 = .ok (.sipush 128, 3) := by decide +kernel
theorem dX6_way_89 : decode cX6_way 89 = .ok (.iload_n 2, 1) := by decide +kernel
theorem dX6_way_90 : decode cX6_way 90 = .ok (.imul, 1) := by decide +kernel
theorem dX6_way_91 : decode cX6_way 91 = .ok (.iload 8, 2) := by decide +kernel
theorem dX6_way_93 : decode cX6_way 93 = .ok (.iadd, 1) := by decide +kernel
theorem dX6_way_94 : decode cX6_way 94 = .ok (.iaload, 1) := by decide +kernel
theorem dX6_way_95 : decode cX6_way 95 = .ok (.istore 9, 2) := by decide +kernel
theorem dX6_way_97 : decode cX6_way 97 = .ok (.iload 8, 2) := by decide +kernel
theorem dX6_way_99 : decode cX6_way 99 = .ok (.invokestatic 119, 3) := by decide +kernel
theorem dX6_way_102 : decode cX6_way 102 = .ok (.istore 10, 2) := by decide +kernel
theorem dX6_way_104 : decode cX6_way 104 = .ok (.iload 9, 2) := by decide +kernel
theorem dX6_way_106 : decode cX6_way 106 = .ok (.ifCond .lt 39, 3) := by decide +kernel
theorem dX6_way_109 : decode cX6_way 109 = .ok (.iload 9, 2) := by decide +kernel
theorem dX6_way_111 : decode cX6_way 111 = .ok (.iload 5, 2) := by decide +kernel
theorem dX6_way_113 : decode cX6_way 113 = .ok (.if_icmp .gt 32, 3) := by decide +kernel
theorem dX6_way_116 : decode cX6_way 116 = .ok (.iload 10, 2) := by decide +kernel
theorem dX6_way_118 : decode cX6_way 118 = .ok (.iload 6, 2) := by decide +kernel
theorem dX6_way_120 : decode cX6_way 120 = .ok (.if_icmp .lt 17, 3) := by decide +kernel
theorem dX6_way_123 : decode cX6_way 123 = .ok (.iload 10, 2) := by decide +kernel
theorem dX6_way_125 : decode cX6_way 125 = .ok (.iload 6, 2) := by decide +kernel
theorem dX6_way_127 : decode cX6_way 127 = .ok (.if_icmp .ne 18, 3) := by decide +kernel
theorem dX6_way_130 : decode cX6_way 130 = .ok (.iload 9, 2) := by decide +kernel
theorem dX6_way_132 : decode cX6_way 132 = .ok (.iload 7, 2) := by decide +kernel
theorem dX6_way_134 : decode cX6_way 134 = .ok (.if_icmp .ge 11, 3) := by decide +kernel
theorem dX6_way_137 : decode cX6_way 137 = .ok (.iload 10, 2) := by decide +kernel
theorem dX6_way_139 : decode cX6_way 139 = .ok (.istore 6, 2) := by decide +kernel
theorem dX6_way_141 : decode cX6_way 141 = .ok (.iload 9, 2) := by decide +kernel
theorem dX6_way_143 : decode cX6_way 143 = .ok (.istore 7, 2) := by decide +kernel
theorem dX6_way_145 : decode cX6_way 145 = .ok (.iinc 8 1, 3) := by decide +kernel
theorem dX6_way_148 : decode cX6_way 148 = .ok (.goto (-74), 3) := by decide +kernel
theorem dX6_way_151 : decode cX6_way 151 = .ok (.iload_n 3, 1) := by decide +kernel
theorem dX6_way_152 : decode cX6_way 152 = .ok (.ifCond .ne 8, 3) := by decide +kernel
theorem dX6_way_155 : decode cX6_way 155 = .ok (.iload 6, 2) := by decide +kernel
theorem dX6_way_157 : decode cX6_way 157 = .ok (.goto 5, 3) := by decide +kernel
theorem dX6_way_160 : decode cX6_way 160 = .ok (.iload 7, 2) := by decide +kernel
theorem dX6_way_162 : decode cX6_way 162 = .ok (.ireturn, 1) := by decide +kernel
theorem dX6_layPaying_0 : decode cX6_layPaying 0 = .ok (.iconst 0, 1) := by decide +kernel
theorem dX6_layPaying_1 : decode cX6_layPaying 1 = .ok (.istore_n 1, 1) := by decide +kernel
theorem dX6_layPaying_2 : decode cX6_layPaying 2 = .ok (.iload_n 1, 1) := by decide +kernel
theorem dX6_layPaying_3 : decode cX6_layPaying 3 = .ok (.sipush 128, 3) := by decide +kernel
theorem dX6_layPaying_6 : decode cX6_layPaying 6 = .ok (.if_icmp .ge 125, 3) := by decide +kernel
theorem dX6_layPaying_9 : decode cX6_layPaying 9 = .ok (.iconst 0, 1) := by decide +kernel
theorem dX6_layPaying_10 : decode cX6_layPaying 10 = .ok (.istore_n 2, 1) := by decide +kernel
theorem dX6_layPaying_11 : decode cX6_layPaying 11 = .ok (.iload_n 2, 1) := by decide +kernel
theorem dX6_layPaying_12 : decode cX6_layPaying 12 = .ok (.bipush 8, 2) := by decide +kernel
theorem dX6_layPaying_14 : decode cX6_layPaying 14 = .ok (.if_icmp .ge 111, 3) := by decide +kernel
theorem dX6_layPaying_17 : decode cX6_layPaying 17 = .ok (.iconst (-1), 1) := by decide +kernel
theorem dX6_layPaying_18 : decode cX6_layPaying 18 = .ok (.istore_n 3, 1) := by decide +kernel
theorem dX6_layPaying_19 : decode cX6_layPaying 19 = .ok (.iconst 0, 1) := by decide +kernel
theorem dX6_layPaying_20 : decode cX6_layPaying 20 = .ok (.istore 4, 2) := by decide +kernel
theorem dX6_layPaying_22 : decode cX6_layPaying 22 = .ok (.iload 4, 2) := by decide +kernel
theorem dX6_layPaying_24 : decode cX6_layPaying 24 = .ok (.aload_n 0, 1) := by decide +kernel
theorem dX6_layPaying_25 : decode cX6_layPaying 25 = .ok (.getfield 89, 3) := by decide +kernel
theorem dX6_layPaying_28 : decode cX6_layPaying 28 = .ok (.if_icmp .ge 71, 3) := by decide +kernel
theorem dX6_layPaying_31 : decode cX6_layPaying 31 = .ok (.iload_n 1, 1) := by decide +kernel
theorem dX6_layPaying_32 : decode cX6_layPaying 32 = .ok (.iload 4, 2) := by decide +kernel
theorem dX6_layPaying_34 : decode cX6_layPaying 34 = .ok (.invokestatic 131, 3) := by decide +kernel
theorem dX6_layPaying_37 : decode cX6_layPaying 37 = .ok (.ifCond .eq 56, 3) := by decide +kernel
theorem dX6_layPaying_40 : decode cX6_layPaying 40 = .ok (.aload_n 0, 1) := by decide +kernel
theorem dX6_layPaying_41 : decode cX6_layPaying 41 = .ok (.getfield 16, 3) := by decide +kernel
theorem dX6_layPaying_44 : decode cX6_layPaying 44 = .ok (.iload_n 2, 1) := by decide +kernel
theorem dX6_layPaying_45 : decode cX6_layPaying 45 = .ok (.iaload, 1) := by decide +kernel
theorem dX6_layPaying_46 : decode cX6_layPaying 46 = .ok (.aload_n 0, 1) := by decide +kernel
theorem dX6_layPaying_47 : decode cX6_layPaying 47 = .ok (.getfield 16, 3) := by decide +kernel
theorem dX6_layPaying_50 : decode cX6_layPaying 50 = .ok (.iload 4, 2) := by decide +kernel
theorem dX6_layPaying_52 : decode cX6_layPaying 52 = .ok (.iaload, 1) := by decide +kernel
theorem dX6_layPaying_53 : decode cX6_layPaying 53 = .ok (.invokestatic 103, 3) := by decide +kernel
theorem dX6_layPaying_56 : decode cX6_layPaying 56 = .ok (.aload_n 0, 1) := by decide +kernel
theorem dX6_layPaying_57 : decode cX6_layPaying 57 = .ok (.getfield 67, 3) := by decide +kernel
theorem dX6_layPaying_60 : decode cX6_layPaying 60 = .ok (.bipush 8, 2) := by decide +kernel
theorem dX6_layPaying_62 : decode cX6_layPaying 62 = .ok (.iload_n 1, 1) := by decide +kernel
theorem dX6_layPaying_63 : decode cX6_layPaying 63 = .ok (.iconst 1, 1) := by decide +kernel
theorem dX6_layPaying_64 : decode cX6_layPaying 64 = .ok (.iload 4, 2) := by decide +kernel
theorem dX6_layPaying_66 : decode cX6_layPaying 66 = .ok (.ishl, 1) := by decide +kernel
theorem dX6_layPaying_67 : decode cX6_layPaying 67 = .ok (.isub, 1) := by decide +kernel
theorem dX6_layPaying_68 : decode cX6_layPaying 68 = .ok (.imul, 1) := by decide +kernel
theorem dX6_layPaying_69 : decode cX6_layPaying 69 = .ok (.iload 4, 2) := by decide +kernel
theorem dX6_layPaying_71 : decode cX6_layPaying 71 = .ok (.iadd, 1) := by decide +kernel
theorem dX6_layPaying_72 : decode cX6_layPaying 72 = .ok (.iaload, 1) := by decide +kernel
theorem dX6_layPaying_73 : decode cX6_layPaying 73 = .ok (.iadd, 1) := by decide +kernel
theorem dX6_layPaying_74 : decode cX6_layPaying 74 = .ok (.istore 5, 2) := by decide +kernel
theorem dX6_layPaying_76 : decode cX6_layPaying 76 = .ok (.iload_n 3, 1) := by decide +kernel
theorem dX6_layPaying_77 : decode cX6_layPaying 77 = .ok (.ifCond .lt 9, 3) := by decide +kernel
theorem dX6_layPaying_80 : decode cX6_layPaying 80 = .ok (.iload 5, 2) := by decide +kernel
theorem dX6_layPaying_82 : decode cX6_layPaying 82 = .ok (.iload_n 3, 1) := by decide +kernel
theorem dX6_layPaying_83 : decode cX6_layPaying 83 = .ok (.if_icmp .ge 8, 3) := by decide +kernel
theorem dX6_layPaying_86 : decode cX6_layPaying 86 = .ok (.iload 5, 2) := by decide +kernel
theorem dX6_layPaying_88 : decode cX6_layPaying 88 = .ok (.goto 4, 3) := by decide +kernel
theorem dX6_layPaying_91 : decode cX6_layPaying 91 = .ok (.iload_n 3, 1) := by decide +kernel
theorem dX6_layPaying_92 : decode cX6_layPaying 92 = .ok (.istore_n 3, 1) := by decide +kernel
theorem dX6_layPaying_93 : decode cX6_layPaying 93 = .ok (.iinc 4 1, 3) := by decide +kernel
theorem dX6_layPaying_96 : decode cX6_layPaying 96 = .ok (.goto (-74), 3) := by decide +kernel
theorem dX6_layPaying_99 : decode cX6_layPaying 99 = .ok (.aload_n 0, 1) := by decide +kernel
theorem dX6_layPaying_100 : decode cX6_layPaying 100 = .ok (.getfield 67, 3) := by decide +kernel
theorem dX6_layPaying_103 : decode cX6_layPaying 103 = .ok (.bipush 8, 2) := by decide +kernel
theorem dX6_layPaying_105 : decode cX6_layPaying 105 = .ok (.iload_n 1, 1) := by decide +kernel
theorem dX6_layPaying_106 : decode cX6_layPaying 106 = .ok (.imul, 1) := by decide +kernel
theorem dX6_layPaying_107 : decode cX6_layPaying 107 = .ok (.iload_n 2, 1) := by decide +kernel
theorem dX6_layPaying_108 : decode cX6_layPaying 108 = .ok (.iadd, 1) := by decide +kernel
theorem dX6_layPaying_109 : decode cX6_layPaying 109 = .ok (.iload_n 3, 1) := by decide +kernel
theorem dX6_layPaying_110 : decode cX6_layPaying 110 = .ok (.ifCond .ge 7, 3) := by decide +kernel
theorem dX6_layPaying_113 : decode cX6_layPaying 113 = .ok (.iconst 0, 1) := by decide +kernel
theorem dX6_layPaying_114 : decode cX6_layPaying 114 = .ok (.goto 4, 3) := by decide +kernel
theorem dX6_layPaying_117 : decode cX6_layPaying 117 = .ok (.iload_n 3, 1) := by decide +kernel
theorem dX6_layPaying_118 : decode cX6_layPaying 118 = .ok (.iastore, 1) := by decide +kernel
theorem dX6_layPaying_119 : decode cX6_layPaying 119 = .ok (.iinc 2 1, 3) := by decide +kernel
theorem dX6_layPaying_122 : decode cX6_layPaying 122 = .ok (.goto (-111), 3) := by decide +kernel
theorem dX6_layPaying_125 : decode cX6_layPaying 125 = .ok (.iinc 1 1, 3) := by decide +kernel
theorem dX6_layPaying_128 : decode cX6_layPaying 128 = .ok (.goto (-126), 3) := by decide +kernel
theorem dX6_layPaying_131 : decode cX6_layPaying 131 = .ok (.return_, 1) := by decide +kernel
theorem dX6_nextOn_0 : decode cX6_nextOn 0 = .ok (.iconst 0, 1) := by decide +kernel
theorem dX6_nextOn_1 : decode cX6_nextOn 1 = .ok (.istore_n 3, 1) := by decide +kernel
theorem dX6_nextOn_2 : decode cX6_nextOn 2 = .ok (.iload_n 1, 1) := by decide +kernel
theorem dX6_nextOn_3 : decode cX6_nextOn 3 = .ok (.iload_n 3, 1) := by decide +kernel
theorem dX6_nextOn_4 : decode cX6_nextOn 4 = .ok (.invokestatic 131, 3) := by decide +kernel
theorem dX6_nextOn_7 : decode cX6_nextOn 7 = .ok (.ifCond .eq 48, 3) := by decide +kernel
theorem dX6_nextOn_10 : decode cX6_nextOn 10 = .ok (.aload_n 0, 1) := by decide +kernel
theorem dX6_nextOn_11 : decode cX6_nextOn 11 = .ok (.getfield 16, 3) := by decide +kernel
theorem dX6_nextOn_14 : decode cX6_nextOn 14 = .ok (.iload_n 2, 1) := by decide +kernel
theorem dX6_nextOn_15 : decode cX6_nextOn 15 = .ok (.iaload, 1) := by decide +kernel
theorem dX6_nextOn_16 : decode cX6_nextOn 16 = .ok (.aload_n 0, 1) := by decide +kernel
theorem dX6_nextOn_17 : decode cX6_nextOn 17 = .ok (.getfield 16, 3) := by decide +kernel
theorem dX6_nextOn_20 : decode cX6_nextOn 20 = .ok (.iload_n 3, 1) := by decide +kernel
theorem dX6_nextOn_21 : decode cX6_nextOn 21 = .ok (.iaload, 1) := by decide +kernel
theorem dX6_nextOn_22 : decode cX6_nextOn 22 = .ok (.invokestatic 103, 3) := by decide +kernel
theorem dX6_nextOn_25 : decode cX6_nextOn 25 = .ok (.aload_n 0, 1) := by decide +kernel
theorem dX6_nextOn_26 : decode cX6_nextOn 26 = .ok (.getfield 67, 3) := by decide +kernel
theorem dX6_nextOn_29 : decode cX6_nextOn 29 = .ok (.bipush 8, 2) := by decide +kernel
theorem dX6_nextOn_31 : decode cX6_nextOn 31 = .ok (.iload_n 1, 1) := by decide +kernel
theorem dX6_nextOn_32 : decode cX6_nextOn 32 = .ok (.iconst 1, 1) := by decide +kernel
theorem dX6_nextOn_33 : decode cX6_nextOn 33 = .ok (.iload_n 3, 1) := by decide +kernel
theorem dX6_nextOn_34 : decode cX6_nextOn 34 = .ok (.ishl, 1) := by decide +kernel
theorem dX6_nextOn_35 : decode cX6_nextOn 35 = .ok (.isub, 1) := by decide +kernel
theorem dX6_nextOn_36 : decode cX6_nextOn 36 = .ok (.imul, 1) := by decide +kernel
theorem dX6_nextOn_37 : decode cX6_nextOn 37 = .ok (.iload_n 3, 1) := by decide +kernel
theorem dX6_nextOn_38 : decode cX6_nextOn 38 = .ok (.iadd, 1) := by decide +kernel
theorem dX6_nextOn_39 : decode cX6_nextOn 39 = .ok (.iaload, 1) := by decide +kernel
theorem dX6_nextOn_40 : decode cX6_nextOn 40 = .ok (.iadd, 1) := by decide +kernel
theorem dX6_nextOn_41 : decode cX6_nextOn 41 = .ok (.aload_n 0, 1) := by decide +kernel
theorem dX6_nextOn_42 : decode cX6_nextOn 42 = .ok (.getfield 67, 3) := by decide +kernel
theorem dX6_nextOn_45 : decode cX6_nextOn 45 = .ok (.bipush 8, 2) := by decide +kernel
theorem dX6_nextOn_47 : decode cX6_nextOn 47 = .ok (.iload_n 1, 1) := by decide +kernel
theorem dX6_nextOn_48 : decode cX6_nextOn 48 = .ok (.imul, 1) := by decide +kernel
theorem dX6_nextOn_49 : decode cX6_nextOn 49 = .ok (.iload_n 2, 1) := by decide +kernel
theorem dX6_nextOn_50 : decode cX6_nextOn 50 = .ok (.iadd, 1) := by decide +kernel
theorem dX6_nextOn_51 : decode cX6_nextOn 51 = .ok (.iaload, 1) := by decide +kernel
theorem dX6_nextOn_52 : decode cX6_nextOn 52 = .ok (.if_icmp .eq 9, 3) := by decide +kernel
theorem dX6_nextOn_55 : decode cX6_nextOn 55 = .ok (.iinc 3 1, 3) := by decide +kernel
theorem dX6_nextOn_58 : decode cX6_nextOn 58 = .ok (.goto (-56), 3) := by decide +kernel
theorem dX6_nextOn_61 : decode cX6_nextOn 61 = .ok (.iload_n 3, 1) := by decide +kernel
theorem dX6_nextOn_62 : decode cX6_nextOn 62 = .ok (.ireturn, 1) := by decide +kernel
theorem dX6_payAll_0 : decode cX6_payAll 0 = .ok (.aload_n 0, 1) := by decide +kernel
theorem dX6_payAll_1 : decode cX6_payAll 1 = .ok (.iconst 0, 1) := by decide +kernel
theorem dX6_payAll_2 : decode cX6_payAll 2 = .ok (.putfield 79, 3) := by decide +kernel
theorem dX6_payAll_5 : decode cX6_payAll 5 = .ok (.aload_n 0, 1) := by decide +kernel
theorem dX6_payAll_6 : decode cX6_payAll 6 = .ok (.iload_n 1, 1) := by decide +kernel
theorem dX6_payAll_7 : decode cX6_payAll 7 = .ok (.invokevirtual 184, 3) := by decide +kernel
theorem dX6_payAll_10 : decode cX6_payAll 10 = .ok (.ifCond .ne 7, 3) := by decide +kernel
theorem dX6_payAll_13 : decode cX6_payAll 13 = .ok (.iconst (-1), 1) := by decide +kernel
theorem dX6_payAll_14 : decode cX6_payAll 14 = .ok (.goto 14, 3) := by decide +kernel
theorem dX6_payAll_17 : decode cX6_payAll 17 = .ok (.iload_n 2, 1) := by decide +kernel
theorem dX6_payAll_18 : decode cX6_payAll 18 = .ok (.iconst (-1), 1) := by decide +kernel
theorem dX6_payAll_19 : decode cX6_payAll 19 = .ok (.if_icmp .ge 8, 3) := by decide +kernel
theorem dX6_payAll_22 : decode cX6_payAll 22 = .ok (.bipush (-4), 2) := by decide +kernel
theorem dX6_payAll_24 : decode cX6_payAll 24 = .ok (.goto 4, 3) := by decide +kernel
theorem dX6_payAll_27 : decode cX6_payAll 27 = .ok (.iconst 0, 1) := by decide +kernel
theorem dX6_payAll_28 : decode cX6_payAll 28 = .ok (.istore_n 3, 1) := by decide +kernel
theorem dX6_payAll_29 : decode cX6_payAll 29 = .ok (.iload_n 3, 1) := by decide +kernel
theorem dX6_payAll_30 : decode cX6_payAll 30 = .ok (.ifCond .ge 9, 3) := by decide +kernel
theorem dX6_payAll_33 : decode cX6_payAll 33 = .ok (.aload_n 0, 1) := by decide +kernel
theorem dX6_payAll_34 : decode cX6_payAll 34 = .ok (.iload_n 3, 1) := by decide +kernel
theorem dX6_payAll_35 : decode cX6_payAll 35 = .ok (.invokevirtual 143, 3) := by decide +kernel
theorem dX6_payAll_38 : decode cX6_payAll 38 = .ok (.ireturn, 1) := by decide +kernel
theorem dX6_payAll_39 : decode cX6_payAll 39 = .ok (.aload_n 0, 1) := by decide +kernel
theorem dX6_payAll_40 : decode cX6_payAll 40 = .ok (.getfield 16, 3) := by decide +kernel
theorem dX6_payAll_43 : decode cX6_payAll 43 = .ok (.bipush 7, 2) := by decide +kernel
theorem dX6_payAll_45 : decode cX6_payAll 45 = .ok (.aload_n 0, 1) := by decide +kernel
theorem dX6_payAll_46 : decode cX6_payAll 46 = .ok (.getfield 22, 3) := by decide +kernel
theorem dX6_payAll_49 : decode cX6_payAll 49 = .ok (.iload_n 1, 1) := by decide +kernel
theorem dX6_payAll_50 : decode cX6_payAll 50 = .ok (.iaload, 1) := by decide +kernel
theorem dX6_payAll_51 : decode cX6_payAll 51 = .ok (.iastore, 1) := by decide +kernel
theorem dX6_payAll_52 : decode cX6_payAll 52 = .ok (.aload_n 0, 1) := by decide +kernel
theorem dX6_payAll_53 : decode cX6_payAll 53 = .ok (.invokevirtual 265, 3) := by decide +kernel
theorem dX6_payAll_56 : decode cX6_payAll 56 = .ok (.aload_n 0, 1) := by decide +kernel
theorem dX6_payAll_57 : decode cX6_payAll 57 = .ok (.iload_n 1, 1) := by decide +kernel
theorem dX6_payAll_58 : decode cX6_payAll 58 = .ok (.invokevirtual 116, 3) := by decide +kernel
theorem dX6_payAll_61 : decode cX6_payAll 61 = .ok (.istore 4, 2) := by decide +kernel
theorem dX6_payAll_63 : decode cX6_payAll 63 = .ok (.iload_n 2, 1) := by decide +kernel
theorem dX6_payAll_64 : decode cX6_payAll 64 = .ok (.ifCond .ge 25, 3) := by decide +kernel
theorem dX6_payAll_67 : decode cX6_payAll 67 = .ok (.iconst 3, 1) := by decide +kernel
theorem dX6_payAll_68 : decode cX6_payAll 68 = .ok (.aload_n 0, 1) := by decide +kernel
theorem dX6_payAll_69 : decode cX6_payAll 69 = .ok (.getfield 67, 3) := by decide +kernel
theorem dX6_payAll_72 : decode cX6_payAll 72 = .ok (.bipush 8, 2) := by decide +kernel
theorem dX6_payAll_74 : decode cX6_payAll 74 = .ok (.iload 4, 2) := by decide +kernel
theorem dX6_payAll_76 : decode cX6_payAll 76 = .ok (.imul, 1) := by decide +kernel
theorem dX6_payAll_77 : decode cX6_payAll 77 = .ok (.bipush 7, 2) := by decide +kernel
theorem dX6_payAll_79 : decode cX6_payAll 79 = .ok (.iadd, 1) := by decide +kernel
theorem dX6_payAll_80 : decode cX6_payAll 80 = .ok (.iaload, 1) := by decide +kernel
theorem dX6_payAll_81 : decode cX6_payAll 81 = .ok (.imul, 1) := by decide +kernel
theorem dX6_payAll_82 : decode cX6_payAll 82 = .ok (.aload_n 0, 1) := by decide +kernel
theorem dX6_payAll_83 : decode cX6_payAll 83 = .ok (.iload_n 1, 1) := by decide +kernel
theorem dX6_payAll_84 : decode cX6_payAll 84 = .ok (.invokevirtual 113, 3) := by decide +kernel
theorem dX6_payAll_87 : decode cX6_payAll 87 = .ok (.iadd, 1) := by decide +kernel
theorem dX6_payAll_88 : decode cX6_payAll 88 = .ok (.ireturn, 1) := by decide +kernel
theorem dX6_payAll_89 : decode cX6_payAll 89 = .ok (.iload_n 2, 1) := by decide +kernel
theorem dX6_payAll_90 : decode cX6_payAll 90 = .ok (.iload 4, 2) := by decide +kernel
theorem dX6_payAll_92 : decode cX6_payAll 92 = .ok (.invokestatic 119, 3) := by decide +kernel
theorem dX6_payAll_95 : decode cX6_payAll 95 = .ok (.if_icmp .lt 6, 3) := by decide +kernel
theorem dX6_payAll_98 : decode cX6_payAll 98 = .ok (.bipush (-9), 2) := by decide +kernel
theorem dX6_payAll_100 : decode cX6_payAll 100 = .ok (.ireturn, 1) := by decide +kernel
theorem dX6_payAll_101 : decode cX6_payAll 101 = .ok (.bipush 7, 2) := by decide +kernel
theorem dX6_payAll_103 : decode cX6_payAll 103 = .ok (.istore 5, 2) := by decide +kernel
theorem dX6_payAll_105 : decode cX6_payAll 105 = .ok (.iconst 0, 1) := by decide +kernel
theorem dX6_payAll_106 : decode cX6_payAll 106 = .ok (.istore 6, 2) := by decide +kernel
theorem dX6_payAll_108 : decode cX6_payAll 108 = .ok (.iload 6, 2) := by decide +kernel
theorem dX6_payAll_110 : decode cX6_payAll 110 = .ok (.iload_n 2, 1) := by decide +kernel
theorem dX6_payAll_111 : decode cX6_payAll 111 = .ok (.if_icmp .gt 28, 3) := by decide +kernel
theorem dX6_payAll_114 : decode cX6_payAll 114 = .ok (.aload_n 0, 1) := by decide +kernel
theorem dX6_payAll_115 : decode cX6_payAll 115 = .ok (.iload 4, 2) := by decide +kernel
theorem dX6_payAll_117 : decode cX6_payAll 117 = .ok (.iload 5, 2) := by decide +kernel
theorem dX6_payAll_119 : decode cX6_payAll 119 = .ok (.invokevirtual 268, 3) := by decide +kernel
theorem dX6_payAll_122 : decode cX6_payAll 122 = .ok (.istore 5, 2) := by decide +kernel
theorem dX6_payAll_124 : decode cX6_payAll 124 = .ok (.iload 4, 2) := by decide +kernel
theorem dX6_payAll_126 : decode cX6_payAll 126 = .ok (.iconst 1, 1) := by decide +kernel
theorem dX6_payAll_127 : decode cX6_payAll 127 = .ok (.iload 5, 2) := by decide +kernel
theorem dX6_payAll_129 : decode cX6_payAll 129 = .ok (.ishl, 1) := by decide +kernel
theorem dX6_payAll_130 : decode cX6_payAll 130 = .ok (.isub, 1) := by decide +kernel
theorem dX6_payAll_131 : decode cX6_payAll 131 = .ok (.istore 4, 2) := by decide +kernel
theorem dX6_payAll_133 : decode cX6_payAll 133 = .ok (.iinc 6 1, 3) := by decide +kernel
theorem dX6_payAll_136 : decode cX6_payAll 136 = .ok (.goto (-28), 3) := by decide +kernel
theorem dX6_payAll_139 : decode cX6_payAll 139 = .ok (.iload 5, 2) := by decide +kernel
theorem dX6_payAll_141 : decode cX6_payAll 141 = .ok (.ireturn, 1) := by decide +kernel
theorem dX6_clear_0 : decode cX6_clear 0 = .ok (.aload_n 0, 1) := by decide +kernel
theorem dX6_clear_1 : decode cX6_clear 1 = .ok (.iconst 0, 1) := by decide +kernel
theorem dX6_clear_2 : decode cX6_clear 2 = .ok (.putfield 79, 3) := by decide +kernel
theorem dX6_clear_5 : decode cX6_clear 5 = .ok (.aload_n 0, 1) := by decide +kernel
theorem dX6_clear_6 : decode cX6_clear 6 = .ok (.iload_n 1, 1) := by decide +kernel
theorem dX6_clear_7 : decode cX6_clear 7 = .ok (.invokevirtual 181, 3) := by decide +kernel
theorem dX6_clear_10 : decode cX6_clear 10 = .ok (.ifCond .eq 16, 3) := by decide +kernel
theorem dX6_clear_13 : decode cX6_clear 13 = .ok (.aload_n 0, 1) := by decide +kernel
theorem dX6_clear_14 : decode cX6_clear 14 = .ok (.iload_n 2, 1) := by decide +kernel
theorem dX6_clear_15 : decode cX6_clear 15 = .ok (.invokevirtual 181, 3) := by decide +kernel
theorem dX6_clear_18 : decode cX6_clear 18 = .ok (.ifCond .eq 8, 3) := by decide +kernel
theorem dX6_clear_21 : decode cX6_clear 21 = .ok (.iload_n 1, 1) := by decide +kernel
theorem dX6_clear_22 : decode cX6_clear 22 = .ok (.iload_n 2, 1) := by decide +kernel
theorem dX6_clear_23 : decode cX6_clear 23 = .ok (.if_icmp .ne 13, 3) := by decide +kernel
theorem dX6_clear_26 : decode cX6_clear 26 = .ok (.ldc_w 271, 3) := by decide +kernel
theorem dX6_clear_29 : decode cX6_clear 29 = .ok (.aload_n 0, 1) := by decide +kernel
theorem dX6_clear_30 : decode cX6_clear 30 = .ok (.iconst (-1), 1) := by decide +kernel
theorem dX6_clear_31 : decode cX6_clear 31 = .ok (.invokevirtual 143, 3) := by decide +kernel
theorem dX6_clear_34 : decode cX6_clear 34 = .ok (.isub, 1) := by decide +kernel
theorem dX6_clear_35 : decode cX6_clear 35 = .ok (.ireturn, 1) := by decide +kernel
theorem dX6_clear_36 : decode cX6_clear 36 = .ok (.aload_n 0, 1) := by decide +kernel
theorem dX6_clear_37 : decode cX6_clear 37 = .ok (.iload_n 1, 1) := by decide +kernel
theorem dX6_clear_38 : decode cX6_clear 38 = .ok (.invokevirtual 229, 3) := by decide +kernel
theorem dX6_clear_41 : decode cX6_clear 41 = .ok (.invokestatic 119, 3) := by decide +kernel
theorem dX6_clear_44 : decode cX6_clear 44 = .ok (.aload_n 0, 1) := by decide +kernel
theorem dX6_clear_45 : decode cX6_clear 45 = .ok (.iload_n 2, 1) := by decide +kernel
theorem dX6_clear_46 : decode cX6_clear 46 = .ok (.invokevirtual 229, 3) := by decide +kernel
theorem dX6_clear_49 : decode cX6_clear 49 = .ok (.invokestatic 119, 3) := by decide +kernel
theorem dX6_clear_52 : decode cX6_clear 52 = .ok (.isub, 1) := by decide +kernel
theorem dX6_clear_53 : decode cX6_clear 53 = .ok (.ireturn, 1) := by decide +kernel
theorem dX6_burn_0 : decode cX6_burn 0 = .ok (.aload_n 0, 1) := by decide +kernel
theorem dX6_burn_1 : decode cX6_burn 1 = .ok (.iconst 0, 1) := by decide +kernel
theorem dX6_burn_2 : decode cX6_burn 2 = .ok (.putfield 79, 3) := by decide +kernel
theorem dX6_burn_5 : decode cX6_burn 5 = .ok (.iload_n 1, 1) := by decide +kernel
theorem dX6_burn_6 : decode cX6_burn 6 = .ok (.iconst 1, 1) := by decide +kernel
theorem dX6_burn_7 : decode cX6_burn 7 = .ok (.bipush 30, 2) := by decide +kernel
theorem dX6_burn_9 : decode cX6_burn 9 = .ok (.invokestatic 240, 3) := by decide +kernel
theorem dX6_burn_12 : decode cX6_burn 12 = .ok (.iload_n 2, 1) := by decide +kernel
theorem dX6_burn_13 : decode cX6_burn 13 = .ok (.iconst 1, 1) := by decide +kernel
theorem dX6_burn_14 : decode cX6_burn 14 = .ok (.invokestatic 250, 3) := by decide +kernel
theorem dX6_burn_17 : decode cX6_burn 17 = .ok (.istore_n 3, 1) := by decide +kernel
theorem dX6_burn_18 : decode cX6_burn 18 = .ok (.iload_n 3, 1) := by decide +kernel
theorem dX6_burn_19 : decode cX6_burn 19 = .ok (.ifCond .ge 9, 3) := by decide +kernel
theorem dX6_burn_22 : decode cX6_burn 22 = .ok (.aload_n 0, 1) := by decide +kernel
theorem dX6_burn_23 : decode cX6_burn 23 = .ok (.iload_n 3, 1) := by decide +kernel
theorem dX6_burn_24 : decode cX6_burn 24 = .ok (.invokevirtual 143, 3) := by decide +kernel
theorem dX6_burn_27 : decode cX6_burn 27 = .ok (.ireturn, 1) := by decide +kernel
theorem dX6_burn_28 : decode cX6_burn 28 = .ok (.iconst 0, 1) := by decide +kernel
theorem dX6_burn_29 : decode cX6_burn 29 = .ok (.istore 4, 2) := by decide +kernel
theorem dX6_burn_31 : decode cX6_burn 31 = .ok (.iload 4, 2) := by decide +kernel
theorem dX6_burn_33 : decode cX6_burn 33 = .ok (.bipush 49, 2) := by decide +kernel
theorem dX6_burn_35 : decode cX6_burn 35 = .ok (.if_icmp .ge 17, 3) := by decide +kernel
theorem dX6_burn_38 : decode cX6_burn 38 = .ok (.aload_n 0, 1) := by decide +kernel
theorem dX6_burn_39 : decode cX6_burn 39 = .ok (.getfield 70, 3) := by decide +kernel
theorem dX6_burn_42 : decode cX6_burn 42 = .ok (.iload 4, 2) := by decide +kernel
theorem dX6_burn_44 : decode cX6_burn 44 = .ok (.iconst 0, 1) := by decide +kernel
theorem dX6_burn_45 : decode cX6_burn 45 = .ok (.iastore, 1) := by decide +kernel
theorem dX6_burn_46 : decode cX6_burn 46 = .ok (.iinc 4 1, 3) := by decide +kernel
theorem dX6_burn_49 : decode cX6_burn 49 = .ok (.goto (-18), 3) := by decide +kernel
theorem dX6_burn_52 : decode cX6_burn 52 = .ok (.aload_n 0, 1) := by decide +kernel
theorem dX6_burn_53 : decode cX6_burn 53 = .ok (.invokevirtual 196, 3) := by decide +kernel
theorem dX6_burn_56 : decode cX6_burn 56 = .ok (.iconst 0, 1) := by decide +kernel
theorem dX6_burn_57 : decode cX6_burn 57 = .ok (.istore 4, 2) := by decide +kernel
theorem dX6_burn_59 : decode cX6_burn 59 = .ok (.iload 4, 2) := by decide +kernel
theorem dX6_burn_61 : decode cX6_burn 61 = .ok (.iload_n 1, 1) := by decide +kernel
theorem dX6_burn_62 : decode cX6_burn 62 = .ok (.if_icmp .ge 98, 3) := by decide +kernel
theorem dX6_burn_65 : decode cX6_burn 65 = .ok (.aload_n 0, 1) := by decide +kernel
theorem dX6_burn_66 : decode cX6_burn 66 = .ok (.iconst 0, 1) := by decide +kernel
theorem dX6_burn_67 : decode cX6_burn 67 = .ok (.invokevirtual 135, 3) := by decide +kernel
theorem dX6_burn_70 : decode cX6_burn 70 = .ok (.iconst 0, 1) := by decide +kernel
theorem dX6_burn_71 : decode cX6_burn 71 = .ok (.istore 5, 2) := by decide +kernel
theorem dX6_burn_73 : decode cX6_burn 73 = .ok (.iload 5, 2) := by decide +kernel
theorem dX6_burn_75 : decode cX6_burn 75 = .ok (.aload_n 0, 1) := by decide +kernel
theorem dX6_burn_76 : decode cX6_burn 76 = .ok (.getfield 92, 3) := by decide +kernel
theorem dX6_burn_79 : decode cX6_burn 79 = .ok (.if_icmp .ge 75, 3) := by decide +kernel
theorem dX6_burn_82 : decode cX6_burn 82 = .ok (.iconst 0, 1) := by decide +kernel
theorem dX6_burn_83 : decode cX6_burn 83 = .ok (.istore 6, 2) := by decide +kernel
theorem dX6_burn_85 : decode cX6_burn 85 = .ok (.iload 6, 2) := by decide +kernel
theorem dX6_burn_87 : decode cX6_burn 87 = .ok (.bipush 49, 2) := by decide +kernel
theorem dX6_burn_89 : decode cX6_burn 89 = .ok (.if_icmp .ge 59, 3) := by decide +kernel
theorem dX6_burn_92 : decode cX6_burn 92 = .ok (.aload_n 0, 1) := by decide +kernel
theorem dX6_burn_93 : decode cX6_burn 93 = .ok (.getfield 28, 3) := by decide +kernel
theorem dX6_burn_96 : decode cX6_burn 96 = .ok (.iload 5, 2) := by decide +kernel
theorem dX6_burn_98 : decode cX6_burn 98 = .ok (.iaload, 1) := by decide +kernel
theorem dX6_burn_99 : decode cX6_burn 99 = .ok (.ifCond .le 49, 3) := by decide +kernel
theorem dX6_burn_102 : decode cX6_burn 102 = .ok (.aload_n 0, 1) := by decide +kernel
theorem dX6_burn_103 : decode cX6_burn 103 = .ok (.getfield 70, 3) := by decide +kernel
theorem dX6_burn_106 : decode cX6_burn 106 = .ok (.iload 6, 2) := by decide +kernel
theorem dX6_burn_108 : decode cX6_burn 108 = .ok (.dup2, 1) := by decide +kernel
theorem dX6_burn_109 : decode cX6_burn 109 = .ok (.iaload, 1) := by decide +kernel
theorem dX6_burn_110 : decode cX6_burn 110 = .ok (.aload_n 0, 1) := by decide +kernel
theorem dX6_burn_111 : decode cX6_burn 111 = .ok (.getfield 22, 3) := by decide +kernel
theorem dX6_burn_114 : decode cX6_burn 114 = .ok (.iload 5, 2) := by decide +kernel
theorem dX6_burn_116 : decode cX6_burn 116 = .ok (.iaload, 1) := by decide +kernel
theorem dX6_burn_117 : decode cX6_burn 117 = .ok (.iload 6, 2) := by decide +kernel
theorem dX6_burn_119 : decode cX6_burn 119 = .ok (.invokestatic 103, 3) := by decide +kernel
theorem dX6_burn_122 : decode cX6_burn 122 = .ok (.aload_n 0, 1) := by decide +kernel
theorem dX6_burn_123 : decode cX6_burn 123 = .ok (.getfield 28, 3) := by decide +kernel
theorem dX6_burn_126 : decode cX6_burn 126 = .ok (.iload 5, 2) := by decide +kernel
theorem dX6_burn_128 : decode cX6_burn 128 = .ok (.iaload, 1) := by decide +kernel
theorem dX6_burn_129 : decode cX6_burn 129 = .ok (.if_icmp .gt 10, 3) := by decide +kernel
theorem dX6_burn_132 : decode cX6_burn 132 = .ok (.iconst 1, 1) := by decide +kernel
theorem dX6_burn_133 : decode cX6_burn 133 = .ok (.iload 5, 2) := by decide +kernel
theorem dX6_burn_135 : decode cX6_burn 135 = .ok (.ishl, 1) := by decide +kernel
theorem dX6_burn_136 : decode cX6_burn 136 = .ok (.goto 4, 3) := by decide +kernel
theorem dX6_burn_139 : decode cX6_burn 139 = .ok (.iconst 0, 1) := by decide +kernel
theorem dX6_burn_140 : decode cX6_burn 140 = .ok (.ior, 1) := by decide +kernel
theorem dX6_burn_141 : decode cX6_burn 141 = .ok (.iastore, 1) := by decide +kernel
theorem dX6_burn_142 : decode cX6_burn 142 = .ok (.iinc 6 1, 3) := by decide +kernel
theorem dX6_burn_145 : decode cX6_burn 145 = .ok (.goto (-60), 3) := by decide +kernel
theorem dX6_burn_148 : decode cX6_burn 148 = .ok (.iinc 5 1, 3) := by decide +kernel
theorem dX6_burn_151 : decode cX6_burn 151 = .ok (.goto (-78), 3) := by decide +kernel
theorem dX6_burn_154 : decode cX6_burn 154 = .ok (.iinc 4 1, 3) := by decide +kernel
theorem dX6_burn_157 : decode cX6_burn 157 = .ok (.goto (-98), 3) := by decide +kernel
theorem dX6_burn_160 : decode cX6_burn 160 = .ok (.aload_n 0, 1) := by decide +kernel
theorem dX6_burn_161 : decode cX6_burn 161 = .ok (.invokevirtual 202, 3) := by decide +kernel
theorem dX6_burn_164 : decode cX6_burn 164 = .ok (.iconst 0, 1) := by decide +kernel
theorem dX6_burn_165 : decode cX6_burn 165 = .ok (.istore 4, 2) := by decide +kernel
theorem dX6_burn_167 : decode cX6_burn 167 = .ok (.iconst 1, 1) := by decide +kernel
theorem dX6_burn_168 : decode cX6_burn 168 = .ok (.istore 5, 2) := by decide +kernel
theorem dX6_burn_170 : decode cX6_burn 170 = .ok (.iload 5, 2) := by decide +kernel
theorem dX6_burn_172 : decode cX6_burn 172 = .ok (.bipush 49, 2) := by decide +kernel
theorem dX6_burn_174 : decode cX6_burn 174 = .ok (.if_icmp .ge 41, 3) := by decide +kernel
theorem dX6_burn_177 : decode cX6_burn 177 = .ok (.aload_n 0, 1) := by decide +kernel
theorem dX6_burn_178 : decode cX6_burn 178 = .ok (.getfield 70, 3) := by decide +kernel
theorem dX6_burn_181 : decode cX6_burn 181 = .ok (.iload 5, 2) := by decide +kernel
theorem dX6_burn_183 : decode cX6_burn 183 = .ok (.iaload, 1) := by decide +kernel
theorem dX6_burn_184 : decode cX6_burn 184 = .ok (.invokestatic 119, 3) := by decide +kernel
theorem dX6_burn_187 : decode cX6_burn 187 = .ok (.aload_n 0, 1) := by decide +kernel
theorem dX6_burn_188 : decode cX6_burn 188 = .ok (.getfield 70, 3) := by decide +kernel
theorem dX6_burn_191 : decode cX6_burn 191 = .ok (.iload 4, 2) := by decide +kernel
theorem dX6_burn_193 : decode cX6_burn 193 = .ok (.iaload, 1) := by decide +kernel
theorem dX6_burn_194 : decode cX6_burn 194 = .ok (.invokestatic 119, 3) := by decide +kernel
theorem dX6_burn_197 : decode cX6_burn 197 = .ok (.if_icmp .le 8, 3) := by decide +kernel
theorem dX6_burn_200 : decode cX6_burn 200 = .ok (.iload 5, 2) := by decide +kernel
theorem dX6_burn_202 : decode cX6_burn 202 = .ok (.goto 5, 3) := by decide +kernel
theorem dX6_burn_205 : decode cX6_burn 205 = .ok (.iload 4, 2) := by decide +kernel
theorem dX6_burn_207 : decode cX6_burn 207 = .ok (.istore 4, 2) := by decide +kernel
theorem dX6_burn_209 : decode cX6_burn 209 = .ok (.iinc 5 1, 3) := by decide +kernel
theorem dX6_burn_212 : decode cX6_burn 212 = .ok (.goto (-42), 3) := by decide +kernel
theorem dX6_burn_215 : decode cX6_burn 215 = .ok (.iload_n 2, 1) := by decide +kernel
theorem dX6_burn_216 : decode cX6_burn 216 = .ok (.ifCond .ne 8, 3) := by decide +kernel
theorem dX6_burn_219 : decode cX6_burn 219 = .ok (.iload 4, 2) := by decide +kernel
theorem dX6_burn_221 : decode cX6_burn 221 = .ok (.goto 13, 3) := by decide +kernel
theorem dX6_burn_224 : decode cX6_burn 224 = .ok (.aload_n 0, 1) := by decide +kernel
theorem dX6_burn_225 : decode cX6_burn 225 = .ok (.getfield 70, 3) := by decide +kernel
theorem dX6_burn_228 : decode cX6_burn 228 = .ok (.iload 4, 2) := by decide +kernel
theorem dX6_burn_230 : decode cX6_burn 230 = .ok (.iaload, 1) := by decide +kernel
theorem dX6_burn_231 : decode cX6_burn 231 = .ok (.invokestatic 119, 3) := by decide +kernel
theorem dX6_burn_234 : decode cX6_burn 234 = .ok (.ireturn, 1) := by decide +kernel
theorem dX6_shut_0 : decode cX6_shut 0 = .ok (.aload_n 0, 1) := by decide +kernel
theorem dX6_shut_1 : decode cX6_shut 1 = .ok (.iconst 0, 1) := by decide +kernel
theorem dX6_shut_2 : decode cX6_shut 2 = .ok (.putfield 79, 3) := by decide +kernel
theorem dX6_shut_5 : decode cX6_shut 5 = .ok (.iload_n 1, 1) := by decide +kernel
theorem dX6_shut_6 : decode cX6_shut 6 = .ok (.iconst 0, 1) := by decide +kernel
theorem dX6_shut_7 : decode cX6_shut 7 = .ok (.bipush 60, 2) := by decide +kernel
theorem dX6_shut_9 : decode cX6_shut 9 = .ok (.invokestatic 240, 3) := by decide +kernel
theorem dX6_shut_12 : decode cX6_shut 12 = .ok (.istore_n 2, 1) := by decide +kernel
theorem dX6_shut_13 : decode cX6_shut 13 = .ok (.iload_n 2, 1) := by decide +kernel
theorem dX6_shut_14 : decode cX6_shut 14 = .ok (.ifCond .ge 9, 3) := by decide +kernel
theorem dX6_shut_17 : decode cX6_shut 17 = .ok (.aload_n 0, 1) := by decide +kernel
theorem dX6_shut_18 : decode cX6_shut 18 = .ok (.iload_n 2, 1) := by decide +kernel
theorem dX6_shut_19 : decode cX6_shut 19 = .ok (.invokevirtual 143, 3) := by decide +kernel
theorem dX6_shut_22 : decode cX6_shut 22 = .ok (.ireturn, 1) := by decide +kernel
theorem dX6_shut_23 : decode cX6_shut 23 = .ok (.bipush (-9), 2) := by decide +kernel
theorem dX6_shut_25 : decode cX6_shut 25 = .ok (.istore_n 3, 1) := by decide +kernel
theorem dX6_shut_26 : decode cX6_shut 26 = .ok (.aload_n 0, 1) := by decide +kernel
theorem dX6_shut_27 : decode cX6_shut 27 = .ok (.invokevirtual 196, 3) := by decide +kernel
theorem dX6_shut_30 : decode cX6_shut 30 = .ok (.aload_n 0, 1) := by decide +kernel
theorem dX6_shut_31 : decode cX6_shut 31 = .ok (.iload_n 1, 1) := by decide +kernel
theorem dX6_shut_32 : decode cX6_shut 32 = .ok (.invokevirtual 189, 3) := by decide +kernel
theorem dX6_shut_35 : decode cX6_shut 35 = .ok (.aload_n 0, 1) := by decide +kernel
theorem dX6_shut_36 : decode cX6_shut 36 = .ok (.invokevirtual 253, 3) := by decide +kernel
theorem dX6_shut_39 : decode cX6_shut 39 = .ok (.istore 4, 2) := by decide +kernel
theorem dX6_shut_41 : decode cX6_shut 41 = .ok (.aload_n 0, 1) := by decide +kernel
theorem dX6_shut_42 : decode cX6_shut 42 = .ok (.invokevirtual 202, 3) := by decide +kernel
theorem dX6_shut_45 : decode cX6_shut 45 = .ok (.iconst 0, 1) := by decide +kernel
theorem dX6_shut_46 : decode cX6_shut 46 = .ok (.istore 5, 2) := by decide +kernel
theorem dX6_shut_48 : decode cX6_shut 48 = .ok (.iload 5, 2) := by decide +kernel
theorem dX6_shut_50 : decode cX6_shut 50 = .ok (.aload_n 0, 1) := by decide +kernel
theorem dX6_shut_51 : decode cX6_shut 51 = .ok (.getfield 89, 3) := by decide +kernel
theorem dX6_shut_54 : decode cX6_shut 54 = .ok (.if_icmp .ge 62, 3) := by decide +kernel
theorem dX6_shut_57 : decode cX6_shut 57 = .ok (.aload_n 0, 1) := by decide +kernel
theorem dX6_shut_58 : decode cX6_shut 58 = .ok (.getfield 19, 3) := by decide +kernel
theorem dX6_shut_61 : decode cX6_shut 61 = .ok (.iload 5, 2) := by decide +kernel
theorem dX6_shut_63 : decode cX6_shut 63 = .ok (.iconst 0, 1) := by decide +kernel
theorem dX6_shut_64 : decode cX6_shut 64 = .ok (.iastore, 1) := by decide +kernel
theorem dX6_shut_65 : decode cX6_shut 65 = .ok (.aload_n 0, 1) := by decide +kernel
theorem dX6_shut_66 : decode cX6_shut 66 = .ok (.iload_n 1, 1) := by decide +kernel
theorem dX6_shut_67 : decode cX6_shut 67 = .ok (.invokevirtual 189, 3) := by decide +kernel
theorem dX6_shut_70 : decode cX6_shut 70 = .ok (.aload_n 0, 1) := by decide +kernel
theorem dX6_shut_71 : decode cX6_shut 71 = .ok (.invokevirtual 253, 3) := by decide +kernel
theorem dX6_shut_74 : decode cX6_shut 74 = .ok (.istore 6, 2) := by decide +kernel
theorem dX6_shut_76 : decode cX6_shut 76 = .ok (.aload_n 0, 1) := by decide +kernel
theorem dX6_shut_77 : decode cX6_shut 77 = .ok (.invokevirtual 202, 3) := by decide +kernel
theorem dX6_shut_80 : decode cX6_shut 80 = .ok (.iload 6, 2) := by decide +kernel
theorem dX6_shut_82 : decode cX6_shut 82 = .ok (.iload 4, 2) := by decide +kernel
theorem dX6_shut_84 : decode cX6_shut 84 = .ok (.if_icmp .ge 8, 3) := by decide +kernel
theorem dX6_shut_87 : decode cX6_shut 87 = .ok (.iload 5, 2) := by decide +kernel
theorem dX6_shut_89 : decode cX6_shut 89 = .ok (.goto 4, 3) := by decide +kernel
theorem dX6_shut_92 : decode cX6_shut 92 = .ok (.iload_n 3, 1) := by decide +kernel
theorem dX6_shut_93 : decode cX6_shut 93 = .ok (.istore_n 3, 1) := by decide +kernel
theorem dX6_shut_94 : decode cX6_shut 94 = .ok (.iload 6, 2) := by decide +kernel
theorem dX6_shut_96 : decode cX6_shut 96 = .ok (.iload 4, 2) := by decide +kernel
theorem dX6_shut_98 : decode cX6_shut 98 = .ok (.if_icmp .ge 8, 3) := by decide +kernel
theorem dX6_shut_101 : decode cX6_shut 101 = .ok (.iload 6, 2) := by decide +kernel
theorem dX6_shut_103 : decode cX6_shut 103 = .ok (.goto 5, 3) := by decide +kernel
theorem dX6_shut_106 : decode cX6_shut 106 = .ok (.iload 4, 2) := by decide +kernel
theorem dX6_shut_108 : decode cX6_shut 108 = .ok (.istore 4, 2) := by decide +kernel
theorem dX6_shut_110 : decode cX6_shut 110 = .ok (.iinc 5 1, 3) := by decide +kernel
theorem dX6_shut_113 : decode cX6_shut 113 = .ok (.goto (-65), 3) := by decide +kernel
theorem dX6_shut_116 : decode cX6_shut 116 = .ok (.iload_n 3, 1) := by decide +kernel
theorem dX6_shut_117 : decode cX6_shut 117 = .ok (.ireturn, 1) := by decide +kernel
theorem dX6_heavyPrices_0 : decode cX6_heavyPrices 0 = .ok (.iconst 0, 1) := by decide +kernel
theorem dX6_heavyPrices_1 : decode cX6_heavyPrices 1 = .ok (.istore_n 1, 1) := by decide +kernel
theorem dX6_heavyPrices_2 : decode cX6_heavyPrices 2 = .ok (.iconst 0, 1) := by decide +kernel
theorem dX6_heavyPrices_3 : decode cX6_heavyPrices 3 = .ok (.istore_n 2, 1) := by decide +kernel
theorem dX6_heavyPrices_4 : decode cX6_heavyPrices 4 = .ok (.iload_n 2, 1) := by decide +kernel
theorem dX6_heavyPrices_5 : decode cX6_heavyPrices 5 = .ok (.aload_n 0, 1) := by decide +kernel
theorem dX6_heavyPrices_6 : decode cX6_heavyPrices 6 = .ok (.getfield 92, 3) := by decide +kernel
theorem dX6_heavyPrices_9 : decode cX6_heavyPrices 9 = .ok (.if_icmp .ge 31, 3) := by decide +kernel
theorem dX6_heavyPrices_12 : decode cX6_heavyPrices 12 = .ok (.aload_n 0, 1) := by decide +kernel
theorem dX6_heavyPrices_13 : decode cX6_heavyPrices 13 = .ok (.iload_n 2, 1) := by decide +kernel
theorem dX6_heavyPrices_14 : decode cX6_heavyPrices 14 = .ok (.invokevirtual 113, 3) := by decide +kernel
theorem dX6_heavyPrices_17 : decode cX6_heavyPrices 17 = .ok (.istore_n 3, 1) := by decide +kernel
theorem dX6_heavyPrices_18 : decode cX6_heavyPrices 18 = .ok (.iload_n 1, 1) := by decide +kernel
theorem dX6_heavyPrices_19 : decode cX6_heavyPrices 19 = .ok (.iload_n 3, 1) := by decide +kernel
theorem dX6_heavyPrices_20 : decode cX6_heavyPrices 20 = .ok (.bipush 30, 2) := by decide +kernel
theorem dX6_heavyPrices_22 : decode cX6_heavyPrices 22 = .ok (.if_icmp .le 9, 3) := by decide +kernel
theorem dX6_heavyPrices_25 : decode cX6_heavyPrices 25 = .ok (.iconst 2, 1) := by decide +kernel
theorem dX6_heavyPrices_26 : decode cX6_heavyPrices 26 = .ok (.iload_n 3, 1) := by decide +kernel
theorem dX6_heavyPrices_27 : decode cX6_heavyPrices 27 = .ok (.imul, 1) := by decide +kernel
theorem dX6_heavyPrices_28 : decode cX6_heavyPrices 28 = .ok (.goto 4, 3) := by decide +kernel
theorem dX6_heavyPrices_31 : decode cX6_heavyPrices 31 = .ok (.iload_n 3, 1) := by decide +kernel
theorem dX6_heavyPrices_32 : decode cX6_heavyPrices 32 = .ok (.iadd, 1) := by decide +kernel
theorem dX6_heavyPrices_33 : decode cX6_heavyPrices 33 = .ok (.istore_n 1, 1) := by decide +kernel
theorem dX6_heavyPrices_34 : decode cX6_heavyPrices 34 = .ok (.iinc 2 1, 3) := by decide +kernel
theorem dX6_heavyPrices_37 : decode cX6_heavyPrices 37 = .ok (.goto (-33), 3) := by decide +kernel
theorem dX6_heavyPrices_40 : decode cX6_heavyPrices 40 = .ok (.iload_n 1, 1) := by decide +kernel
theorem dX6_heavyPrices_41 : decode cX6_heavyPrices 41 = .ok (.ireturn, 1) := by decide +kernel
theorem dX6_trade_0 : decode cX6_trade 0 = .ok (.aload_n 0, 1) := by decide +kernel
theorem dX6_trade_1 : decode cX6_trade 1 = .ok (.iconst 0, 1) := by decide +kernel
theorem dX6_trade_2 : decode cX6_trade 2 = .ok (.putfield 79, 3) := by decide +kernel
theorem dX6_trade_5 : decode cX6_trade 5 = .ok (.aload_n 0, 1) := by decide +kernel
theorem dX6_trade_6 : decode cX6_trade 6 = .ok (.iload_n 1, 1) := by decide +kernel
theorem dX6_trade_7 : decode cX6_trade 7 = .ok (.iload_n 2, 1) := by decide +kernel
theorem dX6_trade_8 : decode cX6_trade 8 = .ok (.invokevirtual 237, 3) := by decide +kernel
theorem dX6_trade_11 : decode cX6_trade 11 = .ok (.istore_n 3, 1) := by decide +kernel
theorem dX6_trade_12 : decode cX6_trade 12 = .ok (.iload_n 3, 1) := by decide +kernel
theorem dX6_trade_13 : decode cX6_trade 13 = .ok (.ifCond .ne 22, 3) := by decide +kernel
theorem dX6_trade_16 : decode cX6_trade 16 = .ok (.aload_n 0, 1) := by decide +kernel
theorem dX6_trade_17 : decode cX6_trade 17 = .ok (.getfield 31, 3) := by decide +kernel
theorem dX6_trade_20 : decode cX6_trade 20 = .ok (.bipush 7, 2) := by decide +kernel
theorem dX6_trade_22 : decode cX6_trade 22 = .ok (.iload_n 1, 1) := by decide +kernel
theorem dX6_trade_23 : decode cX6_trade 23 = .ok (.imul, 1) := by decide +kernel
theorem dX6_trade_24 : decode cX6_trade 24 = .ok (.iload_n 2, 1) := by decide +kernel
theorem dX6_trade_25 : decode cX6_trade 25 = .ok (.iadd, 1) := by decide +kernel
theorem dX6_trade_26 : decode cX6_trade 26 = .ok (.iaload, 1) := by decide +kernel
theorem dX6_trade_27 : decode cX6_trade 27 = .ok (.ifCond .ne 8, 3) := by decide +kernel
theorem dX6_trade_30 : decode cX6_trade 30 = .ok (.bipush (-3), 2) := by decide +kernel
theorem dX6_trade_32 : decode cX6_trade 32 = .ok (.goto 4, 3) := by decide +kernel
theorem dX6_trade_35 : decode cX6_trade 35 = .ok (.iload_n 3, 1) := by decide +kernel
theorem dX6_trade_36 : decode cX6_trade 36 = .ok (.istore_n 3, 1) := by decide +kernel
theorem dX6_trade_37 : decode cX6_trade 37 = .ok (.iload_n 3, 1) := by decide +kernel
theorem dX6_trade_38 : decode cX6_trade 38 = .ok (.ifCond .ge 9, 3) := by decide +kernel
theorem dX6_trade_41 : decode cX6_trade 41 = .ok (.aload_n 0, 1) := by decide +kernel
theorem dX6_trade_42 : decode cX6_trade 42 = .ok (.iload_n 3, 1) := by decide +kernel
theorem dX6_trade_43 : decode cX6_trade 43 = .ok (.invokevirtual 143, 3) := by decide +kernel
theorem dX6_trade_46 : decode cX6_trade 46 = .ok (.ireturn, 1) := by decide +kernel
theorem dX6_trade_47 : decode cX6_trade 47 = .ok (.bipush (-9), 2) := by decide +kernel
theorem dX6_trade_49 : decode cX6_trade 49 = .ok (.istore 4, 2) := by decide +kernel
theorem dX6_trade_51 : decode cX6_trade 51 = .ok (.aload_n 0, 1) := by decide +kernel
theorem dX6_trade_52 : decode cX6_trade 52 = .ok (.invokevirtual 272, 3) := by decide +kernel
theorem dX6_trade_55 : decode cX6_trade 55 = .ok (.istore 5, 2) := by decide +kernel
theorem dX6_trade_57 : decode cX6_trade 57 = .ok (.aload_n 0, 1) := by decide +kernel
theorem dX6_trade_58 : decode cX6_trade 58 = .ok (.invokevirtual 196, 3) := by decide +kernel
theorem dX6_trade_61 : decode cX6_trade 61 = .ok (.iconst 0, 1) := by decide +kernel
theorem dX6_trade_62 : decode cX6_trade 62 = .ok (.istore 6, 2) := by decide +kernel
theorem dX6_trade_64 : decode cX6_trade 64 = .ok (.iload 6, 2) := by decide +kernel
theorem dX6_trade_66 : decode cX6_trade 66 = .ok (.aload_n 0, 1) := by decide +kernel
theorem dX6_trade_67 : decode cX6_trade 67 = .ok (.getfield 92, 3) := by decide +kernel
theorem dX6_trade_70 : decode cX6_trade 70 = .ok (.if_icmp .ge 101, 3) := by decide +kernel
theorem dX6_trade_73 : decode cX6_trade 73 = .ok (.aload_n 0, 1) := by decide +kernel
theorem dX6_trade_74 : decode cX6_trade 74 = .ok (.getfield 31, 3) := by decide +kernel
theorem dX6_trade_77 : decode cX6_trade 77 = .ok (.bipush 7, 2) := by decide +kernel
theorem dX6_trade_79 : decode cX6_trade 79 = .ok (.iload 6, 2) := by decide +kernel
theorem dX6_trade_81 : decode cX6_trade 81 = .ok (.imul, 1) := by decide +kernel
theorem dX6_trade_82 : decode cX6_trade 82 = .ok (.iload_n 2, 1) := by decide +kernel
theorem dX6_trade_83 : decode cX6_trade 83 = .ok (.iadd, 1) := by decide +kernel
theorem dX6_trade_84 : decode cX6_trade 84 = .ok (.iaload, 1) := by decide +kernel
theorem dX6_trade_85 : decode cX6_trade 85 = .ok (.ifCond .ne 80, 3) := by decide +kernel
theorem dX6_trade_88 : decode cX6_trade 88 = .ok (.aload_n 0, 1) := by decide +kernel
theorem dX6_trade_89 : decode cX6_trade 89 = .ok (.getfield 31, 3) := by decide +kernel
theorem dX6_trade_92 : decode cX6_trade 92 = .ok (.bipush 7, 2) := by decide +kernel
theorem dX6_trade_94 : decode cX6_trade 94 = .ok (.iload 6, 2) := by decide +kernel
theorem dX6_trade_96 : decode cX6_trade 96 = .ok (.imul, 1) := by decide +kernel
theorem dX6_trade_97 : decode cX6_trade 97 = .ok (.iload_n 2, 1) := by decide +kernel
theorem dX6_trade_98 : decode cX6_trade 98 = .ok (.iadd, 1) := by decide +kernel
theorem dX6_trade_99 : decode cX6_trade 99 = .ok (.aload_n 0, 1) := by decide +kernel
theorem dX6_trade_100 : decode cX6_trade 100 = .ok (.getfield 31, 3) := by decide +kernel
theorem dX6_trade_103 : decode cX6_trade 103 = .ok (.bipush 7, 2) := by decide +kernel
theorem dX6_trade_105 : decode cX6_trade 105 = .ok (.iload_n 1, 1) := by decide +kernel
theorem dX6_trade_106 : decode cX6_trade 106 = .ok (.imul, 1) := by decide +kernel
theorem dX6_trade_107 : decode cX6_trade 107 = .ok (.iload_n 2, 1) := by decide +kernel
theorem dX6_trade_108 : decode cX6_trade 108 = .ok (.iadd, 1) := by decide +kernel
theorem dX6_trade_109 : decode cX6_trade 109 = .ok (.iaload, 1) := by decide +kernel
theorem dX6_trade_110 : decode cX6_trade 110 = .ok (.iastore, 1) := by decide +kernel
theorem dX6_trade_111 : decode cX6_trade 111 = .ok (.aload_n 0, 1) := by decide +kernel
theorem dX6_trade_112 : decode cX6_trade 112 = .ok (.getfield 31, 3) := by decide +kernel
theorem dX6_trade_115 : decode cX6_trade 115 = .ok (.bipush 7, 2) := by decide +kernel
theorem dX6_trade_117 : decode cX6_trade 117 = .ok (.iload_n 1, 1) := by decide +kernel
theorem dX6_trade_118 : decode cX6_trade 118 = .ok (.imul, 1) := by decide +kernel
theorem dX6_trade_119 : decode cX6_trade 119 = .ok (.iload_n 2, 1) := by decide +kernel
theorem dX6_trade_120 : decode cX6_trade 120 = .ok (.iadd, 1) := by decide +kernel
theorem dX6_trade_121 : decode cX6_trade 121 = .ok (.iconst 0, 1) := by decide +kernel
theorem dX6_trade_122 : decode cX6_trade 122 = .ok (.iastore, 1) := by decide +kernel
theorem dX6_trade_123 : decode cX6_trade 123 = .ok (.aload_n 0, 1) := by decide +kernel
theorem dX6_trade_124 : decode cX6_trade 124 = .ok (.invokevirtual 272, 3) := by decide +kernel
theorem dX6_trade_127 : decode cX6_trade 127 = .ok (.istore 7, 2) := by decide +kernel
theorem dX6_trade_129 : decode cX6_trade 129 = .ok (.aload_n 0, 1) := by decide +kernel
theorem dX6_trade_130 : decode cX6_trade 130 = .ok (.invokevirtual 202, 3) := by decide +kernel
theorem dX6_trade_133 : decode cX6_trade 133 = .ok (.iload 7, 2) := by decide +kernel
theorem dX6_trade_135 : decode cX6_trade 135 = .ok (.iload 5, 2) := by decide +kernel
theorem dX6_trade_137 : decode cX6_trade 137 = .ok (.if_icmp .ge 8, 3) := by decide +kernel
theorem dX6_trade_140 : decode cX6_trade 140 = .ok (.iload 6, 2) := by decide +kernel
theorem dX6_trade_142 : decode cX6_trade 142 = .ok (.goto 5, 3) := by decide +kernel
theorem dX6_trade_145 : decode cX6_trade 145 = .ok (.iload 4, 2) := by decide +kernel
theorem dX6_trade_147 : decode cX6_trade 147 = .ok (.istore 4, 2) := by decide +kernel
theorem dX6_trade_149 : decode cX6_trade 149 = .ok (.iload 7, 2) := by decide +kernel
theorem dX6_trade_151 : decode cX6_trade 151 = .ok (.iload 5, 2) := by decide +kernel
theorem dX6_trade_153 : decode cX6_trade 153 = .ok (.if_icmp .ge 8, 3) := by decide +kernel
theorem dX6_trade_156 : decode cX6_trade 156 = .ok (.iload 7, 2) := by decide +kernel
theorem dX6_trade_158 : decode cX6_trade 158 = .ok (.goto 5, 3) := by decide +kernel
theorem dX6_trade_161 : decode cX6_trade 161 = .ok (.iload 5, 2) := by decide +kernel
theorem dX6_trade_163 : decode cX6_trade 163 = .ok (.istore 5, 2) := by decide +kernel
theorem dX6_trade_165 : decode cX6_trade 165 = .ok (.iinc 6 1, 3) := by decide +kernel
theorem dX6_trade_168 : decode cX6_trade 168 = .ok (.goto (-104), 3) := by decide +kernel
theorem dX6_trade_171 : decode cX6_trade 171 = .ok (.iload 4, 2) := by decide +kernel
theorem dX6_trade_173 : decode cX6_trade 173 = .ok (.ireturn, 1) := by decide +kernel
theorem dX6_whoWent_0 : decode cX6_whoWent 0 = .ok (.aload_n 0, 1) := by decide +kernel
theorem dX6_whoWent_1 : decode cX6_whoWent 1 = .ok (.iconst 0, 1) := by decide +kernel
theorem dX6_whoWent_2 : decode cX6_whoWent 2 = .ok (.putfield 79, 3) := by decide +kernel
theorem dX6_whoWent_5 : decode cX6_whoWent 5 = .ok (.aload_n 0, 1) := by decide +kernel
theorem dX6_whoWent_6 : decode cX6_whoWent 6 = .ok (.iload_n 1, 1) := by decide +kernel
theorem dX6_whoWent_7 : decode cX6_whoWent 7 = .ok (.invokevirtual 181, 3) := by decide +kernel
theorem dX6_whoWent_10 : decode cX6_whoWent 10 = .ok (.ifCond .ne 9, 3) := by decide +kernel
theorem dX6_whoWent_13 : decode cX6_whoWent 13 = .ok (.aload_n 0, 1) := by decide +kernel
theorem dX6_whoWent_14 : decode cX6_whoWent 14 = .ok (.iconst (-1), 1) := by decide +kernel
theorem dX6_whoWent_15 : decode cX6_whoWent 15 = .ok (.invokevirtual 143, 3) := by decide +kernel
theorem dX6_whoWent_18 : decode cX6_whoWent 18 = .ok (.ireturn, 1) := by decide +kernel
theorem dX6_whoWent_19 : decode cX6_whoWent 19 = .ok (.iconst 0, 1) := by decide +kernel
theorem dX6_whoWent_20 : decode cX6_whoWent 20 = .ok (.istore_n 2, 1) := by decide +kernel
theorem dX6_whoWent_21 : decode cX6_whoWent 21 = .ok (.iconst 0, 1) := by decide +kernel
theorem dX6_whoWent_22 : decode cX6_whoWent 22 = .ok (.istore_n 3, 1) := by decide +kernel
theorem dX6_whoWent_23 : decode cX6_whoWent 23 = .ok (.iload_n 3, 1) := by decide +kernel
theorem dX6_whoWent_24 : decode cX6_whoWent 24 = .ok (.aload_n 0, 1) := by decide +kernel
theorem dX6_whoWent_25 : decode cX6_whoWent 25 = .ok (.getfield 92, 3) := by decide +kernel
theorem dX6_whoWent_28 : decode cX6_whoWent 28 = .ok (.if_icmp .ge 48, 3) := by decide +kernel
theorem dX6_whoWent_31 : decode cX6_whoWent 31 = .ok (.iload_n 2, 1) := by decide +kernel
theorem dX6_whoWent_32 : decode cX6_whoWent 32 = .ok (.aload_n 0, 1) := by decide +kernel
theorem dX6_whoWent_33 : decode cX6_whoWent 33 = .ok (.getfield 31, 3) := by decide +kernel
theorem dX6_whoWent_36 : decode cX6_whoWent 36 = .ok (.bipush 7, 2) := by decide +kernel
theorem dX6_whoWent_38 : decode cX6_whoWent 38 = .ok (.iload_n 3, 1) := by decide +kernel
theorem dX6_whoWent_39 : decode cX6_whoWent 39 = .ok (.imul, 1) := by decide +kernel
theorem dX6_whoWent_40 : decode cX6_whoWent 40 = .ok (.iload_n 1, 1) := by decide +kernel
theorem dX6_whoWent_41 : decode cX6_whoWent 41 = .ok (.iadd, 1) := by decide +kernel
theorem dX6_whoWent_42 : decode cX6_whoWent 42 = .ok (.iaload, 1) := by decide +kernel
theorem dX6_whoWent_43 : decode cX6_whoWent 43 = .ok (.ifCond .le 24, 3) := by decide +kernel
theorem dX6_whoWent_46 : decode cX6_whoWent 46 = .ok (.aload_n 0, 1) := by decide +kernel
theorem dX6_whoWent_47 : decode cX6_whoWent 47 = .ok (.getfield 22, 3) := by decide +kernel
theorem dX6_whoWent_50 : decode cX6_whoWent 50 = .ok (.iload_n 3, 1) := by decide +kernel
theorem dX6_whoWent_51 : decode cX6_whoWent 51 = .ok (.iaload, 1) := by decide +kernel
theorem dX6_whoWent_52 : decode cX6_whoWent 52 = .ok (.aload_n 0, 1) := by decide +kernel
theorem dX6_whoWent_53 : decode cX6_whoWent 53 = .ok (.getfield 16, 3) := by decide +kernel
theorem dX6_whoWent_56 : decode cX6_whoWent 56 = .ok (.iload_n 1, 1) := by decide +kernel
theorem dX6_whoWent_57 : decode cX6_whoWent 57 = .ok (.iaload, 1) := by decide +kernel
theorem dX6_whoWent_58 : decode cX6_whoWent 58 = .ok (.if_icmp .ne 9, 3) := by decide +kernel
theorem dX6_whoWent_61 : decode cX6_whoWent 61 = .ok (.iconst 1, 1) := by decide +kernel
theorem dX6_whoWent_62 : decode cX6_whoWent 62 = .ok (.iload_n 3, 1) := by decide +kernel
theorem dX6_whoWent_63 : decode cX6_whoWent 63 = .ok (.ishl, 1) := by decide +kernel
theorem dX6_whoWent_64 : decode cX6_whoWent 64 = .ok (.goto 4, 3) := by decide +kernel
theorem dX6_whoWent_67 : decode cX6_whoWent 67 = .ok (.iconst 0, 1) := by decide +kernel
theorem dX6_whoWent_68 : decode cX6_whoWent 68 = .ok (.ior, 1) := by decide +kernel
theorem dX6_whoWent_69 : decode cX6_whoWent 69 = .ok (.istore_n 2, 1) := by decide +kernel
theorem dX6_whoWent_70 : decode cX6_whoWent 70 = .ok (.iinc 3 1, 3) := by decide +kernel
theorem dX6_whoWent_73 : decode cX6_whoWent 73 = .ok (.goto (-50), 3) := by decide +kernel
theorem dX6_whoWent_76 : decode cX6_whoWent 76 = .ok (.iload_n 2, 1) := by decide +kernel
theorem dX6_whoWent_77 : decode cX6_whoWent 77 = .ok (.ireturn, 1) := by decide +kernel
theorem dX6_spread_0 : decode cX6_spread 0 = .ok (.aload_n 0, 1) := by decide +kernel
theorem dX6_spread_1 : decode cX6_spread 1 = .ok (.iconst 0, 1) := by decide +kernel
theorem dX6_spread_2 : decode cX6_spread 2 = .ok (.putfield 79, 3) := by decide +kernel
theorem dX6_spread_5 : decode cX6_spread 5 = .ok (.iload_n 1, 1) := by decide +kernel
theorem dX6_spread_6 : decode cX6_spread 6 = .ok (.i2l, 1) := by decide +kernel
theorem dX6_spread_7 : decode cX6_spread 7 = .ok (.lconst 0, 1) := by decide +kernel
theorem dX6_spread_8 : decode cX6_spread 8 = .ok (.lconst 1, 1) := by decide +kernel
theorem dX6_spread_9 : decode cX6_spread 9 = .ok (.invokestatic 85, 3) := by decide +kernel
theorem dX6_spread_12 : decode cX6_spread 12 = .ok (.ifCond .ne 10, 3) := by decide +kernel
theorem dX6_spread_15 : decode cX6_spread 15 = .ok (.aload_n 0, 1) := by decide +kernel
theorem dX6_spread_16 : decode cX6_spread 16 = .ok (.bipush (-2), 2) := by decide +kernel
theorem dX6_spread_18 : decode cX6_spread 18 = .ok (.invokevirtual 143, 3) := by decide +kernel
theorem dX6_spread_21 : decode cX6_spread 21 = .ok (.ireturn, 1) := by decide +kernel
theorem dX6_spread_22 : decode cX6_spread 22 = .ok (.iconst 0, 1) := by decide +kernel
theorem dX6_spread_23 : decode cX6_spread 23 = .ok (.istore_n 2, 1) := by decide +kernel
theorem dX6_spread_24 : decode cX6_spread 24 = .ok (.iconst 0, 1) := by decide +kernel
theorem dX6_spread_25 : decode cX6_spread 25 = .ok (.istore_n 3, 1) := by decide +kernel
theorem dX6_spread_26 : decode cX6_spread 26 = .ok (.iload_n 3, 1) := by decide +kernel
theorem dX6_spread_27 : decode cX6_spread 27 = .ok (.aload_n 0, 1) := by decide +kernel
theorem dX6_spread_28 : decode cX6_spread 28 = .ok (.getfield 92, 3) := by decide +kernel
theorem dX6_spread_31 : decode cX6_spread 31 = .ok (.if_icmp .ge 31, 3) := by decide +kernel
theorem dX6_spread_34 : decode cX6_spread 34 = .ok (.iload_n 1, 1) := by decide +kernel
theorem dX6_spread_35 : decode cX6_spread 35 = .ok (.ifCond .ne 27, 3) := by decide +kernel
theorem dX6_spread_38 : decode cX6_spread 38 = .ok (.iload_n 2, 1) := by decide +kernel
theorem dX6_spread_39 : decode cX6_spread 39 = .ok (.aload_n 0, 1) := by decide +kernel
theorem dX6_spread_40 : decode cX6_spread 40 = .ok (.iload_n 3, 1) := by decide +kernel
theorem dX6_spread_41 : decode cX6_spread 41 = .ok (.invokevirtual 116, 3) := by decide +kernel
theorem dX6_spread_44 : decode cX6_spread 44 = .ok (.ifCond .ne 9, 3) := by decide +kernel
theorem dX6_spread_47 : decode cX6_spread 47 = .ok (.iconst 1, 1) := by decide +kernel
theorem dX6_spread_48 : decode cX6_spread 48 = .ok (.iload_n 3, 1) := by decide +kernel
theorem dX6_spread_49 : decode cX6_spread 49 = .ok (.ishl, 1) := by decide +kernel
theorem dX6_spread_50 : decode cX6_spread 50 = .ok (.goto 4, 3) := by decide +kernel
theorem dX6_spread_53 : decode cX6_spread 53 = .ok (.iconst 0, 1) := by decide +kernel
theorem dX6_spread_54 : decode cX6_spread 54 = .ok (.ior, 1) := by decide +kernel
theorem dX6_spread_55 : decode cX6_spread 55 = .ok (.istore_n 2, 1) := by decide +kernel
theorem dX6_spread_56 : decode cX6_spread 56 = .ok (.iinc 3 1, 3) := by decide +kernel
theorem dX6_spread_59 : decode cX6_spread 59 = .ok (.goto (-33), 3) := by decide +kernel
theorem dX6_spread_62 : decode cX6_spread 62 = .ok (.iconst 0, 1) := by decide +kernel
theorem dX6_spread_63 : decode cX6_spread 63 = .ok (.istore_n 3, 1) := by decide +kernel
theorem dX6_spread_64 : decode cX6_spread 64 = .ok (.iload_n 3, 1) := by decide +kernel
theorem dX6_spread_65 : decode cX6_spread 65 = .ok (.aload_n 0, 1) := by decide +kernel
theorem dX6_spread_66 : decode cX6_spread 66 = .ok (.getfield 89, 3) := by decide +kernel
theorem dX6_spread_69 : decode cX6_spread 69 = .ok (.if_icmp .ge 36, 3) := by decide +kernel
theorem dX6_spread_72 : decode cX6_spread 72 = .ok (.iload_n 1, 1) := by decide +kernel
theorem dX6_spread_73 : decode cX6_spread 73 = .ok (.iconst 1, 1) := by decide +kernel
theorem dX6_spread_74 : decode cX6_spread 74 = .ok (.if_icmp .ne 31, 3) := by decide +kernel
theorem dX6_spread_77 : decode cX6_spread 77 = .ok (.iload_n 2, 1) := by decide +kernel
theorem dX6_spread_78 : decode cX6_spread 78 = .ok (.aload_n 0, 1) := by decide +kernel
theorem dX6_spread_79 : decode cX6_spread 79 = .ok (.iload_n 3, 1) := by decide +kernel
theorem dX6_spread_80 : decode cX6_spread 80 = .ok (.invokevirtual 229, 3) := by decide +kernel
theorem dX6_spread_83 : decode cX6_spread 83 = .ok (.invokestatic 119, 3) := by decide +kernel
theorem dX6_spread_86 : decode cX6_spread 86 = .ok (.iconst 1, 1) := by decide +kernel
theorem dX6_spread_87 : decode cX6_spread 87 = .ok (.if_icmp .ne 9, 3) := by decide +kernel
theorem dX6_spread_90 : decode cX6_spread 90 = .ok (.iconst 1, 1) := by decide +kernel
theorem dX6_spread_91 : decode cX6_spread 91 = .ok (.iload_n 3, 1) := by decide +kernel
theorem dX6_spread_92 : decode cX6_spread 92 = .ok (.ishl, 1) := by decide +kernel
theorem dX6_spread_93 : decode cX6_spread 93 = .ok (.goto 4, 3) := by decide +kernel
theorem dX6_spread_96 : decode cX6_spread 96 = .ok (.iconst 0, 1) := by decide +kernel
theorem dX6_spread_97 : decode cX6_spread 97 = .ok (.ior, 1) := by decide +kernel
theorem dX6_spread_98 : decode cX6_spread 98 = .ok (.istore_n 2, 1) := by decide +kernel
theorem dX6_spread_99 : decode cX6_spread 99 = .ok (.iinc 3 1, 3) := by decide +kernel
theorem dX6_spread_102 : decode cX6_spread 102 = .ok (.goto (-38), 3) := by decide +kernel
theorem dX6_spread_105 : decode cX6_spread 105 = .ok (.iload_n 2, 1) := by decide +kernel
theorem dX6_spread_106 : decode cX6_spread 106 = .ok (.ireturn, 1) := by decide +kernel
theorem dX6_isRow_0 : decode cX6_isRow 0 = .ok (.iconst 1, 1) := by decide +kernel
theorem dX6_isRow_1 : decode cX6_isRow 1 = .ok (.istore_n 3, 1) := by decide +kernel
theorem dX6_isRow_2 : decode cX6_isRow 2 = .ok (.iconst 0, 1) := by decide +kernel
theorem dX6_isRow_3 : decode cX6_isRow 3 = .ok (.istore 4, 2) := by decide +kernel
theorem dX6_isRow_5 : decode cX6_isRow 5 = .ok (.iload 4, 2) := by decide +kernel
theorem dX6_isRow_7 : decode cX6_isRow 7 = .ok (.aload_n 0, 1) := by decide +kernel
theorem dX6_isRow_8 : decode cX6_isRow 8 = .ok (.getfield 275, 3) := by decide +kernel
theorem dX6_isRow_11 : decode cX6_isRow 11 = .ok (.if_icmp .ge 61, 3) := by decide +kernel
theorem dX6_isRow_14 : decode cX6_isRow 14 = .ok (.iload_n 3, 1) := by decide +kernel
theorem dX6_isRow_15 : decode cX6_isRow 15 = .ok (.ifCond .eq 57, 3) := by decide +kernel
theorem dX6_isRow_18 : decode cX6_isRow 18 = .ok (.aload_n 0, 1) := by decide +kernel
theorem dX6_isRow_19 : decode cX6_isRow 19 = .ok (.getfield 31, 3) := by decide +kernel
theorem dX6_isRow_22 : decode cX6_isRow 22 = .ok (.bipush 7, 2) := by decide +kernel
theorem dX6_isRow_24 : decode cX6_isRow 24 = .ok (.iload_n 1, 1) := by decide +kernel
theorem dX6_isRow_25 : decode cX6_isRow 25 = .ok (.imul, 1) := by decide +kernel
theorem dX6_isRow_26 : decode cX6_isRow 26 = .ok (.iload_n 2, 1) := by decide +kernel
theorem dX6_isRow_27 : decode cX6_isRow 27 = .ok (.iadd, 1) := by decide +kernel
theorem dX6_isRow_28 : decode cX6_isRow 28 = .ok (.iaload, 1) := by decide +kernel
theorem dX6_isRow_29 : decode cX6_isRow 29 = .ok (.istore 5, 2) := by decide +kernel
theorem dX6_isRow_31 : decode cX6_isRow 31 = .ok (.aload_n 0, 1) := by decide +kernel
theorem dX6_isRow_32 : decode cX6_isRow 32 = .ok (.getfield 73, 3) := by decide +kernel
theorem dX6_isRow_35 : decode cX6_isRow 35 = .ok (.iload 4, 2) := by decide +kernel
theorem dX6_isRow_37 : decode cX6_isRow 37 = .ok (.iaload, 1) := by decide +kernel
theorem dX6_isRow_38 : decode cX6_isRow 38 = .ok (.iload 5, 2) := by decide +kernel
theorem dX6_isRow_40 : decode cX6_isRow 40 = .ok (.ifCond .ne 8, 3) := by decide +kernel
theorem dX6_isRow_43 : decode cX6_isRow 43 = .ok (.bipush 99, 2) := by decide +kernel
theorem dX6_isRow_45 : decode cX6_isRow 45 = .ok (.goto 7, 3) := by decide +kernel
theorem dX6_isRow_48 : decode cX6_isRow 48 = .ok (.iload 5, 2) := by decide +kernel
theorem dX6_isRow_50 : decode cX6_isRow 50 = .ok (.iconst 1, 1) := by decide +kernel
theorem dX6_isRow_51 : decode cX6_isRow 51 = .ok (.isub, 1) := by decide +kernel
theorem dX6_isRow_52 : decode cX6_isRow 52 = .ok (.if_icmp .ne 7, 3) := by decide +kernel
theorem dX6_isRow_55 : decode cX6_isRow 55 = .ok (.iconst 1, 1) := by decide +kernel
theorem dX6_isRow_56 : decode cX6_isRow 56 = .ok (.goto 4, 3) := by decide +kernel
theorem dX6_isRow_59 : decode cX6_isRow 59 = .ok (.iconst 0, 1) := by decide +kernel
theorem dX6_isRow_60 : decode cX6_isRow 60 = .ok (.istore_n 3, 1) := by decide +kernel
theorem dX6_isRow_61 : decode cX6_isRow 61 = .ok (.aload_n 0, 1) := by decide +kernel
theorem dX6_isRow_62 : decode cX6_isRow 62 = .ok (.iconst 0, 1) := by decide +kernel
theorem dX6_isRow_63 : decode cX6_isRow 63 = .ok (.invokevirtual 135, 3) := by decide +kernel
theorem dX6_isRow_66 : decode cX6_isRow 66 = .ok (.iinc 4 1, 3) := by decide +kernel
theorem dX6_isRow_69 : decode cX6_isRow 69 = .ok (.goto (-64), 3) := by decide +kernel
theorem dX6_isRow_72 : decode cX6_isRow 72 = .ok (.aload_n 0, 1) := by decide +kernel
theorem dX6_isRow_73 : decode cX6_isRow 73 = .ok (.invokevirtual 202, 3) := by decide +kernel
theorem dX6_isRow_76 : decode cX6_isRow 76 = .ok (.iload_n 3, 1) := by decide +kernel
theorem dX6_isRow_77 : decode cX6_isRow 77 = .ok (.ireturn, 1) := by decide +kernel
theorem dX6_whatKind_0 : decode cX6_whatKind 0 = .ok (.aload_n 0, 1) := by decide +kernel
theorem dX6_whatKind_1 : decode cX6_whatKind 1 = .ok (.iconst 0, 1) := by decide +kernel
theorem dX6_whatKind_2 : decode cX6_whatKind 2 = .ok (.putfield 79, 3) := by decide +kernel
theorem dX6_whatKind_5 : decode cX6_whatKind 5 = .ok (.aload_n 0, 1) := by decide +kernel
theorem dX6_whatKind_6 : decode cX6_whatKind 6 = .ok (.iload_n 1, 1) := by decide +kernel
theorem dX6_whatKind_7 : decode cX6_whatKind 7 = .ok (.iload_n 2, 1) := by decide +kernel
theorem dX6_whatKind_8 : decode cX6_whatKind 8 = .ok (.invokevirtual 237, 3) := by decide +kernel
theorem dX6_whatKind_11 : decode cX6_whatKind 11 = .ok (.iload_n 3, 1) := by decide +kernel
theorem dX6_whatKind_12 : decode cX6_whatKind 12 = .ok (.iconst 1, 1) := by decide +kernel
theorem dX6_whatKind_13 : decode cX6_whatKind 13 = .ok (.invokestatic 250, 3) := by decide +kernel
theorem dX6_whatKind_16 : decode cX6_whatKind 16 = .ok (.istore 4, 2) := by decide +kernel
theorem dX6_whatKind_18 : decode cX6_whatKind 18 = .ok (.iload 4, 2) := by decide +kernel
theorem dX6_whatKind_20 : decode cX6_whatKind 20 = .ok (.ifCond .ge 10, 3) := by decide +kernel
theorem dX6_whatKind_23 : decode cX6_whatKind 23 = .ok (.aload_n 0, 1) := by decide +kernel
theorem dX6_whatKind_24 : decode cX6_whatKind 24 = .ok (.iload 4, 2) := by decide +kernel
theorem dX6_whatKind_26 : decode cX6_whatKind 26 = .ok (.invokevirtual 143, 3) := by decide +kernel
theorem dX6_whatKind_29 : decode cX6_whatKind 29 = .ok (.ireturn, 1) := by decide +kernel
theorem dX6_whatKind_30 : decode cX6_whatKind 30 = .ok (.iconst 0, 1) := by decide +kernel
theorem dX6_whatKind_31 : decode cX6_whatKind 31 = .ok (.istore 5, 2) := by decide +kernel
theorem dX6_whatKind_33 : decode cX6_whatKind 33 = .ok (.aload_n 0, 1) := by decide +kernel
theorem dX6_whatKind_34 : decode cX6_whatKind 34 = .ok (.invokevirtual 196, 3) := by decide +kernel
theorem dX6_whatKind_37 : decode cX6_whatKind 37 = .ok (.iconst 0, 1) := by decide +kernel
theorem dX6_whatKind_38 : decode cX6_whatKind 38 = .ok (.istore 6, 2) := by decide +kernel
theorem dX6_whatKind_40 : decode cX6_whatKind 40 = .ok (.iload 6, 2) := by decide +kernel
theorem dX6_whatKind_42 : decode cX6_whatKind 42 = .ok (.iload_n 3, 1) := by decide +kernel
theorem dX6_whatKind_43 : decode cX6_whatKind 43 = .ok (.ifCond .ne 8, 3) := by decide +kernel
theorem dX6_whatKind_46 : decode cX6_whatKind 46 = .ok (.bipush 6, 2) := by decide +kernel
theorem dX6_whatKind_48 : decode cX6_whatKind 48 = .ok (.goto 5, 3) := by decide +kernel
theorem dX6_whatKind_51 : decode cX6_whatKind 51 = .ok (.bipush 10, 2) := by decide +kernel
theorem dX6_whatKind_53 : decode cX6_whatKind 53 = .ok (.if_icmp .ge 74, 3) := by decide +kernel
theorem dX6_whatKind_56 : decode cX6_whatKind 56 = .ok (.aload_n 0, 1) := by decide +kernel
theorem dX6_whatKind_57 : decode cX6_whatKind 57 = .ok (.getfield 7, 3) := by decide +kernel
theorem dX6_whatKind_60 : decode cX6_whatKind 60 = .ok (.iload_n 2, 1) := by decide +kernel
theorem dX6_whatKind_61 : decode cX6_whatKind 61 = .ok (.iload_n 3, 1) := by decide +kernel
theorem dX6_whatKind_62 : decode cX6_whatKind 62 = .ok (.ifCond .ne 8, 3) := by decide +kernel
theorem dX6_whatKind_65 : decode cX6_whatKind 65 = .ok (.iload 6, 2) := by decide +kernel
theorem dX6_whatKind_67 : decode cX6_whatKind 67 = .ok (.goto 9, 3) := by decide +kernel
theorem dX6_whatKind_70 : decode cX6_whatKind 70 = .ok (.aload_n 0, 1) := by decide +kernel
theorem dX6_whatKind_71 : decode cX6_whatKind 71 = .ok (.getfield 7, 3) := by decide +kernel
theorem dX6_whatKind_74 : decode cX6_whatKind 74 = .ok (.iload_n 2, 1) := by decide +kernel
theorem dX6_whatKind_75 : decode cX6_whatKind 75 = .ok (.iaload, 1) := by decide +kernel
theorem dX6_whatKind_76 : decode cX6_whatKind 76 = .ok (.iastore, 1) := by decide +kernel
theorem dX6_whatKind_77 : decode cX6_whatKind 77 = .ok (.aload_n 0, 1) := by decide +kernel
theorem dX6_whatKind_78 : decode cX6_whatKind 78 = .ok (.getfield 13, 3) := by decide +kernel
theorem dX6_whatKind_81 : decode cX6_whatKind 81 = .ok (.iload_n 2, 1) := by decide +kernel
theorem dX6_whatKind_82 : decode cX6_whatKind 82 = .ok (.iload_n 3, 1) := by decide +kernel
theorem dX6_whatKind_83 : decode cX6_whatKind 83 = .ok (.iconst 1, 1) := by decide +kernel
theorem dX6_whatKind_84 : decode cX6_whatKind 84 = .ok (.if_icmp .ne 8, 3) := by decide +kernel
theorem dX6_whatKind_87 : decode cX6_whatKind 87 = .ok (.iload 6, 2) := by decide +kernel
theorem dX6_whatKind_89 : decode cX6_whatKind 89 = .ok (.goto 9, 3) := by decide +kernel
theorem dX6_whatKind_92 : decode cX6_whatKind 92 = .ok (.aload_n 0, 1) := by decide +kernel
theorem dX6_whatKind_93 : decode cX6_whatKind 93 = .ok (.getfield 13, 3) := by decide +kernel
theorem dX6_whatKind_96 : decode cX6_whatKind 96 = .ok (.iload_n 2, 1) := by decide +kernel
theorem dX6_whatKind_97 : decode cX6_whatKind 97 = .ok (.iaload, 1) := by decide +kernel
theorem dX6_whatKind_98 : decode cX6_whatKind 98 = .ok (.iastore, 1) := by decide +kernel
theorem dX6_whatKind_99 : decode cX6_whatKind 99 = .ok (.iload 5, 2) := by decide +kernel
theorem dX6_whatKind_101 : decode cX6_whatKind 101 = .ok (.aload_n 0, 1) := by decide +kernel
theorem dX6_whatKind_102 : decode cX6_whatKind 102 = .ok (.iload_n 1, 1) := by decide +kernel
theorem dX6_whatKind_103 : decode cX6_whatKind 103 = .ok (.iload_n 2, 1) := by decide +kernel
theorem dX6_whatKind_104 : decode cX6_whatKind 104 = .ok (.invokevirtual 278, 3) := by decide +kernel
theorem dX6_whatKind_107 : decode cX6_whatKind 107 = .ok (.ifCond .eq 10, 3) := by decide +kernel
theorem dX6_whatKind_110 : decode cX6_whatKind 110 = .ok (.iconst 1, 1) := by decide +kernel
theorem dX6_whatKind_111 : decode cX6_whatKind 111 = .ok (.iload 6, 2) := by decide +kernel
theorem dX6_whatKind_113 : decode cX6_whatKind 113 = .ok (.ishl, 1) := by decide +kernel
theorem dX6_whatKind_114 : decode cX6_whatKind 114 = .ok (.goto 4, 3) := by decide +kernel
theorem dX6_whatKind_117 : decode cX6_whatKind 117 = .ok (.iconst 0, 1) := by decide +kernel
theorem dX6_whatKind_118 : decode cX6_whatKind 118 = .ok (.ior, 1) := by decide +kernel
theorem dX6_whatKind_119 : decode cX6_whatKind 119 = .ok (.istore 5, 2) := by decide +kernel
theorem dX6_whatKind_121 : decode cX6_whatKind 121 = .ok (.iinc 6 1, 3) := by decide +kernel
theorem dX6_whatKind_124 : decode cX6_whatKind 124 = .ok (.goto (-84), 3) := by decide +kernel
theorem dX6_whatKind_127 : decode cX6_whatKind 127 = .ok (.iload 5, 2) := by decide +kernel
theorem dX6_whatKind_129 : decode cX6_whatKind 129 = .ok (.ireturn, 1) := by decide +kernel
theorem dX6_two_0 : decode cX6_two 0 = .ok (.aload_n 0, 1) := by decide +kernel
theorem dX6_two_1 : decode cX6_two 1 = .ok (.iconst 0, 1) := by decide +kernel
theorem dX6_two_2 : decode cX6_two 2 = .ok (.putfield 79, 3) := by decide +kernel
theorem dX6_two_5 : decode cX6_two 5 = .ok (.aload_n 0, 1) := by decide +kernel
theorem dX6_two_6 : decode cX6_two 6 = .ok (.iload_n 1, 1) := by decide +kernel
theorem dX6_two_7 : decode cX6_two 7 = .ok (.invokevirtual 181, 3) := by decide +kernel
theorem dX6_two_10 : decode cX6_two 10 = .ok (.ifCond .eq 26, 3) := by decide +kernel
theorem dX6_two_13 : decode cX6_two 13 = .ok (.aload_n 0, 1) := by decide +kernel
theorem dX6_two_14 : decode cX6_two 14 = .ok (.iload_n 2, 1) := by decide +kernel
theorem dX6_two_15 : decode cX6_two 15 = .ok (.invokevirtual 181, 3) := by decide +kernel
theorem dX6_two_18 : decode cX6_two 18 = .ok (.ifCond .eq 18, 3) := by decide +kernel
theorem dX6_two_21 : decode cX6_two 21 = .ok (.iload_n 1, 1) := by decide +kernel
theorem dX6_two_22 : decode cX6_two 22 = .ok (.iload_n 2, 1) := by decide +kernel
theorem dX6_two_23 : decode cX6_two 23 = .ok (.if_icmp .eq 13, 3) := by decide +kernel
theorem dX6_two_26 : decode cX6_two 26 = .ok (.iload_n 3, 1) := by decide +kernel
theorem dX6_two_27 : decode cX6_two 27 = .ok (.iconst 0, 1) := by decide +kernel
theorem dX6_two_28 : decode cX6_two 28 = .ok (.bipush 60, 2) := by decide +kernel
theorem dX6_two_30 : decode cX6_two 30 = .ok (.invokestatic 240, 3) := by decide +kernel
theorem dX6_two_33 : decode cX6_two 33 = .ok (.goto 4, 3) := by decide +kernel
theorem dX6_two_36 : decode cX6_two 36 = .ok (.iconst (-1), 1) := by decide +kernel
theorem dX6_two_37 : decode cX6_two 37 = .ok (.istore 4, 2) := by decide +kernel
theorem dX6_two_39 : decode cX6_two 39 = .ok (.iload 4, 2) := by decide +kernel
theorem dX6_two_41 : decode cX6_two 41 = .ok (.ifCond .ge 10, 3) := by decide +kernel
theorem dX6_two_44 : decode cX6_two 44 = .ok (.aload_n 0, 1) := by decide +kernel
theorem dX6_two_45 : decode cX6_two 45 = .ok (.iload 4, 2) := by decide +kernel
theorem dX6_two_47 : decode cX6_two 47 = .ok (.invokevirtual 143, 3) := by decide +kernel
theorem dX6_two_50 : decode cX6_two 50 = .ok (.ireturn, 1) := by decide +kernel
theorem dX6_two_51 : decode cX6_two 51 = .ok (.aload_n 0, 1) := by decide +kernel
theorem dX6_two_52 : decode cX6_two 52 = .ok (.invokevirtual 196, 3) := by decide +kernel
theorem dX6_two_55 : decode cX6_two 55 = .ok (.iconst 0, 1) := by decide +kernel
theorem dX6_two_56 : decode cX6_two 56 = .ok (.istore 5, 2) := by decide +kernel
theorem dX6_two_58 : decode cX6_two 58 = .ok (.iload 5, 2) := by decide +kernel
theorem dX6_two_60 : decode cX6_two 60 = .ok (.iconst 4, 1) := by decide +kernel
theorem dX6_two_61 : decode cX6_two 61 = .ok (.if_icmp .ge 92, 3) := by decide +kernel
theorem dX6_two_64 : decode cX6_two 64 = .ok (.aload_n 0, 1) := by decide +kernel
theorem dX6_two_65 : decode cX6_two 65 = .ok (.getfield 19, 3) := by decide +kernel
theorem dX6_two_68 : decode cX6_two 68 = .ok (.iload_n 1, 1) := by decide +kernel
theorem dX6_two_69 : decode cX6_two 69 = .ok (.iconst 1, 1) := by decide +kernel
theorem dX6_two_70 : decode cX6_two 70 = .ok (.iload 5, 2) := by decide +kernel
theorem dX6_two_72 : decode cX6_two 72 = .ok (.iconst 2, 1) := by decide +kernel
theorem dX6_two_73 : decode cX6_two 73 = .ok (.idiv, 1) := by decide +kernel
theorem dX6_two_74 : decode cX6_two 74 = .ok (.isub, 1) := by decide +kernel
theorem dX6_two_75 : decode cX6_two 75 = .ok (.iastore, 1) := by decide +kernel
theorem dX6_two_76 : decode cX6_two 76 = .ok (.aload_n 0, 1) := by decide +kernel
theorem dX6_two_77 : decode cX6_two 77 = .ok (.getfield 19, 3) := by decide +kernel
theorem dX6_two_80 : decode cX6_two 80 = .ok (.iload_n 2, 1) := by decide +kernel
theorem dX6_two_81 : decode cX6_two 81 = .ok (.iconst 1, 1) := by decide +kernel
theorem dX6_two_82 : decode cX6_two 82 = .ok (.iload 5, 2) := by decide +kernel
theorem dX6_two_84 : decode cX6_two 84 = .ok (.iconst 2, 1) := by decide +kernel
theorem dX6_two_85 : decode cX6_two 85 = .ok (.irem, 1) := by decide +kernel
theorem dX6_two_86 : decode cX6_two 86 = .ok (.isub, 1) := by decide +kernel
theorem dX6_two_87 : decode cX6_two 87 = .ok (.iastore, 1) := by decide +kernel
theorem dX6_two_88 : decode cX6_two 88 = .ok (.aload_n 0, 1) := by decide +kernel
theorem dX6_two_89 : decode cX6_two 89 = .ok (.iload_n 3, 1) := by decide +kernel
theorem dX6_two_90 : decode cX6_two 90 = .ok (.invokevirtual 189, 3) := by decide +kernel
theorem dX6_two_93 : decode cX6_two 93 = .ok (.aload_n 0, 1) := by decide +kernel
theorem dX6_two_94 : decode cX6_two 94 = .ok (.getfield 76, 3) := by decide +kernel
theorem dX6_two_97 : decode cX6_two 97 = .ok (.iconst 2, 1) := by decide +kernel
theorem dX6_two_98 : decode cX6_two 98 = .ok (.iload 5, 2) := by decide +kernel
theorem dX6_two_100 : decode cX6_two 100 = .ok (.imul, 1) := by decide +kernel
theorem dX6_two_101 : decode cX6_two 101 = .ok (.aload_n 0, 1) := by decide +kernel
theorem dX6_two_102 : decode cX6_two 102 = .ok (.iload_n 1, 1) := by decide +kernel
theorem dX6_two_103 : decode cX6_two 103 = .ok (.invokevirtual 229, 3) := by decide +kernel
theorem dX6_two_106 : decode cX6_two 106 = .ok (.invokestatic 119, 3) := by decide +kernel
theorem dX6_two_109 : decode cX6_two 109 = .ok (.iconst 1, 1) := by decide +kernel
theorem dX6_two_110 : decode cX6_two 110 = .ok (.iload 5, 2) := by decide +kernel
theorem dX6_two_112 : decode cX6_two 112 = .ok (.iconst 2, 1) := by decide +kernel
theorem dX6_two_113 : decode cX6_two 113 = .ok (.idiv, 1) := by decide +kernel
theorem dX6_two_114 : decode cX6_two 114 = .ok (.isub, 1) := by decide +kernel
theorem dX6_two_115 : decode cX6_two 115 = .ok (.isub, 1) := by decide +kernel
theorem dX6_two_116 : decode cX6_two 116 = .ok (.iastore, 1) := by decide +kernel
theorem dX6_two_117 : decode cX6_two 117 = .ok (.aload_n 0, 1) := by decide +kernel
theorem dX6_two_118 : decode cX6_two 118 = .ok (.getfield 76, 3) := by decide +kernel
theorem dX6_two_121 : decode cX6_two 121 = .ok (.iconst 2, 1) := by decide +kernel
theorem dX6_two_122 : decode cX6_two 122 = .ok (.iload 5, 2) := by decide +kernel
theorem dX6_two_124 : decode cX6_two 124 = .ok (.imul, 1) := by decide +kernel
theorem dX6_two_125 : decode cX6_two 125 = .ok (.iconst 1, 1) := by decide +kernel
theorem dX6_two_126 : decode cX6_two 126 = .ok (.iadd, 1) := by decide +kernel
theorem dX6_two_127 : decode cX6_two 127 = .ok (.aload_n 0, 1) := by decide +kernel
theorem dX6_two_128 : decode cX6_two 128 = .ok (.iload_n 2, 1) := by decide +kernel
theorem dX6_two_129 : decode cX6_two 129 = .ok (.invokevirtual 229, 3) := by decide +kernel
theorem dX6_two_132 : decode cX6_two 132 = .ok (.invokestatic 119, 3) := by decide +kernel
theorem dX6_two_135 : decode cX6_two 135 = .ok (.iconst 1, 1) := by decide +kernel
theorem dX6_two_136 : decode cX6_two 136 = .ok (.iload 5, 2) := by decide +kernel
theorem dX6_two_138 : decode cX6_two 138 = .ok (.iconst 2, 1) := by decide +kernel
theorem dX6_two_139 : decode cX6_two 139 = .ok (.irem, 1) := by decide +kernel
theorem dX6_two_140 : decode cX6_two 140 = .ok (.isub, 1) := by decide +kernel
theorem dX6_two_141 : decode cX6_two 141 = .ok (.isub, 1) := by decide +kernel
theorem dX6_two_142 : decode cX6_two 142 = .ok (.iastore, 1) := by decide +kernel
theorem dX6_two_143 : decode cX6_two 143 = .ok (.aload_n 0, 1) := by decide +kernel
theorem dX6_two_144 : decode cX6_two 144 = .ok (.invokevirtual 202, 3) := by decide +kernel
theorem dX6_two_147 : decode cX6_two 147 = .ok (.iinc 5 1, 3) := by decide +kernel
theorem dX6_two_150 : decode cX6_two 150 = .ok (.goto (-92), 3) := by decide +kernel
theorem dX6_two_153 : decode cX6_two 153 = .ok (.iconst 0, 1) := by decide +kernel
theorem dX6_two_154 : decode cX6_two 154 = .ok (.istore 5, 2) := by decide +kernel
theorem dX6_two_156 : decode cX6_two 156 = .ok (.iload 5, 2) := by decide +kernel
theorem dX6_two_158 : decode cX6_two 158 = .ok (.iconst 4, 1) := by decide +kernel
theorem dX6_two_159 : decode cX6_two 159 = .ok (.if_icmp .ge 98, 3) := by decide +kernel
theorem dX6_two_162 : decode cX6_two 162 = .ok (.iconst 2, 1) := by decide +kernel
theorem dX6_two_163 : decode cX6_two 163 = .ok (.iconst 1, 1) := by decide +kernel
theorem dX6_two_164 : decode cX6_two 164 = .ok (.iload 5, 2) := by decide +kernel
theorem dX6_two_166 : decode cX6_two 166 = .ok (.iconst 2, 1) := by decide +kernel
theorem dX6_two_167 : decode cX6_two 167 = .ok (.idiv, 1) := by decide +kernel
theorem dX6_two_168 : decode cX6_two 168 = .ok (.isub, 1) := by decide +kernel
theorem dX6_two_169 : decode cX6_two 169 = .ok (.imul, 1) := by decide +kernel
theorem dX6_two_170 : decode cX6_two 170 = .ok (.iload 5, 2) := by decide +kernel
theorem dX6_two_172 : decode cX6_two 172 = .ok (.iconst 2, 1) := by decide +kernel
theorem dX6_two_173 : decode cX6_two 173 = .ok (.irem, 1) := by decide +kernel
theorem dX6_two_174 : decode cX6_two 174 = .ok (.iadd, 1) := by decide +kernel
theorem dX6_two_175 : decode cX6_two 175 = .ok (.istore 6, 2) := by decide +kernel
theorem dX6_two_177 : decode cX6_two 177 = .ok (.iconst 2, 1) := by decide +kernel
theorem dX6_two_178 : decode cX6_two 178 = .ok (.iload 5, 2) := by decide +kernel
theorem dX6_two_180 : decode cX6_two 180 = .ok (.iconst 2, 1) := by decide +kernel
theorem dX6_two_181 : decode cX6_two 181 = .ok (.idiv, 1) := by decide +kernel
theorem dX6_two_182 : decode cX6_two 182 = .ok (.imul, 1) := by decide +kernel
theorem dX6_two_183 : decode cX6_two 183 = .ok (.iconst 1, 1) := by decide +kernel
theorem dX6_two_184 : decode cX6_two 184 = .ok (.iadd, 1) := by decide +kernel
theorem dX6_two_185 : decode cX6_two 185 = .ok (.iload 5, 2) := by decide +kernel
theorem dX6_two_187 : decode cX6_two 187 = .ok (.iconst 2, 1) := by decide +kernel
theorem dX6_two_188 : decode cX6_two 188 = .ok (.irem, 1) := by decide +kernel
theorem dX6_two_189 : decode cX6_two 189 = .ok (.isub, 1) := by decide +kernel
theorem dX6_two_190 : decode cX6_two 190 = .ok (.istore 7, 2) := by decide +kernel
theorem dX6_two_192 : decode cX6_two 192 = .ok (.aload_n 0, 1) := by decide +kernel
theorem dX6_two_193 : decode cX6_two 193 = .ok (.getfield 76, 3) := by decide +kernel
theorem dX6_two_196 : decode cX6_two 196 = .ok (.iconst 2, 1) := by decide +kernel
theorem dX6_two_197 : decode cX6_two 197 = .ok (.iload 5, 2) := by decide +kernel
theorem dX6_two_199 : decode cX6_two 199 = .ok (.imul, 1) := by decide +kernel
theorem dX6_two_200 : decode cX6_two 200 = .ok (.iaload, 1) := by decide +kernel
theorem dX6_two_201 : decode cX6_two 201 = .ok (.aload_n 0, 1) := by decide +kernel
theorem dX6_two_202 : decode cX6_two 202 = .ok (.getfield 76, 3) := by decide +kernel
theorem dX6_two_205 : decode cX6_two 205 = .ok (.iconst 2, 1) := by decide +kernel
theorem dX6_two_206 : decode cX6_two 206 = .ok (.iload 6, 2) := by decide +kernel
theorem dX6_two_208 : decode cX6_two 208 = .ok (.imul, 1) := by decide +kernel
theorem dX6_two_209 : decode cX6_two 209 = .ok (.iaload, 1) := by decide +kernel
theorem dX6_two_210 : decode cX6_two 210 = .ok (.if_icmp .lt 41, 3) := by decide +kernel
theorem dX6_two_213 : decode cX6_two 213 = .ok (.aload_n 0, 1) := by decide +kernel
theorem dX6_two_214 : decode cX6_two 214 = .ok (.getfield 76, 3) := by decide +kernel
theorem dX6_two_217 : decode cX6_two 217 = .ok (.iconst 2, 1) := by decide +kernel
theorem dX6_two_218 : decode cX6_two 218 = .ok (.iload 5, 2) := by decide +kernel
theorem dX6_two_220 : decode cX6_two 220 = .ok (.imul, 1) := by decide +kernel
theorem dX6_two_221 : decode cX6_two 221 = .ok (.iconst 1, 1) := by decide +kernel
theorem dX6_two_222 : decode cX6_two 222 = .ok (.iadd, 1) := by decide +kernel
theorem dX6_two_223 : decode cX6_two 223 = .ok (.iaload, 1) := by decide +kernel
theorem dX6_two_224 : decode cX6_two 224 = .ok (.aload_n 0, 1) := by decide +kernel
theorem dX6_two_225 : decode cX6_two 225 = .ok (.getfield 76, 3) := by decide +kernel
theorem dX6_two_228 : decode cX6_two 228 = .ok (.iconst 2, 1) := by decide +kernel
theorem dX6_two_229 : decode cX6_two 229 = .ok (.iload 7, 2) := by decide +kernel
theorem dX6_two_231 : decode cX6_two 231 = .ok (.imul, 1) := by decide +kernel
theorem dX6_two_232 : decode cX6_two 232 = .ok (.iconst 1, 1) := by decide +kernel
theorem dX6_two_233 : decode cX6_two 233 = .ok (.iadd, 1) := by decide +kernel
theorem dX6_two_234 : decode cX6_two 234 = .ok (.iaload, 1) := by decide +kernel
theorem dX6_two_235 : decode cX6_two 235 = .ok (.if_icmp .lt 16, 3) := by decide +kernel
theorem dX6_two_238 : decode cX6_two 238 = .ok (.bipush 10, 2) := by decide +kernel
theorem dX6_two_240 : decode cX6_two 240 = .ok (.iload 5, 2) := by decide +kernel
theorem dX6_two_242 : decode cX6_two 242 = .ok (.iconst 2, 1) := by decide +kernel
theorem dX6_two_243 : decode cX6_two 243 = .ok (.idiv, 1) := by decide +kernel
theorem dX6_two_244 : decode cX6_two 244 = .ok (.imul, 1) := by decide +kernel
theorem dX6_two_245 : decode cX6_two 245 = .ok (.iload 5, 2) := by decide +kernel
theorem dX6_two_247 : decode cX6_two 247 = .ok (.iconst 2, 1) := by decide +kernel
theorem dX6_two_248 : decode cX6_two 248 = .ok (.irem, 1) := by decide +kernel
theorem dX6_two_249 : decode cX6_two 249 = .ok (.iadd, 1) := by decide +kernel
theorem dX6_two_250 : decode cX6_two 250 = .ok (.ireturn, 1) := by decide +kernel
theorem dX6_two_251 : decode cX6_two 251 = .ok (.iinc 5 1, 3) := by decide +kernel
theorem dX6_two_254 : decode cX6_two 254 = .ok (.goto (-98), 3) := by decide +kernel
theorem dX6_two_257 : decode cX6_two 257 = .ok (.bipush (-9), 2) := by decide +kernel
theorem dX6_two_259 : decode cX6_two 259 = .ok (.ireturn, 1) := by decide +kernel
theorem dX6_divisor_0 : decode cX6_divisor 0 = .ok (.lload_n 0, 1) := by decide +kernel
theorem dX6_divisor_1 : decode cX6_divisor 1 = .ok (.lstore 4, 2) := by decide +kernel
theorem dX6_divisor_3 : decode cX6_divisor 3 = .ok (.lload_n 2, 1) := by decide +kernel
theorem dX6_divisor_4 : decode cX6_divisor 4 = .ok (.lstore 6, 2) := by decide +kernel
theorem dX6_divisor_6 : decode cX6_divisor 6 = .ok (.lload 6, 2) := by decide +kernel
theorem dX6_divisor_8 : decode cX6_divisor 8 = .ok (.lconst 0, 1) := by decide +kernel
theorem dX6_divisor_9 : decode cX6_divisor 9 = .ok (.lcmp, 1) := by decide +kernel
theorem dX6_divisor_10 : decode cX6_divisor 10 = .ok (.ifCond .eq 21, 3) := by decide +kernel
theorem dX6_divisor_13 : decode cX6_divisor 13 = .ok (.lload 4, 2) := by decide +kernel
theorem dX6_divisor_15 : decode cX6_divisor 15 = .ok (.lload 6, 2) := by decide +kernel
theorem dX6_divisor_17 : decode cX6_divisor 17 = .ok (.lrem, 1) := by decide +kernel
theorem dX6_divisor_18 : decode cX6_divisor 18 = .ok (.lstore 8, 2) := by decide +kernel
theorem dX6_divisor_20 : decode cX6_divisor 20 = .ok (.lload 6, 2) := by decide +kernel
theorem dX6_divisor_22 : decode cX6_divisor 22 = .ok (.lstore 4, 2) := by decide +kernel
theorem dX6_divisor_24 : decode cX6_divisor 24 = .ok (.lload 8, 2) := by decide +kernel
theorem dX6_divisor_26 : decode cX6_divisor 26 = .ok (.lstore 6, 2) := by decide +kernel
theorem dX6_divisor_28 : decode cX6_divisor 28 = .ok (.goto (-22), 3) := by decide +kernel
theorem dX6_divisor_31 : decode cX6_divisor 31 = .ok (.lload 4, 2) := by decide +kernel
theorem dX6_divisor_33 : decode cX6_divisor 33 = .ok (.lreturn, 1) := by decide +kernel
theorem dX6_partOf_0 : decode cX6_partOf 0 = .ok (.lload_n 0, 1) := by decide +kernel
theorem dX6_partOf_1 : decode cX6_partOf 1 = .ok (.lconst 0, 1) := by decide +kernel
theorem dX6_partOf_2 : decode cX6_partOf 2 = .ok (.lcmp, 1) := by decide +kernel
theorem dX6_partOf_3 : decode cX6_partOf 3 = .ok (.ifCond .ne 7, 3) := by decide +kernel
theorem dX6_partOf_6 : decode cX6_partOf 6 = .ok (.iload 4, 2) := by decide +kernel
theorem dX6_partOf_8 : decode cX6_partOf 8 = .ok (.i2l, 1) := by decide +kernel
theorem dX6_partOf_9 : decode cX6_partOf 9 = .ok (.lreturn, 1) := by decide +kernel
theorem dX6_partOf_10 : decode cX6_partOf 10 = .ok (.lload_n 0, 1) := by decide +kernel
theorem dX6_partOf_11 : decode cX6_partOf 11 = .ok (.lload_n 2, 1) := by decide +kernel
theorem dX6_partOf_12 : decode cX6_partOf 12 = .ok (.invokestatic 281, 3) := by decide +kernel
theorem dX6_partOf_15 : decode cX6_partOf 15 = .ok (.lstore 5, 2) := by decide +kernel
theorem dX6_partOf_17 : decode cX6_partOf 17 = .ok (.iload 4, 2) := by decide +kernel
theorem dX6_partOf_19 : decode cX6_partOf 19 = .ok (.ifCond .ne 10, 3) := by decide +kernel
theorem dX6_partOf_22 : decode cX6_partOf 22 = .ok (.lload_n 0, 1) := by decide +kernel
theorem dX6_partOf_23 : decode cX6_partOf 23 = .ok (.lload 5, 2) := by decide +kernel
theorem dX6_partOf_25 : decode cX6_partOf 25 = .ok (.ldiv, 1) := by decide +kernel
theorem dX6_partOf_26 : decode cX6_partOf 26 = .ok (.goto 7, 3) := by decide +kernel
theorem dX6_partOf_29 : decode cX6_partOf 29 = .ok (.lload_n 2, 1) := by decide +kernel
theorem dX6_partOf_30 : decode cX6_partOf 30 = .ok (.lload 5, 2) := by decide +kernel
theorem dX6_partOf_32 : decode cX6_partOf 32 = .ok (.ldiv, 1) := by decide +kernel
theorem dX6_partOf_33 : decode cX6_partOf 33 = .ok (.lreturn, 1) := by decide +kernel
theorem dX6_mist_0 : decode cX6_mist 0 = .ok (.aload_n 0, 1) := by decide +kernel
theorem dX6_mist_1 : decode cX6_mist 1 = .ok (.iconst 0, 1) := by decide +kernel
theorem dX6_mist_2 : decode cX6_mist 2 = .ok (.putfield 79, 3) := by decide +kernel
theorem dX6_mist_5 : decode cX6_mist 5 = .ok (.iconst 0, 1) := by decide +kernel
theorem dX6_mist_6 : decode cX6_mist 6 = .ok (.istore 6, 2) := by decide +kernel
theorem dX6_mist_8 : decode cX6_mist 8 = .ok (.aload_n 0, 1) := by decide +kernel
theorem dX6_mist_9 : decode cX6_mist 9 = .ok (.iload_n 1, 1) := by decide +kernel
theorem dX6_mist_10 : decode cX6_mist 10 = .ok (.iload_n 2, 1) := by decide +kernel
theorem dX6_mist_11 : decode cX6_mist 11 = .ok (.invokevirtual 237, 3) := by decide +kernel
theorem dX6_mist_14 : decode cX6_mist 14 = .ok (.ifCond .ge 9, 3) := by decide +kernel
theorem dX6_mist_17 : decode cX6_mist 17 = .ok (.iconst (-1), 1) := by decide +kernel
theorem dX6_mist_18 : decode cX6_mist 18 = .ok (.istore 6, 2) := by decide +kernel
theorem dX6_mist_20 : decode cX6_mist 20 = .ok (.goto 37, 3) := by decide +kernel
theorem dX6_mist_23 : decode cX6_mist 23 = .ok (.iload_n 3, 1) := by decide +kernel
theorem dX6_mist_24 : decode cX6_mist 24 = .ok (.ifCond .lt 9, 3) := by decide +kernel
theorem dX6_mist_27 : decode cX6_mist 27 = .ok (.iload 4, 2) := by decide +kernel
theorem dX6_mist_29 : decode cX6_mist 29 = .ok (.iconst 2, 1) := by decide +kernel
theorem dX6_mist_30 : decode cX6_mist 30 = .ok (.if_icmp .ge 10, 3) := by decide +kernel
theorem dX6_mist_33 : decode cX6_mist 33 = .ok (.bipush (-4), 2) := by decide +kernel
theorem dX6_mist_35 : decode cX6_mist 35 = .ok (.istore 6, 2) := by decide +kernel
theorem dX6_mist_37 : decode cX6_mist 37 = .ok (.goto 20, 3) := by decide +kernel
theorem dX6_mist_40 : decode cX6_mist 40 = .ok (.iload_n 3, 1) := by decide +kernel
theorem dX6_mist_41 : decode cX6_mist 41 = .ok (.bipush 7, 2) := by decide +kernel
theorem dX6_mist_43 : decode cX6_mist 43 = .ok (.if_icmp .gt 10, 3) := by decide +kernel
theorem dX6_mist_46 : decode cX6_mist 46 = .ok (.iload 4, 2) := by decide +kernel
theorem dX6_mist_48 : decode cX6_mist 48 = .ok (.bipush 20, 2) := by decide +kernel
theorem dX6_mist_50 : decode cX6_mist 50 = .ok (.if_icmp .le 7, 3) := by decide +kernel
theorem dX6_mist_53 : decode cX6_mist 53 = .ok (.bipush (-6), 2) := by decide +kernel
theorem dX6_mist_55 : decode cX6_mist 55 = .ok (.istore 6, 2) := by decide +kernel
theorem dX6_mist_57 : decode cX6_mist 57 = .ok (.iload 6, 2) := by decide +kernel
theorem dX6_mist_59 : decode cX6_mist 59 = .ok (.iload 5, 2) := by decide +kernel
theorem dX6_mist_61 : decode cX6_mist 61 = .ok (.iconst 1, 1) := by decide +kernel
theorem dX6_mist_62 : decode cX6_mist 62 = .ok (.invokestatic 250, 3) := by decide +kernel
theorem dX6_mist_65 : decode cX6_mist 65 = .ok (.istore 6, 2) := by decide +kernel
theorem dX6_mist_67 : decode cX6_mist 67 = .ok (.iload 6, 2) := by decide +kernel
theorem dX6_mist_69 : decode cX6_mist 69 = .ok (.ifCond .ge 15, 3) := by decide +kernel
theorem dX6_mist_72 : decode cX6_mist 72 = .ok (.ldc2_w 285, 3) := by decide +kernel
theorem dX6_mist_75 : decode cX6_mist 75 = .ok (.aload_n 0, 1) := by decide +kernel
theorem dX6_mist_76 : decode cX6_mist 76 = .ok (.iload 6, 2) := by decide +kernel
theorem dX6_mist_78 : decode cX6_mist 78 = .ok (.invokevirtual 143, 3) := by decide +kernel
theorem dX6_mist_81 : decode cX6_mist 81 = .ok (.i2l, 1) := by decide +kernel
theorem dX6_mist_82 : decode cX6_mist 82 = .ok (.lsub, 1) := by decide +kernel
theorem dX6_mist_83 : decode cX6_mist 83 = .ok (.lreturn, 1) := by decide +kernel
theorem dX6_mist_84 : decode cX6_mist 84 = .ok (.lconst 0, 1) := by decide +kernel
theorem dX6_mist_85 : decode cX6_mist 85 = .ok (.lstore 7, 2) := by decide +kernel
theorem dX6_mist_87 : decode cX6_mist 87 = .ok (.lconst 1, 1) := by decide +kernel
theorem dX6_mist_88 : decode cX6_mist 88 = .ok (.lstore 9, 2) := by decide +kernel
theorem dX6_mist_90 : decode cX6_mist 90 = .ok (.iconst 0, 1) := by decide +kernel
theorem dX6_mist_91 : decode cX6_mist 91 = .ok (.istore 11, 2) := by decide +kernel
theorem dX6_mist_93 : decode cX6_mist 93 = .ok (.iload 11, 2) := by decide +kernel
theorem dX6_mist_95 : decode cX6_mist 95 = .ok (.iload_n 3, 1) := by decide +kernel
theorem dX6_mist_96 : decode cX6_mist 96 = .ok (.if_icmp .ge 17, 3) := by decide +kernel
theorem dX6_mist_99 : decode cX6_mist 99 = .ok (.lload 9, 2) := by decide +kernel
theorem dX6_mist_101 : decode cX6_mist 101 = .ok (.iload 4, 2) := by decide +kernel
theorem dX6_mist_103 : decode cX6_mist 103 = .ok (.i2l, 1) := by decide +kernel
theorem dX6_mist_104 : decode cX6_mist 104 = .ok (.lmul, 1) := by decide +kernel
theorem dX6_mist_105 : decode cX6_mist 105 = .ok (.lstore 9, 2) := by decide +kernel
theorem dX6_mist_107 : decode cX6_mist 107 = .ok (.iinc 11 1, 3) := by decide +kernel
theorem dX6_mist_110 : decode cX6_mist 110 = .ok (.goto (-17), 3) := by decide +kernel
theorem dX6_mist_113 : decode cX6_mist 113 = .ok (.aload_n 0, 1) := by decide +kernel
theorem dX6_mist_114 : decode cX6_mist 114 = .ok (.invokevirtual 196, 3) := by decide +kernel
theorem dX6_mist_117 : decode cX6_mist 117 = .ok (.iconst 0, 1) := by decide +kernel
theorem dX6_mist_118 : decode cX6_mist 118 = .ok (.istore 11, 2) := by decide +kernel
theorem dX6_mist_120 : decode cX6_mist 120 = .ok (.iload 11, 2) := by decide +kernel
theorem dX6_mist_122 : decode cX6_mist 122 = .ok (.iconst 1, 1) := by decide +kernel
theorem dX6_mist_123 : decode cX6_mist 123 = .ok (.iload_n 3, 1) := by decide +kernel
theorem dX6_mist_124 : decode cX6_mist 124 = .ok (.ishl, 1) := by decide +kernel
theorem dX6_mist_125 : decode cX6_mist 125 = .ok (.if_icmp .ge 91, 3) := by decide +kernel
theorem dX6_mist_128 : decode cX6_mist 128 = .ok (.lconst 1, 1) := by decide +kernel
theorem dX6_mist_129 : decode cX6_mist 129 = .ok (.lstore 12, 2) := by decide +kernel
theorem dX6_mist_131 : decode cX6_mist 131 = .ok (.iconst 0, 1) := by decide +kernel
theorem dX6_mist_132 : decode cX6_mist 132 = .ok (.istore 14, 2) := by decide +kernel
theorem dX6_mist_134 : decode cX6_mist 134 = .ok (.iload 14, 2) := by decide +kernel
theorem dX6_mist_136 : decode cX6_mist 136 = .ok (.iload_n 3, 1) := by decide +kernel
theorem dX6_mist_137 : decode cX6_mist 137 = .ok (.if_icmp .ge 44, 3) := by decide +kernel
theorem dX6_mist_140 : decode cX6_mist 140 = .ok (.lload 12, 2) := by decide +kernel
theorem dX6_mist_142 : decode cX6_mist 142 = .ok (.iload 11, 2) := by decide +kernel
theorem dX6_mist_144 : decode cX6_mist 144 = .ok (.iload 14, 2) := by decide +kernel
theorem dX6_mist_146 : decode cX6_mist 146 = .ok (.invokestatic 131, 3) := by decide +kernel
theorem dX6_mist_149 : decode cX6_mist 149 = .ok (.ifCond .eq 7, 3) := by decide +kernel
theorem dX6_mist_152 : decode cX6_mist 152 = .ok (.lconst 1, 1) := by decide +kernel
theorem dX6_mist_153 : decode cX6_mist 153 = .ok (.goto 8, 3) := by decide +kernel
theorem dX6_mist_156 : decode cX6_mist 156 = .ok (.iload 4, 2) := by decide +kernel
theorem dX6_mist_158 : decode cX6_mist 158 = .ok (.iconst 1, 1) := by decide +kernel
theorem dX6_mist_159 : decode cX6_mist 159 = .ok (.isub, 1) := by decide +kernel
theorem dX6_mist_160 : decode cX6_mist 160 = .ok (.i2l, 1) := by decide +kernel
theorem dX6_mist_161 : decode cX6_mist 161 = .ok (.lmul, 1) := by decide +kernel
theorem dX6_mist_162 : decode cX6_mist 162 = .ok (.lstore 12, 2) := by decide +kernel
theorem dX6_mist_164 : decode cX6_mist 164 = .ok (.aload_n 0, 1) := by decide +kernel
theorem dX6_mist_165 : decode cX6_mist 165 = .ok (.iload 11, 2) := by decide +kernel
theorem dX6_mist_167 : decode cX6_mist 167 = .ok (.iload 14, 2) := by decide +kernel
theorem dX6_mist_169 : decode cX6_mist 169 = .ok (.invokestatic 131, 3) := by decide +kernel
theorem dX6_mist_172 : decode cX6_mist 172 = .ok (.invokevirtual 135, 3) := by decide +kernel
theorem dX6_mist_175 : decode cX6_mist 175 = .ok (.iinc 14 1, 3) := by decide +kernel
theorem dX6_mist_178 : decode cX6_mist 178 = .ok (.goto (-44), 3) := by decide +kernel
theorem dX6_mist_181 : decode cX6_mist 181 = .ok (.lload 7, 2) := by decide +kernel
theorem dX6_mist_183 : decode cX6_mist 183 = .ok (.aload_n 0, 1) := by decide +kernel
theorem dX6_mist_184 : decode cX6_mist 184 = .ok (.getfield 31, 3) := by decide +kernel
theorem dX6_mist_187 : decode cX6_mist 187 = .ok (.bipush 7, 2) := by decide +kernel
theorem dX6_mist_189 : decode cX6_mist 189 = .ok (.iload_n 1, 1) := by decide +kernel
theorem dX6_mist_190 : decode cX6_mist 190 = .ok (.imul, 1) := by decide +kernel
theorem dX6_mist_191 : decode cX6_mist 191 = .ok (.iload_n 2, 1) := by decide +kernel
theorem dX6_mist_192 : decode cX6_mist 192 = .ok (.iadd, 1) := by decide +kernel
theorem dX6_mist_193 : decode cX6_mist 193 = .ok (.iaload, 1) := by decide +kernel
theorem dX6_mist_194 : decode cX6_mist 194 = .ok (.ifCond .le 8, 3) := by decide +kernel
theorem dX6_mist_197 : decode cX6_mist 197 = .ok (.lload 12, 2) := by decide +kernel
theorem dX6_mist_199 : decode cX6_mist 199 = .ok (.goto 4, 3) := by decide +kernel
theorem dX6_mist_202 : decode cX6_mist 202 = .ok (.lconst 0, 1) := by decide +kernel
theorem dX6_mist_203 : decode cX6_mist 203 = .ok (.ladd, 1) := by decide +kernel
theorem dX6_mist_204 : decode cX6_mist 204 = .ok (.lstore 7, 2) := by decide +kernel
theorem dX6_mist_206 : decode cX6_mist 206 = .ok (.aload_n 0, 1) := by decide +kernel
theorem dX6_mist_207 : decode cX6_mist 207 = .ok (.invokevirtual 202, 3) := by decide +kernel
theorem dX6_mist_210 : decode cX6_mist 210 = .ok (.iinc 11 1, 3) := by decide +kernel
theorem dX6_mist_213 : decode cX6_mist 213 = .ok (.goto (-93), 3) := by decide +kernel
theorem dX6_mist_216 : decode cX6_mist 216 = .ok (.lload 7, 2) := by decide +kernel
theorem dX6_mist_218 : decode cX6_mist 218 = .ok (.lload 9, 2) := by decide +kernel
theorem dX6_mist_220 : decode cX6_mist 220 = .ok (.iload 5, 2) := by decide +kernel
theorem dX6_mist_222 : decode cX6_mist 222 = .ok (.invokestatic 287, 3) := by decide +kernel
theorem dX6_mist_225 : decode cX6_mist 225 = .ok (.lreturn, 1) := by decide +kernel
theorem dX6_oldestAge_0 : decode cX6_oldestAge 0 = .ok (.iconst 0, 1) := by decide +kernel
theorem dX6_oldestAge_1 : decode cX6_oldestAge 1 = .ok (.istore_n 1, 1) := by decide +kernel
theorem dX6_oldestAge_2 : decode cX6_oldestAge 2 = .ok (.iconst 0, 1) := by decide +kernel
theorem dX6_oldestAge_3 : decode cX6_oldestAge 3 = .ok (.istore_n 2, 1) := by decide +kernel
theorem dX6_oldestAge_4 : decode cX6_oldestAge 4 = .ok (.iload_n 2, 1) := by decide +kernel
theorem dX6_oldestAge_5 : decode cX6_oldestAge 5 = .ok (.aload_n 0, 1) := by decide +kernel
theorem dX6_oldestAge_6 : decode cX6_oldestAge 6 = .ok (.getfield 92, 3) := by decide +kernel
theorem dX6_oldestAge_9 : decode cX6_oldestAge 9 = .ok (.if_icmp .ge 56, 3) := by decide +kernel
theorem dX6_oldestAge_12 : decode cX6_oldestAge 12 = .ok (.iconst 0, 1) := by decide +kernel
theorem dX6_oldestAge_13 : decode cX6_oldestAge 13 = .ok (.istore_n 3, 1) := by decide +kernel
theorem dX6_oldestAge_14 : decode cX6_oldestAge 14 = .ok (.iload_n 3, 1) := by decide +kernel
theorem dX6_oldestAge_15 : decode cX6_oldestAge 15 = .ok (.aload_n 0, 1) := by decide +kernel
theorem dX6_oldestAge_16 : decode cX6_oldestAge 16 = .ok (.getfield 89, 3) := by decide +kernel
theorem dX6_oldestAge_19 : decode cX6_oldestAge 19 = .ok (.if_icmp .ge 40, 3) := by decide +kernel
theorem dX6_oldestAge_22 : decode cX6_oldestAge 22 = .ok (.aload_n 0, 1) := by decide +kernel
theorem dX6_oldestAge_23 : decode cX6_oldestAge 23 = .ok (.getfield 31, 3) := by decide +kernel
theorem dX6_oldestAge_26 : decode cX6_oldestAge 26 = .ok (.bipush 7, 2) := by decide +kernel
theorem dX6_oldestAge_28 : decode cX6_oldestAge 28 = .ok (.iload_n 2, 1) := by decide +kernel
theorem dX6_oldestAge_29 : decode cX6_oldestAge 29 = .ok (.imul, 1) := by decide +kernel
theorem dX6_oldestAge_30 : decode cX6_oldestAge 30 = .ok (.iload_n 3, 1) := by decide +kernel
theorem dX6_oldestAge_31 : decode cX6_oldestAge 31 = .ok (.iadd, 1) := by decide +kernel
theorem dX6_oldestAge_32 : decode cX6_oldestAge 32 = .ok (.iaload, 1) := by decide +kernel
theorem dX6_oldestAge_33 : decode cX6_oldestAge 33 = .ok (.iload_n 1, 1) := by decide +kernel
theorem dX6_oldestAge_34 : decode cX6_oldestAge 34 = .ok (.if_icmp .le 17, 3) := by decide +kernel
theorem dX6_oldestAge_37 : decode cX6_oldestAge 37 = .ok (.aload_n 0, 1) := by decide +kernel
theorem dX6_oldestAge_38 : decode cX6_oldestAge 38 = .ok (.getfield 31, 3) := by decide +kernel
theorem dX6_oldestAge_41 : decode cX6_oldestAge 41 = .ok (.bipush 7, 2) := by decide +kernel
theorem dX6_oldestAge_43 : decode cX6_oldestAge 43 = .ok (.iload_n 2, 1) := by decide +kernel
theorem dX6_oldestAge_44 : decode cX6_oldestAge 44 = .ok (.imul, 1) := by decide +kernel
theorem dX6_oldestAge_45 : decode cX6_oldestAge 45 = .ok (.iload_n 3, 1) := by decide +kernel
theorem dX6_oldestAge_46 : decode cX6_oldestAge 46 = .ok (.iadd, 1) := by decide +kernel
theorem dX6_oldestAge_47 : decode cX6_oldestAge 47 = .ok (.iaload, 1) := by decide +kernel
theorem dX6_oldestAge_48 : decode cX6_oldestAge 48 = .ok (.goto 4, 3) := by decide +kernel
theorem dX6_oldestAge_51 : decode cX6_oldestAge 51 = .ok (.iload_n 1, 1) := by decide +kernel
theorem dX6_oldestAge_52 : decode cX6_oldestAge 52 = .ok (.istore_n 1, 1) := by decide +kernel
theorem dX6_oldestAge_53 : decode cX6_oldestAge 53 = .ok (.iinc 3 1, 3) := by decide +kernel
theorem dX6_oldestAge_56 : decode cX6_oldestAge 56 = .ok (.goto (-42), 3) := by decide +kernel
theorem dX6_oldestAge_59 : decode cX6_oldestAge 59 = .ok (.iinc 2 1, 3) := by decide +kernel
theorem dX6_oldestAge_62 : decode cX6_oldestAge 62 = .ok (.goto (-58), 3) := by decide +kernel
theorem dX6_oldestAge_65 : decode cX6_oldestAge 65 = .ok (.iload_n 1, 1) := by decide +kernel
theorem dX6_oldestAge_66 : decode cX6_oldestAge 66 = .ok (.ireturn, 1) := by decide +kernel
theorem dX6_oldestBy_0 : decode cX6_oldestBy 0 = .ok (.aload_n 0, 1) := by decide +kernel
theorem dX6_oldestBy_1 : decode cX6_oldestBy 1 = .ok (.invokevirtual 291, 3) := by decide +kernel
theorem dX6_oldestBy_4 : decode cX6_oldestBy 4 = .ok (.istore_n 1, 1) := by decide +kernel
theorem dX6_oldestBy_5 : decode cX6_oldestBy 5 = .ok (.iconst 0, 1) := by decide +kernel
theorem dX6_oldestBy_6 : decode cX6_oldestBy 6 = .ok (.istore_n 2, 1) := by decide +kernel
theorem dX6_oldestBy_7 : decode cX6_oldestBy 7 = .ok (.iload_n 2, 1) := by decide +kernel
theorem dX6_oldestBy_8 : decode cX6_oldestBy 8 = .ok (.aload_n 0, 1) := by decide +kernel
theorem dX6_oldestBy_9 : decode cX6_oldestBy 9 = .ok (.getfield 92, 3) := by decide +kernel
theorem dX6_oldestBy_12 : decode cX6_oldestBy 12 = .ok (.if_icmp .ge 46, 3) := by decide +kernel
theorem dX6_oldestBy_15 : decode cX6_oldestBy 15 = .ok (.iload_n 1, 1) := by decide +kernel
theorem dX6_oldestBy_16 : decode cX6_oldestBy 16 = .ok (.ifCond .le 42, 3) := by decide +kernel
theorem dX6_oldestBy_19 : decode cX6_oldestBy 19 = .ok (.iconst 0, 1) := by decide +kernel
theorem dX6_oldestBy_20 : decode cX6_oldestBy 20 = .ok (.istore_n 3, 1) := by decide +kernel
theorem dX6_oldestBy_21 : decode cX6_oldestBy 21 = .ok (.iload_n 3, 1) := by decide +kernel
theorem dX6_oldestBy_22 : decode cX6_oldestBy 22 = .ok (.aload_n 0, 1) := by decide +kernel
theorem dX6_oldestBy_23 : decode cX6_oldestBy 23 = .ok (.getfield 89, 3) := by decide +kernel
theorem dX6_oldestBy_26 : decode cX6_oldestBy 26 = .ok (.if_icmp .ge 26, 3) := by decide +kernel
theorem dX6_oldestBy_29 : decode cX6_oldestBy 29 = .ok (.aload_n 0, 1) := by decide +kernel
theorem dX6_oldestBy_30 : decode cX6_oldestBy 30 = .ok (.getfield 31, 3) := by decide +kernel
theorem dX6_oldestBy_33 : decode cX6_oldestBy 33 = .ok (.bipush 7, 2) := by decide +kernel
theorem dX6_oldestBy_35 : decode cX6_oldestBy 35 = .ok (.iload_n 2, 1) := by decide +kernel
theorem dX6_oldestBy_36 : decode cX6_oldestBy 36 = .ok (.imul, 1) := by decide +kernel
theorem dX6_oldestBy_37 : decode cX6_oldestBy 37 = .ok (.iload_n 3, 1) := by decide +kernel
theorem dX6_oldestBy_38 : decode cX6_oldestBy 38 = .ok (.iadd, 1) := by decide +kernel
theorem dX6_oldestBy_39 : decode cX6_oldestBy 39 = .ok (.iaload, 1) := by decide +kernel
theorem dX6_oldestBy_40 : decode cX6_oldestBy 40 = .ok (.iload_n 1, 1) := by decide +kernel
theorem dX6_oldestBy_41 : decode cX6_oldestBy 41 = .ok (.if_icmp .ne 5, 3) := by decide +kernel
theorem dX6_oldestBy_44 : decode cX6_oldestBy 44 = .ok (.iload_n 2, 1) := by decide +kernel
theorem dX6_oldestBy_45 : decode cX6_oldestBy 45 = .ok (.ireturn, 1) := by decide +kernel
theorem dX6_oldestBy_46 : decode cX6_oldestBy 46 = .ok (.iinc 3 1, 3) := by decide +kernel
theorem dX6_oldestBy_49 : decode cX6_oldestBy 49 = .ok (.goto (-28), 3) := by decide +kernel
theorem dX6_oldestBy_52 : decode cX6_oldestBy 52 = .ok (.iinc 2 1, 3) := by decide +kernel
theorem dX6_oldestBy_55 : decode cX6_oldestBy 55 = .ok (.goto (-48), 3) := by decide +kernel
theorem dX6_oldestBy_58 : decode cX6_oldestBy 58 = .ok (.bipush (-9), 2) := by decide +kernel
theorem dX6_oldestBy_60 : decode cX6_oldestBy 60 = .ok (.ireturn, 1) := by decide +kernel
theorem dX6_laneTwos_0 : decode cX6_laneTwos 0 = .ok (.iconst 0, 1) := by decide +kernel
theorem dX6_laneTwos_1 : decode cX6_laneTwos 1 = .ok (.istore_n 1, 1) := by decide +kernel
theorem dX6_laneTwos_2 : decode cX6_laneTwos 2 = .ok (.iconst 0, 1) := by decide +kernel
theorem dX6_laneTwos_3 : decode cX6_laneTwos 3 = .ok (.istore_n 2, 1) := by decide +kernel
theorem dX6_laneTwos_4 : decode cX6_laneTwos 4 = .ok (.iload_n 2, 1) := by decide +kernel
theorem dX6_laneTwos_5 : decode cX6_laneTwos 5 = .ok (.aload_n 0, 1) := by decide +kernel
theorem dX6_laneTwos_6 : decode cX6_laneTwos 6 = .ok (.getfield 89, 3) := by decide +kernel
theorem dX6_laneTwos_9 : decode cX6_laneTwos 9 = .ok (.if_icmp .ge 71, 3) := by decide +kernel
theorem dX6_laneTwos_12 : decode cX6_laneTwos 12 = .ok (.iload_n 2, 1) := by decide +kernel
theorem dX6_laneTwos_13 : decode cX6_laneTwos 13 = .ok (.iconst 1, 1) := by decide +kernel
theorem dX6_laneTwos_14 : decode cX6_laneTwos 14 = .ok (.iadd, 1) := by decide +kernel
theorem dX6_laneTwos_15 : decode cX6_laneTwos 15 = .ok (.istore_n 3, 1) := by decide +kernel
theorem dX6_laneTwos_16 : decode cX6_laneTwos 16 = .ok (.iload_n 3, 1) := by decide +kernel
theorem dX6_laneTwos_17 : decode cX6_laneTwos 17 = .ok (.aload_n 0, 1) := by decide +kernel
theorem dX6_laneTwos_18 : decode cX6_laneTwos 18 = .ok (.getfield 89, 3) := by decide +kernel
theorem dX6_laneTwos_21 : decode cX6_laneTwos 21 = .ok (.if_icmp .ge 53, 3) := by decide +kernel
theorem dX6_laneTwos_24 : decode cX6_laneTwos 24 = .ok (.iload_n 1, 1) := by decide +kernel
theorem dX6_laneTwos_25 : decode cX6_laneTwos 25 = .ok (.aload_n 0, 1) := by decide +kernel
theorem dX6_laneTwos_26 : decode cX6_laneTwos 26 = .ok (.getfield 19, 3) := by decide +kernel
theorem dX6_laneTwos_29 : decode cX6_laneTwos 29 = .ok (.iload_n 2, 1) := by decide +kernel
theorem dX6_laneTwos_30 : decode cX6_laneTwos 30 = .ok (.iaload, 1) := by decide +kernel
theorem dX6_laneTwos_31 : decode cX6_laneTwos 31 = .ok (.aload_n 0, 1) := by decide +kernel
theorem dX6_laneTwos_32 : decode cX6_laneTwos 32 = .ok (.getfield 19, 3) := by decide +kernel
theorem dX6_laneTwos_35 : decode cX6_laneTwos 35 = .ok (.iload_n 3, 1) := by decide +kernel
theorem dX6_laneTwos_36 : decode cX6_laneTwos 36 = .ok (.iaload, 1) := by decide +kernel
theorem dX6_laneTwos_37 : decode cX6_laneTwos 37 = .ok (.iadd, 1) := by decide +kernel
theorem dX6_laneTwos_38 : decode cX6_laneTwos 38 = .ok (.iconst 2, 1) := by decide +kernel
theorem dX6_laneTwos_39 : decode cX6_laneTwos 39 = .ok (.if_icmp .ne 26, 3) := by decide +kernel
theorem dX6_laneTwos_42 : decode cX6_laneTwos 42 = .ok (.aload_n 0, 1) := by decide +kernel
theorem dX6_laneTwos_43 : decode cX6_laneTwos 43 = .ok (.getfield 16, 3) := by decide +kernel
theorem dX6_laneTwos_46 : decode cX6_laneTwos 46 = .ok (.iload_n 2, 1) := by decide +kernel
theorem dX6_laneTwos_47 : decode cX6_laneTwos 47 = .ok (.iaload, 1) := by decide +kernel
theorem dX6_laneTwos_48 : decode cX6_laneTwos 48 = .ok (.aload_n 0, 1) := by decide +kernel
theorem dX6_laneTwos_49 : decode cX6_laneTwos 49 = .ok (.getfield 16, 3) := by decide +kernel
theorem dX6_laneTwos_52 : decode cX6_laneTwos 52 = .ok (.iload_n 3, 1) := by decide +kernel
theorem dX6_laneTwos_53 : decode cX6_laneTwos 53 = .ok (.iaload, 1) := by decide +kernel
theorem dX6_laneTwos_54 : decode cX6_laneTwos 54 = .ok (.invokestatic 103, 3) := by decide +kernel
theorem dX6_laneTwos_57 : decode cX6_laneTwos 57 = .ok (.iconst 2, 1) := by decide +kernel
theorem dX6_laneTwos_58 : decode cX6_laneTwos 58 = .ok (.if_icmp .gt 7, 3) := by decide +kernel
theorem dX6_laneTwos_61 : decode cX6_laneTwos 61 = .ok (.iconst 1, 1) := by decide +kernel
theorem dX6_laneTwos_62 : decode cX6_laneTwos 62 = .ok (.goto 4, 3) := by decide +kernel
theorem dX6_laneTwos_65 : decode cX6_laneTwos 65 = .ok (.iconst 0, 1) := by decide +kernel
theorem dX6_laneTwos_66 : decode cX6_laneTwos 66 = .ok (.iadd, 1) := by decide +kernel
theorem dX6_laneTwos_67 : decode cX6_laneTwos 67 = .ok (.istore_n 1, 1) := by decide +kernel
theorem dX6_laneTwos_68 : decode cX6_laneTwos 68 = .ok (.iinc 3 1, 3) := by decide +kernel
theorem dX6_laneTwos_71 : decode cX6_laneTwos 71 = .ok (.goto (-55), 3) := by decide +kernel
theorem dX6_laneTwos_74 : decode cX6_laneTwos 74 = .ok (.iinc 2 1, 3) := by decide +kernel
theorem dX6_laneTwos_77 : decode cX6_laneTwos 77 = .ok (.goto (-73), 3) := by decide +kernel
theorem dX6_laneTwos_80 : decode cX6_laneTwos 80 = .ok (.iload_n 1, 1) := by decide +kernel
theorem dX6_laneTwos_81 : decode cX6_laneTwos 81 = .ok (.ireturn, 1) := by decide +kernel
theorem dX6_darkBits_0 : decode cX6_darkBits 0 = .ok (.iconst 0, 1) := by decide +kernel
theorem dX6_darkBits_1 : decode cX6_darkBits 1 = .ok (.istore_n 1, 1) := by decide +kernel
theorem dX6_darkBits_2 : decode cX6_darkBits 2 = .ok (.iconst 0, 1) := by decide +kernel
theorem dX6_darkBits_3 : decode cX6_darkBits 3 = .ok (.istore_n 2, 1) := by decide +kernel
theorem dX6_darkBits_4 : decode cX6_darkBits 4 = .ok (.iload_n 2, 1) := by decide +kernel
theorem dX6_darkBits_5 : decode cX6_darkBits 5 = .ok (.aload_n 0, 1) := by decide +kernel
theorem dX6_darkBits_6 : decode cX6_darkBits 6 = .ok (.getfield 89, 3) := by decide +kernel
theorem dX6_darkBits_9 : decode cX6_darkBits 9 = .ok (.if_icmp .ge 28, 3) := by decide +kernel
theorem dX6_darkBits_12 : decode cX6_darkBits 12 = .ok (.iload_n 1, 1) := by decide +kernel
theorem dX6_darkBits_13 : decode cX6_darkBits 13 = .ok (.aload_n 0, 1) := by decide +kernel
theorem dX6_darkBits_14 : decode cX6_darkBits 14 = .ok (.getfield 19, 3) := by decide +kernel
theorem dX6_darkBits_17 : decode cX6_darkBits 17 = .ok (.iload_n 2, 1) := by decide +kernel
theorem dX6_darkBits_18 : decode cX6_darkBits 18 = .ok (.iaload, 1) := by decide +kernel
theorem dX6_darkBits_19 : decode cX6_darkBits 19 = .ok (.ifCond .ne 9, 3) := by decide +kernel
theorem dX6_darkBits_22 : decode cX6_darkBits 22 = .ok (.iconst 1, 1) := by decide +kernel
theorem dX6_darkBits_23 : decode cX6_darkBits 23 = .ok (.iload_n 2, 1) := by decide +kernel
theorem dX6_darkBits_24 : decode cX6_darkBits 24 = .ok (.ishl, 1) := by decide +kernel
theorem dX6_darkBits_25 : decode cX6_darkBits 25 = .ok (.goto 4, 3) := by decide +kernel
theorem dX6_darkBits_28 : decode cX6_darkBits 28 = .ok (.iconst 0, 1) := by decide +kernel
theorem dX6_darkBits_29 : decode cX6_darkBits 29 = .ok (.ior, 1) := by decide +kernel
theorem dX6_darkBits_30 : decode cX6_darkBits 30 = .ok (.istore_n 1, 1) := by decide +kernel
theorem dX6_darkBits_31 : decode cX6_darkBits 31 = .ok (.iinc 2 1, 3) := by decide +kernel
theorem dX6_darkBits_34 : decode cX6_darkBits 34 = .ok (.goto (-30), 3) := by decide +kernel
theorem dX6_darkBits_37 : decode cX6_darkBits 37 = .ok (.iload_n 1, 1) := by decide +kernel
theorem dX6_darkBits_38 : decode cX6_darkBits 38 = .ok (.ireturn, 1) := by decide +kernel
theorem dX6_oldest_0 : decode cX6_oldest 0 = .ok (.aload_n 0, 1) := by decide +kernel
theorem dX6_oldest_1 : decode cX6_oldest 1 = .ok (.iconst 0, 1) := by decide +kernel
theorem dX6_oldest_2 : decode cX6_oldest 2 = .ok (.putfield 79, 3) := by decide +kernel
theorem dX6_oldest_5 : decode cX6_oldest 5 = .ok (.iload_n 1, 1) := by decide +kernel
theorem dX6_oldest_6 : decode cX6_oldest 6 = .ok (.tableswitch 63 0 3 #[30, 48, 53, 58], 30) := by decide +kernel
theorem dX6_oldest_36 : decode cX6_oldest 36 = .ok (.aload_n 0, 1) := by decide +kernel
theorem dX6_oldest_37 : decode cX6_oldest 37 = .ok (.invokevirtual 291, 3) := by decide +kernel
theorem dX6_oldest_40 : decode cX6_oldest 40 = .ok (.ifCond .ne 7, 3) := by decide +kernel
theorem dX6_oldest_43 : decode cX6_oldest 43 = .ok (.iconst 0, 1) := by decide +kernel
theorem dX6_oldest_44 : decode cX6_oldest 44 = .ok (.goto 9, 3) := by decide +kernel
theorem dX6_oldest_47 : decode cX6_oldest 47 = .ok (.aload_n 0, 1) := by decide +kernel
theorem dX6_oldest_48 : decode cX6_oldest 48 = .ok (.invokevirtual 291, 3) := by decide +kernel
theorem dX6_oldest_51 : decode cX6_oldest 51 = .ok (.iconst 1, 1) := by decide +kernel
theorem dX6_oldest_52 : decode cX6_oldest 52 = .ok (.isub, 1) := by decide +kernel
theorem dX6_oldest_53 : decode cX6_oldest 53 = .ok (.ireturn, 1) := by decide +kernel
theorem dX6_oldest_54 : decode cX6_oldest 54 = .ok (.aload_n 0, 1) := by decide +kernel
theorem dX6_oldest_55 : decode cX6_oldest 55 = .ok (.invokevirtual 294, 3) := by decide +kernel
theorem dX6_oldest_58 : decode cX6_oldest 58 = .ok (.ireturn, 1) := by decide +kernel
theorem dX6_oldest_59 : decode cX6_oldest 59 = .ok (.aload_n 0, 1) := by decide +kernel
theorem dX6_oldest_60 : decode cX6_oldest 60 = .ok (.invokevirtual 297, 3) := by decide +kernel
theorem dX6_oldest_63 : decode cX6_oldest 63 = .ok (.ireturn, 1) := by decide +kernel
theorem dX6_oldest_64 : decode cX6_oldest 64 = .ok (.aload_n 0, 1) := by decide +kernel
theorem dX6_oldest_65 : decode cX6_oldest 65 = .ok (.invokevirtual 300, 3) := by decide +kernel
theorem dX6_oldest_68 : decode cX6_oldest 68 = .ok (.ireturn, 1) := by decide +kernel
theorem dX6_oldest_69 : decode cX6_oldest 69 = .ok (.aload_n 0, 1) := by decide +kernel
theorem dX6_oldest_70 : decode cX6_oldest 70 = .ok (.bipush (-2), 2) := by decide +kernel
theorem dX6_oldest_72 : decode cX6_oldest 72 = .ok (.invokevirtual 143, 3) := by decide +kernel
theorem dX6_oldest_75 : decode cX6_oldest 75 = .ok (.ireturn, 1) := by decide +kernel
theorem dX6_mean_0 : decode cX6_mean 0 = .ok (.aload_n 0, 1) := by decide +kernel
theorem dX6_mean_1 : decode cX6_mean 1 = .ok (.iconst 0, 1) := by decide +kernel
theorem dX6_mean_2 : decode cX6_mean 2 = .ok (.putfield 79, 3) := by decide +kernel
theorem dX6_mean_5 : decode cX6_mean 5 = .ok (.iload_n 1, 1) := by decide +kernel
theorem dX6_mean_6 : decode cX6_mean 6 = .ok (.i2l, 1) := by decide +kernel
theorem dX6_mean_7 : decode cX6_mean 7 = .ok (.lconst 0, 1) := by decide +kernel
theorem dX6_mean_8 : decode cX6_mean 8 = .ok (.lconst 1, 1) := by decide +kernel
theorem dX6_mean_9 : decode cX6_mean 9 = .ok (.invokestatic 85, 3) := by decide +kernel
theorem dX6_mean_12 : decode cX6_mean 12 = .ok (.ifCond .eq 20, 3) := by decide +kernel
theorem dX6_mean_15 : decode cX6_mean 15 = .ok (.aload_n 0, 1) := by decide +kernel
theorem dX6_mean_16 : decode cX6_mean 16 = .ok (.invokevirtual 253, 3) := by decide +kernel
theorem dX6_mean_19 : decode cX6_mean 19 = .ok (.i2l, 1) := by decide +kernel
theorem dX6_mean_20 : decode cX6_mean 20 = .ok (.aload_n 0, 1) := by decide +kernel
theorem dX6_mean_21 : decode cX6_mean 21 = .ok (.getfield 92, 3) := by decide +kernel
theorem dX6_mean_24 : decode cX6_mean 24 = .ok (.i2l, 1) := by decide +kernel
theorem dX6_mean_25 : decode cX6_mean 25 = .ok (.iload_n 1, 1) := by decide +kernel
theorem dX6_mean_26 : decode cX6_mean 26 = .ok (.invokestatic 287, 3) := by decide +kernel
theorem dX6_mean_29 : decode cX6_mean 29 = .ok (.goto 14, 3) := by decide +kernel
theorem dX6_mean_32 : decode cX6_mean 32 = .ok (.ldc2_w 285, 3) := by decide +kernel
theorem dX6_mean_35 : decode cX6_mean 35 = .ok (.aload_n 0, 1) := by decide +kernel
theorem dX6_mean_36 : decode cX6_mean 36 = .ok (.bipush (-2), 2) := by decide +kernel
theorem dX6_mean_38 : decode cX6_mean 38 = .ok (.invokevirtual 143, 3) := by decide +kernel
theorem dX6_mean_41 : decode cX6_mean 41 = .ok (.i2l, 1) := by decide +kernel
theorem dX6_mean_42 : decode cX6_mean 42 = .ok (.lsub, 1) := by decide +kernel
theorem dX6_mean_43 : decode cX6_mean 43 = .ok (.lreturn, 1) := by decide +kernel
theorem dX6_forgiven_0 : decode cX6_forgiven 0 = .ok (.aload_n 0, 1) := by decide +kernel
theorem dX6_forgiven_1 : decode cX6_forgiven 1 = .ok (.iconst 0, 1) := by decide +kernel
theorem dX6_forgiven_2 : decode cX6_forgiven 2 = .ok (.putfield 79, 3) := by decide +kernel
theorem dX6_forgiven_5 : decode cX6_forgiven 5 = .ok (.iconst 0, 1) := by decide +kernel
theorem dX6_forgiven_6 : decode cX6_forgiven 6 = .ok (.istore_n 1, 1) := by decide +kernel
theorem dX6_forgiven_7 : decode cX6_forgiven 7 = .ok (.iconst 0, 1) := by decide +kernel
theorem dX6_forgiven_8 : decode cX6_forgiven 8 = .ok (.istore_n 2, 1) := by decide +kernel
theorem dX6_forgiven_9 : decode cX6_forgiven 9 = .ok (.iload_n 2, 1) := by decide +kernel
theorem dX6_forgiven_10 : decode cX6_forgiven 10 = .ok (.aload_n 0, 1) := by decide +kernel
theorem dX6_forgiven_11 : decode cX6_forgiven 11 = .ok (.getfield 92, 3) := by decide +kernel
theorem dX6_forgiven_14 : decode cX6_forgiven 14 = .ok (.if_icmp .ge 66, 3) := by decide +kernel
theorem dX6_forgiven_17 : decode cX6_forgiven 17 = .ok (.iconst 0, 1) := by decide +kernel
theorem dX6_forgiven_18 : decode cX6_forgiven 18 = .ok (.istore_n 3, 1) := by decide +kernel
theorem dX6_forgiven_19 : decode cX6_forgiven 19 = .ok (.iload_n 3, 1) := by decide +kernel
theorem dX6_forgiven_20 : decode cX6_forgiven 20 = .ok (.aload_n 0, 1) := by decide +kernel
theorem dX6_forgiven_21 : decode cX6_forgiven 21 = .ok (.getfield 89, 3) := by decide +kernel
theorem dX6_forgiven_24 : decode cX6_forgiven 24 = .ok (.if_icmp .ge 50, 3) := by decide +kernel
theorem dX6_forgiven_27 : decode cX6_forgiven 27 = .ok (.aload_n 0, 1) := by decide +kernel
theorem dX6_forgiven_28 : decode cX6_forgiven 28 = .ok (.getfield 31, 3) := by decide +kernel
theorem dX6_forgiven_31 : decode cX6_forgiven 31 = .ok (.bipush 7, 2) := by decide +kernel
theorem dX6_forgiven_33 : decode cX6_forgiven 33 = .ok (.iload_n 2, 1) := by decide +kernel
theorem dX6_forgiven_34 : decode cX6_forgiven 34 = .ok (.imul, 1) := by decide +kernel
theorem dX6_forgiven_35 : decode cX6_forgiven 35 = .ok (.iload_n 3, 1) := by decide +kernel
theorem dX6_forgiven_36 : decode cX6_forgiven 36 = .ok (.iadd, 1) := by decide +kernel
theorem dX6_forgiven_37 : decode cX6_forgiven 37 = .ok (.iaload, 1) := by decide +kernel
theorem dX6_forgiven_38 : decode cX6_forgiven 38 = .ok (.istore 4, 2) := by decide +kernel
theorem dX6_forgiven_40 : decode cX6_forgiven 40 = .ok (.iload_n 1, 1) := by decide +kernel
theorem dX6_forgiven_41 : decode cX6_forgiven 41 = .ok (.iload 4, 2) := by decide +kernel
theorem dX6_forgiven_43 : decode cX6_forgiven 43 = .ok (.ifCond .le 22, 3) := by decide +kernel
theorem dX6_forgiven_46 : decode cX6_forgiven 46 = .ok (.aload_n 0, 1) := by decide +kernel
theorem dX6_forgiven_47 : decode cX6_forgiven 47 = .ok (.iload_n 3, 1) := by decide +kernel
theorem dX6_forgiven_48 : decode cX6_forgiven 48 = .ok (.iload 4, 2) := by decide +kernel
theorem dX6_forgiven_50 : decode cX6_forgiven 50 = .ok (.iconst 1, 1) := by decide +kernel
theorem dX6_forgiven_51 : decode cX6_forgiven 51 = .ok (.isub, 1) := by decide +kernel
theorem dX6_forgiven_52 : decode cX6_forgiven 52 = .ok (.invokevirtual 110, 3) := by decide +kernel
theorem dX6_forgiven_55 : decode cX6_forgiven 55 = .ok (.aload_n 0, 1) := by decide +kernel
theorem dX6_forgiven_56 : decode cX6_forgiven 56 = .ok (.iload_n 3, 1) := by decide +kernel
theorem dX6_forgiven_57 : decode cX6_forgiven 57 = .ok (.iconst 0, 1) := by decide +kernel
theorem dX6_forgiven_58 : decode cX6_forgiven 58 = .ok (.invokevirtual 110, 3) := by decide +kernel
theorem dX6_forgiven_61 : decode cX6_forgiven 61 = .ok (.isub, 1) := by decide +kernel
theorem dX6_forgiven_62 : decode cX6_forgiven 62 = .ok (.goto 4, 3) := by decide +kernel
theorem dX6_forgiven_65 : decode cX6_forgiven 65 = .ok (.iconst 0, 1) := by decide +kernel
theorem dX6_forgiven_66 : decode cX6_forgiven 66 = .ok (.iadd, 1) := by decide +kernel
theorem dX6_forgiven_67 : decode cX6_forgiven 67 = .ok (.istore_n 1, 1) := by decide +kernel
theorem dX6_forgiven_68 : decode cX6_forgiven 68 = .ok (.iinc 3 1, 3) := by decide +kernel
theorem dX6_forgiven_71 : decode cX6_forgiven 71 = .ok (.goto (-52), 3) := by decide +kernel
theorem dX6_forgiven_74 : decode cX6_forgiven 74 = .ok (.iinc 2 1, 3) := by decide +kernel
theorem dX6_forgiven_77 : decode cX6_forgiven 77 = .ok (.goto (-68), 3) := by decide +kernel
theorem dX6_forgiven_80 : decode cX6_forgiven 80 = .ok (.iload_n 1, 1) := by decide +kernel
theorem dX6_forgiven_81 : decode cX6_forgiven 81 = .ok (.ireturn, 1) := by decide +kernel
theorem dX6_nearest_0 : decode cX6_nearest 0 = .ok (.aload_n 0, 1) := by decide +kernel
theorem dX6_nearest_1 : decode cX6_nearest 1 = .ok (.iconst 0, 1) := by decide +kernel
theorem dX6_nearest_2 : decode cX6_nearest 2 = .ok (.putfield 79, 3) := by decide +kernel
theorem dX6_nearest_5 : decode cX6_nearest 5 = .ok (.aload_n 0, 1) := by decide +kernel
theorem dX6_nearest_6 : decode cX6_nearest 6 = .ok (.iload_n 1, 1) := by decide +kernel
theorem dX6_nearest_7 : decode cX6_nearest 7 = .ok (.invokevirtual 184, 3) := by decide +kernel
theorem dX6_nearest_10 : decode cX6_nearest 10 = .ok (.ifCond .ne 9, 3) := by decide +kernel
theorem dX6_nearest_13 : decode cX6_nearest 13 = .ok (.aload_n 0, 1) := by decide +kernel
theorem dX6_nearest_14 : decode cX6_nearest 14 = .ok (.iconst (-1), 1) := by decide +kernel
theorem dX6_nearest_15 : decode cX6_nearest 15 = .ok (.invokevirtual 143, 3) := by decide +kernel
theorem dX6_nearest_18 : decode cX6_nearest 18 = .ok (.ireturn, 1) := by decide +kernel
theorem dX6_nearest_19 : decode cX6_nearest 19 = .ok (.bipush (-9), 2) := by decide +kernel
theorem dX6_nearest_21 : decode cX6_nearest 21 = .ok (.istore_n 2, 1) := by decide +kernel
theorem dX6_nearest_22 : decode cX6_nearest 22 = .ok (.bipush 99, 2) := by decide +kernel
theorem dX6_nearest_24 : decode cX6_nearest 24 = .ok (.istore_n 3, 1) := by decide +kernel
theorem dX6_nearest_25 : decode cX6_nearest 25 = .ok (.iconst 0, 1) := by decide +kernel
theorem dX6_nearest_26 : decode cX6_nearest 26 = .ok (.istore 4, 2) := by decide +kernel
theorem dX6_nearest_28 : decode cX6_nearest 28 = .ok (.iload 4, 2) := by decide +kernel
theorem dX6_nearest_30 : decode cX6_nearest 30 = .ok (.aload_n 0, 1) := by decide +kernel
theorem dX6_nearest_31 : decode cX6_nearest 31 = .ok (.getfield 89, 3) := by decide +kernel
theorem dX6_nearest_34 : decode cX6_nearest 34 = .ok (.if_icmp .ge 73, 3) := by decide +kernel
theorem dX6_nearest_37 : decode cX6_nearest 37 = .ok (.aload_n 0, 1) := by decide +kernel
theorem dX6_nearest_38 : decode cX6_nearest 38 = .ok (.getfield 31, 3) := by decide +kernel
theorem dX6_nearest_41 : decode cX6_nearest 41 = .ok (.bipush 7, 2) := by decide +kernel
theorem dX6_nearest_43 : decode cX6_nearest 43 = .ok (.iload_n 1, 1) := by decide +kernel
theorem dX6_nearest_44 : decode cX6_nearest 44 = .ok (.imul, 1) := by decide +kernel
theorem dX6_nearest_45 : decode cX6_nearest 45 = .ok (.iload 4, 2) := by decide +kernel
theorem dX6_nearest_47 : decode cX6_nearest 47 = .ok (.iadd, 1) := by decide +kernel
theorem dX6_nearest_48 : decode cX6_nearest 48 = .ok (.iaload, 1) := by decide +kernel
theorem dX6_nearest_49 : decode cX6_nearest 49 = .ok (.ifCond .le 22, 3) := by decide +kernel
theorem dX6_nearest_52 : decode cX6_nearest 52 = .ok (.aload_n 0, 1) := by decide +kernel
theorem dX6_nearest_53 : decode cX6_nearest 53 = .ok (.getfield 22, 3) := by decide +kernel
theorem dX6_nearest_56 : decode cX6_nearest 56 = .ok (.iload_n 1, 1) := by decide +kernel
theorem dX6_nearest_57 : decode cX6_nearest 57 = .ok (.iaload, 1) := by decide +kernel
theorem dX6_nearest_58 : decode cX6_nearest 58 = .ok (.aload_n 0, 1) := by decide +kernel
theorem dX6_nearest_59 : decode cX6_nearest 59 = .ok (.getfield 16, 3) := by decide +kernel
theorem dX6_nearest_62 : decode cX6_nearest 62 = .ok (.iload 4, 2) := by decide +kernel
theorem dX6_nearest_64 : decode cX6_nearest 64 = .ok (.iaload, 1) := by decide +kernel
theorem dX6_nearest_65 : decode cX6_nearest 65 = .ok (.invokestatic 103, 3) := by decide +kernel
theorem dX6_nearest_68 : decode cX6_nearest 68 = .ok (.goto 5, 3) := by decide +kernel
theorem dX6_nearest_71 : decode cX6_nearest 71 = .ok (.bipush 99, 2) := by decide +kernel
theorem dX6_nearest_73 : decode cX6_nearest 73 = .ok (.istore 5, 2) := by decide +kernel
theorem dX6_nearest_75 : decode cX6_nearest 75 = .ok (.iload 5, 2) := by decide +kernel
theorem dX6_nearest_77 : decode cX6_nearest 77 = .ok (.iload_n 3, 1) := by decide +kernel
theorem dX6_nearest_78 : decode cX6_nearest 78 = .ok (.if_icmp .ge 8, 3) := by decide +kernel
theorem dX6_nearest_81 : decode cX6_nearest 81 = .ok (.iload 4, 2) := by decide +kernel
theorem dX6_nearest_83 : decode cX6_nearest 83 = .ok (.goto 4, 3) := by decide +kernel
theorem dX6_nearest_86 : decode cX6_nearest 86 = .ok (.iload_n 2, 1) := by decide +kernel
theorem dX6_nearest_87 : decode cX6_nearest 87 = .ok (.istore_n 2, 1) := by decide +kernel
theorem dX6_nearest_88 : decode cX6_nearest 88 = .ok (.iload 5, 2) := by decide +kernel
theorem dX6_nearest_90 : decode cX6_nearest 90 = .ok (.iload_n 3, 1) := by decide +kernel
theorem dX6_nearest_91 : decode cX6_nearest 91 = .ok (.if_icmp .ge 8, 3) := by decide +kernel
theorem dX6_nearest_94 : decode cX6_nearest 94 = .ok (.iload 5, 2) := by decide +kernel
theorem dX6_nearest_96 : decode cX6_nearest 96 = .ok (.goto 4, 3) := by decide +kernel
theorem dX6_nearest_99 : decode cX6_nearest 99 = .ok (.iload_n 3, 1) := by decide +kernel
theorem dX6_nearest_100 : decode cX6_nearest 100 = .ok (.istore_n 3, 1) := by decide +kernel
theorem dX6_nearest_101 : decode cX6_nearest 101 = .ok (.iinc 4 1, 3) := by decide +kernel
theorem dX6_nearest_104 : decode cX6_nearest 104 = .ok (.goto (-76), 3) := by decide +kernel
theorem dX6_nearest_107 : decode cX6_nearest 107 = .ok (.iload_n 2, 1) := by decide +kernel
theorem dX6_nearest_108 : decode cX6_nearest 108 = .ok (.ireturn, 1) := by decide +kernel
theorem dX6_allSeen_0 : decode cX6_allSeen 0 = .ok (.aload_n 0, 1) := by decide +kernel
theorem dX6_allSeen_1 : decode cX6_allSeen 1 = .ok (.iconst 0, 1) := by decide +kernel
theorem dX6_allSeen_2 : decode cX6_allSeen 2 = .ok (.putfield 79, 3) := by decide +kernel
theorem dX6_allSeen_5 : decode cX6_allSeen 5 = .ok (.aload_n 0, 1) := by decide +kernel
theorem dX6_allSeen_6 : decode cX6_allSeen 6 = .ok (.iload_n 1, 1) := by decide +kernel
theorem dX6_allSeen_7 : decode cX6_allSeen 7 = .ok (.invokevirtual 181, 3) := by decide +kernel
theorem dX6_allSeen_10 : decode cX6_allSeen 10 = .ok (.ifCond .ne 9, 3) := by decide +kernel
theorem dX6_allSeen_13 : decode cX6_allSeen 13 = .ok (.aload_n 0, 1) := by decide +kernel
theorem dX6_allSeen_14 : decode cX6_allSeen 14 = .ok (.iconst (-1), 1) := by decide +kernel
theorem dX6_allSeen_15 : decode cX6_allSeen 15 = .ok (.invokevirtual 143, 3) := by decide +kernel
theorem dX6_allSeen_18 : decode cX6_allSeen 18 = .ok (.ireturn, 1) := by decide +kernel
theorem dX6_allSeen_19 : decode cX6_allSeen 19 = .ok (.iconst 0, 1) := by decide +kernel
theorem dX6_allSeen_20 : decode cX6_allSeen 20 = .ok (.istore_n 2, 1) := by decide +kernel
theorem dX6_allSeen_21 : decode cX6_allSeen 21 = .ok (.iconst 0, 1) := by decide +kernel
theorem dX6_allSeen_22 : decode cX6_allSeen 22 = .ok (.istore_n 3, 1) := by decide +kernel
theorem dX6_allSeen_23 : decode cX6_allSeen 23 = .ok (.iload_n 3, 1) := by decide +kernel
theorem dX6_allSeen_24 : decode cX6_allSeen 24 = .ok (.bipush 49, 2) := by decide +kernel
theorem dX6_allSeen_26 : decode cX6_allSeen 26 = .ok (.if_icmp .ge 35, 3) := by decide +kernel
theorem dX6_allSeen_29 : decode cX6_allSeen 29 = .ok (.iload_n 2, 1) := by decide +kernel
theorem dX6_allSeen_30 : decode cX6_allSeen 30 = .ok (.iload_n 3, 1) := by decide +kernel
theorem dX6_allSeen_31 : decode cX6_allSeen 31 = .ok (.aload_n 0, 1) := by decide +kernel
theorem dX6_allSeen_32 : decode cX6_allSeen 32 = .ok (.getfield 16, 3) := by decide +kernel
theorem dX6_allSeen_35 : decode cX6_allSeen 35 = .ok (.iload_n 1, 1) := by decide +kernel
theorem dX6_allSeen_36 : decode cX6_allSeen 36 = .ok (.iaload, 1) := by decide +kernel
theorem dX6_allSeen_37 : decode cX6_allSeen 37 = .ok (.invokestatic 103, 3) := by decide +kernel
theorem dX6_allSeen_40 : decode cX6_allSeen 40 = .ok (.aload_n 0, 1) := by decide +kernel
theorem dX6_allSeen_41 : decode cX6_allSeen 41 = .ok (.iload_n 1, 1) := by decide +kernel
theorem dX6_allSeen_42 : decode cX6_allSeen 42 = .ok (.invokevirtual 99, 3) := by decide +kernel
theorem dX6_allSeen_45 : decode cX6_allSeen 45 = .ok (.if_icmp .gt 7, 3) := by decide +kernel
theorem dX6_allSeen_48 : decode cX6_allSeen 48 = .ok (.iconst 1, 1) := by decide +kernel
theorem dX6_allSeen_49 : decode cX6_allSeen 49 = .ok (.goto 4, 3) := by decide +kernel
theorem dX6_allSeen_52 : decode cX6_allSeen 52 = .ok (.iconst 0, 1) := by decide +kernel
theorem dX6_allSeen_53 : decode cX6_allSeen 53 = .ok (.iadd, 1) := by decide +kernel
theorem dX6_allSeen_54 : decode cX6_allSeen 54 = .ok (.istore_n 2, 1) := by decide +kernel
theorem dX6_allSeen_55 : decode cX6_allSeen 55 = .ok (.iinc 3 1, 3) := by decide +kernel
theorem dX6_allSeen_58 : decode cX6_allSeen 58 = .ok (.goto (-35), 3) := by decide +kernel
theorem dX6_allSeen_61 : decode cX6_allSeen 61 = .ok (.iload_n 2, 1) := by decide +kernel
theorem dX6_allSeen_62 : decode cX6_allSeen 62 = .ok (.ireturn, 1) := by decide +kernel
theorem dX6_gaps_0 : decode cX6_gaps 0 = .ok (.aload_n 0, 1) := by decide +kernel
theorem dX6_gaps_1 : decode cX6_gaps 1 = .ok (.iconst 0, 1) := by decide +kernel
theorem dX6_gaps_2 : decode cX6_gaps 2 = .ok (.putfield 79, 3) := by decide +kernel
theorem dX6_gaps_5 : decode cX6_gaps 5 = .ok (.bipush (-9), 2) := by decide +kernel
theorem dX6_gaps_7 : decode cX6_gaps 7 = .ok (.istore_n 1, 1) := by decide +kernel
theorem dX6_gaps_8 : decode cX6_gaps 8 = .ok (.aload_n 0, 1) := by decide +kernel
theorem dX6_gaps_9 : decode cX6_gaps 9 = .ok (.invokevirtual 196, 3) := by decide +kernel
theorem dX6_gaps_12 : decode cX6_gaps 12 = .ok (.iconst 0, 1) := by decide +kernel
theorem dX6_gaps_13 : decode cX6_gaps 13 = .ok (.istore_n 2, 1) := by decide +kernel
theorem dX6_gaps_14 : decode cX6_gaps 14 = .ok (.iload_n 2, 1) := by decide +kernel
theorem dX6_gaps_15 : decode cX6_gaps 15 = .ok (.bipush 60, 2) := by decide +kernel
theorem dX6_gaps_17 : decode cX6_gaps 17 = .ok (.if_icmp .gt 38, 3) := by decide +kernel
theorem dX6_gaps_20 : decode cX6_gaps 20 = .ok (.iload_n 1, 1) := by decide +kernel
theorem dX6_gaps_21 : decode cX6_gaps 21 = .ok (.ifCond .ge 34, 3) := by decide +kernel
theorem dX6_gaps_24 : decode cX6_gaps 24 = .ok (.aload_n 0, 1) := by decide +kernel
theorem dX6_gaps_25 : decode cX6_gaps 25 = .ok (.invokevirtual 247, 3) := by decide +kernel
theorem dX6_gaps_28 : decode cX6_gaps 28 = .ok (.istore_n 3, 1) := by decide +kernel
theorem dX6_gaps_29 : decode cX6_gaps 29 = .ok (.aload_n 0, 1) := by decide +kernel
theorem dX6_gaps_30 : decode cX6_gaps 30 = .ok (.iconst 0, 1) := by decide +kernel
theorem dX6_gaps_31 : decode cX6_gaps 31 = .ok (.invokevirtual 135, 3) := by decide +kernel
theorem dX6_gaps_34 : decode cX6_gaps 34 = .ok (.aload_n 0, 1) := by decide +kernel
theorem dX6_gaps_35 : decode cX6_gaps 35 = .ok (.invokevirtual 247, 3) := by decide +kernel
theorem dX6_gaps_38 : decode cX6_gaps 38 = .ok (.iload_n 3, 1) := by decide +kernel
theorem dX6_gaps_39 : decode cX6_gaps 39 = .ok (.if_icmp .ne 7, 3) := by decide +kernel
theorem dX6_gaps_42 : decode cX6_gaps 42 = .ok (.iload_n 2, 1) := by decide +kernel
theorem dX6_gaps_43 : decode cX6_gaps 43 = .ok (.goto 5, 3) := by decide +kernel
theorem dX6_gaps_46 : decode cX6_gaps 46 = .ok (.bipush (-9), 2) := by decide +kernel
theorem dX6_gaps_48 : decode cX6_gaps 48 = .ok (.istore_n 1, 1) := by decide +kernel
theorem dX6_gaps_49 : decode cX6_gaps 49 = .ok (.iinc 2 1, 3) := by decide +kernel
theorem dX6_gaps_52 : decode cX6_gaps 52 = .ok (.goto (-38), 3) := by decide +kernel
theorem dX6_gaps_55 : decode cX6_gaps 55 = .ok (.aload_n 0, 1) := by decide +kernel
theorem dX6_gaps_56 : decode cX6_gaps 56 = .ok (.invokevirtual 202, 3) := by decide +kernel
theorem dX6_gaps_59 : decode cX6_gaps 59 = .ok (.iload_n 1, 1) := by decide +kernel
theorem dX6_gaps_60 : decode cX6_gaps 60 = .ok (.ireturn, 1) := by decide +kernel
theorem dX6_blind_0 : decode cX6_blind 0 = .ok (.aload_n 0, 1) := by decide +kernel
theorem dX6_blind_1 : decode cX6_blind 1 = .ok (.iconst 0, 1) := by decide +kernel
theorem dX6_blind_2 : decode cX6_blind 2 = .ok (.putfield 79, 3) := by decide +kernel
theorem dX6_blind_5 : decode cX6_blind 5 = .ok (.iconst 0, 1) := by decide +kernel
theorem dX6_blind_6 : decode cX6_blind 6 = .ok (.istore_n 1, 1) := by decide +kernel
theorem dX6_blind_7 : decode cX6_blind 7 = .ok (.iconst 0, 1) := by decide +kernel
theorem dX6_blind_8 : decode cX6_blind 8 = .ok (.istore_n 2, 1) := by decide +kernel
theorem dX6_blind_9 : decode cX6_blind 9 = .ok (.iload_n 2, 1) := by decide +kernel
theorem dX6_blind_10 : decode cX6_blind 10 = .ok (.aload_n 0, 1) := by decide +kernel
theorem dX6_blind_11 : decode cX6_blind 11 = .ok (.getfield 92, 3) := by decide +kernel
theorem dX6_blind_14 : decode cX6_blind 14 = .ok (.if_icmp .ge 33, 3) := by decide +kernel
theorem dX6_blind_17 : decode cX6_blind 17 = .ok (.iload_n 1, 1) := by decide +kernel
theorem dX6_blind_18 : decode cX6_blind 18 = .ok (.aload_n 0, 1) := by decide +kernel
theorem dX6_blind_19 : decode cX6_blind 19 = .ok (.iload_n 2, 1) := by decide +kernel
theorem dX6_blind_20 : decode cX6_blind 20 = .ok (.aload_n 0, 1) := by decide +kernel
theorem dX6_blind_21 : decode cX6_blind 21 = .ok (.getfield 22, 3) := by decide +kernel
theorem dX6_blind_24 : decode cX6_blind 24 = .ok (.iload_n 2, 1) := by decide +kernel
theorem dX6_blind_25 : decode cX6_blind 25 = .ok (.iaload, 1) := by decide +kernel
theorem dX6_blind_26 : decode cX6_blind 26 = .ok (.invokevirtual 128, 3) := by decide +kernel
theorem dX6_blind_29 : decode cX6_blind 29 = .ok (.ifCond .ne 9, 3) := by decide +kernel
theorem dX6_blind_32 : decode cX6_blind 32 = .ok (.iconst 1, 1) := by decide +kernel
theorem dX6_blind_33 : decode cX6_blind 33 = .ok (.iload_n 2, 1) := by decide +kernel
theorem dX6_blind_34 : decode cX6_blind 34 = .ok (.ishl, 1) := by decide +kernel
theorem dX6_blind_35 : decode cX6_blind 35 = .ok (.goto 4, 3) := by decide +kernel
theorem dX6_blind_38 : decode cX6_blind 38 = .ok (.iconst 0, 1) := by decide +kernel
theorem dX6_blind_39 : decode cX6_blind 39 = .ok (.ior, 1) := by decide +kernel
theorem dX6_blind_40 : decode cX6_blind 40 = .ok (.istore_n 1, 1) := by decide +kernel
theorem dX6_blind_41 : decode cX6_blind 41 = .ok (.iinc 2 1, 3) := by decide +kernel
theorem dX6_blind_44 : decode cX6_blind 44 = .ok (.goto (-35), 3) := by decide +kernel
theorem dX6_blind_47 : decode cX6_blind 47 = .ok (.iload_n 1, 1) := by decide +kernel
theorem dX6_blind_48 : decode cX6_blind 48 = .ok (.ireturn, 1) := by decide +kernel
theorem dX6_moved_0 : decode cX6_moved 0 = .ok (.aload_n 0, 1) := by decide +kernel
theorem dX6_moved_1 : decode cX6_moved 1 = .ok (.iconst 0, 1) := by decide +kernel
theorem dX6_moved_2 : decode cX6_moved 2 = .ok (.putfield 79, 3) := by decide +kernel
theorem dX6_moved_5 : decode cX6_moved 5 = .ok (.aload_n 0, 1) := by decide +kernel
theorem dX6_moved_6 : decode cX6_moved 6 = .ok (.iload_n 1, 1) := by decide +kernel
theorem dX6_moved_7 : decode cX6_moved 7 = .ok (.invokevirtual 184, 3) := by decide +kernel
theorem dX6_moved_10 : decode cX6_moved 10 = .ok (.ifCond .eq 20, 3) := by decide +kernel
theorem dX6_moved_13 : decode cX6_moved 13 = .ok (.iload_n 2, 1) := by decide +kernel
theorem dX6_moved_14 : decode cX6_moved 14 = .ok (.invokestatic 139, 3) := by decide +kernel
theorem dX6_moved_17 : decode cX6_moved 17 = .ok (.ifCond .eq 13, 3) := by decide +kernel
theorem dX6_moved_20 : decode cX6_moved 20 = .ok (.iload_n 3, 1) := by decide +kernel
theorem dX6_moved_21 : decode cX6_moved 21 = .ok (.iconst 0, 1) := by decide +kernel
theorem dX6_moved_22 : decode cX6_moved 22 = .ok (.bipush 60, 2) := by decide +kernel
theorem dX6_moved_24 : decode cX6_moved 24 = .ok (.invokestatic 240, 3) := by decide +kernel
theorem dX6_moved_27 : decode cX6_moved 27 = .ok (.goto 4, 3) := by decide +kernel
theorem dX6_moved_30 : decode cX6_moved 30 = .ok (.iconst (-1), 1) := by decide +kernel
theorem dX6_moved_31 : decode cX6_moved 31 = .ok (.istore 4, 2) := by decide +kernel
theorem dX6_moved_33 : decode cX6_moved 33 = .ok (.iload 4, 2) := by decide +kernel
theorem dX6_moved_35 : decode cX6_moved 35 = .ok (.ifCond .ge 14, 3) := by decide +kernel
theorem dX6_moved_38 : decode cX6_moved 38 = .ok (.ldc_w 271, 3) := by decide +kernel
theorem dX6_moved_41 : decode cX6_moved 41 = .ok (.aload_n 0, 1) := by decide +kernel
theorem dX6_moved_42 : decode cX6_moved 42 = .ok (.iload 4, 2) := by decide +kernel
theorem dX6_moved_44 : decode cX6_moved 44 = .ok (.invokevirtual 143, 3) := by decide +kernel
theorem dX6_moved_47 : decode cX6_moved 47 = .ok (.isub, 1) := by decide +kernel
theorem dX6_moved_48 : decode cX6_moved 48 = .ok (.ireturn, 1) := by decide +kernel
theorem dX6_moved_49 : decode cX6_moved 49 = .ok (.aload_n 0, 1) := by decide +kernel
theorem dX6_moved_50 : decode cX6_moved 50 = .ok (.invokevirtual 196, 3) := by decide +kernel
theorem dX6_moved_53 : decode cX6_moved 53 = .ok (.aload_n 0, 1) := by decide +kernel
theorem dX6_moved_54 : decode cX6_moved 54 = .ok (.iload_n 3, 1) := by decide +kernel
theorem dX6_moved_55 : decode cX6_moved 55 = .ok (.invokevirtual 189, 3) := by decide +kernel
theorem dX6_moved_58 : decode cX6_moved 58 = .ok (.aload_n 0, 1) := by decide +kernel
theorem dX6_moved_59 : decode cX6_moved 59 = .ok (.iload_n 1, 1) := by decide +kernel
theorem dX6_moved_60 : decode cX6_moved 60 = .ok (.invokevirtual 113, 3) := by decide +kernel
theorem dX6_moved_63 : decode cX6_moved 63 = .ok (.istore 5, 2) := by decide +kernel
theorem dX6_moved_65 : decode cX6_moved 65 = .ok (.aload_n 0, 1) := by decide +kernel
theorem dX6_moved_66 : decode cX6_moved 66 = .ok (.invokevirtual 202, 3) := by decide +kernel
theorem dX6_moved_69 : decode cX6_moved 69 = .ok (.aload_n 0, 1) := by decide +kernel
theorem dX6_moved_70 : decode cX6_moved 70 = .ok (.getfield 25, 3) := by decide +kernel
theorem dX6_moved_73 : decode cX6_moved 73 = .ok (.iload_n 1, 1) := by decide +kernel
theorem dX6_moved_74 : decode cX6_moved 74 = .ok (.iload_n 2, 1) := by decide +kernel
theorem dX6_moved_75 : decode cX6_moved 75 = .ok (.iastore, 1) := by decide +kernel
theorem dX6_moved_76 : decode cX6_moved 76 = .ok (.aload_n 0, 1) := by decide +kernel
theorem dX6_moved_77 : decode cX6_moved 77 = .ok (.iload_n 3, 1) := by decide +kernel
theorem dX6_moved_78 : decode cX6_moved 78 = .ok (.invokevirtual 189, 3) := by decide +kernel
theorem dX6_moved_81 : decode cX6_moved 81 = .ok (.aload_n 0, 1) := by decide +kernel
theorem dX6_moved_82 : decode cX6_moved 82 = .ok (.iload_n 1, 1) := by decide +kernel
theorem dX6_moved_83 : decode cX6_moved 83 = .ok (.invokevirtual 113, 3) := by decide +kernel
theorem dX6_moved_86 : decode cX6_moved 86 = .ok (.istore 6, 2) := by decide +kernel
theorem dX6_moved_88 : decode cX6_moved 88 = .ok (.aload_n 0, 1) := by decide +kernel
theorem dX6_moved_89 : decode cX6_moved 89 = .ok (.invokevirtual 202, 3) := by decide +kernel
theorem dX6_moved_92 : decode cX6_moved 92 = .ok (.iload 6, 2) := by decide +kernel
theorem dX6_moved_94 : decode cX6_moved 94 = .ok (.iload 5, 2) := by decide +kernel
theorem dX6_moved_96 : decode cX6_moved 96 = .ok (.isub, 1) := by decide +kernel
theorem dX6_moved_97 : decode cX6_moved 97 = .ok (.ireturn, 1) := by decide +kernel
theorem dX6_street_0 : decode cX6_street 0 = .ok (.aload_n 0, 1) := by decide +kernel
theorem dX6_street_1 : decode cX6_street 1 = .ok (.iconst 0, 1) := by decide +kernel
theorem dX6_street_2 : decode cX6_street 2 = .ok (.putfield 79, 3) := by decide +kernel
theorem dX6_street_5 : decode cX6_street 5 = .ok (.iload_n 1, 1) := by decide +kernel
theorem dX6_street_6 : decode cX6_street 6 = .ok (.i2l, 1) := by decide +kernel
theorem dX6_street_7 : decode cX6_street 7 = .ok (.lconst 0, 1) := by decide +kernel
theorem dX6_street_8 : decode cX6_street 8 = .ok (.ldc2_w 303, 3) := by decide +kernel
theorem dX6_street_11 : decode cX6_street 11 = .ok (.invokestatic 85, 3) := by decide +kernel
theorem dX6_street_14 : decode cX6_street 14 = .ok (.ifCond .ne 9, 3) := by decide +kernel
theorem dX6_street_17 : decode cX6_street 17 = .ok (.aload_n 0, 1) := by decide +kernel
theorem dX6_street_18 : decode cX6_street 18 = .ok (.iconst (-1), 1) := by decide +kernel
theorem dX6_street_19 : decode cX6_street 19 = .ok (.invokevirtual 143, 3) := by decide +kernel
theorem dX6_street_22 : decode cX6_street 22 = .ok (.ireturn, 1) := by decide +kernel
theorem dX6_street_23 : decode cX6_street 23 = .ok (.iconst 0, 1) := by decide +kernel
theorem dX6_street_24 : decode cX6_street 24 = .ok (.istore_n 2, 1) := by decide +kernel
theorem dX6_street_25 : decode cX6_street 25 = .ok (.iconst 0, 1) := by decide +kernel
theorem dX6_street_26 : decode cX6_street 26 = .ok (.istore_n 3, 1) := by decide +kernel
theorem dX6_street_27 : decode cX6_street 27 = .ok (.iload_n 3, 1) := by decide +kernel
theorem dX6_street_28 : decode cX6_street 28 = .ok (.aload_n 0, 1) := by decide +kernel
theorem dX6_street_29 : decode cX6_street 29 = .ok (.getfield 92, 3) := by decide +kernel
theorem dX6_street_32 : decode cX6_street 32 = .ok (.if_icmp .ge 77, 3) := by decide +kernel
theorem dX6_street_35 : decode cX6_street 35 = .ok (.iconst 0, 1) := by decide +kernel
theorem dX6_street_36 : decode cX6_street 36 = .ok (.istore 4, 2) := by decide +kernel
theorem dX6_street_38 : decode cX6_street 38 = .ok (.iload 4, 2) := by decide +kernel
theorem dX6_street_40 : decode cX6_street 40 = .ok (.aload_n 0, 1) := by decide +kernel
theorem dX6_street_41 : decode cX6_street 41 = .ok (.getfield 89, 3) := by decide +kernel
theorem dX6_street_44 : decode cX6_street 44 = .ok (.if_icmp .ge 59, 3) := by decide +kernel
theorem dX6_street_47 : decode cX6_street 47 = .ok (.aload_n 0, 1) := by decide +kernel
theorem dX6_street_48 : decode cX6_street 48 = .ok (.getfield 31, 3) := by decide +kernel
theorem dX6_street_51 : decode cX6_street 51 = .ok (.bipush 7, 2) := by decide +kernel
theorem dX6_street_53 : decode cX6_street 53 = .ok (.iload_n 3, 1) := by decide +kernel
theorem dX6_street_54 : decode cX6_street 54 = .ok (.imul, 1) := by decide +kernel
theorem dX6_street_55 : decode cX6_street 55 = .ok (.iload 4, 2) := by decide +kernel
theorem dX6_street_57 : decode cX6_street 57 = .ok (.iadd, 1) := by decide +kernel
theorem dX6_street_58 : decode cX6_street 58 = .ok (.iaload, 1) := by decide +kernel
theorem dX6_street_59 : decode cX6_street 59 = .ok (.istore 5, 2) := by decide +kernel
theorem dX6_street_61 : decode cX6_street 61 = .ok (.iload_n 2, 1) := by decide +kernel
theorem dX6_street_62 : decode cX6_street 62 = .ok (.iload 5, 2) := by decide +kernel
theorem dX6_street_64 : decode cX6_street 64 = .ok (.ifCond .le 30, 3) := by decide +kernel
theorem dX6_street_67 : decode cX6_street 67 = .ok (.aload_n 0, 1) := by decide +kernel
theorem dX6_street_68 : decode cX6_street 68 = .ok (.getfield 16, 3) := by decide +kernel
theorem dX6_street_71 : decode cX6_street 71 = .ok (.iload 4, 2) := by decide +kernel
theorem dX6_street_73 : decode cX6_street 73 = .ok (.iaload, 1) := by decide +kernel
theorem dX6_street_74 : decode cX6_street 74 = .ok (.bipush 7, 2) := by decide +kernel
theorem dX6_street_76 : decode cX6_street 76 = .ok (.idiv, 1) := by decide +kernel
theorem dX6_street_77 : decode cX6_street 77 = .ok (.iload_n 1, 1) := by decide +kernel
theorem dX6_street_78 : decode cX6_street 78 = .ok (.if_icmp .ne 16, 3) := by decide +kernel
theorem dX6_street_81 : decode cX6_street 81 = .ok (.aload_n 0, 1) := by decide +kernel
theorem dX6_street_82 : decode cX6_street 82 = .ok (.iload 4, 2) := by decide +kernel
theorem dX6_street_84 : decode cX6_street 84 = .ok (.iload 5, 2) := by decide +kernel
theorem dX6_street_86 : decode cX6_street 86 = .ok (.iconst 1, 1) := by decide +kernel
theorem dX6_street_87 : decode cX6_street 87 = .ok (.isub, 1) := by decide +kernel
theorem dX6_street_88 : decode cX6_street 88 = .ok (.invokevirtual 110, 3) := by decide +kernel
theorem dX6_street_91 : decode cX6_street 91 = .ok (.goto 4, 3) := by decide +kernel
theorem dX6_street_94 : decode cX6_street 94 = .ok (.iconst 0, 1) := by decide +kernel
theorem dX6_street_95 : decode cX6_street 95 = .ok (.iadd, 1) := by decide +kernel
theorem dX6_street_96 : decode cX6_street 96 = .ok (.istore_n 2, 1) := by decide +kernel
theorem dX6_street_97 : decode cX6_street 97 = .ok (.iinc 4 1, 3) := by decide +kernel
theorem dX6_street_100 : decode cX6_street 100 = .ok (.goto (-62), 3) := by decide +kernel
theorem dX6_street_103 : decode cX6_street 103 = .ok (.iinc 3 1, 3) := by decide +kernel
theorem dX6_street_106 : decode cX6_street 106 = .ok (.goto (-79), 3) := by decide +kernel
theorem dX6_street_109 : decode cX6_street 109 = .ok (.iload_n 2, 1) := by decide +kernel
theorem dX6_street_110 : decode cX6_street 110 = .ok (.ireturn, 1) := by decide +kernel
theorem dX6_row_0 : decode cX6_row 0 = .ok (.aload_n 0, 1) := by decide +kernel
theorem dX6_row_1 : decode cX6_row 1 = .ok (.iconst 0, 1) := by decide +kernel
theorem dX6_row_2 : decode cX6_row 2 = .ok (.putfield 79, 3) := by decide +kernel
theorem dX6_row_5 : decode cX6_row 5 = .ok (.iload_n 1, 1) := by decide +kernel
theorem dX6_row_6 : decode cX6_row 6 = .ok (.ifCond .ge 10, 3) := by decide +kernel
theorem dX6_row_9 : decode cX6_row 9 = .ok (.aload_n 0, 1) := by decide +kernel
theorem dX6_row_10 : decode cX6_row 10 = .ok (.bipush (-4), 2) := by decide +kernel
theorem dX6_row_12 : decode cX6_row 12 = .ok (.invokevirtual 143, 3) := by decide +kernel
theorem dX6_row_15 : decode cX6_row 15 = .ok (.ireturn, 1) := by decide +kernel
theorem dX6_row_16 : decode cX6_row 16 = .ok (.iload_n 1, 1) := by decide +kernel
theorem dX6_row_17 : decode cX6_row 17 = .ok (.bipush 99, 2) := by decide +kernel
theorem dX6_row_19 : decode cX6_row 19 = .ok (.if_icmp .gt 12, 3) := by decide +kernel
theorem dX6_row_22 : decode cX6_row 22 = .ok (.aload_n 0, 1) := by decide +kernel
theorem dX6_row_23 : decode cX6_row 23 = .ok (.getfield 275, 3) := by decide +kernel
theorem dX6_row_26 : decode cX6_row 26 = .ok (.bipush 12, 2) := by decide +kernel
theorem dX6_row_28 : decode cX6_row 28 = .ok (.if_icmp .ne 10, 3) := by decide +kernel
theorem dX6_row_31 : decode cX6_row 31 = .ok (.aload_n 0, 1) := by decide +kernel
theorem dX6_row_32 : decode cX6_row 32 = .ok (.bipush (-6), 2) := by decide +kernel
theorem dX6_row_34 : decode cX6_row 34 = .ok (.invokevirtual 143, 3) := by decide +kernel
theorem dX6_row_37 : decode cX6_row 37 = .ok (.ireturn, 1) := by decide +kernel
theorem dX6_row_38 : decode cX6_row 38 = .ok (.aload_n 0, 1) := by decide +kernel
theorem dX6_row_39 : decode cX6_row 39 = .ok (.getfield 73, 3) := by decide +kernel
theorem dX6_row_42 : decode cX6_row 42 = .ok (.aload_n 0, 1) := by decide +kernel
theorem dX6_row_43 : decode cX6_row 43 = .ok (.getfield 275, 3) := by decide +kernel
theorem dX6_row_46 : decode cX6_row 46 = .ok (.iload_n 1, 1) := by decide +kernel
theorem dX6_row_47 : decode cX6_row 47 = .ok (.iastore, 1) := by decide +kernel
theorem dX6_row_48 : decode cX6_row 48 = .ok (.aload_n 0, 1) := by decide +kernel
theorem dX6_row_49 : decode cX6_row 49 = .ok (.dup, 1) := by decide +kernel
theorem dX6_row_50 : decode cX6_row 50 = .ok (.getfield 275, 3) := by decide +kernel
theorem dX6_row_53 : decode cX6_row 53 = .ok (.iconst 1, 1) := by decide +kernel
theorem dX6_row_54 : decode cX6_row 54 = .ok (.iadd, 1) := by decide +kernel
theorem dX6_row_55 : decode cX6_row 55 = .ok (.putfield 275, 3) := by decide +kernel
theorem dX6_row_58 : decode cX6_row 58 = .ok (.aload_n 0, 1) := by decide +kernel
theorem dX6_row_59 : decode cX6_row 59 = .ok (.getfield 275, 3) := by decide +kernel
theorem dX6_row_62 : decode cX6_row 62 = .ok (.ireturn, 1) := by decide +kernel
theorem dX6_judge_0 : decode cX6_judge 0 = .ok (.aload_n 0, 1) := by decide +kernel
theorem dX6_judge_1 : decode cX6_judge 1 = .ok (.iconst 0, 1) := by decide +kernel
theorem dX6_judge_2 : decode cX6_judge 2 = .ok (.putfield 79, 3) := by decide +kernel
theorem dX6_judge_5 : decode cX6_judge 5 = .ok (.aload_n 0, 1) := by decide +kernel
theorem dX6_judge_6 : decode cX6_judge 6 = .ok (.getfield 275, 3) := by decide +kernel
theorem dX6_judge_9 : decode cX6_judge 9 = .ok (.istore_n 1, 1) := by decide +kernel
theorem dX6_judge_10 : decode cX6_judge 10 = .ok (.aload_n 0, 1) := by decide +kernel
theorem dX6_judge_11 : decode cX6_judge 11 = .ok (.iconst 0, 1) := by decide +kernel
theorem dX6_judge_12 : decode cX6_judge 12 = .ok (.putfield 275, 3) := by decide +kernel
theorem dX6_judge_15 : decode cX6_judge 15 = .ok (.iconst 0, 1) := by decide +kernel
theorem dX6_judge_16 : decode cX6_judge 16 = .ok (.istore_n 2, 1) := by decide +kernel
theorem dX6_judge_17 : decode cX6_judge 17 = .ok (.iload_n 2, 1) := by decide +kernel
theorem dX6_judge_18 : decode cX6_judge 18 = .ok (.iload_n 1, 1) := by decide +kernel
theorem dX6_judge_19 : decode cX6_judge 19 = .ok (.if_icmp .ge 36, 3) := by decide +kernel
theorem dX6_judge_22 : decode cX6_judge 22 = .ok (.iload_n 2, 1) := by decide +kernel
theorem dX6_judge_23 : decode cX6_judge 23 = .ok (.aload_n 0, 1) := by decide +kernel
theorem dX6_judge_24 : decode cX6_judge 24 = .ok (.getfield 89, 3) := by decide +kernel
theorem dX6_judge_27 : decode cX6_judge 27 = .ok (.if_icmp .ge 20, 3) := by decide +kernel
theorem dX6_judge_30 : decode cX6_judge 30 = .ok (.aload_n 0, 1) := by decide +kernel
theorem dX6_judge_31 : decode cX6_judge 31 = .ok (.getfield 73, 3) := by decide +kernel
theorem dX6_judge_34 : decode cX6_judge 34 = .ok (.iload_n 2, 1) := by decide +kernel
theorem dX6_judge_35 : decode cX6_judge 35 = .ok (.iaload, 1) := by decide +kernel
theorem dX6_judge_36 : decode cX6_judge 36 = .ok (.aload_n 0, 1) := by decide +kernel
theorem dX6_judge_37 : decode cX6_judge 37 = .ok (.iload_n 2, 1) := by decide +kernel
theorem dX6_judge_38 : decode cX6_judge 38 = .ok (.invokevirtual 229, 3) := by decide +kernel
theorem dX6_judge_41 : decode cX6_judge 41 = .ok (.invokestatic 119, 3) := by decide +kernel
theorem dX6_judge_44 : decode cX6_judge 44 = .ok (.if_icmp .eq 5, 3) := by decide +kernel
theorem dX6_judge_47 : decode cX6_judge 47 = .ok (.iload_n 2, 1) := by decide +kernel
theorem dX6_judge_48 : decode cX6_judge 48 = .ok (.ireturn, 1) := by decide +kernel
theorem dX6_judge_49 : decode cX6_judge 49 = .ok (.iinc 2 1, 3) := by decide +kernel
theorem dX6_judge_52 : decode cX6_judge 52 = .ok (.goto (-35), 3) := by decide +kernel
theorem dX6_judge_55 : decode cX6_judge 55 = .ok (.bipush (-9), 2) := by decide +kernel
theorem dX6_judge_57 : decode cX6_judge 57 = .ok (.ireturn, 1) := by decide +kernel
theorem dX6_empties_0 : decode cX6_empties 0 = .ok (.aload_n 0, 1) := by decide +kernel
theorem dX6_empties_1 : decode cX6_empties 1 = .ok (.iconst 0, 1) := by decide +kernel
theorem dX6_empties_2 : decode cX6_empties 2 = .ok (.putfield 79, 3) := by decide +kernel
theorem dX6_empties_5 : decode cX6_empties 5 = .ok (.aload_n 0, 1) := by decide +kernel
theorem dX6_empties_6 : decode cX6_empties 6 = .ok (.getfield 275, 3) := by decide +kernel
theorem dX6_empties_9 : decode cX6_empties 9 = .ok (.istore_n 1, 1) := by decide +kernel
theorem dX6_empties_10 : decode cX6_empties 10 = .ok (.aload_n 0, 1) := by decide +kernel
theorem dX6_empties_11 : decode cX6_empties 11 = .ok (.iconst 0, 1) := by decide +kernel
theorem dX6_empties_12 : decode cX6_empties 12 = .ok (.putfield 275, 3) := by decide +kernel
theorem dX6_empties_15 : decode cX6_empties 15 = .ok (.iload_n 1, 1) := by decide +kernel
theorem dX6_empties_16 : decode cX6_empties 16 = .ok (.ireturn, 1) := by decide +kernel
theorem dX6_drawBelow_0 : decode cX6_drawBelow 0 = .ok (.aload_n 0, 1) := by decide +kernel
theorem dX6_drawBelow_1 : decode cX6_drawBelow 1 = .ok (.aload_n 0, 1) := by decide +kernel
theorem dX6_drawBelow_2 : decode cX6_drawBelow 2 = .ok (.getfield 305, 3) := by decide +kernel
theorem dX6_drawBelow_5 : decode cX6_drawBelow 5 = .ok (.ldc_w 308, 3) := by decide +kernel
theorem dX6_drawBelow_8 : decode cX6_drawBelow 8 = .ok (.imul, 1) := by decide +kernel
theorem dX6_drawBelow_9 : decode cX6_drawBelow 9 = .ok (.sipush 12345, 3) := by decide +kernel
theorem dX6_drawBelow_12 : decode cX6_drawBelow 12 = .ok (.iadd, 1) := by decide +kernel
theorem dX6_drawBelow_13 : decode cX6_drawBelow 13 = .ok (.putfield 305, 3) := by decide +kernel
theorem dX6_drawBelow_16 : decode cX6_drawBelow 16 = .ok (.aload_n 0, 1) := by decide +kernel
theorem dX6_drawBelow_17 : decode cX6_drawBelow 17 = .ok (.getfield 305, 3) := by decide +kernel
theorem dX6_drawBelow_20 : decode cX6_drawBelow 20 = .ok (.ldc_w 309, 3) := by decide +kernel
theorem dX6_drawBelow_23 : decode cX6_drawBelow 23 = .ok (.iand, 1) := by decide +kernel
theorem dX6_drawBelow_24 : decode cX6_drawBelow 24 = .ok (.ldc_w 310, 3) := by decide +kernel
theorem dX6_drawBelow_27 : decode cX6_drawBelow 27 = .ok (.idiv, 1) := by decide +kernel
theorem dX6_drawBelow_28 : decode cX6_drawBelow 28 = .ok (.iload_n 1, 1) := by decide +kernel
theorem dX6_drawBelow_29 : decode cX6_drawBelow 29 = .ok (.irem, 1) := by decide +kernel
theorem dX6_drawBelow_30 : decode cX6_drawBelow 30 = .ok (.ireturn, 1) := by decide +kernel
theorem dX6_lots_0 : decode cX6_lots 0 = .ok (.aload_n 0, 1) := by decide +kernel
theorem dX6_lots_1 : decode cX6_lots 1 = .ok (.iconst 0, 1) := by decide +kernel
theorem dX6_lots_2 : decode cX6_lots 2 = .ok (.putfield 79, 3) := by decide +kernel
theorem dX6_lots_5 : decode cX6_lots 5 = .ok (.iload_n 1, 1) := by decide +kernel
theorem dX6_lots_6 : decode cX6_lots 6 = .ok (.iconst 1, 1) := by decide +kernel
theorem dX6_lots_7 : decode cX6_lots 7 = .ok (.bipush 20, 2) := by decide +kernel
theorem dX6_lots_9 : decode cX6_lots 9 = .ok (.invokestatic 240, 3) := by decide +kernel
theorem dX6_lots_12 : decode cX6_lots 12 = .ok (.iload_n 3, 1) := by decide +kernel
theorem dX6_lots_13 : decode cX6_lots 13 = .ok (.iconst 1, 1) := by decide +kernel
theorem dX6_lots_14 : decode cX6_lots 14 = .ok (.invokestatic 250, 3) := by decide +kernel
theorem dX6_lots_17 : decode cX6_lots 17 = .ok (.istore 4, 2) := by decide +kernel
theorem dX6_lots_19 : decode cX6_lots 19 = .ok (.iload 4, 2) := by decide +kernel
theorem dX6_lots_21 : decode cX6_lots 21 = .ok (.ifCond .ge 10, 3) := by decide +kernel
theorem dX6_lots_24 : decode cX6_lots 24 = .ok (.aload_n 0, 1) := by decide +kernel
theorem dX6_lots_25 : decode cX6_lots 25 = .ok (.iload 4, 2) := by decide +kernel
theorem dX6_lots_27 : decode cX6_lots 27 = .ok (.invokevirtual 143, 3) := by decide +kernel
theorem dX6_lots_30 : decode cX6_lots 30 = .ok (.ireturn, 1) := by decide +kernel
theorem dX6_lots_31 : decode cX6_lots 31 = .ok (.aload_n 0, 1) := by decide +kernel
theorem dX6_lots_32 : decode cX6_lots 32 = .ok (.iload_n 2, 1) := by decide +kernel
theorem dX6_lots_33 : decode cX6_lots 33 = .ok (.putfield 305, 3) := by decide +kernel
theorem dX6_lots_36 : decode cX6_lots 36 = .ok (.iconst 0, 1) := by decide +kernel
theorem dX6_lots_37 : decode cX6_lots 37 = .ok (.istore 5, 2) := by decide +kernel
theorem dX6_lots_39 : decode cX6_lots 39 = .ok (.aload_n 0, 1) := by decide +kernel
theorem dX6_lots_40 : decode cX6_lots 40 = .ok (.invokevirtual 196, 3) := by decide +kernel
theorem dX6_lots_43 : decode cX6_lots 43 = .ok (.iconst 0, 1) := by decide +kernel
theorem dX6_lots_44 : decode cX6_lots 44 = .ok (.istore 6, 2) := by decide +kernel
theorem dX6_lots_46 : decode cX6_lots 46 = .ok (.iload 6, 2) := by decide +kernel
theorem dX6_lots_48 : decode cX6_lots 48 = .ok (.iload_n 1, 1) := by decide +kernel
theorem dX6_lots_49 : decode cX6_lots 49 = .ok (.if_icmp .ge 83, 3) := by decide +kernel
theorem dX6_lots_52 : decode cX6_lots 52 = .ok (.iconst 0, 1) := by decide +kernel
theorem dX6_lots_53 : decode cX6_lots 53 = .ok (.istore 7, 2) := by decide +kernel
theorem dX6_lots_55 : decode cX6_lots 55 = .ok (.iload 7, 2) := by decide +kernel
theorem dX6_lots_57 : decode cX6_lots 57 = .ok (.aload_n 0, 1) := by decide +kernel
theorem dX6_lots_58 : decode cX6_lots 58 = .ok (.getfield 92, 3) := by decide +kernel
theorem dX6_lots_61 : decode cX6_lots 61 = .ok (.if_icmp .ge 35, 3) := by decide +kernel
theorem dX6_lots_64 : decode cX6_lots 64 = .ok (.aload_n 0, 1) := by decide +kernel
theorem dX6_lots_65 : decode cX6_lots 65 = .ok (.getfield 22, 3) := by decide +kernel
theorem dX6_lots_68 : decode cX6_lots 68 = .ok (.iload 7, 2) := by decide +kernel
theorem dX6_lots_70 : decode cX6_lots 70 = .ok (.aload_n 0, 1) := by decide +kernel
theorem dX6_lots_71 : decode cX6_lots 71 = .ok (.bipush 49, 2) := by decide +kernel
theorem dX6_lots_73 : decode cX6_lots 73 = .ok (.invokevirtual 311, 3) := by decide +kernel
theorem dX6_lots_76 : decode cX6_lots 76 = .ok (.iastore, 1) := by decide +kernel
theorem dX6_lots_77 : decode cX6_lots 77 = .ok (.aload_n 0, 1) := by decide +kernel
theorem dX6_lots_78 : decode cX6_lots 78 = .ok (.getfield 25, 3) := by decide +kernel
theorem dX6_lots_81 : decode cX6_lots 81 = .ok (.iload 7, 2) := by decide +kernel
theorem dX6_lots_83 : decode cX6_lots 83 = .ok (.aload_n 0, 1) := by decide +kernel
theorem dX6_lots_84 : decode cX6_lots 84 = .ok (.bipush 49, 2) := by decide +kernel
theorem dX6_lots_86 : decode cX6_lots 86 = .ok (.invokevirtual 311, 3) := by decide +kernel
theorem dX6_lots_89 : decode cX6_lots 89 = .ok (.iastore, 1) := by decide +kernel
theorem dX6_lots_90 : decode cX6_lots 90 = .ok (.iinc 7 1, 3) := by decide +kernel
theorem dX6_lots_93 : decode cX6_lots 93 = .ok (.goto (-38), 3) := by decide +kernel
theorem dX6_lots_96 : decode cX6_lots 96 = .ok (.aload_n 0, 1) := by decide +kernel
theorem dX6_lots_97 : decode cX6_lots 97 = .ok (.bipush 12, 2) := by decide +kernel
theorem dX6_lots_99 : decode cX6_lots 99 = .ok (.invokevirtual 189, 3) := by decide +kernel
theorem dX6_lots_102 : decode cX6_lots 102 = .ok (.iload 5, 2) := by decide +kernel
theorem dX6_lots_104 : decode cX6_lots 104 = .ok (.iload_n 3, 1) := by decide +kernel
theorem dX6_lots_105 : decode cX6_lots 105 = .ok (.ifCond .ne 10, 3) := by decide +kernel
theorem dX6_lots_108 : decode cX6_lots 108 = .ok (.aload_n 0, 1) := by decide +kernel
theorem dX6_lots_109 : decode cX6_lots 109 = .ok (.invokevirtual 247, 3) := by decide +kernel
theorem dX6_lots_112 : decode cX6_lots 112 = .ok (.goto 7, 3) := by decide +kernel
theorem dX6_lots_115 : decode cX6_lots 115 = .ok (.aload_n 0, 1) := by decide +kernel
theorem dX6_lots_116 : decode cX6_lots 116 = .ok (.invokevirtual 253, 3) := by decide +kernel
theorem dX6_lots_119 : decode cX6_lots 119 = .ok (.iadd, 1) := by decide +kernel
theorem dX6_lots_120 : decode cX6_lots 120 = .ok (.istore 5, 2) := by decide +kernel
theorem dX6_lots_122 : decode cX6_lots 122 = .ok (.aload_n 0, 1) := by decide +kernel
theorem dX6_lots_123 : decode cX6_lots 123 = .ok (.invokevirtual 202, 3) := by decide +kernel
theorem dX6_lots_126 : decode cX6_lots 126 = .ok (.iinc 6 1, 3) := by decide +kernel
theorem dX6_lots_129 : decode cX6_lots 129 = .ok (.goto (-83), 3) := by decide +kernel
theorem dX6_lots_132 : decode cX6_lots 132 = .ok (.iload 5, 2) := by decide +kernel
theorem dX6_lots_134 : decode cX6_lots 134 = .ok (.ireturn, 1) := by decide +kernel
theorem dX6_count_0 : decode cX6_count 0 = .ok (.aload_n 0, 1) := by decide +kernel
theorem dX6_count_1 : decode cX6_count 1 = .ok (.iconst 0, 1) := by decide +kernel
theorem dX6_count_2 : decode cX6_count 2 = .ok (.putfield 79, 3) := by decide +kernel
theorem dX6_count_5 : decode cX6_count 5 = .ok (.iload_n 1, 1) := by decide +kernel
theorem dX6_count_6 : decode cX6_count 6 = .ok (.tableswitch 86 0 7 #[46, 51, 56, 61, 66, 71, 76, 81], 46) := by decide +kernel
theorem dX6_count_52 : decode cX6_count 52 = .ok (.aload_n 0, 1) := by decide +kernel
theorem dX6_count_53 : decode cX6_count 53 = .ok (.getfield 89, 3) := by decide +kernel
theorem dX6_count_56 : decode cX6_count 56 = .ok (.ireturn, 1) := by decide +kernel
theorem dX6_count_57 : decode cX6_count 57 = .ok (.aload_n 0, 1) := by decide +kernel
theorem dX6_count_58 : decode cX6_count 58 = .ok (.getfield 92, 3) := by decide +kernel
theorem dX6_count_61 : decode cX6_count 61 = .ok (.ireturn, 1) := by decide +kernel
theorem dX6_count_62 : decode cX6_count 62 = .ok (.aload_n 0, 1) := by decide +kernel
theorem dX6_count_63 : decode cX6_count 63 = .ok (.getfield 122, 3) := by decide +kernel
theorem dX6_count_66 : decode cX6_count 66 = .ok (.ireturn, 1) := by decide +kernel
theorem dX6_count_67 : decode cX6_count 67 = .ok (.aload_n 0, 1) := by decide +kernel
theorem dX6_count_68 : decode cX6_count 68 = .ok (.invokevirtual 247, 3) := by decide +kernel
theorem dX6_count_71 : decode cX6_count 71 = .ok (.ireturn, 1) := by decide +kernel
theorem dX6_count_72 : decode cX6_count 72 = .ok (.aload_n 0, 1) := by decide +kernel
theorem dX6_count_73 : decode cX6_count 73 = .ok (.invokevirtual 253, 3) := by decide +kernel
theorem dX6_count_76 : decode cX6_count 76 = .ok (.ireturn, 1) := by decide +kernel
theorem dX6_count_77 : decode cX6_count 77 = .ok (.aload_n 0, 1) := by decide +kernel
theorem dX6_count_78 : decode cX6_count 78 = .ok (.getfield 146, 3) := by decide +kernel
theorem dX6_count_81 : decode cX6_count 81 = .ok (.ireturn, 1) := by decide +kernel
theorem dX6_count_82 : decode cX6_count 82 = .ok (.aload_n 0, 1) := by decide +kernel
theorem dX6_count_83 : decode cX6_count 83 = .ok (.getfield 275, 3) := by decide +kernel
theorem dX6_count_86 : decode cX6_count 86 = .ok (.ireturn, 1) := by decide +kernel
theorem dX6_count_87 : decode cX6_count 87 = .ok (.aload_n 0, 1) := by decide +kernel
theorem dX6_count_88 : decode cX6_count 88 = .ok (.getfield 205, 3) := by decide +kernel
theorem dX6_count_91 : decode cX6_count 91 = .ok (.ireturn, 1) := by decide +kernel
theorem dX6_count_92 : decode cX6_count 92 = .ok (.iload_n 1, 1) := by decide +kernel
theorem dX6_count_93 : decode cX6_count 93 = .ok (.i2l, 1) := by decide +kernel
theorem dX6_count_94 : decode cX6_count 94 = .ok (.ldc2_w 314, 3) := by decide +kernel
theorem dX6_count_97 : decode cX6_count 97 = .ok (.ldc2_w 316, 3) := by decide +kernel
theorem dX6_count_100 : decode cX6_count 100 = .ok (.invokestatic 85, 3) := by decide +kernel
theorem dX6_count_103 : decode cX6_count 103 = .ok (.ifCond .eq 15, 3) := by decide +kernel
theorem dX6_count_106 : decode cX6_count 106 = .ok (.aload_n 0, 1) := by decide +kernel
theorem dX6_count_107 : decode cX6_count 107 = .ok (.getfield 34, 3) := by decide +kernel
theorem dX6_count_110 : decode cX6_count 110 = .ok (.iload_n 1, 1) := by decide +kernel
theorem dX6_count_111 : decode cX6_count 111 = .ok (.bipush 10, 2) := by decide +kernel
theorem dX6_count_113 : decode cX6_count 113 = .ok (.isub, 1) := by decide +kernel
theorem dX6_count_114 : decode cX6_count 114 = .ok (.iaload, 1) := by decide +kernel
theorem dX6_count_115 : decode cX6_count 115 = .ok (.goto 5, 3) := by decide +kernel
theorem dX6_count_118 : decode cX6_count 118 = .ok (.bipush (-9), 2) := by decide +kernel
theorem dX6_count_120 : decode cX6_count 120 = .ok (.ireturn, 1) := by decide +kernel
end
section
theorem dL_law_0 : decode cL_law 0 = .ok (.new 7, 3) := by decide +kernel
theorem dL_law_3 : decode cL_law 3 = .ok (.dup, 1) := by decide +kernel
theorem dL_law_4 : decode cL_law 4 = .ok (.invokespecial 9, 3) := by decide +kernel
theorem dL_law_7 : decode cL_law 7 = .ok (.astore_n 1, 1) := by decide +kernel
theorem dL_law_8 : decode cL_law 8 = .ok (.new 10, 3) := by decide +kernel
theorem dL_law_11 : decode cL_law 11 = .ok (.dup, 1) := by decide +kernel
theorem dL_law_12 : decode cL_law 12 = .ok (.invokespecial 12, 3) := by decide +kernel
theorem dL_law_15 : decode cL_law 15 = .ok (.astore_n 2, 1) := by decide +kernel
theorem dL_law_16 : decode cL_law 16 = .ok (.iconst 0, 1) := by decide +kernel
theorem dL_law_17 : decode cL_law 17 = .ok (.istore_n 3, 1) := by decide +kernel
theorem dL_law_18 : decode cL_law 18 = .ok (.iload_n 3, 1) := by decide +kernel
theorem dL_law_19 : decode cL_law 19 = .ok (.aload_n 0, 1) := by decide +kernel
theorem dL_law_20 : decode cL_law 20 = .ok (.arraylength, 1) := by decide +kernel
theorem dL_law_21 : decode cL_law 21 = .ok (.bipush 6, 2) := by decide +kernel
theorem dL_law_23 : decode cL_law 23 = .ok (.isub, 1) := by decide +kernel
theorem dL_law_24 : decode cL_law 24 = .ok (.if_icmp .gt 1477, 3) := by decide +kernel
theorem dL_law_27 : decode cL_law 27 = .ok (.aload_n 0, 1) := by decide +kernel
theorem dL_law_28 : decode cL_law 28 = .ok (.iload_n 3, 1) := by decide +kernel
theorem dL_law_29 : decode cL_law 29 = .ok (.iaload, 1) := by decide +kernel
theorem dL_law_30 : decode cL_law 30 = .ok (.bipush 63, 2) := by decide +kernel
theorem dL_law_32 : decode cL_law 32 = .ok (.iand, 1) := by decide +kernel
theorem dL_law_33 : decode cL_law 33 = .ok (.tableswitch 1462 0 44 #[195, 218, 231, 264, 297, 330, 373, 416, 439, 472, 505, 548, 571, 584, 627, 650, 683, 706, 729, 772, 805, 838, 871, 894, 927, 950, 973, 1016, 1059, 1123, 1146, 1170, 1183, 1206, 1229, 1242, 1255, 1298, 1321, 1344, 1357, 1370, 1413, 1426, 1439], 195) := by decide +kernel
theorem dL_law_228 : decode cL_law 228 = .ok (.aload_n 1, 1) := by decide +kernel
theorem dL_law_229 : decode cL_law 229 = .ok (.aload_n 0, 1) := by decide +kernel
theorem dL_law_230 : decode cL_law 230 = .ok (.iload_n 3, 1) := by decide +kernel
theorem dL_law_231 : decode cL_law 231 = .ok (.iconst 1, 1) := by decide +kernel
theorem dL_law_232 : decode cL_law 232 = .ok (.iadd, 1) := by decide +kernel
theorem dL_law_233 : decode cL_law 233 = .ok (.iaload, 1) := by decide +kernel
theorem dL_law_234 : decode cL_law 234 = .ok (.invokevirtual 13, 3) := by decide +kernel
theorem dL_law_237 : decode cL_law 237 = .ok (.aload_n 2, 1) := by decide +kernel
theorem dL_law_238 : decode cL_law 238 = .ok (.aload_n 0, 1) := by decide +kernel
theorem dL_law_239 : decode cL_law 239 = .ok (.iload_n 3, 1) := by decide +kernel
theorem dL_law_240 : decode cL_law 240 = .ok (.iconst 1, 1) := by decide +kernel
theorem dL_law_241 : decode cL_law 241 = .ok (.iadd, 1) := by decide +kernel
theorem dL_law_242 : decode cL_law 242 = .ok (.iaload, 1) := by decide +kernel
theorem dL_law_243 : decode cL_law 243 = .ok (.invokevirtual 17, 3) := by decide +kernel
theorem dL_law_246 : decode cL_law 246 = .ok (.if_icmp .eq 1249, 3) := by decide +kernel
theorem dL_law_249 : decode cL_law 249 = .ok (.iconst 0, 1) := by decide +kernel
theorem dL_law_250 : decode cL_law 250 = .ok (.ireturn, 1) := by decide +kernel
theorem dL_law_251 : decode cL_law 251 = .ok (.aload_n 1, 1) := by decide +kernel
theorem dL_law_252 : decode cL_law 252 = .ok (.invokevirtual 18, 3) := by decide +kernel
theorem dL_law_255 : decode cL_law 255 = .ok (.aload_n 2, 1) := by decide +kernel
theorem dL_law_256 : decode cL_law 256 = .ok (.invokevirtual 22, 3) := by decide +kernel
theorem dL_law_259 : decode cL_law 259 = .ok (.if_icmp .eq 1236, 3) := by decide +kernel
theorem dL_law_262 : decode cL_law 262 = .ok (.iconst 0, 1) := by decide +kernel
theorem dL_law_263 : decode cL_law 263 = .ok (.ireturn, 1) := by decide +kernel
theorem dL_law_264 : decode cL_law 264 = .ok (.aload_n 1, 1) := by decide +kernel
theorem dL_law_265 : decode cL_law 265 = .ok (.aload_n 0, 1) := by decide +kernel
theorem dL_law_266 : decode cL_law 266 = .ok (.iload_n 3, 1) := by decide +kernel
theorem dL_law_267 : decode cL_law 267 = .ok (.iconst 1, 1) := by decide +kernel
theorem dL_law_268 : decode cL_law 268 = .ok (.iadd, 1) := by decide +kernel
theorem dL_law_269 : decode cL_law 269 = .ok (.iaload, 1) := by decide +kernel
theorem dL_law_270 : decode cL_law 270 = .ok (.aload_n 0, 1) := by decide +kernel
theorem dL_law_271 : decode cL_law 271 = .ok (.iload_n 3, 1) := by decide +kernel
theorem dL_law_272 : decode cL_law 272 = .ok (.iconst 2, 1) := by decide +kernel
theorem dL_law_273 : decode cL_law 273 = .ok (.iadd, 1) := by decide +kernel
theorem dL_law_274 : decode cL_law 274 = .ok (.iaload, 1) := by decide +kernel
theorem dL_law_275 : decode cL_law 275 = .ok (.invokevirtual 23, 3) := by decide +kernel
theorem dL_law_278 : decode cL_law 278 = .ok (.aload_n 2, 1) := by decide +kernel
theorem dL_law_279 : decode cL_law 279 = .ok (.aload_n 0, 1) := by decide +kernel
theorem dL_law_280 : decode cL_law 280 = .ok (.iload_n 3, 1) := by decide +kernel
theorem dL_law_281 : decode cL_law 281 = .ok (.iconst 1, 1) := by decide +kernel
theorem dL_law_282 : decode cL_law 282 = .ok (.iadd, 1) := by decide +kernel
theorem dL_law_283 : decode cL_law 283 = .ok (.iaload, 1) := by decide +kernel
theorem dL_law_284 : decode cL_law 284 = .ok (.aload_n 0, 1) := by decide +kernel
theorem dL_law_285 : decode cL_law 285 = .ok (.iload_n 3, 1) := by decide +kernel
theorem dL_law_286 : decode cL_law 286 = .ok (.iconst 2, 1) := by decide +kernel
theorem dL_law_287 : decode cL_law 287 = .ok (.iadd, 1) := by decide +kernel
theorem dL_law_288 : decode cL_law 288 = .ok (.iaload, 1) := by decide +kernel
theorem dL_law_289 : decode cL_law 289 = .ok (.invokevirtual 27, 3) := by decide +kernel
theorem dL_law_292 : decode cL_law 292 = .ok (.if_icmp .eq 1203, 3) := by decide +kernel
theorem dL_law_295 : decode cL_law 295 = .ok (.iconst 0, 1) := by decide +kernel
theorem dL_law_296 : decode cL_law 296 = .ok (.ireturn, 1) := by decide +kernel
theorem dL_law_297 : decode cL_law 297 = .ok (.aload_n 1, 1) := by decide +kernel
theorem dL_law_298 : decode cL_law 298 = .ok (.aload_n 0, 1) := by decide +kernel
theorem dL_law_299 : decode cL_law 299 = .ok (.iload_n 3, 1) := by decide +kernel
theorem dL_law_300 : decode cL_law 300 = .ok (.iconst 1, 1) := by decide +kernel
theorem dL_law_301 : decode cL_law 301 = .ok (.iadd, 1) := by decide +kernel
theorem dL_law_302 : decode cL_law 302 = .ok (.iaload, 1) := by decide +kernel
theorem dL_law_303 : decode cL_law 303 = .ok (.aload_n 0, 1) := by decide +kernel
theorem dL_law_304 : decode cL_law 304 = .ok (.iload_n 3, 1) := by decide +kernel
theorem dL_law_305 : decode cL_law 305 = .ok (.iconst 2, 1) := by decide +kernel
theorem dL_law_306 : decode cL_law 306 = .ok (.iadd, 1) := by decide +kernel
theorem dL_law_307 : decode cL_law 307 = .ok (.iaload, 1) := by decide +kernel
theorem dL_law_308 : decode cL_law 308 = .ok (.invokevirtual 28, 3) := by decide +kernel
theorem dL_law_311 : decode cL_law 311 = .ok (.aload_n 2, 1) := by decide +kernel
theorem dL_law_312 : decode cL_law 312 = .ok (.aload_n 0, 1) := by decide +kernel
theorem dL_law_313 : decode cL_law 313 = .ok (.iload_n 3, 1) := by decide +kernel
theorem dL_law_314 : decode cL_law 314 = .ok (.iconst 1, 1) := by decide +kernel
theorem dL_law_315 : decode cL_law 315 = .ok (.iadd, 1) := by decide +kernel
theorem dL_law_316 : decode cL_law 316 = .ok (.iaload, 1) := by decide +kernel
theorem dL_law_317 : decode cL_law 317 = .ok (.aload_n 0, 1) := by decide +kernel
theorem dL_law_318 : decode cL_law 318 = .ok (.iload_n 3, 1) := by decide +kernel
theorem dL_law_319 : decode cL_law 319 = .ok (.iconst 2, 1) := by decide +kernel
theorem dL_law_320 : decode cL_law 320 = .ok (.iadd, 1) := by decide +kernel
theorem dL_law_321 : decode cL_law 321 = .ok (.iaload, 1) := by decide +kernel
theorem dL_law_322 : decode cL_law 322 = .ok (.invokevirtual 31, 3) := by decide +kernel
theorem dL_law_325 : decode cL_law 325 = .ok (.if_icmp .eq 1170, 3) := by decide +kernel
theorem dL_law_328 : decode cL_law 328 = .ok (.iconst 0, 1) := by decide +kernel
theorem dL_law_329 : decode cL_law 329 = .ok (.ireturn, 1) := by decide +kernel
theorem dL_law_330 : decode cL_law 330 = .ok (.aload_n 1, 1) := by decide +kernel
theorem dL_law_331 : decode cL_law 331 = .ok (.aload_n 0, 1) := by decide +kernel
theorem dL_law_332 : decode cL_law 332 = .ok (.iload_n 3, 1) := by decide +kernel
theorem dL_law_333 : decode cL_law 333 = .ok (.iconst 1, 1) := by decide +kernel
theorem dL_law_334 : decode cL_law 334 = .ok (.iadd, 1) := by decide +kernel
theorem dL_law_335 : decode cL_law 335 = .ok (.iaload, 1) := by decide +kernel
theorem dL_law_336 : decode cL_law 336 = .ok (.aload_n 0, 1) := by decide +kernel
theorem dL_law_337 : decode cL_law 337 = .ok (.iload_n 3, 1) := by decide +kernel
theorem dL_law_338 : decode cL_law 338 = .ok (.iconst 2, 1) := by decide +kernel
theorem dL_law_339 : decode cL_law 339 = .ok (.iadd, 1) := by decide +kernel
theorem dL_law_340 : decode cL_law 340 = .ok (.iaload, 1) := by decide +kernel
theorem dL_law_341 : decode cL_law 341 = .ok (.invokevirtual 32, 3) := by decide +kernel
theorem dL_law_344 : decode cL_law 344 = .ok (.aload_n 2, 1) := by decide +kernel
theorem dL_law_345 : decode cL_law 345 = .ok (.aload_n 0, 1) := by decide +kernel
theorem dL_law_346 : decode cL_law 346 = .ok (.iload_n 3, 1) := by decide +kernel
theorem dL_law_347 : decode cL_law 347 = .ok (.iconst 1, 1) := by decide +kernel
theorem dL_law_348 : decode cL_law 348 = .ok (.iadd, 1) := by decide +kernel
theorem dL_law_349 : decode cL_law 349 = .ok (.iaload, 1) := by decide +kernel
theorem dL_law_350 : decode cL_law 350 = .ok (.aload_n 0, 1) := by decide +kernel
theorem dL_law_351 : decode cL_law 351 = .ok (.iload_n 3, 1) := by decide +kernel
theorem dL_law_352 : decode cL_law 352 = .ok (.iconst 2, 1) := by decide +kernel
theorem dL_law_353 : decode cL_law 353 = .ok (.iadd, 1) := by decide +kernel
theorem dL_law_354 : decode cL_law 354 = .ok (.iaload, 1) := by decide +kernel
theorem dL_law_355 : decode cL_law 355 = .ok (.invokevirtual 35, 3) := by decide +kernel
theorem dL_law_358 : decode cL_law 358 = .ok (.if_icmp .eq 1137, 3) := by decide +kernel
theorem dL_law_361 : decode cL_law 361 = .ok (.iconst 0, 1) := by decide +kernel
theorem dL_law_362 : decode cL_law 362 = .ok (.ireturn, 1) := by decide +kernel
theorem dL_law_363 : decode cL_law 363 = .ok (.aload_n 1, 1) := by decide +kernel
theorem dL_law_364 : decode cL_law 364 = .ok (.aload_n 0, 1) := by decide +kernel
theorem dL_law_365 : decode cL_law 365 = .ok (.iload_n 3, 1) := by decide +kernel
theorem dL_law_366 : decode cL_law 366 = .ok (.iconst 1, 1) := by decide +kernel
theorem dL_law_367 : decode cL_law 367 = .ok (.iadd, 1) := by decide +kernel
theorem dL_law_368 : decode cL_law 368 = .ok (.iaload, 1) := by decide +kernel
theorem dL_law_369 : decode cL_law 369 = .ok (.aload_n 0, 1) := by decide +kernel
theorem dL_law_370 : decode cL_law 370 = .ok (.iload_n 3, 1) := by decide +kernel
theorem dL_law_371 : decode cL_law 371 = .ok (.iconst 2, 1) := by decide +kernel
theorem dL_law_372 : decode cL_law 372 = .ok (.iadd, 1) := by decide +kernel
theorem dL_law_373 : decode cL_law 373 = .ok (.iaload, 1) := by decide +kernel
theorem dL_law_374 : decode cL_law 374 = .ok (.aload_n 0, 1) := by decide +kernel
theorem dL_law_375 : decode cL_law 375 = .ok (.iload_n 3, 1) := by decide +kernel
theorem dL_law_376 : decode cL_law 376 = .ok (.iconst 3, 1) := by decide +kernel
theorem dL_law_377 : decode cL_law 377 = .ok (.iadd, 1) := by decide +kernel
theorem dL_law_378 : decode cL_law 378 = .ok (.iaload, 1) := by decide +kernel
theorem dL_law_379 : decode cL_law 379 = .ok (.invokevirtual 36, 3) := by decide +kernel
theorem dL_law_382 : decode cL_law 382 = .ok (.aload_n 2, 1) := by decide +kernel
theorem dL_law_383 : decode cL_law 383 = .ok (.aload_n 0, 1) := by decide +kernel
theorem dL_law_384 : decode cL_law 384 = .ok (.iload_n 3, 1) := by decide +kernel
theorem dL_law_385 : decode cL_law 385 = .ok (.iconst 1, 1) := by decide +kernel
theorem dL_law_386 : decode cL_law 386 = .ok (.iadd, 1) := by decide +kernel
theorem dL_law_387 : decode cL_law 387 = .ok (.iaload, 1) := by decide +kernel
theorem dL_law_388 : decode cL_law 388 = .ok (.aload_n 0, 1) := by decide +kernel
theorem dL_law_389 : decode cL_law 389 = .ok (.iload_n 3, 1) := by decide +kernel
theorem dL_law_390 : decode cL_law 390 = .ok (.iconst 2, 1) := by decide +kernel
theorem dL_law_391 : decode cL_law 391 = .ok (.iadd, 1) := by decide +kernel
theorem dL_law_392 : decode cL_law 392 = .ok (.iaload, 1) := by decide +kernel
theorem dL_law_393 : decode cL_law 393 = .ok (.aload_n 0, 1) := by decide +kernel
theorem dL_law_394 : decode cL_law 394 = .ok (.iload_n 3, 1) := by decide +kernel
theorem dL_law_395 : decode cL_law 395 = .ok (.iconst 3, 1) := by decide +kernel
theorem dL_law_396 : decode cL_law 396 = .ok (.iadd, 1) := by decide +kernel
theorem dL_law_397 : decode cL_law 397 = .ok (.iaload, 1) := by decide +kernel
theorem dL_law_398 : decode cL_law 398 = .ok (.invokevirtual 40, 3) := by decide +kernel
theorem dL_law_401 : decode cL_law 401 = .ok (.if_icmp .eq 1094, 3) := by decide +kernel
theorem dL_law_404 : decode cL_law 404 = .ok (.iconst 0, 1) := by decide +kernel
theorem dL_law_405 : decode cL_law 405 = .ok (.ireturn, 1) := by decide +kernel
theorem dL_law_406 : decode cL_law 406 = .ok (.aload_n 1, 1) := by decide +kernel
theorem dL_law_407 : decode cL_law 407 = .ok (.aload_n 0, 1) := by decide +kernel
theorem dL_law_408 : decode cL_law 408 = .ok (.iload_n 3, 1) := by decide +kernel
theorem dL_law_409 : decode cL_law 409 = .ok (.iconst 1, 1) := by decide +kernel
theorem dL_law_410 : decode cL_law 410 = .ok (.iadd, 1) := by decide +kernel
theorem dL_law_411 : decode cL_law 411 = .ok (.iaload, 1) := by decide +kernel
theorem dL_law_412 : decode cL_law 412 = .ok (.aload_n 0, 1) := by decide +kernel
theorem dL_law_413 : decode cL_law 413 = .ok (.iload_n 3, 1) := by decide +kernel
theorem dL_law_414 : decode cL_law 414 = .ok (.iconst 2, 1) := by decide +kernel
theorem dL_law_415 : decode cL_law 415 = .ok (.iadd, 1) := by decide +kernel
theorem dL_law_416 : decode cL_law 416 = .ok (.iaload, 1) := by decide +kernel
theorem dL_law_417 : decode cL_law 417 = .ok (.aload_n 0, 1) := by decide +kernel
theorem dL_law_418 : decode cL_law 418 = .ok (.iload_n 3, 1) := by decide +kernel
theorem dL_law_419 : decode cL_law 419 = .ok (.iconst 3, 1) := by decide +kernel
theorem dL_law_420 : decode cL_law 420 = .ok (.iadd, 1) := by decide +kernel
theorem dL_law_421 : decode cL_law 421 = .ok (.iaload, 1) := by decide +kernel
theorem dL_law_422 : decode cL_law 422 = .ok (.invokevirtual 41, 3) := by decide +kernel
theorem dL_law_425 : decode cL_law 425 = .ok (.aload_n 2, 1) := by decide +kernel
theorem dL_law_426 : decode cL_law 426 = .ok (.aload_n 0, 1) := by decide +kernel
theorem dL_law_427 : decode cL_law 427 = .ok (.iload_n 3, 1) := by decide +kernel
theorem dL_law_428 : decode cL_law 428 = .ok (.iconst 1, 1) := by decide +kernel
theorem dL_law_429 : decode cL_law 429 = .ok (.iadd, 1) := by decide +kernel
theorem dL_law_430 : decode cL_law 430 = .ok (.iaload, 1) := by decide +kernel
theorem dL_law_431 : decode cL_law 431 = .ok (.aload_n 0, 1) := by decide +kernel
theorem dL_law_432 : decode cL_law 432 = .ok (.iload_n 3, 1) := by decide +kernel
theorem dL_law_433 : decode cL_law 433 = .ok (.iconst 2, 1) := by decide +kernel
theorem dL_law_434 : decode cL_law 434 = .ok (.iadd, 1) := by decide +kernel
theorem dL_law_435 : decode cL_law 435 = .ok (.iaload, 1) := by decide +kernel
theorem dL_law_436 : decode cL_law 436 = .ok (.aload_n 0, 1) := by decide +kernel
theorem dL_law_437 : decode cL_law 437 = .ok (.iload_n 3, 1) := by decide +kernel
theorem dL_law_438 : decode cL_law 438 = .ok (.iconst 3, 1) := by decide +kernel
theorem dL_law_439 : decode cL_law 439 = .ok (.iadd, 1) := by decide +kernel
theorem dL_law_440 : decode cL_law 440 = .ok (.iaload, 1) := by decide +kernel
theorem dL_law_441 : decode cL_law 441 = .ok (.invokevirtual 44, 3) := by decide +kernel
theorem dL_law_444 : decode cL_law 444 = .ok (.if_icmp .eq 1051, 3) := by decide +kernel
theorem dL_law_447 : decode cL_law 447 = .ok (.iconst 0, 1) := by decide +kernel
theorem dL_law_448 : decode cL_law 448 = .ok (.ireturn, 1) := by decide +kernel
theorem dL_law_449 : decode cL_law 449 = .ok (.aload_n 1, 1) := by decide +kernel
theorem dL_law_450 : decode cL_law 450 = .ok (.aload_n 0, 1) := by decide +kernel
theorem dL_law_451 : decode cL_law 451 = .ok (.iload_n 3, 1) := by decide +kernel
theorem dL_law_452 : decode cL_law 452 = .ok (.iconst 1, 1) := by decide +kernel
theorem dL_law_453 : decode cL_law 453 = .ok (.iadd, 1) := by decide +kernel
theorem dL_law_454 : decode cL_law 454 = .ok (.iaload, 1) := by decide +kernel
theorem dL_law_455 : decode cL_law 455 = .ok (.invokevirtual 45, 3) := by decide +kernel
theorem dL_law_458 : decode cL_law 458 = .ok (.aload_n 2, 1) := by decide +kernel
theorem dL_law_459 : decode cL_law 459 = .ok (.aload_n 0, 1) := by decide +kernel
theorem dL_law_460 : decode cL_law 460 = .ok (.iload_n 3, 1) := by decide +kernel
theorem dL_law_461 : decode cL_law 461 = .ok (.iconst 1, 1) := by decide +kernel
theorem dL_law_462 : decode cL_law 462 = .ok (.iadd, 1) := by decide +kernel
theorem dL_law_463 : decode cL_law 463 = .ok (.iaload, 1) := by decide +kernel
theorem dL_law_464 : decode cL_law 464 = .ok (.invokevirtual 48, 3) := by decide +kernel
theorem dL_law_467 : decode cL_law 467 = .ok (.if_icmp .eq 1028, 3) := by decide +kernel
theorem dL_law_470 : decode cL_law 470 = .ok (.iconst 0, 1) := by decide +kernel
theorem dL_law_471 : decode cL_law 471 = .ok (.ireturn, 1) := by decide +kernel
theorem dL_law_472 : decode cL_law 472 = .ok (.aload_n 1, 1) := by decide +kernel
theorem dL_law_473 : decode cL_law 473 = .ok (.aload_n 0, 1) := by decide +kernel
theorem dL_law_474 : decode cL_law 474 = .ok (.iload_n 3, 1) := by decide +kernel
theorem dL_law_475 : decode cL_law 475 = .ok (.iconst 1, 1) := by decide +kernel
theorem dL_law_476 : decode cL_law 476 = .ok (.iadd, 1) := by decide +kernel
theorem dL_law_477 : decode cL_law 477 = .ok (.iaload, 1) := by decide +kernel
theorem dL_law_478 : decode cL_law 478 = .ok (.aload_n 0, 1) := by decide +kernel
theorem dL_law_479 : decode cL_law 479 = .ok (.iload_n 3, 1) := by decide +kernel
theorem dL_law_480 : decode cL_law 480 = .ok (.iconst 2, 1) := by decide +kernel
theorem dL_law_481 : decode cL_law 481 = .ok (.iadd, 1) := by decide +kernel
theorem dL_law_482 : decode cL_law 482 = .ok (.iaload, 1) := by decide +kernel
theorem dL_law_483 : decode cL_law 483 = .ok (.invokevirtual 49, 3) := by decide +kernel
theorem dL_law_486 : decode cL_law 486 = .ok (.aload_n 2, 1) := by decide +kernel
theorem dL_law_487 : decode cL_law 487 = .ok (.aload_n 0, 1) := by decide +kernel
theorem dL_law_488 : decode cL_law 488 = .ok (.iload_n 3, 1) := by decide +kernel
theorem dL_law_489 : decode cL_law 489 = .ok (.iconst 1, 1) := by decide +kernel
theorem dL_law_490 : decode cL_law 490 = .ok (.iadd, 1) := by decide +kernel
theorem dL_law_491 : decode cL_law 491 = .ok (.iaload, 1) := by decide +kernel
theorem dL_law_492 : decode cL_law 492 = .ok (.aload_n 0, 1) := by decide +kernel
theorem dL_law_493 : decode cL_law 493 = .ok (.iload_n 3, 1) := by decide +kernel
theorem dL_law_494 : decode cL_law 494 = .ok (.iconst 2, 1) := by decide +kernel
theorem dL_law_495 : decode cL_law 495 = .ok (.iadd, 1) := by decide +kernel
theorem dL_law_496 : decode cL_law 496 = .ok (.iaload, 1) := by decide +kernel
theorem dL_law_497 : decode cL_law 497 = .ok (.invokevirtual 52, 3) := by decide +kernel
theorem dL_law_500 : decode cL_law 500 = .ok (.if_icmp .eq 995, 3) := by decide +kernel
theorem dL_law_503 : decode cL_law 503 = .ok (.iconst 0, 1) := by decide +kernel
theorem dL_law_504 : decode cL_law 504 = .ok (.ireturn, 1) := by decide +kernel
theorem dL_law_505 : decode cL_law 505 = .ok (.aload_n 1, 1) := by decide +kernel
theorem dL_law_506 : decode cL_law 506 = .ok (.aload_n 0, 1) := by decide +kernel
theorem dL_law_507 : decode cL_law 507 = .ok (.iload_n 3, 1) := by decide +kernel
theorem dL_law_508 : decode cL_law 508 = .ok (.iconst 1, 1) := by decide +kernel
theorem dL_law_509 : decode cL_law 509 = .ok (.iadd, 1) := by decide +kernel
theorem dL_law_510 : decode cL_law 510 = .ok (.iaload, 1) := by decide +kernel
theorem dL_law_511 : decode cL_law 511 = .ok (.aload_n 0, 1) := by decide +kernel
theorem dL_law_512 : decode cL_law 512 = .ok (.iload_n 3, 1) := by decide +kernel
theorem dL_law_513 : decode cL_law 513 = .ok (.iconst 2, 1) := by decide +kernel
theorem dL_law_514 : decode cL_law 514 = .ok (.iadd, 1) := by decide +kernel
theorem dL_law_515 : decode cL_law 515 = .ok (.iaload, 1) := by decide +kernel
theorem dL_law_516 : decode cL_law 516 = .ok (.invokevirtual 53, 3) := by decide +kernel
theorem dL_law_519 : decode cL_law 519 = .ok (.aload_n 2, 1) := by decide +kernel
theorem dL_law_520 : decode cL_law 520 = .ok (.aload_n 0, 1) := by decide +kernel
theorem dL_law_521 : decode cL_law 521 = .ok (.iload_n 3, 1) := by decide +kernel
theorem dL_law_522 : decode cL_law 522 = .ok (.iconst 1, 1) := by decide +kernel
theorem dL_law_523 : decode cL_law 523 = .ok (.iadd, 1) := by decide +kernel
theorem dL_law_524 : decode cL_law 524 = .ok (.iaload, 1) := by decide +kernel
theorem dL_law_525 : decode cL_law 525 = .ok (.aload_n 0, 1) := by decide +kernel
theorem dL_law_526 : decode cL_law 526 = .ok (.iload_n 3, 1) := by decide +kernel
theorem dL_law_527 : decode cL_law 527 = .ok (.iconst 2, 1) := by decide +kernel
theorem dL_law_528 : decode cL_law 528 = .ok (.iadd, 1) := by decide +kernel
theorem dL_law_529 : decode cL_law 529 = .ok (.iaload, 1) := by decide +kernel
theorem dL_law_530 : decode cL_law 530 = .ok (.invokevirtual 56, 3) := by decide +kernel
theorem dL_law_533 : decode cL_law 533 = .ok (.if_icmp .eq 962, 3) := by decide +kernel
theorem dL_law_536 : decode cL_law 536 = .ok (.iconst 0, 1) := by decide +kernel
theorem dL_law_537 : decode cL_law 537 = .ok (.ireturn, 1) := by decide +kernel
theorem dL_law_538 : decode cL_law 538 = .ok (.aload_n 1, 1) := by decide +kernel
theorem dL_law_539 : decode cL_law 539 = .ok (.aload_n 0, 1) := by decide +kernel
theorem dL_law_540 : decode cL_law 540 = .ok (.iload_n 3, 1) := by decide +kernel
theorem dL_law_541 : decode cL_law 541 = .ok (.iconst 1, 1) := by decide +kernel
theorem dL_law_542 : decode cL_law 542 = .ok (.iadd, 1) := by decide +kernel
theorem dL_law_543 : decode cL_law 543 = .ok (.iaload, 1) := by decide +kernel
theorem dL_law_544 : decode cL_law 544 = .ok (.aload_n 0, 1) := by decide +kernel
theorem dL_law_545 : decode cL_law 545 = .ok (.iload_n 3, 1) := by decide +kernel
theorem dL_law_546 : decode cL_law 546 = .ok (.iconst 2, 1) := by decide +kernel
theorem dL_law_547 : decode cL_law 547 = .ok (.iadd, 1) := by decide +kernel
theorem dL_law_548 : decode cL_law 548 = .ok (.iaload, 1) := by decide +kernel
theorem dL_law_549 : decode cL_law 549 = .ok (.aload_n 0, 1) := by decide +kernel
theorem dL_law_550 : decode cL_law 550 = .ok (.iload_n 3, 1) := by decide +kernel
theorem dL_law_551 : decode cL_law 551 = .ok (.iconst 3, 1) := by decide +kernel
theorem dL_law_552 : decode cL_law 552 = .ok (.iadd, 1) := by decide +kernel
theorem dL_law_553 : decode cL_law 553 = .ok (.iaload, 1) := by decide +kernel
theorem dL_law_554 : decode cL_law 554 = .ok (.invokevirtual 57, 3) := by decide +kernel
theorem dL_law_557 : decode cL_law 557 = .ok (.aload_n 2, 1) := by decide +kernel
theorem dL_law_558 : decode cL_law 558 = .ok (.aload_n 0, 1) := by decide +kernel
theorem dL_law_559 : decode cL_law 559 = .ok (.iload_n 3, 1) := by decide +kernel
theorem dL_law_560 : decode cL_law 560 = .ok (.iconst 1, 1) := by decide +kernel
theorem dL_law_561 : decode cL_law 561 = .ok (.iadd, 1) := by decide +kernel
theorem dL_law_562 : decode cL_law 562 = .ok (.iaload, 1) := by decide +kernel
theorem dL_law_563 : decode cL_law 563 = .ok (.aload_n 0, 1) := by decide +kernel
theorem dL_law_564 : decode cL_law 564 = .ok (.iload_n 3, 1) := by decide +kernel
theorem dL_law_565 : decode cL_law 565 = .ok (.iconst 2, 1) := by decide +kernel
theorem dL_law_566 : decode cL_law 566 = .ok (.iadd, 1) := by decide +kernel
theorem dL_law_567 : decode cL_law 567 = .ok (.iaload, 1) := by decide +kernel
theorem dL_law_568 : decode cL_law 568 = .ok (.aload_n 0, 1) := by decide +kernel
theorem dL_law_569 : decode cL_law 569 = .ok (.iload_n 3, 1) := by decide +kernel
theorem dL_law_570 : decode cL_law 570 = .ok (.iconst 3, 1) := by decide +kernel
theorem dL_law_571 : decode cL_law 571 = .ok (.iadd, 1) := by decide +kernel
theorem dL_law_572 : decode cL_law 572 = .ok (.iaload, 1) := by decide +kernel
theorem dL_law_573 : decode cL_law 573 = .ok (.invokevirtual 60, 3) := by decide +kernel
theorem dL_law_576 : decode cL_law 576 = .ok (.if_icmp .eq 919, 3) := by decide +kernel
theorem dL_law_579 : decode cL_law 579 = .ok (.iconst 0, 1) := by decide +kernel
theorem dL_law_580 : decode cL_law 580 = .ok (.ireturn, 1) := by decide +kernel
theorem dL_law_581 : decode cL_law 581 = .ok (.aload_n 1, 1) := by decide +kernel
theorem dL_law_582 : decode cL_law 582 = .ok (.aload_n 0, 1) := by decide +kernel
theorem dL_law_583 : decode cL_law 583 = .ok (.iload_n 3, 1) := by decide +kernel
theorem dL_law_584 : decode cL_law 584 = .ok (.iconst 1, 1) := by decide +kernel
theorem dL_law_585 : decode cL_law 585 = .ok (.iadd, 1) := by decide +kernel
theorem dL_law_586 : decode cL_law 586 = .ok (.iaload, 1) := by decide +kernel
theorem dL_law_587 : decode cL_law 587 = .ok (.invokevirtual 61, 3) := by decide +kernel
theorem dL_law_590 : decode cL_law 590 = .ok (.aload_n 2, 1) := by decide +kernel
theorem dL_law_591 : decode cL_law 591 = .ok (.aload_n 0, 1) := by decide +kernel
theorem dL_law_592 : decode cL_law 592 = .ok (.iload_n 3, 1) := by decide +kernel
theorem dL_law_593 : decode cL_law 593 = .ok (.iconst 1, 1) := by decide +kernel
theorem dL_law_594 : decode cL_law 594 = .ok (.iadd, 1) := by decide +kernel
theorem dL_law_595 : decode cL_law 595 = .ok (.iaload, 1) := by decide +kernel
theorem dL_law_596 : decode cL_law 596 = .ok (.invokevirtual 64, 3) := by decide +kernel
theorem dL_law_599 : decode cL_law 599 = .ok (.if_icmp .eq 896, 3) := by decide +kernel
theorem dL_law_602 : decode cL_law 602 = .ok (.iconst 0, 1) := by decide +kernel
theorem dL_law_603 : decode cL_law 603 = .ok (.ireturn, 1) := by decide +kernel
theorem dL_law_604 : decode cL_law 604 = .ok (.aload_n 1, 1) := by decide +kernel
theorem dL_law_605 : decode cL_law 605 = .ok (.invokevirtual 65, 3) := by decide +kernel
theorem dL_law_608 : decode cL_law 608 = .ok (.aload_n 2, 1) := by decide +kernel
theorem dL_law_609 : decode cL_law 609 = .ok (.invokevirtual 68, 3) := by decide +kernel
theorem dL_law_612 : decode cL_law 612 = .ok (.if_icmp .eq 883, 3) := by decide +kernel
theorem dL_law_615 : decode cL_law 615 = .ok (.iconst 0, 1) := by decide +kernel
theorem dL_law_616 : decode cL_law 616 = .ok (.ireturn, 1) := by decide +kernel
theorem dL_law_617 : decode cL_law 617 = .ok (.aload_n 1, 1) := by decide +kernel
theorem dL_law_618 : decode cL_law 618 = .ok (.aload_n 0, 1) := by decide +kernel
theorem dL_law_619 : decode cL_law 619 = .ok (.iload_n 3, 1) := by decide +kernel
theorem dL_law_620 : decode cL_law 620 = .ok (.iconst 1, 1) := by decide +kernel
theorem dL_law_621 : decode cL_law 621 = .ok (.iadd, 1) := by decide +kernel
theorem dL_law_622 : decode cL_law 622 = .ok (.iaload, 1) := by decide +kernel
theorem dL_law_623 : decode cL_law 623 = .ok (.aload_n 0, 1) := by decide +kernel
theorem dL_law_624 : decode cL_law 624 = .ok (.iload_n 3, 1) := by decide +kernel
theorem dL_law_625 : decode cL_law 625 = .ok (.iconst 2, 1) := by decide +kernel
theorem dL_law_626 : decode cL_law 626 = .ok (.iadd, 1) := by decide +kernel
theorem dL_law_627 : decode cL_law 627 = .ok (.iaload, 1) := by decide +kernel
theorem dL_law_628 : decode cL_law 628 = .ok (.aload_n 0, 1) := by decide +kernel
theorem dL_law_629 : decode cL_law 629 = .ok (.iload_n 3, 1) := by decide +kernel
theorem dL_law_630 : decode cL_law 630 = .ok (.iconst 3, 1) := by decide +kernel
theorem dL_law_631 : decode cL_law 631 = .ok (.iadd, 1) := by decide +kernel
theorem dL_law_632 : decode cL_law 632 = .ok (.iaload, 1) := by decide +kernel
theorem dL_law_633 : decode cL_law 633 = .ok (.invokevirtual 69, 3) := by decide +kernel
theorem dL_law_636 : decode cL_law 636 = .ok (.aload_n 2, 1) := by decide +kernel
theorem dL_law_637 : decode cL_law 637 = .ok (.aload_n 0, 1) := by decide +kernel
theorem dL_law_638 : decode cL_law 638 = .ok (.iload_n 3, 1) := by decide +kernel
theorem dL_law_639 : decode cL_law 639 = .ok (.iconst 1, 1) := by decide +kernel
theorem dL_law_640 : decode cL_law 640 = .ok (.iadd, 1) := by decide +kernel
theorem dL_law_641 : decode cL_law 641 = .ok (.iaload, 1) := by decide +kernel
theorem dL_law_642 : decode cL_law 642 = .ok (.aload_n 0, 1) := by decide +kernel
theorem dL_law_643 : decode cL_law 643 = .ok (.iload_n 3, 1) := by decide +kernel
theorem dL_law_644 : decode cL_law 644 = .ok (.iconst 2, 1) := by decide +kernel
theorem dL_law_645 : decode cL_law 645 = .ok (.iadd, 1) := by decide +kernel
theorem dL_law_646 : decode cL_law 646 = .ok (.iaload, 1) := by decide +kernel
theorem dL_law_647 : decode cL_law 647 = .ok (.aload_n 0, 1) := by decide +kernel
theorem dL_law_648 : decode cL_law 648 = .ok (.iload_n 3, 1) := by decide +kernel
theorem dL_law_649 : decode cL_law 649 = .ok (.iconst 3, 1) := by decide +kernel
theorem dL_law_650 : decode cL_law 650 = .ok (.iadd, 1) := by decide +kernel
theorem dL_law_651 : decode cL_law 651 = .ok (.iaload, 1) := by decide +kernel
theorem dL_law_652 : decode cL_law 652 = .ok (.invokevirtual 72, 3) := by decide +kernel
theorem dL_law_655 : decode cL_law 655 = .ok (.if_icmp .eq 840, 3) := by decide +kernel
theorem dL_law_658 : decode cL_law 658 = .ok (.iconst 0, 1) := by decide +kernel
theorem dL_law_659 : decode cL_law 659 = .ok (.ireturn, 1) := by decide +kernel
theorem dL_law_660 : decode cL_law 660 = .ok (.aload_n 1, 1) := by decide +kernel
theorem dL_law_661 : decode cL_law 661 = .ok (.aload_n 0, 1) := by decide +kernel
theorem dL_law_662 : decode cL_law 662 = .ok (.iload_n 3, 1) := by decide +kernel
theorem dL_law_663 : decode cL_law 663 = .ok (.iconst 1, 1) := by decide +kernel
theorem dL_law_664 : decode cL_law 664 = .ok (.iadd, 1) := by decide +kernel
theorem dL_law_665 : decode cL_law 665 = .ok (.iaload, 1) := by decide +kernel
theorem dL_law_666 : decode cL_law 666 = .ok (.invokevirtual 73, 3) := by decide +kernel
theorem dL_law_669 : decode cL_law 669 = .ok (.aload_n 2, 1) := by decide +kernel
theorem dL_law_670 : decode cL_law 670 = .ok (.aload_n 0, 1) := by decide +kernel
theorem dL_law_671 : decode cL_law 671 = .ok (.iload_n 3, 1) := by decide +kernel
theorem dL_law_672 : decode cL_law 672 = .ok (.iconst 1, 1) := by decide +kernel
theorem dL_law_673 : decode cL_law 673 = .ok (.iadd, 1) := by decide +kernel
theorem dL_law_674 : decode cL_law 674 = .ok (.iaload, 1) := by decide +kernel
theorem dL_law_675 : decode cL_law 675 = .ok (.invokevirtual 76, 3) := by decide +kernel
theorem dL_law_678 : decode cL_law 678 = .ok (.if_icmp .eq 817, 3) := by decide +kernel
theorem dL_law_681 : decode cL_law 681 = .ok (.iconst 0, 1) := by decide +kernel
theorem dL_law_682 : decode cL_law 682 = .ok (.ireturn, 1) := by decide +kernel
theorem dL_law_683 : decode cL_law 683 = .ok (.aload_n 1, 1) := by decide +kernel
theorem dL_law_684 : decode cL_law 684 = .ok (.aload_n 0, 1) := by decide +kernel
theorem dL_law_685 : decode cL_law 685 = .ok (.iload_n 3, 1) := by decide +kernel
theorem dL_law_686 : decode cL_law 686 = .ok (.iconst 1, 1) := by decide +kernel
theorem dL_law_687 : decode cL_law 687 = .ok (.iadd, 1) := by decide +kernel
theorem dL_law_688 : decode cL_law 688 = .ok (.iaload, 1) := by decide +kernel
theorem dL_law_689 : decode cL_law 689 = .ok (.aload_n 0, 1) := by decide +kernel
theorem dL_law_690 : decode cL_law 690 = .ok (.iload_n 3, 1) := by decide +kernel
theorem dL_law_691 : decode cL_law 691 = .ok (.iconst 2, 1) := by decide +kernel
theorem dL_law_692 : decode cL_law 692 = .ok (.iadd, 1) := by decide +kernel
theorem dL_law_693 : decode cL_law 693 = .ok (.iaload, 1) := by decide +kernel
theorem dL_law_694 : decode cL_law 694 = .ok (.invokevirtual 77, 3) := by decide +kernel
theorem dL_law_697 : decode cL_law 697 = .ok (.aload_n 2, 1) := by decide +kernel
theorem dL_law_698 : decode cL_law 698 = .ok (.aload_n 0, 1) := by decide +kernel
theorem dL_law_699 : decode cL_law 699 = .ok (.iload_n 3, 1) := by decide +kernel
theorem dL_law_700 : decode cL_law 700 = .ok (.iconst 1, 1) := by decide +kernel
theorem dL_law_701 : decode cL_law 701 = .ok (.iadd, 1) := by decide +kernel
theorem dL_law_702 : decode cL_law 702 = .ok (.iaload, 1) := by decide +kernel
theorem dL_law_703 : decode cL_law 703 = .ok (.aload_n 0, 1) := by decide +kernel
theorem dL_law_704 : decode cL_law 704 = .ok (.iload_n 3, 1) := by decide +kernel
theorem dL_law_705 : decode cL_law 705 = .ok (.iconst 2, 1) := by decide +kernel
theorem dL_law_706 : decode cL_law 706 = .ok (.iadd, 1) := by decide +kernel
theorem dL_law_707 : decode cL_law 707 = .ok (.iaload, 1) := by decide +kernel
theorem dL_law_708 : decode cL_law 708 = .ok (.invokevirtual 80, 3) := by decide +kernel
theorem dL_law_711 : decode cL_law 711 = .ok (.if_icmp .eq 784, 3) := by decide +kernel
theorem dL_law_714 : decode cL_law 714 = .ok (.iconst 0, 1) := by decide +kernel
theorem dL_law_715 : decode cL_law 715 = .ok (.ireturn, 1) := by decide +kernel
theorem dL_law_716 : decode cL_law 716 = .ok (.aload_n 1, 1) := by decide +kernel
theorem dL_law_717 : decode cL_law 717 = .ok (.aload_n 0, 1) := by decide +kernel
theorem dL_law_718 : decode cL_law 718 = .ok (.iload_n 3, 1) := by decide +kernel
theorem dL_law_719 : decode cL_law 719 = .ok (.iconst 1, 1) := by decide +kernel
theorem dL_law_720 : decode cL_law 720 = .ok (.iadd, 1) := by decide +kernel
theorem dL_law_721 : decode cL_law 721 = .ok (.iaload, 1) := by decide +kernel
theorem dL_law_722 : decode cL_law 722 = .ok (.invokevirtual 81, 3) := by decide +kernel
theorem dL_law_725 : decode cL_law 725 = .ok (.aload_n 2, 1) := by decide +kernel
theorem dL_law_726 : decode cL_law 726 = .ok (.aload_n 0, 1) := by decide +kernel
theorem dL_law_727 : decode cL_law 727 = .ok (.iload_n 3, 1) := by decide +kernel
theorem dL_law_728 : decode cL_law 728 = .ok (.iconst 1, 1) := by decide +kernel
theorem dL_law_729 : decode cL_law 729 = .ok (.iadd, 1) := by decide +kernel
theorem dL_law_730 : decode cL_law 730 = .ok (.iaload, 1) := by decide +kernel
theorem dL_law_731 : decode cL_law 731 = .ok (.invokevirtual 84, 3) := by decide +kernel
theorem dL_law_734 : decode cL_law 734 = .ok (.if_icmp .eq 761, 3) := by decide +kernel
theorem dL_law_737 : decode cL_law 737 = .ok (.iconst 0, 1) := by decide +kernel
theorem dL_law_738 : decode cL_law 738 = .ok (.ireturn, 1) := by decide +kernel
theorem dL_law_739 : decode cL_law 739 = .ok (.aload_n 1, 1) := by decide +kernel
theorem dL_law_740 : decode cL_law 740 = .ok (.aload_n 0, 1) := by decide +kernel
theorem dL_law_741 : decode cL_law 741 = .ok (.iload_n 3, 1) := by decide +kernel
theorem dL_law_742 : decode cL_law 742 = .ok (.iconst 1, 1) := by decide +kernel
theorem dL_law_743 : decode cL_law 743 = .ok (.iadd, 1) := by decide +kernel
theorem dL_law_744 : decode cL_law 744 = .ok (.iaload, 1) := by decide +kernel
theorem dL_law_745 : decode cL_law 745 = .ok (.invokevirtual 85, 3) := by decide +kernel
theorem dL_law_748 : decode cL_law 748 = .ok (.aload_n 2, 1) := by decide +kernel
theorem dL_law_749 : decode cL_law 749 = .ok (.aload_n 0, 1) := by decide +kernel
theorem dL_law_750 : decode cL_law 750 = .ok (.iload_n 3, 1) := by decide +kernel
theorem dL_law_751 : decode cL_law 751 = .ok (.iconst 1, 1) := by decide +kernel
theorem dL_law_752 : decode cL_law 752 = .ok (.iadd, 1) := by decide +kernel
theorem dL_law_753 : decode cL_law 753 = .ok (.iaload, 1) := by decide +kernel
theorem dL_law_754 : decode cL_law 754 = .ok (.invokevirtual 88, 3) := by decide +kernel
theorem dL_law_757 : decode cL_law 757 = .ok (.if_icmp .eq 738, 3) := by decide +kernel
theorem dL_law_760 : decode cL_law 760 = .ok (.iconst 0, 1) := by decide +kernel
theorem dL_law_761 : decode cL_law 761 = .ok (.ireturn, 1) := by decide +kernel
theorem dL_law_762 : decode cL_law 762 = .ok (.aload_n 1, 1) := by decide +kernel
theorem dL_law_763 : decode cL_law 763 = .ok (.aload_n 0, 1) := by decide +kernel
theorem dL_law_764 : decode cL_law 764 = .ok (.iload_n 3, 1) := by decide +kernel
theorem dL_law_765 : decode cL_law 765 = .ok (.iconst 1, 1) := by decide +kernel
theorem dL_law_766 : decode cL_law 766 = .ok (.iadd, 1) := by decide +kernel
theorem dL_law_767 : decode cL_law 767 = .ok (.iaload, 1) := by decide +kernel
theorem dL_law_768 : decode cL_law 768 = .ok (.aload_n 0, 1) := by decide +kernel
theorem dL_law_769 : decode cL_law 769 = .ok (.iload_n 3, 1) := by decide +kernel
theorem dL_law_770 : decode cL_law 770 = .ok (.iconst 2, 1) := by decide +kernel
theorem dL_law_771 : decode cL_law 771 = .ok (.iadd, 1) := by decide +kernel
theorem dL_law_772 : decode cL_law 772 = .ok (.iaload, 1) := by decide +kernel
theorem dL_law_773 : decode cL_law 773 = .ok (.aload_n 0, 1) := by decide +kernel
theorem dL_law_774 : decode cL_law 774 = .ok (.iload_n 3, 1) := by decide +kernel
theorem dL_law_775 : decode cL_law 775 = .ok (.iconst 3, 1) := by decide +kernel
theorem dL_law_776 : decode cL_law 776 = .ok (.iadd, 1) := by decide +kernel
theorem dL_law_777 : decode cL_law 777 = .ok (.iaload, 1) := by decide +kernel
theorem dL_law_778 : decode cL_law 778 = .ok (.invokevirtual 89, 3) := by decide +kernel
theorem dL_law_781 : decode cL_law 781 = .ok (.aload_n 2, 1) := by decide +kernel
theorem dL_law_782 : decode cL_law 782 = .ok (.aload_n 0, 1) := by decide +kernel
theorem dL_law_783 : decode cL_law 783 = .ok (.iload_n 3, 1) := by decide +kernel
theorem dL_law_784 : decode cL_law 784 = .ok (.iconst 1, 1) := by decide +kernel
theorem dL_law_785 : decode cL_law 785 = .ok (.iadd, 1) := by decide +kernel
theorem dL_law_786 : decode cL_law 786 = .ok (.iaload, 1) := by decide +kernel
theorem dL_law_787 : decode cL_law 787 = .ok (.aload_n 0, 1) := by decide +kernel
theorem dL_law_788 : decode cL_law 788 = .ok (.iload_n 3, 1) := by decide +kernel
theorem dL_law_789 : decode cL_law 789 = .ok (.iconst 2, 1) := by decide +kernel
theorem dL_law_790 : decode cL_law 790 = .ok (.iadd, 1) := by decide +kernel
theorem dL_law_791 : decode cL_law 791 = .ok (.iaload, 1) := by decide +kernel
theorem dL_law_792 : decode cL_law 792 = .ok (.aload_n 0, 1) := by decide +kernel
theorem dL_law_793 : decode cL_law 793 = .ok (.iload_n 3, 1) := by decide +kernel
theorem dL_law_794 : decode cL_law 794 = .ok (.iconst 3, 1) := by decide +kernel
theorem dL_law_795 : decode cL_law 795 = .ok (.iadd, 1) := by decide +kernel
theorem dL_law_796 : decode cL_law 796 = .ok (.iaload, 1) := by decide +kernel
theorem dL_law_797 : decode cL_law 797 = .ok (.invokevirtual 92, 3) := by decide +kernel
theorem dL_law_800 : decode cL_law 800 = .ok (.if_icmp .eq 695, 3) := by decide +kernel
theorem dL_law_803 : decode cL_law 803 = .ok (.iconst 0, 1) := by decide +kernel
theorem dL_law_804 : decode cL_law 804 = .ok (.ireturn, 1) := by decide +kernel
theorem dL_law_805 : decode cL_law 805 = .ok (.aload_n 1, 1) := by decide +kernel
theorem dL_law_806 : decode cL_law 806 = .ok (.aload_n 0, 1) := by decide +kernel
theorem dL_law_807 : decode cL_law 807 = .ok (.iload_n 3, 1) := by decide +kernel
theorem dL_law_808 : decode cL_law 808 = .ok (.iconst 1, 1) := by decide +kernel
theorem dL_law_809 : decode cL_law 809 = .ok (.iadd, 1) := by decide +kernel
theorem dL_law_810 : decode cL_law 810 = .ok (.iaload, 1) := by decide +kernel
theorem dL_law_811 : decode cL_law 811 = .ok (.aload_n 0, 1) := by decide +kernel
theorem dL_law_812 : decode cL_law 812 = .ok (.iload_n 3, 1) := by decide +kernel
theorem dL_law_813 : decode cL_law 813 = .ok (.iconst 2, 1) := by decide +kernel
theorem dL_law_814 : decode cL_law 814 = .ok (.iadd, 1) := by decide +kernel
theorem dL_law_815 : decode cL_law 815 = .ok (.iaload, 1) := by decide +kernel
theorem dL_law_816 : decode cL_law 816 = .ok (.invokevirtual 93, 3) := by decide +kernel
theorem dL_law_819 : decode cL_law 819 = .ok (.aload_n 2, 1) := by decide +kernel
theorem dL_law_820 : decode cL_law 820 = .ok (.aload_n 0, 1) := by decide +kernel
theorem dL_law_821 : decode cL_law 821 = .ok (.iload_n 3, 1) := by decide +kernel
theorem dL_law_822 : decode cL_law 822 = .ok (.iconst 1, 1) := by decide +kernel
theorem dL_law_823 : decode cL_law 823 = .ok (.iadd, 1) := by decide +kernel
theorem dL_law_824 : decode cL_law 824 = .ok (.iaload, 1) := by decide +kernel
theorem dL_law_825 : decode cL_law 825 = .ok (.aload_n 0, 1) := by decide +kernel
theorem dL_law_826 : decode cL_law 826 = .ok (.iload_n 3, 1) := by decide +kernel
theorem dL_law_827 : decode cL_law 827 = .ok (.iconst 2, 1) := by decide +kernel
theorem dL_law_828 : decode cL_law 828 = .ok (.iadd, 1) := by decide +kernel
theorem dL_law_829 : decode cL_law 829 = .ok (.iaload, 1) := by decide +kernel
theorem dL_law_830 : decode cL_law 830 = .ok (.invokevirtual 96, 3) := by decide +kernel
theorem dL_law_833 : decode cL_law 833 = .ok (.if_icmp .eq 662, 3) := by decide +kernel
theorem dL_law_836 : decode cL_law 836 = .ok (.iconst 0, 1) := by decide +kernel
theorem dL_law_837 : decode cL_law 837 = .ok (.ireturn, 1) := by decide +kernel
theorem dL_law_838 : decode cL_law 838 = .ok (.aload_n 1, 1) := by decide +kernel
theorem dL_law_839 : decode cL_law 839 = .ok (.aload_n 0, 1) := by decide +kernel
theorem dL_law_840 : decode cL_law 840 = .ok (.iload_n 3, 1) := by decide +kernel
theorem dL_law_841 : decode cL_law 841 = .ok (.iconst 1, 1) := by decide +kernel
theorem dL_law_842 : decode cL_law 842 = .ok (.iadd, 1) := by decide +kernel
theorem dL_law_843 : decode cL_law 843 = .ok (.iaload, 1) := by decide +kernel
theorem dL_law_844 : decode cL_law 844 = .ok (.aload_n 0, 1) := by decide +kernel
theorem dL_law_845 : decode cL_law 845 = .ok (.iload_n 3, 1) := by decide +kernel
theorem dL_law_846 : decode cL_law 846 = .ok (.iconst 2, 1) := by decide +kernel
theorem dL_law_847 : decode cL_law 847 = .ok (.iadd, 1) := by decide +kernel
theorem dL_law_848 : decode cL_law 848 = .ok (.iaload, 1) := by decide +kernel
theorem dL_law_849 : decode cL_law 849 = .ok (.invokevirtual 97, 3) := by decide +kernel
theorem dL_law_852 : decode cL_law 852 = .ok (.aload_n 2, 1) := by decide +kernel
theorem dL_law_853 : decode cL_law 853 = .ok (.aload_n 0, 1) := by decide +kernel
theorem dL_law_854 : decode cL_law 854 = .ok (.iload_n 3, 1) := by decide +kernel
theorem dL_law_855 : decode cL_law 855 = .ok (.iconst 1, 1) := by decide +kernel
theorem dL_law_856 : decode cL_law 856 = .ok (.iadd, 1) := by decide +kernel
theorem dL_law_857 : decode cL_law 857 = .ok (.iaload, 1) := by decide +kernel
theorem dL_law_858 : decode cL_law 858 = .ok (.aload_n 0, 1) := by decide +kernel
theorem dL_law_859 : decode cL_law 859 = .ok (.iload_n 3, 1) := by decide +kernel
theorem dL_law_860 : decode cL_law 860 = .ok (.iconst 2, 1) := by decide +kernel
theorem dL_law_861 : decode cL_law 861 = .ok (.iadd, 1) := by decide +kernel
theorem dL_law_862 : decode cL_law 862 = .ok (.iaload, 1) := by decide +kernel
theorem dL_law_863 : decode cL_law 863 = .ok (.invokevirtual 100, 3) := by decide +kernel
theorem dL_law_866 : decode cL_law 866 = .ok (.if_icmp .eq 629, 3) := by decide +kernel
theorem dL_law_869 : decode cL_law 869 = .ok (.iconst 0, 1) := by decide +kernel
theorem dL_law_870 : decode cL_law 870 = .ok (.ireturn, 1) := by decide +kernel
theorem dL_law_871 : decode cL_law 871 = .ok (.aload_n 1, 1) := by decide +kernel
theorem dL_law_872 : decode cL_law 872 = .ok (.aload_n 0, 1) := by decide +kernel
theorem dL_law_873 : decode cL_law 873 = .ok (.iload_n 3, 1) := by decide +kernel
theorem dL_law_874 : decode cL_law 874 = .ok (.iconst 1, 1) := by decide +kernel
theorem dL_law_875 : decode cL_law 875 = .ok (.iadd, 1) := by decide +kernel
theorem dL_law_876 : decode cL_law 876 = .ok (.iaload, 1) := by decide +kernel
theorem dL_law_877 : decode cL_law 877 = .ok (.aload_n 0, 1) := by decide +kernel
theorem dL_law_878 : decode cL_law 878 = .ok (.iload_n 3, 1) := by decide +kernel
theorem dL_law_879 : decode cL_law 879 = .ok (.iconst 2, 1) := by decide +kernel
theorem dL_law_880 : decode cL_law 880 = .ok (.iadd, 1) := by decide +kernel
theorem dL_law_881 : decode cL_law 881 = .ok (.iaload, 1) := by decide +kernel
theorem dL_law_882 : decode cL_law 882 = .ok (.invokevirtual 101, 3) := by decide +kernel
theorem dL_law_885 : decode cL_law 885 = .ok (.aload_n 2, 1) := by decide +kernel
theorem dL_law_886 : decode cL_law 886 = .ok (.aload_n 0, 1) := by decide +kernel
theorem dL_law_887 : decode cL_law 887 = .ok (.iload_n 3, 1) := by decide +kernel
theorem dL_law_888 : decode cL_law 888 = .ok (.iconst 1, 1) := by decide +kernel
theorem dL_law_889 : decode cL_law 889 = .ok (.iadd, 1) := by decide +kernel
theorem dL_law_890 : decode cL_law 890 = .ok (.iaload, 1) := by decide +kernel
theorem dL_law_891 : decode cL_law 891 = .ok (.aload_n 0, 1) := by decide +kernel
theorem dL_law_892 : decode cL_law 892 = .ok (.iload_n 3, 1) := by decide +kernel
theorem dL_law_893 : decode cL_law 893 = .ok (.iconst 2, 1) := by decide +kernel
theorem dL_law_894 : decode cL_law 894 = .ok (.iadd, 1) := by decide +kernel
theorem dL_law_895 : decode cL_law 895 = .ok (.iaload, 1) := by decide +kernel
theorem dL_law_896 : decode cL_law 896 = .ok (.invokevirtual 104, 3) := by decide +kernel
theorem dL_law_899 : decode cL_law 899 = .ok (.if_icmp .eq 596, 3) := by decide +kernel
theorem dL_law_902 : decode cL_law 902 = .ok (.iconst 0, 1) := by decide +kernel
theorem dL_law_903 : decode cL_law 903 = .ok (.ireturn, 1) := by decide +kernel
theorem dL_law_904 : decode cL_law 904 = .ok (.aload_n 1, 1) := by decide +kernel
theorem dL_law_905 : decode cL_law 905 = .ok (.aload_n 0, 1) := by decide +kernel
theorem dL_law_906 : decode cL_law 906 = .ok (.iload_n 3, 1) := by decide +kernel
theorem dL_law_907 : decode cL_law 907 = .ok (.iconst 1, 1) := by decide +kernel
theorem dL_law_908 : decode cL_law 908 = .ok (.iadd, 1) := by decide +kernel
theorem dL_law_909 : decode cL_law 909 = .ok (.iaload, 1) := by decide +kernel
theorem dL_law_910 : decode cL_law 910 = .ok (.invokevirtual 105, 3) := by decide +kernel
theorem dL_law_913 : decode cL_law 913 = .ok (.aload_n 2, 1) := by decide +kernel
theorem dL_law_914 : decode cL_law 914 = .ok (.aload_n 0, 1) := by decide +kernel
theorem dL_law_915 : decode cL_law 915 = .ok (.iload_n 3, 1) := by decide +kernel
theorem dL_law_916 : decode cL_law 916 = .ok (.iconst 1, 1) := by decide +kernel
theorem dL_law_917 : decode cL_law 917 = .ok (.iadd, 1) := by decide +kernel
theorem dL_law_918 : decode cL_law 918 = .ok (.iaload, 1) := by decide +kernel
theorem dL_law_919 : decode cL_law 919 = .ok (.invokevirtual 108, 3) := by decide +kernel
theorem dL_law_922 : decode cL_law 922 = .ok (.if_icmp .eq 573, 3) := by decide +kernel
theorem dL_law_925 : decode cL_law 925 = .ok (.iconst 0, 1) := by decide +kernel
theorem dL_law_926 : decode cL_law 926 = .ok (.ireturn, 1) := by decide +kernel
theorem dL_law_927 : decode cL_law 927 = .ok (.aload_n 1, 1) := by decide +kernel
theorem dL_law_928 : decode cL_law 928 = .ok (.aload_n 0, 1) := by decide +kernel
theorem dL_law_929 : decode cL_law 929 = .ok (.iload_n 3, 1) := by decide +kernel
theorem dL_law_930 : decode cL_law 930 = .ok (.iconst 1, 1) := by decide +kernel
theorem dL_law_931 : decode cL_law 931 = .ok (.iadd, 1) := by decide +kernel
theorem dL_law_932 : decode cL_law 932 = .ok (.iaload, 1) := by decide +kernel
theorem dL_law_933 : decode cL_law 933 = .ok (.aload_n 0, 1) := by decide +kernel
theorem dL_law_934 : decode cL_law 934 = .ok (.iload_n 3, 1) := by decide +kernel
theorem dL_law_935 : decode cL_law 935 = .ok (.iconst 2, 1) := by decide +kernel
theorem dL_law_936 : decode cL_law 936 = .ok (.iadd, 1) := by decide +kernel
theorem dL_law_937 : decode cL_law 937 = .ok (.iaload, 1) := by decide +kernel
theorem dL_law_938 : decode cL_law 938 = .ok (.invokevirtual 109, 3) := by decide +kernel
theorem dL_law_941 : decode cL_law 941 = .ok (.aload_n 2, 1) := by decide +kernel
theorem dL_law_942 : decode cL_law 942 = .ok (.aload_n 0, 1) := by decide +kernel
theorem dL_law_943 : decode cL_law 943 = .ok (.iload_n 3, 1) := by decide +kernel
theorem dL_law_944 : decode cL_law 944 = .ok (.iconst 1, 1) := by decide +kernel
theorem dL_law_945 : decode cL_law 945 = .ok (.iadd, 1) := by decide +kernel
theorem dL_law_946 : decode cL_law 946 = .ok (.iaload, 1) := by decide +kernel
theorem dL_law_947 : decode cL_law 947 = .ok (.aload_n 0, 1) := by decide +kernel
theorem dL_law_948 : decode cL_law 948 = .ok (.iload_n 3, 1) := by decide +kernel
theorem dL_law_949 : decode cL_law 949 = .ok (.iconst 2, 1) := by decide +kernel
theorem dL_law_950 : decode cL_law 950 = .ok (.iadd, 1) := by decide +kernel
theorem dL_law_951 : decode cL_law 951 = .ok (.iaload, 1) := by decide +kernel
theorem dL_law_952 : decode cL_law 952 = .ok (.invokevirtual 112, 3) := by decide +kernel
theorem dL_law_955 : decode cL_law 955 = .ok (.if_icmp .eq 540, 3) := by decide +kernel
theorem dL_law_958 : decode cL_law 958 = .ok (.iconst 0, 1) := by decide +kernel
theorem dL_law_959 : decode cL_law 959 = .ok (.ireturn, 1) := by decide +kernel
theorem dL_law_960 : decode cL_law 960 = .ok (.aload_n 1, 1) := by decide +kernel
theorem dL_law_961 : decode cL_law 961 = .ok (.aload_n 0, 1) := by decide +kernel
theorem dL_law_962 : decode cL_law 962 = .ok (.iload_n 3, 1) := by decide +kernel
theorem dL_law_963 : decode cL_law 963 = .ok (.iconst 1, 1) := by decide +kernel
theorem dL_law_964 : decode cL_law 964 = .ok (.iadd, 1) := by decide +kernel
theorem dL_law_965 : decode cL_law 965 = .ok (.iaload, 1) := by decide +kernel
theorem dL_law_966 : decode cL_law 966 = .ok (.invokevirtual 113, 3) := by decide +kernel
theorem dL_law_969 : decode cL_law 969 = .ok (.aload_n 2, 1) := by decide +kernel
theorem dL_law_970 : decode cL_law 970 = .ok (.aload_n 0, 1) := by decide +kernel
theorem dL_law_971 : decode cL_law 971 = .ok (.iload_n 3, 1) := by decide +kernel
theorem dL_law_972 : decode cL_law 972 = .ok (.iconst 1, 1) := by decide +kernel
theorem dL_law_973 : decode cL_law 973 = .ok (.iadd, 1) := by decide +kernel
theorem dL_law_974 : decode cL_law 974 = .ok (.iaload, 1) := by decide +kernel
theorem dL_law_975 : decode cL_law 975 = .ok (.invokevirtual 116, 3) := by decide +kernel
theorem dL_law_978 : decode cL_law 978 = .ok (.if_icmp .eq 517, 3) := by decide +kernel
theorem dL_law_981 : decode cL_law 981 = .ok (.iconst 0, 1) := by decide +kernel
theorem dL_law_982 : decode cL_law 982 = .ok (.ireturn, 1) := by decide +kernel
theorem dL_law_983 : decode cL_law 983 = .ok (.aload_n 1, 1) := by decide +kernel
theorem dL_law_984 : decode cL_law 984 = .ok (.aload_n 0, 1) := by decide +kernel
theorem dL_law_985 : decode cL_law 985 = .ok (.iload_n 3, 1) := by decide +kernel
theorem dL_law_986 : decode cL_law 986 = .ok (.iconst 1, 1) := by decide +kernel
theorem dL_law_987 : decode cL_law 987 = .ok (.iadd, 1) := by decide +kernel
theorem dL_law_988 : decode cL_law 988 = .ok (.iaload, 1) := by decide +kernel
theorem dL_law_989 : decode cL_law 989 = .ok (.invokevirtual 117, 3) := by decide +kernel
theorem dL_law_992 : decode cL_law 992 = .ok (.aload_n 2, 1) := by decide +kernel
theorem dL_law_993 : decode cL_law 993 = .ok (.aload_n 0, 1) := by decide +kernel
theorem dL_law_994 : decode cL_law 994 = .ok (.iload_n 3, 1) := by decide +kernel
theorem dL_law_995 : decode cL_law 995 = .ok (.iconst 1, 1) := by decide +kernel
theorem dL_law_996 : decode cL_law 996 = .ok (.iadd, 1) := by decide +kernel
theorem dL_law_997 : decode cL_law 997 = .ok (.iaload, 1) := by decide +kernel
theorem dL_law_998 : decode cL_law 998 = .ok (.invokevirtual 120, 3) := by decide +kernel
theorem dL_law_1001 : decode cL_law 1001 = .ok (.if_icmp .eq 494, 3) := by decide +kernel
theorem dL_law_1004 : decode cL_law 1004 = .ok (.iconst 0, 1) := by decide +kernel
theorem dL_law_1005 : decode cL_law 1005 = .ok (.ireturn, 1) := by decide +kernel
theorem dL_law_1006 : decode cL_law 1006 = .ok (.aload_n 1, 1) := by decide +kernel
theorem dL_law_1007 : decode cL_law 1007 = .ok (.aload_n 0, 1) := by decide +kernel
theorem dL_law_1008 : decode cL_law 1008 = .ok (.iload_n 3, 1) := by decide +kernel
theorem dL_law_1009 : decode cL_law 1009 = .ok (.iconst 1, 1) := by decide +kernel
theorem dL_law_1010 : decode cL_law 1010 = .ok (.iadd, 1) := by decide +kernel
theorem dL_law_1011 : decode cL_law 1011 = .ok (.iaload, 1) := by decide +kernel
theorem dL_law_1012 : decode cL_law 1012 = .ok (.aload_n 0, 1) := by decide +kernel
theorem dL_law_1013 : decode cL_law 1013 = .ok (.iload_n 3, 1) := by decide +kernel
theorem dL_law_1014 : decode cL_law 1014 = .ok (.iconst 2, 1) := by decide +kernel
theorem dL_law_1015 : decode cL_law 1015 = .ok (.iadd, 1) := by decide +kernel
theorem dL_law_1016 : decode cL_law 1016 = .ok (.iaload, 1) := by decide +kernel
theorem dL_law_1017 : decode cL_law 1017 = .ok (.aload_n 0, 1) := by decide +kernel
theorem dL_law_1018 : decode cL_law 1018 = .ok (.iload_n 3, 1) := by decide +kernel
theorem dL_law_1019 : decode cL_law 1019 = .ok (.iconst 3, 1) := by decide +kernel
theorem dL_law_1020 : decode cL_law 1020 = .ok (.iadd, 1) := by decide +kernel
theorem dL_law_1021 : decode cL_law 1021 = .ok (.iaload, 1) := by decide +kernel
theorem dL_law_1022 : decode cL_law 1022 = .ok (.invokevirtual 121, 3) := by decide +kernel
theorem dL_law_1025 : decode cL_law 1025 = .ok (.aload_n 2, 1) := by decide +kernel
theorem dL_law_1026 : decode cL_law 1026 = .ok (.aload_n 0, 1) := by decide +kernel
theorem dL_law_1027 : decode cL_law 1027 = .ok (.iload_n 3, 1) := by decide +kernel
theorem dL_law_1028 : decode cL_law 1028 = .ok (.iconst 1, 1) := by decide +kernel
theorem dL_law_1029 : decode cL_law 1029 = .ok (.iadd, 1) := by decide +kernel
theorem dL_law_1030 : decode cL_law 1030 = .ok (.iaload, 1) := by decide +kernel
theorem dL_law_1031 : decode cL_law 1031 = .ok (.aload_n 0, 1) := by decide +kernel
theorem dL_law_1032 : decode cL_law 1032 = .ok (.iload_n 3, 1) := by decide +kernel
theorem dL_law_1033 : decode cL_law 1033 = .ok (.iconst 2, 1) := by decide +kernel
theorem dL_law_1034 : decode cL_law 1034 = .ok (.iadd, 1) := by decide +kernel
theorem dL_law_1035 : decode cL_law 1035 = .ok (.iaload, 1) := by decide +kernel
theorem dL_law_1036 : decode cL_law 1036 = .ok (.aload_n 0, 1) := by decide +kernel
theorem dL_law_1037 : decode cL_law 1037 = .ok (.iload_n 3, 1) := by decide +kernel
theorem dL_law_1038 : decode cL_law 1038 = .ok (.iconst 3, 1) := by decide +kernel
theorem dL_law_1039 : decode cL_law 1039 = .ok (.iadd, 1) := by decide +kernel
theorem dL_law_1040 : decode cL_law 1040 = .ok (.iaload, 1) := by decide +kernel
theorem dL_law_1041 : decode cL_law 1041 = .ok (.invokevirtual 124, 3) := by decide +kernel
theorem dL_law_1044 : decode cL_law 1044 = .ok (.if_icmp .eq 451, 3) := by decide +kernel
theorem dL_law_1047 : decode cL_law 1047 = .ok (.iconst 0, 1) := by decide +kernel
theorem dL_law_1048 : decode cL_law 1048 = .ok (.ireturn, 1) := by decide +kernel
theorem dL_law_1049 : decode cL_law 1049 = .ok (.aload_n 1, 1) := by decide +kernel
theorem dL_law_1050 : decode cL_law 1050 = .ok (.aload_n 0, 1) := by decide +kernel
theorem dL_law_1051 : decode cL_law 1051 = .ok (.iload_n 3, 1) := by decide +kernel
theorem dL_law_1052 : decode cL_law 1052 = .ok (.iconst 1, 1) := by decide +kernel
theorem dL_law_1053 : decode cL_law 1053 = .ok (.iadd, 1) := by decide +kernel
theorem dL_law_1054 : decode cL_law 1054 = .ok (.iaload, 1) := by decide +kernel
theorem dL_law_1055 : decode cL_law 1055 = .ok (.aload_n 0, 1) := by decide +kernel
theorem dL_law_1056 : decode cL_law 1056 = .ok (.iload_n 3, 1) := by decide +kernel
theorem dL_law_1057 : decode cL_law 1057 = .ok (.iconst 2, 1) := by decide +kernel
theorem dL_law_1058 : decode cL_law 1058 = .ok (.iadd, 1) := by decide +kernel
theorem dL_law_1059 : decode cL_law 1059 = .ok (.iaload, 1) := by decide +kernel
theorem dL_law_1060 : decode cL_law 1060 = .ok (.aload_n 0, 1) := by decide +kernel
theorem dL_law_1061 : decode cL_law 1061 = .ok (.iload_n 3, 1) := by decide +kernel
theorem dL_law_1062 : decode cL_law 1062 = .ok (.iconst 3, 1) := by decide +kernel
theorem dL_law_1063 : decode cL_law 1063 = .ok (.iadd, 1) := by decide +kernel
theorem dL_law_1064 : decode cL_law 1064 = .ok (.iaload, 1) := by decide +kernel
theorem dL_law_1065 : decode cL_law 1065 = .ok (.invokevirtual 125, 3) := by decide +kernel
theorem dL_law_1068 : decode cL_law 1068 = .ok (.aload_n 2, 1) := by decide +kernel
theorem dL_law_1069 : decode cL_law 1069 = .ok (.aload_n 0, 1) := by decide +kernel
theorem dL_law_1070 : decode cL_law 1070 = .ok (.iload_n 3, 1) := by decide +kernel
theorem dL_law_1071 : decode cL_law 1071 = .ok (.iconst 1, 1) := by decide +kernel
theorem dL_law_1072 : decode cL_law 1072 = .ok (.iadd, 1) := by decide +kernel
theorem dL_law_1073 : decode cL_law 1073 = .ok (.iaload, 1) := by decide +kernel
theorem dL_law_1074 : decode cL_law 1074 = .ok (.aload_n 0, 1) := by decide +kernel
theorem dL_law_1075 : decode cL_law 1075 = .ok (.iload_n 3, 1) := by decide +kernel
theorem dL_law_1076 : decode cL_law 1076 = .ok (.iconst 2, 1) := by decide +kernel
theorem dL_law_1077 : decode cL_law 1077 = .ok (.iadd, 1) := by decide +kernel
theorem dL_law_1078 : decode cL_law 1078 = .ok (.iaload, 1) := by decide +kernel
theorem dL_law_1079 : decode cL_law 1079 = .ok (.aload_n 0, 1) := by decide +kernel
theorem dL_law_1080 : decode cL_law 1080 = .ok (.iload_n 3, 1) := by decide +kernel
theorem dL_law_1081 : decode cL_law 1081 = .ok (.iconst 3, 1) := by decide +kernel
theorem dL_law_1082 : decode cL_law 1082 = .ok (.iadd, 1) := by decide +kernel
theorem dL_law_1083 : decode cL_law 1083 = .ok (.iaload, 1) := by decide +kernel
theorem dL_law_1084 : decode cL_law 1084 = .ok (.invokevirtual 128, 3) := by decide +kernel
theorem dL_law_1087 : decode cL_law 1087 = .ok (.if_icmp .eq 408, 3) := by decide +kernel
theorem dL_law_1090 : decode cL_law 1090 = .ok (.iconst 0, 1) := by decide +kernel
theorem dL_law_1091 : decode cL_law 1091 = .ok (.ireturn, 1) := by decide +kernel
theorem dL_law_1092 : decode cL_law 1092 = .ok (.aload_n 1, 1) := by decide +kernel
theorem dL_law_1093 : decode cL_law 1093 = .ok (.aload_n 0, 1) := by decide +kernel
theorem dL_law_1094 : decode cL_law 1094 = .ok (.iload_n 3, 1) := by decide +kernel
theorem dL_law_1095 : decode cL_law 1095 = .ok (.iconst 1, 1) := by decide +kernel
theorem dL_law_1096 : decode cL_law 1096 = .ok (.iadd, 1) := by decide +kernel
theorem dL_law_1097 : decode cL_law 1097 = .ok (.iaload, 1) := by decide +kernel
theorem dL_law_1098 : decode cL_law 1098 = .ok (.aload_n 0, 1) := by decide +kernel
theorem dL_law_1099 : decode cL_law 1099 = .ok (.iload_n 3, 1) := by decide +kernel
theorem dL_law_1100 : decode cL_law 1100 = .ok (.iconst 2, 1) := by decide +kernel
theorem dL_law_1101 : decode cL_law 1101 = .ok (.iadd, 1) := by decide +kernel
theorem dL_law_1102 : decode cL_law 1102 = .ok (.iaload, 1) := by decide +kernel
theorem dL_law_1103 : decode cL_law 1103 = .ok (.aload_n 0, 1) := by decide +kernel
theorem dL_law_1104 : decode cL_law 1104 = .ok (.iload_n 3, 1) := by decide +kernel
theorem dL_law_1105 : decode cL_law 1105 = .ok (.iconst 3, 1) := by decide +kernel
theorem dL_law_1106 : decode cL_law 1106 = .ok (.iadd, 1) := by decide +kernel
theorem dL_law_1107 : decode cL_law 1107 = .ok (.iaload, 1) := by decide +kernel
theorem dL_law_1108 : decode cL_law 1108 = .ok (.aload_n 0, 1) := by decide +kernel
theorem dL_law_1109 : decode cL_law 1109 = .ok (.iload_n 3, 1) := by decide +kernel
theorem dL_law_1110 : decode cL_law 1110 = .ok (.iconst 4, 1) := by decide +kernel
theorem dL_law_1111 : decode cL_law 1111 = .ok (.iadd, 1) := by decide +kernel
theorem dL_law_1112 : decode cL_law 1112 = .ok (.iaload, 1) := by decide +kernel
theorem dL_law_1113 : decode cL_law 1113 = .ok (.aload_n 0, 1) := by decide +kernel
theorem dL_law_1114 : decode cL_law 1114 = .ok (.iload_n 3, 1) := by decide +kernel
theorem dL_law_1115 : decode cL_law 1115 = .ok (.iconst 5, 1) := by decide +kernel
theorem dL_law_1116 : decode cL_law 1116 = .ok (.iadd, 1) := by decide +kernel
theorem dL_law_1117 : decode cL_law 1117 = .ok (.iaload, 1) := by decide +kernel
theorem dL_law_1118 : decode cL_law 1118 = .ok (.invokevirtual 129, 3) := by decide +kernel
theorem dL_law_1121 : decode cL_law 1121 = .ok (.aload_n 2, 1) := by decide +kernel
theorem dL_law_1122 : decode cL_law 1122 = .ok (.aload_n 0, 1) := by decide +kernel
theorem dL_law_1123 : decode cL_law 1123 = .ok (.iload_n 3, 1) := by decide +kernel
theorem dL_law_1124 : decode cL_law 1124 = .ok (.iconst 1, 1) := by decide +kernel
theorem dL_law_1125 : decode cL_law 1125 = .ok (.iadd, 1) := by decide +kernel
theorem dL_law_1126 : decode cL_law 1126 = .ok (.iaload, 1) := by decide +kernel
theorem dL_law_1127 : decode cL_law 1127 = .ok (.aload_n 0, 1) := by decide +kernel
theorem dL_law_1128 : decode cL_law 1128 = .ok (.iload_n 3, 1) := by decide +kernel
theorem dL_law_1129 : decode cL_law 1129 = .ok (.iconst 2, 1) := by decide +kernel
theorem dL_law_1130 : decode cL_law 1130 = .ok (.iadd, 1) := by decide +kernel
theorem dL_law_1131 : decode cL_law 1131 = .ok (.iaload, 1) := by decide +kernel
theorem dL_law_1132 : decode cL_law 1132 = .ok (.aload_n 0, 1) := by decide +kernel
theorem dL_law_1133 : decode cL_law 1133 = .ok (.iload_n 3, 1) := by decide +kernel
theorem dL_law_1134 : decode cL_law 1134 = .ok (.iconst 3, 1) := by decide +kernel
theorem dL_law_1135 : decode cL_law 1135 = .ok (.iadd, 1) := by decide +kernel
theorem dL_law_1136 : decode cL_law 1136 = .ok (.iaload, 1) := by decide +kernel
theorem dL_law_1137 : decode cL_law 1137 = .ok (.aload_n 0, 1) := by decide +kernel
theorem dL_law_1138 : decode cL_law 1138 = .ok (.iload_n 3, 1) := by decide +kernel
theorem dL_law_1139 : decode cL_law 1139 = .ok (.iconst 4, 1) := by decide +kernel
theorem dL_law_1140 : decode cL_law 1140 = .ok (.iadd, 1) := by decide +kernel
theorem dL_law_1141 : decode cL_law 1141 = .ok (.iaload, 1) := by decide +kernel
theorem dL_law_1142 : decode cL_law 1142 = .ok (.aload_n 0, 1) := by decide +kernel
theorem dL_law_1143 : decode cL_law 1143 = .ok (.iload_n 3, 1) := by decide +kernel
theorem dL_law_1144 : decode cL_law 1144 = .ok (.iconst 5, 1) := by decide +kernel
theorem dL_law_1145 : decode cL_law 1145 = .ok (.iadd, 1) := by decide +kernel
theorem dL_law_1146 : decode cL_law 1146 = .ok (.iaload, 1) := by decide +kernel
theorem dL_law_1147 : decode cL_law 1147 = .ok (.invokevirtual 133, 3) := by decide +kernel
theorem dL_law_1150 : decode cL_law 1150 = .ok (.lcmp, 1) := by decide +kernel
theorem dL_law_1151 : decode cL_law 1151 = .ok (.ifCond .eq 344, 3) := by decide +kernel
theorem dL_law_1154 : decode cL_law 1154 = .ok (.iconst 0, 1) := by decide +kernel
theorem dL_law_1155 : decode cL_law 1155 = .ok (.ireturn, 1) := by decide +kernel
theorem dL_law_1156 : decode cL_law 1156 = .ok (.aload_n 1, 1) := by decide +kernel
theorem dL_law_1157 : decode cL_law 1157 = .ok (.aload_n 0, 1) := by decide +kernel
theorem dL_law_1158 : decode cL_law 1158 = .ok (.iload_n 3, 1) := by decide +kernel
theorem dL_law_1159 : decode cL_law 1159 = .ok (.iconst 1, 1) := by decide +kernel
theorem dL_law_1160 : decode cL_law 1160 = .ok (.iadd, 1) := by decide +kernel
theorem dL_law_1161 : decode cL_law 1161 = .ok (.iaload, 1) := by decide +kernel
theorem dL_law_1162 : decode cL_law 1162 = .ok (.invokevirtual 134, 3) := by decide +kernel
theorem dL_law_1165 : decode cL_law 1165 = .ok (.aload_n 2, 1) := by decide +kernel
theorem dL_law_1166 : decode cL_law 1166 = .ok (.aload_n 0, 1) := by decide +kernel
theorem dL_law_1167 : decode cL_law 1167 = .ok (.iload_n 3, 1) := by decide +kernel
theorem dL_law_1168 : decode cL_law 1168 = .ok (.iconst 1, 1) := by decide +kernel
theorem dL_law_1169 : decode cL_law 1169 = .ok (.iadd, 1) := by decide +kernel
theorem dL_law_1170 : decode cL_law 1170 = .ok (.iaload, 1) := by decide +kernel
theorem dL_law_1171 : decode cL_law 1171 = .ok (.invokevirtual 137, 3) := by decide +kernel
theorem dL_law_1174 : decode cL_law 1174 = .ok (.if_icmp .eq 321, 3) := by decide +kernel
theorem dL_law_1177 : decode cL_law 1177 = .ok (.iconst 0, 1) := by decide +kernel
theorem dL_law_1178 : decode cL_law 1178 = .ok (.ireturn, 1) := by decide +kernel
theorem dL_law_1179 : decode cL_law 1179 = .ok (.aload_n 1, 1) := by decide +kernel
theorem dL_law_1180 : decode cL_law 1180 = .ok (.aload_n 0, 1) := by decide +kernel
theorem dL_law_1181 : decode cL_law 1181 = .ok (.iload_n 3, 1) := by decide +kernel
theorem dL_law_1182 : decode cL_law 1182 = .ok (.iconst 1, 1) := by decide +kernel
theorem dL_law_1183 : decode cL_law 1183 = .ok (.iadd, 1) := by decide +kernel
theorem dL_law_1184 : decode cL_law 1184 = .ok (.iaload, 1) := by decide +kernel
theorem dL_law_1185 : decode cL_law 1185 = .ok (.invokevirtual 138, 3) := by decide +kernel
theorem dL_law_1188 : decode cL_law 1188 = .ok (.aload_n 2, 1) := by decide +kernel
theorem dL_law_1189 : decode cL_law 1189 = .ok (.aload_n 0, 1) := by decide +kernel
theorem dL_law_1190 : decode cL_law 1190 = .ok (.iload_n 3, 1) := by decide +kernel
theorem dL_law_1191 : decode cL_law 1191 = .ok (.iconst 1, 1) := by decide +kernel
theorem dL_law_1192 : decode cL_law 1192 = .ok (.iadd, 1) := by decide +kernel
theorem dL_law_1193 : decode cL_law 1193 = .ok (.iaload, 1) := by decide +kernel
theorem dL_law_1194 : decode cL_law 1194 = .ok (.invokevirtual 142, 3) := by decide +kernel
theorem dL_law_1197 : decode cL_law 1197 = .ok (.lcmp, 1) := by decide +kernel
theorem dL_law_1198 : decode cL_law 1198 = .ok (.ifCond .eq 297, 3) := by decide +kernel
theorem dL_law_1201 : decode cL_law 1201 = .ok (.iconst 0, 1) := by decide +kernel
theorem dL_law_1202 : decode cL_law 1202 = .ok (.ireturn, 1) := by decide +kernel
theorem dL_law_1203 : decode cL_law 1203 = .ok (.aload_n 1, 1) := by decide +kernel
theorem dL_law_1204 : decode cL_law 1204 = .ok (.invokevirtual 143, 3) := by decide +kernel
theorem dL_law_1207 : decode cL_law 1207 = .ok (.aload_n 2, 1) := by decide +kernel
theorem dL_law_1208 : decode cL_law 1208 = .ok (.invokevirtual 146, 3) := by decide +kernel
theorem dL_law_1211 : decode cL_law 1211 = .ok (.if_icmp .eq 284, 3) := by decide +kernel
theorem dL_law_1214 : decode cL_law 1214 = .ok (.iconst 0, 1) := by decide +kernel
theorem dL_law_1215 : decode cL_law 1215 = .ok (.ireturn, 1) := by decide +kernel
theorem dL_law_1216 : decode cL_law 1216 = .ok (.aload_n 1, 1) := by decide +kernel
theorem dL_law_1217 : decode cL_law 1217 = .ok (.aload_n 0, 1) := by decide +kernel
theorem dL_law_1218 : decode cL_law 1218 = .ok (.iload_n 3, 1) := by decide +kernel
theorem dL_law_1219 : decode cL_law 1219 = .ok (.iconst 1, 1) := by decide +kernel
theorem dL_law_1220 : decode cL_law 1220 = .ok (.iadd, 1) := by decide +kernel
theorem dL_law_1221 : decode cL_law 1221 = .ok (.iaload, 1) := by decide +kernel
theorem dL_law_1222 : decode cL_law 1222 = .ok (.invokevirtual 147, 3) := by decide +kernel
theorem dL_law_1225 : decode cL_law 1225 = .ok (.aload_n 2, 1) := by decide +kernel
theorem dL_law_1226 : decode cL_law 1226 = .ok (.aload_n 0, 1) := by decide +kernel
theorem dL_law_1227 : decode cL_law 1227 = .ok (.iload_n 3, 1) := by decide +kernel
theorem dL_law_1228 : decode cL_law 1228 = .ok (.iconst 1, 1) := by decide +kernel
theorem dL_law_1229 : decode cL_law 1229 = .ok (.iadd, 1) := by decide +kernel
theorem dL_law_1230 : decode cL_law 1230 = .ok (.iaload, 1) := by decide +kernel
theorem dL_law_1231 : decode cL_law 1231 = .ok (.invokevirtual 150, 3) := by decide +kernel
theorem dL_law_1234 : decode cL_law 1234 = .ok (.if_icmp .eq 261, 3) := by decide +kernel
theorem dL_law_1237 : decode cL_law 1237 = .ok (.iconst 0, 1) := by decide +kernel
theorem dL_law_1238 : decode cL_law 1238 = .ok (.ireturn, 1) := by decide +kernel
theorem dL_law_1239 : decode cL_law 1239 = .ok (.aload_n 1, 1) := by decide +kernel
theorem dL_law_1240 : decode cL_law 1240 = .ok (.aload_n 0, 1) := by decide +kernel
theorem dL_law_1241 : decode cL_law 1241 = .ok (.iload_n 3, 1) := by decide +kernel
theorem dL_law_1242 : decode cL_law 1242 = .ok (.iconst 1, 1) := by decide +kernel
theorem dL_law_1243 : decode cL_law 1243 = .ok (.iadd, 1) := by decide +kernel
theorem dL_law_1244 : decode cL_law 1244 = .ok (.iaload, 1) := by decide +kernel
theorem dL_law_1245 : decode cL_law 1245 = .ok (.invokevirtual 151, 3) := by decide +kernel
theorem dL_law_1248 : decode cL_law 1248 = .ok (.aload_n 2, 1) := by decide +kernel
theorem dL_law_1249 : decode cL_law 1249 = .ok (.aload_n 0, 1) := by decide +kernel
theorem dL_law_1250 : decode cL_law 1250 = .ok (.iload_n 3, 1) := by decide +kernel
theorem dL_law_1251 : decode cL_law 1251 = .ok (.iconst 1, 1) := by decide +kernel
theorem dL_law_1252 : decode cL_law 1252 = .ok (.iadd, 1) := by decide +kernel
theorem dL_law_1253 : decode cL_law 1253 = .ok (.iaload, 1) := by decide +kernel
theorem dL_law_1254 : decode cL_law 1254 = .ok (.invokevirtual 154, 3) := by decide +kernel
theorem dL_law_1257 : decode cL_law 1257 = .ok (.if_icmp .eq 238, 3) := by decide +kernel
theorem dL_law_1260 : decode cL_law 1260 = .ok (.iconst 0, 1) := by decide +kernel
theorem dL_law_1261 : decode cL_law 1261 = .ok (.ireturn, 1) := by decide +kernel
theorem dL_law_1262 : decode cL_law 1262 = .ok (.aload_n 1, 1) := by decide +kernel
theorem dL_law_1263 : decode cL_law 1263 = .ok (.invokevirtual 155, 3) := by decide +kernel
theorem dL_law_1266 : decode cL_law 1266 = .ok (.aload_n 2, 1) := by decide +kernel
theorem dL_law_1267 : decode cL_law 1267 = .ok (.invokevirtual 158, 3) := by decide +kernel
theorem dL_law_1270 : decode cL_law 1270 = .ok (.if_icmp .eq 225, 3) := by decide +kernel
theorem dL_law_1273 : decode cL_law 1273 = .ok (.iconst 0, 1) := by decide +kernel
theorem dL_law_1274 : decode cL_law 1274 = .ok (.ireturn, 1) := by decide +kernel
theorem dL_law_1275 : decode cL_law 1275 = .ok (.aload_n 1, 1) := by decide +kernel
theorem dL_law_1276 : decode cL_law 1276 = .ok (.invokevirtual 159, 3) := by decide +kernel
theorem dL_law_1279 : decode cL_law 1279 = .ok (.aload_n 2, 1) := by decide +kernel
theorem dL_law_1280 : decode cL_law 1280 = .ok (.invokevirtual 162, 3) := by decide +kernel
theorem dL_law_1283 : decode cL_law 1283 = .ok (.if_icmp .eq 212, 3) := by decide +kernel
theorem dL_law_1286 : decode cL_law 1286 = .ok (.iconst 0, 1) := by decide +kernel
theorem dL_law_1287 : decode cL_law 1287 = .ok (.ireturn, 1) := by decide +kernel
theorem dL_law_1288 : decode cL_law 1288 = .ok (.aload_n 1, 1) := by decide +kernel
theorem dL_law_1289 : decode cL_law 1289 = .ok (.aload_n 0, 1) := by decide +kernel
theorem dL_law_1290 : decode cL_law 1290 = .ok (.iload_n 3, 1) := by decide +kernel
theorem dL_law_1291 : decode cL_law 1291 = .ok (.iconst 1, 1) := by decide +kernel
theorem dL_law_1292 : decode cL_law 1292 = .ok (.iadd, 1) := by decide +kernel
theorem dL_law_1293 : decode cL_law 1293 = .ok (.iaload, 1) := by decide +kernel
theorem dL_law_1294 : decode cL_law 1294 = .ok (.aload_n 0, 1) := by decide +kernel
theorem dL_law_1295 : decode cL_law 1295 = .ok (.iload_n 3, 1) := by decide +kernel
theorem dL_law_1296 : decode cL_law 1296 = .ok (.iconst 2, 1) := by decide +kernel
theorem dL_law_1297 : decode cL_law 1297 = .ok (.iadd, 1) := by decide +kernel
theorem dL_law_1298 : decode cL_law 1298 = .ok (.iaload, 1) := by decide +kernel
theorem dL_law_1299 : decode cL_law 1299 = .ok (.aload_n 0, 1) := by decide +kernel
theorem dL_law_1300 : decode cL_law 1300 = .ok (.iload_n 3, 1) := by decide +kernel
theorem dL_law_1301 : decode cL_law 1301 = .ok (.iconst 3, 1) := by decide +kernel
theorem dL_law_1302 : decode cL_law 1302 = .ok (.iadd, 1) := by decide +kernel
theorem dL_law_1303 : decode cL_law 1303 = .ok (.iaload, 1) := by decide +kernel
theorem dL_law_1304 : decode cL_law 1304 = .ok (.invokevirtual 163, 3) := by decide +kernel
theorem dL_law_1307 : decode cL_law 1307 = .ok (.aload_n 2, 1) := by decide +kernel
theorem dL_law_1308 : decode cL_law 1308 = .ok (.aload_n 0, 1) := by decide +kernel
theorem dL_law_1309 : decode cL_law 1309 = .ok (.iload_n 3, 1) := by decide +kernel
theorem dL_law_1310 : decode cL_law 1310 = .ok (.iconst 1, 1) := by decide +kernel
theorem dL_law_1311 : decode cL_law 1311 = .ok (.iadd, 1) := by decide +kernel
theorem dL_law_1312 : decode cL_law 1312 = .ok (.iaload, 1) := by decide +kernel
theorem dL_law_1313 : decode cL_law 1313 = .ok (.aload_n 0, 1) := by decide +kernel
theorem dL_law_1314 : decode cL_law 1314 = .ok (.iload_n 3, 1) := by decide +kernel
theorem dL_law_1315 : decode cL_law 1315 = .ok (.iconst 2, 1) := by decide +kernel
theorem dL_law_1316 : decode cL_law 1316 = .ok (.iadd, 1) := by decide +kernel
theorem dL_law_1317 : decode cL_law 1317 = .ok (.iaload, 1) := by decide +kernel
theorem dL_law_1318 : decode cL_law 1318 = .ok (.aload_n 0, 1) := by decide +kernel
theorem dL_law_1319 : decode cL_law 1319 = .ok (.iload_n 3, 1) := by decide +kernel
theorem dL_law_1320 : decode cL_law 1320 = .ok (.iconst 3, 1) := by decide +kernel
theorem dL_law_1321 : decode cL_law 1321 = .ok (.iadd, 1) := by decide +kernel
theorem dL_law_1322 : decode cL_law 1322 = .ok (.iaload, 1) := by decide +kernel
theorem dL_law_1323 : decode cL_law 1323 = .ok (.invokevirtual 166, 3) := by decide +kernel
theorem dL_law_1326 : decode cL_law 1326 = .ok (.if_icmp .eq 169, 3) := by decide +kernel
theorem dL_law_1329 : decode cL_law 1329 = .ok (.iconst 0, 1) := by decide +kernel
theorem dL_law_1330 : decode cL_law 1330 = .ok (.ireturn, 1) := by decide +kernel
theorem dL_law_1331 : decode cL_law 1331 = .ok (.aload_n 1, 1) := by decide +kernel
theorem dL_law_1332 : decode cL_law 1332 = .ok (.aload_n 0, 1) := by decide +kernel
theorem dL_law_1333 : decode cL_law 1333 = .ok (.iload_n 3, 1) := by decide +kernel
theorem dL_law_1334 : decode cL_law 1334 = .ok (.iconst 1, 1) := by decide +kernel
theorem dL_law_1335 : decode cL_law 1335 = .ok (.iadd, 1) := by decide +kernel
theorem dL_law_1336 : decode cL_law 1336 = .ok (.iaload, 1) := by decide +kernel
theorem dL_law_1337 : decode cL_law 1337 = .ok (.invokevirtual 167, 3) := by decide +kernel
theorem dL_law_1340 : decode cL_law 1340 = .ok (.aload_n 2, 1) := by decide +kernel
theorem dL_law_1341 : decode cL_law 1341 = .ok (.aload_n 0, 1) := by decide +kernel
theorem dL_law_1342 : decode cL_law 1342 = .ok (.iload_n 3, 1) := by decide +kernel
theorem dL_law_1343 : decode cL_law 1343 = .ok (.iconst 1, 1) := by decide +kernel
theorem dL_law_1344 : decode cL_law 1344 = .ok (.iadd, 1) := by decide +kernel
theorem dL_law_1345 : decode cL_law 1345 = .ok (.iaload, 1) := by decide +kernel
theorem dL_law_1346 : decode cL_law 1346 = .ok (.invokevirtual 170, 3) := by decide +kernel
theorem dL_law_1349 : decode cL_law 1349 = .ok (.if_icmp .eq 146, 3) := by decide +kernel
theorem dL_law_1352 : decode cL_law 1352 = .ok (.iconst 0, 1) := by decide +kernel
theorem dL_law_1353 : decode cL_law 1353 = .ok (.ireturn, 1) := by decide +kernel
theorem dL_law_1354 : decode cL_law 1354 = .ok (.aload_n 1, 1) := by decide +kernel
theorem dL_law_1355 : decode cL_law 1355 = .ok (.aload_n 0, 1) := by decide +kernel
theorem dL_law_1356 : decode cL_law 1356 = .ok (.iload_n 3, 1) := by decide +kernel
theorem dL_law_1357 : decode cL_law 1357 = .ok (.iconst 1, 1) := by decide +kernel
theorem dL_law_1358 : decode cL_law 1358 = .ok (.iadd, 1) := by decide +kernel
theorem dL_law_1359 : decode cL_law 1359 = .ok (.iaload, 1) := by decide +kernel
theorem dL_law_1360 : decode cL_law 1360 = .ok (.invokevirtual 171, 3) := by decide +kernel
theorem dL_law_1363 : decode cL_law 1363 = .ok (.aload_n 2, 1) := by decide +kernel
theorem dL_law_1364 : decode cL_law 1364 = .ok (.aload_n 0, 1) := by decide +kernel
theorem dL_law_1365 : decode cL_law 1365 = .ok (.iload_n 3, 1) := by decide +kernel
theorem dL_law_1366 : decode cL_law 1366 = .ok (.iconst 1, 1) := by decide +kernel
theorem dL_law_1367 : decode cL_law 1367 = .ok (.iadd, 1) := by decide +kernel
theorem dL_law_1368 : decode cL_law 1368 = .ok (.iaload, 1) := by decide +kernel
theorem dL_law_1369 : decode cL_law 1369 = .ok (.invokevirtual 174, 3) := by decide +kernel
theorem dL_law_1372 : decode cL_law 1372 = .ok (.if_icmp .eq 123, 3) := by decide +kernel
theorem dL_law_1375 : decode cL_law 1375 = .ok (.iconst 0, 1) := by decide +kernel
theorem dL_law_1376 : decode cL_law 1376 = .ok (.ireturn, 1) := by decide +kernel
theorem dL_law_1377 : decode cL_law 1377 = .ok (.aload_n 1, 1) := by decide +kernel
theorem dL_law_1378 : decode cL_law 1378 = .ok (.invokevirtual 175, 3) := by decide +kernel
theorem dL_law_1381 : decode cL_law 1381 = .ok (.aload_n 2, 1) := by decide +kernel
theorem dL_law_1382 : decode cL_law 1382 = .ok (.invokevirtual 178, 3) := by decide +kernel
theorem dL_law_1385 : decode cL_law 1385 = .ok (.if_icmp .eq 110, 3) := by decide +kernel
theorem dL_law_1388 : decode cL_law 1388 = .ok (.iconst 0, 1) := by decide +kernel
theorem dL_law_1389 : decode cL_law 1389 = .ok (.ireturn, 1) := by decide +kernel
theorem dL_law_1390 : decode cL_law 1390 = .ok (.aload_n 1, 1) := by decide +kernel
theorem dL_law_1391 : decode cL_law 1391 = .ok (.invokevirtual 179, 3) := by decide +kernel
theorem dL_law_1394 : decode cL_law 1394 = .ok (.aload_n 2, 1) := by decide +kernel
theorem dL_law_1395 : decode cL_law 1395 = .ok (.invokevirtual 182, 3) := by decide +kernel
theorem dL_law_1398 : decode cL_law 1398 = .ok (.if_icmp .eq 97, 3) := by decide +kernel
theorem dL_law_1401 : decode cL_law 1401 = .ok (.iconst 0, 1) := by decide +kernel
theorem dL_law_1402 : decode cL_law 1402 = .ok (.ireturn, 1) := by decide +kernel
theorem dL_law_1403 : decode cL_law 1403 = .ok (.aload_n 1, 1) := by decide +kernel
theorem dL_law_1404 : decode cL_law 1404 = .ok (.aload_n 0, 1) := by decide +kernel
theorem dL_law_1405 : decode cL_law 1405 = .ok (.iload_n 3, 1) := by decide +kernel
theorem dL_law_1406 : decode cL_law 1406 = .ok (.iconst 1, 1) := by decide +kernel
theorem dL_law_1407 : decode cL_law 1407 = .ok (.iadd, 1) := by decide +kernel
theorem dL_law_1408 : decode cL_law 1408 = .ok (.iaload, 1) := by decide +kernel
theorem dL_law_1409 : decode cL_law 1409 = .ok (.aload_n 0, 1) := by decide +kernel
theorem dL_law_1410 : decode cL_law 1410 = .ok (.iload_n 3, 1) := by decide +kernel
theorem dL_law_1411 : decode cL_law 1411 = .ok (.iconst 2, 1) := by decide +kernel
theorem dL_law_1412 : decode cL_law 1412 = .ok (.iadd, 1) := by decide +kernel
theorem dL_law_1413 : decode cL_law 1413 = .ok (.iaload, 1) := by decide +kernel
theorem dL_law_1414 : decode cL_law 1414 = .ok (.aload_n 0, 1) := by decide +kernel
theorem dL_law_1415 : decode cL_law 1415 = .ok (.iload_n 3, 1) := by decide +kernel
theorem dL_law_1416 : decode cL_law 1416 = .ok (.iconst 3, 1) := by decide +kernel
theorem dL_law_1417 : decode cL_law 1417 = .ok (.iadd, 1) := by decide +kernel
theorem dL_law_1418 : decode cL_law 1418 = .ok (.iaload, 1) := by decide +kernel
theorem dL_law_1419 : decode cL_law 1419 = .ok (.invokevirtual 183, 3) := by decide +kernel
theorem dL_law_1422 : decode cL_law 1422 = .ok (.aload_n 2, 1) := by decide +kernel
theorem dL_law_1423 : decode cL_law 1423 = .ok (.aload_n 0, 1) := by decide +kernel
theorem dL_law_1424 : decode cL_law 1424 = .ok (.iload_n 3, 1) := by decide +kernel
theorem dL_law_1425 : decode cL_law 1425 = .ok (.iconst 1, 1) := by decide +kernel
theorem dL_law_1426 : decode cL_law 1426 = .ok (.iadd, 1) := by decide +kernel
theorem dL_law_1427 : decode cL_law 1427 = .ok (.iaload, 1) := by decide +kernel
theorem dL_law_1428 : decode cL_law 1428 = .ok (.aload_n 0, 1) := by decide +kernel
theorem dL_law_1429 : decode cL_law 1429 = .ok (.iload_n 3, 1) := by decide +kernel
theorem dL_law_1430 : decode cL_law 1430 = .ok (.iconst 2, 1) := by decide +kernel
theorem dL_law_1431 : decode cL_law 1431 = .ok (.iadd, 1) := by decide +kernel
theorem dL_law_1432 : decode cL_law 1432 = .ok (.iaload, 1) := by decide +kernel
theorem dL_law_1433 : decode cL_law 1433 = .ok (.aload_n 0, 1) := by decide +kernel
theorem dL_law_1434 : decode cL_law 1434 = .ok (.iload_n 3, 1) := by decide +kernel
theorem dL_law_1435 : decode cL_law 1435 = .ok (.iconst 3, 1) := by decide +kernel
theorem dL_law_1436 : decode cL_law 1436 = .ok (.iadd, 1) := by decide +kernel
theorem dL_law_1437 : decode cL_law 1437 = .ok (.iaload, 1) := by decide +kernel
theorem dL_law_1438 : decode cL_law 1438 = .ok (.invokevirtual 186, 3) := by decide +kernel
theorem dL_law_1441 : decode cL_law 1441 = .ok (.if_icmp .eq 54, 3) := by decide +kernel
theorem dL_law_1444 : decode cL_law 1444 = .ok (.iconst 0, 1) := by decide +kernel
theorem dL_law_1445 : decode cL_law 1445 = .ok (.ireturn, 1) := by decide +kernel
theorem dL_law_1446 : decode cL_law 1446 = .ok (.aload_n 1, 1) := by decide +kernel
theorem dL_law_1447 : decode cL_law 1447 = .ok (.invokevirtual 187, 3) := by decide +kernel
theorem dL_law_1450 : decode cL_law 1450 = .ok (.aload_n 2, 1) := by decide +kernel
theorem dL_law_1451 : decode cL_law 1451 = .ok (.invokevirtual 190, 3) := by decide +kernel
theorem dL_law_1454 : decode cL_law 1454 = .ok (.if_icmp .eq 41, 3) := by decide +kernel
theorem dL_law_1457 : decode cL_law 1457 = .ok (.iconst 0, 1) := by decide +kernel
theorem dL_law_1458 : decode cL_law 1458 = .ok (.ireturn, 1) := by decide +kernel
theorem dL_law_1459 : decode cL_law 1459 = .ok (.aload_n 1, 1) := by decide +kernel
theorem dL_law_1460 : decode cL_law 1460 = .ok (.invokevirtual 191, 3) := by decide +kernel
theorem dL_law_1463 : decode cL_law 1463 = .ok (.aload_n 2, 1) := by decide +kernel
theorem dL_law_1464 : decode cL_law 1464 = .ok (.invokevirtual 194, 3) := by decide +kernel
theorem dL_law_1467 : decode cL_law 1467 = .ok (.if_icmp .eq 28, 3) := by decide +kernel
theorem dL_law_1470 : decode cL_law 1470 = .ok (.iconst 0, 1) := by decide +kernel
theorem dL_law_1471 : decode cL_law 1471 = .ok (.ireturn, 1) := by decide +kernel
theorem dL_law_1472 : decode cL_law 1472 = .ok (.aload_n 1, 1) := by decide +kernel
theorem dL_law_1473 : decode cL_law 1473 = .ok (.aload_n 0, 1) := by decide +kernel
theorem dL_law_1474 : decode cL_law 1474 = .ok (.iload_n 3, 1) := by decide +kernel
theorem dL_law_1475 : decode cL_law 1475 = .ok (.iconst 1, 1) := by decide +kernel
theorem dL_law_1476 : decode cL_law 1476 = .ok (.iadd, 1) := by decide +kernel
theorem dL_law_1477 : decode cL_law 1477 = .ok (.iaload, 1) := by decide +kernel
theorem dL_law_1478 : decode cL_law 1478 = .ok (.invokevirtual 195, 3) := by decide +kernel
theorem dL_law_1481 : decode cL_law 1481 = .ok (.aload_n 2, 1) := by decide +kernel
theorem dL_law_1482 : decode cL_law 1482 = .ok (.aload_n 0, 1) := by decide +kernel
theorem dL_law_1483 : decode cL_law 1483 = .ok (.iload_n 3, 1) := by decide +kernel
theorem dL_law_1484 : decode cL_law 1484 = .ok (.iconst 1, 1) := by decide +kernel
theorem dL_law_1485 : decode cL_law 1485 = .ok (.iadd, 1) := by decide +kernel
theorem dL_law_1486 : decode cL_law 1486 = .ok (.iaload, 1) := by decide +kernel
theorem dL_law_1487 : decode cL_law 1487 = .ok (.invokevirtual 198, 3) := by decide +kernel
theorem dL_law_1490 : decode cL_law 1490 = .ok (.if_icmp .eq 5, 3) := by decide +kernel
theorem dL_law_1493 : decode cL_law 1493 = .ok (.iconst 0, 1) := by decide +kernel
theorem dL_law_1494 : decode cL_law 1494 = .ok (.ireturn, 1) := by decide +kernel
theorem dL_law_1495 : decode cL_law 1495 = .ok (.iinc 3 6, 3) := by decide +kernel
theorem dL_law_1498 : decode cL_law 1498 = .ok (.goto (-1480), 3) := by decide +kernel
theorem dL_law_1501 : decode cL_law 1501 = .ok (.iconst 1, 1) := by decide +kernel
theorem dL_law_1502 : decode cL_law 1502 = .ok (.ireturn, 1) := by decide +kernel
end
section
/-! the memory of the two systems: object, field, place; 17 objects: 0 the class itself, 1 .. 11 its Worlds (now, mind, picture, the eight that are kept), 12 History, 13 Letters, 14 WayFinder, 15 Round, 16 the reference -/
abbrev jm : Type := Nat → Nat → Nat → Int32
abbrev jX : Type := va_G × ClassId × ClassId × (Nat → Nat)
def jO (X : jX) (o : Nat) : Nat := X.2.2.2 (64 * o + 63)
def jA (X : jX) (o k : Nat) : Nat := X.2.2.2 (64 * o + k)
def jcl : List vw_C := [(RX0, TX0, 3), (RX1, TX1, 2), (RX2, TX2, 2), (RX3, TX3, 3), (RX4, TX4, 11), (RX5, TX5, 11), (RX6, TX6, 39)]
def jC (c : Nat) : vw_C := match c with
  | 0 => (RX0, TX0, 3)
  | 1 => (RX1, TX1, 2)
  | 2 => (RX2, TX2, 2)
  | 3 => (RX3, TX3, 3)
  | 4 => (RX4, TX4, 11)
  | 5 => (RX5, TX5, 11)
  | _ => (RX6, TX6, 39)
theorem jcl_at : ∀ c, c < 7 → jcl[c]? = some (jC c)
  | 0, _ => rfl
  | 1, _ => rfl
  | 2, _ => rfl
  | 3, _ => rfl
  | 4, _ => rfl
  | 5, _ => rfl
  | 6, _ => rfl
  | n + 7, h => absurd h (by omega)
def jcls (o : Nat) : Nat := if o = 0 then 5 else if o ≤ 11 then 4 else if o = 12 then 0 else if o = 13 then 1 else if o = 14 then 3 else if o = 15 then 2 else 6
def job (o c : Nat) : Prop := o < 17 ∧ jcls o = c
/-- lengths of the int arrays (0: no int array) -/
def jal (c k : Nat) : Nat := match c with
  | 1 => if k = 0 then 96 else 0
  | 2 => if k = 0 then 896 else 0
  | 3 => if k = 0 then 49 else 0
  | 4 => [0, 8, 8, 8, 0, 0, 6, 6, 6, 48, 0].getD k 0
  | 5 => [0, 0, 0, 0, 0, 0, 0, 0, 12, 0, 7].getD k 0
  | 6 => [0, 8, 8, 8, 8, 0, 6, 6, 6, 42, 0, 0, 7, 96, 0, 0, 0, 0, 49, 49, 147, 91, 91, 0, 0, 0, 0, 728, 91, 0, 6272, 6272, 0, 1024, 49, 12, 0, 8, 0].getD k 0
  | _ => 0
/-- kinds of the fields: 0 a number, 1 a row of its own, 2 an object, 3 the reference's keptIn -/
def jft (c k : Nat) : Nat := match c with
  | 0 => if k = 0 then 1 else 0
  | 5 => [2, 2, 2, 0, 2, 2, 2, 2, 1, 0, 1].getD k 0
  | 6 => if k = 26 then 3 else if jal 6 k = 0 then 0 else 1
  | c => if jal c k = 0 then 0 else 1
/-- whom the class's own object fields name -/
def jpt (k : Nat) : Nat := [1, 2, 3, 0, 12, 13, 14, 15].getD k 0
def jfw (X : jX) (c o k : Nat) (z : Int32) : Value := match jft c k with
  | 0 => .int z
  | 1 => .ref (jA X o k)
  | 2 => .ref (jO X (jpt k))
  | _ => if z = 0 then .null else .ref (jA X o z.toNatClampNeg)
def ju (M : jm) (o k i : Nat) (x : Int32) : jm := fun o' k' i' => if o' = o ∧ k' = k ∧ i' = i then x else M o' k' i'
/-- a row taken over from another object's -/
def jcp (M : jm) (o k o2 : Nat) : jm := fun o' k' i' => if o' = o ∧ k' = k then M o2 k i' else M o' k' i'
def jrp (X : jX) (M : jm) (H : Heap) : Prop :=
  (∀ o, o < 17 → t_OB (jO X o) (X.1.1 (jcls o)) (jC (jcls o)).2.2 (X.1.2 (jcls o)) H (fun k => jfw X (jcls o) o k (M o k 0))) ∧
  (∀ o k, o < 17 → jal (jcls o) k ≠ 0 → H[jA X o k]? = some (vp_cell X.2.1 (jal (jcls o) k, .inl (M o k)))) ∧
  H[jA X 12 0]? = some (vp_cell X.2.2.1 (8, .inr (.inr (.inr (.inr (fun i => some (jO X (4 + i))))))))
/-- codes of the cells -/
def jvl (q : Nat) : Prop := ∃ o k, o < 17 ∧ k < 64 ∧ q = 64 * o + k ∧ (k = 63 ∨ jal (jcls o) k ≠ 0 ∨ (o = 12 ∧ k = 0))
def jst (X : jX) (A : Nat → Prop) : Prop := ∀ q, jvl q → A (X.2.2.2 q) ∧ ∀ r, jvl r → X.2.2.2 q = X.2.2.2 r → q = r
/-- the words that a call hands on -/
def jtb : List Cond := lw_tbl.filter goodWord
/-- the links to nest mates -/
def jnw : List (String × Nat × MethodName) := [(RX5, 35, yX1_init), (RX5, 42, yX3_init), (RX5, 49, yX2_init), (RX4, 58, yX5_isCell), (RX4, 90, yX5_reach), (RX4, 99, yX5_stepTowards), (RX4, 93, yX5_steps), (RX4, 84, yX5_minutes), (RX3, 41, yX5_steps), (RX2, 42, yX5_steps)]
def jN (U : State) : Prop := ∀ q ∈ jnw, va_Nw (.methodLinkNest q.1 q.2.1 q.2.2 RX5) U
theorem jN.warm {s U : State} (hW : s.WarmedH U.vm) (h : jN s) : jN U := fun q hq => va_Nw.warmM hW (h q hq)
theorem jN.same {s U : State} (hv : s.vm = U.vm) (h : jN s) : jN U := fun q hq => va_Nw.same rfl hv (h q hq)
def jK (X : jX) (U : State) : Prop := va_K X.1 jcl [(X.2.1, .int), (X.2.2.1, .object RX4)] U ∧ jN U
theorem jK.warm {X : jX} {s U : State} (hW : s.WarmedH U.vm) (h : jK X s) : jK X U := ⟨va_K.moved hW.alike h.1, h.2.warm hW⟩
theorem jtb_mem {w : Cond} (i : Nat) (h : lw_tbl[i]? = some w) (h2 : goodWord w = true) : w ∈ jtb := List.mem_filter.mpr ⟨List.mem_of_getElem? h, h2⟩
theorem jtb_good : ∀ w ∈ jtb, (w.onTables && w.keeps) = true ∨ ∃ ty, w = .arrayClass ty := fun w h => good_of_word (List.mem_filter.mp h).2
def jB (X : jX) (M : jm) (U : State) : Prop := jrp X M U.heap ∧ jK X U
def jws (y : MethodName) (b : ByteArray) (n : Nat) (ret : Option FieldType) : List Cond := Cond.code y b n ret :: jtb
def jrm (f n : Nat) : Room := { frames := f, cells := 0, slots := 0, locals := n }
def jfl (own : String) (index c k : Nat) : Cond := .fieldLink own index ((jC c).2.1 k).1 ((jC c).2.1 k).2.1 ((jC c).2.1 k).2.2.1
/-- what a pure method ends with -/
def jQ (v : Value) : Array Value → State → Outcome → State → Prop := fun _ st o t => o = .returned (some v) ∧ t.heap = st.heap
/-- what a method ends with that leaves the memory N -/
def jQm (X : jX) (A : Nat → Prop) (v : Option Value) (N : jm) : Array Value → State → Outcome → State → Prop := fun _ st o t => (o = .returned v ∧ jB X N t) ∧ va_F A st t
-- guards of the functions
def jgd {α : Type} (i : Int32) (n : Nat) (a : Option α) : Option α := if i < 0 ∨ n ≤ i.toNatClampNeg then none else a
def jgb {α : Type} (v : Int32) (a : Option α) : Option α := if v = 0 ∨ v = 1 then a else none
def jgz {α : Type} (v : Int32) (a : Option α) : Option α := if v = 0 then none else a
def jgl {α : Type} (v : Int64) (a : Option α) : Option α := if v = 0 then none else a
def jgk {α : Type} (z : Int32) (a : Option α) : Option α := if z = 21 ∨ z = 22 ∨ z = 28 then a else none
def jb {α β : Type} (a : Option β) (k : β → Option α) : Option α := a.bind k
def jb2 {α β : Type} (a : Option (β × jm)) (k : β → jm → Option α) : Option α := a.bind fun q => k q.1 q.2
theorem jh_t {c : Prop} {α : Type} {A B z : α} {hd : Decidable c} (h : @ite α c hd A B = z) (hc : c) : A = z := by rw [if_pos hc] at h; exact h
theorem jh_f {c : Prop} {α : Type} {A B z : α} {hd : Decidable c} (h : @ite α c hd A B = z) (hc : ¬ c) : B = z := by rw [if_neg hc] at h; exact h
theorem jh_gd {α : Type} {i : Int32} {n : Nat} {a : Option α} {r : α} (h : jgd i n a = some r) : vp_in i n ∧ a = some r := by
  unfold jgd at h
  by_cases c : i < 0 ∨ n ≤ i.toNatClampNeg
  · rw [if_pos c] at h; cases h
  · rw [if_neg c] at h; exact ⟨c, h⟩
theorem jh_gb {α : Type} {v : Int32} {a : Option α} {r : α} (h : jgb v a = some r) : (v = 0 ∨ v = 1) ∧ a = some r := by
  unfold jgb at h
  by_cases c : v = 0 ∨ v = 1
  · rw [if_pos c] at h; exact ⟨c, h⟩
  · rw [if_neg c] at h; cases h
theorem jh_gz {α : Type} {v : Int32} {a : Option α} {r : α} (h : jgz v a = some r) : ¬ v = 0 ∧ a = some r := by
  unfold jgz at h
  by_cases c : v = 0
  · rw [if_pos c] at h; cases h
  · rw [if_neg c] at h; exact ⟨c, h⟩
theorem jh_gl {α : Type} {v : Int64} {a : Option α} {r : α} (h : jgl v a = some r) : ¬ v = 0 ∧ a = some r := by
  unfold jgl at h
  by_cases c : v = 0
  · rw [if_pos c] at h; cases h
  · rw [if_neg c] at h; exact ⟨c, h⟩
theorem jh_gk {α : Type} {z : Int32} {a : Option α} {r : α} (h : jgk z a = some r) : (z = 21 ∨ z = 22 ∨ z = 28) ∧ a = some r := by
  unfold jgk at h
  by_cases c : z = 21 ∨ z = 22 ∨ z = 28
  · rw [if_pos c] at h; exact ⟨c, h⟩
  · rw [if_neg c] at h; cases h
theorem jh_b {α β : Type} {a : Option β} {k : β → Option α} {r : α} (h : jb a k = some r) : ∃ b, a = some b ∧ k b = some r := by
  cases a with
  | none => cases h
  | some b => exact ⟨b, rfl, h⟩
theorem jh_b2 {α β : Type} {a : Option (β × jm)} {k : β → jm → Option α} {r : α} (h : jb2 a k = some r) : ∃ b N, a = some (b, N) ∧ k b N = some r := by
  cases a with
  | none => cases h
  | some q => exact ⟨q.1, q.2, rfl, h⟩
theorem jn_b {v : Int32} (h : v = 0 ∨ v = 1) : narrow .boolean (.int v) = .int v := by
  rcases h with rfl | rfl <;> rfl
theorem jf_b {v : Int32} (h : v = 0 ∨ v = 1) : fits .boolean (.int v) = true := by
  rcases h with rfl | rfl <;> rfl
theorem jcls_lt (o : Nat) : jcls o < 7 := by
  unfold jcls
  repeat' split
  all_goals omega
theorem jgetD_out {q : List Nat} {k : Nat} (h : q.length ≤ k) : q.getD k 0 = 0 := by rw [List.getD_eq_getElem?_getD, List.getElem?_eq_none h]; rfl
theorem jal_k : ∀ c, c < 7 → ∀ k, jal c k ≠ 0 → k < 39 := by
  intro c hc k h
  rcases Nat.lt_or_ge k 39 with q | q
  · exact q
  · exfalso
    apply h
    rcases (show c = 0 ∨ c = 1 ∨ c = 2 ∨ c = 3 ∨ c = 4 ∨ c = 5 ∨ c = 6 by omega) with rfl | rfl | rfl | rfl | rfl | rfl | rfl
    · rfl
    · show (if k = 0 then 96 else 0) = 0; rw [if_neg (by omega)]
    · show (if k = 0 then 896 else 0) = 0; rw [if_neg (by omega)]
    · show (if k = 0 then 49 else 0) = 0; rw [if_neg (by omega)]
    · exact jgetD_out (by simp; omega)
    · exact jgetD_out (by simp; omega)
    · exact jgetD_out (by simp; omega)
theorem jft_arr0 : ∀ c, c < 7 → ∀ k, k < 39 → jal c k ≠ 0 → jft c k = 1 := by decide +kernel
theorem jft_arr {c k : Nat} (hc : c < 7) (h : jal c k ≠ 0) : jft c k = 1 := jft_arr0 c hc k (jal_k c hc k h) h
theorem jft_num0 : ∀ c, c < 7 → ∀ k, k < 39 → k < (jC c).2.2 → (jft c k = 0 ∨ jft c k = 3) → jal c k = 0 := by decide +kernel
theorem jC_le : ∀ c, (jC c).2.2 ≤ 39
  | 0 => by decide
  | 1 => by decide
  | 2 => by decide
  | 3 => by decide
  | 4 => by decide
  | 5 => by decide
  | _ + 6 => Nat.le_refl _
theorem jin0 : ∀ c, c < 7 → ∀ k, k < 39 → k < (jC c).2.2 → u_lay (jC c).1 (jC c).2.1 k ∈ lw_tbl ∧ goodWord (u_lay (jC c).1 (jC c).2.1 k) = true := by decide +kernel
theorem jin {c : Nat} (hc : c < 7) : ∀ w ∈ u_ws (jC c).1 (jC c).2.1 (jC c).2.2, w ∈ jtb := by
  intro w hw
  obtain ⟨k, hk, rfl⟩ := List.mem_map.mp hw
  have hk := List.mem_range.mp hk
  exact List.mem_filter.mpr (jin0 c hc k (Nat.lt_of_lt_of_le hk (jC_le c)) hk)
theorem jnm : ∀ c, c < 7 → ∀ a, a < (jC c).2.2 → ∀ b, b < (jC c).2.2 → a ≠ b → ((jC c).2.1 a).2.1 ≠ ((jC c).2.1 b).2.1
  | 0, _ => nmX0
  | 1, _ => nmX1
  | 2, _ => nmX2
  | 3, _ => nmX3
  | 4, _ => nmX4
  | 5, _ => nmX5
  | 6, _ => nmX6
  | n + 7, h => absurd h (by omega)
def jty (c k : Nat) : FieldType := match c with
  | 0 => tyX0 k
  | 1 => tyX1 k
  | 2 => tyX2 k
  | 3 => tyX3 k
  | 4 => tyX4 k
  | 5 => tyX5 k
  | _ => tyX6 k
theorem jty0 : ∀ c, c < 7 → ∀ k, k < 39 → k < (jC c).2.2 → parseFieldDescriptor ((jC c).2.1 k).2.2.1 = some (jty c k) := by decide +kernel
theorem jpd_lt {q r o k o' k' : Nat} (h : 64 * o + k = 64 * o' + k') (hk : k < 64) (hk' : k' < 64) : o = o' ∧ k = k' := by omega
theorem jvl_O {o : Nat} (ho : o < 17) : jvl (64 * o + 63) := ⟨o, 63, ho, by omega, rfl, Or.inl rfl⟩
theorem jvl_A {o k : Nat} (ho : o < 17) (h : jal (jcls o) k ≠ 0) : jvl (64 * o + k) := ⟨o, k, ho, by have := jal_k _ (jcls_lt o) k h; omega, rfl, Or.inr (Or.inl h)⟩
theorem jvl_R : jvl (64 * 12 + 0) := ⟨12, 0, by omega, by omega, rfl, Or.inr (Or.inr ⟨rfl, rfl⟩)⟩
theorem jrp_arr {X : jX} {M : jm} {H : Heap} (hP : jrp X M H) {o c k n : Nat} (hj : job o c) (hn : jal c k = n) (h0 : n ≠ 0) : H[jA X o k]? = some (vp_cell X.2.1 (n, .inl (M o k))) := by
  obtain ⟨ho, rfl⟩ := hj
  subst hn
  exact hP.2.1 o k ho h0
theorem jblind {As : List Value} {X : jX} {M : jm} : FrameBlind (va_Pc As (jB X M)) := fun a U g mk q => ⟨q.1, q.2.1, va_K.moved (u := U) (U := U.calling g mk a) (Vm.Alike.refl U.vm) q.2.2.1, q.2.2.2.same (U := U.calling g mk a) rfl⟩
theorem jblind0 {As : List Value} : FrameBlind (va_Pc As jN) := fun a U g mk q => ⟨q.1, q.2.same (U := U.calling g mk a) rfl⟩
/-- a cell of an object changed in one number -/
theorem jrp_put {X : jX} {A : Nat → Prop} {M : jm} {H H1 : Heap} (hs : jst X A) (hP : jrp X M H) {o c k : Nat} (hj : job o c) (hk : k < (jC c).2.2) {z : Int32} (hf : jft c k = 0 ∨ jft c k = 3)
    (h1 : t_OB (jO X o) (X.1.1 c) (jC c).2.2 (X.1.2 c) H1 (updV (fun j => jfw X c o j (M o j 0)) k (jfw X c o k z))) (h2 : ∀ q, q ≠ jO X o → H1[q]? = H[q]?) : jrp X (ju M o k 0 z) H1 := by
  obtain ⟨ho, rfl⟩ := hj
  have hal := jft_num0 (jcls o) (jcls_lt o) k (Nat.lt_of_lt_of_le hk (jC_le _)) hk hf
  refine ⟨fun o' ho' => ?_, fun o' k' ho' h => ?_, ?_⟩
  · by_cases e : o' = o
    · subst e
      refine h1.to fun j hjN => ?_
      show updV _ k _ j = jfw X (jcls o') o' j (ju M o' k 0 z o' j 0)
      by_cases ej : j = k
      · subst ej
        simp [updV, ju]
      · simp [updV, ju, ej]
    · have hne : jO X o' ≠ jO X o := fun q => e (by have := (hs _ (jvl_O ho')).2 _ (jvl_O ho) q; omega)
      refine ((hP.1 o' ho').kept (h2 _ hne)).to fun j _ => ?_
      simp [ju, e]
  · have hne : jA X o' k' ≠ jO X o := fun q => by
      have q1 := (hs _ (jvl_A ho' h)).2 _ (jvl_O ho) q
      have q2 := jal_k _ (jcls_lt o') k' h
      omega
    rw [h2 _ hne, hP.2.1 o' k' ho' h]
    have e : ju M o k 0 z o' k' = M o' k' := by
      funext i
      by_cases q : o' = o ∧ k' = k ∧ i = 0
      · obtain ⟨rfl, rfl, -⟩ := q
        exact absurd hal h
      · simp [ju, q]
    rw [e]
  · have hne : jA X 12 0 ≠ jO X o := fun q => by
      have q1 := (hs _ jvl_R).2 _ (jvl_O ho) q
      omega
    rw [h2 _ hne]
    exact hP.2.2
/-- a row of an object changed -/
theorem jrp_row {X : jX} {A : Nat → Prop} {M N : jm} {H H1 : Heap} (hs : jst X A) (hP : jrp X M H) {o c k n : Nat} (hj : job o c) (hn : jal c k = n) (h0 : n ≠ 0)
    (h1 : H1[jA X o k]? = some (vp_cell X.2.1 (n, .inl (N o k)))) (h2 : ∀ q, q ≠ jA X o k → H1[q]? = H[q]?) (hN : ∀ o' k', ¬ (o' = o ∧ k' = k) → N o' k' = M o' k') : jrp X N H1 := by
  obtain ⟨ho, rfl⟩ := hj
  subst hn
  have hk := jal_k _ (jcls_lt o) k h0
  refine ⟨fun o' ho' => ?_, fun o' k' ho' h => ?_, ?_⟩
  · have hne : jO X o' ≠ jA X o k := fun q => by
      have q1 := (hs _ (jvl_O ho')).2 _ (jvl_A ho h0) q
      omega
    refine ((hP.1 o' ho').kept (h2 _ hne)).to fun j _ => ?_
    by_cases q : o' = o ∧ j = k
    · obtain ⟨rfl, rfl⟩ := q
      simp only [jfw, jft_arr (jcls_lt o') h0]
    · show jfw X _ o' j (M o' j 0) = jfw X _ o' j (N o' j 0)
      rw [hN o' j q]
  · by_cases q : o' = o ∧ k' = k
    · obtain ⟨rfl, rfl⟩ := q
      exact h1
    · have hne : jA X o' k' ≠ jA X o k := fun z => q (by
        have q1 := (hs _ (jvl_A ho' h)).2 _ (jvl_A ho h0) z
        have q2 := jal_k _ (jcls_lt o') k' h
        omega)
      rw [h2 _ hne, hN o' k' q]
      exact hP.2.1 o' k' ho' h
  · have hne : jA X 12 0 ≠ jA X o k := fun z => by
      have q1 := (hs _ jvl_R).2 _ (jvl_A ho h0) z
      have : o = 12 ∧ k = 0 := by omega
      obtain ⟨rfl, rfl⟩ := this
      exact absurd h0 (by decide)
    rw [h2 _ hne]
    exact hP.2.2
theorem jb_w {i : Int32} (h : vp_in i 8) : job (4 + i.toNatClampNeg) 4 := by
  have hlt : i.toNatClampNeg < 8 := Nat.not_le.mp fun q => h (Or.inr q)
  refine ⟨by omega, ?_⟩
  unfold jcls
  rw [if_neg (by omega), if_pos (by omega)]
theorem jb_k {z : Int32} (h : z = 21 ∨ z = 22 ∨ z = 28) : jal 6 z.toNatClampNeg = 91 := by
  rcases h with rfl | rfl | rfl <;> rfl
theorem jb_kw (X : jX) {z : Int32} (h : z = 21 ∨ z = 22 ∨ z = 28) : jfw X 6 16 26 z = .ref (jA X 16 z.toNatClampNeg) := by
  rcases h with rfl | rfl | rfl <;> rfl
theorem jlt_c {o c : Nat} (hj : job o c) : c < 7 := by
  obtain ⟨-, rfl⟩ := hj
  exact jcls_lt o
section JR
variable {p : Program} {l : Launch} {e : Env} {R : Room} {s : State} {m : MethodId} {args : Array Value} {below : List Frame} {meth : Method} {c : Code} {H : Heap} {locs : List Loc} {cells slots : Nat} {Q : State → Prop}
variable {cc : ByteArray} {pc : Nat} {ls : Array Slot} {rest : List Value} {X : jX} {M : jm} {A : Nat → Prop}
theorem jr_get (hx : p.tables.exec = Jvm.exec) (hb : c.code = cc) {own : String} {index ci o k : Nat} {v : Value} (hts : ∀ w ∈ jtb, w.before args s = true) (hown : s.vm.findClass own = some m.cls) (hK : jK X s) (hP : jrp X M H) (hj : job o ci) (hk : k < (jC ci).2.2)
    (hl : jfl own index ci k ∈ jtb) (hv : jfw X ci o k (M o k 0) = v) (hdg : decode cc pc = .ok (.getfield index, 3))
    (kk : W p l e R s m args below meth c H locs cells slots Q (F0 m (pc + 3) ls (v :: rest))) : W p l e R s m args below meth c H locs cells slots Q (F0 m pc ls (.ref (jO X o) :: rest)) := by
  obtain ⟨ho, rfl⟩ := hj
  obtain ⟨cell, q1, q2, q3, q4⟩ := hP.1 o ho
  obtain ⟨hS, hfc, kC, hkC, hkind⟩ := hK.1.1 (jcls o) _ (jcl_at _ (jcls_lt o))
  obtain ⟨cf, kf, fi, f, hi, hsl⟩ := hS k hk
  refine W.getf hx hb hown (hts _ hl) hi (u_facts hfc hkC (u_lays hts (jin (jcls_lt o)) hk) hi).1 q1 (by rw [q3]; exact fun h => by cases h) (v := v) ?_ rfl rfl hdg kk
  rw [hsl, q4 k hk, ← hv]
theorem jr_put (hx : p.tables.exec = Jvm.exec) (hb : c.code = cc) {own : String} {index ci o k : Nat} {v : Value} {z : Int32} (hts : ∀ w ∈ jtb, w.before args s = true) (hown : s.vm.findClass own = some m.cls) (hK : jK X s) (hP : jrp X M H) (hs : jst X A) (hS0 : va_S A s.heap H locs) (hj : job o ci) (hk : k < (jC ci).2.2)
    (hl : jfl own index ci k ∈ jtb) (hfin : ((jC ci).2.1 k).2.2.2 = false) (hft : jft ci k = 0 ∨ jft ci k = 3) (hv : jfw X ci o k z = v) (hn : narrow (jty ci k) v = v) (hfit : fits (jty ci k) v = true) (hdg : decode cc pc = .ok (.putfield index, 3))
    (kk : ∀ (H1 : Heap) (locs1 : List Loc), jrp X (ju M o k 0 z) H1 → va_S A s.heap H1 locs1 → W p l e R s m args below meth c H1 locs1 cells slots Q (F0 m (pc + 3) ls rest)) : W p l e R s m args below meth c H locs cells slots Q (F0 m pc ls (v :: .ref (jO X o) :: rest)) := by
  have hj0 := hj
  obtain ⟨ho, rfl⟩ := hj
  have hc := jcls_lt o
  have hle := jC_le (jcls o)
  have hap := va_apart (own := own) hts (jin hc) (jty (jcls o)) (fun k hk => jty0 _ hc k (Nat.lt_of_lt_of_le hk hle) hk) (jnm _ hc) hK.1 (jcl_at _ hc)
  obtain ⟨cell, q1, q2, q3, q4⟩ := hP.1 o ho
  obtain ⟨hS, hfc, kC, hkC, hkind⟩ := hK.1.1 (jcls o) _ (jcl_at _ hc)
  obtain ⟨cf, kf, fi, f, hi, hsl⟩ := hS k hk
  have hlay := hts _ (jin hc _ (u_in_lay hk))
  unfold u_lay at hlay
  rw [if_neg (by rw [hfin]; decide)] at hlay
  have hst := (u_facts hfc hkC (u_lays hts (jin hc) hk) hi).1
  have h6 := u_store hfc hkC hkind hlay hi (jty0 _ hc k (Nat.lt_of_lt_of_le hk hle) hk) hn hfit
  refine W.putK hx hb (f := f) ⟨hown, hts _ hl, ⟨_, _, _, hi⟩, hst⟩ (by rw [q2]; exact h6) q1 q3 (by rw [hsl]; exact k2_hasslot (q4 k hk)) rfl rfl hdg fun H' e1 e2 e3 => ?_
  rw [hsl] at e1 ⊢
  refine kk H' _ (jrp_put hs hP hj0 hk hft ⟨_, e1, q2, q3, ?_⟩ e3) (hS0.put e2 e3 (hs _ (jvl_O ho)).1)
  rw [hv]
  exact t_set q4 hap hk v
theorem jr_ald (hx : p.tables.exec = Jvm.exec) (hb : c.code = cc) {o ci k n : Nat} {i : Int32} (hK : jK X s) (hP : jrp X M H) (hj : job o ci) (hn : jal ci k = n) (hin : vp_in i n) (hdg : decode cc pc = .ok (.iaload, 1))
    (kk : W p l e R s m args below meth c H locs cells slots Q (F0 m (pc + 1) ls (.int (M o k i.toNatClampNeg) :: rest))) : W p l e R s m args below meth c H locs cells slots Q (F0 m pc ls (.int i :: .ref (jA X o k) :: rest)) := by
  have hlt : i.toNatClampNeg < n := Nat.not_le.mp fun q => hin (Or.inr q)
  exact W.iald (v := .int (M o k i.toNatClampNeg)) hx hb (jrp_arr hP hj hn (by omega)) ((hK.1.2 0 _ rfl).1 n (fun j => .int (M o k j))) (fun q => by cases q) (by show ¬ (i < 0 ∨ (arrV _ _ _).slots.size ≤ _); rw [arrV_size]; exact hin) (by show (arrV _ _ _).slots[_]? = _; rw [arrV_read _ _ hlt]) rfl rfl hdg kk
theorem jr_ast (hx : p.tables.exec = Jvm.exec) (hb : c.code = cc) {o ci k n : Nat} {i x : Int32} (hK : jK X s) (hP : jrp X M H) (hs : jst X A) (hS : va_S A s.heap H locs) (hj : job o ci) (hn : jal ci k = n) (hin : vp_in i n) (hdg : decode cc pc = .ok (.iastore, 1))
    (kk : ∀ (H1 : Heap) (locs1 : List Loc), jrp X (ju M o k i.toNatClampNeg x) H1 → va_S A s.heap H1 locs1 → W p l e R s m args below meth c H1 locs1 cells slots Q (F0 m (pc + 1) ls rest)) : W p l e R s m args below meth c H locs cells slots Q (F0 m pc ls (.int x :: .int i :: .ref (jA X o k) :: rest)) := by
  have hlt : i.toNatClampNeg < n := Nat.not_le.mp fun q => hin (Or.inr q)
  have h0 : n ≠ 0 := by omega
  have hcell := jrp_arr hP hj hn h0
  refine W.iast hx hb hcell ((hK.1.2 0 _ rfl).1 n (fun j => .int (M o k j))) (fun q => by cases q) (by show ¬ (i < 0 ∨ (arrV _ _ _).slots.size ≤ _); rw [arrV_size]; exact hin) rfl rfl hdg fun H1 e z oq => ?_
  refine kk H1 _ (jrp_row hs hP hj hn h0 ?_ oq (fun o' k' h => ?_)) (hS.put z oq ?_)
  · rw [e, vp_cell_i, vp_cell_i, arrV_store]
    congr 2
    funext q
    by_cases hq : q = i.toNatClampNeg
    · subst hq
      simp [updV, ju]
    · simp [updV, ju, hq]
  · funext i'
    have : ¬ (o' = o ∧ k' = k ∧ i' = i.toNatClampNeg) := fun q => h ⟨q.1, q.2.1⟩
    simp only [ju, if_neg this]
  · obtain ⟨ho, rfl⟩ := hj
    exact (hs _ (jvl_A ho (by rw [hn]; exact h0))).1
theorem jr_kld (hx : p.tables.exec = Jvm.exec) (hb : c.code = cc) {i : Int32} (hK : jK X s) (hP : jrp X M H) (hin : vp_in i 8) (hdg : decode cc pc = .ok (.aaload, 1))
    (kk : W p l e R s m args below meth c H locs cells slots Q (F0 m (pc + 1) ls (.ref (jO X (4 + i.toNatClampNeg)) :: rest))) : W p l e R s m args below meth c H locs cells slots Q (F0 m pc ls (.int i :: .ref (jA X 12 0) :: rest)) := by
  have hlt : i.toNatClampNeg < 8 := Nat.not_le.mp fun q => hin (Or.inr q)
  exact W.aald (v := va_rf (some (jO X (4 + i.toNatClampNeg)))) (ty := .object RX4) hx hb hP.2.2 ((hK.1.2 1 _ rfl).1 8 (fun j => va_rf (some (jO X (4 + j))))) rfl (fun q => by cases q) (by show ¬ (i < 0 ∨ (arrV _ _ _).slots.size ≤ _); rw [arrV_size]; exact hin) (by show (arrV _ _ _).slots[_]? = _; rw [arrV_read _ _ hlt]) rfl rfl hdg kk
theorem arrV_ext {cI : ClassId} {N : Nat} {f g : Nat → Value} (h : ∀ j, j < N → f j = g j) : arrV cI N f = arrV cI N g := by
  unfold arrV
  congr 2
  funext j
  exact h j.val j.isLt
theorem jr_copy (hx : p.tables.exec = Jvm.exec) (hb : c.code = cc) (hml : c.maxLocals = ls.size) {own : String} {index o o2 ci k n : Nat} {nn : Int32} (hts : ∀ w ∈ jtb, w.before args s = true) (hown : s.vm.findClass own = some m.cls)
    (hlink : Cond.methodLink own index arraycopyName ∈ jtb) (hnat : Cond.native arraycopyName ∈ jtb) (hstat : Cond.static arraycopyName ∈ jtb) (hini : Cond.initialized "java/lang/System" ∈ jtb)
    (hK : jK X s) (hP : jrp X M H) (hs : jst X A) (hS : va_S A s.heap H locs) (hj : job o ci) (hj2 : job o2 ci) (hn : jal ci k = n) (h0 : n ≠ 0) (h3 : ¬ nn < 0) (hnn : nn.toNatClampNeg = n)
    (hframes : 1 ≤ R.frames) (hlocals : (rest.map fun v => v.category).sum + (nativeFrameWords "java/lang/System" "arraycopy" 5 + 11) ≤ R.locals) (hdg : decode cc pc = .ok (.invokestatic index, 3))
    (kk : ∀ (H1 : Heap) (locs1 : List Loc), jrp X (jcp M o k o2) H1 → va_S A s.heap H1 locs1 → W p l e R s m args below meth c H1 locs1 cells slots Q (F0 m (pc + 3) ls rest)) : W p l e R s m args below meth c H locs cells slots Q (F0 m pc ls (.int nn :: .int 0 :: .ref (jA X o k) :: .int 0 :: .ref (jA X o2 k) :: rest)) := by
  intro T hT X1
  have hc0 := jrp_arr hP hj2 hn h0
  have hc1 := jrp_arr hP hj hn h0
  have hAd : A (jA X o k) := by
    obtain ⟨ho, rfl⟩ := hj
    exact (hs _ (jvl_A ho (by rw [hn]; exact h0))).1
  have nz : (0 : Int32).toNatClampNeg = 0 := rfl
  have nn1 : nn.toInt = (n : Int) := by
    have hz0 : (0 : Int) ≤ nn.toInt := by
      have := Int32.not_lt.mp h3
      simpa using Int32.le_iff_toInt_le.mp this
    rw [← hnn]
    show nn.toInt = ((nn.toInt.toNat : Nat) : Int)
    omega
  have z1 : (0 : Int32).toInt = 0 := rfl
  obtain ⟨-, k0, hk0, cm0, hkk0⟩ := (hK.1.2 0 _ rfl).1 n (fun j => .int (M o2 k j))
  obtain ⟨-, k1, hk1, cm1, hkk1⟩ := (hK.1.2 0 _ rfl).1 n (fun j => .int (M o k j))
  obtain ⟨vm', X', step⟩ := X1.arraycopy hx hown (hts _ hlink) (hts _ hnat) (hts _ hstat) (hts _ hini) (src := jA X o2 k) (dst := jA X o k) (cs := vp_cell X.2.1 (n, .inl (M o2 k))) (cd := vp_cell X.2.1 (n, .inl (M o k))) (srcPos := 0) (destPos := 0) (n := nn) (by rw [hT]; exact hc0) (by rw [hT]; exact hc1)
    (fun _ h => by cases h) (fun _ h => by cases h) (fun h => by cases h) (fun h => by cases h) hk0 hk1 hkk0 hkk1 (by simp [refKind]) (by decide) (by decide) h3
    (by rw [z1, nn1]; show ¬ _ > ((arrV X.2.1 n (fun j => .int (M o2 k j))).slots.size : Int); rw [arrV_size]; omega)
    (by rw [z1, nn1]; show ¬ _ > ((arrV X.2.1 n (fun j => .int (M o k j))).slots.size : Int); rw [arrV_size]; omega)
    (fun vm₁ _ i hi => by
      have e : (vp_cell X.2.1 (n, .inl (M o2 k))).slots.getD ((0 : Int32).toNatClampNeg + i) .null = .int (M o2 k ((0 : Int32).toNatClampNeg + i)) := by
        show (arrV X.2.1 n (fun j => .int (M o2 k j))).slots.getD _ _ = _
        rw [Array.getD_eq_getD_getElem?, arrV_read _ _ (by rw [nz]; omega)]
        rfl
      refine ⟨?_, ?_⟩
      · rw [e]
        rfl
      · rw [e]
        exact trivial)
    (g := F0 m pc ls (.int nn :: .int 0 :: .ref (jA X o k) :: .int 0 :: .ref (jA X o2 k) :: rest)) rfl (by rw [hml]) (rest := rest) rfl (by rw [hb]; exact hdg) hframes (by show 2 * 0 + _ + _ ≤ _; omega)
  have e1 : copied (vp_cell X.2.1 (n, .inl (M o2 k))) (vp_cell X.2.1 (n, .inl (M o k))) 0 0 nn = vp_cell X.2.1 (n, .inl (va_cpy (M o2 k) (M o k) (0 : Int32).toNatClampNeg (0 : Int32).toNatClampNeg nn.toNatClampNeg)) := va_copied (fun z => .int z) X.2.1 X.2.1 (M o2 k) (M o k) (by rw [nz, hnn]; omega)
  have e2 : vp_cell X.2.1 (n, .inl (va_cpy (M o2 k) (M o k) (0 : Int32).toNatClampNeg (0 : Int32).toNatClampNeg nn.toNatClampNeg)) = vp_cell X.2.1 (n, .inl (M o2 k)) := by
    rw [vp_cell_i, vp_cell_i]
    refine arrV_ext fun j hj => ?_
    rw [nz, hnn]
    simp only [va_cpy]
    rw [if_pos ⟨Nat.zero_le _, by omega⟩]
    congr 2
    omega
  rw [e1, e2] at X' step
  have hl : jA X o k < H.size := (Array.getElem?_eq_some_iff.mp hc1).1
  have hheap : ((T.setVm vm').setCell (jA X o k) (vp_cell X.2.1 (n, .inl (M o2 k)))).heap = H.setIfInBounds (jA X o k) (vp_cell X.2.1 (n, .inl (M o2 k))) := by rw [← hT]; rfl
  have oq : ∀ q : Nat, q ≠ jA X o k → (H.setIfInBounds (jA X o k) (vp_cell X.2.1 (n, .inl (M o2 k))))[q]? = H[q]? := fun q hq => by simp [Array.getElem?_setIfInBounds, Ne.symm hq]
  have hnew : (H.setIfInBounds (jA X o k) (vp_cell X.2.1 (n, .inl (M o2 k))))[jA X o k]? = some (vp_cell X.2.1 (n, .inl (jcp M o k o2 o k))) := by
    have e : jcp M o k o2 o k = M o2 k := by funext i; simp [jcp]
    rw [e]
    simp [Array.getElem?_setIfInBounds, hl]
  obtain ⟨t, a1, b1⟩ := kk _ _ (jrp_row hs hP hj hn h0 hnew oq (fun o' k' h => by funext i; simp only [jcp, if_neg h])) ⟨by simp; exact hS.1, fun q g1 g2 => by
      rw [oq q (fun e => g2 (by rw [e]; exact hAd))]
      exact hS.2.1 q g1 g2, fun q hq => by
      rcases List.mem_append.mp hq with h | h
      · exact hS.2.2 q h
      · obtain ⟨z, -, hz⟩ := List.mem_map.mp h
        rw [← hz]
        exact hAd⟩ _ hheap X'
  exact ⟨t, step t a1, b1⟩
/-- behind a call that changes nothing -/
theorem jr_kp {mq : Array Value} {st0 : List Value} {v : Value} (hr : va_Run p l e R s m args below meth c H locs cells slots 0 0 (F0 m pc ls st0) rest (jQ v mq) (fun _ => False)) (kk : W p l e R s m args below meth c H locs cells slots Q (F0 m (pc + 3) ls (v :: rest))) : W p l e R s m args below meth c H locs cells slots Q (F0 m pc ls st0) := by
  intro T hT X1
  obtain ⟨v', st₀, t, T', L, h0, X', hL, e1, e2, ⟨hv, hh⟩, st⟩ := hr T hT X1
  cases hv
  obtain ⟨t2, a1, b1⟩ := kk T' (by rw [e1, hh, h0]) (Stand.forget X' (fun q h => (hL q h).elim))
  exact ⟨t2, st t2 a1, b1⟩
/-- behind a call that answers and leaves the memory N -/
theorem jr_km {mq : Array Value} {st0 : List Value} {v : Value} {N : jm} (hr : va_Run p l e R s m args below meth c H locs cells slots 0 0 (F0 m pc ls st0) rest (jQm X A (some v) N mq) A) (hS : va_S A s.heap H locs)
    (kk : ∀ (H1 : Heap) (locs1 : List Loc), jrp X N H1 → va_S A s.heap H1 locs1 → W p l e R s m args below meth c H1 locs1 cells slots Q (F0 m (pc + 3) ls (v :: rest))) : W p l e R s m args below meth c H locs cells slots Q (F0 m pc ls st0) := by
  intro T hT X1
  obtain ⟨v', st₀, t, T', L, h0, X', hL, e1, e2, ⟨⟨hv, hb⟩, hz, hk⟩, st⟩ := hr T hT X1
  cases hv
  rw [h0] at hz hk
  obtain ⟨t2, a1, b1⟩ := kk T'.heap (locs ++ L) (by rw [e1]; exact hb.1)
    ⟨Nat.le_trans hS.1 (by rw [e1]; exact hz), fun q h1 h2 => by rw [e1, hk q (Nat.lt_of_lt_of_le h1 hS.1) h2]; exact hS.2.1 q h1 h2, fun q hq => by
      rcases List.mem_append.mp hq with h | h
      · exact hS.2.2 q h
      · exact hL q h⟩ T' rfl X'
  exact ⟨t2, st t2 a1, b1⟩
theorem jr_kv {mq : Array Value} {st0 : List Value} {N : jm} (hr : va_Run p l e R s m args below meth c H locs cells slots 0 0 (F0 m pc ls st0) rest (jQm X A none N mq) A) (hS : va_S A s.heap H locs)
    (kk : ∀ (H1 : Heap) (locs1 : List Loc), jrp X N H1 → va_S A s.heap H1 locs1 → W p l e R s m args below meth c H1 locs1 cells slots Q (F0 m (pc + 3) ls rest)) : W p l e R s m args below meth c H locs cells slots Q (F0 m pc ls st0) := by
  intro T hT X1
  obtain ⟨v', st₀, t, T', L, h0, X', hL, e1, e2, ⟨⟨hv, hb⟩, hz, hk⟩, st⟩ := hr T hT X1
  cases hv
  rw [h0] at hz hk
  obtain ⟨t2, a1, b1⟩ := kk T'.heap (locs ++ L) (by rw [e1]; exact hb.1)
    ⟨Nat.le_trans hS.1 (by rw [e1]; exact hz), fun q h1 h2 => by rw [e1, hk q (Nat.lt_of_lt_of_le h1 hS.1) h2]; exact hS.2.1 q h1 h2, fun q hq => by
      rcases List.mem_append.mp hq with h | h
      · exact hS.2.2 q h
      · exact hL q h⟩ T' rfl X'
  exact ⟨t2, st t2 a1, b1⟩
/-- the words of a method -/
def jvw (y : MethodName) (b : ByteArray) (maxL : Nat) (ret : Option FieldType) (n : Nat) : Prop := Cond.code y b maxL ret ∈ jtb ∧ Cond.initialized y.cls ∈ jtb ∧ (y.cls ≠ "java/lang/invoke/MethodHandle" ∧ y.cls ≠ "java/lang/invoke/VarHandle" ∧ (parseMethodDescriptor y.desc).map (fun d => d.parameters.length) = some n)
def jiw (y : MethodName) : Prop := Cond.instanceMethod y ∈ jtb ∧ Cond.selects y.cls y y ∈ jtb
theorem jgood {y : MethodName} {b : ByteArray} {maxL : Nat} {ret : Option FieldType} (h : Cond.code y b maxL ret ∈ jtb) : GoodIn jtb (jws y b maxL ret) := fun w hw => by
  rcases List.mem_cons.mp hw with rfl | hw
  · exact ⟨h, jtb_good _ h⟩
  · exact ⟨hw, jtb_good _ hw⟩
variable {own : String} {index n maxL nL o ci : Nat} {y : MethodName} {bytes : ByteArray} {ret : Option FieldType} {rm : Room} {Qc : Array Value → State → Outcome → State → Prop} {free : Addr → Prop} {st0 As : List Value}
theorem jr_rv (S : CallFix p m c cc nL s args jtb own) (hK : jK X s) (hP : jrp X M H) (hj : job o ci) (hci : (jC ci).1 = y.cls) (hM : Met l y (jws y bytes maxL ret) rm (va_Pc (.ref (jO X o) :: As) (jB X M)) Qc 0 0 free) (hw : jvw y bytes maxL ret n) (hi : jiw y) (hl : Cond.methodLink own index y ∈ jtb)
    (hrc : rm.cells = 0) (hrs : rm.slots = 0) (hR : rm.frames + 1 ≤ R.frames ∧ 8 + (maxL + 11) + rm.locals ≤ R.locals) (hn : As.length = n) (hsz : ls.size = nL) (hst : st0 = As.reverse ++ .ref (jO X o) :: rest) (hW : (rest.map fun v => v.category).sum ≤ 8) (hdg : decode cc pc = .ok (.invokevirtual index, 3)) (hf : cells + 0 ≤ R.cells ∧ slots + 0 ≤ R.slots) :
    va_Run p l e R s m args below meth c H locs cells slots 0 0 (F0 m pc ls st0) rest (Qc (Value.ref (jO X o) :: As).toArray) free := by
  obtain ⟨hx, hb, hml, hown, hts⟩ := id S
  obtain ⟨hw1, hw2, hw3⟩ := hw
  refine va_runV (C := (jC ci).1) (n := n) S hM ⟨callB_of n hts (jgood hw1) rfl hrc hrs (hts _ hw2) (hts _ hl) hw3 hR, hts _ hi.1, by rw [hci]; exact hts _ hi.2⟩ ⟨jblind, ?_, fun U hU hW => ⟨rfl, by rw [hU]; exact hP, hK.warm hW⟩⟩ rfl hn hsz hst (lv_room hW) hdg hf
  obtain ⟨ho, rfl⟩ := hj
  obtain ⟨cell, q1, q2, q3, -⟩ := hP.1 o ho
  exact ⟨cell, q1, by rw [q3]; rfl, by rw [q2]; exact (hK.1.1 _ _ (jcl_at _ (jcls_lt o))).2.1⟩
theorem jr_rs (S : CallFix p m c cc nL s args jtb own) (hN : jN s) (hM : Met l y (jws y bytes maxL ret) rm (va_Pc As jN) Qc 0 0 free) (hw : jvw y bytes maxL ret n) (hi : Cond.static y ∈ jtb) (hl : Cond.methodLink own index y ∈ jtb)
    (hrc : rm.cells = 0) (hrs : rm.slots = 0) (hR : rm.frames + 1 ≤ R.frames ∧ 8 + (maxL + 11) + rm.locals ≤ R.locals) (hn : As.length = n) (hsz : ls.size = nL) (hst : st0 = As.reverse ++ rest) (hW : (rest.map fun v => v.category).sum ≤ 8) (hdg : decode cc pc = .ok (.invokestatic index, 3)) (hf : cells + 0 ≤ R.cells ∧ slots + 0 ≤ R.slots) :
    va_Run p l e R s m args below meth c H locs cells slots 0 0 (F0 m pc ls st0) rest (Qc As.toArray) free := by
  obtain ⟨hx, hb, hml, hown, hts⟩ := id S
  obtain ⟨hw1, hw2, hw3⟩ := hw
  exact va_runS (n := n) S hM ⟨callB_of n hts (jgood hw1) rfl hrc hrs (hts _ hw2) (hts _ hl) hw3 hR, hts _ hi⟩ ⟨jblind0, fun U hU hW => ⟨rfl, hN.warm hW⟩⟩ rfl hn hsz hst (lv_room hW) hdg hf
theorem jr_rn (S : CallFix p m c cc nL s args jtb own) (hN : jN s) (hM : Met l y (jws y bytes maxL ret) rm (va_Pc As jN) Qc 0 0 free) (hw : jvw y bytes maxL ret n) (hi : Cond.static y ∈ jtb) (hl : (own, index, y) ∈ jnw)
    (hrc : rm.cells = 0) (hrs : rm.slots = 0) (hR : rm.frames + 1 ≤ R.frames ∧ 8 + (maxL + 11) + rm.locals ≤ R.locals) (hn : As.length = n) (hsz : ls.size = nL) (hst : st0 = As.reverse ++ rest) (hW : (rest.map fun v => v.category).sum ≤ 8) (hdg : decode cc pc = .ok (.invokestatic index, 3)) (hf : cells + 0 ≤ R.cells ∧ slots + 0 ≤ R.slots) :
    va_Run p l e R s m args below meth c H locs cells slots 0 0 (F0 m pc ls st0) rest (Qc As.toArray) free := by
  obtain ⟨hx, hb, hml, hown, hts⟩ := id S
  obtain ⟨hw1, hw2, hw3⟩ := hw
  exact va_runSN (n := n) (host := RX5) S hM ⟨va_cnB n hts (jgood hw1) rfl hrc hrs (hN _ hl) (hts _ hw2) hw3 hR, hts _ hi, trivial⟩ ⟨jblind0, fun U hU hW => ⟨rfl, hN.warm hW⟩⟩ rfl hn hsz hst (lv_room hW) hdg hf
-- ends of methods
theorem je_i {v r : Int32} (hx : p.tables.exec = Jvm.exec) (hb : c.code = cc) (hr : meth.sig.returnType = some .int) (hlocks : meth.locks = false) (hv : v = r) (hdg : decode cc pc = .ok (.ireturn, 1)) :
    W p l e R s m args below meth c s.heap [] cells slots (MQ below (jQ (.int r)) args s cells slots (fun _ => False)) (F0 m pc ls [.int v]) := by
  subst hv
  exact W.iret hx hb hr (fun t ht _ => ⟨rfl, ht⟩) (fun _ h => absurd h List.not_mem_nil) hdg
theorem je_z {v r : Int32} (hx : p.tables.exec = Jvm.exec) (hb : c.code = cc) (hr : meth.sig.returnType = some .boolean) (hlocks : meth.locks = false) (hz : v = 0 ∨ v = 1) (hv : v = r) (hdg : decode cc pc = .ok (.ireturn, 1)) :
    W p l e R s m args below meth c s.heap [] cells slots (MQ below (jQ (.int r)) args s cells slots (fun _ => False)) (F0 m pc ls [.int v]) := by
  subst hv
  exact W.zret hx hb hr (jn_b hz) (fun t ht _ => ⟨rfl, ht⟩) (fun _ h => absurd h List.not_mem_nil) hdg
theorem je_l {v r : Int64} (hx : p.tables.exec = Jvm.exec) (hb : c.code = cc) (hr : meth.sig.returnType = some .long) (hlocks : meth.locks = false) (hv : v = r) (hdg : decode cc pc = .ok (.lreturn, 1)) :
    W p l e R s m args below meth c s.heap [] cells slots (MQ below (jQ (.long r)) args s cells slots (fun _ => False)) (F0 m pc ls [.long v]) := by
  subst hv
  exact W.lret hx hb hr (fun t ht _ => ⟨rfl, ht⟩) (fun _ h => absurd h List.not_mem_nil) hdg
theorem je_mi {v r : Int32} {N : jm} (hx : p.tables.exec = Jvm.exec) (hb : c.code = cc) (hr : meth.sig.returnType = some .int) (hlocks : meth.locks = false) (hK : jK X s) (hP : jrp X M H) (hS : va_S A s.heap H locs) (hv : some (v, M) = some (r, N)) (hdg : decode cc pc = .ok (.ireturn, 1)) :
    W p l e R s m args below meth c H locs cells slots (MQ below (jQm X A (some (.int r)) N) args s cells slots A) (F0 m pc ls [.int v]) := by
  cases hv
  exact W.iret hx hb hr (fun t ht hW => ⟨⟨rfl, by rw [ht]; exact hP, hK.warm hW⟩, hS.F ht⟩) hS.2.2 hdg
theorem je_mz {v r : Int32} {N : jm} (hx : p.tables.exec = Jvm.exec) (hb : c.code = cc) (hr : meth.sig.returnType = some .boolean) (hlocks : meth.locks = false) (hK : jK X s) (hP : jrp X M H) (hS : va_S A s.heap H locs) (hz : v = 0 ∨ v = 1) (hv : some (v, M) = some (r, N)) (hdg : decode cc pc = .ok (.ireturn, 1)) :
    W p l e R s m args below meth c H locs cells slots (MQ below (jQm X A (some (.int r)) N) args s cells slots A) (F0 m pc ls [.int v]) := by
  cases hv
  exact W.zret hx hb hr (jn_b hz) (fun t ht hW => ⟨⟨rfl, by rw [ht]; exact hP, hK.warm hW⟩, hS.F ht⟩) hS.2.2 hdg
theorem je_ml {v r : Int64} {N : jm} (hx : p.tables.exec = Jvm.exec) (hb : c.code = cc) (hr : meth.sig.returnType = some .long) (hlocks : meth.locks = false) (hK : jK X s) (hP : jrp X M H) (hS : va_S A s.heap H locs) (hv : some (v, M) = some (r, N)) (hdg : decode cc pc = .ok (.lreturn, 1)) :
    W p l e R s m args below meth c H locs cells slots (MQ below (jQm X A (some (.long r)) N) args s cells slots A) (F0 m pc ls [.long v]) := by
  cases hv
  exact W.lret hx hb hr (fun t ht hW => ⟨⟨rfl, by rw [ht]; exact hP, hK.warm hW⟩, hS.F ht⟩) hS.2.2 hdg
theorem je_mv {N : jm} (hx : p.tables.exec = Jvm.exec) (hb : c.code = cc) (hr : meth.sig.returnType = none) (hlocks : meth.locks = false) (hK : jK X s) (hP : jrp X M H) (hS : va_S A s.heap H locs) (hv : some M = some N) (hdg : decode cc pc = .ok (.return_, 1)) :
    W p l e R s m args below meth c H locs cells slots (MQ below (jQm X A none N) args s cells slots A) (F0 m pc ls []) := by
  cases hv
  exact W.vret hx hb hr (fun t ht hW => ⟨⟨rfl, by rw [ht]; exact hP, hK.warm hW⟩, hS.F ht⟩) hS.2.2 hdg
end JR
end
