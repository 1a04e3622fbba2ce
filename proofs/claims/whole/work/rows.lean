section
-- ===== PART A: goes FIRST, ahead of the names: the tables' words, and 'selects' of the private methods out of them =====
/-- a private method of a class that the tables say can be made, by its rows of tables_1 -/
def lw_okq (q : MethodName × Nat) : Prop := (q.1.cls ≠ "java/lang/invoke/MethodHandle" ∧ q.1.cls ≠ "java/lang/invoke/VarHandle") ∧ Cond.instantiable q.1.cls q.2 ∈ tables_1 ∧ Cond.privateMethod q.1 ∈ tables_1 ∧ Cond.instanceMethod q.1 ∈ tables_1
theorem lw_p0 : lw_okq (⟨"RibbonSetter$Changes", "insert", "(LRibbonSetter$Changes;III)V"⟩, 5) := ⟨⟨by decide +kernel, by decide +kernel⟩, List.mem_of_getElem? (i := 155) (by decide +kernel), List.mem_of_getElem? (i := 180) (by decide +kernel), List.mem_of_getElem? (i := 181) (by decide +kernel)⟩
theorem lw_p1 : lw_okq (⟨"RibbonSetter$Changes", "exchangeBefore", "(I)I"⟩, 5) := ⟨⟨by decide +kernel, by decide +kernel⟩, List.mem_of_getElem? (i := 155) (by decide +kernel), List.mem_of_getElem? (i := 188) (by decide +kernel), List.mem_of_getElem? (i := 189) (by decide +kernel)⟩
theorem lw_p2 : lw_okq (⟨"RibbonSetter$Changes", "rankOf", "(I)I"⟩, 5) := ⟨⟨by decide +kernel, by decide +kernel⟩, List.mem_of_getElem? (i := 155) (by decide +kernel), List.mem_of_getElem? (i := 195) (by decide +kernel), List.mem_of_getElem? (i := 196) (by decide +kernel)⟩
theorem lw_p3 : lw_okq (⟨"RibbonSetter", "freshRanking", "()LRibbonSetter$Ranking;"⟩, 10) := ⟨⟨by decide +kernel, by decide +kernel⟩, List.mem_of_getElem? (i := 14) (by decide +kernel), List.mem_of_getElem? (i := 332) (by decide +kernel), List.mem_of_getElem? (i := 333) (by decide +kernel)⟩
theorem lw_p4 : lw_okq (⟨"RibbonSetter$Ranking", "gatherUsed", "()V"⟩, 14) := ⟨⟨by decide +kernel, by decide +kernel⟩, List.mem_of_getElem? (i := 36) (by decide +kernel), List.mem_of_getElem? (i := 340) (by decide +kernel), List.mem_of_getElem? (i := 341) (by decide +kernel)⟩
theorem lw_p5 : lw_okq (⟨"RibbonSetter$Ranking", "gatherSources", "()V"⟩, 14) := ⟨⟨by decide +kernel, by decide +kernel⟩, List.mem_of_getElem? (i := 36) (by decide +kernel), List.mem_of_getElem? (i := 348) (by decide +kernel), List.mem_of_getElem? (i := 349) (by decide +kernel)⟩
theorem lw_p6 : lw_okq (⟨"RibbonSetter$Ranking", "weighSets", "()V"⟩, 14) := ⟨⟨by decide +kernel, by decide +kernel⟩, List.mem_of_getElem? (i := 36) (by decide +kernel), List.mem_of_getElem? (i := 353) (by decide +kernel), List.mem_of_getElem? (i := 354) (by decide +kernel)⟩
theorem lw_p7 : lw_okq (⟨"RibbonSetter$Ranking", "sumWithFirst", "(II)I"⟩, 14) := ⟨⟨by decide +kernel, by decide +kernel⟩, List.mem_of_getElem? (i := 36) (by decide +kernel), List.mem_of_getElem? (i := 358) (by decide +kernel), List.mem_of_getElem? (i := 359) (by decide +kernel)⟩
theorem lw_p8 : lw_okq (⟨"RibbonSetter$Ranking", "lineUp", "()V"⟩, 14) := ⟨⟨by decide +kernel, by decide +kernel⟩, List.mem_of_getElem? (i := 36) (by decide +kernel), List.mem_of_getElem? (i := 365) (by decide +kernel), List.mem_of_getElem? (i := 366) (by decide +kernel)⟩
theorem lw_p9 : lw_okq (⟨"RibbonSetter$Ranking", "firstOf", "(I)I"⟩, 14) := ⟨⟨by decide +kernel, by decide +kernel⟩, List.mem_of_getElem? (i := 36) (by decide +kernel), List.mem_of_getElem? (i := 370) (by decide +kernel), List.mem_of_getElem? (i := 371) (by decide +kernel)⟩
theorem lw_p10 : lw_okq (⟨"RibbonSetter$Ranking", "partFlows", "()V"⟩, 14) := ⟨⟨by decide +kernel, by decide +kernel⟩, List.mem_of_getElem? (i := 36) (by decide +kernel), List.mem_of_getElem? (i := 374) (by decide +kernel), List.mem_of_getElem? (i := 375) (by decide +kernel)⟩
theorem lw_p11 : lw_okq (⟨"RibbonSetter$Ranking", "putInLayers", "()V"⟩, 14) := ⟨⟨by decide +kernel, by decide +kernel⟩, List.mem_of_getElem? (i := 36) (by decide +kernel), List.mem_of_getElem? (i := 382) (by decide +kernel), List.mem_of_getElem? (i := 383) (by decide +kernel)⟩
theorem lw_p12 : lw_okq (⟨"RibbonSetter$Sheet", "add", "(II)V"⟩, 3) := ⟨⟨by decide +kernel, by decide +kernel⟩, List.mem_of_getElem? (i := 85) (by decide +kernel), List.mem_of_getElem? (i := 403) (by decide +kernel), List.mem_of_getElem? (i := 404) (by decide +kernel)⟩
theorem lw_p13 : lw_okq (⟨"RibbonSetter$Sheet", "addBeads", "(II)V"⟩, 3) := ⟨⟨by decide +kernel, by decide +kernel⟩, List.mem_of_getElem? (i := 85) (by decide +kernel), List.mem_of_getElem? (i := 408) (by decide +kernel), List.mem_of_getElem? (i := 409) (by decide +kernel)⟩
theorem lw_p14 : lw_okq (⟨"RibbonSetter", "isDrawn", "()Z"⟩, 10) := ⟨⟨by decide +kernel, by decide +kernel⟩, List.mem_of_getElem? (i := 14) (by decide +kernel), List.mem_of_getElem? (i := 469) (by decide +kernel), List.mem_of_getElem? (i := 470) (by decide +kernel)⟩
theorem lw_p15 : lw_okq (⟨"RibbonSetter$Search", "searchLayer", "(II)V"⟩, 14) := ⟨⟨by decide +kernel, by decide +kernel⟩, List.mem_of_getElem? (i := 122) (by decide +kernel), List.mem_of_getElem? (i := 482) (by decide +kernel), List.mem_of_getElem? (i := 483) (by decide +kernel)⟩
def lw_privs_1 : List (MethodName × Nat) := [(⟨"RibbonSetter$Changes", "insert", "(LRibbonSetter$Changes;III)V"⟩, 5), (⟨"RibbonSetter$Changes", "exchangeBefore", "(I)I"⟩, 5), (⟨"RibbonSetter$Changes", "rankOf", "(I)I"⟩, 5), (⟨"RibbonSetter", "freshRanking", "()LRibbonSetter$Ranking;"⟩, 10), (⟨"RibbonSetter$Ranking", "gatherUsed", "()V"⟩, 14), (⟨"RibbonSetter$Ranking", "gatherSources", "()V"⟩, 14), (⟨"RibbonSetter$Ranking", "weighSets", "()V"⟩, 14), (⟨"RibbonSetter$Ranking", "sumWithFirst", "(II)I"⟩, 14), (⟨"RibbonSetter$Ranking", "lineUp", "()V"⟩, 14), (⟨"RibbonSetter$Ranking", "firstOf", "(I)I"⟩, 14), (⟨"RibbonSetter$Ranking", "partFlows", "()V"⟩, 14), (⟨"RibbonSetter$Ranking", "putInLayers", "()V"⟩, 14), (⟨"RibbonSetter$Sheet", "add", "(II)V"⟩, 3), (⟨"RibbonSetter$Sheet", "addBeads", "(II)V"⟩, 3), (⟨"RibbonSetter", "isDrawn", "()Z"⟩, 10), (⟨"RibbonSetter$Search", "searchLayer", "(II)V"⟩, 14)]
theorem lw_r1 : ∀ q ∈ lw_privs_1, lw_okq q := List.forall_mem_cons.mpr ⟨lw_p0, List.forall_mem_cons.mpr ⟨lw_p1, List.forall_mem_cons.mpr ⟨lw_p2, List.forall_mem_cons.mpr ⟨lw_p3, List.forall_mem_cons.mpr ⟨lw_p4, List.forall_mem_cons.mpr ⟨lw_p5, List.forall_mem_cons.mpr ⟨lw_p6, List.forall_mem_cons.mpr ⟨lw_p7, List.forall_mem_cons.mpr ⟨lw_p8, List.forall_mem_cons.mpr ⟨lw_p9, List.forall_mem_cons.mpr ⟨lw_p10, List.forall_mem_cons.mpr ⟨lw_p11, List.forall_mem_cons.mpr ⟨lw_p12, List.forall_mem_cons.mpr ⟨lw_p13, List.forall_mem_cons.mpr ⟨lw_p14, List.forall_mem_cons.mpr ⟨lw_p15, fun _ h => absurd h List.not_mem_nil⟩⟩⟩⟩⟩⟩⟩⟩⟩⟩⟩⟩⟩⟩⟩⟩
theorem lw_p16 : lw_okq (⟨"RibbonSetter$Search", "changesOf", "(I)LRibbonSetter$Changes;"⟩, 14) := ⟨⟨by decide +kernel, by decide +kernel⟩, List.mem_of_getElem? (i := 122) (by decide +kernel), List.mem_of_getElem? (i := 486) (by decide +kernel), List.mem_of_getElem? (i := 487) (by decide +kernel)⟩
theorem lw_p17 : lw_okq (⟨"RibbonSetter$Joint", "putLink", "(III)V"⟩, 6) := ⟨⟨by decide +kernel, by decide +kernel⟩, List.mem_of_getElem? (i := 131) (by decide +kernel), List.mem_of_getElem? (i := 513) (by decide +kernel), List.mem_of_getElem? (i := 514) (by decide +kernel)⟩
theorem lw_p18 : lw_okq (⟨"RibbonSetter$Search", "tryNext", "(IILRibbonSetter$Changes;)V"⟩, 14) := ⟨⟨by decide +kernel, by decide +kernel⟩, List.mem_of_getElem? (i := 122) (by decide +kernel), List.mem_of_getElem? (i := 550) (by decide +kernel), List.mem_of_getElem? (i := 551) (by decide +kernel)⟩
theorem lw_p19 : lw_okq (⟨"RibbonSetter$Search", "chooseFirst", "()V"⟩, 14) := ⟨⟨by decide +kernel, by decide +kernel⟩, List.mem_of_getElem? (i := 122) (by decide +kernel), List.mem_of_getElem? (i := 566) (by decide +kernel), List.mem_of_getElem? (i := 567) (by decide +kernel)⟩
theorem lw_p20 : lw_okq (⟨"RibbonSetter$Search", "countParts", "(I)V"⟩, 14) := ⟨⟨by decide +kernel, by decide +kernel⟩, List.mem_of_getElem? (i := 122) (by decide +kernel), List.mem_of_getElem? (i := 570) (by decide +kernel), List.mem_of_getElem? (i := 571) (by decide +kernel)⟩
theorem lw_p21 : lw_okq (⟨"RibbonSetter$Search", "countCrosses", "(III)V"⟩, 14) := ⟨⟨by decide +kernel, by decide +kernel⟩, List.mem_of_getElem? (i := 122) (by decide +kernel), List.mem_of_getElem? (i := 581) (by decide +kernel), List.mem_of_getElem? (i := 582) (by decide +kernel)⟩
theorem lw_p22 : lw_okq (⟨"RibbonSetter", "isLayer", "(I)Z"⟩, 10) := ⟨⟨by decide +kernel, by decide +kernel⟩, List.mem_of_getElem? (i := 14) (by decide +kernel), List.mem_of_getElem? (i := 610) (by decide +kernel), List.mem_of_getElem? (i := 611) (by decide +kernel)⟩
theorem lw_p23 : lw_okq (⟨"RibbonSetterModel", "isPlace", "(I)Z"⟩, 29) := ⟨⟨by decide +kernel, by decide +kernel⟩, List.mem_of_getElem? (i := 685) (by decide +kernel), List.mem_of_getElem? (i := 783) (by decide +kernel), List.mem_of_getElem? (i := 784) (by decide +kernel)⟩
theorem lw_p24 : lw_okq (⟨"RibbonSetterModel", "flows", "()I"⟩, 29) := ⟨⟨by decide +kernel, by decide +kernel⟩, List.mem_of_getElem? (i := 685) (by decide +kernel), List.mem_of_getElem? (i := 787) (by decide +kernel), List.mem_of_getElem? (i := 788) (by decide +kernel)⟩
theorem lw_p25 : lw_okq (⟨"RibbonSetterModel", "findRow", "()V"⟩, 29) := ⟨⟨by decide +kernel, by decide +kernel⟩, List.mem_of_getElem? (i := 685) (by decide +kernel), List.mem_of_getElem? (i := 807) (by decide +kernel), List.mem_of_getElem? (i := 808) (by decide +kernel)⟩
theorem lw_p26 : lw_okq (⟨"RibbonSetterModel", "flowsTo", "(II)I"⟩, 29) := ⟨⟨by decide +kernel, by decide +kernel⟩, List.mem_of_getElem? (i := 685) (by decide +kernel), List.mem_of_getElem? (i := 812) (by decide +kernel), List.mem_of_getElem? (i := 813) (by decide +kernel)⟩
theorem lw_p27 : lw_okq (⟨"RibbonSetterModel", "isTurned", "(II)Z"⟩, 29) := ⟨⟨by decide +kernel, by decide +kernel⟩, List.mem_of_getElem? (i := 685) (by decide +kernel), List.mem_of_getElem? (i := 816) (by decide +kernel), List.mem_of_getElem? (i := 817) (by decide +kernel)⟩
theorem lw_p28 : lw_okq (⟨"RibbonSetterModel", "isFlow", "(II)Z"⟩, 29) := ⟨⟨by decide +kernel, by decide +kernel⟩, List.mem_of_getElem? (i := 685) (by decide +kernel), List.mem_of_getElem? (i := 824) (by decide +kernel), List.mem_of_getElem? (i := 825) (by decide +kernel)⟩
theorem lw_p29 : lw_okq (⟨"RibbonSetterModel", "isUsed", "(I)Z"⟩, 29) := ⟨⟨by decide +kernel, by decide +kernel⟩, List.mem_of_getElem? (i := 685) (by decide +kernel), List.mem_of_getElem? (i := 836) (by decide +kernel), List.mem_of_getElem? (i := 837) (by decide +kernel)⟩
theorem lw_p30 : lw_okq (⟨"RibbonSetterModel", "findOrder", "()V"⟩, 29) := ⟨⟨by decide +kernel, by decide +kernel⟩, List.mem_of_getElem? (i := 685) (by decide +kernel), List.mem_of_getElem? (i := 848) (by decide +kernel), List.mem_of_getElem? (i := 849) (by decide +kernel)⟩
theorem lw_p31 : lw_okq (⟨"RibbonSetterModel", "findItems", "()V"⟩, 29) := ⟨⟨by decide +kernel, by decide +kernel⟩, List.mem_of_getElem? (i := 685) (by decide +kernel), List.mem_of_getElem? (i := 852) (by decide +kernel), List.mem_of_getElem? (i := 853) (by decide +kernel)⟩
def lw_privs_2 : List (MethodName × Nat) := [(⟨"RibbonSetter$Search", "changesOf", "(I)LRibbonSetter$Changes;"⟩, 14), (⟨"RibbonSetter$Joint", "putLink", "(III)V"⟩, 6), (⟨"RibbonSetter$Search", "tryNext", "(IILRibbonSetter$Changes;)V"⟩, 14), (⟨"RibbonSetter$Search", "chooseFirst", "()V"⟩, 14), (⟨"RibbonSetter$Search", "countParts", "(I)V"⟩, 14), (⟨"RibbonSetter$Search", "countCrosses", "(III)V"⟩, 14), (⟨"RibbonSetter", "isLayer", "(I)Z"⟩, 10), (⟨"RibbonSetterModel", "isPlace", "(I)Z"⟩, 29), (⟨"RibbonSetterModel", "flows", "()I"⟩, 29), (⟨"RibbonSetterModel", "findRow", "()V"⟩, 29), (⟨"RibbonSetterModel", "flowsTo", "(II)I"⟩, 29), (⟨"RibbonSetterModel", "isTurned", "(II)Z"⟩, 29), (⟨"RibbonSetterModel", "isFlow", "(II)Z"⟩, 29), (⟨"RibbonSetterModel", "isUsed", "(I)Z"⟩, 29), (⟨"RibbonSetterModel", "findOrder", "()V"⟩, 29), (⟨"RibbonSetterModel", "findItems", "()V"⟩, 29)]
theorem lw_r2 : ∀ q ∈ lw_privs_2, lw_okq q := List.forall_mem_cons.mpr ⟨lw_p16, List.forall_mem_cons.mpr ⟨lw_p17, List.forall_mem_cons.mpr ⟨lw_p18, List.forall_mem_cons.mpr ⟨lw_p19, List.forall_mem_cons.mpr ⟨lw_p20, List.forall_mem_cons.mpr ⟨lw_p21, List.forall_mem_cons.mpr ⟨lw_p22, List.forall_mem_cons.mpr ⟨lw_p23, List.forall_mem_cons.mpr ⟨lw_p24, List.forall_mem_cons.mpr ⟨lw_p25, List.forall_mem_cons.mpr ⟨lw_p26, List.forall_mem_cons.mpr ⟨lw_p27, List.forall_mem_cons.mpr ⟨lw_p28, List.forall_mem_cons.mpr ⟨lw_p29, List.forall_mem_cons.mpr ⟨lw_p30, List.forall_mem_cons.mpr ⟨lw_p31, fun _ h => absurd h List.not_mem_nil⟩⟩⟩⟩⟩⟩⟩⟩⟩⟩⟩⟩⟩⟩⟩⟩
theorem lw_p32 : lw_okq (⟨"RibbonSetterModel", "puts", "(II)V"⟩, 29) := ⟨⟨by decide +kernel, by decide +kernel⟩, List.mem_of_getElem? (i := 685) (by decide +kernel), List.mem_of_getElem? (i := 856) (by decide +kernel), List.mem_of_getElem? (i := 857) (by decide +kernel)⟩
theorem lw_p33 : lw_okq (⟨"RibbonSetterModel", "isStraight", "(II)Z"⟩, 29) := ⟨⟨by decide +kernel, by decide +kernel⟩, List.mem_of_getElem? (i := 685) (by decide +kernel), List.mem_of_getElem? (i := 860) (by decide +kernel), List.mem_of_getElem? (i := 861) (by decide +kernel)⟩
theorem lw_p34 : lw_okq (⟨"RibbonSetterModel", "idOf", "(III)I"⟩, 29) := ⟨⟨by decide +kernel, by decide +kernel⟩, List.mem_of_getElem? (i := 685) (by decide +kernel), List.mem_of_getElem? (i := 864) (by decide +kernel), List.mem_of_getElem? (i := 865) (by decide +kernel)⟩
theorem lw_p35 : lw_okq (⟨"RibbonSetterModel", "find", "(II)I"⟩, 29) := ⟨⟨by decide +kernel, by decide +kernel⟩, List.mem_of_getElem? (i := 685) (by decide +kernel), List.mem_of_getElem? (i := 868) (by decide +kernel), List.mem_of_getElem? (i := 869) (by decide +kernel)⟩
theorem lw_p36 : lw_okq (⟨"RibbonSetterModel", "makeRows", "()V"⟩, 29) := ⟨⟨by decide +kernel, by decide +kernel⟩, List.mem_of_getElem? (i := 685) (by decide +kernel), List.mem_of_getElem? (i := 872) (by decide +kernel), List.mem_of_getElem? (i := 873) (by decide +kernel)⟩
theorem lw_p37 : lw_okq (⟨"RibbonSetterModel", "factorial", "(I)I"⟩, 29) := ⟨⟨by decide +kernel, by decide +kernel⟩, List.mem_of_getElem? (i := 685) (by decide +kernel), List.mem_of_getElem? (i := 876) (by decide +kernel), List.mem_of_getElem? (i := 877) (by decide +kernel)⟩
theorem lw_p38 : lw_okq (⟨"RibbonSetterModel", "crosses", "(III)I"⟩, 29) := ⟨⟨by decide +kernel, by decide +kernel⟩, List.mem_of_getElem? (i := 685) (by decide +kernel), List.mem_of_getElem? (i := 880) (by decide +kernel), List.mem_of_getElem? (i := 881) (by decide +kernel)⟩
theorem lw_p39 : lw_okq (⟨"RibbonSetterModel", "standOf", "(III)I"⟩, 29) := ⟨⟨by decide +kernel, by decide +kernel⟩, List.mem_of_getElem? (i := 685) (by decide +kernel), List.mem_of_getElem? (i := 884) (by decide +kernel), List.mem_of_getElem? (i := 885) (by decide +kernel)⟩
theorem lw_p40 : lw_okq (⟨"RibbonSetterModel", "moves", "(II)I"⟩, 29) := ⟨⟨by decide +kernel, by decide +kernel⟩, List.mem_of_getElem? (i := 685) (by decide +kernel), List.mem_of_getElem? (i := 888) (by decide +kernel), List.mem_of_getElem? (i := 889) (by decide +kernel)⟩
theorem lw_p41 : lw_okq (⟨"RibbonSetterModel", "itemAt", "(II)I"⟩, 29) := ⟨⟨by decide +kernel, by decide +kernel⟩, List.mem_of_getElem? (i := 685) (by decide +kernel), List.mem_of_getElem? (i := 904) (by decide +kernel), List.mem_of_getElem? (i := 905) (by decide +kernel)⟩
theorem lw_p42 : lw_okq (⟨"RibbonSetterModel", "topOf", "(II)I"⟩, 29) := ⟨⟨by decide +kernel, by decide +kernel⟩, List.mem_of_getElem? (i := 685) (by decide +kernel), List.mem_of_getElem? (i := 912) (by decide +kernel), List.mem_of_getElem? (i := 913) (by decide +kernel)⟩
theorem lw_p43 : lw_okq (⟨"RibbonSetterModel", "sizeOf", "(I)I"⟩, 29) := ⟨⟨by decide +kernel, by decide +kernel⟩, List.mem_of_getElem? (i := 685) (by decide +kernel), List.mem_of_getElem? (i := 916) (by decide +kernel), List.mem_of_getElem? (i := 917) (by decide +kernel)⟩
def lw_privs_3 : List (MethodName × Nat) := [(⟨"RibbonSetterModel", "puts", "(II)V"⟩, 29), (⟨"RibbonSetterModel", "isStraight", "(II)Z"⟩, 29), (⟨"RibbonSetterModel", "idOf", "(III)I"⟩, 29), (⟨"RibbonSetterModel", "find", "(II)I"⟩, 29), (⟨"RibbonSetterModel", "makeRows", "()V"⟩, 29), (⟨"RibbonSetterModel", "factorial", "(I)I"⟩, 29), (⟨"RibbonSetterModel", "crosses", "(III)I"⟩, 29), (⟨"RibbonSetterModel", "standOf", "(III)I"⟩, 29), (⟨"RibbonSetterModel", "moves", "(II)I"⟩, 29), (⟨"RibbonSetterModel", "itemAt", "(II)I"⟩, 29), (⟨"RibbonSetterModel", "topOf", "(II)I"⟩, 29), (⟨"RibbonSetterModel", "sizeOf", "(I)I"⟩, 29)]
theorem lw_r3 : ∀ q ∈ lw_privs_3, lw_okq q := List.forall_mem_cons.mpr ⟨lw_p32, List.forall_mem_cons.mpr ⟨lw_p33, List.forall_mem_cons.mpr ⟨lw_p34, List.forall_mem_cons.mpr ⟨lw_p35, List.forall_mem_cons.mpr ⟨lw_p36, List.forall_mem_cons.mpr ⟨lw_p37, List.forall_mem_cons.mpr ⟨lw_p38, List.forall_mem_cons.mpr ⟨lw_p39, List.forall_mem_cons.mpr ⟨lw_p40, List.forall_mem_cons.mpr ⟨lw_p41, List.forall_mem_cons.mpr ⟨lw_p42, List.forall_mem_cons.mpr ⟨lw_p43, fun _ h => absurd h List.not_mem_nil⟩⟩⟩⟩⟩⟩⟩⟩⟩⟩⟩⟩
def lw_privs : List (MethodName × Nat) := lw_privs_1 ++ (lw_privs_2 ++ (lw_privs_3))
def lw_tbl : List Cond := k2_sels lw_privs ++ tables_1
theorem lw_privs_ok : ∀ q ∈ lw_privs, lw_okq q := by
  show ∀ q ∈ lw_privs_1 ++ (lw_privs_2 ++ (lw_privs_3)), lw_okq q
  exact List.forall_mem_append.mpr ⟨lw_r1, List.forall_mem_append.mpr ⟨lw_r2, lw_r3⟩⟩
end
section
/-! ===== BEGIN words of one list among another's, by their places ===== -/
theorem goodIn_r {big : List Cond} (ws : List Cond) (ps : List Nat) (hp : ws = ps.filterMap (fun i => big[i]?)) (h : ws.all goodWord = true) : GoodIn big ws := by
  intro w hw
  have h1 := List.all_eq_true.mp h w hw
  rw [hp] at hw
  obtain ⟨i, -, hi⟩ := List.mem_filterMap.mp hw
  have hm : w ∈ big := by first | exact List.mem_of_getElem? hi | exact List.getElem?_mem hi
  exact ⟨hm, good_of_word h1⟩
theorem goodIn_app {big a b : List Cond} (ha : GoodIn big a) (hb : GoodIn big b) : GoodIn big (a ++ b) := fun w h => (List.mem_append.mp h).elim (ha w) (hb w)
theorem goodIn_ca {big a b : List Cond} {c : Cond} (ha : GoodIn big (c :: a)) (hb : GoodIn big b) : GoodIn big (c :: (a ++ b)) := fun w h => (List.mem_cons.mp h).elim (fun e => ha w (List.mem_cons.mpr (Or.inl e))) (fun h => (List.mem_append.mp h).elim (fun h => ha w (List.mem_cons.mpr (Or.inr h))) (hb w))
theorem goodIn_sub {big ws : List Cond} (hm : ∀ w ∈ ws, w ∈ big) (h : ws.all goodWord = true) : GoodIn big ws := fun w hw => ⟨hm w hw, good_of_word (List.all_eq_true.mp h w hw)⟩
/-! ===== END ===== -/
def RX0 : String := "RibbonSetter$Changes"
def TX0 : u_T := fun k => match k with
  | 0 => ("RibbonSetter$Changes", "size", "I", true)
  | 1 => ("RibbonSetter$Changes", "number", "I", true)
  | 2 => ("RibbonSetter$Changes", "things", "[I", true)
  | 3 => ("RibbonSetter$Changes", "exchanged", "[I", true)
  | _ => ("RibbonSetter$Changes", "ranks", "[I", true)
def tyX0 : Nat → FieldType := fun k => match k with
  | 0 => .int
  | 1 => .int
  | 2 => .array .int
  | 3 => .array .int
  | _ => .array .int
abbrev wsX00 : List Cond := u_ws RX0 TX0 5
theorem nmX0 : ∀ a, a < 5 → ∀ b, b < 5 → a ≠ b → (TX0 a).2.1 ≠ (TX0 b).2.1 := by decide +kernel
theorem tyX0_ok : ∀ k, k < 5 → parseFieldDescriptor (TX0 k).2.2.1 = some (tyX0 k) := by decide +kernel
abbrev cX0_init : ByteArray := prog_2_method_1_code
def yX0_init : MethodName := ⟨RX0, "<init>", "()V"⟩
abbrev cX0_init_ : ByteArray := prog_2_method_2_code
def yX0_init_ : MethodName := ⟨RX0, "<init>", "(LRibbonSetter$Changes;)V"⟩
abbrev cX0_number : ByteArray := prog_2_method_3_code
def yX0_number : MethodName := ⟨RX0, "number", "()I"⟩
abbrev cX0_thingAt : ByteArray := prog_2_method_4_code
def yX0_thingAt : MethodName := ⟨RX0, "thingAt", "(II)I"⟩
abbrev cX0_exchanged : ByteArray := prog_2_method_5_code
def yX0_exchanged : MethodName := ⟨RX0, "exchanged", "()[I"⟩
abbrev cX0_rankAt : ByteArray := prog_2_method_6_code
def yX0_rankAt : MethodName := ⟨RX0, "rankAt", "(I)I"⟩
abbrev cX0_insert : ByteArray := prog_2_method_7_code
def yX0_insert : MethodName := ⟨RX0, "insert", "(LRibbonSetter$Changes;III)V"⟩
abbrev cX0_exchangeBefore : ByteArray := prog_2_method_8_code
def yX0_exchangeBefore : MethodName := ⟨RX0, "exchangeBefore", "(I)I"⟩
abbrev cX0_rankOf : ByteArray := prog_2_method_9_code
def yX0_rankOf : MethodName := ⟨RX0, "rankOf", "(I)I"⟩
def RX1 : String := "RibbonSetter$Drawing"
def TX1 : u_T := fun k => match k with
  | 0 => ("RibbonSetter$Drawing", "ranking", "LRibbonSetter$Ranking;", true)
  | _ => ("RibbonSetter$Drawing", "search", "LRibbonSetter$Search;", true)
def tyX1 : Nat → FieldType := fun k => match k with
  | 0 => .object "RibbonSetter$Ranking"
  | _ => .object "RibbonSetter$Search"
abbrev wsX10 : List Cond := u_ws RX1 TX1 2
theorem nmX1 : ∀ a, a < 2 → ∀ b, b < 2 → a ≠ b → (TX1 a).2.1 ≠ (TX1 b).2.1 := by decide +kernel
theorem tyX1_ok : ∀ k, k < 2 → parseFieldDescriptor (TX1 k).2.2.1 = some (tyX1 k) := by decide +kernel
abbrev cX1_init : ByteArray := prog_3_method_1_code
def yX1_init : MethodName := ⟨RX1, "<init>", "(LRibbonSetter$Ranking;LRibbonSetter$Search;)V"⟩
abbrev cX1_sizeOf : ByteArray := prog_3_method_2_code
def yX1_sizeOf : MethodName := ⟨RX1, "sizeOf", "(I)I"⟩
abbrev cX1_topOf : ByteArray := prog_3_method_3_code
def yX1_topOf : MethodName := ⟨RX1, "topOf", "(III)I"⟩
abbrev cX1_endOf : ByteArray := prog_3_method_4_code
def yX1_endOf : MethodName := ⟨RX1, "endOf", "(IIII)I"⟩
abbrev cX1_beginOf : ByteArray := prog_3_method_5_code
def yX1_beginOf : MethodName := ⟨RX1, "beginOf", "(IIII)I"⟩
def RX2 : String := "RibbonSetter$Flows"
def TX2 : u_T := fun k => match k with
  | 0 => ("RibbonSetter$Flows", "widths", "[I", true)
  | _ => ("RibbonSetter$Flows", "number", "I", false)
def tyX2 : Nat → FieldType := fun k => match k with
  | 0 => .array .int
  | _ => .int
abbrev wsX20 : List Cond := u_ws RX2 TX2 2
theorem nmX2 : ∀ a, a < 2 → ∀ b, b < 2 → a ≠ b → (TX2 a).2.1 ≠ (TX2 b).2.1 := by decide +kernel
theorem tyX2_ok : ∀ k, k < 2 → parseFieldDescriptor (TX2 k).2.2.1 = some (tyX2 k) := by decide +kernel
abbrev cX2_init : ByteArray := prog_4_method_1_code
def yX2_init : MethodName := ⟨RX2, "<init>", "()V"⟩
abbrev cX2_number : ByteArray := prog_4_method_2_code
def yX2_number : MethodName := ⟨RX2, "number", "()I"⟩
abbrev cX2_between : ByteArray := prog_4_method_3_code
def yX2_between : MethodName := ⟨RX2, "between", "(II)I"⟩
abbrev cX2_takes : ByteArray := prog_4_method_4_code
def yX2_takes : MethodName := ⟨RX2, "takes", "(III)Z"⟩
abbrev cX2_put : ByteArray := prog_4_method_5_code
def yX2_put : MethodName := ⟨RX2, "put", "(III)V"⟩
abbrev cX2_removeAll : ByteArray := prog_4_method_6_code
def yX2_removeAll : MethodName := ⟨RX2, "removeAll", "()V"⟩
abbrev cX2_sum : ByteArray := prog_4_method_7_code
def yX2_sum : MethodName := ⟨RX2, "sum", "()I"⟩
abbrev cX2_comingTo : ByteArray := prog_4_method_8_code
def yX2_comingTo : MethodName := ⟨RX2, "comingTo", "(I)I"⟩
abbrev cX2_goingFrom : ByteArray := prog_4_method_9_code
def yX2_goingFrom : MethodName := ⟨RX2, "goingFrom", "(I)I"⟩
abbrev cX2_uses : ByteArray := prog_4_method_10_code
def yX2_uses : MethodName := ⟨RX2, "uses", "(I)Z"⟩
def RX3 : String := "RibbonSetter$Joint"
def TX3 : u_T := fun k => match k with
  | 0 => ("RibbonSetter$Joint", "ranking", "LRibbonSetter$Ranking;", true)
  | 1 => ("RibbonSetter$Joint", "sheet", "LRibbonSetter$Sheet;", true)
  | 2 => ("RibbonSetter$Joint", "kept", "LRibbonSetter$Kept;", true)
  | 3 => ("RibbonSetter$Joint", "links", "[I", true)
  | 4 => ("RibbonSetter$Joint", "gains", "[I", true)
  | _ => ("RibbonSetter$Joint", "base", "I", false)
def tyX3 : Nat → FieldType := fun k => match k with
  | 0 => .object "RibbonSetter$Ranking"
  | 1 => .object "RibbonSetter$Sheet"
  | 2 => .object "RibbonSetter$Kept"
  | 3 => .array .int
  | 4 => .array .int
  | _ => .int
abbrev wsX30 : List Cond := u_ws RX3 TX3 6
theorem nmX3 : ∀ a, a < 6 → ∀ b, b < 6 → a ≠ b → (TX3 a).2.1 ≠ (TX3 b).2.1 := by decide +kernel
theorem tyX3_ok : ∀ k, k < 6 → parseFieldDescriptor (TX3 k).2.2.1 = some (tyX3 k) := by decide +kernel
abbrev cX3_init : ByteArray := prog_5_method_1_code
def yX3_init : MethodName := ⟨RX3, "<init>", "(LRibbonSetter$Ranking;LRibbonSetter$Sheet;LRibbonSetter$Kept;)V"⟩
abbrev cX3_base : ByteArray := prog_5_method_2_code
def yX3_base : MethodName := ⟨RX3, "base", "()I"⟩
abbrev cX3_gains : ByteArray := prog_5_method_3_code
def yX3_gains : MethodName := ⟨RX3, "gains", "()[I"⟩
abbrev cX3_gatherLinks : ByteArray := prog_5_method_4_code
def yX3_gatherLinks : MethodName := ⟨RX3, "gatherLinks", "(I)V"⟩
abbrev cX3_begin : ByteArray := prog_5_method_5_code
def yX3_begin : MethodName := ⟨RX3, "begin", "(II)V"⟩
abbrev cX3_exchangeNext : ByteArray := prog_5_method_6_code
def yX3_exchangeNext : MethodName := ⟨RX3, "exchangeNext", "(II)V"⟩
abbrev cX3_crossing : ByteArray := prog_5_method_7_code
def yX3_crossing : MethodName := ⟨RX3, "crossing", "(IIII)I"⟩
abbrev cX3_putLink : ByteArray := prog_5_method_8_code
def yX3_putLink : MethodName := ⟨RX3, "putLink", "(III)V"⟩
def RX4 : String := "RibbonSetter$Kept"
def TX4 : u_T := fun k => match k with
  | 0 => ("RibbonSetter$Kept", "layers", "[I", true)
  | 1 => ("RibbonSetter$Kept", "spots", "[I", true)
  | _ => ("RibbonSetter$Kept", "holds", "Z", false)
def tyX4 : Nat → FieldType := fun k => match k with
  | 0 => .array .int
  | 1 => .array .int
  | _ => .boolean
abbrev wsX40 : List Cond := u_ws RX4 TX4 3
theorem nmX4 : ∀ a, a < 3 → ∀ b, b < 3 → a ≠ b → (TX4 a).2.1 ≠ (TX4 b).2.1 := by decide +kernel
theorem tyX4_ok : ∀ k, k < 3 → parseFieldDescriptor (TX4 k).2.2.1 = some (tyX4 k) := by decide +kernel
abbrev cX4_init : ByteArray := prog_6_method_1_code
def yX4_init : MethodName := ⟨RX4, "<init>", "()V"⟩
abbrev cX4_holds : ByteArray := prog_6_method_2_code
def yX4_holds : MethodName := ⟨RX4, "holds", "()Z"⟩
abbrev cX4_hold : ByteArray := prog_6_method_3_code
def yX4_hold : MethodName := ⟨RX4, "hold", "()V"⟩
abbrev cX4_empty : ByteArray := prog_6_method_4_code
def yX4_empty : MethodName := ⟨RX4, "empty", "()V"⟩
abbrev cX4_note : ByteArray := prog_6_method_5_code
def yX4_note : MethodName := ⟨RX4, "note", "(III)V"⟩
abbrev cX4_moves : ByteArray := prog_6_method_6_code
def yX4_moves : MethodName := ⟨RX4, "moves", "(II)I"⟩
def RX5 : String := "RibbonSetter$Ranking"
def TX5 : u_T := fun k => match k with
  | 0 => ("RibbonSetter$Ranking", "flows", "LRibbonSetter$Flows;", true)
  | 1 => ("RibbonSetter$Ranking", "used", "[I", true)
  | 2 => ("RibbonSetter$Ranking", "usedNumber", "I", false)
  | 3 => ("RibbonSetter$Ranking", "firstSource", "[I", true)
  | 4 => ("RibbonSetter$Ranking", "sourceBit", "[I", true)
  | 5 => ("RibbonSetter$Ranking", "sourceWidth", "[I", true)
  | 6 => ("RibbonSetter$Ranking", "least", "[I", true)
  | 7 => ("RibbonSetter$Ranking", "row", "[I", true)
  | 8 => ("RibbonSetter$Ranking", "spots", "[I", true)
  | 9 => ("RibbonSetter$Ranking", "layers", "[I", true)
  | 10 => ("RibbonSetter$Ranking", "straights", "[I", true)
  | 11 => ("RibbonSetter$Ranking", "layerNumber", "I", false)
  | 12 => ("RibbonSetter$Ranking", "turnedNumber", "I", false)
  | _ => ("RibbonSetter$Ranking", "turnedSum", "I", false)
def tyX5 : Nat → FieldType := fun k => match k with
  | 0 => .object "RibbonSetter$Flows"
  | 1 => .array .int
  | 2 => .int
  | 3 => .array .int
  | 4 => .array .int
  | 5 => .array .int
  | 6 => .array .int
  | 7 => .array .int
  | 8 => .array .int
  | 9 => .array .int
  | 10 => .array .int
  | 11 => .int
  | 12 => .int
  | _ => .int
abbrev wsX50 : List Cond := u_ws RX5 TX5 14
theorem nmX5 : ∀ a, a < 14 → ∀ b, b < 14 → a ≠ b → (TX5 a).2.1 ≠ (TX5 b).2.1 := by decide +kernel
theorem tyX5_ok : ∀ k, k < 14 → parseFieldDescriptor (TX5 k).2.2.1 = some (tyX5 k) := by decide +kernel
abbrev cX5_init : ByteArray := prog_7_method_1_code
def yX5_init : MethodName := ⟨RX5, "<init>", "(LRibbonSetter$Flows;)V"⟩
abbrev cX5_rank : ByteArray := prog_7_method_2_code
def yX5_rank : MethodName := ⟨RX5, "rank", "()V"⟩
abbrev cX5_placeAt : ByteArray := prog_7_method_3_code
def yX5_placeAt : MethodName := ⟨RX5, "placeAt", "(I)I"⟩
abbrev cX5_layerOf : ByteArray := prog_7_method_4_code
def yX5_layerOf : MethodName := ⟨RX5, "layerOf", "(I)I"⟩
abbrev cX5_layers : ByteArray := prog_7_method_5_code
def yX5_layers : MethodName := ⟨RX5, "layers", "()I"⟩
abbrev cX5_turnedNumber : ByteArray := prog_7_method_6_code
def yX5_turnedNumber : MethodName := ⟨RX5, "turnedNumber", "()I"⟩
abbrev cX5_turnedSum : ByteArray := prog_7_method_7_code
def yX5_turnedSum : MethodName := ⟨RX5, "turnedSum", "()I"⟩
abbrev cX5_turns : ByteArray := prog_7_method_8_code
def yX5_turns : MethodName := ⟨RX5, "turns", "(II)Z"⟩
abbrev cX5_straight : ByteArray := prog_7_method_9_code
def yX5_straight : MethodName := ⟨RX5, "straight", "(II)I"⟩
abbrev cX5_links : ByteArray := prog_7_method_10_code
def yX5_links : MethodName := ⟨RX5, "links", "(III)Z"⟩
abbrev cX5_itemOf : ByteArray := prog_7_method_11_code
def yX5_itemOf : MethodName := ⟨RX5, "itemOf", "(III)I"⟩
abbrev cX5_gatherUsed : ByteArray := prog_7_method_12_code
def yX5_gatherUsed : MethodName := ⟨RX5, "gatherUsed", "()V"⟩
abbrev cX5_gatherSources : ByteArray := prog_7_method_13_code
def yX5_gatherSources : MethodName := ⟨RX5, "gatherSources", "()V"⟩
abbrev cX5_weighSets : ByteArray := prog_7_method_14_code
def yX5_weighSets : MethodName := ⟨RX5, "weighSets", "()V"⟩
abbrev cX5_sumWithFirst : ByteArray := prog_7_method_15_code
def yX5_sumWithFirst : MethodName := ⟨RX5, "sumWithFirst", "(II)I"⟩
abbrev cX5_lineUp : ByteArray := prog_7_method_16_code
def yX5_lineUp : MethodName := ⟨RX5, "lineUp", "()V"⟩
abbrev cX5_firstOf : ByteArray := prog_7_method_17_code
def yX5_firstOf : MethodName := ⟨RX5, "firstOf", "(I)I"⟩
abbrev cX5_partFlows : ByteArray := prog_7_method_18_code
def yX5_partFlows : MethodName := ⟨RX5, "partFlows", "()V"⟩
abbrev cX5_putInLayers : ByteArray := prog_7_method_19_code
def yX5_putInLayers : MethodName := ⟨RX5, "putInLayers", "()V"⟩
def RX6 : String := "RibbonSetter$Search"
def TX6 : u_T := fun k => match k with
  | 0 => ("RibbonSetter$Search", "ranking", "LRibbonSetter$Ranking;", true)
  | 1 => ("RibbonSetter$Search", "sheet", "LRibbonSetter$Sheet;", true)
  | 2 => ("RibbonSetter$Search", "kept", "LRibbonSetter$Kept;", true)
  | 3 => ("RibbonSetter$Search", "joint", "LRibbonSetter$Joint;", true)
  | 4 => ("RibbonSetter$Search", "changes", "[LRibbonSetter$Changes;", true)
  | 5 => ("RibbonSetter$Search", "least", "[[I", true)
  | 6 => ("RibbonSetter$Search", "ways", "[[I", true)
  | 7 => ("RibbonSetter$Search", "nexts", "[[I", true)
  | 8 => ("RibbonSetter$Search", "chosen", "[I", true)
  | 9 => ("RibbonSetter$Search", "leastCost", "I", false)
  | 10 => ("RibbonSetter$Search", "leastWays", "I", false)
  | 11 => ("RibbonSetter$Search", "crossCost", "I", false)
  | 12 => ("RibbonSetter$Search", "crossPairs", "I", false)
  | _ => ("RibbonSetter$Search", "movedPairs", "I", false)
def tyX6 : Nat → FieldType := fun k => match k with
  | 0 => .object "RibbonSetter$Ranking"
  | 1 => .object "RibbonSetter$Sheet"
  | 2 => .object "RibbonSetter$Kept"
  | 3 => .object "RibbonSetter$Joint"
  | 4 => .array (.object "RibbonSetter$Changes")
  | 5 => .array (.array .int)
  | 6 => .array (.array .int)
  | 7 => .array (.array .int)
  | 8 => .array .int
  | 9 => .int
  | 10 => .int
  | 11 => .int
  | 12 => .int
  | _ => .int
abbrev wsX60 : List Cond := u_ws RX6 TX6 14
theorem nmX6 : ∀ a, a < 14 → ∀ b, b < 14 → a ≠ b → (TX6 a).2.1 ≠ (TX6 b).2.1 := by decide +kernel
theorem tyX6_ok : ∀ k, k < 14 → parseFieldDescriptor (TX6 k).2.2.1 = some (tyX6 k) := by decide +kernel
abbrev cX6_init : ByteArray := prog_8_method_1_code
def yX6_init : MethodName := ⟨RX6, "<init>", "(LRibbonSetter$Ranking;LRibbonSetter$Sheet;LRibbonSetter$Kept;)V"⟩
abbrev cX6_leastCost : ByteArray := prog_8_method_2_code
def yX6_leastCost : MethodName := ⟨RX6, "leastCost", "()I"⟩
abbrev cX6_leastWays : ByteArray := prog_8_method_3_code
def yX6_leastWays : MethodName := ⟨RX6, "leastWays", "()I"⟩
abbrev cX6_crossCost : ByteArray := prog_8_method_4_code
def yX6_crossCost : MethodName := ⟨RX6, "crossCost", "()I"⟩
abbrev cX6_crossPairs : ByteArray := prog_8_method_5_code
def yX6_crossPairs : MethodName := ⟨RX6, "crossPairs", "()I"⟩
abbrev cX6_movedPairs : ByteArray := prog_8_method_6_code
def yX6_movedPairs : MethodName := ⟨RX6, "movedPairs", "()I"⟩
abbrev cX6_solve : ByteArray := prog_8_method_7_code
def yX6_solve : MethodName := ⟨RX6, "solve", "(I)V"⟩
abbrev cX6_shownAt : ByteArray := prog_8_method_8_code
def yX6_shownAt : MethodName := ⟨RX6, "shownAt", "(II)I"⟩
abbrev cX6_spotOf : ByteArray := prog_8_method_9_code
def yX6_spotOf : MethodName := ⟨RX6, "spotOf", "(II)I"⟩
abbrev cX6_changesOf : ByteArray := prog_8_method_10_code
def yX6_changesOf : MethodName := ⟨RX6, "changesOf", "(I)LRibbonSetter$Changes;"⟩
abbrev cX6_searchLayer : ByteArray := prog_8_method_11_code
def yX6_searchLayer : MethodName := ⟨RX6, "searchLayer", "(II)V"⟩
abbrev cX6_tryNext : ByteArray := prog_8_method_12_code
def yX6_tryNext : MethodName := ⟨RX6, "tryNext", "(IILRibbonSetter$Changes;)V"⟩
abbrev cX6_chooseFirst : ByteArray := prog_8_method_13_code
def yX6_chooseFirst : MethodName := ⟨RX6, "chooseFirst", "()V"⟩
abbrev cX6_countParts : ByteArray := prog_8_method_14_code
def yX6_countParts : MethodName := ⟨RX6, "countParts", "(I)V"⟩
abbrev cX6_countCrosses : ByteArray := prog_8_method_15_code
def yX6_countCrosses : MethodName := ⟨RX6, "countCrosses", "(III)V"⟩
def RX7 : String := "RibbonSetter$Sheet"
def TX7 : u_T := fun k => match k with
  | 0 => ("RibbonSetter$Sheet", "ranking", "LRibbonSetter$Ranking;", true)
  | 1 => ("RibbonSetter$Sheet", "numbers", "[[I", true)
  | _ => ("RibbonSetter$Sheet", "counts", "[I", true)
def tyX7 : Nat → FieldType := fun k => match k with
  | 0 => .object "RibbonSetter$Ranking"
  | 1 => .array (.array .int)
  | _ => .array .int
abbrev wsX70 : List Cond := u_ws RX7 TX7 3
theorem nmX7 : ∀ a, a < 3 → ∀ b, b < 3 → a ≠ b → (TX7 a).2.1 ≠ (TX7 b).2.1 := by decide +kernel
theorem tyX7_ok : ∀ k, k < 3 → parseFieldDescriptor (TX7 k).2.2.1 = some (tyX7 k) := by decide +kernel
abbrev cX7_init : ByteArray := prog_9_method_1_code
def yX7_init : MethodName := ⟨RX7, "<init>", "(LRibbonSetter$Ranking;)V"⟩
abbrev cX7_fill : ByteArray := prog_9_method_2_code
def yX7_fill : MethodName := ⟨RX7, "fill", "()V"⟩
abbrev cX7_fits : ByteArray := prog_9_method_3_code
def yX7_fits : MethodName := ⟨RX7, "fits", "()Z"⟩
abbrev cX7_countIn : ByteArray := prog_9_method_4_code
def yX7_countIn : MethodName := ⟨RX7, "countIn", "(I)I"⟩
abbrev cX7_numberAt : ByteArray := prog_9_method_5_code
def yX7_numberAt : MethodName := ⟨RX7, "numberAt", "(II)I"⟩
abbrev cX7_indexOf : ByteArray := prog_9_method_6_code
def yX7_indexOf : MethodName := ⟨RX7, "indexOf", "(II)I"⟩
abbrev cX7_addBeads : ByteArray := prog_9_method_7_code
def yX7_addBeads : MethodName := ⟨RX7, "addBeads", "(II)V"⟩
abbrev cX7_add : ByteArray := prog_9_method_8_code
def yX7_add : MethodName := ⟨RX7, "add", "(II)V"⟩
def RX8 : String := "RibbonSetter"
def TX8 : u_T := fun k => match k with
  | 0 => ("RibbonSetter", "flows", "LRibbonSetter$Flows;", true)
  | 1 => ("RibbonSetter", "ranking", "LRibbonSetter$Ranking;", true)
  | 2 => ("RibbonSetter", "sheet", "LRibbonSetter$Sheet;", true)
  | 3 => ("RibbonSetter", "kept", "LRibbonSetter$Kept;", true)
  | 4 => ("RibbonSetter", "search", "LRibbonSetter$Search;", true)
  | 5 => ("RibbonSetter", "drawing", "LRibbonSetter$Drawing;", true)
  | 6 => ("RibbonSetter", "gap", "I", false)
  | 7 => ("RibbonSetter", "price", "I", false)
  | 8 => ("RibbonSetter", "ranked", "Z", false)
  | _ => ("RibbonSetter", "ordered", "Z", false)
def tyX8 : Nat → FieldType := fun k => match k with
  | 0 => .object "RibbonSetter$Flows"
  | 1 => .object "RibbonSetter$Ranking"
  | 2 => .object "RibbonSetter$Sheet"
  | 3 => .object "RibbonSetter$Kept"
  | 4 => .object "RibbonSetter$Search"
  | 5 => .object "RibbonSetter$Drawing"
  | 6 => .int
  | 7 => .int
  | 8 => .boolean
  | _ => .boolean
abbrev wsX80 : List Cond := u_ws RX8 TX8 10
theorem nmX8 : ∀ a, a < 10 → ∀ b, b < 10 → a ≠ b → (TX8 a).2.1 ≠ (TX8 b).2.1 := by decide +kernel
theorem tyX8_ok : ∀ k, k < 10 → parseFieldDescriptor (TX8 k).2.2.1 = some (tyX8 k) := by decide +kernel
abbrev cX8_init : ByteArray := prog_1_method_1_code
def yX8_init : MethodName := ⟨RX8, "<init>", "()V"⟩
abbrev cX8_flow : ByteArray := prog_1_method_2_code
def yX8_flow : MethodName := ⟨RX8, "flow", "(III)Z"⟩
abbrev cX8_clear : ByteArray := prog_1_method_3_code
def yX8_clear : MethodName := ⟨RX8, "clear", "()V"⟩
abbrev cX8_set : ByteArray := prog_1_method_4_code
def yX8_set : MethodName := ⟨RX8, "set", "(II)Z"⟩
abbrev cX8_about : ByteArray := prog_1_method_5_code
def yX8_about : MethodName := ⟨RX8, "about", "(I)I"⟩
abbrev cX8_width : ByteArray := prog_1_method_6_code
def yX8_width : MethodName := ⟨RX8, "width", "(II)I"⟩
abbrev cX8_turned : ByteArray := prog_1_method_7_code
def yX8_turned : MethodName := ⟨RX8, "turned", "(II)I"⟩
abbrev cX8_row : ByteArray := prog_1_method_8_code
def yX8_row : MethodName := ⟨RX8, "row", "(I)I"⟩
abbrev cX8_layer : ByteArray := prog_1_method_9_code
def yX8_layer : MethodName := ⟨RX8, "layer", "(I)I"⟩
abbrev cX8_rest : ByteArray := prog_1_method_10_code
def yX8_rest : MethodName := ⟨RX8, "rest", "(I)I"⟩
abbrev cX8_cost : ByteArray := prog_1_method_11_code
def yX8_cost : MethodName := ⟨RX8, "cost", "()I"⟩
abbrev cX8_part : ByteArray := prog_1_method_12_code
def yX8_part : MethodName := ⟨RX8, "part", "(I)I"⟩
abbrev cX8_items : ByteArray := prog_1_method_13_code
def yX8_items : MethodName := ⟨RX8, "items", "(I)I"⟩
abbrev cX8_item : ByteArray := prog_1_method_14_code
def yX8_item : MethodName := ⟨RX8, "item", "(II)I"⟩
abbrev cX8_place : ByteArray := prog_1_method_15_code
def yX8_place : MethodName := ⟨RX8, "place", "(II)I"⟩
abbrev cX8_point : ByteArray := prog_1_method_16_code
def yX8_point : MethodName := ⟨RX8, "point", "(IIII)I"⟩
abbrev cX8_keep : ByteArray := prog_1_method_17_code
def yX8_keep : MethodName := ⟨RX8, "keep", "()Z"⟩
abbrev cX8_forget : ByteArray := prog_1_method_18_code
def yX8_forget : MethodName := ⟨RX8, "forget", "()V"⟩
abbrev cX8_orders : ByteArray := prog_1_method_19_code
def yX8_orders : MethodName := ⟨RX8, "orders", "()I"⟩
abbrev cX8_isPlace : ByteArray := prog_1_method_20_code
def yX8_isPlace : MethodName := ⟨RX8, "isPlace", "(I)Z"⟩
abbrev cX8_arePlaces : ByteArray := prog_1_method_21_code
def yX8_arePlaces : MethodName := ⟨RX8, "arePlaces", "(II)Z"⟩
abbrev cX8_pair : ByteArray := prog_1_method_22_code
def yX8_pair : MethodName := ⟨RX8, "pair", "(II)I"⟩
abbrev cX8_freshRanking : ByteArray := prog_1_method_23_code
def yX8_freshRanking : MethodName := ⟨RX8, "freshRanking", "()LRibbonSetter$Ranking;"⟩
abbrev cX8_isLayer : ByteArray := prog_1_method_24_code
def yX8_isLayer : MethodName := ⟨RX8, "isLayer", "(I)Z"⟩
abbrev cX8_isDrawn : ByteArray := prog_1_method_25_code
def yX8_isDrawn : MethodName := ⟨RX8, "isDrawn", "()Z"⟩
def RX9 : String := "RibbonSetterModel"
def TX9 : u_T := fun k => match k with
  | 0 => ("RibbonSetterModel", "told", "I", false)
  | 1 => ("RibbonSetterModel", "width", "[I", true)
  | 2 => ("RibbonSetterModel", "gap", "I", false)
  | 3 => ("RibbonSetterModel", "price", "I", false)
  | 4 => ("RibbonSetterModel", "isKept", "Z", false)
  | 5 => ("RibbonSetterModel", "keptLayer", "[I", true)
  | 6 => ("RibbonSetterModel", "keptPlace", "[I", true)
  | 7 => ("RibbonSetterModel", "used", "I", false)
  | 8 => ("RibbonSetterModel", "rowMany", "I", false)
  | 9 => ("RibbonSetterModel", "row", "[I", true)
  | 10 => ("RibbonSetterModel", "at", "[I", true)
  | 11 => ("RibbonSetterModel", "layer", "[I", true)
  | 12 => ("RibbonSetterModel", "layers", "I", false)
  | 13 => ("RibbonSetterModel", "rest", "[I", true)
  | 14 => ("RibbonSetterModel", "isDrawn", "Z", false)
  | 15 => ("RibbonSetterModel", "many", "[I", true)
  | 16 => ("RibbonSetterModel", "item", "[I", true)
  | 17 => ("RibbonSetterModel", "links", "[I", true)
  | 18 => ("RibbonSetterModel", "linkFrom", "[I", true)
  | 19 => ("RibbonSetterModel", "linkTo", "[I", true)
  | 20 => ("RibbonSetterModel", "linkWide", "[I", true)
  | 21 => ("RibbonSetterModel", "stands", "[I", true)
  | 22 => ("RibbonSetterModel", "isMade", "Z", false)
  | 23 => ("RibbonSetterModel", "crossed", "I", false)
  | 24 => ("RibbonSetterModel", "least", "[I", true)
  | 25 => ("RibbonSetterModel", "ways", "[I", true)
  | 26 => ("RibbonSetterModel", "chosen", "[I", true)
  | 27 => ("RibbonSetterModel", "whole", "I", false)
  | _ => ("RibbonSetterModel", "wholeWays", "I", false)
def tyX9 : Nat → FieldType := fun k => match k with
  | 0 => .int
  | 1 => .array .int
  | 2 => .int
  | 3 => .int
  | 4 => .boolean
  | 5 => .array .int
  | 6 => .array .int
  | 7 => .int
  | 8 => .int
  | 9 => .array .int
  | 10 => .array .int
  | 11 => .array .int
  | 12 => .int
  | 13 => .array .int
  | 14 => .boolean
  | 15 => .array .int
  | 16 => .array .int
  | 17 => .array .int
  | 18 => .array .int
  | 19 => .array .int
  | 20 => .array .int
  | 21 => .array .int
  | 22 => .boolean
  | 23 => .int
  | 24 => .array .int
  | 25 => .array .int
  | 26 => .array .int
  | 27 => .int
  | _ => .int
abbrev wsX90 : List Cond := u_ws RX9 TX9 29
theorem nmX9 : ∀ a, a < 29 → ∀ b, b < 29 → a ≠ b → (TX9 a).2.1 ≠ (TX9 b).2.1 := by decide +kernel
theorem tyX9_ok : ∀ k, k < 29 → parseFieldDescriptor (TX9 k).2.2.1 = some (tyX9 k) := by decide +kernel
abbrev cX9_init : ByteArray := prog_11_method_1_code
def yX9_init : MethodName := ⟨RX9, "<init>", "()V"⟩
abbrev cX9_isPlace : ByteArray := prog_11_method_3_code
def yX9_isPlace : MethodName := ⟨RX9, "isPlace", "(I)Z"⟩
abbrev cX9_flows : ByteArray := prog_11_method_4_code
def yX9_flows : MethodName := ⟨RX9, "flows", "()I"⟩
abbrev cX9_flow : ByteArray := prog_11_method_5_code
def yX9_flow : MethodName := ⟨RX9, "flow", "(III)Z"⟩
abbrev cX9_clear : ByteArray := prog_11_method_6_code
def yX9_clear : MethodName := ⟨RX9, "clear", "()V"⟩
abbrev cX9_set : ByteArray := prog_11_method_7_code
def yX9_set : MethodName := ⟨RX9, "set", "(II)Z"⟩
abbrev cX9_width : ByteArray := prog_11_method_8_code
def yX9_width : MethodName := ⟨RX9, "width", "(II)I"⟩
abbrev cX9_flowsTo : ByteArray := prog_11_method_9_code
def yX9_flowsTo : MethodName := ⟨RX9, "flowsTo", "(II)I"⟩
abbrev cX9_findRow : ByteArray := prog_11_method_10_code
def yX9_findRow : MethodName := ⟨RX9, "findRow", "()V"⟩
abbrev cX9_isUsed : ByteArray := prog_11_method_11_code
def yX9_isUsed : MethodName := ⟨RX9, "isUsed", "(I)Z"⟩
abbrev cX9_isTurned : ByteArray := prog_11_method_12_code
def yX9_isTurned : MethodName := ⟨RX9, "isTurned", "(II)Z"⟩
abbrev cX9_puts : ByteArray := prog_11_method_13_code
def yX9_puts : MethodName := ⟨RX9, "puts", "(II)V"⟩
abbrev cX9_find : ByteArray := prog_11_method_14_code
def yX9_find : MethodName := ⟨RX9, "find", "(II)I"⟩
abbrev cX9_idOf : ByteArray := prog_11_method_15_code
def yX9_idOf : MethodName := ⟨RX9, "idOf", "(III)I"⟩
abbrev cX9_isStraight : ByteArray := prog_11_method_16_code
def yX9_isStraight : MethodName := ⟨RX9, "isStraight", "(II)Z"⟩
abbrev cX9_findItems : ByteArray := prog_11_method_17_code
def yX9_findItems : MethodName := ⟨RX9, "findItems", "()V"⟩
abbrev cX9_factorial : ByteArray := prog_11_method_18_code
def yX9_factorial : MethodName := ⟨RX9, "factorial", "(I)I"⟩
abbrev cX9_makeRows : ByteArray := prog_11_method_19_code
def yX9_makeRows : MethodName := ⟨RX9, "makeRows", "()V"⟩
abbrev cX9_standOf : ByteArray := prog_11_method_20_code
def yX9_standOf : MethodName := ⟨RX9, "standOf", "(III)I"⟩
abbrev cX9_crosses : ByteArray := prog_11_method_21_code
def yX9_crosses : MethodName := ⟨RX9, "crosses", "(III)I"⟩
abbrev cX9_moves : ByteArray := prog_11_method_22_code
def yX9_moves : MethodName := ⟨RX9, "moves", "(II)I"⟩
abbrev cX9_findOrder : ByteArray := prog_11_method_23_code
def yX9_findOrder : MethodName := ⟨RX9, "findOrder", "()V"⟩
abbrev cX9_about : ByteArray := prog_11_method_24_code
def yX9_about : MethodName := ⟨RX9, "about", "(I)I"⟩
abbrev cX9_isFlow : ByteArray := prog_11_method_25_code
def yX9_isFlow : MethodName := ⟨RX9, "isFlow", "(II)Z"⟩
abbrev cX9_turned : ByteArray := prog_11_method_26_code
def yX9_turned : MethodName := ⟨RX9, "turned", "(II)I"⟩
abbrev cX9_row : ByteArray := prog_11_method_27_code
def yX9_row : MethodName := ⟨RX9, "row", "(I)I"⟩
abbrev cX9_layer : ByteArray := prog_11_method_28_code
def yX9_layer : MethodName := ⟨RX9, "layer", "(I)I"⟩
abbrev cX9_rest : ByteArray := prog_11_method_29_code
def yX9_rest : MethodName := ⟨RX9, "rest", "(I)I"⟩
abbrev cX9_cost : ByteArray := prog_11_method_30_code
def yX9_cost : MethodName := ⟨RX9, "cost", "()I"⟩
abbrev cX9_part : ByteArray := prog_11_method_31_code
def yX9_part : MethodName := ⟨RX9, "part", "(I)I"⟩
abbrev cX9_items : ByteArray := prog_11_method_32_code
def yX9_items : MethodName := ⟨RX9, "items", "(I)I"⟩
abbrev cX9_itemAt : ByteArray := prog_11_method_33_code
def yX9_itemAt : MethodName := ⟨RX9, "itemAt", "(II)I"⟩
abbrev cX9_item : ByteArray := prog_11_method_34_code
def yX9_item : MethodName := ⟨RX9, "item", "(II)I"⟩
abbrev cX9_sizeOf : ByteArray := prog_11_method_35_code
def yX9_sizeOf : MethodName := ⟨RX9, "sizeOf", "(I)I"⟩
abbrev cX9_topOf : ByteArray := prog_11_method_36_code
def yX9_topOf : MethodName := ⟨RX9, "topOf", "(II)I"⟩
abbrev cX9_place : ByteArray := prog_11_method_37_code
def yX9_place : MethodName := ⟨RX9, "place", "(II)I"⟩
abbrev cX9_point : ByteArray := prog_11_method_38_code
def yX9_point : MethodName := ⟨RX9, "point", "(IIII)I"⟩
abbrev cX9_keep : ByteArray := prog_11_method_39_code
def yX9_keep : MethodName := ⟨RX9, "keep", "()Z"⟩
abbrev cX9_forget : ByteArray := prog_11_method_40_code
def yX9_forget : MethodName := ⟨RX9, "forget", "()V"⟩
abbrev cX9_orders : ByteArray := prog_11_method_41_code
def yX9_orders : MethodName := ⟨RX9, "orders", "()I"⟩
def RJ9 : String := "java/lang/Math"
def TJ9 : u_T := fun k => match k with
  | _ => ("", "", "", false)
def tyJ9 : Nat → FieldType := fun k => match k with
  | _ => .int
abbrev wsJ90 : List Cond := u_ws RJ9 TJ9 0
theorem nmJ9 : ∀ a, a < 0 → ∀ b, b < 0 → a ≠ b → (TJ9 a).2.1 ≠ (TJ9 b).2.1 := by decide +kernel
theorem tyJ9_ok : ∀ k, k < 0 → parseFieldDescriptor (TJ9 k).2.2.1 = some (tyJ9 k) := by decide +kernel
abbrev cJ9_max_7cf53 : ByteArray := prog_12_method_65_code
def yJ9_max_7cf53 : MethodName := ⟨RJ9, "max", "(II)I"⟩
abbrev cJ9_min_7cf53 : ByteArray := prog_12_method_69_code
def yJ9_min_7cf53 : MethodName := ⟨RJ9, "min", "(II)I"⟩
def RJ7 : String := "java/util/Arrays"
def TJ7 : u_T := fun k => match k with
  | _ => ("", "", "", false)
def tyJ7 : Nat → FieldType := fun k => match k with
  | _ => .int
abbrev wsJ70 : List Cond := u_ws RJ7 TJ7 0
theorem nmJ7 : ∀ a, a < 0 → ∀ b, b < 0 → a ≠ b → (TJ7 a).2.1 ≠ (TJ7 b).2.1 := by decide +kernel
theorem tyJ7_ok : ∀ k, k < 0 → parseFieldDescriptor (TJ7 k).2.2.1 = some (tyJ7 k) := by decide +kernel
abbrev cJ7_fill_53178 : ByteArray := prog_13_method_103_code
def yJ7_fill_53178 : MethodName := ⟨RJ7, "fill", "([II)V"⟩
def RL : String := "RibbonSetterLaw"
abbrev cL_law : ByteArray := code
def yL_law : MethodName := ⟨RL, "law", "([I)Z"⟩
abbrev vwCl : List vw_C := [(RX0, TX0, 5), (RX1, TX1, 2), (RX2, TX2, 2), (RX3, TX3, 6), (RX4, TX4, 3), (RX5, TX5, 14), (RX6, TX6, 14), (RX7, TX7, 3), (RX8, TX8, 10), (RX9, TX9, 29)]
end
section
theorem dX0_init_0 : decode cX0_init 0 = .ok (.aload_n 0, 1) := by decide +kernel
theorem dX0_init_1 : decode cX0_init 1 = .ok (.invokespecial 3, 3) := by decide +kernel
theorem dX0_init_4 : decode cX0_init 4 = .ok (.aload_n 0, 1) := by decide +kernel
theorem dX0_init_5 : decode cX0_init 5 = .ok (.iconst 0, 1) := by decide +kernel
theorem dX0_init_6 : decode cX0_init 6 = .ok (.putfield 9, 3) := by decide +kernel
theorem dX0_init_9 : decode cX0_init 9 = .ok (.aload_n 0, 1) := by decide +kernel
theorem dX0_init_10 : decode cX0_init 10 = .ok (.iconst 1, 1) := by decide +kernel
theorem dX0_init_11 : decode cX0_init 11 = .ok (.putfield 15, 3) := by decide +kernel
theorem dX0_init_14 : decode cX0_init 14 = .ok (.aload_n 0, 1) := by decide +kernel
theorem dX0_init_15 : decode cX0_init 15 = .ok (.iconst 0, 1) := by decide +kernel
theorem dX0_init_16 : decode cX0_init 16 = .ok (.newarray .int, 2) := by decide +kernel
theorem dX0_init_18 : decode cX0_init 18 = .ok (.putfield 18, 3) := by decide +kernel
theorem dX0_init_21 : decode cX0_init 21 = .ok (.aload_n 0, 1) := by decide +kernel
theorem dX0_init_22 : decode cX0_init 22 = .ok (.iconst 1, 1) := by decide +kernel
theorem dX0_init_23 : decode cX0_init 23 = .ok (.newarray .int, 2) := by decide +kernel
theorem dX0_init_25 : decode cX0_init 25 = .ok (.putfield 22, 3) := by decide +kernel
theorem dX0_init_28 : decode cX0_init 28 = .ok (.aload_n 0, 1) := by decide +kernel
theorem dX0_init_29 : decode cX0_init 29 = .ok (.iconst 1, 1) := by decide +kernel
theorem dX0_init_30 : decode cX0_init 30 = .ok (.newarray .int, 2) := by decide +kernel
theorem dX0_init_32 : decode cX0_init 32 = .ok (.putfield 25, 3) := by decide +kernel
theorem dX0_init_35 : decode cX0_init 35 = .ok (.return_, 1) := by decide +kernel
theorem dX0_init__0 : decode cX0_init_ 0 = .ok (.aload_n 0, 1) := by decide +kernel
theorem dX0_init__1 : decode cX0_init_ 1 = .ok (.invokespecial 3, 3) := by decide +kernel
theorem dX0_init__4 : decode cX0_init_ 4 = .ok (.aload_n 0, 1) := by decide +kernel
theorem dX0_init__5 : decode cX0_init_ 5 = .ok (.aload_n 1, 1) := by decide +kernel
theorem dX0_init__6 : decode cX0_init_ 6 = .ok (.getfield 9, 3) := by decide +kernel
theorem dX0_init__9 : decode cX0_init_ 9 = .ok (.iconst 1, 1) := by decide +kernel
theorem dX0_init__10 : decode cX0_init_ 10 = .ok (.iadd, 1) := by decide +kernel
theorem dX0_init__11 : decode cX0_init_ 11 = .ok (.putfield 9, 3) := by decide +kernel
theorem dX0_init__14 : decode cX0_init_ 14 = .ok (.aload_n 0, 1) := by decide +kernel
theorem dX0_init__15 : decode cX0_init_ 15 = .ok (.aload_n 1, 1) := by decide +kernel
theorem dX0_init__16 : decode cX0_init_ 16 = .ok (.getfield 15, 3) := by decide +kernel
theorem dX0_init__19 : decode cX0_init_ 19 = .ok (.aload_n 0, 1) := by decide +kernel
theorem dX0_init__20 : decode cX0_init_ 20 = .ok (.getfield 9, 3) := by decide +kernel
theorem dX0_init__23 : decode cX0_init_ 23 = .ok (.imul, 1) := by decide +kernel
theorem dX0_init__24 : decode cX0_init_ 24 = .ok (.putfield 15, 3) := by decide +kernel
theorem dX0_init__27 : decode cX0_init_ 27 = .ok (.aload_n 0, 1) := by decide +kernel
theorem dX0_init__28 : decode cX0_init_ 28 = .ok (.aload_n 0, 1) := by decide +kernel
theorem dX0_init__29 : decode cX0_init_ 29 = .ok (.getfield 15, 3) := by decide +kernel
theorem dX0_init__32 : decode cX0_init_ 32 = .ok (.aload_n 0, 1) := by decide +kernel
theorem dX0_init__33 : decode cX0_init_ 33 = .ok (.getfield 9, 3) := by decide +kernel
theorem dX0_init__36 : decode cX0_init_ 36 = .ok (.imul, 1) := by decide +kernel
theorem dX0_init__37 : decode cX0_init_ 37 = .ok (.newarray .int, 2) := by decide +kernel
theorem dX0_init__39 : decode cX0_init_ 39 = .ok (.putfield 18, 3) := by decide +kernel
theorem dX0_init__42 : decode cX0_init_ 42 = .ok (.aload_n 0, 1) := by decide +kernel
theorem dX0_init__43 : decode cX0_init_ 43 = .ok (.aload_n 0, 1) := by decide +kernel
theorem dX0_init__44 : decode cX0_init_ 44 = .ok (.getfield 15, 3) := by decide +kernel
theorem dX0_init__47 : decode cX0_init_ 47 = .ok (.newarray .int, 2) := by decide +kernel
theorem dX0_init__49 : decode cX0_init_ 49 = .ok (.putfield 22, 3) := by decide +kernel
theorem dX0_init__52 : decode cX0_init_ 52 = .ok (.aload_n 0, 1) := by decide +kernel
theorem dX0_init__53 : decode cX0_init_ 53 = .ok (.aload_n 0, 1) := by decide +kernel
theorem dX0_init__54 : decode cX0_init_ 54 = .ok (.getfield 15, 3) := by decide +kernel
theorem dX0_init__57 : decode cX0_init_ 57 = .ok (.newarray .int, 2) := by decide +kernel
theorem dX0_init__59 : decode cX0_init_ 59 = .ok (.putfield 25, 3) := by decide +kernel
theorem dX0_init__62 : decode cX0_init_ 62 = .ok (.iconst 0, 1) := by decide +kernel
theorem dX0_init__63 : decode cX0_init_ 63 = .ok (.istore_n 2, 1) := by decide +kernel
theorem dX0_init__64 : decode cX0_init_ 64 = .ok (.iload_n 2, 1) := by decide +kernel
theorem dX0_init__65 : decode cX0_init_ 65 = .ok (.aload_n 1, 1) := by decide +kernel
theorem dX0_init__66 : decode cX0_init_ 66 = .ok (.getfield 15, 3) := by decide +kernel
theorem dX0_init__69 : decode cX0_init_ 69 = .ok (.if_icmp .ge 96, 3) := by decide +kernel
theorem dX0_init__72 : decode cX0_init_ 72 = .ok (.iconst 0, 1) := by decide +kernel
theorem dX0_init__73 : decode cX0_init_ 73 = .ok (.istore_n 3, 1) := by decide +kernel
theorem dX0_init__74 : decode cX0_init_ 74 = .ok (.iload_n 3, 1) := by decide +kernel
theorem dX0_init__75 : decode cX0_init_ 75 = .ok (.aload_n 0, 1) := by decide +kernel
theorem dX0_init__76 : decode cX0_init_ 76 = .ok (.getfield 9, 3) := by decide +kernel
theorem dX0_init__79 : decode cX0_init_ 79 = .ok (.if_icmp .ge 80, 3) := by decide +kernel
theorem dX0_init__82 : decode cX0_init_ 82 = .ok (.iload_n 2, 1) := by decide +kernel
theorem dX0_init__83 : decode cX0_init_ 83 = .ok (.aload_n 0, 1) := by decide +kernel
theorem dX0_init__84 : decode cX0_init_ 84 = .ok (.getfield 9, 3) := by decide +kernel
theorem dX0_init__87 : decode cX0_init_ 87 = .ok (.imul, 1) := by decide +kernel
theorem dX0_init__88 : decode cX0_init_ 88 = .ok (.iload_n 3, 1) := by decide +kernel
theorem dX0_init__89 : decode cX0_init_ 89 = .ok (.iadd, 1) := by decide +kernel
theorem dX0_init__90 : decode cX0_init_ 90 = .ok (.istore 4, 2) := by decide +kernel
theorem dX0_init__92 : decode cX0_init_ 92 = .ok (.aload_n 0, 1) := by decide +kernel
theorem dX0_init__93 : decode cX0_init_ 93 = .ok (.aload_n 1, 1) := by decide +kernel
theorem dX0_init__94 : decode cX0_init_ 94 = .ok (.iload_n 2, 1) := by decide +kernel
theorem dX0_init__95 : decode cX0_init_ 95 = .ok (.iload 4, 2) := by decide +kernel
theorem dX0_init__97 : decode cX0_init_ 97 = .ok (.iload_n 2, 1) := by decide +kernel
theorem dX0_init__98 : decode cX0_init_ 98 = .ok (.iconst 2, 1) := by decide +kernel
theorem dX0_init__99 : decode cX0_init_ 99 = .ok (.irem, 1) := by decide +kernel
theorem dX0_init__100 : decode cX0_init_ 100 = .ok (.ifCond .ne 14, 3) := by decide +kernel
theorem dX0_init__103 : decode cX0_init_ 103 = .ok (.aload_n 0, 1) := by decide +kernel
theorem dX0_init__104 : decode cX0_init_ 104 = .ok (.getfield 9, 3) := by decide +kernel
theorem dX0_init__107 : decode cX0_init_ 107 = .ok (.iconst 1, 1) := by decide +kernel
theorem dX0_init__108 : decode cX0_init_ 108 = .ok (.isub, 1) := by decide +kernel
theorem dX0_init__109 : decode cX0_init_ 109 = .ok (.iload_n 3, 1) := by decide +kernel
theorem dX0_init__110 : decode cX0_init_ 110 = .ok (.isub, 1) := by decide +kernel
theorem dX0_init__111 : decode cX0_init_ 111 = .ok (.goto 4, 3) := by decide +kernel
theorem dX0_init__114 : decode cX0_init_ 114 = .ok (.iload_n 3, 1) := by decide +kernel
theorem dX0_init__115 : decode cX0_init_ 115 = .ok (.invokevirtual 28, 3) := by decide +kernel
theorem dX0_init__118 : decode cX0_init_ 118 = .ok (.aload_n 0, 1) := by decide +kernel
theorem dX0_init__119 : decode cX0_init_ 119 = .ok (.getfield 22, 3) := by decide +kernel
theorem dX0_init__122 : decode cX0_init_ 122 = .ok (.iload 4, 2) := by decide +kernel
theorem dX0_init__124 : decode cX0_init_ 124 = .ok (.iload 4, 2) := by decide +kernel
theorem dX0_init__126 : decode cX0_init_ 126 = .ok (.ifCond .ne 7, 3) := by decide +kernel
theorem dX0_init__129 : decode cX0_init_ 129 = .ok (.iconst 0, 1) := by decide +kernel
theorem dX0_init__130 : decode cX0_init_ 130 = .ok (.goto 9, 3) := by decide +kernel
theorem dX0_init__133 : decode cX0_init_ 133 = .ok (.aload_n 0, 1) := by decide +kernel
theorem dX0_init__134 : decode cX0_init_ 134 = .ok (.iload 4, 2) := by decide +kernel
theorem dX0_init__136 : decode cX0_init_ 136 = .ok (.invokevirtual 32, 3) := by decide +kernel
theorem dX0_init__139 : decode cX0_init_ 139 = .ok (.iastore, 1) := by decide +kernel
theorem dX0_init__140 : decode cX0_init_ 140 = .ok (.aload_n 0, 1) := by decide +kernel
theorem dX0_init__141 : decode cX0_init_ 141 = .ok (.getfield 25, 3) := by decide +kernel
theorem dX0_init__144 : decode cX0_init_ 144 = .ok (.iload 4, 2) := by decide +kernel
theorem dX0_init__146 : decode cX0_init_ 146 = .ok (.aload_n 0, 1) := by decide +kernel
theorem dX0_init__147 : decode cX0_init_ 147 = .ok (.iload 4, 2) := by decide +kernel
theorem dX0_init__149 : decode cX0_init_ 149 = .ok (.invokevirtual 36, 3) := by decide +kernel
theorem dX0_init__152 : decode cX0_init_ 152 = .ok (.iastore, 1) := by decide +kernel
theorem dX0_init__153 : decode cX0_init_ 153 = .ok (.iinc 3 1, 3) := by decide +kernel
theorem dX0_init__156 : decode cX0_init_ 156 = .ok (.goto (-82), 3) := by decide +kernel
theorem dX0_init__159 : decode cX0_init_ 159 = .ok (.iinc 2 1, 3) := by decide +kernel
theorem dX0_init__162 : decode cX0_init_ 162 = .ok (.goto (-98), 3) := by decide +kernel
theorem dX0_init__165 : decode cX0_init_ 165 = .ok (.return_, 1) := by decide +kernel
theorem dX0_number_0 : decode cX0_number 0 = .ok (.aload_n 0, 1) := by decide +kernel
theorem dX0_number_1 : decode cX0_number 1 = .ok (.getfield 15, 3) := by decide +kernel
theorem dX0_number_4 : decode cX0_number 4 = .ok (.ireturn, 1) := by decide +kernel
theorem dX0_thingAt_0 : decode cX0_thingAt 0 = .ok (.aload_n 0, 1) := by decide +kernel
theorem dX0_thingAt_1 : decode cX0_thingAt 1 = .ok (.getfield 18, 3) := by decide +kernel
theorem dX0_thingAt_4 : decode cX0_thingAt 4 = .ok (.iload_n 1, 1) := by decide +kernel
theorem dX0_thingAt_5 : decode cX0_thingAt 5 = .ok (.aload_n 0, 1) := by decide +kernel
theorem dX0_thingAt_6 : decode cX0_thingAt 6 = .ok (.getfield 9, 3) := by decide +kernel
theorem dX0_thingAt_9 : decode cX0_thingAt 9 = .ok (.imul, 1) := by decide +kernel
theorem dX0_thingAt_10 : decode cX0_thingAt 10 = .ok (.iload_n 2, 1) := by decide +kernel
theorem dX0_thingAt_11 : decode cX0_thingAt 11 = .ok (.iadd, 1) := by decide +kernel
theorem dX0_thingAt_12 : decode cX0_thingAt 12 = .ok (.iaload, 1) := by decide +kernel
theorem dX0_thingAt_13 : decode cX0_thingAt 13 = .ok (.ireturn, 1) := by decide +kernel
theorem dX0_exchanged_0 : decode cX0_exchanged 0 = .ok (.aload_n 0, 1) := by decide +kernel
theorem dX0_exchanged_1 : decode cX0_exchanged 1 = .ok (.getfield 22, 3) := by decide +kernel
theorem dX0_exchanged_4 : decode cX0_exchanged 4 = .ok (.areturn, 1) := by decide +kernel
theorem dX0_rankAt_0 : decode cX0_rankAt 0 = .ok (.aload_n 0, 1) := by decide +kernel
theorem dX0_rankAt_1 : decode cX0_rankAt 1 = .ok (.getfield 25, 3) := by decide +kernel
theorem dX0_rankAt_4 : decode cX0_rankAt 4 = .ok (.iload_n 1, 1) := by decide +kernel
theorem dX0_rankAt_5 : decode cX0_rankAt 5 = .ok (.iaload, 1) := by decide +kernel
theorem dX0_rankAt_6 : decode cX0_rankAt 6 = .ok (.ireturn, 1) := by decide +kernel
theorem dX0_insert_0 : decode cX0_insert 0 = .ok (.iconst 0, 1) := by decide +kernel
theorem dX0_insert_1 : decode cX0_insert 1 = .ok (.istore 5, 2) := by decide +kernel
theorem dX0_insert_3 : decode cX0_insert 3 = .ok (.iload 5, 2) := by decide +kernel
theorem dX0_insert_5 : decode cX0_insert 5 = .ok (.aload_n 0, 1) := by decide +kernel
theorem dX0_insert_6 : decode cX0_insert 6 = .ok (.getfield 9, 3) := by decide +kernel
theorem dX0_insert_9 : decode cX0_insert 9 = .ok (.if_icmp .ge 63, 3) := by decide +kernel
theorem dX0_insert_12 : decode cX0_insert 12 = .ok (.aload_n 0, 1) := by decide +kernel
theorem dX0_insert_13 : decode cX0_insert 13 = .ok (.getfield 9, 3) := by decide +kernel
theorem dX0_insert_16 : decode cX0_insert 16 = .ok (.iconst 1, 1) := by decide +kernel
theorem dX0_insert_17 : decode cX0_insert 17 = .ok (.isub, 1) := by decide +kernel
theorem dX0_insert_18 : decode cX0_insert 18 = .ok (.istore 6, 2) := by decide +kernel
theorem dX0_insert_20 : decode cX0_insert 20 = .ok (.iload 5, 2) := by decide +kernel
theorem dX0_insert_22 : decode cX0_insert 22 = .ok (.iload 4, 2) := by decide +kernel
theorem dX0_insert_24 : decode cX0_insert 24 = .ok (.if_icmp .eq 26, 3) := by decide +kernel
theorem dX0_insert_27 : decode cX0_insert 27 = .ok (.aload_n 1, 1) := by decide +kernel
theorem dX0_insert_28 : decode cX0_insert 28 = .ok (.iload_n 2, 1) := by decide +kernel
theorem dX0_insert_29 : decode cX0_insert 29 = .ok (.iload 5, 2) := by decide +kernel
theorem dX0_insert_31 : decode cX0_insert 31 = .ok (.iload 4, 2) := by decide +kernel
theorem dX0_insert_33 : decode cX0_insert 33 = .ok (.if_icmp .ge 8, 3) := by decide +kernel
theorem dX0_insert_36 : decode cX0_insert 36 = .ok (.iload 5, 2) := by decide +kernel
theorem dX0_insert_38 : decode cX0_insert 38 = .ok (.goto 7, 3) := by decide +kernel
theorem dX0_insert_41 : decode cX0_insert 41 = .ok (.iload 5, 2) := by decide +kernel
theorem dX0_insert_43 : decode cX0_insert 43 = .ok (.iconst 1, 1) := by decide +kernel
theorem dX0_insert_44 : decode cX0_insert 44 = .ok (.isub, 1) := by decide +kernel
theorem dX0_insert_45 : decode cX0_insert 45 = .ok (.invokevirtual 39, 3) := by decide +kernel
theorem dX0_insert_48 : decode cX0_insert 48 = .ok (.istore 6, 2) := by decide +kernel
theorem dX0_insert_50 : decode cX0_insert 50 = .ok (.aload_n 0, 1) := by decide +kernel
theorem dX0_insert_51 : decode cX0_insert 51 = .ok (.getfield 18, 3) := by decide +kernel
theorem dX0_insert_54 : decode cX0_insert 54 = .ok (.iload_n 3, 1) := by decide +kernel
theorem dX0_insert_55 : decode cX0_insert 55 = .ok (.aload_n 0, 1) := by decide +kernel
theorem dX0_insert_56 : decode cX0_insert 56 = .ok (.getfield 9, 3) := by decide +kernel
theorem dX0_insert_59 : decode cX0_insert 59 = .ok (.imul, 1) := by decide +kernel
theorem dX0_insert_60 : decode cX0_insert 60 = .ok (.iload 5, 2) := by decide +kernel
theorem dX0_insert_62 : decode cX0_insert 62 = .ok (.iadd, 1) := by decide +kernel
theorem dX0_insert_63 : decode cX0_insert 63 = .ok (.iload 6, 2) := by decide +kernel
theorem dX0_insert_65 : decode cX0_insert 65 = .ok (.iastore, 1) := by decide +kernel
theorem dX0_insert_66 : decode cX0_insert 66 = .ok (.iinc 5 1, 3) := by decide +kernel
theorem dX0_insert_69 : decode cX0_insert 69 = .ok (.goto (-66), 3) := by decide +kernel
theorem dX0_insert_72 : decode cX0_insert 72 = .ok (.return_, 1) := by decide +kernel
theorem dX0_exchangeBefore_0 : decode cX0_exchangeBefore 0 = .ok (.iconst 0, 1) := by decide +kernel
theorem dX0_exchangeBefore_1 : decode cX0_exchangeBefore 1 = .ok (.istore_n 2, 1) := by decide +kernel
theorem dX0_exchangeBefore_2 : decode cX0_exchangeBefore 2 = .ok (.iload_n 2, 1) := by decide +kernel
theorem dX0_exchangeBefore_3 : decode cX0_exchangeBefore 3 = .ok (.aload_n 0, 1) := by decide +kernel
theorem dX0_exchangeBefore_4 : decode cX0_exchangeBefore 4 = .ok (.getfield 9, 3) := by decide +kernel
theorem dX0_exchangeBefore_7 : decode cX0_exchangeBefore 7 = .ok (.iconst 1, 1) := by decide +kernel
theorem dX0_exchangeBefore_8 : decode cX0_exchangeBefore 8 = .ok (.isub, 1) := by decide +kernel
theorem dX0_exchangeBefore_9 : decode cX0_exchangeBefore 9 = .ok (.if_icmp .ge 44, 3) := by decide +kernel
theorem dX0_exchangeBefore_12 : decode cX0_exchangeBefore 12 = .ok (.aload_n 0, 1) := by decide +kernel
theorem dX0_exchangeBefore_13 : decode cX0_exchangeBefore 13 = .ok (.iload_n 1, 1) := by decide +kernel
theorem dX0_exchangeBefore_14 : decode cX0_exchangeBefore 14 = .ok (.iconst 1, 1) := by decide +kernel
theorem dX0_exchangeBefore_15 : decode cX0_exchangeBefore 15 = .ok (.isub, 1) := by decide +kernel
theorem dX0_exchangeBefore_16 : decode cX0_exchangeBefore 16 = .ok (.iload_n 2, 1) := by decide +kernel
theorem dX0_exchangeBefore_17 : decode cX0_exchangeBefore 17 = .ok (.invokevirtual 39, 3) := by decide +kernel
theorem dX0_exchangeBefore_20 : decode cX0_exchangeBefore 20 = .ok (.aload_n 0, 1) := by decide +kernel
theorem dX0_exchangeBefore_21 : decode cX0_exchangeBefore 21 = .ok (.iload_n 1, 1) := by decide +kernel
theorem dX0_exchangeBefore_22 : decode cX0_exchangeBefore 22 = .ok (.iload_n 2, 1) := by decide +kernel
theorem dX0_exchangeBefore_23 : decode cX0_exchangeBefore 23 = .ok (.invokevirtual 39, 3) := by decide +kernel
theorem dX0_exchangeBefore_26 : decode cX0_exchangeBefore 26 = .ok (.if_icmp .eq 21, 3) := by decide +kernel
theorem dX0_exchangeBefore_29 : decode cX0_exchangeBefore 29 = .ok (.aload_n 0, 1) := by decide +kernel
theorem dX0_exchangeBefore_30 : decode cX0_exchangeBefore 30 = .ok (.iload_n 1, 1) := by decide +kernel
theorem dX0_exchangeBefore_31 : decode cX0_exchangeBefore 31 = .ok (.iconst 1, 1) := by decide +kernel
theorem dX0_exchangeBefore_32 : decode cX0_exchangeBefore 32 = .ok (.isub, 1) := by decide +kernel
theorem dX0_exchangeBefore_33 : decode cX0_exchangeBefore 33 = .ok (.iload_n 2, 1) := by decide +kernel
theorem dX0_exchangeBefore_34 : decode cX0_exchangeBefore 34 = .ok (.invokevirtual 39, 3) := by decide +kernel
theorem dX0_exchangeBefore_37 : decode cX0_exchangeBefore 37 = .ok (.aload_n 0, 1) := by decide +kernel
theorem dX0_exchangeBefore_38 : decode cX0_exchangeBefore 38 = .ok (.iload_n 1, 1) := by decide +kernel
theorem dX0_exchangeBefore_39 : decode cX0_exchangeBefore 39 = .ok (.iload_n 2, 1) := by decide +kernel
theorem dX0_exchangeBefore_40 : decode cX0_exchangeBefore 40 = .ok (.invokevirtual 39, 3) := by decide +kernel
theorem dX0_exchangeBefore_43 : decode cX0_exchangeBefore 43 = .ok (.invokestatic 43, 3) := by decide +kernel
theorem dX0_exchangeBefore_46 : decode cX0_exchangeBefore 46 = .ok (.ireturn, 1) := by decide +kernel
theorem dX0_exchangeBefore_47 : decode cX0_exchangeBefore 47 = .ok (.iinc 2 1, 3) := by decide +kernel
theorem dX0_exchangeBefore_50 : decode cX0_exchangeBefore 50 = .ok (.goto (-48), 3) := by decide +kernel
theorem dX0_exchangeBefore_53 : decode cX0_exchangeBefore 53 = .ok (.iconst 0, 1) := by decide +kernel
theorem dX0_exchangeBefore_54 : decode cX0_exchangeBefore 54 = .ok (.ireturn, 1) := by decide +kernel
theorem dX0_rankOf_0 : decode cX0_rankOf 0 = .ok (.iconst 0, 1) := by decide +kernel
theorem dX0_rankOf_1 : decode cX0_rankOf 1 = .ok (.istore_n 2, 1) := by decide +kernel
theorem dX0_rankOf_2 : decode cX0_rankOf 2 = .ok (.iconst 0, 1) := by decide +kernel
theorem dX0_rankOf_3 : decode cX0_rankOf 3 = .ok (.istore_n 3, 1) := by decide +kernel
theorem dX0_rankOf_4 : decode cX0_rankOf 4 = .ok (.iload_n 3, 1) := by decide +kernel
theorem dX0_rankOf_5 : decode cX0_rankOf 5 = .ok (.aload_n 0, 1) := by decide +kernel
theorem dX0_rankOf_6 : decode cX0_rankOf 6 = .ok (.getfield 9, 3) := by decide +kernel
theorem dX0_rankOf_9 : decode cX0_rankOf 9 = .ok (.if_icmp .ge 20, 3) := by decide +kernel
theorem dX0_rankOf_12 : decode cX0_rankOf 12 = .ok (.iload_n 2, 1) := by decide +kernel
theorem dX0_rankOf_13 : decode cX0_rankOf 13 = .ok (.iconst 5, 1) := by decide +kernel
theorem dX0_rankOf_14 : decode cX0_rankOf 14 = .ok (.imul, 1) := by decide +kernel
theorem dX0_rankOf_15 : decode cX0_rankOf 15 = .ok (.aload_n 0, 1) := by decide +kernel
theorem dX0_rankOf_16 : decode cX0_rankOf 16 = .ok (.iload_n 1, 1) := by decide +kernel
theorem dX0_rankOf_17 : decode cX0_rankOf 17 = .ok (.iload_n 3, 1) := by decide +kernel
theorem dX0_rankOf_18 : decode cX0_rankOf 18 = .ok (.invokevirtual 39, 3) := by decide +kernel
theorem dX0_rankOf_21 : decode cX0_rankOf 21 = .ok (.iadd, 1) := by decide +kernel
theorem dX0_rankOf_22 : decode cX0_rankOf 22 = .ok (.istore_n 2, 1) := by decide +kernel
theorem dX0_rankOf_23 : decode cX0_rankOf 23 = .ok (.iinc 3 1, 3) := by decide +kernel
theorem dX0_rankOf_26 : decode cX0_rankOf 26 = .ok (.goto (-22), 3) := by decide +kernel
theorem dX0_rankOf_29 : decode cX0_rankOf 29 = .ok (.iload_n 2, 1) := by decide +kernel
theorem dX0_rankOf_30 : decode cX0_rankOf 30 = .ok (.ireturn, 1) := by decide +kernel
theorem dX1_init_0 : decode cX1_init 0 = .ok (.aload_n 0, 1) := by decide +kernel
theorem dX1_init_1 : decode cX1_init 1 = .ok (.invokespecial 3, 3) := by decide +kernel
theorem dX1_init_4 : decode cX1_init 4 = .ok (.aload_n 0, 1) := by decide +kernel
theorem dX1_init_5 : decode cX1_init 5 = .ok (.aload_n 1, 1) := by decide +kernel
theorem dX1_init_6 : decode cX1_init 6 = .ok (.putfield 9, 3) := by decide +kernel
theorem dX1_init_9 : decode cX1_init 9 = .ok (.aload_n 0, 1) := by decide +kernel
theorem dX1_init_10 : decode cX1_init 10 = .ok (.aload_n 2, 1) := by decide +kernel
theorem dX1_init_11 : decode cX1_init 11 = .ok (.putfield 15, 3) := by decide +kernel
theorem dX1_init_14 : decode cX1_init 14 = .ok (.return_, 1) := by decide +kernel
theorem dX1_sizeOf_0 : decode cX1_sizeOf 0 = .ok (.iload_n 1, 1) := by decide +kernel
theorem dX1_sizeOf_1 : decode cX1_sizeOf 1 = .ok (.invokestatic 19, 3) := by decide +kernel
theorem dX1_sizeOf_4 : decode cX1_sizeOf 4 = .ok (.ifCond .ne 24, 3) := by decide +kernel
theorem dX1_sizeOf_7 : decode cX1_sizeOf 7 = .ok (.iload_n 1, 1) := by decide +kernel
theorem dX1_sizeOf_8 : decode cX1_sizeOf 8 = .ok (.bipush 100, 2) := by decide +kernel
theorem dX1_sizeOf_10 : decode cX1_sizeOf 10 = .ok (.isub, 1) := by decide +kernel
theorem dX1_sizeOf_11 : decode cX1_sizeOf 11 = .ok (.istore_n 2, 1) := by decide +kernel
theorem dX1_sizeOf_12 : decode cX1_sizeOf 12 = .ok (.aload_n 0, 1) := by decide +kernel
theorem dX1_sizeOf_13 : decode cX1_sizeOf 13 = .ok (.getfield 9, 3) := by decide +kernel
theorem dX1_sizeOf_16 : decode cX1_sizeOf 16 = .ok (.iload_n 2, 1) := by decide +kernel
theorem dX1_sizeOf_17 : decode cX1_sizeOf 17 = .ok (.bipush 10, 2) := by decide +kernel
theorem dX1_sizeOf_19 : decode cX1_sizeOf 19 = .ok (.idiv, 1) := by decide +kernel
theorem dX1_sizeOf_20 : decode cX1_sizeOf 20 = .ok (.iload_n 2, 1) := by decide +kernel
theorem dX1_sizeOf_21 : decode cX1_sizeOf 21 = .ok (.bipush 10, 2) := by decide +kernel
theorem dX1_sizeOf_23 : decode cX1_sizeOf 23 = .ok (.irem, 1) := by decide +kernel
theorem dX1_sizeOf_24 : decode cX1_sizeOf 24 = .ok (.invokevirtual 23, 3) := by decide +kernel
theorem dX1_sizeOf_27 : decode cX1_sizeOf 27 = .ok (.ireturn, 1) := by decide +kernel
theorem dX1_sizeOf_28 : decode cX1_sizeOf 28 = .ok (.iconst 0, 1) := by decide +kernel
theorem dX1_sizeOf_29 : decode cX1_sizeOf 29 = .ok (.istore_n 2, 1) := by decide +kernel
theorem dX1_sizeOf_30 : decode cX1_sizeOf 30 = .ok (.iconst 0, 1) := by decide +kernel
theorem dX1_sizeOf_31 : decode cX1_sizeOf 31 = .ok (.istore_n 3, 1) := by decide +kernel
theorem dX1_sizeOf_32 : decode cX1_sizeOf 32 = .ok (.iconst 0, 1) := by decide +kernel
theorem dX1_sizeOf_33 : decode cX1_sizeOf 33 = .ok (.istore 4, 2) := by decide +kernel
theorem dX1_sizeOf_35 : decode cX1_sizeOf 35 = .ok (.iload 4, 2) := by decide +kernel
theorem dX1_sizeOf_37 : decode cX1_sizeOf 37 = .ok (.bipush 10, 2) := by decide +kernel
theorem dX1_sizeOf_39 : decode cX1_sizeOf 39 = .ok (.if_icmp .ge 35, 3) := by decide +kernel
theorem dX1_sizeOf_42 : decode cX1_sizeOf 42 = .ok (.iload_n 2, 1) := by decide +kernel
theorem dX1_sizeOf_43 : decode cX1_sizeOf 43 = .ok (.aload_n 0, 1) := by decide +kernel
theorem dX1_sizeOf_44 : decode cX1_sizeOf 44 = .ok (.getfield 9, 3) := by decide +kernel
theorem dX1_sizeOf_47 : decode cX1_sizeOf 47 = .ok (.iload 4, 2) := by decide +kernel
theorem dX1_sizeOf_49 : decode cX1_sizeOf 49 = .ok (.iload_n 1, 1) := by decide +kernel
theorem dX1_sizeOf_50 : decode cX1_sizeOf 50 = .ok (.invokevirtual 23, 3) := by decide +kernel
theorem dX1_sizeOf_53 : decode cX1_sizeOf 53 = .ok (.iadd, 1) := by decide +kernel
theorem dX1_sizeOf_54 : decode cX1_sizeOf 54 = .ok (.istore_n 2, 1) := by decide +kernel
theorem dX1_sizeOf_55 : decode cX1_sizeOf 55 = .ok (.iload_n 3, 1) := by decide +kernel
theorem dX1_sizeOf_56 : decode cX1_sizeOf 56 = .ok (.aload_n 0, 1) := by decide +kernel
theorem dX1_sizeOf_57 : decode cX1_sizeOf 57 = .ok (.getfield 9, 3) := by decide +kernel
theorem dX1_sizeOf_60 : decode cX1_sizeOf 60 = .ok (.iload_n 1, 1) := by decide +kernel
theorem dX1_sizeOf_61 : decode cX1_sizeOf 61 = .ok (.iload 4, 2) := by decide +kernel
theorem dX1_sizeOf_63 : decode cX1_sizeOf 63 = .ok (.invokevirtual 23, 3) := by decide +kernel
theorem dX1_sizeOf_66 : decode cX1_sizeOf 66 = .ok (.iadd, 1) := by decide +kernel
theorem dX1_sizeOf_67 : decode cX1_sizeOf 67 = .ok (.istore_n 3, 1) := by decide +kernel
theorem dX1_sizeOf_68 : decode cX1_sizeOf 68 = .ok (.iinc 4 1, 3) := by decide +kernel
theorem dX1_sizeOf_71 : decode cX1_sizeOf 71 = .ok (.goto (-36), 3) := by decide +kernel
theorem dX1_sizeOf_74 : decode cX1_sizeOf 74 = .ok (.iconst 1, 1) := by decide +kernel
theorem dX1_sizeOf_75 : decode cX1_sizeOf 75 = .ok (.iload_n 2, 1) := by decide +kernel
theorem dX1_sizeOf_76 : decode cX1_sizeOf 76 = .ok (.iload_n 3, 1) := by decide +kernel
theorem dX1_sizeOf_77 : decode cX1_sizeOf 77 = .ok (.invokestatic 29, 3) := by decide +kernel
theorem dX1_sizeOf_80 : decode cX1_sizeOf 80 = .ok (.invokestatic 29, 3) := by decide +kernel
theorem dX1_sizeOf_83 : decode cX1_sizeOf 83 = .ok (.ireturn, 1) := by decide +kernel
theorem dX1_topOf_0 : decode cX1_topOf 0 = .ok (.aload_n 0, 1) := by decide +kernel
theorem dX1_topOf_1 : decode cX1_topOf 1 = .ok (.getfield 15, 3) := by decide +kernel
theorem dX1_topOf_4 : decode cX1_topOf 4 = .ok (.iload_n 1, 1) := by decide +kernel
theorem dX1_topOf_5 : decode cX1_topOf 5 = .ok (.iload_n 2, 1) := by decide +kernel
theorem dX1_topOf_6 : decode cX1_topOf 6 = .ok (.invokevirtual 34, 3) := by decide +kernel
theorem dX1_topOf_9 : decode cX1_topOf 9 = .ok (.istore 4, 2) := by decide +kernel
theorem dX1_topOf_11 : decode cX1_topOf 11 = .ok (.iconst 0, 1) := by decide +kernel
theorem dX1_topOf_12 : decode cX1_topOf 12 = .ok (.istore 5, 2) := by decide +kernel
theorem dX1_topOf_14 : decode cX1_topOf 14 = .ok (.iconst 0, 1) := by decide +kernel
theorem dX1_topOf_15 : decode cX1_topOf 15 = .ok (.istore 6, 2) := by decide +kernel
theorem dX1_topOf_17 : decode cX1_topOf 17 = .ok (.iload 6, 2) := by decide +kernel
theorem dX1_topOf_19 : decode cX1_topOf 19 = .ok (.iload 4, 2) := by decide +kernel
theorem dX1_topOf_21 : decode cX1_topOf 21 = .ok (.if_icmp .ge 30, 3) := by decide +kernel
theorem dX1_topOf_24 : decode cX1_topOf 24 = .ok (.iload 5, 2) := by decide +kernel
theorem dX1_topOf_26 : decode cX1_topOf 26 = .ok (.aload_n 0, 1) := by decide +kernel
theorem dX1_topOf_27 : decode cX1_topOf 27 = .ok (.aload_n 0, 1) := by decide +kernel
theorem dX1_topOf_28 : decode cX1_topOf 28 = .ok (.getfield 15, 3) := by decide +kernel
theorem dX1_topOf_31 : decode cX1_topOf 31 = .ok (.iload_n 1, 1) := by decide +kernel
theorem dX1_topOf_32 : decode cX1_topOf 32 = .ok (.iload 6, 2) := by decide +kernel
theorem dX1_topOf_34 : decode cX1_topOf 34 = .ok (.invokevirtual 39, 3) := by decide +kernel
theorem dX1_topOf_37 : decode cX1_topOf 37 = .ok (.invokevirtual 42, 3) := by decide +kernel
theorem dX1_topOf_40 : decode cX1_topOf 40 = .ok (.iload_n 3, 1) := by decide +kernel
theorem dX1_topOf_41 : decode cX1_topOf 41 = .ok (.iadd, 1) := by decide +kernel
theorem dX1_topOf_42 : decode cX1_topOf 42 = .ok (.iadd, 1) := by decide +kernel
theorem dX1_topOf_43 : decode cX1_topOf 43 = .ok (.istore 5, 2) := by decide +kernel
theorem dX1_topOf_45 : decode cX1_topOf 45 = .ok (.iinc 6 1, 3) := by decide +kernel
theorem dX1_topOf_48 : decode cX1_topOf 48 = .ok (.goto (-31), 3) := by decide +kernel
theorem dX1_topOf_51 : decode cX1_topOf 51 = .ok (.iload 5, 2) := by decide +kernel
theorem dX1_topOf_53 : decode cX1_topOf 53 = .ok (.ireturn, 1) := by decide +kernel
theorem dX1_endOf_0 : decode cX1_endOf 0 = .ok (.iload_n 3, 1) := by decide +kernel
theorem dX1_endOf_1 : decode cX1_endOf 1 = .ok (.aload_n 0, 1) := by decide +kernel
theorem dX1_endOf_2 : decode cX1_endOf 2 = .ok (.getfield 9, 3) := by decide +kernel
theorem dX1_endOf_5 : decode cX1_endOf 5 = .ok (.iload_n 1, 1) := by decide +kernel
theorem dX1_endOf_6 : decode cX1_endOf 6 = .ok (.invokevirtual 46, 3) := by decide +kernel
theorem dX1_endOf_9 : decode cX1_endOf 9 = .ok (.if_icmp .ne 5, 3) := by decide +kernel
theorem dX1_endOf_12 : decode cX1_endOf 12 = .ok (.iconst (-1), 1) := by decide +kernel
theorem dX1_endOf_13 : decode cX1_endOf 13 = .ok (.ireturn, 1) := by decide +kernel
theorem dX1_endOf_14 : decode cX1_endOf 14 = .ok (.aload_n 0, 1) := by decide +kernel
theorem dX1_endOf_15 : decode cX1_endOf 15 = .ok (.iload_n 3, 1) := by decide +kernel
theorem dX1_endOf_16 : decode cX1_endOf 16 = .ok (.aload_n 0, 1) := by decide +kernel
theorem dX1_endOf_17 : decode cX1_endOf 17 = .ok (.getfield 9, 3) := by decide +kernel
theorem dX1_endOf_20 : decode cX1_endOf 20 = .ok (.iload_n 1, 1) := by decide +kernel
theorem dX1_endOf_21 : decode cX1_endOf 21 = .ok (.iload_n 2, 1) := by decide +kernel
theorem dX1_endOf_22 : decode cX1_endOf 22 = .ok (.iload_n 3, 1) := by decide +kernel
theorem dX1_endOf_23 : decode cX1_endOf 23 = .ok (.invokevirtual 49, 3) := by decide +kernel
theorem dX1_endOf_26 : decode cX1_endOf 26 = .ok (.iload 4, 2) := by decide +kernel
theorem dX1_endOf_28 : decode cX1_endOf 28 = .ok (.invokevirtual 53, 3) := by decide +kernel
theorem dX1_endOf_31 : decode cX1_endOf 31 = .ok (.istore 5, 2) := by decide +kernel
theorem dX1_endOf_33 : decode cX1_endOf 33 = .ok (.iload_n 3, 1) := by decide +kernel
theorem dX1_endOf_34 : decode cX1_endOf 34 = .ok (.aload_n 0, 1) := by decide +kernel
theorem dX1_endOf_35 : decode cX1_endOf 35 = .ok (.getfield 9, 3) := by decide +kernel
theorem dX1_endOf_38 : decode cX1_endOf 38 = .ok (.iload_n 2, 1) := by decide +kernel
theorem dX1_endOf_39 : decode cX1_endOf 39 = .ok (.invokevirtual 46, 3) := by decide +kernel
theorem dX1_endOf_42 : decode cX1_endOf 42 = .ok (.if_icmp .eq 6, 3) := by decide +kernel
theorem dX1_endOf_45 : decode cX1_endOf 45 = .ok (.iload 5, 2) := by decide +kernel
theorem dX1_endOf_47 : decode cX1_endOf 47 = .ok (.ireturn, 1) := by decide +kernel
theorem dX1_endOf_48 : decode cX1_endOf 48 = .ok (.aload_n 0, 1) := by decide +kernel
theorem dX1_endOf_49 : decode cX1_endOf 49 = .ok (.getfield 15, 3) := by decide +kernel
theorem dX1_endOf_52 : decode cX1_endOf 52 = .ok (.iload_n 3, 1) := by decide +kernel
theorem dX1_endOf_53 : decode cX1_endOf 53 = .ok (.iconst 1, 1) := by decide +kernel
theorem dX1_endOf_54 : decode cX1_endOf 54 = .ok (.isub, 1) := by decide +kernel
theorem dX1_endOf_55 : decode cX1_endOf 55 = .ok (.aload_n 0, 1) := by decide +kernel
theorem dX1_endOf_56 : decode cX1_endOf 56 = .ok (.getfield 9, 3) := by decide +kernel
theorem dX1_endOf_59 : decode cX1_endOf 59 = .ok (.iload_n 1, 1) := by decide +kernel
theorem dX1_endOf_60 : decode cX1_endOf 60 = .ok (.iload_n 2, 1) := by decide +kernel
theorem dX1_endOf_61 : decode cX1_endOf 61 = .ok (.iload_n 3, 1) := by decide +kernel
theorem dX1_endOf_62 : decode cX1_endOf 62 = .ok (.iconst 1, 1) := by decide +kernel
theorem dX1_endOf_63 : decode cX1_endOf 63 = .ok (.isub, 1) := by decide +kernel
theorem dX1_endOf_64 : decode cX1_endOf 64 = .ok (.invokevirtual 49, 3) := by decide +kernel
theorem dX1_endOf_67 : decode cX1_endOf 67 = .ok (.invokevirtual 34, 3) := by decide +kernel
theorem dX1_endOf_70 : decode cX1_endOf 70 = .ok (.istore 6, 2) := by decide +kernel
theorem dX1_endOf_72 : decode cX1_endOf 72 = .ok (.iconst 0, 1) := by decide +kernel
theorem dX1_endOf_73 : decode cX1_endOf 73 = .ok (.istore 7, 2) := by decide +kernel
theorem dX1_endOf_75 : decode cX1_endOf 75 = .ok (.iload 7, 2) := by decide +kernel
theorem dX1_endOf_77 : decode cX1_endOf 77 = .ok (.bipush 10, 2) := by decide +kernel
theorem dX1_endOf_79 : decode cX1_endOf 79 = .ok (.if_icmp .ge 61, 3) := by decide +kernel
theorem dX1_endOf_82 : decode cX1_endOf 82 = .ok (.aload_n 0, 1) := by decide +kernel
theorem dX1_endOf_83 : decode cX1_endOf 83 = .ok (.getfield 9, 3) := by decide +kernel
theorem dX1_endOf_86 : decode cX1_endOf 86 = .ok (.iload 7, 2) := by decide +kernel
theorem dX1_endOf_88 : decode cX1_endOf 88 = .ok (.iload_n 2, 1) := by decide +kernel
theorem dX1_endOf_89 : decode cX1_endOf 89 = .ok (.invokevirtual 23, 3) := by decide +kernel
theorem dX1_endOf_92 : decode cX1_endOf 92 = .ok (.istore 8, 2) := by decide +kernel
theorem dX1_endOf_94 : decode cX1_endOf 94 = .ok (.iload 8, 2) := by decide +kernel
theorem dX1_endOf_96 : decode cX1_endOf 96 = .ok (.ifCond .le 38, 3) := by decide +kernel
theorem dX1_endOf_99 : decode cX1_endOf 99 = .ok (.aload_n 0, 1) := by decide +kernel
theorem dX1_endOf_100 : decode cX1_endOf 100 = .ok (.getfield 15, 3) := by decide +kernel
theorem dX1_endOf_103 : decode cX1_endOf 103 = .ok (.iload_n 3, 1) := by decide +kernel
theorem dX1_endOf_104 : decode cX1_endOf 104 = .ok (.iconst 1, 1) := by decide +kernel
theorem dX1_endOf_105 : decode cX1_endOf 105 = .ok (.isub, 1) := by decide +kernel
theorem dX1_endOf_106 : decode cX1_endOf 106 = .ok (.aload_n 0, 1) := by decide +kernel
theorem dX1_endOf_107 : decode cX1_endOf 107 = .ok (.getfield 9, 3) := by decide +kernel
theorem dX1_endOf_110 : decode cX1_endOf 110 = .ok (.iload 7, 2) := by decide +kernel
theorem dX1_endOf_112 : decode cX1_endOf 112 = .ok (.iload_n 2, 1) := by decide +kernel
theorem dX1_endOf_113 : decode cX1_endOf 113 = .ok (.iload_n 3, 1) := by decide +kernel
theorem dX1_endOf_114 : decode cX1_endOf 114 = .ok (.iconst 1, 1) := by decide +kernel
theorem dX1_endOf_115 : decode cX1_endOf 115 = .ok (.isub, 1) := by decide +kernel
theorem dX1_endOf_116 : decode cX1_endOf 116 = .ok (.invokevirtual 49, 3) := by decide +kernel
theorem dX1_endOf_119 : decode cX1_endOf 119 = .ok (.invokevirtual 34, 3) := by decide +kernel
theorem dX1_endOf_122 : decode cX1_endOf 122 = .ok (.iload 6, 2) := by decide +kernel
theorem dX1_endOf_124 : decode cX1_endOf 124 = .ok (.if_icmp .ge 10, 3) := by decide +kernel
theorem dX1_endOf_127 : decode cX1_endOf 127 = .ok (.iload 5, 2) := by decide +kernel
theorem dX1_endOf_129 : decode cX1_endOf 129 = .ok (.iload 8, 2) := by decide +kernel
theorem dX1_endOf_131 : decode cX1_endOf 131 = .ok (.iadd, 1) := by decide +kernel
theorem dX1_endOf_132 : decode cX1_endOf 132 = .ok (.istore 5, 2) := by decide +kernel
theorem dX1_endOf_134 : decode cX1_endOf 134 = .ok (.iinc 7 1, 3) := by decide +kernel
theorem dX1_endOf_137 : decode cX1_endOf 137 = .ok (.goto (-62), 3) := by decide +kernel
theorem dX1_endOf_140 : decode cX1_endOf 140 = .ok (.iload 5, 2) := by decide +kernel
theorem dX1_endOf_142 : decode cX1_endOf 142 = .ok (.ireturn, 1) := by decide +kernel
theorem dX1_beginOf_0 : decode cX1_beginOf 0 = .ok (.iload_n 3, 1) := by decide +kernel
theorem dX1_beginOf_1 : decode cX1_beginOf 1 = .ok (.aload_n 0, 1) := by decide +kernel
theorem dX1_beginOf_2 : decode cX1_beginOf 2 = .ok (.getfield 9, 3) := by decide +kernel
theorem dX1_beginOf_5 : decode cX1_beginOf 5 = .ok (.iload_n 2, 1) := by decide +kernel
theorem dX1_beginOf_6 : decode cX1_beginOf 6 = .ok (.invokevirtual 46, 3) := by decide +kernel
theorem dX1_beginOf_9 : decode cX1_beginOf 9 = .ok (.if_icmp .ne 5, 3) := by decide +kernel
theorem dX1_beginOf_12 : decode cX1_beginOf 12 = .ok (.iconst (-1), 1) := by decide +kernel
theorem dX1_beginOf_13 : decode cX1_beginOf 13 = .ok (.ireturn, 1) := by decide +kernel
theorem dX1_beginOf_14 : decode cX1_beginOf 14 = .ok (.aload_n 0, 1) := by decide +kernel
theorem dX1_beginOf_15 : decode cX1_beginOf 15 = .ok (.iload_n 3, 1) := by decide +kernel
theorem dX1_beginOf_16 : decode cX1_beginOf 16 = .ok (.aload_n 0, 1) := by decide +kernel
theorem dX1_beginOf_17 : decode cX1_beginOf 17 = .ok (.getfield 9, 3) := by decide +kernel
theorem dX1_beginOf_20 : decode cX1_beginOf 20 = .ok (.iload_n 1, 1) := by decide +kernel
theorem dX1_beginOf_21 : decode cX1_beginOf 21 = .ok (.iload_n 2, 1) := by decide +kernel
theorem dX1_beginOf_22 : decode cX1_beginOf 22 = .ok (.iload_n 3, 1) := by decide +kernel
theorem dX1_beginOf_23 : decode cX1_beginOf 23 = .ok (.invokevirtual 49, 3) := by decide +kernel
theorem dX1_beginOf_26 : decode cX1_beginOf 26 = .ok (.iload 4, 2) := by decide +kernel
theorem dX1_beginOf_28 : decode cX1_beginOf 28 = .ok (.invokevirtual 53, 3) := by decide +kernel
theorem dX1_beginOf_31 : decode cX1_beginOf 31 = .ok (.istore 5, 2) := by decide +kernel
theorem dX1_beginOf_33 : decode cX1_beginOf 33 = .ok (.iload_n 3, 1) := by decide +kernel
theorem dX1_beginOf_34 : decode cX1_beginOf 34 = .ok (.aload_n 0, 1) := by decide +kernel
theorem dX1_beginOf_35 : decode cX1_beginOf 35 = .ok (.getfield 9, 3) := by decide +kernel
theorem dX1_beginOf_38 : decode cX1_beginOf 38 = .ok (.iload_n 1, 1) := by decide +kernel
theorem dX1_beginOf_39 : decode cX1_beginOf 39 = .ok (.invokevirtual 46, 3) := by decide +kernel
theorem dX1_beginOf_42 : decode cX1_beginOf 42 = .ok (.if_icmp .eq 6, 3) := by decide +kernel
theorem dX1_beginOf_45 : decode cX1_beginOf 45 = .ok (.iload 5, 2) := by decide +kernel
theorem dX1_beginOf_47 : decode cX1_beginOf 47 = .ok (.ireturn, 1) := by decide +kernel
theorem dX1_beginOf_48 : decode cX1_beginOf 48 = .ok (.aload_n 0, 1) := by decide +kernel
theorem dX1_beginOf_49 : decode cX1_beginOf 49 = .ok (.getfield 15, 3) := by decide +kernel
theorem dX1_beginOf_52 : decode cX1_beginOf 52 = .ok (.iload_n 3, 1) := by decide +kernel
theorem dX1_beginOf_53 : decode cX1_beginOf 53 = .ok (.iconst 1, 1) := by decide +kernel
theorem dX1_beginOf_54 : decode cX1_beginOf 54 = .ok (.iadd, 1) := by decide +kernel
theorem dX1_beginOf_55 : decode cX1_beginOf 55 = .ok (.aload_n 0, 1) := by decide +kernel
theorem dX1_beginOf_56 : decode cX1_beginOf 56 = .ok (.getfield 9, 3) := by decide +kernel
theorem dX1_beginOf_59 : decode cX1_beginOf 59 = .ok (.iload_n 1, 1) := by decide +kernel
theorem dX1_beginOf_60 : decode cX1_beginOf 60 = .ok (.iload_n 2, 1) := by decide +kernel
theorem dX1_beginOf_61 : decode cX1_beginOf 61 = .ok (.iload_n 3, 1) := by decide +kernel
theorem dX1_beginOf_62 : decode cX1_beginOf 62 = .ok (.iconst 1, 1) := by decide +kernel
theorem dX1_beginOf_63 : decode cX1_beginOf 63 = .ok (.iadd, 1) := by decide +kernel
theorem dX1_beginOf_64 : decode cX1_beginOf 64 = .ok (.invokevirtual 49, 3) := by decide +kernel
theorem dX1_beginOf_67 : decode cX1_beginOf 67 = .ok (.invokevirtual 34, 3) := by decide +kernel
theorem dX1_beginOf_70 : decode cX1_beginOf 70 = .ok (.istore 6, 2) := by decide +kernel
theorem dX1_beginOf_72 : decode cX1_beginOf 72 = .ok (.iconst 0, 1) := by decide +kernel
theorem dX1_beginOf_73 : decode cX1_beginOf 73 = .ok (.istore 7, 2) := by decide +kernel
theorem dX1_beginOf_75 : decode cX1_beginOf 75 = .ok (.iload 7, 2) := by decide +kernel
theorem dX1_beginOf_77 : decode cX1_beginOf 77 = .ok (.bipush 10, 2) := by decide +kernel
theorem dX1_beginOf_79 : decode cX1_beginOf 79 = .ok (.if_icmp .ge 61, 3) := by decide +kernel
theorem dX1_beginOf_82 : decode cX1_beginOf 82 = .ok (.aload_n 0, 1) := by decide +kernel
theorem dX1_beginOf_83 : decode cX1_beginOf 83 = .ok (.getfield 9, 3) := by decide +kernel
theorem dX1_beginOf_86 : decode cX1_beginOf 86 = .ok (.iload_n 1, 1) := by decide +kernel
theorem dX1_beginOf_87 : decode cX1_beginOf 87 = .ok (.iload 7, 2) := by decide +kernel
theorem dX1_beginOf_89 : decode cX1_beginOf 89 = .ok (.invokevirtual 23, 3) := by decide +kernel
theorem dX1_beginOf_92 : decode cX1_beginOf 92 = .ok (.istore 8, 2) := by decide +kernel
theorem dX1_beginOf_94 : decode cX1_beginOf 94 = .ok (.iload 8, 2) := by decide +kernel
theorem dX1_beginOf_96 : decode cX1_beginOf 96 = .ok (.ifCond .le 38, 3) := by decide +kernel
theorem dX1_beginOf_99 : decode cX1_beginOf 99 = .ok (.aload_n 0, 1) := by decide +kernel
theorem dX1_beginOf_100 : decode cX1_beginOf 100 = .ok (.getfield 15, 3) := by decide +kernel
theorem dX1_beginOf_103 : decode cX1_beginOf 103 = .ok (.iload_n 3, 1) := by decide +kernel
theorem dX1_beginOf_104 : decode cX1_beginOf 104 = .ok (.iconst 1, 1) := by decide +kernel
theorem dX1_beginOf_105 : decode cX1_beginOf 105 = .ok (.iadd, 1) := by decide +kernel
theorem dX1_beginOf_106 : decode cX1_beginOf 106 = .ok (.aload_n 0, 1) := by decide +kernel
theorem dX1_beginOf_107 : decode cX1_beginOf 107 = .ok (.getfield 9, 3) := by decide +kernel
theorem dX1_beginOf_110 : decode cX1_beginOf 110 = .ok (.iload_n 1, 1) := by decide +kernel
theorem dX1_beginOf_111 : decode cX1_beginOf 111 = .ok (.iload 7, 2) := by decide +kernel
theorem dX1_beginOf_113 : decode cX1_beginOf 113 = .ok (.iload_n 3, 1) := by decide +kernel
theorem dX1_beginOf_114 : decode cX1_beginOf 114 = .ok (.iconst 1, 1) := by decide +kernel
theorem dX1_beginOf_115 : decode cX1_beginOf 115 = .ok (.iadd, 1) := by decide +kernel
theorem dX1_beginOf_116 : decode cX1_beginOf 116 = .ok (.invokevirtual 49, 3) := by decide +kernel
theorem dX1_beginOf_119 : decode cX1_beginOf 119 = .ok (.invokevirtual 34, 3) := by decide +kernel
theorem dX1_beginOf_122 : decode cX1_beginOf 122 = .ok (.iload 6, 2) := by decide +kernel
theorem dX1_beginOf_124 : decode cX1_beginOf 124 = .ok (.if_icmp .ge 10, 3) := by decide +kernel
theorem dX1_beginOf_127 : decode cX1_beginOf 127 = .ok (.iload 5, 2) := by decide +kernel
theorem dX1_beginOf_129 : decode cX1_beginOf 129 = .ok (.iload 8, 2) := by decide +kernel
theorem dX1_beginOf_131 : decode cX1_beginOf 131 = .ok (.iadd, 1) := by decide +kernel
theorem dX1_beginOf_132 : decode cX1_beginOf 132 = .ok (.istore 5, 2) := by decide +kernel
theorem dX1_beginOf_134 : decode cX1_beginOf 134 = .ok (.iinc 7 1, 3) := by decide +kernel
theorem dX1_beginOf_137 : decode cX1_beginOf 137 = .ok (.goto (-62), 3) := by decide +kernel
theorem dX1_beginOf_140 : decode cX1_beginOf 140 = .ok (.iload 5, 2) := by decide +kernel
theorem dX1_beginOf_142 : decode cX1_beginOf 142 = .ok (.ireturn, 1) := by decide +kernel
theorem dX2_init_0 : decode cX2_init 0 = .ok (.aload_n 0, 1) := by decide +kernel
theorem dX2_init_1 : decode cX2_init 1 = .ok (.invokespecial 3, 3) := by decide +kernel
theorem dX2_init_4 : decode cX2_init 4 = .ok (.aload_n 0, 1) := by decide +kernel
theorem dX2_init_5 : decode cX2_init 5 = .ok (.bipush 100, 2) := by decide +kernel
theorem dX2_init_7 : decode cX2_init 7 = .ok (.newarray .int, 2) := by decide +kernel
theorem dX2_init_9 : decode cX2_init 9 = .ok (.putfield 9, 3) := by decide +kernel
theorem dX2_init_12 : decode cX2_init 12 = .ok (.aload_n 0, 1) := by decide +kernel
theorem dX2_init_13 : decode cX2_init 13 = .ok (.iconst 0, 1) := by decide +kernel
theorem dX2_init_14 : decode cX2_init 14 = .ok (.putfield 15, 3) := by decide +kernel
theorem dX2_init_17 : decode cX2_init 17 = .ok (.return_, 1) := by decide +kernel
theorem dX2_number_0 : decode cX2_number 0 = .ok (.aload_n 0, 1) := by decide +kernel
theorem dX2_number_1 : decode cX2_number 1 = .ok (.getfield 15, 3) := by decide +kernel
theorem dX2_number_4 : decode cX2_number 4 = .ok (.ireturn, 1) := by decide +kernel
theorem dX2_between_0 : decode cX2_between 0 = .ok (.iload_n 1, 1) := by decide +kernel
theorem dX2_between_1 : decode cX2_between 1 = .ok (.iload_n 2, 1) := by decide +kernel
theorem dX2_between_2 : decode cX2_between 2 = .ok (.invokestatic 19, 3) := by decide +kernel
theorem dX2_between_5 : decode cX2_between 5 = .ok (.ifCond .eq 17, 3) := by decide +kernel
theorem dX2_between_8 : decode cX2_between 8 = .ok (.aload_n 0, 1) := by decide +kernel
theorem dX2_between_9 : decode cX2_between 9 = .ok (.getfield 9, 3) := by decide +kernel
theorem dX2_between_12 : decode cX2_between 12 = .ok (.iload_n 1, 1) := by decide +kernel
theorem dX2_between_13 : decode cX2_between 13 = .ok (.bipush 10, 2) := by decide +kernel
theorem dX2_between_15 : decode cX2_between 15 = .ok (.imul, 1) := by decide +kernel
theorem dX2_between_16 : decode cX2_between 16 = .ok (.iload_n 2, 1) := by decide +kernel
theorem dX2_between_17 : decode cX2_between 17 = .ok (.iadd, 1) := by decide +kernel
theorem dX2_between_18 : decode cX2_between 18 = .ok (.iaload, 1) := by decide +kernel
theorem dX2_between_19 : decode cX2_between 19 = .ok (.goto 4, 3) := by decide +kernel
theorem dX2_between_22 : decode cX2_between 22 = .ok (.iconst 0, 1) := by decide +kernel
theorem dX2_between_23 : decode cX2_between 23 = .ok (.ireturn, 1) := by decide +kernel
theorem dX2_takes_0 : decode cX2_takes 0 = .ok (.iload_n 1, 1) := by decide +kernel
theorem dX2_takes_1 : decode cX2_takes 1 = .ok (.iload_n 2, 1) := by decide +kernel
theorem dX2_takes_2 : decode cX2_takes 2 = .ok (.invokestatic 19, 3) := by decide +kernel
theorem dX2_takes_5 : decode cX2_takes 5 = .ok (.ifCond .eq 18, 3) := by decide +kernel
theorem dX2_takes_8 : decode cX2_takes 8 = .ok (.iload_n 1, 1) := by decide +kernel
theorem dX2_takes_9 : decode cX2_takes 9 = .ok (.iload_n 2, 1) := by decide +kernel
theorem dX2_takes_10 : decode cX2_takes 10 = .ok (.if_icmp .eq 13, 3) := by decide +kernel
theorem dX2_takes_13 : decode cX2_takes 13 = .ok (.iload_n 3, 1) := by decide +kernel
theorem dX2_takes_14 : decode cX2_takes 14 = .ok (.ifCond .lt 9, 3) := by decide +kernel
theorem dX2_takes_17 : decode cX2_takes 17 = .ok (.iload_n 3, 1) := by decide +kernel
theorem dX2_takes_18 : decode cX2_takes 18 = .ok (.bipush 99, 2) := by decide +kernel
theorem dX2_takes_20 : decode cX2_takes 20 = .ok (.if_icmp .le 5, 3) := by decide +kernel
theorem dX2_takes_23 : decode cX2_takes 23 = .ok (.iconst 0, 1) := by decide +kernel
theorem dX2_takes_24 : decode cX2_takes 24 = .ok (.ireturn, 1) := by decide +kernel
theorem dX2_takes_25 : decode cX2_takes 25 = .ok (.iload_n 3, 1) := by decide +kernel
theorem dX2_takes_26 : decode cX2_takes 26 = .ok (.ifCond .eq 21, 3) := by decide +kernel
theorem dX2_takes_29 : decode cX2_takes 29 = .ok (.aload_n 0, 1) := by decide +kernel
theorem dX2_takes_30 : decode cX2_takes 30 = .ok (.iload_n 1, 1) := by decide +kernel
theorem dX2_takes_31 : decode cX2_takes 31 = .ok (.iload_n 2, 1) := by decide +kernel
theorem dX2_takes_32 : decode cX2_takes 32 = .ok (.invokevirtual 23, 3) := by decide +kernel
theorem dX2_takes_35 : decode cX2_takes 35 = .ok (.ifCond .gt 12, 3) := by decide +kernel
theorem dX2_takes_38 : decode cX2_takes 38 = .ok (.aload_n 0, 1) := by decide +kernel
theorem dX2_takes_39 : decode cX2_takes 39 = .ok (.getfield 15, 3) := by decide +kernel
theorem dX2_takes_42 : decode cX2_takes 42 = .ok (.bipush 16, 2) := by decide +kernel
theorem dX2_takes_44 : decode cX2_takes 44 = .ok (.if_icmp .ge 7, 3) := by decide +kernel
theorem dX2_takes_47 : decode cX2_takes 47 = .ok (.iconst 1, 1) := by decide +kernel
theorem dX2_takes_48 : decode cX2_takes 48 = .ok (.goto 4, 3) := by decide +kernel
theorem dX2_takes_51 : decode cX2_takes 51 = .ok (.iconst 0, 1) := by decide +kernel
theorem dX2_takes_52 : decode cX2_takes 52 = .ok (.ireturn, 1) := by decide +kernel
theorem dX2_put_0 : decode cX2_put 0 = .ok (.aload_n 0, 1) := by decide +kernel
theorem dX2_put_1 : decode cX2_put 1 = .ok (.iload_n 1, 1) := by decide +kernel
theorem dX2_put_2 : decode cX2_put 2 = .ok (.iload_n 2, 1) := by decide +kernel
theorem dX2_put_3 : decode cX2_put 3 = .ok (.iload_n 3, 1) := by decide +kernel
theorem dX2_put_4 : decode cX2_put 4 = .ok (.invokevirtual 27, 3) := by decide +kernel
theorem dX2_put_7 : decode cX2_put 7 = .ok (.ifCond .ne 4, 3) := by decide +kernel
theorem dX2_put_10 : decode cX2_put 10 = .ok (.return_, 1) := by decide +kernel
theorem dX2_put_11 : decode cX2_put 11 = .ok (.aload_n 0, 1) := by decide +kernel
theorem dX2_put_12 : decode cX2_put 12 = .ok (.dup, 1) := by decide +kernel
theorem dX2_put_13 : decode cX2_put 13 = .ok (.getfield 15, 3) := by decide +kernel
theorem dX2_put_16 : decode cX2_put 16 = .ok (.iload_n 3, 1) := by decide +kernel
theorem dX2_put_17 : decode cX2_put 17 = .ok (.ifCond .le 7, 3) := by decide +kernel
theorem dX2_put_20 : decode cX2_put 20 = .ok (.iconst 1, 1) := by decide +kernel
theorem dX2_put_21 : decode cX2_put 21 = .ok (.goto 4, 3) := by decide +kernel
theorem dX2_put_24 : decode cX2_put 24 = .ok (.iconst 0, 1) := by decide +kernel
theorem dX2_put_25 : decode cX2_put 25 = .ok (.aload_n 0, 1) := by decide +kernel
theorem dX2_put_26 : decode cX2_put 26 = .ok (.iload_n 1, 1) := by decide +kernel
theorem dX2_put_27 : decode cX2_put 27 = .ok (.iload_n 2, 1) := by decide +kernel
theorem dX2_put_28 : decode cX2_put 28 = .ok (.invokevirtual 23, 3) := by decide +kernel
theorem dX2_put_31 : decode cX2_put 31 = .ok (.ifCond .le 7, 3) := by decide +kernel
theorem dX2_put_34 : decode cX2_put 34 = .ok (.iconst 1, 1) := by decide +kernel
theorem dX2_put_35 : decode cX2_put 35 = .ok (.goto 4, 3) := by decide +kernel
theorem dX2_put_38 : decode cX2_put 38 = .ok (.iconst 0, 1) := by decide +kernel
theorem dX2_put_39 : decode cX2_put 39 = .ok (.isub, 1) := by decide +kernel
theorem dX2_put_40 : decode cX2_put 40 = .ok (.iadd, 1) := by decide +kernel
theorem dX2_put_41 : decode cX2_put 41 = .ok (.putfield 15, 3) := by decide +kernel
theorem dX2_put_44 : decode cX2_put 44 = .ok (.aload_n 0, 1) := by decide +kernel
theorem dX2_put_45 : decode cX2_put 45 = .ok (.getfield 9, 3) := by decide +kernel
theorem dX2_put_48 : decode cX2_put 48 = .ok (.iload_n 1, 1) := by decide +kernel
theorem dX2_put_49 : decode cX2_put 49 = .ok (.bipush 10, 2) := by decide +kernel
theorem dX2_put_51 : decode cX2_put 51 = .ok (.imul, 1) := by decide +kernel
theorem dX2_put_52 : decode cX2_put 52 = .ok (.iload_n 2, 1) := by decide +kernel
theorem dX2_put_53 : decode cX2_put 53 = .ok (.iadd, 1) := by decide +kernel
theorem dX2_put_54 : decode cX2_put 54 = .ok (.iload_n 3, 1) := by decide +kernel
theorem dX2_put_55 : decode cX2_put 55 = .ok (.iastore, 1) := by decide +kernel
theorem dX2_put_56 : decode cX2_put 56 = .ok (.return_, 1) := by decide +kernel
theorem dX2_removeAll_0 : decode cX2_removeAll 0 = .ok (.aload_n 0, 1) := by decide +kernel
theorem dX2_removeAll_1 : decode cX2_removeAll 1 = .ok (.getfield 9, 3) := by decide +kernel
theorem dX2_removeAll_4 : decode cX2_removeAll 4 = .ok (.iconst 0, 1) := by decide +kernel
theorem dX2_removeAll_5 : decode cX2_removeAll 5 = .ok (.invokestatic 31, 3) := by decide +kernel
theorem dX2_removeAll_8 : decode cX2_removeAll 8 = .ok (.aload_n 0, 1) := by decide +kernel
theorem dX2_removeAll_9 : decode cX2_removeAll 9 = .ok (.iconst 0, 1) := by decide +kernel
theorem dX2_removeAll_10 : decode cX2_removeAll 10 = .ok (.putfield 15, 3) := by decide +kernel
theorem dX2_removeAll_13 : decode cX2_removeAll 13 = .ok (.return_, 1) := by decide +kernel
theorem dX2_sum_0 : decode cX2_sum 0 = .ok (.iconst 0, 1) := by decide +kernel
theorem dX2_sum_1 : decode cX2_sum 1 = .ok (.istore_n 1, 1) := by decide +kernel
theorem dX2_sum_2 : decode cX2_sum 2 = .ok (.aload_n 0, 1) := by decide +kernel
theorem dX2_sum_3 : decode cX2_sum 3 = .ok (.getfield 9, 3) := by decide +kernel
theorem dX2_sum_6 : decode cX2_sum 6 = .ok (.astore_n 2, 1) := by decide +kernel
theorem dX2_sum_7 : decode cX2_sum 7 = .ok (.aload_n 2, 1) := by decide +kernel
theorem dX2_sum_8 : decode cX2_sum 8 = .ok (.arraylength, 1) := by decide +kernel
theorem dX2_sum_9 : decode cX2_sum 9 = .ok (.istore_n 3, 1) := by decide +kernel
theorem dX2_sum_10 : decode cX2_sum 10 = .ok (.iconst 0, 1) := by decide +kernel
theorem dX2_sum_11 : decode cX2_sum 11 = .ok (.istore 4, 2) := by decide +kernel
theorem dX2_sum_13 : decode cX2_sum 13 = .ok (.iload 4, 2) := by decide +kernel
theorem dX2_sum_15 : decode cX2_sum 15 = .ok (.iload_n 3, 1) := by decide +kernel
theorem dX2_sum_16 : decode cX2_sum 16 = .ok (.if_icmp .ge 20, 3) := by decide +kernel
theorem dX2_sum_19 : decode cX2_sum 19 = .ok (.aload_n 2, 1) := by decide +kernel
theorem dX2_sum_20 : decode cX2_sum 20 = .ok (.iload 4, 2) := by decide +kernel
theorem dX2_sum_22 : decode cX2_sum 22 = .ok (.iaload, 1) := by decide +kernel
theorem dX2_sum_23 : decode cX2_sum 23 = .ok (.istore 5, 2) := by decide +kernel
theorem dX2_sum_25 : decode cX2_sum 25 = .ok (.iload_n 1, 1) := by decide +kernel
theorem dX2_sum_26 : decode cX2_sum 26 = .ok (.iload 5, 2) := by decide +kernel
theorem dX2_sum_28 : decode cX2_sum 28 = .ok (.iadd, 1) := by decide +kernel
theorem dX2_sum_29 : decode cX2_sum 29 = .ok (.istore_n 1, 1) := by decide +kernel
theorem dX2_sum_30 : decode cX2_sum 30 = .ok (.iinc 4 1, 3) := by decide +kernel
theorem dX2_sum_33 : decode cX2_sum 33 = .ok (.goto (-20), 3) := by decide +kernel
theorem dX2_sum_36 : decode cX2_sum 36 = .ok (.iload_n 1, 1) := by decide +kernel
theorem dX2_sum_37 : decode cX2_sum 37 = .ok (.ireturn, 1) := by decide +kernel
theorem dX2_comingTo_0 : decode cX2_comingTo 0 = .ok (.iconst 0, 1) := by decide +kernel
theorem dX2_comingTo_1 : decode cX2_comingTo 1 = .ok (.istore_n 2, 1) := by decide +kernel
theorem dX2_comingTo_2 : decode cX2_comingTo 2 = .ok (.iconst 0, 1) := by decide +kernel
theorem dX2_comingTo_3 : decode cX2_comingTo 3 = .ok (.istore_n 3, 1) := by decide +kernel
theorem dX2_comingTo_4 : decode cX2_comingTo 4 = .ok (.iload_n 3, 1) := by decide +kernel
theorem dX2_comingTo_5 : decode cX2_comingTo 5 = .ok (.bipush 10, 2) := by decide +kernel
theorem dX2_comingTo_7 : decode cX2_comingTo 7 = .ok (.if_icmp .ge 18, 3) := by decide +kernel
theorem dX2_comingTo_10 : decode cX2_comingTo 10 = .ok (.iload_n 2, 1) := by decide +kernel
theorem dX2_comingTo_11 : decode cX2_comingTo 11 = .ok (.aload_n 0, 1) := by decide +kernel
theorem dX2_comingTo_12 : decode cX2_comingTo 12 = .ok (.iload_n 3, 1) := by decide +kernel
theorem dX2_comingTo_13 : decode cX2_comingTo 13 = .ok (.iload_n 1, 1) := by decide +kernel
theorem dX2_comingTo_14 : decode cX2_comingTo 14 = .ok (.invokevirtual 23, 3) := by decide +kernel
theorem dX2_comingTo_17 : decode cX2_comingTo 17 = .ok (.iadd, 1) := by decide +kernel
theorem dX2_comingTo_18 : decode cX2_comingTo 18 = .ok (.istore_n 2, 1) := by decide +kernel
theorem dX2_comingTo_19 : decode cX2_comingTo 19 = .ok (.iinc 3 1, 3) := by decide +kernel
theorem dX2_comingTo_22 : decode cX2_comingTo 22 = .ok (.goto (-18), 3) := by decide +kernel
theorem dX2_comingTo_25 : decode cX2_comingTo 25 = .ok (.iload_n 2, 1) := by decide +kernel
theorem dX2_comingTo_26 : decode cX2_comingTo 26 = .ok (.ireturn, 1) := by decide +kernel
theorem dX2_goingFrom_0 : decode cX2_goingFrom 0 = .ok (.iconst 0, 1) := by decide +kernel
theorem dX2_goingFrom_1 : decode cX2_goingFrom 1 = .ok (.istore_n 2, 1) := by decide +kernel
theorem dX2_goingFrom_2 : decode cX2_goingFrom 2 = .ok (.iconst 0, 1) := by decide +kernel
theorem dX2_goingFrom_3 : decode cX2_goingFrom 3 = .ok (.istore_n 3, 1) := by decide +kernel
theorem dX2_goingFrom_4 : decode cX2_goingFrom 4 = .ok (.iload_n 3, 1) := by decide +kernel
theorem dX2_goingFrom_5 : decode cX2_goingFrom 5 = .ok (.bipush 10, 2) := by decide +kernel
theorem dX2_goingFrom_7 : decode cX2_goingFrom 7 = .ok (.if_icmp .ge 18, 3) := by decide +kernel
theorem dX2_goingFrom_10 : decode cX2_goingFrom 10 = .ok (.iload_n 2, 1) := by decide +kernel
theorem dX2_goingFrom_11 : decode cX2_goingFrom 11 = .ok (.aload_n 0, 1) := by decide +kernel
theorem dX2_goingFrom_12 : decode cX2_goingFrom 12 = .ok (.iload_n 1, 1) := by decide +kernel
theorem dX2_goingFrom_13 : decode cX2_goingFrom 13 = .ok (.iload_n 3, 1) := by decide +kernel
theorem dX2_goingFrom_14 : decode cX2_goingFrom 14 = .ok (.invokevirtual 23, 3) := by decide +kernel
theorem dX2_goingFrom_17 : decode cX2_goingFrom 17 = .ok (.iadd, 1) := by decide +kernel
theorem dX2_goingFrom_18 : decode cX2_goingFrom 18 = .ok (.istore_n 2, 1) := by decide +kernel
theorem dX2_goingFrom_19 : decode cX2_goingFrom 19 = .ok (.iinc 3 1, 3) := by decide +kernel
theorem dX2_goingFrom_22 : decode cX2_goingFrom 22 = .ok (.goto (-18), 3) := by decide +kernel
theorem dX2_goingFrom_25 : decode cX2_goingFrom 25 = .ok (.iload_n 2, 1) := by decide +kernel
theorem dX2_goingFrom_26 : decode cX2_goingFrom 26 = .ok (.ireturn, 1) := by decide +kernel
theorem dX2_uses_0 : decode cX2_uses 0 = .ok (.iconst 0, 1) := by decide +kernel
theorem dX2_uses_1 : decode cX2_uses 1 = .ok (.istore_n 2, 1) := by decide +kernel
theorem dX2_uses_2 : decode cX2_uses 2 = .ok (.iload_n 2, 1) := by decide +kernel
theorem dX2_uses_3 : decode cX2_uses 3 = .ok (.bipush 10, 2) := by decide +kernel
theorem dX2_uses_5 : decode cX2_uses 5 = .ok (.if_icmp .ge 39, 3) := by decide +kernel
theorem dX2_uses_8 : decode cX2_uses 8 = .ok (.aload_n 0, 1) := by decide +kernel
theorem dX2_uses_9 : decode cX2_uses 9 = .ok (.getfield 9, 3) := by decide +kernel
theorem dX2_uses_12 : decode cX2_uses 12 = .ok (.iload_n 1, 1) := by decide +kernel
theorem dX2_uses_13 : decode cX2_uses 13 = .ok (.bipush 10, 2) := by decide +kernel
theorem dX2_uses_15 : decode cX2_uses 15 = .ok (.imul, 1) := by decide +kernel
theorem dX2_uses_16 : decode cX2_uses 16 = .ok (.iload_n 2, 1) := by decide +kernel
theorem dX2_uses_17 : decode cX2_uses 17 = .ok (.iadd, 1) := by decide +kernel
theorem dX2_uses_18 : decode cX2_uses 18 = .ok (.iaload, 1) := by decide +kernel
theorem dX2_uses_19 : decode cX2_uses 19 = .ok (.ifCond .gt 17, 3) := by decide +kernel
theorem dX2_uses_22 : decode cX2_uses 22 = .ok (.aload_n 0, 1) := by decide +kernel
theorem dX2_uses_23 : decode cX2_uses 23 = .ok (.getfield 9, 3) := by decide +kernel
theorem dX2_uses_26 : decode cX2_uses 26 = .ok (.iload_n 2, 1) := by decide +kernel
theorem dX2_uses_27 : decode cX2_uses 27 = .ok (.bipush 10, 2) := by decide +kernel
theorem dX2_uses_29 : decode cX2_uses 29 = .ok (.imul, 1) := by decide +kernel
theorem dX2_uses_30 : decode cX2_uses 30 = .ok (.iload_n 1, 1) := by decide +kernel
theorem dX2_uses_31 : decode cX2_uses 31 = .ok (.iadd, 1) := by decide +kernel
theorem dX2_uses_32 : decode cX2_uses 32 = .ok (.iaload, 1) := by decide +kernel
theorem dX2_uses_33 : decode cX2_uses 33 = .ok (.ifCond .le 5, 3) := by decide +kernel
theorem dX2_uses_36 : decode cX2_uses 36 = .ok (.iconst 1, 1) := by decide +kernel
theorem dX2_uses_37 : decode cX2_uses 37 = .ok (.ireturn, 1) := by decide +kernel
theorem dX2_uses_38 : decode cX2_uses 38 = .ok (.iinc 2 1, 3) := by decide +kernel
theorem dX2_uses_41 : decode cX2_uses 41 = .ok (.goto (-39), 3) := by decide +kernel
theorem dX2_uses_44 : decode cX2_uses 44 = .ok (.iconst 0, 1) := by decide +kernel
theorem dX2_uses_45 : decode cX2_uses 45 = .ok (.ireturn, 1) := by decide +kernel
theorem dX3_init_0 : decode cX3_init 0 = .ok (.aload_n 0, 1) := by decide +kernel
theorem dX3_init_1 : decode cX3_init 1 = .ok (.invokespecial 3, 3) := by decide +kernel
theorem dX3_init_4 : decode cX3_init 4 = .ok (.aload_n 0, 1) := by decide +kernel
theorem dX3_init_5 : decode cX3_init 5 = .ok (.bipush 25, 2) := by decide +kernel
theorem dX3_init_7 : decode cX3_init 7 = .ok (.newarray .int, 2) := by decide +kernel
theorem dX3_init_9 : decode cX3_init 9 = .ok (.putfield 9, 3) := by decide +kernel
theorem dX3_init_12 : decode cX3_init 12 = .ok (.aload_n 0, 1) := by decide +kernel
theorem dX3_init_13 : decode cX3_init 13 = .ok (.bipush 25, 2) := by decide +kernel
theorem dX3_init_15 : decode cX3_init 15 = .ok (.newarray .int, 2) := by decide +kernel
theorem dX3_init_17 : decode cX3_init 17 = .ok (.putfield 15, 3) := by decide +kernel
theorem dX3_init_20 : decode cX3_init 20 = .ok (.aload_n 0, 1) := by decide +kernel
theorem dX3_init_21 : decode cX3_init 21 = .ok (.iconst 0, 1) := by decide +kernel
theorem dX3_init_22 : decode cX3_init 22 = .ok (.putfield 18, 3) := by decide +kernel
theorem dX3_init_25 : decode cX3_init 25 = .ok (.aload_n 0, 1) := by decide +kernel
theorem dX3_init_26 : decode cX3_init 26 = .ok (.aload_n 1, 1) := by decide +kernel
theorem dX3_init_27 : decode cX3_init 27 = .ok (.putfield 22, 3) := by decide +kernel
theorem dX3_init_30 : decode cX3_init 30 = .ok (.aload_n 0, 1) := by decide +kernel
theorem dX3_init_31 : decode cX3_init 31 = .ok (.aload_n 2, 1) := by decide +kernel
theorem dX3_init_32 : decode cX3_init 32 = .ok (.putfield 26, 3) := by decide +kernel
theorem dX3_init_35 : decode cX3_init 35 = .ok (.aload_n 0, 1) := by decide +kernel
theorem dX3_init_36 : decode cX3_init 36 = .ok (.aload_n 3, 1) := by decide +kernel
theorem dX3_init_37 : decode cX3_init 37 = .ok (.putfield 30, 3) := by decide +kernel
theorem dX3_init_40 : decode cX3_init 40 = .ok (.return_, 1) := by decide +kernel
theorem dX3_base_0 : decode cX3_base 0 = .ok (.aload_n 0, 1) := by decide +kernel
theorem dX3_base_1 : decode cX3_base 1 = .ok (.getfield 18, 3) := by decide +kernel
theorem dX3_base_4 : decode cX3_base 4 = .ok (.ireturn, 1) := by decide +kernel
theorem dX3_gains_0 : decode cX3_gains 0 = .ok (.aload_n 0, 1) := by decide +kernel
theorem dX3_gains_1 : decode cX3_gains 1 = .ok (.getfield 15, 3) := by decide +kernel
theorem dX3_gains_4 : decode cX3_gains 4 = .ok (.areturn, 1) := by decide +kernel
theorem dX3_gatherLinks_0 : decode cX3_gatherLinks 0 = .ok (.aload_n 0, 1) := by decide +kernel
theorem dX3_gatherLinks_1 : decode cX3_gatherLinks 1 = .ok (.getfield 9, 3) := by decide +kernel
theorem dX3_gatherLinks_4 : decode cX3_gatherLinks 4 = .ok (.iconst 0, 1) := by decide +kernel
theorem dX3_gatherLinks_5 : decode cX3_gatherLinks 5 = .ok (.invokestatic 34, 3) := by decide +kernel
theorem dX3_gatherLinks_8 : decode cX3_gatherLinks 8 = .ok (.iconst 0, 1) := by decide +kernel
theorem dX3_gatherLinks_9 : decode cX3_gatherLinks 9 = .ok (.istore_n 2, 1) := by decide +kernel
theorem dX3_gatherLinks_10 : decode cX3_gatherLinks 10 = .ok (.iload_n 2, 1) := by decide +kernel
theorem dX3_gatherLinks_11 : decode cX3_gatherLinks 11 = .ok (.bipush 10, 2) := by decide +kernel
theorem dX3_gatherLinks_13 : decode cX3_gatherLinks 13 = .ok (.if_icmp .ge 97, 3) := by decide +kernel
theorem dX3_gatherLinks_16 : decode cX3_gatherLinks 16 = .ok (.iconst 0, 1) := by decide +kernel
theorem dX3_gatherLinks_17 : decode cX3_gatherLinks 17 = .ok (.istore_n 3, 1) := by decide +kernel
theorem dX3_gatherLinks_18 : decode cX3_gatherLinks 18 = .ok (.iload_n 3, 1) := by decide +kernel
theorem dX3_gatherLinks_19 : decode cX3_gatherLinks 19 = .ok (.bipush 10, 2) := by decide +kernel
theorem dX3_gatherLinks_21 : decode cX3_gatherLinks 21 = .ok (.if_icmp .ge 83, 3) := by decide +kernel
theorem dX3_gatherLinks_24 : decode cX3_gatherLinks 24 = .ok (.aload_n 0, 1) := by decide +kernel
theorem dX3_gatherLinks_25 : decode cX3_gatherLinks 25 = .ok (.getfield 22, 3) := by decide +kernel
theorem dX3_gatherLinks_28 : decode cX3_gatherLinks 28 = .ok (.iload_n 2, 1) := by decide +kernel
theorem dX3_gatherLinks_29 : decode cX3_gatherLinks 29 = .ok (.iload_n 3, 1) := by decide +kernel
theorem dX3_gatherLinks_30 : decode cX3_gatherLinks 30 = .ok (.iload_n 1, 1) := by decide +kernel
theorem dX3_gatherLinks_31 : decode cX3_gatherLinks 31 = .ok (.invokevirtual 40, 3) := by decide +kernel
theorem dX3_gatherLinks_34 : decode cX3_gatherLinks 34 = .ok (.ifCond .eq 64, 3) := by decide +kernel
theorem dX3_gatherLinks_37 : decode cX3_gatherLinks 37 = .ok (.aload_n 0, 1) := by decide +kernel
theorem dX3_gatherLinks_38 : decode cX3_gatherLinks 38 = .ok (.getfield 26, 3) := by decide +kernel
theorem dX3_gatherLinks_41 : decode cX3_gatherLinks 41 = .ok (.iload_n 1, 1) := by decide +kernel
theorem dX3_gatherLinks_42 : decode cX3_gatherLinks 42 = .ok (.aload_n 0, 1) := by decide +kernel
theorem dX3_gatherLinks_43 : decode cX3_gatherLinks 43 = .ok (.getfield 22, 3) := by decide +kernel
theorem dX3_gatherLinks_46 : decode cX3_gatherLinks 46 = .ok (.iload_n 2, 1) := by decide +kernel
theorem dX3_gatherLinks_47 : decode cX3_gatherLinks 47 = .ok (.iload_n 3, 1) := by decide +kernel
theorem dX3_gatherLinks_48 : decode cX3_gatherLinks 48 = .ok (.iload_n 1, 1) := by decide +kernel
theorem dX3_gatherLinks_49 : decode cX3_gatherLinks 49 = .ok (.invokevirtual 45, 3) := by decide +kernel
theorem dX3_gatherLinks_52 : decode cX3_gatherLinks 52 = .ok (.invokevirtual 49, 3) := by decide +kernel
theorem dX3_gatherLinks_55 : decode cX3_gatherLinks 55 = .ok (.istore 4, 2) := by decide +kernel
theorem dX3_gatherLinks_57 : decode cX3_gatherLinks 57 = .ok (.aload_n 0, 1) := by decide +kernel
theorem dX3_gatherLinks_58 : decode cX3_gatherLinks 58 = .ok (.getfield 26, 3) := by decide +kernel
theorem dX3_gatherLinks_61 : decode cX3_gatherLinks 61 = .ok (.iload_n 1, 1) := by decide +kernel
theorem dX3_gatherLinks_62 : decode cX3_gatherLinks 62 = .ok (.iconst 1, 1) := by decide +kernel
theorem dX3_gatherLinks_63 : decode cX3_gatherLinks 63 = .ok (.iadd, 1) := by decide +kernel
theorem dX3_gatherLinks_64 : decode cX3_gatherLinks 64 = .ok (.aload_n 0, 1) := by decide +kernel
theorem dX3_gatherLinks_65 : decode cX3_gatherLinks 65 = .ok (.getfield 22, 3) := by decide +kernel
theorem dX3_gatherLinks_68 : decode cX3_gatherLinks 68 = .ok (.iload_n 2, 1) := by decide +kernel
theorem dX3_gatherLinks_69 : decode cX3_gatherLinks 69 = .ok (.iload_n 3, 1) := by decide +kernel
theorem dX3_gatherLinks_70 : decode cX3_gatherLinks 70 = .ok (.iload_n 1, 1) := by decide +kernel
theorem dX3_gatherLinks_71 : decode cX3_gatherLinks 71 = .ok (.iconst 1, 1) := by decide +kernel
theorem dX3_gatherLinks_72 : decode cX3_gatherLinks 72 = .ok (.iadd, 1) := by decide +kernel
theorem dX3_gatherLinks_73 : decode cX3_gatherLinks 73 = .ok (.invokevirtual 45, 3) := by decide +kernel
theorem dX3_gatherLinks_76 : decode cX3_gatherLinks 76 = .ok (.invokevirtual 49, 3) := by decide +kernel
theorem dX3_gatherLinks_79 : decode cX3_gatherLinks 79 = .ok (.istore 5, 2) := by decide +kernel
theorem dX3_gatherLinks_81 : decode cX3_gatherLinks 81 = .ok (.aload_n 0, 1) := by decide +kernel
theorem dX3_gatherLinks_82 : decode cX3_gatherLinks 82 = .ok (.iload 4, 2) := by decide +kernel
theorem dX3_gatherLinks_84 : decode cX3_gatherLinks 84 = .ok (.iload 5, 2) := by decide +kernel
theorem dX3_gatherLinks_86 : decode cX3_gatherLinks 86 = .ok (.aload_n 0, 1) := by decide +kernel
theorem dX3_gatherLinks_87 : decode cX3_gatherLinks 87 = .ok (.getfield 22, 3) := by decide +kernel
theorem dX3_gatherLinks_90 : decode cX3_gatherLinks 90 = .ok (.iload_n 2, 1) := by decide +kernel
theorem dX3_gatherLinks_91 : decode cX3_gatherLinks 91 = .ok (.iload_n 3, 1) := by decide +kernel
theorem dX3_gatherLinks_92 : decode cX3_gatherLinks 92 = .ok (.invokevirtual 55, 3) := by decide +kernel
theorem dX3_gatherLinks_95 : decode cX3_gatherLinks 95 = .ok (.invokevirtual 58, 3) := by decide +kernel
theorem dX3_gatherLinks_98 : decode cX3_gatherLinks 98 = .ok (.iinc 3 1, 3) := by decide +kernel
theorem dX3_gatherLinks_101 : decode cX3_gatherLinks 101 = .ok (.goto (-83), 3) := by decide +kernel
theorem dX3_gatherLinks_104 : decode cX3_gatherLinks 104 = .ok (.iinc 2 1, 3) := by decide +kernel
theorem dX3_gatherLinks_107 : decode cX3_gatherLinks 107 = .ok (.goto (-97), 3) := by decide +kernel
theorem dX3_gatherLinks_110 : decode cX3_gatherLinks 110 = .ok (.return_, 1) := by decide +kernel
theorem dX3_begin_0 : decode cX3_begin 0 = .ok (.aload_n 0, 1) := by decide +kernel
theorem dX3_begin_1 : decode cX3_begin 1 = .ok (.getfield 26, 3) := by decide +kernel
theorem dX3_begin_4 : decode cX3_begin 4 = .ok (.iload_n 1, 1) := by decide +kernel
theorem dX3_begin_5 : decode cX3_begin 5 = .ok (.invokevirtual 62, 3) := by decide +kernel
theorem dX3_begin_8 : decode cX3_begin 8 = .ok (.istore_n 3, 1) := by decide +kernel
theorem dX3_begin_9 : decode cX3_begin 9 = .ok (.aload_n 0, 1) := by decide +kernel
theorem dX3_begin_10 : decode cX3_begin 10 = .ok (.getfield 26, 3) := by decide +kernel
theorem dX3_begin_13 : decode cX3_begin 13 = .ok (.iload_n 1, 1) := by decide +kernel
theorem dX3_begin_14 : decode cX3_begin 14 = .ok (.iconst 1, 1) := by decide +kernel
theorem dX3_begin_15 : decode cX3_begin 15 = .ok (.iadd, 1) := by decide +kernel
theorem dX3_begin_16 : decode cX3_begin 16 = .ok (.invokevirtual 62, 3) := by decide +kernel
theorem dX3_begin_19 : decode cX3_begin 19 = .ok (.istore 4, 2) := by decide +kernel
theorem dX3_begin_21 : decode cX3_begin 21 = .ok (.aload_n 0, 1) := by decide +kernel
theorem dX3_begin_22 : decode cX3_begin 22 = .ok (.iconst 0, 1) := by decide +kernel
theorem dX3_begin_23 : decode cX3_begin 23 = .ok (.putfield 18, 3) := by decide +kernel
theorem dX3_begin_26 : decode cX3_begin 26 = .ok (.iconst 0, 1) := by decide +kernel
theorem dX3_begin_27 : decode cX3_begin 27 = .ok (.istore 5, 2) := by decide +kernel
theorem dX3_begin_29 : decode cX3_begin 29 = .ok (.iload 5, 2) := by decide +kernel
theorem dX3_begin_31 : decode cX3_begin 31 = .ok (.iload_n 3, 1) := by decide +kernel
theorem dX3_begin_32 : decode cX3_begin 32 = .ok (.if_icmp .ge 195, 3) := by decide +kernel
theorem dX3_begin_35 : decode cX3_begin 35 = .ok (.iload 5, 2) := by decide +kernel
theorem dX3_begin_37 : decode cX3_begin 37 = .ok (.iconst 1, 1) := by decide +kernel
theorem dX3_begin_38 : decode cX3_begin 38 = .ok (.iadd, 1) := by decide +kernel
theorem dX3_begin_39 : decode cX3_begin 39 = .ok (.istore 6, 2) := by decide +kernel
theorem dX3_begin_41 : decode cX3_begin 41 = .ok (.iload 6, 2) := by decide +kernel
theorem dX3_begin_43 : decode cX3_begin 43 = .ok (.iload_n 3, 1) := by decide +kernel
theorem dX3_begin_44 : decode cX3_begin 44 = .ok (.if_icmp .ge 177, 3) := by decide +kernel
theorem dX3_begin_47 : decode cX3_begin 47 = .ok (.aload_n 0, 1) := by decide +kernel
theorem dX3_begin_48 : decode cX3_begin 48 = .ok (.getfield 26, 3) := by decide +kernel
theorem dX3_begin_51 : decode cX3_begin 51 = .ok (.iload_n 1, 1) := by decide +kernel
theorem dX3_begin_52 : decode cX3_begin 52 = .ok (.iload 5, 2) := by decide +kernel
theorem dX3_begin_54 : decode cX3_begin 54 = .ok (.invokevirtual 66, 3) := by decide +kernel
theorem dX3_begin_57 : decode cX3_begin 57 = .ok (.istore 7, 2) := by decide +kernel
theorem dX3_begin_59 : decode cX3_begin 59 = .ok (.aload_n 0, 1) := by decide +kernel
theorem dX3_begin_60 : decode cX3_begin 60 = .ok (.getfield 26, 3) := by decide +kernel
theorem dX3_begin_63 : decode cX3_begin 63 = .ok (.iload_n 1, 1) := by decide +kernel
theorem dX3_begin_64 : decode cX3_begin 64 = .ok (.iload 6, 2) := by decide +kernel
theorem dX3_begin_66 : decode cX3_begin 66 = .ok (.invokevirtual 66, 3) := by decide +kernel
theorem dX3_begin_69 : decode cX3_begin 69 = .ok (.istore 8, 2) := by decide +kernel
theorem dX3_begin_71 : decode cX3_begin 71 = .ok (.iload_n 2, 1) := by decide +kernel
theorem dX3_begin_72 : decode cX3_begin 72 = .ok (.aload_n 0, 1) := by decide +kernel
theorem dX3_begin_73 : decode cX3_begin 73 = .ok (.getfield 30, 3) := by decide +kernel
theorem dX3_begin_76 : decode cX3_begin 76 = .ok (.iload 7, 2) := by decide +kernel
theorem dX3_begin_78 : decode cX3_begin 78 = .ok (.iload 8, 2) := by decide +kernel
theorem dX3_begin_80 : decode cX3_begin 80 = .ok (.invokevirtual 69, 3) := by decide +kernel
theorem dX3_begin_83 : decode cX3_begin 83 = .ok (.imul, 1) := by decide +kernel
theorem dX3_begin_84 : decode cX3_begin 84 = .ok (.istore 9, 2) := by decide +kernel
theorem dX3_begin_86 : decode cX3_begin 86 = .ok (.iload_n 2, 1) := by decide +kernel
theorem dX3_begin_87 : decode cX3_begin 87 = .ok (.aload_n 0, 1) := by decide +kernel
theorem dX3_begin_88 : decode cX3_begin 88 = .ok (.getfield 30, 3) := by decide +kernel
theorem dX3_begin_91 : decode cX3_begin 91 = .ok (.iload 8, 2) := by decide +kernel
theorem dX3_begin_93 : decode cX3_begin 93 = .ok (.iload 7, 2) := by decide +kernel
theorem dX3_begin_95 : decode cX3_begin 95 = .ok (.invokevirtual 69, 3) := by decide +kernel
theorem dX3_begin_98 : decode cX3_begin 98 = .ok (.imul, 1) := by decide +kernel
theorem dX3_begin_99 : decode cX3_begin 99 = .ok (.istore 10, 2) := by decide +kernel
theorem dX3_begin_101 : decode cX3_begin 101 = .ok (.iconst 0, 1) := by decide +kernel
theorem dX3_begin_102 : decode cX3_begin 102 = .ok (.istore 11, 2) := by decide +kernel
theorem dX3_begin_104 : decode cX3_begin 104 = .ok (.iload 11, 2) := by decide +kernel
theorem dX3_begin_106 : decode cX3_begin 106 = .ok (.iload 4, 2) := by decide +kernel
theorem dX3_begin_108 : decode cX3_begin 108 = .ok (.if_icmp .ge 62, 3) := by decide +kernel
theorem dX3_begin_111 : decode cX3_begin 111 = .ok (.iload 11, 2) := by decide +kernel
theorem dX3_begin_113 : decode cX3_begin 113 = .ok (.iconst 1, 1) := by decide +kernel
theorem dX3_begin_114 : decode cX3_begin 114 = .ok (.iadd, 1) := by decide +kernel
theorem dX3_begin_115 : decode cX3_begin 115 = .ok (.istore 12, 2) := by decide +kernel
theorem dX3_begin_117 : decode cX3_begin 117 = .ok (.iload 12, 2) := by decide +kernel
theorem dX3_begin_119 : decode cX3_begin 119 = .ok (.iload 4, 2) := by decide +kernel
theorem dX3_begin_121 : decode cX3_begin 121 = .ok (.if_icmp .ge 43, 3) := by decide +kernel
theorem dX3_begin_124 : decode cX3_begin 124 = .ok (.iload 9, 2) := by decide +kernel
theorem dX3_begin_126 : decode cX3_begin 126 = .ok (.aload_n 0, 1) := by decide +kernel
theorem dX3_begin_127 : decode cX3_begin 127 = .ok (.iload 5, 2) := by decide +kernel
theorem dX3_begin_129 : decode cX3_begin 129 = .ok (.iload 6, 2) := by decide +kernel
theorem dX3_begin_131 : decode cX3_begin 131 = .ok (.iload 11, 2) := by decide +kernel
theorem dX3_begin_133 : decode cX3_begin 133 = .ok (.iload 12, 2) := by decide +kernel
theorem dX3_begin_135 : decode cX3_begin 135 = .ok (.invokevirtual 74, 3) := by decide +kernel
theorem dX3_begin_138 : decode cX3_begin 138 = .ok (.iadd, 1) := by decide +kernel
theorem dX3_begin_139 : decode cX3_begin 139 = .ok (.istore 9, 2) := by decide +kernel
theorem dX3_begin_141 : decode cX3_begin 141 = .ok (.iload 10, 2) := by decide +kernel
theorem dX3_begin_143 : decode cX3_begin 143 = .ok (.aload_n 0, 1) := by decide +kernel
theorem dX3_begin_144 : decode cX3_begin 144 = .ok (.iload 6, 2) := by decide +kernel
theorem dX3_begin_146 : decode cX3_begin 146 = .ok (.iload 5, 2) := by decide +kernel
theorem dX3_begin_148 : decode cX3_begin 148 = .ok (.iload 11, 2) := by decide +kernel
theorem dX3_begin_150 : decode cX3_begin 150 = .ok (.iload 12, 2) := by decide +kernel
theorem dX3_begin_152 : decode cX3_begin 152 = .ok (.invokevirtual 74, 3) := by decide +kernel
theorem dX3_begin_155 : decode cX3_begin 155 = .ok (.iadd, 1) := by decide +kernel
theorem dX3_begin_156 : decode cX3_begin 156 = .ok (.istore 10, 2) := by decide +kernel
theorem dX3_begin_158 : decode cX3_begin 158 = .ok (.iinc 12 1, 3) := by decide +kernel
theorem dX3_begin_161 : decode cX3_begin 161 = .ok (.goto (-44), 3) := by decide +kernel
theorem dX3_begin_164 : decode cX3_begin 164 = .ok (.iinc 11 1, 3) := by decide +kernel
theorem dX3_begin_167 : decode cX3_begin 167 = .ok (.goto (-63), 3) := by decide +kernel
theorem dX3_begin_170 : decode cX3_begin 170 = .ok (.aload_n 0, 1) := by decide +kernel
theorem dX3_begin_171 : decode cX3_begin 171 = .ok (.dup, 1) := by decide +kernel
theorem dX3_begin_172 : decode cX3_begin 172 = .ok (.getfield 18, 3) := by decide +kernel
theorem dX3_begin_175 : decode cX3_begin 175 = .ok (.iload 9, 2) := by decide +kernel
theorem dX3_begin_177 : decode cX3_begin 177 = .ok (.iadd, 1) := by decide +kernel
theorem dX3_begin_178 : decode cX3_begin 178 = .ok (.putfield 18, 3) := by decide +kernel
theorem dX3_begin_181 : decode cX3_begin 181 = .ok (.aload_n 0, 1) := by decide +kernel
theorem dX3_begin_182 : decode cX3_begin 182 = .ok (.getfield 15, 3) := by decide +kernel
theorem dX3_begin_185 : decode cX3_begin 185 = .ok (.iload 5, 2) := by decide +kernel
theorem dX3_begin_187 : decode cX3_begin 187 = .ok (.iload 6, 2) := by decide +kernel
theorem dX3_begin_189 : decode cX3_begin 189 = .ok (.invokestatic 78, 3) := by decide +kernel
theorem dX3_begin_192 : decode cX3_begin 192 = .ok (.iload 10, 2) := by decide +kernel
theorem dX3_begin_194 : decode cX3_begin 194 = .ok (.iload 9, 2) := by decide +kernel
theorem dX3_begin_196 : decode cX3_begin 196 = .ok (.isub, 1) := by decide +kernel
theorem dX3_begin_197 : decode cX3_begin 197 = .ok (.iastore, 1) := by decide +kernel
theorem dX3_begin_198 : decode cX3_begin 198 = .ok (.aload_n 0, 1) := by decide +kernel
theorem dX3_begin_199 : decode cX3_begin 199 = .ok (.getfield 15, 3) := by decide +kernel
theorem dX3_begin_202 : decode cX3_begin 202 = .ok (.iload 6, 2) := by decide +kernel
theorem dX3_begin_204 : decode cX3_begin 204 = .ok (.iload 5, 2) := by decide +kernel
theorem dX3_begin_206 : decode cX3_begin 206 = .ok (.invokestatic 78, 3) := by decide +kernel
theorem dX3_begin_209 : decode cX3_begin 209 = .ok (.iload 9, 2) := by decide +kernel
theorem dX3_begin_211 : decode cX3_begin 211 = .ok (.iload 10, 2) := by decide +kernel
theorem dX3_begin_213 : decode cX3_begin 213 = .ok (.isub, 1) := by decide +kernel
theorem dX3_begin_214 : decode cX3_begin 214 = .ok (.iastore, 1) := by decide +kernel
theorem dX3_begin_215 : decode cX3_begin 215 = .ok (.iinc 6 1, 3) := by decide +kernel
theorem dX3_begin_218 : decode cX3_begin 218 = .ok (.goto (-177), 3) := by decide +kernel
theorem dX3_begin_221 : decode cX3_begin 221 = .ok (.iinc 5 1, 3) := by decide +kernel
theorem dX3_begin_224 : decode cX3_begin 224 = .ok (.goto (-195), 3) := by decide +kernel
theorem dX3_begin_227 : decode cX3_begin 227 = .ok (.return_, 1) := by decide +kernel
theorem dX3_exchangeNext_0 : decode cX3_exchangeNext 0 = .ok (.iload_n 2, 1) := by decide +kernel
theorem dX3_exchangeNext_1 : decode cX3_exchangeNext 1 = .ok (.iconst 5, 1) := by decide +kernel
theorem dX3_exchangeNext_2 : decode cX3_exchangeNext 2 = .ok (.idiv, 1) := by decide +kernel
theorem dX3_exchangeNext_3 : decode cX3_exchangeNext 3 = .ok (.istore_n 3, 1) := by decide +kernel
theorem dX3_exchangeNext_4 : decode cX3_exchangeNext 4 = .ok (.iload_n 2, 1) := by decide +kernel
theorem dX3_exchangeNext_5 : decode cX3_exchangeNext 5 = .ok (.iconst 5, 1) := by decide +kernel
theorem dX3_exchangeNext_6 : decode cX3_exchangeNext 6 = .ok (.irem, 1) := by decide +kernel
theorem dX3_exchangeNext_7 : decode cX3_exchangeNext 7 = .ok (.istore 4, 2) := by decide +kernel
theorem dX3_exchangeNext_9 : decode cX3_exchangeNext 9 = .ok (.aload_n 0, 1) := by decide +kernel
theorem dX3_exchangeNext_10 : decode cX3_exchangeNext 10 = .ok (.getfield 26, 3) := by decide +kernel
theorem dX3_exchangeNext_13 : decode cX3_exchangeNext 13 = .ok (.iload_n 1, 1) := by decide +kernel
theorem dX3_exchangeNext_14 : decode cX3_exchangeNext 14 = .ok (.invokevirtual 62, 3) := by decide +kernel
theorem dX3_exchangeNext_17 : decode cX3_exchangeNext 17 = .ok (.istore 5, 2) := by decide +kernel
theorem dX3_exchangeNext_19 : decode cX3_exchangeNext 19 = .ok (.iconst 0, 1) := by decide +kernel
theorem dX3_exchangeNext_20 : decode cX3_exchangeNext 20 = .ok (.istore 6, 2) := by decide +kernel
theorem dX3_exchangeNext_22 : decode cX3_exchangeNext 22 = .ok (.iload 6, 2) := by decide +kernel
theorem dX3_exchangeNext_24 : decode cX3_exchangeNext 24 = .ok (.iload 5, 2) := by decide +kernel
theorem dX3_exchangeNext_26 : decode cX3_exchangeNext 26 = .ok (.if_icmp .ge 102, 3) := by decide +kernel
theorem dX3_exchangeNext_29 : decode cX3_exchangeNext 29 = .ok (.iload 6, 2) := by decide +kernel
theorem dX3_exchangeNext_31 : decode cX3_exchangeNext 31 = .ok (.iconst 1, 1) := by decide +kernel
theorem dX3_exchangeNext_32 : decode cX3_exchangeNext 32 = .ok (.iadd, 1) := by decide +kernel
theorem dX3_exchangeNext_33 : decode cX3_exchangeNext 33 = .ok (.istore 7, 2) := by decide +kernel
theorem dX3_exchangeNext_35 : decode cX3_exchangeNext 35 = .ok (.iload 7, 2) := by decide +kernel
theorem dX3_exchangeNext_37 : decode cX3_exchangeNext 37 = .ok (.iload 5, 2) := by decide +kernel
theorem dX3_exchangeNext_39 : decode cX3_exchangeNext 39 = .ok (.if_icmp .ge 83, 3) := by decide +kernel
theorem dX3_exchangeNext_42 : decode cX3_exchangeNext 42 = .ok (.aload_n 0, 1) := by decide +kernel
theorem dX3_exchangeNext_43 : decode cX3_exchangeNext 43 = .ok (.iload 6, 2) := by decide +kernel
theorem dX3_exchangeNext_45 : decode cX3_exchangeNext 45 = .ok (.iload 7, 2) := by decide +kernel
theorem dX3_exchangeNext_47 : decode cX3_exchangeNext 47 = .ok (.iload 4, 2) := by decide +kernel
theorem dX3_exchangeNext_49 : decode cX3_exchangeNext 49 = .ok (.iload_n 3, 1) := by decide +kernel
theorem dX3_exchangeNext_50 : decode cX3_exchangeNext 50 = .ok (.invokevirtual 74, 3) := by decide +kernel
theorem dX3_exchangeNext_53 : decode cX3_exchangeNext 53 = .ok (.aload_n 0, 1) := by decide +kernel
theorem dX3_exchangeNext_54 : decode cX3_exchangeNext 54 = .ok (.iload 6, 2) := by decide +kernel
theorem dX3_exchangeNext_56 : decode cX3_exchangeNext 56 = .ok (.iload 7, 2) := by decide +kernel
theorem dX3_exchangeNext_58 : decode cX3_exchangeNext 58 = .ok (.iload_n 3, 1) := by decide +kernel
theorem dX3_exchangeNext_59 : decode cX3_exchangeNext 59 = .ok (.iload 4, 2) := by decide +kernel
theorem dX3_exchangeNext_61 : decode cX3_exchangeNext 61 = .ok (.invokevirtual 74, 3) := by decide +kernel
theorem dX3_exchangeNext_64 : decode cX3_exchangeNext 64 = .ok (.isub, 1) := by decide +kernel
theorem dX3_exchangeNext_65 : decode cX3_exchangeNext 65 = .ok (.istore 8, 2) := by decide +kernel
theorem dX3_exchangeNext_67 : decode cX3_exchangeNext 67 = .ok (.aload_n 0, 1) := by decide +kernel
theorem dX3_exchangeNext_68 : decode cX3_exchangeNext 68 = .ok (.dup, 1) := by decide +kernel
theorem dX3_exchangeNext_69 : decode cX3_exchangeNext 69 = .ok (.getfield 18, 3) := by decide +kernel
theorem dX3_exchangeNext_72 : decode cX3_exchangeNext 72 = .ok (.iload 8, 2) := by decide +kernel
theorem dX3_exchangeNext_74 : decode cX3_exchangeNext 74 = .ok (.iadd, 1) := by decide +kernel
theorem dX3_exchangeNext_75 : decode cX3_exchangeNext 75 = .ok (.putfield 18, 3) := by decide +kernel
theorem dX3_exchangeNext_78 : decode cX3_exchangeNext 78 = .ok (.aload_n 0, 1) := by decide +kernel
theorem dX3_exchangeNext_79 : decode cX3_exchangeNext 79 = .ok (.getfield 15, 3) := by decide +kernel
theorem dX3_exchangeNext_82 : decode cX3_exchangeNext 82 = .ok (.iload 6, 2) := by decide +kernel
theorem dX3_exchangeNext_84 : decode cX3_exchangeNext 84 = .ok (.iload 7, 2) := by decide +kernel
theorem dX3_exchangeNext_86 : decode cX3_exchangeNext 86 = .ok (.invokestatic 78, 3) := by decide +kernel
theorem dX3_exchangeNext_89 : decode cX3_exchangeNext 89 = .ok (.dup2, 1) := by decide +kernel
theorem dX3_exchangeNext_90 : decode cX3_exchangeNext 90 = .ok (.iaload, 1) := by decide +kernel
theorem dX3_exchangeNext_91 : decode cX3_exchangeNext 91 = .ok (.iconst 2, 1) := by decide +kernel
theorem dX3_exchangeNext_92 : decode cX3_exchangeNext 92 = .ok (.iload 8, 2) := by decide +kernel
theorem dX3_exchangeNext_94 : decode cX3_exchangeNext 94 = .ok (.imul, 1) := by decide +kernel
theorem dX3_exchangeNext_95 : decode cX3_exchangeNext 95 = .ok (.isub, 1) := by decide +kernel
theorem dX3_exchangeNext_96 : decode cX3_exchangeNext 96 = .ok (.iastore, 1) := by decide +kernel
theorem dX3_exchangeNext_97 : decode cX3_exchangeNext 97 = .ok (.aload_n 0, 1) := by decide +kernel
theorem dX3_exchangeNext_98 : decode cX3_exchangeNext 98 = .ok (.getfield 15, 3) := by decide +kernel
theorem dX3_exchangeNext_101 : decode cX3_exchangeNext 101 = .ok (.iload 7, 2) := by decide +kernel
theorem dX3_exchangeNext_103 : decode cX3_exchangeNext 103 = .ok (.iload 6, 2) := by decide +kernel
theorem dX3_exchangeNext_105 : decode cX3_exchangeNext 105 = .ok (.invokestatic 78, 3) := by decide +kernel
theorem dX3_exchangeNext_108 : decode cX3_exchangeNext 108 = .ok (.dup2, 1) := by decide +kernel
theorem dX3_exchangeNext_109 : decode cX3_exchangeNext 109 = .ok (.iaload, 1) := by decide +kernel
theorem dX3_exchangeNext_110 : decode cX3_exchangeNext 110 = .ok (.iconst 2, 1) := by decide +kernel
theorem dX3_exchangeNext_111 : decode cX3_exchangeNext 111 = .ok (.iload 8, 2) := by decide +kernel
theorem dX3_exchangeNext_113 : decode cX3_exchangeNext 113 = .ok (.imul, 1) := by decide +kernel
theorem dX3_exchangeNext_114 : decode cX3_exchangeNext 114 = .ok (.iadd, 1) := by decide +kernel
theorem dX3_exchangeNext_115 : decode cX3_exchangeNext 115 = .ok (.iastore, 1) := by decide +kernel
theorem dX3_exchangeNext_116 : decode cX3_exchangeNext 116 = .ok (.iinc 7 1, 3) := by decide +kernel
theorem dX3_exchangeNext_119 : decode cX3_exchangeNext 119 = .ok (.goto (-84), 3) := by decide +kernel
theorem dX3_exchangeNext_122 : decode cX3_exchangeNext 122 = .ok (.iinc 6 1, 3) := by decide +kernel
theorem dX3_exchangeNext_125 : decode cX3_exchangeNext 125 = .ok (.goto (-103), 3) := by decide +kernel
theorem dX3_exchangeNext_128 : decode cX3_exchangeNext 128 = .ok (.return_, 1) := by decide +kernel
theorem dX3_crossing_0 : decode cX3_crossing 0 = .ok (.aload_n 0, 1) := by decide +kernel
theorem dX3_crossing_1 : decode cX3_crossing 1 = .ok (.getfield 9, 3) := by decide +kernel
theorem dX3_crossing_4 : decode cX3_crossing 4 = .ok (.iload_n 1, 1) := by decide +kernel
theorem dX3_crossing_5 : decode cX3_crossing 5 = .ok (.iload 4, 2) := by decide +kernel
theorem dX3_crossing_7 : decode cX3_crossing 7 = .ok (.invokestatic 78, 3) := by decide +kernel
theorem dX3_crossing_10 : decode cX3_crossing 10 = .ok (.iaload, 1) := by decide +kernel
theorem dX3_crossing_11 : decode cX3_crossing 11 = .ok (.aload_n 0, 1) := by decide +kernel
theorem dX3_crossing_12 : decode cX3_crossing 12 = .ok (.getfield 9, 3) := by decide +kernel
theorem dX3_crossing_15 : decode cX3_crossing 15 = .ok (.iload_n 2, 1) := by decide +kernel
theorem dX3_crossing_16 : decode cX3_crossing 16 = .ok (.iload_n 3, 1) := by decide +kernel
theorem dX3_crossing_17 : decode cX3_crossing 17 = .ok (.invokestatic 78, 3) := by decide +kernel
theorem dX3_crossing_20 : decode cX3_crossing 20 = .ok (.iaload, 1) := by decide +kernel
theorem dX3_crossing_21 : decode cX3_crossing 21 = .ok (.imul, 1) := by decide +kernel
theorem dX3_crossing_22 : decode cX3_crossing 22 = .ok (.ireturn, 1) := by decide +kernel
theorem dX3_putLink_0 : decode cX3_putLink 0 = .ok (.iload_n 1, 1) := by decide +kernel
theorem dX3_putLink_1 : decode cX3_putLink 1 = .ok (.ifCond .lt 28, 3) := by decide +kernel
theorem dX3_putLink_4 : decode cX3_putLink 4 = .ok (.iload_n 1, 1) := by decide +kernel
theorem dX3_putLink_5 : decode cX3_putLink 5 = .ok (.iconst 5, 1) := by decide +kernel
theorem dX3_putLink_6 : decode cX3_putLink 6 = .ok (.if_icmp .ge 23, 3) := by decide +kernel
theorem dX3_putLink_9 : decode cX3_putLink 9 = .ok (.iload_n 2, 1) := by decide +kernel
theorem dX3_putLink_10 : decode cX3_putLink 10 = .ok (.ifCond .lt 19, 3) := by decide +kernel
theorem dX3_putLink_13 : decode cX3_putLink 13 = .ok (.iload_n 2, 1) := by decide +kernel
theorem dX3_putLink_14 : decode cX3_putLink 14 = .ok (.iconst 5, 1) := by decide +kernel
theorem dX3_putLink_15 : decode cX3_putLink 15 = .ok (.if_icmp .ge 14, 3) := by decide +kernel
theorem dX3_putLink_18 : decode cX3_putLink 18 = .ok (.aload_n 0, 1) := by decide +kernel
theorem dX3_putLink_19 : decode cX3_putLink 19 = .ok (.getfield 9, 3) := by decide +kernel
theorem dX3_putLink_22 : decode cX3_putLink 22 = .ok (.iload_n 1, 1) := by decide +kernel
theorem dX3_putLink_23 : decode cX3_putLink 23 = .ok (.iload_n 2, 1) := by decide +kernel
theorem dX3_putLink_24 : decode cX3_putLink 24 = .ok (.invokestatic 78, 3) := by decide +kernel
theorem dX3_putLink_27 : decode cX3_putLink 27 = .ok (.iload_n 3, 1) := by decide +kernel
theorem dX3_putLink_28 : decode cX3_putLink 28 = .ok (.iastore, 1) := by decide +kernel
theorem dX3_putLink_29 : decode cX3_putLink 29 = .ok (.return_, 1) := by decide +kernel
theorem dX4_init_0 : decode cX4_init 0 = .ok (.aload_n 0, 1) := by decide +kernel
theorem dX4_init_1 : decode cX4_init 1 = .ok (.invokespecial 3, 3) := by decide +kernel
theorem dX4_init_4 : decode cX4_init 4 = .ok (.aload_n 0, 1) := by decide +kernel
theorem dX4_init_5 : decode cX4_init 5 = .ok (.bipush 10, 2) := by decide +kernel
theorem dX4_init_7 : decode cX4_init 7 = .ok (.newarray .int, 2) := by decide +kernel
theorem dX4_init_9 : decode cX4_init 9 = .ok (.putfield 9, 3) := by decide +kernel
theorem dX4_init_12 : decode cX4_init 12 = .ok (.aload_n 0, 1) := by decide +kernel
theorem dX4_init_13 : decode cX4_init 13 = .ok (.bipush 10, 2) := by decide +kernel
theorem dX4_init_15 : decode cX4_init 15 = .ok (.newarray .int, 2) := by decide +kernel
theorem dX4_init_17 : decode cX4_init 17 = .ok (.putfield 15, 3) := by decide +kernel
theorem dX4_init_20 : decode cX4_init 20 = .ok (.aload_n 0, 1) := by decide +kernel
theorem dX4_init_21 : decode cX4_init 21 = .ok (.iconst 0, 1) := by decide +kernel
theorem dX4_init_22 : decode cX4_init 22 = .ok (.putfield 18, 3) := by decide +kernel
theorem dX4_init_25 : decode cX4_init 25 = .ok (.aload_n 0, 1) := by decide +kernel
theorem dX4_init_26 : decode cX4_init 26 = .ok (.getfield 9, 3) := by decide +kernel
theorem dX4_init_29 : decode cX4_init 29 = .ok (.iconst (-1), 1) := by decide +kernel
theorem dX4_init_30 : decode cX4_init 30 = .ok (.invokestatic 22, 3) := by decide +kernel
theorem dX4_init_33 : decode cX4_init 33 = .ok (.return_, 1) := by decide +kernel
theorem dX4_holds_0 : decode cX4_holds 0 = .ok (.aload_n 0, 1) := by decide +kernel
theorem dX4_holds_1 : decode cX4_holds 1 = .ok (.getfield 18, 3) := by decide +kernel
theorem dX4_holds_4 : decode cX4_holds 4 = .ok (.ireturn, 1) := by decide +kernel
theorem dX4_hold_0 : decode cX4_hold 0 = .ok (.aload_n 0, 1) := by decide +kernel
theorem dX4_hold_1 : decode cX4_hold 1 = .ok (.iconst 1, 1) := by decide +kernel
theorem dX4_hold_2 : decode cX4_hold 2 = .ok (.putfield 18, 3) := by decide +kernel
theorem dX4_hold_5 : decode cX4_hold 5 = .ok (.return_, 1) := by decide +kernel
theorem dX4_empty_0 : decode cX4_empty 0 = .ok (.aload_n 0, 1) := by decide +kernel
theorem dX4_empty_1 : decode cX4_empty 1 = .ok (.getfield 9, 3) := by decide +kernel
theorem dX4_empty_4 : decode cX4_empty 4 = .ok (.iconst (-1), 1) := by decide +kernel
theorem dX4_empty_5 : decode cX4_empty 5 = .ok (.invokestatic 22, 3) := by decide +kernel
theorem dX4_empty_8 : decode cX4_empty 8 = .ok (.aload_n 0, 1) := by decide +kernel
theorem dX4_empty_9 : decode cX4_empty 9 = .ok (.iconst 0, 1) := by decide +kernel
theorem dX4_empty_10 : decode cX4_empty 10 = .ok (.putfield 18, 3) := by decide +kernel
theorem dX4_empty_13 : decode cX4_empty 13 = .ok (.return_, 1) := by decide +kernel
theorem dX4_note_0 : decode cX4_note 0 = .ok (.iload_n 1, 1) := by decide +kernel
theorem dX4_note_1 : decode cX4_note 1 = .ok (.invokestatic 28, 3) := by decide +kernel
theorem dX4_note_4 : decode cX4_note 4 = .ok (.ifCond .eq 17, 3) := by decide +kernel
theorem dX4_note_7 : decode cX4_note 7 = .ok (.aload_n 0, 1) := by decide +kernel
theorem dX4_note_8 : decode cX4_note 8 = .ok (.getfield 9, 3) := by decide +kernel
theorem dX4_note_11 : decode cX4_note 11 = .ok (.iload_n 1, 1) := by decide +kernel
theorem dX4_note_12 : decode cX4_note 12 = .ok (.iload_n 2, 1) := by decide +kernel
theorem dX4_note_13 : decode cX4_note 13 = .ok (.iastore, 1) := by decide +kernel
theorem dX4_note_14 : decode cX4_note 14 = .ok (.aload_n 0, 1) := by decide +kernel
theorem dX4_note_15 : decode cX4_note 15 = .ok (.getfield 15, 3) := by decide +kernel
theorem dX4_note_18 : decode cX4_note 18 = .ok (.iload_n 1, 1) := by decide +kernel
theorem dX4_note_19 : decode cX4_note 19 = .ok (.iload_n 3, 1) := by decide +kernel
theorem dX4_note_20 : decode cX4_note 20 = .ok (.iastore, 1) := by decide +kernel
theorem dX4_note_21 : decode cX4_note 21 = .ok (.return_, 1) := by decide +kernel
theorem dX4_moves_0 : decode cX4_moves 0 = .ok (.iload_n 1, 1) := by decide +kernel
theorem dX4_moves_1 : decode cX4_moves 1 = .ok (.iload_n 2, 1) := by decide +kernel
theorem dX4_moves_2 : decode cX4_moves 2 = .ok (.invokestatic 32, 3) := by decide +kernel
theorem dX4_moves_5 : decode cX4_moves 5 = .ok (.ifCond .eq 13, 3) := by decide +kernel
theorem dX4_moves_8 : decode cX4_moves 8 = .ok (.aload_n 0, 1) := by decide +kernel
theorem dX4_moves_9 : decode cX4_moves 9 = .ok (.getfield 9, 3) := by decide +kernel
theorem dX4_moves_12 : decode cX4_moves 12 = .ok (.iload_n 1, 1) := by decide +kernel
theorem dX4_moves_13 : decode cX4_moves 13 = .ok (.iaload, 1) := by decide +kernel
theorem dX4_moves_14 : decode cX4_moves 14 = .ok (.iconst (-1), 1) := by decide +kernel
theorem dX4_moves_15 : decode cX4_moves 15 = .ok (.if_icmp .ne 5, 3) := by decide +kernel
theorem dX4_moves_18 : decode cX4_moves 18 = .ok (.iconst 0, 1) := by decide +kernel
theorem dX4_moves_19 : decode cX4_moves 19 = .ok (.ireturn, 1) := by decide +kernel
theorem dX4_moves_20 : decode cX4_moves 20 = .ok (.aload_n 0, 1) := by decide +kernel
theorem dX4_moves_21 : decode cX4_moves 21 = .ok (.getfield 9, 3) := by decide +kernel
theorem dX4_moves_24 : decode cX4_moves 24 = .ok (.iload_n 1, 1) := by decide +kernel
theorem dX4_moves_25 : decode cX4_moves 25 = .ok (.iaload, 1) := by decide +kernel
theorem dX4_moves_26 : decode cX4_moves 26 = .ok (.aload_n 0, 1) := by decide +kernel
theorem dX4_moves_27 : decode cX4_moves 27 = .ok (.getfield 9, 3) := by decide +kernel
theorem dX4_moves_30 : decode cX4_moves 30 = .ok (.iload_n 2, 1) := by decide +kernel
theorem dX4_moves_31 : decode cX4_moves 31 = .ok (.iaload, 1) := by decide +kernel
theorem dX4_moves_32 : decode cX4_moves 32 = .ok (.if_icmp .ne 22, 3) := by decide +kernel
theorem dX4_moves_35 : decode cX4_moves 35 = .ok (.aload_n 0, 1) := by decide +kernel
theorem dX4_moves_36 : decode cX4_moves 36 = .ok (.getfield 15, 3) := by decide +kernel
theorem dX4_moves_39 : decode cX4_moves 39 = .ok (.iload_n 1, 1) := by decide +kernel
theorem dX4_moves_40 : decode cX4_moves 40 = .ok (.iaload, 1) := by decide +kernel
theorem dX4_moves_41 : decode cX4_moves 41 = .ok (.aload_n 0, 1) := by decide +kernel
theorem dX4_moves_42 : decode cX4_moves 42 = .ok (.getfield 15, 3) := by decide +kernel
theorem dX4_moves_45 : decode cX4_moves 45 = .ok (.iload_n 2, 1) := by decide +kernel
theorem dX4_moves_46 : decode cX4_moves 46 = .ok (.iaload, 1) := by decide +kernel
theorem dX4_moves_47 : decode cX4_moves 47 = .ok (.if_icmp .le 7, 3) := by decide +kernel
theorem dX4_moves_50 : decode cX4_moves 50 = .ok (.iconst 1, 1) := by decide +kernel
theorem dX4_moves_51 : decode cX4_moves 51 = .ok (.goto 4, 3) := by decide +kernel
theorem dX4_moves_54 : decode cX4_moves 54 = .ok (.iconst 0, 1) := by decide +kernel
theorem dX4_moves_55 : decode cX4_moves 55 = .ok (.ireturn, 1) := by decide +kernel
theorem dX5_init_0 : decode cX5_init 0 = .ok (.aload_n 0, 1) := by decide +kernel
theorem dX5_init_1 : decode cX5_init 1 = .ok (.invokespecial 3, 3) := by decide +kernel
theorem dX5_init_4 : decode cX5_init 4 = .ok (.aload_n 0, 1) := by decide +kernel
theorem dX5_init_5 : decode cX5_init 5 = .ok (.bipush 10, 2) := by decide +kernel
theorem dX5_init_7 : decode cX5_init 7 = .ok (.newarray .int, 2) := by decide +kernel
theorem dX5_init_9 : decode cX5_init 9 = .ok (.putfield 9, 3) := by decide +kernel
theorem dX5_init_12 : decode cX5_init 12 = .ok (.aload_n 0, 1) := by decide +kernel
theorem dX5_init_13 : decode cX5_init 13 = .ok (.iconst 0, 1) := by decide +kernel
theorem dX5_init_14 : decode cX5_init 14 = .ok (.putfield 15, 3) := by decide +kernel
theorem dX5_init_17 : decode cX5_init 17 = .ok (.aload_n 0, 1) := by decide +kernel
theorem dX5_init_18 : decode cX5_init 18 = .ok (.bipush 11, 2) := by decide +kernel
theorem dX5_init_20 : decode cX5_init 20 = .ok (.newarray .int, 2) := by decide +kernel
theorem dX5_init_22 : decode cX5_init 22 = .ok (.putfield 19, 3) := by decide +kernel
theorem dX5_init_25 : decode cX5_init 25 = .ok (.aload_n 0, 1) := by decide +kernel
theorem dX5_init_26 : decode cX5_init 26 = .ok (.bipush 16, 2) := by decide +kernel
theorem dX5_init_28 : decode cX5_init 28 = .ok (.newarray .int, 2) := by decide +kernel
theorem dX5_init_30 : decode cX5_init 30 = .ok (.putfield 22, 3) := by decide +kernel
theorem dX5_init_33 : decode cX5_init 33 = .ok (.aload_n 0, 1) := by decide +kernel
theorem dX5_init_34 : decode cX5_init 34 = .ok (.bipush 16, 2) := by decide +kernel
theorem dX5_init_36 : decode cX5_init 36 = .ok (.newarray .int, 2) := by decide +kernel
theorem dX5_init_38 : decode cX5_init 38 = .ok (.putfield 25, 3) := by decide +kernel
theorem dX5_init_41 : decode cX5_init 41 = .ok (.aload_n 0, 1) := by decide +kernel
theorem dX5_init_42 : decode cX5_init 42 = .ok (.sipush 1024, 3) := by decide +kernel
theorem dX5_init_45 : decode cX5_init 45 = .ok (.newarray .int, 2) := by decide +kernel
theorem dX5_init_47 : decode cX5_init 47 = .ok (.putfield 28, 3) := by decide +kernel
theorem dX5_init_50 : decode cX5_init 50 = .ok (.aload_n 0, 1) := by decide +kernel
theorem dX5_init_51 : decode cX5_init 51 = .ok (.bipush 10, 2) := by decide +kernel
theorem dX5_init_53 : decode cX5_init 53 = .ok (.newarray .int, 2) := by decide +kernel
theorem dX5_init_55 : decode cX5_init 55 = .ok (.putfield 31, 3) := by decide +kernel
theorem dX5_init_58 : decode cX5_init 58 = .ok (.aload_n 0, 1) := by decide +kernel
theorem dX5_init_59 : decode cX5_init 59 = .ok (.bipush 10, 2) := by decide +kernel
theorem dX5_init_61 : decode cX5_init 61 = .ok (.newarray .int, 2) := by decide +kernel
theorem dX5_init_63 : decode cX5_init 63 = .ok (.putfield 34, 3) := by decide +kernel
theorem dX5_init_66 : decode cX5_init 66 = .ok (.aload_n 0, 1) := by decide +kernel
theorem dX5_init_67 : decode cX5_init 67 = .ok (.bipush 10, 2) := by decide +kernel
theorem dX5_init_69 : decode cX5_init 69 = .ok (.newarray .int, 2) := by decide +kernel
theorem dX5_init_71 : decode cX5_init 71 = .ok (.putfield 37, 3) := by decide +kernel
theorem dX5_init_74 : decode cX5_init 74 = .ok (.aload_n 0, 1) := by decide +kernel
theorem dX5_init_75 : decode cX5_init 75 = .ok (.bipush 100, 2) := by decide +kernel
theorem dX5_init_77 : decode cX5_init 77 = .ok (.newarray .int, 2) := by decide +kernel
theorem dX5_init_79 : decode cX5_init 79 = .ok (.putfield 40, 3) := by decide +kernel
theorem dX5_init_82 : decode cX5_init 82 = .ok (.aload_n 0, 1) := by decide +kernel
theorem dX5_init_83 : decode cX5_init 83 = .ok (.iconst 0, 1) := by decide +kernel
theorem dX5_init_84 : decode cX5_init 84 = .ok (.putfield 43, 3) := by decide +kernel
theorem dX5_init_87 : decode cX5_init 87 = .ok (.aload_n 0, 1) := by decide +kernel
theorem dX5_init_88 : decode cX5_init 88 = .ok (.iconst 0, 1) := by decide +kernel
theorem dX5_init_89 : decode cX5_init 89 = .ok (.putfield 46, 3) := by decide +kernel
theorem dX5_init_92 : decode cX5_init 92 = .ok (.aload_n 0, 1) := by decide +kernel
theorem dX5_init_93 : decode cX5_init 93 = .ok (.iconst 0, 1) := by decide +kernel
theorem dX5_init_94 : decode cX5_init 94 = .ok (.putfield 49, 3) := by decide +kernel
theorem dX5_init_97 : decode cX5_init 97 = .ok (.aload_n 0, 1) := by decide +kernel
theorem dX5_init_98 : decode cX5_init 98 = .ok (.aload_n 1, 1) := by decide +kernel
theorem dX5_init_99 : decode cX5_init 99 = .ok (.putfield 52, 3) := by decide +kernel
theorem dX5_init_102 : decode cX5_init 102 = .ok (.return_, 1) := by decide +kernel
theorem dX5_rank_0 : decode cX5_rank 0 = .ok (.aload_n 0, 1) := by decide +kernel
theorem dX5_rank_1 : decode cX5_rank 1 = .ok (.invokevirtual 56, 3) := by decide +kernel
theorem dX5_rank_4 : decode cX5_rank 4 = .ok (.aload_n 0, 1) := by decide +kernel
theorem dX5_rank_5 : decode cX5_rank 5 = .ok (.invokevirtual 59, 3) := by decide +kernel
theorem dX5_rank_8 : decode cX5_rank 8 = .ok (.aload_n 0, 1) := by decide +kernel
theorem dX5_rank_9 : decode cX5_rank 9 = .ok (.invokevirtual 62, 3) := by decide +kernel
theorem dX5_rank_12 : decode cX5_rank 12 = .ok (.aload_n 0, 1) := by decide +kernel
theorem dX5_rank_13 : decode cX5_rank 13 = .ok (.invokevirtual 65, 3) := by decide +kernel
theorem dX5_rank_16 : decode cX5_rank 16 = .ok (.aload_n 0, 1) := by decide +kernel
theorem dX5_rank_17 : decode cX5_rank 17 = .ok (.invokevirtual 68, 3) := by decide +kernel
theorem dX5_rank_20 : decode cX5_rank 20 = .ok (.aload_n 0, 1) := by decide +kernel
theorem dX5_rank_21 : decode cX5_rank 21 = .ok (.invokevirtual 71, 3) := by decide +kernel
theorem dX5_rank_24 : decode cX5_rank 24 = .ok (.return_, 1) := by decide +kernel
theorem dX5_placeAt_0 : decode cX5_placeAt 0 = .ok (.iload_n 1, 1) := by decide +kernel
theorem dX5_placeAt_1 : decode cX5_placeAt 1 = .ok (.ifCond .lt 20, 3) := by decide +kernel
theorem dX5_placeAt_4 : decode cX5_placeAt 4 = .ok (.iload_n 1, 1) := by decide +kernel
theorem dX5_placeAt_5 : decode cX5_placeAt 5 = .ok (.aload_n 0, 1) := by decide +kernel
theorem dX5_placeAt_6 : decode cX5_placeAt 6 = .ok (.getfield 15, 3) := by decide +kernel
theorem dX5_placeAt_9 : decode cX5_placeAt 9 = .ok (.if_icmp .ge 12, 3) := by decide +kernel
theorem dX5_placeAt_12 : decode cX5_placeAt 12 = .ok (.aload_n 0, 1) := by decide +kernel
theorem dX5_placeAt_13 : decode cX5_placeAt 13 = .ok (.getfield 31, 3) := by decide +kernel
theorem dX5_placeAt_16 : decode cX5_placeAt 16 = .ok (.iload_n 1, 1) := by decide +kernel
theorem dX5_placeAt_17 : decode cX5_placeAt 17 = .ok (.iaload, 1) := by decide +kernel
theorem dX5_placeAt_18 : decode cX5_placeAt 18 = .ok (.goto 4, 3) := by decide +kernel
theorem dX5_placeAt_21 : decode cX5_placeAt 21 = .ok (.iconst (-1), 1) := by decide +kernel
theorem dX5_placeAt_22 : decode cX5_placeAt 22 = .ok (.ireturn, 1) := by decide +kernel
theorem dX5_layerOf_0 : decode cX5_layerOf 0 = .ok (.aload_n 0, 1) := by decide +kernel
theorem dX5_layerOf_1 : decode cX5_layerOf 1 = .ok (.getfield 37, 3) := by decide +kernel
theorem dX5_layerOf_4 : decode cX5_layerOf 4 = .ok (.iload_n 1, 1) := by decide +kernel
theorem dX5_layerOf_5 : decode cX5_layerOf 5 = .ok (.iaload, 1) := by decide +kernel
theorem dX5_layerOf_6 : decode cX5_layerOf 6 = .ok (.ireturn, 1) := by decide +kernel
theorem dX5_layers_0 : decode cX5_layers 0 = .ok (.aload_n 0, 1) := by decide +kernel
theorem dX5_layers_1 : decode cX5_layers 1 = .ok (.getfield 43, 3) := by decide +kernel
theorem dX5_layers_4 : decode cX5_layers 4 = .ok (.ireturn, 1) := by decide +kernel
theorem dX5_turnedNumber_0 : decode cX5_turnedNumber 0 = .ok (.aload_n 0, 1) := by decide +kernel
theorem dX5_turnedNumber_1 : decode cX5_turnedNumber 1 = .ok (.getfield 46, 3) := by decide +kernel
theorem dX5_turnedNumber_4 : decode cX5_turnedNumber 4 = .ok (.ireturn, 1) := by decide +kernel
theorem dX5_turnedSum_0 : decode cX5_turnedSum 0 = .ok (.aload_n 0, 1) := by decide +kernel
theorem dX5_turnedSum_1 : decode cX5_turnedSum 1 = .ok (.getfield 49, 3) := by decide +kernel
theorem dX5_turnedSum_4 : decode cX5_turnedSum 4 = .ok (.ireturn, 1) := by decide +kernel
theorem dX5_turns_0 : decode cX5_turns 0 = .ok (.aload_n 0, 1) := by decide +kernel
theorem dX5_turns_1 : decode cX5_turns 1 = .ok (.getfield 34, 3) := by decide +kernel
theorem dX5_turns_4 : decode cX5_turns 4 = .ok (.iload_n 2, 1) := by decide +kernel
theorem dX5_turns_5 : decode cX5_turns 5 = .ok (.iaload, 1) := by decide +kernel
theorem dX5_turns_6 : decode cX5_turns 6 = .ok (.aload_n 0, 1) := by decide +kernel
theorem dX5_turns_7 : decode cX5_turns 7 = .ok (.getfield 34, 3) := by decide +kernel
theorem dX5_turns_10 : decode cX5_turns 10 = .ok (.iload_n 1, 1) := by decide +kernel
theorem dX5_turns_11 : decode cX5_turns 11 = .ok (.iaload, 1) := by decide +kernel
theorem dX5_turns_12 : decode cX5_turns 12 = .ok (.if_icmp .ge 7, 3) := by decide +kernel
theorem dX5_turns_15 : decode cX5_turns 15 = .ok (.iconst 1, 1) := by decide +kernel
theorem dX5_turns_16 : decode cX5_turns 16 = .ok (.goto 4, 3) := by decide +kernel
theorem dX5_turns_19 : decode cX5_turns 19 = .ok (.iconst 0, 1) := by decide +kernel
theorem dX5_turns_20 : decode cX5_turns 20 = .ok (.ireturn, 1) := by decide +kernel
theorem dX5_straight_0 : decode cX5_straight 0 = .ok (.iload_n 1, 1) := by decide +kernel
theorem dX5_straight_1 : decode cX5_straight 1 = .ok (.iload_n 2, 1) := by decide +kernel
theorem dX5_straight_2 : decode cX5_straight 2 = .ok (.invokestatic 74, 3) := by decide +kernel
theorem dX5_straight_5 : decode cX5_straight 5 = .ok (.ifCond .eq 17, 3) := by decide +kernel
theorem dX5_straight_8 : decode cX5_straight 8 = .ok (.aload_n 0, 1) := by decide +kernel
theorem dX5_straight_9 : decode cX5_straight 9 = .ok (.getfield 40, 3) := by decide +kernel
theorem dX5_straight_12 : decode cX5_straight 12 = .ok (.iload_n 1, 1) := by decide +kernel
theorem dX5_straight_13 : decode cX5_straight 13 = .ok (.bipush 10, 2) := by decide +kernel
theorem dX5_straight_15 : decode cX5_straight 15 = .ok (.imul, 1) := by decide +kernel
theorem dX5_straight_16 : decode cX5_straight 16 = .ok (.iload_n 2, 1) := by decide +kernel
theorem dX5_straight_17 : decode cX5_straight 17 = .ok (.iadd, 1) := by decide +kernel
theorem dX5_straight_18 : decode cX5_straight 18 = .ok (.iaload, 1) := by decide +kernel
theorem dX5_straight_19 : decode cX5_straight 19 = .ok (.goto 4, 3) := by decide +kernel
theorem dX5_straight_22 : decode cX5_straight 22 = .ok (.iconst 0, 1) := by decide +kernel
theorem dX5_straight_23 : decode cX5_straight 23 = .ok (.ireturn, 1) := by decide +kernel
theorem dX5_links_0 : decode cX5_links 0 = .ok (.aload_n 0, 1) := by decide +kernel
theorem dX5_links_1 : decode cX5_links 1 = .ok (.getfield 40, 3) := by decide +kernel
theorem dX5_links_4 : decode cX5_links 4 = .ok (.iload_n 1, 1) := by decide +kernel
theorem dX5_links_5 : decode cX5_links 5 = .ok (.bipush 10, 2) := by decide +kernel
theorem dX5_links_7 : decode cX5_links 7 = .ok (.imul, 1) := by decide +kernel
theorem dX5_links_8 : decode cX5_links 8 = .ok (.iload_n 2, 1) := by decide +kernel
theorem dX5_links_9 : decode cX5_links 9 = .ok (.iadd, 1) := by decide +kernel
theorem dX5_links_10 : decode cX5_links 10 = .ok (.iaload, 1) := by decide +kernel
theorem dX5_links_11 : decode cX5_links 11 = .ok (.ifCond .le 27, 3) := by decide +kernel
theorem dX5_links_14 : decode cX5_links 14 = .ok (.aload_n 0, 1) := by decide +kernel
theorem dX5_links_15 : decode cX5_links 15 = .ok (.getfield 37, 3) := by decide +kernel
theorem dX5_links_18 : decode cX5_links 18 = .ok (.iload_n 1, 1) := by decide +kernel
theorem dX5_links_19 : decode cX5_links 19 = .ok (.iaload, 1) := by decide +kernel
theorem dX5_links_20 : decode cX5_links 20 = .ok (.iload_n 3, 1) := by decide +kernel
theorem dX5_links_21 : decode cX5_links 21 = .ok (.if_icmp .gt 17, 3) := by decide +kernel
theorem dX5_links_24 : decode cX5_links 24 = .ok (.iload_n 3, 1) := by decide +kernel
theorem dX5_links_25 : decode cX5_links 25 = .ok (.aload_n 0, 1) := by decide +kernel
theorem dX5_links_26 : decode cX5_links 26 = .ok (.getfield 37, 3) := by decide +kernel
theorem dX5_links_29 : decode cX5_links 29 = .ok (.iload_n 2, 1) := by decide +kernel
theorem dX5_links_30 : decode cX5_links 30 = .ok (.iaload, 1) := by decide +kernel
theorem dX5_links_31 : decode cX5_links 31 = .ok (.if_icmp .ge 7, 3) := by decide +kernel
theorem dX5_links_34 : decode cX5_links 34 = .ok (.iconst 1, 1) := by decide +kernel
theorem dX5_links_35 : decode cX5_links 35 = .ok (.goto 4, 3) := by decide +kernel
theorem dX5_links_38 : decode cX5_links 38 = .ok (.iconst 0, 1) := by decide +kernel
theorem dX5_links_39 : decode cX5_links 39 = .ok (.ireturn, 1) := by decide +kernel
theorem dX5_itemOf_0 : decode cX5_itemOf 0 = .ok (.iload_n 3, 1) := by decide +kernel
theorem dX5_itemOf_1 : decode cX5_itemOf 1 = .ok (.aload_n 0, 1) := by decide +kernel
theorem dX5_itemOf_2 : decode cX5_itemOf 2 = .ok (.getfield 37, 3) := by decide +kernel
theorem dX5_itemOf_5 : decode cX5_itemOf 5 = .ok (.iload_n 1, 1) := by decide +kernel
theorem dX5_itemOf_6 : decode cX5_itemOf 6 = .ok (.iaload, 1) := by decide +kernel
theorem dX5_itemOf_7 : decode cX5_itemOf 7 = .ok (.if_icmp .ne 5, 3) := by decide +kernel
theorem dX5_itemOf_10 : decode cX5_itemOf 10 = .ok (.iload_n 1, 1) := by decide +kernel
theorem dX5_itemOf_11 : decode cX5_itemOf 11 = .ok (.ireturn, 1) := by decide +kernel
theorem dX5_itemOf_12 : decode cX5_itemOf 12 = .ok (.iload_n 3, 1) := by decide +kernel
theorem dX5_itemOf_13 : decode cX5_itemOf 13 = .ok (.aload_n 0, 1) := by decide +kernel
theorem dX5_itemOf_14 : decode cX5_itemOf 14 = .ok (.getfield 37, 3) := by decide +kernel
theorem dX5_itemOf_17 : decode cX5_itemOf 17 = .ok (.iload_n 2, 1) := by decide +kernel
theorem dX5_itemOf_18 : decode cX5_itemOf 18 = .ok (.iaload, 1) := by decide +kernel
theorem dX5_itemOf_19 : decode cX5_itemOf 19 = .ok (.if_icmp .ne 7, 3) := by decide +kernel
theorem dX5_itemOf_22 : decode cX5_itemOf 22 = .ok (.iload_n 2, 1) := by decide +kernel
theorem dX5_itemOf_23 : decode cX5_itemOf 23 = .ok (.goto 12, 3) := by decide +kernel
theorem dX5_itemOf_26 : decode cX5_itemOf 26 = .ok (.bipush 100, 2) := by decide +kernel
theorem dX5_itemOf_28 : decode cX5_itemOf 28 = .ok (.bipush 10, 2) := by decide +kernel
theorem dX5_itemOf_30 : decode cX5_itemOf 30 = .ok (.iload_n 1, 1) := by decide +kernel
theorem dX5_itemOf_31 : decode cX5_itemOf 31 = .ok (.imul, 1) := by decide +kernel
theorem dX5_itemOf_32 : decode cX5_itemOf 32 = .ok (.iadd, 1) := by decide +kernel
theorem dX5_itemOf_33 : decode cX5_itemOf 33 = .ok (.iload_n 2, 1) := by decide +kernel
theorem dX5_itemOf_34 : decode cX5_itemOf 34 = .ok (.iadd, 1) := by decide +kernel
theorem dX5_itemOf_35 : decode cX5_itemOf 35 = .ok (.ireturn, 1) := by decide +kernel
theorem dX5_gatherUsed_0 : decode cX5_gatherUsed 0 = .ok (.aload_n 0, 1) := by decide +kernel
theorem dX5_gatherUsed_1 : decode cX5_gatherUsed 1 = .ok (.iconst 0, 1) := by decide +kernel
theorem dX5_gatherUsed_2 : decode cX5_gatherUsed 2 = .ok (.putfield 15, 3) := by decide +kernel
theorem dX5_gatherUsed_5 : decode cX5_gatherUsed 5 = .ok (.iconst 0, 1) := by decide +kernel
theorem dX5_gatherUsed_6 : decode cX5_gatherUsed 6 = .ok (.istore_n 1, 1) := by decide +kernel
theorem dX5_gatherUsed_7 : decode cX5_gatherUsed 7 = .ok (.iload_n 1, 1) := by decide +kernel
theorem dX5_gatherUsed_8 : decode cX5_gatherUsed 8 = .ok (.bipush 10, 2) := by decide +kernel
theorem dX5_gatherUsed_10 : decode cX5_gatherUsed 10 = .ok (.if_icmp .ge 40, 3) := by decide +kernel
theorem dX5_gatherUsed_13 : decode cX5_gatherUsed 13 = .ok (.aload_n 0, 1) := by decide +kernel
theorem dX5_gatherUsed_14 : decode cX5_gatherUsed 14 = .ok (.getfield 52, 3) := by decide +kernel
theorem dX5_gatherUsed_17 : decode cX5_gatherUsed 17 = .ok (.iload_n 1, 1) := by decide +kernel
theorem dX5_gatherUsed_18 : decode cX5_gatherUsed 18 = .ok (.invokevirtual 78, 3) := by decide +kernel
theorem dX5_gatherUsed_21 : decode cX5_gatherUsed 21 = .ok (.ifCond .eq 23, 3) := by decide +kernel
theorem dX5_gatherUsed_24 : decode cX5_gatherUsed 24 = .ok (.aload_n 0, 1) := by decide +kernel
theorem dX5_gatherUsed_25 : decode cX5_gatherUsed 25 = .ok (.getfield 9, 3) := by decide +kernel
theorem dX5_gatherUsed_28 : decode cX5_gatherUsed 28 = .ok (.aload_n 0, 1) := by decide +kernel
theorem dX5_gatherUsed_29 : decode cX5_gatherUsed 29 = .ok (.getfield 15, 3) := by decide +kernel
theorem dX5_gatherUsed_32 : decode cX5_gatherUsed 32 = .ok (.iload_n 1, 1) := by decide +kernel
theorem dX5_gatherUsed_33 : decode cX5_gatherUsed 33 = .ok (.iastore, 1) := by decide +kernel
theorem dX5_gatherUsed_34 : decode cX5_gatherUsed 34 = .ok (.aload_n 0, 1) := by decide +kernel
theorem dX5_gatherUsed_35 : decode cX5_gatherUsed 35 = .ok (.dup, 1) := by decide +kernel
theorem dX5_gatherUsed_36 : decode cX5_gatherUsed 36 = .ok (.getfield 15, 3) := by decide +kernel
theorem dX5_gatherUsed_39 : decode cX5_gatherUsed 39 = .ok (.iconst 1, 1) := by decide +kernel
theorem dX5_gatherUsed_40 : decode cX5_gatherUsed 40 = .ok (.iadd, 1) := by decide +kernel
theorem dX5_gatherUsed_41 : decode cX5_gatherUsed 41 = .ok (.putfield 15, 3) := by decide +kernel
theorem dX5_gatherUsed_44 : decode cX5_gatherUsed 44 = .ok (.iinc 1 1, 3) := by decide +kernel
theorem dX5_gatherUsed_47 : decode cX5_gatherUsed 47 = .ok (.goto (-40), 3) := by decide +kernel
theorem dX5_gatherUsed_50 : decode cX5_gatherUsed 50 = .ok (.return_, 1) := by decide +kernel
theorem dX5_gatherSources_0 : decode cX5_gatherSources 0 = .ok (.iconst 0, 1) := by decide +kernel
theorem dX5_gatherSources_1 : decode cX5_gatherSources 1 = .ok (.istore_n 1, 1) := by decide +kernel
theorem dX5_gatherSources_2 : decode cX5_gatherSources 2 = .ok (.iconst 0, 1) := by decide +kernel
theorem dX5_gatherSources_3 : decode cX5_gatherSources 3 = .ok (.istore_n 2, 1) := by decide +kernel
theorem dX5_gatherSources_4 : decode cX5_gatherSources 4 = .ok (.iload_n 2, 1) := by decide +kernel
theorem dX5_gatherSources_5 : decode cX5_gatherSources 5 = .ok (.aload_n 0, 1) := by decide +kernel
theorem dX5_gatherSources_6 : decode cX5_gatherSources 6 = .ok (.getfield 15, 3) := by decide +kernel
theorem dX5_gatherSources_9 : decode cX5_gatherSources 9 = .ok (.if_icmp .ge 84, 3) := by decide +kernel
theorem dX5_gatherSources_12 : decode cX5_gatherSources 12 = .ok (.aload_n 0, 1) := by decide +kernel
theorem dX5_gatherSources_13 : decode cX5_gatherSources 13 = .ok (.getfield 19, 3) := by decide +kernel
theorem dX5_gatherSources_16 : decode cX5_gatherSources 16 = .ok (.iload_n 2, 1) := by decide +kernel
theorem dX5_gatherSources_17 : decode cX5_gatherSources 17 = .ok (.iload_n 1, 1) := by decide +kernel
theorem dX5_gatherSources_18 : decode cX5_gatherSources 18 = .ok (.iastore, 1) := by decide +kernel
theorem dX5_gatherSources_19 : decode cX5_gatherSources 19 = .ok (.iconst 0, 1) := by decide +kernel
theorem dX5_gatherSources_20 : decode cX5_gatherSources 20 = .ok (.istore_n 3, 1) := by decide +kernel
theorem dX5_gatherSources_21 : decode cX5_gatherSources 21 = .ok (.iload_n 3, 1) := by decide +kernel
theorem dX5_gatherSources_22 : decode cX5_gatherSources 22 = .ok (.aload_n 0, 1) := by decide +kernel
theorem dX5_gatherSources_23 : decode cX5_gatherSources 23 = .ok (.getfield 15, 3) := by decide +kernel
theorem dX5_gatherSources_26 : decode cX5_gatherSources 26 = .ok (.if_icmp .ge 61, 3) := by decide +kernel
theorem dX5_gatherSources_29 : decode cX5_gatherSources 29 = .ok (.aload_n 0, 1) := by decide +kernel
theorem dX5_gatherSources_30 : decode cX5_gatherSources 30 = .ok (.getfield 52, 3) := by decide +kernel
theorem dX5_gatherSources_33 : decode cX5_gatherSources 33 = .ok (.aload_n 0, 1) := by decide +kernel
theorem dX5_gatherSources_34 : decode cX5_gatherSources 34 = .ok (.getfield 9, 3) := by decide +kernel
theorem dX5_gatherSources_37 : decode cX5_gatherSources 37 = .ok (.iload_n 3, 1) := by decide +kernel
theorem dX5_gatherSources_38 : decode cX5_gatherSources 38 = .ok (.iaload, 1) := by decide +kernel
theorem dX5_gatherSources_39 : decode cX5_gatherSources 39 = .ok (.aload_n 0, 1) := by decide +kernel
theorem dX5_gatherSources_40 : decode cX5_gatherSources 40 = .ok (.getfield 9, 3) := by decide +kernel
theorem dX5_gatherSources_43 : decode cX5_gatherSources 43 = .ok (.iload_n 2, 1) := by decide +kernel
theorem dX5_gatherSources_44 : decode cX5_gatherSources 44 = .ok (.iaload, 1) := by decide +kernel
theorem dX5_gatherSources_45 : decode cX5_gatherSources 45 = .ok (.invokevirtual 84, 3) := by decide +kernel
theorem dX5_gatherSources_48 : decode cX5_gatherSources 48 = .ok (.istore 4, 2) := by decide +kernel
theorem dX5_gatherSources_50 : decode cX5_gatherSources 50 = .ok (.iload 4, 2) := by decide +kernel
theorem dX5_gatherSources_52 : decode cX5_gatherSources 52 = .ok (.ifCond .le 29, 3) := by decide +kernel
theorem dX5_gatherSources_55 : decode cX5_gatherSources 55 = .ok (.iload_n 1, 1) := by decide +kernel
theorem dX5_gatherSources_56 : decode cX5_gatherSources 56 = .ok (.bipush 16, 2) := by decide +kernel
theorem dX5_gatherSources_58 : decode cX5_gatherSources 58 = .ok (.if_icmp .ge 23, 3) := by decide +kernel
theorem dX5_gatherSources_61 : decode cX5_gatherSources 61 = .ok (.aload_n 0, 1) := by decide +kernel
theorem dX5_gatherSources_62 : decode cX5_gatherSources 62 = .ok (.getfield 22, 3) := by decide +kernel
theorem dX5_gatherSources_65 : decode cX5_gatherSources 65 = .ok (.iload_n 1, 1) := by decide +kernel
theorem dX5_gatherSources_66 : decode cX5_gatherSources 66 = .ok (.iconst 1, 1) := by decide +kernel
theorem dX5_gatherSources_67 : decode cX5_gatherSources 67 = .ok (.iload_n 3, 1) := by decide +kernel
theorem dX5_gatherSources_68 : decode cX5_gatherSources 68 = .ok (.ishl, 1) := by decide +kernel
theorem dX5_gatherSources_69 : decode cX5_gatherSources 69 = .ok (.iastore, 1) := by decide +kernel
theorem dX5_gatherSources_70 : decode cX5_gatherSources 70 = .ok (.aload_n 0, 1) := by decide +kernel
theorem dX5_gatherSources_71 : decode cX5_gatherSources 71 = .ok (.getfield 25, 3) := by decide +kernel
theorem dX5_gatherSources_74 : decode cX5_gatherSources 74 = .ok (.iload_n 1, 1) := by decide +kernel
theorem dX5_gatherSources_75 : decode cX5_gatherSources 75 = .ok (.iload 4, 2) := by decide +kernel
theorem dX5_gatherSources_77 : decode cX5_gatherSources 77 = .ok (.iastore, 1) := by decide +kernel
theorem dX5_gatherSources_78 : decode cX5_gatherSources 78 = .ok (.iinc 1 1, 3) := by decide +kernel
theorem dX5_gatherSources_81 : decode cX5_gatherSources 81 = .ok (.iinc 3 1, 3) := by decide +kernel
theorem dX5_gatherSources_84 : decode cX5_gatherSources 84 = .ok (.goto (-63), 3) := by decide +kernel
theorem dX5_gatherSources_87 : decode cX5_gatherSources 87 = .ok (.iinc 2 1, 3) := by decide +kernel
theorem dX5_gatherSources_90 : decode cX5_gatherSources 90 = .ok (.goto (-86), 3) := by decide +kernel
theorem dX5_gatherSources_93 : decode cX5_gatherSources 93 = .ok (.aload_n 0, 1) := by decide +kernel
theorem dX5_gatherSources_94 : decode cX5_gatherSources 94 = .ok (.getfield 19, 3) := by decide +kernel
theorem dX5_gatherSources_97 : decode cX5_gatherSources 97 = .ok (.aload_n 0, 1) := by decide +kernel
theorem dX5_gatherSources_98 : decode cX5_gatherSources 98 = .ok (.getfield 15, 3) := by decide +kernel
theorem dX5_gatherSources_101 : decode cX5_gatherSources 101 = .ok (.iload_n 1, 1) := by decide +kernel
theorem dX5_gatherSources_102 : decode cX5_gatherSources 102 = .ok (.iastore, 1) := by decide +kernel
theorem dX5_gatherSources_103 : decode cX5_gatherSources 103 = .ok (.return_, 1) := by decide +kernel
theorem dX5_weighSets_0 : decode cX5_weighSets 0 = .ok (.aload_n 0, 1) := by decide +kernel
theorem dX5_weighSets_1 : decode cX5_weighSets 1 = .ok (.getfield 28, 3) := by decide +kernel
theorem dX5_weighSets_4 : decode cX5_weighSets 4 = .ok (.iconst 0, 1) := by decide +kernel
theorem dX5_weighSets_5 : decode cX5_weighSets 5 = .ok (.iconst 0, 1) := by decide +kernel
theorem dX5_weighSets_6 : decode cX5_weighSets 6 = .ok (.iastore, 1) := by decide +kernel
theorem dX5_weighSets_7 : decode cX5_weighSets 7 = .ok (.iconst 1, 1) := by decide +kernel
theorem dX5_weighSets_8 : decode cX5_weighSets 8 = .ok (.istore_n 1, 1) := by decide +kernel
theorem dX5_weighSets_9 : decode cX5_weighSets 9 = .ok (.iload_n 1, 1) := by decide +kernel
theorem dX5_weighSets_10 : decode cX5_weighSets 10 = .ok (.iconst 1, 1) := by decide +kernel
theorem dX5_weighSets_11 : decode cX5_weighSets 11 = .ok (.aload_n 0, 1) := by decide +kernel
theorem dX5_weighSets_12 : decode cX5_weighSets 12 = .ok (.getfield 15, 3) := by decide +kernel
theorem dX5_weighSets_15 : decode cX5_weighSets 15 = .ok (.ishl, 1) := by decide +kernel
theorem dX5_weighSets_16 : decode cX5_weighSets 16 = .ok (.if_icmp .ge 61, 3) := by decide +kernel
theorem dX5_weighSets_19 : decode cX5_weighSets 19 = .ok (.ldc 90, 2) := by decide +kernel
theorem dX5_weighSets_21 : decode cX5_weighSets 21 = .ok (.istore_n 2, 1) := by decide +kernel
theorem dX5_weighSets_22 : decode cX5_weighSets 22 = .ok (.iconst 0, 1) := by decide +kernel
theorem dX5_weighSets_23 : decode cX5_weighSets 23 = .ok (.istore_n 3, 1) := by decide +kernel
theorem dX5_weighSets_24 : decode cX5_weighSets 24 = .ok (.iload_n 3, 1) := by decide +kernel
theorem dX5_weighSets_25 : decode cX5_weighSets 25 = .ok (.aload_n 0, 1) := by decide +kernel
theorem dX5_weighSets_26 : decode cX5_weighSets 26 = .ok (.getfield 15, 3) := by decide +kernel
theorem dX5_weighSets_29 : decode cX5_weighSets 29 = .ok (.if_icmp .ge 35, 3) := by decide +kernel
theorem dX5_weighSets_32 : decode cX5_weighSets 32 = .ok (.iconst 1, 1) := by decide +kernel
theorem dX5_weighSets_33 : decode cX5_weighSets 33 = .ok (.iload_n 3, 1) := by decide +kernel
theorem dX5_weighSets_34 : decode cX5_weighSets 34 = .ok (.ishl, 1) := by decide +kernel
theorem dX5_weighSets_35 : decode cX5_weighSets 35 = .ok (.istore 4, 2) := by decide +kernel
theorem dX5_weighSets_37 : decode cX5_weighSets 37 = .ok (.iload_n 1, 1) := by decide +kernel
theorem dX5_weighSets_38 : decode cX5_weighSets 38 = .ok (.iload 4, 2) := by decide +kernel
theorem dX5_weighSets_40 : decode cX5_weighSets 40 = .ok (.iand, 1) := by decide +kernel
theorem dX5_weighSets_41 : decode cX5_weighSets 41 = .ok (.ifCond .eq 17, 3) := by decide +kernel
theorem dX5_weighSets_44 : decode cX5_weighSets 44 = .ok (.iload_n 2, 1) := by decide +kernel
theorem dX5_weighSets_45 : decode cX5_weighSets 45 = .ok (.aload_n 0, 1) := by decide +kernel
theorem dX5_weighSets_46 : decode cX5_weighSets 46 = .ok (.iload_n 3, 1) := by decide +kernel
theorem dX5_weighSets_47 : decode cX5_weighSets 47 = .ok (.iload_n 1, 1) := by decide +kernel
theorem dX5_weighSets_48 : decode cX5_weighSets 48 = .ok (.iload 4, 2) := by decide +kernel
theorem dX5_weighSets_50 : decode cX5_weighSets 50 = .ok (.ixor, 1) := by decide +kernel
theorem dX5_weighSets_51 : decode cX5_weighSets 51 = .ok (.invokevirtual 91, 3) := by decide +kernel
theorem dX5_weighSets_54 : decode cX5_weighSets 54 = .ok (.invokestatic 94, 3) := by decide +kernel
theorem dX5_weighSets_57 : decode cX5_weighSets 57 = .ok (.istore_n 2, 1) := by decide +kernel
theorem dX5_weighSets_58 : decode cX5_weighSets 58 = .ok (.iinc 3 1, 3) := by decide +kernel
theorem dX5_weighSets_61 : decode cX5_weighSets 61 = .ok (.goto (-37), 3) := by decide +kernel
theorem dX5_weighSets_64 : decode cX5_weighSets 64 = .ok (.aload_n 0, 1) := by decide +kernel
theorem dX5_weighSets_65 : decode cX5_weighSets 65 = .ok (.getfield 28, 3) := by decide +kernel
theorem dX5_weighSets_68 : decode cX5_weighSets 68 = .ok (.iload_n 1, 1) := by decide +kernel
theorem dX5_weighSets_69 : decode cX5_weighSets 69 = .ok (.iload_n 2, 1) := by decide +kernel
theorem dX5_weighSets_70 : decode cX5_weighSets 70 = .ok (.iastore, 1) := by decide +kernel
theorem dX5_weighSets_71 : decode cX5_weighSets 71 = .ok (.iinc 1 1, 3) := by decide +kernel
theorem dX5_weighSets_74 : decode cX5_weighSets 74 = .ok (.goto (-65), 3) := by decide +kernel
theorem dX5_weighSets_77 : decode cX5_weighSets 77 = .ok (.return_, 1) := by decide +kernel
theorem dX5_sumWithFirst_0 : decode cX5_sumWithFirst 0 = .ok (.aload_n 0, 1) := by decide +kernel
theorem dX5_sumWithFirst_1 : decode cX5_sumWithFirst 1 = .ok (.getfield 28, 3) := by decide +kernel
theorem dX5_sumWithFirst_4 : decode cX5_sumWithFirst 4 = .ok (.iload_n 2, 1) := by decide +kernel
theorem dX5_sumWithFirst_5 : decode cX5_sumWithFirst 5 = .ok (.iaload, 1) := by decide +kernel
theorem dX5_sumWithFirst_6 : decode cX5_sumWithFirst 6 = .ok (.istore_n 3, 1) := by decide +kernel
theorem dX5_sumWithFirst_7 : decode cX5_sumWithFirst 7 = .ok (.aload_n 0, 1) := by decide +kernel
theorem dX5_sumWithFirst_8 : decode cX5_sumWithFirst 8 = .ok (.getfield 19, 3) := by decide +kernel
theorem dX5_sumWithFirst_11 : decode cX5_sumWithFirst 11 = .ok (.iload_n 1, 1) := by decide +kernel
theorem dX5_sumWithFirst_12 : decode cX5_sumWithFirst 12 = .ok (.iaload, 1) := by decide +kernel
theorem dX5_sumWithFirst_13 : decode cX5_sumWithFirst 13 = .ok (.istore 4, 2) := by decide +kernel
theorem dX5_sumWithFirst_15 : decode cX5_sumWithFirst 15 = .ok (.iload 4, 2) := by decide +kernel
theorem dX5_sumWithFirst_17 : decode cX5_sumWithFirst 17 = .ok (.aload_n 0, 1) := by decide +kernel
theorem dX5_sumWithFirst_18 : decode cX5_sumWithFirst 18 = .ok (.getfield 19, 3) := by decide +kernel
theorem dX5_sumWithFirst_21 : decode cX5_sumWithFirst 21 = .ok (.iload_n 1, 1) := by decide +kernel
theorem dX5_sumWithFirst_22 : decode cX5_sumWithFirst 22 = .ok (.iconst 1, 1) := by decide +kernel
theorem dX5_sumWithFirst_23 : decode cX5_sumWithFirst 23 = .ok (.iadd, 1) := by decide +kernel
theorem dX5_sumWithFirst_24 : decode cX5_sumWithFirst 24 = .ok (.iaload, 1) := by decide +kernel
theorem dX5_sumWithFirst_25 : decode cX5_sumWithFirst 25 = .ok (.if_icmp .ge 31, 3) := by decide +kernel
theorem dX5_sumWithFirst_28 : decode cX5_sumWithFirst 28 = .ok (.iload_n 2, 1) := by decide +kernel
theorem dX5_sumWithFirst_29 : decode cX5_sumWithFirst 29 = .ok (.aload_n 0, 1) := by decide +kernel
theorem dX5_sumWithFirst_30 : decode cX5_sumWithFirst 30 = .ok (.getfield 22, 3) := by decide +kernel
theorem dX5_sumWithFirst_33 : decode cX5_sumWithFirst 33 = .ok (.iload 4, 2) := by decide +kernel
theorem dX5_sumWithFirst_35 : decode cX5_sumWithFirst 35 = .ok (.iaload, 1) := by decide +kernel
theorem dX5_sumWithFirst_36 : decode cX5_sumWithFirst 36 = .ok (.iand, 1) := by decide +kernel
theorem dX5_sumWithFirst_37 : decode cX5_sumWithFirst 37 = .ok (.ifCond .eq 13, 3) := by decide +kernel
theorem dX5_sumWithFirst_40 : decode cX5_sumWithFirst 40 = .ok (.iload_n 3, 1) := by decide +kernel
theorem dX5_sumWithFirst_41 : decode cX5_sumWithFirst 41 = .ok (.aload_n 0, 1) := by decide +kernel
theorem dX5_sumWithFirst_42 : decode cX5_sumWithFirst 42 = .ok (.getfield 25, 3) := by decide +kernel
theorem dX5_sumWithFirst_45 : decode cX5_sumWithFirst 45 = .ok (.iload 4, 2) := by decide +kernel
theorem dX5_sumWithFirst_47 : decode cX5_sumWithFirst 47 = .ok (.iaload, 1) := by decide +kernel
theorem dX5_sumWithFirst_48 : decode cX5_sumWithFirst 48 = .ok (.iadd, 1) := by decide +kernel
theorem dX5_sumWithFirst_49 : decode cX5_sumWithFirst 49 = .ok (.istore_n 3, 1) := by decide +kernel
end
section
theorem dX5_sumWithFirst_50 : decode cX5_sumWithFirst 50 = .ok (.iinc 4 1, 3) := by decide +kernel
theorem dX5_sumWithFirst_53 : decode cX5_sumWithFirst 53 = .ok (.goto (-38), 3) := by decide +kernel
theorem dX5_sumWithFirst_56 : decode cX5_sumWithFirst 56 = .ok (.iload_n 3, 1) := by decide +kernel
theorem dX5_sumWithFirst_57 : decode cX5_sumWithFirst 57 = .ok (.ireturn, 1) := by decide +kernel
theorem dX5_lineUp_0 : decode cX5_lineUp 0 = .ok (.aload_n 0, 1) := by decide +kernel
theorem dX5_lineUp_1 : decode cX5_lineUp 1 = .ok (.getfield 34, 3) := by decide +kernel
theorem dX5_lineUp_4 : decode cX5_lineUp 4 = .ok (.iconst (-1), 1) := by decide +kernel
theorem dX5_lineUp_5 : decode cX5_lineUp 5 = .ok (.invokestatic 99, 3) := by decide +kernel
theorem dX5_lineUp_8 : decode cX5_lineUp 8 = .ok (.iconst 1, 1) := by decide +kernel
theorem dX5_lineUp_9 : decode cX5_lineUp 9 = .ok (.aload_n 0, 1) := by decide +kernel
theorem dX5_lineUp_10 : decode cX5_lineUp 10 = .ok (.getfield 15, 3) := by decide +kernel
theorem dX5_lineUp_13 : decode cX5_lineUp 13 = .ok (.ishl, 1) := by decide +kernel
theorem dX5_lineUp_14 : decode cX5_lineUp 14 = .ok (.iconst 1, 1) := by decide +kernel
theorem dX5_lineUp_15 : decode cX5_lineUp 15 = .ok (.isub, 1) := by decide +kernel
theorem dX5_lineUp_16 : decode cX5_lineUp 16 = .ok (.istore_n 1, 1) := by decide +kernel
theorem dX5_lineUp_17 : decode cX5_lineUp 17 = .ok (.iconst 0, 1) := by decide +kernel
theorem dX5_lineUp_18 : decode cX5_lineUp 18 = .ok (.istore_n 2, 1) := by decide +kernel
theorem dX5_lineUp_19 : decode cX5_lineUp 19 = .ok (.iload_n 2, 1) := by decide +kernel
theorem dX5_lineUp_20 : decode cX5_lineUp 20 = .ok (.aload_n 0, 1) := by decide +kernel
theorem dX5_lineUp_21 : decode cX5_lineUp 21 = .ok (.getfield 15, 3) := by decide +kernel
theorem dX5_lineUp_24 : decode cX5_lineUp 24 = .ok (.if_icmp .ge 47, 3) := by decide +kernel
theorem dX5_lineUp_27 : decode cX5_lineUp 27 = .ok (.aload_n 0, 1) := by decide +kernel
theorem dX5_lineUp_28 : decode cX5_lineUp 28 = .ok (.iload_n 1, 1) := by decide +kernel
theorem dX5_lineUp_29 : decode cX5_lineUp 29 = .ok (.invokevirtual 105, 3) := by decide +kernel
theorem dX5_lineUp_32 : decode cX5_lineUp 32 = .ok (.istore_n 3, 1) := by decide +kernel
theorem dX5_lineUp_33 : decode cX5_lineUp 33 = .ok (.aload_n 0, 1) := by decide +kernel
theorem dX5_lineUp_34 : decode cX5_lineUp 34 = .ok (.getfield 31, 3) := by decide +kernel
theorem dX5_lineUp_37 : decode cX5_lineUp 37 = .ok (.iload_n 2, 1) := by decide +kernel
theorem dX5_lineUp_38 : decode cX5_lineUp 38 = .ok (.aload_n 0, 1) := by decide +kernel
theorem dX5_lineUp_39 : decode cX5_lineUp 39 = .ok (.getfield 9, 3) := by decide +kernel
theorem dX5_lineUp_42 : decode cX5_lineUp 42 = .ok (.iload_n 3, 1) := by decide +kernel
theorem dX5_lineUp_43 : decode cX5_lineUp 43 = .ok (.iaload, 1) := by decide +kernel
theorem dX5_lineUp_44 : decode cX5_lineUp 44 = .ok (.iastore, 1) := by decide +kernel
theorem dX5_lineUp_45 : decode cX5_lineUp 45 = .ok (.aload_n 0, 1) := by decide +kernel
theorem dX5_lineUp_46 : decode cX5_lineUp 46 = .ok (.getfield 34, 3) := by decide +kernel
theorem dX5_lineUp_49 : decode cX5_lineUp 49 = .ok (.aload_n 0, 1) := by decide +kernel
theorem dX5_lineUp_50 : decode cX5_lineUp 50 = .ok (.getfield 9, 3) := by decide +kernel
theorem dX5_lineUp_53 : decode cX5_lineUp 53 = .ok (.iload_n 3, 1) := by decide +kernel
theorem dX5_lineUp_54 : decode cX5_lineUp 54 = .ok (.iaload, 1) := by decide +kernel
theorem dX5_lineUp_55 : decode cX5_lineUp 55 = .ok (.iload_n 2, 1) := by decide +kernel
theorem dX5_lineUp_56 : decode cX5_lineUp 56 = .ok (.iastore, 1) := by decide +kernel
theorem dX5_lineUp_57 : decode cX5_lineUp 57 = .ok (.iload_n 1, 1) := by decide +kernel
theorem dX5_lineUp_58 : decode cX5_lineUp 58 = .ok (.iconst 1, 1) := by decide +kernel
theorem dX5_lineUp_59 : decode cX5_lineUp 59 = .ok (.iload_n 3, 1) := by decide +kernel
theorem dX5_lineUp_60 : decode cX5_lineUp 60 = .ok (.ishl, 1) := by decide +kernel
theorem dX5_lineUp_61 : decode cX5_lineUp 61 = .ok (.iconst (-1), 1) := by decide +kernel
theorem dX5_lineUp_62 : decode cX5_lineUp 62 = .ok (.ixor, 1) := by decide +kernel
theorem dX5_lineUp_63 : decode cX5_lineUp 63 = .ok (.iand, 1) := by decide +kernel
theorem dX5_lineUp_64 : decode cX5_lineUp 64 = .ok (.istore_n 1, 1) := by decide +kernel
theorem dX5_lineUp_65 : decode cX5_lineUp 65 = .ok (.iinc 2 1, 3) := by decide +kernel
theorem dX5_lineUp_68 : decode cX5_lineUp 68 = .ok (.goto (-49), 3) := by decide +kernel
theorem dX5_lineUp_71 : decode cX5_lineUp 71 = .ok (.return_, 1) := by decide +kernel
theorem dX5_firstOf_0 : decode cX5_firstOf 0 = .ok (.iconst 0, 1) := by decide +kernel
theorem dX5_firstOf_1 : decode cX5_firstOf 1 = .ok (.istore_n 2, 1) := by decide +kernel
theorem dX5_firstOf_2 : decode cX5_firstOf 2 = .ok (.iload_n 2, 1) := by decide +kernel
theorem dX5_firstOf_3 : decode cX5_firstOf 3 = .ok (.aload_n 0, 1) := by decide +kernel
theorem dX5_firstOf_4 : decode cX5_firstOf 4 = .ok (.getfield 15, 3) := by decide +kernel
theorem dX5_firstOf_7 : decode cX5_firstOf 7 = .ok (.if_icmp .ge 38, 3) := by decide +kernel
theorem dX5_firstOf_10 : decode cX5_firstOf 10 = .ok (.iconst 1, 1) := by decide +kernel
theorem dX5_firstOf_11 : decode cX5_firstOf 11 = .ok (.iload_n 2, 1) := by decide +kernel
theorem dX5_firstOf_12 : decode cX5_firstOf 12 = .ok (.ishl, 1) := by decide +kernel
theorem dX5_firstOf_13 : decode cX5_firstOf 13 = .ok (.istore_n 3, 1) := by decide +kernel
theorem dX5_firstOf_14 : decode cX5_firstOf 14 = .ok (.iload_n 1, 1) := by decide +kernel
theorem dX5_firstOf_15 : decode cX5_firstOf 15 = .ok (.iload_n 3, 1) := by decide +kernel
theorem dX5_firstOf_16 : decode cX5_firstOf 16 = .ok (.iand, 1) := by decide +kernel
theorem dX5_firstOf_17 : decode cX5_firstOf 17 = .ok (.ifCond .eq 22, 3) := by decide +kernel
theorem dX5_firstOf_20 : decode cX5_firstOf 20 = .ok (.aload_n 0, 1) := by decide +kernel
theorem dX5_firstOf_21 : decode cX5_firstOf 21 = .ok (.iload_n 2, 1) := by decide +kernel
theorem dX5_firstOf_22 : decode cX5_firstOf 22 = .ok (.iload_n 1, 1) := by decide +kernel
theorem dX5_firstOf_23 : decode cX5_firstOf 23 = .ok (.iload_n 3, 1) := by decide +kernel
theorem dX5_firstOf_24 : decode cX5_firstOf 24 = .ok (.ixor, 1) := by decide +kernel
theorem dX5_firstOf_25 : decode cX5_firstOf 25 = .ok (.invokevirtual 91, 3) := by decide +kernel
theorem dX5_firstOf_28 : decode cX5_firstOf 28 = .ok (.aload_n 0, 1) := by decide +kernel
theorem dX5_firstOf_29 : decode cX5_firstOf 29 = .ok (.getfield 28, 3) := by decide +kernel
theorem dX5_firstOf_32 : decode cX5_firstOf 32 = .ok (.iload_n 1, 1) := by decide +kernel
theorem dX5_firstOf_33 : decode cX5_firstOf 33 = .ok (.iaload, 1) := by decide +kernel
theorem dX5_firstOf_34 : decode cX5_firstOf 34 = .ok (.if_icmp .ne 5, 3) := by decide +kernel
theorem dX5_firstOf_37 : decode cX5_firstOf 37 = .ok (.iload_n 2, 1) := by decide +kernel
theorem dX5_firstOf_38 : decode cX5_firstOf 38 = .ok (.ireturn, 1) := by decide +kernel
theorem dX5_firstOf_39 : decode cX5_firstOf 39 = .ok (.iinc 2 1, 3) := by decide +kernel
theorem dX5_firstOf_42 : decode cX5_firstOf 42 = .ok (.goto (-40), 3) := by decide +kernel
theorem dX5_firstOf_45 : decode cX5_firstOf 45 = .ok (.iconst 0, 1) := by decide +kernel
theorem dX5_firstOf_46 : decode cX5_firstOf 46 = .ok (.ireturn, 1) := by decide +kernel
theorem dX5_partFlows_0 : decode cX5_partFlows 0 = .ok (.aload_n 0, 1) := by decide +kernel
theorem dX5_partFlows_1 : decode cX5_partFlows 1 = .ok (.getfield 40, 3) := by decide +kernel
theorem dX5_partFlows_4 : decode cX5_partFlows 4 = .ok (.iconst 0, 1) := by decide +kernel
theorem dX5_partFlows_5 : decode cX5_partFlows 5 = .ok (.invokestatic 99, 3) := by decide +kernel
theorem dX5_partFlows_8 : decode cX5_partFlows 8 = .ok (.aload_n 0, 1) := by decide +kernel
theorem dX5_partFlows_9 : decode cX5_partFlows 9 = .ok (.iconst 0, 1) := by decide +kernel
theorem dX5_partFlows_10 : decode cX5_partFlows 10 = .ok (.putfield 46, 3) := by decide +kernel
theorem dX5_partFlows_13 : decode cX5_partFlows 13 = .ok (.aload_n 0, 1) := by decide +kernel
theorem dX5_partFlows_14 : decode cX5_partFlows 14 = .ok (.iconst 0, 1) := by decide +kernel
theorem dX5_partFlows_15 : decode cX5_partFlows 15 = .ok (.putfield 49, 3) := by decide +kernel
theorem dX5_partFlows_18 : decode cX5_partFlows 18 = .ok (.iconst 0, 1) := by decide +kernel
theorem dX5_partFlows_19 : decode cX5_partFlows 19 = .ok (.istore_n 1, 1) := by decide +kernel
theorem dX5_partFlows_20 : decode cX5_partFlows 20 = .ok (.iload_n 1, 1) := by decide +kernel
theorem dX5_partFlows_21 : decode cX5_partFlows 21 = .ok (.bipush 10, 2) := by decide +kernel
theorem dX5_partFlows_23 : decode cX5_partFlows 23 = .ok (.if_icmp .ge 81, 3) := by decide +kernel
theorem dX5_partFlows_26 : decode cX5_partFlows 26 = .ok (.iconst 0, 1) := by decide +kernel
theorem dX5_partFlows_27 : decode cX5_partFlows 27 = .ok (.istore_n 2, 1) := by decide +kernel
theorem dX5_partFlows_28 : decode cX5_partFlows 28 = .ok (.iload_n 2, 1) := by decide +kernel
theorem dX5_partFlows_29 : decode cX5_partFlows 29 = .ok (.bipush 10, 2) := by decide +kernel
theorem dX5_partFlows_31 : decode cX5_partFlows 31 = .ok (.if_icmp .ge 67, 3) := by decide +kernel
theorem dX5_partFlows_34 : decode cX5_partFlows 34 = .ok (.aload_n 0, 1) := by decide +kernel
theorem dX5_partFlows_35 : decode cX5_partFlows 35 = .ok (.getfield 52, 3) := by decide +kernel
theorem dX5_partFlows_38 : decode cX5_partFlows 38 = .ok (.iload_n 1, 1) := by decide +kernel
theorem dX5_partFlows_39 : decode cX5_partFlows 39 = .ok (.iload_n 2, 1) := by decide +kernel
theorem dX5_partFlows_40 : decode cX5_partFlows 40 = .ok (.invokevirtual 84, 3) := by decide +kernel
theorem dX5_partFlows_43 : decode cX5_partFlows 43 = .ok (.istore_n 3, 1) := by decide +kernel
theorem dX5_partFlows_44 : decode cX5_partFlows 44 = .ok (.iload_n 3, 1) := by decide +kernel
theorem dX5_partFlows_45 : decode cX5_partFlows 45 = .ok (.ifCond .le 35, 3) := by decide +kernel
theorem dX5_partFlows_48 : decode cX5_partFlows 48 = .ok (.aload_n 0, 1) := by decide +kernel
theorem dX5_partFlows_49 : decode cX5_partFlows 49 = .ok (.iload_n 1, 1) := by decide +kernel
theorem dX5_partFlows_50 : decode cX5_partFlows 50 = .ok (.iload_n 2, 1) := by decide +kernel
theorem dX5_partFlows_51 : decode cX5_partFlows 51 = .ok (.invokevirtual 109, 3) := by decide +kernel
theorem dX5_partFlows_54 : decode cX5_partFlows 54 = .ok (.ifCond .eq 26, 3) := by decide +kernel
theorem dX5_partFlows_57 : decode cX5_partFlows 57 = .ok (.aload_n 0, 1) := by decide +kernel
theorem dX5_partFlows_58 : decode cX5_partFlows 58 = .ok (.dup, 1) := by decide +kernel
theorem dX5_partFlows_59 : decode cX5_partFlows 59 = .ok (.getfield 46, 3) := by decide +kernel
theorem dX5_partFlows_62 : decode cX5_partFlows 62 = .ok (.iconst 1, 1) := by decide +kernel
theorem dX5_partFlows_63 : decode cX5_partFlows 63 = .ok (.iadd, 1) := by decide +kernel
theorem dX5_partFlows_64 : decode cX5_partFlows 64 = .ok (.putfield 46, 3) := by decide +kernel
theorem dX5_partFlows_67 : decode cX5_partFlows 67 = .ok (.aload_n 0, 1) := by decide +kernel
theorem dX5_partFlows_68 : decode cX5_partFlows 68 = .ok (.dup, 1) := by decide +kernel
theorem dX5_partFlows_69 : decode cX5_partFlows 69 = .ok (.getfield 49, 3) := by decide +kernel
theorem dX5_partFlows_72 : decode cX5_partFlows 72 = .ok (.iload_n 3, 1) := by decide +kernel
theorem dX5_partFlows_73 : decode cX5_partFlows 73 = .ok (.iadd, 1) := by decide +kernel
theorem dX5_partFlows_74 : decode cX5_partFlows 74 = .ok (.putfield 49, 3) := by decide +kernel
theorem dX5_partFlows_77 : decode cX5_partFlows 77 = .ok (.goto 15, 3) := by decide +kernel
theorem dX5_partFlows_80 : decode cX5_partFlows 80 = .ok (.aload_n 0, 1) := by decide +kernel
theorem dX5_partFlows_81 : decode cX5_partFlows 81 = .ok (.getfield 40, 3) := by decide +kernel
theorem dX5_partFlows_84 : decode cX5_partFlows 84 = .ok (.iload_n 1, 1) := by decide +kernel
theorem dX5_partFlows_85 : decode cX5_partFlows 85 = .ok (.bipush 10, 2) := by decide +kernel
theorem dX5_partFlows_87 : decode cX5_partFlows 87 = .ok (.imul, 1) := by decide +kernel
theorem dX5_partFlows_88 : decode cX5_partFlows 88 = .ok (.iload_n 2, 1) := by decide +kernel
theorem dX5_partFlows_89 : decode cX5_partFlows 89 = .ok (.iadd, 1) := by decide +kernel
theorem dX5_partFlows_90 : decode cX5_partFlows 90 = .ok (.iload_n 3, 1) := by decide +kernel
theorem dX5_partFlows_91 : decode cX5_partFlows 91 = .ok (.iastore, 1) := by decide +kernel
theorem dX5_partFlows_92 : decode cX5_partFlows 92 = .ok (.iinc 2 1, 3) := by decide +kernel
theorem dX5_partFlows_95 : decode cX5_partFlows 95 = .ok (.goto (-67), 3) := by decide +kernel
theorem dX5_partFlows_98 : decode cX5_partFlows 98 = .ok (.iinc 1 1, 3) := by decide +kernel
theorem dX5_partFlows_101 : decode cX5_partFlows 101 = .ok (.goto (-81), 3) := by decide +kernel
theorem dX5_partFlows_104 : decode cX5_partFlows 104 = .ok (.return_, 1) := by decide +kernel
theorem dX5_putInLayers_0 : decode cX5_putInLayers 0 = .ok (.aload_n 0, 1) := by decide +kernel
theorem dX5_putInLayers_1 : decode cX5_putInLayers 1 = .ok (.getfield 37, 3) := by decide +kernel
theorem dX5_putInLayers_4 : decode cX5_putInLayers 4 = .ok (.iconst (-1), 1) := by decide +kernel
theorem dX5_putInLayers_5 : decode cX5_putInLayers 5 = .ok (.invokestatic 99, 3) := by decide +kernel
theorem dX5_putInLayers_8 : decode cX5_putInLayers 8 = .ok (.aload_n 0, 1) := by decide +kernel
theorem dX5_putInLayers_9 : decode cX5_putInLayers 9 = .ok (.iconst 0, 1) := by decide +kernel
theorem dX5_putInLayers_10 : decode cX5_putInLayers 10 = .ok (.putfield 43, 3) := by decide +kernel
theorem dX5_putInLayers_13 : decode cX5_putInLayers 13 = .ok (.iconst 0, 1) := by decide +kernel
theorem dX5_putInLayers_14 : decode cX5_putInLayers 14 = .ok (.istore_n 1, 1) := by decide +kernel
theorem dX5_putInLayers_15 : decode cX5_putInLayers 15 = .ok (.iload_n 1, 1) := by decide +kernel
theorem dX5_putInLayers_16 : decode cX5_putInLayers 16 = .ok (.aload_n 0, 1) := by decide +kernel
theorem dX5_putInLayers_17 : decode cX5_putInLayers 17 = .ok (.getfield 15, 3) := by decide +kernel
theorem dX5_putInLayers_20 : decode cX5_putInLayers 20 = .ok (.if_icmp .ge 87, 3) := by decide +kernel
theorem dX5_putInLayers_23 : decode cX5_putInLayers 23 = .ok (.iconst 0, 1) := by decide +kernel
theorem dX5_putInLayers_24 : decode cX5_putInLayers 24 = .ok (.istore_n 2, 1) := by decide +kernel
theorem dX5_putInLayers_25 : decode cX5_putInLayers 25 = .ok (.iconst 0, 1) := by decide +kernel
theorem dX5_putInLayers_26 : decode cX5_putInLayers 26 = .ok (.istore_n 3, 1) := by decide +kernel
theorem dX5_putInLayers_27 : decode cX5_putInLayers 27 = .ok (.iload_n 3, 1) := by decide +kernel
theorem dX5_putInLayers_28 : decode cX5_putInLayers 28 = .ok (.iload_n 1, 1) := by decide +kernel
theorem dX5_putInLayers_29 : decode cX5_putInLayers 29 = .ok (.if_icmp .ge 46, 3) := by decide +kernel
theorem dX5_putInLayers_32 : decode cX5_putInLayers 32 = .ok (.aload_n 0, 1) := by decide +kernel
theorem dX5_putInLayers_33 : decode cX5_putInLayers 33 = .ok (.aload_n 0, 1) := by decide +kernel
theorem dX5_putInLayers_34 : decode cX5_putInLayers 34 = .ok (.getfield 31, 3) := by decide +kernel
theorem dX5_putInLayers_37 : decode cX5_putInLayers 37 = .ok (.iload_n 3, 1) := by decide +kernel
theorem dX5_putInLayers_38 : decode cX5_putInLayers 38 = .ok (.iaload, 1) := by decide +kernel
theorem dX5_putInLayers_39 : decode cX5_putInLayers 39 = .ok (.aload_n 0, 1) := by decide +kernel
theorem dX5_putInLayers_40 : decode cX5_putInLayers 40 = .ok (.getfield 31, 3) := by decide +kernel
theorem dX5_putInLayers_43 : decode cX5_putInLayers 43 = .ok (.iload_n 1, 1) := by decide +kernel
theorem dX5_putInLayers_44 : decode cX5_putInLayers 44 = .ok (.iaload, 1) := by decide +kernel
theorem dX5_putInLayers_45 : decode cX5_putInLayers 45 = .ok (.invokevirtual 112, 3) := by decide +kernel
theorem dX5_putInLayers_48 : decode cX5_putInLayers 48 = .ok (.ifCond .le 21, 3) := by decide +kernel
theorem dX5_putInLayers_51 : decode cX5_putInLayers 51 = .ok (.iload_n 2, 1) := by decide +kernel
theorem dX5_putInLayers_52 : decode cX5_putInLayers 52 = .ok (.aload_n 0, 1) := by decide +kernel
theorem dX5_putInLayers_53 : decode cX5_putInLayers 53 = .ok (.getfield 37, 3) := by decide +kernel
theorem dX5_putInLayers_56 : decode cX5_putInLayers 56 = .ok (.aload_n 0, 1) := by decide +kernel
theorem dX5_putInLayers_57 : decode cX5_putInLayers 57 = .ok (.getfield 31, 3) := by decide +kernel
theorem dX5_putInLayers_60 : decode cX5_putInLayers 60 = .ok (.iload_n 3, 1) := by decide +kernel
theorem dX5_putInLayers_61 : decode cX5_putInLayers 61 = .ok (.iaload, 1) := by decide +kernel
theorem dX5_putInLayers_62 : decode cX5_putInLayers 62 = .ok (.iaload, 1) := by decide +kernel
theorem dX5_putInLayers_63 : decode cX5_putInLayers 63 = .ok (.iconst 1, 1) := by decide +kernel
theorem dX5_putInLayers_64 : decode cX5_putInLayers 64 = .ok (.iadd, 1) := by decide +kernel
theorem dX5_putInLayers_65 : decode cX5_putInLayers 65 = .ok (.invokestatic 115, 3) := by decide +kernel
theorem dX5_putInLayers_68 : decode cX5_putInLayers 68 = .ok (.istore_n 2, 1) := by decide +kernel
theorem dX5_putInLayers_69 : decode cX5_putInLayers 69 = .ok (.iinc 3 1, 3) := by decide +kernel
theorem dX5_putInLayers_72 : decode cX5_putInLayers 72 = .ok (.goto (-45), 3) := by decide +kernel
theorem dX5_putInLayers_75 : decode cX5_putInLayers 75 = .ok (.aload_n 0, 1) := by decide +kernel
theorem dX5_putInLayers_76 : decode cX5_putInLayers 76 = .ok (.getfield 37, 3) := by decide +kernel
theorem dX5_putInLayers_79 : decode cX5_putInLayers 79 = .ok (.aload_n 0, 1) := by decide +kernel
theorem dX5_putInLayers_80 : decode cX5_putInLayers 80 = .ok (.getfield 31, 3) := by decide +kernel
theorem dX5_putInLayers_83 : decode cX5_putInLayers 83 = .ok (.iload_n 1, 1) := by decide +kernel
theorem dX5_putInLayers_84 : decode cX5_putInLayers 84 = .ok (.iaload, 1) := by decide +kernel
theorem dX5_putInLayers_85 : decode cX5_putInLayers 85 = .ok (.iload_n 2, 1) := by decide +kernel
theorem dX5_putInLayers_86 : decode cX5_putInLayers 86 = .ok (.iastore, 1) := by decide +kernel
theorem dX5_putInLayers_87 : decode cX5_putInLayers 87 = .ok (.aload_n 0, 1) := by decide +kernel
theorem dX5_putInLayers_88 : decode cX5_putInLayers 88 = .ok (.aload_n 0, 1) := by decide +kernel
theorem dX5_putInLayers_89 : decode cX5_putInLayers 89 = .ok (.getfield 43, 3) := by decide +kernel
theorem dX5_putInLayers_92 : decode cX5_putInLayers 92 = .ok (.iload_n 2, 1) := by decide +kernel
theorem dX5_putInLayers_93 : decode cX5_putInLayers 93 = .ok (.iconst 1, 1) := by decide +kernel
theorem dX5_putInLayers_94 : decode cX5_putInLayers 94 = .ok (.iadd, 1) := by decide +kernel
theorem dX5_putInLayers_95 : decode cX5_putInLayers 95 = .ok (.invokestatic 115, 3) := by decide +kernel
theorem dX5_putInLayers_98 : decode cX5_putInLayers 98 = .ok (.putfield 43, 3) := by decide +kernel
theorem dX5_putInLayers_101 : decode cX5_putInLayers 101 = .ok (.iinc 1 1, 3) := by decide +kernel
theorem dX5_putInLayers_104 : decode cX5_putInLayers 104 = .ok (.goto (-89), 3) := by decide +kernel
theorem dX5_putInLayers_107 : decode cX5_putInLayers 107 = .ok (.return_, 1) := by decide +kernel
theorem dX6_init_0 : decode cX6_init 0 = .ok (.aload_n 0, 1) := by decide +kernel
theorem dX6_init_1 : decode cX6_init 1 = .ok (.invokespecial 3, 3) := by decide +kernel
theorem dX6_init_4 : decode cX6_init 4 = .ok (.aload_n 0, 1) := by decide +kernel
theorem dX6_init_5 : decode cX6_init 5 = .ok (.bipush 6, 2) := by decide +kernel
theorem dX6_init_7 : decode cX6_init 7 = .ok (.anewarray 9, 3) := by decide +kernel
theorem dX6_init_10 : decode cX6_init 10 = .ok (.putfield 11, 3) := by decide +kernel
theorem dX6_init_13 : decode cX6_init 13 = .ok (.aload_n 0, 1) := by decide +kernel
theorem dX6_init_14 : decode cX6_init 14 = .ok (.bipush 11, 2) := by decide +kernel
theorem dX6_init_16 : decode cX6_init 16 = .ok (.bipush 120, 2) := by decide +kernel
theorem dX6_init_18 : decode cX6_init 18 = .ok (.multianewarray 17 2, 4) := by decide +kernel
theorem dX6_init_22 : decode cX6_init 22 = .ok (.putfield 19, 3) := by decide +kernel
theorem dX6_init_25 : decode cX6_init 25 = .ok (.aload_n 0, 1) := by decide +kernel
theorem dX6_init_26 : decode cX6_init 26 = .ok (.bipush 11, 2) := by decide +kernel
theorem dX6_init_28 : decode cX6_init 28 = .ok (.bipush 120, 2) := by decide +kernel
theorem dX6_init_30 : decode cX6_init 30 = .ok (.multianewarray 17 2, 4) := by decide +kernel
theorem dX6_init_34 : decode cX6_init 34 = .ok (.putfield 22, 3) := by decide +kernel
theorem dX6_init_37 : decode cX6_init 37 = .ok (.aload_n 0, 1) := by decide +kernel
theorem dX6_init_38 : decode cX6_init 38 = .ok (.bipush 11, 2) := by decide +kernel
theorem dX6_init_40 : decode cX6_init 40 = .ok (.bipush 120, 2) := by decide +kernel
theorem dX6_init_42 : decode cX6_init 42 = .ok (.multianewarray 17 2, 4) := by decide +kernel
theorem dX6_init_46 : decode cX6_init 46 = .ok (.putfield 25, 3) := by decide +kernel
theorem dX6_init_49 : decode cX6_init 49 = .ok (.aload_n 0, 1) := by decide +kernel
theorem dX6_init_50 : decode cX6_init 50 = .ok (.bipush 11, 2) := by decide +kernel
theorem dX6_init_52 : decode cX6_init 52 = .ok (.newarray .int, 2) := by decide +kernel
theorem dX6_init_54 : decode cX6_init 54 = .ok (.putfield 28, 3) := by decide +kernel
theorem dX6_init_57 : decode cX6_init 57 = .ok (.aload_n 0, 1) := by decide +kernel
theorem dX6_init_58 : decode cX6_init 58 = .ok (.iconst 0, 1) := by decide +kernel
theorem dX6_init_59 : decode cX6_init 59 = .ok (.putfield 32, 3) := by decide +kernel
theorem dX6_init_62 : decode cX6_init 62 = .ok (.aload_n 0, 1) := by decide +kernel
theorem dX6_init_63 : decode cX6_init 63 = .ok (.iconst 0, 1) := by decide +kernel
theorem dX6_init_64 : decode cX6_init 64 = .ok (.putfield 36, 3) := by decide +kernel
theorem dX6_init_67 : decode cX6_init 67 = .ok (.aload_n 0, 1) := by decide +kernel
theorem dX6_init_68 : decode cX6_init 68 = .ok (.iconst 0, 1) := by decide +kernel
theorem dX6_init_69 : decode cX6_init 69 = .ok (.putfield 39, 3) := by decide +kernel
theorem dX6_init_72 : decode cX6_init 72 = .ok (.aload_n 0, 1) := by decide +kernel
theorem dX6_init_73 : decode cX6_init 73 = .ok (.iconst 0, 1) := by decide +kernel
theorem dX6_init_74 : decode cX6_init 74 = .ok (.putfield 42, 3) := by decide +kernel
theorem dX6_init_77 : decode cX6_init 77 = .ok (.aload_n 0, 1) := by decide +kernel
theorem dX6_init_78 : decode cX6_init 78 = .ok (.iconst 0, 1) := by decide +kernel
theorem dX6_init_79 : decode cX6_init 79 = .ok (.putfield 45, 3) := by decide +kernel
theorem dX6_init_82 : decode cX6_init 82 = .ok (.aload_n 0, 1) := by decide +kernel
theorem dX6_init_83 : decode cX6_init 83 = .ok (.aload_n 1, 1) := by decide +kernel
theorem dX6_init_84 : decode cX6_init 84 = .ok (.putfield 48, 3) := by decide +kernel
theorem dX6_init_87 : decode cX6_init 87 = .ok (.aload_n 0, 1) := by decide +kernel
theorem dX6_init_88 : decode cX6_init 88 = .ok (.aload_n 2, 1) := by decide +kernel
theorem dX6_init_89 : decode cX6_init 89 = .ok (.putfield 52, 3) := by decide +kernel
theorem dX6_init_92 : decode cX6_init 92 = .ok (.aload_n 0, 1) := by decide +kernel
theorem dX6_init_93 : decode cX6_init 93 = .ok (.aload_n 3, 1) := by decide +kernel
theorem dX6_init_94 : decode cX6_init 94 = .ok (.putfield 56, 3) := by decide +kernel
theorem dX6_init_97 : decode cX6_init 97 = .ok (.aload_n 0, 1) := by decide +kernel
theorem dX6_init_98 : decode cX6_init 98 = .ok (.new 60, 3) := by decide +kernel
theorem dX6_init_101 : decode cX6_init 101 = .ok (.dup, 1) := by decide +kernel
theorem dX6_init_102 : decode cX6_init 102 = .ok (.aload_n 1, 1) := by decide +kernel
theorem dX6_init_103 : decode cX6_init 103 = .ok (.aload_n 2, 1) := by decide +kernel
theorem dX6_init_104 : decode cX6_init 104 = .ok (.aload_n 3, 1) := by decide +kernel
theorem dX6_init_105 : decode cX6_init 105 = .ok (.invokespecial 62, 3) := by decide +kernel
theorem dX6_init_108 : decode cX6_init 108 = .ok (.putfield 65, 3) := by decide +kernel
theorem dX6_init_111 : decode cX6_init 111 = .ok (.aload_n 0, 1) := by decide +kernel
theorem dX6_init_112 : decode cX6_init 112 = .ok (.getfield 11, 3) := by decide +kernel
theorem dX6_init_115 : decode cX6_init 115 = .ok (.iconst 0, 1) := by decide +kernel
theorem dX6_init_116 : decode cX6_init 116 = .ok (.new 9, 3) := by decide +kernel
theorem dX6_init_119 : decode cX6_init 119 = .ok (.dup, 1) := by decide +kernel
theorem dX6_init_120 : decode cX6_init 120 = .ok (.invokespecial 69, 3) := by decide +kernel
theorem dX6_init_123 : decode cX6_init 123 = .ok (.aastore, 1) := by decide +kernel
theorem dX6_init_124 : decode cX6_init 124 = .ok (.iconst 1, 1) := by decide +kernel
theorem dX6_init_125 : decode cX6_init 125 = .ok (.istore 4, 2) := by decide +kernel
theorem dX6_init_127 : decode cX6_init 127 = .ok (.iload 4, 2) := by decide +kernel
theorem dX6_init_129 : decode cX6_init 129 = .ok (.iconst 5, 1) := by decide +kernel
theorem dX6_init_130 : decode cX6_init 130 = .ok (.if_icmp .gt 32, 3) := by decide +kernel
theorem dX6_init_133 : decode cX6_init 133 = .ok (.aload_n 0, 1) := by decide +kernel
theorem dX6_init_134 : decode cX6_init 134 = .ok (.getfield 11, 3) := by decide +kernel
theorem dX6_init_137 : decode cX6_init 137 = .ok (.iload 4, 2) := by decide +kernel
theorem dX6_init_139 : decode cX6_init 139 = .ok (.new 9, 3) := by decide +kernel
theorem dX6_init_142 : decode cX6_init 142 = .ok (.dup, 1) := by decide +kernel
theorem dX6_init_143 : decode cX6_init 143 = .ok (.aload_n 0, 1) := by decide +kernel
theorem dX6_init_144 : decode cX6_init 144 = .ok (.getfield 11, 3) := by decide +kernel
theorem dX6_init_147 : decode cX6_init 147 = .ok (.iload 4, 2) := by decide +kernel
theorem dX6_init_149 : decode cX6_init 149 = .ok (.iconst 1, 1) := by decide +kernel
theorem dX6_init_150 : decode cX6_init 150 = .ok (.isub, 1) := by decide +kernel
theorem dX6_init_151 : decode cX6_init 151 = .ok (.aaload, 1) := by decide +kernel
theorem dX6_init_152 : decode cX6_init 152 = .ok (.invokespecial 70, 3) := by decide +kernel
theorem dX6_init_155 : decode cX6_init 155 = .ok (.aastore, 1) := by decide +kernel
theorem dX6_init_156 : decode cX6_init 156 = .ok (.iinc 4 1, 3) := by decide +kernel
theorem dX6_init_159 : decode cX6_init 159 = .ok (.goto (-32), 3) := by decide +kernel
theorem dX6_init_162 : decode cX6_init 162 = .ok (.return_, 1) := by decide +kernel
theorem dX6_leastCost_0 : decode cX6_leastCost 0 = .ok (.aload_n 0, 1) := by decide +kernel
theorem dX6_leastCost_1 : decode cX6_leastCost 1 = .ok (.getfield 32, 3) := by decide +kernel
theorem dX6_leastCost_4 : decode cX6_leastCost 4 = .ok (.ireturn, 1) := by decide +kernel
theorem dX6_leastWays_0 : decode cX6_leastWays 0 = .ok (.aload_n 0, 1) := by decide +kernel
theorem dX6_leastWays_1 : decode cX6_leastWays 1 = .ok (.getfield 36, 3) := by decide +kernel
theorem dX6_leastWays_4 : decode cX6_leastWays 4 = .ok (.ireturn, 1) := by decide +kernel
theorem dX6_crossCost_0 : decode cX6_crossCost 0 = .ok (.aload_n 0, 1) := by decide +kernel
theorem dX6_crossCost_1 : decode cX6_crossCost 1 = .ok (.getfield 39, 3) := by decide +kernel
theorem dX6_crossCost_4 : decode cX6_crossCost 4 = .ok (.ireturn, 1) := by decide +kernel
theorem dX6_crossPairs_0 : decode cX6_crossPairs 0 = .ok (.aload_n 0, 1) := by decide +kernel
theorem dX6_crossPairs_1 : decode cX6_crossPairs 1 = .ok (.getfield 42, 3) := by decide +kernel
theorem dX6_crossPairs_4 : decode cX6_crossPairs 4 = .ok (.ireturn, 1) := by decide +kernel
theorem dX6_movedPairs_0 : decode cX6_movedPairs 0 = .ok (.aload_n 0, 1) := by decide +kernel
theorem dX6_movedPairs_1 : decode cX6_movedPairs 1 = .ok (.getfield 45, 3) := by decide +kernel
theorem dX6_movedPairs_4 : decode cX6_movedPairs 4 = .ok (.ireturn, 1) := by decide +kernel
theorem dX6_solve_0 : decode cX6_solve 0 = .ok (.aload_n 0, 1) := by decide +kernel
theorem dX6_solve_1 : decode cX6_solve 1 = .ok (.getfield 48, 3) := by decide +kernel
theorem dX6_solve_4 : decode cX6_solve 4 = .ok (.invokevirtual 73, 3) := by decide +kernel
theorem dX6_solve_7 : decode cX6_solve 7 = .ok (.istore_n 2, 1) := by decide +kernel
theorem dX6_solve_8 : decode cX6_solve 8 = .ok (.aload_n 0, 1) := by decide +kernel
theorem dX6_solve_9 : decode cX6_solve 9 = .ok (.getfield 19, 3) := by decide +kernel
theorem dX6_solve_12 : decode cX6_solve 12 = .ok (.iload_n 2, 1) := by decide +kernel
theorem dX6_solve_13 : decode cX6_solve 13 = .ok (.aaload, 1) := by decide +kernel
theorem dX6_solve_14 : decode cX6_solve 14 = .ok (.iconst 0, 1) := by decide +kernel
theorem dX6_solve_15 : decode cX6_solve 15 = .ok (.iconst 0, 1) := by decide +kernel
theorem dX6_solve_16 : decode cX6_solve 16 = .ok (.iastore, 1) := by decide +kernel
theorem dX6_solve_17 : decode cX6_solve 17 = .ok (.aload_n 0, 1) := by decide +kernel
theorem dX6_solve_18 : decode cX6_solve 18 = .ok (.getfield 22, 3) := by decide +kernel
theorem dX6_solve_21 : decode cX6_solve 21 = .ok (.iload_n 2, 1) := by decide +kernel
theorem dX6_solve_22 : decode cX6_solve 22 = .ok (.aaload, 1) := by decide +kernel
theorem dX6_solve_23 : decode cX6_solve 23 = .ok (.iconst 0, 1) := by decide +kernel
theorem dX6_solve_24 : decode cX6_solve 24 = .ok (.iconst 1, 1) := by decide +kernel
theorem dX6_solve_25 : decode cX6_solve 25 = .ok (.iastore, 1) := by decide +kernel
theorem dX6_solve_26 : decode cX6_solve 26 = .ok (.iload_n 2, 1) := by decide +kernel
theorem dX6_solve_27 : decode cX6_solve 27 = .ok (.iconst 1, 1) := by decide +kernel
theorem dX6_solve_28 : decode cX6_solve 28 = .ok (.isub, 1) := by decide +kernel
theorem dX6_solve_29 : decode cX6_solve 29 = .ok (.istore_n 3, 1) := by decide +kernel
theorem dX6_solve_30 : decode cX6_solve 30 = .ok (.iload_n 3, 1) := by decide +kernel
theorem dX6_solve_31 : decode cX6_solve 31 = .ok (.ifCond .lt 15, 3) := by decide +kernel
theorem dX6_solve_34 : decode cX6_solve 34 = .ok (.aload_n 0, 1) := by decide +kernel
theorem dX6_solve_35 : decode cX6_solve 35 = .ok (.iload_n 3, 1) := by decide +kernel
theorem dX6_solve_36 : decode cX6_solve 36 = .ok (.iload_n 1, 1) := by decide +kernel
theorem dX6_solve_37 : decode cX6_solve 37 = .ok (.invokevirtual 79, 3) := by decide +kernel
theorem dX6_solve_40 : decode cX6_solve 40 = .ok (.iinc 3 (-1), 3) := by decide +kernel
theorem dX6_solve_43 : decode cX6_solve 43 = .ok (.goto (-13), 3) := by decide +kernel
theorem dX6_solve_46 : decode cX6_solve 46 = .ok (.aload_n 0, 1) := by decide +kernel
theorem dX6_solve_47 : decode cX6_solve 47 = .ok (.invokevirtual 83, 3) := by decide +kernel
theorem dX6_solve_50 : decode cX6_solve 50 = .ok (.iconst 0, 1) := by decide +kernel
theorem dX6_solve_51 : decode cX6_solve 51 = .ok (.istore_n 3, 1) := by decide +kernel
theorem dX6_solve_52 : decode cX6_solve 52 = .ok (.iload_n 3, 1) := by decide +kernel
theorem dX6_solve_53 : decode cX6_solve 53 = .ok (.iload_n 2, 1) := by decide +kernel
theorem dX6_solve_54 : decode cX6_solve 54 = .ok (.if_icmp .ge 30, 3) := by decide +kernel
theorem dX6_solve_57 : decode cX6_solve 57 = .ok (.aload_n 0, 1) := by decide +kernel
theorem dX6_solve_58 : decode cX6_solve 58 = .ok (.getfield 28, 3) := by decide +kernel
theorem dX6_solve_61 : decode cX6_solve 61 = .ok (.iload_n 3, 1) := by decide +kernel
theorem dX6_solve_62 : decode cX6_solve 62 = .ok (.iconst 1, 1) := by decide +kernel
theorem dX6_solve_63 : decode cX6_solve 63 = .ok (.iadd, 1) := by decide +kernel
theorem dX6_solve_64 : decode cX6_solve 64 = .ok (.aload_n 0, 1) := by decide +kernel
theorem dX6_solve_65 : decode cX6_solve 65 = .ok (.getfield 25, 3) := by decide +kernel
theorem dX6_solve_68 : decode cX6_solve 68 = .ok (.iload_n 3, 1) := by decide +kernel
theorem dX6_solve_69 : decode cX6_solve 69 = .ok (.aaload, 1) := by decide +kernel
theorem dX6_solve_70 : decode cX6_solve 70 = .ok (.aload_n 0, 1) := by decide +kernel
theorem dX6_solve_71 : decode cX6_solve 71 = .ok (.getfield 28, 3) := by decide +kernel
theorem dX6_solve_74 : decode cX6_solve 74 = .ok (.iload_n 3, 1) := by decide +kernel
theorem dX6_solve_75 : decode cX6_solve 75 = .ok (.iaload, 1) := by decide +kernel
theorem dX6_solve_76 : decode cX6_solve 76 = .ok (.iaload, 1) := by decide +kernel
theorem dX6_solve_77 : decode cX6_solve 77 = .ok (.iastore, 1) := by decide +kernel
theorem dX6_solve_78 : decode cX6_solve 78 = .ok (.iinc 3 1, 3) := by decide +kernel
theorem dX6_solve_81 : decode cX6_solve 81 = .ok (.goto (-29), 3) := by decide +kernel
theorem dX6_solve_84 : decode cX6_solve 84 = .ok (.aload_n 0, 1) := by decide +kernel
theorem dX6_solve_85 : decode cX6_solve 85 = .ok (.iload_n 2, 1) := by decide +kernel
theorem dX6_solve_86 : decode cX6_solve 86 = .ok (.invokevirtual 86, 3) := by decide +kernel
theorem dX6_solve_89 : decode cX6_solve 89 = .ok (.return_, 1) := by decide +kernel
theorem dX6_shownAt_0 : decode cX6_shownAt 0 = .ok (.iload_n 2, 1) := by decide +kernel
theorem dX6_shownAt_1 : decode cX6_shownAt 1 = .ok (.ifCond .lt 15, 3) := by decide +kernel
theorem dX6_shownAt_4 : decode cX6_shownAt 4 = .ok (.iload_n 2, 1) := by decide +kernel
theorem dX6_shownAt_5 : decode cX6_shownAt 5 = .ok (.aload_n 0, 1) := by decide +kernel
theorem dX6_shownAt_6 : decode cX6_shownAt 6 = .ok (.getfield 52, 3) := by decide +kernel
theorem dX6_shownAt_9 : decode cX6_shownAt 9 = .ok (.iload_n 1, 1) := by decide +kernel
theorem dX6_shownAt_10 : decode cX6_shownAt 10 = .ok (.invokevirtual 90, 3) := by decide +kernel
theorem dX6_shownAt_13 : decode cX6_shownAt 13 = .ok (.if_icmp .lt 5, 3) := by decide +kernel
theorem dX6_shownAt_16 : decode cX6_shownAt 16 = .ok (.iconst (-1), 1) := by decide +kernel
theorem dX6_shownAt_17 : decode cX6_shownAt 17 = .ok (.ireturn, 1) := by decide +kernel
theorem dX6_shownAt_18 : decode cX6_shownAt 18 = .ok (.aload_n 0, 1) := by decide +kernel
theorem dX6_shownAt_19 : decode cX6_shownAt 19 = .ok (.getfield 52, 3) := by decide +kernel
theorem dX6_shownAt_22 : decode cX6_shownAt 22 = .ok (.iload_n 1, 1) := by decide +kernel
theorem dX6_shownAt_23 : decode cX6_shownAt 23 = .ok (.aload_n 0, 1) := by decide +kernel
theorem dX6_shownAt_24 : decode cX6_shownAt 24 = .ok (.iload_n 1, 1) := by decide +kernel
theorem dX6_shownAt_25 : decode cX6_shownAt 25 = .ok (.invokevirtual 96, 3) := by decide +kernel
theorem dX6_shownAt_28 : decode cX6_shownAt 28 = .ok (.aload_n 0, 1) := by decide +kernel
theorem dX6_shownAt_29 : decode cX6_shownAt 29 = .ok (.getfield 28, 3) := by decide +kernel
theorem dX6_shownAt_32 : decode cX6_shownAt 32 = .ok (.iload_n 1, 1) := by decide +kernel
theorem dX6_shownAt_33 : decode cX6_shownAt 33 = .ok (.iaload, 1) := by decide +kernel
theorem dX6_shownAt_34 : decode cX6_shownAt 34 = .ok (.iload_n 2, 1) := by decide +kernel
theorem dX6_shownAt_35 : decode cX6_shownAt 35 = .ok (.invokevirtual 100, 3) := by decide +kernel
theorem dX6_shownAt_38 : decode cX6_shownAt 38 = .ok (.invokevirtual 104, 3) := by decide +kernel
theorem dX6_shownAt_41 : decode cX6_shownAt 41 = .ok (.ireturn, 1) := by decide +kernel
theorem dX6_spotOf_0 : decode cX6_spotOf 0 = .ok (.iconst 0, 1) := by decide +kernel
theorem dX6_spotOf_1 : decode cX6_spotOf 1 = .ok (.istore_n 3, 1) := by decide +kernel
theorem dX6_spotOf_2 : decode cX6_spotOf 2 = .ok (.iload_n 3, 1) := by decide +kernel
theorem dX6_spotOf_3 : decode cX6_spotOf 3 = .ok (.aload_n 0, 1) := by decide +kernel
theorem dX6_spotOf_4 : decode cX6_spotOf 4 = .ok (.getfield 52, 3) := by decide +kernel
theorem dX6_spotOf_7 : decode cX6_spotOf 7 = .ok (.iload_n 1, 1) := by decide +kernel
theorem dX6_spotOf_8 : decode cX6_spotOf 8 = .ok (.invokevirtual 90, 3) := by decide +kernel
theorem dX6_spotOf_11 : decode cX6_spotOf 11 = .ok (.if_icmp .ge 21, 3) := by decide +kernel
theorem dX6_spotOf_14 : decode cX6_spotOf 14 = .ok (.aload_n 0, 1) := by decide +kernel
theorem dX6_spotOf_15 : decode cX6_spotOf 15 = .ok (.iload_n 1, 1) := by decide +kernel
theorem dX6_spotOf_16 : decode cX6_spotOf 16 = .ok (.iload_n 3, 1) := by decide +kernel
theorem dX6_spotOf_17 : decode cX6_spotOf 17 = .ok (.invokevirtual 107, 3) := by decide +kernel
theorem dX6_spotOf_20 : decode cX6_spotOf 20 = .ok (.iload_n 2, 1) := by decide +kernel
theorem dX6_spotOf_21 : decode cX6_spotOf 21 = .ok (.if_icmp .ne 5, 3) := by decide +kernel
theorem dX6_spotOf_24 : decode cX6_spotOf 24 = .ok (.iload_n 3, 1) := by decide +kernel
theorem dX6_spotOf_25 : decode cX6_spotOf 25 = .ok (.ireturn, 1) := by decide +kernel
theorem dX6_spotOf_26 : decode cX6_spotOf 26 = .ok (.iinc 3 1, 3) := by decide +kernel
theorem dX6_spotOf_29 : decode cX6_spotOf 29 = .ok (.goto (-27), 3) := by decide +kernel
theorem dX6_spotOf_32 : decode cX6_spotOf 32 = .ok (.iconst (-1), 1) := by decide +kernel
theorem dX6_spotOf_33 : decode cX6_spotOf 33 = .ok (.ireturn, 1) := by decide +kernel
theorem dX6_changesOf_0 : decode cX6_changesOf 0 = .ok (.aload_n 0, 1) := by decide +kernel
theorem dX6_changesOf_1 : decode cX6_changesOf 1 = .ok (.getfield 11, 3) := by decide +kernel
theorem dX6_changesOf_4 : decode cX6_changesOf 4 = .ok (.aload_n 0, 1) := by decide +kernel
theorem dX6_changesOf_5 : decode cX6_changesOf 5 = .ok (.getfield 52, 3) := by decide +kernel
theorem dX6_changesOf_8 : decode cX6_changesOf 8 = .ok (.iload_n 1, 1) := by decide +kernel
theorem dX6_changesOf_9 : decode cX6_changesOf 9 = .ok (.invokevirtual 90, 3) := by decide +kernel
theorem dX6_changesOf_12 : decode cX6_changesOf 12 = .ok (.iconst 5, 1) := by decide +kernel
theorem dX6_changesOf_13 : decode cX6_changesOf 13 = .ok (.invokestatic 110, 3) := by decide +kernel
theorem dX6_changesOf_16 : decode cX6_changesOf 16 = .ok (.aaload, 1) := by decide +kernel
theorem dX6_changesOf_17 : decode cX6_changesOf 17 = .ok (.areturn, 1) := by decide +kernel
theorem dX6_searchLayer_0 : decode cX6_searchLayer 0 = .ok (.aload_n 0, 1) := by decide +kernel
theorem dX6_searchLayer_1 : decode cX6_searchLayer 1 = .ok (.iload_n 1, 1) := by decide +kernel
theorem dX6_searchLayer_2 : decode cX6_searchLayer 2 = .ok (.iconst 1, 1) := by decide +kernel
theorem dX6_searchLayer_3 : decode cX6_searchLayer 3 = .ok (.iadd, 1) := by decide +kernel
theorem dX6_searchLayer_4 : decode cX6_searchLayer 4 = .ok (.invokevirtual 96, 3) := by decide +kernel
theorem dX6_searchLayer_7 : decode cX6_searchLayer 7 = .ok (.astore_n 3, 1) := by decide +kernel
theorem dX6_searchLayer_8 : decode cX6_searchLayer 8 = .ok (.aload_n 0, 1) := by decide +kernel
theorem dX6_searchLayer_9 : decode cX6_searchLayer 9 = .ok (.getfield 65, 3) := by decide +kernel
theorem dX6_searchLayer_12 : decode cX6_searchLayer 12 = .ok (.iload_n 1, 1) := by decide +kernel
theorem dX6_searchLayer_13 : decode cX6_searchLayer 13 = .ok (.invokevirtual 115, 3) := by decide +kernel
theorem dX6_searchLayer_16 : decode cX6_searchLayer 16 = .ok (.aload_n 0, 1) := by decide +kernel
theorem dX6_searchLayer_17 : decode cX6_searchLayer 17 = .ok (.getfield 65, 3) := by decide +kernel
theorem dX6_searchLayer_20 : decode cX6_searchLayer 20 = .ok (.iload_n 1, 1) := by decide +kernel
theorem dX6_searchLayer_21 : decode cX6_searchLayer 21 = .ok (.iload_n 2, 1) := by decide +kernel
theorem dX6_searchLayer_22 : decode cX6_searchLayer 22 = .ok (.invokevirtual 118, 3) := by decide +kernel
theorem dX6_searchLayer_25 : decode cX6_searchLayer 25 = .ok (.aload_n 0, 1) := by decide +kernel
theorem dX6_searchLayer_26 : decode cX6_searchLayer 26 = .ok (.getfield 19, 3) := by decide +kernel
theorem dX6_searchLayer_29 : decode cX6_searchLayer 29 = .ok (.iload_n 1, 1) := by decide +kernel
theorem dX6_searchLayer_30 : decode cX6_searchLayer 30 = .ok (.aaload, 1) := by decide +kernel
theorem dX6_searchLayer_31 : decode cX6_searchLayer 31 = .ok (.ldc 123, 2) := by decide +kernel
theorem dX6_searchLayer_33 : decode cX6_searchLayer 33 = .ok (.invokestatic 124, 3) := by decide +kernel
theorem dX6_searchLayer_36 : decode cX6_searchLayer 36 = .ok (.iconst 0, 1) := by decide +kernel
theorem dX6_searchLayer_37 : decode cX6_searchLayer 37 = .ok (.istore 4, 2) := by decide +kernel
theorem dX6_searchLayer_39 : decode cX6_searchLayer 39 = .ok (.iload 4, 2) := by decide +kernel
theorem dX6_searchLayer_41 : decode cX6_searchLayer 41 = .ok (.aload_n 3, 1) := by decide +kernel
theorem dX6_searchLayer_42 : decode cX6_searchLayer 42 = .ok (.invokevirtual 130, 3) := by decide +kernel
theorem dX6_searchLayer_45 : decode cX6_searchLayer 45 = .ok (.if_icmp .ge 37, 3) := by decide +kernel
theorem dX6_searchLayer_48 : decode cX6_searchLayer 48 = .ok (.iload 4, 2) := by decide +kernel
theorem dX6_searchLayer_50 : decode cX6_searchLayer 50 = .ok (.ifCond .le 18, 3) := by decide +kernel
theorem dX6_searchLayer_53 : decode cX6_searchLayer 53 = .ok (.aload_n 0, 1) := by decide +kernel
theorem dX6_searchLayer_54 : decode cX6_searchLayer 54 = .ok (.getfield 65, 3) := by decide +kernel
theorem dX6_searchLayer_57 : decode cX6_searchLayer 57 = .ok (.iload_n 1, 1) := by decide +kernel
theorem dX6_searchLayer_58 : decode cX6_searchLayer 58 = .ok (.aload_n 3, 1) := by decide +kernel
theorem dX6_searchLayer_59 : decode cX6_searchLayer 59 = .ok (.invokevirtual 133, 3) := by decide +kernel
theorem dX6_searchLayer_62 : decode cX6_searchLayer 62 = .ok (.iload 4, 2) := by decide +kernel
theorem dX6_searchLayer_64 : decode cX6_searchLayer 64 = .ok (.iaload, 1) := by decide +kernel
theorem dX6_searchLayer_65 : decode cX6_searchLayer 65 = .ok (.invokevirtual 137, 3) := by decide +kernel
theorem dX6_searchLayer_68 : decode cX6_searchLayer 68 = .ok (.aload_n 0, 1) := by decide +kernel
theorem dX6_searchLayer_69 : decode cX6_searchLayer 69 = .ok (.iload_n 1, 1) := by decide +kernel
theorem dX6_searchLayer_70 : decode cX6_searchLayer 70 = .ok (.iload 4, 2) := by decide +kernel
theorem dX6_searchLayer_72 : decode cX6_searchLayer 72 = .ok (.aload_n 3, 1) := by decide +kernel
theorem dX6_searchLayer_73 : decode cX6_searchLayer 73 = .ok (.invokevirtual 140, 3) := by decide +kernel
theorem dX6_searchLayer_76 : decode cX6_searchLayer 76 = .ok (.iinc 4 1, 3) := by decide +kernel
theorem dX6_searchLayer_79 : decode cX6_searchLayer 79 = .ok (.goto (-40), 3) := by decide +kernel
theorem dX6_searchLayer_82 : decode cX6_searchLayer 82 = .ok (.return_, 1) := by decide +kernel
theorem dX6_tryNext_0 : decode cX6_tryNext 0 = .ok (.aload_n 0, 1) := by decide +kernel
theorem dX6_tryNext_1 : decode cX6_tryNext 1 = .ok (.iload_n 1, 1) := by decide +kernel
theorem dX6_tryNext_2 : decode cX6_tryNext 2 = .ok (.invokevirtual 96, 3) := by decide +kernel
theorem dX6_tryNext_5 : decode cX6_tryNext 5 = .ok (.invokevirtual 133, 3) := by decide +kernel
theorem dX6_tryNext_8 : decode cX6_tryNext 8 = .ok (.astore 4, 2) := by decide +kernel
theorem dX6_tryNext_10 : decode cX6_tryNext 10 = .ok (.aload_n 0, 1) := by decide +kernel
theorem dX6_tryNext_11 : decode cX6_tryNext 11 = .ok (.getfield 65, 3) := by decide +kernel
theorem dX6_tryNext_14 : decode cX6_tryNext 14 = .ok (.invokevirtual 144, 3) := by decide +kernel
theorem dX6_tryNext_17 : decode cX6_tryNext 17 = .ok (.astore 5, 2) := by decide +kernel
theorem dX6_tryNext_19 : decode cX6_tryNext 19 = .ok (.aload_n 0, 1) := by decide +kernel
theorem dX6_tryNext_20 : decode cX6_tryNext 20 = .ok (.getfield 19, 3) := by decide +kernel
theorem dX6_tryNext_23 : decode cX6_tryNext 23 = .ok (.iload_n 1, 1) := by decide +kernel
theorem dX6_tryNext_24 : decode cX6_tryNext 24 = .ok (.aaload, 1) := by decide +kernel
theorem dX6_tryNext_25 : decode cX6_tryNext 25 = .ok (.astore 6, 2) := by decide +kernel
theorem dX6_tryNext_27 : decode cX6_tryNext 27 = .ok (.aload_n 0, 1) := by decide +kernel
theorem dX6_tryNext_28 : decode cX6_tryNext 28 = .ok (.getfield 22, 3) := by decide +kernel
theorem dX6_tryNext_31 : decode cX6_tryNext 31 = .ok (.iload_n 1, 1) := by decide +kernel
theorem dX6_tryNext_32 : decode cX6_tryNext 32 = .ok (.iconst 1, 1) := by decide +kernel
theorem dX6_tryNext_33 : decode cX6_tryNext 33 = .ok (.iadd, 1) := by decide +kernel
theorem dX6_tryNext_34 : decode cX6_tryNext 34 = .ok (.aaload, 1) := by decide +kernel
theorem dX6_tryNext_35 : decode cX6_tryNext 35 = .ok (.iload_n 2, 1) := by decide +kernel
theorem dX6_tryNext_36 : decode cX6_tryNext 36 = .ok (.iaload, 1) := by decide +kernel
theorem dX6_tryNext_37 : decode cX6_tryNext 37 = .ok (.istore 7, 2) := by decide +kernel
theorem dX6_tryNext_39 : decode cX6_tryNext 39 = .ok (.aload_n 0, 1) := by decide +kernel
theorem dX6_tryNext_40 : decode cX6_tryNext 40 = .ok (.getfield 65, 3) := by decide +kernel
theorem dX6_tryNext_43 : decode cX6_tryNext 43 = .ok (.invokevirtual 147, 3) := by decide +kernel
theorem dX6_tryNext_46 : decode cX6_tryNext 46 = .ok (.aload_n 0, 1) := by decide +kernel
theorem dX6_tryNext_47 : decode cX6_tryNext 47 = .ok (.getfield 19, 3) := by decide +kernel
theorem dX6_tryNext_50 : decode cX6_tryNext 50 = .ok (.iload_n 1, 1) := by decide +kernel
theorem dX6_tryNext_51 : decode cX6_tryNext 51 = .ok (.iconst 1, 1) := by decide +kernel
theorem dX6_tryNext_52 : decode cX6_tryNext 52 = .ok (.iadd, 1) := by decide +kernel
theorem dX6_tryNext_53 : decode cX6_tryNext 53 = .ok (.aaload, 1) := by decide +kernel
theorem dX6_tryNext_54 : decode cX6_tryNext 54 = .ok (.iload_n 2, 1) := by decide +kernel
theorem dX6_tryNext_55 : decode cX6_tryNext 55 = .ok (.iaload, 1) := by decide +kernel
theorem dX6_tryNext_56 : decode cX6_tryNext 56 = .ok (.iadd, 1) := by decide +kernel
theorem dX6_tryNext_57 : decode cX6_tryNext 57 = .ok (.istore 8, 2) := by decide +kernel
theorem dX6_tryNext_59 : decode cX6_tryNext 59 = .ok (.iconst 0, 1) := by decide +kernel
theorem dX6_tryNext_60 : decode cX6_tryNext 60 = .ok (.istore 9, 2) := by decide +kernel
theorem dX6_tryNext_62 : decode cX6_tryNext 62 = .ok (.iload 9, 2) := by decide +kernel
theorem dX6_tryNext_64 : decode cX6_tryNext 64 = .ok (.aload 4, 2) := by decide +kernel
theorem dX6_tryNext_66 : decode cX6_tryNext 66 = .ok (.arraylength, 1) := by decide +kernel
theorem dX6_tryNext_67 : decode cX6_tryNext 67 = .ok (.if_icmp .ge 123, 3) := by decide +kernel
theorem dX6_tryNext_70 : decode cX6_tryNext 70 = .ok (.iload 9, 2) := by decide +kernel
theorem dX6_tryNext_72 : decode cX6_tryNext 72 = .ok (.ifCond .le 16, 3) := by decide +kernel
theorem dX6_tryNext_75 : decode cX6_tryNext 75 = .ok (.iload 8, 2) := by decide +kernel
theorem dX6_tryNext_77 : decode cX6_tryNext 77 = .ok (.aload 5, 2) := by decide +kernel
theorem dX6_tryNext_79 : decode cX6_tryNext 79 = .ok (.aload 4, 2) := by decide +kernel
theorem dX6_tryNext_81 : decode cX6_tryNext 81 = .ok (.iload 9, 2) := by decide +kernel
theorem dX6_tryNext_83 : decode cX6_tryNext 83 = .ok (.iaload, 1) := by decide +kernel
theorem dX6_tryNext_84 : decode cX6_tryNext 84 = .ok (.iaload, 1) := by decide +kernel
theorem dX6_tryNext_85 : decode cX6_tryNext 85 = .ok (.iadd, 1) := by decide +kernel
theorem dX6_tryNext_86 : decode cX6_tryNext 86 = .ok (.istore 8, 2) := by decide +kernel
theorem dX6_tryNext_88 : decode cX6_tryNext 88 = .ok (.iload 8, 2) := by decide +kernel
theorem dX6_tryNext_90 : decode cX6_tryNext 90 = .ok (.aload 6, 2) := by decide +kernel
theorem dX6_tryNext_92 : decode cX6_tryNext 92 = .ok (.iload 9, 2) := by decide +kernel
theorem dX6_tryNext_94 : decode cX6_tryNext 94 = .ok (.iaload, 1) := by decide +kernel
theorem dX6_tryNext_95 : decode cX6_tryNext 95 = .ok (.if_icmp .ge 34, 3) := by decide +kernel
theorem dX6_tryNext_98 : decode cX6_tryNext 98 = .ok (.aload 6, 2) := by decide +kernel
theorem dX6_tryNext_100 : decode cX6_tryNext 100 = .ok (.iload 9, 2) := by decide +kernel
theorem dX6_tryNext_102 : decode cX6_tryNext 102 = .ok (.iload 8, 2) := by decide +kernel
theorem dX6_tryNext_104 : decode cX6_tryNext 104 = .ok (.iastore, 1) := by decide +kernel
theorem dX6_tryNext_105 : decode cX6_tryNext 105 = .ok (.aload_n 0, 1) := by decide +kernel
theorem dX6_tryNext_106 : decode cX6_tryNext 106 = .ok (.getfield 22, 3) := by decide +kernel
theorem dX6_tryNext_109 : decode cX6_tryNext 109 = .ok (.iload_n 1, 1) := by decide +kernel
theorem dX6_tryNext_110 : decode cX6_tryNext 110 = .ok (.aaload, 1) := by decide +kernel
theorem dX6_tryNext_111 : decode cX6_tryNext 111 = .ok (.iload 9, 2) := by decide +kernel
theorem dX6_tryNext_113 : decode cX6_tryNext 113 = .ok (.iload 7, 2) := by decide +kernel
theorem dX6_tryNext_115 : decode cX6_tryNext 115 = .ok (.iastore, 1) := by decide +kernel
theorem dX6_tryNext_116 : decode cX6_tryNext 116 = .ok (.aload_n 0, 1) := by decide +kernel
theorem dX6_tryNext_117 : decode cX6_tryNext 117 = .ok (.getfield 25, 3) := by decide +kernel
theorem dX6_tryNext_120 : decode cX6_tryNext 120 = .ok (.iload_n 1, 1) := by decide +kernel
theorem dX6_tryNext_121 : decode cX6_tryNext 121 = .ok (.aaload, 1) := by decide +kernel
theorem dX6_tryNext_122 : decode cX6_tryNext 122 = .ok (.iload 9, 2) := by decide +kernel
theorem dX6_tryNext_124 : decode cX6_tryNext 124 = .ok (.iload_n 2, 1) := by decide +kernel
theorem dX6_tryNext_125 : decode cX6_tryNext 125 = .ok (.iastore, 1) := by decide +kernel
theorem dX6_tryNext_126 : decode cX6_tryNext 126 = .ok (.goto 58, 3) := by decide +kernel
theorem dX6_tryNext_129 : decode cX6_tryNext 129 = .ok (.iload 8, 2) := by decide +kernel
theorem dX6_tryNext_131 : decode cX6_tryNext 131 = .ok (.aload 6, 2) := by decide +kernel
theorem dX6_tryNext_133 : decode cX6_tryNext 133 = .ok (.iload 9, 2) := by decide +kernel
theorem dX6_tryNext_135 : decode cX6_tryNext 135 = .ok (.iaload, 1) := by decide +kernel
theorem dX6_tryNext_136 : decode cX6_tryNext 136 = .ok (.if_icmp .ne 48, 3) := by decide +kernel
theorem dX6_tryNext_139 : decode cX6_tryNext 139 = .ok (.aload_n 0, 1) := by decide +kernel
theorem dX6_tryNext_140 : decode cX6_tryNext 140 = .ok (.getfield 22, 3) := by decide +kernel
theorem dX6_tryNext_143 : decode cX6_tryNext 143 = .ok (.iload_n 1, 1) := by decide +kernel
theorem dX6_tryNext_144 : decode cX6_tryNext 144 = .ok (.aaload, 1) := by decide +kernel
theorem dX6_tryNext_145 : decode cX6_tryNext 145 = .ok (.iload 9, 2) := by decide +kernel
theorem dX6_tryNext_147 : decode cX6_tryNext 147 = .ok (.dup2, 1) := by decide +kernel
theorem dX6_tryNext_148 : decode cX6_tryNext 148 = .ok (.iaload, 1) := by decide +kernel
theorem dX6_tryNext_149 : decode cX6_tryNext 149 = .ok (.iload 7, 2) := by decide +kernel
theorem dX6_tryNext_151 : decode cX6_tryNext 151 = .ok (.iadd, 1) := by decide +kernel
theorem dX6_tryNext_152 : decode cX6_tryNext 152 = .ok (.iastore, 1) := by decide +kernel
theorem dX6_tryNext_153 : decode cX6_tryNext 153 = .ok (.aload_n 3, 1) := by decide +kernel
theorem dX6_tryNext_154 : decode cX6_tryNext 154 = .ok (.iload_n 2, 1) := by decide +kernel
theorem dX6_tryNext_155 : decode cX6_tryNext 155 = .ok (.invokevirtual 150, 3) := by decide +kernel
theorem dX6_tryNext_158 : decode cX6_tryNext 158 = .ok (.aload_n 3, 1) := by decide +kernel
theorem dX6_tryNext_159 : decode cX6_tryNext 159 = .ok (.aload_n 0, 1) := by decide +kernel
theorem dX6_tryNext_160 : decode cX6_tryNext 160 = .ok (.getfield 25, 3) := by decide +kernel
theorem dX6_tryNext_163 : decode cX6_tryNext 163 = .ok (.iload_n 1, 1) := by decide +kernel
theorem dX6_tryNext_164 : decode cX6_tryNext 164 = .ok (.aaload, 1) := by decide +kernel
theorem dX6_tryNext_165 : decode cX6_tryNext 165 = .ok (.iload 9, 2) := by decide +kernel
theorem dX6_tryNext_167 : decode cX6_tryNext 167 = .ok (.iaload, 1) := by decide +kernel
theorem dX6_tryNext_168 : decode cX6_tryNext 168 = .ok (.invokevirtual 150, 3) := by decide +kernel
theorem dX6_tryNext_171 : decode cX6_tryNext 171 = .ok (.if_icmp .ge 13, 3) := by decide +kernel
theorem dX6_tryNext_174 : decode cX6_tryNext 174 = .ok (.aload_n 0, 1) := by decide +kernel
theorem dX6_tryNext_175 : decode cX6_tryNext 175 = .ok (.getfield 25, 3) := by decide +kernel
theorem dX6_tryNext_178 : decode cX6_tryNext 178 = .ok (.iload_n 1, 1) := by decide +kernel
theorem dX6_tryNext_179 : decode cX6_tryNext 179 = .ok (.aaload, 1) := by decide +kernel
theorem dX6_tryNext_180 : decode cX6_tryNext 180 = .ok (.iload 9, 2) := by decide +kernel
theorem dX6_tryNext_182 : decode cX6_tryNext 182 = .ok (.iload_n 2, 1) := by decide +kernel
theorem dX6_tryNext_183 : decode cX6_tryNext 183 = .ok (.iastore, 1) := by decide +kernel
theorem dX6_tryNext_184 : decode cX6_tryNext 184 = .ok (.iinc 9 1, 3) := by decide +kernel
theorem dX6_tryNext_187 : decode cX6_tryNext 187 = .ok (.goto (-125), 3) := by decide +kernel
theorem dX6_tryNext_190 : decode cX6_tryNext 190 = .ok (.return_, 1) := by decide +kernel
theorem dX6_chooseFirst_0 : decode cX6_chooseFirst 0 = .ok (.aload_n 0, 1) := by decide +kernel
theorem dX6_chooseFirst_1 : decode cX6_chooseFirst 1 = .ok (.iconst 0, 1) := by decide +kernel
theorem dX6_chooseFirst_2 : decode cX6_chooseFirst 2 = .ok (.invokevirtual 96, 3) := by decide +kernel
theorem dX6_chooseFirst_5 : decode cX6_chooseFirst 5 = .ok (.astore_n 1, 1) := by decide +kernel
theorem dX6_chooseFirst_6 : decode cX6_chooseFirst 6 = .ok (.aload_n 0, 1) := by decide +kernel
theorem dX6_chooseFirst_7 : decode cX6_chooseFirst 7 = .ok (.ldc 123, 2) := by decide +kernel
theorem dX6_chooseFirst_9 : decode cX6_chooseFirst 9 = .ok (.putfield 32, 3) := by decide +kernel
theorem dX6_chooseFirst_12 : decode cX6_chooseFirst 12 = .ok (.aload_n 0, 1) := by decide +kernel
theorem dX6_chooseFirst_13 : decode cX6_chooseFirst 13 = .ok (.iconst 0, 1) := by decide +kernel
theorem dX6_chooseFirst_14 : decode cX6_chooseFirst 14 = .ok (.putfield 36, 3) := by decide +kernel
theorem dX6_chooseFirst_17 : decode cX6_chooseFirst 17 = .ok (.iconst 0, 1) := by decide +kernel
theorem dX6_chooseFirst_18 : decode cX6_chooseFirst 18 = .ok (.istore_n 2, 1) := by decide +kernel
theorem dX6_chooseFirst_19 : decode cX6_chooseFirst 19 = .ok (.iload_n 2, 1) := by decide +kernel
theorem dX6_chooseFirst_20 : decode cX6_chooseFirst 20 = .ok (.aload_n 1, 1) := by decide +kernel
theorem dX6_chooseFirst_21 : decode cX6_chooseFirst 21 = .ok (.invokevirtual 130, 3) := by decide +kernel
theorem dX6_chooseFirst_24 : decode cX6_chooseFirst 24 = .ok (.if_icmp .ge 115, 3) := by decide +kernel
theorem dX6_chooseFirst_27 : decode cX6_chooseFirst 27 = .ok (.aload_n 0, 1) := by decide +kernel
theorem dX6_chooseFirst_28 : decode cX6_chooseFirst 28 = .ok (.getfield 19, 3) := by decide +kernel
theorem dX6_chooseFirst_31 : decode cX6_chooseFirst 31 = .ok (.iconst 0, 1) := by decide +kernel
theorem dX6_chooseFirst_32 : decode cX6_chooseFirst 32 = .ok (.aaload, 1) := by decide +kernel
theorem dX6_chooseFirst_33 : decode cX6_chooseFirst 33 = .ok (.iload_n 2, 1) := by decide +kernel
theorem dX6_chooseFirst_34 : decode cX6_chooseFirst 34 = .ok (.iaload, 1) := by decide +kernel
theorem dX6_chooseFirst_35 : decode cX6_chooseFirst 35 = .ok (.aload_n 0, 1) := by decide +kernel
theorem dX6_chooseFirst_36 : decode cX6_chooseFirst 36 = .ok (.getfield 32, 3) := by decide +kernel
theorem dX6_chooseFirst_39 : decode cX6_chooseFirst 39 = .ok (.if_icmp .ge 37, 3) := by decide +kernel
theorem dX6_chooseFirst_42 : decode cX6_chooseFirst 42 = .ok (.aload_n 0, 1) := by decide +kernel
theorem dX6_chooseFirst_43 : decode cX6_chooseFirst 43 = .ok (.aload_n 0, 1) := by decide +kernel
theorem dX6_chooseFirst_44 : decode cX6_chooseFirst 44 = .ok (.getfield 19, 3) := by decide +kernel
theorem dX6_chooseFirst_47 : decode cX6_chooseFirst 47 = .ok (.iconst 0, 1) := by decide +kernel
theorem dX6_chooseFirst_48 : decode cX6_chooseFirst 48 = .ok (.aaload, 1) := by decide +kernel
theorem dX6_chooseFirst_49 : decode cX6_chooseFirst 49 = .ok (.iload_n 2, 1) := by decide +kernel
theorem dX6_chooseFirst_50 : decode cX6_chooseFirst 50 = .ok (.iaload, 1) := by decide +kernel
theorem dX6_chooseFirst_51 : decode cX6_chooseFirst 51 = .ok (.putfield 32, 3) := by decide +kernel
theorem dX6_chooseFirst_54 : decode cX6_chooseFirst 54 = .ok (.aload_n 0, 1) := by decide +kernel
theorem dX6_chooseFirst_55 : decode cX6_chooseFirst 55 = .ok (.aload_n 0, 1) := by decide +kernel
theorem dX6_chooseFirst_56 : decode cX6_chooseFirst 56 = .ok (.getfield 22, 3) := by decide +kernel
theorem dX6_chooseFirst_59 : decode cX6_chooseFirst 59 = .ok (.iconst 0, 1) := by decide +kernel
theorem dX6_chooseFirst_60 : decode cX6_chooseFirst 60 = .ok (.aaload, 1) := by decide +kernel
theorem dX6_chooseFirst_61 : decode cX6_chooseFirst 61 = .ok (.iload_n 2, 1) := by decide +kernel
theorem dX6_chooseFirst_62 : decode cX6_chooseFirst 62 = .ok (.iaload, 1) := by decide +kernel
theorem dX6_chooseFirst_63 : decode cX6_chooseFirst 63 = .ok (.putfield 36, 3) := by decide +kernel
theorem dX6_chooseFirst_66 : decode cX6_chooseFirst 66 = .ok (.aload_n 0, 1) := by decide +kernel
theorem dX6_chooseFirst_67 : decode cX6_chooseFirst 67 = .ok (.getfield 28, 3) := by decide +kernel
theorem dX6_chooseFirst_70 : decode cX6_chooseFirst 70 = .ok (.iconst 0, 1) := by decide +kernel
theorem dX6_chooseFirst_71 : decode cX6_chooseFirst 71 = .ok (.iload_n 2, 1) := by decide +kernel
theorem dX6_chooseFirst_72 : decode cX6_chooseFirst 72 = .ok (.iastore, 1) := by decide +kernel
theorem dX6_chooseFirst_73 : decode cX6_chooseFirst 73 = .ok (.goto 60, 3) := by decide +kernel
theorem dX6_chooseFirst_76 : decode cX6_chooseFirst 76 = .ok (.aload_n 0, 1) := by decide +kernel
theorem dX6_chooseFirst_77 : decode cX6_chooseFirst 77 = .ok (.getfield 19, 3) := by decide +kernel
theorem dX6_chooseFirst_80 : decode cX6_chooseFirst 80 = .ok (.iconst 0, 1) := by decide +kernel
theorem dX6_chooseFirst_81 : decode cX6_chooseFirst 81 = .ok (.aaload, 1) := by decide +kernel
theorem dX6_chooseFirst_82 : decode cX6_chooseFirst 82 = .ok (.iload_n 2, 1) := by decide +kernel
theorem dX6_chooseFirst_83 : decode cX6_chooseFirst 83 = .ok (.iaload, 1) := by decide +kernel
theorem dX6_chooseFirst_84 : decode cX6_chooseFirst 84 = .ok (.aload_n 0, 1) := by decide +kernel
theorem dX6_chooseFirst_85 : decode cX6_chooseFirst 85 = .ok (.getfield 32, 3) := by decide +kernel
theorem dX6_chooseFirst_88 : decode cX6_chooseFirst 88 = .ok (.if_icmp .ne 45, 3) := by decide +kernel
theorem dX6_chooseFirst_91 : decode cX6_chooseFirst 91 = .ok (.aload_n 0, 1) := by decide +kernel
theorem dX6_chooseFirst_92 : decode cX6_chooseFirst 92 = .ok (.dup, 1) := by decide +kernel
theorem dX6_chooseFirst_93 : decode cX6_chooseFirst 93 = .ok (.getfield 36, 3) := by decide +kernel
theorem dX6_chooseFirst_96 : decode cX6_chooseFirst 96 = .ok (.aload_n 0, 1) := by decide +kernel
theorem dX6_chooseFirst_97 : decode cX6_chooseFirst 97 = .ok (.getfield 22, 3) := by decide +kernel
theorem dX6_chooseFirst_100 : decode cX6_chooseFirst 100 = .ok (.iconst 0, 1) := by decide +kernel
theorem dX6_chooseFirst_101 : decode cX6_chooseFirst 101 = .ok (.aaload, 1) := by decide +kernel
theorem dX6_chooseFirst_102 : decode cX6_chooseFirst 102 = .ok (.iload_n 2, 1) := by decide +kernel
theorem dX6_chooseFirst_103 : decode cX6_chooseFirst 103 = .ok (.iaload, 1) := by decide +kernel
theorem dX6_chooseFirst_104 : decode cX6_chooseFirst 104 = .ok (.iadd, 1) := by decide +kernel
theorem dX6_chooseFirst_105 : decode cX6_chooseFirst 105 = .ok (.putfield 36, 3) := by decide +kernel
theorem dX6_chooseFirst_108 : decode cX6_chooseFirst 108 = .ok (.aload_n 1, 1) := by decide +kernel
theorem dX6_chooseFirst_109 : decode cX6_chooseFirst 109 = .ok (.iload_n 2, 1) := by decide +kernel
theorem dX6_chooseFirst_110 : decode cX6_chooseFirst 110 = .ok (.invokevirtual 150, 3) := by decide +kernel
theorem dX6_chooseFirst_113 : decode cX6_chooseFirst 113 = .ok (.aload_n 1, 1) := by decide +kernel
theorem dX6_chooseFirst_114 : decode cX6_chooseFirst 114 = .ok (.aload_n 0, 1) := by decide +kernel
theorem dX6_chooseFirst_115 : decode cX6_chooseFirst 115 = .ok (.getfield 28, 3) := by decide +kernel
theorem dX6_chooseFirst_118 : decode cX6_chooseFirst 118 = .ok (.iconst 0, 1) := by decide +kernel
theorem dX6_chooseFirst_119 : decode cX6_chooseFirst 119 = .ok (.iaload, 1) := by decide +kernel
theorem dX6_chooseFirst_120 : decode cX6_chooseFirst 120 = .ok (.invokevirtual 150, 3) := by decide +kernel
theorem dX6_chooseFirst_123 : decode cX6_chooseFirst 123 = .ok (.if_icmp .ge 10, 3) := by decide +kernel
theorem dX6_chooseFirst_126 : decode cX6_chooseFirst 126 = .ok (.aload_n 0, 1) := by decide +kernel
theorem dX6_chooseFirst_127 : decode cX6_chooseFirst 127 = .ok (.getfield 28, 3) := by decide +kernel
theorem dX6_chooseFirst_130 : decode cX6_chooseFirst 130 = .ok (.iconst 0, 1) := by decide +kernel
theorem dX6_chooseFirst_131 : decode cX6_chooseFirst 131 = .ok (.iload_n 2, 1) := by decide +kernel
theorem dX6_chooseFirst_132 : decode cX6_chooseFirst 132 = .ok (.iastore, 1) := by decide +kernel
theorem dX6_chooseFirst_133 : decode cX6_chooseFirst 133 = .ok (.iinc 2 1, 3) := by decide +kernel
theorem dX6_chooseFirst_136 : decode cX6_chooseFirst 136 = .ok (.goto (-117), 3) := by decide +kernel
theorem dX6_chooseFirst_139 : decode cX6_chooseFirst 139 = .ok (.return_, 1) := by decide +kernel
theorem dX6_countParts_0 : decode cX6_countParts 0 = .ok (.aload_n 0, 1) := by decide +kernel
theorem dX6_countParts_1 : decode cX6_countParts 1 = .ok (.iconst 0, 1) := by decide +kernel
theorem dX6_countParts_2 : decode cX6_countParts 2 = .ok (.putfield 39, 3) := by decide +kernel
theorem dX6_countParts_5 : decode cX6_countParts 5 = .ok (.aload_n 0, 1) := by decide +kernel
theorem dX6_countParts_6 : decode cX6_countParts 6 = .ok (.iconst 0, 1) := by decide +kernel
theorem dX6_countParts_7 : decode cX6_countParts 7 = .ok (.putfield 42, 3) := by decide +kernel
theorem dX6_countParts_10 : decode cX6_countParts 10 = .ok (.aload_n 0, 1) := by decide +kernel
theorem dX6_countParts_11 : decode cX6_countParts 11 = .ok (.iconst 0, 1) := by decide +kernel
theorem dX6_countParts_12 : decode cX6_countParts 12 = .ok (.putfield 45, 3) := by decide +kernel
theorem dX6_countParts_15 : decode cX6_countParts 15 = .ok (.iconst 0, 1) := by decide +kernel
theorem dX6_countParts_16 : decode cX6_countParts 16 = .ok (.istore_n 2, 1) := by decide +kernel
theorem dX6_countParts_17 : decode cX6_countParts 17 = .ok (.iload_n 2, 1) := by decide +kernel
theorem dX6_countParts_18 : decode cX6_countParts 18 = .ok (.iload_n 1, 1) := by decide +kernel
theorem dX6_countParts_19 : decode cX6_countParts 19 = .ok (.if_icmp .ge 98, 3) := by decide +kernel
theorem dX6_countParts_22 : decode cX6_countParts 22 = .ok (.aload_n 0, 1) := by decide +kernel
theorem dX6_countParts_23 : decode cX6_countParts 23 = .ok (.getfield 65, 3) := by decide +kernel
theorem dX6_countParts_26 : decode cX6_countParts 26 = .ok (.iload_n 2, 1) := by decide +kernel
theorem dX6_countParts_27 : decode cX6_countParts 27 = .ok (.invokevirtual 115, 3) := by decide +kernel
theorem dX6_countParts_30 : decode cX6_countParts 30 = .ok (.iconst 0, 1) := by decide +kernel
theorem dX6_countParts_31 : decode cX6_countParts 31 = .ok (.istore_n 3, 1) := by decide +kernel
theorem dX6_countParts_32 : decode cX6_countParts 32 = .ok (.iload_n 3, 1) := by decide +kernel
theorem dX6_countParts_33 : decode cX6_countParts 33 = .ok (.aload_n 0, 1) := by decide +kernel
theorem dX6_countParts_34 : decode cX6_countParts 34 = .ok (.getfield 52, 3) := by decide +kernel
theorem dX6_countParts_37 : decode cX6_countParts 37 = .ok (.iload_n 2, 1) := by decide +kernel
theorem dX6_countParts_38 : decode cX6_countParts 38 = .ok (.invokevirtual 90, 3) := by decide +kernel
theorem dX6_countParts_41 : decode cX6_countParts 41 = .ok (.if_icmp .ge 70, 3) := by decide +kernel
theorem dX6_countParts_44 : decode cX6_countParts 44 = .ok (.iload_n 3, 1) := by decide +kernel
theorem dX6_countParts_45 : decode cX6_countParts 45 = .ok (.iconst 1, 1) := by decide +kernel
theorem dX6_countParts_46 : decode cX6_countParts 46 = .ok (.iadd, 1) := by decide +kernel
theorem dX6_countParts_47 : decode cX6_countParts 47 = .ok (.istore 4, 2) := by decide +kernel
theorem dX6_countParts_49 : decode cX6_countParts 49 = .ok (.iload 4, 2) := by decide +kernel
theorem dX6_countParts_51 : decode cX6_countParts 51 = .ok (.aload_n 0, 1) := by decide +kernel
theorem dX6_countParts_52 : decode cX6_countParts 52 = .ok (.getfield 52, 3) := by decide +kernel
theorem dX6_countParts_55 : decode cX6_countParts 55 = .ok (.iload_n 2, 1) := by decide +kernel
theorem dX6_countParts_56 : decode cX6_countParts 56 = .ok (.invokevirtual 90, 3) := by decide +kernel
theorem dX6_countParts_59 : decode cX6_countParts 59 = .ok (.if_icmp .ge 46, 3) := by decide +kernel
theorem dX6_countParts_62 : decode cX6_countParts 62 = .ok (.aload_n 0, 1) := by decide +kernel
theorem dX6_countParts_63 : decode cX6_countParts 63 = .ok (.dup, 1) := by decide +kernel
theorem dX6_countParts_64 : decode cX6_countParts 64 = .ok (.getfield 45, 3) := by decide +kernel
theorem dX6_countParts_67 : decode cX6_countParts 67 = .ok (.aload_n 0, 1) := by decide +kernel
theorem dX6_countParts_68 : decode cX6_countParts 68 = .ok (.getfield 56, 3) := by decide +kernel
theorem dX6_countParts_71 : decode cX6_countParts 71 = .ok (.aload_n 0, 1) := by decide +kernel
theorem dX6_countParts_72 : decode cX6_countParts 72 = .ok (.iload_n 2, 1) := by decide +kernel
theorem dX6_countParts_73 : decode cX6_countParts 73 = .ok (.iload_n 3, 1) := by decide +kernel
theorem dX6_countParts_74 : decode cX6_countParts 74 = .ok (.invokevirtual 107, 3) := by decide +kernel
theorem dX6_countParts_77 : decode cX6_countParts 77 = .ok (.aload_n 0, 1) := by decide +kernel
theorem dX6_countParts_78 : decode cX6_countParts 78 = .ok (.iload_n 2, 1) := by decide +kernel
theorem dX6_countParts_79 : decode cX6_countParts 79 = .ok (.iload 4, 2) := by decide +kernel
theorem dX6_countParts_81 : decode cX6_countParts 81 = .ok (.invokevirtual 107, 3) := by decide +kernel
theorem dX6_countParts_84 : decode cX6_countParts 84 = .ok (.invokevirtual 153, 3) := by decide +kernel
theorem dX6_countParts_87 : decode cX6_countParts 87 = .ok (.iadd, 1) := by decide +kernel
theorem dX6_countParts_88 : decode cX6_countParts 88 = .ok (.putfield 45, 3) := by decide +kernel
theorem dX6_countParts_91 : decode cX6_countParts 91 = .ok (.aload_n 0, 1) := by decide +kernel
theorem dX6_countParts_92 : decode cX6_countParts 92 = .ok (.iload_n 2, 1) := by decide +kernel
theorem dX6_countParts_93 : decode cX6_countParts 93 = .ok (.iload_n 3, 1) := by decide +kernel
theorem dX6_countParts_94 : decode cX6_countParts 94 = .ok (.iload 4, 2) := by decide +kernel
theorem dX6_countParts_96 : decode cX6_countParts 96 = .ok (.invokevirtual 158, 3) := by decide +kernel
theorem dX6_countParts_99 : decode cX6_countParts 99 = .ok (.iinc 4 1, 3) := by decide +kernel
theorem dX6_countParts_102 : decode cX6_countParts 102 = .ok (.goto (-53), 3) := by decide +kernel
theorem dX6_countParts_105 : decode cX6_countParts 105 = .ok (.iinc 3 1, 3) := by decide +kernel
theorem dX6_countParts_108 : decode cX6_countParts 108 = .ok (.goto (-76), 3) := by decide +kernel
theorem dX6_countParts_111 : decode cX6_countParts 111 = .ok (.iinc 2 1, 3) := by decide +kernel
theorem dX6_countParts_114 : decode cX6_countParts 114 = .ok (.goto (-97), 3) := by decide +kernel
theorem dX6_countParts_117 : decode cX6_countParts 117 = .ok (.return_, 1) := by decide +kernel
theorem dX6_countCrosses_0 : decode cX6_countCrosses 0 = .ok (.aload_n 0, 1) := by decide +kernel
theorem dX6_countCrosses_1 : decode cX6_countCrosses 1 = .ok (.iload_n 1, 1) := by decide +kernel
theorem dX6_countCrosses_2 : decode cX6_countCrosses 2 = .ok (.invokevirtual 96, 3) := by decide +kernel
theorem dX6_countCrosses_5 : decode cX6_countCrosses 5 = .ok (.aload_n 0, 1) := by decide +kernel
theorem dX6_countCrosses_6 : decode cX6_countCrosses 6 = .ok (.getfield 28, 3) := by decide +kernel
theorem dX6_countCrosses_9 : decode cX6_countCrosses 9 = .ok (.iload_n 1, 1) := by decide +kernel
theorem dX6_countCrosses_10 : decode cX6_countCrosses 10 = .ok (.iaload, 1) := by decide +kernel
theorem dX6_countCrosses_11 : decode cX6_countCrosses 11 = .ok (.iload_n 2, 1) := by decide +kernel
theorem dX6_countCrosses_12 : decode cX6_countCrosses 12 = .ok (.invokevirtual 100, 3) := by decide +kernel
theorem dX6_countCrosses_15 : decode cX6_countCrosses 15 = .ok (.istore 4, 2) := by decide +kernel
theorem dX6_countCrosses_17 : decode cX6_countCrosses 17 = .ok (.aload_n 0, 1) := by decide +kernel
theorem dX6_countCrosses_18 : decode cX6_countCrosses 18 = .ok (.iload_n 1, 1) := by decide +kernel
theorem dX6_countCrosses_19 : decode cX6_countCrosses 19 = .ok (.invokevirtual 96, 3) := by decide +kernel
theorem dX6_countCrosses_22 : decode cX6_countCrosses 22 = .ok (.aload_n 0, 1) := by decide +kernel
theorem dX6_countCrosses_23 : decode cX6_countCrosses 23 = .ok (.getfield 28, 3) := by decide +kernel
theorem dX6_countCrosses_26 : decode cX6_countCrosses 26 = .ok (.iload_n 1, 1) := by decide +kernel
theorem dX6_countCrosses_27 : decode cX6_countCrosses 27 = .ok (.iaload, 1) := by decide +kernel
theorem dX6_countCrosses_28 : decode cX6_countCrosses 28 = .ok (.iload_n 3, 1) := by decide +kernel
theorem dX6_countCrosses_29 : decode cX6_countCrosses 29 = .ok (.invokevirtual 100, 3) := by decide +kernel
theorem dX6_countCrosses_32 : decode cX6_countCrosses 32 = .ok (.istore 5, 2) := by decide +kernel
theorem dX6_countCrosses_34 : decode cX6_countCrosses 34 = .ok (.aload_n 0, 1) := by decide +kernel
theorem dX6_countCrosses_35 : decode cX6_countCrosses 35 = .ok (.iload_n 1, 1) := by decide +kernel
theorem dX6_countCrosses_36 : decode cX6_countCrosses 36 = .ok (.iconst 1, 1) := by decide +kernel
theorem dX6_countCrosses_37 : decode cX6_countCrosses 37 = .ok (.iadd, 1) := by decide +kernel
theorem dX6_countCrosses_38 : decode cX6_countCrosses 38 = .ok (.invokevirtual 96, 3) := by decide +kernel
theorem dX6_countCrosses_41 : decode cX6_countCrosses 41 = .ok (.astore 6, 2) := by decide +kernel
theorem dX6_countCrosses_43 : decode cX6_countCrosses 43 = .ok (.iconst 0, 1) := by decide +kernel
theorem dX6_countCrosses_44 : decode cX6_countCrosses 44 = .ok (.istore 7, 2) := by decide +kernel
theorem dX6_countCrosses_46 : decode cX6_countCrosses 46 = .ok (.iload 7, 2) := by decide +kernel
theorem dX6_countCrosses_48 : decode cX6_countCrosses 48 = .ok (.aload_n 0, 1) := by decide +kernel
theorem dX6_countCrosses_49 : decode cX6_countCrosses 49 = .ok (.getfield 52, 3) := by decide +kernel
theorem dX6_countCrosses_52 : decode cX6_countCrosses 52 = .ok (.iload_n 1, 1) := by decide +kernel
theorem dX6_countCrosses_53 : decode cX6_countCrosses 53 = .ok (.iconst 1, 1) := by decide +kernel
theorem dX6_countCrosses_54 : decode cX6_countCrosses 54 = .ok (.iadd, 1) := by decide +kernel
theorem dX6_countCrosses_55 : decode cX6_countCrosses 55 = .ok (.invokevirtual 90, 3) := by decide +kernel
theorem dX6_countCrosses_58 : decode cX6_countCrosses 58 = .ok (.if_icmp .ge 117, 3) := by decide +kernel
theorem dX6_countCrosses_61 : decode cX6_countCrosses 61 = .ok (.iload 7, 2) := by decide +kernel
theorem dX6_countCrosses_63 : decode cX6_countCrosses 63 = .ok (.iconst 1, 1) := by decide +kernel
theorem dX6_countCrosses_64 : decode cX6_countCrosses 64 = .ok (.iadd, 1) := by decide +kernel
theorem dX6_countCrosses_65 : decode cX6_countCrosses 65 = .ok (.istore 8, 2) := by decide +kernel
theorem dX6_countCrosses_67 : decode cX6_countCrosses 67 = .ok (.iload 8, 2) := by decide +kernel
theorem dX6_countCrosses_69 : decode cX6_countCrosses 69 = .ok (.aload_n 0, 1) := by decide +kernel
theorem dX6_countCrosses_70 : decode cX6_countCrosses 70 = .ok (.getfield 52, 3) := by decide +kernel
theorem dX6_countCrosses_73 : decode cX6_countCrosses 73 = .ok (.iload_n 1, 1) := by decide +kernel
theorem dX6_countCrosses_74 : decode cX6_countCrosses 74 = .ok (.iconst 1, 1) := by decide +kernel
theorem dX6_countCrosses_75 : decode cX6_countCrosses 75 = .ok (.iadd, 1) := by decide +kernel
theorem dX6_countCrosses_76 : decode cX6_countCrosses 76 = .ok (.invokevirtual 90, 3) := by decide +kernel
theorem dX6_countCrosses_79 : decode cX6_countCrosses 79 = .ok (.if_icmp .ge 90, 3) := by decide +kernel
theorem dX6_countCrosses_82 : decode cX6_countCrosses 82 = .ok (.aload 6, 2) := by decide +kernel
theorem dX6_countCrosses_84 : decode cX6_countCrosses 84 = .ok (.aload_n 0, 1) := by decide +kernel
theorem dX6_countCrosses_85 : decode cX6_countCrosses 85 = .ok (.getfield 28, 3) := by decide +kernel
theorem dX6_countCrosses_88 : decode cX6_countCrosses 88 = .ok (.iload_n 1, 1) := by decide +kernel
theorem dX6_countCrosses_89 : decode cX6_countCrosses 89 = .ok (.iconst 1, 1) := by decide +kernel
theorem dX6_countCrosses_90 : decode cX6_countCrosses 90 = .ok (.iadd, 1) := by decide +kernel
theorem dX6_countCrosses_91 : decode cX6_countCrosses 91 = .ok (.iaload, 1) := by decide +kernel
theorem dX6_countCrosses_92 : decode cX6_countCrosses 92 = .ok (.iload 7, 2) := by decide +kernel
theorem dX6_countCrosses_94 : decode cX6_countCrosses 94 = .ok (.invokevirtual 100, 3) := by decide +kernel
theorem dX6_countCrosses_97 : decode cX6_countCrosses 97 = .ok (.istore 9, 2) := by decide +kernel
theorem dX6_countCrosses_99 : decode cX6_countCrosses 99 = .ok (.aload 6, 2) := by decide +kernel
theorem dX6_countCrosses_101 : decode cX6_countCrosses 101 = .ok (.aload_n 0, 1) := by decide +kernel
theorem dX6_countCrosses_102 : decode cX6_countCrosses 102 = .ok (.getfield 28, 3) := by decide +kernel
theorem dX6_countCrosses_105 : decode cX6_countCrosses 105 = .ok (.iload_n 1, 1) := by decide +kernel
theorem dX6_countCrosses_106 : decode cX6_countCrosses 106 = .ok (.iconst 1, 1) := by decide +kernel
theorem dX6_countCrosses_107 : decode cX6_countCrosses 107 = .ok (.iadd, 1) := by decide +kernel
theorem dX6_countCrosses_108 : decode cX6_countCrosses 108 = .ok (.iaload, 1) := by decide +kernel
theorem dX6_countCrosses_109 : decode cX6_countCrosses 109 = .ok (.iload 8, 2) := by decide +kernel
theorem dX6_countCrosses_111 : decode cX6_countCrosses 111 = .ok (.invokevirtual 100, 3) := by decide +kernel
theorem dX6_countCrosses_114 : decode cX6_countCrosses 114 = .ok (.istore 10, 2) := by decide +kernel
theorem dX6_countCrosses_116 : decode cX6_countCrosses 116 = .ok (.aload_n 0, 1) := by decide +kernel
theorem dX6_countCrosses_117 : decode cX6_countCrosses 117 = .ok (.getfield 65, 3) := by decide +kernel
theorem dX6_countCrosses_120 : decode cX6_countCrosses 120 = .ok (.iload 4, 2) := by decide +kernel
theorem dX6_countCrosses_122 : decode cX6_countCrosses 122 = .ok (.iload 5, 2) := by decide +kernel
theorem dX6_countCrosses_124 : decode cX6_countCrosses 124 = .ok (.iload 9, 2) := by decide +kernel
theorem dX6_countCrosses_126 : decode cX6_countCrosses 126 = .ok (.iload 10, 2) := by decide +kernel
theorem dX6_countCrosses_128 : decode cX6_countCrosses 128 = .ok (.invokevirtual 162, 3) := by decide +kernel
theorem dX6_countCrosses_131 : decode cX6_countCrosses 131 = .ok (.istore 11, 2) := by decide +kernel
theorem dX6_countCrosses_133 : decode cX6_countCrosses 133 = .ok (.aload_n 0, 1) := by decide +kernel
theorem dX6_countCrosses_134 : decode cX6_countCrosses 134 = .ok (.dup, 1) := by decide +kernel
theorem dX6_countCrosses_135 : decode cX6_countCrosses 135 = .ok (.getfield 39, 3) := by decide +kernel
theorem dX6_countCrosses_138 : decode cX6_countCrosses 138 = .ok (.iload 11, 2) := by decide +kernel
theorem dX6_countCrosses_140 : decode cX6_countCrosses 140 = .ok (.iadd, 1) := by decide +kernel
theorem dX6_countCrosses_141 : decode cX6_countCrosses 141 = .ok (.putfield 39, 3) := by decide +kernel
theorem dX6_countCrosses_144 : decode cX6_countCrosses 144 = .ok (.aload_n 0, 1) := by decide +kernel
theorem dX6_countCrosses_145 : decode cX6_countCrosses 145 = .ok (.dup, 1) := by decide +kernel
theorem dX6_countCrosses_146 : decode cX6_countCrosses 146 = .ok (.getfield 42, 3) := by decide +kernel
theorem dX6_countCrosses_149 : decode cX6_countCrosses 149 = .ok (.iload 11, 2) := by decide +kernel
theorem dX6_countCrosses_151 : decode cX6_countCrosses 151 = .ok (.ifCond .le 7, 3) := by decide +kernel
theorem dX6_countCrosses_154 : decode cX6_countCrosses 154 = .ok (.iconst 1, 1) := by decide +kernel
theorem dX6_countCrosses_155 : decode cX6_countCrosses 155 = .ok (.goto 4, 3) := by decide +kernel
theorem dX6_countCrosses_158 : decode cX6_countCrosses 158 = .ok (.iconst 0, 1) := by decide +kernel
theorem dX6_countCrosses_159 : decode cX6_countCrosses 159 = .ok (.iadd, 1) := by decide +kernel
theorem dX6_countCrosses_160 : decode cX6_countCrosses 160 = .ok (.putfield 42, 3) := by decide +kernel
theorem dX6_countCrosses_163 : decode cX6_countCrosses 163 = .ok (.iinc 8 1, 3) := by decide +kernel
theorem dX6_countCrosses_166 : decode cX6_countCrosses 166 = .ok (.goto (-99), 3) := by decide +kernel
theorem dX6_countCrosses_169 : decode cX6_countCrosses 169 = .ok (.iinc 7 1, 3) := by decide +kernel
theorem dX6_countCrosses_172 : decode cX6_countCrosses 172 = .ok (.goto (-126), 3) := by decide +kernel
theorem dX6_countCrosses_175 : decode cX6_countCrosses 175 = .ok (.return_, 1) := by decide +kernel
theorem dX7_init_0 : decode cX7_init 0 = .ok (.aload_n 0, 1) := by decide +kernel
theorem dX7_init_1 : decode cX7_init 1 = .ok (.invokespecial 3, 3) := by decide +kernel
theorem dX7_init_4 : decode cX7_init 4 = .ok (.aload_n 0, 1) := by decide +kernel
theorem dX7_init_5 : decode cX7_init 5 = .ok (.bipush 10, 2) := by decide +kernel
theorem dX7_init_7 : decode cX7_init 7 = .ok (.bipush 26, 2) := by decide +kernel
theorem dX7_init_9 : decode cX7_init 9 = .ok (.multianewarray 9 2, 4) := by decide +kernel
theorem dX7_init_13 : decode cX7_init 13 = .ok (.putfield 11, 3) := by decide +kernel
theorem dX7_init_16 : decode cX7_init 16 = .ok (.aload_n 0, 1) := by decide +kernel
theorem dX7_init_17 : decode cX7_init 17 = .ok (.bipush 11, 2) := by decide +kernel
theorem dX7_init_19 : decode cX7_init 19 = .ok (.newarray .int, 2) := by decide +kernel
theorem dX7_init_21 : decode cX7_init 21 = .ok (.putfield 16, 3) := by decide +kernel
theorem dX7_init_24 : decode cX7_init 24 = .ok (.aload_n 0, 1) := by decide +kernel
theorem dX7_init_25 : decode cX7_init 25 = .ok (.aload_n 1, 1) := by decide +kernel
theorem dX7_init_26 : decode cX7_init 26 = .ok (.putfield 20, 3) := by decide +kernel
theorem dX7_init_29 : decode cX7_init 29 = .ok (.return_, 1) := by decide +kernel
theorem dX7_fill_0 : decode cX7_fill 0 = .ok (.aload_n 0, 1) := by decide +kernel
theorem dX7_fill_1 : decode cX7_fill 1 = .ok (.getfield 16, 3) := by decide +kernel
theorem dX7_fill_4 : decode cX7_fill 4 = .ok (.iconst 0, 1) := by decide +kernel
theorem dX7_fill_5 : decode cX7_fill 5 = .ok (.invokestatic 24, 3) := by decide +kernel
theorem dX7_fill_8 : decode cX7_fill 8 = .ok (.iconst 0, 1) := by decide +kernel
theorem dX7_fill_9 : decode cX7_fill 9 = .ok (.istore_n 1, 1) := by decide +kernel
theorem dX7_fill_10 : decode cX7_fill 10 = .ok (.iload_n 1, 1) := by decide +kernel
theorem dX7_fill_11 : decode cX7_fill 11 = .ok (.bipush 10, 2) := by decide +kernel
theorem dX7_fill_13 : decode cX7_fill 13 = .ok (.if_icmp .ge 34, 3) := by decide +kernel
theorem dX7_fill_16 : decode cX7_fill 16 = .ok (.aload_n 0, 1) := by decide +kernel
theorem dX7_fill_17 : decode cX7_fill 17 = .ok (.getfield 20, 3) := by decide +kernel
theorem dX7_fill_20 : decode cX7_fill 20 = .ok (.iload_n 1, 1) := by decide +kernel
theorem dX7_fill_21 : decode cX7_fill 21 = .ok (.invokevirtual 30, 3) := by decide +kernel
theorem dX7_fill_24 : decode cX7_fill 24 = .ok (.iconst (-1), 1) := by decide +kernel
theorem dX7_fill_25 : decode cX7_fill 25 = .ok (.if_icmp .eq 16, 3) := by decide +kernel
theorem dX7_fill_28 : decode cX7_fill 28 = .ok (.aload_n 0, 1) := by decide +kernel
theorem dX7_fill_29 : decode cX7_fill 29 = .ok (.aload_n 0, 1) := by decide +kernel
theorem dX7_fill_30 : decode cX7_fill 30 = .ok (.getfield 20, 3) := by decide +kernel
theorem dX7_fill_33 : decode cX7_fill 33 = .ok (.iload_n 1, 1) := by decide +kernel
theorem dX7_fill_34 : decode cX7_fill 34 = .ok (.invokevirtual 30, 3) := by decide +kernel
theorem dX7_fill_37 : decode cX7_fill 37 = .ok (.iload_n 1, 1) := by decide +kernel
theorem dX7_fill_38 : decode cX7_fill 38 = .ok (.invokevirtual 36, 3) := by decide +kernel
theorem dX7_fill_41 : decode cX7_fill 41 = .ok (.iinc 1 1, 3) := by decide +kernel
theorem dX7_fill_44 : decode cX7_fill 44 = .ok (.goto (-34), 3) := by decide +kernel
theorem dX7_fill_47 : decode cX7_fill 47 = .ok (.iconst 0, 1) := by decide +kernel
theorem dX7_fill_48 : decode cX7_fill 48 = .ok (.istore_n 1, 1) := by decide +kernel
theorem dX7_fill_49 : decode cX7_fill 49 = .ok (.iload_n 1, 1) := by decide +kernel
theorem dX7_fill_50 : decode cX7_fill 50 = .ok (.bipush 10, 2) := by decide +kernel
theorem dX7_fill_52 : decode cX7_fill 52 = .ok (.if_icmp .ge 41, 3) := by decide +kernel
theorem dX7_fill_55 : decode cX7_fill 55 = .ok (.iconst 0, 1) := by decide +kernel
theorem dX7_fill_56 : decode cX7_fill 56 = .ok (.istore_n 2, 1) := by decide +kernel
theorem dX7_fill_57 : decode cX7_fill 57 = .ok (.iload_n 2, 1) := by decide +kernel
theorem dX7_fill_58 : decode cX7_fill 58 = .ok (.bipush 10, 2) := by decide +kernel
theorem dX7_fill_60 : decode cX7_fill 60 = .ok (.if_icmp .ge 27, 3) := by decide +kernel
theorem dX7_fill_63 : decode cX7_fill 63 = .ok (.aload_n 0, 1) := by decide +kernel
theorem dX7_fill_64 : decode cX7_fill 64 = .ok (.getfield 20, 3) := by decide +kernel
theorem dX7_fill_67 : decode cX7_fill 67 = .ok (.iload_n 1, 1) := by decide +kernel
theorem dX7_fill_68 : decode cX7_fill 68 = .ok (.iload_n 2, 1) := by decide +kernel
theorem dX7_fill_69 : decode cX7_fill 69 = .ok (.invokevirtual 40, 3) := by decide +kernel
theorem dX7_fill_72 : decode cX7_fill 72 = .ok (.ifCond .le 9, 3) := by decide +kernel
theorem dX7_fill_75 : decode cX7_fill 75 = .ok (.aload_n 0, 1) := by decide +kernel
theorem dX7_fill_76 : decode cX7_fill 76 = .ok (.iload_n 1, 1) := by decide +kernel
theorem dX7_fill_77 : decode cX7_fill 77 = .ok (.iload_n 2, 1) := by decide +kernel
theorem dX7_fill_78 : decode cX7_fill 78 = .ok (.invokevirtual 44, 3) := by decide +kernel
theorem dX7_fill_81 : decode cX7_fill 81 = .ok (.iinc 2 1, 3) := by decide +kernel
theorem dX7_fill_84 : decode cX7_fill 84 = .ok (.goto (-27), 3) := by decide +kernel
theorem dX7_fill_87 : decode cX7_fill 87 = .ok (.iinc 1 1, 3) := by decide +kernel
theorem dX7_fill_90 : decode cX7_fill 90 = .ok (.goto (-41), 3) := by decide +kernel
theorem dX7_fill_93 : decode cX7_fill 93 = .ok (.return_, 1) := by decide +kernel
theorem dX7_fits_0 : decode cX7_fits 0 = .ok (.aload_n 0, 1) := by decide +kernel
theorem dX7_fits_1 : decode cX7_fits 1 = .ok (.getfield 16, 3) := by decide +kernel
theorem dX7_fits_4 : decode cX7_fits 4 = .ok (.astore_n 1, 1) := by decide +kernel
theorem dX7_fits_5 : decode cX7_fits 5 = .ok (.aload_n 1, 1) := by decide +kernel
theorem dX7_fits_6 : decode cX7_fits 6 = .ok (.arraylength, 1) := by decide +kernel
theorem dX7_fits_7 : decode cX7_fits 7 = .ok (.istore_n 2, 1) := by decide +kernel
theorem dX7_fits_8 : decode cX7_fits 8 = .ok (.iconst 0, 1) := by decide +kernel
theorem dX7_fits_9 : decode cX7_fits 9 = .ok (.istore_n 3, 1) := by decide +kernel
theorem dX7_fits_10 : decode cX7_fits 10 = .ok (.iload_n 3, 1) := by decide +kernel
theorem dX7_fits_11 : decode cX7_fits 11 = .ok (.iload_n 2, 1) := by decide +kernel
theorem dX7_fits_12 : decode cX7_fits 12 = .ok (.if_icmp .ge 22, 3) := by decide +kernel
theorem dX7_fits_15 : decode cX7_fits 15 = .ok (.aload_n 1, 1) := by decide +kernel
theorem dX7_fits_16 : decode cX7_fits 16 = .ok (.iload_n 3, 1) := by decide +kernel
theorem dX7_fits_17 : decode cX7_fits 17 = .ok (.iaload, 1) := by decide +kernel
theorem dX7_fits_18 : decode cX7_fits 18 = .ok (.istore 4, 2) := by decide +kernel
theorem dX7_fits_20 : decode cX7_fits 20 = .ok (.iload 4, 2) := by decide +kernel
theorem dX7_fits_22 : decode cX7_fits 22 = .ok (.iconst 5, 1) := by decide +kernel
theorem dX7_fits_23 : decode cX7_fits 23 = .ok (.if_icmp .le 5, 3) := by decide +kernel
theorem dX7_fits_26 : decode cX7_fits 26 = .ok (.iconst 0, 1) := by decide +kernel
theorem dX7_fits_27 : decode cX7_fits 27 = .ok (.ireturn, 1) := by decide +kernel
theorem dX7_fits_28 : decode cX7_fits 28 = .ok (.iinc 3 1, 3) := by decide +kernel
theorem dX7_fits_31 : decode cX7_fits 31 = .ok (.goto (-21), 3) := by decide +kernel
theorem dX7_fits_34 : decode cX7_fits 34 = .ok (.iconst 1, 1) := by decide +kernel
theorem dX7_fits_35 : decode cX7_fits 35 = .ok (.ireturn, 1) := by decide +kernel
theorem dX7_countIn_0 : decode cX7_countIn 0 = .ok (.aload_n 0, 1) := by decide +kernel
theorem dX7_countIn_1 : decode cX7_countIn 1 = .ok (.getfield 16, 3) := by decide +kernel
theorem dX7_countIn_4 : decode cX7_countIn 4 = .ok (.iload_n 1, 1) := by decide +kernel
theorem dX7_countIn_5 : decode cX7_countIn 5 = .ok (.iaload, 1) := by decide +kernel
theorem dX7_countIn_6 : decode cX7_countIn 6 = .ok (.ireturn, 1) := by decide +kernel
theorem dX7_numberAt_0 : decode cX7_numberAt 0 = .ok (.aload_n 0, 1) := by decide +kernel
theorem dX7_numberAt_1 : decode cX7_numberAt 1 = .ok (.getfield 11, 3) := by decide +kernel
theorem dX7_numberAt_4 : decode cX7_numberAt 4 = .ok (.iload_n 1, 1) := by decide +kernel
theorem dX7_numberAt_5 : decode cX7_numberAt 5 = .ok (.aaload, 1) := by decide +kernel
theorem dX7_numberAt_6 : decode cX7_numberAt 6 = .ok (.iload_n 2, 1) := by decide +kernel
theorem dX7_numberAt_7 : decode cX7_numberAt 7 = .ok (.iaload, 1) := by decide +kernel
theorem dX7_numberAt_8 : decode cX7_numberAt 8 = .ok (.ireturn, 1) := by decide +kernel
theorem dX7_indexOf_0 : decode cX7_indexOf 0 = .ok (.iconst 0, 1) := by decide +kernel
theorem dX7_indexOf_1 : decode cX7_indexOf 1 = .ok (.istore_n 3, 1) := by decide +kernel
theorem dX7_indexOf_2 : decode cX7_indexOf 2 = .ok (.iload_n 3, 1) := by decide +kernel
theorem dX7_indexOf_3 : decode cX7_indexOf 3 = .ok (.aload_n 0, 1) := by decide +kernel
theorem dX7_indexOf_4 : decode cX7_indexOf 4 = .ok (.getfield 16, 3) := by decide +kernel
theorem dX7_indexOf_7 : decode cX7_indexOf 7 = .ok (.iload_n 1, 1) := by decide +kernel
theorem dX7_indexOf_8 : decode cX7_indexOf 8 = .ok (.iaload, 1) := by decide +kernel
theorem dX7_indexOf_9 : decode cX7_indexOf 9 = .ok (.if_icmp .ge 23, 3) := by decide +kernel
theorem dX7_indexOf_12 : decode cX7_indexOf 12 = .ok (.aload_n 0, 1) := by decide +kernel
theorem dX7_indexOf_13 : decode cX7_indexOf 13 = .ok (.getfield 11, 3) := by decide +kernel
theorem dX7_indexOf_16 : decode cX7_indexOf 16 = .ok (.iload_n 1, 1) := by decide +kernel
theorem dX7_indexOf_17 : decode cX7_indexOf 17 = .ok (.aaload, 1) := by decide +kernel
theorem dX7_indexOf_18 : decode cX7_indexOf 18 = .ok (.iload_n 3, 1) := by decide +kernel
theorem dX7_indexOf_19 : decode cX7_indexOf 19 = .ok (.iaload, 1) := by decide +kernel
theorem dX7_indexOf_20 : decode cX7_indexOf 20 = .ok (.iload_n 2, 1) := by decide +kernel
theorem dX7_indexOf_21 : decode cX7_indexOf 21 = .ok (.if_icmp .ne 5, 3) := by decide +kernel
theorem dX7_indexOf_24 : decode cX7_indexOf 24 = .ok (.iload_n 3, 1) := by decide +kernel
theorem dX7_indexOf_25 : decode cX7_indexOf 25 = .ok (.ireturn, 1) := by decide +kernel
theorem dX7_indexOf_26 : decode cX7_indexOf 26 = .ok (.iinc 3 1, 3) := by decide +kernel
theorem dX7_indexOf_29 : decode cX7_indexOf 29 = .ok (.goto (-27), 3) := by decide +kernel
theorem dX7_indexOf_32 : decode cX7_indexOf 32 = .ok (.iconst (-1), 1) := by decide +kernel
theorem dX7_indexOf_33 : decode cX7_indexOf 33 = .ok (.ireturn, 1) := by decide +kernel
theorem dX7_addBeads_0 : decode cX7_addBeads 0 = .ok (.aload_n 0, 1) := by decide +kernel
theorem dX7_addBeads_1 : decode cX7_addBeads 1 = .ok (.getfield 20, 3) := by decide +kernel
theorem dX7_addBeads_4 : decode cX7_addBeads 4 = .ok (.iload_n 1, 1) := by decide +kernel
theorem dX7_addBeads_5 : decode cX7_addBeads 5 = .ok (.invokevirtual 30, 3) := by decide +kernel
theorem dX7_addBeads_8 : decode cX7_addBeads 8 = .ok (.iconst 1, 1) := by decide +kernel
theorem dX7_addBeads_9 : decode cX7_addBeads 9 = .ok (.iadd, 1) := by decide +kernel
theorem dX7_addBeads_10 : decode cX7_addBeads 10 = .ok (.istore_n 3, 1) := by decide +kernel
theorem dX7_addBeads_11 : decode cX7_addBeads 11 = .ok (.iload_n 3, 1) := by decide +kernel
theorem dX7_addBeads_12 : decode cX7_addBeads 12 = .ok (.aload_n 0, 1) := by decide +kernel
theorem dX7_addBeads_13 : decode cX7_addBeads 13 = .ok (.getfield 20, 3) := by decide +kernel
theorem dX7_addBeads_16 : decode cX7_addBeads 16 = .ok (.iload_n 2, 1) := by decide +kernel
theorem dX7_addBeads_17 : decode cX7_addBeads 17 = .ok (.invokevirtual 30, 3) := by decide +kernel
theorem dX7_addBeads_20 : decode cX7_addBeads 20 = .ok (.if_icmp .ge 23, 3) := by decide +kernel
theorem dX7_addBeads_23 : decode cX7_addBeads 23 = .ok (.aload_n 0, 1) := by decide +kernel
theorem dX7_addBeads_24 : decode cX7_addBeads 24 = .ok (.iload_n 3, 1) := by decide +kernel
theorem dX7_addBeads_25 : decode cX7_addBeads 25 = .ok (.bipush 100, 2) := by decide +kernel
theorem dX7_addBeads_27 : decode cX7_addBeads 27 = .ok (.bipush 10, 2) := by decide +kernel
theorem dX7_addBeads_29 : decode cX7_addBeads 29 = .ok (.iload_n 1, 1) := by decide +kernel
theorem dX7_addBeads_30 : decode cX7_addBeads 30 = .ok (.imul, 1) := by decide +kernel
theorem dX7_addBeads_31 : decode cX7_addBeads 31 = .ok (.iadd, 1) := by decide +kernel
theorem dX7_addBeads_32 : decode cX7_addBeads 32 = .ok (.iload_n 2, 1) := by decide +kernel
theorem dX7_addBeads_33 : decode cX7_addBeads 33 = .ok (.iadd, 1) := by decide +kernel
theorem dX7_addBeads_34 : decode cX7_addBeads 34 = .ok (.invokevirtual 36, 3) := by decide +kernel
theorem dX7_addBeads_37 : decode cX7_addBeads 37 = .ok (.iinc 3 1, 3) := by decide +kernel
theorem dX7_addBeads_40 : decode cX7_addBeads 40 = .ok (.goto (-29), 3) := by decide +kernel
theorem dX7_addBeads_43 : decode cX7_addBeads 43 = .ok (.return_, 1) := by decide +kernel
theorem dX7_add_0 : decode cX7_add 0 = .ok (.aload_n 0, 1) := by decide +kernel
theorem dX7_add_1 : decode cX7_add 1 = .ok (.getfield 16, 3) := by decide +kernel
theorem dX7_add_4 : decode cX7_add 4 = .ok (.iload_n 1, 1) := by decide +kernel
theorem dX7_add_5 : decode cX7_add 5 = .ok (.iaload, 1) := by decide +kernel
theorem dX7_add_6 : decode cX7_add 6 = .ok (.aload_n 0, 1) := by decide +kernel
theorem dX7_add_7 : decode cX7_add 7 = .ok (.getfield 11, 3) := by decide +kernel
theorem dX7_add_10 : decode cX7_add 10 = .ok (.iload_n 1, 1) := by decide +kernel
theorem dX7_add_11 : decode cX7_add 11 = .ok (.aaload, 1) := by decide +kernel
theorem dX7_add_12 : decode cX7_add 12 = .ok (.arraylength, 1) := by decide +kernel
theorem dX7_add_13 : decode cX7_add 13 = .ok (.if_icmp .ge 27, 3) := by decide +kernel
theorem dX7_add_16 : decode cX7_add 16 = .ok (.aload_n 0, 1) := by decide +kernel
theorem dX7_add_17 : decode cX7_add 17 = .ok (.getfield 11, 3) := by decide +kernel
theorem dX7_add_20 : decode cX7_add 20 = .ok (.iload_n 1, 1) := by decide +kernel
theorem dX7_add_21 : decode cX7_add 21 = .ok (.aaload, 1) := by decide +kernel
theorem dX7_add_22 : decode cX7_add 22 = .ok (.aload_n 0, 1) := by decide +kernel
theorem dX7_add_23 : decode cX7_add 23 = .ok (.getfield 16, 3) := by decide +kernel
theorem dX7_add_26 : decode cX7_add 26 = .ok (.iload_n 1, 1) := by decide +kernel
theorem dX7_add_27 : decode cX7_add 27 = .ok (.iaload, 1) := by decide +kernel
theorem dX7_add_28 : decode cX7_add 28 = .ok (.iload_n 2, 1) := by decide +kernel
theorem dX7_add_29 : decode cX7_add 29 = .ok (.iastore, 1) := by decide +kernel
theorem dX7_add_30 : decode cX7_add 30 = .ok (.aload_n 0, 1) := by decide +kernel
theorem dX7_add_31 : decode cX7_add 31 = .ok (.getfield 16, 3) := by decide +kernel
theorem dX7_add_34 : decode cX7_add 34 = .ok (.iload_n 1, 1) := by decide +kernel
theorem dX7_add_35 : decode cX7_add 35 = .ok (.dup2, 1) := by decide +kernel
theorem dX7_add_36 : decode cX7_add 36 = .ok (.iaload, 1) := by decide +kernel
theorem dX7_add_37 : decode cX7_add 37 = .ok (.iconst 1, 1) := by decide +kernel
theorem dX7_add_38 : decode cX7_add 38 = .ok (.iadd, 1) := by decide +kernel
theorem dX7_add_39 : decode cX7_add 39 = .ok (.iastore, 1) := by decide +kernel
theorem dX7_add_40 : decode cX7_add 40 = .ok (.return_, 1) := by decide +kernel
theorem dX8_init_0 : decode cX8_init 0 = .ok (.aload_n 0, 1) := by decide +kernel
theorem dX8_init_1 : decode cX8_init 1 = .ok (.invokespecial 3, 3) := by decide +kernel
theorem dX8_init_4 : decode cX8_init 4 = .ok (.aload_n 0, 1) := by decide +kernel
theorem dX8_init_5 : decode cX8_init 5 = .ok (.new 9, 3) := by decide +kernel
theorem dX8_init_8 : decode cX8_init 8 = .ok (.dup, 1) := by decide +kernel
theorem dX8_init_9 : decode cX8_init 9 = .ok (.invokespecial 11, 3) := by decide +kernel
theorem dX8_init_12 : decode cX8_init 12 = .ok (.putfield 12, 3) := by decide +kernel
theorem dX8_init_15 : decode cX8_init 15 = .ok (.aload_n 0, 1) := by decide +kernel
theorem dX8_init_16 : decode cX8_init 16 = .ok (.new 16, 3) := by decide +kernel
theorem dX8_init_19 : decode cX8_init 19 = .ok (.dup, 1) := by decide +kernel
theorem dX8_init_20 : decode cX8_init 20 = .ok (.aload_n 0, 1) := by decide +kernel
theorem dX8_init_21 : decode cX8_init 21 = .ok (.getfield 12, 3) := by decide +kernel
theorem dX8_init_24 : decode cX8_init 24 = .ok (.invokespecial 18, 3) := by decide +kernel
theorem dX8_init_27 : decode cX8_init 27 = .ok (.putfield 21, 3) := by decide +kernel
theorem dX8_init_30 : decode cX8_init 30 = .ok (.aload_n 0, 1) := by decide +kernel
theorem dX8_init_31 : decode cX8_init 31 = .ok (.new 25, 3) := by decide +kernel
theorem dX8_init_34 : decode cX8_init 34 = .ok (.dup, 1) := by decide +kernel
theorem dX8_init_35 : decode cX8_init 35 = .ok (.aload_n 0, 1) := by decide +kernel
theorem dX8_init_36 : decode cX8_init 36 = .ok (.getfield 21, 3) := by decide +kernel
theorem dX8_init_39 : decode cX8_init 39 = .ok (.invokespecial 27, 3) := by decide +kernel
theorem dX8_init_42 : decode cX8_init 42 = .ok (.putfield 30, 3) := by decide +kernel
theorem dX8_init_45 : decode cX8_init 45 = .ok (.aload_n 0, 1) := by decide +kernel
theorem dX8_init_46 : decode cX8_init 46 = .ok (.new 34, 3) := by decide +kernel
theorem dX8_init_49 : decode cX8_init 49 = .ok (.dup, 1) := by decide +kernel
theorem dX8_init_50 : decode cX8_init 50 = .ok (.invokespecial 36, 3) := by decide +kernel
theorem dX8_init_53 : decode cX8_init 53 = .ok (.putfield 37, 3) := by decide +kernel
theorem dX8_init_56 : decode cX8_init 56 = .ok (.aload_n 0, 1) := by decide +kernel
theorem dX8_init_57 : decode cX8_init 57 = .ok (.new 41, 3) := by decide +kernel
theorem dX8_init_60 : decode cX8_init 60 = .ok (.dup, 1) := by decide +kernel
theorem dX8_init_61 : decode cX8_init 61 = .ok (.aload_n 0, 1) := by decide +kernel
theorem dX8_init_62 : decode cX8_init 62 = .ok (.getfield 21, 3) := by decide +kernel
theorem dX8_init_65 : decode cX8_init 65 = .ok (.aload_n 0, 1) := by decide +kernel
theorem dX8_init_66 : decode cX8_init 66 = .ok (.getfield 30, 3) := by decide +kernel
theorem dX8_init_69 : decode cX8_init 69 = .ok (.aload_n 0, 1) := by decide +kernel
theorem dX8_init_70 : decode cX8_init 70 = .ok (.getfield 37, 3) := by decide +kernel
theorem dX8_init_73 : decode cX8_init 73 = .ok (.invokespecial 43, 3) := by decide +kernel
theorem dX8_init_76 : decode cX8_init 76 = .ok (.putfield 46, 3) := by decide +kernel
theorem dX8_init_79 : decode cX8_init 79 = .ok (.aload_n 0, 1) := by decide +kernel
theorem dX8_init_80 : decode cX8_init 80 = .ok (.new 50, 3) := by decide +kernel
theorem dX8_init_83 : decode cX8_init 83 = .ok (.dup, 1) := by decide +kernel
theorem dX8_init_84 : decode cX8_init 84 = .ok (.aload_n 0, 1) := by decide +kernel
theorem dX8_init_85 : decode cX8_init 85 = .ok (.getfield 21, 3) := by decide +kernel
theorem dX8_init_88 : decode cX8_init 88 = .ok (.aload_n 0, 1) := by decide +kernel
theorem dX8_init_89 : decode cX8_init 89 = .ok (.getfield 46, 3) := by decide +kernel
theorem dX8_init_92 : decode cX8_init 92 = .ok (.invokespecial 52, 3) := by decide +kernel
theorem dX8_init_95 : decode cX8_init 95 = .ok (.putfield 55, 3) := by decide +kernel
theorem dX8_init_98 : decode cX8_init 98 = .ok (.aload_n 0, 1) := by decide +kernel
theorem dX8_init_99 : decode cX8_init 99 = .ok (.iconst 4, 1) := by decide +kernel
theorem dX8_init_100 : decode cX8_init 100 = .ok (.putfield 59, 3) := by decide +kernel
theorem dX8_init_103 : decode cX8_init 103 = .ok (.aload_n 0, 1) := by decide +kernel
theorem dX8_init_104 : decode cX8_init 104 = .ok (.iconst 0, 1) := by decide +kernel
theorem dX8_init_105 : decode cX8_init 105 = .ok (.putfield 63, 3) := by decide +kernel
theorem dX8_init_108 : decode cX8_init 108 = .ok (.aload_n 0, 1) := by decide +kernel
theorem dX8_init_109 : decode cX8_init 109 = .ok (.iconst 0, 1) := by decide +kernel
theorem dX8_init_110 : decode cX8_init 110 = .ok (.putfield 66, 3) := by decide +kernel
theorem dX8_init_113 : decode cX8_init 113 = .ok (.aload_n 0, 1) := by decide +kernel
theorem dX8_init_114 : decode cX8_init 114 = .ok (.iconst 0, 1) := by decide +kernel
theorem dX8_init_115 : decode cX8_init 115 = .ok (.putfield 70, 3) := by decide +kernel
theorem dX8_init_118 : decode cX8_init 118 = .ok (.return_, 1) := by decide +kernel
theorem dX8_flow_0 : decode cX8_flow 0 = .ok (.aload_n 0, 1) := by decide +kernel
theorem dX8_flow_1 : decode cX8_flow 1 = .ok (.getfield 12, 3) := by decide +kernel
theorem dX8_flow_4 : decode cX8_flow 4 = .ok (.iload_n 1, 1) := by decide +kernel
theorem dX8_flow_5 : decode cX8_flow 5 = .ok (.iload_n 2, 1) := by decide +kernel
theorem dX8_flow_6 : decode cX8_flow 6 = .ok (.iload_n 3, 1) := by decide +kernel
theorem dX8_flow_7 : decode cX8_flow 7 = .ok (.invokevirtual 73, 3) := by decide +kernel
theorem dX8_flow_10 : decode cX8_flow 10 = .ok (.ifCond .ne 5, 3) := by decide +kernel
theorem dX8_flow_13 : decode cX8_flow 13 = .ok (.iconst 0, 1) := by decide +kernel
theorem dX8_flow_14 : decode cX8_flow 14 = .ok (.ireturn, 1) := by decide +kernel
theorem dX8_flow_15 : decode cX8_flow 15 = .ok (.aload_n 0, 1) := by decide +kernel
theorem dX8_flow_16 : decode cX8_flow 16 = .ok (.getfield 12, 3) := by decide +kernel
theorem dX8_flow_19 : decode cX8_flow 19 = .ok (.iload_n 1, 1) := by decide +kernel
theorem dX8_flow_20 : decode cX8_flow 20 = .ok (.iload_n 2, 1) := by decide +kernel
theorem dX8_flow_21 : decode cX8_flow 21 = .ok (.invokevirtual 77, 3) := by decide +kernel
theorem dX8_flow_24 : decode cX8_flow 24 = .ok (.iload_n 3, 1) := by decide +kernel
theorem dX8_flow_25 : decode cX8_flow 25 = .ok (.if_icmp .eq 23, 3) := by decide +kernel
theorem dX8_flow_28 : decode cX8_flow 28 = .ok (.aload_n 0, 1) := by decide +kernel
theorem dX8_flow_29 : decode cX8_flow 29 = .ok (.getfield 12, 3) := by decide +kernel
theorem dX8_flow_32 : decode cX8_flow 32 = .ok (.iload_n 1, 1) := by decide +kernel
theorem dX8_flow_33 : decode cX8_flow 33 = .ok (.iload_n 2, 1) := by decide +kernel
theorem dX8_flow_34 : decode cX8_flow 34 = .ok (.iload_n 3, 1) := by decide +kernel
theorem dX8_flow_35 : decode cX8_flow 35 = .ok (.invokevirtual 81, 3) := by decide +kernel
theorem dX8_flow_38 : decode cX8_flow 38 = .ok (.aload_n 0, 1) := by decide +kernel
theorem dX8_flow_39 : decode cX8_flow 39 = .ok (.iconst 0, 1) := by decide +kernel
theorem dX8_flow_40 : decode cX8_flow 40 = .ok (.putfield 66, 3) := by decide +kernel
theorem dX8_flow_43 : decode cX8_flow 43 = .ok (.aload_n 0, 1) := by decide +kernel
theorem dX8_flow_44 : decode cX8_flow 44 = .ok (.iconst 0, 1) := by decide +kernel
theorem dX8_flow_45 : decode cX8_flow 45 = .ok (.putfield 70, 3) := by decide +kernel
theorem dX8_flow_48 : decode cX8_flow 48 = .ok (.iconst 1, 1) := by decide +kernel
theorem dX8_flow_49 : decode cX8_flow 49 = .ok (.ireturn, 1) := by decide +kernel
theorem dX8_clear_0 : decode cX8_clear 0 = .ok (.aload_n 0, 1) := by decide +kernel
theorem dX8_clear_1 : decode cX8_clear 1 = .ok (.getfield 12, 3) := by decide +kernel
theorem dX8_clear_4 : decode cX8_clear 4 = .ok (.invokevirtual 85, 3) := by decide +kernel
theorem dX8_clear_7 : decode cX8_clear 7 = .ok (.aload_n 0, 1) := by decide +kernel
theorem dX8_clear_8 : decode cX8_clear 8 = .ok (.iconst 0, 1) := by decide +kernel
theorem dX8_clear_9 : decode cX8_clear 9 = .ok (.putfield 66, 3) := by decide +kernel
theorem dX8_clear_12 : decode cX8_clear 12 = .ok (.aload_n 0, 1) := by decide +kernel
theorem dX8_clear_13 : decode cX8_clear 13 = .ok (.iconst 0, 1) := by decide +kernel
theorem dX8_clear_14 : decode cX8_clear 14 = .ok (.putfield 70, 3) := by decide +kernel
theorem dX8_clear_17 : decode cX8_clear 17 = .ok (.return_, 1) := by decide +kernel
theorem dX8_set_0 : decode cX8_set 0 = .ok (.iload_n 1, 1) := by decide +kernel
theorem dX8_set_1 : decode cX8_set 1 = .ok (.ifCond .lt 20, 3) := by decide +kernel
theorem dX8_set_4 : decode cX8_set 4 = .ok (.iload_n 1, 1) := by decide +kernel
theorem dX8_set_5 : decode cX8_set 5 = .ok (.bipush 50, 2) := by decide +kernel
theorem dX8_set_7 : decode cX8_set 7 = .ok (.if_icmp .gt 14, 3) := by decide +kernel
theorem dX8_set_10 : decode cX8_set 10 = .ok (.iload_n 2, 1) := by decide +kernel
theorem dX8_set_11 : decode cX8_set 11 = .ok (.ifCond .lt 10, 3) := by decide +kernel
theorem dX8_set_14 : decode cX8_set 14 = .ok (.iload_n 2, 1) := by decide +kernel
theorem dX8_set_15 : decode cX8_set 15 = .ok (.sipush 9999, 3) := by decide +kernel
theorem dX8_set_18 : decode cX8_set 18 = .ok (.if_icmp .le 5, 3) := by decide +kernel
theorem dX8_set_21 : decode cX8_set 21 = .ok (.iconst 0, 1) := by decide +kernel
theorem dX8_set_22 : decode cX8_set 22 = .ok (.ireturn, 1) := by decide +kernel
theorem dX8_set_23 : decode cX8_set 23 = .ok (.aload_n 0, 1) := by decide +kernel
theorem dX8_set_24 : decode cX8_set 24 = .ok (.getfield 63, 3) := by decide +kernel
theorem dX8_set_27 : decode cX8_set 27 = .ok (.iload_n 2, 1) := by decide +kernel
theorem dX8_set_28 : decode cX8_set 28 = .ok (.if_icmp .eq 8, 3) := by decide +kernel
theorem dX8_set_31 : decode cX8_set 31 = .ok (.aload_n 0, 1) := by decide +kernel
theorem dX8_set_32 : decode cX8_set 32 = .ok (.iconst 0, 1) := by decide +kernel
theorem dX8_set_33 : decode cX8_set 33 = .ok (.putfield 70, 3) := by decide +kernel
theorem dX8_set_36 : decode cX8_set 36 = .ok (.aload_n 0, 1) := by decide +kernel
theorem dX8_set_37 : decode cX8_set 37 = .ok (.iload_n 1, 1) := by decide +kernel
theorem dX8_set_38 : decode cX8_set 38 = .ok (.putfield 59, 3) := by decide +kernel
theorem dX8_set_41 : decode cX8_set 41 = .ok (.aload_n 0, 1) := by decide +kernel
theorem dX8_set_42 : decode cX8_set 42 = .ok (.iload_n 2, 1) := by decide +kernel
theorem dX8_set_43 : decode cX8_set 43 = .ok (.putfield 63, 3) := by decide +kernel
theorem dX8_set_46 : decode cX8_set 46 = .ok (.iconst 1, 1) := by decide +kernel
theorem dX8_set_47 : decode cX8_set 47 = .ok (.ireturn, 1) := by decide +kernel
theorem dX8_about_0 : decode cX8_about 0 = .ok (.iload_n 1, 1) := by decide +kernel
theorem dX8_about_1 : decode cX8_about 1 = .ok (.tableswitch 113 0 7 #[47, 55, 63, 71, 79, 87, 92, 97], 47) := by decide +kernel
theorem dX8_about_48 : decode cX8_about 48 = .ok (.aload_n 0, 1) := by decide +kernel
theorem dX8_about_49 : decode cX8_about 49 = .ok (.getfield 12, 3) := by decide +kernel
theorem dX8_about_52 : decode cX8_about 52 = .ok (.invokevirtual 88, 3) := by decide +kernel
theorem dX8_about_55 : decode cX8_about 55 = .ok (.ireturn, 1) := by decide +kernel
theorem dX8_about_56 : decode cX8_about 56 = .ok (.aload_n 0, 1) := by decide +kernel
theorem dX8_about_57 : decode cX8_about 57 = .ok (.getfield 12, 3) := by decide +kernel
theorem dX8_about_60 : decode cX8_about 60 = .ok (.invokevirtual 92, 3) := by decide +kernel
theorem dX8_about_63 : decode cX8_about 63 = .ok (.ireturn, 1) := by decide +kernel
theorem dX8_about_64 : decode cX8_about 64 = .ok (.aload_n 0, 1) := by decide +kernel
theorem dX8_about_65 : decode cX8_about 65 = .ok (.invokevirtual 95, 3) := by decide +kernel
theorem dX8_about_68 : decode cX8_about 68 = .ok (.invokevirtual 99, 3) := by decide +kernel
theorem dX8_about_71 : decode cX8_about 71 = .ok (.ireturn, 1) := by decide +kernel
theorem dX8_about_72 : decode cX8_about 72 = .ok (.aload_n 0, 1) := by decide +kernel
theorem dX8_about_73 : decode cX8_about 73 = .ok (.invokevirtual 95, 3) := by decide +kernel
theorem dX8_about_76 : decode cX8_about 76 = .ok (.invokevirtual 102, 3) := by decide +kernel
theorem dX8_about_79 : decode cX8_about 79 = .ok (.ireturn, 1) := by decide +kernel
theorem dX8_about_80 : decode cX8_about 80 = .ok (.aload_n 0, 1) := by decide +kernel
theorem dX8_about_81 : decode cX8_about 81 = .ok (.invokevirtual 95, 3) := by decide +kernel
theorem dX8_about_84 : decode cX8_about 84 = .ok (.invokevirtual 105, 3) := by decide +kernel
theorem dX8_about_87 : decode cX8_about 87 = .ok (.ireturn, 1) := by decide +kernel
theorem dX8_about_88 : decode cX8_about 88 = .ok (.aload_n 0, 1) := by decide +kernel
theorem dX8_about_89 : decode cX8_about 89 = .ok (.getfield 59, 3) := by decide +kernel
theorem dX8_about_92 : decode cX8_about 92 = .ok (.ireturn, 1) := by decide +kernel
theorem dX8_about_93 : decode cX8_about 93 = .ok (.aload_n 0, 1) := by decide +kernel
theorem dX8_about_94 : decode cX8_about 94 = .ok (.getfield 63, 3) := by decide +kernel
theorem dX8_about_97 : decode cX8_about 97 = .ok (.ireturn, 1) := by decide +kernel
theorem dX8_about_98 : decode cX8_about 98 = .ok (.aload_n 0, 1) := by decide +kernel
theorem dX8_about_99 : decode cX8_about 99 = .ok (.getfield 37, 3) := by decide +kernel
theorem dX8_about_102 : decode cX8_about 102 = .ok (.invokevirtual 108, 3) := by decide +kernel
theorem dX8_about_105 : decode cX8_about 105 = .ok (.ifCond .eq 7, 3) := by decide +kernel
theorem dX8_about_108 : decode cX8_about 108 = .ok (.iconst 1, 1) := by decide +kernel
theorem dX8_about_109 : decode cX8_about 109 = .ok (.goto 4, 3) := by decide +kernel
theorem dX8_about_112 : decode cX8_about 112 = .ok (.iconst 0, 1) := by decide +kernel
theorem dX8_about_113 : decode cX8_about 113 = .ok (.ireturn, 1) := by decide +kernel
theorem dX8_about_114 : decode cX8_about 114 = .ok (.iconst (-1), 1) := by decide +kernel
theorem dX8_about_115 : decode cX8_about 115 = .ok (.ireturn, 1) := by decide +kernel
theorem dX8_width_0 : decode cX8_width 0 = .ok (.aload_n 0, 1) := by decide +kernel
theorem dX8_width_1 : decode cX8_width 1 = .ok (.getfield 12, 3) := by decide +kernel
theorem dX8_width_4 : decode cX8_width 4 = .ok (.iload_n 1, 1) := by decide +kernel
theorem dX8_width_5 : decode cX8_width 5 = .ok (.iload_n 2, 1) := by decide +kernel
theorem dX8_width_6 : decode cX8_width 6 = .ok (.invokevirtual 77, 3) := by decide +kernel
theorem dX8_width_9 : decode cX8_width 9 = .ok (.ireturn, 1) := by decide +kernel
theorem dX8_turned_0 : decode cX8_turned 0 = .ok (.aload_n 0, 1) := by decide +kernel
theorem dX8_turned_1 : decode cX8_turned 1 = .ok (.getfield 12, 3) := by decide +kernel
theorem dX8_turned_4 : decode cX8_turned 4 = .ok (.iload_n 1, 1) := by decide +kernel
theorem dX8_turned_5 : decode cX8_turned 5 = .ok (.iload_n 2, 1) := by decide +kernel
theorem dX8_turned_6 : decode cX8_turned 6 = .ok (.invokevirtual 77, 3) := by decide +kernel
theorem dX8_turned_9 : decode cX8_turned 9 = .ok (.ifCond .ne 5, 3) := by decide +kernel
theorem dX8_turned_12 : decode cX8_turned 12 = .ok (.iconst (-1), 1) := by decide +kernel
theorem dX8_turned_13 : decode cX8_turned 13 = .ok (.ireturn, 1) := by decide +kernel
theorem dX8_turned_14 : decode cX8_turned 14 = .ok (.aload_n 0, 1) := by decide +kernel
theorem dX8_turned_15 : decode cX8_turned 15 = .ok (.invokevirtual 95, 3) := by decide +kernel
theorem dX8_turned_18 : decode cX8_turned 18 = .ok (.iload_n 1, 1) := by decide +kernel
theorem dX8_turned_19 : decode cX8_turned 19 = .ok (.iload_n 2, 1) := by decide +kernel
theorem dX8_turned_20 : decode cX8_turned 20 = .ok (.invokevirtual 112, 3) := by decide +kernel
theorem dX8_turned_23 : decode cX8_turned 23 = .ok (.ifCond .eq 7, 3) := by decide +kernel
theorem dX8_turned_26 : decode cX8_turned 26 = .ok (.iconst 1, 1) := by decide +kernel
theorem dX8_turned_27 : decode cX8_turned 27 = .ok (.goto 4, 3) := by decide +kernel
theorem dX8_turned_30 : decode cX8_turned 30 = .ok (.iconst 0, 1) := by decide +kernel
theorem dX8_turned_31 : decode cX8_turned 31 = .ok (.ireturn, 1) := by decide +kernel
theorem dX8_row_0 : decode cX8_row 0 = .ok (.aload_n 0, 1) := by decide +kernel
theorem dX8_row_1 : decode cX8_row 1 = .ok (.invokevirtual 95, 3) := by decide +kernel
theorem dX8_row_4 : decode cX8_row 4 = .ok (.iload_n 1, 1) := by decide +kernel
theorem dX8_row_5 : decode cX8_row 5 = .ok (.invokevirtual 116, 3) := by decide +kernel
theorem dX8_row_8 : decode cX8_row 8 = .ok (.ireturn, 1) := by decide +kernel
theorem dX8_layer_0 : decode cX8_layer 0 = .ok (.iload_n 1, 1) := by decide +kernel
theorem dX8_layer_1 : decode cX8_layer 1 = .ok (.invokestatic 120, 3) := by decide +kernel
theorem dX8_layer_4 : decode cX8_layer 4 = .ok (.ifCond .eq 14, 3) := by decide +kernel
theorem dX8_layer_7 : decode cX8_layer 7 = .ok (.aload_n 0, 1) := by decide +kernel
theorem dX8_layer_8 : decode cX8_layer 8 = .ok (.invokevirtual 95, 3) := by decide +kernel
theorem dX8_layer_11 : decode cX8_layer 11 = .ok (.iload_n 1, 1) := by decide +kernel
theorem dX8_layer_12 : decode cX8_layer 12 = .ok (.invokevirtual 124, 3) := by decide +kernel
theorem dX8_layer_15 : decode cX8_layer 15 = .ok (.goto 4, 3) := by decide +kernel
theorem dX8_layer_18 : decode cX8_layer 18 = .ok (.iconst (-1), 1) := by decide +kernel
theorem dX8_layer_19 : decode cX8_layer 19 = .ok (.ireturn, 1) := by decide +kernel
theorem dX8_rest_0 : decode cX8_rest 0 = .ok (.iload_n 1, 1) := by decide +kernel
theorem dX8_rest_1 : decode cX8_rest 1 = .ok (.invokestatic 120, 3) := by decide +kernel
theorem dX8_rest_4 : decode cX8_rest 4 = .ok (.ifCond .eq 23, 3) := by decide +kernel
theorem dX8_rest_7 : decode cX8_rest 7 = .ok (.aload_n 0, 1) := by decide +kernel
theorem dX8_rest_8 : decode cX8_rest 8 = .ok (.getfield 12, 3) := by decide +kernel
theorem dX8_rest_11 : decode cX8_rest 11 = .ok (.iload_n 1, 1) := by decide +kernel
theorem dX8_rest_12 : decode cX8_rest 12 = .ok (.invokevirtual 127, 3) := by decide +kernel
theorem dX8_rest_15 : decode cX8_rest 15 = .ok (.aload_n 0, 1) := by decide +kernel
theorem dX8_rest_16 : decode cX8_rest 16 = .ok (.getfield 12, 3) := by decide +kernel
theorem dX8_rest_19 : decode cX8_rest 19 = .ok (.iload_n 1, 1) := by decide +kernel
theorem dX8_rest_20 : decode cX8_rest 20 = .ok (.invokevirtual 130, 3) := by decide +kernel
theorem dX8_rest_23 : decode cX8_rest 23 = .ok (.isub, 1) := by decide +kernel
theorem dX8_rest_24 : decode cX8_rest 24 = .ok (.goto 6, 3) := by decide +kernel
theorem dX8_rest_27 : decode cX8_rest 27 = .ok (.sipush (-10000), 3) := by decide +kernel
theorem dX8_rest_30 : decode cX8_rest 30 = .ok (.ireturn, 1) := by decide +kernel
theorem dX8_cost_0 : decode cX8_cost 0 = .ok (.aload_n 0, 1) := by decide +kernel
theorem dX8_cost_1 : decode cX8_cost 1 = .ok (.invokevirtual 133, 3) := by decide +kernel
theorem dX8_cost_4 : decode cX8_cost 4 = .ok (.ifCond .eq 13, 3) := by decide +kernel
theorem dX8_cost_7 : decode cX8_cost 7 = .ok (.aload_n 0, 1) := by decide +kernel
theorem dX8_cost_8 : decode cX8_cost 8 = .ok (.getfield 46, 3) := by decide +kernel
theorem dX8_cost_11 : decode cX8_cost 11 = .ok (.invokevirtual 136, 3) := by decide +kernel
theorem dX8_cost_14 : decode cX8_cost 14 = .ok (.goto 4, 3) := by decide +kernel
theorem dX8_cost_17 : decode cX8_cost 17 = .ok (.iconst (-1), 1) := by decide +kernel
theorem dX8_cost_18 : decode cX8_cost 18 = .ok (.ireturn, 1) := by decide +kernel
theorem dX8_part_0 : decode cX8_part 0 = .ok (.aload_n 0, 1) := by decide +kernel
theorem dX8_part_1 : decode cX8_part 1 = .ok (.invokevirtual 133, 3) := by decide +kernel
theorem dX8_part_4 : decode cX8_part 4 = .ok (.ifCond .ne 5, 3) := by decide +kernel
theorem dX8_part_7 : decode cX8_part 7 = .ok (.iconst (-1), 1) := by decide +kernel
theorem dX8_part_8 : decode cX8_part 8 = .ok (.ireturn, 1) := by decide +kernel
theorem dX8_part_9 : decode cX8_part 9 = .ok (.iload_n 1, 1) := by decide +kernel
theorem dX8_part_10 : decode cX8_part 10 = .ok (.tableswitch 50 0 2 #[26, 34, 42], 26) := by decide +kernel
theorem dX8_part_36 : decode cX8_part 36 = .ok (.aload_n 0, 1) := by decide +kernel
theorem dX8_part_37 : decode cX8_part 37 = .ok (.getfield 46, 3) := by decide +kernel
theorem dX8_part_40 : decode cX8_part 40 = .ok (.invokevirtual 139, 3) := by decide +kernel
theorem dX8_part_43 : decode cX8_part 43 = .ok (.ireturn, 1) := by decide +kernel
theorem dX8_part_44 : decode cX8_part 44 = .ok (.aload_n 0, 1) := by decide +kernel
theorem dX8_part_45 : decode cX8_part 45 = .ok (.getfield 46, 3) := by decide +kernel
theorem dX8_part_48 : decode cX8_part 48 = .ok (.invokevirtual 142, 3) := by decide +kernel
theorem dX8_part_51 : decode cX8_part 51 = .ok (.ireturn, 1) := by decide +kernel
theorem dX8_part_52 : decode cX8_part 52 = .ok (.aload_n 0, 1) := by decide +kernel
theorem dX8_part_53 : decode cX8_part 53 = .ok (.getfield 46, 3) := by decide +kernel
theorem dX8_part_56 : decode cX8_part 56 = .ok (.invokevirtual 145, 3) := by decide +kernel
theorem dX8_part_59 : decode cX8_part 59 = .ok (.ireturn, 1) := by decide +kernel
theorem dX8_part_60 : decode cX8_part 60 = .ok (.iconst (-1), 1) := by decide +kernel
theorem dX8_part_61 : decode cX8_part 61 = .ok (.ireturn, 1) := by decide +kernel
theorem dX8_items_0 : decode cX8_items 0 = .ok (.aload_n 0, 1) := by decide +kernel
theorem dX8_items_1 : decode cX8_items 1 = .ok (.iload_n 1, 1) := by decide +kernel
theorem dX8_items_2 : decode cX8_items 2 = .ok (.invokevirtual 148, 3) := by decide +kernel
theorem dX8_items_5 : decode cX8_items 5 = .ok (.ifCond .eq 14, 3) := by decide +kernel
theorem dX8_items_8 : decode cX8_items 8 = .ok (.aload_n 0, 1) := by decide +kernel
theorem dX8_items_9 : decode cX8_items 9 = .ok (.getfield 30, 3) := by decide +kernel
theorem dX8_items_12 : decode cX8_items 12 = .ok (.iload_n 1, 1) := by decide +kernel
theorem dX8_items_13 : decode cX8_items 13 = .ok (.invokevirtual 151, 3) := by decide +kernel
theorem dX8_items_16 : decode cX8_items 16 = .ok (.goto 4, 3) := by decide +kernel
theorem dX8_items_19 : decode cX8_items 19 = .ok (.iconst (-1), 1) := by decide +kernel
theorem dX8_items_20 : decode cX8_items 20 = .ok (.ireturn, 1) := by decide +kernel
theorem dX8_item_0 : decode cX8_item 0 = .ok (.aload_n 0, 1) := by decide +kernel
theorem dX8_item_1 : decode cX8_item 1 = .ok (.iload_n 1, 1) := by decide +kernel
theorem dX8_item_2 : decode cX8_item 2 = .ok (.invokevirtual 148, 3) := by decide +kernel
theorem dX8_item_5 : decode cX8_item 5 = .ok (.ifCond .eq 10, 3) := by decide +kernel
theorem dX8_item_8 : decode cX8_item 8 = .ok (.aload_n 0, 1) := by decide +kernel
theorem dX8_item_9 : decode cX8_item 9 = .ok (.invokevirtual 133, 3) := by decide +kernel
theorem dX8_item_12 : decode cX8_item 12 = .ok (.ifCond .ne 5, 3) := by decide +kernel
theorem dX8_item_15 : decode cX8_item 15 = .ok (.iconst (-1), 1) := by decide +kernel
theorem dX8_item_16 : decode cX8_item 16 = .ok (.ireturn, 1) := by decide +kernel
theorem dX8_item_17 : decode cX8_item 17 = .ok (.aload_n 0, 1) := by decide +kernel
theorem dX8_item_18 : decode cX8_item 18 = .ok (.getfield 46, 3) := by decide +kernel
theorem dX8_item_21 : decode cX8_item 21 = .ok (.iload_n 1, 1) := by decide +kernel
theorem dX8_item_22 : decode cX8_item 22 = .ok (.iload_n 2, 1) := by decide +kernel
theorem dX8_item_23 : decode cX8_item 23 = .ok (.invokevirtual 154, 3) := by decide +kernel
theorem dX8_item_26 : decode cX8_item 26 = .ok (.ireturn, 1) := by decide +kernel
theorem dX8_place_0 : decode cX8_place 0 = .ok (.iload_n 1, 1) := by decide +kernel
theorem dX8_place_1 : decode cX8_place 1 = .ok (.invokestatic 120, 3) := by decide +kernel
theorem dX8_place_4 : decode cX8_place 4 = .ok (.ifCond .eq 19, 3) := by decide +kernel
theorem dX8_place_7 : decode cX8_place 7 = .ok (.iload_n 2, 1) := by decide +kernel
theorem dX8_place_8 : decode cX8_place 8 = .ok (.ifCond .lt 15, 3) := by decide +kernel
theorem dX8_place_11 : decode cX8_place 11 = .ok (.iload_n 2, 1) := by decide +kernel
theorem dX8_place_12 : decode cX8_place 12 = .ok (.iconst 1, 1) := by decide +kernel
theorem dX8_place_13 : decode cX8_place 13 = .ok (.if_icmp .gt 10, 3) := by decide +kernel
theorem dX8_place_16 : decode cX8_place 16 = .ok (.aload_n 0, 1) := by decide +kernel
theorem dX8_place_17 : decode cX8_place 17 = .ok (.invokevirtual 133, 3) := by decide +kernel
theorem dX8_place_20 : decode cX8_place 20 = .ok (.ifCond .ne 5, 3) := by decide +kernel
theorem dX8_place_23 : decode cX8_place 23 = .ok (.iconst (-1), 1) := by decide +kernel
theorem dX8_place_24 : decode cX8_place 24 = .ok (.ireturn, 1) := by decide +kernel
theorem dX8_place_25 : decode cX8_place 25 = .ok (.aload_n 0, 1) := by decide +kernel
theorem dX8_place_26 : decode cX8_place 26 = .ok (.getfield 21, 3) := by decide +kernel
theorem dX8_place_29 : decode cX8_place 29 = .ok (.iload_n 1, 1) := by decide +kernel
theorem dX8_place_30 : decode cX8_place 30 = .ok (.invokevirtual 124, 3) := by decide +kernel
theorem dX8_place_33 : decode cX8_place 33 = .ok (.istore_n 3, 1) := by decide +kernel
theorem dX8_place_34 : decode cX8_place 34 = .ok (.iload_n 3, 1) := by decide +kernel
theorem dX8_place_35 : decode cX8_place 35 = .ok (.iconst (-1), 1) := by decide +kernel
theorem dX8_place_36 : decode cX8_place 36 = .ok (.if_icmp .ne 5, 3) := by decide +kernel
theorem dX8_place_39 : decode cX8_place 39 = .ok (.iconst (-1), 1) := by decide +kernel
theorem dX8_place_40 : decode cX8_place 40 = .ok (.ireturn, 1) := by decide +kernel
theorem dX8_place_41 : decode cX8_place 41 = .ok (.aload_n 0, 1) := by decide +kernel
theorem dX8_place_42 : decode cX8_place 42 = .ok (.getfield 55, 3) := by decide +kernel
theorem dX8_place_45 : decode cX8_place 45 = .ok (.iload_n 3, 1) := by decide +kernel
theorem dX8_place_46 : decode cX8_place 46 = .ok (.iload_n 1, 1) := by decide +kernel
theorem dX8_place_47 : decode cX8_place 47 = .ok (.aload_n 0, 1) := by decide +kernel
theorem dX8_place_48 : decode cX8_place 48 = .ok (.getfield 59, 3) := by decide +kernel
theorem dX8_place_51 : decode cX8_place 51 = .ok (.invokevirtual 157, 3) := by decide +kernel
theorem dX8_place_54 : decode cX8_place 54 = .ok (.istore 4, 2) := by decide +kernel
theorem dX8_place_56 : decode cX8_place 56 = .ok (.iload_n 2, 1) := by decide +kernel
theorem dX8_place_57 : decode cX8_place 57 = .ok (.ifCond .ne 8, 3) := by decide +kernel
theorem dX8_place_60 : decode cX8_place 60 = .ok (.iload 4, 2) := by decide +kernel
theorem dX8_place_62 : decode cX8_place 62 = .ok (.goto 14, 3) := by decide +kernel
theorem dX8_place_65 : decode cX8_place 65 = .ok (.iload 4, 2) := by decide +kernel
theorem dX8_place_67 : decode cX8_place 67 = .ok (.aload_n 0, 1) := by decide +kernel
theorem dX8_place_68 : decode cX8_place 68 = .ok (.getfield 55, 3) := by decide +kernel
theorem dX8_place_71 : decode cX8_place 71 = .ok (.iload_n 1, 1) := by decide +kernel
theorem dX8_place_72 : decode cX8_place 72 = .ok (.invokevirtual 161, 3) := by decide +kernel
theorem dX8_place_75 : decode cX8_place 75 = .ok (.iadd, 1) := by decide +kernel
theorem dX8_place_76 : decode cX8_place 76 = .ok (.ireturn, 1) := by decide +kernel
theorem dX8_point_0 : decode cX8_point 0 = .ok (.aload_n 0, 1) := by decide +kernel
theorem dX8_point_1 : decode cX8_point 1 = .ok (.getfield 12, 3) := by decide +kernel
theorem dX8_point_4 : decode cX8_point 4 = .ok (.iload_n 1, 1) := by decide +kernel
theorem dX8_point_5 : decode cX8_point 5 = .ok (.iload_n 2, 1) := by decide +kernel
theorem dX8_point_6 : decode cX8_point 6 = .ok (.invokevirtual 77, 3) := by decide +kernel
theorem dX8_point_9 : decode cX8_point 9 = .ok (.ifCond .eq 22, 3) := by decide +kernel
theorem dX8_point_12 : decode cX8_point 12 = .ok (.aload_n 0, 1) := by decide +kernel
theorem dX8_point_13 : decode cX8_point 13 = .ok (.invokevirtual 133, 3) := by decide +kernel
theorem dX8_point_16 : decode cX8_point 16 = .ok (.ifCond .eq 15, 3) := by decide +kernel
theorem dX8_point_19 : decode cX8_point 19 = .ok (.aload_n 0, 1) := by decide +kernel
theorem dX8_point_20 : decode cX8_point 20 = .ok (.getfield 21, 3) := by decide +kernel
theorem dX8_point_23 : decode cX8_point 23 = .ok (.iload_n 1, 1) := by decide +kernel
theorem dX8_point_24 : decode cX8_point 24 = .ok (.iload_n 2, 1) := by decide +kernel
theorem dX8_point_25 : decode cX8_point 25 = .ok (.invokevirtual 112, 3) := by decide +kernel
theorem dX8_point_28 : decode cX8_point 28 = .ok (.ifCond .eq 5, 3) := by decide +kernel
theorem dX8_point_31 : decode cX8_point 31 = .ok (.iconst (-1), 1) := by decide +kernel
theorem dX8_point_32 : decode cX8_point 32 = .ok (.ireturn, 1) := by decide +kernel
theorem dX8_point_33 : decode cX8_point 33 = .ok (.iload_n 3, 1) := by decide +kernel
theorem dX8_point_34 : decode cX8_point 34 = .ok (.aload_n 0, 1) := by decide +kernel
theorem dX8_point_35 : decode cX8_point 35 = .ok (.getfield 21, 3) := by decide +kernel
theorem dX8_point_38 : decode cX8_point 38 = .ok (.iload_n 1, 1) := by decide +kernel
theorem dX8_point_39 : decode cX8_point 39 = .ok (.invokevirtual 124, 3) := by decide +kernel
theorem dX8_point_42 : decode cX8_point 42 = .ok (.if_icmp .lt 15, 3) := by decide +kernel
theorem dX8_point_45 : decode cX8_point 45 = .ok (.iload_n 3, 1) := by decide +kernel
theorem dX8_point_46 : decode cX8_point 46 = .ok (.aload_n 0, 1) := by decide +kernel
theorem dX8_point_47 : decode cX8_point 47 = .ok (.getfield 21, 3) := by decide +kernel
theorem dX8_point_50 : decode cX8_point 50 = .ok (.iload_n 2, 1) := by decide +kernel
theorem dX8_point_51 : decode cX8_point 51 = .ok (.invokevirtual 124, 3) := by decide +kernel
theorem dX8_point_54 : decode cX8_point 54 = .ok (.if_icmp .le 5, 3) := by decide +kernel
theorem dX8_point_57 : decode cX8_point 57 = .ok (.iconst (-1), 1) := by decide +kernel
theorem dX8_point_58 : decode cX8_point 58 = .ok (.ireturn, 1) := by decide +kernel
theorem dX8_point_59 : decode cX8_point 59 = .ok (.iload 4, 2) := by decide +kernel
theorem dX8_point_61 : decode cX8_point 61 = .ok (.ifCond .ne 18, 3) := by decide +kernel
theorem dX8_point_64 : decode cX8_point 64 = .ok (.aload_n 0, 1) := by decide +kernel
theorem dX8_point_65 : decode cX8_point 65 = .ok (.getfield 55, 3) := by decide +kernel
theorem dX8_point_68 : decode cX8_point 68 = .ok (.iload_n 1, 1) := by decide +kernel
theorem dX8_point_69 : decode cX8_point 69 = .ok (.iload_n 2, 1) := by decide +kernel
theorem dX8_point_70 : decode cX8_point 70 = .ok (.iload_n 3, 1) := by decide +kernel
theorem dX8_point_71 : decode cX8_point 71 = .ok (.aload_n 0, 1) := by decide +kernel
theorem dX8_point_72 : decode cX8_point 72 = .ok (.getfield 59, 3) := by decide +kernel
theorem dX8_point_75 : decode cX8_point 75 = .ok (.invokevirtual 164, 3) := by decide +kernel
theorem dX8_point_78 : decode cX8_point 78 = .ok (.ireturn, 1) := by decide +kernel
theorem dX8_point_79 : decode cX8_point 79 = .ok (.iload 4, 2) := by decide +kernel
theorem dX8_point_81 : decode cX8_point 81 = .ok (.iconst 1, 1) := by decide +kernel
theorem dX8_point_82 : decode cX8_point 82 = .ok (.if_icmp .ne 20, 3) := by decide +kernel
theorem dX8_point_85 : decode cX8_point 85 = .ok (.aload_n 0, 1) := by decide +kernel
theorem dX8_point_86 : decode cX8_point 86 = .ok (.getfield 55, 3) := by decide +kernel
theorem dX8_point_89 : decode cX8_point 89 = .ok (.iload_n 1, 1) := by decide +kernel
theorem dX8_point_90 : decode cX8_point 90 = .ok (.iload_n 2, 1) := by decide +kernel
theorem dX8_point_91 : decode cX8_point 91 = .ok (.iload_n 3, 1) := by decide +kernel
theorem dX8_point_92 : decode cX8_point 92 = .ok (.aload_n 0, 1) := by decide +kernel
theorem dX8_point_93 : decode cX8_point 93 = .ok (.getfield 59, 3) := by decide +kernel
theorem dX8_point_96 : decode cX8_point 96 = .ok (.invokevirtual 168, 3) := by decide +kernel
theorem dX8_point_99 : decode cX8_point 99 = .ok (.goto 4, 3) := by decide +kernel
theorem dX8_point_102 : decode cX8_point 102 = .ok (.iconst (-1), 1) := by decide +kernel
theorem dX8_point_103 : decode cX8_point 103 = .ok (.ireturn, 1) := by decide +kernel
theorem dX8_keep_0 : decode cX8_keep 0 = .ok (.aload_n 0, 1) := by decide +kernel
theorem dX8_keep_1 : decode cX8_keep 1 = .ok (.invokevirtual 133, 3) := by decide +kernel
theorem dX8_keep_4 : decode cX8_keep 4 = .ok (.ifCond .ne 5, 3) := by decide +kernel
theorem dX8_keep_7 : decode cX8_keep 7 = .ok (.iconst 0, 1) := by decide +kernel
theorem dX8_keep_8 : decode cX8_keep 8 = .ok (.ireturn, 1) := by decide +kernel
theorem dX8_keep_9 : decode cX8_keep 9 = .ok (.aload_n 0, 1) := by decide +kernel
theorem dX8_keep_10 : decode cX8_keep 10 = .ok (.getfield 37, 3) := by decide +kernel
theorem dX8_keep_13 : decode cX8_keep 13 = .ok (.invokevirtual 171, 3) := by decide +kernel
theorem dX8_keep_16 : decode cX8_keep 16 = .ok (.iconst 0, 1) := by decide +kernel
theorem dX8_keep_17 : decode cX8_keep 17 = .ok (.istore_n 1, 1) := by decide +kernel
theorem dX8_keep_18 : decode cX8_keep 18 = .ok (.iload_n 1, 1) := by decide +kernel
theorem dX8_keep_19 : decode cX8_keep 19 = .ok (.aload_n 0, 1) := by decide +kernel
theorem dX8_keep_20 : decode cX8_keep 20 = .ok (.getfield 21, 3) := by decide +kernel
theorem dX8_keep_23 : decode cX8_keep 23 = .ok (.invokevirtual 105, 3) := by decide +kernel
theorem dX8_keep_26 : decode cX8_keep 26 = .ok (.if_icmp .ge 47, 3) := by decide +kernel
theorem dX8_keep_29 : decode cX8_keep 29 = .ok (.iconst 0, 1) := by decide +kernel
theorem dX8_keep_30 : decode cX8_keep 30 = .ok (.istore_n 2, 1) := by decide +kernel
theorem dX8_keep_31 : decode cX8_keep 31 = .ok (.iload_n 2, 1) := by decide +kernel
theorem dX8_keep_32 : decode cX8_keep 32 = .ok (.aload_n 0, 1) := by decide +kernel
theorem dX8_keep_33 : decode cX8_keep 33 = .ok (.getfield 30, 3) := by decide +kernel
theorem dX8_keep_36 : decode cX8_keep 36 = .ok (.iload_n 1, 1) := by decide +kernel
theorem dX8_keep_37 : decode cX8_keep 37 = .ok (.invokevirtual 151, 3) := by decide +kernel
theorem dX8_keep_40 : decode cX8_keep 40 = .ok (.if_icmp .ge 27, 3) := by decide +kernel
theorem dX8_keep_43 : decode cX8_keep 43 = .ok (.aload_n 0, 1) := by decide +kernel
theorem dX8_keep_44 : decode cX8_keep 44 = .ok (.getfield 37, 3) := by decide +kernel
theorem dX8_keep_47 : decode cX8_keep 47 = .ok (.aload_n 0, 1) := by decide +kernel
theorem dX8_keep_48 : decode cX8_keep 48 = .ok (.getfield 46, 3) := by decide +kernel
theorem dX8_keep_51 : decode cX8_keep 51 = .ok (.iload_n 1, 1) := by decide +kernel
end
section
theorem dX8_keep_52 : decode cX8_keep 52 = .ok (.iload_n 2, 1) := by decide +kernel
theorem dX8_keep_53 : decode cX8_keep 53 = .ok (.invokevirtual 154, 3) := by decide +kernel
theorem dX8_keep_56 : decode cX8_keep 56 = .ok (.iload_n 1, 1) := by decide +kernel
theorem dX8_keep_57 : decode cX8_keep 57 = .ok (.iload_n 2, 1) := by decide +kernel
theorem dX8_keep_58 : decode cX8_keep 58 = .ok (.invokevirtual 174, 3) := by decide +kernel
theorem dX8_keep_61 : decode cX8_keep 61 = .ok (.iinc 2 1, 3) := by decide +kernel
theorem dX8_keep_64 : decode cX8_keep 64 = .ok (.goto (-33), 3) := by decide +kernel
theorem dX8_keep_67 : decode cX8_keep 67 = .ok (.iinc 1 1, 3) := by decide +kernel
theorem dX8_keep_70 : decode cX8_keep 70 = .ok (.goto (-52), 3) := by decide +kernel
theorem dX8_keep_73 : decode cX8_keep 73 = .ok (.aload_n 0, 1) := by decide +kernel
theorem dX8_keep_74 : decode cX8_keep 74 = .ok (.getfield 37, 3) := by decide +kernel
theorem dX8_keep_77 : decode cX8_keep 77 = .ok (.invokevirtual 177, 3) := by decide +kernel
theorem dX8_keep_80 : decode cX8_keep 80 = .ok (.aload_n 0, 1) := by decide +kernel
theorem dX8_keep_81 : decode cX8_keep 81 = .ok (.iconst 0, 1) := by decide +kernel
theorem dX8_keep_82 : decode cX8_keep 82 = .ok (.putfield 70, 3) := by decide +kernel
theorem dX8_keep_85 : decode cX8_keep 85 = .ok (.iconst 1, 1) := by decide +kernel
theorem dX8_keep_86 : decode cX8_keep 86 = .ok (.ireturn, 1) := by decide +kernel
theorem dX8_forget_0 : decode cX8_forget 0 = .ok (.aload_n 0, 1) := by decide +kernel
theorem dX8_forget_1 : decode cX8_forget 1 = .ok (.getfield 37, 3) := by decide +kernel
theorem dX8_forget_4 : decode cX8_forget 4 = .ok (.invokevirtual 108, 3) := by decide +kernel
theorem dX8_forget_7 : decode cX8_forget 7 = .ok (.ifCond .eq 15, 3) := by decide +kernel
theorem dX8_forget_10 : decode cX8_forget 10 = .ok (.aload_n 0, 1) := by decide +kernel
theorem dX8_forget_11 : decode cX8_forget 11 = .ok (.getfield 37, 3) := by decide +kernel
theorem dX8_forget_14 : decode cX8_forget 14 = .ok (.invokevirtual 171, 3) := by decide +kernel
theorem dX8_forget_17 : decode cX8_forget 17 = .ok (.aload_n 0, 1) := by decide +kernel
theorem dX8_forget_18 : decode cX8_forget 18 = .ok (.iconst 0, 1) := by decide +kernel
theorem dX8_forget_19 : decode cX8_forget 19 = .ok (.putfield 70, 3) := by decide +kernel
theorem dX8_forget_22 : decode cX8_forget 22 = .ok (.return_, 1) := by decide +kernel
theorem dX8_orders_0 : decode cX8_orders 0 = .ok (.aload_n 0, 1) := by decide +kernel
theorem dX8_orders_1 : decode cX8_orders 1 = .ok (.invokevirtual 133, 3) := by decide +kernel
theorem dX8_orders_4 : decode cX8_orders 4 = .ok (.ifCond .eq 13, 3) := by decide +kernel
theorem dX8_orders_7 : decode cX8_orders 7 = .ok (.aload_n 0, 1) := by decide +kernel
theorem dX8_orders_8 : decode cX8_orders 8 = .ok (.getfield 46, 3) := by decide +kernel
theorem dX8_orders_11 : decode cX8_orders 11 = .ok (.invokevirtual 180, 3) := by decide +kernel
theorem dX8_orders_14 : decode cX8_orders 14 = .ok (.goto 4, 3) := by decide +kernel
theorem dX8_orders_17 : decode cX8_orders 17 = .ok (.iconst (-1), 1) := by decide +kernel
theorem dX8_orders_18 : decode cX8_orders 18 = .ok (.ireturn, 1) := by decide +kernel
theorem dX8_isPlace_0 : decode cX8_isPlace 0 = .ok (.iload_n 0, 1) := by decide +kernel
theorem dX8_isPlace_1 : decode cX8_isPlace 1 = .ok (.ifCond .lt 13, 3) := by decide +kernel
theorem dX8_isPlace_4 : decode cX8_isPlace 4 = .ok (.iload_n 0, 1) := by decide +kernel
theorem dX8_isPlace_5 : decode cX8_isPlace 5 = .ok (.bipush 10, 2) := by decide +kernel
theorem dX8_isPlace_7 : decode cX8_isPlace 7 = .ok (.if_icmp .ge 7, 3) := by decide +kernel
theorem dX8_isPlace_10 : decode cX8_isPlace 10 = .ok (.iconst 1, 1) := by decide +kernel
theorem dX8_isPlace_11 : decode cX8_isPlace 11 = .ok (.goto 4, 3) := by decide +kernel
theorem dX8_isPlace_14 : decode cX8_isPlace 14 = .ok (.iconst 0, 1) := by decide +kernel
theorem dX8_isPlace_15 : decode cX8_isPlace 15 = .ok (.ireturn, 1) := by decide +kernel
theorem dX8_arePlaces_0 : decode cX8_arePlaces 0 = .ok (.iload_n 0, 1) := by decide +kernel
theorem dX8_arePlaces_1 : decode cX8_arePlaces 1 = .ok (.ifCond .lt 23, 3) := by decide +kernel
theorem dX8_arePlaces_4 : decode cX8_arePlaces 4 = .ok (.iload_n 0, 1) := by decide +kernel
theorem dX8_arePlaces_5 : decode cX8_arePlaces 5 = .ok (.bipush 10, 2) := by decide +kernel
theorem dX8_arePlaces_7 : decode cX8_arePlaces 7 = .ok (.if_icmp .ge 17, 3) := by decide +kernel
theorem dX8_arePlaces_10 : decode cX8_arePlaces 10 = .ok (.iload_n 1, 1) := by decide +kernel
theorem dX8_arePlaces_11 : decode cX8_arePlaces 11 = .ok (.ifCond .lt 13, 3) := by decide +kernel
theorem dX8_arePlaces_14 : decode cX8_arePlaces 14 = .ok (.iload_n 1, 1) := by decide +kernel
theorem dX8_arePlaces_15 : decode cX8_arePlaces 15 = .ok (.bipush 10, 2) := by decide +kernel
theorem dX8_arePlaces_17 : decode cX8_arePlaces 17 = .ok (.if_icmp .ge 7, 3) := by decide +kernel
theorem dX8_arePlaces_20 : decode cX8_arePlaces 20 = .ok (.iconst 1, 1) := by decide +kernel
theorem dX8_arePlaces_21 : decode cX8_arePlaces 21 = .ok (.goto 4, 3) := by decide +kernel
theorem dX8_arePlaces_24 : decode cX8_arePlaces 24 = .ok (.iconst 0, 1) := by decide +kernel
theorem dX8_arePlaces_25 : decode cX8_arePlaces 25 = .ok (.ireturn, 1) := by decide +kernel
theorem dX8_pair_0 : decode cX8_pair 0 = .ok (.iload_n 0, 1) := by decide +kernel
theorem dX8_pair_1 : decode cX8_pair 1 = .ok (.iconst 5, 1) := by decide +kernel
theorem dX8_pair_2 : decode cX8_pair 2 = .ok (.imul, 1) := by decide +kernel
theorem dX8_pair_3 : decode cX8_pair 3 = .ok (.iload_n 1, 1) := by decide +kernel
theorem dX8_pair_4 : decode cX8_pair 4 = .ok (.iadd, 1) := by decide +kernel
theorem dX8_pair_5 : decode cX8_pair 5 = .ok (.ireturn, 1) := by decide +kernel
theorem dX8_freshRanking_0 : decode cX8_freshRanking 0 = .ok (.aload_n 0, 1) := by decide +kernel
theorem dX8_freshRanking_1 : decode cX8_freshRanking 1 = .ok (.getfield 66, 3) := by decide +kernel
theorem dX8_freshRanking_4 : decode cX8_freshRanking 4 = .ok (.ifCond .ne 22, 3) := by decide +kernel
theorem dX8_freshRanking_7 : decode cX8_freshRanking 7 = .ok (.aload_n 0, 1) := by decide +kernel
theorem dX8_freshRanking_8 : decode cX8_freshRanking 8 = .ok (.getfield 21, 3) := by decide +kernel
theorem dX8_freshRanking_11 : decode cX8_freshRanking 11 = .ok (.invokevirtual 183, 3) := by decide +kernel
theorem dX8_freshRanking_14 : decode cX8_freshRanking 14 = .ok (.aload_n 0, 1) := by decide +kernel
theorem dX8_freshRanking_15 : decode cX8_freshRanking 15 = .ok (.getfield 30, 3) := by decide +kernel
theorem dX8_freshRanking_18 : decode cX8_freshRanking 18 = .ok (.invokevirtual 186, 3) := by decide +kernel
theorem dX8_freshRanking_21 : decode cX8_freshRanking 21 = .ok (.aload_n 0, 1) := by decide +kernel
theorem dX8_freshRanking_22 : decode cX8_freshRanking 22 = .ok (.iconst 1, 1) := by decide +kernel
theorem dX8_freshRanking_23 : decode cX8_freshRanking 23 = .ok (.putfield 66, 3) := by decide +kernel
theorem dX8_freshRanking_26 : decode cX8_freshRanking 26 = .ok (.aload_n 0, 1) := by decide +kernel
theorem dX8_freshRanking_27 : decode cX8_freshRanking 27 = .ok (.getfield 21, 3) := by decide +kernel
theorem dX8_freshRanking_30 : decode cX8_freshRanking 30 = .ok (.areturn, 1) := by decide +kernel
theorem dX8_isLayer_0 : decode cX8_isLayer 0 = .ok (.iload_n 1, 1) := by decide +kernel
theorem dX8_isLayer_1 : decode cX8_isLayer 1 = .ok (.ifCond .lt 18, 3) := by decide +kernel
theorem dX8_isLayer_4 : decode cX8_isLayer 4 = .ok (.iload_n 1, 1) := by decide +kernel
theorem dX8_isLayer_5 : decode cX8_isLayer 5 = .ok (.aload_n 0, 1) := by decide +kernel
theorem dX8_isLayer_6 : decode cX8_isLayer 6 = .ok (.invokevirtual 95, 3) := by decide +kernel
theorem dX8_isLayer_9 : decode cX8_isLayer 9 = .ok (.invokevirtual 105, 3) := by decide +kernel
theorem dX8_isLayer_12 : decode cX8_isLayer 12 = .ok (.if_icmp .ge 7, 3) := by decide +kernel
theorem dX8_isLayer_15 : decode cX8_isLayer 15 = .ok (.iconst 1, 1) := by decide +kernel
theorem dX8_isLayer_16 : decode cX8_isLayer 16 = .ok (.goto 4, 3) := by decide +kernel
theorem dX8_isLayer_19 : decode cX8_isLayer 19 = .ok (.iconst 0, 1) := by decide +kernel
theorem dX8_isLayer_20 : decode cX8_isLayer 20 = .ok (.ireturn, 1) := by decide +kernel
theorem dX8_isDrawn_0 : decode cX8_isDrawn 0 = .ok (.aload_n 0, 1) := by decide +kernel
theorem dX8_isDrawn_1 : decode cX8_isDrawn 1 = .ok (.invokevirtual 95, 3) := by decide +kernel
theorem dX8_isDrawn_4 : decode cX8_isDrawn 4 = .ok (.pop, 1) := by decide +kernel
theorem dX8_isDrawn_5 : decode cX8_isDrawn 5 = .ok (.aload_n 0, 1) := by decide +kernel
theorem dX8_isDrawn_6 : decode cX8_isDrawn 6 = .ok (.getfield 30, 3) := by decide +kernel
theorem dX8_isDrawn_9 : decode cX8_isDrawn 9 = .ok (.invokevirtual 189, 3) := by decide +kernel
theorem dX8_isDrawn_12 : decode cX8_isDrawn 12 = .ok (.ifCond .ne 5, 3) := by decide +kernel
theorem dX8_isDrawn_15 : decode cX8_isDrawn 15 = .ok (.iconst 0, 1) := by decide +kernel
theorem dX8_isDrawn_16 : decode cX8_isDrawn 16 = .ok (.ireturn, 1) := by decide +kernel
theorem dX8_isDrawn_17 : decode cX8_isDrawn 17 = .ok (.aload_n 0, 1) := by decide +kernel
theorem dX8_isDrawn_18 : decode cX8_isDrawn 18 = .ok (.getfield 70, 3) := by decide +kernel
theorem dX8_isDrawn_21 : decode cX8_isDrawn 21 = .ok (.ifCond .ne 19, 3) := by decide +kernel
theorem dX8_isDrawn_24 : decode cX8_isDrawn 24 = .ok (.aload_n 0, 1) := by decide +kernel
theorem dX8_isDrawn_25 : decode cX8_isDrawn 25 = .ok (.getfield 46, 3) := by decide +kernel
theorem dX8_isDrawn_28 : decode cX8_isDrawn 28 = .ok (.aload_n 0, 1) := by decide +kernel
theorem dX8_isDrawn_29 : decode cX8_isDrawn 29 = .ok (.getfield 63, 3) := by decide +kernel
theorem dX8_isDrawn_32 : decode cX8_isDrawn 32 = .ok (.invokevirtual 192, 3) := by decide +kernel
theorem dX8_isDrawn_35 : decode cX8_isDrawn 35 = .ok (.aload_n 0, 1) := by decide +kernel
theorem dX8_isDrawn_36 : decode cX8_isDrawn 36 = .ok (.iconst 1, 1) := by decide +kernel
theorem dX8_isDrawn_37 : decode cX8_isDrawn 37 = .ok (.putfield 70, 3) := by decide +kernel
theorem dX8_isDrawn_40 : decode cX8_isDrawn 40 = .ok (.iconst 1, 1) := by decide +kernel
theorem dX8_isDrawn_41 : decode cX8_isDrawn 41 = .ok (.ireturn, 1) := by decide +kernel
theorem dX9_init_0 : decode cX9_init 0 = .ok (.aload_n 0, 1) := by decide +kernel
theorem dX9_init_1 : decode cX9_init 1 = .ok (.invokespecial 1, 3) := by decide +kernel
theorem dX9_init_4 : decode cX9_init 4 = .ok (.aload_n 0, 1) := by decide +kernel
theorem dX9_init_5 : decode cX9_init 5 = .ok (.bipush 100, 2) := by decide +kernel
theorem dX9_init_7 : decode cX9_init 7 = .ok (.newarray .int, 2) := by decide +kernel
theorem dX9_init_9 : decode cX9_init 9 = .ok (.putfield 7, 3) := by decide +kernel
theorem dX9_init_12 : decode cX9_init 12 = .ok (.aload_n 0, 1) := by decide +kernel
theorem dX9_init_13 : decode cX9_init 13 = .ok (.iconst 4, 1) := by decide +kernel
theorem dX9_init_14 : decode cX9_init 14 = .ok (.putfield 13, 3) := by decide +kernel
theorem dX9_init_17 : decode cX9_init 17 = .ok (.aload_n 0, 1) := by decide +kernel
theorem dX9_init_18 : decode cX9_init 18 = .ok (.bipush 10, 2) := by decide +kernel
theorem dX9_init_20 : decode cX9_init 20 = .ok (.newarray .int, 2) := by decide +kernel
theorem dX9_init_22 : decode cX9_init 22 = .ok (.dup, 1) := by decide +kernel
theorem dX9_init_23 : decode cX9_init 23 = .ok (.iconst 0, 1) := by decide +kernel
theorem dX9_init_24 : decode cX9_init 24 = .ok (.iconst (-1), 1) := by decide +kernel
theorem dX9_init_25 : decode cX9_init 25 = .ok (.iastore, 1) := by decide +kernel
theorem dX9_init_26 : decode cX9_init 26 = .ok (.dup, 1) := by decide +kernel
theorem dX9_init_27 : decode cX9_init 27 = .ok (.iconst 1, 1) := by decide +kernel
theorem dX9_init_28 : decode cX9_init 28 = .ok (.iconst (-1), 1) := by decide +kernel
theorem dX9_init_29 : decode cX9_init 29 = .ok (.iastore, 1) := by decide +kernel
theorem dX9_init_30 : decode cX9_init 30 = .ok (.dup, 1) := by decide +kernel
theorem dX9_init_31 : decode cX9_init 31 = .ok (.iconst 2, 1) := by decide +kernel
theorem dX9_init_32 : decode cX9_init 32 = .ok (.iconst (-1), 1) := by decide +kernel
theorem dX9_init_33 : decode cX9_init 33 = .ok (.iastore, 1) := by decide +kernel
theorem dX9_init_34 : decode cX9_init 34 = .ok (.dup, 1) := by decide +kernel
theorem dX9_init_35 : decode cX9_init 35 = .ok (.iconst 3, 1) := by decide +kernel
theorem dX9_init_36 : decode cX9_init 36 = .ok (.iconst (-1), 1) := by decide +kernel
theorem dX9_init_37 : decode cX9_init 37 = .ok (.iastore, 1) := by decide +kernel
theorem dX9_init_38 : decode cX9_init 38 = .ok (.dup, 1) := by decide +kernel
theorem dX9_init_39 : decode cX9_init 39 = .ok (.iconst 4, 1) := by decide +kernel
theorem dX9_init_40 : decode cX9_init 40 = .ok (.iconst (-1), 1) := by decide +kernel
theorem dX9_init_41 : decode cX9_init 41 = .ok (.iastore, 1) := by decide +kernel
theorem dX9_init_42 : decode cX9_init 42 = .ok (.dup, 1) := by decide +kernel
theorem dX9_init_43 : decode cX9_init 43 = .ok (.iconst 5, 1) := by decide +kernel
theorem dX9_init_44 : decode cX9_init 44 = .ok (.iconst (-1), 1) := by decide +kernel
theorem dX9_init_45 : decode cX9_init 45 = .ok (.iastore, 1) := by decide +kernel
theorem dX9_init_46 : decode cX9_init 46 = .ok (.dup, 1) := by decide +kernel
theorem dX9_init_47 : decode cX9_init 47 = .ok (.bipush 6, 2) := by decide +kernel
theorem dX9_init_49 : decode cX9_init 49 = .ok (.iconst (-1), 1) := by decide +kernel
theorem dX9_init_50 : decode cX9_init 50 = .ok (.iastore, 1) := by decide +kernel
theorem dX9_init_51 : decode cX9_init 51 = .ok (.dup, 1) := by decide +kernel
theorem dX9_init_52 : decode cX9_init 52 = .ok (.bipush 7, 2) := by decide +kernel
theorem dX9_init_54 : decode cX9_init 54 = .ok (.iconst (-1), 1) := by decide +kernel
theorem dX9_init_55 : decode cX9_init 55 = .ok (.iastore, 1) := by decide +kernel
theorem dX9_init_56 : decode cX9_init 56 = .ok (.dup, 1) := by decide +kernel
theorem dX9_init_57 : decode cX9_init 57 = .ok (.bipush 8, 2) := by decide +kernel
theorem dX9_init_59 : decode cX9_init 59 = .ok (.iconst (-1), 1) := by decide +kernel
theorem dX9_init_60 : decode cX9_init 60 = .ok (.iastore, 1) := by decide +kernel
theorem dX9_init_61 : decode cX9_init 61 = .ok (.dup, 1) := by decide +kernel
theorem dX9_init_62 : decode cX9_init 62 = .ok (.bipush 9, 2) := by decide +kernel
theorem dX9_init_64 : decode cX9_init 64 = .ok (.iconst (-1), 1) := by decide +kernel
theorem dX9_init_65 : decode cX9_init 65 = .ok (.iastore, 1) := by decide +kernel
theorem dX9_init_66 : decode cX9_init 66 = .ok (.putfield 17, 3) := by decide +kernel
theorem dX9_init_69 : decode cX9_init 69 = .ok (.aload_n 0, 1) := by decide +kernel
theorem dX9_init_70 : decode cX9_init 70 = .ok (.bipush 10, 2) := by decide +kernel
theorem dX9_init_72 : decode cX9_init 72 = .ok (.newarray .int, 2) := by decide +kernel
theorem dX9_init_74 : decode cX9_init 74 = .ok (.putfield 20, 3) := by decide +kernel
theorem dX9_init_77 : decode cX9_init 77 = .ok (.aload_n 0, 1) := by decide +kernel
theorem dX9_init_78 : decode cX9_init 78 = .ok (.bipush 10, 2) := by decide +kernel
theorem dX9_init_80 : decode cX9_init 80 = .ok (.newarray .int, 2) := by decide +kernel
theorem dX9_init_82 : decode cX9_init 82 = .ok (.putfield 23, 3) := by decide +kernel
theorem dX9_init_85 : decode cX9_init 85 = .ok (.aload_n 0, 1) := by decide +kernel
theorem dX9_init_86 : decode cX9_init 86 = .ok (.bipush 10, 2) := by decide +kernel
theorem dX9_init_88 : decode cX9_init 88 = .ok (.newarray .int, 2) := by decide +kernel
theorem dX9_init_90 : decode cX9_init 90 = .ok (.putfield 26, 3) := by decide +kernel
theorem dX9_init_93 : decode cX9_init 93 = .ok (.aload_n 0, 1) := by decide +kernel
theorem dX9_init_94 : decode cX9_init 94 = .ok (.bipush 10, 2) := by decide +kernel
theorem dX9_init_96 : decode cX9_init 96 = .ok (.newarray .int, 2) := by decide +kernel
theorem dX9_init_98 : decode cX9_init 98 = .ok (.putfield 29, 3) := by decide +kernel
theorem dX9_init_101 : decode cX9_init 101 = .ok (.aload_n 0, 1) := by decide +kernel
theorem dX9_init_102 : decode cX9_init 102 = .ok (.sipush 1024, 3) := by decide +kernel
theorem dX9_init_105 : decode cX9_init 105 = .ok (.newarray .int, 2) := by decide +kernel
theorem dX9_init_107 : decode cX9_init 107 = .ok (.putfield 32, 3) := by decide +kernel
theorem dX9_init_110 : decode cX9_init 110 = .ok (.aload_n 0, 1) := by decide +kernel
theorem dX9_init_111 : decode cX9_init 111 = .ok (.bipush 10, 2) := by decide +kernel
theorem dX9_init_113 : decode cX9_init 113 = .ok (.newarray .int, 2) := by decide +kernel
theorem dX9_init_115 : decode cX9_init 115 = .ok (.putfield 35, 3) := by decide +kernel
theorem dX9_init_118 : decode cX9_init 118 = .ok (.aload_n 0, 1) := by decide +kernel
theorem dX9_init_119 : decode cX9_init 119 = .ok (.sipush 300, 3) := by decide +kernel
theorem dX9_init_122 : decode cX9_init 122 = .ok (.newarray .int, 2) := by decide +kernel
theorem dX9_init_124 : decode cX9_init 124 = .ok (.putfield 38, 3) := by decide +kernel
theorem dX9_init_127 : decode cX9_init 127 = .ok (.aload_n 0, 1) := by decide +kernel
theorem dX9_init_128 : decode cX9_init 128 = .ok (.bipush 10, 2) := by decide +kernel
theorem dX9_init_130 : decode cX9_init 130 = .ok (.newarray .int, 2) := by decide +kernel
theorem dX9_init_132 : decode cX9_init 132 = .ok (.putfield 41, 3) := by decide +kernel
theorem dX9_init_135 : decode cX9_init 135 = .ok (.aload_n 0, 1) := by decide +kernel
theorem dX9_init_136 : decode cX9_init 136 = .ok (.sipush 160, 3) := by decide +kernel
theorem dX9_init_139 : decode cX9_init 139 = .ok (.newarray .int, 2) := by decide +kernel
theorem dX9_init_141 : decode cX9_init 141 = .ok (.putfield 44, 3) := by decide +kernel
theorem dX9_init_144 : decode cX9_init 144 = .ok (.aload_n 0, 1) := by decide +kernel
theorem dX9_init_145 : decode cX9_init 145 = .ok (.sipush 160, 3) := by decide +kernel
theorem dX9_init_148 : decode cX9_init 148 = .ok (.newarray .int, 2) := by decide +kernel
theorem dX9_init_150 : decode cX9_init 150 = .ok (.putfield 47, 3) := by decide +kernel
theorem dX9_init_153 : decode cX9_init 153 = .ok (.aload_n 0, 1) := by decide +kernel
theorem dX9_init_154 : decode cX9_init 154 = .ok (.sipush 160, 3) := by decide +kernel
theorem dX9_init_157 : decode cX9_init 157 = .ok (.newarray .int, 2) := by decide +kernel
theorem dX9_init_159 : decode cX9_init 159 = .ok (.putfield 50, 3) := by decide +kernel
theorem dX9_init_162 : decode cX9_init 162 = .ok (.aload_n 0, 1) := by decide +kernel
theorem dX9_init_163 : decode cX9_init 163 = .ok (.sipush 3600, 3) := by decide +kernel
theorem dX9_init_166 : decode cX9_init 166 = .ok (.newarray .int, 2) := by decide +kernel
theorem dX9_init_168 : decode cX9_init 168 = .ok (.putfield 53, 3) := by decide +kernel
theorem dX9_init_171 : decode cX9_init 171 = .ok (.aload_n 0, 1) := by decide +kernel
theorem dX9_init_172 : decode cX9_init 172 = .ok (.sipush 1200, 3) := by decide +kernel
theorem dX9_init_175 : decode cX9_init 175 = .ok (.newarray .int, 2) := by decide +kernel
theorem dX9_init_177 : decode cX9_init 177 = .ok (.putfield 56, 3) := by decide +kernel
theorem dX9_init_180 : decode cX9_init 180 = .ok (.aload_n 0, 1) := by decide +kernel
theorem dX9_init_181 : decode cX9_init 181 = .ok (.sipush 1200, 3) := by decide +kernel
theorem dX9_init_184 : decode cX9_init 184 = .ok (.newarray .int, 2) := by decide +kernel
theorem dX9_init_186 : decode cX9_init 186 = .ok (.putfield 59, 3) := by decide +kernel
theorem dX9_init_189 : decode cX9_init 189 = .ok (.aload_n 0, 1) := by decide +kernel
theorem dX9_init_190 : decode cX9_init 190 = .ok (.bipush 10, 2) := by decide +kernel
theorem dX9_init_192 : decode cX9_init 192 = .ok (.newarray .int, 2) := by decide +kernel
theorem dX9_init_194 : decode cX9_init 194 = .ok (.putfield 62, 3) := by decide +kernel
theorem dX9_init_197 : decode cX9_init 197 = .ok (.return_, 1) := by decide +kernel
theorem dX9_isPlace_0 : decode cX9_isPlace 0 = .ok (.iload_n 1, 1) := by decide +kernel
theorem dX9_isPlace_1 : decode cX9_isPlace 1 = .ok (.ifCond .lt 13, 3) := by decide +kernel
theorem dX9_isPlace_4 : decode cX9_isPlace 4 = .ok (.iload_n 1, 1) := by decide +kernel
theorem dX9_isPlace_5 : decode cX9_isPlace 5 = .ok (.bipush 10, 2) := by decide +kernel
theorem dX9_isPlace_7 : decode cX9_isPlace 7 = .ok (.if_icmp .ge 7, 3) := by decide +kernel
theorem dX9_isPlace_10 : decode cX9_isPlace 10 = .ok (.iconst 1, 1) := by decide +kernel
theorem dX9_isPlace_11 : decode cX9_isPlace 11 = .ok (.goto 4, 3) := by decide +kernel
theorem dX9_isPlace_14 : decode cX9_isPlace 14 = .ok (.iconst 0, 1) := by decide +kernel
theorem dX9_isPlace_15 : decode cX9_isPlace 15 = .ok (.ireturn, 1) := by decide +kernel
theorem dX9_flows_0 : decode cX9_flows 0 = .ok (.iconst 0, 1) := by decide +kernel
theorem dX9_flows_1 : decode cX9_flows 1 = .ok (.istore_n 1, 1) := by decide +kernel
theorem dX9_flows_2 : decode cX9_flows 2 = .ok (.iconst 0, 1) := by decide +kernel
theorem dX9_flows_3 : decode cX9_flows 3 = .ok (.istore_n 2, 1) := by decide +kernel
theorem dX9_flows_4 : decode cX9_flows 4 = .ok (.iload_n 2, 1) := by decide +kernel
theorem dX9_flows_5 : decode cX9_flows 5 = .ok (.bipush 100, 2) := by decide +kernel
theorem dX9_flows_7 : decode cX9_flows 7 = .ok (.if_icmp .ge 22, 3) := by decide +kernel
theorem dX9_flows_10 : decode cX9_flows 10 = .ok (.aload_n 0, 1) := by decide +kernel
theorem dX9_flows_11 : decode cX9_flows 11 = .ok (.getfield 7, 3) := by decide +kernel
theorem dX9_flows_14 : decode cX9_flows 14 = .ok (.iload_n 2, 1) := by decide +kernel
theorem dX9_flows_15 : decode cX9_flows 15 = .ok (.iaload, 1) := by decide +kernel
theorem dX9_flows_16 : decode cX9_flows 16 = .ok (.ifCond .le 7, 3) := by decide +kernel
theorem dX9_flows_19 : decode cX9_flows 19 = .ok (.iload_n 1, 1) := by decide +kernel
theorem dX9_flows_20 : decode cX9_flows 20 = .ok (.iconst 1, 1) := by decide +kernel
theorem dX9_flows_21 : decode cX9_flows 21 = .ok (.iadd, 1) := by decide +kernel
theorem dX9_flows_22 : decode cX9_flows 22 = .ok (.istore_n 1, 1) := by decide +kernel
theorem dX9_flows_23 : decode cX9_flows 23 = .ok (.iinc 2 1, 3) := by decide +kernel
theorem dX9_flows_26 : decode cX9_flows 26 = .ok (.goto (-22), 3) := by decide +kernel
theorem dX9_flows_29 : decode cX9_flows 29 = .ok (.iload_n 1, 1) := by decide +kernel
theorem dX9_flows_30 : decode cX9_flows 30 = .ok (.ireturn, 1) := by decide +kernel
theorem dX9_flow_0 : decode cX9_flow 0 = .ok (.aload_n 0, 1) := by decide +kernel
theorem dX9_flow_1 : decode cX9_flow 1 = .ok (.iconst 0, 1) := by decide +kernel
theorem dX9_flow_2 : decode cX9_flow 2 = .ok (.putfield 65, 3) := by decide +kernel
theorem dX9_flow_5 : decode cX9_flow 5 = .ok (.aload_n 0, 1) := by decide +kernel
theorem dX9_flow_6 : decode cX9_flow 6 = .ok (.iload_n 1, 1) := by decide +kernel
theorem dX9_flow_7 : decode cX9_flow 7 = .ok (.invokevirtual 68, 3) := by decide +kernel
theorem dX9_flow_10 : decode cX9_flow 10 = .ok (.ifCond .eq 26, 3) := by decide +kernel
theorem dX9_flow_13 : decode cX9_flow 13 = .ok (.aload_n 0, 1) := by decide +kernel
theorem dX9_flow_14 : decode cX9_flow 14 = .ok (.iload_n 2, 1) := by decide +kernel
theorem dX9_flow_15 : decode cX9_flow 15 = .ok (.invokevirtual 68, 3) := by decide +kernel
theorem dX9_flow_18 : decode cX9_flow 18 = .ok (.ifCond .eq 18, 3) := by decide +kernel
theorem dX9_flow_21 : decode cX9_flow 21 = .ok (.iload_n 1, 1) := by decide +kernel
theorem dX9_flow_22 : decode cX9_flow 22 = .ok (.iload_n 2, 1) := by decide +kernel
theorem dX9_flow_23 : decode cX9_flow 23 = .ok (.if_icmp .eq 13, 3) := by decide +kernel
theorem dX9_flow_26 : decode cX9_flow 26 = .ok (.iload_n 3, 1) := by decide +kernel
theorem dX9_flow_27 : decode cX9_flow 27 = .ok (.ifCond .lt 9, 3) := by decide +kernel
theorem dX9_flow_30 : decode cX9_flow 30 = .ok (.iload_n 3, 1) := by decide +kernel
theorem dX9_flow_31 : decode cX9_flow 31 = .ok (.bipush 99, 2) := by decide +kernel
theorem dX9_flow_33 : decode cX9_flow 33 = .ok (.if_icmp .le 5, 3) := by decide +kernel
theorem dX9_flow_36 : decode cX9_flow 36 = .ok (.iconst 0, 1) := by decide +kernel
theorem dX9_flow_37 : decode cX9_flow 37 = .ok (.ireturn, 1) := by decide +kernel
theorem dX9_flow_38 : decode cX9_flow 38 = .ok (.iload_n 3, 1) := by decide +kernel
theorem dX9_flow_39 : decode cX9_flow 39 = .ok (.ifCond .le 28, 3) := by decide +kernel
theorem dX9_flow_42 : decode cX9_flow 42 = .ok (.aload_n 0, 1) := by decide +kernel
theorem dX9_flow_43 : decode cX9_flow 43 = .ok (.getfield 7, 3) := by decide +kernel
theorem dX9_flow_46 : decode cX9_flow 46 = .ok (.bipush 10, 2) := by decide +kernel
theorem dX9_flow_48 : decode cX9_flow 48 = .ok (.iload_n 1, 1) := by decide +kernel
theorem dX9_flow_49 : decode cX9_flow 49 = .ok (.imul, 1) := by decide +kernel
theorem dX9_flow_50 : decode cX9_flow 50 = .ok (.iload_n 2, 1) := by decide +kernel
theorem dX9_flow_51 : decode cX9_flow 51 = .ok (.iadd, 1) := by decide +kernel
theorem dX9_flow_52 : decode cX9_flow 52 = .ok (.iaload, 1) := by decide +kernel
theorem dX9_flow_53 : decode cX9_flow 53 = .ok (.ifCond .ne 14, 3) := by decide +kernel
theorem dX9_flow_56 : decode cX9_flow 56 = .ok (.aload_n 0, 1) := by decide +kernel
theorem dX9_flow_57 : decode cX9_flow 57 = .ok (.invokevirtual 72, 3) := by decide +kernel
theorem dX9_flow_60 : decode cX9_flow 60 = .ok (.bipush 16, 2) := by decide +kernel
theorem dX9_flow_62 : decode cX9_flow 62 = .ok (.if_icmp .ne 5, 3) := by decide +kernel
theorem dX9_flow_65 : decode cX9_flow 65 = .ok (.iconst 0, 1) := by decide +kernel
theorem dX9_flow_66 : decode cX9_flow 66 = .ok (.ireturn, 1) := by decide +kernel
theorem dX9_flow_67 : decode cX9_flow 67 = .ok (.aload_n 0, 1) := by decide +kernel
theorem dX9_flow_68 : decode cX9_flow 68 = .ok (.getfield 7, 3) := by decide +kernel
theorem dX9_flow_71 : decode cX9_flow 71 = .ok (.bipush 10, 2) := by decide +kernel
theorem dX9_flow_73 : decode cX9_flow 73 = .ok (.iload_n 1, 1) := by decide +kernel
theorem dX9_flow_74 : decode cX9_flow 74 = .ok (.imul, 1) := by decide +kernel
theorem dX9_flow_75 : decode cX9_flow 75 = .ok (.iload_n 2, 1) := by decide +kernel
theorem dX9_flow_76 : decode cX9_flow 76 = .ok (.iadd, 1) := by decide +kernel
theorem dX9_flow_77 : decode cX9_flow 77 = .ok (.iload_n 3, 1) := by decide +kernel
theorem dX9_flow_78 : decode cX9_flow 78 = .ok (.iastore, 1) := by decide +kernel
theorem dX9_flow_79 : decode cX9_flow 79 = .ok (.iconst 1, 1) := by decide +kernel
theorem dX9_flow_80 : decode cX9_flow 80 = .ok (.ireturn, 1) := by decide +kernel
theorem dX9_clear_0 : decode cX9_clear 0 = .ok (.aload_n 0, 1) := by decide +kernel
theorem dX9_clear_1 : decode cX9_clear 1 = .ok (.iconst 0, 1) := by decide +kernel
theorem dX9_clear_2 : decode cX9_clear 2 = .ok (.putfield 65, 3) := by decide +kernel
theorem dX9_clear_5 : decode cX9_clear 5 = .ok (.iconst 0, 1) := by decide +kernel
theorem dX9_clear_6 : decode cX9_clear 6 = .ok (.istore_n 1, 1) := by decide +kernel
theorem dX9_clear_7 : decode cX9_clear 7 = .ok (.iload_n 1, 1) := by decide +kernel
theorem dX9_clear_8 : decode cX9_clear 8 = .ok (.bipush 100, 2) := by decide +kernel
theorem dX9_clear_10 : decode cX9_clear 10 = .ok (.if_icmp .ge 16, 3) := by decide +kernel
theorem dX9_clear_13 : decode cX9_clear 13 = .ok (.aload_n 0, 1) := by decide +kernel
theorem dX9_clear_14 : decode cX9_clear 14 = .ok (.getfield 7, 3) := by decide +kernel
theorem dX9_clear_17 : decode cX9_clear 17 = .ok (.iload_n 1, 1) := by decide +kernel
theorem dX9_clear_18 : decode cX9_clear 18 = .ok (.iconst 0, 1) := by decide +kernel
theorem dX9_clear_19 : decode cX9_clear 19 = .ok (.iastore, 1) := by decide +kernel
theorem dX9_clear_20 : decode cX9_clear 20 = .ok (.iinc 1 1, 3) := by decide +kernel
theorem dX9_clear_23 : decode cX9_clear 23 = .ok (.goto (-16), 3) := by decide +kernel
theorem dX9_clear_26 : decode cX9_clear 26 = .ok (.return_, 1) := by decide +kernel
theorem dX9_set_0 : decode cX9_set 0 = .ok (.aload_n 0, 1) := by decide +kernel
theorem dX9_set_1 : decode cX9_set 1 = .ok (.iconst 0, 1) := by decide +kernel
theorem dX9_set_2 : decode cX9_set 2 = .ok (.putfield 65, 3) := by decide +kernel
theorem dX9_set_5 : decode cX9_set 5 = .ok (.iload_n 1, 1) := by decide +kernel
theorem dX9_set_6 : decode cX9_set 6 = .ok (.ifCond .lt 20, 3) := by decide +kernel
theorem dX9_set_9 : decode cX9_set 9 = .ok (.iload_n 1, 1) := by decide +kernel
theorem dX9_set_10 : decode cX9_set 10 = .ok (.bipush 50, 2) := by decide +kernel
theorem dX9_set_12 : decode cX9_set 12 = .ok (.if_icmp .gt 14, 3) := by decide +kernel
theorem dX9_set_15 : decode cX9_set 15 = .ok (.iload_n 2, 1) := by decide +kernel
theorem dX9_set_16 : decode cX9_set 16 = .ok (.ifCond .lt 10, 3) := by decide +kernel
theorem dX9_set_19 : decode cX9_set 19 = .ok (.iload_n 2, 1) := by decide +kernel
theorem dX9_set_20 : decode cX9_set 20 = .ok (.sipush 9999, 3) := by decide +kernel
theorem dX9_set_23 : decode cX9_set 23 = .ok (.if_icmp .le 5, 3) := by decide +kernel
theorem dX9_set_26 : decode cX9_set 26 = .ok (.iconst 0, 1) := by decide +kernel
theorem dX9_set_27 : decode cX9_set 27 = .ok (.ireturn, 1) := by decide +kernel
theorem dX9_set_28 : decode cX9_set 28 = .ok (.aload_n 0, 1) := by decide +kernel
theorem dX9_set_29 : decode cX9_set 29 = .ok (.iload_n 1, 1) := by decide +kernel
theorem dX9_set_30 : decode cX9_set 30 = .ok (.putfield 13, 3) := by decide +kernel
theorem dX9_set_33 : decode cX9_set 33 = .ok (.aload_n 0, 1) := by decide +kernel
theorem dX9_set_34 : decode cX9_set 34 = .ok (.iload_n 2, 1) := by decide +kernel
theorem dX9_set_35 : decode cX9_set 35 = .ok (.putfield 76, 3) := by decide +kernel
theorem dX9_set_38 : decode cX9_set 38 = .ok (.iconst 1, 1) := by decide +kernel
theorem dX9_set_39 : decode cX9_set 39 = .ok (.ireturn, 1) := by decide +kernel
theorem dX9_width_0 : decode cX9_width 0 = .ok (.aload_n 0, 1) := by decide +kernel
theorem dX9_width_1 : decode cX9_width 1 = .ok (.iconst 0, 1) := by decide +kernel
theorem dX9_width_2 : decode cX9_width 2 = .ok (.putfield 65, 3) := by decide +kernel
theorem dX9_width_5 : decode cX9_width 5 = .ok (.aload_n 0, 1) := by decide +kernel
theorem dX9_width_6 : decode cX9_width 6 = .ok (.iload_n 1, 1) := by decide +kernel
theorem dX9_width_7 : decode cX9_width 7 = .ok (.invokevirtual 68, 3) := by decide +kernel
theorem dX9_width_10 : decode cX9_width 10 = .ok (.ifCond .eq 25, 3) := by decide +kernel
theorem dX9_width_13 : decode cX9_width 13 = .ok (.aload_n 0, 1) := by decide +kernel
theorem dX9_width_14 : decode cX9_width 14 = .ok (.iload_n 2, 1) := by decide +kernel
theorem dX9_width_15 : decode cX9_width 15 = .ok (.invokevirtual 68, 3) := by decide +kernel
theorem dX9_width_18 : decode cX9_width 18 = .ok (.ifCond .eq 17, 3) := by decide +kernel
theorem dX9_width_21 : decode cX9_width 21 = .ok (.aload_n 0, 1) := by decide +kernel
theorem dX9_width_22 : decode cX9_width 22 = .ok (.getfield 7, 3) := by decide +kernel
theorem dX9_width_25 : decode cX9_width 25 = .ok (.bipush 10, 2) := by decide +kernel
theorem dX9_width_27 : decode cX9_width 27 = .ok (.iload_n 1, 1) := by decide +kernel
theorem dX9_width_28 : decode cX9_width 28 = .ok (.imul, 1) := by decide +kernel
theorem dX9_width_29 : decode cX9_width 29 = .ok (.iload_n 2, 1) := by decide +kernel
theorem dX9_width_30 : decode cX9_width 30 = .ok (.iadd, 1) := by decide +kernel
theorem dX9_width_31 : decode cX9_width 31 = .ok (.iaload, 1) := by decide +kernel
theorem dX9_width_32 : decode cX9_width 32 = .ok (.goto 4, 3) := by decide +kernel
theorem dX9_width_35 : decode cX9_width 35 = .ok (.iconst 0, 1) := by decide +kernel
theorem dX9_width_36 : decode cX9_width 36 = .ok (.ireturn, 1) := by decide +kernel
theorem dX9_flowsTo_0 : decode cX9_flowsTo 0 = .ok (.iconst 0, 1) := by decide +kernel
theorem dX9_flowsTo_1 : decode cX9_flowsTo 1 = .ok (.istore_n 3, 1) := by decide +kernel
theorem dX9_flowsTo_2 : decode cX9_flowsTo 2 = .ok (.iconst 0, 1) := by decide +kernel
theorem dX9_flowsTo_3 : decode cX9_flowsTo 3 = .ok (.istore 4, 2) := by decide +kernel
theorem dX9_flowsTo_5 : decode cX9_flowsTo 5 = .ok (.iload 4, 2) := by decide +kernel
theorem dX9_flowsTo_7 : decode cX9_flowsTo 7 = .ok (.bipush 10, 2) := by decide +kernel
theorem dX9_flowsTo_9 : decode cX9_flowsTo 9 = .ok (.if_icmp .ge 34, 3) := by decide +kernel
theorem dX9_flowsTo_12 : decode cX9_flowsTo 12 = .ok (.iload_n 2, 1) := by decide +kernel
theorem dX9_flowsTo_13 : decode cX9_flowsTo 13 = .ok (.iload 4, 2) := by decide +kernel
theorem dX9_flowsTo_15 : decode cX9_flowsTo 15 = .ok (.ishr, 1) := by decide +kernel
theorem dX9_flowsTo_16 : decode cX9_flowsTo 16 = .ok (.iconst 1, 1) := by decide +kernel
theorem dX9_flowsTo_17 : decode cX9_flowsTo 17 = .ok (.iand, 1) := by decide +kernel
theorem dX9_flowsTo_18 : decode cX9_flowsTo 18 = .ok (.iconst 1, 1) := by decide +kernel
theorem dX9_flowsTo_19 : decode cX9_flowsTo 19 = .ok (.if_icmp .ne 18, 3) := by decide +kernel
theorem dX9_flowsTo_22 : decode cX9_flowsTo 22 = .ok (.iload_n 3, 1) := by decide +kernel
theorem dX9_flowsTo_23 : decode cX9_flowsTo 23 = .ok (.aload_n 0, 1) := by decide +kernel
theorem dX9_flowsTo_24 : decode cX9_flowsTo 24 = .ok (.getfield 7, 3) := by decide +kernel
theorem dX9_flowsTo_27 : decode cX9_flowsTo 27 = .ok (.bipush 10, 2) := by decide +kernel
theorem dX9_flowsTo_29 : decode cX9_flowsTo 29 = .ok (.iload_n 1, 1) := by decide +kernel
theorem dX9_flowsTo_30 : decode cX9_flowsTo 30 = .ok (.imul, 1) := by decide +kernel
theorem dX9_flowsTo_31 : decode cX9_flowsTo 31 = .ok (.iload 4, 2) := by decide +kernel
theorem dX9_flowsTo_33 : decode cX9_flowsTo 33 = .ok (.iadd, 1) := by decide +kernel
theorem dX9_flowsTo_34 : decode cX9_flowsTo 34 = .ok (.iaload, 1) := by decide +kernel
theorem dX9_flowsTo_35 : decode cX9_flowsTo 35 = .ok (.iadd, 1) := by decide +kernel
theorem dX9_flowsTo_36 : decode cX9_flowsTo 36 = .ok (.istore_n 3, 1) := by decide +kernel
theorem dX9_flowsTo_37 : decode cX9_flowsTo 37 = .ok (.iinc 4 1, 3) := by decide +kernel
theorem dX9_flowsTo_40 : decode cX9_flowsTo 40 = .ok (.goto (-35), 3) := by decide +kernel
theorem dX9_flowsTo_43 : decode cX9_flowsTo 43 = .ok (.iload_n 3, 1) := by decide +kernel
theorem dX9_flowsTo_44 : decode cX9_flowsTo 44 = .ok (.ireturn, 1) := by decide +kernel
theorem dX9_findRow_0 : decode cX9_findRow 0 = .ok (.aload_n 0, 1) := by decide +kernel
theorem dX9_findRow_1 : decode cX9_findRow 1 = .ok (.iconst 0, 1) := by decide +kernel
theorem dX9_findRow_2 : decode cX9_findRow 2 = .ok (.putfield 79, 3) := by decide +kernel
theorem dX9_findRow_5 : decode cX9_findRow 5 = .ok (.iconst 0, 1) := by decide +kernel
theorem dX9_findRow_6 : decode cX9_findRow 6 = .ok (.istore_n 1, 1) := by decide +kernel
theorem dX9_findRow_7 : decode cX9_findRow 7 = .ok (.iload_n 1, 1) := by decide +kernel
theorem dX9_findRow_8 : decode cX9_findRow 8 = .ok (.bipush 10, 2) := by decide +kernel
theorem dX9_findRow_10 : decode cX9_findRow 10 = .ok (.if_icmp .ge 53, 3) := by decide +kernel
theorem dX9_findRow_13 : decode cX9_findRow 13 = .ok (.iconst 0, 1) := by decide +kernel
theorem dX9_findRow_14 : decode cX9_findRow 14 = .ok (.istore_n 2, 1) := by decide +kernel
theorem dX9_findRow_15 : decode cX9_findRow 15 = .ok (.iload_n 2, 1) := by decide +kernel
theorem dX9_findRow_16 : decode cX9_findRow 16 = .ok (.bipush 10, 2) := by decide +kernel
theorem dX9_findRow_18 : decode cX9_findRow 18 = .ok (.if_icmp .ge 39, 3) := by decide +kernel
theorem dX9_findRow_21 : decode cX9_findRow 21 = .ok (.aload_n 0, 1) := by decide +kernel
theorem dX9_findRow_22 : decode cX9_findRow 22 = .ok (.getfield 7, 3) := by decide +kernel
theorem dX9_findRow_25 : decode cX9_findRow 25 = .ok (.bipush 10, 2) := by decide +kernel
theorem dX9_findRow_27 : decode cX9_findRow 27 = .ok (.iload_n 1, 1) := by decide +kernel
theorem dX9_findRow_28 : decode cX9_findRow 28 = .ok (.imul, 1) := by decide +kernel
theorem dX9_findRow_29 : decode cX9_findRow 29 = .ok (.iload_n 2, 1) := by decide +kernel
theorem dX9_findRow_30 : decode cX9_findRow 30 = .ok (.iadd, 1) := by decide +kernel
theorem dX9_findRow_31 : decode cX9_findRow 31 = .ok (.iaload, 1) := by decide +kernel
theorem dX9_findRow_32 : decode cX9_findRow 32 = .ok (.ifCond .le 19, 3) := by decide +kernel
theorem dX9_findRow_35 : decode cX9_findRow 35 = .ok (.aload_n 0, 1) := by decide +kernel
theorem dX9_findRow_36 : decode cX9_findRow 36 = .ok (.aload_n 0, 1) := by decide +kernel
theorem dX9_findRow_37 : decode cX9_findRow 37 = .ok (.getfield 79, 3) := by decide +kernel
theorem dX9_findRow_40 : decode cX9_findRow 40 = .ok (.iconst 1, 1) := by decide +kernel
theorem dX9_findRow_41 : decode cX9_findRow 41 = .ok (.iload_n 1, 1) := by decide +kernel
theorem dX9_findRow_42 : decode cX9_findRow 42 = .ok (.ishl, 1) := by decide +kernel
theorem dX9_findRow_43 : decode cX9_findRow 43 = .ok (.ior, 1) := by decide +kernel
theorem dX9_findRow_44 : decode cX9_findRow 44 = .ok (.iconst 1, 1) := by decide +kernel
theorem dX9_findRow_45 : decode cX9_findRow 45 = .ok (.iload_n 2, 1) := by decide +kernel
theorem dX9_findRow_46 : decode cX9_findRow 46 = .ok (.ishl, 1) := by decide +kernel
theorem dX9_findRow_47 : decode cX9_findRow 47 = .ok (.ior, 1) := by decide +kernel
theorem dX9_findRow_48 : decode cX9_findRow 48 = .ok (.putfield 79, 3) := by decide +kernel
theorem dX9_findRow_51 : decode cX9_findRow 51 = .ok (.iinc 2 1, 3) := by decide +kernel
theorem dX9_findRow_54 : decode cX9_findRow 54 = .ok (.goto (-39), 3) := by decide +kernel
theorem dX9_findRow_57 : decode cX9_findRow 57 = .ok (.iinc 1 1, 3) := by decide +kernel
theorem dX9_findRow_60 : decode cX9_findRow 60 = .ok (.goto (-53), 3) := by decide +kernel
theorem dX9_findRow_63 : decode cX9_findRow 63 = .ok (.aload_n 0, 1) := by decide +kernel
theorem dX9_findRow_64 : decode cX9_findRow 64 = .ok (.getfield 79, 3) := by decide +kernel
theorem dX9_findRow_67 : decode cX9_findRow 67 = .ok (.istore_n 1, 1) := by decide +kernel
theorem dX9_findRow_68 : decode cX9_findRow 68 = .ok (.iload_n 1, 1) := by decide +kernel
theorem dX9_findRow_69 : decode cX9_findRow 69 = .ok (.ifCond .lt 110, 3) := by decide +kernel
theorem dX9_findRow_72 : decode cX9_findRow 72 = .ok (.iload_n 1, 1) := by decide +kernel
theorem dX9_findRow_73 : decode cX9_findRow 73 = .ok (.aload_n 0, 1) := by decide +kernel
theorem dX9_findRow_74 : decode cX9_findRow 74 = .ok (.getfield 79, 3) := by decide +kernel
theorem dX9_findRow_77 : decode cX9_findRow 77 = .ok (.iconst (-1), 1) := by decide +kernel
theorem dX9_findRow_78 : decode cX9_findRow 78 = .ok (.ixor, 1) := by decide +kernel
theorem dX9_findRow_79 : decode cX9_findRow 79 = .ok (.iand, 1) := by decide +kernel
theorem dX9_findRow_80 : decode cX9_findRow 80 = .ok (.ifCond .eq 6, 3) := by decide +kernel
theorem dX9_findRow_83 : decode cX9_findRow 83 = .ok (.goto 90, 3) := by decide +kernel
theorem dX9_findRow_86 : decode cX9_findRow 86 = .ok (.iload_n 1, 1) := by decide +kernel
theorem dX9_findRow_87 : decode cX9_findRow 87 = .ok (.aload_n 0, 1) := by decide +kernel
theorem dX9_findRow_88 : decode cX9_findRow 88 = .ok (.getfield 79, 3) := by decide +kernel
theorem dX9_findRow_91 : decode cX9_findRow 91 = .ok (.if_icmp .ne 7, 3) := by decide +kernel
theorem dX9_findRow_94 : decode cX9_findRow 94 = .ok (.iconst 0, 1) := by decide +kernel
theorem dX9_findRow_95 : decode cX9_findRow 95 = .ok (.goto 5, 3) := by decide +kernel
theorem dX9_findRow_98 : decode cX9_findRow 98 = .ok (.ldc 82, 2) := by decide +kernel
theorem dX9_findRow_100 : decode cX9_findRow 100 = .ok (.istore_n 2, 1) := by decide +kernel
theorem dX9_findRow_101 : decode cX9_findRow 101 = .ok (.iconst 0, 1) := by decide +kernel
theorem dX9_findRow_102 : decode cX9_findRow 102 = .ok (.istore_n 3, 1) := by decide +kernel
theorem dX9_findRow_103 : decode cX9_findRow 103 = .ok (.iload_n 3, 1) := by decide +kernel
theorem dX9_findRow_104 : decode cX9_findRow 104 = .ok (.bipush 10, 2) := by decide +kernel
theorem dX9_findRow_106 : decode cX9_findRow 106 = .ok (.if_icmp .ge 60, 3) := by decide +kernel
theorem dX9_findRow_109 : decode cX9_findRow 109 = .ok (.aload_n 0, 1) := by decide +kernel
theorem dX9_findRow_110 : decode cX9_findRow 110 = .ok (.getfield 79, 3) := by decide +kernel
theorem dX9_findRow_113 : decode cX9_findRow 113 = .ok (.iload_n 3, 1) := by decide +kernel
theorem dX9_findRow_114 : decode cX9_findRow 114 = .ok (.ishr, 1) := by decide +kernel
theorem dX9_findRow_115 : decode cX9_findRow 115 = .ok (.iconst 1, 1) := by decide +kernel
theorem dX9_findRow_116 : decode cX9_findRow 116 = .ok (.iand, 1) := by decide +kernel
theorem dX9_findRow_117 : decode cX9_findRow 117 = .ok (.ifCond .eq 43, 3) := by decide +kernel
theorem dX9_findRow_120 : decode cX9_findRow 120 = .ok (.iload_n 1, 1) := by decide +kernel
theorem dX9_findRow_121 : decode cX9_findRow 121 = .ok (.iload_n 3, 1) := by decide +kernel
theorem dX9_findRow_122 : decode cX9_findRow 122 = .ok (.ishr, 1) := by decide +kernel
theorem dX9_findRow_123 : decode cX9_findRow 123 = .ok (.iconst 1, 1) := by decide +kernel
theorem dX9_findRow_124 : decode cX9_findRow 124 = .ok (.iand, 1) := by decide +kernel
theorem dX9_findRow_125 : decode cX9_findRow 125 = .ok (.iconst 1, 1) := by decide +kernel
theorem dX9_findRow_126 : decode cX9_findRow 126 = .ok (.if_icmp .ne 6, 3) := by decide +kernel
theorem dX9_findRow_129 : decode cX9_findRow 129 = .ok (.goto 31, 3) := by decide +kernel
theorem dX9_findRow_132 : decode cX9_findRow 132 = .ok (.aload_n 0, 1) := by decide +kernel
theorem dX9_findRow_133 : decode cX9_findRow 133 = .ok (.iload_n 3, 1) := by decide +kernel
theorem dX9_findRow_134 : decode cX9_findRow 134 = .ok (.iload_n 1, 1) := by decide +kernel
theorem dX9_findRow_135 : decode cX9_findRow 135 = .ok (.invokevirtual 83, 3) := by decide +kernel
theorem dX9_findRow_138 : decode cX9_findRow 138 = .ok (.aload_n 0, 1) := by decide +kernel
theorem dX9_findRow_139 : decode cX9_findRow 139 = .ok (.getfield 32, 3) := by decide +kernel
theorem dX9_findRow_142 : decode cX9_findRow 142 = .ok (.iload_n 1, 1) := by decide +kernel
theorem dX9_findRow_143 : decode cX9_findRow 143 = .ok (.iconst 1, 1) := by decide +kernel
theorem dX9_findRow_144 : decode cX9_findRow 144 = .ok (.iload_n 3, 1) := by decide +kernel
theorem dX9_findRow_145 : decode cX9_findRow 145 = .ok (.ishl, 1) := by decide +kernel
theorem dX9_findRow_146 : decode cX9_findRow 146 = .ok (.ior, 1) := by decide +kernel
theorem dX9_findRow_147 : decode cX9_findRow 147 = .ok (.iaload, 1) := by decide +kernel
theorem dX9_findRow_148 : decode cX9_findRow 148 = .ok (.iadd, 1) := by decide +kernel
theorem dX9_findRow_149 : decode cX9_findRow 149 = .ok (.istore 4, 2) := by decide +kernel
theorem dX9_findRow_151 : decode cX9_findRow 151 = .ok (.iload 4, 2) := by decide +kernel
theorem dX9_findRow_153 : decode cX9_findRow 153 = .ok (.iload_n 2, 1) := by decide +kernel
theorem dX9_findRow_154 : decode cX9_findRow 154 = .ok (.if_icmp .ge 6, 3) := by decide +kernel
theorem dX9_findRow_157 : decode cX9_findRow 157 = .ok (.iload 4, 2) := by decide +kernel
theorem dX9_findRow_159 : decode cX9_findRow 159 = .ok (.istore_n 2, 1) := by decide +kernel
theorem dX9_findRow_160 : decode cX9_findRow 160 = .ok (.iinc 3 1, 3) := by decide +kernel
theorem dX9_findRow_163 : decode cX9_findRow 163 = .ok (.goto (-60), 3) := by decide +kernel
theorem dX9_findRow_166 : decode cX9_findRow 166 = .ok (.aload_n 0, 1) := by decide +kernel
theorem dX9_findRow_167 : decode cX9_findRow 167 = .ok (.getfield 32, 3) := by decide +kernel
theorem dX9_findRow_170 : decode cX9_findRow 170 = .ok (.iload_n 1, 1) := by decide +kernel
theorem dX9_findRow_171 : decode cX9_findRow 171 = .ok (.iload_n 2, 1) := by decide +kernel
theorem dX9_findRow_172 : decode cX9_findRow 172 = .ok (.iastore, 1) := by decide +kernel
theorem dX9_findRow_173 : decode cX9_findRow 173 = .ok (.iinc 1 (-1), 3) := by decide +kernel
theorem dX9_findRow_176 : decode cX9_findRow 176 = .ok (.goto (-108), 3) := by decide +kernel
theorem dX9_findRow_179 : decode cX9_findRow 179 = .ok (.aload_n 0, 1) := by decide +kernel
theorem dX9_findRow_180 : decode cX9_findRow 180 = .ok (.iconst 0, 1) := by decide +kernel
theorem dX9_findRow_181 : decode cX9_findRow 181 = .ok (.putfield 87, 3) := by decide +kernel
theorem dX9_findRow_184 : decode cX9_findRow 184 = .ok (.iconst 0, 1) := by decide +kernel
theorem dX9_findRow_185 : decode cX9_findRow 185 = .ok (.istore_n 1, 1) := by decide +kernel
theorem dX9_findRow_186 : decode cX9_findRow 186 = .ok (.iload_n 1, 1) := by decide +kernel
theorem dX9_findRow_187 : decode cX9_findRow 187 = .ok (.aload_n 0, 1) := by decide +kernel
theorem dX9_findRow_188 : decode cX9_findRow 188 = .ok (.getfield 79, 3) := by decide +kernel
theorem dX9_findRow_191 : decode cX9_findRow 191 = .ok (.if_icmp .eq 97, 3) := by decide +kernel
theorem dX9_findRow_194 : decode cX9_findRow 194 = .ok (.iconst 0, 1) := by decide +kernel
theorem dX9_findRow_195 : decode cX9_findRow 195 = .ok (.istore_n 2, 1) := by decide +kernel
theorem dX9_findRow_196 : decode cX9_findRow 196 = .ok (.aload_n 0, 1) := by decide +kernel
theorem dX9_findRow_197 : decode cX9_findRow 197 = .ok (.getfield 79, 3) := by decide +kernel
theorem dX9_findRow_200 : decode cX9_findRow 200 = .ok (.iload_n 2, 1) := by decide +kernel
theorem dX9_findRow_201 : decode cX9_findRow 201 = .ok (.ishr, 1) := by decide +kernel
theorem dX9_findRow_202 : decode cX9_findRow 202 = .ok (.iconst 1, 1) := by decide +kernel
theorem dX9_findRow_203 : decode cX9_findRow 203 = .ok (.iand, 1) := by decide +kernel
theorem dX9_findRow_204 : decode cX9_findRow 204 = .ok (.ifCond .eq 38, 3) := by decide +kernel
theorem dX9_findRow_207 : decode cX9_findRow 207 = .ok (.iload_n 1, 1) := by decide +kernel
theorem dX9_findRow_208 : decode cX9_findRow 208 = .ok (.iload_n 2, 1) := by decide +kernel
theorem dX9_findRow_209 : decode cX9_findRow 209 = .ok (.ishr, 1) := by decide +kernel
theorem dX9_findRow_210 : decode cX9_findRow 210 = .ok (.iconst 1, 1) := by decide +kernel
theorem dX9_findRow_211 : decode cX9_findRow 211 = .ok (.iand, 1) := by decide +kernel
theorem dX9_findRow_212 : decode cX9_findRow 212 = .ok (.iconst 1, 1) := by decide +kernel
theorem dX9_findRow_213 : decode cX9_findRow 213 = .ok (.if_icmp .eq 29, 3) := by decide +kernel
theorem dX9_findRow_216 : decode cX9_findRow 216 = .ok (.aload_n 0, 1) := by decide +kernel
theorem dX9_findRow_217 : decode cX9_findRow 217 = .ok (.iload_n 2, 1) := by decide +kernel
theorem dX9_findRow_218 : decode cX9_findRow 218 = .ok (.iload_n 1, 1) := by decide +kernel
theorem dX9_findRow_219 : decode cX9_findRow 219 = .ok (.invokevirtual 83, 3) := by decide +kernel
theorem dX9_findRow_222 : decode cX9_findRow 222 = .ok (.aload_n 0, 1) := by decide +kernel
theorem dX9_findRow_223 : decode cX9_findRow 223 = .ok (.getfield 32, 3) := by decide +kernel
theorem dX9_findRow_226 : decode cX9_findRow 226 = .ok (.iload_n 1, 1) := by decide +kernel
theorem dX9_findRow_227 : decode cX9_findRow 227 = .ok (.iconst 1, 1) := by decide +kernel
theorem dX9_findRow_228 : decode cX9_findRow 228 = .ok (.iload_n 2, 1) := by decide +kernel
theorem dX9_findRow_229 : decode cX9_findRow 229 = .ok (.ishl, 1) := by decide +kernel
theorem dX9_findRow_230 : decode cX9_findRow 230 = .ok (.ior, 1) := by decide +kernel
theorem dX9_findRow_231 : decode cX9_findRow 231 = .ok (.iaload, 1) := by decide +kernel
theorem dX9_findRow_232 : decode cX9_findRow 232 = .ok (.iadd, 1) := by decide +kernel
theorem dX9_findRow_233 : decode cX9_findRow 233 = .ok (.aload_n 0, 1) := by decide +kernel
theorem dX9_findRow_234 : decode cX9_findRow 234 = .ok (.getfield 32, 3) := by decide +kernel
theorem dX9_findRow_237 : decode cX9_findRow 237 = .ok (.iload_n 1, 1) := by decide +kernel
theorem dX9_findRow_238 : decode cX9_findRow 238 = .ok (.iaload, 1) := by decide +kernel
theorem dX9_findRow_239 : decode cX9_findRow 239 = .ok (.if_icmp .eq 10, 3) := by decide +kernel
theorem dX9_findRow_242 : decode cX9_findRow 242 = .ok (.iload_n 2, 1) := by decide +kernel
theorem dX9_findRow_243 : decode cX9_findRow 243 = .ok (.iconst 1, 1) := by decide +kernel
theorem dX9_findRow_244 : decode cX9_findRow 244 = .ok (.iadd, 1) := by decide +kernel
theorem dX9_findRow_245 : decode cX9_findRow 245 = .ok (.istore_n 2, 1) := by decide +kernel
theorem dX9_findRow_246 : decode cX9_findRow 246 = .ok (.goto (-50), 3) := by decide +kernel
theorem dX9_findRow_249 : decode cX9_findRow 249 = .ok (.aload_n 0, 1) := by decide +kernel
theorem dX9_findRow_250 : decode cX9_findRow 250 = .ok (.getfield 23, 3) := by decide +kernel
theorem dX9_findRow_253 : decode cX9_findRow 253 = .ok (.aload_n 0, 1) := by decide +kernel
theorem dX9_findRow_254 : decode cX9_findRow 254 = .ok (.getfield 87, 3) := by decide +kernel
theorem dX9_findRow_257 : decode cX9_findRow 257 = .ok (.iload_n 2, 1) := by decide +kernel
theorem dX9_findRow_258 : decode cX9_findRow 258 = .ok (.iastore, 1) := by decide +kernel
theorem dX9_findRow_259 : decode cX9_findRow 259 = .ok (.aload_n 0, 1) := by decide +kernel
theorem dX9_findRow_260 : decode cX9_findRow 260 = .ok (.getfield 26, 3) := by decide +kernel
theorem dX9_findRow_263 : decode cX9_findRow 263 = .ok (.iload_n 2, 1) := by decide +kernel
theorem dX9_findRow_264 : decode cX9_findRow 264 = .ok (.aload_n 0, 1) := by decide +kernel
theorem dX9_findRow_265 : decode cX9_findRow 265 = .ok (.getfield 87, 3) := by decide +kernel
theorem dX9_findRow_268 : decode cX9_findRow 268 = .ok (.iastore, 1) := by decide +kernel
theorem dX9_findRow_269 : decode cX9_findRow 269 = .ok (.aload_n 0, 1) := by decide +kernel
theorem dX9_findRow_270 : decode cX9_findRow 270 = .ok (.aload_n 0, 1) := by decide +kernel
theorem dX9_findRow_271 : decode cX9_findRow 271 = .ok (.getfield 87, 3) := by decide +kernel
theorem dX9_findRow_274 : decode cX9_findRow 274 = .ok (.iconst 1, 1) := by decide +kernel
theorem dX9_findRow_275 : decode cX9_findRow 275 = .ok (.iadd, 1) := by decide +kernel
theorem dX9_findRow_276 : decode cX9_findRow 276 = .ok (.putfield 87, 3) := by decide +kernel
theorem dX9_findRow_279 : decode cX9_findRow 279 = .ok (.iload_n 1, 1) := by decide +kernel
theorem dX9_findRow_280 : decode cX9_findRow 280 = .ok (.iconst 1, 1) := by decide +kernel
theorem dX9_findRow_281 : decode cX9_findRow 281 = .ok (.iload_n 2, 1) := by decide +kernel
theorem dX9_findRow_282 : decode cX9_findRow 282 = .ok (.ishl, 1) := by decide +kernel
theorem dX9_findRow_283 : decode cX9_findRow 283 = .ok (.ior, 1) := by decide +kernel
theorem dX9_findRow_284 : decode cX9_findRow 284 = .ok (.istore_n 1, 1) := by decide +kernel
theorem dX9_findRow_285 : decode cX9_findRow 285 = .ok (.goto (-99), 3) := by decide +kernel
theorem dX9_findRow_288 : decode cX9_findRow 288 = .ok (.aload_n 0, 1) := by decide +kernel
theorem dX9_findRow_289 : decode cX9_findRow 289 = .ok (.iconst 0, 1) := by decide +kernel
theorem dX9_findRow_290 : decode cX9_findRow 290 = .ok (.putfield 90, 3) := by decide +kernel
theorem dX9_findRow_293 : decode cX9_findRow 293 = .ok (.iconst 0, 1) := by decide +kernel
theorem dX9_findRow_294 : decode cX9_findRow 294 = .ok (.istore_n 2, 1) := by decide +kernel
theorem dX9_findRow_295 : decode cX9_findRow 295 = .ok (.iload_n 2, 1) := by decide +kernel
theorem dX9_findRow_296 : decode cX9_findRow 296 = .ok (.aload_n 0, 1) := by decide +kernel
theorem dX9_findRow_297 : decode cX9_findRow 297 = .ok (.getfield 87, 3) := by decide +kernel
theorem dX9_findRow_300 : decode cX9_findRow 300 = .ok (.if_icmp .ge 124, 3) := by decide +kernel
theorem dX9_findRow_303 : decode cX9_findRow 303 = .ok (.aload_n 0, 1) := by decide +kernel
theorem dX9_findRow_304 : decode cX9_findRow 304 = .ok (.getfield 23, 3) := by decide +kernel
theorem dX9_findRow_307 : decode cX9_findRow 307 = .ok (.iload_n 2, 1) := by decide +kernel
theorem dX9_findRow_308 : decode cX9_findRow 308 = .ok (.iaload, 1) := by decide +kernel
theorem dX9_findRow_309 : decode cX9_findRow 309 = .ok (.istore_n 3, 1) := by decide +kernel
theorem dX9_findRow_310 : decode cX9_findRow 310 = .ok (.aload_n 0, 1) := by decide +kernel
theorem dX9_findRow_311 : decode cX9_findRow 311 = .ok (.getfield 29, 3) := by decide +kernel
theorem dX9_findRow_314 : decode cX9_findRow 314 = .ok (.iload_n 3, 1) := by decide +kernel
theorem dX9_findRow_315 : decode cX9_findRow 315 = .ok (.iconst 0, 1) := by decide +kernel
theorem dX9_findRow_316 : decode cX9_findRow 316 = .ok (.iastore, 1) := by decide +kernel
theorem dX9_findRow_317 : decode cX9_findRow 317 = .ok (.iconst 0, 1) := by decide +kernel
theorem dX9_findRow_318 : decode cX9_findRow 318 = .ok (.istore 4, 2) := by decide +kernel
theorem dX9_findRow_320 : decode cX9_findRow 320 = .ok (.iload 4, 2) := by decide +kernel
theorem dX9_findRow_322 : decode cX9_findRow 322 = .ok (.iload_n 2, 1) := by decide +kernel
theorem dX9_findRow_323 : decode cX9_findRow 323 = .ok (.if_icmp .ge 70, 3) := by decide +kernel
theorem dX9_findRow_326 : decode cX9_findRow 326 = .ok (.aload_n 0, 1) := by decide +kernel
theorem dX9_findRow_327 : decode cX9_findRow 327 = .ok (.getfield 7, 3) := by decide +kernel
theorem dX9_findRow_330 : decode cX9_findRow 330 = .ok (.bipush 10, 2) := by decide +kernel
theorem dX9_findRow_332 : decode cX9_findRow 332 = .ok (.aload_n 0, 1) := by decide +kernel
theorem dX9_findRow_333 : decode cX9_findRow 333 = .ok (.getfield 23, 3) := by decide +kernel
theorem dX9_findRow_336 : decode cX9_findRow 336 = .ok (.iload 4, 2) := by decide +kernel
theorem dX9_findRow_338 : decode cX9_findRow 338 = .ok (.iaload, 1) := by decide +kernel
theorem dX9_findRow_339 : decode cX9_findRow 339 = .ok (.imul, 1) := by decide +kernel
theorem dX9_findRow_340 : decode cX9_findRow 340 = .ok (.iload_n 3, 1) := by decide +kernel
theorem dX9_findRow_341 : decode cX9_findRow 341 = .ok (.iadd, 1) := by decide +kernel
theorem dX9_findRow_342 : decode cX9_findRow 342 = .ok (.iaload, 1) := by decide +kernel
theorem dX9_findRow_343 : decode cX9_findRow 343 = .ok (.ifCond .le 44, 3) := by decide +kernel
theorem dX9_findRow_346 : decode cX9_findRow 346 = .ok (.aload_n 0, 1) := by decide +kernel
theorem dX9_findRow_347 : decode cX9_findRow 347 = .ok (.getfield 29, 3) := by decide +kernel
theorem dX9_findRow_350 : decode cX9_findRow 350 = .ok (.aload_n 0, 1) := by decide +kernel
theorem dX9_findRow_351 : decode cX9_findRow 351 = .ok (.getfield 23, 3) := by decide +kernel
theorem dX9_findRow_354 : decode cX9_findRow 354 = .ok (.iload 4, 2) := by decide +kernel
theorem dX9_findRow_356 : decode cX9_findRow 356 = .ok (.iaload, 1) := by decide +kernel
theorem dX9_findRow_357 : decode cX9_findRow 357 = .ok (.iaload, 1) := by decide +kernel
theorem dX9_findRow_358 : decode cX9_findRow 358 = .ok (.aload_n 0, 1) := by decide +kernel
theorem dX9_findRow_359 : decode cX9_findRow 359 = .ok (.getfield 29, 3) := by decide +kernel
theorem dX9_findRow_362 : decode cX9_findRow 362 = .ok (.iload_n 3, 1) := by decide +kernel
theorem dX9_findRow_363 : decode cX9_findRow 363 = .ok (.iaload, 1) := by decide +kernel
theorem dX9_findRow_364 : decode cX9_findRow 364 = .ok (.if_icmp .lt 23, 3) := by decide +kernel
theorem dX9_findRow_367 : decode cX9_findRow 367 = .ok (.aload_n 0, 1) := by decide +kernel
theorem dX9_findRow_368 : decode cX9_findRow 368 = .ok (.getfield 29, 3) := by decide +kernel
theorem dX9_findRow_371 : decode cX9_findRow 371 = .ok (.iload_n 3, 1) := by decide +kernel
theorem dX9_findRow_372 : decode cX9_findRow 372 = .ok (.aload_n 0, 1) := by decide +kernel
theorem dX9_findRow_373 : decode cX9_findRow 373 = .ok (.getfield 29, 3) := by decide +kernel
theorem dX9_findRow_376 : decode cX9_findRow 376 = .ok (.aload_n 0, 1) := by decide +kernel
theorem dX9_findRow_377 : decode cX9_findRow 377 = .ok (.getfield 23, 3) := by decide +kernel
theorem dX9_findRow_380 : decode cX9_findRow 380 = .ok (.iload 4, 2) := by decide +kernel
theorem dX9_findRow_382 : decode cX9_findRow 382 = .ok (.iaload, 1) := by decide +kernel
theorem dX9_findRow_383 : decode cX9_findRow 383 = .ok (.iaload, 1) := by decide +kernel
theorem dX9_findRow_384 : decode cX9_findRow 384 = .ok (.iconst 1, 1) := by decide +kernel
theorem dX9_findRow_385 : decode cX9_findRow 385 = .ok (.iadd, 1) := by decide +kernel
theorem dX9_findRow_386 : decode cX9_findRow 386 = .ok (.iastore, 1) := by decide +kernel
theorem dX9_findRow_387 : decode cX9_findRow 387 = .ok (.iinc 4 1, 3) := by decide +kernel
theorem dX9_findRow_390 : decode cX9_findRow 390 = .ok (.goto (-70), 3) := by decide +kernel
theorem dX9_findRow_393 : decode cX9_findRow 393 = .ok (.aload_n 0, 1) := by decide +kernel
theorem dX9_findRow_394 : decode cX9_findRow 394 = .ok (.getfield 29, 3) := by decide +kernel
theorem dX9_findRow_397 : decode cX9_findRow 397 = .ok (.iload_n 3, 1) := by decide +kernel
theorem dX9_findRow_398 : decode cX9_findRow 398 = .ok (.iaload, 1) := by decide +kernel
theorem dX9_findRow_399 : decode cX9_findRow 399 = .ok (.aload_n 0, 1) := by decide +kernel
theorem dX9_findRow_400 : decode cX9_findRow 400 = .ok (.getfield 90, 3) := by decide +kernel
theorem dX9_findRow_403 : decode cX9_findRow 403 = .ok (.if_icmp .lt 15, 3) := by decide +kernel
theorem dX9_findRow_406 : decode cX9_findRow 406 = .ok (.aload_n 0, 1) := by decide +kernel
theorem dX9_findRow_407 : decode cX9_findRow 407 = .ok (.aload_n 0, 1) := by decide +kernel
theorem dX9_findRow_408 : decode cX9_findRow 408 = .ok (.getfield 29, 3) := by decide +kernel
theorem dX9_findRow_411 : decode cX9_findRow 411 = .ok (.iload_n 3, 1) := by decide +kernel
theorem dX9_findRow_412 : decode cX9_findRow 412 = .ok (.iaload, 1) := by decide +kernel
theorem dX9_findRow_413 : decode cX9_findRow 413 = .ok (.iconst 1, 1) := by decide +kernel
theorem dX9_findRow_414 : decode cX9_findRow 414 = .ok (.iadd, 1) := by decide +kernel
theorem dX9_findRow_415 : decode cX9_findRow 415 = .ok (.putfield 90, 3) := by decide +kernel
theorem dX9_findRow_418 : decode cX9_findRow 418 = .ok (.iinc 2 1, 3) := by decide +kernel
theorem dX9_findRow_421 : decode cX9_findRow 421 = .ok (.goto (-126), 3) := by decide +kernel
theorem dX9_findRow_424 : decode cX9_findRow 424 = .ok (.return_, 1) := by decide +kernel
theorem dX9_isUsed_0 : decode cX9_isUsed 0 = .ok (.aload_n 0, 1) := by decide +kernel
theorem dX9_isUsed_1 : decode cX9_isUsed 1 = .ok (.getfield 79, 3) := by decide +kernel
theorem dX9_isUsed_4 : decode cX9_isUsed 4 = .ok (.iload_n 1, 1) := by decide +kernel
theorem dX9_isUsed_5 : decode cX9_isUsed 5 = .ok (.ishr, 1) := by decide +kernel
theorem dX9_isUsed_6 : decode cX9_isUsed 6 = .ok (.iconst 1, 1) := by decide +kernel
theorem dX9_isUsed_7 : decode cX9_isUsed 7 = .ok (.iand, 1) := by decide +kernel
theorem dX9_isUsed_8 : decode cX9_isUsed 8 = .ok (.iconst 1, 1) := by decide +kernel
theorem dX9_isUsed_9 : decode cX9_isUsed 9 = .ok (.if_icmp .ne 7, 3) := by decide +kernel
theorem dX9_isUsed_12 : decode cX9_isUsed 12 = .ok (.iconst 1, 1) := by decide +kernel
theorem dX9_isUsed_13 : decode cX9_isUsed 13 = .ok (.goto 4, 3) := by decide +kernel
theorem dX9_isUsed_16 : decode cX9_isUsed 16 = .ok (.iconst 0, 1) := by decide +kernel
theorem dX9_isUsed_17 : decode cX9_isUsed 17 = .ok (.ireturn, 1) := by decide +kernel
theorem dX9_isTurned_0 : decode cX9_isTurned 0 = .ok (.aload_n 0, 1) := by decide +kernel
theorem dX9_isTurned_1 : decode cX9_isTurned 1 = .ok (.getfield 26, 3) := by decide +kernel
theorem dX9_isTurned_4 : decode cX9_isTurned 4 = .ok (.iload_n 1, 1) := by decide +kernel
theorem dX9_isTurned_5 : decode cX9_isTurned 5 = .ok (.iaload, 1) := by decide +kernel
theorem dX9_isTurned_6 : decode cX9_isTurned 6 = .ok (.aload_n 0, 1) := by decide +kernel
theorem dX9_isTurned_7 : decode cX9_isTurned 7 = .ok (.getfield 26, 3) := by decide +kernel
theorem dX9_isTurned_10 : decode cX9_isTurned 10 = .ok (.iload_n 2, 1) := by decide +kernel
theorem dX9_isTurned_11 : decode cX9_isTurned 11 = .ok (.iaload, 1) := by decide +kernel
theorem dX9_isTurned_12 : decode cX9_isTurned 12 = .ok (.if_icmp .le 7, 3) := by decide +kernel
theorem dX9_isTurned_15 : decode cX9_isTurned 15 = .ok (.iconst 1, 1) := by decide +kernel
theorem dX9_isTurned_16 : decode cX9_isTurned 16 = .ok (.goto 4, 3) := by decide +kernel
theorem dX9_isTurned_19 : decode cX9_isTurned 19 = .ok (.iconst 0, 1) := by decide +kernel
theorem dX9_isTurned_20 : decode cX9_isTurned 20 = .ok (.ireturn, 1) := by decide +kernel
theorem dX9_puts_0 : decode cX9_puts 0 = .ok (.aload_n 0, 1) := by decide +kernel
theorem dX9_puts_1 : decode cX9_puts 1 = .ok (.getfield 35, 3) := by decide +kernel
theorem dX9_puts_4 : decode cX9_puts 4 = .ok (.iload_n 1, 1) := by decide +kernel
theorem dX9_puts_5 : decode cX9_puts 5 = .ok (.iaload, 1) := by decide +kernel
theorem dX9_puts_6 : decode cX9_puts 6 = .ok (.istore_n 3, 1) := by decide +kernel
theorem dX9_puts_7 : decode cX9_puts 7 = .ok (.iload_n 3, 1) := by decide +kernel
theorem dX9_puts_8 : decode cX9_puts 8 = .ok (.ifCond .le 51, 3) := by decide +kernel
theorem dX9_puts_11 : decode cX9_puts 11 = .ok (.aload_n 0, 1) := by decide +kernel
theorem dX9_puts_12 : decode cX9_puts 12 = .ok (.getfield 38, 3) := by decide +kernel
theorem dX9_puts_15 : decode cX9_puts 15 = .ok (.bipush 30, 2) := by decide +kernel
theorem dX9_puts_17 : decode cX9_puts 17 = .ok (.iload_n 1, 1) := by decide +kernel
theorem dX9_puts_18 : decode cX9_puts 18 = .ok (.imul, 1) := by decide +kernel
theorem dX9_puts_19 : decode cX9_puts 19 = .ok (.iload_n 3, 1) := by decide +kernel
theorem dX9_puts_20 : decode cX9_puts 20 = .ok (.iadd, 1) := by decide +kernel
theorem dX9_puts_21 : decode cX9_puts 21 = .ok (.iconst 1, 1) := by decide +kernel
theorem dX9_puts_22 : decode cX9_puts 22 = .ok (.isub, 1) := by decide +kernel
theorem dX9_puts_23 : decode cX9_puts 23 = .ok (.iaload, 1) := by decide +kernel
theorem dX9_puts_24 : decode cX9_puts 24 = .ok (.iload_n 2, 1) := by decide +kernel
theorem dX9_puts_25 : decode cX9_puts 25 = .ok (.if_icmp .le 34, 3) := by decide +kernel
theorem dX9_puts_28 : decode cX9_puts 28 = .ok (.aload_n 0, 1) := by decide +kernel
theorem dX9_puts_29 : decode cX9_puts 29 = .ok (.getfield 38, 3) := by decide +kernel
theorem dX9_puts_32 : decode cX9_puts 32 = .ok (.bipush 30, 2) := by decide +kernel
theorem dX9_puts_34 : decode cX9_puts 34 = .ok (.iload_n 1, 1) := by decide +kernel
theorem dX9_puts_35 : decode cX9_puts 35 = .ok (.imul, 1) := by decide +kernel
theorem dX9_puts_36 : decode cX9_puts 36 = .ok (.iload_n 3, 1) := by decide +kernel
theorem dX9_puts_37 : decode cX9_puts 37 = .ok (.iadd, 1) := by decide +kernel
theorem dX9_puts_38 : decode cX9_puts 38 = .ok (.aload_n 0, 1) := by decide +kernel
theorem dX9_puts_39 : decode cX9_puts 39 = .ok (.getfield 38, 3) := by decide +kernel
theorem dX9_puts_42 : decode cX9_puts 42 = .ok (.bipush 30, 2) := by decide +kernel
theorem dX9_puts_44 : decode cX9_puts 44 = .ok (.iload_n 1, 1) := by decide +kernel
theorem dX9_puts_45 : decode cX9_puts 45 = .ok (.imul, 1) := by decide +kernel
theorem dX9_puts_46 : decode cX9_puts 46 = .ok (.iload_n 3, 1) := by decide +kernel
theorem dX9_puts_47 : decode cX9_puts 47 = .ok (.iadd, 1) := by decide +kernel
theorem dX9_puts_48 : decode cX9_puts 48 = .ok (.iconst 1, 1) := by decide +kernel
theorem dX9_puts_49 : decode cX9_puts 49 = .ok (.isub, 1) := by decide +kernel
theorem dX9_puts_50 : decode cX9_puts 50 = .ok (.iaload, 1) := by decide +kernel
theorem dX9_puts_51 : decode cX9_puts 51 = .ok (.iastore, 1) := by decide +kernel
theorem dX9_puts_52 : decode cX9_puts 52 = .ok (.iload_n 3, 1) := by decide +kernel
theorem dX9_puts_53 : decode cX9_puts 53 = .ok (.iconst 1, 1) := by decide +kernel
theorem dX9_puts_54 : decode cX9_puts 54 = .ok (.isub, 1) := by decide +kernel
theorem dX9_puts_55 : decode cX9_puts 55 = .ok (.istore_n 3, 1) := by decide +kernel
theorem dX9_puts_56 : decode cX9_puts 56 = .ok (.goto (-49), 3) := by decide +kernel
theorem dX9_puts_59 : decode cX9_puts 59 = .ok (.aload_n 0, 1) := by decide +kernel
theorem dX9_puts_60 : decode cX9_puts 60 = .ok (.getfield 38, 3) := by decide +kernel
theorem dX9_puts_63 : decode cX9_puts 63 = .ok (.bipush 30, 2) := by decide +kernel
theorem dX9_puts_65 : decode cX9_puts 65 = .ok (.iload_n 1, 1) := by decide +kernel
theorem dX9_puts_66 : decode cX9_puts 66 = .ok (.imul, 1) := by decide +kernel
theorem dX9_puts_67 : decode cX9_puts 67 = .ok (.iload_n 3, 1) := by decide +kernel
theorem dX9_puts_68 : decode cX9_puts 68 = .ok (.iadd, 1) := by decide +kernel
theorem dX9_puts_69 : decode cX9_puts 69 = .ok (.iload_n 2, 1) := by decide +kernel
theorem dX9_puts_70 : decode cX9_puts 70 = .ok (.iastore, 1) := by decide +kernel
theorem dX9_puts_71 : decode cX9_puts 71 = .ok (.aload_n 0, 1) := by decide +kernel
theorem dX9_puts_72 : decode cX9_puts 72 = .ok (.getfield 35, 3) := by decide +kernel
theorem dX9_puts_75 : decode cX9_puts 75 = .ok (.iload_n 1, 1) := by decide +kernel
theorem dX9_puts_76 : decode cX9_puts 76 = .ok (.aload_n 0, 1) := by decide +kernel
theorem dX9_puts_77 : decode cX9_puts 77 = .ok (.getfield 35, 3) := by decide +kernel
theorem dX9_puts_80 : decode cX9_puts 80 = .ok (.iload_n 1, 1) := by decide +kernel
theorem dX9_puts_81 : decode cX9_puts 81 = .ok (.iaload, 1) := by decide +kernel
theorem dX9_puts_82 : decode cX9_puts 82 = .ok (.iconst 1, 1) := by decide +kernel
theorem dX9_puts_83 : decode cX9_puts 83 = .ok (.iadd, 1) := by decide +kernel
theorem dX9_puts_84 : decode cX9_puts 84 = .ok (.iastore, 1) := by decide +kernel
theorem dX9_puts_85 : decode cX9_puts 85 = .ok (.return_, 1) := by decide +kernel
theorem dX9_find_0 : decode cX9_find 0 = .ok (.iconst 0, 1) := by decide +kernel
theorem dX9_find_1 : decode cX9_find 1 = .ok (.istore_n 3, 1) := by decide +kernel
theorem dX9_find_2 : decode cX9_find 2 = .ok (.aload_n 0, 1) := by decide +kernel
theorem dX9_find_3 : decode cX9_find 3 = .ok (.getfield 38, 3) := by decide +kernel
theorem dX9_find_6 : decode cX9_find 6 = .ok (.bipush 30, 2) := by decide +kernel
theorem dX9_find_8 : decode cX9_find 8 = .ok (.iload_n 1, 1) := by decide +kernel
theorem dX9_find_9 : decode cX9_find 9 = .ok (.imul, 1) := by decide +kernel
theorem dX9_find_10 : decode cX9_find 10 = .ok (.iload_n 3, 1) := by decide +kernel
theorem dX9_find_11 : decode cX9_find 11 = .ok (.iadd, 1) := by decide +kernel
theorem dX9_find_12 : decode cX9_find 12 = .ok (.iaload, 1) := by decide +kernel
theorem dX9_find_13 : decode cX9_find 13 = .ok (.iload_n 2, 1) := by decide +kernel
theorem dX9_find_14 : decode cX9_find 14 = .ok (.if_icmp .eq 10, 3) := by decide +kernel
theorem dX9_find_17 : decode cX9_find 17 = .ok (.iload_n 3, 1) := by decide +kernel
theorem dX9_find_18 : decode cX9_find 18 = .ok (.iconst 1, 1) := by decide +kernel
theorem dX9_find_19 : decode cX9_find 19 = .ok (.iadd, 1) := by decide +kernel
theorem dX9_find_20 : decode cX9_find 20 = .ok (.istore_n 3, 1) := by decide +kernel
theorem dX9_find_21 : decode cX9_find 21 = .ok (.goto (-19), 3) := by decide +kernel
theorem dX9_find_24 : decode cX9_find 24 = .ok (.iload_n 3, 1) := by decide +kernel
theorem dX9_find_25 : decode cX9_find 25 = .ok (.ireturn, 1) := by decide +kernel
theorem dX9_idOf_0 : decode cX9_idOf 0 = .ok (.iload_n 3, 1) := by decide +kernel
theorem dX9_idOf_1 : decode cX9_idOf 1 = .ok (.aload_n 0, 1) := by decide +kernel
theorem dX9_idOf_2 : decode cX9_idOf 2 = .ok (.getfield 29, 3) := by decide +kernel
theorem dX9_idOf_5 : decode cX9_idOf 5 = .ok (.iload_n 1, 1) := by decide +kernel
theorem dX9_idOf_6 : decode cX9_idOf 6 = .ok (.iaload, 1) := by decide +kernel
theorem dX9_idOf_7 : decode cX9_idOf 7 = .ok (.if_icmp .ne 7, 3) := by decide +kernel
theorem dX9_idOf_10 : decode cX9_idOf 10 = .ok (.iload_n 1, 1) := by decide +kernel
theorem dX9_idOf_11 : decode cX9_idOf 11 = .ok (.goto 26, 3) := by decide +kernel
theorem dX9_idOf_14 : decode cX9_idOf 14 = .ok (.iload_n 3, 1) := by decide +kernel
theorem dX9_idOf_15 : decode cX9_idOf 15 = .ok (.aload_n 0, 1) := by decide +kernel
theorem dX9_idOf_16 : decode cX9_idOf 16 = .ok (.getfield 29, 3) := by decide +kernel
theorem dX9_idOf_19 : decode cX9_idOf 19 = .ok (.iload_n 2, 1) := by decide +kernel
theorem dX9_idOf_20 : decode cX9_idOf 20 = .ok (.iaload, 1) := by decide +kernel
theorem dX9_idOf_21 : decode cX9_idOf 21 = .ok (.if_icmp .ne 7, 3) := by decide +kernel
theorem dX9_idOf_24 : decode cX9_idOf 24 = .ok (.iload_n 2, 1) := by decide +kernel
theorem dX9_idOf_25 : decode cX9_idOf 25 = .ok (.goto 12, 3) := by decide +kernel
theorem dX9_idOf_28 : decode cX9_idOf 28 = .ok (.bipush 100, 2) := by decide +kernel
theorem dX9_idOf_30 : decode cX9_idOf 30 = .ok (.bipush 10, 2) := by decide +kernel
theorem dX9_idOf_32 : decode cX9_idOf 32 = .ok (.iload_n 1, 1) := by decide +kernel
theorem dX9_idOf_33 : decode cX9_idOf 33 = .ok (.imul, 1) := by decide +kernel
theorem dX9_idOf_34 : decode cX9_idOf 34 = .ok (.iadd, 1) := by decide +kernel
theorem dX9_idOf_35 : decode cX9_idOf 35 = .ok (.iload_n 2, 1) := by decide +kernel
theorem dX9_idOf_36 : decode cX9_idOf 36 = .ok (.iadd, 1) := by decide +kernel
theorem dX9_idOf_37 : decode cX9_idOf 37 = .ok (.ireturn, 1) := by decide +kernel
theorem dX9_isStraight_0 : decode cX9_isStraight 0 = .ok (.aload_n 0, 1) := by decide +kernel
theorem dX9_isStraight_1 : decode cX9_isStraight 1 = .ok (.getfield 7, 3) := by decide +kernel
theorem dX9_isStraight_4 : decode cX9_isStraight 4 = .ok (.bipush 10, 2) := by decide +kernel
theorem dX9_isStraight_6 : decode cX9_isStraight 6 = .ok (.iload_n 1, 1) := by decide +kernel
theorem dX9_isStraight_7 : decode cX9_isStraight 7 = .ok (.imul, 1) := by decide +kernel
theorem dX9_isStraight_8 : decode cX9_isStraight 8 = .ok (.iload_n 2, 1) := by decide +kernel
theorem dX9_isStraight_9 : decode cX9_isStraight 9 = .ok (.iadd, 1) := by decide +kernel
theorem dX9_isStraight_10 : decode cX9_isStraight 10 = .ok (.iaload, 1) := by decide +kernel
theorem dX9_isStraight_11 : decode cX9_isStraight 11 = .ok (.ifCond .le 16, 3) := by decide +kernel
theorem dX9_isStraight_14 : decode cX9_isStraight 14 = .ok (.aload_n 0, 1) := by decide +kernel
theorem dX9_isStraight_15 : decode cX9_isStraight 15 = .ok (.iload_n 1, 1) := by decide +kernel
theorem dX9_isStraight_16 : decode cX9_isStraight 16 = .ok (.iload_n 2, 1) := by decide +kernel
theorem dX9_isStraight_17 : decode cX9_isStraight 17 = .ok (.invokevirtual 93, 3) := by decide +kernel
theorem dX9_isStraight_20 : decode cX9_isStraight 20 = .ok (.ifCond .ne 7, 3) := by decide +kernel
theorem dX9_isStraight_23 : decode cX9_isStraight 23 = .ok (.iconst 1, 1) := by decide +kernel
theorem dX9_isStraight_24 : decode cX9_isStraight 24 = .ok (.goto 4, 3) := by decide +kernel
theorem dX9_isStraight_27 : decode cX9_isStraight 27 = .ok (.iconst 0, 1) := by decide +kernel
theorem dX9_isStraight_28 : decode cX9_isStraight 28 = .ok (.ireturn, 1) := by decide +kernel
theorem dX9_findItems_0 : decode cX9_findItems 0 = .ok (.aload_n 0, 1) := by decide +kernel
theorem dX9_findItems_1 : decode cX9_findItems 1 = .ok (.invokevirtual 97, 3) := by decide +kernel
theorem dX9_findItems_4 : decode cX9_findItems 4 = .ok (.iconst 0, 1) := by decide +kernel
theorem dX9_findItems_5 : decode cX9_findItems 5 = .ok (.istore_n 1, 1) := by decide +kernel
theorem dX9_findItems_6 : decode cX9_findItems 6 = .ok (.iload_n 1, 1) := by decide +kernel
theorem dX9_findItems_7 : decode cX9_findItems 7 = .ok (.bipush 10, 2) := by decide +kernel
theorem dX9_findItems_9 : decode cX9_findItems 9 = .ok (.if_icmp .ge 23, 3) := by decide +kernel
theorem dX9_findItems_12 : decode cX9_findItems 12 = .ok (.aload_n 0, 1) := by decide +kernel
theorem dX9_findItems_13 : decode cX9_findItems 13 = .ok (.getfield 35, 3) := by decide +kernel
theorem dX9_findItems_16 : decode cX9_findItems 16 = .ok (.iload_n 1, 1) := by decide +kernel
theorem dX9_findItems_17 : decode cX9_findItems 17 = .ok (.iconst 0, 1) := by decide +kernel
theorem dX9_findItems_18 : decode cX9_findItems 18 = .ok (.iastore, 1) := by decide +kernel
theorem dX9_findItems_19 : decode cX9_findItems 19 = .ok (.aload_n 0, 1) := by decide +kernel
theorem dX9_findItems_20 : decode cX9_findItems 20 = .ok (.getfield 41, 3) := by decide +kernel
theorem dX9_findItems_23 : decode cX9_findItems 23 = .ok (.iload_n 1, 1) := by decide +kernel
theorem dX9_findItems_24 : decode cX9_findItems 24 = .ok (.iconst 0, 1) := by decide +kernel
theorem dX9_findItems_25 : decode cX9_findItems 25 = .ok (.iastore, 1) := by decide +kernel
theorem dX9_findItems_26 : decode cX9_findItems 26 = .ok (.iinc 1 1, 3) := by decide +kernel
theorem dX9_findItems_29 : decode cX9_findItems 29 = .ok (.goto (-23), 3) := by decide +kernel
theorem dX9_findItems_32 : decode cX9_findItems 32 = .ok (.iconst 0, 1) := by decide +kernel
theorem dX9_findItems_33 : decode cX9_findItems 33 = .ok (.istore_n 1, 1) := by decide +kernel
theorem dX9_findItems_34 : decode cX9_findItems 34 = .ok (.iload_n 1, 1) := by decide +kernel
theorem dX9_findItems_35 : decode cX9_findItems 35 = .ok (.bipush 10, 2) := by decide +kernel
theorem dX9_findItems_37 : decode cX9_findItems 37 = .ok (.if_icmp .ge 28, 3) := by decide +kernel
theorem dX9_findItems_40 : decode cX9_findItems 40 = .ok (.aload_n 0, 1) := by decide +kernel
theorem dX9_findItems_41 : decode cX9_findItems 41 = .ok (.iload_n 1, 1) := by decide +kernel
theorem dX9_findItems_42 : decode cX9_findItems 42 = .ok (.invokevirtual 100, 3) := by decide +kernel
theorem dX9_findItems_45 : decode cX9_findItems 45 = .ok (.ifCond .eq 14, 3) := by decide +kernel
theorem dX9_findItems_48 : decode cX9_findItems 48 = .ok (.aload_n 0, 1) := by decide +kernel
theorem dX9_findItems_49 : decode cX9_findItems 49 = .ok (.aload_n 0, 1) := by decide +kernel
theorem dX9_findItems_50 : decode cX9_findItems 50 = .ok (.getfield 29, 3) := by decide +kernel
theorem dX9_findItems_53 : decode cX9_findItems 53 = .ok (.iload_n 1, 1) := by decide +kernel
theorem dX9_findItems_54 : decode cX9_findItems 54 = .ok (.iaload, 1) := by decide +kernel
theorem dX9_findItems_55 : decode cX9_findItems 55 = .ok (.iload_n 1, 1) := by decide +kernel
theorem dX9_findItems_56 : decode cX9_findItems 56 = .ok (.invokevirtual 103, 3) := by decide +kernel
theorem dX9_findItems_59 : decode cX9_findItems 59 = .ok (.iinc 1 1, 3) := by decide +kernel
theorem dX9_findItems_62 : decode cX9_findItems 62 = .ok (.goto (-28), 3) := by decide +kernel
theorem dX9_findItems_65 : decode cX9_findItems 65 = .ok (.iconst 0, 1) := by decide +kernel
theorem dX9_findItems_66 : decode cX9_findItems 66 = .ok (.istore_n 1, 1) := by decide +kernel
theorem dX9_findItems_67 : decode cX9_findItems 67 = .ok (.iload_n 1, 1) := by decide +kernel
theorem dX9_findItems_68 : decode cX9_findItems 68 = .ok (.bipush 10, 2) := by decide +kernel
theorem dX9_findItems_70 : decode cX9_findItems 70 = .ok (.if_icmp .ge 71, 3) := by decide +kernel
theorem dX9_findItems_73 : decode cX9_findItems 73 = .ok (.iconst 0, 1) := by decide +kernel
theorem dX9_findItems_74 : decode cX9_findItems 74 = .ok (.istore_n 2, 1) := by decide +kernel
theorem dX9_findItems_75 : decode cX9_findItems 75 = .ok (.iload_n 2, 1) := by decide +kernel
theorem dX9_findItems_76 : decode cX9_findItems 76 = .ok (.bipush 10, 2) := by decide +kernel
theorem dX9_findItems_78 : decode cX9_findItems 78 = .ok (.if_icmp .ge 57, 3) := by decide +kernel
theorem dX9_findItems_81 : decode cX9_findItems 81 = .ok (.aload_n 0, 1) := by decide +kernel
theorem dX9_findItems_82 : decode cX9_findItems 82 = .ok (.iload_n 1, 1) := by decide +kernel
theorem dX9_findItems_83 : decode cX9_findItems 83 = .ok (.iload_n 2, 1) := by decide +kernel
theorem dX9_findItems_84 : decode cX9_findItems 84 = .ok (.invokevirtual 107, 3) := by decide +kernel
theorem dX9_findItems_87 : decode cX9_findItems 87 = .ok (.ifCond .eq 42, 3) := by decide +kernel
theorem dX9_findItems_90 : decode cX9_findItems 90 = .ok (.aload_n 0, 1) := by decide +kernel
theorem dX9_findItems_91 : decode cX9_findItems 91 = .ok (.getfield 29, 3) := by decide +kernel
theorem dX9_findItems_94 : decode cX9_findItems 94 = .ok (.iload_n 1, 1) := by decide +kernel
theorem dX9_findItems_95 : decode cX9_findItems 95 = .ok (.iaload, 1) := by decide +kernel
theorem dX9_findItems_96 : decode cX9_findItems 96 = .ok (.iconst 1, 1) := by decide +kernel
theorem dX9_findItems_97 : decode cX9_findItems 97 = .ok (.iadd, 1) := by decide +kernel
theorem dX9_findItems_98 : decode cX9_findItems 98 = .ok (.istore_n 3, 1) := by decide +kernel
theorem dX9_findItems_99 : decode cX9_findItems 99 = .ok (.iload_n 3, 1) := by decide +kernel
theorem dX9_findItems_100 : decode cX9_findItems 100 = .ok (.aload_n 0, 1) := by decide +kernel
theorem dX9_findItems_101 : decode cX9_findItems 101 = .ok (.getfield 29, 3) := by decide +kernel
theorem dX9_findItems_104 : decode cX9_findItems 104 = .ok (.iload_n 2, 1) := by decide +kernel
theorem dX9_findItems_105 : decode cX9_findItems 105 = .ok (.iaload, 1) := by decide +kernel
theorem dX9_findItems_106 : decode cX9_findItems 106 = .ok (.if_icmp .ge 23, 3) := by decide +kernel
theorem dX9_findItems_109 : decode cX9_findItems 109 = .ok (.aload_n 0, 1) := by decide +kernel
theorem dX9_findItems_110 : decode cX9_findItems 110 = .ok (.iload_n 3, 1) := by decide +kernel
theorem dX9_findItems_111 : decode cX9_findItems 111 = .ok (.bipush 100, 2) := by decide +kernel
theorem dX9_findItems_113 : decode cX9_findItems 113 = .ok (.bipush 10, 2) := by decide +kernel
theorem dX9_findItems_115 : decode cX9_findItems 115 = .ok (.iload_n 1, 1) := by decide +kernel
theorem dX9_findItems_116 : decode cX9_findItems 116 = .ok (.imul, 1) := by decide +kernel
theorem dX9_findItems_117 : decode cX9_findItems 117 = .ok (.iadd, 1) := by decide +kernel
theorem dX9_findItems_118 : decode cX9_findItems 118 = .ok (.iload_n 2, 1) := by decide +kernel
theorem dX9_findItems_119 : decode cX9_findItems 119 = .ok (.iadd, 1) := by decide +kernel
theorem dX9_findItems_120 : decode cX9_findItems 120 = .ok (.invokevirtual 103, 3) := by decide +kernel
theorem dX9_findItems_123 : decode cX9_findItems 123 = .ok (.iinc 3 1, 3) := by decide +kernel
theorem dX9_findItems_126 : decode cX9_findItems 126 = .ok (.goto (-27), 3) := by decide +kernel
theorem dX9_findItems_129 : decode cX9_findItems 129 = .ok (.iinc 2 1, 3) := by decide +kernel
theorem dX9_findItems_132 : decode cX9_findItems 132 = .ok (.goto (-57), 3) := by decide +kernel
theorem dX9_findItems_135 : decode cX9_findItems 135 = .ok (.iinc 1 1, 3) := by decide +kernel
theorem dX9_findItems_138 : decode cX9_findItems 138 = .ok (.goto (-71), 3) := by decide +kernel
theorem dX9_findItems_141 : decode cX9_findItems 141 = .ok (.aload_n 0, 1) := by decide +kernel
theorem dX9_findItems_142 : decode cX9_findItems 142 = .ok (.iconst 1, 1) := by decide +kernel
theorem dX9_findItems_143 : decode cX9_findItems 143 = .ok (.putfield 110, 3) := by decide +kernel
theorem dX9_findItems_146 : decode cX9_findItems 146 = .ok (.iconst 0, 1) := by decide +kernel
theorem dX9_findItems_147 : decode cX9_findItems 147 = .ok (.istore_n 1, 1) := by decide +kernel
theorem dX9_findItems_148 : decode cX9_findItems 148 = .ok (.iload_n 1, 1) := by decide +kernel
theorem dX9_findItems_149 : decode cX9_findItems 149 = .ok (.aload_n 0, 1) := by decide +kernel
theorem dX9_findItems_150 : decode cX9_findItems 150 = .ok (.getfield 90, 3) := by decide +kernel
theorem dX9_findItems_153 : decode cX9_findItems 153 = .ok (.if_icmp .ge 24, 3) := by decide +kernel
theorem dX9_findItems_156 : decode cX9_findItems 156 = .ok (.aload_n 0, 1) := by decide +kernel
theorem dX9_findItems_157 : decode cX9_findItems 157 = .ok (.getfield 35, 3) := by decide +kernel
theorem dX9_findItems_160 : decode cX9_findItems 160 = .ok (.iload_n 1, 1) := by decide +kernel
theorem dX9_findItems_161 : decode cX9_findItems 161 = .ok (.iaload, 1) := by decide +kernel
theorem dX9_findItems_162 : decode cX9_findItems 162 = .ok (.iconst 5, 1) := by decide +kernel
theorem dX9_findItems_163 : decode cX9_findItems 163 = .ok (.if_icmp .le 8, 3) := by decide +kernel
theorem dX9_findItems_166 : decode cX9_findItems 166 = .ok (.aload_n 0, 1) := by decide +kernel
theorem dX9_findItems_167 : decode cX9_findItems 167 = .ok (.iconst 0, 1) := by decide +kernel
theorem dX9_findItems_168 : decode cX9_findItems 168 = .ok (.putfield 110, 3) := by decide +kernel
theorem dX9_findItems_171 : decode cX9_findItems 171 = .ok (.iinc 1 1, 3) := by decide +kernel
theorem dX9_findItems_174 : decode cX9_findItems 174 = .ok (.goto (-26), 3) := by decide +kernel
theorem dX9_findItems_177 : decode cX9_findItems 177 = .ok (.iconst 0, 1) := by decide +kernel
theorem dX9_findItems_178 : decode cX9_findItems 178 = .ok (.istore_n 1, 1) := by decide +kernel
theorem dX9_findItems_179 : decode cX9_findItems 179 = .ok (.iload_n 1, 1) := by decide +kernel
theorem dX9_findItems_180 : decode cX9_findItems 180 = .ok (.bipush 10, 2) := by decide +kernel
theorem dX9_findItems_182 : decode cX9_findItems 182 = .ok (.if_icmp .ge 145, 3) := by decide +kernel
theorem dX9_findItems_185 : decode cX9_findItems 185 = .ok (.iconst 0, 1) := by decide +kernel
theorem dX9_findItems_186 : decode cX9_findItems 186 = .ok (.istore_n 2, 1) := by decide +kernel
theorem dX9_findItems_187 : decode cX9_findItems 187 = .ok (.iload_n 2, 1) := by decide +kernel
theorem dX9_findItems_188 : decode cX9_findItems 188 = .ok (.bipush 10, 2) := by decide +kernel
theorem dX9_findItems_190 : decode cX9_findItems 190 = .ok (.if_icmp .ge 131, 3) := by decide +kernel
theorem dX9_findItems_193 : decode cX9_findItems 193 = .ok (.aload_n 0, 1) := by decide +kernel
theorem dX9_findItems_194 : decode cX9_findItems 194 = .ok (.iload_n 1, 1) := by decide +kernel
theorem dX9_findItems_195 : decode cX9_findItems 195 = .ok (.iload_n 2, 1) := by decide +kernel
theorem dX9_findItems_196 : decode cX9_findItems 196 = .ok (.invokevirtual 107, 3) := by decide +kernel
theorem dX9_findItems_199 : decode cX9_findItems 199 = .ok (.ifCond .ne 6, 3) := by decide +kernel
theorem dX9_findItems_202 : decode cX9_findItems 202 = .ok (.goto 113, 3) := by decide +kernel
theorem dX9_findItems_205 : decode cX9_findItems 205 = .ok (.aload_n 0, 1) := by decide +kernel
theorem dX9_findItems_206 : decode cX9_findItems 206 = .ok (.getfield 29, 3) := by decide +kernel
theorem dX9_findItems_209 : decode cX9_findItems 209 = .ok (.iload_n 1, 1) := by decide +kernel
theorem dX9_findItems_210 : decode cX9_findItems 210 = .ok (.iaload, 1) := by decide +kernel
theorem dX9_findItems_211 : decode cX9_findItems 211 = .ok (.istore_n 3, 1) := by decide +kernel
theorem dX9_findItems_212 : decode cX9_findItems 212 = .ok (.iload_n 3, 1) := by decide +kernel
theorem dX9_findItems_213 : decode cX9_findItems 213 = .ok (.aload_n 0, 1) := by decide +kernel
theorem dX9_findItems_214 : decode cX9_findItems 214 = .ok (.getfield 29, 3) := by decide +kernel
theorem dX9_findItems_217 : decode cX9_findItems 217 = .ok (.iload_n 2, 1) := by decide +kernel
theorem dX9_findItems_218 : decode cX9_findItems 218 = .ok (.iaload, 1) := by decide +kernel
theorem dX9_findItems_219 : decode cX9_findItems 219 = .ok (.if_icmp .ge 96, 3) := by decide +kernel
theorem dX9_findItems_222 : decode cX9_findItems 222 = .ok (.bipush 16, 2) := by decide +kernel
theorem dX9_findItems_224 : decode cX9_findItems 224 = .ok (.iload_n 3, 1) := by decide +kernel
theorem dX9_findItems_225 : decode cX9_findItems 225 = .ok (.imul, 1) := by decide +kernel
theorem dX9_findItems_226 : decode cX9_findItems 226 = .ok (.aload_n 0, 1) := by decide +kernel
theorem dX9_findItems_227 : decode cX9_findItems 227 = .ok (.getfield 41, 3) := by decide +kernel
theorem dX9_findItems_230 : decode cX9_findItems 230 = .ok (.iload_n 3, 1) := by decide +kernel
theorem dX9_findItems_231 : decode cX9_findItems 231 = .ok (.iaload, 1) := by decide +kernel
theorem dX9_findItems_232 : decode cX9_findItems 232 = .ok (.iadd, 1) := by decide +kernel
theorem dX9_findItems_233 : decode cX9_findItems 233 = .ok (.istore 4, 2) := by decide +kernel
theorem dX9_findItems_235 : decode cX9_findItems 235 = .ok (.aload_n 0, 1) := by decide +kernel
theorem dX9_findItems_236 : decode cX9_findItems 236 = .ok (.getfield 44, 3) := by decide +kernel
theorem dX9_findItems_239 : decode cX9_findItems 239 = .ok (.iload 4, 2) := by decide +kernel
theorem dX9_findItems_241 : decode cX9_findItems 241 = .ok (.aload_n 0, 1) := by decide +kernel
theorem dX9_findItems_242 : decode cX9_findItems 242 = .ok (.iload_n 3, 1) := by decide +kernel
theorem dX9_findItems_243 : decode cX9_findItems 243 = .ok (.aload_n 0, 1) := by decide +kernel
theorem dX9_findItems_244 : decode cX9_findItems 244 = .ok (.iload_n 1, 1) := by decide +kernel
theorem dX9_findItems_245 : decode cX9_findItems 245 = .ok (.iload_n 2, 1) := by decide +kernel
theorem dX9_findItems_246 : decode cX9_findItems 246 = .ok (.iload_n 3, 1) := by decide +kernel
theorem dX9_findItems_247 : decode cX9_findItems 247 = .ok (.invokevirtual 114, 3) := by decide +kernel
theorem dX9_findItems_250 : decode cX9_findItems 250 = .ok (.invokevirtual 118, 3) := by decide +kernel
theorem dX9_findItems_253 : decode cX9_findItems 253 = .ok (.iastore, 1) := by decide +kernel
theorem dX9_findItems_254 : decode cX9_findItems 254 = .ok (.aload_n 0, 1) := by decide +kernel
theorem dX9_findItems_255 : decode cX9_findItems 255 = .ok (.getfield 47, 3) := by decide +kernel
theorem dX9_findItems_258 : decode cX9_findItems 258 = .ok (.iload 4, 2) := by decide +kernel
theorem dX9_findItems_260 : decode cX9_findItems 260 = .ok (.aload_n 0, 1) := by decide +kernel
theorem dX9_findItems_261 : decode cX9_findItems 261 = .ok (.iload_n 3, 1) := by decide +kernel
theorem dX9_findItems_262 : decode cX9_findItems 262 = .ok (.iconst 1, 1) := by decide +kernel
theorem dX9_findItems_263 : decode cX9_findItems 263 = .ok (.iadd, 1) := by decide +kernel
theorem dX9_findItems_264 : decode cX9_findItems 264 = .ok (.aload_n 0, 1) := by decide +kernel
theorem dX9_findItems_265 : decode cX9_findItems 265 = .ok (.iload_n 1, 1) := by decide +kernel
theorem dX9_findItems_266 : decode cX9_findItems 266 = .ok (.iload_n 2, 1) := by decide +kernel
theorem dX9_findItems_267 : decode cX9_findItems 267 = .ok (.iload_n 3, 1) := by decide +kernel
theorem dX9_findItems_268 : decode cX9_findItems 268 = .ok (.iconst 1, 1) := by decide +kernel
theorem dX9_findItems_269 : decode cX9_findItems 269 = .ok (.iadd, 1) := by decide +kernel
theorem dX9_findItems_270 : decode cX9_findItems 270 = .ok (.invokevirtual 114, 3) := by decide +kernel
theorem dX9_findItems_273 : decode cX9_findItems 273 = .ok (.invokevirtual 118, 3) := by decide +kernel
theorem dX9_findItems_276 : decode cX9_findItems 276 = .ok (.iastore, 1) := by decide +kernel
theorem dX9_findItems_277 : decode cX9_findItems 277 = .ok (.aload_n 0, 1) := by decide +kernel
theorem dX9_findItems_278 : decode cX9_findItems 278 = .ok (.getfield 50, 3) := by decide +kernel
theorem dX9_findItems_281 : decode cX9_findItems 281 = .ok (.iload 4, 2) := by decide +kernel
theorem dX9_findItems_283 : decode cX9_findItems 283 = .ok (.aload_n 0, 1) := by decide +kernel
theorem dX9_findItems_284 : decode cX9_findItems 284 = .ok (.getfield 7, 3) := by decide +kernel
theorem dX9_findItems_287 : decode cX9_findItems 287 = .ok (.bipush 10, 2) := by decide +kernel
theorem dX9_findItems_289 : decode cX9_findItems 289 = .ok (.iload_n 1, 1) := by decide +kernel
theorem dX9_findItems_290 : decode cX9_findItems 290 = .ok (.imul, 1) := by decide +kernel
theorem dX9_findItems_291 : decode cX9_findItems 291 = .ok (.iload_n 2, 1) := by decide +kernel
theorem dX9_findItems_292 : decode cX9_findItems 292 = .ok (.iadd, 1) := by decide +kernel
theorem dX9_findItems_293 : decode cX9_findItems 293 = .ok (.iaload, 1) := by decide +kernel
theorem dX9_findItems_294 : decode cX9_findItems 294 = .ok (.iastore, 1) := by decide +kernel
theorem dX9_findItems_295 : decode cX9_findItems 295 = .ok (.aload_n 0, 1) := by decide +kernel
theorem dX9_findItems_296 : decode cX9_findItems 296 = .ok (.getfield 41, 3) := by decide +kernel
theorem dX9_findItems_299 : decode cX9_findItems 299 = .ok (.iload_n 3, 1) := by decide +kernel
theorem dX9_findItems_300 : decode cX9_findItems 300 = .ok (.aload_n 0, 1) := by decide +kernel
theorem dX9_findItems_301 : decode cX9_findItems 301 = .ok (.getfield 41, 3) := by decide +kernel
theorem dX9_findItems_304 : decode cX9_findItems 304 = .ok (.iload_n 3, 1) := by decide +kernel
theorem dX9_findItems_305 : decode cX9_findItems 305 = .ok (.iaload, 1) := by decide +kernel
theorem dX9_findItems_306 : decode cX9_findItems 306 = .ok (.iconst 1, 1) := by decide +kernel
theorem dX9_findItems_307 : decode cX9_findItems 307 = .ok (.iadd, 1) := by decide +kernel
theorem dX9_findItems_308 : decode cX9_findItems 308 = .ok (.iastore, 1) := by decide +kernel
theorem dX9_findItems_309 : decode cX9_findItems 309 = .ok (.iinc 3 1, 3) := by decide +kernel
theorem dX9_findItems_312 : decode cX9_findItems 312 = .ok (.goto (-100), 3) := by decide +kernel
theorem dX9_findItems_315 : decode cX9_findItems 315 = .ok (.iinc 2 1, 3) := by decide +kernel
theorem dX9_findItems_318 : decode cX9_findItems 318 = .ok (.goto (-131), 3) := by decide +kernel
theorem dX9_findItems_321 : decode cX9_findItems 321 = .ok (.iinc 1 1, 3) := by decide +kernel
theorem dX9_findItems_324 : decode cX9_findItems 324 = .ok (.goto (-145), 3) := by decide +kernel
theorem dX9_findItems_327 : decode cX9_findItems 327 = .ok (.return_, 1) := by decide +kernel
theorem dX9_factorial_0 : decode cX9_factorial 0 = .ok (.iconst 1, 1) := by decide +kernel
theorem dX9_factorial_1 : decode cX9_factorial 1 = .ok (.istore_n 2, 1) := by decide +kernel
theorem dX9_factorial_2 : decode cX9_factorial 2 = .ok (.iconst 2, 1) := by decide +kernel
theorem dX9_factorial_3 : decode cX9_factorial 3 = .ok (.istore_n 3, 1) := by decide +kernel
theorem dX9_factorial_4 : decode cX9_factorial 4 = .ok (.iload_n 3, 1) := by decide +kernel
theorem dX9_factorial_5 : decode cX9_factorial 5 = .ok (.iload_n 1, 1) := by decide +kernel
theorem dX9_factorial_6 : decode cX9_factorial 6 = .ok (.if_icmp .gt 13, 3) := by decide +kernel
theorem dX9_factorial_9 : decode cX9_factorial 9 = .ok (.iload_n 2, 1) := by decide +kernel
theorem dX9_factorial_10 : decode cX9_factorial 10 = .ok (.iload_n 3, 1) := by decide +kernel
theorem dX9_factorial_11 : decode cX9_factorial 11 = .ok (.imul, 1) := by decide +kernel
theorem dX9_factorial_12 : decode cX9_factorial 12 = .ok (.istore_n 2, 1) := by decide +kernel
theorem dX9_factorial_13 : decode cX9_factorial 13 = .ok (.iinc 3 1, 3) := by decide +kernel
theorem dX9_factorial_16 : decode cX9_factorial 16 = .ok (.goto (-12), 3) := by decide +kernel
theorem dX9_factorial_19 : decode cX9_factorial 19 = .ok (.iload_n 2, 1) := by decide +kernel
theorem dX9_factorial_20 : decode cX9_factorial 20 = .ok (.ireturn, 1) := by decide +kernel
theorem dX9_makeRows_0 : decode cX9_makeRows 0 = .ok (.aload_n 0, 1) := by decide +kernel
theorem dX9_makeRows_1 : decode cX9_makeRows 1 = .ok (.getfield 121, 3) := by decide +kernel
theorem dX9_makeRows_4 : decode cX9_makeRows 4 = .ok (.ifCond .eq 4, 3) := by decide +kernel
theorem dX9_makeRows_7 : decode cX9_makeRows 7 = .ok (.return_, 1) := by decide +kernel
theorem dX9_makeRows_8 : decode cX9_makeRows 8 = .ok (.aload_n 0, 1) := by decide +kernel
theorem dX9_makeRows_9 : decode cX9_makeRows 9 = .ok (.iconst 1, 1) := by decide +kernel
theorem dX9_makeRows_10 : decode cX9_makeRows 10 = .ok (.putfield 121, 3) := by decide +kernel
theorem dX9_makeRows_13 : decode cX9_makeRows 13 = .ok (.iconst 0, 1) := by decide +kernel
theorem dX9_makeRows_14 : decode cX9_makeRows 14 = .ok (.istore_n 1, 1) := by decide +kernel
theorem dX9_makeRows_15 : decode cX9_makeRows 15 = .ok (.iload_n 1, 1) := by decide +kernel
theorem dX9_makeRows_16 : decode cX9_makeRows 16 = .ok (.iconst 5, 1) := by decide +kernel
theorem dX9_makeRows_17 : decode cX9_makeRows 17 = .ok (.if_icmp .gt 141, 3) := by decide +kernel
theorem dX9_makeRows_20 : decode cX9_makeRows 20 = .ok (.iconst 0, 1) := by decide +kernel
theorem dX9_makeRows_21 : decode cX9_makeRows 21 = .ok (.istore_n 2, 1) := by decide +kernel
theorem dX9_makeRows_22 : decode cX9_makeRows 22 = .ok (.iload_n 2, 1) := by decide +kernel
theorem dX9_makeRows_23 : decode cX9_makeRows 23 = .ok (.aload_n 0, 1) := by decide +kernel
theorem dX9_makeRows_24 : decode cX9_makeRows 24 = .ok (.iload_n 1, 1) := by decide +kernel
theorem dX9_makeRows_25 : decode cX9_makeRows 25 = .ok (.invokevirtual 124, 3) := by decide +kernel
theorem dX9_makeRows_28 : decode cX9_makeRows 28 = .ok (.if_icmp .ge 124, 3) := by decide +kernel
theorem dX9_makeRows_31 : decode cX9_makeRows 31 = .ok (.iload_n 2, 1) := by decide +kernel
theorem dX9_makeRows_32 : decode cX9_makeRows 32 = .ok (.istore_n 3, 1) := by decide +kernel
theorem dX9_makeRows_33 : decode cX9_makeRows 33 = .ok (.iconst 0, 1) := by decide +kernel
theorem dX9_makeRows_34 : decode cX9_makeRows 34 = .ok (.istore 4, 2) := by decide +kernel
theorem dX9_makeRows_36 : decode cX9_makeRows 36 = .ok (.iconst 0, 1) := by decide +kernel
theorem dX9_makeRows_37 : decode cX9_makeRows 37 = .ok (.istore 5, 2) := by decide +kernel
theorem dX9_makeRows_39 : decode cX9_makeRows 39 = .ok (.iload 5, 2) := by decide +kernel
theorem dX9_makeRows_41 : decode cX9_makeRows 41 = .ok (.iload_n 1, 1) := by decide +kernel
theorem dX9_makeRows_42 : decode cX9_makeRows 42 = .ok (.if_icmp .ge 104, 3) := by decide +kernel
theorem dX9_makeRows_45 : decode cX9_makeRows 45 = .ok (.aload_n 0, 1) := by decide +kernel
theorem dX9_makeRows_46 : decode cX9_makeRows 46 = .ok (.iload_n 1, 1) := by decide +kernel
theorem dX9_makeRows_47 : decode cX9_makeRows 47 = .ok (.iconst 1, 1) := by decide +kernel
theorem dX9_makeRows_48 : decode cX9_makeRows 48 = .ok (.isub, 1) := by decide +kernel
theorem dX9_makeRows_49 : decode cX9_makeRows 49 = .ok (.iload 5, 2) := by decide +kernel
theorem dX9_makeRows_51 : decode cX9_makeRows 51 = .ok (.isub, 1) := by decide +kernel
theorem dX9_makeRows_52 : decode cX9_makeRows 52 = .ok (.invokevirtual 124, 3) := by decide +kernel
theorem dX9_makeRows_55 : decode cX9_makeRows 55 = .ok (.istore 6, 2) := by decide +kernel
theorem dX9_makeRows_57 : decode cX9_makeRows 57 = .ok (.iload_n 3, 1) := by decide +kernel
theorem dX9_makeRows_58 : decode cX9_makeRows 58 = .ok (.iload 6, 2) := by decide +kernel
theorem dX9_makeRows_60 : decode cX9_makeRows 60 = .ok (.idiv, 1) := by decide +kernel
theorem dX9_makeRows_61 : decode cX9_makeRows 61 = .ok (.istore 7, 2) := by decide +kernel
theorem dX9_makeRows_63 : decode cX9_makeRows 63 = .ok (.iload_n 3, 1) := by decide +kernel
theorem dX9_makeRows_64 : decode cX9_makeRows 64 = .ok (.iload 6, 2) := by decide +kernel
theorem dX9_makeRows_66 : decode cX9_makeRows 66 = .ok (.irem, 1) := by decide +kernel
theorem dX9_makeRows_67 : decode cX9_makeRows 67 = .ok (.istore_n 3, 1) := by decide +kernel
theorem dX9_makeRows_68 : decode cX9_makeRows 68 = .ok (.iconst 0, 1) := by decide +kernel
theorem dX9_makeRows_69 : decode cX9_makeRows 69 = .ok (.istore 8, 2) := by decide +kernel
theorem dX9_makeRows_71 : decode cX9_makeRows 71 = .ok (.iload 4, 2) := by decide +kernel
theorem dX9_makeRows_73 : decode cX9_makeRows 73 = .ok (.iload 8, 2) := by decide +kernel
theorem dX9_makeRows_75 : decode cX9_makeRows 75 = .ok (.ishr, 1) := by decide +kernel
theorem dX9_makeRows_76 : decode cX9_makeRows 76 = .ok (.iconst 1, 1) := by decide +kernel
theorem dX9_makeRows_77 : decode cX9_makeRows 77 = .ok (.iand, 1) := by decide +kernel
theorem dX9_makeRows_78 : decode cX9_makeRows 78 = .ok (.iconst 1, 1) := by decide +kernel
theorem dX9_makeRows_79 : decode cX9_makeRows 79 = .ok (.if_icmp .eq 8, 3) := by decide +kernel
theorem dX9_makeRows_82 : decode cX9_makeRows 82 = .ok (.iload 7, 2) := by decide +kernel
theorem dX9_makeRows_84 : decode cX9_makeRows 84 = .ok (.ifCond .le 28, 3) := by decide +kernel
theorem dX9_makeRows_87 : decode cX9_makeRows 87 = .ok (.iload 4, 2) := by decide +kernel
theorem dX9_makeRows_89 : decode cX9_makeRows 89 = .ok (.iload 8, 2) := by decide +kernel
theorem dX9_makeRows_91 : decode cX9_makeRows 91 = .ok (.ishr, 1) := by decide +kernel
theorem dX9_makeRows_92 : decode cX9_makeRows 92 = .ok (.iconst 1, 1) := by decide +kernel
theorem dX9_makeRows_93 : decode cX9_makeRows 93 = .ok (.iand, 1) := by decide +kernel
theorem dX9_makeRows_94 : decode cX9_makeRows 94 = .ok (.ifCond .ne 9, 3) := by decide +kernel
theorem dX9_makeRows_97 : decode cX9_makeRows 97 = .ok (.iload 7, 2) := by decide +kernel
theorem dX9_makeRows_99 : decode cX9_makeRows 99 = .ok (.iconst 1, 1) := by decide +kernel
theorem dX9_makeRows_100 : decode cX9_makeRows 100 = .ok (.isub, 1) := by decide +kernel
theorem dX9_makeRows_101 : decode cX9_makeRows 101 = .ok (.istore 7, 2) := by decide +kernel
theorem dX9_makeRows_103 : decode cX9_makeRows 103 = .ok (.iload 8, 2) := by decide +kernel
theorem dX9_makeRows_105 : decode cX9_makeRows 105 = .ok (.iconst 1, 1) := by decide +kernel
theorem dX9_makeRows_106 : decode cX9_makeRows 106 = .ok (.iadd, 1) := by decide +kernel
theorem dX9_makeRows_107 : decode cX9_makeRows 107 = .ok (.istore 8, 2) := by decide +kernel
theorem dX9_makeRows_109 : decode cX9_makeRows 109 = .ok (.goto (-38), 3) := by decide +kernel
theorem dX9_makeRows_112 : decode cX9_makeRows 112 = .ok (.iload 4, 2) := by decide +kernel
theorem dX9_makeRows_114 : decode cX9_makeRows 114 = .ok (.iconst 1, 1) := by decide +kernel
theorem dX9_makeRows_115 : decode cX9_makeRows 115 = .ok (.iload 8, 2) := by decide +kernel
theorem dX9_makeRows_117 : decode cX9_makeRows 117 = .ok (.ishl, 1) := by decide +kernel
theorem dX9_makeRows_118 : decode cX9_makeRows 118 = .ok (.ior, 1) := by decide +kernel
theorem dX9_makeRows_119 : decode cX9_makeRows 119 = .ok (.istore 4, 2) := by decide +kernel
theorem dX9_makeRows_121 : decode cX9_makeRows 121 = .ok (.aload_n 0, 1) := by decide +kernel
theorem dX9_makeRows_122 : decode cX9_makeRows 122 = .ok (.getfield 53, 3) := by decide +kernel
theorem dX9_makeRows_125 : decode cX9_makeRows 125 = .ok (.sipush 600, 3) := by decide +kernel
theorem dX9_makeRows_128 : decode cX9_makeRows 128 = .ok (.iload_n 1, 1) := by decide +kernel
theorem dX9_makeRows_129 : decode cX9_makeRows 129 = .ok (.imul, 1) := by decide +kernel
theorem dX9_makeRows_130 : decode cX9_makeRows 130 = .ok (.iconst 5, 1) := by decide +kernel
theorem dX9_makeRows_131 : decode cX9_makeRows 131 = .ok (.iload_n 2, 1) := by decide +kernel
theorem dX9_makeRows_132 : decode cX9_makeRows 132 = .ok (.imul, 1) := by decide +kernel
theorem dX9_makeRows_133 : decode cX9_makeRows 133 = .ok (.iadd, 1) := by decide +kernel
theorem dX9_makeRows_134 : decode cX9_makeRows 134 = .ok (.iload 8, 2) := by decide +kernel
theorem dX9_makeRows_136 : decode cX9_makeRows 136 = .ok (.iadd, 1) := by decide +kernel
theorem dX9_makeRows_137 : decode cX9_makeRows 137 = .ok (.iload 5, 2) := by decide +kernel
theorem dX9_makeRows_139 : decode cX9_makeRows 139 = .ok (.iastore, 1) := by decide +kernel
theorem dX9_makeRows_140 : decode cX9_makeRows 140 = .ok (.iinc 5 1, 3) := by decide +kernel
theorem dX9_makeRows_143 : decode cX9_makeRows 143 = .ok (.goto (-104), 3) := by decide +kernel
theorem dX9_makeRows_146 : decode cX9_makeRows 146 = .ok (.iinc 2 1, 3) := by decide +kernel
theorem dX9_makeRows_149 : decode cX9_makeRows 149 = .ok (.goto (-127), 3) := by decide +kernel
theorem dX9_makeRows_152 : decode cX9_makeRows 152 = .ok (.iinc 1 1, 3) := by decide +kernel
theorem dX9_makeRows_155 : decode cX9_makeRows 155 = .ok (.goto (-140), 3) := by decide +kernel
theorem dX9_makeRows_158 : decode cX9_makeRows 158 = .ok (.return_, 1) := by decide +kernel
theorem dX9_standOf_0 : decode cX9_standOf 0 = .ok (.aload_n 0, 1) := by decide +kernel
theorem dX9_standOf_1 : decode cX9_standOf 1 = .ok (.getfield 53, 3) := by decide +kernel
theorem dX9_standOf_4 : decode cX9_standOf 4 = .ok (.sipush 600, 3) := by decide +kernel
theorem dX9_standOf_7 : decode cX9_standOf 7 = .ok (.aload_n 0, 1) := by decide +kernel
theorem dX9_standOf_8 : decode cX9_standOf 8 = .ok (.getfield 35, 3) := by decide +kernel
theorem dX9_standOf_11 : decode cX9_standOf 11 = .ok (.iload_n 1, 1) := by decide +kernel
theorem dX9_standOf_12 : decode cX9_standOf 12 = .ok (.iaload, 1) := by decide +kernel
theorem dX9_standOf_13 : decode cX9_standOf 13 = .ok (.imul, 1) := by decide +kernel
theorem dX9_standOf_14 : decode cX9_standOf 14 = .ok (.iconst 5, 1) := by decide +kernel
theorem dX9_standOf_15 : decode cX9_standOf 15 = .ok (.iload_n 2, 1) := by decide +kernel
theorem dX9_standOf_16 : decode cX9_standOf 16 = .ok (.imul, 1) := by decide +kernel
theorem dX9_standOf_17 : decode cX9_standOf 17 = .ok (.iadd, 1) := by decide +kernel
theorem dX9_standOf_18 : decode cX9_standOf 18 = .ok (.iload_n 3, 1) := by decide +kernel
theorem dX9_standOf_19 : decode cX9_standOf 19 = .ok (.iadd, 1) := by decide +kernel
theorem dX9_standOf_20 : decode cX9_standOf 20 = .ok (.iaload, 1) := by decide +kernel
theorem dX9_standOf_21 : decode cX9_standOf 21 = .ok (.ireturn, 1) := by decide +kernel
theorem dX9_crosses_0 : decode cX9_crosses 0 = .ok (.iconst 0, 1) := by decide +kernel
theorem dX9_crosses_1 : decode cX9_crosses 1 = .ok (.istore 4, 2) := by decide +kernel
theorem dX9_crosses_3 : decode cX9_crosses 3 = .ok (.aload_n 0, 1) := by decide +kernel
theorem dX9_crosses_4 : decode cX9_crosses 4 = .ok (.iconst 0, 1) := by decide +kernel
theorem dX9_crosses_5 : decode cX9_crosses 5 = .ok (.putfield 128, 3) := by decide +kernel
theorem dX9_crosses_8 : decode cX9_crosses 8 = .ok (.bipush 16, 2) := by decide +kernel
theorem dX9_crosses_10 : decode cX9_crosses 10 = .ok (.iload_n 1, 1) := by decide +kernel
theorem dX9_crosses_11 : decode cX9_crosses 11 = .ok (.imul, 1) := by decide +kernel
theorem dX9_crosses_12 : decode cX9_crosses 12 = .ok (.istore 5, 2) := by decide +kernel
theorem dX9_crosses_14 : decode cX9_crosses 14 = .ok (.iload 5, 2) := by decide +kernel
theorem dX9_crosses_16 : decode cX9_crosses 16 = .ok (.bipush 16, 2) := by decide +kernel
theorem dX9_crosses_18 : decode cX9_crosses 18 = .ok (.iload_n 1, 1) := by decide +kernel
theorem dX9_crosses_19 : decode cX9_crosses 19 = .ok (.imul, 1) := by decide +kernel
theorem dX9_crosses_20 : decode cX9_crosses 20 = .ok (.aload_n 0, 1) := by decide +kernel
theorem dX9_crosses_21 : decode cX9_crosses 21 = .ok (.getfield 41, 3) := by decide +kernel
theorem dX9_crosses_24 : decode cX9_crosses 24 = .ok (.iload_n 1, 1) := by decide +kernel
theorem dX9_crosses_25 : decode cX9_crosses 25 = .ok (.iaload, 1) := by decide +kernel
theorem dX9_crosses_26 : decode cX9_crosses 26 = .ok (.iadd, 1) := by decide +kernel
theorem dX9_crosses_27 : decode cX9_crosses 27 = .ok (.if_icmp .ge 144, 3) := by decide +kernel
theorem dX9_crosses_30 : decode cX9_crosses 30 = .ok (.bipush 16, 2) := by decide +kernel
theorem dX9_crosses_32 : decode cX9_crosses 32 = .ok (.iload_n 1, 1) := by decide +kernel
theorem dX9_crosses_33 : decode cX9_crosses 33 = .ok (.imul, 1) := by decide +kernel
theorem dX9_crosses_34 : decode cX9_crosses 34 = .ok (.istore 6, 2) := by decide +kernel
theorem dX9_crosses_36 : decode cX9_crosses 36 = .ok (.iload 6, 2) := by decide +kernel
theorem dX9_crosses_38 : decode cX9_crosses 38 = .ok (.bipush 16, 2) := by decide +kernel
theorem dX9_crosses_40 : decode cX9_crosses 40 = .ok (.iload_n 1, 1) := by decide +kernel
theorem dX9_crosses_41 : decode cX9_crosses 41 = .ok (.imul, 1) := by decide +kernel
theorem dX9_crosses_42 : decode cX9_crosses 42 = .ok (.aload_n 0, 1) := by decide +kernel
theorem dX9_crosses_43 : decode cX9_crosses 43 = .ok (.getfield 41, 3) := by decide +kernel
theorem dX9_crosses_46 : decode cX9_crosses 46 = .ok (.iload_n 1, 1) := by decide +kernel
theorem dX9_crosses_47 : decode cX9_crosses 47 = .ok (.iaload, 1) := by decide +kernel
theorem dX9_crosses_48 : decode cX9_crosses 48 = .ok (.iadd, 1) := by decide +kernel
theorem dX9_crosses_49 : decode cX9_crosses 49 = .ok (.if_icmp .ge 116, 3) := by decide +kernel
theorem dX9_crosses_52 : decode cX9_crosses 52 = .ok (.aload_n 0, 1) := by decide +kernel
theorem dX9_crosses_53 : decode cX9_crosses 53 = .ok (.iload_n 1, 1) := by decide +kernel
theorem dX9_crosses_54 : decode cX9_crosses 54 = .ok (.iload_n 2, 1) := by decide +kernel
theorem dX9_crosses_55 : decode cX9_crosses 55 = .ok (.aload_n 0, 1) := by decide +kernel
theorem dX9_crosses_56 : decode cX9_crosses 56 = .ok (.getfield 44, 3) := by decide +kernel
theorem dX9_crosses_59 : decode cX9_crosses 59 = .ok (.iload 5, 2) := by decide +kernel
theorem dX9_crosses_61 : decode cX9_crosses 61 = .ok (.iaload, 1) := by decide +kernel
theorem dX9_crosses_62 : decode cX9_crosses 62 = .ok (.invokevirtual 131, 3) := by decide +kernel
theorem dX9_crosses_65 : decode cX9_crosses 65 = .ok (.aload_n 0, 1) := by decide +kernel
theorem dX9_crosses_66 : decode cX9_crosses 66 = .ok (.iload_n 1, 1) := by decide +kernel
theorem dX9_crosses_67 : decode cX9_crosses 67 = .ok (.iload_n 2, 1) := by decide +kernel
theorem dX9_crosses_68 : decode cX9_crosses 68 = .ok (.aload_n 0, 1) := by decide +kernel
theorem dX9_crosses_69 : decode cX9_crosses 69 = .ok (.getfield 44, 3) := by decide +kernel
theorem dX9_crosses_72 : decode cX9_crosses 72 = .ok (.iload 6, 2) := by decide +kernel
theorem dX9_crosses_74 : decode cX9_crosses 74 = .ok (.iaload, 1) := by decide +kernel
theorem dX9_crosses_75 : decode cX9_crosses 75 = .ok (.invokevirtual 131, 3) := by decide +kernel
theorem dX9_crosses_78 : decode cX9_crosses 78 = .ok (.if_icmp .ge 40, 3) := by decide +kernel
theorem dX9_crosses_81 : decode cX9_crosses 81 = .ok (.aload_n 0, 1) := by decide +kernel
theorem dX9_crosses_82 : decode cX9_crosses 82 = .ok (.iload_n 1, 1) := by decide +kernel
theorem dX9_crosses_83 : decode cX9_crosses 83 = .ok (.iconst 1, 1) := by decide +kernel
theorem dX9_crosses_84 : decode cX9_crosses 84 = .ok (.iadd, 1) := by decide +kernel
theorem dX9_crosses_85 : decode cX9_crosses 85 = .ok (.iload_n 3, 1) := by decide +kernel
theorem dX9_crosses_86 : decode cX9_crosses 86 = .ok (.aload_n 0, 1) := by decide +kernel
theorem dX9_crosses_87 : decode cX9_crosses 87 = .ok (.getfield 47, 3) := by decide +kernel
theorem dX9_crosses_90 : decode cX9_crosses 90 = .ok (.iload 5, 2) := by decide +kernel
theorem dX9_crosses_92 : decode cX9_crosses 92 = .ok (.iaload, 1) := by decide +kernel
theorem dX9_crosses_93 : decode cX9_crosses 93 = .ok (.invokevirtual 131, 3) := by decide +kernel
theorem dX9_crosses_96 : decode cX9_crosses 96 = .ok (.aload_n 0, 1) := by decide +kernel
theorem dX9_crosses_97 : decode cX9_crosses 97 = .ok (.iload_n 1, 1) := by decide +kernel
theorem dX9_crosses_98 : decode cX9_crosses 98 = .ok (.iconst 1, 1) := by decide +kernel
theorem dX9_crosses_99 : decode cX9_crosses 99 = .ok (.iadd, 1) := by decide +kernel
theorem dX9_crosses_100 : decode cX9_crosses 100 = .ok (.iload_n 3, 1) := by decide +kernel
theorem dX9_crosses_101 : decode cX9_crosses 101 = .ok (.aload_n 0, 1) := by decide +kernel
theorem dX9_crosses_102 : decode cX9_crosses 102 = .ok (.getfield 47, 3) := by decide +kernel
theorem dX9_crosses_105 : decode cX9_crosses 105 = .ok (.iload 6, 2) := by decide +kernel
theorem dX9_crosses_107 : decode cX9_crosses 107 = .ok (.iaload, 1) := by decide +kernel
theorem dX9_crosses_108 : decode cX9_crosses 108 = .ok (.invokevirtual 131, 3) := by decide +kernel
theorem dX9_crosses_111 : decode cX9_crosses 111 = .ok (.if_icmp .le 7, 3) := by decide +kernel
theorem dX9_crosses_114 : decode cX9_crosses 114 = .ok (.iconst 1, 1) := by decide +kernel
theorem dX9_crosses_115 : decode cX9_crosses 115 = .ok (.goto 4, 3) := by decide +kernel
theorem dX9_crosses_118 : decode cX9_crosses 118 = .ok (.iconst 0, 1) := by decide +kernel
theorem dX9_crosses_119 : decode cX9_crosses 119 = .ok (.istore 7, 2) := by decide +kernel
theorem dX9_crosses_121 : decode cX9_crosses 121 = .ok (.iload 7, 2) := by decide +kernel
theorem dX9_crosses_123 : decode cX9_crosses 123 = .ok (.ifCond .ne 6, 3) := by decide +kernel
theorem dX9_crosses_126 : decode cX9_crosses 126 = .ok (.goto 33, 3) := by decide +kernel
theorem dX9_crosses_129 : decode cX9_crosses 129 = .ok (.iload 4, 2) := by decide +kernel
theorem dX9_crosses_131 : decode cX9_crosses 131 = .ok (.aload_n 0, 1) := by decide +kernel
theorem dX9_crosses_132 : decode cX9_crosses 132 = .ok (.getfield 50, 3) := by decide +kernel
theorem dX9_crosses_135 : decode cX9_crosses 135 = .ok (.iload 5, 2) := by decide +kernel
theorem dX9_crosses_137 : decode cX9_crosses 137 = .ok (.iaload, 1) := by decide +kernel
theorem dX9_crosses_138 : decode cX9_crosses 138 = .ok (.aload_n 0, 1) := by decide +kernel
theorem dX9_crosses_139 : decode cX9_crosses 139 = .ok (.getfield 50, 3) := by decide +kernel
theorem dX9_crosses_142 : decode cX9_crosses 142 = .ok (.iload 6, 2) := by decide +kernel
theorem dX9_crosses_144 : decode cX9_crosses 144 = .ok (.iaload, 1) := by decide +kernel
theorem dX9_crosses_145 : decode cX9_crosses 145 = .ok (.imul, 1) := by decide +kernel
theorem dX9_crosses_146 : decode cX9_crosses 146 = .ok (.iadd, 1) := by decide +kernel
theorem dX9_crosses_147 : decode cX9_crosses 147 = .ok (.istore 4, 2) := by decide +kernel
theorem dX9_crosses_149 : decode cX9_crosses 149 = .ok (.aload_n 0, 1) := by decide +kernel
theorem dX9_crosses_150 : decode cX9_crosses 150 = .ok (.aload_n 0, 1) := by decide +kernel
theorem dX9_crosses_151 : decode cX9_crosses 151 = .ok (.getfield 128, 3) := by decide +kernel
theorem dX9_crosses_154 : decode cX9_crosses 154 = .ok (.iconst 1, 1) := by decide +kernel
theorem dX9_crosses_155 : decode cX9_crosses 155 = .ok (.iadd, 1) := by decide +kernel
theorem dX9_crosses_156 : decode cX9_crosses 156 = .ok (.putfield 128, 3) := by decide +kernel
theorem dX9_crosses_159 : decode cX9_crosses 159 = .ok (.iinc 6 1, 3) := by decide +kernel
theorem dX9_crosses_162 : decode cX9_crosses 162 = .ok (.goto (-126), 3) := by decide +kernel
theorem dX9_crosses_165 : decode cX9_crosses 165 = .ok (.iinc 5 1, 3) := by decide +kernel
theorem dX9_crosses_168 : decode cX9_crosses 168 = .ok (.goto (-154), 3) := by decide +kernel
theorem dX9_crosses_171 : decode cX9_crosses 171 = .ok (.iload 4, 2) := by decide +kernel
theorem dX9_crosses_173 : decode cX9_crosses 173 = .ok (.ireturn, 1) := by decide +kernel
theorem dX9_moves_0 : decode cX9_moves 0 = .ok (.iconst 0, 1) := by decide +kernel
theorem dX9_moves_1 : decode cX9_moves 1 = .ok (.istore_n 3, 1) := by decide +kernel
theorem dX9_moves_2 : decode cX9_moves 2 = .ok (.iconst 0, 1) := by decide +kernel
theorem dX9_moves_3 : decode cX9_moves 3 = .ok (.istore 4, 2) := by decide +kernel
theorem dX9_moves_5 : decode cX9_moves 5 = .ok (.iload 4, 2) := by decide +kernel
theorem dX9_moves_7 : decode cX9_moves 7 = .ok (.aload_n 0, 1) := by decide +kernel
theorem dX9_moves_8 : decode cX9_moves 8 = .ok (.getfield 35, 3) := by decide +kernel
theorem dX9_moves_11 : decode cX9_moves 11 = .ok (.iload_n 1, 1) := by decide +kernel
theorem dX9_moves_12 : decode cX9_moves 12 = .ok (.iaload, 1) := by decide +kernel
theorem dX9_moves_13 : decode cX9_moves 13 = .ok (.if_icmp .ge 158, 3) := by decide +kernel
theorem dX9_moves_16 : decode cX9_moves 16 = .ok (.iload 4, 2) := by decide +kernel
theorem dX9_moves_18 : decode cX9_moves 18 = .ok (.iconst 1, 1) := by decide +kernel
theorem dX9_moves_19 : decode cX9_moves 19 = .ok (.iadd, 1) := by decide +kernel
theorem dX9_moves_20 : decode cX9_moves 20 = .ok (.istore 5, 2) := by decide +kernel
theorem dX9_moves_22 : decode cX9_moves 22 = .ok (.iload 5, 2) := by decide +kernel
theorem dX9_moves_24 : decode cX9_moves 24 = .ok (.aload_n 0, 1) := by decide +kernel
theorem dX9_moves_25 : decode cX9_moves 25 = .ok (.getfield 35, 3) := by decide +kernel
theorem dX9_moves_28 : decode cX9_moves 28 = .ok (.iload_n 1, 1) := by decide +kernel
theorem dX9_moves_29 : decode cX9_moves 29 = .ok (.iaload, 1) := by decide +kernel
theorem dX9_moves_30 : decode cX9_moves 30 = .ok (.if_icmp .ge 135, 3) := by decide +kernel
theorem dX9_moves_33 : decode cX9_moves 33 = .ok (.aload_n 0, 1) := by decide +kernel
theorem dX9_moves_34 : decode cX9_moves 34 = .ok (.getfield 38, 3) := by decide +kernel
theorem dX9_moves_37 : decode cX9_moves 37 = .ok (.bipush 30, 2) := by decide +kernel
theorem dX9_moves_39 : decode cX9_moves 39 = .ok (.iload_n 1, 1) := by decide +kernel
theorem dX9_moves_40 : decode cX9_moves 40 = .ok (.imul, 1) := by decide +kernel
theorem dX9_moves_41 : decode cX9_moves 41 = .ok (.iload 4, 2) := by decide +kernel
theorem dX9_moves_43 : decode cX9_moves 43 = .ok (.iadd, 1) := by decide +kernel
theorem dX9_moves_44 : decode cX9_moves 44 = .ok (.iaload, 1) := by decide +kernel
theorem dX9_moves_45 : decode cX9_moves 45 = .ok (.istore 6, 2) := by decide +kernel
theorem dX9_moves_47 : decode cX9_moves 47 = .ok (.aload_n 0, 1) := by decide +kernel
theorem dX9_moves_48 : decode cX9_moves 48 = .ok (.getfield 38, 3) := by decide +kernel
theorem dX9_moves_51 : decode cX9_moves 51 = .ok (.bipush 30, 2) := by decide +kernel
theorem dX9_moves_53 : decode cX9_moves 53 = .ok (.iload_n 1, 1) := by decide +kernel
theorem dX9_moves_54 : decode cX9_moves 54 = .ok (.imul, 1) := by decide +kernel
theorem dX9_moves_55 : decode cX9_moves 55 = .ok (.iload 5, 2) := by decide +kernel
theorem dX9_moves_57 : decode cX9_moves 57 = .ok (.iadd, 1) := by decide +kernel
theorem dX9_moves_58 : decode cX9_moves 58 = .ok (.iaload, 1) := by decide +kernel
theorem dX9_moves_59 : decode cX9_moves 59 = .ok (.istore 7, 2) := by decide +kernel
theorem dX9_moves_61 : decode cX9_moves 61 = .ok (.iload 6, 2) := by decide +kernel
theorem dX9_moves_63 : decode cX9_moves 63 = .ok (.bipush 9, 2) := by decide +kernel
theorem dX9_moves_65 : decode cX9_moves 65 = .ok (.if_icmp .gt 94, 3) := by decide +kernel
theorem dX9_moves_68 : decode cX9_moves 68 = .ok (.iload 7, 2) := by decide +kernel
theorem dX9_moves_70 : decode cX9_moves 70 = .ok (.bipush 9, 2) := by decide +kernel
theorem dX9_moves_72 : decode cX9_moves 72 = .ok (.if_icmp .gt 87, 3) := by decide +kernel
theorem dX9_moves_75 : decode cX9_moves 75 = .ok (.aload_n 0, 1) := by decide +kernel
theorem dX9_moves_76 : decode cX9_moves 76 = .ok (.getfield 17, 3) := by decide +kernel
theorem dX9_moves_79 : decode cX9_moves 79 = .ok (.iload 6, 2) := by decide +kernel
theorem dX9_moves_81 : decode cX9_moves 81 = .ok (.iaload, 1) := by decide +kernel
theorem dX9_moves_82 : decode cX9_moves 82 = .ok (.iconst (-1), 1) := by decide +kernel
theorem dX9_moves_83 : decode cX9_moves 83 = .ok (.if_icmp .eq 76, 3) := by decide +kernel
theorem dX9_moves_86 : decode cX9_moves 86 = .ok (.aload_n 0, 1) := by decide +kernel
theorem dX9_moves_87 : decode cX9_moves 87 = .ok (.getfield 17, 3) := by decide +kernel
theorem dX9_moves_90 : decode cX9_moves 90 = .ok (.iload 6, 2) := by decide +kernel
theorem dX9_moves_92 : decode cX9_moves 92 = .ok (.iaload, 1) := by decide +kernel
theorem dX9_moves_93 : decode cX9_moves 93 = .ok (.aload_n 0, 1) := by decide +kernel
theorem dX9_moves_94 : decode cX9_moves 94 = .ok (.getfield 17, 3) := by decide +kernel
theorem dX9_moves_97 : decode cX9_moves 97 = .ok (.iload 7, 2) := by decide +kernel
theorem dX9_moves_99 : decode cX9_moves 99 = .ok (.iaload, 1) := by decide +kernel
theorem dX9_moves_100 : decode cX9_moves 100 = .ok (.if_icmp .eq 6, 3) := by decide +kernel
theorem dX9_moves_103 : decode cX9_moves 103 = .ok (.goto 56, 3) := by decide +kernel
theorem dX9_moves_106 : decode cX9_moves 106 = .ok (.aload_n 0, 1) := by decide +kernel
theorem dX9_moves_107 : decode cX9_moves 107 = .ok (.iload_n 1, 1) := by decide +kernel
theorem dX9_moves_108 : decode cX9_moves 108 = .ok (.iload_n 2, 1) := by decide +kernel
theorem dX9_moves_109 : decode cX9_moves 109 = .ok (.iload 4, 2) := by decide +kernel
theorem dX9_moves_111 : decode cX9_moves 111 = .ok (.invokevirtual 131, 3) := by decide +kernel
theorem dX9_moves_114 : decode cX9_moves 114 = .ok (.aload_n 0, 1) := by decide +kernel
theorem dX9_moves_115 : decode cX9_moves 115 = .ok (.iload_n 1, 1) := by decide +kernel
theorem dX9_moves_116 : decode cX9_moves 116 = .ok (.iload_n 2, 1) := by decide +kernel
theorem dX9_moves_117 : decode cX9_moves 117 = .ok (.iload 5, 2) := by decide +kernel
theorem dX9_moves_119 : decode cX9_moves 119 = .ok (.invokevirtual 131, 3) := by decide +kernel
theorem dX9_moves_122 : decode cX9_moves 122 = .ok (.if_icmp .ge 7, 3) := by decide +kernel
theorem dX9_moves_125 : decode cX9_moves 125 = .ok (.iconst 1, 1) := by decide +kernel
theorem dX9_moves_126 : decode cX9_moves 126 = .ok (.goto 4, 3) := by decide +kernel
theorem dX9_moves_129 : decode cX9_moves 129 = .ok (.iconst 0, 1) := by decide +kernel
theorem dX9_moves_130 : decode cX9_moves 130 = .ok (.aload_n 0, 1) := by decide +kernel
theorem dX9_moves_131 : decode cX9_moves 131 = .ok (.getfield 20, 3) := by decide +kernel
theorem dX9_moves_134 : decode cX9_moves 134 = .ok (.iload 6, 2) := by decide +kernel
theorem dX9_moves_136 : decode cX9_moves 136 = .ok (.iaload, 1) := by decide +kernel
theorem dX9_moves_137 : decode cX9_moves 137 = .ok (.aload_n 0, 1) := by decide +kernel
theorem dX9_moves_138 : decode cX9_moves 138 = .ok (.getfield 20, 3) := by decide +kernel
theorem dX9_moves_141 : decode cX9_moves 141 = .ok (.iload 7, 2) := by decide +kernel
theorem dX9_moves_143 : decode cX9_moves 143 = .ok (.iaload, 1) := by decide +kernel
theorem dX9_moves_144 : decode cX9_moves 144 = .ok (.if_icmp .ge 7, 3) := by decide +kernel
theorem dX9_moves_147 : decode cX9_moves 147 = .ok (.iconst 1, 1) := by decide +kernel
theorem dX9_moves_148 : decode cX9_moves 148 = .ok (.goto 4, 3) := by decide +kernel
theorem dX9_moves_151 : decode cX9_moves 151 = .ok (.iconst 0, 1) := by decide +kernel
theorem dX9_moves_152 : decode cX9_moves 152 = .ok (.if_icmp .eq 7, 3) := by decide +kernel
theorem dX9_moves_155 : decode cX9_moves 155 = .ok (.iload_n 3, 1) := by decide +kernel
theorem dX9_moves_156 : decode cX9_moves 156 = .ok (.iconst 1, 1) := by decide +kernel
theorem dX9_moves_157 : decode cX9_moves 157 = .ok (.iadd, 1) := by decide +kernel
theorem dX9_moves_158 : decode cX9_moves 158 = .ok (.istore_n 3, 1) := by decide +kernel
theorem dX9_moves_159 : decode cX9_moves 159 = .ok (.iinc 5 1, 3) := by decide +kernel
theorem dX9_moves_162 : decode cX9_moves 162 = .ok (.goto (-140), 3) := by decide +kernel
theorem dX9_moves_165 : decode cX9_moves 165 = .ok (.iinc 4 1, 3) := by decide +kernel
theorem dX9_moves_168 : decode cX9_moves 168 = .ok (.goto (-163), 3) := by decide +kernel
theorem dX9_moves_171 : decode cX9_moves 171 = .ok (.iload_n 3, 1) := by decide +kernel
theorem dX9_moves_172 : decode cX9_moves 172 = .ok (.ireturn, 1) := by decide +kernel
theorem dX9_findOrder_0 : decode cX9_findOrder 0 = .ok (.aload_n 0, 1) := by decide +kernel
theorem dX9_findOrder_1 : decode cX9_findOrder 1 = .ok (.invokevirtual 134, 3) := by decide +kernel
theorem dX9_findOrder_4 : decode cX9_findOrder 4 = .ok (.aload_n 0, 1) := by decide +kernel
theorem dX9_findOrder_5 : decode cX9_findOrder 5 = .ok (.getfield 110, 3) := by decide +kernel
theorem dX9_findOrder_8 : decode cX9_findOrder 8 = .ok (.ifCond .ne 4, 3) := by decide +kernel
theorem dX9_findOrder_11 : decode cX9_findOrder 11 = .ok (.return_, 1) := by decide +kernel
theorem dX9_findOrder_12 : decode cX9_findOrder 12 = .ok (.aload_n 0, 1) := by decide +kernel
theorem dX9_findOrder_13 : decode cX9_findOrder 13 = .ok (.invokevirtual 137, 3) := by decide +kernel
theorem dX9_findOrder_16 : decode cX9_findOrder 16 = .ok (.aload_n 0, 1) := by decide +kernel
theorem dX9_findOrder_17 : decode cX9_findOrder 17 = .ok (.iconst 0, 1) := by decide +kernel
theorem dX9_findOrder_18 : decode cX9_findOrder 18 = .ok (.putfield 140, 3) := by decide +kernel
theorem dX9_findOrder_21 : decode cX9_findOrder 21 = .ok (.aload_n 0, 1) := by decide +kernel
theorem dX9_findOrder_22 : decode cX9_findOrder 22 = .ok (.iconst 1, 1) := by decide +kernel
theorem dX9_findOrder_23 : decode cX9_findOrder 23 = .ok (.putfield 143, 3) := by decide +kernel
theorem dX9_findOrder_26 : decode cX9_findOrder 26 = .ok (.aload_n 0, 1) := by decide +kernel
theorem dX9_findOrder_27 : decode cX9_findOrder 27 = .ok (.getfield 90, 3) := by decide +kernel
theorem dX9_findOrder_30 : decode cX9_findOrder 30 = .ok (.iconst 1, 1) := by decide +kernel
theorem dX9_findOrder_31 : decode cX9_findOrder 31 = .ok (.isub, 1) := by decide +kernel
theorem dX9_findOrder_32 : decode cX9_findOrder 32 = .ok (.istore_n 1, 1) := by decide +kernel
theorem dX9_findOrder_33 : decode cX9_findOrder 33 = .ok (.iload_n 1, 1) := by decide +kernel
theorem dX9_findOrder_34 : decode cX9_findOrder 34 = .ok (.ifCond .lt 200, 3) := by decide +kernel
theorem dX9_findOrder_37 : decode cX9_findOrder 37 = .ok (.iconst 0, 1) := by decide +kernel
theorem dX9_findOrder_38 : decode cX9_findOrder 38 = .ok (.istore_n 2, 1) := by decide +kernel
theorem dX9_findOrder_39 : decode cX9_findOrder 39 = .ok (.iload_n 2, 1) := by decide +kernel
theorem dX9_findOrder_40 : decode cX9_findOrder 40 = .ok (.aload_n 0, 1) := by decide +kernel
theorem dX9_findOrder_41 : decode cX9_findOrder 41 = .ok (.aload_n 0, 1) := by decide +kernel
theorem dX9_findOrder_42 : decode cX9_findOrder 42 = .ok (.getfield 35, 3) := by decide +kernel
theorem dX9_findOrder_45 : decode cX9_findOrder 45 = .ok (.iload_n 1, 1) := by decide +kernel
theorem dX9_findOrder_46 : decode cX9_findOrder 46 = .ok (.iaload, 1) := by decide +kernel
theorem dX9_findOrder_47 : decode cX9_findOrder 47 = .ok (.invokevirtual 124, 3) := by decide +kernel
theorem dX9_findOrder_50 : decode cX9_findOrder 50 = .ok (.if_icmp .ge 178, 3) := by decide +kernel
theorem dX9_findOrder_53 : decode cX9_findOrder 53 = .ok (.iload_n 1, 1) := by decide +kernel
theorem dX9_findOrder_54 : decode cX9_findOrder 54 = .ok (.aload_n 0, 1) := by decide +kernel
theorem dX9_findOrder_55 : decode cX9_findOrder 55 = .ok (.getfield 90, 3) := by decide +kernel
theorem dX9_findOrder_58 : decode cX9_findOrder 58 = .ok (.iconst 1, 1) := by decide +kernel
theorem dX9_findOrder_59 : decode cX9_findOrder 59 = .ok (.isub, 1) := by decide +kernel
theorem dX9_findOrder_60 : decode cX9_findOrder 60 = .ok (.if_icmp .ne 7, 3) := by decide +kernel
theorem dX9_findOrder_63 : decode cX9_findOrder 63 = .ok (.iconst 0, 1) := by decide +kernel
theorem dX9_findOrder_64 : decode cX9_findOrder 64 = .ok (.goto 5, 3) := by decide +kernel
theorem dX9_findOrder_67 : decode cX9_findOrder 67 = .ok (.ldc 82, 2) := by decide +kernel
theorem dX9_findOrder_69 : decode cX9_findOrder 69 = .ok (.istore_n 3, 1) := by decide +kernel
theorem dX9_findOrder_70 : decode cX9_findOrder 70 = .ok (.iload_n 1, 1) := by decide +kernel
theorem dX9_findOrder_71 : decode cX9_findOrder 71 = .ok (.aload_n 0, 1) := by decide +kernel
theorem dX9_findOrder_72 : decode cX9_findOrder 72 = .ok (.getfield 90, 3) := by decide +kernel
theorem dX9_findOrder_75 : decode cX9_findOrder 75 = .ok (.iconst 1, 1) := by decide +kernel
theorem dX9_findOrder_76 : decode cX9_findOrder 76 = .ok (.isub, 1) := by decide +kernel
theorem dX9_findOrder_77 : decode cX9_findOrder 77 = .ok (.if_icmp .ne 7, 3) := by decide +kernel
theorem dX9_findOrder_80 : decode cX9_findOrder 80 = .ok (.iconst 1, 1) := by decide +kernel
theorem dX9_findOrder_81 : decode cX9_findOrder 81 = .ok (.goto 4, 3) := by decide +kernel
theorem dX9_findOrder_84 : decode cX9_findOrder 84 = .ok (.iconst 0, 1) := by decide +kernel
theorem dX9_findOrder_85 : decode cX9_findOrder 85 = .ok (.istore 4, 2) := by decide +kernel
theorem dX9_findOrder_87 : decode cX9_findOrder 87 = .ok (.iconst 0, 1) := by decide +kernel
theorem dX9_findOrder_88 : decode cX9_findOrder 88 = .ok (.istore 5, 2) := by decide +kernel
theorem dX9_findOrder_90 : decode cX9_findOrder 90 = .ok (.iload_n 1, 1) := by decide +kernel
theorem dX9_findOrder_91 : decode cX9_findOrder 91 = .ok (.iconst 1, 1) := by decide +kernel
theorem dX9_findOrder_92 : decode cX9_findOrder 92 = .ok (.iadd, 1) := by decide +kernel
theorem dX9_findOrder_93 : decode cX9_findOrder 93 = .ok (.aload_n 0, 1) := by decide +kernel
theorem dX9_findOrder_94 : decode cX9_findOrder 94 = .ok (.getfield 90, 3) := by decide +kernel
theorem dX9_findOrder_97 : decode cX9_findOrder 97 = .ok (.if_icmp .ge 88, 3) := by decide +kernel
theorem dX9_findOrder_100 : decode cX9_findOrder 100 = .ok (.iload 5, 2) := by decide +kernel
theorem dX9_findOrder_102 : decode cX9_findOrder 102 = .ok (.aload_n 0, 1) := by decide +kernel
theorem dX9_findOrder_103 : decode cX9_findOrder 103 = .ok (.aload_n 0, 1) := by decide +kernel
theorem dX9_findOrder_104 : decode cX9_findOrder 104 = .ok (.getfield 35, 3) := by decide +kernel
theorem dX9_findOrder_107 : decode cX9_findOrder 107 = .ok (.iload_n 1, 1) := by decide +kernel
theorem dX9_findOrder_108 : decode cX9_findOrder 108 = .ok (.iconst 1, 1) := by decide +kernel
theorem dX9_findOrder_109 : decode cX9_findOrder 109 = .ok (.iadd, 1) := by decide +kernel
theorem dX9_findOrder_110 : decode cX9_findOrder 110 = .ok (.iaload, 1) := by decide +kernel
theorem dX9_findOrder_111 : decode cX9_findOrder 111 = .ok (.invokevirtual 124, 3) := by decide +kernel
theorem dX9_findOrder_114 : decode cX9_findOrder 114 = .ok (.if_icmp .ge 71, 3) := by decide +kernel
theorem dX9_findOrder_117 : decode cX9_findOrder 117 = .ok (.aload_n 0, 1) := by decide +kernel
theorem dX9_findOrder_118 : decode cX9_findOrder 118 = .ok (.iload_n 1, 1) := by decide +kernel
theorem dX9_findOrder_119 : decode cX9_findOrder 119 = .ok (.iload_n 2, 1) := by decide +kernel
theorem dX9_findOrder_120 : decode cX9_findOrder 120 = .ok (.iload 5, 2) := by decide +kernel
theorem dX9_findOrder_122 : decode cX9_findOrder 122 = .ok (.invokevirtual 146, 3) := by decide +kernel
theorem dX9_findOrder_125 : decode cX9_findOrder 125 = .ok (.aload_n 0, 1) := by decide +kernel
end
section
theorem dX9_findOrder_126 : decode cX9_findOrder 126 = .ok (.getfield 56, 3) := by decide +kernel
theorem dX9_findOrder_129 : decode cX9_findOrder 129 = .ok (.bipush 120, 2) := by decide +kernel
theorem dX9_findOrder_131 : decode cX9_findOrder 131 = .ok (.iload_n 1, 1) := by decide +kernel
theorem dX9_findOrder_132 : decode cX9_findOrder 132 = .ok (.iconst 1, 1) := by decide +kernel
theorem dX9_findOrder_133 : decode cX9_findOrder 133 = .ok (.iadd, 1) := by decide +kernel
theorem dX9_findOrder_134 : decode cX9_findOrder 134 = .ok (.imul, 1) := by decide +kernel
theorem dX9_findOrder_135 : decode cX9_findOrder 135 = .ok (.iload 5, 2) := by decide +kernel
theorem dX9_findOrder_137 : decode cX9_findOrder 137 = .ok (.iadd, 1) := by decide +kernel
theorem dX9_findOrder_138 : decode cX9_findOrder 138 = .ok (.iaload, 1) := by decide +kernel
theorem dX9_findOrder_139 : decode cX9_findOrder 139 = .ok (.iadd, 1) := by decide +kernel
theorem dX9_findOrder_140 : decode cX9_findOrder 140 = .ok (.istore 6, 2) := by decide +kernel
theorem dX9_findOrder_142 : decode cX9_findOrder 142 = .ok (.iload 6, 2) := by decide +kernel
theorem dX9_findOrder_144 : decode cX9_findOrder 144 = .ok (.iload_n 3, 1) := by decide +kernel
theorem dX9_findOrder_145 : decode cX9_findOrder 145 = .ok (.if_icmp .ge 9, 3) := by decide +kernel
theorem dX9_findOrder_148 : decode cX9_findOrder 148 = .ok (.iload 6, 2) := by decide +kernel
theorem dX9_findOrder_150 : decode cX9_findOrder 150 = .ok (.istore_n 3, 1) := by decide +kernel
theorem dX9_findOrder_151 : decode cX9_findOrder 151 = .ok (.iconst 0, 1) := by decide +kernel
theorem dX9_findOrder_152 : decode cX9_findOrder 152 = .ok (.istore 4, 2) := by decide +kernel
theorem dX9_findOrder_154 : decode cX9_findOrder 154 = .ok (.iload 6, 2) := by decide +kernel
theorem dX9_findOrder_156 : decode cX9_findOrder 156 = .ok (.iload_n 3, 1) := by decide +kernel
theorem dX9_findOrder_157 : decode cX9_findOrder 157 = .ok (.if_icmp .ne 22, 3) := by decide +kernel
theorem dX9_findOrder_160 : decode cX9_findOrder 160 = .ok (.iload 4, 2) := by decide +kernel
theorem dX9_findOrder_162 : decode cX9_findOrder 162 = .ok (.aload_n 0, 1) := by decide +kernel
theorem dX9_findOrder_163 : decode cX9_findOrder 163 = .ok (.getfield 59, 3) := by decide +kernel
theorem dX9_findOrder_166 : decode cX9_findOrder 166 = .ok (.bipush 120, 2) := by decide +kernel
theorem dX9_findOrder_168 : decode cX9_findOrder 168 = .ok (.iload_n 1, 1) := by decide +kernel
theorem dX9_findOrder_169 : decode cX9_findOrder 169 = .ok (.iconst 1, 1) := by decide +kernel
theorem dX9_findOrder_170 : decode cX9_findOrder 170 = .ok (.iadd, 1) := by decide +kernel
theorem dX9_findOrder_171 : decode cX9_findOrder 171 = .ok (.imul, 1) := by decide +kernel
theorem dX9_findOrder_172 : decode cX9_findOrder 172 = .ok (.iload 5, 2) := by decide +kernel
theorem dX9_findOrder_174 : decode cX9_findOrder 174 = .ok (.iadd, 1) := by decide +kernel
theorem dX9_findOrder_175 : decode cX9_findOrder 175 = .ok (.iaload, 1) := by decide +kernel
theorem dX9_findOrder_176 : decode cX9_findOrder 176 = .ok (.iadd, 1) := by decide +kernel
theorem dX9_findOrder_177 : decode cX9_findOrder 177 = .ok (.istore 4, 2) := by decide +kernel
theorem dX9_findOrder_179 : decode cX9_findOrder 179 = .ok (.iinc 5 1, 3) := by decide +kernel
theorem dX9_findOrder_182 : decode cX9_findOrder 182 = .ok (.goto (-92), 3) := by decide +kernel
theorem dX9_findOrder_185 : decode cX9_findOrder 185 = .ok (.aload_n 0, 1) := by decide +kernel
theorem dX9_findOrder_186 : decode cX9_findOrder 186 = .ok (.getfield 56, 3) := by decide +kernel
theorem dX9_findOrder_189 : decode cX9_findOrder 189 = .ok (.bipush 120, 2) := by decide +kernel
theorem dX9_findOrder_191 : decode cX9_findOrder 191 = .ok (.iload_n 1, 1) := by decide +kernel
theorem dX9_findOrder_192 : decode cX9_findOrder 192 = .ok (.imul, 1) := by decide +kernel
theorem dX9_findOrder_193 : decode cX9_findOrder 193 = .ok (.iload_n 2, 1) := by decide +kernel
theorem dX9_findOrder_194 : decode cX9_findOrder 194 = .ok (.iadd, 1) := by decide +kernel
theorem dX9_findOrder_195 : decode cX9_findOrder 195 = .ok (.iload_n 3, 1) := by decide +kernel
theorem dX9_findOrder_196 : decode cX9_findOrder 196 = .ok (.aload_n 0, 1) := by decide +kernel
theorem dX9_findOrder_197 : decode cX9_findOrder 197 = .ok (.getfield 76, 3) := by decide +kernel
theorem dX9_findOrder_200 : decode cX9_findOrder 200 = .ok (.aload_n 0, 1) := by decide +kernel
theorem dX9_findOrder_201 : decode cX9_findOrder 201 = .ok (.iload_n 1, 1) := by decide +kernel
theorem dX9_findOrder_202 : decode cX9_findOrder 202 = .ok (.iload_n 2, 1) := by decide +kernel
theorem dX9_findOrder_203 : decode cX9_findOrder 203 = .ok (.invokevirtual 149, 3) := by decide +kernel
theorem dX9_findOrder_206 : decode cX9_findOrder 206 = .ok (.imul, 1) := by decide +kernel
theorem dX9_findOrder_207 : decode cX9_findOrder 207 = .ok (.iadd, 1) := by decide +kernel
theorem dX9_findOrder_208 : decode cX9_findOrder 208 = .ok (.iastore, 1) := by decide +kernel
theorem dX9_findOrder_209 : decode cX9_findOrder 209 = .ok (.aload_n 0, 1) := by decide +kernel
theorem dX9_findOrder_210 : decode cX9_findOrder 210 = .ok (.getfield 59, 3) := by decide +kernel
theorem dX9_findOrder_213 : decode cX9_findOrder 213 = .ok (.bipush 120, 2) := by decide +kernel
theorem dX9_findOrder_215 : decode cX9_findOrder 215 = .ok (.iload_n 1, 1) := by decide +kernel
theorem dX9_findOrder_216 : decode cX9_findOrder 216 = .ok (.imul, 1) := by decide +kernel
theorem dX9_findOrder_217 : decode cX9_findOrder 217 = .ok (.iload_n 2, 1) := by decide +kernel
theorem dX9_findOrder_218 : decode cX9_findOrder 218 = .ok (.iadd, 1) := by decide +kernel
theorem dX9_findOrder_219 : decode cX9_findOrder 219 = .ok (.iload 4, 2) := by decide +kernel
theorem dX9_findOrder_221 : decode cX9_findOrder 221 = .ok (.iastore, 1) := by decide +kernel
theorem dX9_findOrder_222 : decode cX9_findOrder 222 = .ok (.iinc 2 1, 3) := by decide +kernel
theorem dX9_findOrder_225 : decode cX9_findOrder 225 = .ok (.goto (-186), 3) := by decide +kernel
theorem dX9_findOrder_228 : decode cX9_findOrder 228 = .ok (.iinc 1 (-1), 3) := by decide +kernel
theorem dX9_findOrder_231 : decode cX9_findOrder 231 = .ok (.goto (-198), 3) := by decide +kernel
theorem dX9_findOrder_234 : decode cX9_findOrder 234 = .ok (.aload_n 0, 1) := by decide +kernel
theorem dX9_findOrder_235 : decode cX9_findOrder 235 = .ok (.getfield 90, 3) := by decide +kernel
theorem dX9_findOrder_238 : decode cX9_findOrder 238 = .ok (.ifCond .ne 4, 3) := by decide +kernel
theorem dX9_findOrder_241 : decode cX9_findOrder 241 = .ok (.return_, 1) := by decide +kernel
theorem dX9_findOrder_242 : decode cX9_findOrder 242 = .ok (.aload_n 0, 1) := by decide +kernel
theorem dX9_findOrder_243 : decode cX9_findOrder 243 = .ok (.ldc 82, 2) := by decide +kernel
theorem dX9_findOrder_245 : decode cX9_findOrder 245 = .ok (.putfield 140, 3) := by decide +kernel
theorem dX9_findOrder_248 : decode cX9_findOrder 248 = .ok (.iconst 0, 1) := by decide +kernel
theorem dX9_findOrder_249 : decode cX9_findOrder 249 = .ok (.istore_n 1, 1) := by decide +kernel
theorem dX9_findOrder_250 : decode cX9_findOrder 250 = .ok (.iload_n 1, 1) := by decide +kernel
theorem dX9_findOrder_251 : decode cX9_findOrder 251 = .ok (.aload_n 0, 1) := by decide +kernel
theorem dX9_findOrder_252 : decode cX9_findOrder 252 = .ok (.aload_n 0, 1) := by decide +kernel
theorem dX9_findOrder_253 : decode cX9_findOrder 253 = .ok (.getfield 35, 3) := by decide +kernel
theorem dX9_findOrder_256 : decode cX9_findOrder 256 = .ok (.iconst 0, 1) := by decide +kernel
theorem dX9_findOrder_257 : decode cX9_findOrder 257 = .ok (.iaload, 1) := by decide +kernel
theorem dX9_findOrder_258 : decode cX9_findOrder 258 = .ok (.invokevirtual 124, 3) := by decide +kernel
theorem dX9_findOrder_261 : decode cX9_findOrder 261 = .ok (.if_icmp .ge 65, 3) := by decide +kernel
theorem dX9_findOrder_264 : decode cX9_findOrder 264 = .ok (.aload_n 0, 1) := by decide +kernel
theorem dX9_findOrder_265 : decode cX9_findOrder 265 = .ok (.getfield 56, 3) := by decide +kernel
theorem dX9_findOrder_268 : decode cX9_findOrder 268 = .ok (.iload_n 1, 1) := by decide +kernel
theorem dX9_findOrder_269 : decode cX9_findOrder 269 = .ok (.iaload, 1) := by decide +kernel
theorem dX9_findOrder_270 : decode cX9_findOrder 270 = .ok (.aload_n 0, 1) := by decide +kernel
theorem dX9_findOrder_271 : decode cX9_findOrder 271 = .ok (.getfield 140, 3) := by decide +kernel
theorem dX9_findOrder_274 : decode cX9_findOrder 274 = .ok (.if_icmp .ge 18, 3) := by decide +kernel
theorem dX9_findOrder_277 : decode cX9_findOrder 277 = .ok (.aload_n 0, 1) := by decide +kernel
theorem dX9_findOrder_278 : decode cX9_findOrder 278 = .ok (.aload_n 0, 1) := by decide +kernel
theorem dX9_findOrder_279 : decode cX9_findOrder 279 = .ok (.getfield 56, 3) := by decide +kernel
theorem dX9_findOrder_282 : decode cX9_findOrder 282 = .ok (.iload_n 1, 1) := by decide +kernel
theorem dX9_findOrder_283 : decode cX9_findOrder 283 = .ok (.iaload, 1) := by decide +kernel
theorem dX9_findOrder_284 : decode cX9_findOrder 284 = .ok (.putfield 140, 3) := by decide +kernel
theorem dX9_findOrder_287 : decode cX9_findOrder 287 = .ok (.aload_n 0, 1) := by decide +kernel
theorem dX9_findOrder_288 : decode cX9_findOrder 288 = .ok (.iconst 0, 1) := by decide +kernel
theorem dX9_findOrder_289 : decode cX9_findOrder 289 = .ok (.putfield 143, 3) := by decide +kernel
theorem dX9_findOrder_292 : decode cX9_findOrder 292 = .ok (.aload_n 0, 1) := by decide +kernel
theorem dX9_findOrder_293 : decode cX9_findOrder 293 = .ok (.getfield 56, 3) := by decide +kernel
theorem dX9_findOrder_296 : decode cX9_findOrder 296 = .ok (.iload_n 1, 1) := by decide +kernel
theorem dX9_findOrder_297 : decode cX9_findOrder 297 = .ok (.iaload, 1) := by decide +kernel
theorem dX9_findOrder_298 : decode cX9_findOrder 298 = .ok (.aload_n 0, 1) := by decide +kernel
theorem dX9_findOrder_299 : decode cX9_findOrder 299 = .ok (.getfield 140, 3) := by decide +kernel
theorem dX9_findOrder_302 : decode cX9_findOrder 302 = .ok (.if_icmp .ne 18, 3) := by decide +kernel
theorem dX9_findOrder_305 : decode cX9_findOrder 305 = .ok (.aload_n 0, 1) := by decide +kernel
theorem dX9_findOrder_306 : decode cX9_findOrder 306 = .ok (.aload_n 0, 1) := by decide +kernel
theorem dX9_findOrder_307 : decode cX9_findOrder 307 = .ok (.getfield 143, 3) := by decide +kernel
theorem dX9_findOrder_310 : decode cX9_findOrder 310 = .ok (.aload_n 0, 1) := by decide +kernel
theorem dX9_findOrder_311 : decode cX9_findOrder 311 = .ok (.getfield 59, 3) := by decide +kernel
theorem dX9_findOrder_314 : decode cX9_findOrder 314 = .ok (.iload_n 1, 1) := by decide +kernel
theorem dX9_findOrder_315 : decode cX9_findOrder 315 = .ok (.iaload, 1) := by decide +kernel
theorem dX9_findOrder_316 : decode cX9_findOrder 316 = .ok (.iadd, 1) := by decide +kernel
theorem dX9_findOrder_317 : decode cX9_findOrder 317 = .ok (.putfield 143, 3) := by decide +kernel
theorem dX9_findOrder_320 : decode cX9_findOrder 320 = .ok (.iinc 1 1, 3) := by decide +kernel
theorem dX9_findOrder_323 : decode cX9_findOrder 323 = .ok (.goto (-73), 3) := by decide +kernel
theorem dX9_findOrder_326 : decode cX9_findOrder 326 = .ok (.aload_n 0, 1) := by decide +kernel
theorem dX9_findOrder_327 : decode cX9_findOrder 327 = .ok (.getfield 140, 3) := by decide +kernel
theorem dX9_findOrder_330 : decode cX9_findOrder 330 = .ok (.istore_n 1, 1) := by decide +kernel
theorem dX9_findOrder_331 : decode cX9_findOrder 331 = .ok (.iconst 0, 1) := by decide +kernel
theorem dX9_findOrder_332 : decode cX9_findOrder 332 = .ok (.istore_n 2, 1) := by decide +kernel
theorem dX9_findOrder_333 : decode cX9_findOrder 333 = .ok (.iload_n 2, 1) := by decide +kernel
theorem dX9_findOrder_334 : decode cX9_findOrder 334 = .ok (.aload_n 0, 1) := by decide +kernel
theorem dX9_findOrder_335 : decode cX9_findOrder 335 = .ok (.getfield 90, 3) := by decide +kernel
theorem dX9_findOrder_338 : decode cX9_findOrder 338 = .ok (.if_icmp .ge 89, 3) := by decide +kernel
theorem dX9_findOrder_341 : decode cX9_findOrder 341 = .ok (.iconst 0, 1) := by decide +kernel
theorem dX9_findOrder_342 : decode cX9_findOrder 342 = .ok (.istore_n 3, 1) := by decide +kernel
theorem dX9_findOrder_343 : decode cX9_findOrder 343 = .ok (.iload_n 2, 1) := by decide +kernel
theorem dX9_findOrder_344 : decode cX9_findOrder 344 = .ok (.ifCond .ne 7, 3) := by decide +kernel
theorem dX9_findOrder_347 : decode cX9_findOrder 347 = .ok (.iconst 0, 1) := by decide +kernel
theorem dX9_findOrder_348 : decode cX9_findOrder 348 = .ok (.goto 19, 3) := by decide +kernel
theorem dX9_findOrder_351 : decode cX9_findOrder 351 = .ok (.aload_n 0, 1) := by decide +kernel
theorem dX9_findOrder_352 : decode cX9_findOrder 352 = .ok (.iload_n 2, 1) := by decide +kernel
theorem dX9_findOrder_353 : decode cX9_findOrder 353 = .ok (.iconst 1, 1) := by decide +kernel
theorem dX9_findOrder_354 : decode cX9_findOrder 354 = .ok (.isub, 1) := by decide +kernel
theorem dX9_findOrder_355 : decode cX9_findOrder 355 = .ok (.aload_n 0, 1) := by decide +kernel
theorem dX9_findOrder_356 : decode cX9_findOrder 356 = .ok (.getfield 62, 3) := by decide +kernel
theorem dX9_findOrder_359 : decode cX9_findOrder 359 = .ok (.iload_n 2, 1) := by decide +kernel
theorem dX9_findOrder_360 : decode cX9_findOrder 360 = .ok (.iconst 1, 1) := by decide +kernel
theorem dX9_findOrder_361 : decode cX9_findOrder 361 = .ok (.isub, 1) := by decide +kernel
theorem dX9_findOrder_362 : decode cX9_findOrder 362 = .ok (.iaload, 1) := by decide +kernel
theorem dX9_findOrder_363 : decode cX9_findOrder 363 = .ok (.iload_n 3, 1) := by decide +kernel
theorem dX9_findOrder_364 : decode cX9_findOrder 364 = .ok (.invokevirtual 146, 3) := by decide +kernel
theorem dX9_findOrder_367 : decode cX9_findOrder 367 = .ok (.aload_n 0, 1) := by decide +kernel
theorem dX9_findOrder_368 : decode cX9_findOrder 368 = .ok (.getfield 56, 3) := by decide +kernel
theorem dX9_findOrder_371 : decode cX9_findOrder 371 = .ok (.bipush 120, 2) := by decide +kernel
theorem dX9_findOrder_373 : decode cX9_findOrder 373 = .ok (.iload_n 2, 1) := by decide +kernel
theorem dX9_findOrder_374 : decode cX9_findOrder 374 = .ok (.imul, 1) := by decide +kernel
theorem dX9_findOrder_375 : decode cX9_findOrder 375 = .ok (.iload_n 3, 1) := by decide +kernel
theorem dX9_findOrder_376 : decode cX9_findOrder 376 = .ok (.iadd, 1) := by decide +kernel
theorem dX9_findOrder_377 : decode cX9_findOrder 377 = .ok (.iaload, 1) := by decide +kernel
theorem dX9_findOrder_378 : decode cX9_findOrder 378 = .ok (.iadd, 1) := by decide +kernel
theorem dX9_findOrder_379 : decode cX9_findOrder 379 = .ok (.iload_n 1, 1) := by decide +kernel
theorem dX9_findOrder_380 : decode cX9_findOrder 380 = .ok (.if_icmp .eq 10, 3) := by decide +kernel
theorem dX9_findOrder_383 : decode cX9_findOrder 383 = .ok (.iload_n 3, 1) := by decide +kernel
theorem dX9_findOrder_384 : decode cX9_findOrder 384 = .ok (.iconst 1, 1) := by decide +kernel
theorem dX9_findOrder_385 : decode cX9_findOrder 385 = .ok (.iadd, 1) := by decide +kernel
theorem dX9_findOrder_386 : decode cX9_findOrder 386 = .ok (.istore_n 3, 1) := by decide +kernel
theorem dX9_findOrder_387 : decode cX9_findOrder 387 = .ok (.goto (-44), 3) := by decide +kernel
theorem dX9_findOrder_390 : decode cX9_findOrder 390 = .ok (.aload_n 0, 1) := by decide +kernel
theorem dX9_findOrder_391 : decode cX9_findOrder 391 = .ok (.getfield 62, 3) := by decide +kernel
theorem dX9_findOrder_394 : decode cX9_findOrder 394 = .ok (.iload_n 2, 1) := by decide +kernel
theorem dX9_findOrder_395 : decode cX9_findOrder 395 = .ok (.iload_n 3, 1) := by decide +kernel
theorem dX9_findOrder_396 : decode cX9_findOrder 396 = .ok (.iastore, 1) := by decide +kernel
theorem dX9_findOrder_397 : decode cX9_findOrder 397 = .ok (.aload_n 0, 1) := by decide +kernel
theorem dX9_findOrder_398 : decode cX9_findOrder 398 = .ok (.getfield 56, 3) := by decide +kernel
theorem dX9_findOrder_401 : decode cX9_findOrder 401 = .ok (.bipush 120, 2) := by decide +kernel
theorem dX9_findOrder_403 : decode cX9_findOrder 403 = .ok (.iload_n 2, 1) := by decide +kernel
theorem dX9_findOrder_404 : decode cX9_findOrder 404 = .ok (.imul, 1) := by decide +kernel
theorem dX9_findOrder_405 : decode cX9_findOrder 405 = .ok (.iload_n 3, 1) := by decide +kernel
theorem dX9_findOrder_406 : decode cX9_findOrder 406 = .ok (.iadd, 1) := by decide +kernel
theorem dX9_findOrder_407 : decode cX9_findOrder 407 = .ok (.iaload, 1) := by decide +kernel
theorem dX9_findOrder_408 : decode cX9_findOrder 408 = .ok (.aload_n 0, 1) := by decide +kernel
theorem dX9_findOrder_409 : decode cX9_findOrder 409 = .ok (.getfield 76, 3) := by decide +kernel
theorem dX9_findOrder_412 : decode cX9_findOrder 412 = .ok (.aload_n 0, 1) := by decide +kernel
theorem dX9_findOrder_413 : decode cX9_findOrder 413 = .ok (.iload_n 2, 1) := by decide +kernel
theorem dX9_findOrder_414 : decode cX9_findOrder 414 = .ok (.iload_n 3, 1) := by decide +kernel
theorem dX9_findOrder_415 : decode cX9_findOrder 415 = .ok (.invokevirtual 149, 3) := by decide +kernel
theorem dX9_findOrder_418 : decode cX9_findOrder 418 = .ok (.imul, 1) := by decide +kernel
theorem dX9_findOrder_419 : decode cX9_findOrder 419 = .ok (.isub, 1) := by decide +kernel
theorem dX9_findOrder_420 : decode cX9_findOrder 420 = .ok (.istore_n 1, 1) := by decide +kernel
theorem dX9_findOrder_421 : decode cX9_findOrder 421 = .ok (.iinc 2 1, 3) := by decide +kernel
theorem dX9_findOrder_424 : decode cX9_findOrder 424 = .ok (.goto (-91), 3) := by decide +kernel
theorem dX9_findOrder_427 : decode cX9_findOrder 427 = .ok (.return_, 1) := by decide +kernel
theorem dX9_about_0 : decode cX9_about 0 = .ok (.aload_n 0, 1) := by decide +kernel
theorem dX9_about_1 : decode cX9_about 1 = .ok (.iconst 0, 1) := by decide +kernel
theorem dX9_about_2 : decode cX9_about 2 = .ok (.putfield 65, 3) := by decide +kernel
theorem dX9_about_5 : decode cX9_about 5 = .ok (.aload_n 0, 1) := by decide +kernel
theorem dX9_about_6 : decode cX9_about 6 = .ok (.invokevirtual 97, 3) := by decide +kernel
theorem dX9_about_9 : decode cX9_about 9 = .ok (.iconst 0, 1) := by decide +kernel
theorem dX9_about_10 : decode cX9_about 10 = .ok (.istore_n 2, 1) := by decide +kernel
theorem dX9_about_11 : decode cX9_about 11 = .ok (.iconst 0, 1) := by decide +kernel
theorem dX9_about_12 : decode cX9_about 12 = .ok (.istore_n 3, 1) := by decide +kernel
theorem dX9_about_13 : decode cX9_about 13 = .ok (.iconst 0, 1) := by decide +kernel
theorem dX9_about_14 : decode cX9_about 14 = .ok (.istore 4, 2) := by decide +kernel
theorem dX9_about_16 : decode cX9_about 16 = .ok (.iconst 0, 1) := by decide +kernel
theorem dX9_about_17 : decode cX9_about 17 = .ok (.istore 5, 2) := by decide +kernel
theorem dX9_about_19 : decode cX9_about 19 = .ok (.iconst 0, 1) := by decide +kernel
theorem dX9_about_20 : decode cX9_about 20 = .ok (.istore 6, 2) := by decide +kernel
theorem dX9_about_22 : decode cX9_about 22 = .ok (.iload 6, 2) := by decide +kernel
theorem dX9_about_24 : decode cX9_about 24 = .ok (.bipush 10, 2) := by decide +kernel
theorem dX9_about_26 : decode cX9_about 26 = .ok (.if_icmp .ge 84, 3) := by decide +kernel
theorem dX9_about_29 : decode cX9_about 29 = .ok (.iconst 0, 1) := by decide +kernel
theorem dX9_about_30 : decode cX9_about 30 = .ok (.istore 7, 2) := by decide +kernel
theorem dX9_about_32 : decode cX9_about 32 = .ok (.iload 7, 2) := by decide +kernel
theorem dX9_about_34 : decode cX9_about 34 = .ok (.bipush 10, 2) := by decide +kernel
theorem dX9_about_36 : decode cX9_about 36 = .ok (.if_icmp .ge 68, 3) := by decide +kernel
theorem dX9_about_39 : decode cX9_about 39 = .ok (.aload_n 0, 1) := by decide +kernel
theorem dX9_about_40 : decode cX9_about 40 = .ok (.getfield 7, 3) := by decide +kernel
theorem dX9_about_43 : decode cX9_about 43 = .ok (.bipush 10, 2) := by decide +kernel
theorem dX9_about_45 : decode cX9_about 45 = .ok (.iload 6, 2) := by decide +kernel
theorem dX9_about_47 : decode cX9_about 47 = .ok (.imul, 1) := by decide +kernel
theorem dX9_about_48 : decode cX9_about 48 = .ok (.iload 7, 2) := by decide +kernel
theorem dX9_about_50 : decode cX9_about 50 = .ok (.iadd, 1) := by decide +kernel
theorem dX9_about_51 : decode cX9_about 51 = .ok (.iaload, 1) := by decide +kernel
theorem dX9_about_52 : decode cX9_about 52 = .ok (.istore 8, 2) := by decide +kernel
theorem dX9_about_54 : decode cX9_about 54 = .ok (.iload 8, 2) := by decide +kernel
theorem dX9_about_56 : decode cX9_about 56 = .ok (.ifCond .ne 6, 3) := by decide +kernel
theorem dX9_about_59 : decode cX9_about 59 = .ok (.goto 39, 3) := by decide +kernel
theorem dX9_about_62 : decode cX9_about 62 = .ok (.iload_n 2, 1) := by decide +kernel
theorem dX9_about_63 : decode cX9_about 63 = .ok (.iconst 1, 1) := by decide +kernel
theorem dX9_about_64 : decode cX9_about 64 = .ok (.iadd, 1) := by decide +kernel
theorem dX9_about_65 : decode cX9_about 65 = .ok (.istore_n 2, 1) := by decide +kernel
theorem dX9_about_66 : decode cX9_about 66 = .ok (.iload_n 3, 1) := by decide +kernel
theorem dX9_about_67 : decode cX9_about 67 = .ok (.iload 8, 2) := by decide +kernel
theorem dX9_about_69 : decode cX9_about 69 = .ok (.iadd, 1) := by decide +kernel
theorem dX9_about_70 : decode cX9_about 70 = .ok (.istore_n 3, 1) := by decide +kernel
theorem dX9_about_71 : decode cX9_about 71 = .ok (.aload_n 0, 1) := by decide +kernel
theorem dX9_about_72 : decode cX9_about 72 = .ok (.iload 6, 2) := by decide +kernel
theorem dX9_about_74 : decode cX9_about 74 = .ok (.iload 7, 2) := by decide +kernel
theorem dX9_about_76 : decode cX9_about 76 = .ok (.invokevirtual 93, 3) := by decide +kernel
theorem dX9_about_79 : decode cX9_about 79 = .ok (.ifCond .ne 6, 3) := by decide +kernel
theorem dX9_about_82 : decode cX9_about 82 = .ok (.goto 16, 3) := by decide +kernel
theorem dX9_about_85 : decode cX9_about 85 = .ok (.iload 4, 2) := by decide +kernel
theorem dX9_about_87 : decode cX9_about 87 = .ok (.iconst 1, 1) := by decide +kernel
theorem dX9_about_88 : decode cX9_about 88 = .ok (.iadd, 1) := by decide +kernel
theorem dX9_about_89 : decode cX9_about 89 = .ok (.istore 4, 2) := by decide +kernel
theorem dX9_about_91 : decode cX9_about 91 = .ok (.iload 5, 2) := by decide +kernel
theorem dX9_about_93 : decode cX9_about 93 = .ok (.iload 8, 2) := by decide +kernel
theorem dX9_about_95 : decode cX9_about 95 = .ok (.iadd, 1) := by decide +kernel
theorem dX9_about_96 : decode cX9_about 96 = .ok (.istore 5, 2) := by decide +kernel
theorem dX9_about_98 : decode cX9_about 98 = .ok (.iinc 7 1, 3) := by decide +kernel
theorem dX9_about_101 : decode cX9_about 101 = .ok (.goto (-69), 3) := by decide +kernel
theorem dX9_about_104 : decode cX9_about 104 = .ok (.iinc 6 1, 3) := by decide +kernel
theorem dX9_about_107 : decode cX9_about 107 = .ok (.goto (-85), 3) := by decide +kernel
theorem dX9_about_110 : decode cX9_about 110 = .ok (.iload_n 1, 1) := by decide +kernel
theorem dX9_about_111 : decode cX9_about 111 = .ok (.ifCond .ne 5, 3) := by decide +kernel
theorem dX9_about_114 : decode cX9_about 114 = .ok (.iload_n 2, 1) := by decide +kernel
theorem dX9_about_115 : decode cX9_about 115 = .ok (.ireturn, 1) := by decide +kernel
theorem dX9_about_116 : decode cX9_about 116 = .ok (.iload_n 1, 1) := by decide +kernel
theorem dX9_about_117 : decode cX9_about 117 = .ok (.iconst 1, 1) := by decide +kernel
theorem dX9_about_118 : decode cX9_about 118 = .ok (.if_icmp .ne 5, 3) := by decide +kernel
theorem dX9_about_121 : decode cX9_about 121 = .ok (.iload_n 3, 1) := by decide +kernel
theorem dX9_about_122 : decode cX9_about 122 = .ok (.ireturn, 1) := by decide +kernel
theorem dX9_about_123 : decode cX9_about 123 = .ok (.iload_n 1, 1) := by decide +kernel
theorem dX9_about_124 : decode cX9_about 124 = .ok (.iconst 2, 1) := by decide +kernel
theorem dX9_about_125 : decode cX9_about 125 = .ok (.if_icmp .ne 6, 3) := by decide +kernel
theorem dX9_about_128 : decode cX9_about 128 = .ok (.iload 4, 2) := by decide +kernel
theorem dX9_about_130 : decode cX9_about 130 = .ok (.ireturn, 1) := by decide +kernel
theorem dX9_about_131 : decode cX9_about 131 = .ok (.iload_n 1, 1) := by decide +kernel
theorem dX9_about_132 : decode cX9_about 132 = .ok (.iconst 3, 1) := by decide +kernel
theorem dX9_about_133 : decode cX9_about 133 = .ok (.if_icmp .ne 6, 3) := by decide +kernel
theorem dX9_about_136 : decode cX9_about 136 = .ok (.iload 5, 2) := by decide +kernel
theorem dX9_about_138 : decode cX9_about 138 = .ok (.ireturn, 1) := by decide +kernel
theorem dX9_about_139 : decode cX9_about 139 = .ok (.iload_n 1, 1) := by decide +kernel
theorem dX9_about_140 : decode cX9_about 140 = .ok (.iconst 4, 1) := by decide +kernel
theorem dX9_about_141 : decode cX9_about 141 = .ok (.if_icmp .ne 8, 3) := by decide +kernel
theorem dX9_about_144 : decode cX9_about 144 = .ok (.aload_n 0, 1) := by decide +kernel
theorem dX9_about_145 : decode cX9_about 145 = .ok (.getfield 90, 3) := by decide +kernel
theorem dX9_about_148 : decode cX9_about 148 = .ok (.ireturn, 1) := by decide +kernel
theorem dX9_about_149 : decode cX9_about 149 = .ok (.iload_n 1, 1) := by decide +kernel
theorem dX9_about_150 : decode cX9_about 150 = .ok (.iconst 5, 1) := by decide +kernel
theorem dX9_about_151 : decode cX9_about 151 = .ok (.if_icmp .ne 8, 3) := by decide +kernel
theorem dX9_about_154 : decode cX9_about 154 = .ok (.aload_n 0, 1) := by decide +kernel
theorem dX9_about_155 : decode cX9_about 155 = .ok (.getfield 13, 3) := by decide +kernel
theorem dX9_about_158 : decode cX9_about 158 = .ok (.ireturn, 1) := by decide +kernel
theorem dX9_about_159 : decode cX9_about 159 = .ok (.iload_n 1, 1) := by decide +kernel
theorem dX9_about_160 : decode cX9_about 160 = .ok (.bipush 6, 2) := by decide +kernel
theorem dX9_about_162 : decode cX9_about 162 = .ok (.if_icmp .ne 8, 3) := by decide +kernel
theorem dX9_about_165 : decode cX9_about 165 = .ok (.aload_n 0, 1) := by decide +kernel
theorem dX9_about_166 : decode cX9_about 166 = .ok (.getfield 76, 3) := by decide +kernel
theorem dX9_about_169 : decode cX9_about 169 = .ok (.ireturn, 1) := by decide +kernel
theorem dX9_about_170 : decode cX9_about 170 = .ok (.iload_n 1, 1) := by decide +kernel
theorem dX9_about_171 : decode cX9_about 171 = .ok (.bipush 7, 2) := by decide +kernel
theorem dX9_about_173 : decode cX9_about 173 = .ok (.if_icmp .ne 18, 3) := by decide +kernel
theorem dX9_about_176 : decode cX9_about 176 = .ok (.aload_n 0, 1) := by decide +kernel
theorem dX9_about_177 : decode cX9_about 177 = .ok (.getfield 152, 3) := by decide +kernel
theorem dX9_about_180 : decode cX9_about 180 = .ok (.ifCond .eq 7, 3) := by decide +kernel
theorem dX9_about_183 : decode cX9_about 183 = .ok (.iconst 1, 1) := by decide +kernel
theorem dX9_about_184 : decode cX9_about 184 = .ok (.goto 8, 3) := by decide +kernel
theorem dX9_about_187 : decode cX9_about 187 = .ok (.iconst 0, 1) := by decide +kernel
theorem dX9_about_188 : decode cX9_about 188 = .ok (.goto 4, 3) := by decide +kernel
theorem dX9_about_191 : decode cX9_about 191 = .ok (.iconst (-1), 1) := by decide +kernel
theorem dX9_about_192 : decode cX9_about 192 = .ok (.ireturn, 1) := by decide +kernel
theorem dX9_isFlow_0 : decode cX9_isFlow 0 = .ok (.aload_n 0, 1) := by decide +kernel
theorem dX9_isFlow_1 : decode cX9_isFlow 1 = .ok (.iload_n 1, 1) := by decide +kernel
theorem dX9_isFlow_2 : decode cX9_isFlow 2 = .ok (.invokevirtual 68, 3) := by decide +kernel
theorem dX9_isFlow_5 : decode cX9_isFlow 5 = .ok (.ifCond .eq 29, 3) := by decide +kernel
theorem dX9_isFlow_8 : decode cX9_isFlow 8 = .ok (.aload_n 0, 1) := by decide +kernel
theorem dX9_isFlow_9 : decode cX9_isFlow 9 = .ok (.iload_n 2, 1) := by decide +kernel
theorem dX9_isFlow_10 : decode cX9_isFlow 10 = .ok (.invokevirtual 68, 3) := by decide +kernel
theorem dX9_isFlow_13 : decode cX9_isFlow 13 = .ok (.ifCond .eq 21, 3) := by decide +kernel
theorem dX9_isFlow_16 : decode cX9_isFlow 16 = .ok (.aload_n 0, 1) := by decide +kernel
theorem dX9_isFlow_17 : decode cX9_isFlow 17 = .ok (.getfield 7, 3) := by decide +kernel
theorem dX9_isFlow_20 : decode cX9_isFlow 20 = .ok (.bipush 10, 2) := by decide +kernel
theorem dX9_isFlow_22 : decode cX9_isFlow 22 = .ok (.iload_n 1, 1) := by decide +kernel
theorem dX9_isFlow_23 : decode cX9_isFlow 23 = .ok (.imul, 1) := by decide +kernel
theorem dX9_isFlow_24 : decode cX9_isFlow 24 = .ok (.iload_n 2, 1) := by decide +kernel
theorem dX9_isFlow_25 : decode cX9_isFlow 25 = .ok (.iadd, 1) := by decide +kernel
theorem dX9_isFlow_26 : decode cX9_isFlow 26 = .ok (.iaload, 1) := by decide +kernel
theorem dX9_isFlow_27 : decode cX9_isFlow 27 = .ok (.ifCond .le 7, 3) := by decide +kernel
theorem dX9_isFlow_30 : decode cX9_isFlow 30 = .ok (.iconst 1, 1) := by decide +kernel
theorem dX9_isFlow_31 : decode cX9_isFlow 31 = .ok (.goto 4, 3) := by decide +kernel
theorem dX9_isFlow_34 : decode cX9_isFlow 34 = .ok (.iconst 0, 1) := by decide +kernel
theorem dX9_isFlow_35 : decode cX9_isFlow 35 = .ok (.ireturn, 1) := by decide +kernel
theorem dX9_turned_0 : decode cX9_turned 0 = .ok (.aload_n 0, 1) := by decide +kernel
theorem dX9_turned_1 : decode cX9_turned 1 = .ok (.iconst 0, 1) := by decide +kernel
theorem dX9_turned_2 : decode cX9_turned 2 = .ok (.putfield 65, 3) := by decide +kernel
theorem dX9_turned_5 : decode cX9_turned 5 = .ok (.aload_n 0, 1) := by decide +kernel
theorem dX9_turned_6 : decode cX9_turned 6 = .ok (.invokevirtual 97, 3) := by decide +kernel
theorem dX9_turned_9 : decode cX9_turned 9 = .ok (.aload_n 0, 1) := by decide +kernel
theorem dX9_turned_10 : decode cX9_turned 10 = .ok (.iload_n 1, 1) := by decide +kernel
theorem dX9_turned_11 : decode cX9_turned 11 = .ok (.iload_n 2, 1) := by decide +kernel
theorem dX9_turned_12 : decode cX9_turned 12 = .ok (.invokevirtual 155, 3) := by decide +kernel
theorem dX9_turned_15 : decode cX9_turned 15 = .ok (.ifCond .ne 7, 3) := by decide +kernel
theorem dX9_turned_18 : decode cX9_turned 18 = .ok (.iconst (-1), 1) := by decide +kernel
theorem dX9_turned_19 : decode cX9_turned 19 = .ok (.goto 17, 3) := by decide +kernel
theorem dX9_turned_22 : decode cX9_turned 22 = .ok (.aload_n 0, 1) := by decide +kernel
theorem dX9_turned_23 : decode cX9_turned 23 = .ok (.iload_n 1, 1) := by decide +kernel
theorem dX9_turned_24 : decode cX9_turned 24 = .ok (.iload_n 2, 1) := by decide +kernel
theorem dX9_turned_25 : decode cX9_turned 25 = .ok (.invokevirtual 93, 3) := by decide +kernel
theorem dX9_turned_28 : decode cX9_turned 28 = .ok (.ifCond .eq 7, 3) := by decide +kernel
theorem dX9_turned_31 : decode cX9_turned 31 = .ok (.iconst 1, 1) := by decide +kernel
theorem dX9_turned_32 : decode cX9_turned 32 = .ok (.goto 4, 3) := by decide +kernel
theorem dX9_turned_35 : decode cX9_turned 35 = .ok (.iconst 0, 1) := by decide +kernel
theorem dX9_turned_36 : decode cX9_turned 36 = .ok (.ireturn, 1) := by decide +kernel
theorem dX9_row_0 : decode cX9_row 0 = .ok (.aload_n 0, 1) := by decide +kernel
theorem dX9_row_1 : decode cX9_row 1 = .ok (.iconst 0, 1) := by decide +kernel
theorem dX9_row_2 : decode cX9_row 2 = .ok (.putfield 65, 3) := by decide +kernel
theorem dX9_row_5 : decode cX9_row 5 = .ok (.aload_n 0, 1) := by decide +kernel
theorem dX9_row_6 : decode cX9_row 6 = .ok (.invokevirtual 97, 3) := by decide +kernel
theorem dX9_row_9 : decode cX9_row 9 = .ok (.iload_n 1, 1) := by decide +kernel
theorem dX9_row_10 : decode cX9_row 10 = .ok (.ifCond .lt 20, 3) := by decide +kernel
theorem dX9_row_13 : decode cX9_row 13 = .ok (.iload_n 1, 1) := by decide +kernel
theorem dX9_row_14 : decode cX9_row 14 = .ok (.aload_n 0, 1) := by decide +kernel
theorem dX9_row_15 : decode cX9_row 15 = .ok (.getfield 87, 3) := by decide +kernel
theorem dX9_row_18 : decode cX9_row 18 = .ok (.if_icmp .ge 12, 3) := by decide +kernel
theorem dX9_row_21 : decode cX9_row 21 = .ok (.aload_n 0, 1) := by decide +kernel
theorem dX9_row_22 : decode cX9_row 22 = .ok (.getfield 23, 3) := by decide +kernel
theorem dX9_row_25 : decode cX9_row 25 = .ok (.iload_n 1, 1) := by decide +kernel
theorem dX9_row_26 : decode cX9_row 26 = .ok (.iaload, 1) := by decide +kernel
theorem dX9_row_27 : decode cX9_row 27 = .ok (.goto 4, 3) := by decide +kernel
theorem dX9_row_30 : decode cX9_row 30 = .ok (.iconst (-1), 1) := by decide +kernel
theorem dX9_row_31 : decode cX9_row 31 = .ok (.ireturn, 1) := by decide +kernel
theorem dX9_layer_0 : decode cX9_layer 0 = .ok (.aload_n 0, 1) := by decide +kernel
theorem dX9_layer_1 : decode cX9_layer 1 = .ok (.iconst 0, 1) := by decide +kernel
theorem dX9_layer_2 : decode cX9_layer 2 = .ok (.putfield 65, 3) := by decide +kernel
theorem dX9_layer_5 : decode cX9_layer 5 = .ok (.aload_n 0, 1) := by decide +kernel
theorem dX9_layer_6 : decode cX9_layer 6 = .ok (.invokevirtual 97, 3) := by decide +kernel
theorem dX9_layer_9 : decode cX9_layer 9 = .ok (.aload_n 0, 1) := by decide +kernel
theorem dX9_layer_10 : decode cX9_layer 10 = .ok (.iload_n 1, 1) := by decide +kernel
theorem dX9_layer_11 : decode cX9_layer 11 = .ok (.invokevirtual 68, 3) := by decide +kernel
theorem dX9_layer_14 : decode cX9_layer 14 = .ok (.ifCond .eq 20, 3) := by decide +kernel
theorem dX9_layer_17 : decode cX9_layer 17 = .ok (.aload_n 0, 1) := by decide +kernel
theorem dX9_layer_18 : decode cX9_layer 18 = .ok (.iload_n 1, 1) := by decide +kernel
theorem dX9_layer_19 : decode cX9_layer 19 = .ok (.invokevirtual 100, 3) := by decide +kernel
theorem dX9_layer_22 : decode cX9_layer 22 = .ok (.ifCond .eq 12, 3) := by decide +kernel
theorem dX9_layer_25 : decode cX9_layer 25 = .ok (.aload_n 0, 1) := by decide +kernel
theorem dX9_layer_26 : decode cX9_layer 26 = .ok (.getfield 29, 3) := by decide +kernel
theorem dX9_layer_29 : decode cX9_layer 29 = .ok (.iload_n 1, 1) := by decide +kernel
theorem dX9_layer_30 : decode cX9_layer 30 = .ok (.iaload, 1) := by decide +kernel
theorem dX9_layer_31 : decode cX9_layer 31 = .ok (.goto 4, 3) := by decide +kernel
theorem dX9_layer_34 : decode cX9_layer 34 = .ok (.iconst (-1), 1) := by decide +kernel
theorem dX9_layer_35 : decode cX9_layer 35 = .ok (.ireturn, 1) := by decide +kernel
theorem dX9_rest_0 : decode cX9_rest 0 = .ok (.aload_n 0, 1) := by decide +kernel
theorem dX9_rest_1 : decode cX9_rest 1 = .ok (.iconst 0, 1) := by decide +kernel
theorem dX9_rest_2 : decode cX9_rest 2 = .ok (.putfield 65, 3) := by decide +kernel
theorem dX9_rest_5 : decode cX9_rest 5 = .ok (.aload_n 0, 1) := by decide +kernel
theorem dX9_rest_6 : decode cX9_rest 6 = .ok (.iload_n 1, 1) := by decide +kernel
theorem dX9_rest_7 : decode cX9_rest 7 = .ok (.invokevirtual 68, 3) := by decide +kernel
theorem dX9_rest_10 : decode cX9_rest 10 = .ok (.ifCond .ne 7, 3) := by decide +kernel
theorem dX9_rest_13 : decode cX9_rest 13 = .ok (.sipush (-10000), 3) := by decide +kernel
theorem dX9_rest_16 : decode cX9_rest 16 = .ok (.ireturn, 1) := by decide +kernel
theorem dX9_rest_17 : decode cX9_rest 17 = .ok (.iconst 0, 1) := by decide +kernel
theorem dX9_rest_18 : decode cX9_rest 18 = .ok (.istore_n 2, 1) := by decide +kernel
theorem dX9_rest_19 : decode cX9_rest 19 = .ok (.iconst 0, 1) := by decide +kernel
theorem dX9_rest_20 : decode cX9_rest 20 = .ok (.istore_n 3, 1) := by decide +kernel
theorem dX9_rest_21 : decode cX9_rest 21 = .ok (.iload_n 3, 1) := by decide +kernel
theorem dX9_rest_22 : decode cX9_rest 22 = .ok (.bipush 10, 2) := by decide +kernel
theorem dX9_rest_24 : decode cX9_rest 24 = .ok (.if_icmp .ge 35, 3) := by decide +kernel
theorem dX9_rest_27 : decode cX9_rest 27 = .ok (.iload_n 2, 1) := by decide +kernel
theorem dX9_rest_28 : decode cX9_rest 28 = .ok (.aload_n 0, 1) := by decide +kernel
theorem dX9_rest_29 : decode cX9_rest 29 = .ok (.getfield 7, 3) := by decide +kernel
theorem dX9_rest_32 : decode cX9_rest 32 = .ok (.bipush 10, 2) := by decide +kernel
theorem dX9_rest_34 : decode cX9_rest 34 = .ok (.iload_n 3, 1) := by decide +kernel
theorem dX9_rest_35 : decode cX9_rest 35 = .ok (.imul, 1) := by decide +kernel
theorem dX9_rest_36 : decode cX9_rest 36 = .ok (.iload_n 1, 1) := by decide +kernel
theorem dX9_rest_37 : decode cX9_rest 37 = .ok (.iadd, 1) := by decide +kernel
theorem dX9_rest_38 : decode cX9_rest 38 = .ok (.iaload, 1) := by decide +kernel
theorem dX9_rest_39 : decode cX9_rest 39 = .ok (.iadd, 1) := by decide +kernel
theorem dX9_rest_40 : decode cX9_rest 40 = .ok (.aload_n 0, 1) := by decide +kernel
theorem dX9_rest_41 : decode cX9_rest 41 = .ok (.getfield 7, 3) := by decide +kernel
theorem dX9_rest_44 : decode cX9_rest 44 = .ok (.bipush 10, 2) := by decide +kernel
theorem dX9_rest_46 : decode cX9_rest 46 = .ok (.iload_n 1, 1) := by decide +kernel
theorem dX9_rest_47 : decode cX9_rest 47 = .ok (.imul, 1) := by decide +kernel
theorem dX9_rest_48 : decode cX9_rest 48 = .ok (.iload_n 3, 1) := by decide +kernel
theorem dX9_rest_49 : decode cX9_rest 49 = .ok (.iadd, 1) := by decide +kernel
theorem dX9_rest_50 : decode cX9_rest 50 = .ok (.iaload, 1) := by decide +kernel
theorem dX9_rest_51 : decode cX9_rest 51 = .ok (.isub, 1) := by decide +kernel
theorem dX9_rest_52 : decode cX9_rest 52 = .ok (.istore_n 2, 1) := by decide +kernel
theorem dX9_rest_53 : decode cX9_rest 53 = .ok (.iinc 3 1, 3) := by decide +kernel
theorem dX9_rest_56 : decode cX9_rest 56 = .ok (.goto (-35), 3) := by decide +kernel
theorem dX9_rest_59 : decode cX9_rest 59 = .ok (.iload_n 2, 1) := by decide +kernel
theorem dX9_rest_60 : decode cX9_rest 60 = .ok (.ireturn, 1) := by decide +kernel
theorem dX9_cost_0 : decode cX9_cost 0 = .ok (.aload_n 0, 1) := by decide +kernel
theorem dX9_cost_1 : decode cX9_cost 1 = .ok (.iconst 0, 1) := by decide +kernel
theorem dX9_cost_2 : decode cX9_cost 2 = .ok (.putfield 65, 3) := by decide +kernel
theorem dX9_cost_5 : decode cX9_cost 5 = .ok (.aload_n 0, 1) := by decide +kernel
theorem dX9_cost_6 : decode cX9_cost 6 = .ok (.invokevirtual 158, 3) := by decide +kernel
theorem dX9_cost_9 : decode cX9_cost 9 = .ok (.aload_n 0, 1) := by decide +kernel
theorem dX9_cost_10 : decode cX9_cost 10 = .ok (.getfield 110, 3) := by decide +kernel
theorem dX9_cost_13 : decode cX9_cost 13 = .ok (.ifCond .eq 10, 3) := by decide +kernel
theorem dX9_cost_16 : decode cX9_cost 16 = .ok (.aload_n 0, 1) := by decide +kernel
theorem dX9_cost_17 : decode cX9_cost 17 = .ok (.getfield 140, 3) := by decide +kernel
theorem dX9_cost_20 : decode cX9_cost 20 = .ok (.goto 4, 3) := by decide +kernel
theorem dX9_cost_23 : decode cX9_cost 23 = .ok (.iconst (-1), 1) := by decide +kernel
theorem dX9_cost_24 : decode cX9_cost 24 = .ok (.ireturn, 1) := by decide +kernel
theorem dX9_part_0 : decode cX9_part 0 = .ok (.aload_n 0, 1) := by decide +kernel
theorem dX9_part_1 : decode cX9_part 1 = .ok (.iconst 0, 1) := by decide +kernel
theorem dX9_part_2 : decode cX9_part 2 = .ok (.putfield 65, 3) := by decide +kernel
theorem dX9_part_5 : decode cX9_part 5 = .ok (.aload_n 0, 1) := by decide +kernel
theorem dX9_part_6 : decode cX9_part 6 = .ok (.invokevirtual 158, 3) := by decide +kernel
theorem dX9_part_9 : decode cX9_part 9 = .ok (.aload_n 0, 1) := by decide +kernel
theorem dX9_part_10 : decode cX9_part 10 = .ok (.getfield 110, 3) := by decide +kernel
theorem dX9_part_13 : decode cX9_part 13 = .ok (.ifCond .eq 12, 3) := by decide +kernel
theorem dX9_part_16 : decode cX9_part 16 = .ok (.iload_n 1, 1) := by decide +kernel
theorem dX9_part_17 : decode cX9_part 17 = .ok (.ifCond .lt 8, 3) := by decide +kernel
theorem dX9_part_20 : decode cX9_part 20 = .ok (.iload_n 1, 1) := by decide +kernel
theorem dX9_part_21 : decode cX9_part 21 = .ok (.iconst 2, 1) := by decide +kernel
theorem dX9_part_22 : decode cX9_part 22 = .ok (.if_icmp .le 5, 3) := by decide +kernel
theorem dX9_part_25 : decode cX9_part 25 = .ok (.iconst (-1), 1) := by decide +kernel
theorem dX9_part_26 : decode cX9_part 26 = .ok (.ireturn, 1) := by decide +kernel
theorem dX9_part_27 : decode cX9_part 27 = .ok (.iconst 0, 1) := by decide +kernel
theorem dX9_part_28 : decode cX9_part 28 = .ok (.istore_n 2, 1) := by decide +kernel
theorem dX9_part_29 : decode cX9_part 29 = .ok (.iconst 0, 1) := by decide +kernel
theorem dX9_part_30 : decode cX9_part 30 = .ok (.istore_n 3, 1) := by decide +kernel
theorem dX9_part_31 : decode cX9_part 31 = .ok (.iconst 0, 1) := by decide +kernel
theorem dX9_part_32 : decode cX9_part 32 = .ok (.istore 4, 2) := by decide +kernel
theorem dX9_part_34 : decode cX9_part 34 = .ok (.iconst 0, 1) := by decide +kernel
theorem dX9_part_35 : decode cX9_part 35 = .ok (.istore 5, 2) := by decide +kernel
theorem dX9_part_37 : decode cX9_part 37 = .ok (.iload 5, 2) := by decide +kernel
theorem dX9_part_39 : decode cX9_part 39 = .ok (.aload_n 0, 1) := by decide +kernel
theorem dX9_part_40 : decode cX9_part 40 = .ok (.getfield 90, 3) := by decide +kernel
theorem dX9_part_43 : decode cX9_part 43 = .ok (.if_icmp .ge 73, 3) := by decide +kernel
theorem dX9_part_46 : decode cX9_part 46 = .ok (.iload 4, 2) := by decide +kernel
theorem dX9_part_48 : decode cX9_part 48 = .ok (.aload_n 0, 1) := by decide +kernel
theorem dX9_part_49 : decode cX9_part 49 = .ok (.iload 5, 2) := by decide +kernel
theorem dX9_part_51 : decode cX9_part 51 = .ok (.aload_n 0, 1) := by decide +kernel
theorem dX9_part_52 : decode cX9_part 52 = .ok (.getfield 62, 3) := by decide +kernel
theorem dX9_part_55 : decode cX9_part 55 = .ok (.iload 5, 2) := by decide +kernel
theorem dX9_part_57 : decode cX9_part 57 = .ok (.iaload, 1) := by decide +kernel
theorem dX9_part_58 : decode cX9_part 58 = .ok (.invokevirtual 149, 3) := by decide +kernel
theorem dX9_part_61 : decode cX9_part 61 = .ok (.iadd, 1) := by decide +kernel
theorem dX9_part_62 : decode cX9_part 62 = .ok (.istore 4, 2) := by decide +kernel
theorem dX9_part_64 : decode cX9_part 64 = .ok (.iload 5, 2) := by decide +kernel
theorem dX9_part_66 : decode cX9_part 66 = .ok (.iconst 1, 1) := by decide +kernel
theorem dX9_part_67 : decode cX9_part 67 = .ok (.iadd, 1) := by decide +kernel
theorem dX9_part_68 : decode cX9_part 68 = .ok (.aload_n 0, 1) := by decide +kernel
theorem dX9_part_69 : decode cX9_part 69 = .ok (.getfield 90, 3) := by decide +kernel
theorem dX9_part_72 : decode cX9_part 72 = .ok (.if_icmp .ne 6, 3) := by decide +kernel
theorem dX9_part_75 : decode cX9_part 75 = .ok (.goto 35, 3) := by decide +kernel
theorem dX9_part_78 : decode cX9_part 78 = .ok (.iload_n 2, 1) := by decide +kernel
theorem dX9_part_79 : decode cX9_part 79 = .ok (.aload_n 0, 1) := by decide +kernel
theorem dX9_part_80 : decode cX9_part 80 = .ok (.iload 5, 2) := by decide +kernel
theorem dX9_part_82 : decode cX9_part 82 = .ok (.aload_n 0, 1) := by decide +kernel
theorem dX9_part_83 : decode cX9_part 83 = .ok (.getfield 62, 3) := by decide +kernel
theorem dX9_part_86 : decode cX9_part 86 = .ok (.iload 5, 2) := by decide +kernel
theorem dX9_part_88 : decode cX9_part 88 = .ok (.iaload, 1) := by decide +kernel
theorem dX9_part_89 : decode cX9_part 89 = .ok (.aload_n 0, 1) := by decide +kernel
theorem dX9_part_90 : decode cX9_part 90 = .ok (.getfield 62, 3) := by decide +kernel
theorem dX9_part_93 : decode cX9_part 93 = .ok (.iload 5, 2) := by decide +kernel
theorem dX9_part_95 : decode cX9_part 95 = .ok (.iconst 1, 1) := by decide +kernel
theorem dX9_part_96 : decode cX9_part 96 = .ok (.iadd, 1) := by decide +kernel
theorem dX9_part_97 : decode cX9_part 97 = .ok (.iaload, 1) := by decide +kernel
theorem dX9_part_98 : decode cX9_part 98 = .ok (.invokevirtual 146, 3) := by decide +kernel
theorem dX9_part_101 : decode cX9_part 101 = .ok (.iadd, 1) := by decide +kernel
theorem dX9_part_102 : decode cX9_part 102 = .ok (.istore_n 2, 1) := by decide +kernel
theorem dX9_part_103 : decode cX9_part 103 = .ok (.iload_n 3, 1) := by decide +kernel
theorem dX9_part_104 : decode cX9_part 104 = .ok (.aload_n 0, 1) := by decide +kernel
theorem dX9_part_105 : decode cX9_part 105 = .ok (.getfield 128, 3) := by decide +kernel
theorem dX9_part_108 : decode cX9_part 108 = .ok (.iadd, 1) := by decide +kernel
theorem dX9_part_109 : decode cX9_part 109 = .ok (.istore_n 3, 1) := by decide +kernel
theorem dX9_part_110 : decode cX9_part 110 = .ok (.iinc 5 1, 3) := by decide +kernel
theorem dX9_part_113 : decode cX9_part 113 = .ok (.goto (-76), 3) := by decide +kernel
theorem dX9_part_116 : decode cX9_part 116 = .ok (.iload_n 1, 1) := by decide +kernel
theorem dX9_part_117 : decode cX9_part 117 = .ok (.ifCond .ne 7, 3) := by decide +kernel
theorem dX9_part_120 : decode cX9_part 120 = .ok (.iload_n 2, 1) := by decide +kernel
theorem dX9_part_121 : decode cX9_part 121 = .ok (.goto 14, 3) := by decide +kernel
theorem dX9_part_124 : decode cX9_part 124 = .ok (.iload_n 1, 1) := by decide +kernel
theorem dX9_part_125 : decode cX9_part 125 = .ok (.iconst 1, 1) := by decide +kernel
theorem dX9_part_126 : decode cX9_part 126 = .ok (.if_icmp .ne 7, 3) := by decide +kernel
theorem dX9_part_129 : decode cX9_part 129 = .ok (.iload_n 3, 1) := by decide +kernel
theorem dX9_part_130 : decode cX9_part 130 = .ok (.goto 5, 3) := by decide +kernel
theorem dX9_part_133 : decode cX9_part 133 = .ok (.iload 4, 2) := by decide +kernel
theorem dX9_part_135 : decode cX9_part 135 = .ok (.ireturn, 1) := by decide +kernel
theorem dX9_items_0 : decode cX9_items 0 = .ok (.aload_n 0, 1) := by decide +kernel
theorem dX9_items_1 : decode cX9_items 1 = .ok (.iconst 0, 1) := by decide +kernel
theorem dX9_items_2 : decode cX9_items 2 = .ok (.putfield 65, 3) := by decide +kernel
theorem dX9_items_5 : decode cX9_items 5 = .ok (.aload_n 0, 1) := by decide +kernel
theorem dX9_items_6 : decode cX9_items 6 = .ok (.invokevirtual 134, 3) := by decide +kernel
theorem dX9_items_9 : decode cX9_items 9 = .ok (.iload_n 1, 1) := by decide +kernel
theorem dX9_items_10 : decode cX9_items 10 = .ok (.ifCond .lt 20, 3) := by decide +kernel
theorem dX9_items_13 : decode cX9_items 13 = .ok (.iload_n 1, 1) := by decide +kernel
theorem dX9_items_14 : decode cX9_items 14 = .ok (.aload_n 0, 1) := by decide +kernel
theorem dX9_items_15 : decode cX9_items 15 = .ok (.getfield 90, 3) := by decide +kernel
theorem dX9_items_18 : decode cX9_items 18 = .ok (.if_icmp .ge 12, 3) := by decide +kernel
theorem dX9_items_21 : decode cX9_items 21 = .ok (.aload_n 0, 1) := by decide +kernel
theorem dX9_items_22 : decode cX9_items 22 = .ok (.getfield 35, 3) := by decide +kernel
theorem dX9_items_25 : decode cX9_items 25 = .ok (.iload_n 1, 1) := by decide +kernel
theorem dX9_items_26 : decode cX9_items 26 = .ok (.iaload, 1) := by decide +kernel
theorem dX9_items_27 : decode cX9_items 27 = .ok (.goto 4, 3) := by decide +kernel
theorem dX9_items_30 : decode cX9_items 30 = .ok (.iconst (-1), 1) := by decide +kernel
theorem dX9_items_31 : decode cX9_items 31 = .ok (.ireturn, 1) := by decide +kernel
theorem dX9_itemAt_0 : decode cX9_itemAt 0 = .ok (.iconst 0, 1) := by decide +kernel
theorem dX9_itemAt_1 : decode cX9_itemAt 1 = .ok (.istore_n 3, 1) := by decide +kernel
theorem dX9_itemAt_2 : decode cX9_itemAt 2 = .ok (.aload_n 0, 1) := by decide +kernel
theorem dX9_itemAt_3 : decode cX9_itemAt 3 = .ok (.iload_n 1, 1) := by decide +kernel
theorem dX9_itemAt_4 : decode cX9_itemAt 4 = .ok (.aload_n 0, 1) := by decide +kernel
theorem dX9_itemAt_5 : decode cX9_itemAt 5 = .ok (.getfield 62, 3) := by decide +kernel
theorem dX9_itemAt_8 : decode cX9_itemAt 8 = .ok (.iload_n 1, 1) := by decide +kernel
theorem dX9_itemAt_9 : decode cX9_itemAt 9 = .ok (.iaload, 1) := by decide +kernel
theorem dX9_itemAt_10 : decode cX9_itemAt 10 = .ok (.iload_n 3, 1) := by decide +kernel
theorem dX9_itemAt_11 : decode cX9_itemAt 11 = .ok (.invokevirtual 131, 3) := by decide +kernel
theorem dX9_itemAt_14 : decode cX9_itemAt 14 = .ok (.iload_n 2, 1) := by decide +kernel
theorem dX9_itemAt_15 : decode cX9_itemAt 15 = .ok (.if_icmp .eq 10, 3) := by decide +kernel
theorem dX9_itemAt_18 : decode cX9_itemAt 18 = .ok (.iload_n 3, 1) := by decide +kernel
theorem dX9_itemAt_19 : decode cX9_itemAt 19 = .ok (.iconst 1, 1) := by decide +kernel
theorem dX9_itemAt_20 : decode cX9_itemAt 20 = .ok (.iadd, 1) := by decide +kernel
theorem dX9_itemAt_21 : decode cX9_itemAt 21 = .ok (.istore_n 3, 1) := by decide +kernel
theorem dX9_itemAt_22 : decode cX9_itemAt 22 = .ok (.goto (-20), 3) := by decide +kernel
theorem dX9_itemAt_25 : decode cX9_itemAt 25 = .ok (.iload_n 3, 1) := by decide +kernel
theorem dX9_itemAt_26 : decode cX9_itemAt 26 = .ok (.ireturn, 1) := by decide +kernel
theorem dX9_item_0 : decode cX9_item 0 = .ok (.aload_n 0, 1) := by decide +kernel
theorem dX9_item_1 : decode cX9_item 1 = .ok (.iconst 0, 1) := by decide +kernel
theorem dX9_item_2 : decode cX9_item 2 = .ok (.putfield 65, 3) := by decide +kernel
theorem dX9_item_5 : decode cX9_item 5 = .ok (.aload_n 0, 1) := by decide +kernel
theorem dX9_item_6 : decode cX9_item 6 = .ok (.invokevirtual 158, 3) := by decide +kernel
theorem dX9_item_9 : decode cX9_item 9 = .ok (.aload_n 0, 1) := by decide +kernel
theorem dX9_item_10 : decode cX9_item 10 = .ok (.getfield 110, 3) := by decide +kernel
theorem dX9_item_13 : decode cX9_item 13 = .ok (.ifCond .eq 29, 3) := by decide +kernel
theorem dX9_item_16 : decode cX9_item 16 = .ok (.iload_n 1, 1) := by decide +kernel
theorem dX9_item_17 : decode cX9_item 17 = .ok (.ifCond .lt 25, 3) := by decide +kernel
theorem dX9_item_20 : decode cX9_item 20 = .ok (.iload_n 1, 1) := by decide +kernel
theorem dX9_item_21 : decode cX9_item 21 = .ok (.aload_n 0, 1) := by decide +kernel
theorem dX9_item_22 : decode cX9_item 22 = .ok (.getfield 90, 3) := by decide +kernel
theorem dX9_item_25 : decode cX9_item 25 = .ok (.if_icmp .ge 17, 3) := by decide +kernel
theorem dX9_item_28 : decode cX9_item 28 = .ok (.iload_n 2, 1) := by decide +kernel
theorem dX9_item_29 : decode cX9_item 29 = .ok (.ifCond .lt 13, 3) := by decide +kernel
theorem dX9_item_32 : decode cX9_item 32 = .ok (.iload_n 2, 1) := by decide +kernel
theorem dX9_item_33 : decode cX9_item 33 = .ok (.aload_n 0, 1) := by decide +kernel
theorem dX9_item_34 : decode cX9_item 34 = .ok (.getfield 35, 3) := by decide +kernel
theorem dX9_item_37 : decode cX9_item 37 = .ok (.iload_n 1, 1) := by decide +kernel
theorem dX9_item_38 : decode cX9_item 38 = .ok (.iaload, 1) := by decide +kernel
theorem dX9_item_39 : decode cX9_item 39 = .ok (.if_icmp .lt 7, 3) := by decide +kernel
theorem dX9_item_42 : decode cX9_item 42 = .ok (.iconst (-1), 1) := by decide +kernel
theorem dX9_item_43 : decode cX9_item 43 = .ok (.goto 19, 3) := by decide +kernel
theorem dX9_item_46 : decode cX9_item 46 = .ok (.aload_n 0, 1) := by decide +kernel
theorem dX9_item_47 : decode cX9_item 47 = .ok (.getfield 38, 3) := by decide +kernel
theorem dX9_item_50 : decode cX9_item 50 = .ok (.bipush 30, 2) := by decide +kernel
theorem dX9_item_52 : decode cX9_item 52 = .ok (.iload_n 1, 1) := by decide +kernel
theorem dX9_item_53 : decode cX9_item 53 = .ok (.imul, 1) := by decide +kernel
theorem dX9_item_54 : decode cX9_item 54 = .ok (.aload_n 0, 1) := by decide +kernel
theorem dX9_item_55 : decode cX9_item 55 = .ok (.iload_n 1, 1) := by decide +kernel
theorem dX9_item_56 : decode cX9_item 56 = .ok (.iload_n 2, 1) := by decide +kernel
theorem dX9_item_57 : decode cX9_item 57 = .ok (.invokevirtual 161, 3) := by decide +kernel
theorem dX9_item_60 : decode cX9_item 60 = .ok (.iadd, 1) := by decide +kernel
theorem dX9_item_61 : decode cX9_item 61 = .ok (.iaload, 1) := by decide +kernel
theorem dX9_item_62 : decode cX9_item 62 = .ok (.ireturn, 1) := by decide +kernel
theorem dX9_sizeOf_0 : decode cX9_sizeOf 0 = .ok (.iload_n 1, 1) := by decide +kernel
theorem dX9_sizeOf_1 : decode cX9_sizeOf 1 = .ok (.bipush 100, 2) := by decide +kernel
theorem dX9_sizeOf_3 : decode cX9_sizeOf 3 = .ok (.if_icmp .lt 13, 3) := by decide +kernel
theorem dX9_sizeOf_6 : decode cX9_sizeOf 6 = .ok (.aload_n 0, 1) := by decide +kernel
theorem dX9_sizeOf_7 : decode cX9_sizeOf 7 = .ok (.getfield 7, 3) := by decide +kernel
theorem dX9_sizeOf_10 : decode cX9_sizeOf 10 = .ok (.iload_n 1, 1) := by decide +kernel
theorem dX9_sizeOf_11 : decode cX9_sizeOf 11 = .ok (.bipush 100, 2) := by decide +kernel
theorem dX9_sizeOf_13 : decode cX9_sizeOf 13 = .ok (.isub, 1) := by decide +kernel
theorem dX9_sizeOf_14 : decode cX9_sizeOf 14 = .ok (.iaload, 1) := by decide +kernel
theorem dX9_sizeOf_15 : decode cX9_sizeOf 15 = .ok (.ireturn, 1) := by decide +kernel
theorem dX9_sizeOf_16 : decode cX9_sizeOf 16 = .ok (.iconst 0, 1) := by decide +kernel
theorem dX9_sizeOf_17 : decode cX9_sizeOf 17 = .ok (.istore_n 2, 1) := by decide +kernel
theorem dX9_sizeOf_18 : decode cX9_sizeOf 18 = .ok (.iconst 0, 1) := by decide +kernel
theorem dX9_sizeOf_19 : decode cX9_sizeOf 19 = .ok (.istore_n 3, 1) := by decide +kernel
theorem dX9_sizeOf_20 : decode cX9_sizeOf 20 = .ok (.iconst 0, 1) := by decide +kernel
theorem dX9_sizeOf_21 : decode cX9_sizeOf 21 = .ok (.istore 4, 2) := by decide +kernel
theorem dX9_sizeOf_23 : decode cX9_sizeOf 23 = .ok (.iload 4, 2) := by decide +kernel
theorem dX9_sizeOf_25 : decode cX9_sizeOf 25 = .ok (.bipush 10, 2) := by decide +kernel
theorem dX9_sizeOf_27 : decode cX9_sizeOf 27 = .ok (.if_icmp .ge 59, 3) := by decide +kernel
theorem dX9_sizeOf_30 : decode cX9_sizeOf 30 = .ok (.aload_n 0, 1) := by decide +kernel
theorem dX9_sizeOf_31 : decode cX9_sizeOf 31 = .ok (.iload 4, 2) := by decide +kernel
theorem dX9_sizeOf_33 : decode cX9_sizeOf 33 = .ok (.iload_n 1, 1) := by decide +kernel
theorem dX9_sizeOf_34 : decode cX9_sizeOf 34 = .ok (.invokevirtual 107, 3) := by decide +kernel
theorem dX9_sizeOf_37 : decode cX9_sizeOf 37 = .ok (.ifCond .eq 18, 3) := by decide +kernel
theorem dX9_sizeOf_40 : decode cX9_sizeOf 40 = .ok (.iload_n 2, 1) := by decide +kernel
theorem dX9_sizeOf_41 : decode cX9_sizeOf 41 = .ok (.aload_n 0, 1) := by decide +kernel
theorem dX9_sizeOf_42 : decode cX9_sizeOf 42 = .ok (.getfield 7, 3) := by decide +kernel
theorem dX9_sizeOf_45 : decode cX9_sizeOf 45 = .ok (.bipush 10, 2) := by decide +kernel
theorem dX9_sizeOf_47 : decode cX9_sizeOf 47 = .ok (.iload 4, 2) := by decide +kernel
theorem dX9_sizeOf_49 : decode cX9_sizeOf 49 = .ok (.imul, 1) := by decide +kernel
theorem dX9_sizeOf_50 : decode cX9_sizeOf 50 = .ok (.iload_n 1, 1) := by decide +kernel
theorem dX9_sizeOf_51 : decode cX9_sizeOf 51 = .ok (.iadd, 1) := by decide +kernel
theorem dX9_sizeOf_52 : decode cX9_sizeOf 52 = .ok (.iaload, 1) := by decide +kernel
theorem dX9_sizeOf_53 : decode cX9_sizeOf 53 = .ok (.iadd, 1) := by decide +kernel
theorem dX9_sizeOf_54 : decode cX9_sizeOf 54 = .ok (.istore_n 2, 1) := by decide +kernel
theorem dX9_sizeOf_55 : decode cX9_sizeOf 55 = .ok (.aload_n 0, 1) := by decide +kernel
theorem dX9_sizeOf_56 : decode cX9_sizeOf 56 = .ok (.iload_n 1, 1) := by decide +kernel
theorem dX9_sizeOf_57 : decode cX9_sizeOf 57 = .ok (.iload 4, 2) := by decide +kernel
theorem dX9_sizeOf_59 : decode cX9_sizeOf 59 = .ok (.invokevirtual 107, 3) := by decide +kernel
theorem dX9_sizeOf_62 : decode cX9_sizeOf 62 = .ok (.ifCond .eq 18, 3) := by decide +kernel
theorem dX9_sizeOf_65 : decode cX9_sizeOf 65 = .ok (.iload_n 3, 1) := by decide +kernel
theorem dX9_sizeOf_66 : decode cX9_sizeOf 66 = .ok (.aload_n 0, 1) := by decide +kernel
theorem dX9_sizeOf_67 : decode cX9_sizeOf 67 = .ok (.getfield 7, 3) := by decide +kernel
theorem dX9_sizeOf_70 : decode cX9_sizeOf 70 = .ok (.bipush 10, 2) := by decide +kernel
theorem dX9_sizeOf_72 : decode cX9_sizeOf 72 = .ok (.iload_n 1, 1) := by decide +kernel
theorem dX9_sizeOf_73 : decode cX9_sizeOf 73 = .ok (.imul, 1) := by decide +kernel
theorem dX9_sizeOf_74 : decode cX9_sizeOf 74 = .ok (.iload 4, 2) := by decide +kernel
theorem dX9_sizeOf_76 : decode cX9_sizeOf 76 = .ok (.iadd, 1) := by decide +kernel
theorem dX9_sizeOf_77 : decode cX9_sizeOf 77 = .ok (.iaload, 1) := by decide +kernel
theorem dX9_sizeOf_78 : decode cX9_sizeOf 78 = .ok (.iadd, 1) := by decide +kernel
theorem dX9_sizeOf_79 : decode cX9_sizeOf 79 = .ok (.istore_n 3, 1) := by decide +kernel
theorem dX9_sizeOf_80 : decode cX9_sizeOf 80 = .ok (.iinc 4 1, 3) := by decide +kernel
theorem dX9_sizeOf_83 : decode cX9_sizeOf 83 = .ok (.goto (-60), 3) := by decide +kernel
theorem dX9_sizeOf_86 : decode cX9_sizeOf 86 = .ok (.iload_n 2, 1) := by decide +kernel
theorem dX9_sizeOf_87 : decode cX9_sizeOf 87 = .ok (.iload_n 3, 1) := by decide +kernel
theorem dX9_sizeOf_88 : decode cX9_sizeOf 88 = .ok (.if_icmp .le 7, 3) := by decide +kernel
theorem dX9_sizeOf_91 : decode cX9_sizeOf 91 = .ok (.iload_n 2, 1) := by decide +kernel
theorem dX9_sizeOf_92 : decode cX9_sizeOf 92 = .ok (.goto 4, 3) := by decide +kernel
theorem dX9_sizeOf_95 : decode cX9_sizeOf 95 = .ok (.iload_n 3, 1) := by decide +kernel
theorem dX9_sizeOf_96 : decode cX9_sizeOf 96 = .ok (.istore 4, 2) := by decide +kernel
theorem dX9_sizeOf_98 : decode cX9_sizeOf 98 = .ok (.iload 4, 2) := by decide +kernel
theorem dX9_sizeOf_100 : decode cX9_sizeOf 100 = .ok (.ifCond .ne 7, 3) := by decide +kernel
theorem dX9_sizeOf_103 : decode cX9_sizeOf 103 = .ok (.iconst 1, 1) := by decide +kernel
theorem dX9_sizeOf_104 : decode cX9_sizeOf 104 = .ok (.goto 5, 3) := by decide +kernel
theorem dX9_sizeOf_107 : decode cX9_sizeOf 107 = .ok (.iload 4, 2) := by decide +kernel
theorem dX9_sizeOf_109 : decode cX9_sizeOf 109 = .ok (.ireturn, 1) := by decide +kernel
theorem dX9_topOf_0 : decode cX9_topOf 0 = .ok (.iconst 0, 1) := by decide +kernel
theorem dX9_topOf_1 : decode cX9_topOf 1 = .ok (.istore_n 3, 1) := by decide +kernel
theorem dX9_topOf_2 : decode cX9_topOf 2 = .ok (.iconst 0, 1) := by decide +kernel
theorem dX9_topOf_3 : decode cX9_topOf 3 = .ok (.istore 4, 2) := by decide +kernel
theorem dX9_topOf_5 : decode cX9_topOf 5 = .ok (.iload 4, 2) := by decide +kernel
theorem dX9_topOf_7 : decode cX9_topOf 7 = .ok (.aload_n 0, 1) := by decide +kernel
theorem dX9_topOf_8 : decode cX9_topOf 8 = .ok (.iload_n 1, 1) := by decide +kernel
theorem dX9_topOf_9 : decode cX9_topOf 9 = .ok (.aload_n 0, 1) := by decide +kernel
theorem dX9_topOf_10 : decode cX9_topOf 10 = .ok (.getfield 62, 3) := by decide +kernel
theorem dX9_topOf_13 : decode cX9_topOf 13 = .ok (.iload_n 1, 1) := by decide +kernel
theorem dX9_topOf_14 : decode cX9_topOf 14 = .ok (.iaload, 1) := by decide +kernel
theorem dX9_topOf_15 : decode cX9_topOf 15 = .ok (.iload_n 2, 1) := by decide +kernel
theorem dX9_topOf_16 : decode cX9_topOf 16 = .ok (.invokevirtual 131, 3) := by decide +kernel
theorem dX9_topOf_19 : decode cX9_topOf 19 = .ok (.if_icmp .ge 38, 3) := by decide +kernel
theorem dX9_topOf_22 : decode cX9_topOf 22 = .ok (.iload_n 3, 1) := by decide +kernel
theorem dX9_topOf_23 : decode cX9_topOf 23 = .ok (.aload_n 0, 1) := by decide +kernel
theorem dX9_topOf_24 : decode cX9_topOf 24 = .ok (.aload_n 0, 1) := by decide +kernel
theorem dX9_topOf_25 : decode cX9_topOf 25 = .ok (.getfield 38, 3) := by decide +kernel
theorem dX9_topOf_28 : decode cX9_topOf 28 = .ok (.bipush 30, 2) := by decide +kernel
theorem dX9_topOf_30 : decode cX9_topOf 30 = .ok (.iload_n 1, 1) := by decide +kernel
theorem dX9_topOf_31 : decode cX9_topOf 31 = .ok (.imul, 1) := by decide +kernel
theorem dX9_topOf_32 : decode cX9_topOf 32 = .ok (.aload_n 0, 1) := by decide +kernel
theorem dX9_topOf_33 : decode cX9_topOf 33 = .ok (.iload_n 1, 1) := by decide +kernel
theorem dX9_topOf_34 : decode cX9_topOf 34 = .ok (.iload 4, 2) := by decide +kernel
theorem dX9_topOf_36 : decode cX9_topOf 36 = .ok (.invokevirtual 161, 3) := by decide +kernel
theorem dX9_topOf_39 : decode cX9_topOf 39 = .ok (.iadd, 1) := by decide +kernel
theorem dX9_topOf_40 : decode cX9_topOf 40 = .ok (.iaload, 1) := by decide +kernel
theorem dX9_topOf_41 : decode cX9_topOf 41 = .ok (.invokevirtual 164, 3) := by decide +kernel
theorem dX9_topOf_44 : decode cX9_topOf 44 = .ok (.iadd, 1) := by decide +kernel
theorem dX9_topOf_45 : decode cX9_topOf 45 = .ok (.aload_n 0, 1) := by decide +kernel
theorem dX9_topOf_46 : decode cX9_topOf 46 = .ok (.getfield 13, 3) := by decide +kernel
theorem dX9_topOf_49 : decode cX9_topOf 49 = .ok (.iadd, 1) := by decide +kernel
theorem dX9_topOf_50 : decode cX9_topOf 50 = .ok (.istore_n 3, 1) := by decide +kernel
theorem dX9_topOf_51 : decode cX9_topOf 51 = .ok (.iinc 4 1, 3) := by decide +kernel
theorem dX9_topOf_54 : decode cX9_topOf 54 = .ok (.goto (-49), 3) := by decide +kernel
theorem dX9_topOf_57 : decode cX9_topOf 57 = .ok (.iload_n 3, 1) := by decide +kernel
theorem dX9_topOf_58 : decode cX9_topOf 58 = .ok (.ireturn, 1) := by decide +kernel
theorem dX9_place_0 : decode cX9_place 0 = .ok (.aload_n 0, 1) := by decide +kernel
theorem dX9_place_1 : decode cX9_place 1 = .ok (.iconst 0, 1) := by decide +kernel
theorem dX9_place_2 : decode cX9_place 2 = .ok (.putfield 65, 3) := by decide +kernel
theorem dX9_place_5 : decode cX9_place 5 = .ok (.aload_n 0, 1) := by decide +kernel
theorem dX9_place_6 : decode cX9_place 6 = .ok (.invokevirtual 158, 3) := by decide +kernel
theorem dX9_place_9 : decode cX9_place 9 = .ok (.aload_n 0, 1) := by decide +kernel
theorem dX9_place_10 : decode cX9_place 10 = .ok (.getfield 110, 3) := by decide +kernel
theorem dX9_place_13 : decode cX9_place 13 = .ok (.ifCond .eq 28, 3) := by decide +kernel
theorem dX9_place_16 : decode cX9_place 16 = .ok (.aload_n 0, 1) := by decide +kernel
theorem dX9_place_17 : decode cX9_place 17 = .ok (.iload_n 1, 1) := by decide +kernel
theorem dX9_place_18 : decode cX9_place 18 = .ok (.invokevirtual 68, 3) := by decide +kernel
theorem dX9_place_21 : decode cX9_place 21 = .ok (.ifCond .eq 20, 3) := by decide +kernel
theorem dX9_place_24 : decode cX9_place 24 = .ok (.aload_n 0, 1) := by decide +kernel
theorem dX9_place_25 : decode cX9_place 25 = .ok (.iload_n 1, 1) := by decide +kernel
theorem dX9_place_26 : decode cX9_place 26 = .ok (.invokevirtual 100, 3) := by decide +kernel
theorem dX9_place_29 : decode cX9_place 29 = .ok (.ifCond .eq 12, 3) := by decide +kernel
theorem dX9_place_32 : decode cX9_place 32 = .ok (.iload_n 2, 1) := by decide +kernel
theorem dX9_place_33 : decode cX9_place 33 = .ok (.ifCond .lt 8, 3) := by decide +kernel
theorem dX9_place_36 : decode cX9_place 36 = .ok (.iload_n 2, 1) := by decide +kernel
theorem dX9_place_37 : decode cX9_place 37 = .ok (.iconst 1, 1) := by decide +kernel
theorem dX9_place_38 : decode cX9_place 38 = .ok (.if_icmp .le 5, 3) := by decide +kernel
theorem dX9_place_41 : decode cX9_place 41 = .ok (.iconst (-1), 1) := by decide +kernel
theorem dX9_place_42 : decode cX9_place 42 = .ok (.ireturn, 1) := by decide +kernel
theorem dX9_place_43 : decode cX9_place 43 = .ok (.aload_n 0, 1) := by decide +kernel
theorem dX9_place_44 : decode cX9_place 44 = .ok (.aload_n 0, 1) := by decide +kernel
theorem dX9_place_45 : decode cX9_place 45 = .ok (.getfield 29, 3) := by decide +kernel
theorem dX9_place_48 : decode cX9_place 48 = .ok (.iload_n 1, 1) := by decide +kernel
theorem dX9_place_49 : decode cX9_place 49 = .ok (.iaload, 1) := by decide +kernel
theorem dX9_place_50 : decode cX9_place 50 = .ok (.aload_n 0, 1) := by decide +kernel
theorem dX9_place_51 : decode cX9_place 51 = .ok (.aload_n 0, 1) := by decide +kernel
theorem dX9_place_52 : decode cX9_place 52 = .ok (.getfield 29, 3) := by decide +kernel
theorem dX9_place_55 : decode cX9_place 55 = .ok (.iload_n 1, 1) := by decide +kernel
theorem dX9_place_56 : decode cX9_place 56 = .ok (.iaload, 1) := by decide +kernel
theorem dX9_place_57 : decode cX9_place 57 = .ok (.iload_n 1, 1) := by decide +kernel
theorem dX9_place_58 : decode cX9_place 58 = .ok (.invokevirtual 118, 3) := by decide +kernel
theorem dX9_place_61 : decode cX9_place 61 = .ok (.invokevirtual 167, 3) := by decide +kernel
theorem dX9_place_64 : decode cX9_place 64 = .ok (.istore_n 3, 1) := by decide +kernel
theorem dX9_place_65 : decode cX9_place 65 = .ok (.iload_n 2, 1) := by decide +kernel
theorem dX9_place_66 : decode cX9_place 66 = .ok (.ifCond .ne 7, 3) := by decide +kernel
theorem dX9_place_69 : decode cX9_place 69 = .ok (.iload_n 3, 1) := by decide +kernel
theorem dX9_place_70 : decode cX9_place 70 = .ok (.goto 10, 3) := by decide +kernel
theorem dX9_place_73 : decode cX9_place 73 = .ok (.iload_n 3, 1) := by decide +kernel
theorem dX9_place_74 : decode cX9_place 74 = .ok (.aload_n 0, 1) := by decide +kernel
theorem dX9_place_75 : decode cX9_place 75 = .ok (.iload_n 1, 1) := by decide +kernel
theorem dX9_place_76 : decode cX9_place 76 = .ok (.invokevirtual 164, 3) := by decide +kernel
theorem dX9_place_79 : decode cX9_place 79 = .ok (.iadd, 1) := by decide +kernel
theorem dX9_place_80 : decode cX9_place 80 = .ok (.ireturn, 1) := by decide +kernel
theorem dX9_point_0 : decode cX9_point 0 = .ok (.aload_n 0, 1) := by decide +kernel
theorem dX9_point_1 : decode cX9_point 1 = .ok (.iconst 0, 1) := by decide +kernel
theorem dX9_point_2 : decode cX9_point 2 = .ok (.putfield 65, 3) := by decide +kernel
theorem dX9_point_5 : decode cX9_point 5 = .ok (.aload_n 0, 1) := by decide +kernel
theorem dX9_point_6 : decode cX9_point 6 = .ok (.invokevirtual 158, 3) := by decide +kernel
theorem dX9_point_9 : decode cX9_point 9 = .ok (.aload_n 0, 1) := by decide +kernel
theorem dX9_point_10 : decode cX9_point 10 = .ok (.getfield 110, 3) := by decide +kernel
theorem dX9_point_13 : decode cX9_point 13 = .ok (.ifCond .eq 52, 3) := by decide +kernel
theorem dX9_point_16 : decode cX9_point 16 = .ok (.aload_n 0, 1) := by decide +kernel
theorem dX9_point_17 : decode cX9_point 17 = .ok (.iload_n 1, 1) := by decide +kernel
theorem dX9_point_18 : decode cX9_point 18 = .ok (.iload_n 2, 1) := by decide +kernel
theorem dX9_point_19 : decode cX9_point 19 = .ok (.invokevirtual 155, 3) := by decide +kernel
theorem dX9_point_22 : decode cX9_point 22 = .ok (.ifCond .eq 43, 3) := by decide +kernel
theorem dX9_point_25 : decode cX9_point 25 = .ok (.aload_n 0, 1) := by decide +kernel
theorem dX9_point_26 : decode cX9_point 26 = .ok (.iload_n 1, 1) := by decide +kernel
theorem dX9_point_27 : decode cX9_point 27 = .ok (.iload_n 2, 1) := by decide +kernel
theorem dX9_point_28 : decode cX9_point 28 = .ok (.invokevirtual 93, 3) := by decide +kernel
theorem dX9_point_31 : decode cX9_point 31 = .ok (.ifCond .ne 34, 3) := by decide +kernel
theorem dX9_point_34 : decode cX9_point 34 = .ok (.iload_n 3, 1) := by decide +kernel
theorem dX9_point_35 : decode cX9_point 35 = .ok (.aload_n 0, 1) := by decide +kernel
theorem dX9_point_36 : decode cX9_point 36 = .ok (.getfield 29, 3) := by decide +kernel
theorem dX9_point_39 : decode cX9_point 39 = .ok (.iload_n 1, 1) := by decide +kernel
theorem dX9_point_40 : decode cX9_point 40 = .ok (.iaload, 1) := by decide +kernel
theorem dX9_point_41 : decode cX9_point 41 = .ok (.if_icmp .lt 24, 3) := by decide +kernel
theorem dX9_point_44 : decode cX9_point 44 = .ok (.iload_n 3, 1) := by decide +kernel
theorem dX9_point_45 : decode cX9_point 45 = .ok (.aload_n 0, 1) := by decide +kernel
theorem dX9_point_46 : decode cX9_point 46 = .ok (.getfield 29, 3) := by decide +kernel
theorem dX9_point_49 : decode cX9_point 49 = .ok (.iload_n 2, 1) := by decide +kernel
theorem dX9_point_50 : decode cX9_point 50 = .ok (.iaload, 1) := by decide +kernel
theorem dX9_point_51 : decode cX9_point 51 = .ok (.if_icmp .gt 14, 3) := by decide +kernel
theorem dX9_point_54 : decode cX9_point 54 = .ok (.iload 4, 2) := by decide +kernel
theorem dX9_point_56 : decode cX9_point 56 = .ok (.ifCond .lt 9, 3) := by decide +kernel
theorem dX9_point_59 : decode cX9_point 59 = .ok (.iload 4, 2) := by decide +kernel
theorem dX9_point_61 : decode cX9_point 61 = .ok (.iconst 1, 1) := by decide +kernel
theorem dX9_point_62 : decode cX9_point 62 = .ok (.if_icmp .le 5, 3) := by decide +kernel
theorem dX9_point_65 : decode cX9_point 65 = .ok (.iconst (-1), 1) := by decide +kernel
theorem dX9_point_66 : decode cX9_point 66 = .ok (.ireturn, 1) := by decide +kernel
theorem dX9_point_67 : decode cX9_point 67 = .ok (.iload 4, 2) := by decide +kernel
theorem dX9_point_69 : decode cX9_point 69 = .ok (.ifCond .ne 13, 3) := by decide +kernel
theorem dX9_point_72 : decode cX9_point 72 = .ok (.iload_n 3, 1) := by decide +kernel
theorem dX9_point_73 : decode cX9_point 73 = .ok (.aload_n 0, 1) := by decide +kernel
theorem dX9_point_74 : decode cX9_point 74 = .ok (.getfield 29, 3) := by decide +kernel
theorem dX9_point_77 : decode cX9_point 77 = .ok (.iload_n 1, 1) := by decide +kernel
theorem dX9_point_78 : decode cX9_point 78 = .ok (.iaload, 1) := by decide +kernel
theorem dX9_point_79 : decode cX9_point 79 = .ok (.if_icmp .eq 19, 3) := by decide +kernel
theorem dX9_point_82 : decode cX9_point 82 = .ok (.iload 4, 2) := by decide +kernel
theorem dX9_point_84 : decode cX9_point 84 = .ok (.iconst 1, 1) := by decide +kernel
theorem dX9_point_85 : decode cX9_point 85 = .ok (.if_icmp .ne 15, 3) := by decide +kernel
theorem dX9_point_88 : decode cX9_point 88 = .ok (.iload_n 3, 1) := by decide +kernel
theorem dX9_point_89 : decode cX9_point 89 = .ok (.aload_n 0, 1) := by decide +kernel
theorem dX9_point_90 : decode cX9_point 90 = .ok (.getfield 29, 3) := by decide +kernel
theorem dX9_point_93 : decode cX9_point 93 = .ok (.iload_n 2, 1) := by decide +kernel
theorem dX9_point_94 : decode cX9_point 94 = .ok (.iaload, 1) := by decide +kernel
theorem dX9_point_95 : decode cX9_point 95 = .ok (.if_icmp .ne 5, 3) := by decide +kernel
theorem dX9_point_98 : decode cX9_point 98 = .ok (.iconst (-1), 1) := by decide +kernel
theorem dX9_point_99 : decode cX9_point 99 = .ok (.ireturn, 1) := by decide +kernel
theorem dX9_point_100 : decode cX9_point 100 = .ok (.aload_n 0, 1) := by decide +kernel
theorem dX9_point_101 : decode cX9_point 101 = .ok (.iload_n 3, 1) := by decide +kernel
theorem dX9_point_102 : decode cX9_point 102 = .ok (.aload_n 0, 1) := by decide +kernel
theorem dX9_point_103 : decode cX9_point 103 = .ok (.iload_n 1, 1) := by decide +kernel
theorem dX9_point_104 : decode cX9_point 104 = .ok (.iload_n 2, 1) := by decide +kernel
theorem dX9_point_105 : decode cX9_point 105 = .ok (.iload_n 3, 1) := by decide +kernel
theorem dX9_point_106 : decode cX9_point 106 = .ok (.invokevirtual 114, 3) := by decide +kernel
theorem dX9_point_109 : decode cX9_point 109 = .ok (.invokevirtual 118, 3) := by decide +kernel
theorem dX9_point_112 : decode cX9_point 112 = .ok (.istore 5, 2) := by decide +kernel
theorem dX9_point_114 : decode cX9_point 114 = .ok (.aload_n 0, 1) := by decide +kernel
theorem dX9_point_115 : decode cX9_point 115 = .ok (.iload_n 3, 1) := by decide +kernel
theorem dX9_point_116 : decode cX9_point 116 = .ok (.iload 5, 2) := by decide +kernel
theorem dX9_point_118 : decode cX9_point 118 = .ok (.invokevirtual 167, 3) := by decide +kernel
theorem dX9_point_121 : decode cX9_point 121 = .ok (.istore 6, 2) := by decide +kernel
theorem dX9_point_123 : decode cX9_point 123 = .ok (.iload 4, 2) := by decide +kernel
theorem dX9_point_125 : decode cX9_point 125 = .ok (.ifCond .ne 9, 3) := by decide +kernel
theorem dX9_point_128 : decode cX9_point 128 = .ok (.iload_n 3, 1) := by decide +kernel
theorem dX9_point_129 : decode cX9_point 129 = .ok (.iconst 1, 1) := by decide +kernel
theorem dX9_point_130 : decode cX9_point 130 = .ok (.isub, 1) := by decide +kernel
theorem dX9_point_131 : decode cX9_point 131 = .ok (.goto 6, 3) := by decide +kernel
theorem dX9_point_134 : decode cX9_point 134 = .ok (.iload_n 3, 1) := by decide +kernel
theorem dX9_point_135 : decode cX9_point 135 = .ok (.iconst 1, 1) := by decide +kernel
theorem dX9_point_136 : decode cX9_point 136 = .ok (.iadd, 1) := by decide +kernel
theorem dX9_point_137 : decode cX9_point 137 = .ok (.istore 7, 2) := by decide +kernel
theorem dX9_point_139 : decode cX9_point 139 = .ok (.aload_n 0, 1) := by decide +kernel
theorem dX9_point_140 : decode cX9_point 140 = .ok (.iload 7, 2) := by decide +kernel
theorem dX9_point_142 : decode cX9_point 142 = .ok (.aload_n 0, 1) := by decide +kernel
theorem dX9_point_143 : decode cX9_point 143 = .ok (.iload_n 1, 1) := by decide +kernel
theorem dX9_point_144 : decode cX9_point 144 = .ok (.iload_n 2, 1) := by decide +kernel
theorem dX9_point_145 : decode cX9_point 145 = .ok (.iload 7, 2) := by decide +kernel
theorem dX9_point_147 : decode cX9_point 147 = .ok (.invokevirtual 114, 3) := by decide +kernel
theorem dX9_point_150 : decode cX9_point 150 = .ok (.invokevirtual 118, 3) := by decide +kernel
theorem dX9_point_153 : decode cX9_point 153 = .ok (.istore 8, 2) := by decide +kernel
theorem dX9_point_155 : decode cX9_point 155 = .ok (.iload 4, 2) := by decide +kernel
theorem dX9_point_157 : decode cX9_point 157 = .ok (.ifCond .ne 9, 3) := by decide +kernel
theorem dX9_point_160 : decode cX9_point 160 = .ok (.iload_n 3, 1) := by decide +kernel
theorem dX9_point_161 : decode cX9_point 161 = .ok (.iconst 1, 1) := by decide +kernel
theorem dX9_point_162 : decode cX9_point 162 = .ok (.isub, 1) := by decide +kernel
theorem dX9_point_163 : decode cX9_point 163 = .ok (.goto 4, 3) := by decide +kernel
theorem dX9_point_166 : decode cX9_point 166 = .ok (.iload_n 3, 1) := by decide +kernel
theorem dX9_point_167 : decode cX9_point 167 = .ok (.istore 9, 2) := by decide +kernel
theorem dX9_point_169 : decode cX9_point 169 = .ok (.bipush 16, 2) := by decide +kernel
theorem dX9_point_171 : decode cX9_point 171 = .ok (.iload 9, 2) := by decide +kernel
theorem dX9_point_173 : decode cX9_point 173 = .ok (.imul, 1) := by decide +kernel
theorem dX9_point_174 : decode cX9_point 174 = .ok (.istore 10, 2) := by decide +kernel
theorem dX9_point_176 : decode cX9_point 176 = .ok (.iload 10, 2) := by decide +kernel
theorem dX9_point_178 : decode cX9_point 178 = .ok (.bipush 16, 2) := by decide +kernel
theorem dX9_point_180 : decode cX9_point 180 = .ok (.iload 9, 2) := by decide +kernel
theorem dX9_point_182 : decode cX9_point 182 = .ok (.imul, 1) := by decide +kernel
theorem dX9_point_183 : decode cX9_point 183 = .ok (.aload_n 0, 1) := by decide +kernel
theorem dX9_point_184 : decode cX9_point 184 = .ok (.getfield 41, 3) := by decide +kernel
theorem dX9_point_187 : decode cX9_point 187 = .ok (.iload 9, 2) := by decide +kernel
theorem dX9_point_189 : decode cX9_point 189 = .ok (.iaload, 1) := by decide +kernel
theorem dX9_point_190 : decode cX9_point 190 = .ok (.iadd, 1) := by decide +kernel
theorem dX9_point_191 : decode cX9_point 191 = .ok (.if_icmp .ge 109, 3) := by decide +kernel
theorem dX9_point_194 : decode cX9_point 194 = .ok (.iload 4, 2) := by decide +kernel
theorem dX9_point_196 : decode cX9_point 196 = .ok (.ifCond .ne 13, 3) := by decide +kernel
theorem dX9_point_199 : decode cX9_point 199 = .ok (.aload_n 0, 1) := by decide +kernel
theorem dX9_point_200 : decode cX9_point 200 = .ok (.getfield 47, 3) := by decide +kernel
theorem dX9_point_203 : decode cX9_point 203 = .ok (.iload 10, 2) := by decide +kernel
theorem dX9_point_205 : decode cX9_point 205 = .ok (.iaload, 1) := by decide +kernel
theorem dX9_point_206 : decode cX9_point 206 = .ok (.goto 10, 3) := by decide +kernel
theorem dX9_point_209 : decode cX9_point 209 = .ok (.aload_n 0, 1) := by decide +kernel
theorem dX9_point_210 : decode cX9_point 210 = .ok (.getfield 44, 3) := by decide +kernel
theorem dX9_point_213 : decode cX9_point 213 = .ok (.iload 10, 2) := by decide +kernel
theorem dX9_point_215 : decode cX9_point 215 = .ok (.iaload, 1) := by decide +kernel
theorem dX9_point_216 : decode cX9_point 216 = .ok (.istore 11, 2) := by decide +kernel
theorem dX9_point_218 : decode cX9_point 218 = .ok (.iload 4, 2) := by decide +kernel
theorem dX9_point_220 : decode cX9_point 220 = .ok (.ifCond .ne 13, 3) := by decide +kernel
theorem dX9_point_223 : decode cX9_point 223 = .ok (.aload_n 0, 1) := by decide +kernel
theorem dX9_point_224 : decode cX9_point 224 = .ok (.getfield 44, 3) := by decide +kernel
theorem dX9_point_227 : decode cX9_point 227 = .ok (.iload 10, 2) := by decide +kernel
theorem dX9_point_229 : decode cX9_point 229 = .ok (.iaload, 1) := by decide +kernel
theorem dX9_point_230 : decode cX9_point 230 = .ok (.goto 10, 3) := by decide +kernel
theorem dX9_point_233 : decode cX9_point 233 = .ok (.aload_n 0, 1) := by decide +kernel
theorem dX9_point_234 : decode cX9_point 234 = .ok (.getfield 47, 3) := by decide +kernel
theorem dX9_point_237 : decode cX9_point 237 = .ok (.iload 10, 2) := by decide +kernel
theorem dX9_point_239 : decode cX9_point 239 = .ok (.iaload, 1) := by decide +kernel
theorem dX9_point_240 : decode cX9_point 240 = .ok (.istore 12, 2) := by decide +kernel
theorem dX9_point_242 : decode cX9_point 242 = .ok (.iload 11, 2) := by decide +kernel
theorem dX9_point_244 : decode cX9_point 244 = .ok (.iload 5, 2) := by decide +kernel
theorem dX9_point_246 : decode cX9_point 246 = .ok (.if_icmp .ne 48, 3) := by decide +kernel
theorem dX9_point_249 : decode cX9_point 249 = .ok (.aload_n 0, 1) := by decide +kernel
theorem dX9_point_250 : decode cX9_point 250 = .ok (.iload 7, 2) := by decide +kernel
theorem dX9_point_252 : decode cX9_point 252 = .ok (.aload_n 0, 1) := by decide +kernel
theorem dX9_point_253 : decode cX9_point 253 = .ok (.getfield 62, 3) := by decide +kernel
theorem dX9_point_256 : decode cX9_point 256 = .ok (.iload 7, 2) := by decide +kernel
theorem dX9_point_258 : decode cX9_point 258 = .ok (.iaload, 1) := by decide +kernel
theorem dX9_point_259 : decode cX9_point 259 = .ok (.iload 12, 2) := by decide +kernel
theorem dX9_point_261 : decode cX9_point 261 = .ok (.invokevirtual 131, 3) := by decide +kernel
theorem dX9_point_264 : decode cX9_point 264 = .ok (.aload_n 0, 1) := by decide +kernel
theorem dX9_point_265 : decode cX9_point 265 = .ok (.iload 7, 2) := by decide +kernel
theorem dX9_point_267 : decode cX9_point 267 = .ok (.aload_n 0, 1) := by decide +kernel
theorem dX9_point_268 : decode cX9_point 268 = .ok (.getfield 62, 3) := by decide +kernel
theorem dX9_point_271 : decode cX9_point 271 = .ok (.iload 7, 2) := by decide +kernel
theorem dX9_point_273 : decode cX9_point 273 = .ok (.iaload, 1) := by decide +kernel
theorem dX9_point_274 : decode cX9_point 274 = .ok (.iload 8, 2) := by decide +kernel
theorem dX9_point_276 : decode cX9_point 276 = .ok (.invokevirtual 131, 3) := by decide +kernel
theorem dX9_point_279 : decode cX9_point 279 = .ok (.if_icmp .ge 15, 3) := by decide +kernel
theorem dX9_point_282 : decode cX9_point 282 = .ok (.iload 6, 2) := by decide +kernel
theorem dX9_point_284 : decode cX9_point 284 = .ok (.aload_n 0, 1) := by decide +kernel
theorem dX9_point_285 : decode cX9_point 285 = .ok (.getfield 50, 3) := by decide +kernel
theorem dX9_point_288 : decode cX9_point 288 = .ok (.iload 10, 2) := by decide +kernel
theorem dX9_point_290 : decode cX9_point 290 = .ok (.iaload, 1) := by decide +kernel
theorem dX9_point_291 : decode cX9_point 291 = .ok (.iadd, 1) := by decide +kernel
theorem dX9_point_292 : decode cX9_point 292 = .ok (.istore 6, 2) := by decide +kernel
theorem dX9_point_294 : decode cX9_point 294 = .ok (.iinc 10 1, 3) := by decide +kernel
theorem dX9_point_297 : decode cX9_point 297 = .ok (.goto (-121), 3) := by decide +kernel
theorem dX9_point_300 : decode cX9_point 300 = .ok (.iload 6, 2) := by decide +kernel
theorem dX9_point_302 : decode cX9_point 302 = .ok (.ireturn, 1) := by decide +kernel
theorem dX9_keep_0 : decode cX9_keep 0 = .ok (.aload_n 0, 1) := by decide +kernel
theorem dX9_keep_1 : decode cX9_keep 1 = .ok (.iconst 0, 1) := by decide +kernel
theorem dX9_keep_2 : decode cX9_keep 2 = .ok (.putfield 65, 3) := by decide +kernel
theorem dX9_keep_5 : decode cX9_keep 5 = .ok (.aload_n 0, 1) := by decide +kernel
theorem dX9_keep_6 : decode cX9_keep 6 = .ok (.invokevirtual 158, 3) := by decide +kernel
theorem dX9_keep_9 : decode cX9_keep 9 = .ok (.aload_n 0, 1) := by decide +kernel
theorem dX9_keep_10 : decode cX9_keep 10 = .ok (.getfield 110, 3) := by decide +kernel
theorem dX9_keep_13 : decode cX9_keep 13 = .ok (.ifCond .ne 5, 3) := by decide +kernel
theorem dX9_keep_16 : decode cX9_keep 16 = .ok (.iconst 0, 1) := by decide +kernel
theorem dX9_keep_17 : decode cX9_keep 17 = .ok (.ireturn, 1) := by decide +kernel
theorem dX9_keep_18 : decode cX9_keep 18 = .ok (.aload_n 0, 1) := by decide +kernel
theorem dX9_keep_19 : decode cX9_keep 19 = .ok (.iconst 1, 1) := by decide +kernel
theorem dX9_keep_20 : decode cX9_keep 20 = .ok (.putfield 152, 3) := by decide +kernel
theorem dX9_keep_23 : decode cX9_keep 23 = .ok (.iconst 0, 1) := by decide +kernel
theorem dX9_keep_24 : decode cX9_keep 24 = .ok (.istore_n 1, 1) := by decide +kernel
theorem dX9_keep_25 : decode cX9_keep 25 = .ok (.iload_n 1, 1) := by decide +kernel
theorem dX9_keep_26 : decode cX9_keep 26 = .ok (.bipush 10, 2) := by decide +kernel
theorem dX9_keep_28 : decode cX9_keep 28 = .ok (.if_icmp .ge 79, 3) := by decide +kernel
theorem dX9_keep_31 : decode cX9_keep 31 = .ok (.aload_n 0, 1) := by decide +kernel
theorem dX9_keep_32 : decode cX9_keep 32 = .ok (.getfield 17, 3) := by decide +kernel
theorem dX9_keep_35 : decode cX9_keep 35 = .ok (.iload_n 1, 1) := by decide +kernel
theorem dX9_keep_36 : decode cX9_keep 36 = .ok (.aload_n 0, 1) := by decide +kernel
theorem dX9_keep_37 : decode cX9_keep 37 = .ok (.iload_n 1, 1) := by decide +kernel
theorem dX9_keep_38 : decode cX9_keep 38 = .ok (.invokevirtual 100, 3) := by decide +kernel
theorem dX9_keep_41 : decode cX9_keep 41 = .ok (.ifCond .eq 12, 3) := by decide +kernel
theorem dX9_keep_44 : decode cX9_keep 44 = .ok (.aload_n 0, 1) := by decide +kernel
theorem dX9_keep_45 : decode cX9_keep 45 = .ok (.getfield 29, 3) := by decide +kernel
theorem dX9_keep_48 : decode cX9_keep 48 = .ok (.iload_n 1, 1) := by decide +kernel
theorem dX9_keep_49 : decode cX9_keep 49 = .ok (.iaload, 1) := by decide +kernel
theorem dX9_keep_50 : decode cX9_keep 50 = .ok (.goto 4, 3) := by decide +kernel
theorem dX9_keep_53 : decode cX9_keep 53 = .ok (.iconst (-1), 1) := by decide +kernel
theorem dX9_keep_54 : decode cX9_keep 54 = .ok (.iastore, 1) := by decide +kernel
theorem dX9_keep_55 : decode cX9_keep 55 = .ok (.aload_n 0, 1) := by decide +kernel
theorem dX9_keep_56 : decode cX9_keep 56 = .ok (.iload_n 1, 1) := by decide +kernel
theorem dX9_keep_57 : decode cX9_keep 57 = .ok (.invokevirtual 100, 3) := by decide +kernel
theorem dX9_keep_60 : decode cX9_keep 60 = .ok (.ifCond .eq 41, 3) := by decide +kernel
theorem dX9_keep_63 : decode cX9_keep 63 = .ok (.aload_n 0, 1) := by decide +kernel
theorem dX9_keep_64 : decode cX9_keep 64 = .ok (.getfield 20, 3) := by decide +kernel
theorem dX9_keep_67 : decode cX9_keep 67 = .ok (.iload_n 1, 1) := by decide +kernel
theorem dX9_keep_68 : decode cX9_keep 68 = .ok (.aload_n 0, 1) := by decide +kernel
theorem dX9_keep_69 : decode cX9_keep 69 = .ok (.aload_n 0, 1) := by decide +kernel
theorem dX9_keep_70 : decode cX9_keep 70 = .ok (.getfield 29, 3) := by decide +kernel
theorem dX9_keep_73 : decode cX9_keep 73 = .ok (.iload_n 1, 1) := by decide +kernel
theorem dX9_keep_74 : decode cX9_keep 74 = .ok (.iaload, 1) := by decide +kernel
theorem dX9_keep_75 : decode cX9_keep 75 = .ok (.aload_n 0, 1) := by decide +kernel
theorem dX9_keep_76 : decode cX9_keep 76 = .ok (.getfield 62, 3) := by decide +kernel
theorem dX9_keep_79 : decode cX9_keep 79 = .ok (.aload_n 0, 1) := by decide +kernel
theorem dX9_keep_80 : decode cX9_keep 80 = .ok (.getfield 29, 3) := by decide +kernel
theorem dX9_keep_83 : decode cX9_keep 83 = .ok (.iload_n 1, 1) := by decide +kernel
theorem dX9_keep_84 : decode cX9_keep 84 = .ok (.iaload, 1) := by decide +kernel
theorem dX9_keep_85 : decode cX9_keep 85 = .ok (.iaload, 1) := by decide +kernel
theorem dX9_keep_86 : decode cX9_keep 86 = .ok (.aload_n 0, 1) := by decide +kernel
theorem dX9_keep_87 : decode cX9_keep 87 = .ok (.aload_n 0, 1) := by decide +kernel
theorem dX9_keep_88 : decode cX9_keep 88 = .ok (.getfield 29, 3) := by decide +kernel
theorem dX9_keep_91 : decode cX9_keep 91 = .ok (.iload_n 1, 1) := by decide +kernel
theorem dX9_keep_92 : decode cX9_keep 92 = .ok (.iaload, 1) := by decide +kernel
theorem dX9_keep_93 : decode cX9_keep 93 = .ok (.iload_n 1, 1) := by decide +kernel
theorem dX9_keep_94 : decode cX9_keep 94 = .ok (.invokevirtual 118, 3) := by decide +kernel
theorem dX9_keep_97 : decode cX9_keep 97 = .ok (.invokevirtual 131, 3) := by decide +kernel
theorem dX9_keep_100 : decode cX9_keep 100 = .ok (.iastore, 1) := by decide +kernel
theorem dX9_keep_101 : decode cX9_keep 101 = .ok (.iinc 1 1, 3) := by decide +kernel
theorem dX9_keep_104 : decode cX9_keep 104 = .ok (.goto (-79), 3) := by decide +kernel
theorem dX9_keep_107 : decode cX9_keep 107 = .ok (.iconst 1, 1) := by decide +kernel
theorem dX9_keep_108 : decode cX9_keep 108 = .ok (.ireturn, 1) := by decide +kernel
theorem dX9_forget_0 : decode cX9_forget 0 = .ok (.aload_n 0, 1) := by decide +kernel
theorem dX9_forget_1 : decode cX9_forget 1 = .ok (.iconst 0, 1) := by decide +kernel
theorem dX9_forget_2 : decode cX9_forget 2 = .ok (.putfield 65, 3) := by decide +kernel
theorem dX9_forget_5 : decode cX9_forget 5 = .ok (.aload_n 0, 1) := by decide +kernel
theorem dX9_forget_6 : decode cX9_forget 6 = .ok (.iconst 0, 1) := by decide +kernel
theorem dX9_forget_7 : decode cX9_forget 7 = .ok (.putfield 152, 3) := by decide +kernel
theorem dX9_forget_10 : decode cX9_forget 10 = .ok (.iconst 0, 1) := by decide +kernel
theorem dX9_forget_11 : decode cX9_forget 11 = .ok (.istore_n 1, 1) := by decide +kernel
theorem dX9_forget_12 : decode cX9_forget 12 = .ok (.iload_n 1, 1) := by decide +kernel
theorem dX9_forget_13 : decode cX9_forget 13 = .ok (.bipush 10, 2) := by decide +kernel
theorem dX9_forget_15 : decode cX9_forget 15 = .ok (.if_icmp .ge 16, 3) := by decide +kernel
theorem dX9_forget_18 : decode cX9_forget 18 = .ok (.aload_n 0, 1) := by decide +kernel
theorem dX9_forget_19 : decode cX9_forget 19 = .ok (.getfield 17, 3) := by decide +kernel
theorem dX9_forget_22 : decode cX9_forget 22 = .ok (.iload_n 1, 1) := by decide +kernel
theorem dX9_forget_23 : decode cX9_forget 23 = .ok (.iconst (-1), 1) := by decide +kernel
theorem dX9_forget_24 : decode cX9_forget 24 = .ok (.iastore, 1) := by decide +kernel
theorem dX9_forget_25 : decode cX9_forget 25 = .ok (.iinc 1 1, 3) := by decide +kernel
theorem dX9_forget_28 : decode cX9_forget 28 = .ok (.goto (-16), 3) := by decide +kernel
theorem dX9_forget_31 : decode cX9_forget 31 = .ok (.return_, 1) := by decide +kernel
theorem dX9_orders_0 : decode cX9_orders 0 = .ok (.aload_n 0, 1) := by decide +kernel
theorem dX9_orders_1 : decode cX9_orders 1 = .ok (.iconst 0, 1) := by decide +kernel
theorem dX9_orders_2 : decode cX9_orders 2 = .ok (.putfield 65, 3) := by decide +kernel
theorem dX9_orders_5 : decode cX9_orders 5 = .ok (.aload_n 0, 1) := by decide +kernel
theorem dX9_orders_6 : decode cX9_orders 6 = .ok (.invokevirtual 158, 3) := by decide +kernel
theorem dX9_orders_9 : decode cX9_orders 9 = .ok (.aload_n 0, 1) := by decide +kernel
theorem dX9_orders_10 : decode cX9_orders 10 = .ok (.getfield 110, 3) := by decide +kernel
theorem dX9_orders_13 : decode cX9_orders 13 = .ok (.ifCond .eq 10, 3) := by decide +kernel
theorem dX9_orders_16 : decode cX9_orders 16 = .ok (.aload_n 0, 1) := by decide +kernel
theorem dX9_orders_17 : decode cX9_orders 17 = .ok (.getfield 143, 3) := by decide +kernel
theorem dX9_orders_20 : decode cX9_orders 20 = .ok (.goto 4, 3) := by decide +kernel
theorem dX9_orders_23 : decode cX9_orders 23 = .ok (.iconst (-1), 1) := by decide +kernel
theorem dX9_orders_24 : decode cX9_orders 24 = .ok (.ireturn, 1) := by decide +kernel
theorem dJ9_max_7cf53_0 : decode cJ9_max_7cf53 0 = .ok (.iload_n 0, 1) := by decide +kernel
theorem dJ9_max_7cf53_1 : decode cJ9_max_7cf53 1 = .ok (.iload_n 1, 1) := by decide +kernel
theorem dJ9_max_7cf53_2 : decode cJ9_max_7cf53 2 = .ok (.if_icmp .lt 7, 3) := by decide +kernel
theorem dJ9_max_7cf53_5 : decode cJ9_max_7cf53 5 = .ok (.iload_n 0, 1) := by decide +kernel
theorem dJ9_max_7cf53_6 : decode cJ9_max_7cf53 6 = .ok (.goto 4, 3) := by decide +kernel
theorem dJ9_max_7cf53_9 : decode cJ9_max_7cf53 9 = .ok (.iload_n 1, 1) := by decide +kernel
theorem dJ9_max_7cf53_10 : decode cJ9_max_7cf53 10 = .ok (.ireturn, 1) := by decide +kernel
theorem dJ9_min_7cf53_0 : decode cJ9_min_7cf53 0 = .ok (.iload_n 0, 1) := by decide +kernel
theorem dJ9_min_7cf53_1 : decode cJ9_min_7cf53 1 = .ok (.iload_n 1, 1) := by decide +kernel
theorem dJ9_min_7cf53_2 : decode cJ9_min_7cf53 2 = .ok (.if_icmp .gt 7, 3) := by decide +kernel
theorem dJ9_min_7cf53_5 : decode cJ9_min_7cf53 5 = .ok (.iload_n 0, 1) := by decide +kernel
theorem dJ9_min_7cf53_6 : decode cJ9_min_7cf53 6 = .ok (.goto 4, 3) := by decide +kernel
theorem dJ9_min_7cf53_9 : decode cJ9_min_7cf53 9 = .ok (.iload_n 1, 1) := by decide +kernel
theorem dJ9_min_7cf53_10 : decode cJ9_min_7cf53 10 = .ok (.ireturn, 1) := by decide +kernel
theorem dJ7_fill_53178_0 : decode cJ7_fill_53178 0 = .ok (.iconst 0, 1) := by decide +kernel
theorem dJ7_fill_53178_1 : decode cJ7_fill_53178 1 = .ok (.istore_n 2, 1) := by decide +kernel
theorem dJ7_fill_53178_2 : decode cJ7_fill_53178 2 = .ok (.aload_n 0, 1) := by decide +kernel
theorem dJ7_fill_53178_3 : decode cJ7_fill_53178 3 = .ok (.arraylength, 1) := by decide +kernel
theorem dJ7_fill_53178_4 : decode cJ7_fill_53178 4 = .ok (.istore_n 3, 1) := by decide +kernel
theorem dJ7_fill_53178_5 : decode cJ7_fill_53178 5 = .ok (.iload_n 2, 1) := by decide +kernel
theorem dJ7_fill_53178_6 : decode cJ7_fill_53178 6 = .ok (.iload_n 3, 1) := by decide +kernel
theorem dJ7_fill_53178_7 : decode cJ7_fill_53178 7 = .ok (.if_icmp .ge 13, 3) := by decide +kernel
theorem dJ7_fill_53178_10 : decode cJ7_fill_53178 10 = .ok (.aload_n 0, 1) := by decide +kernel
theorem dJ7_fill_53178_11 : decode cJ7_fill_53178 11 = .ok (.iload_n 2, 1) := by decide +kernel
theorem dJ7_fill_53178_12 : decode cJ7_fill_53178 12 = .ok (.iload_n 1, 1) := by decide +kernel
theorem dJ7_fill_53178_13 : decode cJ7_fill_53178 13 = .ok (.iastore, 1) := by decide +kernel
theorem dJ7_fill_53178_14 : decode cJ7_fill_53178 14 = .ok (.iinc 2 1, 3) := by decide +kernel
theorem dJ7_fill_53178_17 : decode cJ7_fill_53178 17 = .ok (.goto (-12), 3) := by decide +kernel
theorem dJ7_fill_53178_20 : decode cJ7_fill_53178 20 = .ok (.return_, 1) := by decide +kernel
theorem dL_law_0 : decode cL_law 0 = .ok (.new 7, 3) := by decide +kernel
theorem dL_law_3 : decode cL_law 3 = .ok (.dup, 1) := by decide +kernel
theorem dL_law_4 : decode cL_law 4 = .ok (.invokespecial 9, 3) := by decide +kernel
theorem dL_law_7 : decode cL_law 7 = .ok (.astore_n 1, 1) := by decide +kernel
theorem dL_law_8 : decode cL_law 8 = .ok (.new 10, 3) := by decide +kernel
theorem dL_law_11 : decode cL_law 11 = .ok (.dup, 1) := by decide +kernel
theorem dL_law_12 : decode cL_law 12 = .ok (.invokespecial 12, 3) := by decide +kernel
theorem dL_law_15 : decode cL_law 15 = .ok (.astore_n 2, 1) := by decide +kernel
theorem dL_law_16 : decode cL_law 16 = .ok (.iconst 0, 1) := by decide +kernel
theorem dL_law_17 : decode cL_law 17 = .ok (.istore_n 3, 1) := by decide +kernel
theorem dL_law_18 : decode cL_law 18 = .ok (.iload_n 3, 1) := by decide +kernel
theorem dL_law_19 : decode cL_law 19 = .ok (.aload_n 0, 1) := by decide +kernel
theorem dL_law_20 : decode cL_law 20 = .ok (.arraylength, 1) := by decide +kernel
theorem dL_law_21 : decode cL_law 21 = .ok (.iconst 5, 1) := by decide +kernel
theorem dL_law_22 : decode cL_law 22 = .ok (.isub, 1) := by decide +kernel
theorem dL_law_23 : decode cL_law 23 = .ok (.if_icmp .gt 563, 3) := by decide +kernel
theorem dL_law_26 : decode cL_law 26 = .ok (.aload_n 0, 1) := by decide +kernel
theorem dL_law_27 : decode cL_law 27 = .ok (.iload_n 3, 1) := by decide +kernel
theorem dL_law_28 : decode cL_law 28 = .ok (.iaload, 1) := by decide +kernel
theorem dL_law_29 : decode cL_law 29 = .ok (.bipush 31, 2) := by decide +kernel
theorem dL_law_31 : decode cL_law 31 = .ok (.iand, 1) := by decide +kernel
theorem dL_law_32 : decode cL_law 32 = .ok (.tableswitch 548 0 17 #[88, 131, 142, 175, 198, 231, 264, 287, 310, 333, 346, 369, 392, 425, 458, 511, 524, 535], 88) := by decide +kernel
theorem dL_law_120 : decode cL_law 120 = .ok (.aload_n 1, 1) := by decide +kernel
theorem dL_law_121 : decode cL_law 121 = .ok (.aload_n 0, 1) := by decide +kernel
theorem dL_law_122 : decode cL_law 122 = .ok (.iload_n 3, 1) := by decide +kernel
theorem dL_law_123 : decode cL_law 123 = .ok (.iconst 1, 1) := by decide +kernel
theorem dL_law_124 : decode cL_law 124 = .ok (.iadd, 1) := by decide +kernel
theorem dL_law_125 : decode cL_law 125 = .ok (.iaload, 1) := by decide +kernel
theorem dL_law_126 : decode cL_law 126 = .ok (.aload_n 0, 1) := by decide +kernel
theorem dL_law_127 : decode cL_law 127 = .ok (.iload_n 3, 1) := by decide +kernel
theorem dL_law_128 : decode cL_law 128 = .ok (.iconst 2, 1) := by decide +kernel
theorem dL_law_129 : decode cL_law 129 = .ok (.iadd, 1) := by decide +kernel
theorem dL_law_130 : decode cL_law 130 = .ok (.iaload, 1) := by decide +kernel
theorem dL_law_131 : decode cL_law 131 = .ok (.aload_n 0, 1) := by decide +kernel
theorem dL_law_132 : decode cL_law 132 = .ok (.iload_n 3, 1) := by decide +kernel
theorem dL_law_133 : decode cL_law 133 = .ok (.iconst 3, 1) := by decide +kernel
theorem dL_law_134 : decode cL_law 134 = .ok (.iadd, 1) := by decide +kernel
theorem dL_law_135 : decode cL_law 135 = .ok (.iaload, 1) := by decide +kernel
theorem dL_law_136 : decode cL_law 136 = .ok (.invokevirtual 13, 3) := by decide +kernel
theorem dL_law_139 : decode cL_law 139 = .ok (.aload_n 2, 1) := by decide +kernel
theorem dL_law_140 : decode cL_law 140 = .ok (.aload_n 0, 1) := by decide +kernel
theorem dL_law_141 : decode cL_law 141 = .ok (.iload_n 3, 1) := by decide +kernel
theorem dL_law_142 : decode cL_law 142 = .ok (.iconst 1, 1) := by decide +kernel
theorem dL_law_143 : decode cL_law 143 = .ok (.iadd, 1) := by decide +kernel
theorem dL_law_144 : decode cL_law 144 = .ok (.iaload, 1) := by decide +kernel
theorem dL_law_145 : decode cL_law 145 = .ok (.aload_n 0, 1) := by decide +kernel
theorem dL_law_146 : decode cL_law 146 = .ok (.iload_n 3, 1) := by decide +kernel
theorem dL_law_147 : decode cL_law 147 = .ok (.iconst 2, 1) := by decide +kernel
theorem dL_law_148 : decode cL_law 148 = .ok (.iadd, 1) := by decide +kernel
theorem dL_law_149 : decode cL_law 149 = .ok (.iaload, 1) := by decide +kernel
theorem dL_law_150 : decode cL_law 150 = .ok (.aload_n 0, 1) := by decide +kernel
theorem dL_law_151 : decode cL_law 151 = .ok (.iload_n 3, 1) := by decide +kernel
theorem dL_law_152 : decode cL_law 152 = .ok (.iconst 3, 1) := by decide +kernel
theorem dL_law_153 : decode cL_law 153 = .ok (.iadd, 1) := by decide +kernel
theorem dL_law_154 : decode cL_law 154 = .ok (.iaload, 1) := by decide +kernel
theorem dL_law_155 : decode cL_law 155 = .ok (.invokevirtual 17, 3) := by decide +kernel
theorem dL_law_158 : decode cL_law 158 = .ok (.if_icmp .eq 422, 3) := by decide +kernel
theorem dL_law_161 : decode cL_law 161 = .ok (.iconst 0, 1) := by decide +kernel
theorem dL_law_162 : decode cL_law 162 = .ok (.ireturn, 1) := by decide +kernel
theorem dL_law_163 : decode cL_law 163 = .ok (.aload_n 1, 1) := by decide +kernel
theorem dL_law_164 : decode cL_law 164 = .ok (.invokevirtual 18, 3) := by decide +kernel
theorem dL_law_167 : decode cL_law 167 = .ok (.aload_n 2, 1) := by decide +kernel
theorem dL_law_168 : decode cL_law 168 = .ok (.invokevirtual 21, 3) := by decide +kernel
theorem dL_law_171 : decode cL_law 171 = .ok (.goto 409, 3) := by decide +kernel
theorem dL_law_174 : decode cL_law 174 = .ok (.aload_n 1, 1) := by decide +kernel
theorem dL_law_175 : decode cL_law 175 = .ok (.aload_n 0, 1) := by decide +kernel
theorem dL_law_176 : decode cL_law 176 = .ok (.iload_n 3, 1) := by decide +kernel
theorem dL_law_177 : decode cL_law 177 = .ok (.iconst 1, 1) := by decide +kernel
theorem dL_law_178 : decode cL_law 178 = .ok (.iadd, 1) := by decide +kernel
theorem dL_law_179 : decode cL_law 179 = .ok (.iaload, 1) := by decide +kernel
theorem dL_law_180 : decode cL_law 180 = .ok (.aload_n 0, 1) := by decide +kernel
theorem dL_law_181 : decode cL_law 181 = .ok (.iload_n 3, 1) := by decide +kernel
theorem dL_law_182 : decode cL_law 182 = .ok (.iconst 2, 1) := by decide +kernel
theorem dL_law_183 : decode cL_law 183 = .ok (.iadd, 1) := by decide +kernel
theorem dL_law_184 : decode cL_law 184 = .ok (.iaload, 1) := by decide +kernel
theorem dL_law_185 : decode cL_law 185 = .ok (.invokevirtual 22, 3) := by decide +kernel
theorem dL_law_188 : decode cL_law 188 = .ok (.aload_n 2, 1) := by decide +kernel
theorem dL_law_189 : decode cL_law 189 = .ok (.aload_n 0, 1) := by decide +kernel
theorem dL_law_190 : decode cL_law 190 = .ok (.iload_n 3, 1) := by decide +kernel
theorem dL_law_191 : decode cL_law 191 = .ok (.iconst 1, 1) := by decide +kernel
theorem dL_law_192 : decode cL_law 192 = .ok (.iadd, 1) := by decide +kernel
theorem dL_law_193 : decode cL_law 193 = .ok (.iaload, 1) := by decide +kernel
theorem dL_law_194 : decode cL_law 194 = .ok (.aload_n 0, 1) := by decide +kernel
theorem dL_law_195 : decode cL_law 195 = .ok (.iload_n 3, 1) := by decide +kernel
theorem dL_law_196 : decode cL_law 196 = .ok (.iconst 2, 1) := by decide +kernel
theorem dL_law_197 : decode cL_law 197 = .ok (.iadd, 1) := by decide +kernel
theorem dL_law_198 : decode cL_law 198 = .ok (.iaload, 1) := by decide +kernel
theorem dL_law_199 : decode cL_law 199 = .ok (.invokevirtual 26, 3) := by decide +kernel
theorem dL_law_202 : decode cL_law 202 = .ok (.if_icmp .eq 378, 3) := by decide +kernel
theorem dL_law_205 : decode cL_law 205 = .ok (.iconst 0, 1) := by decide +kernel
theorem dL_law_206 : decode cL_law 206 = .ok (.ireturn, 1) := by decide +kernel
theorem dL_law_207 : decode cL_law 207 = .ok (.aload_n 1, 1) := by decide +kernel
theorem dL_law_208 : decode cL_law 208 = .ok (.aload_n 0, 1) := by decide +kernel
theorem dL_law_209 : decode cL_law 209 = .ok (.iload_n 3, 1) := by decide +kernel
theorem dL_law_210 : decode cL_law 210 = .ok (.iconst 1, 1) := by decide +kernel
theorem dL_law_211 : decode cL_law 211 = .ok (.iadd, 1) := by decide +kernel
theorem dL_law_212 : decode cL_law 212 = .ok (.iaload, 1) := by decide +kernel
theorem dL_law_213 : decode cL_law 213 = .ok (.invokevirtual 27, 3) := by decide +kernel
theorem dL_law_216 : decode cL_law 216 = .ok (.aload_n 2, 1) := by decide +kernel
theorem dL_law_217 : decode cL_law 217 = .ok (.aload_n 0, 1) := by decide +kernel
theorem dL_law_218 : decode cL_law 218 = .ok (.iload_n 3, 1) := by decide +kernel
theorem dL_law_219 : decode cL_law 219 = .ok (.iconst 1, 1) := by decide +kernel
theorem dL_law_220 : decode cL_law 220 = .ok (.iadd, 1) := by decide +kernel
theorem dL_law_221 : decode cL_law 221 = .ok (.iaload, 1) := by decide +kernel
theorem dL_law_222 : decode cL_law 222 = .ok (.invokevirtual 31, 3) := by decide +kernel
theorem dL_law_225 : decode cL_law 225 = .ok (.if_icmp .eq 355, 3) := by decide +kernel
theorem dL_law_228 : decode cL_law 228 = .ok (.iconst 0, 1) := by decide +kernel
theorem dL_law_229 : decode cL_law 229 = .ok (.ireturn, 1) := by decide +kernel
theorem dL_law_230 : decode cL_law 230 = .ok (.aload_n 1, 1) := by decide +kernel
theorem dL_law_231 : decode cL_law 231 = .ok (.aload_n 0, 1) := by decide +kernel
theorem dL_law_232 : decode cL_law 232 = .ok (.iload_n 3, 1) := by decide +kernel
theorem dL_law_233 : decode cL_law 233 = .ok (.iconst 1, 1) := by decide +kernel
theorem dL_law_234 : decode cL_law 234 = .ok (.iadd, 1) := by decide +kernel
theorem dL_law_235 : decode cL_law 235 = .ok (.iaload, 1) := by decide +kernel
theorem dL_law_236 : decode cL_law 236 = .ok (.aload_n 0, 1) := by decide +kernel
theorem dL_law_237 : decode cL_law 237 = .ok (.iload_n 3, 1) := by decide +kernel
theorem dL_law_238 : decode cL_law 238 = .ok (.iconst 2, 1) := by decide +kernel
theorem dL_law_239 : decode cL_law 239 = .ok (.iadd, 1) := by decide +kernel
theorem dL_law_240 : decode cL_law 240 = .ok (.iaload, 1) := by decide +kernel
theorem dL_law_241 : decode cL_law 241 = .ok (.invokevirtual 32, 3) := by decide +kernel
theorem dL_law_244 : decode cL_law 244 = .ok (.aload_n 2, 1) := by decide +kernel
theorem dL_law_245 : decode cL_law 245 = .ok (.aload_n 0, 1) := by decide +kernel
theorem dL_law_246 : decode cL_law 246 = .ok (.iload_n 3, 1) := by decide +kernel
theorem dL_law_247 : decode cL_law 247 = .ok (.iconst 1, 1) := by decide +kernel
theorem dL_law_248 : decode cL_law 248 = .ok (.iadd, 1) := by decide +kernel
theorem dL_law_249 : decode cL_law 249 = .ok (.iaload, 1) := by decide +kernel
theorem dL_law_250 : decode cL_law 250 = .ok (.aload_n 0, 1) := by decide +kernel
theorem dL_law_251 : decode cL_law 251 = .ok (.iload_n 3, 1) := by decide +kernel
theorem dL_law_252 : decode cL_law 252 = .ok (.iconst 2, 1) := by decide +kernel
theorem dL_law_253 : decode cL_law 253 = .ok (.iadd, 1) := by decide +kernel
theorem dL_law_254 : decode cL_law 254 = .ok (.iaload, 1) := by decide +kernel
theorem dL_law_255 : decode cL_law 255 = .ok (.invokevirtual 36, 3) := by decide +kernel
theorem dL_law_258 : decode cL_law 258 = .ok (.if_icmp .eq 322, 3) := by decide +kernel
theorem dL_law_261 : decode cL_law 261 = .ok (.iconst 0, 1) := by decide +kernel
theorem dL_law_262 : decode cL_law 262 = .ok (.ireturn, 1) := by decide +kernel
theorem dL_law_263 : decode cL_law 263 = .ok (.aload_n 1, 1) := by decide +kernel
theorem dL_law_264 : decode cL_law 264 = .ok (.aload_n 0, 1) := by decide +kernel
theorem dL_law_265 : decode cL_law 265 = .ok (.iload_n 3, 1) := by decide +kernel
theorem dL_law_266 : decode cL_law 266 = .ok (.iconst 1, 1) := by decide +kernel
theorem dL_law_267 : decode cL_law 267 = .ok (.iadd, 1) := by decide +kernel
theorem dL_law_268 : decode cL_law 268 = .ok (.iaload, 1) := by decide +kernel
theorem dL_law_269 : decode cL_law 269 = .ok (.aload_n 0, 1) := by decide +kernel
theorem dL_law_270 : decode cL_law 270 = .ok (.iload_n 3, 1) := by decide +kernel
theorem dL_law_271 : decode cL_law 271 = .ok (.iconst 2, 1) := by decide +kernel
theorem dL_law_272 : decode cL_law 272 = .ok (.iadd, 1) := by decide +kernel
theorem dL_law_273 : decode cL_law 273 = .ok (.iaload, 1) := by decide +kernel
theorem dL_law_274 : decode cL_law 274 = .ok (.invokevirtual 37, 3) := by decide +kernel
theorem dL_law_277 : decode cL_law 277 = .ok (.aload_n 2, 1) := by decide +kernel
theorem dL_law_278 : decode cL_law 278 = .ok (.aload_n 0, 1) := by decide +kernel
theorem dL_law_279 : decode cL_law 279 = .ok (.iload_n 3, 1) := by decide +kernel
theorem dL_law_280 : decode cL_law 280 = .ok (.iconst 1, 1) := by decide +kernel
theorem dL_law_281 : decode cL_law 281 = .ok (.iadd, 1) := by decide +kernel
theorem dL_law_282 : decode cL_law 282 = .ok (.iaload, 1) := by decide +kernel
theorem dL_law_283 : decode cL_law 283 = .ok (.aload_n 0, 1) := by decide +kernel
theorem dL_law_284 : decode cL_law 284 = .ok (.iload_n 3, 1) := by decide +kernel
theorem dL_law_285 : decode cL_law 285 = .ok (.iconst 2, 1) := by decide +kernel
theorem dL_law_286 : decode cL_law 286 = .ok (.iadd, 1) := by decide +kernel
theorem dL_law_287 : decode cL_law 287 = .ok (.iaload, 1) := by decide +kernel
theorem dL_law_288 : decode cL_law 288 = .ok (.invokevirtual 40, 3) := by decide +kernel
theorem dL_law_291 : decode cL_law 291 = .ok (.if_icmp .eq 289, 3) := by decide +kernel
theorem dL_law_294 : decode cL_law 294 = .ok (.iconst 0, 1) := by decide +kernel
theorem dL_law_295 : decode cL_law 295 = .ok (.ireturn, 1) := by decide +kernel
theorem dL_law_296 : decode cL_law 296 = .ok (.aload_n 1, 1) := by decide +kernel
theorem dL_law_297 : decode cL_law 297 = .ok (.aload_n 0, 1) := by decide +kernel
theorem dL_law_298 : decode cL_law 298 = .ok (.iload_n 3, 1) := by decide +kernel
theorem dL_law_299 : decode cL_law 299 = .ok (.iconst 1, 1) := by decide +kernel
theorem dL_law_300 : decode cL_law 300 = .ok (.iadd, 1) := by decide +kernel
theorem dL_law_301 : decode cL_law 301 = .ok (.iaload, 1) := by decide +kernel
theorem dL_law_302 : decode cL_law 302 = .ok (.invokevirtual 41, 3) := by decide +kernel
theorem dL_law_305 : decode cL_law 305 = .ok (.aload_n 2, 1) := by decide +kernel
theorem dL_law_306 : decode cL_law 306 = .ok (.aload_n 0, 1) := by decide +kernel
theorem dL_law_307 : decode cL_law 307 = .ok (.iload_n 3, 1) := by decide +kernel
theorem dL_law_308 : decode cL_law 308 = .ok (.iconst 1, 1) := by decide +kernel
theorem dL_law_309 : decode cL_law 309 = .ok (.iadd, 1) := by decide +kernel
theorem dL_law_310 : decode cL_law 310 = .ok (.iaload, 1) := by decide +kernel
theorem dL_law_311 : decode cL_law 311 = .ok (.invokevirtual 44, 3) := by decide +kernel
theorem dL_law_314 : decode cL_law 314 = .ok (.if_icmp .eq 266, 3) := by decide +kernel
theorem dL_law_317 : decode cL_law 317 = .ok (.iconst 0, 1) := by decide +kernel
theorem dL_law_318 : decode cL_law 318 = .ok (.ireturn, 1) := by decide +kernel
theorem dL_law_319 : decode cL_law 319 = .ok (.aload_n 1, 1) := by decide +kernel
theorem dL_law_320 : decode cL_law 320 = .ok (.aload_n 0, 1) := by decide +kernel
theorem dL_law_321 : decode cL_law 321 = .ok (.iload_n 3, 1) := by decide +kernel
theorem dL_law_322 : decode cL_law 322 = .ok (.iconst 1, 1) := by decide +kernel
theorem dL_law_323 : decode cL_law 323 = .ok (.iadd, 1) := by decide +kernel
theorem dL_law_324 : decode cL_law 324 = .ok (.iaload, 1) := by decide +kernel
theorem dL_law_325 : decode cL_law 325 = .ok (.invokevirtual 45, 3) := by decide +kernel
theorem dL_law_328 : decode cL_law 328 = .ok (.aload_n 2, 1) := by decide +kernel
theorem dL_law_329 : decode cL_law 329 = .ok (.aload_n 0, 1) := by decide +kernel
theorem dL_law_330 : decode cL_law 330 = .ok (.iload_n 3, 1) := by decide +kernel
theorem dL_law_331 : decode cL_law 331 = .ok (.iconst 1, 1) := by decide +kernel
theorem dL_law_332 : decode cL_law 332 = .ok (.iadd, 1) := by decide +kernel
theorem dL_law_333 : decode cL_law 333 = .ok (.iaload, 1) := by decide +kernel
theorem dL_law_334 : decode cL_law 334 = .ok (.invokevirtual 48, 3) := by decide +kernel
theorem dL_law_337 : decode cL_law 337 = .ok (.if_icmp .eq 243, 3) := by decide +kernel
theorem dL_law_340 : decode cL_law 340 = .ok (.iconst 0, 1) := by decide +kernel
theorem dL_law_341 : decode cL_law 341 = .ok (.ireturn, 1) := by decide +kernel
theorem dL_law_342 : decode cL_law 342 = .ok (.aload_n 1, 1) := by decide +kernel
theorem dL_law_343 : decode cL_law 343 = .ok (.aload_n 0, 1) := by decide +kernel
theorem dL_law_344 : decode cL_law 344 = .ok (.iload_n 3, 1) := by decide +kernel
theorem dL_law_345 : decode cL_law 345 = .ok (.iconst 1, 1) := by decide +kernel
theorem dL_law_346 : decode cL_law 346 = .ok (.iadd, 1) := by decide +kernel
theorem dL_law_347 : decode cL_law 347 = .ok (.iaload, 1) := by decide +kernel
theorem dL_law_348 : decode cL_law 348 = .ok (.invokevirtual 49, 3) := by decide +kernel
theorem dL_law_351 : decode cL_law 351 = .ok (.aload_n 2, 1) := by decide +kernel
theorem dL_law_352 : decode cL_law 352 = .ok (.aload_n 0, 1) := by decide +kernel
theorem dL_law_353 : decode cL_law 353 = .ok (.iload_n 3, 1) := by decide +kernel
theorem dL_law_354 : decode cL_law 354 = .ok (.iconst 1, 1) := by decide +kernel
theorem dL_law_355 : decode cL_law 355 = .ok (.iadd, 1) := by decide +kernel
theorem dL_law_356 : decode cL_law 356 = .ok (.iaload, 1) := by decide +kernel
theorem dL_law_357 : decode cL_law 357 = .ok (.invokevirtual 52, 3) := by decide +kernel
theorem dL_law_360 : decode cL_law 360 = .ok (.if_icmp .eq 220, 3) := by decide +kernel
theorem dL_law_363 : decode cL_law 363 = .ok (.iconst 0, 1) := by decide +kernel
theorem dL_law_364 : decode cL_law 364 = .ok (.ireturn, 1) := by decide +kernel
theorem dL_law_365 : decode cL_law 365 = .ok (.aload_n 1, 1) := by decide +kernel
theorem dL_law_366 : decode cL_law 366 = .ok (.invokevirtual 53, 3) := by decide +kernel
theorem dL_law_369 : decode cL_law 369 = .ok (.aload_n 2, 1) := by decide +kernel
theorem dL_law_370 : decode cL_law 370 = .ok (.invokevirtual 57, 3) := by decide +kernel
theorem dL_law_373 : decode cL_law 373 = .ok (.if_icmp .eq 207, 3) := by decide +kernel
theorem dL_law_376 : decode cL_law 376 = .ok (.iconst 0, 1) := by decide +kernel
theorem dL_law_377 : decode cL_law 377 = .ok (.ireturn, 1) := by decide +kernel
theorem dL_law_378 : decode cL_law 378 = .ok (.aload_n 1, 1) := by decide +kernel
theorem dL_law_379 : decode cL_law 379 = .ok (.aload_n 0, 1) := by decide +kernel
theorem dL_law_380 : decode cL_law 380 = .ok (.iload_n 3, 1) := by decide +kernel
theorem dL_law_381 : decode cL_law 381 = .ok (.iconst 1, 1) := by decide +kernel
theorem dL_law_382 : decode cL_law 382 = .ok (.iadd, 1) := by decide +kernel
theorem dL_law_383 : decode cL_law 383 = .ok (.iaload, 1) := by decide +kernel
theorem dL_law_384 : decode cL_law 384 = .ok (.invokevirtual 58, 3) := by decide +kernel
theorem dL_law_387 : decode cL_law 387 = .ok (.aload_n 2, 1) := by decide +kernel
theorem dL_law_388 : decode cL_law 388 = .ok (.aload_n 0, 1) := by decide +kernel
theorem dL_law_389 : decode cL_law 389 = .ok (.iload_n 3, 1) := by decide +kernel
theorem dL_law_390 : decode cL_law 390 = .ok (.iconst 1, 1) := by decide +kernel
theorem dL_law_391 : decode cL_law 391 = .ok (.iadd, 1) := by decide +kernel
theorem dL_law_392 : decode cL_law 392 = .ok (.iaload, 1) := by decide +kernel
theorem dL_law_393 : decode cL_law 393 = .ok (.invokevirtual 61, 3) := by decide +kernel
theorem dL_law_396 : decode cL_law 396 = .ok (.if_icmp .eq 184, 3) := by decide +kernel
theorem dL_law_399 : decode cL_law 399 = .ok (.iconst 0, 1) := by decide +kernel
theorem dL_law_400 : decode cL_law 400 = .ok (.ireturn, 1) := by decide +kernel
theorem dL_law_401 : decode cL_law 401 = .ok (.aload_n 1, 1) := by decide +kernel
theorem dL_law_402 : decode cL_law 402 = .ok (.aload_n 0, 1) := by decide +kernel
theorem dL_law_403 : decode cL_law 403 = .ok (.iload_n 3, 1) := by decide +kernel
theorem dL_law_404 : decode cL_law 404 = .ok (.iconst 1, 1) := by decide +kernel
theorem dL_law_405 : decode cL_law 405 = .ok (.iadd, 1) := by decide +kernel
theorem dL_law_406 : decode cL_law 406 = .ok (.iaload, 1) := by decide +kernel
theorem dL_law_407 : decode cL_law 407 = .ok (.invokevirtual 62, 3) := by decide +kernel
theorem dL_law_410 : decode cL_law 410 = .ok (.aload_n 2, 1) := by decide +kernel
theorem dL_law_411 : decode cL_law 411 = .ok (.aload_n 0, 1) := by decide +kernel
theorem dL_law_412 : decode cL_law 412 = .ok (.iload_n 3, 1) := by decide +kernel
theorem dL_law_413 : decode cL_law 413 = .ok (.iconst 1, 1) := by decide +kernel
theorem dL_law_414 : decode cL_law 414 = .ok (.iadd, 1) := by decide +kernel
theorem dL_law_415 : decode cL_law 415 = .ok (.iaload, 1) := by decide +kernel
theorem dL_law_416 : decode cL_law 416 = .ok (.invokevirtual 65, 3) := by decide +kernel
theorem dL_law_419 : decode cL_law 419 = .ok (.if_icmp .eq 161, 3) := by decide +kernel
theorem dL_law_422 : decode cL_law 422 = .ok (.iconst 0, 1) := by decide +kernel
theorem dL_law_423 : decode cL_law 423 = .ok (.ireturn, 1) := by decide +kernel
theorem dL_law_424 : decode cL_law 424 = .ok (.aload_n 1, 1) := by decide +kernel
theorem dL_law_425 : decode cL_law 425 = .ok (.aload_n 0, 1) := by decide +kernel
theorem dL_law_426 : decode cL_law 426 = .ok (.iload_n 3, 1) := by decide +kernel
theorem dL_law_427 : decode cL_law 427 = .ok (.iconst 1, 1) := by decide +kernel
theorem dL_law_428 : decode cL_law 428 = .ok (.iadd, 1) := by decide +kernel
theorem dL_law_429 : decode cL_law 429 = .ok (.iaload, 1) := by decide +kernel
theorem dL_law_430 : decode cL_law 430 = .ok (.aload_n 0, 1) := by decide +kernel
theorem dL_law_431 : decode cL_law 431 = .ok (.iload_n 3, 1) := by decide +kernel
theorem dL_law_432 : decode cL_law 432 = .ok (.iconst 2, 1) := by decide +kernel
theorem dL_law_433 : decode cL_law 433 = .ok (.iadd, 1) := by decide +kernel
theorem dL_law_434 : decode cL_law 434 = .ok (.iaload, 1) := by decide +kernel
theorem dL_law_435 : decode cL_law 435 = .ok (.invokevirtual 66, 3) := by decide +kernel
theorem dL_law_438 : decode cL_law 438 = .ok (.aload_n 2, 1) := by decide +kernel
theorem dL_law_439 : decode cL_law 439 = .ok (.aload_n 0, 1) := by decide +kernel
theorem dL_law_440 : decode cL_law 440 = .ok (.iload_n 3, 1) := by decide +kernel
theorem dL_law_441 : decode cL_law 441 = .ok (.iconst 1, 1) := by decide +kernel
theorem dL_law_442 : decode cL_law 442 = .ok (.iadd, 1) := by decide +kernel
theorem dL_law_443 : decode cL_law 443 = .ok (.iaload, 1) := by decide +kernel
theorem dL_law_444 : decode cL_law 444 = .ok (.aload_n 0, 1) := by decide +kernel
theorem dL_law_445 : decode cL_law 445 = .ok (.iload_n 3, 1) := by decide +kernel
theorem dL_law_446 : decode cL_law 446 = .ok (.iconst 2, 1) := by decide +kernel
theorem dL_law_447 : decode cL_law 447 = .ok (.iadd, 1) := by decide +kernel
theorem dL_law_448 : decode cL_law 448 = .ok (.iaload, 1) := by decide +kernel
theorem dL_law_449 : decode cL_law 449 = .ok (.invokevirtual 69, 3) := by decide +kernel
theorem dL_law_452 : decode cL_law 452 = .ok (.if_icmp .eq 128, 3) := by decide +kernel
theorem dL_law_455 : decode cL_law 455 = .ok (.iconst 0, 1) := by decide +kernel
theorem dL_law_456 : decode cL_law 456 = .ok (.ireturn, 1) := by decide +kernel
theorem dL_law_457 : decode cL_law 457 = .ok (.aload_n 1, 1) := by decide +kernel
theorem dL_law_458 : decode cL_law 458 = .ok (.aload_n 0, 1) := by decide +kernel
theorem dL_law_459 : decode cL_law 459 = .ok (.iload_n 3, 1) := by decide +kernel
theorem dL_law_460 : decode cL_law 460 = .ok (.iconst 1, 1) := by decide +kernel
theorem dL_law_461 : decode cL_law 461 = .ok (.iadd, 1) := by decide +kernel
theorem dL_law_462 : decode cL_law 462 = .ok (.iaload, 1) := by decide +kernel
theorem dL_law_463 : decode cL_law 463 = .ok (.aload_n 0, 1) := by decide +kernel
theorem dL_law_464 : decode cL_law 464 = .ok (.iload_n 3, 1) := by decide +kernel
theorem dL_law_465 : decode cL_law 465 = .ok (.iconst 2, 1) := by decide +kernel
theorem dL_law_466 : decode cL_law 466 = .ok (.iadd, 1) := by decide +kernel
theorem dL_law_467 : decode cL_law 467 = .ok (.iaload, 1) := by decide +kernel
theorem dL_law_468 : decode cL_law 468 = .ok (.invokevirtual 70, 3) := by decide +kernel
theorem dL_law_471 : decode cL_law 471 = .ok (.aload_n 2, 1) := by decide +kernel
theorem dL_law_472 : decode cL_law 472 = .ok (.aload_n 0, 1) := by decide +kernel
theorem dL_law_473 : decode cL_law 473 = .ok (.iload_n 3, 1) := by decide +kernel
theorem dL_law_474 : decode cL_law 474 = .ok (.iconst 1, 1) := by decide +kernel
theorem dL_law_475 : decode cL_law 475 = .ok (.iadd, 1) := by decide +kernel
theorem dL_law_476 : decode cL_law 476 = .ok (.iaload, 1) := by decide +kernel
theorem dL_law_477 : decode cL_law 477 = .ok (.aload_n 0, 1) := by decide +kernel
theorem dL_law_478 : decode cL_law 478 = .ok (.iload_n 3, 1) := by decide +kernel
theorem dL_law_479 : decode cL_law 479 = .ok (.iconst 2, 1) := by decide +kernel
theorem dL_law_480 : decode cL_law 480 = .ok (.iadd, 1) := by decide +kernel
theorem dL_law_481 : decode cL_law 481 = .ok (.iaload, 1) := by decide +kernel
theorem dL_law_482 : decode cL_law 482 = .ok (.invokevirtual 73, 3) := by decide +kernel
theorem dL_law_485 : decode cL_law 485 = .ok (.if_icmp .eq 95, 3) := by decide +kernel
theorem dL_law_488 : decode cL_law 488 = .ok (.iconst 0, 1) := by decide +kernel
theorem dL_law_489 : decode cL_law 489 = .ok (.ireturn, 1) := by decide +kernel
theorem dL_law_490 : decode cL_law 490 = .ok (.aload_n 1, 1) := by decide +kernel
theorem dL_law_491 : decode cL_law 491 = .ok (.aload_n 0, 1) := by decide +kernel
theorem dL_law_492 : decode cL_law 492 = .ok (.iload_n 3, 1) := by decide +kernel
theorem dL_law_493 : decode cL_law 493 = .ok (.iconst 1, 1) := by decide +kernel
theorem dL_law_494 : decode cL_law 494 = .ok (.iadd, 1) := by decide +kernel
theorem dL_law_495 : decode cL_law 495 = .ok (.iaload, 1) := by decide +kernel
theorem dL_law_496 : decode cL_law 496 = .ok (.aload_n 0, 1) := by decide +kernel
theorem dL_law_497 : decode cL_law 497 = .ok (.iload_n 3, 1) := by decide +kernel
theorem dL_law_498 : decode cL_law 498 = .ok (.iconst 2, 1) := by decide +kernel
theorem dL_law_499 : decode cL_law 499 = .ok (.iadd, 1) := by decide +kernel
theorem dL_law_500 : decode cL_law 500 = .ok (.iaload, 1) := by decide +kernel
theorem dL_law_501 : decode cL_law 501 = .ok (.aload_n 0, 1) := by decide +kernel
theorem dL_law_502 : decode cL_law 502 = .ok (.iload_n 3, 1) := by decide +kernel
theorem dL_law_503 : decode cL_law 503 = .ok (.iconst 3, 1) := by decide +kernel
theorem dL_law_504 : decode cL_law 504 = .ok (.iadd, 1) := by decide +kernel
theorem dL_law_505 : decode cL_law 505 = .ok (.iaload, 1) := by decide +kernel
theorem dL_law_506 : decode cL_law 506 = .ok (.aload_n 0, 1) := by decide +kernel
theorem dL_law_507 : decode cL_law 507 = .ok (.iload_n 3, 1) := by decide +kernel
theorem dL_law_508 : decode cL_law 508 = .ok (.iconst 4, 1) := by decide +kernel
theorem dL_law_509 : decode cL_law 509 = .ok (.iadd, 1) := by decide +kernel
theorem dL_law_510 : decode cL_law 510 = .ok (.iaload, 1) := by decide +kernel
theorem dL_law_511 : decode cL_law 511 = .ok (.invokevirtual 74, 3) := by decide +kernel
theorem dL_law_514 : decode cL_law 514 = .ok (.aload_n 2, 1) := by decide +kernel
theorem dL_law_515 : decode cL_law 515 = .ok (.aload_n 0, 1) := by decide +kernel
theorem dL_law_516 : decode cL_law 516 = .ok (.iload_n 3, 1) := by decide +kernel
theorem dL_law_517 : decode cL_law 517 = .ok (.iconst 1, 1) := by decide +kernel
theorem dL_law_518 : decode cL_law 518 = .ok (.iadd, 1) := by decide +kernel
theorem dL_law_519 : decode cL_law 519 = .ok (.iaload, 1) := by decide +kernel
theorem dL_law_520 : decode cL_law 520 = .ok (.aload_n 0, 1) := by decide +kernel
theorem dL_law_521 : decode cL_law 521 = .ok (.iload_n 3, 1) := by decide +kernel
theorem dL_law_522 : decode cL_law 522 = .ok (.iconst 2, 1) := by decide +kernel
theorem dL_law_523 : decode cL_law 523 = .ok (.iadd, 1) := by decide +kernel
theorem dL_law_524 : decode cL_law 524 = .ok (.iaload, 1) := by decide +kernel
theorem dL_law_525 : decode cL_law 525 = .ok (.aload_n 0, 1) := by decide +kernel
theorem dL_law_526 : decode cL_law 526 = .ok (.iload_n 3, 1) := by decide +kernel
theorem dL_law_527 : decode cL_law 527 = .ok (.iconst 3, 1) := by decide +kernel
theorem dL_law_528 : decode cL_law 528 = .ok (.iadd, 1) := by decide +kernel
theorem dL_law_529 : decode cL_law 529 = .ok (.iaload, 1) := by decide +kernel
theorem dL_law_530 : decode cL_law 530 = .ok (.aload_n 0, 1) := by decide +kernel
theorem dL_law_531 : decode cL_law 531 = .ok (.iload_n 3, 1) := by decide +kernel
theorem dL_law_532 : decode cL_law 532 = .ok (.iconst 4, 1) := by decide +kernel
theorem dL_law_533 : decode cL_law 533 = .ok (.iadd, 1) := by decide +kernel
theorem dL_law_534 : decode cL_law 534 = .ok (.iaload, 1) := by decide +kernel
theorem dL_law_535 : decode cL_law 535 = .ok (.invokevirtual 78, 3) := by decide +kernel
theorem dL_law_538 : decode cL_law 538 = .ok (.if_icmp .eq 42, 3) := by decide +kernel
theorem dL_law_541 : decode cL_law 541 = .ok (.iconst 0, 1) := by decide +kernel
theorem dL_law_542 : decode cL_law 542 = .ok (.ireturn, 1) := by decide +kernel
theorem dL_law_543 : decode cL_law 543 = .ok (.aload_n 1, 1) := by decide +kernel
theorem dL_law_544 : decode cL_law 544 = .ok (.invokevirtual 79, 3) := by decide +kernel
theorem dL_law_547 : decode cL_law 547 = .ok (.aload_n 2, 1) := by decide +kernel
theorem dL_law_548 : decode cL_law 548 = .ok (.invokevirtual 83, 3) := by decide +kernel
theorem dL_law_551 : decode cL_law 551 = .ok (.if_icmp .eq 29, 3) := by decide +kernel
theorem dL_law_554 : decode cL_law 554 = .ok (.iconst 0, 1) := by decide +kernel
theorem dL_law_555 : decode cL_law 555 = .ok (.ireturn, 1) := by decide +kernel
theorem dL_law_556 : decode cL_law 556 = .ok (.aload_n 1, 1) := by decide +kernel
theorem dL_law_557 : decode cL_law 557 = .ok (.invokevirtual 84, 3) := by decide +kernel
theorem dL_law_560 : decode cL_law 560 = .ok (.aload_n 2, 1) := by decide +kernel
theorem dL_law_561 : decode cL_law 561 = .ok (.invokevirtual 87, 3) := by decide +kernel
theorem dL_law_564 : decode cL_law 564 = .ok (.goto 16, 3) := by decide +kernel
theorem dL_law_567 : decode cL_law 567 = .ok (.aload_n 1, 1) := by decide +kernel
theorem dL_law_568 : decode cL_law 568 = .ok (.invokevirtual 88, 3) := by decide +kernel
theorem dL_law_571 : decode cL_law 571 = .ok (.aload_n 2, 1) := by decide +kernel
theorem dL_law_572 : decode cL_law 572 = .ok (.invokevirtual 91, 3) := by decide +kernel
theorem dL_law_575 : decode cL_law 575 = .ok (.if_icmp .eq 5, 3) := by decide +kernel
theorem dL_law_578 : decode cL_law 578 = .ok (.iconst 0, 1) := by decide +kernel
theorem dL_law_579 : decode cL_law 579 = .ok (.ireturn, 1) := by decide +kernel
theorem dL_law_580 : decode cL_law 580 = .ok (.iinc 3 5, 3) := by decide +kernel
theorem dL_law_583 : decode cL_law 583 = .ok (.goto (-565), 3) := by decide +kernel
theorem dL_law_586 : decode cL_law 586 = .ok (.iconst 1, 1) := by decide +kernel
theorem dL_law_587 : decode cL_law 587 = .ok (.ireturn, 1) := by decide +kernel
end
section
/-! the abstract machine: values, shapes of cells, worlds -/
def gtbl : List Cond := lw_tbl.filter goodWord
theorem gt_of {w : Cond} (h : w ∈ lw_tbl) (g : goodWord w = true) : w ∈ gtbl := List.mem_filter.mpr ⟨h, g⟩
theorem gt_good {w : Cond} (h : w ∈ gtbl) : goodWord w = true := (List.mem_filter.mp h).2
/-- a value: an int, or a reference (none is null, else a cell's number) -/
abbrev AV : Type := Int32 ⊕ Option Nat
/-- a cell's shape: an int array's length; an array of references, its kind and what it holds; an object, its class and slots (none an int, some r a reference) -/
abbrev SC : Type := Nat ⊕ ((Nat × List (Option Nat)) ⊕ (Nat × List (Option (Option Nat))))
abbrev SH : Type := List SC
abbrev HI : Type := Nat → Nat → Int32
abbrev AD : Type := List (Nat × ClassId)
def adr (ads : AD) (k : Nat) : Nat := (ads.getD k (0, 0)).1
def cv (ads : AD) : AV → Value
  | .inl v => .int v
  | .inr none => .null
  | .inr (some k) => .ref (adr ads k)
theorem cv_cat (ads : AD) (v : AV) : (cv ads v).category = 1 := by
  match v with
  | .inl _ => rfl
  | .inr none => rfl
  | .inr (some _) => rfl
def rty (k : Nat) : FieldType := if k = 0 then .object RX0 else .array .int
def fv (ads : AD) (v : Int32) (o : Option (Option Nat)) : Value := match o with
  | none => .int v
  | some r => cv ads (.inr r)
def fsv (ads : AD) (I : HI) (k : Nat) (fs : List (Option (Option Nat))) : List Value := fs.mapIdx (fun j o => fv ads (I k j) o)
def wcell (ads : AD) (I A : HI) (k : Nat) (q : (Nat × ClassId) × SC) : Nat × va_E := (q.1.1, match q.2 with
  | .inl n => .inl (q.1.2, n, .inl (A k))
  | .inr (.inl f) => .inl (q.1.2, f.2.length, .inr (.inr (.inr (.inr (fun i => (f.2.getD i none).map (adr ads))))))
  | .inr (.inr o) => .inr (o.1, fsv ads I k o.2))
def wld (ads : AD) (sh : SH) (I A : HI) : va_W := (ads.zip sh).mapIdx (fun k q => wcell ads I A k q)
def ctys (q : (Nat × ClassId) × SC) : Option (ClassId × FieldType) := match q.2 with
  | .inl _ => some (q.1.2, .int)
  | .inr (.inl f) => some (q.1.2, rty f.1)
  | .inr (.inr _) => none
def tysOf (ads : AD) (sh : SH) : List (ClassId × FieldType) := (ads.zip sh).filterMap ctys
theorem wld_get {ads : AD} {sh : SH} {I A : HI} {k : Nat} {x : Nat × ClassId} {c : SC} (h1 : ads[k]? = some x) (h2 : sh[k]? = some c) : (wld ads sh I A)[k]? = some (wcell ads I A k (x, c)) := by
  have hz : (ads.zip sh)[k]? = some (x, c) := List.getElem?_zip_eq_some.mpr ⟨h1, h2⟩
  unfold wld
  rw [List.getElem?_mapIdx, hz]
  rfl
theorem wld_inv {ads : AD} {sh : SH} {I A : HI} {k : Nat} {q : Nat × va_E} (h : (wld ads sh I A)[k]? = some q) : ∃ x c, ads[k]? = some x ∧ sh[k]? = some c ∧ q = wcell ads I A k (x, c) := by
  unfold wld at h
  rw [List.getElem?_mapIdx] at h
  cases hz : (ads.zip sh)[k]? with
  | none => rw [hz] at h; cases h
  | some z =>
    rw [hz] at h
    obtain ⟨x, c⟩ := z
    obtain ⟨a1, a2⟩ := List.getElem?_zip_eq_some.mp hz
    exact ⟨x, c, a1, a2, (Option.some.inj h).symm⟩
theorem adr_of {ads : AD} {k : Nat} {x : Nat × ClassId} (h : ads[k]? = some x) : adr ads k = x.1 := by
  unfold adr
  rw [List.getD_eq_getElem?_getD, h]
  rfl
theorem tys_int {ads : AD} {sh : SH} {k : Nat} {x : Nat × ClassId} {n : Nat} (h1 : ads[k]? = some x) (h2 : sh[k]? = some (.inl n)) : ∃ t : Nat, (tysOf ads sh)[t]? = some (x.2, .int) := by
  have hz : (ads.zip sh)[k]? = some (x, .inl n) := List.getElem?_zip_eq_some.mpr ⟨h1, h2⟩
  exact List.getElem?_of_mem (List.mem_filterMap.mpr ⟨_, List.mem_of_getElem? hz, rfl⟩)
theorem tys_ref {ads : AD} {sh : SH} {k : Nat} {x : Nat × ClassId} {f : Nat × List (Option Nat)} (h1 : ads[k]? = some x) (h2 : sh[k]? = some (.inr (.inl f))) : ∃ t : Nat, (tysOf ads sh)[t]? = some (x.2, rty f.1) := by
  have hz : (ads.zip sh)[k]? = some (x, .inr (.inl f)) := List.getElem?_zip_eq_some.mpr ⟨h1, h2⟩
  exact List.getElem?_of_mem (List.mem_filterMap.mpr ⟨_, List.mem_of_getElem? hz, rfl⟩)
/-- f, but v at (k, j) -/
def up2 (f : HI) (k j : Nat) (v : Int32) : HI := fun a b => if a = k ∧ b = j then v else f a b
theorem up2_s {f : HI} {k j : Nat} {v : Int32} : up2 f k j v k j = v := if_pos ⟨rfl, rfl⟩
theorem up2_k {f : HI} {k j a b : Nat} {v : Int32} (h : a ≠ k) : up2 f k j v a b = f a b := if_neg (fun q => h q.1)
theorem up2_j {f : HI} {k j a b : Nat} {v : Int32} (h : b ≠ j) : up2 f k j v a b = f a b := if_neg (fun q => h q.2)
theorem up2_row {f : HI} {k j : Nat} {v : Int32} : up2 f k j v k = upd (f k) j v := by
  funext b
  unfold up2 upd
  by_cases h : b = j
  · rw [if_pos ⟨rfl, h⟩, if_pos h]
  · rw [if_neg (fun q => h q.2), if_neg h]
theorem up2_off {f : HI} {k j a : Nat} {v : Int32} (h : a ≠ k) : up2 f k j v a = f a := by
  funext b
  exact up2_k h
theorem wld_len {ads : AD} {sh : SH} {I A : HI} : (wld ads sh I A).length = min ads.length sh.length := by
  unfold wld
  rw [List.length_mapIdx, List.length_zip]
theorem wld_setA {ads : AD} {sh : SH} {I A : HI} {k j n : Nat} {x : Nat × ClassId} {v : Int32} (h1 : ads[k]? = some x) (h2 : sh[k]? = some (.inl n)) : (wld ads sh I A).set k (x.1, .inl (x.2, n, .inl (upd (A k) j v))) = wld ads sh I (up2 A k j v) := by
  apply List.ext_getElem?
  intro i
  by_cases hi : k = i
  · subst hi
    have hl : k < (wld ads sh I A).length := (List.getElem?_eq_some_iff.mp (wld_get (I := I) (A := A) h1 h2)).1
    rw [List.getElem?_set_self hl, wld_get h1 h2]
    show _ = some (x.1, _)
    congr 2
    show Sum.inl (x.2, n, Sum.inl (upd (A k) j v)) = Sum.inl (x.2, n, Sum.inl (up2 A k j v k))
    rw [up2_row]
  · rw [List.getElem?_set_ne hi]
    unfold wld
    rw [List.getElem?_mapIdx, List.getElem?_mapIdx]
    congr 1
    funext q
    unfold wcell
    rw [up2_off (Ne.symm hi)]
theorem fsv_get {ads : AD} {I : HI} {k j : Nat} {fs : List (Option (Option Nat))} {o : Option (Option Nat)} (h : fs[j]? = some o) : (fsv ads I k fs)[j]? = some (fv ads (I k j) o) := by
  unfold fsv
  rw [List.getElem?_mapIdx, h]
  rfl
theorem fsv_set {ads : AD} {I : HI} {k j : Nat} {fs : List (Option (Option Nat))} {v : Int32} (h : fs[j]? = some none) : (fsv ads I k fs).set j (.int v) = fsv ads (up2 I k j v) k fs := by
  apply List.ext_getElem?
  intro i
  by_cases hi : j = i
  · subst hi
    have hl : j < (fsv ads I k fs).length := (List.getElem?_eq_some_iff.mp (fsv_get (ads := ads) (I := I) (k := k) h)).1
    rw [List.getElem?_set_self hl, fsv_get h]
    show some (Value.int v) = some (Value.int (up2 I k j v k j))
    rw [up2_s]
  · rw [List.getElem?_set_ne hi]
    unfold fsv
    rw [List.getElem?_mapIdx, List.getElem?_mapIdx]
    congr 1
    funext q
    rw [up2_j (Ne.symm hi)]
theorem fsv_off {ads : AD} {I : HI} {k j a : Nat} {fs : List (Option (Option Nat))} {v : Int32} (h : a ≠ k) : fsv ads (up2 I k j v) a fs = fsv ads I a fs := by
  unfold fsv
  rw [up2_off h]
theorem wld_setI {ads : AD} {sh : SH} {I A : HI} {k j ci : Nat} {fs : List (Option (Option Nat))} {x : Nat × ClassId} {v : Int32} (h1 : ads[k]? = some x) (h2 : sh[k]? = some (.inr (.inr (ci, fs)))) (h : fs[j]? = some none) : (wld ads sh I A).set k (x.1, .inr (ci, (fsv ads I k fs).set j (.int v))) = wld ads sh (up2 I k j v) A := by
  apply List.ext_getElem?
  intro i
  by_cases hi : k = i
  · subst hi
    have hl : k < (wld ads sh I A).length := (List.getElem?_eq_some_iff.mp (wld_get (I := I) (A := A) h1 h2)).1
    rw [List.getElem?_set_self hl, wld_get h1 h2, fsv_set h]
    rfl
  · rw [List.getElem?_set_ne hi]
    unfold wld
    rw [List.getElem?_mapIdx, List.getElem?_mapIdx]
    congr 1
    funext q
    unfold wcell
    simp only [fsv_off (Ne.symm hi)]
/-- the addresses don't hang on what the cells hold -/
theorem wld_D {A0 B0 : Nat → Prop} {ads : AD} {sh : SH} {I A I2 A2 : HI} (h : va_D A0 (wld ads sh I A)) (hb : ∀ q, A0 q → B0 q) : va_D B0 (wld ads sh I2 A2) := by
  have key : ∀ (k : Nat) (q : Nat × va_E), (wld ads sh I2 A2)[k]? = some q → ∃ q0, (wld ads sh I A)[k]? = some q0 ∧ q0.1 = q.1 := by
    intro k q hq
    obtain ⟨x, c, h1, h2, rfl⟩ := wld_inv hq
    exact ⟨_, wld_get h1 h2, rfl⟩
  refine ⟨fun i j a b hi hj hab => ?_, fun k q hq => ?_⟩
  · obtain ⟨a0, e1, e2⟩ := key i a hi
    obtain ⟨b0, e3, e4⟩ := key j b hj
    exact h.1 i j a0 b0 e1 e3 (by rw [e2, e4]; exact hab)
  · obtain ⟨q0, e1, e2⟩ := key k q hq
    rw [← e2]
    exact hb _ (h.2 k q0 e1)
/-- which cells a method may change: those of the world, and new ones -/
def AdS (ads : AD) (sz : Nat) : Nat → Prop := fun q => (∃ (k : Nat) (x : Nat × ClassId), ads[k]? = some x ∧ q = x.1) ∨ sz ≤ q
theorem wld_self {A0 : Nat → Prop} {ads : AD} {sh : SH} {I A : HI} {sz : Nat} (h : va_D A0 (wld ads sh I A)) : va_D (AdS ads sz) (wld ads sh I A) := by
  refine ⟨h.1, fun k q hq => ?_⟩
  obtain ⟨x, c, h1, h2, rfl⟩ := wld_inv hq
  exact Or.inl ⟨k, x, h1, rfl⟩
theorem AdS_sub {A0 : Nat → Prop} {ads : AD} {sh : SH} {I A : HI} {H0 H : Heap} {locs : List Loc} (hl : ads.length = sh.length) (hD : va_D A0 (wld ads sh I A)) (hS : va_S A0 H0 H locs) (hA : ∀ q : Nat, H0.size ≤ q → A0 q) : ∀ q : Nat, AdS ads H.size q → A0 q := by
  intro q hq
  rcases hq with ⟨k, x, h1, rfl⟩ | h
  · have hk : k < sh.length := by rw [← hl]; exact (List.getElem?_eq_some_iff.mp h1).1
    exact hD.2 k _ (wld_get h1 (List.getElem?_eq_getElem hk))
  · exact hA q (Nat.le_trans hS.1 h)
/-- locals -/
def LH (ads : AD) (nL : Nat) (ls : List (Option AV)) (a : Array Slot) : Prop := a.size = nL ∧ ls.length = nL ∧ lv_wf a ∧ ∀ (i : Nat) (v : AV), ls[i]? = some (some v) → a[i]? = some (.val (cv ads v))
def lvl (ads : AD) (ls : List (Option AV)) : List (Nat × Value) := ls.zipIdx.filterMap (fun q => q.1.map (fun v => (q.2, cv ads v)))
theorem lvl_mem {ads : AD} {ls : List (Option AV)} {i : Nat} {w : Value} : (i, w) ∈ lvl ads ls ↔ ∃ v, ls[i]? = some (some v) ∧ w = cv ads v := by
  unfold lvl
  rw [List.mem_filterMap]
  constructor
  · rintro ⟨⟨o, j⟩, h1, h2⟩
    have h3 := List.mem_zipIdx_iff_getElem?.mp h1
    cases o with
    | none => cases h2
    | some v =>
      cases h2
      exact ⟨v, h3, rfl⟩
  · rintro ⟨v, h1, rfl⟩
    exact ⟨(some v, i), List.mem_zipIdx_iff_getElem?.mpr h1, rfl⟩
theorem LH.has {ads : AD} {nL : Nat} {ls : List (Option AV)} {a : Array Slot} (h : LH ads nL ls a) : lv_has a nL (lvl ads ls) := by
  refine ⟨h.1, h.2.2.1, fun q hq => ?_⟩
  obtain ⟨i, w⟩ := q
  obtain ⟨v, h1, rfl⟩ := lvl_mem.mp hq
  exact h.2.2.2 i v h1
theorem LH.set {ads : AD} {nL i : Nat} {ls : List (Option AV)} {a : Array Slot} {v : AV} (hl : ls.length = nL) (h : lv_has a nL ((i, cv ads v) :: (lvl ads ls).filter (fun q => !(q.1 == i) && !(q.1 + 1 == i && q.2.category == 2)))) : LH ads nL (ls.set i (some v)) a := by
  refine ⟨h.1, by rw [List.length_set]; exact hl, h.2.1, fun j w hj => ?_⟩
  by_cases e : i = j
  · subst e
    have hlt : i < ls.length := by
      have := (List.getElem?_eq_some_iff.mp hj).1
      rwa [List.length_set] at this
    rw [List.getElem?_set_self hlt] at hj
    cases hj
    exact h.2.2 (i, cv ads v) List.mem_cons_self
  · rw [List.getElem?_set_ne e] at hj
    refine h.2.2 (j, cv ads w) (List.mem_cons_of_mem _ (List.mem_filter.mpr ⟨lvl_mem.mpr ⟨w, hj, rfl⟩, ?_⟩))
    have e2 : ¬ j = i := fun q => e q.symm
    simp [e2, cv_cat]
end
section
/-! the goal G over the abstract state, and a row for each kind of instruction -/
/-- the nest mates' links, that are no words of a method's list -/
def nstw : List Cond := [.methodLinkNest RX8 11 yX2_init RX8, .methodLinkNest RX0 43 yX8_pair RX8, .methodLinkNest RX2 19 yX8_arePlaces RX8, .methodLinkNest RX5 74 yX8_arePlaces RX8, .methodLinkNest RX3 78 yX8_pair RX8, .methodLinkNest RX4 32 yX8_arePlaces RX8, .methodLinkNest RX1 19 yX8_isPlace RX8, .methodLinkNest RX4 28 yX8_isPlace RX8]
def RW (D : va_G) (B : Nat → Prop) (s : State) (ads : AD) (sh : SH) (I A : HI) (H : Heap) (locs : List Loc) : Prop :=
  ads.length = sh.length ∧ va_K D vwCl (tysOf ads sh) s ∧ va_P D vwCl (wld ads sh I A) H ∧ va_D B (wld ads sh I A) ∧ va_S B s.heap H locs
/-- what is fixed while a method runs -/
def CX (p : Program) (s : State) (m : MethodId) (args : Array Value) (meth : Method) (c : Code) (cc : ByteArray) (nL : Nat) (own : String) (B : Nat → Prop) : Prop :=
  p.tables.exec = Jvm.exec ∧ c.code = cc ∧ c.maxLocals = nL ∧ s.vm.findClass own = some m.cls ∧ (∀ w ∈ gtbl, w.before args s = true) ∧ (∀ q : Nat, s.heap.size ≤ q → B q) ∧ (∀ w ∈ nstw, va_Nw w s) ∧ meth.locks = false
def G (p : Program) (l : Launch) (e : Env) (R : Room) (s : State) (m : MethodId) (args : Array Value) (below : List Frame) (meth : Method) (c : Code) (Q : State → Prop) (D : va_G) (B : Nat → Prop) (nL : Nat) (cells slots : Nat) (ads : AD) (sh : SH) (I A : HI) (pc : Nat) (ls : List (Option AV)) (st : List AV) : Prop :=
  ∀ (H : Heap) (locs : List Loc) (a : Array Slot), RW D B s ads sh I A H locs → LH ads nL ls a → W p l e R s m args below meth c H locs cells slots Q (F0 m pc a (st.map (cv ads)))
section GG
variable {p : Program} {l : Launch} {e : Env} {R : Room} {s : State} {m : MethodId} {args : Array Value} {below : List Frame} {meth : Method} {c : Code} {Q : State → Prop} {D : va_G} {B : Nat → Prop} {nL cells slots : Nat} {ads : AD} {sh : SH} {I A : HI} {pc : Nat} {ls : List (Option AV)} {st : List AV} {cc : ByteArray} {own : String}
/-! branches -/
theorem g_goto (hC : CX p s m args meth c cc nL own B) {off : Int} {tgt : Nat} (hd : decode cc pc = .ok (.goto off, 3)) (ht : (pc : Int) + off = (tgt : Int)) (k : G p l e R s m args below meth c Q D B nL cells slots ads sh I A tgt ls st) : G p l e R s m args below meth c Q D B nL cells slots ads sh I A pc ls st :=
  fun H locs a hR hL => lv_goto hC.1 hC.2.1 hd ht (k H locs a hR hL)
theorem g_ifeq (hC : CX p s m args meth c cc nL own B) {x : Int32} {off : Int} {tgt : Nat} (hd : decode cc pc = .ok (.ifCond .eq off, 3)) (ht : (pc : Int) + off = (tgt : Int)) (kt : x = 0 → G p l e R s m args below meth c Q D B nL cells slots ads sh I A tgt ls st) (kf : ¬ x = 0 → G p l e R s m args below meth c Q D B nL cells slots ads sh I A (pc + 3) ls st) : G p l e R s m args below meth c Q D B nL cells slots ads sh I A pc ls (.inl x :: st) :=
  fun H locs a hR hL => lv_if_eq hC.1 hC.2.1 hd ht (fun h => kt h H locs a hR hL) (fun h => kf h H locs a hR hL)
theorem g_ifne (hC : CX p s m args meth c cc nL own B) {x : Int32} {off : Int} {tgt : Nat} (hd : decode cc pc = .ok (.ifCond .ne off, 3)) (ht : (pc : Int) + off = (tgt : Int)) (kt : ¬ x = 0 → G p l e R s m args below meth c Q D B nL cells slots ads sh I A tgt ls st) (kf : x = 0 → G p l e R s m args below meth c Q D B nL cells slots ads sh I A (pc + 3) ls st) : G p l e R s m args below meth c Q D B nL cells slots ads sh I A pc ls (.inl x :: st) :=
  fun H locs a hR hL => lv_if_ne hC.1 hC.2.1 hd ht (fun h => kt h H locs a hR hL) (fun h => kf h H locs a hR hL)
theorem g_iflt (hC : CX p s m args meth c cc nL own B) {x : Int32} {off : Int} {tgt : Nat} (hd : decode cc pc = .ok (.ifCond .lt off, 3)) (ht : (pc : Int) + off = (tgt : Int)) (kt : x < 0 → G p l e R s m args below meth c Q D B nL cells slots ads sh I A tgt ls st) (kf : ¬ x < 0 → G p l e R s m args below meth c Q D B nL cells slots ads sh I A (pc + 3) ls st) : G p l e R s m args below meth c Q D B nL cells slots ads sh I A pc ls (.inl x :: st) :=
  fun H locs a hR hL => lv_if_lt hC.1 hC.2.1 hd ht (fun h => kt h H locs a hR hL) (fun h => kf h H locs a hR hL)
theorem g_ifge (hC : CX p s m args meth c cc nL own B) {x : Int32} {off : Int} {tgt : Nat} (hd : decode cc pc = .ok (.ifCond .ge off, 3)) (ht : (pc : Int) + off = (tgt : Int)) (kt : 0 ≤ x → G p l e R s m args below meth c Q D B nL cells slots ads sh I A tgt ls st) (kf : ¬ 0 ≤ x → G p l e R s m args below meth c Q D B nL cells slots ads sh I A (pc + 3) ls st) : G p l e R s m args below meth c Q D B nL cells slots ads sh I A pc ls (.inl x :: st) :=
  fun H locs a hR hL => lv_if_ge hC.1 hC.2.1 hd ht (fun h => kt h H locs a hR hL) (fun h => kf h H locs a hR hL)
theorem g_ifgt (hC : CX p s m args meth c cc nL own B) {x : Int32} {off : Int} {tgt : Nat} (hd : decode cc pc = .ok (.ifCond .gt off, 3)) (ht : (pc : Int) + off = (tgt : Int)) (kt : 0 < x → G p l e R s m args below meth c Q D B nL cells slots ads sh I A tgt ls st) (kf : ¬ 0 < x → G p l e R s m args below meth c Q D B nL cells slots ads sh I A (pc + 3) ls st) : G p l e R s m args below meth c Q D B nL cells slots ads sh I A pc ls (.inl x :: st) :=
  fun H locs a hR hL => lv_if_gt hC.1 hC.2.1 hd ht (fun h => kt h H locs a hR hL) (fun h => kf h H locs a hR hL)
theorem g_ifle (hC : CX p s m args meth c cc nL own B) {x : Int32} {off : Int} {tgt : Nat} (hd : decode cc pc = .ok (.ifCond .le off, 3)) (ht : (pc : Int) + off = (tgt : Int)) (kt : x ≤ 0 → G p l e R s m args below meth c Q D B nL cells slots ads sh I A tgt ls st) (kf : ¬ x ≤ 0 → G p l e R s m args below meth c Q D B nL cells slots ads sh I A (pc + 3) ls st) : G p l e R s m args below meth c Q D B nL cells slots ads sh I A pc ls (.inl x :: st) :=
  fun H locs a hR hL => lv_if_le hC.1 hC.2.1 hd ht (fun h => kt h H locs a hR hL) (fun h => kf h H locs a hR hL)
theorem g_ceq (hC : CX p s m args meth c cc nL own B) {x y : Int32} {off : Int} {tgt : Nat} (hd : decode cc pc = .ok (.if_icmp .eq off, 3)) (ht : (pc : Int) + off = (tgt : Int)) (kt : x = y → G p l e R s m args below meth c Q D B nL cells slots ads sh I A tgt ls st) (kf : ¬ x = y → G p l e R s m args below meth c Q D B nL cells slots ads sh I A (pc + 3) ls st) : G p l e R s m args below meth c Q D B nL cells slots ads sh I A pc ls (.inl y :: .inl x :: st) :=
  fun H locs a hR hL => lv_icmp_eq hC.1 hC.2.1 hd ht (fun h => kt h H locs a hR hL) (fun h => kf h H locs a hR hL)
theorem g_cne (hC : CX p s m args meth c cc nL own B) {x y : Int32} {off : Int} {tgt : Nat} (hd : decode cc pc = .ok (.if_icmp .ne off, 3)) (ht : (pc : Int) + off = (tgt : Int)) (kt : ¬ x = y → G p l e R s m args below meth c Q D B nL cells slots ads sh I A tgt ls st) (kf : x = y → G p l e R s m args below meth c Q D B nL cells slots ads sh I A (pc + 3) ls st) : G p l e R s m args below meth c Q D B nL cells slots ads sh I A pc ls (.inl y :: .inl x :: st) :=
  fun H locs a hR hL => lv_icmp_ne hC.1 hC.2.1 hd ht (fun h => kt h H locs a hR hL) (fun h => kf h H locs a hR hL)
theorem g_clt (hC : CX p s m args meth c cc nL own B) {x y : Int32} {off : Int} {tgt : Nat} (hd : decode cc pc = .ok (.if_icmp .lt off, 3)) (ht : (pc : Int) + off = (tgt : Int)) (kt : x < y → G p l e R s m args below meth c Q D B nL cells slots ads sh I A tgt ls st) (kf : ¬ x < y → G p l e R s m args below meth c Q D B nL cells slots ads sh I A (pc + 3) ls st) : G p l e R s m args below meth c Q D B nL cells slots ads sh I A pc ls (.inl y :: .inl x :: st) :=
  fun H locs a hR hL => lv_icmp_lt hC.1 hC.2.1 hd ht (fun h => kt h H locs a hR hL) (fun h => kf h H locs a hR hL)
theorem g_cge (hC : CX p s m args meth c cc nL own B) {x y : Int32} {off : Int} {tgt : Nat} (hd : decode cc pc = .ok (.if_icmp .ge off, 3)) (ht : (pc : Int) + off = (tgt : Int)) (kt : y ≤ x → G p l e R s m args below meth c Q D B nL cells slots ads sh I A tgt ls st) (kf : ¬ y ≤ x → G p l e R s m args below meth c Q D B nL cells slots ads sh I A (pc + 3) ls st) : G p l e R s m args below meth c Q D B nL cells slots ads sh I A pc ls (.inl y :: .inl x :: st) :=
  fun H locs a hR hL => lv_icmp_ge hC.1 hC.2.1 hd ht (fun h => kt h H locs a hR hL) (fun h => kf h H locs a hR hL)
theorem g_cgt (hC : CX p s m args meth c cc nL own B) {x y : Int32} {off : Int} {tgt : Nat} (hd : decode cc pc = .ok (.if_icmp .gt off, 3)) (ht : (pc : Int) + off = (tgt : Int)) (kt : y < x → G p l e R s m args below meth c Q D B nL cells slots ads sh I A tgt ls st) (kf : ¬ y < x → G p l e R s m args below meth c Q D B nL cells slots ads sh I A (pc + 3) ls st) : G p l e R s m args below meth c Q D B nL cells slots ads sh I A pc ls (.inl y :: .inl x :: st) :=
  fun H locs a hR hL => lv_icmp_gt hC.1 hC.2.1 hd ht (fun h => kt h H locs a hR hL) (fun h => kf h H locs a hR hL)
theorem g_cle (hC : CX p s m args meth c cc nL own B) {x y : Int32} {off : Int} {tgt : Nat} (hd : decode cc pc = .ok (.if_icmp .le off, 3)) (ht : (pc : Int) + off = (tgt : Int)) (kt : x ≤ y → G p l e R s m args below meth c Q D B nL cells slots ads sh I A tgt ls st) (kf : ¬ x ≤ y → G p l e R s m args below meth c Q D B nL cells slots ads sh I A (pc + 3) ls st) : G p l e R s m args below meth c Q D B nL cells slots ads sh I A pc ls (.inl y :: .inl x :: st) :=
  fun H locs a hR hL => lv_icmp_le hC.1 hC.2.1 hd ht (fun h => kt h H locs a hR hL) (fun h => kf h H locs a hR hL)
theorem g_tabO (hC : CX p s m args meth c cc nL own B) {dflt lo hi : Int} {offs : Array Int} {len : Nat} {x : Int32} {tgt : Nat} (hd : decode cc pc = .ok (.tableswitch dflt lo hi offs, len)) (h : x.toInt < lo ∨ hi < x.toInt) (ht : (pc : Int) + dflt = (tgt : Int)) (k : G p l e R s m args below meth c Q D B nL cells slots ads sh I A tgt ls st) : G p l e R s m args below meth c Q D B nL cells slots ads sh I A pc ls (.inl x :: st) :=
  fun H locs a hR hL => lv_tableOut hC.1 hC.2.1 hd h ht (k H locs a hR hL)
theorem g_tabI (hC : CX p s m args meth c cc nL own B) {dflt lo hi : Int} {offs : Array Int} {len : Nat} {x : Int32} {off : Int} {tgt : Nat} (hd : decode cc pc = .ok (.tableswitch dflt lo hi offs, len)) (h1 : ¬ x.toInt < lo) (h2 : ¬ hi < x.toInt) (ho : offs[(x.toInt - lo).toNat]? = some off) (ht : (pc : Int) + off = (tgt : Int)) (k : G p l e R s m args below meth c Q D B nL cells slots ads sh I A tgt ls st) : G p l e R s m args below meth c Q D B nL cells slots ads sh I A pc ls (.inl x :: st) :=
  fun H locs a hR hL => lv_tableIn hC.1 hC.2.1 hd h1 h2 ho ht (k H locs a hR hL)
/-! division -/
theorem g_idiv (hC : CX p s m args meth c cc nL own B) {x y : Int32} (hd : decode cc pc = .ok (.idiv, 1)) (hy : ¬ y = 0) (k : G p l e R s m args below meth c Q D B nL cells slots ads sh I A (pc + 1) ls (.inl (x / y) :: st)) : G p l e R s m args below meth c Q D B nL cells slots ads sh I A pc ls (.inl y :: .inl x :: st) :=
  fun H locs a hR hL => lv_idiv hC.1 hC.2.1 hd hy (k H locs a hR hL)
theorem g_irem (hC : CX p s m args meth c cc nL own B) {x y : Int32} (hd : decode cc pc = .ok (.irem, 1)) (hy : ¬ y = 0) (k : G p l e R s m args below meth c Q D B nL cells slots ads sh I A (pc + 1) ls (.inl (x - x / y * y) :: st)) : G p l e R s m args below meth c Q D B nL cells slots ads sh I A pc ls (.inl y :: .inl x :: st) :=
  fun H locs a hR hL => lv_irem hC.1 hC.2.1 hd hy (k H locs a hR hL)
/-! arrays -/
theorem ad_get {B : Nat → Prop} {s : State} {H : Heap} {locs : List Loc} (hR : RW D B s ads sh I A H locs) {k : Nat} {q : SC} (h : sh[k]? = some q) : ∃ x, ads[k]? = some x := by
  have hk : k < ads.length := by rw [hR.1]; exact (List.getElem?_eq_some_iff.mp h).1
  exact ⟨ads[k], List.getElem?_eq_getElem hk⟩
theorem g_iald (hC : CX p s m args meth c cc nL own B) {i : Int32} {k n : Nat} (hd : decode cc pc = .ok (.iaload, 1)) (hs : sh[k]? = some (.inl n)) (hin : vp_in i n) (kk : G p l e R s m args below meth c Q D B nL cells slots ads sh I A (pc + 1) ls (.inl (A k i.toNatClampNeg) :: st)) : G p l e R s m args below meth c Q D B nL cells slots ads sh I A pc ls (.inl i :: .inr (some k) :: st) := by
  intro H locs a hR hL
  obtain ⟨x, hx⟩ := ad_get hR hs
  obtain ⟨t, ht⟩ := tys_int hx hs
  have hw := wld_get (I := I) (A := A) hx hs
  have ha : adr ads k = x.1 := adr_of hx
  show W p l e R s m args below meth c H locs cells slots Q (F0 m pc a (.int i :: .ref (adr ads k) :: st.map (cv ads)))
  rw [ha]
  exact va_iald hC.1 hC.2.1 hR.2.1 hR.2.2.1 k t hw ht hin hd (kk H locs a hR hL)
theorem g_iast (hC : CX p s m args meth c cc nL own B) {i v : Int32} {k n : Nat} (hd : decode cc pc = .ok (.iastore, 1)) (hs : sh[k]? = some (.inl n)) (hin : vp_in i n) (kk : G p l e R s m args below meth c Q D B nL cells slots ads sh I (up2 A k i.toNatClampNeg v) (pc + 1) ls st) : G p l e R s m args below meth c Q D B nL cells slots ads sh I A pc ls (.inl v :: .inl i :: .inr (some k) :: st) := by
  intro H locs a hR hL
  obtain ⟨x, hx⟩ := ad_get hR hs
  obtain ⟨t, ht⟩ := tys_int hx hs
  have hw := wld_get (I := I) (A := A) hx hs
  have ha : adr ads k = x.1 := adr_of hx
  show W p l e R s m args below meth c H locs cells slots Q (F0 m pc a (.int v :: .int i :: .ref (adr ads k) :: st.map (cv ads)))
  rw [ha]
  refine va_iast hC.1 hC.2.1 hR.2.1 hR.2.2.1 hR.2.2.2.1 hR.2.2.2.2 k t hw ht hin hd (fun H1 locs1 hP hD hS => ?_)
  rw [wld_setA hx hs] at hP hD
  exact kk H1 locs1 a ⟨hR.1, hR.2.1, hP, hD, hS⟩ hL
end GG
end
section
/-! straight stretches: a function of the abstract state, and its soundness -/
/-- an instruction: its kind, two numbers, a slot, a constant -/
abbrev AI : Type := Nat × Nat × Nat × Nat × Int32
abbrev CF : Type := List (Option AV) × List AV × HI
def lnA : Nat → Nat
  | 1 => 2 | 2 => 3 | 4 => 2 | 6 => 2 | 8 => 2 | 10 => 2 | 11 => 3 | 23 => 3 | 24 => 3 | 25 => 3 | 26 => 2 | _ => 1
def clsN (ci : Nat) : vw_C := vwCl.getD ci ("", fun _ => ("", "", "", false), 0)
def fldw (own : String) (idx ci k : Nat) : Cond := .fieldLink own idx ((clsN ci).2.1 k).1 ((clsN ci).2.1 k).2.1 ((clsN ci).2.1 k).2.2.1
def ok1 (cc : ByteArray) (own : String) (pc : Nat) (a : AI) : Prop := match a with
  | (0, _, _, _, v) => ∃ n, decode cc pc = .ok (.iconst n, 1) ∧ Int32.ofInt n = v
  | (1, _, _, _, v) => ∃ n, decode cc pc = .ok (.bipush n, 2) ∧ (Int8.ofInt n).toInt32 = v
  | (2, _, _, _, v) => ∃ n, decode cc pc = .ok (.sipush n, 3) ∧ (Int16.ofInt n).toInt32 = v
  | (3, i, _, _, _) => ∃ k : Fin 4, decode cc pc = .ok (.iload_n k, 1) ∧ (k : Nat) = i
  | (4, i, _, _, _) => decode cc pc = .ok (.iload i, 2)
  | (5, i, _, _, _) => ∃ k : Fin 4, decode cc pc = .ok (.aload_n k, 1) ∧ (k : Nat) = i
  | (6, i, _, _, _) => decode cc pc = .ok (.aload i, 2)
  | (7, i, _, _, _) => ∃ k : Fin 4, decode cc pc = .ok (.istore_n k, 1) ∧ (k : Nat) = i
  | (8, i, _, _, _) => decode cc pc = .ok (.istore i, 2)
  | (9, i, _, _, _) => ∃ k : Fin 4, decode cc pc = .ok (.astore_n k, 1) ∧ (k : Nat) = i
  | (10, i, _, _, _) => decode cc pc = .ok (.astore i, 2)
  | (11, i, _, _, v) => ∃ n, decode cc pc = .ok (.iinc i n, 3) ∧ Int32.ofInt n = v
  | (12, _, _, _, _) => decode cc pc = .ok (.iadd, 1)
  | (13, _, _, _, _) => decode cc pc = .ok (.isub, 1)
  | (14, _, _, _, _) => decode cc pc = .ok (.imul, 1)
  | (15, _, _, _, _) => decode cc pc = .ok (.iand, 1)
  | (16, _, _, _, _) => decode cc pc = .ok (.ior, 1)
  | (17, _, _, _, _) => decode cc pc = .ok (.ixor, 1)
  | (18, _, _, _, _) => decode cc pc = .ok (.ishl, 1)
  | (19, _, _, _, _) => decode cc pc = .ok (.ishr, 1)
  | (20, _, _, _, _) => decode cc pc = .ok (.dup, 1)
  | (21, _, _, _, _) => decode cc pc = .ok (.pop, 1)
  | (22, _, _, _, _) => decode cc pc = .ok (.dup2, 1)
  | (23, idx, ci, k, _) => decode cc pc = .ok (.getfield idx, 3) ∧ fldw own idx ci k ∈ gtbl
  | (24, idx, ci, k, _) => decode cc pc = .ok (.putfield idx, 3) ∧ fldw own idx ci k ∈ gtbl ∧ ((clsN ci).2.1 k).2.2.2 = false ∧ ((clsN ci).2.1 k).2.2.1 = "I"
  | (25, idx, ci, k, _) => decode cc pc = .ok (.putfield idx, 3) ∧ fldw own idx ci k ∈ gtbl ∧ ((clsN ci).2.1 k).2.2.2 = false ∧ ((clsN ci).2.1 k).2.2.1 = "Z"
  | (26, idx, _, _, v) => decode cc pc = .ok (.ldc idx, 2) ∧ Cond.constant own idx v ∈ gtbl
  | (27, _, _, _, _) => decode cc pc = .ok (.arraylength, 1)
  | _ => False
def ps (sh : SH) (a : AI) (c : CF) : Option CF := match a, c with
  | (0, _, _, _, v), (ls, st, I) => some (ls, .inl v :: st, I)
  | (1, _, _, _, v), (ls, st, I) => some (ls, .inl v :: st, I)
  | (2, _, _, _, v), (ls, st, I) => some (ls, .inl v :: st, I)
  | (3, i, _, _, _), (ls, st, I) => match ls[i]? with | some (some (.inl x)) => some (ls, .inl x :: st, I) | _ => none
  | (4, i, _, _, _), (ls, st, I) => match ls[i]? with | some (some (.inl x)) => some (ls, .inl x :: st, I) | _ => none
  | (5, i, _, _, _), (ls, st, I) => match ls[i]? with | some (some (.inr (some x))) => some (ls, .inr (some x) :: st, I) | _ => none
  | (6, i, _, _, _), (ls, st, I) => match ls[i]? with | some (some (.inr (some x))) => some (ls, .inr (some x) :: st, I) | _ => none
  | (7, i, _, _, _), (ls, .inl x :: st, I) => if i < ls.length then some (ls.set i (some (.inl x)), st, I) else none
  | (8, i, _, _, _), (ls, .inl x :: st, I) => if i < ls.length then some (ls.set i (some (.inl x)), st, I) else none
  | (9, i, _, _, _), (ls, .inr (some x) :: st, I) => if i < ls.length then some (ls.set i (some (.inr (some x))), st, I) else none
  | (10, i, _, _, _), (ls, .inr (some x) :: st, I) => if i < ls.length then some (ls.set i (some (.inr (some x))), st, I) else none
  | (11, i, _, _, v), (ls, st, I) => match ls[i]? with | some (some (.inl x)) => some (ls.set i (some (.inl (x + v))), st, I) | _ => none
  | (12, _, _, _, _), (ls, .inl y :: .inl x :: st, I) => some (ls, .inl (x + y) :: st, I)
  | (13, _, _, _, _), (ls, .inl y :: .inl x :: st, I) => some (ls, .inl (x - y) :: st, I)
  | (14, _, _, _, _), (ls, .inl y :: .inl x :: st, I) => some (ls, .inl (x * y) :: st, I)
  | (15, _, _, _, _), (ls, .inl y :: .inl x :: st, I) => some (ls, .inl (x &&& y) :: st, I)
  | (16, _, _, _, _), (ls, .inl y :: .inl x :: st, I) => some (ls, .inl (x ||| y) :: st, I)
  | (17, _, _, _, _), (ls, .inl y :: .inl x :: st, I) => some (ls, .inl (x ^^^ y) :: st, I)
  | (18, _, _, _, _), (ls, .inl y :: .inl x :: st, I) => some (ls, .inl (x <<< (y &&& 31)) :: st, I)
  | (19, _, _, _, _), (ls, .inl y :: .inl x :: st, I) => some (ls, .inl (x >>> (y &&& 31)) :: st, I)
  | (20, _, _, _, _), (ls, x :: st, I) => some (ls, x :: x :: st, I)
  | (21, _, _, _, _), (ls, _ :: st, I) => some (ls, st, I)
  | (22, _, _, _, _), (ls, x :: y :: st, I) => some (ls, x :: y :: x :: y :: st, I)
  | (23, _, ci, k, _), (ls, .inr (some q) :: st, I) => match sh[q]? with
    | some (.inr (.inr (cj, fs))) => if cj = ci ∧ k < (clsN ci).2.2 then (match fs[k]? with | some none => some (ls, .inl (I q k) :: st, I) | some (some r) => some (ls, .inr r :: st, I) | none => none) else none
    | _ => none
  | (24, _, ci, k, _), (ls, .inl x :: .inr (some q) :: st, I) => match sh[q]? with
    | some (.inr (.inr (cj, fs))) => if cj = ci ∧ k < (clsN ci).2.2 then (match fs[k]? with | some none => some (ls, st, up2 I q k x) | _ => none) else none
    | _ => none
  | (25, _, ci, k, _), (ls, .inl x :: .inr (some q) :: st, I) => match sh[q]? with
    | some (.inr (.inr (cj, fs))) => if cj = ci ∧ k < (clsN ci).2.2 ∧ (x = 0 ∨ x = 1) then (match fs[k]? with | some none => some (ls, st, up2 I q k x) | _ => none) else none
    | _ => none
  | (26, _, _, _, v), (ls, st, I) => some (ls, .inl v :: st, I)
  | (27, _, _, _, _), (ls, .inr (some q) :: st, I) => match sh[q]? with | some (.inl n) => some (ls, .inl (Int32.ofNat n) :: st, I) | _ => none
  | _, _ => none
/-- the layout words of the classes, and what va_put asks of a class's fields -/
theorem cls_in {ci : Nat} {q : vw_C} (h : vwCl[ci]? = some q) : ∀ w ∈ u_ws q.1 q.2.1 q.2.2, w ∈ gtbl := by
  have key : ∀ q ∈ vwCl, ∀ w ∈ u_ws q.1 q.2.1 q.2.2, w ∈ lw_tbl ∧ goodWord w = true := by decide +kernel
  intro w hw
  exact gt_of (key q (List.mem_of_getElem? h) w hw).1 (key q (List.mem_of_getElem? h) w hw).2
def tyN (ci : Nat) : Nat → FieldType := match ci with
  | 0 => tyX0 | 1 => tyX1 | 2 => tyX2 | 3 => tyX3 | 4 => tyX4 | 5 => tyX5 | 6 => tyX6 | 7 => tyX7 | 8 => tyX8 | _ => tyX9
theorem cls_n {ci : Nat} {q : vw_C} (h : vwCl[ci]? = some q) : clsN ci = q := by
  unfold clsN
  rw [List.getD_eq_getElem?_getD, h]
  rfl
theorem cls_ty {ci : Nat} {q : vw_C} (h : vwCl[ci]? = some q) : (∀ k, k < q.2.2 → parseFieldDescriptor (q.2.1 k).2.2.1 = some (tyN ci k)) ∧ (∀ a, a < q.2.2 → ∀ b, b < q.2.2 → a ≠ b → (q.2.1 a).2.1 ≠ (q.2.1 b).2.1) := by
  match ci, h with
  | 0, h => cases h; exact ⟨tyX0_ok, nmX0⟩
  | 1, h => cases h; exact ⟨tyX1_ok, nmX1⟩
  | 2, h => cases h; exact ⟨tyX2_ok, nmX2⟩
  | 3, h => cases h; exact ⟨tyX3_ok, nmX3⟩
  | 4, h => cases h; exact ⟨tyX4_ok, nmX4⟩
  | 5, h => cases h; exact ⟨tyX5_ok, nmX5⟩
  | 6, h => cases h; exact ⟨tyX6_ok, nmX6⟩
  | 7, h => cases h; exact ⟨tyX7_ok, nmX7⟩
  | 8, h => cases h; exact ⟨tyX8_ok, nmX8⟩
  | 9, h => cases h; exact ⟨tyX9_ok, nmX9⟩
  | n + 10, h => simp [vwCl] at h
end
section
section GS
variable {p : Program} {l : Launch} {e : Env} {R : Room} {s : State} {m : MethodId} {args : Array Value} {below : List Frame} {meth : Method} {c : Code} {Q : State → Prop} {D : va_G} {B : Nat → Prop} {nL cells slots : Nat} {ads : AD} {sh : SH} {I A : HI} {pc : Nat} {ls : List (Option AV)} {st : List AV} {cc : ByteArray} {own : String}
theorem g_loadi {i : Nat} {x : Int32} {a : Array Slot} (hL : LH ads nL ls a) (h : ls[i]? = some (some (.inl x))) : a[i]? = some (.val (.int x)) := hL.2.2.2 i (.inl x) h
theorem g_loada {i k : Nat} {a : Array Slot} (hL : LH ads nL ls a) (h : ls[i]? = some (some (.inr (some k)))) : a[i]? = some (.val (.ref (adr ads k))) := hL.2.2.2 i (.inr (some k)) h
theorem nar_z {x : Int32} (h : x = 0 ∨ x = 1) : narrow .boolean (.int x) = .int x ∧ fits .boolean (.int x) = true := by
  rcases h with rfl | rfl <;> decide +kernel
set_option maxHeartbeats 4000000 in
theorem g_get (hC : CX p s m args meth c cc nL own B) {idx ci k q : Nat} {fs : List (Option (Option Nat))} {o : Option (Option Nat)} (hd : decode cc pc = .ok (.getfield idx, 3)) (hw : fldw own idx ci k ∈ gtbl) (hs : sh[q]? = some (.inr (.inr (ci, fs)))) (hk : k < (clsN ci).2.2) (hf : fs[k]? = some o) {v : AV} (hv : fv ads (I q k) o = cv ads v)
    (kk : G p l e R s m args below meth c Q D B nL cells slots ads sh I A (pc + 3) ls (v :: st)) : G p l e R s m args below meth c Q D B nL cells slots ads sh I A pc ls (.inr (some q) :: st) := by
  intro H locs a hR hL
  obtain ⟨x, hx⟩ := ad_get hR hs
  have hwl := wld_get (I := I) (A := A) hx hs
  have ha : adr ads q = x.1 := adr_of hx
  obtain ⟨r, hr, -⟩ := hR.2.2.1 q _ hwl
  have hr : vwCl[ci]? = some r := hr
  have hn := cls_n hr
  unfold fldw at hw
  rw [hn] at hw hk
  show W p l e R s m args below meth c H locs cells slots Q (F0 m pc a (.ref (adr ads q) :: st.map (cv ads)))
  rw [ha]
  refine va_get (C := r.1) (T := r.2.1) (N := r.2.2) hC.1 hC.2.1 hC.2.2.2.2.1 (cls_in hr) hC.2.2.2.1 hR.2.1 hR.2.2.1 q hwl hr k hk (hC.2.2.2.2.1 _ hw) (fun _ h9 => h9) (fsv_get hf) hd ?_
  rw [hv]
  exact kk H locs a hR hL
set_option maxHeartbeats 4000000 in
theorem g_put (hC : CX p s m args meth c cc nL own B) {idx ci k q : Nat} {fs : List (Option (Option Nat))} {y : Int32} (hd : decode cc pc = .ok (.putfield idx, 3)) (hw : fldw own idx ci k ∈ gtbl) (hfin : ((clsN ci).2.1 k).2.2.2 = false) (hty : ((clsN ci).2.1 k).2.2.1 = "I" ∨ ((clsN ci).2.1 k).2.2.1 = "Z") (hs : sh[q]? = some (.inr (.inr (ci, fs)))) (hk : k < (clsN ci).2.2) (hy : ((clsN ci).2.1 k).2.2.1 = "I" ∨ y = 0 ∨ y = 1) (hf : fs[k]? = some none)
    (kk : G p l e R s m args below meth c Q D B nL cells slots ads sh (up2 I q k y) A (pc + 3) ls st) : G p l e R s m args below meth c Q D B nL cells slots ads sh I A pc ls (.inl y :: .inr (some q) :: st) := by
  intro H locs a hR hL
  obtain ⟨x, hx⟩ := ad_get hR hs
  have hwl := wld_get (I := I) (A := A) hx hs
  have ha : adr ads q = x.1 := adr_of hx
  obtain ⟨r, hr, -⟩ := hR.2.2.1 q _ hwl
  have hr : vwCl[ci]? = some r := hr
  have hn := cls_n hr
  unfold fldw at hw
  rw [hn] at hw hk hfin hty hy
  have hkl : k < (fsv ads I q fs).length := (List.getElem?_eq_some_iff.mp (fsv_get (ads := ads) (I := I) (k := q) hf)).1
  show W p l e R s m args below meth c H locs cells slots Q (F0 m pc a (.int y :: .ref (adr ads q) :: st.map (cv ads)))
  rw [ha]
  obtain ⟨ty, h1, h2, h3⟩ : ∃ ty, parseFieldDescriptor (r.2.1 k).2.2.1 = some ty ∧ narrow ty (.int y) = .int y ∧ fits ty (.int y) = true := by
    rcases hty with h | h
    · exact ⟨.int, by rw [h]; decide +kernel, rfl, rfl⟩
    · refine ⟨.boolean, by rw [h]; decide +kernel, nar_z (hy.resolve_left (by rw [h]; decide))⟩
  refine va_put (C := r.1) (T := r.2.1) (N := r.2.2) (ty := ty) hC.1 hC.2.1 hC.2.2.2.2.1 (cls_in hr) (tyN ci) (cls_ty hr).1 (cls_ty hr).2 hC.2.2.2.1 hR.2.1 hR.2.2.1 hR.2.2.2.1 hR.2.2.2.2 q hwl hr k hk (hC.2.2.2.2.1 _ hw) (fun _ h9 => h9) hfin h1 h2 h3 hkl hd (fun H1 locs1 hP hD hS => ?_)
  rw [wld_setI hx hs hf] at hP hD
  exact kk H1 locs1 a ⟨hR.1, hR.2.1, hP, hD, hS⟩ hL
theorem g_aald (hC : CX p s m args meth c cc nL own B) {i : Int32} {k : Nat} {f : Nat × List (Option Nat)} {r : Nat} (hd : decode cc pc = .ok (.aaload, 1)) (hs : sh[k]? = some (.inr (.inl f))) (hin : vp_in i f.2.length) (hr : f.2[i.toNatClampNeg]? = some (some r)) (kk : G p l e R s m args below meth c Q D B nL cells slots ads sh I A (pc + 1) ls (.inr (some r) :: st)) : G p l e R s m args below meth c Q D B nL cells slots ads sh I A pc ls (.inl i :: .inr (some k) :: st) := by
  intro H locs a hR hL
  obtain ⟨x, hx⟩ := ad_get hR hs
  obtain ⟨t, ht⟩ := tys_ref hx hs
  have hw := wld_get (I := I) (A := A) hx hs
  have ha : adr ads k = x.1 := adr_of hx
  have hlt : i.toNatClampNeg < f.2.length := (List.getElem?_eq_some_iff.mp hr).1
  have hty : (rty f.1).isReference = true := by
    unfold rty
    split <;> rfl
  show W p l e R s m args below meth c H locs cells slots Q (F0 m pc a (.int i :: .ref (adr ads k) :: st.map (cv ads)))
  rw [ha]
  refine W.aald (v := .ref (adr ads r)) (ty := rty f.1) hC.1 hC.2.1 (hR.2.2.1 k _ hw) ((hR.2.1.2 t _ ht).1 f.2.length (fun i => va_rf ((f.2.getD i none).map (adr ads)))) hty (fun q => by cases q) (by show ¬ (i < 0 ∨ (arrV _ _ _).slots.size ≤ _); rw [arrV_size]; exact hin) (by show (arrV _ _ _).slots[_]? = _; rw [arrV_read _ _ hlt]; show some (va_rf ((f.2.getD i.toNatClampNeg none).map (adr ads))) = _; rw [List.getD_eq_getElem?_getD, hr]; rfl) rfl rfl hd (kk H locs a hR hL)
set_option maxHeartbeats 8000000 in
theorem g_ps (hC : CX p s m args meth c cc nL own B) (x : AI) (ho : ok1 cc own pc x) {ls' : List (Option AV)} {st' : List AV} {I' : HI} (h : ps sh x (ls, st, I) = some (ls', st', I')) (kk : G p l e R s m args below meth c Q D B nL cells slots ads sh I' A (pc + lnA x.1) ls' st') : G p l e R s m args below meth c Q D B nL cells slots ads sh I A pc ls st := by
  obtain ⟨op, i, b, d, v⟩ := x
  have hx := hC.1
  have hb := hC.2.1
  match op, ho, h, kk with
  | 0, ho, h, kk =>
    obtain ⟨n, h1, h2⟩ := ho
    cases h
    exact fun H locs a hR hL => lv_iconst hx hb h1 h2 (kk H locs a hR hL)
  | 1, ho, h, kk =>
    obtain ⟨n, h1, h2⟩ := ho
    cases h
    exact fun H locs a hR hL => lv_bipush hx hb h1 h2 (kk H locs a hR hL)
  | 2, ho, h, kk =>
    obtain ⟨n, h1, h2⟩ := ho
    cases h
    exact fun H locs a hR hL => lv_sipush hx hb h1 h2 (kk H locs a hR hL)
  | 3, ho, h, kk =>
    obtain ⟨k, h1, h2⟩ := ho
    simp only [ps] at h
    split at h
    · rename_i z hz
      cases h
      exact fun H locs a hR hL => lv_iload_n hx hb h1 h2 (g_loadi hL hz) (kk H locs a hR hL)
    · cases h
  | 4, ho, h, kk =>
    simp only [ps] at h
    split at h
    · rename_i z hz
      cases h
      exact fun H locs a hR hL => lv_iload hx hb ho (g_loadi hL hz) (kk H locs a hR hL)
    · cases h
  | 5, ho, h, kk =>
    obtain ⟨k, h1, h2⟩ := ho
    simp only [ps] at h
    split at h
    · rename_i z hz
      cases h
      exact fun H locs a hR hL => lv_aload_n hx hb h1 h2 (g_loada hL hz) (kk H locs a hR hL)
    · cases h
  | 6, ho, h, kk =>
    simp only [ps] at h
    split at h
    · rename_i z hz
      cases h
      exact fun H locs a hR hL => lv_aload hx hb ho (g_loada hL hz) (kk H locs a hR hL)
    · cases h
  | 7, ho, h, kk =>
    obtain ⟨k, h1, h2⟩ := ho
    match st, h with
    | .inl z :: st, h =>
      simp only [ps] at h
      split at h
      · rename_i hi
        cases h
        exact fun H locs a hR hL => lv_istore_n hx hb h1 h2 hL.has (by rw [← hL.2.1]; exact hi) rfl (fun a' ha' => kk H locs a' hR (LH.set (v := .inl z) hL.2.1 ha'))
      · cases h
    | .inr z :: st, h => cases z <;> cases h
    | [], h => cases h
  | 8, ho, h, kk =>
    match st, h with
    | .inl z :: st, h =>
      simp only [ps] at h
      split at h
      · rename_i hi
        cases h
        exact fun H locs a hR hL => lv_istore hx hb ho hL.has (by rw [← hL.2.1]; exact hi) rfl (fun a' ha' => kk H locs a' hR (LH.set (v := .inl z) hL.2.1 ha'))
      · cases h
    | .inr z :: st, h => cases z <;> cases h
    | [], h => cases h
  | 9, ho, h, kk =>
    obtain ⟨k, h1, h2⟩ := ho
    match st, h with
    | .inr (some z) :: st, h =>
      simp only [ps] at h
      split at h
      · rename_i hi
        cases h
        exact fun H locs a hR hL => lv_astore_n hx hb h1 h2 hL.has (by rw [← hL.2.1]; exact hi) rfl (fun a' ha' => kk H locs a' hR (LH.set (v := .inr (some z)) hL.2.1 ha'))
      · cases h
    | .inr none :: st, h => cases h
    | .inl z :: st, h => cases h
    | [], h => cases h
  | 10, ho, h, kk =>
    match st, h with
    | .inr (some z) :: st, h =>
      simp only [ps] at h
      split at h
      · rename_i hi
        cases h
        exact fun H locs a hR hL => lv_astore hx hb ho hL.has (by rw [← hL.2.1]; exact hi) rfl (fun a' ha' => kk H locs a' hR (LH.set (v := .inr (some z)) hL.2.1 ha'))
      · cases h
    | .inr none :: st, h => cases h
    | .inl z :: st, h => cases h
    | [], h => cases h
  | 11, ho, h, kk =>
    obtain ⟨n, h1, h2⟩ := ho
    simp only [ps] at h
    split at h
    · rename_i z hz
      cases h
      refine fun H locs a hR hL => ?_
      obtain ⟨k0, hk0⟩ := List.getElem?_of_mem (lvl_mem (ads := ads) (i := i) (w := .int z) |>.mpr ⟨.inl z, hz, rfl⟩)
      exact lv_iinc hx hb h1 hL.has hk0 (by rw [h2]) (by rw [← hL.2.1]; exact (List.getElem?_eq_some_iff.mp hz).1) rfl (fun a' ha' => kk H locs a' hR (LH.set (v := .inl (z + v)) hL.2.1 ha'))
    · cases h
  | 12, ho, h, kk =>
    match st, h with
    | .inl y :: .inl z :: st, h => cases h; exact fun H locs a hR hL => lv_iadd hx hb ho (kk H locs a hR hL)
  | 13, ho, h, kk =>
    match st, h with
    | .inl y :: .inl z :: st, h => cases h; exact fun H locs a hR hL => lv_isub hx hb ho (kk H locs a hR hL)
  | 14, ho, h, kk =>
    match st, h with
    | .inl y :: .inl z :: st, h => cases h; exact fun H locs a hR hL => lv_imul hx hb ho (kk H locs a hR hL)
  | 15, ho, h, kk =>
    match st, h with
    | .inl y :: .inl z :: st, h => cases h; exact fun H locs a hR hL => lv_iand hx hb ho (kk H locs a hR hL)
  | 16, ho, h, kk =>
    match st, h with
    | .inl y :: .inl z :: st, h => cases h; exact fun H locs a hR hL => lv_ior hx hb ho (kk H locs a hR hL)
  | 17, ho, h, kk =>
    match st, h with
    | .inl y :: .inl z :: st, h => cases h; exact fun H locs a hR hL => lv_ixor hx hb ho (kk H locs a hR hL)
  | 18, ho, h, kk =>
    match st, h with
    | .inl y :: .inl z :: st, h => cases h; exact fun H locs a hR hL => lv_ishl hx hb ho (kk H locs a hR hL)
  | 19, ho, h, kk =>
    match st, h with
    | .inl y :: .inl z :: st, h => cases h; exact fun H locs a hR hL => lv_ishr hx hb ho (kk H locs a hR hL)
  | 20, ho, h, kk =>
    match st, h with
    | z :: st, h => cases h; exact fun H locs a hR hL => lv_dup hx hb ho (cv_cat ads z) (kk H locs a hR hL)
  | 21, ho, h, kk =>
    match st, h with
    | z :: st, h => cases h; exact fun H locs a hR hL => lv_pop hx hb ho (cv_cat ads z) (kk H locs a hR hL)
  | 22, ho, h, kk =>
    match st, h with
    | z :: y :: st, h => cases h; exact fun H locs a hR hL => lv_dup2_11 hx hb ho (cv_cat ads z) (cv_cat ads y) (kk H locs a hR hL)
  | 23, ho2, h2, kk2 =>
    match st, h2 with
    | .inr (some q) :: st, h3 =>
      simp only [ps] at h3
      split at h3
      · rename_i cj fs hs
        split at h3
        · rename_i hc
          obtain ⟨rfl, hk⟩ := hc
          split at h3
          · rename_i hf
            cases h3
            exact g_get hC ho2.1 ho2.2 hs hk hf rfl kk2
          · rename_i r hf
            cases h3
            exact g_get hC ho2.1 ho2.2 hs hk hf rfl kk2
          · cases h3
        · cases h3
      · cases h3
  | 24, ho2, h2, kk2 =>
    match st, h2 with
    | .inl y :: .inr (some q) :: st, h3 =>
      simp only [ps] at h3
      split at h3
      · rename_i cj fs hs
        split at h3
        · rename_i hc
          obtain ⟨rfl, hk⟩ := hc
          split at h3
          · rename_i hf
            cases h3
            exact g_put hC ho2.1 ho2.2.1 ho2.2.2.1 (Or.inl ho2.2.2.2) hs hk (Or.inl ho2.2.2.2) hf kk2
          · cases h3
        · cases h3
      · cases h3
  | 25, ho2, h2, kk2 =>
    match st, h2 with
    | .inl y :: .inr (some q) :: st, h3 =>
      simp only [ps] at h3
      split at h3
      · rename_i cj fs hs
        split at h3
        · rename_i hc
          obtain ⟨rfl, hk, hy⟩ := hc
          split at h3
          · rename_i hf
            cases h3
            exact g_put hC ho2.1 ho2.2.1 ho2.2.2.1 (Or.inr ho2.2.2.2) hs hk (Or.inr hy) hf kk2
          · cases h3
        · cases h3
      · cases h3
  | 26, ho, h, kk =>
    cases h
    exact fun H locs a hR hL => lv_ldc hx hb hC.2.2.2.1 (hC.2.2.2.2.1 _ ho.2) ho.1 (kk H locs a hR hL)
  | 27, ho, h, kk =>
    match st, h with
    | .inr (some q) :: st, h =>
      simp only [ps] at h
      split at h
      · rename_i n hs
        cases h
        intro H locs a hR hL
        obtain ⟨x, hx9⟩ := ad_get hR hs
        obtain ⟨t, ht⟩ := tys_int hx9 hs
        have hw := wld_get (I := I) (A := A) hx9 hs
        have ha : adr ads q = x.1 := adr_of hx9
        show W p l e R s m args below meth c H locs cells slots Q (F0 m pc a (.ref (adr ads q) :: st.map (cv ads)))
        rw [ha]
        exact va_alen hx hb hR.2.1 hR.2.2.1 q t hw ht rfl ho (kk H locs a hR hL)
      · cases h
  | n + 28, ho, h, kk => exact ho.elim
end GS
end
section
/-! stretches, contracts, calls, returns -/
def okB (cc : ByteArray) (own : String) : Nat → List AI → Prop
  | _, [] => True
  | pc, x :: r => ok1 cc own pc x ∧ okB cc own (pc + lnA x.1) r
def lnB : List AI → Nat
  | [] => 0
  | x :: r => lnA x.1 + lnB r
def psB (sh : SH) : List AI → CF → Option CF
  | [], c => some c
  | x :: r, c => match ps sh x c with
    | some c' => psB sh r c'
    | none => none
/-- a contract's start and end -/
def CPre (D : va_G) (ads : AD) (sh : SH) (sz : Nat) (av : List AV) (I A : HI) : Array Value → State → Prop := va_Pc (av.map (cv ads)) (fun U => U.heap.size = sz ∧ ads.length = sh.length ∧ va_K D vwCl (tysOf ads sh) U ∧ va_P D vwCl (wld ads sh I A) U.heap ∧ va_D (fun _ => True) (wld ads sh I A) ∧ ∀ w ∈ nstw, va_Nw w U)
def CPost (D : va_G) (ads : AD) (sh : SH) (sz : Nat) (post : Option AV → HI → HI → Prop) : Array Value → State → Outcome → State → Prop := fun _ st oc t =>
  (∃ (r : Option AV) (I A : HI), oc = .returned (r.map (cv ads)) ∧ post r I A ∧ va_P D vwCl (wld ads sh I A) t.heap) ∧ va_F (AdS ads sz) st t
def Ct (l : Launch) (y : MethodName) (cc : ByteArray) (nL : Nat) (ret : Option FieldType) (fr lc : Nat) (D : va_G) (ads : AD) (sh : SH) (av : List AV) (I A : HI) (post : Option AV → HI → HI → Prop) : Prop :=
  ∀ sz : Nat, Met l y (Cond.code y cc nL ret :: gtbl) { frames := fr, cells := 0, slots := 0, locals := lc } (CPre D ads sh sz av I A) (CPost D ads sh sz post) 0 0 (AdS ads sz)
section GC
variable {p : Program} {l : Launch} {e : Env} {R : Room} {s : State} {m : MethodId} {args : Array Value} {below : List Frame} {meth : Method} {c : Code} {Q : State → Prop} {D : va_G} {B : Nat → Prop} {nL cells slots : Nat} {ads : AD} {sh : SH} {I A : HI} {pc : Nat} {ls : List (Option AV)} {st : List AV} {cc : ByteArray} {own : String}
theorem g_blk (hC : CX p s m args meth c cc nL own B) (b : List AI) : ∀ {pc pc' : Nat} {ls ls' : List (Option AV)} {st st' : List AV} {I I' : HI}, okB cc own pc b → psB sh b (ls, st, I) = some (ls', st', I') → pc + lnB b = pc' → G p l e R s m args below meth c Q D B nL cells slots ads sh I' A pc' ls' st' → G p l e R s m args below meth c Q D B nL cells slots ads sh I A pc ls st := by
  induction b with
  | nil =>
    intro pc pc' ls ls' st st' I I' _ h2 h3 kk
    cases h2
    subst h3
    exact kk
  | cons x r ih =>
    intro pc pc' ls ls' st st' I I' h1 h2 h3 kk
    simp only [psB] at h2
    split at h2
    · rename_i c' hc
      obtain ⟨l1, s1, i1⟩ := c'
      exact g_ps hC x h1.1 hc (ih h1.2 h2 (by rw [← h3]; show _ = pc + (lnA x.1 + lnB r); omega) kk)
    · cases h2
theorem stv (rest : List AV) : ((rest.map (cv ads)).map fun v => v.category).sum = rest.length := by
  induction rest with
  | nil => rfl
  | cons a r ih =>
    simp only [List.map_cons, List.sum_cons, List.length_cons, ih, cv_cat]
    omega
theorem nst_form : ∀ w ∈ nstw, ∃ (a : String) (i : Nat) (x : MethodName) (h : String), w = .methodLinkNest a i x h := by
  intro w hw
  simp only [nstw, List.mem_cons, List.not_mem_nil, or_false] at hw
  rcases hw with rfl | rfl | rfl | rfl | rfl | rfl | rfl | rfl <;> exact ⟨_, _, _, _, rfl⟩
theorem nst_same {u U : State} (h : u.vm = U.vm) (hZ : ∀ w ∈ nstw, va_Nw w u) : ∀ w ∈ nstw, va_Nw w U := by
  intro w hw
  obtain ⟨a, i, x, z, rfl⟩ := nst_form w hw
  exact va_Nw.same rfl h (hZ _ hw)
theorem CPre.blind {sz : Nat} {av : List AV} : FrameBlind (CPre D ads sh sz av I A) := by
  intro a U g mk q
  obtain ⟨q0, q1, q2, qK, qP, qD, qN⟩ := q
  exact ⟨q0, q1, q2, va_K.moved (u := U) (U := U.calling g mk a) (Vm.Alike.refl U.vm) qK, qP, qD, nst_same (u := U) (U := U.calling g mk a) rfl qN⟩
/-- the links of nest mates are the same in a warmer machine -/
theorem nst_moved {U : State} (hW : s.WarmedH U.vm) (h : ∀ w ∈ nstw, va_Nw w s) : ∀ w ∈ nstw, va_Nw w U := by
  intro w hw
  obtain ⟨a, i, x, z, rfl⟩ := nst_form w hw
  exact va_Nw.warmM hW (h _ hw)
theorem g_run {post : Option AV → HI → HI → Prop} {a0 : Array Value} {rest st0 : List AV} (hC : CX p s m args meth c cc nL own B)
    (hr : ∀ (H : Heap) (locs : List Loc) (a : Array Slot), RW D B s ads sh I A H locs → LH ads nL ls a → va_Run p l e R s m args below meth c H locs cells slots 0 0 (F0 m pc a (st0.map (cv ads))) (rest.map (cv ads)) (CPost D ads sh H.size post a0) (AdS ads H.size))
    (kk : ∀ (r : Option AV) (I' A' : HI), post r I' A' → G p l e R s m args below meth c Q D B nL cells slots ads sh I' A' (pc + 3) ls (r.toList ++ rest)) : G p l e R s m args below meth c Q D B nL cells slots ads sh I A pc ls st0 := by
  intro H locs a hR hL T hT X
  have hF := AdS_sub hR.1 hR.2.2.2.1 hR.2.2.2.2 hC.2.2.2.2.2.1
  obtain ⟨v, st₀, t, T', L, h0, X', hLf, e1, e2, ⟨⟨r, I', A', hv, hp, hb⟩, hz, hk⟩, stp⟩ := hr H locs a hR hL T hT X
  cases hv
  rw [h0] at hz hk
  have hS := hR.2.2.2.2
  obtain ⟨t2, a1, b1⟩ := kk r I' A' hp T'.heap (locs ++ L) a ⟨hR.1, hR.2.1, by rw [e1]; exact hb, wld_D hR.2.2.2.1 (fun _ h => h), Nat.le_trans hS.1 (by rw [e1]; exact hz), fun q h1 h2 => by rw [e1, hk q (Nat.lt_of_lt_of_le h1 hS.1) (fun z => h2 (hF q z))]; exact hS.2.1 q h1 h2, fun q hq => by
      rcases List.mem_append.mp hq with h | h
      · exact hS.2.2 q h
      · exact hF _ (hLf q h)⟩ hL T' rfl X'
  refine ⟨t2, stp t2 ?_, b1⟩
  have : ((r.map (cv ads)).toList ++ rest.map (cv ads)) = (r.toList ++ rest).map (cv ads) := by
    cases r <;> simp
  show Steps p.tables e below (T'.setTop { (F0 m pc a (st0.map (cv ads))) with pc := pc + 3, stack := (r.map (cv ads)).toList ++ rest.map (cv ads) }) t2
  rw [this]
  exact a1
theorem cb_of {y : MethodName} {cy : ByteArray} {nY fr lc idx n : Nat} {ret : Option FieldType} (hts : ∀ w ∈ gtbl, w.before args s = true) (hc : Cond.code y cy nY ret ∈ gtbl) : GoodIn gtbl (Cond.code y cy nY ret :: gtbl) := by
  intro w hw
  rcases List.mem_cons.mp hw with rfl | h
  · exact ⟨hc, good_of_word (gt_good hc)⟩
  · exact ⟨h, good_of_word (gt_good h)⟩
/-- what a call's row asks of the callee's name: n parameters -/
def nmOk (y : MethodName) (n : Nat) : Prop := y.cls ≠ "java/lang/invoke/MethodHandle" ∧ y.cls ≠ "java/lang/invoke/VarHandle" ∧ (parseMethodDescriptor y.desc).map (fun d => d.parameters.length) = some n
theorem g_pre {av : List AV} {H : Heap} {locs : List Loc} (hC : CX p s m args meth c cc nL own B) (hR : RW D B s ads sh I A H locs) {U : State} (hU : U.heap = H) (hW : s.WarmedH U.vm) : CPre D ads sh H.size av I A (av.map (cv ads)).toArray U :=
  ⟨rfl, by rw [hU], hR.1, va_K.moved hW.alike hR.2.1, by rw [hU]; exact hR.2.2.1, hR.2.2.2.1.weaken (fun _ _ _ _ => trivial), nst_moved hW hC.2.2.2.2.2.2.1⟩
/-- a virtual call -/
theorem g_callV {y : MethodName} {cy : ByteArray} {nY fr lc idx k ci : Nat} {fs : List (Option (Option Nat))} {ret : Option FieldType} {as rest st0 : List AV} {post : Option AV → HI → HI → Prop} (hC : CX p s m args meth c cc nL own B) (hM : Ct l y cy nY ret fr lc D ads sh (.inr (some k) :: as) I A post)
    (hd : decode cc pc = .ok (.invokevirtual idx, 3)) (hy : nmOk y as.length) (hs : sh[k]? = some (.inr (.inr (ci, fs)))) (hcy : (clsN ci).1 = y.cls) (hwl : Cond.methodLink own idx y ∈ gtbl) (hwi : Cond.instanceMethod y ∈ gtbl) (hws : Cond.selects y.cls y y ∈ gtbl) (hwn : Cond.initialized y.cls ∈ gtbl) (hwc : Cond.code y cy nY ret ∈ gtbl)
    (hfr : fr + 1 ≤ R.frames ∧ 8 + (nY + 11) + lc ≤ R.locals) (hst : st0 = as.reverse ++ .inr (some k) :: rest) (hrs : rest.length ≤ 8) (hcs : cells ≤ R.cells ∧ slots ≤ R.slots)
    (kk : ∀ (r : Option AV) (I' A' : HI), post r I' A' → G p l e R s m args below meth c Q D B nL cells slots ads sh I' A' (pc + 3) ls (r.toList ++ rest)) : G p l e R s m args below meth c Q D B nL cells slots ads sh I A pc ls st0 := by
  refine g_run (a0 := ((.inr (some k) :: as : List AV).map (cv ads)).toArray) hC (fun H locs a hR hL => ?_) kk
  obtain ⟨x, hx⟩ := ad_get hR hs
  have hw := wld_get (I := I) (A := A) hx hs
  have ha : adr ads k = x.1 := adr_of hx
  obtain ⟨r9, hr9, -⟩ := hR.2.2.1 k _ hw
  have hr9 : vwCl[ci]? = some r9 := hr9
  have hcl : r9.1 = y.cls := by rw [← cls_n hr9]; exact hcy
  have hts := hC.2.2.2.2.1
  have hrun := va_runV (p := p) (l := l) (e := e) (R := R) (below := below) (meth := meth) (H := H) (locs := locs) (cells := cells) (slots := slots) (C := y.cls) (b := adr ads k) (As := as.map (cv ads)) (rest := rest.map (cv ads)) (g := F0 m pc a (st0.map (cv ads))) ⟨hC.1, hC.2.1, hC.2.2.1, hC.2.2.2.1, hts⟩ (hM H.size)
    ⟨callB_of as.length hts (cb_of (fr := 0) (lc := 0) (idx := 0) (n := 0) hts hwc) rfl rfl rfl (hts _ hwn) (hts _ hwl) hy hfr, hts _ hwi, hts _ hws⟩
    ⟨CPre.blind, by rw [ha]; have := va_recv hR.2.1 hR.2.2.1 hr9 hw; rw [hcl] at this; exact this, fun U hU hW => g_pre (av := .inr (some k) :: as) hC hR hU hW⟩ rfl (by rw [List.length_map]) hL.1 (by rw [hst]; simp [cv]) (by show 2 * 0 + _ ≤ 8; rw [stv]; omega) hd hcs
  exact hrun
/-- a static call in the same class, or to the JDK -/
theorem g_callS {y : MethodName} {cy : ByteArray} {nY fr lc idx : Nat} {ret : Option FieldType} {as rest st0 : List AV} {post : Option AV → HI → HI → Prop} (hC : CX p s m args meth c cc nL own B) (hM : Ct l y cy nY ret fr lc D ads sh as I A post)
    (hd : decode cc pc = .ok (.invokestatic idx, 3)) (hy : nmOk y as.length) (hwl : Cond.methodLink own idx y ∈ gtbl) (hwi : Cond.static y ∈ gtbl) (hwn : Cond.initialized y.cls ∈ gtbl) (hwc : Cond.code y cy nY ret ∈ gtbl)
    (hfr : fr + 1 ≤ R.frames ∧ 8 + (nY + 11) + lc ≤ R.locals) (hst : st0 = as.reverse ++ rest) (hrs : rest.length ≤ 8) (hcs : cells ≤ R.cells ∧ slots ≤ R.slots)
    (kk : ∀ (r : Option AV) (I' A' : HI), post r I' A' → G p l e R s m args below meth c Q D B nL cells slots ads sh I' A' (pc + 3) ls (r.toList ++ rest)) : G p l e R s m args below meth c Q D B nL cells slots ads sh I A pc ls st0 := by
  refine g_run (a0 := (as.map (cv ads)).toArray) hC (fun H locs a hR hL => ?_) kk
  have hts := hC.2.2.2.2.1
  exact va_runS (p := p) (l := l) (e := e) (R := R) (below := below) (meth := meth) (H := H) (locs := locs) (cells := cells) (slots := slots) (As := as.map (cv ads)) (rest := rest.map (cv ads)) (g := F0 m pc a (st0.map (cv ads))) ⟨hC.1, hC.2.1, hC.2.2.1, hC.2.2.2.1, hts⟩ (hM H.size)
    ⟨callB_of as.length hts (cb_of (fr := 0) (lc := 0) (idx := 0) (n := 0) hts hwc) rfl rfl rfl (hts _ hwn) (hts _ hwl) hy hfr, hts _ hwi⟩
    ⟨CPre.blind, fun U hU hW => g_pre (av := as) hC hR hU hW⟩ rfl (by rw [List.length_map]) hL.1 (by rw [hst]; simp) (by show 2 * 0 + _ ≤ 8; rw [stv]; omega) hd hcs
/-- a static call to a nest mate -/
theorem g_callN {y : MethodName} {host : String} {cy : ByteArray} {nY fr lc idx : Nat} {ret : Option FieldType} {as rest st0 : List AV} {post : Option AV → HI → HI → Prop} (hC : CX p s m args meth c cc nL own B) (hM : Ct l y cy nY ret fr lc D ads sh as I A post)
    (hd : decode cc pc = .ok (.invokestatic idx, 3)) (hy : nmOk y as.length) (hwl : Cond.methodLinkNest own idx y host ∈ nstw) (hwi : Cond.static y ∈ gtbl) (hwn : Cond.initialized y.cls ∈ gtbl) (hwc : Cond.code y cy nY ret ∈ gtbl)
    (hfr : fr + 1 ≤ R.frames ∧ 8 + (nY + 11) + lc ≤ R.locals) (hst : st0 = as.reverse ++ rest) (hrs : rest.length ≤ 8) (hcs : cells ≤ R.cells ∧ slots ≤ R.slots)
    (kk : ∀ (r : Option AV) (I' A' : HI), post r I' A' → G p l e R s m args below meth c Q D B nL cells slots ads sh I' A' (pc + 3) ls (r.toList ++ rest)) : G p l e R s m args below meth c Q D B nL cells slots ads sh I A pc ls st0 := by
  refine g_run (a0 := (as.map (cv ads)).toArray) hC (fun H locs a hR hL => ?_) kk
  have hts := hC.2.2.2.2.1
  exact va_runSN (p := p) (l := l) (e := e) (R := R) (below := below) (meth := meth) (H := H) (locs := locs) (cells := cells) (slots := slots) (As := as.map (cv ads)) (rest := rest.map (cv ads)) (g := F0 m pc a (st0.map (cv ads))) ⟨hC.1, hC.2.1, hC.2.2.1, hC.2.2.2.1, hts⟩ (hM H.size)
    ⟨va_cnB as.length hts (cb_of (fr := 0) (lc := 0) (idx := 0) (n := 0) hts hwc) rfl rfl rfl (hC.2.2.2.2.2.2.1 _ hwl) (hts _ hwn) hy hfr, hts _ hwi, trivial⟩
    ⟨CPre.blind, fun U hU hW => g_pre (av := as) hC hR hU hW⟩ rfl (by rw [List.length_map]) hL.1 (by rw [hst]; simp) (by show 2 * 0 + _ ≤ 8; rw [stv]; omega) hd hcs
/-! returns -/
theorem g_reti {post : Option AV → HI → HI → Prop} {ty : FieldType} {v : Int32} (hC : CX p s m args meth c cc nL own (AdS ads s.heap.size)) (hr : meth.sig.returnType = some ty) (hn : narrow ty (.int v) = .int v) (hd : decode cc pc = .ok (.ireturn, 1)) (hp : post (some (.inl v)) I A) : G p l e R s m args below meth c (MQ below (CPost D ads sh s.heap.size post) args s cells slots (AdS ads s.heap.size)) D (AdS ads s.heap.size) nL cells slots ads sh I A pc ls [.inl v] :=
  fun H locs a hR hL => W.zret hC.1 hC.2.1 hr hn (fun t ht hW => ⟨⟨some (.inl v), I, A, rfl, hp, by rw [ht]; exact hR.2.2.1⟩, hR.2.2.2.2.F ht⟩) hR.2.2.2.2.2.2 hd hC.2.2.2.2.2.2.2
theorem g_retv {post : Option AV → HI → HI → Prop} (hC : CX p s m args meth c cc nL own (AdS ads s.heap.size)) (hr : meth.sig.returnType = none) (hd : decode cc pc = .ok (.return_, 1)) (hp : post none I A) : G p l e R s m args below meth c (MQ below (CPost D ads sh s.heap.size post) args s cells slots (AdS ads s.heap.size)) D (AdS ads s.heap.size) nL cells slots ads sh I A pc ls [] :=
  fun H locs a hR hL => W.vret hC.1 hC.2.1 hr (fun t ht hW => ⟨⟨none, I, A, rfl, hp, by rw [ht]; exact hR.2.2.1⟩, hR.2.2.2.2.F ht⟩) hR.2.2.2.2.2.2 hd hC.2.2.2.2.2.2.2
theorem g_reta {post : Option AV → HI → HI → Prop} {rt : FieldType} {k : Nat} (hC : CX p s m args meth c cc nL own (AdS ads s.heap.size)) (hr : meth.sig.returnType = some rt) (hrt : (∃ n, rt = .object n) ∨ ∃ t, rt = .array t) (hd : decode cc pc = .ok (.areturn, 1)) (hp : post (some (.inr (some k))) I A) : G p l e R s m args below meth c (MQ below (CPost D ads sh s.heap.size post) args s cells slots (AdS ads s.heap.size)) D (AdS ads s.heap.size) nL cells slots ads sh I A pc ls [.inr (some k)] :=
  fun H locs a hR hL => W.aret hC.1 hC.2.1 hr hrt (Or.inr ⟨_, rfl⟩) (fun t ht hW => ⟨⟨some (.inr (some k)), I, A, rfl, hp, by rw [ht]; exact hR.2.2.1⟩, hR.2.2.2.2.F ht⟩) hR.2.2.2.2.2.2 hd hC.2.2.2.2.2.2.2
end GC
/-- a contract out of a walk from the entry -/
theorem Ct_of {l : Launch} {y : MethodName} {cc : ByteArray} {nL : Nat} {ret : Option FieldType} {fr lc : Nat} {D : va_G} {ads : AD} {sh : SH} {av : List AV} {I A : HI} {post : Option AV → HI → HI → Prop} (hy : plainName y.cls = true) (hn : av.length ≤ nL)
    (body : ∀ (p : Program) (e : Env) (s : State) (m : MethodId) (args : Array Value) (below : List Frame) (meth : Method) (c : Code), CX p s m args meth c cc nL y.cls (AdS ads s.heap.size) → meth.sig.returnType = ret →
      G p l e { frames := fr, cells := 0, slots := 0, locals := lc } s m args below meth c (MQ below (CPost D ads sh s.heap.size post) args s 0 0 (AdS ads s.heap.size)) D (AdS ads s.heap.size) nL 0 0 ads sh I A 0 (av.map some ++ List.replicate (nL - av.length) none) []) : Ct l y cc nL ret fr lc D ads sh av I A post := by
  intro sz
  refine Met.ofW (cc := cc) (maxL := nL) (ret := ret) hy rfl ?_
  intro p e s m args below meth c s₁ B hml hv
  obtain ⟨rfl, hsz, hlen, hK, hP, hD, hN⟩ := hv
  subst hsz
  have hts := atoms_spec (ws := Cond.code y cc nL ret :: gtbl) B.pre
  have hown : s.vm.findClass y.cls = some m.cls := findClass_of_methodNamed B.named
  have hsl : ∀ (vs : List AV), lg_sl (vs.map (cv ads)) = vs.map (fun v => Slot.val (cv ads v)) := by
    intro vs
    induction vs with
    | nil => rfl
    | cons v r ih =>
      unfold lg_sl at ih ⊢
      rw [List.map_cons, List.flatMap_cons, ih, cv_cat]
      rfl
  have hl := lv_entry (av.map (cv ads)) (n := nL) (by rw [hsl, List.length_map]; exact hn)
  rw [lg_entry_eq]
  refine body p e s m _ below meth c ⟨B.exec, B.bytes, hml, hown, fun w h => hts w (List.mem_cons_of_mem _ h), fun q h => Or.inr h, hN, B.notSynchronized⟩ B.returns s.heap [] _ ⟨hlen, hK, hP, wld_self hD, va_S.rf⟩ ⟨hl.1, by simp; omega, hl.2.1, fun i v hi => ?_⟩
  have hi2 : i < av.length := by
    rcases Nat.lt_or_ge i av.length with h | h
    · exact h
    · rw [List.getElem?_append_right (by rw [List.length_map]; exact h)] at hi
      have := List.mem_of_getElem? hi
      simp at this
  rw [List.getElem?_append_left (by rw [List.length_map]; exact hi2), List.getElem?_map] at hi
  have hv : av[i]? = some v := by
    cases h9 : av[i]? with
    | none => rw [h9] at hi; cases hi
    | some w => rw [h9] at hi; cases hi; rfl
  rw [List.getElem?_toArray, hsl, List.getElem?_append_left (by rw [List.length_map]; exact hi2), List.getElem?_map, hv]
  rfl
end
section
/-! the heap behind the two constructors, and short forms -/
def shp : SH := [.inr (.inr (8, [some (some 1), some (some 3), some (some 13), some (some 26), some (some 29), some (some 95), none, none, none, none])),
  .inr (.inr (2, [some (some 2), none])),
  .inl 100,
  .inr (.inr (5, [some (some 1), some (some 4), none, some (some 5), some (some 6), some (some 7), some (some 8), some (some 9), some (some 10), some (some 11), some (some 12), none, none, none])),
  .inl 10,
  .inl 11,
  .inl 16,
  .inl 16,
  .inl 1024,
  .inl 10,
  .inl 10,
  .inl 10,
  .inl 100,
  .inr (.inr (7, [some (some 3), some (some 14), some (some 25)])),
  .inr (.inl (1, [some 15, some 16, some 17, some 18, some 19, some 20, some 21, some 22, some 23, some 24])),
  .inl 26,
  .inl 26,
  .inl 26,
  .inl 26,
  .inl 26,
  .inl 26,
  .inl 26,
  .inl 26,
  .inl 26,
  .inl 26,
  .inl 11,
  .inr (.inr (4, [some (some 27), some (some 28), none])),
  .inl 10,
  .inl 10,
  .inr (.inr (6, [some (some 3), some (some 13), some (some 26), some (some 68), some (some 30), some (some 31), some (some 43), some (some 55), some (some 67), none, none, none, none, none])),
  .inr (.inl (0, [some 71, some 75, some 79, some 83, some 87, some 91])),
  .inr (.inl (1, [some 32, some 33, some 34, some 35, some 36, some 37, some 38, some 39, some 40, some 41, some 42])),
  .inl 120,
  .inl 120,
  .inl 120,
  .inl 120,
  .inl 120,
  .inl 120,
  .inl 120,
  .inl 120,
  .inl 120,
  .inl 120,
  .inl 120,
  .inr (.inl (1, [some 44, some 45, some 46, some 47, some 48, some 49, some 50, some 51, some 52, some 53, some 54])),
  .inl 120,
  .inl 120,
  .inl 120,
  .inl 120,
  .inl 120,
  .inl 120,
  .inl 120,
  .inl 120,
  .inl 120,
  .inl 120,
  .inl 120,
  .inr (.inl (1, [some 56, some 57, some 58, some 59, some 60, some 61, some 62, some 63, some 64, some 65, some 66])),
  .inl 120,
  .inl 120,
  .inl 120,
  .inl 120,
  .inl 120,
  .inl 120,
  .inl 120,
  .inl 120,
  .inl 120,
  .inl 120,
  .inl 120,
  .inl 11,
  .inr (.inr (3, [some (some 3), some (some 13), some (some 26), some (some 69), some (some 70), none])),
  .inl 25,
  .inl 25,
  .inr (.inr (0, [none, none, some (some 72), some (some 73), some (some 74)])),
  .inl 0,
  .inl 1,
  .inl 1,
  .inr (.inr (0, [none, none, some (some 76), some (some 77), some (some 78)])),
  .inl 1,
  .inl 1,
  .inl 1,
  .inr (.inr (0, [none, none, some (some 80), some (some 81), some (some 82)])),
  .inl 4,
  .inl 2,
  .inl 2,
  .inr (.inr (0, [none, none, some (some 84), some (some 85), some (some 86)])),
  .inl 18,
  .inl 6,
  .inl 6,
  .inr (.inr (0, [none, none, some (some 88), some (some 89), some (some 90)])),
  .inl 96,
  .inl 24,
  .inl 24,
  .inr (.inr (0, [none, none, some (some 92), some (some 93), some (some 94)])),
  .inl 600,
  .inl 120,
  .inl 120,
  .inr (.inr (1, [some (some 3), some (some 29)])),
  .inr (.inr (9, [none, some (some 97), none, none, none, some (some 98), some (some 99), none, none, some (some 100), some (some 101), some (some 102), none, some (some 103), none, some (some 104), some (some 105), some (some 106), some (some 107), some (some 108), some (some 109), some (some 110), none, none, some (some 111), some (some 112), some (some 113), none, none])),
  .inl 100,
  .inl 10,
  .inl 10,
  .inl 10,
  .inl 10,
  .inl 10,
  .inl 1024,
  .inl 10,
  .inl 300,
  .inl 10,
  .inl 160,
  .inl 160,
  .inl 160,
  .inl 3600,
  .inl 1200,
  .inl 1200,
  .inl 10]
abbrev Gm (p : Program) (l : Launch) (e : Env) (s : State) (m : MethodId) (args : Array Value) (below : List Frame) (meth : Method) (c : Code) (D : va_G) (ads : AD) (fr lc nL : Nat) (po : Option AV → HI → HI → Prop) (I A : HI) (pc : Nat) (ls : List (Option AV)) (st : List AV) : Prop :=
  G p l e { frames := fr, cells := 0, slots := 0, locals := lc } s m args below meth c (MQ below (CPost D ads shp s.heap.size po) args s 0 0 (AdS ads s.heap.size)) D (AdS ads s.heap.size) nL 0 0 ads shp I A pc ls st
/-- fewer locals are known -/
def wkL : List (Option AV) → List (Option AV) → Prop
  | [], _ => True
  | none :: r, _ :: q => wkL r q
  | some v :: r, o :: q => o = some v ∧ wkL r q
  | _ :: _, [] => False
theorem wkL_get : ∀ {a b : List (Option AV)}, wkL a b → ∀ (i : Nat) (v : AV), a[i]? = some (some v) → b[i]? = some (some v)
  | [], _, _, i, v, h => by simp at h
  | none :: r, _ :: q, hw, i, v, h => by
    cases i with
    | zero => simp at h
    | succ i => rw [List.getElem?_cons_succ] at h ⊢; exact wkL_get (a := r) (b := q) hw i v h
  | some w :: r, o :: q, hw, i, v, h => by
    cases i with
    | zero => rw [List.getElem?_cons_zero] at h ⊢; cases h; rw [hw.1]
    | succ i => rw [List.getElem?_cons_succ] at h ⊢; exact wkL_get (a := r) (b := q) hw.2 i v h
  | none :: _, [], hw, _, _, _ => False.elim hw
  | some _ :: _, [], hw, _, _, _ => False.elim hw
section GW
variable {p : Program} {l : Launch} {e : Env} {R : Room} {s : State} {m : MethodId} {args : Array Value} {below : List Frame} {meth : Method} {c : Code} {Q : State → Prop} {D : va_G} {B : Nat → Prop} {nL cells slots : Nat} {ads : AD} {sh : SH} {I A : HI} {pc : Nat} {ls : List (Option AV)} {st : List AV} {cc : ByteArray} {own : String}
theorem g_weak {ls1 ls2 : List (Option AV)} (hl : ls1.length = ls2.length) (hw : wkL ls1 ls2) (k : G p l e R s m args below meth c Q D B nL cells slots ads sh I A pc ls1 st) : G p l e R s m args below meth c Q D B nL cells slots ads sh I A pc ls2 st :=
  fun H locs a hR hL => k H locs a hR ⟨hL.1, hl.trans hL.2.1, hL.2.2.1, fun i v h => hL.2.2.2 i v (wkL_get hw i v h)⟩
theorem g_alen (hC : CX p s m args meth c cc nL own B) {k n : Nat} (hd : decode cc pc = .ok (.arraylength, 1)) (hs : sh[k]? = some (.inl n)) (kk : G p l e R s m args below meth c Q D B nL cells slots ads sh I A (pc + 1) ls (.inl (Int32.ofNat n) :: st)) : G p l e R s m args below meth c Q D B nL cells slots ads sh I A pc ls (.inr (some k) :: st) := by
  intro H locs a hR hL
  obtain ⟨x, hx⟩ := ad_get hR hs
  obtain ⟨t, ht⟩ := tys_int hx hs
  have hw := wld_get (I := I) (A := A) hx hs
  have ha : adr ads k = x.1 := adr_of hx
  show W p l e R s m args below meth c H locs cells slots Q (F0 m pc a (.ref (adr ads k) :: st.map (cv ads)))
  rw [ha]
  exact va_alen hC.1 hC.2.1 hR.2.1 hR.2.2.1 k t hw ht rfl hd (kk H locs a hR hL)
end GW
/-! ends of contracts -/
def qI (v : Int32) (I A : HI) : Option AV → HI → HI → Prop := fun r I' A' => r = some (.inl v) ∧ I' = I ∧ A' = A
def qR (k : Nat) (I A : HI) : Option AV → HI → HI → Prop := fun r I' A' => r = some (.inr (some k)) ∧ I' = I ∧ A' = A
def qN (I A : HI) : Option AV → HI → HI → Prop := fun r I' A' => r = none ∧ I' = I ∧ A' = A
def qV (P : HI → HI → Prop) : Option AV → HI → HI → Prop := fun r I' A' => r = none ∧ P I' A'
def qJ (P : Int32 → HI → HI → Prop) : Option AV → HI → HI → Prop := fun r I' A' => ∃ v, r = some (.inl v) ∧ P v I' A'
def qK (P : HI → HI → Prop) (k : Nat) : Option AV → HI → HI → Prop := fun r I' A' => r = some (.inr (some k)) ∧ P I' A'
theorem k_qI {P : Option AV → HI → HI → Prop} {v : Int32} {I A : HI} (h : P (some (.inl v)) I A) : ∀ r I' A', qI v I A r I' A' → P r I' A' := by
  rintro r I' A' ⟨rfl, rfl, rfl⟩
  exact h
theorem k_qR {P : Option AV → HI → HI → Prop} {v : Nat} {I A : HI} (h : P (some (.inr (some v))) I A) : ∀ r I' A', qR v I A r I' A' → P r I' A' := by
  rintro r I' A' ⟨rfl, rfl, rfl⟩
  exact h
theorem k_qN {P : Option AV → HI → HI → Prop} {I A : HI} (h : P none I A) : ∀ r I' A', qN I A r I' A' → P r I' A' := by
  rintro r I' A' ⟨rfl, rfl, rfl⟩
  exact h
theorem k_qV {P : Option AV → HI → HI → Prop} {F : HI → HI → Prop} (h : ∀ I' A', F I' A' → P none I' A') : ∀ r I' A', qV F r I' A' → P r I' A' := by
  rintro r I' A' ⟨rfl, q⟩
  exact h I' A' q
theorem k_qJ {P : Option AV → HI → HI → Prop} {F : Int32 → HI → HI → Prop} (h : ∀ v I' A', F v I' A' → P (some (.inl v)) I' A') : ∀ r I' A', qJ F r I' A' → P r I' A' := by
  rintro r I' A' ⟨v, rfl, q⟩
  exact h v I' A' q
theorem k_qK {P : Option AV → HI → HI → Prop} {F : HI → HI → Prop} {k : Nat} (h : ∀ I' A', F I' A' → P (some (.inr (some k))) I' A') : ∀ r I' A', qK F k r I' A' → P r I' A' := by
  rintro r I' A' ⟨rfl, q⟩
  exact h I' A' q
theorem vin_lt {i : Int32} {n : Nat} (h : vp_in i n) : i.toNatClampNeg < n := Nat.not_le.mp fun q => h (Or.inr q)
theorem ra_14 : ∀ {j : Nat}, j < 10 → ([some 15, some 16, some 17, some 18, some 19, some 20, some 21, some 22, some 23, some 24] : List (Option Nat))[j]? = some (some (15 + j)) := by decide
theorem rw_14 {j : Nat} (h : j < 10) : shp[15 + j]? = some (.inl 26) := by
  match j, h with
  | 0, _ => rfl
  | 1, _ => rfl
  | 2, _ => rfl
  | 3, _ => rfl
  | 4, _ => rfl
  | 5, _ => rfl
  | 6, _ => rfl
  | 7, _ => rfl
  | 8, _ => rfl
  | 9, _ => rfl
theorem ra_31 : ∀ {j : Nat}, j < 11 → ([some 32, some 33, some 34, some 35, some 36, some 37, some 38, some 39, some 40, some 41, some 42] : List (Option Nat))[j]? = some (some (32 + j)) := by decide
theorem rw_31 {j : Nat} (h : j < 11) : shp[32 + j]? = some (.inl 120) := by
  match j, h with
  | 0, _ => rfl
  | 1, _ => rfl
  | 2, _ => rfl
  | 3, _ => rfl
  | 4, _ => rfl
  | 5, _ => rfl
  | 6, _ => rfl
  | 7, _ => rfl
  | 8, _ => rfl
  | 9, _ => rfl
  | 10, _ => rfl
theorem ra_43 : ∀ {j : Nat}, j < 11 → ([some 44, some 45, some 46, some 47, some 48, some 49, some 50, some 51, some 52, some 53, some 54] : List (Option Nat))[j]? = some (some (44 + j)) := by decide
theorem rw_43 {j : Nat} (h : j < 11) : shp[44 + j]? = some (.inl 120) := by
  match j, h with
  | 0, _ => rfl
  | 1, _ => rfl
  | 2, _ => rfl
  | 3, _ => rfl
  | 4, _ => rfl
  | 5, _ => rfl
  | 6, _ => rfl
  | 7, _ => rfl
  | 8, _ => rfl
  | 9, _ => rfl
  | 10, _ => rfl
theorem ra_55 : ∀ {j : Nat}, j < 11 → ([some 56, some 57, some 58, some 59, some 60, some 61, some 62, some 63, some 64, some 65, some 66] : List (Option Nat))[j]? = some (some (56 + j)) := by decide
theorem rw_55 {j : Nat} (h : j < 11) : shp[56 + j]? = some (.inl 120) := by
  match j, h with
  | 0, _ => rfl
  | 1, _ => rfl
  | 2, _ => rfl
  | 3, _ => rfl
  | 4, _ => rfl
  | 5, _ => rfl
  | 6, _ => rfl
  | 7, _ => rfl
  | 8, _ => rfl
  | 9, _ => rfl
  | 10, _ => rfl
theorem ra_30 : ∀ {j : Nat}, j < 6 → ([some 71, some 75, some 79, some 83, some 87, some 91] : List (Option Nat))[j]? = some (some (71 + 4 * j)) := by decide
theorem ch_sh {j : Nat} (h : j < 6) : ∃ fs, shp[71 + 4 * j]? = some (.inr (.inr (0, fs))) := by
  match j, h with
  | 0, _ => exact ⟨_, rfl⟩
  | 1, _ => exact ⟨_, rfl⟩
  | 2, _ => exact ⟨_, rfl⟩
  | 3, _ => exact ⟨_, rfl⟩
  | 4, _ => exact ⟨_, rfl⟩
  | 5, _ => exact ⟨_, rfl⟩
end
section
/-! words of the tables -/
theorem fl_X2_15 : fldw RX2 15 2 1 ∈ gtbl := gt_of (List.mem_append_right _ (List.mem_of_getElem? (i := 28) (by decide +kernel))) (by decide +kernel)
theorem nm_X8_arePlaces : nmOk yX8_arePlaces 2 := ⟨by decide +kernel, by decide +kernel, by decide +kernel⟩
theorem wt_X8_arePlaces : Cond.static yX8_arePlaces ∈ gtbl := gt_of (List.mem_append_right _ (List.mem_of_getElem? (i := 294) (by decide +kernel))) (by decide +kernel)
theorem wn_X8 : Cond.initialized RX8 ∈ gtbl := gt_of (List.mem_append_right _ (List.mem_of_getElem? (i := 1) (by decide +kernel))) (by decide +kernel)
theorem wc_X8_arePlaces : Cond.code yX8_arePlaces cX8_arePlaces 2 (some .boolean) ∈ gtbl := gt_of (List.mem_append_right _ (List.mem_of_getElem? (i := 295) (by decide +kernel))) (by decide +kernel)
theorem fl_X2_9 : fldw RX2 9 2 0 ∈ gtbl := gt_of (List.mem_append_right _ (List.mem_of_getElem? (i := 27) (by decide +kernel))) (by decide +kernel)
theorem fl_X9_7 : fldw RX9 7 9 1 ∈ gtbl := gt_of (List.mem_append_right _ (List.mem_of_getElem? (i := 691) (by decide +kernel))) (by decide +kernel)
end
section
/-! small words of numbers -/
def zP (x : Int32) : Int32 := if x < 0 ∨ 10 ≤ x then 0 else 1
def zPP (x y : Int32) : Int32 := if (x < 0 ∨ 10 ≤ x) ∨ (y < 0 ∨ 10 ≤ y) then 0 else 1
def mxI (x y : Int32) : Int32 := if x < y then y else x
def mnI (x y : Int32) : Int32 := if y < x then y else x
def filA (A : HI) (k n : Nat) (v : Int32) : HI := fun a b => if a = k ∧ b < n then v else A a b
section GX
variable {p : Program} {l : Launch} {e : Env} {R : Room} {s : State} {m : MethodId} {args : Array Value} {below : List Frame} {meth : Method} {c : Code} {Q : State → Prop} {D : va_G} {B : Nat → Prop} {nL cells slots : Nat} {ads : AD} {sh : SH} {I A : HI} {pc : Nat} {ls : List (Option AV)} {st : List AV} {cc : ByteArray} {own : String}
theorem wm_max : Cond.static Lib.Math.max.name ∈ gtbl ∧ Cond.initialized "java/lang/Math" ∈ gtbl ∧ Cond.code Lib.Math.max.name Lib.Math.max.code 2 (some .int) ∈ gtbl := ⟨gt_of (List.mem_append_right _ (by decide +kernel)) (by decide +kernel), gt_of (List.mem_append_right _ (by decide +kernel)) (by decide +kernel), gt_of (List.mem_append_right _ (by decide +kernel)) (by decide +kernel)⟩
theorem wm_min : Cond.static Lib.Math.min.name ∈ gtbl ∧ Cond.initialized "java/lang/Math" ∈ gtbl ∧ Cond.code Lib.Math.min.name Lib.Math.min.code 2 (some .int) ∈ gtbl := ⟨gt_of (List.mem_append_right _ (by decide +kernel)) (by decide +kernel), gt_of (List.mem_append_right _ (by decide +kernel)) (by decide +kernel), gt_of (List.mem_append_right _ (by decide +kernel)) (by decide +kernel)⟩
theorem g_max (hC : CX p s m args meth c cc nL own B) {x y : Int32} {idx : Nat} (hd : decode cc pc = .ok (.invokestatic idx, 3)) (hw : Cond.methodLink own idx Lib.Math.max.name ∈ gtbl) (hf : 1 ≤ R.frames) (hl : st.length + 13 ≤ R.locals) (hc : cells ≤ R.cells ∧ slots ≤ R.slots) (k : G p l e R s m args below meth c Q D B nL cells slots ads sh I A (pc + 3) ls (.inl (mxI x y) :: st)) : G p l e R s m args below meth c Q D B nL cells slots ads sh I A pc ls (.inl y :: .inl x :: st) := by
  intro H locs a hR hL
  have hts := hC.2.2.2.2.1
  exact va_mmax hC.1 hC.2.1 (hC.2.2.1.trans hL.1.symm) hC.2.2.2.1 (hts _ hw) (hts _ wm_max.1) (hts _ wm_max.2.1) (hts _ wm_max.2.2) hf (by rw [stv]; exact hl) hc.1 hc.2 hd (k H locs a hR hL)
theorem g_min (hC : CX p s m args meth c cc nL own B) {x y : Int32} {idx : Nat} (hd : decode cc pc = .ok (.invokestatic idx, 3)) (hw : Cond.methodLink own idx Lib.Math.min.name ∈ gtbl) (hf : 1 ≤ R.frames) (hl : st.length + 13 ≤ R.locals) (hc : cells ≤ R.cells ∧ slots ≤ R.slots) (k : G p l e R s m args below meth c Q D B nL cells slots ads sh I A (pc + 3) ls (.inl (mnI x y) :: st)) : G p l e R s m args below meth c Q D B nL cells slots ads sh I A pc ls (.inl y :: .inl x :: st) := by
  intro H locs a hR hL
  have hts := hC.2.2.2.2.1
  exact va_mmin hC.1 hC.2.1 (hC.2.2.1.trans hL.1.symm) hC.2.2.2.1 (hts _ hw) (hts _ wm_min.1) (hts _ wm_min.2.1) (hts _ wm_min.2.2) hf (by rw [stv]; exact hl) hc.1 hc.2 hd (k H locs a hR hL)
end GX
theorem bX8_isPlace_0_1 : okB cX8_isPlace RX8 0 [(3, 0, 0, 0, 0)] := And.intro ⟨_, dX8_isPlace_0, rfl⟩ trivial
theorem bX8_isPlace_14_15 : okB cX8_isPlace RX8 14 [(0, 0, 0, 0, 0)] := And.intro ⟨_, dX8_isPlace_14, by decide⟩ trivial
theorem bX8_isPlace_4_7 : okB cX8_isPlace RX8 4 [(3, 0, 0, 0, 0), (1, 0, 0, 0, 10)] := And.intro ⟨_, dX8_isPlace_4, rfl⟩ (And.intro ⟨_, dX8_isPlace_5, by decide⟩ trivial)
theorem bX8_isPlace_10_11 : okB cX8_isPlace RX8 10 [(0, 0, 0, 0, 1)] := And.intro ⟨_, dX8_isPlace_10, by decide⟩ trivial
set_option maxHeartbeats 4000000 in
set_option maxRecDepth 100000 in
theorem k_X8_isPlace (l : Launch) (D : va_G) (ads : AD) (I A : HI) (a1 : Int32) (po : Option AV → HI → HI → Prop)
    (hv : ((a1 < 0 → po (some (.inl 0)) I A) ∧ (¬ a1 < 0 → ((10 ≤ a1 → po (some (.inl 0)) I A) ∧ (¬ 10 ≤ a1 → po (some (.inl 1)) I A))))) : Ct l yX8_isPlace cX8_isPlace 1 (some .boolean) 0 0 D ads shp [.inl a1] I A po := by
  refine Ct_of (by decide) (Nat.le_of_ble_eq_true rfl) ?_
  intro p e s m args below meth c hC hr
  replace hC : CX p s m args meth c cX8_isPlace 1 RX8 (AdS ads s.heap.size) := hC
  show Gm p l e s m args below meth c D ads 0 0 1 po I A 0 [some (.inl a1)] []
  refine g_blk hC _ bX8_isPlace_0_1 (pc' := 1) (ls' := [some (.inl a1)]) (st' := [.inl a1]) (I' := I) rfl rfl ?_
  obtain ⟨hv1, hv2⟩ := hv
  refine g_iflt hC dX8_isPlace_1 (tgt := 14) (by decide) (fun hc => ?_) (fun hc => ?_)
  · have hv := hv1 hc
    clear hv1 hv2 hc
    refine g_blk hC _ bX8_isPlace_14_15 (pc' := 15) (ls' := [some (.inl a1)]) (st' := [.inl 0]) (I' := I) rfl rfl ?_
    exact g_reti hC hr (by decide) dX8_isPlace_15 hv
  · have hv := hv2 hc
    clear hv1 hv2 hc
    refine g_blk hC _ bX8_isPlace_4_7 (pc' := 7) (ls' := [some (.inl a1)]) (st' := [.inl 10, .inl a1]) (I' := I) rfl rfl ?_
    obtain ⟨hv1, hv2⟩ := hv
    refine g_cge hC dX8_isPlace_7 (tgt := 14) (by decide) (fun hc => ?_) (fun hc => ?_)
    · have hv := hv1 hc
      clear hv1 hv2 hc
      refine g_blk hC _ bX8_isPlace_14_15 (pc' := 15) (ls' := [some (.inl a1)]) (st' := [.inl 0]) (I' := I) rfl rfl ?_
      exact g_reti hC hr (by decide) dX8_isPlace_15 hv
    · have hv := hv2 hc
      clear hv1 hv2 hc
      refine g_blk hC _ bX8_isPlace_10_11 (pc' := 11) (ls' := [some (.inl a1)]) (st' := [.inl 1]) (I' := I) rfl rfl ?_
      refine g_goto hC dX8_isPlace_11 (tgt := 15) (by decide) ?_
      exact g_reti hC hr (by decide) dX8_isPlace_15 hv
theorem bX8_arePlaces_0_1 : okB cX8_arePlaces RX8 0 [(3, 0, 0, 0, 0)] := And.intro ⟨_, dX8_arePlaces_0, rfl⟩ trivial
theorem bX8_arePlaces_24_25 : okB cX8_arePlaces RX8 24 [(0, 0, 0, 0, 0)] := And.intro ⟨_, dX8_arePlaces_24, by decide⟩ trivial
theorem bX8_arePlaces_4_7 : okB cX8_arePlaces RX8 4 [(3, 0, 0, 0, 0), (1, 0, 0, 0, 10)] := And.intro ⟨_, dX8_arePlaces_4, rfl⟩ (And.intro ⟨_, dX8_arePlaces_5, by decide⟩ trivial)
theorem bX8_arePlaces_10_11 : okB cX8_arePlaces RX8 10 [(3, 1, 0, 0, 0)] := And.intro ⟨_, dX8_arePlaces_10, rfl⟩ trivial
theorem bX8_arePlaces_14_17 : okB cX8_arePlaces RX8 14 [(3, 1, 0, 0, 0), (1, 0, 0, 0, 10)] := And.intro ⟨_, dX8_arePlaces_14, rfl⟩ (And.intro ⟨_, dX8_arePlaces_15, by decide⟩ trivial)
theorem bX8_arePlaces_20_21 : okB cX8_arePlaces RX8 20 [(0, 0, 0, 0, 1)] := And.intro ⟨_, dX8_arePlaces_20, by decide⟩ trivial
set_option maxHeartbeats 4000000 in
set_option maxRecDepth 100000 in
theorem k_X8_arePlaces (l : Launch) (D : va_G) (ads : AD) (I A : HI) (a1 : Int32) (a2 : Int32) (po : Option AV → HI → HI → Prop)
    (hv : ((a1 < 0 → po (some (.inl 0)) I A) ∧ (¬ a1 < 0 → ((10 ≤ a1 → po (some (.inl 0)) I A) ∧ (¬ 10 ≤ a1 → ((a2 < 0 → po (some (.inl 0)) I A) ∧ (¬ a2 < 0 → ((10 ≤ a2 → po (some (.inl 0)) I A) ∧ (¬ 10 ≤ a2 → po (some (.inl 1)) I A))))))))) : Ct l yX8_arePlaces cX8_arePlaces 2 (some .boolean) 0 0 D ads shp [.inl a1, .inl a2] I A po := by
  refine Ct_of (by decide) (Nat.le_of_ble_eq_true rfl) ?_
  intro p e s m args below meth c hC hr
  replace hC : CX p s m args meth c cX8_arePlaces 2 RX8 (AdS ads s.heap.size) := hC
  show Gm p l e s m args below meth c D ads 0 0 2 po I A 0 [some (.inl a1), some (.inl a2)] []
  refine g_blk hC _ bX8_arePlaces_0_1 (pc' := 1) (ls' := [some (.inl a1), some (.inl a2)]) (st' := [.inl a1]) (I' := I) rfl rfl ?_
  obtain ⟨hv1, hv2⟩ := hv
  refine g_iflt hC dX8_arePlaces_1 (tgt := 24) (by decide) (fun hc => ?_) (fun hc => ?_)
  · have hv := hv1 hc
    clear hv1 hv2 hc
    refine g_blk hC _ bX8_arePlaces_24_25 (pc' := 25) (ls' := [some (.inl a1), some (.inl a2)]) (st' := [.inl 0]) (I' := I) rfl rfl ?_
    exact g_reti hC hr (by decide) dX8_arePlaces_25 hv
  · have hv := hv2 hc
    clear hv1 hv2 hc
    refine g_blk hC _ bX8_arePlaces_4_7 (pc' := 7) (ls' := [some (.inl a1), some (.inl a2)]) (st' := [.inl 10, .inl a1]) (I' := I) rfl rfl ?_
    obtain ⟨hv1, hv2⟩ := hv
    refine g_cge hC dX8_arePlaces_7 (tgt := 24) (by decide) (fun hc => ?_) (fun hc => ?_)
    · have hv := hv1 hc
      clear hv1 hv2 hc
      refine g_blk hC _ bX8_arePlaces_24_25 (pc' := 25) (ls' := [some (.inl a1), some (.inl a2)]) (st' := [.inl 0]) (I' := I) rfl rfl ?_
      exact g_reti hC hr (by decide) dX8_arePlaces_25 hv
    · have hv := hv2 hc
      clear hv1 hv2 hc
      refine g_blk hC _ bX8_arePlaces_10_11 (pc' := 11) (ls' := [some (.inl a1), some (.inl a2)]) (st' := [.inl a2]) (I' := I) rfl rfl ?_
      obtain ⟨hv1, hv2⟩ := hv
      refine g_iflt hC dX8_arePlaces_11 (tgt := 24) (by decide) (fun hc => ?_) (fun hc => ?_)
      · have hv := hv1 hc
        clear hv1 hv2 hc
        refine g_blk hC _ bX8_arePlaces_24_25 (pc' := 25) (ls' := [some (.inl a1), some (.inl a2)]) (st' := [.inl 0]) (I' := I) rfl rfl ?_
        exact g_reti hC hr (by decide) dX8_arePlaces_25 hv
      · have hv := hv2 hc
        clear hv1 hv2 hc
        refine g_blk hC _ bX8_arePlaces_14_17 (pc' := 17) (ls' := [some (.inl a1), some (.inl a2)]) (st' := [.inl 10, .inl a2]) (I' := I) rfl rfl ?_
        obtain ⟨hv1, hv2⟩ := hv
        refine g_cge hC dX8_arePlaces_17 (tgt := 24) (by decide) (fun hc => ?_) (fun hc => ?_)
        · have hv := hv1 hc
          clear hv1 hv2 hc
          refine g_blk hC _ bX8_arePlaces_24_25 (pc' := 25) (ls' := [some (.inl a1), some (.inl a2)]) (st' := [.inl 0]) (I' := I) rfl rfl ?_
          exact g_reti hC hr (by decide) dX8_arePlaces_25 hv
        · have hv := hv2 hc
          clear hv1 hv2 hc
          refine g_blk hC _ bX8_arePlaces_20_21 (pc' := 21) (ls' := [some (.inl a1), some (.inl a2)]) (st' := [.inl 1]) (I' := I) rfl rfl ?_
          refine g_goto hC dX8_arePlaces_21 (tgt := 25) (by decide) ?_
          exact g_reti hC hr (by decide) dX8_arePlaces_25 hv
theorem bX8_pair_0_5 : okB cX8_pair RX8 0 [(3, 0, 0, 0, 0), (0, 0, 0, 0, 5), (14, 0, 0, 0, 0), (3, 1, 0, 0, 0), (12, 0, 0, 0, 0)] := And.intro ⟨_, dX8_pair_0, rfl⟩ (And.intro ⟨_, dX8_pair_1, by decide⟩ (And.intro dX8_pair_2 (And.intro ⟨_, dX8_pair_3, rfl⟩ (And.intro dX8_pair_4 trivial))))
set_option maxHeartbeats 4000000 in
set_option maxRecDepth 100000 in
theorem k_X8_pair (l : Launch) (D : va_G) (ads : AD) (I A : HI) (a1 : Int32) (a2 : Int32) (po : Option AV → HI → HI → Prop)
    (hv : po (some (.inl ((a1 * 5) + a2))) I A) : Ct l yX8_pair cX8_pair 2 (some .int) 0 0 D ads shp [.inl a1, .inl a2] I A po := by
  refine Ct_of (by decide) (Nat.le_of_ble_eq_true rfl) ?_
  intro p e s m args below meth c hC hr
  replace hC : CX p s m args meth c cX8_pair 2 RX8 (AdS ads s.heap.size) := hC
  show Gm p l e s m args below meth c D ads 0 0 2 po I A 0 [some (.inl a1), some (.inl a2)] []
  refine g_blk hC _ bX8_pair_0_5 (pc' := 5) (ls' := [some (.inl a1), some (.inl a2)]) (st' := [.inl ((a1 * 5) + a2)]) (I' := I) rfl rfl ?_
  exact g_reti hC hr rfl dX8_pair_5 hv
theorem bJ7_fill_53178_0_3 : okB cJ7_fill_53178 RJ7 0 [(0, 0, 0, 0, 0), (7, 2, 0, 0, 0), (5, 0, 0, 0, 0)] := And.intro ⟨_, dJ7_fill_53178_0, by decide⟩ (And.intro ⟨_, dJ7_fill_53178_1, rfl⟩ (And.intro ⟨_, dJ7_fill_53178_2, rfl⟩ trivial))
theorem bJ7_fill_53178_4_5 : okB cJ7_fill_53178 RJ7 4 [(7, 3, 0, 0, 0)] := And.intro ⟨_, dJ7_fill_53178_4, rfl⟩ trivial
theorem bJ7_fill_53178_5_7 : okB cJ7_fill_53178 RJ7 5 [(3, 2, 0, 0, 0), (3, 3, 0, 0, 0)] := And.intro ⟨_, dJ7_fill_53178_5, rfl⟩ (And.intro ⟨_, dJ7_fill_53178_6, rfl⟩ trivial)
theorem bJ7_fill_53178_10_13 : okB cJ7_fill_53178 RJ7 10 [(5, 0, 0, 0, 0), (3, 2, 0, 0, 0), (3, 1, 0, 0, 0)] := And.intro ⟨_, dJ7_fill_53178_10, rfl⟩ (And.intro ⟨_, dJ7_fill_53178_11, rfl⟩ (And.intro ⟨_, dJ7_fill_53178_12, rfl⟩ trivial))
theorem bJ7_fill_53178_14_17 : okB cJ7_fill_53178 RJ7 14 [(11, 2, 0, 0, 1)] := And.intro ⟨_, dJ7_fill_53178_14, by decide⟩ trivial
set_option maxHeartbeats 4000000 in
set_option maxRecDepth 100000 in
theorem k_J7_fill_53178 (l : Launch) (D : va_G) (ads : AD) (I A : HI) (a2 : Int32) (k1 n1 : Nat) (hk1 : shp[k1]? = some (.inl n1)) (po : Option AV → HI → HI → Prop) (Iv5 : Int32 → HI → Prop) (mu5 : Int32 → HI → Nat)
    (hv : (Iv5 0 A ∧ ∀ (x2_5 : Int32) (A_5 : HI), Iv5 x2_5 A_5 → (((Int32.ofNat n1) ≤ x2_5 → po none I A_5) ∧ (¬ (Int32.ofNat n1) ≤ x2_5 → (vp_in x2_5 n1 ∧ (Iv5 (x2_5 + 1) (up2 A_5 k1 x2_5.toNatClampNeg a2) ∧ mu5 (x2_5 + 1) (up2 A_5 k1 x2_5.toNatClampNeg a2) < mu5 x2_5 A_5)))))) : Ct l yJ7_fill_53178 cJ7_fill_53178 4 none 0 0 D ads shp [.inr (some k1), .inl a2] I A po := by
  refine Ct_of (by decide) (Nat.le_of_ble_eq_true rfl) ?_
  intro p e s m args below meth c hC hr
  replace hC : CX p s m args meth c cJ7_fill_53178 4 RJ7 (AdS ads s.heap.size) := hC
  show Gm p l e s m args below meth c D ads 0 0 4 po I A 0 [some (.inr (some k1)), some (.inl a2), none, none] []
  refine g_blk hC _ bJ7_fill_53178_0_3 (pc' := 3) (ls' := [some (.inr (some k1)), some (.inl a2), some (.inl 0), none]) (st' := [.inr (some k1)]) (I' := I) rfl rfl ?_
  refine g_alen hC dJ7_fill_53178_3 (hk1) ?_
  refine g_blk hC _ bJ7_fill_53178_4_5 (pc' := 5) (ls' := [some (.inr (some k1)), some (.inl a2), some (.inl 0), some (.inl (Int32.ofNat n1))]) (st' := []) (I' := I) rfl rfl ?_
  obtain ⟨hi5, hb5⟩ := hv
  have L5 : ∀ (n : Nat) (x2_5 : Int32) (A_5 : HI), Iv5 x2_5 A_5 → mu5 x2_5 A_5 < n → Gm p l e s m args below meth c D ads 0 0 4 po I A_5 5 [some (.inr (some k1)), some (.inl a2), some (.inl x2_5), some (.inl (Int32.ofNat n1))] [] := by
    intro n
    induction n with
    | zero => intro x2_5 A_5 _ hn; exact absurd hn (Nat.not_lt_zero _)
    | succ n ih5 =>
      intro x2_5 A_5 hv hn5
      replace hv := hb5 x2_5 A_5 hv
      skip
      refine g_blk hC _ bJ7_fill_53178_5_7 (pc' := 7) (ls' := [some (.inr (some k1)), some (.inl a2), some (.inl x2_5), some (.inl (Int32.ofNat n1))]) (st' := [.inl (Int32.ofNat n1), .inl x2_5]) (I' := I) rfl rfl ?_
      obtain ⟨hv1, hv2⟩ := hv
      refine g_cge hC dJ7_fill_53178_7 (tgt := 20) (by decide) (fun hc => ?_) (fun hc => ?_)
      · have hv := hv1 hc
        clear hv1 hv2 hc
        exact g_retv hC hr dJ7_fill_53178_20 hv
      · have hv := hv2 hc
        clear hv1 hv2 hc
        refine g_blk hC _ bJ7_fill_53178_10_13 (pc' := 13) (ls' := [some (.inr (some k1)), some (.inl a2), some (.inl x2_5), some (.inl (Int32.ofNat n1))]) (st' := [.inl a2, .inl x2_5, .inr (some k1)]) (I' := I) rfl rfl ?_
        obtain ⟨hi, hv⟩ := hv
        refine g_iast hC dJ7_fill_53178_13 (hk1) hi ?_
        clear hi
        refine g_blk hC _ bJ7_fill_53178_14_17 (pc' := 17) (ls' := [some (.inr (some k1)), some (.inl a2), some (.inl (x2_5 + 1)), some (.inl (Int32.ofNat n1))]) (st' := []) (I' := I) rfl rfl ?_
        refine g_goto hC dJ7_fill_53178_17 (tgt := 5) (by decide) ?_
        exact g_weak (ls1 := [some (.inr (some k1)), some (.inl a2), some (.inl (x2_5 + 1)), some (.inl (Int32.ofNat n1))]) rfl (And.intro rfl (And.intro rfl (And.intro rfl (And.intro rfl trivial)))) (ih5 (x2_5 + 1) (up2 A_5 k1 x2_5.toNatClampNeg a2) hv.1 (Nat.lt_of_lt_of_le hv.2 (Nat.le_of_lt_succ hn5)))
  exact g_weak (ls1 := [some (.inr (some k1)), some (.inl a2), some (.inl 0), some (.inl (Int32.ofNat n1))]) rfl (And.intro rfl (And.intro rfl (And.intro rfl (And.intro rfl trivial)))) (L5 _ 0 A hi5 (Nat.lt_succ_self _))
end
section
theorem bX2_number_0_4 : okB cX2_number RX2 0 [(5, 0, 0, 0, 0), (23, 15, 2, 1, 0)] := And.intro ⟨_, dX2_number_0, rfl⟩ (And.intro ⟨dX2_number_1, fl_X2_15⟩ trivial)
set_option maxHeartbeats 4000000 in
set_option maxRecDepth 100000 in
theorem k_X2_number (l : Launch) (D : va_G) (ads : AD) (I A : HI) (po : Option AV → HI → HI → Prop)
    (hv : po (some (.inl (I 1 1))) I A) : Ct l yX2_number cX2_number 1 (some .int) 0 0 D ads shp [.inr (some 1)] I A po := by
  refine Ct_of (by decide) (Nat.le_of_ble_eq_true rfl) ?_
  intro p e s m args below meth c hC hr
  replace hC : CX p s m args meth c cX2_number 1 RX2 (AdS ads s.heap.size) := hC
  show Gm p l e s m args below meth c D ads 0 0 1 po I A 0 [some (.inr (some 1))] []
  refine g_blk hC _ bX2_number_0_4 (pc' := 4) (ls' := [some (.inr (some 1))]) (st' := [.inl (I 1 1)]) (I' := I) rfl rfl ?_
  exact g_reti hC hr rfl dX2_number_4 hv
theorem bX2_between_0_2 : okB cX2_between RX2 0 [(3, 1, 0, 0, 0), (3, 2, 0, 0, 0)] := And.intro ⟨_, dX2_between_0, rfl⟩ (And.intro ⟨_, dX2_between_1, rfl⟩ trivial)
theorem bX2_between_22_23 : okB cX2_between RX2 22 [(0, 0, 0, 0, 0)] := And.intro ⟨_, dX2_between_22, by decide⟩ trivial
theorem bX2_between_8_18 : okB cX2_between RX2 8 [(5, 0, 0, 0, 0), (23, 9, 2, 0, 0), (3, 1, 0, 0, 0), (1, 0, 0, 0, 10), (14, 0, 0, 0, 0), (3, 2, 0, 0, 0), (12, 0, 0, 0, 0)] := And.intro ⟨_, dX2_between_8, rfl⟩ (And.intro ⟨dX2_between_9, fl_X2_9⟩ (And.intro ⟨_, dX2_between_12, rfl⟩ (And.intro ⟨_, dX2_between_13, by decide⟩ (And.intro dX2_between_15 (And.intro ⟨_, dX2_between_16, rfl⟩ (And.intro dX2_between_17 trivial))))))
set_option maxHeartbeats 4000000 in
set_option maxRecDepth 100000 in
theorem k_X2_between (l : Launch) (D : va_G) (ads : AD) (I A : HI) (a1 : Int32) (a2 : Int32) (po : Option AV → HI → HI → Prop)
    (hv : (((zPP a1 a2) = 0 → po (some (.inl 0)) I A) ∧ (¬ (zPP a1 a2) = 0 → (vp_in ((a1 * 10) + a2) 100 ∧ po (some (.inl (A 2 ((a1 * 10) + a2).toNatClampNeg))) I A)))) : Ct l yX2_between cX2_between 3 (some .int) 1 21 D ads shp [.inr (some 1), .inl a1, .inl a2] I A po := by
  refine Ct_of (by decide) (Nat.le_of_ble_eq_true rfl) ?_
  intro p e s m args below meth c hC hr
  replace hC : CX p s m args meth c cX2_between 3 RX2 (AdS ads s.heap.size) := hC
  show Gm p l e s m args below meth c D ads 1 21 3 po I A 0 [some (.inr (some 1)), some (.inl a1), some (.inl a2)] []
  refine g_blk hC _ bX2_between_0_2 (pc' := 2) (ls' := [some (.inr (some 1)), some (.inl a1), some (.inl a2)]) (st' := [.inl a2, .inl a1]) (I' := I) rfl rfl ?_
  refine g_callN (host := RX8) hC (c_X8_arePlaces l D ads I A a1 a2) dX2_between_2 nm_X8_arePlaces (List.mem_of_getElem? (i := 2) rfl) wt_X8_arePlaces wn_X8 wc_X8_arePlaces ⟨by decide, by decide⟩ (as := [.inl a1, .inl a2]) (rest := []) rfl (Nat.le_of_ble_eq_true rfl) ⟨Nat.le_refl _, Nat.le_refl _⟩ (k_qI ?_)
  obtain ⟨hv1, hv2⟩ := hv
  refine g_ifeq hC dX2_between_5 (tgt := 22) (by decide) (fun hc => ?_) (fun hc => ?_)
  · have hv := hv1 hc
    clear hv1 hv2 hc
    refine g_blk hC _ bX2_between_22_23 (pc' := 23) (ls' := [some (.inr (some 1)), some (.inl a1), some (.inl a2)]) (st' := [.inl 0]) (I' := I) rfl rfl ?_
    exact g_reti hC hr rfl dX2_between_23 hv
  · have hv := hv2 hc
    clear hv1 hv2 hc
    refine g_blk hC _ bX2_between_8_18 (pc' := 18) (ls' := [some (.inr (some 1)), some (.inl a1), some (.inl a2)]) (st' := [.inl ((a1 * 10) + a2), .inr (some 2)]) (I' := I) rfl rfl ?_
    obtain ⟨hi, hv⟩ := hv
    refine g_iald hC dX2_between_18 (rfl) hi ?_
    clear hi
    refine g_goto hC dX2_between_19 (tgt := 23) (by decide) ?_
    exact g_reti hC hr rfl dX2_between_23 hv
theorem bX9_isPlace_0_1 : okB cX9_isPlace RX9 0 [(3, 1, 0, 0, 0)] := And.intro ⟨_, dX9_isPlace_0, rfl⟩ trivial
theorem bX9_isPlace_14_15 : okB cX9_isPlace RX9 14 [(0, 0, 0, 0, 0)] := And.intro ⟨_, dX9_isPlace_14, by decide⟩ trivial
theorem bX9_isPlace_4_7 : okB cX9_isPlace RX9 4 [(3, 1, 0, 0, 0), (1, 0, 0, 0, 10)] := And.intro ⟨_, dX9_isPlace_4, rfl⟩ (And.intro ⟨_, dX9_isPlace_5, by decide⟩ trivial)
theorem bX9_isPlace_10_11 : okB cX9_isPlace RX9 10 [(0, 0, 0, 0, 1)] := And.intro ⟨_, dX9_isPlace_10, by decide⟩ trivial
set_option maxHeartbeats 4000000 in
set_option maxRecDepth 100000 in
theorem k_X9_isPlace (l : Launch) (D : va_G) (ads : AD) (I A : HI) (a1 : Int32) (po : Option AV → HI → HI → Prop)
    (hv : ((a1 < 0 → po (some (.inl 0)) I A) ∧ (¬ a1 < 0 → ((10 ≤ a1 → po (some (.inl 0)) I A) ∧ (¬ 10 ≤ a1 → po (some (.inl 1)) I A))))) : Ct l yX9_isPlace cX9_isPlace 2 (some .boolean) 0 0 D ads shp [.inr (some 96), .inl a1] I A po := by
  refine Ct_of (by decide) (Nat.le_of_ble_eq_true rfl) ?_
  intro p e s m args below meth c hC hr
  replace hC : CX p s m args meth c cX9_isPlace 2 RX9 (AdS ads s.heap.size) := hC
  show Gm p l e s m args below meth c D ads 0 0 2 po I A 0 [some (.inr (some 96)), some (.inl a1)] []
  refine g_blk hC _ bX9_isPlace_0_1 (pc' := 1) (ls' := [some (.inr (some 96)), some (.inl a1)]) (st' := [.inl a1]) (I' := I) rfl rfl ?_
  obtain ⟨hv1, hv2⟩ := hv
  refine g_iflt hC dX9_isPlace_1 (tgt := 14) (by decide) (fun hc => ?_) (fun hc => ?_)
  · have hv := hv1 hc
    clear hv1 hv2 hc
    refine g_blk hC _ bX9_isPlace_14_15 (pc' := 15) (ls' := [some (.inr (some 96)), some (.inl a1)]) (st' := [.inl 0]) (I' := I) rfl rfl ?_
    exact g_reti hC hr (by decide) dX9_isPlace_15 hv
  · have hv := hv2 hc
    clear hv1 hv2 hc
    refine g_blk hC _ bX9_isPlace_4_7 (pc' := 7) (ls' := [some (.inr (some 96)), some (.inl a1)]) (st' := [.inl 10, .inl a1]) (I' := I) rfl rfl ?_
    obtain ⟨hv1, hv2⟩ := hv
    refine g_cge hC dX9_isPlace_7 (tgt := 14) (by decide) (fun hc => ?_) (fun hc => ?_)
    · have hv := hv1 hc
      clear hv1 hv2 hc
      refine g_blk hC _ bX9_isPlace_14_15 (pc' := 15) (ls' := [some (.inr (some 96)), some (.inl a1)]) (st' := [.inl 0]) (I' := I) rfl rfl ?_
      exact g_reti hC hr (by decide) dX9_isPlace_15 hv
    · have hv := hv2 hc
      clear hv1 hv2 hc
      refine g_blk hC _ bX9_isPlace_10_11 (pc' := 11) (ls' := [some (.inr (some 96)), some (.inl a1)]) (st' := [.inl 1]) (I' := I) rfl rfl ?_
      refine g_goto hC dX9_isPlace_11 (tgt := 15) (by decide) ?_
      exact g_reti hC hr (by decide) dX9_isPlace_15 hv
theorem bX9_flowsTo_0_5 : okB cX9_flowsTo RX9 0 [(0, 0, 0, 0, 0), (7, 3, 0, 0, 0), (0, 0, 0, 0, 0), (8, 4, 0, 0, 0)] := And.intro ⟨_, dX9_flowsTo_0, by decide⟩ (And.intro ⟨_, dX9_flowsTo_1, rfl⟩ (And.intro ⟨_, dX9_flowsTo_2, by decide⟩ (And.intro dX9_flowsTo_3 trivial)))
theorem bX9_flowsTo_5_9 : okB cX9_flowsTo RX9 5 [(4, 4, 0, 0, 0), (1, 0, 0, 0, 10)] := And.intro dX9_flowsTo_5 (And.intro ⟨_, dX9_flowsTo_7, by decide⟩ trivial)
theorem bX9_flowsTo_43_44 : okB cX9_flowsTo RX9 43 [(3, 3, 0, 0, 0)] := And.intro ⟨_, dX9_flowsTo_43, rfl⟩ trivial
theorem bX9_flowsTo_12_19 : okB cX9_flowsTo RX9 12 [(3, 2, 0, 0, 0), (4, 4, 0, 0, 0), (19, 0, 0, 0, 0), (0, 0, 0, 0, 1), (15, 0, 0, 0, 0), (0, 0, 0, 0, 1)] := And.intro ⟨_, dX9_flowsTo_12, rfl⟩ (And.intro dX9_flowsTo_13 (And.intro dX9_flowsTo_15 (And.intro ⟨_, dX9_flowsTo_16, by decide⟩ (And.intro dX9_flowsTo_17 (And.intro ⟨_, dX9_flowsTo_18, by decide⟩ trivial)))))
theorem bX9_flowsTo_37_40 : okB cX9_flowsTo RX9 37 [(11, 4, 0, 0, 1)] := And.intro ⟨_, dX9_flowsTo_37, by decide⟩ trivial
theorem bX9_flowsTo_22_34 : okB cX9_flowsTo RX9 22 [(3, 3, 0, 0, 0), (5, 0, 0, 0, 0), (23, 7, 9, 1, 0), (1, 0, 0, 0, 10), (3, 1, 0, 0, 0), (14, 0, 0, 0, 0), (4, 4, 0, 0, 0), (12, 0, 0, 0, 0)] := And.intro ⟨_, dX9_flowsTo_22, rfl⟩ (And.intro ⟨_, dX9_flowsTo_23, rfl⟩ (And.intro ⟨dX9_flowsTo_24, fl_X9_7⟩ (And.intro ⟨_, dX9_flowsTo_27, by decide⟩ (And.intro ⟨_, dX9_flowsTo_29, rfl⟩ (And.intro dX9_flowsTo_30 (And.intro dX9_flowsTo_31 (And.intro dX9_flowsTo_33 trivial)))))))
theorem bX9_flowsTo_35_40 : okB cX9_flowsTo RX9 35 [(12, 0, 0, 0, 0), (7, 3, 0, 0, 0), (11, 4, 0, 0, 1)] := And.intro dX9_flowsTo_35 (And.intro ⟨_, dX9_flowsTo_36, rfl⟩ (And.intro ⟨_, dX9_flowsTo_37, by decide⟩ trivial))
set_option maxHeartbeats 4000000 in
set_option maxRecDepth 100000 in
theorem k_X9_flowsTo (l : Launch) (D : va_G) (ads : AD) (I A : HI) (a1 : Int32) (a2 : Int32) (po : Option AV → HI → HI → Prop) (Iv5 : Int32 → Int32 → Prop) (mu5 : Int32 → Int32 → Nat)
    (hv : (Iv5 0 0 ∧ ∀ (x3_5 : Int32) (x4_5 : Int32), Iv5 x3_5 x4_5 → ((10 ≤ x4_5 → po (some (.inl x3_5)) I A) ∧ (¬ 10 ≤ x4_5 → ((¬ ((a2 >>> (x4_5 &&& 31)) &&& 1) = 1 → (Iv5 x3_5 (x4_5 + 1) ∧ mu5 x3_5 (x4_5 + 1) < mu5 x3_5 x4_5)) ∧ (((a2 >>> (x4_5 &&& 31)) &&& 1) = 1 → (vp_in ((10 * a1) + x4_5) 100 ∧ (Iv5 (x3_5 + (A 97 ((10 * a1) + x4_5).toNatClampNeg)) (x4_5 + 1) ∧ mu5 (x3_5 + (A 97 ((10 * a1) + x4_5).toNatClampNeg)) (x4_5 + 1) < mu5 x3_5 x4_5)))))))) : Ct l yX9_flowsTo cX9_flowsTo 5 (some .int) 0 0 D ads shp [.inr (some 96), .inl a1, .inl a2] I A po := by
  refine Ct_of (by decide) (Nat.le_of_ble_eq_true rfl) ?_
  intro p e s m args below meth c hC hr
  replace hC : CX p s m args meth c cX9_flowsTo 5 RX9 (AdS ads s.heap.size) := hC
  show Gm p l e s m args below meth c D ads 0 0 5 po I A 0 [some (.inr (some 96)), some (.inl a1), some (.inl a2), none, none] []
  refine g_blk hC _ bX9_flowsTo_0_5 (pc' := 5) (ls' := [some (.inr (some 96)), some (.inl a1), some (.inl a2), some (.inl 0), some (.inl 0)]) (st' := []) (I' := I) rfl rfl ?_
  obtain ⟨hi5, hb5⟩ := hv
  have L5 : ∀ (n : Nat) (x3_5 : Int32) (x4_5 : Int32), Iv5 x3_5 x4_5 → mu5 x3_5 x4_5 < n → Gm p l e s m args below meth c D ads 0 0 5 po I A 5 [some (.inr (some 96)), some (.inl a1), some (.inl a2), some (.inl x3_5), some (.inl x4_5)] [] := by
    intro n
    induction n with
    | zero => intro x3_5 x4_5 _ hn; exact absurd hn (Nat.not_lt_zero _)
    | succ n ih5 =>
      intro x3_5 x4_5 hv hn5
      replace hv := hb5 x3_5 x4_5 hv
      skip
      refine g_blk hC _ bX9_flowsTo_5_9 (pc' := 9) (ls' := [some (.inr (some 96)), some (.inl a1), some (.inl a2), some (.inl x3_5), some (.inl x4_5)]) (st' := [.inl 10, .inl x4_5]) (I' := I) rfl rfl ?_
      obtain ⟨hv1, hv2⟩ := hv
      refine g_cge hC dX9_flowsTo_9 (tgt := 43) (by decide) (fun hc => ?_) (fun hc => ?_)
      · have hv := hv1 hc
        clear hv1 hv2 hc
        refine g_blk hC _ bX9_flowsTo_43_44 (pc' := 44) (ls' := [some (.inr (some 96)), some (.inl a1), some (.inl a2), some (.inl x3_5), some (.inl x4_5)]) (st' := [.inl x3_5]) (I' := I) rfl rfl ?_
        exact g_reti hC hr rfl dX9_flowsTo_44 hv
      · have hv := hv2 hc
        clear hv1 hv2 hc
        refine g_blk hC _ bX9_flowsTo_12_19 (pc' := 19) (ls' := [some (.inr (some 96)), some (.inl a1), some (.inl a2), some (.inl x3_5), some (.inl x4_5)]) (st' := [.inl 1, .inl ((a2 >>> (x4_5 &&& 31)) &&& 1)]) (I' := I) rfl rfl ?_
        obtain ⟨hv1, hv2⟩ := hv
        refine g_cne hC dX9_flowsTo_19 (tgt := 37) (by decide) (fun hc => ?_) (fun hc => ?_)
        · have hv := hv1 hc
          clear hv1 hv2 hc
          refine g_blk hC _ bX9_flowsTo_37_40 (pc' := 40) (ls' := [some (.inr (some 96)), some (.inl a1), some (.inl a2), some (.inl x3_5), some (.inl (x4_5 + 1))]) (st' := []) (I' := I) rfl rfl ?_
          refine g_goto hC dX9_flowsTo_40 (tgt := 5) (by decide) ?_
          exact g_weak (ls1 := [some (.inr (some 96)), some (.inl a1), some (.inl a2), some (.inl x3_5), some (.inl (x4_5 + 1))]) rfl (And.intro rfl (And.intro rfl (And.intro rfl (And.intro rfl (And.intro rfl trivial))))) (ih5 x3_5 (x4_5 + 1) hv.1 (Nat.lt_of_lt_of_le hv.2 (Nat.le_of_lt_succ hn5)))
        · have hv := hv2 hc
          clear hv1 hv2 hc
          refine g_blk hC _ bX9_flowsTo_22_34 (pc' := 34) (ls' := [some (.inr (some 96)), some (.inl a1), some (.inl a2), some (.inl x3_5), some (.inl x4_5)]) (st' := [.inl ((10 * a1) + x4_5), .inr (some 97), .inl x3_5]) (I' := I) rfl rfl ?_
          obtain ⟨hi, hv⟩ := hv
          refine g_iald hC dX9_flowsTo_34 (rfl) hi ?_
          clear hi
          refine g_blk hC _ bX9_flowsTo_35_40 (pc' := 40) (ls' := [some (.inr (some 96)), some (.inl a1), some (.inl a2), some (.inl (x3_5 + (A 97 ((10 * a1) + x4_5).toNatClampNeg))), some (.inl (x4_5 + 1))]) (st' := []) (I' := I) rfl rfl ?_
          refine g_goto hC dX9_flowsTo_40 (tgt := 5) (by decide) ?_
          exact g_weak (ls1 := [some (.inr (some 96)), some (.inl a1), some (.inl a2), some (.inl (x3_5 + (A 97 ((10 * a1) + x4_5).toNatClampNeg))), some (.inl (x4_5 + 1))]) rfl (And.intro rfl (And.intro rfl (And.intro rfl (And.intro rfl (And.intro rfl trivial))))) (ih5 (x3_5 + (A 97 ((10 * a1) + x4_5).toNatClampNeg)) (x4_5 + 1) hv.1 (Nat.lt_of_lt_of_le hv.2 (Nat.le_of_lt_succ hn5)))
  exact g_weak (ls1 := [some (.inr (some 96)), some (.inl a1), some (.inl a2), some (.inl 0), some (.inl 0)]) rfl (And.intro rfl (And.intro rfl (And.intro rfl (And.intro rfl (And.intro rfl trivial))))) (L5 _ 0 0 hi5 (Nat.lt_succ_self _))
end
