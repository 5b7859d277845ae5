-- ===== PART A: goes FIRST, ahead of the names: the tables' words, and 'selects' of the private methods out of them =====
/-- a private method of a class that the tables say can be made, by its rows of tables_1 -/
def lw_okq (q : MethodName × Nat) : Prop := (q.1.cls ≠ "java/lang/invoke/MethodHandle" ∧ q.1.cls ≠ "java/lang/invoke/VarHandle") ∧ Cond.instantiable q.1.cls q.2 ∈ tables_1 ∧ Cond.privateMethod q.1 ∈ tables_1 ∧ Cond.instanceMethod q.1 ∈ tables_1
theorem lw_p0 : lw_okq (⟨"WriterDesk", "edgesTogether", "()I"⟩, 10) := ⟨⟨by decide +kernel, by decide +kernel⟩, List.mem_of_getElem? (i := 24) (by decide +kernel), List.mem_of_getElem? (i := 443) (by decide +kernel), List.mem_of_getElem? (i := 444) (by decide +kernel)⟩
theorem lw_p1 : lw_okq (⟨"WriterDesk", "machineOf", "(I)LWriterDesk$Machine;"⟩, 10) := ⟨⟨by decide +kernel, by decide +kernel⟩, List.mem_of_getElem? (i := 24) (by decide +kernel), List.mem_of_getElem? (i := 456) (by decide +kernel), List.mem_of_getElem? (i := 457) (by decide +kernel)⟩
theorem lw_p2 : lw_okq (⟨"java/lang/Throwable", "fillInStackTrace", "(I)Ljava/lang/Throwable;"⟩, 6) := ⟨⟨by decide +kernel, by decide +kernel⟩, List.mem_of_getElem? (i := 499) (by decide +kernel), List.mem_of_getElem? (i := 497) (by decide +kernel), List.mem_of_getElem? (i := 498) (by decide +kernel)⟩
theorem lw_p3 : lw_okq (⟨"WriterDesk$Machine", "comeToStates", "()I"⟩, 13) := ⟨⟨by decide +kernel, by decide +kernel⟩, List.mem_of_getElem? (i := 245) (by decide +kernel), List.mem_of_getElem? (i := 619) (by decide +kernel), List.mem_of_getElem? (i := 620) (by decide +kernel)⟩
theorem lw_p4 : lw_okq (⟨"WriterDesk$Machine", "leadingOnStates", "()I"⟩, 13) := ⟨⟨by decide +kernel, by decide +kernel⟩, List.mem_of_getElem? (i := 245) (by decide +kernel), List.mem_of_getElem? (i := 626) (by decide +kernel), List.mem_of_getElem? (i := 627) (by decide +kernel)⟩
theorem lw_p5 : lw_okq (⟨"WriterDesk$Machine", "isAliveEdge", "(I)Z"⟩, 13) := ⟨⟨by decide +kernel, by decide +kernel⟩, List.mem_of_getElem? (i := 245) (by decide +kernel), List.mem_of_getElem? (i := 630) (by decide +kernel), List.mem_of_getElem? (i := 631) (by decide +kernel)⟩
theorem lw_p6 : lw_okq (⟨"WriterDesk$Machine", "isListed", "(III)Z"⟩, 13) := ⟨⟨by decide +kernel, by decide +kernel⟩, List.mem_of_getElem? (i := 245) (by decide +kernel), List.mem_of_getElem? (i := 634) (by decide +kernel), List.mem_of_getElem? (i := 635) (by decide +kernel)⟩
theorem lw_p7 : lw_okq (⟨"WriterDesk$Reading", "addWay", "(LWriterDesk$Rows;I)Z"⟩, 5) := ⟨⟨by decide +kernel, by decide +kernel⟩, List.mem_of_getElem? (i := 54) (by decide +kernel), List.mem_of_getElem? (i := 676) (by decide +kernel), List.mem_of_getElem? (i := 677) (by decide +kernel)⟩
theorem lw_p8 : lw_okq (⟨"WriterDesk$Rows", "slotOf", "([J)I"⟩, 5) := ⟨⟨by decide +kernel, by decide +kernel⟩, List.mem_of_getElem? (i := 60) (by decide +kernel), List.mem_of_getElem? (i := 688) (by decide +kernel), List.mem_of_getElem? (i := 689) (by decide +kernel)⟩
theorem lw_p9 : lw_okq (⟨"WriterDesk$Rows", "addNew", "([JI)Z"⟩, 5) := ⟨⟨by decide +kernel, by decide +kernel⟩, List.mem_of_getElem? (i := 60) (by decide +kernel), List.mem_of_getElem? (i := 693) (by decide +kernel), List.mem_of_getElem? (i := 694) (by decide +kernel)⟩
theorem lw_p10 : lw_okq (⟨"WriterDesk$Rows", "isRow", "(I[J)Z"⟩, 5) := ⟨⟨by decide +kernel, by decide +kernel⟩, List.mem_of_getElem? (i := 60) (by decide +kernel), List.mem_of_getElem? (i := 700) (by decide +kernel), List.mem_of_getElem? (i := 701) (by decide +kernel)⟩
theorem lw_p11 : lw_okq (⟨"WriterDesk$Reading", "readLetter", "(LWriterDesk$Machine;I)Z"⟩, 5) := ⟨⟨by decide +kernel, by decide +kernel⟩, List.mem_of_getElem? (i := 54) (by decide +kernel), List.mem_of_getElem? (i := 705) (by decide +kernel), List.mem_of_getElem? (i := 706) (by decide +kernel)⟩
theorem lw_p12 : lw_okq (⟨"WriterDesk$Reading", "swap", "()V"⟩, 5) := ⟨⟨by decide +kernel, by decide +kernel⟩, List.mem_of_getElem? (i := 54) (by decide +kernel), List.mem_of_getElem? (i := 724) (by decide +kernel), List.mem_of_getElem? (i := 725) (by decide +kernel)⟩
theorem lw_p13 : lw_okq (⟨"WriterDesk$Reading", "writeFinalWords", "(LWriterDesk$Machine;)V"⟩, 5) := ⟨⟨by decide +kernel, by decide +kernel⟩, List.mem_of_getElem? (i := 54) (by decide +kernel), List.mem_of_getElem? (i := 728) (by decide +kernel), List.mem_of_getElem? (i := 729) (by decide +kernel)⟩
theorem lw_p14 : lw_okq (⟨"WriterDesk$Reading", "waysBefore", "()I"⟩, 5) := ⟨⟨by decide +kernel, by decide +kernel⟩, List.mem_of_getElem? (i := 54) (by decide +kernel), List.mem_of_getElem? (i := 741) (by decide +kernel), List.mem_of_getElem? (i := 742) (by decide +kernel)⟩
theorem lw_p15 : lw_okq (⟨"WriterDesk", "hasOneOutputEach", "(LWriterDesk$Machine;)Z"⟩, 10) := ⟨⟨by decide +kernel, by decide +kernel⟩, List.mem_of_getElem? (i := 24) (by decide +kernel), List.mem_of_getElem? (i := 765) (by decide +kernel), List.mem_of_getElem? (i := 766) (by decide +kernel)⟩
def lw_privs_1 : List (MethodName × Nat) := [(⟨"WriterDesk", "edgesTogether", "()I"⟩, 10), (⟨"WriterDesk", "machineOf", "(I)LWriterDesk$Machine;"⟩, 10), (⟨"java/lang/Throwable", "fillInStackTrace", "(I)Ljava/lang/Throwable;"⟩, 6), (⟨"WriterDesk$Machine", "comeToStates", "()I"⟩, 13), (⟨"WriterDesk$Machine", "leadingOnStates", "()I"⟩, 13), (⟨"WriterDesk$Machine", "isAliveEdge", "(I)Z"⟩, 13), (⟨"WriterDesk$Machine", "isListed", "(III)Z"⟩, 13), (⟨"WriterDesk$Reading", "addWay", "(LWriterDesk$Rows;I)Z"⟩, 5), (⟨"WriterDesk$Rows", "slotOf", "([J)I"⟩, 5), (⟨"WriterDesk$Rows", "addNew", "([JI)Z"⟩, 5), (⟨"WriterDesk$Rows", "isRow", "(I[J)Z"⟩, 5), (⟨"WriterDesk$Reading", "readLetter", "(LWriterDesk$Machine;I)Z"⟩, 5), (⟨"WriterDesk$Reading", "swap", "()V"⟩, 5), (⟨"WriterDesk$Reading", "writeFinalWords", "(LWriterDesk$Machine;)V"⟩, 5), (⟨"WriterDesk$Reading", "waysBefore", "()I"⟩, 5), (⟨"WriterDesk", "hasOneOutputEach", "(LWriterDesk$Machine;)Z"⟩, 10)]
theorem lw_r1 : ∀ q ∈ lw_privs_1, lw_okq q := List.forall_mem_cons.mpr ⟨lw_p0, List.forall_mem_cons.mpr ⟨lw_p1, List.forall_mem_cons.mpr ⟨lw_p2, List.forall_mem_cons.mpr ⟨lw_p3, List.forall_mem_cons.mpr ⟨lw_p4, List.forall_mem_cons.mpr ⟨lw_p5, List.forall_mem_cons.mpr ⟨lw_p6, List.forall_mem_cons.mpr ⟨lw_p7, List.forall_mem_cons.mpr ⟨lw_p8, List.forall_mem_cons.mpr ⟨lw_p9, List.forall_mem_cons.mpr ⟨lw_p10, List.forall_mem_cons.mpr ⟨lw_p11, List.forall_mem_cons.mpr ⟨lw_p12, List.forall_mem_cons.mpr ⟨lw_p13, List.forall_mem_cons.mpr ⟨lw_p14, List.forall_mem_cons.mpr ⟨lw_p15, fun _ h => absurd h List.not_mem_nil⟩⟩⟩⟩⟩⟩⟩⟩⟩⟩⟩⟩⟩⟩⟩⟩
theorem lw_p16 : lw_okq (⟨"WriterDesk", "outputsDiffer", "(LWriterDesk$Machine;LWriterDesk$Machine;)Z"⟩, 10) := ⟨⟨by decide +kernel, by decide +kernel⟩, List.mem_of_getElem? (i := 24) (by decide +kernel), List.mem_of_getElem? (i := 769) (by decide +kernel), List.mem_of_getElem? (i := 770) (by decide +kernel)⟩
theorem lw_p17 : lw_okq (⟨"WriterDesk$PairSearch", "cutAlike", "()Z"⟩, 18) := ⟨⟨by decide +kernel, by decide +kernel⟩, List.mem_of_getElem? (i := 107) (by decide +kernel), List.mem_of_getElem? (i := 783) (by decide +kernel), List.mem_of_getElem? (i := 784) (by decide +kernel)⟩
theorem lw_p18 : lw_okq (⟨"WriterDesk$PairSearch", "visit", "(IIZ)V"⟩, 18) := ⟨⟨by decide +kernel, by decide +kernel⟩, List.mem_of_getElem? (i := 107) (by decide +kernel), List.mem_of_getElem? (i := 793) (by decide +kernel), List.mem_of_getElem? (i := 794) (by decide +kernel)⟩
theorem lw_p19 : lw_okq (⟨"WriterDesk$PairSearch", "isNode", "(IZ)Z"⟩, 18) := ⟨⟨by decide +kernel, by decide +kernel⟩, List.mem_of_getElem? (i := 107) (by decide +kernel), List.mem_of_getElem? (i := 797) (by decide +kernel), List.mem_of_getElem? (i := 798) (by decide +kernel)⟩
theorem lw_p20 : lw_okq (⟨"WriterDesk$PairSearch", "endsApart", "(IIZ)Z"⟩, 18) := ⟨⟨by decide +kernel, by decide +kernel⟩, List.mem_of_getElem? (i := 107) (by decide +kernel), List.mem_of_getElem? (i := 802) (by decide +kernel), List.mem_of_getElem? (i := 803) (by decide +kernel)⟩
theorem lw_p21 : lw_okq (⟨"WriterDesk$PairSearch", "closeGroup", "()V"⟩, 18) := ⟨⟨by decide +kernel, by decide +kernel⟩, List.mem_of_getElem? (i := 107) (by decide +kernel), List.mem_of_getElem? (i := 812) (by decide +kernel), List.mem_of_getElem? (i := 813) (by decide +kernel)⟩
theorem lw_p22 : lw_okq (⟨"WriterDesk$PairSearch", "spread", "(II)V"⟩, 18) := ⟨⟨by decide +kernel, by decide +kernel⟩, List.mem_of_getElem? (i := 107) (by decide +kernel), List.mem_of_getElem? (i := 816) (by decide +kernel), List.mem_of_getElem? (i := 817) (by decide +kernel)⟩
theorem lw_p23 : lw_okq (⟨"WriterDesk$PairSearch", "follow", "(III)Z"⟩, 18) := ⟨⟨by decide +kernel, by decide +kernel⟩, List.mem_of_getElem? (i := 107) (by decide +kernel), List.mem_of_getElem? (i := 820) (by decide +kernel), List.mem_of_getElem? (i := 821) (by decide +kernel)⟩
theorem lw_p24 : lw_okq (⟨"WriterDesk$DomainSearch", "visit", "(LWriterDesk$Machine;LWriterDesk$Machine;II)Z"⟩, 6) := ⟨⟨by decide +kernel, by decide +kernel⟩, List.mem_of_getElem? (i := 172) (by decide +kernel), List.mem_of_getElem? (i := 871) (by decide +kernel), List.mem_of_getElem? (i := 872) (by decide +kernel)⟩
theorem lw_p25 : lw_okq (⟨"WriterDesk$ResidualSearch", "keep", "(II)V"⟩, 10) := ⟨⟨by decide +kernel, by decide +kernel⟩, List.mem_of_getElem? (i := 198) (by decide +kernel), List.mem_of_getElem? (i := 913) (by decide +kernel), List.mem_of_getElem? (i := 914) (by decide +kernel)⟩
theorem lw_p26 : lw_okq (⟨"WriterDesk$ResidualSearch", "spread", "(I)V"⟩, 10) := ⟨⟨by decide +kernel, by decide +kernel⟩, List.mem_of_getElem? (i := 198) (by decide +kernel), List.mem_of_getElem? (i := 919) (by decide +kernel), List.mem_of_getElem? (i := 920) (by decide +kernel)⟩
theorem lw_p27 : lw_okq (⟨"WriterDesk$ResidualSearch", "follow", "(II)V"⟩, 10) := ⟨⟨by decide +kernel, by decide +kernel⟩, List.mem_of_getElem? (i := 198) (by decide +kernel), List.mem_of_getElem? (i := 925) (by decide +kernel), List.mem_of_getElem? (i := 926) (by decide +kernel)⟩
theorem lw_p28 : lw_okq (⟨"WriterDesk$Builder", "findHeads", "(LWriterDesk$Machine;)V"⟩, 13) := ⟨⟨by decide +kernel, by decide +kernel⟩, List.mem_of_getElem? (i := 239) (by decide +kernel), List.mem_of_getElem? (i := 950) (by decide +kernel), List.mem_of_getElem? (i := 951) (by decide +kernel)⟩
theorem lw_p29 : lw_okq (⟨"WriterDesk$Builder", "findHead", "(LWriterDesk$Machine;I)Z"⟩, 13) := ⟨⟨by decide +kernel, by decide +kernel⟩, List.mem_of_getElem? (i := 239) (by decide +kernel), List.mem_of_getElem? (i := 955) (by decide +kernel), List.mem_of_getElem? (i := 956) (by decide +kernel)⟩
theorem lw_p30 : lw_okq (⟨"WriterDesk$Builder", "makeEarly", "(LWriterDesk$Machine;)V"⟩, 13) := ⟨⟨by decide +kernel, by decide +kernel⟩, List.mem_of_getElem? (i := 239) (by decide +kernel), List.mem_of_getElem? (i := 968) (by decide +kernel), List.mem_of_getElem? (i := 969) (by decide +kernel)⟩
theorem lw_p31 : lw_okq (⟨"WriterDesk$Builder", "findKinds", "()V"⟩, 13) := ⟨⟨by decide +kernel, by decide +kernel⟩, List.mem_of_getElem? (i := 239) (by decide +kernel), List.mem_of_getElem? (i := 977) (by decide +kernel), List.mem_of_getElem? (i := 978) (by decide +kernel)⟩
def lw_privs_2 : List (MethodName × Nat) := [(⟨"WriterDesk", "outputsDiffer", "(LWriterDesk$Machine;LWriterDesk$Machine;)Z"⟩, 10), (⟨"WriterDesk$PairSearch", "cutAlike", "()Z"⟩, 18), (⟨"WriterDesk$PairSearch", "visit", "(IIZ)V"⟩, 18), (⟨"WriterDesk$PairSearch", "isNode", "(IZ)Z"⟩, 18), (⟨"WriterDesk$PairSearch", "endsApart", "(IIZ)Z"⟩, 18), (⟨"WriterDesk$PairSearch", "closeGroup", "()V"⟩, 18), (⟨"WriterDesk$PairSearch", "spread", "(II)V"⟩, 18), (⟨"WriterDesk$PairSearch", "follow", "(III)Z"⟩, 18), (⟨"WriterDesk$DomainSearch", "visit", "(LWriterDesk$Machine;LWriterDesk$Machine;II)Z"⟩, 6), (⟨"WriterDesk$ResidualSearch", "keep", "(II)V"⟩, 10), (⟨"WriterDesk$ResidualSearch", "spread", "(I)V"⟩, 10), (⟨"WriterDesk$ResidualSearch", "follow", "(II)V"⟩, 10), (⟨"WriterDesk$Builder", "findHeads", "(LWriterDesk$Machine;)V"⟩, 13), (⟨"WriterDesk$Builder", "findHead", "(LWriterDesk$Machine;I)Z"⟩, 13), (⟨"WriterDesk$Builder", "makeEarly", "(LWriterDesk$Machine;)V"⟩, 13), (⟨"WriterDesk$Builder", "findKinds", "()V"⟩, 13)]
theorem lw_r2 : ∀ q ∈ lw_privs_2, lw_okq q := List.forall_mem_cons.mpr ⟨lw_p16, List.forall_mem_cons.mpr ⟨lw_p17, List.forall_mem_cons.mpr ⟨lw_p18, List.forall_mem_cons.mpr ⟨lw_p19, List.forall_mem_cons.mpr ⟨lw_p20, List.forall_mem_cons.mpr ⟨lw_p21, List.forall_mem_cons.mpr ⟨lw_p22, List.forall_mem_cons.mpr ⟨lw_p23, List.forall_mem_cons.mpr ⟨lw_p24, List.forall_mem_cons.mpr ⟨lw_p25, List.forall_mem_cons.mpr ⟨lw_p26, List.forall_mem_cons.mpr ⟨lw_p27, List.forall_mem_cons.mpr ⟨lw_p28, List.forall_mem_cons.mpr ⟨lw_p29, List.forall_mem_cons.mpr ⟨lw_p30, List.forall_mem_cons.mpr ⟨lw_p31, fun _ h => absurd h List.not_mem_nil⟩⟩⟩⟩⟩⟩⟩⟩⟩⟩⟩⟩⟩⟩⟩⟩
theorem lw_p32 : lw_okq (⟨"WriterDesk$Builder", "splitKinds", "()I"⟩, 13) := ⟨⟨by decide +kernel, by decide +kernel⟩, List.mem_of_getElem? (i := 239) (by decide +kernel), List.mem_of_getElem? (i := 983) (by decide +kernel), List.mem_of_getElem? (i := 984) (by decide +kernel)⟩
theorem lw_p33 : lw_okq (⟨"WriterDesk$Builder", "isOfOneKind", "(II)Z"⟩, 13) := ⟨⟨by decide +kernel, by decide +kernel⟩, List.mem_of_getElem? (i := 239) (by decide +kernel), List.mem_of_getElem? (i := 987) (by decide +kernel), List.mem_of_getElem? (i := 988) (by decide +kernel)⟩
theorem lw_p34 : lw_okq (⟨"WriterDesk$Builder", "addSet", "(LWriterDesk$SmallMachine;)I"⟩, 13) := ⟨⟨by decide +kernel, by decide +kernel⟩, List.mem_of_getElem? (i := 239) (by decide +kernel), List.mem_of_getElem? (i := 991) (by decide +kernel), List.mem_of_getElem? (i := 992) (by decide +kernel)⟩
theorem lw_p35 : lw_okq (⟨"WriterDesk$Builder", "follow", "(II)V"⟩, 13) := ⟨⟨by decide +kernel, by decide +kernel⟩, List.mem_of_getElem? (i := 239) (by decide +kernel), List.mem_of_getElem? (i := 995) (by decide +kernel), List.mem_of_getElem? (i := 996) (by decide +kernel)⟩
theorem lw_p36 : lw_okq (⟨"WriterDesk$Builder", "followFrom", "(IILWriterDesk$Word;)V"⟩, 13) := ⟨⟨by decide +kernel, by decide +kernel⟩, List.mem_of_getElem? (i := 239) (by decide +kernel), List.mem_of_getElem? (i := 999) (by decide +kernel), List.mem_of_getElem? (i := 1000) (by decide +kernel)⟩
theorem lw_p37 : lw_okq (⟨"WriterDesk$Builder", "cutLead", "()V"⟩, 13) := ⟨⟨by decide +kernel, by decide +kernel⟩, List.mem_of_getElem? (i := 239) (by decide +kernel), List.mem_of_getElem? (i := 1003) (by decide +kernel), List.mem_of_getElem? (i := 1004) (by decide +kernel)⟩
theorem lw_p38 : lw_okq (⟨"WriterDesk$Builder", "equalSet", "(I)I"⟩, 13) := ⟨⟨by decide +kernel, by decide +kernel⟩, List.mem_of_getElem? (i := 239) (by decide +kernel), List.mem_of_getElem? (i := 1007) (by decide +kernel), List.mem_of_getElem? (i := 1008) (by decide +kernel)⟩
theorem lw_p39 : lw_okq (⟨"WriterDesk$Builder", "alikeSet", "(ILWriterDesk$PairSearch;)I"⟩, 13) := ⟨⟨by decide +kernel, by decide +kernel⟩, List.mem_of_getElem? (i := 239) (by decide +kernel), List.mem_of_getElem? (i := 1011) (by decide +kernel), List.mem_of_getElem? (i := 1012) (by decide +kernel)⟩
theorem lw_p40 : lw_okq (⟨"WriterDesk$Builder", "startPairs", "(ILWriterDesk$PairSearch;)V"⟩, 13) := ⟨⟨by decide +kernel, by decide +kernel⟩, List.mem_of_getElem? (i := 239) (by decide +kernel), List.mem_of_getElem? (i := 1016) (by decide +kernel), List.mem_of_getElem? (i := 1017) (by decide +kernel)⟩
theorem lw_p41 : lw_okq (⟨"WriterDeskModel", "isMachine", "(I)Z"⟩, 82) := ⟨⟨by decide +kernel, by decide +kernel⟩, List.mem_of_getElem? (i := 1048) (by decide +kernel), List.mem_of_getElem? (i := 1312) (by decide +kernel), List.mem_of_getElem? (i := 1313) (by decide +kernel)⟩
theorem lw_p42 : lw_okq (⟨"WriterDeskModel", "fail", "(I)I"⟩, 82) := ⟨⟨by decide +kernel, by decide +kernel⟩, List.mem_of_getElem? (i := 1048) (by decide +kernel), List.mem_of_getElem? (i := 1323) (by decide +kernel), List.mem_of_getElem? (i := 1324) (by decide +kernel)⟩
theorem lw_p43 : lw_okq (⟨"WriterDeskModel", "usefulOf", "(I)I"⟩, 82) := ⟨⟨by decide +kernel, by decide +kernel⟩, List.mem_of_getElem? (i := 1048) (by decide +kernel), List.mem_of_getElem? (i := 1339) (by decide +kernel), List.mem_of_getElem? (i := 1340) (by decide +kernel)⟩
theorem lw_p44 : lw_okq (⟨"WriterDeskModel", "reach", "(IZ)I"⟩, 82) := ⟨⟨by decide +kernel, by decide +kernel⟩, List.mem_of_getElem? (i := 1048) (by decide +kernel), List.mem_of_getElem? (i := 1343) (by decide +kernel), List.mem_of_getElem? (i := 1344) (by decide +kernel)⟩
theorem lw_p45 : lw_okq (⟨"WriterDeskModel", "take", "(II)V"⟩, 82) := ⟨⟨by decide +kernel, by decide +kernel⟩, List.mem_of_getElem? (i := 1048) (by decide +kernel), List.mem_of_getElem? (i := 1351) (by decide +kernel), List.mem_of_getElem? (i := 1352) (by decide +kernel)⟩
theorem lw_p46 : lw_okq (⟨"WriterDeskModel", "addWay", "(IIII)V"⟩, 82) := ⟨⟨by decide +kernel, by decide +kernel⟩, List.mem_of_getElem? (i := 1048) (by decide +kernel), List.mem_of_getElem? (i := 1355) (by decide +kernel), List.mem_of_getElem? (i := 1356) (by decide +kernel)⟩
theorem lw_p47 : lw_okq (⟨"WriterDeskModel", "turnWays", "()V"⟩, 82) := ⟨⟨by decide +kernel, by decide +kernel⟩, List.mem_of_getElem? (i := 1048) (by decide +kernel), List.mem_of_getElem? (i := 1359) (by decide +kernel), List.mem_of_getElem? (i := 1360) (by decide +kernel)⟩
def lw_privs_3 : List (MethodName × Nat) := [(⟨"WriterDesk$Builder", "splitKinds", "()I"⟩, 13), (⟨"WriterDesk$Builder", "isOfOneKind", "(II)Z"⟩, 13), (⟨"WriterDesk$Builder", "addSet", "(LWriterDesk$SmallMachine;)I"⟩, 13), (⟨"WriterDesk$Builder", "follow", "(II)V"⟩, 13), (⟨"WriterDesk$Builder", "followFrom", "(IILWriterDesk$Word;)V"⟩, 13), (⟨"WriterDesk$Builder", "cutLead", "()V"⟩, 13), (⟨"WriterDesk$Builder", "equalSet", "(I)I"⟩, 13), (⟨"WriterDesk$Builder", "alikeSet", "(ILWriterDesk$PairSearch;)I"⟩, 13), (⟨"WriterDesk$Builder", "startPairs", "(ILWriterDesk$PairSearch;)V"⟩, 13), (⟨"WriterDeskModel", "isMachine", "(I)Z"⟩, 82), (⟨"WriterDeskModel", "fail", "(I)I"⟩, 82), (⟨"WriterDeskModel", "usefulOf", "(I)I"⟩, 82), (⟨"WriterDeskModel", "reach", "(IZ)I"⟩, 82), (⟨"WriterDeskModel", "take", "(II)V"⟩, 82), (⟨"WriterDeskModel", "addWay", "(IIII)V"⟩, 82), (⟨"WriterDeskModel", "turnWays", "()V"⟩, 82)]
theorem lw_r3 : ∀ q ∈ lw_privs_3, lw_okq q := List.forall_mem_cons.mpr ⟨lw_p32, List.forall_mem_cons.mpr ⟨lw_p33, List.forall_mem_cons.mpr ⟨lw_p34, List.forall_mem_cons.mpr ⟨lw_p35, List.forall_mem_cons.mpr ⟨lw_p36, List.forall_mem_cons.mpr ⟨lw_p37, List.forall_mem_cons.mpr ⟨lw_p38, List.forall_mem_cons.mpr ⟨lw_p39, List.forall_mem_cons.mpr ⟨lw_p40, List.forall_mem_cons.mpr ⟨lw_p41, List.forall_mem_cons.mpr ⟨lw_p42, List.forall_mem_cons.mpr ⟨lw_p43, List.forall_mem_cons.mpr ⟨lw_p44, List.forall_mem_cons.mpr ⟨lw_p45, List.forall_mem_cons.mpr ⟨lw_p46, List.forall_mem_cons.mpr ⟨lw_p47, fun _ h => absurd h List.not_mem_nil⟩⟩⟩⟩⟩⟩⟩⟩⟩⟩⟩⟩⟩⟩⟩⟩
theorem lw_p48 : lw_okq (⟨"WriterDeskModel", "isBefore", "(II)Z"⟩, 82) := ⟨⟨by decide +kernel, by decide +kernel⟩, List.mem_of_getElem? (i := 1048) (by decide +kernel), List.mem_of_getElem? (i := 1363) (by decide +kernel), List.mem_of_getElem? (i := 1364) (by decide +kernel)⟩
theorem lw_p49 : lw_okq (⟨"WriterDeskModel", "functionOf", "(I)Z"⟩, 82) := ⟨⟨by decide +kernel, by decide +kernel⟩, List.mem_of_getElem? (i := 1048) (by decide +kernel), List.mem_of_getElem? (i := 1371) (by decide +kernel), List.mem_of_getElem? (i := 1372) (by decide +kernel)⟩
theorem lw_p50 : lw_okq (⟨"WriterDeskModel", "differsFromStart", "(II)Z"⟩, 82) := ⟨⟨by decide +kernel, by decide +kernel⟩, List.mem_of_getElem? (i := 1048) (by decide +kernel), List.mem_of_getElem? (i := 1375) (by decide +kernel), List.mem_of_getElem? (i := 1376) (by decide +kernel)⟩
theorem lw_p51 : lw_okq (⟨"WriterDeskModel", "beginPairs", "(II)V"⟩, 82) := ⟨⟨by decide +kernel, by decide +kernel⟩, List.mem_of_getElem? (i := 1048) (by decide +kernel), List.mem_of_getElem? (i := 1379) (by decide +kernel), List.mem_of_getElem? (i := 1380) (by decide +kernel)⟩
theorem lw_p52 : lw_okq (⟨"WriterDeskModel", "findEnds", "(II)V"⟩, 82) := ⟨⟨by decide +kernel, by decide +kernel⟩, List.mem_of_getElem? (i := 1048) (by decide +kernel), List.mem_of_getElem? (i := 1383) (by decide +kernel), List.mem_of_getElem? (i := 1384) (by decide +kernel)⟩
theorem lw_p53 : lw_okq (⟨"WriterDeskModel", "newWord", "(II)I"⟩, 82) := ⟨⟨by decide +kernel, by decide +kernel⟩, List.mem_of_getElem? (i := 1048) (by decide +kernel), List.mem_of_getElem? (i := 1387) (by decide +kernel), List.mem_of_getElem? (i := 1388) (by decide +kernel)⟩
theorem lw_p54 : lw_okq (⟨"WriterDeskModel", "loadStarts", "(II)V"⟩, 82) := ⟨⟨by decide +kernel, by decide +kernel⟩, List.mem_of_getElem? (i := 1048) (by decide +kernel), List.mem_of_getElem? (i := 1391) (by decide +kernel), List.mem_of_getElem? (i := 1392) (by decide +kernel)⟩
theorem lw_p55 : lw_okq (⟨"WriterDeskModel", "follow", "(IIZI)V"⟩, 82) := ⟨⟨by decide +kernel, by decide +kernel⟩, List.mem_of_getElem? (i := 1048) (by decide +kernel), List.mem_of_getElem? (i := 1395) (by decide +kernel), List.mem_of_getElem? (i := 1396) (by decide +kernel)⟩
theorem lw_p56 : lw_okq (⟨"WriterDeskModel", "alike", "()I"⟩, 82) := ⟨⟨by decide +kernel, by decide +kernel⟩, List.mem_of_getElem? (i := 1048) (by decide +kernel), List.mem_of_getElem? (i := 1399) (by decide +kernel), List.mem_of_getElem? (i := 1400) (by decide +kernel)⟩
theorem lw_p57 : lw_okq (⟨"WriterDeskModel", "searches", "(II)Z"⟩, 82) := ⟨⟨by decide +kernel, by decide +kernel⟩, List.mem_of_getElem? (i := 1048) (by decide +kernel), List.mem_of_getElem? (i := 1403) (by decide +kernel), List.mem_of_getElem? (i := 1404) (by decide +kernel)⟩
theorem lw_p58 : lw_okq (⟨"WriterDeskModel", "endsApart", "(III)Z"⟩, 82) := ⟨⟨by decide +kernel, by decide +kernel⟩, List.mem_of_getElem? (i := 1048) (by decide +kernel), List.mem_of_getElem? (i := 1407) (by decide +kernel), List.mem_of_getElem? (i := 1408) (by decide +kernel)⟩
theorem lw_p59 : lw_okq (⟨"WriterDeskModel", "loadRest", "(I)V"⟩, 82) := ⟨⟨by decide +kernel, by decide +kernel⟩, List.mem_of_getElem? (i := 1048) (by decide +kernel), List.mem_of_getElem? (i := 1411) (by decide +kernel), List.mem_of_getElem? (i := 1412) (by decide +kernel)⟩
theorem lw_p60 : lw_okq (⟨"WriterDeskModel", "goOn", "(IIIII)V"⟩, 82) := ⟨⟨by decide +kernel, by decide +kernel⟩, List.mem_of_getElem? (i := 1048) (by decide +kernel), List.mem_of_getElem? (i := 1415) (by decide +kernel), List.mem_of_getElem? (i := 1416) (by decide +kernel)⟩
theorem lw_p61 : lw_okq (⟨"WriterDeskModel", "moreOne", "(II)V"⟩, 82) := ⟨⟨by decide +kernel, by decide +kernel⟩, List.mem_of_getElem? (i := 1048) (by decide +kernel), List.mem_of_getElem? (i := 1419) (by decide +kernel), List.mem_of_getElem? (i := 1420) (by decide +kernel)⟩
theorem lw_p62 : lw_okq (⟨"WriterDeskModel", "moreTwo", "(II)V"⟩, 82) := ⟨⟨by decide +kernel, by decide +kernel⟩, List.mem_of_getElem? (i := 1048) (by decide +kernel), List.mem_of_getElem? (i := 1423) (by decide +kernel), List.mem_of_getElem? (i := 1424) (by decide +kernel)⟩
theorem lw_p63 : lw_okq (⟨"WriterDeskModel", "spell", "(I)V"⟩, 82) := ⟨⟨by decide +kernel, by decide +kernel⟩, List.mem_of_getElem? (i := 1048) (by decide +kernel), List.mem_of_getElem? (i := 1427) (by decide +kernel), List.mem_of_getElem? (i := 1428) (by decide +kernel)⟩
def lw_privs_4 : List (MethodName × Nat) := [(⟨"WriterDeskModel", "isBefore", "(II)Z"⟩, 82), (⟨"WriterDeskModel", "functionOf", "(I)Z"⟩, 82), (⟨"WriterDeskModel", "differsFromStart", "(II)Z"⟩, 82), (⟨"WriterDeskModel", "beginPairs", "(II)V"⟩, 82), (⟨"WriterDeskModel", "findEnds", "(II)V"⟩, 82), (⟨"WriterDeskModel", "newWord", "(II)I"⟩, 82), (⟨"WriterDeskModel", "loadStarts", "(II)V"⟩, 82), (⟨"WriterDeskModel", "follow", "(IIZI)V"⟩, 82), (⟨"WriterDeskModel", "alike", "()I"⟩, 82), (⟨"WriterDeskModel", "searches", "(II)Z"⟩, 82), (⟨"WriterDeskModel", "endsApart", "(III)Z"⟩, 82), (⟨"WriterDeskModel", "loadRest", "(I)V"⟩, 82), (⟨"WriterDeskModel", "goOn", "(IIIII)V"⟩, 82), (⟨"WriterDeskModel", "moreOne", "(II)V"⟩, 82), (⟨"WriterDeskModel", "moreTwo", "(II)V"⟩, 82), (⟨"WriterDeskModel", "spell", "(I)V"⟩, 82)]
theorem lw_r4 : ∀ q ∈ lw_privs_4, lw_okq q := List.forall_mem_cons.mpr ⟨lw_p48, List.forall_mem_cons.mpr ⟨lw_p49, List.forall_mem_cons.mpr ⟨lw_p50, List.forall_mem_cons.mpr ⟨lw_p51, List.forall_mem_cons.mpr ⟨lw_p52, List.forall_mem_cons.mpr ⟨lw_p53, List.forall_mem_cons.mpr ⟨lw_p54, List.forall_mem_cons.mpr ⟨lw_p55, List.forall_mem_cons.mpr ⟨lw_p56, List.forall_mem_cons.mpr ⟨lw_p57, List.forall_mem_cons.mpr ⟨lw_p58, List.forall_mem_cons.mpr ⟨lw_p59, List.forall_mem_cons.mpr ⟨lw_p60, List.forall_mem_cons.mpr ⟨lw_p61, List.forall_mem_cons.mpr ⟨lw_p62, List.forall_mem_cons.mpr ⟨lw_p63, fun _ h => absurd h List.not_mem_nil⟩⟩⟩⟩⟩⟩⟩⟩⟩⟩⟩⟩⟩⟩⟩⟩
theorem lw_p64 : lw_okq (⟨"WriterDeskModel", "tellWord", "()V"⟩, 82) := ⟨⟨by decide +kernel, by decide +kernel⟩, List.mem_of_getElem? (i := 1048) (by decide +kernel), List.mem_of_getElem? (i := 1431) (by decide +kernel), List.mem_of_getElem? (i := 1432) (by decide +kernel)⟩
theorem lw_p65 : lw_okq (⟨"WriterDeskModel", "readsApart", "(IIII)Z"⟩, 82) := ⟨⟨by decide +kernel, by decide +kernel⟩, List.mem_of_getElem? (i := 1048) (by decide +kernel), List.mem_of_getElem? (i := 1439) (by decide +kernel), List.mem_of_getElem? (i := 1440) (by decide +kernel)⟩
theorem lw_p66 : lw_okq (⟨"WriterDeskModel", "endsIn", "(II)Z"⟩, 82) := ⟨⟨by decide +kernel, by decide +kernel⟩, List.mem_of_getElem? (i := 1048) (by decide +kernel), List.mem_of_getElem? (i := 1443) (by decide +kernel), List.mem_of_getElem? (i := 1444) (by decide +kernel)⟩
theorem lw_p67 : lw_okq (⟨"WriterDeskModel", "stepSet", "(III)I"⟩, 82) := ⟨⟨by decide +kernel, by decide +kernel⟩, List.mem_of_getElem? (i := 1048) (by decide +kernel), List.mem_of_getElem? (i := 1447) (by decide +kernel), List.mem_of_getElem? (i := 1448) (by decide +kernel)⟩
theorem lw_p68 : lw_okq (⟨"WriterDeskModel", "isWordBefore", "()Z"⟩, 82) := ⟨⟨by decide +kernel, by decide +kernel⟩, List.mem_of_getElem? (i := 1048) (by decide +kernel), List.mem_of_getElem? (i := 1451) (by decide +kernel), List.mem_of_getElem? (i := 1452) (by decide +kernel)⟩
theorem lw_p69 : lw_okq (⟨"WriterDeskModel", "steadiness", "()I"⟩, 82) := ⟨⟨by decide +kernel, by decide +kernel⟩, List.mem_of_getElem? (i := 1048) (by decide +kernel), List.mem_of_getElem? (i := 1459) (by decide +kernel), List.mem_of_getElem? (i := 1460) (by decide +kernel)⟩
theorem lw_p70 : lw_okq (⟨"WriterDeskModel", "longest", "()I"⟩, 82) := ⟨⟨by decide +kernel, by decide +kernel⟩, List.mem_of_getElem? (i := 1048) (by decide +kernel), List.mem_of_getElem? (i := 1463) (by decide +kernel), List.mem_of_getElem? (i := 1464) (by decide +kernel)⟩
theorem lw_p71 : lw_okq (⟨"WriterDeskModel", "addPair", "(II)I"⟩, 82) := ⟨⟨by decide +kernel, by decide +kernel⟩, List.mem_of_getElem? (i := 1048) (by decide +kernel), List.mem_of_getElem? (i := 1467) (by decide +kernel), List.mem_of_getElem? (i := 1468) (by decide +kernel)⟩
theorem lw_p72 : lw_okq (⟨"WriterDeskModel", "isPair", "(III)Z"⟩, 82) := ⟨⟨by decide +kernel, by decide +kernel⟩, List.mem_of_getElem? (i := 1048) (by decide +kernel), List.mem_of_getElem? (i := 1471) (by decide +kernel), List.mem_of_getElem? (i := 1472) (by decide +kernel)⟩
theorem lw_p73 : lw_okq (⟨"WriterDeskModel", "stepPair", "(I)I"⟩, 82) := ⟨⟨by decide +kernel, by decide +kernel⟩, List.mem_of_getElem? (i := 1048) (by decide +kernel), List.mem_of_getElem? (i := 1475) (by decide +kernel), List.mem_of_getElem? (i := 1476) (by decide +kernel)⟩
theorem lw_p74 : lw_okq (⟨"WriterDeskModel", "push", "()V"⟩, 82) := ⟨⟨by decide +kernel, by decide +kernel⟩, List.mem_of_getElem? (i := 1048) (by decide +kernel), List.mem_of_getElem? (i := 1483) (by decide +kernel), List.mem_of_getElem? (i := 1484) (by decide +kernel)⟩
theorem lw_p75 : lw_okq (⟨"WriterDeskModel", "someOutputs", "()V"⟩, 82) := ⟨⟨by decide +kernel, by decide +kernel⟩, List.mem_of_getElem? (i := 1048) (by decide +kernel), List.mem_of_getElem? (i := 1487) (by decide +kernel), List.mem_of_getElem? (i := 1488) (by decide +kernel)⟩
theorem lw_p76 : lw_okq (⟨"WriterDeskModel", "shorten", "(IIIZI)Z"⟩, 82) := ⟨⟨by decide +kernel, by decide +kernel⟩, List.mem_of_getElem? (i := 1048) (by decide +kernel), List.mem_of_getElem? (i := 1491) (by decide +kernel), List.mem_of_getElem? (i := 1492) (by decide +kernel)⟩
theorem lw_p77 : lw_okq (⟨"WriterDeskModel", "classify", "()Z"⟩, 82) := ⟨⟨by decide +kernel, by decide +kernel⟩, List.mem_of_getElem? (i := 1048) (by decide +kernel), List.mem_of_getElem? (i := 1495) (by decide +kernel), List.mem_of_getElem? (i := 1496) (by decide +kernel)⟩
theorem lw_p78 : lw_okq (⟨"WriterDeskModel", "moves", "(II)Z"⟩, 82) := ⟨⟨by decide +kernel, by decide +kernel⟩, List.mem_of_getElem? (i := 1048) (by decide +kernel), List.mem_of_getElem? (i := 1499) (by decide +kernel), List.mem_of_getElem? (i := 1500) (by decide +kernel)⟩
theorem lw_p79 : lw_okq (⟨"WriterDeskModel", "writeNow", "(I)V"⟩, 82) := ⟨⟨by decide +kernel, by decide +kernel⟩, List.mem_of_getElem? (i := 1048) (by decide +kernel), List.mem_of_getElem? (i := 1503) (by decide +kernel), List.mem_of_getElem? (i := 1504) (by decide +kernel)⟩
def lw_privs_5 : List (MethodName × Nat) := [(⟨"WriterDeskModel", "tellWord", "()V"⟩, 82), (⟨"WriterDeskModel", "readsApart", "(IIII)Z"⟩, 82), (⟨"WriterDeskModel", "endsIn", "(II)Z"⟩, 82), (⟨"WriterDeskModel", "stepSet", "(III)I"⟩, 82), (⟨"WriterDeskModel", "isWordBefore", "()Z"⟩, 82), (⟨"WriterDeskModel", "steadiness", "()I"⟩, 82), (⟨"WriterDeskModel", "longest", "()I"⟩, 82), (⟨"WriterDeskModel", "addPair", "(II)I"⟩, 82), (⟨"WriterDeskModel", "isPair", "(III)Z"⟩, 82), (⟨"WriterDeskModel", "stepPair", "(I)I"⟩, 82), (⟨"WriterDeskModel", "push", "()V"⟩, 82), (⟨"WriterDeskModel", "someOutputs", "()V"⟩, 82), (⟨"WriterDeskModel", "shorten", "(IIIZI)Z"⟩, 82), (⟨"WriterDeskModel", "classify", "()Z"⟩, 82), (⟨"WriterDeskModel", "moves", "(II)Z"⟩, 82), (⟨"WriterDeskModel", "writeNow", "(I)V"⟩, 82)]
theorem lw_r5 : ∀ q ∈ lw_privs_5, lw_okq q := List.forall_mem_cons.mpr ⟨lw_p64, List.forall_mem_cons.mpr ⟨lw_p65, List.forall_mem_cons.mpr ⟨lw_p66, List.forall_mem_cons.mpr ⟨lw_p67, List.forall_mem_cons.mpr ⟨lw_p68, List.forall_mem_cons.mpr ⟨lw_p69, List.forall_mem_cons.mpr ⟨lw_p70, List.forall_mem_cons.mpr ⟨lw_p71, List.forall_mem_cons.mpr ⟨lw_p72, List.forall_mem_cons.mpr ⟨lw_p73, List.forall_mem_cons.mpr ⟨lw_p74, List.forall_mem_cons.mpr ⟨lw_p75, List.forall_mem_cons.mpr ⟨lw_p76, List.forall_mem_cons.mpr ⟨lw_p77, List.forall_mem_cons.mpr ⟨lw_p78, List.forall_mem_cons.mpr ⟨lw_p79, fun _ h => absurd h List.not_mem_nil⟩⟩⟩⟩⟩⟩⟩⟩⟩⟩⟩⟩⟩⟩⟩⟩
theorem lw_p80 : lw_okq (⟨"WriterDeskModel", "goOnAlike", "(II)Z"⟩, 82) := ⟨⟨by decide +kernel, by decide +kernel⟩, List.mem_of_getElem? (i := 1048) (by decide +kernel), List.mem_of_getElem? (i := 1507) (by decide +kernel), List.mem_of_getElem? (i := 1508) (by decide +kernel)⟩
theorem lw_p81 : lw_okq (⟨"WriterDeskModel", "setOf", "(I)I"⟩, 82) := ⟨⟨by decide +kernel, by decide +kernel⟩, List.mem_of_getElem? (i := 1048) (by decide +kernel), List.mem_of_getElem? (i := 1511) (by decide +kernel), List.mem_of_getElem? (i := 1512) (by decide +kernel)⟩
theorem lw_p82 : lw_okq (⟨"WriterDeskModel", "keepMade", "()V"⟩, 82) := ⟨⟨by decide +kernel, by decide +kernel⟩, List.mem_of_getElem? (i := 1048) (by decide +kernel), List.mem_of_getElem? (i := 1515) (by decide +kernel), List.mem_of_getElem? (i := 1516) (by decide +kernel)⟩
def lw_privs_6 : List (MethodName × Nat) := [(⟨"WriterDeskModel", "goOnAlike", "(II)Z"⟩, 82), (⟨"WriterDeskModel", "setOf", "(I)I"⟩, 82), (⟨"WriterDeskModel", "keepMade", "()V"⟩, 82)]
theorem lw_r6 : ∀ q ∈ lw_privs_6, lw_okq q := List.forall_mem_cons.mpr ⟨lw_p80, List.forall_mem_cons.mpr ⟨lw_p81, List.forall_mem_cons.mpr ⟨lw_p82, fun _ h => absurd h List.not_mem_nil⟩⟩⟩
def lw_privs : List (MethodName × Nat) := lw_privs_1 ++ (lw_privs_2 ++ (lw_privs_3 ++ (lw_privs_4 ++ (lw_privs_5 ++ (lw_privs_6)))))
def lw_tbl : List Cond := k2_sels lw_privs ++ tables_1
theorem lw_privs_ok : ∀ q ∈ lw_privs, lw_okq q := by
  show ∀ q ∈ lw_privs_1 ++ (lw_privs_2 ++ (lw_privs_3 ++ (lw_privs_4 ++ (lw_privs_5 ++ (lw_privs_6))))), lw_okq q
  exact List.forall_mem_append.mpr ⟨lw_r1, List.forall_mem_append.mpr ⟨lw_r2, List.forall_mem_append.mpr ⟨lw_r3, List.forall_mem_append.mpr ⟨lw_r4, List.forall_mem_append.mpr ⟨lw_r5, lw_r6⟩⟩⟩⟩⟩
-- ===== names (by program: wip/gen/names.py) =====
def F_Word : u_T := fun k => match k with
  | 0 => ("WriterDesk$Word", "cells", "[J", true)
  | _ => ("WriterDesk$Word", "length", "I", false)
def t_Word : Nat → FieldType := fun k => match k with
  | 0 => .array .long
  | _ => .int
theorem n_Word : ∀ a, a < 2 → ∀ b, b < 2 → a ≠ b → (F_Word a).2.1 ≠ (F_Word b).2.1 := by decide +kernel
theorem t_Word_ok : ∀ k, k < 2 → parseFieldDescriptor (F_Word k).2.2.1 = some (t_Word k) := by decide +kernel
def F_Rows : u_T := fun k => match k with
  | 0 => ("WriterDesk$Rows", "cells", "[J", true)
  | 1 => ("WriterDesk$Rows", "width", "I", true)
  | 2 => ("WriterDesk$Rows", "most", "I", true)
  | 3 => ("WriterDesk$Rows", "slots", "[I", true)
  | _ => ("WriterDesk$Rows", "size", "I", false)
def t_Rows : Nat → FieldType := fun k => match k with
  | 0 => .array .long
  | 1 => .int
  | 2 => .int
  | 3 => .array .int
  | _ => .int
theorem n_Rows : ∀ a, a < 5 → ∀ b, b < 5 → a ≠ b → (F_Rows a).2.1 ≠ (F_Rows b).2.1 := by decide +kernel
theorem t_Rows_ok : ∀ k, k < 5 → parseFieldDescriptor (F_Rows k).2.2.1 = some (t_Rows k) := by decide +kernel
def F_Mach : u_T := fun k => match k with
  | 0 => ("WriterDesk$Machine", "states", "I", false)
  | 1 => ("WriterDesk$Machine", "edges", "I", false)
  | 2 => ("WriterDesk$Machine", "from", "[I", true)
  | 3 => ("WriterDesk$Machine", "letter", "[I", true)
  | 4 => ("WriterDesk$Machine", "to", "[I", true)
  | 5 => ("WriterDesk$Machine", "written", "[LWriterDesk$Word;", true)
  | 6 => ("WriterDesk$Machine", "opening", "LWriterDesk$Word;", true)
  | 7 => ("WriterDesk$Machine", "closings", "[LWriterDesk$Word;", true)
  | 8 => ("WriterDesk$Machine", "closing", "I", false)
  | 9 => ("WriterDesk$Machine", "settled", "Z", false)
  | 10 => ("WriterDesk$Machine", "alive", "I", false)
  | 11 => ("WriterDesk$Machine", "sorted", "[I", true)
  | _ => ("WriterDesk$Machine", "begin", "[I", true)
def t_Mach : Nat → FieldType := fun k => match k with
  | 0 => .int
  | 1 => .int
  | 2 => .array .int
  | 3 => .array .int
  | 4 => .array .int
  | 5 => .array (.object "WriterDesk$Word")
  | 6 => .object "WriterDesk$Word"
  | 7 => .array (.object "WriterDesk$Word")
  | 8 => .int
  | 9 => .boolean
  | 10 => .int
  | 11 => .array .int
  | _ => .array .int
theorem n_Mach : ∀ a, a < 13 → ∀ b, b < 13 → a ≠ b → (F_Mach a).2.1 ≠ (F_Mach b).2.1 := by decide +kernel
theorem t_Mach_ok : ∀ k, k < 13 → parseFieldDescriptor (F_Mach k).2.2.1 = some (t_Mach k) := by decide +kernel
def F_Read : u_T := fun k => match k with
  | 0 => ("WriterDesk$Reading", "now", "LWriterDesk$Rows;", false)
  | 1 => ("WriterDesk$Reading", "then", "LWriterDesk$Rows;", false)
  | 2 => ("WriterDesk$Reading", "row", "[J", true)
  | 3 => ("WriterDesk$Reading", "base", "LWriterDesk$Word;", true)
  | _ => ("WriterDesk$Reading", "word", "LWriterDesk$Word;", true)
def t_Read : Nat → FieldType := fun k => match k with
  | 0 => .object "WriterDesk$Rows"
  | 1 => .object "WriterDesk$Rows"
  | 2 => .array .long
  | 3 => .object "WriterDesk$Word"
  | _ => .object "WriterDesk$Word"
theorem n_Read : ∀ a, a < 5 → ∀ b, b < 5 → a ≠ b → (F_Read a).2.1 ≠ (F_Read b).2.1 := by decide +kernel
theorem t_Read_ok : ∀ k, k < 5 → parseFieldDescriptor (F_Read k).2.2.1 = some (t_Read k) := by decide +kernel
def F_Pair : u_T := fun k => match k with
  | 0 => ("WriterDesk$PairSearch", "left", "LWriterDesk$Machine;", false)
  | 1 => ("WriterDesk$PairSearch", "right", "LWriterDesk$Machine;", false)
  | 2 => ("WriterDesk$PairSearch", "nodes", "I", false)
  | 3 => ("WriterDesk$PairSearch", "leftState", "[I", true)
  | 4 => ("WriterDesk$PairSearch", "rightState", "[I", true)
  | 5 => ("WriterDesk$PairSearch", "clash", "[Z", true)
  | 6 => ("WriterDesk$PairSearch", "leftRest", "[LWriterDesk$Word;", true)
  | 7 => ("WriterDesk$PairSearch", "rightRest", "[LWriterDesk$Word;", true)
  | 8 => ("WriterDesk$PairSearch", "kept", "[I", true)
  | 9 => ("WriterDesk$PairSearch", "keptFirst", "[I", true)
  | 10 => ("WriterDesk$PairSearch", "groups", "I", false)
  | 11 => ("WriterDesk$PairSearch", "groupBegin", "[I", true)
  | 12 => ("WriterDesk$PairSearch", "groupBefore", "[I", true)
  | 13 => ("WriterDesk$PairSearch", "groupLetter", "[I", true)
  | 14 => ("WriterDesk$PairSearch", "groupLength", "[I", true)
  | 15 => ("WriterDesk$PairSearch", "found", "I", false)
  | 16 => ("WriterDesk$PairSearch", "leftWord", "LWriterDesk$Word;", true)
  | _ => ("WriterDesk$PairSearch", "rightWord", "LWriterDesk$Word;", true)
def t_Pair : Nat → FieldType := fun k => match k with
  | 0 => .object "WriterDesk$Machine"
  | 1 => .object "WriterDesk$Machine"
  | 2 => .int
  | 3 => .array .int
  | 4 => .array .int
  | 5 => .array .boolean
  | 6 => .array (.object "WriterDesk$Word")
  | 7 => .array (.object "WriterDesk$Word")
  | 8 => .array .int
  | 9 => .array .int
  | 10 => .int
  | 11 => .array .int
  | 12 => .array .int
  | 13 => .array .int
  | 14 => .array .int
  | 15 => .int
  | 16 => .object "WriterDesk$Word"
  | _ => .object "WriterDesk$Word"
theorem n_Pair : ∀ a, a < 18 → ∀ b, b < 18 → a ≠ b → (F_Pair a).2.1 ≠ (F_Pair b).2.1 := by decide +kernel
theorem t_Pair_ok : ∀ k, k < 18 → parseFieldDescriptor (F_Pair k).2.2.1 = some (t_Pair k) := by decide +kernel
def F_Dom : u_T := fun k => match k with
  | 0 => ("WriterDesk$DomainSearch", "seen", "[B", true)
  | 1 => ("WriterDesk$DomainSearch", "queue", "[I", true)
  | 2 => ("WriterDesk$DomainSearch", "before", "[I", true)
  | 3 => ("WriterDesk$DomainSearch", "by", "[B", true)
  | 4 => ("WriterDesk$DomainSearch", "size", "I", false)
  | _ => ("WriterDesk$DomainSearch", "found", "I", false)
def t_Dom : Nat → FieldType := fun k => match k with
  | 0 => .array .byte
  | 1 => .array .int
  | 2 => .array .int
  | 3 => .array .byte
  | 4 => .int
  | _ => .int
theorem n_Dom : ∀ a, a < 6 → ∀ b, b < 6 → a ≠ b → (F_Dom a).2.1 ≠ (F_Dom b).2.1 := by decide +kernel
theorem t_Dom_ok : ∀ k, k < 6 → parseFieldDescriptor (F_Dom k).2.2.1 = some (t_Dom k) := by decide +kernel
def F_Res : u_T := fun k => match k with
  | 0 => ("WriterDesk$ResidualSearch", "seen", "LWriterDesk$Rows;", true)
  | 1 => ("WriterDesk$ResidualSearch", "row", "[J", true)
  | 2 => ("WriterDesk$ResidualSearch", "leftBase", "LWriterDesk$Word;", true)
  | 3 => ("WriterDesk$ResidualSearch", "rightBase", "LWriterDesk$Word;", true)
  | 4 => ("WriterDesk$ResidualSearch", "leftWord", "LWriterDesk$Word;", true)
  | 5 => ("WriterDesk$ResidualSearch", "rightWord", "LWriterDesk$Word;", true)
  | 6 => ("WriterDesk$ResidualSearch", "machine", "LWriterDesk$Machine;", false)
  | 7 => ("WriterDesk$ResidualSearch", "bound", "I", false)
  | 8 => ("WriterDesk$ResidualSearch", "tooLong", "Z", false)
  | _ => ("WriterDesk$ResidualSearch", "tooMany", "Z", false)
def t_Res : Nat → FieldType := fun k => match k with
  | 0 => .object "WriterDesk$Rows"
  | 1 => .array .long
  | 2 => .object "WriterDesk$Word"
  | 3 => .object "WriterDesk$Word"
  | 4 => .object "WriterDesk$Word"
  | 5 => .object "WriterDesk$Word"
  | 6 => .object "WriterDesk$Machine"
  | 7 => .int
  | 8 => .boolean
  | _ => .boolean
theorem n_Res : ∀ a, a < 10 → ∀ b, b < 10 → a ≠ b → (F_Res a).2.1 ≠ (F_Res b).2.1 := by decide +kernel
theorem t_Res_ok : ∀ k, k < 10 → parseFieldDescriptor (F_Res k).2.2.1 = some (t_Res k) := by decide +kernel
def F_Small : u_T := fun k => match k with
  | 0 => ("WriterDesk$SmallMachine", "states", "I", false)
  | 1 => ("WriterDesk$SmallMachine", "targets", "[I", true)
  | 2 => ("WriterDesk$SmallMachine", "written", "[LWriterDesk$Word;", true)
  | 3 => ("WriterDesk$SmallMachine", "closing", "[Z", true)
  | 4 => ("WriterDesk$SmallMachine", "closings", "[LWriterDesk$Word;", true)
  | _ => ("WriterDesk$SmallMachine", "opening", "LWriterDesk$Word;", true)
def t_Small : Nat → FieldType := fun k => match k with
  | 0 => .int
  | 1 => .array .int
  | 2 => .array (.object "WriterDesk$Word")
  | 3 => .array .boolean
  | 4 => .array (.object "WriterDesk$Word")
  | _ => .object "WriterDesk$Word"
theorem n_Small : ∀ a, a < 6 → ∀ b, b < 6 → a ≠ b → (F_Small a).2.1 ≠ (F_Small b).2.1 := by decide +kernel
theorem t_Small_ok : ∀ k, k < 6 → parseFieldDescriptor (F_Small k).2.2.1 = some (t_Small k) := by decide +kernel
def F_Bld : u_T := fun k => match k with
  | 0 => ("WriterDesk$Builder", "early", "LWriterDesk$Machine;", true)
  | 1 => ("WriterDesk$Builder", "heads", "[LWriterDesk$Word;", true)
  | 2 => ("WriterDesk$Builder", "headsKnown", "I", false)
  | 3 => ("WriterDesk$Builder", "head", "LWriterDesk$Word;", true)
  | 4 => ("WriterDesk$Builder", "part", "LWriterDesk$Word;", true)
  | 5 => ("WriterDesk$Builder", "after", "[I", true)
  | 6 => ("WriterDesk$Builder", "kind", "[I", false)
  | 7 => ("WriterDesk$Builder", "finer", "[I", false)
  | 8 => ("WriterDesk$Builder", "sets", "[I", true)
  | 9 => ("WriterDesk$Builder", "rests", "[LWriterDesk$Word;", true)
  | 10 => ("WriterDesk$Builder", "newSet", "I", false)
  | 11 => ("WriterDesk$Builder", "newRests", "[LWriterDesk$Word;", true)
  | _ => ("WriterDesk$Builder", "lead", "LWriterDesk$Word;", true)
def t_Bld : Nat → FieldType := fun k => match k with
  | 0 => .object "WriterDesk$Machine"
  | 1 => .array (.object "WriterDesk$Word")
  | 2 => .int
  | 3 => .object "WriterDesk$Word"
  | 4 => .object "WriterDesk$Word"
  | 5 => .array .int
  | 6 => .array .int
  | 7 => .array .int
  | 8 => .array .int
  | 9 => .array (.object "WriterDesk$Word")
  | 10 => .int
  | 11 => .array (.object "WriterDesk$Word")
  | _ => .object "WriterDesk$Word"
theorem n_Bld : ∀ a, a < 13 → ∀ b, b < 13 → a ≠ b → (F_Bld a).2.1 ≠ (F_Bld b).2.1 := by decide +kernel
theorem t_Bld_ok : ∀ k, k < 13 → parseFieldDescriptor (F_Bld k).2.2.1 = some (t_Bld k) := by decide +kernel
def F_Desk : u_T := fun k => match k with
  | 0 => ("WriterDesk", "machines", "[LWriterDesk$Machine;", true)
  | 1 => ("WriterDesk", "result", "LWriterDesk$Word;", true)
  | 2 => ("WriterDesk", "shortWord", "LWriterDesk$Word;", true)
  | 3 => ("WriterDesk", "reading", "LWriterDesk$Reading;", true)
  | 4 => ("WriterDesk", "pairs", "LWriterDesk$PairSearch;", true)
  | 5 => ("WriterDesk", "domains", "LWriterDesk$DomainSearch;", true)
  | 6 => ("WriterDesk", "residuals", "LWriterDesk$ResidualSearch;", true)
  | 7 => ("WriterDesk", "builder", "LWriterDesk$Builder;", true)
  | 8 => ("WriterDesk", "made", "LWriterDesk$SmallMachine;", false)
  | _ => ("WriterDesk", "spare", "LWriterDesk$SmallMachine;", false)
def t_Desk : Nat → FieldType := fun k => match k with
  | 0 => .array (.object "WriterDesk$Machine")
  | 1 => .object "WriterDesk$Word"
  | 2 => .object "WriterDesk$Word"
  | 3 => .object "WriterDesk$Reading"
  | 4 => .object "WriterDesk$PairSearch"
  | 5 => .object "WriterDesk$DomainSearch"
  | 6 => .object "WriterDesk$ResidualSearch"
  | 7 => .object "WriterDesk$Builder"
  | 8 => .object "WriterDesk$SmallMachine"
  | _ => .object "WriterDesk$SmallMachine"
theorem n_Desk : ∀ a, a < 10 → ∀ b, b < 10 → a ≠ b → (F_Desk a).2.1 ≠ (F_Desk b).2.1 := by decide +kernel
theorem t_Desk_ok : ∀ k, k < 10 → parseFieldDescriptor (F_Desk k).2.2.1 = some (t_Desk k) := by decide +kernel
def F_Mod : u_T := fun k => match k with
  | 0 => ("WriterDeskModel", "thrown", "I", false)
  | 1 => ("WriterDeskModel", "states", "[I", true)
  | 2 => ("WriterDeskModel", "edges", "[I", true)
  | 3 => ("WriterDeskModel", "edgeFrom", "[I", true)
  | 4 => ("WriterDeskModel", "edgeLetter", "[I", true)
  | 5 => ("WriterDeskModel", "edgeTo", "[I", true)
  | 6 => ("WriterDeskModel", "edgeSize", "[I", true)
  | 7 => ("WriterDeskModel", "edgeSigns", "[I", true)
  | 8 => ("WriterDeskModel", "lastSize", "[I", true)
  | 9 => ("WriterDeskModel", "lastSigns", "[I", true)
  | 10 => ("WriterDeskModel", "firstSize", "[I", true)
  | 11 => ("WriterDeskModel", "firstSigns", "[I", true)
  | 12 => ("WriterDeskModel", "results", "I", false)
  | 13 => ("WriterDeskModel", "result", "[I", true)
  | 14 => ("WriterDeskModel", "isUseful", "[Z", true)
  | 15 => ("WriterDeskModel", "many", "[I", true)
  | 16 => ("WriterDeskModel", "from", "[I", true)
  | 17 => ("WriterDeskModel", "letter", "[I", true)
  | 18 => ("WriterDeskModel", "to", "[I", true)
  | 19 => ("WriterDeskModel", "outSize", "[I", true)
  | 20 => ("WriterDeskModel", "outSigns", "[I", true)
  | 21 => ("WriterDeskModel", "endSize", "[I", true)
  | 22 => ("WriterDeskModel", "endSigns", "[I", true)
  | 23 => ("WriterDeskModel", "startSize", "[I", true)
  | 24 => ("WriterDeskModel", "startSigns", "[I", true)
  | 25 => ("WriterDeskModel", "canEnd", "[Z", true)
  | 26 => ("WriterDeskModel", "oneSize", "I", false)
  | 27 => ("WriterDeskModel", "twoSize", "I", false)
  | 28 => ("WriterDeskModel", "one", "[I", true)
  | 29 => ("WriterDeskModel", "two", "[I", true)
  | 30 => ("WriterDeskModel", "found", "I", false)
  | 31 => ("WriterDeskModel", "inOne", "[I", true)
  | 32 => ("WriterDeskModel", "inTwo", "[I", true)
  | 33 => ("WriterDeskModel", "side", "[I", true)
  | 34 => ("WriterDeskModel", "restSize", "[I", true)
  | 35 => ("WriterDeskModel", "rest", "[I", true)
  | 36 => ("WriterDeskModel", "wordOf", "[I", true)
  | 37 => ("WriterDeskModel", "kept", "[I", true)
  | 38 => ("WriterDeskModel", "words", "I", false)
  | 39 => ("WriterDeskModel", "before", "[I", true)
  | 40 => ("WriterDeskModel", "lastLetter", "[I", true)
  | 41 => ("WriterDeskModel", "apart", "I", false)
  | 42 => ("WriterDeskModel", "sets", "I", false)
  | 43 => ("WriterDeskModel", "setOne", "[I", true)
  | 44 => ("WriterDeskModel", "setTwo", "[I", true)
  | 45 => ("WriterDeskModel", "wasSet", "[Z", true)
  | 46 => ("WriterDeskModel", "wordSize", "I", false)
  | 47 => ("WriterDeskModel", "otherSize", "I", false)
  | 48 => ("WriterDeskModel", "word", "[I", true)
  | 49 => ("WriterDeskModel", "otherWord", "[I", true)
  | 50 => ("WriterDeskModel", "ways", "I", false)
  | 51 => ("WriterDeskModel", "nextWays", "I", false)
  | 52 => ("WriterDeskModel", "wayState", "[I", true)
  | 53 => ("WriterDeskModel", "waySize", "[I", true)
  | 54 => ("WriterDeskModel", "waySigns", "[I", true)
  | 55 => ("WriterDeskModel", "nextState", "[I", true)
  | 56 => ("WriterDeskModel", "nextSize", "[I", true)
  | 57 => ("WriterDeskModel", "nextSigns", "[I", true)
  | 58 => ("WriterDeskModel", "pairs", "I", false)
  | 59 => ("WriterDeskModel", "pairStates", "[I", true)
  | 60 => ("WriterDeskModel", "pairSizes", "[I", true)
  | 61 => ("WriterDeskModel", "pairSigns", "[I", true)
  | 62 => ("WriterDeskModel", "pairNext", "[I", true)
  | 63 => ("WriterDeskModel", "pairHead", "[I", true)
  | 64 => ("WriterDeskModel", "most", "I", false)
  | 65 => ("WriterDeskModel", "commonSize", "[I", true)
  | 66 => ("WriterDeskModel", "common", "[I", true)
  | 67 => ("WriterDeskModel", "made", "I", false)
  | 68 => ("WriterDeskModel", "isMade", "Z", false)
  | 69 => ("WriterDeskModel", "madeFirstSize", "I", false)
  | 70 => ("WriterDeskModel", "madeFirst", "[I", true)
  | 71 => ("WriterDeskModel", "goes", "[I", true)
  | 72 => ("WriterDeskModel", "writesSize", "[I", true)
  | 73 => ("WriterDeskModel", "writes", "[I", true)
  | 74 => ("WriterDeskModel", "closeSize", "[I", true)
  | 75 => ("WriterDeskModel", "close", "[I", true)
  | 76 => ("WriterDeskModel", "classes", "I", false)
  | 77 => ("WriterDeskModel", "aheadSize", "[I", true)
  | 78 => ("WriterDeskModel", "ahead", "[I", true)
  | 79 => ("WriterDeskModel", "newGoes", "[I", true)
  | 80 => ("WriterDeskModel", "newWritesSize", "[I", true)
  | _ => ("WriterDeskModel", "newWrites", "[I", true)
def t_Mod : Nat → FieldType := fun k => match k with
  | 0 => .int
  | 1 => .array .int
  | 2 => .array .int
  | 3 => .array .int
  | 4 => .array .int
  | 5 => .array .int
  | 6 => .array .int
  | 7 => .array .int
  | 8 => .array .int
  | 9 => .array .int
  | 10 => .array .int
  | 11 => .array .int
  | 12 => .int
  | 13 => .array .int
  | 14 => .array .boolean
  | 15 => .array .int
  | 16 => .array .int
  | 17 => .array .int
  | 18 => .array .int
  | 19 => .array .int
  | 20 => .array .int
  | 21 => .array .int
  | 22 => .array .int
  | 23 => .array .int
  | 24 => .array .int
  | 25 => .array .boolean
  | 26 => .int
  | 27 => .int
  | 28 => .array .int
  | 29 => .array .int
  | 30 => .int
  | 31 => .array .int
  | 32 => .array .int
  | 33 => .array .int
  | 34 => .array .int
  | 35 => .array .int
  | 36 => .array .int
  | 37 => .array .int
  | 38 => .int
  | 39 => .array .int
  | 40 => .array .int
  | 41 => .int
  | 42 => .int
  | 43 => .array .int
  | 44 => .array .int
  | 45 => .array .boolean
  | 46 => .int
  | 47 => .int
  | 48 => .array .int
  | 49 => .array .int
  | 50 => .int
  | 51 => .int
  | 52 => .array .int
  | 53 => .array .int
  | 54 => .array .int
  | 55 => .array .int
  | 56 => .array .int
  | 57 => .array .int
  | 58 => .int
  | 59 => .array .int
  | 60 => .array .int
  | 61 => .array .int
  | 62 => .array .int
  | 63 => .array .int
  | 64 => .int
  | 65 => .array .int
  | 66 => .array .int
  | 67 => .int
  | 68 => .boolean
  | 69 => .int
  | 70 => .array .int
  | 71 => .array .int
  | 72 => .array .int
  | 73 => .array .int
  | 74 => .array .int
  | 75 => .array .int
  | 76 => .int
  | 77 => .array .int
  | 78 => .array .int
  | 79 => .array .int
  | 80 => .array .int
  | _ => .array .int
theorem n_Mod : ∀ a, a < 82 → ∀ b, b < 82 → a ≠ b → (F_Mod a).2.1 ≠ (F_Mod b).2.1 := by decide +kernel
theorem t_Mod_ok : ∀ k, k < 82 → parseFieldDescriptor (F_Mod k).2.2.1 = some (t_Mod k) := by decide +kernel
abbrev rz_cl : List vw_C := [("WriterDesk$Word", F_Word, 2), ("WriterDesk$Rows", F_Rows, 5), ("WriterDesk$Machine", F_Mach, 13), ("WriterDesk$Reading", F_Read, 5), ("WriterDesk$PairSearch", F_Pair, 18), ("WriterDesk$DomainSearch", F_Dom, 6), ("WriterDesk$ResidualSearch", F_Res, 10), ("WriterDesk$SmallMachine", F_Small, 6), ("WriterDesk$Builder", F_Bld, 13), ("WriterDesk", F_Desk, 10), ("WriterDeskModel", F_Mod, 82)]
def rz_on (i : Nat) : String := (["WriterDesk$Word", "WriterDesk$Rows", "WriterDesk$Machine", "WriterDesk$Reading", "WriterDesk$PairSearch", "WriterDesk$DomainSearch", "WriterDesk$ResidualSearch", "WriterDesk$SmallMachine", "WriterDesk$Builder", "WriterDesk", "WriterDeskModel", "WriterDeskLaw", "java/lang/Integer", "java/lang/Math", "java/util/Arrays", "java/lang/System", "java/lang/Throwable", "java/lang/Exception", "java/lang/RuntimeException", "java/lang/IndexOutOfBoundsException", "java/lang/IllegalArgumentException", "java/lang/IllegalStateException", "java/lang/UnsupportedOperationException"] : List String).getD i ""
def rz_tb : List Cond := lw_tbl.filter goodWord
theorem rz_in {w : Cond} (h : w ∈ tables_1) (hg : goodWord w = true) : w ∈ rz_tb := List.mem_filter.mpr ⟨List.mem_append_right _ h, hg⟩
theorem rz_inp {w : Cond} (i : Nat) (h : tables_1[i]? = some w) (hg : goodWord w = true) : w ∈ rz_tb := rz_in (List.mem_of_getElem? h) hg
theorem rz_ins {w : Cond} (i : Nat) (h : (k2_sels lw_privs)[i]? = some w) (hg : goodWord w = true) : w ∈ rz_tb := List.mem_filter.mpr ⟨List.mem_append_left _ (List.mem_of_getElem? h), hg⟩
theorem rz_inl {ws : List Cond} {ps : List Nat} (h : ws.map some = ps.map (fun i => tables_1[i]?)) (hg : ws.all goodWord = true) : ∀ w ∈ ws, w ∈ rz_tb := by
  intro w hw
  have h1 : some w ∈ ws.map some := List.mem_map.mpr ⟨w, hw, rfl⟩
  rw [h] at h1
  obtain ⟨i, -, hi⟩ := List.mem_map.mp h1
  exact rz_inp i hi (List.all_eq_true.mp hg w hw)
def p_Word : List Nat := [47, 49]
set_option maxRecDepth 100000 in
theorem i_Word : ∀ w ∈ u_ws "WriterDesk$Word" F_Word 2, w ∈ rz_tb := by
  have h : (u_ws "WriterDesk$Word" F_Word 2).map some = p_Word.map (fun i => tables_1[i]?) := by decide +kernel
  have hg : (u_ws "WriterDesk$Word" F_Word 2).all goodWord = true := by decide +kernel
  exact rz_inl h hg
def p_Rows : List Nat := [76, 78, 80, 82, 84]
set_option maxRecDepth 100000 in
theorem i_Rows : ∀ w ∈ u_ws "WriterDesk$Rows" F_Rows 5, w ∈ rz_tb := by
  have h : (u_ws "WriterDesk$Rows" F_Rows 5).map some = p_Rows.map (fun i => tables_1[i]?) := by decide +kernel
  have hg : (u_ws "WriterDesk$Rows" F_Rows 5).all goodWord = true := by decide +kernel
  exact rz_inl h hg
def p_Mach : List Nat := [298, 300, 302, 304, 306, 308, 310, 312, 314, 316, 318, 320, 322]
set_option maxRecDepth 100000 in
theorem i_Mach : ∀ w ∈ u_ws "WriterDesk$Machine" F_Mach 13, w ∈ rz_tb := by
  have h : (u_ws "WriterDesk$Machine" F_Mach 13).map some = p_Mach.map (fun i => tables_1[i]?) := by decide +kernel
  have hg : (u_ws "WriterDesk$Machine" F_Mach 13).all goodWord = true := by decide +kernel
  exact rz_inl h hg
def p_Read : List Nat := [95, 97, 99, 101, 103]
set_option maxRecDepth 100000 in
theorem i_Read : ∀ w ∈ u_ws "WriterDesk$Reading" F_Read 5, w ∈ rz_tb := by
  have h : (u_ws "WriterDesk$Reading" F_Read 5).map some = p_Read.map (fun i => tables_1[i]?) := by decide +kernel
  have hg : (u_ws "WriterDesk$Reading" F_Read 5).all goodWord = true := by decide +kernel
  exact rz_inl h hg
def p_Pair : List Nat := [133, 135, 137, 139, 141, 143, 145, 147, 149, 151, 153, 155, 157, 159, 161, 163, 165, 167]
set_option maxRecDepth 100000 in
theorem i_Pair : ∀ w ∈ u_ws "WriterDesk$PairSearch" F_Pair 18, w ∈ rz_tb := by
  have h : (u_ws "WriterDesk$PairSearch" F_Pair 18).map some = p_Pair.map (fun i => tables_1[i]?) := by decide +kernel
  have hg : (u_ws "WriterDesk$PairSearch" F_Pair 18).all goodWord = true := by decide +kernel
  exact rz_inl h hg
def p_Dom : List Nat := [183, 185, 187, 189, 191, 193]
set_option maxRecDepth 100000 in
theorem i_Dom : ∀ w ∈ u_ws "WriterDesk$DomainSearch" F_Dom 6, w ∈ rz_tb := by
  have h : (u_ws "WriterDesk$DomainSearch" F_Dom 6).map some = p_Dom.map (fun i => tables_1[i]?) := by decide +kernel
  have hg : (u_ws "WriterDesk$DomainSearch" F_Dom 6).all goodWord = true := by decide +kernel
  exact rz_inl h hg
def p_Res : List Nat := [217, 219, 221, 223, 225, 227, 229, 231, 233, 235]
set_option maxRecDepth 100000 in
theorem i_Res : ∀ w ∈ u_ws "WriterDesk$ResidualSearch" F_Res 10, w ∈ rz_tb := by
  have h : (u_ws "WriterDesk$ResidualSearch" F_Res 10).map some = p_Res.map (fun i => tables_1[i]?) := by decide +kernel
  have hg : (u_ws "WriterDesk$ResidualSearch" F_Res 10).all goodWord = true := by decide +kernel
  exact rz_inl h hg
def p_Small : List Nat := [393, 395, 397, 399, 401, 403]
set_option maxRecDepth 100000 in
theorem i_Small : ∀ w ∈ u_ws "WriterDesk$SmallMachine" F_Small 6, w ∈ rz_tb := by
  have h : (u_ws "WriterDesk$SmallMachine" F_Small 6).map some = p_Small.map (fun i => tables_1[i]?) := by decide +kernel
  have hg : (u_ws "WriterDesk$SmallMachine" F_Small 6).all goodWord = true := by decide +kernel
  exact rz_inl h hg
def p_Bld : List Nat := [340, 342, 344, 346, 348, 350, 352, 354, 356, 358, 360, 362, 364]
set_option maxRecDepth 100000 in
theorem i_Bld : ∀ w ∈ u_ws "WriterDesk$Builder" F_Bld 13, w ∈ rz_tb := by
  have h : (u_ws "WriterDesk$Builder" F_Bld 13).map some = p_Bld.map (fun i => tables_1[i]?) := by decide +kernel
  have hg : (u_ws "WriterDesk$Builder" F_Bld 13).all goodWord = true := by decide +kernel
  exact rz_inl h hg
def p_Desk : List Nat := [417, 419, 421, 423, 425, 427, 429, 431, 433, 435]
set_option maxRecDepth 100000 in
theorem i_Desk : ∀ w ∈ u_ws "WriterDesk" F_Desk 10, w ∈ rz_tb := by
  have h : (u_ws "WriterDesk" F_Desk 10).map some = p_Desk.map (fun i => tables_1[i]?) := by decide +kernel
  have hg : (u_ws "WriterDesk" F_Desk 10).all goodWord = true := by decide +kernel
  exact rz_inl h hg
def p_Mod : List Nat := [1138, 1140, 1142, 1144, 1146, 1148, 1150, 1152, 1154, 1156, 1158, 1160, 1162, 1164, 1166, 1168, 1170, 1172, 1174, 1176, 1178, 1180, 1182, 1184, 1186, 1188, 1190, 1192, 1194, 1196, 1198, 1200, 1202, 1204, 1206, 1208, 1210, 1212, 1214, 1216, 1218, 1220, 1222, 1224, 1226, 1228, 1230, 1232, 1234, 1236, 1238, 1240, 1242, 1244, 1246, 1248, 1250, 1252, 1254, 1256, 1258, 1260, 1262, 1264, 1266, 1268, 1270, 1272, 1274, 1276, 1278, 1280, 1282, 1284, 1286, 1288, 1290, 1292, 1294, 1296, 1298, 1300]
set_option maxRecDepth 100000 in
theorem i_Mod : ∀ w ∈ u_ws "WriterDeskModel" F_Mod 82, w ∈ rz_tb := by
  have h : (u_ws "WriterDeskModel" F_Mod 82).map some = p_Mod.map (fun i => tables_1[i]?) := by decide +kernel
  have hg : (u_ws "WriterDeskModel" F_Mod 82).all goodWord = true := by decide +kernel
  exact rz_inl h hg
abbrev rz_fls : List ((Nat × Nat × Nat × Nat) × Nat) := [((0, 9, 0, 0), 39), ((0, 15, 0, 1), 40), ((6, 126, 0, 1), 41), ((8, 164, 0, 1), 42), ((3, 118, 0, 1), 43), ((4, 135, 0, 1), 44), ((9, 197, 0, 1), 45), ((2, 86, 0, 1), 46), ((1, 16, 1, 0), 65), ((6, 89, 1, 0), 66), ((3, 129, 1, 0), 67), ((1, 13, 1, 1), 68), ((6, 86, 1, 1), 69), ((3, 132, 1, 1), 70), ((1, 7, 1, 2), 71), ((1, 20, 1, 3), 72), ((1, 24, 1, 4), 73), ((3, 71, 1, 4), 74), ((6, 80, 1, 4), 75), ((3, 14, 3, 0), 90), ((3, 20, 3, 1), 91), ((3, 23, 3, 2), 92), ((3, 32, 3, 3), 93), ((3, 36, 3, 4), 94), ((4, 59, 4, 0), 115), ((4, 63, 4, 1), 116), ((4, 66, 4, 2), 117), ((4, 11, 4, 3), 118), ((4, 15, 4, 4), 119), ((4, 18, 4, 5), 120), ((4, 24, 4, 6), 121), ((4, 28, 4, 7), 122), ((4, 31, 4, 8), 123), ((4, 34, 4, 9), 124), ((4, 70, 4, 10), 125), ((4, 37, 4, 11), 126), ((4, 40, 4, 12), 127), ((4, 43, 4, 13), 128), ((4, 46, 4, 14), 129), ((4, 73, 4, 15), 130), ((4, 52, 4, 16), 131), ((4, 56, 4, 17), 132), ((5, 9, 5, 0), 177), ((5, 15, 5, 1), 178), ((5, 19, 5, 2), 179), ((5, 22, 5, 3), 180), ((5, 31, 5, 4), 181), ((5, 35, 5, 5), 182), ((6, 14, 6, 0), 207), ((6, 20, 6, 1), 208), ((6, 29, 6, 2), 209), ((6, 33, 6, 3), 210), ((6, 36, 6, 4), 211), ((6, 39, 6, 5), 212), ((6, 42, 6, 6), 213), ((6, 62, 6, 7), 214), ((6, 65, 6, 8), 215), ((6, 69, 6, 9), 216), ((2, 9, 2, 0), 252), ((8, 118, 2, 0), 253), ((2, 15, 2, 1), 254), ((9, 90, 2, 1), 255), ((2, 18, 2, 2), 256), ((8, 170, 2, 2), 257), ((2, 22, 2, 3), 258), ((8, 173, 2, 3), 259), ((2, 25, 2, 4), 260), ((3, 96, 2, 4), 261), ((8, 140, 2, 4), 262), ((6, 129, 2, 4), 263), ((4, 115, 2, 4), 264), ((2, 30, 2, 5), 265), ((9, 101, 2, 5), 266), ((3, 89, 2, 5), 267), ((6, 112, 2, 5), 268), ((8, 143, 2, 5), 269), ((4, 122, 2, 5), 270), ((2, 37, 2, 6), 271), ((3, 48, 2, 6), 272), ((8, 85, 2, 6), 273), ((9, 118, 2, 6), 274), ((2, 41, 2, 7), 275), ((8, 131, 2, 7), 276), ((3, 106, 2, 7), 277), ((9, 115, 2, 7), 278), ((4, 157, 2, 7), 279), ((2, 44, 2, 8), 280), ((2, 47, 2, 9), 281), ((2, 51, 2, 10), 282), ((6, 46, 2, 10), 283), ((3, 42, 2, 10), 284), ((8, 68, 2, 10), 285), ((5, 38, 2, 10), 286), ((9, 124, 2, 10), 287), ((2, 54, 2, 11), 288), ((3, 86, 2, 11), 289), ((6, 102, 2, 11), 290), ((8, 137, 2, 11), 291), ((4, 112, 2, 11), 292), ((2, 57, 2, 12), 293), ((3, 82, 2, 12), 294), ((6, 98, 2, 12), 295), ((8, 134, 2, 12), 296), ((4, 107, 2, 12), 297), ((8, 12, 8, 0), 327), ((8, 20, 8, 1), 328), ((8, 115, 8, 2), 329), ((8, 27, 8, 3), 330), ((8, 31, 8, 4), 331), ((8, 34, 8, 5), 332), ((8, 38, 8, 6), 333), ((8, 41, 8, 7), 334), ((8, 44, 8, 8), 335), ((8, 47, 8, 9), 336), ((8, 90, 8, 10), 337), ((8, 50, 8, 11), 338), ((8, 53, 8, 12), 339), ((7, 9, 7, 0), 375), ((8, 56, 7, 0), 376), ((9, 182, 7, 0), 377), ((7, 15, 7, 1), 378), ((8, 97, 7, 1), 379), ((9, 187, 7, 1), 380), ((7, 21, 7, 2), 381), ((8, 112, 7, 2), 382), ((9, 186, 7, 2), 383), ((7, 25, 7, 3), 384), ((9, 193, 7, 3), 385), ((8, 219, 7, 3), 386), ((7, 29, 7, 4), 387), ((9, 192, 7, 4), 388), ((8, 223, 7, 4), 389), ((7, 35, 7, 5), 390), ((8, 62, 7, 5), 391), ((9, 191, 7, 5), 392), ((9, 11, 9, 0), 407), ((9, 20, 9, 1), 408), ((9, 24, 9, 2), 409), ((9, 30, 9, 3), 410), ((9, 37, 9, 4), 411), ((9, 44, 9, 5), 412), ((9, 51, 9, 6), 413), ((9, 58, 9, 7), 414), ((9, 65, 9, 8), 415), ((9, 69, 9, 9), 416), ((10, 206, 10, 0), 1056), ((10, 7, 10, 1), 1057), ((10, 13, 10, 2), 1058), ((10, 16, 10, 3), 1059), ((10, 19, 10, 4), 1060), ((10, 22, 10, 5), 1061), ((10, 25, 10, 6), 1062), ((10, 28, 10, 7), 1063), ((10, 31, 10, 8), 1064), ((10, 34, 10, 9), 1065), ((10, 37, 10, 10), 1066), ((10, 40, 10, 11), 1067), ((10, 246, 10, 12), 1068), ((10, 43, 10, 13), 1069), ((10, 46, 10, 14), 1070), ((10, 50, 10, 15), 1071), ((10, 53, 10, 16), 1072), ((10, 56, 10, 17), 1073), ((10, 59, 10, 18), 1074), ((10, 62, 10, 19), 1075), ((10, 65, 10, 20), 1076), ((10, 68, 10, 21), 1077), ((10, 71, 10, 22), 1078), ((10, 74, 10, 23), 1079), ((10, 77, 10, 24), 1080), ((10, 80, 10, 25), 1081), ((10, 253, 10, 26), 1082), ((10, 256, 10, 27), 1083), ((10, 83, 10, 28), 1084), ((10, 86, 10, 29), 1085), ((10, 263, 10, 30), 1086), ((10, 89, 10, 31), 1087), ((10, 92, 10, 32), 1088), ((10, 95, 10, 33), 1089), ((10, 98, 10, 34), 1090), ((10, 102, 10, 35), 1091), ((10, 105, 10, 36), 1092), ((10, 108, 10, 37), 1093), ((10, 270, 10, 38), 1094), ((10, 111, 10, 39), 1095), ((10, 114, 10, 40), 1096), ((10, 293, 10, 41), 1097), ((10, 324, 10, 42), 1098), ((10, 117, 10, 43), 1099), ((10, 120, 10, 44), 1100), ((10, 123, 10, 45), 1101), ((10, 309, 10, 46), 1102), ((10, 334, 10, 47), 1103), ((10, 126, 10, 48), 1104), ((10, 129, 10, 49), 1105), ((10, 232, 10, 50), 1106), ((10, 229, 10, 51), 1107), ((10, 132, 10, 52), 1108), ((10, 135, 10, 53), 1109), ((10, 138, 10, 54), 1110), ((10, 141, 10, 55), 1111), ((10, 144, 10, 56), 1112), ((10, 147, 10, 57), 1113), ((10, 348, 10, 58), 1114), ((10, 150, 10, 59), 1115), ((10, 153, 10, 60), 1116), ((10, 157, 10, 61), 1117), ((10, 160, 10, 62), 1118), ((10, 163, 10, 63), 1119), ((10, 345, 10, 64), 1120), ((10, 166, 10, 65), 1121), ((10, 169, 10, 66), 1122), ((10, 388, 10, 67), 1123), ((10, 391, 10, 68), 1124), ((10, 395, 10, 69), 1125), ((10, 172, 10, 70), 1126), ((10, 175, 10, 71), 1127), ((10, 178, 10, 72), 1128), ((10, 181, 10, 73), 1129), ((10, 184, 10, 74), 1130), ((10, 187, 10, 75), 1131), ((10, 376, 10, 76), 1132), ((10, 190, 10, 77), 1133), ((10, 194, 10, 78), 1134), ((10, 197, 10, 79), 1135), ((10, 200, 10, 80), 1136), ((10, 203, 10, 81), 1137)]
def rz_flok (q : (Nat × Nat × Nat × Nat) × Nat) : Bool := match rz_cl[q.1.2.2.1]? with
  | some r => decide (q.1.2.2.2 < r.2.2) && decide (tables_1[q.2]? = some (Cond.fieldLink (rz_on q.1.1) q.1.2.1 (r.2.1 q.1.2.2.2).1 (r.2.1 q.1.2.2.2).2.1 (r.2.1 q.1.2.2.2).2.2.1))
  | none => false
set_option maxRecDepth 100000 in
theorem rz_fls_ok : rz_fls.all rz_flok = true := by decide +kernel
