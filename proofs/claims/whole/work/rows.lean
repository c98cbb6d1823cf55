section
-- ===== PART A: goes FIRST, ahead of the names: the tables' words, and 'selects' of the private methods out of them =====
/-- a private method of a class that the tables say can be made, by its rows of tables_1 -/
def lw_okq (q : MethodName × Nat) : Prop := (q.1.cls ≠ "java/lang/invoke/MethodHandle" ∧ q.1.cls ≠ "java/lang/invoke/VarHandle") ∧ Cond.instantiable q.1.cls q.2 ∈ tables_1 ∧ Cond.privateMethod q.1 ∈ tables_1 ∧ Cond.instanceMethod q.1 ∈ tables_1
theorem lw_p0 : lw_okq (⟨"FewRectangles", "settle", "(I)I"⟩, 17) := ⟨⟨by decide +kernel, by decide +kernel⟩, List.mem_of_getElem? (i := 23) (by decide +kernel), List.mem_of_getElem? (i := 518) (by decide +kernel), List.mem_of_getElem? (i := 519) (by decide +kernel)⟩
theorem lw_p1 : lw_okq (⟨"FewRectangles$Editor", "bringLines", "(LFewRectangles$Sheet;II)V"⟩, 2) := ⟨⟨by decide +kernel, by decide +kernel⟩, List.mem_of_getElem? (i := 164) (by decide +kernel), List.mem_of_getElem? (i := 586) (by decide +kernel), List.mem_of_getElem? (i := 587) (by decide +kernel)⟩
theorem lw_p2 : lw_okq (⟨"FewRectangles$Editor", "bringCell", "(LFewRectangles$Sheet;IIII)V"⟩, 2) := ⟨⟨by decide +kernel, by decide +kernel⟩, List.mem_of_getElem? (i := 164) (by decide +kernel), List.mem_of_getElem? (i := 594) (by decide +kernel), List.mem_of_getElem? (i := 595) (by decide +kernel)⟩
theorem lw_p3 : lw_okq (⟨"FewRectangles$Editor", "joinNewLine", "(LFewRectangles$Sheet;III)V"⟩, 2) := ⟨⟨by decide +kernel, by decide +kernel⟩, List.mem_of_getElem? (i := 164) (by decide +kernel), List.mem_of_getElem? (i := 610) (by decide +kernel), List.mem_of_getElem? (i := 611) (by decide +kernel)⟩
theorem lw_p4 : lw_okq (⟨"FewRectangles$Sheet", "carryRule", "(II)V"⟩, 9) := ⟨⟨by decide +kernel, by decide +kernel⟩, List.mem_of_getElem? (i := 38) (by decide +kernel), List.mem_of_getElem? (i := 648) (by decide +kernel), List.mem_of_getElem? (i := 649) (by decide +kernel)⟩
theorem lw_p5 : lw_okq (⟨"FewRectangles$Editor", "mustSwap", "(LFewRectangles$Sheet;III)Z"⟩, 2) := ⟨⟨by decide +kernel, by decide +kernel⟩, List.mem_of_getElem? (i := 164) (by decide +kernel), List.mem_of_getElem? (i := 671) (by decide +kernel), List.mem_of_getElem? (i := 672) (by decide +kernel)⟩
theorem lw_p6 : lw_okq (⟨"FewRectangles$ConditionReader", "readLevel", "(II)V"⟩, 3) := ⟨⟨by decide +kernel, by decide +kernel⟩, List.mem_of_getElem? (i := 357) (by decide +kernel), List.mem_of_getElem? (i := 810) (by decide +kernel), List.mem_of_getElem? (i := 811) (by decide +kernel)⟩
theorem lw_p7 : lw_okq (⟨"FewRectangles$ConditionReader", "readJoined", "(II)V"⟩, 3) := ⟨⟨by decide +kernel, by decide +kernel⟩, List.mem_of_getElem? (i := 357) (by decide +kernel), List.mem_of_getElem? (i := 814) (by decide +kernel), List.mem_of_getElem? (i := 815) (by decide +kernel)⟩
theorem lw_p8 : lw_okq (⟨"FewRectangles$Tape", "spells", "(Ljava/lang/String;II)Z"⟩, 6) := ⟨⟨by decide +kernel, by decide +kernel⟩, List.mem_of_getElem? (i := 326) (by decide +kernel), List.mem_of_getElem? (i := 825) (by decide +kernel), List.mem_of_getElem? (i := 826) (by decide +kernel)⟩
theorem lw_p9 : lw_okq (⟨"FewRectangles$ConditionReader", "emitWith", "(II)I"⟩, 3) := ⟨⟨by decide +kernel, by decide +kernel⟩, List.mem_of_getElem? (i := 357) (by decide +kernel), List.mem_of_getElem? (i := 849) (by decide +kernel), List.mem_of_getElem? (i := 850) (by decide +kernel)⟩
theorem lw_p10 : lw_okq (⟨"FewRectangles$ConditionReader", "emit", "(I)V"⟩, 3) := ⟨⟨by decide +kernel, by decide +kernel⟩, List.mem_of_getElem? (i := 357) (by decide +kernel), List.mem_of_getElem? (i := 853) (by decide +kernel), List.mem_of_getElem? (i := 854) (by decide +kernel)⟩
theorem lw_p11 : lw_okq (⟨"FewRectangles$ConditionReader", "readNegated", "(I)V"⟩, 3) := ⟨⟨by decide +kernel, by decide +kernel⟩, List.mem_of_getElem? (i := 357) (by decide +kernel), List.mem_of_getElem? (i := 858) (by decide +kernel), List.mem_of_getElem? (i := 859) (by decide +kernel)⟩
theorem lw_p12 : lw_okq (⟨"FewRectangles$ConditionReader", "opens", "(I)Z"⟩, 3) := ⟨⟨by decide +kernel, by decide +kernel⟩, List.mem_of_getElem? (i := 357) (by decide +kernel), List.mem_of_getElem? (i := 867) (by decide +kernel), List.mem_of_getElem? (i := 868) (by decide +kernel)⟩
theorem lw_p13 : lw_okq (⟨"FewRectangles$ConditionReader", "readCompared", "(I)V"⟩, 3) := ⟨⟨by decide +kernel, by decide +kernel⟩, List.mem_of_getElem? (i := 357) (by decide +kernel), List.mem_of_getElem? (i := 885) (by decide +kernel), List.mem_of_getElem? (i := 886) (by decide +kernel)⟩
theorem lw_p14 : lw_okq (⟨"FewRectangles$ConditionReader", "readReckoned", "(II)V"⟩, 3) := ⟨⟨by decide +kernel, by decide +kernel⟩, List.mem_of_getElem? (i := 357) (by decide +kernel), List.mem_of_getElem? (i := 889) (by decide +kernel), List.mem_of_getElem? (i := 890) (by decide +kernel)⟩
theorem lw_p15 : lw_okq (⟨"FewRectangles$ConditionReader", "readUnit", "(I)V"⟩, 3) := ⟨⟨by decide +kernel, by decide +kernel⟩, List.mem_of_getElem? (i := 357) (by decide +kernel), List.mem_of_getElem? (i := 896) (by decide +kernel), List.mem_of_getElem? (i := 897) (by decide +kernel)⟩
def lw_privs_1 : List (MethodName × Nat) := [(⟨"FewRectangles", "settle", "(I)I"⟩, 17), (⟨"FewRectangles$Editor", "bringLines", "(LFewRectangles$Sheet;II)V"⟩, 2), (⟨"FewRectangles$Editor", "bringCell", "(LFewRectangles$Sheet;IIII)V"⟩, 2), (⟨"FewRectangles$Editor", "joinNewLine", "(LFewRectangles$Sheet;III)V"⟩, 2), (⟨"FewRectangles$Sheet", "carryRule", "(II)V"⟩, 9), (⟨"FewRectangles$Editor", "mustSwap", "(LFewRectangles$Sheet;III)Z"⟩, 2), (⟨"FewRectangles$ConditionReader", "readLevel", "(II)V"⟩, 3), (⟨"FewRectangles$ConditionReader", "readJoined", "(II)V"⟩, 3), (⟨"FewRectangles$Tape", "spells", "(Ljava/lang/String;II)Z"⟩, 6), (⟨"FewRectangles$ConditionReader", "emitWith", "(II)I"⟩, 3), (⟨"FewRectangles$ConditionReader", "emit", "(I)V"⟩, 3), (⟨"FewRectangles$ConditionReader", "readNegated", "(I)V"⟩, 3), (⟨"FewRectangles$ConditionReader", "opens", "(I)Z"⟩, 3), (⟨"FewRectangles$ConditionReader", "readCompared", "(I)V"⟩, 3), (⟨"FewRectangles$ConditionReader", "readReckoned", "(II)V"⟩, 3), (⟨"FewRectangles$ConditionReader", "readUnit", "(I)V"⟩, 3)]
theorem lw_r1 : ∀ q ∈ lw_privs_1, lw_okq q := List.forall_mem_cons.mpr ⟨lw_p0, List.forall_mem_cons.mpr ⟨lw_p1, List.forall_mem_cons.mpr ⟨lw_p2, List.forall_mem_cons.mpr ⟨lw_p3, List.forall_mem_cons.mpr ⟨lw_p4, List.forall_mem_cons.mpr ⟨lw_p5, List.forall_mem_cons.mpr ⟨lw_p6, List.forall_mem_cons.mpr ⟨lw_p7, List.forall_mem_cons.mpr ⟨lw_p8, List.forall_mem_cons.mpr ⟨lw_p9, List.forall_mem_cons.mpr ⟨lw_p10, List.forall_mem_cons.mpr ⟨lw_p11, List.forall_mem_cons.mpr ⟨lw_p12, List.forall_mem_cons.mpr ⟨lw_p13, List.forall_mem_cons.mpr ⟨lw_p14, List.forall_mem_cons.mpr ⟨lw_p15, fun _ h => absurd h List.not_mem_nil⟩⟩⟩⟩⟩⟩⟩⟩⟩⟩⟩⟩⟩⟩⟩⟩
theorem lw_p16 : lw_okq (⟨"FewRectangles$ConditionReader", "emitWord", "(I)V"⟩, 3) := ⟨⟨by decide +kernel, by decide +kernel⟩, List.mem_of_getElem? (i := 357) (by decide +kernel), List.mem_of_getElem? (i := 909) (by decide +kernel), List.mem_of_getElem? (i := 910) (by decide +kernel)⟩
theorem lw_p17 : lw_okq (⟨"FewRectangles", "sizeOf", "(I)I"⟩, 17) := ⟨⟨by decide +kernel, by decide +kernel⟩, List.mem_of_getElem? (i := 23) (by decide +kernel), List.mem_of_getElem? (i := 956) (by decide +kernel), List.mem_of_getElem? (i := 957) (by decide +kernel)⟩
theorem lw_p18 : lw_okq (⟨"FewRectangles", "shortOf", "(II)I"⟩, 17) := ⟨⟨by decide +kernel, by decide +kernel⟩, List.mem_of_getElem? (i := 23) (by decide +kernel), List.mem_of_getElem? (i := 960) (by decide +kernel), List.mem_of_getElem? (i := 961) (by decide +kernel)⟩
theorem lw_p19 : lw_okq (⟨"FewRectangles", "pastedRect", "(III)I"⟩, 17) := ⟨⟨by decide +kernel, by decide +kernel⟩, List.mem_of_getElem? (i := 23) (by decide +kernel), List.mem_of_getElem? (i := 964) (by decide +kernel), List.mem_of_getElem? (i := 965) (by decide +kernel)⟩
theorem lw_p20 : lw_okq (⟨"FewRectangles", "programOf", "(I)[I"⟩, 17) := ⟨⟨by decide +kernel, by decide +kernel⟩, List.mem_of_getElem? (i := 23) (by decide +kernel), List.mem_of_getElem? (i := 978) (by decide +kernel), List.mem_of_getElem? (i := 979) (by decide +kernel)⟩
theorem lw_p21 : lw_okq (⟨"FewRectangles$Runner", "runLines", "(LFewRectangles$Sheet;[IIII)V"⟩, 5) := ⟨⟨by decide +kernel, by decide +kernel⟩, List.mem_of_getElem? (i := 179) (by decide +kernel), List.mem_of_getElem? (i := 986) (by decide +kernel), List.mem_of_getElem? (i := 987) (by decide +kernel)⟩
theorem lw_p22 : lw_okq (⟨"FewRectangles$Runner", "perform", "(LFewRectangles$Sheet;[II)I"⟩, 5) := ⟨⟨by decide +kernel, by decide +kernel⟩, List.mem_of_getElem? (i := 179) (by decide +kernel), List.mem_of_getElem? (i := 992) (by decide +kernel), List.mem_of_getElem? (i := 993) (by decide +kernel)⟩
theorem lw_p23 : lw_okq (⟨"FewRectangles$Runner", "areaAt", "([II)I"⟩, 5) := ⟨⟨by decide +kernel, by decide +kernel⟩, List.mem_of_getElem? (i := 179) (by decide +kernel), List.mem_of_getElem? (i := 996) (by decide +kernel), List.mem_of_getElem? (i := 997) (by decide +kernel)⟩
theorem lw_p24 : lw_okq (⟨"FewRectangles$Runner", "originOf", "(I)I"⟩, 5) := ⟨⟨by decide +kernel, by decide +kernel⟩, List.mem_of_getElem? (i := 179) (by decide +kernel), List.mem_of_getElem? (i := 1007) (by decide +kernel), List.mem_of_getElem? (i := 1008) (by decide +kernel)⟩
theorem lw_p25 : lw_okq (⟨"FewRectangles$Probe", "step", "(LFewRectangles$Sheet;LFewRectangles$Rule;[II)I"⟩, 11) := ⟨⟨by decide +kernel, by decide +kernel⟩, List.mem_of_getElem? (i := 201) (by decide +kernel), List.mem_of_getElem? (i := 1056) (by decide +kernel), List.mem_of_getElem? (i := 1057) (by decide +kernel)⟩
theorem lw_p26 : lw_okq (⟨"FewRectangles$Probe", "push", "(J)V"⟩, 11) := ⟨⟨by decide +kernel, by decide +kernel⟩, List.mem_of_getElem? (i := 201) (by decide +kernel), List.mem_of_getElem? (i := 1061) (by decide +kernel), List.mem_of_getElem? (i := 1062) (by decide +kernel)⟩
theorem lw_p27 : lw_okq (⟨"FewRectangles$Probe", "wordFor", "(LFewRectangles$Sheet;I)I"⟩, 11) := ⟨⟨by decide +kernel, by decide +kernel⟩, List.mem_of_getElem? (i := 201) (by decide +kernel), List.mem_of_getElem? (i := 1066) (by decide +kernel), List.mem_of_getElem? (i := 1067) (by decide +kernel)⟩
theorem lw_p28 : lw_okq (⟨"FewRectangles$Probe", "countPeers", "(LFewRectangles$Sheet;LFewRectangles$Rule;)V"⟩, 11) := ⟨⟨by decide +kernel, by decide +kernel⟩, List.mem_of_getElem? (i := 201) (by decide +kernel), List.mem_of_getElem? (i := 1070) (by decide +kernel), List.mem_of_getElem? (i := 1071) (by decide +kernel)⟩
theorem lw_p29 : lw_okq (⟨"FewRectangles$Probe", "pop", "()I"⟩, 11) := ⟨⟨by decide +kernel, by decide +kernel⟩, List.mem_of_getElem? (i := 201) (by decide +kernel), List.mem_of_getElem? (i := 1074) (by decide +kernel), List.mem_of_getElem? (i := 1075) (by decide +kernel)⟩
theorem lw_p30 : lw_okq (⟨"FewRectangles", "now", "()LFewRectangles$Sheet;"⟩, 17) := ⟨⟨by decide +kernel, by decide +kernel⟩, List.mem_of_getElem? (i := 23) (by decide +kernel), List.mem_of_getElem? (i := 1093) (by decide +kernel), List.mem_of_getElem? (i := 1094) (by decide +kernel)⟩
theorem lw_p31 : lw_okq (⟨"FewRectangles", "freshView", "()LFewRectangles$View;"⟩, 17) := ⟨⟨by decide +kernel, by decide +kernel⟩, List.mem_of_getElem? (i := 23) (by decide +kernel), List.mem_of_getElem? (i := 1097) (by decide +kernel), List.mem_of_getElem? (i := 1098) (by decide +kernel)⟩
def lw_privs_2 : List (MethodName × Nat) := [(⟨"FewRectangles$ConditionReader", "emitWord", "(I)V"⟩, 3), (⟨"FewRectangles", "sizeOf", "(I)I"⟩, 17), (⟨"FewRectangles", "shortOf", "(II)I"⟩, 17), (⟨"FewRectangles", "pastedRect", "(III)I"⟩, 17), (⟨"FewRectangles", "programOf", "(I)[I"⟩, 17), (⟨"FewRectangles$Runner", "runLines", "(LFewRectangles$Sheet;[IIII)V"⟩, 5), (⟨"FewRectangles$Runner", "perform", "(LFewRectangles$Sheet;[II)I"⟩, 5), (⟨"FewRectangles$Runner", "areaAt", "([II)I"⟩, 5), (⟨"FewRectangles$Runner", "originOf", "(I)I"⟩, 5), (⟨"FewRectangles$Probe", "step", "(LFewRectangles$Sheet;LFewRectangles$Rule;[II)I"⟩, 11), (⟨"FewRectangles$Probe", "push", "(J)V"⟩, 11), (⟨"FewRectangles$Probe", "wordFor", "(LFewRectangles$Sheet;I)I"⟩, 11), (⟨"FewRectangles$Probe", "countPeers", "(LFewRectangles$Sheet;LFewRectangles$Rule;)V"⟩, 11), (⟨"FewRectangles$Probe", "pop", "()I"⟩, 11), (⟨"FewRectangles", "now", "()LFewRectangles$Sheet;"⟩, 17), (⟨"FewRectangles", "freshView", "()LFewRectangles$View;"⟩, 17)]
theorem lw_r2 : ∀ q ∈ lw_privs_2, lw_okq q := List.forall_mem_cons.mpr ⟨lw_p16, List.forall_mem_cons.mpr ⟨lw_p17, List.forall_mem_cons.mpr ⟨lw_p18, List.forall_mem_cons.mpr ⟨lw_p19, List.forall_mem_cons.mpr ⟨lw_p20, List.forall_mem_cons.mpr ⟨lw_p21, List.forall_mem_cons.mpr ⟨lw_p22, List.forall_mem_cons.mpr ⟨lw_p23, List.forall_mem_cons.mpr ⟨lw_p24, List.forall_mem_cons.mpr ⟨lw_p25, List.forall_mem_cons.mpr ⟨lw_p26, List.forall_mem_cons.mpr ⟨lw_p27, List.forall_mem_cons.mpr ⟨lw_p28, List.forall_mem_cons.mpr ⟨lw_p29, List.forall_mem_cons.mpr ⟨lw_p30, List.forall_mem_cons.mpr ⟨lw_p31, fun _ h => absurd h List.not_mem_nil⟩⟩⟩⟩⟩⟩⟩⟩⟩⟩⟩⟩⟩⟩⟩⟩
theorem lw_p32 : lw_okq (⟨"FewRectangles$View", "markCells", "(LFewRectangles$Sheet;LFewRectangles$Probe;I)V"⟩, 10) := ⟨⟨by decide +kernel, by decide +kernel⟩, List.mem_of_getElem? (i := 241) (by decide +kernel), List.mem_of_getElem? (i := 1106) (by decide +kernel), List.mem_of_getElem? (i := 1107) (by decide +kernel)⟩
theorem lw_p33 : lw_okq (⟨"FewRectangles$View", "takeCell", "(LFewRectangles$Sheet;II)V"⟩, 10) := ⟨⟨by decide +kernel, by decide +kernel⟩, List.mem_of_getElem? (i := 241) (by decide +kernel), List.mem_of_getElem? (i := 1118) (by decide +kernel), List.mem_of_getElem? (i := 1119) (by decide +kernel)⟩
theorem lw_p34 : lw_okq (⟨"FewRectangles$Cover", "formatAt", "(II)I"⟩, 11) := ⟨⟨by decide +kernel, by decide +kernel⟩, List.mem_of_getElem? (i := 280) (by decide +kernel), List.mem_of_getElem? (i := 1196) (by decide +kernel), List.mem_of_getElem? (i := 1197) (by decide +kernel)⟩
theorem lw_p35 : lw_okq (⟨"FewRectangles$Cover", "addRun", "(III)V"⟩, 11) := ⟨⟨by decide +kernel, by decide +kernel⟩, List.mem_of_getElem? (i := 280) (by decide +kernel), List.mem_of_getElem? (i := 1202) (by decide +kernel), List.mem_of_getElem? (i := 1203) (by decide +kernel)⟩
theorem lw_p36 : lw_okq (⟨"FewRectangles$View", "findGreatestFrom", "(II)V"⟩, 10) := ⟨⟨by decide +kernel, by decide +kernel⟩, List.mem_of_getElem? (i := 241) (by decide +kernel), List.mem_of_getElem? (i := 1285) (by decide +kernel), List.mem_of_getElem? (i := 1286) (by decide +kernel)⟩
theorem lw_p37 : lw_okq (⟨"FewRectangles$Cover", "leastOf", "(II)I"⟩, 11) := ⟨⟨by decide +kernel, by decide +kernel⟩, List.mem_of_getElem? (i := 280) (by decide +kernel), List.mem_of_getElem? (i := 1328) (by decide +kernel), List.mem_of_getElem? (i := 1329) (by decide +kernel)⟩
theorem lw_p38 : lw_okq (⟨"FewRectangles$Cover", "withEdge", "(II)I"⟩, 11) := ⟨⟨by decide +kernel, by decide +kernel⟩, List.mem_of_getElem? (i := 280) (by decide +kernel), List.mem_of_getElem? (i := 1332) (by decide +kernel), List.mem_of_getElem? (i := 1333) (by decide +kernel)⟩
theorem lw_p39 : lw_okq (⟨"FewRectangles", "setShort", "(III)V"⟩, 17) := ⟨⟨by decide +kernel, by decide +kernel⟩, List.mem_of_getElem? (i := 23) (by decide +kernel), List.mem_of_getElem? (i := 1350) (by decide +kernel), List.mem_of_getElem? (i := 1351) (by decide +kernel)⟩
theorem lw_p40 : lw_okq (⟨"FewRectangles", "writeFive", "(IIII)V"⟩, 17) := ⟨⟨by decide +kernel, by decide +kernel⟩, List.mem_of_getElem? (i := 23) (by decide +kernel), List.mem_of_getElem? (i := 1374) (by decide +kernel), List.mem_of_getElem? (i := 1375) (by decide +kernel)⟩
theorem lw_p41 : lw_okq (⟨"FewRectangles$ProgramReader", "readLines", "(I)V"⟩, 4) := ⟨⟨by decide +kernel, by decide +kernel⟩, List.mem_of_getElem? (i := 373) (by decide +kernel), List.mem_of_getElem? (i := 1398) (by decide +kernel), List.mem_of_getElem? (i := 1399) (by decide +kernel)⟩
theorem lw_p42 : lw_okq (⟨"FewRectangles$ProgramReader", "add", "(I)V"⟩, 4) := ⟨⟨by decide +kernel, by decide +kernel⟩, List.mem_of_getElem? (i := 373) (by decide +kernel), List.mem_of_getElem? (i := 1404) (by decide +kernel), List.mem_of_getElem? (i := 1405) (by decide +kernel)⟩
theorem lw_p43 : lw_okq (⟨"FewRectangles$ProgramReader", "readNumbers", "(I)V"⟩, 4) := ⟨⟨by decide +kernel, by decide +kernel⟩, List.mem_of_getElem? (i := 373) (by decide +kernel), List.mem_of_getElem? (i := 1409) (by decide +kernel), List.mem_of_getElem? (i := 1410) (by decide +kernel)⟩
theorem lw_p44 : lw_okq (⟨"FewRectangles$ProgramReader", "addFormat", "()V"⟩, 4) := ⟨⟨by decide +kernel, by decide +kernel⟩, List.mem_of_getElem? (i := 373) (by decide +kernel), List.mem_of_getElem? (i := 1413) (by decide +kernel), List.mem_of_getElem? (i := 1414) (by decide +kernel)⟩
theorem lw_p45 : lw_okq (⟨"FewRectangles$ProgramReader", "addArea", "()V"⟩, 4) := ⟨⟨by decide +kernel, by decide +kernel⟩, List.mem_of_getElem? (i := 373) (by decide +kernel), List.mem_of_getElem? (i := 1421) (by decide +kernel), List.mem_of_getElem? (i := 1422) (by decide +kernel)⟩
theorem lw_p46 : lw_okq (⟨"FewRectangles$ProgramReader", "addTwo", "(Ljava/lang/String;)V"⟩, 4) := ⟨⟨by decide +kernel, by decide +kernel⟩, List.mem_of_getElem? (i := 373) (by decide +kernel), List.mem_of_getElem? (i := 1428) (by decide +kernel), List.mem_of_getElem? (i := 1429) (by decide +kernel)⟩
theorem lw_p47 : lw_okq (⟨"FewRectangles$ProgramReader", "addMove", "()V"⟩, 4) := ⟨⟨by decide +kernel, by decide +kernel⟩, List.mem_of_getElem? (i := 373) (by decide +kernel), List.mem_of_getElem? (i := 1434) (by decide +kernel), List.mem_of_getElem? (i := 1435) (by decide +kernel)⟩
def lw_privs_3 : List (MethodName × Nat) := [(⟨"FewRectangles$View", "markCells", "(LFewRectangles$Sheet;LFewRectangles$Probe;I)V"⟩, 10), (⟨"FewRectangles$View", "takeCell", "(LFewRectangles$Sheet;II)V"⟩, 10), (⟨"FewRectangles$Cover", "formatAt", "(II)I"⟩, 11), (⟨"FewRectangles$Cover", "addRun", "(III)V"⟩, 11), (⟨"FewRectangles$View", "findGreatestFrom", "(II)V"⟩, 10), (⟨"FewRectangles$Cover", "leastOf", "(II)I"⟩, 11), (⟨"FewRectangles$Cover", "withEdge", "(II)I"⟩, 11), (⟨"FewRectangles", "setShort", "(III)V"⟩, 17), (⟨"FewRectangles", "writeFive", "(IIII)V"⟩, 17), (⟨"FewRectangles$ProgramReader", "readLines", "(I)V"⟩, 4), (⟨"FewRectangles$ProgramReader", "add", "(I)V"⟩, 4), (⟨"FewRectangles$ProgramReader", "readNumbers", "(I)V"⟩, 4), (⟨"FewRectangles$ProgramReader", "addFormat", "()V"⟩, 4), (⟨"FewRectangles$ProgramReader", "addArea", "()V"⟩, 4), (⟨"FewRectangles$ProgramReader", "addTwo", "(Ljava/lang/String;)V"⟩, 4), (⟨"FewRectangles$ProgramReader", "addMove", "()V"⟩, 4)]
theorem lw_r3 : ∀ q ∈ lw_privs_3, lw_okq q := List.forall_mem_cons.mpr ⟨lw_p32, List.forall_mem_cons.mpr ⟨lw_p33, List.forall_mem_cons.mpr ⟨lw_p34, List.forall_mem_cons.mpr ⟨lw_p35, List.forall_mem_cons.mpr ⟨lw_p36, List.forall_mem_cons.mpr ⟨lw_p37, List.forall_mem_cons.mpr ⟨lw_p38, List.forall_mem_cons.mpr ⟨lw_p39, List.forall_mem_cons.mpr ⟨lw_p40, List.forall_mem_cons.mpr ⟨lw_p41, List.forall_mem_cons.mpr ⟨lw_p42, List.forall_mem_cons.mpr ⟨lw_p43, List.forall_mem_cons.mpr ⟨lw_p44, List.forall_mem_cons.mpr ⟨lw_p45, List.forall_mem_cons.mpr ⟨lw_p46, List.forall_mem_cons.mpr ⟨lw_p47, fun _ h => absurd h List.not_mem_nil⟩⟩⟩⟩⟩⟩⟩⟩⟩⟩⟩⟩⟩⟩⟩⟩
theorem lw_p48 : lw_okq (⟨"FewRectangles$ProgramReader", "opens", "(I)Z"⟩, 4) := ⟨⟨by decide +kernel, by decide +kernel⟩, List.mem_of_getElem? (i := 373) (by decide +kernel), List.mem_of_getElem? (i := 1440) (by decide +kernel), List.mem_of_getElem? (i := 1441) (by decide +kernel)⟩
theorem lw_p49 : lw_okq (⟨"FewRectanglesModel", "becomes", "([II)V"⟩, 51) := ⟨⟨by decide +kernel, by decide +kernel⟩, List.mem_of_getElem? (i := 1474) (by decide +kernel), List.mem_of_getElem? (i := 1652) (by decide +kernel), List.mem_of_getElem? (i := 1653) (by decide +kernel)⟩
theorem lw_p50 : lw_okq (⟨"FewRectanglesModel", "takesRect", "(I)Z"⟩, 51) := ⟨⟨by decide +kernel, by decide +kernel⟩, List.mem_of_getElem? (i := 1474) (by decide +kernel), List.mem_of_getElem? (i := 1672) (by decide +kernel), List.mem_of_getElem? (i := 1673) (by decide +kernel)⟩
theorem lw_p51 : lw_okq (⟨"FewRectanglesModel", "isRect", "(JJJJ)Z"⟩, 51) := ⟨⟨by decide +kernel, by decide +kernel⟩, List.mem_of_getElem? (i := 1474) (by decide +kernel), List.mem_of_getElem? (i := 1677) (by decide +kernel), List.mem_of_getElem? (i := 1678) (by decide +kernel)⟩
theorem lw_p52 : lw_okq (⟨"FewRectanglesModel", "doPaint", "(IIIIII)I"⟩, 51) := ⟨⟨by decide +kernel, by decide +kernel⟩, List.mem_of_getElem? (i := 1474) (by decide +kernel), List.mem_of_getElem? (i := 1681) (by decide +kernel), List.mem_of_getElem? (i := 1682) (by decide +kernel)⟩
theorem lw_p53 : lw_okq (⟨"FewRectanglesModel", "paints", "(IIIIII)V"⟩, 51) := ⟨⟨by decide +kernel, by decide +kernel⟩, List.mem_of_getElem? (i := 1474) (by decide +kernel), List.mem_of_getElem? (i := 1697) (by decide +kernel), List.mem_of_getElem? (i := 1698) (by decide +kernel)⟩
theorem lw_p54 : lw_okq (⟨"FewRectanglesModel", "told", "(I)I"⟩, 51) := ⟨⟨by decide +kernel, by decide +kernel⟩, List.mem_of_getElem? (i := 1474) (by decide +kernel), List.mem_of_getElem? (i := 1704) (by decide +kernel), List.mem_of_getElem? (i := 1705) (by decide +kernel)⟩
theorem lw_p55 : lw_okq (⟨"FewRectanglesModel", "doLines", "(IIIII)I"⟩, 51) := ⟨⟨by decide +kernel, by decide +kernel⟩, List.mem_of_getElem? (i := 1474) (by decide +kernel), List.mem_of_getElem? (i := 1713) (by decide +kernel), List.mem_of_getElem? (i := 1714) (by decide +kernel)⟩
theorem lw_p56 : lw_okq (⟨"FewRectanglesModel", "isLines", "(III)Z"⟩, 51) := ⟨⟨by decide +kernel, by decide +kernel⟩, List.mem_of_getElem? (i := 1474) (by decide +kernel), List.mem_of_getElem? (i := 1717) (by decide +kernel), List.mem_of_getElem? (i := 1718) (by decide +kernel)⟩
theorem lw_p57 : lw_okq (⟨"FewRectanglesModel", "isCell", "(I)Z"⟩, 51) := ⟨⟨by decide +kernel, by decide +kernel⟩, List.mem_of_getElem? (i := 1474) (by decide +kernel), List.mem_of_getElem? (i := 1732) (by decide +kernel), List.mem_of_getElem? (i := 1733) (by decide +kernel)⟩
theorem lw_p58 : lw_okq (⟨"FewRectanglesModel", "doInsert", "(III)I"⟩, 51) := ⟨⟨by decide +kernel, by decide +kernel⟩, List.mem_of_getElem? (i := 1474) (by decide +kernel), List.mem_of_getElem? (i := 1742) (by decide +kernel), List.mem_of_getElem? (i := 1743) (by decide +kernel)⟩
theorem lw_p59 : lw_okq (⟨"FewRectanglesModel", "movesLine", "(III)V"⟩, 51) := ⟨⟨by decide +kernel, by decide +kernel⟩, List.mem_of_getElem? (i := 1474) (by decide +kernel), List.mem_of_getElem? (i := 1747) (by decide +kernel), List.mem_of_getElem? (i := 1748) (by decide +kernel)⟩
theorem lw_p60 : lw_okq (⟨"FewRectanglesModel", "doRemove", "(III)I"⟩, 51) := ⟨⟨by decide +kernel, by decide +kernel⟩, List.mem_of_getElem? (i := 1474) (by decide +kernel), List.mem_of_getElem? (i := 1758) (by decide +kernel), List.mem_of_getElem? (i := 1759) (by decide +kernel)⟩
theorem lw_p61 : lw_okq (⟨"FewRectanglesModel", "dropRule", "(I)V"⟩, 51) := ⟨⟨by decide +kernel, by decide +kernel⟩, List.mem_of_getElem? (i := 1474) (by decide +kernel), List.mem_of_getElem? (i := 1762) (by decide +kernel), List.mem_of_getElem? (i := 1763) (by decide +kernel)⟩
theorem lw_p62 : lw_okq (⟨"FewRectanglesModel", "orders", "(I)V"⟩, 51) := ⟨⟨by decide +kernel, by decide +kernel⟩, List.mem_of_getElem? (i := 1474) (by decide +kernel), List.mem_of_getElem? (i := 1770) (by decide +kernel), List.mem_of_getElem? (i := 1771) (by decide +kernel)⟩
theorem lw_p63 : lw_okq (⟨"FewRectanglesModel", "aside", "()V"⟩, 51) := ⟨⟨by decide +kernel, by decide +kernel⟩, List.mem_of_getElem? (i := 1474) (by decide +kernel), List.mem_of_getElem? (i := 1774) (by decide +kernel), List.mem_of_getElem? (i := 1775) (by decide +kernel)⟩
def lw_privs_4 : List (MethodName × Nat) := [(⟨"FewRectangles$ProgramReader", "opens", "(I)Z"⟩, 4), (⟨"FewRectanglesModel", "becomes", "([II)V"⟩, 51), (⟨"FewRectanglesModel", "takesRect", "(I)Z"⟩, 51), (⟨"FewRectanglesModel", "isRect", "(JJJJ)Z"⟩, 51), (⟨"FewRectanglesModel", "doPaint", "(IIIIII)I"⟩, 51), (⟨"FewRectanglesModel", "paints", "(IIIIII)V"⟩, 51), (⟨"FewRectanglesModel", "told", "(I)I"⟩, 51), (⟨"FewRectanglesModel", "doLines", "(IIIII)I"⟩, 51), (⟨"FewRectanglesModel", "isLines", "(III)Z"⟩, 51), (⟨"FewRectanglesModel", "isCell", "(I)Z"⟩, 51), (⟨"FewRectanglesModel", "doInsert", "(III)I"⟩, 51), (⟨"FewRectanglesModel", "movesLine", "(III)V"⟩, 51), (⟨"FewRectanglesModel", "doRemove", "(III)I"⟩, 51), (⟨"FewRectanglesModel", "dropRule", "(I)V"⟩, 51), (⟨"FewRectanglesModel", "orders", "(I)V"⟩, 51), (⟨"FewRectanglesModel", "aside", "()V"⟩, 51)]
theorem lw_r4 : ∀ q ∈ lw_privs_4, lw_okq q := List.forall_mem_cons.mpr ⟨lw_p48, List.forall_mem_cons.mpr ⟨lw_p49, List.forall_mem_cons.mpr ⟨lw_p50, List.forall_mem_cons.mpr ⟨lw_p51, List.forall_mem_cons.mpr ⟨lw_p52, List.forall_mem_cons.mpr ⟨lw_p53, List.forall_mem_cons.mpr ⟨lw_p54, List.forall_mem_cons.mpr ⟨lw_p55, List.forall_mem_cons.mpr ⟨lw_p56, List.forall_mem_cons.mpr ⟨lw_p57, List.forall_mem_cons.mpr ⟨lw_p58, List.forall_mem_cons.mpr ⟨lw_p59, List.forall_mem_cons.mpr ⟨lw_p60, List.forall_mem_cons.mpr ⟨lw_p61, List.forall_mem_cons.mpr ⟨lw_p62, List.forall_mem_cons.mpr ⟨lw_p63, fun _ h => absurd h List.not_mem_nil⟩⟩⟩⟩⟩⟩⟩⟩⟩⟩⟩⟩⟩⟩⟩⟩
theorem lw_p64 : lw_okq (⟨"FewRectanglesModel", "doCopy", "(IIIIIIIII)I"⟩, 51) := ⟨⟨by decide +kernel, by decide +kernel⟩, List.mem_of_getElem? (i := 1474) (by decide +kernel), List.mem_of_getElem? (i := 1786) (by decide +kernel), List.mem_of_getElem? (i := 1787) (by decide +kernel)⟩
theorem lw_p65 : lw_okq (⟨"FewRectanglesModel", "own", "(III)I"⟩, 51) := ⟨⟨by decide +kernel, by decide +kernel⟩, List.mem_of_getElem? (i := 1474) (by decide +kernel), List.mem_of_getElem? (i := 1794) (by decide +kernel), List.mem_of_getElem? (i := 1795) (by decide +kernel)⟩
theorem lw_p66 : lw_okq (⟨"FewRectanglesModel", "beneath", "(III)I"⟩, 51) := ⟨⟨by decide +kernel, by decide +kernel⟩, List.mem_of_getElem? (i := 1474) (by decide +kernel), List.mem_of_getElem? (i := 1798) (by decide +kernel), List.mem_of_getElem? (i := 1799) (by decide +kernel)⟩
theorem lw_p67 : lw_okq (⟨"FewRectanglesModel", "doTidy", "(I)I"⟩, 51) := ⟨⟨by decide +kernel, by decide +kernel⟩, List.mem_of_getElem? (i := 1474) (by decide +kernel), List.mem_of_getElem? (i := 1806) (by decide +kernel), List.mem_of_getElem? (i := 1807) (by decide +kernel)⟩
theorem lw_p68 : lw_okq (⟨"FewRectanglesModel", "starts", "()V"⟩, 51) := ⟨⟨by decide +kernel, by decide +kernel⟩, List.mem_of_getElem? (i := 1474) (by decide +kernel), List.mem_of_getElem? (i := 1821) (by decide +kernel), List.mem_of_getElem? (i := 1822) (by decide +kernel)⟩
theorem lw_p69 : lw_okq (⟨"FewRectanglesModel", "next", "()V"⟩, 51) := ⟨⟨by decide +kernel, by decide +kernel⟩, List.mem_of_getElem? (i := 1474) (by decide +kernel), List.mem_of_getElem? (i := 1825) (by decide +kernel), List.mem_of_getElem? (i := 1826) (by decide +kernel)⟩
theorem lw_p70 : lw_okq (⟨"FewRectanglesModel", "isWordAt", "(I)Z"⟩, 51) := ⟨⟨by decide +kernel, by decide +kernel⟩, List.mem_of_getElem? (i := 1474) (by decide +kernel), List.mem_of_getElem? (i := 1829) (by decide +kernel), List.mem_of_getElem? (i := 1830) (by decide +kernel)⟩
theorem lw_p71 : lw_okq (⟨"FewRectanglesModel", "isFigureAt", "(I)Z"⟩, 51) := ⟨⟨by decide +kernel, by decide +kernel⟩, List.mem_of_getElem? (i := 1474) (by decide +kernel), List.mem_of_getElem? (i := 1836) (by decide +kernel), List.mem_of_getElem? (i := 1837) (by decide +kernel)⟩
theorem lw_p72 : lw_okq (⟨"FewRectanglesModel", "readsCondition", "()V"⟩, 51) := ⟨⟨by decide +kernel, by decide +kernel⟩, List.mem_of_getElem? (i := 1474) (by decide +kernel), List.mem_of_getElem? (i := 1842) (by decide +kernel), List.mem_of_getElem? (i := 1843) (by decide +kernel)⟩
theorem lw_p73 : lw_okq (⟨"FewRectanglesModel", "readsAll", "()V"⟩, 51) := ⟨⟨by decide +kernel, by decide +kernel⟩, List.mem_of_getElem? (i := 1474) (by decide +kernel), List.mem_of_getElem? (i := 1846) (by decide +kernel), List.mem_of_getElem? (i := 1847) (by decide +kernel)⟩
theorem lw_p74 : lw_okq (⟨"FewRectanglesModel", "readsNot", "()V"⟩, 51) := ⟨⟨by decide +kernel, by decide +kernel⟩, List.mem_of_getElem? (i := 1474) (by decide +kernel), List.mem_of_getElem? (i := 1850) (by decide +kernel), List.mem_of_getElem? (i := 1851) (by decide +kernel)⟩
theorem lw_p75 : lw_okq (⟨"FewRectanglesModel", "isWord", "(J)Z"⟩, 51) := ⟨⟨by decide +kernel, by decide +kernel⟩, List.mem_of_getElem? (i := 1474) (by decide +kernel), List.mem_of_getElem? (i := 1855) (by decide +kernel), List.mem_of_getElem? (i := 1856) (by decide +kernel)⟩
theorem lw_p76 : lw_okq (⟨"FewRectanglesModel", "opens", "()Z"⟩, 51) := ⟨⟨by decide +kernel, by decide +kernel⟩, List.mem_of_getElem? (i := 1474) (by decide +kernel), List.mem_of_getElem? (i := 1859) (by decide +kernel), List.mem_of_getElem? (i := 1860) (by decide +kernel)⟩
theorem lw_p77 : lw_okq (⟨"FewRectanglesModel", "wrong", "()V"⟩, 51) := ⟨⟨by decide +kernel, by decide +kernel⟩, List.mem_of_getElem? (i := 1474) (by decide +kernel), List.mem_of_getElem? (i := 1863) (by decide +kernel), List.mem_of_getElem? (i := 1864) (by decide +kernel)⟩
theorem lw_p78 : lw_okq (⟨"FewRectanglesModel", "writes", "(I)V"⟩, 51) := ⟨⟨by decide +kernel, by decide +kernel⟩, List.mem_of_getElem? (i := 1474) (by decide +kernel), List.mem_of_getElem? (i := 1867) (by decide +kernel), List.mem_of_getElem? (i := 1868) (by decide +kernel)⟩
theorem lw_p79 : lw_okq (⟨"FewRectanglesModel", "takesSign", "(I)Z"⟩, 51) := ⟨⟨by decide +kernel, by decide +kernel⟩, List.mem_of_getElem? (i := 1474) (by decide +kernel), List.mem_of_getElem? (i := 1871) (by decide +kernel), List.mem_of_getElem? (i := 1872) (by decide +kernel)⟩
def lw_privs_5 : List (MethodName × Nat) := [(⟨"FewRectanglesModel", "doCopy", "(IIIIIIIII)I"⟩, 51), (⟨"FewRectanglesModel", "own", "(III)I"⟩, 51), (⟨"FewRectanglesModel", "beneath", "(III)I"⟩, 51), (⟨"FewRectanglesModel", "doTidy", "(I)I"⟩, 51), (⟨"FewRectanglesModel", "starts", "()V"⟩, 51), (⟨"FewRectanglesModel", "next", "()V"⟩, 51), (⟨"FewRectanglesModel", "isWordAt", "(I)Z"⟩, 51), (⟨"FewRectanglesModel", "isFigureAt", "(I)Z"⟩, 51), (⟨"FewRectanglesModel", "readsCondition", "()V"⟩, 51), (⟨"FewRectanglesModel", "readsAll", "()V"⟩, 51), (⟨"FewRectanglesModel", "readsNot", "()V"⟩, 51), (⟨"FewRectanglesModel", "isWord", "(J)Z"⟩, 51), (⟨"FewRectanglesModel", "opens", "()Z"⟩, 51), (⟨"FewRectanglesModel", "wrong", "()V"⟩, 51), (⟨"FewRectanglesModel", "writes", "(I)V"⟩, 51), (⟨"FewRectanglesModel", "takesSign", "(I)Z"⟩, 51)]
theorem lw_r5 : ∀ q ∈ lw_privs_5, lw_okq q := List.forall_mem_cons.mpr ⟨lw_p64, List.forall_mem_cons.mpr ⟨lw_p65, List.forall_mem_cons.mpr ⟨lw_p66, List.forall_mem_cons.mpr ⟨lw_p67, List.forall_mem_cons.mpr ⟨lw_p68, List.forall_mem_cons.mpr ⟨lw_p69, List.forall_mem_cons.mpr ⟨lw_p70, List.forall_mem_cons.mpr ⟨lw_p71, List.forall_mem_cons.mpr ⟨lw_p72, List.forall_mem_cons.mpr ⟨lw_p73, List.forall_mem_cons.mpr ⟨lw_p74, List.forall_mem_cons.mpr ⟨lw_p75, List.forall_mem_cons.mpr ⟨lw_p76, List.forall_mem_cons.mpr ⟨lw_p77, List.forall_mem_cons.mpr ⟨lw_p78, List.forall_mem_cons.mpr ⟨lw_p79, fun _ h => absurd h List.not_mem_nil⟩⟩⟩⟩⟩⟩⟩⟩⟩⟩⟩⟩⟩⟩⟩⟩
theorem lw_p80 : lw_okq (⟨"FewRectanglesModel", "wants", "(Z)V"⟩, 51) := ⟨⟨by decide +kernel, by decide +kernel⟩, List.mem_of_getElem? (i := 1474) (by decide +kernel), List.mem_of_getElem? (i := 1875) (by decide +kernel), List.mem_of_getElem? (i := 1876) (by decide +kernel)⟩
theorem lw_p81 : lw_okq (⟨"FewRectanglesModel", "readsSum", "()V"⟩, 51) := ⟨⟨by decide +kernel, by decide +kernel⟩, List.mem_of_getElem? (i := 1474) (by decide +kernel), List.mem_of_getElem? (i := 1879) (by decide +kernel), List.mem_of_getElem? (i := 1880) (by decide +kernel)⟩
theorem lw_p82 : lw_okq (⟨"FewRectanglesModel", "readsPart", "()V"⟩, 51) := ⟨⟨by decide +kernel, by decide +kernel⟩, List.mem_of_getElem? (i := 1474) (by decide +kernel), List.mem_of_getElem? (i := 1883) (by decide +kernel), List.mem_of_getElem? (i := 1884) (by decide +kernel)⟩
theorem lw_p83 : lw_okq (⟨"FewRectanglesModel", "readsUnit", "()V"⟩, 51) := ⟨⟨by decide +kernel, by decide +kernel⟩, List.mem_of_getElem? (i := 1474) (by decide +kernel), List.mem_of_getElem? (i := 1887) (by decide +kernel), List.mem_of_getElem? (i := 1888) (by decide +kernel)⟩
theorem lw_p84 : lw_okq (⟨"FewRectanglesModel", "nameNow", "()I"⟩, 51) := ⟨⟨by decide +kernel, by decide +kernel⟩, List.mem_of_getElem? (i := 1474) (by decide +kernel), List.mem_of_getElem? (i := 1891) (by decide +kernel), List.mem_of_getElem? (i := 1892) (by decide +kernel)⟩
theorem lw_p85 : lw_okq (⟨"FewRectanglesModel", "number", "(I)I"⟩, 51) := ⟨⟨by decide +kernel, by decide +kernel⟩, List.mem_of_getElem? (i := 1474) (by decide +kernel), List.mem_of_getElem? (i := 1895) (by decide +kernel), List.mem_of_getElem? (i := 1896) (by decide +kernel)⟩
theorem lw_p86 : lw_okq (⟨"FewRectanglesModel", "takesWord", "(J)Z"⟩, 51) := ⟨⟨by decide +kernel, by decide +kernel⟩, List.mem_of_getElem? (i := 1474) (by decide +kernel), List.mem_of_getElem? (i := 1900) (by decide +kernel), List.mem_of_getElem? (i := 1901) (by decide +kernel)⟩
theorem lw_p87 : lw_okq (⟨"FewRectanglesModel", "isRule", "(I)Z"⟩, 51) := ⟨⟨by decide +kernel, by decide +kernel⟩, List.mem_of_getElem? (i := 1474) (by decide +kernel), List.mem_of_getElem? (i := 1909) (by decide +kernel), List.mem_of_getElem? (i := 1910) (by decide +kernel)⟩
theorem lw_p88 : lw_okq (⟨"FewRectanglesModel", "shows", "(III)I"⟩, 51) := ⟨⟨by decide +kernel, by decide +kernel⟩, List.mem_of_getElem? (i := 1474) (by decide +kernel), List.mem_of_getElem? (i := 1921) (by decide +kernel), List.mem_of_getElem? (i := 1922) (by decide +kernel)⟩
theorem lw_p89 : lw_okq (⟨"FewRectanglesModel", "showing", "(III)I"⟩, 51) := ⟨⟨by decide +kernel, by decide +kernel⟩, List.mem_of_getElem? (i := 1474) (by decide +kernel), List.mem_of_getElem? (i := 1925) (by decide +kernel), List.mem_of_getElem? (i := 1926) (by decide +kernel)⟩
theorem lw_p90 : lw_okq (⟨"FewRectanglesModel", "freshen", "()V"⟩, 51) := ⟨⟨by decide +kernel, by decide +kernel⟩, List.mem_of_getElem? (i := 1474) (by decide +kernel), List.mem_of_getElem? (i := 1929) (by decide +kernel), List.mem_of_getElem? (i := 1930) (by decide +kernel)⟩
theorem lw_p91 : lw_okq (⟨"FewRectanglesModel", "valueIn", "(II)I"⟩, 51) := ⟨⟨by decide +kernel, by decide +kernel⟩, List.mem_of_getElem? (i := 1474) (by decide +kernel), List.mem_of_getElem? (i := 1933) (by decide +kernel), List.mem_of_getElem? (i := 1934) (by decide +kernel)⟩
theorem lw_p92 : lw_okq (⟨"FewRectanglesModel", "isSo", "(III)Z"⟩, 51) := ⟨⟨by decide +kernel, by decide +kernel⟩, List.mem_of_getElem? (i := 1474) (by decide +kernel), List.mem_of_getElem? (i := 1939) (by decide +kernel), List.mem_of_getElem? (i := 1940) (by decide +kernel)⟩
theorem lw_p93 : lw_okq (⟨"FewRectanglesModel", "named", "(IIII)I"⟩, 51) := ⟨⟨by decide +kernel, by decide +kernel⟩, List.mem_of_getElem? (i := 1474) (by decide +kernel), List.mem_of_getElem? (i := 1943) (by decide +kernel), List.mem_of_getElem? (i := 1944) (by decide +kernel)⟩
theorem lw_p94 : lw_okq (⟨"FewRectanglesModel", "countIn", "(IIZ)I"⟩, 51) := ⟨⟨by decide +kernel, by decide +kernel⟩, List.mem_of_getElem? (i := 1474) (by decide +kernel), List.mem_of_getElem? (i := 1947) (by decide +kernel), List.mem_of_getElem? (i := 1948) (by decide +kernel)⟩
theorem lw_p95 : lw_okq (⟨"FewRectanglesModel", "coversOf", "(I)V"⟩, 51) := ⟨⟨by decide +kernel, by decide +kernel⟩, List.mem_of_getElem? (i := 1474) (by decide +kernel), List.mem_of_getElem? (i := 1992) (by decide +kernel), List.mem_of_getElem? (i := 1993) (by decide +kernel)⟩
def lw_privs_6 : List (MethodName × Nat) := [(⟨"FewRectanglesModel", "wants", "(Z)V"⟩, 51), (⟨"FewRectanglesModel", "readsSum", "()V"⟩, 51), (⟨"FewRectanglesModel", "readsPart", "()V"⟩, 51), (⟨"FewRectanglesModel", "readsUnit", "()V"⟩, 51), (⟨"FewRectanglesModel", "nameNow", "()I"⟩, 51), (⟨"FewRectanglesModel", "number", "(I)I"⟩, 51), (⟨"FewRectanglesModel", "takesWord", "(J)Z"⟩, 51), (⟨"FewRectanglesModel", "isRule", "(I)Z"⟩, 51), (⟨"FewRectanglesModel", "shows", "(III)I"⟩, 51), (⟨"FewRectanglesModel", "showing", "(III)I"⟩, 51), (⟨"FewRectanglesModel", "freshen", "()V"⟩, 51), (⟨"FewRectanglesModel", "valueIn", "(II)I"⟩, 51), (⟨"FewRectanglesModel", "isSo", "(III)Z"⟩, 51), (⟨"FewRectanglesModel", "named", "(IIII)I"⟩, 51), (⟨"FewRectanglesModel", "countIn", "(IIZ)I"⟩, 51), (⟨"FewRectanglesModel", "coversOf", "(I)V"⟩, 51)]
theorem lw_r6 : ∀ q ∈ lw_privs_6, lw_okq q := List.forall_mem_cons.mpr ⟨lw_p80, List.forall_mem_cons.mpr ⟨lw_p81, List.forall_mem_cons.mpr ⟨lw_p82, List.forall_mem_cons.mpr ⟨lw_p83, List.forall_mem_cons.mpr ⟨lw_p84, List.forall_mem_cons.mpr ⟨lw_p85, List.forall_mem_cons.mpr ⟨lw_p86, List.forall_mem_cons.mpr ⟨lw_p87, List.forall_mem_cons.mpr ⟨lw_p88, List.forall_mem_cons.mpr ⟨lw_p89, List.forall_mem_cons.mpr ⟨lw_p90, List.forall_mem_cons.mpr ⟨lw_p91, List.forall_mem_cons.mpr ⟨lw_p92, List.forall_mem_cons.mpr ⟨lw_p93, List.forall_mem_cons.mpr ⟨lw_p94, List.forall_mem_cons.mpr ⟨lw_p95, fun _ h => absurd h List.not_mem_nil⟩⟩⟩⟩⟩⟩⟩⟩⟩⟩⟩⟩⟩⟩⟩⟩
theorem lw_p96 : lw_okq (⟨"FewRectanglesModel", "isRun", "(IIIII)Z"⟩, 51) := ⟨⟨by decide +kernel, by decide +kernel⟩, List.mem_of_getElem? (i := 1474) (by decide +kernel), List.mem_of_getElem? (i := 1996) (by decide +kernel), List.mem_of_getElem? (i := 1997) (by decide +kernel)⟩
theorem lw_p97 : lw_okq (⟨"FewRectanglesModel", "again", "()V"⟩, 51) := ⟨⟨by decide +kernel, by decide +kernel⟩, List.mem_of_getElem? (i := 1474) (by decide +kernel), List.mem_of_getElem? (i := 2012) (by decide +kernel), List.mem_of_getElem? (i := 2013) (by decide +kernel)⟩
theorem lw_p98 : lw_okq (⟨"FewRectanglesModel", "draws", "(I)I"⟩, 51) := ⟨⟨by decide +kernel, by decide +kernel⟩, List.mem_of_getElem? (i := 1474) (by decide +kernel), List.mem_of_getElem? (i := 2021) (by decide +kernel), List.mem_of_getElem? (i := 2022) (by decide +kernel)⟩
theorem lw_p99 : lw_okq (⟨"FewRectanglesModel", "countShown", "(II)I"⟩, 51) := ⟨⟨by decide +kernel, by decide +kernel⟩, List.mem_of_getElem? (i := 1474) (by decide +kernel), List.mem_of_getElem? (i := 2030) (by decide +kernel), List.mem_of_getElem? (i := 2031) (by decide +kernel)⟩
theorem lw_p100 : lw_okq (⟨"FewRectanglesModel", "within", "(IIII)I"⟩, 51) := ⟨⟨by decide +kernel, by decide +kernel⟩, List.mem_of_getElem? (i := 1474) (by decide +kernel), List.mem_of_getElem? (i := 2042) (by decide +kernel), List.mem_of_getElem? (i := 2043) (by decide +kernel)⟩
theorem lw_p101 : lw_okq (⟨"FewRectanglesModel", "look", "(II)I"⟩, 51) := ⟨⟨by decide +kernel, by decide +kernel⟩, List.mem_of_getElem? (i := 1474) (by decide +kernel), List.mem_of_getElem? (i := 2050) (by decide +kernel), List.mem_of_getElem? (i := 2051) (by decide +kernel)⟩
theorem lw_p102 : lw_okq (⟨"FewRectanglesModel", "refusal", "(II)I"⟩, 51) := ⟨⟨by decide +kernel, by decide +kernel⟩, List.mem_of_getElem? (i := 1474) (by decide +kernel), List.mem_of_getElem? (i := 2081) (by decide +kernel), List.mem_of_getElem? (i := 2082) (by decide +kernel)⟩
theorem lw_p103 : lw_okq (⟨"FewRectanglesModel", "isMet", "(I)Z"⟩, 51) := ⟨⟨by decide +kernel, by decide +kernel⟩, List.mem_of_getElem? (i := 1474) (by decide +kernel), List.mem_of_getElem? (i := 2093) (by decide +kernel), List.mem_of_getElem? (i := 2094) (by decide +kernel)⟩
theorem lw_p104 : lw_okq (⟨"FewRectanglesModel", "readsLine", "()V"⟩, 51) := ⟨⟨by decide +kernel, by decide +kernel⟩, List.mem_of_getElem? (i := 1474) (by decide +kernel), List.mem_of_getElem? (i := 2106) (by decide +kernel), List.mem_of_getElem? (i := 2107) (by decide +kernel)⟩
theorem lw_p105 : lw_okq (⟨"FewRectanglesModel", "readsRepeat", "()V"⟩, 51) := ⟨⟨by decide +kernel, by decide +kernel⟩, List.mem_of_getElem? (i := 1474) (by decide +kernel), List.mem_of_getElem? (i := 2111) (by decide +kernel), List.mem_of_getElem? (i := 2112) (by decide +kernel)⟩
theorem lw_p106 : lw_okq (⟨"FewRectanglesModel", "readsProperty", "()V"⟩, 51) := ⟨⟨by decide +kernel, by decide +kernel⟩, List.mem_of_getElem? (i := 1474) (by decide +kernel), List.mem_of_getElem? (i := 2116) (by decide +kernel), List.mem_of_getElem? (i := 2117) (by decide +kernel)⟩
theorem lw_p107 : lw_okq (⟨"FewRectanglesModel", "readsWhat", "()V"⟩, 51) := ⟨⟨by decide +kernel, by decide +kernel⟩, List.mem_of_getElem? (i := 1474) (by decide +kernel), List.mem_of_getElem? (i := 2124) (by decide +kernel), List.mem_of_getElem? (i := 2125) (by decide +kernel)⟩
theorem lw_p108 : lw_okq (⟨"FewRectanglesModel", "readsArea", "()V"⟩, 51) := ⟨⟨by decide +kernel, by decide +kernel⟩, List.mem_of_getElem? (i := 1474) (by decide +kernel), List.mem_of_getElem? (i := 2129) (by decide +kernel), List.mem_of_getElem? (i := 2130) (by decide +kernel)⟩
theorem lw_p109 : lw_okq (⟨"FewRectanglesModel", "readsPlace", "()V"⟩, 51) := ⟨⟨by decide +kernel, by decide +kernel⟩, List.mem_of_getElem? (i := 1474) (by decide +kernel), List.mem_of_getElem? (i := 2133) (by decide +kernel), List.mem_of_getElem? (i := 2134) (by decide +kernel)⟩
theorem lw_p110 : lw_okq (⟨"FewRectanglesModel", "readsLinesWay", "()V"⟩, 51) := ⟨⟨by decide +kernel, by decide +kernel⟩, List.mem_of_getElem? (i := 1474) (by decide +kernel), List.mem_of_getElem? (i := 2139) (by decide +kernel), List.mem_of_getElem? (i := 2140) (by decide +kernel)⟩
theorem lw_p111 : lw_okq (⟨"FewRectanglesModel", "readsTwo", "(J)V"⟩, 51) := ⟨⟨by decide +kernel, by decide +kernel⟩, List.mem_of_getElem? (i := 1474) (by decide +kernel), List.mem_of_getElem? (i := 2144) (by decide +kernel), List.mem_of_getElem? (i := 2145) (by decide +kernel)⟩
def lw_privs_7 : List (MethodName × Nat) := [(⟨"FewRectanglesModel", "isRun", "(IIIII)Z"⟩, 51), (⟨"FewRectanglesModel", "again", "()V"⟩, 51), (⟨"FewRectanglesModel", "draws", "(I)I"⟩, 51), (⟨"FewRectanglesModel", "countShown", "(II)I"⟩, 51), (⟨"FewRectanglesModel", "within", "(IIII)I"⟩, 51), (⟨"FewRectanglesModel", "look", "(II)I"⟩, 51), (⟨"FewRectanglesModel", "refusal", "(II)I"⟩, 51), (⟨"FewRectanglesModel", "isMet", "(I)Z"⟩, 51), (⟨"FewRectanglesModel", "readsLine", "()V"⟩, 51), (⟨"FewRectanglesModel", "readsRepeat", "()V"⟩, 51), (⟨"FewRectanglesModel", "readsProperty", "()V"⟩, 51), (⟨"FewRectanglesModel", "readsWhat", "()V"⟩, 51), (⟨"FewRectanglesModel", "readsArea", "()V"⟩, 51), (⟨"FewRectanglesModel", "readsPlace", "()V"⟩, 51), (⟨"FewRectanglesModel", "readsLinesWay", "()V"⟩, 51), (⟨"FewRectanglesModel", "readsTwo", "(J)V"⟩, 51)]
theorem lw_r7 : ∀ q ∈ lw_privs_7, lw_okq q := List.forall_mem_cons.mpr ⟨lw_p96, List.forall_mem_cons.mpr ⟨lw_p97, List.forall_mem_cons.mpr ⟨lw_p98, List.forall_mem_cons.mpr ⟨lw_p99, List.forall_mem_cons.mpr ⟨lw_p100, List.forall_mem_cons.mpr ⟨lw_p101, List.forall_mem_cons.mpr ⟨lw_p102, List.forall_mem_cons.mpr ⟨lw_p103, List.forall_mem_cons.mpr ⟨lw_p104, List.forall_mem_cons.mpr ⟨lw_p105, List.forall_mem_cons.mpr ⟨lw_p106, List.forall_mem_cons.mpr ⟨lw_p107, List.forall_mem_cons.mpr ⟨lw_p108, List.forall_mem_cons.mpr ⟨lw_p109, List.forall_mem_cons.mpr ⟨lw_p110, List.forall_mem_cons.mpr ⟨lw_p111, fun _ h => absurd h List.not_mem_nil⟩⟩⟩⟩⟩⟩⟩⟩⟩⟩⟩⟩⟩⟩⟩⟩
theorem lw_p112 : lw_okq (⟨"FewRectanglesModel", "readsMove", "()V"⟩, 51) := ⟨⟨by decide +kernel, by decide +kernel⟩, List.mem_of_getElem? (i := 1474) (by decide +kernel), List.mem_of_getElem? (i := 2155) (by decide +kernel), List.mem_of_getElem? (i := 2156) (by decide +kernel)⟩
theorem lw_p113 : lw_okq (⟨"FewRectanglesModel", "ran", "(I)I"⟩, 51) := ⟨⟨by decide +kernel, by decide +kernel⟩, List.mem_of_getElem? (i := 1474) (by decide +kernel), List.mem_of_getElem? (i := 2163) (by decide +kernel), List.mem_of_getElem? (i := 2164) (by decide +kernel)⟩
theorem lw_p114 : lw_okq (⟨"FewRectanglesModel", "runs", "(II)V"⟩, 51) := ⟨⟨by decide +kernel, by decide +kernel⟩, List.mem_of_getElem? (i := 1474) (by decide +kernel), List.mem_of_getElem? (i := 2167) (by decide +kernel), List.mem_of_getElem? (i := 2168) (by decide +kernel)⟩
theorem lw_p115 : lw_okq (⟨"FewRectanglesModel", "cellOf", "(I)I"⟩, 51) := ⟨⟨by decide +kernel, by decide +kernel⟩, List.mem_of_getElem? (i := 1474) (by decide +kernel), List.mem_of_getElem? (i := 2171) (by decide +kernel), List.mem_of_getElem? (i := 2172) (by decide +kernel)⟩
theorem lw_p116 : lw_okq (⟨"FewRectanglesModel", "does", "(I)I"⟩, 51) := ⟨⟨by decide +kernel, by decide +kernel⟩, List.mem_of_getElem? (i := 1474) (by decide +kernel), List.mem_of_getElem? (i := 2175) (by decide +kernel), List.mem_of_getElem? (i := 2176) (by decide +kernel)⟩
def lw_privs_8 : List (MethodName × Nat) := [(⟨"FewRectanglesModel", "readsMove", "()V"⟩, 51), (⟨"FewRectanglesModel", "ran", "(I)I"⟩, 51), (⟨"FewRectanglesModel", "runs", "(II)V"⟩, 51), (⟨"FewRectanglesModel", "cellOf", "(I)I"⟩, 51), (⟨"FewRectanglesModel", "does", "(I)I"⟩, 51)]
theorem lw_r8 : ∀ q ∈ lw_privs_8, lw_okq q := List.forall_mem_cons.mpr ⟨lw_p112, List.forall_mem_cons.mpr ⟨lw_p113, List.forall_mem_cons.mpr ⟨lw_p114, List.forall_mem_cons.mpr ⟨lw_p115, List.forall_mem_cons.mpr ⟨lw_p116, fun _ h => absurd h List.not_mem_nil⟩⟩⟩⟩⟩
def lw_privs : List (MethodName × Nat) := lw_privs_1 ++ (lw_privs_2 ++ (lw_privs_3 ++ (lw_privs_4 ++ (lw_privs_5 ++ (lw_privs_6 ++ (lw_privs_7 ++ (lw_privs_8)))))))
def lw_tbl : List Cond := k2_sels lw_privs ++ tables_1
theorem lw_privs_ok : ∀ q ∈ lw_privs, lw_okq q := by
  show ∀ q ∈ lw_privs_1 ++ (lw_privs_2 ++ (lw_privs_3 ++ (lw_privs_4 ++ (lw_privs_5 ++ (lw_privs_6 ++ (lw_privs_7 ++ (lw_privs_8))))))), lw_okq q
  exact List.forall_mem_append.mpr ⟨lw_r1, List.forall_mem_append.mpr ⟨lw_r2, List.forall_mem_append.mpr ⟨lw_r3, List.forall_mem_append.mpr ⟨lw_r4, List.forall_mem_append.mpr ⟨lw_r5, List.forall_mem_append.mpr ⟨lw_r6, List.forall_mem_append.mpr ⟨lw_r7, lw_r8⟩⟩⟩⟩⟩⟩⟩
-- ===== end of PART A; then your names; then what follows =====
end
section
/-! The mini machine: a small evaluator of bytecode over a plain heap (address, slot ↦ Int), forward code by structure, loops by a limit. -/
abbrev mm_V : Type := Nat × Int
abbrev mm_H : Type := Int → Int → Int
abbrev mm_W : Type := (Int → Nat × Int) × Int × Int
abbrev mm_R : Type := mm_V × mm_W × mm_H
abbrev mm_X : Type := Nat × List mm_V × mm_W × mm_H
abbrev mm_O : Type := Nat → List mm_V → mm_W → mm_H → Option mm_R
abbrev mm_L : Type := Nat → List mm_V → mm_W → mm_H → Option (mm_R ⊕ mm_X)
abbrev mm_T : Type := Nat × Nat × List Nat × List Nat
/-! heights, so that the evaluator's own branches are unfolded ahead of the program's -/
def mm_t0 : Nat := 0
def mm_t1 : Nat := mm_t0
def mm_t2 : Nat := mm_t1
def mm_t3 : Nat := mm_t2
def mm_t4 : Nat := mm_t3
def mm_t5 : Nat := mm_t4
def mm_t6 : Nat := mm_t5
def mm_t7 : Nat := mm_t6
def mm_t8 : Nat := mm_t7
def mm_t9 : Nat := mm_t8
def mm_t10 : Nat := mm_t9
def mm_t11 : Nat := mm_t10
def mm_t12 : Nat := mm_t11
def mm_t13 : Nat := mm_t12
def mm_t14 : Nat := mm_t13
def mm_t15 : Nat := mm_t14
def mm_t16 : Nat := mm_t15
def mm_t17 : Nat := mm_t16
def mm_t18 : Nat := mm_t17
def mm_t19 : Nat := mm_t18
def mm_t20 : Nat := mm_t19
def mm_t21 : Nat := mm_t20
def mm_t22 : Nat := mm_t21
def mm_t23 : Nat := mm_t22
def mm_t24 : Nat := mm_t23
def mm_t25 : Nat := mm_t24
def mm_t26 : Nat := mm_t25
def mm_t27 : Nat := mm_t26
def mm_t28 : Nat := mm_t27
def mm_t29 : Nat := mm_t28
def mm_t30 : Nat := mm_t29
def mm_t31 : Nat := mm_t30
def mm_t32 : Nat := mm_t31
def mm_t33 : Nat := mm_t32
def mm_t34 : Nat := mm_t33
def mm_t35 : Nat := mm_t34
def mm_t36 : Nat := mm_t35
def mm_t37 : Nat := mm_t36
def mm_t38 : Nat := mm_t37
def mm_t39 : Nat := mm_t38
def mm_t40 : Nat := mm_t39
def mm_if {α : Type} (b : Bool) (x y : α) : α := let _t := mm_t40; match b with
  | true => x
  | false => y
/-- 32 bits -/
def mI (z : Int) : Int := Int.bmod z 4294967296
/-- 64 bits -/
def mJ (z : Int) : Int := Int.bmod z 18446744073709551616
/-- 16 bits -/
def mS (z : Int) : Int := Int.bmod z 65536
/-- a char -/
def mC6 (z : Int) : Int := Int.emod z 65536
def mAnd (x y : Int) : Int := (Int32.ofInt x &&& Int32.ofInt y).toInt
def mOr (x y : Int) : Int := (Int32.ofInt x ||| Int32.ofInt y).toInt
def mShl (x y : Int) : Int := (Int32.ofInt x <<< (Int32.ofInt y &&& 31)).toInt
def mShr (x y : Int) : Int := (Int32.ofInt x >>> (Int32.ofInt y &&& 31)).toInt
def mUsh (x y : Int) : Int := ((Int32.ofInt x).toUInt32 >>> ((Int32.ofInt y).toUInt32 &&& Int32.toUInt32 31)).toInt32.toInt
def mXor (x y : Int) : Int := (Int32.ofInt x ^^^ Int32.ofInt y).toInt
/-- 8 bits -/
def mB (z : Int) : Int := Int.bmod z 256
def mMax (x y : Int) : Int := if x ≤ y then y else x
def mMin (x y : Int) : Int := if x ≤ y then x else y
def mCmp (x y : Int) : Int := if x < y then -1 else if x = y then 0 else 1
/-- a write -/
def mUp (h : mm_H) (a i z : Int) : mm_H := fun b j => if b = a ∧ j = i then z else h b j
/-- a stretch copied -/
def mCpy (h : mm_H) (s sp d dp n : Int) : mm_H := fun b j => if b = d ∧ dp ≤ j ∧ j < dp + n then h s (sp + (j - dp)) else h b j
/-- a new cell, zeroed -/
def mZero (h : mm_H) (a : Int) : mm_H := fun b j => if b = a then 0 else h b j
def mNew (w : mm_W) (k : Nat) (n : Int) : mm_W := (fun b => if b = w.2.1 then (k, n) else w.1 b, w.2.1 + 1, w.2.2 + n)
def mLt {α : Type} (x y : Int) (a b : α) : α := if x < y then a else b
def mLe {α : Type} (x y : Int) (a b : α) : α := if x ≤ y then a else b
def mEq {α : Type} (x y : Int) (a b : α) : α := if x = y then a else b
/-- a field of an object of the class c -/
def mF {α : Type} (w : mm_W) (a : Int) (c : Nat) (bot k : α) : α := if (w.1 a).1 = c then k else bot
/-- a place of an array of the kind c -/
def mA {α : Type} (w : mm_W) (a i : Int) (c : Nat) (bot k : α) : α := if (w.1 a).1 = c ∧ 0 ≤ i ∧ i < (w.1 a).2 then k else bot
/-- a place of an array of ints that is written -/
def mAw {α : Type} (w : mm_W) (a i : Int) (bot k : α) : α := if (w.1 a).1 = 50 ∧ 0 ≤ i ∧ i < (w.1 a).2 ∧ 0 < a then k else bot
/-- a place of an array of booleans or bytes -/
def mAb {α : Type} (w : mm_W) (a i : Int) (bot k : α) : α := if ((w.1 a).1 = 52 ∨ (w.1 a).1 = 54) ∧ 0 ≤ i ∧ i < (w.1 a).2 then k else bot
/-- a divisor -/
def mD {α : Type} (y : Int) (bot k : α) : α := if y = 0 then bot else k
/-- an array of references -/
def mAr {α : Type} (w : mm_W) (a i : Int) (bot k : α) : α := if 100 ≤ (w.1 a).1 ∧ 0 ≤ i ∧ i < (w.1 a).2 then k else bot
def mAs {α : Type} (w : mm_W) (a i v : Int) (bot k : α) : α := if 100 ≤ (w.1 a).1 ∧ 0 ≤ i ∧ i < (w.1 a).2 ∧ 0 < v ∧ (w.1 v).1 + 100 = (w.1 a).1 then k else bot
/-- any array -/
def mN {α : Type} (w : mm_W) (a : Int) (bot k : α) : α := if 50 ≤ (w.1 a).1 then k else bot
/-- a length that can be made -/
def mM {α : Type} (n : Int) (bot k : α) : α := if 0 ≤ n ∧ n ≤ 1000000 then k else bot
def mZ {α : Type} (x : Int) (bot k : α) : α := if x = 0 ∨ x = 1 then k else bot
/-- a char, a byte that is answered -/
def mRc {α : Type} (x : Int) (bot k : α) : α := if 0 ≤ x ∧ x < 65536 then k else bot
def mRb {α : Type} (x : Int) (bot k : α) : α := if -128 ≤ x ∧ x < 128 then k else bot
def mCy {α : Type} (w : mm_W) (s sp d dp n : Int) (bot k : α) : α := if (w.1 s).1 = 50 ∧ (w.1 d).1 = 50 ∧ 0 < s ∧ 0 < d ∧ 0 ≤ sp ∧ 0 ≤ dp ∧ 0 ≤ n ∧ sp + n ≤ (w.1 s).2 ∧ dp + n ≤ (w.1 d).2 then k else bot
/-- a call that came back with a value of the tag t -/
def mC {α : Type} (r : Option mm_R) (t : Nat) (bot : α) (k : Int → mm_W → mm_H → α) : α := match r with
  | none => bot
  | some r => if r.1.1 = t then k r.1.2 r.2.1 r.2.2 else bot
/-- a loop that ended -/
def mK {α : Type} (r : Option (mm_R ⊕ mm_X)) (bot : α) (ρ : mm_R → α) (k : Nat → List mm_V → mm_W → mm_H → α) : α := match r with
  | none => bot
  | some (.inl r) => ρ r
  | some (.inr x) => k x.1 x.2.1 x.2.2.1 x.2.2.2
/-- local number i, its payload -/
def mP (i : Nat) (L : List mm_V) : Int := (L.getD i (9, 0)).2
def mm_nrm : List Nat → Nat → List mm_V → List mm_V
  | [], _, _ => []
  | t :: ts, i, L => (mm_if (Nat.beq t 9) (9, 0) (mm_if (Nat.beq t 8) (8, 0) (t, mP i L))) :: mm_nrm ts (i + 1) L
def mm_get : Nat → List mm_V → mm_V
  | _, [] => (9, 0)
  | 0, v :: _ => v
  | n + 1, _ :: L => mm_get n L
/-- the locals bear the loop's tags -/
def mm_okt : List Nat → Nat → List mm_V → Bool
  | [], _, _ => true
  | t :: ts, i, L => (Nat.beq t 9 || (Nat.beq t 8 || Nat.beq (mm_get i L).1 t)) && mm_okt ts (i + 1) L
def mm_put : Nat → mm_V → List mm_V → List mm_V
  | _, _, [] => []
  | 0, v, _ :: L => v :: L
  | n + 1, v, x :: L => x :: mm_put n v L
/-- not a long -/
def mm_nl : mm_V → mm_V
  | (1, _) => (9, 0)
  | x => x
/-- a store; a long just ahead of the place is cut -/
def mm_set : Nat → mm_V → List mm_V → List mm_V
  | _, _, [] => []
  | 0, v, _ :: L => v :: L
  | 1, _, [x] => [mm_nl x]
  | 1, v, x :: _ :: L => mm_nl x :: v :: L
  | n + 2, v, x :: L => x :: mm_set (n + 1) v L
def mm_split : Nat → List mm_V → List mm_V → Option (List mm_V × List mm_V)
  | 0, acc, st => some (acc, st)
  | _ + 1, _, [] => none
  | n + 1, acc, v :: st => mm_split n (v :: acc) st
/-- how much of the operand stack lies below a call -/
def mm_cats : List mm_V → Nat
  | [] => 0
  | v :: st => Nat.add (mm_if (Nat.beq v.1 1) 2 1) (mm_cats st)
def mm_ex {α : Type} (t : Nat) (bot : α) (k : Nat → α) : List Nat → α
  | [] => bot
  | e :: es => if t = e then k e else mm_ex t bot k es
def mm_sw {α : Type} (x : Int) (dflt : α) (k : Int → α) : List (Int × Int) → α
  | [] => dflt
  | q :: qs => mEq x q.1 (k q.2) (mm_sw x dflt k qs)
def mm_loc : List mm_V → List mm_V
  | [] => []
  | (1, x) :: vs => (1, x) :: (8, 0) :: mm_loc vs
  | v :: vs => v :: mm_loc vs
def mm_pad : Nat → List mm_V → List mm_V
  | 0, _ => []
  | n + 1, [] => (9, 0) :: mm_pad n []
  | n + 1, v :: vs => v :: mm_pad n vs
def mm_go {α : Type} (O : mm_O) (lp : mm_L) (lt : Nat → List Nat × List Nat) (hi : Nat) (bot : α) (ρ : mm_R → α) (kj : Nat → List mm_V → List mm_V → mm_W → mm_H → α) : List (Nat × Instr) → Nat → List mm_V → List mm_V → mm_W → mm_H → α
  | [], _, _, _, _, _ => bot
  | (pc, i) :: tl, sk, L, st, w, h =>
    mm_if (Nat.blt pc sk) (mm_go O lp lt hi bot ρ kj tl sk L st w h) (mm_if (Nat.blt 0 sk && Nat.blt sk pc) bot (mm_if (Nat.ble hi pc) (kj pc L st w h) (
      match i, st with
      | .iconst n, st => mm_go O lp lt hi bot ρ kj tl 0 L ((0, n) :: st) w h
      | .jsr n, st => mm_go O lp lt hi bot ρ kj tl 0 L ((1, n) :: st) w h
      | .sipush n, st => mm_go O lp lt hi bot ρ kj tl 0 L ((2, n) :: st) w h
      | .iload n, st => (match mm_get n L with
        | (0, x) => mm_go O lp lt hi bot ρ kj tl 0 L ((0, x) :: st) w h
        | _ => bot)
      | .lload n, st => (match mm_get n L with
        | (1, x) => mm_go O lp lt hi bot ρ kj tl 0 L ((1, x) :: st) w h
        | _ => bot)
      | .aload n, st => (match mm_get n L with
        | (2, x) => mm_go O lp lt hi bot ρ kj tl 0 L ((2, x) :: st) w h
        | (3, x) => mm_go O lp lt hi bot ρ kj tl 0 L ((3, x) :: st) w h
        | _ => bot)
      | .istore n, (0, x) :: st => mm_go O lp lt hi bot ρ kj tl 0 (mm_set n (0, x) L) st w h
      | .astore n, (2, x) :: st => mm_go O lp lt hi bot ρ kj tl 0 (mm_set n (2, x) L) st w h
      | .lstore n, (1, x) :: st => mm_go O lp lt hi bot ρ kj tl 0 (mm_put (n + 1) (8, 0) (mm_set n (1, x) L)) st w h
      | .iinc n k, st => (match mm_get n L with
        | (0, x) => mm_go O lp lt hi bot ρ kj tl 0 (mm_put n (0, mI (x + k)) L) st w h
        | _ => bot)
      | .iadd, (0, y) :: (0, x) :: st => mm_go O lp lt hi bot ρ kj tl 0 L ((0, mI (x + y)) :: st) w h
      | .isub, (0, y) :: (0, x) :: st => mm_go O lp lt hi bot ρ kj tl 0 L ((0, mI (x - y)) :: st) w h
      | .imul, (0, y) :: (0, x) :: st => mm_go O lp lt hi bot ρ kj tl 0 L ((0, mI (x * y)) :: st) w h
      | .idiv, (0, y) :: (0, x) :: st => mD y bot (mm_go O lp lt hi bot ρ kj tl 0 L ((0, mI (Int.tdiv x y)) :: st) w h)
      | .irem, (0, y) :: (0, x) :: st => mD y bot (mm_go O lp lt hi bot ρ kj tl 0 L ((0, Int.tmod x y) :: st) w h)
      | .ineg, (0, x) :: st => mm_go O lp lt hi bot ρ kj tl 0 L ((0, mI (-x)) :: st) w h
      | .iand, (0, y) :: (0, x) :: st => mm_go O lp lt hi bot ρ kj tl 0 L ((0, mAnd x y) :: st) w h
      | .ior, (0, y) :: (0, x) :: st => mm_go O lp lt hi bot ρ kj tl 0 L ((0, mOr x y) :: st) w h
      | .ixor, (0, y) :: (0, x) :: st => mm_go O lp lt hi bot ρ kj tl 0 L ((0, mXor x y) :: st) w h
      | .ishl, (0, y) :: (0, x) :: st => mm_go O lp lt hi bot ρ kj tl 0 L ((0, mShl x y) :: st) w h
      | .ishr, (0, y) :: (0, x) :: st => mm_go O lp lt hi bot ρ kj tl 0 L ((0, mShr x y) :: st) w h
      | .iushr, (0, y) :: (0, x) :: st => mm_go O lp lt hi bot ρ kj tl 0 L ((0, mUsh x y) :: st) w h
      | .i2l, (0, x) :: st => mm_go O lp lt hi bot ρ kj tl 0 L ((1, x) :: st) w h
      | .l2i, (1, x) :: st => mm_go O lp lt hi bot ρ kj tl 0 L ((0, mI x) :: st) w h
      | .i2s, (0, x) :: st => mm_go O lp lt hi bot ρ kj tl 0 L ((0, mS x) :: st) w h
      | .i2b, (0, x) :: st => mm_go O lp lt hi bot ρ kj tl 0 L ((0, mB x) :: st) w h
      | .i2c, (0, x) :: st => mm_go O lp lt hi bot ρ kj tl 0 L ((0, mC6 x) :: st) w h
      | .ladd, (1, y) :: (1, x) :: st => mm_go O lp lt hi bot ρ kj tl 0 L ((1, mJ (x + y)) :: st) w h
      | .lsub, (1, y) :: (1, x) :: st => mm_go O lp lt hi bot ρ kj tl 0 L ((1, mJ (x - y)) :: st) w h
      | .lmul, (1, y) :: (1, x) :: st => mm_go O lp lt hi bot ρ kj tl 0 L ((1, mJ (x * y)) :: st) w h
      | .lneg, (1, x) :: st => mm_go O lp lt hi bot ρ kj tl 0 L ((1, mJ (-x)) :: st) w h
      | .lcmp, (1, y) :: (1, x) :: st => mm_go O lp lt hi bot ρ kj tl 0 L ((0, mCmp x y) :: st) w h
      | .dadd, (0, y) :: (0, x) :: st => mm_if (Nat.ble (mm_cats st) 24) (mm_go O lp lt hi bot ρ kj tl 0 L ((0, mMax x y) :: st) w h) bot
      | .dsub, (0, y) :: (0, x) :: st => mm_if (Nat.ble (mm_cats st) 24) (mm_go O lp lt hi bot ρ kj tl 0 L ((0, mMin x y) :: st) w h) bot
      | .checkcast c, (2, a) :: st => mm_if (Nat.ble (mm_cats st) 24) (mF w a c bot (mm_go O lp lt hi bot ρ kj tl 0 L st w h)) bot
      | .dup, (2, x) :: st => mm_go O lp lt hi bot ρ kj tl 0 L ((2, x) :: (2, x) :: st) w h
      | .dup, (0, x) :: st => mm_go O lp lt hi bot ρ kj tl 0 L ((0, x) :: (0, x) :: st) w h
      | .dup2, (0, y) :: (2, x) :: st => mm_go O lp lt hi bot ρ kj tl 0 L ((0, y) :: (2, x) :: (0, y) :: (2, x) :: st) w h
      | .pop, (0, _) :: st => mm_go O lp lt hi bot ρ kj tl 0 L st w h
      | .pop, (3, _) :: st => mm_go O lp lt hi bot ρ kj tl 0 L st w h
      | .getstatic _, st => mm_go O lp lt hi bot ρ kj tl 0 L ((3, 0) :: st) w h
      | .pop, (2, _) :: st => mm_go O lp lt hi bot ρ kj tl 0 L st w h
      | .goto t, st => mm_if (Nat.blt pc t.toNat && Nat.blt t.toNat hi) (mm_go O lp lt hi bot ρ kj tl t.toNat L st w h) (kj t.toNat L st w h)
      | .if_icmp c t, (0, y) :: (0, x) :: st => (match c with
        | .lt => mLt x y (mm_if (Nat.blt pc t.toNat && Nat.blt t.toNat hi) (mm_go O lp lt hi bot ρ kj tl t.toNat L st w h) (kj t.toNat L st w h)) (mm_go O lp lt hi bot ρ kj tl 0 L st w h)
        | .le => mLe x y (mm_if (Nat.blt pc t.toNat && Nat.blt t.toNat hi) (mm_go O lp lt hi bot ρ kj tl t.toNat L st w h) (kj t.toNat L st w h)) (mm_go O lp lt hi bot ρ kj tl 0 L st w h)
        | .gt => mLt y x (mm_if (Nat.blt pc t.toNat && Nat.blt t.toNat hi) (mm_go O lp lt hi bot ρ kj tl t.toNat L st w h) (kj t.toNat L st w h)) (mm_go O lp lt hi bot ρ kj tl 0 L st w h)
        | .ge => mLe y x (mm_if (Nat.blt pc t.toNat && Nat.blt t.toNat hi) (mm_go O lp lt hi bot ρ kj tl t.toNat L st w h) (kj t.toNat L st w h)) (mm_go O lp lt hi bot ρ kj tl 0 L st w h)
        | .eq => mEq x y (mm_if (Nat.blt pc t.toNat && Nat.blt t.toNat hi) (mm_go O lp lt hi bot ρ kj tl t.toNat L st w h) (kj t.toNat L st w h)) (mm_go O lp lt hi bot ρ kj tl 0 L st w h)
        | .ne => mEq x y (mm_go O lp lt hi bot ρ kj tl 0 L st w h) (mm_if (Nat.blt pc t.toNat && Nat.blt t.toNat hi) (mm_go O lp lt hi bot ρ kj tl t.toNat L st w h) (kj t.toNat L st w h)))
      | .ifCond c t, (0, x) :: st => (match c with
        | .lt => mLt x 0 (mm_if (Nat.blt pc t.toNat && Nat.blt t.toNat hi) (mm_go O lp lt hi bot ρ kj tl t.toNat L st w h) (kj t.toNat L st w h)) (mm_go O lp lt hi bot ρ kj tl 0 L st w h)
        | .le => mLe x 0 (mm_if (Nat.blt pc t.toNat && Nat.blt t.toNat hi) (mm_go O lp lt hi bot ρ kj tl t.toNat L st w h) (kj t.toNat L st w h)) (mm_go O lp lt hi bot ρ kj tl 0 L st w h)
        | .gt => mLt 0 x (mm_if (Nat.blt pc t.toNat && Nat.blt t.toNat hi) (mm_go O lp lt hi bot ρ kj tl t.toNat L st w h) (kj t.toNat L st w h)) (mm_go O lp lt hi bot ρ kj tl 0 L st w h)
        | .ge => mLe 0 x (mm_if (Nat.blt pc t.toNat && Nat.blt t.toNat hi) (mm_go O lp lt hi bot ρ kj tl t.toNat L st w h) (kj t.toNat L st w h)) (mm_go O lp lt hi bot ρ kj tl 0 L st w h)
        | .eq => mEq x 0 (mm_if (Nat.blt pc t.toNat && Nat.blt t.toNat hi) (mm_go O lp lt hi bot ρ kj tl t.toNat L st w h) (kj t.toNat L st w h)) (mm_go O lp lt hi bot ρ kj tl 0 L st w h)
        | .ne => mEq x 0 (mm_go O lp lt hi bot ρ kj tl 0 L st w h) (mm_if (Nat.blt pc t.toNat && Nat.blt t.toNat hi) (mm_go O lp lt hi bot ρ kj tl t.toNat L st w h) (kj t.toNat L st w h)))
      | .ifnull t, (2, x) :: st => mEq x 0 (mm_if (Nat.blt pc t.toNat && Nat.blt t.toNat hi) (mm_go O lp lt hi bot ρ kj tl t.toNat L st w h) (kj t.toNat L st w h)) (mm_go O lp lt hi bot ρ kj tl 0 L st w h)
      | .ifnonnull t, (2, x) :: st => mEq x 0 (mm_go O lp lt hi bot ρ kj tl 0 L st w h) (mm_if (Nat.blt pc t.toNat && Nat.blt t.toNat hi) (mm_go O lp lt hi bot ρ kj tl t.toNat L st w h) (kj t.toNat L st w h))
      | .lookupswitch d ps, (0, x) :: st => mm_sw x (mm_if (Nat.blt pc d.toNat && Nat.blt d.toNat hi) (mm_go O lp lt hi bot ρ kj tl d.toNat L st w h) (kj d.toNat L st w h)) (fun t => mm_if (Nat.blt pc t.toNat && Nat.blt t.toNat hi) (mm_go O lp lt hi bot ρ kj tl t.toNat L st w h) (kj t.toNat L st w h)) ps.toList
      | .getfield e, (2, a) :: st => mF w a (Nat.div e 256) bot (mm_go O lp lt hi bot ρ kj tl 0 L ((Nat.mod e 4, h a (Int.ofNat (Nat.mod (Nat.div e 4) 64))) :: st) w h)
      | .putfield e, (t, z) :: (2, a) :: st => mm_if (Nat.beq t (Nat.mod e 4)) (mF w a (Nat.div e 256) bot (mm_if (Nat.beq t 2) (mLe 0 z (mm_go O lp lt hi bot ρ kj tl 0 L st w (mUp h a (Int.ofNat (Nat.mod (Nat.div e 4) 64)) z)) bot) (mm_go O lp lt hi bot ρ kj tl 0 L st w (mUp h a (Int.ofNat (Nat.mod (Nat.div e 4) 64)) z)))) bot
      | .putstatic e, (0, z) :: (2, a) :: st => mZ z bot (mF w a (Nat.div e 256) bot (mm_go O lp lt hi bot ρ kj tl 0 L st w (mUp h a (Int.ofNat (Nat.mod (Nat.div e 4) 64)) z)))
      | .iaload, (0, j) :: (2, a) :: st => mA w a j 50 bot (mm_go O lp lt hi bot ρ kj tl 0 L ((0, h a j) :: st) w h)
      | .saload, (0, j) :: (2, a) :: st => mA w a j 51 bot (mm_go O lp lt hi bot ρ kj tl 0 L ((0, h a j) :: st) w h)
      | .baload, (0, j) :: (2, a) :: st => mAb w a j bot (mm_go O lp lt hi bot ρ kj tl 0 L ((0, h a j) :: st) w h)
      | .laload, (0, j) :: (2, a) :: st => mA w a j 53 bot (mm_go O lp lt hi bot ρ kj tl 0 L ((1, h a j) :: st) w h)
      | .aaload, (0, j) :: (2, a) :: st => mAr w a j bot (mm_go O lp lt hi bot ρ kj tl 0 L ((2, h a j) :: st) w h)
      | .iastore, (0, x) :: (0, j) :: (2, a) :: st => mAw w a j bot (mm_go O lp lt hi bot ρ kj tl 0 L st w (mUp h a j x))
      | .sastore, (0, x) :: (0, j) :: (2, a) :: st => mA w a j 51 bot (mm_go O lp lt hi bot ρ kj tl 0 L st w (mUp h a j (mS x)))
      | .bastore, (0, x) :: (0, j) :: (2, a) :: st => mZ x bot (mA w a j 52 bot (mm_go O lp lt hi bot ρ kj tl 0 L st w (mUp h a j x)))
      | .lastore, (1, x) :: (0, j) :: (2, a) :: st => mA w a j 53 bot (mm_go O lp lt hi bot ρ kj tl 0 L st w (mUp h a j x))
      | .aastore, (2, x) :: (0, j) :: (2, a) :: st => mAs w a j x bot (mm_go O lp lt hi bot ρ kj tl 0 L st w (mUp h a j x))
      | .arraylength, (2, a) :: st => mN w a bot (mm_go O lp lt hi bot ρ kj tl 0 L ((0, (w.1 a).2) :: st) w h)
      | .new e, st => mm_go O lp lt hi bot ρ kj tl 0 L ((2, w.2.1) :: st) (mNew w (Nat.div e 64) (Int.ofNat (Nat.mod e 64))) (mZero h w.2.1)
      | .anewarray k, (0, n) :: st => mM n bot (mm_go O lp lt hi bot ρ kj tl 0 L ((2, w.2.1) :: st) (mNew w k n) (mZero h w.2.1))
      | .daload, [(0, n), (0, dp), (2, d), (0, sp), (2, s)] => mCy w s sp d dp n bot (mm_go O lp lt hi bot ρ kj tl 0 L [] w (mCpy h s sp d dp n))
      | .invokestatic e, st => (match mm_split (Nat.mod (Nat.div e 4096) 16) [] st with
        | none => bot
        | some (as, st) => mm_if (Nat.ble (mm_cats st) 24) (mC (O (Nat.div e 65536) as w h) (Nat.mod (Nat.div e 256) 16) bot (fun v w h => mm_if (Nat.beq (Nat.mod (Nat.div e 256) 16) 9) (mm_go O lp lt hi bot ρ kj tl 0 L st w h) (mm_go O lp lt hi bot ρ kj tl 0 L ((Nat.mod (Nat.div e 256) 16, v) :: st) w h))) bot)
      | .invokevirtual e, st => (match mm_split (Nat.mod (Nat.div e 4096) 16) [] st with
        | some ((2, a) :: as, st) => mm_if (Nat.ble (mm_cats st) 24) (mF w a (Nat.mod e 256) bot (mC (O (Nat.div e 65536) ((2, a) :: as) w h) (Nat.mod (Nat.div e 256) 16) bot (fun v w h => mm_if (Nat.beq (Nat.mod (Nat.div e 256) 16) 9) (mm_go O lp lt hi bot ρ kj tl 0 L st w h) (mm_go O lp lt hi bot ρ kj tl 0 L ((Nat.mod (Nat.div e 256) 16, v) :: st) w h)))) bot
        | _ => bot)
      | .ireturn, [(0, x)] => ρ ((0, x), w, h)
      | .freturn, [(0, x)] => mZ x bot (ρ ((0, x), w, h))
      | .dreturn, [(0, x)] => mRc x bot (ρ ((0, x), w, h))
      | .fneg, [(0, x)] => mRb x bot (ρ ((0, x), w, h))
      | .lreturn, [(1, x)] => ρ ((1, x), w, h)
      | .areturn, [(2, x)] => ρ ((2, x), w, h)
      | .return_, [] => ρ ((9, 0), w, h)
      | .jsr_w j, [] => mm_if (mm_okt (lt j.toNat).1 0 L) (mK (lp j.toNat (mm_nrm (lt j.toNat).1 0 L) w h) bot ρ (fun t L w h => mm_ex t bot (fun e => mm_if (Nat.blt pc e && Nat.blt e hi) (mm_go O lp lt hi bot ρ kj tl e (mm_nrm (lt j.toNat).1 0 L) [] w h) (kj e (mm_nrm (lt j.toNat).1 0 L) [] w h)) (lt j.toNat).2)) bot
      | _, _ => bot)))
end
section
/-! Loops by a limit, the mini program by depth. -/
/-- the limit of a growing row -/
noncomputable def mm_lim {β : Type} (f : Nat → Option β) : Option β := @dite _ (∃ n, (f n).isSome = true) (Classical.propDecidable _) (fun h => f (Classical.choose h)) (fun _ => none)
theorem mm_lim_eq {β : Type} {f : Nat → Option β} (hm : ∀ n x, f n = some x → f (n + 1) = some x) {n : Nat} {x : β} (h : f n = some x) : mm_lim f = some x := by
  have up : ∀ k n x, f n = some x → f (n + k) = some x := by
    intro k
    induction k with
    | zero => intro n x h; exact h
    | succ k ih => intro n x h; exact hm _ _ (ih n x h)
  have hex : ∃ n, (f n).isSome = true := ⟨n, by rw [h]; rfl⟩
  unfold mm_lim
  rw [dif_pos hex]
  have hc := Classical.choose_spec hex
  generalize Classical.choose hex = q at hc ⊢
  cases hq : f q with
  | none => rw [hq] at hc; cases hc
  | some y =>
    have h1 := up q n x h
    have h2 := up n q y hq
    rw [Nat.add_comm] at h2
    rw [h1] at h2
    exact h2.symm
theorem mm_lim_some {β : Type} {f : Nat → Option β} {x : β} (h : mm_lim f = some x) : ∃ n, f n = some x := by
  unfold mm_lim at h
  by_cases hex : ∃ n, (f n).isSome = true
  · rw [dif_pos hex] at h
    exact ⟨_, h⟩
  · rw [dif_neg hex] at h
    cases h
theorem mm_lim_succ {β : Type} {f g : Nat → Option β} (hm : ∀ n x, f n = some x → f (n + 1) = some x) (h0 : f 0 = none) (hs : ∀ n, f (n + 1) = g n) : mm_lim f = mm_lim g := by
  have hg : ∀ n x, g n = some x → g (n + 1) = some x := fun n x h => by rw [← hs] at h ⊢; exact hm _ _ h
  cases hf : mm_lim f with
  | some x =>
    obtain ⟨n, hn⟩ := mm_lim_some hf
    cases n with
    | zero => rw [h0] at hn; cases hn
    | succ n => rw [hs] at hn; exact (mm_lim_eq hg hn).symm
  | none =>
    cases hq : mm_lim g with
    | none => rfl
    | some x =>
      obtain ⟨n, hn⟩ := mm_lim_some hq
      rw [← hs] at hn
      rw [mm_lim_eq hm hn] at hf
      cases hf
theorem mm_lim_const {β : Type} (x : Option β) : mm_lim (fun _ => x) = x := by
  cases x with
  | some y => exact mm_lim_eq (f := fun _ => some y) (fun _ _ h => h) (n := 0) rfl
  | none =>
    cases h : mm_lim (fun _ => (none : Option β)) with
    | none => rfl
    | some y => obtain ⟨n, hn⟩ := mm_lim_some h; cases hn
abbrev mm_Y : Type := mm_R ⊕ (Nat × List mm_V × List mm_V × mm_W × mm_H)
/-- what a region leaves behind goes on in α -/
def mm_bind {α : Type} (bot : α) (ρ : mm_R → α) (kj : Nat → List mm_V → List mm_V → mm_W → mm_H → α) (r : Option mm_Y) : α := match r with
  | none => bot
  | some (.inl r) => ρ r
  | some (.inr x) => kj x.1 x.2.1 x.2.2.1 x.2.2.2.1 x.2.2.2.2
def mm_it (body : List mm_V → mm_W → mm_H → Option mm_Y) (hd : Nat) (tags : List Nat) : Nat → List mm_V → mm_W → mm_H → Option (mm_R ⊕ mm_X)
  | 0, _, _, _ => none
  | n + 1, L, w, h => mm_bind none (fun r => some (.inl r)) (fun t L st w h => match st with
    | [] => mm_if (mm_okt tags 0 L) (mm_if (Nat.beq t hd) (mm_it body hd tags n (mm_nrm tags 0 L) w h) (some (.inr (t, mm_nrm tags 0 L, w, h)))) none
    | _ => none) (body L w h)
def mm_from (j : Nat) : List (Nat × Instr) → List (Nat × Instr)
  | [] => []
  | (pc, i) :: tl => match i with
    | .jsr_w k => mm_if (Nat.beq k.toNat j) tl (mm_from j tl)
    | _ => mm_from j tl
def mm_nth {α : Type} (d : α) : Nat → List α → α
  | _, [] => d
  | 0, x :: _ => x
  | n + 1, _ :: l => mm_nth d n l
/-- the loop's row: its head, its end, its tags, its exits -/
def mm_row (lt : List mm_T) (j : Nat) : mm_T := mm_nth (0, 0, [], []) j lt
def mm_lt2 (lt : List mm_T) (j : Nat) : List Nat × List Nat := ((mm_row lt j).2.2.1, (mm_row lt j).2.2.2)
noncomputable def mm_LP (O : mm_O) (lt : List mm_T) (code : List (Nat × Instr)) : Nat → mm_L
  | 0 => fun _ _ _ _ => none
  | d + 1 => fun j L w h => mm_lim (fun n => mm_it (fun L w h => mm_go (α := Option mm_Y) O (mm_LP O lt code d) (mm_lt2 lt) (mm_row lt j).2.1 none (fun r => some (.inl r)) (fun t L st w h => some (.inr (t, L, st, w, h))) (mm_from j code) 0 L [] w h) (mm_row lt j).1 (mm_row lt j).2.2.1 n L w h)
theorem mm_bind_K {α : Type} (bot : α) (ρ : mm_R → α) (kj : Nat → List mm_V → List mm_V → mm_W → mm_H → α) (r : Option (mm_R ⊕ mm_X)) (k : Nat → List mm_V → mm_W → mm_H → Option mm_Y) : mm_bind bot ρ kj (mK r none (fun r => some (.inl r)) k) = mK r bot ρ (fun t L w h => mm_bind bot ρ kj (k t L w h)) := by
  cases r with
  | none => rfl
  | some r => cases r <;> rfl
theorem mm_bind_C {α : Type} (bot : α) (ρ : mm_R → α) (kj : Nat → List mm_V → List mm_V → mm_W → mm_H → α) (r : Option mm_R) (t : Nat) (k : Int → mm_W → mm_H → Option mm_Y) : mm_bind bot ρ kj (mC r t none k) = mC r t bot (fun v w h => mm_bind bot ρ kj (k v w h)) := by
  cases r with
  | none => rfl
  | some r => unfold mC; dsimp only; split <;> rfl
theorem mm_bind_if {α : Type} (bot : α) (ρ : mm_R → α) (kj : Nat → List mm_V → List mm_V → mm_W → mm_H → α) (c : Prop) [Decidable c] (x y : Option mm_Y) : mm_bind bot ρ kj (if c then x else y) = if c then mm_bind bot ρ kj x else mm_bind bot ρ kj y := by
  split <;> rfl
theorem mm_bind_cond {α : Type} (bot : α) (ρ : mm_R → α) (kj : Nat → List mm_V → List mm_V → mm_W → mm_H → α) (c : Bool) (x y : Option mm_Y) : mm_bind bot ρ kj (mm_if c x y) = mm_if c (mm_bind bot ρ kj x) (mm_bind bot ρ kj y) := by
  cases c <;> rfl
theorem mm_bind_sw {α : Type} (bot : α) (ρ : mm_R → α) (kj : Nat → List mm_V → List mm_V → mm_W → mm_H → α) (x : Int) (d : Option mm_Y) (k : Int → Option mm_Y) : ∀ ps, mm_bind bot ρ kj (mm_sw x d k ps) = mm_sw x (mm_bind bot ρ kj d) (fun t => mm_bind bot ρ kj (k t)) ps
  | [] => rfl
  | q :: ps => by
    unfold mm_sw mEq
    rw [mm_bind_if, mm_bind_sw bot ρ kj x d k ps]
theorem mm_bind_ex {α : Type} (bot : α) (ρ : mm_R → α) (kj : Nat → List mm_V → List mm_V → mm_W → mm_H → α) (t : Nat) (k : Nat → Option mm_Y) : ∀ es, mm_bind bot ρ kj (mm_ex t none k es) = mm_ex t bot (fun t => mm_bind bot ρ kj (k t)) es
  | [] => rfl
  | q :: es => by
    unfold mm_ex
    rw [mm_bind_if, mm_bind_ex bot ρ kj t k es]
theorem mm_bind_none {α : Type} (bot : α) (ρ : mm_R → α) (kj : Nat → List mm_V → List mm_V → mm_W → mm_H → α) : mm_bind bot ρ kj none = bot := rfl
theorem mm_bind_inl {α : Type} (bot : α) (ρ : mm_R → α) (kj : Nat → List mm_V → List mm_V → mm_W → mm_H → α) (r : mm_R) : mm_bind bot ρ kj (some (.inl r)) = ρ r := rfl
theorem mm_bind_inr {α : Type} (bot : α) (ρ : mm_R → α) (kj : Nat → List mm_V → List mm_V → mm_W → mm_H → α) (t : Nat) (L st : List mm_V) (w : mm_W) (h : mm_H) : mm_bind bot ρ kj (some (.inr (t, L, st, w, h))) = kj t L st w h := rfl
set_option maxHeartbeats 4000000 in
theorem mm_bind_go {α : Type} (bot : α) (ρ : mm_R → α) (kj : Nat → List mm_V → List mm_V → mm_W → mm_H → α) (O : mm_O) (lp : mm_L) (lt : Nat → List Nat × List Nat) (hi : Nat) : ∀ (code : List (Nat × Instr)) (sk : Nat) (L st : List mm_V) (w : mm_W) (h : mm_H),
    mm_bind bot ρ kj (mm_go O lp lt hi none (fun r => some (.inl r)) (fun t L st w h => some (.inr (t, L, st, w, h))) code sk L st w h) = mm_go O lp lt hi bot ρ kj code sk L st w h := by
  intro code
  induction code with
  | nil => intros; rfl
  | cons e tl ih =>
    intro sk L st w h
    obtain ⟨pc, i⟩ := e
    rw [mm_go.eq_def, mm_go.eq_def]
    dsimp only
    rw [mm_bind_cond, mm_bind_cond, mm_bind_cond, ih, mm_bind_inr, mm_bind_none]
    congr 3
    split <;> (try split) <;> simp only [mLt, mLe, mEq, mF, mA, mAw, mAb, mAr, mAs, mD, mN, mM, mZ, mRc, mRb, mCy, mm_bind_if, mm_bind_cond, mm_bind_K, mm_bind_C, mm_bind_sw, mm_bind_ex, ih, mm_bind_none, mm_bind_inl, mm_bind_inr]
theorem mm_it_mono (body : List mm_V → mm_W → mm_H → Option mm_Y) (hd : Nat) (tags : List Nat) : ∀ n L w h x, mm_it body hd tags n L w h = some x → mm_it body hd tags (n + 1) L w h = some x := by
  intro n
  induction n with
  | zero => intro L w h x e; cases e
  | succ n ih =>
    intro L w h x e
    rw [mm_it] at e ⊢
    cases hb : body L w h with
    | none => rw [hb] at e; cases e
    | some y =>
      rw [hb] at e
      cases y with
      | inl r => exact e
      | inr q =>
        obtain ⟨t, L', st, w', h'⟩ := q
        simp only [mm_bind] at e ⊢
        cases st with
        | cons _ _ => cases e
        | nil =>
          dsimp only at e ⊢
          cases hk : mm_okt tags 0 L' with
          | false => rw [hk] at e; cases e
          | true =>
            rw [hk] at e
            cases ht : Nat.beq t hd with
            | false => rw [ht] at e; exact e
            | true => rw [ht] at e; exact ih _ _ _ _ e
theorem mm_lim_it (body : List mm_V → mm_W → mm_H → Option mm_Y) (hd : Nat) (tags : List Nat) (L : List mm_V) (w : mm_W) (h : mm_H) : mm_lim (fun n => mm_it body hd tags n L w h) = mm_bind none (fun r => some (.inl r)) (fun t L st w h => match st with
    | [] => mm_if (mm_okt tags 0 L) (mm_if (Nat.beq t hd) (mm_lim (fun n => mm_it body hd tags n (mm_nrm tags 0 L) w h)) (some (.inr (t, mm_nrm tags 0 L, w, h)))) none
    | _ => none) (body L w h) := by
  rw [mm_lim_succ (fun n x => mm_it_mono _ _ _ n L w h x) rfl (fun n => rfl)]
  simp only [mm_it]
  generalize body L w h = y
  cases y with
  | none => exact mm_lim_const none
  | some y =>
    cases y with
    | inl r => exact mm_lim_const _
    | inr q =>
      obtain ⟨t, L', st, w', h'⟩ := q
      simp only [mm_bind]
      cases st with
      | cons _ _ => exact mm_lim_const none
      | nil =>
        dsimp only
        cases hk : mm_okt tags 0 L' with
        | false => exact mm_lim_const none
        | true =>
          cases ht : Nat.beq t hd with
          | false => exact mm_lim_const _
          | true => rfl
theorem mm_LP_eq (O : mm_O) (lt : List mm_T) (code : List (Nat × Instr)) (d j : Nat) (L : List mm_V) (w : mm_W) (h : mm_H) : mm_LP O lt code (d + 1) j L w h = mm_go O (mm_LP O lt code d) (mm_lt2 lt) (mm_row lt j).2.1 none (fun r => some (.inl r)) (fun t L st w h => match st with
    | [] => mm_if (mm_okt (mm_row lt j).2.2.1 0 L) (mm_if (Nat.beq t (mm_row lt j).1) (mm_LP O lt code (d + 1) j (mm_nrm (mm_row lt j).2.2.1 0 L) w h) (some (.inr (t, mm_nrm (mm_row lt j).2.2.1 0 L, w, h)))) none
    | _ => none) (mm_from j code) 0 L [] w h := by
  rw [← mm_bind_go]
  exact mm_lim_it _ _ _ L w h
abbrev mm_M : Type := List (Nat × Instr) × Nat × List mm_T
def mm_look (tab : List (List mm_M)) (i : Nat) : mm_M := mm_nth ([], 0, []) (Nat.mod i 20) (mm_nth [] (Nat.div i 20) tab)
def mm_len : List mm_V → Nat
  | [] => 0
  | _ :: l => Nat.succ (mm_len l)
noncomputable def mm_run (O : mm_O) (q : mm_M) (args : List mm_V) (w : mm_W) (h : mm_H) : Option mm_R := mm_if (Nat.ble (mm_len (mm_loc args)) q.2.1) (mm_go O (mm_LP O q.2.2 q.1 6) (mm_lt2 q.2.2) 1000000 none some (fun _ _ _ _ _ => none) q.1 0 (mm_pad q.2.1 (mm_loc args)) [] w h) none
end
section
/-! The methods in the mini code, their loops: printed by wip/whole/gen/emit.py out of the claim's bytecode. -/
def c_Cr_init : List (Nat × Instr) := [(0, .aload 0), (1, .checkcast 1), (4, .aload 0), (5, .iconst 600), (8, .anewarray 50), (10, .putfield 262), (13, .aload 0), (14, .aload 1), (15, .putfield 258), (18, .return_)]
def t_Cr_init : List mm_T := []
def q_Cr_init : mm_M := (c_Cr_init, 2, t_Cr_init)
def c_Cr_read : List (Nat × Instr) := [(0, .aload 0), (1, .iconst 0), (2, .putfield 264), (5, .aload 0), (6, .getfield 258), (9, .invokevirtual 7280906), (12, .aload 0), (13, .iconst 0), (14, .iconst 0), (15, .invokevirtual 145665), (18, .aload 0), (19, .getfield 258), (22, .iconst 0), (23, .invokevirtual 7743754), (26, .aload 0), (27, .getfield 258), (30, .getfield 2572), (33, .iconst (-1)), (34, .if_icmp .ne 60), (37, .aload 0), (38, .getfield 264), (41, .ifCond .lt 60), (44, .aload 0), (45, .getfield 264), (48, .aload 0), (49, .getfield 262), (52, .arraylength), (53, .if_icmp .gt 60), (56, .iconst 1), (57, .goto 61), (60, .iconst 0), (61, .istore 1), (62, .iload 1), (63, .ifCond .eq 80), (66, .aload 0), (67, .getfield 262), (70, .aload 0), (71, .getfield 264), (74, .invokestatic 23142912), (77, .goto 81), (80, .sipush 0), (81, .areturn)]
def t_Cr_read : List mm_T := []
def q_Cr_read : mm_M := (c_Cr_read, 2, t_Cr_read)
def c_Cr_readLevel : List (Nat × Instr) := [(0, .iload 1), (1, .lookupswitch 74 #[(0, 40), (1, 40), (2, 49), (3, 57), (4, 65), (5, 65)]), (40, .aload 0), (41, .iload 1), (42, .iload 2), (43, .invokevirtual 211201), (46, .goto 79), (49, .aload 0), (50, .iload 2), (51, .invokevirtual 272641), (54, .goto 79), (57, .aload 0), (58, .iload 2), (59, .invokevirtual 338177), (62, .goto 79), (65, .aload 0), (66, .iload 1), (67, .iload 2), (68, .invokevirtual 407809), (71, .goto 79), (74, .aload 0), (75, .iload 2), (76, .invokevirtual 534785), (79, .return_)]
def t_Cr_readLevel : List mm_T := []
def q_Cr_readLevel : mm_M := (c_Cr_readLevel, 3, t_Cr_readLevel)
def c_Cr_readJoined : List (Nat × Instr) := [(0, .iload 1), (1, .ifCond .ne 9), (4, .sipush (-12)), (6, .goto 11), (9, .sipush (-14)), (11, .astore 3), (12, .aload 0), (13, .iload 1), (14, .iconst 1), (15, .iadd), (16, .iload 2), (17, .invokevirtual 145665), (20, .iconst 0), (21, .istore 4), (23, .jsr_w 0), (23, .iload 4), (25, .iconst 200), (28, .if_icmp .ge 87), (31, .aload 0), (32, .getfield 258), (35, .aload 3), (36, .invokevirtual 7610378), (39, .ifCond .eq 87), (42, .aload 0), (43, .iload 1), (44, .ifCond .ne 52), (47, .iconst 7), (49, .goto 54), (52, .iconst 8), (54, .iconst 0), (55, .invokevirtual 798721), (58, .istore 5), (60, .aload 0), (61, .iload 1), (62, .iconst 1), (63, .iadd), (64, .iload 2), (65, .invokevirtual 145665), (68, .aload 0), (69, .getfield 262), (72, .iload 5), (74, .aload 0), (75, .getfield 264), (78, .invokestatic 13121792), (81, .iinc 4 1), (84, .goto 23), (87, .return_)]
def t_Cr_readJoined : List mm_T := [(23, 87, [2, 0, 0, 2, 0, 9], [87])]
def q_Cr_readJoined : mm_M := (c_Cr_readJoined, 6, t_Cr_readJoined)
def c_Cr_readNegated : List (Nat × Instr) := [(0, .aload 0), (1, .getfield 258), (4, .sipush (-16)), (6, .invokevirtual 7544842), (9, .ifCond .eq 38), (12, .aload 0), (13, .iload 1), (14, .invokevirtual 598017), (17, .ifCond .ne 21), (20, .return_), (21, .aload 0), (22, .iconst 2), (23, .iload 1), (24, .iconst 1), (25, .iadd), (26, .invokevirtual 145665), (29, .aload 0), (30, .iconst 6), (32, .invokevirtual 731393), (35, .goto 85), (38, .aload 0), (39, .getfield 258), (42, .getfield 2568), (45, .iconst 91), (47, .if_icmp .ne 79), (50, .aload 0), (51, .iload 1), (52, .invokevirtual 598017), (55, .ifCond .ne 59), (58, .return_), (59, .aload 0), (60, .iconst 0), (61, .iload 1), (62, .iconst 1), (63, .iadd), (64, .invokevirtual 145665), (67, .aload 0), (68, .getfield 258), (71, .iconst 93), (73, .invokevirtual 7743754), (76, .goto 85), (79, .aload 0), (80, .iconst 3), (81, .iload 1), (82, .invokevirtual 145665), (85, .return_)]
def t_Cr_readNegated : List mm_T := []
def q_Cr_readNegated : mm_M := (c_Cr_readNegated, 2, t_Cr_readNegated)
def c_Cr_readCompared : List (Nat × Instr) := [(0, .aload 0), (1, .iconst 4), (2, .iload 1), (3, .invokevirtual 145665), (6, .aload 0), (7, .getfield 258), (10, .getfield 2568), (13, .istore 2), (14, .iload 2), (15, .iconst 60), (17, .if_icmp .eq 32), (20, .iload 2), (21, .iconst 61), (23, .if_icmp .eq 32), (26, .iload 2), (27, .iconst 62), (29, .if_icmp .ne 42), (32, .aload 0), (33, .getfield 258), (36, .invokevirtual 7346442), (39, .goto 49), (42, .aload 0), (43, .getfield 258), (46, .invokevirtual 7477514), (49, .aload 0), (50, .iconst 4), (51, .iload 1), (52, .invokevirtual 145665), (55, .aload 0), (56, .iload 2), (57, .invokevirtual 731393), (60, .return_)]
def t_Cr_readCompared : List mm_T := []
def q_Cr_readCompared : mm_M := (c_Cr_readCompared, 3, t_Cr_readCompared)
def c_Cr_readReckoned : List (Nat × Instr) := [(0, .aload 0), (1, .iload 1), (2, .iconst 1), (3, .iadd), (4, .iload 2), (5, .invokevirtual 145665), (8, .iconst 0), (9, .istore 3), (10, .jsr_w 0), (10, .iload 3), (11, .iconst 200), (14, .if_icmp .ge 67), (17, .iload 1), (18, .aload 0), (19, .getfield 258), (22, .getfield 2568), (25, .invokestatic 466944), (28, .ifCond .eq 67), (31, .aload 0), (32, .getfield 258), (35, .getfield 2568), (38, .istore 4), (40, .aload 0), (41, .getfield 258), (44, .invokevirtual 7346442), (47, .aload 0), (48, .iload 1), (49, .iconst 1), (50, .iadd), (51, .iload 2), (52, .invokevirtual 145665), (55, .aload 0), (56, .iload 4), (58, .invokevirtual 731393), (61, .iinc 3 1), (64, .goto 10), (67, .return_)]
def t_Cr_readReckoned : List mm_T := [(10, 67, [2, 0, 0, 0, 9], [67])]
def q_Cr_readReckoned : mm_M := (c_Cr_readReckoned, 5, t_Cr_readReckoned)
def c_Cr_reckons : List (Nat × Instr) := [(0, .iload 0), (1, .iconst 4), (2, .if_icmp .ne 25), (5, .iload 1), (6, .iconst 43), (8, .if_icmp .eq 17), (11, .iload 1), (12, .iconst 45), (14, .if_icmp .ne 21), (17, .iconst 1), (18, .goto 36), (21, .iconst 0), (22, .goto 36), (25, .iload 1), (26, .iconst 42), (28, .if_icmp .ne 35), (31, .iconst 1), (32, .goto 36), (35, .iconst 0), (36, .freturn)]
def t_Cr_reckons : List mm_T := []
def q_Cr_reckons : mm_M := (c_Cr_reckons, 2, t_Cr_reckons)
def c_Cr_readUnit : List (Nat × Instr) := [(0, .aload 0), (1, .getfield 258), (4, .getfield 2568), (7, .iconst 45), (9, .if_icmp .ne 38), (12, .aload 0), (13, .iload 1), (14, .invokevirtual 598017), (17, .ifCond .ne 21), (20, .return_), (21, .aload 0), (22, .iconst 6), (24, .iload 1), (25, .iconst 1), (26, .iadd), (27, .invokevirtual 145665), (30, .aload 0), (31, .iconst 5), (32, .invokevirtual 731393), (35, .goto 120), (38, .aload 0), (39, .getfield 258), (42, .getfield 2568), (45, .iconst 40), (47, .if_icmp .ne 79), (50, .aload 0), (51, .iload 1), (52, .invokevirtual 598017), (55, .ifCond .ne 59), (58, .return_), (59, .aload 0), (60, .iconst 4), (61, .iload 1), (62, .iconst 1), (63, .iadd), (64, .invokevirtual 145665), (67, .aload 0), (68, .getfield 258), (71, .iconst 41), (73, .invokevirtual 7743754), (76, .goto 120), (79, .aload 0), (80, .getfield 258), (83, .getfield 2568), (86, .iconst 2), (87, .if_icmp .ne 107), (90, .aload 0), (91, .iconst 1), (92, .aload 0), (93, .getfield 258), (96, .iconst 4), (97, .invokevirtual 7806986), (100, .invokevirtual 798721), (103, .pop), (104, .goto 120), (107, .aload 0), (108, .aload 0), (109, .getfield 258), (112, .sipush (-18)), (114, .invokevirtual 7872522), (117, .invokevirtual 665857), (120, .return_)]
def t_Cr_readUnit : List mm_T := []
def q_Cr_readUnit : mm_M := (c_Cr_readUnit, 2, t_Cr_readUnit)
def c_Cr_opens : List (Nat × Instr) := [(0, .iload 1), (1, .iconst 4), (2, .if_icmp .ge 9), (5, .iconst 1), (6, .goto 10), (9, .iconst 0), (10, .istore 2), (11, .iload 2), (12, .ifCond .eq 25), (15, .aload 0), (16, .getfield 258), (19, .invokevirtual 7346442), (22, .goto 32), (25, .aload 0), (26, .getfield 258), (29, .invokevirtual 7477514), (32, .iload 2), (33, .freturn)]
def t_Cr_opens : List mm_T := []
def q_Cr_opens : mm_M := (c_Cr_opens, 3, t_Cr_opens)
def c_Cr_emitWord : List (Nat × Instr) := [(0, .iload 1), (1, .iconst 8), (3, .if_icmp .ne 14), (6, .aload 0), (7, .iconst 3), (8, .invokevirtual 731393), (11, .goto 35), (14, .iload 1), (15, .iconst 9), (17, .if_icmp .ne 28), (20, .aload 0), (21, .iconst 4), (22, .invokevirtual 731393), (25, .goto 35), (28, .aload 0), (29, .iconst 2), (30, .iload 1), (31, .invokevirtual 798721), (34, .pop), (35, .return_)]
def t_Cr_emitWord : List mm_T := []
def q_Cr_emitWord : mm_M := (c_Cr_emitWord, 2, t_Cr_emitWord)
def c_Cr_emit : List (Nat × Instr) := [(0, .aload 0), (1, .getfield 262), (4, .aload 0), (5, .getfield 264), (8, .iload 1), (9, .invokestatic 13121792), (12, .aload 0), (13, .dup), (14, .getfield 264), (17, .iconst 1), (18, .iadd), (19, .putfield 264), (22, .return_)]
def t_Cr_emit : List mm_T := []
def q_Cr_emit : mm_M := (c_Cr_emit, 2, t_Cr_emit)
def c_Cr_emitWith : List (Nat × Instr) := [(0, .aload 0), (1, .iload 1), (2, .invokevirtual 731393), (5, .aload 0), (6, .iload 2), (7, .invokevirtual 731393), (10, .aload 0), (11, .getfield 264), (14, .iconst 1), (15, .isub), (16, .ireturn)]
def t_Cr_emitWith : List mm_T := []
def q_Cr_emitWith : mm_M := (c_Cr_emitWith, 3, t_Cr_emitWith)
def c_Cv_init : List (Nat × Instr) := [(0, .aload 0), (1, .checkcast 2), (4, .aload 0), (5, .iconst 256), (8, .anewarray 50), (10, .putfield 514), (13, .aload 0), (14, .iconst 256), (17, .anewarray 50), (19, .putfield 518), (22, .aload 0), (23, .iconst 256), (26, .anewarray 50), (28, .putfield 522), (31, .aload 0), (32, .iconst 256), (35, .anewarray 50), (37, .putfield 526), (40, .aload 0), (41, .iconst 256), (44, .anewarray 50), (46, .putfield 530), (49, .aload 0), (50, .iconst 256), (53, .anewarray 50), (55, .putfield 534), (58, .aload 0), (59, .iconst 256), (62, .anewarray 50), (64, .putfield 538), (67, .aload 0), (68, .iconst 306), (71, .anewarray 50), (73, .putfield 542), (76, .return_)]
def t_Cv_init : List mm_T := []
def q_Cv_init : mm_M := (c_Cv_init, 1, t_Cv_init)
def c_Cv_take : List (Nat × Instr) := [(0, .aload 0), (1, .aload 1), (2, .iload 2), (3, .invokevirtual 997634), (6, .aload 0), (7, .invokevirtual 1380354), (10, .ireturn)]
def t_Cv_take : List mm_T := []
def q_Cv_take : mm_M := (c_Cv_take, 3, t_Cv_take)
def c_Cv_copyLayer : List (Nat × Instr) := [(0, .aload 0), (1, .aload 1), (2, .getfield 2304), (5, .putfield 548), (8, .aload 0), (9, .aload 1), (10, .getfield 2308), (13, .putfield 552), (16, .iload 2), (17, .invokestatic 13307904), (20, .ifCond .eq 43), (23, .aload 1), (24, .getfield 2322), (27, .iload 2), (28, .iconst 256), (31, .imul), (32, .aload 0), (33, .getfield 538), (36, .iconst 0), (37, .iconst 256), (40, .daload), (43, .return_)]
def t_Cv_copyLayer : List mm_T := []
def q_Cv_copyLayer : mm_M := (c_Cv_copyLayer, 3, t_Cv_copyLayer)
def c_Cv_stroke : List (Nat × Instr) := [(0, .iload 2), (1, .istore 6), (3, .jsr_w 0), (3, .iload 6), (5, .iload 4), (7, .if_icmp .gt 47), (10, .iload 3), (11, .istore 7), (13, .jsr_w 1), (13, .iload 7), (15, .iload 5), (17, .if_icmp .gt 41), (20, .aload 0), (21, .getfield 538), (24, .iload 6), (26, .iload 7), (28, .invokestatic 13246464), (31, .iload 1), (32, .invokestatic 13121792), (35, .iinc 7 1), (38, .goto 13), (41, .iinc 6 1), (44, .goto 3), (47, .return_)]
def t_Cv_stroke : List mm_T := [(3, 47, [2, 0, 0, 0, 0, 0, 0, 9], [47]), (13, 41, [2, 0, 0, 0, 0, 0, 0, 0], [41])]
def q_Cv_stroke : mm_M := (c_Cv_stroke, 8, t_Cv_stroke)
def c_Cv_draw : List (Nat × Instr) := [(0, .iload 1), (1, .istore 3), (2, .iconst 0), (3, .istore 4), (5, .jsr_w 0), (5, .iload 4), (7, .iload 2), (8, .if_icmp .ge 122), (11, .iload 3), (12, .invokestatic 1183744), (15, .istore 3), (16, .iload 3), (17, .aload 0), (18, .getfield 548), (21, .invokestatic 1253376), (24, .istore 5), (26, .iload 3), (27, .invokestatic 1183744), (30, .istore 3), (31, .iload 3), (32, .aload 0), (33, .getfield 548), (36, .invokestatic 1253376), (39, .istore 6), (41, .iload 3), (42, .invokestatic 1183744), (45, .istore 3), (46, .iload 3), (47, .aload 0), (48, .getfield 552), (51, .invokestatic 1253376), (54, .istore 7), (56, .iload 3), (57, .invokestatic 1183744), (60, .istore 3), (61, .iload 3), (62, .aload 0), (63, .getfield 552), (66, .invokestatic 1253376), (69, .istore 8), (71, .iload 3), (72, .invokestatic 1183744), (75, .istore 3), (76, .aload 0), (77, .iload 3), (78, .iconst 11), (80, .invokestatic 1253376), (83, .iconst 1), (84, .isub), (85, .iload 5), (87, .iload 6), (89, .dsub), (92, .iload 7), (94, .iload 8), (96, .dsub), (99, .iload 5), (101, .iload 6), (103, .dadd), (106, .iload 7), (108, .iload 8), (110, .dadd), (113, .invokevirtual 1075458), (116, .iinc 4 1), (119, .goto 5), (122, .return_)]
def t_Cv_draw : List mm_T := [(5, 122, [2, 0, 0, 0, 0, 9, 9, 9, 9], [122])]
def q_Cv_draw : mm_M := (c_Cv_draw, 9, t_Cv_draw)
def c_Cv_nextDraw : List (Nat × Instr) := [(0, .iload 0), (1, .iconst 1103515245), (3, .imul), (4, .iconst 12345), (7, .iadd), (8, .ireturn)]
def t_Cv_nextDraw : List mm_T := []
def q_Cv_nextDraw : mm_M := (c_Cv_nextDraw, 1, t_Cv_nextDraw)
def c_Cv_drawnOf : List (Nat × Instr) := [(0, .iload 0), (1, .iconst 9), (3, .iushr), (4, .iload 1), (5, .invokestatic 13180928), (8, .ireturn)]
def t_Cv_drawnOf : List mm_T := []
def q_Cv_drawnOf : mm_M := (c_Cv_drawnOf, 2, t_Cv_drawnOf)
def c_Cv_cellsSet : List (Nat × Instr) := [(0, .iconst 0), (1, .istore 1), (2, .iconst 0), (3, .istore 2), (4, .jsr_w 0), (4, .iload 2), (5, .aload 0), (6, .getfield 548), (9, .if_icmp .ge 47), (12, .iconst 0), (13, .istore 3), (14, .jsr_w 1), (14, .iload 3), (15, .aload 0), (16, .getfield 552), (19, .if_icmp .ge 41), (22, .aload 0), (23, .iload 2), (24, .iload 3), (25, .invokevirtual 1519618), (28, .iconst (-1)), (29, .if_icmp .eq 35), (32, .iinc 1 1), (35, .iinc 3 1), (38, .goto 14), (41, .iinc 2 1), (44, .goto 4), (47, .iload 1), (48, .ireturn)]
def t_Cv_cellsSet : List mm_T := [(4, 47, [2, 0, 0, 9], [47]), (14, 41, [2, 0, 0, 0], [41])]
def q_Cv_cellsSet : mm_M := (c_Cv_cellsSet, 4, t_Cv_cellsSet)
def c_Cv_build : List (Nat × Instr) := [(0, .aload 0), (1, .iconst 0), (2, .putfield 544), (5, .aload 0), (6, .getfield 534), (9, .iconst (-1)), (10, .invokestatic 23079168), (13, .iconst 0), (14, .istore 1), (15, .jsr_w 0), (15, .iload 1), (16, .aload 0), (17, .getfield 548), (20, .if_icmp .ge 107), (23, .iconst 0), (24, .istore 2), (25, .iconst 0), (26, .istore 3), (27, .jsr_w 1), (27, .iload 3), (28, .aload 0), (29, .getfield 552), (32, .if_icmp .ge 101), (35, .iload 3), (36, .iconst 1), (37, .iadd), (38, .aload 0), (39, .getfield 552), (42, .if_icmp .eq 62), (45, .aload 0), (46, .iload 1), (47, .iload 3), (48, .iconst 1), (49, .iadd), (50, .invokevirtual 1519618), (53, .aload 0), (54, .iload 1), (55, .iload 3), (56, .invokevirtual 1519618), (59, .if_icmp .eq 66), (62, .iconst 1), (63, .goto 67), (66, .iconst 0), (67, .istore 4), (69, .iload 4), (71, .ifCond .eq 95), (74, .aload 0), (75, .iload 1), (76, .iload 3), (77, .invokevirtual 1519618), (80, .iconst (-1)), (81, .if_icmp .eq 91), (84, .aload 0), (85, .iload 1), (86, .iload 2), (87, .iload 3), (88, .invokevirtual 1460482), (91, .iload 3), (92, .iconst 1), (93, .iadd), (94, .istore 2), (95, .iinc 3 1), (98, .goto 27), (101, .iinc 1 1), (104, .goto 15), (107, .aload 0), (108, .getfield 544), (111, .ireturn)]
def t_Cv_build : List mm_T := [(15, 107, [2, 0, 9, 9, 9], [107]), (27, 101, [2, 0, 0, 0, 9], [101])]
def q_Cv_build : mm_M := (c_Cv_build, 5, t_Cv_build)
def c_Cv_addRun : List (Nat × Instr) := [(0, .iload 1), (1, .ifCond .le 21), (4, .aload 0), (5, .getfield 534), (8, .iload 1), (9, .iconst 1), (10, .isub), (11, .iload 2), (12, .invokestatic 13246464), (15, .invokestatic 13049856), (18, .goto 22), (21, .iconst (-1)), (22, .istore 4), (24, .aload 0), (25, .iload 1), (26, .iload 2), (27, .invokevirtual 1519618), (30, .istore 5), (32, .iload 4), (34, .ifCond .lt 81), (37, .aload 0), (38, .getfield 518), (41, .iload 4), (43, .invokestatic 13049856), (46, .iload 2), (47, .if_icmp .ne 81), (50, .aload 0), (51, .getfield 526), (54, .iload 4), (56, .invokestatic 13049856), (59, .iload 3), (60, .if_icmp .ne 81), (63, .aload 0), (64, .getfield 530), (67, .iload 4), (69, .invokestatic 13049856), (72, .iload 5), (74, .if_icmp .ne 81), (77, .iconst 1), (78, .goto 82), (81, .iconst 0), (82, .istore 6), (84, .iload 6), (86, .ifCond .eq 94), (89, .iload 4), (91, .goto 98), (94, .aload 0), (95, .getfield 544), (98, .istore 7), (100, .iload 6), (102, .ifCond .ne 156), (105, .aload 0), (106, .dup), (107, .getfield 544), (110, .iconst 1), (111, .iadd), (112, .putfield 544), (115, .aload 0), (116, .getfield 514), (119, .iload 7), (121, .iload 1), (122, .invokestatic 13121792), (125, .aload 0), (126, .getfield 518), (129, .iload 7), (131, .iload 2), (132, .invokestatic 13121792), (135, .aload 0), (136, .getfield 526), (139, .iload 7), (141, .iload 3), (142, .invokestatic 13121792), (145, .aload 0), (146, .getfield 530), (149, .iload 7), (151, .iload 5), (153, .invokestatic 13121792), (156, .aload 0), (157, .getfield 522), (160, .iload 7), (162, .iload 1), (163, .invokestatic 13121792), (166, .iload 2), (167, .istore 8), (169, .jsr_w 0), (169, .iload 8), (171, .iload 3), (172, .if_icmp .gt 196), (175, .aload 0), (176, .getfield 534), (179, .iload 1), (180, .iload 8), (182, .invokestatic 13246464), (185, .iload 7), (187, .invokestatic 13121792), (190, .iinc 8 1), (193, .goto 169), (196, .return_)]
def t_Cv_addRun : List mm_T := [(169, 196, [2, 0, 0, 0, 0, 0, 0, 0, 0], [196])]
def q_Cv_addRun : mm_M := (c_Cv_addRun, 9, t_Cv_addRun)
def c_Cv_formatAt : List (Nat × Instr) := [(0, .aload 0), (1, .getfield 538), (4, .iload 1), (5, .iload 2), (6, .invokestatic 13246464), (9, .invokestatic 13049856), (12, .ireturn)]
def t_Cv_formatAt : List mm_T := []
def q_Cv_formatAt : mm_M := (c_Cv_formatAt, 3, t_Cv_formatAt)
def c_Cv_rectNumber : List (Nat × Instr) := [(0, .aload 0), (1, .getfield 514), (4, .iload 1), (5, .invokestatic 13049856), (8, .aload 0), (9, .getfield 518), (12, .iload 1), (13, .invokestatic 13049856), (16, .aload 0), (17, .getfield 522), (20, .iload 1), (21, .invokestatic 13049856), (24, .aload 0), (25, .getfield 526), (28, .iload 1), (29, .invokestatic 13049856), (32, .invokestatic 13844480), (35, .ireturn)]
def t_Cv_rectNumber : List mm_T := []
def q_Cv_rectNumber : mm_M := (c_Cv_rectNumber, 2, t_Cv_rectNumber)
def c_Cv_meets : List (Nat × Instr) := [(0, .aload 0), (1, .getfield 514), (4, .iload 1), (5, .invokestatic 13049856), (8, .iload 2), (9, .invokestatic 13701120), (12, .if_icmp .gt 64), (15, .aload 0), (16, .getfield 522), (19, .iload 1), (20, .invokestatic 13049856), (23, .iload 2), (24, .invokestatic 13570048), (27, .if_icmp .lt 64), (30, .aload 0), (31, .getfield 518), (34, .iload 1), (35, .invokestatic 13049856), (38, .iload 2), (39, .invokestatic 13766656), (42, .if_icmp .gt 64), (45, .aload 0), (46, .getfield 526), (49, .iload 1), (50, .invokestatic 13049856), (53, .iload 2), (54, .invokestatic 13635584), (57, .if_icmp .lt 64), (60, .iconst 1), (61, .goto 65), (64, .iconst 0), (65, .freturn)]
def t_Cv_meets : List mm_T := []
def q_Cv_meets : mm_M := (c_Cv_meets, 3, t_Cv_meets)
def c_Cv_fewestStrokes : List (Nat × Instr) := [(0, .aload 0), (1, .getfield 552), (4, .istore 2), (5, .jsr_w 0), (5, .iload 2), (6, .ifCond .lt 117), (9, .iload 2), (10, .istore 3), (11, .jsr_w 1), (11, .iload 3), (12, .aload 0), (13, .getfield 552), (16, .if_icmp .gt 111), (19, .iconst 1), (20, .aload 0), (21, .iload 2), (22, .iconst 1), (23, .iadd), (24, .iload 3), (25, .invokevirtual 1847298), (28, .iadd), (29, .istore 4), (31, .iload 2), (32, .iconst 1), (33, .iadd), (34, .istore 5), (36, .jsr_w 2), (36, .iload 5), (38, .iload 3), (39, .if_icmp .gt 90), (42, .aload 0), (43, .iload 1), (44, .iload 5), (46, .invokevirtual 1781762), (49, .aload 0), (50, .iload 1), (51, .iload 2), (52, .invokevirtual 1781762), (55, .if_icmp .ne 84), (58, .iload 4), (60, .aload 0), (61, .iload 2), (62, .iconst 1), (63, .iadd), (64, .iload 5), (66, .iconst 1), (67, .isub), (68, .invokevirtual 1847298), (71, .aload 0), (72, .iload 5), (74, .iload 3), (75, .invokevirtual 1847298), (78, .iadd), (79, .dsub), (82, .istore 4), (84, .iinc 5 1), (87, .goto 36), (90, .aload 0), (91, .getfield 542), (94, .iload 2), (95, .iconst 17), (97, .imul), (98, .iload 3), (99, .iadd), (100, .iload 4), (102, .invokestatic 13121792), (105, .iinc 3 1), (108, .goto 11), (111, .iinc 2 (-1)), (114, .goto 5), (117, .aload 0), (118, .iconst 0), (119, .aload 0), (120, .getfield 552), (123, .invokevirtual 1847298), (126, .iconst 1), (127, .isub), (128, .ireturn)]
def t_Cv_fewestStrokes : List mm_T := [(5, 117, [2, 0, 0, 9, 9, 9], [117]), (11, 111, [2, 0, 0, 0, 9, 9], [111]), (36, 90, [2, 0, 0, 0, 0, 0], [90])]
def q_Cv_fewestStrokes : mm_M := (c_Cv_fewestStrokes, 6, t_Cv_fewestStrokes)
def c_Cv_withEdge : List (Nat × Instr) := [(0, .iload 2), (1, .ifCond .ne 8), (4, .iconst (-1)), (5, .goto 16), (8, .aload 0), (9, .iload 1), (10, .iload 2), (11, .iconst 1), (12, .isub), (13, .invokevirtual 1519618), (16, .ireturn)]
def t_Cv_withEdge : List mm_T := []
def q_Cv_withEdge : mm_M := (c_Cv_withEdge, 3, t_Cv_withEdge)
def c_Cv_leastOf : List (Nat × Instr) := [(0, .iload 1), (1, .iload 2), (2, .if_icmp .le 9), (5, .iconst 0), (6, .goto 22), (9, .aload 0), (10, .getfield 542), (13, .iload 1), (14, .iconst 17), (16, .imul), (17, .iload 2), (18, .iadd), (19, .invokestatic 13049856), (22, .ireturn)]
def t_Cv_leastOf : List mm_T := []
def q_Cv_leastOf : mm_M := (c_Cv_leastOf, 3, t_Cv_leastOf)
def c_Ed_init : List (Nat × Instr) := [(0, .aload 0), (1, .checkcast 3), (4, .aload 0), (5, .new 585), (8, .dup), (9, .invokevirtual 5576969), (12, .putfield 770), (15, .aload 0), (16, .iconst 16), (18, .anewarray 50), (20, .putfield 774), (23, .return_)]
def t_Ed_init : List mm_T := []
def q_Ed_init : mm_M := (c_Ed_init, 1, t_Ed_init)
def c_Ed_paintRect : List (Nat × Instr) := [(0, .iload 2), (1, .invokestatic 13307904), (4, .ifCond .eq 23), (7, .iload 3), (8, .invokestatic 13438976), (11, .ifCond .eq 23), (14, .aload 1), (15, .iload 4), (17, .invokevirtual 5840905), (20, .ifCond .ne 26), (23, .iconst (-2)), (25, .ireturn), (26, .iload 4), (28, .invokestatic 13570048), (31, .istore 5), (33, .jsr_w 0), (33, .iload 5), (35, .iload 4), (37, .invokestatic 13701120), (40, .if_icmp .gt 82), (43, .iload 4), (45, .invokestatic 13635584), (48, .istore 6), (50, .jsr_w 1), (50, .iload 6), (52, .iload 4), (54, .invokestatic 13766656), (57, .if_icmp .gt 76), (60, .aload 1), (61, .iload 2), (62, .iload 5), (64, .iload 6), (66, .iload 3), (67, .invokevirtual 6314249), (70, .iinc 6 1), (73, .goto 50), (76, .iinc 5 1), (79, .goto 33), (82, .iconst 1), (83, .ireturn)]
def t_Ed_paintRect : List mm_T := [(33, 82, [2, 2, 0, 0, 0, 0, 9], [82]), (50, 76, [2, 2, 0, 0, 0, 0, 0], [76])]
def q_Ed_paintRect : mm_M := (c_Ed_paintRect, 7, t_Ed_paintRect)
def c_Ed_setLines : List (Nat × Instr) := [(0, .iload 2), (1, .invokestatic 13504512), (4, .ifCond .eq 32), (7, .iload 3), (8, .invokestatic 13307904), (11, .ifCond .eq 32), (14, .iload 4), (16, .invokestatic 13438976), (19, .ifCond .eq 32), (22, .aload 1), (23, .iload 2), (24, .iload 5), (26, .invokevirtual 5910537), (29, .ifCond .ne 35), (32, .iconst (-2)), (34, .ireturn), (35, .iload 5), (37, .iconst 100), (39, .idiv), (40, .istore 6), (42, .jsr_w 0), (42, .iload 6), (44, .iload 5), (46, .iconst 100), (48, .irem), (49, .if_icmp .gt 68), (52, .aload 1), (53, .iload 2), (54, .iload 3), (55, .iload 6), (57, .iload 4), (59, .invokevirtual 6445321), (62, .iinc 6 1), (65, .goto 42), (68, .iconst 1), (69, .ireturn)]
def t_Ed_setLines : List mm_T := [(42, 68, [2, 2, 0, 0, 0, 0, 0], [68])]
def q_Ed_setLines : mm_M := (c_Ed_setLines, 7, t_Ed_setLines)
def c_Ed_setGround : List (Nat × Instr) := [(0, .iload 2), (1, .invokestatic 13307904), (4, .ifCond .eq 14), (7, .iload 3), (8, .invokestatic 13373440), (11, .ifCond .ne 17), (14, .iconst (-2)), (16, .ireturn), (17, .aload 1), (18, .getfield 2330), (21, .iload 2), (22, .iload 3), (23, .invokestatic 13121792), (26, .iconst 1), (27, .ireturn)]
def t_Ed_setGround : List mm_T := []
def q_Ed_setGround : mm_M := (c_Ed_setGround, 4, t_Ed_setGround)
def c_Ed_setValue : List (Nat × Instr) := [(0, .aload 1), (1, .iload 2), (2, .invokevirtual 5775369), (5, .ifCond .eq 22), (8, .iload 3), (9, .iconst (-999)), (12, .if_icmp .lt 22), (15, .iload 3), (16, .iconst 999), (19, .if_icmp .le 25), (22, .iconst (-2)), (24, .ireturn), (25, .aload 1), (26, .iload 2), (27, .iconst 100), (29, .idiv), (30, .iload 2), (31, .iconst 100), (33, .irem), (34, .iload 3), (35, .invokevirtual 6179081), (38, .iconst 1), (39, .ireturn)]
def t_Ed_setValue : List mm_T := []
def q_Ed_setValue : mm_M := (c_Ed_setValue, 4, t_Ed_setValue)
def c_Ed_insertLines : List (Nat × Instr) := [(0, .iload 2), (1, .invokestatic 13504512), (4, .ifCond .eq 33), (7, .iload 3), (8, .ifCond .lt 33), (11, .iload 3), (12, .aload 1), (13, .iload 2), (14, .invokevirtual 5709833), (17, .if_icmp .gt 33), (20, .iload 4), (22, .iconst 1), (23, .if_icmp .lt 33), (26, .iload 4), (28, .iconst 16), (30, .if_icmp .le 36), (33, .iconst (-2)), (35, .ireturn), (36, .aload 1), (37, .iload 2), (38, .invokevirtual 5709833), (41, .iload 4), (43, .iadd), (44, .istore 5), (46, .iload 5), (48, .iconst 16), (50, .if_icmp .le 56), (53, .iconst (-4)), (55, .ireturn), (56, .iconst 0), (57, .istore 6), (59, .jsr_w 0), (59, .iload 6), (61, .iload 5), (63, .if_icmp .ge 110), (66, .aload 0), (67, .getfield 774), (70, .iload 6), (72, .iload 6), (74, .iload 3), (75, .if_icmp .ge 83), (78, .iload 6), (80, .goto 101), (83, .iload 6), (85, .iload 3), (86, .iload 4), (88, .iadd), (89, .if_icmp .ge 96), (92, .iconst (-1)), (93, .goto 101), (96, .iload 6), (98, .iload 4), (100, .isub), (101, .invokestatic 13121792), (104, .iinc 6 1), (107, .goto 59), (110, .aload 0), (111, .aload 1), (112, .iload 2), (113, .iload 5), (115, .invokevirtual 2705667), (118, .iload 3), (119, .ifCond .le 158), (122, .iload 3), (123, .iload 4), (125, .iadd), (126, .iload 5), (128, .if_icmp .ge 158), (131, .iload 3), (132, .istore 6), (134, .jsr_w 1), (134, .iload 6), (136, .iload 3), (137, .iload 4), (139, .iadd), (140, .if_icmp .ge 158), (143, .aload 0), (144, .aload 1), (145, .iload 2), (146, .iload 3), (147, .iload 6), (149, .invokevirtual 2840835), (152, .iinc 6 1), (155, .goto 134), (158, .iconst 0), (159, .istore 6), (161, .jsr_w 2), (161, .iload 6), (163, .aload 1), (164, .getfield 2312), (167, .if_icmp .ge 189), (170, .aload 1), (171, .iload 6), (173, .invokevirtual 6038025), (176, .iload 2), (177, .iload 3), (178, .iload 4), (180, .invokevirtual 4868359), (183, .iinc 6 1), (186, .goto 161), (189, .iload 5), (191, .ireturn)]
def t_Ed_insertLines : List mm_T := [(59, 110, [2, 2, 0, 0, 0, 0, 0], [110]), (134, 158, [2, 2, 0, 0, 0, 0, 0], [158]), (161, 189, [2, 2, 0, 0, 0, 0, 0], [189])]
def q_Ed_insertLines : mm_M := (c_Ed_insertLines, 7, t_Ed_insertLines)
def c_Ed_removeLines : List (Nat × Instr) := [(0, .iload 2), (1, .invokestatic 13504512), (4, .ifCond .eq 16), (7, .aload 1), (8, .iload 2), (9, .iload 3), (10, .invokevirtual 5910537), (13, .ifCond .ne 19), (16, .iconst (-2)), (18, .ireturn), (19, .iload 3), (20, .iconst 100), (22, .idiv), (23, .istore 4), (25, .iload 3), (26, .iconst 100), (28, .irem), (29, .istore 5), (31, .iload 5), (33, .iload 4), (35, .isub), (36, .iconst 1), (37, .iadd), (38, .istore 6), (40, .aload 1), (41, .iload 2), (42, .invokevirtual 5709833), (45, .iload 6), (47, .isub), (48, .istore 7), (50, .iload 7), (52, .iconst 1), (53, .if_icmp .ge 59), (56, .iconst (-3)), (58, .ireturn), (59, .iconst 0), (60, .istore 8), (62, .jsr_w 0), (62, .iload 8), (64, .iload 7), (66, .if_icmp .ge 101), (69, .aload 0), (70, .getfield 774), (73, .iload 8), (75, .iload 8), (77, .iload 4), (79, .if_icmp .ge 87), (82, .iload 8), (84, .goto 92), (87, .iload 8), (89, .iload 6), (91, .iadd), (92, .invokestatic 13121792), (95, .iinc 8 1), (98, .goto 62), (101, .aload 0), (102, .aload 1), (103, .iload 2), (104, .iload 7), (106, .invokevirtual 2705667), (109, .aload 1), (110, .getfield 2312), (113, .iconst 1), (114, .isub), (115, .istore 8), (117, .jsr_w 1), (117, .iload 8), (119, .ifCond .lt 152), (122, .aload 1), (123, .iload 8), (125, .invokevirtual 6038025), (128, .iload 2), (129, .iload 4), (131, .iload 5), (133, .invokevirtual 4931591), (136, .ifCond .ne 146), (139, .aload 1), (140, .iload 8), (142, .invokevirtual 6889481), (145, .pop), (146, .iinc 8 (-1)), (149, .goto 117), (152, .iload 7), (154, .ireturn)]
def t_Ed_removeLines : List mm_T := [(62, 101, [2, 2, 0, 0, 0, 0, 0, 0, 0], [101]), (117, 152, [2, 2, 0, 0, 0, 0, 0, 0, 0], [152])]
def q_Ed_removeLines : mm_M := (c_Ed_removeLines, 9, t_Ed_removeLines)
def c_Ed_copyRect : List (Nat × Instr) := [(0, .aload 1), (1, .iload 2), (2, .invokevirtual 5840905), (5, .ifCond .eq 24), (8, .aload 1), (9, .iload 3), (10, .invokevirtual 5840905), (13, .ifCond .eq 24), (16, .iload 4), (18, .invokestatic 13504512), (21, .ifCond .ne 27), (24, .iconst (-2)), (26, .ireturn), (27, .aload 0), (28, .getfield 770), (31, .aload 1), (32, .invokevirtual 5646601), (35, .iload 2), (36, .invokestatic 13701120), (39, .iload 2), (40, .invokestatic 13570048), (43, .isub), (44, .iconst 1), (45, .iadd), (46, .istore 5), (48, .iload 2), (49, .invokestatic 13766656), (52, .iload 2), (53, .invokestatic 13635584), (56, .isub), (57, .iconst 1), (58, .iadd), (59, .istore 6), (61, .iconst 0), (62, .istore 7), (64, .jsr_w 0), (64, .iload 7), (66, .iload 3), (67, .invokestatic 13701120), (70, .iload 3), (71, .invokestatic 13570048), (74, .isub), (75, .if_icmp .gt 209), (78, .iconst 0), (79, .istore 8), (81, .jsr_w 1), (81, .iload 8), (83, .iload 3), (84, .invokestatic 13766656), (87, .iload 3), (88, .invokestatic 13635584), (91, .isub), (92, .if_icmp .gt 203), (95, .iload 2), (96, .invokestatic 13570048), (99, .iload 4), (101, .iconst 1), (102, .if_icmp .ne 110), (105, .iload 8), (107, .goto 112), (110, .iload 7), (112, .iload 5), (114, .invokestatic 13180928), (117, .iadd), (118, .istore 9), (120, .iload 2), (121, .invokestatic 13635584), (124, .iload 4), (126, .iconst 1), (127, .if_icmp .ne 135), (130, .iload 7), (132, .goto 137), (135, .iload 8), (137, .iload 6), (139, .invokestatic 13180928), (142, .iadd), (143, .istore 10), (145, .iconst 0), (146, .istore 11), (148, .jsr_w 2), (148, .iload 11), (150, .iconst 4), (151, .if_icmp .ge 197), (154, .aload 0), (155, .getfield 770), (158, .iload 11), (160, .iload 9), (162, .iload 10), (164, .invokevirtual 6242313), (167, .istore 12), (169, .aload 1), (170, .iload 11), (172, .iload 3), (173, .invokestatic 13570048), (176, .iload 7), (178, .iadd), (179, .iload 3), (180, .invokestatic 13635584), (183, .iload 8), (185, .iadd), (186, .iload 12), (188, .invokevirtual 6314249), (191, .iinc 11 1), (194, .goto 148), (197, .iinc 8 1), (200, .goto 81), (203, .iinc 7 1), (206, .goto 64), (209, .iconst 1), (210, .ireturn)]
def t_Ed_copyRect : List mm_T := [(64, 209, [2, 2, 0, 0, 0, 0, 0, 0, 9, 9, 9, 9, 9], [209]), (81, 203, [2, 2, 0, 0, 0, 0, 0, 0, 0, 9, 9, 9, 9], [203]), (148, 197, [2, 2, 0, 0, 0, 0, 0, 0, 0, 0, 0, 0, 9], [197])]
def q_Ed_copyRect : mm_M := (c_Ed_copyRect, 13, t_Ed_copyRect)
def c_Ed_clearNeedless : List (Nat × Instr) := [(0, .iload 2), (1, .invokestatic 13307904), (4, .ifCond .ne 10), (7, .iconst (-2)), (9, .ireturn), (10, .iconst 0), (11, .istore 3), (12, .iconst 0), (13, .istore 4), (15, .jsr_w 0), (15, .iload 4), (17, .aload 1), (18, .getfield 2304), (21, .if_icmp .ge 73), (24, .iconst 0), (25, .istore 5), (27, .jsr_w 1), (27, .iload 5), (29, .aload 1), (30, .getfield 2308), (33, .if_icmp .ge 67), (36, .aload 1), (37, .iload 2), (38, .iload 4), (40, .iload 5), (42, .invokevirtual 6569993), (45, .ifCond .eq 61), (48, .aload 1), (49, .iload 2), (50, .iload 4), (52, .iload 5), (54, .iconst (-1)), (55, .invokevirtual 6314249), (58, .iinc 3 1), (61, .iinc 5 1), (64, .goto 27), (67, .iinc 4 1), (70, .goto 15), (73, .iload 3), (74, .ireturn)]
def t_Ed_clearNeedless : List mm_T := [(15, 73, [2, 2, 0, 0, 0, 9], [73]), (27, 67, [2, 2, 0, 0, 0, 0], [67])]
def q_Ed_clearNeedless : mm_M := (c_Ed_clearNeedless, 6, t_Ed_clearNeedless)
def c_Ed_sortRows : List (Nat × Instr) := [(0, .aload 1), (1, .iconst 0), (2, .iload 2), (3, .invokevirtual 5910537), (6, .ifCond .eq 29), (9, .iload 3), (10, .ifCond .lt 29), (13, .iload 3), (14, .aload 1), (15, .getfield 2308), (18, .if_icmp .ge 29), (21, .iload 4), (23, .invokestatic 13504512), (26, .ifCond .ne 32), (29, .iconst (-2)), (31, .ireturn), (32, .iload 2), (33, .iconst 100), (35, .idiv), (36, .istore 5), (38, .iload 2), (39, .iconst 100), (41, .irem), (42, .istore 6), (44, .iconst 0), (45, .istore 7), (47, .jsr_w 0), (47, .iload 7), (49, .aload 1), (50, .getfield 2304), (53, .if_icmp .ge 73), (56, .aload 0), (57, .getfield 774), (60, .iload 7), (62, .iload 7), (64, .invokestatic 13121792), (67, .iinc 7 1), (70, .goto 47), (73, .iload 5), (75, .iconst 1), (76, .iadd), (77, .istore 7), (79, .jsr_w 1), (79, .iload 7), (81, .iload 6), (83, .if_icmp .gt 166), (86, .iload 7), (88, .istore 8), (90, .jsr_w 2), (90, .iload 8), (92, .iload 5), (94, .if_icmp .le 160), (97, .aload 0), (98, .aload 1), (99, .iload 8), (101, .iload 3), (102, .iload 4), (104, .invokevirtual 2641923), (107, .ifCond .eq 160), (110, .aload 0), (111, .getfield 774), (114, .iload 8), (116, .invokestatic 13049856), (119, .istore 9), (121, .aload 0), (122, .getfield 774), (125, .iload 8), (127, .aload 0), (128, .getfield 774), (131, .iload 8), (133, .iconst 1), (134, .isub), (135, .invokestatic 13049856), (138, .invokestatic 13121792), (141, .aload 0), (142, .getfield 774), (145, .iload 8), (147, .iconst 1), (148, .isub), (149, .iload 9), (151, .invokestatic 13121792), (154, .iinc 8 (-1)), (157, .goto 90), (160, .iinc 7 1), (163, .goto 79), (166, .aload 0), (167, .aload 1), (168, .iconst 0), (169, .aload 1), (170, .getfield 2304), (173, .invokevirtual 2705667), (176, .iconst 1), (177, .ireturn)]
def t_Ed_sortRows : List mm_T := [(47, 73, [2, 2, 0, 0, 0, 0, 0, 0, 9, 9], [73]), (79, 166, [2, 2, 0, 0, 0, 0, 0, 0, 9, 9], [166]), (90, 160, [2, 2, 0, 0, 0, 0, 0, 0, 0, 9], [160])]
def q_Ed_sortRows : mm_M := (c_Ed_sortRows, 10, t_Ed_sortRows)
def c_Ed_moveLines : List (Nat × Instr) := [(0, .iload 2), (1, .invokestatic 13504512), (4, .ifCond .eq 16), (7, .aload 1), (8, .iload 2), (9, .iload 3), (10, .invokevirtual 5910537), (13, .ifCond .ne 19), (16, .iconst (-2)), (18, .ireturn), (19, .iload 3), (20, .iconst 100), (22, .idiv), (23, .istore 5), (25, .iload 3), (26, .iconst 100), (28, .irem), (29, .iload 5), (31, .isub), (32, .iconst 1), (33, .iadd), (34, .istore 6), (36, .aload 1), (37, .iload 2), (38, .invokevirtual 5709833), (41, .istore 7), (43, .iload 4), (45, .ifCond .lt 58), (48, .iload 4), (50, .iload 7), (52, .iload 6), (54, .isub), (55, .if_icmp .le 61), (58, .iconst (-2)), (60, .ireturn), (61, .iconst 0), (62, .istore 8), (64, .jsr_w 0), (64, .iload 8), (66, .iload 7), (68, .if_icmp .ge 162), (71, .iload 8), (73, .iload 4), (75, .if_icmp .ge 83), (78, .iload 8), (80, .goto 88), (83, .iload 8), (85, .iload 6), (87, .isub), (88, .istore 9), (90, .iload 8), (92, .iload 4), (94, .if_icmp .lt 111), (97, .iload 8), (99, .iload 4), (101, .iload 6), (103, .iadd), (104, .if_icmp .ge 111), (107, .iconst 1), (108, .goto 112), (111, .iconst 0), (112, .istore 10), (114, .aload 0), (115, .getfield 774), (118, .iload 8), (120, .iload 10), (122, .ifCond .eq 136), (125, .iload 5), (127, .iload 8), (129, .iadd), (130, .iload 4), (132, .isub), (133, .goto 153), (136, .iload 9), (138, .iload 5), (140, .if_icmp .ge 148), (143, .iload 9), (145, .goto 153), (148, .iload 9), (150, .iload 6), (152, .iadd), (153, .invokestatic 13121792), (156, .iinc 8 1), (159, .goto 64), (162, .aload 0), (163, .aload 1), (164, .iload 2), (165, .iload 7), (167, .invokevirtual 2705667), (170, .iconst 1), (171, .ireturn)]
def t_Ed_moveLines : List mm_T := [(64, 162, [2, 2, 0, 0, 0, 0, 0, 0, 0, 9, 9], [162])]
def q_Ed_moveLines : mm_M := (c_Ed_moveLines, 11, t_Ed_moveLines)
def c_Ed_mustSwap : List (Nat × Instr) := [(0, .aload 1), (1, .aload 0), (2, .getfield 774), (5, .iload 2), (6, .iconst 1), (7, .isub), (8, .invokestatic 13049856), (11, .iload 3), (12, .invokevirtual 6107145), (15, .istore 5), (17, .aload 1), (18, .aload 0), (19, .getfield 774), (22, .iload 2), (23, .invokestatic 13049856), (26, .iload 3), (27, .invokevirtual 6107145), (30, .istore 6), (32, .iload 4), (34, .iconst 1), (35, .if_icmp .ne 53), (38, .iload 6), (40, .iload 5), (42, .if_icmp .le 49), (45, .iconst 1), (46, .goto 65), (49, .iconst 0), (50, .goto 65), (53, .iload 6), (55, .iload 5), (57, .if_icmp .ge 64), (60, .iconst 1), (61, .goto 65), (64, .iconst 0), (65, .freturn)]
def t_Ed_mustSwap : List mm_T := []
def q_Ed_mustSwap : mm_M := (c_Ed_mustSwap, 7, t_Ed_mustSwap)
def c_Ed_bringLines : List (Nat × Instr) := [(0, .aload 0), (1, .getfield 770), (4, .aload 1), (5, .invokevirtual 5646601), (8, .iload 2), (9, .ifCond .ne 20), (12, .aload 1), (13, .iload 3), (14, .putfield 2304), (17, .goto 25), (20, .aload 1), (21, .iload 3), (22, .putfield 2308), (25, .iconst 0), (26, .istore 4), (28, .jsr_w 0), (28, .iload 4), (30, .iload 3), (31, .if_icmp .ge 150), (34, .aload 0), (35, .getfield 774), (38, .iload 4), (40, .invokestatic 13049856), (43, .istore 5), (45, .iconst 0), (46, .istore 6), (48, .jsr_w 1), (48, .iload 6), (50, .aload 1), (51, .iconst 1), (52, .iload 2), (53, .isub), (54, .invokevirtual 5709833), (57, .if_icmp .ge 99), (60, .iload 2), (61, .ifCond .ne 80), (64, .aload 0), (65, .aload 1), (66, .iload 4), (68, .iload 6), (70, .iload 5), (72, .iload 6), (74, .invokevirtual 2779395), (77, .goto 93), (80, .aload 0), (81, .aload 1), (82, .iload 6), (84, .iload 4), (86, .iload 6), (88, .iload 5), (90, .invokevirtual 2779395), (93, .iinc 6 1), (96, .goto 48), (99, .iconst 0), (100, .istore 6), (102, .jsr_w 2), (102, .iload 6), (104, .iconst 4), (105, .if_icmp .ge 144), (108, .aload 1), (109, .iload 2), (110, .iload 6), (112, .iload 4), (114, .iload 5), (116, .ifCond .ge 123), (119, .iconst (-1)), (120, .goto 135), (123, .aload 0), (124, .getfield 770), (127, .iload 2), (128, .iload 6), (130, .iload 5), (132, .invokevirtual 6373385), (135, .invokevirtual 6445321), (138, .iinc 6 1), (141, .goto 102), (144, .iinc 4 1), (147, .goto 28), (150, .return_)]
def t_Ed_bringLines : List mm_T := [(28, 150, [2, 2, 0, 0, 0, 9, 9], [150]), (48, 99, [2, 2, 0, 0, 0, 0, 0], [99]), (102, 144, [2, 2, 0, 0, 0, 0, 0], [144])]
def q_Ed_bringLines : mm_M := (c_Ed_bringLines, 7, t_Ed_bringLines)
def c_Ed_bringCell : List (Nat × Instr) := [(0, .iload 4), (2, .ifCond .lt 10), (5, .iload 5), (7, .ifCond .ge 14), (10, .iconst 1), (11, .goto 15), (14, .iconst 0), (15, .istore 6), (17, .aload 1), (18, .iload 2), (19, .iload 3), (20, .iload 6), (22, .ifCond .eq 29), (25, .iconst 0), (26, .goto 40), (29, .aload 0), (30, .getfield 770), (33, .iload 4), (35, .iload 5), (37, .invokevirtual 6107145), (40, .invokevirtual 6179081), (43, .iconst 0), (44, .istore 7), (46, .jsr_w 0), (46, .iload 7), (48, .iconst 4), (49, .if_icmp .ge 92), (52, .iload 6), (54, .ifCond .eq 61), (57, .iconst (-1)), (58, .goto 74), (61, .aload 0), (62, .getfield 770), (65, .iload 7), (67, .iload 4), (69, .iload 5), (71, .invokevirtual 6242313), (74, .istore 8), (76, .aload 1), (77, .iload 7), (79, .iload 2), (80, .iload 3), (81, .iload 8), (83, .invokevirtual 6314249), (86, .iinc 7 1), (89, .goto 46), (92, .return_)]
def t_Ed_bringCell : List mm_T := [(46, 92, [2, 2, 0, 0, 0, 0, 0, 0, 9], [92])]
def q_Ed_bringCell : mm_M := (c_Ed_bringCell, 9, t_Ed_bringCell)
def c_Ed_joinNewLine : List (Nat × Instr) := [(0, .iconst 0), (1, .istore 5), (3, .jsr_w 0), (3, .iload 5), (5, .iconst 4), (6, .if_icmp .ge 144), (9, .iconst 0), (10, .istore 6), (12, .jsr_w 1), (12, .iload 6), (14, .aload 1), (15, .iconst 1), (16, .iload 2), (17, .isub), (18, .invokevirtual 5709833), (21, .if_icmp .ge 138), (24, .iload 2), (25, .ifCond .ne 45), (28, .aload 0), (29, .getfield 770), (32, .iload 5), (34, .iload 3), (35, .iconst 1), (36, .isub), (37, .iload 6), (39, .invokevirtual 6242313), (42, .goto 59), (45, .aload 0), (46, .getfield 770), (49, .iload 5), (51, .iload 6), (53, .iload 3), (54, .iconst 1), (55, .isub), (56, .invokevirtual 6242313), (59, .istore 7), (61, .iload 2), (62, .ifCond .ne 80), (65, .aload 0), (66, .getfield 770), (69, .iload 5), (71, .iload 3), (72, .iload 6), (74, .invokevirtual 6242313), (77, .goto 92), (80, .aload 0), (81, .getfield 770), (84, .iload 5), (86, .iload 6), (88, .iload 3), (89, .invokevirtual 6242313), (92, .istore 8), (94, .iload 7), (96, .iload 8), (98, .if_icmp .ne 132), (101, .iload 2), (102, .ifCond .ne 120), (105, .aload 1), (106, .iload 5), (108, .iload 4), (110, .iload 6), (112, .iload 7), (114, .invokevirtual 6314249), (117, .goto 132), (120, .aload 1), (121, .iload 5), (123, .iload 6), (125, .iload 4), (127, .iload 7), (129, .invokevirtual 6314249), (132, .iinc 6 1), (135, .goto 12), (138, .iinc 5 1), (141, .goto 3), (144, .return_)]
def t_Ed_joinNewLine : List mm_T := [(3, 144, [2, 2, 0, 0, 0, 0, 9, 9, 9], [144]), (12, 138, [2, 2, 0, 0, 0, 0, 0, 9, 9], [138])]
def q_Ed_joinNewLine : mm_M := (c_Ed_joinNewLine, 9, t_Ed_joinNewLine)
def c_Hi_init : List (Nat × Instr) := [(0, .aload 0), (1, .checkcast 4), (4, .aload 0), (5, .iconst 31), (7, .anewarray 109), (10, .putfield 1026), (13, .aload 0), (14, .new 585), (17, .dup), (18, .invokevirtual 5576969), (21, .putfield 1030), (24, .iconst 0), (25, .istore 1), (26, .jsr_w 0), (26, .iload 1), (27, .aload 0), (28, .getfield 1026), (31, .arraylength), (32, .if_icmp .ge 54), (35, .aload 0), (36, .getfield 1026), (39, .iload 1), (40, .new 585), (43, .dup), (44, .invokevirtual 5576969), (47, .aastore), (48, .iinc 1 1), (51, .goto 26), (54, .return_)]
def t_Hi_init : List mm_T := [(26, 54, [2, 0], [54])]
def q_Hi_init : mm_M := (c_Hi_init, 2, t_Hi_init)
def c_Hi_stateAt : List (Nat × Instr) := [(0, .aload 0), (1, .getfield 1032), (4, .iload 1), (5, .iadd), (6, .iconst 31), (8, .invokestatic 22290432), (11, .istore 2), (12, .iload 2), (13, .ifCond .lt 34), (16, .iload 2), (17, .aload 0), (18, .getfield 1026), (21, .arraylength), (22, .if_icmp .ge 34), (25, .aload 0), (26, .getfield 1026), (29, .iload 2), (30, .aaload), (31, .goto 35), (34, .sipush 0), (35, .astore 3), (36, .aload 3), (37, .ifnonnull 47), (40, .aload 0), (41, .getfield 1030), (44, .goto 48), (47, .aload 3), (48, .areturn)]
def t_Hi_stateAt : List mm_T := []
def q_Hi_stateAt : mm_M := (c_Hi_stateAt, 4, t_Hi_stateAt)
def c_Hi_draftOfNow : List (Nat × Instr) := [(0, .aload 0), (1, .getfield 1030), (4, .aload 0), (5, .aload 0), (6, .getfield 1036), (9, .invokevirtual 2957828), (12, .invokevirtual 5646601), (15, .aload 0), (16, .getfield 1030), (19, .areturn)]
def t_Hi_draftOfNow : List mm_T := []
def q_Hi_draftOfNow : mm_M := (c_Hi_draftOfNow, 1, t_Hi_draftOfNow)
def c_Hi_acceptDraft : List (Nat × Instr) := [(0, .aload 0), (1, .getfield 1036), (4, .iconst 30), (6, .if_icmp .ge 22), (9, .aload 0), (10, .dup), (11, .getfield 1036), (14, .iconst 1), (15, .iadd), (16, .putfield 1036), (19, .goto 35), (22, .aload 0), (23, .aload 0), (24, .getfield 1032), (27, .iconst 1), (28, .iadd), (29, .iconst 31), (31, .irem), (32, .putfield 1032), (35, .aload 0), (36, .iconst 0), (37, .putfield 1040), (40, .aload 0), (41, .aload 0), (42, .getfield 1036), (45, .invokevirtual 2957828), (48, .aload 0), (49, .getfield 1030), (52, .invokevirtual 5646601), (55, .return_)]
def t_Hi_acceptDraft : List mm_T := []
def q_Hi_acceptDraft : mm_M := (c_Hi_acceptDraft, 1, t_Hi_acceptDraft)
def c_Hi_stepBack : List (Nat × Instr) := [(0, .aload 0), (1, .dup), (2, .getfield 1036), (5, .iconst 1), (6, .isub), (7, .putfield 1036), (10, .aload 0), (11, .dup), (12, .getfield 1040), (15, .iconst 1), (16, .iadd), (17, .putfield 1040), (20, .aload 0), (21, .getfield 1036), (24, .ireturn)]
def t_Hi_stepBack : List mm_T := []
def q_Hi_stepBack : mm_M := (c_Hi_stepBack, 1, t_Hi_stepBack)
def c_Hi_stepOn : List (Nat × Instr) := [(0, .aload 0), (1, .dup), (2, .getfield 1036), (5, .iconst 1), (6, .iadd), (7, .putfield 1036), (10, .aload 0), (11, .dup), (12, .getfield 1040), (15, .iconst 1), (16, .isub), (17, .putfield 1040), (20, .aload 0), (21, .getfield 1040), (24, .ireturn)]
def t_Hi_stepOn : List mm_T := []
def q_Hi_stepOn : mm_M := (c_Hi_stepOn, 1, t_Hi_stepOn)
def c_Hi_startFrom : List (Nat × Instr) := [(0, .aload 0), (1, .iconst 0), (2, .putfield 1036), (5, .aload 0), (6, .iconst 0), (7, .putfield 1040), (10, .aload 0), (11, .iconst 0), (12, .invokevirtual 2957828), (15, .aload 1), (16, .invokevirtual 5646601), (19, .return_)]
def t_Hi_startFrom : List mm_T := []
def q_Hi_startFrom : mm_M := (c_Hi_startFrom, 2, t_Hi_startFrom)
def c_Pr_init : List (Nat × Instr) := [(0, .aload 0), (1, .checkcast 5), (4, .aload 0), (5, .iconst 200), (8, .anewarray 50), (10, .putfield 1282), (13, .return_)]
def t_Pr_init : List mm_T := []
def q_Pr_init : mm_M := (c_Pr_init, 1, t_Pr_init)
def c_Pr_maskAt : List (Nat × Instr) := [(0, .iconst 0), (1, .istore 4), (3, .iconst 0), (4, .istore 5), (6, .jsr_w 0), (6, .iload 5), (8, .aload 1), (9, .getfield 2312), (12, .if_icmp .ge 67), (15, .aload 1), (16, .iload 5), (18, .invokevirtual 6038025), (21, .astore 6), (23, .aload 6), (25, .iload 2), (26, .iload 3), (27, .invokevirtual 4796423), (30, .ifCond .eq 61), (33, .aload 0), (34, .aload 1), (35, .aload 6), (37, .invokevirtual 3488005), (40, .aload 0), (41, .aload 1), (42, .aload 6), (44, .iload 2), (45, .iload 3), (46, .invokevirtual 3559429), (49, .ifCond .eq 61), (52, .iload 4), (54, .iconst 1), (55, .iload 5), (57, .ishl), (58, .ior), (59, .istore 4), (61, .iinc 5 1), (64, .goto 6), (67, .iload 4), (69, .ireturn)]
def t_Pr_maskAt : List mm_T := [(6, 67, [2, 2, 0, 0, 0, 0, 9], [67])]
def q_Pr_maskAt : mm_M := (c_Pr_maskAt, 7, t_Pr_maskAt)
def c_Pr_aim : List (Nat × Instr) := [(0, .aload 0), (1, .iconst 0), (2, .putfield 1288), (5, .aload 0), (6, .iconst (-999)), (9, .putfield 1292), (12, .aload 0), (13, .iconst 999), (16, .putfield 1296), (19, .aload 2), (20, .getfield 1792), (23, .istore 3), (24, .jsr_w 0), (24, .iload 3), (25, .aload 2), (26, .getfield 1800), (29, .if_icmp .gt 105), (32, .aload 2), (33, .getfield 1796), (36, .istore 4), (38, .jsr_w 1), (38, .iload 4), (40, .aload 2), (41, .getfield 1804), (44, .if_icmp .gt 99), (47, .aload 1), (48, .iload 3), (49, .iload 4), (51, .invokevirtual 6107145), (54, .istore 5), (56, .aload 0), (57, .dup), (58, .getfield 1288), (61, .iload 5), (63, .iadd), (64, .putfield 1288), (67, .aload 0), (68, .aload 0), (69, .getfield 1292), (72, .iload 5), (74, .dadd), (77, .putfield 1292), (80, .aload 0), (81, .aload 0), (82, .getfield 1296), (85, .iload 5), (87, .dsub), (90, .putfield 1296), (93, .iinc 4 1), (96, .goto 38), (99, .iinc 3 1), (102, .goto 24), (105, .return_)]
def t_Pr_aim : List mm_T := [(24, 105, [2, 2, 2, 0, 9, 9], [105]), (38, 99, [2, 2, 2, 0, 0, 9], [99])]
def q_Pr_aim : mm_M := (c_Pr_aim, 6, t_Pr_aim)
def c_Pr_isSo : List (Nat × Instr) := [(0, .aload 2), (1, .getfield 1822), (4, .astore 5), (6, .aload 5), (8, .ifnonnull 13), (11, .iconst 0), (12, .freturn), (13, .aload 0), (14, .iload 3), (15, .putfield 1300), (18, .aload 0), (19, .iload 4), (21, .putfield 1304), (24, .aload 0), (25, .iconst 0), (26, .putfield 1284), (29, .aload 0), (30, .iconst 1), (31, .putstatic 1316), (34, .aload 0), (35, .iconst 0), (36, .putstatic 1320), (39, .iconst 0), (40, .istore 6), (42, .iconst 0), (43, .istore 7), (45, .jsr_w 0), (45, .iload 7), (47, .aload 5), (49, .arraylength), (50, .if_icmp .ge 86), (53, .iload 6), (55, .aload 5), (57, .arraylength), (58, .if_icmp .ge 86), (61, .aload 0), (62, .getfield 1316), (65, .ifCond .eq 86), (68, .aload 0), (69, .aload 1), (70, .aload 2), (71, .aload 5), (73, .iload 6), (75, .invokevirtual 3624965), (78, .istore 6), (80, .iinc 7 1), (83, .goto 45), (86, .aload 0), (87, .getfield 1316), (90, .ifCond .eq 104), (93, .aload 0), (94, .invokevirtual 3936261), (97, .ifCond .eq 104), (100, .iconst 1), (101, .goto 105), (104, .iconst 0), (105, .freturn)]
def t_Pr_isSo : List mm_T := [(45, 86, [2, 2, 2, 0, 0, 2, 0, 0], [86])]
def q_Pr_isSo : mm_M := (c_Pr_isSo, 8, t_Pr_isSo)
def c_Pr_step : List (Nat × Instr) := [(0, .aload 3), (1, .iload 4), (3, .invokestatic 13049856), (6, .istore 5), (8, .aload 3), (9, .iload 4), (11, .iconst 1), (12, .iadd), (13, .invokestatic 13049856), (16, .istore 6), (18, .iload 5), (20, .lookupswitch 214 #[(1, 68), (2, 80), (3, 97), (4, 117), (5, 137), (6, 152), (7, 168), (8, 168)]), (68, .aload 0), (69, .iload 6), (71, .i2l), (72, .invokevirtual 3877125), (75, .iload 4), (77, .iconst 2), (78, .iadd), (79, .ireturn), (80, .aload 0), (81, .aload 0), (82, .aload 1), (83, .iload 6), (85, .invokevirtual 3747845), (88, .i2l), (89, .invokevirtual 3877125), (92, .iload 4), (94, .iconst 2), (95, .iadd), (96, .ireturn), (97, .aload 0), (98, .aload 1), (99, .aload 2), (100, .invokevirtual 3815685), (103, .aload 0), (104, .aload 0), (105, .getfield 1308), (108, .i2l), (109, .invokevirtual 3877125), (112, .iload 4), (114, .iconst 1), (115, .iadd), (116, .ireturn), (117, .aload 0), (118, .aload 1), (119, .aload 2), (120, .invokevirtual 3815685), (123, .aload 0), (124, .aload 0), (125, .getfield 1312), (128, .i2l), (129, .invokevirtual 3877125), (132, .iload 4), (134, .iconst 1), (135, .iadd), (136, .ireturn), (137, .aload 0), (138, .aload 0), (139, .invokevirtual 3936261), (142, .i2l), (143, .lneg), (144, .invokevirtual 3877125), (147, .iload 4), (149, .iconst 1), (150, .iadd), (151, .ireturn), (152, .aload 0), (153, .iconst 1), (154, .aload 0), (155, .invokevirtual 3936261), (158, .isub), (159, .i2l), (160, .invokevirtual 3877125), (163, .iload 4), (165, .iconst 1), (166, .iadd), (167, .ireturn), (168, .aload 0), (169, .invokevirtual 3936261), (172, .istore 7), (174, .iload 7), (176, .ifCond .eq 183), (179, .iconst 1), (180, .goto 184), (183, .iconst 0), (184, .iload 5), (186, .iconst 7), (188, .if_icmp .ne 195), (191, .iconst 1), (192, .goto 196), (195, .iconst 0), (196, .if_icmp .eq 204), (199, .iload 4), (201, .iconst 2), (202, .iadd), (203, .ireturn), (204, .aload 0), (205, .iload 7), (207, .i2l), (208, .invokevirtual 3877125), (211, .iload 6), (213, .ireturn), (214, .aload 0), (215, .invokevirtual 3936261), (218, .i2l), (219, .lstore 8), (221, .aload 0), (222, .invokevirtual 3936261), (225, .i2l), (226, .lstore 10), (228, .aload 0), (229, .iload 5), (231, .lload 10), (233, .lload 8), (235, .invokestatic 3682560), (238, .invokevirtual 3877125), (241, .iload 4), (243, .iconst 1), (244, .iadd), (245, .ireturn)]
def t_Pr_step : List mm_T := []
def q_Pr_step : mm_M := (c_Pr_step, 12, t_Pr_step)
def c_Pr_joined : List (Nat × Instr) := [(0, .iload 0), (1, .lookupswitch 108 #[(42, 68), (43, 60), (45, 64), (60, 72), (61, 84), (62, 96)]), (60, .lload 1), (61, .lload 3), (62, .ladd), (63, .lreturn), (64, .lload 1), (65, .lload 3), (66, .lsub), (67, .lreturn), (68, .lload 1), (69, .lload 3), (70, .lmul), (71, .lreturn), (72, .lload 1), (73, .lload 3), (74, .lcmp), (75, .ifCond .ge 82), (78, .jsr 1), (79, .goto 83), (82, .jsr 0), (83, .lreturn), (84, .lload 1), (85, .lload 3), (86, .lcmp), (87, .ifCond .ne 94), (90, .jsr 1), (91, .goto 95), (94, .jsr 0), (95, .lreturn), (96, .lload 1), (97, .lload 3), (98, .lcmp), (99, .ifCond .le 106), (102, .jsr 1), (103, .goto 107), (106, .jsr 0), (107, .lreturn), (108, .jsr 0), (109, .lreturn)]
def t_Pr_joined : List mm_T := []
def q_Pr_joined : mm_M := (c_Pr_joined, 5, t_Pr_joined)
def c_Pr_wordFor : List (Nat × Instr) := [(0, .iload 2), (1, .lookupswitch 138 #[(0, 48), (1, 61), (2, 66), (3, 71), (4, 97), (5, 123), (6, 128), (7, 133)]), (48, .aload 1), (49, .aload 0), (50, .getfield 1300), (53, .aload 0), (54, .getfield 1304), (57, .invokevirtual 6107145), (60, .ireturn), (61, .aload 0), (62, .getfield 1300), (65, .ireturn), (66, .aload 0), (67, .getfield 1304), (70, .ireturn), (71, .aload 0), (72, .getfield 1304), (75, .ifCond .le 95), (78, .aload 1), (79, .aload 0), (80, .getfield 1300), (83, .aload 0), (84, .getfield 1304), (87, .iconst 1), (88, .isub), (89, .invokevirtual 6107145), (92, .goto 96), (95, .iconst 0), (96, .ireturn), (97, .aload 0), (98, .getfield 1300), (101, .ifCond .le 121), (104, .aload 1), (105, .aload 0), (106, .getfield 1300), (109, .iconst 1), (110, .isub), (111, .aload 0), (112, .getfield 1304), (115, .invokevirtual 6107145), (118, .goto 122), (121, .iconst 0), (122, .ireturn), (123, .aload 0), (124, .getfield 1288), (127, .ireturn), (128, .aload 0), (129, .getfield 1292), (132, .ireturn), (133, .aload 0), (134, .getfield 1296), (137, .ireturn), (138, .iconst 0), (139, .ireturn)]
def t_Pr_wordFor : List mm_T := []
def q_Pr_wordFor : mm_M := (c_Pr_wordFor, 3, t_Pr_wordFor)
def c_Pr_countPeers : List (Nat × Instr) := [(0, .aload 0), (1, .getfield 1320), (4, .ifCond .eq 8), (7, .return_), (8, .aload 0), (9, .iconst 1), (10, .putstatic 1320), (13, .aload 0), (14, .iconst 0), (15, .putfield 1308), (18, .aload 0), (19, .iconst 0), (20, .putfield 1312), (23, .aload 1), (24, .aload 0), (25, .getfield 1300), (28, .aload 0), (29, .getfield 1304), (32, .invokevirtual 6107145), (35, .istore 3), (36, .aload 2), (37, .getfield 1792), (40, .istore 4), (42, .jsr_w 0), (42, .iload 4), (44, .aload 2), (45, .getfield 1800), (48, .if_icmp .gt 120), (51, .aload 2), (52, .getfield 1796), (55, .istore 5), (57, .jsr_w 1), (57, .iload 5), (59, .aload 2), (60, .getfield 1804), (63, .if_icmp .gt 114), (66, .aload 1), (67, .iload 4), (69, .iload 5), (71, .invokevirtual 6107145), (74, .istore 6), (76, .iload 6), (78, .iload 3), (79, .if_icmp .ne 92), (82, .aload 0), (83, .dup), (84, .getfield 1308), (87, .iconst 1), (88, .iadd), (89, .putfield 1308), (92, .iload 6), (94, .iload 3), (95, .if_icmp .le 108), (98, .aload 0), (99, .dup), (100, .getfield 1312), (103, .iconst 1), (104, .iadd), (105, .putfield 1312), (108, .iinc 5 1), (111, .goto 57), (114, .iinc 4 1), (117, .goto 42), (120, .return_)]
def t_Pr_countPeers : List mm_T := [(42, 120, [2, 2, 2, 0, 0, 9, 9], [120]), (57, 114, [2, 2, 2, 0, 0, 0, 9], [114])]
def q_Pr_countPeers : mm_M := (c_Pr_countPeers, 7, t_Pr_countPeers)
def c_Pr_push : List (Nat × Instr) := [(0, .lload 1), (1, .lload 1), (2, .l2i), (3, .i2l), (4, .lcmp), (5, .ifCond .eq 13), (8, .aload 0), (9, .iconst 0), (10, .putstatic 1316), (13, .aload 0), (14, .getfield 1282), (17, .aload 0), (18, .getfield 1284), (21, .lload 1), (22, .l2i), (23, .invokestatic 13121792), (26, .aload 0), (27, .dup), (28, .getfield 1284), (31, .iconst 1), (32, .iadd), (33, .putfield 1284), (36, .return_)]
def t_Pr_push : List mm_T := []
def q_Pr_push : mm_M := (c_Pr_push, 3, t_Pr_push)
def c_Pr_pop : List (Nat × Instr) := [(0, .aload 0), (1, .dup), (2, .getfield 1284), (5, .iconst 1), (6, .isub), (7, .putfield 1284), (10, .aload 0), (11, .getfield 1282), (14, .aload 0), (15, .getfield 1284), (18, .invokestatic 13049856), (21, .ireturn)]
def t_Pr_pop : List mm_T := []
def q_Pr_pop : mm_M := (c_Pr_pop, 1, t_Pr_pop)
def c_Pg_init : List (Nat × Instr) := [(0, .aload 0), (1, .checkcast 6), (4, .aload 0), (5, .iconst 1800), (8, .anewarray 50), (10, .putfield 1542), (13, .aload 0), (14, .aload 1), (15, .putfield 1538), (18, .return_)]
def t_Pg_init : List mm_T := []
def q_Pg_init : mm_M := (c_Pg_init, 2, t_Pg_init)
def c_Pg_read : List (Nat × Instr) := [(0, .aload 0), (1, .iconst 0), (2, .putfield 1544), (5, .aload 0), (6, .getfield 1538), (9, .invokevirtual 7280906), (12, .aload 0), (13, .iconst 0), (14, .invokevirtual 4139270), (17, .aload 0), (18, .getfield 1538), (21, .iconst 0), (22, .invokevirtual 7743754), (25, .aload 0), (26, .getfield 1544), (29, .iconst 9), (31, .imul), (32, .istore 1), (33, .aload 0), (34, .getfield 1538), (37, .getfield 2572), (40, .iconst (-1)), (41, .if_icmp .ne 61), (44, .iload 1), (45, .ifCond .lt 61), (48, .iload 1), (49, .aload 0), (50, .getfield 1542), (53, .arraylength), (54, .if_icmp .gt 61), (57, .iconst 1), (58, .goto 62), (61, .iconst 0), (62, .istore 2), (63, .iload 2), (64, .ifCond .eq 78), (67, .aload 0), (68, .getfield 1542), (71, .iload 1), (72, .invokestatic 23142912), (75, .goto 79), (78, .sipush 0), (79, .areturn)]
def t_Pg_read : List mm_T := []
def q_Pg_read : mm_M := (c_Pg_read, 3, t_Pg_read)
def c_Pg_readLines : List (Nat × Instr) := [(0, .iconst 0), (1, .istore 2), (2, .jsr_w 0), (2, .iload 2), (3, .iconst 200), (6, .if_icmp .ge 131), (9, .aload 0), (10, .getfield 1538), (13, .getfield 2568), (16, .iconst 1), (17, .if_icmp .ne 131), (20, .aload 0), (21, .getfield 1538), (24, .sipush (-20)), (26, .invokevirtual 7872522), (29, .istore 3), (30, .aload 0), (31, .getfield 1544), (34, .istore 4), (36, .aload 0), (37, .dup), (38, .getfield 1544), (41, .iconst 1), (42, .iadd), (43, .putfield 1544), (46, .aload 0), (47, .iload 4), (49, .iconst 9), (51, .imul), (52, .putfield 1548), (55, .aload 0), (56, .iload 3), (57, .invokevirtual 4598022), (60, .aload 0), (61, .iload 3), (62, .invokevirtual 4270342), (65, .iload 3), (66, .iconst 9), (68, .if_icmp .eq 83), (71, .aload 0), (72, .getfield 1538), (75, .iconst 59), (77, .invokevirtual 7743754), (80, .goto 125), (83, .aload 0), (84, .iload 1), (85, .invokevirtual 4202502), (88, .ifCond .eq 125), (91, .aload 0), (92, .iload 1), (93, .iconst 1), (94, .iadd), (95, .invokevirtual 4139270), (98, .aload 0), (99, .getfield 1538), (102, .iconst 125), (104, .invokevirtual 7743754), (107, .aload 0), (108, .getfield 1542), (111, .iload 4), (113, .iconst 9), (115, .imul), (116, .iconst 2), (117, .iadd), (118, .aload 0), (119, .getfield 1544), (122, .invokestatic 13121792), (125, .iinc 2 1), (128, .goto 2), (131, .return_)]
def t_Pg_readLines : List mm_T := [(2, 131, [2, 0, 0, 9, 9], [131])]
def q_Pg_readLines : mm_M := (c_Pg_readLines, 5, t_Pg_readLines)
def c_Pg_opens : List (Nat × Instr) := [(0, .iload 1), (1, .iconst 4), (2, .if_icmp .ge 17), (5, .aload 0), (6, .getfield 1538), (9, .iconst 123), (11, .invokevirtual 7743754), (14, .goto 24), (17, .aload 0), (18, .getfield 1538), (21, .invokevirtual 7477514), (24, .iload 1), (25, .iconst 4), (26, .if_icmp .ge 44), (29, .aload 0), (30, .getfield 1538), (33, .getfield 2572), (36, .iconst (-1)), (37, .if_icmp .ne 44), (40, .iconst 1), (41, .goto 45), (44, .iconst 0), (45, .freturn)]
def t_Pg_opens : List mm_T := []
def q_Pg_opens : mm_M := (c_Pg_opens, 2, t_Pg_opens)
def c_Pg_readNumbers : List (Nat × Instr) := [(0, .iload 1), (1, .lookupswitch 187 #[(0, 56), (1, 67), (2, 67), (3, 80), (4, 102), (5, 124), (6, 124), (7, 145), (8, 161), (9, 172)]), (56, .aload 0), (57, .invokevirtual 4331782), (60, .aload 0), (61, .invokevirtual 4462854), (64, .goto 194), (67, .aload 0), (68, .invokevirtual 4331782), (71, .aload 0), (72, .sipush (-28)), (74, .invokevirtual 4401414), (77, .goto 194), (80, .aload 0), (81, .aload 0), (82, .getfield 1538), (85, .sipush (-30)), (87, .invokevirtual 7872522), (90, .invokevirtual 4598022), (93, .aload 0), (94, .sipush (-32)), (96, .invokevirtual 4401414), (99, .goto 194), (102, .aload 0), (103, .aload 0), (104, .getfield 1538), (107, .sipush (-30)), (109, .invokevirtual 7872522), (112, .invokevirtual 4598022), (115, .aload 0), (116, .sipush (-28)), (118, .invokevirtual 4401414), (121, .goto 194), (124, .aload 0), (125, .invokevirtual 4462854), (128, .aload 0), (129, .getfield 1538), (132, .sipush (-28)), (134, .invokevirtual 7872522), (137, .pop), (138, .aload 0), (139, .invokevirtual 4462854), (142, .goto 194), (145, .aload 0), (146, .aload 0), (147, .getfield 1538), (150, .sipush (-22)), (152, .invokevirtual 7872522), (155, .invokevirtual 4598022), (158, .goto 194), (161, .aload 0), (162, .invokevirtual 4528390), (165, .aload 0), (166, .invokevirtual 4528390), (169, .goto 194), (172, .aload 0), (173, .aload 0), (174, .getfield 1538), (177, .iconst 2), (178, .invokevirtual 7806986), (181, .invokevirtual 4598022), (184, .goto 194), (187, .aload 0), (188, .getfield 1538), (191, .invokevirtual 7477514), (194, .return_)]
def t_Pg_readNumbers : List mm_T := []
def q_Pg_readNumbers : mm_M := (c_Pg_readNumbers, 2, t_Pg_readNumbers)
def c_Pg_addFormat : List (Nat × Instr) := [(0, .aload 0), (1, .aload 0), (2, .getfield 1538), (5, .sipush (-22)), (7, .invokevirtual 7872522), (10, .invokevirtual 4598022), (13, .aload 0), (14, .aload 0), (15, .getfield 1538), (18, .sipush (-24)), (20, .invokevirtual 7610378), (23, .ifCond .eq 30), (26, .iconst (-1)), (27, .goto 38), (30, .aload 0), (31, .getfield 1538), (34, .iconst 2), (35, .invokevirtual 7806986), (38, .invokevirtual 4598022), (41, .return_)]
def t_Pg_addFormat : List mm_T := []
def q_Pg_addFormat : mm_M := (c_Pg_addFormat, 1, t_Pg_addFormat)
def c_Pg_addTwo : List (Nat × Instr) := [(0, .aload 0), (1, .aload 0), (2, .getfield 1538), (5, .iconst 2), (6, .invokevirtual 7806986), (9, .invokevirtual 4598022), (12, .aload 0), (13, .getfield 1538), (16, .aload 1), (17, .invokevirtual 7872522), (20, .pop), (21, .aload 0), (22, .aload 0), (23, .getfield 1538), (26, .iconst 2), (27, .invokevirtual 7806986), (30, .invokevirtual 4598022), (33, .return_)]
def t_Pg_addTwo : List mm_T := []
def q_Pg_addTwo : mm_M := (c_Pg_addTwo, 2, t_Pg_addTwo)
def c_Pg_addArea : List (Nat × Instr) := [(0, .aload 0), (1, .getfield 1538), (4, .sipush (-26)), (6, .invokevirtual 7872522), (9, .istore 1), (10, .aload 0), (11, .getfield 1538), (14, .iconst 2), (15, .invokevirtual 7806986), (18, .istore 2), (19, .aload 0), (20, .getfield 1538), (23, .iconst 58), (25, .invokevirtual 7675914), (28, .istore 3), (29, .iload 3), (30, .ifCond .eq 45), (33, .aload 0), (34, .getfield 1538), (37, .sipush (-26)), (39, .invokevirtual 7872522), (42, .goto 46), (45, .iload 1), (46, .istore 4), (48, .iload 3), (49, .ifCond .eq 63), (52, .aload 0), (53, .getfield 1538), (56, .iconst 2), (57, .invokevirtual 7806986), (60, .goto 64), (63, .iload 2), (64, .istore 5), (66, .aload 0), (67, .iload 2), (68, .invokevirtual 4598022), (71, .aload 0), (72, .iload 1), (73, .invokevirtual 4598022), (76, .aload 0), (77, .iload 5), (79, .invokevirtual 4598022), (82, .aload 0), (83, .iload 4), (85, .invokevirtual 4598022), (88, .return_)]
def t_Pg_addArea : List mm_T := []
def q_Pg_addArea : mm_M := (c_Pg_addArea, 6, t_Pg_addArea)
def c_Pg_addMove : List (Nat × Instr) := [(0, .aload 0), (1, .getfield 1538), (4, .iconst 45), (6, .invokevirtual 7675914), (9, .istore 1), (10, .aload 0), (11, .getfield 1538), (14, .iconst 2), (15, .invokevirtual 7806986), (18, .istore 2), (19, .aload 0), (20, .iload 1), (21, .ifCond .eq 29), (24, .iload 2), (25, .ineg), (26, .goto 30), (29, .iload 2), (30, .invokevirtual 4598022), (33, .return_)]
def t_Pg_addMove : List mm_T := []
def q_Pg_addMove : mm_M := (c_Pg_addMove, 3, t_Pg_addMove)
def c_Pg_add : List (Nat × Instr) := [(0, .aload 0), (1, .getfield 1542), (4, .aload 0), (5, .getfield 1548), (8, .iload 1), (9, .invokestatic 13121792), (12, .aload 0), (13, .dup), (14, .getfield 1548), (17, .iconst 1), (18, .iadd), (19, .putfield 1548), (22, .return_)]
def t_Pg_add : List mm_T := []
def q_Pg_add : mm_M := (c_Pg_add, 2, t_Pg_add)
def c_Ru_init : List (Nat × Instr) := [(0, .aload 0), (1, .checkcast 7), (4, .return_)]
def t_Ru_init : List mm_T := []
def q_Ru_init : mm_M := (c_Ru_init, 1, t_Ru_init)
def c_Ru_become : List (Nat × Instr) := [(0, .aload 0), (1, .aload 1), (2, .getfield 1792), (5, .putfield 1792), (8, .aload 0), (9, .aload 1), (10, .getfield 1796), (13, .putfield 1796), (16, .aload 0), (17, .aload 1), (18, .getfield 1800), (21, .putfield 1800), (24, .aload 0), (25, .aload 1), (26, .getfield 1804), (29, .putfield 1804), (32, .aload 0), (33, .aload 1), (34, .getfield 1808), (37, .putfield 1808), (40, .aload 0), (41, .aload 1), (42, .getfield 1812), (45, .putfield 1812), (48, .aload 0), (49, .aload 1), (50, .getfield 1816), (53, .putfield 1816), (56, .aload 0), (57, .aload 1), (58, .getfield 1822), (61, .putfield 1822), (64, .return_)]
def t_Ru_become : List mm_T := []
def q_Ru_become : mm_M := (c_Ru_become, 2, t_Ru_become)
def c_Ru_covers : List (Nat × Instr) := [(0, .iload 1), (1, .aload 0), (2, .getfield 1792), (5, .if_icmp .lt 36), (8, .iload 1), (9, .aload 0), (10, .getfield 1800), (13, .if_icmp .gt 36), (16, .iload 2), (17, .aload 0), (18, .getfield 1796), (21, .if_icmp .lt 36), (24, .iload 2), (25, .aload 0), (26, .getfield 1804), (29, .if_icmp .gt 36), (32, .iconst 1), (33, .goto 37), (36, .iconst 0), (37, .freturn)]
def t_Ru_covers : List mm_T := []
def q_Ru_covers : mm_M := (c_Ru_covers, 3, t_Ru_covers)
def c_Ru_makeRoom : List (Nat × Instr) := [(0, .iload 1), (1, .ifCond .ne 43), (4, .aload 0), (5, .getfield 1792), (8, .iload 2), (9, .if_icmp .lt 22), (12, .aload 0), (13, .dup), (14, .getfield 1792), (17, .iload 3), (18, .iadd), (19, .putfield 1792), (22, .aload 0), (23, .getfield 1800), (26, .iload 2), (27, .if_icmp .lt 79), (30, .aload 0), (31, .dup), (32, .getfield 1800), (35, .iload 3), (36, .iadd), (37, .putfield 1800), (40, .goto 79), (43, .aload 0), (44, .getfield 1796), (47, .iload 2), (48, .if_icmp .lt 61), (51, .aload 0), (52, .dup), (53, .getfield 1796), (56, .iload 3), (57, .iadd), (58, .putfield 1796), (61, .aload 0), (62, .getfield 1804), (65, .iload 2), (66, .if_icmp .lt 79), (69, .aload 0), (70, .dup), (71, .getfield 1804), (74, .iload 3), (75, .iadd), (76, .putfield 1804), (79, .return_)]
def t_Ru_makeRoom : List mm_T := []
def q_Ru_makeRoom : mm_M := (c_Ru_makeRoom, 4, t_Ru_makeRoom)
def c_Ru_loseLines : List (Nat × Instr) := [(0, .iload 1), (1, .ifCond .ne 33), (4, .aload 0), (5, .aload 0), (6, .getfield 1792), (9, .iload 2), (10, .iload 3), (11, .invokestatic 4993024), (14, .putfield 1792), (17, .aload 0), (18, .aload 0), (19, .getfield 1800), (22, .iload 2), (23, .iload 3), (24, .invokestatic 5058560), (27, .putfield 1800), (30, .goto 59), (33, .aload 0), (34, .aload 0), (35, .getfield 1796), (38, .iload 2), (39, .iload 3), (40, .invokestatic 4993024), (43, .putfield 1796), (46, .aload 0), (47, .aload 0), (48, .getfield 1804), (51, .iload 2), (52, .iload 3), (53, .invokestatic 5058560), (56, .putfield 1804), (59, .aload 0), (60, .getfield 1792), (63, .aload 0), (64, .getfield 1800), (67, .if_icmp .gt 85), (70, .aload 0), (71, .getfield 1796), (74, .aload 0), (75, .getfield 1804), (78, .if_icmp .gt 85), (81, .iconst 1), (82, .goto 86), (85, .iconst 0), (86, .freturn)]
def t_Ru_loseLines : List mm_T := []
def q_Ru_loseLines : mm_M := (c_Ru_loseLines, 4, t_Ru_loseLines)
def c_Ru_firstLeft : List (Nat × Instr) := [(0, .iload 0), (1, .iload 1), (2, .if_icmp .ge 9), (5, .iload 0), (6, .goto 22), (9, .iload 0), (10, .iload 2), (11, .iconst 1), (12, .iadd), (13, .dadd), (16, .iload 2), (17, .iload 1), (18, .isub), (19, .iconst 1), (20, .iadd), (21, .isub), (22, .ireturn)]
def t_Ru_firstLeft : List mm_T := []
def q_Ru_firstLeft : mm_M := (c_Ru_firstLeft, 3, t_Ru_firstLeft)
def c_Ru_lastLeft : List (Nat × Instr) := [(0, .iload 0), (1, .iload 1), (2, .if_icmp .ge 9), (5, .iload 0), (6, .goto 20), (9, .iload 0), (10, .iload 2), (11, .dadd), (14, .iload 2), (15, .iload 1), (16, .isub), (17, .iconst 1), (18, .iadd), (19, .isub), (20, .ireturn)]
def t_Ru_lastLeft : List mm_T := []
def q_Ru_lastLeft : mm_M := (c_Ru_lastLeft, 3, t_Ru_lastLeft)
def c_Rn_init : List (Nat × Instr) := [(0, .aload 0), (1, .checkcast 8), (4, .aload 0), (5, .aload 1), (6, .putfield 2050), (9, .return_)]
def t_Rn_init : List mm_T := []
def q_Rn_init : mm_M := (c_Rn_init, 2, t_Rn_init)
def c_Rn_runOn : List (Nat × Instr) := [(0, .aload 0), (1, .iconst 0), (2, .putfield 2052), (5, .aload 0), (6, .iconst 0), (7, .putfield 2056), (10, .aload 0), (11, .iconst 0), (12, .putfield 2060), (15, .aload 0), (16, .iconst 0), (17, .putstatic 2064), (20, .aload 0), (21, .aload 1), (22, .aload 2), (23, .iconst 0), (24, .aload 2), (25, .arraylength), (26, .iconst 9), (28, .idiv), (29, .iconst 0), (30, .invokevirtual 5269768), (33, .aload 0), (34, .getfield 2064), (37, .ifCond .eq 50), (40, .iconst (-100)), (42, .aload 0), (43, .getfield 2052), (46, .isub), (47, .goto 54), (50, .aload 0), (51, .getfield 2052), (54, .ireturn)]
def t_Rn_runOn : List mm_T := []
def q_Rn_runOn : mm_M := (c_Rn_runOn, 3, t_Rn_runOn)
def c_Rn_runLines : List (Nat × Instr) := [(0, .iload 3), (1, .istore 6), (3, .iload 3), (4, .istore 7), (6, .jsr_w 0), (6, .iload 7), (8, .iload 4), (10, .if_icmp .ge 185), (13, .iload 6), (15, .iload 4), (17, .if_icmp .ge 185), (20, .aload 0), (21, .getfield 2064), (24, .ifCond .ne 185), (27, .iload 6), (29, .iconst 9), (31, .imul), (32, .istore 8), (34, .iinc 6 1), (37, .aload 0), (38, .aload 0), (39, .getfield 2052), (42, .iconst 60), (44, .if_icmp .lt 51), (47, .iconst 1), (48, .goto 52), (51, .iconst 0), (52, .putstatic 2064), (55, .aload 0), (56, .getfield 2064), (59, .ifCond .eq 63), (62, .return_), (63, .aload 0), (64, .dup), (65, .getfield 2052), (68, .iconst 1), (69, .iadd), (70, .putfield 2052), (73, .aload 2), (74, .iload 8), (76, .invokestatic 13049856), (79, .iconst 9), (81, .if_icmp .ne 159), (84, .aload 2), (85, .iload 8), (87, .iconst 1), (88, .iadd), (89, .invokestatic 13049856), (92, .istore 9), (94, .iload 6), (96, .aload 2), (97, .iload 8), (99, .iconst 2), (100, .iadd), (101, .invokestatic 13049856), (104, .dadd), (107, .istore 10), (109, .iconst 0), (110, .istore 11), (112, .jsr_w 1), (112, .iload 11), (114, .iload 9), (116, .if_icmp .ge 152), (119, .iload 5), (121, .iconst 4), (122, .if_icmp .ge 152), (125, .aload 0), (126, .getfield 2064), (129, .ifCond .ne 152), (132, .aload 0), (133, .aload 1), (134, .aload 2), (135, .iload 6), (137, .iload 10), (139, .iload 5), (141, .iconst 1), (142, .iadd), (143, .invokevirtual 5269768), (146, .iinc 11 1), (149, .goto 112), (152, .iload 10), (154, .istore 6), (156, .goto 179), (159, .aload 0), (160, .aload 0), (161, .aload 1), (162, .aload 2), (163, .iload 8), (165, .invokevirtual 5324808), (168, .ifCond .ge 175), (171, .iconst 1), (172, .goto 176), (175, .iconst 0), (176, .putstatic 2064), (179, .iinc 7 1), (182, .goto 6), (185, .return_)]
def t_Rn_runLines : List mm_T := [(6, 185, [2, 2, 2, 0, 0, 0, 0, 0, 9, 9, 9, 9], [185]), (112, 152, [2, 2, 2, 0, 0, 0, 0, 0, 0, 0, 0, 0], [152])]
def q_Rn_runLines : mm_M := (c_Rn_runLines, 12, t_Rn_runLines)
def c_Rn_perform : List (Nat × Instr) := [(0, .aload 2), (1, .iload 3), (2, .invokestatic 13049856), (5, .istore 4), (7, .aload 2), (8, .iload 3), (9, .iconst 1), (10, .iadd), (11, .invokestatic 13049856), (14, .istore 5), (16, .aload 2), (17, .iload 3), (18, .iconst 2), (19, .iadd), (20, .invokestatic 13049856), (23, .istore 6), (25, .iload 4), (27, .lookupswitch 285 #[(0, 76), (1, 97), (2, 122), (3, 147), (4, 174), (5, 198), (6, 224), (7, 250), (8, 261)]), (76, .aload 0), (77, .getfield 2050), (80, .aload 1), (81, .iload 5), (83, .iload 6), (85, .aload 0), (86, .aload 2), (87, .iload 3), (88, .iconst 3), (89, .iadd), (90, .invokevirtual 5451784), (93, .invokevirtual 1986563), (96, .ireturn), (97, .aload 0), (98, .getfield 2050), (101, .aload 1), (102, .iconst 0), (103, .iload 5), (105, .iload 6), (107, .aload 2), (108, .iload 3), (109, .iconst 3), (110, .iadd), (111, .aload 0), (112, .getfield 2056), (115, .invokestatic 5517312), (118, .invokevirtual 2056195), (121, .ireturn), (122, .aload 0), (123, .getfield 2050), (126, .aload 1), (127, .iconst 1), (128, .iload 5), (130, .iload 6), (132, .aload 2), (133, .iload 3), (134, .iconst 3), (135, .iadd), (136, .aload 0), (137, .getfield 2060), (140, .invokestatic 5517312), (143, .invokevirtual 2056195), (146, .ireturn), (147, .aload 0), (148, .getfield 2050), (151, .aload 1), (152, .iload 5), (154, .iload 6), (156, .aload 0), (157, .iload 5), (159, .invokevirtual 5382152), (162, .iadd), (163, .aload 2), (164, .iload 3), (165, .iconst 3), (166, .iadd), (167, .invokestatic 13049856), (170, .invokevirtual 2248707), (173, .ireturn), (174, .aload 0), (175, .getfield 2050), (178, .aload 1), (179, .iload 5), (181, .aload 2), (182, .iload 3), (183, .iconst 2), (184, .iadd), (185, .aload 0), (186, .iload 5), (188, .invokevirtual 5382152), (191, .invokestatic 5517312), (194, .invokevirtual 2310147), (197, .ireturn), (198, .aload 0), (199, .getfield 2050), (202, .aload 1), (203, .aload 0), (204, .aload 2), (205, .iload 3), (206, .iconst 1), (207, .iadd), (208, .invokevirtual 5451784), (211, .aload 0), (212, .aload 2), (213, .iload 3), (214, .iconst 5), (215, .iadd), (216, .invokevirtual 5451784), (219, .iconst 0), (220, .invokevirtual 2379779), (223, .ireturn), (224, .aload 0), (225, .getfield 2050), (228, .aload 1), (229, .aload 0), (230, .aload 2), (231, .iload 3), (232, .iconst 1), (233, .iadd), (234, .invokevirtual 5451784), (237, .aload 0), (238, .aload 2), (239, .iload 3), (240, .iconst 5), (241, .iadd), (242, .invokevirtual 5451784), (245, .iconst 1), (246, .invokevirtual 2379779), (249, .ireturn), (250, .aload 0), (251, .getfield 2050), (254, .aload 1), (255, .iload 5), (257, .invokevirtual 2437123), (260, .ireturn), (261, .aload 0), (262, .dup), (263, .getfield 2056), (266, .iload 5), (268, .iadd), (269, .putfield 2056), (272, .aload 0), (273, .dup), (274, .getfield 2060), (277, .iload 6), (279, .iadd), (280, .putfield 2060), (283, .iconst 1), (284, .ireturn), (285, .iconst (-2)), (287, .ireturn)]
def t_Rn_perform : List mm_T := []
def q_Rn_perform : mm_M := (c_Rn_perform, 7, t_Rn_perform)
def c_Rn_originOf : List (Nat × Instr) := [(0, .iload 1), (1, .ifCond .ne 11), (4, .aload 0), (5, .getfield 2056), (8, .goto 15), (11, .aload 0), (12, .getfield 2060), (15, .ireturn)]
def t_Rn_originOf : List mm_T := []
def q_Rn_originOf : mm_M := (c_Rn_originOf, 2, t_Rn_originOf)
def c_Rn_areaAt : List (Nat × Instr) := [(0, .aload 1), (1, .iload 2), (2, .invokestatic 13049856), (5, .aload 0), (6, .getfield 2056), (9, .iadd), (10, .aload 1), (11, .iload 2), (12, .iconst 1), (13, .iadd), (14, .invokestatic 13049856), (17, .aload 0), (18, .getfield 2060), (21, .iadd), (22, .aload 1), (23, .iload 2), (24, .iconst 2), (25, .iadd), (26, .invokestatic 13049856), (29, .aload 0), (30, .getfield 2056), (33, .iadd), (34, .aload 1), (35, .iload 2), (36, .iconst 3), (37, .iadd), (38, .invokestatic 13049856), (41, .aload 0), (42, .getfield 2060), (45, .iadd), (46, .invokestatic 13844480), (49, .ireturn)]
def t_Rn_areaAt : List mm_T := []
def q_Rn_areaAt : mm_M := (c_Rn_areaAt, 3, t_Rn_areaAt)
def c_Rn_linesAt : List (Nat × Instr) := [(0, .aload 0), (1, .iload 1), (2, .invokestatic 13049856), (5, .iload 2), (6, .iadd), (7, .aload 0), (8, .iload 1), (9, .iconst 1), (10, .iadd), (11, .invokestatic 13049856), (14, .iload 2), (15, .iadd), (16, .invokestatic 13901824), (19, .ireturn)]
def t_Rn_linesAt : List mm_T := []
def q_Rn_linesAt : mm_M := (c_Rn_linesAt, 3, t_Rn_linesAt)
def c_Sh_init : List (Nat × Instr) := [(0, .aload 0), (1, .checkcast 9), (4, .aload 0), (5, .iconst 8), (7, .putfield 2304), (10, .aload 0), (11, .iconst 8), (13, .putfield 2308), (16, .aload 0), (17, .iconst 256), (20, .anewarray 50), (22, .putfield 2318), (25, .aload 0), (26, .iconst 1024), (29, .anewarray 50), (31, .putfield 2322), (34, .aload 0), (35, .iconst 128), (38, .anewarray 50), (40, .putfield 2326), (43, .aload 0), (44, .iconst 4), (45, .anewarray 50), (47, .putfield 2330), (50, .aload 0), (51, .iconst 6), (53, .anewarray 107), (56, .putfield 2334), (59, .aload 0), (60, .new 456), (63, .dup), (64, .invokevirtual 4659463), (67, .putfield 2338), (70, .aload 0), (71, .getfield 2322), (74, .iconst (-1)), (75, .invokestatic 23079168), (78, .aload 0), (79, .getfield 2326), (82, .iconst (-1)), (83, .invokestatic 23079168), (86, .iconst 0), (87, .istore 1), (88, .jsr_w 0), (88, .iload 1), (89, .aload 0), (90, .getfield 2334), (93, .arraylength), (94, .if_icmp .ge 116), (97, .aload 0), (98, .getfield 2334), (101, .iload 1), (102, .new 456), (105, .dup), (106, .invokevirtual 4659463), (109, .aastore), (110, .iinc 1 1), (113, .goto 88), (116, .return_)]
def t_Sh_init : List mm_T := [(88, 116, [2, 0], [116])]
def q_Sh_init : mm_M := (c_Sh_init, 2, t_Sh_init)
def c_Sh_become : List (Nat × Instr) := [(0, .aload 0), (1, .aload 1), (2, .getfield 2304), (5, .putfield 2304), (8, .aload 0), (9, .aload 1), (10, .getfield 2308), (13, .putfield 2308), (16, .aload 0), (17, .aload 1), (18, .getfield 2312), (21, .putfield 2312), (24, .aload 1), (25, .getfield 2318), (28, .iconst 0), (29, .aload 0), (30, .getfield 2318), (33, .iconst 0), (34, .iconst 256), (37, .daload), (40, .aload 1), (41, .getfield 2322), (44, .iconst 0), (45, .aload 0), (46, .getfield 2322), (49, .iconst 0), (50, .iconst 1024), (53, .daload), (56, .aload 1), (57, .getfield 2326), (60, .iconst 0), (61, .aload 0), (62, .getfield 2326), (65, .iconst 0), (66, .iconst 128), (69, .daload), (72, .aload 1), (73, .getfield 2330), (76, .iconst 0), (77, .aload 0), (78, .getfield 2330), (81, .iconst 0), (82, .iconst 4), (83, .daload), (86, .iconst 0), (87, .istore 2), (88, .jsr_w 0), (88, .iload 2), (89, .aload 0), (90, .getfield 2312), (93, .if_icmp .ge 115), (96, .aload 0), (97, .iload 2), (98, .invokevirtual 6038025), (101, .aload 1), (102, .iload 2), (103, .invokevirtual 6038025), (106, .invokevirtual 4729095), (109, .iinc 2 1), (112, .goto 88), (115, .return_)]
def t_Sh_become : List mm_T := [(88, 115, [2, 2, 0], [115])]
def q_Sh_become : mm_M := (c_Sh_become, 3, t_Sh_become)
def c_Sh_size : List (Nat × Instr) := [(0, .iload 1), (1, .ifCond .ne 11), (4, .aload 0), (5, .getfield 2304), (8, .goto 15), (11, .aload 0), (12, .getfield 2308), (15, .ireturn)]
def t_Sh_size : List mm_T := []
def q_Sh_size : mm_M := (c_Sh_size, 2, t_Sh_size)
def c_Sh_hasCell : List (Nat × Instr) := [(0, .iload 1), (1, .ifCond .lt 30), (4, .iload 1), (5, .iconst 100), (7, .idiv), (8, .aload 0), (9, .getfield 2304), (12, .if_icmp .ge 30), (15, .iload 1), (16, .iconst 100), (18, .irem), (19, .aload 0), (20, .getfield 2308), (23, .if_icmp .ge 30), (26, .iconst 1), (27, .goto 31), (30, .iconst 0), (31, .freturn)]
def t_Sh_hasCell : List mm_T := []
def q_Sh_hasCell : mm_M := (c_Sh_hasCell, 2, t_Sh_hasCell)
def c_Sh_hasRect : List (Nat × Instr) := [(0, .iload 1), (1, .ifCond .lt 52), (4, .iload 1), (5, .invokestatic 13570048), (8, .iload 1), (9, .invokestatic 13701120), (12, .if_icmp .gt 52), (15, .iload 1), (16, .invokestatic 13701120), (19, .aload 0), (20, .getfield 2304), (23, .if_icmp .ge 52), (26, .iload 1), (27, .invokestatic 13635584), (30, .iload 1), (31, .invokestatic 13766656), (34, .if_icmp .gt 52), (37, .iload 1), (38, .invokestatic 13766656), (41, .aload 0), (42, .getfield 2308), (45, .if_icmp .ge 52), (48, .iconst 1), (49, .goto 53), (52, .iconst 0), (53, .freturn)]
def t_Sh_hasRect : List mm_T := []
def q_Sh_hasRect : mm_M := (c_Sh_hasRect, 2, t_Sh_hasRect)
def c_Sh_hasLines : List (Nat × Instr) := [(0, .iload 2), (1, .ifCond .lt 31), (4, .iload 2), (5, .iconst 100), (7, .idiv), (8, .iload 2), (9, .iconst 100), (11, .irem), (12, .if_icmp .gt 31), (15, .iload 2), (16, .iconst 100), (18, .irem), (19, .aload 0), (20, .iload 1), (21, .invokevirtual 5709833), (24, .if_icmp .ge 31), (27, .iconst 1), (28, .goto 32), (31, .iconst 0), (32, .freturn)]
def t_Sh_hasLines : List mm_T := []
def q_Sh_hasLines : mm_M := (c_Sh_hasLines, 3, t_Sh_hasLines)
def c_Sh_hasRule : List (Nat × Instr) := [(0, .iload 1), (1, .ifCond .lt 16), (4, .iload 1), (5, .aload 0), (6, .getfield 2312), (9, .if_icmp .ge 16), (12, .iconst 1), (13, .goto 17), (16, .iconst 0), (17, .freturn)]
def t_Sh_hasRule : List mm_T := []
def q_Sh_hasRule : mm_M := (c_Sh_hasRule, 2, t_Sh_hasRule)
def c_Sh_ruleAt : List (Nat × Instr) := [(0, .iload 1), (1, .ifCond .lt 22), (4, .iload 1), (5, .aload 0), (6, .getfield 2334), (9, .arraylength), (10, .if_icmp .ge 22), (13, .aload 0), (14, .getfield 2334), (17, .iload 1), (18, .aaload), (19, .goto 23), (22, .sipush 0), (23, .astore 2), (24, .aload 2), (25, .ifnonnull 35), (28, .aload 0), (29, .getfield 2338), (32, .goto 36), (35, .aload 2), (36, .areturn)]
def t_Sh_ruleAt : List mm_T := []
def q_Sh_ruleAt : mm_M := (c_Sh_ruleAt, 3, t_Sh_ruleAt)
def c_Sh_valueOf : List (Nat × Instr) := [(0, .iload 1), (1, .iconst 16), (3, .imul), (4, .iload 2), (5, .iadd), (6, .istore 3), (7, .iload 3), (8, .ifCond .lt 29), (11, .iload 3), (12, .aload 0), (13, .getfield 2318), (16, .arraylength), (17, .if_icmp .ge 29), (20, .aload 0), (21, .getfield 2318), (24, .iload 3), (25, .iaload), (26, .goto 30), (29, .iconst 0), (30, .ireturn)]
def t_Sh_valueOf : List mm_T := []
def q_Sh_valueOf : mm_M := (c_Sh_valueOf, 4, t_Sh_valueOf)
def c_Sh_setValueOf : List (Nat × Instr) := [(0, .iload 1), (1, .iconst 16), (3, .imul), (4, .iload 2), (5, .iadd), (6, .istore 4), (8, .iload 4), (10, .ifCond .lt 31), (13, .iload 4), (15, .aload 0), (16, .getfield 2318), (19, .arraylength), (20, .if_icmp .ge 31), (23, .aload 0), (24, .getfield 2318), (27, .iload 4), (29, .iload 3), (30, .iastore), (31, .return_)]
def t_Sh_setValueOf : List mm_T := []
def q_Sh_setValueOf : mm_M := (c_Sh_setValueOf, 5, t_Sh_setValueOf)
def c_Sh_cellFormat : List (Nat × Instr) := [(0, .iload 1), (1, .iconst 256), (4, .imul), (5, .iload 2), (6, .iconst 16), (8, .imul), (9, .iadd), (10, .iload 3), (11, .iadd), (12, .istore 4), (14, .iload 4), (16, .ifCond .lt 39), (19, .iload 4), (21, .aload 0), (22, .getfield 2322), (25, .arraylength), (26, .if_icmp .ge 39), (29, .aload 0), (30, .getfield 2322), (33, .iload 4), (35, .iaload), (36, .goto 40), (39, .iconst (-1)), (40, .ireturn)]
def t_Sh_cellFormat : List mm_T := []
def q_Sh_cellFormat : mm_M := (c_Sh_cellFormat, 5, t_Sh_cellFormat)
def c_Sh_setCellFormat : List (Nat × Instr) := [(0, .iload 1), (1, .iconst 256), (4, .imul), (5, .iload 2), (6, .iconst 16), (8, .imul), (9, .iadd), (10, .iload 3), (11, .iadd), (12, .istore 5), (14, .iload 5), (16, .ifCond .lt 38), (19, .iload 5), (21, .aload 0), (22, .getfield 2322), (25, .arraylength), (26, .if_icmp .ge 38), (29, .aload 0), (30, .getfield 2322), (33, .iload 5), (35, .iload 4), (37, .iastore), (38, .return_)]
def t_Sh_setCellFormat : List mm_T := []
def q_Sh_setCellFormat : mm_M := (c_Sh_setCellFormat, 6, t_Sh_setCellFormat)
def c_Sh_lineFormat : List (Nat × Instr) := [(0, .iload 1), (1, .iconst 4), (2, .imul), (3, .iload 2), (4, .iadd), (5, .iconst 16), (7, .imul), (8, .iload 3), (9, .iadd), (10, .istore 4), (12, .iload 4), (14, .ifCond .lt 37), (17, .iload 4), (19, .aload 0), (20, .getfield 2326), (23, .arraylength), (24, .if_icmp .ge 37), (27, .aload 0), (28, .getfield 2326), (31, .iload 4), (33, .iaload), (34, .goto 38), (37, .iconst (-1)), (38, .ireturn)]
def t_Sh_lineFormat : List mm_T := []
def q_Sh_lineFormat : mm_M := (c_Sh_lineFormat, 5, t_Sh_lineFormat)
def c_Sh_setLineFormat : List (Nat × Instr) := [(0, .iload 1), (1, .iconst 4), (2, .imul), (3, .iload 2), (4, .iadd), (5, .iconst 16), (7, .imul), (8, .iload 3), (9, .iadd), (10, .istore 5), (12, .iload 5), (14, .ifCond .lt 36), (17, .iload 5), (19, .aload 0), (20, .getfield 2326), (23, .arraylength), (24, .if_icmp .ge 36), (27, .aload 0), (28, .getfield 2326), (31, .iload 5), (33, .iload 4), (35, .iastore), (36, .return_)]
def t_Sh_setLineFormat : List mm_T := []
def q_Sh_setLineFormat : mm_M := (c_Sh_setLineFormat, 6, t_Sh_setLineFormat)
def c_Sh_beneath : List (Nat × Instr) := [(0, .aload 0), (1, .iconst 0), (2, .iload 1), (3, .iload 2), (4, .invokevirtual 6373385), (7, .istore 4), (9, .iload 4), (11, .iconst (-1)), (12, .if_icmp .eq 18), (15, .iload 4), (17, .ireturn), (18, .aload 0), (19, .iconst 1), (20, .iload 1), (21, .iload 3), (22, .invokevirtual 6373385), (25, .istore 5), (27, .iload 5), (29, .iconst (-1)), (30, .if_icmp .eq 38), (33, .iload 5), (35, .goto 46), (38, .aload 0), (39, .getfield 2330), (42, .iload 1), (43, .invokestatic 13049856), (46, .ireturn)]
def t_Sh_beneath : List mm_T := []
def q_Sh_beneath : mm_M := (c_Sh_beneath, 6, t_Sh_beneath)
def c_Sh_isNeedless : List (Nat × Instr) := [(0, .aload 0), (1, .iload 1), (2, .iload 2), (3, .iload 3), (4, .invokevirtual 6242313), (7, .istore 4), (9, .iload 4), (11, .iconst (-1)), (12, .if_icmp .eq 31), (15, .iload 4), (17, .aload 0), (18, .iload 1), (19, .iload 2), (20, .iload 3), (21, .invokevirtual 6504457), (24, .if_icmp .ne 31), (27, .iconst 1), (28, .goto 32), (31, .iconst 0), (32, .freturn)]
def t_Sh_isNeedless : List mm_T := []
def q_Sh_isNeedless : mm_M := (c_Sh_isNeedless, 5, t_Sh_isNeedless)
def c_Sh_needlessCells : List (Nat × Instr) := [(0, .iconst 0), (1, .istore 2), (2, .iconst 0), (3, .istore 3), (4, .jsr_w 0), (4, .iload 3), (5, .aload 0), (6, .getfield 2304), (9, .if_icmp .ge 50), (12, .iconst 0), (13, .istore 4), (15, .jsr_w 1), (15, .iload 4), (17, .aload 0), (18, .getfield 2308), (21, .if_icmp .ge 44), (24, .aload 0), (25, .iload 1), (26, .iload 3), (27, .iload 4), (29, .invokevirtual 6569993), (32, .ifCond .eq 38), (35, .iinc 2 1), (38, .iinc 4 1), (41, .goto 15), (44, .iinc 3 1), (47, .goto 4), (50, .iload 2), (51, .ireturn)]
def t_Sh_needlessCells : List mm_T := [(4, 50, [2, 0, 0, 0, 9], [50]), (15, 44, [2, 0, 0, 0, 0], [44])]
def q_Sh_needlessCells : mm_M := (c_Sh_needlessCells, 5, t_Sh_needlessCells)
def c_Sh_sourceOf : List (Nat × Instr) := [(0, .iconst 0), (1, .istore 5), (3, .jsr_w 0), (3, .iload 5), (5, .aload 0), (6, .getfield 2312), (9, .if_icmp .ge 61), (12, .iload 1), (13, .iload 5), (15, .ishr), (16, .iconst 1), (17, .iand), (18, .ifCond .eq 55), (21, .aload 0), (22, .iload 5), (24, .invokevirtual 6038025), (27, .astore 6), (29, .aload 6), (31, .getfield 1808), (34, .iload 2), (35, .if_icmp .ne 43), (38, .iconst 4), (39, .iload 5), (41, .iadd), (42, .ireturn), (43, .aload 6), (45, .getfield 1816), (48, .iconst 1), (49, .if_icmp .ne 55), (52, .goto 61), (55, .iinc 5 1), (58, .goto 3), (61, .aload 0), (62, .iload 2), (63, .iload 3), (64, .iload 4), (66, .invokevirtual 6242313), (69, .iconst (-1)), (70, .if_icmp .eq 75), (73, .iconst 3), (74, .ireturn), (75, .aload 0), (76, .iconst 0), (77, .iload 2), (78, .iload 3), (79, .invokevirtual 6373385), (82, .iconst (-1)), (83, .if_icmp .eq 88), (86, .iconst 2), (87, .ireturn), (88, .aload 0), (89, .iconst 1), (90, .iload 2), (91, .iload 4), (93, .invokevirtual 6373385), (96, .iconst (-1)), (97, .if_icmp .eq 104), (100, .iconst 1), (101, .goto 105), (104, .iconst 0), (105, .ireturn)]
def t_Sh_sourceOf : List mm_T := [(3, 61, [2, 0, 0, 0, 0, 0, 9], [61])]
def q_Sh_sourceOf : mm_M := (c_Sh_sourceOf, 7, t_Sh_sourceOf)
def c_Sh_numberFrom : List (Nat × Instr) := [(0, .iload 1), (1, .iconst 4), (2, .if_icmp .lt 16), (5, .aload 0), (6, .iload 1), (7, .iconst 4), (8, .isub), (9, .invokevirtual 6038025), (12, .getfield 1812), (15, .ireturn), (16, .iload 1), (17, .iconst 3), (18, .if_icmp .ne 32), (21, .aload 0), (22, .iload 2), (23, .iload 3), (24, .iload 4), (26, .invokevirtual 6242313), (29, .goto 40), (32, .aload 0), (33, .iload 2), (34, .iload 3), (35, .iload 4), (37, .invokevirtual 6504457), (40, .ireturn)]
def t_Sh_numberFrom : List mm_T := []
def q_Sh_numberFrom : mm_M := (c_Sh_numberFrom, 5, t_Sh_numberFrom)
def c_Sh_putRule : List (Nat × Instr) := [(0, .iload 1), (1, .ifCond .lt 21), (4, .iload 1), (5, .aload 0), (6, .getfield 2312), (9, .if_icmp .gt 21), (12, .aload 0), (13, .getfield 2312), (16, .iconst 6), (18, .if_icmp .lt 24), (21, .iconst (-2)), (23, .ireturn), (24, .aload 0), (25, .aload 0), (26, .getfield 2312), (29, .iload 1), (30, .invokevirtual 7026953), (33, .aload 0), (34, .dup), (35, .getfield 2312), (38, .iconst 1), (39, .iadd), (40, .putfield 2312), (43, .aload 0), (44, .iload 1), (45, .invokevirtual 6038025), (48, .astore 6), (50, .aload 6), (52, .iload 2), (53, .invokestatic 13570048), (56, .putfield 1792), (59, .aload 6), (61, .iload 2), (62, .invokestatic 13635584), (65, .putfield 1796), (68, .aload 6), (70, .iload 2), (71, .invokestatic 13701120), (74, .putfield 1800), (77, .aload 6), (79, .iload 2), (80, .invokestatic 13766656), (83, .putfield 1804), (86, .aload 6), (88, .iload 3), (89, .iconst 10), (91, .idiv), (92, .putfield 1808), (95, .aload 6), (97, .iload 3), (98, .iconst 10), (100, .irem), (101, .putfield 1812), (104, .aload 6), (106, .iload 4), (108, .putfield 1816), (111, .aload 6), (113, .aload 5), (115, .putfield 1822), (118, .aload 0), (119, .getfield 2312), (122, .ireturn)]
def t_Sh_putRule : List mm_T := []
def q_Sh_putRule : mm_M := (c_Sh_putRule, 7, t_Sh_putRule)
def c_Sh_dropRule : List (Nat × Instr) := [(0, .aload 0), (1, .iload 1), (2, .invokevirtual 5971977), (5, .ifCond .ne 11), (8, .iconst (-2)), (10, .ireturn), (11, .aload 0), (12, .iload 1), (13, .aload 0), (14, .getfield 2312), (17, .iconst 1), (18, .isub), (19, .invokevirtual 7026953), (22, .aload 0), (23, .dup), (24, .getfield 2312), (27, .iconst 1), (28, .isub), (29, .putfield 2312), (32, .aload 0), (33, .getfield 2312), (36, .ireturn)]
def t_Sh_dropRule : List mm_T := []
def q_Sh_dropRule : mm_M := (c_Sh_dropRule, 2, t_Sh_dropRule)
def c_Sh_bringRule : List (Nat × Instr) := [(0, .aload 0), (1, .iload 1), (2, .invokevirtual 5971977), (5, .ifCond .eq 16), (8, .aload 0), (9, .iload 2), (10, .invokevirtual 5971977), (13, .ifCond .ne 19), (16, .iconst (-2)), (18, .ireturn), (19, .aload 0), (20, .iload 1), (21, .iload 2), (22, .invokevirtual 7026953), (25, .iconst 1), (26, .ireturn)]
def t_Sh_bringRule : List mm_T := []
def q_Sh_bringRule : mm_M := (c_Sh_bringRule, 3, t_Sh_bringRule)
def c_Sh_carryRule : List (Nat × Instr) := [(0, .iload 1), (1, .ifCond .lt 26), (4, .iload 1), (5, .aload 0), (6, .getfield 2334), (9, .arraylength), (10, .if_icmp .ge 26), (13, .iload 2), (14, .ifCond .lt 26), (17, .iload 2), (18, .aload 0), (19, .getfield 2334), (22, .arraylength), (23, .if_icmp .lt 27), (26, .return_), (27, .aload 0), (28, .getfield 2334), (31, .iload 1), (32, .aaload), (33, .astore 3), (34, .iload 1), (35, .istore 4), (37, .jsr_w 0), (37, .iload 4), (39, .iload 2), (40, .if_icmp .ge 77), (43, .iload 4), (45, .iconst 1), (46, .iadd), (47, .aload 0), (48, .getfield 2334), (51, .arraylength), (52, .if_icmp .ge 77), (55, .aload 0), (56, .getfield 2334), (59, .iload 4), (61, .aload 0), (62, .getfield 2334), (65, .iload 4), (67, .iconst 1), (68, .iadd), (69, .aaload), (70, .aastore), (71, .iinc 4 1), (74, .goto 37), (77, .iload 1), (78, .istore 4), (80, .jsr_w 1), (80, .iload 4), (82, .iload 2), (83, .if_icmp .le 118), (86, .iload 4), (88, .aload 0), (89, .getfield 2334), (92, .arraylength), (93, .if_icmp .ge 118), (96, .aload 0), (97, .getfield 2334), (100, .iload 4), (102, .aload 0), (103, .getfield 2334), (106, .iload 4), (108, .iconst 1), (109, .isub), (110, .aaload), (111, .aastore), (112, .iinc 4 (-1)), (115, .goto 80), (118, .aload 0), (119, .getfield 2334), (122, .iload 2), (123, .aload 3), (124, .aastore), (125, .return_)]
def t_Sh_carryRule : List mm_T := [(37, 77, [2, 0, 0, 2, 0], [77]), (80, 118, [2, 0, 0, 2, 0], [118])]
def q_Sh_carryRule : mm_M := (c_Sh_carryRule, 5, t_Sh_carryRule)
def c_Ta_init : List (Nat × Instr) := [(0, .aload 0), (1, .checkcast 10), (4, .aload 0), (5, .iconst 200), (8, .anewarray 50), (10, .putfield 2562), (13, .aload 0), (14, .iconst (-1)), (15, .putfield 2572), (18, .return_)]
def t_Ta_init : List mm_T := []
def q_Ta_init : mm_M := (c_Ta_init, 1, t_Ta_init)
def c_Ta_append : List (Nat × Instr) := [(0, .iconst 0), (1, .istore 3), (2, .jsr_w 0), (2, .iload 3), (3, .iload 1), (4, .if_icmp .ge 44), (7, .aload 0), (8, .getfield 2562), (11, .aload 0), (12, .getfield 2564), (15, .iload 2), (16, .iconst 8), (18, .iload 3), (19, .imul), (20, .iushr), (21, .iconst 255), (24, .iand), (25, .invokestatic 13121792), (28, .aload 0), (29, .dup), (30, .getfield 2564), (33, .iconst 1), (34, .iadd), (35, .putfield 2564), (38, .iinc 3 1), (41, .goto 2), (44, .aload 0), (45, .getfield 2564), (48, .ireturn)]
def t_Ta_append : List mm_T := [(2, 44, [2, 0, 0, 0], [44])]
def q_Ta_append : mm_M := (c_Ta_append, 4, t_Ta_append)
def c_Ta_clear : List (Nat × Instr) := [(0, .aload 0), (1, .iconst 0), (2, .putfield 2564), (5, .return_)]
def t_Ta_clear : List mm_T := []
def q_Ta_clear : mm_M := (c_Ta_clear, 1, t_Ta_clear)
def c_Ta_rewind : List (Nat × Instr) := [(0, .aload 0), (1, .iconst (-1)), (2, .putfield 2572), (5, .aload 0), (6, .iconst 0), (7, .putfield 2580), (10, .aload 0), (11, .invokevirtual 7346442), (14, .return_)]
def t_Ta_rewind : List mm_T := []
def q_Ta_rewind : mm_M := (c_Ta_rewind, 1, t_Ta_rewind)
def c_Ta_advance : List (Nat × Instr) := [(0, .aload 0), (1, .getfield 2572), (4, .iconst (-1)), (5, .if_icmp .eq 9), (8, .return_), (9, .aload 0), (10, .aload 0), (11, .getfield 2580), (14, .putfield 2576), (17, .jsr_w 0), (17, .aload 0), (18, .getfield 2576), (21, .aload 0), (22, .getfield 2564), (25, .if_icmp .ge 57), (28, .aload 0), (29, .getfield 2562), (32, .aload 0), (33, .getfield 2576), (36, .invokestatic 13049856), (39, .iconst 32), (41, .if_icmp .ne 57), (44, .aload 0), (45, .dup), (46, .getfield 2576), (49, .iconst 1), (50, .iadd), (51, .putfield 2576), (54, .goto 17), (57, .aload 0), (58, .getfield 2562), (61, .aload 0), (62, .getfield 2576), (65, .invokestatic 13049856), (68, .istore 1), (69, .iload 1), (70, .invokestatic 7409664), (73, .istore 2), (74, .aload 0), (75, .aload 0), (76, .getfield 2576), (79, .iconst 1), (80, .iadd), (81, .aload 0), (82, .getfield 2564), (85, .dsub), (88, .putfield 2580), (91, .jsr_w 1), (91, .aload 0), (92, .getfield 2580), (95, .aload 0), (96, .getfield 2564), (99, .if_icmp .ge 138), (102, .iload 2), (103, .iconst 3), (104, .if_icmp .eq 138), (107, .aload 0), (108, .getfield 2562), (111, .aload 0), (112, .getfield 2580), (115, .invokestatic 13049856), (118, .invokestatic 7409664), (121, .iload 2), (122, .if_icmp .ne 138), (125, .aload 0), (126, .dup), (127, .getfield 2580), (130, .iconst 1), (131, .iadd), (132, .putfield 2580), (135, .goto 91), (138, .aload 0), (139, .getfield 2576), (142, .aload 0), (143, .getfield 2564), (146, .if_icmp .lt 157), (149, .aload 0), (150, .iconst 0), (151, .putfield 2568), (154, .goto 185), (157, .aload 0), (158, .iload 2), (159, .iconst 3), (160, .if_icmp .eq 167), (163, .iload 2), (164, .goto 182), (167, .sipush (-10)), (169, .iload 1), (170, .i2c), (171, .invokevirtual 22487054), (174, .ifCond .lt 181), (177, .iload 1), (178, .goto 182), (181, .iconst 3), (182, .putfield 2568), (185, .return_)]
def t_Ta_advance : List mm_T := [(17, 57, [2, 9, 9], [57]), (91, 138, [2, 0, 0], [138])]
def q_Ta_advance : mm_M := (c_Ta_advance, 3, t_Ta_advance)
def c_Ta_sortOf : List (Nat × Instr) := [(0, .iload 0), (1, .iconst 97), (3, .if_icmp .lt 14), (6, .iload 0), (7, .iconst 122), (9, .if_icmp .gt 14), (12, .iconst 1), (13, .ireturn), (14, .iload 0), (15, .iconst 48), (17, .if_icmp .lt 30), (20, .iload 0), (21, .iconst 57), (23, .if_icmp .gt 30), (26, .iconst 2), (27, .goto 31), (30, .iconst 3), (31, .ireturn)]
def t_Ta_sortOf : List mm_T := []
def q_Ta_sortOf : mm_M := (c_Ta_sortOf, 1, t_Ta_sortOf)
def c_Ta_refuse : List (Nat × Instr) := [(0, .aload 0), (1, .getfield 2572), (4, .iconst (-1)), (5, .if_icmp .ne 16), (8, .aload 0), (9, .aload 0), (10, .getfield 2576), (13, .putfield 2572), (16, .aload 0), (17, .iconst 0), (18, .putfield 2568), (21, .return_)]
def t_Ta_refuse : List mm_T := []
def q_Ta_refuse : mm_M := (c_Ta_refuse, 1, t_Ta_refuse)
def c_Ta_isWord : List (Nat × Instr) := [(0, .aload 0), (1, .aload 1), (2, .iconst 0), (3, .aload 1), (4, .invokevirtual 22351886), (7, .invokevirtual 7946250), (10, .freturn)]
def t_Ta_isWord : List mm_T := []
def q_Ta_isWord : mm_M := (c_Ta_isWord, 2, t_Ta_isWord)
def c_Ta_takesWord : List (Nat × Instr) := [(0, .aload 0), (1, .aload 1), (2, .iconst 0), (3, .aload 1), (4, .invokevirtual 22351886), (7, .invokevirtual 7946250), (10, .istore 2), (11, .iload 2), (12, .ifCond .eq 19), (15, .aload 0), (16, .invokevirtual 7346442), (19, .iload 2), (20, .freturn)]
def t_Ta_takesWord : List mm_T := []
def q_Ta_takesWord : mm_M := (c_Ta_takesWord, 3, t_Ta_takesWord)
def c_Ta_takesSign : List (Nat × Instr) := [(0, .aload 0), (1, .getfield 2568), (4, .iload 1), (5, .if_icmp .ne 12), (8, .iconst 1), (9, .goto 13), (12, .iconst 0), (13, .istore 2), (14, .iload 2), (15, .ifCond .eq 22), (18, .aload 0), (19, .invokevirtual 7346442), (22, .iload 2), (23, .freturn)]
def t_Ta_takesSign : List mm_T := []
def q_Ta_takesSign : mm_M := (c_Ta_takesSign, 3, t_Ta_takesSign)
def c_Ta_needSign : List (Nat × Instr) := [(0, .aload 0), (1, .iload 1), (2, .invokevirtual 7675914), (5, .ifCond .ne 12), (8, .aload 0), (9, .invokevirtual 7477514), (12, .return_)]
def t_Ta_needSign : List mm_T := []
def q_Ta_needSign : mm_M := (c_Ta_needSign, 2, t_Ta_needSign)
def c_Ta_needNumber : List (Nat × Instr) := [(0, .aload 0), (1, .getfield 2568), (4, .iconst 2), (5, .if_icmp .ne 21), (8, .aload 0), (9, .getfield 2580), (12, .aload 0), (13, .getfield 2576), (16, .isub), (17, .iload 1), (18, .if_icmp .le 27), (21, .aload 0), (22, .invokevirtual 7477514), (25, .iconst 0), (26, .ireturn), (27, .iconst 0), (28, .istore 2), (29, .aload 0), (30, .getfield 2576), (33, .istore 3), (34, .jsr_w 0), (34, .iload 3), (35, .aload 0), (36, .getfield 2580), (39, .if_icmp .ge 65), (42, .iconst 10), (44, .iload 2), (45, .imul), (46, .aload 0), (47, .getfield 2562), (50, .iload 3), (51, .invokestatic 13049856), (54, .iadd), (55, .iconst 48), (57, .isub), (58, .istore 2), (59, .iinc 3 1), (62, .goto 34), (65, .aload 0), (66, .invokevirtual 7346442), (69, .iload 2), (70, .ireturn)]
def t_Ta_needNumber : List mm_T := [(34, 65, [2, 0, 0, 0], [65])]
def q_Ta_needNumber : mm_M := (c_Ta_needNumber, 4, t_Ta_needNumber)
def c_Ta_needOneOf : List (Nat × Instr) := [(0, .iconst 0), (1, .istore 2), (2, .iconst 0), (3, .istore 3), (4, .iconst 0), (5, .istore 4), (7, .jsr_w 0), (7, .iload 4), (9, .aload 1), (10, .invokevirtual 22351886), (13, .if_icmp .gt 67), (16, .iload 4), (18, .aload 1), (19, .invokevirtual 22351886), (22, .if_icmp .eq 36), (25, .aload 1), (26, .iload 4), (28, .invokevirtual 22421518), (31, .iconst 32), (33, .if_icmp .ne 61), (36, .aload 0), (37, .aload 1), (38, .iload 3), (39, .iload 4), (41, .invokevirtual 7946250), (44, .ifCond .eq 53), (47, .aload 0), (48, .invokevirtual 7346442), (51, .iload 2), (52, .ireturn), (53, .iinc 2 1), (56, .iload 4), (58, .iconst 1), (59, .iadd), (60, .istore 3), (61, .iinc 4 1), (64, .goto 7), (67, .aload 0), (68, .invokevirtual 7477514), (71, .iconst (-1)), (72, .ireturn)]
def t_Ta_needOneOf : List mm_T := [(7, 67, [2, 2, 0, 0, 0], [67])]
def q_Ta_needOneOf : mm_M := (c_Ta_needOneOf, 5, t_Ta_needOneOf)
def c_Ta_spells : List (Nat × Instr) := [(0, .aload 0), (1, .getfield 2568), (4, .iconst 1), (5, .if_icmp .ne 35), (8, .aload 0), (9, .getfield 2580), (12, .aload 0), (13, .getfield 2576), (16, .isub), (17, .iload 3), (18, .iload 2), (19, .isub), (20, .if_icmp .ne 35), (23, .iload 2), (24, .ifCond .lt 35), (27, .iload 3), (28, .aload 1), (29, .invokevirtual 22351886), (32, .if_icmp .le 37), (35, .iconst 0), (36, .freturn), (37, .iload 2), (38, .istore 4), (40, .jsr_w 0), (40, .iload 4), (42, .iload 3), (43, .if_icmp .ge 96), (46, .aload 0), (47, .getfield 2576), (50, .iload 4), (52, .iadd), (53, .iload 2), (54, .isub), (55, .istore 5), (57, .iload 5), (59, .ifCond .lt 88), (62, .iload 5), (64, .aload 0), (65, .getfield 2562), (68, .arraylength), (69, .if_icmp .ge 88), (72, .aload 1), (73, .iload 4), (75, .invokevirtual 22421518), (78, .aload 0), (79, .getfield 2562), (82, .iload 5), (84, .iaload), (85, .if_icmp .eq 90), (88, .iconst 0), (89, .freturn), (90, .iinc 4 1), (93, .goto 40), (96, .iconst 1), (97, .freturn)]
def t_Ta_spells : List mm_T := [(40, 96, [2, 2, 0, 0, 0, 9], [96])]
def q_Ta_spells : mm_M := (c_Ta_spells, 6, t_Ta_spells)
def c_Vw_init : List (Nat × Instr) := [(0, .aload 0), (1, .checkcast 11), (4, .aload 0), (5, .iconst 256), (8, .anewarray 50), (10, .putfield 2818), (13, .aload 0), (14, .iconst 1024), (17, .anewarray 50), (19, .putfield 2822), (22, .aload 0), (23, .iconst 1024), (26, .anewarray 50), (28, .putfield 2826), (31, .aload 0), (32, .iconst 256), (35, .anewarray 50), (37, .putfield 2830), (40, .aload 0), (41, .iconst 313), (44, .anewarray 50), (46, .putfield 2834), (49, .aload 0), (50, .iconst 256), (53, .anewarray 50), (55, .putfield 2838), (58, .return_)]
def t_Vw_init : List mm_T := []
def q_Vw_init : mm_M := (c_Vw_init, 1, t_Vw_init)
def c_Vw_take : List (Nat × Instr) := [(0, .aload 0), (1, .aload 1), (2, .getfield 2304), (5, .putfield 2840), (8, .aload 0), (9, .aload 1), (10, .getfield 2308), (13, .putfield 2844), (16, .aload 0), (17, .getfield 2818), (20, .iconst 0), (21, .invokestatic 23079168), (24, .iconst 0), (25, .istore 3), (26, .jsr_w 0), (26, .iload 3), (27, .aload 1), (28, .getfield 2312), (31, .if_icmp .ge 47), (34, .aload 0), (35, .aload 1), (36, .aload 2), (37, .iload 3), (38, .invokevirtual 8145163), (41, .iinc 3 1), (44, .goto 26), (47, .iconst 0), (48, .istore 3), (49, .jsr_w 1), (49, .iload 3), (50, .aload 0), (51, .getfield 2840), (54, .if_icmp .ge 89), (57, .iconst 0), (58, .istore 4), (60, .jsr_w 2), (60, .iload 4), (62, .aload 0), (63, .getfield 2844), (66, .if_icmp .ge 83), (69, .aload 0), (70, .aload 1), (71, .iload 3), (72, .iload 4), (74, .invokevirtual 8210699), (77, .iinc 4 1), (80, .goto 60), (83, .iinc 3 1), (86, .goto 49), (89, .return_)]
def t_Vw_take : List mm_T := [(26, 47, [2, 2, 2, 0, 9], [47]), (49, 89, [2, 2, 2, 0, 9], [89]), (60, 83, [2, 2, 2, 0, 0], [83])]
def q_Vw_take : mm_M := (c_Vw_take, 5, t_Vw_take)
def c_Vw_markCells : List (Nat × Instr) := [(0, .aload 1), (1, .iload 3), (2, .invokevirtual 6038025), (5, .astore 4), (7, .aload 2), (8, .aload 1), (9, .aload 4), (11, .invokevirtual 3488005), (14, .aload 4), (16, .getfield 1792), (19, .istore 5), (21, .jsr_w 0), (21, .iload 5), (23, .aload 4), (25, .getfield 1800), (28, .if_icmp .gt 105), (31, .aload 4), (33, .getfield 1796), (36, .istore 6), (38, .jsr_w 1), (38, .iload 6), (40, .aload 4), (42, .getfield 1804), (45, .if_icmp .gt 99), (48, .iload 5), (50, .iload 6), (52, .invokestatic 13246464), (55, .istore 7), (57, .aload 2), (58, .aload 1), (59, .aload 4), (61, .iload 5), (63, .iload 6), (65, .invokevirtual 3559429), (68, .ifCond .eq 93), (71, .aload 0), (72, .getfield 2818), (75, .iload 7), (77, .aload 0), (78, .getfield 2818), (81, .iload 7), (83, .invokestatic 13049856), (86, .iconst 1), (87, .iload 3), (88, .ishl), (89, .ior), (90, .invokestatic 13121792), (93, .iinc 6 1), (96, .goto 38), (99, .iinc 5 1), (102, .goto 21), (105, .return_)]
def t_Vw_markCells : List mm_T := [(21, 105, [2, 2, 2, 0, 2, 0, 9, 9], [105]), (38, 99, [2, 2, 2, 0, 2, 0, 0, 9], [99])]
def q_Vw_markCells : mm_M := (c_Vw_markCells, 8, t_Vw_markCells)
def c_Vw_takeCell : List (Nat × Instr) := [(0, .iload 2), (1, .iload 3), (2, .invokestatic 13246464), (5, .istore 4), (7, .iconst 0), (8, .istore 5), (10, .iconst 0), (11, .istore 6), (13, .jsr_w 0), (13, .iload 6), (15, .iconst 4), (16, .if_icmp .ge 102), (19, .aload 1), (20, .aload 0), (21, .getfield 2818), (24, .iload 4), (26, .invokestatic 13049856), (29, .iload 6), (31, .iload 2), (32, .iload 3), (33, .invokevirtual 6705161), (36, .istore 7), (38, .aload 1), (39, .iload 7), (41, .iload 6), (43, .iload 2), (44, .iload 3), (45, .invokevirtual 6770697), (48, .istore 8), (50, .aload 0), (51, .getfield 2822), (54, .iload 6), (56, .iconst 256), (59, .imul), (60, .iload 4), (62, .iadd), (63, .iload 7), (65, .invokestatic 13121792), (68, .aload 0), (69, .getfield 2826), (72, .iload 6), (74, .iconst 256), (77, .imul), (78, .iload 4), (80, .iadd), (81, .iload 8), (83, .invokestatic 13121792), (86, .iconst 10), (88, .iload 5), (90, .imul), (91, .iload 8), (93, .iadd), (94, .istore 5), (96, .iinc 6 1), (99, .goto 13), (102, .aload 0), (103, .getfield 2830), (106, .iload 4), (108, .iload 5), (110, .invokestatic 13121792), (113, .return_)]
def t_Vw_takeCell : List mm_T := [(13, 102, [2, 2, 0, 0, 0, 0, 0, 9, 9], [102])]
def q_Vw_takeCell : mm_M := (c_Vw_takeCell, 9, t_Vw_takeCell)
def c_Vw_maskAt : List (Nat × Instr) := [(0, .aload 0), (1, .getfield 2818), (4, .iload 1), (5, .iload 2), (6, .invokestatic 13246464), (9, .invokestatic 13049856), (12, .ireturn)]
def t_Vw_maskAt : List mm_T := []
def q_Vw_maskAt : mm_M := (c_Vw_maskAt, 3, t_Vw_maskAt)
def c_Vw_sourceAt : List (Nat × Instr) := [(0, .aload 0), (1, .getfield 2822), (4, .iload 1), (5, .iconst 256), (8, .imul), (9, .iload 2), (10, .iload 3), (11, .invokestatic 13246464), (14, .iadd), (15, .invokestatic 13049856), (18, .ireturn)]
def t_Vw_sourceAt : List mm_T := []
def q_Vw_sourceAt : mm_M := (c_Vw_sourceAt, 4, t_Vw_sourceAt)
def c_Vw_numberAt : List (Nat × Instr) := [(0, .aload 0), (1, .getfield 2826), (4, .iload 1), (5, .iconst 256), (8, .imul), (9, .iload 2), (10, .iload 3), (11, .invokestatic 13246464), (14, .iadd), (15, .invokestatic 13049856), (18, .ireturn)]
def t_Vw_numberAt : List mm_T := []
def q_Vw_numberAt : mm_M := (c_Vw_numberAt, 4, t_Vw_numberAt)
def c_Vw_lookAt : List (Nat × Instr) := [(0, .aload 0), (1, .getfield 2830), (4, .iload 1), (5, .iload 2), (6, .invokestatic 13246464), (9, .invokestatic 13049856), (12, .ireturn)]
def t_Vw_lookAt : List mm_T := []
def q_Vw_lookAt : mm_M := (c_Vw_lookAt, 3, t_Vw_lookAt)
def c_Vw_cellsHeldBy : List (Nat × Instr) := [(0, .iconst 0), (1, .istore 2), (2, .iconst 0), (3, .istore 3), (4, .jsr_w 0), (4, .iload 3), (5, .aload 0), (6, .getfield 2840), (9, .if_icmp .ge 50), (12, .iconst 0), (13, .istore 4), (15, .jsr_w 1), (15, .iload 4), (17, .aload 0), (18, .getfield 2844), (21, .if_icmp .ge 44), (24, .iload 2), (25, .aload 0), (26, .iload 3), (27, .iload 4), (29, .invokevirtual 8269835), (32, .iload 1), (33, .ishr), (34, .iconst 1), (35, .iand), (36, .iadd), (37, .istore 2), (38, .iinc 4 1), (41, .goto 15), (44, .iinc 3 1), (47, .goto 4), (50, .iload 2), (51, .ireturn)]
def t_Vw_cellsHeldBy : List mm_T := [(4, 50, [2, 0, 0, 0, 9], [50]), (15, 44, [2, 0, 0, 0, 0], [44])]
def q_Vw_cellsHeldBy : mm_M := (c_Vw_cellsHeldBy, 5, t_Vw_cellsHeldBy)
def c_Vw_cellsShownBy : List (Nat × Instr) := [(0, .iconst 0), (1, .istore 3), (2, .iconst 0), (3, .istore 4), (5, .jsr_w 0), (5, .iload 4), (7, .aload 0), (8, .getfield 2840), (11, .if_icmp .ge 56), (14, .iconst 0), (15, .istore 5), (17, .jsr_w 1), (17, .iload 5), (19, .aload 0), (20, .getfield 2844), (23, .if_icmp .ge 50), (26, .aload 0), (27, .iload 2), (28, .iload 4), (30, .iload 5), (32, .invokevirtual 8339467), (35, .iconst 4), (36, .iload 1), (37, .iadd), (38, .if_icmp .ne 44), (41, .iinc 3 1), (44, .iinc 5 1), (47, .goto 17), (50, .iinc 4 1), (53, .goto 5), (56, .iload 3), (57, .ireturn)]
def t_Vw_cellsShownBy : List mm_T := [(5, 56, [2, 0, 0, 0, 0, 9], [56]), (17, 50, [2, 0, 0, 0, 0, 0], [50])]
def q_Vw_cellsShownBy : mm_M := (c_Vw_cellsShownBy, 6, t_Vw_cellsShownBy)
def c_Vw_cellsShowing : List (Nat × Instr) := [(0, .iconst 0), (1, .istore 4), (3, .iload 3), (4, .invokestatic 13570048), (7, .istore 5), (9, .jsr_w 0), (9, .iload 5), (11, .iload 3), (12, .invokestatic 13701120), (15, .if_icmp .gt 61), (18, .iload 3), (19, .invokestatic 13635584), (22, .istore 6), (24, .jsr_w 1), (24, .iload 6), (26, .iload 3), (27, .invokestatic 13766656), (30, .if_icmp .gt 55), (33, .aload 0), (34, .iload 1), (35, .iload 5), (37, .iload 6), (39, .invokevirtual 8405003), (42, .iload 2), (43, .if_icmp .ne 49), (46, .iinc 4 1), (49, .iinc 6 1), (52, .goto 24), (55, .iinc 5 1), (58, .goto 9), (61, .iload 4), (63, .ireturn)]
def t_Vw_cellsShowing : List mm_T := [(9, 61, [2, 0, 0, 0, 0, 0, 9], [61]), (24, 55, [2, 0, 0, 0, 0, 0, 0], [55])]
def q_Vw_cellsShowing : mm_M := (c_Vw_cellsShowing, 7, t_Vw_cellsShowing)
def c_Vw_cellsLooking : List (Nat × Instr) := [(0, .iconst 0), (1, .istore 2), (2, .iconst 0), (3, .istore 3), (4, .jsr_w 0), (4, .iload 3), (5, .aload 0), (6, .getfield 2840), (9, .if_icmp .ge 50), (12, .iconst 0), (13, .istore 4), (15, .jsr_w 1), (15, .iload 4), (17, .aload 0), (18, .getfield 2844), (21, .if_icmp .ge 44), (24, .aload 0), (25, .iload 3), (26, .iload 4), (28, .invokevirtual 8466443), (31, .iload 1), (32, .if_icmp .ne 38), (35, .iinc 2 1), (38, .iinc 4 1), (41, .goto 15), (44, .iinc 3 1), (47, .goto 4), (50, .iload 2), (51, .ireturn)]
def t_Vw_cellsLooking : List mm_T := [(4, 50, [2, 0, 0, 0, 9], [50]), (15, 44, [2, 0, 0, 0, 0], [44])]
def q_Vw_cellsLooking : mm_M := (c_Vw_cellsLooking, 5, t_Vw_cellsLooking)
def c_Vw_cellsUnlike : List (Nat × Instr) := [(0, .iconst 0), (1, .istore 2), (2, .iconst 0), (3, .istore 3), (4, .jsr_w 0), (4, .iload 3), (5, .aload 0), (6, .getfield 2840), (9, .if_icmp .ge 56), (12, .iconst 0), (13, .istore 4), (15, .jsr_w 1), (15, .iload 4), (17, .aload 0), (18, .getfield 2844), (21, .if_icmp .ge 50), (24, .aload 0), (25, .iload 3), (26, .iload 4), (28, .invokevirtual 8466443), (31, .aload 1), (32, .iload 3), (33, .iload 4), (35, .invokevirtual 8466443), (38, .if_icmp .eq 44), (41, .iinc 2 1), (44, .iinc 4 1), (47, .goto 15), (50, .iinc 3 1), (53, .goto 4), (56, .iload 2), (57, .ireturn)]
def t_Vw_cellsUnlike : List mm_T := [(4, 56, [2, 2, 0, 0, 9], [56]), (15, 50, [2, 2, 0, 0, 0], [50])]
def q_Vw_cellsUnlike : mm_M := (c_Vw_cellsUnlike, 5, t_Vw_cellsUnlike)
def c_Vw_unlikeLooks : List (Nat × Instr) := [(0, .aload 0), (1, .getfield 2834), (4, .iconst 0), (5, .invokestatic 23079168), (8, .iconst 0), (9, .istore 1), (10, .iconst 0), (11, .istore 2), (12, .jsr_w 0), (12, .iload 2), (13, .aload 0), (14, .getfield 2840), (17, .if_icmp .ge 99), (20, .iconst 0), (21, .istore 3), (22, .jsr_w 1), (22, .iload 3), (23, .aload 0), (24, .getfield 2844), (27, .if_icmp .ge 93), (30, .aload 0), (31, .iload 2), (32, .iload 3), (33, .invokevirtual 8466443), (36, .istore 4), (38, .iconst 1), (39, .iload 4), (41, .iconst 31), (43, .iand), (44, .ishl), (45, .istore 5), (47, .aload 0), (48, .getfield 2834), (51, .iload 4), (53, .iconst 5), (54, .ishr), (55, .invokestatic 13049856), (58, .istore 6), (60, .iload 6), (62, .iload 5), (64, .iand), (65, .ifCond .ne 71), (68, .iinc 1 1), (71, .aload 0), (72, .getfield 2834), (75, .iload 4), (77, .iconst 5), (78, .ishr), (79, .iload 6), (81, .iload 5), (83, .ior), (84, .invokestatic 13121792), (87, .iinc 3 1), (90, .goto 22), (93, .iinc 2 1), (96, .goto 12), (99, .iload 1), (100, .ireturn)]
def t_Vw_unlikeLooks : List mm_T := [(12, 99, [2, 0, 0, 9, 9, 9, 9], [99]), (22, 93, [2, 0, 0, 0, 9, 9, 9], [93])]
def q_Vw_unlikeLooks : mm_M := (c_Vw_unlikeLooks, 7, t_Vw_unlikeLooks)
def c_Vw_stripesOf : List (Nat × Instr) := [(0, .iconst 1), (1, .istore 2), (2, .iconst 1), (3, .istore 3), (4, .jsr_w 0), (4, .iload 3), (5, .aload 0), (6, .getfield 2844), (9, .if_icmp .ge 38), (12, .aload 0), (13, .iload 1), (14, .iload 3), (15, .invokevirtual 8466443), (18, .aload 0), (19, .iload 1), (20, .iload 3), (21, .iconst 1), (22, .isub), (23, .invokevirtual 8466443), (26, .if_icmp .eq 32), (29, .iinc 2 1), (32, .iinc 3 1), (35, .goto 4), (38, .iload 2), (39, .ireturn)]
def t_Vw_stripesOf : List mm_T := [(4, 38, [2, 0, 0, 0], [38])]
def q_Vw_stripesOf : mm_M := (c_Vw_stripesOf, 4, t_Vw_stripesOf)
def c_Vw_findGreatest : List (Nat × Instr) := [(0, .aload 0), (1, .iconst 0), (2, .putfield 2848), (5, .aload 0), (6, .iconst (-1)), (7, .putfield 2852), (10, .iconst 0), (11, .istore 3), (12, .jsr_w 0), (12, .iload 3), (13, .aload 0), (14, .getfield 2840), (17, .if_icmp .ge 110), (20, .aload 0), (21, .getfield 2844), (24, .iconst 1), (25, .isub), (26, .istore 4), (28, .jsr_w 1), (28, .iload 4), (30, .ifCond .lt 104), (33, .iload 4), (35, .iconst 1), (36, .iadd), (37, .aload 0), (38, .getfield 2844), (41, .if_icmp .ge 62), (44, .aload 0), (45, .getfield 2838), (48, .iload 3), (49, .iload 4), (51, .iconst 1), (52, .iadd), (53, .invokestatic 13246464), (56, .invokestatic 13049856), (59, .goto 63), (62, .iconst 0), (63, .istore 5), (65, .aload 0), (66, .getfield 2838), (69, .iload 3), (70, .iload 4), (72, .invokestatic 13246464), (75, .aload 0), (76, .iload 1), (77, .iload 3), (78, .iload 4), (80, .invokevirtual 8405003), (83, .iload 2), (84, .if_icmp .ne 94), (87, .iload 5), (89, .iconst 1), (90, .iadd), (91, .goto 95), (94, .iconst 0), (95, .invokestatic 13121792), (98, .iinc 4 (-1)), (101, .goto 28), (104, .iinc 3 1), (107, .goto 12), (110, .iconst 0), (111, .istore 3), (112, .jsr_w 2), (112, .iload 3), (113, .aload 0), (114, .getfield 2840), (117, .if_icmp .ge 151), (120, .iconst 0), (121, .istore 4), (123, .jsr_w 3), (123, .iload 4), (125, .aload 0), (126, .getfield 2844), (129, .if_icmp .ge 145), (132, .aload 0), (133, .iload 3), (134, .iload 4), (136, .invokevirtual 9058571), (139, .iinc 4 1), (142, .goto 123), (145, .iinc 3 1), (148, .goto 112), (151, .return_)]
def t_Vw_findGreatest : List mm_T := [(12, 110, [2, 0, 0, 0, 9, 9], [110]), (28, 104, [2, 0, 0, 0, 0, 9], [104]), (112, 151, [2, 0, 0, 0, 9, 9], [151]), (123, 145, [2, 0, 0, 0, 0, 9], [145])]
def q_Vw_findGreatest : mm_M := (c_Vw_findGreatest, 6, t_Vw_findGreatest)
def c_Vw_findGreatestFrom : List (Nat × Instr) := [(0, .iconst 16), (2, .istore 3), (3, .iload 1), (4, .istore 4), (6, .jsr_w 0), (6, .iload 4), (8, .aload 0), (9, .getfield 2840), (12, .if_icmp .ge 84), (15, .iload 3), (16, .ifCond .le 84), (19, .iload 3), (20, .aload 0), (21, .getfield 2838), (24, .iload 4), (26, .iload 2), (27, .invokestatic 13246464), (30, .invokestatic 13049856), (33, .dsub), (36, .istore 3), (37, .iload 3), (38, .iload 4), (40, .iload 1), (41, .isub), (42, .iconst 1), (43, .iadd), (44, .imul), (45, .istore 5), (47, .iload 5), (49, .aload 0), (50, .getfield 2848), (53, .if_icmp .le 78), (56, .aload 0), (57, .iload 5), (59, .putfield 2848), (62, .aload 0), (63, .iload 1), (64, .iload 2), (65, .iload 4), (67, .iload 2), (68, .iload 3), (69, .iadd), (70, .iconst 1), (71, .isub), (72, .invokestatic 13844480), (75, .putfield 2852), (78, .iinc 4 1), (81, .goto 6), (84, .return_)]
def t_Vw_findGreatestFrom : List mm_T := [(6, 84, [2, 0, 0, 0, 0, 9], [84])]
def q_Vw_findGreatestFrom : mm_M := (c_Vw_findGreatestFrom, 6, t_Vw_findGreatestFrom)
def c_F_init : List (Nat × Instr) := [(0, .aload 0), (1, .checkcast 12), (4, .aload 0), (5, .new 261), (8, .dup), (9, .invokevirtual 2889988), (12, .putfield 3074), (15, .aload 0), (16, .new 194), (19, .dup), (20, .invokevirtual 1906947), (23, .putfield 3078), (26, .aload 0), (27, .new 517), (30, .dup), (31, .aload 0), (32, .getfield 3078), (35, .invokevirtual 5122312), (38, .putfield 3082), (41, .aload 0), (42, .new 331), (45, .dup), (46, .invokevirtual 3348741), (49, .putfield 3086), (52, .aload 0), (53, .new 714), (56, .dup), (57, .invokevirtual 8001803), (60, .putfield 3090), (63, .aload 0), (64, .new 714), (67, .dup), (68, .invokevirtual 8001803), (71, .putfield 3094), (74, .aload 0), (75, .new 139), (78, .dup), (79, .invokevirtual 858370), (82, .putfield 3098), (85, .aload 0), (86, .new 646), (89, .dup), (90, .invokevirtual 7084298), (93, .putfield 3102), (96, .aload 0), (97, .new 67), (100, .dup), (101, .aload 0), (102, .getfield 3102), (105, .invokevirtual 10497), (108, .putfield 3106), (111, .aload 0), (112, .new 388), (115, .dup), (116, .aload 0), (117, .getfield 3102), (120, .invokevirtual 4008198), (123, .putfield 3110), (126, .aload 0), (127, .iconst 4), (128, .anewarray 150), (131, .putfield 3114), (134, .aload 0), (135, .iconst 240), (138, .anewarray 51), (140, .putfield 3118), (143, .aload 0), (144, .iconst 4), (145, .anewarray 50), (147, .putfield 3122), (150, .aload 0), (151, .new 585), (154, .dup), (155, .invokevirtual 5576969), (158, .putfield 3126), (161, .aload 0), (162, .iconst 1), (163, .putstatic 3132), (166, .aload 0), (167, .getfield 3122), (170, .iconst (-1)), (171, .invokestatic 23079168), (174, .return_)]
def t_F_init : List mm_T := []
def q_F_init : mm_M := (c_F_init, 1, t_F_init)
def c_F_paint : List (Nat × Instr) := [(0, .aload 0), (1, .aload 0), (2, .getfield 3078), (5, .aload 0), (6, .getfield 3074), (9, .invokevirtual 3019268), (12, .iload 1), (13, .iload 2), (14, .iload 3), (15, .invokevirtual 1986563), (18, .invokevirtual 12460044), (21, .ireturn)]
def t_F_paint : List mm_T := []
def q_F_paint : mm_M := (c_F_paint, 4, t_F_paint)
def c_F_lines : List (Nat × Instr) := [(0, .aload 0), (1, .aload 0), (2, .getfield 3078), (5, .aload 0), (6, .getfield 3074), (9, .invokevirtual 3019268), (12, .iload 1), (13, .iload 2), (14, .iload 3), (15, .iload 4), (17, .invokevirtual 2056195), (20, .invokevirtual 12460044), (23, .ireturn)]
def t_F_lines : List mm_T := []
def q_F_lines : mm_M := (c_F_lines, 5, t_F_lines)
def c_F_ground : List (Nat × Instr) := [(0, .aload 0), (1, .aload 0), (2, .getfield 3078), (5, .aload 0), (6, .getfield 3074), (9, .invokevirtual 3019268), (12, .iload 1), (13, .iload 2), (14, .invokevirtual 2113539), (17, .invokevirtual 12460044), (20, .ireturn)]
def t_F_ground : List mm_T := []
def q_F_ground : mm_M := (c_F_ground, 3, t_F_ground)
def c_F_value : List (Nat × Instr) := [(0, .aload 0), (1, .aload 0), (2, .getfield 3078), (5, .aload 0), (6, .getfield 3074), (9, .invokevirtual 3019268), (12, .iload 1), (13, .iload 2), (14, .invokevirtual 2179075), (17, .invokevirtual 12460044), (20, .ireturn)]
def t_F_value : List mm_T := []
def q_F_value : mm_M := (c_F_value, 3, t_F_value)
def c_F_insert : List (Nat × Instr) := [(0, .aload 0), (1, .aload 0), (2, .getfield 3078), (5, .aload 0), (6, .getfield 3074), (9, .invokevirtual 3019268), (12, .iload 1), (13, .iload 2), (14, .iload 3), (15, .invokevirtual 2248707), (18, .invokevirtual 12460044), (21, .ireturn)]
def t_F_insert : List mm_T := []
def q_F_insert : mm_M := (c_F_insert, 4, t_F_insert)
def c_F_remove : List (Nat × Instr) := [(0, .aload 0), (1, .aload 0), (2, .getfield 3078), (5, .aload 0), (6, .getfield 3074), (9, .invokevirtual 3019268), (12, .iload 1), (13, .iload 2), (14, .invokevirtual 2310147), (17, .invokevirtual 12460044), (20, .ireturn)]
def t_F_remove : List mm_T := []
def q_F_remove : mm_M := (c_F_remove, 3, t_F_remove)
def c_F_copy : List (Nat × Instr) := [(0, .aload 0), (1, .aload 0), (2, .getfield 3078), (5, .aload 0), (6, .getfield 3074), (9, .invokevirtual 3019268), (12, .iload 1), (13, .iload 2), (14, .iload 3), (15, .invokevirtual 2379779), (18, .invokevirtual 12460044), (21, .ireturn)]
def t_F_copy : List mm_T := []
def q_F_copy : mm_M := (c_F_copy, 4, t_F_copy)
def c_F_sort : List (Nat × Instr) := [(0, .aload 0), (1, .aload 0), (2, .getfield 3078), (5, .aload 0), (6, .getfield 3074), (9, .invokevirtual 3019268), (12, .iload 1), (13, .iload 2), (14, .iload 3), (15, .invokevirtual 2510851), (18, .invokevirtual 12460044), (21, .ireturn)]
def t_F_sort : List mm_T := []
def q_F_sort : mm_M := (c_F_sort, 4, t_F_sort)
def c_F_move : List (Nat × Instr) := [(0, .aload 0), (1, .aload 0), (2, .getfield 3078), (5, .aload 0), (6, .getfield 3074), (9, .invokevirtual 3019268), (12, .iload 1), (13, .iload 2), (14, .iload 3), (15, .invokevirtual 2576387), (18, .invokevirtual 12460044), (21, .ireturn)]
def t_F_move : List mm_T := []
def q_F_move : mm_M := (c_F_move, 4, t_F_move)
def c_F_tidy : List (Nat × Instr) := [(0, .aload 0), (1, .aload 0), (2, .getfield 3078), (5, .aload 0), (6, .getfield 3074), (9, .invokevirtual 3019268), (12, .iload 1), (13, .invokevirtual 2437123), (16, .invokevirtual 12460044), (19, .ireturn)]
def t_F_tidy : List mm_T := []
def q_F_tidy : mm_M := (c_F_tidy, 2, t_F_tidy)
def c_F_rule : List (Nat × Instr) := [(0, .aload 0), (1, .getfield 3074), (4, .invokevirtual 3019268), (7, .astore 5), (9, .iload 1), (10, .ifCond .lt 31), (13, .iload 1), (14, .aload 5), (16, .getfield 2312), (19, .if_icmp .gt 31), (22, .aload 5), (24, .iload 2), (25, .invokevirtual 5840905), (28, .ifCond .ne 34), (31, .iconst (-2)), (33, .ireturn), (34, .iload 3), (35, .ifCond .lt 52), (38, .iload 3), (39, .iconst 40), (41, .if_icmp .ge 52), (44, .iload 4), (46, .invokestatic 13504512), (49, .ifCond .ne 55), (52, .iconst (-2)), (54, .ireturn), (55, .aload 5), (57, .getfield 2312), (60, .iconst 6), (62, .if_icmp .lt 68), (65, .iconst (-4)), (67, .ireturn), (68, .aload 0), (69, .getfield 3106), (72, .invokevirtual 70145), (75, .astore 6), (77, .aload 0), (78, .getfield 3102), (81, .getfield 2572), (84, .istore 7), (86, .aload 0), (87, .getfield 3102), (90, .invokevirtual 7215370), (93, .iload 7), (95, .iconst (-1)), (96, .if_icmp .eq 105), (99, .iconst (-100)), (101, .iload 7), (103, .isub), (104, .ireturn), (105, .aload 0), (106, .aload 5), (108, .iload 1), (109, .iload 2), (110, .iload 3), (111, .iload 4), (113, .aload 6), (115, .invokevirtual 6840329), (118, .invokevirtual 12460044), (121, .ireturn)]
def t_F_rule : List mm_T := []
def q_F_rule : mm_M := (c_F_rule, 8, t_F_rule)
def c_F_drop : List (Nat × Instr) := [(0, .aload 0), (1, .aload 0), (2, .getfield 3074), (5, .invokevirtual 3019268), (8, .iload 1), (9, .invokevirtual 6889481), (12, .invokevirtual 12460044), (15, .ireturn)]
def t_F_drop : List mm_T := []
def q_F_drop : mm_M := (c_F_drop, 2, t_F_drop)
def c_F_bring : List (Nat × Instr) := [(0, .aload 0), (1, .aload 0), (2, .getfield 3074), (5, .invokevirtual 3019268), (8, .iload 1), (9, .iload 2), (10, .invokevirtual 6959113), (13, .invokevirtual 12460044), (16, .ireturn)]
def t_F_bring : List mm_T := []
def q_F_bring : mm_M := (c_F_bring, 3, t_F_bring)
def c_F_paste : List (Nat × Instr) := [(0, .aload 0), (1, .getfield 3074), (4, .invokevirtual 3019268), (7, .astore 6), (9, .iload 1), (10, .invokestatic 12652544), (13, .ifCond .eq 45), (16, .iload 3), (17, .iconst 1), (18, .if_icmp .lt 45), (21, .iload 3), (22, .iconst 12), (24, .if_icmp .gt 45), (27, .iload 4), (29, .invokestatic 13307904), (32, .ifCond .eq 45), (35, .aload 6), (37, .iload 5), (39, .invokevirtual 5775369), (42, .ifCond .ne 48), (45, .iconst (-2)), (47, .ireturn), (48, .aload 0), (49, .iload 1), (50, .invokevirtual 12722188), (53, .ifCond .ge 59), (56, .iconst (-11)), (58, .ireturn), (59, .iload 2), (60, .ifCond .lt 76), (63, .iload 2), (64, .aload 0), (65, .iload 1), (66, .invokevirtual 12722188), (69, .iconst 5), (70, .iload 3), (71, .imul), (72, .isub), (73, .if_icmp .le 79), (76, .iconst (-13)), (78, .ireturn), (79, .iconst 0), (80, .istore 7), (82, .jsr_w 0), (82, .iload 7), (84, .iload 3), (85, .if_icmp .ge 152), (88, .iload 2), (89, .iconst 5), (90, .iload 7), (92, .imul), (93, .iadd), (94, .istore 8), (96, .aload 0), (97, .iload 1), (98, .iload 8), (100, .iconst 4), (101, .iadd), (102, .invokevirtual 12791820), (105, .istore 9), (107, .iload 9), (109, .invokestatic 13373440), (112, .ifCond .ne 118), (115, .iconst (-2)), (117, .ireturn), (118, .aload 0), (119, .getfield 3078), (122, .aload 6), (124, .iload 4), (126, .iload 9), (128, .aload 0), (129, .iload 1), (130, .iload 8), (132, .iload 5), (134, .invokevirtual 12926988), (137, .invokevirtual 1986563), (140, .ifCond .ge 146), (143, .iconst (-2)), (145, .ireturn), (146, .iinc 7 1), (149, .goto 82), (152, .aload 0), (153, .iload 3), (154, .invokevirtual 12460044), (157, .ireturn)]
def t_F_paste : List mm_T := [(82, 152, [2, 0, 0, 0, 0, 0, 2, 0, 9, 9], [152])]
def q_F_paste : mm_M := (c_F_paste, 10, t_F_paste)
def c_F_run : List (Nat × Instr) := [(0, .aload 0), (1, .iload 1), (2, .invokevirtual 12591628), (5, .astore 2), (6, .aload 2), (7, .ifnonnull 15), (10, .iconst (-2)), (12, .goto 34), (15, .aload 0), (16, .aload 0), (17, .getfield 3082), (20, .aload 0), (21, .getfield 3074), (24, .invokevirtual 3019268), (27, .aload 2), (28, .invokevirtual 5189640), (31, .invokevirtual 12460044), (34, .ireturn)]
def t_F_run : List mm_T := []
def q_F_run : mm_M := (c_F_run, 3, t_F_run)
def c_F_undo : List (Nat × Instr) := [(0, .aload 0), (1, .getfield 3074), (4, .getfield 1036), (7, .ifCond .ne 13), (10, .iconst (-3)), (12, .ireturn), (13, .aload 0), (14, .iconst 1), (15, .putstatic 3132), (18, .aload 0), (19, .getfield 3074), (22, .invokevirtual 3149828), (25, .ireturn)]
def t_F_undo : List mm_T := []
def q_F_undo : mm_M := (c_F_undo, 1, t_F_undo)
def c_F_redo : List (Nat × Instr) := [(0, .aload 0), (1, .getfield 3074), (4, .getfield 1040), (7, .ifCond .ne 13), (10, .iconst (-3)), (12, .ireturn), (13, .aload 0), (14, .iconst 1), (15, .putstatic 3132), (18, .aload 0), (19, .getfield 3074), (22, .invokevirtual 3215364), (25, .ireturn)]
def t_F_redo : List mm_T := []
def q_F_redo : mm_M := (c_F_redo, 1, t_F_redo)
def c_F_before : List (Nat × Instr) := [(0, .iload 1), (1, .ifCond .lt 22), (4, .iload 1), (5, .aload 0), (6, .getfield 3074), (9, .getfield 1036), (12, .if_icmp .gt 22), (15, .iload 3), (16, .invokestatic 13307904), (19, .ifCond .ne 25), (22, .iconst (-2)), (24, .ireturn), (25, .iload 2), (26, .ifCond .lt 47), (29, .iload 2), (30, .iconst 100), (32, .idiv), (33, .iconst 16), (35, .if_icmp .ge 47), (38, .iload 2), (39, .iconst 100), (41, .irem), (42, .iconst 16), (44, .if_icmp .lt 50), (47, .iconst (-2)), (49, .ireturn), (50, .aload 0), (51, .getfield 3074), (54, .iload 1), (55, .invokevirtual 2957828), (58, .astore 4), (60, .aload 4), (62, .iload 2), (63, .invokevirtual 5775369), (66, .ifCond .ne 71), (69, .iconst (-1)), (70, .ireturn), (71, .iload 2), (72, .iconst 100), (74, .idiv), (75, .istore 5), (77, .iload 2), (78, .iconst 100), (80, .irem), (81, .istore 6), (83, .aload 4), (85, .aload 0), (86, .getfield 3086), (89, .aload 4), (91, .iload 5), (93, .iload 6), (95, .invokevirtual 3424261), (98, .iload 3), (99, .iload 5), (101, .iload 6), (103, .invokevirtual 6705161), (106, .istore 7), (108, .aload 4), (110, .iload 7), (112, .iload 3), (113, .iload 5), (115, .iload 6), (117, .invokevirtual 6770697), (120, .ireturn)]
def t_F_before : List mm_T := []
def q_F_before : mm_M := (c_F_before, 8, t_F_before)
def c_F_shown : List (Nat × Instr) := [(0, .aload 0), (1, .invokevirtual 12390924), (4, .iload 1), (5, .invokevirtual 5775369), (8, .ifCond .eq 18), (11, .iload 2), (12, .invokestatic 13307904), (15, .ifCond .ne 21), (18, .iconst (-2)), (20, .ireturn), (21, .aload 0), (22, .invokevirtual 12521996), (25, .iload 2), (26, .iload 1), (27, .iconst 100), (29, .idiv), (30, .iload 1), (31, .iconst 100), (33, .irem), (34, .invokevirtual 8405003), (37, .ireturn)]
def t_F_shown : List mm_T := []
def q_F_shown : mm_M := (c_F_shown, 3, t_F_shown)
def c_F_under : List (Nat × Instr) := [(0, .aload 0), (1, .invokevirtual 12390924), (4, .astore 4), (6, .aload 4), (8, .iload 1), (9, .invokevirtual 5775369), (12, .ifCond .eq 22), (15, .iload 2), (16, .invokestatic 13307904), (19, .ifCond .ne 25), (22, .iconst (-2)), (24, .ireturn), (25, .iload 1), (26, .iconst 100), (28, .idiv), (29, .istore 5), (31, .iload 1), (32, .iconst 100), (34, .irem), (35, .istore 6), (37, .iload 3), (38, .lookupswitch 136 #[(0, 72), (1, 94), (2, 105), (3, 115), (4, 125)]), (72, .aload 4), (74, .aload 4), (76, .iconst 0), (77, .iload 2), (78, .iload 5), (80, .iload 6), (82, .invokevirtual 6705161), (85, .iload 2), (86, .iload 5), (88, .iload 6), (90, .invokevirtual 6770697), (93, .ireturn), (94, .aload 4), (96, .iload 2), (97, .iload 5), (99, .iload 6), (101, .invokevirtual 6242313), (104, .ireturn), (105, .aload 4), (107, .iconst 0), (108, .iload 2), (109, .iload 5), (111, .invokevirtual 6373385), (114, .ireturn), (115, .aload 4), (117, .iconst 1), (118, .iload 2), (119, .iload 6), (121, .invokevirtual 6373385), (124, .ireturn), (125, .aload 4), (127, .iload 2), (128, .iload 5), (130, .iload 6), (132, .invokevirtual 6504457), (135, .ireturn), (136, .iconst (-2)), (138, .ireturn)]
def t_F_under : List mm_T := []
def q_F_under : mm_M := (c_F_under, 7, t_F_under)
def c_F_by : List (Nat × Instr) := [(0, .aload 0), (1, .invokevirtual 12390924), (4, .iload 1), (5, .invokevirtual 5775369), (8, .ifCond .eq 18), (11, .iload 2), (12, .invokestatic 13307904), (15, .ifCond .ne 21), (18, .iconst (-2)), (20, .ireturn), (21, .aload 0), (22, .invokevirtual 12521996), (25, .iload 2), (26, .iload 1), (27, .iconst 100), (29, .idiv), (30, .iload 1), (31, .iconst 100), (33, .irem), (34, .invokevirtual 8339467), (37, .ireturn)]
def t_F_by : List mm_T := []
def q_F_by : mm_M := (c_F_by, 3, t_F_by)
def c_F_valueAt : List (Nat × Instr) := [(0, .aload 0), (1, .invokevirtual 12390924), (4, .astore 2), (5, .aload 2), (6, .iload 1), (7, .invokevirtual 5775369), (10, .ifCond .eq 28), (13, .aload 2), (14, .iload 1), (15, .iconst 100), (17, .idiv), (18, .iload 1), (19, .iconst 100), (21, .irem), (22, .invokevirtual 6107145), (25, .goto 31), (28, .iconst (-2000000000)), (31, .ireturn)]
def t_F_valueAt : List mm_T := []
def q_F_valueAt : mm_M := (c_F_valueAt, 3, t_F_valueAt)
def c_F_holds : List (Nat × Instr) := [(0, .aload 0), (1, .invokevirtual 12390924), (4, .astore 3), (5, .aload 3), (6, .iload 1), (7, .invokevirtual 5971977), (10, .ifCond .eq 21), (13, .aload 3), (14, .iload 2), (15, .invokevirtual 5775369), (18, .ifCond .ne 24), (21, .iconst (-2)), (23, .ireturn), (24, .aload 0), (25, .invokevirtual 12521996), (28, .iload 2), (29, .iconst 100), (31, .idiv), (32, .iload 2), (33, .iconst 100), (35, .irem), (36, .invokevirtual 8269835), (39, .iload 1), (40, .ishr), (41, .iconst 1), (42, .iand), (43, .ireturn)]
def t_F_holds : List mm_T := []
def q_F_holds : mm_M := (c_F_holds, 4, t_F_holds)
def c_F_ruleOf : List (Nat × Instr) := [(0, .aload 0), (1, .invokevirtual 12390924), (4, .astore 3), (5, .aload 3), (6, .iload 1), (7, .invokevirtual 5971977), (10, .ifCond .ne 16), (13, .iconst (-2)), (15, .ireturn), (16, .aload 3), (17, .iload 1), (18, .invokevirtual 6038025), (21, .astore 4), (23, .iload 2), (24, .lookupswitch 129 #[(0, 64), (1, 88), (2, 94), (3, 100), (4, 106), (5, 115)]), (64, .aload 4), (66, .getfield 1792), (69, .aload 4), (71, .getfield 1796), (74, .aload 4), (76, .getfield 1800), (79, .aload 4), (81, .getfield 1804), (84, .invokestatic 13844480), (87, .ireturn), (88, .aload 4), (90, .getfield 1808), (93, .ireturn), (94, .aload 4), (96, .getfield 1812), (99, .ireturn), (100, .aload 4), (102, .getfield 1816), (105, .ireturn), (106, .aload 0), (107, .invokevirtual 12521996), (110, .iload 1), (111, .invokevirtual 8527883), (114, .ireturn), (115, .aload 0), (116, .invokevirtual 12521996), (119, .iload 1), (120, .aload 4), (122, .getfield 1808), (125, .invokevirtual 8597515), (128, .ireturn), (129, .iconst (-2)), (131, .ireturn)]
def t_F_ruleOf : List mm_T := []
def q_F_ruleOf : mm_M := (c_F_ruleOf, 5, t_F_ruleOf)
def c_F_idle : List (Nat × Instr) := [(0, .aload 0), (1, .invokevirtual 12390924), (4, .astore 1), (5, .aload 0), (6, .invokevirtual 12521996), (9, .astore 2), (10, .iconst 0), (11, .istore 3), (12, .iconst 0), (13, .istore 4), (15, .jsr_w 0), (15, .iload 4), (17, .aload 1), (18, .getfield 2312), (21, .if_icmp .ge 55), (24, .aload 2), (25, .iload 4), (27, .aload 1), (28, .iload 4), (30, .invokevirtual 6038025), (33, .getfield 1808), (36, .invokevirtual 8597515), (39, .ifCond .ne 49), (42, .iload 3), (43, .iconst 1), (44, .iload 4), (46, .ishl), (47, .ior), (48, .istore 3), (49, .iinc 4 1), (52, .goto 15), (55, .iload 3), (56, .ireturn)]
def t_F_idle : List mm_T := [(15, 55, [2, 2, 2, 0, 0], [55])]
def q_F_idle : mm_M := (c_F_idle, 5, t_F_idle)
def c_F_rects : List (Nat × Instr) := [(0, .iload 1), (1, .invokestatic 13307904), (4, .ifCond .eq 22), (7, .aload 0), (8, .getfield 3098), (11, .aload 0), (12, .invokevirtual 12390924), (15, .iload 1), (16, .invokevirtual 929794), (19, .goto 24), (22, .iconst (-2)), (24, .ireturn)]
def t_F_rects : List mm_T := []
def q_F_rects : mm_M := (c_F_rects, 2, t_F_rects)
def c_F_rect : List (Nat × Instr) := [(0, .iload 1), (1, .invokestatic 13307904), (4, .ifCond .eq 18), (7, .iload 2), (8, .ifCond .lt 18), (11, .iload 3), (12, .invokestatic 13504512), (15, .ifCond .ne 21), (18, .iconst (-2)), (20, .ireturn), (21, .iload 2), (22, .aload 0), (23, .getfield 3098), (26, .aload 0), (27, .invokevirtual 12390924), (30, .iload 1), (31, .invokevirtual 929794), (34, .if_icmp .lt 39), (37, .iconst (-1)), (38, .ireturn), (39, .iload 3), (40, .ifCond .ne 54), (43, .aload 0), (44, .getfield 3098), (47, .iload 2), (48, .invokevirtual 1581058), (51, .goto 65), (54, .aload 0), (55, .getfield 3098), (58, .getfield 530), (61, .iload 2), (62, .invokestatic 13049856), (65, .ireturn)]
def t_F_rect : List mm_T := []
def q_F_rect : mm_M := (c_F_rect, 4, t_F_rect)
def c_F_lies : List (Nat × Instr) := [(0, .aload 0), (1, .invokevirtual 12390924), (4, .iload 1), (5, .invokevirtual 5775369), (8, .ifCond .eq 18), (11, .iload 2), (12, .invokestatic 13307904), (15, .ifCond .ne 21), (18, .iconst (-2)), (20, .ireturn), (21, .aload 0), (22, .getfield 3098), (25, .aload 0), (26, .invokevirtual 12390924), (29, .iload 2), (30, .invokevirtual 929794), (33, .pop), (34, .aload 0), (35, .getfield 3098), (38, .getfield 534), (41, .iload 1), (42, .iconst 100), (44, .idiv), (45, .iload 1), (46, .iconst 100), (48, .irem), (49, .invokestatic 13246464), (52, .invokestatic 13049856), (55, .ireturn)]
def t_F_lies : List mm_T := []
def q_F_lies : mm_M := (c_F_lies, 3, t_F_lies)
def c_F_would : List (Nat × Instr) := [(0, .aload 0), (1, .invokevirtual 12390924), (4, .astore 4), (6, .iload 1), (7, .invokestatic 13307904), (10, .ifCond .eq 29), (13, .iload 2), (14, .invokestatic 13438976), (17, .ifCond .eq 29), (20, .aload 4), (22, .iload 3), (23, .invokevirtual 5840905), (26, .ifCond .ne 32), (29, .iconst (-2)), (31, .ireturn), (32, .aload 0), (33, .getfield 3098), (36, .aload 4), (38, .iload 1), (39, .invokevirtual 997634), (42, .aload 0), (43, .getfield 3098), (46, .iload 2), (47, .iload 3), (48, .invokestatic 13570048), (51, .iload 3), (52, .invokestatic 13635584), (55, .iload 3), (56, .invokestatic 13701120), (59, .iload 3), (60, .invokestatic 13766656), (63, .invokevirtual 1075458), (66, .aload 0), (67, .getfield 3098), (70, .invokevirtual 1380354), (73, .ireturn)]
def t_F_would : List mm_T := []
def q_F_would : mm_M := (c_F_would, 5, t_F_would)
def c_F_drawn : List (Nat × Instr) := [(0, .iload 2), (1, .ifCond .lt 25), (4, .iload 2), (5, .iconst 30), (7, .if_icmp .gt 25), (10, .iload 3), (11, .invokestatic 13307904), (14, .ifCond .eq 25), (17, .iload 4), (19, .invokestatic 13504512), (22, .ifCond .ne 28), (25, .iconst (-2)), (27, .ireturn), (28, .aload 0), (29, .getfield 3098), (32, .aload 0), (33, .invokevirtual 12390924), (36, .iload 3), (37, .invokevirtual 997634), (40, .aload 0), (41, .getfield 3098), (44, .iload 1), (45, .iload 2), (46, .invokevirtual 1128706), (49, .iload 4), (51, .ifCond .ne 64), (54, .aload 0), (55, .getfield 3098), (58, .invokevirtual 1380354), (61, .goto 71), (64, .aload 0), (65, .getfield 3098), (68, .invokevirtual 1314818), (71, .ireturn)]
def t_F_drawn : List mm_T := []
def q_F_drawn : mm_M := (c_F_drawn, 5, t_F_drawn)
def c_F_all : List (Nat × Instr) := [(0, .iload 1), (1, .invokestatic 13307904), (4, .ifCond .eq 18), (7, .aload 0), (8, .invokevirtual 12390924), (11, .iload 2), (12, .invokevirtual 5840905), (15, .ifCond .ne 21), (18, .iconst (-2)), (20, .ireturn), (21, .aload 0), (22, .invokevirtual 12521996), (25, .astore 3), (26, .aload 3), (27, .iload 1), (28, .iload 2), (29, .invokestatic 13570048), (32, .iload 2), (33, .invokestatic 13635584), (36, .invokevirtual 8405003), (39, .istore 4), (41, .iload 2), (42, .invokestatic 13701120), (45, .iload 2), (46, .invokestatic 13570048), (49, .isub), (50, .iconst 1), (51, .iadd), (52, .iload 2), (53, .invokestatic 13766656), (56, .iload 2), (57, .invokestatic 13635584), (60, .isub), (61, .iconst 1), (62, .iadd), (63, .imul), (64, .istore 5), (66, .aload 3), (67, .iload 1), (68, .iload 4), (70, .iload 2), (71, .invokevirtual 8667147), (74, .iload 5), (76, .if_icmp .ne 84), (79, .iload 4), (81, .goto 86), (84, .iconst (-5)), (86, .ireturn)]
def t_F_all : List mm_T := []
def q_F_all : mm_M := (c_F_all, 6, t_F_all)
def c_F_many : List (Nat × Instr) := [(0, .iload 1), (1, .invokestatic 13307904), (4, .ifCond .eq 25), (7, .iload 2), (8, .invokestatic 13373440), (11, .ifCond .eq 25), (14, .aload 0), (15, .invokevirtual 12390924), (18, .iload 3), (19, .invokevirtual 5840905), (22, .ifCond .ne 28), (25, .iconst (-2)), (27, .ireturn), (28, .aload 0), (29, .invokevirtual 12521996), (32, .iload 1), (33, .iload 2), (34, .iload 3), (35, .invokevirtual 8667147), (38, .ireturn)]
def t_F_many : List mm_T := []
def q_F_many : mm_M := (c_F_many, 4, t_F_many)
def c_F_greatest : List (Nat × Instr) := [(0, .iload 1), (1, .invokestatic 13307904), (4, .ifCond .eq 21), (7, .iload 2), (8, .invokestatic 13373440), (11, .ifCond .eq 21), (14, .iload 3), (15, .invokestatic 13504512), (18, .ifCond .ne 24), (21, .iconst (-2)), (23, .ireturn), (24, .aload 0), (25, .invokevirtual 12521996), (28, .astore 4), (30, .aload 4), (32, .iload 1), (33, .iload 2), (34, .invokevirtual 8993035), (37, .iload 3), (38, .ifCond .ne 49), (41, .aload 4), (43, .getfield 2848), (46, .goto 54), (49, .aload 4), (51, .getfield 2852), (54, .ireturn)]
def t_F_greatest : List mm_T := []
def q_F_greatest : mm_M := (c_F_greatest, 5, t_F_greatest)
def c_F_alike : List (Nat × Instr) := [(0, .aload 0), (1, .invokevirtual 12390924), (4, .iload 1), (5, .invokevirtual 5775369), (8, .ifCond .ne 14), (11, .iconst (-2)), (13, .ireturn), (14, .aload 0), (15, .invokevirtual 12521996), (18, .astore 2), (19, .aload 2), (20, .aload 2), (21, .iload 1), (22, .iconst 100), (24, .idiv), (25, .iload 1), (26, .iconst 100), (28, .irem), (29, .invokevirtual 8466443), (32, .invokevirtual 8724491), (35, .ireturn)]
def t_F_alike : List mm_T := []
def q_F_alike : mm_M := (c_F_alike, 3, t_F_alike)
def c_F_looks : List (Nat × Instr) := [(0, .aload 0), (1, .invokevirtual 12521996), (4, .invokevirtual 8851467), (7, .ireturn)]
def t_F_looks : List mm_T := []
def q_F_looks : mm_M := (c_F_looks, 1, t_F_looks)
def c_F_stripes : List (Nat × Instr) := [(0, .iload 1), (1, .ifCond .lt 15), (4, .iload 1), (5, .aload 0), (6, .invokevirtual 12390924), (9, .getfield 2304), (12, .if_icmp .lt 18), (15, .iconst (-2)), (17, .ireturn), (18, .aload 0), (19, .invokevirtual 12521996), (22, .iload 1), (23, .invokevirtual 8921099), (26, .ireturn)]
def t_F_stripes : List mm_T := []
def q_F_stripes : mm_M := (c_F_stripes, 2, t_F_stripes)
def c_F_strokes : List (Nat × Instr) := [(0, .iload 1), (1, .ifCond .lt 22), (4, .iload 1), (5, .aload 0), (6, .invokevirtual 12390924), (9, .getfield 2304), (12, .if_icmp .ge 22), (15, .iload 2), (16, .invokestatic 13307904), (19, .ifCond .ne 25), (22, .iconst (-2)), (24, .ireturn), (25, .aload 0), (26, .getfield 3098), (29, .aload 0), (30, .invokevirtual 12390924), (33, .iload 2), (34, .invokevirtual 997634), (37, .aload 0), (38, .getfield 3098), (41, .iload 1), (42, .invokevirtual 1712130), (45, .ireturn)]
def t_F_strokes : List mm_T := []
def q_F_strokes : mm_M := (c_F_strokes, 3, t_F_strokes)
def c_F_needless : List (Nat × Instr) := [(0, .iload 1), (1, .invokestatic 13307904), (4, .ifCond .eq 18), (7, .aload 0), (8, .invokevirtual 12390924), (11, .iload 1), (12, .invokevirtual 6627337), (15, .goto 20), (18, .iconst (-2)), (20, .ireturn)]
def t_F_needless : List mm_T := []
def q_F_needless : mm_M := (c_F_needless, 2, t_F_needless)
def c_F_row : List (Nat × Instr) := [(0, .iload 1), (1, .invokestatic 12652544), (4, .ifCond .eq 13), (7, .iload 2), (8, .iconst 60), (10, .if_icmp .le 16), (13, .iconst (-2)), (15, .ireturn), (16, .iload 2), (17, .ifCond .ge 23), (20, .iconst (-14)), (22, .ireturn), (23, .aload 0), (24, .getfield 3122), (27, .iload 1), (28, .iload 2), (29, .invokestatic 13121792), (32, .iconst 0), (33, .istore 3), (34, .jsr_w 0), (34, .iload 3), (35, .iload 2), (36, .if_icmp .ge 52), (39, .aload 0), (40, .iload 1), (41, .iload 3), (42, .iconst 0), (43, .invokevirtual 12863756), (46, .iinc 3 1), (49, .goto 34), (52, .iconst 1), (53, .ireturn)]
def t_F_row : List mm_T := [(34, 52, [2, 0, 0, 0], [52])]
def q_F_row : mm_M := (c_F_row, 4, t_F_row)
def c_F_put : List (Nat × Instr) := [(0, .iload 1), (1, .invokestatic 12652544), (4, .ifCond .ne 10), (7, .iconst (-2)), (9, .ireturn), (10, .aload 0), (11, .iload 1), (12, .invokevirtual 12722188), (15, .ifCond .ge 21), (18, .iconst (-11)), (20, .ireturn), (21, .iload 2), (22, .ifCond .lt 34), (25, .iload 2), (26, .aload 0), (27, .iload 1), (28, .invokevirtual 12722188), (31, .if_icmp .lt 37), (34, .iconst (-13)), (36, .ireturn), (37, .aload 0), (38, .iload 1), (39, .iload 2), (40, .iload 3), (41, .invokevirtual 12863756), (44, .iconst 1), (45, .ireturn)]
def t_F_put : List mm_T := []
def q_F_put : mm_M := (c_F_put, 4, t_F_put)
def c_F_element : List (Nat × Instr) := [(0, .iload 1), (1, .invokestatic 12652544), (4, .ifCond .eq 20), (7, .iload 2), (8, .ifCond .lt 20), (11, .iload 2), (12, .aload 0), (13, .iload 1), (14, .invokevirtual 12722188), (17, .if_icmp .lt 24), (20, .iconst (-2000000000)), (23, .ireturn), (24, .aload 0), (25, .iload 1), (26, .iload 2), (27, .invokevirtual 12791820), (30, .ireturn)]
def t_F_element : List mm_T := []
def q_F_element : mm_M := (c_F_element, 3, t_F_element)
def c_F_clip : List (Nat × Instr) := [(0, .iload 1), (1, .invokestatic 12652544), (4, .ifCond .eq 26), (7, .iload 3), (8, .invokestatic 13307904), (11, .ifCond .eq 26), (14, .aload 0), (15, .invokevirtual 12390924), (18, .iload 4), (20, .invokevirtual 5840905), (23, .ifCond .ne 29), (26, .iconst (-2)), (28, .ireturn), (29, .aload 0), (30, .iload 1), (31, .invokevirtual 12722188), (34, .ifCond .ge 40), (37, .iconst (-11)), (39, .ireturn), (40, .aload 0), (41, .getfield 3098), (44, .aload 0), (45, .invokevirtual 12390924), (48, .iload 3), (49, .invokevirtual 929794), (52, .istore 5), (54, .iconst 0), (55, .istore 6), (57, .iconst 0), (58, .istore 7), (60, .jsr_w 0), (60, .iload 7), (62, .iload 5), (64, .if_icmp .ge 90), (67, .aload 0), (68, .getfield 3098), (71, .iload 7), (73, .iload 4), (75, .invokevirtual 1650690), (78, .ifCond .eq 84), (81, .iinc 6 1), (84, .iinc 7 1), (87, .goto 60), (90, .iload 2), (91, .ifCond .lt 108), (94, .iload 2), (95, .aload 0), (96, .iload 1), (97, .invokevirtual 12722188), (100, .iconst 5), (101, .iload 6), (103, .imul), (104, .isub), (105, .if_icmp .le 111), (108, .iconst (-13)), (110, .ireturn), (111, .iload 2), (112, .istore 7), (114, .iconst 0), (115, .istore 8), (117, .jsr_w 1), (117, .iload 8), (119, .iload 5), (121, .if_icmp .ge 158), (124, .aload 0), (125, .getfield 3098), (128, .iload 8), (130, .iload 4), (132, .invokevirtual 1650690), (135, .ifCond .eq 152), (138, .aload 0), (139, .iload 1), (140, .iload 7), (142, .iload 8), (144, .iload 4), (146, .invokevirtual 12998924), (149, .iinc 7 5), (152, .iinc 8 1), (155, .goto 117), (158, .iload 6), (160, .ireturn)]
def t_F_clip : List mm_T := [(60, 90, [2, 0, 0, 0, 0, 0, 0, 0, 9], [90]), (117, 158, [2, 0, 0, 0, 0, 0, 0, 0, 0], [158])]
def q_F_clip : mm_M := (c_F_clip, 9, t_F_clip)
def c_F_feed : List (Nat × Instr) := [(0, .iload 1), (1, .iconst 1), (2, .if_icmp .lt 10), (5, .iload 1), (6, .iconst 4), (7, .if_icmp .le 13), (10, .iconst (-2)), (12, .ireturn), (13, .aload 0), (14, .getfield 3102), (17, .getfield 2564), (20, .iload 1), (21, .iadd), (22, .iconst 200), (25, .if_icmp .le 33), (28, .iconst (-4)), (30, .goto 42), (33, .aload 0), (34, .getfield 3102), (37, .iload 1), (38, .iload 2), (39, .invokevirtual 7155722), (42, .ireturn)]
def t_F_feed : List mm_T := []
def q_F_feed : mm_M := (c_F_feed, 3, t_F_feed)
def c_F_text : List (Nat × Instr) := [(0, .aload 0), (1, .getfield 3136), (4, .iconst 4), (5, .if_icmp .lt 11), (8, .iconst (-4)), (10, .ireturn), (11, .aload 0), (12, .getfield 3110), (15, .invokevirtual 4067846), (18, .astore 1), (19, .aload 0), (20, .getfield 3102), (23, .getfield 2572), (26, .istore 2), (27, .aload 0), (28, .getfield 3102), (31, .invokevirtual 7215370), (34, .iload 2), (35, .iconst (-1)), (36, .if_icmp .eq 44), (39, .iconst (-100)), (41, .iload 2), (42, .isub), (43, .ireturn), (44, .aload 0), (45, .getfield 3136), (48, .ifCond .lt 73), (51, .aload 0), (52, .getfield 3136), (55, .aload 0), (56, .getfield 3114), (59, .arraylength), (60, .if_icmp .ge 73), (63, .aload 0), (64, .getfield 3114), (67, .aload 0), (68, .getfield 3136), (71, .aload 1), (72, .aastore), (73, .aload 0), (74, .dup), (75, .getfield 3136), (78, .iconst 1), (79, .iadd), (80, .putfield 3136), (83, .aload 0), (84, .getfield 3136), (87, .iconst 1), (88, .isub), (89, .ireturn)]
def t_F_text : List mm_T := []
def q_F_text : mm_M := (c_F_text, 3, t_F_text)
def c_F_tests : List (Nat × Instr) := [(0, .aload 0), (1, .iload 1), (2, .invokevirtual 12591628), (5, .astore 3), (6, .aload 3), (7, .ifnull 19), (10, .iload 2), (11, .ifCond .lt 19), (14, .iload 2), (15, .iconst 3), (16, .if_icmp .le 22), (19, .iconst (-2)), (21, .ireturn), (22, .aload 0), (23, .getfield 3074), (26, .invokevirtual 3019268), (29, .astore 4), (31, .aload 0), (32, .getfield 3082), (35, .aload 4), (37, .aload 3), (38, .invokevirtual 5189640), (41, .istore 5), (43, .iload 2), (44, .ifCond .ne 50), (47, .iload 5), (49, .ireturn), (50, .iload 5), (52, .ifCond .ge 62), (55, .aload 0), (56, .invokevirtual 12390924), (59, .goto 64), (62, .aload 4), (64, .astore 6), (66, .iload 2), (67, .iconst 2), (68, .if_icmp .ne 86), (71, .iconst 100), (73, .aload 6), (75, .getfield 2304), (78, .imul), (79, .aload 6), (81, .getfield 2308), (84, .iadd), (85, .ireturn), (86, .iload 2), (87, .iconst 3), (88, .if_icmp .ne 112), (91, .aload 0), (92, .getfield 3094), (95, .aload 6), (97, .aload 0), (98, .getfield 3086), (101, .invokevirtual 8075531), (104, .aload 0), (105, .getfield 3094), (108, .invokevirtual 8851467), (111, .ireturn), (112, .iconst 0), (113, .istore 7), (115, .iconst 0), (116, .istore 8), (118, .jsr_w 0), (118, .iload 8), (120, .iconst 4), (121, .if_icmp .ge 146), (124, .iload 7), (126, .aload 0), (127, .getfield 3098), (130, .aload 6), (132, .iload 8), (134, .invokevirtual 929794), (137, .iadd), (138, .istore 7), (140, .iinc 8 1), (143, .goto 118), (146, .iload 7), (148, .ireturn)]
def t_F_tests : List mm_T := [(118, 146, [2, 0, 0, 2, 2, 0, 2, 0, 0], [146])]
def q_F_tests : mm_M := (c_F_tests, 9, t_F_tests)
def c_F_image : List (Nat × Instr) := [(0, .aload 0), (1, .getfield 3126), (4, .aload 0), (5, .invokevirtual 12390924), (8, .invokevirtual 5646601), (11, .aload 0), (12, .iconst 1), (13, .putstatic 3128), (16, .iconst 1), (17, .ireturn)]
def t_F_image : List mm_T := []
def q_F_image : mm_M := (c_F_image, 1, t_F_image)
def c_F_back : List (Nat × Instr) := [(0, .aload 0), (1, .getfield 3128), (4, .ifCond .ne 10), (7, .iconst (-3)), (9, .ireturn), (10, .aload 0), (11, .getfield 3074), (14, .aload 0), (15, .getfield 3126), (18, .invokevirtual 3287300), (21, .aload 0), (22, .iconst 1), (23, .putstatic 3132), (26, .iconst 1), (27, .ireturn)]
def t_F_back : List mm_T := []
def q_F_back : mm_M := (c_F_back, 1, t_F_back)
def c_F_differs : List (Nat × Instr) := [(0, .aload 0), (1, .getfield 3128), (4, .ifCond .ne 10), (7, .iconst (-3)), (9, .ireturn), (10, .aload 0), (11, .invokevirtual 12390924), (14, .astore 1), (15, .aload 1), (16, .getfield 2304), (19, .aload 0), (20, .getfield 3126), (23, .getfield 2304), (26, .if_icmp .ne 43), (29, .aload 1), (30, .getfield 2308), (33, .aload 0), (34, .getfield 3126), (37, .getfield 2308), (40, .if_icmp .eq 45), (43, .iconst (-1)), (44, .ireturn), (45, .aload 0), (46, .getfield 3094), (49, .aload 0), (50, .getfield 3126), (53, .aload 0), (54, .getfield 3086), (57, .invokevirtual 8075531), (60, .aload 0), (61, .invokevirtual 12521996), (64, .aload 0), (65, .getfield 3094), (68, .invokevirtual 8790027), (71, .ireturn)]
def t_F_differs : List mm_T := []
def q_F_differs : mm_M := (c_F_differs, 2, t_F_differs)
def c_F_count : List (Nat × Instr) := [(0, .iload 1), (1, .lookupswitch 97 #[(0, 44), (1, 52), (2, 60), (3, 68), (4, 76), (5, 84), (6, 89)]), (44, .aload 0), (45, .invokevirtual 12390924), (48, .getfield 2304), (51, .ireturn), (52, .aload 0), (53, .invokevirtual 12390924), (56, .getfield 2308), (59, .ireturn), (60, .aload 0), (61, .invokevirtual 12390924), (64, .getfield 2312), (67, .ireturn), (68, .aload 0), (69, .getfield 3074), (72, .getfield 1036), (75, .ireturn), (76, .aload 0), (77, .getfield 3074), (80, .getfield 1040), (83, .ireturn), (84, .aload 0), (85, .getfield 3136), (88, .ireturn), (89, .aload 0), (90, .getfield 3102), (93, .getfield 2564), (96, .ireturn), (97, .iconst (-2)), (99, .ireturn)]
def t_F_count : List mm_T := []
def q_F_count : mm_M := (c_F_count, 2, t_F_count)
def c_F_now : List (Nat × Instr) := [(0, .aload 0), (1, .getfield 3074), (4, .aload 0), (5, .getfield 3074), (8, .getfield 1036), (11, .invokevirtual 2957828), (14, .areturn)]
def t_F_now : List mm_T := []
def q_F_now : mm_M := (c_F_now, 1, t_F_now)
def c_F_settle : List (Nat × Instr) := [(0, .iload 1), (1, .ifCond .lt 16), (4, .aload 0), (5, .getfield 3074), (8, .invokevirtual 3086596), (11, .aload 0), (12, .iconst 1), (13, .putstatic 3132), (16, .iload 1), (17, .ireturn)]
def t_F_settle : List mm_T := []
def q_F_settle : mm_M := (c_F_settle, 2, t_F_settle)
def c_F_freshView : List (Nat × Instr) := [(0, .aload 0), (1, .getfield 3132), (4, .ifCond .eq 27), (7, .aload 0), (8, .getfield 3090), (11, .aload 0), (12, .invokevirtual 12390924), (15, .aload 0), (16, .getfield 3086), (19, .invokevirtual 8075531), (22, .aload 0), (23, .iconst 0), (24, .putstatic 3132), (27, .aload 0), (28, .getfield 3090), (31, .areturn)]
def t_F_freshView : List mm_T := []
def q_F_freshView : mm_M := (c_F_freshView, 1, t_F_freshView)
def c_F_programOf : List (Nat × Instr) := [(0, .iload 1), (1, .ifCond .lt 30), (4, .iload 1), (5, .aload 0), (6, .getfield 3136), (9, .if_icmp .ge 30), (12, .iload 1), (13, .aload 0), (14, .getfield 3114), (17, .arraylength), (18, .if_icmp .ge 30), (21, .aload 0), (22, .getfield 3114), (25, .iload 1), (26, .aaload), (27, .goto 31), (30, .sipush 0), (31, .areturn)]
def t_F_programOf : List mm_T := []
def q_F_programOf : mm_M := (c_F_programOf, 2, t_F_programOf)
def c_F_isShelf : List (Nat × Instr) := [(0, .iload 0), (1, .ifCond .lt 13), (4, .iload 0), (5, .iconst 4), (6, .if_icmp .ge 13), (9, .iconst 1), (10, .goto 14), (13, .iconst 0), (14, .freturn)]
def t_F_isShelf : List mm_T := []
def q_F_isShelf : mm_M := (c_F_isShelf, 1, t_F_isShelf)
def c_F_sizeOf : List (Nat × Instr) := [(0, .iload 1), (1, .ifCond .lt 22), (4, .iload 1), (5, .aload 0), (6, .getfield 3122), (9, .arraylength), (10, .if_icmp .ge 22), (13, .aload 0), (14, .getfield 3122), (17, .iload 1), (18, .iaload), (19, .goto 23), (22, .iconst (-1)), (23, .ireturn)]
def t_F_sizeOf : List mm_T := []
def q_F_sizeOf : mm_M := (c_F_sizeOf, 2, t_F_sizeOf)
def c_F_shortOf : List (Nat × Instr) := [(0, .iload 1), (1, .iconst 60), (3, .imul), (4, .iload 2), (5, .iadd), (6, .istore 3), (7, .iload 3), (8, .ifCond .lt 29), (11, .iload 3), (12, .aload 0), (13, .getfield 3118), (16, .arraylength), (17, .if_icmp .ge 29), (20, .aload 0), (21, .getfield 3118), (24, .iload 3), (25, .saload), (26, .goto 30), (29, .iconst 0), (30, .ireturn)]
def t_F_shortOf : List mm_T := []
def q_F_shortOf : mm_M := (c_F_shortOf, 4, t_F_shortOf)
def c_F_setShort : List (Nat × Instr) := [(0, .iload 1), (1, .iconst 60), (3, .imul), (4, .iload 2), (5, .iadd), (6, .istore 4), (8, .iload 4), (10, .ifCond .lt 32), (13, .iload 4), (15, .aload 0), (16, .getfield 3118), (19, .arraylength), (20, .if_icmp .ge 32), (23, .aload 0), (24, .getfield 3118), (27, .iload 4), (29, .iload 3), (30, .i2s), (31, .sastore), (32, .return_)]
def t_F_setShort : List mm_T := []
def q_F_setShort : mm_M := (c_F_setShort, 5, t_F_setShort)
def c_F_pastedRect : List (Nat × Instr) := [(0, .iload 3), (1, .iconst 100), (3, .idiv), (4, .istore 4), (6, .iload 3), (7, .iconst 100), (9, .irem), (10, .istore 5), (12, .iload 4), (14, .aload 0), (15, .iload 1), (16, .iload 2), (17, .invokevirtual 12791820), (20, .iadd), (21, .iload 5), (23, .aload 0), (24, .iload 1), (25, .iload 2), (26, .iconst 1), (27, .iadd), (28, .invokevirtual 12791820), (31, .iadd), (32, .iload 4), (34, .aload 0), (35, .iload 1), (36, .iload 2), (37, .iconst 2), (38, .iadd), (39, .invokevirtual 12791820), (42, .iadd), (43, .iload 5), (45, .aload 0), (46, .iload 1), (47, .iload 2), (48, .iconst 3), (49, .iadd), (50, .invokevirtual 12791820), (53, .iadd), (54, .invokestatic 13844480), (57, .ireturn)]
def t_F_pastedRect : List mm_T := []
def q_F_pastedRect : mm_M := (c_F_pastedRect, 6, t_F_pastedRect)
def c_F_writeFive : List (Nat × Instr) := [(0, .iload 4), (2, .invokestatic 13570048), (5, .istore 5), (7, .iload 4), (9, .invokestatic 13635584), (12, .istore 6), (14, .aload 0), (15, .iload 1), (16, .iload 2), (17, .aload 0), (18, .getfield 3098), (21, .getfield 514), (24, .iload 3), (25, .invokestatic 13049856), (28, .iload 5), (30, .dadd), (33, .iload 5), (35, .isub), (36, .invokevirtual 12863756), (39, .aload 0), (40, .iload 1), (41, .iload 2), (42, .iconst 1), (43, .iadd), (44, .aload 0), (45, .getfield 3098), (48, .getfield 518), (51, .iload 3), (52, .invokestatic 13049856), (55, .iload 6), (57, .dadd), (60, .iload 6), (62, .isub), (63, .invokevirtual 12863756), (66, .aload 0), (67, .iload 1), (68, .iload 2), (69, .iconst 2), (70, .iadd), (71, .aload 0), (72, .getfield 3098), (75, .getfield 522), (78, .iload 3), (79, .invokestatic 13049856), (82, .iload 4), (84, .invokestatic 13701120), (87, .dsub), (90, .iload 5), (92, .isub), (93, .invokevirtual 12863756), (96, .aload 0), (97, .iload 1), (98, .iload 2), (99, .iconst 3), (100, .iadd), (101, .aload 0), (102, .getfield 3098), (105, .getfield 526), (108, .iload 3), (109, .invokestatic 13049856), (112, .iload 4), (114, .invokestatic 13766656), (117, .dsub), (120, .iload 6), (122, .isub), (123, .invokevirtual 12863756), (126, .aload 0), (127, .iload 1), (128, .iload 2), (129, .iconst 4), (130, .iadd), (131, .aload 0), (132, .getfield 3098), (135, .getfield 530), (138, .iload 3), (139, .invokestatic 13049856), (142, .invokevirtual 12863756), (145, .return_)]
def t_F_writeFive : List mm_T := []
def q_F_writeFive : mm_M := (c_F_writeFive, 7, t_F_writeFive)
def c_F_peek : List (Nat × Instr) := [(0, .iload 1), (1, .ifCond .lt 16), (4, .iload 1), (5, .aload 0), (6, .arraylength), (7, .if_icmp .ge 16), (10, .aload 0), (11, .iload 1), (12, .iaload), (13, .goto 17), (16, .iconst 0), (17, .ireturn)]
def t_F_peek : List mm_T := []
def q_F_peek : mm_M := (c_F_peek, 2, t_F_peek)
def c_F_poke : List (Nat × Instr) := [(0, .iload 1), (1, .ifCond .lt 14), (4, .iload 1), (5, .aload 0), (6, .arraylength), (7, .if_icmp .ge 14), (10, .aload 0), (11, .iload 1), (12, .iload 2), (13, .iastore), (14, .return_)]
def t_F_poke : List mm_T := []
def q_F_poke : mm_M := (c_F_poke, 3, t_F_poke)
def c_F_wrap : List (Nat × Instr) := [(0, .iload 1), (1, .ifCond .le 10), (4, .iload 0), (5, .iload 1), (6, .irem), (7, .goto 11), (10, .iconst 0), (11, .ireturn)]
def t_F_wrap : List mm_T := []
def q_F_wrap : mm_M := (c_F_wrap, 2, t_F_wrap)
def c_F_placeOf : List (Nat × Instr) := [(0, .iload 0), (1, .iconst 16), (3, .imul), (4, .iload 1), (5, .iadd), (6, .ireturn)]
def t_F_placeOf : List mm_T := []
def q_F_placeOf : mm_M := (c_F_placeOf, 2, t_F_placeOf)
def c_F_isProperty : List (Nat × Instr) := [(0, .iload 0), (1, .ifCond .lt 13), (4, .iload 0), (5, .iconst 4), (6, .if_icmp .ge 13), (9, .iconst 1), (10, .goto 14), (13, .iconst 0), (14, .freturn)]
def t_F_isProperty : List mm_T := []
def q_F_isProperty : mm_M := (c_F_isProperty, 1, t_F_isProperty)
def c_F_isNumber : List (Nat × Instr) := [(0, .iload 0), (1, .ifCond .lt 14), (4, .iload 0), (5, .iconst 9), (7, .if_icmp .gt 14), (10, .iconst 1), (11, .goto 15), (14, .iconst 0), (15, .freturn)]
def t_F_isNumber : List mm_T := []
def q_F_isNumber : mm_M := (c_F_isNumber, 1, t_F_isNumber)
def c_F_isFormat : List (Nat × Instr) := [(0, .iload 0), (1, .iconst (-1)), (2, .if_icmp .eq 12), (5, .iload 0), (6, .invokestatic 13373440), (9, .ifCond .eq 16), (12, .iconst 1), (13, .goto 17), (16, .iconst 0), (17, .freturn)]
def t_F_isFormat : List mm_T := []
def q_F_isFormat : mm_M := (c_F_isFormat, 1, t_F_isFormat)
def c_F_isFlag : List (Nat × Instr) := [(0, .iload 0), (1, .ifCond .eq 9), (4, .iload 0), (5, .iconst 1), (6, .if_icmp .ne 13), (9, .iconst 1), (10, .goto 14), (13, .iconst 0), (14, .freturn)]
def t_F_isFlag : List mm_T := []
def q_F_isFlag : mm_M := (c_F_isFlag, 1, t_F_isFlag)
def c_F_topOf : List (Nat × Instr) := [(0, .iload 0), (1, .iconst 1000000), (4, .idiv), (5, .ireturn)]
def t_F_topOf : List mm_T := []
def q_F_topOf : mm_M := (c_F_topOf, 1, t_F_topOf)
def c_F_leftOf : List (Nat × Instr) := [(0, .iload 0), (1, .iconst 10000), (4, .idiv), (5, .iconst 100), (7, .irem), (8, .ireturn)]
def t_F_leftOf : List mm_T := []
def q_F_leftOf : mm_M := (c_F_leftOf, 1, t_F_leftOf)
def c_F_bottomOf : List (Nat × Instr) := [(0, .iload 0), (1, .iconst 100), (3, .idiv), (4, .iconst 100), (6, .irem), (7, .ireturn)]
def t_F_bottomOf : List mm_T := []
def q_F_bottomOf : mm_M := (c_F_bottomOf, 1, t_F_bottomOf)
def c_F_rightOf : List (Nat × Instr) := [(0, .iload 0), (1, .iconst 100), (3, .irem), (4, .ireturn)]
def t_F_rightOf : List mm_T := []
def q_F_rightOf : mm_M := (c_F_rightOf, 1, t_F_rightOf)
def c_F_rectCode : List (Nat × Instr) := [(0, .iload 0), (1, .iload 1), (2, .invokestatic 13901824), (5, .istore 4), (7, .iload 2), (8, .iload 3), (9, .invokestatic 13901824), (12, .istore 5), (14, .iload 4), (16, .ifCond .lt 24), (19, .iload 5), (21, .ifCond .ge 28), (24, .iconst (-1)), (25, .goto 37), (28, .iconst 10000), (31, .iload 4), (33, .imul), (34, .iload 5), (36, .iadd), (37, .ireturn)]
def t_F_rectCode : List mm_T := []
def q_F_rectCode : mm_M := (c_F_rectCode, 6, t_F_rectCode)
def c_F_pairCode : List (Nat × Instr) := [(0, .iload 0), (1, .ifCond .lt 20), (4, .iload 0), (5, .iconst 99), (7, .if_icmp .gt 20), (10, .iload 1), (11, .ifCond .lt 20), (14, .iload 1), (15, .iconst 99), (17, .if_icmp .le 24), (20, .iconst (-1)), (21, .goto 30), (24, .iconst 100), (26, .iload 0), (27, .imul), (28, .iload 1), (29, .iadd), (30, .ireturn)]
def t_F_pairCode : List mm_T := []
def q_F_pairCode : mm_M := (c_F_pairCode, 2, t_F_pairCode)
def c_M_init : List (Nat × Instr) := [(0, .aload 0), (1, .checkcast 13), (4, .aload 0), (5, .iconst 3863), (8, .anewarray 50), (10, .putfield 3330), (13, .aload 0), (14, .iconst 119753), (16, .anewarray 50), (18, .putfield 3334), (21, .aload 0), (22, .iconst 3863), (25, .anewarray 50), (27, .putfield 3350), (30, .aload 0), (31, .iconst 3863), (34, .anewarray 50), (36, .putfield 3358), (39, .aload 0), (40, .iconst 16), (42, .anewarray 50), (44, .putfield 3378), (47, .aload 0), (48, .iconst 1024), (51, .anewarray 50), (53, .putfield 3382), (56, .aload 0), (57, .iconst 200), (60, .anewarray 50), (62, .putfield 3386), (65, .aload 0), (66, .iconst 400), (69, .anewarray 50), (71, .putfield 3414), (74, .aload 0), (75, .iconst 10), (77, .anewarray 53), (79, .dup), (80, .iconst 0), (81, .jsr 23114405), (84, .lastore), (85, .dup), (86, .iconst 1), (87, .jsr 18935), (90, .lastore), (91, .dup), (92, .iconst 2), (93, .jsr 116807086), (96, .lastore), (97, .dup), (98, .iconst 3), (99, .jsr 398548), (102, .lastore), (103, .dup), (104, .iconst 4), (105, .jsr 1130181), (108, .lastore), (109, .dup), (110, .iconst 5), (111, .jsr 20141), (114, .lastore), (115, .dup), (116, .iconst 6), (118, .jsr 441972), (121, .lastore), (122, .dup), (123, .iconst 7), (125, .jsr 12748404), (128, .lastore), (129, .dup), (130, .iconst 8), (132, .jsr 402789), (135, .lastore), (136, .dup), (137, .iconst 9), (139, .jsr 8125468850), (142, .lastore), (143, .putfield 3426), (146, .aload 0), (147, .iconst 408), (150, .anewarray 50), (152, .putfield 3430), (155, .aload 0), (156, .iconst 1536), (159, .anewarray 52), (161, .putfield 3434), (164, .aload 0), (165, .iconst 400), (168, .anewarray 53), (170, .putfield 3438), (173, .aload 0), (174, .iconst 1280), (177, .anewarray 50), (179, .putfield 3454), (182, .aload 0), (183, .iconst 289), (186, .anewarray 50), (188, .putfield 3466), (191, .aload 0), (192, .iconst 10000), (195, .anewarray 52), (197, .putfield 3470), (200, .aload 0), (201, .iconst 17), (203, .anewarray 50), (205, .putfield 3474), (208, .aload 0), (209, .iconst 324), (212, .anewarray 50), (214, .putfield 3478), (217, .aload 0), (218, .iconst 256), (221, .anewarray 50), (223, .putfield 3482), (226, .aload 0), (227, .iconst 240), (230, .anewarray 51), (232, .putfield 3486), (235, .aload 0), (236, .iconst 4), (237, .anewarray 50), (239, .dup), (240, .iconst 0), (241, .iconst (-1)), (242, .iastore), (243, .dup), (244, .iconst 1), (245, .iconst (-1)), (246, .iastore), (247, .dup), (248, .iconst 2), (249, .iconst (-1)), (250, .iastore), (251, .dup), (252, .iconst 3), (253, .iconst (-1)), (254, .iastore), (255, .putfield 3490), (258, .aload 0), (259, .iconst 1600), (262, .anewarray 50), (264, .putfield 3494), (267, .aload 0), (268, .iconst 4), (269, .anewarray 50), (271, .putfield 3498), (274, .aload 0), (275, .getfield 3330), (278, .iconst 0), (279, .iconst 8), (281, .iastore), (282, .aload 0), (283, .getfield 3330), (286, .iconst 1), (287, .iconst 8), (289, .iastore), (290, .iconst 7), (292, .istore 1), (293, .jsr_w 0), (293, .iload 1), (294, .iconst 135), (297, .if_icmp .ge 313), (300, .aload 0), (301, .getfield 3330), (304, .iload 1), (305, .iconst (-1)), (306, .iastore), (307, .iinc 1 1), (310, .goto 293), (313, .iconst 391), (316, .istore 1), (317, .jsr_w 1), (317, .iload 1), (318, .iconst 1415), (321, .if_icmp .ge 337), (324, .aload 0), (325, .getfield 3330), (328, .iload 1), (329, .iconst (-1)), (330, .iastore), (331, .iinc 1 1), (334, .goto 317), (337, .aload 0), (338, .getfield 3330), (341, .iconst 0), (342, .aload 0), (343, .getfield 3334), (346, .iconst 0), (347, .iconst 3863), (350, .daload), (353, .return_)]
def t_M_init : List mm_T := [(293, 313, [2, 0], [313]), (317, 337, [2, 0], [337])]
def q_M_init : mm_M := (c_M_init, 2, t_M_init)
def c_M_in : List (Nat × Instr) := [(0, .lload 0), (1, .lload 2), (2, .lcmp), (3, .ifCond .lt 17), (6, .lload 0), (7, .lload 4), (9, .lcmp), (10, .ifCond .gt 17), (13, .iconst 1), (14, .goto 18), (17, .iconst 0), (18, .freturn)]
def t_M_in : List mm_T := []
def q_M_in : mm_M := (c_M_in, 6, t_M_in)
def c_M_isProperty : List (Nat × Instr) := [(0, .iload 0), (1, .i2l), (2, .jsr 0), (3, .jsr 3), (6, .invokestatic 14036992), (9, .freturn)]
def t_M_isProperty : List mm_T := []
def q_M_isProperty : mm_M := (c_M_isProperty, 1, t_M_isProperty)
def c_M_isTold : List (Nat × Instr) := [(0, .iload 0), (1, .i2l), (2, .jsr (-1)), (5, .jsr 9), (8, .invokestatic 14036992), (11, .freturn)]
def t_M_isTold : List mm_T := []
def q_M_isTold : mm_M := (c_M_isTold, 1, t_M_isTold)
def c_M_told : List (Nat × Instr) := [(0, .iload 1), (1, .ifCond .ge 6), (4, .iload 1), (5, .ireturn), (6, .aload 0), (7, .getfield 3336), (10, .iconst 30), (12, .if_icmp .ne 42), (15, .aload 0), (16, .getfield 3334), (19, .iconst 3863), (22, .aload 0), (23, .getfield 3334), (26, .iconst 0), (27, .iconst 115890), (29, .daload), (32, .aload 0), (33, .dup), (34, .getfield 3336), (37, .iconst 1), (38, .isub), (39, .putfield 3336), (42, .aload 0), (43, .dup), (44, .getfield 3336), (47, .iconst 1), (48, .iadd), (49, .putfield 3336), (52, .aload 0), (53, .aload 0), (54, .getfield 3336), (57, .putfield 3340), (60, .aload 0), (61, .getfield 3330), (64, .iconst 0), (65, .aload 0), (66, .getfield 3334), (69, .aload 0), (70, .getfield 3336), (73, .iconst 3863), (76, .imul), (77, .iconst 3863), (80, .daload), (83, .aload 0), (84, .iconst 0), (85, .putstatic 3344), (88, .iload 1), (89, .ireturn)]
def t_M_told : List mm_T := []
def q_M_told : mm_M := (c_M_told, 2, t_M_told)
def c_M_becomes : List (Nat × Instr) := [(0, .aload 1), (1, .iload 2), (2, .aload 0), (3, .getfield 3330), (6, .iconst 0), (7, .iconst 3863), (10, .daload), (13, .aload 0), (14, .iconst 0), (15, .putstatic 3344), (18, .return_)]
def t_M_becomes : List mm_T := []
def q_M_becomes : mm_M := (c_M_becomes, 3, t_M_becomes)
def c_M_undo : List (Nat × Instr) := [(0, .aload 0), (1, .getfield 3336), (4, .ifCond .ne 10), (7, .iconst (-3)), (9, .ireturn), (10, .aload 0), (11, .dup), (12, .getfield 3336), (15, .iconst 1), (16, .isub), (17, .putfield 3336), (20, .aload 0), (21, .aload 0), (22, .getfield 3334), (25, .aload 0), (26, .getfield 3336), (29, .iconst 3863), (32, .imul), (33, .invokevirtual 14301453), (36, .aload 0), (37, .getfield 3336), (40, .ireturn)]
def t_M_undo : List mm_T := []
def q_M_undo : mm_M := (c_M_undo, 1, t_M_undo)
def c_M_redo : List (Nat × Instr) := [(0, .aload 0), (1, .getfield 3336), (4, .aload 0), (5, .getfield 3340), (8, .if_icmp .ne 14), (11, .iconst (-3)), (13, .ireturn), (14, .aload 0), (15, .dup), (16, .getfield 3336), (19, .iconst 1), (20, .iadd), (21, .putfield 3336), (24, .aload 0), (25, .aload 0), (26, .getfield 3334), (29, .aload 0), (30, .getfield 3336), (33, .iconst 3863), (36, .imul), (37, .invokevirtual 14301453), (40, .aload 0), (41, .getfield 3340), (44, .aload 0), (45, .getfield 3336), (48, .isub), (49, .ireturn)]
def t_M_redo : List mm_T := []
def q_M_redo : mm_M := (c_M_redo, 1, t_M_redo)
def c_M_image : List (Nat × Instr) := [(0, .aload 0), (1, .getfield 3330), (4, .iconst 0), (5, .aload 0), (6, .getfield 3350), (9, .iconst 0), (10, .iconst 3863), (13, .daload), (16, .aload 0), (17, .iconst 1), (18, .putstatic 3352), (21, .iconst 1), (22, .ireturn)]
def t_M_image : List mm_T := []
def q_M_image : mm_M := (c_M_image, 1, t_M_image)
def c_M_back : List (Nat × Instr) := [(0, .aload 0), (1, .getfield 3352), (4, .ifCond .ne 10), (7, .iconst (-3)), (9, .ireturn), (10, .aload 0), (11, .aload 0), (12, .getfield 3350), (15, .iconst 0), (16, .invokevirtual 14301453), (19, .aload 0), (20, .iconst 0), (21, .putfield 3336), (24, .aload 0), (25, .iconst 0), (26, .putfield 3340), (29, .aload 0), (30, .getfield 3330), (33, .iconst 0), (34, .aload 0), (35, .getfield 3334), (38, .iconst 0), (39, .iconst 3863), (42, .daload), (45, .iconst 1), (46, .ireturn)]
def t_M_back : List mm_T := []
def q_M_back : mm_M := (c_M_back, 1, t_M_back)
def c_M_aside : List (Nat × Instr) := [(0, .aload 0), (1, .getfield 3330), (4, .iconst 0), (5, .aload 0), (6, .getfield 3358), (9, .iconst 0), (10, .iconst 3863), (13, .daload), (16, .return_)]
def t_M_aside : List mm_T := []
def q_M_aside : mm_M := (c_M_aside, 1, t_M_aside)
def c_M_again : List (Nat × Instr) := [(0, .aload 0), (1, .aload 0), (2, .getfield 3358), (5, .iconst 0), (6, .invokevirtual 14301453), (9, .return_)]
def t_M_again : List mm_T := []
def q_M_again : mm_M := (c_M_again, 1, t_M_again)
def c_M_isRect : List (Nat × Instr) := [(0, .lload 1), (1, .jsr 0), (2, .lcmp), (3, .ifCond .lt 56), (6, .lload 3), (7, .jsr 0), (8, .lcmp), (9, .ifCond .lt 56), (12, .lload 1), (13, .lload 5), (15, .lcmp), (16, .ifCond .gt 56), (19, .lload 3), (20, .lload 7), (22, .lcmp), (23, .ifCond .gt 56), (26, .lload 5), (28, .aload 0), (29, .getfield 3330), (32, .iconst 0), (33, .iaload), (34, .i2l), (35, .lcmp), (36, .ifCond .ge 56), (39, .lload 7), (41, .aload 0), (42, .getfield 3330), (45, .iconst 1), (46, .iaload), (47, .i2l), (48, .lcmp), (49, .ifCond .ge 56), (52, .iconst 1), (53, .goto 57), (56, .iconst 0), (57, .freturn)]
def t_M_isRect : List mm_T := []
def q_M_isRect : mm_M := (c_M_isRect, 9, t_M_isRect)
def c_M_takesRect : List (Nat × Instr) := [(0, .iload 1), (1, .ifCond .ge 6), (4, .iconst 0), (5, .freturn), (6, .aload 0), (7, .iload 1), (8, .iconst 1000000), (10, .idiv), (11, .putfield 3360), (14, .aload 0), (15, .iload 1), (16, .iconst 10000), (19, .idiv), (20, .iconst 100), (22, .irem), (23, .putfield 3364), (26, .aload 0), (27, .iload 1), (28, .iconst 100), (30, .idiv), (31, .iconst 100), (33, .irem), (34, .putfield 3368), (37, .aload 0), (38, .iload 1), (39, .iconst 100), (41, .irem), (42, .putfield 3372), (45, .aload 0), (46, .aload 0), (47, .getfield 3360), (50, .i2l), (51, .aload 0), (52, .getfield 3364), (55, .i2l), (56, .aload 0), (57, .getfield 3368), (60, .i2l), (61, .aload 0), (62, .getfield 3372), (65, .i2l), (66, .invokevirtual 14766093), (69, .freturn)]
def t_M_takesRect : List mm_T := []
def q_M_takesRect : mm_M := (c_M_takesRect, 2, t_M_takesRect)
def c_M_isCell : List (Nat × Instr) := [(0, .iload 1), (1, .ifCond .lt 34), (4, .iload 1), (5, .iconst 100), (7, .idiv), (8, .aload 0), (9, .getfield 3330), (12, .iconst 0), (13, .iaload), (14, .if_icmp .ge 34), (17, .iload 1), (18, .iconst 100), (20, .irem), (21, .aload 0), (22, .getfield 3330), (25, .iconst 1), (26, .iaload), (27, .if_icmp .ge 34), (30, .iconst 1), (31, .goto 35), (34, .iconst 0), (35, .freturn)]
def t_M_isCell : List mm_T := []
def q_M_isCell : mm_M := (c_M_isCell, 2, t_M_isCell)
def c_M_isLines : List (Nat × Instr) := [(0, .iload 2), (1, .ifCond .lt 23), (4, .iload 2), (5, .iload 3), (6, .if_icmp .gt 23), (9, .iload 3), (10, .aload 0), (11, .getfield 3330), (14, .iload 1), (15, .iaload), (16, .if_icmp .ge 23), (19, .iconst 1), (20, .goto 24), (23, .iconst 0), (24, .freturn)]
def t_M_isLines : List mm_T := []
def q_M_isLines : mm_M := (c_M_isLines, 4, t_M_isLines)
def c_M_grid : List (Nat × Instr) := [(0, .iconst 16), (2, .iload 0), (3, .imul), (4, .iload 1), (5, .iadd), (6, .ireturn)]
def t_M_grid : List mm_T := []
def q_M_grid : mm_M := (c_M_grid, 2, t_M_grid)
def c_M_crossed : List (Nat × Instr) := [(0, .iload 0), (1, .ifCond .ne 12), (4, .iload 1), (5, .iload 2), (6, .invokestatic 15015936), (9, .goto 17), (12, .iload 2), (13, .iload 1), (14, .invokestatic 15015936), (17, .ireturn)]
def t_M_crossed : List mm_T := []
def q_M_crossed : mm_M := (c_M_crossed, 3, t_M_crossed)
def c_M_lined : List (Nat × Instr) := [(0, .iconst 7), (2, .iconst 4), (3, .iload 0), (4, .imul), (5, .iload 1), (6, .iadd), (7, .iconst 16), (9, .imul), (10, .iadd), (11, .iload 2), (12, .iadd), (13, .ireturn)]
def t_M_lined : List mm_T := []
def q_M_lined : mm_M := (c_M_lined, 3, t_M_lined)
def c_M_own : List (Nat × Instr) := [(0, .aload 0), (1, .getfield 3330), (4, .iconst 391), (7, .iconst 256), (10, .iload 1), (11, .imul), (12, .iadd), (13, .iload 2), (14, .iload 3), (15, .invokestatic 15015936), (18, .iadd), (19, .iaload), (20, .ireturn)]
def t_M_own : List mm_T := []
def q_M_own : mm_M := (c_M_own, 4, t_M_own)
def c_M_paints : List (Nat × Instr) := [(0, .iload 3), (1, .istore 7), (3, .jsr_w 0), (3, .iload 7), (5, .iload 5), (7, .if_icmp .gt 56), (10, .iload 4), (12, .istore 8), (14, .jsr_w 1), (14, .iload 8), (16, .iload 6), (18, .if_icmp .gt 50), (21, .aload 0), (22, .getfield 3330), (25, .iconst 391), (28, .iconst 256), (31, .iload 1), (32, .imul), (33, .iadd), (34, .iload 7), (36, .iload 8), (38, .invokestatic 15015936), (41, .iadd), (42, .iload 2), (43, .iastore), (44, .iinc 8 1), (47, .goto 14), (50, .iinc 7 1), (53, .goto 3), (56, .return_)]
def t_M_paints : List mm_T := [(3, 56, [2, 0, 0, 0, 0, 0, 0, 0, 9], [56]), (14, 50, [2, 0, 0, 0, 0, 0, 0, 0, 0], [50])]
def q_M_paints : mm_M := (c_M_paints, 9, t_M_paints)
def c_M_doPaint : List (Nat × Instr) := [(0, .iload 1), (1, .invokestatic 14094336), (4, .ifCond .eq 32), (7, .iload 2), (8, .invokestatic 14159872), (11, .ifCond .eq 32), (14, .aload 0), (15, .iload 3), (16, .i2l), (17, .iload 4), (19, .i2l), (20, .iload 5), (22, .i2l), (23, .iload 6), (25, .i2l), (26, .invokevirtual 14766093), (29, .ifCond .ne 35), (32, .iconst (-2)), (34, .ireturn), (35, .aload 0), (36, .iload 1), (37, .iload 2), (38, .iload 3), (39, .iload 4), (41, .iload 5), (43, .iload 6), (45, .invokevirtual 15300877), (48, .iconst 1), (49, .ireturn)]
def t_M_doPaint : List mm_T := []
def q_M_doPaint : mm_M := (c_M_doPaint, 7, t_M_doPaint)
def c_M_paint : List (Nat × Instr) := [(0, .aload 0), (1, .iload 3), (2, .invokevirtual 14819341), (5, .ifCond .eq 37), (8, .aload 0), (9, .aload 0), (10, .iload 1), (11, .iload 2), (12, .aload 0), (13, .getfield 3360), (16, .aload 0), (17, .getfield 3364), (20, .aload 0), (21, .getfield 3368), (24, .aload 0), (25, .getfield 3372), (28, .invokevirtual 15364109), (31, .invokevirtual 14229517), (34, .goto 39), (37, .iconst (-2)), (39, .ireturn)]
def t_M_paint : List mm_T := []
def q_M_paint : mm_M := (c_M_paint, 4, t_M_paint)
def c_M_doLines : List (Nat × Instr) := [(0, .iload 1), (1, .i2l), (2, .jsr 0), (3, .jsr 1), (4, .invokestatic 14036992), (7, .ifCond .eq 36), (10, .iload 2), (11, .invokestatic 14094336), (14, .ifCond .eq 36), (17, .iload 3), (18, .invokestatic 14159872), (21, .ifCond .eq 36), (24, .aload 0), (25, .iload 1), (26, .iload 4), (28, .iload 5), (30, .invokevirtual 14958605), (33, .ifCond .ne 39), (36, .iconst (-2)), (38, .ireturn), (39, .iload 4), (41, .istore 6), (43, .jsr_w 0), (43, .iload 6), (45, .iload 5), (47, .if_icmp .gt 69), (50, .aload 0), (51, .getfield 3330), (54, .iload 1), (55, .iload 2), (56, .iload 6), (58, .invokestatic 15151104), (61, .iload 3), (62, .iastore), (63, .iinc 6 1), (66, .goto 43), (69, .iconst 1), (70, .ireturn)]
def t_M_doLines : List mm_T := [(43, 69, [2, 0, 0, 0, 0, 0, 0], [69])]
def q_M_doLines : mm_M := (c_M_doLines, 7, t_M_doLines)
def c_M_lines : List (Nat × Instr) := [(0, .iload 4), (2, .ifCond .ge 10), (5, .iconst (-2)), (7, .goto 31), (10, .aload 0), (11, .aload 0), (12, .iload 1), (13, .iload 2), (14, .iload 3), (15, .iload 4), (17, .iconst 100), (19, .idiv), (20, .iload 4), (22, .iconst 100), (24, .irem), (25, .invokevirtual 15491085), (28, .invokevirtual 14229517), (31, .ireturn)]
def t_M_lines : List mm_T := []
def q_M_lines : mm_M := (c_M_lines, 5, t_M_lines)
def c_M_ground : List (Nat × Instr) := [(0, .iload 1), (1, .invokestatic 14094336), (4, .ifCond .eq 19), (7, .iload 2), (8, .i2l), (9, .jsr 0), (10, .jsr 9), (13, .invokestatic 14036992), (16, .ifCond .ne 22), (19, .iconst (-2)), (21, .ireturn), (22, .aload 0), (23, .getfield 3330), (26, .iconst 3), (27, .iload 1), (28, .iadd), (29, .iload 2), (30, .iastore), (31, .aload 0), (32, .iconst 1), (33, .invokevirtual 14229517), (36, .ireturn)]
def t_M_ground : List mm_T := []
def q_M_ground : mm_M := (c_M_ground, 3, t_M_ground)
def c_M_value : List (Nat × Instr) := [(0, .aload 0), (1, .iload 1), (2, .invokevirtual 14884877), (5, .ifCond .eq 22), (8, .iload 2), (9, .i2l), (10, .jsr (-999)), (13, .jsr 999), (16, .invokestatic 14036992), (19, .ifCond .ne 25), (22, .iconst (-2)), (24, .ireturn), (25, .aload 0), (26, .getfield 3330), (29, .iconst 135), (32, .iload 1), (33, .iconst 100), (35, .idiv), (36, .iload 1), (37, .iconst 100), (39, .irem), (40, .invokestatic 15015936), (43, .iadd), (44, .iload 2), (45, .iastore), (46, .aload 0), (47, .iconst 1), (48, .invokevirtual 14229517), (51, .ireturn)]
def t_M_value : List mm_T := []
def q_M_value : mm_M := (c_M_value, 3, t_M_value)
def c_M_movesLine : List (Nat × Instr) := [(0, .iconst 0), (1, .istore 4), (3, .jsr_w 0), (3, .iload 4), (5, .iconst 4), (6, .if_icmp .ge 39), (9, .aload 0), (10, .getfield 3330), (13, .iload 1), (14, .iload 4), (16, .iload 3), (17, .invokestatic 15151104), (20, .aload 0), (21, .getfield 3330), (24, .iload 1), (25, .iload 4), (27, .iload 2), (28, .invokestatic 15151104), (31, .iaload), (32, .iastore), (33, .iinc 4 1), (36, .goto 3), (39, .iconst 0), (40, .istore 4), (42, .jsr_w 1), (42, .iload 4), (44, .aload 0), (45, .getfield 3330), (48, .iconst 1), (49, .iload 1), (50, .isub), (51, .iaload), (52, .if_icmp .ge 154), (55, .aload 0), (56, .getfield 3330), (59, .iconst 135), (62, .iload 1), (63, .iload 3), (64, .iload 4), (66, .invokestatic 15085568), (69, .iadd), (70, .aload 0), (71, .getfield 3330), (74, .iconst 135), (77, .iload 1), (78, .iload 2), (79, .iload 4), (81, .invokestatic 15085568), (84, .iadd), (85, .iaload), (86, .iastore), (87, .iconst 0), (88, .istore 5), (90, .jsr_w 2), (90, .iload 5), (92, .iconst 4), (93, .if_icmp .ge 148), (96, .aload 0), (97, .getfield 3330), (100, .iconst 391), (103, .iconst 256), (106, .iload 5), (108, .imul), (109, .iadd), (110, .iload 1), (111, .iload 3), (112, .iload 4), (114, .invokestatic 15085568), (117, .iadd), (118, .aload 0), (119, .getfield 3330), (122, .iconst 391), (125, .iconst 256), (128, .iload 5), (130, .imul), (131, .iadd), (132, .iload 1), (133, .iload 2), (134, .iload 4), (136, .invokestatic 15085568), (139, .iadd), (140, .iaload), (141, .iastore), (142, .iinc 5 1), (145, .goto 90), (148, .iinc 4 1), (151, .goto 42), (154, .return_)]
def t_M_movesLine : List mm_T := [(3, 39, [2, 0, 0, 0, 0, 9], [39]), (42, 154, [2, 0, 0, 0, 0, 9], [154]), (90, 148, [2, 0, 0, 0, 0, 0], [148])]
def q_M_movesLine : mm_M := (c_M_movesLine, 6, t_M_movesLine)
def c_M_doInsert : List (Nat × Instr) := [(0, .iload 1), (1, .i2l), (2, .jsr 0), (3, .jsr 1), (4, .invokestatic 14036992), (7, .ifCond .eq 38), (10, .iload 2), (11, .i2l), (12, .jsr 0), (13, .aload 0), (14, .getfield 3330), (17, .iload 1), (18, .iaload), (19, .i2l), (20, .invokestatic 14036992), (23, .ifCond .eq 38), (26, .iload 3), (27, .i2l), (28, .jsr 1), (29, .jsr 16), (32, .invokestatic 14036992), (35, .ifCond .ne 41), (38, .iconst (-2)), (40, .ireturn), (41, .aload 0), (42, .getfield 3330), (45, .iload 1), (46, .iaload), (47, .istore 4), (49, .iload 4), (51, .iload 3), (52, .iadd), (53, .iconst 16), (55, .if_icmp .le 61), (58, .iconst (-4)), (60, .ireturn), (61, .iload 4), (63, .iconst 1), (64, .isub), (65, .istore 5), (67, .jsr_w 0), (67, .iload 5), (69, .iload 2), (70, .if_icmp .lt 90), (73, .aload 0), (74, .iload 1), (75, .iload 5), (77, .iload 5), (79, .iload 3), (80, .iadd), (81, .invokevirtual 15747341), (84, .iinc 5 (-1)), (87, .goto 67), (90, .iload 2), (91, .istore 5), (93, .jsr_w 1), (93, .iload 5), (95, .iload 2), (96, .iload 3), (97, .iadd), (98, .if_icmp .ge 300), (101, .iconst 0), (102, .istore 6), (104, .jsr_w 2), (104, .iload 6), (106, .iconst 4), (107, .if_icmp .ge 130), (110, .aload 0), (111, .getfield 3330), (114, .iload 1), (115, .iload 6), (117, .iload 5), (119, .invokestatic 15151104), (122, .iconst (-1)), (123, .iastore), (124, .iinc 6 1), (127, .goto 104), (130, .iconst 0), (131, .istore 6), (133, .jsr_w 3), (133, .iload 6), (135, .aload 0), (136, .getfield 3330), (139, .iconst 1), (140, .iload 1), (141, .isub), (142, .iaload), (143, .if_icmp .ge 294), (146, .aload 0), (147, .getfield 3330), (150, .iconst 135), (153, .iload 1), (154, .iload 5), (156, .iload 6), (158, .invokestatic 15085568), (161, .iadd), (162, .iconst 0), (163, .iastore), (164, .iconst 0), (165, .istore 7), (167, .jsr_w 4), (167, .iload 7), (169, .iconst 4), (170, .if_icmp .ge 288), (173, .iload 2), (174, .ifCond .ne 181), (177, .iconst (-1)), (178, .goto 206), (181, .aload 0), (182, .getfield 3330), (185, .iconst 391), (188, .iconst 256), (191, .iload 7), (193, .imul), (194, .iadd), (195, .iload 1), (196, .iload 2), (197, .iconst 1), (198, .isub), (199, .iload 6), (201, .invokestatic 15085568), (204, .iadd), (205, .iaload), (206, .istore 8), (208, .iload 2), (209, .iload 4), (211, .if_icmp .ne 218), (214, .iconst (-1)), (215, .goto 243), (218, .aload 0), (219, .getfield 3330), (222, .iconst 391), (225, .iconst 256), (228, .iload 7), (230, .imul), (231, .iadd), (232, .iload 1), (233, .iload 2), (234, .iload 3), (235, .iadd), (236, .iload 6), (238, .invokestatic 15085568), (241, .iadd), (242, .iaload), (243, .istore 9), (245, .aload 0), (246, .getfield 3330), (249, .iconst 391), (252, .iconst 256), (255, .iload 7), (257, .imul), (258, .iadd), (259, .iload 1), (260, .iload 5), (262, .iload 6), (264, .invokestatic 15085568), (267, .iadd), (268, .iload 8), (270, .iload 9), (272, .if_icmp .ne 280), (275, .iload 8), (277, .goto 281), (280, .iconst (-1)), (281, .iastore), (282, .iinc 7 1), (285, .goto 167), (288, .iinc 6 1), (291, .goto 133), (294, .iinc 5 1), (297, .goto 93), (300, .iconst 0), (301, .istore 5), (303, .jsr_w 5), (303, .iload 5), (305, .aload 0), (306, .getfield 3330), (309, .iconst 2), (310, .iaload), (311, .if_icmp .ge 388), (314, .iconst 1415), (317, .iconst 408), (320, .iload 5), (322, .imul), (323, .iadd), (324, .istore 6), (326, .aload 0), (327, .getfield 3330), (330, .iload 6), (332, .iload 1), (333, .iadd), (334, .iaload), (335, .iload 2), (336, .if_icmp .lt 352), (339, .aload 0), (340, .getfield 3330), (343, .iload 6), (345, .iload 1), (346, .iadd), (347, .dup2), (348, .iaload), (349, .iload 3), (350, .iadd), (351, .iastore), (352, .aload 0), (353, .getfield 3330), (356, .iload 6), (358, .iconst 2), (359, .iadd), (360, .iload 1), (361, .iadd), (362, .iaload), (363, .iload 2), (364, .if_icmp .lt 382), (367, .aload 0), (368, .getfield 3330), (371, .iload 6), (373, .iconst 2), (374, .iadd), (375, .iload 1), (376, .iadd), (377, .dup2), (378, .iaload), (379, .iload 3), (380, .iadd), (381, .iastore), (382, .iinc 5 1), (385, .goto 303), (388, .aload 0), (389, .getfield 3330), (392, .iload 1), (393, .iload 4), (395, .iload 3), (396, .iadd), (397, .iastore), (398, .iload 4), (400, .iload 3), (401, .iadd), (402, .ireturn)]
def t_M_doInsert : List mm_T := [(67, 90, [2, 0, 0, 0, 0, 0, 9, 9, 9, 9], [90]), (93, 300, [2, 0, 0, 0, 0, 0, 9, 9, 9, 9], [300]), (104, 130, [2, 0, 0, 0, 0, 0, 0, 9, 9, 9], [130]), (133, 294, [2, 0, 0, 0, 0, 0, 0, 9, 9, 9], [294]), (167, 288, [2, 0, 0, 0, 0, 0, 0, 0, 9, 9], [288]), (303, 388, [2, 0, 0, 0, 0, 0, 9, 9, 9, 9], [388])]
def q_M_doInsert : mm_M := (c_M_doInsert, 10, t_M_doInsert)
def c_M_insert : List (Nat × Instr) := [(0, .aload 0), (1, .aload 0), (2, .iload 1), (3, .iload 2), (4, .iload 3), (5, .invokevirtual 15810573), (8, .invokevirtual 14229517), (11, .ireturn)]
def t_M_insert : List mm_T := []
def q_M_insert : mm_M := (c_M_insert, 4, t_M_insert)
def c_M_dropRule : List (Nat × Instr) := [(0, .iconst 1415), (3, .iconst 408), (6, .iload 1), (7, .iconst 1), (8, .iadd), (9, .imul), (10, .iadd), (11, .istore 2), (12, .aload 0), (13, .getfield 3330), (16, .iload 2), (17, .aload 0), (18, .getfield 3330), (21, .iload 2), (22, .iconst 408), (25, .isub), (26, .iconst 3863), (29, .iload 2), (30, .isub), (31, .daload), (34, .aload 0), (35, .getfield 3330), (38, .iconst 2), (39, .dup2), (40, .iaload), (41, .iconst 1), (42, .isub), (43, .iastore), (44, .return_)]
def t_M_dropRule : List mm_T := []
def q_M_dropRule : mm_M := (c_M_dropRule, 3, t_M_dropRule)
def c_M_doRemove : List (Nat × Instr) := [(0, .iload 1), (1, .i2l), (2, .jsr 0), (3, .jsr 1), (4, .invokestatic 14036992), (7, .ifCond .eq 20), (10, .aload 0), (11, .iload 1), (12, .iload 2), (13, .iload 3), (14, .invokevirtual 14958605), (17, .ifCond .ne 23), (20, .iconst (-2)), (22, .ireturn), (23, .iload 3), (24, .iload 2), (25, .isub), (26, .iconst 1), (27, .iadd), (28, .istore 4), (30, .iload 4), (32, .aload 0), (33, .getfield 3330), (36, .iload 1), (37, .iaload), (38, .if_icmp .ne 44), (41, .iconst (-3)), (43, .ireturn), (44, .iload 3), (45, .iconst 1), (46, .iadd), (47, .istore 5), (49, .jsr_w 0), (49, .iload 5), (51, .aload 0), (52, .getfield 3330), (55, .iload 1), (56, .iaload), (57, .if_icmp .ge 78), (60, .aload 0), (61, .iload 1), (62, .iload 5), (64, .iload 5), (66, .iload 4), (68, .isub), (69, .invokevirtual 15747341), (72, .iinc 5 1), (75, .goto 49), (78, .aload 0), (79, .getfield 3330), (82, .iconst 2), (83, .iaload), (84, .iconst 1), (85, .isub), (86, .istore 5), (88, .jsr_w 1), (88, .iload 5), (90, .ifCond .lt 230), (93, .iconst 1415), (96, .iconst 408), (99, .iload 5), (101, .imul), (102, .iadd), (103, .istore 6), (105, .aload 0), (106, .getfield 3330), (109, .iload 6), (111, .iload 1), (112, .iadd), (113, .iaload), (114, .istore 7), (116, .aload 0), (117, .getfield 3330), (120, .iload 6), (122, .iconst 2), (123, .iadd), (124, .iload 1), (125, .iadd), (126, .iaload), (127, .istore 8), (129, .iload 7), (131, .iload 2), (132, .if_icmp .gt 140), (135, .iload 7), (137, .goto 155), (140, .iload 7), (142, .iload 3), (143, .if_icmp .gt 150), (146, .iload 2), (147, .goto 155), (150, .iload 7), (152, .iload 4), (154, .isub), (155, .istore 9), (157, .iload 8), (159, .iload 2), (160, .if_icmp .ge 168), (163, .iload 8), (165, .goto 185), (168, .iload 8), (170, .iload 3), (171, .if_icmp .gt 180), (174, .iload 2), (175, .iconst 1), (176, .isub), (177, .goto 185), (180, .iload 8), (182, .iload 4), (184, .isub), (185, .istore 10), (187, .aload 0), (188, .getfield 3330), (191, .iload 6), (193, .iload 1), (194, .iadd), (195, .iload 9), (197, .iastore), (198, .aload 0), (199, .getfield 3330), (202, .iload 6), (204, .iconst 2), (205, .iadd), (206, .iload 1), (207, .iadd), (208, .iload 10), (210, .iastore), (211, .iload 9), (213, .iload 10), (215, .if_icmp .le 224), (218, .aload 0), (219, .iload 5), (221, .invokevirtual 15935757), (224, .iinc 5 (-1)), (227, .goto 88), (230, .aload 0), (231, .getfield 3330), (234, .iload 1), (235, .dup2), (236, .iaload), (237, .iload 4), (239, .isub), (240, .iastore), (241, .aload 0), (242, .getfield 3330), (245, .iload 1), (246, .iaload), (247, .ireturn)]
def t_M_doRemove : List mm_T := [(49, 78, [2, 0, 0, 0, 0, 0, 9, 9, 9, 9, 9], [78]), (88, 230, [2, 0, 0, 0, 0, 0, 9, 9, 9, 9, 9], [230])]
def q_M_doRemove : mm_M := (c_M_doRemove, 11, t_M_doRemove)
def c_M_remove : List (Nat × Instr) := [(0, .iload 2), (1, .ifCond .ge 9), (4, .iconst (-2)), (6, .goto 26), (9, .aload 0), (10, .aload 0), (11, .iload 1), (12, .iload 2), (13, .iconst 100), (15, .idiv), (16, .iload 2), (17, .iconst 100), (19, .irem), (20, .invokevirtual 16007181), (23, .invokevirtual 14229517), (26, .ireturn)]
def t_M_remove : List mm_T := []
def q_M_remove : mm_M := (c_M_remove, 3, t_M_remove)
def c_M_orders : List (Nat × Instr) := [(0, .aload 0), (1, .invokevirtual 14620941), (4, .iconst 0), (5, .istore 2), (6, .jsr_w 0), (6, .iload 2), (7, .aload 0), (8, .getfield 3330), (11, .iload 1), (12, .iaload), (13, .if_icmp .ge 183), (16, .aload 0), (17, .getfield 3378), (20, .iload 2), (21, .iaload), (22, .istore 3), (23, .iconst 0), (24, .istore 4), (26, .jsr_w 1), (26, .iload 4), (28, .iconst 4), (29, .if_icmp .ge 62), (32, .aload 0), (33, .getfield 3330), (36, .iload 1), (37, .iload 4), (39, .iload 2), (40, .invokestatic 15151104), (43, .aload 0), (44, .getfield 3358), (47, .iload 1), (48, .iload 4), (50, .iload 3), (51, .invokestatic 15151104), (54, .iaload), (55, .iastore), (56, .iinc 4 1), (59, .goto 26), (62, .iconst 0), (63, .istore 4), (65, .jsr_w 2), (65, .iload 4), (67, .aload 0), (68, .getfield 3330), (71, .iconst 1), (72, .iload 1), (73, .isub), (74, .iaload), (75, .if_icmp .ge 177), (78, .aload 0), (79, .getfield 3330), (82, .iconst 135), (85, .iload 1), (86, .iload 2), (87, .iload 4), (89, .invokestatic 15085568), (92, .iadd), (93, .aload 0), (94, .getfield 3358), (97, .iconst 135), (100, .iload 1), (101, .iload 3), (102, .iload 4), (104, .invokestatic 15085568), (107, .iadd), (108, .iaload), (109, .iastore), (110, .iconst 0), (111, .istore 5), (113, .jsr_w 3), (113, .iload 5), (115, .iconst 4), (116, .if_icmp .ge 171), (119, .aload 0), (120, .getfield 3330), (123, .iconst 391), (126, .iconst 256), (129, .iload 5), (131, .imul), (132, .iadd), (133, .iload 1), (134, .iload 2), (135, .iload 4), (137, .invokestatic 15085568), (140, .iadd), (141, .aload 0), (142, .getfield 3358), (145, .iconst 391), (148, .iconst 256), (151, .iload 5), (153, .imul), (154, .iadd), (155, .iload 1), (156, .iload 3), (157, .iload 4), (159, .invokestatic 15085568), (162, .iadd), (163, .iaload), (164, .iastore), (165, .iinc 5 1), (168, .goto 113), (171, .iinc 4 1), (174, .goto 65), (177, .iinc 2 1), (180, .goto 6), (183, .return_)]
def t_M_orders : List mm_T := [(6, 183, [2, 0, 0, 9, 9, 9], [183]), (26, 62, [2, 0, 0, 0, 0, 9], [62]), (65, 177, [2, 0, 0, 0, 0, 9], [177]), (113, 171, [2, 0, 0, 0, 0, 0], [171])]
def q_M_orders : mm_M := (c_M_orders, 6, t_M_orders)
def c_M_sort : List (Nat × Instr) := [(0, .iload 1), (1, .ifCond .lt 48), (4, .aload 0), (5, .iconst 0), (6, .iload 1), (7, .iconst 100), (9, .idiv), (10, .iload 1), (11, .iconst 100), (13, .irem), (14, .invokevirtual 14958605), (17, .ifCond .eq 48), (20, .iload 2), (21, .i2l), (22, .jsr 0), (23, .aload 0), (24, .getfield 3330), (27, .iconst 1), (28, .iaload), (29, .iconst 1), (30, .isub), (31, .i2l), (32, .invokestatic 14036992), (35, .ifCond .eq 48), (38, .iload 3), (39, .i2l), (40, .jsr 0), (41, .jsr 1), (42, .invokestatic 14036992), (45, .ifCond .ne 51), (48, .iconst (-2)), (50, .ireturn), (51, .iload 1), (52, .iconst 100), (54, .idiv), (55, .istore 4), (57, .iload 1), (58, .iconst 100), (60, .irem), (61, .istore 5), (63, .iload 3), (64, .iconst 1), (65, .if_icmp .ne 72), (68, .iconst (-1)), (69, .goto 73), (72, .iconst 1), (73, .istore 6), (75, .iconst 0), (76, .istore 7), (78, .jsr_w 0), (78, .iload 7), (80, .aload 0), (81, .getfield 3330), (84, .iconst 0), (85, .iaload), (86, .if_icmp .ge 104), (89, .aload 0), (90, .getfield 3378), (93, .iload 7), (95, .iload 7), (97, .iastore), (98, .iinc 7 1), (101, .goto 78), (104, .iload 4), (106, .istore 7), (108, .jsr_w 1), (108, .iload 7), (110, .iload 5), (112, .if_icmp .gt 215), (115, .iload 6), (117, .aload 0), (118, .getfield 3330), (121, .iconst 135), (124, .iload 7), (126, .iload 2), (127, .invokestatic 15015936), (130, .iadd), (131, .iaload), (132, .imul), (133, .istore 8), (135, .iload 4), (137, .istore 9), (139, .iload 4), (141, .istore 10), (143, .jsr_w 2), (143, .iload 10), (145, .iload 5), (147, .if_icmp .gt 200), (150, .iload 6), (152, .aload 0), (153, .getfield 3330), (156, .iconst 135), (159, .iload 10), (161, .iload 2), (162, .invokestatic 15015936), (165, .iadd), (166, .iaload), (167, .imul), (168, .istore 11), (170, .iload 11), (172, .iload 8), (174, .if_icmp .lt 191), (177, .iload 11), (179, .iload 8), (181, .if_icmp .ne 194), (184, .iload 10), (186, .iload 7), (188, .if_icmp .ge 194), (191, .iinc 9 1), (194, .iinc 10 1), (197, .goto 143), (200, .aload 0), (201, .getfield 3378), (204, .iload 9), (206, .iload 7), (208, .iastore), (209, .iinc 7 1), (212, .goto 108), (215, .aload 0), (216, .iconst 0), (217, .invokevirtual 16132365), (220, .aload 0), (221, .iconst 1), (222, .invokevirtual 14229517), (225, .ireturn)]
def t_M_sort : List mm_T := [(78, 104, [2, 0, 0, 0, 0, 0, 0, 0, 9, 9, 9, 9], [104]), (108, 215, [2, 0, 0, 0, 0, 0, 0, 0, 9, 9, 9, 9], [215]), (143, 200, [2, 0, 0, 0, 0, 0, 0, 0, 0, 0, 0, 9], [200])]
def q_M_sort : mm_M := (c_M_sort, 12, t_M_sort)
def c_M_move : List (Nat × Instr) := [(0, .iload 1), (1, .i2l), (2, .jsr 0), (3, .jsr 1), (4, .invokestatic 14036992), (7, .ifCond .eq 30), (10, .iload 2), (11, .ifCond .lt 30), (14, .aload 0), (15, .iload 1), (16, .iload 2), (17, .iconst 100), (19, .idiv), (20, .iload 2), (21, .iconst 100), (23, .irem), (24, .invokevirtual 14958605), (27, .ifCond .ne 33), (30, .iconst (-2)), (32, .ireturn), (33, .iload 2), (34, .iconst 100), (36, .idiv), (37, .istore 4), (39, .iload 2), (40, .iconst 100), (42, .irem), (43, .iload 4), (45, .isub), (46, .iconst 1), (47, .iadd), (48, .istore 5), (50, .iload 3), (51, .i2l), (52, .jsr 0), (53, .aload 0), (54, .getfield 3330), (57, .iload 1), (58, .iaload), (59, .iload 5), (61, .isub), (62, .i2l), (63, .invokestatic 14036992), (66, .ifCond .ne 72), (69, .iconst (-2)), (71, .ireturn), (72, .iconst 0), (73, .istore 6), (75, .iconst 0), (76, .istore 7), (78, .jsr_w 0), (78, .iload 7), (80, .aload 0), (81, .getfield 3330), (84, .iload 1), (85, .iaload), (86, .if_icmp .ge 158), (89, .iload 7), (91, .iload 3), (92, .if_icmp .lt 121), (95, .iload 7), (97, .iload 3), (98, .iload 5), (100, .iadd), (101, .if_icmp .ge 121), (104, .aload 0), (105, .getfield 3378), (108, .iload 7), (110, .iload 4), (112, .iload 7), (114, .iadd), (115, .iload 3), (116, .isub), (117, .iastore), (118, .goto 152), (121, .iload 6), (123, .iload 4), (125, .if_icmp .ne 136), (128, .iload 4), (130, .iload 5), (132, .iadd), (133, .goto 138), (136, .iload 6), (138, .istore 6), (140, .aload 0), (141, .getfield 3378), (144, .iload 7), (146, .iload 6), (148, .iastore), (149, .iinc 6 1), (152, .iinc 7 1), (155, .goto 78), (158, .aload 0), (159, .iload 1), (160, .invokevirtual 16132365), (163, .aload 0), (164, .iconst 1), (165, .invokevirtual 14229517), (168, .ireturn)]
def t_M_move : List mm_T := [(78, 158, [2, 0, 0, 0, 0, 0, 0, 0], [158])]
def q_M_move : mm_M := (c_M_move, 8, t_M_move)
def c_M_doCopy : List (Nat × Instr) := [(0, .aload 0), (1, .iload 1), (2, .i2l), (3, .iload 2), (4, .i2l), (5, .iload 3), (6, .i2l), (7, .iload 4), (9, .i2l), (10, .invokevirtual 14766093), (13, .ifCond .eq 46), (16, .aload 0), (17, .iload 5), (19, .i2l), (20, .iload 6), (22, .i2l), (23, .iload 7), (25, .i2l), (26, .iload 8), (28, .i2l), (29, .invokevirtual 14766093), (32, .ifCond .eq 46), (35, .iload 9), (37, .i2l), (38, .jsr 0), (39, .jsr 1), (40, .invokestatic 14036992), (43, .ifCond .ne 49), (46, .iconst (-2)), (48, .ireturn), (49, .iload 3), (50, .iload 1), (51, .isub), (52, .iconst 1), (53, .iadd), (54, .istore 10), (56, .iload 4), (58, .iload 2), (59, .isub), (60, .iconst 1), (61, .iadd), (62, .istore 11), (64, .aload 0), (65, .getfield 3330), (68, .iconst 391), (71, .aload 0), (72, .getfield 3382), (75, .iconst 0), (76, .iconst 1024), (79, .daload), (82, .iconst 0), (83, .istore 12), (85, .jsr_w 0), (85, .iload 12), (87, .iload 7), (89, .iload 5), (91, .isub), (92, .if_icmp .gt 229), (95, .iconst 0), (96, .istore 13), (98, .jsr_w 1), (98, .iload 13), (100, .iload 8), (102, .iload 6), (104, .isub), (105, .if_icmp .gt 223), (108, .iload 9), (110, .iconst 1), (111, .if_icmp .ne 122), (114, .iload 13), (116, .iload 10), (118, .irem), (119, .goto 127), (122, .iload 12), (124, .iload 10), (126, .irem), (127, .istore 14), (129, .iload 9), (131, .iconst 1), (132, .if_icmp .ne 143), (135, .iload 12), (137, .iload 11), (139, .irem), (140, .goto 148), (143, .iload 13), (145, .iload 11), (147, .irem), (148, .istore 15), (150, .iconst 0), (151, .istore 16), (153, .jsr_w 2), (153, .iload 16), (155, .iconst 4), (156, .if_icmp .ge 217), (159, .aload 0), (160, .getfield 3330), (163, .iconst 391), (166, .iconst 256), (169, .iload 16), (171, .imul), (172, .iadd), (173, .iload 5), (175, .iload 12), (177, .iadd), (178, .iload 6), (180, .iload 13), (182, .iadd), (183, .invokestatic 15015936), (186, .iadd), (187, .aload 0), (188, .getfield 3382), (191, .iconst 256), (194, .iload 16), (196, .imul), (197, .iload 1), (198, .iload 14), (200, .iadd), (201, .iload 2), (202, .iload 15), (204, .iadd), (205, .invokestatic 15015936), (208, .iadd), (209, .iaload), (210, .iastore), (211, .iinc 16 1), (214, .goto 153), (217, .iinc 13 1), (220, .goto 98), (223, .iinc 12 1), (226, .goto 85), (229, .iconst 1), (230, .ireturn)]
def t_M_doCopy : List mm_T := [(85, 229, [2, 0, 0, 0, 0, 0, 0, 0, 0, 0, 0, 0, 0, 9, 9, 9, 9], [229]), (98, 223, [2, 0, 0, 0, 0, 0, 0, 0, 0, 0, 0, 0, 0, 0, 9, 9, 9], [223]), (153, 217, [2, 0, 0, 0, 0, 0, 0, 0, 0, 0, 0, 0, 0, 0, 0, 0, 0], [217])]
def q_M_doCopy : mm_M := (c_M_doCopy, 17, t_M_doCopy)
def c_M_copy : List (Nat × Instr) := [(0, .aload 0), (1, .iload 1), (2, .invokevirtual 14819341), (5, .ifCond .ne 11), (8, .iconst (-2)), (10, .ireturn), (11, .aload 0), (12, .getfield 3360), (15, .istore 4), (17, .aload 0), (18, .getfield 3364), (21, .istore 5), (23, .aload 0), (24, .getfield 3368), (27, .istore 6), (29, .aload 0), (30, .getfield 3372), (33, .istore 7), (35, .aload 0), (36, .iload 2), (37, .invokevirtual 14819341), (40, .ifCond .eq 79), (43, .aload 0), (44, .aload 0), (45, .iload 4), (47, .iload 5), (49, .iload 6), (51, .iload 7), (53, .aload 0), (54, .getfield 3360), (57, .aload 0), (58, .getfield 3364), (61, .aload 0), (62, .getfield 3368), (65, .aload 0), (66, .getfield 3372), (69, .iload 3), (70, .invokevirtual 16359437), (73, .invokevirtual 14229517), (76, .goto 81), (79, .iconst (-2)), (81, .ireturn)]
def t_M_copy : List mm_T := []
def q_M_copy : mm_M := (c_M_copy, 8, t_M_copy)
def c_M_beneath : List (Nat × Instr) := [(0, .aload 0), (1, .getfield 3330), (4, .iconst 0), (5, .iload 1), (6, .iload 2), (7, .invokestatic 15151104), (10, .iaload), (11, .iconst (-1)), (12, .if_icmp .eq 27), (15, .aload 0), (16, .getfield 3330), (19, .iconst 0), (20, .iload 1), (21, .iload 2), (22, .invokestatic 15151104), (25, .iaload), (26, .ireturn), (27, .aload 0), (28, .getfield 3330), (31, .iconst 1), (32, .iload 1), (33, .iload 3), (34, .invokestatic 15151104), (37, .iaload), (38, .iconst (-1)), (39, .if_icmp .eq 56), (42, .aload 0), (43, .getfield 3330), (46, .iconst 1), (47, .iload 1), (48, .iload 3), (49, .invokestatic 15151104), (52, .iaload), (53, .goto 64), (56, .aload 0), (57, .getfield 3330), (60, .iconst 3), (61, .iload 1), (62, .iadd), (63, .iaload), (64, .ireturn)]
def t_M_beneath : List mm_T := []
def q_M_beneath : mm_M := (c_M_beneath, 4, t_M_beneath)
def c_M_needless : List (Nat × Instr) := [(0, .iload 1), (1, .invokestatic 14094336), (4, .ifCond .ne 10), (7, .iconst (-2)), (9, .ireturn), (10, .iconst 0), (11, .istore 2), (12, .iconst 0), (13, .istore 3), (14, .jsr_w 0), (14, .iload 3), (15, .aload 0), (16, .getfield 3330), (19, .iconst 0), (20, .iaload), (21, .if_icmp .ge 77), (24, .iconst 0), (25, .istore 4), (27, .jsr_w 1), (27, .iload 4), (29, .aload 0), (30, .getfield 3330), (33, .iconst 1), (34, .iaload), (35, .if_icmp .ge 71), (38, .iload 2), (39, .aload 0), (40, .iload 1), (41, .iload 3), (42, .iload 4), (44, .invokevirtual 15220749), (47, .aload 0), (48, .iload 1), (49, .iload 3), (50, .iload 4), (52, .invokevirtual 16465933), (55, .if_icmp .ne 62), (58, .iconst 1), (59, .goto 63), (62, .iconst 0), (63, .iadd), (64, .istore 2), (65, .iinc 4 1), (68, .goto 27), (71, .iinc 3 1), (74, .goto 14), (77, .iload 2), (78, .ireturn)]
def t_M_needless : List mm_T := [(14, 77, [2, 0, 0, 0, 9], [77]), (27, 71, [2, 0, 0, 0, 0], [71])]
def q_M_needless : mm_M := (c_M_needless, 5, t_M_needless)
def c_M_doTidy : List (Nat × Instr) := [(0, .aload 0), (1, .iload 1), (2, .invokevirtual 16523277), (5, .istore 2), (6, .iconst 0), (7, .istore 3), (8, .jsr_w 0), (8, .iload 2), (9, .ifCond .lt 89), (12, .iload 3), (13, .aload 0), (14, .getfield 3330), (17, .iconst 0), (18, .iaload), (19, .if_icmp .ge 89), (22, .iconst 0), (23, .istore 4), (25, .jsr_w 1), (25, .iload 4), (27, .aload 0), (28, .getfield 3330), (31, .iconst 1), (32, .iaload), (33, .if_icmp .ge 83), (36, .aload 0), (37, .iload 1), (38, .iload 3), (39, .iload 4), (41, .invokevirtual 15220749), (44, .aload 0), (45, .iload 1), (46, .iload 3), (47, .iload 4), (49, .invokevirtual 16465933), (52, .if_icmp .ne 77), (55, .aload 0), (56, .getfield 3330), (59, .iconst 391), (62, .iconst 256), (65, .iload 1), (66, .imul), (67, .iadd), (68, .iload 3), (69, .iload 4), (71, .invokestatic 15015936), (74, .iadd), (75, .iconst (-1)), (76, .iastore), (77, .iinc 4 1), (80, .goto 25), (83, .iinc 3 1), (86, .goto 8), (89, .iload 2), (90, .ireturn)]
def t_M_doTidy : List mm_T := [(8, 89, [2, 0, 0, 0, 9], [89]), (25, 83, [2, 0, 0, 0, 0], [83])]
def q_M_doTidy : mm_M := (c_M_doTidy, 5, t_M_doTidy)
def c_M_tidy : List (Nat × Instr) := [(0, .aload 0), (1, .aload 0), (2, .iload 1), (3, .invokevirtual 16588813), (6, .invokevirtual 14229517), (9, .ireturn)]
def t_M_tidy : List mm_T := []
def q_M_tidy : mm_M := (c_M_tidy, 2, t_M_tidy)
def c_M_feed : List (Nat × Instr) := [(0, .iload 1), (1, .i2l), (2, .jsr 1), (3, .jsr 4), (6, .invokestatic 14036992), (9, .ifCond .ne 15), (12, .iconst (-2)), (14, .ireturn), (15, .aload 0), (16, .getfield 3388), (19, .iload 1), (20, .iadd), (21, .iconst 200), (24, .if_icmp .le 30), (27, .iconst (-4)), (29, .ireturn), (30, .iconst 0), (31, .istore 3), (32, .jsr_w 0), (32, .iload 3), (33, .iload 1), (34, .if_icmp .ge 64), (37, .aload 0), (38, .getfield 3386), (41, .aload 0), (42, .getfield 3388), (45, .iload 3), (46, .iadd), (47, .iload 2), (48, .iconst 8), (50, .iload 3), (51, .imul), (52, .ishr), (53, .iconst 255), (56, .iand), (57, .iastore), (58, .iinc 3 1), (61, .goto 32), (64, .aload 0), (65, .dup), (66, .getfield 3388), (69, .iload 1), (70, .iadd), (71, .putfield 3388), (74, .aload 0), (75, .getfield 3388), (78, .ireturn)]
def t_M_feed : List mm_T := [(32, 64, [2, 0, 0, 0], [64])]
def q_M_feed : mm_M := (c_M_feed, 4, t_M_feed)
def c_M_isWordAt : List (Nat × Instr) := [(0, .iload 1), (1, .aload 0), (2, .getfield 3388), (5, .if_icmp .ge 31), (8, .aload 0), (9, .getfield 3386), (12, .iload 1), (13, .iaload), (14, .i2l), (15, .jsr 97), (18, .jsr 122), (21, .invokestatic 14036992), (24, .ifCond .eq 31), (27, .iconst 1), (28, .goto 32), (31, .iconst 0), (32, .freturn)]
def t_M_isWordAt : List mm_T := []
def q_M_isWordAt : mm_M := (c_M_isWordAt, 2, t_M_isWordAt)
def c_M_isFigureAt : List (Nat × Instr) := [(0, .iload 1), (1, .aload 0), (2, .getfield 3388), (5, .if_icmp .ge 31), (8, .aload 0), (9, .getfield 3386), (12, .iload 1), (13, .iaload), (14, .i2l), (15, .jsr 48), (18, .jsr 57), (21, .invokestatic 14036992), (24, .ifCond .eq 31), (27, .iconst 1), (28, .goto 32), (31, .iconst 0), (32, .freturn)]
def t_M_isFigureAt : List mm_T := []
def q_M_isFigureAt : mm_M := (c_M_isFigureAt, 2, t_M_isFigureAt)
def c_M_next : List (Nat × Instr) := [(0, .aload 0), (1, .aload 0), (2, .getfield 3396), (5, .putfield 3392), (8, .jsr_w 0), (8, .aload 0), (9, .getfield 3392), (12, .aload 0), (13, .getfield 3388), (16, .if_icmp .ge 46), (19, .aload 0), (20, .getfield 3386), (23, .aload 0), (24, .getfield 3392), (27, .iaload), (28, .iconst 32), (30, .if_icmp .ne 46), (33, .aload 0), (34, .dup), (35, .getfield 3392), (38, .iconst 1), (39, .iadd), (40, .putfield 3392), (43, .goto 8), (46, .aload 0), (47, .aload 0), (48, .getfield 3392), (51, .putfield 3396), (54, .aload 0), (55, .getfield 3392), (58, .aload 0), (59, .getfield 3388), (62, .if_icmp .ne 73), (65, .aload 0), (66, .iconst 0), (67, .putfield 3400), (70, .goto 249), (73, .aload 0), (74, .aload 0), (75, .getfield 3392), (78, .invokevirtual 16785421), (81, .ifCond .eq 167), (84, .aload 0), (85, .iconst 1), (86, .putfield 3400), (89, .aload 0), (90, .jsr 0), (91, .putfield 3421), (94, .jsr_w 1), (94, .aload 0), (95, .aload 0), (96, .getfield 3396), (99, .invokevirtual 16785421), (102, .ifCond .eq 249), (105, .aload 0), (106, .aload 0), (107, .getfield 3396), (110, .aload 0), (111, .getfield 3392), (114, .isub), (115, .iconst 12), (117, .if_icmp .ge 148), (120, .jsr 32), (123, .aload 0), (124, .getfield 3421), (127, .lmul), (128, .aload 0), (129, .getfield 3386), (132, .aload 0), (133, .getfield 3396), (136, .iaload), (137, .i2l), (138, .ladd), (139, .jsr 97), (142, .lsub), (143, .jsr 1), (144, .ladd), (145, .goto 151), (148, .jsr (-1)), (151, .putfield 3421), (154, .aload 0), (155, .dup), (156, .getfield 3396), (159, .iconst 1), (160, .iadd), (161, .putfield 3396), (164, .goto 94), (167, .aload 0), (168, .aload 0), (169, .getfield 3392), (172, .invokevirtual 16850957), (175, .ifCond .eq 207), (178, .aload 0), (179, .iconst 2), (180, .putfield 3400), (183, .jsr_w 2), (183, .aload 0), (184, .aload 0), (185, .getfield 3396), (188, .invokevirtual 16850957), (191, .ifCond .eq 249), (194, .aload 0), (195, .dup), (196, .getfield 3396), (199, .iconst 1), (200, .iadd), (201, .putfield 3396), (204, .goto 183), (207, .aload 0), (208, .aload 0), (209, .getfield 3386), (212, .aload 0), (213, .getfield 3392), (216, .iaload), (217, .iconst 3), (218, .if_icmp .ge 227), (221, .iconst 300), (224, .goto 236), (227, .aload 0), (228, .getfield 3386), (231, .aload 0), (232, .getfield 3392), (235, .iaload), (236, .putfield 3400), (239, .aload 0), (240, .dup), (241, .getfield 3396), (244, .iconst 1), (245, .iadd), (246, .putfield 3396), (249, .return_)]
def t_M_next : List mm_T := [(8, 46, [2], [46]), (94, 167, [2], [249]), (183, 207, [2], [249])]
def q_M_next : mm_M := (c_M_next, 1, t_M_next)
def c_M_starts : List (Nat × Instr) := [(0, .aload 0), (1, .iconst 0), (2, .putfield 3396), (5, .aload 0), (6, .iconst (-1)), (7, .putfield 3404), (10, .aload 0), (11, .iconst 0), (12, .putfield 3408), (15, .aload 0), (16, .iconst 0), (17, .putfield 3416), (20, .aload 0), (21, .invokevirtual 16914701), (24, .return_)]
def t_M_starts : List mm_T := []
def q_M_starts : mm_M := (c_M_starts, 1, t_M_starts)
def c_M_wrong : List (Nat × Instr) := [(0, .aload 0), (1, .getfield 3404), (4, .iconst (-1)), (5, .if_icmp .ne 16), (8, .aload 0), (9, .aload 0), (10, .getfield 3392), (13, .putfield 3404), (16, .aload 0), (17, .iconst 0), (18, .putfield 3400), (21, .aload 0), (22, .aload 0), (23, .getfield 3388), (26, .putfield 3392), (29, .aload 0), (30, .aload 0), (31, .getfield 3388), (34, .putfield 3396), (37, .return_)]
def t_M_wrong : List mm_T := []
def q_M_wrong : mm_M := (c_M_wrong, 1, t_M_wrong)
def c_M_isWord : List (Nat × Instr) := [(0, .aload 0), (1, .getfield 3400), (4, .iconst 1), (5, .if_icmp .ne 21), (8, .aload 0), (9, .getfield 3421), (12, .lload 1), (13, .lcmp), (14, .ifCond .ne 21), (17, .iconst 1), (18, .goto 22), (21, .iconst 0), (22, .freturn)]
def t_M_isWord : List mm_T := []
def q_M_isWord : mm_M := (c_M_isWord, 3, t_M_isWord)
def c_M_takesWord : List (Nat × Instr) := [(0, .aload 0), (1, .lload 1), (2, .invokevirtual 17113101), (5, .ifCond .ne 10), (8, .iconst 0), (9, .freturn), (10, .aload 0), (11, .invokevirtual 16914701), (14, .iconst 1), (15, .freturn)]
def t_M_takesWord : List mm_T := []
def q_M_takesWord : mm_M := (c_M_takesWord, 3, t_M_takesWord)
def c_M_takesSign : List (Nat × Instr) := [(0, .aload 0), (1, .getfield 3400), (4, .iload 1), (5, .if_icmp .eq 10), (8, .iconst 0), (9, .freturn), (10, .aload 0), (11, .invokevirtual 16914701), (14, .iconst 1), (15, .freturn)]
def t_M_takesSign : List mm_T := []
def q_M_takesSign : mm_M := (c_M_takesSign, 2, t_M_takesSign)
def c_M_wants : List (Nat × Instr) := [(0, .iload 1), (1, .ifCond .ne 8), (4, .aload 0), (5, .invokevirtual 17045773), (8, .return_)]
def t_M_wants : List mm_T := []
def q_M_wants : mm_M := (c_M_wants, 2, t_M_wants)
def c_M_number : List (Nat × Instr) := [(0, .aload 0), (1, .getfield 3400), (4, .iconst 2), (5, .if_icmp .ne 21), (8, .aload 0), (9, .getfield 3396), (12, .aload 0), (13, .getfield 3392), (16, .isub), (17, .iload 1), (18, .if_icmp .le 27), (21, .aload 0), (22, .invokevirtual 17045773), (25, .iconst 0), (26, .ireturn), (27, .iconst 0), (28, .istore 2), (29, .aload 0), (30, .getfield 3392), (33, .istore 3), (34, .jsr_w 0), (34, .iload 3), (35, .aload 0), (36, .getfield 3396), (39, .if_icmp .ge 63), (42, .iconst 10), (44, .iload 2), (45, .imul), (46, .aload 0), (47, .getfield 3386), (50, .iload 3), (51, .iaload), (52, .iadd), (53, .iconst 48), (55, .isub), (56, .istore 2), (57, .iinc 3 1), (60, .goto 34), (63, .aload 0), (64, .invokevirtual 16914701), (67, .iload 2), (68, .ireturn)]
def t_M_number : List mm_T := [(34, 63, [2, 0, 0, 0], [63])]
def q_M_number : mm_M := (c_M_number, 4, t_M_number)
def c_M_writes : List (Nat × Instr) := [(0, .aload 0), (1, .getfield 3404), (4, .iconst (-1)), (5, .if_icmp .ne 28), (8, .aload 0), (9, .getfield 3414), (12, .aload 0), (13, .getfield 3416), (16, .iload 1), (17, .iastore), (18, .aload 0), (19, .dup), (20, .getfield 3416), (23, .iconst 1), (24, .iadd), (25, .putfield 3416), (28, .return_)]
def t_M_writes : List mm_T := []
def q_M_writes : mm_M := (c_M_writes, 2, t_M_writes)
def c_M_opens : List (Nat × Instr) := [(0, .aload 0), (1, .getfield 3408), (4, .iconst 4), (5, .if_icmp .ne 14), (8, .aload 0), (9, .invokevirtual 17045773), (12, .iconst 0), (13, .freturn), (14, .aload 0), (15, .dup), (16, .getfield 3408), (19, .iconst 1), (20, .iadd), (21, .putfield 3408), (24, .aload 0), (25, .invokevirtual 16914701), (28, .iconst 1), (29, .freturn)]
def t_M_opens : List mm_T := []
def q_M_opens : mm_M := (c_M_opens, 1, t_M_opens)
def c_M_readsCondition : List (Nat × Instr) := [(0, .aload 0), (1, .invokevirtual 17635597), (4, .jsr_w 0), (4, .aload 0), (5, .jsr 498), (8, .invokevirtual 17178637), (11, .ifCond .eq 47), (14, .aload 0), (15, .iconst 11), (17, .invokevirtual 17443085), (20, .aload 0), (21, .getfield 3416), (24, .istore 1), (25, .aload 0), (26, .iconst 0), (27, .invokevirtual 17443085), (30, .aload 0), (31, .invokevirtual 17635597), (34, .aload 0), (35, .getfield 3414), (38, .iload 1), (39, .aload 0), (40, .getfield 3416), (43, .iastore), (44, .goto 4), (47, .return_)]
def t_M_readsCondition : List mm_T := [(4, 47, [2, 9], [47])]
def q_M_readsCondition : mm_M := (c_M_readsCondition, 2, t_M_readsCondition)
def c_M_readsAll : List (Nat × Instr) := [(0, .aload 0), (1, .invokevirtual 17701133), (4, .jsr_w 0), (4, .aload 0), (5, .jsr 1476), (8, .invokevirtual 17178637), (11, .ifCond .eq 47), (14, .aload 0), (15, .iconst 12), (17, .invokevirtual 17443085), (20, .aload 0), (21, .getfield 3416), (24, .istore 1), (25, .aload 0), (26, .iconst 0), (27, .invokevirtual 17443085), (30, .aload 0), (31, .invokevirtual 17701133), (34, .aload 0), (35, .getfield 3414), (38, .iload 1), (39, .aload 0), (40, .getfield 3416), (43, .iastore), (44, .goto 4), (47, .return_)]
def t_M_readsAll : List mm_T := [(4, 47, [2, 9], [47])]
def q_M_readsAll : mm_M := (c_M_readsAll, 2, t_M_readsAll)
def c_M_readsNot : List (Nat × Instr) := [(0, .aload 0), (1, .jsr 14836), (4, .invokevirtual 17113101), (7, .ifCond .eq 38), (10, .aload 0), (11, .invokevirtual 17502221), (14, .ifCond .eq 37), (17, .aload 0), (18, .invokevirtual 17701133), (21, .aload 0), (22, .dup), (23, .getfield 3408), (26, .iconst 1), (27, .isub), (28, .putfield 3408), (31, .aload 0), (32, .iconst 10), (34, .invokevirtual 17443085), (37, .return_), (38, .aload 0), (39, .getfield 3400), (42, .iconst 91), (44, .if_icmp .ne 79), (47, .aload 0), (48, .invokevirtual 17502221), (51, .ifCond .eq 78), (54, .aload 0), (55, .invokevirtual 17570061), (58, .aload 0), (59, .aload 0), (60, .iconst 93), (62, .invokevirtual 17244173), (65, .invokevirtual 17312013), (68, .aload 0), (69, .dup), (70, .getfield 3408), (73, .iconst 1), (74, .isub), (75, .putfield 3408), (78, .return_), (79, .aload 0), (80, .invokevirtual 17766669), (83, .aload 0), (84, .getfield 3400), (87, .istore 1), (88, .iload 1), (89, .iconst 60), (91, .if_icmp .eq 111), (94, .iload 1), (95, .iconst 61), (97, .if_icmp .eq 111), (100, .iload 1), (101, .iconst 62), (103, .if_icmp .eq 111), (106, .aload 0), (107, .invokevirtual 17045773), (110, .return_), (111, .aload 0), (112, .invokevirtual 16914701), (115, .aload 0), (116, .invokevirtual 17766669), (119, .aload 0), (120, .iload 1), (121, .iconst 60), (123, .if_icmp .ne 131), (126, .iconst 7), (128, .goto 144), (131, .iload 1), (132, .iconst 61), (134, .if_icmp .ne 142), (137, .iconst 8), (139, .goto 144), (142, .iconst 9), (144, .invokevirtual 17443085), (147, .return_)]
def t_M_readsNot : List mm_T := []
def q_M_readsNot : mm_M := (c_M_readsNot, 2, t_M_readsNot)
def c_M_readsSum : List (Nat × Instr) := [(0, .aload 0), (1, .invokevirtual 17832205), (4, .jsr_w 0), (4, .aload 0), (5, .getfield 3400), (8, .iconst 43), (10, .if_icmp .eq 22), (13, .aload 0), (14, .getfield 3400), (17, .iconst 45), (19, .if_icmp .ne 53), (22, .aload 0), (23, .getfield 3400), (26, .istore 1), (27, .aload 0), (28, .invokevirtual 16914701), (31, .aload 0), (32, .invokevirtual 17832205), (35, .aload 0), (36, .iload 1), (37, .iconst 43), (39, .if_icmp .ne 46), (42, .iconst 3), (43, .goto 47), (46, .iconst 4), (47, .invokevirtual 17443085), (50, .goto 4), (53, .return_)]
def t_M_readsSum : List mm_T := [(4, 53, [2, 9], [53])]
def q_M_readsSum : mm_M := (c_M_readsSum, 2, t_M_readsSum)
def c_M_readsPart : List (Nat × Instr) := [(0, .aload 0), (1, .invokevirtual 17963277), (4, .jsr_w 0), (4, .aload 0), (5, .iconst 42), (7, .invokevirtual 17244173), (10, .ifCond .eq 25), (13, .aload 0), (14, .invokevirtual 17963277), (17, .aload 0), (18, .iconst 5), (19, .invokevirtual 17443085), (22, .goto 4), (25, .return_)]
def t_M_readsPart : List mm_T := [(4, 25, [2], [25])]
def q_M_readsPart : mm_M := (c_M_readsPart, 1, t_M_readsPart)
def c_M_nameNow : List (Nat × Instr) := [(0, .iconst 0), (1, .istore 1), (2, .jsr_w 0), (2, .iload 1), (3, .aload 0), (4, .getfield 3426), (7, .arraylength), (8, .if_icmp .ge 32), (11, .aload 0), (12, .aload 0), (13, .getfield 3426), (16, .iload 1), (17, .laload), (18, .invokevirtual 17113101), (21, .ifCond .eq 26), (24, .iload 1), (25, .ireturn), (26, .iinc 1 1), (29, .goto 2), (32, .iconst (-1)), (33, .ireturn)]
def t_M_nameNow : List mm_T := [(2, 32, [2, 0], [32])]
def q_M_nameNow : mm_M := (c_M_nameNow, 2, t_M_nameNow)
def c_M_readsUnit : List (Nat × Instr) := [(0, .aload 0), (1, .getfield 3400), (4, .iconst 45), (6, .if_icmp .eq 18), (9, .aload 0), (10, .getfield 3400), (13, .iconst 40), (15, .if_icmp .ne 83), (18, .aload 0), (19, .getfield 3400), (22, .iconst 45), (24, .if_icmp .ne 31), (27, .iconst 1), (28, .goto 32), (31, .iconst 0), (32, .istore 1), (33, .aload 0), (34, .invokevirtual 17502221), (37, .ifCond .ne 41), (40, .return_), (41, .iload 1), (42, .ifCond .eq 58), (45, .aload 0), (46, .invokevirtual 17963277), (49, .aload 0), (50, .iconst 6), (52, .invokevirtual 17443085), (55, .goto 72), (58, .aload 0), (59, .invokevirtual 17766669), (62, .aload 0), (63, .aload 0), (64, .iconst 41), (66, .invokevirtual 17244173), (69, .invokevirtual 17312013), (72, .aload 0), (73, .dup), (74, .getfield 3408), (77, .iconst 1), (78, .isub), (79, .putfield 3408), (82, .return_), (83, .aload 0), (84, .invokevirtual 17895437), (87, .istore 1), (88, .iload 1), (89, .iconst (-1)), (90, .if_icmp .eq 108), (93, .aload 0), (94, .invokevirtual 16914701), (97, .aload 0), (98, .iconst 2), (99, .invokevirtual 17443085), (102, .aload 0), (103, .iload 1), (104, .invokevirtual 17443085), (107, .return_), (108, .aload 0), (109, .iconst 4), (110, .invokevirtual 17375245), (113, .istore 2), (114, .aload 0), (115, .iconst 1), (116, .invokevirtual 17443085), (119, .aload 0), (120, .iload 2), (121, .invokevirtual 17443085), (124, .return_)]
def t_M_readsUnit : List mm_T := []
def q_M_readsUnit : mm_M := (c_M_readsUnit, 3, t_M_readsUnit)
def c_M_rule : List (Nat × Instr) := [(0, .iload 1), (1, .i2l), (2, .jsr 0), (3, .aload 0), (4, .getfield 3330), (7, .iconst 2), (8, .iaload), (9, .i2l), (10, .invokestatic 14036992), (13, .ifCond .eq 47), (16, .aload 0), (17, .iload 2), (18, .invokevirtual 14819341), (21, .ifCond .eq 47), (24, .iload 3), (25, .i2l), (26, .jsr 0), (27, .jsr 39), (30, .invokestatic 14036992), (33, .ifCond .eq 47), (36, .iload 4), (38, .i2l), (39, .jsr 0), (40, .jsr 1), (41, .invokestatic 14036992), (44, .ifCond .ne 50), (47, .iconst (-2)), (49, .ireturn), (50, .aload 0), (51, .getfield 3330), (54, .iconst 2), (55, .iaload), (56, .iconst 6), (58, .if_icmp .ne 64), (61, .iconst (-4)), (63, .ireturn), (64, .aload 0), (65, .invokevirtual 16980237), (68, .aload 0), (69, .invokevirtual 17570061), (72, .aload 0), (73, .getfield 3400), (76, .ifCond .eq 83), (79, .aload 0), (80, .invokevirtual 17045773), (83, .aload 0), (84, .iconst 0), (85, .putfield 3388), (88, .aload 0), (89, .getfield 3404), (92, .iconst (-1)), (93, .if_icmp .eq 104), (96, .iconst (-100)), (98, .aload 0), (99, .getfield 3404), (102, .isub), (103, .ireturn), (104, .iconst 1415), (107, .iconst 408), (110, .iload 1), (111, .imul), (112, .iadd), (113, .istore 5), (115, .aload 0), (116, .getfield 3330), (119, .iload 5), (121, .aload 0), (122, .getfield 3330), (125, .iload 5), (127, .iconst 408), (130, .iadd), (131, .iconst 3455), (134, .iload 5), (136, .isub), (137, .daload), (140, .aload 0), (141, .getfield 3330), (144, .iconst 2), (145, .dup2), (146, .iaload), (147, .iconst 1), (148, .iadd), (149, .iastore), (150, .aload 0), (151, .getfield 3330), (154, .iload 5), (156, .aload 0), (157, .getfield 3360), (160, .iastore), (161, .aload 0), (162, .getfield 3330), (165, .iload 5), (167, .iconst 1), (168, .iadd), (169, .aload 0), (170, .getfield 3364), (173, .iastore), (174, .aload 0), (175, .getfield 3330), (178, .iload 5), (180, .iconst 2), (181, .iadd), (182, .aload 0), (183, .getfield 3368), (186, .iastore), (187, .aload 0), (188, .getfield 3330), (191, .iload 5), (193, .iconst 3), (194, .iadd), (195, .aload 0), (196, .getfield 3372), (199, .iastore), (200, .aload 0), (201, .getfield 3330), (204, .iload 5), (206, .iconst 4), (207, .iadd), (208, .iload 3), (209, .iconst 10), (211, .idiv), (212, .iastore), (213, .aload 0), (214, .getfield 3330), (217, .iload 5), (219, .iconst 5), (220, .iadd), (221, .iload 3), (222, .iconst 10), (224, .irem), (225, .iastore), (226, .aload 0), (227, .getfield 3330), (230, .iload 5), (232, .iconst 6), (234, .iadd), (235, .iload 4), (237, .iastore), (238, .aload 0), (239, .getfield 3330), (242, .iload 5), (244, .iconst 7), (246, .iadd), (247, .aload 0), (248, .getfield 3416), (251, .iastore), (252, .aload 0), (253, .getfield 3414), (256, .iconst 0), (257, .aload 0), (258, .getfield 3330), (261, .iload 5), (263, .iconst 8), (265, .iadd), (266, .aload 0), (267, .getfield 3416), (270, .daload), (273, .aload 0), (274, .aload 0), (275, .getfield 3330), (278, .iconst 2), (279, .iaload), (280, .invokevirtual 14229517), (283, .ireturn)]
def t_M_rule : List mm_T := []
def q_M_rule : mm_M := (c_M_rule, 6, t_M_rule)
def c_M_isRule : List (Nat × Instr) := [(0, .iload 1), (1, .i2l), (2, .jsr 0), (3, .aload 0), (4, .getfield 3330), (7, .iconst 2), (8, .iaload), (9, .iconst 1), (10, .isub), (11, .i2l), (12, .invokestatic 14036992), (15, .freturn)]
def t_M_isRule : List mm_T := []
def q_M_isRule : mm_M := (c_M_isRule, 2, t_M_isRule)
def c_M_drop : List (Nat × Instr) := [(0, .aload 0), (1, .iload 1), (2, .invokevirtual 18096141), (5, .ifCond .ne 11), (8, .iconst (-2)), (10, .ireturn), (11, .aload 0), (12, .iload 1), (13, .invokevirtual 15935757), (16, .aload 0), (17, .aload 0), (18, .getfield 3330), (21, .iconst 2), (22, .iaload), (23, .invokevirtual 14229517), (26, .ireturn)]
def t_M_drop : List mm_T := []
def q_M_drop : mm_M := (c_M_drop, 2, t_M_drop)
def c_M_bring : List (Nat × Instr) := [(0, .aload 0), (1, .iload 1), (2, .invokevirtual 18096141), (5, .ifCond .eq 16), (8, .aload 0), (9, .iload 2), (10, .invokevirtual 18096141), (13, .ifCond .ne 19), (16, .iconst (-2)), (18, .ireturn), (19, .aload 0), (20, .getfield 3330), (23, .iconst 1415), (26, .iconst 408), (29, .iload 1), (30, .imul), (31, .iadd), (32, .aload 0), (33, .getfield 3430), (36, .iconst 0), (37, .iconst 408), (40, .daload), (43, .iload 2), (44, .iload 1), (45, .if_icmp .ge 52), (48, .iconst (-1)), (49, .goto 53), (52, .iconst 1), (53, .istore 3), (54, .iload 1), (55, .istore 4), (57, .jsr_w 0), (57, .iload 4), (59, .iload 2), (60, .if_icmp .eq 108), (63, .aload 0), (64, .getfield 3330), (67, .iconst 1415), (70, .iconst 408), (73, .iload 4), (75, .iload 3), (76, .iadd), (77, .imul), (78, .iadd), (79, .aload 0), (80, .getfield 3330), (83, .iconst 1415), (86, .iconst 408), (89, .iload 4), (91, .imul), (92, .iadd), (93, .iconst 408), (96, .daload), (99, .iload 4), (101, .iload 3), (102, .iadd), (103, .istore 4), (105, .goto 57), (108, .aload 0), (109, .getfield 3430), (112, .iconst 0), (113, .aload 0), (114, .getfield 3330), (117, .iconst 1415), (120, .iconst 408), (123, .iload 2), (124, .imul), (125, .iadd), (126, .iconst 408), (129, .daload), (132, .aload 0), (133, .iconst 1), (134, .invokevirtual 14229517), (137, .ireturn)]
def t_M_bring : List mm_T := [(57, 108, [2, 0, 0, 0, 0], [108])]
def q_M_bring : mm_M := (c_M_bring, 5, t_M_bring)
def c_M_valueIn : List (Nat × Instr) := [(0, .iload 1), (1, .ifCond .lt 8), (4, .iload 2), (5, .ifCond .ge 12), (8, .iconst 0), (9, .goto 26), (12, .aload 0), (13, .getfield 3330), (16, .iconst 135), (19, .iload 1), (20, .iload 2), (21, .invokestatic 15015936), (24, .iadd), (25, .iaload), (26, .ireturn)]
def t_M_valueIn : List mm_T := []
def q_M_valueIn : mm_M := (c_M_valueIn, 3, t_M_valueIn)
def c_M_countIn : List (Nat × Instr) := [(0, .iconst 0), (1, .istore 4), (3, .aload 0), (4, .getfield 3330), (7, .iload 1), (8, .iaload), (9, .istore 5), (11, .jsr_w 0), (11, .iload 5), (13, .aload 0), (14, .getfield 3330), (17, .iload 1), (18, .iconst 2), (19, .iadd), (20, .iaload), (21, .if_icmp .gt 99), (24, .aload 0), (25, .getfield 3330), (28, .iload 1), (29, .iconst 1), (30, .iadd), (31, .iaload), (32, .istore 6), (34, .jsr_w 1), (34, .iload 6), (36, .aload 0), (37, .getfield 3330), (40, .iload 1), (41, .iconst 3), (42, .iadd), (43, .iaload), (44, .if_icmp .gt 93), (47, .aload 0), (48, .iload 5), (50, .iload 6), (52, .invokevirtual 18296845), (55, .istore 7), (57, .iload 4), (59, .iload 3), (60, .ifCond .eq 69), (63, .iload 7), (65, .iload 2), (66, .if_icmp .eq 79), (69, .iload 3), (70, .ifCond .ne 83), (73, .iload 7), (75, .iload 2), (76, .if_icmp .le 83), (79, .iconst 1), (80, .goto 84), (83, .iconst 0), (84, .iadd), (85, .istore 4), (87, .iinc 6 1), (90, .goto 34), (93, .iinc 5 1), (96, .goto 11), (99, .iload 4), (101, .ireturn)]
def t_M_countIn : List mm_T := [(11, 99, [2, 0, 0, 0, 0, 0, 9, 9], [99]), (34, 93, [2, 0, 0, 0, 0, 0, 0, 9], [93])]
def q_M_countIn : mm_M := (c_M_countIn, 8, t_M_countIn)
def c_M_named : List (Nat × Instr) := [(0, .iload 1), (1, .lookupswitch 96 #[(0, 48), (1, 56), (2, 58), (3, 61), (4, 71), (5, 81), (6, 86), (7, 91)]), (48, .aload 0), (49, .iload 3), (50, .iload 4), (52, .invokevirtual 18296845), (55, .ireturn), (56, .iload 3), (57, .ireturn), (58, .iload 4), (60, .ireturn), (61, .aload 0), (62, .iload 3), (63, .iload 4), (65, .iconst 1), (66, .isub), (67, .invokevirtual 18296845), (70, .ireturn), (71, .aload 0), (72, .iload 3), (73, .iconst 1), (74, .isub), (75, .iload 4), (77, .invokevirtual 18296845), (80, .ireturn), (81, .aload 0), (82, .getfield 3440), (85, .ireturn), (86, .aload 0), (87, .getfield 3444), (90, .ireturn), (91, .aload 0), (92, .getfield 3448), (95, .ireturn), (96, .aload 0), (97, .iload 2), (98, .aload 0), (99, .iload 3), (100, .iload 4), (102, .invokevirtual 18296845), (105, .iload 1), (106, .iconst 8), (108, .if_icmp .ne 115), (111, .iconst 1), (112, .goto 116), (115, .iconst 0), (116, .invokevirtual 18366477), (119, .ireturn)]
def t_M_named : List mm_T := []
def q_M_named : mm_M := (c_M_named, 5, t_M_named)
def c_M_both : List (Nat × Instr) := [(0, .iload 0), (1, .lookupswitch 76 #[(3, 40), (4, 44), (5, 48), (6, 76), (7, 52), (8, 64)]), (40, .lload 1), (41, .lload 3), (42, .ladd), (43, .lreturn), (44, .lload 1), (45, .lload 3), (46, .lsub), (47, .lreturn), (48, .lload 1), (49, .lload 3), (50, .lmul), (51, .lreturn), (52, .lload 1), (53, .lload 3), (54, .lcmp), (55, .ifCond .ge 62), (58, .jsr 1), (59, .goto 63), (62, .jsr 0), (63, .lreturn), (64, .lload 1), (65, .lload 3), (66, .lcmp), (67, .ifCond .ne 74), (70, .jsr 1), (71, .goto 75), (74, .jsr 0), (75, .lreturn), (76, .lload 1), (77, .lload 3), (78, .lcmp), (79, .ifCond .le 86), (82, .jsr 1), (83, .goto 87), (86, .jsr 0), (87, .lreturn)]
def t_M_both : List mm_T := []
def q_M_both : mm_M := (c_M_both, 5, t_M_both)
def c_M_isSo : List (Nat × Instr) := [(0, .iload 1), (1, .iconst 8), (3, .iadd), (4, .istore 4), (6, .iconst 0), (7, .istore 5), (9, .iconst 0), (10, .istore 6), (12, .jsr_w 0), (12, .iload 6), (14, .aload 0), (15, .getfield 3330), (18, .iload 1), (19, .iconst 7), (21, .iadd), (22, .iaload), (23, .if_icmp .ge 331), (26, .aload 0), (27, .getfield 3330), (30, .iload 4), (32, .iload 6), (34, .iadd), (35, .iaload), (36, .istore 7), (38, .iinc 6 1), (41, .iload 7), (43, .iconst 1), (44, .if_icmp .eq 53), (47, .iload 7), (49, .iconst 2), (50, .if_icmp .ne 107), (53, .aload 0), (54, .getfield 3438), (57, .iload 5), (59, .iload 7), (61, .iconst 1), (62, .if_icmp .ne 79), (65, .aload 0), (66, .getfield 3330), (69, .iload 4), (71, .iload 6), (73, .iadd), (74, .iaload), (75, .i2l), (76, .goto 97), (79, .aload 0), (80, .aload 0), (81, .getfield 3330), (84, .iload 4), (86, .iload 6), (88, .iadd), (89, .iaload), (90, .iload 1), (91, .iload 2), (92, .iload 3), (93, .invokevirtual 18436109), (96, .i2l), (97, .lastore), (98, .iinc 5 1), (101, .iinc 6 1), (104, .goto 294), (107, .iload 7), (109, .iconst 11), (111, .if_icmp .eq 121), (114, .iload 7), (116, .iconst 12), (118, .if_icmp .ne 204), (121, .aload 0), (122, .getfield 3438), (125, .iload 5), (127, .iconst 1), (128, .isub), (129, .laload), (130, .jsr 0), (131, .lcmp), (132, .ifCond .eq 139), (135, .iconst 1), (136, .goto 140), (139, .iconst 0), (140, .iload 7), (142, .iconst 11), (144, .if_icmp .ne 151), (147, .iconst 1), (148, .goto 152), (151, .iconst 0), (152, .if_icmp .ne 159), (155, .iconst 1), (156, .goto 160), (159, .iconst 0), (160, .istore 8), (162, .iload 5), (164, .iload 8), (166, .ifCond .eq 173), (169, .iconst 0), (170, .goto 174), (173, .iconst 1), (174, .isub), (175, .istore 5), (177, .iload 8), (179, .ifCond .eq 195), (182, .aload 0), (183, .getfield 3330), (186, .iload 4), (188, .iload 6), (190, .iadd), (191, .iaload), (192, .goto 199), (195, .iload 6), (197, .iconst 1), (198, .iadd), (199, .istore 6), (201, .goto 294), (204, .iload 7), (206, .iconst 10), (208, .if_icmp .eq 218), (211, .iload 7), (213, .iconst 6), (215, .if_icmp .ne 261), (218, .aload 0), (219, .getfield 3438), (222, .iload 5), (224, .iconst 1), (225, .isub), (226, .iload 7), (228, .iconst 10), (230, .if_icmp .ne 247), (233, .jsr 1), (234, .aload 0), (235, .getfield 3438), (238, .iload 5), (240, .iconst 1), (241, .isub), (242, .laload), (243, .lsub), (244, .goto 257), (247, .aload 0), (248, .getfield 3438), (251, .iload 5), (253, .iconst 1), (254, .isub), (255, .laload), (256, .lneg), (257, .lastore), (258, .goto 294), (261, .iinc 5 (-1)), (264, .aload 0), (265, .getfield 3438), (268, .iload 5), (270, .iconst 1), (271, .isub), (272, .iload 7), (274, .aload 0), (275, .getfield 3438), (278, .iload 5), (280, .iconst 1), (281, .isub), (282, .laload), (283, .aload 0), (284, .getfield 3438), (287, .iload 5), (289, .laload), (290, .invokestatic 18493696), (293, .lastore), (294, .aload 0), (295, .getfield 3438), (298, .iload 5), (300, .iconst 1), (301, .isub), (302, .ifCond .ge 309), (305, .iconst 0), (306, .goto 313), (309, .iload 5), (311, .iconst 1), (312, .isub), (313, .laload), (314, .jsr (-2147483648)), (317, .jsr 2147483647), (320, .invokestatic 14036992), (323, .ifCond .ne 328), (326, .iconst 0), (327, .freturn), (328, .goto 12), (331, .aload 0), (332, .getfield 3438), (335, .iconst 0), (336, .laload), (337, .jsr 0), (338, .lcmp), (339, .ifCond .eq 346), (342, .iconst 1), (343, .goto 347), (346, .iconst 0), (347, .freturn)]
def t_M_isSo : List mm_T := [(12, 331, [2, 0, 0, 0, 0, 0, 0, 9, 9], [331])]
def q_M_isSo : mm_M := (c_M_isSo, 9, t_M_isSo)
def c_M_freshen : List (Nat × Instr) := [(0, .aload 0), (1, .getfield 3344), (4, .ifCond .eq 8), (7, .return_), (8, .aload 0), (9, .iconst 1), (10, .putstatic 3344), (13, .iconst 0), (14, .istore 1), (15, .jsr_w 0), (15, .iload 1), (16, .aload 0), (17, .getfield 3330), (20, .iconst 2), (21, .iaload), (22, .if_icmp .ge 300), (25, .iconst 1415), (28, .iconst 408), (31, .iload 1), (32, .imul), (33, .iadd), (34, .istore 2), (35, .aload 0), (36, .iconst 0), (37, .putfield 3440), (40, .aload 0), (41, .iconst (-1000)), (44, .putfield 3444), (47, .aload 0), (48, .iconst 1000), (51, .putfield 3448), (54, .aload 0), (55, .getfield 3330), (58, .iload 2), (59, .iaload), (60, .istore 3), (61, .jsr_w 1), (61, .iload 3), (62, .aload 0), (63, .getfield 3330), (66, .iload 2), (67, .iconst 2), (68, .iadd), (69, .iaload), (70, .if_icmp .gt 160), (73, .aload 0), (74, .getfield 3330), (77, .iload 2), (78, .iconst 1), (79, .iadd), (80, .iaload), (81, .istore 4), (83, .jsr_w 2), (83, .iload 4), (85, .aload 0), (86, .getfield 3330), (89, .iload 2), (90, .iconst 3), (91, .iadd), (92, .iaload), (93, .if_icmp .gt 154), (96, .aload 0), (97, .dup), (98, .getfield 3440), (101, .aload 0), (102, .iload 3), (103, .iload 4), (105, .invokevirtual 18296845), (108, .iadd), (109, .putfield 3440), (112, .aload 0), (113, .aload 0), (114, .getfield 3444), (117, .aload 0), (118, .iload 3), (119, .iload 4), (121, .invokevirtual 18296845), (124, .dadd), (127, .putfield 3444), (130, .aload 0), (131, .aload 0), (132, .getfield 3448), (135, .aload 0), (136, .iload 3), (137, .iload 4), (139, .invokevirtual 18296845), (142, .dsub), (145, .putfield 3448), (148, .iinc 4 1), (151, .goto 83), (154, .iinc 3 1), (157, .goto 61), (160, .iconst 0), (161, .istore 3), (162, .jsr_w 3), (162, .iload 3), (163, .aload 0), (164, .getfield 3330), (167, .iconst 0), (168, .iaload), (169, .if_icmp .ge 294), (172, .iconst 0), (173, .istore 4), (175, .jsr_w 4), (175, .iload 4), (177, .aload 0), (178, .getfield 3330), (181, .iconst 1), (182, .iaload), (183, .if_icmp .ge 288), (186, .iload 3), (187, .i2l), (188, .aload 0), (189, .getfield 3330), (192, .iload 2), (193, .iaload), (194, .i2l), (195, .aload 0), (196, .getfield 3330), (199, .iload 2), (200, .iconst 2), (201, .iadd), (202, .iaload), (203, .i2l), (204, .invokestatic 14036992), (207, .ifCond .eq 241), (210, .iload 4), (212, .i2l), (213, .aload 0), (214, .getfield 3330), (217, .iload 2), (218, .iconst 1), (219, .iadd), (220, .iaload), (221, .i2l), (222, .aload 0), (223, .getfield 3330), (226, .iload 2), (227, .iconst 3), (228, .iadd), (229, .iaload), (230, .i2l), (231, .invokestatic 14036992), (234, .ifCond .eq 241), (237, .iconst 1), (238, .goto 242), (241, .iconst 0), (242, .istore 5), (244, .aload 0), (245, .getfield 3434), (248, .iconst 256), (251, .iload 1), (252, .imul), (253, .iload 3), (254, .iload 4), (256, .invokestatic 15015936), (259, .iadd), (260, .iload 5), (262, .ifCond .eq 280), (265, .aload 0), (266, .iload 2), (267, .iload 3), (268, .iload 4), (270, .invokevirtual 18563085), (273, .ifCond .eq 280), (276, .iconst 1), (277, .goto 281), (280, .iconst 0), (281, .bastore), (282, .iinc 4 1), (285, .goto 175), (288, .iinc 3 1), (291, .goto 162), (294, .iinc 1 1), (297, .goto 15), (300, .return_)]
def t_M_freshen : List mm_T := [(15, 300, [2, 0, 9, 9, 9, 9], [300]), (61, 160, [2, 0, 0, 0, 9, 9], [160]), (83, 154, [2, 0, 0, 0, 0, 9], [154]), (162, 294, [2, 0, 0, 0, 9, 9], [294]), (175, 288, [2, 0, 0, 0, 0, 9], [288])]
def q_M_freshen : mm_M := (c_M_freshen, 6, t_M_freshen)
def c_M_showing : List (Nat × Instr) := [(0, .aload 0), (1, .invokevirtual 18618637), (4, .iconst 0), (5, .istore 4), (7, .jsr_w 0), (7, .iload 4), (9, .aload 0), (10, .getfield 3330), (13, .iconst 2), (14, .iaload), (15, .if_icmp .ge 91), (18, .aload 0), (19, .getfield 3434), (22, .iconst 256), (25, .iload 4), (27, .imul), (28, .iload 2), (29, .iload 3), (30, .invokestatic 15015936), (33, .iadd), (34, .baload), (35, .ifCond .ne 41), (38, .goto 85), (41, .iconst 1415), (44, .iconst 408), (47, .iload 4), (49, .imul), (50, .iadd), (51, .istore 5), (53, .aload 0), (54, .getfield 3330), (57, .iload 5), (59, .iconst 4), (60, .iadd), (61, .iaload), (62, .iload 1), (63, .if_icmp .ne 69), (66, .iload 4), (68, .ireturn), (69, .aload 0), (70, .getfield 3330), (73, .iload 5), (75, .iconst 6), (77, .iadd), (78, .iaload), (79, .iconst 1), (80, .if_icmp .ne 85), (83, .iconst (-1)), (84, .ireturn), (85, .iinc 4 1), (88, .goto 7), (91, .iconst (-1)), (92, .ireturn)]
def t_M_showing : List mm_T := [(7, 91, [2, 0, 0, 0, 0, 9], [91])]
def q_M_showing : mm_M := (c_M_showing, 6, t_M_showing)
def c_M_shows : List (Nat × Instr) := [(0, .aload 0), (1, .iload 1), (2, .iload 2), (3, .iload 3), (4, .invokevirtual 18694157), (7, .istore 4), (9, .iload 4), (11, .iconst (-1)), (12, .if_icmp .eq 33), (15, .aload 0), (16, .getfield 3330), (19, .iconst 1415), (22, .iconst 408), (25, .iload 4), (27, .imul), (28, .iadd), (29, .iconst 5), (30, .iadd), (31, .iaload), (32, .ireturn), (33, .aload 0), (34, .iload 1), (35, .iload 2), (36, .iload 3), (37, .invokevirtual 15220749), (40, .iconst (-1)), (41, .if_icmp .eq 54), (44, .aload 0), (45, .iload 1), (46, .iload 2), (47, .iload 3), (48, .invokevirtual 15220749), (51, .goto 61), (54, .aload 0), (55, .iload 1), (56, .iload 2), (57, .iload 3), (58, .invokevirtual 16465933), (61, .ireturn)]
def t_M_shows : List mm_T := []
def q_M_shows : mm_M := (c_M_shows, 5, t_M_shows)
def c_M_shown : List (Nat × Instr) := [(0, .aload 0), (1, .iload 1), (2, .invokevirtual 14884877), (5, .ifCond .eq 31), (8, .iload 2), (9, .invokestatic 14094336), (12, .ifCond .eq 31), (15, .aload 0), (16, .iload 2), (17, .iload 1), (18, .iconst 100), (20, .idiv), (21, .iload 1), (22, .iconst 100), (24, .irem), (25, .invokevirtual 18759693), (28, .goto 33), (31, .iconst (-2)), (33, .ireturn)]
def t_M_shown : List mm_T := []
def q_M_shown : mm_M := (c_M_shown, 3, t_M_shown)
def c_M_before : List (Nat × Instr) := [(0, .iload 1), (1, .i2l), (2, .jsr 0), (3, .aload 0), (4, .getfield 3336), (7, .i2l), (8, .invokestatic 14036992), (11, .ifCond .eq 43), (14, .iload 2), (15, .ifCond .lt 43), (18, .iload 2), (19, .iconst 100), (21, .idiv), (22, .iconst 16), (24, .if_icmp .ge 43), (27, .iload 2), (28, .iconst 100), (30, .irem), (31, .iconst 16), (33, .if_icmp .ge 43), (36, .iload 3), (37, .invokestatic 14094336), (40, .ifCond .ne 46), (43, .iconst (-2)), (45, .ireturn), (46, .aload 0), (47, .aload 0), (48, .getfield 3334), (51, .iload 1), (52, .iconst 3863), (55, .imul), (56, .invokevirtual 14301453), (59, .aload 0), (60, .iload 2), (61, .invokevirtual 14884877), (64, .ifCond .eq 76), (67, .aload 0), (68, .iload 2), (69, .iload 3), (70, .invokevirtual 18821133), (73, .goto 77), (76, .iconst (-1)), (77, .istore 4), (79, .aload 0), (80, .aload 0), (81, .getfield 3334), (84, .aload 0), (85, .getfield 3336), (88, .iconst 3863), (91, .imul), (92, .invokevirtual 14301453), (95, .iload 4), (97, .ireturn)]
def t_M_before : List mm_T := []
def q_M_before : mm_M := (c_M_before, 5, t_M_before)
def c_M_under : List (Nat × Instr) := [(0, .aload 0), (1, .iload 1), (2, .invokevirtual 14884877), (5, .ifCond .eq 27), (8, .iload 2), (9, .invokestatic 14094336), (12, .ifCond .eq 27), (15, .iload 3), (16, .i2l), (17, .jsr 0), (18, .jsr 4), (21, .invokestatic 14036992), (24, .ifCond .ne 30), (27, .iconst (-2)), (29, .ireturn), (30, .iload 1), (31, .iconst 100), (33, .idiv), (34, .istore 4), (36, .iload 1), (37, .iconst 100), (39, .irem), (40, .istore 5), (42, .iload 3), (43, .lookupswitch 143 #[(0, 72), (1, 107), (2, 117), (3, 130)]), (72, .aload 0), (73, .iload 2), (74, .iload 4), (76, .iload 5), (78, .invokevirtual 15220749), (81, .iconst (-1)), (82, .if_icmp .eq 97), (85, .aload 0), (86, .iload 2), (87, .iload 4), (89, .iload 5), (91, .invokevirtual 15220749), (94, .goto 106), (97, .aload 0), (98, .iload 2), (99, .iload 4), (101, .iload 5), (103, .invokevirtual 16465933), (106, .ireturn), (107, .aload 0), (108, .iload 2), (109, .iload 4), (111, .iload 5), (113, .invokevirtual 15220749), (116, .ireturn), (117, .aload 0), (118, .getfield 3330), (121, .iconst 0), (122, .iload 2), (123, .iload 4), (125, .invokestatic 15151104), (128, .iaload), (129, .ireturn), (130, .aload 0), (131, .getfield 3330), (134, .iconst 1), (135, .iload 2), (136, .iload 5), (138, .invokestatic 15151104), (141, .iaload), (142, .ireturn), (143, .aload 0), (144, .iload 2), (145, .iload 4), (147, .iload 5), (149, .invokevirtual 16465933), (152, .ireturn)]
def t_M_under : List mm_T := []
def q_M_under : mm_M := (c_M_under, 6, t_M_under)
def c_M_by : List (Nat × Instr) := [(0, .aload 0), (1, .iload 1), (2, .invokevirtual 14884877), (5, .ifCond .eq 15), (8, .iload 2), (9, .invokestatic 14094336), (12, .ifCond .ne 18), (15, .iconst (-2)), (17, .ireturn), (18, .iload 1), (19, .iconst 100), (21, .idiv), (22, .istore 3), (23, .iload 1), (24, .iconst 100), (26, .irem), (27, .istore 4), (29, .aload 0), (30, .iload 2), (31, .iload 3), (32, .iload 4), (34, .invokevirtual 18694157), (37, .istore 5), (39, .iload 5), (41, .iconst (-1)), (42, .if_icmp .eq 50), (45, .iconst 4), (46, .iload 5), (48, .iadd), (49, .ireturn), (50, .aload 0), (51, .iload 2), (52, .iload 3), (53, .iload 4), (55, .invokevirtual 15220749), (58, .iconst (-1)), (59, .if_icmp .eq 64), (62, .iconst 3), (63, .ireturn), (64, .aload 0), (65, .getfield 3330), (68, .iconst 0), (69, .iload 2), (70, .iload 3), (71, .invokestatic 15151104), (74, .iaload), (75, .iconst (-1)), (76, .if_icmp .eq 81), (79, .iconst 2), (80, .ireturn), (81, .aload 0), (82, .getfield 3330), (85, .iconst 1), (86, .iload 2), (87, .iload 4), (89, .invokestatic 15151104), (92, .iaload), (93, .iconst (-1)), (94, .if_icmp .eq 101), (97, .iconst 1), (98, .goto 102), (101, .iconst 0), (102, .ireturn)]
def t_M_by : List mm_T := []
def q_M_by : mm_M := (c_M_by, 6, t_M_by)
def c_M_valueAt : List (Nat × Instr) := [(0, .aload 0), (1, .iload 1), (2, .invokevirtual 14884877), (5, .ifCond .eq 23), (8, .aload 0), (9, .iload 1), (10, .iconst 100), (12, .idiv), (13, .iload 1), (14, .iconst 100), (16, .irem), (17, .invokevirtual 18296845), (20, .goto 26), (23, .iconst (-2000000000)), (26, .ireturn)]
def t_M_valueAt : List mm_T := []
def q_M_valueAt : mm_M := (c_M_valueAt, 2, t_M_valueAt)
def c_M_holds : List (Nat × Instr) := [(0, .aload 0), (1, .iload 1), (2, .invokevirtual 18096141), (5, .ifCond .eq 16), (8, .aload 0), (9, .iload 2), (10, .invokevirtual 14884877), (13, .ifCond .ne 19), (16, .iconst (-2)), (18, .ireturn), (19, .aload 0), (20, .invokevirtual 18618637), (23, .aload 0), (24, .getfield 3434), (27, .iconst 256), (30, .iload 1), (31, .imul), (32, .iload 2), (33, .iconst 100), (35, .idiv), (36, .iload 2), (37, .iconst 100), (39, .irem), (40, .invokestatic 15015936), (43, .iadd), (44, .baload), (45, .ifCond .eq 52), (48, .iconst 1), (49, .goto 53), (52, .iconst 0), (53, .ireturn)]
def t_M_holds : List mm_T := []
def q_M_holds : mm_M := (c_M_holds, 3, t_M_holds)
def c_M_ruleOf : List (Nat × Instr) := [(0, .aload 0), (1, .iload 1), (2, .invokevirtual 18096141), (5, .ifCond .eq 20), (8, .iload 2), (9, .i2l), (10, .jsr 0), (11, .jsr 5), (14, .invokestatic 14036992), (17, .ifCond .ne 23), (20, .iconst (-2)), (22, .ireturn), (23, .iconst 1415), (26, .iconst 408), (29, .iload 1), (30, .imul), (31, .iadd), (32, .istore 3), (33, .iload 2), (34, .ifCond .ne 81), (37, .iconst 1000000), (39, .aload 0), (40, .getfield 3330), (43, .iload 3), (44, .iaload), (45, .imul), (46, .iconst 10000), (49, .aload 0), (50, .getfield 3330), (53, .iload 3), (54, .iconst 1), (55, .iadd), (56, .iaload), (57, .imul), (58, .iadd), (59, .iconst 100), (61, .aload 0), (62, .getfield 3330), (65, .iload 3), (66, .iconst 2), (67, .iadd), (68, .iaload), (69, .imul), (70, .iadd), (71, .aload 0), (72, .getfield 3330), (75, .iload 3), (76, .iconst 3), (77, .iadd), (78, .iaload), (79, .iadd), (80, .ireturn), (81, .iload 2), (82, .iconst 4), (83, .if_icmp .ge 99), (86, .aload 0), (87, .getfield 3330), (90, .iload 3), (91, .iconst 4), (92, .iadd), (93, .iload 2), (94, .iadd), (95, .iconst 1), (96, .isub), (97, .iaload), (98, .ireturn), (99, .aload 0), (100, .invokevirtual 18618637), (103, .iconst 0), (104, .istore 4), (106, .iconst 0), (107, .istore 5), (109, .jsr_w 0), (109, .iload 5), (111, .aload 0), (112, .getfield 3330), (115, .iconst 0), (116, .iaload), (117, .if_icmp .ge 214), (120, .iconst 0), (121, .istore 6), (123, .jsr_w 1), (123, .iload 6), (125, .aload 0), (126, .getfield 3330), (129, .iconst 1), (130, .iaload), (131, .if_icmp .ge 208), (134, .iload 2), (135, .iconst 4), (136, .if_icmp .ne 160), (139, .aload 0), (140, .getfield 3434), (143, .iconst 256), (146, .iload 1), (147, .imul), (148, .iload 5), (150, .iload 6), (152, .invokestatic 15015936), (155, .iadd), (156, .baload), (157, .goto 185), (160, .aload 0), (161, .aload 0), (162, .getfield 3330), (165, .iload 3), (166, .iconst 4), (167, .iadd), (168, .iaload), (169, .iload 5), (171, .iload 6), (173, .invokevirtual 18694157), (176, .iload 1), (177, .if_icmp .ne 184), (180, .iconst 1), (181, .goto 185), (184, .iconst 0), (185, .istore 7), (187, .iload 4), (189, .iload 7), (191, .ifCond .eq 198), (194, .iconst 1), (195, .goto 199), (198, .iconst 0), (199, .iadd), (200, .istore 4), (202, .iinc 6 1), (205, .goto 123), (208, .iinc 5 1), (211, .goto 109), (214, .iload 4), (216, .ireturn)]
def t_M_ruleOf : List mm_T := [(109, 214, [2, 0, 0, 0, 0, 0, 9, 9], [214]), (123, 208, [2, 0, 0, 0, 0, 0, 0, 9], [208])]
def q_M_ruleOf : mm_M := (c_M_ruleOf, 8, t_M_ruleOf)
def c_M_idle : List (Nat × Instr) := [(0, .iconst 0), (1, .istore 1), (2, .iconst 0), (3, .istore 2), (4, .jsr_w 0), (4, .iload 2), (5, .aload 0), (6, .getfield 3330), (9, .iconst 2), (10, .iaload), (11, .if_icmp .ge 39), (14, .iload 1), (15, .aload 0), (16, .iload 2), (17, .iconst 5), (18, .invokevirtual 19214349), (21, .ifCond .ne 30), (24, .iconst 1), (25, .iload 2), (26, .ishl), (27, .goto 31), (30, .iconst 0), (31, .ior), (32, .istore 1), (33, .iinc 2 1), (36, .goto 4), (39, .iload 1), (40, .ireturn)]
def t_M_idle : List mm_T := [(4, 39, [2, 0, 0], [39])]
def q_M_idle : mm_M := (c_M_idle, 3, t_M_idle)
def c_M_isRun : List (Nat × Instr) := [(0, .iload 3), (1, .istore 6), (3, .jsr_w 0), (3, .iload 6), (5, .iload 4), (7, .if_icmp .gt 31), (10, .aload 0), (11, .iload 1), (12, .iload 2), (13, .iload 6), (15, .invokevirtual 15220749), (18, .iload 5), (20, .if_icmp .eq 25), (23, .iconst 0), (24, .freturn), (25, .iinc 6 1), (28, .goto 3), (31, .iload 3), (32, .ifCond .eq 49), (35, .aload 0), (36, .iload 1), (37, .iload 2), (38, .iload 3), (39, .iconst 1), (40, .isub), (41, .invokevirtual 15220749), (44, .iload 5), (46, .if_icmp .eq 81), (49, .iload 4), (51, .aload 0), (52, .getfield 3330), (55, .iconst 1), (56, .iaload), (57, .iconst 1), (58, .isub), (59, .if_icmp .eq 77), (62, .aload 0), (63, .iload 1), (64, .iload 2), (65, .iload 4), (67, .iconst 1), (68, .iadd), (69, .invokevirtual 15220749), (72, .iload 5), (74, .if_icmp .eq 81), (77, .iconst 1), (78, .goto 82), (81, .iconst 0), (82, .freturn)]
def t_M_isRun : List mm_T := [(3, 31, [2, 0, 0, 0, 0, 0, 0], [31])]
def q_M_isRun : mm_M := (c_M_isRun, 7, t_M_isRun)
def c_M_coversOf : List (Nat × Instr) := [(0, .aload 0), (1, .iconst 0), (2, .putfield 3456), (5, .iconst 0), (6, .istore 2), (7, .jsr_w 0), (7, .iload 2), (8, .aload 0), (9, .getfield 3330), (12, .iconst 0), (13, .iaload), (14, .if_icmp .ge 241), (17, .iconst 0), (18, .istore 3), (19, .iconst 0), (20, .istore 4), (22, .jsr_w 1), (22, .iload 4), (24, .aload 0), (25, .getfield 3330), (28, .iconst 1), (29, .iaload), (30, .if_icmp .ge 235), (33, .aload 0), (34, .iload 1), (35, .iload 2), (36, .iload 4), (38, .invokevirtual 15220749), (41, .istore 5), (43, .iload 4), (45, .istore 3), (46, .jsr_w 2), (46, .iload 3), (47, .iconst 1), (48, .iadd), (49, .aload 0), (50, .getfield 3330), (53, .iconst 1), (54, .iaload), (55, .if_icmp .ge 78), (58, .aload 0), (59, .iload 1), (60, .iload 2), (61, .iload 3), (62, .iconst 1), (63, .iadd), (64, .invokevirtual 15220749), (67, .iload 5), (69, .if_icmp .ne 78), (72, .iinc 3 1), (75, .goto 46), (78, .iload 5), (80, .iconst (-1)), (81, .if_icmp .eq 227), (84, .iload 2), (85, .ifCond .le 107), (88, .aload 0), (89, .iload 1), (90, .iload 2), (91, .iconst 1), (92, .isub), (93, .iload 4), (95, .iload 3), (96, .iload 5), (98, .invokevirtual 19357709), (101, .ifCond .eq 107), (104, .goto 227), (107, .iload 2), (108, .istore 6), (110, .jsr_w 3), (110, .iload 6), (112, .iconst 1), (113, .iadd), (114, .aload 0), (115, .getfield 3330), (118, .iconst 0), (119, .iaload), (120, .if_icmp .ge 146), (123, .aload 0), (124, .iload 1), (125, .iload 6), (127, .iconst 1), (128, .iadd), (129, .iload 4), (131, .iload 3), (132, .iload 5), (134, .invokevirtual 19357709), (137, .ifCond .eq 146), (140, .iinc 6 1), (143, .goto 110), (146, .aload 0), (147, .getfield 3454), (150, .iconst 5), (151, .aload 0), (152, .getfield 3456), (155, .imul), (156, .iload 2), (157, .iastore), (158, .aload 0), (159, .getfield 3454), (162, .iconst 5), (163, .aload 0), (164, .getfield 3456), (167, .imul), (168, .iconst 1), (169, .iadd), (170, .iload 4), (172, .iastore), (173, .aload 0), (174, .getfield 3454), (177, .iconst 5), (178, .aload 0), (179, .getfield 3456), (182, .imul), (183, .iconst 2), (184, .iadd), (185, .iload 6), (187, .iastore), (188, .aload 0), (189, .getfield 3454), (192, .iconst 5), (193, .aload 0), (194, .getfield 3456), (197, .imul), (198, .iconst 3), (199, .iadd), (200, .iload 3), (201, .iastore), (202, .aload 0), (203, .getfield 3454), (206, .iconst 5), (207, .aload 0), (208, .getfield 3456), (211, .imul), (212, .iconst 4), (213, .iadd), (214, .iload 5), (216, .iastore), (217, .aload 0), (218, .dup), (219, .getfield 3456), (222, .iconst 1), (223, .iadd), (224, .putfield 3456), (227, .iload 3), (228, .iconst 1), (229, .iadd), (230, .istore 4), (232, .goto 22), (235, .iinc 2 1), (238, .goto 7), (241, .return_)]
def t_M_coversOf : List mm_T := [(7, 241, [2, 0, 0, 9, 9, 9, 9], [241]), (22, 235, [2, 0, 0, 0, 0, 9, 9], [235]), (46, 78, [2, 0, 0, 0, 0, 0, 9], [78]), (110, 146, [2, 0, 0, 0, 0, 0, 0], [146])]
def q_M_coversOf : mm_M := (c_M_coversOf, 7, t_M_coversOf)
def c_M_rects : List (Nat × Instr) := [(0, .iload 1), (1, .invokestatic 14094336), (4, .ifCond .ne 10), (7, .iconst (-2)), (9, .ireturn), (10, .aload 0), (11, .iload 1), (12, .invokevirtual 19409165), (15, .aload 0), (16, .getfield 3456), (19, .ireturn)]
def t_M_rects : List mm_T := []
def q_M_rects : mm_M := (c_M_rects, 2, t_M_rects)
def c_M_rect : List (Nat × Instr) := [(0, .iload 1), (1, .invokestatic 14094336), (4, .ifCond .eq 21), (7, .iload 2), (8, .ifCond .lt 21), (11, .iload 3), (12, .i2l), (13, .jsr 0), (14, .jsr 1), (15, .invokestatic 14036992), (18, .ifCond .ne 24), (21, .iconst (-2)), (23, .ireturn), (24, .aload 0), (25, .iload 1), (26, .invokevirtual 19409165), (29, .iload 2), (30, .aload 0), (31, .getfield 3456), (34, .if_icmp .lt 39), (37, .iconst (-1)), (38, .ireturn), (39, .iload 3), (40, .iconst 1), (41, .if_icmp .ne 57), (44, .aload 0), (45, .getfield 3454), (48, .iconst 5), (49, .iload 2), (50, .imul), (51, .iconst 4), (52, .iadd), (53, .iaload), (54, .goto 108), (57, .iconst 1000000), (59, .aload 0), (60, .getfield 3454), (63, .iconst 5), (64, .iload 2), (65, .imul), (66, .iaload), (67, .imul), (68, .iconst 10000), (71, .aload 0), (72, .getfield 3454), (75, .iconst 5), (76, .iload 2), (77, .imul), (78, .iconst 1), (79, .iadd), (80, .iaload), (81, .imul), (82, .iadd), (83, .iconst 100), (85, .aload 0), (86, .getfield 3454), (89, .iconst 5), (90, .iload 2), (91, .imul), (92, .iconst 2), (93, .iadd), (94, .iaload), (95, .imul), (96, .iadd), (97, .aload 0), (98, .getfield 3454), (101, .iconst 5), (102, .iload 2), (103, .imul), (104, .iconst 3), (105, .iadd), (106, .iaload), (107, .iadd), (108, .ireturn)]
def t_M_rect : List mm_T := []
def q_M_rect : mm_M := (c_M_rect, 4, t_M_rect)
def c_M_lies : List (Nat × Instr) := [(0, .aload 0), (1, .iload 1), (2, .invokevirtual 14884877), (5, .ifCond .eq 15), (8, .iload 2), (9, .invokestatic 14094336), (12, .ifCond .ne 18), (15, .iconst (-2)), (17, .ireturn), (18, .aload 0), (19, .iload 2), (20, .invokevirtual 19409165), (23, .iconst 0), (24, .istore 3), (25, .jsr_w 0), (25, .iload 3), (26, .aload 0), (27, .getfield 3456), (30, .if_icmp .ge 105), (33, .iload 1), (34, .iconst 100), (36, .idiv), (37, .i2l), (38, .aload 0), (39, .getfield 3454), (42, .iconst 5), (43, .iload 3), (44, .imul), (45, .iaload), (46, .i2l), (47, .aload 0), (48, .getfield 3454), (51, .iconst 5), (52, .iload 3), (53, .imul), (54, .iconst 2), (55, .iadd), (56, .iaload), (57, .i2l), (58, .invokestatic 14036992), (61, .ifCond .eq 99), (64, .iload 1), (65, .iconst 100), (67, .irem), (68, .i2l), (69, .aload 0), (70, .getfield 3454), (73, .iconst 5), (74, .iload 3), (75, .imul), (76, .iconst 1), (77, .iadd), (78, .iaload), (79, .i2l), (80, .aload 0), (81, .getfield 3454), (84, .iconst 5), (85, .iload 3), (86, .imul), (87, .iconst 3), (88, .iadd), (89, .iaload), (90, .i2l), (91, .invokestatic 14036992), (94, .ifCond .eq 99), (97, .iload 3), (98, .ireturn), (99, .iinc 3 1), (102, .goto 25), (105, .iconst (-1)), (106, .ireturn)]
def t_M_lies : List mm_T := [(25, 105, [2, 0, 0, 0], [105])]
def q_M_lies : mm_M := (c_M_lies, 4, t_M_lies)
def c_M_would : List (Nat × Instr) := [(0, .aload 0), (1, .iload 3), (2, .invokevirtual 14819341), (5, .ifCond .eq 22), (8, .iload 1), (9, .invokestatic 14094336), (12, .ifCond .eq 22), (15, .iload 2), (16, .invokestatic 14159872), (19, .ifCond .ne 25), (22, .iconst (-2)), (24, .ireturn), (25, .aload 0), (26, .invokevirtual 14620941), (29, .aload 0), (30, .iload 1), (31, .iload 2), (32, .aload 0), (33, .getfield 3360), (36, .aload 0), (37, .getfield 3364), (40, .aload 0), (41, .getfield 3368), (44, .aload 0), (45, .getfield 3372), (48, .invokevirtual 15300877), (51, .aload 0), (52, .iload 1), (53, .invokevirtual 19409165), (56, .aload 0), (57, .invokevirtual 14686477), (60, .aload 0), (61, .getfield 3456), (64, .ireturn)]
def t_M_would : List mm_T := []
def q_M_would : mm_M := (c_M_would, 4, t_M_would)
def c_M_draws : List (Nat × Instr) := [(0, .aload 0), (1, .aload 0), (2, .getfield 3460), (5, .iconst 1103515245), (8, .imul), (9, .iconst 12345), (12, .iadd), (13, .putfield 3460), (16, .aload 0), (17, .getfield 3460), (20, .iconst 9), (22, .iushr), (23, .iload 1), (24, .irem), (25, .ireturn)]
def t_M_draws : List mm_T := []
def q_M_draws : mm_M := (c_M_draws, 2, t_M_draws)
def c_M_drawn : List (Nat × Instr) := [(0, .iload 2), (1, .i2l), (2, .jsr 0), (3, .jsr 30), (6, .invokestatic 14036992), (9, .ifCond .eq 30), (12, .iload 3), (13, .invokestatic 14094336), (16, .ifCond .eq 30), (19, .iload 4), (21, .i2l), (22, .jsr 0), (23, .jsr 1), (24, .invokestatic 14036992), (27, .ifCond .ne 33), (30, .iconst (-2)), (32, .ireturn), (33, .aload 0), (34, .invokevirtual 14620941), (37, .aload 0), (38, .iload 1), (39, .putfield 3460), (42, .iconst 0), (43, .istore 5), (45, .jsr_w 0), (45, .iload 5), (47, .iload 2), (48, .if_icmp .ge 150), (51, .aload 0), (52, .aload 0), (53, .getfield 3330), (56, .iconst 0), (57, .iaload), (58, .invokevirtual 19734541), (61, .istore 6), (63, .aload 0), (64, .aload 0), (65, .getfield 3330), (68, .iconst 0), (69, .iaload), (70, .invokevirtual 19734541), (73, .istore 7), (75, .aload 0), (76, .aload 0), (77, .getfield 3330), (80, .iconst 1), (81, .iaload), (82, .invokevirtual 19734541), (85, .istore 8), (87, .aload 0), (88, .aload 0), (89, .getfield 3330), (92, .iconst 1), (93, .iaload), (94, .invokevirtual 19734541), (97, .istore 9), (99, .aload 0), (100, .iconst 11), (102, .invokevirtual 19734541), (105, .iconst 1), (106, .isub), (107, .istore 10), (109, .aload 0), (110, .iload 3), (111, .iload 10), (113, .iload 6), (115, .iload 7), (117, .dsub), (120, .iload 8), (122, .iload 9), (124, .dsub), (127, .iload 6), (129, .iload 7), (131, .dadd), (134, .iload 8), (136, .iload 9), (138, .dadd), (141, .invokevirtual 15300877), (144, .iinc 5 1), (147, .goto 45), (150, .aload 0), (151, .iload 3), (152, .invokevirtual 19409165), (155, .iconst 0), (156, .istore 5), (158, .iconst 0), (159, .istore 6), (161, .jsr_w 1), (161, .iload 6), (163, .aload 0), (164, .getfield 3330), (167, .iconst 0), (168, .iaload), (169, .if_icmp .ge 221), (172, .iconst 0), (173, .istore 7), (175, .jsr_w 2), (175, .iload 7), (177, .aload 0), (178, .getfield 3330), (181, .iconst 1), (182, .iaload), (183, .if_icmp .ge 215), (186, .iload 5), (188, .aload 0), (189, .iload 3), (190, .iload 6), (192, .iload 7), (194, .invokevirtual 15220749), (197, .iconst (-1)), (198, .if_icmp .ne 205), (201, .iconst 0), (202, .goto 206), (205, .iconst 1), (206, .iadd), (207, .istore 5), (209, .iinc 7 1), (212, .goto 175), (215, .iinc 6 1), (218, .goto 161), (221, .aload 0), (222, .invokevirtual 14686477), (225, .iload 4), (227, .ifCond .ne 237), (230, .aload 0), (231, .getfield 3456), (234, .goto 239), (237, .iload 5), (239, .ireturn)]
def t_M_drawn : List mm_T := [(45, 150, [2, 0, 0, 0, 0, 0, 9, 9, 9, 9, 9], [150]), (161, 221, [2, 0, 0, 0, 0, 0, 0, 9, 9, 9, 9], [221]), (175, 215, [2, 0, 0, 0, 0, 0, 0, 0, 9, 9, 9], [215])]
def q_M_drawn : mm_M := (c_M_drawn, 11, t_M_drawn)
def c_M_all : List (Nat × Instr) := [(0, .iload 1), (1, .invokestatic 14094336), (4, .ifCond .eq 15), (7, .aload 0), (8, .iload 2), (9, .invokevirtual 14819341), (12, .ifCond .ne 18), (15, .iconst (-2)), (17, .ireturn), (18, .aload 0), (19, .iload 1), (20, .aload 0), (21, .getfield 3360), (24, .aload 0), (25, .getfield 3364), (28, .invokevirtual 18759693), (31, .istore 3), (32, .aload 0), (33, .iload 1), (34, .iload 3), (35, .invokevirtual 19935245), (38, .aload 0), (39, .getfield 3368), (42, .aload 0), (43, .getfield 3360), (46, .isub), (47, .iconst 1), (48, .iadd), (49, .aload 0), (50, .getfield 3372), (53, .aload 0), (54, .getfield 3364), (57, .isub), (58, .iconst 1), (59, .iadd), (60, .imul), (61, .if_icmp .ne 68), (64, .iload 3), (65, .goto 70), (68, .iconst (-5)), (70, .ireturn)]
def t_M_all : List mm_T := []
def q_M_all : mm_M := (c_M_all, 4, t_M_all)
def c_M_countShown : List (Nat × Instr) := [(0, .iconst 0), (1, .istore 3), (2, .aload 0), (3, .getfield 3360), (6, .istore 4), (8, .jsr_w 0), (8, .iload 4), (10, .aload 0), (11, .getfield 3368), (14, .if_icmp .gt 65), (17, .aload 0), (18, .getfield 3364), (21, .istore 5), (23, .jsr_w 1), (23, .iload 5), (25, .aload 0), (26, .getfield 3372), (29, .if_icmp .gt 59), (32, .iload 3), (33, .aload 0), (34, .iload 1), (35, .iload 4), (37, .iload 5), (39, .invokevirtual 18759693), (42, .iload 2), (43, .if_icmp .ne 50), (46, .iconst 1), (47, .goto 51), (50, .iconst 0), (51, .iadd), (52, .istore 3), (53, .iinc 5 1), (56, .goto 23), (59, .iinc 4 1), (62, .goto 8), (65, .iload 3), (66, .ireturn)]
def t_M_countShown : List mm_T := [(8, 65, [2, 0, 0, 0, 0, 9], [65]), (23, 59, [2, 0, 0, 0, 0, 0], [59])]
def q_M_countShown : mm_M := (c_M_countShown, 6, t_M_countShown)
def c_M_many : List (Nat × Instr) := [(0, .iload 1), (1, .invokestatic 14094336), (4, .ifCond .eq 36), (7, .iload 2), (8, .i2l), (9, .jsr 0), (10, .jsr 9), (13, .invokestatic 14036992), (16, .ifCond .eq 36), (19, .aload 0), (20, .iload 3), (21, .invokevirtual 14819341), (24, .ifCond .eq 36), (27, .aload 0), (28, .iload 1), (29, .iload 2), (30, .invokevirtual 19935245), (33, .goto 38), (36, .iconst (-2)), (38, .ireturn)]
def t_M_many : List mm_T := []
def q_M_many : mm_M := (c_M_many, 4, t_M_many)
def c_M_within : List (Nat × Instr) := [(0, .iconst 17), (2, .istore 5), (4, .aload 0), (5, .getfield 3466), (8, .iload 5), (10, .iload 3), (11, .iconst 1), (12, .iadd), (13, .imul), (14, .iload 4), (16, .iadd), (17, .iconst 1), (18, .iadd), (19, .iaload), (20, .aload 0), (21, .getfield 3466), (24, .iload 5), (26, .iload 1), (27, .imul), (28, .iload 4), (30, .iadd), (31, .iconst 1), (32, .iadd), (33, .iaload), (34, .isub), (35, .aload 0), (36, .getfield 3466), (39, .iload 5), (41, .iload 3), (42, .iconst 1), (43, .iadd), (44, .imul), (45, .iload 2), (46, .iadd), (47, .iaload), (48, .isub), (49, .aload 0), (50, .getfield 3466), (53, .iload 5), (55, .iload 1), (56, .imul), (57, .iload 2), (58, .iadd), (59, .iaload), (60, .iadd), (61, .ireturn)]
def t_M_within : List mm_T := []
def q_M_within : mm_M := (c_M_within, 6, t_M_within)
def c_M_greatest : List (Nat × Instr) := [(0, .iload 1), (1, .invokestatic 14094336), (4, .ifCond .eq 29), (7, .iload 2), (8, .i2l), (9, .jsr 0), (10, .jsr 9), (13, .invokestatic 14036992), (16, .ifCond .eq 29), (19, .iload 3), (20, .i2l), (21, .jsr 0), (22, .jsr 1), (23, .invokestatic 14036992), (26, .ifCond .ne 32), (29, .iconst (-2)), (31, .ireturn), (32, .iconst 17), (34, .istore 4), (36, .iconst 0), (37, .istore 5), (39, .jsr_w 0), (39, .iload 5), (41, .aload 0), (42, .getfield 3330), (45, .iconst 0), (46, .iaload), (47, .if_icmp .ge 157), (50, .iconst 0), (51, .istore 6), (53, .jsr_w 1), (53, .iload 6), (55, .aload 0), (56, .getfield 3330), (59, .iconst 1), (60, .iaload), (61, .if_icmp .ge 151), (64, .aload 0), (65, .getfield 3466), (68, .iload 4), (70, .iload 5), (72, .iconst 1), (73, .iadd), (74, .imul), (75, .iload 6), (77, .iadd), (78, .iconst 1), (79, .iadd), (80, .aload 0), (81, .getfield 3466), (84, .iload 4), (86, .iload 5), (88, .imul), (89, .iload 6), (91, .iadd), (92, .iconst 1), (93, .iadd), (94, .iaload), (95, .aload 0), (96, .getfield 3466), (99, .iload 4), (101, .iload 5), (103, .iconst 1), (104, .iadd), (105, .imul), (106, .iload 6), (108, .iadd), (109, .iaload), (110, .iadd), (111, .aload 0), (112, .getfield 3466), (115, .iload 4), (117, .iload 5), (119, .imul), (120, .iload 6), (122, .iadd), (123, .iaload), (124, .isub), (125, .aload 0), (126, .iload 1), (127, .iload 5), (129, .iload 6), (131, .invokevirtual 18759693), (134, .iload 2), (135, .if_icmp .ne 142), (138, .iconst 1), (139, .goto 143), (142, .iconst 0), (143, .iadd), (144, .iastore), (145, .iinc 6 1), (148, .goto 53), (151, .iinc 5 1), (154, .goto 39), (157, .iconst 0), (158, .istore 5), (160, .iconst (-1)), (161, .istore 6), (163, .iconst 0), (164, .istore 7), (166, .jsr_w 2), (166, .iload 7), (168, .aload 0), (169, .getfield 3330), (172, .iconst 0), (173, .iaload), (174, .if_icmp .ge 313), (177, .iconst 0), (178, .istore 8), (180, .jsr_w 3), (180, .iload 8), (182, .aload 0), (183, .getfield 3330), (186, .iconst 1), (187, .iaload), (188, .if_icmp .ge 307), (191, .iload 7), (193, .istore 9), (195, .jsr_w 4), (195, .iload 9), (197, .aload 0), (198, .getfield 3330), (201, .iconst 0), (202, .iaload), (203, .if_icmp .ge 301), (206, .iload 8), (208, .istore 10), (210, .jsr_w 5), (210, .iload 10), (212, .aload 0), (213, .getfield 3330), (216, .iconst 1), (217, .iaload), (218, .if_icmp .ge 295), (221, .iload 9), (223, .iload 7), (225, .isub), (226, .iconst 1), (227, .iadd), (228, .iload 10), (230, .iload 8), (232, .isub), (233, .iconst 1), (234, .iadd), (235, .imul), (236, .istore 11), (238, .iload 11), (240, .iload 5), (242, .if_icmp .le 289), (245, .aload 0), (246, .iload 7), (248, .iload 8), (250, .iload 9), (252, .iload 10), (254, .invokevirtual 20074509), (257, .iload 11), (259, .if_icmp .ne 289), (262, .iload 11), (264, .istore 5), (266, .iconst 1000000), (268, .iload 7), (270, .imul), (271, .iconst 10000), (274, .iload 8), (276, .imul), (277, .iadd), (278, .iconst 100), (280, .iload 9), (282, .imul), (283, .iadd), (284, .iload 10), (286, .iadd), (287, .istore 6), (289, .iinc 10 1), (292, .goto 210), (295, .iinc 9 1), (298, .goto 195), (301, .iinc 8 1), (304, .goto 180), (307, .iinc 7 1), (310, .goto 166), (313, .iload 3), (314, .ifCond .ne 322), (317, .iload 5), (319, .goto 324), (322, .iload 6), (324, .ireturn)]
def t_M_greatest : List mm_T := [(39, 157, [2, 0, 0, 0, 0, 0, 9, 9, 9, 9, 9, 9], [157]), (53, 151, [2, 0, 0, 0, 0, 0, 0, 9, 9, 9, 9, 9], [151]), (166, 313, [2, 0, 0, 0, 0, 0, 0, 0, 9, 9, 9, 9], [313]), (180, 307, [2, 0, 0, 0, 0, 0, 0, 0, 0, 9, 9, 9], [307]), (195, 301, [2, 0, 0, 0, 0, 0, 0, 0, 0, 0, 9, 9], [301]), (210, 295, [2, 0, 0, 0, 0, 0, 0, 0, 0, 0, 0, 9], [295])]
def q_M_greatest : mm_M := (c_M_greatest, 12, t_M_greatest)
def c_M_look : List (Nat × Instr) := [(0, .iconst 1000), (3, .aload 0), (4, .iconst 0), (5, .iload 1), (6, .iload 2), (7, .invokevirtual 18759693), (10, .imul), (11, .iconst 100), (13, .aload 0), (14, .iconst 1), (15, .iload 1), (16, .iload 2), (17, .invokevirtual 18759693), (20, .imul), (21, .iadd), (22, .iconst 10), (24, .aload 0), (25, .iconst 2), (26, .iload 1), (27, .iload 2), (28, .invokevirtual 18759693), (31, .imul), (32, .iadd), (33, .aload 0), (34, .iconst 3), (35, .iload 1), (36, .iload 2), (37, .invokevirtual 18759693), (40, .iadd), (41, .ireturn)]
def t_M_look : List mm_T := []
def q_M_look : mm_M := (c_M_look, 3, t_M_look)
def c_M_alike : List (Nat × Instr) := [(0, .aload 0), (1, .iload 1), (2, .invokevirtual 14884877), (5, .ifCond .ne 11), (8, .iconst (-2)), (10, .ireturn), (11, .iconst 0), (12, .istore 2), (13, .iconst 0), (14, .istore 3), (15, .jsr_w 0), (15, .iload 3), (16, .aload 0), (17, .getfield 3330), (20, .iconst 0), (21, .iaload), (22, .if_icmp .ge 81), (25, .iconst 0), (26, .istore 4), (28, .jsr_w 1), (28, .iload 4), (30, .aload 0), (31, .getfield 3330), (34, .iconst 1), (35, .iaload), (36, .if_icmp .ge 75), (39, .iload 2), (40, .aload 0), (41, .iload 3), (42, .iload 4), (44, .invokevirtual 20197389), (47, .aload 0), (48, .iload 1), (49, .iconst 100), (51, .idiv), (52, .iload 1), (53, .iconst 100), (55, .irem), (56, .invokevirtual 20197389), (59, .if_icmp .ne 66), (62, .iconst 1), (63, .goto 67), (66, .iconst 0), (67, .iadd), (68, .istore 2), (69, .iinc 4 1), (72, .goto 28), (75, .iinc 3 1), (78, .goto 15), (81, .iload 2), (82, .ireturn)]
def t_M_alike : List mm_T := [(15, 81, [2, 0, 0, 0, 9], [81]), (28, 75, [2, 0, 0, 0, 0], [75])]
def q_M_alike : mm_M := (c_M_alike, 5, t_M_alike)
def c_M_looks : List (Nat × Instr) := [(0, .iconst 0), (1, .istore 1), (2, .jsr_w 0), (2, .iload 1), (3, .iconst 10000), (6, .if_icmp .ge 22), (9, .aload 0), (10, .getfield 3470), (13, .iload 1), (14, .iconst 0), (15, .bastore), (16, .iinc 1 1), (19, .goto 2), (22, .iconst 0), (23, .istore 1), (24, .iconst 0), (25, .istore 2), (26, .jsr_w 1), (26, .iload 2), (27, .aload 0), (28, .getfield 3330), (31, .iconst 0), (32, .iaload), (33, .if_icmp .ge 94), (36, .iconst 0), (37, .istore 3), (38, .jsr_w 2), (38, .iload 3), (39, .aload 0), (40, .getfield 3330), (43, .iconst 1), (44, .iaload), (45, .if_icmp .ge 88), (48, .aload 0), (49, .iload 2), (50, .iload 3), (51, .invokevirtual 20197389), (54, .istore 4), (56, .iload 1), (57, .aload 0), (58, .getfield 3470), (61, .iload 4), (63, .baload), (64, .ifCond .eq 71), (67, .iconst 0), (68, .goto 72), (71, .iconst 1), (72, .iadd), (73, .istore 1), (74, .aload 0), (75, .getfield 3470), (78, .iload 4), (80, .iconst 1), (81, .bastore), (82, .iinc 3 1), (85, .goto 38), (88, .iinc 2 1), (91, .goto 26), (94, .iload 1), (95, .ireturn)]
def t_M_looks : List mm_T := [(2, 22, [2, 0, 9, 9, 9], [22]), (26, 94, [2, 0, 0, 9, 9], [94]), (38, 88, [2, 0, 0, 0, 9], [88])]
def q_M_looks : mm_M := (c_M_looks, 5, t_M_looks)
def c_M_stripes : List (Nat × Instr) := [(0, .iload 1), (1, .i2l), (2, .jsr 0), (3, .aload 0), (4, .getfield 3330), (7, .iconst 0), (8, .iaload), (9, .iconst 1), (10, .isub), (11, .i2l), (12, .invokestatic 14036992), (15, .ifCond .ne 21), (18, .iconst (-2)), (20, .ireturn), (21, .iconst 1), (22, .istore 2), (23, .iconst 1), (24, .istore 3), (25, .jsr_w 0), (25, .iload 3), (26, .aload 0), (27, .getfield 3330), (30, .iconst 1), (31, .iaload), (32, .if_icmp .ge 66), (35, .iload 2), (36, .aload 0), (37, .iload 1), (38, .iload 3), (39, .invokevirtual 20197389), (42, .aload 0), (43, .iload 1), (44, .iload 3), (45, .iconst 1), (46, .isub), (47, .invokevirtual 20197389), (50, .if_icmp .ne 57), (53, .iconst 0), (54, .goto 58), (57, .iconst 1), (58, .iadd), (59, .istore 2), (60, .iinc 3 1), (63, .goto 25), (66, .iload 2), (67, .ireturn)]
def t_M_stripes : List mm_T := [(25, 66, [2, 0, 0, 0], [66])]
def q_M_stripes : mm_M := (c_M_stripes, 4, t_M_stripes)
def c_M_strokes : List (Nat × Instr) := [(0, .iload 1), (1, .i2l), (2, .jsr 0), (3, .aload 0), (4, .getfield 3330), (7, .iconst 0), (8, .iaload), (9, .iconst 1), (10, .isub), (11, .i2l), (12, .invokestatic 14036992), (15, .ifCond .eq 25), (18, .iload 2), (19, .invokestatic 14094336), (22, .ifCond .ne 28), (25, .iconst (-2)), (27, .ireturn), (28, .aload 0), (29, .getfield 3330), (32, .iconst 1), (33, .iaload), (34, .iconst 1), (35, .iadd), (36, .istore 3), (37, .iconst 18), (39, .istore 4), (41, .aload 0), (42, .getfield 3474), (45, .iconst 0), (46, .iconst (-1)), (47, .iastore), (48, .iconst 1), (49, .istore 5), (51, .jsr_w 0), (51, .iload 5), (53, .iload 3), (54, .if_icmp .ge 80), (57, .aload 0), (58, .getfield 3474), (61, .iload 5), (63, .aload 0), (64, .iload 2), (65, .iload 1), (66, .iload 5), (68, .iconst 1), (69, .isub), (70, .invokevirtual 15220749), (73, .iastore), (74, .iinc 5 1), (77, .goto 51), (80, .iconst 1), (81, .istore 5), (83, .jsr_w 1), (83, .iload 5), (85, .iload 3), (86, .if_icmp .gt 249), (89, .iconst 0), (90, .istore 6), (92, .jsr_w 2), (92, .iload 6), (94, .iload 5), (96, .iadd), (97, .iload 3), (98, .if_icmp .gt 243), (101, .iload 6), (103, .iload 5), (105, .iadd), (106, .istore 7), (108, .iconst 1), (109, .iload 5), (111, .iconst 1), (112, .if_icmp .ne 119), (115, .iconst 0), (116, .goto 134), (119, .aload 0), (120, .getfield 3478), (123, .iload 4), (125, .iload 6), (127, .iconst 1), (128, .iadd), (129, .imul), (130, .iload 7), (132, .iadd), (133, .iaload), (134, .iadd), (135, .istore 8), (137, .iload 6), (139, .iconst 1), (140, .iadd), (141, .istore 9), (143, .jsr_w 3), (143, .iload 9), (145, .iload 7), (147, .if_icmp .ge 222), (150, .aload 0), (151, .getfield 3474), (154, .iload 9), (156, .iaload), (157, .aload 0), (158, .getfield 3474), (161, .iload 6), (163, .iaload), (164, .if_icmp .ne 216), (167, .iload 8), (169, .iload 9), (171, .iload 6), (173, .iconst 1), (174, .iadd), (175, .if_icmp .ne 182), (178, .iconst 0), (179, .goto 197), (182, .aload 0), (183, .getfield 3478), (186, .iload 4), (188, .iload 6), (190, .iconst 1), (191, .iadd), (192, .imul), (193, .iload 9), (195, .iadd), (196, .iaload), (197, .aload 0), (198, .getfield 3478), (201, .iload 4), (203, .iload 9), (205, .imul), (206, .iload 7), (208, .iadd), (209, .iaload), (210, .iadd), (211, .dsub), (214, .istore 8), (216, .iinc 9 1), (219, .goto 143), (222, .aload 0), (223, .getfield 3478), (226, .iload 4), (228, .iload 6), (230, .imul), (231, .iload 7), (233, .iadd), (234, .iload 8), (236, .iastore), (237, .iinc 6 1), (240, .goto 92), (243, .iinc 5 1), (246, .goto 83), (249, .aload 0), (250, .getfield 3478), (253, .iload 3), (254, .iaload), (255, .iconst 1), (256, .isub), (257, .ireturn)]
def t_M_strokes : List mm_T := [(51, 80, [2, 0, 0, 0, 0, 0, 9, 9, 9, 9], [80]), (83, 249, [2, 0, 0, 0, 0, 0, 9, 9, 9, 9], [249]), (92, 243, [2, 0, 0, 0, 0, 0, 0, 9, 9, 9], [243]), (143, 222, [2, 0, 0, 0, 0, 0, 0, 0, 0, 0], [222])]
def q_M_strokes : mm_M := (c_M_strokes, 10, t_M_strokes)
def c_M_differs : List (Nat × Instr) := [(0, .aload 0), (1, .getfield 3352), (4, .ifCond .ne 10), (7, .iconst (-3)), (9, .ireturn), (10, .aload 0), (11, .getfield 3350), (14, .iconst 0), (15, .iaload), (16, .aload 0), (17, .getfield 3330), (20, .iconst 0), (21, .iaload), (22, .if_icmp .ne 40), (25, .aload 0), (26, .getfield 3350), (29, .iconst 1), (30, .iaload), (31, .aload 0), (32, .getfield 3330), (35, .iconst 1), (36, .iaload), (37, .if_icmp .eq 42), (40, .iconst (-1)), (41, .ireturn), (42, .iconst 0), (43, .istore 1), (44, .jsr_w 0), (44, .iload 1), (45, .iconst 256), (48, .if_icmp .ge 105), (51, .aload 0), (52, .getfield 3482), (55, .iload 1), (56, .iload 1), (57, .iconst 16), (59, .idiv), (60, .aload 0), (61, .getfield 3330), (64, .iconst 0), (65, .iaload), (66, .if_icmp .ge 97), (69, .iload 1), (70, .iconst 16), (72, .irem), (73, .aload 0), (74, .getfield 3330), (77, .iconst 1), (78, .iaload), (79, .if_icmp .ge 97), (82, .aload 0), (83, .iload 1), (84, .iconst 16), (86, .idiv), (87, .iload 1), (88, .iconst 16), (90, .irem), (91, .invokevirtual 20197389), (94, .goto 98), (97, .iconst 0), (98, .iastore), (99, .iinc 1 1), (102, .goto 44), (105, .aload 0), (106, .invokevirtual 14620941), (109, .aload 0), (110, .aload 0), (111, .getfield 3350), (114, .iconst 0), (115, .invokevirtual 14301453), (118, .iconst 0), (119, .istore 1), (120, .iconst 0), (121, .istore 2), (122, .jsr_w 1), (122, .iload 2), (123, .iconst 256), (126, .if_icmp .ge 190), (129, .iload 1), (130, .iload 2), (131, .iconst 16), (133, .idiv), (134, .aload 0), (135, .getfield 3330), (138, .iconst 0), (139, .iaload), (140, .if_icmp .ge 181), (143, .iload 2), (144, .iconst 16), (146, .irem), (147, .aload 0), (148, .getfield 3330), (151, .iconst 1), (152, .iaload), (153, .if_icmp .ge 181), (156, .aload 0), (157, .iload 2), (158, .iconst 16), (160, .idiv), (161, .iload 2), (162, .iconst 16), (164, .irem), (165, .invokevirtual 20197389), (168, .aload 0), (169, .getfield 3482), (172, .iload 2), (173, .iaload), (174, .if_icmp .eq 181), (177, .iconst 1), (178, .goto 182), (181, .iconst 0), (182, .iadd), (183, .istore 1), (184, .iinc 2 1), (187, .goto 122), (190, .aload 0), (191, .invokevirtual 14686477), (194, .iload 1), (195, .ireturn)]
def t_M_differs : List mm_T := [(44, 105, [2, 0, 9], [105]), (122, 190, [2, 0, 0], [190])]
def q_M_differs : mm_M := (c_M_differs, 3, t_M_differs)
def c_M_isShelf : List (Nat × Instr) := [(0, .iload 0), (1, .i2l), (2, .jsr 0), (3, .jsr 3), (6, .invokestatic 14036992), (9, .freturn)]
def t_M_isShelf : List mm_T := []
def q_M_isShelf : mm_M := (c_M_isShelf, 1, t_M_isShelf)
def c_M_row : List (Nat × Instr) := [(0, .iload 1), (1, .invokestatic 20582400), (4, .ifCond .eq 13), (7, .iload 2), (8, .iconst 60), (10, .if_icmp .le 16), (13, .iconst (-2)), (15, .ireturn), (16, .iload 2), (17, .ifCond .ge 23), (20, .iconst (-14)), (22, .ireturn), (23, .aload 0), (24, .getfield 3490), (27, .iload 1), (28, .iload 2), (29, .iastore), (30, .iconst 0), (31, .istore 3), (32, .jsr_w 0), (32, .iload 3), (33, .iload 2), (34, .if_icmp .ge 55), (37, .aload 0), (38, .getfield 3486), (41, .iconst 60), (43, .iload 1), (44, .imul), (45, .iload 3), (46, .iadd), (47, .iconst 0), (48, .sastore), (49, .iinc 3 1), (52, .goto 32), (55, .iconst 1), (56, .ireturn)]
def t_M_row : List mm_T := [(32, 55, [2, 0, 0, 0], [55])]
def q_M_row : mm_M := (c_M_row, 4, t_M_row)
def c_M_refusal : List (Nat × Instr) := [(0, .iload 1), (1, .invokestatic 20582400), (4, .ifCond .ne 10), (7, .iconst (-2)), (9, .ireturn), (10, .aload 0), (11, .getfield 3490), (14, .iload 1), (15, .iaload), (16, .iconst (-1)), (17, .if_icmp .ne 23), (20, .iconst (-11)), (22, .ireturn), (23, .iload 2), (24, .i2l), (25, .jsr 0), (26, .aload 0), (27, .getfield 3490), (30, .iload 1), (31, .iaload), (32, .iconst 1), (33, .isub), (34, .i2l), (35, .invokestatic 14036992), (38, .ifCond .eq 45), (41, .iconst 0), (42, .goto 47), (45, .iconst (-13)), (47, .ireturn)]
def t_M_refusal : List mm_T := []
def q_M_refusal : mm_M := (c_M_refusal, 3, t_M_refusal)
def c_M_put : List (Nat × Instr) := [(0, .aload 0), (1, .iload 1), (2, .iload 2), (3, .invokevirtual 20721677), (6, .istore 4), (8, .iload 4), (10, .ifCond .ge 16), (13, .iload 4), (15, .ireturn), (16, .aload 0), (17, .getfield 3486), (20, .iconst 60), (22, .iload 1), (23, .imul), (24, .iload 2), (25, .iadd), (26, .iload 3), (27, .i2s), (28, .sastore), (29, .iconst 1), (30, .ireturn)]
def t_M_put : List mm_T := []
def q_M_put : mm_M := (c_M_put, 5, t_M_put)
def c_M_element : List (Nat × Instr) := [(0, .aload 0), (1, .iload 1), (2, .iload 2), (3, .invokevirtual 20721677), (6, .ifCond .ge 15), (9, .iconst (-2000000000)), (12, .goto 26), (15, .aload 0), (16, .getfield 3486), (19, .iconst 60), (21, .iload 1), (22, .imul), (23, .iload 2), (24, .iadd), (25, .saload), (26, .ireturn)]
def t_M_element : List mm_T := []
def q_M_element : mm_M := (c_M_element, 3, t_M_element)
def c_M_clip : List (Nat × Instr) := [(0, .iload 1), (1, .invokestatic 20582400), (4, .ifCond .eq 23), (7, .iload 3), (8, .invokestatic 14094336), (11, .ifCond .eq 23), (14, .aload 0), (15, .iload 4), (17, .invokevirtual 14819341), (20, .ifCond .ne 26), (23, .iconst (-2)), (25, .ireturn), (26, .aload 0), (27, .getfield 3490), (30, .iload 1), (31, .iaload), (32, .iconst (-1)), (33, .if_icmp .ne 39), (36, .iconst (-11)), (38, .ireturn), (39, .aload 0), (40, .iload 3), (41, .invokevirtual 19409165), (44, .iconst 0), (45, .istore 5), (47, .iconst 0), (48, .istore 6), (50, .jsr_w 0), (50, .iload 6), (52, .aload 0), (53, .getfield 3456), (56, .if_icmp .ge 84), (59, .iload 5), (61, .aload 0), (62, .iload 6), (64, .invokevirtual 20979725), (67, .ifCond .eq 74), (70, .iconst 1), (71, .goto 75), (74, .iconst 0), (75, .iadd), (76, .istore 5), (78, .iinc 6 1), (81, .goto 50), (84, .iload 2), (85, .ifCond .lt 103), (88, .iload 2), (89, .aload 0), (90, .getfield 3490), (93, .iload 1), (94, .iaload), (95, .iconst 5), (96, .iload 5), (98, .imul), (99, .isub), (100, .if_icmp .le 106), (103, .iconst (-13)), (105, .ireturn), (106, .iconst 60), (108, .iload 1), (109, .imul), (110, .iload 2), (111, .iadd), (112, .istore 6), (114, .iconst 0), (115, .istore 7), (117, .jsr_w 1), (117, .iload 7), (119, .aload 0), (120, .getfield 3456), (123, .if_icmp .ge 293), (126, .aload 0), (127, .iload 7), (129, .invokevirtual 20979725), (132, .ifCond .eq 287), (135, .aload 0), (136, .getfield 3486), (139, .iload 6), (141, .aload 0), (142, .getfield 3454), (145, .iconst 5), (146, .iload 7), (148, .imul), (149, .iaload), (150, .aload 0), (151, .getfield 3360), (154, .dadd), (157, .aload 0), (158, .getfield 3360), (161, .isub), (162, .i2s), (163, .sastore), (164, .aload 0), (165, .getfield 3486), (168, .iload 6), (170, .iconst 1), (171, .iadd), (172, .aload 0), (173, .getfield 3454), (176, .iconst 5), (177, .iload 7), (179, .imul), (180, .iconst 1), (181, .iadd), (182, .iaload), (183, .aload 0), (184, .getfield 3364), (187, .dadd), (190, .aload 0), (191, .getfield 3364), (194, .isub), (195, .i2s), (196, .sastore), (197, .aload 0), (198, .getfield 3486), (201, .iload 6), (203, .iconst 2), (204, .iadd), (205, .aload 0), (206, .getfield 3454), (209, .iconst 5), (210, .iload 7), (212, .imul), (213, .iconst 2), (214, .iadd), (215, .iaload), (216, .aload 0), (217, .getfield 3368), (220, .dsub), (223, .aload 0), (224, .getfield 3360), (227, .isub), (228, .i2s), (229, .sastore), (230, .aload 0), (231, .getfield 3486), (234, .iload 6), (236, .iconst 3), (237, .iadd), (238, .aload 0), (239, .getfield 3454), (242, .iconst 5), (243, .iload 7), (245, .imul), (246, .iconst 3), (247, .iadd), (248, .iaload), (249, .aload 0), (250, .getfield 3372), (253, .dsub), (256, .aload 0), (257, .getfield 3364), (260, .isub), (261, .i2s), (262, .sastore), (263, .aload 0), (264, .getfield 3486), (267, .iload 6), (269, .iconst 4), (270, .iadd), (271, .aload 0), (272, .getfield 3454), (275, .iconst 5), (276, .iload 7), (278, .imul), (279, .iconst 4), (280, .iadd), (281, .iaload), (282, .i2s), (283, .sastore), (284, .iinc 6 5), (287, .iinc 7 1), (290, .goto 117), (293, .iload 5), (295, .ireturn)]
def t_M_clip : List mm_T := [(50, 84, [2, 0, 0, 0, 0, 0, 0, 9], [84]), (117, 293, [2, 0, 0, 0, 0, 0, 0, 0], [293])]
def q_M_clip : mm_M := (c_M_clip, 8, t_M_clip)
def c_M_isMet : List (Nat × Instr) := [(0, .aload 0), (1, .getfield 3454), (4, .iconst 5), (5, .iload 1), (6, .imul), (7, .iaload), (8, .aload 0), (9, .getfield 3368), (12, .if_icmp .gt 70), (15, .aload 0), (16, .getfield 3454), (19, .iconst 5), (20, .iload 1), (21, .imul), (22, .iconst 2), (23, .iadd), (24, .iaload), (25, .aload 0), (26, .getfield 3360), (29, .if_icmp .lt 70), (32, .aload 0), (33, .getfield 3454), (36, .iconst 5), (37, .iload 1), (38, .imul), (39, .iconst 1), (40, .iadd), (41, .iaload), (42, .aload 0), (43, .getfield 3372), (46, .if_icmp .gt 70), (49, .aload 0), (50, .getfield 3454), (53, .iconst 5), (54, .iload 1), (55, .imul), (56, .iconst 3), (57, .iadd), (58, .iaload), (59, .aload 0), (60, .getfield 3364), (63, .if_icmp .lt 70), (66, .iconst 1), (67, .goto 71), (70, .iconst 0), (71, .freturn)]
def t_M_isMet : List mm_T := []
def q_M_isMet : mm_M := (c_M_isMet, 2, t_M_isMet)
def c_M_paste : List (Nat × Instr) := [(0, .iload 1), (1, .invokestatic 20582400), (4, .ifCond .eq 36), (7, .iload 3), (8, .i2l), (9, .jsr 1), (10, .jsr 12), (13, .invokestatic 14036992), (16, .ifCond .eq 36), (19, .iload 4), (21, .invokestatic 14094336), (24, .ifCond .eq 36), (27, .aload 0), (28, .iload 5), (30, .invokevirtual 14884877), (33, .ifCond .ne 39), (36, .iconst (-2)), (38, .ireturn), (39, .aload 0), (40, .getfield 3490), (43, .iload 1), (44, .iaload), (45, .iconst (-1)), (46, .if_icmp .ne 52), (49, .iconst (-11)), (51, .ireturn), (52, .iload 2), (53, .ifCond .lt 70), (56, .iload 2), (57, .aload 0), (58, .getfield 3490), (61, .iload 1), (62, .iaload), (63, .iconst 5), (64, .iload 3), (65, .imul), (66, .isub), (67, .if_icmp .le 73), (70, .iconst (-13)), (72, .ireturn), (73, .iload 5), (75, .iconst 100), (77, .idiv), (78, .istore 6), (80, .iload 5), (82, .iconst 100), (84, .irem), (85, .istore 7), (87, .iconst 0), (88, .istore 8), (90, .jsr_w 0), (90, .iload 8), (92, .iconst 2), (93, .if_icmp .ge 258), (96, .iconst 0), (97, .istore 9), (99, .jsr_w 1), (99, .iload 9), (101, .iload 3), (102, .if_icmp .ge 252), (105, .iconst 60), (107, .iload 1), (108, .imul), (109, .iload 2), (110, .iadd), (111, .iconst 5), (112, .iload 9), (114, .imul), (115, .iadd), (116, .istore 10), (118, .iload 6), (120, .aload 0), (121, .getfield 3486), (124, .iload 10), (126, .saload), (127, .iadd), (128, .istore 11), (130, .iload 7), (132, .aload 0), (133, .getfield 3486), (136, .iload 10), (138, .iconst 1), (139, .iadd), (140, .saload), (141, .iadd), (142, .istore 12), (144, .iload 6), (146, .aload 0), (147, .getfield 3486), (150, .iload 10), (152, .iconst 2), (153, .iadd), (154, .saload), (155, .iadd), (156, .istore 13), (158, .iload 7), (160, .aload 0), (161, .getfield 3486), (164, .iload 10), (166, .iconst 3), (167, .iadd), (168, .saload), (169, .iadd), (170, .istore 14), (172, .iload 8), (174, .iconst 1), (175, .if_icmp .ne 204), (178, .aload 0), (179, .iload 4), (181, .aload 0), (182, .getfield 3486), (185, .iload 10), (187, .iconst 4), (188, .iadd), (189, .saload), (190, .iload 11), (192, .iload 12), (194, .iload 13), (196, .iload 14), (198, .invokevirtual 15300877), (201, .goto 246), (204, .aload 0), (205, .iload 11), (207, .i2l), (208, .iload 12), (210, .i2l), (211, .iload 13), (213, .i2l), (214, .iload 14), (216, .i2l), (217, .invokevirtual 14766093), (220, .ifCond .eq 243), (223, .aload 0), (224, .getfield 3486), (227, .iload 10), (229, .iconst 4), (230, .iadd), (231, .saload), (232, .i2l), (233, .jsr 0), (234, .jsr 9), (237, .invokestatic 14036992), (240, .ifCond .ne 246), (243, .iconst (-2)), (245, .ireturn), (246, .iinc 9 1), (249, .goto 99), (252, .iinc 8 1), (255, .goto 90), (258, .aload 0), (259, .iload 3), (260, .invokevirtual 14229517), (263, .ireturn)]
def t_M_paste : List mm_T := [(90, 258, [2, 0, 0, 0, 0, 0, 0, 0, 0, 9, 9, 9, 9, 9, 9], [258]), (99, 252, [2, 0, 0, 0, 0, 0, 0, 0, 0, 0, 9, 9, 9, 9, 9], [252])]
def q_M_paste : mm_M := (c_M_paste, 15, t_M_paste)
def c_M_readsProperty : List (Nat × Instr) := [(0, .aload 0), (1, .jsr 197733), (4, .invokevirtual 17113101), (7, .ifCond .eq 14), (10, .iconst 0), (11, .goto 57), (14, .aload 0), (15, .jsr 632645), (18, .invokevirtual 17113101), (21, .ifCond .eq 28), (24, .iconst 1), (25, .goto 57), (28, .aload 0), (29, .jsr 9675), (32, .invokevirtual 17113101), (35, .ifCond .eq 42), (38, .iconst 2), (39, .goto 57), (42, .aload 0), (43, .jsr 206220), (46, .invokevirtual 17113101), (49, .ifCond .eq 56), (52, .iconst 3), (53, .goto 57), (56, .iconst (-1)), (57, .istore 1), (58, .iload 1), (59, .iconst (-1)), (60, .if_icmp .ne 68), (63, .aload 0), (64, .invokevirtual 17045773), (67, .return_), (68, .aload 0), (69, .invokevirtual 16914701), (72, .aload 0), (73, .iload 1), (74, .invokevirtual 17443085), (77, .return_)]
def t_M_readsProperty : List mm_T := []
def q_M_readsProperty : mm_M := (c_M_readsProperty, 2, t_M_readsProperty)
def c_M_readsWhat : List (Nat × Instr) := [(0, .aload 0), (1, .aload 0), (2, .jsr 474565), (5, .invokevirtual 17178637), (8, .ifCond .eq 15), (11, .iconst (-1)), (12, .goto 20), (15, .aload 0), (16, .iconst 2), (17, .invokevirtual 17375245), (20, .invokevirtual 17443085), (23, .return_)]
def t_M_readsWhat : List mm_T := []
def q_M_readsWhat : mm_M := (c_M_readsWhat, 1, t_M_readsWhat)
def c_M_readsPlace : List (Nat × Instr) := [(0, .aload 0), (1, .getfield 3400), (4, .iconst 1), (5, .if_icmp .ne 32), (8, .aload 0), (9, .getfield 3396), (12, .aload 0), (13, .getfield 3392), (16, .isub), (17, .iconst 1), (18, .if_icmp .ne 32), (21, .aload 0), (22, .getfield 3421), (25, .jsr 16), (28, .lcmp), (29, .ifCond .le 37), (32, .aload 0), (33, .invokevirtual 17045773), (36, .return_), (37, .aload 0), (38, .aload 0), (39, .getfield 3421), (42, .l2i), (43, .iconst 1), (44, .isub), (45, .putfield 3508), (48, .aload 0), (49, .invokevirtual 16914701), (52, .aload 0), (53, .aload 0), (54, .iconst 2), (55, .invokevirtual 17375245), (58, .putfield 3504), (61, .return_)]
def t_M_readsPlace : List mm_T := []
def q_M_readsPlace : mm_M := (c_M_readsPlace, 1, t_M_readsPlace)
def c_M_readsArea : List (Nat × Instr) := [(0, .aload 0), (1, .invokevirtual 21240077), (4, .aload 0), (5, .aload 0), (6, .getfield 3504), (9, .invokevirtual 17443085), (12, .aload 0), (13, .aload 0), (14, .getfield 3508), (17, .invokevirtual 17443085), (20, .aload 0), (21, .iconst 58), (23, .invokevirtual 17244173), (26, .ifCond .eq 33), (29, .aload 0), (30, .invokevirtual 21240077), (33, .aload 0), (34, .aload 0), (35, .getfield 3504), (38, .invokevirtual 17443085), (41, .aload 0), (42, .aload 0), (43, .getfield 3508), (46, .invokevirtual 17443085), (49, .return_)]
def t_M_readsArea : List mm_T := []
def q_M_readsArea : mm_M := (c_M_readsArea, 1, t_M_readsArea)
def c_M_readsMove : List (Nat × Instr) := [(0, .aload 0), (1, .iconst 45), (3, .invokevirtual 17244173), (6, .ifCond .eq 13), (9, .iconst (-1)), (10, .goto 14), (13, .iconst 1), (14, .istore 1), (15, .aload 0), (16, .iload 1), (17, .aload 0), (18, .iconst 2), (19, .invokevirtual 17375245), (22, .imul), (23, .invokevirtual 17443085), (26, .return_)]
def t_M_readsMove : List mm_T := []
def q_M_readsMove : mm_M := (c_M_readsMove, 2, t_M_readsMove)
def c_M_readsLinesWay : List (Nat × Instr) := [(0, .aload 0), (1, .jsr 605939), (4, .invokevirtual 17113101), (7, .ifCond .ne 25), (10, .aload 0), (11, .jsr 3737826771), (14, .invokevirtual 17113101), (17, .ifCond .ne 25), (20, .aload 0), (21, .invokevirtual 17045773), (24, .return_), (25, .aload 0), (26, .aload 0), (27, .jsr 605939), (30, .invokevirtual 17113101), (33, .ifCond .eq 40), (36, .iconst 0), (37, .goto 41), (40, .iconst 1), (41, .invokevirtual 17443085), (44, .aload 0), (45, .invokevirtual 16914701), (48, .return_)]
def t_M_readsLinesWay : List mm_T := []
def q_M_readsLinesWay : mm_M := (c_M_readsLinesWay, 1, t_M_readsLinesWay)
def c_M_readsTwo : List (Nat × Instr) := [(0, .aload 0), (1, .aload 0), (2, .iconst 2), (3, .invokevirtual 17375245), (6, .invokevirtual 17443085), (9, .aload 0), (10, .aload 0), (11, .lload 1), (12, .invokevirtual 17178637), (15, .invokevirtual 17312013), (18, .aload 0), (19, .aload 0), (20, .iconst 2), (21, .invokevirtual 17375245), (24, .invokevirtual 17443085), (27, .return_)]
def t_M_readsTwo : List mm_T := []
def q_M_readsTwo : mm_M := (c_M_readsTwo, 3, t_M_readsTwo)
def c_M_readsRepeat : List (Nat × Instr) := [(0, .aload 0), (1, .iconst 8), (3, .invokevirtual 17443085), (6, .aload 0), (7, .aload 0), (8, .iconst 2), (9, .invokevirtual 17375245), (12, .invokevirtual 17443085), (15, .aload 0), (16, .getfield 3416), (19, .istore 1), (20, .aload 0), (21, .iconst 0), (22, .invokevirtual 17443085), (25, .aload 0), (26, .getfield 3400), (29, .iconst 123), (31, .if_icmp .ne 41), (34, .aload 0), (35, .invokevirtual 17502221), (38, .ifCond .ne 46), (41, .aload 0), (42, .invokevirtual 17045773), (45, .return_), (46, .jsr_w 0), (46, .aload 0), (47, .getfield 3400), (50, .iconst 125), (52, .if_icmp .eq 70), (55, .aload 0), (56, .getfield 3404), (59, .iconst (-1)), (60, .if_icmp .ne 70), (63, .aload 0), (64, .invokevirtual 21633293), (67, .goto 46), (70, .aload 0), (71, .dup), (72, .getfield 3408), (75, .iconst 1), (76, .isub), (77, .putfield 3408), (80, .aload 0), (81, .invokevirtual 16914701), (84, .aload 0), (85, .getfield 3404), (88, .iconst (-1)), (89, .if_icmp .ne 102), (92, .aload 0), (93, .getfield 3414), (96, .iload 1), (97, .aload 0), (98, .getfield 3416), (101, .iastore), (102, .return_)]
def t_M_readsRepeat : List mm_T := [(46, 70, [2, 0], [70])]
def q_M_readsRepeat : mm_M := (c_M_readsRepeat, 2, t_M_readsRepeat)
def c_M_readsLine : List (Nat × Instr) := [(0, .aload 0), (1, .jsr 609752116), (4, .invokevirtual 17178637), (7, .ifCond .eq 15), (10, .aload 0), (11, .invokevirtual 21567757), (14, .return_), (15, .aload 0), (16, .jsr 16819668), (19, .invokevirtual 17178637), (22, .ifCond .eq 45), (25, .aload 0), (26, .iconst 1), (27, .invokevirtual 17443085), (30, .aload 0), (31, .invokevirtual 21109005), (34, .aload 0), (35, .invokevirtual 21174541), (38, .aload 0), (39, .invokevirtual 21305613), (42, .goto 276), (45, .aload 0), (46, .jsr 605939), (49, .invokevirtual 17113101), (52, .ifCond .ne 65), (55, .aload 0), (56, .jsr 3737826771), (59, .invokevirtual 17113101), (62, .ifCond .eq 92), (65, .aload 0), (66, .iconst 2), (67, .invokevirtual 17443085), (70, .aload 0), (71, .invokevirtual 21436685), (74, .aload 0), (75, .invokevirtual 21109005), (78, .aload 0), (79, .invokevirtual 21174541), (82, .aload 0), (83, .jsr 655), (86, .invokevirtual 21506317), (89, .goto 276), (92, .aload 0), (93, .jsr 317298260), (96, .invokevirtual 17178637), (99, .ifCond .eq 121), (102, .aload 0), (103, .iconst 3), (104, .invokevirtual 17443085), (107, .aload 0), (108, .invokevirtual 21436685), (111, .aload 0), (112, .jsr 89), (115, .invokevirtual 21506317), (118, .goto 276), (121, .aload 0), (122, .jsr 609664709), (125, .invokevirtual 17178637), (128, .ifCond .eq 150), (131, .aload 0), (132, .iconst 4), (133, .invokevirtual 17443085), (136, .aload 0), (137, .invokevirtual 21436685), (140, .aload 0), (141, .jsr 655), (144, .invokevirtual 21506317), (147, .goto 276), (150, .aload 0), (151, .jsr 114201), (154, .invokevirtual 17113101), (157, .ifCond .ne 170), (160, .aload 0), (161, .jsr 677454), (164, .invokevirtual 17113101), (167, .ifCond .eq 222), (170, .aload 0), (171, .jsr 677454), (174, .invokevirtual 17113101), (177, .ifCond .eq 184), (180, .iconst 1), (181, .goto 185), (184, .iconst 0), (185, .istore 1), (186, .aload 0), (187, .invokevirtual 16914701), (190, .aload 0), (191, .iconst 5), (192, .invokevirtual 17443085), (195, .aload 0), (196, .iload 1), (197, .invokevirtual 17443085), (200, .aload 0), (201, .invokevirtual 21305613), (204, .aload 0), (205, .aload 0), (206, .jsr 655), (209, .invokevirtual 17178637), (212, .invokevirtual 17312013), (215, .aload 0), (216, .invokevirtual 21305613), (219, .goto 276), (222, .aload 0), (223, .jsr 664729), (226, .invokevirtual 17178637), (229, .ifCond .eq 245), (232, .aload 0), (233, .iconst 6), (235, .invokevirtual 17443085), (238, .aload 0), (239, .invokevirtual 21109005), (242, .goto 276), (245, .aload 0), (246, .jsr 20194516), (249, .invokevirtual 17178637), (252, .ifCond .eq 272), (255, .aload 0), (256, .iconst 7), (258, .invokevirtual 17443085), (261, .aload 0), (262, .invokevirtual 21371149), (265, .aload 0), (266, .invokevirtual 21371149), (269, .goto 276), (272, .aload 0), (273, .invokevirtual 17045773), (276, .aload 0), (277, .aload 0), (278, .iconst 59), (280, .invokevirtual 17244173), (283, .invokevirtual 17312013), (286, .return_)]
def t_M_readsLine : List mm_T := []
def q_M_readsLine : mm_M := (c_M_readsLine, 2, t_M_readsLine)
def c_M_text : List (Nat × Instr) := [(0, .aload 0), (1, .getfield 3500), (4, .iconst 4), (5, .if_icmp .ne 11), (8, .iconst (-4)), (10, .ireturn), (11, .aload 0), (12, .invokevirtual 16980237), (15, .jsr_w 0), (15, .aload 0), (16, .getfield 3400), (19, .ifCond .eq 29), (22, .aload 0), (23, .invokevirtual 21633293), (26, .goto 15), (29, .aload 0), (30, .iconst 0), (31, .putfield 3388), (34, .aload 0), (35, .getfield 3404), (38, .iconst (-1)), (39, .if_icmp .eq 50), (42, .iconst (-100)), (44, .aload 0), (45, .getfield 3404), (48, .isub), (49, .ireturn), (50, .aload 0), (51, .getfield 3414), (54, .iconst 0), (55, .aload 0), (56, .getfield 3494), (59, .iconst 400), (62, .aload 0), (63, .getfield 3500), (66, .imul), (67, .aload 0), (68, .getfield 3416), (71, .daload), (74, .aload 0), (75, .getfield 3498), (78, .aload 0), (79, .getfield 3500), (82, .aload 0), (83, .getfield 3416), (86, .iastore), (87, .aload 0), (88, .dup), (89, .getfield 3500), (92, .iconst 1), (93, .iadd), (94, .putfield 3500), (97, .aload 0), (98, .getfield 3500), (101, .iconst 1), (102, .isub), (103, .ireturn)]
def t_M_text : List mm_T := [(15, 29, [2], [29])]
def q_M_text : mm_M := (c_M_text, 1, t_M_text)
def c_M_cellOf : List (Nat × Instr) := [(0, .aload 0), (1, .getfield 3494), (4, .iconst 400), (7, .aload 0), (8, .getfield 3528), (11, .imul), (12, .iload 1), (13, .iadd), (14, .iaload), (15, .ireturn)]
def t_M_cellOf : List mm_T := []
def q_M_cellOf : mm_M := (c_M_cellOf, 2, t_M_cellOf)
def c_M_does : List (Nat × Instr) := [(0, .aload 0), (1, .iload 1), (2, .iconst 1), (3, .iadd), (4, .invokevirtual 21766157), (7, .istore 2), (8, .aload 0), (9, .iload 1), (10, .iconst 2), (11, .iadd), (12, .invokevirtual 21766157), (15, .istore 3), (16, .aload 0), (17, .iload 1), (18, .iconst 3), (19, .iadd), (20, .invokevirtual 21766157), (23, .istore 4), (25, .iload 2), (26, .ifCond .ne 36), (29, .aload 0), (30, .getfield 3520), (33, .goto 40), (36, .aload 0), (37, .getfield 3524), (40, .istore 5), (42, .aload 0), (43, .iload 1), (44, .invokevirtual 21766157), (47, .lookupswitch 292 #[(1, 84), (2, 135), (3, 164), (4, 176), (5, 191), (6, 286)]), (84, .aload 0), (85, .iload 2), (86, .iload 3), (87, .iload 4), (89, .aload 0), (90, .getfield 3520), (93, .iadd), (94, .aload 0), (95, .iload 1), (96, .iconst 4), (97, .iadd), (98, .invokevirtual 21766157), (101, .aload 0), (102, .getfield 3524), (105, .iadd), (106, .aload 0), (107, .iload 1), (108, .iconst 5), (109, .iadd), (110, .invokevirtual 21766157), (113, .aload 0), (114, .getfield 3520), (117, .iadd), (118, .aload 0), (119, .iload 1), (120, .iconst 6), (122, .iadd), (123, .invokevirtual 21766157), (126, .aload 0), (127, .getfield 3524), (130, .iadd), (131, .invokevirtual 15364109), (134, .ireturn), (135, .aload 0), (136, .iload 2), (137, .iload 3), (138, .iload 4), (140, .aload 0), (141, .iload 1), (142, .iconst 4), (143, .iadd), (144, .invokevirtual 21766157), (147, .iload 5), (149, .iadd), (150, .aload 0), (151, .iload 1), (152, .iconst 5), (153, .iadd), (154, .invokevirtual 21766157), (157, .iload 5), (159, .iadd), (160, .invokevirtual 15491085), (163, .ireturn), (164, .aload 0), (165, .iload 2), (166, .iload 3), (167, .iload 5), (169, .iadd), (170, .iload 4), (172, .invokevirtual 15810573), (175, .ireturn), (176, .aload 0), (177, .iload 2), (178, .iload 3), (179, .iload 5), (181, .iadd), (182, .iload 4), (184, .iload 5), (186, .iadd), (187, .invokevirtual 16007181), (190, .ireturn), (191, .aload 0), (192, .iload 3), (193, .aload 0), (194, .getfield 3520), (197, .iadd), (198, .iload 4), (200, .aload 0), (201, .getfield 3524), (204, .iadd), (205, .aload 0), (206, .iload 1), (207, .iconst 4), (208, .iadd), (209, .invokevirtual 21766157), (212, .aload 0), (213, .getfield 3520), (216, .iadd), (217, .aload 0), (218, .iload 1), (219, .iconst 5), (220, .iadd), (221, .invokevirtual 21766157), (224, .aload 0), (225, .getfield 3524), (228, .iadd), (229, .aload 0), (230, .iload 1), (231, .iconst 6), (233, .iadd), (234, .invokevirtual 21766157), (237, .aload 0), (238, .getfield 3520), (241, .iadd), (242, .aload 0), (243, .iload 1), (244, .iconst 7), (246, .iadd), (247, .invokevirtual 21766157), (250, .aload 0), (251, .getfield 3524), (254, .iadd), (255, .aload 0), (256, .iload 1), (257, .iconst 8), (259, .iadd), (260, .invokevirtual 21766157), (263, .aload 0), (264, .getfield 3520), (267, .iadd), (268, .aload 0), (269, .iload 1), (270, .iconst 9), (272, .iadd), (273, .invokevirtual 21766157), (276, .aload 0), (277, .getfield 3524), (280, .iadd), (281, .iload 2), (282, .invokevirtual 16359437), (285, .ireturn), (286, .aload 0), (287, .iload 2), (288, .invokevirtual 16588813), (291, .ireturn), (292, .aload 0), (293, .dup), (294, .getfield 3520), (297, .iload 2), (298, .iadd), (299, .putfield 3520), (302, .aload 0), (303, .dup), (304, .getfield 3524), (307, .iload 3), (308, .iadd), (309, .putfield 3524), (312, .iconst 0), (313, .ireturn)]
def t_M_does : List mm_T := []
def q_M_does : mm_M := (c_M_does, 6, t_M_does)
def c_M_sizeOf : List (Nat × Instr) := [(0, .iload 0), (1, .lookupswitch 53 #[(1, 40), (2, 43), (3, 46), (4, 46), (5, 48), (6, 51)]), (40, .iconst 7), (42, .ireturn), (43, .iconst 6), (45, .ireturn), (46, .iconst 4), (47, .ireturn), (48, .iconst 10), (50, .ireturn), (51, .iconst 2), (52, .ireturn), (53, .iconst 3), (54, .ireturn)]
def t_M_sizeOf : List mm_T := []
def q_M_sizeOf : mm_M := (c_M_sizeOf, 1, t_M_sizeOf)
def c_M_runs : List (Nat × Instr) := [(0, .iload 1), (1, .istore 3), (2, .jsr_w 0), (2, .iload 3), (3, .iload 2), (4, .if_icmp .ge 132), (7, .aload 0), (8, .getfield 3516), (11, .ifCond .ne 132), (14, .aload 0), (15, .getfield 3512), (18, .iconst 60), (20, .if_icmp .ne 29), (23, .aload 0), (24, .iconst 1), (25, .putstatic 3516), (28, .return_), (29, .aload 0), (30, .dup), (31, .getfield 3512), (34, .iconst 1), (35, .iadd), (36, .putfield 3512), (39, .aload 0), (40, .iload 3), (41, .invokevirtual 21766157), (44, .iconst 8), (46, .if_icmp .ne 101), (49, .aload 0), (50, .iload 3), (51, .iconst 2), (52, .iadd), (53, .invokevirtual 21766157), (56, .istore 4), (58, .iconst 0), (59, .istore 5), (61, .jsr_w 1), (61, .iload 5), (63, .aload 0), (64, .iload 3), (65, .iconst 1), (66, .iadd), (67, .invokevirtual 21766157), (70, .if_icmp .ge 95), (73, .aload 0), (74, .getfield 3516), (77, .ifCond .ne 95), (80, .aload 0), (81, .iload 3), (82, .iconst 3), (83, .iadd), (84, .iload 4), (86, .invokevirtual 21969165), (89, .iinc 5 1), (92, .goto 61), (95, .iload 4), (97, .istore 3), (98, .goto 2), (101, .aload 0), (102, .aload 0), (103, .iload 3), (104, .invokevirtual 21831693), (107, .ifCond .ge 114), (110, .iconst 1), (111, .goto 115), (114, .iconst 0), (115, .putstatic 3516), (118, .iload 3), (119, .aload 0), (120, .iload 3), (121, .invokevirtual 21766157), (124, .invokestatic 21893120), (127, .iadd), (128, .istore 3), (129, .goto 2), (132, .return_)]
def t_M_runs : List mm_T := [(2, 132, [2, 0, 0, 0, 9, 9], [132]), (61, 95, [2, 0, 0, 0, 0, 0], [95])]
def q_M_runs : mm_M := (c_M_runs, 6, t_M_runs)
def c_M_ran : List (Nat × Instr) := [(0, .aload 0), (1, .invokevirtual 14620941), (4, .aload 0), (5, .iload 1), (6, .putfield 3528), (9, .aload 0), (10, .iconst 0), (11, .putfield 3512), (14, .aload 0), (15, .iconst 0), (16, .putstatic 3516), (19, .aload 0), (20, .iconst 0), (21, .putfield 3520), (24, .aload 0), (25, .iconst 0), (26, .putfield 3524), (29, .aload 0), (30, .iconst 0), (31, .aload 0), (32, .getfield 3498), (35, .iload 1), (36, .iaload), (37, .invokevirtual 21969165), (40, .aload 0), (41, .iconst 0), (42, .putstatic 3344), (45, .aload 0), (46, .getfield 3516), (49, .ifCond .ne 57), (52, .aload 0), (53, .getfield 3512), (56, .ireturn), (57, .aload 0), (58, .invokevirtual 14686477), (61, .iconst (-100)), (63, .aload 0), (64, .getfield 3512), (67, .isub), (68, .ireturn)]
def t_M_ran : List mm_T := []
def q_M_ran : mm_M := (c_M_ran, 2, t_M_ran)
def c_M_run : List (Nat × Instr) := [(0, .iload 1), (1, .i2l), (2, .jsr 0), (3, .aload 0), (4, .getfield 3500), (7, .iconst 1), (8, .isub), (9, .i2l), (10, .invokestatic 14036992), (13, .ifCond .eq 28), (16, .aload 0), (17, .aload 0), (18, .iload 1), (19, .invokevirtual 22028301), (22, .invokevirtual 14229517), (25, .goto 30), (28, .iconst (-2)), (30, .ireturn)]
def t_M_run : List mm_T := []
def q_M_run : mm_M := (c_M_run, 2, t_M_run)
def c_M_tests : List (Nat × Instr) := [(0, .iload 1), (1, .i2l), (2, .jsr 0), (3, .aload 0), (4, .getfield 3500), (7, .iconst 1), (8, .isub), (9, .i2l), (10, .invokestatic 14036992), (13, .ifCond .eq 28), (16, .iload 2), (17, .i2l), (18, .jsr 0), (19, .jsr 3), (22, .invokestatic 14036992), (25, .ifCond .ne 31), (28, .iconst (-2)), (30, .ireturn), (31, .aload 0), (32, .iload 1), (33, .invokevirtual 22028301), (36, .istore 3), (37, .iload 2), (38, .iconst 1), (39, .if_icmp .ne 71), (42, .iconst 0), (43, .istore 3), (44, .iconst 0), (45, .istore 4), (47, .jsr_w 0), (47, .iload 4), (49, .iconst 4), (50, .if_icmp .ge 68), (53, .iload 3), (54, .aload 0), (55, .iload 4), (57, .invokevirtual 19472397), (60, .iadd), (61, .istore 3), (62, .iinc 4 1), (65, .goto 47), (68, .goto 106), (71, .iload 2), (72, .iconst 2), (73, .if_icmp .ne 96), (76, .iconst 100), (78, .aload 0), (79, .getfield 3330), (82, .iconst 0), (83, .iaload), (84, .imul), (85, .aload 0), (86, .getfield 3330), (89, .iconst 1), (90, .iaload), (91, .iadd), (92, .istore 3), (93, .goto 106), (96, .iload 2), (97, .iconst 3), (98, .if_icmp .ne 106), (101, .aload 0), (102, .invokevirtual 20320269), (105, .istore 3), (106, .aload 0), (107, .invokevirtual 14686477), (110, .iload 3), (111, .ireturn)]
def t_M_tests : List mm_T := [(47, 68, [2, 0, 0, 0, 0], [68])]
def q_M_tests : mm_M := (c_M_tests, 5, t_M_tests)
def c_M_count : List (Nat × Instr) := [(0, .iload 1), (1, .lookupswitch 90 #[(0, 44), (1, 51), (2, 58), (3, 65), (4, 70), (5, 80), (6, 85)]), (44, .aload 0), (45, .getfield 3330), (48, .iconst 0), (49, .iaload), (50, .ireturn), (51, .aload 0), (52, .getfield 3330), (55, .iconst 1), (56, .iaload), (57, .ireturn), (58, .aload 0), (59, .getfield 3330), (62, .iconst 2), (63, .iaload), (64, .ireturn), (65, .aload 0), (66, .getfield 3336), (69, .ireturn), (70, .aload 0), (71, .getfield 3340), (74, .aload 0), (75, .getfield 3336), (78, .isub), (79, .ireturn), (80, .aload 0), (81, .getfield 3500), (84, .ireturn), (85, .aload 0), (86, .getfield 3388), (89, .ireturn), (90, .iconst (-2)), (92, .ireturn)]
def t_M_count : List mm_T := []
def q_M_count : mm_M := (c_M_count, 2, t_M_count)
def c_Mth_floorMod : List (Nat × Instr) := [(0, .iload 0), (1, .iload 1), (2, .irem), (3, .istore 2), (4, .iload 0), (5, .iload 1), (6, .ixor), (7, .ifCond .ge 18), (10, .iload 2), (11, .ifCond .eq 18), (14, .iload 2), (15, .iload 1), (16, .iadd), (17, .ireturn), (18, .iload 2), (19, .ireturn)]
def t_Mth_floorMod : List mm_T := []
def q_Mth_floorMod : mm_M := (c_Mth_floorMod, 3, t_Mth_floorMod)
def c_Str_length : List (Nat × Instr) := [(0, .aload 0), (1, .getfield 3586), (4, .arraylength), (5, .aload 0), (6, .invokevirtual 22614030), (9, .ishr), (10, .ireturn)]
def t_Str_length : List mm_T := []
def q_Str_length : mm_M := (c_Str_length, 1, t_Str_length)
def c_Str_charAt : List (Nat × Instr) := [(0, .aload 0), (1, .invokevirtual 22679566), (4, .ifCond .eq 16), (7, .aload 0), (8, .getfield 3586), (11, .iload 1), (12, .invokestatic 22814720), (15, .dreturn), (16, .aload 0), (17, .getfield 3586), (20, .iload 1), (21, .athrow), (24, .dreturn)]
def t_Str_charAt : List mm_T := []
def q_Str_charAt : mm_M := (c_Str_charAt, 2, t_Str_charAt)
def c_Str_indexOf : List (Nat × Instr) := [(0, .aload 0), (1, .iload 1), (2, .iconst 0), (3, .invokevirtual 22556686), (6, .ireturn)]
def t_Str_indexOf : List mm_T := []
def q_Str_indexOf : mm_M := (c_Str_indexOf, 2, t_Str_indexOf)
def c_Str_indexOf2 : List (Nat × Instr) := [(0, .aload 0), (1, .invokevirtual 22679566), (4, .ifCond .eq 23), (7, .aload 0), (8, .getfield 3586), (11, .iload 1), (12, .iload 2), (13, .aload 0), (14, .invokevirtual 22351886), (17, .invokestatic 22953984), (20, .goto 36), (23, .aload 0), (24, .getfield 3586), (27, .iload 1), (28, .iload 2), (29, .aload 0), (30, .invokevirtual 22351886), (33, .athrow), (36, .ireturn)]
def t_Str_indexOf2 : List mm_T := []
def q_Str_indexOf2 : mm_M := (c_Str_indexOf2, 3, t_Str_indexOf2)
def c_Str_coder : List (Nat × Instr) := [(0, .iconst 1), (3, .ifCond .eq 13), (6, .aload 0), (7, .getfield 3588), (10, .goto 14), (13, .iconst 1), (14, .fneg)]
def t_Str_coder : List mm_T := []
def q_Str_coder : mm_M := (c_Str_coder, 1, t_Str_coder)
def c_Str_isLatin1 : List (Nat × Instr) := [(0, .iconst 1), (3, .ifCond .eq 17), (6, .aload 0), (7, .getfield 3588), (10, .ifCond .ne 17), (13, .iconst 1), (14, .goto 18), (17, .iconst 0), (18, .freturn)]
def t_Str_isLatin1 : List mm_T := []
def q_Str_isLatin1 : mm_M := (c_Str_isLatin1, 1, t_Str_isLatin1)
def c_Str_checkIndex : List (Nat × Instr) := [(0, .iload 0), (1, .iload 1), (2, .getstatic 0), (5, .invokestatic 23212032), (8, .pop), (9, .return_)]
def t_Str_checkIndex : List mm_T := []
def q_Str_checkIndex : mm_M := (c_Str_checkIndex, 2, t_Str_checkIndex)
def c_Lat_charAt : List (Nat × Instr) := [(0, .iload 1), (1, .aload 0), (2, .arraylength), (3, .invokestatic 22751488), (6, .aload 0), (7, .iload 1), (8, .baload), (9, .iconst 255), (12, .iand), (13, .i2c), (14, .dreturn)]
def t_Lat_charAt : List mm_T := []
def q_Lat_charAt : mm_M := (c_Lat_charAt, 2, t_Lat_charAt)
def c_Lat_canEncode : List (Nat × Instr) := [(0, .iload 0), (1, .ifCond .lt 15), (4, .iload 0), (5, .iconst 255), (8, .if_icmp .gt 15), (11, .iconst 1), (12, .goto 16), (15, .iconst 0), (16, .freturn)]
def t_Lat_canEncode : List mm_T := []
def q_Lat_canEncode : mm_M := (c_Lat_canEncode, 1, t_Lat_canEncode)
def c_Lat_indexOf : List (Nat × Instr) := [(0, .iload 1), (1, .invokestatic 22876160), (4, .ifCond .ne 9), (7, .iconst (-1)), (8, .ireturn), (9, .iload 2), (10, .iconst 0), (11, .dadd), (14, .istore 2), (15, .iload 3), (16, .aload 0), (17, .arraylength), (18, .dsub), (21, .istore 3), (22, .iload 2), (23, .iload 3), (24, .if_icmp .lt 29), (27, .iconst (-1)), (28, .ireturn), (29, .aload 0), (30, .iload 1), (31, .iload 2), (32, .iload 3), (33, .invokestatic 23019520), (36, .ireturn)]
def t_Lat_indexOf : List mm_T := []
def q_Lat_indexOf : mm_M := (c_Lat_indexOf, 4, t_Lat_indexOf)
def c_Lat_indexOfChar : List (Nat × Instr) := [(0, .iload 1), (1, .i2b), (2, .istore 4), (4, .iload 2), (5, .istore 5), (7, .jsr_w 0), (7, .iload 5), (9, .iload 3), (10, .if_icmp .ge 31), (13, .aload 0), (14, .iload 5), (16, .baload), (17, .iload 4), (19, .if_icmp .ne 25), (22, .iload 5), (24, .ireturn), (25, .iinc 5 1), (28, .goto 7), (31, .iconst (-1)), (32, .ireturn)]
def t_Lat_indexOfChar : List mm_T := [(7, 31, [2, 0, 0, 0, 0, 0], [31])]
def q_Lat_indexOfChar : mm_M := (c_Lat_indexOfChar, 6, t_Lat_indexOfChar)
def c_Arr_fill : List (Nat × Instr) := [(0, .iconst 0), (1, .istore 2), (2, .aload 0), (3, .arraylength), (4, .istore 3), (5, .jsr_w 0), (5, .iload 2), (6, .iload 3), (7, .if_icmp .ge 20), (10, .aload 0), (11, .iload 2), (12, .iload 1), (13, .iastore), (14, .iinc 2 1), (17, .goto 5), (20, .return_)]
def t_Arr_fill : List mm_T := [(5, 20, [2, 0, 0, 0], [20])]
def q_Arr_fill : mm_M := (c_Arr_fill, 4, t_Arr_fill)
def c_Arr_copyOf : List (Nat × Instr) := [(0, .iload 1), (1, .aload 0), (2, .arraylength), (3, .if_icmp .ne 14), (6, .aload 0), (7, .athrow), (10, .athrow), (13, .areturn), (14, .iload 1), (15, .anewarray 50), (17, .astore 2), (18, .aload 0), (19, .iconst 0), (20, .aload 2), (21, .iconst 0), (22, .aload 0), (23, .arraylength), (24, .iload 1), (25, .dsub), (28, .daload), (31, .aload 2), (32, .areturn)]
def t_Arr_copyOf : List mm_T := []
def q_Arr_copyOf : mm_M := (c_Arr_copyOf, 3, t_Arr_copyOf)
def c_Pre_checkIndex : List (Nat × Instr) := [(0, .iload 0), (1, .ifCond .lt 9), (4, .iload 0), (5, .iload 1), (6, .if_icmp .lt 16), (9, .aload 2), (10, .iload 0), (11, .iload 1), (12, .athrow), (15, .athrow), (16, .iload 0), (17, .ireturn)]
def t_Pre_checkIndex : List mm_T := []
def q_Pre_checkIndex : mm_M := (c_Pre_checkIndex, 3, t_Pre_checkIndex)
def mm_tab_0 : List mm_M := [q_Cr_init, q_Cr_read, q_Cr_readLevel, q_Cr_readJoined, q_Cr_readNegated, q_Cr_readCompared, q_Cr_readReckoned, q_Cr_reckons, q_Cr_readUnit, q_Cr_opens, q_Cr_emitWord, q_Cr_emit, q_Cr_emitWith, q_Cv_init, q_Cv_take, q_Cv_copyLayer, q_Cv_stroke, q_Cv_draw, q_Cv_nextDraw, q_Cv_drawnOf]
def mm_tab_1 : List mm_M := [q_Cv_cellsSet, q_Cv_build, q_Cv_addRun, q_Cv_formatAt, q_Cv_rectNumber, q_Cv_meets, q_Cv_fewestStrokes, q_Cv_withEdge, q_Cv_leastOf, q_Ed_init, q_Ed_paintRect, q_Ed_setLines, q_Ed_setGround, q_Ed_setValue, q_Ed_insertLines, q_Ed_removeLines, q_Ed_copyRect, q_Ed_clearNeedless, q_Ed_sortRows, q_Ed_moveLines]
def mm_tab_2 : List mm_M := [q_Ed_mustSwap, q_Ed_bringLines, q_Ed_bringCell, q_Ed_joinNewLine, q_Hi_init, q_Hi_stateAt, q_Hi_draftOfNow, q_Hi_acceptDraft, q_Hi_stepBack, q_Hi_stepOn, q_Hi_startFrom, q_Pr_init, q_Pr_maskAt, q_Pr_aim, q_Pr_isSo, q_Pr_step, q_Pr_joined, q_Pr_wordFor, q_Pr_countPeers, q_Pr_push]
def mm_tab_3 : List mm_M := [q_Pr_pop, q_Pg_init, q_Pg_read, q_Pg_readLines, q_Pg_opens, q_Pg_readNumbers, q_Pg_addFormat, q_Pg_addTwo, q_Pg_addArea, q_Pg_addMove, q_Pg_add, q_Ru_init, q_Ru_become, q_Ru_covers, q_Ru_makeRoom, q_Ru_loseLines, q_Ru_firstLeft, q_Ru_lastLeft, q_Rn_init, q_Rn_runOn]
def mm_tab_4 : List mm_M := [q_Rn_runLines, q_Rn_perform, q_Rn_originOf, q_Rn_areaAt, q_Rn_linesAt, q_Sh_init, q_Sh_become, q_Sh_size, q_Sh_hasCell, q_Sh_hasRect, q_Sh_hasLines, q_Sh_hasRule, q_Sh_ruleAt, q_Sh_valueOf, q_Sh_setValueOf, q_Sh_cellFormat, q_Sh_setCellFormat, q_Sh_lineFormat, q_Sh_setLineFormat, q_Sh_beneath]
def mm_tab_5 : List mm_M := [q_Sh_isNeedless, q_Sh_needlessCells, q_Sh_sourceOf, q_Sh_numberFrom, q_Sh_putRule, q_Sh_dropRule, q_Sh_bringRule, q_Sh_carryRule, q_Ta_init, q_Ta_append, q_Ta_clear, q_Ta_rewind, q_Ta_advance, q_Ta_sortOf, q_Ta_refuse, q_Ta_isWord, q_Ta_takesWord, q_Ta_takesSign, q_Ta_needSign, q_Ta_needNumber]
def mm_tab_6 : List mm_M := [q_Ta_needOneOf, q_Ta_spells, q_Vw_init, q_Vw_take, q_Vw_markCells, q_Vw_takeCell, q_Vw_maskAt, q_Vw_sourceAt, q_Vw_numberAt, q_Vw_lookAt, q_Vw_cellsHeldBy, q_Vw_cellsShownBy, q_Vw_cellsShowing, q_Vw_cellsLooking, q_Vw_cellsUnlike, q_Vw_unlikeLooks, q_Vw_stripesOf, q_Vw_findGreatest, q_Vw_findGreatestFrom, q_F_init]
def mm_tab_7 : List mm_M := [q_F_paint, q_F_lines, q_F_ground, q_F_value, q_F_insert, q_F_remove, q_F_copy, q_F_sort, q_F_move, q_F_tidy, q_F_rule, q_F_drop, q_F_bring, q_F_paste, q_F_run, q_F_undo, q_F_redo, q_F_before, q_F_shown, q_F_under]
def mm_tab_8 : List mm_M := [q_F_by, q_F_valueAt, q_F_holds, q_F_ruleOf, q_F_idle, q_F_rects, q_F_rect, q_F_lies, q_F_would, q_F_drawn, q_F_all, q_F_many, q_F_greatest, q_F_alike, q_F_looks, q_F_stripes, q_F_strokes, q_F_needless, q_F_row, q_F_put]
def mm_tab_9 : List mm_M := [q_F_element, q_F_clip, q_F_feed, q_F_text, q_F_tests, q_F_image, q_F_back, q_F_differs, q_F_count, q_F_now, q_F_settle, q_F_freshView, q_F_programOf, q_F_isShelf, q_F_sizeOf, q_F_shortOf, q_F_setShort, q_F_pastedRect, q_F_writeFive, q_F_peek]
def mm_tab_10 : List mm_M := [q_F_poke, q_F_wrap, q_F_placeOf, q_F_isProperty, q_F_isNumber, q_F_isFormat, q_F_isFlag, q_F_topOf, q_F_leftOf, q_F_bottomOf, q_F_rightOf, q_F_rectCode, q_F_pairCode, q_M_init, q_M_in, q_M_isProperty, q_M_isTold, q_M_told, q_M_becomes, q_M_undo]
def mm_tab_11 : List mm_M := [q_M_redo, q_M_image, q_M_back, q_M_aside, q_M_again, q_M_isRect, q_M_takesRect, q_M_isCell, q_M_isLines, q_M_grid, q_M_crossed, q_M_lined, q_M_own, q_M_paints, q_M_doPaint, q_M_paint, q_M_doLines, q_M_lines, q_M_ground, q_M_value]
def mm_tab_12 : List mm_M := [q_M_movesLine, q_M_doInsert, q_M_insert, q_M_dropRule, q_M_doRemove, q_M_remove, q_M_orders, q_M_sort, q_M_move, q_M_doCopy, q_M_copy, q_M_beneath, q_M_needless, q_M_doTidy, q_M_tidy, q_M_feed, q_M_isWordAt, q_M_isFigureAt, q_M_next, q_M_starts]
def mm_tab_13 : List mm_M := [q_M_wrong, q_M_isWord, q_M_takesWord, q_M_takesSign, q_M_wants, q_M_number, q_M_writes, q_M_opens, q_M_readsCondition, q_M_readsAll, q_M_readsNot, q_M_readsSum, q_M_readsPart, q_M_nameNow, q_M_readsUnit, q_M_rule, q_M_isRule, q_M_drop, q_M_bring, q_M_valueIn]
def mm_tab_14 : List mm_M := [q_M_countIn, q_M_named, q_M_both, q_M_isSo, q_M_freshen, q_M_showing, q_M_shows, q_M_shown, q_M_before, q_M_under, q_M_by, q_M_valueAt, q_M_holds, q_M_ruleOf, q_M_idle, q_M_isRun, q_M_coversOf, q_M_rects, q_M_rect, q_M_lies]
def mm_tab_15 : List mm_M := [q_M_would, q_M_draws, q_M_drawn, q_M_all, q_M_countShown, q_M_many, q_M_within, q_M_greatest, q_M_look, q_M_alike, q_M_looks, q_M_stripes, q_M_strokes, q_M_differs, q_M_isShelf, q_M_row, q_M_refusal, q_M_put, q_M_element, q_M_clip]
def mm_tab_16 : List mm_M := [q_M_isMet, q_M_paste, q_M_readsProperty, q_M_readsWhat, q_M_readsPlace, q_M_readsArea, q_M_readsMove, q_M_readsLinesWay, q_M_readsTwo, q_M_readsRepeat, q_M_readsLine, q_M_text, q_M_cellOf, q_M_does, q_M_sizeOf, q_M_runs, q_M_ran, q_M_run, q_M_tests, q_M_count]
def mm_tab_17 : List mm_M := [q_Mth_floorMod, q_Str_length, q_Str_charAt, q_Str_indexOf, q_Str_indexOf2, q_Str_coder, q_Str_isLatin1, q_Str_checkIndex, q_Lat_charAt, q_Lat_canEncode, q_Lat_indexOf, q_Lat_indexOfChar, q_Arr_fill, q_Arr_copyOf, q_Pre_checkIndex]
def mm_tab : List (List mm_M) := [mm_tab_0, mm_tab_1, mm_tab_2, mm_tab_3, mm_tab_4, mm_tab_5, mm_tab_6, mm_tab_7, mm_tab_8, mm_tab_9, mm_tab_10, mm_tab_11, mm_tab_12, mm_tab_13, mm_tab_14, mm_tab_15, mm_tab_16, mm_tab_17]
noncomputable def mm_P : Nat → mm_O
  | 0 => fun _ _ _ _ => none
  | d + 1 => fun i args w h => mm_run (mm_P d) (mm_look mm_tab i) args w h
end
section
/-! The machine's heap as the mini heap's. -/
/-- the tables' words that every method's contract asks -/
def lw_g : List Cond := lw_tbl.filter goodWord
theorem mm_wt {w : Cond} (i : Nat) (h : tables_1[i]? = some w) : w ∈ lw_tbl := List.mem_append_right _ (List.mem_of_getElem? h)
theorem mm_w {w : Cond} (i : Nat) (h : tables_1[i]? = some w) (hg : goodWord w = true) : w ∈ lw_g := List.mem_filter.mpr ⟨mm_wt i h, hg⟩
theorem mm_in_g {ws : List Cond} (ps : List Nat) (h : ws = ps.filterMap (fun i => tables_1[i]?)) (hg : ws.all goodWord = true) : ∀ w ∈ ws, w ∈ lw_g := by
  intro w hw
  have hg2 := List.all_eq_true.mp hg w hw
  rw [h] at hw
  obtain ⟨i, -, hi⟩ := List.mem_filterMap.mp hw
  exact mm_w i hi hg2
/-! The classes whose objects the world holds: printed by wip/whole/gen/world.py. -/
def mm_F0 : u_T := fun k => match k with
  | 0 => ("FewRectangles$ConditionReader", "tape", "LFewRectangles$Tape;", true)
  | 1 => ("FewRectangles$ConditionReader", "code", "[I", true)
  | _ => ("FewRectangles$ConditionReader", "size", "I", false)
def mm_Y0 : Nat → FieldType := fun k => match k with
  | 0 => .object "FewRectangles$Tape"
  | 1 => .array .int
  | _ => .int
theorem mm_N0 : ∀ a, a < 3 → ∀ b, b < 3 → a ≠ b → (mm_F0 a).2.1 ≠ (mm_F0 b).2.1 := by decide +kernel
theorem mm_Y0_ok : ∀ k, k < 3 → parseFieldDescriptor (mm_F0 k).2.2.1 = some (mm_Y0 k) := by decide +kernel
def mm_F1 : u_T := fun k => match k with
  | 0 => ("FewRectangles$Cover", "tops", "[I", true)
  | 1 => ("FewRectangles$Cover", "lefts", "[I", true)
  | 2 => ("FewRectangles$Cover", "bottoms", "[I", true)
  | 3 => ("FewRectangles$Cover", "rights", "[I", true)
  | 4 => ("FewRectangles$Cover", "numbers", "[I", true)
  | 5 => ("FewRectangles$Cover", "owners", "[I", true)
  | 6 => ("FewRectangles$Cover", "layer", "[I", true)
  | 7 => ("FewRectangles$Cover", "least", "[I", true)
  | 8 => ("FewRectangles$Cover", "rectCount", "I", false)
  | 9 => ("FewRectangles$Cover", "high", "I", false)
  | _ => ("FewRectangles$Cover", "wide", "I", false)
def mm_Y1 : Nat → FieldType := fun k => match k with
  | 0 => .array .int
  | 1 => .array .int
  | 2 => .array .int
  | 3 => .array .int
  | 4 => .array .int
  | 5 => .array .int
  | 6 => .array .int
  | 7 => .array .int
  | 8 => .int
  | 9 => .int
  | _ => .int
theorem mm_N1 : ∀ a, a < 11 → ∀ b, b < 11 → a ≠ b → (mm_F1 a).2.1 ≠ (mm_F1 b).2.1 := by decide +kernel
theorem mm_Y1_ok : ∀ k, k < 11 → parseFieldDescriptor (mm_F1 k).2.2.1 = some (mm_Y1 k) := by decide +kernel
def mm_F2 : u_T := fun k => match k with
  | 0 => ("FewRectangles$Editor", "was", "LFewRectangles$Sheet;", true)
  | _ => ("FewRectangles$Editor", "order", "[I", true)
def mm_Y2 : Nat → FieldType := fun k => match k with
  | 0 => .object "FewRectangles$Sheet"
  | _ => .array .int
theorem mm_N2 : ∀ a, a < 2 → ∀ b, b < 2 → a ≠ b → (mm_F2 a).2.1 ≠ (mm_F2 b).2.1 := by decide +kernel
theorem mm_Y2_ok : ∀ k, k < 2 → parseFieldDescriptor (mm_F2 k).2.2.1 = some (mm_Y2 k) := by decide +kernel
def mm_F3 : u_T := fun k => match k with
  | 0 => ("FewRectangles$History", "states", "[LFewRectangles$Sheet;", true)
  | 1 => ("FewRectangles$History", "draft", "LFewRectangles$Sheet;", true)
  | 2 => ("FewRectangles$History", "base", "I", false)
  | 3 => ("FewRectangles$History", "undoable", "I", false)
  | _ => ("FewRectangles$History", "redoable", "I", false)
def mm_Y3 : Nat → FieldType := fun k => match k with
  | 0 => .array (.object "FewRectangles$Sheet")
  | 1 => .object "FewRectangles$Sheet"
  | 2 => .int
  | 3 => .int
  | _ => .int
theorem mm_N3 : ∀ a, a < 5 → ∀ b, b < 5 → a ≠ b → (mm_F3 a).2.1 ≠ (mm_F3 b).2.1 := by decide +kernel
theorem mm_Y3_ok : ∀ k, k < 5 → parseFieldDescriptor (mm_F3 k).2.2.1 = some (mm_Y3 k) := by decide +kernel
def mm_F4 : u_T := fun k => match k with
  | 0 => ("FewRectangles$Probe", "stack", "[I", true)
  | 1 => ("FewRectangles$Probe", "depth", "I", false)
  | 2 => ("FewRectangles$Probe", "sum", "I", false)
  | 3 => ("FewRectangles$Probe", "most", "I", false)
  | 4 => ("FewRectangles$Probe", "least", "I", false)
  | 5 => ("FewRectangles$Probe", "row", "I", false)
  | 6 => ("FewRectangles$Probe", "column", "I", false)
  | 7 => ("FewRectangles$Probe", "like", "I", false)
  | 8 => ("FewRectangles$Probe", "greater", "I", false)
  | 9 => ("FewRectangles$Probe", "sound", "Z", false)
  | _ => ("FewRectangles$Probe", "peersCounted", "Z", false)
def mm_Y4 : Nat → FieldType := fun k => match k with
  | 0 => .array .int
  | 1 => .int
  | 2 => .int
  | 3 => .int
  | 4 => .int
  | 5 => .int
  | 6 => .int
  | 7 => .int
  | 8 => .int
  | 9 => .boolean
  | _ => .boolean
theorem mm_N4 : ∀ a, a < 11 → ∀ b, b < 11 → a ≠ b → (mm_F4 a).2.1 ≠ (mm_F4 b).2.1 := by decide +kernel
theorem mm_Y4_ok : ∀ k, k < 11 → parseFieldDescriptor (mm_F4 k).2.2.1 = some (mm_Y4 k) := by decide +kernel
def mm_F5 : u_T := fun k => match k with
  | 0 => ("FewRectangles$ProgramReader", "tape", "LFewRectangles$Tape;", true)
  | 1 => ("FewRectangles$ProgramReader", "code", "[I", true)
  | 2 => ("FewRectangles$ProgramReader", "lineCount", "I", false)
  | _ => ("FewRectangles$ProgramReader", "at", "I", false)
def mm_Y5 : Nat → FieldType := fun k => match k with
  | 0 => .object "FewRectangles$Tape"
  | 1 => .array .int
  | 2 => .int
  | _ => .int
theorem mm_N5 : ∀ a, a < 4 → ∀ b, b < 4 → a ≠ b → (mm_F5 a).2.1 ≠ (mm_F5 b).2.1 := by decide +kernel
theorem mm_Y5_ok : ∀ k, k < 4 → parseFieldDescriptor (mm_F5 k).2.2.1 = some (mm_Y5 k) := by decide +kernel
def mm_F6 : u_T := fun k => match k with
  | 0 => ("FewRectangles$Rule", "top", "I", false)
  | 1 => ("FewRectangles$Rule", "left", "I", false)
  | 2 => ("FewRectangles$Rule", "bottom", "I", false)
  | 3 => ("FewRectangles$Rule", "right", "I", false)
  | 4 => ("FewRectangles$Rule", "property", "I", false)
  | 5 => ("FewRectangles$Rule", "number", "I", false)
  | 6 => ("FewRectangles$Rule", "stops", "I", false)
  | _ => ("FewRectangles$Rule", "code", "[I", false)
def mm_Y6 : Nat → FieldType := fun k => match k with
  | 0 => .int
  | 1 => .int
  | 2 => .int
  | 3 => .int
  | 4 => .int
  | 5 => .int
  | 6 => .int
  | _ => .array .int
theorem mm_N6 : ∀ a, a < 8 → ∀ b, b < 8 → a ≠ b → (mm_F6 a).2.1 ≠ (mm_F6 b).2.1 := by decide +kernel
theorem mm_Y6_ok : ∀ k, k < 8 → parseFieldDescriptor (mm_F6 k).2.2.1 = some (mm_Y6 k) := by decide +kernel
def mm_F7 : u_T := fun k => match k with
  | 0 => ("FewRectangles$Runner", "editor", "LFewRectangles$Editor;", true)
  | 1 => ("FewRectangles$Runner", "steps", "I", false)
  | 2 => ("FewRectangles$Runner", "originRow", "I", false)
  | 3 => ("FewRectangles$Runner", "originColumn", "I", false)
  | _ => ("FewRectangles$Runner", "broken", "Z", false)
def mm_Y7 : Nat → FieldType := fun k => match k with
  | 0 => .object "FewRectangles$Editor"
  | 1 => .int
  | 2 => .int
  | 3 => .int
  | _ => .boolean
theorem mm_N7 : ∀ a, a < 5 → ∀ b, b < 5 → a ≠ b → (mm_F7 a).2.1 ≠ (mm_F7 b).2.1 := by decide +kernel
theorem mm_Y7_ok : ∀ k, k < 5 → parseFieldDescriptor (mm_F7 k).2.2.1 = some (mm_Y7 k) := by decide +kernel
def mm_F8 : u_T := fun k => match k with
  | 0 => ("FewRectangles$Sheet", "high", "I", false)
  | 1 => ("FewRectangles$Sheet", "wide", "I", false)
  | 2 => ("FewRectangles$Sheet", "ruleCount", "I", false)
  | 3 => ("FewRectangles$Sheet", "values", "[I", true)
  | 4 => ("FewRectangles$Sheet", "cellFormats", "[I", true)
  | 5 => ("FewRectangles$Sheet", "lineFormats", "[I", true)
  | 6 => ("FewRectangles$Sheet", "grounds", "[I", true)
  | 7 => ("FewRectangles$Sheet", "rules", "[LFewRectangles$Rule;", true)
  | _ => ("FewRectangles$Sheet", "noRule", "LFewRectangles$Rule;", true)
def mm_Y8 : Nat → FieldType := fun k => match k with
  | 0 => .int
  | 1 => .int
  | 2 => .int
  | 3 => .array .int
  | 4 => .array .int
  | 5 => .array .int
  | 6 => .array .int
  | 7 => .array (.object "FewRectangles$Rule")
  | _ => .object "FewRectangles$Rule"
theorem mm_N8 : ∀ a, a < 9 → ∀ b, b < 9 → a ≠ b → (mm_F8 a).2.1 ≠ (mm_F8 b).2.1 := by decide +kernel
theorem mm_Y8_ok : ∀ k, k < 9 → parseFieldDescriptor (mm_F8 k).2.2.1 = some (mm_Y8 k) := by decide +kernel
def mm_F9 : u_T := fun k => match k with
  | 0 => ("FewRectangles$Tape", "bytes", "[I", true)
  | 1 => ("FewRectangles$Tape", "size", "I", false)
  | 2 => ("FewRectangles$Tape", "kind", "I", false)
  | 3 => ("FewRectangles$Tape", "fault", "I", false)
  | 4 => ("FewRectangles$Tape", "start", "I", false)
  | _ => ("FewRectangles$Tape", "end", "I", false)
def mm_Y9 : Nat → FieldType := fun k => match k with
  | 0 => .array .int
  | 1 => .int
  | 2 => .int
  | 3 => .int
  | 4 => .int
  | _ => .int
theorem mm_N9 : ∀ a, a < 6 → ∀ b, b < 6 → a ≠ b → (mm_F9 a).2.1 ≠ (mm_F9 b).2.1 := by decide +kernel
theorem mm_Y9_ok : ∀ k, k < 6 → parseFieldDescriptor (mm_F9 k).2.2.1 = some (mm_Y9 k) := by decide +kernel
def mm_F10 : u_T := fun k => match k with
  | 0 => ("FewRectangles$View", "masks", "[I", true)
  | 1 => ("FewRectangles$View", "sources", "[I", true)
  | 2 => ("FewRectangles$View", "numbers", "[I", true)
  | 3 => ("FewRectangles$View", "cellLooks", "[I", true)
  | 4 => ("FewRectangles$View", "met", "[I", true)
  | 5 => ("FewRectangles$View", "runs", "[I", true)
  | 6 => ("FewRectangles$View", "high", "I", false)
  | 7 => ("FewRectangles$View", "wide", "I", false)
  | 8 => ("FewRectangles$View", "greatestCells", "I", false)
  | _ => ("FewRectangles$View", "greatestRect", "I", false)
def mm_Y10 : Nat → FieldType := fun k => match k with
  | 0 => .array .int
  | 1 => .array .int
  | 2 => .array .int
  | 3 => .array .int
  | 4 => .array .int
  | 5 => .array .int
  | 6 => .int
  | 7 => .int
  | 8 => .int
  | _ => .int
theorem mm_N10 : ∀ a, a < 10 → ∀ b, b < 10 → a ≠ b → (mm_F10 a).2.1 ≠ (mm_F10 b).2.1 := by decide +kernel
theorem mm_Y10_ok : ∀ k, k < 10 → parseFieldDescriptor (mm_F10 k).2.2.1 = some (mm_Y10 k) := by decide +kernel
def mm_F11 : u_T := fun k => match k with
  | 0 => ("FewRectangles", "history", "LFewRectangles$History;", true)
  | 1 => ("FewRectangles", "editor", "LFewRectangles$Editor;", true)
  | 2 => ("FewRectangles", "runner", "LFewRectangles$Runner;", true)
  | 3 => ("FewRectangles", "probe", "LFewRectangles$Probe;", true)
  | 4 => ("FewRectangles", "view", "LFewRectangles$View;", true)
  | 5 => ("FewRectangles", "thoughtView", "LFewRectangles$View;", true)
  | 6 => ("FewRectangles", "cover", "LFewRectangles$Cover;", true)
  | 7 => ("FewRectangles", "tape", "LFewRectangles$Tape;", true)
  | 8 => ("FewRectangles", "conditionReader", "LFewRectangles$ConditionReader;", true)
  | 9 => ("FewRectangles", "programReader", "LFewRectangles$ProgramReader;", true)
  | 10 => ("FewRectangles", "programs", "[[I", true)
  | 11 => ("FewRectangles", "shelfShorts", "[S", true)
  | 12 => ("FewRectangles", "shelfSizes", "[I", true)
  | 13 => ("FewRectangles", "imageSheet", "LFewRectangles$Sheet;", true)
  | 14 => ("FewRectangles", "imageKept", "Z", false)
  | 15 => ("FewRectangles", "viewStale", "Z", false)
  | _ => ("FewRectangles", "programCount", "I", false)
def mm_Y11 : Nat → FieldType := fun k => match k with
  | 0 => .object "FewRectangles$History"
  | 1 => .object "FewRectangles$Editor"
  | 2 => .object "FewRectangles$Runner"
  | 3 => .object "FewRectangles$Probe"
  | 4 => .object "FewRectangles$View"
  | 5 => .object "FewRectangles$View"
  | 6 => .object "FewRectangles$Cover"
  | 7 => .object "FewRectangles$Tape"
  | 8 => .object "FewRectangles$ConditionReader"
  | 9 => .object "FewRectangles$ProgramReader"
  | 10 => .array (.array .int)
  | 11 => .array .short
  | 12 => .array .int
  | 13 => .object "FewRectangles$Sheet"
  | 14 => .boolean
  | 15 => .boolean
  | _ => .int
theorem mm_N11 : ∀ a, a < 17 → ∀ b, b < 17 → a ≠ b → (mm_F11 a).2.1 ≠ (mm_F11 b).2.1 := by decide +kernel
theorem mm_Y11_ok : ∀ k, k < 17 → parseFieldDescriptor (mm_F11 k).2.2.1 = some (mm_Y11 k) := by decide +kernel
def mm_F12 : u_T := fun k => match k with
  | 0 => ("FewRectanglesModel", "s", "[I", true)
  | 1 => ("FewRectanglesModel", "kept", "[I", true)
  | 2 => ("FewRectanglesModel", "done", "I", false)
  | 3 => ("FewRectanglesModel", "keptMany", "I", false)
  | 4 => ("FewRectanglesModel", "isFresh", "Z", false)
  | 5 => ("FewRectanglesModel", "image", "[I", true)
  | 6 => ("FewRectanglesModel", "isImage", "Z", false)
  | 7 => ("FewRectanglesModel", "spare", "[I", true)
  | 8 => ("FewRectanglesModel", "top", "I", false)
  | 9 => ("FewRectanglesModel", "left", "I", false)
  | 10 => ("FewRectanglesModel", "bottom", "I", false)
  | 11 => ("FewRectanglesModel", "right", "I", false)
  | 12 => ("FewRectanglesModel", "order", "[I", true)
  | 13 => ("FewRectanglesModel", "copied", "[I", true)
  | 14 => ("FewRectanglesModel", "tape", "[I", true)
  | 15 => ("FewRectanglesModel", "length", "I", false)
  | 16 => ("FewRectanglesModel", "begins", "I", false)
  | 17 => ("FewRectanglesModel", "ends", "I", false)
  | 18 => ("FewRectanglesModel", "sort", "I", false)
  | 19 => ("FewRectanglesModel", "fault", "I", false)
  | 20 => ("FewRectanglesModel", "opened", "I", false)
  | 21 => ("FewRectanglesModel", "code", "[I", true)
  | 22 => ("FewRectanglesModel", "size", "I", false)
  | 23 => ("FewRectanglesModel", "spelled", "J", false)
  | 24 => ("FewRectanglesModel", "names", "[J", true)
  | 25 => ("FewRectanglesModel", "brought", "[I", true)
  | 26 => ("FewRectanglesModel", "holds", "[Z", true)
  | 27 => ("FewRectanglesModel", "stack", "[J", true)
  | 28 => ("FewRectanglesModel", "sumOf", "I", false)
  | 29 => ("FewRectanglesModel", "mostOf", "I", false)
  | 30 => ("FewRectanglesModel", "leastOf", "I", false)
  | 31 => ("FewRectanglesModel", "cover", "[I", true)
  | 32 => ("FewRectanglesModel", "covers", "I", false)
  | 33 => ("FewRectanglesModel", "drawnLast", "I", false)
  | 34 => ("FewRectanglesModel", "sums", "[I", true)
  | 35 => ("FewRectanglesModel", "seen", "[Z", true)
  | 36 => ("FewRectanglesModel", "strip", "[I", true)
  | 37 => ("FewRectanglesModel", "least", "[I", true)
  | 38 => ("FewRectanglesModel", "looked", "[I", true)
  | 39 => ("FewRectanglesModel", "elements", "[S", true)
  | 40 => ("FewRectanglesModel", "sizes", "[I", true)
  | 41 => ("FewRectanglesModel", "programs", "[I", true)
  | 42 => ("FewRectanglesModel", "programSize", "[I", true)
  | 43 => ("FewRectanglesModel", "programMany", "I", false)
  | 44 => ("FewRectanglesModel", "placeRow", "I", false)
  | 45 => ("FewRectanglesModel", "placeColumn", "I", false)
  | 46 => ("FewRectanglesModel", "steps", "I", false)
  | 47 => ("FewRectanglesModel", "isBroken", "Z", false)
  | 48 => ("FewRectanglesModel", "down", "I", false)
  | 49 => ("FewRectanglesModel", "along", "I", false)
  | _ => ("FewRectanglesModel", "running", "I", false)
def mm_Y12 : Nat → FieldType := fun k => match k with
  | 0 => .array .int
  | 1 => .array .int
  | 2 => .int
  | 3 => .int
  | 4 => .boolean
  | 5 => .array .int
  | 6 => .boolean
  | 7 => .array .int
  | 8 => .int
  | 9 => .int
  | 10 => .int
  | 11 => .int
  | 12 => .array .int
  | 13 => .array .int
  | 14 => .array .int
  | 15 => .int
  | 16 => .int
  | 17 => .int
  | 18 => .int
  | 19 => .int
  | 20 => .int
  | 21 => .array .int
  | 22 => .int
  | 23 => .long
  | 24 => .array .long
  | 25 => .array .int
  | 26 => .array .boolean
  | 27 => .array .long
  | 28 => .int
  | 29 => .int
  | 30 => .int
  | 31 => .array .int
  | 32 => .int
  | 33 => .int
  | 34 => .array .int
  | 35 => .array .boolean
  | 36 => .array .int
  | 37 => .array .int
  | 38 => .array .int
  | 39 => .array .short
  | 40 => .array .int
  | 41 => .array .int
  | 42 => .array .int
  | 43 => .int
  | 44 => .int
  | 45 => .int
  | 46 => .int
  | 47 => .boolean
  | 48 => .int
  | 49 => .int
  | _ => .int
theorem mm_N12 : ∀ a, a < 51 → ∀ b, b < 51 → a ≠ b → (mm_F12 a).2.1 ≠ (mm_F12 b).2.1 := by decide +kernel
theorem mm_Y12_ok : ∀ k, k < 51 → parseFieldDescriptor (mm_F12 k).2.2.1 = some (mm_Y12 k) := by decide +kernel
abbrev mm_cls : List vw_C := [("FewRectangles$ConditionReader", mm_F0, 3), ("FewRectangles$Cover", mm_F1, 11), ("FewRectangles$Editor", mm_F2, 2), ("FewRectangles$History", mm_F3, 5), ("FewRectangles$Probe", mm_F4, 11), ("FewRectangles$ProgramReader", mm_F5, 4), ("FewRectangles$Rule", mm_F6, 8), ("FewRectangles$Runner", mm_F7, 5), ("FewRectangles$Sheet", mm_F8, 9), ("FewRectangles$Tape", mm_F9, 6), ("FewRectangles$View", mm_F10, 10), ("FewRectangles", mm_F11, 17), ("FewRectanglesModel", mm_F12, 51)]
def mm_ftl : List (List Nat) := [[2, 2, 0], [2, 2, 2, 2, 2, 2, 2, 2, 0, 0, 0], [2, 2], [2, 2, 0, 0, 0], [2, 0, 0, 0, 0, 0, 0, 0, 0, 0, 0], [2, 2, 0, 0], [0, 0, 0, 0, 0, 0, 0, 2], [2, 0, 0, 0, 0], [0, 0, 0, 2, 2, 2, 2, 2, 2], [2, 0, 0, 0, 0, 0], [2, 2, 2, 2, 2, 2, 0, 0, 0, 0], [2, 2, 2, 2, 2, 2, 2, 2, 2, 2, 2, 2, 2, 2, 0, 0, 0], [2, 2, 0, 0, 0, 2, 0, 2, 0, 0, 0, 0, 2, 2, 2, 0, 0, 0, 0, 0, 0, 2, 0, 1, 2, 2, 2, 2, 0, 0, 0, 2, 0, 0, 2, 2, 2, 2, 2, 2, 2, 2, 2, 0, 0, 0, 0, 0, 0, 0, 0]]
theorem mm_I0 : ∀ w ∈ u_ws "FewRectangles$ConditionReader" mm_F0 3, w ∈ lw_g := mm_in_g [365, 367, 369] (by decide +kernel) (by decide +kernel)
theorem mm_I1 : ∀ w ∈ u_ws "FewRectangles$Cover" mm_F1 11, w ∈ lw_g := mm_in_g [302, 304, 306, 308, 310, 312, 314, 316, 318, 320, 322] (by decide +kernel) (by decide +kernel)
theorem mm_I2 : ∀ w ∈ u_ws "FewRectangles$Editor" mm_F2 2, w ∈ lw_g := mm_in_g [173, 175] (by decide +kernel) (by decide +kernel)
theorem mm_I3 : ∀ w ∈ u_ws "FewRectangles$History" mm_F3 5, w ∈ lw_g := mm_in_g [152, 154, 156, 158, 160] (by decide +kernel) (by decide +kernel)
theorem mm_I4 : ∀ w ∈ u_ws "FewRectangles$Probe" mm_F4 11, w ∈ lw_g := mm_in_g [217, 219, 221, 223, 225, 227, 229, 231, 233, 235, 237] (by decide +kernel) (by decide +kernel)
theorem mm_I5 : ∀ w ∈ u_ws "FewRectangles$ProgramReader" mm_F5 4, w ∈ lw_g := mm_in_g [382, 384, 386, 388] (by decide +kernel) (by decide +kernel)
theorem mm_I6 : ∀ w ∈ u_ws "FewRectangles$Rule" mm_F6 8, w ∈ lw_g := mm_in_g [82, 84, 86, 88, 90, 92, 94, 96] (by decide +kernel) (by decide +kernel)
theorem mm_I7 : ∀ w ∈ u_ws "FewRectangles$Runner" mm_F7 5, w ∈ lw_g := mm_in_g [189, 191, 193, 195, 197] (by decide +kernel) (by decide +kernel)
theorem mm_I8 : ∀ w ∈ u_ws "FewRectangles$Sheet" mm_F8 9, w ∈ lw_g := mm_in_g [126, 128, 130, 132, 134, 136, 138, 140, 142] (by decide +kernel) (by decide +kernel)
theorem mm_I9 : ∀ w ∈ u_ws "FewRectangles$Tape" mm_F9 6, w ∈ lw_g := mm_in_g [343, 345, 347, 349, 351, 353] (by decide +kernel) (by decide +kernel)
theorem mm_I10 : ∀ w ∈ u_ws "FewRectangles$View" mm_F10 10, w ∈ lw_g := mm_in_g [258, 260, 262, 264, 266, 268, 270, 272, 274, 276] (by decide +kernel) (by decide +kernel)
theorem mm_I11 : ∀ w ∈ u_ws "FewRectangles" mm_F11 17, w ∈ lw_g := mm_in_g [413, 415, 417, 419, 421, 423, 425, 427, 429, 431, 433, 435, 437, 439, 441, 443, 445] (by decide +kernel) (by decide +kernel)
theorem mm_I12 : ∀ w ∈ u_ws "FewRectanglesModel" mm_F12 51, w ∈ lw_g := mm_in_g [1542, 1544, 1546, 1548, 1550, 1552, 1554, 1556, 1558, 1560, 1562, 1564, 1566, 1568, 1570, 1572, 1574, 1576, 1578, 1580, 1582, 1584, 1586, 1588, 1590, 1592, 1594, 1596, 1598, 1600, 1602, 1604, 1606, 1608, 1610, 1612, 1614, 1616, 1618, 1620, 1622, 1624, 1626, 1628, 1630, 1632, 1634, 1636, 1638, 1640, 1642] (by decide +kernel) (by decide +kernel)
end
section
def mm_nf (k : Nat) : Nat := (mm_nth [] (k - 1) mm_ftl).length
def mm_ft (k i : Nat) : Nat := mm_nth 9 i (mm_nth [] (k - 1) mm_ftl)
def mm_i32 (z : Int) : Prop := -2147483648 ≤ z ∧ z < 2147483648
def mm_i64 (z : Int) : Prop := -9223372036854775808 ≤ z ∧ z < 9223372036854775808
/-- the array classes by kind: 50 int, 51 short, 52 boolean, 53 long, 107 rules, 109 sheets, 150 rows of ints -/
def mm_ki (k : Nat) : Nat := match k with
  | 50 => 0
  | 51 => 1
  | 52 => 2
  | 53 => 3
  | 107 => 4
  | 109 => 5
  | _ => 6
def mm_tyk (k : Nat) : FieldType := match k with
  | 50 => .int
  | 51 => .short
  | 52 => .boolean
  | 53 => .long
  | 107 => .object "FewRectangles$Rule"
  | 109 => .object "FewRectangles$Sheet"
  | _ => .array .int
/-- where a reference lies: ahead of the world's start, null, or the world's cell -/
def mm_adr (old : Int → Nat) (ρ : List Nat) (z : Int) : Option Nat := if z < 0 then some (old z) else if z = 0 then none else ρ[z.toNat - 1]?
def mm_val (old : Int → Nat) (ρ : List Nat) (t : Nat) (z : Int) : Value := match t with
  | 0 => .int (Int32.ofInt z)
  | 1 => .long (Int64.ofInt z)
  | _ => va_rf (mm_adr old ρ z)
def mm_cA (tys : List (ClassId × FieldType)) (k : Nat) : ClassId := (tys.getD (mm_ki k) (0, .int)).1
def mm_ent (old : Int → Nat) (tys : List (ClassId × FieldType)) (ρ : List Nat) (w : mm_W) (h : mm_H) (a : Int) : va_E :=
  if (w.1 a).1 < 50 then .inr ((w.1 a).1 - 1, (List.range (mm_nf (w.1 a).1)).map (fun i => mm_val old ρ (mm_ft (w.1 a).1 i) (h a i)))
  else if (w.1 a).1 < 53 then .inl (mm_cA tys (w.1 a).1, (w.1 a).2.toNat, .inl (fun j => Int32.ofInt (h a j)))
  else if (w.1 a).1 = 53 then .inl (mm_cA tys (w.1 a).1, (w.1 a).2.toNat, .inr (.inl (fun j => Int64.ofInt (h a j))))
  else .inl (mm_cA tys (w.1 a).1, (w.1 a).2.toNat, .inr (.inr (.inr (.inr (fun j => mm_adr old ρ (h a j))))))
def mm_ws (old : Int → Nat) (tys : List (ClassId × FieldType)) (ρ : List Nat) (w : mm_W) (h : mm_H) : va_W := (List.range ρ.length).map (fun i => (ρ.getD i 0, mm_ent old tys ρ w h ((i : Int) + 1)))
theorem mm_ws_len {old : Int → Nat} {tys : List (ClassId × FieldType)} {ρ : List Nat} {w : mm_W} {h : mm_H} : (mm_ws old tys ρ w h).length = ρ.length := by simp [mm_ws]
theorem mm_ws_get {old : Int → Nat} {tys : List (ClassId × FieldType)} {ρ : List Nat} {w : mm_W} {h : mm_H} {i : Nat} (hi : i < ρ.length) : (mm_ws old tys ρ w h)[i]? = some (ρ.getD i 0, mm_ent old tys ρ w h ((i : Int) + 1)) := by
  simp [mm_ws, hi]
theorem mm_ws_set {old : Int → Nat} {tys : List (ClassId × FieldType)} {ρ : List Nat} {w : mm_W} {h h2 : mm_H} {i : Nat} (hh : ∀ b j, b ≠ (i : Int) + 1 → h2 b j = h b j) : (mm_ws old tys ρ w h).set i (ρ.getD i 0, mm_ent old tys ρ w h2 ((i : Int) + 1)) = mm_ws old tys ρ w h2 := by
  apply List.ext_getElem?
  intro k
  by_cases hk : k < ρ.length
  · rw [mm_ws_get hk]
    by_cases e : k = i
    · subst e
      rw [List.getElem?_set_self (by rw [mm_ws_len]; exact hk)]
    · rw [List.getElem?_set_ne (Ne.symm e), mm_ws_get hk]
      have hne : (k : Int) + 1 ≠ (i : Int) + 1 := by omega
      have e2 : h2 ((k : Int) + 1) = h ((k : Int) + 1) := funext fun j => hh _ j hne
      unfold mm_ent
      rw [e2]
  · rw [List.getElem?_eq_none (by rw [List.length_set, mm_ws_len]; omega), List.getElem?_eq_none (by rw [mm_ws_len]; omega)]
/-- a reference's bounds in a cell -/
def mm_good (n : Nat) (w : mm_W) (h : mm_H) (a : Int) : Prop :=
  (1 ≤ (w.1 a).1 ∧ (w.1 a).1 ≤ 13 ∧ ∀ i : Nat, i < mm_nf (w.1 a).1 → match mm_ft (w.1 a).1 i with
    | 0 => mm_i32 (h a i)
    | 1 => mm_i64 (h a i)
    | _ => 0 ≤ h a i ∧ h a i ≤ n) ∨
  (((w.1 a).1 = 50 ∨ (w.1 a).1 = 51 ∨ (w.1 a).1 = 52) ∧ 0 ≤ (w.1 a).2 ∧ (w.1 a).2 ≤ 1000000 ∧ ∀ j : Int, mm_i32 (h a j)) ∨
  ((w.1 a).1 = 53 ∧ 0 ≤ (w.1 a).2 ∧ (w.1 a).2 ≤ 1000000 ∧ ∀ j : Int, mm_i64 (h a j)) ∨
  (((w.1 a).1 = 107 ∨ (w.1 a).1 = 109 ∨ (w.1 a).1 = 150) ∧ 0 ≤ (w.1 a).2 ∧ (w.1 a).2 ≤ 1000000 ∧ ∀ j : Int, 0 ≤ h a j ∧ h a j ≤ n)
theorem mm_good_up {n n2 : Nat} (hn : n ≤ n2) {w w2 : mm_W} {h h2 : mm_H} {a : Int} (hw : w2.1 a = w.1 a) (hh : ∀ j, h2 a j = h a j) (hg : mm_good n w h a) : mm_good n2 w2 h2 a := by
  have e2 : h2 a = h a := funext hh
  unfold mm_good at hg ⊢
  rw [hw, e2]
  rcases hg with ⟨h1, h2, h3⟩ | h1 | h1 | ⟨h1, h2, h3, h4⟩
  · refine Or.inl ⟨h1, h2, fun i hi => ?_⟩
    have h4 := h3 i hi
    split at h4 <;> simp_all <;> omega
  · exact Or.inr (Or.inl h1)
  · exact Or.inr (Or.inr (Or.inl h1))
  · exact Or.inr (Or.inr (Or.inr ⟨h1, h2, h3, fun j => ⟨(h4 j).1, by have := (h4 j).2; omega⟩⟩))
theorem mm_adr_app {old : Int → Nat} {ρ ρ2 : List Nat} {z : Int} (h : z ≤ ρ.length) : mm_adr old (ρ ++ ρ2) z = mm_adr old ρ z := by
  unfold mm_adr
  split
  · rfl
  · split
    · rfl
    · rw [List.getElem?_append_left (by omega)]
theorem mm_ent_app {old : Int → Nat} {tys : List (ClassId × FieldType)} {ρ ρ2 : List Nat} {w w2 : mm_W} {h h2 : mm_H} {a : Int} (hg : mm_good ρ.length w h a) (hw : w2.1 a = w.1 a) (hh : ∀ j, h2 a j = h a j) : mm_ent old tys (ρ ++ ρ2) w2 h2 a = mm_ent old tys ρ w h a := by
  have e2 : h2 a = h a := funext hh
  unfold mm_ent
  rw [hw, e2]
  rcases hg with ⟨h1, h2, h3⟩ | ⟨h1, -⟩ | ⟨h1, -⟩ | ⟨h1, h2, h3, h4⟩
  · rw [if_pos (by omega), if_pos (by omega)]
    congr 2
    apply List.map_congr_left
    intro i hi
    have h4 := h3 i (List.mem_range.mp hi)
    unfold mm_val
    split at h4
    · rfl
    · rfl
    · rw [mm_adr_app h4.2]
  · rcases h1 with h1 | h1 | h1 <;> rw [h1] <;> rfl
  · rw [h1]; rfl
  · have : (fun j : Nat => mm_adr old (ρ ++ ρ2) (h a j)) = fun j : Nat => mm_adr old ρ (h a j) := funext fun j => mm_adr_app (h4 j).2
    have k1 : ¬ (w.1 a).1 < 50 := by omega
    have k2 : ¬ (w.1 a).1 < 53 := by omega
    have k3 : ¬ (w.1 a).1 = 53 := by omega
    rw [if_neg k1, if_neg k2, if_neg k3, if_neg k1, if_neg k2, if_neg k3, this]
theorem mm_ws_push {old : Int → Nat} {tys : List (ClassId × FieldType)} {ρ : List Nat} {w : mm_W} {h : mm_H} (q k : Nat) (n : Int) (hx : w.2.1 = (ρ.length : Int) + 1) (hg : ∀ a : Int, 1 ≤ a → a ≤ ρ.length → mm_good ρ.length w h a) : mm_ws old tys (ρ ++ [q]) (mNew w k n) (mZero h w.2.1) = mm_ws old tys ρ w h ++ [(q, mm_ent old tys (ρ ++ [q]) (mNew w k n) (mZero h w.2.1) w.2.1)] := by
  unfold mm_ws
  rw [List.length_append, List.length_singleton, List.range_succ, List.map_append, List.map_singleton]
  congr 1
  · apply List.map_congr_left
    intro i hi
    have hi := List.mem_range.mp hi
    have hne : (i : Int) + 1 ≠ w.2.1 := by omega
    rw [mm_ent_app (hg _ (by omega) (by omega)) (by simp [mNew, hne]) (fun j => by simp [mZero, hne])]
    simp [List.getD, List.getElem?_append_left hi]
  · rw [hx]
    simp [List.getD]
end
section
/-! What a frame of the machine is, when the mini machine stands at a place. -/
theorem mI_lo (z : Int) : -2147483648 ≤ mI z := by
  have := Int.le_bmod (x := z) (m := 4294967296) (by decide)
  unfold mI; omega
theorem mI_hi (z : Int) : mI z < 2147483648 := by
  have := Int.bmod_lt (x := z) (m := 4294967296) (by decide)
  unfold mI; omega
theorem mI_r (z : Int) : mm_i32 (mI z) := ⟨mI_lo z, mI_hi z⟩
theorem mI_of {z : Int} (h1 : -2147483648 ≤ z) (h2 : z < 2147483648) : mI z = z := by
  unfold mI
  rw [Int.bmod_eq_iff (by decide)]
  omega
theorem mJ_r (z : Int) : mm_i64 (mJ z) := by
  have h1 := Int.le_bmod (x := z) (m := 18446744073709551616) (by decide)
  have h2 := Int.bmod_lt (x := z) (m := 18446744073709551616) (by decide)
  unfold mJ mm_i64; omega
theorem mI_I (z : Int) : Int32.ofInt (mI z) = Int32.ofInt z := by
  rw [Int32.ofInt_eq_iff_bmod_eq_toInt, Int32.toInt_ofInt]
  exact Int.bmod_bmod
theorem mJ_J (z : Int) : Int64.ofInt (mJ z) = Int64.ofInt z := by
  rw [Int64.ofInt_eq_iff_bmod_eq_toInt, Int64.toInt_ofInt]
  exact Int.bmod_bmod
theorem i32_t (x : Int32) : mm_i32 x.toInt := ⟨by have := Int32.le_toInt x; omega, by have := Int32.toInt_lt x; omega⟩
theorem i32_o {z : Int} (h : mm_i32 z) : (Int32.ofInt z).toInt = z := Int32.toInt_ofInt_of_le h.1 h.2
theorem i64_o {z : Int} (h : mm_i64 z) : (Int64.ofInt z).toInt = z := Int64.toInt_ofInt_of_le h.1 h.2
theorem i32_lt {x y : Int} (hx : mm_i32 x) (hy : mm_i32 y) : Int32.ofInt x < Int32.ofInt y ↔ x < y := by
  rw [Int32.lt_iff_toInt_lt, i32_o hx, i32_o hy]
theorem i32_le {x y : Int} (hx : mm_i32 x) (hy : mm_i32 y) : Int32.ofInt x ≤ Int32.ofInt y ↔ x ≤ y := by
  rw [Int32.le_iff_toInt_le, i32_o hx, i32_o hy]
theorem i32_eq {x y : Int} (hx : mm_i32 x) (hy : mm_i32 y) : Int32.ofInt x = Int32.ofInt y ↔ x = y := by
  rw [← Int32.toInt_inj, i32_o hx, i32_o hy]
theorem i32_0 : Int32.ofInt 0 = 0 := rfl
theorem i32_z : mm_i32 0 := by unfold mm_i32; omega
theorem i32_cl {x : Int} (h0 : 0 ≤ x) (hx : mm_i32 x) : (Int32.ofInt x).toNatClampNeg = x.toNat := by
  show (Int32.ofInt x).toInt.toNat = _
  rw [i32_o hx]
theorem i32_in {j n : Int} (h0 : 0 ≤ j) (h1 : j < n) (hj : mm_i32 j) : vp_in (Int32.ofInt j) n.toNat := by
  intro q
  rcases q with q | q
  · have := (i32_lt hj i32_z).mp q
    omega
  · rw [i32_cl h0 hj] at q
    omega
theorem i32_div {x y : Int} (hx : mm_i32 x) (hy : mm_i32 y) : Int32.ofInt x / Int32.ofInt y = Int32.ofInt (mI (Int.tdiv x y)) := by
  rw [← Int32.toInt_inj, Int32.toInt_div, i32_o hx, i32_o hy, i32_o (mI_r _)]
  rfl
theorem i32_rem {x y : Int} (hx : mm_i32 x) (hy : mm_i32 y) : Int32.ofInt x - Int32.ofInt x / Int32.ofInt y * Int32.ofInt y = Int32.ofInt (Int.tmod x y) := by
  rw [i32_div hx hy, mI_I, ← Int32.ofInt_mul, ← Int32.ofInt_sub]
  congr 1
  rw [Int.tmod_def, Int.mul_comm]
theorem i32_tmod {x y : Int} (hx : mm_i32 x) (hy : ¬ y = 0) (hy2 : mm_i32 y) : mm_i32 (Int.tmod x y) := by
  have h := Int32.toInt_mod (Int32.ofInt x) (Int32.ofInt y)
  rw [i32_o hx, i32_o hy2] at h
  rw [← h]
  exact i32_t _
theorem i64_cmp {x y : Int} (hx : mm_i64 x) (hy : mm_i64 y) : lg_cmp (Int64.ofInt x) (Int64.ofInt y) = Int32.ofInt (mCmp x y) := by
  unfold lg_cmp mCmp
  simp only [gt_iff_lt, Int64.lt_iff_toInt_lt, ← Int64.toInt_inj, i64_o hx, i64_o hy]
  by_cases h1 : x < y
  · rw [if_neg (by omega), if_neg (by omega), if_pos h1]; rfl
  · by_cases h2 : x = y
    · rw [if_neg (by omega), if_pos h2, if_neg h1, if_pos h2]; rfl
    · rw [if_pos (by omega), if_neg h1, if_neg h2]; rfl
theorem mCmp_r (x y : Int) : mm_i32 (mCmp x y) := by
  unfold mCmp mm_i32
  split
  · omega
  · split <;> omega
def mm_VR (old : Int → Nat) (ρ : List Nat) (v : mm_V) (x : Value) : Prop := match v.1 with
  | 0 => mm_i32 v.2 ∧ x = .int (Int32.ofInt v.2)
  | 1 => mm_i64 v.2 ∧ x = .long (Int64.ofInt v.2)
  | 2 => v.2 ≤ ρ.length ∧ x = va_rf (mm_adr old ρ v.2)
  | 3 => ∃ r : Option Nat, x = va_rf r
  | _ => False
def mm_SR (old : Int → Nat) (ρ : List Nat) : List mm_V → List Value → Prop
  | [], [] => True
  | v :: st, x :: sv => mm_VR old ρ v x ∧ mm_SR old ρ st sv
  | _, _ => False
def mm_LR (old : Int → Nat) (ρ : List Nat) (nL : Nat) (L : List mm_V) (ls : Array Slot) : Prop := ls.size = nL ∧ lv_wf ls ∧ ∀ (i : Nat) (v : mm_V), L[i]? = some v → v.1 ≤ 3 → ∃ x, ls[i]? = some (.val x) ∧ mm_VR old ρ v x
theorem mm_SR_cons {old : Int → Nat} {ρ : List Nat} {v : mm_V} {st : List mm_V} {sv : List Value} (h : mm_SR old ρ (v :: st) sv) : ∃ x sv', sv = x :: sv' ∧ mm_VR old ρ v x ∧ mm_SR old ρ st sv' := by
  cases sv with
  | nil => exact h.elim
  | cons x sv' => exact ⟨x, sv', rfl, h.1, h.2⟩
theorem mm_SR_nil {old : Int → Nat} {ρ : List Nat} {sv : List Value} (h : mm_SR old ρ [] sv) : sv = [] := by
  cases sv with
  | nil => rfl
  | cons _ _ => exact h.elim
theorem mm_VR_cat {old : Int → Nat} {ρ : List Nat} {v : mm_V} {x : Value} (h : mm_VR old ρ v x) : x.category = 2 ↔ v.1 = 1 := by
  unfold mm_VR at h
  split at h
  · next e => rw [h.2, e]; simp [Value.category]
  · next e => rw [h.2, e]; simp [Value.category]
  · next e => rw [h.2, e]; cases mm_adr old ρ v.2 <;> simp [va_rf, Value.category]
  · next e => obtain ⟨r, rfl⟩ := h; rw [e]; cases r <;> simp [va_rf, Value.category]
  · exact h.elim
theorem mm_VR_app {old : Int → Nat} {ρ : List Nat} (ρ2 : List Nat) {v : mm_V} {x : Value} (h : mm_VR old ρ v x) : mm_VR old (ρ ++ ρ2) v x := by
  unfold mm_VR at h ⊢
  split at h
  · next e => exact h
  · next e => exact h
  · next e => exact ⟨by rw [List.length_append]; omega, by rw [mm_adr_app h.1]; exact h.2⟩
  · next e => exact h
  · exact h.elim
theorem mm_SR_app {old : Int → Nat} {ρ : List Nat} (ρ2 : List Nat) : ∀ {st : List mm_V} {sv : List Value}, mm_SR old ρ st sv → mm_SR old (ρ ++ ρ2) st sv
  | [], [], _ => trivial
  | [], _ :: _, h => h
  | _ :: _, [], h => h
  | _ :: _, _ :: _, h => ⟨mm_VR_app ρ2 h.1, mm_SR_app ρ2 h.2⟩
theorem mm_LR_app {old : Int → Nat} {ρ : List Nat} (ρ2 : List Nat) {nL : Nat} {L : List mm_V} {ls : Array Slot} (h : mm_LR old ρ nL L ls) : mm_LR old (ρ ++ ρ2) nL L ls :=
  ⟨h.1, h.2.1, fun i v hi hv => by obtain ⟨x, h1, h2⟩ := h.2.2 i v hi hv; exact ⟨x, h1, mm_VR_app ρ2 h2⟩⟩
theorem mm_get_eq : ∀ (n : Nat) (L : List mm_V), mm_get n L = (L[n]?).getD (9, 0)
  | 0, [] => rfl
  | _ + 1, [] => rfl
  | 0, _ :: _ => rfl
  | n + 1, _ :: L => by rw [mm_get, mm_get_eq n L, List.getElem?_cons_succ]
theorem mm_get_at {n : Nat} {L : List mm_V} {v : mm_V} (h : mm_get n L = v) (hv : v.1 ≤ 3) : L[n]? = some v := by
  rw [mm_get_eq] at h
  cases hn : L[n]? with
  | some x => rw [hn] at h; exact congrArg some h
  | none => rw [hn] at h; subst h; exact absurd hv (by decide)
theorem mm_put_at : ∀ (n : Nat) (v : mm_V) (L : List mm_V) (i : Nat), (mm_put n v L)[i]? = if i = n ∧ n < L.length then some v else L[i]?
  | _, _, [], i => by simp [mm_put]
  | 0, v, x :: L, 0 => by simp [mm_put]
  | 0, v, x :: L, i + 1 => by simp [mm_put]
  | n + 1, v, x :: L, 0 => by simp [mm_put]
  | n + 1, v, x :: L, i + 1 => by
    rw [mm_put, List.getElem?_cons_succ, mm_put_at n v L i]
    simp
theorem mm_set_at : ∀ (n : Nat) (v : mm_V) (L : List mm_V) (i : Nat) (x : mm_V), (mm_set n v L)[i]? = some x → (i = n ∧ x = v) ∨ (i ≠ n ∧ (x = (9, 0) ∨ (L[i]? = some x ∧ (i + 1 = n → x.1 ≠ 1))))
  | _, _, [], i, x, h => by simp [mm_set] at h
  | 0, v, y :: L, 0, x, h => by simp [mm_set] at h; exact Or.inl ⟨rfl, h.symm⟩
  | 0, v, y :: L, i + 1, x, h => by simp [mm_set] at h; exact Or.inr ⟨by omega, Or.inr ⟨by simpa using h, by omega⟩⟩
  | 1, v, [y], i, x, h => by
    cases i with
    | zero =>
      simp [mm_set] at h
      refine Or.inr ⟨by decide, ?_⟩
      unfold mm_nl at h
      split at h
      · exact Or.inl h.symm
      · next q => subst h; exact Or.inr ⟨rfl, fun _ e => q y.2 (by rw [← e])⟩
    | succ i => simp [mm_set] at h
  | 1, v, y :: z :: L, 0, x, h => by
    simp [mm_set] at h
    refine Or.inr ⟨by decide, ?_⟩
    unfold mm_nl at h
    split at h
    · exact Or.inl h.symm
    · next q => subst h; exact Or.inr ⟨rfl, fun _ e => q y.2 (by rw [← e])⟩
  | 1, v, y :: z :: L, 1, x, h => by simp [mm_set] at h; exact Or.inl ⟨rfl, h.symm⟩
  | 1, v, y :: z :: L, i + 2, x, h => by simp [mm_set] at h; exact Or.inr ⟨by omega, Or.inr ⟨by simpa using h, by omega⟩⟩
  | n + 2, v, y :: L, 0, x, h => by simp [mm_set] at h; exact Or.inr ⟨by omega, Or.inr ⟨by simpa using h, by omega⟩⟩
  | n + 2, v, y :: L, i + 1, x, h => by
    rw [mm_set, List.getElem?_cons_succ] at h
    rcases mm_set_at (n + 1) v L i x h with ⟨h1, h2⟩ | ⟨h1, h2 | ⟨h2, h3⟩⟩
    · exact Or.inl ⟨by omega, h2⟩
    · exact Or.inr ⟨by omega, Or.inl h2⟩
    · exact Or.inr ⟨by omega, Or.inr ⟨by simpa using h2, fun e => h3 (by omega)⟩⟩
def mm_lv (ls : Array Slot) : List (Nat × Value) := (List.range ls.size).filterMap (fun i => match (ls[i]? : Option Slot) with
  | some (Slot.val x) => some (i, x)
  | _ => none)
theorem mm_lv_mem {ls : Array Slot} {i : Nat} {x : Value} (h : ls[i]? = some (.val x)) : (i, x) ∈ mm_lv ls := by
  unfold mm_lv
  rw [List.mem_filterMap]
  exact ⟨i, List.mem_range.mpr (Array.getElem?_eq_some_iff.mp h).1, by rw [h]⟩
theorem mm_lv_has {ls : Array Slot} {nL : Nat} (h1 : ls.size = nL) (h2 : lv_wf ls) : lv_has ls nL (mm_lv ls) := by
  refine ⟨h1, h2, fun q hq => ?_⟩
  unfold mm_lv at hq
  obtain ⟨i, -, hi⟩ := List.mem_filterMap.mp hq
  split at hi
  · next x hx => cases hi; exact hx
  · cases hi
/-- a store of a value of one slot -/
theorem mm_LR_set {old : Int → Nat} {ρ : List Nat} {nL n : Nat} {L : List mm_V} {ls ls' : Array Slot} {v : mm_V} {x : Value} (h : mm_LR old ρ nL L ls) (hv : mm_VR old ρ v x) (h' : lv_has ls' nL ((n, x) :: (mm_lv ls).filter (fun q => !(q.1 == n) && !(q.1 + 1 == n && q.2.category == 2)))) : mm_LR old ρ nL (mm_set n v L) ls' := by
  refine ⟨h'.1, h'.2.1, fun i y hi hy => ?_⟩
  rcases mm_set_at n v L i y hi with ⟨rfl, rfl⟩ | ⟨hne, rfl | ⟨hi, hc⟩⟩
  · exact ⟨x, h'.2.2 (_, _) List.mem_cons_self, hv⟩
  · exact absurd hy (by decide)
  · obtain ⟨z, h1, h2⟩ := h.2.2 i y hi hy
    refine ⟨z, h'.2.2 (i, z) (List.mem_cons_of_mem _ (List.mem_filter.mpr ⟨mm_lv_mem h1, ?_⟩)), h2⟩
    have e := mm_VR_cat h2
    by_cases hn : i + 1 = n
    · have hz : ¬ z.category = 2 := fun q => hc hn (e.mp q)
      simp [hne, hz]
    · simp [hne, hn]
end
section
/-! The steps of the mini machine are the machine's. -/
def mm_str : List (String × Nat × String) := [("FewRectangles$Tape", 52, "[]()<=>+-*;:{}"), ("FewRectangles$ConditionReader", 60, "or"), ("FewRectangles$ConditionReader", 62, "and"), ("FewRectangles$ConditionReader", 76, "not"), ("FewRectangles$ConditionReader", 105, "value row column left above sum most least like greater"), ("FewRectangles$ProgramReader", 47, "paint rows columns insert remove copy turn tidy shift repeat"), ("FewRectangles$ProgramReader", 89, "face size ink fill"), ("FewRectangles$ProgramReader", 98, "none"), ("FewRectangles$ProgramReader", 104, "a b c d e f g h i j k l m n o p"), ("FewRectangles$ProgramReader", 79, "to"), ("FewRectangles$ProgramReader", 85, "rows columns"), ("FewRectangles$ProgramReader", 87, "by")]
def mm_sl : List Nat := [14, 2, 3, 3, 55, 60, 18, 4, 31, 2, 12, 2]
def mm_sb : List (List Int32) := [[91, 93, 40, 41, 60, 61, 62, 43, 45, 42, 59, 58, 123, 125], [111, 114], [97, 110, 100], [110, 111, 116], [118, 97, 108, 117, 101, 32, 114, 111, 119, 32, 99, 111, 108, 117, 109, 110, 32, 108, 101, 102, 116, 32, 97, 98, 111, 118, 101, 32, 115, 117, 109, 32, 109, 111, 115, 116, 32, 108, 101, 97, 115, 116, 32, 108, 105, 107, 101, 32, 103, 114, 101, 97, 116, 101, 114], [112, 97, 105, 110, 116, 32, 114, 111, 119, 115, 32, 99, 111, 108, 117, 109, 110, 115, 32, 105, 110, 115, 101, 114, 116, 32, 114, 101, 109, 111, 118, 101, 32, 99, 111, 112, 121, 32, 116, 117, 114, 110, 32, 116, 105, 100, 121, 32, 115, 104, 105, 102, 116, 32, 114, 101, 112, 101, 97, 116], [102, 97, 99, 101, 32, 115, 105, 122, 101, 32, 105, 110, 107, 32, 102, 105, 108, 108], [110, 111, 110, 101], [97, 32, 98, 32, 99, 32, 100, 32, 101, 32, 102, 32, 103, 32, 104, 32, 105, 32, 106, 32, 107, 32, 108, 32, 109, 32, 110, 32, 111, 32, 112], [116, 111], [114, 111, 119, 115, 32, 99, 111, 108, 117, 109, 110, 115], [98, 121]]
def mm_A (B : Nat) : Nat → Prop := fun q => B ≤ q
def mm_AOI (U : State) : Prop := (Jvm.Cond.arrayOver (.array .int)).before #[] U = true
theorem mm_AOI_moved {u U : State} (hvm : u.vm.Alike U.vm) (h : mm_AOI u) : mm_AOI U := by
  obtain ⟨comp, c, k, h1, h2, h3, h4, h5⟩ := arrayOverA_spec h
  obtain ⟨k', hk', he⟩ := hvm.2.2 _ _ h3
  have e1 := va_idx_bare U.vm comp
  have e2 := va_idx_bare u.vm comp
  rw [hvm.bare_eq] at e1
  have hi : (U.vm.classes.findIdx? fun (x : Class) => match x.kind with | .array component _ => component == comp | _ => false) = some c := e1.symm.trans (e2.trans h2)
  have hkind : k'.kind = .array comp (.array .int) := by rw [he]; exact h4
  have f1 : U.vm.findClass (FieldType.array .int).toString = some comp := by rw [hvm.findClass]; exact h1
  have f2 : U.vm.findClass ("[" ++ (FieldType.array .int).toString) = some c := by rw [hvm.findClass]; exact h5
  unfold mm_AOI Cond.before Cond.holds
  simp only [Cond.value]
  rw [f1, Option.bind_some]
  refine (congrArg (fun o : Option Nat => (o.bind (fun c => (U.vm.classes[c]?).map fun (k : Class) => match k.kind with | .array _ ty => decide (ty = FieldType.array .int) && decide (U.vm.findClass ("[" ++ (FieldType.array .int).toString) = some c) | _ => false) == some true)) hi).trans ?_
  simp [hk', hkind, f2]
theorem mm_AOI_use {U : State} {args : Array Value} (h : mm_AOI U) : (Jvm.Cond.arrayOver (.array .int)).before args U = true := h
/-- what holds of a frame's start: the tables, the script, the String constants, two statics -/
def mm_Env (D : va_G) (tys : List (ClassId × FieldType)) (B : Nat) (old : Int → Nat) (L0 : Nat) (scr : Nat → Int32) (U : State) : Prop :=
  va_K D mm_cls tys U ∧ (∀ k, (k = 50 ∨ k = 51 ∨ k = 52 ∨ k = 53 ∨ k = 107 ∨ k = 109 ∨ k = 150) → tys[mm_ki k]? = some (mm_cA tys k, mm_tyk k)) ∧ B ≤ U.heap.size ∧
  (va_X (old (-1)) L0 scr U U.heap ∧ old (-1) < B) ∧
  vk_S 12 mm_sl mm_sb (fun i => old (-(10 + 2 * (i : Int)))) (fun i => old (-(11 + 2 * (i : Int)))) (mm_A B) U U.heap ∧
  (∀ i, i < 12 → vk_R (mm_nth ("", 0, "") i mm_str).1 (mm_nth ("", 0, "") i mm_str).2.1 (mm_nth ("", 0, "") i mm_str).2.2 (old (-(10 + 2 * (i : Int)))) U) ∧
  va_Z "java/lang/String" "COMPACT_STRINGS" "Z" (.int 1) (mm_A B) U U.heap ∧
  va_Zq "jdk/internal/util/Preconditions" "SIOOBE_FORMATTER" "Ljava/util/function/BiFunction;" (mm_A B) U U.heap ∧
  (∀ own i y host, Jvm.Cond.methodLinkNest own i y host ∈ lw_tbl → va_Nw (Jvm.Cond.methodLinkNest own i y host) U) ∧ va_AO "FewRectangles$Rule" U ∧ va_AO "FewRectangles$Sheet" U ∧ mm_AOI U
theorem mm_Env_to {D : va_G} {tys : List (ClassId × FieldType)} {B : Nat} {old : Int → Nat} {L0 : Nat} {scr : Nat → Int32} {s U : State} {H : Heap} {locs : List Loc} (he : mm_Env D tys B old L0 scr s) (hS : va_S (mm_A B) s.heap H locs) (hU : U.heap = H) (hW : s.WarmedH U.vm) : mm_Env D tys B old L0 scr U := by
  obtain ⟨h1, h2, h3, ⟨h4, h4b⟩, h5, h6, h7, h8, h9, h10, h11, h12⟩ := he
  subst hU
  have hq := hS.2.1
  refine ⟨va_K.moved hW.alike h1, h2, Nat.le_trans h3 hS.1, ⟨(h4.moved hW.alike).kept (hq _ (by omega) (by unfold mm_A; omega)), h4b⟩, (h5.moved hW.alike).kept hq, fun i hi => (h6 i hi).warm hW, (h7.moved hW.alike).kept hq, (h8.moved hW.alike).kept hq, fun own i y host hm => (h9 own i y host hm).warmM hW, h10.moved hW.alike, h11.moved hW.alike, mm_AOI_moved hW.alike h12⟩
/-- the cells that were there before -/
def mm_neg (L0 : Nat) (scr : Nat → Int32) (w : mm_W) (h : mm_H) : Prop :=
  w.1 (-1) = (50, (L0 : Int)) ∧ L0 < 2147483648 ∧ (∀ j : Nat, j < L0 → h (-1) j = (scr j).toInt) ∧
  (∀ i : Nat, i < 12 → w.1 (-(10 + 2 * (i : Int))) = (14, 2) ∧ h (-(10 + 2 * (i : Int))) 0 = -(11 + 2 * (i : Int)) ∧ h (-(10 + 2 * (i : Int))) 1 = 0 ∧ w.1 (-(11 + 2 * (i : Int))) = (54, ((mm_nth 0 i mm_sl : Nat) : Int)) ∧ ∀ j : Nat, j < mm_nth 0 i mm_sl → h (-(11 + 2 * (i : Int))) j = ((mm_nth [] i mm_sb).getD j 0).toInt) ∧
  ∀ a : Int, a ≤ 0 → a ≠ -1 → (∀ i : Nat, i < 12 → a ≠ -(10 + 2 * (i : Int)) ∧ a ≠ -(11 + 2 * (i : Int))) → (w.1 a).1 = 0
/-- the heap -/
def mm_HR (D : va_G) (tys : List (ClassId × FieldType)) (B : Nat) (old : Int → Nat) (L0 : Nat) (scr : Nat → Int32) (ρ : List Nat) (w : mm_W) (h : mm_H) (H : Heap) : Prop :=
  w.2.1 = (ρ.length : Int) + 1 ∧ (∀ a : Int, 1 ≤ a → a ≤ ρ.length → mm_good ρ.length w h a) ∧ (∀ a : Int, ρ.length < a → (w.1 a).1 = 0) ∧ mm_neg L0 scr w h ∧
  va_P D mm_cls (mm_ws old tys ρ w h) H ∧ va_D (mm_A B) (mm_ws old tys ρ w h)
/-- the world has grown -/
def mm_Px (ρ0 : List Nat) (w0 : mm_W) (ρ : List Nat) (w : mm_W) : Prop := (∃ ρx, ρ = ρ0 ++ ρx) ∧ w0.2.1 ≤ w.2.1 ∧ w0.2.2 ≤ w.2.2
def mm_Wc (D : va_G) (tys : List (ClassId × FieldType)) (B : Nat) (old : Int → Nat) (L0 : Nat) (scr : Nat → Int32) (p : Program) (l : Launch) (e : Env) (R : Room) (s : State) (m : MethodId) (args : Array Value) (below : List Frame) (meth : Method) (c : Code) (nL : Nat) (ρ0 : List Nat) (w0 : mm_W) (Q : State → Prop) (pc : Nat) (L st : List mm_V) (w : mm_W) (h : mm_H) : Prop :=
  ∀ (ρ : List Nat) (H : Heap) (locs : List Loc) (ls : Array Slot) (sv : List Value), mm_Px ρ0 w0 ρ w → mm_HR D tys B old L0 scr ρ w h H → va_S (mm_A B) s.heap H locs → mm_LR old ρ nL L ls → mm_SR old ρ st sv →
    W p l e R s m args below meth c H locs (w.2.1 - w0.2.1).toNat (w.2.2 - w0.2.2).toNat Q (F0 m pc ls sv)
/-- the frame -/
def mm_Fr (D : va_G) (tys : List (ClassId × FieldType)) (B : Nat) (old : Int → Nat) (L0 : Nat) (scr : Nat → Int32) (p : Program) (s : State) (m : MethodId) (args : Array Value) (meth : Method) (c : Code) (nL : Nat) (own : String) (cc : ByteArray) (mn : String) (rt : Option FieldType) : Prop :=
  p.tables.exec = Jvm.exec ∧ c.code = cc ∧ c.maxLocals = nL ∧ s.vm.findClass own = some m.cls ∧ (∀ w ∈ lw_g, w.before args s = true) ∧ mm_Env D tys B old L0 scr s ∧ meth.name = mn ∧ meth.sig.returnType = rt ∧ meth.locks = false
section MM
variable {D : va_G} {tys : List (ClassId × FieldType)} {B : Nat} {old : Int → Nat} {L0 : Nat} {scr : Nat → Int32}
variable {p : Program} {l : Launch} {e : Env} {R : Room} {s : State} {m : MethodId} {args : Array Value} {below : List Frame} {meth : Method} {c : Code} {nL : Nat} {ρ0 : List Nat} {w0 : mm_W} {Q : State → Prop}
variable {own : String} {cc : ByteArray} {mn : String} {rt : Option FieldType} {pc : Nat} {L st : List mm_V} {w : mm_W} {h : mm_H} {nx : Nat} {tx : String}

theorem st_const (F : mm_Fr D tys B old L0 scr p s m args meth c nL own cc mn rt) {n : Int} (hn : mm_i32 n) (hd : (decode cc pc = .ok (.iconst n, nx - pc) ∧ nx = pc + 1) ∨ (decode cc pc = .ok (.bipush n, 2) ∧ nx = pc + 2 ∧ -128 ≤ n ∧ n < 128) ∨ (decode cc pc = .ok (.sipush n, 3) ∧ nx = pc + 3 ∧ -32768 ≤ n ∧ n < 32768)) (k : mm_Wc D tys B old L0 scr p l e R s m args below meth c nL ρ0 w0 Q nx L ((0, n) :: st) w h) : mm_Wc D tys B old L0 scr p l e R s m args below meth c nL ρ0 w0 Q pc L st w h := by
  intro ρ H locs ls sv hρ hH hS hL hst
  have k2 := k ρ H locs ls (.int (Int32.ofInt n) :: sv) hρ hH hS hL ⟨⟨hn, rfl⟩, hst⟩
  rcases hd with ⟨hd, rfl⟩ | ⟨hd, rfl, h1, h2⟩ | ⟨hd, rfl, h1, h2⟩
  · rw [show pc + 1 - pc = 1 by omega] at hd
    exact lv_iconst F.1 F.2.1 hd rfl k2
  · refine lv_bipush F.1 F.2.1 hd ?_ k2
    rw [← Int32.toInt_inj, i32_o hn, Int8.toInt_toInt32, Int8.toInt_ofInt_of_le h1 h2]
  · refine lv_sipush F.1 F.2.1 hd ?_ k2
    rw [← Int32.toInt_inj, i32_o hn, Int16.toInt_toInt32, Int16.toInt_ofInt_of_le h1 h2]
theorem st_iload (F : mm_Fr D tys B old L0 scr p s m args meth c nL own cc mn rt) {n : Nat} {x : Int} (hg : mm_get n L = (0, x)) (hd : (decode cc pc = .ok (.iload n, 2) ∧ nx = pc + 2) ∨ (∃ k : Fin 4, decode cc pc = .ok (.iload_n k, 1) ∧ (k : Nat) = n ∧ nx = pc + 1)) (k : mm_Wc D tys B old L0 scr p l e R s m args below meth c nL ρ0 w0 Q nx L ((0, x) :: st) w h) : mm_Wc D tys B old L0 scr p l e R s m args below meth c nL ρ0 w0 Q pc L st w h := by
  intro ρ H locs ls sv hρ hH hS hL hst
  obtain ⟨v, h1, h2⟩ := hL.2.2 n _ (mm_get_at hg (show (0 : Nat) ≤ 3 by decide)) (by decide : (0 : Nat) ≤ 3)
  have k2 := k ρ H locs ls (v :: sv) hρ hH hS hL ⟨h2, hst⟩
  obtain ⟨hr, rfl⟩ := h2
  rcases hd with ⟨hd, rfl⟩ | ⟨q, hd, hq, rfl⟩
  · exact lv_iload F.1 F.2.1 hd h1 k2
  · exact lv_iload_n F.1 F.2.1 hd hq h1 k2
theorem st_lload (F : mm_Fr D tys B old L0 scr p s m args meth c nL own cc mn rt) {n : Nat} {x : Int} (hg : mm_get n L = (1, x)) (hd : (decode cc pc = .ok (.lload n, 2) ∧ nx = pc + 2) ∨ (∃ k : Fin 4, decode cc pc = .ok (.lload_n k, 1) ∧ (k : Nat) = n ∧ nx = pc + 1)) (k : mm_Wc D tys B old L0 scr p l e R s m args below meth c nL ρ0 w0 Q nx L ((1, x) :: st) w h) : mm_Wc D tys B old L0 scr p l e R s m args below meth c nL ρ0 w0 Q pc L st w h := by
  intro ρ H locs ls sv hρ hH hS hL hst
  obtain ⟨v, h1, h2⟩ := hL.2.2 n _ (mm_get_at hg (show (1 : Nat) ≤ 3 by decide)) (by decide : (1 : Nat) ≤ 3)
  have k2 := k ρ H locs ls (v :: sv) hρ hH hS hL ⟨h2, hst⟩
  obtain ⟨hr, rfl⟩ := h2
  rcases hd with ⟨hd, rfl⟩ | ⟨q, hd, hq, rfl⟩
  · exact lv_lload F.1 F.2.1 hd h1 k2
  · exact lv_lload_n F.1 F.2.1 hd hq h1 k2
theorem mm_al (F : mm_Fr D tys B old L0 scr p s m args meth c nL own cc mn rt) {n : Nat} {r : Option Nat} {H : Heap} {locs : List Loc} {cells slots : Nat} {ls : Array Slot} {sv : List Value} (h1 : ls[n]? = some (.val (va_rf r))) (hd : (decode cc pc = .ok (.aload n, 2) ∧ nx = pc + 2) ∨ (∃ k : Fin 4, decode cc pc = .ok (.aload_n k, 1) ∧ (k : Nat) = n ∧ nx = pc + 1)) (k2 : W p l e R s m args below meth c H locs cells slots Q (F0 m nx ls (va_rf r :: sv))) : W p l e R s m args below meth c H locs cells slots Q (F0 m pc ls sv) := by
  cases r with
  | none =>
    rcases hd with ⟨hd, rfl⟩ | ⟨q, hd, hq, rfl⟩
    · exact lv_aloadN F.1 F.2.1 hd h1 k2
    · exact lv_aload_nN F.1 F.2.1 hd hq h1 k2
  | some a =>
    rcases hd with ⟨hd, rfl⟩ | ⟨q, hd, hq, rfl⟩
    · exact lv_aload F.1 F.2.1 hd h1 k2
    · exact lv_aload_n F.1 F.2.1 hd hq h1 k2
theorem st_aload (F : mm_Fr D tys B old L0 scr p s m args meth c nL own cc mn rt) {n t : Nat} {x : Int} (ht : t = 2 ∨ t = 3) (hg : mm_get n L = (t, x)) (hd : (decode cc pc = .ok (.aload n, 2) ∧ nx = pc + 2) ∨ (∃ k : Fin 4, decode cc pc = .ok (.aload_n k, 1) ∧ (k : Nat) = n ∧ nx = pc + 1)) (k : mm_Wc D tys B old L0 scr p l e R s m args below meth c nL ρ0 w0 Q nx L ((t, x) :: st) w h) : mm_Wc D tys B old L0 scr p l e R s m args below meth c nL ρ0 w0 Q pc L st w h := by
  intro ρ H locs ls sv hρ hH hS hL hst
  have ht3 : t ≤ 3 := by omega
  obtain ⟨v, h1, h2⟩ := hL.2.2 n _ (mm_get_at hg ht3) ht3
  have k2 := k ρ H locs ls (v :: sv) hρ hH hS hL ⟨h2, hst⟩
  rcases ht with rfl | rfl
  · obtain ⟨hr, rfl⟩ := h2
    exact mm_al F h1 hd k2
  · obtain ⟨r, rfl⟩ := h2
    exact mm_al F h1 hd k2
theorem st_istore (F : mm_Fr D tys B old L0 scr p s m args meth c nL own cc mn rt) {n : Nat} {x : Int} (hn : n < nL) (hd : (decode cc pc = .ok (.istore n, 2) ∧ nx = pc + 2) ∨ (∃ k : Fin 4, decode cc pc = .ok (.istore_n k, 1) ∧ (k : Nat) = n ∧ nx = pc + 1)) (k : mm_Wc D tys B old L0 scr p l e R s m args below meth c nL ρ0 w0 Q nx (mm_set n (0, x) L) st w h) : mm_Wc D tys B old L0 scr p l e R s m args below meth c nL ρ0 w0 Q pc L ((0, x) :: st) w h := by
  intro ρ H locs ls sv hρ hH hS hL hst
  obtain ⟨v, sv, rfl, hv, hs2⟩ := mm_SR_cons hst
  have hv2 := hv
  obtain ⟨hr, rfl⟩ := hv2
  rcases hd with ⟨hd, rfl⟩ | ⟨q, hd, hq, rfl⟩
  · exact lv_istore F.1 F.2.1 hd (mm_lv_has hL.1 hL.2.1) hn rfl fun ls' h' => k ρ H locs ls' sv hρ hH hS (mm_LR_set hL hv h') hs2
  · exact lv_istore_n F.1 F.2.1 hd hq (mm_lv_has hL.1 hL.2.1) hn rfl fun ls' h' => k ρ H locs ls' sv hρ hH hS (mm_LR_set hL hv h') hs2
theorem st_astore (F : mm_Fr D tys B old L0 scr p s m args meth c nL own cc mn rt) {n : Nat} {x : Int} (hn : n < nL) (hd : (decode cc pc = .ok (.astore n, 2) ∧ nx = pc + 2) ∨ (∃ k : Fin 4, decode cc pc = .ok (.astore_n k, 1) ∧ (k : Nat) = n ∧ nx = pc + 1)) (k : mm_Wc D tys B old L0 scr p l e R s m args below meth c nL ρ0 w0 Q nx (mm_set n (2, x) L) st w h) : mm_Wc D tys B old L0 scr p l e R s m args below meth c nL ρ0 w0 Q pc L ((2, x) :: st) w h := by
  intro ρ H locs ls sv hρ hH hS hL hst
  obtain ⟨v, sv, rfl, hv, hs2⟩ := mm_SR_cons hst
  have hv2 := hv
  obtain ⟨hr, rfl⟩ := hv2
  cases hx : mm_adr old ρ x with
  | none =>
    rw [hx] at hv
    rcases hd with ⟨hd, rfl⟩ | ⟨q, hd, hq, rfl⟩
    · exact lv_astoreN F.1 F.2.1 hd (mm_lv_has hL.1 hL.2.1) hn rfl fun ls' h' => k ρ H locs ls' sv hρ hH hS (mm_LR_set hL hv h') hs2
    · exact lv_astore_nN F.1 F.2.1 hd hq (mm_lv_has hL.1 hL.2.1) hn rfl fun ls' h' => k ρ H locs ls' sv hρ hH hS (mm_LR_set hL hv h') hs2
  | some a =>
    rw [hx] at hv
    rcases hd with ⟨hd, rfl⟩ | ⟨q, hd, hq, rfl⟩
    · exact lv_astore F.1 F.2.1 hd (mm_lv_has hL.1 hL.2.1) hn rfl fun ls' h' => k ρ H locs ls' sv hρ hH hS (mm_LR_set hL hv h') hs2
    · exact lv_astore_n F.1 F.2.1 hd hq (mm_lv_has hL.1 hL.2.1) hn rfl fun ls' h' => k ρ H locs ls' sv hρ hH hS (mm_LR_set hL hv h') hs2
end MM
end
section
theorem mm_LR_put {old : Int → Nat} {ρ : List Nat} {nL n : Nat} {L : List mm_V} {ls ls' : Array Slot} {v : mm_V} {x x0 : Value} (h : mm_LR old ρ nL L ls) (hx0 : ls[n]? = some (.val x0)) (hv : mm_VR old ρ v x) (h' : lv_has ls' nL ((n, x) :: (mm_lv ls).filter (fun q => !(q.1 == n) && !(q.1 + 1 == n && q.2.category == 2)))) : mm_LR old ρ nL (mm_put n v L) ls' := by
  refine ⟨h'.1, h'.2.1, fun i y hi hy => ?_⟩
  rw [mm_put_at] at hi
  by_cases hin : i = n
  · subst hin
    by_cases hl : i < L.length
    · rw [if_pos ⟨rfl, hl⟩] at hi
      cases hi
      exact ⟨x, h'.2.2 (_, _) List.mem_cons_self, hv⟩
    · rw [if_neg (fun q => hl q.2), List.getElem?_eq_none (by omega)] at hi
      cases hi
  · rw [if_neg (fun q => hin q.1)] at hi
    obtain ⟨z, h1, h2⟩ := h.2.2 i y hi hy
    refine ⟨z, h'.2.2 (i, z) (List.mem_cons_of_mem _ (List.mem_filter.mpr ⟨mm_lv_mem h1, ?_⟩)), h2⟩
    by_cases hn : i + 1 = n
    · have hz : ¬ z.category = 2 := fun q => by
        have := h.2.1.1 i z h1 q
        rw [hn, hx0] at this
        cases this
      simp [hin, hz]
    · simp [hin, hn]
theorem mm_LR_lset {old : Int → Nat} {ρ : List Nat} {nL n : Nat} {L : List mm_V} {ls ls' : Array Slot} {v : mm_V} {x : Value} (h : mm_LR old ρ nL L ls) (hv : mm_VR old ρ v x) (h' : lv_has ls' nL ((n, x) :: (mm_lv ls).filter (fun q => !(q.1 == n) && (!(q.1 == n + 1) && !(q.1 + 1 == n && q.2.category == 2))))) : mm_LR old ρ nL (mm_put (n + 1) (8, 0) (mm_set n v L)) ls' := by
  refine ⟨h'.1, h'.2.1, fun i y hi hy => ?_⟩
  rw [mm_put_at] at hi
  by_cases hin : i = n + 1
  · subst hin
    by_cases hl : n + 1 < (mm_set n v L).length
    · rw [if_pos ⟨rfl, hl⟩] at hi
      cases hi
      exact absurd hy (by decide)
    · rw [if_neg (fun q => hl q.2), List.getElem?_eq_none (by omega)] at hi
      cases hi
  · rw [if_neg (fun q => hin q.1)] at hi
    rcases mm_set_at n v L i y hi with ⟨rfl, rfl⟩ | ⟨hne, rfl | ⟨hi, hc⟩⟩
    · exact ⟨x, h'.2.2 (_, _) List.mem_cons_self, hv⟩
    · exact absurd hy (by decide)
    · obtain ⟨z, h1, h2⟩ := h.2.2 i y hi hy
      refine ⟨z, h'.2.2 (i, z) (List.mem_cons_of_mem _ (List.mem_filter.mpr ⟨mm_lv_mem h1, ?_⟩)), h2⟩
      have e := mm_VR_cat h2
      by_cases hn : i + 1 = n
      · have hz : ¬ z.category = 2 := fun q => hc hn (e.mp q)
        simp [hne, hin, hz]
      · simp [hne, hin, hn]
section MM
variable {D : va_G} {tys : List (ClassId × FieldType)} {B : Nat} {old : Int → Nat} {L0 : Nat} {scr : Nat → Int32}
variable {p : Program} {l : Launch} {e : Env} {R : Room} {s : State} {m : MethodId} {args : Array Value} {below : List Frame} {meth : Method} {c : Code} {nL : Nat} {ρ0 : List Nat} {w0 : mm_W} {Q : State → Prop}
variable {own : String} {cc : ByteArray} {mn : String} {rt : Option FieldType} {pc : Nat} {L st : List mm_V} {w : mm_W} {h : mm_H} {nx : Nat} {tx : String}

theorem st_lstore (F : mm_Fr D tys B old L0 scr p s m args meth c nL own cc mn rt) {n : Nat} {x : Int} (hn : n + 1 < nL) (hd : (decode cc pc = .ok (.lstore n, 2) ∧ nx = pc + 2) ∨ (∃ k : Fin 4, decode cc pc = .ok (.lstore_n k, 1) ∧ (k : Nat) = n ∧ nx = pc + 1)) (k : mm_Wc D tys B old L0 scr p l e R s m args below meth c nL ρ0 w0 Q nx (mm_put (n + 1) (8, 0) (mm_set n (1, x) L)) st w h) : mm_Wc D tys B old L0 scr p l e R s m args below meth c nL ρ0 w0 Q pc L ((1, x) :: st) w h := by
  intro ρ H locs ls sv hρ hH hS hL hst
  obtain ⟨v, sv, rfl, hv, hs2⟩ := mm_SR_cons hst
  have hv2 := hv
  obtain ⟨hr, rfl⟩ := hv2
  rcases hd with ⟨hd, rfl⟩ | ⟨q, hd, hq, rfl⟩
  · exact lv_lstore F.1 F.2.1 hd (mm_lv_has hL.1 hL.2.1) hn rfl fun ls' h' => k ρ H locs ls' sv hρ hH hS (mm_LR_lset hL hv h') hs2
  · exact lv_lstore_n F.1 F.2.1 hd hq (mm_lv_has hL.1 hL.2.1) hn rfl fun ls' h' => k ρ H locs ls' sv hρ hH hS (mm_LR_lset hL hv h') hs2
theorem st_iinc (F : mm_Fr D tys B old L0 scr p s m args meth c nL own cc mn rt) {n : Nat} {x y : Int} (hg : mm_get n L = (0, x)) (hn : n < nL) (hd : decode cc pc = .ok (.iinc n y, 3)) (k : mm_Wc D tys B old L0 scr p l e R s m args below meth c nL ρ0 w0 Q (pc + 3) (mm_put n (0, mI (x + y)) L) st w h) : mm_Wc D tys B old L0 scr p l e R s m args below meth c nL ρ0 w0 Q pc L st w h := by
  intro ρ H locs ls sv hρ hH hS hL hst
  obtain ⟨v, h1, h2⟩ := hL.2.2 n _ (mm_get_at hg (show (0 : Nat) ≤ 3 by decide)) (by decide : (0 : Nat) ≤ 3)
  obtain ⟨hr, rfl⟩ := h2
  obtain ⟨j, hj⟩ := List.getElem?_of_mem (mm_lv_mem h1)
  refine lv_iinc F.1 F.2.1 hd (mm_lv_has hL.1 hL.2.1) hj rfl hn rfl fun ls' h' => k ρ H locs ls' sv hρ hH hS (mm_LR_put hL h1 ?_ h') hst
  exact ⟨mI_r _, by rw [mI_I, Int32.ofInt_add]⟩
theorem st_ii (nx : Nat) {x y z : Int} (hz : mm_i32 x → mm_i32 y → mm_i32 z ∧ ∀ (H : Heap) (locs : List Loc) (cells slots : Nat) (ls : Array Slot) (sv : List Value), W p l e R s m args below meth c H locs cells slots Q (F0 m nx ls (.int (Int32.ofInt z) :: sv)) → W p l e R s m args below meth c H locs cells slots Q (F0 m pc ls (.int (Int32.ofInt y) :: .int (Int32.ofInt x) :: sv))) (k : mm_Wc D tys B old L0 scr p l e R s m args below meth c nL ρ0 w0 Q nx L ((0, z) :: st) w h) : mm_Wc D tys B old L0 scr p l e R s m args below meth c nL ρ0 w0 Q pc L ((0, y) :: (0, x) :: st) w h := by
  intro ρ H locs ls sv hρ hH hS hL hst
  obtain ⟨v, sv, rfl, ⟨hy, rfl⟩, hs2⟩ := mm_SR_cons hst
  obtain ⟨v, sv, rfl, ⟨hx, rfl⟩, hs3⟩ := mm_SR_cons hs2
  obtain ⟨h1, h2⟩ := hz hx hy
  exact h2 H locs _ _ ls sv (k ρ H locs ls (.int (Int32.ofInt z) :: sv) hρ hH hS hL ⟨⟨h1, rfl⟩, hs3⟩)
theorem st_jj (nx : Nat) {x y z : Int} (hz : mm_i64 x → mm_i64 y → mm_i64 z ∧ ∀ (H : Heap) (locs : List Loc) (cells slots : Nat) (ls : Array Slot) (sv : List Value), W p l e R s m args below meth c H locs cells slots Q (F0 m nx ls (.long (Int64.ofInt z) :: sv)) → W p l e R s m args below meth c H locs cells slots Q (F0 m pc ls (.long (Int64.ofInt y) :: .long (Int64.ofInt x) :: sv))) (k : mm_Wc D tys B old L0 scr p l e R s m args below meth c nL ρ0 w0 Q nx L ((1, z) :: st) w h) : mm_Wc D tys B old L0 scr p l e R s m args below meth c nL ρ0 w0 Q pc L ((1, y) :: (1, x) :: st) w h := by
  intro ρ H locs ls sv hρ hH hS hL hst
  obtain ⟨v, sv, rfl, ⟨hy, rfl⟩, hs2⟩ := mm_SR_cons hst
  obtain ⟨v, sv, rfl, ⟨hx, rfl⟩, hs3⟩ := mm_SR_cons hs2
  obtain ⟨h1, h2⟩ := hz hx hy
  exact h2 H locs _ _ ls sv (k ρ H locs ls (.long (Int64.ofInt z) :: sv) hρ hH hS hL ⟨⟨h1, rfl⟩, hs3⟩)
theorem st_i (nx : Nat) {x z : Int} (hz : mm_i32 x → mm_i32 z ∧ ∀ (H : Heap) (locs : List Loc) (cells slots : Nat) (ls : Array Slot) (sv : List Value), W p l e R s m args below meth c H locs cells slots Q (F0 m nx ls (.int (Int32.ofInt z) :: sv)) → W p l e R s m args below meth c H locs cells slots Q (F0 m pc ls (.int (Int32.ofInt x) :: sv))) (k : mm_Wc D tys B old L0 scr p l e R s m args below meth c nL ρ0 w0 Q nx L ((0, z) :: st) w h) : mm_Wc D tys B old L0 scr p l e R s m args below meth c nL ρ0 w0 Q pc L ((0, x) :: st) w h := by
  intro ρ H locs ls sv hρ hH hS hL hst
  obtain ⟨v, sv, rfl, ⟨hx, rfl⟩, hs3⟩ := mm_SR_cons hst
  obtain ⟨h1, h2⟩ := hz hx
  exact h2 H locs _ _ ls sv (k ρ H locs ls (.int (Int32.ofInt z) :: sv) hρ hH hS hL ⟨⟨h1, rfl⟩, hs3⟩)
theorem st_iadd (F : mm_Fr D tys B old L0 scr p s m args meth c nL own cc mn rt) {x y : Int} (hd : decode cc pc = .ok (.iadd, 1)) (k : mm_Wc D tys B old L0 scr p l e R s m args below meth c nL ρ0 w0 Q (pc + 1) L ((0, mI (x + y)) :: st) w h) : mm_Wc D tys B old L0 scr p l e R s m args below meth c nL ρ0 w0 Q pc L ((0, y) :: (0, x) :: st) w h :=
  st_ii _ (fun _ _ => ⟨mI_r _, fun _ _ _ _ _ _ kk => lv_iadd F.1 F.2.1 hd (by rw [mI_I, Int32.ofInt_add] at kk; exact kk)⟩) k
theorem st_isub (F : mm_Fr D tys B old L0 scr p s m args meth c nL own cc mn rt) {x y : Int} (hd : decode cc pc = .ok (.isub, 1)) (k : mm_Wc D tys B old L0 scr p l e R s m args below meth c nL ρ0 w0 Q (pc + 1) L ((0, mI (x - y)) :: st) w h) : mm_Wc D tys B old L0 scr p l e R s m args below meth c nL ρ0 w0 Q pc L ((0, y) :: (0, x) :: st) w h :=
  st_ii _ (fun _ _ => ⟨mI_r _, fun _ _ _ _ _ _ kk => lv_isub F.1 F.2.1 hd (by rw [mI_I, Int32.ofInt_sub] at kk; exact kk)⟩) k
theorem st_imul (F : mm_Fr D tys B old L0 scr p s m args meth c nL own cc mn rt) {x y : Int} (hd : decode cc pc = .ok (.imul, 1)) (k : mm_Wc D tys B old L0 scr p l e R s m args below meth c nL ρ0 w0 Q (pc + 1) L ((0, mI (x * y)) :: st) w h) : mm_Wc D tys B old L0 scr p l e R s m args below meth c nL ρ0 w0 Q pc L ((0, y) :: (0, x) :: st) w h :=
  st_ii _ (fun _ _ => ⟨mI_r _, fun _ _ _ _ _ _ kk => lv_imul F.1 F.2.1 hd (by rw [mI_I, Int32.ofInt_mul] at kk; exact kk)⟩) k
theorem mm_ne0 {y : Int} (hy : mm_i32 y) (hne : ¬ y = 0) : ¬ Int32.ofInt y = 0 := fun q => hne ((i32_eq hy i32_z).mp q)
theorem st_idiv (F : mm_Fr D tys B old L0 scr p s m args meth c nL own cc mn rt) {x y : Int} (hne : ¬ y = 0) (hd : decode cc pc = .ok (.idiv, 1)) (k : mm_Wc D tys B old L0 scr p l e R s m args below meth c nL ρ0 w0 Q (pc + 1) L ((0, mI (Int.tdiv x y)) :: st) w h) : mm_Wc D tys B old L0 scr p l e R s m args below meth c nL ρ0 w0 Q pc L ((0, y) :: (0, x) :: st) w h :=
  st_ii _ (fun hx hy => ⟨mI_r _, fun _ _ _ _ _ _ kk => lv_idiv F.1 F.2.1 hd (mm_ne0 hy hne) (by rw [i32_div hx hy]; exact kk)⟩) k
theorem st_irem (F : mm_Fr D tys B old L0 scr p s m args meth c nL own cc mn rt) {x y : Int} (hne : ¬ y = 0) (hd : decode cc pc = .ok (.irem, 1)) (k : mm_Wc D tys B old L0 scr p l e R s m args below meth c nL ρ0 w0 Q (pc + 1) L ((0, Int.tmod x y) :: st) w h) : mm_Wc D tys B old L0 scr p l e R s m args below meth c nL ρ0 w0 Q pc L ((0, y) :: (0, x) :: st) w h :=
  st_ii _ (fun hx hy => ⟨i32_tmod hx hne hy, fun _ _ _ _ _ _ kk => lv_irem F.1 F.2.1 hd (mm_ne0 hy hne) (by rw [i32_rem hx hy]; exact kk)⟩) k
theorem st_iand (F : mm_Fr D tys B old L0 scr p s m args meth c nL own cc mn rt) {x y : Int} (hd : decode cc pc = .ok (.iand, 1)) (k : mm_Wc D tys B old L0 scr p l e R s m args below meth c nL ρ0 w0 Q (pc + 1) L ((0, mAnd x y) :: st) w h) : mm_Wc D tys B old L0 scr p l e R s m args below meth c nL ρ0 w0 Q pc L ((0, y) :: (0, x) :: st) w h :=
  st_ii _ (fun _ _ => ⟨i32_t _, fun _ _ _ _ _ _ kk => lv_iand F.1 F.2.1 hd (by rw [Int32.ofInt_toInt] at kk; exact kk)⟩) k
theorem st_ior (F : mm_Fr D tys B old L0 scr p s m args meth c nL own cc mn rt) {x y : Int} (hd : decode cc pc = .ok (.ior, 1)) (k : mm_Wc D tys B old L0 scr p l e R s m args below meth c nL ρ0 w0 Q (pc + 1) L ((0, mOr x y) :: st) w h) : mm_Wc D tys B old L0 scr p l e R s m args below meth c nL ρ0 w0 Q pc L ((0, y) :: (0, x) :: st) w h :=
  st_ii _ (fun _ _ => ⟨i32_t _, fun _ _ _ _ _ _ kk => lv_ior F.1 F.2.1 hd (by rw [Int32.ofInt_toInt] at kk; exact kk)⟩) k
theorem st_ixor (F : mm_Fr D tys B old L0 scr p s m args meth c nL own cc mn rt) {x y : Int} (hd : decode cc pc = .ok (.ixor, 1)) (k : mm_Wc D tys B old L0 scr p l e R s m args below meth c nL ρ0 w0 Q (pc + 1) L ((0, mXor x y) :: st) w h) : mm_Wc D tys B old L0 scr p l e R s m args below meth c nL ρ0 w0 Q pc L ((0, y) :: (0, x) :: st) w h :=
  st_ii _ (fun _ _ => ⟨i32_t _, fun _ _ _ _ _ _ kk => lv_ixor F.1 F.2.1 hd (by rw [Int32.ofInt_toInt] at kk; exact kk)⟩) k
theorem st_ishl (F : mm_Fr D tys B old L0 scr p s m args meth c nL own cc mn rt) {x y : Int} (hd : decode cc pc = .ok (.ishl, 1)) (k : mm_Wc D tys B old L0 scr p l e R s m args below meth c nL ρ0 w0 Q (pc + 1) L ((0, mShl x y) :: st) w h) : mm_Wc D tys B old L0 scr p l e R s m args below meth c nL ρ0 w0 Q pc L ((0, y) :: (0, x) :: st) w h :=
  st_ii _ (fun _ _ => ⟨i32_t _, fun _ _ _ _ _ _ kk => lv_ishl F.1 F.2.1 hd (by rw [Int32.ofInt_toInt] at kk; exact kk)⟩) k
theorem st_ishr (F : mm_Fr D tys B old L0 scr p s m args meth c nL own cc mn rt) {x y : Int} (hd : decode cc pc = .ok (.ishr, 1)) (k : mm_Wc D tys B old L0 scr p l e R s m args below meth c nL ρ0 w0 Q (pc + 1) L ((0, mShr x y) :: st) w h) : mm_Wc D tys B old L0 scr p l e R s m args below meth c nL ρ0 w0 Q pc L ((0, y) :: (0, x) :: st) w h :=
  st_ii _ (fun _ _ => ⟨i32_t _, fun _ _ _ _ _ _ kk => lv_ishr F.1 F.2.1 hd (by rw [Int32.ofInt_toInt] at kk; exact kk)⟩) k
theorem st_iushr (F : mm_Fr D tys B old L0 scr p s m args meth c nL own cc mn rt) {x y : Int} (hd : decode cc pc = .ok (.iushr, 1)) (k : mm_Wc D tys B old L0 scr p l e R s m args below meth c nL ρ0 w0 Q (pc + 1) L ((0, mUsh x y) :: st) w h) : mm_Wc D tys B old L0 scr p l e R s m args below meth c nL ρ0 w0 Q pc L ((0, y) :: (0, x) :: st) w h :=
  st_ii _ (fun _ _ => ⟨i32_t _, fun _ _ _ _ _ _ kk => lv_iushr F.1 F.2.1 hd rfl (by rw [Int32.ofInt_toInt] at kk; exact kk)⟩) k
theorem st_ineg (F : mm_Fr D tys B old L0 scr p s m args meth c nL own cc mn rt) {x : Int} (hd : decode cc pc = .ok (.ineg, 1)) (k : mm_Wc D tys B old L0 scr p l e R s m args below meth c nL ρ0 w0 Q (pc + 1) L ((0, mI (-x)) :: st) w h) : mm_Wc D tys B old L0 scr p l e R s m args below meth c nL ρ0 w0 Q pc L ((0, x) :: st) w h :=
  st_i _ (fun _ => ⟨mI_r _, fun _ _ _ _ _ _ kk => lv_ineg F.1 F.2.1 hd (by rw [mI_I, Int32.ofInt_neg] at kk; exact kk)⟩) k
theorem st_i2s (F : mm_Fr D tys B old L0 scr p s m args meth c nL own cc mn rt) {x : Int} (hd : decode cc pc = .ok (.i2s, 1)) (k : mm_Wc D tys B old L0 scr p l e R s m args below meth c nL ρ0 w0 Q (pc + 1) L ((0, mS x) :: st) w h) : mm_Wc D tys B old L0 scr p l e R s m args below meth c nL ρ0 w0 Q pc L ((0, x) :: st) w h := by
  refine st_i _ (fun hx => ?_) k
  have e : mS x = ((Int32.ofInt x).toInt16.toInt32).toInt := by rw [lg_i2s_toInt, i32_o hx]; rfl
  rw [e]
  exact ⟨i32_t _, fun _ _ _ _ _ _ kk => lv_i2s F.1 F.2.1 hd rfl (by rw [Int32.ofInt_toInt] at kk; exact kk)⟩
theorem st_i2b (F : mm_Fr D tys B old L0 scr p s m args meth c nL own cc mn rt) {x : Int} (hd : decode cc pc = .ok (.i2b, 1)) (k : mm_Wc D tys B old L0 scr p l e R s m args below meth c nL ρ0 w0 Q (pc + 1) L ((0, mB x) :: st) w h) : mm_Wc D tys B old L0 scr p l e R s m args below meth c nL ρ0 w0 Q pc L ((0, x) :: st) w h := by
  refine st_i _ (fun hx => ?_) k
  have e : mB x = ((Int32.ofInt x).toInt8.toInt32).toInt := by rw [lg_i2b_toInt, i32_o hx]; rfl
  rw [e]
  exact ⟨i32_t _, fun _ _ _ _ _ _ kk => lv_i2b F.1 F.2.1 hd rfl (by rw [Int32.ofInt_toInt] at kk; exact kk)⟩
theorem mm_char {x : Int} (hx : mm_i32 x) : (((Int32.ofInt x).toUInt32 % 65536).toInt32) = Int32.ofInt (mC6 x) := by
  rw [pk_char]
  have h1 : (Int32.ofInt x).toBitVec.toNat = (Int.emod x 4294967296).toNat := by
    show (BitVec.ofInt 32 x).toNat = _
    rw [BitVec.toNat_ofInt]
    rfl
  rw [h1]
  unfold mC6
  have h2 : (Int.emod x 4294967296).toNat % 65536 = (Int.emod x 65536).toNat := by
    have e1 : (x % 4294967296) % 65536 = x % 65536 := Int.emod_emod_of_dvd x (by decide)
    have n1 : 0 ≤ x % 4294967296 := Int.emod_nonneg x (by decide)
    have n2 : 0 ≤ x % 65536 := Int.emod_nonneg x (by decide)
    show (x % 4294967296).toNat % 65536 = (x % 65536).toNat
    omega
  rw [h2]
  have n2 : 0 ≤ x % 65536 := Int.emod_nonneg x (by decide)
  show Int32.ofNat (x % 65536).toNat = Int32.ofInt (x % 65536)
  rw [← Int32.ofInt_eq_ofNat, Int.toNat_of_nonneg n2]
theorem st_i2c (F : mm_Fr D tys B old L0 scr p s m args meth c nL own cc mn rt) {x : Int} (hd : decode cc pc = .ok (.i2c, 1)) (k : mm_Wc D tys B old L0 scr p l e R s m args below meth c nL ρ0 w0 Q (pc + 1) L ((0, mC6 x) :: st) w h) : mm_Wc D tys B old L0 scr p l e R s m args below meth c nL ρ0 w0 Q pc L ((0, x) :: st) w h := by
  refine st_i _ (fun hx => ⟨?_, fun _ _ _ _ _ _ kk => lv_i2c F.1 F.2.1 hd (mm_char hx) kk⟩) k
  unfold mC6 mm_i32
  have n1 : 0 ≤ x % 65536 := Int.emod_nonneg x (by decide)
  have n2 : x % 65536 < 65536 := Int.emod_lt_of_pos x (by decide)
  show -2147483648 ≤ x % 65536 ∧ x % 65536 < 2147483648
  omega
theorem st_i2l (F : mm_Fr D tys B old L0 scr p s m args meth c nL own cc mn rt) {x : Int} (hd : decode cc pc = .ok (.i2l, 1)) (k : mm_Wc D tys B old L0 scr p l e R s m args below meth c nL ρ0 w0 Q (pc + 1) L ((1, x) :: st) w h) : mm_Wc D tys B old L0 scr p l e R s m args below meth c nL ρ0 w0 Q pc L ((0, x) :: st) w h := by
  intro ρ H locs ls sv hρ hH hS hL hst
  obtain ⟨v, sv, rfl, ⟨hx, rfl⟩, hs2⟩ := mm_SR_cons hst
  have hx' : mm_i32 x := hx
  have h64 : mm_i64 x := ⟨by have := hx'.1; omega, by have := hx'.2; omega⟩
  refine lv_i2l F.1 F.2.1 hd ?_ (k ρ H locs ls (.long (Int64.ofInt x) :: sv) hρ hH hS hL ⟨⟨h64, rfl⟩, hs2⟩)
  rw [← Int64.toInt_inj, Int32.toInt_toInt64, i64_o h64]
  exact i32_o hx'
theorem st_l2i (F : mm_Fr D tys B old L0 scr p s m args meth c nL own cc mn rt) {x : Int} (hd : decode cc pc = .ok (.l2i, 1)) (k : mm_Wc D tys B old L0 scr p l e R s m args below meth c nL ρ0 w0 Q (pc + 1) L ((0, mI x) :: st) w h) : mm_Wc D tys B old L0 scr p l e R s m args below meth c nL ρ0 w0 Q pc L ((1, x) :: st) w h := by
  intro ρ H locs ls sv hρ hH hS hL hst
  obtain ⟨v, sv, rfl, ⟨hx, rfl⟩, hs2⟩ := mm_SR_cons hst
  have hx' : mm_i64 x := hx
  refine lv_l2i F.1 F.2.1 hd ?_ (k ρ H locs ls (.int (Int32.ofInt (mI x)) :: sv) hρ hH hS hL ⟨⟨mI_r _, rfl⟩, hs2⟩)
  rw [← Int32.toInt_inj, Int64.toInt_toInt32, i32_o (mI_r _)]
  show (Int64.ofInt x).toInt.bmod _ = _
  rw [i64_o hx']
  rfl
theorem st_ladd (F : mm_Fr D tys B old L0 scr p s m args meth c nL own cc mn rt) {x y : Int} (hd : decode cc pc = .ok (.ladd, 1)) (k : mm_Wc D tys B old L0 scr p l e R s m args below meth c nL ρ0 w0 Q (pc + 1) L ((1, mJ (x + y)) :: st) w h) : mm_Wc D tys B old L0 scr p l e R s m args below meth c nL ρ0 w0 Q pc L ((1, y) :: (1, x) :: st) w h :=
  st_jj _ (fun _ _ => ⟨mJ_r _, fun _ _ _ _ _ _ kk => lv_ladd F.1 F.2.1 hd (by rw [mJ_J, Int64.ofInt_add] at kk; exact kk)⟩) k
theorem st_lsub (F : mm_Fr D tys B old L0 scr p s m args meth c nL own cc mn rt) {x y : Int} (hd : decode cc pc = .ok (.lsub, 1)) (k : mm_Wc D tys B old L0 scr p l e R s m args below meth c nL ρ0 w0 Q (pc + 1) L ((1, mJ (x - y)) :: st) w h) : mm_Wc D tys B old L0 scr p l e R s m args below meth c nL ρ0 w0 Q pc L ((1, y) :: (1, x) :: st) w h :=
  st_jj _ (fun _ _ => ⟨mJ_r _, fun _ _ _ _ _ _ kk => lv_lsub F.1 F.2.1 hd (by rw [mJ_J, Int64.ofInt_sub] at kk; exact kk)⟩) k
theorem st_lmul (F : mm_Fr D tys B old L0 scr p s m args meth c nL own cc mn rt) {x y : Int} (hd : decode cc pc = .ok (.lmul, 1)) (k : mm_Wc D tys B old L0 scr p l e R s m args below meth c nL ρ0 w0 Q (pc + 1) L ((1, mJ (x * y)) :: st) w h) : mm_Wc D tys B old L0 scr p l e R s m args below meth c nL ρ0 w0 Q pc L ((1, y) :: (1, x) :: st) w h :=
  st_jj _ (fun _ _ => ⟨mJ_r _, fun _ _ _ _ _ _ kk => lv_lmul F.1 F.2.1 hd (by rw [mJ_J, Int64.ofInt_mul] at kk; exact kk)⟩) k
theorem st_lneg (F : mm_Fr D tys B old L0 scr p s m args meth c nL own cc mn rt) {x : Int} (hd : decode cc pc = .ok (.lneg, 1)) (k : mm_Wc D tys B old L0 scr p l e R s m args below meth c nL ρ0 w0 Q (pc + 1) L ((1, mJ (-x)) :: st) w h) : mm_Wc D tys B old L0 scr p l e R s m args below meth c nL ρ0 w0 Q pc L ((1, x) :: st) w h := by
  intro ρ H locs ls sv hρ hH hS hL hst
  obtain ⟨v, sv, rfl, ⟨hx, rfl⟩, hs2⟩ := mm_SR_cons hst
  refine lv_lneg F.1 F.2.1 hd ?_
  have kk := k ρ H locs ls (.long (Int64.ofInt (mJ (-x))) :: sv) hρ hH hS hL ⟨⟨mJ_r _, rfl⟩, hs2⟩
  rw [mJ_J, Int64.ofInt_neg] at kk
  exact kk
theorem st_lcmp (F : mm_Fr D tys B old L0 scr p s m args meth c nL own cc mn rt) {x y : Int} (hd : decode cc pc = .ok (.lcmp, 1)) (k : mm_Wc D tys B old L0 scr p l e R s m args below meth c nL ρ0 w0 Q (pc + 1) L ((0, mCmp x y) :: st) w h) : mm_Wc D tys B old L0 scr p l e R s m args below meth c nL ρ0 w0 Q pc L ((1, y) :: (1, x) :: st) w h := by
  intro ρ H locs ls sv hρ hH hS hL hst
  obtain ⟨v, sv, rfl, ⟨hy, rfl⟩, hs2⟩ := mm_SR_cons hst
  obtain ⟨v, sv, rfl, ⟨hx, rfl⟩, hs3⟩ := mm_SR_cons hs2
  refine W.lcmp F.1 F.2.1 hd ?_
  rw [i64_cmp hx hy]
  exact k ρ H locs ls (.int (Int32.ofInt (mCmp x y)) :: sv) hρ hH hS hL ⟨⟨mCmp_r _ _, rfl⟩, hs3⟩
theorem mm_cat1 {ρ : List Nat} {v : mm_V} {x : Value} (h : mm_VR old ρ v x) (hv : ¬ v.1 = 1) : x.category = 1 := by
  rcases lv_cat x with q | q
  · exact q
  · exact absurd ((mm_VR_cat h).mp q) hv
theorem st_dup (F : mm_Fr D tys B old L0 scr p s m args meth c nL own cc mn rt) {v : mm_V} (hv : ¬ v.1 = 1) (hd : decode cc pc = .ok (.dup, 1)) (k : mm_Wc D tys B old L0 scr p l e R s m args below meth c nL ρ0 w0 Q (pc + 1) L (v :: v :: st) w h) : mm_Wc D tys B old L0 scr p l e R s m args below meth c nL ρ0 w0 Q pc L (v :: st) w h := by
  intro ρ H locs ls sv hρ hH hS hL hst
  obtain ⟨x, sv, rfl, hx, hs2⟩ := mm_SR_cons hst
  exact lv_dup F.1 F.2.1 hd (mm_cat1 hx hv) (k ρ H locs ls (x :: x :: sv) hρ hH hS hL ⟨hx, hx, hs2⟩)
theorem st_dup2 (F : mm_Fr D tys B old L0 scr p s m args meth c nL own cc mn rt) {u v : mm_V} (hu : ¬ u.1 = 1) (hv : ¬ v.1 = 1) (hd : decode cc pc = .ok (.dup2, 1)) (k : mm_Wc D tys B old L0 scr p l e R s m args below meth c nL ρ0 w0 Q (pc + 1) L (u :: v :: u :: v :: st) w h) : mm_Wc D tys B old L0 scr p l e R s m args below meth c nL ρ0 w0 Q pc L (u :: v :: st) w h := by
  intro ρ H locs ls sv hρ hH hS hL hst
  obtain ⟨x, sv, rfl, hx, hs2⟩ := mm_SR_cons hst
  obtain ⟨y, sv, rfl, hy, hs3⟩ := mm_SR_cons hs2
  exact lv_dup2_11 F.1 F.2.1 hd (mm_cat1 hx hu) (mm_cat1 hy hv) (k ρ H locs ls (x :: y :: x :: y :: sv) hρ hH hS hL ⟨hx, hy, hx, hy, hs3⟩)
theorem st_pop (F : mm_Fr D tys B old L0 scr p s m args meth c nL own cc mn rt) {v : mm_V} (hv : ¬ v.1 = 1) (hd : decode cc pc = .ok (.pop, 1)) (k : mm_Wc D tys B old L0 scr p l e R s m args below meth c nL ρ0 w0 Q (pc + 1) L st w h) : mm_Wc D tys B old L0 scr p l e R s m args below meth c nL ρ0 w0 Q pc L (v :: st) w h := by
  intro ρ H locs ls sv hρ hH hS hL hst
  obtain ⟨x, sv, rfl, hx, hs2⟩ := mm_SR_cons hst
  exact lv_pop F.1 F.2.1 hd (mm_cat1 hx hv) (k ρ H locs ls sv hρ hH hS hL hs2)
theorem st_goto (F : mm_Fr D tys B old L0 scr p s m args meth c nL own cc mn rt) {off : Int} {t : Nat} (hd : decode cc pc = .ok (.goto off, 3)) (ht : (pc : Int) + off = (t : Int)) (k : mm_Wc D tys B old L0 scr p l e R s m args below meth c nL ρ0 w0 Q t L st w h) : mm_Wc D tys B old L0 scr p l e R s m args below meth c nL ρ0 w0 Q pc L st w h := by
  intro ρ H locs ls sv hρ hH hS hL hst
  exact lv_goto F.1 F.2.1 hd ht (k ρ H locs ls sv hρ hH hS hL hst)
end MM
end
section
section MM
variable {D : va_G} {tys : List (ClassId × FieldType)} {B : Nat} {old : Int → Nat} {L0 : Nat} {scr : Nat → Int32}
variable {p : Program} {l : Launch} {e : Env} {R : Room} {s : State} {m : MethodId} {args : Array Value} {below : List Frame} {meth : Method} {c : Code} {nL : Nat} {ρ0 : List Nat} {w0 : mm_W} {Q : State → Prop}
variable {own : String} {cc : ByteArray} {mn : String} {rt : Option FieldType} {pc : Nat} {L st : List mm_V} {w : mm_W} {h : mm_H} {nx : Nat} {tx : String}

theorem st_icmp_lt (F : mm_Fr D tys B old L0 scr p s m args meth c nL own cc mn rt) {x y : Int} {off : Int} {t : Nat} (hd : decode cc pc = .ok (.if_icmp .lt off, 3)) (ht : (pc : Int) + off = (t : Int)) (kt : x < y → mm_Wc D tys B old L0 scr p l e R s m args below meth c nL ρ0 w0 Q t L st w h) (kf : ¬ (x < y) → mm_Wc D tys B old L0 scr p l e R s m args below meth c nL ρ0 w0 Q (pc + 3) L st w h) : mm_Wc D tys B old L0 scr p l e R s m args below meth c nL ρ0 w0 Q pc L ((0, y) :: (0, x) :: st) w h := by
  intro ρ H locs ls sv hρ hH hS hL hst
  obtain ⟨v, sv, rfl, ⟨hy, rfl⟩, hs2⟩ := mm_SR_cons hst
  obtain ⟨v, sv, rfl, ⟨hx, rfl⟩, hs3⟩ := mm_SR_cons hs2
  have hx : mm_i32 x := hx
  have hy : mm_i32 y := hy
  have e := i32_lt hx hy
  refine lv_icmp_lt F.1 F.2.1 hd ht (fun q => kt (e.mp q) ρ H locs ls sv hρ hH hS hL hs3) (fun q => kf (fun z => q (e.mpr z)) ρ H locs ls sv hρ hH hS hL hs3)
theorem st_if_lt (F : mm_Fr D tys B old L0 scr p s m args meth c nL own cc mn rt) {x : Int} {off : Int} {t : Nat} (hd : decode cc pc = .ok (.ifCond .lt off, 3)) (ht : (pc : Int) + off = (t : Int)) (kt : x < 0 → mm_Wc D tys B old L0 scr p l e R s m args below meth c nL ρ0 w0 Q t L st w h) (kf : ¬ (x < 0) → mm_Wc D tys B old L0 scr p l e R s m args below meth c nL ρ0 w0 Q (pc + 3) L st w h) : mm_Wc D tys B old L0 scr p l e R s m args below meth c nL ρ0 w0 Q pc L ((0, x) :: st) w h := by
  intro ρ H locs ls sv hρ hH hS hL hst
  obtain ⟨v, sv, rfl, ⟨hx, rfl⟩, hs3⟩ := mm_SR_cons hst
  have hx : mm_i32 x := hx
  have e := i32_lt hx i32_z
  refine lv_if_lt F.1 F.2.1 hd ht (fun q => kt (e.mp q) ρ H locs ls sv hρ hH hS hL hs3) (fun q => kf (fun z => q (e.mpr z)) ρ H locs ls sv hρ hH hS hL hs3)
theorem st_icmp_le (F : mm_Fr D tys B old L0 scr p s m args meth c nL own cc mn rt) {x y : Int} {off : Int} {t : Nat} (hd : decode cc pc = .ok (.if_icmp .le off, 3)) (ht : (pc : Int) + off = (t : Int)) (kt : x ≤ y → mm_Wc D tys B old L0 scr p l e R s m args below meth c nL ρ0 w0 Q t L st w h) (kf : ¬ (x ≤ y) → mm_Wc D tys B old L0 scr p l e R s m args below meth c nL ρ0 w0 Q (pc + 3) L st w h) : mm_Wc D tys B old L0 scr p l e R s m args below meth c nL ρ0 w0 Q pc L ((0, y) :: (0, x) :: st) w h := by
  intro ρ H locs ls sv hρ hH hS hL hst
  obtain ⟨v, sv, rfl, ⟨hy, rfl⟩, hs2⟩ := mm_SR_cons hst
  obtain ⟨v, sv, rfl, ⟨hx, rfl⟩, hs3⟩ := mm_SR_cons hs2
  have hx : mm_i32 x := hx
  have hy : mm_i32 y := hy
  have e := i32_le hx hy
  refine lv_icmp_le F.1 F.2.1 hd ht (fun q => kt (e.mp q) ρ H locs ls sv hρ hH hS hL hs3) (fun q => kf (fun z => q (e.mpr z)) ρ H locs ls sv hρ hH hS hL hs3)
theorem st_if_le (F : mm_Fr D tys B old L0 scr p s m args meth c nL own cc mn rt) {x : Int} {off : Int} {t : Nat} (hd : decode cc pc = .ok (.ifCond .le off, 3)) (ht : (pc : Int) + off = (t : Int)) (kt : x ≤ 0 → mm_Wc D tys B old L0 scr p l e R s m args below meth c nL ρ0 w0 Q t L st w h) (kf : ¬ (x ≤ 0) → mm_Wc D tys B old L0 scr p l e R s m args below meth c nL ρ0 w0 Q (pc + 3) L st w h) : mm_Wc D tys B old L0 scr p l e R s m args below meth c nL ρ0 w0 Q pc L ((0, x) :: st) w h := by
  intro ρ H locs ls sv hρ hH hS hL hst
  obtain ⟨v, sv, rfl, ⟨hx, rfl⟩, hs3⟩ := mm_SR_cons hst
  have hx : mm_i32 x := hx
  have e := i32_le hx i32_z
  refine lv_if_le F.1 F.2.1 hd ht (fun q => kt (e.mp q) ρ H locs ls sv hρ hH hS hL hs3) (fun q => kf (fun z => q (e.mpr z)) ρ H locs ls sv hρ hH hS hL hs3)
theorem st_icmp_gt (F : mm_Fr D tys B old L0 scr p s m args meth c nL own cc mn rt) {x y : Int} {off : Int} {t : Nat} (hd : decode cc pc = .ok (.if_icmp .gt off, 3)) (ht : (pc : Int) + off = (t : Int)) (kt : y < x → mm_Wc D tys B old L0 scr p l e R s m args below meth c nL ρ0 w0 Q t L st w h) (kf : ¬ (y < x) → mm_Wc D tys B old L0 scr p l e R s m args below meth c nL ρ0 w0 Q (pc + 3) L st w h) : mm_Wc D tys B old L0 scr p l e R s m args below meth c nL ρ0 w0 Q pc L ((0, y) :: (0, x) :: st) w h := by
  intro ρ H locs ls sv hρ hH hS hL hst
  obtain ⟨v, sv, rfl, ⟨hy, rfl⟩, hs2⟩ := mm_SR_cons hst
  obtain ⟨v, sv, rfl, ⟨hx, rfl⟩, hs3⟩ := mm_SR_cons hs2
  have hx : mm_i32 x := hx
  have hy : mm_i32 y := hy
  have e := i32_lt hy hx
  refine lv_icmp_gt F.1 F.2.1 hd ht (fun q => kt (e.mp q) ρ H locs ls sv hρ hH hS hL hs3) (fun q => kf (fun z => q (e.mpr z)) ρ H locs ls sv hρ hH hS hL hs3)
theorem st_if_gt (F : mm_Fr D tys B old L0 scr p s m args meth c nL own cc mn rt) {x : Int} {off : Int} {t : Nat} (hd : decode cc pc = .ok (.ifCond .gt off, 3)) (ht : (pc : Int) + off = (t : Int)) (kt : 0 < x → mm_Wc D tys B old L0 scr p l e R s m args below meth c nL ρ0 w0 Q t L st w h) (kf : ¬ (0 < x) → mm_Wc D tys B old L0 scr p l e R s m args below meth c nL ρ0 w0 Q (pc + 3) L st w h) : mm_Wc D tys B old L0 scr p l e R s m args below meth c nL ρ0 w0 Q pc L ((0, x) :: st) w h := by
  intro ρ H locs ls sv hρ hH hS hL hst
  obtain ⟨v, sv, rfl, ⟨hx, rfl⟩, hs3⟩ := mm_SR_cons hst
  have hx : mm_i32 x := hx
  have e := i32_lt i32_z hx
  refine lv_if_gt F.1 F.2.1 hd ht (fun q => kt (e.mp q) ρ H locs ls sv hρ hH hS hL hs3) (fun q => kf (fun z => q (e.mpr z)) ρ H locs ls sv hρ hH hS hL hs3)
theorem st_icmp_ge (F : mm_Fr D tys B old L0 scr p s m args meth c nL own cc mn rt) {x y : Int} {off : Int} {t : Nat} (hd : decode cc pc = .ok (.if_icmp .ge off, 3)) (ht : (pc : Int) + off = (t : Int)) (kt : y ≤ x → mm_Wc D tys B old L0 scr p l e R s m args below meth c nL ρ0 w0 Q t L st w h) (kf : ¬ (y ≤ x) → mm_Wc D tys B old L0 scr p l e R s m args below meth c nL ρ0 w0 Q (pc + 3) L st w h) : mm_Wc D tys B old L0 scr p l e R s m args below meth c nL ρ0 w0 Q pc L ((0, y) :: (0, x) :: st) w h := by
  intro ρ H locs ls sv hρ hH hS hL hst
  obtain ⟨v, sv, rfl, ⟨hy, rfl⟩, hs2⟩ := mm_SR_cons hst
  obtain ⟨v, sv, rfl, ⟨hx, rfl⟩, hs3⟩ := mm_SR_cons hs2
  have hx : mm_i32 x := hx
  have hy : mm_i32 y := hy
  have e := i32_le hy hx
  refine lv_icmp_ge F.1 F.2.1 hd ht (fun q => kt (e.mp q) ρ H locs ls sv hρ hH hS hL hs3) (fun q => kf (fun z => q (e.mpr z)) ρ H locs ls sv hρ hH hS hL hs3)
theorem st_if_ge (F : mm_Fr D tys B old L0 scr p s m args meth c nL own cc mn rt) {x : Int} {off : Int} {t : Nat} (hd : decode cc pc = .ok (.ifCond .ge off, 3)) (ht : (pc : Int) + off = (t : Int)) (kt : 0 ≤ x → mm_Wc D tys B old L0 scr p l e R s m args below meth c nL ρ0 w0 Q t L st w h) (kf : ¬ (0 ≤ x) → mm_Wc D tys B old L0 scr p l e R s m args below meth c nL ρ0 w0 Q (pc + 3) L st w h) : mm_Wc D tys B old L0 scr p l e R s m args below meth c nL ρ0 w0 Q pc L ((0, x) :: st) w h := by
  intro ρ H locs ls sv hρ hH hS hL hst
  obtain ⟨v, sv, rfl, ⟨hx, rfl⟩, hs3⟩ := mm_SR_cons hst
  have hx : mm_i32 x := hx
  have e := i32_le i32_z hx
  refine lv_if_ge F.1 F.2.1 hd ht (fun q => kt (e.mp q) ρ H locs ls sv hρ hH hS hL hs3) (fun q => kf (fun z => q (e.mpr z)) ρ H locs ls sv hρ hH hS hL hs3)
theorem st_icmp_eq (F : mm_Fr D tys B old L0 scr p s m args meth c nL own cc mn rt) {x y : Int} {off : Int} {t : Nat} (hd : decode cc pc = .ok (.if_icmp .eq off, 3)) (ht : (pc : Int) + off = (t : Int)) (kt : x = y → mm_Wc D tys B old L0 scr p l e R s m args below meth c nL ρ0 w0 Q t L st w h) (kf : ¬ (x = y) → mm_Wc D tys B old L0 scr p l e R s m args below meth c nL ρ0 w0 Q (pc + 3) L st w h) : mm_Wc D tys B old L0 scr p l e R s m args below meth c nL ρ0 w0 Q pc L ((0, y) :: (0, x) :: st) w h := by
  intro ρ H locs ls sv hρ hH hS hL hst
  obtain ⟨v, sv, rfl, ⟨hy, rfl⟩, hs2⟩ := mm_SR_cons hst
  obtain ⟨v, sv, rfl, ⟨hx, rfl⟩, hs3⟩ := mm_SR_cons hs2
  have hx : mm_i32 x := hx
  have hy : mm_i32 y := hy
  have e := i32_eq hx hy
  refine lv_icmp_eq F.1 F.2.1 hd ht (fun q => kt (e.mp q) ρ H locs ls sv hρ hH hS hL hs3) (fun q => kf (fun z => q (e.mpr z)) ρ H locs ls sv hρ hH hS hL hs3)
theorem st_if_eq (F : mm_Fr D tys B old L0 scr p s m args meth c nL own cc mn rt) {x : Int} {off : Int} {t : Nat} (hd : decode cc pc = .ok (.ifCond .eq off, 3)) (ht : (pc : Int) + off = (t : Int)) (kt : x = 0 → mm_Wc D tys B old L0 scr p l e R s m args below meth c nL ρ0 w0 Q t L st w h) (kf : ¬ (x = 0) → mm_Wc D tys B old L0 scr p l e R s m args below meth c nL ρ0 w0 Q (pc + 3) L st w h) : mm_Wc D tys B old L0 scr p l e R s m args below meth c nL ρ0 w0 Q pc L ((0, x) :: st) w h := by
  intro ρ H locs ls sv hρ hH hS hL hst
  obtain ⟨v, sv, rfl, ⟨hx, rfl⟩, hs3⟩ := mm_SR_cons hst
  have hx : mm_i32 x := hx
  have e := i32_eq hx i32_z
  refine lv_if_eq F.1 F.2.1 hd ht (fun q => kt (e.mp q) ρ H locs ls sv hρ hH hS hL hs3) (fun q => kf (fun z => q (e.mpr z)) ρ H locs ls sv hρ hH hS hL hs3)
theorem st_icmp_ne (F : mm_Fr D tys B old L0 scr p s m args meth c nL own cc mn rt) {x y : Int} {off : Int} {t : Nat} (hd : decode cc pc = .ok (.if_icmp .ne off, 3)) (ht : (pc : Int) + off = (t : Int)) (kt : ¬ x = y → mm_Wc D tys B old L0 scr p l e R s m args below meth c nL ρ0 w0 Q t L st w h) (kf : x = y → mm_Wc D tys B old L0 scr p l e R s m args below meth c nL ρ0 w0 Q (pc + 3) L st w h) : mm_Wc D tys B old L0 scr p l e R s m args below meth c nL ρ0 w0 Q pc L ((0, y) :: (0, x) :: st) w h := by
  intro ρ H locs ls sv hρ hH hS hL hst
  obtain ⟨v, sv, rfl, ⟨hy, rfl⟩, hs2⟩ := mm_SR_cons hst
  obtain ⟨v, sv, rfl, ⟨hx, rfl⟩, hs3⟩ := mm_SR_cons hs2
  have hx : mm_i32 x := hx
  have hy : mm_i32 y := hy
  have e := i32_eq hx hy
  refine lv_icmp_ne F.1 F.2.1 hd ht (fun q => kt (fun z => q (e.mpr z)) ρ H locs ls sv hρ hH hS hL hs3) (fun q => kf (e.mp q) ρ H locs ls sv hρ hH hS hL hs3)
theorem st_if_ne (F : mm_Fr D tys B old L0 scr p s m args meth c nL own cc mn rt) {x : Int} {off : Int} {t : Nat} (hd : decode cc pc = .ok (.ifCond .ne off, 3)) (ht : (pc : Int) + off = (t : Int)) (kt : ¬ x = 0 → mm_Wc D tys B old L0 scr p l e R s m args below meth c nL ρ0 w0 Q t L st w h) (kf : x = 0 → mm_Wc D tys B old L0 scr p l e R s m args below meth c nL ρ0 w0 Q (pc + 3) L st w h) : mm_Wc D tys B old L0 scr p l e R s m args below meth c nL ρ0 w0 Q pc L ((0, x) :: st) w h := by
  intro ρ H locs ls sv hρ hH hS hL hst
  obtain ⟨v, sv, rfl, ⟨hx, rfl⟩, hs3⟩ := mm_SR_cons hst
  have hx : mm_i32 x := hx
  have e := i32_eq hx i32_z
  refine lv_if_ne F.1 F.2.1 hd ht (fun q => kt (fun z => q (e.mpr z)) ρ H locs ls sv hρ hH hS hL hs3) (fun q => kf (e.mp q) ρ H locs ls sv hρ hH hS hL hs3)
theorem mm_adr_0 {ρ : List Nat} : mm_adr old ρ 0 = none := rfl
theorem mm_adr_some {ρ : List Nat} {x : Int} (hx : x ≤ ρ.length) (h0 : ¬ x = 0) : ∃ a, mm_adr old ρ x = some a := by
  unfold mm_adr
  by_cases h1 : x < 0
  · rw [if_pos h1]; exact ⟨_, rfl⟩
  · rw [if_neg h1, if_neg h0]
    exact ⟨_, List.getElem?_eq_getElem (by omega)⟩
theorem st_ifnull (F : mm_Fr D tys B old L0 scr p s m args meth c nL own cc mn rt) {x : Int} {off : Int} {t : Nat} (hd : decode cc pc = .ok (.ifnull off, 3)) (ht : (pc : Int) + off = (t : Int)) (kt : x = 0 → mm_Wc D tys B old L0 scr p l e R s m args below meth c nL ρ0 w0 Q t L st w h) (kf : ¬ x = 0 → mm_Wc D tys B old L0 scr p l e R s m args below meth c nL ρ0 w0 Q (pc + 3) L st w h) : mm_Wc D tys B old L0 scr p l e R s m args below meth c nL ρ0 w0 Q pc L ((2, x) :: st) w h := by
  intro ρ H locs ls sv hρ hH hS hL hst
  obtain ⟨v, sv, rfl, ⟨hx, rfl⟩, hs3⟩ := mm_SR_cons hst
  by_cases h0 : x = 0
  · rw [show mm_adr old ρ ((2, x) : mm_V).2 = none by rw [show ((2, x) : mm_V).2 = 0 from h0]; rfl]
    exact lv_ifnullN F.1 F.2.1 hd ht (kt h0 ρ H locs ls sv hρ hH hS hL hs3)
  · obtain ⟨a, ha⟩ := mm_adr_some (old := old) (ρ := ρ) hx h0
    rw [ha]
    exact lv_ifnull F.1 F.2.1 hd (kf h0 ρ H locs ls sv hρ hH hS hL hs3)
theorem st_ifnonnull (F : mm_Fr D tys B old L0 scr p s m args meth c nL own cc mn rt) {x : Int} {off : Int} {t : Nat} (hd : decode cc pc = .ok (.ifnonnull off, 3)) (ht : (pc : Int) + off = (t : Int)) (kt : ¬ x = 0 → mm_Wc D tys B old L0 scr p l e R s m args below meth c nL ρ0 w0 Q t L st w h) (kf : x = 0 → mm_Wc D tys B old L0 scr p l e R s m args below meth c nL ρ0 w0 Q (pc + 3) L st w h) : mm_Wc D tys B old L0 scr p l e R s m args below meth c nL ρ0 w0 Q pc L ((2, x) :: st) w h := by
  intro ρ H locs ls sv hρ hH hS hL hst
  obtain ⟨v, sv, rfl, ⟨hx, rfl⟩, hs3⟩ := mm_SR_cons hst
  by_cases h0 : x = 0
  · rw [show mm_adr old ρ ((2, x) : mm_V).2 = none by rw [show ((2, x) : mm_V).2 = 0 from h0]; rfl]
    exact lv_ifnonnullN F.1 F.2.1 hd (kf h0 ρ H locs ls sv hρ hH hS hL hs3)
  · obtain ⟨a, ha⟩ := mm_adr_some (old := old) (ρ := ρ) hx h0
    rw [ha]
    exact lv_ifnonnull F.1 F.2.1 hd ht (kt h0 ρ H locs ls sv hρ hH hS hL hs3)
theorem st_null (F : mm_Fr D tys B old L0 scr p s m args meth c nL own cc mn rt) (hd : decode cc pc = .ok (.aconst_null, 1)) (k : mm_Wc D tys B old L0 scr p l e R s m args below meth c nL ρ0 w0 Q (pc + 1) L ((2, 0) :: st) w h) : mm_Wc D tys B old L0 scr p l e R s m args below meth c nL ρ0 w0 Q pc L st w h := by
  intro ρ H locs ls sv hρ hH hS hL hst
  exact lv_null F.1 F.2.1 hd (k ρ H locs ls (.null :: sv) hρ hH hS hL ⟨⟨by show (0 : Int) ≤ _; omega, rfl⟩, hst⟩)
theorem st_lconst (F : mm_Fr D tys B old L0 scr p s m args meth c nL own cc mn rt) {q : Fin 2} (hd : decode cc pc = .ok (.lconst q, 1)) (k : mm_Wc D tys B old L0 scr p l e R s m args below meth c nL ρ0 w0 Q (pc + 1) L ((1, ((q : Nat) : Int)) :: st) w h) : mm_Wc D tys B old L0 scr p l e R s m args below meth c nL ρ0 w0 Q pc L st w h := by
  intro ρ H locs ls sv hρ hH hS hL hst
  have hq := q.isLt
  refine lv_lconst F.1 F.2.1 hd (v := Int64.ofInt ((q : Nat) : Int)) ?_ (k ρ H locs ls (.long (Int64.ofInt ((q : Nat) : Int)) :: sv) hρ hH hS hL ⟨⟨⟨by show _ ≤ ((q : Nat) : Int); omega, by show ((q : Nat) : Int) < _; omega⟩, rfl⟩, hst⟩)
  rw [Int64.ofInt_eq_ofNat]
theorem st_ldc (F : mm_Fr D tys B old L0 scr p s m args meth c nL own cc mn rt) {i : Nat} {n : Int} (hn : mm_i32 n) (hw : Jvm.Cond.constant own i (Int32.ofInt n) ∈ lw_g) (hd : (decode cc pc = .ok (.ldc i, 2) ∧ nx = pc + 2) ∨ (decode cc pc = .ok (.ldc_w i, 3) ∧ nx = pc + 3)) (k : mm_Wc D tys B old L0 scr p l e R s m args below meth c nL ρ0 w0 Q nx L ((0, n) :: st) w h) : mm_Wc D tys B old L0 scr p l e R s m args below meth c nL ρ0 w0 Q pc L st w h := by
  intro ρ H locs ls sv hρ hH hS hL hst
  have k2 := k ρ H locs ls (.int (Int32.ofInt n) :: sv) hρ hH hS hL ⟨⟨hn, rfl⟩, hst⟩
  rcases hd with ⟨hd, rfl⟩ | ⟨hd, rfl⟩
  · exact lv_ldc F.1 F.2.1 F.2.2.2.1 (F.2.2.2.2.1 _ hw) hd k2
  · exact lv_ldcw F.1 F.2.1 F.2.2.2.1 (F.2.2.2.2.1 _ hw) hd k2
theorem st_ldc2 (F : mm_Fr D tys B old L0 scr p s m args meth c nL own cc mn rt) {i : Nat} {n : Int} (hn : mm_i64 n) (hw : Jvm.Cond.constantLong own i (Int64.ofInt n) ∈ lw_g) (hd : decode cc pc = .ok (.ldc2_w i, 3)) (k : mm_Wc D tys B old L0 scr p l e R s m args below meth c nL ρ0 w0 Q (pc + 3) L ((1, n) :: st) w h) : mm_Wc D tys B old L0 scr p l e R s m args below meth c nL ρ0 w0 Q pc L st w h := by
  intro ρ H locs ls sv hρ hH hS hL hst
  exact lv_ldc2 F.1 F.2.1 F.2.2.2.1 (F.2.2.2.2.1 _ hw) hd (k ρ H locs ls (.long (Int64.ofInt n) :: sv) hρ hH hS hL ⟨⟨hn, rfl⟩, hst⟩)
theorem st_ldcS (F : mm_Fr D tys B old L0 scr p s m args meth c nL own cc mn rt) {i q : Nat} (hq : q < 12) (hw : mm_nth ("", 0, "") q mm_str = (own, i, tx)) (hd : decode cc pc = .ok (.ldc i, 2)) (k : mm_Wc D tys B old L0 scr p l e R s m args below meth c nL ρ0 w0 Q (pc + 2) L ((2, -(10 + 2 * (q : Int))) :: st) w h) : mm_Wc D tys B old L0 scr p l e R s m args below meth c nL ρ0 w0 Q pc L st w h := by
  intro ρ H locs ls sv hρ hH hS hL hst
  have hR := F.2.2.2.2.2.1.2.2.2.2.2.1 q hq
  rw [hw] at hR
  refine va_ldcS F.1 F.2.1 F.2.2.2.1 hR hd (k ρ H locs ls (.ref (old (-(10 + 2 * (q : Int)))) :: sv) hρ hH hS hL ⟨⟨by show -(10 + 2 * (q : Int)) ≤ _; omega, ?_⟩, hst⟩)
  show _ = va_rf (mm_adr old ρ (-(10 + 2 * (q : Int))))
  unfold mm_adr
  rw [if_pos (by omega)]
  rfl
theorem st_getsI (F : mm_Fr D tys B old L0 scr p s m args meth c nL own cc mn rt) {i : Nat} (hw : Jvm.Cond.fieldLink own i "java/lang/String" "COMPACT_STRINGS" "Z" ∈ lw_g) (hd : decode cc pc = .ok (.getstatic i, 3)) (k : mm_Wc D tys B old L0 scr p l e R s m args below meth c nL ρ0 w0 Q (pc + 3) L ((0, 1) :: st) w h) : mm_Wc D tys B old L0 scr p l e R s m args below meth c nL ρ0 w0 Q pc L st w h := by
  intro ρ H locs ls sv hρ hH hS hL hst
  exact va_gets F.1 F.2.1 F.2.2.2.2.2.1.2.2.2.2.2.2.1 hS F.2.2.2.1 (F.2.2.2.2.1 _ hw) (fun _ h => h) hd (k ρ H locs ls (.int 1 :: sv) hρ hH hS hL ⟨⟨by unfold mm_i32; decide, rfl⟩, hst⟩)
theorem st_getsR (F : mm_Fr D tys B old L0 scr p s m args meth c nL own cc mn rt) {i : Nat} (hw : Jvm.Cond.fieldLink own i "jdk/internal/util/Preconditions" "SIOOBE_FORMATTER" "Ljava/util/function/BiFunction;" ∈ lw_g) (hd : decode cc pc = .ok (.getstatic i, 3)) (k : mm_Wc D tys B old L0 scr p l e R s m args below meth c nL ρ0 w0 Q (pc + 3) L ((3, 0) :: st) w h) : mm_Wc D tys B old L0 scr p l e R s m args below meth c nL ρ0 w0 Q pc L st w h := by
  intro ρ H locs ls sv hρ hH hS hL hst
  rcases F.2.2.2.2.2.1.2.2.2.2.2.2.2.1 with hZ | ⟨t, hZ⟩
  · exact va_gets F.1 F.2.1 hZ hS F.2.2.2.1 (F.2.2.2.2.1 _ hw) (fun _ h => h) hd (k ρ H locs ls (.null :: sv) hρ hH hS hL ⟨⟨none, rfl⟩, hst⟩)
  · exact va_gets F.1 F.2.1 hZ hS F.2.2.2.1 (F.2.2.2.2.1 _ hw) (fun _ h => h) hd (k ρ H locs ls (.ref t :: sv) hρ hH hS hL ⟨⟨some t, rfl⟩, hst⟩)
end MM
end
section
/-- what is known of a field's entry of a class's pool -/
def mm_fOK (own : String) (i ci k : Nat) : Prop := ∃ (C : String) (T : u_T) (N : Nat) (ty : Nat → FieldType), mm_cls[ci]? = some (C, T, N) ∧ N = mm_nf (ci + 1) ∧ k < N ∧ (∀ w ∈ u_ws C T N, w ∈ lw_g) ∧ (∀ j, j < N → parseFieldDescriptor (T j).2.2.1 = some (ty j)) ∧ (∀ a, a < N → ∀ b, b < N → a ≠ b → (T a).2.1 ≠ (T b).2.1) ∧ Jvm.Cond.fieldLink own i C (T k).2.1 (T k).2.2.1 ∈ lw_g ∧ (T k).1 = C ∧
  ((mm_ft (ci + 1) k = 0 ∧ (ty k = .int ∨ ty k = .boolean)) ∨ (mm_ft (ci + 1) k = 1 ∧ ty k = .long) ∨ (mm_ft (ci + 1) k = 2 ∧ ((∃ n, ty k = .object n) ∨ ∃ n, ty k = .array n)))
theorem mm_ft_le {own : String} {i ci k : Nat} (hf : mm_fOK own i ci k) : mm_ft (ci + 1) k = 0 ∨ mm_ft (ci + 1) k = 1 ∨ mm_ft (ci + 1) k = 2 := by
  obtain ⟨_, _, _, _, -, -, -, -, -, -, -, -, h | h | h⟩ := hf
  · exact Or.inl h.1
  · exact Or.inr (Or.inl h.1)
  · exact Or.inr (Or.inr h.1)
theorem mm_cls_lt {ci : Nat} {x : vw_C} (h : mm_cls[ci]? = some x) : ci < 13 := by
  have := (List.getElem?_eq_some_iff.mp h).1
  exact this
theorem mm_neg_kind {L0 : Nat} {scr : Nat → Int32} {w : mm_W} {h : mm_H} {a : Int} (hn : mm_neg L0 scr w h) (ha : a ≤ 0) : (w.1 a).1 = 0 ∨ (a = -1 ∧ (w.1 a).1 = 50) ∨ (w.1 a).1 = 14 ∨ (w.1 a).1 = 54 := by
  obtain ⟨h1, -, -, h2, h3⟩ := hn
  by_cases e : a = -1
  · subst e; rw [h1]; exact Or.inr (Or.inl ⟨rfl, rfl⟩)
  · by_cases q : ∀ i : Nat, i < 12 → a ≠ -(10 + 2 * (i : Int)) ∧ a ≠ -(11 + 2 * (i : Int))
    · exact Or.inl (h3 a ha e q)
    · simp only [Classical.not_forall] at q
      obtain ⟨i, hi, q⟩ := q
      obtain ⟨g1, -, -, g2, -⟩ := h2 i hi
      by_cases e2 : a = -(10 + 2 * (i : Int))
      · subst e2; rw [g1]; exact Or.inr (Or.inr (Or.inl rfl))
      · have e3 : a = -(11 + 2 * (i : Int)) := Classical.byContradiction fun z => q ⟨e2, z⟩
        subst e3; rw [g2]; exact Or.inr (Or.inr (Or.inr rfl))
theorem mm_pos {D : va_G} {tys : List (ClassId × FieldType)} {B : Nat} {old : Int → Nat} {L0 : Nat} {scr : Nat → Int32} {ρ : List Nat} {w : mm_W} {h : mm_H} {H : Heap} {a : Int} (hH : mm_HR D tys B old L0 scr ρ w h H) (h0 : (w.1 a).1 ≠ 0) (h14 : (w.1 a).1 ≠ 14) (h54 : (w.1 a).1 ≠ 54) (h50 : (w.1 a).1 ≠ 50 ∨ 0 < a) : 1 ≤ a ∧ a ≤ ρ.length := by
  obtain ⟨-, -, hz, hn, -⟩ := hH
  have h1 : 0 < a := by
    rcases h50 with h50 | h50
    · rcases Int.lt_or_le 0 a with q | q
      · exact q
      · rcases mm_neg_kind hn q with g | ⟨-, g⟩ | g | g
        · exact absurd g h0
        · exact absurd g h50
        · exact absurd g h14
        · exact absurd g h54
    · exact h50
  refine ⟨h1, ?_⟩
  rcases Int.lt_or_le ρ.length a with q | q
  · exact absurd (hz a q) h0
  · exact q
theorem mm_adr_at {old : Int → Nat} {ρ : List Nat} {a : Int} (h1 : 1 ≤ a) (h2 : a ≤ ρ.length) : mm_adr old ρ a = some (ρ.getD (a.toNat - 1) 0) := by
  unfold mm_adr
  rw [if_neg (by omega), if_neg (by omega), List.getD_eq_getElem?_getD, List.getElem?_eq_getElem (by omega)]
  rfl
theorem mm_ws_at {old : Int → Nat} {tys : List (ClassId × FieldType)} {ρ : List Nat} {w : mm_W} {h : mm_H} {a : Int} (h1 : 1 ≤ a) (h2 : a ≤ ρ.length) : (mm_ws old tys ρ w h)[a.toNat - 1]? = some (ρ.getD (a.toNat - 1) 0, mm_ent old tys ρ w h a) := by
  rw [mm_ws_get (by omega)]
  congr 3
  omega
theorem mm_ws_put {old : Int → Nat} {tys : List (ClassId × FieldType)} {ρ : List Nat} {w : mm_W} {h h2 : mm_H} {a : Int} (h1 : 1 ≤ a) (hh : ∀ b j, b ≠ a → h2 b j = h b j) : (mm_ws old tys ρ w h).set (a.toNat - 1) (ρ.getD (a.toNat - 1) 0, mm_ent old tys ρ w h2 a) = mm_ws old tys ρ w h2 := by
  have e : a = ((a.toNat - 1 : Nat) : Int) + 1 := by omega
  have := mm_ws_set (old := old) (tys := tys) (ρ := ρ) (w := w) (h := h) (h2 := h2) (i := a.toNat - 1) (fun b j hb => hh b j (by omega))
  rw [← e] at this
  exact this
theorem mm_neg_up {L0 : Nat} {scr : Nat → Int32} {w w2 : mm_W} {h h2 : mm_H} (hn : mm_neg L0 scr w h) (hw : ∀ a : Int, a ≤ 0 → w2.1 a = w.1 a) (hh : ∀ a j : Int, a ≤ 0 → h2 a j = h a j) : mm_neg L0 scr w2 h2 := by
  obtain ⟨h1, h1b, h1c, h2', h3⟩ := hn
  refine ⟨by rw [hw _ (by omega)]; exact h1, h1b, fun j hj => by rw [hh _ _ (by omega)]; exact h1c j hj, fun i hi => ?_, fun a ha hb hc => by rw [hw _ ha]; exact h3 a ha hb hc⟩
  obtain ⟨g1, g2, g3, g4, g5⟩ := h2' i hi
  refine ⟨by rw [hw _ (by omega)]; exact g1, by rw [hh _ _ (by omega)]; exact g2, by rw [hh _ _ (by omega)]; exact g3, by rw [hw _ (by omega)]; exact g4, fun j hj => by rw [hh _ _ (by omega)]; exact g5 j hj⟩
theorem mm_HR_put {D : va_G} {tys : List (ClassId × FieldType)} {B : Nat} {old : Int → Nat} {L0 : Nat} {scr : Nat → Int32} {ρ : List Nat} {w : mm_W} {h h2 : mm_H} {H H1 : Heap} {a : Int} {en : va_E} (hH : mm_HR D tys B old L0 scr ρ w h H) (h1 : 1 ≤ a) (hh : ∀ b j, b ≠ a → h2 b j = h b j) (hg : mm_good ρ.length w h2 a) (he : en = mm_ent old tys ρ w h2 a) (hP : va_P D mm_cls ((mm_ws old tys ρ w h).set (a.toNat - 1) (ρ.getD (a.toNat - 1) 0, en)) H1) (hD : va_D (mm_A B) ((mm_ws old tys ρ w h).set (a.toNat - 1) (ρ.getD (a.toNat - 1) 0, en))) : mm_HR D tys B old L0 scr ρ w h2 H1 := by
  obtain ⟨g1, g2, g3, g4, -, -⟩ := hH
  subst he
  rw [mm_ws_put h1 hh] at hP hD
  refine ⟨g1, fun b hb1 hb2 => ?_, g3, mm_neg_up g4 (fun _ _ => rfl) (fun b j hb => hh b j (by omega)), hP, hD⟩
  by_cases e : b = a
  · subst e; exact hg
  · exact mm_good_up (Nat.le_refl _) rfl (fun j => hh b j e) (g2 b hb1 hb2)
theorem mm_ent_obj {old : Int → Nat} {tys : List (ClassId × FieldType)} {ρ : List Nat} {w : mm_W} {h : mm_H} {a : Int} {ci : Nat} (hc : ci < 13) (hk : (w.1 a).1 = ci + 1) : mm_ent old tys ρ w h a = .inr (ci, (List.range (mm_nf (ci + 1))).map (fun i => mm_val old ρ (mm_ft (ci + 1) i) (h a i))) := by
  unfold mm_ent
  rw [hk, if_pos (by omega)]
  rfl
theorem mm_good_obj {n : Nat} {w : mm_W} {h : mm_H} {a : Int} {ci : Nat} (hc : ci < 13) (hk : (w.1 a).1 = ci + 1) (hg : mm_good n w h a) : ∀ i : Nat, i < mm_nf (ci + 1) → match mm_ft (ci + 1) i with
    | 0 => mm_i32 (h a i)
    | 1 => mm_i64 (h a i)
    | _ => 0 ≤ h a i ∧ h a i ≤ n := by
  rcases hg with ⟨-, -, h3⟩ | ⟨h1, -⟩ | ⟨h1, -⟩ | ⟨h1, -⟩
  · rw [hk] at h3; exact h3
  · omega
  · omega
  · omega
theorem mm_fs_set {old : Int → Nat} {ρ : List Nat} {h : mm_H} {a : Int} (f : Nat → Nat) (N k : Nat) (z : Int) : ((List.range N).map (fun i => mm_val old ρ (f i) (h a i))).set k (mm_val old ρ (f k) z) = (List.range N).map (fun i => mm_val old ρ (f i) (mUp h a k z a i)) := by
  apply List.ext_getElem?
  intro j
  by_cases hj : j < N
  · by_cases e : j = k
    · subst e
      rw [List.getElem?_set_self (by simp [hj])]
      simp [hj, mUp]
    · rw [List.getElem?_set_ne (Ne.symm e)]
      have : ¬ (j : Int) = (k : Int) := by omega
      simp [hj, mUp, this]
  · rw [List.getElem?_eq_none (by simp; omega), List.getElem?_eq_none (by simp; omega)]
section MM
variable {D : va_G} {tys : List (ClassId × FieldType)} {B : Nat} {old : Int → Nat} {L0 : Nat} {scr : Nat → Int32}
variable {p : Program} {l : Launch} {e : Env} {R : Room} {s : State} {m : MethodId} {args : Array Value} {below : List Frame} {meth : Method} {c : Code} {nL : Nat} {ρ0 : List Nat} {w0 : mm_W} {Q : State → Prop}
variable {own : String} {cc : ByteArray} {mn : String} {rt : Option FieldType} {pc : Nat} {L st : List mm_V} {w : mm_W} {h : mm_H} {nx : Nat} {tx : String}

theorem st_getfield (F : mm_Fr D tys B old L0 scr p s m args meth c nL own cc mn rt) {a : Int} {i ci k : Nat} (hf : mm_fOK own i ci k) (hd : decode cc pc = .ok (.getfield i, 3)) (hk : (w.1 a).1 = ci + 1) (kk : mm_Wc D tys B old L0 scr p l e R s m args below meth c nL ρ0 w0 Q (pc + 3) L ((mm_ft (ci + 1) k, h a k) :: st) w h) : mm_Wc D tys B old L0 scr p l e R s m args below meth c nL ρ0 w0 Q pc L ((2, a) :: st) w h := by
  intro ρ H locs ls sv hρ hH hS hL hst
  obtain ⟨v, sv, rfl, ⟨ha, rfl⟩, hs2⟩ := mm_SR_cons hst
  have hfle := mm_ft_le hf
  obtain ⟨C, T, N, ty, h1, hN, hkN, h2, h3, h4, h5, h6, -⟩ := hf
  have hci := mm_cls_lt h1
  obtain ⟨p1, p2⟩ := mm_pos (a := a) hH (by omega) (by omega) (by omega) (Or.inl (by omega))
  have hent := mm_ws_at (old := old) (tys := tys) (w := w) (h := h) p1 p2
  rw [mm_ent_obj hci hk] at hent
  rw [show mm_adr old ρ ((2, a) : mm_V).2 = _ from mm_adr_at p1 p2]
  have hg := mm_good_obj hci hk (hH.2.1 a p1 p2) k (by omega)
  refine va_get F.1 F.2.1 F.2.2.2.2.1 h2 F.2.2.2.1 F.2.2.2.2.2.1.1 hH.2.2.2.2.1 _ hent h1 k hkN (F.2.2.2.2.1 _ h5) (fun x hx => by rw [h6] at hx; exact hx) (v := mm_val old ρ (mm_ft (ci + 1) k) (h a k)) ?_ hd (kk ρ H locs ls _ hρ hH hS hL ⟨?_, hs2⟩)
  · rw [List.getElem?_map, List.getElem?_range (by omega)]
    rfl
  · rcases hfle with q | q | q
    · rw [q] at hg ⊢; exact ⟨hg, rfl⟩
    · rw [q] at hg ⊢; exact ⟨hg, rfl⟩
    · rw [q] at hg ⊢; exact ⟨hg.2, rfl⟩
/-- what a field may be given -/
def mm_fits (ty : FieldType) (v : Value) : Prop := narrow ty v = v ∧ fits ty v = true
theorem st_putg (F : mm_Fr D tys B old L0 scr p s m args meth c nL own cc mn rt) {a z : Int} {i ci k : Nat} (hf : mm_fOK own i ci k) (hfin : ∀ C T N, mm_cls[ci]? = some (C, T, N) → (T k).2.2.2 = false ∨ ((T k).2.2.2 = true ∧ mn = "<init>" ∧ (T k).1 = own)) (hd : decode cc pc = .ok (.putfield i, 3)) (hk : (w.1 a).1 = ci + 1) {t : Nat} (ht : mm_ft (ci + 1) k = t) (hty : ∀ C T N ty, mm_cls[ci]? = some (C, T, N) → parseFieldDescriptor (T k).2.2.1 = some ty → ∀ (ρ : List Nat) (v : Value), mm_VR old ρ (t, z) v → mm_fits ty v) (ht2 : t ≤ 2) (hz0 : t = 2 → 0 ≤ z) (kk : mm_Wc D tys B old L0 scr p l e R s m args below meth c nL ρ0 w0 Q (pc + 3) L st w ((mUp h a k z))) : mm_Wc D tys B old L0 scr p l e R s m args below meth c nL ρ0 w0 Q pc L ((t, z) :: (2, a) :: st) w h := by
  intro ρ H locs ls sv hρ hH hS hL hst
  obtain ⟨v, sv, rfl, hv, hs1⟩ := mm_SR_cons hst
  obtain ⟨va, sv, rfl, ⟨ha, rfl⟩, hs2⟩ := mm_SR_cons hs1
  obtain ⟨C, T, N, ty, h1, hN, hkN, h2, h3, h4, h5, h6, -⟩ := hf
  have hci := mm_cls_lt h1
  obtain ⟨p1, p2⟩ := mm_pos (a := a) hH (by omega) (by omega) (by omega) (Or.inl (by omega))
  have hent := mm_ws_at (old := old) (tys := tys) (w := w) (h := h) p1 p2
  rw [mm_ent_obj hci hk] at hent
  rw [show mm_adr old ρ ((2, a) : mm_V).2 = _ from mm_adr_at p1 p2]
  have hg := hH.2.1 a p1 p2
  obtain ⟨hn, hfit⟩ := hty C T N (ty k) h1 (h3 k hkN) ρ v hv
  have hval : v = mm_val old ρ (mm_ft (ci + 1) k) z := by
    rw [ht]
    unfold mm_VR at hv
    rcases (show t = 0 ∨ t = 1 ∨ t = 2 by omega) with rfl | rfl | rfl
    · exact hv.2
    · exact hv.2
    · exact hv.2
  have hgood : mm_good ρ.length w (mUp h a k z) a := by
    have hgo := mm_good_obj hci hk hg
    refine Or.inl ⟨by omega, by omega, fun j hj => ?_⟩
    rw [hk] at hj ⊢
    have hj2 := hgo j hj
    by_cases e : j = k
    · subst e
      rw [ht]
      have e2 : mUp h a j z a j = z := by simp [mUp]
      rw [e2]
      unfold mm_VR at hv
      rcases (show t = 0 ∨ t = 1 ∨ t = 2 by omega) with rfl | rfl | rfl
      · exact hv.1
      · exact hv.1
      · exact ⟨hz0 rfl, hv.1⟩
    · have e2 : mUp h a k z a j = h a j := by
        have : ¬ (j : Int) = (k : Int) := by omega
        simp [mUp, this]
      rw [e2]
      exact hj2
  have hfs := mm_fs_set (old := old) (ρ := ρ) (h := h) (a := a) (mm_ft (ci + 1)) (mm_nf (ci + 1)) k z
  rw [← hval] at hfs
  have hent2 : (.inr (ci, ((List.range (mm_nf (ci + 1))).map (fun i => mm_val old ρ (mm_ft (ci + 1) i) (h a i))).set k v) : va_E) = mm_ent old tys ρ w (mUp h a k z) a := by
    rw [mm_ent_obj hci hk, hfs]
  have fin : ∀ (H1 : Heap) (locs1 : List Loc), va_P D mm_cls ((mm_ws old tys ρ w h).set (a.toNat - 1) (ρ.getD (a.toNat - 1) 0, .inr (ci, ((List.range (mm_nf (ci + 1))).map (fun i => mm_val old ρ (mm_ft (ci + 1) i) (h a i))).set k v))) H1 → va_D (mm_A B) ((mm_ws old tys ρ w h).set (a.toNat - 1) (ρ.getD (a.toNat - 1) 0, .inr (ci, ((List.range (mm_nf (ci + 1))).map (fun i => mm_val old ρ (mm_ft (ci + 1) i) (h a i))).set k v))) → va_S (mm_A B) s.heap H1 locs1 → W p l e R s m args below meth c H1 locs1 (w.2.1 - w0.2.1).toNat (w.2.2 - w0.2.2).toNat Q (F0 m (pc + 3) ls sv) := by
    intro H1 locs1 hP1 hD1 hS1
    exact kk ρ H1 locs1 ls sv hρ (mm_HR_put hH p1 (fun b j hb => by simp [mUp, hb]) hgood hent2 hP1 hD1) hS1 hL hs2
  rcases hfin C T N h1 with q | ⟨q1, q2, q3⟩
  · exact va_put F.1 F.2.1 F.2.2.2.2.1 h2 ty h3 h4 F.2.2.2.1 F.2.2.2.2.2.1.1 hH.2.2.2.2.1 hH.2.2.2.2.2 hS _ hent h1 k hkN (F.2.2.2.2.1 _ h5) (fun x hx => by rw [h6] at hx; exact hx) q (h3 k hkN) hn hfit (by simp; omega) hd fin
  · exact va_putF F.1 F.2.1 F.2.2.2.2.1 h2 ty h3 h4 F.2.2.2.1 F.2.2.2.2.2.1.1 hH.2.2.2.2.1 hH.2.2.2.2.2 hS _ hent h1 k hkN (F.2.2.2.2.1 _ h5) (fun x hx => by rw [h6] at hx; exact hx) q1 (by rw [F.2.2.2.2.2.2.1]; exact q2) q3 (h3 k hkN) hn hfit (by simp; omega) hd fin
end MM
end
section
theorem mm_ent_i {old : Int → Nat} {tys : List (ClassId × FieldType)} {ρ : List Nat} {w : mm_W} {h : mm_H} {a : Int} {k : Nat} (hk : (w.1 a).1 = k) (hk2 : k = 50 ∨ k = 51 ∨ k = 52) : mm_ent old tys ρ w h a = .inl (mm_cA tys k, (w.1 a).2.toNat, .inl (fun j => Int32.ofInt (h a j))) := by
  unfold mm_ent
  rw [hk, if_neg (by omega), if_pos (by omega)]
theorem mm_ent_j {old : Int → Nat} {tys : List (ClassId × FieldType)} {ρ : List Nat} {w : mm_W} {h : mm_H} {a : Int} (hk : (w.1 a).1 = 53) : mm_ent old tys ρ w h a = .inl (mm_cA tys 53, (w.1 a).2.toNat, .inr (.inl (fun j => Int64.ofInt (h a j)))) := by
  unfold mm_ent
  rw [hk, if_neg (by omega), if_neg (by omega), if_pos rfl]
theorem mm_ent_q {old : Int → Nat} {tys : List (ClassId × FieldType)} {ρ : List Nat} {w : mm_W} {h : mm_H} {a : Int} {k : Nat} (hk : (w.1 a).1 = k) (hk2 : 100 ≤ k) : mm_ent old tys ρ w h a = .inl (mm_cA tys k, (w.1 a).2.toNat, .inr (.inr (.inr (.inr (fun j => mm_adr old ρ (h a j)))))) := by
  unfold mm_ent
  rw [hk, if_neg (by omega), if_neg (by omega), if_neg (by omega)]
theorem mm_good_i {n k : Nat} {w : mm_W} {h : mm_H} {a : Int} (hk : (w.1 a).1 = k) (hk2 : k = 50 ∨ k = 51 ∨ k = 52) (hg : mm_good n w h a) : 0 ≤ (w.1 a).2 ∧ (w.1 a).2 ≤ 1000000 ∧ ∀ j : Int, mm_i32 (h a j) := by
  rcases hg with ⟨-, h2, -⟩ | ⟨-, h1, h2, h3⟩ | ⟨h1, -⟩ | ⟨h1, -⟩
  · omega
  · exact ⟨h1, h2, h3⟩
  · omega
  · omega
theorem mm_good_j {n : Nat} {w : mm_W} {h : mm_H} {a : Int} (hk : (w.1 a).1 = 53) (hg : mm_good n w h a) : 0 ≤ (w.1 a).2 ∧ (w.1 a).2 ≤ 1000000 ∧ ∀ j : Int, mm_i64 (h a j) := by
  rcases hg with ⟨-, h2, -⟩ | ⟨h0, -⟩ | ⟨-, h1, h2, h3⟩ | ⟨h1, -⟩
  · omega
  · omega
  · exact ⟨h1, h2, h3⟩
  · omega
theorem mm_good_q {n k : Nat} {w : mm_W} {h : mm_H} {a : Int} (hk : (w.1 a).1 = k) (hk2 : 100 ≤ k) (hg : mm_good n w h a) : (k = 107 ∨ k = 109 ∨ k = 150) ∧ 0 ≤ (w.1 a).2 ∧ (w.1 a).2 ≤ 1000000 ∧ ∀ j : Int, 0 ≤ h a j ∧ h a j ≤ n := by
  rcases hg with ⟨-, h2, -⟩ | ⟨h0, -⟩ | ⟨h0, -⟩ | ⟨h0, h1, h2, h3⟩
  · omega
  · omega
  · omega
  · exact ⟨by omega, h1, h2, h3⟩
theorem mm_upd_i {h : mm_H} {a j z : Int} (hj : 0 ≤ j) : (fun q : Nat => Int32.ofInt (mUp h a j z a q)) = upd (fun q : Nat => Int32.ofInt (h a q)) j.toNat (Int32.ofInt z) := by
  funext q
  unfold upd mUp
  by_cases e : q = j.toNat
  · rw [if_pos e, if_pos ⟨rfl, by omega⟩]
  · rw [if_neg e, if_neg (fun x => e (by omega))]
theorem mm_upd_j {h : mm_H} {a j z : Int} (hj : 0 ≤ j) : (fun q : Nat => Int64.ofInt (mUp h a j z a q)) = vp_updL (fun q : Nat => Int64.ofInt (h a q)) j.toNat (Int64.ofInt z) := by
  funext q
  unfold vp_updL mUp
  by_cases e : q = j.toNat
  · rw [if_pos e, if_pos ⟨rfl, by omega⟩]
  · rw [if_neg e, if_neg (fun x => e (by omega))]
theorem mm_upd_q {old : Int → Nat} {ρ : List Nat} {h : mm_H} {a j z : Int} {y : Option Nat} (hj : 0 ≤ j) (hy : mm_adr old ρ z = y) : (fun q : Nat => mm_adr old ρ (mUp h a j z a q)) = va_up (fun q : Nat => mm_adr old ρ (h a q)) j.toNat y := by
  funext q
  unfold va_up mUp
  by_cases e : q = j.toNat
  · rw [if_pos e, if_pos ⟨rfl, by omega⟩, hy]
  · rw [if_neg e, if_neg (fun x => e (by omega))]
theorem mm_up_r {P : Int → Prop} {h : mm_H} {a i z : Int} (hz : P z) (hh : ∀ j : Int, P (h a j)) : ∀ j : Int, P (mUp h a i z a j) := by
  intro j
  unfold mUp
  split
  · exact hz
  · exact hh j
section MM
variable {D : va_G} {tys : List (ClassId × FieldType)} {B : Nat} {old : Int → Nat} {L0 : Nat} {scr : Nat → Int32}
variable {p : Program} {l : Launch} {e : Env} {R : Room} {s : State} {m : MethodId} {args : Array Value} {below : List Frame} {meth : Method} {c : Code} {nL : Nat} {ρ0 : List Nat} {w0 : mm_W} {Q : State → Prop}
variable {own : String} {cc : ByteArray} {mn : String} {rt : Option FieldType} {pc : Nat} {L st : List mm_V} {w : mm_W} {h : mm_H} {nx : Nat} {tx : String}

theorem st_iaload (F : mm_Fr D tys B old L0 scr p s m args meth c nL own cc mn rt) {a j : Int} (hd : decode cc pc = .ok (.iaload, 1)) (hk : (w.1 a).1 = 50) (h0 : 0 ≤ j) (h1 : j < (w.1 a).2) (kk : mm_Wc D tys B old L0 scr p l e R s m args below meth c nL ρ0 w0 Q (pc + 1) L ((0, h a j) :: st) w h) : mm_Wc D tys B old L0 scr p l e R s m args below meth c nL ρ0 w0 Q pc L ((0, j) :: (2, a) :: st) w h := by
  intro ρ H locs ls sv hρ hH hS hL hst
  obtain ⟨v, sv, rfl, ⟨hj, rfl⟩, hs1⟩ := mm_SR_cons hst
  obtain ⟨va, sv, rfl, ⟨ha, rfl⟩, hs2⟩ := mm_SR_cons hs1
  have hj : mm_i32 j := hj
  by_cases hp : 0 < a
  · obtain ⟨p1, p2⟩ := mm_pos (a := a) hH (by omega) (by omega) (by omega) (Or.inr hp)
    have hent := mm_ws_at (old := old) (tys := tys) (w := w) (h := h) p1 p2
    rw [mm_ent_i hk (by omega)] at hent
    rw [show mm_adr old ρ ((2, a) : mm_V).2 = _ from mm_adr_at p1 p2]
    have hg := mm_good_i hk (by omega) (hH.2.1 a p1 p2)
    refine va_iald F.1 F.2.1 F.2.2.2.2.2.1.1 hH.2.2.2.2.1 _ _ hent (F.2.2.2.2.2.1.2.1 50 (by omega)) (i32_in h0 h1 hj) hd ?_
    rw [i32_cl h0 hj]
    have e : ((j.toNat : Nat) : Int) = j := by omega
    rw [e]
    exact kk ρ H locs ls (.int (Int32.ofInt (h a j)) :: sv) hρ hH hS hL ⟨⟨hg.2.2 j, rfl⟩, hs2⟩
  · rcases mm_neg_kind hH.2.2.2.1 (by omega : a ≤ 0) with g | ⟨rfl, -⟩ | g | g
    · omega
    · obtain ⟨n1, n2, n3, -⟩ := hH.2.2.2.1
      rw [n1] at h1
      have h1 : j < (L0 : Int) := h1
      have hv := n3 j.toNat (by omega)
      have e : ((j.toNat : Nat) : Int) = j := by omega
      rw [e] at hv
      have hE := F.2.2.2.2.2.1.2.2.2.1
      have hb := F.2.2.2.2.2.1.2.2.1
      rw [show mm_adr old ρ ((2, -1) : mm_V).2 = some (old (-1)) from rfl]
      refine va_sld F.1 F.2.1 hE.1 (by omega) (by unfold mm_A; omega) hS (i := Int32.ofInt j) (by have := i32_in h0 h1 hj; rwa [show ((L0 : Int)).toNat = L0 from rfl] at this) hd ?_
      rw [i32_cl h0 hj]
      refine kk ρ H locs ls (.int (scr j.toNat) :: sv) hρ hH hS hL ⟨⟨?_, ?_⟩, hs2⟩
      · show mm_i32 (h (-1) j); rw [hv]; exact i32_t _
      · show _ = Value.int (Int32.ofInt (h (-1) j)); rw [hv, Int32.ofInt_toInt]
    · omega
    · omega
theorem st_saload (F : mm_Fr D tys B old L0 scr p s m args meth c nL own cc mn rt) {a j : Int} (hd : decode cc pc = .ok (.saload, 1)) (hk : (w.1 a).1 = 51) (h0 : 0 ≤ j) (h1 : j < (w.1 a).2) (kk : mm_Wc D tys B old L0 scr p l e R s m args below meth c nL ρ0 w0 Q (pc + 1) L ((0, h a j) :: st) w h) : mm_Wc D tys B old L0 scr p l e R s m args below meth c nL ρ0 w0 Q pc L ((0, j) :: (2, a) :: st) w h := by
  intro ρ H locs ls sv hρ hH hS hL hst
  obtain ⟨v, sv, rfl, ⟨hj, rfl⟩, hs1⟩ := mm_SR_cons hst
  obtain ⟨va, sv, rfl, ⟨ha, rfl⟩, hs2⟩ := mm_SR_cons hs1
  have hj : mm_i32 j := hj
  obtain ⟨p1, p2⟩ := mm_pos (a := a) hH (by omega) (by omega) (by omega) (Or.inl (by omega))
  have hent := mm_ws_at (old := old) (tys := tys) (w := w) (h := h) p1 p2
  rw [mm_ent_i hk (by omega)] at hent
  rw [show mm_adr old ρ ((2, a) : mm_V).2 = _ from mm_adr_at p1 p2]
  have hg := mm_good_i hk (by omega) (hH.2.1 a p1 p2)
  refine va_sald F.1 F.2.1 F.2.2.2.2.2.1.1 hH.2.2.2.2.1 _ _ hent (F.2.2.2.2.2.1.2.1 51 (by omega)) (i32_in h0 h1 hj) hd ?_
  rw [i32_cl h0 hj]
  have e : ((j.toNat : Nat) : Int) = j := by omega
  rw [e]
  exact kk ρ H locs ls (.int (Int32.ofInt (h a j)) :: sv) hρ hH hS hL ⟨⟨hg.2.2 j, rfl⟩, hs2⟩
theorem mm_sb_r : ∀ i, i < 12 → mm_nth 0 i mm_sl = (mm_nth [] i mm_sb).length ∧ mm_sl.getD i 0 = mm_nth 0 i mm_sl ∧ mm_sb.getD i [] = mm_nth [] i mm_sb := by decide +kernel
theorem st_baload (F : mm_Fr D tys B old L0 scr p s m args meth c nL own cc mn rt) {a j : Int} (hd : decode cc pc = .ok (.baload, 1)) (hk : (w.1 a).1 = 52 ∨ (w.1 a).1 = 54) (h0 : 0 ≤ j) (h1 : j < (w.1 a).2) (kk : mm_Wc D tys B old L0 scr p l e R s m args below meth c nL ρ0 w0 Q (pc + 1) L ((0, h a j) :: st) w h) : mm_Wc D tys B old L0 scr p l e R s m args below meth c nL ρ0 w0 Q pc L ((0, j) :: (2, a) :: st) w h := by
  intro ρ H locs ls sv hρ hH hS hL hst
  obtain ⟨v, sv, rfl, ⟨hj, rfl⟩, hs1⟩ := mm_SR_cons hst
  obtain ⟨va, sv, rfl, ⟨ha, rfl⟩, hs2⟩ := mm_SR_cons hs1
  have hj : mm_i32 j := hj
  have e : ((j.toNat : Nat) : Int) = j := by omega
  rcases hk with hk | hk
  · obtain ⟨p1, p2⟩ := mm_pos (a := a) hH (by omega) (by omega) (by omega) (Or.inl (by omega))
    have hent := mm_ws_at (old := old) (tys := tys) (w := w) (h := h) p1 p2
    rw [mm_ent_i hk (by omega)] at hent
    rw [show mm_adr old ρ ((2, a) : mm_V).2 = _ from mm_adr_at p1 p2]
    have hg := mm_good_i hk (by omega) (hH.2.1 a p1 p2)
    refine va_zald F.1 F.2.1 F.2.2.2.2.2.1.1 hH.2.2.2.2.1 _ _ hent (F.2.2.2.2.2.1.2.1 52 (by omega)) (i32_in h0 h1 hj) hd ?_
    rw [i32_cl h0 hj]
    rw [e]
    exact kk ρ H locs ls (.int (Int32.ofInt (h a j)) :: sv) hρ hH hS hL ⟨⟨hg.2.2 j, rfl⟩, hs2⟩
  · have hneg : a ≤ 0 := by
      rcases Int.lt_or_le 0 a with q | q
      · have hz := hH.2.2.1
        rcases Int.lt_or_le ρ.length a with q2 | q2
        · rw [hz a q2] at hk; omega
        · have := hH.2.1 a q q2
          rcases this with ⟨_, h2, _⟩ | ⟨h2, _⟩ | ⟨h2, _⟩ | ⟨h2, _⟩ <;> omega
      · exact q
    obtain ⟨n1, -, -, n2, n3⟩ := hH.2.2.2.1
    have hex : ∃ i : Nat, i < 12 ∧ a = -(11 + 2 * (i : Int)) := by
      by_cases q1 : a = -1
      · subst q1; rw [n1] at hk; exact absurd hk (show ¬ (50 : Nat) = 54 by decide)
      · by_cases q2 : ∀ i : Nat, i < 12 → a ≠ -(10 + 2 * (i : Int)) ∧ a ≠ -(11 + 2 * (i : Int))
        · rw [n3 a hneg q1 q2] at hk; omega
        · simp only [Classical.not_forall] at q2
          obtain ⟨i, hi, q2⟩ := q2
          obtain ⟨g1, -, -, g2, -⟩ := n2 i hi
          by_cases e2 : a = -(10 + 2 * (i : Int))
          · subst e2; rw [g1] at hk; exact absurd hk (show ¬ (14 : Nat) = 54 by decide)
          · exact ⟨i, hi, Classical.byContradiction fun z => q2 ⟨e2, z⟩⟩
    obtain ⟨i, hi, rfl⟩ := hex
    obtain ⟨-, -, -, g4, g5⟩ := n2 i hi
    rw [g4] at h1
    have h1 : j < ((mm_nth 0 i mm_sl : Nat) : Int) := h1
    obtain ⟨-, -, -, hT⟩ := F.2.2.2.2.2.1.2.2.2.2.1.1 i hi
    obtain ⟨b1, b2, b3⟩ := mm_sb_r i hi
    rw [b2, b3] at hT
    have hv := g5 j.toNat (by omega)
    rw [e] at hv
    have ead : mm_adr old ρ ((2, -(11 + 2 * (i : Int))) : mm_V).2 = some (old (-(11 + 2 * (i : Int)))) := by
      show mm_adr old ρ (-(11 + 2 * (i : Int))) = _
      unfold mm_adr
      rw [if_pos (by omega)]
    rw [ead]
    refine va_tb F.1 F.2.1 hT hS (i := Int32.ofInt j) (by have := i32_in h0 h1 hj; rwa [show ((mm_nth 0 i mm_sl : Nat) : Int).toNat = mm_nth 0 i mm_sl from rfl] at this) rfl hd ?_
    rw [i32_cl h0 hj]
    refine kk ρ H locs ls (.int ((mm_nth [] i mm_sb).getD j.toNat 0) :: sv) hρ hH hS hL ⟨⟨?_, ?_⟩, hs2⟩
    · show mm_i32 (h _ j); rw [hv]; exact i32_t _
    · show _ = Value.int (Int32.ofInt (h _ j)); rw [hv, Int32.ofInt_toInt]
theorem st_laload (F : mm_Fr D tys B old L0 scr p s m args meth c nL own cc mn rt) {a j : Int} (hd : decode cc pc = .ok (.laload, 1)) (hk : (w.1 a).1 = 53) (h0 : 0 ≤ j) (h1 : j < (w.1 a).2) (kk : mm_Wc D tys B old L0 scr p l e R s m args below meth c nL ρ0 w0 Q (pc + 1) L ((1, h a j) :: st) w h) : mm_Wc D tys B old L0 scr p l e R s m args below meth c nL ρ0 w0 Q pc L ((0, j) :: (2, a) :: st) w h := by
  intro ρ H locs ls sv hρ hH hS hL hst
  obtain ⟨v, sv, rfl, ⟨hj, rfl⟩, hs1⟩ := mm_SR_cons hst
  obtain ⟨va, sv, rfl, ⟨ha, rfl⟩, hs2⟩ := mm_SR_cons hs1
  have hj : mm_i32 j := hj
  obtain ⟨p1, p2⟩ := mm_pos (a := a) hH (by omega) (by omega) (by omega) (Or.inl (by omega))
  have hent := mm_ws_at (old := old) (tys := tys) (w := w) (h := h) p1 p2
  rw [mm_ent_j hk] at hent
  rw [show mm_adr old ρ ((2, a) : mm_V).2 = _ from mm_adr_at p1 p2]
  have hg := mm_good_j hk (hH.2.1 a p1 p2)
  refine va_lald F.1 F.2.1 F.2.2.2.2.2.1.1 hH.2.2.2.2.1 _ _ hent (F.2.2.2.2.2.1.2.1 53 (by omega)) (i32_in h0 h1 hj) hd ?_
  rw [i32_cl h0 hj]
  have e : ((j.toNat : Nat) : Int) = j := by omega
  rw [e]
  exact kk ρ H locs ls (.long (Int64.ofInt (h a j)) :: sv) hρ hH hS hL ⟨⟨hg.2.2 j, rfl⟩, hs2⟩
theorem st_aaload (F : mm_Fr D tys B old L0 scr p s m args meth c nL own cc mn rt) {a j : Int} (hd : decode cc pc = .ok (.aaload, 1)) (hk : 100 ≤ (w.1 a).1) (h0 : 0 ≤ j) (h1 : j < (w.1 a).2) (kk : mm_Wc D tys B old L0 scr p l e R s m args below meth c nL ρ0 w0 Q (pc + 1) L ((2, h a j) :: st) w h) : mm_Wc D tys B old L0 scr p l e R s m args below meth c nL ρ0 w0 Q pc L ((0, j) :: (2, a) :: st) w h := by
  intro ρ H locs ls sv hρ hH hS hL hst
  obtain ⟨v, sv, rfl, ⟨hj, rfl⟩, hs1⟩ := mm_SR_cons hst
  obtain ⟨va, sv, rfl, ⟨ha, rfl⟩, hs2⟩ := mm_SR_cons hs1
  have hj : mm_i32 j := hj
  obtain ⟨p1, p2⟩ := mm_pos (a := a) hH (by omega) (by omega) (by omega) (Or.inl (by omega))
  have hent := mm_ws_at (old := old) (tys := tys) (w := w) (h := h) p1 p2
  rw [mm_ent_q rfl hk] at hent
  rw [show mm_adr old ρ ((2, a) : mm_V).2 = _ from mm_adr_at p1 p2]
  have hg := mm_good_q rfl hk (hH.2.1 a p1 p2)
  have ht := F.2.2.2.2.2.1.2.1 (w.1 a).1 (by omega)
  have hin := i32_in h0 h1 hj
  have hlt : (Int32.ofInt j).toNatClampNeg < (w.1 a).2.toNat := Nat.not_le.mp fun q => hin (Or.inr q)
  have e : ((j.toNat : Nat) : Int) = j := by omega
  have kk2 := kk ρ H locs ls (va_rf (mm_adr old ρ (h a j)) :: sv) hρ hH hS hL ⟨⟨(hg.2.2.2 j).2, rfl⟩, hs2⟩
  refine W.aald (v := va_rf (mm_adr old ρ (h a j))) (ty := mm_tyk (w.1 a).1) F.1 F.2.1 (hH.2.2.2.2.1 _ _ hent) ((F.2.2.2.2.2.1.1.2 _ _ ht).1 _ (fun q : Nat => va_rf (mm_adr old ρ (h a q)))) ?_ (fun q => by cases q) (by show ¬ (_ ∨ (arrV _ _ _).slots.size ≤ _); rw [arrV_size]; exact hin) ?_ rfl rfl hd kk2
  · rcases hg.1 with q | q | q <;> rw [q] <;> rfl
  · show (arrV _ _ (fun q : Nat => va_rf (mm_adr old ρ (h a q)))).slots[_]? = _
    rw [arrV_read _ _ hlt, i32_cl h0 hj, e]
theorem st_iastore (F : mm_Fr D tys B old L0 scr p s m args meth c nL own cc mn rt) {a j z : Int} (hd : decode cc pc = .ok (.iastore, 1)) (hk : (w.1 a).1 = 50) (h0 : 0 ≤ j) (h1 : j < (w.1 a).2) (hp : 0 < a) (kk : mm_Wc D tys B old L0 scr p l e R s m args below meth c nL ρ0 w0 Q (pc + 1) L st w ((mUp h a j z))) : mm_Wc D tys B old L0 scr p l e R s m args below meth c nL ρ0 w0 Q pc L ((0, z) :: (0, j) :: (2, a) :: st) w h := by
  intro ρ H locs ls sv hρ hH hS hL hst
  obtain ⟨v, sv, rfl, ⟨hz, rfl⟩, hs0⟩ := mm_SR_cons hst
  obtain ⟨v, sv, rfl, ⟨hj, rfl⟩, hs1⟩ := mm_SR_cons hs0
  obtain ⟨va, sv, rfl, ⟨ha, rfl⟩, hs2⟩ := mm_SR_cons hs1
  have hj : mm_i32 j := hj
  have hz : mm_i32 z := hz
  obtain ⟨p1, p2⟩ := mm_pos (a := a) hH (by omega) (by omega) (by omega) (Or.inr hp)
  have hent := mm_ws_at (old := old) (tys := tys) (w := w) (h := h) p1 p2
  rw [mm_ent_i hk (by omega)] at hent
  rw [show mm_adr old ρ ((2, a) : mm_V).2 = _ from mm_adr_at p1 p2]
  have hg := mm_good_i hk (by omega) (hH.2.1 a p1 p2)
  refine va_iast F.1 F.2.1 F.2.2.2.2.2.1.1 hH.2.2.2.2.1 hH.2.2.2.2.2 hS _ _ hent (F.2.2.2.2.2.1.2.1 50 (by omega)) (i32_in h0 h1 hj) hd fun H1 locs1 hP1 hD1 hS1 => ?_
  rw [i32_cl h0 hj, ← mm_upd_i h0] at hP1 hD1
  exact kk ρ H1 locs1 ls sv hρ (mm_HR_put hH p1 (fun b q hb => by simp [mUp, hb]) (Or.inr (Or.inl ⟨Or.inl hk, hg.1, hg.2.1, mm_up_r hz hg.2.2⟩)) (mm_ent_i hk (by omega)).symm hP1 hD1) hS1 hL hs2
theorem mm_S16 {z : Int} (hz : mm_i32 z) : vp_nar .short (Int32.ofInt z) = Int32.ofInt (mS z) ∧ mm_i32 (mS z) := by
  have e : mS z = ((Int32.ofInt z).toInt16.toInt32).toInt := by rw [lg_i2s_toInt, i32_o hz]; rfl
  rw [e, Int32.ofInt_toInt]
  exact ⟨rfl, i32_t _⟩
theorem st_sastore (F : mm_Fr D tys B old L0 scr p s m args meth c nL own cc mn rt) {a j z : Int} (hd : decode cc pc = .ok (.sastore, 1)) (hk : (w.1 a).1 = 51) (h0 : 0 ≤ j) (h1 : j < (w.1 a).2) (kk : mm_Wc D tys B old L0 scr p l e R s m args below meth c nL ρ0 w0 Q (pc + 1) L st w ((mUp h a j (mS z)))) : mm_Wc D tys B old L0 scr p l e R s m args below meth c nL ρ0 w0 Q pc L ((0, z) :: (0, j) :: (2, a) :: st) w h := by
  intro ρ H locs ls sv hρ hH hS hL hst
  obtain ⟨v, sv, rfl, ⟨hz, rfl⟩, hs0⟩ := mm_SR_cons hst
  obtain ⟨v, sv, rfl, ⟨hj, rfl⟩, hs1⟩ := mm_SR_cons hs0
  obtain ⟨va, sv, rfl, ⟨ha, rfl⟩, hs2⟩ := mm_SR_cons hs1
  have hj : mm_i32 j := hj
  have hz : mm_i32 z := hz
  obtain ⟨p1, p2⟩ := mm_pos (a := a) hH (by omega) (by omega) (by omega) (Or.inl (by omega))
  have hent := mm_ws_at (old := old) (tys := tys) (w := w) (h := h) p1 p2
  rw [mm_ent_i hk (by omega)] at hent
  rw [show mm_adr old ρ ((2, a) : mm_V).2 = _ from mm_adr_at p1 p2]
  have hg := mm_good_i hk (by omega) (hH.2.1 a p1 p2)
  refine va_sast F.1 F.2.1 F.2.2.2.2.2.1.1 hH.2.2.2.2.1 hH.2.2.2.2.2 hS _ _ hent (F.2.2.2.2.2.1.2.1 51 (by omega)) (i32_in h0 h1 hj) hd fun H1 locs1 hP1 hD1 hS1 => ?_
  rw [i32_cl h0 hj, (mm_S16 hz).1, ← mm_upd_i h0] at hP1 hD1
  exact kk ρ H1 locs1 ls sv hρ (mm_HR_put hH p1 (fun b q hb => by simp [mUp, hb]) (Or.inr (Or.inl ⟨Or.inr (Or.inl hk), hg.1, hg.2.1, mm_up_r (mm_S16 hz).2 hg.2.2⟩)) (mm_ent_i hk (by omega)).symm hP1 hD1) hS1 hL hs2
theorem st_bastore (F : mm_Fr D tys B old L0 scr p s m args meth c nL own cc mn rt) {a j z : Int} (hd : decode cc pc = .ok (.bastore, 1)) (hz1 : z = 0 ∨ z = 1) (hk : (w.1 a).1 = 52) (h0 : 0 ≤ j) (h1 : j < (w.1 a).2) (kk : mm_Wc D tys B old L0 scr p l e R s m args below meth c nL ρ0 w0 Q (pc + 1) L st w ((mUp h a j z))) : mm_Wc D tys B old L0 scr p l e R s m args below meth c nL ρ0 w0 Q pc L ((0, z) :: (0, j) :: (2, a) :: st) w h := by
  intro ρ H locs ls sv hρ hH hS hL hst
  obtain ⟨v, sv, rfl, ⟨hz, rfl⟩, hs0⟩ := mm_SR_cons hst
  obtain ⟨v, sv, rfl, ⟨hj, rfl⟩, hs1⟩ := mm_SR_cons hs0
  obtain ⟨va, sv, rfl, ⟨ha, rfl⟩, hs2⟩ := mm_SR_cons hs1
  have hj : mm_i32 j := hj
  have hz : mm_i32 z := hz
  obtain ⟨p1, p2⟩ := mm_pos (a := a) hH (by omega) (by omega) (by omega) (Or.inl (by omega))
  have hent := mm_ws_at (old := old) (tys := tys) (w := w) (h := h) p1 p2
  rw [mm_ent_i hk (by omega)] at hent
  rw [show mm_adr old ρ ((2, a) : mm_V).2 = _ from mm_adr_at p1 p2]
  have hg := mm_good_i hk (by omega) (hH.2.1 a p1 p2)
  refine va_zast F.1 F.2.1 F.2.2.2.2.2.1.1 hH.2.2.2.2.1 hH.2.2.2.2.2 hS _ _ hent (F.2.2.2.2.2.1.2.1 52 (by omega)) (i32_in h0 h1 hj) hd fun H1 locs1 hP1 hD1 hS1 => ?_
  have ez : vp_nar .boolean (Int32.ofInt z) = Int32.ofInt z := by rcases hz1 with rfl | rfl <;> rfl
  rw [i32_cl h0 hj, show vp_nar .boolean (Int32.ofInt ((0, z) : mm_V).2) = Int32.ofInt z from ez, ← mm_upd_i h0] at hP1 hD1
  exact kk ρ H1 locs1 ls sv hρ (mm_HR_put hH p1 (fun b q hb => by simp [mUp, hb]) (Or.inr (Or.inl ⟨Or.inr (Or.inr hk), hg.1, hg.2.1, mm_up_r hz hg.2.2⟩)) (mm_ent_i hk (by omega)).symm hP1 hD1) hS1 hL hs2
theorem st_lastore (F : mm_Fr D tys B old L0 scr p s m args meth c nL own cc mn rt) {a j z : Int} (hd : decode cc pc = .ok (.lastore, 1)) (hk : (w.1 a).1 = 53) (h0 : 0 ≤ j) (h1 : j < (w.1 a).2) (kk : mm_Wc D tys B old L0 scr p l e R s m args below meth c nL ρ0 w0 Q (pc + 1) L st w ((mUp h a j z))) : mm_Wc D tys B old L0 scr p l e R s m args below meth c nL ρ0 w0 Q pc L ((1, z) :: (0, j) :: (2, a) :: st) w h := by
  intro ρ H locs ls sv hρ hH hS hL hst
  obtain ⟨v, sv, rfl, ⟨hz, rfl⟩, hs0⟩ := mm_SR_cons hst
  obtain ⟨v, sv, rfl, ⟨hj, rfl⟩, hs1⟩ := mm_SR_cons hs0
  obtain ⟨va, sv, rfl, ⟨ha, rfl⟩, hs2⟩ := mm_SR_cons hs1
  have hj : mm_i32 j := hj
  have hz : mm_i64 z := hz
  obtain ⟨p1, p2⟩ := mm_pos (a := a) hH (by omega) (by omega) (by omega) (Or.inl (by omega))
  have hent := mm_ws_at (old := old) (tys := tys) (w := w) (h := h) p1 p2
  rw [mm_ent_j hk] at hent
  rw [show mm_adr old ρ ((2, a) : mm_V).2 = _ from mm_adr_at p1 p2]
  have hg := mm_good_j hk (hH.2.1 a p1 p2)
  refine va_last F.1 F.2.1 F.2.2.2.2.2.1.1 hH.2.2.2.2.1 hH.2.2.2.2.2 hS _ _ hent (F.2.2.2.2.2.1.2.1 53 (by omega)) (i32_in h0 h1 hj) hd fun H1 locs1 hP1 hD1 hS1 => ?_
  rw [i32_cl h0 hj, ← mm_upd_j h0] at hP1 hD1
  exact kk ρ H1 locs1 ls sv hρ (mm_HR_put hH p1 (fun b q hb => by simp [mUp, hb]) (Or.inr (Or.inr (Or.inl ⟨hk, hg.1, hg.2.1, mm_up_r hz hg.2.2⟩))) (mm_ent_j hk).symm hP1 hD1) hS1 hL hs2
end MM
end
section
theorem mm_HR_push {D : va_G} {tys : List (ClassId × FieldType)} {B : Nat} {old : Int → Nat} {L0 : Nat} {scr : Nat → Int32} {ρ : List Nat} {w : mm_W} {h : mm_H} {H H1 : Heap} {q k : Nat} {n : Int} {en : va_E} (hH : mm_HR D tys B old L0 scr ρ w h H) (hg : mm_good (ρ ++ [q]).length (mNew w k n) (mZero h w.2.1) w.2.1) (he : en = mm_ent old tys (ρ ++ [q]) (mNew w k n) (mZero h w.2.1) w.2.1) (hP : va_P D mm_cls (mm_ws old tys ρ w h ++ [(q, en)]) H1) (hD : va_D (mm_A B) (mm_ws old tys ρ w h ++ [(q, en)])) : mm_HR D tys B old L0 scr (ρ ++ [q]) (mNew w k n) (mZero h w.2.1) H1 := by
  obtain ⟨g1, g2, g3, g4, -, -⟩ := hH
  subst he
  rw [← mm_ws_push q k n g1 g2] at hP hD
  have hlen : (ρ ++ [q]).length = ρ.length + 1 := by simp
  refine ⟨?_, fun b hb1 hb2 => ?_, fun b hb => ?_, mm_neg_up g4 (fun b hb => ?_) (fun b j hb => ?_), hP, hD⟩
  · show w.2.1 + 1 = _
    rw [hlen, g1]; omega
  · by_cases e : b = w.2.1
    · subst e; exact hg
    · rw [hlen] at hb2 ⊢
      exact mm_good_up (Nat.le_succ _) (by simp [mNew, e]) (fun j => by simp [mZero, e]) (g2 b hb1 (by omega))
  · rw [hlen] at hb
    have e : ¬ b = w.2.1 := by omega
    have := g3 b (by omega)
    simpa [mNew, e] using this
  · have e : ¬ b = w.2.1 := by omega
    simp [mNew, e]
  · have e : ¬ b = w.2.1 := by omega
    simp [mZero, e]
theorem mm_RA_inj {s : State} {c1 c2 : ClassId} {ty : FieldType} (h1 : va_RA s c1 ty) (h2 : va_RA s c2 ty) : c1 = c2 := by
  cases ty with
  | object C =>
    obtain ⟨_, _, _, _, _, a⟩ := h1
    obtain ⟨_, _, _, _, _, b⟩ := h2
    exact Option.some.inj (a.symm.trans b)
  | _ =>
    have a : s.vm.findClass _ = some c1 := h1
    have b : s.vm.findClass _ = some c2 := h2
    exact Option.some.inj (a.symm.trans b)
theorem mm_K_last {D : va_G} {tys : List (ClassId × FieldType)} {s : State} {cA : ClassId} {ty : FieldType} {k : Nat} (hK : va_K D mm_cls (tys ++ [(cA, ty)]) s) (ht : tys[mm_ki k]? = some (mm_cA tys k, mm_tyk k)) (hty : ty = mm_tyk k) : cA = mm_cA tys k := by
  have h1 := (hK.2 tys.length (cA, ty) (by simp)).2
  have h2 := (hK.2 (mm_ki k) (mm_cA tys k, mm_tyk k) (by rw [List.getElem?_append_left (List.getElem?_eq_some_iff.mp ht).1]; exact ht)).2
  subst hty
  exact mm_RA_inj h1 h2
theorem mm_mZero_at {h : mm_H} {a : Int} : mZero h a a = fun _ => 0 := by
  funext j; simp [mZero]
theorem mm_mNew_at {w : mm_W} {k : Nat} {n : Int} : (mNew w k n).1 w.2.1 = (k, n) := by simp [mNew]
theorem mm_i64_z : mm_i64 0 := by unfold mm_i64; omega
section MM
variable {D : va_G} {tys : List (ClassId × FieldType)} {B : Nat} {old : Int → Nat} {L0 : Nat} {scr : Nat → Int32}
variable {p : Program} {l : Launch} {e : Env} {R : Room} {s : State} {m : MethodId} {args : Array Value} {below : List Frame} {meth : Method} {c : Code} {nL : Nat} {ρ0 : List Nat} {w0 : mm_W} {Q : State → Prop}
variable {own : String} {cc : ByteArray} {mn : String} {rt : Option FieldType} {pc : Nat} {L st : List mm_V} {w : mm_W} {h : mm_H} {nx : Nat} {tx : String}

theorem mm_px_push {ρ : List Nat} {q k : Nat} {n : Int} (hρ : mm_Px ρ0 w0 ρ w) (hn : 0 ≤ n) : mm_Px ρ0 w0 (ρ ++ [q]) (mNew w k n) := by
  obtain ⟨⟨ρx, rfl⟩, h1, h2⟩ := hρ
  refine ⟨⟨ρx ++ [q], by simp⟩, ?_, ?_⟩
  · show _ ≤ w.2.1 + 1; omega
  · show _ ≤ w.2.2 + n; omega
theorem mm_hA (F : mm_Fr D tys B old L0 scr p s m args meth c nL own cc mn rt) : ∀ q, s.heap.size ≤ q → mm_A B q := fun q hq => Nat.le_trans F.2.2.2.2.2.1.2.2.1 hq
theorem st_newa (F : mm_Fr D tys B old L0 scr p s m args meth c nL own cc mn rt) {n : Int} {k : Nat} {atype : ArrayType} {ty : FieldType} (hat : newarray.typeOf atype = ty) (hk : (k = 50 ∧ ty = .int) ∨ (k = 51 ∧ ty = .short) ∨ (k = 52 ∧ ty = .boolean)) (hw : Jvm.Cond.arrayClass ty ∈ lw_g) (hd : decode cc pc = .ok (.newarray atype, 2)) (h0 : 0 ≤ n) (h1 : n ≤ 1000000) (hr : ∀ ρ, mm_Px ρ0 w0 ρ w → (w.2.1 + 1 - w0.2.1).toNat ≤ R.cells ∧ (w.2.2 + n - w0.2.2).toNat ≤ R.slots) (kk : mm_Wc D tys B old L0 scr p l e R s m args below meth c nL ρ0 w0 Q (pc + 2) L ((2, w.2.1) :: st) ((mNew w k n)) ((mZero h w.2.1))) : mm_Wc D tys B old L0 scr p l e R s m args below meth c nL ρ0 w0 Q pc L ((0, n) :: st) w h := by
  intro ρ H locs ls sv hρ hH hS hL hst
  obtain ⟨v, sv, rfl, ⟨hn, rfl⟩, hs2⟩ := mm_SR_cons hst
  have hn : mm_i32 n := hn
  obtain ⟨r1, r2⟩ := hr ρ hρ
  have hpx := hρ.2
  have hcl := i32_cl h0 hn
  have hty : ty = mm_tyk k ∧ (k = 50 ∨ k = 51 ∨ k = 52) := by rcases hk with ⟨rfl, rfl⟩ | ⟨rfl, rfl⟩ | ⟨rfl, rfl⟩ <;> exact ⟨rfl, by omega⟩
  have hdef : defaultValue ty = .int 0 := by rcases hk with ⟨_, rfl⟩ | ⟨_, rfl⟩ | ⟨_, rfl⟩ <;> rfl
  have hcb : componentBytes ty ≤ 8 := by rcases hk with ⟨_, rfl⟩ | ⟨_, rfl⟩ | ⟨_, rfl⟩ <;> decide
  refine va_newa (atype := atype) F.1 F.2.1 (F.2.2.2.2.1 _ (by rw [hat]; exact hw)) hat F.2.2.2.2.2.1.1 hH.2.2.2.2.1 hH.2.2.2.2.2 hS (mm_hA F) (n := Int32.ofInt n) (N' := n.toNat) (a0 := (n.toNat, .inl (fun _ => 0))) (fun cA => by rw [hdef]; rfl) (fun q => by have := (i32_lt hn i32_z).mp q; omega) hcl ?_ (by omega) (by omega) hd (fun q cA H1 hK1 hP1 hD1 hS1 => ?_)
  · have : n.toNat * componentBytes ty ≤ n.toNat * 8 := Nat.mul_le_mul_left _ hcb
    omega
  · have hcA := mm_K_last (k := k) hK1 (F.2.2.2.2.2.1.2.1 k (by omega)) hty.1
    subst hcA
    have hent : mm_ent old tys (ρ ++ [q]) (mNew w k n) (mZero h w.2.1) w.2.1 = .inl (mm_cA tys k, n.toNat, .inl (fun _ => 0)) := by
      rw [mm_ent_i (k := k) (by rw [mm_mNew_at]) hty.2, mm_mNew_at, mm_mZero_at]
      rfl
    have hHR := mm_HR_push (k := k) (n := n) hH (Or.inr (Or.inl (by rw [mm_mNew_at, mm_mZero_at]; exact ⟨hty.2, h0, h1, fun _ => i32_z⟩))) hent.symm hP1 hD1
    have hlen : (ρ ++ [q]).length = ρ.length + 1 := by simp
    have := kk (ρ ++ [q]) H1 locs ls (.ref q :: sv) (mm_px_push hρ h0) hHR hS1 (mm_LR_app _ hL) ⟨⟨by show w.2.1 ≤ _; rw [hlen, hH.1]; omega, ?_⟩, mm_SR_app _ hs2⟩
    · refine W.cs (m := m) ?_ ?_ this
      · show _ = (w.2.1 + 1 - w0.2.1).toNat; omega
      · show _ = (w.2.2 + n - w0.2.2).toNat; omega
    · show _ = va_rf (mm_adr old (ρ ++ [q]) w.2.1)
      rw [mm_adr_at (by rw [hH.1]; omega) (by rw [hlen, hH.1]; omega), hH.1]
      simp [List.getD]
      rfl
theorem st_newaJ (F : mm_Fr D tys B old L0 scr p s m args meth c nL own cc mn rt) {n : Int} {atype : ArrayType} (hat : newarray.typeOf atype = .long) (hw : Jvm.Cond.arrayClass .long ∈ lw_g) (hd : decode cc pc = .ok (.newarray atype, 2)) (h0 : 0 ≤ n) (h1 : n ≤ 1000000) (hr : ∀ ρ, mm_Px ρ0 w0 ρ w → (w.2.1 + 1 - w0.2.1).toNat ≤ R.cells ∧ (w.2.2 + n - w0.2.2).toNat ≤ R.slots) (kk : mm_Wc D tys B old L0 scr p l e R s m args below meth c nL ρ0 w0 Q (pc + 2) L ((2, w.2.1) :: st) ((mNew w 53 n)) ((mZero h w.2.1))) : mm_Wc D tys B old L0 scr p l e R s m args below meth c nL ρ0 w0 Q pc L ((0, n) :: st) w h := by
  intro ρ H locs ls sv hρ hH hS hL hst
  obtain ⟨v, sv, rfl, ⟨hn, rfl⟩, hs2⟩ := mm_SR_cons hst
  have hn : mm_i32 n := hn
  obtain ⟨r1, r2⟩ := hr ρ hρ
  have hpx := hρ.2
  have hcl := i32_cl h0 hn
  refine va_newa (atype := atype) F.1 F.2.1 (F.2.2.2.2.1 _ (by rw [hat]; exact hw)) hat F.2.2.2.2.2.1.1 hH.2.2.2.2.1 hH.2.2.2.2.2 hS (mm_hA F) (n := Int32.ofInt n) (N' := n.toNat) (a0 := (n.toNat, .inr (.inl (fun _ => 0)))) (fun cA => rfl) (fun q => by have := (i32_lt hn i32_z).mp q; omega) hcl ?_ (by omega) (by omega) hd (fun q cA H1 hK1 hP1 hD1 hS1 => ?_)
  · show n.toNat * 8 ≤ _
    omega
  · have hcA := mm_K_last (k := 53) hK1 (F.2.2.2.2.2.1.2.1 53 (by omega)) rfl
    subst hcA
    have hent : mm_ent old tys (ρ ++ [q]) (mNew w 53 n) (mZero h w.2.1) w.2.1 = .inl (mm_cA tys 53, n.toNat, .inr (.inl (fun _ => 0))) := by
      rw [mm_ent_j (by rw [mm_mNew_at]), mm_mNew_at, mm_mZero_at]
      rfl
    have hHR := mm_HR_push (k := 53) (n := n) hH (Or.inr (Or.inr (Or.inl (by rw [mm_mNew_at, mm_mZero_at]; exact ⟨rfl, h0, h1, fun _ => mm_i64_z⟩)))) hent.symm hP1 hD1
    have hlen : (ρ ++ [q]).length = ρ.length + 1 := by simp
    have := kk (ρ ++ [q]) H1 locs ls (.ref q :: sv) (mm_px_push hρ h0) hHR hS1 (mm_LR_app _ hL) ⟨⟨by show w.2.1 ≤ _; rw [hlen, hH.1]; omega, ?_⟩, mm_SR_app _ hs2⟩
    · refine W.cs (m := m) ?_ ?_ this
      · show _ = (w.2.1 + 1 - w0.2.1).toNat; omega
      · show _ = (w.2.2 + n - w0.2.2).toNat; omega
    · show _ = va_rf (mm_adr old (ρ ++ [q]) w.2.1)
      rw [mm_adr_at (by rw [hH.1]; omega) (by rw [hlen, hH.1]; omega), hH.1]
      simp [List.getD]
      rfl
theorem mm_q_good {ρ : List Nat} {q k : Nat} {n : Int} (hk : k = 107 ∨ k = 109 ∨ k = 150) (h0 : 0 ≤ n) (h1 : n ≤ 1000000) : mm_good (ρ ++ [q]).length (mNew w k n) (mZero h w.2.1) w.2.1 := by
  refine Or.inr (Or.inr (Or.inr ?_))
  rw [mm_mNew_at, mm_mZero_at]
  exact ⟨hk, h0, h1, fun _ => ⟨Int.le_refl _, by show (0 : Int) ≤ _; omega⟩⟩
theorem mm_q_ent {ρ : List Nat} {q k : Nat} {n : Int} (hk : k = 107 ∨ k = 109 ∨ k = 150) : mm_ent old tys (ρ ++ [q]) (mNew w k n) (mZero h w.2.1) w.2.1 = .inl (mm_cA tys k, n.toNat, .inr (.inr (.inr (.inr (fun _ => none))))) := by
  rw [mm_ent_q (k := k) (by rw [mm_mNew_at]) (by omega), mm_mNew_at, mm_mZero_at]
  rfl
theorem st_anew (F : mm_Fr D tys B old L0 scr p s m args meth c nL own cc mn rt) {n : Int} {k i : Nat} {C : String} (hk : (k = 107 ∧ C = "FewRectangles$Rule") ∨ (k = 109 ∧ C = "FewRectangles$Sheet")) (hw1 : Jvm.Cond.classLink own i C ∈ lw_g) (hd : decode cc pc = .ok (.anewarray i, 3)) (h0 : 0 ≤ n) (h1 : n ≤ 1000000) (hr : ∀ ρ, mm_Px ρ0 w0 ρ w → (w.2.1 + 1 - w0.2.1).toNat ≤ R.cells ∧ (w.2.2 + n - w0.2.2).toNat ≤ R.slots) (kk : mm_Wc D tys B old L0 scr p l e R s m args below meth c nL ρ0 w0 Q (pc + 3) L ((2, w.2.1) :: st) ((mNew w k n)) ((mZero h w.2.1))) : mm_Wc D tys B old L0 scr p l e R s m args below meth c nL ρ0 w0 Q pc L ((0, n) :: st) w h := by
  intro ρ H locs ls sv hρ hH hS hL hst
  obtain ⟨v, sv, rfl, ⟨hn, rfl⟩, hs2⟩ := mm_SR_cons hst
  have hn : mm_i32 n := hn
  obtain ⟨r1, r2⟩ := hr ρ hρ
  have hpx := hρ.2
  have hcl := i32_cl h0 hn
  have hty : .object C = mm_tyk k ∧ (k = 107 ∨ k = 109 ∨ k = 150) := by rcases hk with ⟨rfl, rfl⟩ | ⟨rfl, rfl⟩ <;> exact ⟨rfl, by omega⟩
  have hov : va_AO C s := by rcases hk with ⟨_, rfl⟩ | ⟨_, rfl⟩; exact F.2.2.2.2.2.1.2.2.2.2.2.2.2.2.2.1; exact F.2.2.2.2.2.1.2.2.2.2.2.2.2.2.2.2.1
  refine va_newq F.1 F.2.1 F.2.2.2.1 (F.2.2.2.2.1 _ hw1) hov F.2.2.2.2.2.1.1 hH.2.2.2.2.1 hH.2.2.2.2.2 hS (mm_hA F) (n := Int32.ofInt n) (N' := n.toNat) (fun q => by have := (i32_lt hn i32_z).mp q; omega) hcl (by omega) (by omega) (by omega) hd (fun q cA H1 hK1 hP1 hD1 hS1 => ?_)
  have hcA := mm_K_last (k := k) hK1 (F.2.2.2.2.2.1.2.1 k (by omega)) hty.1
  subst hcA
  have hHR := mm_HR_push (k := k) (n := n) hH (mm_q_good hty.2 h0 h1) (mm_q_ent hty.2).symm hP1 hD1
  have hlen : (ρ ++ [q]).length = ρ.length + 1 := by simp
  have := kk (ρ ++ [q]) H1 locs ls (.ref q :: sv) (mm_px_push hρ h0) hHR hS1 (mm_LR_app _ hL) ⟨⟨by show w.2.1 ≤ _; rw [hlen, hH.1]; omega, ?_⟩, mm_SR_app _ hs2⟩
  · refine W.cs (m := m) ?_ ?_ this
    · show _ = (w.2.1 + 1 - w0.2.1).toNat; omega
    · show _ = (w.2.2 + n - w0.2.2).toNat; omega
  · show _ = va_rf (mm_adr old (ρ ++ [q]) w.2.1)
    rw [mm_adr_at (by rw [hH.1]; omega) (by rw [hlen, hH.1]; omega), hH.1]
    simp [List.getD]
    rfl
/-- what is known of a class that is made -/
def mm_nOK (own : String) (i ci : Nat) : Prop := ∃ (C : String) (T : u_T) (N : Nat) (ty : Nat → FieldType), mm_cls[ci]? = some (C, T, N) ∧ N = mm_nf (ci + 1) ∧ (∀ w ∈ u_ws C T N, w ∈ lw_g) ∧ (∀ j, j < N → parseFieldDescriptor (T j).2.2.1 = some (ty j)) ∧ Jvm.Cond.classLink own i C ∈ lw_g ∧ Jvm.Cond.instantiable C N ∈ lw_g ∧ Jvm.Cond.initialized C ∈ lw_g ∧ (∀ j, j < N → mm_ft (ci + 1) j ≤ 2 ∧ defaultValue (ty j) = (match mm_ft (ci + 1) j with | 0 => .int 0 | 1 => .long 0 | _ => .null))
theorem st_new (F : mm_Fr D tys B old L0 scr p s m args meth c nL own cc mn rt) {i ci : Nat} (hf : mm_nOK own i ci) (hd : decode cc pc = .ok (.new i, 3)) (hr : ∀ ρ, mm_Px ρ0 w0 ρ w → (w.2.1 + 1 - w0.2.1).toNat ≤ R.cells ∧ (w.2.2 + (mm_nf (ci + 1) : Nat) - w0.2.2).toNat ≤ R.slots) (kk : mm_Wc D tys B old L0 scr p l e R s m args below meth c nL ρ0 w0 Q (pc + 3) L ((2, w.2.1) :: st) ((mNew w (ci + 1) ((mm_nf (ci + 1) : Nat) : Int))) ((mZero h w.2.1))) : mm_Wc D tys B old L0 scr p l e R s m args below meth c nL ρ0 w0 Q pc L st w h := by
  intro ρ H locs ls sv hρ hH hS hL hst
  obtain ⟨C, T, N, ty, f1, hN, f2, f3, f4, f5, f6, f7⟩ := hf
  have hci := mm_cls_lt f1
  obtain ⟨r1, r2⟩ := hr ρ hρ
  have hpx := hρ.2
  refine va_new F.1 F.2.1 F.2.2.2.2.1 f2 ty f3 F.2.2.2.1 (F.2.2.2.2.1 _ f4) (F.2.2.2.2.1 _ f5) (F.2.2.2.2.1 _ f6) F.2.2.2.2.2.1.1 hH.2.2.2.2.1 hH.2.2.2.2.2 hS (mm_hA F) f1 (fs := (List.range (mm_nf (ci + 1))).map (fun i => mm_val old ρ (mm_ft (ci + 1) i) 0)) (fun j hj => ?_) (by omega) (by omega) hd (fun q H1 hP1 hD1 hS1 => ?_)
  · obtain ⟨g1, g2⟩ := f7 j hj
    rw [g2]
    unfold vp_V
    rw [List.getD_eq_getElem?_getD, List.getElem?_map, List.getElem?_range (by omega)]
    rcases (show mm_ft (ci + 1) j = 0 ∨ mm_ft (ci + 1) j = 1 ∨ mm_ft (ci + 1) j = 2 by omega) with e | e | e <;> simp only [e, Option.map, Option.getD, mm_val] <;> rfl
  · have hent : mm_ent old tys (ρ ++ [q]) (mNew w (ci + 1) ((mm_nf (ci + 1) : Nat) : Int)) (mZero h w.2.1) w.2.1 = .inr (ci, (List.range (mm_nf (ci + 1))).map (fun i => mm_val old ρ (mm_ft (ci + 1) i) 0)) := by
      rw [mm_ent_obj hci (by rw [mm_mNew_at]), mm_mZero_at]
      congr 2
    have hHR := mm_HR_push (k := ci + 1) (n := ((mm_nf (ci + 1) : Nat) : Int)) hH ?_ hent.symm hP1 hD1
    · have hlen : (ρ ++ [q]).length = ρ.length + 1 := by simp
      have := kk (ρ ++ [q]) H1 locs ls (.ref q :: sv) (mm_px_push hρ (by omega)) hHR hS1 (mm_LR_app _ hL) ⟨⟨by show w.2.1 ≤ _; rw [hlen, hH.1]; omega, ?_⟩, mm_SR_app _ hst⟩
      · refine W.cs (m := m) ?_ ?_ this
        · show _ = (w.2.1 + 1 - w0.2.1).toNat; omega
        · show _ = (w.2.2 + ((mm_nf (ci + 1) : Nat) : Int) - w0.2.2).toNat; omega
      · show _ = va_rf (mm_adr old (ρ ++ [q]) w.2.1)
        rw [mm_adr_at (by rw [hH.1]; omega) (by rw [hlen, hH.1]; omega), hH.1]
        simp [List.getD]
        rfl
    · refine Or.inl ?_
      rw [mm_mNew_at, mm_mZero_at]
      refine ⟨by show 1 ≤ ci + 1; omega, by show ci + 1 ≤ 13; omega, fun j hj => ?_⟩
      have g1 := (f7 j (by rw [hN]; exact hj)).1
      show match mm_ft (ci + 1) j with | 0 => _ | 1 => _ | _ => _
      rcases (show mm_ft (ci + 1) j = 0 ∨ mm_ft (ci + 1) j = 1 ∨ mm_ft (ci + 1) j = 2 by omega) with e | e | e <;> rw [e]
      · exact i32_z
      · exact mm_i64_z
      · exact ⟨Int.le_refl _, by show (0 : Int) ≤ _; omega⟩
end MM
end
section
theorem mm_asg (vm : Vm) (c : ClassId) : vm.assignable c c = true := by
  show Vm.assignableAux vm (255 + 1) c c = true
  rw [Vm.assignableAux]
  simp
section MM
variable {D : va_G} {tys : List (ClassId × FieldType)} {B : Nat} {old : Int → Nat} {L0 : Nat} {scr : Nat → Int32}
variable {p : Program} {l : Launch} {e : Env} {R : Room} {s : State} {m : MethodId} {args : Array Value} {below : List Frame} {meth : Method} {c : Code} {nL : Nat} {ρ0 : List Nat} {w0 : mm_W} {Q : State → Prop}
variable {own : String} {cc : ByteArray} {mn : String} {rt : Option FieldType} {pc : Nat} {L st : List mm_V} {w : mm_W} {h : mm_H} {nx : Nat} {tx : String}

theorem st_alen (F : mm_Fr D tys B old L0 scr p s m args meth c nL own cc mn rt) {a : Int} (hd : decode cc pc = .ok (.arraylength, 1)) (hk : 50 ≤ (w.1 a).1) (kk : mm_Wc D tys B old L0 scr p l e R s m args below meth c nL ρ0 w0 Q (pc + 1) L ((0, (w.1 a).2) :: st) w h) : mm_Wc D tys B old L0 scr p l e R s m args below meth c nL ρ0 w0 Q pc L ((2, a) :: st) w h := by
  intro ρ H locs ls sv hρ hH hS hL hst
  obtain ⟨va, sv, rfl, ⟨ha, rfl⟩, hs2⟩ := mm_SR_cons hst
  by_cases hp : 0 < a
  · have hle : a ≤ ρ.length := by
      rcases Int.lt_or_le ρ.length a with q | q
      · have := hH.2.2.1 a q; omega
      · exact q
    have p1 : 1 ≤ a := hp
    have hent := mm_ws_at (old := old) (tys := tys) (w := w) (h := h) p1 hle
    rw [show mm_adr old ρ ((2, a) : mm_V).2 = _ from mm_adr_at p1 hle]
    have hg := hH.2.1 a p1 hle
    have hr : 0 ≤ (w.1 a).2 ∧ (w.1 a).2 ≤ 1000000 ∧ ((w.1 a).1 = 50 ∨ (w.1 a).1 = 51 ∨ (w.1 a).1 = 52 ∨ (w.1 a).1 = 53 ∨ (w.1 a).1 = 107 ∨ (w.1 a).1 = 109 ∨ (w.1 a).1 = 150) := by
      rcases hg with ⟨-, h2, -⟩ | ⟨h0, h1, h2, -⟩ | ⟨h0, h1, h2, -⟩ | ⟨h0, h1, h2, -⟩ <;> omega
    obtain ⟨r0, r1, r2⟩ := hr
    have hv : Int32.ofNat (w.1 a).2.toNat = Int32.ofInt (w.1 a).2 := by
      rw [← Int32.ofInt_eq_ofNat, Int.toNat_of_nonneg r0]
    have ht := F.2.2.2.2.2.1.2.1 (w.1 a).1 r2
    have k2 := kk ρ H locs ls (.int (Int32.ofInt (w.1 a).2) :: sv) hρ hH hS hL ⟨⟨⟨by show -2147483648 ≤ (w.1 a).2; omega, by show (w.1 a).2 < 2147483648; omega⟩, rfl⟩, hs2⟩
    by_cases c1 : (w.1 a).1 < 53
    · rw [mm_ent_i rfl (by omega)] at hent
      exact va_alen F.1 F.2.1 F.2.2.2.2.2.1.1 hH.2.2.2.2.1 _ _ hent ht hv hd k2
    · by_cases c2 : (w.1 a).1 = 53
      · rw [mm_ent_j c2, ← c2] at hent
        exact va_alen F.1 F.2.1 F.2.2.2.2.2.1.1 hH.2.2.2.2.1 _ _ hent ht hv hd k2
      · rw [mm_ent_q rfl (by omega)] at hent
        exact va_alen F.1 F.2.1 F.2.2.2.2.2.1.1 hH.2.2.2.2.1 _ _ hent ht hv hd k2
  · have hneg : a ≤ 0 := by omega
    obtain ⟨n1, n1b, -, n2, n3⟩ := hH.2.2.2.1
    by_cases q1 : a = -1
    · subst q1
      have hE := F.2.2.2.2.2.1.2.2.2.1
      have hb := F.2.2.2.2.2.1.2.2.1
      rw [show mm_adr old ρ ((2, -1) : mm_V).2 = some (old (-1)) from rfl]
      rw [n1] at kk
      refine va_slen F.1 F.2.1 hE.1 (by omega) (by unfold mm_A; omega) hS hd ?_
      have e : Int32.ofNat L0 = Int32.ofInt ((L0 : Nat) : Int) := Int32.ofInt_eq_ofNat.symm
      rw [e]
      exact kk ρ H locs ls (.int (Int32.ofInt ((L0 : Nat) : Int)) :: sv) hρ hH hS hL ⟨⟨⟨by show -2147483648 ≤ ((L0 : Nat) : Int); omega, by show ((L0 : Nat) : Int) < 2147483648; omega⟩, rfl⟩, hs2⟩
    · by_cases q2 : ∀ i : Nat, i < 12 → a ≠ -(10 + 2 * (i : Int)) ∧ a ≠ -(11 + 2 * (i : Int))
      · rw [n3 a hneg q1 q2] at hk; omega
      · simp only [Classical.not_forall] at q2
        obtain ⟨i, hi, q2⟩ := q2
        obtain ⟨g1, -, -, g2, -⟩ := n2 i hi
        by_cases e2 : a = -(10 + 2 * (i : Int))
        · subst e2; rw [g1] at hk; exact absurd hk (show ¬ 50 ≤ (14 : Nat) by decide)
        · have e3 : a = -(11 + 2 * (i : Int)) := Classical.byContradiction fun z => q2 ⟨e2, z⟩
          subst e3
          obtain ⟨-, -, -, hT⟩ := F.2.2.2.2.2.1.2.2.2.2.1.1 i hi
          obtain ⟨b1, b2, b3⟩ := mm_sb_r i hi
          rw [b2, b3] at hT
          have ead : mm_adr old ρ ((2, -(11 + 2 * (i : Int))) : mm_V).2 = some (old (-(11 + 2 * (i : Int)))) := by
            show mm_adr old ρ (-(11 + 2 * (i : Int))) = _
            unfold mm_adr
            rw [if_pos (by omega)]
          rw [ead]
          rw [g2] at kk
          have hsm : mm_nth 0 i mm_sl < 1000 := by
            have : ∀ i, i < 12 → mm_nth 0 i mm_sl < 1000 := by decide +kernel
            exact this i hi
          refine va_tlen F.1 F.2.1 hT hS rfl hd ?_
          have e : Int32.ofNat (mm_nth 0 i mm_sl) = Int32.ofInt ((mm_nth 0 i mm_sl : Nat) : Int) := Int32.ofInt_eq_ofNat.symm
          rw [e]
          exact kk ρ H locs ls (.int (Int32.ofInt ((mm_nth 0 i mm_sl : Nat) : Int)) :: sv) hρ hH hS hL ⟨⟨⟨by show -2147483648 ≤ ((mm_nth 0 i mm_sl : Nat) : Int); omega, by show ((mm_nth 0 i mm_sl : Nat) : Int) < 2147483648; omega⟩, rfl⟩, hs2⟩
theorem st_aastore (F : mm_Fr D tys B old L0 scr p s m args meth c nL own cc mn rt) {a j z : Int} (hd : decode cc pc = .ok (.aastore, 1)) (hk : 100 ≤ (w.1 a).1) (h0 : 0 ≤ j) (h1 : j < (w.1 a).2) (hz0 : 0 < z) (hzk : (w.1 z).1 + 100 = (w.1 a).1) (kk : mm_Wc D tys B old L0 scr p l e R s m args below meth c nL ρ0 w0 Q (pc + 1) L st w ((mUp h a j z))) : mm_Wc D tys B old L0 scr p l e R s m args below meth c nL ρ0 w0 Q pc L ((2, z) :: (0, j) :: (2, a) :: st) w h := by
  intro ρ H locs ls sv hρ hH hS hL hst
  obtain ⟨v, sv, rfl, ⟨hz, rfl⟩, hs0⟩ := mm_SR_cons hst
  obtain ⟨v, sv, rfl, ⟨hj, rfl⟩, hs1⟩ := mm_SR_cons hs0
  obtain ⟨va, sv, rfl, ⟨ha, rfl⟩, hs2⟩ := mm_SR_cons hs1
  have hj : mm_i32 j := hj
  have hz : z ≤ ρ.length := hz
  obtain ⟨p1, p2⟩ := mm_pos (a := a) hH (by omega) (by omega) (by omega) (Or.inl (by omega))
  have hent := mm_ws_at (old := old) (tys := tys) (w := w) (h := h) p1 p2
  rw [mm_ent_q rfl hk] at hent
  have hentz := mm_ws_at (old := old) (tys := tys) (w := w) (h := h) (show 1 ≤ z from hz0) hz
  have hz' := mm_adr_at (old := old) (show 1 ≤ z from hz0) hz
  rw [show mm_adr old ρ ((2, a) : mm_V).2 = _ from mm_adr_at p1 p2, show mm_adr old ρ ((2, z) : mm_V).2 = _ from hz']
  have hg := mm_good_q rfl hk (hH.2.1 a p1 p2)
  have ht := F.2.2.2.2.2.1.2.1 (w.1 a).1 (by omega)
  have hin := i32_in h0 h1 hj
  have hlt : (Int32.ofInt j).toNatClampNeg < (w.1 a).2.toNat := Nat.not_le.mp fun q => hin (Or.inr q)
  have fin : ∀ (H1 : Heap) (locs1 : List Loc), va_P D mm_cls ((mm_ws old tys ρ w h).set (a.toNat - 1) (ρ.getD (a.toNat - 1) 0, .inl (mm_cA tys (w.1 a).1, (w.1 a).2.toNat, .inr (.inr (.inr (.inr (va_up (fun q : Nat => mm_adr old ρ (h a q)) (Int32.ofInt j).toNatClampNeg (some (ρ.getD (z.toNat - 1) 0))))))))) H1 → va_D (mm_A B) ((mm_ws old tys ρ w h).set (a.toNat - 1) (ρ.getD (a.toNat - 1) 0, .inl (mm_cA tys (w.1 a).1, (w.1 a).2.toNat, .inr (.inr (.inr (.inr (va_up (fun q : Nat => mm_adr old ρ (h a q)) (Int32.ofInt j).toNatClampNeg (some (ρ.getD (z.toNat - 1) 0))))))))) → va_S (mm_A B) s.heap H1 locs1 → W p l e R s m args below meth c H1 locs1 (w.2.1 - w0.2.1).toNat (w.2.2 - w0.2.2).toNat Q (F0 m (pc + 1) ls sv) := by
    intro H1 locs1 hP1 hD1 hS1
    rw [i32_cl h0 hj, ← mm_upd_q h0 hz'] at hP1 hD1
    exact kk ρ H1 locs1 ls sv hρ (mm_HR_put hH p1 (fun b q hb => by simp [mUp, hb]) (Or.inr (Or.inr (Or.inr ⟨hg.1, hg.2.1, hg.2.2.1, mm_up_r (P := fun x => 0 ≤ x ∧ x ≤ (ρ.length : Int)) ⟨by omega, hz⟩ hg.2.2.2⟩))) (mm_ent_q rfl hk).symm hP1 hD1) hS1 hL hs2
  rcases hg.1 with e | e | e
  · rw [mm_ent_obj (ci := 6) (by omega) (by omega)] at hentz
    rw [e] at ht
    have ht2 : tys[mm_ki 107]? = some (mm_cA tys (w.1 a).1, .object "FewRectangles$Rule") := by rw [ht, e]; rfl
    exact va_astq (r := ("FewRectangles$Rule", mm_F6, 8)) F.1 F.2.1 F.2.2.2.2.2.1.1 hH.2.2.2.2.1 hH.2.2.2.2.2 hS _ _ _ 6 hent ht2 hentz rfl hin hd fin
  · rw [mm_ent_obj (ci := 8) (by omega) (by omega)] at hentz
    rw [e] at ht
    have ht2 : tys[mm_ki 109]? = some (mm_cA tys (w.1 a).1, .object "FewRectangles$Sheet") := by rw [ht, e]; rfl
    exact va_astq (r := ("FewRectangles$Sheet", mm_F8, 9)) F.1 F.2.1 F.2.2.2.2.2.1.1 hH.2.2.2.2.1 hH.2.2.2.2.2 hS _ _ _ 8 hent ht2 hentz rfl hin hd fin
  · rw [mm_ent_i (k := 50) (by omega) (by omega)] at hentz
    rw [e] at ht
    have ht2 : tys[mm_ki 150]? = some (mm_cA tys (w.1 a).1, .array .int) := by rw [ht, e]; rfl
    have ht5 := F.2.2.2.2.2.1.2.1 50 (by omega)
    obtain ⟨comp, cA, kA, a1, a2, a3, a4, a5⟩ := arrayOverA_spec F.2.2.2.2.2.1.2.2.2.2.2.2.2.2.2.2.2
    have k50 : s.vm.findClass _ = some (mm_cA tys 50) := (F.2.2.2.2.2.1.1.2 _ _ ht5).2
    have k150 : s.vm.findClass _ = some (mm_cA tys (w.1 a).1) := (F.2.2.2.2.2.1.1.2 _ _ ht2).2
    have hcA : cA = mm_cA tys (w.1 a).1 := Option.some.inj (a5.symm.trans k150)
    have hcomp : comp = mm_cA tys 50 := Option.some.inj (a1.symm.trans k50)
    subst hcA; subst hcomp
    obtain ⟨kC, hkC, -⟩ := Vm.findClass_spec k50
    refine W.aast F.1 F.2.1 (hH.2.2.2.2.1 _ _ hent) (fun q h => by cases h) (fun h => by cases h) a3 a4 rfl hkC ⟨fun q => hin (Or.inl q), by show _ < (arrV _ _ _).slots.size; rw [arrV_size]; exact hlt⟩ (hH.2.2.2.2.1 _ _ hentz) (fun q h => by cases h) hkC (mm_asg _ _) rfl rfl hd fun H1 e z oq => ?_
    refine fin H1 _ (hH.2.2.2.2.1.set hH.2.2.2.2.2 hent ?_ oq) (hH.2.2.2.2.2.set hent) (hS.put z oq (hH.2.2.2.2.2.2 _ _ hent))
    show H1[_]? = some (vp_cell _ _)
    rw [e]
    rw [vp_cell_q, vp_cell_q, arrV_store]
    congr 2
    funext q
    by_cases hq : q = (Int32.ofInt j).toNatClampNeg
    · subst hq
      simp [updV, va_up, va_rf]
    · simp [updV, va_up, hq]
theorem st_anewI (F : mm_Fr D tys B old L0 scr p s m args meth c nL own cc mn rt) {n : Int} {i : Nat} (hw1 : Jvm.Cond.classLink own i (FieldType.array .int).toString ∈ lw_g) (hd : decode cc pc = .ok (.anewarray i, 3)) (h0 : 0 ≤ n) (h1 : n ≤ 1000000) (hr : ∀ ρ, mm_Px ρ0 w0 ρ w → (w.2.1 + 1 - w0.2.1).toNat ≤ R.cells ∧ (w.2.2 + n - w0.2.2).toNat ≤ R.slots) (kk : mm_Wc D tys B old L0 scr p l e R s m args below meth c nL ρ0 w0 Q (pc + 3) L ((2, w.2.1) :: st) ((mNew w 150 n)) ((mZero h w.2.1))) : mm_Wc D tys B old L0 scr p l e R s m args below meth c nL ρ0 w0 Q pc L ((0, n) :: st) w h := by
  intro ρ H locs ls sv hρ hH hS hL hst
  obtain ⟨v, sv, rfl, ⟨hn, rfl⟩, hs2⟩ := mm_SR_cons hst
  have hn : mm_i32 n := hn
  obtain ⟨r1, r2⟩ := hr ρ hρ
  have hpx := hρ.2
  have hcl := i32_cl h0 hn
  refine W.anewA F.1 F.2.1 F.2.2.2.1 (F.2.2.2.2.1 _ hw1) (mm_AOI_use F.2.2.2.2.2.1.2.2.2.2.2.2.2.2.2.2.2) rfl hd (n := Int32.ofInt n) rfl (fun q => by have := (i32_lt hn i32_z).mp q; omega) (by show (Int32.ofInt n).toNatClampNeg * 4 ≤ _; rw [hcl]; omega) (by omega) (by rw [hcl]; omega) (fun cA kA comp a1 a2 a3 a4 => ?_)
  have k150 : s.vm.findClass _ = some (mm_cA tys 150) := (F.2.2.2.2.2.1.1.2 _ _ (F.2.2.2.2.2.1.2.1 150 (by omega))).2
  have hcA : cA = mm_cA tys 150 := Option.some.inj (a1.symm.trans k150)
  subst hcA
  have hcell : ({ cls := mm_cA tys 150, slots := Array.replicate (Int32.ofInt n).toNatClampNeg .null, vm := .none } : Cell) = vp_cell (mm_cA tys 150) (n.toNat, .inr (.inr (.inr (.inr (fun _ => none))))) := by
    rw [vp_cell_q, hcl]
    show _ = ({ cls := _, slots := _, vm := _ } : Cell)
    congr 1
    apply Array.ext
    · simp
    · intro q h1 h2
      simp [va_rf]
  rw [hcell]
  have hP2 := hH.2.2.2.2.1
  have hpush : ∀ q : Nat, q < H.size → (H.push (vp_cell (mm_cA tys 150) (n.toNat, .inr (.inr (.inr (.inr (fun _ => none)))))))[q]? = H[q]? := fun q hq => by rw [Array.getElem?_push, if_neg (by omega)]
  have hP3 : va_P D mm_cls (mm_ws old tys ρ w h ++ [(H.size, .inl (mm_cA tys 150, n.toNat, .inr (.inr (.inr (.inr (fun _ => none))))))]) (H.push (vp_cell (mm_cA tys 150) (n.toNat, .inr (.inr (.inr (.inr (fun _ => none))))))) := by
    refine (hP2.kept (fun k x hx => hpush _ (hP2 k x hx).lt)).app (fun k x hx => ?_)
    cases k with
    | zero =>
      simp at hx
      subst hx
      show (H.push _)[H.size]? = _
      rw [Array.getElem?_push_size]
    | succ k => simp at hx
  have hD3 : va_D (mm_A B) (mm_ws old tys ρ w h ++ [(H.size, .inl (mm_cA tys 150, n.toNat, .inr (.inr (.inr (.inr (fun _ => none))))))]) := hH.2.2.2.2.2.push hP2 rfl (mm_hA F _ hS.1)
  have hHR := mm_HR_push (k := 150) (n := n) hH (mm_q_good (Or.inr (Or.inr rfl)) h0 h1) (mm_q_ent (Or.inr (Or.inr rfl))).symm hP3 hD3
  have hS3 : va_S (mm_A B) s.heap (H.push (vp_cell (mm_cA tys 150) (n.toNat, .inr (.inr (.inr (.inr (fun _ => none))))))) locs := ⟨by rw [Array.size_push]; exact Nat.le_succ_of_le hS.1, fun q a1 a2 => by rw [hpush q (Nat.lt_of_lt_of_le a1 hS.1)]; exact hS.2.1 q a1 a2, hS.2.2⟩
  have hlen : (ρ ++ [H.size]).length = ρ.length + 1 := by simp
  have := kk (ρ ++ [H.size]) _ locs ls (.ref H.size :: sv) (mm_px_push hρ h0) hHR hS3 (mm_LR_app _ hL) ⟨⟨by show w.2.1 ≤ _; rw [hlen, hH.1]; omega, ?_⟩, mm_SR_app _ hs2⟩
  · refine W.cs (m := m) ?_ ?_ this
    · show _ = (w.2.1 + 1 - w0.2.1).toNat; omega
    · show _ = (w.2.2 + n - w0.2.2).toNat; rw [hcl]; omega
  · show _ = va_rf (mm_adr old (ρ ++ [H.size]) w.2.1)
    rw [mm_adr_at (by rw [hH.1]; omega) (by rw [hlen, hH.1]; omega), hH.1]
    simp [List.getD]
    rfl
theorem mm_cpy_fun {h : mm_H} {a0 sp d dp n : Int} (h1 : 0 ≤ sp) (h2 : 0 ≤ dp) (h3 : 0 ≤ n) : (fun q : Nat => Int32.ofInt (mCpy h a0 sp d dp n d q)) = va_cpy (fun q : Nat => Int32.ofInt (h a0 q)) (fun q : Nat => Int32.ofInt (h d q)) sp.toNat dp.toNat n.toNat := by
  funext q
  unfold va_cpy mCpy
  by_cases e : dp ≤ (q : Int) ∧ (q : Int) < dp + n
  · rw [if_pos ⟨rfl, e⟩, if_pos (by omega)]
    congr 2
    omega
  · rw [if_neg (fun x => e x.2), if_neg (by omega)]
theorem st_copy (F : mm_Fr D tys B old L0 scr p s m args meth c nL own cc mn rt) {i : Nat} {a0 sp d dp n : Int} (hw1 : Jvm.Cond.methodLink own i arraycopyName ∈ lw_g) (hw2 : Jvm.Cond.native arraycopyName ∈ lw_g) (hw3 : Jvm.Cond.static arraycopyName ∈ lw_g) (hw4 : Jvm.Cond.initialized "java/lang/System" ∈ lw_g) (hR : 1 ≤ R.frames ∧ nativeFrameWords "java/lang/System" "arraycopy" 5 + 11 ≤ R.locals) (hd : decode cc pc = .ok (.invokestatic i, 3)) (hq : (w.1 a0).1 = 50 ∧ (w.1 d).1 = 50 ∧ 0 < a0 ∧ 0 < d ∧ 0 ≤ sp ∧ 0 ≤ dp ∧ 0 ≤ n ∧ sp + n ≤ (w.1 a0).2 ∧ dp + n ≤ (w.1 d).2) (kk : mm_Wc D tys B old L0 scr p l e R s m args below meth c nL ρ0 w0 Q (pc + 3) L [] w ((mCpy h a0 sp d dp n))) : mm_Wc D tys B old L0 scr p l e R s m args below meth c nL ρ0 w0 Q pc L [(0, n), (0, dp), (2, d), (0, sp), (2, a0)] w h := by
  intro ρ H locs ls sv hρ hH hS hL hst
  obtain ⟨v, sv, rfl, ⟨hn, rfl⟩, hs0⟩ := mm_SR_cons hst
  obtain ⟨v, sv, rfl, ⟨hdp, rfl⟩, hs1⟩ := mm_SR_cons hs0
  obtain ⟨v, sv, rfl, ⟨hd0, rfl⟩, hs2⟩ := mm_SR_cons hs1
  obtain ⟨v, sv, rfl, ⟨hsp, rfl⟩, hs3⟩ := mm_SR_cons hs2
  obtain ⟨v, sv, rfl, ⟨ha0, rfl⟩, hs4⟩ := mm_SR_cons hs3
  obtain rfl := mm_SR_nil hs4
  have hn : mm_i32 n := hn
  have hdp : mm_i32 dp := hdp
  have hsp : mm_i32 sp := hsp
  obtain ⟨q1, q2, q3, q4, q5, q6, q7, q8, q9⟩ := hq
  obtain ⟨p1, p2⟩ := mm_pos hH (a := a0) (by omega) (by omega) (by omega) (Or.inr q3)
  obtain ⟨p3, p4⟩ := mm_pos hH (a := d) (by omega) (by omega) (by omega) (Or.inr q4)
  have hent0 := mm_ws_at (old := old) (tys := tys) (w := w) (h := h) p1 p2
  have hent1 := mm_ws_at (old := old) (tys := tys) (w := w) (h := h) p3 p4
  rw [mm_ent_i q1 (by omega)] at hent0
  rw [mm_ent_i q2 (by omega)] at hent1
  rw [show mm_adr old ρ ((2, a0) : mm_V).2 = _ from mm_adr_at p1 p2, show mm_adr old ρ ((2, d) : mm_V).2 = _ from mm_adr_at p3 p4]
  have g0 := mm_good_i q1 (by omega) (hH.2.1 a0 p1 p2)
  have g1 := mm_good_i q2 (by omega) (hH.2.1 d p3 p4)
  have ht := F.2.2.2.2.2.1.2.1 50 (by omega)
  have e1 := i32_cl q5 hsp
  have e2 := i32_cl q6 hdp
  have e3 := i32_cl q7 hn
  refine va_copyi F.1 F.2.1 (F.2.2.1.trans hL.1.symm) F.2.2.2.1 (F.2.2.2.2.1 _ hw1) (F.2.2.2.2.1 _ hw2) (F.2.2.2.2.1 _ hw3) (F.2.2.2.2.1 _ hw4) F.2.2.2.2.2.1.1 hH.2.2.2.2.1 hH.2.2.2.2.2 hS _ _ _ _ hent0 hent1 ht ht rfl (sp := Int32.ofInt sp) (dp := Int32.ofInt dp) (n := Int32.ofInt n) (fun q => by have := (i32_lt hsp i32_z).mp q; omega) (fun q => by have := (i32_lt hdp i32_z).mp q; omega) (fun q => by have := (i32_lt hn i32_z).mp q; omega) (by omega) (by omega) (fun _ _ => rfl) hR.1 (by show 0 + _ ≤ _; omega) hd fun H1 locs1 hP1 hD1 hS1 => ?_
  rw [e1, e2, e3, ← mm_cpy_fun q5 q6 q7] at hP1 hD1
  exact kk ρ H1 locs1 ls [] hρ (mm_HR_put hH p3 (fun b q hb => by simp [mCpy, hb]) (Or.inr (Or.inl ⟨Or.inl q2, g1.1, g1.2.1, fun q => by unfold mCpy; split; exact g0.2.2 _; exact g1.2.2 _⟩)) (mm_ent_i q2 (by omega)).symm hP1 hD1) hS1 hL trivial
end MM
end
section
/-! Calls: a callee's contract, by its run in the mini machine. -/
def mm_CP (D : va_G) (tys : List (ClassId × FieldType)) (B : Nat) (old : Int → Nat) (L0 : Nat) (scr : Nat → Int32) (ρ : List Nat) (as : List mm_V) (w : mm_W) (h : mm_H) : Array Value → State → Prop := fun a U => ∃ av : List Value, a = av.toArray ∧ mm_SR old ρ as av ∧ mm_Env D tys B old L0 scr U ∧ mm_HR D tys B old L0 scr ρ w h U.heap
def mm_out (old : Int → Nat) (ρ : List Nat) (v : mm_V) (oc : Outcome) : Prop := (v.1 = 9 ∧ oc = .returned none) ∨ (v.1 ≤ 2 ∧ ∃ x, oc = .returned (some x) ∧ mm_VR old ρ v x)
def mm_CQ (D : va_G) (tys : List (ClassId × FieldType)) (B : Nat) (old : Int → Nat) (L0 : Nat) (scr : Nat → Int32) (ρ : List Nat) (r : mm_R) : Array Value → State → Outcome → State → Prop := fun _ st oc t => (∃ ρx, mm_out old (ρ ++ ρx) r.1 oc ∧ mm_HR D tys B old L0 scr (ρ ++ ρx) r.2.1 r.2.2 t.heap) ∧ va_F (mm_A B) st t
theorem mm_CP_blind {D : va_G} {tys : List (ClassId × FieldType)} {B : Nat} {old : Int → Nat} {L0 : Nat} {scr : Nat → Int32} {ρ : List Nat} {as : List mm_V} {w : mm_W} {h : mm_H} : FrameBlind (mm_CP D tys B old L0 scr ρ as w h) := by
  intro a U g mk ⟨av, h1, h2, h3, h4⟩
  refine ⟨av, h1, h2, ?_, h4⟩
  obtain ⟨g1, g2, g3, ⟨g4, g4b⟩, g5, g6, g7, g8, g9, g10, g11, g12⟩ := h3
  exact ⟨va_K.moved (u := U) (U := U.calling g mk a) (Vm.Alike.refl U.vm) g1, g2, g3, ⟨g4.moved (u := U) (U := U.calling g mk a) (Vm.Alike.refl U.vm), g4b⟩, g5.moved (u := U) (U := U.calling g mk a) (Vm.Alike.refl U.vm), fun i hi => (g6 i hi).same (u := U) (U := U.calling g mk a) rfl, g7.moved (u := U) (U := U.calling g mk a) (Vm.Alike.refl U.vm), g8.moved (u := U) (U := U.calling g mk a) (Vm.Alike.refl U.vm), fun own i y host hm => (g9 own i y host hm).same rfl (u := U) (U := U.calling g mk a) rfl, g10.moved (u := U) (U := U.calling g mk a) (Vm.Alike.refl U.vm), g11.moved (u := U) (U := U.calling g mk a) (Vm.Alike.refl U.vm), mm_AOI_moved (u := U) (U := U.calling g mk a) (Vm.Alike.refl U.vm) g12⟩
def mm_rm (d mc ms : Nat) : Room := { frames := d, cells := mc, slots := ms, locals := 96 * d }
/-- the contract of the method y for one run -/
def mm_Met (D : va_G) (tys : List (ClassId × FieldType)) (B : Nat) (old : Int → Nat) (L0 : Nat) (scr : Nat → Int32) (l : Launch) (d : Nat) (y : MethodName) (cc : ByteArray) (maxL : Nat) (rt : Option FieldType) (as : List mm_V) (w : mm_W) (h : mm_H) (r : mm_R) : Prop := ∀ ρ : List Nat, Met l y (Jvm.Cond.code y cc maxL rt :: lw_g) (mm_rm d (r.2.1.2.1 - w.2.1).toNat (r.2.1.2.2 - w.2.2).toNat) (mm_CP D tys B old L0 scr ρ as w h) (mm_CQ D tys B old L0 scr ρ r) (r.2.1.2.1 - w.2.1).toNat (r.2.1.2.2 - w.2.2).toNat (mm_A B)
theorem mm_split_at {old : Int → Nat} {ρ : List Nat} : ∀ (n : Nat) (acc : List mm_V) (st as st2 : List mm_V) (accv sv : List Value), mm_split n acc st = some (as, st2) → mm_SR old ρ acc accv → mm_SR old ρ st sv → ∃ av sv2, mm_SR old ρ as av ∧ mm_SR old ρ st2 sv2 ∧ av.reverse ++ sv2 = accv.reverse ++ sv ∧ av.length = n + accv.length
  | 0, acc, st, as, st2, accv, sv, h, ha, hs => by
    simp [mm_split] at h
    obtain ⟨rfl, rfl⟩ := h
    exact ⟨accv, sv, ha, hs, rfl, by omega⟩
  | n + 1, acc, [], as, st2, accv, sv, h, ha, hs => by simp [mm_split] at h
  | n + 1, acc, v :: st, as, st2, accv, sv, h, ha, hs => by
    obtain ⟨x, sv, rfl, hx, hs2⟩ := mm_SR_cons hs
    rw [mm_split] at h
    obtain ⟨av, sv2, h1, h2, h3, h4⟩ := mm_split_at n (v :: acc) st as st2 (x :: accv) sv h ⟨hx, ha⟩ hs2
    refine ⟨av, sv2, h1, h2, ?_, ?_⟩
    · rw [h3]; simp
    · rw [h4]; simp; omega
theorem mm_cats_at {old : Int → Nat} {ρ : List Nat} : ∀ {st : List mm_V} {sv : List Value}, mm_SR old ρ st sv → (sv.map fun v => v.category).sum = mm_cats st
  | [], [], _ => rfl
  | [], _ :: _, h => h.elim
  | _ :: _, [], h => h.elim
  | v :: st, x :: sv, h => by
    rw [List.map_cons, List.sum_cons, mm_cats_at h.2]
    show _ = mm_if (Nat.beq v.1 1) 2 1 + mm_cats st
    congr 1
    have e := mm_VR_cat h.1
    cases hb : Nat.beq v.1 1 with
    | true => exact e.mpr (Nat.eq_of_beq_eq_true hb)
    | false =>
      rcases lv_cat x with q | q
      · exact q
      · have := e.mp q
        rw [this] at hb
        cases hb
theorem lw_good : ∀ w ∈ lw_g, (w.onTables && w.keeps) = true ∨ ∃ ty, w = .arrayClass ty := fun w hw => good_of_word (List.mem_filter.mp hw).2
/-- what is known of a call's entry of a class's pool: kind 0 static, 1 virtual, 2 a constructor -/
def mm_cOK (own : String) (i kd : Nat) (y : MethodName) (n : Nat) : Prop :=
  Jvm.Cond.initialized y.cls ∈ lw_g ∧ (y.cls ≠ "java/lang/invoke/MethodHandle" ∧ y.cls ≠ "java/lang/invoke/VarHandle") ∧ (Jvm.Cond.methodLink own i y ∈ lw_g ∨ ∃ host, Jvm.Cond.methodLinkNest own i y host ∈ lw_tbl) ∧
  ((kd = 0 ∧ Jvm.Cond.static y ∈ lw_g ∧ (parseMethodDescriptor y.desc).map (fun d => d.parameters.length) = some n) ∨
   (kd = 1 ∧ Jvm.Cond.instanceMethod y ∈ lw_g ∧ Jvm.Cond.selects y.cls y y ∈ lw_g ∧ ∃ n1, n = n1 + 1 ∧ (parseMethodDescriptor y.desc).map (fun d => d.parameters.length) = some n1) ∨
   (kd = 2 ∧ y.name = "<init>" ∧ Jvm.Cond.instanceMethod y ∈ lw_g ∧ ∃ n1, n = n1 + 1 ∧ (parseMethodDescriptor y.desc).map (fun d => d.parameters.length) = some n1))
section MM
variable {D : va_G} {tys : List (ClassId × FieldType)} {B : Nat} {old : Int → Nat} {L0 : Nat} {scr : Nat → Int32}
variable {p : Program} {l : Launch} {e : Env} {R : Room} {s : State} {m : MethodId} {args : Array Value} {below : List Frame} {meth : Method} {c : Code} {nL : Nat} {ρ0 : List Nat} {w0 : mm_W} {Q : State → Prop}
variable {own : String} {cc : ByteArray} {mn : String} {rt : Option FieldType} {pc : Nat} {L st : List mm_V} {w : mm_W} {h : mm_H} {nx : Nat} {tx : String}

theorem mm_plen {y : MethodName} {n : Nat} (h : (parseMethodDescriptor y.desc).map (fun d => d.parameters.length) = some n) : ∀ sig, parseMethodDescriptor y.desc = some sig → n = sig.parameters.length := by
  intro sig hs
  rw [hs] at h
  exact (Option.some.inj h).symm
theorem mm_back (F : mm_Fr D tys B old L0 scr p s m args meth c nL own cc mn rt) {y : MethodName} {bytes : ByteArray} {maxL mc ms d : Nat} {rty : Option FieldType} {Pc : Array Value → State → Prop} {Qc : Array Value → State → Outcome → State → Prop} {free : Addr → Prop} (hM : Met l y (Jvm.Cond.code y bytes maxL rty :: lw_g) (mm_rm d mc ms) Pc Qc mc ms free) (hbl : FrameBlind Pc) (hcode : Jvm.Cond.code y bytes maxL rty ∈ lw_g) (hini : Jvm.Cond.initialized y.cls ∈ lw_g) (hR : d + 1 ≤ R.frames ∧ 24 + (maxL + 11) + 96 * d ≤ R.locals) : Back l R p e below s args y 3 24 (PreOf R mc ms Pc) (PostOf Qc mc ms free) := by
  refine back_of (bytes := bytes) (maxL := maxL) (ret := rty) hM hbl rfl rfl hR.1 hR.2 ?_ List.mem_cons_self (fun a' U hW => word_at hW (lw_good _ hini) (F.2.2.2.2.1 _ hini))
  intro w hw a' U hW
  rcases List.mem_cons.mp hw with rfl | hw
  · exact word_at hW (lw_good _ hcode) (F.2.2.2.2.1 _ hcode)
  · exact word_at hW (lw_good _ hw) (F.2.2.2.2.1 _ hw)
/-- a call: what comes back -/
theorem mm_runC (F : mm_Fr D tys B old L0 scr p s m args meth c nL own cc mn rt) {y : MethodName} {bytes : ByteArray} {maxL mc ms d i kd n : Nat} {rty : Option FieldType} {Pc : Array Value → State → Prop} {Qc : Array Value → State → Outcome → State → Prop} {free : Addr → Prop} {H : Heap} {locs : List Loc} {cells slots : Nat} {ls : Array Slot} {av rest : List Value} (hM : Met l y (Jvm.Cond.code y bytes maxL rty :: lw_g) (mm_rm d mc ms) Pc Qc mc ms free) (hbl : FrameBlind Pc) (hcode : Jvm.Cond.code y bytes maxL rty ∈ lw_g) (hret : kd = 2 → rty = none) (hc : mm_cOK own i kd y n) (hR : d + 1 ≤ R.frames ∧ 24 + (maxL + 11) + 96 * d ≤ R.locals) (hd : (kd = 0 ∧ decode cc pc = .ok (.invokestatic i, 3)) ∨ (kd = 1 ∧ decode cc pc = .ok (.invokevirtual i, 3)) ∨ (kd = 2 ∧ decode cc pc = .ok (.invokespecial i, 3))) (hn : av.length = n) (hsize : ls.size = nL) (hW : (rest.map fun v => v.category).sum ≤ 24) (hf : cells + mc ≤ R.cells ∧ slots + ms ≤ R.slots) (hrec : kd = 1 → ∃ b av', av = .ref b :: av' ∧ ∃ cellB : Cell, H[b]? = some cellB ∧ cellB.vm.isStatics = false ∧ s.vm.findClass y.cls = some cellB.cls) (hrec2 : kd = 2 → ∃ b av', av = .ref b :: av') (hpre : ∀ U : State, U.heap = H → s.WarmedH U.vm → Pc av.toArray U) :
    va_Run p l e R s m args below meth c H locs cells slots mc ms (F0 m pc ls (av.reverse ++ rest)) rest (Qc av.toArray) free := by
  obtain ⟨hini, hy, hlk, hk⟩ := hc
  have hK := mm_back (p := p) (e := e) (below := below) F hM hbl hcode hini hR
  have hx := F.1
  have hb := F.2.1
  have hml := F.2.2.1
  have ho := F.2.2.2.1
  have hts := F.2.2.2.2.1
  have hNw := F.2.2.2.2.2.1.2.2.2.2.2.2.2.2.1
  have hmr : ∀ sv, 2 * (F0 m pc ls sv).monitorRoom + (rest.map fun v => v.category).sum ≤ 24 := fun sv => by
    show 2 * 0 + _ ≤ 24
    omega
  intro T hT X
  rcases hk with ⟨rfl, k1, k2⟩ | ⟨rfl, k1, k2, n1, rfl, k3⟩ | ⟨rfl, k1, k2, n1, rfl, k3⟩
  · have hd : decode cc pc = .ok (.invokestatic i, 3) := by
      rcases hd with ⟨-, hd⟩ | ⟨q, -⟩ | ⟨q, -⟩
      · exact hd
      · cases q
      · cases q
    rcases hlk with hl | ⟨host, hl⟩
    · obtain ⟨v, vm₁, ⟨U', l2, c2, s2⟩, hW₁, X', ⟨g', mk, t, L, e1, e2, hq, h1, hL, h2, h3⟩, st⟩ := callS X hx (bytes := bytes) (maxL := maxL) (ret := rty) ho (hts _ hl) (hts _ k1) (hts _ hini) (hts _ hcode) hy hK (g := F0 m pc ls (av.reverse ++ rest)) rfl (hsize.trans hml.symm) (argsL := av) (rest := rest) (fun sig h => hn.trans (mm_plen k2 sig h)) rfl (hmr _) (by rw [hb]; exact hd) (fun vm₁ hW₁ => ⟨hf.1, hf.2, hpre (T.setVm vm₁) hT hW₁⟩)
      dsimp only [Pt.U, Pt.locs, Pt.cells, Pt.slots] at X' e1 e2 h1 h2 h3 st
      subst h1; subst h2; subst h3
      exact ⟨v, (T.setVm vm₁).calling g' mk av.toArray, t, U', L, hT, X', hL, e1, e2, hq, st⟩
    · obtain ⟨v, vm₁, ⟨U', l2, c2, s2⟩, hW₁, X', ⟨g', mk, t, L, e1, e2, hq, h1, hL, h2, h3⟩, st⟩ := va_callSN X hx (bytes := bytes) (maxL := maxL) (ret := rty) ho (va_Nw.use rfl (hNw _ _ _ _ hl)) (hts _ k1) (hts _ hini) (hts _ hcode) hy hK (g := F0 m pc ls (av.reverse ++ rest)) rfl (hsize.trans hml.symm) (argsL := av) (rest := rest) (fun sig h => hn.trans (mm_plen k2 sig h)) rfl (hmr _) (by rw [hb]; exact hd) (fun vm₁ hW₁ => ⟨hf.1, hf.2, hpre (T.setVm vm₁) hT hW₁⟩)
      dsimp only [Pt.U, Pt.locs, Pt.cells, Pt.slots] at X' e1 e2 h1 h2 h3 st
      subst h1; subst h2; subst h3
      exact ⟨v, (T.setVm vm₁).calling g' mk av.toArray, t, U', L, hT, X', hL, e1, e2, hq, st⟩
  · have hd : decode cc pc = .ok (.invokevirtual i, 3) := by
      rcases hd with ⟨q, -⟩ | ⟨-, hd⟩ | ⟨q, -⟩
      · cases q
      · exact hd
      · cases q
    obtain ⟨b, av', rfl, cellB, hcB, hoB, hclB⟩ := hrec rfl
    have hst : (Value.ref b :: av').reverse ++ rest = av'.reverse ++ .ref b :: rest := by simp
    have hn' : av'.length = n1 := by simpa using hn
    rcases hlk with hl | ⟨host, hl⟩
    · obtain ⟨v, vm₁, ⟨U', l2, c2, s2⟩, hW₁, X', ⟨g', mk, t, L, e1, e2, hq, h1, hL, h2, h3⟩, st⟩ := callV X hx (C := y.cls) (bytes := bytes) (maxL := maxL) (ret := rty) ho (hts _ hl) (hts _ k1) (hts _ k2) (hts _ hcode) hy hK (by rw [hT]; exact hcB) hoB hclB (g := F0 m pc ls ((Value.ref b :: av').reverse ++ rest)) rfl (hsize.trans hml.symm) (argsL := av') (rest := rest) (fun sig h => hn'.trans (mm_plen k3 sig h)) hst (hmr _) (by rw [hb]; exact hd) (fun vm₁ hW₁ => ⟨hf.1, hf.2, hpre (T.setVm vm₁) hT hW₁⟩)
      dsimp only [Pt.U, Pt.locs, Pt.cells, Pt.slots] at X' e1 e2 h1 h2 h3 st
      subst h1; subst h2; subst h3
      exact ⟨v, (T.setVm vm₁).calling g' mk (Value.ref b :: av').toArray, t, U', L, hT, X', hL, e1, e2, hq, st⟩
    · obtain ⟨v, vm₁, ⟨U', l2, c2, s2⟩, hW₁, X', ⟨g', mk, t, L, e1, e2, hq, h1, hL, h2, h3⟩, st⟩ := va_callVN X hx (C := y.cls) (bytes := bytes) (maxL := maxL) (ret := rty) ho (va_Nw.use rfl (hNw _ _ _ _ hl)) (hts _ k1) (hts _ k2) (hts _ hcode) hy hK (by rw [hT]; exact hcB) hoB hclB (g := F0 m pc ls ((Value.ref b :: av').reverse ++ rest)) rfl (hsize.trans hml.symm) (argsL := av') (rest := rest) (fun sig h => hn'.trans (mm_plen k3 sig h)) hst (hmr _) (by rw [hb]; exact hd) (fun vm₁ hW₁ => ⟨hf.1, hf.2, hpre (T.setVm vm₁) hT hW₁⟩)
      dsimp only [Pt.U, Pt.locs, Pt.cells, Pt.slots] at X' e1 e2 h1 h2 h3 st
      subst h1; subst h2; subst h3
      exact ⟨v, (T.setVm vm₁).calling g' mk (Value.ref b :: av').toArray, t, U', L, hT, X', hL, e1, e2, hq, st⟩
  · have hd : decode cc pc = .ok (.invokespecial i, 3) := by
      rcases hd with ⟨q, -⟩ | ⟨q, -⟩ | ⟨-, hd⟩
      · cases q
      · cases q
      · exact hd
    have hret := hret rfl
    subst hret
    obtain ⟨b, av', rfl⟩ := hrec2 rfl
    have hst : (Value.ref b :: av').reverse ++ rest = av'.reverse ++ .ref b :: rest := by simp
    have hn' : av'.length = n1 := by simpa using hn
    rcases hlk with hl | ⟨host, hl⟩
    · obtain ⟨v, vm₁, ⟨U', l2, c2, s2⟩, hW₁, X', ⟨g', mk, t, L, e1, e2, hq, h1, hL, h2, h3⟩, st⟩ := callI X hx (bytes := bytes) (maxL := maxL) ho k1 (hts _ hl) (hts _ k2) (hts _ hcode) hy hK (g := F0 m pc ls ((Value.ref b :: av').reverse ++ rest)) rfl (hsize.trans hml.symm) (a := b) (argsL := av') (rest := rest) (fun sig h => hn'.trans (mm_plen k3 sig h)) hst (hmr _) (by rw [hb]; exact hd) (fun vm₁ hW₁ => ⟨hf.1, hf.2, hpre (T.setVm vm₁) hT hW₁⟩)
      dsimp only [Pt.U, Pt.locs, Pt.cells, Pt.slots] at X' e1 e2 h1 h2 h3 st
      subst h1; subst h2; subst h3
      exact ⟨v, (T.setVm vm₁).calling g' mk (Value.ref b :: av').toArray, t, U', L, hT, X', hL, e1, e2, hq, st⟩
    · obtain ⟨v, vm₁, ⟨U', l2, c2, s2⟩, hW₁, X', ⟨g', mk, t, L, e1, e2, hq, h1, hL, h2, h3⟩, st⟩ := va_callIN X hx (bytes := bytes) (maxL := maxL) ho k1 (va_Nw.use rfl (hNw _ _ _ _ hl)) (hts _ k2) (hts _ hcode) hy hK (g := F0 m pc ls ((Value.ref b :: av').reverse ++ rest)) rfl (hsize.trans hml.symm) (a := b) (argsL := av') (rest := rest) (fun sig h => hn'.trans (mm_plen k3 sig h)) hst (hmr _) (by rw [hb]; exact hd) (fun vm₁ hW₁ => ⟨hf.1, hf.2, hpre (T.setVm vm₁) hT hW₁⟩)
      dsimp only [Pt.U, Pt.locs, Pt.cells, Pt.slots] at X' e1 e2 h1 h2 h3 st
      subst h1; subst h2; subst h3
      exact ⟨v, (T.setVm vm₁).calling g' mk (Value.ref b :: av').toArray, t, U', L, hT, X', hL, e1, e2, hq, st⟩
/-- a call in the mini machine -/
theorem st_call (F : mm_Fr D tys B old L0 scr p s m args meth c nL own cc mn rt) {y : MethodName} {bytes : ByteArray} {maxL d i kd n : Nat} {rty : Option FieldType} {as st2 : List mm_V} {r : mm_R} (hM : mm_Met D tys B old L0 scr l d y bytes maxL rty as w h r) (hmono : w.2.1 ≤ r.2.1.2.1 ∧ w.2.2 ≤ r.2.1.2.2) (hcode : Jvm.Cond.code y bytes maxL rty ∈ lw_g) (hret : kd = 2 → rty = none) (hc : mm_cOK own i kd y n) (hR : d + 1 ≤ R.frames ∧ 24 + (maxL + 11) + 96 * d ≤ R.locals) (hd : (kd = 0 ∧ decode cc pc = .ok (.invokestatic i, 3)) ∨ (kd = 1 ∧ decode cc pc = .ok (.invokevirtual i, 3)) ∨ (kd = 2 ∧ decode cc pc = .ok (.invokespecial i, 3))) (hsp : mm_split n [] st = some (as, st2)) (hcats : mm_cats st2 ≤ 24) (hrec : kd ≠ 0 → ∃ a as', as = (2, a) :: as' ∧ ((∃ ci, ∃ x : vw_C, mm_cls[ci]? = some x ∧ x.1 = y.cls ∧ (w.1 a).1 = ci + 1) ∨ (y.cls = "java/lang/String" ∧ (w.1 a).1 = 14))) (hr : ∀ ρ, mm_Px ρ0 w0 ρ w → (r.2.1.2.1 - w0.2.1).toNat ≤ R.cells ∧ (r.2.1.2.2 - w0.2.2).toNat ≤ R.slots) (kk : (r.1.1 = 9 ∧ mm_Wc D tys B old L0 scr p l e R s m args below meth c nL ρ0 w0 Q (pc + 3) L st2 r.2.1 r.2.2) ∨ (r.1.1 ≤ 2 ∧ mm_Wc D tys B old L0 scr p l e R s m args below meth c nL ρ0 w0 Q (pc + 3) L (r.1 :: st2) r.2.1 r.2.2)) : mm_Wc D tys B old L0 scr p l e R s m args below meth c nL ρ0 w0 Q pc L st w h := by
  intro ρ H locs ls sv hρ hH hS hL hst
  obtain ⟨av, sv2, g1, g2, g3, g4⟩ := mm_split_at n [] st as st2 [] sv hsp trivial hst
  have g3 : av.reverse ++ sv2 = sv := by simpa using g3
  subst g3
  obtain ⟨r1, r2⟩ := hr ρ hρ
  have hpx := hρ.2
  have hrecv : kd ≠ 0 → ∃ b av', av = .ref b :: av' ∧ ∃ cellB : Cell, H[b]? = some cellB ∧ cellB.vm.isStatics = false ∧ s.vm.findClass y.cls = some cellB.cls := by
    intro hk
    obtain ⟨a, as', rfl, ha⟩ := hrec hk
    obtain ⟨x, av', rfl, ⟨hx1, rfl⟩, -⟩ := mm_SR_cons g1
    rcases ha with ⟨ci, x, hx, hxn, hci⟩ | ⟨hs, hk14⟩
    · have hlt := mm_cls_lt hx
      obtain ⟨p1, p2⟩ := mm_pos hH (a := a) (by omega) (by omega) (by omega) (Or.inl (by omega))
      have hent := mm_ws_at (old := old) (tys := tys) (w := w) (h := h) p1 p2
      rw [mm_ent_obj hlt hci] at hent
      refine ⟨_, av', by rw [show mm_adr old ρ ((2, a) : mm_V).2 = _ from mm_adr_at p1 p2]; rfl, ?_⟩
      obtain ⟨cellB, c1, c2, c3⟩ := va_recv F.2.2.2.2.2.1.1 hH.2.2.2.2.1 hx hent
      exact ⟨cellB, c1, c2, by rw [← hxn]; exact c3⟩
    · have hneg : a ≤ 0 := by
        rcases Int.lt_or_le 0 a with q | q
        · rcases Int.lt_or_le ρ.length a with q2 | q2
          · rw [hH.2.2.1 a q2] at hk14; omega
          · have := hH.2.1 a q q2
            rcases this with ⟨_, h2, _⟩ | ⟨h2, _⟩ | ⟨h2, _⟩ | ⟨h2, _⟩ <;> omega
        · exact q
      obtain ⟨n1, -, -, n2, n3⟩ := hH.2.2.2.1
      have hex : ∃ i : Nat, i < 12 ∧ a = -(10 + 2 * (i : Int)) := by
        by_cases q1 : a = -1
        · subst q1; rw [n1] at hk14; exact absurd hk14 (show ¬ (50 : Nat) = 14 by decide)
        · by_cases q2 : ∀ i : Nat, i < 12 → a ≠ -(10 + 2 * (i : Int)) ∧ a ≠ -(11 + 2 * (i : Int))
          · rw [n3 a hneg q1 q2] at hk14; omega
          · simp only [Classical.not_forall] at q2
            obtain ⟨i, hi, q2⟩ := q2
            obtain ⟨-, -, -, g2, -⟩ := n2 i hi
            by_cases e2 : a = -(11 + 2 * (i : Int))
            · subst e2; rw [g2] at hk14; exact absurd hk14 (by show ¬ (54 : Nat) = 14; decide)
            · exact ⟨i, hi, Classical.byContradiction fun z => q2 ⟨z, e2⟩⟩
      obtain ⟨i, hi, rfl⟩ := hex
      refine ⟨old (-(10 + 2 * (i : Int))), av', ?_, ?_⟩
      · rw [show mm_adr old ρ ((2, -(10 + 2 * (i : Int))) : mm_V).2 = some (old (-(10 + 2 * (i : Int)))) by show mm_adr old ρ (-(10 + 2 * (i : Int))) = _; unfold mm_adr; rw [if_pos (by omega)]]
        rfl
      · rw [hs]
        exact vk_recv F.2.2.2.2.2.1.2.2.2.2.1 hi hS
  have hrun := mm_runC (p := p) (e := e) (below := below) (H := H) (locs := locs) (cells := (w.2.1 - w0.2.1).toNat) (slots := (w.2.2 - w0.2.2).toNat) (ls := ls) (av := av) (rest := sv2) F (hM ρ) mm_CP_blind hcode hret hc hR hd (by simpa using g4) hL.1 (by rw [mm_cats_at g2]; exact hcats) (by omega) (fun hk => hrecv (by omega)) (fun hk => by obtain ⟨b, av', h1, -⟩ := hrecv (by omega); exact ⟨b, av', h1⟩) (fun U hU hW => ⟨av, rfl, g1, mm_Env_to F.2.2.2.2.2.1 hS hU hW, by rw [hU]; exact hH⟩)
  intro T hT X
  obtain ⟨v, st₀, t, T', L1, h0, X', hL1, e1, e2, ⟨⟨ρx, ho, hR2⟩, hF⟩, hgo⟩ := hrun T hT X
  have hS2 : va_S (mm_A B) s.heap T'.heap (locs ++ L1) := by
    have hF1 := hF.1
    rw [h0] at hF1
    refine ⟨Nat.le_trans hS.1 (by rw [e1]; exact hF1), fun q h1 h2 => ?_, fun q hq => ?_⟩
    · rw [e1, hF.2 q (by rw [h0]; exact Nat.lt_of_lt_of_le h1 hS.1) h2, h0]
      exact hS.2.1 q h1 h2
    · rcases List.mem_append.mp hq with h | h
      · exact hS.2.2 q h
      · exact hL1 q h
  have hpx2 : mm_Px ρ0 w0 (ρ ++ ρx) r.2.1 := by
    obtain ⟨⟨ρy, rfl⟩, p1, p2⟩ := hρ
    exact ⟨⟨ρy ++ ρx, by simp⟩, by omega, by omega⟩
  rw [← e1] at hR2
  have c1 : (w.2.1 - w0.2.1).toNat + (r.2.1.2.1 - w.2.1).toNat = (r.2.1.2.1 - w0.2.1).toNat := by omega
  have c2 : (w.2.2 - w0.2.2).toNat + (r.2.1.2.2 - w.2.2).toNat = (r.2.1.2.2 - w0.2.2).toNat := by omega
  rw [c1, c2] at X'
  rcases kk with ⟨k1, k2⟩ | ⟨k1, k2⟩
  · have hv : v = none := by
      rcases ho with ⟨-, q⟩ | ⟨q, -⟩
      · cases q; rfl
      · omega
    subst hv
    obtain ⟨t2, a1, b1⟩ := k2 (ρ ++ ρx) T'.heap (locs ++ L1) ls sv2 hpx2 hR2 hS2 (mm_LR_app _ hL) (mm_SR_app _ g2) T' rfl X'
    exact ⟨t2, hgo t2 a1, b1⟩
  · obtain ⟨x, hx, hxv⟩ : ∃ x, v = some x ∧ mm_VR old (ρ ++ ρx) r.1 x := by
      rcases ho with ⟨q, -⟩ | ⟨-, x, q, hxv⟩
      · omega
      · cases q; exact ⟨x, rfl, hxv⟩
    subst hx
    obtain ⟨t2, a1, b1⟩ := k2 (ρ ++ ρx) T'.heap (locs ++ L1) ls (x :: sv2) hpx2 hR2 hS2 (mm_LR_app _ hL) ⟨hxv, mm_SR_app _ g2⟩ T' rfl X'
    exact ⟨t2, hgo t2 a1, b1⟩
end MM
end
section
section MM
variable {D : va_G} {tys : List (ClassId × FieldType)} {B : Nat} {old : Int → Nat} {L0 : Nat} {scr : Nat → Int32}
variable {p : Program} {l : Launch} {e : Env} {R : Room} {s : State} {m : MethodId} {args : Array Value} {below : List Frame} {meth : Method} {c : Code} {nL : Nat} {ρ0 : List Nat} {w0 : mm_W} {Q : State → Prop}
variable {own : String} {cc : ByteArray} {mn : String} {rt : Option FieldType} {pc : Nat} {L st : List mm_V} {w : mm_W} {h : mm_H} {nx : Nat} {tx : String}

theorem st_objinit (F : mm_Fr D tys B old L0 scr p s m args meth c nL own cc mn rt) {i : Nat} {a : Int} (hw1 : Jvm.Cond.methodLink own i Lib.objectInit ∈ lw_g) (hw2 : Jvm.Cond.instanceMethod Lib.objectInit ∈ lw_g) (hw3 : Jvm.Cond.code Lib.objectInit ⟨#[0xb1]⟩ 1 none ∈ lw_g) (hR : 1 ≤ R.frames ∧ 24 + 13 ≤ R.locals) (hc : mm_cats st ≤ 24) (ha : 0 < a) (hd : decode cc pc = .ok (.invokespecial i, 3)) (k : mm_Wc D tys B old L0 scr p l e R s m args below meth c nL ρ0 w0 Q (pc + 3) L st w h) : mm_Wc D tys B old L0 scr p l e R s m args below meth c nL ρ0 w0 Q pc L ((2, a) :: st) w h := by
  intro ρ H locs ls sv hρ hH hS hL hst
  obtain ⟨v, sv, rfl, ⟨hx, rfl⟩, hs2⟩ := mm_SR_cons hst
  have hx : a ≤ ρ.length := hx
  rw [show mm_adr old ρ ((2, a) : mm_V).2 = _ from mm_adr_at ha hx]
  have hcs := mm_cats_at hs2
  exact W.objInit F.1 F.2.1 F.2.2.2.1 (F.2.2.2.2.1 _ hw1) (F.2.2.2.2.1 _ hw2) (F.2.2.2.2.1 _ hw3) rfl (hL.1.trans F.2.2.1.symm) rfl hd hR.1 (by show 2 * 0 + _ + 12 ≤ _; omega) (k ρ H locs ls sv hρ hH hS hL hs2)
theorem st_max (F : mm_Fr D tys B old L0 scr p s m args meth c nL own cc mn rt) {i : Nat} {x y : Int} (hw1 : Jvm.Cond.methodLink own i Lib.Math.max.name ∈ lw_g) (hw2 : Jvm.Cond.static Lib.Math.max.name ∈ lw_g) (hw3 : Jvm.Cond.initialized "java/lang/Math" ∈ lw_g) (hw4 : Jvm.Cond.code Lib.Math.max.name Lib.Math.max.code 2 (some .int) ∈ lw_g) (hR : 1 ≤ R.frames ∧ 24 + 13 ≤ R.locals) (hc : mm_cats st ≤ 24) (hf : ∀ ρ, mm_Px ρ0 w0 ρ w → (w.2.1 - w0.2.1).toNat ≤ R.cells ∧ (w.2.2 - w0.2.2).toNat ≤ R.slots) (hd : decode cc pc = .ok (.invokestatic i, 3)) (k : mm_Wc D tys B old L0 scr p l e R s m args below meth c nL ρ0 w0 Q (pc + 3) L ((0, mMax x y) :: st) w h) : mm_Wc D tys B old L0 scr p l e R s m args below meth c nL ρ0 w0 Q pc L ((0, y) :: (0, x) :: st) w h := by
  intro ρ H locs ls sv hρ hH hS hL hst
  obtain ⟨v, sv, rfl, ⟨hy, rfl⟩, hs1⟩ := mm_SR_cons hst
  obtain ⟨v, sv, rfl, ⟨hx, rfl⟩, hs2⟩ := mm_SR_cons hs1
  have hx : mm_i32 x := hx
  have hy : mm_i32 y := hy
  have hcs := mm_cats_at hs2
  have hv : (if Int32.ofInt x < Int32.ofInt y then Int32.ofInt y else Int32.ofInt x) = Int32.ofInt (mMax x y) ∧ mm_i32 (mMax x y) := by
    unfold mMax
    by_cases q : x < y
    · rw [if_pos ((i32_lt hx hy).mpr q), if_pos (by omega)]; exact ⟨rfl, hy⟩
    · rw [if_neg (fun z => q ((i32_lt hx hy).mp z))]
      by_cases q2 : x ≤ y
      · have : x = y := by omega
        subst this
        rw [if_pos (by omega)]; exact ⟨rfl, hx⟩
      · rw [if_neg q2]; exact ⟨rfl, hx⟩
  obtain ⟨f1, f2⟩ := hf ρ hρ
  refine va_mmax F.1 F.2.1 (F.2.2.1.trans hL.1.symm) F.2.2.2.1 (F.2.2.2.2.1 _ hw1) (F.2.2.2.2.1 _ hw2) (F.2.2.2.2.1 _ hw3) (F.2.2.2.2.1 _ hw4) hR.1 (by omega) f1 f2 hd ?_
  rw [hv.1]
  exact k ρ H locs ls (.int (Int32.ofInt (mMax x y)) :: sv) hρ hH hS hL ⟨⟨hv.2, rfl⟩, hs2⟩
theorem st_min (F : mm_Fr D tys B old L0 scr p s m args meth c nL own cc mn rt) {i : Nat} {x y : Int} (hw1 : Jvm.Cond.methodLink own i Lib.Math.min.name ∈ lw_g) (hw2 : Jvm.Cond.static Lib.Math.min.name ∈ lw_g) (hw3 : Jvm.Cond.initialized "java/lang/Math" ∈ lw_g) (hw4 : Jvm.Cond.code Lib.Math.min.name Lib.Math.min.code 2 (some .int) ∈ lw_g) (hR : 1 ≤ R.frames ∧ 24 + 13 ≤ R.locals) (hc : mm_cats st ≤ 24) (hf : ∀ ρ, mm_Px ρ0 w0 ρ w → (w.2.1 - w0.2.1).toNat ≤ R.cells ∧ (w.2.2 - w0.2.2).toNat ≤ R.slots) (hd : decode cc pc = .ok (.invokestatic i, 3)) (k : mm_Wc D tys B old L0 scr p l e R s m args below meth c nL ρ0 w0 Q (pc + 3) L ((0, mMin x y) :: st) w h) : mm_Wc D tys B old L0 scr p l e R s m args below meth c nL ρ0 w0 Q pc L ((0, y) :: (0, x) :: st) w h := by
  intro ρ H locs ls sv hρ hH hS hL hst
  obtain ⟨v, sv, rfl, ⟨hy, rfl⟩, hs1⟩ := mm_SR_cons hst
  obtain ⟨v, sv, rfl, ⟨hx, rfl⟩, hs2⟩ := mm_SR_cons hs1
  have hx : mm_i32 x := hx
  have hy : mm_i32 y := hy
  have hcs := mm_cats_at hs2
  have hv : mm_i32 (mMin x y) := by
    unfold mMin
    split
    · exact hx
    · exact hy
  obtain ⟨f1, f2⟩ := hf ρ hρ
  have kk := k ρ H locs ls (.int (Int32.ofInt (mMin x y)) :: sv) hρ hH hS hL ⟨⟨hv, rfl⟩, hs2⟩
  refine va_mmin F.1 F.2.1 (F.2.2.1.trans hL.1.symm) F.2.2.2.1 (F.2.2.2.2.1 _ hw1) (F.2.2.2.2.1 _ hw2) (F.2.2.2.2.1 _ hw3) (F.2.2.2.2.1 _ hw4) hR.1 (by omega) f1 f2 hd ?_
  refine W.eq (g2 := F0 m (pc + 3) ls (.int (Int32.ofInt (mMin x y)) :: sv)) ?_ kk
  congr 3
  show _ = Int32.ofInt (mMin x y)
  unfold mMin
  by_cases q : x ≤ y
  · rw [if_pos q]
    first
      | rw [if_pos ((i32_le hx hy).mpr q)]
      | (by_cases q2 : x < y
         · first | rw [if_pos ((i32_lt hx hy).mpr q2)] | rw [if_neg (fun z => by have := (i32_lt hy hx).mp z; omega)]
         · have e : x = y := by omega
           subst e; split <;> rfl)
  · rw [if_neg q]
    first
      | rw [if_neg (fun z => q ((i32_le hx hy).mp z))]
      | rw [if_neg (fun z => by have := (i32_lt hx hy).mp z; omega)]
      | rw [if_pos ((i32_lt hy hx).mpr (by omega))]
end MM
end
section
/-! The check of a method's mini code against its bytes, and the induction. -/
def mm_is (cc : ByteArray) (pc : Nat) (i : Instr) (n : Nat) : Bool := match decode cc pc with
  | .ok q => decide (q.1 = i) && Nat.beq q.2 n
  | _ => false
theorem mm_is_eq {cc : ByteArray} {pc : Nat} {i : Instr} {n : Nat} (h : mm_is cc pc i n = true) : decode cc pc = .ok (i, n) := by
  unfold mm_is at h
  split at h
  · next q hq =>
    simp only [Bool.and_eq_true, decide_eq_true_eq] at h
    rw [hq]
    congr 1
    exact Prod.ext h.1 (Nat.eq_of_beq_eq_true h.2)
  · cases h
def mm_op (cc : ByteArray) (pc : Nat) : Instr × Nat := match decode cc pc with
  | .ok q => q
  | _ => (.nop, 0)
theorem mm_op_eq {cc : ByteArray} {pc : Nat} {i : Instr} {n : Nat} (h : mm_op cc pc = (i, n)) (hn : n ≠ 0) : decode cc pc = .ok (i, n) := by
  unfold mm_op at h
  split at h
  · next q hq => rw [hq, h]
  · cases h; exact absurd rfl hn
def mm_has (pool : List (Nat × Instr)) (i : Nat) (x : Instr) : Bool := pool.any (fun q => Nat.beq q.1 i && decide (q.2 = x))
theorem mm_has_mem {pool : List (Nat × Instr)} {i : Nat} {x : Instr} (h : mm_has pool i x = true) : (i, x) ∈ pool := by
  unfold mm_has at h
  obtain ⟨q, hq, h⟩ := List.any_eq_true.mp h
  simp only [Bool.and_eq_true, decide_eq_true_eq] at h
  have e : q = (i, x) := Prod.ext (Nat.eq_of_beq_eq_true h.1) h.2
  rw [← e]; exact hq
def mm_nx : List (Nat × Instr) → Nat
  | [] => 1000000
  | q :: _ => q.1
def mm_rt (rt : Option FieldType) (k : Nat) : Bool := match k, rt with
  | 0, some .int => true
  | 1, some .boolean => true
  | 2, some .char => true
  | 3, some .byte => true
  | 4, some .long => true
  | 5, some (.object _) => true
  | 5, some (.array _) => true
  | 6, none => true
  | _, _ => false
def mm_tsw (pc : Nat) (lo : Int) : List Int → List (Int × Int)
  | [] => []
  | o :: os => (lo, (pc : Int) + o) :: mm_tsw pc (lo + 1) os
def mm_ck (lt : List mm_T) (pool : List (Nat × Instr)) (isI : Bool) (rt : Option FieldType) (cc : ByteArray) (nL pc nx : Nat) : Instr → Bool
  | .iconst n => decide (-2147483648 ≤ n ∧ n < 2147483648) && ((mm_is cc pc (.iconst n) 1 && Nat.beq nx (pc + 1)) || ((mm_is cc pc (.bipush n) 2 && (Nat.beq nx (pc + 2) && decide (-128 ≤ n ∧ n < 128))) || ((mm_is cc pc (.sipush n) 3 && (Nat.beq nx (pc + 3) && decide (-32768 ≤ n ∧ n < 32768))) || (match mm_op cc pc with
    | (.ldc i, 2) => mm_has pool i (.iconst n) && Nat.beq nx (pc + 2)
    | (.ldc_w i, 3) => mm_has pool i (.iconst n) && Nat.beq nx (pc + 3)
    | (.getstatic i, 3) => decide (n = 1) && (mm_has pool i .nop && Nat.beq nx (pc + 3))
    | _ => false))))
  | .jsr n => decide (-9223372036854775808 ≤ n ∧ n < 9223372036854775808) && (match mm_op cc pc with
    | (.lconst q, 1) => decide (((q : Nat) : Int) = n) && Nat.beq nx (pc + 1)
    | (.ldc2_w i, 3) => mm_has pool i (.jsr n) && Nat.beq nx (pc + 3)
    | _ => false)
  | .sipush n => (decide (n = 0) && (mm_is cc pc .aconst_null 1 && Nat.beq nx (pc + 1))) || (match mm_op cc pc with
    | (.ldc i, 2) => mm_has pool i (.sipush n) && Nat.beq nx (pc + 2)
    | _ => false)
  | .getstatic _ => (match mm_op cc pc with
    | (.getstatic i, 3) => mm_has pool i .pop2 && Nat.beq nx (pc + 3)
    | _ => false)
  | .iload n => (mm_is cc pc (.iload n) 2 && Nat.beq nx (pc + 2)) || (match mm_op cc pc with
    | (.iload_n k, 1) => Nat.beq k n && Nat.beq nx (pc + 1)
    | _ => false)
  | .lload n => (mm_is cc pc (.lload n) 2 && Nat.beq nx (pc + 2)) || (match mm_op cc pc with
    | (.lload_n k, 1) => Nat.beq k n && Nat.beq nx (pc + 1)
    | _ => false)
  | .aload n => (mm_is cc pc (.aload n) 2 && Nat.beq nx (pc + 2)) || (match mm_op cc pc with
    | (.aload_n k, 1) => Nat.beq k n && Nat.beq nx (pc + 1)
    | _ => false)
  | .istore n => Nat.blt n nL && ((mm_is cc pc (.istore n) 2 && Nat.beq nx (pc + 2)) || (match mm_op cc pc with
    | (.istore_n k, 1) => Nat.beq k n && Nat.beq nx (pc + 1)
    | _ => false))
  | .astore n => Nat.blt n nL && ((mm_is cc pc (.astore n) 2 && Nat.beq nx (pc + 2)) || (match mm_op cc pc with
    | (.astore_n k, 1) => Nat.beq k n && Nat.beq nx (pc + 1)
    | _ => false))
  | .lstore n => Nat.blt (n + 1) nL && ((mm_is cc pc (.lstore n) 2 && Nat.beq nx (pc + 2)) || (match mm_op cc pc with
    | (.lstore_n k, 1) => Nat.beq k n && Nat.beq nx (pc + 1)
    | _ => false))
  | .iinc n k => Nat.blt n nL && (mm_is cc pc (.iinc n k) 3 && Nat.beq nx (pc + 3))
  | .goto t => (match mm_op cc pc with
    | (.goto off, 3) => decide ((pc : Int) + off = t ∧ 0 ≤ t)
    | _ => false)
  | .if_icmp c t => (match mm_op cc pc with
    | (.if_icmp c2 off, 3) => decide (c2 = c) && (decide ((pc : Int) + off = t ∧ 0 ≤ t) && Nat.beq nx (pc + 3))
    | _ => false)
  | .ifCond c t => (match mm_op cc pc with
    | (.ifCond c2 off, 3) => decide (c2 = c) && (decide ((pc : Int) + off = t ∧ 0 ≤ t) && Nat.beq nx (pc + 3))
    | _ => false)
  | .ifnull t => (match mm_op cc pc with
    | (.ifnull off, 3) => decide ((pc : Int) + off = t ∧ 0 ≤ t) && Nat.beq nx (pc + 3)
    | _ => false)
  | .ifnonnull t => (match mm_op cc pc with
    | (.ifnonnull off, 3) => decide ((pc : Int) + off = t ∧ 0 ≤ t) && Nat.beq nx (pc + 3)
    | _ => false)
  | .lookupswitch d ps => decide (0 ≤ d) && (ps.toList.all (fun q => decide (0 ≤ q.2)) && (match mm_op cc pc with
    | (.tableswitch d2 lo hi offs, len) => decide ((pc : Int) + d2 = d ∧ hi + 1 = lo + (offs.size : Int) ∧ len ≠ 0) && decide (ps.toList = mm_tsw pc lo offs.toList)
    | (.lookupswitch d2 ps2, len) => decide ((pc : Int) + d2 = d ∧ len ≠ 0) && (decide (ps.toList = ps2.toList.map (fun q => (q.1, (pc : Int) + q.2))) && (ps2.toList.zip (ps2.toList.drop 1)).all (fun (a, next) => decide (a.1 < next.1)))
    | _ => false))
  | .getfield x => (match mm_op cc pc with
    | (.getfield i, 3) => mm_has pool i (.getfield x) && Nat.beq nx (pc + 3)
    | _ => false)
  | .putfield x => (match mm_op cc pc with
    | (.putfield i, 3) => (mm_has pool i (.putfield x) || (isI && mm_has pool i (.ret x))) && Nat.beq nx (pc + 3)
    | _ => false)
  | .putstatic x => (match mm_op cc pc with
    | (.putfield i, 3) => mm_has pool i (.putstatic x) && Nat.beq nx (pc + 3)
    | _ => false)
  | .ireturn => mm_is cc pc .ireturn 1 && mm_rt rt 0
  | .freturn => mm_is cc pc .ireturn 1 && mm_rt rt 1
  | .dreturn => mm_is cc pc .ireturn 1 && mm_rt rt 2
  | .fneg => mm_is cc pc .ireturn 1 && mm_rt rt 3
  | .lreturn => mm_is cc pc .lreturn 1 && mm_rt rt 4
  | .areturn => mm_is cc pc .areturn 1 && mm_rt rt 5
  | .return_ => mm_is cc pc .return_ 1 && mm_rt rt 6
  | .new x => (match mm_op cc pc with
    | (.new i, 3) => mm_has pool i (.new x) && Nat.beq nx (pc + 3)
    | _ => false)
  | .anewarray k => (match mm_op cc pc with
    | (.newarray aty, 2) => ((Nat.beq k 50 && decide (newarray.typeOf aty = .int)) || ((Nat.beq k 51 && decide (newarray.typeOf aty = .short)) || ((Nat.beq k 52 && decide (newarray.typeOf aty = .boolean)) || (Nat.beq k 53 && decide (newarray.typeOf aty = .long))))) && Nat.beq nx (pc + 2)
    | (.anewarray i, 3) => mm_has pool i (.anewarray k) && Nat.beq nx (pc + 3)
    | _ => false)
  | .daload => (match mm_op cc pc with
    | (.invokestatic i, 3) => mm_has pool i .daload && Nat.beq nx (pc + 3)
    | _ => false)
  | .dadd => (match mm_op cc pc with
    | (.invokestatic i, 3) => mm_has pool i .dadd && Nat.beq nx (pc + 3)
    | _ => false)
  | .dsub => (match mm_op cc pc with
    | (.invokestatic i, 3) => mm_has pool i .dsub && Nat.beq nx (pc + 3)
    | _ => false)
  | .checkcast c => (match mm_op cc pc with
    | (.invokespecial i, 3) => (mm_has pool i .pop && (Nat.ble 1 c && Nat.ble c 13)) && Nat.beq nx (pc + 3)
    | _ => false)
  | .invokestatic x => (match mm_op cc pc with
    | (.invokestatic i, 3) => mm_has pool i (.invokestatic x) && Nat.beq nx (pc + 3)
    | _ => false) && (Nat.ble (Nat.mod (Nat.div x 256) 16) 2 || Nat.beq (Nat.mod (Nat.div x 256) 16) 9)
  | .invokevirtual x => (match mm_op cc pc with
    | (.invokevirtual i, 3) => mm_has pool i (.invokevirtual x) && Nat.beq nx (pc + 3)
    | (.invokespecial i, 3) => mm_has pool i (.invokespecial x) && Nat.beq nx (pc + 3)
    | _ => false) && (Nat.ble (Nat.mod (Nat.div x 256) 16) 2 || Nat.beq (Nat.mod (Nat.div x 256) 16) 9)
  | .jsr_w j => Nat.beq nx pc && Nat.beq pc (mm_row lt j.toNat).1
  | .iadd => mm_is cc pc .iadd 1 && Nat.beq nx (pc + 1)
  | .isub => mm_is cc pc .isub 1 && Nat.beq nx (pc + 1)
  | .imul => mm_is cc pc .imul 1 && Nat.beq nx (pc + 1)
  | .idiv => mm_is cc pc .idiv 1 && Nat.beq nx (pc + 1)
  | .irem => mm_is cc pc .irem 1 && Nat.beq nx (pc + 1)
  | .ineg => mm_is cc pc .ineg 1 && Nat.beq nx (pc + 1)
  | .iand => mm_is cc pc .iand 1 && Nat.beq nx (pc + 1)
  | .ior => mm_is cc pc .ior 1 && Nat.beq nx (pc + 1)
  | .ixor => mm_is cc pc .ixor 1 && Nat.beq nx (pc + 1)
  | .ishl => mm_is cc pc .ishl 1 && Nat.beq nx (pc + 1)
  | .ishr => mm_is cc pc .ishr 1 && Nat.beq nx (pc + 1)
  | .iushr => mm_is cc pc .iushr 1 && Nat.beq nx (pc + 1)
  | .i2l => mm_is cc pc .i2l 1 && Nat.beq nx (pc + 1)
  | .l2i => mm_is cc pc .l2i 1 && Nat.beq nx (pc + 1)
  | .i2s => mm_is cc pc .i2s 1 && Nat.beq nx (pc + 1)
  | .i2b => mm_is cc pc .i2b 1 && Nat.beq nx (pc + 1)
  | .i2c => mm_is cc pc .i2c 1 && Nat.beq nx (pc + 1)
  | .ladd => mm_is cc pc .ladd 1 && Nat.beq nx (pc + 1)
  | .lsub => mm_is cc pc .lsub 1 && Nat.beq nx (pc + 1)
  | .lmul => mm_is cc pc .lmul 1 && Nat.beq nx (pc + 1)
  | .lneg => mm_is cc pc .lneg 1 && Nat.beq nx (pc + 1)
  | .lcmp => mm_is cc pc .lcmp 1 && Nat.beq nx (pc + 1)
  | .dup => mm_is cc pc .dup 1 && Nat.beq nx (pc + 1)
  | .dup2 => mm_is cc pc .dup2 1 && Nat.beq nx (pc + 1)
  | .pop => mm_is cc pc .pop 1 && Nat.beq nx (pc + 1)
  | .iaload => mm_is cc pc .iaload 1 && Nat.beq nx (pc + 1)
  | .saload => mm_is cc pc .saload 1 && Nat.beq nx (pc + 1)
  | .baload => mm_is cc pc .baload 1 && Nat.beq nx (pc + 1)
  | .laload => mm_is cc pc .laload 1 && Nat.beq nx (pc + 1)
  | .aaload => mm_is cc pc .aaload 1 && Nat.beq nx (pc + 1)
  | .iastore => mm_is cc pc .iastore 1 && Nat.beq nx (pc + 1)
  | .sastore => mm_is cc pc .sastore 1 && Nat.beq nx (pc + 1)
  | .bastore => mm_is cc pc .bastore 1 && Nat.beq nx (pc + 1)
  | .lastore => mm_is cc pc .lastore 1 && Nat.beq nx (pc + 1)
  | .aastore => mm_is cc pc .aastore 1 && Nat.beq nx (pc + 1)
  | .arraylength => mm_is cc pc .arraylength 1 && Nat.beq nx (pc + 1)
  | _ => true
def mm_chk (lt : List mm_T) (pool : List (Nat × Instr)) (isI : Bool) (rt : Option FieldType) (cc : ByteArray) (nL : Nat) : List (Nat × Instr) → Bool
  | [] => true
  | q :: tl => mm_ck lt pool isI rt cc nL q.1 (mm_nx tl) q.2 && mm_chk lt pool isI rt cc nL tl

/-! The methods by their numbers: name, bytes, locals, answer. Printed. -/
def mm_itab_0 : List (MethodName × ByteArray × Nat × Option FieldType) := [(⟨"FewRectangles$ConditionReader", "<init>", "(LFewRectangles$Tape;)V"⟩, prog_2_method_1_code, 2, none), (⟨"FewRectangles$ConditionReader", "read", "()[I"⟩, prog_2_method_2_code, 2, (some (.array .int))), (⟨"FewRectangles$ConditionReader", "readLevel", "(II)V"⟩, prog_2_method_3_code, 3, none), (⟨"FewRectangles$ConditionReader", "readJoined", "(II)V"⟩, prog_2_method_4_code, 6, none), (⟨"FewRectangles$ConditionReader", "readNegated", "(I)V"⟩, prog_2_method_5_code, 2, none), (⟨"FewRectangles$ConditionReader", "readCompared", "(I)V"⟩, prog_2_method_6_code, 3, none), (⟨"FewRectangles$ConditionReader", "readReckoned", "(II)V"⟩, prog_2_method_7_code, 5, none), (⟨"FewRectangles$ConditionReader", "reckons", "(II)Z"⟩, prog_2_method_8_code, 2, (some .boolean)), (⟨"FewRectangles$ConditionReader", "readUnit", "(I)V"⟩, prog_2_method_9_code, 2, none), (⟨"FewRectangles$ConditionReader", "opens", "(I)Z"⟩, prog_2_method_10_code, 3, (some .boolean)), (⟨"FewRectangles$ConditionReader", "emitWord", "(I)V"⟩, prog_2_method_11_code, 2, none), (⟨"FewRectangles$ConditionReader", "emit", "(I)V"⟩, prog_2_method_12_code, 2, none), (⟨"FewRectangles$ConditionReader", "emitWith", "(II)I"⟩, prog_2_method_13_code, 3, (some .int)), (⟨"FewRectangles$Cover", "<init>", "()V"⟩, prog_3_method_1_code, 1, none), (⟨"FewRectangles$Cover", "take", "(LFewRectangles$Sheet;I)I"⟩, prog_3_method_2_code, 3, (some .int)), (⟨"FewRectangles$Cover", "copyLayer", "(LFewRectangles$Sheet;I)V"⟩, prog_3_method_3_code, 3, none), (⟨"FewRectangles$Cover", "stroke", "(IIIII)V"⟩, prog_3_method_4_code, 8, none), (⟨"FewRectangles$Cover", "draw", "(II)V"⟩, prog_3_method_5_code, 9, none), (⟨"FewRectangles$Cover", "nextDraw", "(I)I"⟩, prog_3_method_6_code, 1, (some .int)), (⟨"FewRectangles$Cover", "drawnOf", "(II)I"⟩, prog_3_method_7_code, 2, (some .int))]
def mm_itab_1 : List (MethodName × ByteArray × Nat × Option FieldType) := [(⟨"FewRectangles$Cover", "cellsSet", "()I"⟩, prog_3_method_8_code, 4, (some .int)), (⟨"FewRectangles$Cover", "build", "()I"⟩, prog_3_method_9_code, 5, (some .int)), (⟨"FewRectangles$Cover", "addRun", "(III)V"⟩, prog_3_method_10_code, 9, none), (⟨"FewRectangles$Cover", "formatAt", "(II)I"⟩, prog_3_method_11_code, 3, (some .int)), (⟨"FewRectangles$Cover", "rectNumber", "(I)I"⟩, prog_3_method_12_code, 2, (some .int)), (⟨"FewRectangles$Cover", "meets", "(II)Z"⟩, prog_3_method_13_code, 3, (some .boolean)), (⟨"FewRectangles$Cover", "fewestStrokes", "(I)I"⟩, prog_3_method_14_code, 6, (some .int)), (⟨"FewRectangles$Cover", "withEdge", "(II)I"⟩, prog_3_method_15_code, 3, (some .int)), (⟨"FewRectangles$Cover", "leastOf", "(II)I"⟩, prog_3_method_16_code, 3, (some .int)), (⟨"FewRectangles$Editor", "<init>", "()V"⟩, prog_4_method_1_code, 1, none), (⟨"FewRectangles$Editor", "paintRect", "(LFewRectangles$Sheet;III)I"⟩, prog_4_method_2_code, 7, (some .int)), (⟨"FewRectangles$Editor", "setLines", "(LFewRectangles$Sheet;IIII)I"⟩, prog_4_method_3_code, 7, (some .int)), (⟨"FewRectangles$Editor", "setGround", "(LFewRectangles$Sheet;II)I"⟩, prog_4_method_4_code, 4, (some .int)), (⟨"FewRectangles$Editor", "setValue", "(LFewRectangles$Sheet;II)I"⟩, prog_4_method_5_code, 4, (some .int)), (⟨"FewRectangles$Editor", "insertLines", "(LFewRectangles$Sheet;III)I"⟩, prog_4_method_6_code, 7, (some .int)), (⟨"FewRectangles$Editor", "removeLines", "(LFewRectangles$Sheet;II)I"⟩, prog_4_method_7_code, 9, (some .int)), (⟨"FewRectangles$Editor", "copyRect", "(LFewRectangles$Sheet;III)I"⟩, prog_4_method_8_code, 13, (some .int)), (⟨"FewRectangles$Editor", "clearNeedless", "(LFewRectangles$Sheet;I)I"⟩, prog_4_method_9_code, 6, (some .int)), (⟨"FewRectangles$Editor", "sortRows", "(LFewRectangles$Sheet;III)I"⟩, prog_4_method_10_code, 10, (some .int)), (⟨"FewRectangles$Editor", "moveLines", "(LFewRectangles$Sheet;III)I"⟩, prog_4_method_11_code, 11, (some .int))]
def mm_itab_2 : List (MethodName × ByteArray × Nat × Option FieldType) := [(⟨"FewRectangles$Editor", "mustSwap", "(LFewRectangles$Sheet;III)Z"⟩, prog_4_method_12_code, 7, (some .boolean)), (⟨"FewRectangles$Editor", "bringLines", "(LFewRectangles$Sheet;II)V"⟩, prog_4_method_13_code, 7, none), (⟨"FewRectangles$Editor", "bringCell", "(LFewRectangles$Sheet;IIII)V"⟩, prog_4_method_14_code, 9, none), (⟨"FewRectangles$Editor", "joinNewLine", "(LFewRectangles$Sheet;III)V"⟩, prog_4_method_15_code, 9, none), (⟨"FewRectangles$History", "<init>", "()V"⟩, prog_5_method_1_code, 2, none), (⟨"FewRectangles$History", "stateAt", "(I)LFewRectangles$Sheet;"⟩, prog_5_method_2_code, 4, (some (.object "FewRectangles$Sheet"))), (⟨"FewRectangles$History", "draftOfNow", "()LFewRectangles$Sheet;"⟩, prog_5_method_3_code, 1, (some (.object "FewRectangles$Sheet"))), (⟨"FewRectangles$History", "acceptDraft", "()V"⟩, prog_5_method_4_code, 1, none), (⟨"FewRectangles$History", "stepBack", "()I"⟩, prog_5_method_5_code, 1, (some .int)), (⟨"FewRectangles$History", "stepOn", "()I"⟩, prog_5_method_6_code, 1, (some .int)), (⟨"FewRectangles$History", "startFrom", "(LFewRectangles$Sheet;)V"⟩, prog_5_method_7_code, 2, none), (⟨"FewRectangles$Probe", "<init>", "()V"⟩, prog_6_method_1_code, 1, none), (⟨"FewRectangles$Probe", "maskAt", "(LFewRectangles$Sheet;II)I"⟩, prog_6_method_2_code, 7, (some .int)), (⟨"FewRectangles$Probe", "aim", "(LFewRectangles$Sheet;LFewRectangles$Rule;)V"⟩, prog_6_method_3_code, 6, none), (⟨"FewRectangles$Probe", "isSo", "(LFewRectangles$Sheet;LFewRectangles$Rule;II)Z"⟩, prog_6_method_4_code, 8, (some .boolean)), (⟨"FewRectangles$Probe", "step", "(LFewRectangles$Sheet;LFewRectangles$Rule;[II)I"⟩, prog_6_method_5_code, 12, (some .int)), (⟨"FewRectangles$Probe", "joined", "(IJJ)J"⟩, prog_6_method_6_code, 5, (some .long)), (⟨"FewRectangles$Probe", "wordFor", "(LFewRectangles$Sheet;I)I"⟩, prog_6_method_7_code, 3, (some .int)), (⟨"FewRectangles$Probe", "countPeers", "(LFewRectangles$Sheet;LFewRectangles$Rule;)V"⟩, prog_6_method_8_code, 7, none), (⟨"FewRectangles$Probe", "push", "(J)V"⟩, prog_6_method_9_code, 3, none)]
def mm_itab_3 : List (MethodName × ByteArray × Nat × Option FieldType) := [(⟨"FewRectangles$Probe", "pop", "()I"⟩, prog_6_method_10_code, 1, (some .int)), (⟨"FewRectangles$ProgramReader", "<init>", "(LFewRectangles$Tape;)V"⟩, prog_7_method_1_code, 2, none), (⟨"FewRectangles$ProgramReader", "read", "()[I"⟩, prog_7_method_2_code, 3, (some (.array .int))), (⟨"FewRectangles$ProgramReader", "readLines", "(I)V"⟩, prog_7_method_3_code, 5, none), (⟨"FewRectangles$ProgramReader", "opens", "(I)Z"⟩, prog_7_method_4_code, 2, (some .boolean)), (⟨"FewRectangles$ProgramReader", "readNumbers", "(I)V"⟩, prog_7_method_5_code, 2, none), (⟨"FewRectangles$ProgramReader", "addFormat", "()V"⟩, prog_7_method_6_code, 1, none), (⟨"FewRectangles$ProgramReader", "addTwo", "(Ljava/lang/String;)V"⟩, prog_7_method_7_code, 2, none), (⟨"FewRectangles$ProgramReader", "addArea", "()V"⟩, prog_7_method_8_code, 6, none), (⟨"FewRectangles$ProgramReader", "addMove", "()V"⟩, prog_7_method_9_code, 3, none), (⟨"FewRectangles$ProgramReader", "add", "(I)V"⟩, prog_7_method_10_code, 2, none), (⟨"FewRectangles$Rule", "<init>", "()V"⟩, prog_8_method_1_code, 1, none), (⟨"FewRectangles$Rule", "become", "(LFewRectangles$Rule;)V"⟩, prog_8_method_2_code, 2, none), (⟨"FewRectangles$Rule", "covers", "(II)Z"⟩, prog_8_method_3_code, 3, (some .boolean)), (⟨"FewRectangles$Rule", "makeRoom", "(III)V"⟩, prog_8_method_4_code, 4, none), (⟨"FewRectangles$Rule", "loseLines", "(III)Z"⟩, prog_8_method_5_code, 4, (some .boolean)), (⟨"FewRectangles$Rule", "firstLeft", "(III)I"⟩, prog_8_method_6_code, 3, (some .int)), (⟨"FewRectangles$Rule", "lastLeft", "(III)I"⟩, prog_8_method_7_code, 3, (some .int)), (⟨"FewRectangles$Runner", "<init>", "(LFewRectangles$Editor;)V"⟩, prog_9_method_1_code, 2, none), (⟨"FewRectangles$Runner", "runOn", "(LFewRectangles$Sheet;[I)I"⟩, prog_9_method_2_code, 3, (some .int))]
def mm_itab_4 : List (MethodName × ByteArray × Nat × Option FieldType) := [(⟨"FewRectangles$Runner", "runLines", "(LFewRectangles$Sheet;[IIII)V"⟩, prog_9_method_3_code, 12, none), (⟨"FewRectangles$Runner", "perform", "(LFewRectangles$Sheet;[II)I"⟩, prog_9_method_4_code, 7, (some .int)), (⟨"FewRectangles$Runner", "originOf", "(I)I"⟩, prog_9_method_5_code, 2, (some .int)), (⟨"FewRectangles$Runner", "areaAt", "([II)I"⟩, prog_9_method_6_code, 3, (some .int)), (⟨"FewRectangles$Runner", "linesAt", "([III)I"⟩, prog_9_method_7_code, 3, (some .int)), (⟨"FewRectangles$Sheet", "<init>", "()V"⟩, prog_10_method_1_code, 2, none), (⟨"FewRectangles$Sheet", "become", "(LFewRectangles$Sheet;)V"⟩, prog_10_method_2_code, 3, none), (⟨"FewRectangles$Sheet", "size", "(I)I"⟩, prog_10_method_3_code, 2, (some .int)), (⟨"FewRectangles$Sheet", "hasCell", "(I)Z"⟩, prog_10_method_4_code, 2, (some .boolean)), (⟨"FewRectangles$Sheet", "hasRect", "(I)Z"⟩, prog_10_method_5_code, 2, (some .boolean)), (⟨"FewRectangles$Sheet", "hasLines", "(II)Z"⟩, prog_10_method_6_code, 3, (some .boolean)), (⟨"FewRectangles$Sheet", "hasRule", "(I)Z"⟩, prog_10_method_7_code, 2, (some .boolean)), (⟨"FewRectangles$Sheet", "ruleAt", "(I)LFewRectangles$Rule;"⟩, prog_10_method_8_code, 3, (some (.object "FewRectangles$Rule"))), (⟨"FewRectangles$Sheet", "valueOf", "(II)I"⟩, prog_10_method_9_code, 4, (some .int)), (⟨"FewRectangles$Sheet", "setValueOf", "(III)V"⟩, prog_10_method_10_code, 5, none), (⟨"FewRectangles$Sheet", "cellFormat", "(III)I"⟩, prog_10_method_11_code, 5, (some .int)), (⟨"FewRectangles$Sheet", "setCellFormat", "(IIII)V"⟩, prog_10_method_12_code, 6, none), (⟨"FewRectangles$Sheet", "lineFormat", "(III)I"⟩, prog_10_method_13_code, 5, (some .int)), (⟨"FewRectangles$Sheet", "setLineFormat", "(IIII)V"⟩, prog_10_method_14_code, 6, none), (⟨"FewRectangles$Sheet", "beneath", "(III)I"⟩, prog_10_method_15_code, 6, (some .int))]
def mm_itab_5 : List (MethodName × ByteArray × Nat × Option FieldType) := [(⟨"FewRectangles$Sheet", "isNeedless", "(III)Z"⟩, prog_10_method_16_code, 5, (some .boolean)), (⟨"FewRectangles$Sheet", "needlessCells", "(I)I"⟩, prog_10_method_17_code, 5, (some .int)), (⟨"FewRectangles$Sheet", "sourceOf", "(IIII)I"⟩, prog_10_method_18_code, 7, (some .int)), (⟨"FewRectangles$Sheet", "numberFrom", "(IIII)I"⟩, prog_10_method_19_code, 5, (some .int)), (⟨"FewRectangles$Sheet", "putRule", "(IIII[I)I"⟩, prog_10_method_20_code, 7, (some .int)), (⟨"FewRectangles$Sheet", "dropRule", "(I)I"⟩, prog_10_method_21_code, 2, (some .int)), (⟨"FewRectangles$Sheet", "bringRule", "(II)I"⟩, prog_10_method_22_code, 3, (some .int)), (⟨"FewRectangles$Sheet", "carryRule", "(II)V"⟩, prog_10_method_23_code, 5, none), (⟨"FewRectangles$Tape", "<init>", "()V"⟩, prog_11_method_1_code, 1, none), (⟨"FewRectangles$Tape", "append", "(II)I"⟩, prog_11_method_2_code, 4, (some .int)), (⟨"FewRectangles$Tape", "clear", "()V"⟩, prog_11_method_3_code, 1, none), (⟨"FewRectangles$Tape", "rewind", "()V"⟩, prog_11_method_4_code, 1, none), (⟨"FewRectangles$Tape", "advance", "()V"⟩, prog_11_method_5_code, 3, none), (⟨"FewRectangles$Tape", "sortOf", "(I)I"⟩, prog_11_method_6_code, 1, (some .int)), (⟨"FewRectangles$Tape", "refuse", "()V"⟩, prog_11_method_7_code, 1, none), (⟨"FewRectangles$Tape", "isWord", "(Ljava/lang/String;)Z"⟩, prog_11_method_8_code, 2, (some .boolean)), (⟨"FewRectangles$Tape", "takesWord", "(Ljava/lang/String;)Z"⟩, prog_11_method_9_code, 3, (some .boolean)), (⟨"FewRectangles$Tape", "takesSign", "(I)Z"⟩, prog_11_method_10_code, 3, (some .boolean)), (⟨"FewRectangles$Tape", "needSign", "(I)V"⟩, prog_11_method_11_code, 2, none), (⟨"FewRectangles$Tape", "needNumber", "(I)I"⟩, prog_11_method_12_code, 4, (some .int))]
def mm_itab_6 : List (MethodName × ByteArray × Nat × Option FieldType) := [(⟨"FewRectangles$Tape", "needOneOf", "(Ljava/lang/String;)I"⟩, prog_11_method_13_code, 5, (some .int)), (⟨"FewRectangles$Tape", "spells", "(Ljava/lang/String;II)Z"⟩, prog_11_method_14_code, 6, (some .boolean)), (⟨"FewRectangles$View", "<init>", "()V"⟩, prog_12_method_1_code, 1, none), (⟨"FewRectangles$View", "take", "(LFewRectangles$Sheet;LFewRectangles$Probe;)V"⟩, prog_12_method_2_code, 5, none), (⟨"FewRectangles$View", "markCells", "(LFewRectangles$Sheet;LFewRectangles$Probe;I)V"⟩, prog_12_method_3_code, 8, none), (⟨"FewRectangles$View", "takeCell", "(LFewRectangles$Sheet;II)V"⟩, prog_12_method_4_code, 9, none), (⟨"FewRectangles$View", "maskAt", "(II)I"⟩, prog_12_method_5_code, 3, (some .int)), (⟨"FewRectangles$View", "sourceAt", "(III)I"⟩, prog_12_method_6_code, 4, (some .int)), (⟨"FewRectangles$View", "numberAt", "(III)I"⟩, prog_12_method_7_code, 4, (some .int)), (⟨"FewRectangles$View", "lookAt", "(II)I"⟩, prog_12_method_8_code, 3, (some .int)), (⟨"FewRectangles$View", "cellsHeldBy", "(I)I"⟩, prog_12_method_9_code, 5, (some .int)), (⟨"FewRectangles$View", "cellsShownBy", "(II)I"⟩, prog_12_method_10_code, 6, (some .int)), (⟨"FewRectangles$View", "cellsShowing", "(III)I"⟩, prog_12_method_11_code, 7, (some .int)), (⟨"FewRectangles$View", "cellsLooking", "(I)I"⟩, prog_12_method_12_code, 5, (some .int)), (⟨"FewRectangles$View", "cellsUnlike", "(LFewRectangles$View;)I"⟩, prog_12_method_13_code, 5, (some .int)), (⟨"FewRectangles$View", "unlikeLooks", "()I"⟩, prog_12_method_14_code, 7, (some .int)), (⟨"FewRectangles$View", "stripesOf", "(I)I"⟩, prog_12_method_15_code, 4, (some .int)), (⟨"FewRectangles$View", "findGreatest", "(II)V"⟩, prog_12_method_16_code, 6, none), (⟨"FewRectangles$View", "findGreatestFrom", "(II)V"⟩, prog_12_method_17_code, 6, none), (⟨"FewRectangles", "<init>", "()V"⟩, prog_1_method_1_code, 1, none)]
def mm_itab_7 : List (MethodName × ByteArray × Nat × Option FieldType) := [(⟨"FewRectangles", "paint", "(III)I"⟩, prog_1_method_2_code, 4, (some .int)), (⟨"FewRectangles", "lines", "(IIII)I"⟩, prog_1_method_3_code, 5, (some .int)), (⟨"FewRectangles", "ground", "(II)I"⟩, prog_1_method_4_code, 3, (some .int)), (⟨"FewRectangles", "value", "(II)I"⟩, prog_1_method_5_code, 3, (some .int)), (⟨"FewRectangles", "insert", "(III)I"⟩, prog_1_method_6_code, 4, (some .int)), (⟨"FewRectangles", "remove", "(II)I"⟩, prog_1_method_7_code, 3, (some .int)), (⟨"FewRectangles", "copy", "(III)I"⟩, prog_1_method_8_code, 4, (some .int)), (⟨"FewRectangles", "sort", "(III)I"⟩, prog_1_method_9_code, 4, (some .int)), (⟨"FewRectangles", "move", "(III)I"⟩, prog_1_method_10_code, 4, (some .int)), (⟨"FewRectangles", "tidy", "(I)I"⟩, prog_1_method_11_code, 2, (some .int)), (⟨"FewRectangles", "rule", "(IIII)I"⟩, prog_1_method_12_code, 8, (some .int)), (⟨"FewRectangles", "drop", "(I)I"⟩, prog_1_method_13_code, 2, (some .int)), (⟨"FewRectangles", "bring", "(II)I"⟩, prog_1_method_14_code, 3, (some .int)), (⟨"FewRectangles", "paste", "(IIIII)I"⟩, prog_1_method_15_code, 10, (some .int)), (⟨"FewRectangles", "run", "(I)I"⟩, prog_1_method_16_code, 3, (some .int)), (⟨"FewRectangles", "undo", "()I"⟩, prog_1_method_17_code, 1, (some .int)), (⟨"FewRectangles", "redo", "()I"⟩, prog_1_method_18_code, 1, (some .int)), (⟨"FewRectangles", "before", "(III)I"⟩, prog_1_method_19_code, 8, (some .int)), (⟨"FewRectangles", "shown", "(II)I"⟩, prog_1_method_20_code, 3, (some .int)), (⟨"FewRectangles", "under", "(III)I"⟩, prog_1_method_21_code, 7, (some .int))]
def mm_itab_8 : List (MethodName × ByteArray × Nat × Option FieldType) := [(⟨"FewRectangles", "by", "(II)I"⟩, prog_1_method_22_code, 3, (some .int)), (⟨"FewRectangles", "valueAt", "(I)I"⟩, prog_1_method_23_code, 3, (some .int)), (⟨"FewRectangles", "holds", "(II)I"⟩, prog_1_method_24_code, 4, (some .int)), (⟨"FewRectangles", "ruleOf", "(II)I"⟩, prog_1_method_25_code, 5, (some .int)), (⟨"FewRectangles", "idle", "()I"⟩, prog_1_method_26_code, 5, (some .int)), (⟨"FewRectangles", "rects", "(I)I"⟩, prog_1_method_27_code, 2, (some .int)), (⟨"FewRectangles", "rect", "(III)I"⟩, prog_1_method_28_code, 4, (some .int)), (⟨"FewRectangles", "lies", "(II)I"⟩, prog_1_method_29_code, 3, (some .int)), (⟨"FewRectangles", "would", "(III)I"⟩, prog_1_method_30_code, 5, (some .int)), (⟨"FewRectangles", "drawn", "(IIII)I"⟩, prog_1_method_31_code, 5, (some .int)), (⟨"FewRectangles", "all", "(II)I"⟩, prog_1_method_32_code, 6, (some .int)), (⟨"FewRectangles", "many", "(III)I"⟩, prog_1_method_33_code, 4, (some .int)), (⟨"FewRectangles", "greatest", "(III)I"⟩, prog_1_method_34_code, 5, (some .int)), (⟨"FewRectangles", "alike", "(I)I"⟩, prog_1_method_35_code, 3, (some .int)), (⟨"FewRectangles", "looks", "()I"⟩, prog_1_method_36_code, 1, (some .int)), (⟨"FewRectangles", "stripes", "(I)I"⟩, prog_1_method_37_code, 2, (some .int)), (⟨"FewRectangles", "strokes", "(II)I"⟩, prog_1_method_38_code, 3, (some .int)), (⟨"FewRectangles", "needless", "(I)I"⟩, prog_1_method_39_code, 2, (some .int)), (⟨"FewRectangles", "row", "(II)I"⟩, prog_1_method_40_code, 4, (some .int)), (⟨"FewRectangles", "put", "(III)I"⟩, prog_1_method_41_code, 4, (some .int))]
def mm_itab_9 : List (MethodName × ByteArray × Nat × Option FieldType) := [(⟨"FewRectangles", "element", "(II)I"⟩, prog_1_method_42_code, 3, (some .int)), (⟨"FewRectangles", "clip", "(IIII)I"⟩, prog_1_method_43_code, 9, (some .int)), (⟨"FewRectangles", "feed", "(II)I"⟩, prog_1_method_44_code, 3, (some .int)), (⟨"FewRectangles", "text", "()I"⟩, prog_1_method_45_code, 3, (some .int)), (⟨"FewRectangles", "tests", "(II)I"⟩, prog_1_method_46_code, 9, (some .int)), (⟨"FewRectangles", "image", "()I"⟩, prog_1_method_47_code, 1, (some .int)), (⟨"FewRectangles", "back", "()I"⟩, prog_1_method_48_code, 1, (some .int)), (⟨"FewRectangles", "differs", "()I"⟩, prog_1_method_49_code, 2, (some .int)), (⟨"FewRectangles", "count", "(I)I"⟩, prog_1_method_50_code, 2, (some .int)), (⟨"FewRectangles", "now", "()LFewRectangles$Sheet;"⟩, prog_1_method_51_code, 1, (some (.object "FewRectangles$Sheet"))), (⟨"FewRectangles", "settle", "(I)I"⟩, prog_1_method_52_code, 2, (some .int)), (⟨"FewRectangles", "freshView", "()LFewRectangles$View;"⟩, prog_1_method_53_code, 1, (some (.object "FewRectangles$View"))), (⟨"FewRectangles", "programOf", "(I)[I"⟩, prog_1_method_54_code, 2, (some (.array .int))), (⟨"FewRectangles", "isShelf", "(I)Z"⟩, prog_1_method_55_code, 1, (some .boolean)), (⟨"FewRectangles", "sizeOf", "(I)I"⟩, prog_1_method_56_code, 2, (some .int)), (⟨"FewRectangles", "shortOf", "(II)I"⟩, prog_1_method_57_code, 4, (some .int)), (⟨"FewRectangles", "setShort", "(III)V"⟩, prog_1_method_58_code, 5, none), (⟨"FewRectangles", "pastedRect", "(III)I"⟩, prog_1_method_59_code, 6, (some .int)), (⟨"FewRectangles", "writeFive", "(IIII)V"⟩, prog_1_method_60_code, 7, none), (⟨"FewRectangles", "peek", "([II)I"⟩, prog_1_method_61_code, 2, (some .int))]
def mm_itab_10 : List (MethodName × ByteArray × Nat × Option FieldType) := [(⟨"FewRectangles", "poke", "([III)V"⟩, prog_1_method_62_code, 3, none), (⟨"FewRectangles", "wrap", "(II)I"⟩, prog_1_method_63_code, 2, (some .int)), (⟨"FewRectangles", "placeOf", "(II)I"⟩, prog_1_method_64_code, 2, (some .int)), (⟨"FewRectangles", "isProperty", "(I)Z"⟩, prog_1_method_65_code, 1, (some .boolean)), (⟨"FewRectangles", "isNumber", "(I)Z"⟩, prog_1_method_66_code, 1, (some .boolean)), (⟨"FewRectangles", "isFormat", "(I)Z"⟩, prog_1_method_67_code, 1, (some .boolean)), (⟨"FewRectangles", "isFlag", "(I)Z"⟩, prog_1_method_68_code, 1, (some .boolean)), (⟨"FewRectangles", "topOf", "(I)I"⟩, prog_1_method_69_code, 1, (some .int)), (⟨"FewRectangles", "leftOf", "(I)I"⟩, prog_1_method_70_code, 1, (some .int)), (⟨"FewRectangles", "bottomOf", "(I)I"⟩, prog_1_method_71_code, 1, (some .int)), (⟨"FewRectangles", "rightOf", "(I)I"⟩, prog_1_method_72_code, 1, (some .int)), (⟨"FewRectangles", "rectCode", "(IIII)I"⟩, prog_1_method_73_code, 6, (some .int)), (⟨"FewRectangles", "pairCode", "(II)I"⟩, prog_1_method_74_code, 2, (some .int)), (⟨"FewRectanglesModel", "<init>", "()V"⟩, prog_14_method_1_code, 2, none), (⟨"FewRectanglesModel", "in", "(JJJ)Z"⟩, prog_14_method_2_code, 6, (some .boolean)), (⟨"FewRectanglesModel", "isProperty", "(I)Z"⟩, prog_14_method_3_code, 1, (some .boolean)), (⟨"FewRectanglesModel", "isTold", "(I)Z"⟩, prog_14_method_4_code, 1, (some .boolean)), (⟨"FewRectanglesModel", "told", "(I)I"⟩, prog_14_method_5_code, 2, (some .int)), (⟨"FewRectanglesModel", "becomes", "([II)V"⟩, prog_14_method_6_code, 3, none), (⟨"FewRectanglesModel", "undo", "()I"⟩, prog_14_method_7_code, 1, (some .int))]
def mm_itab_11 : List (MethodName × ByteArray × Nat × Option FieldType) := [(⟨"FewRectanglesModel", "redo", "()I"⟩, prog_14_method_8_code, 1, (some .int)), (⟨"FewRectanglesModel", "image", "()I"⟩, prog_14_method_9_code, 1, (some .int)), (⟨"FewRectanglesModel", "back", "()I"⟩, prog_14_method_10_code, 1, (some .int)), (⟨"FewRectanglesModel", "aside", "()V"⟩, prog_14_method_11_code, 1, none), (⟨"FewRectanglesModel", "again", "()V"⟩, prog_14_method_12_code, 1, none), (⟨"FewRectanglesModel", "isRect", "(JJJJ)Z"⟩, prog_14_method_13_code, 9, (some .boolean)), (⟨"FewRectanglesModel", "takesRect", "(I)Z"⟩, prog_14_method_14_code, 2, (some .boolean)), (⟨"FewRectanglesModel", "isCell", "(I)Z"⟩, prog_14_method_15_code, 2, (some .boolean)), (⟨"FewRectanglesModel", "isLines", "(III)Z"⟩, prog_14_method_16_code, 4, (some .boolean)), (⟨"FewRectanglesModel", "grid", "(II)I"⟩, prog_14_method_17_code, 2, (some .int)), (⟨"FewRectanglesModel", "crossed", "(III)I"⟩, prog_14_method_18_code, 3, (some .int)), (⟨"FewRectanglesModel", "lined", "(III)I"⟩, prog_14_method_19_code, 3, (some .int)), (⟨"FewRectanglesModel", "own", "(III)I"⟩, prog_14_method_20_code, 4, (some .int)), (⟨"FewRectanglesModel", "paints", "(IIIIII)V"⟩, prog_14_method_21_code, 9, none), (⟨"FewRectanglesModel", "doPaint", "(IIIIII)I"⟩, prog_14_method_22_code, 7, (some .int)), (⟨"FewRectanglesModel", "paint", "(III)I"⟩, prog_14_method_23_code, 4, (some .int)), (⟨"FewRectanglesModel", "doLines", "(IIIII)I"⟩, prog_14_method_24_code, 7, (some .int)), (⟨"FewRectanglesModel", "lines", "(IIII)I"⟩, prog_14_method_25_code, 5, (some .int)), (⟨"FewRectanglesModel", "ground", "(II)I"⟩, prog_14_method_26_code, 3, (some .int)), (⟨"FewRectanglesModel", "value", "(II)I"⟩, prog_14_method_27_code, 3, (some .int))]
def mm_itab_12 : List (MethodName × ByteArray × Nat × Option FieldType) := [(⟨"FewRectanglesModel", "movesLine", "(III)V"⟩, prog_14_method_28_code, 6, none), (⟨"FewRectanglesModel", "doInsert", "(III)I"⟩, prog_14_method_29_code, 10, (some .int)), (⟨"FewRectanglesModel", "insert", "(III)I"⟩, prog_14_method_30_code, 4, (some .int)), (⟨"FewRectanglesModel", "dropRule", "(I)V"⟩, prog_14_method_31_code, 3, none), (⟨"FewRectanglesModel", "doRemove", "(III)I"⟩, prog_14_method_32_code, 11, (some .int)), (⟨"FewRectanglesModel", "remove", "(II)I"⟩, prog_14_method_33_code, 3, (some .int)), (⟨"FewRectanglesModel", "orders", "(I)V"⟩, prog_14_method_34_code, 6, none), (⟨"FewRectanglesModel", "sort", "(III)I"⟩, prog_14_method_35_code, 12, (some .int)), (⟨"FewRectanglesModel", "move", "(III)I"⟩, prog_14_method_36_code, 8, (some .int)), (⟨"FewRectanglesModel", "doCopy", "(IIIIIIIII)I"⟩, prog_14_method_37_code, 17, (some .int)), (⟨"FewRectanglesModel", "copy", "(III)I"⟩, prog_14_method_38_code, 8, (some .int)), (⟨"FewRectanglesModel", "beneath", "(III)I"⟩, prog_14_method_39_code, 4, (some .int)), (⟨"FewRectanglesModel", "needless", "(I)I"⟩, prog_14_method_40_code, 5, (some .int)), (⟨"FewRectanglesModel", "doTidy", "(I)I"⟩, prog_14_method_41_code, 5, (some .int)), (⟨"FewRectanglesModel", "tidy", "(I)I"⟩, prog_14_method_42_code, 2, (some .int)), (⟨"FewRectanglesModel", "feed", "(II)I"⟩, prog_14_method_43_code, 4, (some .int)), (⟨"FewRectanglesModel", "isWordAt", "(I)Z"⟩, prog_14_method_44_code, 2, (some .boolean)), (⟨"FewRectanglesModel", "isFigureAt", "(I)Z"⟩, prog_14_method_45_code, 2, (some .boolean)), (⟨"FewRectanglesModel", "next", "()V"⟩, prog_14_method_46_code, 1, none), (⟨"FewRectanglesModel", "starts", "()V"⟩, prog_14_method_47_code, 1, none)]
def mm_itab_13 : List (MethodName × ByteArray × Nat × Option FieldType) := [(⟨"FewRectanglesModel", "wrong", "()V"⟩, prog_14_method_48_code, 1, none), (⟨"FewRectanglesModel", "isWord", "(J)Z"⟩, prog_14_method_49_code, 3, (some .boolean)), (⟨"FewRectanglesModel", "takesWord", "(J)Z"⟩, prog_14_method_50_code, 3, (some .boolean)), (⟨"FewRectanglesModel", "takesSign", "(I)Z"⟩, prog_14_method_51_code, 2, (some .boolean)), (⟨"FewRectanglesModel", "wants", "(Z)V"⟩, prog_14_method_52_code, 2, none), (⟨"FewRectanglesModel", "number", "(I)I"⟩, prog_14_method_53_code, 4, (some .int)), (⟨"FewRectanglesModel", "writes", "(I)V"⟩, prog_14_method_54_code, 2, none), (⟨"FewRectanglesModel", "opens", "()Z"⟩, prog_14_method_55_code, 1, (some .boolean)), (⟨"FewRectanglesModel", "readsCondition", "()V"⟩, prog_14_method_56_code, 2, none), (⟨"FewRectanglesModel", "readsAll", "()V"⟩, prog_14_method_57_code, 2, none), (⟨"FewRectanglesModel", "readsNot", "()V"⟩, prog_14_method_58_code, 2, none), (⟨"FewRectanglesModel", "readsSum", "()V"⟩, prog_14_method_59_code, 2, none), (⟨"FewRectanglesModel", "readsPart", "()V"⟩, prog_14_method_60_code, 1, none), (⟨"FewRectanglesModel", "nameNow", "()I"⟩, prog_14_method_61_code, 2, (some .int)), (⟨"FewRectanglesModel", "readsUnit", "()V"⟩, prog_14_method_62_code, 3, none), (⟨"FewRectanglesModel", "rule", "(IIII)I"⟩, prog_14_method_63_code, 6, (some .int)), (⟨"FewRectanglesModel", "isRule", "(I)Z"⟩, prog_14_method_64_code, 2, (some .boolean)), (⟨"FewRectanglesModel", "drop", "(I)I"⟩, prog_14_method_65_code, 2, (some .int)), (⟨"FewRectanglesModel", "bring", "(II)I"⟩, prog_14_method_66_code, 5, (some .int)), (⟨"FewRectanglesModel", "valueIn", "(II)I"⟩, prog_14_method_67_code, 3, (some .int))]
def mm_itab_14 : List (MethodName × ByteArray × Nat × Option FieldType) := [(⟨"FewRectanglesModel", "countIn", "(IIZ)I"⟩, prog_14_method_68_code, 8, (some .int)), (⟨"FewRectanglesModel", "named", "(IIII)I"⟩, prog_14_method_69_code, 5, (some .int)), (⟨"FewRectanglesModel", "both", "(IJJ)J"⟩, prog_14_method_70_code, 5, (some .long)), (⟨"FewRectanglesModel", "isSo", "(III)Z"⟩, prog_14_method_71_code, 9, (some .boolean)), (⟨"FewRectanglesModel", "freshen", "()V"⟩, prog_14_method_72_code, 6, none), (⟨"FewRectanglesModel", "showing", "(III)I"⟩, prog_14_method_73_code, 6, (some .int)), (⟨"FewRectanglesModel", "shows", "(III)I"⟩, prog_14_method_74_code, 5, (some .int)), (⟨"FewRectanglesModel", "shown", "(II)I"⟩, prog_14_method_75_code, 3, (some .int)), (⟨"FewRectanglesModel", "before", "(III)I"⟩, prog_14_method_76_code, 5, (some .int)), (⟨"FewRectanglesModel", "under", "(III)I"⟩, prog_14_method_77_code, 6, (some .int)), (⟨"FewRectanglesModel", "by", "(II)I"⟩, prog_14_method_78_code, 6, (some .int)), (⟨"FewRectanglesModel", "valueAt", "(I)I"⟩, prog_14_method_79_code, 2, (some .int)), (⟨"FewRectanglesModel", "holds", "(II)I"⟩, prog_14_method_80_code, 3, (some .int)), (⟨"FewRectanglesModel", "ruleOf", "(II)I"⟩, prog_14_method_81_code, 8, (some .int)), (⟨"FewRectanglesModel", "idle", "()I"⟩, prog_14_method_82_code, 3, (some .int)), (⟨"FewRectanglesModel", "isRun", "(IIIII)Z"⟩, prog_14_method_83_code, 7, (some .boolean)), (⟨"FewRectanglesModel", "coversOf", "(I)V"⟩, prog_14_method_84_code, 7, none), (⟨"FewRectanglesModel", "rects", "(I)I"⟩, prog_14_method_85_code, 2, (some .int)), (⟨"FewRectanglesModel", "rect", "(III)I"⟩, prog_14_method_86_code, 4, (some .int)), (⟨"FewRectanglesModel", "lies", "(II)I"⟩, prog_14_method_87_code, 4, (some .int))]
def mm_itab_15 : List (MethodName × ByteArray × Nat × Option FieldType) := [(⟨"FewRectanglesModel", "would", "(III)I"⟩, prog_14_method_88_code, 4, (some .int)), (⟨"FewRectanglesModel", "draws", "(I)I"⟩, prog_14_method_89_code, 2, (some .int)), (⟨"FewRectanglesModel", "drawn", "(IIII)I"⟩, prog_14_method_90_code, 11, (some .int)), (⟨"FewRectanglesModel", "all", "(II)I"⟩, prog_14_method_91_code, 4, (some .int)), (⟨"FewRectanglesModel", "countShown", "(II)I"⟩, prog_14_method_92_code, 6, (some .int)), (⟨"FewRectanglesModel", "many", "(III)I"⟩, prog_14_method_93_code, 4, (some .int)), (⟨"FewRectanglesModel", "within", "(IIII)I"⟩, prog_14_method_94_code, 6, (some .int)), (⟨"FewRectanglesModel", "greatest", "(III)I"⟩, prog_14_method_95_code, 12, (some .int)), (⟨"FewRectanglesModel", "look", "(II)I"⟩, prog_14_method_96_code, 3, (some .int)), (⟨"FewRectanglesModel", "alike", "(I)I"⟩, prog_14_method_97_code, 5, (some .int)), (⟨"FewRectanglesModel", "looks", "()I"⟩, prog_14_method_98_code, 5, (some .int)), (⟨"FewRectanglesModel", "stripes", "(I)I"⟩, prog_14_method_99_code, 4, (some .int)), (⟨"FewRectanglesModel", "strokes", "(II)I"⟩, prog_14_method_100_code, 10, (some .int)), (⟨"FewRectanglesModel", "differs", "()I"⟩, prog_14_method_101_code, 3, (some .int)), (⟨"FewRectanglesModel", "isShelf", "(I)Z"⟩, prog_14_method_102_code, 1, (some .boolean)), (⟨"FewRectanglesModel", "row", "(II)I"⟩, prog_14_method_103_code, 4, (some .int)), (⟨"FewRectanglesModel", "refusal", "(II)I"⟩, prog_14_method_104_code, 3, (some .int)), (⟨"FewRectanglesModel", "put", "(III)I"⟩, prog_14_method_105_code, 5, (some .int)), (⟨"FewRectanglesModel", "element", "(II)I"⟩, prog_14_method_106_code, 3, (some .int)), (⟨"FewRectanglesModel", "clip", "(IIII)I"⟩, prog_14_method_107_code, 8, (some .int))]
def mm_itab_16 : List (MethodName × ByteArray × Nat × Option FieldType) := [(⟨"FewRectanglesModel", "isMet", "(I)Z"⟩, prog_14_method_108_code, 2, (some .boolean)), (⟨"FewRectanglesModel", "paste", "(IIIII)I"⟩, prog_14_method_109_code, 15, (some .int)), (⟨"FewRectanglesModel", "readsProperty", "()V"⟩, prog_14_method_110_code, 2, none), (⟨"FewRectanglesModel", "readsWhat", "()V"⟩, prog_14_method_111_code, 1, none), (⟨"FewRectanglesModel", "readsPlace", "()V"⟩, prog_14_method_112_code, 1, none), (⟨"FewRectanglesModel", "readsArea", "()V"⟩, prog_14_method_113_code, 1, none), (⟨"FewRectanglesModel", "readsMove", "()V"⟩, prog_14_method_114_code, 2, none), (⟨"FewRectanglesModel", "readsLinesWay", "()V"⟩, prog_14_method_115_code, 1, none), (⟨"FewRectanglesModel", "readsTwo", "(J)V"⟩, prog_14_method_116_code, 3, none), (⟨"FewRectanglesModel", "readsRepeat", "()V"⟩, prog_14_method_117_code, 2, none), (⟨"FewRectanglesModel", "readsLine", "()V"⟩, prog_14_method_118_code, 2, none), (⟨"FewRectanglesModel", "text", "()I"⟩, prog_14_method_119_code, 1, (some .int)), (⟨"FewRectanglesModel", "cellOf", "(I)I"⟩, prog_14_method_120_code, 2, (some .int)), (⟨"FewRectanglesModel", "does", "(I)I"⟩, prog_14_method_121_code, 6, (some .int)), (⟨"FewRectanglesModel", "sizeOf", "(I)I"⟩, prog_14_method_122_code, 1, (some .int)), (⟨"FewRectanglesModel", "runs", "(II)V"⟩, prog_14_method_123_code, 6, none), (⟨"FewRectanglesModel", "ran", "(I)I"⟩, prog_14_method_124_code, 2, (some .int)), (⟨"FewRectanglesModel", "run", "(I)I"⟩, prog_14_method_125_code, 2, (some .int)), (⟨"FewRectanglesModel", "tests", "(II)I"⟩, prog_14_method_126_code, 5, (some .int)), (⟨"FewRectanglesModel", "count", "(I)I"⟩, prog_14_method_127_code, 2, (some .int))]
def mm_itab_17 : List (MethodName × ByteArray × Nat × Option FieldType) := [(⟨"java/lang/Math", "floorMod", "(II)I"⟩, prog_17_method_50_code, 3, (some .int)), (⟨"java/lang/String", "length", "()I"⟩, prog_18_method_54_code, 1, (some .int)), (⟨"java/lang/String", "charAt", "(I)C"⟩, prog_18_method_56_code, 2, (some .char)), (⟨"java/lang/String", "indexOf", "(I)I"⟩, prog_18_method_79_code, 2, (some .int)), (⟨"java/lang/String", "indexOf", "(II)I"⟩, prog_18_method_80_code, 3, (some .int)), (⟨"java/lang/String", "coder", "()B"⟩, prog_18_method_152_code, 1, (some .byte)), (⟨"java/lang/String", "isLatin1", "()Z"⟩, prog_18_method_154_code, 1, (some .boolean)), (⟨"java/lang/String", "checkIndex", "(II)V"⟩, prog_18_method_155_code, 2, none), (⟨"java/lang/StringLatin1", "charAt", "([BI)C"⟩, prog_19_method_2_code, 2, (some .char)), (⟨"java/lang/StringLatin1", "canEncode", "(I)Z"⟩, prog_19_method_4_code, 1, (some .boolean)), (⟨"java/lang/StringLatin1", "indexOf", "([BIII)I"⟩, prog_19_method_22_code, 4, (some .int)), (⟨"java/lang/StringLatin1", "indexOfChar", "([BIII)I"⟩, prog_19_method_23_code, 6, (some .int)), (⟨"java/util/Arrays", "fill", "([II)V"⟩, prog_22_method_103_code, 4, none), (⟨"java/util/Arrays", "copyOf", "([II)[I"⟩, prog_22_method_123_code, 3, (some (.array .int))), (⟨"jdk/internal/util/Preconditions", "checkIndex", "(IILjava/util/function/BiFunction;)I"⟩, prog_23_method_11_code, 3, (some .int))]
def mm_itab : List (List (MethodName × ByteArray × Nat × Option FieldType)) := [mm_itab_0, mm_itab_1, mm_itab_2, mm_itab_3, mm_itab_4, mm_itab_5, mm_itab_6, mm_itab_7, mm_itab_8, mm_itab_9, mm_itab_10, mm_itab_11, mm_itab_12, mm_itab_13, mm_itab_14, mm_itab_15, mm_itab_16, mm_itab_17]
def mm_inf (i : Nat) : MethodName × ByteArray × Nat × Option FieldType := mm_nth (⟨"", "", ""⟩, ⟨#[]⟩, 0, none) (Nat.mod i 20) (mm_nth [] (Nat.div i 20) mm_itab)

theorem mm_str_at {D : va_G} {tys : List (ClassId × FieldType)} {B : Nat} {old : Int → Nat} {L0 : Nat} {scr : Nat → Int32} {ρ : List Nat} {w : mm_W} {h : mm_H} {H : Heap} {a : Int} (hH : mm_HR D tys B old L0 scr ρ w h H) (hk : (w.1 a).1 = 14) : ∃ i : Nat, i < 12 ∧ a = -(10 + 2 * (i : Int)) := by
  have hneg : a ≤ 0 := by
    rcases Int.lt_or_le 0 a with q | q
    · rcases Int.lt_or_le ρ.length a with q2 | q2
      · rw [hH.2.2.1 a q2] at hk; omega
      · have := hH.2.1 a q q2
        rcases this with ⟨_, h2, _⟩ | ⟨h2, _⟩ | ⟨h2, _⟩ | ⟨h2, _⟩ <;> omega
    · exact q
  obtain ⟨n1, -, -, n2, n3⟩ := hH.2.2.2.1
  by_cases q1 : a = -1
  · subst q1; rw [n1] at hk; exact absurd hk (show ¬ (50 : Nat) = 14 by decide)
  · by_cases q2 : ∀ i : Nat, i < 12 → a ≠ -(10 + 2 * (i : Int)) ∧ a ≠ -(11 + 2 * (i : Int))
    · rw [n3 a hneg q1 q2] at hk; omega
    · simp only [Classical.not_forall] at q2
      obtain ⟨i, hi, q2⟩ := q2
      obtain ⟨-, -, -, g2, -⟩ := n2 i hi
      by_cases e2 : a = -(11 + 2 * (i : Int))
      · subst e2; rw [g2] at hk; exact absurd hk (show ¬ (54 : Nat) = 14 by decide)
      · exact ⟨i, hi, Classical.byContradiction fun z => q2 ⟨z, e2⟩⟩
section MM
variable {D : va_G} {tys : List (ClassId × FieldType)} {B : Nat} {old : Int → Nat} {L0 : Nat} {scr : Nat → Int32}
variable {p : Program} {l : Launch} {e : Env} {R : Room} {s : State} {m : MethodId} {args : Array Value} {below : List Frame} {meth : Method} {c : Code} {nL : Nat} {ρ0 : List Nat} {w0 : mm_W} {Q : State → Prop}
variable {own : String} {cc : ByteArray} {mn : String} {rt : Option FieldType} {pc : Nat} {L st : List mm_V} {w : mm_W} {h : mm_H} {nx : Nat} {tx : String}

theorem st_getS (F : mm_Fr D tys B old L0 scr p s m args meth c nL own cc mn rt) {a : Int} {i : Nat} (hw : Jvm.Cond.fieldLink own i "java/lang/String" "value" "[B" ∈ lw_g) (hd : decode cc pc = .ok (.getfield i, 3)) (hk : (w.1 a).1 = 14) (kk : mm_Wc D tys B old L0 scr p l e R s m args below meth c nL ρ0 w0 Q (pc + 3) L ((2, h a 0) :: st) w h) : mm_Wc D tys B old L0 scr p l e R s m args below meth c nL ρ0 w0 Q pc L ((2, a) :: st) w h := by
  intro ρ H locs ls sv hρ hH hS hL hst
  obtain ⟨v, sv, rfl, ⟨ha, rfl⟩, hs2⟩ := mm_SR_cons hst
  obtain ⟨i2, hi, rfl⟩ := mm_str_at hH hk
  obtain ⟨-, g2, -, -, -⟩ := hH.2.2.2.1.2.2.2.1 i2 hi
  rw [show mm_adr old ρ ((2, -(10 + 2 * (i2 : Int))) : mm_V).2 = some (old (-(10 + 2 * (i2 : Int)))) by show mm_adr old ρ (-(10 + 2 * (i2 : Int))) = _; unfold mm_adr; rw [if_pos (by omega)]]
  obtain ⟨-, -, hV, -⟩ := F.2.2.2.2.2.1.2.2.2.2.1.1 i2 hi
  rw [g2] at kk
  refine vk_getf F.1 F.2.1 hV hS F.2.2.2.1 (F.2.2.2.2.1 _ hw) (fun _ h => h) hd (kk ρ H locs ls (.ref (old (-(11 + 2 * (i2 : Int)))) :: sv) hρ hH hS hL ⟨⟨by show -(11 + 2 * (i2 : Int)) ≤ _; omega, ?_⟩, hs2⟩)
  show _ = va_rf (mm_adr old ρ (-(11 + 2 * (i2 : Int))))
  unfold mm_adr
  rw [if_pos (by omega)]
  rfl
theorem st_getC (F : mm_Fr D tys B old L0 scr p s m args meth c nL own cc mn rt) {a : Int} {i : Nat} (hw : Jvm.Cond.fieldLink own i "java/lang/String" "coder" "B" ∈ lw_g) (hd : decode cc pc = .ok (.getfield i, 3)) (hk : (w.1 a).1 = 14) (kk : mm_Wc D tys B old L0 scr p l e R s m args below meth c nL ρ0 w0 Q (pc + 3) L ((0, h a 1) :: st) w h) : mm_Wc D tys B old L0 scr p l e R s m args below meth c nL ρ0 w0 Q pc L ((2, a) :: st) w h := by
  intro ρ H locs ls sv hρ hH hS hL hst
  obtain ⟨v, sv, rfl, ⟨ha, rfl⟩, hs2⟩ := mm_SR_cons hst
  obtain ⟨i2, hi, rfl⟩ := mm_str_at hH hk
  obtain ⟨-, -, g3, -, -⟩ := hH.2.2.2.1.2.2.2.1 i2 hi
  rw [show mm_adr old ρ ((2, -(10 + 2 * (i2 : Int))) : mm_V).2 = some (old (-(10 + 2 * (i2 : Int)))) by show mm_adr old ρ (-(10 + 2 * (i2 : Int))) = _; unfold mm_adr; rw [if_pos (by omega)]]
  obtain ⟨-, hV, -, -⟩ := F.2.2.2.2.2.1.2.2.2.2.1.1 i2 hi
  rw [g3] at kk
  exact vk_getf F.1 F.2.1 hV hS F.2.2.2.1 (F.2.2.2.2.1 _ hw) (fun _ h => h) hd (kk ρ H locs ls (.int 0 :: sv) hρ hH hS hL ⟨⟨i32_z, rfl⟩, hs2⟩)
theorem mm_sw_tab (pc : Nat) {α : Type} (dflt : α) (k : Int → α) (x : Int) : ∀ (offs : List Int) (lo : Int), mm_sw x dflt k (mm_tsw pc lo offs) = if h : lo ≤ x ∧ x < lo + offs.length then k ((pc : Int) + offs[(x - lo).toNat]'(by omega)) else dflt
  | [], lo => by
    rw [mm_tsw, mm_sw, dif_neg (by simp; try omega)]
  | o :: os, lo => by
    rw [mm_tsw, mm_sw, mm_sw_tab pc dflt k x os (lo + 1)]
    unfold mEq
    by_cases e : x = lo
    · subst e
      rw [if_pos rfl, dif_pos (by simp; omega)]
      simp
    · rw [if_neg e]
      by_cases q : lo + 1 ≤ x ∧ x < lo + 1 + os.length
      · rw [dif_pos q, dif_pos (by simp; omega)]
        congr 2
        have : (x - lo).toNat = (x - (lo + 1)).toNat + 1 := by omega
        simp [this]
      · rw [dif_neg q, dif_neg (by simp; omega)]
theorem mm_sw_look (pc : Nat) {α : Type} (d : Int) (k : Int → α) (x : Int) : ∀ ps : List (Int × Int), mm_sw x (k ((pc : Int) + d)) k (ps.map (fun q => (q.1, (pc : Int) + q.2))) = k ((pc : Int) + Op.lookupswitch.offset ps d x)
  | [] => rfl
  | q :: ps => by
    rw [List.map_cons, mm_sw, mm_sw_look pc d k x ps]
    unfold mEq
    obtain ⟨a, o⟩ := q
    rw [Op.lookupswitch.offset]
    by_cases e : x = a
    · subst e; simp
    · have e2 : ¬ a = x := fun z => e z.symm
      simp [e, e2]
end MM
end
section
/-- what is known of a pool's entry -/
def mm_PK (own : String) (i : Nat) : Instr → Prop
  | .iconst n => Jvm.Cond.constant own i (Int32.ofInt n) ∈ lw_g
  | .jsr n => Jvm.Cond.constantLong own i (Int64.ofInt n) ∈ lw_g
  | .sipush n => ∃ (q : Nat) (tx : String), q < 12 ∧ n = -(10 + 2 * (q : Int)) ∧ mm_nth ("", 0, "") q mm_str = (own, i, tx)
  | .nop => Jvm.Cond.fieldLink own i "java/lang/String" "COMPACT_STRINGS" "Z" ∈ lw_g
  | .pop2 => Jvm.Cond.fieldLink own i "jdk/internal/util/Preconditions" "SIOOBE_FORMATTER" "Ljava/util/function/BiFunction;" ∈ lw_g
  | .getfield x => (∃ ci k, Nat.div x 256 = ci + 1 ∧ Nat.mod (Nat.div x 4) 64 = k ∧ Nat.mod x 4 = mm_ft (ci + 1) k ∧ mm_fOK own i ci k) ∨ (x = 3586 ∧ Jvm.Cond.fieldLink own i "java/lang/String" "value" "[B" ∈ lw_g) ∨ (x = 3588 ∧ Jvm.Cond.fieldLink own i "java/lang/String" "coder" "B" ∈ lw_g)
  | .putfield x => ∃ ci k C T N, Nat.div x 256 = ci + 1 ∧ Nat.mod (Nat.div x 4) 64 = k ∧ Nat.mod x 4 = mm_ft (ci + 1) k ∧ mm_fOK own i ci k ∧ mm_cls[ci]? = some (C, T, N) ∧ (T k).2.2.2 = false ∧ (T k).2.2.1 ≠ "Z"
  | .ret x => ∃ ci k C T N, Nat.div x 256 = ci + 1 ∧ Nat.mod (Nat.div x 4) 64 = k ∧ Nat.mod x 4 = mm_ft (ci + 1) k ∧ mm_fOK own i ci k ∧ mm_cls[ci]? = some (C, T, N) ∧ (T k).2.2.2 = true ∧ (T k).1 = own ∧ (T k).2.2.1 ≠ "Z"
  | .putstatic x => ∃ ci k C T N, Nat.div x 256 = ci + 1 ∧ Nat.mod (Nat.div x 4) 64 = k ∧ mm_ft (ci + 1) k = 0 ∧ mm_fOK own i ci k ∧ mm_cls[ci]? = some (C, T, N) ∧ (T k).2.2.2 = false ∧ (T k).2.2.1 = "Z"
  | .new x => ∃ ci, Nat.div x 64 = ci + 1 ∧ Nat.mod x 64 = mm_nf (ci + 1) ∧ mm_nOK own i ci
  | .anewarray k => (k = 107 ∧ Jvm.Cond.classLink own i "FewRectangles$Rule" ∈ lw_g) ∨ (k = 109 ∧ Jvm.Cond.classLink own i "FewRectangles$Sheet" ∈ lw_g) ∨ (k = 150 ∧ Jvm.Cond.classLink own i (FieldType.array .int).toString ∈ lw_g)
  | .daload => Jvm.Cond.methodLink own i arraycopyName ∈ lw_g
  | .dadd => Jvm.Cond.methodLink own i Lib.Math.max.name ∈ lw_g
  | .dsub => Jvm.Cond.methodLink own i Lib.Math.min.name ∈ lw_g
  | .pop => Jvm.Cond.methodLink own i Lib.objectInit ∈ lw_g
  | .invokestatic x => mm_cOK own i 0 (mm_inf (Nat.div x 65536)).1 (Nat.mod (Nat.div x 4096) 16)
  | .invokevirtual x => mm_cOK own i 1 (mm_inf (Nat.div x 65536)).1 (Nat.mod (Nat.div x 4096) 16) ∧ ((∃ ci, ∃ q : vw_C, mm_cls[ci]? = some q ∧ q.1 = (mm_inf (Nat.div x 65536)).1.cls ∧ Nat.mod x 256 = ci + 1) ∨ ((mm_inf (Nat.div x 65536)).1.cls = "java/lang/String" ∧ Nat.mod x 256 = 14))
  | .invokespecial x => mm_cOK own i 2 (mm_inf (Nat.div x 65536)).1 (Nat.mod (Nat.div x 4096) 16) ∧ (mm_inf (Nat.div x 65536)).2.2.2 = none ∧ ((∃ ci, ∃ q : vw_C, mm_cls[ci]? = some q ∧ q.1 = (mm_inf (Nat.div x 65536)).1.cls ∧ Nat.mod x 256 = ci + 1) ∨ ((mm_inf (Nat.div x 65536)).1.cls = "java/lang/String" ∧ Nat.mod x 256 = 14))
  | _ => True
/-- words that hold wherever -/
def mm_KW : Prop := Jvm.Cond.native arraycopyName ∈ lw_g ∧ Jvm.Cond.static arraycopyName ∈ lw_g ∧ Jvm.Cond.initialized "java/lang/System" ∈ lw_g ∧ Jvm.Cond.static Lib.Math.max.name ∈ lw_g ∧ Jvm.Cond.initialized "java/lang/Math" ∈ lw_g ∧ Jvm.Cond.code Lib.Math.max.name Lib.Math.max.code 2 (some .int) ∈ lw_g ∧ Jvm.Cond.static Lib.Math.min.name ∈ lw_g ∧ Jvm.Cond.code Lib.Math.min.name Lib.Math.min.code 2 (some .int) ∈ lw_g ∧ Jvm.Cond.instanceMethod Lib.objectInit ∈ lw_g ∧ Jvm.Cond.code Lib.objectInit ⟨#[0xb1]⟩ 1 none ∈ lw_g ∧ Jvm.Cond.arrayClass .int ∈ lw_g ∧ Jvm.Cond.arrayClass .short ∈ lw_g ∧ Jvm.Cond.arrayClass .boolean ∈ lw_g ∧ Jvm.Cond.arrayClass .long ∈ lw_g
def mm_le (w w2 : mm_W) : Prop := w.2.1 ≤ w2.2.1 ∧ w.2.2 ≤ w2.2.2
theorem mm_le_rf (w : mm_W) : mm_le w w := ⟨Int.le_refl _, Int.le_refl _⟩
theorem mm_le_tr {a b c : mm_W} (h1 : mm_le a b) (h2 : mm_le b c) : mm_le a c := ⟨Int.le_trans h1.1 h2.1, Int.le_trans h1.2 h2.2⟩
def mm_yw : mm_Y → mm_W
  | .inl r => r.2.1
  | .inr x => x.2.2.2.1
theorem ck1 {cc : ByteArray} {pc nx n k : Nat} {i : Instr} (h : (mm_is cc pc i n && Nat.beq nx k) = true) : decode cc pc = .ok (i, n) ∧ nx = k := by
  simp only [Bool.and_eq_true] at h
  exact ⟨mm_is_eq h.1, Nat.eq_of_beq_eq_true h.2⟩
theorem mm_ifT {α : Type} {b : Bool} {x y : Option α} {z : α} (h : mm_if b x y = some z) (hy : y = none) : b = true ∧ x = some z := by
  cases b with
  | true => exact ⟨rfl, h⟩
  | false => rw [show mm_if false x y = y from rfl, hy] at h; cases h
theorem mm_itT {α : Type} {c : Prop} [Decidable c] {x : Option α} {z : α} (h : (if c then x else none) = some z) : c ∧ x = some z := by
  by_cases q : c
  · rw [if_pos q] at h; exact ⟨q, h⟩
  · rw [if_neg q] at h; cases h
theorem mm_cl_eq {ci : Nat} {x y : vw_C} (h1 : mm_cls[ci]? = some x) (h2 : mm_cls[ci]? = some y) : x = y := Option.some.inj (h1.symm.trans h2)
theorem mm_okt_LR {old : Int → Nat} {ρ : List Nat} {nL : Nat} {tags : List Nat} {L : List mm_V} {ls : Array Slot} (hk : mm_okt tags 0 L = true) (h : mm_LR old ρ nL L ls) : mm_LR old ρ nL (mm_nrm tags 0 L) ls := by
  refine ⟨h.1, h.2.1, ?_⟩
  have key : ∀ (tags : List Nat) (k : Nat), mm_okt tags k L = true → ∀ (i : Nat) (v : mm_V), (mm_nrm tags k L)[i]? = some v → v.1 ≤ 3 → L[k + i]? = some v := by
    intro tags
    induction tags with
    | nil => intro k _ i v hv; simp [mm_nrm] at hv
    | cons t ts ih =>
      intro k hk i v hv h3
      simp only [mm_okt, Bool.and_eq_true, Bool.or_eq_true] at hk
      rw [mm_nrm] at hv
      cases i with
      | zero =>
        simp only [List.getElem?_cons_zero, Option.some.injEq] at hv
        cases h9 : Nat.beq t 9 with
        | true => rw [h9] at hv; subst hv; exact absurd h3 (by show ¬ (9 : Nat) ≤ 3; decide)
        | false =>
          rw [h9] at hv
          cases h8 : Nat.beq t 8 with
          | true => rw [h8] at hv; subst hv; exact absurd h3 (by show ¬ (8 : Nat) ≤ 3; decide)
          | false =>
            rw [h8] at hv
            have hv : (t, mP k L) = v := hv
            have ht : Nat.beq (mm_get k L).1 t = true := by
              rcases hk.1 with q | q | q
              · rw [h9] at q; cases q
              · rw [h8] at q; cases q
              · exact q
            have ht := Nat.eq_of_beq_eq_true ht
            have : mm_get k L = v := by
              rw [← hv]
              refine Prod.ext ht ?_
              show (mm_get k L).2 = mP k L
              rw [mm_get_eq]
              unfold mP
              rw [List.getD_eq_getElem?_getD]
            exact mm_get_at this h3
      | succ i =>
        simp only [List.getElem?_cons_succ] at hv
        have := ih (k + 1) hk.2 i v hv h3
        rw [show k + (i + 1) = k + 1 + i by omega]
        exact this
  intro i v hv h3
  have := key tags 0 hk i v hv h3
  rw [Nat.zero_add] at this
  exact h.2.2 i v this h3
section MM
variable {D : va_G} {tys : List (ClassId × FieldType)} {B : Nat} {old : Int → Nat} {L0 : Nat} {scr : Nat → Int32}
variable {p : Program} {l : Launch} {e : Env} {R : Room} {s : State} {m : MethodId} {args : Array Value} {below : List Frame} {meth : Method} {c : Code} {nL : Nat} {ρ0 : List Nat} {w0 : mm_W} {Q : State → Prop}
variable {own : String} {cc : ByteArray} {mn : String} {rt : Option FieldType} {pc : Nat} {L st : List mm_V} {w : mm_W} {h : mm_H} {nx : Nat} {tx : String}

variable {wC wS : Int} {rs : mm_R} {out : mm_Y} {lt : List mm_T} {pool : List (Nat × Instr)} {isI : Bool} {O : mm_O} {lp : mm_L} {hi : Nat} {tl : List (Nat × Instr)}
/-- what is owed behind a region -/
def mm_Ct (D : va_G) (tys : List (ClassId × FieldType)) (B : Nat) (old : Int → Nat) (L0 : Nat) (scr : Nat → Int32) (p : Program) (l : Launch) (e : Env) (R : Room) (s : State) (m : MethodId) (args : Array Value) (below : List Frame) (meth : Method) (c : Code) (nL : Nat) (ρ0 : List Nat) (w0 : mm_W) (Q : State → Prop) (rs : mm_R) : mm_Y → Prop
  | .inl r => r = rs
  | .inr x => mm_le x.2.2.2.1 rs.2.1 ∧ mm_Wc D tys B old L0 scr p l e R s m args below meth c nL ρ0 w0 Q x.1 x.2.1 x.2.2.1 x.2.2.2.1 x.2.2.2.2
def mm_GO (D : va_G) (tys : List (ClassId × FieldType)) (B : Nat) (old : Int → Nat) (L0 : Nat) (scr : Nat → Int32) (p : Program) (l : Launch) (e : Env) (R : Room) (s : State) (m : MethodId) (args : Array Value) (below : List Frame) (meth : Method) (c : Code) (nL : Nat) (ρ0 : List Nat) (w0 : mm_W) (Q : State → Prop) (rs : mm_R) (out : mm_Y) (pc : Nat) (L st : List mm_V) (w : mm_W) (h : mm_H) : Prop :=
  mm_le w (mm_yw out) ∧ (mm_Ct D tys B old L0 scr p l e R s m args below meth c nL ρ0 w0 Q rs out → mm_le w rs.2.1 ∧ mm_Wc D tys B old L0 scr p l e R s m args below meth c nL ρ0 w0 Q pc L st w h)
theorem mm_GO.step {pc2 : Nat} {L2 st2 : List mm_V} {w2 : mm_W} {h2 : mm_H} (g : mm_GO D tys B old L0 scr p l e R s m args below meth c nL ρ0 w0 Q rs out pc2 L2 st2 w2 h2) (hw : mm_le w w2) (k : mm_le w2 rs.2.1 → mm_Wc D tys B old L0 scr p l e R s m args below meth c nL ρ0 w0 Q pc2 L2 st2 w2 h2 → mm_Wc D tys B old L0 scr p l e R s m args below meth c nL ρ0 w0 Q pc L st w h) : mm_GO D tys B old L0 scr p l e R s m args below meth c nL ρ0 w0 Q rs out pc L st w h :=
  ⟨mm_le_tr hw g.1, fun hc => ⟨mm_le_tr hw (g.2 hc).1, k (g.2 hc).1 (g.2 hc).2⟩⟩
theorem mm_GO.one {pc2 : Nat} {L2 st2 : List mm_V} {h2 : mm_H} (g : mm_GO D tys B old L0 scr p l e R s m args below meth c nL ρ0 w0 Q rs out pc2 L2 st2 w h2) (k : mm_Wc D tys B old L0 scr p l e R s m args below meth c nL ρ0 w0 Q pc2 L2 st2 w h2 → mm_Wc D tys B old L0 scr p l e R s m args below meth c nL ρ0 w0 Q pc L st w h) : mm_GO D tys B old L0 scr p l e R s m args below meth c nL ρ0 w0 Q rs out pc L st w h := g.step (mm_le_rf _) (fun _ => k)
theorem mm_GO.two {q : Prop} {pc2 pc3 : Nat} {L2 st2 : List mm_V} {h2 : mm_H} (gt : q → mm_GO D tys B old L0 scr p l e R s m args below meth c nL ρ0 w0 Q rs out pc2 L2 st2 w h2) (gf : ¬ q → mm_GO D tys B old L0 scr p l e R s m args below meth c nL ρ0 w0 Q rs out pc3 L2 st2 w h2) (k : (q → mm_Wc D tys B old L0 scr p l e R s m args below meth c nL ρ0 w0 Q pc2 L2 st2 w h2) → (¬ q → mm_Wc D tys B old L0 scr p l e R s m args below meth c nL ρ0 w0 Q pc3 L2 st2 w h2) → mm_Wc D tys B old L0 scr p l e R s m args below meth c nL ρ0 w0 Q pc L st w h) : mm_GO D tys B old L0 scr p l e R s m args below meth c nL ρ0 w0 Q rs out pc L st w h := by
  by_cases hq : q
  · exact ⟨(gt hq).1, fun hc => ⟨((gt hq).2 hc).1, k (fun _ => ((gt hq).2 hc).2) (fun z => absurd hq z)⟩⟩
  · exact ⟨(gf hq).1, fun hc => ⟨((gf hq).2 hc).1, k (fun z => absurd z hq) (fun _ => ((gf hq).2 hc).2)⟩⟩
/-- room for what is made -/
def mm_Rm (R : Room) (ρ0 : List Nat) (w0 : mm_W) (wf : mm_W) : Prop := (wf.2.1 - w0.2.1).toNat ≤ R.cells ∧ (wf.2.2 - w0.2.2).toNat ≤ R.slots
theorem mm_Rm_le {w2 wf : mm_W} (h : mm_Rm R ρ0 w0 wf) (hl : mm_le w2 wf) : (w2.2.1 - w0.2.1).toNat ≤ R.cells ∧ (w2.2.2 - w0.2.2).toNat ≤ R.slots := by
  obtain ⟨h1, h2⟩ := h
  obtain ⟨h3, h4⟩ := hl
  exact ⟨by omega, by omega⟩
end MM
end
section
/-! From the check to the step, one by one. -/
theorem mm_an {a b : Bool} (h : (a && b) = true) : a = true ∧ b = true := by simpa using h
theorem mm_blt {a b : Nat} (h : Nat.blt a b = true) : a < b := Nat.le_of_ble_eq_true h
theorem mm_tg {pc : Nat} {off t : Int} (h : (pc : Int) + off = t ∧ 0 ≤ t) : (pc : Int) + off = ((t.toNat : Nat) : Int) := by omega
section MM
variable {D : va_G} {tys : List (ClassId × FieldType)} {B : Nat} {old : Int → Nat} {L0 : Nat} {scr : Nat → Int32}
variable {p : Program} {l : Launch} {e : Env} {R : Room} {s : State} {m : MethodId} {args : Array Value} {below : List Frame} {meth : Method} {c : Code} {nL : Nat} {ρ0 : List Nat} {w0 : mm_W} {Q : State → Prop}
variable {own : String} {cc : ByteArray} {mn : String} {rt : Option FieldType} {pc : Nat} {L st : List mm_V} {w : mm_W} {h : mm_H} {nx : Nat} {tx : String}

variable {lt : List mm_T} {pool : List (Nat × Instr)} {isI : Bool}
theorem sg_iconst (F : mm_Fr D tys B old L0 scr p s m args meth c nL own cc mn rt) (hp : ∀ q ∈ pool, mm_PK own q.1 q.2) {n : Int} (hc : mm_ck lt pool isI rt cc nL pc nx (.iconst n) = true) (k : mm_Wc D tys B old L0 scr p l e R s m args below meth c nL ρ0 w0 Q nx L ((0, n) :: st) w h) : mm_Wc D tys B old L0 scr p l e R s m args below meth c nL ρ0 w0 Q pc L st w h := by
  unfold mm_ck at hc
  obtain ⟨hn, hc⟩ := mm_an hc
  have hn := of_decide_eq_true hn
  rcases (Bool.or_eq_true _ _).mp hc with hc | hc
  · obtain ⟨h1, h2⟩ := mm_an hc
    have h2 := Nat.eq_of_beq_eq_true h2
    exact st_const F hn (Or.inl ⟨by rw [h2, show pc + 1 - pc = 1 by omega]; exact mm_is_eq h1, h2⟩) k
  rcases (Bool.or_eq_true _ _).mp hc with hc | hc
  · obtain ⟨h1, h2⟩ := mm_an hc
    obtain ⟨h2, h3⟩ := mm_an h2
    have h3 := of_decide_eq_true h3
    exact st_const F hn (Or.inr (Or.inl ⟨mm_is_eq h1, Nat.eq_of_beq_eq_true h2, h3.1, h3.2⟩)) k
  rcases (Bool.or_eq_true _ _).mp hc with hc | hc
  · obtain ⟨h1, h2⟩ := mm_an hc
    obtain ⟨h2, h3⟩ := mm_an h2
    have h3 := of_decide_eq_true h3
    exact st_const F hn (Or.inr (Or.inr ⟨mm_is_eq h1, Nat.eq_of_beq_eq_true h2, h3.1, h3.2⟩)) k
  split at hc
  · next i e =>
    obtain ⟨h1, h2⟩ := mm_an hc
    exact st_ldc F hn (hp _ (mm_has_mem h1)) (Or.inl ⟨mm_op_eq e (by decide), Nat.eq_of_beq_eq_true h2⟩) k
  · next i e =>
    obtain ⟨h1, h2⟩ := mm_an hc
    exact st_ldc F hn (hp _ (mm_has_mem h1)) (Or.inr ⟨mm_op_eq e (by decide), Nat.eq_of_beq_eq_true h2⟩) k
  · next i e =>
    obtain ⟨h0, h1⟩ := mm_an hc
    obtain ⟨h1, h2⟩ := mm_an h1
    have h0 := of_decide_eq_true h0
    subst h0
    rw [Nat.eq_of_beq_eq_true h2] at k
    exact st_getsI F (hp _ (mm_has_mem h1)) (mm_op_eq e (by decide)) k
  · cases hc
theorem sg_jsr (F : mm_Fr D tys B old L0 scr p s m args meth c nL own cc mn rt) (hp : ∀ q ∈ pool, mm_PK own q.1 q.2) {n : Int} (hc : mm_ck lt pool isI rt cc nL pc nx (.jsr n) = true) (k : mm_Wc D tys B old L0 scr p l e R s m args below meth c nL ρ0 w0 Q nx L ((1, n) :: st) w h) : mm_Wc D tys B old L0 scr p l e R s m args below meth c nL ρ0 w0 Q pc L st w h := by
  unfold mm_ck at hc
  obtain ⟨hn, hc⟩ := mm_an hc
  have hn := of_decide_eq_true hn
  split at hc
  · next q e =>
    obtain ⟨h1, h2⟩ := mm_an hc
    have h1 := of_decide_eq_true h1
    rw [Nat.eq_of_beq_eq_true h2, ← h1] at k
    exact st_lconst F (mm_op_eq e (by decide)) k
  · next i e =>
    obtain ⟨h1, h2⟩ := mm_an hc
    rw [Nat.eq_of_beq_eq_true h2] at k
    exact st_ldc2 F hn (hp _ (mm_has_mem h1)) (mm_op_eq e (by decide)) k
  · cases hc
theorem sg_sipush (F : mm_Fr D tys B old L0 scr p s m args meth c nL own cc mn rt) (hp : ∀ q ∈ pool, mm_PK own q.1 q.2) {n : Int} (hc : mm_ck lt pool isI rt cc nL pc nx (.sipush n) = true) (k : mm_Wc D tys B old L0 scr p l e R s m args below meth c nL ρ0 w0 Q nx L ((2, n) :: st) w h) : mm_Wc D tys B old L0 scr p l e R s m args below meth c nL ρ0 w0 Q pc L st w h := by
  unfold mm_ck at hc
  rcases (Bool.or_eq_true _ _).mp hc with hc | hc
  · obtain ⟨h0, h1⟩ := mm_an hc
    obtain ⟨h1, h2⟩ := mm_an h1
    have h0 := of_decide_eq_true h0
    subst h0
    rw [Nat.eq_of_beq_eq_true h2] at k
    exact st_null F (mm_is_eq h1) k
  split at hc
  · next i e =>
    obtain ⟨h1, h2⟩ := mm_an hc
    rw [Nat.eq_of_beq_eq_true h2] at k
    obtain ⟨q, tx, hq, rfl, hw⟩ := hp _ (mm_has_mem h1)
    exact st_ldcS F hq hw (mm_op_eq e (by decide)) k
  · cases hc
theorem sg_getstatic (F : mm_Fr D tys B old L0 scr p s m args meth c nL own cc mn rt) (hp : ∀ q ∈ pool, mm_PK own q.1 q.2) {n : Nat} (hc : mm_ck lt pool isI rt cc nL pc nx (.getstatic n) = true) (k : mm_Wc D tys B old L0 scr p l e R s m args below meth c nL ρ0 w0 Q nx L ((3, 0) :: st) w h) : mm_Wc D tys B old L0 scr p l e R s m args below meth c nL ρ0 w0 Q pc L st w h := by
  unfold mm_ck at hc
  dsimp only at hc
  split at hc
  · next i e =>
    obtain ⟨h1, h2⟩ := mm_an hc
    rw [Nat.eq_of_beq_eq_true h2] at k
    exact st_getsR F (hp _ (mm_has_mem h1)) (mm_op_eq e (by decide)) k
  · cases hc
theorem ck_iload {n : Nat} (hc : mm_ck lt pool isI rt cc nL pc nx (.iload n) = true) : (decode cc pc = .ok (.iload n, 2) ∧ nx = pc + 2) ∨ (∃ k : Fin 4, decode cc pc = .ok (.iload_n k, 1) ∧ (k : Nat) = n ∧ nx = pc + 1) := by
  unfold mm_ck at hc
  rcases (Bool.or_eq_true _ _).mp hc with hc | hc
  · obtain ⟨h1, h2⟩ := mm_an hc
    exact Or.inl ⟨mm_is_eq h1, Nat.eq_of_beq_eq_true h2⟩
  split at hc
  · next i e =>
    obtain ⟨h1, h2⟩ := mm_an hc
    exact Or.inr ⟨i, mm_op_eq e (by decide), Nat.eq_of_beq_eq_true h1, Nat.eq_of_beq_eq_true h2⟩
  · cases hc
theorem ck_lload {n : Nat} (hc : mm_ck lt pool isI rt cc nL pc nx (.lload n) = true) : (decode cc pc = .ok (.lload n, 2) ∧ nx = pc + 2) ∨ (∃ k : Fin 4, decode cc pc = .ok (.lload_n k, 1) ∧ (k : Nat) = n ∧ nx = pc + 1) := by
  unfold mm_ck at hc
  rcases (Bool.or_eq_true _ _).mp hc with hc | hc
  · obtain ⟨h1, h2⟩ := mm_an hc
    exact Or.inl ⟨mm_is_eq h1, Nat.eq_of_beq_eq_true h2⟩
  split at hc
  · next i e =>
    obtain ⟨h1, h2⟩ := mm_an hc
    exact Or.inr ⟨i, mm_op_eq e (by decide), Nat.eq_of_beq_eq_true h1, Nat.eq_of_beq_eq_true h2⟩
  · cases hc
theorem ck_aload {n : Nat} (hc : mm_ck lt pool isI rt cc nL pc nx (.aload n) = true) : (decode cc pc = .ok (.aload n, 2) ∧ nx = pc + 2) ∨ (∃ k : Fin 4, decode cc pc = .ok (.aload_n k, 1) ∧ (k : Nat) = n ∧ nx = pc + 1) := by
  unfold mm_ck at hc
  rcases (Bool.or_eq_true _ _).mp hc with hc | hc
  · obtain ⟨h1, h2⟩ := mm_an hc
    exact Or.inl ⟨mm_is_eq h1, Nat.eq_of_beq_eq_true h2⟩
  split at hc
  · next i e =>
    obtain ⟨h1, h2⟩ := mm_an hc
    exact Or.inr ⟨i, mm_op_eq e (by decide), Nat.eq_of_beq_eq_true h1, Nat.eq_of_beq_eq_true h2⟩
  · cases hc
theorem ck_istore {n : Nat} (hc : mm_ck lt pool isI rt cc nL pc nx (.istore n) = true) : n < nL ∧ ((decode cc pc = .ok (.istore n, 2) ∧ nx = pc + 2) ∨ (∃ k : Fin 4, decode cc pc = .ok (.istore_n k, 1) ∧ (k : Nat) = n ∧ nx = pc + 1)) := by
  unfold mm_ck at hc
  obtain ⟨hn, hc⟩ := mm_an hc
  refine ⟨mm_blt hn, ?_⟩
  rcases (Bool.or_eq_true _ _).mp hc with hc | hc
  · obtain ⟨h1, h2⟩ := mm_an hc
    exact Or.inl ⟨mm_is_eq h1, Nat.eq_of_beq_eq_true h2⟩
  split at hc
  · next i e =>
    obtain ⟨h1, h2⟩ := mm_an hc
    exact Or.inr ⟨i, mm_op_eq e (by decide), Nat.eq_of_beq_eq_true h1, Nat.eq_of_beq_eq_true h2⟩
  · cases hc
theorem ck_astore {n : Nat} (hc : mm_ck lt pool isI rt cc nL pc nx (.astore n) = true) : n < nL ∧ ((decode cc pc = .ok (.astore n, 2) ∧ nx = pc + 2) ∨ (∃ k : Fin 4, decode cc pc = .ok (.astore_n k, 1) ∧ (k : Nat) = n ∧ nx = pc + 1)) := by
  unfold mm_ck at hc
  obtain ⟨hn, hc⟩ := mm_an hc
  refine ⟨mm_blt hn, ?_⟩
  rcases (Bool.or_eq_true _ _).mp hc with hc | hc
  · obtain ⟨h1, h2⟩ := mm_an hc
    exact Or.inl ⟨mm_is_eq h1, Nat.eq_of_beq_eq_true h2⟩
  split at hc
  · next i e =>
    obtain ⟨h1, h2⟩ := mm_an hc
    exact Or.inr ⟨i, mm_op_eq e (by decide), Nat.eq_of_beq_eq_true h1, Nat.eq_of_beq_eq_true h2⟩
  · cases hc
theorem ck_lstore {n : Nat} (hc : mm_ck lt pool isI rt cc nL pc nx (.lstore n) = true) : n + 1 < nL ∧ ((decode cc pc = .ok (.lstore n, 2) ∧ nx = pc + 2) ∨ (∃ k : Fin 4, decode cc pc = .ok (.lstore_n k, 1) ∧ (k : Nat) = n ∧ nx = pc + 1)) := by
  unfold mm_ck at hc
  obtain ⟨hn, hc⟩ := mm_an hc
  refine ⟨mm_blt hn, ?_⟩
  rcases (Bool.or_eq_true _ _).mp hc with hc | hc
  · obtain ⟨h1, h2⟩ := mm_an hc
    exact Or.inl ⟨mm_is_eq h1, Nat.eq_of_beq_eq_true h2⟩
  split at hc
  · next i e =>
    obtain ⟨h1, h2⟩ := mm_an hc
    exact Or.inr ⟨i, mm_op_eq e (by decide), Nat.eq_of_beq_eq_true h1, Nat.eq_of_beq_eq_true h2⟩
  · cases hc
theorem ck_iinc {n : Nat} {y : Int} (hc : mm_ck lt pool isI rt cc nL pc nx (.iinc n y) = true) : n < nL ∧ decode cc pc = .ok (.iinc n y, 3) ∧ nx = pc + 3 := by
  unfold mm_ck at hc
  obtain ⟨hn, hc⟩ := mm_an hc
  obtain ⟨h1, h2⟩ := mm_an hc
  exact ⟨mm_blt hn, mm_is_eq h1, Nat.eq_of_beq_eq_true h2⟩
theorem ck_goto {t : Int} (hc : mm_ck lt pool isI rt cc nL pc nx (.goto t) = true) : ∃ off, decode cc pc = .ok (.goto off, 3) ∧ (pc : Int) + off = ((t.toNat : Nat) : Int) := by
  unfold mm_ck at hc
  dsimp only at hc
  split at hc
  · next off e => exact ⟨off, mm_op_eq e (by decide), mm_tg (of_decide_eq_true hc)⟩
  · cases hc
theorem ck_icmp {q : Jvm.ClassFile.Cond} {t : Int} (hc : mm_ck lt pool isI rt cc nL pc nx (.if_icmp q t) = true) : ∃ off, decode cc pc = .ok (.if_icmp q off, 3) ∧ (pc : Int) + off = ((t.toNat : Nat) : Int) ∧ nx = pc + 3 := by
  unfold mm_ck at hc
  dsimp only at hc
  split at hc
  · next c2 off e =>
    obtain ⟨h0, h1⟩ := mm_an hc
    obtain ⟨h1, h2⟩ := mm_an h1
    have h0 := of_decide_eq_true h0
    subst h0
    exact ⟨off, mm_op_eq e (by decide), mm_tg (of_decide_eq_true h1), Nat.eq_of_beq_eq_true h2⟩
  · cases hc
theorem ck_if {q : Jvm.ClassFile.Cond} {t : Int} (hc : mm_ck lt pool isI rt cc nL pc nx (.ifCond q t) = true) : ∃ off, decode cc pc = .ok (.ifCond q off, 3) ∧ (pc : Int) + off = ((t.toNat : Nat) : Int) ∧ nx = pc + 3 := by
  unfold mm_ck at hc
  dsimp only at hc
  split at hc
  · next c2 off e =>
    obtain ⟨h0, h1⟩ := mm_an hc
    obtain ⟨h1, h2⟩ := mm_an h1
    have h0 := of_decide_eq_true h0
    subst h0
    exact ⟨off, mm_op_eq e (by decide), mm_tg (of_decide_eq_true h1), Nat.eq_of_beq_eq_true h2⟩
  · cases hc
theorem ck_null {t : Int} (hc : mm_ck lt pool isI rt cc nL pc nx (.ifnull t) = true) : ∃ off, decode cc pc = .ok (.ifnull off, 3) ∧ (pc : Int) + off = ((t.toNat : Nat) : Int) ∧ nx = pc + 3 := by
  unfold mm_ck at hc
  dsimp only at hc
  split at hc
  · next off e =>
    obtain ⟨h1, h2⟩ := mm_an hc
    exact ⟨off, mm_op_eq e (by decide), mm_tg (of_decide_eq_true h1), Nat.eq_of_beq_eq_true h2⟩
  · cases hc
theorem ck_nonnull {t : Int} (hc : mm_ck lt pool isI rt cc nL pc nx (.ifnonnull t) = true) : ∃ off, decode cc pc = .ok (.ifnonnull off, 3) ∧ (pc : Int) + off = ((t.toNat : Nat) : Int) ∧ nx = pc + 3 := by
  unfold mm_ck at hc
  dsimp only at hc
  split at hc
  · next off e =>
    obtain ⟨h1, h2⟩ := mm_an hc
    exact ⟨off, mm_op_eq e (by decide), mm_tg (of_decide_eq_true h1), Nat.eq_of_beq_eq_true h2⟩
  · cases hc
end MM
end
section
/-! From the check to the step: switches, fields, calls. -/
section MM
variable {D : va_G} {tys : List (ClassId × FieldType)} {B : Nat} {old : Int → Nat} {L0 : Nat} {scr : Nat → Int32}
variable {p : Program} {l : Launch} {e : Env} {R : Room} {s : State} {m : MethodId} {args : Array Value} {below : List Frame} {meth : Method} {c : Code} {nL : Nat} {ρ0 : List Nat} {w0 : mm_W} {Q : State → Prop}
variable {own : String} {cc : ByteArray} {mn : String} {rt : Option FieldType} {pc : Nat} {L st : List mm_V} {w : mm_W} {h : mm_H} {nx : Nat} {tx : String}

variable {lt : List mm_T} {pool : List (Nat × Instr)} {isI : Bool}
theorem st_look (F : mm_Fr D tys B old L0 scr p s m args meth c nL own cc mn rt) {x d : Int} {ps : Array (Int × Int)} {len t : Nat} (hd : decode cc pc = .ok (.lookupswitch d ps, len)) (hs : (ps.toList.zip (ps.toList.drop 1)).all (fun (a, next) => decide (a.1 < next.1)) = true) (ht : (pc : Int) + Op.lookupswitch.offset ps.toList d x = (t : Int)) (k : mm_Wc D tys B old L0 scr p l e R s m args below meth c nL ρ0 w0 Q t L st w h) : mm_Wc D tys B old L0 scr p l e R s m args below meth c nL ρ0 w0 Q pc L ((0, x) :: st) w h := by
  intro ρ H locs ls sv hρ hH hS hL hst
  obtain ⟨v, sv, rfl, ⟨hx, rfl⟩, hst2⟩ := mm_SR_cons hst
  have kk := k ρ H locs ls sv hρ hH hS hL hst2
  intro T hT X
  obtain ⟨t1, a, b⟩ := kk T hT X
  refine ⟨t1, ?_, b⟩
  have hexec := F.1
  have hb := F.2.1
  have hx := i32_o hx
  jvm_step X.here [X.here.top, hexec, hb, hd, Op.lookupswitch.wp_chain, hx]
  refine ⟨by simpa using hs, fun acts => ?_⟩
  rw [afterInstr_branch e len _ acts _ X.here.top (by show 0 ≤ (pc : Int) + _; omega)]
  rw [show (((pc : Int) + Op.lookupswitch.offset ps.toList d x).toNat) = t by omega]
  exact a
theorem st_tab (F : mm_Fr D tys B old L0 scr p s m args meth c nL own cc mn rt) {x d lo hi : Int} {offs : Array Int} {len t : Nat} (hd : decode cc pc = .ok (.tableswitch d lo hi offs, len)) (hq : hi + 1 = lo + (offs.size : Int)) (ht : (∃ o, offs[(x - lo).toNat]? = some o ∧ lo ≤ x ∧ x ≤ hi ∧ (pc : Int) + o = (t : Int)) ∨ ((x < lo ∨ hi < x) ∧ (pc : Int) + d = (t : Int))) (k : mm_Wc D tys B old L0 scr p l e R s m args below meth c nL ρ0 w0 Q t L st w h) : mm_Wc D tys B old L0 scr p l e R s m args below meth c nL ρ0 w0 Q pc L ((0, x) :: st) w h := by
  intro ρ H locs ls sv hρ hH hS hL hst
  obtain ⟨v, sv, rfl, ⟨hx, rfl⟩, hst2⟩ := mm_SR_cons hst
  have kk := k ρ H locs ls sv hρ hH hS hL hst2
  intro T hT X
  obtain ⟨t1, a, b⟩ := kk T hT X
  refine ⟨t1, ?_, b⟩
  have hexec := F.1
  have hb := F.2.1
  have hx := i32_o hx
  rcases ht with ⟨o, ho, h1, h2, ht⟩ | ⟨hout, ht⟩
  · have hin : ¬ (x < lo ∨ x > hi) := by omega
    jvm_step X.here [X.here.top, hexec, hb, hd, Op.tableswitch.wp_sem, hx, hin, ho]
    intro acts
    rw [afterInstr_branch e len _ acts _ X.here.top (by show 0 ≤ (pc : Int) + _; omega)]
    rw [show (((pc : Int) + o).toNat) = t by omega]
    exact a
  · have hout : x < lo ∨ x > hi := by omega
    jvm_step X.here [X.here.top, hexec, hb, hd, Op.tableswitch.wp_sem, hx, hout]
    intro acts
    rw [afterInstr_branch e len _ acts _ X.here.top (by show 0 ≤ (pc : Int) + _; omega)]
    rw [show (((pc : Int) + d).toNat) = t by omega]
    exact a
theorem mm_sw_id {α : Type} (x d : Int) (k : Int → α) : ∀ ps : List (Int × Int), mm_sw x (k d) k ps = k (mm_sw x d (fun t => t) ps)
  | [] => rfl
  | q :: ps => by
    rw [mm_sw, mm_sw, mm_sw_id x d k ps]
    unfold mEq
    split <;> rfl
theorem mm_sw_nn (x d : Int) (hd : 0 ≤ d) : ∀ ps : List (Int × Int), (∀ q ∈ ps, 0 ≤ q.2) → 0 ≤ mm_sw x d (fun t => t) ps
  | [], _ => hd
  | q :: ps, hp => by
    rw [mm_sw]
    unfold mEq
    split
    · exact hp q List.mem_cons_self
    · exact mm_sw_nn x d hd ps (fun r hr => hp r (List.mem_cons_of_mem _ hr))
theorem sg_switch (F : mm_Fr D tys B old L0 scr p s m args meth c nL own cc mn rt) {x d : Int} {ps : Array (Int × Int)} (hc : mm_ck lt pool isI rt cc nL pc nx (.lookupswitch d ps) = true) (k : mm_Wc D tys B old L0 scr p l e R s m args below meth c nL ρ0 w0 Q ((mm_sw x d (fun t => t) ps.toList).toNat) L st w h) : mm_Wc D tys B old L0 scr p l e R s m args below meth c nL ρ0 w0 Q pc L ((0, x) :: st) w h := by
  unfold mm_ck at hc
  obtain ⟨h0, hc⟩ := mm_an hc
  obtain ⟨h1, hc⟩ := mm_an hc
  have h0 := of_decide_eq_true h0
  have h1 : ∀ q ∈ ps.toList, 0 ≤ q.2 := fun q hq => of_decide_eq_true (List.all_eq_true.mp h1 q hq)
  have hn := mm_sw_nn x d h0 ps.toList h1
  split at hc
  · next d2 lo hi offs len e =>
    obtain ⟨h2, h3⟩ := mm_an hc
    obtain ⟨g1, g2, g3⟩ := of_decide_eq_true h2
    have h3 := of_decide_eq_true h3
    have hs := mm_sw_tab pc d (fun t => t) x offs.toList lo
    rw [← h3] at hs
    refine st_tab F (mm_op_eq e g3) g2 ?_ k
    by_cases q : lo ≤ x ∧ x < lo + offs.toList.length
    · rw [dif_pos q] at hs
      have hq : x < lo + (offs.size : Int) := by simpa using q.2
      refine Or.inl ⟨offs.toList[(x - lo).toNat]'(by omega), ?_, q.1, by omega, ?_⟩
      · rw [← Array.getElem?_toList]
        exact List.getElem?_eq_getElem _
      · rw [← hs]; omega
    · rw [dif_neg q] at hs
      refine Or.inr ⟨?_, ?_⟩
      · have hq : ¬ (lo ≤ x ∧ x < lo + (offs.size : Int)) := by simpa using q
        omega
      · rw [hs] at hn ⊢; omega
  · next d2 ps2 len e =>
    obtain ⟨h2, h3⟩ := mm_an hc
    obtain ⟨h3, h4⟩ := mm_an h3
    obtain ⟨g1, g2⟩ := of_decide_eq_true h2
    have h3 := of_decide_eq_true h3
    have hs := mm_sw_look pc d2 (fun t => t) x ps2.toList
    rw [← h3, g1] at hs
    refine st_look F (mm_op_eq e g2) h4 ?_ k
    rw [hs] at hn ⊢; omega
  · cases hc
theorem sg_getfield (F : mm_Fr D tys B old L0 scr p s m args meth c nL own cc mn rt) (hp : ∀ q ∈ pool, mm_PK own q.1 q.2) {a : Int} {x : Nat} (hc : mm_ck lt pool isI rt cc nL pc nx (.getfield x) = true) (hk : (w.1 a).1 = Nat.div x 256) (k : mm_Wc D tys B old L0 scr p l e R s m args below meth c nL ρ0 w0 Q nx L ((Nat.mod x 4, h a (Int.ofNat (Nat.mod (Nat.div x 4) 64))) :: st) w h) : mm_Wc D tys B old L0 scr p l e R s m args below meth c nL ρ0 w0 Q pc L ((2, a) :: st) w h := by
  unfold mm_ck at hc
  dsimp only at hc
  split at hc
  · next i e =>
    obtain ⟨h1, h2⟩ := mm_an hc
    rw [Nat.eq_of_beq_eq_true h2] at k
    rcases hp _ (mm_has_mem h1) with ⟨ci, j, g1, g2, g3, g4⟩ | ⟨rfl, g4⟩ | ⟨rfl, g4⟩
    · rw [g2, g3] at k
      exact st_getfield F g4 (mm_op_eq e (by decide)) (hk.trans g1) k
    · exact st_getS F g4 (mm_op_eq e (by decide)) hk k
    · exact st_getC F g4 (mm_op_eq e (by decide)) hk k
  · cases hc
def mm_tyok (t : Nat) (d : String) : Bool := match t with
  | 0 => d == "I" || d == "Z"
  | 1 => d == "J"
  | 2 => (match parseFieldDescriptor d with
    | some (.object _) => true
    | some (.array _) => true
    | _ => false)
  | _ => false
theorem mm_tyall : (List.range 13).all (fun ci => match mm_cls[ci]? with
  | some q => (List.range (mm_nf (ci + 1))).all (fun k => mm_tyok (mm_ft (ci + 1) k) (q.2.1 k).2.2.1)
  | none => false) = true := by decide +kernel
theorem mm_ty_at {ci k : Nat} {C : String} {T : u_T} {N : Nat} (h1 : mm_cls[ci]? = some (C, T, N)) (hk : k < mm_nf (ci + 1)) : mm_tyok (mm_ft (ci + 1) k) (T k).2.2.1 = true := by
  have := List.all_eq_true.mp mm_tyall ci (List.mem_range.mpr (mm_cls_lt h1))
  rw [h1] at this
  exact List.all_eq_true.mp this k (List.mem_range.mpr hk)
theorem mm_fit_at {t : Nat} {d : String} {ty : FieldType} {z : Int} {v : Value} {ρ : List Nat} (ht : mm_tyok t d = true) (hd : parseFieldDescriptor d = some ty) (hz : d = "Z" → z = 0 ∨ z = 1) (hv : mm_VR old ρ (t, z) v) : mm_fits ty v := by
  unfold mm_tyok at ht
  split at ht
  · obtain ⟨-, rfl⟩ := hv
    rcases (Bool.or_eq_true _ _).mp ht with q | q
    · have q := eq_of_beq q
      subst q
      have : ty = .int := by rw [show parseFieldDescriptor "I" = some .int by decide +kernel] at hd; exact (Option.some.inj hd).symm
      subst this
      exact ⟨rfl, rfl⟩
    · have q := eq_of_beq q
      subst q
      have : ty = .boolean := by rw [show parseFieldDescriptor "Z" = some .boolean by decide +kernel] at hd; exact (Option.some.inj hd).symm
      subst this
      rcases hz rfl with rfl | rfl
      · exact ⟨rfl, rfl⟩
      · exact ⟨rfl, rfl⟩
  · obtain ⟨-, rfl⟩ := hv
    have q := eq_of_beq ht
    subst q
    have : ty = .long := by rw [show parseFieldDescriptor "J" = some .long by decide +kernel] at hd; exact (Option.some.inj hd).symm
    subst this
    exact ⟨rfl, rfl⟩
  · obtain ⟨-, rfl⟩ := hv
    rw [hd] at ht
    split at ht
    · next q =>
      cases q
      cases mm_adr old ρ z <;> exact ⟨rfl, rfl⟩
    · next q =>
      cases q
      cases mm_adr old ρ z <;> exact ⟨rfl, rfl⟩
    · cases ht
  · cases ht
theorem sg_putfield (F : mm_Fr D tys B old L0 scr p s m args meth c nL own cc mn rt) (hp : ∀ q ∈ pool, mm_PK own q.1 q.2) (hI : isI = true → mn = "<init>") {a z : Int} {x t : Nat} (ht : t = Nat.mod x 4) (hz : t = 2 → 0 ≤ z) (hc : mm_ck lt pool isI rt cc nL pc nx (.putfield x) = true) (hk : (w.1 a).1 = Nat.div x 256) (k : mm_Wc D tys B old L0 scr p l e R s m args below meth c nL ρ0 w0 Q nx L st w (mUp h a (Int.ofNat (Nat.mod (Nat.div x 4) 64)) z)) : mm_Wc D tys B old L0 scr p l e R s m args below meth c nL ρ0 w0 Q pc L ((t, z) :: (2, a) :: st) w h := by
  unfold mm_ck at hc
  dsimp only at hc
  split at hc
  · next i e =>
    obtain ⟨h1, h2⟩ := mm_an hc
    rw [Nat.eq_of_beq_eq_true h2] at k
    rcases (Bool.or_eq_true _ _).mp h1 with h1 | h1
    · obtain ⟨ci, j, C, T, N, g1, g2, g3, g4, g5, g6, g7⟩ := hp _ (mm_has_mem h1)
      rw [g2] at k
      have hj : j < mm_nf (ci + 1) := by obtain ⟨C2, T2, N2, ty, q1, q2, q3, -⟩ := g4; omega
      have hty := mm_ty_at g5 hj
      refine st_putg F g4 (fun C2 T2 N2 q => ?_) (mm_op_eq e (by decide)) (hk.trans g1) (t := t) (by rw [ht, g3]) (fun C2 T2 N2 ty q hq ρ v hv => ?_) ?_ hz k
      · cases mm_cl_eq g5 q; exact Or.inl g6
      · cases mm_cl_eq g5 q
        rw [ht, g3] at hv
        exact mm_fit_at hty hq (fun q => absurd q g7) hv
      · rw [ht, g3]
        unfold mm_tyok at hty
        split at hty
        · omega
        · omega
        · omega
        · cases hty
    · obtain ⟨h0, h1⟩ := mm_an h1
      obtain ⟨ci, j, C, T, N, g1, g2, g3, g4, g5, g6, g6b, g7⟩ := hp _ (mm_has_mem h1)
      rw [g2] at k
      have hj : j < mm_nf (ci + 1) := by obtain ⟨C2, T2, N2, ty, q1, q2, q3, -⟩ := g4; omega
      have hty := mm_ty_at g5 hj
      refine st_putg F g4 (fun C2 T2 N2 q => ?_) (mm_op_eq e (by decide)) (hk.trans g1) (t := t) (by rw [ht, g3]) (fun C2 T2 N2 ty q hq ρ v hv => ?_) ?_ hz k
      · cases mm_cl_eq g5 q; exact Or.inr ⟨g6, hI h0, g6b⟩
      · cases mm_cl_eq g5 q
        rw [ht, g3] at hv
        exact mm_fit_at hty hq (fun q => absurd q g7) hv
      · rw [ht, g3]
        unfold mm_tyok at hty
        split at hty
        · omega
        · omega
        · omega
        · cases hty
  · cases hc
theorem sg_putstatic (F : mm_Fr D tys B old L0 scr p s m args meth c nL own cc mn rt) (hp : ∀ q ∈ pool, mm_PK own q.1 q.2) {a z : Int} {x : Nat} (hz : z = 0 ∨ z = 1) (hc : mm_ck lt pool isI rt cc nL pc nx (.putstatic x) = true) (hk : (w.1 a).1 = Nat.div x 256) (k : mm_Wc D tys B old L0 scr p l e R s m args below meth c nL ρ0 w0 Q nx L st w (mUp h a (Int.ofNat (Nat.mod (Nat.div x 4) 64)) z)) : mm_Wc D tys B old L0 scr p l e R s m args below meth c nL ρ0 w0 Q pc L ((0, z) :: (2, a) :: st) w h := by
  unfold mm_ck at hc
  dsimp only at hc
  split at hc
  · next i e =>
    obtain ⟨h1, h2⟩ := mm_an hc
    rw [Nat.eq_of_beq_eq_true h2] at k
    obtain ⟨ci, j, C, T, N, g1, g2, g3, g4, g5, g6, g7⟩ := hp _ (mm_has_mem h1)
    rw [g2] at k
    have hj : j < mm_nf (ci + 1) := by obtain ⟨C2, T2, N2, ty, q1, q2, q3, -⟩ := g4; omega
    have hty := mm_ty_at g5 hj
    rw [g3] at hty
    refine st_putg F g4 (fun C2 T2 N2 q => ?_) (mm_op_eq e (by decide)) (hk.trans g1) (t := 0) g3 (fun C2 T2 N2 ty q hq ρ v hv => ?_) (by decide) (fun q => absurd q (by decide)) k
    · cases mm_cl_eq g5 q; exact Or.inl g6
    · cases mm_cl_eq g5 q
      exact mm_fit_at hty hq (fun _ => hz) hv
  · cases hc
end MM
end
section
/-! From the check to the step: what is made, what is called. -/
section MM
variable {D : va_G} {tys : List (ClassId × FieldType)} {B : Nat} {old : Int → Nat} {L0 : Nat} {scr : Nat → Int32}
variable {p : Program} {l : Launch} {e : Env} {R : Room} {s : State} {m : MethodId} {args : Array Value} {below : List Frame} {meth : Method} {c : Code} {nL : Nat} {ρ0 : List Nat} {w0 : mm_W} {Q : State → Prop}
variable {own : String} {cc : ByteArray} {mn : String} {rt : Option FieldType} {pc : Nat} {L st : List mm_V} {w : mm_W} {h : mm_H} {nx : Nat} {tx : String}

variable {lt : List mm_T} {pool : List (Nat × Instr)} {isI : Bool}
theorem sg_new (F : mm_Fr D tys B old L0 scr p s m args meth c nL own cc mn rt) (hp : ∀ q ∈ pool, mm_PK own q.1 q.2) {x : Nat} (hc : mm_ck lt pool isI rt cc nL pc nx (.new x) = true) (hr : ((mNew w (Nat.div x 64) (Int.ofNat (Nat.mod x 64))).2.1 - w0.2.1).toNat ≤ R.cells ∧ ((mNew w (Nat.div x 64) (Int.ofNat (Nat.mod x 64))).2.2 - w0.2.2).toNat ≤ R.slots) (k : mm_Wc D tys B old L0 scr p l e R s m args below meth c nL ρ0 w0 Q nx L ((2, w.2.1) :: st) (mNew w (Nat.div x 64) (Int.ofNat (Nat.mod x 64))) (mZero h w.2.1)) : mm_Wc D tys B old L0 scr p l e R s m args below meth c nL ρ0 w0 Q pc L st w h := by
  unfold mm_ck at hc
  dsimp only at hc
  split at hc
  · next i e =>
    obtain ⟨h1, h2⟩ := mm_an hc
    rw [Nat.eq_of_beq_eq_true h2] at k
    obtain ⟨ci, g1, g2, g3⟩ := hp _ (mm_has_mem h1)
    rw [g1, g2] at k hr
    exact st_new F g3 (mm_op_eq e (by decide)) (fun _ _ => hr) k
  · cases hc
theorem sg_anew (F : mm_Fr D tys B old L0 scr p s m args meth c nL own cc mn rt) (KW : mm_KW) (hp : ∀ q ∈ pool, mm_PK own q.1 q.2) {n : Int} {q : Nat} (hc : mm_ck lt pool isI rt cc nL pc nx (.anewarray q) = true) (h0 : 0 ≤ n) (h1 : n ≤ 1000000) (hr : ((mNew w q n).2.1 - w0.2.1).toNat ≤ R.cells ∧ ((mNew w q n).2.2 - w0.2.2).toNat ≤ R.slots) (k : mm_Wc D tys B old L0 scr p l e R s m args below meth c nL ρ0 w0 Q nx L ((2, w.2.1) :: st) (mNew w q n) (mZero h w.2.1)) : mm_Wc D tys B old L0 scr p l e R s m args below meth c nL ρ0 w0 Q pc L ((0, n) :: st) w h := by
  obtain ⟨-, -, -, -, -, -, -, -, -, -, kI, kS, kZ, kJ⟩ := KW
  unfold mm_ck at hc
  dsimp only at hc
  split at hc
  · next aty e =>
    obtain ⟨g1, g2⟩ := mm_an hc
    rw [Nat.eq_of_beq_eq_true g2] at k
    have e := mm_op_eq e (by decide)
    rcases (Bool.or_eq_true _ _).mp g1 with g1 | g1
    · obtain ⟨a1, a2⟩ := mm_an g1
      have a1 := Nat.eq_of_beq_eq_true a1
      subst a1
      exact st_newa F (of_decide_eq_true a2) (Or.inl ⟨rfl, rfl⟩) kI e h0 h1 (fun _ _ => hr) k
    rcases (Bool.or_eq_true _ _).mp g1 with g1 | g1
    · obtain ⟨a1, a2⟩ := mm_an g1
      have a1 := Nat.eq_of_beq_eq_true a1
      subst a1
      exact st_newa F (of_decide_eq_true a2) (Or.inr (Or.inl ⟨rfl, rfl⟩)) kS e h0 h1 (fun _ _ => hr) k
    rcases (Bool.or_eq_true _ _).mp g1 with g1 | g1
    · obtain ⟨a1, a2⟩ := mm_an g1
      have a1 := Nat.eq_of_beq_eq_true a1
      subst a1
      exact st_newa F (of_decide_eq_true a2) (Or.inr (Or.inr ⟨rfl, rfl⟩)) kZ e h0 h1 (fun _ _ => hr) k
    · obtain ⟨a1, a2⟩ := mm_an g1
      have a1 := Nat.eq_of_beq_eq_true a1
      subst a1
      exact st_newaJ F (of_decide_eq_true a2) kJ e h0 h1 (fun _ _ => hr) k
  · next i e =>
    obtain ⟨g1, g2⟩ := mm_an hc
    rw [Nat.eq_of_beq_eq_true g2] at k
    have e := mm_op_eq e (by decide)
    rcases hp _ (mm_has_mem g1) with ⟨rfl, g⟩ | ⟨rfl, g⟩ | ⟨rfl, g⟩
    · exact st_anew F (Or.inl ⟨rfl, rfl⟩) g e h0 h1 (fun _ _ => hr) k
    · exact st_anew F (Or.inr ⟨rfl, rfl⟩) g e h0 h1 (fun _ _ => hr) k
    · exact st_anewI F g e h0 h1 (fun _ _ => hr) k
  · cases hc
theorem sg_copy (F : mm_Fr D tys B old L0 scr p s m args meth c nL own cc mn rt) (KW : mm_KW) (hp : ∀ q ∈ pool, mm_PK own q.1 q.2) {a0 sp d dp n : Int} (hc : mm_ck lt pool isI rt cc nL pc nx .daload = true) (hR : 1 ≤ R.frames ∧ nativeFrameWords "java/lang/System" "arraycopy" 5 + 11 ≤ R.locals) (hq : (w.1 a0).1 = 50 ∧ (w.1 d).1 = 50 ∧ 0 < a0 ∧ 0 < d ∧ 0 ≤ sp ∧ 0 ≤ dp ∧ 0 ≤ n ∧ sp + n ≤ (w.1 a0).2 ∧ dp + n ≤ (w.1 d).2) (k : mm_Wc D tys B old L0 scr p l e R s m args below meth c nL ρ0 w0 Q nx L [] w (mCpy h a0 sp d dp n)) : mm_Wc D tys B old L0 scr p l e R s m args below meth c nL ρ0 w0 Q pc L [(0, n), (0, dp), (2, d), (0, sp), (2, a0)] w h := by
  obtain ⟨k1, k2, k3, -⟩ := KW
  unfold mm_ck at hc
  dsimp only at hc
  split at hc
  · next i e =>
    obtain ⟨g1, g2⟩ := mm_an hc
    rw [Nat.eq_of_beq_eq_true g2] at k
    exact st_copy F (hp _ (mm_has_mem g1)) k1 k2 k3 hR (mm_op_eq e (by decide)) hq k
  · cases hc
theorem sg_max (F : mm_Fr D tys B old L0 scr p s m args meth c nL own cc mn rt) (KW : mm_KW) (hp : ∀ q ∈ pool, mm_PK own q.1 q.2) {x y : Int} (hc : mm_ck lt pool isI rt cc nL pc nx .dadd = true) (hR : 1 ≤ R.frames ∧ 24 + 13 ≤ R.locals) (hs : mm_cats st ≤ 24) (hf : (w.2.1 - w0.2.1).toNat ≤ R.cells ∧ (w.2.2 - w0.2.2).toNat ≤ R.slots) (k : mm_Wc D tys B old L0 scr p l e R s m args below meth c nL ρ0 w0 Q nx L ((0, mMax x y) :: st) w h) : mm_Wc D tys B old L0 scr p l e R s m args below meth c nL ρ0 w0 Q pc L ((0, y) :: (0, x) :: st) w h := by
  obtain ⟨-, -, -, k1, k2, k3, -⟩ := KW
  unfold mm_ck at hc
  dsimp only at hc
  split at hc
  · next i e =>
    obtain ⟨g1, g2⟩ := mm_an hc
    rw [Nat.eq_of_beq_eq_true g2] at k
    exact st_max F (hp _ (mm_has_mem g1)) k1 k2 k3 hR hs (fun _ _ => hf) (mm_op_eq e (by decide)) k
  · cases hc
theorem sg_min (F : mm_Fr D tys B old L0 scr p s m args meth c nL own cc mn rt) (KW : mm_KW) (hp : ∀ q ∈ pool, mm_PK own q.1 q.2) {x y : Int} (hc : mm_ck lt pool isI rt cc nL pc nx .dsub = true) (hR : 1 ≤ R.frames ∧ 24 + 13 ≤ R.locals) (hs : mm_cats st ≤ 24) (hf : (w.2.1 - w0.2.1).toNat ≤ R.cells ∧ (w.2.2 - w0.2.2).toNat ≤ R.slots) (k : mm_Wc D tys B old L0 scr p l e R s m args below meth c nL ρ0 w0 Q nx L ((0, mMin x y) :: st) w h) : mm_Wc D tys B old L0 scr p l e R s m args below meth c nL ρ0 w0 Q pc L ((0, y) :: (0, x) :: st) w h := by
  obtain ⟨-, -, -, -, k2, -, k1, k3, -⟩ := KW
  unfold mm_ck at hc
  dsimp only at hc
  split at hc
  · next i e =>
    obtain ⟨g1, g2⟩ := mm_an hc
    rw [Nat.eq_of_beq_eq_true g2] at k
    exact st_min F (hp _ (mm_has_mem g1)) k1 k2 k3 hR hs (fun _ _ => hf) (mm_op_eq e (by decide)) k
  · cases hc
theorem sg_oinit (F : mm_Fr D tys B old L0 scr p s m args meth c nL own cc mn rt) (KW : mm_KW) (hp : ∀ q ∈ pool, mm_PK own q.1 q.2) {a : Int} {q : Nat} (hc : mm_ck lt pool isI rt cc nL pc nx (.checkcast q) = true) (hR : 1 ≤ R.frames ∧ 24 + 13 ≤ R.locals) (hs : mm_cats st ≤ 24) (hk : (w.1 a).1 = q) (k : mm_Wc D tys B old L0 scr p l e R s m args below meth c nL ρ0 w0 Q nx L st w h) : mm_Wc D tys B old L0 scr p l e R s m args below meth c nL ρ0 w0 Q pc L ((2, a) :: st) w h := by
  obtain ⟨-, -, -, -, -, -, -, -, k1, k2, -⟩ := KW
  unfold mm_ck at hc
  dsimp only at hc
  split at hc
  · next i e =>
    obtain ⟨g1, g2⟩ := mm_an hc
    rw [Nat.eq_of_beq_eq_true g2] at k
    obtain ⟨g1, g3⟩ := mm_an g1
    obtain ⟨g3, g4⟩ := mm_an g3
    have g3 := Nat.le_of_ble_eq_true g3
    have g4 := Nat.le_of_ble_eq_true g4
    intro ρ H locs ls sv hρ hH hS hL hst
    obtain ⟨p1, p2⟩ := mm_pos (a := a) hH (by omega) (by omega) (by omega) (Or.inl (by omega))
    exact st_objinit F (hp _ (mm_has_mem g1)) k1 k2 hR hs (by omega) (mm_op_eq e (by decide)) k ρ H locs ls sv hρ hH hS hL hst
  · cases hc
/-- what is known of a callee's run -/
def mm_OK (D : va_G) (tys : List (ClassId × FieldType)) (B : Nat) (old : Int → Nat) (L0 : Nat) (scr : Nat → Int32) (l : Launch) (R : Room) (x : Nat) (as : List mm_V) (w : mm_W) (h : mm_H) (r : mm_R) : Prop := mm_le w r.2.1 ∧ Jvm.Cond.code (mm_inf x).1 (mm_inf x).2.1 (mm_inf x).2.2.1 (mm_inf x).2.2.2 ∈ lw_g ∧ ∃ d, d + 1 ≤ R.frames ∧ 24 + ((mm_inf x).2.2.1 + 11) + 96 * d ≤ R.locals ∧ mm_Met D tys B old L0 scr l d (mm_inf x).1 (mm_inf x).2.1 (mm_inf x).2.2.1 (mm_inf x).2.2.2 as w h r
theorem sg_static (F : mm_Fr D tys B old L0 scr p s m args meth c nL own cc mn rt) (hp : ∀ q ∈ pool, mm_PK own q.1 q.2) {x : Nat} {as st2 : List mm_V} {r : mm_R} (hc : mm_ck lt pool isI rt cc nL pc nx (.invokestatic x) = true) (hsp : mm_split (Nat.mod (Nat.div x 4096) 16) [] st = some (as, st2)) (hs : mm_cats st2 ≤ 24) (hO : mm_OK D tys B old L0 scr l R (Nat.div x 65536) as w h r) (hr : (r.2.1.2.1 - w0.2.1).toNat ≤ R.cells ∧ (r.2.1.2.2 - w0.2.2).toNat ≤ R.slots) (ht : r.1.1 = Nat.mod (Nat.div x 256) 16) (k : mm_Wc D tys B old L0 scr p l e R s m args below meth c nL ρ0 w0 Q nx L (if Nat.beq (Nat.mod (Nat.div x 256) 16) 9 = true then st2 else r.1 :: st2) r.2.1 r.2.2) : mm_Wc D tys B old L0 scr p l e R s m args below meth c nL ρ0 w0 Q pc L st w h := by
  unfold mm_ck at hc
  obtain ⟨hc, ht2⟩ := mm_an hc
  split at hc
  · next i e =>
    obtain ⟨g1, g2⟩ := mm_an hc
    rw [Nat.eq_of_beq_eq_true g2] at k
    obtain ⟨h1, h2, d, h3, h4, h5⟩ := hO
    refine st_call F h5 h1 h2 (fun q => absurd q (by decide)) (hp _ (mm_has_mem g1)) ⟨h3, h4⟩ (Or.inl ⟨rfl, mm_op_eq e (by decide)⟩) hsp hs (fun q => absurd rfl q) (fun _ _ => hr) ?_
    by_cases q : Nat.beq (Nat.mod (Nat.div x 256) 16) 9 = true
    · rw [if_pos q] at k
      exact Or.inl ⟨ht.trans (Nat.eq_of_beq_eq_true q), k⟩
    · rw [if_neg q] at k
      refine Or.inr ⟨?_, k⟩
      rw [ht]
      rcases (Bool.or_eq_true _ _).mp ht2 with z | z
      · exact Nat.le_of_ble_eq_true z
      · exact absurd z q
  · cases hc
theorem sg_virtual (F : mm_Fr D tys B old L0 scr p s m args meth c nL own cc mn rt) (hp : ∀ q ∈ pool, mm_PK own q.1 q.2) {x : Nat} {a : Int} {as st2 : List mm_V} {r : mm_R} (hc : mm_ck lt pool isI rt cc nL pc nx (.invokevirtual x) = true) (hsp : mm_split (Nat.mod (Nat.div x 4096) 16) [] st = some ((2, a) :: as, st2)) (hs : mm_cats st2 ≤ 24) (hk : (w.1 a).1 = Nat.mod x 256) (hO : mm_OK D tys B old L0 scr l R (Nat.div x 65536) ((2, a) :: as) w h r) (hr : (r.2.1.2.1 - w0.2.1).toNat ≤ R.cells ∧ (r.2.1.2.2 - w0.2.2).toNat ≤ R.slots) (ht : r.1.1 = Nat.mod (Nat.div x 256) 16) (k : mm_Wc D tys B old L0 scr p l e R s m args below meth c nL ρ0 w0 Q nx L (if Nat.beq (Nat.mod (Nat.div x 256) 16) 9 = true then st2 else r.1 :: st2) r.2.1 r.2.2) : mm_Wc D tys B old L0 scr p l e R s m args below meth c nL ρ0 w0 Q pc L st w h := by
  unfold mm_ck at hc
  obtain ⟨hc, ht2⟩ := mm_an hc
  have fin : (r.1.1 = 9 ∧ mm_Wc D tys B old L0 scr p l e R s m args below meth c nL ρ0 w0 Q nx L st2 r.2.1 r.2.2) ∨ (r.1.1 ≤ 2 ∧ mm_Wc D tys B old L0 scr p l e R s m args below meth c nL ρ0 w0 Q nx L (r.1 :: st2) r.2.1 r.2.2) := by
    by_cases q : Nat.beq (Nat.mod (Nat.div x 256) 16) 9 = true
    · rw [if_pos q] at k
      exact Or.inl ⟨ht.trans (Nat.eq_of_beq_eq_true q), k⟩
    · rw [if_neg q] at k
      refine Or.inr ⟨?_, k⟩
      rw [ht]
      rcases (Bool.or_eq_true _ _).mp ht2 with z | z
      · exact Nat.le_of_ble_eq_true z
      · exact absurd z q
  obtain ⟨h1, h2, d, h3, h4, h5⟩ := hO
  split at hc
  · next i e =>
    obtain ⟨g1, g2⟩ := mm_an hc
    rw [Nat.eq_of_beq_eq_true g2] at fin
    obtain ⟨c1, c2⟩ := hp _ (mm_has_mem g1)
    refine st_call F h5 h1 h2 (fun q => absurd q (by decide)) c1 ⟨h3, h4⟩ (Or.inr (Or.inl ⟨rfl, mm_op_eq e (by decide)⟩)) hsp hs (fun _ => ⟨a, as, rfl, ?_⟩) (fun _ _ => hr) fin
    rcases c2 with ⟨ci, q, e1, e2, e3⟩ | ⟨e1, e2⟩
    · exact Or.inl ⟨ci, q, e1, e2, hk.trans e3⟩
    · exact Or.inr ⟨e1, hk.trans e2⟩
  · next i e =>
    obtain ⟨g1, g2⟩ := mm_an hc
    rw [Nat.eq_of_beq_eq_true g2] at fin
    obtain ⟨c1, c0, c2⟩ := hp _ (mm_has_mem g1)
    refine st_call F h5 h1 h2 (fun _ => c0) c1 ⟨h3, h4⟩ (Or.inr (Or.inr ⟨rfl, mm_op_eq e (by decide)⟩)) hsp hs (fun _ => ⟨a, as, rfl, ?_⟩) (fun _ _ => hr) fin
    rcases c2 with ⟨ci, q, e1, e2, e3⟩ | ⟨e1, e2⟩
    · exact Or.inl ⟨ci, q, e1, e2, hk.trans e3⟩
    · exact Or.inr ⟨e1, hk.trans e2⟩
  · cases hc
end MM
end
section
/-! The main induction. -/
theorem mm_itF {α : Type} {c : Prop} [Decidable c] {x : Option α} {z : α} (h : (if c then none else x) = some z) : ¬ c ∧ x = some z := by
  by_cases q : c
  · rw [if_pos q] at h; cases h
  · rw [if_neg q] at h; exact ⟨q, h⟩
theorem mm_itB {α : Type} {c : Prop} [Decidable c] {x y : Option α} {z : α} (h : (if c then x else y) = some z) : (c → x = some z) ∧ (¬ c → y = some z) := by
  by_cases q : c
  · rw [if_pos q] at h; exact ⟨fun _ => h, fun r => absurd q r⟩
  · rw [if_neg q] at h; exact ⟨fun r => absurd r q, fun _ => h⟩
theorem mm_ifB {α : Type} {b : Bool} {x y : α} {z : α} (h : mm_if b x y = z) : (b = true ∧ x = z) ∨ (b = false ∧ y = z) := by
  cases b with
  | true => exact Or.inl ⟨rfl, h⟩
  | false => exact Or.inr ⟨rfl, h⟩
theorem mm_C_some {α : Type} {r : Option mm_R} {t : Nat} {k : Int → mm_W → mm_H → Option α} {z : α} (h : mC r t none k = some z) : ∃ q, r = some q ∧ q.1.1 = t ∧ k q.1.2 q.2.1 q.2.2 = some z := by
  cases r with
  | none => cases h
  | some q =>
    obtain ⟨h1, h2⟩ := mm_itT h
    exact ⟨q, rfl, h1, h2⟩
theorem mm_K_some {α : Type} {r : Option (mm_R ⊕ mm_X)} {f : mm_R → Option α} {k : Nat → List mm_V → mm_W → mm_H → Option α} {z : α} (h : mK r none f k = some z) : (∃ q, r = some (.inl q) ∧ f q = some z) ∨ (∃ t L w g, r = some (.inr (t, L, w, g)) ∧ k t L w g = some z) := by
  cases r with
  | none => cases h
  | some q =>
    cases q with
    | inl q => exact Or.inl ⟨q, rfl, h⟩
    | inr q => exact Or.inr ⟨q.1, q.2.1, q.2.2.1, q.2.2.2, rfl, h⟩
theorem mm_ex_some {α : Type} {t : Nat} {k : Nat → Option α} {z : α} : ∀ {es : List Nat}, mm_ex t none k es = some z → k t = some z
  | [], h => by cases h
  | e :: es, h => by
    rw [mm_ex] at h
    by_cases q : t = e
    · rw [if_pos q] at h; rw [q]; exact h
    · rw [if_neg q] at h; exact mm_ex_some h
theorem mm_le_new {w : mm_W} {k : Nat} {n : Int} (h : 0 ≤ n) : mm_le w (mNew w k n) := ⟨by show w.2.1 ≤ w.2.1 + 1; omega, by show w.2.2 ≤ w.2.2 + n; omega⟩
def mm_up : mm_R ⊕ mm_X → mm_Y
  | .inl r => .inl r
  | .inr x => .inr (x.1, x.2.1, [], x.2.2.1, x.2.2.2)
section MM
variable {D : va_G} {tys : List (ClassId × FieldType)} {B : Nat} {old : Int → Nat} {L0 : Nat} {scr : Nat → Int32}
variable {p : Program} {l : Launch} {e : Env} {R : Room} {s : State} {m : MethodId} {args : Array Value} {below : List Frame} {meth : Method} {c : Code} {nL : Nat} {ρ0 : List Nat} {w0 : mm_W} {Q : State → Prop}
variable {own : String} {cc : ByteArray} {mn : String} {rt : Option FieldType} {pc : Nat} {L st : List mm_V} {w : mm_W} {h : mm_H} {nx : Nat} {tx : String}

variable {rs : mm_R} {lt : List mm_T} {pool : List (Nat × Instr)} {isI : Bool} {O : mm_O} {lp : mm_L} {hi : Nat}
theorem mm_Wc_nrm {tags : List Nat} (hk : mm_okt tags 0 L = true) (k : mm_Wc D tys B old L0 scr p l e R s m args below meth c nL ρ0 w0 Q pc (mm_nrm tags 0 L) st w h) : mm_Wc D tys B old L0 scr p l e R s m args below meth c nL ρ0 w0 Q pc L st w h := by
  intro ρ H locs ls sv hρ hH hS hL hst
  exact k ρ H locs ls sv hρ hH hS (mm_okt_LR hk hL) hst
/-- what may be asked of the oracle and the loops -/
def mm_HQ (D : va_G) (tys : List (ClassId × FieldType)) (B : Nat) (old : Int → Nat) (L0 : Nat) (scr : Nat → Int32) (p : Program) (l : Launch) (e : Env) (R : Room) (s : State) (m : MethodId) (args : Array Value) (below : List Frame) (meth : Method) (c : Code) (nL : Nat) (ρ0 : List Nat) (w0 : mm_W) (Q : State → Prop) (rs : mm_R) (cc : ByteArray) (rt : Option FieldType) : Prop := ∀ (pc : Nat) (L : List mm_V) (v : mm_V) (w : mm_W) (h : mm_H), rs = (v, w, h) → ((decode cc pc = .ok (.ireturn, 1) ∧ v.1 = 0 ∧ (mm_rt rt 0 = true ∨ (mm_rt rt 1 = true ∧ (v.2 = 0 ∨ v.2 = 1)) ∨ (mm_rt rt 2 = true ∧ (0 ≤ v.2 ∧ v.2 < 65536)) ∨ (mm_rt rt 3 = true ∧ (-128 ≤ v.2 ∧ v.2 < 128)))) ∨ (decode cc pc = .ok (.lreturn, 1) ∧ v.1 = 1 ∧ mm_rt rt 4 = true) ∨ (decode cc pc = .ok (.areturn, 1) ∧ v.1 = 2 ∧ mm_rt rt 5 = true)) → mm_Wc D tys B old L0 scr p l e R s m args below meth c nL ρ0 w0 Q pc L [v] w h
def mm_HL (D : va_G) (tys : List (ClassId × FieldType)) (B : Nat) (old : Int → Nat) (L0 : Nat) (scr : Nat → Int32) (p : Program) (l : Launch) (e : Env) (R : Room) (s : State) (m : MethodId) (args : Array Value) (below : List Frame) (meth : Method) (c : Code) (nL : Nat) (ρ0 : List Nat) (w0 : mm_W) (Q : State → Prop) (rs : mm_R) (lt : List mm_T) (lp : mm_L) : Prop := ∀ (j : Nat) (L : List mm_V) (w : mm_W) (h : mm_H) (y : mm_R ⊕ mm_X), lp j L w h = some y → mm_GO D tys B old L0 scr p l e R s m args below meth c nL ρ0 w0 Q rs (mm_up y) ((mm_row lt j).1) L [] w h ∧ (∀ x, y = .inr x → mm_okt (mm_row lt j).2.2.1 0 x.2.1 = true)
set_option maxHeartbeats 4000000 in
theorem mm_sg (F : mm_Fr D tys B old L0 scr p s m args meth c nL own cc mn rt) (KW : mm_KW) (hp : ∀ q ∈ pool, mm_PK own q.1 q.2) (hI : isI = true → mn = "<init>") (hRm : mm_Rm R ρ0 w0 rs.2.1) (hR : 1 ≤ R.frames ∧ 24 + 13 ≤ R.locals ∧ nativeFrameWords "java/lang/System" "arraycopy" 5 + 11 ≤ R.locals) (hO : ∀ x as w h r, O x as w h = some r → mm_OK D tys B old L0 scr l R x as w h r) (hlp : mm_HL D tys B old L0 scr p l e R s m args below meth c nL ρ0 w0 Q rs lt lp) (hQ : mm_HQ D tys B old L0 scr p l e R s m args below meth c nL ρ0 w0 Q rs cc rt) (hQ0 : ∀ (pc : Nat) (L : List mm_V) (w : mm_W) (h : mm_H), rs = ((9, 0), w, h) → decode cc pc = .ok (.return_, 1) → mm_rt rt 6 = true → mm_Wc D tys B old L0 scr p l e R s m args below meth c nL ρ0 w0 Q pc L [] w h) : ∀ (code : List (Nat × Instr)), mm_chk lt pool isI rt cc nL code = true → ∀ (sk : Nat) (L st : List mm_V) (w : mm_W) (h : mm_H) (out : mm_Y), mm_go O lp (mm_lt2 lt) hi none (fun r => some (.inl r)) (fun t L st w h => some (.inr (t, L, st, w, h))) code sk L st w h = some out → mm_GO D tys B old L0 scr p l e R s m args below meth c nL ρ0 w0 Q rs out (if sk = 0 then mm_nx code else sk) L st w h := by
  intro code
  induction code with
  | nil => intro _ sk L st w h out H; rw [mm_go] at H; cases H
  | cons q tl ih =>
    intro hc sk L st w h out H
    obtain ⟨pc, i⟩ := q
    obtain ⟨hc, hct⟩ := mm_an hc
    have ih := ih hct
    rw [mm_go.eq_def] at H
    dsimp only at H
    have H0 := mm_ifB H
    clear H
    rcases H0 with ⟨b1, H⟩ | ⟨b1, H⟩
    · have b1 := mm_blt b1
      have g := ih sk L st w h out H
      rw [if_neg (by omega)] at g ⊢
      exact g
    have H0 := mm_ifB H
    clear H
    rcases H0 with ⟨b2, H⟩ | ⟨b2, H⟩
    · cases H
    have hst : (if sk = 0 then mm_nx ((pc, i) :: tl) else sk) = pc := by
      by_cases z : sk = 0
      · rw [if_pos z]; rfl
      · rw [if_neg z]
        have c1 : ¬ pc < sk := fun q => by
          have : Nat.blt pc sk = true := Nat.ble_eq_true_of_le q
          rw [this] at b1; cases b1
        have c2 : ¬ sk < pc := fun q => by
          have e1 : Nat.blt sk pc = true := Nat.ble_eq_true_of_le q
          have e2 : Nat.blt 0 sk = true := Nat.ble_eq_true_of_le (show 0 < sk by omega)
          rw [e1, e2] at b2; cases b2
        omega
    rw [hst]
    clear hst b1 b2
    have H0 := mm_ifB H
    clear H
    rcases H0 with ⟨b3, H⟩ | ⟨b3, H⟩
    · cases H
      exact ⟨mm_le_rf _, fun z => z⟩
    have ih0 : ∀ {nx : Nat} {L st : List mm_V} {w : mm_W} {h : mm_H}, mm_nx tl = nx → mm_go O lp (mm_lt2 lt) hi none (fun r => some (.inl r)) (fun t L st w h => some (.inr (t, L, st, w, h))) tl 0 L st w h = some out → mm_GO D tys B old L0 scr p l e R s m args below meth c nL ρ0 w0 Q rs out nx L st w h := by
      intro nx L st w h e1 H
      have g := ih 0 L st w h out H
      rw [if_pos rfl, e1] at g
      exact g
    have jmp : ∀ {t : Nat} {L st : List mm_V} {w : mm_W} {h : mm_H}, mm_if (Nat.blt pc t && Nat.blt t hi) (mm_go O lp (mm_lt2 lt) hi none (fun r => some (.inl r)) (fun t L st w h => some (.inr (t, L, st, w, h))) tl t L st w h) (some (.inr (t, L, st, w, h))) = some out → mm_GO D tys B old L0 scr p l e R s m args below meth c nL ρ0 w0 Q rs out t L st w h := by
      intro t L st w h H
      rcases mm_ifB H with ⟨b, H⟩ | ⟨b, H⟩
      · obtain ⟨b, -⟩ := mm_an b
        have b := mm_blt b
        have g := ih t L st w h out H
        rw [if_neg (by omega)] at g
        exact g
      · cases H
        exact ⟨mm_le_rf _, fun z => z⟩
    clear ih hct b3 sk
    split at H
    · exact (ih0 rfl H).one (sg_iconst F hp hc)
    · exact (ih0 rfl H).one (sg_jsr F hp hc)
    · exact (ih0 rfl H).one (sg_sipush F hp hc)
    · split at H
      · next x hg => exact (ih0 rfl H).one (st_iload F hg (ck_iload hc))
      · cases H
    · split at H
      · next x hg => exact (ih0 rfl H).one (st_lload F hg (ck_lload hc))
      · cases H
    · split at H
      · next x hg => exact (ih0 rfl H).one (st_aload F (Or.inl rfl) hg (ck_aload hc))
      · next x hg => exact (ih0 rfl H).one (st_aload F (Or.inr rfl) hg (ck_aload hc))
      · cases H
    · obtain ⟨hn, hd⟩ := ck_istore hc
      exact (ih0 rfl H).one (st_istore F hn hd)
    · obtain ⟨hn, hd⟩ := ck_astore hc
      exact (ih0 rfl H).one (st_astore F hn hd)
    · obtain ⟨hn, hd⟩ := ck_lstore hc
      exact (ih0 rfl H).one (st_lstore F hn hd)
    · obtain ⟨hn, hd, hx⟩ := ck_iinc hc
      split at H
      · next x hg => exact (ih0 hx H).one (st_iinc F hg hn hd)
      · cases H
    · obtain ⟨hd, hx⟩ := ck1 hc
      exact (ih0 hx H).one (st_iadd F hd)
    · obtain ⟨hd, hx⟩ := ck1 hc
      exact (ih0 hx H).one (st_isub F hd)
    · obtain ⟨hd, hx⟩ := ck1 hc
      exact (ih0 hx H).one (st_imul F hd)
    · obtain ⟨hd, hx⟩ := ck1 hc
      obtain ⟨hn, H⟩ := mm_itF H
      exact (ih0 hx H).one (st_idiv F hn hd)
    · obtain ⟨hd, hx⟩ := ck1 hc
      obtain ⟨hn, H⟩ := mm_itF H
      exact (ih0 hx H).one (st_irem F hn hd)
    · obtain ⟨hd, hx⟩ := ck1 hc
      exact (ih0 hx H).one (st_ineg F hd)
    · obtain ⟨hd, hx⟩ := ck1 hc
      exact (ih0 hx H).one (st_iand F hd)
    · obtain ⟨hd, hx⟩ := ck1 hc
      exact (ih0 hx H).one (st_ior F hd)
    · obtain ⟨hd, hx⟩ := ck1 hc
      exact (ih0 hx H).one (st_ixor F hd)
    · obtain ⟨hd, hx⟩ := ck1 hc
      exact (ih0 hx H).one (st_ishl F hd)
    · obtain ⟨hd, hx⟩ := ck1 hc
      exact (ih0 hx H).one (st_ishr F hd)
    · obtain ⟨hd, hx⟩ := ck1 hc
      exact (ih0 hx H).one (st_iushr F hd)
    · obtain ⟨hd, hx⟩ := ck1 hc
      exact (ih0 hx H).one (st_i2l F hd)
    · obtain ⟨hd, hx⟩ := ck1 hc
      exact (ih0 hx H).one (st_l2i F hd)
    · obtain ⟨hd, hx⟩ := ck1 hc
      exact (ih0 hx H).one (st_i2s F hd)
    · obtain ⟨hd, hx⟩ := ck1 hc
      exact (ih0 hx H).one (st_i2b F hd)
    · obtain ⟨hd, hx⟩ := ck1 hc
      exact (ih0 hx H).one (st_i2c F hd)
    · obtain ⟨hd, hx⟩ := ck1 hc
      exact (ih0 hx H).one (st_ladd F hd)
    · obtain ⟨hd, hx⟩ := ck1 hc
      exact (ih0 hx H).one (st_lsub F hd)
    · obtain ⟨hd, hx⟩ := ck1 hc
      exact (ih0 hx H).one (st_lmul F hd)
    · obtain ⟨hd, hx⟩ := ck1 hc
      exact (ih0 hx H).one (st_lneg F hd)
    · obtain ⟨hd, hx⟩ := ck1 hc
      exact (ih0 hx H).one (st_lcmp F hd)
    · obtain ⟨hs, H⟩ := mm_ifT H rfl
      exact (ih0 rfl H).step (mm_le_rf _) (fun hl => sg_max F KW hp hc ⟨hR.1, hR.2.1⟩ (Nat.le_of_ble_eq_true hs) (mm_Rm_le hRm hl))
    · obtain ⟨hs, H⟩ := mm_ifT H rfl
      exact (ih0 rfl H).step (mm_le_rf _) (fun hl => sg_min F KW hp hc ⟨hR.1, hR.2.1⟩ (Nat.le_of_ble_eq_true hs) (mm_Rm_le hRm hl))
    · obtain ⟨hs, H⟩ := mm_ifT H rfl
      obtain ⟨hk, H⟩ := mm_itT H
      exact (ih0 rfl H).one (sg_oinit F KW hp hc ⟨hR.1, hR.2.1⟩ (Nat.le_of_ble_eq_true hs) hk)
    · obtain ⟨hd, hx⟩ := ck1 hc
      exact (ih0 hx H).one (st_dup F (Nat.ne_of_beq_eq_false rfl) hd)
    · obtain ⟨hd, hx⟩ := ck1 hc
      exact (ih0 hx H).one (st_dup F (Nat.ne_of_beq_eq_false rfl) hd)
    · obtain ⟨hd, hx⟩ := ck1 hc
      exact (ih0 hx H).one (st_dup2 F (Nat.ne_of_beq_eq_false rfl) (Nat.ne_of_beq_eq_false rfl) hd)
    · obtain ⟨hd, hx⟩ := ck1 hc
      exact (ih0 hx H).one (st_pop F (Nat.ne_of_beq_eq_false rfl) hd)
    · obtain ⟨hd, hx⟩ := ck1 hc
      exact (ih0 hx H).one (st_pop F (Nat.ne_of_beq_eq_false rfl) hd)
    · exact (ih0 rfl H).one (sg_getstatic F hp hc)
    · obtain ⟨hd, hx⟩ := ck1 hc
      exact (ih0 hx H).one (st_pop F (Nat.ne_of_beq_eq_false rfl) hd)
    · obtain ⟨off, hd, ht⟩ := ck_goto hc
      exact (jmp H).one (st_goto F hd ht)
    · obtain ⟨off, hd, ht, hx⟩ := ck_icmp hc
      split at H
      · obtain ⟨H1, H2⟩ := mm_itB H
        exact mm_GO.two (fun q => jmp (H1 q)) (fun q => ih0 hx (H2 q)) (st_icmp_lt F hd ht)
      · obtain ⟨H1, H2⟩ := mm_itB H
        exact mm_GO.two (fun q => jmp (H1 q)) (fun q => ih0 hx (H2 q)) (st_icmp_le F hd ht)
      · obtain ⟨H1, H2⟩ := mm_itB H
        exact mm_GO.two (fun q => jmp (H1 q)) (fun q => ih0 hx (H2 q)) (st_icmp_gt F hd ht)
      · obtain ⟨H1, H2⟩ := mm_itB H
        exact mm_GO.two (fun q => jmp (H1 q)) (fun q => ih0 hx (H2 q)) (st_icmp_ge F hd ht)
      · obtain ⟨H1, H2⟩ := mm_itB H
        exact mm_GO.two (fun q => jmp (H1 q)) (fun q => ih0 hx (H2 q)) (st_icmp_eq F hd ht)
      · obtain ⟨H1, H2⟩ := mm_itB H
        exact mm_GO.two (fun q => ih0 hx (H1 q)) (fun q => jmp (H2 q)) (fun k1 k2 => st_icmp_ne F hd ht k2 k1)
    · obtain ⟨off, hd, ht, hx⟩ := ck_if hc
      split at H
      · obtain ⟨H1, H2⟩ := mm_itB H
        exact mm_GO.two (fun q => jmp (H1 q)) (fun q => ih0 hx (H2 q)) (st_if_lt F hd ht)
      · obtain ⟨H1, H2⟩ := mm_itB H
        exact mm_GO.two (fun q => jmp (H1 q)) (fun q => ih0 hx (H2 q)) (st_if_le F hd ht)
      · obtain ⟨H1, H2⟩ := mm_itB H
        exact mm_GO.two (fun q => jmp (H1 q)) (fun q => ih0 hx (H2 q)) (st_if_gt F hd ht)
      · obtain ⟨H1, H2⟩ := mm_itB H
        exact mm_GO.two (fun q => jmp (H1 q)) (fun q => ih0 hx (H2 q)) (st_if_ge F hd ht)
      · obtain ⟨H1, H2⟩ := mm_itB H
        exact mm_GO.two (fun q => jmp (H1 q)) (fun q => ih0 hx (H2 q)) (st_if_eq F hd ht)
      · obtain ⟨H1, H2⟩ := mm_itB H
        exact mm_GO.two (fun q => ih0 hx (H1 q)) (fun q => jmp (H2 q)) (fun k1 k2 => st_if_ne F hd ht k2 k1)
    · obtain ⟨off, hd, ht, hx⟩ := ck_null hc
      obtain ⟨H1, H2⟩ := mm_itB H
      exact mm_GO.two (fun q => jmp (H1 q)) (fun q => ih0 hx (H2 q)) (st_ifnull F hd ht)
    · obtain ⟨off, hd, ht, hx⟩ := ck_nonnull hc
      obtain ⟨H1, H2⟩ := mm_itB H
      exact mm_GO.two (fun q => ih0 hx (H1 q)) (fun q => jmp (H2 q)) (fun k1 k2 => st_ifnonnull F hd ht k2 k1)
    · rename_i d ps x st1 hcO
      have H2 := (mm_sw_id x d (fun t : Int => mm_if (Nat.blt pc t.toNat && Nat.blt t.toNat hi) (mm_go (α := Option mm_Y) O lp (mm_lt2 lt) hi none (fun r => some (.inl r)) (fun t L st w h => some (.inr (t, L, st, w, h))) tl t.toNat L st1 w h) (some (.inr (t.toNat, L, st1, w, h)))) ps.toList).symm.trans H
      exact (jmp H2).one (sg_switch F hc)
    · obtain ⟨hk, H⟩ := mm_itT H
      exact (ih0 rfl H).one (sg_getfield F hp hc hk)
    · obtain ⟨hb, H⟩ := mm_ifT H rfl
      obtain ⟨hk, H⟩ := mm_itT H
      rcases mm_ifB H with ⟨q, H⟩ | ⟨q, H⟩
      · obtain ⟨h0, H⟩ := mm_itT H
        exact (ih0 rfl H).one (sg_putfield F hp hI (Nat.eq_of_beq_eq_true hb) (fun _ => h0) hc hk)
      · exact (ih0 rfl H).one (sg_putfield F hp hI (Nat.eq_of_beq_eq_true hb) (fun e => by rw [e] at q; cases q) hc hk)
    · obtain ⟨hz, H⟩ := mm_itT H
      obtain ⟨hk, H⟩ := mm_itT H
      exact (ih0 rfl H).one (sg_putstatic F hp hz hc hk)
    · obtain ⟨hd, hx⟩ := ck1 hc
      obtain ⟨⟨hk, h0, h1⟩, H⟩ := mm_itT H
      exact (ih0 hx H).one (st_iaload F hd hk h0 h1)
    · obtain ⟨hd, hx⟩ := ck1 hc
      obtain ⟨⟨hk, h0, h1⟩, H⟩ := mm_itT H
      exact (ih0 hx H).one (st_saload F hd hk h0 h1)
    · obtain ⟨hd, hx⟩ := ck1 hc
      obtain ⟨⟨hk, h0, h1⟩, H⟩ := mm_itT H
      exact (ih0 hx H).one (st_baload F hd hk h0 h1)
    · obtain ⟨hd, hx⟩ := ck1 hc
      obtain ⟨⟨hk, h0, h1⟩, H⟩ := mm_itT H
      exact (ih0 hx H).one (st_laload F hd hk h0 h1)
    · obtain ⟨hd, hx⟩ := ck1 hc
      obtain ⟨⟨hk, h0, h1⟩, H⟩ := mm_itT H
      exact (ih0 hx H).one (st_aaload F hd hk h0 h1)
    · obtain ⟨hd, hx⟩ := ck1 hc
      obtain ⟨⟨hk, h0, h1, h2⟩, H⟩ := mm_itT H
      exact (ih0 hx H).one (st_iastore F hd hk h0 h1 h2)
    · obtain ⟨hd, hx⟩ := ck1 hc
      obtain ⟨⟨hk, h0, h1⟩, H⟩ := mm_itT H
      exact (ih0 hx H).one (st_sastore F hd hk h0 h1)
    · obtain ⟨hd, hx⟩ := ck1 hc
      obtain ⟨hz, H⟩ := mm_itT H
      obtain ⟨⟨hk, h0, h1⟩, H⟩ := mm_itT H
      exact (ih0 hx H).one (st_bastore F hd hz hk h0 h1)
    · obtain ⟨hd, hx⟩ := ck1 hc
      obtain ⟨⟨hk, h0, h1⟩, H⟩ := mm_itT H
      exact (ih0 hx H).one (st_lastore F hd hk h0 h1)
    · obtain ⟨hd, hx⟩ := ck1 hc
      obtain ⟨⟨hk, h0, h1, h2, h3⟩, H⟩ := mm_itT H
      exact (ih0 hx H).one (st_aastore F hd hk h0 h1 h2 h3)
    · obtain ⟨hd, hx⟩ := ck1 hc
      obtain ⟨hk, H⟩ := mm_itT H
      exact (ih0 hx H).one (st_alen F hd hk)
    · exact (ih0 rfl H).step (mm_le_new (Int.natCast_nonneg _)) (fun hl => sg_new F hp hc (mm_Rm_le hRm hl))
    · obtain ⟨⟨h0, h1⟩, H⟩ := mm_itT H
      exact (ih0 rfl H).step (mm_le_new h0) (fun hl => sg_anew F KW hp hc h0 h1 (mm_Rm_le hRm hl))
    · obtain ⟨hq, H⟩ := mm_itT H
      exact (ih0 rfl H).one (sg_copy F KW hp hc ⟨hR.1, hR.2.2⟩ hq)
    · rename_i x st1
      split at H
      · cases H
      · next as st2 hsp =>
        obtain ⟨hs, H⟩ := mm_ifT H rfl
        obtain ⟨r, hr, ht, H⟩ := mm_C_some H
        have g : mm_GO D tys B old L0 scr p l e R s m args below meth c nL ρ0 w0 Q rs out (mm_nx tl) L (if Nat.beq (Nat.mod (Nat.div x 256) 16) 9 = true then st2 else r.1 :: st2) r.2.1 r.2.2 := by
          rcases mm_ifB H with ⟨q, H⟩ | ⟨q, H⟩
          · rw [if_pos q]; exact ih0 rfl H
          · rw [if_neg (by rw [q]; decide)]
            have e1 : r.1 = (Nat.mod (Nat.div x 256) 16, r.1.2) := Prod.ext ht rfl
            rw [e1]
            exact ih0 rfl H
        have ho := hO _ _ _ _ _ hr
        exact g.step ho.1 (fun hl => sg_static F hp hc hsp (Nat.le_of_ble_eq_true hs) ho (mm_Rm_le hRm hl) ht)
    · rename_i x st1
      split at H
      · next a as st2 hsp =>
        obtain ⟨hs, H⟩ := mm_ifT H rfl
        obtain ⟨hk, H⟩ := mm_itT H
        obtain ⟨r, hr, ht, H⟩ := mm_C_some H
        have g : mm_GO D tys B old L0 scr p l e R s m args below meth c nL ρ0 w0 Q rs out (mm_nx tl) L (if Nat.beq (Nat.mod (Nat.div x 256) 16) 9 = true then st2 else r.1 :: st2) r.2.1 r.2.2 := by
          rcases mm_ifB H with ⟨q, H⟩ | ⟨q, H⟩
          · rw [if_pos q]; exact ih0 rfl H
          · rw [if_neg (by rw [q]; decide)]
            have e1 : r.1 = (Nat.mod (Nat.div x 256) 16, r.1.2) := Prod.ext ht rfl
            rw [e1]
            exact ih0 rfl H
        have ho := hO _ _ _ _ _ hr
        exact g.step ho.1 (fun hl => sg_virtual F hp hc hsp (Nat.le_of_ble_eq_true hs) hk ho (mm_Rm_le hRm hl) ht)
      · cases H
    · cases H
      obtain ⟨g1, g2⟩ := mm_an hc
      refine ⟨mm_le_rf _, fun e1 => ⟨by rw [← e1]; exact mm_le_rf _, hQ _ _ _ _ _ e1.symm (Or.inl ⟨mm_is_eq g1, rfl, Or.inl g2⟩)⟩⟩
    · obtain ⟨hz, H⟩ := mm_itT H
      cases H
      obtain ⟨g1, g2⟩ := mm_an hc
      refine ⟨mm_le_rf _, fun e1 => ⟨by rw [← e1]; exact mm_le_rf _, hQ _ _ _ _ _ e1.symm (Or.inl ⟨mm_is_eq g1, rfl, Or.inr (Or.inl ⟨g2, hz⟩)⟩)⟩⟩
    · obtain ⟨hz, H⟩ := mm_itT H
      cases H
      obtain ⟨g1, g2⟩ := mm_an hc
      refine ⟨mm_le_rf _, fun e1 => ⟨by rw [← e1]; exact mm_le_rf _, hQ _ _ _ _ _ e1.symm (Or.inl ⟨mm_is_eq g1, rfl, Or.inr (Or.inr (Or.inl ⟨g2, hz⟩))⟩)⟩⟩
    · obtain ⟨hz, H⟩ := mm_itT H
      cases H
      obtain ⟨g1, g2⟩ := mm_an hc
      refine ⟨mm_le_rf _, fun e1 => ⟨by rw [← e1]; exact mm_le_rf _, hQ _ _ _ _ _ e1.symm (Or.inl ⟨mm_is_eq g1, rfl, Or.inr (Or.inr (Or.inr ⟨g2, hz⟩))⟩)⟩⟩
    · cases H
      obtain ⟨g1, g2⟩ := mm_an hc
      refine ⟨mm_le_rf _, fun e1 => ⟨by rw [← e1]; exact mm_le_rf _, hQ _ _ _ _ _ e1.symm (Or.inr (Or.inl ⟨mm_is_eq g1, rfl, g2⟩))⟩⟩
    · cases H
      obtain ⟨g1, g2⟩ := mm_an hc
      refine ⟨mm_le_rf _, fun e1 => ⟨by rw [← e1]; exact mm_le_rf _, hQ _ _ _ _ _ e1.symm (Or.inr (Or.inr ⟨mm_is_eq g1, rfl, g2⟩))⟩⟩
    · cases H
      obtain ⟨g1, g2⟩ := mm_an hc
      refine ⟨mm_le_rf _, fun e1 => ⟨by rw [← e1]; exact mm_le_rf _, hQ0 _ _ _ _ e1.symm (mm_is_eq g1) g2⟩⟩
    · rename_i j
      obtain ⟨hk, H⟩ := mm_ifT H rfl
      obtain ⟨g1, g2⟩ := mm_an hc
      have g2 := Nat.eq_of_beq_eq_true g2
      rcases mm_K_some H with ⟨r, hr, H⟩ | ⟨t, L2, w2, h2, hr, H⟩
      · cases H
        have hg := (hlp _ _ _ _ _ hr).1
        rw [← g2] at hg
        exact hg.one (mm_Wc_nrm hk)
      · obtain ⟨hg, hx⟩ := hlp _ _ _ _ _ hr
        have hk2 := hx _ rfl
        rw [← g2] at hg
        have g3 := (jmp (mm_ex_some H)).one (mm_Wc_nrm hk2)
        exact ⟨mm_le_tr hg.1 g3.1, fun z => ⟨(hg.2 (g3.2 z)).1, mm_Wc_nrm hk (hg.2 (g3.2 z)).2⟩⟩
    · cases H
end MM
end
section
/-! Loops. -/
theorem mm_okt_of : ∀ (tags : List Nat) (k : Nat) (M : List mm_V), (∀ (i t : Nat), tags[i]? = some t → t = 9 ∨ t = 8 ∨ (mm_get (k + i) M).1 = t) → mm_okt tags k M = true
  | [], _, _, _ => rfl
  | t :: ts, k, M, hh => by
    rw [mm_okt, mm_okt_of ts (k + 1) M (fun i u hu => by rw [show k + 1 + i = k + (i + 1) by omega]; exact hh (i + 1) u hu)]
    rcases hh 0 t rfl with q | q | q
    · subst q; rfl
    · subst q; rfl
    · have q : (mm_get k M).1 = t := q
      rw [q]
      have : Nat.beq t t = true := Nat.beq_refl t
      rw [this]
      simp
theorem mm_nrm_get : ∀ (tags : List Nat) (k i t : Nat) (L : List mm_V), tags[i]? = some t → t ≠ 9 → t ≠ 8 → (mm_get i (mm_nrm tags k L)).1 = t
  | [], _, i, t, _, h, _, _ => by simp at h
  | u :: ts, k, 0, t, L, h, h9, h8 => by
    simp only [List.getElem?_cons_zero, Option.some.injEq] at h
    subst h
    rw [mm_nrm]
    have b9 : Nat.beq u 9 = false := by
      cases q : Nat.beq u 9 with
      | true => exact absurd (Nat.eq_of_beq_eq_true q) h9
      | false => rfl
    have b8 : Nat.beq u 8 = false := by
      cases q : Nat.beq u 8 with
      | true => exact absurd (Nat.eq_of_beq_eq_true q) h8
      | false => rfl
    rw [b9, b8]
    rfl
  | u :: ts, k, i + 1, t, L, h, h9, h8 => by
    simp only [List.getElem?_cons_succ] at h
    rw [mm_nrm, mm_get]
    exact mm_nrm_get ts (k + 1) i t L h h9 h8
theorem mm_okt_nrm (tags : List Nat) (L : List mm_V) : mm_okt tags 0 (mm_nrm tags 0 L) = true := by
  refine mm_okt_of tags 0 _ (fun i t hi => ?_)
  by_cases h9 : t = 9
  · exact Or.inl h9
  by_cases h8 : t = 8
  · exact Or.inr (Or.inl h8)
  rw [Nat.zero_add]
  exact Or.inr (Or.inr (mm_nrm_get tags 0 i t L hi h9 h8))
theorem mm_from_chk {lt : List mm_T} {pool : List (Nat × Instr)} {isI : Bool} {rt : Option FieldType} {cc : ByteArray} {nL : Nat} {j : Nat} : ∀ (code : List (Nat × Instr)), mm_chk lt pool isI rt cc nL code = true → mm_chk lt pool isI rt cc nL (mm_from j code) = true ∧ (mm_from j code = [] ∨ mm_nx (mm_from j code) = (mm_row lt j).1)
  | [], _ => ⟨rfl, Or.inl rfl⟩
  | (pc, i) :: tl, h => by
    obtain ⟨h1, h2⟩ := mm_an h
    have ih := mm_from_chk (j := j) tl h2
    rw [mm_from.eq_def]
    dsimp only
    split
    · next k =>
      cases hb : Nat.beq k.toNat j with
      | true =>
        show mm_chk lt pool isI rt cc nL tl = true ∧ (tl = [] ∨ mm_nx tl = (mm_row lt j).1)
        obtain ⟨g1, g2⟩ := mm_an h1
        refine ⟨h2, Or.inr ?_⟩
        rw [← Nat.eq_of_beq_eq_true hb, ← Nat.eq_of_beq_eq_true g2]
        exact Nat.eq_of_beq_eq_true g1
      | false => exact ih
    · exact ih
section MM
variable {D : va_G} {tys : List (ClassId × FieldType)} {B : Nat} {old : Int → Nat} {L0 : Nat} {scr : Nat → Int32}
variable {p : Program} {l : Launch} {e : Env} {R : Room} {s : State} {m : MethodId} {args : Array Value} {below : List Frame} {meth : Method} {c : Code} {nL : Nat} {ρ0 : List Nat} {w0 : mm_W} {Q : State → Prop}
variable {own : String} {cc : ByteArray} {mn : String} {rt : Option FieldType} {pc : Nat} {L st : List mm_V} {w : mm_W} {h : mm_H} {nx : Nat} {tx : String}

variable {rs : mm_R} {lt : List mm_T} {pool : List (Nat × Instr)} {isI : Bool} {O : mm_O} {lp : mm_L} {hi : Nat}
theorem mm_slp (F : mm_Fr D tys B old L0 scr p s m args meth c nL own cc mn rt) (KW : mm_KW) (hp : ∀ q ∈ pool, mm_PK own q.1 q.2) (hI : isI = true → mn = "<init>") (hRm : mm_Rm R ρ0 w0 rs.2.1) (hR : 1 ≤ R.frames ∧ 24 + 13 ≤ R.locals ∧ nativeFrameWords "java/lang/System" "arraycopy" 5 + 11 ≤ R.locals) (hO : ∀ x as w h r, O x as w h = some r → mm_OK D tys B old L0 scr l R x as w h r) (hQ : mm_HQ D tys B old L0 scr p l e R s m args below meth c nL ρ0 w0 Q rs cc rt) (hQ0 : ∀ (pc : Nat) (L : List mm_V) (w : mm_W) (h : mm_H), rs = ((9, 0), w, h) → decode cc pc = .ok (.return_, 1) → mm_rt rt 6 = true → mm_Wc D tys B old L0 scr p l e R s m args below meth c nL ρ0 w0 Q pc L [] w h) (code : List (Nat × Instr)) (hc : mm_chk lt pool isI rt cc nL code = true) : ∀ d, mm_HL D tys B old L0 scr p l e R s m args below meth c nL ρ0 w0 Q rs lt (mm_LP O lt code d) := by
  intro d
  induction d with
  | zero => intro j L w h y H; cases H
  | succ d ihd =>
    intro j L w h y H0
    have H1 := mm_lim_some H0
    clear H0
    obtain ⟨n, H⟩ := H1
    obtain ⟨hc2, hnx⟩ := mm_from_chk (j := j) code hc
    induction n generalizing L w h with
    | zero => cases H
    | succ n ihn =>
      rw [mm_it] at H
      have key : ∃ out, mm_go (α := Option mm_Y) O (mm_LP O lt code d) (mm_lt2 lt) (mm_row lt j).2.1 none (fun r => some (.inl r)) (fun t L st w h => some (.inr (t, L, st, w, h))) (mm_from j code) 0 L [] w h = some out := by
        generalize mm_go (α := Option mm_Y) O (mm_LP O lt code d) (mm_lt2 lt) (mm_row lt j).2.1 none (fun r => some (.inl r)) (fun t L st w h => some (.inr (t, L, st, w, h))) (mm_from j code) 0 L [] w h = z at H
        cases z with
        | none => cases H
        | some out => exact ⟨out, rfl⟩
      obtain ⟨out, ho⟩ := key
      rw [ho] at H
      have g := mm_sg F KW hp hI hRm hR hO ihd hQ hQ0 (mm_from j code) hc2 0 L [] w h out ho
      rw [if_pos rfl] at g
      have hnx2 : mm_nx (mm_from j code) = (mm_row lt j).1 := by
        rcases hnx with q | q
        · rw [q, mm_go] at ho; cases ho
        · exact q
      rw [hnx2] at g
      cases out with
      | inl r =>
        cases H
        exact ⟨g, fun x hx => by cases hx⟩
      | inr x =>
        obtain ⟨t, L2, st2, w2, h2⟩ := x
        cases st2 with
        | cons _ _ => cases H
        | nil =>
          obtain ⟨hk, H⟩ := mm_ifT H rfl
          rcases mm_ifB H with ⟨b, H⟩ | ⟨b, H⟩
          · have b := Nat.eq_of_beq_eq_true b
            subst b
            obtain ⟨g1, g2⟩ := ihn _ _ _ H
            have g3 := g1.one (mm_Wc_nrm hk)
            exact ⟨⟨mm_le_tr g.1 g3.1, fun z => g.2 (g3.2 z)⟩, g2⟩
          · cases H
            refine ⟨⟨g.1, fun z => g.2 ⟨z.1, mm_Wc_nrm hk z.2⟩⟩, fun x hx => ?_⟩
            cases hx
            exact mm_okt_nrm _ _
end MM
end
section
/-! What is made only grows. -/
theorem mm_itS {α : Type} {c : Prop} [Decidable c] {x y : Option α} {z : α} (h : (if c then x else y) = some z) : x = some z ∨ y = some z := by
  by_cases q : c
  · rw [if_pos q] at h; exact Or.inl h
  · rw [if_neg q] at h; exact Or.inr h
set_option maxHeartbeats 4000000 in
theorem mm_mono {O : mm_O} {lp : mm_L} {lt : Nat → List Nat × List Nat} {hi : Nat} (hO : ∀ x as w h r, O x as w h = some r → mm_le w r.2.1) (hlp : ∀ j L w h y, lp j L w h = some y → mm_le w (mm_yw (mm_up y))) : ∀ (code : List (Nat × Instr)) (sk : Nat) (L st : List mm_V) (w : mm_W) (h : mm_H) (out : mm_Y), mm_go O lp lt hi none (fun r => some (.inl r)) (fun t L st w h => some (.inr (t, L, st, w, h))) code sk L st w h = some out → mm_le w (mm_yw out) := by
  intro code
  induction code with
  | nil => intro sk L st w h out H; rw [mm_go] at H; cases H
  | cons q tl ih =>
    intro sk L st w h out H
    obtain ⟨pc, i⟩ := q
    rw [mm_go.eq_def] at H
    dsimp only at H
    have H0 := mm_ifB H
    clear H
    rcases H0 with ⟨b1, H⟩ | ⟨b1, H⟩
    · exact ih sk L st w h out H
    have H0 := mm_ifB H
    clear H
    rcases H0 with ⟨b2, H⟩ | ⟨b2, H⟩
    · cases H
    have H0 := mm_ifB H
    clear H
    rcases H0 with ⟨b3, H⟩ | ⟨b3, H⟩
    · cases H
      exact mm_le_rf _
    have ih0 : ∀ {L st : List mm_V} {w : mm_W} {h : mm_H}, mm_go O lp lt hi none (fun r => some (.inl r)) (fun t L st w h => some (.inr (t, L, st, w, h))) tl 0 L st w h = some out → mm_le w (mm_yw out) := fun H => ih 0 _ _ _ _ out H
    have jmp : ∀ {t : Nat} {L st : List mm_V} {w : mm_W} {h : mm_H}, mm_if (Nat.blt pc t && Nat.blt t hi) (mm_go O lp lt hi none (fun r => some (.inl r)) (fun t L st w h => some (.inr (t, L, st, w, h))) tl t L st w h) (some (.inr (t, L, st, w, h))) = some out → mm_le w (mm_yw out) := by
      intro t L st w h H
      rcases mm_ifB H with ⟨b, H⟩ | ⟨b, H⟩
      · exact ih t L st w h out H
      · cases H
        exact mm_le_rf _
    clear ih b1 b2 b3 sk
    split at H
    · exact ih0 H
    · exact ih0 H
    · exact ih0 H
    · split at H
      · exact ih0 H
      · cases H
    · split at H
      · exact ih0 H
      · cases H
    · split at H
      · exact ih0 H
      · exact ih0 H
      · cases H
    · exact ih0 H
    · exact ih0 H
    · exact ih0 H
    · split at H
      · exact ih0 H
      · cases H
    · exact ih0 H
    · exact ih0 H
    · exact ih0 H
    · obtain ⟨hn, H⟩ := mm_itF H
      exact ih0 H
    · obtain ⟨hn, H⟩ := mm_itF H
      exact ih0 H
    · exact ih0 H
    · exact ih0 H
    · exact ih0 H
    · exact ih0 H
    · exact ih0 H
    · exact ih0 H
    · exact ih0 H
    · exact ih0 H
    · exact ih0 H
    · exact ih0 H
    · exact ih0 H
    · exact ih0 H
    · exact ih0 H
    · exact ih0 H
    · exact ih0 H
    · exact ih0 H
    · exact ih0 H
    · obtain ⟨hs, H⟩ := mm_ifT H rfl
      exact ih0 H
    · obtain ⟨hs, H⟩ := mm_ifT H rfl
      exact ih0 H
    · obtain ⟨hs, H⟩ := mm_ifT H rfl
      obtain ⟨hk, H⟩ := mm_itT H
      exact ih0 H
    · exact ih0 H
    · exact ih0 H
    · exact ih0 H
    · exact ih0 H
    · exact ih0 H
    · exact ih0 H
    · exact ih0 H
    · exact jmp H
    · split at H
      · rcases mm_itS H with H | H
        · exact jmp H
        · exact ih0 H
      · rcases mm_itS H with H | H
        · exact jmp H
        · exact ih0 H
      · rcases mm_itS H with H | H
        · exact jmp H
        · exact ih0 H
      · rcases mm_itS H with H | H
        · exact jmp H
        · exact ih0 H
      · rcases mm_itS H with H | H
        · exact jmp H
        · exact ih0 H
      · rcases mm_itS H with H | H
        · exact ih0 H
        · exact jmp H
    · split at H
      · rcases mm_itS H with H | H
        · exact jmp H
        · exact ih0 H
      · rcases mm_itS H with H | H
        · exact jmp H
        · exact ih0 H
      · rcases mm_itS H with H | H
        · exact jmp H
        · exact ih0 H
      · rcases mm_itS H with H | H
        · exact jmp H
        · exact ih0 H
      · rcases mm_itS H with H | H
        · exact jmp H
        · exact ih0 H
      · rcases mm_itS H with H | H
        · exact ih0 H
        · exact jmp H
    · rcases mm_itS H with H | H
      · exact jmp H
      · exact ih0 H
    · rcases mm_itS H with H | H
      · exact ih0 H
      · exact jmp H
    · rename_i d ps x st1
      have H2 := (mm_sw_id x d (fun t : Int => mm_if (Nat.blt pc t.toNat && Nat.blt t.toNat hi) (mm_go (α := Option mm_Y) O lp lt hi none (fun r => some (.inl r)) (fun t L st w h => some (.inr (t, L, st, w, h))) tl t.toNat L st1 w h) (some (.inr (t.toNat, L, st1, w, h)))) ps.toList).symm.trans H
      exact jmp H2
    · obtain ⟨hk, H⟩ := mm_itT H
      exact ih0 H
    · obtain ⟨hb, H⟩ := mm_ifT H rfl
      obtain ⟨hk, H⟩ := mm_itT H
      rcases mm_ifB H with ⟨q, H⟩ | ⟨q, H⟩
      · obtain ⟨h0, H⟩ := mm_itT H
        exact ih0 H
      · exact ih0 H
    · obtain ⟨hz, H⟩ := mm_itT H
      obtain ⟨hk, H⟩ := mm_itT H
      exact ih0 H
    · obtain ⟨hk, H⟩ := mm_itT H
      exact ih0 H
    · obtain ⟨hk, H⟩ := mm_itT H
      exact ih0 H
    · obtain ⟨hk, H⟩ := mm_itT H
      exact ih0 H
    · obtain ⟨hk, H⟩ := mm_itT H
      exact ih0 H
    · obtain ⟨hk, H⟩ := mm_itT H
      exact ih0 H
    · obtain ⟨hk, H⟩ := mm_itT H
      exact ih0 H
    · obtain ⟨hk, H⟩ := mm_itT H
      exact ih0 H
    · obtain ⟨hz, H⟩ := mm_itT H
      obtain ⟨hk, H⟩ := mm_itT H
      exact ih0 H
    · obtain ⟨hk, H⟩ := mm_itT H
      exact ih0 H
    · obtain ⟨hk, H⟩ := mm_itT H
      exact ih0 H
    · obtain ⟨hk, H⟩ := mm_itT H
      exact ih0 H
    · exact mm_le_tr (mm_le_new (Int.natCast_nonneg _)) (ih0 H)
    · obtain ⟨⟨h0, h1⟩, H⟩ := mm_itT H
      exact mm_le_tr (mm_le_new h0) (ih0 H)
    · obtain ⟨hq, H⟩ := mm_itT H
      exact ih0 H
    · split at H
      · cases H
      · obtain ⟨hs, H⟩ := mm_ifT H rfl
        obtain ⟨r, hr, ht, H⟩ := mm_C_some H
        rcases mm_ifB H with ⟨q, H⟩ | ⟨q, H⟩
        · exact mm_le_tr (hO _ _ _ _ _ hr) (ih0 H)
        · exact mm_le_tr (hO _ _ _ _ _ hr) (ih0 H)
    · split at H
      · obtain ⟨hs, H⟩ := mm_ifT H rfl
        obtain ⟨hk, H⟩ := mm_itT H
        obtain ⟨r, hr, ht, H⟩ := mm_C_some H
        rcases mm_ifB H with ⟨q, H⟩ | ⟨q, H⟩
        · exact mm_le_tr (hO _ _ _ _ _ hr) (ih0 H)
        · exact mm_le_tr (hO _ _ _ _ _ hr) (ih0 H)
      · cases H
    · cases H
      exact mm_le_rf _
    · obtain ⟨hz, H⟩ := mm_itT H
      cases H
      exact mm_le_rf _
    · obtain ⟨hz, H⟩ := mm_itT H
      cases H
      exact mm_le_rf _
    · obtain ⟨hz, H⟩ := mm_itT H
      cases H
      exact mm_le_rf _
    · cases H
      exact mm_le_rf _
    · cases H
      exact mm_le_rf _
    · cases H
      exact mm_le_rf _
    · obtain ⟨hk, H⟩ := mm_ifT H rfl
      rcases mm_K_some H with ⟨r, hr, H⟩ | ⟨t, L2, w2, h2, hr, H⟩
      · cases H
        exact hlp _ _ _ _ _ hr
      · exact mm_le_tr (hlp _ _ _ _ _ hr) (jmp (mm_ex_some H))
    · cases H
theorem mm_mono_lp {O : mm_O} {lt : List mm_T} {code : List (Nat × Instr)} (hO : ∀ x as w h r, O x as w h = some r → mm_le w r.2.1) : ∀ d j L w h y, mm_LP O lt code d j L w h = some y → mm_le w (mm_yw (mm_up y)) := by
  intro d
  induction d with
  | zero => intro j L w h y H; cases H
  | succ d ihd =>
    intro j L w h y H0
    have H1 := mm_lim_some H0
    clear H0
    obtain ⟨n, H⟩ := H1
    induction n generalizing L w h with
    | zero => cases H
    | succ n ihn =>
      rw [mm_it] at H
      have key : ∃ out, mm_go (α := Option mm_Y) O (mm_LP O lt code d) (mm_lt2 lt) (mm_row lt j).2.1 none (fun r => some (.inl r)) (fun t L st w h => some (.inr (t, L, st, w, h))) (mm_from j code) 0 L [] w h = some out := by
        generalize mm_go (α := Option mm_Y) O (mm_LP O lt code d) (mm_lt2 lt) (mm_row lt j).2.1 none (fun r => some (.inl r)) (fun t L st w h => some (.inr (t, L, st, w, h))) (mm_from j code) 0 L [] w h = z at H
        cases z with
        | none => cases H
        | some out => exact ⟨out, rfl⟩
      obtain ⟨out, ho⟩ := key
      rw [ho] at H
      have g := mm_mono hO ihd (mm_from j code) 0 L [] w h out ho
      cases out with
      | inl r =>
        cases H
        exact g
      | inr x =>
        obtain ⟨t, L2, st2, w2, h2⟩ := x
        cases st2 with
        | cons _ _ => cases H
        | nil =>
          obtain ⟨hk, H⟩ := mm_ifT H rfl
          rcases mm_ifB H with ⟨b, H⟩ | ⟨b, H⟩
          · exact mm_le_tr g (ihn _ _ _ H)
          · cases H
            exact g
/-- a run, as a region -/
theorem mm_run_go {O : mm_O} {q : mm_M} {as : List mm_V} {w : mm_W} {h : mm_H} {r : mm_R} (H : mm_run O q as w h = some r) : mm_len (mm_loc as) ≤ q.2.1 ∧ mm_go (α := Option mm_Y) O (mm_LP O q.2.2 q.1 6) (mm_lt2 q.2.2) 1000000 none (fun r => some (.inl r)) (fun t L st w h => some (.inr (t, L, st, w, h))) q.1 0 (mm_pad q.2.1 (mm_loc as)) [] w h = some (.inl r) := by
  obtain ⟨h1, H⟩ := mm_ifT H rfl
  refine ⟨Nat.le_of_ble_eq_true h1, ?_⟩
  rw [← mm_bind_go] at H
  generalize mm_go (α := Option mm_Y) O (mm_LP O q.2.2 q.1 6) (mm_lt2 q.2.2) 1000000 none (fun r => some (.inl r)) (fun t L st w h => some (.inr (t, L, st, w, h))) q.1 0 (mm_pad q.2.1 (mm_loc as)) [] w h = z at H ⊢
  cases z with
  | none => cases H
  | some y =>
    cases y with
    | inl x => cases H; rfl
    | inr x => cases H
theorem mm_run_le {O : mm_O} {q : mm_M} {as : List mm_V} {w : mm_W} {h : mm_H} {r : mm_R} (hO : ∀ x as w h r, O x as w h = some r → mm_le w r.2.1) (H : mm_run O q as w h = some r) : mm_le w r.2.1 :=
  mm_mono hO (mm_mono_lp hO 6) q.1 0 _ [] w h _ (mm_run_go H).2
end
section
/-! A method's run is its contract. -/
theorem mm_pad_at : ∀ (n : Nat) (l : List mm_V) (i : Nat) (v : mm_V), (mm_pad n l)[i]? = some v → v.1 ≤ 3 → l[i]? = some v
  | 0, _, i, v, h, _ => by simp [mm_pad] at h
  | n + 1, [], 0, v, h, h3 => by
    simp only [mm_pad, List.getElem?_cons_zero, Option.some.injEq] at h
    subst h
    exact absurd h3 (by decide)
  | n + 1, [], i + 1, v, h, h3 => by
    simp only [mm_pad, List.getElem?_cons_succ] at h
    have := mm_pad_at n [] i v h h3
    simp at this
  | n + 1, x :: l, 0, v, h, h3 => by
    simpa only [mm_pad, List.getElem?_cons_zero] using h
  | n + 1, x :: l, i + 1, v, h, h3 => by
    simp only [mm_pad, List.getElem?_cons_succ] at h ⊢
    exact mm_pad_at n l i v h h3
theorem mm_loc_one (z : Int) (vs : List mm_V) : mm_loc ((1, z) :: vs) = (1, z) :: (8, 0) :: mm_loc vs := rfl
theorem mm_loc_two (t : Nat) (z : Int) (vs : List mm_V) (h : t ≠ 1) : mm_loc ((t, z) :: vs) = (t, z) :: mm_loc vs := by
  rw [mm_loc.eq_def]
  split
  · next e => cases e
  · next e => cases e; exact absurd rfl h
  · next e => cases e; rfl
theorem mm_loc_len {old : Int → Nat} {ρ : List Nat} : ∀ {as : List mm_V} {av : List Value}, mm_SR old ρ as av → mm_len (mm_loc as) = (lg_sl av).length
  | [], [], _ => rfl
  | [], _ :: _, h => h.elim
  | _ :: _, [], h => h.elim
  | (t, z) :: as, x :: av, h => by
    have ih := mm_loc_len h.2
    have e := mm_VR_cat h.1
    have hs : lg_sl (x :: av) = (if x.category = 2 then [Slot.val x, Slot.second] else [Slot.val x]) ++ lg_sl av := rfl
    by_cases q : t = 1
    · subst q
      rw [mm_loc_one, hs, if_pos (e.mpr rfl), List.length_append, ← ih]
      show Nat.succ (Nat.succ (mm_len (mm_loc as))) = 2 + mm_len (mm_loc as)
      omega
    · rw [mm_loc_two t z as q, hs, if_neg (fun c => q (e.mp c)), List.length_append, ← ih]
      show Nat.succ (mm_len (mm_loc as)) = 1 + mm_len (mm_loc as)
      omega
theorem mm_loc_at {old : Int → Nat} {ρ : List Nat} : ∀ {as : List mm_V} {av : List Value} (k : Nat), mm_SR old ρ as av → ∀ (i : Nat) (v : mm_V), (mm_loc as)[i]? = some v → v.1 ≤ 3 → ∃ x, (k + i, x) ∈ lv_args k av ∧ mm_VR old ρ v x
  | [], [], k, _, i, v, hi, _ => by simp [mm_loc] at hi
  | [], _ :: _, _, h, _, _, _, _ => h.elim
  | _ :: _, [], _, h, _, _, _, _ => h.elim
  | (t, z) :: as, x :: av, k, h, i, v, hi, h3 => by
    have e := mm_VR_cat h.1
    have hs : lv_args k (x :: av) = (k, x) :: lv_args (if x.category = 2 then k + 2 else k + 1) av := rfl
    by_cases q : t = 1
    · subst q
      rw [mm_loc_one] at hi
      rw [hs, if_pos (e.mpr rfl)]
      match i, hi with
      | 0, hi =>
        simp only [List.getElem?_cons_zero, Option.some.injEq] at hi
        subst hi
        exact ⟨x, List.mem_cons_self, h.1⟩
      | 1, hi =>
        simp only [List.getElem?_cons_succ, List.getElem?_cons_zero, Option.some.injEq] at hi
        subst hi
        exact absurd h3 (by decide)
      | i + 2, hi =>
        simp only [List.getElem?_cons_succ] at hi
        obtain ⟨y, h1, h2⟩ := mm_loc_at (k + 2) h.2 i v hi h3
        exact ⟨y, List.mem_cons_of_mem _ (by rw [show k + (i + 2) = k + 2 + i by omega]; exact h1), h2⟩
    · rw [mm_loc_two t z as q] at hi
      rw [hs, if_neg (fun c => q (e.mp c))]
      match i, hi with
      | 0, hi =>
        simp only [List.getElem?_cons_zero, Option.some.injEq] at hi
        subst hi
        exact ⟨x, List.mem_cons_self, h.1⟩
      | i + 1, hi =>
        simp only [List.getElem?_cons_succ] at hi
        obtain ⟨y, h1, h2⟩ := mm_loc_at (k + 1) h.2 i v hi h3
        exact ⟨y, List.mem_cons_of_mem _ (by rw [show k + (i + 1) = k + 1 + i by omega]; exact h1), h2⟩
theorem mm_LR_in {old : Int → Nat} {ρ : List Nat} {as : List mm_V} {av : List Value} {nL : Nat} (h : mm_SR old ρ as av) (hn : mm_len (mm_loc as) ≤ nL) : mm_LR old ρ nL (mm_pad nL (mm_loc as)) ((lg_sl av ++ List.replicate (nL - (lg_sl av).length) Slot.unset).toArray) := by
  rw [mm_loc_len h] at hn
  have hl := lv_entry av hn
  refine ⟨hl.1, hl.2.1, fun i v hi hv => ?_⟩
  obtain ⟨x, h1, h2⟩ := mm_loc_at 0 h i v (mm_pad_at _ _ i v hi hv) hv
  rw [Nat.zero_add] at h1
  exact ⟨x, hl.2.2 (i, x) h1, h2⟩
theorem mm_rt0 {rt : Option FieldType} (h : mm_rt rt 0 = true) : rt = some .int := by
  cases rt with
  | none => cases h
  | some ty => cases ty <;> first | rfl | cases h
theorem mm_rt1 {rt : Option FieldType} (h : mm_rt rt 1 = true) : rt = some .boolean := by
  cases rt with
  | none => cases h
  | some ty => cases ty <;> first | rfl | cases h
theorem mm_rt2 {rt : Option FieldType} (h : mm_rt rt 2 = true) : rt = some .char := by
  cases rt with
  | none => cases h
  | some ty => cases ty <;> first | rfl | cases h
theorem mm_rt3 {rt : Option FieldType} (h : mm_rt rt 3 = true) : rt = some .byte := by
  cases rt with
  | none => cases h
  | some ty => cases ty <;> first | rfl | cases h
theorem mm_rt4 {rt : Option FieldType} (h : mm_rt rt 4 = true) : rt = some .long := by
  cases rt with
  | none => cases h
  | some ty => cases ty <;> first | rfl | cases h
theorem mm_rt5 {rt : Option FieldType} (h : mm_rt rt 5 = true) : ∃ ty, rt = some ty ∧ ((∃ n, ty = .object n) ∨ ∃ t, ty = .array t) := by
  cases rt with
  | none => cases h
  | some ty => cases ty <;> first | exact ⟨_, rfl, Or.inl ⟨_, rfl⟩⟩ | exact ⟨_, rfl, Or.inr ⟨_, rfl⟩⟩ | cases h
theorem mm_rt6 {rt : Option FieldType} (h : mm_rt rt 6 = true) : rt = none := by
  cases rt with
  | none => rfl
  | some ty => cases ty <;> cases h
theorem mm_nar_c {z : Int} (h0 : 0 ≤ z) (h1 : z < 65536) : narrow .char (.int (Int32.ofInt z)) = .int (Int32.ofInt z) := by
  show Value.int (Int32.ofInt z).toUInt32.toUInt16.toUInt32.toInt32 = _
  congr 1
  have e := mm_char (x := z) ⟨by omega, by omega⟩
  unfold mC6 at e
  rw [show Int.emod z 65536 = z from Int.emod_eq_of_lt h0 h1] at e
  rw [UInt32.toUInt32_toUInt16]
  exact e
theorem mm_nar_b {z : Int} (h0 : -128 ≤ z) (h1 : z < 128) : narrow .byte (.int (Int32.ofInt z)) = .int (Int32.ofInt z) := by
  show Value.int (Int32.ofInt z).toInt8.toInt32 = _
  congr 1
  rw [← Int32.toInt_inj, Int8.toInt_toInt32, Int32.toInt_toInt8, i32_o ⟨by omega, by omega⟩]
  exact (Int.bmod_eq_iff (by decide)).mpr (by omega)
theorem mm_nat_room : nativeFrameWords "java/lang/System" "arraycopy" 5 + 11 ≤ 96 := by decide +kernel
section MM
variable {D : va_G} {tys : List (ClassId × FieldType)} {B : Nat} {old : Int → Nat} {L0 : Nat} {scr : Nat → Int32}
variable {p : Program} {l : Launch} {e : Env} {R : Room} {s : State} {m : MethodId} {args : Array Value} {below : List Frame} {meth : Method} {c : Code} {nL : Nat} {ρ0 : List Nat} {w0 : mm_W} {Q : State → Prop}
variable {own : String} {cc : ByteArray} {mn : String} {rt : Option FieldType} {pc : Nat} {L st : List mm_V} {w : mm_W} {h : mm_H} {nx : Nat} {tx : String}

theorem mm_met {y : MethodName} {lt : List mm_T} {pool : List (Nat × Instr)} {isI : Bool} {O : mm_O} {code : List (Nat × Instr)} {as : List mm_V} {r : mm_R} {d : Nat} (KW : mm_KW) (hy : plainName y.cls = true) (hp : ∀ q ∈ pool, mm_PK y.cls q.1 q.2) (hI : isI = true → y.name = "<init>") (hc : mm_chk lt pool isI rt cc nL code = true) (h0 : mm_nx code = 0) (hd : 1 ≤ d) (hO1 : ∀ x as w h r, O x as w h = some r → mm_le w r.2.1) (hO : ∀ mc ms x as w h r, O x as w h = some r → mm_OK D tys B old L0 scr l (mm_rm d mc ms) x as w h r) (H : mm_run O (code, nL, lt) as w h = some r) : mm_Met D tys B old L0 scr l d y cc nL rt as w h r := by
  have hle := mm_run_le hO1 H
  obtain ⟨hn, H⟩ := mm_run_go H
  intro ρ
  refine Met.ofW (cc := cc) (maxL := nL) (ret := rt) hy rfl ?_
  intro p e s m args below meth c s₁ Bd hml hv
  obtain ⟨av, rfl, hst, hE, hHR⟩ := hv
  have hts := atoms_spec (ws := Jvm.Cond.code y cc nL rt :: lw_g) Bd.pre
  have hown : s.vm.findClass y.cls = some m.cls := findClass_of_methodNamed Bd.named
  have hin : meth.name = y.name := (name_of_methodNamed Bd.named Bd.method).1
  have F : mm_Fr D tys B old L0 scr p s m av.toArray meth c nL y.cls cc y.name rt := ⟨Bd.exec, Bd.bytes, hml, hown, fun w hw => hts w (List.mem_cons_of_mem _ hw), hE, hin, Bd.returns, Bd.notSynchronized⟩
  have h96 : 96 ≤ 96 * d := by omega
  have hfin : ∀ (ρ2 : List Nat) (v : mm_V) (wr : mm_W) (hr : mm_H) (H2 : Heap) (locs : List Loc) (o : Outcome), r = (v, wr, hr) → mm_Px ρ w ρ2 wr → mm_HR D tys B old L0 scr ρ2 wr hr H2 → va_S (mm_A B) s.heap H2 locs → mm_out old ρ2 v o → ∀ t : State, t.heap = H2 → s.WarmedH t.vm → mm_CQ D tys B old L0 scr ρ r av.toArray s o t := by
    rintro ρ2 v wr hr H2 locs o rfl ⟨⟨ρx, rfl⟩, -⟩ hH hS ho t ht -
    exact ⟨⟨ρx, ho, by rw [ht]; exact hH⟩, hS.F ht⟩
  have hQ : mm_HQ D tys B old L0 scr p l e (mm_rm d (r.2.1.2.1 - w.2.1).toNat (r.2.1.2.2 - w.2.2).toNat) s m av.toArray below meth c nL ρ w (MQ below (mm_CQ D tys B old L0 scr ρ r) av.toArray s (r.2.1.2.1 - w.2.1).toNat (r.2.1.2.2 - w.2.2).toNat (mm_A B)) r cc rt := by
    intro pc L v w2 h2 hr hk ρ2 H2 locs ls sv hρ hH hS hL hst2
    obtain ⟨x, sv, rfl, hx, hst3⟩ := mm_SR_cons hst2
    have hst3 := mm_SR_nil hst3
    subst hst3
    have hf := fun (o : Outcome) (ho : mm_out old ρ2 v o) => hfin ρ2 v w2 h2 H2 locs o hr hρ hH hS ho
    subst hr
    rcases hk with ⟨hdg, hv0, hk⟩ | ⟨hdg, hv0, hk⟩ | ⟨hdg, hv0, hk⟩
    · obtain ⟨t, z⟩ := v
      have hv0 : t = 0 := hv0
      subst hv0
      obtain ⟨hz, rfl⟩ := hx
      have ho := hf (.returned (some (.int (Int32.ofInt z)))) (Or.inr ⟨Nat.le_of_ble_eq_true rfl, _, rfl, hz, rfl⟩)
      rcases hk with hk | ⟨hk, hz2⟩ | ⟨hk, hz2⟩ | ⟨hk, hz2⟩
      · have e1 := mm_rt0 hk
        exact W.iret F.1 F.2.1 (Bd.returns.trans e1) ho hS.2.2 hdg Bd.notSynchronized
      · have e1 := mm_rt1 hk
        refine W.zret F.1 F.2.1 (Bd.returns.trans e1) ?_ ho hS.2.2 hdg Bd.notSynchronized
        have hz2 : z = 0 ∨ z = 1 := hz2
        rcases hz2 with rfl | rfl <;> rfl
      · have e1 := mm_rt2 hk
        refine W.zret F.1 F.2.1 (Bd.returns.trans e1) ?_ ho hS.2.2 hdg Bd.notSynchronized
        exact mm_nar_c hz2.1 hz2.2
      · have e1 := mm_rt3 hk
        refine W.zret F.1 F.2.1 (Bd.returns.trans e1) ?_ ho hS.2.2 hdg Bd.notSynchronized
        exact mm_nar_b hz2.1 hz2.2
    · obtain ⟨t, z⟩ := v
      have hv0 : t = 1 := hv0
      subst hv0
      obtain ⟨hz, rfl⟩ := hx
      have ho := hf (.returned (some (.long (Int64.ofInt z)))) (Or.inr ⟨Nat.le_of_ble_eq_true rfl, _, rfl, hz, rfl⟩)
      have e1 := mm_rt4 hk
      exact W.lret F.1 F.2.1 (Bd.returns.trans e1) ho hS.2.2 hdg Bd.notSynchronized
    · obtain ⟨t, z⟩ := v
      have hv0 : t = 2 := hv0
      subst hv0
      obtain ⟨hz, rfl⟩ := hx
      have ho := hf (.returned (some (va_rf (mm_adr old ρ2 z)))) (Or.inr ⟨Nat.le_of_ble_eq_true rfl, _, rfl, hz, rfl⟩)
      have e1 := mm_rt5 hk
      obtain ⟨ty, e1, e2⟩ := e1
      refine W.aret F.1 F.2.1 (Bd.returns.trans e1) e2 ?_ ho hS.2.2 hdg Bd.notSynchronized
      show va_rf (mm_adr old ρ2 z) = .null ∨ ∃ a, va_rf (mm_adr old ρ2 z) = .ref a
      cases mm_adr old ρ2 z with
      | none => exact Or.inl rfl
      | some a => exact Or.inr ⟨a, rfl⟩
  have hQ0 : ∀ (pc : Nat) (L : List mm_V) (w2 : mm_W) (h2 : mm_H), r = ((9, 0), w2, h2) → decode cc pc = .ok (.return_, 1) → mm_rt rt 6 = true → mm_Wc D tys B old L0 scr p l e (mm_rm d (r.2.1.2.1 - w.2.1).toNat (r.2.1.2.2 - w.2.2).toNat) s m av.toArray below meth c nL ρ w (MQ below (mm_CQ D tys B old L0 scr ρ r) av.toArray s (r.2.1.2.1 - w.2.1).toNat (r.2.1.2.2 - w.2.2).toNat (mm_A B)) pc L [] w2 h2 := by
    intro pc L w2 h2 hr hdg hk ρ2 H2 locs ls sv hρ hH hS hL hst2
    have hst3 := mm_SR_nil hst2
    subst hst3
    have ho := hfin ρ2 (9, 0) w2 h2 H2 locs (.returned none) hr hρ hH hS (Or.inl ⟨rfl, rfl⟩)
    subst hr
    have e1 := mm_rt6 hk
    exact W.vret F.1 F.2.1 (Bd.returns.trans e1) ho hS.2.2 hdg Bd.notSynchronized
  have hRm : mm_Rm (mm_rm d (r.2.1.2.1 - w.2.1).toNat (r.2.1.2.2 - w.2.2).toNat) ρ w r.2.1 := ⟨Nat.le_refl _, Nat.le_refl _⟩
  have hR : 1 ≤ (mm_rm d (r.2.1.2.1 - w.2.1).toNat (r.2.1.2.2 - w.2.2).toNat).frames ∧ 24 + 13 ≤ (mm_rm d (r.2.1.2.1 - w.2.1).toNat (r.2.1.2.2 - w.2.2).toNat).locals ∧ nativeFrameWords "java/lang/System" "arraycopy" 5 + 11 ≤ (mm_rm d (r.2.1.2.1 - w.2.1).toNat (r.2.1.2.2 - w.2.2).toNat).locals := ⟨hd, Nat.le_trans (by decide) h96, Nat.le_trans mm_nat_room h96⟩
  have hlp := mm_slp F KW hp hI hRm hR (hO _ _) hQ hQ0 code hc 6
  have g := mm_sg F KW hp hI hRm hR (hO _ _) hlp hQ hQ0 code hc 0 _ [] w h _ H
  rw [if_pos rfl, h0] at g
  have k := (g.2 rfl).2 ρ s.heap [] _ [] ⟨⟨[], by simp⟩, Int.le_refl _, Int.le_refl _⟩ hHR va_S.rf (mm_LR_in hst hn) trivial
  rw [lg_entry_eq]
  have z1 : (w.2.1 - w.2.1).toNat = 0 := by omega
  have z2 : (w.2.2 - w.2.2).toNat = 0 := by omega
  rw [z1, z2] at k
  exact k
end MM
end
section
/-! Pools: what a class's constant pool says, by the words' positions. -/
theorem mm_cf {ci : Nat} {C : String} {T : u_T} {N : Nat} (h : mm_cls[ci]? = some (C, T, N)) : ∃ ty : Nat → FieldType, N = mm_nf (ci + 1) ∧ (∀ w ∈ u_ws C T N, w ∈ lw_g) ∧ (∀ j, j < N → parseFieldDescriptor (T j).2.2.1 = some (ty j)) ∧ (∀ a, a < N → ∀ b, b < N → a ≠ b → (T a).2.1 ≠ (T b).2.1) := by
  have hl := mm_cls_lt h
  match ci, h, hl with
  | 0, h, _ => cases h; exact ⟨mm_Y0, rfl, mm_I0, mm_Y0_ok, mm_N0⟩
  | 1, h, _ => cases h; exact ⟨mm_Y1, rfl, mm_I1, mm_Y1_ok, mm_N1⟩
  | 2, h, _ => cases h; exact ⟨mm_Y2, rfl, mm_I2, mm_Y2_ok, mm_N2⟩
  | 3, h, _ => cases h; exact ⟨mm_Y3, rfl, mm_I3, mm_Y3_ok, mm_N3⟩
  | 4, h, _ => cases h; exact ⟨mm_Y4, rfl, mm_I4, mm_Y4_ok, mm_N4⟩
  | 5, h, _ => cases h; exact ⟨mm_Y5, rfl, mm_I5, mm_Y5_ok, mm_N5⟩
  | 6, h, _ => cases h; exact ⟨mm_Y6, rfl, mm_I6, mm_Y6_ok, mm_N6⟩
  | 7, h, _ => cases h; exact ⟨mm_Y7, rfl, mm_I7, mm_Y7_ok, mm_N7⟩
  | 8, h, _ => cases h; exact ⟨mm_Y8, rfl, mm_I8, mm_Y8_ok, mm_N8⟩
  | 9, h, _ => cases h; exact ⟨mm_Y9, rfl, mm_I9, mm_Y9_ok, mm_N9⟩
  | 10, h, _ => cases h; exact ⟨mm_Y10, rfl, mm_I10, mm_Y10_ok, mm_N10⟩
  | 11, h, _ => cases h; exact ⟨mm_Y11, rfl, mm_I11, mm_Y11_ok, mm_N11⟩
  | 12, h, _ => cases h; exact ⟨mm_Y12, rfl, mm_I12, mm_Y12_ok, mm_N12⟩
  | n + 13, _, hl => exact absurd hl (by omega)
def mm_hw (p : Nat) (w : Jvm.Cond) : Bool := decide (lw_tbl[p]? = some w) && goodWord w
theorem mm_hw_g {p : Nat} {w : Jvm.Cond} (h : mm_hw p w = true) : w ∈ lw_g := by
  obtain ⟨h1, h2⟩ := mm_an h
  exact List.mem_filter.mpr ⟨List.mem_of_getElem? (of_decide_eq_true h1), h2⟩
theorem mm_tyq {t : Nat} {d : String} {ty : FieldType} (ht : mm_tyok t d = true) (hd : parseFieldDescriptor d = some ty) : (t = 0 ∧ (ty = .int ∨ ty = .boolean)) ∨ (t = 1 ∧ ty = .long) ∨ (t = 2 ∧ ((∃ n, ty = .object n) ∨ ∃ n, ty = .array n)) := by
  unfold mm_tyok at ht
  split at ht
  · rcases (Bool.or_eq_true _ _).mp ht with q | q
    · have q := eq_of_beq q
      subst q
      rw [show parseFieldDescriptor "I" = some .int by decide +kernel] at hd
      exact Or.inl ⟨rfl, Or.inl (Option.some.inj hd).symm⟩
    · have q := eq_of_beq q
      subst q
      rw [show parseFieldDescriptor "Z" = some .boolean by decide +kernel] at hd
      exact Or.inl ⟨rfl, Or.inr (Option.some.inj hd).symm⟩
  · have q := eq_of_beq ht
    subst q
    rw [show parseFieldDescriptor "J" = some .long by decide +kernel] at hd
    exact Or.inr (Or.inl ⟨rfl, (Option.some.inj hd).symm⟩)
  · rw [hd] at ht
    split at ht
    · next q =>
      cases q
      exact Or.inr (Or.inr ⟨rfl, Or.inl ⟨_, rfl⟩⟩)
    · next q =>
      cases q
      exact Or.inr (Or.inr ⟨rfl, Or.inr ⟨_, rfl⟩⟩)
    · cases ht
  · cases ht
def mm_pf (own : String) (i x p : Nat) (f : String × String × String × Bool → Bool) : Bool := match Nat.div x 256 with
  | 0 => false
  | ci + 1 => match mm_cls[ci]? with
    | none => false
    | some (C, T, N) => decide (Nat.mod x 4 = mm_ft (ci + 1) (Nat.mod (Nat.div x 4) 64)) && (decide (Nat.mod (Nat.div x 4) 64 < N) && (mm_hw p (.fieldLink own i C (T (Nat.mod (Nat.div x 4) 64)).2.1 (T (Nat.mod (Nat.div x 4) 64)).2.2.1) && (decide ((T (Nat.mod (Nat.div x 4) 64)).1 = C) && f (T (Nat.mod (Nat.div x 4) 64)))))
theorem mm_pf_g {own : String} {i x p : Nat} {f : String × String × String × Bool → Bool} (h : mm_pf own i x p f = true) : ∃ ci k C T N, Nat.div x 256 = ci + 1 ∧ Nat.mod (Nat.div x 4) 64 = k ∧ Nat.mod x 4 = mm_ft (ci + 1) k ∧ mm_fOK own i ci k ∧ mm_cls[ci]? = some (C, T, N) ∧ f (T k) = true := by
  unfold mm_pf at h
  split at h
  · cases h
  · next ci e =>
    split at h
    · cases h
    · next C T N e2 =>
      obtain ⟨h1, h⟩ := mm_an h
      obtain ⟨h2, h⟩ := mm_an h
      obtain ⟨h3, h⟩ := mm_an h
      obtain ⟨h4, h5⟩ := mm_an h
      obtain ⟨ty, g1, g2, g3, g4⟩ := mm_cf e2
      exact ⟨ci, _, C, T, N, e, rfl, of_decide_eq_true h1, ⟨C, T, N, ty, e2, g1, of_decide_eq_true h2, g2, g3, g4, mm_hw_g h3, of_decide_eq_true h4, mm_tyq (mm_ty_at e2 (Nat.lt_of_lt_of_eq (of_decide_eq_true h2) g1)) (g3 _ (of_decide_eq_true h2))⟩, e2, h5⟩
def mm_hn (own : String) (i p : Nat) (y : MethodName) : Bool := match lw_tbl[p]? with
  | some (.methodLinkNest o j z _) => decide (o = own ∧ j = i ∧ z = y)
  | _ => false
theorem mm_hn_g {own : String} {i p : Nat} {y : MethodName} (h : mm_hn own i p y = true) : ∃ host, Jvm.Cond.methodLinkNest own i y host ∈ lw_tbl := by
  unfold mm_hn at h
  split at h
  · next o j z host e =>
    obtain ⟨rfl, rfl, rfl⟩ := of_decide_eq_true h
    exact ⟨host, List.mem_of_getElem? e⟩
  · cases h
def mm_hc (own : String) (i kd : Nat) (y : MethodName) (n p0 p1 p2 p3 : Nat) : Bool := mm_hw p0 (.initialized y.cls) && (decide (y.cls ≠ "java/lang/invoke/MethodHandle" ∧ y.cls ≠ "java/lang/invoke/VarHandle") && ((mm_hw p1 (.methodLink own i y) || mm_hn own i p1 y) && (match kd, n with
  | 0, n => mm_hw p2 (.static y) && decide ((parseMethodDescriptor y.desc).map (fun d => d.parameters.length) = some n)
  | 1, n1 + 1 => mm_hw p2 (.instanceMethod y) && (mm_hw p3 (.selects y.cls y y) && decide ((parseMethodDescriptor y.desc).map (fun d => d.parameters.length) = some n1))
  | 2, n1 + 1 => decide (y.name = "<init>") && (mm_hw p2 (.instanceMethod y) && decide ((parseMethodDescriptor y.desc).map (fun d => d.parameters.length) = some n1))
  | _, _ => false)))
theorem mm_hc_g {own : String} {i kd : Nat} {y : MethodName} {n p0 p1 p2 p3 : Nat} (h : mm_hc own i kd y n p0 p1 p2 p3 = true) : mm_cOK own i kd y n := by
  unfold mm_hc at h
  obtain ⟨h1, h⟩ := mm_an h
  obtain ⟨h2, h⟩ := mm_an h
  obtain ⟨h3, h⟩ := mm_an h
  refine ⟨mm_hw_g h1, of_decide_eq_true h2, ?_, ?_⟩
  · rcases (Bool.or_eq_true _ _).mp h3 with q | q
    · exact Or.inl (mm_hw_g q)
    · exact Or.inr (mm_hn_g q)
  · split at h
    · obtain ⟨a, b⟩ := mm_an h
      exact Or.inl ⟨rfl, mm_hw_g a, of_decide_eq_true b⟩
    · obtain ⟨a, b⟩ := mm_an h
      obtain ⟨b, c⟩ := mm_an b
      exact Or.inr (Or.inl ⟨rfl, mm_hw_g a, mm_hw_g b, _, rfl, of_decide_eq_true c⟩)
    · obtain ⟨a, b⟩ := mm_an h
      obtain ⟨b, c⟩ := mm_an b
      exact Or.inr (Or.inr ⟨rfl, of_decide_eq_true a, mm_hw_g b, _, rfl, of_decide_eq_true c⟩)
    · cases h
def mm_rc (y : MethodName) (k : Nat) : Bool := (match k with
  | 0 => false
  | ci + 1 => match mm_cls[ci]? with
    | some q => decide (q.1 = y.cls)
    | none => false) || (decide (y.cls = "java/lang/String") && decide (k = 14))
theorem mm_rc_g {y : MethodName} {k : Nat} (h : mm_rc y k = true) : (∃ ci, ∃ q : vw_C, mm_cls[ci]? = some q ∧ q.1 = y.cls ∧ k = ci + 1) ∨ (y.cls = "java/lang/String" ∧ k = 14) := by
  unfold mm_rc at h
  rcases (Bool.or_eq_true _ _).mp h with h | h
  · split at h
    · cases h
    · next ci hO =>
      split at h
      · next q e => exact Or.inl ⟨ci, q, e, of_decide_eq_true h, rfl⟩
      · cases h
  · obtain ⟨a, b⟩ := mm_an h
    exact Or.inr ⟨of_decide_eq_true a, of_decide_eq_true b⟩
def mm_pe (own : String) (i : Nat) (ps : List Nat) : Instr → Bool
  | .iconst n => mm_hw (mm_nth 0 0 ps) (.constant own i (Int32.ofInt n))
  | .jsr n => mm_hw (mm_nth 0 0 ps) (.constantLong own i (Int64.ofInt n))
  | .sipush n => decide (mm_nth 0 0 ps < 12) && (decide (n = -(10 + 2 * ((mm_nth 0 0 ps : Nat) : Int))) && decide ((mm_nth ("", 0, "") (mm_nth 0 0 ps) mm_str).1 = own ∧ (mm_nth ("", 0, "") (mm_nth 0 0 ps) mm_str).2.1 = i))
  | .nop => mm_hw (mm_nth 0 0 ps) (.fieldLink own i "java/lang/String" "COMPACT_STRINGS" "Z")
  | .pop2 => mm_hw (mm_nth 0 0 ps) (.fieldLink own i "jdk/internal/util/Preconditions" "SIOOBE_FORMATTER" "Ljava/util/function/BiFunction;")
  | .getfield x => mm_pf own i x (mm_nth 0 0 ps) (fun _ => true) || ((Nat.beq x 3586 && mm_hw (mm_nth 0 0 ps) (.fieldLink own i "java/lang/String" "value" "[B")) || (Nat.beq x 3588 && mm_hw (mm_nth 0 0 ps) (.fieldLink own i "java/lang/String" "coder" "B")))
  | .putfield x => mm_pf own i x (mm_nth 0 0 ps) (fun q => decide (q.2.2.2 = false ∧ q.2.2.1 ≠ "Z"))
  | .ret x => mm_pf own i x (mm_nth 0 0 ps) (fun q => decide (q.2.2.2 = true ∧ q.1 = own ∧ q.2.2.1 ≠ "Z"))
  | .putstatic x => decide (Nat.mod x 4 = 0) && mm_pf own i x (mm_nth 0 0 ps) (fun q => decide (q.2.2.2 = false ∧ q.2.2.1 = "Z"))
  | .anewarray k => (Nat.beq k 107 && mm_hw (mm_nth 0 0 ps) (.classLink own i "FewRectangles$Rule")) || ((Nat.beq k 109 && mm_hw (mm_nth 0 0 ps) (.classLink own i "FewRectangles$Sheet")) || (Nat.beq k 150 && mm_hw (mm_nth 0 0 ps) (.classLink own i (FieldType.array .int).toString)))
  | .daload => mm_hw (mm_nth 0 0 ps) (.methodLink own i arraycopyName)
  | .dadd => mm_hw (mm_nth 0 0 ps) (.methodLink own i Lib.Math.max.name)
  | .dsub => mm_hw (mm_nth 0 0 ps) (.methodLink own i Lib.Math.min.name)
  | .pop => mm_hw (mm_nth 0 0 ps) (.methodLink own i Lib.objectInit)
  | .invokestatic x => mm_hc own i 0 (mm_inf (Nat.div x 65536)).1 (Nat.mod (Nat.div x 4096) 16) (mm_nth 0 0 ps) (mm_nth 0 1 ps) (mm_nth 0 2 ps) (mm_nth 0 3 ps)
  | .invokevirtual x => mm_hc own i 1 (mm_inf (Nat.div x 65536)).1 (Nat.mod (Nat.div x 4096) 16) (mm_nth 0 0 ps) (mm_nth 0 1 ps) (mm_nth 0 2 ps) (mm_nth 0 3 ps) && mm_rc (mm_inf (Nat.div x 65536)).1 (Nat.mod x 256)
  | .invokespecial x => mm_hc own i 2 (mm_inf (Nat.div x 65536)).1 (Nat.mod (Nat.div x 4096) 16) (mm_nth 0 0 ps) (mm_nth 0 1 ps) (mm_nth 0 2 ps) (mm_nth 0 3 ps) && (decide ((mm_inf (Nat.div x 65536)).2.2.2 = none) && mm_rc (mm_inf (Nat.div x 65536)).1 (Nat.mod x 256))
  | .new x => (match Nat.div x 64 with
    | 0 => false
    | ci + 1 => match mm_cls[ci]? with
      | some q => decide (Nat.mod x 64 = mm_nf (ci + 1)) && (mm_hw (mm_nth 0 0 ps) (.classLink own i q.1) && (mm_hw (mm_nth 0 1 ps) (.instantiable q.1 q.2.2) && mm_hw (mm_nth 0 2 ps) (.initialized q.1)))
      | none => false)
  | _ => false
theorem mm_def0 {t : Nat} {ty : FieldType} : ((t = 0 ∧ (ty = .int ∨ ty = .boolean)) ∨ (t = 1 ∧ ty = .long) ∨ (t = 2 ∧ ((∃ n, ty = .object n) ∨ ∃ n, ty = .array n))) → t ≤ 2 ∧ defaultValue ty = (match t with | 0 => .int 0 | 1 => .long 0 | _ => .null) := by
  intro h
  rcases h with ⟨rfl, rfl | rfl⟩ | ⟨rfl, rfl⟩ | ⟨rfl, ⟨n, rfl⟩ | ⟨n, rfl⟩⟩ <;> exact ⟨by decide, rfl⟩
theorem mm_pe_g {own : String} {i : Nat} {ps : List Nat} {x : Instr} (h : mm_pe own i ps x = true) : mm_PK own i x := by
  unfold mm_pe at h
  split at h
  · exact mm_hw_g h
  · exact mm_hw_g h
  · obtain ⟨h1, h⟩ := mm_an h
    obtain ⟨h2, h3⟩ := mm_an h
    obtain ⟨h3, h4⟩ := of_decide_eq_true h3
    exact ⟨mm_nth 0 0 ps, (mm_nth ("", 0, "") (mm_nth 0 0 ps) mm_str).2.2, of_decide_eq_true h1, of_decide_eq_true h2, Prod.ext h3 (Prod.ext h4 rfl)⟩
  · exact mm_hw_g h
  · exact mm_hw_g h
  · rcases (Bool.or_eq_true _ _).mp h with h | h
    · obtain ⟨ci, k, C, T, N, g1, g2, g3, g4, -, -⟩ := mm_pf_g h
      exact Or.inl ⟨ci, k, g1, g2, g3, g4⟩
    rcases (Bool.or_eq_true _ _).mp h with h | h
    · obtain ⟨a, b⟩ := mm_an h
      exact Or.inr (Or.inl ⟨Nat.eq_of_beq_eq_true a, mm_hw_g b⟩)
    · obtain ⟨a, b⟩ := mm_an h
      exact Or.inr (Or.inr ⟨Nat.eq_of_beq_eq_true a, mm_hw_g b⟩)
  · obtain ⟨ci, k, C, T, N, g1, g2, g3, g4, g5, g6⟩ := mm_pf_g h
    obtain ⟨g6, g7⟩ := of_decide_eq_true g6
    exact ⟨ci, k, C, T, N, g1, g2, g3, g4, g5, g6, g7⟩
  · obtain ⟨ci, k, C, T, N, g1, g2, g3, g4, g5, g6⟩ := mm_pf_g h
    obtain ⟨g6, g7, g8⟩ := of_decide_eq_true g6
    exact ⟨ci, k, C, T, N, g1, g2, g3, g4, g5, g6, g7, g8⟩
  · obtain ⟨h0, h⟩ := mm_an h
    obtain ⟨ci, k, C, T, N, g1, g2, g3, g4, g5, g6⟩ := mm_pf_g h
    obtain ⟨g6, g7⟩ := of_decide_eq_true g6
    exact ⟨ci, k, C, T, N, g1, g2, g3.symm.trans (of_decide_eq_true h0), g4, g5, g6, g7⟩
  · rcases (Bool.or_eq_true _ _).mp h with h | h
    · obtain ⟨a, b⟩ := mm_an h
      exact Or.inl ⟨Nat.eq_of_beq_eq_true a, mm_hw_g b⟩
    rcases (Bool.or_eq_true _ _).mp h with h | h
    · obtain ⟨a, b⟩ := mm_an h
      exact Or.inr (Or.inl ⟨Nat.eq_of_beq_eq_true a, mm_hw_g b⟩)
    · obtain ⟨a, b⟩ := mm_an h
      exact Or.inr (Or.inr ⟨Nat.eq_of_beq_eq_true a, mm_hw_g b⟩)
  · exact mm_hw_g h
  · exact mm_hw_g h
  · exact mm_hw_g h
  · exact mm_hw_g h
  · exact mm_hc_g h
  · obtain ⟨a, b⟩ := mm_an h
    exact ⟨mm_hc_g a, mm_rc_g b⟩
  · obtain ⟨a, b⟩ := mm_an h
    obtain ⟨b, c⟩ := mm_an b
    exact ⟨mm_hc_g a, of_decide_eq_true b, mm_rc_g c⟩
  · split at h
    · cases h
    · next ci e =>
      split at h
      · next q e2 =>
        obtain ⟨C, T, N⟩ := q
        obtain ⟨h1, h⟩ := mm_an h
        obtain ⟨h2, h⟩ := mm_an h
        obtain ⟨h3, h4⟩ := mm_an h
        obtain ⟨ty, g1, g2, g3, g4⟩ := mm_cf e2
        exact ⟨ci, e, of_decide_eq_true h1, C, T, N, ty, e2, g1, g2, g3, mm_hw_g h2, mm_hw_g h3, mm_hw_g h4, fun j hj => mm_def0 (mm_tyq (mm_ty_at e2 (Nat.lt_of_lt_of_eq hj g1)) (g3 j hj))⟩
      · cases h
  · cases h
theorem mm_pool_g {own : String} {pool : List (Nat × Instr)} (hints : List (List Nat)) (h : (pool.zip hints).all (fun q => mm_pe own q.1.1 q.2 q.1.2) = true) (hl : pool.length = hints.length) : ∀ q ∈ pool, mm_PK own q.1 q.2 := by
  intro q hq
  obtain ⟨k, hk, rfl⟩ := List.getElem_of_mem hq
  have := List.all_eq_true.mp h (pool[k], hints[k]'(by omega)) (by
    rw [← List.getElem_zip (h := by simp; omega)]
    exact List.getElem_mem _)
  exact mm_pe_g this
end
section
/-! The pools of the classes, with the positions of their words. Printed by wip/whole/gen/pools.py. -/
def mm_pl_Cr : List (Nat × Instr) := [(3, .pop), (9, .ret 262), (9, .getfield 262), (15, .ret 258), (15, .getfield 258), (19, .putfield 264), (19, .getfield 264), (23, .invokevirtual 7280906), (28, .invokevirtual 145665), (32, .invokevirtual 7743754), (36, .getfield 2572), (39, .invokestatic 23142912), (45, .invokevirtual 211201), (48, .invokevirtual 272641), (51, .invokevirtual 338177), (54, .invokevirtual 407809), (57, .invokevirtual 534785), (60, .sipush (-12)), (62, .sipush (-14)), (64, .invokevirtual 7610378), (68, .invokevirtual 798721), (72, .invokestatic 13121792), (76, .sipush (-16)), (78, .invokevirtual 7544842), (81, .invokevirtual 598017), (85, .invokevirtual 731393), (88, .getfield 2568), (91, .invokevirtual 7346442), (94, .invokevirtual 7477514), (97, .invokestatic 466944), (101, .invokevirtual 7806986), (105, .sipush (-18)), (107, .invokevirtual 7872522), (111, .invokevirtual 665857)]
set_option maxRecDepth 20000 in
theorem mm_pk_Cr : ∀ q ∈ mm_pl_Cr, mm_PK "FewRectangles$ConditionReader" q.1 q.2 := mm_pool_g [[478], [480], [480], [479], [479], [481], [481], [128, 828, 829, 830], [129, 926, 928, 6], [128, 992, 993, 994], [455], [122, 1029, 1030, 0], [129, 930, 932, 7], [129, 974, 976, 11], [129, 1001, 1003, 13], [129, 1005, 1007, 14], [129, 1012, 1014, 15], [1], [2], [128, 936, 937, 938], [129, 965, 967, 9], [118, 973, 675, 0], [3], [128, 979, 980, 981], [129, 983, 985, 12], [129, 969, 971, 10], [452], [128, 987, 833, 834], [128, 988, 989, 990], [129, 1009, 1010, 0], [128, 1016, 1017, 1018], [4], [128, 1021, 1022, 1023], [129, 1025, 1027, 16]] (by decide +kernel) (by decide +kernel)
def mm_pl_Cv : List (Nat × Instr) := [(3, .pop), (9, .ret 514), (9, .getfield 514), (15, .ret 518), (15, .getfield 518), (18, .ret 522), (18, .getfield 522), (21, .ret 526), (21, .getfield 526), (24, .ret 530), (24, .getfield 530), (27, .ret 534), (27, .getfield 534), (30, .ret 538), (30, .getfield 538), (33, .ret 542), (33, .getfield 542), (36, .invokevirtual 997634), (40, .invokevirtual 1380354), (44, .getfield 2304), (50, .putfield 548), (50, .getfield 548), (51, .getfield 2308), (54, .putfield 552), (54, .getfield 552), (55, .invokestatic 13307904), (59, .getfield 2322), (62, .daload), (68, .invokestatic 13246464), (72, .invokestatic 13121792), (76, .invokestatic 1183744), (80, .invokestatic 1253376), (83, .dsub), (88, .dadd), (91, .invokevirtual 1075458), (95, .iconst 1103515245), (96, .invokestatic 13180928), (99, .invokevirtual 1519618), (102, .putfield 544), (102, .getfield 544), (105, .invokestatic 23079168), (111, .invokevirtual 1460482), (115, .invokestatic 13049856), (119, .invokestatic 13844480), (123, .invokestatic 13701120), (126, .invokestatic 13570048), (129, .invokestatic 13766656), (132, .invokestatic 13635584), (135, .invokevirtual 1847298), (138, .invokevirtual 1781762)]
set_option maxRecDepth 20000 in
theorem mm_pk_Cv : ∀ q ∈ mm_pl_Cv, mm_PK "FewRectangles$Cover" q.1 q.2 := mm_pool_g [[401], [402], [402], [404], [404], [406], [406], [408], [408], [410], [410], [412], [412], [414], [414], [415], [415], [127, 1301, 1302, 1303], [127, 1307, 1308, 1309], [222], [417], [417], [227], [418], [418], [118, 1305, 601, 0], [237], [1306], [118, 1316, 1229, 0], [118, 1322, 675, 0], [127, 1361, 1362, 0], [127, 1365, 1366, 0], [1369], [1370], [127, 1371, 1349, 1350], [1364], [118, 1368, 777, 0], [127, 1312, 1314, 34], [416], [416], [122, 1311, 218, 0], [127, 1318, 1320, 35], [118, 1317, 708, 0], [118, 1331, 1085, 0], [118, 1486, 618, 0], [118, 1487, 614, 0], [118, 1488, 624, 0], [118, 1489, 621, 0], [127, 1444, 1446, 37], [127, 1448, 1450, 38]] (by decide +kernel) (by decide +kernel)
def mm_pl_Ed : List (Nat × Instr) := [(3, .pop), (9, .new 585), (11, .invokespecial 5576969), (12, .ret 770), (12, .getfield 770), (18, .ret 774), (18, .getfield 774), (22, .invokestatic 13307904), (26, .invokestatic 13438976), (29, .invokevirtual 5840905), (32, .invokestatic 13570048), (36, .invokestatic 13701120), (39, .invokestatic 13635584), (42, .invokestatic 13766656), (45, .invokevirtual 6314249), (49, .invokestatic 13504512), (52, .invokevirtual 5910537), (56, .invokevirtual 6445321), (59, .invokestatic 13373440), (62, .getfield 2330), (65, .invokestatic 13121792), (69, .invokevirtual 5775369), (72, .invokevirtual 6179081), (76, .invokevirtual 5709833), (79, .invokevirtual 2705667), (83, .invokevirtual 2840835), (87, .getfield 2312), (91, .invokevirtual 6038025), (95, .invokevirtual 4868359), (100, .invokevirtual 4931591), (104, .invokevirtual 6889481), (107, .invokevirtual 5646601), (111, .invokestatic 13180928), (115, .invokevirtual 6242313), (119, .getfield 2304), (119, .putfield 2304), (122, .getfield 2308), (122, .putfield 2308), (125, .invokevirtual 6569993), (128, .invokevirtual 2641923), (132, .invokestatic 13049856), (136, .invokevirtual 6107145), (139, .invokevirtual 2779395), (143, .invokevirtual 6373385)]
set_option maxRecDepth 20000 in
theorem mm_pk_Ed : ∀ q ∈ mm_pl_Ed, mm_PK "FewRectangles$Editor" q.1 q.2 := mm_pool_g [[285], [286, 155, 120], [120, 287, 157, 0], [288], [288], [289], [289], [118, 600, 601, 0], [118, 603, 604, 0], [120, 609, 610, 611], [118, 626, 614, 0], [118, 627, 618, 0], [118, 628, 621, 0], [118, 629, 624, 0], [120, 630, 631, 632], [118, 650, 651, 0], [120, 653, 654, 655], [120, 661, 662, 663], [118, 673, 607, 0], [240], [118, 674, 675, 0], [120, 685, 686, 687], [120, 689, 690, 691], [120, 701, 658, 659], [123, 702, 704, 1], [123, 726, 728, 3], [233], [120, 730, 589, 590], [121, 731, 732, 733], [121, 743, 744, 745], [120, 756, 757, 758], [120, 706, 582, 583], [118, 776, 777, 0], [120, 718, 719, 720], [223], [223], [228], [228], [120, 807, 808, 809], [123, 787, 789, 5], [118, 707, 708, 0], [120, 714, 715, 716], [123, 710, 712, 2], [120, 722, 723, 724]] (by decide +kernel) (by decide +kernel)
def mm_pl_Hi : List (Nat × Instr) := [(3, .pop), (9, .anewarray 109), (9, .new 585), (11, .ret 1026), (11, .getfield 1026), (17, .invokespecial 5576969), (18, .ret 1030), (18, .getfield 1030), (22, .getfield 1032), (22, .putfield 1032), (26, .invokestatic 22290432), (32, .getfield 1036), (32, .putfield 1036), (35, .invokevirtual 2957828), (39, .invokevirtual 5646601), (43, .putfield 1040), (43, .getfield 1040)]
set_option maxRecDepth 20000 in
theorem mm_pk_Hi : ∀ q ∈ mm_pl_Hi, mm_PK "FewRectangles$History" q.1 q.2 := mm_pool_g [[152], [153], [153, 155, 120], [262], [262], [120, 156, 157, 0], [263], [263], [264], [264], [133, 578, 579, 0], [265], [265], [119, 574, 575, 576], [120, 581, 582, 583], [267], [267]] (by decide +kernel) (by decide +kernel)
def mm_pl_Pr : List (Nat × Instr) := [(3, .pop), (9, .ret 1282), (9, .getfield 1282), (15, .getfield 2312), (21, .invokevirtual 6038025), (25, .invokevirtual 4796423), (31, .invokevirtual 3488005), (35, .invokevirtual 3559429), (39, .putfield 1288), (39, .getfield 1288), (42, .putfield 1292), (42, .getfield 1292), (45, .putfield 1296), (45, .getfield 1296), (48, .getfield 1792), (51, .getfield 1800), (54, .getfield 1796), (57, .getfield 1804), (60, .invokevirtual 6107145), (64, .dadd), (69, .dsub), (72, .getfield 1822), (75, .putfield 1300), (75, .getfield 1300), (78, .putfield 1304), (78, .getfield 1304), (81, .putfield 1284), (81, .getfield 1284), (84, .putstatic 1316), (84, .getfield 1316), (88, .putstatic 1320), (88, .getfield 1320), (91, .invokevirtual 3624965), (95, .invokevirtual 3936261), (99, .invokestatic 13049856), (103, .invokevirtual 3877125), (107, .invokevirtual 3747845), (111, .invokevirtual 3815685), (114, .getfield 1308), (114, .putfield 1308), (117, .getfield 1312), (117, .putfield 1312), (122, .invokestatic 3682560), (126, .invokestatic 13121792)]
set_option maxRecDepth 20000 in
theorem mm_pk_Pr : ∀ q ∈ mm_pl_Pr, mm_PK "FewRectangles$Probe" q.1 q.2 := mm_pool_g [[322], [323], [323], [230], [120, 1156, 589, 590], [121, 1157, 1158, 1159], [125, 1161, 1162, 1163], [125, 1168, 1169, 1170], [325], [325], [326], [326], [327], [327], [169], [179], [173], [183], [120, 1165, 715, 716], [1166], [1167], [197], [328], [328], [329], [329], [324], [324], [332], [332], [333], [333], [125, 1172, 1174, 25], [125, 1190, 1192, 29], [118, 1176, 708, 0], [125, 1177, 1179, 26], [125, 1182, 1184, 27], [125, 1186, 1188, 28], [330], [330], [331], [331], [125, 1194, 1195, 0], [118, 1181, 675, 0]] (by decide +kernel) (by decide +kernel)
def mm_pl_Pg : List (Nat × Instr) := [(3, .pop), (11, .ret 1542), (11, .getfield 1542), (15, .ret 1538), (15, .getfield 1538), (19, .putfield 1544), (19, .getfield 1544), (23, .invokevirtual 7280906), (28, .invokevirtual 4139270), (32, .invokevirtual 7743754), (35, .getfield 2572), (38, .invokestatic 23142912), (44, .getfield 2568), (47, .sipush (-20)), (49, .invokevirtual 7872522), (53, .putfield 1548), (53, .getfield 1548), (56, .invokevirtual 4598022), (59, .invokevirtual 4270342), (62, .invokevirtual 4202502), (66, .invokestatic 13121792), (70, .invokevirtual 7477514), (73, .invokevirtual 4331782), (76, .invokevirtual 4462854), (79, .sipush (-28)), (81, .invokevirtual 4401414), (85, .sipush (-30)), (87, .sipush (-32)), (89, .sipush (-22)), (91, .invokevirtual 4528390), (94, .invokevirtual 7806986), (98, .sipush (-24)), (100, .invokevirtual 7610378), (104, .sipush (-26)), (106, .invokevirtual 7675914)]
set_option maxRecDepth 20000 in
theorem mm_pk_Pg : ∀ q ∈ mm_pl_Pg, mm_PK "FewRectangles$ProgramReader" q.1 q.2 := mm_pool_g [[494], [496], [496], [495], [495], [497], [497], [128, 1513, 829, 830], [130, 1514, 1516, 41], [128, 1555, 993, 994], [456], [122, 1560, 1030, 0], [451], [5], [128, 1519, 1022, 1023], [498], [498], [130, 1520, 1522, 42], [130, 1525, 1527, 43], [130, 1556, 1558, 48], [118, 1524, 675, 0], [128, 1554, 989, 990], [130, 1529, 1531, 44], [130, 1537, 1539, 45], [9], [130, 1544, 1546, 46], [10], [11], [6], [130, 1550, 1552, 47], [128, 1536, 1017, 1018], [7], [128, 1535, 937, 938], [8], [128, 1542, 997, 998]] (by decide +kernel) (by decide +kernel)
def mm_pl_Ru : List (Nat × Instr) := [(3, .pop), (9, .getfield 1792), (9, .putfield 1792), (15, .getfield 1796), (15, .putfield 1796), (18, .getfield 1800), (18, .putfield 1800), (21, .getfield 1804), (21, .putfield 1804), (24, .getfield 1808), (24, .putfield 1808), (27, .getfield 1812), (27, .putfield 1812), (30, .getfield 1816), (30, .putfield 1816), (33, .getfield 1822), (33, .putfield 1822), (37, .invokestatic 4993024), (41, .invokestatic 5058560), (44, .dadd)]
set_option maxRecDepth 20000 in
theorem mm_pk_Ru : ∀ q ∈ mm_pl_Ru, mm_PK "FewRectangles$Rule" q.1 q.2 := mm_pool_g [[166], [167], [167], [172], [172], [177], [177], [182], [182], [187], [187], [190], [190], [193], [193], [196], [196], [121, 747, 748, 0], [121, 753, 754, 0], [750]] (by decide +kernel) (by decide +kernel)
def mm_pl_Rn : List (Nat × Instr) := [(3, .pop), (9, .ret 2050), (9, .getfield 2050), (15, .putfield 2052), (15, .getfield 2052), (19, .putfield 2056), (19, .getfield 2056), (22, .putfield 2060), (22, .getfield 2060), (25, .putstatic 2064), (25, .getfield 2064), (31, .invokevirtual 5269768), (35, .invokestatic 13049856), (39, .dadd), (45, .invokevirtual 5324808), (49, .invokevirtual 5451784), (52, .invokevirtual 1986563), (58, .invokestatic 5517312), (62, .invokevirtual 2056195), (66, .invokevirtual 5382152), (70, .invokevirtual 2248707), (73, .invokevirtual 2310147), (77, .invokevirtual 2379779), (80, .invokevirtual 2437123), (84, .invokestatic 13844480), (88, .invokestatic 13901824)]
set_option maxRecDepth 20000 in
theorem mm_pk_Rn : ∀ q ∈ mm_pl_Rn, mm_PK "FewRectangles$Runner" q.1 q.2 := mm_pool_g [[300], [301], [301], [302], [302], [303], [303], [304], [304], [305], [305], [124, 1102, 1104, 21], [118, 1106, 708, 0], [1107], [124, 1108, 1110, 22], [124, 1112, 1114, 23], [123, 1117, 597, 598], [124, 1118, 1119, 0], [123, 1122, 647, 648], [124, 1123, 1125, 24], [123, 1127, 698, 699], [123, 1128, 740, 741], [123, 1129, 773, 774], [123, 1130, 804, 805], [118, 1116, 1085, 0], [118, 1121, 1088, 0]] (by decide +kernel) (by decide +kernel)
def mm_pl_Sh : List (Nat × Instr) := [(3, .pop), (9, .putfield 2304), (9, .getfield 2304), (15, .putfield 2308), (15, .getfield 2308), (18, .ret 2318), (18, .getfield 2318), (22, .ret 2322), (22, .getfield 2322), (25, .ret 2326), (25, .getfield 2326), (28, .ret 2330), (28, .getfield 2330), (31, .anewarray 107), (31, .new 456), (33, .ret 2334), (33, .getfield 2334), (37, .invokespecial 4659463), (38, .ret 2338), (38, .getfield 2338), (42, .invokestatic 23079168), (48, .getfield 2312), (48, .putfield 2312), (51, .daload), (57, .invokevirtual 6038025), (61, .invokevirtual 4729095), (65, .invokestatic 13570048), (69, .invokestatic 13701120), (72, .invokestatic 13635584), (75, .invokestatic 13766656), (78, .invokevirtual 5709833), (81, .invokevirtual 6373385), (85, .invokestatic 13049856), (89, .invokevirtual 6242313), (92, .invokevirtual 6504457), (95, .invokevirtual 6569993), (99, .getfield 1808), (99, .putfield 1808), (102, .getfield 1816), (102, .putfield 1816), (105, .getfield 1812), (105, .putfield 1812), (108, .invokevirtual 7026953), (112, .putfield 1792), (115, .putfield 1796), (118, .putfield 1800), (121, .putfield 1804), (124, .putfield 1822), (127, .invokevirtual 5971977)]
set_option maxRecDepth 20000 in
theorem mm_pk_Sh : ∀ q ∈ mm_pl_Sh, mm_PK "FewRectangles$Sheet" q.1 q.2 := mm_pool_g [[159], [220], [220], [225], [225], [235], [235], [236], [236], [238], [238], [239], [239], [160], [160, 162, 121], [241], [241], [121, 163, 164, 0], [242], [242], [122, 217, 218, 0], [231], [231], [585], [120, 588, 589, 590], [121, 592, 593, 594], [118, 613, 614, 0], [118, 617, 618, 0], [118, 620, 621, 0], [118, 623, 624, 0], [120, 657, 658, 659], [120, 816, 723, 724], [118, 817, 708, 0], [120, 811, 719, 720], [120, 812, 813, 814], [120, 1460, 808, 809], [188], [188], [194], [194], [191], [191], [120, 764, 766, 4], [170], [175], [180], [185], [198], [120, 760, 761, 762]] (by decide +kernel) (by decide +kernel)
def mm_pl_Ta : List (Nat × Instr) := [(3, .pop), (9, .ret 2562), (9, .getfield 2562), (15, .putfield 2572), (15, .getfield 2572), (19, .getfield 2564), (19, .putfield 2564), (22, .invokestatic 13121792), (26, .putfield 2580), (26, .getfield 2580), (29, .invokevirtual 7346442), (32, .putfield 2576), (32, .getfield 2576), (35, .invokestatic 13049856), (39, .invokestatic 7409664), (43, .dsub), (49, .putfield 2568), (49, .getfield 2568), (52, .sipush (-10)), (54, .invokevirtual 22487054), (59, .invokevirtual 22351886), (63, .invokevirtual 7946250), (67, .invokevirtual 7675914), (71, .invokevirtual 7477514), (74, .invokevirtual 22421518)]
set_option maxRecDepth 20000 in
theorem mm_pk_Ta : ∀ q ∈ mm_pl_Ta, mm_PK "FewRectangles$Tape" q.1 q.2 := mm_pool_g [[447], [448], [448], [454], [454], [449], [449], [118, 1504, 675, 0], [459], [459], [128, 832, 833, 834], [458], [458], [118, 836, 708, 0], [128, 837, 838, 0], [840], [453], [453], [0], [134, 844, 845, 846], [134, 940, 859, 860], [128, 941, 943, 8], [128, 996, 997, 998], [128, 1000, 989, 990], [134, 945, 946, 947]] (by decide +kernel) (by decide +kernel)
def mm_pl_Vw : List (Nat × Instr) := [(3, .pop), (9, .ret 2818), (9, .getfield 2818), (15, .ret 2822), (15, .getfield 2822), (18, .ret 2826), (18, .getfield 2826), (21, .ret 2830), (21, .getfield 2830), (24, .ret 2834), (24, .getfield 2834), (27, .ret 2838), (27, .getfield 2838), (30, .getfield 2304), (36, .putfield 2840), (36, .getfield 2840), (37, .getfield 2308), (40, .putfield 2844), (40, .getfield 2844), (41, .invokestatic 23079168), (47, .getfield 2312), (50, .invokevirtual 8145163), (54, .invokevirtual 8210699), (58, .invokevirtual 6038025), (62, .invokevirtual 3488005), (68, .getfield 1792), (73, .getfield 1800), (76, .getfield 1796), (79, .getfield 1804), (82, .invokestatic 13246464), (86, .invokevirtual 3559429), (90, .invokestatic 13049856), (94, .invokestatic 13121792), (98, .invokevirtual 6705161), (102, .invokevirtual 6770697), (105, .invokevirtual 8269835), (108, .invokevirtual 8339467), (112, .invokestatic 13570048), (116, .invokestatic 13701120), (119, .invokestatic 13635584), (122, .invokestatic 13766656), (125, .invokevirtual 8405003), (128, .invokevirtual 8466443), (131, .putfield 2848), (131, .getfield 2848), (134, .putfield 2852), (137, .invokevirtual 9058571), (141, .dsub), (146, .invokestatic 13844480)]
set_option maxRecDepth 20000 in
theorem mm_pk_Vw : ∀ q ∈ mm_pl_Vw, mm_PK "FewRectangles$View" q.1 q.2 := mm_pool_g [[362], [363], [363], [364], [364], [365], [365], [366], [366], [367], [367], [368], [368], [221], [369], [369], [226], [370], [370], [122, 1221, 218, 0], [232], [126, 1222, 1224, 32], [126, 1234, 1236, 33], [120, 1226, 589, 590], [125, 1227, 1162, 1163], [168], [178], [174], [184], [118, 1228, 1229, 0], [125, 1231, 1169, 1170], [118, 1232, 708, 0], [118, 1233, 675, 0], [120, 1238, 1198, 1199], [120, 1239, 1202, 1203], [126, 1283, 1271, 1272], [126, 1288, 1256, 1257], [118, 1384, 614, 0], [118, 1385, 618, 0], [118, 1386, 621, 0], [118, 1387, 624, 0], [126, 1388, 1241, 1242], [126, 1419, 1412, 1413], [371], [371], [373], [126, 1401, 1403, 36], [1405], [118, 1406, 1085, 0]] (by decide +kernel) (by decide +kernel)
def mm_pl_F : List (Nat × Instr) := [(1, .pop), (7, .new 261), (9, .invokespecial 2889988), (10, .ret 3074), (10, .getfield 3074), (16, .new 194), (18, .invokespecial 1906947), (19, .ret 3078), (19, .getfield 3078), (23, .new 517), (25, .invokespecial 5122312), (28, .ret 3082), (28, .getfield 3082), (32, .new 331), (34, .invokespecial 3348741), (35, .ret 3086), (35, .getfield 3086), (39, .new 714), (41, .invokespecial 8001803), (42, .ret 3090), (42, .getfield 3090), (46, .ret 3094), (46, .getfield 3094), (49, .new 139), (51, .invokespecial 858370), (52, .ret 3098), (52, .getfield 3098), (56, .new 646), (58, .invokespecial 7084298), (59, .ret 3102), (59, .getfield 3102), (63, .new 67), (65, .invokespecial 10497), (68, .ret 3106), (68, .getfield 3106), (72, .new 388), (74, .invokespecial 4008198), (75, .ret 3110), (75, .getfield 3110), (79, .anewarray 150), (81, .ret 3114), (81, .getfield 3114), (85, .ret 3118), (85, .getfield 3118), (89, .ret 3122), (89, .getfield 3122), (92, .new 585), (94, .invokespecial 5576969), (95, .ret 3126), (95, .getfield 3126), (99, .putstatic 3132), (99, .getfield 3132), (103, .invokestatic 23079168), (109, .invokevirtual 3019268), (113, .invokevirtual 1986563), (117, .invokevirtual 12460044), (121, .invokevirtual 2056195), (125, .invokevirtual 2113539), (129, .invokevirtual 2179075), (132, .invokevirtual 2248707), (135, .invokevirtual 2310147), (138, .invokevirtual 2379779), (141, .invokevirtual 2510851), (144, .invokevirtual 2576387), (147, .invokevirtual 2437123), (151, .getfield 2312), (155, .invokevirtual 5840905), (159, .invokestatic 13504512), (162, .invokevirtual 70145), (166, .getfield 2572), (169, .invokevirtual 7215370), (172, .invokevirtual 6840329), (176, .invokevirtual 6889481), (179, .invokevirtual 6959113), (183, .invokestatic 12652544), (186, .invokestatic 13307904), (189, .invokevirtual 5775369), (192, .invokevirtual 12722188), (195, .invokevirtual 12791820), (198, .invokestatic 13373440), (201, .invokevirtual 12926988), (205, .invokevirtual 12591628), (209, .invokevirtual 5189640), (213, .getfield 1036), (216, .invokevirtual 3149828), (220, .getfield 1040), (223, .invokevirtual 3215364), (226, .invokevirtual 2957828), (230, .invokevirtual 3424261), (233, .invokevirtual 6705161), (237, .invokevirtual 6770697), (240, .invokevirtual 12390924), (243, .invokevirtual 12521996), (247, .invokevirtual 8405003), (250, .invokevirtual 6242313), (253, .invokevirtual 6373385), (256, .invokevirtual 6504457), (259, .invokevirtual 8339467), (262, .invokevirtual 6107145), (265, .iconst (-2000000000)), (266, .invokevirtual 5971977), (269, .invokevirtual 8269835), (271, .invokevirtual 6038025), (275, .getfield 1792), (280, .getfield 1796), (283, .getfield 1800), (286, .getfield 1804), (289, .invokestatic 13844480), (292, .getfield 1808), (295, .getfield 1812), (298, .getfield 1816), (301, .invokevirtual 8527883), (304, .invokevirtual 8597515), (307, .invokevirtual 929794), (310, .invokevirtual 1581058), (313, .getfield 530), (316, .invokestatic 13049856), (320, .getfield 534), (323, .invokestatic 13246464), (326, .invokestatic 13438976), (329, .invokevirtual 997634), (333, .invokestatic 13570048), (336, .invokestatic 13635584), (339, .invokestatic 13701120), (342, .invokestatic 13766656), (345, .invokevirtual 1075458), (349, .invokevirtual 1380354), (352, .invokevirtual 1128706), (356, .invokevirtual 1314818), (359, .invokevirtual 8667147), (362, .invokevirtual 8993035), (365, .getfield 2848), (368, .getfield 2852), (371, .invokevirtual 8466443), (374, .invokevirtual 8724491), (377, .invokevirtual 8851467), (380, .getfield 2304), (383, .invokevirtual 8921099), (386, .invokevirtual 1712130), (389, .invokevirtual 6627337), (392, .invokestatic 13121792), (396, .invokevirtual 12863756), (400, .invokevirtual 1650690), (404, .invokevirtual 12998924), (408, .getfield 2564), (411, .invokevirtual 7155722), (414, .getfield 3136), (414, .putfield 3136), (417, .invokevirtual 4067846), (418, .getfield 2308), (421, .invokevirtual 8075531), (424, .invokevirtual 5646601), (428, .putstatic 3128), (428, .getfield 3128), (431, .invokevirtual 3287300), (434, .invokevirtual 8790027), (438, .invokevirtual 3086596), (441, .getfield 514), (444, .dadd), (449, .getfield 518), (452, .getfield 522), (455, .dsub), (458, .getfield 526), (461, .iconst 1000000), (462, .invokestatic 13901824)]
set_option maxRecDepth 20000 in
theorem mm_pk_F : ∀ q ∈ mm_pl_F, mm_PK "FewRectangles" q.1 q.2 := mm_pool_g [[144], [147, 148, 119], [119, 149, 150, 0], [513], [513], [280, 281, 123], [123, 282, 283, 0], [514], [514], [295, 296, 124], [124, 297, 298, 0], [515], [515], [317, 318, 125], [125, 319, 320, 0], [516], [516], [357, 358, 126], [126, 359, 360, 0], [517], [517], [518], [518], [396, 397, 127], [127, 398, 399, 0], [519], [519], [442, 443, 128], [128, 444, 445, 0], [520], [520], [473, 474, 129], [129, 475, 476, 0], [521], [521], [489, 490, 130], [130, 491, 492, 0], [522], [522], [508], [523], [523], [524], [524], [525], [525], [510, 155, 120], [120, 511, 157, 0], [526], [526], [528], [528], [122, 512, 218, 0], [119, 570, 571, 572], [123, 596, 597, 598], [118, 634, 636, 0], [123, 646, 647, 648], [123, 669, 670, 671], [123, 681, 682, 683], [123, 697, 698, 699], [123, 739, 740, 741], [123, 772, 773, 774], [123, 783, 784, 785], [123, 795, 796, 797], [123, 803, 804, 805], [234], [120, 822, 610, 611], [118, 823, 651, 0], [129, 824, 825, 826], [457], [128, 1041, 1042, 1043], [120, 1045, 1046, 1047], [120, 1054, 757, 758], [120, 1059, 1060, 1061], [118, 1067, 1068, 0], [118, 1070, 601, 0], [120, 1071, 686, 687], [118, 1072, 1074, 17], [118, 1076, 1078, 18], [118, 606, 607, 0], [118, 1080, 1082, 19], [118, 1094, 1096, 20], [124, 1098, 1099, 1100], [266], [119, 1135, 1136, 1137], [268], [119, 1143, 1144, 1145], [119, 1151, 575, 576], [125, 1152, 1153, 1154], [120, 1197, 1198, 1199], [120, 1201, 1202, 1203], [118, 1209, 1211, 30], [118, 1213, 1215, 31], [126, 1240, 1241, 1242], [120, 1248, 719, 720], [120, 1249, 723, 724], [120, 1250, 813, 814], [126, 1255, 1256, 1257], [120, 1263, 715, 716], [1264], [120, 1269, 761, 762], [126, 1270, 1271, 1272], [120, 1278, 589, 590], [171], [176], [181], [186], [118, 1084, 1085, 0], [189], [192], [195], [126, 1279, 1280, 1281], [126, 1284, 1285, 1286], [127, 1297, 1298, 1299], [127, 1327, 1328, 1329], [411], [118, 1332, 708, 0], [413], [118, 1337, 1229, 0], [118, 1342, 604, 0], [127, 1343, 1302, 1303], [118, 1344, 614, 0], [118, 1345, 621, 0], [118, 1346, 618, 0], [118, 1347, 624, 0], [127, 1348, 1349, 1350], [127, 1352, 1308, 1309], [127, 1357, 1358, 1359], [127, 1372, 1373, 1374], [126, 1380, 1381, 1382], [126, 1397, 1398, 1399], [372], [374], [126, 1411, 1412, 1413], [126, 1415, 1416, 1417], [126, 1424, 1425, 1426], [224], [126, 1432, 1433, 1434], [127, 1440, 1441, 1442], [120, 1456, 1457, 1458], [118, 1465, 675, 0], [118, 1466, 1468, 39], [127, 1482, 1483, 1484], [118, 1490, 1492, 40], [450], [128, 1500, 1501, 1502], [529], [529], [130, 1509, 1510, 1511], [229], [126, 1217, 1218, 1219], [120, 1569, 582, 583], [527], [527], [119, 1574, 1575, 1576], [126, 1582, 1583, 1584], [119, 638, 639, 640], [403], [1494], [405], [407], [1495], [409], [616], [118, 1087, 1088, 0]] (by decide +kernel) (by decide +kernel)
def mm_pl_M : List (Nat × Instr) := [(3, .pop), (9, .ret 3330), (9, .getfield 3330), (13, .iconst 119753), (14, .ret 3334), (14, .getfield 3334), (17, .ret 3350), (17, .getfield 3350), (20, .ret 3358), (20, .getfield 3358), (23, .ret 3378), (23, .getfield 3378), (26, .ret 3382), (26, .getfield 3382), (29, .ret 3386), (29, .getfield 3386), (32, .ret 3414), (32, .getfield 3414), (35, .jsr 23114405), (37, .jsr 18935), (39, .jsr 116807086), (41, .jsr 398548), (43, .jsr 1130181), (45, .jsr 20141), (47, .jsr 441972), (49, .jsr 12748404), (51, .jsr 402789), (53, .jsr 8125468850), (55, .ret 3426), (55, .getfield 3426), (59, .ret 3430), (59, .getfield 3430), (62, .ret 3434), (62, .getfield 3434), (66, .ret 3438), (66, .getfield 3438), (69, .ret 3454), (69, .getfield 3454), (72, .ret 3466), (72, .getfield 3466), (75, .ret 3470), (75, .getfield 3470), (78, .ret 3474), (78, .getfield 3474), (81, .ret 3478), (81, .getfield 3478), (84, .ret 3482), (84, .getfield 3482), (87, .ret 3486), (87, .getfield 3486), (91, .ret 3490), (91, .getfield 3490), (94, .ret 3494), (94, .getfield 3494), (97, .ret 3498), (97, .getfield 3498), (100, .daload), (106, .jsr 3), (108, .invokestatic 14036992), (112, .jsr (-1)), (114, .jsr 9), (116, .getfield 3336), (116, .putfield 3336), (120, .iconst 115890), (121, .putfield 3340), (121, .getfield 3340), (124, .putstatic 3344), (124, .getfield 3344), (128, .invokevirtual 14301453), (132, .putstatic 3352), (132, .getfield 3352), (135, .iconst 1000000), (136, .putfield 3360), (136, .getfield 3360), (139, .putfield 3364), (139, .getfield 3364), (142, .putfield 3368), (142, .getfield 3368), (145, .putfield 3372), (145, .getfield 3372), (148, .invokevirtual 14766093), (152, .invokestatic 15015936), (156, .invokestatic 14094336), (160, .invokestatic 14159872), (163, .invokevirtual 15300877), (167, .invokevirtual 14819341), (170, .invokevirtual 15364109), (174, .invokevirtual 14229517), (178, .invokevirtual 14958605), (182, .invokestatic 15151104), (186, .invokevirtual 15491085), (190, .invokevirtual 14884877), (193, .jsr (-999)), (195, .jsr 999), (197, .invokestatic 15085568), (200, .jsr 16), (202, .invokevirtual 15747341), (206, .invokevirtual 15810573), (209, .invokevirtual 15935757), (213, .invokevirtual 16007181), (216, .invokevirtual 14620941), (219, .invokevirtual 16132365), (222, .invokevirtual 16359437), (226, .invokevirtual 15220749), (229, .invokevirtual 16465933), (232, .invokevirtual 16523277), (235, .invokevirtual 16588813), (238, .jsr 4), (240, .getfield 3388), (240, .putfield 3388), (243, .jsr 97), (245, .jsr 122), (247, .jsr 48), (249, .jsr 57), (251, .getfield 3396), (251, .putfield 3396), (254, .putfield 3392), (254, .getfield 3392), (257, .putfield 3400), (257, .getfield 3400), (260, .invokevirtual 16785421), (263, .putfield 3421), (263, .getfield 3421), (267, .jsr 32), (269, .invokevirtual 16850957), (272, .putfield 3404), (272, .getfield 3404), (275, .putfield 3408), (275, .getfield 3408), (278, .putfield 3416), (278, .getfield 3416), (281, .invokevirtual 16914701), (284, .invokevirtual 17113101), (288, .invokevirtual 17045773), (291, .invokevirtual 17635597), (294, .jsr 498), (296, .invokevirtual 17178637), (299, .invokevirtual 17443085), (302, .invokevirtual 17701133), (305, .jsr 1476), (307, .jsr 14836), (309, .invokevirtual 17502221), (313, .invokevirtual 17570061), (316, .invokevirtual 17244173), (319, .invokevirtual 17312013), (323, .invokevirtual 17766669), (326, .invokevirtual 17832205), (329, .invokevirtual 17963277), (332, .invokevirtual 17895437), (336, .invokevirtual 17375245), (339, .jsr 39), (341, .invokevirtual 16980237), (344, .invokevirtual 18096141), (347, .invokevirtual 18296845), (350, .getfield 3440), (350, .putfield 3440), (353, .getfield 3444), (353, .putfield 3444), (356, .getfield 3448), (356, .putfield 3448), (359, .invokevirtual 18366477), (363, .invokevirtual 18436109), (367, .invokestatic 18493696), (373, .jsr (-2147483648)), (375, .jsr 2147483647), (377, .dadd), (382, .dsub), (385, .invokevirtual 18563085), (388, .invokevirtual 18618637), (391, .invokevirtual 18694157), (394, .invokevirtual 18759693), (397, .invokevirtual 18821133), (400, .iconst (-2000000000)), (401, .jsr 5), (403, .invokevirtual 19214349), (406, .putfield 3456), (406, .getfield 3456), (409, .invokevirtual 19357709), (413, .invokevirtual 19409165), (416, .invokevirtual 14686477), (419, .getfield 3460), (419, .putfield 3460), (422, .iconst 1103515245), (423, .jsr 30), (425, .invokevirtual 19734541), (428, .invokevirtual 19935245), (431, .invokevirtual 20074509), (434, .invokevirtual 20197389), (437, .invokestatic 20582400), (440, .invokevirtual 20721677), (443, .invokevirtual 20979725), (446, .jsr 12), (448, .jsr 197733), (450, .jsr 632645), (452, .jsr 9675), (454, .jsr 206220), (456, .jsr 474565), (458, .putfield 3508), (458, .getfield 3508), (461, .putfield 3504), (461, .getfield 3504), (464, .invokevirtual 21240077), (467, .jsr 605939), (469, .jsr 3737826771), (471, .invokevirtual 21633293), (474, .jsr 609752116), (476, .invokevirtual 21567757), (479, .jsr 16819668), (481, .invokevirtual 21109005), (484, .invokevirtual 21174541), (487, .invokevirtual 21305613), (490, .invokevirtual 21436685), (493, .jsr 655), (495, .invokevirtual 21506317), (499, .jsr 317298260), (501, .jsr 89), (503, .jsr 609664709), (505, .jsr 114201), (507, .jsr 677454), (509, .jsr 664729), (511, .jsr 20194516), (513, .invokevirtual 21371149), (516, .getfield 3500), (516, .putfield 3500), (519, .getfield 3528), (519, .putfield 3528), (522, .invokevirtual 21766157), (525, .getfield 3520), (525, .putfield 3520), (528, .getfield 3524), (528, .putfield 3524), (531, .getfield 3516), (531, .putstatic 3516), (534, .getfield 3512), (534, .putfield 3512), (537, .invokevirtual 21969165), (541, .invokevirtual 21831693), (544, .invokestatic 21893120), (547, .invokevirtual 22028301), (550, .invokevirtual 19472397), (553, .invokevirtual 20320269)]
set_option maxRecDepth 20000 in
theorem mm_pk_M : ∀ q ∈ mm_pl_M, mm_PK "FewRectanglesModel" q.1 q.2 := mm_pool_g [[1595], [1608], [1608], [1596], [1609], [1609], [1613], [1613], [1615], [1615], [1620], [1620], [1621], [1621], [1622], [1622], [1629], [1629], [1597], [1598], [1599], [1600], [1601], [1602], [1603], [1604], [1605], [1606], [1632], [1632], [1633], [1633], [1634], [1634], [1635], [1635], [1639], [1639], [1642], [1642], [1643], [1643], [1644], [1644], [1645], [1645], [1646], [1646], [1647], [1647], [1648], [1648], [1649], [1649], [1650], [1650], [1607], [1804], [131, 1805, 1806, 0], [1811], [1812], [1610], [1610], [1824], [1611], [1611], [1612], [1612], [131, 1768, 1770, 49], [1614], [1614], [1792], [1616], [1616], [1617], [1617], [1618], [1618], [1619], [1619], [131, 1793, 1795, 51], [131, 1817, 1818, 0], [131, 1801, 1802, 0], [131, 1808, 1809, 0], [131, 1813, 1815, 53], [131, 1788, 1790, 50], [131, 1797, 1799, 52], [131, 1820, 1822, 54], [131, 1833, 1835, 56], [131, 1837, 1838, 0], [131, 1829, 1831, 55], [131, 1848, 1850, 57], [1852], [1853], [131, 1867, 1868, 0], [1862], [131, 1863, 1865, 59], [131, 1858, 1860, 58], [131, 1878, 1880, 61], [131, 1874, 1876, 60], [131, 1890, 1892, 63], [131, 1886, 1888, 62], [131, 1902, 1904, 64], [131, 1910, 1912, 65], [131, 1914, 1916, 66], [131, 1926, 1907, 1908], [131, 1922, 1924, 67], [1931], [1623], [1623], [1949], [1950], [1956], [1957], [1625], [1625], [1624], [1624], [1626], [1626], [131, 1945, 1947, 70], [1631], [1631], [1951], [131, 1952, 1954, 71], [1627], [1627], [1628], [1628], [1630], [1630], [131, 1941, 1943, 69], [131, 1971, 1973, 75], [131, 1979, 1981, 77], [131, 1962, 1964, 73], [2020], [131, 2016, 2018, 86], [131, 1983, 1985, 78], [131, 1966, 1968, 74], [2015], [1970], [131, 1975, 1977, 76], [131, 1958, 1960, 72], [131, 1987, 1989, 79], [131, 1991, 1993, 80], [131, 1995, 1997, 81], [131, 1999, 2001, 82], [131, 2003, 2005, 83], [131, 2007, 2009, 84], [131, 2011, 2013, 85], [1936], [131, 1937, 1939, 68], [131, 2025, 2027, 87], [131, 2049, 2051, 91], [1636], [1636], [1637], [1637], [1638], [1638], [131, 2063, 2065, 94], [131, 2059, 2061, 93], [131, 2067, 2068, 0], [2070], [2071], [2053], [2054], [131, 2055, 2057, 92], [131, 2045, 2047, 90], [131, 2041, 2043, 89], [131, 2037, 2039, 88], [131, 2076, 2034, 2035], [2089], [2098], [131, 2103, 2095, 2096], [1640], [1640], [131, 2112, 2114, 96], [131, 2108, 2110, 95], [131, 2128, 2130, 97], [1641], [1641], [2141], [2136], [131, 2137, 2139, 98], [131, 2146, 2148, 99], [131, 2158, 2160, 100], [131, 2166, 2168, 101], [131, 2190, 2191, 0], [131, 2197, 2199, 102], [131, 2209, 2211, 103], [2217], [2236], [2237], [2238], [2239], [2244], [1653], [1653], [1652], [1652], [131, 2249, 2251, 109], [2253], [2254], [131, 2222, 2224, 104], [2226], [131, 2227, 2229, 105], [2231], [131, 2232, 2234, 106], [131, 2240, 2242, 107], [131, 2245, 2247, 108], [131, 2255, 2257, 110], [2259], [131, 2260, 2262, 111], [2264], [2265], [2266], [2267], [2268], [2269], [2270], [131, 2271, 2273, 112], [1651], [1651], [1658], [1658], [131, 2287, 2289, 115], [1656], [1656], [1657], [1657], [1655], [1655], [1654], [1654], [131, 2283, 2285, 114], [131, 2291, 2293, 116], [131, 2295, 2296, 0], [131, 2279, 2281, 113], [131, 2302, 2105, 2106], [131, 2303, 2171, 2172]] (by decide +kernel) (by decide +kernel)
def mm_pl_Mth : List (Nat × Instr) := []
set_option maxRecDepth 20000 in
theorem mm_pk_Mth : ∀ q ∈ mm_pl_Mth, mm_PK "java/lang/Math" q.1 q.2 := mm_pool_g [] (by decide +kernel) (by decide +kernel)
def mm_pl_Str : List (Nat × Instr) := [(9, .getfield 3586), (15, .getfield 3588), (38, .nop), (335, .invokevirtual 22614030), (492, .invokevirtual 22679566), (495, .invokestatic 22814720), (505, .invokevirtual 22351886), (633, .invokevirtual 22556686), (637, .invokestatic 22953984), (1053, .pop2), (1059, .invokestatic 23212032)]
set_option maxRecDepth 20000 in
theorem mm_pk_Str : ∀ q ∈ mm_pl_Str, mm_PK "java/lang/String" q.1 q.2 := mm_pool_g [[2309], [2308], [856], [134, 862, 863, 864], [134, 852, 853, 854], [135, 949, 950, 0], [134, 858, 859, 860], [134, 848, 849, 850], [135, 866, 867, 0], [895], [137, 955, 956, 0]] (by decide +kernel) (by decide +kernel)
def mm_pl_Lat : List (Nat × Instr) := [(9, .invokestatic 22751488), (38, .dsub), (88, .invokestatic 22876160), (92, .dadd), (95, .invokestatic 23019520)]
set_option maxRecDepth 20000 in
theorem mm_pk_Lat : ∀ q ∈ mm_pl_Lat, mm_PK "java/lang/StringLatin1" q.1 q.2 := mm_pool_g [[134, 952, 953, 0], [873], [135, 869, 870, 0], [872], [135, 874, 875, 0]] (by decide +kernel) (by decide +kernel)
def mm_pl_Arr : List (Nat × Instr) := [(150, .daload), (304, .dsub)]
set_option maxRecDepth 20000 in
theorem mm_pk_Arr : ∀ q ∈ mm_pl_Arr, mm_PK "java/util/Arrays" q.1 q.2 := mm_pool_g [[1040], [1039]] (by decide +kernel) (by decide +kernel)
def mm_pl_Pre : List (Nat × Instr) := []
set_option maxRecDepth 20000 in
theorem mm_pk_Pre : ∀ q ∈ mm_pl_Pre, mm_PK "jdk/internal/util/Preconditions" q.1 q.2 := mm_pool_g [] (by decide +kernel) (by decide +kernel)
end
section
/-! Each method's facts. Printed by wip/whole/gen/meths.py. -/
def mm_mf (i : Nat) : Prop := ∃ (pool : List (Nat × Instr)) (isI : Bool), (∀ q ∈ pool, mm_PK (mm_inf i).1.cls q.1 q.2) ∧ (isI = true → (mm_inf i).1.name = "<init>") ∧ mm_chk (mm_look mm_tab i).2.2 pool isI (mm_inf i).2.2.2 (mm_inf i).2.1 (mm_inf i).2.2.1 (mm_look mm_tab i).1 = true ∧ mm_nx (mm_look mm_tab i).1 = 0 ∧ (mm_look mm_tab i).2.1 = (mm_inf i).2.2.1 ∧ plainName (mm_inf i).1.cls = true ∧ Jvm.Cond.code (mm_inf i).1 (mm_inf i).2.1 (mm_inf i).2.2.1 (mm_inf i).2.2.2 ∈ lw_g ∧ (mm_inf i).2.2.1 ≤ 61
set_option maxRecDepth 20000
theorem mm_mf_0 : mm_mf 0 := ⟨mm_pl_Cr, true, mm_pk_Cr, (fun _ => by decide +kernel), by decide +kernel, by decide +kernel, by decide +kernel, by decide +kernel, mm_hw_g (p := 477) (by decide +kernel), by decide +kernel⟩
theorem mm_mf_1 : mm_mf 1 := ⟨mm_pl_Cr, false, mm_pk_Cr, (fun h => by cases h), by decide +kernel, by decide +kernel, by decide +kernel, by decide +kernel, mm_hw_g (p := 827) (by decide +kernel), by decide +kernel⟩
theorem mm_mf_2 : mm_mf 2 := ⟨mm_pl_Cr, false, mm_pk_Cr, (fun h => by cases h), by decide +kernel, by decide +kernel, by decide +kernel, by decide +kernel, mm_hw_g (p := 929) (by decide +kernel), by decide +kernel⟩
theorem mm_mf_3 : mm_mf 3 := ⟨mm_pl_Cr, false, mm_pk_Cr, (fun h => by cases h), by decide +kernel, by decide +kernel, by decide +kernel, by decide +kernel, mm_hw_g (p := 933) (by decide +kernel), by decide +kernel⟩
theorem mm_mf_4 : mm_mf 4 := ⟨mm_pl_Cr, false, mm_pk_Cr, (fun h => by cases h), by decide +kernel, by decide +kernel, by decide +kernel, by decide +kernel, mm_hw_g (p := 977) (by decide +kernel), by decide +kernel⟩
theorem mm_mf_5 : mm_mf 5 := ⟨mm_pl_Cr, false, mm_pk_Cr, (fun h => by cases h), by decide +kernel, by decide +kernel, by decide +kernel, by decide +kernel, mm_hw_g (p := 1004) (by decide +kernel), by decide +kernel⟩
theorem mm_mf_6 : mm_mf 6 := ⟨mm_pl_Cr, false, mm_pk_Cr, (fun h => by cases h), by decide +kernel, by decide +kernel, by decide +kernel, by decide +kernel, mm_hw_g (p := 1008) (by decide +kernel), by decide +kernel⟩
theorem mm_mf_7 : mm_mf 7 := ⟨mm_pl_Cr, false, mm_pk_Cr, (fun h => by cases h), by decide +kernel, by decide +kernel, by decide +kernel, by decide +kernel, mm_hw_g (p := 1011) (by decide +kernel), by decide +kernel⟩
theorem mm_mf_8 : mm_mf 8 := ⟨mm_pl_Cr, false, mm_pk_Cr, (fun h => by cases h), by decide +kernel, by decide +kernel, by decide +kernel, by decide +kernel, mm_hw_g (p := 1015) (by decide +kernel), by decide +kernel⟩
theorem mm_mf_9 : mm_mf 9 := ⟨mm_pl_Cr, false, mm_pk_Cr, (fun h => by cases h), by decide +kernel, by decide +kernel, by decide +kernel, by decide +kernel, mm_hw_g (p := 986) (by decide +kernel), by decide +kernel⟩
theorem mm_mf_10 : mm_mf 10 := ⟨mm_pl_Cr, false, mm_pk_Cr, (fun h => by cases h), by decide +kernel, by decide +kernel, by decide +kernel, by decide +kernel, mm_hw_g (p := 1028) (by decide +kernel), by decide +kernel⟩
theorem mm_mf_11 : mm_mf 11 := ⟨mm_pl_Cr, false, mm_pk_Cr, (fun h => by cases h), by decide +kernel, by decide +kernel, by decide +kernel, by decide +kernel, mm_hw_g (p := 972) (by decide +kernel), by decide +kernel⟩
theorem mm_mf_12 : mm_mf 12 := ⟨mm_pl_Cr, false, mm_pk_Cr, (fun h => by cases h), by decide +kernel, by decide +kernel, by decide +kernel, by decide +kernel, mm_hw_g (p := 968) (by decide +kernel), by decide +kernel⟩
theorem mm_mf_13 : mm_mf 13 := ⟨mm_pl_Cv, true, mm_pk_Cv, (fun _ => by decide +kernel), by decide +kernel, by decide +kernel, by decide +kernel, by decide +kernel, mm_hw_g (p := 400) (by decide +kernel), by decide +kernel⟩
theorem mm_mf_14 : mm_mf 14 := ⟨mm_pl_Cv, false, mm_pk_Cv, (fun h => by cases h), by decide +kernel, by decide +kernel, by decide +kernel, by decide +kernel, mm_hw_g (p := 1300) (by decide +kernel), by decide +kernel⟩
theorem mm_mf_15 : mm_mf 15 := ⟨mm_pl_Cv, false, mm_pk_Cv, (fun h => by cases h), by decide +kernel, by decide +kernel, by decide +kernel, by decide +kernel, mm_hw_g (p := 1304) (by decide +kernel), by decide +kernel⟩
theorem mm_mf_16 : mm_mf 16 := ⟨mm_pl_Cv, false, mm_pk_Cv, (fun h => by cases h), by decide +kernel, by decide +kernel, by decide +kernel, by decide +kernel, mm_hw_g (p := 1351) (by decide +kernel), by decide +kernel⟩
theorem mm_mf_17 : mm_mf 17 := ⟨mm_pl_Cv, false, mm_pk_Cv, (fun h => by cases h), by decide +kernel, by decide +kernel, by decide +kernel, by decide +kernel, mm_hw_g (p := 1360) (by decide +kernel), by decide +kernel⟩
theorem mm_mf_18 : mm_mf 18 := ⟨mm_pl_Cv, false, mm_pk_Cv, (fun h => by cases h), by decide +kernel, by decide +kernel, by decide +kernel, by decide +kernel, mm_hw_g (p := 1363) (by decide +kernel), by decide +kernel⟩
theorem mm_mf_19 : mm_mf 19 := ⟨mm_pl_Cv, false, mm_pk_Cv, (fun h => by cases h), by decide +kernel, by decide +kernel, by decide +kernel, by decide +kernel, mm_hw_g (p := 1367) (by decide +kernel), by decide +kernel⟩
theorem mm_mf_20 : mm_mf 20 := ⟨mm_pl_Cv, false, mm_pk_Cv, (fun h => by cases h), by decide +kernel, by decide +kernel, by decide +kernel, by decide +kernel, mm_hw_g (p := 1375) (by decide +kernel), by decide +kernel⟩
theorem mm_mf_21 : mm_mf 21 := ⟨mm_pl_Cv, false, mm_pk_Cv, (fun h => by cases h), by decide +kernel, by decide +kernel, by decide +kernel, by decide +kernel, mm_hw_g (p := 1310) (by decide +kernel), by decide +kernel⟩
theorem mm_mf_22 : mm_mf 22 := ⟨mm_pl_Cv, false, mm_pk_Cv, (fun h => by cases h), by decide +kernel, by decide +kernel, by decide +kernel, by decide +kernel, mm_hw_g (p := 1321) (by decide +kernel), by decide +kernel⟩
theorem mm_mf_23 : mm_mf 23 := ⟨mm_pl_Cv, false, mm_pk_Cv, (fun h => by cases h), by decide +kernel, by decide +kernel, by decide +kernel, by decide +kernel, mm_hw_g (p := 1315) (by decide +kernel), by decide +kernel⟩
theorem mm_mf_24 : mm_mf 24 := ⟨mm_pl_Cv, false, mm_pk_Cv, (fun h => by cases h), by decide +kernel, by decide +kernel, by decide +kernel, by decide +kernel, mm_hw_g (p := 1330) (by decide +kernel), by decide +kernel⟩
theorem mm_mf_25 : mm_mf 25 := ⟨mm_pl_Cv, false, mm_pk_Cv, (fun h => by cases h), by decide +kernel, by decide +kernel, by decide +kernel, by decide +kernel, mm_hw_g (p := 1485) (by decide +kernel), by decide +kernel⟩
theorem mm_mf_26 : mm_mf 26 := ⟨mm_pl_Cv, false, mm_pk_Cv, (fun h => by cases h), by decide +kernel, by decide +kernel, by decide +kernel, by decide +kernel, mm_hw_g (p := 1443) (by decide +kernel), by decide +kernel⟩
theorem mm_mf_27 : mm_mf 27 := ⟨mm_pl_Cv, false, mm_pk_Cv, (fun h => by cases h), by decide +kernel, by decide +kernel, by decide +kernel, by decide +kernel, mm_hw_g (p := 1451) (by decide +kernel), by decide +kernel⟩
theorem mm_mf_28 : mm_mf 28 := ⟨mm_pl_Cv, false, mm_pk_Cv, (fun h => by cases h), by decide +kernel, by decide +kernel, by decide +kernel, by decide +kernel, mm_hw_g (p := 1447) (by decide +kernel), by decide +kernel⟩
theorem mm_mf_29 : mm_mf 29 := ⟨mm_pl_Ed, true, mm_pk_Ed, (fun _ => by decide +kernel), by decide +kernel, by decide +kernel, by decide +kernel, by decide +kernel, mm_hw_g (p := 284) (by decide +kernel), by decide +kernel⟩
theorem mm_mf_30 : mm_mf 30 := ⟨mm_pl_Ed, false, mm_pk_Ed, (fun h => by cases h), by decide +kernel, by decide +kernel, by decide +kernel, by decide +kernel, mm_hw_g (p := 599) (by decide +kernel), by decide +kernel⟩
theorem mm_mf_31 : mm_mf 31 := ⟨mm_pl_Ed, false, mm_pk_Ed, (fun h => by cases h), by decide +kernel, by decide +kernel, by decide +kernel, by decide +kernel, mm_hw_g (p := 649) (by decide +kernel), by decide +kernel⟩
theorem mm_mf_32 : mm_mf 32 := ⟨mm_pl_Ed, false, mm_pk_Ed, (fun h => by cases h), by decide +kernel, by decide +kernel, by decide +kernel, by decide +kernel, mm_hw_g (p := 672) (by decide +kernel), by decide +kernel⟩
theorem mm_mf_33 : mm_mf 33 := ⟨mm_pl_Ed, false, mm_pk_Ed, (fun h => by cases h), by decide +kernel, by decide +kernel, by decide +kernel, by decide +kernel, mm_hw_g (p := 684) (by decide +kernel), by decide +kernel⟩
theorem mm_mf_34 : mm_mf 34 := ⟨mm_pl_Ed, false, mm_pk_Ed, (fun h => by cases h), by decide +kernel, by decide +kernel, by decide +kernel, by decide +kernel, mm_hw_g (p := 700) (by decide +kernel), by decide +kernel⟩
theorem mm_mf_35 : mm_mf 35 := ⟨mm_pl_Ed, false, mm_pk_Ed, (fun h => by cases h), by decide +kernel, by decide +kernel, by decide +kernel, by decide +kernel, mm_hw_g (p := 742) (by decide +kernel), by decide +kernel⟩
theorem mm_mf_36 : mm_mf 36 := ⟨mm_pl_Ed, false, mm_pk_Ed, (fun h => by cases h), by decide +kernel, by decide +kernel, by decide +kernel, by decide +kernel, mm_hw_g (p := 775) (by decide +kernel), by decide +kernel⟩
theorem mm_mf_37 : mm_mf 37 := ⟨mm_pl_Ed, false, mm_pk_Ed, (fun h => by cases h), by decide +kernel, by decide +kernel, by decide +kernel, by decide +kernel, mm_hw_g (p := 806) (by decide +kernel), by decide +kernel⟩
theorem mm_mf_38 : mm_mf 38 := ⟨mm_pl_Ed, false, mm_pk_Ed, (fun h => by cases h), by decide +kernel, by decide +kernel, by decide +kernel, by decide +kernel, mm_hw_g (p := 786) (by decide +kernel), by decide +kernel⟩
theorem mm_mf_39 : mm_mf 39 := ⟨mm_pl_Ed, false, mm_pk_Ed, (fun h => by cases h), by decide +kernel, by decide +kernel, by decide +kernel, by decide +kernel, mm_hw_g (p := 798) (by decide +kernel), by decide +kernel⟩
theorem mm_mf_40 : mm_mf 40 := ⟨mm_pl_Ed, false, mm_pk_Ed, (fun h => by cases h), by decide +kernel, by decide +kernel, by decide +kernel, by decide +kernel, mm_hw_g (p := 790) (by decide +kernel), by decide +kernel⟩
theorem mm_mf_41 : mm_mf 41 := ⟨mm_pl_Ed, false, mm_pk_Ed, (fun h => by cases h), by decide +kernel, by decide +kernel, by decide +kernel, by decide +kernel, mm_hw_g (p := 705) (by decide +kernel), by decide +kernel⟩
theorem mm_mf_42 : mm_mf 42 := ⟨mm_pl_Ed, false, mm_pk_Ed, (fun h => by cases h), by decide +kernel, by decide +kernel, by decide +kernel, by decide +kernel, mm_hw_g (p := 713) (by decide +kernel), by decide +kernel⟩
theorem mm_mf_43 : mm_mf 43 := ⟨mm_pl_Ed, false, mm_pk_Ed, (fun h => by cases h), by decide +kernel, by decide +kernel, by decide +kernel, by decide +kernel, mm_hw_g (p := 729) (by decide +kernel), by decide +kernel⟩
theorem mm_mf_44 : mm_mf 44 := ⟨mm_pl_Hi, true, mm_pk_Hi, (fun _ => by decide +kernel), by decide +kernel, by decide +kernel, by decide +kernel, by decide +kernel, mm_hw_g (p := 151) (by decide +kernel), by decide +kernel⟩
theorem mm_mf_45 : mm_mf 45 := ⟨mm_pl_Hi, false, mm_pk_Hi, (fun h => by cases h), by decide +kernel, by decide +kernel, by decide +kernel, by decide +kernel, mm_hw_g (p := 577) (by decide +kernel), by decide +kernel⟩
theorem mm_mf_46 : mm_mf 46 := ⟨mm_pl_Hi, false, mm_pk_Hi, (fun h => by cases h), by decide +kernel, by decide +kernel, by decide +kernel, by decide +kernel, mm_hw_g (p := 573) (by decide +kernel), by decide +kernel⟩
theorem mm_mf_47 : mm_mf 47 := ⟨mm_pl_Hi, false, mm_pk_Hi, (fun h => by cases h), by decide +kernel, by decide +kernel, by decide +kernel, by decide +kernel, mm_hw_g (p := 641) (by decide +kernel), by decide +kernel⟩
theorem mm_mf_48 : mm_mf 48 := ⟨mm_pl_Hi, false, mm_pk_Hi, (fun h => by cases h), by decide +kernel, by decide +kernel, by decide +kernel, by decide +kernel, mm_hw_g (p := 1138) (by decide +kernel), by decide +kernel⟩
theorem mm_mf_49 : mm_mf 49 := ⟨mm_pl_Hi, false, mm_pk_Hi, (fun h => by cases h), by decide +kernel, by decide +kernel, by decide +kernel, by decide +kernel, mm_hw_g (p := 1146) (by decide +kernel), by decide +kernel⟩
theorem mm_mf_50 : mm_mf 50 := ⟨mm_pl_Hi, false, mm_pk_Hi, (fun h => by cases h), by decide +kernel, by decide +kernel, by decide +kernel, by decide +kernel, mm_hw_g (p := 1577) (by decide +kernel), by decide +kernel⟩
theorem mm_mf_51 : mm_mf 51 := ⟨mm_pl_Pr, true, mm_pk_Pr, (fun _ => by decide +kernel), by decide +kernel, by decide +kernel, by decide +kernel, by decide +kernel, mm_hw_g (p := 321) (by decide +kernel), by decide +kernel⟩
theorem mm_mf_52 : mm_mf 52 := ⟨mm_pl_Pr, false, mm_pk_Pr, (fun h => by cases h), by decide +kernel, by decide +kernel, by decide +kernel, by decide +kernel, mm_hw_g (p := 1155) (by decide +kernel), by decide +kernel⟩
theorem mm_mf_53 : mm_mf 53 := ⟨mm_pl_Pr, false, mm_pk_Pr, (fun h => by cases h), by decide +kernel, by decide +kernel, by decide +kernel, by decide +kernel, mm_hw_g (p := 1164) (by decide +kernel), by decide +kernel⟩
theorem mm_mf_54 : mm_mf 54 := ⟨mm_pl_Pr, false, mm_pk_Pr, (fun h => by cases h), by decide +kernel, by decide +kernel, by decide +kernel, by decide +kernel, mm_hw_g (p := 1171) (by decide +kernel), by decide +kernel⟩
theorem mm_mf_55 : mm_mf 55 := ⟨mm_pl_Pr, false, mm_pk_Pr, (fun h => by cases h), by decide +kernel, by decide +kernel, by decide +kernel, by decide +kernel, mm_hw_g (p := 1175) (by decide +kernel), by decide +kernel⟩
theorem mm_mf_56 : mm_mf 56 := ⟨mm_pl_Pr, false, mm_pk_Pr, (fun h => by cases h), by decide +kernel, by decide +kernel, by decide +kernel, by decide +kernel, mm_hw_g (p := 1196) (by decide +kernel), by decide +kernel⟩
theorem mm_mf_57 : mm_mf 57 := ⟨mm_pl_Pr, false, mm_pk_Pr, (fun h => by cases h), by decide +kernel, by decide +kernel, by decide +kernel, by decide +kernel, mm_hw_g (p := 1185) (by decide +kernel), by decide +kernel⟩
theorem mm_mf_58 : mm_mf 58 := ⟨mm_pl_Pr, false, mm_pk_Pr, (fun h => by cases h), by decide +kernel, by decide +kernel, by decide +kernel, by decide +kernel, mm_hw_g (p := 1189) (by decide +kernel), by decide +kernel⟩
theorem mm_mf_59 : mm_mf 59 := ⟨mm_pl_Pr, false, mm_pk_Pr, (fun h => by cases h), by decide +kernel, by decide +kernel, by decide +kernel, by decide +kernel, mm_hw_g (p := 1180) (by decide +kernel), by decide +kernel⟩
theorem mm_mf_60 : mm_mf 60 := ⟨mm_pl_Pr, false, mm_pk_Pr, (fun h => by cases h), by decide +kernel, by decide +kernel, by decide +kernel, by decide +kernel, mm_hw_g (p := 1193) (by decide +kernel), by decide +kernel⟩
theorem mm_mf_61 : mm_mf 61 := ⟨mm_pl_Pg, true, mm_pk_Pg, (fun _ => by decide +kernel), by decide +kernel, by decide +kernel, by decide +kernel, by decide +kernel, mm_hw_g (p := 493) (by decide +kernel), by decide +kernel⟩
theorem mm_mf_62 : mm_mf 62 := ⟨mm_pl_Pg, false, mm_pk_Pg, (fun h => by cases h), by decide +kernel, by decide +kernel, by decide +kernel, by decide +kernel, mm_hw_g (p := 1512) (by decide +kernel), by decide +kernel⟩
theorem mm_mf_63 : mm_mf 63 := ⟨mm_pl_Pg, false, mm_pk_Pg, (fun h => by cases h), by decide +kernel, by decide +kernel, by decide +kernel, by decide +kernel, mm_hw_g (p := 1517) (by decide +kernel), by decide +kernel⟩
theorem mm_mf_64 : mm_mf 64 := ⟨mm_pl_Pg, false, mm_pk_Pg, (fun h => by cases h), by decide +kernel, by decide +kernel, by decide +kernel, by decide +kernel, mm_hw_g (p := 1559) (by decide +kernel), by decide +kernel⟩
theorem mm_mf_65 : mm_mf 65 := ⟨mm_pl_Pg, false, mm_pk_Pg, (fun h => by cases h), by decide +kernel, by decide +kernel, by decide +kernel, by decide +kernel, mm_hw_g (p := 1528) (by decide +kernel), by decide +kernel⟩
theorem mm_mf_66 : mm_mf 66 := ⟨mm_pl_Pg, false, mm_pk_Pg, (fun h => by cases h), by decide +kernel, by decide +kernel, by decide +kernel, by decide +kernel, mm_hw_g (p := 1532) (by decide +kernel), by decide +kernel⟩
theorem mm_mf_67 : mm_mf 67 := ⟨mm_pl_Pg, false, mm_pk_Pg, (fun h => by cases h), by decide +kernel, by decide +kernel, by decide +kernel, by decide +kernel, mm_hw_g (p := 1547) (by decide +kernel), by decide +kernel⟩
theorem mm_mf_68 : mm_mf 68 := ⟨mm_pl_Pg, false, mm_pk_Pg, (fun h => by cases h), by decide +kernel, by decide +kernel, by decide +kernel, by decide +kernel, mm_hw_g (p := 1540) (by decide +kernel), by decide +kernel⟩
theorem mm_mf_69 : mm_mf 69 := ⟨mm_pl_Pg, false, mm_pk_Pg, (fun h => by cases h), by decide +kernel, by decide +kernel, by decide +kernel, by decide +kernel, mm_hw_g (p := 1553) (by decide +kernel), by decide +kernel⟩
theorem mm_mf_70 : mm_mf 70 := ⟨mm_pl_Pg, false, mm_pk_Pg, (fun h => by cases h), by decide +kernel, by decide +kernel, by decide +kernel, by decide +kernel, mm_hw_g (p := 1523) (by decide +kernel), by decide +kernel⟩
theorem mm_mf_71 : mm_mf 71 := ⟨mm_pl_Ru, true, mm_pk_Ru, (fun _ => by decide +kernel), by decide +kernel, by decide +kernel, by decide +kernel, by decide +kernel, mm_hw_g (p := 165) (by decide +kernel), by decide +kernel⟩
theorem mm_mf_72 : mm_mf 72 := ⟨mm_pl_Ru, false, mm_pk_Ru, (fun h => by cases h), by decide +kernel, by decide +kernel, by decide +kernel, by decide +kernel, mm_hw_g (p := 595) (by decide +kernel), by decide +kernel⟩
theorem mm_mf_73 : mm_mf 73 := ⟨mm_pl_Ru, false, mm_pk_Ru, (fun h => by cases h), by decide +kernel, by decide +kernel, by decide +kernel, by decide +kernel, mm_hw_g (p := 1160) (by decide +kernel), by decide +kernel⟩
theorem mm_mf_74 : mm_mf 74 := ⟨mm_pl_Ru, false, mm_pk_Ru, (fun h => by cases h), by decide +kernel, by decide +kernel, by decide +kernel, by decide +kernel, mm_hw_g (p := 734) (by decide +kernel), by decide +kernel⟩
theorem mm_mf_75 : mm_mf 75 := ⟨mm_pl_Ru, false, mm_pk_Ru, (fun h => by cases h), by decide +kernel, by decide +kernel, by decide +kernel, by decide +kernel, mm_hw_g (p := 746) (by decide +kernel), by decide +kernel⟩
theorem mm_mf_76 : mm_mf 76 := ⟨mm_pl_Ru, false, mm_pk_Ru, (fun h => by cases h), by decide +kernel, by decide +kernel, by decide +kernel, by decide +kernel, mm_hw_g (p := 749) (by decide +kernel), by decide +kernel⟩
theorem mm_mf_77 : mm_mf 77 := ⟨mm_pl_Ru, false, mm_pk_Ru, (fun h => by cases h), by decide +kernel, by decide +kernel, by decide +kernel, by decide +kernel, mm_hw_g (p := 755) (by decide +kernel), by decide +kernel⟩
theorem mm_mf_78 : mm_mf 78 := ⟨mm_pl_Rn, true, mm_pk_Rn, (fun _ => by decide +kernel), by decide +kernel, by decide +kernel, by decide +kernel, by decide +kernel, mm_hw_g (p := 299) (by decide +kernel), by decide +kernel⟩
theorem mm_mf_79 : mm_mf 79 := ⟨mm_pl_Rn, false, mm_pk_Rn, (fun h => by cases h), by decide +kernel, by decide +kernel, by decide +kernel, by decide +kernel, mm_hw_g (p := 1101) (by decide +kernel), by decide +kernel⟩
theorem mm_mf_80 : mm_mf 80 := ⟨mm_pl_Rn, false, mm_pk_Rn, (fun h => by cases h), by decide +kernel, by decide +kernel, by decide +kernel, by decide +kernel, mm_hw_g (p := 1105) (by decide +kernel), by decide +kernel⟩
theorem mm_mf_81 : mm_mf 81 := ⟨mm_pl_Rn, false, mm_pk_Rn, (fun h => by cases h), by decide +kernel, by decide +kernel, by decide +kernel, by decide +kernel, mm_hw_g (p := 1111) (by decide +kernel), by decide +kernel⟩
theorem mm_mf_82 : mm_mf 82 := ⟨mm_pl_Rn, false, mm_pk_Rn, (fun h => by cases h), by decide +kernel, by decide +kernel, by decide +kernel, by decide +kernel, mm_hw_g (p := 1126) (by decide +kernel), by decide +kernel⟩
theorem mm_mf_83 : mm_mf 83 := ⟨mm_pl_Rn, false, mm_pk_Rn, (fun h => by cases h), by decide +kernel, by decide +kernel, by decide +kernel, by decide +kernel, mm_hw_g (p := 1115) (by decide +kernel), by decide +kernel⟩
theorem mm_mf_84 : mm_mf 84 := ⟨mm_pl_Rn, false, mm_pk_Rn, (fun h => by cases h), by decide +kernel, by decide +kernel, by decide +kernel, by decide +kernel, mm_hw_g (p := 1120) (by decide +kernel), by decide +kernel⟩
theorem mm_mf_85 : mm_mf 85 := ⟨mm_pl_Sh, true, mm_pk_Sh, (fun _ => by decide +kernel), by decide +kernel, by decide +kernel, by decide +kernel, by decide +kernel, mm_hw_g (p := 158) (by decide +kernel), by decide +kernel⟩
theorem mm_mf_86 : mm_mf 86 := ⟨mm_pl_Sh, false, mm_pk_Sh, (fun h => by cases h), by decide +kernel, by decide +kernel, by decide +kernel, by decide +kernel, mm_hw_g (p := 584) (by decide +kernel), by decide +kernel⟩
theorem mm_mf_87 : mm_mf 87 := ⟨mm_pl_Sh, false, mm_pk_Sh, (fun h => by cases h), by decide +kernel, by decide +kernel, by decide +kernel, by decide +kernel, mm_hw_g (p := 660) (by decide +kernel), by decide +kernel⟩
theorem mm_mf_88 : mm_mf 88 := ⟨mm_pl_Sh, false, mm_pk_Sh, (fun h => by cases h), by decide +kernel, by decide +kernel, by decide +kernel, by decide +kernel, mm_hw_g (p := 688) (by decide +kernel), by decide +kernel⟩
end
section
/-! Each method's facts. Printed by wip/whole/gen/meths.py. -/
set_option maxRecDepth 20000
theorem mm_mf_89 : mm_mf 89 := ⟨mm_pl_Sh, false, mm_pk_Sh, (fun h => by cases h), by decide +kernel, by decide +kernel, by decide +kernel, by decide +kernel, mm_hw_g (p := 612) (by decide +kernel), by decide +kernel⟩
theorem mm_mf_90 : mm_mf 90 := ⟨mm_pl_Sh, false, mm_pk_Sh, (fun h => by cases h), by decide +kernel, by decide +kernel, by decide +kernel, by decide +kernel, mm_hw_g (p := 656) (by decide +kernel), by decide +kernel⟩
theorem mm_mf_91 : mm_mf 91 := ⟨mm_pl_Sh, false, mm_pk_Sh, (fun h => by cases h), by decide +kernel, by decide +kernel, by decide +kernel, by decide +kernel, mm_hw_g (p := 763) (by decide +kernel), by decide +kernel⟩
theorem mm_mf_92 : mm_mf 92 := ⟨mm_pl_Sh, false, mm_pk_Sh, (fun h => by cases h), by decide +kernel, by decide +kernel, by decide +kernel, by decide +kernel, mm_hw_g (p := 591) (by decide +kernel), by decide +kernel⟩
theorem mm_mf_93 : mm_mf 93 := ⟨mm_pl_Sh, false, mm_pk_Sh, (fun h => by cases h), by decide +kernel, by decide +kernel, by decide +kernel, by decide +kernel, mm_hw_g (p := 717) (by decide +kernel), by decide +kernel⟩
theorem mm_mf_94 : mm_mf 94 := ⟨mm_pl_Sh, false, mm_pk_Sh, (fun h => by cases h), by decide +kernel, by decide +kernel, by decide +kernel, by decide +kernel, mm_hw_g (p := 692) (by decide +kernel), by decide +kernel⟩
theorem mm_mf_95 : mm_mf 95 := ⟨mm_pl_Sh, false, mm_pk_Sh, (fun h => by cases h), by decide +kernel, by decide +kernel, by decide +kernel, by decide +kernel, mm_hw_g (p := 721) (by decide +kernel), by decide +kernel⟩
theorem mm_mf_96 : mm_mf 96 := ⟨mm_pl_Sh, false, mm_pk_Sh, (fun h => by cases h), by decide +kernel, by decide +kernel, by decide +kernel, by decide +kernel, mm_hw_g (p := 633) (by decide +kernel), by decide +kernel⟩
theorem mm_mf_97 : mm_mf 97 := ⟨mm_pl_Sh, false, mm_pk_Sh, (fun h => by cases h), by decide +kernel, by decide +kernel, by decide +kernel, by decide +kernel, mm_hw_g (p := 725) (by decide +kernel), by decide +kernel⟩
theorem mm_mf_98 : mm_mf 98 := ⟨mm_pl_Sh, false, mm_pk_Sh, (fun h => by cases h), by decide +kernel, by decide +kernel, by decide +kernel, by decide +kernel, mm_hw_g (p := 664) (by decide +kernel), by decide +kernel⟩
theorem mm_mf_99 : mm_mf 99 := ⟨mm_pl_Sh, false, mm_pk_Sh, (fun h => by cases h), by decide +kernel, by decide +kernel, by decide +kernel, by decide +kernel, mm_hw_g (p := 815) (by decide +kernel), by decide +kernel⟩
theorem mm_mf_100 : mm_mf 100 := ⟨mm_pl_Sh, false, mm_pk_Sh, (fun h => by cases h), by decide +kernel, by decide +kernel, by decide +kernel, by decide +kernel, mm_hw_g (p := 810) (by decide +kernel), by decide +kernel⟩
theorem mm_mf_101 : mm_mf 101 := ⟨mm_pl_Sh, false, mm_pk_Sh, (fun h => by cases h), by decide +kernel, by decide +kernel, by decide +kernel, by decide +kernel, mm_hw_g (p := 1459) (by decide +kernel), by decide +kernel⟩
theorem mm_mf_102 : mm_mf 102 := ⟨mm_pl_Sh, false, mm_pk_Sh, (fun h => by cases h), by decide +kernel, by decide +kernel, by decide +kernel, by decide +kernel, mm_hw_g (p := 1200) (by decide +kernel), by decide +kernel⟩
theorem mm_mf_103 : mm_mf 103 := ⟨mm_pl_Sh, false, mm_pk_Sh, (fun h => by cases h), by decide +kernel, by decide +kernel, by decide +kernel, by decide +kernel, mm_hw_g (p := 1204) (by decide +kernel), by decide +kernel⟩
theorem mm_mf_104 : mm_mf 104 := ⟨mm_pl_Sh, false, mm_pk_Sh, (fun h => by cases h), by decide +kernel, by decide +kernel, by decide +kernel, by decide +kernel, mm_hw_g (p := 1048) (by decide +kernel), by decide +kernel⟩
theorem mm_mf_105 : mm_mf 105 := ⟨mm_pl_Sh, false, mm_pk_Sh, (fun h => by cases h), by decide +kernel, by decide +kernel, by decide +kernel, by decide +kernel, mm_hw_g (p := 759) (by decide +kernel), by decide +kernel⟩
theorem mm_mf_106 : mm_mf 106 := ⟨mm_pl_Sh, false, mm_pk_Sh, (fun h => by cases h), by decide +kernel, by decide +kernel, by decide +kernel, by decide +kernel, mm_hw_g (p := 1062) (by decide +kernel), by decide +kernel⟩
theorem mm_mf_107 : mm_mf 107 := ⟨mm_pl_Sh, false, mm_pk_Sh, (fun h => by cases h), by decide +kernel, by decide +kernel, by decide +kernel, by decide +kernel, mm_hw_g (p := 767) (by decide +kernel), by decide +kernel⟩
theorem mm_mf_108 : mm_mf 108 := ⟨mm_pl_Ta, true, mm_pk_Ta, (fun _ => by decide +kernel), by decide +kernel, by decide +kernel, by decide +kernel, by decide +kernel, mm_hw_g (p := 446) (by decide +kernel), by decide +kernel⟩
theorem mm_mf_109 : mm_mf 109 := ⟨mm_pl_Ta, false, mm_pk_Ta, (fun h => by cases h), by decide +kernel, by decide +kernel, by decide +kernel, by decide +kernel, mm_hw_g (p := 1503) (by decide +kernel), by decide +kernel⟩
theorem mm_mf_110 : mm_mf 110 := ⟨mm_pl_Ta, false, mm_pk_Ta, (fun h => by cases h), by decide +kernel, by decide +kernel, by decide +kernel, by decide +kernel, mm_hw_g (p := 1044) (by decide +kernel), by decide +kernel⟩
theorem mm_mf_111 : mm_mf 111 := ⟨mm_pl_Ta, false, mm_pk_Ta, (fun h => by cases h), by decide +kernel, by decide +kernel, by decide +kernel, by decide +kernel, mm_hw_g (p := 831) (by decide +kernel), by decide +kernel⟩
theorem mm_mf_112 : mm_mf 112 := ⟨mm_pl_Ta, false, mm_pk_Ta, (fun h => by cases h), by decide +kernel, by decide +kernel, by decide +kernel, by decide +kernel, mm_hw_g (p := 835) (by decide +kernel), by decide +kernel⟩
theorem mm_mf_113 : mm_mf 113 := ⟨mm_pl_Ta, false, mm_pk_Ta, (fun h => by cases h), by decide +kernel, by decide +kernel, by decide +kernel, by decide +kernel, mm_hw_g (p := 839) (by decide +kernel), by decide +kernel⟩
theorem mm_mf_114 : mm_mf 114 := ⟨mm_pl_Ta, false, mm_pk_Ta, (fun h => by cases h), by decide +kernel, by decide +kernel, by decide +kernel, by decide +kernel, mm_hw_g (p := 991) (by decide +kernel), by decide +kernel⟩
theorem mm_mf_115 : mm_mf 115 := ⟨mm_pl_Ta, false, mm_pk_Ta, (fun h => by cases h), by decide +kernel, by decide +kernel, by decide +kernel, by decide +kernel, mm_hw_g (p := 982) (by decide +kernel), by decide +kernel⟩
theorem mm_mf_116 : mm_mf 116 := ⟨mm_pl_Ta, false, mm_pk_Ta, (fun h => by cases h), by decide +kernel, by decide +kernel, by decide +kernel, by decide +kernel, mm_hw_g (p := 939) (by decide +kernel), by decide +kernel⟩
theorem mm_mf_117 : mm_mf 117 := ⟨mm_pl_Ta, false, mm_pk_Ta, (fun h => by cases h), by decide +kernel, by decide +kernel, by decide +kernel, by decide +kernel, mm_hw_g (p := 999) (by decide +kernel), by decide +kernel⟩
theorem mm_mf_118 : mm_mf 118 := ⟨mm_pl_Ta, false, mm_pk_Ta, (fun h => by cases h), by decide +kernel, by decide +kernel, by decide +kernel, by decide +kernel, mm_hw_g (p := 995) (by decide +kernel), by decide +kernel⟩
theorem mm_mf_119 : mm_mf 119 := ⟨mm_pl_Ta, false, mm_pk_Ta, (fun h => by cases h), by decide +kernel, by decide +kernel, by decide +kernel, by decide +kernel, mm_hw_g (p := 1019) (by decide +kernel), by decide +kernel⟩
theorem mm_mf_120 : mm_mf 120 := ⟨mm_pl_Ta, false, mm_pk_Ta, (fun h => by cases h), by decide +kernel, by decide +kernel, by decide +kernel, by decide +kernel, mm_hw_g (p := 1024) (by decide +kernel), by decide +kernel⟩
theorem mm_mf_121 : mm_mf 121 := ⟨mm_pl_Ta, false, mm_pk_Ta, (fun h => by cases h), by decide +kernel, by decide +kernel, by decide +kernel, by decide +kernel, mm_hw_g (p := 944) (by decide +kernel), by decide +kernel⟩
theorem mm_mf_122 : mm_mf 122 := ⟨mm_pl_Vw, true, mm_pk_Vw, (fun _ => by decide +kernel), by decide +kernel, by decide +kernel, by decide +kernel, by decide +kernel, mm_hw_g (p := 361) (by decide +kernel), by decide +kernel⟩
theorem mm_mf_123 : mm_mf 123 := ⟨mm_pl_Vw, false, mm_pk_Vw, (fun h => by cases h), by decide +kernel, by decide +kernel, by decide +kernel, by decide +kernel, mm_hw_g (p := 1220) (by decide +kernel), by decide +kernel⟩
theorem mm_mf_124 : mm_mf 124 := ⟨mm_pl_Vw, false, mm_pk_Vw, (fun h => by cases h), by decide +kernel, by decide +kernel, by decide +kernel, by decide +kernel, mm_hw_g (p := 1225) (by decide +kernel), by decide +kernel⟩
theorem mm_mf_125 : mm_mf 125 := ⟨mm_pl_Vw, false, mm_pk_Vw, (fun h => by cases h), by decide +kernel, by decide +kernel, by decide +kernel, by decide +kernel, mm_hw_g (p := 1237) (by decide +kernel), by decide +kernel⟩
theorem mm_mf_126 : mm_mf 126 := ⟨mm_pl_Vw, false, mm_pk_Vw, (fun h => by cases h), by decide +kernel, by decide +kernel, by decide +kernel, by decide +kernel, mm_hw_g (p := 1273) (by decide +kernel), by decide +kernel⟩
theorem mm_mf_127 : mm_mf 127 := ⟨mm_pl_Vw, false, mm_pk_Vw, (fun h => by cases h), by decide +kernel, by decide +kernel, by decide +kernel, by decide +kernel, mm_hw_g (p := 1258) (by decide +kernel), by decide +kernel⟩
theorem mm_mf_128 : mm_mf 128 := ⟨mm_pl_Vw, false, mm_pk_Vw, (fun h => by cases h), by decide +kernel, by decide +kernel, by decide +kernel, by decide +kernel, mm_hw_g (p := 1243) (by decide +kernel), by decide +kernel⟩
theorem mm_mf_129 : mm_mf 129 := ⟨mm_pl_Vw, false, mm_pk_Vw, (fun h => by cases h), by decide +kernel, by decide +kernel, by decide +kernel, by decide +kernel, mm_hw_g (p := 1414) (by decide +kernel), by decide +kernel⟩
theorem mm_mf_130 : mm_mf 130 := ⟨mm_pl_Vw, false, mm_pk_Vw, (fun h => by cases h), by decide +kernel, by decide +kernel, by decide +kernel, by decide +kernel, mm_hw_g (p := 1282) (by decide +kernel), by decide +kernel⟩
theorem mm_mf_131 : mm_mf 131 := ⟨mm_pl_Vw, false, mm_pk_Vw, (fun h => by cases h), by decide +kernel, by decide +kernel, by decide +kernel, by decide +kernel, mm_hw_g (p := 1287) (by decide +kernel), by decide +kernel⟩
theorem mm_mf_132 : mm_mf 132 := ⟨mm_pl_Vw, false, mm_pk_Vw, (fun h => by cases h), by decide +kernel, by decide +kernel, by decide +kernel, by decide +kernel, mm_hw_g (p := 1383) (by decide +kernel), by decide +kernel⟩
theorem mm_mf_133 : mm_mf 133 := ⟨mm_pl_Vw, false, mm_pk_Vw, (fun h => by cases h), by decide +kernel, by decide +kernel, by decide +kernel, by decide +kernel, mm_hw_g (p := 1418) (by decide +kernel), by decide +kernel⟩
theorem mm_mf_134 : mm_mf 134 := ⟨mm_pl_Vw, false, mm_pk_Vw, (fun h => by cases h), by decide +kernel, by decide +kernel, by decide +kernel, by decide +kernel, mm_hw_g (p := 1585) (by decide +kernel), by decide +kernel⟩
theorem mm_mf_135 : mm_mf 135 := ⟨mm_pl_Vw, false, mm_pk_Vw, (fun h => by cases h), by decide +kernel, by decide +kernel, by decide +kernel, by decide +kernel, mm_hw_g (p := 1427) (by decide +kernel), by decide +kernel⟩
theorem mm_mf_136 : mm_mf 136 := ⟨mm_pl_Vw, false, mm_pk_Vw, (fun h => by cases h), by decide +kernel, by decide +kernel, by decide +kernel, by decide +kernel, mm_hw_g (p := 1435) (by decide +kernel), by decide +kernel⟩
theorem mm_mf_137 : mm_mf 137 := ⟨mm_pl_Vw, false, mm_pk_Vw, (fun h => by cases h), by decide +kernel, by decide +kernel, by decide +kernel, by decide +kernel, mm_hw_g (p := 1400) (by decide +kernel), by decide +kernel⟩
theorem mm_mf_138 : mm_mf 138 := ⟨mm_pl_Vw, false, mm_pk_Vw, (fun h => by cases h), by decide +kernel, by decide +kernel, by decide +kernel, by decide +kernel, mm_hw_g (p := 1404) (by decide +kernel), by decide +kernel⟩
theorem mm_mf_139 : mm_mf 139 := ⟨mm_pl_F, true, mm_pk_F, (fun _ => by decide +kernel), by decide +kernel, by decide +kernel, by decide +kernel, by decide +kernel, mm_hw_g (p := 143) (by decide +kernel), by decide +kernel⟩
theorem mm_mf_140 : mm_mf 140 := ⟨mm_pl_F, false, mm_pk_F, (fun h => by cases h), by decide +kernel, by decide +kernel, by decide +kernel, by decide +kernel, mm_hw_g (p := 569) (by decide +kernel), by decide +kernel⟩
theorem mm_mf_141 : mm_mf 141 := ⟨mm_pl_F, false, mm_pk_F, (fun h => by cases h), by decide +kernel, by decide +kernel, by decide +kernel, by decide +kernel, mm_hw_g (p := 645) (by decide +kernel), by decide +kernel⟩
theorem mm_mf_142 : mm_mf 142 := ⟨mm_pl_F, false, mm_pk_F, (fun h => by cases h), by decide +kernel, by decide +kernel, by decide +kernel, by decide +kernel, mm_hw_g (p := 668) (by decide +kernel), by decide +kernel⟩
theorem mm_mf_143 : mm_mf 143 := ⟨mm_pl_F, false, mm_pk_F, (fun h => by cases h), by decide +kernel, by decide +kernel, by decide +kernel, by decide +kernel, mm_hw_g (p := 680) (by decide +kernel), by decide +kernel⟩
theorem mm_mf_144 : mm_mf 144 := ⟨mm_pl_F, false, mm_pk_F, (fun h => by cases h), by decide +kernel, by decide +kernel, by decide +kernel, by decide +kernel, mm_hw_g (p := 696) (by decide +kernel), by decide +kernel⟩
theorem mm_mf_145 : mm_mf 145 := ⟨mm_pl_F, false, mm_pk_F, (fun h => by cases h), by decide +kernel, by decide +kernel, by decide +kernel, by decide +kernel, mm_hw_g (p := 738) (by decide +kernel), by decide +kernel⟩
theorem mm_mf_146 : mm_mf 146 := ⟨mm_pl_F, false, mm_pk_F, (fun h => by cases h), by decide +kernel, by decide +kernel, by decide +kernel, by decide +kernel, mm_hw_g (p := 771) (by decide +kernel), by decide +kernel⟩
theorem mm_mf_147 : mm_mf 147 := ⟨mm_pl_F, false, mm_pk_F, (fun h => by cases h), by decide +kernel, by decide +kernel, by decide +kernel, by decide +kernel, mm_hw_g (p := 782) (by decide +kernel), by decide +kernel⟩
theorem mm_mf_148 : mm_mf 148 := ⟨mm_pl_F, false, mm_pk_F, (fun h => by cases h), by decide +kernel, by decide +kernel, by decide +kernel, by decide +kernel, mm_hw_g (p := 794) (by decide +kernel), by decide +kernel⟩
theorem mm_mf_149 : mm_mf 149 := ⟨mm_pl_F, false, mm_pk_F, (fun h => by cases h), by decide +kernel, by decide +kernel, by decide +kernel, by decide +kernel, mm_hw_g (p := 802) (by decide +kernel), by decide +kernel⟩
theorem mm_mf_150 : mm_mf 150 := ⟨mm_pl_F, false, mm_pk_F, (fun h => by cases h), by decide +kernel, by decide +kernel, by decide +kernel, by decide +kernel, mm_hw_g (p := 821) (by decide +kernel), by decide +kernel⟩
theorem mm_mf_151 : mm_mf 151 := ⟨mm_pl_F, false, mm_pk_F, (fun h => by cases h), by decide +kernel, by decide +kernel, by decide +kernel, by decide +kernel, mm_hw_g (p := 1053) (by decide +kernel), by decide +kernel⟩
theorem mm_mf_152 : mm_mf 152 := ⟨mm_pl_F, false, mm_pk_F, (fun h => by cases h), by decide +kernel, by decide +kernel, by decide +kernel, by decide +kernel, mm_hw_g (p := 1058) (by decide +kernel), by decide +kernel⟩
theorem mm_mf_153 : mm_mf 153 := ⟨mm_pl_F, false, mm_pk_F, (fun h => by cases h), by decide +kernel, by decide +kernel, by decide +kernel, by decide +kernel, mm_hw_g (p := 1066) (by decide +kernel), by decide +kernel⟩
theorem mm_mf_154 : mm_mf 154 := ⟨mm_pl_F, false, mm_pk_F, (fun h => by cases h), by decide +kernel, by decide +kernel, by decide +kernel, by decide +kernel, mm_hw_g (p := 1093) (by decide +kernel), by decide +kernel⟩
theorem mm_mf_155 : mm_mf 155 := ⟨mm_pl_F, false, mm_pk_F, (fun h => by cases h), by decide +kernel, by decide +kernel, by decide +kernel, by decide +kernel, mm_hw_g (p := 1134) (by decide +kernel), by decide +kernel⟩
theorem mm_mf_156 : mm_mf 156 := ⟨mm_pl_F, false, mm_pk_F, (fun h => by cases h), by decide +kernel, by decide +kernel, by decide +kernel, by decide +kernel, mm_hw_g (p := 1142) (by decide +kernel), by decide +kernel⟩
theorem mm_mf_157 : mm_mf 157 := ⟨mm_pl_F, false, mm_pk_F, (fun h => by cases h), by decide +kernel, by decide +kernel, by decide +kernel, by decide +kernel, mm_hw_g (p := 1150) (by decide +kernel), by decide +kernel⟩
theorem mm_mf_158 : mm_mf 158 := ⟨mm_pl_F, false, mm_pk_F, (fun h => by cases h), by decide +kernel, by decide +kernel, by decide +kernel, by decide +kernel, mm_hw_g (p := 1208) (by decide +kernel), by decide +kernel⟩
theorem mm_mf_159 : mm_mf 159 := ⟨mm_pl_F, false, mm_pk_F, (fun h => by cases h), by decide +kernel, by decide +kernel, by decide +kernel, by decide +kernel, mm_hw_g (p := 1247) (by decide +kernel), by decide +kernel⟩
theorem mm_mf_160 : mm_mf 160 := ⟨mm_pl_F, false, mm_pk_F, (fun h => by cases h), by decide +kernel, by decide +kernel, by decide +kernel, by decide +kernel, mm_hw_g (p := 1254) (by decide +kernel), by decide +kernel⟩
theorem mm_mf_161 : mm_mf 161 := ⟨mm_pl_F, false, mm_pk_F, (fun h => by cases h), by decide +kernel, by decide +kernel, by decide +kernel, by decide +kernel, mm_hw_g (p := 1262) (by decide +kernel), by decide +kernel⟩
theorem mm_mf_162 : mm_mf 162 := ⟨mm_pl_F, false, mm_pk_F, (fun h => by cases h), by decide +kernel, by decide +kernel, by decide +kernel, by decide +kernel, mm_hw_g (p := 1268) (by decide +kernel), by decide +kernel⟩
theorem mm_mf_163 : mm_mf 163 := ⟨mm_pl_F, false, mm_pk_F, (fun h => by cases h), by decide +kernel, by decide +kernel, by decide +kernel, by decide +kernel, mm_hw_g (p := 1277) (by decide +kernel), by decide +kernel⟩
theorem mm_mf_164 : mm_mf 164 := ⟨mm_pl_F, false, mm_pk_F, (fun h => by cases h), by decide +kernel, by decide +kernel, by decide +kernel, by decide +kernel, mm_hw_g (p := 1292) (by decide +kernel), by decide +kernel⟩
theorem mm_mf_165 : mm_mf 165 := ⟨mm_pl_F, false, mm_pk_F, (fun h => by cases h), by decide +kernel, by decide +kernel, by decide +kernel, by decide +kernel, mm_hw_g (p := 1296) (by decide +kernel), by decide +kernel⟩
theorem mm_mf_166 : mm_mf 166 := ⟨mm_pl_F, false, mm_pk_F, (fun h => by cases h), by decide +kernel, by decide +kernel, by decide +kernel, by decide +kernel, mm_hw_g (p := 1326) (by decide +kernel), by decide +kernel⟩
theorem mm_mf_167 : mm_mf 167 := ⟨mm_pl_F, false, mm_pk_F, (fun h => by cases h), by decide +kernel, by decide +kernel, by decide +kernel, by decide +kernel, mm_hw_g (p := 1336) (by decide +kernel), by decide +kernel⟩
theorem mm_mf_168 : mm_mf 168 := ⟨mm_pl_F, false, mm_pk_F, (fun h => by cases h), by decide +kernel, by decide +kernel, by decide +kernel, by decide +kernel, mm_hw_g (p := 1341) (by decide +kernel), by decide +kernel⟩
theorem mm_mf_169 : mm_mf 169 := ⟨mm_pl_F, false, mm_pk_F, (fun h => by cases h), by decide +kernel, by decide +kernel, by decide +kernel, by decide +kernel, mm_hw_g (p := 1356) (by decide +kernel), by decide +kernel⟩
theorem mm_mf_170 : mm_mf 170 := ⟨mm_pl_F, false, mm_pk_F, (fun h => by cases h), by decide +kernel, by decide +kernel, by decide +kernel, by decide +kernel, mm_hw_g (p := 1379) (by decide +kernel), by decide +kernel⟩
theorem mm_mf_171 : mm_mf 171 := ⟨mm_pl_F, false, mm_pk_F, (fun h => by cases h), by decide +kernel, by decide +kernel, by decide +kernel, by decide +kernel, mm_hw_g (p := 1392) (by decide +kernel), by decide +kernel⟩
theorem mm_mf_172 : mm_mf 172 := ⟨mm_pl_F, false, mm_pk_F, (fun h => by cases h), by decide +kernel, by decide +kernel, by decide +kernel, by decide +kernel, mm_hw_g (p := 1396) (by decide +kernel), by decide +kernel⟩
theorem mm_mf_173 : mm_mf 173 := ⟨mm_pl_F, false, mm_pk_F, (fun h => by cases h), by decide +kernel, by decide +kernel, by decide +kernel, by decide +kernel, mm_hw_g (p := 1410) (by decide +kernel), by decide +kernel⟩
theorem mm_mf_174 : mm_mf 174 := ⟨mm_pl_F, false, mm_pk_F, (fun h => by cases h), by decide +kernel, by decide +kernel, by decide +kernel, by decide +kernel, mm_hw_g (p := 1423) (by decide +kernel), by decide +kernel⟩
theorem mm_mf_175 : mm_mf 175 := ⟨mm_pl_F, false, mm_pk_F, (fun h => by cases h), by decide +kernel, by decide +kernel, by decide +kernel, by decide +kernel, mm_hw_g (p := 1431) (by decide +kernel), by decide +kernel⟩
theorem mm_mf_176 : mm_mf 176 := ⟨mm_pl_F, false, mm_pk_F, (fun h => by cases h), by decide +kernel, by decide +kernel, by decide +kernel, by decide +kernel, mm_hw_g (p := 1439) (by decide +kernel), by decide +kernel⟩
theorem mm_mf_177 : mm_mf 177 := ⟨mm_pl_F, false, mm_pk_F, (fun h => by cases h), by decide +kernel, by decide +kernel, by decide +kernel, by decide +kernel, mm_hw_g (p := 1455) (by decide +kernel), by decide +kernel⟩
end
section
/-! Each method's facts. Printed by wip/whole/gen/meths.py. -/
set_option maxRecDepth 20000
theorem mm_mf_178 : mm_mf 178 := ⟨mm_pl_F, false, mm_pk_F, (fun h => by cases h), by decide +kernel, by decide +kernel, by decide +kernel, by decide +kernel, mm_hw_g (p := 1464) (by decide +kernel), by decide +kernel⟩
theorem mm_mf_179 : mm_mf 179 := ⟨mm_pl_F, false, mm_pk_F, (fun h => by cases h), by decide +kernel, by decide +kernel, by decide +kernel, by decide +kernel, mm_hw_g (p := 1473) (by decide +kernel), by decide +kernel⟩
theorem mm_mf_180 : mm_mf 180 := ⟨mm_pl_F, false, mm_pk_F, (fun h => by cases h), by decide +kernel, by decide +kernel, by decide +kernel, by decide +kernel, mm_hw_g (p := 1477) (by decide +kernel), by decide +kernel⟩
theorem mm_mf_181 : mm_mf 181 := ⟨mm_pl_F, false, mm_pk_F, (fun h => by cases h), by decide +kernel, by decide +kernel, by decide +kernel, by decide +kernel, mm_hw_g (p := 1481) (by decide +kernel), by decide +kernel⟩
theorem mm_mf_182 : mm_mf 182 := ⟨mm_pl_F, false, mm_pk_F, (fun h => by cases h), by decide +kernel, by decide +kernel, by decide +kernel, by decide +kernel, mm_hw_g (p := 1499) (by decide +kernel), by decide +kernel⟩
theorem mm_mf_183 : mm_mf 183 := ⟨mm_pl_F, false, mm_pk_F, (fun h => by cases h), by decide +kernel, by decide +kernel, by decide +kernel, by decide +kernel, mm_hw_g (p := 1508) (by decide +kernel), by decide +kernel⟩
theorem mm_mf_184 : mm_mf 184 := ⟨mm_pl_F, false, mm_pk_F, (fun h => by cases h), by decide +kernel, by decide +kernel, by decide +kernel, by decide +kernel, mm_hw_g (p := 1564) (by decide +kernel), by decide +kernel⟩
theorem mm_mf_185 : mm_mf 185 := ⟨mm_pl_F, false, mm_pk_F, (fun h => by cases h), by decide +kernel, by decide +kernel, by decide +kernel, by decide +kernel, mm_hw_g (p := 1568) (by decide +kernel), by decide +kernel⟩
theorem mm_mf_186 : mm_mf 186 := ⟨mm_pl_F, false, mm_pk_F, (fun h => by cases h), by decide +kernel, by decide +kernel, by decide +kernel, by decide +kernel, mm_hw_g (p := 1573) (by decide +kernel), by decide +kernel⟩
theorem mm_mf_187 : mm_mf 187 := ⟨mm_pl_F, false, mm_pk_F, (fun h => by cases h), by decide +kernel, by decide +kernel, by decide +kernel, by decide +kernel, mm_hw_g (p := 1581) (by decide +kernel), by decide +kernel⟩
theorem mm_mf_188 : mm_mf 188 := ⟨mm_pl_F, false, mm_pk_F, (fun h => by cases h), by decide +kernel, by decide +kernel, by decide +kernel, by decide +kernel, mm_hw_g (p := 1589) (by decide +kernel), by decide +kernel⟩
theorem mm_mf_189 : mm_mf 189 := ⟨mm_pl_F, false, mm_pk_F, (fun h => by cases h), by decide +kernel, by decide +kernel, by decide +kernel, by decide +kernel, mm_hw_g (p := 1212) (by decide +kernel), by decide +kernel⟩
theorem mm_mf_190 : mm_mf 190 := ⟨mm_pl_F, false, mm_pk_F, (fun h => by cases h), by decide +kernel, by decide +kernel, by decide +kernel, by decide +kernel, mm_hw_g (p := 637) (by decide +kernel), by decide +kernel⟩
theorem mm_mf_191 : mm_mf 191 := ⟨mm_pl_F, false, mm_pk_F, (fun h => by cases h), by decide +kernel, by decide +kernel, by decide +kernel, by decide +kernel, mm_hw_g (p := 1216) (by decide +kernel), by decide +kernel⟩
theorem mm_mf_192 : mm_mf 192 := ⟨mm_pl_F, false, mm_pk_F, (fun h => by cases h), by decide +kernel, by decide +kernel, by decide +kernel, by decide +kernel, mm_hw_g (p := 1097) (by decide +kernel), by decide +kernel⟩
theorem mm_mf_193 : mm_mf 193 := ⟨mm_pl_F, false, mm_pk_F, (fun h => by cases h), by decide +kernel, by decide +kernel, by decide +kernel, by decide +kernel, mm_hw_g (p := 1069) (by decide +kernel), by decide +kernel⟩
theorem mm_mf_194 : mm_mf 194 := ⟨mm_pl_F, false, mm_pk_F, (fun h => by cases h), by decide +kernel, by decide +kernel, by decide +kernel, by decide +kernel, mm_hw_g (p := 1075) (by decide +kernel), by decide +kernel⟩
theorem mm_mf_195 : mm_mf 195 := ⟨mm_pl_F, false, mm_pk_F, (fun h => by cases h), by decide +kernel, by decide +kernel, by decide +kernel, by decide +kernel, mm_hw_g (p := 1079) (by decide +kernel), by decide +kernel⟩
theorem mm_mf_196 : mm_mf 196 := ⟨mm_pl_F, false, mm_pk_F, (fun h => by cases h), by decide +kernel, by decide +kernel, by decide +kernel, by decide +kernel, mm_hw_g (p := 1469) (by decide +kernel), by decide +kernel⟩
theorem mm_mf_197 : mm_mf 197 := ⟨mm_pl_F, false, mm_pk_F, (fun h => by cases h), by decide +kernel, by decide +kernel, by decide +kernel, by decide +kernel, mm_hw_g (p := 1083) (by decide +kernel), by decide +kernel⟩
theorem mm_mf_198 : mm_mf 198 := ⟨mm_pl_F, false, mm_pk_F, (fun h => by cases h), by decide +kernel, by decide +kernel, by decide +kernel, by decide +kernel, mm_hw_g (p := 1493) (by decide +kernel), by decide +kernel⟩
theorem mm_mf_199 : mm_mf 199 := ⟨mm_pl_F, false, mm_pk_F, (fun h => by cases h), by decide +kernel, by decide +kernel, by decide +kernel, by decide +kernel, mm_hw_g (p := 709) (by decide +kernel), by decide +kernel⟩
theorem mm_mf_200 : mm_mf 200 := ⟨mm_pl_F, false, mm_pk_F, (fun h => by cases h), by decide +kernel, by decide +kernel, by decide +kernel, by decide +kernel, mm_hw_g (p := 676) (by decide +kernel), by decide +kernel⟩
theorem mm_mf_201 : mm_mf 201 := ⟨mm_pl_F, false, mm_pk_F, (fun h => by cases h), by decide +kernel, by decide +kernel, by decide +kernel, by decide +kernel, mm_hw_g (p := 778) (by decide +kernel), by decide +kernel⟩
theorem mm_mf_202 : mm_mf 202 := ⟨mm_pl_F, false, mm_pk_F, (fun h => by cases h), by decide +kernel, by decide +kernel, by decide +kernel, by decide +kernel, mm_hw_g (p := 1230) (by decide +kernel), by decide +kernel⟩
theorem mm_mf_203 : mm_mf 203 := ⟨mm_pl_F, false, mm_pk_F, (fun h => by cases h), by decide +kernel, by decide +kernel, by decide +kernel, by decide +kernel, mm_hw_g (p := 602) (by decide +kernel), by decide +kernel⟩
theorem mm_mf_204 : mm_mf 204 := ⟨mm_pl_F, false, mm_pk_F, (fun h => by cases h), by decide +kernel, by decide +kernel, by decide +kernel, by decide +kernel, mm_hw_g (p := 608) (by decide +kernel), by decide +kernel⟩
theorem mm_mf_205 : mm_mf 205 := ⟨mm_pl_F, false, mm_pk_F, (fun h => by cases h), by decide +kernel, by decide +kernel, by decide +kernel, by decide +kernel, mm_hw_g (p := 605) (by decide +kernel), by decide +kernel⟩
theorem mm_mf_206 : mm_mf 206 := ⟨mm_pl_F, false, mm_pk_F, (fun h => by cases h), by decide +kernel, by decide +kernel, by decide +kernel, by decide +kernel, mm_hw_g (p := 652) (by decide +kernel), by decide +kernel⟩
theorem mm_mf_207 : mm_mf 207 := ⟨mm_pl_F, false, mm_pk_F, (fun h => by cases h), by decide +kernel, by decide +kernel, by decide +kernel, by decide +kernel, mm_hw_g (p := 615) (by decide +kernel), by decide +kernel⟩
theorem mm_mf_208 : mm_mf 208 := ⟨mm_pl_F, false, mm_pk_F, (fun h => by cases h), by decide +kernel, by decide +kernel, by decide +kernel, by decide +kernel, mm_hw_g (p := 622) (by decide +kernel), by decide +kernel⟩
theorem mm_mf_209 : mm_mf 209 := ⟨mm_pl_F, false, mm_pk_F, (fun h => by cases h), by decide +kernel, by decide +kernel, by decide +kernel, by decide +kernel, mm_hw_g (p := 619) (by decide +kernel), by decide +kernel⟩
theorem mm_mf_210 : mm_mf 210 := ⟨mm_pl_F, false, mm_pk_F, (fun h => by cases h), by decide +kernel, by decide +kernel, by decide +kernel, by decide +kernel, mm_hw_g (p := 625) (by decide +kernel), by decide +kernel⟩
theorem mm_mf_211 : mm_mf 211 := ⟨mm_pl_F, false, mm_pk_F, (fun h => by cases h), by decide +kernel, by decide +kernel, by decide +kernel, by decide +kernel, mm_hw_g (p := 1086) (by decide +kernel), by decide +kernel⟩
theorem mm_mf_212 : mm_mf 212 := ⟨mm_pl_F, false, mm_pk_F, (fun h => by cases h), by decide +kernel, by decide +kernel, by decide +kernel, by decide +kernel, mm_hw_g (p := 1089) (by decide +kernel), by decide +kernel⟩
theorem mm_mf_213 : mm_mf 213 := ⟨mm_pl_M, true, mm_pk_M, (fun _ => by decide +kernel), by decide +kernel, by decide +kernel, by decide +kernel, by decide +kernel, mm_hw_g (p := 1594) (by decide +kernel), by decide +kernel⟩
theorem mm_mf_214 : mm_mf 214 := ⟨mm_pl_M, false, mm_pk_M, (fun h => by cases h), by decide +kernel, by decide +kernel, by decide +kernel, by decide +kernel, mm_hw_g (p := 1807) (by decide +kernel), by decide +kernel⟩
theorem mm_mf_215 : mm_mf 215 := ⟨mm_pl_M, false, mm_pk_M, (fun h => by cases h), by decide +kernel, by decide +kernel, by decide +kernel, by decide +kernel, mm_hw_g (p := 1803) (by decide +kernel), by decide +kernel⟩
theorem mm_mf_216 : mm_mf 216 := ⟨mm_pl_M, false, mm_pk_M, (fun h => by cases h), by decide +kernel, by decide +kernel, by decide +kernel, by decide +kernel, mm_hw_g (p := 1810) (by decide +kernel), by decide +kernel⟩
theorem mm_mf_217 : mm_mf 217 := ⟨mm_pl_M, false, mm_pk_M, (fun h => by cases h), by decide +kernel, by decide +kernel, by decide +kernel, by decide +kernel, mm_hw_g (p := 1823) (by decide +kernel), by decide +kernel⟩
theorem mm_mf_218 : mm_mf 218 := ⟨mm_pl_M, false, mm_pk_M, (fun h => by cases h), by decide +kernel, by decide +kernel, by decide +kernel, by decide +kernel, mm_hw_g (p := 1771) (by decide +kernel), by decide +kernel⟩
theorem mm_mf_219 : mm_mf 219 := ⟨mm_pl_M, false, mm_pk_M, (fun h => by cases h), by decide +kernel, by decide +kernel, by decide +kernel, by decide +kernel, mm_hw_g (p := 1767) (by decide +kernel), by decide +kernel⟩
theorem mm_mf_220 : mm_mf 220 := ⟨mm_pl_M, false, mm_pk_M, (fun h => by cases h), by decide +kernel, by decide +kernel, by decide +kernel, by decide +kernel, mm_hw_g (p := 1775) (by decide +kernel), by decide +kernel⟩
theorem mm_mf_221 : mm_mf 221 := ⟨mm_pl_M, false, mm_pk_M, (fun h => by cases h), by decide +kernel, by decide +kernel, by decide +kernel, by decide +kernel, mm_hw_g (p := 1779) (by decide +kernel), by decide +kernel⟩
theorem mm_mf_222 : mm_mf 222 := ⟨mm_pl_M, false, mm_pk_M, (fun h => by cases h), by decide +kernel, by decide +kernel, by decide +kernel, by decide +kernel, mm_hw_g (p := 1783) (by decide +kernel), by decide +kernel⟩
theorem mm_mf_223 : mm_mf 223 := ⟨mm_pl_M, false, mm_pk_M, (fun h => by cases h), by decide +kernel, by decide +kernel, by decide +kernel, by decide +kernel, mm_hw_g (p := 1893) (by decide +kernel), by decide +kernel⟩
theorem mm_mf_224 : mm_mf 224 := ⟨mm_pl_M, false, mm_pk_M, (fun h => by cases h), by decide +kernel, by decide +kernel, by decide +kernel, by decide +kernel, mm_hw_g (p := 2131) (by decide +kernel), by decide +kernel⟩
theorem mm_mf_225 : mm_mf 225 := ⟨mm_pl_M, false, mm_pk_M, (fun h => by cases h), by decide +kernel, by decide +kernel, by decide +kernel, by decide +kernel, mm_hw_g (p := 1796) (by decide +kernel), by decide +kernel⟩
theorem mm_mf_226 : mm_mf 226 := ⟨mm_pl_M, false, mm_pk_M, (fun h => by cases h), by decide +kernel, by decide +kernel, by decide +kernel, by decide +kernel, mm_hw_g (p := 1791) (by decide +kernel), by decide +kernel⟩
theorem mm_mf_227 : mm_mf 227 := ⟨mm_pl_M, false, mm_pk_M, (fun h => by cases h), by decide +kernel, by decide +kernel, by decide +kernel, by decide +kernel, mm_hw_g (p := 1851) (by decide +kernel), by decide +kernel⟩
theorem mm_mf_228 : mm_mf 228 := ⟨mm_pl_M, false, mm_pk_M, (fun h => by cases h), by decide +kernel, by decide +kernel, by decide +kernel, by decide +kernel, mm_hw_g (p := 1836) (by decide +kernel), by decide +kernel⟩
theorem mm_mf_229 : mm_mf 229 := ⟨mm_pl_M, false, mm_pk_M, (fun h => by cases h), by decide +kernel, by decide +kernel, by decide +kernel, by decide +kernel, mm_hw_g (p := 1819) (by decide +kernel), by decide +kernel⟩
theorem mm_mf_230 : mm_mf 230 := ⟨mm_pl_M, false, mm_pk_M, (fun h => by cases h), by decide +kernel, by decide +kernel, by decide +kernel, by decide +kernel, mm_hw_g (p := 1869) (by decide +kernel), by decide +kernel⟩
theorem mm_mf_231 : mm_mf 231 := ⟨mm_pl_M, false, mm_pk_M, (fun h => by cases h), by decide +kernel, by decide +kernel, by decide +kernel, by decide +kernel, mm_hw_g (p := 1839) (by decide +kernel), by decide +kernel⟩
theorem mm_mf_232 : mm_mf 232 := ⟨mm_pl_M, false, mm_pk_M, (fun h => by cases h), by decide +kernel, by decide +kernel, by decide +kernel, by decide +kernel, mm_hw_g (p := 1913) (by decide +kernel), by decide +kernel⟩
theorem mm_mf_233 : mm_mf 233 := ⟨mm_pl_M, false, mm_pk_M, (fun h => by cases h), by decide +kernel, by decide +kernel, by decide +kernel, by decide +kernel, mm_hw_g (p := 1816) (by decide +kernel), by decide +kernel⟩
theorem mm_mf_234 : mm_mf 234 := ⟨mm_pl_M, false, mm_pk_M, (fun h => by cases h), by decide +kernel, by decide +kernel, by decide +kernel, by decide +kernel, mm_hw_g (p := 1800) (by decide +kernel), by decide +kernel⟩
theorem mm_mf_235 : mm_mf 235 := ⟨mm_pl_M, false, mm_pk_M, (fun h => by cases h), by decide +kernel, by decide +kernel, by decide +kernel, by decide +kernel, mm_hw_g (p := 1787) (by decide +kernel), by decide +kernel⟩
theorem mm_mf_236 : mm_mf 236 := ⟨mm_pl_M, false, mm_pk_M, (fun h => by cases h), by decide +kernel, by decide +kernel, by decide +kernel, by decide +kernel, mm_hw_g (p := 1832) (by decide +kernel), by decide +kernel⟩
theorem mm_mf_237 : mm_mf 237 := ⟨mm_pl_M, false, mm_pk_M, (fun h => by cases h), by decide +kernel, by decide +kernel, by decide +kernel, by decide +kernel, mm_hw_g (p := 1828) (by decide +kernel), by decide +kernel⟩
theorem mm_mf_238 : mm_mf 238 := ⟨mm_pl_M, false, mm_pk_M, (fun h => by cases h), by decide +kernel, by decide +kernel, by decide +kernel, by decide +kernel, mm_hw_g (p := 1843) (by decide +kernel), by decide +kernel⟩
theorem mm_mf_239 : mm_mf 239 := ⟨mm_pl_M, false, mm_pk_M, (fun h => by cases h), by decide +kernel, by decide +kernel, by decide +kernel, by decide +kernel, mm_hw_g (p := 1847) (by decide +kernel), by decide +kernel⟩
theorem mm_mf_240 : mm_mf 240 := ⟨mm_pl_M, false, mm_pk_M, (fun h => by cases h), by decide +kernel, by decide +kernel, by decide +kernel, by decide +kernel, mm_hw_g (p := 1866) (by decide +kernel), by decide +kernel⟩
theorem mm_mf_241 : mm_mf 241 := ⟨mm_pl_M, false, mm_pk_M, (fun h => by cases h), by decide +kernel, by decide +kernel, by decide +kernel, by decide +kernel, mm_hw_g (p := 1861) (by decide +kernel), by decide +kernel⟩
theorem mm_mf_242 : mm_mf 242 := ⟨mm_pl_M, false, mm_pk_M, (fun h => by cases h), by decide +kernel, by decide +kernel, by decide +kernel, by decide +kernel, mm_hw_g (p := 1857) (by decide +kernel), by decide +kernel⟩
theorem mm_mf_243 : mm_mf 243 := ⟨mm_pl_M, false, mm_pk_M, (fun h => by cases h), by decide +kernel, by decide +kernel, by decide +kernel, by decide +kernel, mm_hw_g (p := 1881) (by decide +kernel), by decide +kernel⟩
theorem mm_mf_244 : mm_mf 244 := ⟨mm_pl_M, false, mm_pk_M, (fun h => by cases h), by decide +kernel, by decide +kernel, by decide +kernel, by decide +kernel, mm_hw_g (p := 1877) (by decide +kernel), by decide +kernel⟩
theorem mm_mf_245 : mm_mf 245 := ⟨mm_pl_M, false, mm_pk_M, (fun h => by cases h), by decide +kernel, by decide +kernel, by decide +kernel, by decide +kernel, mm_hw_g (p := 1873) (by decide +kernel), by decide +kernel⟩
theorem mm_mf_246 : mm_mf 246 := ⟨mm_pl_M, false, mm_pk_M, (fun h => by cases h), by decide +kernel, by decide +kernel, by decide +kernel, by decide +kernel, mm_hw_g (p := 1889) (by decide +kernel), by decide +kernel⟩
theorem mm_mf_247 : mm_mf 247 := ⟨mm_pl_M, false, mm_pk_M, (fun h => by cases h), by decide +kernel, by decide +kernel, by decide +kernel, by decide +kernel, mm_hw_g (p := 1885) (by decide +kernel), by decide +kernel⟩
theorem mm_mf_248 : mm_mf 248 := ⟨mm_pl_M, false, mm_pk_M, (fun h => by cases h), by decide +kernel, by decide +kernel, by decide +kernel, by decide +kernel, mm_hw_g (p := 1897) (by decide +kernel), by decide +kernel⟩
theorem mm_mf_249 : mm_mf 249 := ⟨mm_pl_M, false, mm_pk_M, (fun h => by cases h), by decide +kernel, by decide +kernel, by decide +kernel, by decide +kernel, mm_hw_g (p := 1905) (by decide +kernel), by decide +kernel⟩
theorem mm_mf_250 : mm_mf 250 := ⟨mm_pl_M, false, mm_pk_M, (fun h => by cases h), by decide +kernel, by decide +kernel, by decide +kernel, by decide +kernel, mm_hw_g (p := 1901) (by decide +kernel), by decide +kernel⟩
theorem mm_mf_251 : mm_mf 251 := ⟨mm_pl_M, false, mm_pk_M, (fun h => by cases h), by decide +kernel, by decide +kernel, by decide +kernel, by decide +kernel, mm_hw_g (p := 1917) (by decide +kernel), by decide +kernel⟩
theorem mm_mf_252 : mm_mf 252 := ⟨mm_pl_M, false, mm_pk_M, (fun h => by cases h), by decide +kernel, by decide +kernel, by decide +kernel, by decide +kernel, mm_hw_g (p := 1909) (by decide +kernel), by decide +kernel⟩
theorem mm_mf_253 : mm_mf 253 := ⟨mm_pl_M, false, mm_pk_M, (fun h => by cases h), by decide +kernel, by decide +kernel, by decide +kernel, by decide +kernel, mm_hw_g (p := 1925) (by decide +kernel), by decide +kernel⟩
theorem mm_mf_254 : mm_mf 254 := ⟨mm_pl_M, false, mm_pk_M, (fun h => by cases h), by decide +kernel, by decide +kernel, by decide +kernel, by decide +kernel, mm_hw_g (p := 1921) (by decide +kernel), by decide +kernel⟩
theorem mm_mf_255 : mm_mf 255 := ⟨mm_pl_M, false, mm_pk_M, (fun h => by cases h), by decide +kernel, by decide +kernel, by decide +kernel, by decide +kernel, mm_hw_g (p := 1930) (by decide +kernel), by decide +kernel⟩
theorem mm_mf_256 : mm_mf 256 := ⟨mm_pl_M, false, mm_pk_M, (fun h => by cases h), by decide +kernel, by decide +kernel, by decide +kernel, by decide +kernel, mm_hw_g (p := 1948) (by decide +kernel), by decide +kernel⟩
theorem mm_mf_257 : mm_mf 257 := ⟨mm_pl_M, false, mm_pk_M, (fun h => by cases h), by decide +kernel, by decide +kernel, by decide +kernel, by decide +kernel, mm_hw_g (p := 1955) (by decide +kernel), by decide +kernel⟩
theorem mm_mf_258 : mm_mf 258 := ⟨mm_pl_M, false, mm_pk_M, (fun h => by cases h), by decide +kernel, by decide +kernel, by decide +kernel, by decide +kernel, mm_hw_g (p := 1944) (by decide +kernel), by decide +kernel⟩
theorem mm_mf_259 : mm_mf 259 := ⟨mm_pl_M, false, mm_pk_M, (fun h => by cases h), by decide +kernel, by decide +kernel, by decide +kernel, by decide +kernel, mm_hw_g (p := 1940) (by decide +kernel), by decide +kernel⟩
theorem mm_mf_260 : mm_mf 260 := ⟨mm_pl_M, false, mm_pk_M, (fun h => by cases h), by decide +kernel, by decide +kernel, by decide +kernel, by decide +kernel, mm_hw_g (p := 1982) (by decide +kernel), by decide +kernel⟩
theorem mm_mf_261 : mm_mf 261 := ⟨mm_pl_M, false, mm_pk_M, (fun h => by cases h), by decide +kernel, by decide +kernel, by decide +kernel, by decide +kernel, mm_hw_g (p := 1974) (by decide +kernel), by decide +kernel⟩
theorem mm_mf_262 : mm_mf 262 := ⟨mm_pl_M, false, mm_pk_M, (fun h => by cases h), by decide +kernel, by decide +kernel, by decide +kernel, by decide +kernel, mm_hw_g (p := 2019) (by decide +kernel), by decide +kernel⟩
theorem mm_mf_263 : mm_mf 263 := ⟨mm_pl_M, false, mm_pk_M, (fun h => by cases h), by decide +kernel, by decide +kernel, by decide +kernel, by decide +kernel, mm_hw_g (p := 1990) (by decide +kernel), by decide +kernel⟩
theorem mm_mf_264 : mm_mf 264 := ⟨mm_pl_M, false, mm_pk_M, (fun h => by cases h), by decide +kernel, by decide +kernel, by decide +kernel, by decide +kernel, mm_hw_g (p := 1994) (by decide +kernel), by decide +kernel⟩
theorem mm_mf_265 : mm_mf 265 := ⟨mm_pl_M, false, mm_pk_M, (fun h => by cases h), by decide +kernel, by decide +kernel, by decide +kernel, by decide +kernel, mm_hw_g (p := 2014) (by decide +kernel), by decide +kernel⟩
theorem mm_mf_266 : mm_mf 266 := ⟨mm_pl_M, false, mm_pk_M, (fun h => by cases h), by decide +kernel, by decide +kernel, by decide +kernel, by decide +kernel, mm_hw_g (p := 1986) (by decide +kernel), by decide +kernel⟩
end
section
/-! Each method's facts. Printed by wip/whole/gen/meths.py. -/
set_option maxRecDepth 20000
theorem mm_mf_267 : mm_mf 267 := ⟨mm_pl_M, false, mm_pk_M, (fun h => by cases h), by decide +kernel, by decide +kernel, by decide +kernel, by decide +kernel, mm_hw_g (p := 1978) (by decide +kernel), by decide +kernel⟩
theorem mm_mf_268 : mm_mf 268 := ⟨mm_pl_M, false, mm_pk_M, (fun h => by cases h), by decide +kernel, by decide +kernel, by decide +kernel, by decide +kernel, mm_hw_g (p := 1961) (by decide +kernel), by decide +kernel⟩
theorem mm_mf_269 : mm_mf 269 := ⟨mm_pl_M, false, mm_pk_M, (fun h => by cases h), by decide +kernel, by decide +kernel, by decide +kernel, by decide +kernel, mm_hw_g (p := 1965) (by decide +kernel), by decide +kernel⟩
theorem mm_mf_270 : mm_mf 270 := ⟨mm_pl_M, false, mm_pk_M, (fun h => by cases h), by decide +kernel, by decide +kernel, by decide +kernel, by decide +kernel, mm_hw_g (p := 1969) (by decide +kernel), by decide +kernel⟩
theorem mm_mf_271 : mm_mf 271 := ⟨mm_pl_M, false, mm_pk_M, (fun h => by cases h), by decide +kernel, by decide +kernel, by decide +kernel, by decide +kernel, mm_hw_g (p := 1998) (by decide +kernel), by decide +kernel⟩
theorem mm_mf_272 : mm_mf 272 := ⟨mm_pl_M, false, mm_pk_M, (fun h => by cases h), by decide +kernel, by decide +kernel, by decide +kernel, by decide +kernel, mm_hw_g (p := 2002) (by decide +kernel), by decide +kernel⟩
theorem mm_mf_273 : mm_mf 273 := ⟨mm_pl_M, false, mm_pk_M, (fun h => by cases h), by decide +kernel, by decide +kernel, by decide +kernel, by decide +kernel, mm_hw_g (p := 2010) (by decide +kernel), by decide +kernel⟩
theorem mm_mf_274 : mm_mf 274 := ⟨mm_pl_M, false, mm_pk_M, (fun h => by cases h), by decide +kernel, by decide +kernel, by decide +kernel, by decide +kernel, mm_hw_g (p := 2006) (by decide +kernel), by decide +kernel⟩
theorem mm_mf_275 : mm_mf 275 := ⟨mm_pl_M, false, mm_pk_M, (fun h => by cases h), by decide +kernel, by decide +kernel, by decide +kernel, by decide +kernel, mm_hw_g (p := 1935) (by decide +kernel), by decide +kernel⟩
theorem mm_mf_276 : mm_mf 276 := ⟨mm_pl_M, false, mm_pk_M, (fun h => by cases h), by decide +kernel, by decide +kernel, by decide +kernel, by decide +kernel, mm_hw_g (p := 2028) (by decide +kernel), by decide +kernel⟩
theorem mm_mf_277 : mm_mf 277 := ⟨mm_pl_M, false, mm_pk_M, (fun h => by cases h), by decide +kernel, by decide +kernel, by decide +kernel, by decide +kernel, mm_hw_g (p := 2024) (by decide +kernel), by decide +kernel⟩
theorem mm_mf_278 : mm_mf 278 := ⟨mm_pl_M, false, mm_pk_M, (fun h => by cases h), by decide +kernel, by decide +kernel, by decide +kernel, by decide +kernel, mm_hw_g (p := 2032) (by decide +kernel), by decide +kernel⟩
theorem mm_mf_279 : mm_mf 279 := ⟨mm_pl_M, false, mm_pk_M, (fun h => by cases h), by decide +kernel, by decide +kernel, by decide +kernel, by decide +kernel, mm_hw_g (p := 2052) (by decide +kernel), by decide +kernel⟩
theorem mm_mf_280 : mm_mf 280 := ⟨mm_pl_M, false, mm_pk_M, (fun h => by cases h), by decide +kernel, by decide +kernel, by decide +kernel, by decide +kernel, mm_hw_g (p := 2066) (by decide +kernel), by decide +kernel⟩
theorem mm_mf_281 : mm_mf 281 := ⟨mm_pl_M, false, mm_pk_M, (fun h => by cases h), by decide +kernel, by decide +kernel, by decide +kernel, by decide +kernel, mm_hw_g (p := 2062) (by decide +kernel), by decide +kernel⟩
theorem mm_mf_282 : mm_mf 282 := ⟨mm_pl_M, false, mm_pk_M, (fun h => by cases h), by decide +kernel, by decide +kernel, by decide +kernel, by decide +kernel, mm_hw_g (p := 2069) (by decide +kernel), by decide +kernel⟩
theorem mm_mf_283 : mm_mf 283 := ⟨mm_pl_M, false, mm_pk_M, (fun h => by cases h), by decide +kernel, by decide +kernel, by decide +kernel, by decide +kernel, mm_hw_g (p := 2058) (by decide +kernel), by decide +kernel⟩
theorem mm_mf_284 : mm_mf 284 := ⟨mm_pl_M, false, mm_pk_M, (fun h => by cases h), by decide +kernel, by decide +kernel, by decide +kernel, by decide +kernel, mm_hw_g (p := 2048) (by decide +kernel), by decide +kernel⟩
theorem mm_mf_285 : mm_mf 285 := ⟨mm_pl_M, false, mm_pk_M, (fun h => by cases h), by decide +kernel, by decide +kernel, by decide +kernel, by decide +kernel, mm_hw_g (p := 2044) (by decide +kernel), by decide +kernel⟩
theorem mm_mf_286 : mm_mf 286 := ⟨mm_pl_M, false, mm_pk_M, (fun h => by cases h), by decide +kernel, by decide +kernel, by decide +kernel, by decide +kernel, mm_hw_g (p := 2040) (by decide +kernel), by decide +kernel⟩
theorem mm_mf_287 : mm_mf 287 := ⟨mm_pl_M, false, mm_pk_M, (fun h => by cases h), by decide +kernel, by decide +kernel, by decide +kernel, by decide +kernel, mm_hw_g (p := 2036) (by decide +kernel), by decide +kernel⟩
theorem mm_mf_288 : mm_mf 288 := ⟨mm_pl_M, false, mm_pk_M, (fun h => by cases h), by decide +kernel, by decide +kernel, by decide +kernel, by decide +kernel, mm_hw_g (p := 2075) (by decide +kernel), by decide +kernel⟩
theorem mm_mf_289 : mm_mf 289 := ⟨mm_pl_M, false, mm_pk_M, (fun h => by cases h), by decide +kernel, by decide +kernel, by decide +kernel, by decide +kernel, mm_hw_g (p := 2080) (by decide +kernel), by decide +kernel⟩
theorem mm_mf_290 : mm_mf 290 := ⟨mm_pl_M, false, mm_pk_M, (fun h => by cases h), by decide +kernel, by decide +kernel, by decide +kernel, by decide +kernel, mm_hw_g (p := 2084) (by decide +kernel), by decide +kernel⟩
theorem mm_mf_291 : mm_mf 291 := ⟨mm_pl_M, false, mm_pk_M, (fun h => by cases h), by decide +kernel, by decide +kernel, by decide +kernel, by decide +kernel, mm_hw_g (p := 2088) (by decide +kernel), by decide +kernel⟩
theorem mm_mf_292 : mm_mf 292 := ⟨mm_pl_M, false, mm_pk_M, (fun h => by cases h), by decide +kernel, by decide +kernel, by decide +kernel, by decide +kernel, mm_hw_g (p := 2093) (by decide +kernel), by decide +kernel⟩
theorem mm_mf_293 : mm_mf 293 := ⟨mm_pl_M, false, mm_pk_M, (fun h => by cases h), by decide +kernel, by decide +kernel, by decide +kernel, by decide +kernel, mm_hw_g (p := 2097) (by decide +kernel), by decide +kernel⟩
theorem mm_mf_294 : mm_mf 294 := ⟨mm_pl_M, false, mm_pk_M, (fun h => by cases h), by decide +kernel, by decide +kernel, by decide +kernel, by decide +kernel, mm_hw_g (p := 2102) (by decide +kernel), by decide +kernel⟩
theorem mm_mf_295 : mm_mf 295 := ⟨mm_pl_M, false, mm_pk_M, (fun h => by cases h), by decide +kernel, by decide +kernel, by decide +kernel, by decide +kernel, mm_hw_g (p := 2115) (by decide +kernel), by decide +kernel⟩
theorem mm_mf_296 : mm_mf 296 := ⟨mm_pl_M, false, mm_pk_M, (fun h => by cases h), by decide +kernel, by decide +kernel, by decide +kernel, by decide +kernel, mm_hw_g (p := 2111) (by decide +kernel), by decide +kernel⟩
theorem mm_mf_297 : mm_mf 297 := ⟨mm_pl_M, false, mm_pk_M, (fun h => by cases h), by decide +kernel, by decide +kernel, by decide +kernel, by decide +kernel, mm_hw_g (p := 2107) (by decide +kernel), by decide +kernel⟩
theorem mm_mf_298 : mm_mf 298 := ⟨mm_pl_M, false, mm_pk_M, (fun h => by cases h), by decide +kernel, by decide +kernel, by decide +kernel, by decide +kernel, mm_hw_g (p := 2119) (by decide +kernel), by decide +kernel⟩
theorem mm_mf_299 : mm_mf 299 := ⟨mm_pl_M, false, mm_pk_M, (fun h => by cases h), by decide +kernel, by decide +kernel, by decide +kernel, by decide +kernel, mm_hw_g (p := 2123) (by decide +kernel), by decide +kernel⟩
theorem mm_mf_300 : mm_mf 300 := ⟨mm_pl_M, false, mm_pk_M, (fun h => by cases h), by decide +kernel, by decide +kernel, by decide +kernel, by decide +kernel, mm_hw_g (p := 2127) (by decide +kernel), by decide +kernel⟩
theorem mm_mf_301 : mm_mf 301 := ⟨mm_pl_M, false, mm_pk_M, (fun h => by cases h), by decide +kernel, by decide +kernel, by decide +kernel, by decide +kernel, mm_hw_g (p := 2140) (by decide +kernel), by decide +kernel⟩
theorem mm_mf_302 : mm_mf 302 := ⟨mm_pl_M, false, mm_pk_M, (fun h => by cases h), by decide +kernel, by decide +kernel, by decide +kernel, by decide +kernel, mm_hw_g (p := 2135) (by decide +kernel), by decide +kernel⟩
theorem mm_mf_303 : mm_mf 303 := ⟨mm_pl_M, false, mm_pk_M, (fun h => by cases h), by decide +kernel, by decide +kernel, by decide +kernel, by decide +kernel, mm_hw_g (p := 2145) (by decide +kernel), by decide +kernel⟩
theorem mm_mf_304 : mm_mf 304 := ⟨mm_pl_M, false, mm_pk_M, (fun h => by cases h), by decide +kernel, by decide +kernel, by decide +kernel, by decide +kernel, mm_hw_g (p := 2149) (by decide +kernel), by decide +kernel⟩
theorem mm_mf_305 : mm_mf 305 := ⟨mm_pl_M, false, mm_pk_M, (fun h => by cases h), by decide +kernel, by decide +kernel, by decide +kernel, by decide +kernel, mm_hw_g (p := 2153) (by decide +kernel), by decide +kernel⟩
theorem mm_mf_306 : mm_mf 306 := ⟨mm_pl_M, false, mm_pk_M, (fun h => by cases h), by decide +kernel, by decide +kernel, by decide +kernel, by decide +kernel, mm_hw_g (p := 2161) (by decide +kernel), by decide +kernel⟩
theorem mm_mf_307 : mm_mf 307 := ⟨mm_pl_M, false, mm_pk_M, (fun h => by cases h), by decide +kernel, by decide +kernel, by decide +kernel, by decide +kernel, mm_hw_g (p := 2157) (by decide +kernel), by decide +kernel⟩
theorem mm_mf_308 : mm_mf 308 := ⟨mm_pl_M, false, mm_pk_M, (fun h => by cases h), by decide +kernel, by decide +kernel, by decide +kernel, by decide +kernel, mm_hw_g (p := 2169) (by decide +kernel), by decide +kernel⟩
theorem mm_mf_309 : mm_mf 309 := ⟨mm_pl_M, false, mm_pk_M, (fun h => by cases h), by decide +kernel, by decide +kernel, by decide +kernel, by decide +kernel, mm_hw_g (p := 2165) (by decide +kernel), by decide +kernel⟩
theorem mm_mf_310 : mm_mf 310 := ⟨mm_pl_M, false, mm_pk_M, (fun h => by cases h), by decide +kernel, by decide +kernel, by decide +kernel, by decide +kernel, mm_hw_g (p := 2173) (by decide +kernel), by decide +kernel⟩
theorem mm_mf_311 : mm_mf 311 := ⟨mm_pl_M, false, mm_pk_M, (fun h => by cases h), by decide +kernel, by decide +kernel, by decide +kernel, by decide +kernel, mm_hw_g (p := 2177) (by decide +kernel), by decide +kernel⟩
theorem mm_mf_312 : mm_mf 312 := ⟨mm_pl_M, false, mm_pk_M, (fun h => by cases h), by decide +kernel, by decide +kernel, by decide +kernel, by decide +kernel, mm_hw_g (p := 2181) (by decide +kernel), by decide +kernel⟩
theorem mm_mf_313 : mm_mf 313 := ⟨mm_pl_M, false, mm_pk_M, (fun h => by cases h), by decide +kernel, by decide +kernel, by decide +kernel, by decide +kernel, mm_hw_g (p := 2185) (by decide +kernel), by decide +kernel⟩
theorem mm_mf_314 : mm_mf 314 := ⟨mm_pl_M, false, mm_pk_M, (fun h => by cases h), by decide +kernel, by decide +kernel, by decide +kernel, by decide +kernel, mm_hw_g (p := 2192) (by decide +kernel), by decide +kernel⟩
theorem mm_mf_315 : mm_mf 315 := ⟨mm_pl_M, false, mm_pk_M, (fun h => by cases h), by decide +kernel, by decide +kernel, by decide +kernel, by decide +kernel, mm_hw_g (p := 2189) (by decide +kernel), by decide +kernel⟩
theorem mm_mf_316 : mm_mf 316 := ⟨mm_pl_M, false, mm_pk_M, (fun h => by cases h), by decide +kernel, by decide +kernel, by decide +kernel, by decide +kernel, mm_hw_g (p := 2200) (by decide +kernel), by decide +kernel⟩
theorem mm_mf_317 : mm_mf 317 := ⟨mm_pl_M, false, mm_pk_M, (fun h => by cases h), by decide +kernel, by decide +kernel, by decide +kernel, by decide +kernel, mm_hw_g (p := 2196) (by decide +kernel), by decide +kernel⟩
theorem mm_mf_318 : mm_mf 318 := ⟨mm_pl_M, false, mm_pk_M, (fun h => by cases h), by decide +kernel, by decide +kernel, by decide +kernel, by decide +kernel, mm_hw_g (p := 2204) (by decide +kernel), by decide +kernel⟩
theorem mm_mf_319 : mm_mf 319 := ⟨mm_pl_M, false, mm_pk_M, (fun h => by cases h), by decide +kernel, by decide +kernel, by decide +kernel, by decide +kernel, mm_hw_g (p := 2208) (by decide +kernel), by decide +kernel⟩
theorem mm_mf_320 : mm_mf 320 := ⟨mm_pl_M, false, mm_pk_M, (fun h => by cases h), by decide +kernel, by decide +kernel, by decide +kernel, by decide +kernel, mm_hw_g (p := 2212) (by decide +kernel), by decide +kernel⟩
theorem mm_mf_321 : mm_mf 321 := ⟨mm_pl_M, false, mm_pk_M, (fun h => by cases h), by decide +kernel, by decide +kernel, by decide +kernel, by decide +kernel, mm_hw_g (p := 2216) (by decide +kernel), by decide +kernel⟩
theorem mm_mf_322 : mm_mf 322 := ⟨mm_pl_M, false, mm_pk_M, (fun h => by cases h), by decide +kernel, by decide +kernel, by decide +kernel, by decide +kernel, mm_hw_g (p := 2235) (by decide +kernel), by decide +kernel⟩
theorem mm_mf_323 : mm_mf 323 := ⟨mm_pl_M, false, mm_pk_M, (fun h => by cases h), by decide +kernel, by decide +kernel, by decide +kernel, by decide +kernel, mm_hw_g (p := 2243) (by decide +kernel), by decide +kernel⟩
theorem mm_mf_324 : mm_mf 324 := ⟨mm_pl_M, false, mm_pk_M, (fun h => by cases h), by decide +kernel, by decide +kernel, by decide +kernel, by decide +kernel, mm_hw_g (p := 2252) (by decide +kernel), by decide +kernel⟩
theorem mm_mf_325 : mm_mf 325 := ⟨mm_pl_M, false, mm_pk_M, (fun h => by cases h), by decide +kernel, by decide +kernel, by decide +kernel, by decide +kernel, mm_hw_g (p := 2248) (by decide +kernel), by decide +kernel⟩
theorem mm_mf_326 : mm_mf 326 := ⟨mm_pl_M, false, mm_pk_M, (fun h => by cases h), by decide +kernel, by decide +kernel, by decide +kernel, by decide +kernel, mm_hw_g (p := 2274) (by decide +kernel), by decide +kernel⟩
theorem mm_mf_327 : mm_mf 327 := ⟨mm_pl_M, false, mm_pk_M, (fun h => by cases h), by decide +kernel, by decide +kernel, by decide +kernel, by decide +kernel, mm_hw_g (p := 2258) (by decide +kernel), by decide +kernel⟩
theorem mm_mf_328 : mm_mf 328 := ⟨mm_pl_M, false, mm_pk_M, (fun h => by cases h), by decide +kernel, by decide +kernel, by decide +kernel, by decide +kernel, mm_hw_g (p := 2263) (by decide +kernel), by decide +kernel⟩
theorem mm_mf_329 : mm_mf 329 := ⟨mm_pl_M, false, mm_pk_M, (fun h => by cases h), by decide +kernel, by decide +kernel, by decide +kernel, by decide +kernel, mm_hw_g (p := 2230) (by decide +kernel), by decide +kernel⟩
theorem mm_mf_330 : mm_mf 330 := ⟨mm_pl_M, false, mm_pk_M, (fun h => by cases h), by decide +kernel, by decide +kernel, by decide +kernel, by decide +kernel, mm_hw_g (p := 2225) (by decide +kernel), by decide +kernel⟩
theorem mm_mf_331 : mm_mf 331 := ⟨mm_pl_M, false, mm_pk_M, (fun h => by cases h), by decide +kernel, by decide +kernel, by decide +kernel, by decide +kernel, mm_hw_g (p := 2221) (by decide +kernel), by decide +kernel⟩
theorem mm_mf_332 : mm_mf 332 := ⟨mm_pl_M, false, mm_pk_M, (fun h => by cases h), by decide +kernel, by decide +kernel, by decide +kernel, by decide +kernel, mm_hw_g (p := 2290) (by decide +kernel), by decide +kernel⟩
theorem mm_mf_333 : mm_mf 333 := ⟨mm_pl_M, false, mm_pk_M, (fun h => by cases h), by decide +kernel, by decide +kernel, by decide +kernel, by decide +kernel, mm_hw_g (p := 2294) (by decide +kernel), by decide +kernel⟩
theorem mm_mf_334 : mm_mf 334 := ⟨mm_pl_M, false, mm_pk_M, (fun h => by cases h), by decide +kernel, by decide +kernel, by decide +kernel, by decide +kernel, mm_hw_g (p := 2297) (by decide +kernel), by decide +kernel⟩
theorem mm_mf_335 : mm_mf 335 := ⟨mm_pl_M, false, mm_pk_M, (fun h => by cases h), by decide +kernel, by decide +kernel, by decide +kernel, by decide +kernel, mm_hw_g (p := 2286) (by decide +kernel), by decide +kernel⟩
theorem mm_mf_336 : mm_mf 336 := ⟨mm_pl_M, false, mm_pk_M, (fun h => by cases h), by decide +kernel, by decide +kernel, by decide +kernel, by decide +kernel, mm_hw_g (p := 2282) (by decide +kernel), by decide +kernel⟩
theorem mm_mf_337 : mm_mf 337 := ⟨mm_pl_M, false, mm_pk_M, (fun h => by cases h), by decide +kernel, by decide +kernel, by decide +kernel, by decide +kernel, mm_hw_g (p := 2278) (by decide +kernel), by decide +kernel⟩
theorem mm_mf_338 : mm_mf 338 := ⟨mm_pl_M, false, mm_pk_M, (fun h => by cases h), by decide +kernel, by decide +kernel, by decide +kernel, by decide +kernel, mm_hw_g (p := 2301) (by decide +kernel), by decide +kernel⟩
theorem mm_mf_339 : mm_mf 339 := ⟨mm_pl_M, false, mm_pk_M, (fun h => by cases h), by decide +kernel, by decide +kernel, by decide +kernel, by decide +kernel, mm_hw_g (p := 2307) (by decide +kernel), by decide +kernel⟩
theorem mm_mf_341 : mm_mf 341 := ⟨mm_pl_Str, false, mm_pk_Str, (fun h => by cases h), by decide +kernel, by decide +kernel, by decide +kernel, by decide +kernel, mm_hw_g (p := 861) (by decide +kernel), by decide +kernel⟩
theorem mm_mf_342 : mm_mf 342 := ⟨mm_pl_Str, false, mm_pk_Str, (fun h => by cases h), by decide +kernel, by decide +kernel, by decide +kernel, by decide +kernel, mm_hw_g (p := 948) (by decide +kernel), by decide +kernel⟩
theorem mm_mf_343 : mm_mf 343 := ⟨mm_pl_Str, false, mm_pk_Str, (fun h => by cases h), by decide +kernel, by decide +kernel, by decide +kernel, by decide +kernel, mm_hw_g (p := 847) (by decide +kernel), by decide +kernel⟩
theorem mm_mf_344 : mm_mf 344 := ⟨mm_pl_Str, false, mm_pk_Str, (fun h => by cases h), by decide +kernel, by decide +kernel, by decide +kernel, by decide +kernel, mm_hw_g (p := 851) (by decide +kernel), by decide +kernel⟩
theorem mm_mf_345 : mm_mf 345 := ⟨mm_pl_Str, false, mm_pk_Str, (fun h => by cases h), by decide +kernel, by decide +kernel, by decide +kernel, by decide +kernel, mm_hw_g (p := 865) (by decide +kernel), by decide +kernel⟩
theorem mm_mf_346 : mm_mf 346 := ⟨mm_pl_Str, false, mm_pk_Str, (fun h => by cases h), by decide +kernel, by decide +kernel, by decide +kernel, by decide +kernel, mm_hw_g (p := 855) (by decide +kernel), by decide +kernel⟩
theorem mm_mf_347 : mm_mf 347 := ⟨mm_pl_Str, false, mm_pk_Str, (fun h => by cases h), by decide +kernel, by decide +kernel, by decide +kernel, by decide +kernel, mm_hw_g (p := 954) (by decide +kernel), by decide +kernel⟩
theorem mm_mf_348 : mm_mf 348 := ⟨mm_pl_Lat, false, mm_pk_Lat, (fun h => by cases h), by decide +kernel, by decide +kernel, by decide +kernel, by decide +kernel, mm_hw_g (p := 951) (by decide +kernel), by decide +kernel⟩
theorem mm_mf_349 : mm_mf 349 := ⟨mm_pl_Lat, false, mm_pk_Lat, (fun h => by cases h), by decide +kernel, by decide +kernel, by decide +kernel, by decide +kernel, mm_hw_g (p := 871) (by decide +kernel), by decide +kernel⟩
theorem mm_mf_350 : mm_mf 350 := ⟨mm_pl_Lat, false, mm_pk_Lat, (fun h => by cases h), by decide +kernel, by decide +kernel, by decide +kernel, by decide +kernel, mm_hw_g (p := 868) (by decide +kernel), by decide +kernel⟩
theorem mm_mf_351 : mm_mf 351 := ⟨mm_pl_Lat, false, mm_pk_Lat, (fun h => by cases h), by decide +kernel, by decide +kernel, by decide +kernel, by decide +kernel, mm_hw_g (p := 876) (by decide +kernel), by decide +kernel⟩
theorem mm_mf_352 : mm_mf 352 := ⟨mm_pl_Arr, false, mm_pk_Arr, (fun h => by cases h), by decide +kernel, by decide +kernel, by decide +kernel, by decide +kernel, mm_hw_g (p := 219) (by decide +kernel), by decide +kernel⟩
theorem mm_mf_353 : mm_mf 353 := ⟨mm_pl_Arr, false, mm_pk_Arr, (fun h => by cases h), by decide +kernel, by decide +kernel, by decide +kernel, by decide +kernel, mm_hw_g (p := 1031) (by decide +kernel), by decide +kernel⟩
theorem mm_mf_354 : mm_mf 354 := ⟨mm_pl_Pre, false, mm_pk_Pre, (fun h => by cases h), by decide +kernel, by decide +kernel, by decide +kernel, by decide +kernel, mm_hw_g (p := 957) (by decide +kernel), by decide +kernel⟩
end
section
/-! All methods, by depth. Printed by wip/whole/gen/part34.py. -/
section K2
variable {p : Program} {l : Launch} {e : Env}
theorem Met.ofWF {l : Launch} {y : MethodName} {ws ws' : List Cond} {rm : Room} {Pc : Array Value → State → Prop} {Qc : Array Value → State → Outcome → State → Prop} {mc ms : Nat} {free : Addr → Prop} {cc : ByteArray} {maxL : Nat} {ret : Option FieldType}
    (hy : plainFor y = true) (hw : ws = Cond.code y cc maxL ret :: ws')
    (body : ∀ p e s m args below meth c s₁, BodyLoose p l y (headSpec ws rm) cc maxL ret e s m args below meth c s₁ → c.maxLocals = maxL → Pc args s →
      W p l e (headSpec ws rm).room s m args below meth c s.heap [] 0 0 (MQ below Qc args s mc ms free) (entryFrame m args maxL)) : Met l y ws rm Pc Qc mc ms free := by
  refine MetFree.of_bodySF (code := cc) (maxLocals := maxL) (ret := ret) hy ?_ ?_
  · intro args s m h hn
    obtain ⟨meth, c, h1, h2, h3, h4, h5, h6, -, -⟩ := Cond.code_spec hn (atoms_spec (ws := ws) h _ (by rw [hw]; exact List.mem_cons_self))
    exact ⟨meth, c, h1, h2, h3, h4, h5, h6⟩
  · intro p e s m args below meth c s₁ B hml hP _
    have hh0 : s₁.heap = s.heap := by rw [B.state]; rfl
    obtain ⟨t, a1, o, b1, b2, b3⟩ := body p e s m args below meth c s₁ B hml hP s₁ hh0 (Stand.of_body B)
    exact ⟨t, o, a1, b1, b2, ⟨b3.1, b3.2⟩⟩
end K2
section MM
variable {D : va_G} {tys : List (ClassId × FieldType)} {B : Nat} {old : Int → Nat} {L0 : Nat} {scr : Nat → Int32}
variable {p : Program} {l : Launch} {e : Env} {R : Room} {s : State} {m : MethodId} {args : Array Value} {below : List Frame} {meth : Method} {c : Code} {nL : Nat} {ρ0 : List Nat} {w0 : mm_W} {Q : State → Prop}
variable {own : String} {cc : ByteArray} {mn : String} {rt : Option FieldType} {pc : Nat} {L st : List mm_V} {w : mm_W} {h : mm_H} {nx : Nat} {tx : String}
theorem mm_met2 {y : MethodName} {lt : List mm_T} {pool : List (Nat × Instr)} {isI : Bool} {O : mm_O} {code : List (Nat × Instr)} {as : List mm_V} {r : mm_R} {d : Nat} (KW : mm_KW) (hy : plainFor y = true) (hp : ∀ q ∈ pool, mm_PK y.cls q.1 q.2) (hI : isI = true → y.name = "<init>") (hc : mm_chk lt pool isI rt cc nL code = true) (h0 : mm_nx code = 0) (hd : 1 ≤ d) (hO1 : ∀ x as w h r, O x as w h = some r → mm_le w r.2.1) (hO : ∀ mc ms x as w h r, O x as w h = some r → mm_OK D tys B old L0 scr l (mm_rm d mc ms) x as w h r) (H : mm_run O (code, nL, lt) as w h = some r) : mm_Met D tys B old L0 scr l d y cc nL rt as w h r := by
  have hle := mm_run_le hO1 H
  obtain ⟨hn, H⟩ := mm_run_go H
  intro ρ
  refine Met.ofWF (cc := cc) (maxL := nL) (ret := rt) hy rfl ?_
  intro p e s m args below meth c s₁ Bd hml hv
  obtain ⟨av, rfl, hst, hE, hHR⟩ := hv
  have hts := atoms_spec (ws := Jvm.Cond.code y cc nL rt :: lw_g) Bd.pre
  have hown : s.vm.findClass y.cls = some m.cls := findClass_of_methodNamed Bd.named
  have hin : meth.name = y.name := (name_of_methodNamed Bd.named Bd.method).1
  have F : mm_Fr D tys B old L0 scr p s m av.toArray meth c nL y.cls cc y.name rt := ⟨Bd.exec, Bd.bytes, hml, hown, fun w hw => hts w (List.mem_cons_of_mem _ hw), hE, hin, Bd.returns, Bd.notSynchronized⟩
  have h96 : 96 ≤ 96 * d := by omega
  have hfin : ∀ (ρ2 : List Nat) (v : mm_V) (wr : mm_W) (hr : mm_H) (H2 : Heap) (locs : List Loc) (o : Outcome), r = (v, wr, hr) → mm_Px ρ w ρ2 wr → mm_HR D tys B old L0 scr ρ2 wr hr H2 → va_S (mm_A B) s.heap H2 locs → mm_out old ρ2 v o → ∀ t : State, t.heap = H2 → s.WarmedH t.vm → mm_CQ D tys B old L0 scr ρ r av.toArray s o t := by
    rintro ρ2 v wr hr H2 locs o rfl ⟨⟨ρx, rfl⟩, -⟩ hH hS ho t ht -
    exact ⟨⟨ρx, ho, by rw [ht]; exact hH⟩, hS.F ht⟩
  have hQ : mm_HQ D tys B old L0 scr p l e (mm_rm d (r.2.1.2.1 - w.2.1).toNat (r.2.1.2.2 - w.2.2).toNat) s m av.toArray below meth c nL ρ w (MQ below (mm_CQ D tys B old L0 scr ρ r) av.toArray s (r.2.1.2.1 - w.2.1).toNat (r.2.1.2.2 - w.2.2).toNat (mm_A B)) r cc rt := by
    intro pc L v w2 h2 hr hk ρ2 H2 locs ls sv hρ hH hS hL hst2
    obtain ⟨x, sv, rfl, hx, hst3⟩ := mm_SR_cons hst2
    have hst3 := mm_SR_nil hst3
    subst hst3
    have hf := fun (o : Outcome) (ho : mm_out old ρ2 v o) => hfin ρ2 v w2 h2 H2 locs o hr hρ hH hS ho
    subst hr
    rcases hk with ⟨hdg, hv0, hk⟩ | ⟨hdg, hv0, hk⟩ | ⟨hdg, hv0, hk⟩
    · obtain ⟨t, z⟩ := v
      have hv0 : t = 0 := hv0
      subst hv0
      obtain ⟨hz, rfl⟩ := hx
      have ho := hf (.returned (some (.int (Int32.ofInt z)))) (Or.inr ⟨Nat.le_of_ble_eq_true rfl, _, rfl, hz, rfl⟩)
      rcases hk with hk | ⟨hk, hz2⟩ | ⟨hk, hz2⟩ | ⟨hk, hz2⟩
      · have e1 := mm_rt0 hk
        exact W.iret F.1 F.2.1 (Bd.returns.trans e1) ho hS.2.2 hdg Bd.notSynchronized
      · have e1 := mm_rt1 hk
        refine W.zret F.1 F.2.1 (Bd.returns.trans e1) ?_ ho hS.2.2 hdg Bd.notSynchronized
        have hz2 : z = 0 ∨ z = 1 := hz2
        rcases hz2 with rfl | rfl <;> rfl
      · have e1 := mm_rt2 hk
        refine W.zret F.1 F.2.1 (Bd.returns.trans e1) ?_ ho hS.2.2 hdg Bd.notSynchronized
        exact mm_nar_c hz2.1 hz2.2
      · have e1 := mm_rt3 hk
        refine W.zret F.1 F.2.1 (Bd.returns.trans e1) ?_ ho hS.2.2 hdg Bd.notSynchronized
        exact mm_nar_b hz2.1 hz2.2
    · obtain ⟨t, z⟩ := v
      have hv0 : t = 1 := hv0
      subst hv0
      obtain ⟨hz, rfl⟩ := hx
      have ho := hf (.returned (some (.long (Int64.ofInt z)))) (Or.inr ⟨Nat.le_of_ble_eq_true rfl, _, rfl, hz, rfl⟩)
      have e1 := mm_rt4 hk
      exact W.lret F.1 F.2.1 (Bd.returns.trans e1) ho hS.2.2 hdg Bd.notSynchronized
    · obtain ⟨t, z⟩ := v
      have hv0 : t = 2 := hv0
      subst hv0
      obtain ⟨hz, rfl⟩ := hx
      have ho := hf (.returned (some (va_rf (mm_adr old ρ2 z)))) (Or.inr ⟨Nat.le_of_ble_eq_true rfl, _, rfl, hz, rfl⟩)
      have e1 := mm_rt5 hk
      obtain ⟨ty, e1, e2⟩ := e1
      refine W.aret F.1 F.2.1 (Bd.returns.trans e1) e2 ?_ ho hS.2.2 hdg Bd.notSynchronized
      show va_rf (mm_adr old ρ2 z) = .null ∨ ∃ a, va_rf (mm_adr old ρ2 z) = .ref a
      cases mm_adr old ρ2 z with
      | none => exact Or.inl rfl
      | some a => exact Or.inr ⟨a, rfl⟩
  have hQ0 : ∀ (pc : Nat) (L : List mm_V) (w2 : mm_W) (h2 : mm_H), r = ((9, 0), w2, h2) → decode cc pc = .ok (.return_, 1) → mm_rt rt 6 = true → mm_Wc D tys B old L0 scr p l e (mm_rm d (r.2.1.2.1 - w.2.1).toNat (r.2.1.2.2 - w.2.2).toNat) s m av.toArray below meth c nL ρ w (MQ below (mm_CQ D tys B old L0 scr ρ r) av.toArray s (r.2.1.2.1 - w.2.1).toNat (r.2.1.2.2 - w.2.2).toNat (mm_A B)) pc L [] w2 h2 := by
    intro pc L w2 h2 hr hdg hk ρ2 H2 locs ls sv hρ hH hS hL hst2
    have hst3 := mm_SR_nil hst2
    subst hst3
    have ho := hfin ρ2 (9, 0) w2 h2 H2 locs (.returned none) hr hρ hH hS (Or.inl ⟨rfl, rfl⟩)
    subst hr
    have e1 := mm_rt6 hk
    exact W.vret F.1 F.2.1 (Bd.returns.trans e1) ho hS.2.2 hdg Bd.notSynchronized
  have hRm : mm_Rm (mm_rm d (r.2.1.2.1 - w.2.1).toNat (r.2.1.2.2 - w.2.2).toNat) ρ w r.2.1 := ⟨Nat.le_refl _, Nat.le_refl _⟩
  have hR : 1 ≤ (mm_rm d (r.2.1.2.1 - w.2.1).toNat (r.2.1.2.2 - w.2.2).toNat).frames ∧ 24 + 13 ≤ (mm_rm d (r.2.1.2.1 - w.2.1).toNat (r.2.1.2.2 - w.2.2).toNat).locals ∧ nativeFrameWords "java/lang/System" "arraycopy" 5 + 11 ≤ (mm_rm d (r.2.1.2.1 - w.2.1).toNat (r.2.1.2.2 - w.2.2).toNat).locals := ⟨hd, Nat.le_trans (by decide) h96, Nat.le_trans mm_nat_room h96⟩
  have hlp := mm_slp F KW hp hI hRm hR (hO _ _) hQ hQ0 code hc 6
  have g := mm_sg F KW hp hI hRm hR (hO _ _) hlp hQ hQ0 code hc 0 _ [] w h _ H
  rw [if_pos rfl, h0] at g
  have k := (g.2 rfl).2 ρ s.heap [] _ [] ⟨⟨[], by simp⟩, Int.le_refl _, Int.le_refl _⟩ hHR va_S.rf (mm_LR_in hst hn) trivial
  rw [lg_entry_eq]
  have z1 : (w.2.1 - w.2.1).toNat = 0 := by omega
  have z2 : (w.2.2 - w.2.2).toNat = 0 := by omega
  rw [z1, z2] at k
  exact k
end MM
def mm_mf2 (i : Nat) : Prop := ∃ (pool : List (Nat × Instr)) (isI : Bool), (∀ q ∈ pool, mm_PK (mm_inf i).1.cls q.1 q.2) ∧ (isI = true → (mm_inf i).1.name = "<init>") ∧ mm_chk (mm_look mm_tab i).2.2 pool isI (mm_inf i).2.2.2 (mm_inf i).2.1 (mm_inf i).2.2.1 (mm_look mm_tab i).1 = true ∧ mm_nx (mm_look mm_tab i).1 = 0 ∧ (mm_look mm_tab i).2.1 = (mm_inf i).2.2.1 ∧ plainFor (mm_inf i).1 = true ∧ Jvm.Cond.code (mm_inf i).1 (mm_inf i).2.1 (mm_inf i).2.2.1 (mm_inf i).2.2.2 ∈ lw_g ∧ (mm_inf i).2.2.1 ≤ 61
theorem mm_mf_to {i : Nat} (h : mm_mf i) : mm_mf2 i := by
  obtain ⟨pool, isI, h1, h2, h3, h4, h5, h6, h7, h8⟩ := h
  exact ⟨pool, isI, h1, h2, h3, h4, h5, plainFor_of_name h6, h7, h8⟩
theorem mm_mf2_340 : mm_mf2 340 := ⟨mm_pl_Mth, false, mm_pk_Mth, (fun h => by cases h), by decide +kernel, by decide +kernel, by decide +kernel, by decide +kernel, mm_hw_g (p := 580) (by decide +kernel), by decide +kernel⟩
theorem mm_mfa_0 {x : Nat} (h0 : 0 ≤ x) (h1 : x < 90) : mm_mf2 x := by
  rcases Nat.lt_or_ge x 45 with h45 | h45
  · rcases Nat.lt_or_ge x 22 with h22 | h22
    · rcases Nat.lt_or_ge x 11 with h11 | h11
      · rcases Nat.lt_or_ge x 5 with h5 | h5
        · rcases Nat.lt_or_ge x 2 with h2 | h2
          · rcases Nat.lt_or_ge x 1 with h1 | h1
            · exact (show x = 0 by omega) ▸ mm_mf_to mm_mf_0
            · exact (show x = 1 by omega) ▸ mm_mf_to mm_mf_1
          · rcases Nat.lt_or_ge x 3 with h3 | h3
            · exact (show x = 2 by omega) ▸ mm_mf_to mm_mf_2
            · rcases Nat.lt_or_ge x 4 with h4 | h4
              · exact (show x = 3 by omega) ▸ mm_mf_to mm_mf_3
              · exact (show x = 4 by omega) ▸ mm_mf_to mm_mf_4
        · rcases Nat.lt_or_ge x 8 with h8 | h8
          · rcases Nat.lt_or_ge x 6 with h6 | h6
            · exact (show x = 5 by omega) ▸ mm_mf_to mm_mf_5
            · rcases Nat.lt_or_ge x 7 with h7 | h7
              · exact (show x = 6 by omega) ▸ mm_mf_to mm_mf_6
              · exact (show x = 7 by omega) ▸ mm_mf_to mm_mf_7
          · rcases Nat.lt_or_ge x 9 with h9 | h9
            · exact (show x = 8 by omega) ▸ mm_mf_to mm_mf_8
            · rcases Nat.lt_or_ge x 10 with h10 | h10
              · exact (show x = 9 by omega) ▸ mm_mf_to mm_mf_9
              · exact (show x = 10 by omega) ▸ mm_mf_to mm_mf_10
      · rcases Nat.lt_or_ge x 16 with h16 | h16
        · rcases Nat.lt_or_ge x 13 with h13 | h13
          · rcases Nat.lt_or_ge x 12 with h12 | h12
            · exact (show x = 11 by omega) ▸ mm_mf_to mm_mf_11
            · exact (show x = 12 by omega) ▸ mm_mf_to mm_mf_12
          · rcases Nat.lt_or_ge x 14 with h14 | h14
            · exact (show x = 13 by omega) ▸ mm_mf_to mm_mf_13
            · rcases Nat.lt_or_ge x 15 with h15 | h15
              · exact (show x = 14 by omega) ▸ mm_mf_to mm_mf_14
              · exact (show x = 15 by omega) ▸ mm_mf_to mm_mf_15
        · rcases Nat.lt_or_ge x 19 with h19 | h19
          · rcases Nat.lt_or_ge x 17 with h17 | h17
            · exact (show x = 16 by omega) ▸ mm_mf_to mm_mf_16
            · rcases Nat.lt_or_ge x 18 with h18 | h18
              · exact (show x = 17 by omega) ▸ mm_mf_to mm_mf_17
              · exact (show x = 18 by omega) ▸ mm_mf_to mm_mf_18
          · rcases Nat.lt_or_ge x 20 with h20 | h20
            · exact (show x = 19 by omega) ▸ mm_mf_to mm_mf_19
            · rcases Nat.lt_or_ge x 21 with h21 | h21
              · exact (show x = 20 by omega) ▸ mm_mf_to mm_mf_20
              · exact (show x = 21 by omega) ▸ mm_mf_to mm_mf_21
    · rcases Nat.lt_or_ge x 33 with h33 | h33
      · rcases Nat.lt_or_ge x 27 with h27 | h27
        · rcases Nat.lt_or_ge x 24 with h24 | h24
          · rcases Nat.lt_or_ge x 23 with h23 | h23
            · exact (show x = 22 by omega) ▸ mm_mf_to mm_mf_22
            · exact (show x = 23 by omega) ▸ mm_mf_to mm_mf_23
          · rcases Nat.lt_or_ge x 25 with h25 | h25
            · exact (show x = 24 by omega) ▸ mm_mf_to mm_mf_24
            · rcases Nat.lt_or_ge x 26 with h26 | h26
              · exact (show x = 25 by omega) ▸ mm_mf_to mm_mf_25
              · exact (show x = 26 by omega) ▸ mm_mf_to mm_mf_26
        · rcases Nat.lt_or_ge x 30 with h30 | h30
          · rcases Nat.lt_or_ge x 28 with h28 | h28
            · exact (show x = 27 by omega) ▸ mm_mf_to mm_mf_27
            · rcases Nat.lt_or_ge x 29 with h29 | h29
              · exact (show x = 28 by omega) ▸ mm_mf_to mm_mf_28
              · exact (show x = 29 by omega) ▸ mm_mf_to mm_mf_29
          · rcases Nat.lt_or_ge x 31 with h31 | h31
            · exact (show x = 30 by omega) ▸ mm_mf_to mm_mf_30
            · rcases Nat.lt_or_ge x 32 with h32 | h32
              · exact (show x = 31 by omega) ▸ mm_mf_to mm_mf_31
              · exact (show x = 32 by omega) ▸ mm_mf_to mm_mf_32
      · rcases Nat.lt_or_ge x 39 with h39 | h39
        · rcases Nat.lt_or_ge x 36 with h36 | h36
          · rcases Nat.lt_or_ge x 34 with h34 | h34
            · exact (show x = 33 by omega) ▸ mm_mf_to mm_mf_33
            · rcases Nat.lt_or_ge x 35 with h35 | h35
              · exact (show x = 34 by omega) ▸ mm_mf_to mm_mf_34
              · exact (show x = 35 by omega) ▸ mm_mf_to mm_mf_35
          · rcases Nat.lt_or_ge x 37 with h37 | h37
            · exact (show x = 36 by omega) ▸ mm_mf_to mm_mf_36
            · rcases Nat.lt_or_ge x 38 with h38 | h38
              · exact (show x = 37 by omega) ▸ mm_mf_to mm_mf_37
              · exact (show x = 38 by omega) ▸ mm_mf_to mm_mf_38
        · rcases Nat.lt_or_ge x 42 with h42 | h42
          · rcases Nat.lt_or_ge x 40 with h40 | h40
            · exact (show x = 39 by omega) ▸ mm_mf_to mm_mf_39
            · rcases Nat.lt_or_ge x 41 with h41 | h41
              · exact (show x = 40 by omega) ▸ mm_mf_to mm_mf_40
              · exact (show x = 41 by omega) ▸ mm_mf_to mm_mf_41
          · rcases Nat.lt_or_ge x 43 with h43 | h43
            · exact (show x = 42 by omega) ▸ mm_mf_to mm_mf_42
            · rcases Nat.lt_or_ge x 44 with h44 | h44
              · exact (show x = 43 by omega) ▸ mm_mf_to mm_mf_43
              · exact (show x = 44 by omega) ▸ mm_mf_to mm_mf_44
  · rcases Nat.lt_or_ge x 67 with h67 | h67
    · rcases Nat.lt_or_ge x 56 with h56 | h56
      · rcases Nat.lt_or_ge x 50 with h50 | h50
        · rcases Nat.lt_or_ge x 47 with h47 | h47
          · rcases Nat.lt_or_ge x 46 with h46 | h46
            · exact (show x = 45 by omega) ▸ mm_mf_to mm_mf_45
            · exact (show x = 46 by omega) ▸ mm_mf_to mm_mf_46
          · rcases Nat.lt_or_ge x 48 with h48 | h48
            · exact (show x = 47 by omega) ▸ mm_mf_to mm_mf_47
            · rcases Nat.lt_or_ge x 49 with h49 | h49
              · exact (show x = 48 by omega) ▸ mm_mf_to mm_mf_48
              · exact (show x = 49 by omega) ▸ mm_mf_to mm_mf_49
        · rcases Nat.lt_or_ge x 53 with h53 | h53
          · rcases Nat.lt_or_ge x 51 with h51 | h51
            · exact (show x = 50 by omega) ▸ mm_mf_to mm_mf_50
            · rcases Nat.lt_or_ge x 52 with h52 | h52
              · exact (show x = 51 by omega) ▸ mm_mf_to mm_mf_51
              · exact (show x = 52 by omega) ▸ mm_mf_to mm_mf_52
          · rcases Nat.lt_or_ge x 54 with h54 | h54
            · exact (show x = 53 by omega) ▸ mm_mf_to mm_mf_53
            · rcases Nat.lt_or_ge x 55 with h55 | h55
              · exact (show x = 54 by omega) ▸ mm_mf_to mm_mf_54
              · exact (show x = 55 by omega) ▸ mm_mf_to mm_mf_55
      · rcases Nat.lt_or_ge x 61 with h61 | h61
        · rcases Nat.lt_or_ge x 58 with h58 | h58
          · rcases Nat.lt_or_ge x 57 with h57 | h57
            · exact (show x = 56 by omega) ▸ mm_mf_to mm_mf_56
            · exact (show x = 57 by omega) ▸ mm_mf_to mm_mf_57
          · rcases Nat.lt_or_ge x 59 with h59 | h59
            · exact (show x = 58 by omega) ▸ mm_mf_to mm_mf_58
            · rcases Nat.lt_or_ge x 60 with h60 | h60
              · exact (show x = 59 by omega) ▸ mm_mf_to mm_mf_59
              · exact (show x = 60 by omega) ▸ mm_mf_to mm_mf_60
        · rcases Nat.lt_or_ge x 64 with h64 | h64
          · rcases Nat.lt_or_ge x 62 with h62 | h62
            · exact (show x = 61 by omega) ▸ mm_mf_to mm_mf_61
            · rcases Nat.lt_or_ge x 63 with h63 | h63
              · exact (show x = 62 by omega) ▸ mm_mf_to mm_mf_62
              · exact (show x = 63 by omega) ▸ mm_mf_to mm_mf_63
          · rcases Nat.lt_or_ge x 65 with h65 | h65
            · exact (show x = 64 by omega) ▸ mm_mf_to mm_mf_64
            · rcases Nat.lt_or_ge x 66 with h66 | h66
              · exact (show x = 65 by omega) ▸ mm_mf_to mm_mf_65
              · exact (show x = 66 by omega) ▸ mm_mf_to mm_mf_66
    · rcases Nat.lt_or_ge x 78 with h78 | h78
      · rcases Nat.lt_or_ge x 72 with h72 | h72
        · rcases Nat.lt_or_ge x 69 with h69 | h69
          · rcases Nat.lt_or_ge x 68 with h68 | h68
            · exact (show x = 67 by omega) ▸ mm_mf_to mm_mf_67
            · exact (show x = 68 by omega) ▸ mm_mf_to mm_mf_68
          · rcases Nat.lt_or_ge x 70 with h70 | h70
            · exact (show x = 69 by omega) ▸ mm_mf_to mm_mf_69
            · rcases Nat.lt_or_ge x 71 with h71 | h71
              · exact (show x = 70 by omega) ▸ mm_mf_to mm_mf_70
              · exact (show x = 71 by omega) ▸ mm_mf_to mm_mf_71
        · rcases Nat.lt_or_ge x 75 with h75 | h75
          · rcases Nat.lt_or_ge x 73 with h73 | h73
            · exact (show x = 72 by omega) ▸ mm_mf_to mm_mf_72
            · rcases Nat.lt_or_ge x 74 with h74 | h74
              · exact (show x = 73 by omega) ▸ mm_mf_to mm_mf_73
              · exact (show x = 74 by omega) ▸ mm_mf_to mm_mf_74
          · rcases Nat.lt_or_ge x 76 with h76 | h76
            · exact (show x = 75 by omega) ▸ mm_mf_to mm_mf_75
            · rcases Nat.lt_or_ge x 77 with h77 | h77
              · exact (show x = 76 by omega) ▸ mm_mf_to mm_mf_76
              · exact (show x = 77 by omega) ▸ mm_mf_to mm_mf_77
      · rcases Nat.lt_or_ge x 84 with h84 | h84
        · rcases Nat.lt_or_ge x 81 with h81 | h81
          · rcases Nat.lt_or_ge x 79 with h79 | h79
            · exact (show x = 78 by omega) ▸ mm_mf_to mm_mf_78
            · rcases Nat.lt_or_ge x 80 with h80 | h80
              · exact (show x = 79 by omega) ▸ mm_mf_to mm_mf_79
              · exact (show x = 80 by omega) ▸ mm_mf_to mm_mf_80
          · rcases Nat.lt_or_ge x 82 with h82 | h82
            · exact (show x = 81 by omega) ▸ mm_mf_to mm_mf_81
            · rcases Nat.lt_or_ge x 83 with h83 | h83
              · exact (show x = 82 by omega) ▸ mm_mf_to mm_mf_82
              · exact (show x = 83 by omega) ▸ mm_mf_to mm_mf_83
        · rcases Nat.lt_or_ge x 87 with h87 | h87
          · rcases Nat.lt_or_ge x 85 with h85 | h85
            · exact (show x = 84 by omega) ▸ mm_mf_to mm_mf_84
            · rcases Nat.lt_or_ge x 86 with h86 | h86
              · exact (show x = 85 by omega) ▸ mm_mf_to mm_mf_85
              · exact (show x = 86 by omega) ▸ mm_mf_to mm_mf_86
          · rcases Nat.lt_or_ge x 88 with h88 | h88
            · exact (show x = 87 by omega) ▸ mm_mf_to mm_mf_87
            · rcases Nat.lt_or_ge x 89 with h89 | h89
              · exact (show x = 88 by omega) ▸ mm_mf_to mm_mf_88
              · exact (show x = 89 by omega) ▸ mm_mf_to mm_mf_89
theorem mm_mfa_90 {x : Nat} (h0 : 90 ≤ x) (h1 : x < 180) : mm_mf2 x := by
  rcases Nat.lt_or_ge x 135 with h135 | h135
  · rcases Nat.lt_or_ge x 112 with h112 | h112
    · rcases Nat.lt_or_ge x 101 with h101 | h101
      · rcases Nat.lt_or_ge x 95 with h95 | h95
        · rcases Nat.lt_or_ge x 92 with h92 | h92
          · rcases Nat.lt_or_ge x 91 with h91 | h91
            · exact (show x = 90 by omega) ▸ mm_mf_to mm_mf_90
            · exact (show x = 91 by omega) ▸ mm_mf_to mm_mf_91
          · rcases Nat.lt_or_ge x 93 with h93 | h93
            · exact (show x = 92 by omega) ▸ mm_mf_to mm_mf_92
            · rcases Nat.lt_or_ge x 94 with h94 | h94
              · exact (show x = 93 by omega) ▸ mm_mf_to mm_mf_93
              · exact (show x = 94 by omega) ▸ mm_mf_to mm_mf_94
        · rcases Nat.lt_or_ge x 98 with h98 | h98
          · rcases Nat.lt_or_ge x 96 with h96 | h96
            · exact (show x = 95 by omega) ▸ mm_mf_to mm_mf_95
            · rcases Nat.lt_or_ge x 97 with h97 | h97
              · exact (show x = 96 by omega) ▸ mm_mf_to mm_mf_96
              · exact (show x = 97 by omega) ▸ mm_mf_to mm_mf_97
          · rcases Nat.lt_or_ge x 99 with h99 | h99
            · exact (show x = 98 by omega) ▸ mm_mf_to mm_mf_98
            · rcases Nat.lt_or_ge x 100 with h100 | h100
              · exact (show x = 99 by omega) ▸ mm_mf_to mm_mf_99
              · exact (show x = 100 by omega) ▸ mm_mf_to mm_mf_100
      · rcases Nat.lt_or_ge x 106 with h106 | h106
        · rcases Nat.lt_or_ge x 103 with h103 | h103
          · rcases Nat.lt_or_ge x 102 with h102 | h102
            · exact (show x = 101 by omega) ▸ mm_mf_to mm_mf_101
            · exact (show x = 102 by omega) ▸ mm_mf_to mm_mf_102
          · rcases Nat.lt_or_ge x 104 with h104 | h104
            · exact (show x = 103 by omega) ▸ mm_mf_to mm_mf_103
            · rcases Nat.lt_or_ge x 105 with h105 | h105
              · exact (show x = 104 by omega) ▸ mm_mf_to mm_mf_104
              · exact (show x = 105 by omega) ▸ mm_mf_to mm_mf_105
        · rcases Nat.lt_or_ge x 109 with h109 | h109
          · rcases Nat.lt_or_ge x 107 with h107 | h107
            · exact (show x = 106 by omega) ▸ mm_mf_to mm_mf_106
            · rcases Nat.lt_or_ge x 108 with h108 | h108
              · exact (show x = 107 by omega) ▸ mm_mf_to mm_mf_107
              · exact (show x = 108 by omega) ▸ mm_mf_to mm_mf_108
          · rcases Nat.lt_or_ge x 110 with h110 | h110
            · exact (show x = 109 by omega) ▸ mm_mf_to mm_mf_109
            · rcases Nat.lt_or_ge x 111 with h111 | h111
              · exact (show x = 110 by omega) ▸ mm_mf_to mm_mf_110
              · exact (show x = 111 by omega) ▸ mm_mf_to mm_mf_111
    · rcases Nat.lt_or_ge x 123 with h123 | h123
      · rcases Nat.lt_or_ge x 117 with h117 | h117
        · rcases Nat.lt_or_ge x 114 with h114 | h114
          · rcases Nat.lt_or_ge x 113 with h113 | h113
            · exact (show x = 112 by omega) ▸ mm_mf_to mm_mf_112
            · exact (show x = 113 by omega) ▸ mm_mf_to mm_mf_113
          · rcases Nat.lt_or_ge x 115 with h115 | h115
            · exact (show x = 114 by omega) ▸ mm_mf_to mm_mf_114
            · rcases Nat.lt_or_ge x 116 with h116 | h116
              · exact (show x = 115 by omega) ▸ mm_mf_to mm_mf_115
              · exact (show x = 116 by omega) ▸ mm_mf_to mm_mf_116
        · rcases Nat.lt_or_ge x 120 with h120 | h120
          · rcases Nat.lt_or_ge x 118 with h118 | h118
            · exact (show x = 117 by omega) ▸ mm_mf_to mm_mf_117
            · rcases Nat.lt_or_ge x 119 with h119 | h119
              · exact (show x = 118 by omega) ▸ mm_mf_to mm_mf_118
              · exact (show x = 119 by omega) ▸ mm_mf_to mm_mf_119
          · rcases Nat.lt_or_ge x 121 with h121 | h121
            · exact (show x = 120 by omega) ▸ mm_mf_to mm_mf_120
            · rcases Nat.lt_or_ge x 122 with h122 | h122
              · exact (show x = 121 by omega) ▸ mm_mf_to mm_mf_121
              · exact (show x = 122 by omega) ▸ mm_mf_to mm_mf_122
      · rcases Nat.lt_or_ge x 129 with h129 | h129
        · rcases Nat.lt_or_ge x 126 with h126 | h126
          · rcases Nat.lt_or_ge x 124 with h124 | h124
            · exact (show x = 123 by omega) ▸ mm_mf_to mm_mf_123
            · rcases Nat.lt_or_ge x 125 with h125 | h125
              · exact (show x = 124 by omega) ▸ mm_mf_to mm_mf_124
              · exact (show x = 125 by omega) ▸ mm_mf_to mm_mf_125
          · rcases Nat.lt_or_ge x 127 with h127 | h127
            · exact (show x = 126 by omega) ▸ mm_mf_to mm_mf_126
            · rcases Nat.lt_or_ge x 128 with h128 | h128
              · exact (show x = 127 by omega) ▸ mm_mf_to mm_mf_127
              · exact (show x = 128 by omega) ▸ mm_mf_to mm_mf_128
        · rcases Nat.lt_or_ge x 132 with h132 | h132
          · rcases Nat.lt_or_ge x 130 with h130 | h130
            · exact (show x = 129 by omega) ▸ mm_mf_to mm_mf_129
            · rcases Nat.lt_or_ge x 131 with h131 | h131
              · exact (show x = 130 by omega) ▸ mm_mf_to mm_mf_130
              · exact (show x = 131 by omega) ▸ mm_mf_to mm_mf_131
          · rcases Nat.lt_or_ge x 133 with h133 | h133
            · exact (show x = 132 by omega) ▸ mm_mf_to mm_mf_132
            · rcases Nat.lt_or_ge x 134 with h134 | h134
              · exact (show x = 133 by omega) ▸ mm_mf_to mm_mf_133
              · exact (show x = 134 by omega) ▸ mm_mf_to mm_mf_134
  · rcases Nat.lt_or_ge x 157 with h157 | h157
    · rcases Nat.lt_or_ge x 146 with h146 | h146
      · rcases Nat.lt_or_ge x 140 with h140 | h140
        · rcases Nat.lt_or_ge x 137 with h137 | h137
          · rcases Nat.lt_or_ge x 136 with h136 | h136
            · exact (show x = 135 by omega) ▸ mm_mf_to mm_mf_135
            · exact (show x = 136 by omega) ▸ mm_mf_to mm_mf_136
          · rcases Nat.lt_or_ge x 138 with h138 | h138
            · exact (show x = 137 by omega) ▸ mm_mf_to mm_mf_137
            · rcases Nat.lt_or_ge x 139 with h139 | h139
              · exact (show x = 138 by omega) ▸ mm_mf_to mm_mf_138
              · exact (show x = 139 by omega) ▸ mm_mf_to mm_mf_139
        · rcases Nat.lt_or_ge x 143 with h143 | h143
          · rcases Nat.lt_or_ge x 141 with h141 | h141
            · exact (show x = 140 by omega) ▸ mm_mf_to mm_mf_140
            · rcases Nat.lt_or_ge x 142 with h142 | h142
              · exact (show x = 141 by omega) ▸ mm_mf_to mm_mf_141
              · exact (show x = 142 by omega) ▸ mm_mf_to mm_mf_142
          · rcases Nat.lt_or_ge x 144 with h144 | h144
            · exact (show x = 143 by omega) ▸ mm_mf_to mm_mf_143
            · rcases Nat.lt_or_ge x 145 with h145 | h145
              · exact (show x = 144 by omega) ▸ mm_mf_to mm_mf_144
              · exact (show x = 145 by omega) ▸ mm_mf_to mm_mf_145
      · rcases Nat.lt_or_ge x 151 with h151 | h151
        · rcases Nat.lt_or_ge x 148 with h148 | h148
          · rcases Nat.lt_or_ge x 147 with h147 | h147
            · exact (show x = 146 by omega) ▸ mm_mf_to mm_mf_146
            · exact (show x = 147 by omega) ▸ mm_mf_to mm_mf_147
          · rcases Nat.lt_or_ge x 149 with h149 | h149
            · exact (show x = 148 by omega) ▸ mm_mf_to mm_mf_148
            · rcases Nat.lt_or_ge x 150 with h150 | h150
              · exact (show x = 149 by omega) ▸ mm_mf_to mm_mf_149
              · exact (show x = 150 by omega) ▸ mm_mf_to mm_mf_150
        · rcases Nat.lt_or_ge x 154 with h154 | h154
          · rcases Nat.lt_or_ge x 152 with h152 | h152
            · exact (show x = 151 by omega) ▸ mm_mf_to mm_mf_151
            · rcases Nat.lt_or_ge x 153 with h153 | h153
              · exact (show x = 152 by omega) ▸ mm_mf_to mm_mf_152
              · exact (show x = 153 by omega) ▸ mm_mf_to mm_mf_153
          · rcases Nat.lt_or_ge x 155 with h155 | h155
            · exact (show x = 154 by omega) ▸ mm_mf_to mm_mf_154
            · rcases Nat.lt_or_ge x 156 with h156 | h156
              · exact (show x = 155 by omega) ▸ mm_mf_to mm_mf_155
              · exact (show x = 156 by omega) ▸ mm_mf_to mm_mf_156
    · rcases Nat.lt_or_ge x 168 with h168 | h168
      · rcases Nat.lt_or_ge x 162 with h162 | h162
        · rcases Nat.lt_or_ge x 159 with h159 | h159
          · rcases Nat.lt_or_ge x 158 with h158 | h158
            · exact (show x = 157 by omega) ▸ mm_mf_to mm_mf_157
            · exact (show x = 158 by omega) ▸ mm_mf_to mm_mf_158
          · rcases Nat.lt_or_ge x 160 with h160 | h160
            · exact (show x = 159 by omega) ▸ mm_mf_to mm_mf_159
            · rcases Nat.lt_or_ge x 161 with h161 | h161
              · exact (show x = 160 by omega) ▸ mm_mf_to mm_mf_160
              · exact (show x = 161 by omega) ▸ mm_mf_to mm_mf_161
        · rcases Nat.lt_or_ge x 165 with h165 | h165
          · rcases Nat.lt_or_ge x 163 with h163 | h163
            · exact (show x = 162 by omega) ▸ mm_mf_to mm_mf_162
            · rcases Nat.lt_or_ge x 164 with h164 | h164
              · exact (show x = 163 by omega) ▸ mm_mf_to mm_mf_163
              · exact (show x = 164 by omega) ▸ mm_mf_to mm_mf_164
          · rcases Nat.lt_or_ge x 166 with h166 | h166
            · exact (show x = 165 by omega) ▸ mm_mf_to mm_mf_165
            · rcases Nat.lt_or_ge x 167 with h167 | h167
              · exact (show x = 166 by omega) ▸ mm_mf_to mm_mf_166
              · exact (show x = 167 by omega) ▸ mm_mf_to mm_mf_167
      · rcases Nat.lt_or_ge x 174 with h174 | h174
        · rcases Nat.lt_or_ge x 171 with h171 | h171
          · rcases Nat.lt_or_ge x 169 with h169 | h169
            · exact (show x = 168 by omega) ▸ mm_mf_to mm_mf_168
            · rcases Nat.lt_or_ge x 170 with h170 | h170
              · exact (show x = 169 by omega) ▸ mm_mf_to mm_mf_169
              · exact (show x = 170 by omega) ▸ mm_mf_to mm_mf_170
          · rcases Nat.lt_or_ge x 172 with h172 | h172
            · exact (show x = 171 by omega) ▸ mm_mf_to mm_mf_171
            · rcases Nat.lt_or_ge x 173 with h173 | h173
              · exact (show x = 172 by omega) ▸ mm_mf_to mm_mf_172
              · exact (show x = 173 by omega) ▸ mm_mf_to mm_mf_173
        · rcases Nat.lt_or_ge x 177 with h177 | h177
          · rcases Nat.lt_or_ge x 175 with h175 | h175
            · exact (show x = 174 by omega) ▸ mm_mf_to mm_mf_174
            · rcases Nat.lt_or_ge x 176 with h176 | h176
              · exact (show x = 175 by omega) ▸ mm_mf_to mm_mf_175
              · exact (show x = 176 by omega) ▸ mm_mf_to mm_mf_176
          · rcases Nat.lt_or_ge x 178 with h178 | h178
            · exact (show x = 177 by omega) ▸ mm_mf_to mm_mf_177
            · rcases Nat.lt_or_ge x 179 with h179 | h179
              · exact (show x = 178 by omega) ▸ mm_mf_to mm_mf_178
              · exact (show x = 179 by omega) ▸ mm_mf_to mm_mf_179
theorem mm_mfa_180 {x : Nat} (h0 : 180 ≤ x) (h1 : x < 270) : mm_mf2 x := by
  rcases Nat.lt_or_ge x 225 with h225 | h225
  · rcases Nat.lt_or_ge x 202 with h202 | h202
    · rcases Nat.lt_or_ge x 191 with h191 | h191
      · rcases Nat.lt_or_ge x 185 with h185 | h185
        · rcases Nat.lt_or_ge x 182 with h182 | h182
          · rcases Nat.lt_or_ge x 181 with h181 | h181
            · exact (show x = 180 by omega) ▸ mm_mf_to mm_mf_180
            · exact (show x = 181 by omega) ▸ mm_mf_to mm_mf_181
          · rcases Nat.lt_or_ge x 183 with h183 | h183
            · exact (show x = 182 by omega) ▸ mm_mf_to mm_mf_182
            · rcases Nat.lt_or_ge x 184 with h184 | h184
              · exact (show x = 183 by omega) ▸ mm_mf_to mm_mf_183
              · exact (show x = 184 by omega) ▸ mm_mf_to mm_mf_184
        · rcases Nat.lt_or_ge x 188 with h188 | h188
          · rcases Nat.lt_or_ge x 186 with h186 | h186
            · exact (show x = 185 by omega) ▸ mm_mf_to mm_mf_185
            · rcases Nat.lt_or_ge x 187 with h187 | h187
              · exact (show x = 186 by omega) ▸ mm_mf_to mm_mf_186
              · exact (show x = 187 by omega) ▸ mm_mf_to mm_mf_187
          · rcases Nat.lt_or_ge x 189 with h189 | h189
            · exact (show x = 188 by omega) ▸ mm_mf_to mm_mf_188
            · rcases Nat.lt_or_ge x 190 with h190 | h190
              · exact (show x = 189 by omega) ▸ mm_mf_to mm_mf_189
              · exact (show x = 190 by omega) ▸ mm_mf_to mm_mf_190
      · rcases Nat.lt_or_ge x 196 with h196 | h196
        · rcases Nat.lt_or_ge x 193 with h193 | h193
          · rcases Nat.lt_or_ge x 192 with h192 | h192
            · exact (show x = 191 by omega) ▸ mm_mf_to mm_mf_191
            · exact (show x = 192 by omega) ▸ mm_mf_to mm_mf_192
          · rcases Nat.lt_or_ge x 194 with h194 | h194
            · exact (show x = 193 by omega) ▸ mm_mf_to mm_mf_193
            · rcases Nat.lt_or_ge x 195 with h195 | h195
              · exact (show x = 194 by omega) ▸ mm_mf_to mm_mf_194
              · exact (show x = 195 by omega) ▸ mm_mf_to mm_mf_195
        · rcases Nat.lt_or_ge x 199 with h199 | h199
          · rcases Nat.lt_or_ge x 197 with h197 | h197
            · exact (show x = 196 by omega) ▸ mm_mf_to mm_mf_196
            · rcases Nat.lt_or_ge x 198 with h198 | h198
              · exact (show x = 197 by omega) ▸ mm_mf_to mm_mf_197
              · exact (show x = 198 by omega) ▸ mm_mf_to mm_mf_198
          · rcases Nat.lt_or_ge x 200 with h200 | h200
            · exact (show x = 199 by omega) ▸ mm_mf_to mm_mf_199
            · rcases Nat.lt_or_ge x 201 with h201 | h201
              · exact (show x = 200 by omega) ▸ mm_mf_to mm_mf_200
              · exact (show x = 201 by omega) ▸ mm_mf_to mm_mf_201
    · rcases Nat.lt_or_ge x 213 with h213 | h213
      · rcases Nat.lt_or_ge x 207 with h207 | h207
        · rcases Nat.lt_or_ge x 204 with h204 | h204
          · rcases Nat.lt_or_ge x 203 with h203 | h203
            · exact (show x = 202 by omega) ▸ mm_mf_to mm_mf_202
            · exact (show x = 203 by omega) ▸ mm_mf_to mm_mf_203
          · rcases Nat.lt_or_ge x 205 with h205 | h205
            · exact (show x = 204 by omega) ▸ mm_mf_to mm_mf_204
            · rcases Nat.lt_or_ge x 206 with h206 | h206
              · exact (show x = 205 by omega) ▸ mm_mf_to mm_mf_205
              · exact (show x = 206 by omega) ▸ mm_mf_to mm_mf_206
        · rcases Nat.lt_or_ge x 210 with h210 | h210
          · rcases Nat.lt_or_ge x 208 with h208 | h208
            · exact (show x = 207 by omega) ▸ mm_mf_to mm_mf_207
            · rcases Nat.lt_or_ge x 209 with h209 | h209
              · exact (show x = 208 by omega) ▸ mm_mf_to mm_mf_208
              · exact (show x = 209 by omega) ▸ mm_mf_to mm_mf_209
          · rcases Nat.lt_or_ge x 211 with h211 | h211
            · exact (show x = 210 by omega) ▸ mm_mf_to mm_mf_210
            · rcases Nat.lt_or_ge x 212 with h212 | h212
              · exact (show x = 211 by omega) ▸ mm_mf_to mm_mf_211
              · exact (show x = 212 by omega) ▸ mm_mf_to mm_mf_212
      · rcases Nat.lt_or_ge x 219 with h219 | h219
        · rcases Nat.lt_or_ge x 216 with h216 | h216
          · rcases Nat.lt_or_ge x 214 with h214 | h214
            · exact (show x = 213 by omega) ▸ mm_mf_to mm_mf_213
            · rcases Nat.lt_or_ge x 215 with h215 | h215
              · exact (show x = 214 by omega) ▸ mm_mf_to mm_mf_214
              · exact (show x = 215 by omega) ▸ mm_mf_to mm_mf_215
          · rcases Nat.lt_or_ge x 217 with h217 | h217
            · exact (show x = 216 by omega) ▸ mm_mf_to mm_mf_216
            · rcases Nat.lt_or_ge x 218 with h218 | h218
              · exact (show x = 217 by omega) ▸ mm_mf_to mm_mf_217
              · exact (show x = 218 by omega) ▸ mm_mf_to mm_mf_218
        · rcases Nat.lt_or_ge x 222 with h222 | h222
          · rcases Nat.lt_or_ge x 220 with h220 | h220
            · exact (show x = 219 by omega) ▸ mm_mf_to mm_mf_219
            · rcases Nat.lt_or_ge x 221 with h221 | h221
              · exact (show x = 220 by omega) ▸ mm_mf_to mm_mf_220
              · exact (show x = 221 by omega) ▸ mm_mf_to mm_mf_221
          · rcases Nat.lt_or_ge x 223 with h223 | h223
            · exact (show x = 222 by omega) ▸ mm_mf_to mm_mf_222
            · rcases Nat.lt_or_ge x 224 with h224 | h224
              · exact (show x = 223 by omega) ▸ mm_mf_to mm_mf_223
              · exact (show x = 224 by omega) ▸ mm_mf_to mm_mf_224
  · rcases Nat.lt_or_ge x 247 with h247 | h247
    · rcases Nat.lt_or_ge x 236 with h236 | h236
      · rcases Nat.lt_or_ge x 230 with h230 | h230
        · rcases Nat.lt_or_ge x 227 with h227 | h227
          · rcases Nat.lt_or_ge x 226 with h226 | h226
            · exact (show x = 225 by omega) ▸ mm_mf_to mm_mf_225
            · exact (show x = 226 by omega) ▸ mm_mf_to mm_mf_226
          · rcases Nat.lt_or_ge x 228 with h228 | h228
            · exact (show x = 227 by omega) ▸ mm_mf_to mm_mf_227
            · rcases Nat.lt_or_ge x 229 with h229 | h229
              · exact (show x = 228 by omega) ▸ mm_mf_to mm_mf_228
              · exact (show x = 229 by omega) ▸ mm_mf_to mm_mf_229
        · rcases Nat.lt_or_ge x 233 with h233 | h233
          · rcases Nat.lt_or_ge x 231 with h231 | h231
            · exact (show x = 230 by omega) ▸ mm_mf_to mm_mf_230
            · rcases Nat.lt_or_ge x 232 with h232 | h232
              · exact (show x = 231 by omega) ▸ mm_mf_to mm_mf_231
              · exact (show x = 232 by omega) ▸ mm_mf_to mm_mf_232
          · rcases Nat.lt_or_ge x 234 with h234 | h234
            · exact (show x = 233 by omega) ▸ mm_mf_to mm_mf_233
            · rcases Nat.lt_or_ge x 235 with h235 | h235
              · exact (show x = 234 by omega) ▸ mm_mf_to mm_mf_234
              · exact (show x = 235 by omega) ▸ mm_mf_to mm_mf_235
      · rcases Nat.lt_or_ge x 241 with h241 | h241
        · rcases Nat.lt_or_ge x 238 with h238 | h238
          · rcases Nat.lt_or_ge x 237 with h237 | h237
            · exact (show x = 236 by omega) ▸ mm_mf_to mm_mf_236
            · exact (show x = 237 by omega) ▸ mm_mf_to mm_mf_237
          · rcases Nat.lt_or_ge x 239 with h239 | h239
            · exact (show x = 238 by omega) ▸ mm_mf_to mm_mf_238
            · rcases Nat.lt_or_ge x 240 with h240 | h240
              · exact (show x = 239 by omega) ▸ mm_mf_to mm_mf_239
              · exact (show x = 240 by omega) ▸ mm_mf_to mm_mf_240
        · rcases Nat.lt_or_ge x 244 with h244 | h244
          · rcases Nat.lt_or_ge x 242 with h242 | h242
            · exact (show x = 241 by omega) ▸ mm_mf_to mm_mf_241
            · rcases Nat.lt_or_ge x 243 with h243 | h243
              · exact (show x = 242 by omega) ▸ mm_mf_to mm_mf_242
              · exact (show x = 243 by omega) ▸ mm_mf_to mm_mf_243
          · rcases Nat.lt_or_ge x 245 with h245 | h245
            · exact (show x = 244 by omega) ▸ mm_mf_to mm_mf_244
            · rcases Nat.lt_or_ge x 246 with h246 | h246
              · exact (show x = 245 by omega) ▸ mm_mf_to mm_mf_245
              · exact (show x = 246 by omega) ▸ mm_mf_to mm_mf_246
    · rcases Nat.lt_or_ge x 258 with h258 | h258
      · rcases Nat.lt_or_ge x 252 with h252 | h252
        · rcases Nat.lt_or_ge x 249 with h249 | h249
          · rcases Nat.lt_or_ge x 248 with h248 | h248
            · exact (show x = 247 by omega) ▸ mm_mf_to mm_mf_247
            · exact (show x = 248 by omega) ▸ mm_mf_to mm_mf_248
          · rcases Nat.lt_or_ge x 250 with h250 | h250
            · exact (show x = 249 by omega) ▸ mm_mf_to mm_mf_249
            · rcases Nat.lt_or_ge x 251 with h251 | h251
              · exact (show x = 250 by omega) ▸ mm_mf_to mm_mf_250
              · exact (show x = 251 by omega) ▸ mm_mf_to mm_mf_251
        · rcases Nat.lt_or_ge x 255 with h255 | h255
          · rcases Nat.lt_or_ge x 253 with h253 | h253
            · exact (show x = 252 by omega) ▸ mm_mf_to mm_mf_252
            · rcases Nat.lt_or_ge x 254 with h254 | h254
              · exact (show x = 253 by omega) ▸ mm_mf_to mm_mf_253
              · exact (show x = 254 by omega) ▸ mm_mf_to mm_mf_254
          · rcases Nat.lt_or_ge x 256 with h256 | h256
            · exact (show x = 255 by omega) ▸ mm_mf_to mm_mf_255
            · rcases Nat.lt_or_ge x 257 with h257 | h257
              · exact (show x = 256 by omega) ▸ mm_mf_to mm_mf_256
              · exact (show x = 257 by omega) ▸ mm_mf_to mm_mf_257
      · rcases Nat.lt_or_ge x 264 with h264 | h264
        · rcases Nat.lt_or_ge x 261 with h261 | h261
          · rcases Nat.lt_or_ge x 259 with h259 | h259
            · exact (show x = 258 by omega) ▸ mm_mf_to mm_mf_258
            · rcases Nat.lt_or_ge x 260 with h260 | h260
              · exact (show x = 259 by omega) ▸ mm_mf_to mm_mf_259
              · exact (show x = 260 by omega) ▸ mm_mf_to mm_mf_260
          · rcases Nat.lt_or_ge x 262 with h262 | h262
            · exact (show x = 261 by omega) ▸ mm_mf_to mm_mf_261
            · rcases Nat.lt_or_ge x 263 with h263 | h263
              · exact (show x = 262 by omega) ▸ mm_mf_to mm_mf_262
              · exact (show x = 263 by omega) ▸ mm_mf_to mm_mf_263
        · rcases Nat.lt_or_ge x 267 with h267 | h267
          · rcases Nat.lt_or_ge x 265 with h265 | h265
            · exact (show x = 264 by omega) ▸ mm_mf_to mm_mf_264
            · rcases Nat.lt_or_ge x 266 with h266 | h266
              · exact (show x = 265 by omega) ▸ mm_mf_to mm_mf_265
              · exact (show x = 266 by omega) ▸ mm_mf_to mm_mf_266
          · rcases Nat.lt_or_ge x 268 with h268 | h268
            · exact (show x = 267 by omega) ▸ mm_mf_to mm_mf_267
            · rcases Nat.lt_or_ge x 269 with h269 | h269
              · exact (show x = 268 by omega) ▸ mm_mf_to mm_mf_268
              · exact (show x = 269 by omega) ▸ mm_mf_to mm_mf_269
theorem mm_mfa_270 {x : Nat} (h0 : 270 ≤ x) (h1 : x < 355) : mm_mf2 x := by
  rcases Nat.lt_or_ge x 312 with h312 | h312
  · rcases Nat.lt_or_ge x 291 with h291 | h291
    · rcases Nat.lt_or_ge x 280 with h280 | h280
      · rcases Nat.lt_or_ge x 275 with h275 | h275
        · rcases Nat.lt_or_ge x 272 with h272 | h272
          · rcases Nat.lt_or_ge x 271 with h271 | h271
            · exact (show x = 270 by omega) ▸ mm_mf_to mm_mf_270
            · exact (show x = 271 by omega) ▸ mm_mf_to mm_mf_271
          · rcases Nat.lt_or_ge x 273 with h273 | h273
            · exact (show x = 272 by omega) ▸ mm_mf_to mm_mf_272
            · rcases Nat.lt_or_ge x 274 with h274 | h274
              · exact (show x = 273 by omega) ▸ mm_mf_to mm_mf_273
              · exact (show x = 274 by omega) ▸ mm_mf_to mm_mf_274
        · rcases Nat.lt_or_ge x 277 with h277 | h277
          · rcases Nat.lt_or_ge x 276 with h276 | h276
            · exact (show x = 275 by omega) ▸ mm_mf_to mm_mf_275
            · exact (show x = 276 by omega) ▸ mm_mf_to mm_mf_276
          · rcases Nat.lt_or_ge x 278 with h278 | h278
            · exact (show x = 277 by omega) ▸ mm_mf_to mm_mf_277
            · rcases Nat.lt_or_ge x 279 with h279 | h279
              · exact (show x = 278 by omega) ▸ mm_mf_to mm_mf_278
              · exact (show x = 279 by omega) ▸ mm_mf_to mm_mf_279
      · rcases Nat.lt_or_ge x 285 with h285 | h285
        · rcases Nat.lt_or_ge x 282 with h282 | h282
          · rcases Nat.lt_or_ge x 281 with h281 | h281
            · exact (show x = 280 by omega) ▸ mm_mf_to mm_mf_280
            · exact (show x = 281 by omega) ▸ mm_mf_to mm_mf_281
          · rcases Nat.lt_or_ge x 283 with h283 | h283
            · exact (show x = 282 by omega) ▸ mm_mf_to mm_mf_282
            · rcases Nat.lt_or_ge x 284 with h284 | h284
              · exact (show x = 283 by omega) ▸ mm_mf_to mm_mf_283
              · exact (show x = 284 by omega) ▸ mm_mf_to mm_mf_284
        · rcases Nat.lt_or_ge x 288 with h288 | h288
          · rcases Nat.lt_or_ge x 286 with h286 | h286
            · exact (show x = 285 by omega) ▸ mm_mf_to mm_mf_285
            · rcases Nat.lt_or_ge x 287 with h287 | h287
              · exact (show x = 286 by omega) ▸ mm_mf_to mm_mf_286
              · exact (show x = 287 by omega) ▸ mm_mf_to mm_mf_287
          · rcases Nat.lt_or_ge x 289 with h289 | h289
            · exact (show x = 288 by omega) ▸ mm_mf_to mm_mf_288
            · rcases Nat.lt_or_ge x 290 with h290 | h290
              · exact (show x = 289 by omega) ▸ mm_mf_to mm_mf_289
              · exact (show x = 290 by omega) ▸ mm_mf_to mm_mf_290
    · rcases Nat.lt_or_ge x 301 with h301 | h301
      · rcases Nat.lt_or_ge x 296 with h296 | h296
        · rcases Nat.lt_or_ge x 293 with h293 | h293
          · rcases Nat.lt_or_ge x 292 with h292 | h292
            · exact (show x = 291 by omega) ▸ mm_mf_to mm_mf_291
            · exact (show x = 292 by omega) ▸ mm_mf_to mm_mf_292
          · rcases Nat.lt_or_ge x 294 with h294 | h294
            · exact (show x = 293 by omega) ▸ mm_mf_to mm_mf_293
            · rcases Nat.lt_or_ge x 295 with h295 | h295
              · exact (show x = 294 by omega) ▸ mm_mf_to mm_mf_294
              · exact (show x = 295 by omega) ▸ mm_mf_to mm_mf_295
        · rcases Nat.lt_or_ge x 298 with h298 | h298
          · rcases Nat.lt_or_ge x 297 with h297 | h297
            · exact (show x = 296 by omega) ▸ mm_mf_to mm_mf_296
            · exact (show x = 297 by omega) ▸ mm_mf_to mm_mf_297
          · rcases Nat.lt_or_ge x 299 with h299 | h299
            · exact (show x = 298 by omega) ▸ mm_mf_to mm_mf_298
            · rcases Nat.lt_or_ge x 300 with h300 | h300
              · exact (show x = 299 by omega) ▸ mm_mf_to mm_mf_299
              · exact (show x = 300 by omega) ▸ mm_mf_to mm_mf_300
      · rcases Nat.lt_or_ge x 306 with h306 | h306
        · rcases Nat.lt_or_ge x 303 with h303 | h303
          · rcases Nat.lt_or_ge x 302 with h302 | h302
            · exact (show x = 301 by omega) ▸ mm_mf_to mm_mf_301
            · exact (show x = 302 by omega) ▸ mm_mf_to mm_mf_302
          · rcases Nat.lt_or_ge x 304 with h304 | h304
            · exact (show x = 303 by omega) ▸ mm_mf_to mm_mf_303
            · rcases Nat.lt_or_ge x 305 with h305 | h305
              · exact (show x = 304 by omega) ▸ mm_mf_to mm_mf_304
              · exact (show x = 305 by omega) ▸ mm_mf_to mm_mf_305
        · rcases Nat.lt_or_ge x 309 with h309 | h309
          · rcases Nat.lt_or_ge x 307 with h307 | h307
            · exact (show x = 306 by omega) ▸ mm_mf_to mm_mf_306
            · rcases Nat.lt_or_ge x 308 with h308 | h308
              · exact (show x = 307 by omega) ▸ mm_mf_to mm_mf_307
              · exact (show x = 308 by omega) ▸ mm_mf_to mm_mf_308
          · rcases Nat.lt_or_ge x 310 with h310 | h310
            · exact (show x = 309 by omega) ▸ mm_mf_to mm_mf_309
            · rcases Nat.lt_or_ge x 311 with h311 | h311
              · exact (show x = 310 by omega) ▸ mm_mf_to mm_mf_310
              · exact (show x = 311 by omega) ▸ mm_mf_to mm_mf_311
  · rcases Nat.lt_or_ge x 333 with h333 | h333
    · rcases Nat.lt_or_ge x 322 with h322 | h322
      · rcases Nat.lt_or_ge x 317 with h317 | h317
        · rcases Nat.lt_or_ge x 314 with h314 | h314
          · rcases Nat.lt_or_ge x 313 with h313 | h313
            · exact (show x = 312 by omega) ▸ mm_mf_to mm_mf_312
            · exact (show x = 313 by omega) ▸ mm_mf_to mm_mf_313
          · rcases Nat.lt_or_ge x 315 with h315 | h315
            · exact (show x = 314 by omega) ▸ mm_mf_to mm_mf_314
            · rcases Nat.lt_or_ge x 316 with h316 | h316
              · exact (show x = 315 by omega) ▸ mm_mf_to mm_mf_315
              · exact (show x = 316 by omega) ▸ mm_mf_to mm_mf_316
        · rcases Nat.lt_or_ge x 319 with h319 | h319
          · rcases Nat.lt_or_ge x 318 with h318 | h318
            · exact (show x = 317 by omega) ▸ mm_mf_to mm_mf_317
            · exact (show x = 318 by omega) ▸ mm_mf_to mm_mf_318
          · rcases Nat.lt_or_ge x 320 with h320 | h320
            · exact (show x = 319 by omega) ▸ mm_mf_to mm_mf_319
            · rcases Nat.lt_or_ge x 321 with h321 | h321
              · exact (show x = 320 by omega) ▸ mm_mf_to mm_mf_320
              · exact (show x = 321 by omega) ▸ mm_mf_to mm_mf_321
      · rcases Nat.lt_or_ge x 327 with h327 | h327
        · rcases Nat.lt_or_ge x 324 with h324 | h324
          · rcases Nat.lt_or_ge x 323 with h323 | h323
            · exact (show x = 322 by omega) ▸ mm_mf_to mm_mf_322
            · exact (show x = 323 by omega) ▸ mm_mf_to mm_mf_323
          · rcases Nat.lt_or_ge x 325 with h325 | h325
            · exact (show x = 324 by omega) ▸ mm_mf_to mm_mf_324
            · rcases Nat.lt_or_ge x 326 with h326 | h326
              · exact (show x = 325 by omega) ▸ mm_mf_to mm_mf_325
              · exact (show x = 326 by omega) ▸ mm_mf_to mm_mf_326
        · rcases Nat.lt_or_ge x 330 with h330 | h330
          · rcases Nat.lt_or_ge x 328 with h328 | h328
            · exact (show x = 327 by omega) ▸ mm_mf_to mm_mf_327
            · rcases Nat.lt_or_ge x 329 with h329 | h329
              · exact (show x = 328 by omega) ▸ mm_mf_to mm_mf_328
              · exact (show x = 329 by omega) ▸ mm_mf_to mm_mf_329
          · rcases Nat.lt_or_ge x 331 with h331 | h331
            · exact (show x = 330 by omega) ▸ mm_mf_to mm_mf_330
            · rcases Nat.lt_or_ge x 332 with h332 | h332
              · exact (show x = 331 by omega) ▸ mm_mf_to mm_mf_331
              · exact (show x = 332 by omega) ▸ mm_mf_to mm_mf_332
    · rcases Nat.lt_or_ge x 344 with h344 | h344
      · rcases Nat.lt_or_ge x 338 with h338 | h338
        · rcases Nat.lt_or_ge x 335 with h335 | h335
          · rcases Nat.lt_or_ge x 334 with h334 | h334
            · exact (show x = 333 by omega) ▸ mm_mf_to mm_mf_333
            · exact (show x = 334 by omega) ▸ mm_mf_to mm_mf_334
          · rcases Nat.lt_or_ge x 336 with h336 | h336
            · exact (show x = 335 by omega) ▸ mm_mf_to mm_mf_335
            · rcases Nat.lt_or_ge x 337 with h337 | h337
              · exact (show x = 336 by omega) ▸ mm_mf_to mm_mf_336
              · exact (show x = 337 by omega) ▸ mm_mf_to mm_mf_337
        · rcases Nat.lt_or_ge x 341 with h341 | h341
          · rcases Nat.lt_or_ge x 339 with h339 | h339
            · exact (show x = 338 by omega) ▸ mm_mf_to mm_mf_338
            · rcases Nat.lt_or_ge x 340 with h340 | h340
              · exact (show x = 339 by omega) ▸ mm_mf_to mm_mf_339
              · exact (show x = 340 by omega) ▸ mm_mf2_340
          · rcases Nat.lt_or_ge x 342 with h342 | h342
            · exact (show x = 341 by omega) ▸ mm_mf_to mm_mf_341
            · rcases Nat.lt_or_ge x 343 with h343 | h343
              · exact (show x = 342 by omega) ▸ mm_mf_to mm_mf_342
              · exact (show x = 343 by omega) ▸ mm_mf_to mm_mf_343
      · rcases Nat.lt_or_ge x 349 with h349 | h349
        · rcases Nat.lt_or_ge x 346 with h346 | h346
          · rcases Nat.lt_or_ge x 345 with h345 | h345
            · exact (show x = 344 by omega) ▸ mm_mf_to mm_mf_344
            · exact (show x = 345 by omega) ▸ mm_mf_to mm_mf_345
          · rcases Nat.lt_or_ge x 347 with h347 | h347
            · exact (show x = 346 by omega) ▸ mm_mf_to mm_mf_346
            · rcases Nat.lt_or_ge x 348 with h348 | h348
              · exact (show x = 347 by omega) ▸ mm_mf_to mm_mf_347
              · exact (show x = 348 by omega) ▸ mm_mf_to mm_mf_348
        · rcases Nat.lt_or_ge x 352 with h352 | h352
          · rcases Nat.lt_or_ge x 350 with h350 | h350
            · exact (show x = 349 by omega) ▸ mm_mf_to mm_mf_349
            · rcases Nat.lt_or_ge x 351 with h351 | h351
              · exact (show x = 350 by omega) ▸ mm_mf_to mm_mf_350
              · exact (show x = 351 by omega) ▸ mm_mf_to mm_mf_351
          · rcases Nat.lt_or_ge x 353 with h353 | h353
            · exact (show x = 352 by omega) ▸ mm_mf_to mm_mf_352
            · rcases Nat.lt_or_ge x 354 with h354 | h354
              · exact (show x = 353 by omega) ▸ mm_mf_to mm_mf_353
              · exact (show x = 354 by omega) ▸ mm_mf_to mm_mf_354
theorem mm_mf_all {x : Nat} (h : x < 355) : mm_mf2 x := by
  rcases Nat.lt_or_ge x 90 with h1 | h1
  · exact mm_mfa_0 (Nat.zero_le _) h1
  rcases Nat.lt_or_ge x 180 with h2 | h2
  · exact mm_mfa_90 h1 h2
  rcases Nat.lt_or_ge x 270 with h3 | h3
  · exact mm_mfa_180 h2 h3
  · exact mm_mfa_270 h3 h
theorem mm_nth_ge {α : Type} (d : α) : ∀ (l : List α) (n : Nat), l.length ≤ n → mm_nth d n l = d
  | [], _, _ => by cases ‹Nat› <;> rfl
  | _ :: _, 0, h => absurd h (by simp)
  | _ :: l, n + 1, h => mm_nth_ge d l n (by simpa using h)
theorem mm_look_ge {x : Nat} (h : 355 ≤ x) : mm_look mm_tab x = ([], 0, []) := by
  unfold mm_look
  rcases Nat.lt_or_ge x 360 with h1 | h1
  · have e : Nat.div x 20 = 17 := by show x / 20 = 17; omega
    rw [e]
    refine mm_nth_ge _ _ _ ?_
    have : 15 ≤ Nat.mod x 20 := by show 15 ≤ x % 20; omega
    exact this
  · have e : 18 ≤ Nat.div x 20 := by show 18 ≤ x / 20; omega
    rw [mm_nth_ge [] mm_tab _ e]
    exact mm_nth_ge _ _ _ (Nat.zero_le _)
theorem mm_kw : mm_KW := ⟨mm_hw_g (p := 587) (by decide +kernel), mm_hw_g (p := 586) (by decide +kernel), mm_hw_g (p := 132) (by decide +kernel), mm_hw_g (p := 751) (by decide +kernel), mm_hw_g (p := 133) (by decide +kernel), mm_hw_g (p := 752) (by decide +kernel), mm_hw_g (p := 841) (by decide +kernel), mm_hw_g (p := 842) (by decide +kernel), mm_hw_g (p := 145) (by decide +kernel), mm_hw_g (p := 146) (by decide +kernel), mm_hw_g (p := 216) (by decide +kernel), mm_hw_g (p := 565) (by decide +kernel), mm_hw_g (p := 1763) (by decide +kernel), mm_hw_g (p := 1762) (by decide +kernel)⟩
section MM
variable {D : va_G} {tys : List (ClassId × FieldType)} {B : Nat} {old : Int → Nat} {L0 : Nat} {scr : Nat → Int32} {l : Launch}
theorem mm_all : ∀ (d x : Nat) (as : List mm_V) (w : mm_W) (h : mm_H) (r : mm_R), mm_P d x as w h = some r → mm_le w r.2.1 ∧ Jvm.Cond.code (mm_inf x).1 (mm_inf x).2.1 (mm_inf x).2.2.1 (mm_inf x).2.2.2 ∈ lw_g ∧ (mm_inf x).2.2.1 ≤ 61 ∧ mm_Met D tys B old L0 scr l d (mm_inf x).1 (mm_inf x).2.1 (mm_inf x).2.2.1 (mm_inf x).2.2.2 as w h r := by
  intro d
  induction d with
  | zero => intro x as w h r H; cases H
  | succ d ih =>
    intro x as w h r H
    have H : mm_run (mm_P d) (mm_look mm_tab x) as w h = some r := H
    rcases Nat.lt_or_ge x 355 with hx | hx
    · obtain ⟨pool, isI, hp, hI, hc, h0, hm, hy, hw, h61⟩ := mm_mf_all hx
      have hO1 : ∀ x as w h r, mm_P d x as w h = some r → mm_le w r.2.1 := fun x as w h r H => (ih x as w h r H).1
      refine ⟨mm_run_le hO1 H, hw, h61, ?_⟩
      refine mm_met2 mm_kw hy hp hI hc h0 (Nat.succ_le_succ (Nat.zero_le d)) hO1 ?_ (O := mm_P d) (code := (mm_look mm_tab x).1) (lt := (mm_look mm_tab x).2.2) ?_
      · intro mc ms x as w h r H
        obtain ⟨a1, a2, a3, a4⟩ := ih x as w h r H
        exact ⟨a1, a2, d, Nat.le_refl _, by show 24 + ((mm_inf x).2.2.1 + 11) + 96 * d ≤ 96 * (d + 1); omega, a4⟩
      · rw [← hm]
        exact H
    · rw [mm_look_ge hx] at H
      unfold mm_run at H
      rw [show ∀ b, mm_if b (mm_go (mm_P d) (mm_LP (mm_P d) [] [] 6) (mm_lt2 []) 1000000 none some (fun _ _ _ _ _ => none) [] 0 (mm_pad 0 (mm_loc as)) [] w h) none = (none : Option mm_R) from fun b => by cases b <;> rfl] at H
      cases H
end MM
end
section
/-! What holds at the law's entry. Printed by wip/whole/gen/part35.py. -/
def mm_tm (i : Nat) : Term := Term.string (mm_nth ("", 0, "") i mm_str).1 (mm_nth ("", 0, "") i mm_str).2.1
section MM
variable {args : Array Value} {s : State} {A : Nat → Prop}
set_option maxRecDepth 20000 in
theorem mm_strs (hs : ∀ c ∈ flatC (Jvm.Cond.and given_1 narrow_1), c.before args s = true) (hA : ∀ a : Nat, a < s.heap.size → ¬ A a) : ∃ adK adV : Nat → Nat, vk_S 12 mm_sl mm_sb adK adV A s s.heap ∧ ∀ i : Nat, i < 12 → (mm_tm i).eval args s none [] s = some (.ref (adK i)) := by
  refine vk_Sof (tm := mm_tm) (by decide +kernel) ?_ ?_ ?_ ?_ ?_ ?_ hA
  · intro i hi
    match i, hi with
    | 0, _ => exact hs _ (List.mem_of_getElem? (i := 35) (by decide +kernel))
    | 1, _ => exact hs _ (List.mem_of_getElem? (i := 53) (by decide +kernel))
    | 2, _ => exact hs _ (List.mem_of_getElem? (i := 60) (by decide +kernel))
    | 3, _ => exact hs _ (List.mem_of_getElem? (i := 69) (by decide +kernel))
    | 4, _ => exact hs _ (List.mem_of_getElem? (i := 79) (by decide +kernel))
    | 5, _ => exact hs _ (List.mem_of_getElem? (i := 142) (by decide +kernel))
    | 6, _ => exact hs _ (List.mem_of_getElem? (i := 211) (by decide +kernel))
    | 7, _ => exact hs _ (List.mem_of_getElem? (i := 239) (by decide +kernel))
    | 8, _ => exact hs _ (List.mem_of_getElem? (i := 254) (by decide +kernel))
    | 9, _ => exact hs _ (List.mem_of_getElem? (i := 297) (by decide +kernel))
    | 10, _ => exact hs _ (List.mem_of_getElem? (i := 312) (by decide +kernel))
    | 11, _ => exact hs _ (List.mem_of_getElem? (i := 338) (by decide +kernel))
    | n + 12, h => exact absurd h (by omega)
  · intro i hi
    match i, hi with
    | 0, _ => exact hs _ (List.mem_of_getElem? (i := 36) (by decide +kernel))
    | 1, _ => exact hs _ (List.mem_of_getElem? (i := 54) (by decide +kernel))
    | 2, _ => exact hs _ (List.mem_of_getElem? (i := 61) (by decide +kernel))
    | 3, _ => exact hs _ (List.mem_of_getElem? (i := 70) (by decide +kernel))
    | 4, _ => exact hs _ (List.mem_of_getElem? (i := 80) (by decide +kernel))
    | 5, _ => exact hs _ (List.mem_of_getElem? (i := 143) (by decide +kernel))
    | 6, _ => exact hs _ (List.mem_of_getElem? (i := 212) (by decide +kernel))
    | 7, _ => exact hs _ (List.mem_of_getElem? (i := 240) (by decide +kernel))
    | 8, _ => exact hs _ (List.mem_of_getElem? (i := 255) (by decide +kernel))
    | 9, _ => exact hs _ (List.mem_of_getElem? (i := 298) (by decide +kernel))
    | 10, _ => exact hs _ (List.mem_of_getElem? (i := 313) (by decide +kernel))
    | 11, _ => exact hs _ (List.mem_of_getElem? (i := 339) (by decide +kernel))
    | n + 12, h => exact absurd h (by omega)
  · intro i hi
    match i, hi with
    | 0, _ => exact hs _ (List.mem_of_getElem? (i := 37) (by decide +kernel))
    | 1, _ => exact hs _ (List.mem_of_getElem? (i := 55) (by decide +kernel))
    | 2, _ => exact hs _ (List.mem_of_getElem? (i := 62) (by decide +kernel))
    | 3, _ => exact hs _ (List.mem_of_getElem? (i := 71) (by decide +kernel))
    | 4, _ => exact hs _ (List.mem_of_getElem? (i := 81) (by decide +kernel))
    | 5, _ => exact hs _ (List.mem_of_getElem? (i := 144) (by decide +kernel))
    | 6, _ => exact hs _ (List.mem_of_getElem? (i := 213) (by decide +kernel))
    | 7, _ => exact hs _ (List.mem_of_getElem? (i := 241) (by decide +kernel))
    | 8, _ => exact hs _ (List.mem_of_getElem? (i := 256) (by decide +kernel))
    | 9, _ => exact hs _ (List.mem_of_getElem? (i := 299) (by decide +kernel))
    | 10, _ => exact hs _ (List.mem_of_getElem? (i := 314) (by decide +kernel))
    | 11, _ => exact hs _ (List.mem_of_getElem? (i := 340) (by decide +kernel))
    | n + 12, h => exact absurd h (by omega)
  · intro i hi
    match i, hi with
    | 0, _ => exact hs _ (List.mem_of_getElem? (i := 38) (by decide +kernel))
    | 1, _ => exact hs _ (List.mem_of_getElem? (i := 56) (by decide +kernel))
    | 2, _ => exact hs _ (List.mem_of_getElem? (i := 63) (by decide +kernel))
    | 3, _ => exact hs _ (List.mem_of_getElem? (i := 72) (by decide +kernel))
    | 4, _ => exact hs _ (List.mem_of_getElem? (i := 82) (by decide +kernel))
    | 5, _ => exact hs _ (List.mem_of_getElem? (i := 145) (by decide +kernel))
    | 6, _ => exact hs _ (List.mem_of_getElem? (i := 214) (by decide +kernel))
    | 7, _ => exact hs _ (List.mem_of_getElem? (i := 242) (by decide +kernel))
    | 8, _ => exact hs _ (List.mem_of_getElem? (i := 257) (by decide +kernel))
    | 9, _ => exact hs _ (List.mem_of_getElem? (i := 300) (by decide +kernel))
    | 10, _ => exact hs _ (List.mem_of_getElem? (i := 315) (by decide +kernel))
    | 11, _ => exact hs _ (List.mem_of_getElem? (i := 341) (by decide +kernel))
    | n + 12, h => exact absurd h (by omega)
  · intro i hi
    match i, hi with
    | 0, _ =>
      intro j hj
      have hj : j < 14 := hj
      match j, hj with
      | 0, _ => exact hs _ (List.mem_of_getElem? (i := 39) (by decide +kernel))
      | 1, _ => exact hs _ (List.mem_of_getElem? (i := 40) (by decide +kernel))
      | 2, _ => exact hs _ (List.mem_of_getElem? (i := 41) (by decide +kernel))
      | 3, _ => exact hs _ (List.mem_of_getElem? (i := 42) (by decide +kernel))
      | 4, _ => exact hs _ (List.mem_of_getElem? (i := 43) (by decide +kernel))
      | 5, _ => exact hs _ (List.mem_of_getElem? (i := 44) (by decide +kernel))
      | 6, _ => exact hs _ (List.mem_of_getElem? (i := 45) (by decide +kernel))
      | 7, _ => exact hs _ (List.mem_of_getElem? (i := 46) (by decide +kernel))
      | 8, _ => exact hs _ (List.mem_of_getElem? (i := 47) (by decide +kernel))
      | 9, _ => exact hs _ (List.mem_of_getElem? (i := 48) (by decide +kernel))
      | 10, _ => exact hs _ (List.mem_of_getElem? (i := 49) (by decide +kernel))
      | 11, _ => exact hs _ (List.mem_of_getElem? (i := 50) (by decide +kernel))
      | 12, _ => exact hs _ (List.mem_of_getElem? (i := 51) (by decide +kernel))
      | 13, _ => exact hs _ (List.mem_of_getElem? (i := 52) (by decide +kernel))
      | n + 14, h => exact absurd h (by omega)
    | 1, _ =>
      intro j hj
      have hj : j < 2 := hj
      match j, hj with
      | 0, _ => exact hs _ (List.mem_of_getElem? (i := 57) (by decide +kernel))
      | 1, _ => exact hs _ (List.mem_of_getElem? (i := 58) (by decide +kernel))
      | n + 2, h => exact absurd h (by omega)
    | 2, _ =>
      intro j hj
      have hj : j < 3 := hj
      match j, hj with
      | 0, _ => exact hs _ (List.mem_of_getElem? (i := 64) (by decide +kernel))
      | 1, _ => exact hs _ (List.mem_of_getElem? (i := 65) (by decide +kernel))
      | 2, _ => exact hs _ (List.mem_of_getElem? (i := 66) (by decide +kernel))
      | n + 3, h => exact absurd h (by omega)
    | 3, _ =>
      intro j hj
      have hj : j < 3 := hj
      match j, hj with
      | 0, _ => exact hs _ (List.mem_of_getElem? (i := 73) (by decide +kernel))
      | 1, _ => exact hs _ (List.mem_of_getElem? (i := 74) (by decide +kernel))
      | 2, _ => exact hs _ (List.mem_of_getElem? (i := 75) (by decide +kernel))
      | n + 3, h => exact absurd h (by omega)
    | 4, _ =>
      intro j hj
      have hj : j < 55 := hj
      match j, hj with
      | 0, _ => exact hs _ (List.mem_of_getElem? (i := 83) (by decide +kernel))
      | 1, _ => exact hs _ (List.mem_of_getElem? (i := 84) (by decide +kernel))
      | 2, _ => exact hs _ (List.mem_of_getElem? (i := 85) (by decide +kernel))
      | 3, _ => exact hs _ (List.mem_of_getElem? (i := 86) (by decide +kernel))
      | 4, _ => exact hs _ (List.mem_of_getElem? (i := 87) (by decide +kernel))
      | 5, _ => exact hs _ (List.mem_of_getElem? (i := 88) (by decide +kernel))
      | 6, _ => exact hs _ (List.mem_of_getElem? (i := 89) (by decide +kernel))
      | 7, _ => exact hs _ (List.mem_of_getElem? (i := 90) (by decide +kernel))
      | 8, _ => exact hs _ (List.mem_of_getElem? (i := 91) (by decide +kernel))
      | 9, _ => exact hs _ (List.mem_of_getElem? (i := 92) (by decide +kernel))
      | 10, _ => exact hs _ (List.mem_of_getElem? (i := 93) (by decide +kernel))
      | 11, _ => exact hs _ (List.mem_of_getElem? (i := 94) (by decide +kernel))
      | 12, _ => exact hs _ (List.mem_of_getElem? (i := 95) (by decide +kernel))
      | 13, _ => exact hs _ (List.mem_of_getElem? (i := 96) (by decide +kernel))
      | 14, _ => exact hs _ (List.mem_of_getElem? (i := 97) (by decide +kernel))
      | 15, _ => exact hs _ (List.mem_of_getElem? (i := 98) (by decide +kernel))
      | 16, _ => exact hs _ (List.mem_of_getElem? (i := 99) (by decide +kernel))
      | 17, _ => exact hs _ (List.mem_of_getElem? (i := 100) (by decide +kernel))
      | 18, _ => exact hs _ (List.mem_of_getElem? (i := 101) (by decide +kernel))
      | 19, _ => exact hs _ (List.mem_of_getElem? (i := 102) (by decide +kernel))
      | 20, _ => exact hs _ (List.mem_of_getElem? (i := 103) (by decide +kernel))
      | 21, _ => exact hs _ (List.mem_of_getElem? (i := 104) (by decide +kernel))
      | 22, _ => exact hs _ (List.mem_of_getElem? (i := 105) (by decide +kernel))
      | 23, _ => exact hs _ (List.mem_of_getElem? (i := 106) (by decide +kernel))
      | 24, _ => exact hs _ (List.mem_of_getElem? (i := 107) (by decide +kernel))
      | 25, _ => exact hs _ (List.mem_of_getElem? (i := 108) (by decide +kernel))
      | 26, _ => exact hs _ (List.mem_of_getElem? (i := 109) (by decide +kernel))
      | 27, _ => exact hs _ (List.mem_of_getElem? (i := 110) (by decide +kernel))
      | 28, _ => exact hs _ (List.mem_of_getElem? (i := 111) (by decide +kernel))
      | 29, _ => exact hs _ (List.mem_of_getElem? (i := 112) (by decide +kernel))
      | 30, _ => exact hs _ (List.mem_of_getElem? (i := 113) (by decide +kernel))
      | 31, _ => exact hs _ (List.mem_of_getElem? (i := 114) (by decide +kernel))
      | 32, _ => exact hs _ (List.mem_of_getElem? (i := 115) (by decide +kernel))
      | 33, _ => exact hs _ (List.mem_of_getElem? (i := 116) (by decide +kernel))
      | 34, _ => exact hs _ (List.mem_of_getElem? (i := 117) (by decide +kernel))
      | 35, _ => exact hs _ (List.mem_of_getElem? (i := 118) (by decide +kernel))
      | 36, _ => exact hs _ (List.mem_of_getElem? (i := 119) (by decide +kernel))
      | 37, _ => exact hs _ (List.mem_of_getElem? (i := 120) (by decide +kernel))
      | 38, _ => exact hs _ (List.mem_of_getElem? (i := 121) (by decide +kernel))
      | 39, _ => exact hs _ (List.mem_of_getElem? (i := 122) (by decide +kernel))
      | 40, _ => exact hs _ (List.mem_of_getElem? (i := 123) (by decide +kernel))
      | 41, _ => exact hs _ (List.mem_of_getElem? (i := 124) (by decide +kernel))
      | 42, _ => exact hs _ (List.mem_of_getElem? (i := 125) (by decide +kernel))
      | 43, _ => exact hs _ (List.mem_of_getElem? (i := 126) (by decide +kernel))
      | 44, _ => exact hs _ (List.mem_of_getElem? (i := 127) (by decide +kernel))
      | 45, _ => exact hs _ (List.mem_of_getElem? (i := 128) (by decide +kernel))
      | 46, _ => exact hs _ (List.mem_of_getElem? (i := 129) (by decide +kernel))
      | 47, _ => exact hs _ (List.mem_of_getElem? (i := 130) (by decide +kernel))
      | 48, _ => exact hs _ (List.mem_of_getElem? (i := 131) (by decide +kernel))
      | 49, _ => exact hs _ (List.mem_of_getElem? (i := 132) (by decide +kernel))
      | 50, _ => exact hs _ (List.mem_of_getElem? (i := 133) (by decide +kernel))
      | 51, _ => exact hs _ (List.mem_of_getElem? (i := 134) (by decide +kernel))
      | 52, _ => exact hs _ (List.mem_of_getElem? (i := 135) (by decide +kernel))
      | 53, _ => exact hs _ (List.mem_of_getElem? (i := 136) (by decide +kernel))
      | 54, _ => exact hs _ (List.mem_of_getElem? (i := 137) (by decide +kernel))
      | n + 55, h => exact absurd h (by omega)
    | 5, _ =>
      intro j hj
      have hj : j < 60 := hj
      match j, hj with
      | 0, _ => exact hs _ (List.mem_of_getElem? (i := 146) (by decide +kernel))
      | 1, _ => exact hs _ (List.mem_of_getElem? (i := 147) (by decide +kernel))
      | 2, _ => exact hs _ (List.mem_of_getElem? (i := 148) (by decide +kernel))
      | 3, _ => exact hs _ (List.mem_of_getElem? (i := 149) (by decide +kernel))
      | 4, _ => exact hs _ (List.mem_of_getElem? (i := 150) (by decide +kernel))
      | 5, _ => exact hs _ (List.mem_of_getElem? (i := 151) (by decide +kernel))
      | 6, _ => exact hs _ (List.mem_of_getElem? (i := 152) (by decide +kernel))
      | 7, _ => exact hs _ (List.mem_of_getElem? (i := 153) (by decide +kernel))
      | 8, _ => exact hs _ (List.mem_of_getElem? (i := 154) (by decide +kernel))
      | 9, _ => exact hs _ (List.mem_of_getElem? (i := 155) (by decide +kernel))
      | 10, _ => exact hs _ (List.mem_of_getElem? (i := 156) (by decide +kernel))
      | 11, _ => exact hs _ (List.mem_of_getElem? (i := 157) (by decide +kernel))
      | 12, _ => exact hs _ (List.mem_of_getElem? (i := 158) (by decide +kernel))
      | 13, _ => exact hs _ (List.mem_of_getElem? (i := 159) (by decide +kernel))
      | 14, _ => exact hs _ (List.mem_of_getElem? (i := 160) (by decide +kernel))
      | 15, _ => exact hs _ (List.mem_of_getElem? (i := 161) (by decide +kernel))
      | 16, _ => exact hs _ (List.mem_of_getElem? (i := 162) (by decide +kernel))
      | 17, _ => exact hs _ (List.mem_of_getElem? (i := 163) (by decide +kernel))
      | 18, _ => exact hs _ (List.mem_of_getElem? (i := 164) (by decide +kernel))
      | 19, _ => exact hs _ (List.mem_of_getElem? (i := 165) (by decide +kernel))
      | 20, _ => exact hs _ (List.mem_of_getElem? (i := 166) (by decide +kernel))
      | 21, _ => exact hs _ (List.mem_of_getElem? (i := 167) (by decide +kernel))
      | 22, _ => exact hs _ (List.mem_of_getElem? (i := 168) (by decide +kernel))
      | 23, _ => exact hs _ (List.mem_of_getElem? (i := 169) (by decide +kernel))
      | 24, _ => exact hs _ (List.mem_of_getElem? (i := 170) (by decide +kernel))
      | 25, _ => exact hs _ (List.mem_of_getElem? (i := 171) (by decide +kernel))
      | 26, _ => exact hs _ (List.mem_of_getElem? (i := 172) (by decide +kernel))
      | 27, _ => exact hs _ (List.mem_of_getElem? (i := 173) (by decide +kernel))
      | 28, _ => exact hs _ (List.mem_of_getElem? (i := 174) (by decide +kernel))
      | 29, _ => exact hs _ (List.mem_of_getElem? (i := 175) (by decide +kernel))
      | 30, _ => exact hs _ (List.mem_of_getElem? (i := 176) (by decide +kernel))
      | 31, _ => exact hs _ (List.mem_of_getElem? (i := 177) (by decide +kernel))
      | 32, _ => exact hs _ (List.mem_of_getElem? (i := 178) (by decide +kernel))
      | 33, _ => exact hs _ (List.mem_of_getElem? (i := 179) (by decide +kernel))
      | 34, _ => exact hs _ (List.mem_of_getElem? (i := 180) (by decide +kernel))
      | 35, _ => exact hs _ (List.mem_of_getElem? (i := 181) (by decide +kernel))
      | 36, _ => exact hs _ (List.mem_of_getElem? (i := 182) (by decide +kernel))
      | 37, _ => exact hs _ (List.mem_of_getElem? (i := 183) (by decide +kernel))
      | 38, _ => exact hs _ (List.mem_of_getElem? (i := 184) (by decide +kernel))
      | 39, _ => exact hs _ (List.mem_of_getElem? (i := 185) (by decide +kernel))
      | 40, _ => exact hs _ (List.mem_of_getElem? (i := 186) (by decide +kernel))
      | 41, _ => exact hs _ (List.mem_of_getElem? (i := 187) (by decide +kernel))
      | 42, _ => exact hs _ (List.mem_of_getElem? (i := 188) (by decide +kernel))
      | 43, _ => exact hs _ (List.mem_of_getElem? (i := 189) (by decide +kernel))
      | 44, _ => exact hs _ (List.mem_of_getElem? (i := 190) (by decide +kernel))
      | 45, _ => exact hs _ (List.mem_of_getElem? (i := 191) (by decide +kernel))
      | 46, _ => exact hs _ (List.mem_of_getElem? (i := 192) (by decide +kernel))
      | 47, _ => exact hs _ (List.mem_of_getElem? (i := 193) (by decide +kernel))
      | 48, _ => exact hs _ (List.mem_of_getElem? (i := 194) (by decide +kernel))
      | 49, _ => exact hs _ (List.mem_of_getElem? (i := 195) (by decide +kernel))
      | 50, _ => exact hs _ (List.mem_of_getElem? (i := 196) (by decide +kernel))
      | 51, _ => exact hs _ (List.mem_of_getElem? (i := 197) (by decide +kernel))
      | 52, _ => exact hs _ (List.mem_of_getElem? (i := 198) (by decide +kernel))
      | 53, _ => exact hs _ (List.mem_of_getElem? (i := 199) (by decide +kernel))
      | 54, _ => exact hs _ (List.mem_of_getElem? (i := 200) (by decide +kernel))
      | 55, _ => exact hs _ (List.mem_of_getElem? (i := 201) (by decide +kernel))
      | 56, _ => exact hs _ (List.mem_of_getElem? (i := 202) (by decide +kernel))
      | 57, _ => exact hs _ (List.mem_of_getElem? (i := 203) (by decide +kernel))
      | 58, _ => exact hs _ (List.mem_of_getElem? (i := 204) (by decide +kernel))
      | 59, _ => exact hs _ (List.mem_of_getElem? (i := 205) (by decide +kernel))
      | n + 60, h => exact absurd h (by omega)
    | 6, _ =>
      intro j hj
      have hj : j < 18 := hj
      match j, hj with
      | 0, _ => exact hs _ (List.mem_of_getElem? (i := 215) (by decide +kernel))
      | 1, _ => exact hs _ (List.mem_of_getElem? (i := 216) (by decide +kernel))
      | 2, _ => exact hs _ (List.mem_of_getElem? (i := 217) (by decide +kernel))
      | 3, _ => exact hs _ (List.mem_of_getElem? (i := 218) (by decide +kernel))
      | 4, _ => exact hs _ (List.mem_of_getElem? (i := 219) (by decide +kernel))
      | 5, _ => exact hs _ (List.mem_of_getElem? (i := 220) (by decide +kernel))
      | 6, _ => exact hs _ (List.mem_of_getElem? (i := 221) (by decide +kernel))
      | 7, _ => exact hs _ (List.mem_of_getElem? (i := 222) (by decide +kernel))
      | 8, _ => exact hs _ (List.mem_of_getElem? (i := 223) (by decide +kernel))
      | 9, _ => exact hs _ (List.mem_of_getElem? (i := 224) (by decide +kernel))
      | 10, _ => exact hs _ (List.mem_of_getElem? (i := 225) (by decide +kernel))
      | 11, _ => exact hs _ (List.mem_of_getElem? (i := 226) (by decide +kernel))
      | 12, _ => exact hs _ (List.mem_of_getElem? (i := 227) (by decide +kernel))
      | 13, _ => exact hs _ (List.mem_of_getElem? (i := 228) (by decide +kernel))
      | 14, _ => exact hs _ (List.mem_of_getElem? (i := 229) (by decide +kernel))
      | 15, _ => exact hs _ (List.mem_of_getElem? (i := 230) (by decide +kernel))
      | 16, _ => exact hs _ (List.mem_of_getElem? (i := 231) (by decide +kernel))
      | 17, _ => exact hs _ (List.mem_of_getElem? (i := 232) (by decide +kernel))
      | n + 18, h => exact absurd h (by omega)
    | 7, _ =>
      intro j hj
      have hj : j < 4 := hj
      match j, hj with
      | 0, _ => exact hs _ (List.mem_of_getElem? (i := 243) (by decide +kernel))
      | 1, _ => exact hs _ (List.mem_of_getElem? (i := 244) (by decide +kernel))
      | 2, _ => exact hs _ (List.mem_of_getElem? (i := 245) (by decide +kernel))
      | 3, _ => exact hs _ (List.mem_of_getElem? (i := 246) (by decide +kernel))
      | n + 4, h => exact absurd h (by omega)
    | 8, _ =>
      intro j hj
      have hj : j < 31 := hj
      match j, hj with
      | 0, _ => exact hs _ (List.mem_of_getElem? (i := 258) (by decide +kernel))
      | 1, _ => exact hs _ (List.mem_of_getElem? (i := 259) (by decide +kernel))
      | 2, _ => exact hs _ (List.mem_of_getElem? (i := 260) (by decide +kernel))
      | 3, _ => exact hs _ (List.mem_of_getElem? (i := 261) (by decide +kernel))
      | 4, _ => exact hs _ (List.mem_of_getElem? (i := 262) (by decide +kernel))
      | 5, _ => exact hs _ (List.mem_of_getElem? (i := 263) (by decide +kernel))
      | 6, _ => exact hs _ (List.mem_of_getElem? (i := 264) (by decide +kernel))
      | 7, _ => exact hs _ (List.mem_of_getElem? (i := 265) (by decide +kernel))
      | 8, _ => exact hs _ (List.mem_of_getElem? (i := 266) (by decide +kernel))
      | 9, _ => exact hs _ (List.mem_of_getElem? (i := 267) (by decide +kernel))
      | 10, _ => exact hs _ (List.mem_of_getElem? (i := 268) (by decide +kernel))
      | 11, _ => exact hs _ (List.mem_of_getElem? (i := 269) (by decide +kernel))
      | 12, _ => exact hs _ (List.mem_of_getElem? (i := 270) (by decide +kernel))
      | 13, _ => exact hs _ (List.mem_of_getElem? (i := 271) (by decide +kernel))
      | 14, _ => exact hs _ (List.mem_of_getElem? (i := 272) (by decide +kernel))
      | 15, _ => exact hs _ (List.mem_of_getElem? (i := 273) (by decide +kernel))
      | 16, _ => exact hs _ (List.mem_of_getElem? (i := 274) (by decide +kernel))
      | 17, _ => exact hs _ (List.mem_of_getElem? (i := 275) (by decide +kernel))
      | 18, _ => exact hs _ (List.mem_of_getElem? (i := 276) (by decide +kernel))
      | 19, _ => exact hs _ (List.mem_of_getElem? (i := 277) (by decide +kernel))
      | 20, _ => exact hs _ (List.mem_of_getElem? (i := 278) (by decide +kernel))
      | 21, _ => exact hs _ (List.mem_of_getElem? (i := 279) (by decide +kernel))
      | 22, _ => exact hs _ (List.mem_of_getElem? (i := 280) (by decide +kernel))
      | 23, _ => exact hs _ (List.mem_of_getElem? (i := 281) (by decide +kernel))
      | 24, _ => exact hs _ (List.mem_of_getElem? (i := 282) (by decide +kernel))
      | 25, _ => exact hs _ (List.mem_of_getElem? (i := 283) (by decide +kernel))
      | 26, _ => exact hs _ (List.mem_of_getElem? (i := 284) (by decide +kernel))
      | 27, _ => exact hs _ (List.mem_of_getElem? (i := 285) (by decide +kernel))
      | 28, _ => exact hs _ (List.mem_of_getElem? (i := 286) (by decide +kernel))
      | 29, _ => exact hs _ (List.mem_of_getElem? (i := 287) (by decide +kernel))
      | 30, _ => exact hs _ (List.mem_of_getElem? (i := 288) (by decide +kernel))
      | n + 31, h => exact absurd h (by omega)
    | 9, _ =>
      intro j hj
      have hj : j < 2 := hj
      match j, hj with
      | 0, _ => exact hs _ (List.mem_of_getElem? (i := 301) (by decide +kernel))
      | 1, _ => exact hs _ (List.mem_of_getElem? (i := 302) (by decide +kernel))
      | n + 2, h => exact absurd h (by omega)
    | 10, _ =>
      intro j hj
      have hj : j < 12 := hj
      match j, hj with
      | 0, _ => exact hs _ (List.mem_of_getElem? (i := 316) (by decide +kernel))
      | 1, _ => exact hs _ (List.mem_of_getElem? (i := 317) (by decide +kernel))
      | 2, _ => exact hs _ (List.mem_of_getElem? (i := 318) (by decide +kernel))
      | 3, _ => exact hs _ (List.mem_of_getElem? (i := 319) (by decide +kernel))
      | 4, _ => exact hs _ (List.mem_of_getElem? (i := 320) (by decide +kernel))
      | 5, _ => exact hs _ (List.mem_of_getElem? (i := 321) (by decide +kernel))
      | 6, _ => exact hs _ (List.mem_of_getElem? (i := 322) (by decide +kernel))
      | 7, _ => exact hs _ (List.mem_of_getElem? (i := 323) (by decide +kernel))
      | 8, _ => exact hs _ (List.mem_of_getElem? (i := 324) (by decide +kernel))
      | 9, _ => exact hs _ (List.mem_of_getElem? (i := 325) (by decide +kernel))
      | 10, _ => exact hs _ (List.mem_of_getElem? (i := 326) (by decide +kernel))
      | 11, _ => exact hs _ (List.mem_of_getElem? (i := 327) (by decide +kernel))
      | n + 12, h => exact absurd h (by omega)
    | 11, _ =>
      intro j hj
      have hj : j < 2 := hj
      match j, hj with
      | 0, _ => exact hs _ (List.mem_of_getElem? (i := 342) (by decide +kernel))
      | 1, _ => exact hs _ (List.mem_of_getElem? (i := 343) (by decide +kernel))
      | n + 2, h => exact absurd h (by omega)
    | n + 12, h => exact absurd h (by omega)
  · intro i j hi hj hij
    match i, hi, hij with
    | 0, _, hij =>
      match j, hj, hij with
      | 0, _, h => exact absurd rfl h
      | 1, _, _ => exact Or.inl (hs _ (List.mem_of_getElem? (i := 59) (by decide +kernel)))
      | 2, _, _ => exact Or.inl (hs _ (List.mem_of_getElem? (i := 67) (by decide +kernel)))
      | 3, _, _ => exact Or.inl (hs _ (List.mem_of_getElem? (i := 76) (by decide +kernel)))
      | 4, _, _ => exact Or.inl (hs _ (List.mem_of_getElem? (i := 138) (by decide +kernel)))
      | 5, _, _ => exact Or.inl (hs _ (List.mem_of_getElem? (i := 206) (by decide +kernel)))
      | 6, _, _ => exact Or.inl (hs _ (List.mem_of_getElem? (i := 233) (by decide +kernel)))
      | 7, _, _ => exact Or.inl (hs _ (List.mem_of_getElem? (i := 247) (by decide +kernel)))
      | 8, _, _ => exact Or.inl (hs _ (List.mem_of_getElem? (i := 289) (by decide +kernel)))
      | 9, _, _ => exact Or.inl (hs _ (List.mem_of_getElem? (i := 303) (by decide +kernel)))
      | 10, _, _ => exact Or.inl (hs _ (List.mem_of_getElem? (i := 328) (by decide +kernel)))
      | 11, _, _ => exact Or.inl (hs _ (List.mem_of_getElem? (i := 344) (by decide +kernel)))
      | n + 12, h, _ => exact absurd h (by omega)
    | 1, _, hij =>
      match j, hj, hij with
      | 0, _, _ => exact Or.inr (hs _ (List.mem_of_getElem? (i := 59) (by decide +kernel)))
      | 1, _, h => exact absurd rfl h
      | 2, _, _ => exact Or.inl (hs _ (List.mem_of_getElem? (i := 68) (by decide +kernel)))
      | 3, _, _ => exact Or.inl (hs _ (List.mem_of_getElem? (i := 77) (by decide +kernel)))
      | 4, _, _ => exact Or.inl (hs _ (List.mem_of_getElem? (i := 139) (by decide +kernel)))
      | 5, _, _ => exact Or.inl (hs _ (List.mem_of_getElem? (i := 207) (by decide +kernel)))
      | 6, _, _ => exact Or.inl (hs _ (List.mem_of_getElem? (i := 234) (by decide +kernel)))
      | 7, _, _ => exact Or.inl (hs _ (List.mem_of_getElem? (i := 248) (by decide +kernel)))
      | 8, _, _ => exact Or.inl (hs _ (List.mem_of_getElem? (i := 290) (by decide +kernel)))
      | 9, _, _ => exact Or.inl (hs _ (List.mem_of_getElem? (i := 304) (by decide +kernel)))
      | 10, _, _ => exact Or.inl (hs _ (List.mem_of_getElem? (i := 329) (by decide +kernel)))
      | 11, _, _ => exact Or.inl (hs _ (List.mem_of_getElem? (i := 345) (by decide +kernel)))
      | n + 12, h, _ => exact absurd h (by omega)
    | 2, _, hij =>
      match j, hj, hij with
      | 0, _, _ => exact Or.inr (hs _ (List.mem_of_getElem? (i := 67) (by decide +kernel)))
      | 1, _, _ => exact Or.inr (hs _ (List.mem_of_getElem? (i := 68) (by decide +kernel)))
      | 2, _, h => exact absurd rfl h
      | 3, _, _ => exact Or.inl (hs _ (List.mem_of_getElem? (i := 78) (by decide +kernel)))
      | 4, _, _ => exact Or.inl (hs _ (List.mem_of_getElem? (i := 140) (by decide +kernel)))
      | 5, _, _ => exact Or.inl (hs _ (List.mem_of_getElem? (i := 208) (by decide +kernel)))
      | 6, _, _ => exact Or.inl (hs _ (List.mem_of_getElem? (i := 235) (by decide +kernel)))
      | 7, _, _ => exact Or.inl (hs _ (List.mem_of_getElem? (i := 249) (by decide +kernel)))
      | 8, _, _ => exact Or.inl (hs _ (List.mem_of_getElem? (i := 291) (by decide +kernel)))
      | 9, _, _ => exact Or.inl (hs _ (List.mem_of_getElem? (i := 305) (by decide +kernel)))
      | 10, _, _ => exact Or.inl (hs _ (List.mem_of_getElem? (i := 330) (by decide +kernel)))
      | 11, _, _ => exact Or.inl (hs _ (List.mem_of_getElem? (i := 346) (by decide +kernel)))
      | n + 12, h, _ => exact absurd h (by omega)
    | 3, _, hij =>
      match j, hj, hij with
      | 0, _, _ => exact Or.inr (hs _ (List.mem_of_getElem? (i := 76) (by decide +kernel)))
      | 1, _, _ => exact Or.inr (hs _ (List.mem_of_getElem? (i := 77) (by decide +kernel)))
      | 2, _, _ => exact Or.inr (hs _ (List.mem_of_getElem? (i := 78) (by decide +kernel)))
      | 3, _, h => exact absurd rfl h
      | 4, _, _ => exact Or.inl (hs _ (List.mem_of_getElem? (i := 141) (by decide +kernel)))
      | 5, _, _ => exact Or.inl (hs _ (List.mem_of_getElem? (i := 209) (by decide +kernel)))
      | 6, _, _ => exact Or.inl (hs _ (List.mem_of_getElem? (i := 236) (by decide +kernel)))
      | 7, _, _ => exact Or.inl (hs _ (List.mem_of_getElem? (i := 250) (by decide +kernel)))
      | 8, _, _ => exact Or.inl (hs _ (List.mem_of_getElem? (i := 292) (by decide +kernel)))
      | 9, _, _ => exact Or.inl (hs _ (List.mem_of_getElem? (i := 306) (by decide +kernel)))
      | 10, _, _ => exact Or.inl (hs _ (List.mem_of_getElem? (i := 331) (by decide +kernel)))
      | 11, _, _ => exact Or.inl (hs _ (List.mem_of_getElem? (i := 347) (by decide +kernel)))
      | n + 12, h, _ => exact absurd h (by omega)
    | 4, _, hij =>
      match j, hj, hij with
      | 0, _, _ => exact Or.inr (hs _ (List.mem_of_getElem? (i := 138) (by decide +kernel)))
      | 1, _, _ => exact Or.inr (hs _ (List.mem_of_getElem? (i := 139) (by decide +kernel)))
      | 2, _, _ => exact Or.inr (hs _ (List.mem_of_getElem? (i := 140) (by decide +kernel)))
      | 3, _, _ => exact Or.inr (hs _ (List.mem_of_getElem? (i := 141) (by decide +kernel)))
      | 4, _, h => exact absurd rfl h
      | 5, _, _ => exact Or.inl (hs _ (List.mem_of_getElem? (i := 210) (by decide +kernel)))
      | 6, _, _ => exact Or.inl (hs _ (List.mem_of_getElem? (i := 237) (by decide +kernel)))
      | 7, _, _ => exact Or.inl (hs _ (List.mem_of_getElem? (i := 251) (by decide +kernel)))
      | 8, _, _ => exact Or.inl (hs _ (List.mem_of_getElem? (i := 293) (by decide +kernel)))
      | 9, _, _ => exact Or.inl (hs _ (List.mem_of_getElem? (i := 307) (by decide +kernel)))
      | 10, _, _ => exact Or.inl (hs _ (List.mem_of_getElem? (i := 332) (by decide +kernel)))
      | 11, _, _ => exact Or.inl (hs _ (List.mem_of_getElem? (i := 348) (by decide +kernel)))
      | n + 12, h, _ => exact absurd h (by omega)
    | 5, _, hij =>
      match j, hj, hij with
      | 0, _, _ => exact Or.inr (hs _ (List.mem_of_getElem? (i := 206) (by decide +kernel)))
      | 1, _, _ => exact Or.inr (hs _ (List.mem_of_getElem? (i := 207) (by decide +kernel)))
      | 2, _, _ => exact Or.inr (hs _ (List.mem_of_getElem? (i := 208) (by decide +kernel)))
      | 3, _, _ => exact Or.inr (hs _ (List.mem_of_getElem? (i := 209) (by decide +kernel)))
      | 4, _, _ => exact Or.inr (hs _ (List.mem_of_getElem? (i := 210) (by decide +kernel)))
      | 5, _, h => exact absurd rfl h
      | 6, _, _ => exact Or.inl (hs _ (List.mem_of_getElem? (i := 238) (by decide +kernel)))
      | 7, _, _ => exact Or.inl (hs _ (List.mem_of_getElem? (i := 252) (by decide +kernel)))
      | 8, _, _ => exact Or.inl (hs _ (List.mem_of_getElem? (i := 294) (by decide +kernel)))
      | 9, _, _ => exact Or.inl (hs _ (List.mem_of_getElem? (i := 308) (by decide +kernel)))
      | 10, _, _ => exact Or.inl (hs _ (List.mem_of_getElem? (i := 333) (by decide +kernel)))
      | 11, _, _ => exact Or.inl (hs _ (List.mem_of_getElem? (i := 349) (by decide +kernel)))
      | n + 12, h, _ => exact absurd h (by omega)
    | 6, _, hij =>
      match j, hj, hij with
      | 0, _, _ => exact Or.inr (hs _ (List.mem_of_getElem? (i := 233) (by decide +kernel)))
      | 1, _, _ => exact Or.inr (hs _ (List.mem_of_getElem? (i := 234) (by decide +kernel)))
      | 2, _, _ => exact Or.inr (hs _ (List.mem_of_getElem? (i := 235) (by decide +kernel)))
      | 3, _, _ => exact Or.inr (hs _ (List.mem_of_getElem? (i := 236) (by decide +kernel)))
      | 4, _, _ => exact Or.inr (hs _ (List.mem_of_getElem? (i := 237) (by decide +kernel)))
      | 5, _, _ => exact Or.inr (hs _ (List.mem_of_getElem? (i := 238) (by decide +kernel)))
      | 6, _, h => exact absurd rfl h
      | 7, _, _ => exact Or.inl (hs _ (List.mem_of_getElem? (i := 253) (by decide +kernel)))
      | 8, _, _ => exact Or.inl (hs _ (List.mem_of_getElem? (i := 295) (by decide +kernel)))
      | 9, _, _ => exact Or.inl (hs _ (List.mem_of_getElem? (i := 309) (by decide +kernel)))
      | 10, _, _ => exact Or.inl (hs _ (List.mem_of_getElem? (i := 334) (by decide +kernel)))
      | 11, _, _ => exact Or.inl (hs _ (List.mem_of_getElem? (i := 350) (by decide +kernel)))
      | n + 12, h, _ => exact absurd h (by omega)
    | 7, _, hij =>
      match j, hj, hij with
      | 0, _, _ => exact Or.inr (hs _ (List.mem_of_getElem? (i := 247) (by decide +kernel)))
      | 1, _, _ => exact Or.inr (hs _ (List.mem_of_getElem? (i := 248) (by decide +kernel)))
      | 2, _, _ => exact Or.inr (hs _ (List.mem_of_getElem? (i := 249) (by decide +kernel)))
      | 3, _, _ => exact Or.inr (hs _ (List.mem_of_getElem? (i := 250) (by decide +kernel)))
      | 4, _, _ => exact Or.inr (hs _ (List.mem_of_getElem? (i := 251) (by decide +kernel)))
      | 5, _, _ => exact Or.inr (hs _ (List.mem_of_getElem? (i := 252) (by decide +kernel)))
      | 6, _, _ => exact Or.inr (hs _ (List.mem_of_getElem? (i := 253) (by decide +kernel)))
      | 7, _, h => exact absurd rfl h
      | 8, _, _ => exact Or.inl (hs _ (List.mem_of_getElem? (i := 296) (by decide +kernel)))
      | 9, _, _ => exact Or.inl (hs _ (List.mem_of_getElem? (i := 310) (by decide +kernel)))
      | 10, _, _ => exact Or.inl (hs _ (List.mem_of_getElem? (i := 335) (by decide +kernel)))
      | 11, _, _ => exact Or.inl (hs _ (List.mem_of_getElem? (i := 351) (by decide +kernel)))
      | n + 12, h, _ => exact absurd h (by omega)
    | 8, _, hij =>
      match j, hj, hij with
      | 0, _, _ => exact Or.inr (hs _ (List.mem_of_getElem? (i := 289) (by decide +kernel)))
      | 1, _, _ => exact Or.inr (hs _ (List.mem_of_getElem? (i := 290) (by decide +kernel)))
      | 2, _, _ => exact Or.inr (hs _ (List.mem_of_getElem? (i := 291) (by decide +kernel)))
      | 3, _, _ => exact Or.inr (hs _ (List.mem_of_getElem? (i := 292) (by decide +kernel)))
      | 4, _, _ => exact Or.inr (hs _ (List.mem_of_getElem? (i := 293) (by decide +kernel)))
      | 5, _, _ => exact Or.inr (hs _ (List.mem_of_getElem? (i := 294) (by decide +kernel)))
      | 6, _, _ => exact Or.inr (hs _ (List.mem_of_getElem? (i := 295) (by decide +kernel)))
      | 7, _, _ => exact Or.inr (hs _ (List.mem_of_getElem? (i := 296) (by decide +kernel)))
      | 8, _, h => exact absurd rfl h
      | 9, _, _ => exact Or.inl (hs _ (List.mem_of_getElem? (i := 311) (by decide +kernel)))
      | 10, _, _ => exact Or.inl (hs _ (List.mem_of_getElem? (i := 336) (by decide +kernel)))
      | 11, _, _ => exact Or.inl (hs _ (List.mem_of_getElem? (i := 352) (by decide +kernel)))
      | n + 12, h, _ => exact absurd h (by omega)
    | 9, _, hij =>
      match j, hj, hij with
      | 0, _, _ => exact Or.inr (hs _ (List.mem_of_getElem? (i := 303) (by decide +kernel)))
      | 1, _, _ => exact Or.inr (hs _ (List.mem_of_getElem? (i := 304) (by decide +kernel)))
      | 2, _, _ => exact Or.inr (hs _ (List.mem_of_getElem? (i := 305) (by decide +kernel)))
      | 3, _, _ => exact Or.inr (hs _ (List.mem_of_getElem? (i := 306) (by decide +kernel)))
      | 4, _, _ => exact Or.inr (hs _ (List.mem_of_getElem? (i := 307) (by decide +kernel)))
      | 5, _, _ => exact Or.inr (hs _ (List.mem_of_getElem? (i := 308) (by decide +kernel)))
      | 6, _, _ => exact Or.inr (hs _ (List.mem_of_getElem? (i := 309) (by decide +kernel)))
      | 7, _, _ => exact Or.inr (hs _ (List.mem_of_getElem? (i := 310) (by decide +kernel)))
      | 8, _, _ => exact Or.inr (hs _ (List.mem_of_getElem? (i := 311) (by decide +kernel)))
      | 9, _, h => exact absurd rfl h
      | 10, _, _ => exact Or.inl (hs _ (List.mem_of_getElem? (i := 337) (by decide +kernel)))
      | 11, _, _ => exact Or.inl (hs _ (List.mem_of_getElem? (i := 353) (by decide +kernel)))
      | n + 12, h, _ => exact absurd h (by omega)
    | 10, _, hij =>
      match j, hj, hij with
      | 0, _, _ => exact Or.inr (hs _ (List.mem_of_getElem? (i := 328) (by decide +kernel)))
      | 1, _, _ => exact Or.inr (hs _ (List.mem_of_getElem? (i := 329) (by decide +kernel)))
      | 2, _, _ => exact Or.inr (hs _ (List.mem_of_getElem? (i := 330) (by decide +kernel)))
      | 3, _, _ => exact Or.inr (hs _ (List.mem_of_getElem? (i := 331) (by decide +kernel)))
      | 4, _, _ => exact Or.inr (hs _ (List.mem_of_getElem? (i := 332) (by decide +kernel)))
      | 5, _, _ => exact Or.inr (hs _ (List.mem_of_getElem? (i := 333) (by decide +kernel)))
      | 6, _, _ => exact Or.inr (hs _ (List.mem_of_getElem? (i := 334) (by decide +kernel)))
      | 7, _, _ => exact Or.inr (hs _ (List.mem_of_getElem? (i := 335) (by decide +kernel)))
      | 8, _, _ => exact Or.inr (hs _ (List.mem_of_getElem? (i := 336) (by decide +kernel)))
      | 9, _, _ => exact Or.inr (hs _ (List.mem_of_getElem? (i := 337) (by decide +kernel)))
      | 10, _, h => exact absurd rfl h
      | 11, _, _ => exact Or.inl (hs _ (List.mem_of_getElem? (i := 354) (by decide +kernel)))
      | n + 12, h, _ => exact absurd h (by omega)
    | 11, _, hij =>
      match j, hj, hij with
      | 0, _, _ => exact Or.inr (hs _ (List.mem_of_getElem? (i := 344) (by decide +kernel)))
      | 1, _, _ => exact Or.inr (hs _ (List.mem_of_getElem? (i := 345) (by decide +kernel)))
      | 2, _, _ => exact Or.inr (hs _ (List.mem_of_getElem? (i := 346) (by decide +kernel)))
      | 3, _, _ => exact Or.inr (hs _ (List.mem_of_getElem? (i := 347) (by decide +kernel)))
      | 4, _, _ => exact Or.inr (hs _ (List.mem_of_getElem? (i := 348) (by decide +kernel)))
      | 5, _, _ => exact Or.inr (hs _ (List.mem_of_getElem? (i := 349) (by decide +kernel)))
      | 6, _, _ => exact Or.inr (hs _ (List.mem_of_getElem? (i := 350) (by decide +kernel)))
      | 7, _, _ => exact Or.inr (hs _ (List.mem_of_getElem? (i := 351) (by decide +kernel)))
      | 8, _, _ => exact Or.inr (hs _ (List.mem_of_getElem? (i := 352) (by decide +kernel)))
      | 9, _, _ => exact Or.inr (hs _ (List.mem_of_getElem? (i := 353) (by decide +kernel)))
      | 10, _, _ => exact Or.inr (hs _ (List.mem_of_getElem? (i := 354) (by decide +kernel)))
      | 11, _, h => exact absurd rfl h
      | n + 12, h, _ => exact absurd h (by omega)
    | n + 12, h, _ => exact absurd h (by omega)
theorem mm_cnt (hts : ∀ w ∈ lw_tbl, w.before args s = true) : ∀ k : Nat, ∃ x : ClassId × (Nat → Nat), ∀ q : vw_C, mm_cls[k]? = some q → u_Kn s q.1 q.2.1 q.2.2 x.1 x.2 := by
  intro k
  match k with
  | 0 =>
    obtain ⟨c, iS, h⟩ := u_known (C := "FewRectangles$ConditionReader") (T := mm_F0) (N := 3) (n := 3) hts (fun w hw => (List.mem_filter.mp (mm_I0 w hw)).1) (hts _ (List.mem_of_getElem? (i := 474) (by decide +kernel)))
    exact ⟨(c, iS), fun q hq => by cases hq; exact h⟩
  | 1 =>
    obtain ⟨c, iS, h⟩ := u_known (C := "FewRectangles$Cover") (T := mm_F1) (N := 11) (n := 11) hts (fun w hw => (List.mem_filter.mp (mm_I1 w hw)).1) (hts _ (List.mem_of_getElem? (i := 397) (by decide +kernel)))
    exact ⟨(c, iS), fun q hq => by cases hq; exact h⟩
  | 2 =>
    obtain ⟨c, iS, h⟩ := u_known (C := "FewRectangles$Editor") (T := mm_F2) (N := 2) (n := 2) hts (fun w hw => (List.mem_filter.mp (mm_I2 w hw)).1) (hts _ (List.mem_of_getElem? (i := 281) (by decide +kernel)))
    exact ⟨(c, iS), fun q hq => by cases hq; exact h⟩
  | 3 =>
    obtain ⟨c, iS, h⟩ := u_known (C := "FewRectangles$History") (T := mm_F3) (N := 5) (n := 5) hts (fun w hw => (List.mem_filter.mp (mm_I3 w hw)).1) (hts _ (List.mem_of_getElem? (i := 148) (by decide +kernel)))
    exact ⟨(c, iS), fun q hq => by cases hq; exact h⟩
  | 4 =>
    obtain ⟨c, iS, h⟩ := u_known (C := "FewRectangles$Probe") (T := mm_F4) (N := 11) (n := 11) hts (fun w hw => (List.mem_filter.mp (mm_I4 w hw)).1) (hts _ (List.mem_of_getElem? (i := 318) (by decide +kernel)))
    exact ⟨(c, iS), fun q hq => by cases hq; exact h⟩
  | 5 =>
    obtain ⟨c, iS, h⟩ := u_known (C := "FewRectangles$ProgramReader") (T := mm_F5) (N := 4) (n := 4) hts (fun w hw => (List.mem_filter.mp (mm_I5 w hw)).1) (hts _ (List.mem_of_getElem? (i := 490) (by decide +kernel)))
    exact ⟨(c, iS), fun q hq => by cases hq; exact h⟩
  | 6 =>
    obtain ⟨c, iS, h⟩ := u_known (C := "FewRectangles$Rule") (T := mm_F6) (N := 8) (n := 8) hts (fun w hw => (List.mem_filter.mp (mm_I6 w hw)).1) (hts _ (List.mem_of_getElem? (i := 162) (by decide +kernel)))
    exact ⟨(c, iS), fun q hq => by cases hq; exact h⟩
  | 7 =>
    obtain ⟨c, iS, h⟩ := u_known (C := "FewRectangles$Runner") (T := mm_F7) (N := 5) (n := 5) hts (fun w hw => (List.mem_filter.mp (mm_I7 w hw)).1) (hts _ (List.mem_of_getElem? (i := 296) (by decide +kernel)))
    exact ⟨(c, iS), fun q hq => by cases hq; exact h⟩
  | 8 =>
    obtain ⟨c, iS, h⟩ := u_known (C := "FewRectangles$Sheet") (T := mm_F8) (N := 9) (n := 9) hts (fun w hw => (List.mem_filter.mp (mm_I8 w hw)).1) (hts _ (List.mem_of_getElem? (i := 155) (by decide +kernel)))
    exact ⟨(c, iS), fun q hq => by cases hq; exact h⟩
  | 9 =>
    obtain ⟨c, iS, h⟩ := u_known (C := "FewRectangles$Tape") (T := mm_F9) (N := 6) (n := 6) hts (fun w hw => (List.mem_filter.mp (mm_I9 w hw)).1) (hts _ (List.mem_of_getElem? (i := 443) (by decide +kernel)))
    exact ⟨(c, iS), fun q hq => by cases hq; exact h⟩
  | 10 =>
    obtain ⟨c, iS, h⟩ := u_known (C := "FewRectangles$View") (T := mm_F10) (N := 10) (n := 10) hts (fun w hw => (List.mem_filter.mp (mm_I10 w hw)).1) (hts _ (List.mem_of_getElem? (i := 358) (by decide +kernel)))
    exact ⟨(c, iS), fun q hq => by cases hq; exact h⟩
  | 11 =>
    obtain ⟨c, iS, h⟩ := u_known (C := "FewRectangles") (T := mm_F11) (N := 17) (n := 17) hts (fun w hw => (List.mem_filter.mp (mm_I11 w hw)).1) (hts _ (List.mem_of_getElem? (i := 140) (by decide +kernel)))
    exact ⟨(c, iS), fun q hq => by cases hq; exact h⟩
  | 12 =>
    obtain ⟨c, iS, h⟩ := u_known (C := "FewRectanglesModel") (T := mm_F12) (N := 51) (n := 51) hts (fun w hw => (List.mem_filter.mp (mm_I12 w hw)).1) (hts _ (List.mem_of_getElem? (i := 1591) (by decide +kernel)))
    exact ⟨(c, iS), fun q hq => by cases hq; exact h⟩
  | n + 13 => exact ⟨(0, fun _ => 0), fun q hq => by simp [mm_cls] at hq⟩
theorem mm_aK {ty : FieldType} (h : (Cond.arrayClass ty).before args s = true) (hp : ∀ C, ty ≠ .object C) : ∃ cA : ClassId, ArrOfT s cA ty ∧ va_RA s cA ty := by
  obtain ⟨c, k, comp, h1, h2, h3⟩ := Cond.arrayClass_spec h
  refine ⟨c, fun N z => ⟨(fun _ h => by cases h), k, h2, comp, h3⟩, ?_⟩
  cases ty with
  | object C => exact absurd rfl (hp C)
  | _ => exact h1
theorem mm_oK {C : String} (h : (Cond.arrayOver (.object C)).before args s = true) : ∃ cA : ClassId, ArrOfT s cA (.object C) ∧ va_RA s cA (.object C) := by
  obtain ⟨comp, c, k, h1, h2, h3, h4, h5⟩ := Cond.arrayOver_spec h
  exact ⟨c, fun N z => ⟨(fun _ h => by cases h), k, h3, comp, h4⟩, k, comp, h3, h4, h1, h5⟩
theorem mm_iK (h : (Cond.arrayOver (.array .int)).before args s = true) : ∃ cA : ClassId, ArrOfT s cA (.array .int) ∧ va_RA s cA (.array .int) := by
  obtain ⟨comp, c, k, h1, h2, h3, h4, h5⟩ := arrayOverA_spec h
  exact ⟨c, fun N z => ⟨(fun _ h => by cases h), k, h3, comp, h4⟩, h5⟩
/-- where what was there before lies -/
def mm_old (b : Nat) (adK adV : Nat → Nat) (z : Int) : Nat := if z = -1 then b else if z % 2 = 0 then adK ((-z - 10) / 2).toNat else adV ((-z - 11) / 2).toNat
theorem mm_old_K {b : Nat} {adK adV : Nat → Nat} (i : Nat) : mm_old b adK adV (-(10 + 2 * (i : Int))) = adK i := by
  unfold mm_old
  rw [if_neg (by omega), if_pos (by omega)]
  congr 1
  omega
theorem mm_old_V {b : Nat} {adK adV : Nat → Nat} (i : Nat) : mm_old b adK adV (-(11 + 2 * (i : Int))) = adV i := by
  unfold mm_old
  rw [if_neg (by omega), if_neg (by omega)]
  congr 1
  omega
theorem mm_old_1 {b : Nat} {adK adV : Nat → Nat} : mm_old b adK adV (-1) = b := rfl
set_option maxRecDepth 20000 in
theorem mm_env {b L : Nat} {xs : Nat → Int32} (hts : ∀ w ∈ lw_tbl, w.before args s = true) (hgv : (Jvm.Cond.and given_1 narrow_1).before args s = true) (hX : va_X b L xs s s.heap) (hbl : b < s.heap.size) : ∃ (D : va_G) (tys : List (ClassId × FieldType)) (old : Int → Nat), mm_Env D tys s.heap.size old L xs s ∧ old (-1) = b := by
  have hs := flat_of_before _ hgv
  have hA : ∀ a : Nat, a < s.heap.size → ¬ mm_A s.heap.size a := fun a h => by unfold mm_A; omega
  obtain ⟨adK, adV, hS, hR⟩ := mm_strs hs hA
  obtain ⟨f, hf⟩ := Classical.axiomOfChoice (mm_cnt hts)
  obtain ⟨c50, a50, r50⟩ := mm_aK (ty := .int) (hts _ (List.mem_of_getElem? (i := 216) (by decide +kernel))) (fun C h => by cases h)
  obtain ⟨c51, a51, r51⟩ := mm_aK (ty := .short) (hts _ (List.mem_of_getElem? (i := 565) (by decide +kernel))) (fun C h => by cases h)
  obtain ⟨c52, a52, r52⟩ := mm_aK (ty := .boolean) (hts _ (List.mem_of_getElem? (i := 1763) (by decide +kernel))) (fun C h => by cases h)
  obtain ⟨c53, a53, r53⟩ := mm_aK (ty := .long) (hts _ (List.mem_of_getElem? (i := 1762) (by decide +kernel))) (fun C h => by cases h)
  have o107 : (Cond.arrayOver (.object "FewRectangles$Rule")).before args s = true := hts _ (List.mem_of_getElem? (i := 161) (by decide +kernel))
  have o109 : (Cond.arrayOver (.object "FewRectangles$Sheet")).before args s = true := hts _ (List.mem_of_getElem? (i := 154) (by decide +kernel))
  have o150 : (Cond.arrayOver (.array .int)).before args s = true := hts _ (List.mem_of_getElem? (i := 509) (by decide +kernel))
  obtain ⟨c107, a107, r107⟩ := mm_oK o107
  obtain ⟨c109, a109, r109⟩ := mm_oK o109
  obtain ⟨c150, a150, r150⟩ := mm_iK o150
  refine ⟨(fun k => (f k).1, fun k => (f k).2), [(c50, .int), (c51, .short), (c52, .boolean), (c53, .long), (c107, .object "FewRectangles$Rule"), (c109, .object "FewRectangles$Sheet"), (c150, .array .int)], mm_old b adK adV, ⟨⟨fun k q hq => hf k q hq, ?_⟩, ?_, Nat.le_refl _, ⟨hX, hbl⟩, ?_, ?_, ?_, ?_, ?_, va_AO.of o107, va_AO.of o109, o150⟩, rfl⟩
  · intro k q hq
    match k, hq with
    | 0, hq => cases hq; exact ⟨a50, r50⟩
    | 1, hq => cases hq; exact ⟨a51, r51⟩
    | 2, hq => cases hq; exact ⟨a52, r52⟩
    | 3, hq => cases hq; exact ⟨a53, r53⟩
    | 4, hq => cases hq; exact ⟨a107, r107⟩
    | 5, hq => cases hq; exact ⟨a109, r109⟩
    | 6, hq => cases hq; exact ⟨a150, r150⟩
    | n + 7, hq => simp at hq
  · rintro k (rfl | rfl | rfl | rfl | rfl | rfl | rfl) <;> rfl
  · have e1 : (fun i : Nat => mm_old b adK adV (-(10 + 2 * (i : Int)))) = adK := funext fun i => mm_old_K i
    have e2 : (fun i : Nat => mm_old b adK adV (-(11 + 2 * (i : Int)))) = adV := funext fun i => mm_old_V i
    rw [e1, e2]
    exact hS
  · intro i hi
    rw [mm_old_K]
    refine vk_R.of (A := args) ?_ (hR i hi)
    match i, hi with
    | 0, _ => exact hts _ (List.mem_of_getElem? (i := 843) (by decide +kernel))
    | 1, _ => exact hts _ (List.mem_of_getElem? (i := 934) (by decide +kernel))
    | 2, _ => exact hts _ (List.mem_of_getElem? (i := 935) (by decide +kernel))
    | 3, _ => exact hts _ (List.mem_of_getElem? (i := 978) (by decide +kernel))
    | 4, _ => exact hts _ (List.mem_of_getElem? (i := 1020) (by decide +kernel))
    | 5, _ => exact hts _ (List.mem_of_getElem? (i := 1518) (by decide +kernel))
    | 6, _ => exact hts _ (List.mem_of_getElem? (i := 1533) (by decide +kernel))
    | 7, _ => exact hts _ (List.mem_of_getElem? (i := 1534) (by decide +kernel))
    | 8, _ => exact hts _ (List.mem_of_getElem? (i := 1541) (by decide +kernel))
    | 9, _ => exact hts _ (List.mem_of_getElem? (i := 1543) (by decide +kernel))
    | 10, _ => exact hts _ (List.mem_of_getElem? (i := 1548) (by decide +kernel))
    | 11, _ => exact hts _ (List.mem_of_getElem? (i := 1549) (by decide +kernel))
    | n + 12, h => exact absurd h (by omega)
  · exact va_Zof (hts _ (List.mem_of_getElem? (i := 857) (by decide +kernel))) (hts _ (List.mem_of_getElem? (i := 134) (by decide +kernel))) (va_eqi (hs _ (List.mem_of_getElem? (i := 4) (by decide +kernel)))) hA
  · exact va_Zqof (hts _ (List.mem_of_getElem? (i := 896) (by decide +kernel))) (hts _ (List.mem_of_getElem? (i := 137) (by decide +kernel))) (hs _ (List.mem_of_getElem? (i := 5) (by decide +kernel))) hA
  · intro own i y host hm
    exact va_Nw.of rfl (hts _ hm)
end MM
/-- the world at the law's entry -/
def mm_w0 (L : Nat) : mm_W := (fun a => if a = -1 then (50, (L : Int)) else if -33 ≤ a ∧ a ≤ -10 then (if a % 2 = 0 then (14, 2) else (54, ((mm_nth 0 ((-a - 11) / 2).toNat mm_sl : Nat) : Int))) else (0, 0), 1, 0)
def mm_h0 (scr : Nat → Int32) : mm_H := fun a j => if a = -1 then (scr j.toNat).toInt else if a % 2 = 0 then (if j = 0 then a - 1 else 0) else ((mm_nth [] ((-a - 11) / 2).toNat mm_sb).getD j.toNat 0).toInt
theorem mm_neg0 {L : Nat} {scr : Nat → Int32} (hL : L ≤ 3072) : mm_neg L scr (mm_w0 L) (mm_h0 scr) := by
  refine ⟨rfl, by omega, fun j hj => ?_, fun i hi => ⟨?_, ?_, ?_, ?_, ?_⟩, ?_⟩
  · show (scr (j : Int).toNat).toInt = _
    rfl
  · show (if _ then _ else if _ then (if _ then _ else _) else _) = _
    rw [if_neg (by omega), if_pos (by omega), if_pos (by omega)]
  · show (if _ then _ else if _ then (if _ then _ else _) else _) = _
    rw [if_neg (by omega), if_pos (by omega), if_pos rfl]
    omega
  · show (if _ then _ else if _ then (if _ then _ else _) else _) = _
    rw [if_neg (by omega), if_pos (by omega), if_neg (by omega)]
  · show (if _ then _ else if _ then (if _ then _ else _) else _) = _
    rw [if_neg (by omega), if_pos (by omega), if_neg (by omega)]
    rw [show ((-(-(11 + 2 * (i : Int))) - 11) / 2).toNat = i by omega]
  · intro j hj
    show (if _ then _ else if _ then (if _ then _ else _) else _) = _
    rw [if_neg (by omega), if_neg (by omega)]
    rw [show ((-(-(11 + 2 * (i : Int))) - 11) / 2).toNat = i by omega, show (j : Int).toNat = j from rfl]
  · intro a h0 h1 h2
    show (if _ then _ else if _ then (if _ then _ else _) else _ : Nat × Int).1 = 0
    rw [if_neg h1, if_neg]
    rintro ⟨h3, h4⟩
    have h5 := h2 ((-a - 10) / 2).toNat (by omega)
    omega
theorem mm_HR0 {D : va_G} {tys : List (ClassId × FieldType)} {B : Nat} {old : Int → Nat} {L : Nat} {scr : Nat → Int32} (hL : L ≤ 3072) (H : Heap) : mm_HR D tys B old L scr [] (mm_w0 L) (mm_h0 scr) H := by
  refine ⟨rfl, fun a h1 h2 => ?_, fun a h => ?_, mm_neg0 hL, fun k q h => by simp [mm_ws] at h, fun i j p q h => by simp [mm_ws] at h, fun k q h => by simp [mm_ws] at h⟩
  · have h2 : a ≤ 0 := h2
    omega
  · have h : 0 < a := h
    show (if _ then _ else if _ then (if _ then _ else _) else _ : Nat × Int).1 = 0
    rw [if_neg (by omega), if_neg (by omega)]
end
section
/-! The law in the mini code; the claim out of the mini run. Printed by wip/whole/gen/part36.py. -/
def cl_0 : List (Nat × Instr) := [(0, .new 785), (3, .dup), (4, .invokevirtual 9115916), (7, .astore 1), (8, .new 883), (11, .dup), (12, .invokevirtual 13965581), (15, .astore 2), (16, .iconst 0), (17, .istore 3), (18, .jsr_w 0), (18, .iload 3), (19, .aload 0), (20, .arraylength), (21, .iconst 6), (23, .isub), (24, .if_icmp .gt 1847), (27, .aload 0), (28, .iload 3), (29, .iaload), (30, .iconst 63), (32, .iand), (33, .lookupswitch 1841 #[(0, 244), (1, 287), (2, 340), (3, 373), (4, 406), (5, 449), (6, 482), (7, 525), (8, 568), (9, 611), (10, 634), (11, 687), (12, 710), (13, 743), (14, 806), (15, 829), (16, 842), (17, 855), (18, 898), (19, 931), (20, 974), (21, 1007), (22, 1030), (23, 1063), (24, 1096), (25, 1109), (26, 1132), (27, 1175), (28, 1208), (29, 1251), (30, 1304), (31, 1337), (32, 1380), (33, 1423), (34, 1446), (35, 1459), (36, 1482), (37, 1515), (38, 1538), (39, 1571), (40, 1614), (41, 1647), (42, 1700), (43, 1733), (44, 1746), (45, 1779), (46, 1792), (47, 1805), (48, 1818)]), (244, .aload 1), (245, .aload 0), (246, .iload 3), (247, .iconst 1), (248, .iadd), (249, .iaload), (250, .aload 0), (251, .iload 3), (252, .iconst 2), (253, .iadd), (254, .iaload), (255, .aload 0), (256, .iload 3), (257, .iconst 3), (258, .iadd), (259, .iaload), (260, .invokevirtual 9191436)]
def cl_1 : List (Nat × Instr) := [(263, .aload 2), (264, .aload 0), (265, .iload 3), (266, .iconst 1), (267, .iadd), (268, .iaload), (269, .aload 0), (270, .iload 3), (271, .iconst 2), (272, .iadd), (273, .iaload), (274, .aload 0), (275, .iload 3), (276, .iconst 3), (277, .iadd), (278, .iaload), (279, .invokevirtual 15417357), (282, .if_icmp .eq 1841), (285, .iconst 0), (286, .freturn), (287, .aload 1), (288, .aload 0), (289, .iload 3), (290, .iconst 1), (291, .iadd), (292, .iaload), (293, .aload 0), (294, .iload 3), (295, .iconst 2), (296, .iadd), (297, .iaload), (298, .aload 0), (299, .iload 3), (300, .iconst 3), (301, .iadd), (302, .iaload), (303, .aload 0), (304, .iload 3), (305, .iconst 4), (306, .iadd)]
def cl_2 : List (Nat × Instr) := [(307, .iaload), (308, .invokevirtual 9261068), (311, .aload 2), (312, .aload 0), (313, .iload 3), (314, .iconst 1), (315, .iadd), (316, .iaload), (317, .aload 0), (318, .iload 3), (319, .iconst 2), (320, .iadd), (321, .iaload), (322, .aload 0), (323, .iload 3), (324, .iconst 3), (325, .iadd), (326, .iaload), (327, .aload 0), (328, .iload 3), (329, .iconst 4), (330, .iadd), (331, .iaload), (332, .invokevirtual 15552525), (335, .if_icmp .eq 1841), (338, .iconst 0), (339, .freturn), (340, .aload 1), (341, .aload 0), (342, .iload 3), (343, .iconst 1), (344, .iadd), (345, .iaload), (346, .aload 0), (347, .iload 3), (348, .iconst 2), (349, .iadd), (350, .iaload), (351, .invokevirtual 9318412), (354, .aload 2)]
def cl_3 : List (Nat × Instr) := [(355, .aload 0), (356, .iload 3), (357, .iconst 1), (358, .iadd), (359, .iaload), (360, .aload 0), (361, .iload 3), (362, .iconst 2), (363, .iadd), (364, .iaload), (365, .invokevirtual 15609869), (368, .if_icmp .eq 1841), (371, .iconst 0), (372, .freturn), (373, .aload 1), (374, .aload 0), (375, .iload 3), (376, .iconst 1), (377, .iadd), (378, .iaload), (379, .aload 0), (380, .iload 3), (381, .iconst 2), (382, .iadd), (383, .iaload), (384, .invokevirtual 9383948), (387, .aload 2), (388, .aload 0), (389, .iload 3), (390, .iconst 1), (391, .iadd), (392, .iaload), (393, .aload 0), (394, .iload 3), (395, .iconst 2), (396, .iadd), (397, .iaload), (398, .invokevirtual 15675405), (401, .if_icmp .eq 1841), (404, .iconst 0)]
def cl_4 : List (Nat × Instr) := [(405, .freturn), (406, .aload 1), (407, .aload 0), (408, .iload 3), (409, .iconst 1), (410, .iadd), (411, .iaload), (412, .aload 0), (413, .iload 3), (414, .iconst 2), (415, .iadd), (416, .iaload), (417, .aload 0), (418, .iload 3), (419, .iconst 3), (420, .iadd), (421, .iaload), (422, .invokevirtual 9453580), (425, .aload 2), (426, .aload 0), (427, .iload 3), (428, .iconst 1), (429, .iadd), (430, .iaload), (431, .aload 0), (432, .iload 3), (433, .iconst 2), (434, .iadd), (435, .iaload), (436, .aload 0), (437, .iload 3), (438, .iconst 3), (439, .iadd), (440, .iaload), (441, .invokevirtual 15876109), (444, .if_icmp .eq 1841), (447, .iconst 0), (448, .freturn), (449, .aload 1), (450, .aload 0)]
def cl_5 : List (Nat × Instr) := [(451, .iload 3), (452, .iconst 1), (453, .iadd), (454, .iaload), (455, .aload 0), (456, .iload 3), (457, .iconst 2), (458, .iadd), (459, .iaload), (460, .invokevirtual 9515020), (463, .aload 2), (464, .aload 0), (465, .iload 3), (466, .iconst 1), (467, .iadd), (468, .iaload), (469, .aload 0), (470, .iload 3), (471, .iconst 2), (472, .iadd), (473, .iaload), (474, .invokevirtual 16068621), (477, .if_icmp .eq 1841), (480, .iconst 0), (481, .freturn), (482, .aload 1), (483, .aload 0), (484, .iload 3), (485, .iconst 1), (486, .iadd), (487, .iaload), (488, .aload 0), (489, .iload 3), (490, .iconst 2), (491, .iadd), (492, .iaload), (493, .aload 0), (494, .iload 3), (495, .iconst 3), (496, .iadd)]
def cl_6 : List (Nat × Instr) := [(497, .iaload), (498, .invokevirtual 9584652), (501, .aload 2), (502, .aload 0), (503, .iload 3), (504, .iconst 1), (505, .iadd), (506, .iaload), (507, .aload 0), (508, .iload 3), (509, .iconst 2), (510, .iadd), (511, .iaload), (512, .aload 0), (513, .iload 3), (514, .iconst 3), (515, .iadd), (516, .iaload), (517, .invokevirtual 16400397), (520, .if_icmp .eq 1841), (523, .iconst 0), (524, .freturn), (525, .aload 1), (526, .aload 0), (527, .iload 3), (528, .iconst 1), (529, .iadd), (530, .iaload), (531, .aload 0), (532, .iload 3), (533, .iconst 2), (534, .iadd), (535, .iaload), (536, .aload 0), (537, .iload 3), (538, .iconst 3), (539, .iadd), (540, .iaload), (541, .invokevirtual 9650188), (544, .aload 2)]
def cl_7 : List (Nat × Instr) := [(545, .aload 0), (546, .iload 3), (547, .iconst 1), (548, .iadd), (549, .iaload), (550, .aload 0), (551, .iload 3), (552, .iconst 2), (553, .iadd), (554, .iaload), (555, .aload 0), (556, .iload 3), (557, .iconst 3), (558, .iadd), (559, .iaload), (560, .invokevirtual 16203789), (563, .if_icmp .eq 1841), (566, .iconst 0), (567, .freturn), (568, .aload 1), (569, .aload 0), (570, .iload 3), (571, .iconst 1), (572, .iadd), (573, .iaload), (574, .aload 0), (575, .iload 3), (576, .iconst 2), (577, .iadd), (578, .iaload), (579, .aload 0), (580, .iload 3), (581, .iconst 3), (582, .iadd), (583, .iaload), (584, .invokevirtual 9715724), (587, .aload 2), (588, .aload 0), (589, .iload 3), (590, .iconst 1)]
def cl_8 : List (Nat × Instr) := [(591, .iadd), (592, .iaload), (593, .aload 0), (594, .iload 3), (595, .iconst 2), (596, .iadd), (597, .iaload), (598, .aload 0), (599, .iload 3), (600, .iconst 3), (601, .iadd), (602, .iaload), (603, .invokevirtual 16269325), (606, .if_icmp .eq 1841), (609, .iconst 0), (610, .freturn), (611, .aload 1), (612, .aload 0), (613, .iload 3), (614, .iconst 1), (615, .iadd), (616, .iaload), (617, .invokevirtual 9773068), (620, .aload 2), (621, .aload 0), (622, .iload 3), (623, .iconst 1), (624, .iadd), (625, .iaload), (626, .invokevirtual 16654349), (629, .if_icmp .eq 1841), (632, .iconst 0), (633, .freturn), (634, .aload 1), (635, .aload 0), (636, .iload 3), (637, .iconst 1), (638, .iadd), (639, .iaload), (640, .aload 0)]
def cl_9 : List (Nat × Instr) := [(641, .iload 3), (642, .iconst 2), (643, .iadd), (644, .iaload), (645, .aload 0), (646, .iload 3), (647, .iconst 3), (648, .iadd), (649, .iaload), (650, .aload 0), (651, .iload 3), (652, .iconst 4), (653, .iadd), (654, .iaload), (655, .invokevirtual 9850892), (658, .aload 2), (659, .aload 0), (660, .iload 3), (661, .iconst 1), (662, .iadd), (663, .iaload), (664, .aload 0), (665, .iload 3), (666, .iconst 2), (667, .iadd), (668, .iaload), (669, .aload 0), (670, .iload 3), (671, .iconst 3), (672, .iadd), (673, .iaload), (674, .aload 0), (675, .iload 3), (676, .iconst 4), (677, .iadd), (678, .iaload), (679, .invokevirtual 18042893), (682, .if_icmp .eq 1841), (685, .iconst 0), (686, .freturn)]
def cl_10 : List (Nat × Instr) := [(687, .aload 1), (688, .aload 0), (689, .iload 3), (690, .iconst 1), (691, .iadd), (692, .iaload), (693, .invokevirtual 9904140), (696, .aload 2), (697, .aload 0), (698, .iload 3), (699, .iconst 1), (700, .iadd), (701, .iaload), (702, .invokevirtual 18161677), (705, .if_icmp .eq 1841), (708, .iconst 0), (709, .freturn), (710, .aload 1), (711, .aload 0), (712, .iload 3), (713, .iconst 1), (714, .iadd), (715, .iaload), (716, .aload 0), (717, .iload 3), (718, .iconst 2), (719, .iadd), (720, .iaload), (721, .invokevirtual 9973772), (724, .aload 2), (725, .aload 0), (726, .iload 3), (727, .iconst 1), (728, .iadd), (729, .iaload), (730, .aload 0), (731, .iload 3), (732, .iconst 2), (733, .iadd), (734, .iaload)]
def cl_11 : List (Nat × Instr) := [(735, .invokevirtual 18231309), (738, .if_icmp .eq 1841), (741, .iconst 0), (742, .freturn), (743, .aload 1), (744, .aload 0), (745, .iload 3), (746, .iconst 1), (747, .iadd), (748, .iaload), (749, .aload 0), (750, .iload 3), (751, .iconst 2), (752, .iadd), (753, .iaload), (754, .aload 0), (755, .iload 3), (756, .iconst 3), (757, .iadd), (758, .iaload), (759, .aload 0), (760, .iload 3), (761, .iconst 4), (762, .iadd), (763, .iaload), (764, .aload 0), (765, .iload 3), (766, .iconst 5), (767, .iadd), (768, .iaload), (769, .invokevirtual 10051596), (772, .aload 2), (773, .aload 0), (774, .iload 3), (775, .iconst 1), (776, .iadd), (777, .iaload), (778, .aload 0), (779, .iload 3), (780, .iconst 2)]
def cl_12 : List (Nat × Instr) := [(781, .iadd), (782, .iaload), (783, .aload 0), (784, .iload 3), (785, .iconst 3), (786, .iadd), (787, .iaload), (788, .aload 0), (789, .iload 3), (790, .iconst 4), (791, .iadd), (792, .iaload), (793, .aload 0), (794, .iload 3), (795, .iconst 5), (796, .iadd), (797, .iaload), (798, .invokevirtual 21061645), (801, .if_icmp .eq 1841), (804, .iconst 0), (805, .freturn), (806, .aload 1), (807, .aload 0), (808, .iload 3), (809, .iconst 1), (810, .iadd), (811, .iaload), (812, .invokevirtual 10100748), (815, .aload 2), (816, .aload 0), (817, .iload 3), (818, .iconst 1), (819, .iadd), (820, .iaload), (821, .invokevirtual 22093837), (824, .if_icmp .eq 1841), (827, .iconst 0), (828, .freturn), (829, .aload 1), (830, .invokevirtual 10162188)]
def cl_13 : List (Nat × Instr) := [(833, .aload 2), (834, .invokevirtual 14356493), (837, .if_icmp .eq 1841), (840, .iconst 0), (841, .freturn), (842, .aload 1), (843, .invokevirtual 10227724), (846, .aload 2), (847, .invokevirtual 14422029), (850, .if_icmp .eq 1841), (853, .iconst 0), (854, .freturn), (855, .aload 1), (856, .aload 0), (857, .iload 3), (858, .iconst 1), (859, .iadd), (860, .iaload), (861, .aload 0), (862, .iload 3), (863, .iconst 2), (864, .iadd), (865, .iaload), (866, .aload 0), (867, .iload 3), (868, .iconst 3), (869, .iadd), (870, .iaload), (871, .invokevirtual 10305548), (874, .aload 2), (875, .aload 0), (876, .iload 3), (877, .iconst 1), (878, .iadd), (879, .iaload), (880, .aload 0), (881, .iload 3), (882, .iconst 2), (883, .iadd), (884, .iaload)]
def cl_14 : List (Nat × Instr) := [(885, .aload 0), (886, .iload 3), (887, .iconst 3), (888, .iadd), (889, .iaload), (890, .invokevirtual 18890765), (893, .if_icmp .eq 1841), (896, .iconst 0), (897, .freturn), (898, .aload 1), (899, .aload 0), (900, .iload 3), (901, .iconst 1), (902, .iadd), (903, .iaload), (904, .aload 0), (905, .iload 3), (906, .iconst 2), (907, .iadd), (908, .iaload), (909, .invokevirtual 10366988), (912, .aload 2), (913, .aload 0), (914, .iload 3), (915, .iconst 1), (916, .iadd), (917, .iaload), (918, .aload 0), (919, .iload 3), (920, .iconst 2), (921, .iadd), (922, .iaload), (923, .invokevirtual 18821133), (926, .if_icmp .eq 1841), (929, .iconst 0), (930, .freturn), (931, .aload 1), (932, .aload 0), (933, .iload 3), (934, .iconst 1)]
def cl_15 : List (Nat × Instr) := [(935, .iadd), (936, .iaload), (937, .aload 0), (938, .iload 3), (939, .iconst 2), (940, .iadd), (941, .iaload), (942, .aload 0), (943, .iload 3), (944, .iconst 3), (945, .iadd), (946, .iaload), (947, .invokevirtual 10436620), (950, .aload 2), (951, .aload 0), (952, .iload 3), (953, .iconst 1), (954, .iadd), (955, .iaload), (956, .aload 0), (957, .iload 3), (958, .iconst 2), (959, .iadd), (960, .iaload), (961, .aload 0), (962, .iload 3), (963, .iconst 3), (964, .iadd), (965, .iaload), (966, .invokevirtual 18956301), (969, .if_icmp .eq 1841), (972, .iconst 0), (973, .freturn), (974, .aload 1), (975, .aload 0), (976, .iload 3), (977, .iconst 1), (978, .iadd), (979, .iaload), (980, .aload 0)]
def cl_16 : List (Nat × Instr) := [(981, .iload 3), (982, .iconst 2), (983, .iadd), (984, .iaload), (985, .invokevirtual 10498060), (988, .aload 2), (989, .aload 0), (990, .iload 3), (991, .iconst 1), (992, .iadd), (993, .iaload), (994, .aload 0), (995, .iload 3), (996, .iconst 2), (997, .iadd), (998, .iaload), (999, .invokevirtual 19017741), (1002, .if_icmp .eq 1841), (1005, .iconst 0), (1006, .freturn), (1007, .aload 1), (1008, .aload 0), (1009, .iload 3), (1010, .iconst 1), (1011, .iadd), (1012, .iaload), (1013, .invokevirtual 10559500), (1016, .aload 2), (1017, .aload 0), (1018, .iload 3), (1019, .iconst 1), (1020, .iadd), (1021, .iaload), (1022, .invokevirtual 19079181), (1025, .if_icmp .eq 1841), (1028, .iconst 0), (1029, .freturn), (1030, .aload 1), (1031, .aload 0), (1032, .iload 3)]
def cl_17 : List (Nat × Instr) := [(1033, .iconst 1), (1034, .iadd), (1035, .iaload), (1036, .aload 0), (1037, .iload 3), (1038, .iconst 2), (1039, .iadd), (1040, .iaload), (1041, .invokevirtual 10629132), (1044, .aload 2), (1045, .aload 0), (1046, .iload 3), (1047, .iconst 1), (1048, .iadd), (1049, .iaload), (1050, .aload 0), (1051, .iload 3), (1052, .iconst 2), (1053, .iadd), (1054, .iaload), (1055, .invokevirtual 19148813), (1058, .if_icmp .eq 1841), (1061, .iconst 0), (1062, .freturn), (1063, .aload 1), (1064, .aload 0), (1065, .iload 3), (1066, .iconst 1), (1067, .iadd), (1068, .iaload), (1069, .aload 0), (1070, .iload 3), (1071, .iconst 2), (1072, .iadd), (1073, .iaload), (1074, .invokevirtual 10694668), (1077, .aload 2), (1078, .aload 0), (1079, .iload 3), (1080, .iconst 1)]
def cl_18 : List (Nat × Instr) := [(1081, .iadd), (1082, .iaload), (1083, .aload 0), (1084, .iload 3), (1085, .iconst 2), (1086, .iadd), (1087, .iaload), (1088, .invokevirtual 19214349), (1091, .if_icmp .eq 1841), (1094, .iconst 0), (1095, .freturn), (1096, .aload 1), (1097, .invokevirtual 10752012), (1100, .aload 2), (1101, .invokevirtual 19271693), (1104, .if_icmp .eq 1841), (1107, .iconst 0), (1108, .freturn), (1109, .aload 1), (1110, .aload 0), (1111, .iload 3), (1112, .iconst 1), (1113, .iadd), (1114, .iaload), (1115, .invokevirtual 10821644), (1118, .aload 2), (1119, .aload 0), (1120, .iload 3), (1121, .iconst 1), (1122, .iadd), (1123, .iaload), (1124, .invokevirtual 19472397), (1127, .if_icmp .eq 1841), (1130, .iconst 0), (1131, .freturn), (1132, .aload 1), (1133, .aload 0), (1134, .iload 3), (1135, .iconst 1), (1136, .iadd)]
def cl_19 : List (Nat × Instr) := [(1137, .iaload), (1138, .aload 0), (1139, .iload 3), (1140, .iconst 2), (1141, .iadd), (1142, .iaload), (1143, .aload 0), (1144, .iload 3), (1145, .iconst 3), (1146, .iadd), (1147, .iaload), (1148, .invokevirtual 10895372), (1151, .aload 2), (1152, .aload 0), (1153, .iload 3), (1154, .iconst 1), (1155, .iadd), (1156, .iaload), (1157, .aload 0), (1158, .iload 3), (1159, .iconst 2), (1160, .iadd), (1161, .iaload), (1162, .aload 0), (1163, .iload 3), (1164, .iconst 3), (1165, .iadd), (1166, .iaload), (1167, .invokevirtual 19546125), (1170, .if_icmp .eq 1841), (1173, .iconst 0), (1174, .freturn), (1175, .aload 1), (1176, .aload 0), (1177, .iload 3), (1178, .iconst 1), (1179, .iadd), (1180, .iaload), (1181, .aload 0), (1182, .iload 3)]
def cl_20 : List (Nat × Instr) := [(1183, .iconst 2), (1184, .iadd), (1185, .iaload), (1186, .invokevirtual 10956812), (1189, .aload 2), (1190, .aload 0), (1191, .iload 3), (1192, .iconst 1), (1193, .iadd), (1194, .iaload), (1195, .aload 0), (1196, .iload 3), (1197, .iconst 2), (1198, .iadd), (1199, .iaload), (1200, .invokevirtual 19607565), (1203, .if_icmp .eq 1841), (1206, .iconst 0), (1207, .freturn), (1208, .aload 1), (1209, .aload 0), (1210, .iload 3), (1211, .iconst 1), (1212, .iadd), (1213, .iaload), (1214, .aload 0), (1215, .iload 3), (1216, .iconst 2), (1217, .iadd), (1218, .iaload), (1219, .aload 0), (1220, .iload 3), (1221, .iconst 3), (1222, .iadd), (1223, .iaload), (1224, .invokevirtual 11026444), (1227, .aload 2), (1228, .aload 0), (1229, .iload 3), (1230, .iconst 1)]
def cl_21 : List (Nat × Instr) := [(1231, .iadd), (1232, .iaload), (1233, .aload 0), (1234, .iload 3), (1235, .iconst 2), (1236, .iadd), (1237, .iaload), (1238, .aload 0), (1239, .iload 3), (1240, .iconst 3), (1241, .iadd), (1242, .iaload), (1243, .invokevirtual 19677197), (1246, .if_icmp .eq 1841), (1249, .iconst 0), (1250, .freturn), (1251, .aload 1), (1252, .aload 0), (1253, .iload 3), (1254, .iconst 1), (1255, .iadd), (1256, .iaload), (1257, .aload 0), (1258, .iload 3), (1259, .iconst 2), (1260, .iadd), (1261, .iaload), (1262, .aload 0), (1263, .iload 3), (1264, .iconst 3), (1265, .iadd), (1266, .iaload), (1267, .aload 0), (1268, .iload 3), (1269, .iconst 4), (1270, .iadd), (1271, .iaload), (1272, .invokevirtual 11096076), (1275, .aload 2), (1276, .aload 0)]
def cl_22 : List (Nat × Instr) := [(1277, .iload 3), (1278, .iconst 1), (1279, .iadd), (1280, .iaload), (1281, .aload 0), (1282, .iload 3), (1283, .iconst 2), (1284, .iadd), (1285, .iaload), (1286, .aload 0), (1287, .iload 3), (1288, .iconst 3), (1289, .iadd), (1290, .iaload), (1291, .aload 0), (1292, .iload 3), (1293, .iconst 4), (1294, .iadd), (1295, .iaload), (1296, .invokevirtual 19812365), (1299, .if_icmp .eq 1841), (1302, .iconst 0), (1303, .freturn), (1304, .aload 1), (1305, .aload 0), (1306, .iload 3), (1307, .iconst 1), (1308, .iadd), (1309, .iaload), (1310, .aload 0), (1311, .iload 3), (1312, .iconst 2), (1313, .iadd), (1314, .iaload), (1315, .invokevirtual 11153420), (1318, .aload 2), (1319, .aload 0), (1320, .iload 3), (1321, .iconst 1), (1322, .iadd)]
def cl_23 : List (Nat × Instr) := [(1323, .iaload), (1324, .aload 0), (1325, .iload 3), (1326, .iconst 2), (1327, .iadd), (1328, .iaload), (1329, .invokevirtual 19869709), (1332, .if_icmp .eq 1841), (1335, .iconst 0), (1336, .freturn), (1337, .aload 1), (1338, .aload 0), (1339, .iload 3), (1340, .iconst 1), (1341, .iadd), (1342, .iaload), (1343, .aload 0), (1344, .iload 3), (1345, .iconst 2), (1346, .iadd), (1347, .iaload), (1348, .aload 0), (1349, .iload 3), (1350, .iconst 3), (1351, .iadd), (1352, .iaload), (1353, .invokevirtual 11223052), (1356, .aload 2), (1357, .aload 0), (1358, .iload 3), (1359, .iconst 1), (1360, .iadd), (1361, .iaload), (1362, .aload 0), (1363, .iload 3), (1364, .iconst 2), (1365, .iadd), (1366, .iaload), (1367, .aload 0), (1368, .iload 3)]
def cl_24 : List (Nat × Instr) := [(1369, .iconst 3), (1370, .iadd), (1371, .iaload), (1372, .invokevirtual 20004877), (1375, .if_icmp .eq 1841), (1378, .iconst 0), (1379, .freturn), (1380, .aload 1), (1381, .aload 0), (1382, .iload 3), (1383, .iconst 1), (1384, .iadd), (1385, .iaload), (1386, .aload 0), (1387, .iload 3), (1388, .iconst 2), (1389, .iadd), (1390, .iaload), (1391, .aload 0), (1392, .iload 3), (1393, .iconst 3), (1394, .iadd), (1395, .iaload), (1396, .invokevirtual 11288588), (1399, .aload 2), (1400, .aload 0), (1401, .iload 3), (1402, .iconst 1), (1403, .iadd), (1404, .iaload), (1405, .aload 0), (1406, .iload 3), (1407, .iconst 2), (1408, .iadd), (1409, .iaload), (1410, .aload 0), (1411, .iload 3), (1412, .iconst 3), (1413, .iadd), (1414, .iaload)]
def cl_25 : List (Nat × Instr) := [(1415, .invokevirtual 20135949), (1418, .if_icmp .eq 1841), (1421, .iconst 0), (1422, .freturn), (1423, .aload 1), (1424, .aload 0), (1425, .iload 3), (1426, .iconst 1), (1427, .iadd), (1428, .iaload), (1429, .invokevirtual 11345932), (1432, .aload 2), (1433, .aload 0), (1434, .iload 3), (1435, .iconst 1), (1436, .iadd), (1437, .iaload), (1438, .invokevirtual 20258829), (1441, .if_icmp .eq 1841), (1444, .iconst 0), (1445, .freturn), (1446, .aload 1), (1447, .invokevirtual 11407372), (1450, .aload 2), (1451, .invokevirtual 20320269), (1454, .if_icmp .eq 1841), (1457, .iconst 0), (1458, .freturn), (1459, .aload 1), (1460, .aload 0), (1461, .iload 3), (1462, .iconst 1), (1463, .iadd), (1464, .iaload), (1465, .invokevirtual 11477004), (1468, .aload 2), (1469, .aload 0), (1470, .iload 3), (1471, .iconst 1), (1472, .iadd)]
def cl_26 : List (Nat × Instr) := [(1473, .iaload), (1474, .invokevirtual 20389901), (1477, .if_icmp .eq 1841), (1480, .iconst 0), (1481, .freturn), (1482, .aload 1), (1483, .aload 0), (1484, .iload 3), (1485, .iconst 1), (1486, .iadd), (1487, .iaload), (1488, .aload 0), (1489, .iload 3), (1490, .iconst 2), (1491, .iadd), (1492, .iaload), (1493, .invokevirtual 11546636), (1496, .aload 2), (1497, .aload 0), (1498, .iload 3), (1499, .iconst 1), (1500, .iadd), (1501, .iaload), (1502, .aload 0), (1503, .iload 3), (1504, .iconst 2), (1505, .iadd), (1506, .iaload), (1507, .invokevirtual 20459533), (1510, .if_icmp .eq 1841), (1513, .iconst 0), (1514, .freturn), (1515, .aload 1), (1516, .aload 0), (1517, .iload 3), (1518, .iconst 1), (1519, .iadd), (1520, .iaload), (1521, .invokevirtual 11608076), (1524, .aload 2)]
def cl_27 : List (Nat × Instr) := [(1525, .aload 0), (1526, .iload 3), (1527, .iconst 1), (1528, .iadd), (1529, .iaload), (1530, .invokevirtual 16523277), (1533, .if_icmp .eq 1841), (1536, .iconst 0), (1537, .freturn), (1538, .aload 1), (1539, .aload 0), (1540, .iload 3), (1541, .iconst 1), (1542, .iadd), (1543, .iaload), (1544, .aload 0), (1545, .iload 3), (1546, .iconst 2), (1547, .iadd), (1548, .iaload), (1549, .invokevirtual 11677708), (1552, .aload 2), (1553, .aload 0), (1554, .iload 3), (1555, .iconst 1), (1556, .iadd), (1557, .iaload), (1558, .aload 0), (1559, .iload 3), (1560, .iconst 2), (1561, .iadd), (1562, .iaload), (1563, .invokevirtual 20656141), (1566, .if_icmp .eq 1841), (1569, .iconst 0), (1570, .freturn), (1571, .aload 1), (1572, .aload 0), (1573, .iload 3), (1574, .iconst 1)]
def cl_28 : List (Nat × Instr) := [(1575, .iadd), (1576, .iaload), (1577, .aload 0), (1578, .iload 3), (1579, .iconst 2), (1580, .iadd), (1581, .iaload), (1582, .aload 0), (1583, .iload 3), (1584, .iconst 3), (1585, .iadd), (1586, .iaload), (1587, .invokevirtual 11747340), (1590, .aload 2), (1591, .aload 0), (1592, .iload 3), (1593, .iconst 1), (1594, .iadd), (1595, .iaload), (1596, .aload 0), (1597, .iload 3), (1598, .iconst 2), (1599, .iadd), (1600, .iaload), (1601, .aload 0), (1602, .iload 3), (1603, .iconst 3), (1604, .iadd), (1605, .iaload), (1606, .invokevirtual 20791309), (1609, .if_icmp .eq 1841), (1612, .iconst 0), (1613, .freturn), (1614, .aload 1), (1615, .aload 0), (1616, .iload 3), (1617, .iconst 1), (1618, .iadd), (1619, .iaload), (1620, .aload 0)]
def cl_29 : List (Nat × Instr) := [(1621, .iload 3), (1622, .iconst 2), (1623, .iadd), (1624, .iaload), (1625, .invokevirtual 11808780), (1628, .aload 2), (1629, .aload 0), (1630, .iload 3), (1631, .iconst 1), (1632, .iadd), (1633, .iaload), (1634, .aload 0), (1635, .iload 3), (1636, .iconst 2), (1637, .iadd), (1638, .iaload), (1639, .invokevirtual 20852749), (1642, .if_icmp .eq 1841), (1645, .iconst 0), (1646, .freturn), (1647, .aload 1), (1648, .aload 0), (1649, .iload 3), (1650, .iconst 1), (1651, .iadd), (1652, .iaload), (1653, .aload 0), (1654, .iload 3), (1655, .iconst 2), (1656, .iadd), (1657, .iaload), (1658, .aload 0), (1659, .iload 3), (1660, .iconst 3), (1661, .iadd), (1662, .iaload), (1663, .aload 0), (1664, .iload 3), (1665, .iconst 4), (1666, .iadd)]
def cl_30 : List (Nat × Instr) := [(1667, .iaload), (1668, .invokevirtual 11882508), (1671, .aload 2), (1672, .aload 0), (1673, .iload 3), (1674, .iconst 1), (1675, .iadd), (1676, .iaload), (1677, .aload 0), (1678, .iload 3), (1679, .iconst 2), (1680, .iadd), (1681, .iaload), (1682, .aload 0), (1683, .iload 3), (1684, .iconst 3), (1685, .iadd), (1686, .iaload), (1687, .aload 0), (1688, .iload 3), (1689, .iconst 4), (1690, .iadd), (1691, .iaload), (1692, .invokevirtual 20926477), (1695, .if_icmp .eq 1841), (1698, .iconst 0), (1699, .freturn), (1700, .aload 1), (1701, .aload 0), (1702, .iload 3), (1703, .iconst 1), (1704, .iadd), (1705, .iaload), (1706, .aload 0), (1707, .iload 3), (1708, .iconst 2), (1709, .iadd), (1710, .iaload), (1711, .invokevirtual 11939852), (1714, .aload 2)]
def cl_31 : List (Nat × Instr) := [(1715, .aload 0), (1716, .iload 3), (1717, .iconst 1), (1718, .iadd), (1719, .iaload), (1720, .aload 0), (1721, .iload 3), (1722, .iconst 2), (1723, .iadd), (1724, .iaload), (1725, .invokevirtual 16723981), (1728, .if_icmp .eq 1841), (1731, .iconst 0), (1732, .freturn), (1733, .aload 1), (1734, .invokevirtual 11997196), (1737, .aload 2), (1738, .invokevirtual 21696525), (1741, .if_icmp .eq 1841), (1744, .iconst 0), (1745, .freturn), (1746, .aload 1), (1747, .aload 0), (1748, .iload 3), (1749, .iconst 1), (1750, .iadd), (1751, .iaload), (1752, .aload 0), (1753, .iload 3), (1754, .iconst 2), (1755, .iadd), (1756, .iaload), (1757, .invokevirtual 12070924), (1760, .aload 2), (1761, .aload 0), (1762, .iload 3), (1763, .iconst 1), (1764, .iadd), (1765, .iaload), (1766, .aload 0)]
def cl_32 : List (Nat × Instr) := [(1767, .iload 3), (1768, .iconst 2), (1769, .iadd), (1770, .iaload), (1771, .invokevirtual 22163469), (1774, .if_icmp .eq 1841), (1777, .iconst 0), (1778, .freturn), (1779, .aload 1), (1780, .invokevirtual 12128268), (1783, .aload 2), (1784, .invokevirtual 14487565), (1787, .if_icmp .eq 1841), (1790, .iconst 0), (1791, .freturn), (1792, .aload 1), (1793, .invokevirtual 12193804), (1796, .aload 2), (1797, .invokevirtual 14553101), (1800, .if_icmp .eq 1841), (1803, .iconst 0), (1804, .freturn), (1805, .aload 1), (1806, .invokevirtual 12259340), (1809, .aload 2), (1810, .invokevirtual 20516877), (1813, .if_icmp .eq 1841), (1816, .iconst 0), (1817, .freturn), (1818, .aload 1), (1819, .aload 0), (1820, .iload 3), (1821, .iconst 1), (1822, .iadd), (1823, .iaload), (1824, .invokevirtual 12328972), (1827, .aload 2), (1828, .aload 0), (1829, .iload 3), (1830, .iconst 1)]
def cl_33 : List (Nat × Instr) := [(1831, .iadd), (1832, .iaload), (1833, .invokevirtual 22224909), (1836, .if_icmp .eq 1841), (1839, .iconst 0), (1840, .freturn), (1841, .iinc 3 6), (1844, .goto 18), (1847, .iconst 1), (1848, .freturn)]
def cs_33 : List (Nat × Instr) := cl_33 ++ []
def cs_32 : List (Nat × Instr) := cl_32 ++ cs_33
def cs_31 : List (Nat × Instr) := cl_31 ++ cs_32
def cs_30 : List (Nat × Instr) := cl_30 ++ cs_31
def cs_29 : List (Nat × Instr) := cl_29 ++ cs_30
def cs_28 : List (Nat × Instr) := cl_28 ++ cs_29
def cs_27 : List (Nat × Instr) := cl_27 ++ cs_28
def cs_26 : List (Nat × Instr) := cl_26 ++ cs_27
def cs_25 : List (Nat × Instr) := cl_25 ++ cs_26
def cs_24 : List (Nat × Instr) := cl_24 ++ cs_25
def cs_23 : List (Nat × Instr) := cl_23 ++ cs_24
def cs_22 : List (Nat × Instr) := cl_22 ++ cs_23
def cs_21 : List (Nat × Instr) := cl_21 ++ cs_22
def cs_20 : List (Nat × Instr) := cl_20 ++ cs_21
def cs_19 : List (Nat × Instr) := cl_19 ++ cs_20
def cs_18 : List (Nat × Instr) := cl_18 ++ cs_19
def cs_17 : List (Nat × Instr) := cl_17 ++ cs_18
def cs_16 : List (Nat × Instr) := cl_16 ++ cs_17
def cs_15 : List (Nat × Instr) := cl_15 ++ cs_16
def cs_14 : List (Nat × Instr) := cl_14 ++ cs_15
def cs_13 : List (Nat × Instr) := cl_13 ++ cs_14
def cs_12 : List (Nat × Instr) := cl_12 ++ cs_13
def cs_11 : List (Nat × Instr) := cl_11 ++ cs_12
def cs_10 : List (Nat × Instr) := cl_10 ++ cs_11
def cs_9 : List (Nat × Instr) := cl_9 ++ cs_10
def cs_8 : List (Nat × Instr) := cl_8 ++ cs_9
def cs_7 : List (Nat × Instr) := cl_7 ++ cs_8
def cs_6 : List (Nat × Instr) := cl_6 ++ cs_7
def cs_5 : List (Nat × Instr) := cl_5 ++ cs_6
def cs_4 : List (Nat × Instr) := cl_4 ++ cs_5
def cs_3 : List (Nat × Instr) := cl_3 ++ cs_4
def cs_2 : List (Nat × Instr) := cl_2 ++ cs_3
def cs_1 : List (Nat × Instr) := cl_1 ++ cs_2
def cs_0 : List (Nat × Instr) := cl_0 ++ cs_1
def c_Law : List (Nat × Instr) := cs_0
def t_Law : List mm_T := [(18, 1847, [2, 2, 2, 0], [1847])]
def q_Law : mm_M := (c_Law, 4, t_Law)
def mm_pl_Law : List (Nat × Instr) := [(7, .new 785), (9, .invokespecial 9115916), (10, .new 883), (12, .invokespecial 13965581), (13, .invokevirtual 9191436), (17, .invokevirtual 15417357), (18, .invokevirtual 9261068), (22, .invokevirtual 15552525), (23, .invokevirtual 9318412), (27, .invokevirtual 15609869), (28, .invokevirtual 9383948), (31, .invokevirtual 15675405), (32, .invokevirtual 9453580), (35, .invokevirtual 15876109), (36, .invokevirtual 9515020), (39, .invokevirtual 16068621), (40, .invokevirtual 9584652), (43, .invokevirtual 16400397), (44, .invokevirtual 9650188), (47, .invokevirtual 16203789), (48, .invokevirtual 9715724), (51, .invokevirtual 16269325), (52, .invokevirtual 9773068), (56, .invokevirtual 16654349), (57, .invokevirtual 9850892), (60, .invokevirtual 18042893), (61, .invokevirtual 9904140), (64, .invokevirtual 18161677), (65, .invokevirtual 9973772), (68, .invokevirtual 18231309), (69, .invokevirtual 10051596), (73, .invokevirtual 21061645), (74, .invokevirtual 10100748), (77, .invokevirtual 22093837), (78, .invokevirtual 10162188), (82, .invokevirtual 14356493), (83, .invokevirtual 10227724), (86, .invokevirtual 14422029), (87, .invokevirtual 10305548), (90, .invokevirtual 18890765), (91, .invokevirtual 10366988), (94, .invokevirtual 18821133), (95, .invokevirtual 10436620), (98, .invokevirtual 18956301), (99, .invokevirtual 10498060), (102, .invokevirtual 19017741), (103, .invokevirtual 10559500), (106, .invokevirtual 19079181), (107, .invokevirtual 10629132), (110, .invokevirtual 19148813), (111, .invokevirtual 10694668), (114, .invokevirtual 19214349), (115, .invokevirtual 10752012), (118, .invokevirtual 19271693), (119, .invokevirtual 10821644), (122, .invokevirtual 19472397), (123, .invokevirtual 10895372), (126, .invokevirtual 19546125), (127, .invokevirtual 10956812), (130, .invokevirtual 19607565), (131, .invokevirtual 11026444), (134, .invokevirtual 19677197), (135, .invokevirtual 11096076), (138, .invokevirtual 19812365), (139, .invokevirtual 11153420), (142, .invokevirtual 19869709), (143, .invokevirtual 11223052), (146, .invokevirtual 20004877), (147, .invokevirtual 11288588), (150, .invokevirtual 20135949), (151, .invokevirtual 11345932), (154, .invokevirtual 20258829), (155, .invokevirtual 11407372), (158, .invokevirtual 20320269), (159, .invokevirtual 11477004), (162, .invokevirtual 20389901), (163, .invokevirtual 11546636), (166, .invokevirtual 20459533), (167, .invokevirtual 11608076), (170, .invokevirtual 16523277), (171, .invokevirtual 11677708), (174, .invokevirtual 20656141), (175, .invokevirtual 11747340), (178, .invokevirtual 20791309), (179, .invokevirtual 11808780), (182, .invokevirtual 20852749), (183, .invokevirtual 11882508), (186, .invokevirtual 20926477), (187, .invokevirtual 11939852), (190, .invokevirtual 16723981), (191, .invokevirtual 11997196), (194, .invokevirtual 21696525), (195, .invokevirtual 12070924), (198, .invokevirtual 22163469), (199, .invokevirtual 12128268), (202, .invokevirtual 14487565), (203, .invokevirtual 12193804), (206, .invokevirtual 14553101), (207, .invokevirtual 12259340), (210, .invokevirtual 20516877), (211, .invokevirtual 12328972), (214, .invokevirtual 22224909)]
set_option maxRecDepth 20000 in
theorem mm_pk_Law : ∀ q ∈ mm_pl_Law, mm_PK "FewRectanglesLaw" q.1 q.2 := mm_pool_g [[139, 140, 118], [118, 141, 142, 0], [1590, 1591, 131], [131, 1592, 1593, 0], [118, 566, 567, 568], [131, 1784, 1785, 1786], [118, 642, 643, 644], [131, 1825, 1826, 1827], [118, 665, 666, 667], [131, 1840, 1841, 1842], [118, 677, 678, 679], [131, 1844, 1845, 1846], [118, 693, 694, 695], [131, 1854, 1855, 1856], [118, 735, 736, 737], [131, 1870, 1871, 1872], [118, 768, 769, 770], [131, 1898, 1899, 1900], [118, 779, 780, 781], [131, 1882, 1883, 1884], [118, 791, 792, 793], [131, 1894, 1895, 1896], [118, 799, 800, 801], [131, 1918, 1919, 1920], [118, 818, 819, 820], [131, 1932, 1933, 1934], [118, 1050, 1051, 1052], [131, 2021, 2022, 2023], [118, 1055, 1056, 1057], [131, 2029, 2030, 2031], [118, 1063, 1064, 1065], [131, 2213, 2214, 2215], [118, 1090, 1091, 1092], [131, 2275, 2276, 2277], [118, 1131, 1132, 1133], [131, 1764, 1765, 1766], [118, 1139, 1140, 1141], [131, 1772, 1773, 1774], [118, 1147, 1148, 1149], [131, 2072, 2073, 2074], [118, 1205, 1206, 1207], [131, 2033, 2034, 2035], [118, 1244, 1245, 1246], [131, 2077, 2078, 2079], [118, 1251, 1252, 1253], [131, 2081, 2082, 2083], [118, 1259, 1260, 1261], [131, 2085, 2086, 2087], [118, 1265, 1266, 1267], [131, 2090, 2091, 2092], [118, 1274, 1275, 1276], [131, 2094, 2095, 2096], [118, 1289, 1290, 1291], [131, 2099, 2100, 2101], [118, 1293, 1294, 1295], [131, 2104, 2105, 2106], [118, 1323, 1324, 1325], [131, 2116, 2117, 2118], [118, 1333, 1334, 1335], [131, 2120, 2121, 2122], [118, 1338, 1339, 1340], [131, 2124, 2125, 2126], [118, 1353, 1354, 1355], [131, 2132, 2133, 2134], [118, 1376, 1377, 1378], [131, 2142, 2143, 2144], [118, 1389, 1390, 1391], [131, 2150, 2151, 2152], [118, 1393, 1394, 1395], [131, 2154, 2155, 2156], [118, 1407, 1408, 1409], [131, 2162, 2163, 2164], [118, 1420, 1421, 1422], [131, 2170, 2171, 2172], [118, 1428, 1429, 1430], [131, 2174, 2175, 2176], [118, 1436, 1437, 1438], [131, 2178, 2179, 2180], [118, 1452, 1453, 1454], [131, 1906, 1907, 1908], [118, 1461, 1462, 1463], [131, 2186, 2187, 2188], [118, 1470, 1471, 1472], [131, 2193, 2194, 2195], [118, 1474, 1475, 1476], [131, 2201, 2202, 2203], [118, 1478, 1479, 1480], [131, 2205, 2206, 2207], [118, 1496, 1497, 1498], [131, 1927, 1928, 1929], [118, 1505, 1506, 1507], [131, 2218, 2219, 2220], [118, 1561, 1562, 1563], [131, 2298, 2299, 2300], [118, 1565, 1566, 1567], [131, 1776, 1777, 1778], [118, 1570, 1571, 1572], [131, 1780, 1781, 1782], [118, 1578, 1579, 1580], [131, 2182, 2183, 2184], [118, 1586, 1587, 1588], [131, 2304, 2305, 2306]] (by decide +kernel) (by decide +kernel)
def mm_chk2 (lt : List mm_T) (pool : List (Nat × Instr)) (isI : Bool) (rt : Option FieldType) (cc : ByteArray) (nL z : Nat) : List (Nat × Instr) → Bool
  | [] => true
  | q :: tl => mm_ck lt pool isI rt cc nL q.1 (match tl with | [] => z | t :: _ => t.1) q.2 && mm_chk2 lt pool isI rt cc nL z tl
theorem mm_chk2_app {lt : List mm_T} {pool : List (Nat × Instr)} {isI : Bool} {rt : Option FieldType} {cc : ByteArray} {nL z : Nat} {b : List (Nat × Instr)} (hz : mm_nx b = z) (hb : mm_chk lt pool isI rt cc nL b = true) : ∀ a : List (Nat × Instr), mm_chk2 lt pool isI rt cc nL z a = true → mm_chk lt pool isI rt cc nL (a ++ b) = true
  | [], _ => hb
  | q :: tl, h => by
    obtain ⟨h1, h2⟩ := mm_an h
    show (mm_ck lt pool isI rt cc nL q.1 (mm_nx (tl ++ b)) q.2 && mm_chk lt pool isI rt cc nL (tl ++ b)) = true
    rw [mm_chk2_app hz hb tl h2, Bool.and_true]
    cases tl with
    | nil => rw [List.nil_append, hz]; exact h1
    | cons t ts => exact h1
set_option maxRecDepth 20000 in
theorem mm_cl_33 : mm_chk2 t_Law mm_pl_Law false ret code 4 1000000 cl_33 = true := by decide +kernel
theorem mm_cs_33 : mm_chk t_Law mm_pl_Law false ret code 4 cs_33 = true := mm_chk2_app rfl rfl cl_33 mm_cl_33
set_option maxRecDepth 20000 in
theorem mm_cl_32 : mm_chk2 t_Law mm_pl_Law false ret code 4 1831 cl_32 = true := by decide +kernel
theorem mm_cs_32 : mm_chk t_Law mm_pl_Law false ret code 4 cs_32 = true := mm_chk2_app rfl mm_cs_33 cl_32 mm_cl_32
set_option maxRecDepth 20000 in
theorem mm_cl_31 : mm_chk2 t_Law mm_pl_Law false ret code 4 1767 cl_31 = true := by decide +kernel
theorem mm_cs_31 : mm_chk t_Law mm_pl_Law false ret code 4 cs_31 = true := mm_chk2_app rfl mm_cs_32 cl_31 mm_cl_31
set_option maxRecDepth 20000 in
theorem mm_cl_30 : mm_chk2 t_Law mm_pl_Law false ret code 4 1715 cl_30 = true := by decide +kernel
theorem mm_cs_30 : mm_chk t_Law mm_pl_Law false ret code 4 cs_30 = true := mm_chk2_app rfl mm_cs_31 cl_30 mm_cl_30
set_option maxRecDepth 20000 in
theorem mm_cl_29 : mm_chk2 t_Law mm_pl_Law false ret code 4 1667 cl_29 = true := by decide +kernel
theorem mm_cs_29 : mm_chk t_Law mm_pl_Law false ret code 4 cs_29 = true := mm_chk2_app rfl mm_cs_30 cl_29 mm_cl_29
set_option maxRecDepth 20000 in
theorem mm_cl_28 : mm_chk2 t_Law mm_pl_Law false ret code 4 1621 cl_28 = true := by decide +kernel
theorem mm_cs_28 : mm_chk t_Law mm_pl_Law false ret code 4 cs_28 = true := mm_chk2_app rfl mm_cs_29 cl_28 mm_cl_28
set_option maxRecDepth 20000 in
theorem mm_cl_27 : mm_chk2 t_Law mm_pl_Law false ret code 4 1575 cl_27 = true := by decide +kernel
theorem mm_cs_27 : mm_chk t_Law mm_pl_Law false ret code 4 cs_27 = true := mm_chk2_app rfl mm_cs_28 cl_27 mm_cl_27
set_option maxRecDepth 20000 in
theorem mm_cl_26 : mm_chk2 t_Law mm_pl_Law false ret code 4 1525 cl_26 = true := by decide +kernel
theorem mm_cs_26 : mm_chk t_Law mm_pl_Law false ret code 4 cs_26 = true := mm_chk2_app rfl mm_cs_27 cl_26 mm_cl_26
set_option maxRecDepth 20000 in
theorem mm_cl_25 : mm_chk2 t_Law mm_pl_Law false ret code 4 1473 cl_25 = true := by decide +kernel
theorem mm_cs_25 : mm_chk t_Law mm_pl_Law false ret code 4 cs_25 = true := mm_chk2_app rfl mm_cs_26 cl_25 mm_cl_25
set_option maxRecDepth 20000 in
theorem mm_cl_24 : mm_chk2 t_Law mm_pl_Law false ret code 4 1415 cl_24 = true := by decide +kernel
theorem mm_cs_24 : mm_chk t_Law mm_pl_Law false ret code 4 cs_24 = true := mm_chk2_app rfl mm_cs_25 cl_24 mm_cl_24
set_option maxRecDepth 20000 in
theorem mm_cl_23 : mm_chk2 t_Law mm_pl_Law false ret code 4 1369 cl_23 = true := by decide +kernel
theorem mm_cs_23 : mm_chk t_Law mm_pl_Law false ret code 4 cs_23 = true := mm_chk2_app rfl mm_cs_24 cl_23 mm_cl_23
set_option maxRecDepth 20000 in
theorem mm_cl_22 : mm_chk2 t_Law mm_pl_Law false ret code 4 1323 cl_22 = true := by decide +kernel
theorem mm_cs_22 : mm_chk t_Law mm_pl_Law false ret code 4 cs_22 = true := mm_chk2_app rfl mm_cs_23 cl_22 mm_cl_22
set_option maxRecDepth 20000 in
theorem mm_cl_21 : mm_chk2 t_Law mm_pl_Law false ret code 4 1277 cl_21 = true := by decide +kernel
theorem mm_cs_21 : mm_chk t_Law mm_pl_Law false ret code 4 cs_21 = true := mm_chk2_app rfl mm_cs_22 cl_21 mm_cl_21
set_option maxRecDepth 20000 in
theorem mm_cl_20 : mm_chk2 t_Law mm_pl_Law false ret code 4 1231 cl_20 = true := by decide +kernel
theorem mm_cs_20 : mm_chk t_Law mm_pl_Law false ret code 4 cs_20 = true := mm_chk2_app rfl mm_cs_21 cl_20 mm_cl_20
set_option maxRecDepth 20000 in
theorem mm_cl_19 : mm_chk2 t_Law mm_pl_Law false ret code 4 1183 cl_19 = true := by decide +kernel
theorem mm_cs_19 : mm_chk t_Law mm_pl_Law false ret code 4 cs_19 = true := mm_chk2_app rfl mm_cs_20 cl_19 mm_cl_19
set_option maxRecDepth 20000 in
theorem mm_cl_18 : mm_chk2 t_Law mm_pl_Law false ret code 4 1137 cl_18 = true := by decide +kernel
theorem mm_cs_18 : mm_chk t_Law mm_pl_Law false ret code 4 cs_18 = true := mm_chk2_app rfl mm_cs_19 cl_18 mm_cl_18
set_option maxRecDepth 20000 in
theorem mm_cl_17 : mm_chk2 t_Law mm_pl_Law false ret code 4 1081 cl_17 = true := by decide +kernel
theorem mm_cs_17 : mm_chk t_Law mm_pl_Law false ret code 4 cs_17 = true := mm_chk2_app rfl mm_cs_18 cl_17 mm_cl_17
set_option maxRecDepth 20000 in
theorem mm_cl_16 : mm_chk2 t_Law mm_pl_Law false ret code 4 1033 cl_16 = true := by decide +kernel
theorem mm_cs_16 : mm_chk t_Law mm_pl_Law false ret code 4 cs_16 = true := mm_chk2_app rfl mm_cs_17 cl_16 mm_cl_16
set_option maxRecDepth 20000 in
theorem mm_cl_15 : mm_chk2 t_Law mm_pl_Law false ret code 4 981 cl_15 = true := by decide +kernel
theorem mm_cs_15 : mm_chk t_Law mm_pl_Law false ret code 4 cs_15 = true := mm_chk2_app rfl mm_cs_16 cl_15 mm_cl_15
set_option maxRecDepth 20000 in
theorem mm_cl_14 : mm_chk2 t_Law mm_pl_Law false ret code 4 935 cl_14 = true := by decide +kernel
theorem mm_cs_14 : mm_chk t_Law mm_pl_Law false ret code 4 cs_14 = true := mm_chk2_app rfl mm_cs_15 cl_14 mm_cl_14
set_option maxRecDepth 20000 in
theorem mm_cl_13 : mm_chk2 t_Law mm_pl_Law false ret code 4 885 cl_13 = true := by decide +kernel
theorem mm_cs_13 : mm_chk t_Law mm_pl_Law false ret code 4 cs_13 = true := mm_chk2_app rfl mm_cs_14 cl_13 mm_cl_13
set_option maxRecDepth 20000 in
theorem mm_cl_12 : mm_chk2 t_Law mm_pl_Law false ret code 4 833 cl_12 = true := by decide +kernel
theorem mm_cs_12 : mm_chk t_Law mm_pl_Law false ret code 4 cs_12 = true := mm_chk2_app rfl mm_cs_13 cl_12 mm_cl_12
set_option maxRecDepth 20000 in
theorem mm_cl_11 : mm_chk2 t_Law mm_pl_Law false ret code 4 781 cl_11 = true := by decide +kernel
theorem mm_cs_11 : mm_chk t_Law mm_pl_Law false ret code 4 cs_11 = true := mm_chk2_app rfl mm_cs_12 cl_11 mm_cl_11
set_option maxRecDepth 20000 in
theorem mm_cl_10 : mm_chk2 t_Law mm_pl_Law false ret code 4 735 cl_10 = true := by decide +kernel
theorem mm_cs_10 : mm_chk t_Law mm_pl_Law false ret code 4 cs_10 = true := mm_chk2_app rfl mm_cs_11 cl_10 mm_cl_10
set_option maxRecDepth 20000 in
theorem mm_cl_9 : mm_chk2 t_Law mm_pl_Law false ret code 4 687 cl_9 = true := by decide +kernel
theorem mm_cs_9 : mm_chk t_Law mm_pl_Law false ret code 4 cs_9 = true := mm_chk2_app rfl mm_cs_10 cl_9 mm_cl_9
set_option maxRecDepth 20000 in
theorem mm_cl_8 : mm_chk2 t_Law mm_pl_Law false ret code 4 641 cl_8 = true := by decide +kernel
theorem mm_cs_8 : mm_chk t_Law mm_pl_Law false ret code 4 cs_8 = true := mm_chk2_app rfl mm_cs_9 cl_8 mm_cl_8
set_option maxRecDepth 20000 in
theorem mm_cl_7 : mm_chk2 t_Law mm_pl_Law false ret code 4 591 cl_7 = true := by decide +kernel
theorem mm_cs_7 : mm_chk t_Law mm_pl_Law false ret code 4 cs_7 = true := mm_chk2_app rfl mm_cs_8 cl_7 mm_cl_7
set_option maxRecDepth 20000 in
theorem mm_cl_6 : mm_chk2 t_Law mm_pl_Law false ret code 4 545 cl_6 = true := by decide +kernel
theorem mm_cs_6 : mm_chk t_Law mm_pl_Law false ret code 4 cs_6 = true := mm_chk2_app rfl mm_cs_7 cl_6 mm_cl_6
set_option maxRecDepth 20000 in
theorem mm_cl_5 : mm_chk2 t_Law mm_pl_Law false ret code 4 497 cl_5 = true := by decide +kernel
theorem mm_cs_5 : mm_chk t_Law mm_pl_Law false ret code 4 cs_5 = true := mm_chk2_app rfl mm_cs_6 cl_5 mm_cl_5
set_option maxRecDepth 20000 in
theorem mm_cl_4 : mm_chk2 t_Law mm_pl_Law false ret code 4 451 cl_4 = true := by decide +kernel
theorem mm_cs_4 : mm_chk t_Law mm_pl_Law false ret code 4 cs_4 = true := mm_chk2_app rfl mm_cs_5 cl_4 mm_cl_4
set_option maxRecDepth 20000 in
theorem mm_cl_3 : mm_chk2 t_Law mm_pl_Law false ret code 4 405 cl_3 = true := by decide +kernel
theorem mm_cs_3 : mm_chk t_Law mm_pl_Law false ret code 4 cs_3 = true := mm_chk2_app rfl mm_cs_4 cl_3 mm_cl_3
set_option maxRecDepth 20000 in
theorem mm_cl_2 : mm_chk2 t_Law mm_pl_Law false ret code 4 355 cl_2 = true := by decide +kernel
theorem mm_cs_2 : mm_chk t_Law mm_pl_Law false ret code 4 cs_2 = true := mm_chk2_app rfl mm_cs_3 cl_2 mm_cl_2
set_option maxRecDepth 20000 in
theorem mm_cl_1 : mm_chk2 t_Law mm_pl_Law false ret code 4 307 cl_1 = true := by decide +kernel
theorem mm_cs_1 : mm_chk t_Law mm_pl_Law false ret code 4 cs_1 = true := mm_chk2_app rfl mm_cs_2 cl_1 mm_cl_1
set_option maxRecDepth 20000 in
theorem mm_cl_0 : mm_chk2 t_Law mm_pl_Law false ret code 4 263 cl_0 = true := by decide +kernel
theorem mm_cs_0 : mm_chk t_Law mm_pl_Law false ret code 4 cs_0 = true := mm_chk2_app rfl mm_cs_1 cl_0 mm_cl_0
theorem mm_chk_Law : mm_chk t_Law mm_pl_Law false ret code 4 c_Law = true := mm_cs_0
/-- what is owed of the mini run -/
def mm_PURE : Prop := ∀ (L : Nat) (scr : Nat → Int32), L ≤ 3072 → ∃ (w' : mm_W) (h' : mm_H), mm_run (mm_P 800) q_Law [(2, -1)] (mm_w0 L) (mm_h0 scr) = some ((0, 1), w', h') ∧ w'.2.1 ≤ 600001 ∧ w'.2.2 ≤ 7302250
/-! THE CLAIM OUT OF ONE WALK OF THE LAW'S BODY. Your part is whole_start (and what it stands on); all else here is the same for every law, but numbers. -/
def R_law : String := "FewRectanglesLaw"
def lw_P (b : Addr) (xs : List Int32) (args : Array Value) (s : State) : Prop := args = #[.ref b] ∧ s.IntsAt b xs ∧ xs.length ≤ 3072 ∧ (Jvm.Cond.and given_1 narrow_1).before args s = true
def lw_Q (_ : Array Value) (s : State) (o : Outcome) (t : State) : Prop := o = .returned (some (.int 1)) ∧ Framed s o t [] 600000 7302250
def lw_Z (below : List Frame) (a : Array Value) (s : State) : State → Prop := fun t => ∃ o, t.status = .running ∧ Ended t below o ∧ lw_Q a s o t
/-- the law's own end, with 1 on the stack, nothing written that was there before, its room as the claim has it -/
theorem lw_ret {p : Program} {l : Launch} {e : Env} {s : State} {m : MethodId} {below : List Frame} {meth : Method} {c : Code} {b : Nat} (hx : p.tables.exec = Jvm.exec) (hb : c.code = code) (hr : meth.sig.returnType = ret) (hlocks : meth.locks = false) {pc : Nat} {H : Heap} {ls : Array Slot} (hdg : decode code pc = .ok (.ireturn, 1)) : W p l e room_1 s m #[Value.ref b] below meth c H [] 600000 7302250 (lw_Z below #[Value.ref b] s) (F0 m pc ls [.int 1]) := by
  intro T hT X
  obtain ⟨fs, hret, hrun, hended, hW, hframe⟩ := X.leave (v := some (.int 1)) (hlocks := hlocks) (fun h => by rw [hr] at h; cases h)
  have hmeth' : T.vm.method? m = some meth := X.method'
  refine ⟨T.setFrames fs, ?_, .returned (some (.int 1)), hrun, hended, rfl, ⟨_, rfl⟩, hW, hframe⟩
  jvm_step X.here [X.here.top, hx, hb, hdg, hmeth', hr, ret, narrow_b1]
  (try refine ⟨rfl, ?_⟩); (try refine ⟨rfl, ?_⟩)
  first | (intro acts; rw [hret _ acts rfl rfl rfl]) | rw [hret _ _ rfl rfl rfl]
  exact Steps.refl _
/-- what holds at the law's entry: the machine, the code, the tables' words (any of lw_tbl by 'hts w (by decide +kernel)'), the script of L ints xs at the cell b, what the Statement gives of the start (any of its parts by flat_of_before) -/
def lw_At (p : Program) (s : State) (m : MethodId) (meth : Method) (c : Code) (b L : Nat) (xs : Nat → Int32) : Prop :=
  p.tables.exec = Jvm.exec ∧ c.code = code ∧ meth.sig.returnType = ret ∧ c.maxLocals = 4 ∧ s.vm.findClass R_law = some m.cls ∧ (∀ w ∈ lw_tbl, w.before #[Value.ref b] s = true) ∧ va_X b L xs s s.heap ∧ b < s.heap.size ∧ meth.locks = false ∧ (Jvm.Cond.and given_1 narrow_1).before #[Value.ref b] s = true
section MM
variable {D : va_G} {tys : List (ClassId × FieldType)} {old : Int → Nat}
set_option maxHeartbeats 4000000 in
theorem whole_open (PU : mm_PURE) {p : Program} {e : Env} {s : State} {m : MethodId} {below : List Frame} {meth : Method} {c : Code} (l : Launch) {b L : Nat} {xs : Nat → Int32} (hL : L ≤ 3072) (C0 : lw_At p s m meth c b L xs) : W p l e room_1 s m #[Value.ref b] below meth c s.heap [] 0 0 (lw_Z below #[Value.ref b] s) (entryFrame m ([Value.ref b] : List Value).toArray 4) := by
  obtain ⟨hx, hb, hr, hml, hown, hts, hX, hbl, hlocks, hgv⟩ := C0
  obtain ⟨D, tys, old, hE, ho⟩ := mm_env hts hgv hX hbl
  obtain ⟨w', h', H, hc, hsl⟩ := PU L xs hL
  have hO1 : ∀ x as w h r, mm_P 800 x as w h = some r → mm_le w r.2.1 := fun x as w h r H => (mm_all (D := D) (tys := tys) (B := s.heap.size) (old := old) (L0 := L) (scr := xs) (l := l) 800 x as w h r H).1
  have hle : mm_le (mm_w0 L) w' := mm_run_le hO1 H
  obtain ⟨hn, H⟩ := mm_run_go H
  have F : mm_Fr D tys s.heap.size old L xs p s m #[Value.ref b] meth c 4 "FewRectanglesLaw" code meth.name ret := ⟨hx, hb, hml, hown, fun w hw => hts w (List.mem_filter.mp hw).1, hE, rfl, hr, hlocks⟩
  have hst : mm_SR old [] [((2 : Nat), (-1 : Int))] [Value.ref b] := by
    refine ⟨⟨?_, ?_⟩, trivial⟩
    all_goals first | decide | skip
    show Value.ref b = va_rf (mm_adr old [] (-1))
    unfold mm_adr
    rw [if_pos (by decide), ho]
    rfl
  have hQ : mm_HQ D tys s.heap.size old L xs p l e room_1 s m #[Value.ref b] below meth c 4 [] (mm_w0 L) (lw_Z below #[Value.ref b] s) ((0, 1), w', h') code ret := by
    intro pc L2 v w2 h2 hr2 hk ρ2 H2 locs ls sv hρ hH hS hL2 hst2
    obtain ⟨x, sv, rfl, hx2, hst3⟩ := mm_SR_cons hst2
    have hst3 := mm_SR_nil hst3
    subst hst3
    cases hr2
    rcases hk with ⟨hdg, hv0, hk⟩ | ⟨hdg, hv0, hk⟩ | ⟨hdg, hv0, hk⟩
    · obtain ⟨hz, rfl⟩ := hx2
      have e0 : (w'.2.1 - (mm_w0 L).2.1).toNat ≤ 600000 := by show (w'.2.1 - 1).toNat ≤ 600000; omega
      have e1 : (w'.2.2 - (mm_w0 L).2.2).toNat ≤ 7302250 := by show (w'.2.2 - 0).toNat ≤ 7302250; omega
      have K := lw_ret (p := p) (l := l) (e := e) (s := s) (m := m) (below := below) (meth := meth) (c := c) (b := b) hx hb hr hlocks (H := H2) (ls := ls) hdg
      exact va_forget (fun q hq => hS.2.2 q hq) (W.widen e0 e1 K)
    · exact absurd hv0 (by decide)
    · exact absurd hv0 (by decide)
  have hQ0 : ∀ (pc : Nat) (L2 : List mm_V) (w2 : mm_W) (h2 : mm_H), ((((0 : Nat), (1 : Int)), w', h') : mm_R) = ((9, 0), w2, h2) → decode code pc = .ok (.return_, 1) → mm_rt ret 6 = true → mm_Wc D tys s.heap.size old L xs p l e room_1 s m #[Value.ref b] below meth c 4 [] (mm_w0 L) (lw_Z below #[Value.ref b] s) pc L2 [] w2 h2 := by
    intro pc L2 w2 h2 h3
    cases h3
  have hRm : mm_Rm room_1 [] (mm_w0 L) w' := ⟨by show (w'.2.1 - 1).toNat ≤ room_1.cells; have : room_1.cells = 600000 := rfl; omega, by show (w'.2.2 - 0).toNat ≤ room_1.slots; have : room_1.slots = 7302250 := rfl; omega⟩
  have hR : 1 ≤ room_1.frames ∧ 24 + 13 ≤ room_1.locals ∧ nativeFrameWords "java/lang/System" "arraycopy" 5 + 11 ≤ room_1.locals := ⟨by decide +kernel, by decide +kernel, by decide +kernel⟩
  have hO : ∀ x as w h r, mm_P 800 x as w h = some r → mm_OK D tys s.heap.size old L xs l room_1 x as w h r := by
    intro x as w h r H
    obtain ⟨a1, a2, a3, a4⟩ := mm_all (D := D) (tys := tys) (B := s.heap.size) (old := old) (L0 := L) (scr := xs) (l := l) 800 x as w h r H
    have f1 : 900 ≤ room_1.frames := by decide +kernel
    have f2 : 80000 ≤ room_1.locals := by decide +kernel
    exact ⟨a1, a2, 800, by omega, by omega, a4⟩
  have hlp := mm_slp F mm_kw mm_pk_Law (fun h => by cases h) hRm hR hO hQ hQ0 c_Law mm_chk_Law 6
  have g := mm_sg F mm_kw mm_pk_Law (fun h => by cases h) hRm hR hO hlp hQ hQ0 c_Law mm_chk_Law 0 _ [] (mm_w0 L) (mm_h0 xs) _ H
  have h0 : mm_nx c_Law = 0 := rfl
  rw [if_pos rfl, h0] at g
  have k := (g.2 rfl).2 [] s.heap [] _ [] ⟨⟨[], by simp⟩, Int.le_refl _, Int.le_refl _⟩ (mm_HR0 hL s.heap) va_S.rf (mm_LR_in hst hn) trivial
  rw [lg_entry_eq]
  have z1 : ((mm_w0 L).2.1 - (mm_w0 L).2.1).toNat = 0 := by omega
  have z2 : ((mm_w0 L).2.2 - (mm_w0 L).2.2).toNat = 0 := by omega
  rw [z1, z2] at k
  exact k
end MM
end
