section
-- ===== PART A: goes FIRST, ahead of the names: the tables' words, and 'selects' of the private methods out of them =====
/-- a private method of a class that the tables say can be made, by its rows of tables_1 -/
def lw_okq (q : MethodName × Nat) : Prop := (q.1.cls ≠ "java/lang/invoke/MethodHandle" ∧ q.1.cls ≠ "java/lang/invoke/VarHandle") ∧ Cond.instantiable q.1.cls q.2 ∈ tables_1 ∧ Cond.privateMethod q.1 ∈ tables_1 ∧ Cond.instanceMethod q.1 ∈ tables_1
theorem lw_p0 : lw_okq (⟨"PaceStore", "found", "(I)I"⟩, 11) := ⟨⟨by decide +kernel, by decide +kernel⟩, List.mem_of_getElem? (i := 21) (by decide +kernel), List.mem_of_getElem? (i := 423) (by decide +kernel), List.mem_of_getElem? (i := 424) (by decide +kernel)⟩
theorem lw_p1 : lw_okq (⟨"PaceStore", "foundNothing", "(I)I"⟩, 11) := ⟨⟨by decide +kernel, by decide +kernel⟩, List.mem_of_getElem? (i := 21) (by decide +kernel), List.mem_of_getElem? (i := 435) (by decide +kernel), List.mem_of_getElem? (i := 436) (by decide +kernel)⟩
theorem lw_p2 : lw_okq (⟨"PaceStore", "findingAt", "(III)I"⟩, 11) := ⟨⟨by decide +kernel, by decide +kernel⟩, List.mem_of_getElem? (i := 21) (by decide +kernel), List.mem_of_getElem? (i := 443) (by decide +kernel), List.mem_of_getElem? (i := 444) (by decide +kernel)⟩
theorem lw_p3 : lw_okq (⟨"PaceStore$Reader", "next", "()V"⟩, 9) := ⟨⟨by decide +kernel, by decide +kernel⟩, List.mem_of_getElem? (i := 31) (by decide +kernel), List.mem_of_getElem? (i := 497) (by decide +kernel), List.mem_of_getElem? (i := 498) (by decide +kernel)⟩
theorem lw_p4 : lw_okq (⟨"PaceStore$Reader", "byteAt", "(I)I"⟩, 9) := ⟨⟨by decide +kernel, by decide +kernel⟩, List.mem_of_getElem? (i := 31) (by decide +kernel), List.mem_of_getElem? (i := 501) (by decide +kernel), List.mem_of_getElem? (i := 502) (by decide +kernel)⟩
theorem lw_p5 : lw_okq (⟨"PaceStore$Reader", "takeName", "()V"⟩, 9) := ⟨⟨by decide +kernel, by decide +kernel⟩, List.mem_of_getElem? (i := 31) (by decide +kernel), List.mem_of_getElem? (i := 511) (by decide +kernel), List.mem_of_getElem? (i := 512) (by decide +kernel)⟩
theorem lw_p6 : lw_okq (⟨"PaceStore$Reader", "takeNumber", "(Z)V"⟩, 9) := ⟨⟨by decide +kernel, by decide +kernel⟩, List.mem_of_getElem? (i := 31) (by decide +kernel), List.mem_of_getElem? (i := 518) (by decide +kernel), List.mem_of_getElem? (i := 519) (by decide +kernel)⟩
theorem lw_p7 : lw_okq (⟨"PaceStore$Reader", "readsMile", "()Z"⟩, 9) := ⟨⟨by decide +kernel, by decide +kernel⟩, List.mem_of_getElem? (i := 31) (by decide +kernel), List.mem_of_getElem? (i := 523) (by decide +kernel), List.mem_of_getElem? (i := 524) (by decide +kernel)⟩
theorem lw_p8 : lw_okq (⟨"PaceStore$Reader", "isWord", "(Ljava/lang/String;)Z"⟩, 9) := ⟨⟨by decide +kernel, by decide +kernel⟩, List.mem_of_getElem? (i := 31) (by decide +kernel), List.mem_of_getElem? (i := 528) (by decide +kernel), List.mem_of_getElem? (i := 529) (by decide +kernel)⟩
theorem lw_p9 : lw_okq (⟨"PaceStore$Reader", "fails", "(I)Z"⟩, 9) := ⟨⟨by decide +kernel, by decide +kernel⟩, List.mem_of_getElem? (i := 31) (by decide +kernel), List.mem_of_getElem? (i := 580) (by decide +kernel), List.mem_of_getElem? (i := 581) (by decide +kernel)⟩
theorem lw_p10 : lw_okq (⟨"PaceStore$Reader", "readsNumber", "(II)Z"⟩, 9) := ⟨⟨by decide +kernel, by decide +kernel⟩, List.mem_of_getElem? (i := 31) (by decide +kernel), List.mem_of_getElem? (i := 584) (by decide +kernel), List.mem_of_getElem? (i := 585) (by decide +kernel)⟩
theorem lw_p11 : lw_okq (⟨"PaceStore$Reader", "readsSemicolon", "()Z"⟩, 9) := ⟨⟨by decide +kernel, by decide +kernel⟩, List.mem_of_getElem? (i := 31) (by decide +kernel), List.mem_of_getElem? (i := 588) (by decide +kernel), List.mem_of_getElem? (i := 589) (by decide +kernel)⟩
theorem lw_p12 : lw_okq (⟨"PaceStore$Reader", "readsRunner", "()Z"⟩, 9) := ⟨⟨by decide +kernel, by decide +kernel⟩, List.mem_of_getElem? (i := 31) (by decide +kernel), List.mem_of_getElem? (i := 592) (by decide +kernel), List.mem_of_getElem? (i := 593) (by decide +kernel)⟩
theorem lw_p13 : lw_okq (⟨"PaceStore$Reader", "readsRule", "(I)Z"⟩, 9) := ⟨⟨by decide +kernel, by decide +kernel⟩, List.mem_of_getElem? (i := 31) (by decide +kernel), List.mem_of_getElem? (i := 598) (by decide +kernel), List.mem_of_getElem? (i := 599) (by decide +kernel)⟩
theorem lw_p14 : lw_okq (⟨"PaceStore$Reader", "readsRabbit", "()Z"⟩, 9) := ⟨⟨by decide +kernel, by decide +kernel⟩, List.mem_of_getElem? (i := 31) (by decide +kernel), List.mem_of_getElem? (i := 614) (by decide +kernel), List.mem_of_getElem? (i := 615) (by decide +kernel)⟩
theorem lw_p15 : lw_okq (⟨"PaceStore$Field", "feel", "(LPaceStore$Course;I)V"⟩, 3) := ⟨⟨by decide +kernel, by decide +kernel⟩, List.mem_of_getElem? (i := 201) (by decide +kernel), List.mem_of_getElem? (i := 665) (by decide +kernel), List.mem_of_getElem? (i := 666) (by decide +kernel)⟩
def lw_privs_1 : List (MethodName × Nat) := [(⟨"PaceStore", "found", "(I)I"⟩, 11), (⟨"PaceStore", "foundNothing", "(I)I"⟩, 11), (⟨"PaceStore", "findingAt", "(III)I"⟩, 11), (⟨"PaceStore$Reader", "next", "()V"⟩, 9), (⟨"PaceStore$Reader", "byteAt", "(I)I"⟩, 9), (⟨"PaceStore$Reader", "takeName", "()V"⟩, 9), (⟨"PaceStore$Reader", "takeNumber", "(Z)V"⟩, 9), (⟨"PaceStore$Reader", "readsMile", "()Z"⟩, 9), (⟨"PaceStore$Reader", "isWord", "(Ljava/lang/String;)Z"⟩, 9), (⟨"PaceStore$Reader", "fails", "(I)Z"⟩, 9), (⟨"PaceStore$Reader", "readsNumber", "(II)Z"⟩, 9), (⟨"PaceStore$Reader", "readsSemicolon", "()Z"⟩, 9), (⟨"PaceStore$Reader", "readsRunner", "()Z"⟩, 9), (⟨"PaceStore$Reader", "readsRule", "(I)Z"⟩, 9), (⟨"PaceStore$Reader", "readsRabbit", "()Z"⟩, 9), (⟨"PaceStore$Field", "feel", "(LPaceStore$Course;I)V"⟩, 3)]
theorem lw_r1 : ∀ q ∈ lw_privs_1, lw_okq q := List.forall_mem_cons.mpr ⟨lw_p0, List.forall_mem_cons.mpr ⟨lw_p1, List.forall_mem_cons.mpr ⟨lw_p2, List.forall_mem_cons.mpr ⟨lw_p3, List.forall_mem_cons.mpr ⟨lw_p4, List.forall_mem_cons.mpr ⟨lw_p5, List.forall_mem_cons.mpr ⟨lw_p6, List.forall_mem_cons.mpr ⟨lw_p7, List.forall_mem_cons.mpr ⟨lw_p8, List.forall_mem_cons.mpr ⟨lw_p9, List.forall_mem_cons.mpr ⟨lw_p10, List.forall_mem_cons.mpr ⟨lw_p11, List.forall_mem_cons.mpr ⟨lw_p12, List.forall_mem_cons.mpr ⟨lw_p13, List.forall_mem_cons.mpr ⟨lw_p14, List.forall_mem_cons.mpr ⟨lw_p15, fun _ h => absurd h List.not_mem_nil⟩⟩⟩⟩⟩⟩⟩⟩⟩⟩⟩⟩⟩⟩⟩⟩
theorem lw_p16 : lw_okq (⟨"PaceStore$Field", "leastTime", "()I"⟩, 3) := ⟨⟨by decide +kernel, by decide +kernel⟩, List.mem_of_getElem? (i := 201) (by decide +kernel), List.mem_of_getElem? (i := 669) (by decide +kernel), List.mem_of_getElem? (i := 670) (by decide +kernel)⟩
theorem lw_p17 : lw_okq (⟨"PaceStore$Field", "stepByRules", "(LPaceStore$Course;III)I"⟩, 3) := ⟨⟨by decide +kernel, by decide +kernel⟩, List.mem_of_getElem? (i := 201) (by decide +kernel), List.mem_of_getElem? (i := 677) (by decide +kernel), List.mem_of_getElem? (i := 678) (by decide +kernel)⟩
theorem lw_p18 : lw_okq (⟨"PaceStore$Field", "stepBySlip", "()I"⟩, 3) := ⟨⟨by decide +kernel, by decide +kernel⟩, List.mem_of_getElem? (i := 201) (by decide +kernel), List.mem_of_getElem? (i := 689) (by decide +kernel), List.mem_of_getElem? (i := 690) (by decide +kernel)⟩
theorem lw_p19 : lw_okq (⟨"PaceStore$Field", "isBehindSomeone", "(I)Z"⟩, 3) := ⟨⟨by decide +kernel, by decide +kernel⟩, List.mem_of_getElem? (i := 201) (by decide +kernel), List.mem_of_getElem? (i := 700) (by decide +kernel), List.mem_of_getElem? (i := 701) (by decide +kernel)⟩
theorem lw_p20 : lw_okq (⟨"PaceStore$Field", "rank", "(LPaceStore$Results;)V"⟩, 3) := ⟨⟨by decide +kernel, by decide +kernel⟩, List.mem_of_getElem? (i := 201) (by decide +kernel), List.mem_of_getElem? (i := 728) (by decide +kernel), List.mem_of_getElem? (i := 729) (by decide +kernel)⟩
theorem lw_p21 : lw_okq (⟨"PaceStore$Alone", "faceHeats", "(LPaceStore$Course;II)V"⟩, 11) := ⟨⟨by decide +kernel, by decide +kernel⟩, List.mem_of_getElem? (i := 270) (by decide +kernel), List.mem_of_getElem? (i := 763) (by decide +kernel), List.mem_of_getElem? (i := 764) (by decide +kernel)⟩
theorem lw_p22 : lw_okq (⟨"PaceStore$Alone", "chooseTries", "(I)V"⟩, 11) := ⟨⟨by decide +kernel, by decide +kernel⟩, List.mem_of_getElem? (i := 270) (by decide +kernel), List.mem_of_getElem? (i := 785) (by decide +kernel), List.mem_of_getElem? (i := 786) (by decide +kernel)⟩
theorem lw_p23 : lw_okq (⟨"PaceStore$Alone", "leastAt", "(II)I"⟩, 11) := ⟨⟨by decide +kernel, by decide +kernel⟩, List.mem_of_getElem? (i := 270) (by decide +kernel), List.mem_of_getElem? (i := 789) (by decide +kernel), List.mem_of_getElem? (i := 790) (by decide +kernel)⟩
theorem lw_p24 : lw_okq (⟨"PaceStore$Alone", "firstPace", "(II)I"⟩, 11) := ⟨⟨by decide +kernel, by decide +kernel⟩, List.mem_of_getElem? (i := 270) (by decide +kernel), List.mem_of_getElem? (i := 801) (by decide +kernel), List.mem_of_getElem? (i := 802) (by decide +kernel)⟩
theorem lw_p25 : lw_okq (⟨"PaceStore$Alone", "leftBehind", "(III)I"⟩, 11) := ⟨⟨by decide +kernel, by decide +kernel⟩, List.mem_of_getElem? (i := 270) (by decide +kernel), List.mem_of_getElem? (i := 805) (by decide +kernel), List.mem_of_getElem? (i := 806) (by decide +kernel)⟩
theorem lw_p26 : lw_okq (⟨"PaceStore", "leastLine", "(ILPaceStore$Sheet;I)I"⟩, 11) := ⟨⟨by decide +kernel, by decide +kernel⟩, List.mem_of_getElem? (i := 21) (by decide +kernel), List.mem_of_getElem? (i := 880) (by decide +kernel), List.mem_of_getElem? (i := 881) (by decide +kernel)⟩
theorem lw_p27 : lw_okq (⟨"PaceStore", "bestHour", "(ILPaceStore$Sheet;III)I"⟩, 11) := ⟨⟨by decide +kernel, by decide +kernel⟩, List.mem_of_getElem? (i := 21) (by decide +kernel), List.mem_of_getElem? (i := 919) (by decide +kernel), List.mem_of_getElem? (i := 920) (by decide +kernel)⟩
theorem lw_p28 : lw_okq (⟨"PaceStore$Step", "answer", "(II)I"⟩, 7) := ⟨⟨by decide +kernel, by decide +kernel⟩, List.mem_of_getElem? (i := 333) (by decide +kernel), List.mem_of_getElem? (i := 983) (by decide +kernel), List.mem_of_getElem? (i := 984) (by decide +kernel)⟩
theorem lw_p29 : lw_okq (⟨"PaceStore$Step", "leaveNumber", "(I)V"⟩, 7) := ⟨⟨by decide +kernel, by decide +kernel⟩, List.mem_of_getElem? (i := 333) (by decide +kernel), List.mem_of_getElem? (i := 987) (by decide +kernel), List.mem_of_getElem? (i := 988) (by decide +kernel)⟩
theorem lw_p30 : lw_okq (⟨"PaceStore", "sheetsThere", "()I"⟩, 11) := ⟨⟨by decide +kernel, by decide +kernel⟩, List.mem_of_getElem? (i := 21) (by decide +kernel), List.mem_of_getElem? (i := 1005) (by decide +kernel), List.mem_of_getElem? (i := 1006) (by decide +kernel)⟩
theorem lw_p31 : lw_okq (⟨"PaceStoreModel", "found", "(I)I"⟩, 30) := ⟨⟨by decide +kernel, by decide +kernel⟩, List.mem_of_getElem? (i := 1017) (by decide +kernel), List.mem_of_getElem? (i := 1128) (by decide +kernel), List.mem_of_getElem? (i := 1129) (by decide +kernel)⟩
def lw_privs_2 : List (MethodName × Nat) := [(⟨"PaceStore$Field", "leastTime", "()I"⟩, 3), (⟨"PaceStore$Field", "stepByRules", "(LPaceStore$Course;III)I"⟩, 3), (⟨"PaceStore$Field", "stepBySlip", "()I"⟩, 3), (⟨"PaceStore$Field", "isBehindSomeone", "(I)Z"⟩, 3), (⟨"PaceStore$Field", "rank", "(LPaceStore$Results;)V"⟩, 3), (⟨"PaceStore$Alone", "faceHeats", "(LPaceStore$Course;II)V"⟩, 11), (⟨"PaceStore$Alone", "chooseTries", "(I)V"⟩, 11), (⟨"PaceStore$Alone", "leastAt", "(II)I"⟩, 11), (⟨"PaceStore$Alone", "firstPace", "(II)I"⟩, 11), (⟨"PaceStore$Alone", "leftBehind", "(III)I"⟩, 11), (⟨"PaceStore", "leastLine", "(ILPaceStore$Sheet;I)I"⟩, 11), (⟨"PaceStore", "bestHour", "(ILPaceStore$Sheet;III)I"⟩, 11), (⟨"PaceStore$Step", "answer", "(II)I"⟩, 7), (⟨"PaceStore$Step", "leaveNumber", "(I)V"⟩, 7), (⟨"PaceStore", "sheetsThere", "()I"⟩, 11), (⟨"PaceStoreModel", "found", "(I)I"⟩, 30)]
theorem lw_r2 : ∀ q ∈ lw_privs_2, lw_okq q := List.forall_mem_cons.mpr ⟨lw_p16, List.forall_mem_cons.mpr ⟨lw_p17, List.forall_mem_cons.mpr ⟨lw_p18, List.forall_mem_cons.mpr ⟨lw_p19, List.forall_mem_cons.mpr ⟨lw_p20, List.forall_mem_cons.mpr ⟨lw_p21, List.forall_mem_cons.mpr ⟨lw_p22, List.forall_mem_cons.mpr ⟨lw_p23, List.forall_mem_cons.mpr ⟨lw_p24, List.forall_mem_cons.mpr ⟨lw_p25, List.forall_mem_cons.mpr ⟨lw_p26, List.forall_mem_cons.mpr ⟨lw_p27, List.forall_mem_cons.mpr ⟨lw_p28, List.forall_mem_cons.mpr ⟨lw_p29, List.forall_mem_cons.mpr ⟨lw_p30, List.forall_mem_cons.mpr ⟨lw_p31, fun _ h => absurd h List.not_mem_nil⟩⟩⟩⟩⟩⟩⟩⟩⟩⟩⟩⟩⟩⟩⟩⟩
theorem lw_p32 : lw_okq (⟨"PaceStoreModel", "through", "(I)I"⟩, 30) := ⟨⟨by decide +kernel, by decide +kernel⟩, List.mem_of_getElem? (i := 1017) (by decide +kernel), List.mem_of_getElem? (i := 1133) (by decide +kernel), List.mem_of_getElem? (i := 1134) (by decide +kernel)⟩
theorem lw_p33 : lw_okq (⟨"PaceStoreModel", "holds", "(III)Z"⟩, 30) := ⟨⟨by decide +kernel, by decide +kernel⟩, List.mem_of_getElem? (i := 1017) (by decide +kernel), List.mem_of_getElem? (i := 1145) (by decide +kernel), List.mem_of_getElem? (i := 1146) (by decide +kernel)⟩
theorem lw_p34 : lw_okq (⟨"PaceStoreModel", "readAll", "()Z"⟩, 30) := ⟨⟨by decide +kernel, by decide +kernel⟩, List.mem_of_getElem? (i := 1017) (by decide +kernel), List.mem_of_getElem? (i := 1164) (by decide +kernel), List.mem_of_getElem? (i := 1165) (by decide +kernel)⟩
theorem lw_p35 : lw_okq (⟨"PaceStoreModel", "look", "(I)V"⟩, 30) := ⟨⟨by decide +kernel, by decide +kernel⟩, List.mem_of_getElem? (i := 1017) (by decide +kernel), List.mem_of_getElem? (i := 1168) (by decide +kernel), List.mem_of_getElem? (i := 1169) (by decide +kernel)⟩
theorem lw_p36 : lw_okq (⟨"PaceStoreModel", "isFigureAt", "(I)Z"⟩, 30) := ⟨⟨by decide +kernel, by decide +kernel⟩, List.mem_of_getElem? (i := 1017) (by decide +kernel), List.mem_of_getElem? (i := 1172) (by decide +kernel), List.mem_of_getElem? (i := 1173) (by decide +kernel)⟩
theorem lw_p37 : lw_okq (⟨"PaceStoreModel", "isMileWord", "()Z"⟩, 30) := ⟨⟨by decide +kernel, by decide +kernel⟩, List.mem_of_getElem? (i := 1017) (by decide +kernel), List.mem_of_getElem? (i := 1183) (by decide +kernel), List.mem_of_getElem? (i := 1184) (by decide +kernel)⟩
theorem lw_p38 : lw_okq (⟨"PaceStoreModel", "isWord", "(IIIIII)Z"⟩, 30) := ⟨⟨by decide +kernel, by decide +kernel⟩, List.mem_of_getElem? (i := 1017) (by decide +kernel), List.mem_of_getElem? (i := 1187) (by decide +kernel), List.mem_of_getElem? (i := 1188) (by decide +kernel)⟩
theorem lw_p39 : lw_okq (⟨"PaceStoreModel", "faulty", "(I)Z"⟩, 30) := ⟨⟨by decide +kernel, by decide +kernel⟩, List.mem_of_getElem? (i := 1017) (by decide +kernel), List.mem_of_getElem? (i := 1191) (by decide +kernel), List.mem_of_getElem? (i := 1192) (by decide +kernel)⟩
theorem lw_p40 : lw_okq (⟨"PaceStoreModel", "readMile", "()Z"⟩, 30) := ⟨⟨by decide +kernel, by decide +kernel⟩, List.mem_of_getElem? (i := 1017) (by decide +kernel), List.mem_of_getElem? (i := 1195) (by decide +kernel), List.mem_of_getElem? (i := 1196) (by decide +kernel)⟩
theorem lw_p41 : lw_okq (⟨"PaceStoreModel", "next", "()V"⟩, 30) := ⟨⟨by decide +kernel, by decide +kernel⟩, List.mem_of_getElem? (i := 1017) (by decide +kernel), List.mem_of_getElem? (i := 1199) (by decide +kernel), List.mem_of_getElem? (i := 1200) (by decide +kernel)⟩
theorem lw_p42 : lw_okq (⟨"PaceStoreModel", "readNumber", "(II)Z"⟩, 30) := ⟨⟨by decide +kernel, by decide +kernel⟩, List.mem_of_getElem? (i := 1017) (by decide +kernel), List.mem_of_getElem? (i := 1203) (by decide +kernel), List.mem_of_getElem? (i := 1204) (by decide +kernel)⟩
theorem lw_p43 : lw_okq (⟨"PaceStoreModel", "readStop", "()Z"⟩, 30) := ⟨⟨by decide +kernel, by decide +kernel⟩, List.mem_of_getElem? (i := 1017) (by decide +kernel), List.mem_of_getElem? (i := 1207) (by decide +kernel), List.mem_of_getElem? (i := 1208) (by decide +kernel)⟩
theorem lw_p44 : lw_okq (⟨"PaceStoreModel", "isRunnerWord", "()Z"⟩, 30) := ⟨⟨by decide +kernel, by decide +kernel⟩, List.mem_of_getElem? (i := 1017) (by decide +kernel), List.mem_of_getElem? (i := 1211) (by decide +kernel), List.mem_of_getElem? (i := 1212) (by decide +kernel)⟩
theorem lw_p45 : lw_okq (⟨"PaceStoreModel", "readRunner", "()Z"⟩, 30) := ⟨⟨by decide +kernel, by decide +kernel⟩, List.mem_of_getElem? (i := 1017) (by decide +kernel), List.mem_of_getElem? (i := 1215) (by decide +kernel), List.mem_of_getElem? (i := 1216) (by decide +kernel)⟩
theorem lw_p46 : lw_okq (⟨"PaceStoreModel", "readRule", "(I)Z"⟩, 30) := ⟨⟨by decide +kernel, by decide +kernel⟩, List.mem_of_getElem? (i := 1017) (by decide +kernel), List.mem_of_getElem? (i := 1219) (by decide +kernel), List.mem_of_getElem? (i := 1220) (by decide +kernel)⟩
theorem lw_p47 : lw_okq (⟨"PaceStoreModel", "readRabbit", "()Z"⟩, 30) := ⟨⟨by decide +kernel, by decide +kernel⟩, List.mem_of_getElem? (i := 1017) (by decide +kernel), List.mem_of_getElem? (i := 1223) (by decide +kernel), List.mem_of_getElem? (i := 1224) (by decide +kernel)⟩
def lw_privs_3 : List (MethodName × Nat) := [(⟨"PaceStoreModel", "through", "(I)I"⟩, 30), (⟨"PaceStoreModel", "holds", "(III)Z"⟩, 30), (⟨"PaceStoreModel", "readAll", "()Z"⟩, 30), (⟨"PaceStoreModel", "look", "(I)V"⟩, 30), (⟨"PaceStoreModel", "isFigureAt", "(I)Z"⟩, 30), (⟨"PaceStoreModel", "isMileWord", "()Z"⟩, 30), (⟨"PaceStoreModel", "isWord", "(IIIIII)Z"⟩, 30), (⟨"PaceStoreModel", "faulty", "(I)Z"⟩, 30), (⟨"PaceStoreModel", "readMile", "()Z"⟩, 30), (⟨"PaceStoreModel", "next", "()V"⟩, 30), (⟨"PaceStoreModel", "readNumber", "(II)Z"⟩, 30), (⟨"PaceStoreModel", "readStop", "()Z"⟩, 30), (⟨"PaceStoreModel", "isRunnerWord", "()Z"⟩, 30), (⟨"PaceStoreModel", "readRunner", "()Z"⟩, 30), (⟨"PaceStoreModel", "readRule", "(I)Z"⟩, 30), (⟨"PaceStoreModel", "readRabbit", "()Z"⟩, 30)]
theorem lw_r3 : ∀ q ∈ lw_privs_3, lw_okq q := List.forall_mem_cons.mpr ⟨lw_p32, List.forall_mem_cons.mpr ⟨lw_p33, List.forall_mem_cons.mpr ⟨lw_p34, List.forall_mem_cons.mpr ⟨lw_p35, List.forall_mem_cons.mpr ⟨lw_p36, List.forall_mem_cons.mpr ⟨lw_p37, List.forall_mem_cons.mpr ⟨lw_p38, List.forall_mem_cons.mpr ⟨lw_p39, List.forall_mem_cons.mpr ⟨lw_p40, List.forall_mem_cons.mpr ⟨lw_p41, List.forall_mem_cons.mpr ⟨lw_p42, List.forall_mem_cons.mpr ⟨lw_p43, List.forall_mem_cons.mpr ⟨lw_p44, List.forall_mem_cons.mpr ⟨lw_p45, List.forall_mem_cons.mpr ⟨lw_p46, List.forall_mem_cons.mpr ⟨lw_p47, fun _ h => absurd h List.not_mem_nil⟩⟩⟩⟩⟩⟩⟩⟩⟩⟩⟩⟩⟩⟩⟩⟩
theorem lw_p48 : lw_okq (⟨"PaceStoreModel", "miles", "()I"⟩, 30) := ⟨⟨by decide +kernel, by decide +kernel⟩, List.mem_of_getElem? (i := 1017) (by decide +kernel), List.mem_of_getElem? (i := 1228) (by decide +kernel), List.mem_of_getElem? (i := 1229) (by decide +kernel)⟩
theorem lw_p49 : lw_okq (⟨"PaceStoreModel", "isMile", "(I)Z"⟩, 30) := ⟨⟨by decide +kernel, by decide +kernel⟩, List.mem_of_getElem? (i := 1017) (by decide +kernel), List.mem_of_getElem? (i := 1240) (by decide +kernel), List.mem_of_getElem? (i := 1241) (by decide +kernel)⟩
theorem lw_p50 : lw_okq (⟨"PaceStoreModel", "needOf", "(IIZ)I"⟩, 30) := ⟨⟨by decide +kernel, by decide +kernel⟩, List.mem_of_getElem? (i := 1017) (by decide +kernel), List.mem_of_getElem? (i := 1249) (by decide +kernel), List.mem_of_getElem? (i := 1250) (by decide +kernel)⟩
theorem lw_p51 : lw_okq (⟨"PaceStoreModel", "runners", "()I"⟩, 30) := ⟨⟨by decide +kernel, by decide +kernel⟩, List.mem_of_getElem? (i := 1017) (by decide +kernel), List.mem_of_getElem? (i := 1259) (by decide +kernel), List.mem_of_getElem? (i := 1260) (by decide +kernel)⟩
theorem lw_p52 : lw_okq (⟨"PaceStoreModel", "item", "(II)I"⟩, 30) := ⟨⟨by decide +kernel, by decide +kernel⟩, List.mem_of_getElem? (i := 1017) (by decide +kernel), List.mem_of_getElem? (i := 1263) (by decide +kernel), List.mem_of_getElem? (i := 1264) (by decide +kernel)⟩
theorem lw_p53 : lw_okq (⟨"PaceStoreModel", "startRace", "()V"⟩, 30) := ⟨⟨by decide +kernel, by decide +kernel⟩, List.mem_of_getElem? (i := 1017) (by decide +kernel), List.mem_of_getElem? (i := 1267) (by decide +kernel), List.mem_of_getElem? (i := 1268) (by decide +kernel)⟩
theorem lw_p54 : lw_okq (⟨"PaceStoreModel", "ofRunner", "(II)I"⟩, 30) := ⟨⟨by decide +kernel, by decide +kernel⟩, List.mem_of_getElem? (i := 1017) (by decide +kernel), List.mem_of_getElem? (i := 1271) (by decide +kernel), List.mem_of_getElem? (i := 1272) (by decide +kernel)⟩
theorem lw_p55 : lw_okq (⟨"PaceStoreModel", "leastTime", "()I"⟩, 30) := ⟨⟨by decide +kernel, by decide +kernel⟩, List.mem_of_getElem? (i := 1017) (by decide +kernel), List.mem_of_getElem? (i := 1275) (by decide +kernel), List.mem_of_getElem? (i := 1276) (by decide +kernel)⟩
theorem lw_p56 : lw_okq (⟨"PaceStoreModel", "paceByRules", "(III)I"⟩, 30) := ⟨⟨by decide +kernel, by decide +kernel⟩, List.mem_of_getElem? (i := 1017) (by decide +kernel), List.mem_of_getElem? (i := 1280) (by decide +kernel), List.mem_of_getElem? (i := 1281) (by decide +kernel)⟩
theorem lw_p57 : lw_okq (⟨"PaceStoreModel", "findShelters", "()V"⟩, 30) := ⟨⟨by decide +kernel, by decide +kernel⟩, List.mem_of_getElem? (i := 1017) (by decide +kernel), List.mem_of_getElem? (i := 1289) (by decide +kernel), List.mem_of_getElem? (i := 1290) (by decide +kernel)⟩
theorem lw_p58 : lw_okq (⟨"PaceStoreModel", "isSheltered", "(I)Z"⟩, 30) := ⟨⟨by decide +kernel, by decide +kernel⟩, List.mem_of_getElem? (i := 1017) (by decide +kernel), List.mem_of_getElem? (i := 1293) (by decide +kernel), List.mem_of_getElem? (i := 1294) (by decide +kernel)⟩
theorem lw_p59 : lw_okq (⟨"PaceStoreModel", "goMile", "(IIZ)V"⟩, 30) := ⟨⟨by decide +kernel, by decide +kernel⟩, List.mem_of_getElem? (i := 1017) (by decide +kernel), List.mem_of_getElem? (i := 1298) (by decide +kernel), List.mem_of_getElem? (i := 1299) (by decide +kernel)⟩
theorem lw_p60 : lw_okq (⟨"PaceStoreModel", "leftBehind", "(IIII)I"⟩, 30) := ⟨⟨by decide +kernel, by decide +kernel⟩, List.mem_of_getElem? (i := 1017) (by decide +kernel), List.mem_of_getElem? (i := 1302) (by decide +kernel), List.mem_of_getElem? (i := 1303) (by decide +kernel)⟩
theorem lw_p61 : lw_okq (⟨"PaceStoreModel", "easyPace", "(II)I"⟩, 30) := ⟨⟨by decide +kernel, by decide +kernel⟩, List.mem_of_getElem? (i := 1017) (by decide +kernel), List.mem_of_getElem? (i := 1306) (by decide +kernel), List.mem_of_getElem? (i := 1307) (by decide +kernel)⟩
theorem lw_p62 : lw_okq (⟨"PaceStoreModel", "isRunner", "(I)Z"⟩, 30) := ⟨⟨by decide +kernel, by decide +kernel⟩, List.mem_of_getElem? (i := 1017) (by decide +kernel), List.mem_of_getElem? (i := 1317) (by decide +kernel), List.mem_of_getElem? (i := 1318) (by decide +kernel)⟩
theorem lw_p63 : lw_okq (⟨"PaceStoreModel", "ranOf", "(III)I"⟩, 30) := ⟨⟨by decide +kernel, by decide +kernel⟩, List.mem_of_getElem? (i := 1017) (by decide +kernel), List.mem_of_getElem? (i := 1321) (by decide +kernel), List.mem_of_getElem? (i := 1322) (by decide +kernel)⟩
def lw_privs_4 : List (MethodName × Nat) := [(⟨"PaceStoreModel", "miles", "()I"⟩, 30), (⟨"PaceStoreModel", "isMile", "(I)Z"⟩, 30), (⟨"PaceStoreModel", "needOf", "(IIZ)I"⟩, 30), (⟨"PaceStoreModel", "runners", "()I"⟩, 30), (⟨"PaceStoreModel", "item", "(II)I"⟩, 30), (⟨"PaceStoreModel", "startRace", "()V"⟩, 30), (⟨"PaceStoreModel", "ofRunner", "(II)I"⟩, 30), (⟨"PaceStoreModel", "leastTime", "()I"⟩, 30), (⟨"PaceStoreModel", "paceByRules", "(III)I"⟩, 30), (⟨"PaceStoreModel", "findShelters", "()V"⟩, 30), (⟨"PaceStoreModel", "isSheltered", "(I)Z"⟩, 30), (⟨"PaceStoreModel", "goMile", "(IIZ)V"⟩, 30), (⟨"PaceStoreModel", "leftBehind", "(IIII)I"⟩, 30), (⟨"PaceStoreModel", "easyPace", "(II)I"⟩, 30), (⟨"PaceStoreModel", "isRunner", "(I)Z"⟩, 30), (⟨"PaceStoreModel", "ranOf", "(III)I"⟩, 30)]
theorem lw_r4 : ∀ q ∈ lw_privs_4, lw_okq q := List.forall_mem_cons.mpr ⟨lw_p48, List.forall_mem_cons.mpr ⟨lw_p49, List.forall_mem_cons.mpr ⟨lw_p50, List.forall_mem_cons.mpr ⟨lw_p51, List.forall_mem_cons.mpr ⟨lw_p52, List.forall_mem_cons.mpr ⟨lw_p53, List.forall_mem_cons.mpr ⟨lw_p54, List.forall_mem_cons.mpr ⟨lw_p55, List.forall_mem_cons.mpr ⟨lw_p56, List.forall_mem_cons.mpr ⟨lw_p57, List.forall_mem_cons.mpr ⟨lw_p58, List.forall_mem_cons.mpr ⟨lw_p59, List.forall_mem_cons.mpr ⟨lw_p60, List.forall_mem_cons.mpr ⟨lw_p61, List.forall_mem_cons.mpr ⟨lw_p62, List.forall_mem_cons.mpr ⟨lw_p63, fun _ h => absurd h List.not_mem_nil⟩⟩⟩⟩⟩⟩⟩⟩⟩⟩⟩⟩⟩⟩⟩⟩
theorem lw_p64 : lw_okq (⟨"PaceStoreModel", "isSet", "(I)Z"⟩, 30) := ⟨⟨by decide +kernel, by decide +kernel⟩, List.mem_of_getElem? (i := 1017) (by decide +kernel), List.mem_of_getElem? (i := 1333) (by decide +kernel), List.mem_of_getElem? (i := 1334) (by decide +kernel)⟩
theorem lw_p65 : lw_okq (⟨"PaceStoreModel", "rabbits", "()I"⟩, 30) := ⟨⟨by decide +kernel, by decide +kernel⟩, List.mem_of_getElem? (i := 1017) (by decide +kernel), List.mem_of_getElem? (i := 1337) (by decide +kernel), List.mem_of_getElem? (i := 1338) (by decide +kernel)⟩
theorem lw_p66 : lw_okq (⟨"PaceStoreModel", "leastAll", "(II)I"⟩, 30) := ⟨⟨by decide +kernel, by decide +kernel⟩, List.mem_of_getElem? (i := 1017) (by decide +kernel), List.mem_of_getElem? (i := 1341) (by decide +kernel), List.mem_of_getElem? (i := 1342) (by decide +kernel)⟩
theorem lw_p67 : lw_okq (⟨"PaceStoreModel", "findLeast", "(II)V"⟩, 30) := ⟨⟨by decide +kernel, by decide +kernel⟩, List.mem_of_getElem? (i := 1017) (by decide +kernel), List.mem_of_getElem? (i := 1345) (by decide +kernel), List.mem_of_getElem? (i := 1346) (by decide +kernel)⟩
theorem lw_p68 : lw_okq (⟨"PaceStoreModel", "timeBy", "(IIIII)I"⟩, 30) := ⟨⟨by decide +kernel, by decide +kernel⟩, List.mem_of_getElem? (i := 1017) (by decide +kernel), List.mem_of_getElem? (i := 1349) (by decide +kernel), List.mem_of_getElem? (i := 1350) (by decide +kernel)⟩
theorem lw_p69 : lw_okq (⟨"PaceStoreModel", "leftAlone", "(IIIII)I"⟩, 30) := ⟨⟨by decide +kernel, by decide +kernel⟩, List.mem_of_getElem? (i := 1017) (by decide +kernel), List.mem_of_getElem? (i := 1353) (by decide +kernel), List.mem_of_getElem? (i := 1354) (by decide +kernel)⟩
theorem lw_p70 : lw_okq (⟨"PaceStoreModel", "isBehindRabbit", "(III)Z"⟩, 30) := ⟨⟨by decide +kernel, by decide +kernel⟩, List.mem_of_getElem? (i := 1017) (by decide +kernel), List.mem_of_getElem? (i := 1357) (by decide +kernel), List.mem_of_getElem? (i := 1358) (by decide +kernel)⟩
theorem lw_p71 : lw_okq (⟨"PaceStoreModel", "ofRabbit", "(II)I"⟩, 30) := ⟨⟨by decide +kernel, by decide +kernel⟩, List.mem_of_getElem? (i := 1017) (by decide +kernel), List.mem_of_getElem? (i := 1361) (by decide +kernel), List.mem_of_getElem? (i := 1362) (by decide +kernel)⟩
theorem lw_p72 : lw_okq (⟨"PaceStoreModel", "paceFor", "(IIII)I"⟩, 30) := ⟨⟨by decide +kernel, by decide +kernel⟩, List.mem_of_getElem? (i := 1017) (by decide +kernel), List.mem_of_getElem? (i := 1366) (by decide +kernel), List.mem_of_getElem? (i := 1367) (by decide +kernel)⟩
theorem lw_p73 : lw_okq (⟨"PaceStoreModel", "evenTime", "(III)I"⟩, 30) := ⟨⟨by decide +kernel, by decide +kernel⟩, List.mem_of_getElem? (i := 1017) (by decide +kernel), List.mem_of_getElem? (i := 1374) (by decide +kernel), List.mem_of_getElem? (i := 1375) (by decide +kernel)⟩
theorem lw_p74 : lw_okq (⟨"PaceStoreModel", "coinOf", "(I)I"⟩, 30) := ⟨⟨by decide +kernel, by decide +kernel⟩, List.mem_of_getElem? (i := 1017) (by decide +kernel), List.mem_of_getElem? (i := 1388) (by decide +kernel), List.mem_of_getElem? (i := 1389) (by decide +kernel)⟩
theorem lw_p75 : lw_okq (⟨"PaceStoreModel", "isGame", "(II)Z"⟩, 30) := ⟨⟨by decide +kernel, by decide +kernel⟩, List.mem_of_getElem? (i := 1017) (by decide +kernel), List.mem_of_getElem? (i := 1400) (by decide +kernel), List.mem_of_getElem? (i := 1401) (by decide +kernel)⟩
theorem lw_p76 : lw_okq (⟨"PaceStoreModel", "gameOf", "(IIII)I"⟩, 30) := ⟨⟨by decide +kernel, by decide +kernel⟩, List.mem_of_getElem? (i := 1017) (by decide +kernel), List.mem_of_getElem? (i := 1404) (by decide +kernel), List.mem_of_getElem? (i := 1405) (by decide +kernel)⟩
theorem lw_p77 : lw_okq (⟨"PaceStoreModel", "planPace", "(III)I"⟩, 30) := ⟨⟨by decide +kernel, by decide +kernel⟩, List.mem_of_getElem? (i := 1017) (by decide +kernel), List.mem_of_getElem? (i := 1408) (by decide +kernel), List.mem_of_getElem? (i := 1409) (by decide +kernel)⟩
theorem lw_p78 : lw_okq (⟨"PaceStoreModel", "isRest", "(II)Z"⟩, 30) := ⟨⟨by decide +kernel, by decide +kernel⟩, List.mem_of_getElem? (i := 1017) (by decide +kernel), List.mem_of_getElem? (i := 1412) (by decide +kernel), List.mem_of_getElem? (i := 1413) (by decide +kernel)⟩
theorem lw_p79 : lw_okq (⟨"PaceStoreModel", "isBorne", "(IIII)Z"⟩, 30) := ⟨⟨by decide +kernel, by decide +kernel⟩, List.mem_of_getElem? (i := 1017) (by decide +kernel), List.mem_of_getElem? (i := 1431) (by decide +kernel), List.mem_of_getElem? (i := 1432) (by decide +kernel)⟩
def lw_privs_5 : List (MethodName × Nat) := [(⟨"PaceStoreModel", "isSet", "(I)Z"⟩, 30), (⟨"PaceStoreModel", "rabbits", "()I"⟩, 30), (⟨"PaceStoreModel", "leastAll", "(II)I"⟩, 30), (⟨"PaceStoreModel", "findLeast", "(II)V"⟩, 30), (⟨"PaceStoreModel", "timeBy", "(IIIII)I"⟩, 30), (⟨"PaceStoreModel", "leftAlone", "(IIIII)I"⟩, 30), (⟨"PaceStoreModel", "isBehindRabbit", "(III)Z"⟩, 30), (⟨"PaceStoreModel", "ofRabbit", "(II)I"⟩, 30), (⟨"PaceStoreModel", "paceFor", "(IIII)I"⟩, 30), (⟨"PaceStoreModel", "evenTime", "(III)I"⟩, 30), (⟨"PaceStoreModel", "coinOf", "(I)I"⟩, 30), (⟨"PaceStoreModel", "isGame", "(II)Z"⟩, 30), (⟨"PaceStoreModel", "gameOf", "(IIII)I"⟩, 30), (⟨"PaceStoreModel", "planPace", "(III)I"⟩, 30), (⟨"PaceStoreModel", "isRest", "(II)Z"⟩, 30), (⟨"PaceStoreModel", "isBorne", "(IIII)Z"⟩, 30)]
theorem lw_r5 : ∀ q ∈ lw_privs_5, lw_okq q := List.forall_mem_cons.mpr ⟨lw_p64, List.forall_mem_cons.mpr ⟨lw_p65, List.forall_mem_cons.mpr ⟨lw_p66, List.forall_mem_cons.mpr ⟨lw_p67, List.forall_mem_cons.mpr ⟨lw_p68, List.forall_mem_cons.mpr ⟨lw_p69, List.forall_mem_cons.mpr ⟨lw_p70, List.forall_mem_cons.mpr ⟨lw_p71, List.forall_mem_cons.mpr ⟨lw_p72, List.forall_mem_cons.mpr ⟨lw_p73, List.forall_mem_cons.mpr ⟨lw_p74, List.forall_mem_cons.mpr ⟨lw_p75, List.forall_mem_cons.mpr ⟨lw_p76, List.forall_mem_cons.mpr ⟨lw_p77, List.forall_mem_cons.mpr ⟨lw_p78, List.forall_mem_cons.mpr ⟨lw_p79, fun _ h => absurd h List.not_mem_nil⟩⟩⟩⟩⟩⟩⟩⟩⟩⟩⟩⟩⟩⟩⟩⟩
theorem lw_p80 : lw_okq (⟨"PaceStoreModel", "feltTime", "(IIII)I"⟩, 30) := ⟨⟨by decide +kernel, by decide +kernel⟩, List.mem_of_getElem? (i := 1017) (by decide +kernel), List.mem_of_getElem? (i := 1449) (by decide +kernel), List.mem_of_getElem? (i := 1450) (by decide +kernel)⟩
theorem lw_p81 : lw_okq (⟨"PaceStoreModel", "isStep", "(II)Z"⟩, 30) := ⟨⟨by decide +kernel, by decide +kernel⟩, List.mem_of_getElem? (i := 1017) (by decide +kernel), List.mem_of_getElem? (i := 1457) (by decide +kernel), List.mem_of_getElem? (i := 1458) (by decide +kernel)⟩
theorem lw_p82 : lw_okq (⟨"PaceStoreModel", "kindOf", "(II)I"⟩, 30) := ⟨⟨by decide +kernel, by decide +kernel⟩, List.mem_of_getElem? (i := 1017) (by decide +kernel), List.mem_of_getElem? (i := 1461) (by decide +kernel), List.mem_of_getElem? (i := 1462) (by decide +kernel)⟩
theorem lw_p83 : lw_okq (⟨"PaceStoreModel", "sizeOf", "(III)I"⟩, 30) := ⟨⟨by decide +kernel, by decide +kernel⟩, List.mem_of_getElem? (i := 1017) (by decide +kernel), List.mem_of_getElem? (i := 1476) (by decide +kernel), List.mem_of_getElem? (i := 1477) (by decide +kernel)⟩
theorem lw_p84 : lw_okq (⟨"PaceStoreModel", "leave", "(IZ)V"⟩, 30) := ⟨⟨by decide +kernel, by decide +kernel⟩, List.mem_of_getElem? (i := 1017) (by decide +kernel), List.mem_of_getElem? (i := 1480) (by decide +kernel), List.mem_of_getElem? (i := 1481) (by decide +kernel)⟩
theorem lw_p85 : lw_okq (⟨"PaceStoreModel", "hardMark", "(III)I"⟩, 30) := ⟨⟨by decide +kernel, by decide +kernel⟩, List.mem_of_getElem? (i := 1017) (by decide +kernel), List.mem_of_getElem? (i := 1484) (by decide +kernel), List.mem_of_getElem? (i := 1485) (by decide +kernel)⟩
theorem lw_p86 : lw_okq (⟨"PaceStoreModel", "markOf", "(III)I"⟩, 30) := ⟨⟨by decide +kernel, by decide +kernel⟩, List.mem_of_getElem? (i := 1017) (by decide +kernel), List.mem_of_getElem? (i := 1488) (by decide +kernel), List.mem_of_getElem? (i := 1489) (by decide +kernel)⟩
def lw_privs_6 : List (MethodName × Nat) := [(⟨"PaceStoreModel", "feltTime", "(IIII)I"⟩, 30), (⟨"PaceStoreModel", "isStep", "(II)Z"⟩, 30), (⟨"PaceStoreModel", "kindOf", "(II)I"⟩, 30), (⟨"PaceStoreModel", "sizeOf", "(III)I"⟩, 30), (⟨"PaceStoreModel", "leave", "(IZ)V"⟩, 30), (⟨"PaceStoreModel", "hardMark", "(III)I"⟩, 30), (⟨"PaceStoreModel", "markOf", "(III)I"⟩, 30)]
theorem lw_r6 : ∀ q ∈ lw_privs_6, lw_okq q := List.forall_mem_cons.mpr ⟨lw_p80, List.forall_mem_cons.mpr ⟨lw_p81, List.forall_mem_cons.mpr ⟨lw_p82, List.forall_mem_cons.mpr ⟨lw_p83, List.forall_mem_cons.mpr ⟨lw_p84, List.forall_mem_cons.mpr ⟨lw_p85, List.forall_mem_cons.mpr ⟨lw_p86, fun _ h => absurd h List.not_mem_nil⟩⟩⟩⟩⟩⟩⟩
def lw_privs : List (MethodName × Nat) := lw_privs_1 ++ (lw_privs_2 ++ (lw_privs_3 ++ (lw_privs_4 ++ (lw_privs_5 ++ (lw_privs_6)))))
def lw_tbl : List Cond := k2_sels lw_privs ++ tables_1
theorem lw_privs_ok : ∀ q ∈ lw_privs, lw_okq q := by
  show ∀ q ∈ lw_privs_1 ++ (lw_privs_2 ++ (lw_privs_3 ++ (lw_privs_4 ++ (lw_privs_5 ++ (lw_privs_6))))), lw_okq q
  exact List.forall_mem_append.mpr ⟨lw_r1, List.forall_mem_append.mpr ⟨lw_r2, List.forall_mem_append.mpr ⟨lw_r3, List.forall_mem_append.mpr ⟨lw_r4, List.forall_mem_append.mpr ⟨lw_r5, lw_r6⟩⟩⟩⟩⟩
end
section
def RX0 : String := "PaceStore$Alone"
def TX0 : u_T := fun k => match k with
  | 0 => ("PaceStore$Alone", "seconds", "[I", true)
  | 1 => ("PaceStore$Alone", "needs", "[[I", true)
  | 2 => ("PaceStore$Alone", "changes", "[[I", true)
  | 3 => ("PaceStore$Alone", "tries", "[[I", true)
  | 4 => ("PaceStore$Alone", "tried", "[I", true)
  | 5 => ("PaceStore$Alone", "least", "[[I", true)
  | 6 => ("PaceStore$Alone", "moreHeats", "[I", true)
  | 7 => ("PaceStore$Alone", "miles", "I", false)
  | 8 => ("PaceStore$Alone", "line", "I", false)
  | 9 => ("PaceStore$Alone", "store", "I", false)
  | _ => ("PaceStore$Alone", "fill", "I", false)
def tyX0 : Nat → FieldType := fun k => match k with
  | 0 => .array .int
  | 1 => .array (.array .int)
  | 2 => .array (.array .int)
  | 3 => .array (.array .int)
  | 4 => .array .int
  | 5 => .array (.array .int)
  | 6 => .array .int
  | 7 => .int
  | 8 => .int
  | 9 => .int
  | _ => .int
abbrev wsX00 : List Cond := u_ws RX0 TX0 11
theorem nmX0 : ∀ a, a < 11 → ∀ b, b < 11 → a ≠ b → (TX0 a).2.1 ≠ (TX0 b).2.1 := by decide +kernel
theorem tyX0_ok : ∀ k, k < 11 → parseFieldDescriptor (TX0 k).2.2.1 = some (tyX0 k) := by decide +kernel
abbrev cX0_init : ByteArray := prog_2_method_1_code
def yX0_init : MethodName := ⟨RX0, "<init>", "()V"⟩
abbrev cX0_face : ByteArray := prog_2_method_2_code
def yX0_face : MethodName := ⟨RX0, "face", "(LPaceStore$Course;II)V"⟩
abbrev cX0_faceHour : ByteArray := prog_2_method_3_code
def yX0_faceHour : MethodName := ⟨RX0, "faceHour", "(LPaceStore$Course;ILPaceStore$Sheet;I)V"⟩
abbrev cX0_faceHeats : ByteArray := prog_2_method_4_code
def yX0_faceHeats : MethodName := ⟨RX0, "faceHeats", "(LPaceStore$Course;II)V"⟩
abbrev cX0_takeLine : ByteArray := prog_2_method_5_code
def yX0_takeLine : MethodName := ⟨RX0, "takeLine", "(I)V"⟩
abbrev cX0_leftBehind : ByteArray := prog_2_method_6_code
def yX0_leftBehind : MethodName := ⟨RX0, "leftBehind", "(III)I"⟩
abbrev cX0_leftAfterEven : ByteArray := prog_2_method_7_code
def yX0_leftAfterEven : MethodName := ⟨RX0, "leftAfterEven", "(II)I"⟩
abbrev cX0_leftAfterSplits : ByteArray := prog_2_method_8_code
def yX0_leftAfterSplits : MethodName := ⟨RX0, "leftAfterSplits", "(LPaceStore$Sheet;I)I"⟩
abbrev cX0_paceThatTakes : ByteArray := prog_2_method_9_code
def yX0_paceThatTakes : MethodName := ⟨RX0, "paceThatTakes", "(I)I"⟩
abbrev cX0_evenPace : ByteArray := prog_2_method_10_code
def yX0_evenPace : MethodName := ⟨RX0, "evenPace", "()I"⟩
abbrev cX0_leastTime : ByteArray := prog_2_method_11_code
def yX0_leastTime : MethodName := ⟨RX0, "leastTime", "()I"⟩
abbrev cX0_solve : ByteArray := prog_2_method_12_code
def yX0_solve : MethodName := ⟨RX0, "solve", "()V"⟩
abbrev cX0_chooseTries : ByteArray := prog_2_method_13_code
def yX0_chooseTries : MethodName := ⟨RX0, "chooseTries", "(I)V"⟩
abbrev cX0_leastAt : ByteArray := prog_2_method_14_code
def yX0_leastAt : MethodName := ⟨RX0, "leastAt", "(II)I"⟩
abbrev cX0_leastFrom : ByteArray := prog_2_method_15_code
def yX0_leastFrom : MethodName := ⟨RX0, "leastFrom", "(I)I"⟩
abbrev cX0_paceOfBest : ByteArray := prog_2_method_16_code
def yX0_paceOfBest : MethodName := ⟨RX0, "paceOfBest", "(I)I"⟩
abbrev cX0_firstPace : ByteArray := prog_2_method_17_code
def yX0_firstPace : MethodName := ⟨RX0, "firstPace", "(II)I"⟩
def RX1 : String := "PaceStore$Body"
def TX1 : u_T := fun k => match k with
  | 0 => ("PaceStore$Body", "line", "I", false)
  | 1 => ("PaceStore$Body", "store", "I", false)
  | 2 => ("PaceStore$Body", "fill", "I", false)
  | 3 => ("PaceStore$Body", "left", "I", false)
  | 4 => ("PaceStore$Body", "time", "I", false)
  | 5 => ("PaceStore$Body", "pace", "I", false)
  | 6 => ("PaceStore$Body", "seconds", "I", false)
  | 7 => ("PaceStore$Body", "isSheltered", "Z", false)
  | 8 => ("PaceStore$Body", "isHard", "Z", false)
  | _ => ("PaceStore$Body", "isSpentOut", "Z", false)
def tyX1 : Nat → FieldType := fun k => match k with
  | 0 => .int
  | 1 => .int
  | 2 => .int
  | 3 => .int
  | 4 => .int
  | 5 => .int
  | 6 => .int
  | 7 => .boolean
  | 8 => .boolean
  | _ => .boolean
abbrev wsX10 : List Cond := u_ws RX1 TX1 10
theorem nmX1 : ∀ a, a < 10 → ∀ b, b < 10 → a ≠ b → (TX1 a).2.1 ≠ (TX1 b).2.1 := by decide +kernel
theorem tyX1_ok : ∀ k, k < 10 → parseFieldDescriptor (TX1 k).2.2.1 = some (tyX1 k) := by decide +kernel
abbrev cX1_init : ByteArray := prog_3_method_1_code
def yX1_init : MethodName := ⟨RX1, "<init>", "()V"⟩
abbrev cX1_start : ByteArray := prog_3_method_2_code
def yX1_start : MethodName := ⟨RX1, "start", "(LPaceStore$Course;II)V"⟩
abbrev cX1_changePace : ByteArray := prog_3_method_3_code
def yX1_changePace : MethodName := ⟨RX1, "changePace", "(I)V"⟩
abbrev cX1_isShelteredBy : ByteArray := prog_3_method_4_code
def yX1_isShelteredBy : MethodName := ⟨RX1, "isShelteredBy", "(LPaceStore$Body;)Z"⟩
abbrev cX1_run : ByteArray := prog_3_method_5_code
def yX1_run : MethodName := ⟨RX1, "run", "(LPaceStore$Course;I)V"⟩
def RX2 : String := "PaceStore$Course"
def TX2 : u_T := fun k => match k with
  | 0 => ("PaceStore$Course", "isThere", "Z", false)
  | 1 => ("PaceStore$Course", "miles", "I", false)
  | 2 => ("PaceStore$Course", "hills", "[I", true)
  | 3 => ("PaceStore$Course", "heats", "[I", true)
  | 4 => ("PaceStore$Course", "winds", "[I", true)
  | 5 => ("PaceStore$Course", "runners", "I", false)
  | 6 => ("PaceStore$Course", "lines", "[I", true)
  | 7 => ("PaceStore$Course", "stores", "[I", true)
  | 8 => ("PaceStore$Course", "fills", "[I", true)
  | 9 => ("PaceStore$Course", "rules", "[I", true)
  | 10 => ("PaceStore$Course", "ruleWhats", "[I", true)
  | 11 => ("PaceStore$Course", "ruleSides", "[I", true)
  | 12 => ("PaceStore$Course", "ruleNumbers", "[I", true)
  | 13 => ("PaceStore$Course", "ruleSteps", "[I", true)
  | 14 => ("PaceStore$Course", "rabbits", "I", false)
  | 15 => ("PaceStore$Course", "rabbitPaces", "[I", true)
  | 16 => ("PaceStore$Course", "tills", "[I", true)
  | _ => ("PaceStore$Course", "coins", "[I", true)
def tyX2 : Nat → FieldType := fun k => match k with
  | 0 => .boolean
  | 1 => .int
  | 2 => .array .int
  | 3 => .array .int
  | 4 => .array .int
  | 5 => .int
  | 6 => .array .int
  | 7 => .array .int
  | 8 => .array .int
  | 9 => .array .int
  | 10 => .array .int
  | 11 => .array .int
  | 12 => .array .int
  | 13 => .array .int
  | 14 => .int
  | 15 => .array .int
  | 16 => .array .int
  | _ => .array .int
abbrev wsX20 : List Cond := u_ws RX2 TX2 18
theorem nmX2 : ∀ a, a < 18 → ∀ b, b < 18 → a ≠ b → (TX2 a).2.1 ≠ (TX2 b).2.1 := by decide +kernel
theorem tyX2_ok : ∀ k, k < 18 → parseFieldDescriptor (TX2 k).2.2.1 = some (tyX2 k) := by decide +kernel
abbrev cX2_init : ByteArray := prog_4_method_1_code
def yX2_init : MethodName := ⟨RX2, "<init>", "()V"⟩
abbrev cX2_clear : ByteArray := prog_4_method_2_code
def yX2_clear : MethodName := ⟨RX2, "clear", "()V"⟩
abbrev cX2_become : ByteArray := prog_4_method_3_code
def yX2_become : MethodName := ⟨RX2, "become", "(LPaceStore$Course;)V"⟩
abbrev cX2_hasMile : ByteArray := prog_4_method_4_code
def yX2_hasMile : MethodName := ⟨RX2, "hasMile", "(I)Z"⟩
abbrev cX2_hasRunner : ByteArray := prog_4_method_5_code
def yX2_hasRunner : MethodName := ⟨RX2, "hasRunner", "(I)Z"⟩
abbrev cX2_hasRabbits : ByteArray := prog_4_method_6_code
def yX2_hasRabbits : MethodName := ⟨RX2, "hasRabbits", "(I)Z"⟩
abbrev cX2_rulesOfAll : ByteArray := prog_4_method_7_code
def yX2_rulesOfAll : MethodName := ⟨RX2, "rulesOfAll", "()I"⟩
abbrev cX2_costOf : ByteArray := prog_4_method_8_code
def yX2_costOf : MethodName := ⟨RX2, "costOf", "(I)I"⟩
abbrev cX2_needOf : ByteArray := prog_4_method_9_code
def yX2_needOf : MethodName := ⟨RX2, "needOf", "(IIZI)I"⟩
abbrev cX2_easyPace : ByteArray := prog_4_method_10_code
def yX2_easyPace : MethodName := ⟨RX2, "easyPace", "(II)I"⟩
abbrev cX2_isShelteredBy : ByteArray := prog_4_method_11_code
def yX2_isShelteredBy : MethodName := ⟨RX2, "isShelteredBy", "(III)Z"⟩
def RX3 : String := "PaceStore$Field"
def TX3 : u_T := fun k => match k with
  | 0 => ("PaceStore$Field", "bodies", "[LPaceStore$Body;", true)
  | 1 => ("PaceStore$Field", "running", "I", false)
  | _ => ("PaceStore$Field", "slip", "J", false)
def tyX3 : Nat → FieldType := fun k => match k with
  | 0 => .array (.object "PaceStore$Body")
  | 1 => .int
  | _ => .long
abbrev wsX30 : List Cond := u_ws RX3 TX3 3
theorem nmX3 : ∀ a, a < 3 → ∀ b, b < 3 → a ≠ b → (TX3 a).2.1 ≠ (TX3 b).2.1 := by decide +kernel
theorem tyX3_ok : ∀ k, k < 3 → parseFieldDescriptor (TX3 k).2.2.1 = some (tyX3 k) := by decide +kernel
abbrev cX3_init : ByteArray := prog_5_method_1_code
def yX3_init : MethodName := ⟨RX3, "<init>", "()V"⟩
abbrev cX3_runAll : ByteArray := prog_5_method_2_code
def yX3_runAll : MethodName := ⟨RX3, "runAll", "(LPaceStore$Course;LPaceStore$Sheet;IILPaceStore$Results;)V"⟩
abbrev cX3_feel : ByteArray := prog_5_method_3_code
def yX3_feel : MethodName := ⟨RX3, "feel", "(LPaceStore$Course;I)V"⟩
abbrev cX3_leastTime : ByteArray := prog_5_method_4_code
def yX3_leastTime : MethodName := ⟨RX3, "leastTime", "()I"⟩
abbrev cX3_stepByRules : ByteArray := prog_5_method_5_code
def yX3_stepByRules : MethodName := ⟨RX3, "stepByRules", "(LPaceStore$Course;III)I"⟩
abbrev cX3_stepBySlip : ByteArray := prog_5_method_6_code
def yX3_stepBySlip : MethodName := ⟨RX3, "stepBySlip", "()I"⟩
abbrev cX3_runMile : ByteArray := prog_5_method_7_code
def yX3_runMile : MethodName := ⟨RX3, "runMile", "(LPaceStore$Course;I)V"⟩
abbrev cX3_isBehindSomeone : ByteArray := prog_5_method_8_code
def yX3_isBehindSomeone : MethodName := ⟨RX3, "isBehindSomeone", "(I)Z"⟩
abbrev cX3_rank : ByteArray := prog_5_method_9_code
def yX3_rank : MethodName := ⟨RX3, "rank", "(LPaceStore$Results;)V"⟩
abbrev cX3_timeByFeeling : ByteArray := prog_5_method_10_code
def yX3_timeByFeeling : MethodName := ⟨RX3, "timeByFeeling", "(LPaceStore$Course;IIII)I"⟩
def RX4 : String := "PaceStore$Game"
def TX4 : u_T := fun k => match k with
  | 0 => ("PaceStore$Game", "field", "LPaceStore$Field;", true)
  | _ => ("PaceStore$Game", "scores", "[I", true)
def tyX4 : Nat → FieldType := fun k => match k with
  | 0 => .object "PaceStore$Field"
  | _ => .array .int
abbrev wsX40 : List Cond := u_ws RX4 TX4 2
theorem nmX4 : ∀ a, a < 2 → ∀ b, b < 2 → a ≠ b → (TX4 a).2.1 ≠ (TX4 b).2.1 := by decide +kernel
theorem tyX4_ok : ∀ k, k < 2 → parseFieldDescriptor (TX4 k).2.2.1 = some (tyX4 k) := by decide +kernel
abbrev cX4_init : ByteArray := prog_6_method_1_code
def yX4_init : MethodName := ⟨RX4, "<init>", "()V"⟩
abbrev cX4_play : ByteArray := prog_6_method_2_code
def yX4_play : MethodName := ⟨RX4, "play", "(LPaceStore$Course;IIII)I"⟩
abbrev cX4_stepByPlan : ByteArray := prog_6_method_3_code
def yX4_stepByPlan : MethodName := ⟨RX4, "stepByPlan", "(IZ)I"⟩
abbrev cX4_playAll : ByteArray := prog_6_method_4_code
def yX4_playAll : MethodName := ⟨RX4, "playAll", "(LPaceStore$Course;II)V"⟩
abbrev cX4_restsAt : ByteArray := prog_6_method_5_code
def yX4_restsAt : MethodName := ⟨RX4, "restsAt", "(I)Z"⟩
def RX5 : String := "PaceStore$Reader"
def TX5 : u_T := fun k => match k with
  | 0 => ("PaceStore$Reader", "tape", "[B", true)
  | 1 => ("PaceStore$Reader", "draft", "LPaceStore$Course;", true)
  | 2 => ("PaceStore$Reader", "length", "I", false)
  | 3 => ("PaceStore$Reader", "fault", "I", false)
  | 4 => ("PaceStore$Reader", "first", "I", false)
  | 5 => ("PaceStore$Reader", "behind", "I", false)
  | 6 => ("PaceStore$Reader", "sort", "I", false)
  | 7 => ("PaceStore$Reader", "value", "I", false)
  | _ => ("PaceStore$Reader", "taken", "I", false)
def tyX5 : Nat → FieldType := fun k => match k with
  | 0 => .array .byte
  | 1 => .object "PaceStore$Course"
  | 2 => .int
  | 3 => .int
  | 4 => .int
  | 5 => .int
  | 6 => .int
  | 7 => .int
  | _ => .int
abbrev wsX50 : List Cond := u_ws RX5 TX5 9
theorem nmX5 : ∀ a, a < 9 → ∀ b, b < 9 → a ≠ b → (TX5 a).2.1 ≠ (TX5 b).2.1 := by decide +kernel
theorem tyX5_ok : ∀ k, k < 9 → parseFieldDescriptor (TX5 k).2.2.1 = some (tyX5 k) := by decide +kernel
abbrev cX5_init : ByteArray := prog_7_method_1_code
def yX5_init : MethodName := ⟨RX5, "<init>", "()V"⟩
abbrev cX5_takes : ByteArray := prog_7_method_2_code
def yX5_takes : MethodName := ⟨RX5, "takes", "(JI)Z"⟩
abbrev cX5_readsAll : ByteArray := prog_7_method_3_code
def yX5_readsAll : MethodName := ⟨RX5, "readsAll", "()Z"⟩
abbrev cX5_readsMile : ByteArray := prog_7_method_4_code
def yX5_readsMile : MethodName := ⟨RX5, "readsMile", "()Z"⟩
abbrev cX5_readsRunner : ByteArray := prog_7_method_5_code
def yX5_readsRunner : MethodName := ⟨RX5, "readsRunner", "()Z"⟩
abbrev cX5_readsRule : ByteArray := prog_7_method_6_code
def yX5_readsRule : MethodName := ⟨RX5, "readsRule", "(I)Z"⟩
abbrev cX5_readsRabbit : ByteArray := prog_7_method_7_code
def yX5_readsRabbit : MethodName := ⟨RX5, "readsRabbit", "()Z"⟩
abbrev cX5_readsNumber : ByteArray := prog_7_method_8_code
def yX5_readsNumber : MethodName := ⟨RX5, "readsNumber", "(II)Z"⟩
abbrev cX5_readsSemicolon : ByteArray := prog_7_method_9_code
def yX5_readsSemicolon : MethodName := ⟨RX5, "readsSemicolon", "()Z"⟩
abbrev cX5_fails : ByteArray := prog_7_method_10_code
def yX5_fails : MethodName := ⟨RX5, "fails", "(I)Z"⟩
abbrev cX5_isWord : ByteArray := prog_7_method_11_code
def yX5_isWord : MethodName := ⟨RX5, "isWord", "(Ljava/lang/String;)Z"⟩
abbrev cX5_next : ByteArray := prog_7_method_12_code
def yX5_next : MethodName := ⟨RX5, "next", "()V"⟩
abbrev cX5_takeName : ByteArray := prog_7_method_13_code
def yX5_takeName : MethodName := ⟨RX5, "takeName", "()V"⟩
abbrev cX5_takeNumber : ByteArray := prog_7_method_14_code
def yX5_takeNumber : MethodName := ⟨RX5, "takeNumber", "(Z)V"⟩
abbrev cX5_byteAt : ByteArray := prog_7_method_15_code
def yX5_byteAt : MethodName := ⟨RX5, "byteAt", "(I)I"⟩
abbrev cX5_isBlank : ByteArray := prog_7_method_16_code
def yX5_isBlank : MethodName := ⟨RX5, "isBlank", "(I)Z"⟩
abbrev cX5_isLetter : ByteArray := prog_7_method_17_code
def yX5_isLetter : MethodName := ⟨RX5, "isLetter", "(I)Z"⟩
abbrev cX5_isFigure : ByteArray := prog_7_method_18_code
def yX5_isFigure : MethodName := ⟨RX5, "isFigure", "(I)Z"⟩
def RX6 : String := "PaceStore$Results"
def TX6 : u_T := fun k => match k with
  | 0 => ("PaceStore$Results", "rows", "[[I", true)
  | 1 => ("PaceStore$Results", "places", "[I", true)
  | 2 => ("PaceStore$Results", "runners", "I", false)
  | _ => ("PaceStore$Results", "isThere", "Z", false)
def tyX6 : Nat → FieldType := fun k => match k with
  | 0 => .array (.array .int)
  | 1 => .array .int
  | 2 => .int
  | _ => .boolean
abbrev wsX60 : List Cond := u_ws RX6 TX6 4
theorem nmX6 : ∀ a, a < 4 → ∀ b, b < 4 → a ≠ b → (TX6 a).2.1 ≠ (TX6 b).2.1 := by decide +kernel
theorem tyX6_ok : ∀ k, k < 4 → parseFieldDescriptor (TX6 k).2.2.1 = some (tyX6 k) := by decide +kernel
abbrev cX6_init : ByteArray := prog_8_method_1_code
def yX6_init : MethodName := ⟨RX6, "<init>", "()V"⟩
abbrev cX6_become : ByteArray := prog_8_method_2_code
def yX6_become : MethodName := ⟨RX6, "become", "(LPaceStore$Results;)V"⟩
abbrev cX6_record : ByteArray := prog_8_method_3_code
def yX6_record : MethodName := ⟨RX6, "record", "(LPaceStore$Body;II)V"⟩
abbrev cX6_told : ByteArray := prog_8_method_4_code
def yX6_told : MethodName := ⟨RX6, "told", "(III)I"⟩
abbrev cX6_runnerAt : ByteArray := prog_8_method_5_code
def yX6_runnerAt : MethodName := ⟨RX6, "runnerAt", "(I)I"⟩
abbrev cX6_kindOf : ByteArray := prog_8_method_6_code
def yX6_kindOf : MethodName := ⟨RX6, "kindOf", "(II)I"⟩
def RX7 : String := "PaceStore$Sheet"
def TX7 : u_T := fun k => match k with
  | 0 => ("PaceStore$Sheet", "items", "[I", true)
  | 1 => ("PaceStore$Sheet", "lane", "I", false)
  | _ => ("PaceStore$Sheet", "size", "I", false)
def tyX7 : Nat → FieldType := fun k => match k with
  | 0 => .array .int
  | 1 => .int
  | _ => .int
abbrev wsX70 : List Cond := u_ws RX7 TX7 3
theorem nmX7 : ∀ a, a < 3 → ∀ b, b < 3 → a ≠ b → (TX7 a).2.1 ≠ (TX7 b).2.1 := by decide +kernel
theorem tyX7_ok : ∀ k, k < 3 → parseFieldDescriptor (TX7 k).2.2.1 = some (tyX7 k) := by decide +kernel
abbrev cX7_init : ByteArray := prog_9_method_1_code
def yX7_init : MethodName := ⟨RX7, "<init>", "()V"⟩
abbrev cX7_isMissing : ByteArray := prog_9_method_2_code
def yX7_isMissing : MethodName := ⟨RX7, "isMissing", "()Z"⟩
abbrev cX7_begin : ByteArray := prog_9_method_3_code
def yX7_begin : MethodName := ⟨RX7, "begin", "(II)V"⟩
abbrev cX7_end : ByteArray := prog_9_method_4_code
def yX7_end : MethodName := ⟨RX7, "end", "()V"⟩
abbrev cX7_reaches : ByteArray := prog_9_method_5_code
def yX7_reaches : MethodName := ⟨RX7, "reaches", "(II)Z"⟩
abbrev cX7_at : ByteArray := prog_9_method_6_code
def yX7_at : MethodName := ⟨RX7, "at", "(I)I"⟩
abbrev cX7_put : ByteArray := prog_9_method_7_code
def yX7_put : MethodName := ⟨RX7, "put", "(II)I"⟩
def RX8 : String := "PaceStore$Step"
def TX8 : u_T := fun k => match k with
  | 0 => ("PaceStore$Step", "numbers", "[I", true)
  | 1 => ("PaceStore$Step", "traced", "I", false)
  | 2 => ("PaceStore$Step", "kind", "I", false)
  | 3 => ("PaceStore$Step", "mile", "I", false)
  | 4 => ("PaceStore$Step", "seconds", "I", false)
  | 5 => ("PaceStore$Step", "pace", "I", false)
  | _ => ("PaceStore$Step", "leftBehind", "I", false)
def tyX8 : Nat → FieldType := fun k => match k with
  | 0 => .array .int
  | 1 => .int
  | 2 => .int
  | 3 => .int
  | 4 => .int
  | 5 => .int
  | _ => .int
abbrev wsX80 : List Cond := u_ws RX8 TX8 7
theorem nmX8 : ∀ a, a < 7 → ∀ b, b < 7 → a ≠ b → (TX8 a).2.1 ≠ (TX8 b).2.1 := by decide +kernel
theorem tyX8_ok : ∀ k, k < 7 → parseFieldDescriptor (TX8 k).2.2.1 = some (tyX8 k) := by decide +kernel
abbrev cX8_init : ByteArray := prog_10_method_1_code
def yX8_init : MethodName := ⟨RX8, "<init>", "()V"⟩
abbrev cX8_isOne : ByteArray := prog_10_method_2_code
def yX8_isOne : MethodName := ⟨RX8, "isOne", "(II)Z"⟩
abbrev cX8_take : ByteArray := prog_10_method_3_code
def yX8_take : MethodName := ⟨RX8, "take", "(LPaceStore$Results;II)V"⟩
abbrev cX8_size : ByteArray := prog_10_method_4_code
def yX8_size : MethodName := ⟨RX8, "size", "()I"⟩
abbrev cX8_mark : ByteArray := prog_10_method_5_code
def yX8_mark : MethodName := ⟨RX8, "mark", "()I"⟩
abbrev cX8_answer : ByteArray := prog_10_method_6_code
def yX8_answer : MethodName := ⟨RX8, "answer", "(II)I"⟩
abbrev cX8_leaveNumber : ByteArray := prog_10_method_7_code
def yX8_leaveNumber : MethodName := ⟨RX8, "leaveNumber", "(I)V"⟩
def RX9 : String := "PaceStore"
def TX9 : u_T := fun k => match k with
  | 0 => ("PaceStore", "sheets", "[LPaceStore$Sheet;", true)
  | 1 => ("PaceStore", "reader", "LPaceStore$Reader;", true)
  | 2 => ("PaceStore", "course", "LPaceStore$Course;", true)
  | 3 => ("PaceStore", "results", "LPaceStore$Results;", true)
  | 4 => ("PaceStore", "keptCourses", "[LPaceStore$Course;", true)
  | 5 => ("PaceStore", "keptResults", "[LPaceStore$Results;", true)
  | 6 => ("PaceStore", "field", "LPaceStore$Field;", true)
  | 7 => ("PaceStore", "alone", "LPaceStore$Alone;", true)
  | 8 => ("PaceStore", "game", "LPaceStore$Game;", true)
  | 9 => ("PaceStore", "step", "LPaceStore$Step;", true)
  | _ => ("PaceStore", "status", "I", false)
def tyX9 : Nat → FieldType := fun k => match k with
  | 0 => .array (.object "PaceStore$Sheet")
  | 1 => .object "PaceStore$Reader"
  | 2 => .object "PaceStore$Course"
  | 3 => .object "PaceStore$Results"
  | 4 => .array (.object "PaceStore$Course")
  | 5 => .array (.object "PaceStore$Results")
  | 6 => .object "PaceStore$Field"
  | 7 => .object "PaceStore$Alone"
  | 8 => .object "PaceStore$Game"
  | 9 => .object "PaceStore$Step"
  | _ => .int
abbrev wsX90 : List Cond := u_ws RX9 TX9 11
theorem nmX9 : ∀ a, a < 11 → ∀ b, b < 11 → a ≠ b → (TX9 a).2.1 ≠ (TX9 b).2.1 := by decide +kernel
theorem tyX9_ok : ∀ k, k < 11 → parseFieldDescriptor (TX9 k).2.2.1 = some (tyX9 k) := by decide +kernel
abbrev cX9_init : ByteArray := prog_1_method_1_code
def yX9_init : MethodName := ⟨RX9, "<init>", "()V"⟩
abbrev cX9_sheet : ByteArray := prog_1_method_2_code
def yX9_sheet : MethodName := ⟨RX9, "sheet", "(III)I"⟩
abbrev cX9_set : ByteArray := prog_1_method_3_code
def yX9_set : MethodName := ⟨RX9, "set", "(III)I"⟩
abbrev cX9_copy : ByteArray := prog_1_method_4_code
def yX9_copy : MethodName := ⟨RX9, "copy", "(IIIII)I"⟩
abbrev cX9_drop : ByteArray := prog_1_method_5_code
def yX9_drop : MethodName := ⟨RX9, "drop", "(I)I"⟩
abbrev cX9_feed : ByteArray := prog_1_method_6_code
def yX9_feed : MethodName := ⟨RX9, "feed", "(JI)I"⟩
abbrev cX9_course : ByteArray := prog_1_method_7_code
def yX9_course : MethodName := ⟨RX9, "course", "()I"⟩
abbrev cX9_fault : ByteArray := prog_1_method_8_code
def yX9_fault : MethodName := ⟨RX9, "fault", "()I"⟩
abbrev cX9_need : ByteArray := prog_1_method_9_code
def yX9_need : MethodName := ⟨RX9, "need", "(III)I"⟩
abbrev cX9_race : ByteArray := prog_1_method_10_code
def yX9_race : MethodName := ⟨RX9, "race", "(III)I"⟩
abbrev cX9_ran : ByteArray := prog_1_method_11_code
def yX9_ran : MethodName := ⟨RX9, "ran", "(III)I"⟩
abbrev cX9_place : ByteArray := prog_1_method_12_code
def yX9_place : MethodName := ⟨RX9, "place", "(I)I"⟩
abbrev cX9_best : ByteArray := prog_1_method_13_code
def yX9_best : MethodName := ⟨RX9, "best", "(III)I"⟩
abbrev cX9_even : ByteArray := prog_1_method_14_code
def yX9_even : MethodName := ⟨RX9, "even", "(III)I"⟩
abbrev cX9_early : ByteArray := prog_1_method_15_code
def yX9_early : MethodName := ⟨RX9, "early", "(II)I"⟩
abbrev cX9_hired : ByteArray := prog_1_method_16_code
def yX9_hired : MethodName := ⟨RX9, "hired", "(III)I"⟩
abbrev cX9_stays : ByteArray := prog_1_method_17_code
def yX9_stays : MethodName := ⟨RX9, "stays", "(II)I"⟩
abbrev cX9_rests : ByteArray := prog_1_method_18_code
def yX9_rests : MethodName := ⟨RX9, "rests", "(III)I"⟩
abbrev cX9_wins : ByteArray := prog_1_method_19_code
def yX9_wins : MethodName := ⟨RX9, "wins", "(IIII)I"⟩
abbrev cX9_line : ByteArray := prog_1_method_20_code
def yX9_line : MethodName := ⟨RX9, "line", "(III)I"⟩
abbrev cX9_leastLine : ByteArray := prog_1_method_21_code
def yX9_leastLine : MethodName := ⟨RX9, "leastLine", "(ILPaceStore$Sheet;I)I"⟩
abbrev cX9_parts : ByteArray := prog_1_method_22_code
def yX9_parts : MethodName := ⟨RX9, "parts", "(IIII)I"⟩
abbrev cX9_takenOffInAllOrders : ByteArray := prog_1_method_23_code
def yX9_takenOffInAllOrders : MethodName := ⟨RX9, "takenOffInAllOrders", "(LPaceStore$Sheet;II)I"⟩
abbrev cX9_commonDivisor : ByteArray := prog_1_method_24_code
def yX9_commonDivisor : MethodName := ⟨RX9, "commonDivisor", "(II)I"⟩
abbrev cX9_hour : ByteArray := prog_1_method_25_code
def yX9_hour : MethodName := ⟨RX9, "hour", "(IIIII)I"⟩
abbrev cX9_bestHour : ByteArray := prog_1_method_26_code
def yX9_bestHour : MethodName := ⟨RX9, "bestHour", "(ILPaceStore$Sheet;III)I"⟩
abbrev cX9_feeling : ByteArray := prog_1_method_27_code
def yX9_feeling : MethodName := ⟨RX9, "feeling", "(III)I"⟩
abbrev cX9_image : ByteArray := prog_1_method_28_code
def yX9_image : MethodName := ⟨RX9, "image", "(I)I"⟩
abbrev cX9_restore : ByteArray := prog_1_method_29_code
def yX9_restore : MethodName := ⟨RX9, "restore", "(I)I"⟩
abbrev cX9_kind : ByteArray := prog_1_method_30_code
def yX9_kind : MethodName := ⟨RX9, "kind", "(II)I"⟩
abbrev cX9_as : ByteArray := prog_1_method_31_code
def yX9_as : MethodName := ⟨RX9, "as", "(III)I"⟩
abbrev cX9_ask : ByteArray := prog_1_method_32_code
def yX9_ask : MethodName := ⟨RX9, "ask", "(III)I"⟩
abbrev cX9_trace : ByteArray := prog_1_method_33_code
def yX9_trace : MethodName := ⟨RX9, "trace", "(I)I"⟩
abbrev cX9_count : ByteArray := prog_1_method_34_code
def yX9_count : MethodName := ⟨RX9, "count", "(I)I"⟩
abbrev cX9_status : ByteArray := prog_1_method_35_code
def yX9_status : MethodName := ⟨RX9, "status", "()I"⟩
abbrev cX9_sheetsThere : ByteArray := prog_1_method_36_code
def yX9_sheetsThere : MethodName := ⟨RX9, "sheetsThere", "()I"⟩
abbrev cX9_found : ByteArray := prog_1_method_37_code
def yX9_found : MethodName := ⟨RX9, "found", "(I)I"⟩
abbrev cX9_foundNothing : ByteArray := prog_1_method_38_code
def yX9_foundNothing : MethodName := ⟨RX9, "foundNothing", "(I)I"⟩
abbrev cX9_findingAt : ByteArray := prog_1_method_39_code
def yX9_findingAt : MethodName := ⟨RX9, "findingAt", "(III)I"⟩
abbrev cX9_itemsWithin : ByteArray := prog_1_method_40_code
def yX9_itemsWithin : MethodName := ⟨RX9, "itemsWithin", "(LPaceStore$Sheet;IIII)Z"⟩
abbrev cX9_within : ByteArray := prog_1_method_41_code
def yX9_within : MethodName := ⟨RX9, "within", "(III)Z"⟩
abbrev cX9_isPace : ByteArray := prog_1_method_42_code
def yX9_isPace : MethodName := ⟨RX9, "isPace", "(I)Z"⟩
abbrev cX9_asPace : ByteArray := prog_1_method_43_code
def yX9_asPace : MethodName := ⟨RX9, "asPace", "(I)I"⟩
abbrev cX9_secondsBy : ByteArray := prog_1_method_44_code
def yX9_secondsBy : MethodName := ⟨RX9, "secondsBy", "(I)I"⟩
abbrev cX9_changeBy : ByteArray := prog_1_method_45_code
def yX9_changeBy : MethodName := ⟨RX9, "changeBy", "(III)I"⟩
def RX10 : String := "PaceStoreModel"
def TX10 : u_T := fun k => match k with
  | 0 => ("PaceStoreModel", "now", "[I", false)
  | 1 => ("PaceStoreModel", "spare", "[I", false)
  | 2 => ("PaceStoreModel", "kept", "[I", true)
  | 3 => ("PaceStoreModel", "isKept", "[Z", true)
  | 4 => ("PaceStoreModel", "tape", "[I", true)
  | 5 => ("PaceStoreModel", "tapeLong", "I", false)
  | 6 => ("PaceStoreModel", "faultNumber", "I", false)
  | 7 => ("PaceStoreModel", "finding", "I", false)
  | 8 => ("PaceStoreModel", "lanes", "[I", true)
  | 9 => ("PaceStoreModel", "sizes", "[I", true)
  | 10 => ("PaceStoreModel", "isThere", "[Z", true)
  | 11 => ("PaceStoreModel", "items", "[I", true)
  | 12 => ("PaceStoreModel", "at", "I", false)
  | 13 => ("PaceStoreModel", "size", "I", false)
  | 14 => ("PaceStoreModel", "token", "I", false)
  | 15 => ("PaceStoreModel", "value", "I", false)
  | 16 => ("PaceStoreModel", "tapeEnd", "I", false)
  | 17 => ("PaceStoreModel", "read", "I", false)
  | 18 => ("PaceStoreModel", "hourHeat", "[I", true)
  | 19 => ("PaceStoreModel", "paces", "[I", true)
  | 20 => ("PaceStoreModel", "lefts", "[I", true)
  | 21 => ("PaceStoreModel", "times", "[I", true)
  | 22 => ("PaceStoreModel", "runs", "[Z", true)
  | 23 => ("PaceStoreModel", "shelters", "[Z", true)
  | 24 => ("PaceStoreModel", "took", "I", false)
  | 25 => ("PaceStoreModel", "isOut", "Z", false)
  | 26 => ("PaceStoreModel", "least", "[I", true)
  | 27 => ("PaceStoreModel", "games", "[I", true)
  | 28 => ("PaceStoreModel", "traced", "[I", true)
  | _ => ("PaceStoreModel", "traceMany", "I", false)
def tyX10 : Nat → FieldType := fun k => match k with
  | 0 => .array .int
  | 1 => .array .int
  | 2 => .array .int
  | 3 => .array .boolean
  | 4 => .array .int
  | 5 => .int
  | 6 => .int
  | 7 => .int
  | 8 => .array .int
  | 9 => .array .int
  | 10 => .array .boolean
  | 11 => .array .int
  | 12 => .int
  | 13 => .int
  | 14 => .int
  | 15 => .int
  | 16 => .int
  | 17 => .int
  | 18 => .array .int
  | 19 => .array .int
  | 20 => .array .int
  | 21 => .array .int
  | 22 => .array .boolean
  | 23 => .array .boolean
  | 24 => .int
  | 25 => .boolean
  | 26 => .array .int
  | 27 => .array .int
  | 28 => .array .int
  | _ => .int
abbrev wsX100 : List Cond := u_ws RX10 TX10 30
theorem nmX10 : ∀ a, a < 30 → ∀ b, b < 30 → a ≠ b → (TX10 a).2.1 ≠ (TX10 b).2.1 := by decide +kernel
theorem tyX10_ok : ∀ k, k < 30 → parseFieldDescriptor (TX10 k).2.2.1 = some (tyX10 k) := by decide +kernel
abbrev cX10_init : ByteArray := prog_12_method_1_code
def yX10_init : MethodName := ⟨RX10, "<init>", "()V"⟩
abbrev cX10_in : ByteArray := prog_12_method_3_code
def yX10_in : MethodName := ⟨RX10, "in", "(JJJ)Z"⟩
abbrev cX10_isSheet : ByteArray := prog_12_method_4_code
def yX10_isSheet : MethodName := ⟨RX10, "isSheet", "(I)Z"⟩
abbrev cX10_found : ByteArray := prog_12_method_5_code
def yX10_found : MethodName := ⟨RX10, "found", "(I)I"⟩
abbrev cX10_through : ByteArray := prog_12_method_6_code
def yX10_through : MethodName := ⟨RX10, "through", "(I)I"⟩
abbrev cX10_sheet : ByteArray := prog_12_method_7_code
def yX10_sheet : MethodName := ⟨RX10, "sheet", "(III)I"⟩
abbrev cX10_set : ByteArray := prog_12_method_8_code
def yX10_set : MethodName := ⟨RX10, "set", "(III)I"⟩
abbrev cX10_holds : ByteArray := prog_12_method_9_code
def yX10_holds : MethodName := ⟨RX10, "holds", "(III)Z"⟩
abbrev cX10_copy : ByteArray := prog_12_method_10_code
def yX10_copy : MethodName := ⟨RX10, "copy", "(IIIII)I"⟩
abbrev cX10_drop : ByteArray := prog_12_method_11_code
def yX10_drop : MethodName := ⟨RX10, "drop", "(I)I"⟩
abbrev cX10_item : ByteArray := prog_12_method_12_code
def yX10_item : MethodName := ⟨RX10, "item", "(II)I"⟩
abbrev cX10_feed : ByteArray := prog_12_method_13_code
def yX10_feed : MethodName := ⟨RX10, "feed", "(JI)I"⟩
abbrev cX10_isSmall : ByteArray := prog_12_method_14_code
def yX10_isSmall : MethodName := ⟨RX10, "isSmall", "(I)Z"⟩
abbrev cX10_isFigureAt : ByteArray := prog_12_method_15_code
def yX10_isFigureAt : MethodName := ⟨RX10, "isFigureAt", "(I)Z"⟩
abbrev cX10_look : ByteArray := prog_12_method_16_code
def yX10_look : MethodName := ⟨RX10, "look", "(I)V"⟩
abbrev cX10_next : ByteArray := prog_12_method_17_code
def yX10_next : MethodName := ⟨RX10, "next", "()V"⟩
abbrev cX10_isWord : ByteArray := prog_12_method_18_code
def yX10_isWord : MethodName := ⟨RX10, "isWord", "(IIIIII)Z"⟩
abbrev cX10_faulty : ByteArray := prog_12_method_19_code
def yX10_faulty : MethodName := ⟨RX10, "faulty", "(I)Z"⟩
abbrev cX10_readNumber : ByteArray := prog_12_method_20_code
def yX10_readNumber : MethodName := ⟨RX10, "readNumber", "(II)Z"⟩
abbrev cX10_readStop : ByteArray := prog_12_method_21_code
def yX10_readStop : MethodName := ⟨RX10, "readStop", "()Z"⟩
abbrev cX10_readMile : ByteArray := prog_12_method_22_code
def yX10_readMile : MethodName := ⟨RX10, "readMile", "()Z"⟩
abbrev cX10_readRunner : ByteArray := prog_12_method_23_code
def yX10_readRunner : MethodName := ⟨RX10, "readRunner", "()Z"⟩
abbrev cX10_readRule : ByteArray := prog_12_method_24_code
def yX10_readRule : MethodName := ⟨RX10, "readRule", "(I)Z"⟩
abbrev cX10_readRabbit : ByteArray := prog_12_method_25_code
def yX10_readRabbit : MethodName := ⟨RX10, "readRabbit", "()Z"⟩
abbrev cX10_isMileWord : ByteArray := prog_12_method_26_code
def yX10_isMileWord : MethodName := ⟨RX10, "isMileWord", "()Z"⟩
abbrev cX10_isRunnerWord : ByteArray := prog_12_method_27_code
def yX10_isRunnerWord : MethodName := ⟨RX10, "isRunnerWord", "()Z"⟩
abbrev cX10_readAll : ByteArray := prog_12_method_28_code
def yX10_readAll : MethodName := ⟨RX10, "readAll", "()Z"⟩
abbrev cX10_course : ByteArray := prog_12_method_29_code
def yX10_course : MethodName := ⟨RX10, "course", "()I"⟩
abbrev cX10_fault : ByteArray := prog_12_method_30_code
def yX10_fault : MethodName := ⟨RX10, "fault", "()I"⟩
abbrev cX10_miles : ByteArray := prog_12_method_31_code
def yX10_miles : MethodName := ⟨RX10, "miles", "()I"⟩
abbrev cX10_runners : ByteArray := prog_12_method_32_code
def yX10_runners : MethodName := ⟨RX10, "runners", "()I"⟩
abbrev cX10_rabbits : ByteArray := prog_12_method_33_code
def yX10_rabbits : MethodName := ⟨RX10, "rabbits", "()I"⟩
abbrev cX10_isMile : ByteArray := prog_12_method_34_code
def yX10_isMile : MethodName := ⟨RX10, "isMile", "(I)Z"⟩
abbrev cX10_isRunner : ByteArray := prog_12_method_35_code
def yX10_isRunner : MethodName := ⟨RX10, "isRunner", "(I)Z"⟩
abbrev cX10_isPace : ByteArray := prog_12_method_36_code
def yX10_isPace : MethodName := ⟨RX10, "isPace", "(I)Z"⟩
abbrev cX10_ofRunner : ByteArray := prog_12_method_37_code
def yX10_ofRunner : MethodName := ⟨RX10, "ofRunner", "(II)I"⟩
abbrev cX10_ofRabbit : ByteArray := prog_12_method_38_code
def yX10_ofRabbit : MethodName := ⟨RX10, "ofRabbit", "(II)I"⟩
abbrev cX10_needOf : ByteArray := prog_12_method_39_code
def yX10_needOf : MethodName := ⟨RX10, "needOf", "(IIZ)I"⟩
abbrev cX10_secondsBy : ByteArray := prog_12_method_40_code
def yX10_secondsBy : MethodName := ⟨RX10, "secondsBy", "(I)I"⟩
abbrev cX10_need : ByteArray := prog_12_method_41_code
def yX10_need : MethodName := ⟨RX10, "need", "(III)I"⟩
abbrev cX10_leftBehind : ByteArray := prog_12_method_42_code
def yX10_leftBehind : MethodName := ⟨RX10, "leftBehind", "(IIII)I"⟩
abbrev cX10_easyPace : ByteArray := prog_12_method_43_code
def yX10_easyPace : MethodName := ⟨RX10, "easyPace", "(II)I"⟩
abbrev cX10_goMile : ByteArray := prog_12_method_44_code
def yX10_goMile : MethodName := ⟨RX10, "goMile", "(IIZ)V"⟩
abbrev cX10_isSheltered : ByteArray := prog_12_method_45_code
def yX10_isSheltered : MethodName := ⟨RX10, "isSheltered", "(I)Z"⟩
abbrev cX10_startRace : ByteArray := prog_12_method_46_code
def yX10_startRace : MethodName := ⟨RX10, "startRace", "()V"⟩
abbrev cX10_brought : ByteArray := prog_12_method_47_code
def yX10_brought : MethodName := ⟨RX10, "brought", "(I)I"⟩
abbrev cX10_leastTime : ByteArray := prog_12_method_48_code
def yX10_leastTime : MethodName := ⟨RX10, "leastTime", "()I"⟩
abbrev cX10_paceByRules : ByteArray := prog_12_method_49_code
def yX10_paceByRules : MethodName := ⟨RX10, "paceByRules", "(III)I"⟩
abbrev cX10_findShelters : ByteArray := prog_12_method_50_code
def yX10_findShelters : MethodName := ⟨RX10, "findShelters", "()V"⟩
abbrev cX10_race : ByteArray := prog_12_method_51_code
def yX10_race : MethodName := ⟨RX10, "race", "(III)I"⟩
abbrev cX10_ranOf : ByteArray := prog_12_method_52_code
def yX10_ranOf : MethodName := ⟨RX10, "ranOf", "(III)I"⟩
abbrev cX10_ran : ByteArray := prog_12_method_53_code
def yX10_ran : MethodName := ⟨RX10, "ran", "(III)I"⟩
abbrev cX10_place : ByteArray := prog_12_method_54_code
def yX10_place : MethodName := ⟨RX10, "place", "(I)I"⟩
abbrev cX10_isBehindRabbit : ByteArray := prog_12_method_55_code
def yX10_isBehindRabbit : MethodName := ⟨RX10, "isBehindRabbit", "(III)Z"⟩
abbrev cX10_leftAlone : ByteArray := prog_12_method_56_code
def yX10_leftAlone : MethodName := ⟨RX10, "leftAlone", "(IIIII)I"⟩
abbrev cX10_timeBy : ByteArray := prog_12_method_57_code
def yX10_timeBy : MethodName := ⟨RX10, "timeBy", "(IIIII)I"⟩
abbrev cX10_findLeast : ByteArray := prog_12_method_58_code
def yX10_findLeast : MethodName := ⟨RX10, "findLeast", "(II)V"⟩
abbrev cX10_leastAll : ByteArray := prog_12_method_59_code
def yX10_leastAll : MethodName := ⟨RX10, "leastAll", "(II)I"⟩
abbrev cX10_paceFor : ByteArray := prog_12_method_60_code
def yX10_paceFor : MethodName := ⟨RX10, "paceFor", "(IIII)I"⟩
abbrev cX10_isSet : ByteArray := prog_12_method_61_code
def yX10_isSet : MethodName := ⟨RX10, "isSet", "(I)Z"⟩
abbrev cX10_best : ByteArray := prog_12_method_62_code
def yX10_best : MethodName := ⟨RX10, "best", "(III)I"⟩
abbrev cX10_evenTime : ByteArray := prog_12_method_63_code
def yX10_evenTime : MethodName := ⟨RX10, "evenTime", "(III)I"⟩
abbrev cX10_even : ByteArray := prog_12_method_64_code
def yX10_even : MethodName := ⟨RX10, "even", "(III)I"⟩
abbrev cX10_early : ByteArray := prog_12_method_65_code
def yX10_early : MethodName := ⟨RX10, "early", "(II)I"⟩
abbrev cX10_coinOf : ByteArray := prog_12_method_66_code
def yX10_coinOf : MethodName := ⟨RX10, "coinOf", "(I)I"⟩
abbrev cX10_hired : ByteArray := prog_12_method_67_code
def yX10_hired : MethodName := ⟨RX10, "hired", "(III)I"⟩
abbrev cX10_stays : ByteArray := prog_12_method_68_code
def yX10_stays : MethodName := ⟨RX10, "stays", "(II)I"⟩
abbrev cX10_planPace : ByteArray := prog_12_method_69_code
def yX10_planPace : MethodName := ⟨RX10, "planPace", "(III)I"⟩
abbrev cX10_gameOf : ByteArray := prog_12_method_70_code
def yX10_gameOf : MethodName := ⟨RX10, "gameOf", "(IIII)I"⟩
abbrev cX10_isGame : ByteArray := prog_12_method_71_code
def yX10_isGame : MethodName := ⟨RX10, "isGame", "(II)Z"⟩
abbrev cX10_worthTo : ByteArray := prog_12_method_72_code
def yX10_worthTo : MethodName := ⟨RX10, "worthTo", "(II)I"⟩
abbrev cX10_isRest : ByteArray := prog_12_method_73_code
def yX10_isRest : MethodName := ⟨RX10, "isRest", "(II)Z"⟩
abbrev cX10_rests : ByteArray := prog_12_method_74_code
def yX10_rests : MethodName := ⟨RX10, "rests", "(III)I"⟩
abbrev cX10_wins : ByteArray := prog_12_method_75_code
def yX10_wins : MethodName := ⟨RX10, "wins", "(IIII)I"⟩
abbrev cX10_paceOf : ByteArray := prog_12_method_76_code
def yX10_paceOf : MethodName := ⟨RX10, "paceOf", "(I)I"⟩
abbrev cX10_isBorne : ByteArray := prog_12_method_77_code
def yX10_isBorne : MethodName := ⟨RX10, "isBorne", "(IIII)Z"⟩
abbrev cX10_line : ByteArray := prog_12_method_78_code
def yX10_line : MethodName := ⟨RX10, "line", "(III)I"⟩
abbrev cX10_parts : ByteArray := prog_12_method_79_code
def yX10_parts : MethodName := ⟨RX10, "parts", "(IIII)I"⟩
abbrev cX10_hour : ByteArray := prog_12_method_80_code
def yX10_hour : MethodName := ⟨RX10, "hour", "(IIIII)I"⟩
abbrev cX10_feltTime : ByteArray := prog_12_method_81_code
def yX10_feltTime : MethodName := ⟨RX10, "feltTime", "(IIII)I"⟩
abbrev cX10_feeling : ByteArray := prog_12_method_82_code
def yX10_feeling : MethodName := ⟨RX10, "feeling", "(III)I"⟩
abbrev cX10_isStep : ByteArray := prog_12_method_83_code
def yX10_isStep : MethodName := ⟨RX10, "isStep", "(II)Z"⟩
abbrev cX10_kindOf : ByteArray := prog_12_method_84_code
def yX10_kindOf : MethodName := ⟨RX10, "kindOf", "(II)I"⟩
abbrev cX10_kind : ByteArray := prog_12_method_85_code
def yX10_kind : MethodName := ⟨RX10, "kind", "(II)I"⟩
abbrev cX10_isOf : ByteArray := prog_12_method_86_code
def yX10_isOf : MethodName := ⟨RX10, "isOf", "(II)Z"⟩
abbrev cX10_as : ByteArray := prog_12_method_87_code
def yX10_as : MethodName := ⟨RX10, "as", "(III)I"⟩
abbrev cX10_leave : ByteArray := prog_12_method_88_code
def yX10_leave : MethodName := ⟨RX10, "leave", "(IZ)V"⟩
abbrev cX10_sizeOf : ByteArray := prog_12_method_89_code
def yX10_sizeOf : MethodName := ⟨RX10, "sizeOf", "(III)I"⟩
abbrev cX10_hardMark : ByteArray := prog_12_method_90_code
def yX10_hardMark : MethodName := ⟨RX10, "hardMark", "(III)I"⟩
abbrev cX10_markOf : ByteArray := prog_12_method_91_code
def yX10_markOf : MethodName := ⟨RX10, "markOf", "(III)I"⟩
abbrev cX10_ask : ByteArray := prog_12_method_92_code
def yX10_ask : MethodName := ⟨RX10, "ask", "(III)I"⟩
abbrev cX10_trace : ByteArray := prog_12_method_93_code
def yX10_trace : MethodName := ⟨RX10, "trace", "(I)I"⟩
abbrev cX10_image : ByteArray := prog_12_method_94_code
def yX10_image : MethodName := ⟨RX10, "image", "(I)I"⟩
abbrev cX10_restore : ByteArray := prog_12_method_95_code
def yX10_restore : MethodName := ⟨RX10, "restore", "(I)I"⟩
abbrev cX10_count : ByteArray := prog_12_method_96_code
def yX10_count : MethodName := ⟨RX10, "count", "(I)I"⟩
abbrev cX10_status : ByteArray := prog_12_method_97_code
def yX10_status : MethodName := ⟨RX10, "status", "()I"⟩
def RJ6 : String := "java/lang/Integer"
abbrev cJ6_compare_7cf53 : ByteArray := prog_13_method_40_code
def yJ6_compare_7cf53 : MethodName := ⟨RJ6, "compare", "(II)I"⟩
abbrev cJ6_bitCount_0f7a4 : ByteArray := prog_13_method_49_code
def yJ6_bitCount_0f7a4 : MethodName := ⟨RJ6, "bitCount", "(I)I"⟩
def RJ9 : String := "java/lang/Math"
abbrev cJ9_abs_0f7a4 : ByteArray := prog_14_method_59_code
def yJ9_abs_0f7a4 : MethodName := ⟨RJ9, "abs", "(I)I"⟩
abbrev cJ9_max_7cf53 : ByteArray := prog_14_method_65_code
def yJ9_max_7cf53 : MethodName := ⟨RJ9, "max", "(II)I"⟩
abbrev cJ9_min_7cf53 : ByteArray := prog_14_method_69_code
def yJ9_min_7cf53 : MethodName := ⟨RJ9, "min", "(II)I"⟩
def RJ0 : String := "java/lang/String"
abbrev cJ0_length_8abf5 : ByteArray := prog_15_method_54_code
def yJ0_length_8abf5 : MethodName := ⟨RJ0, "length", "()I"⟩
abbrev cJ0_charAt_5068e : ByteArray := prog_15_method_56_code
def yJ0_charAt_5068e : MethodName := ⟨RJ0, "charAt", "(I)C"⟩
abbrev cJ0_coder_7d493 : ByteArray := prog_15_method_152_code
def yJ0_coder_7d493 : MethodName := ⟨RJ0, "coder", "()B"⟩
abbrev cJ0_isLatin1_aae02 : ByteArray := prog_15_method_154_code
def yJ0_isLatin1_aae02 : MethodName := ⟨RJ0, "isLatin1", "()Z"⟩
abbrev cJ0_checkIndex_df160 : ByteArray := prog_15_method_155_code
def yJ0_checkIndex_df160 : MethodName := ⟨RJ0, "checkIndex", "(II)V"⟩
def RJ1 : String := "java/lang/StringLatin1"
abbrev cJ1_charAt_3b067 : ByteArray := prog_16_method_2_code
def yJ1_charAt_3b067 : MethodName := ⟨RJ1, "charAt", "([BI)C"⟩
def RJ2 : String := "java/lang/StringUTF16"
abbrev cJ2_getChar_3b067 : ByteArray := prog_17_method_5_code
def yJ2_getChar_3b067 : MethodName := ⟨RJ2, "getChar", "([BI)C"⟩
abbrev cJ2_length_9d52b : ByteArray := prog_17_method_6_code
def yJ2_length_9d52b : MethodName := ⟨RJ2, "length", "([B)I"⟩
abbrev cJ2_charAt_3b067 : ByteArray := prog_17_method_83_code
def yJ2_charAt_3b067 : MethodName := ⟨RJ2, "charAt", "([BI)C"⟩
abbrev cJ2_checkIndex_2214a : ByteArray := prog_17_method_91_code
def yJ2_checkIndex_2214a : MethodName := ⟨RJ2, "checkIndex", "(I[B)V"⟩
def RJ10 : String := "java/lang/System"
def RJ7 : String := "java/util/Arrays"
abbrev cJ7_fill_53178 : ByteArray := prog_19_method_103_code
def yJ7_fill_53178 : MethodName := ⟨RJ7, "fill", "([II)V"⟩
def RJ3 : String := "jdk/internal/util/Preconditions"
abbrev cJ3_checkIndex_8e157 : ByteArray := prog_20_method_11_code
def yJ3_checkIndex_8e157 : MethodName := ⟨RJ3, "checkIndex", "(IILjava/util/function/BiFunction;)I"⟩
def RL : String := "PaceStoreLaw"
abbrev cL_law : ByteArray := code
def yL_law : MethodName := ⟨RL, "law", "([I)Z"⟩
abbrev vwCl : List vw_C := [(RX0, TX0, 11), (RX1, TX1, 10), (RX2, TX2, 18), (RX3, TX3, 3), (RX4, TX4, 2), (RX5, TX5, 9), (RX6, TX6, 4), (RX7, TX7, 3), (RX8, TX8, 7), (RX9, TX9, 11), (RX10, TX10, 30)]
end
section
/-! the kinds of places (by program: wip/whole/gen_kinds.py): 0 to 63 are the world; 64 the script, 65 the static arrays, 66 the String constants, 67 their bytes -/
def z_cnt (k : Nat) : Nat := (bif Nat.ble k 33 then (bif Nat.ble k 16 then (bif Nat.ble k 7 then (bif Nat.ble k 3 then (bif Nat.ble k 1 then (bif Nat.ble k 0 then 1 else 1) else (bif Nat.ble k 2 then 8 else 8)) else (bif Nat.ble k 5 then (bif Nat.ble k 4 then 1 else 1) else (bif Nat.ble k 6 then 4 else 4))) else (bif Nat.ble k 11 then (bif Nat.ble k 9 then (bif Nat.ble k 8 then 4 else 4) else (bif Nat.ble k 10 then 4 else 4)) else (bif Nat.ble k 13 then (bif Nat.ble k 12 then 4 else 4) else (bif Nat.ble k 14 then 4 else (bif Nat.ble k 15 then 4 else 4))))) else (bif Nat.ble k 24 then (bif Nat.ble k 20 then (bif Nat.ble k 18 then (bif Nat.ble k 17 then 4 else 4) else (bif Nat.ble k 19 then 4 else 4)) else (bif Nat.ble k 22 then (bif Nat.ble k 21 then 3 else 3) else (bif Nat.ble k 23 then 21 else 3))) else (bif Nat.ble k 28 then (bif Nat.ble k 26 then (bif Nat.ble k 25 then 1 else 1) else (bif Nat.ble k 27 then 2 else 2)) else (bif Nat.ble k 30 then (bif Nat.ble k 29 then 8 else 1) else (bif Nat.ble k 31 then 1 else (bif Nat.ble k 32 then 1 else 12)))))) else (bif Nat.ble k 50 then (bif Nat.ble k 41 then (bif Nat.ble k 37 then (bif Nat.ble k 35 then (bif Nat.ble k 34 then 1 else 12) else (bif Nat.ble k 36 then 1 else 12)) else (bif Nat.ble k 39 then (bif Nat.ble k 38 then 1 else 1) else (bif Nat.ble k 40 then 13 else 1))) else (bif Nat.ble k 45 then (bif Nat.ble k 43 then (bif Nat.ble k 42 then 1 else 1) else (bif Nat.ble k 44 then 1 else 1)) else (bif Nat.ble k 47 then (bif Nat.ble k 46 then 1 else 2) else (bif Nat.ble k 48 then 1 else (bif Nat.ble k 49 then 1 else 1))))) else (bif Nat.ble k 59 then (bif Nat.ble k 54 then (bif Nat.ble k 52 then (bif Nat.ble k 51 then 1 else 1) else (bif Nat.ble k 53 then 1 else 1)) else (bif Nat.ble k 56 then (bif Nat.ble k 55 then 1 else 1) else (bif Nat.ble k 57 then 1 else (bif Nat.ble k 58 then 1 else 1)))) else (bif Nat.ble k 63 then (bif Nat.ble k 61 then (bif Nat.ble k 60 then 1 else 1) else (bif Nat.ble k 62 then 1 else 1)) else (bif Nat.ble k 65 then (bif Nat.ble k 64 then 0 else 5) else (bif Nat.ble k 66 then 10 else (bif Nat.ble k 67 then 10 else 0)))))))
def z_kd (k : Nat) : Nat × Nat × Nat × Nat × Nat × Nat := (bif Nat.ble k 31 then (bif Nat.ble k 15 then (bif Nat.ble k 7 then (bif Nat.ble k 3 then (bif Nat.ble k 1 then (bif Nat.ble k 0 then (0, 9, 11, 0, 0, 0) else (2, 3, 8, 2, 0, 0)) else (bif Nat.ble k 2 then (0, 7, 3, 0, 0, 0) else (1, 0, 40, 0, 0, 0))) else (bif Nat.ble k 5 then (bif Nat.ble k 4 then (0, 5, 9, 0, 0, 0) else (1, 1, 600, 0, 0, 0)) else (bif Nat.ble k 6 then (0, 2, 18, 0, 0, 0) else (1, 0, 12, 0, 0, 0)))) else (bif Nat.ble k 11 then (bif Nat.ble k 9 then (bif Nat.ble k 8 then (1, 0, 12, 0, 0, 0) else (1, 0, 12, 0, 0, 0)) else (bif Nat.ble k 10 then (1, 0, 4, 0, 0, 0) else (1, 0, 4, 0, 0, 0))) else (bif Nat.ble k 13 then (bif Nat.ble k 12 then (1, 0, 4, 0, 0, 0) else (1, 0, 4, 0, 0, 0)) else (bif Nat.ble k 14 then (1, 0, 24, 0, 0, 0) else (1, 0, 24, 0, 0, 0))))) else (bif Nat.ble k 23 then (bif Nat.ble k 19 then (bif Nat.ble k 17 then (bif Nat.ble k 16 then (1, 0, 24, 0, 0, 0) else (1, 0, 24, 0, 0, 0)) else (bif Nat.ble k 18 then (1, 0, 5, 0, 0, 0) else (1, 0, 5, 0, 0, 0))) else (bif Nat.ble k 21 then (bif Nat.ble k 20 then (1, 0, 5, 0, 0, 0) else (0, 6, 4, 0, 0, 0)) else (bif Nat.ble k 22 then (2, 7, 7, 23, 7, 0) else (1, 0, 48, 0, 0, 0)))) else (bif Nat.ble k 27 then (bif Nat.ble k 25 then (bif Nat.ble k 24 then (1, 0, 4, 0, 0, 0) else (2, 4, 2, 6, 0, 2)) else (bif Nat.ble k 26 then (2, 5, 2, 21, 0, 1) else (0, 3, 3, 0, 0, 0))) else (bif Nat.ble k 29 then (bif Nat.ble k 28 then (2, 6, 4, 29, 4, 0) else (0, 1, 10, 0, 0, 0)) else (bif Nat.ble k 30 then (0, 0, 11, 0, 0, 0) else (1, 0, 31, 0, 0, 0)))))) else (bif Nat.ble k 47 then (bif Nat.ble k 39 then (bif Nat.ble k 35 then (bif Nat.ble k 33 then (bif Nat.ble k 32 then (2, 7, 12, 33, 0, 0) else (1, 0, 31, 0, 0, 0)) else (bif Nat.ble k 34 then (2, 7, 12, 35, 0, 0) else (1, 0, 31, 0, 0, 0))) else (bif Nat.ble k 37 then (bif Nat.ble k 36 then (2, 7, 12, 37, 0, 0) else (1, 0, 31, 0, 0, 0)) else (bif Nat.ble k 38 then (1, 0, 12, 0, 0, 0) else (2, 7, 13, 40, 0, 0)))) else (bif Nat.ble k 43 then (bif Nat.ble k 41 then (bif Nat.ble k 40 then (1, 0, 100, 0, 0, 0) else (1, 0, 12, 0, 0, 0)) else (bif Nat.ble k 42 then (0, 4, 2, 0, 0, 0) else (1, 0, 16, 0, 0, 0))) else (bif Nat.ble k 45 then (bif Nat.ble k 44 then (0, 8, 7, 0, 0, 0) else (1, 0, 16, 0, 0, 0)) else (bif Nat.ble k 46 then (0, 10, 30, 0, 0, 0) else (1, 0, 479, 0, 0, 0))))) else (bif Nat.ble k 55 then (bif Nat.ble k 51 then (bif Nat.ble k 49 then (bif Nat.ble k 48 then (1, 0, 958, 0, 0, 0) else (1, 2, 2, 0, 0, 0)) else (bif Nat.ble k 50 then (1, 0, 600, 0, 0, 0) else (1, 0, 8, 0, 0, 0))) else (bif Nat.ble k 53 then (bif Nat.ble k 52 then (1, 0, 8, 0, 0, 0) else (1, 2, 8, 0, 0, 0)) else (bif Nat.ble k 54 then (1, 0, 320, 0, 0, 0) else (1, 0, 3, 0, 0, 0)))) else (bif Nat.ble k 59 then (bif Nat.ble k 57 then (bif Nat.ble k 56 then (1, 0, 4, 0, 0, 0) else (1, 0, 4, 0, 0, 0)) else (bif Nat.ble k 58 then (1, 0, 4, 0, 0, 0) else (1, 2, 4, 0, 0, 0))) else (bif Nat.ble k 61 then (bif Nat.ble k 60 then (1, 2, 4, 0, 0, 0) else (1, 0, 1300, 0, 0, 0)) else (bif Nat.ble k 62 then (1, 0, 16, 0, 0, 0) else (bif Nat.ble k 63 then (1, 0, 16, 0, 0, 0) else (3, 0, 0, 0, 0, 0))))))))
def z_ft0 (f : Nat) : Nat × Nat × Nat × Nat := (bif Nat.ble f 4 then (bif Nat.ble f 1 then (bif Nat.ble f 0 then (2, 1, 0, 0) else (2, 4, 0, 0)) else (bif Nat.ble f 2 then (2, 6, 0, 0) else (bif Nat.ble f 3 then (2, 21, 0, 0) else (2, 25, 0, 0)))) else (bif Nat.ble f 7 then (bif Nat.ble f 5 then (2, 26, 0, 0) else (bif Nat.ble f 6 then (2, 27, 0, 0) else (2, 30, 0, 0))) else (bif Nat.ble f 8 then (2, 42, 0, 0) else (bif Nat.ble f 9 then (2, 44, 0, 0) else (0, 0, 0, 0)))))
def z_ft2 (f : Nat) : Nat × Nat × Nat × Nat := (bif Nat.ble f 0 then (2, 3, 1, 0) else (bif Nat.ble f 1 then (0, 0, 0, 0) else (0, 0, 0, 0)))
def z_ft4 (f : Nat) : Nat × Nat × Nat × Nat := (bif Nat.ble f 3 then (bif Nat.ble f 1 then (bif Nat.ble f 0 then (2, 5, 0, 0) else (2, 6, 0, 1)) else (bif Nat.ble f 2 then (0, 0, 0, 0) else (0, 0, 0, 0))) else (bif Nat.ble f 5 then (bif Nat.ble f 4 then (0, 0, 0, 0) else (0, 0, 0, 0)) else (bif Nat.ble f 6 then (0, 0, 0, 0) else (bif Nat.ble f 7 then (0, 0, 0, 0) else (0, 0, 0, 0)))))
def z_ft6 (f : Nat) : Nat × Nat × Nat × Nat := (bif Nat.ble f 8 then (bif Nat.ble f 3 then (bif Nat.ble f 1 then (bif Nat.ble f 0 then (0, 0, 0, 0) else (0, 0, 0, 0)) else (bif Nat.ble f 2 then (2, 7, 1, 0) else (2, 8, 1, 0))) else (bif Nat.ble f 5 then (bif Nat.ble f 4 then (2, 9, 1, 0) else (0, 0, 0, 0)) else (bif Nat.ble f 6 then (2, 10, 1, 0) else (bif Nat.ble f 7 then (2, 11, 1, 0) else (2, 12, 1, 0))))) else (bif Nat.ble f 12 then (bif Nat.ble f 10 then (bif Nat.ble f 9 then (2, 13, 1, 0) else (2, 14, 1, 0)) else (bif Nat.ble f 11 then (2, 15, 1, 0) else (2, 16, 1, 0))) else (bif Nat.ble f 14 then (bif Nat.ble f 13 then (2, 17, 1, 0) else (0, 0, 0, 0)) else (bif Nat.ble f 15 then (2, 18, 1, 0) else (bif Nat.ble f 16 then (2, 19, 1, 0) else (2, 20, 1, 0))))))
def z_ft21 (f : Nat) : Nat × Nat × Nat × Nat := (bif Nat.ble f 1 then (bif Nat.ble f 0 then (2, 22, 1, 0) else (2, 24, 1, 0)) else (bif Nat.ble f 2 then (0, 0, 0, 0) else (0, 0, 0, 0)))
def z_ft27 (f : Nat) : Nat × Nat × Nat × Nat := (bif Nat.ble f 0 then (2, 28, 1, 0) else (bif Nat.ble f 1 then (0, 0, 0, 0) else (1, 0, 0, 0)))
def z_ft29 (f : Nat) : Nat × Nat × Nat × Nat := (bif Nat.ble f 4 then (bif Nat.ble f 1 then (bif Nat.ble f 0 then (0, 0, 0, 0) else (0, 0, 0, 0)) else (bif Nat.ble f 2 then (0, 0, 0, 0) else (bif Nat.ble f 3 then (0, 0, 0, 0) else (0, 0, 0, 0)))) else (bif Nat.ble f 6 then (bif Nat.ble f 5 then (0, 0, 0, 0) else (0, 0, 0, 0)) else (bif Nat.ble f 7 then (0, 0, 0, 0) else (bif Nat.ble f 8 then (0, 0, 0, 0) else (0, 0, 0, 0)))))
def z_ft30 (f : Nat) : Nat × Nat × Nat × Nat := (bif Nat.ble f 4 then (bif Nat.ble f 1 then (bif Nat.ble f 0 then (2, 31, 0, 0) else (2, 32, 0, 0)) else (bif Nat.ble f 2 then (2, 34, 0, 0) else (bif Nat.ble f 3 then (2, 36, 0, 0) else (2, 38, 0, 0)))) else (bif Nat.ble f 7 then (bif Nat.ble f 5 then (2, 39, 0, 0) else (bif Nat.ble f 6 then (2, 41, 0, 0) else (0, 0, 0, 0))) else (bif Nat.ble f 8 then (0, 0, 0, 0) else (bif Nat.ble f 9 then (0, 0, 0, 0) else (0, 0, 0, 0)))))
def z_ft42 (f : Nat) : Nat × Nat × Nat × Nat := (bif Nat.ble f 0 then (2, 27, 0, 1) else (2, 43, 0, 0))
def z_ft44 (f : Nat) : Nat × Nat × Nat × Nat := (bif Nat.ble f 2 then (bif Nat.ble f 0 then (2, 45, 0, 0) else (bif Nat.ble f 1 then (0, 0, 0, 0) else (0, 0, 0, 0))) else (bif Nat.ble f 4 then (bif Nat.ble f 3 then (0, 0, 0, 0) else (0, 0, 0, 0)) else (bif Nat.ble f 5 then (0, 0, 0, 0) else (0, 0, 0, 0))))
def z_ft46 (f : Nat) : Nat × Nat × Nat × Nat := (bif Nat.ble f 14 then (bif Nat.ble f 6 then (bif Nat.ble f 2 then (bif Nat.ble f 0 then (3, 47, 0, 0) else (bif Nat.ble f 1 then (3, 47, 1, 0) else (2, 48, 0, 0))) else (bif Nat.ble f 4 then (bif Nat.ble f 3 then (2, 49, 0, 0) else (2, 50, 0, 0)) else (bif Nat.ble f 5 then (0, 0, 0, 0) else (0, 0, 0, 0)))) else (bif Nat.ble f 10 then (bif Nat.ble f 8 then (bif Nat.ble f 7 then (0, 0, 0, 0) else (2, 51, 0, 0)) else (bif Nat.ble f 9 then (2, 52, 0, 0) else (2, 53, 0, 0))) else (bif Nat.ble f 12 then (bif Nat.ble f 11 then (2, 54, 0, 0) else (0, 0, 0, 0)) else (bif Nat.ble f 13 then (0, 0, 0, 0) else (0, 0, 0, 0))))) else (bif Nat.ble f 21 then (bif Nat.ble f 17 then (bif Nat.ble f 15 then (0, 0, 0, 0) else (bif Nat.ble f 16 then (0, 0, 0, 0) else (0, 0, 0, 0))) else (bif Nat.ble f 19 then (bif Nat.ble f 18 then (2, 55, 0, 0) else (2, 56, 0, 0)) else (bif Nat.ble f 20 then (2, 57, 0, 0) else (2, 58, 0, 0)))) else (bif Nat.ble f 25 then (bif Nat.ble f 23 then (bif Nat.ble f 22 then (2, 59, 0, 0) else (2, 60, 0, 0)) else (bif Nat.ble f 24 then (0, 0, 0, 0) else (0, 0, 0, 0))) else (bif Nat.ble f 27 then (bif Nat.ble f 26 then (2, 61, 0, 0) else (2, 62, 0, 0)) else (bif Nat.ble f 28 then (2, 63, 0, 0) else (0, 0, 0, 0))))))
def z_ft (k f : Nat) : Nat × Nat × Nat × Nat := (bif Nat.beq k 0 then z_ft0 f else (bif Nat.beq k 2 then z_ft2 f else (bif Nat.beq k 4 then z_ft4 f else (bif Nat.beq k 6 then z_ft6 f else (bif Nat.beq k 21 then z_ft21 f else (bif Nat.beq k 27 then z_ft27 f else (bif Nat.beq k 29 then z_ft29 f else (bif Nat.beq k 30 then z_ft30 f else (bif Nat.beq k 42 then z_ft42 f else (bif Nat.beq k 44 then z_ft44 f else (bif Nat.beq k 46 then z_ft46 f else (0, 0, 0, 0))))))))))))
end
section
/-! ===== THE ABSTRACT MACHINE: values, memory, places ===== -/
/-- a value: an int, a long, a place (kind, number) -/
abbrev z_V : Type := Int32 ⊕ Int64 ⊕ (Nat × Nat)
/-- the memory: ints by kind, number, slot; longs by kind, number; which of two rows a field names, by kind, field's number -/
abbrev z_M : Type := (Nat → Nat → Nat → Int32) × (Nat → Nat → Int64) × (Nat → Nat → Bool)
abbrev z_L : Type := List (Nat × z_V)
abbrev z_S : Type := z_L × List z_V × z_M
/-- launch, classes, addresses of the places, array classes, the script's length and ints -/
abbrev z_Cx : Type := Launch × va_G × (Nat → Nat → Nat) × (Nat → ClassId) × Nat × (Nat → Int32)
/-- a method: name, code, locals, what it returns -/
abbrev z_MI : Type := MethodName × ByteArray × Nat × Option FieldType
abbrev z_C : Type := z_MI → List z_V → z_M → (Int32 → z_M → Prop) → Prop
abbrev z_X : Type := (z_S → Prop) → (Nat → z_S → Prop) → (Int32 → z_M → Prop) → z_C → z_S → Prop
abbrev zi (x : Int32) : z_V := Sum.inl x
abbrev zl (x : Int64) : z_V := Sum.inr (Sum.inl x)
abbrev zr (k i : Nat) : z_V := Sum.inr (Sum.inr (k, i))
def z_co (ad : Nat → Nat → Nat) : z_V → Value
  | .inl x => .int x
  | .inr (.inl x) => .long x
  | .inr (.inr q) => .ref (ad q.1 q.2)
def z_fv (k f i : Nat) (M : z_M) : z_V := match z_ft k f with
  | (0, _, _, _) => zi (M.1 k i f)
  | (1, _, _, _) => zl (M.2.1 k i)
  | (2, a, b, c) => zr a (b * i + c)
  | (_, a, n, _) => zr a (M.2.2 k n).toNat
def z_en (X : z_Cx) (M : z_M) (q : Nat × Nat) : Nat × va_E := (X.2.2.1 q.1 q.2, match z_kd q.1 with
  | (0, ci, nf, _, _, _) => .inr (ci, (List.range nf).map (fun f => z_co X.2.2.1 (z_fv q.1 f q.2 M)))
  | (1, t0, n, _, _, _) => .inl (X.2.2.2.1 t0, n, .inl (M.1 q.1 q.2))
  | (_, t0, n, a, b, c) => .inl (X.2.2.2.1 t0, n, .inr (.inr (.inr (.inr (fun j => some (X.2.2.1 a (b * q.2 + c + j))))))))
def z_pl : List (Nat × Nat) := (List.range 64).flatMap (fun k => (List.range (z_cnt k)).map (fun i => (k, i)))
def z_w (X : z_Cx) (M : z_M) : va_W := z_pl.map (z_en X M)
def z_A (X : z_Cx) : Nat → Prop := fun a => ∃ q ∈ z_pl, a = X.2.2.1 q.1 q.2
def z_inj (X : z_Cx) : Prop := ∀ q ∈ z_pl, ∀ r ∈ z_pl, X.2.2.1 q.1 q.2 = X.2.2.1 r.1 r.2 → q = r
def z_ty (cA : Nat → ClassId) : List (ClassId × FieldType) := [(cA 0, .int), (cA 1, .byte), (cA 2, .boolean), (cA 3, .object "PaceStore$Sheet"), (cA 4, .object "PaceStore$Course"), (cA 5, .object "PaceStore$Results"), (cA 6, .object "PaceStore$Body"), (cA 7, .array .int)]
def z_tt (t : Nat) : FieldType := bif Nat.beq t 0 then .int else bif Nat.beq t 1 then .byte else .boolean
theorem z_pl_mem {k i : Nat} (hk : k < 64) (hi : i < z_cnt k) : (k, i) ∈ z_pl := by
  unfold z_pl
  rw [List.mem_flatMap]
  exact ⟨k, List.mem_range.mpr hk, List.mem_map.mpr ⟨i, List.mem_range.mpr hi, rfl⟩⟩
theorem z_pl_nd : z_pl.Nodup := by decide +kernel
theorem z_pl_at {q : Nat × Nat} (h : q ∈ z_pl) : ∃ q0 : Nat, z_pl[q0]? = some q := List.getElem?_of_mem h
theorem z_pl_inj {i j : Nat} {q : Nat × Nat} (hi : z_pl[i]? = some q) (hj : z_pl[j]? = some q) : i = j := by
  exact (List.getElem?_inj (List.getElem?_eq_some_iff.mp hi).1 z_pl_nd).mp (hi.trans hj.symm)
theorem z_w_at {X : z_Cx} {M : z_M} {q0 : Nat} {q : Nat × Nat} (h : z_pl[q0]? = some q) : (z_w X M)[q0]? = some (z_en X M q) := by
  unfold z_w
  rw [List.getElem?_map, h]
  rfl
theorem z_w_set {X : z_Cx} {M M' : z_M} {q0 : Nat} {q : Nat × Nat} (h : z_pl[q0]? = some q) (hne : ∀ r ∈ z_pl, r ≠ q → z_en X M' r = z_en X M r) : (z_w X M).set q0 (z_en X M' q) = z_w X M' := by
  apply List.ext_getElem?
  intro j
  unfold z_w
  rw [List.getElem?_set, List.getElem?_map, List.getElem?_map, List.length_map]
  by_cases e : q0 = j
  · subst e
    have hl : q0 < z_pl.length := (List.getElem?_eq_some_iff.mp h).1
    rw [if_pos rfl, if_pos hl, h]
    rfl
  · rw [if_neg e]
    cases hj : z_pl[j]? with
    | none => rfl
    | some r =>
      have hr : r ≠ q := fun w => e (z_pl_inj h (w ▸ hj))
      show some (z_en X M r) = some (z_en X M' r)
      rw [hne r (List.mem_of_getElem? hj) hr]
theorem z_w_D {X : z_Cx} {M : z_M} (h : z_inj X) : va_D (z_A X) (z_w X M) := by
  have key : ∀ (i : Nat) (p : Nat × va_E), (z_w X M)[i]? = some p → ∃ q, z_pl[i]? = some q ∧ p = z_en X M q := by
    intro i p hp
    unfold z_w at hp
    rw [List.getElem?_map] at hp
    cases hi : z_pl[i]? with
    | none => rw [hi] at hp; cases hp
    | some q => rw [hi] at hp; exact ⟨q, rfl, (Option.some.inj hp).symm⟩
  refine ⟨fun i j p q hp hq e => ?_, fun k q hq => ?_⟩
  · obtain ⟨a, ha, rfl⟩ := key i p hp
    obtain ⟨b, hb, rfl⟩ := key j q hq
    have : a = b := h a (List.mem_of_getElem? ha) b (List.mem_of_getElem? hb) e
    subst this
    exact z_pl_inj ha hb
  · obtain ⟨a, ha, rfl⟩ := key k q hq
    exact ⟨a, List.mem_of_getElem? ha, rfl⟩
def z_ok : z_V → Prop
  | .inr (.inr q) => q.2 < z_cnt q.1
  | _ => True
def z_oks : List z_V → Prop
  | [] => True
  | v :: r => z_ok v ∧ z_oks r
def z_okl : z_L → Prop
  | [] => True
  | q :: r => z_ok q.2 ∧ z_okl r
def z_cs (X : z_Cx) (st : List z_V) : List Value := st.map (z_co X.2.2.1)
def z_cl (X : z_Cx) (ls : z_L) : List (Nat × Value) := ls.map (fun q => (q.1, z_co X.2.2.1 q.2))
/-- a local's value; a local stored (a long's second half, and what a store breaks, are forgotten) -/
def z_lk (i : Nat) : z_L → Option z_V
  | [] => none
  | q :: r => bif Nat.beq q.1 i then some q.2 else z_lk i r
def z_isl : z_V → Bool
  | .inr (.inl _) => true
  | _ => false
def z_rm1 (i : Nat) : z_L → z_L
  | [] => []
  | q :: r => bif Nat.beq q.1 i then z_rm1 i r else bif (Nat.beq (q.1 + 1) i && z_isl q.2) then z_rm1 i r else q :: z_rm1 i r
def z_pk (ks : List Nat) (ls : z_L) : z_L := match ks with
  | [] => []
  | k :: r => match z_lk k ls with
    | some v => (k, v) :: z_pk r ls
    | none => z_pk r ls
def z_wd : List z_V → Nat
  | [] => 0
  | .inr (.inl _) :: r => 2 + z_wd r
  | _ :: r => 1 + z_wd r
def z_pop : Nat → List z_V → List z_V → Option (List z_V × List z_V)
  | 0, st, acc => some (acc, st)
  | _ + 1, [], _ => none
  | n + 1, v :: r, acc => z_pop n r (v :: acc)
/-- ints of memory -/
def z_s (M : z_M) (k i j : Nat) (v : Int32) : z_M := (fun k' i' j' => if k' = k ∧ i' = i ∧ j' = j then v else M.1 k' i' j', M.2)
def z_sl (M : z_M) (k i : Nat) (v : Int64) : z_M := (M.1, fun k' i' => if k' = k ∧ i' = i then v else M.2.1 k' i', M.2.2)
def z_sn (M : z_M) (k n : Nat) (v : Bool) : z_M := (M.1, M.2.1, fun k' n' => if k' = k ∧ n' = n then v else M.2.2 k' n')
theorem z_oks_pop {n : Nat} : ∀ {st acc as r : List z_V}, z_pop n st acc = some (as, r) → z_oks st → z_oks acc → z_oks as ∧ z_oks r := by
  induction n with
  | zero => intro st acc as r h h1 h2; cases h; exact ⟨h2, h1⟩
  | succ n ih =>
    intro st acc as r h h1 h2
    cases st with
    | nil => cases h
    | cons v t => exact ih (acc := v :: acc) h h1.2 ⟨h1.1, h2⟩
theorem z_pop_spec {n : Nat} : ∀ {st acc as r : List z_V}, z_pop n st acc = some (as, r) → ∃ b, as = b ++ acc ∧ b.length = n ∧ st = b.reverse ++ r := by
  induction n with
  | zero => intro st acc as r h; cases h; exact ⟨[], rfl, rfl, rfl⟩
  | succ n ih =>
    intro st acc as r h
    cases st with
    | nil => cases h
    | cons v t =>
      obtain ⟨b, e1, e2, e3⟩ := ih (acc := v :: acc) h
      refine ⟨b ++ [v], by rw [e1, List.append_assoc]; rfl, by rw [List.length_append, e2]; rfl, by rw [e3, List.reverse_append]; rfl⟩
theorem z_lk_ok {i : Nat} : ∀ {ls : z_L} {v : z_V}, z_lk i ls = some v → z_okl ls → z_ok v := by
  intro ls
  induction ls with
  | nil => intro v h; cases h
  | cons q r ih =>
    intro v h ho
    unfold z_lk at h
    cases hb : Nat.beq q.1 i with
    | true => rw [hb] at h; cases h; exact ho.1
    | false => rw [hb] at h; exact ih h ho.2
theorem z_lk_mem {i : Nat} : ∀ {ls : z_L} {v : z_V}, z_lk i ls = some v → (i, v) ∈ ls := by
  intro ls
  induction ls with
  | nil => intro v h; cases h
  | cons q r ih =>
    intro v h
    unfold z_lk at h
    cases hb : Nat.beq q.1 i with
    | true =>
      rw [hb] at h
      cases h
      have e : q.1 = i := Nat.eq_of_beq_eq_true hb
      rw [← e]
      exact List.mem_cons_self
    | false => rw [hb] at h; exact List.mem_cons_of_mem _ (ih h)
theorem z_lk_has {X : z_Cx} {i nL : Nat} {ls : z_L} {v : z_V} {la : Array Slot} (h : z_lk i ls = some v) (hl : lv_has la nL (z_cl X ls)) : la[i]? = some (.val (z_co X.2.2.1 v)) :=
  hl.2.2 (i, z_co X.2.2.1 v) (List.mem_map.mpr ⟨(i, v), z_lk_mem h, rfl⟩)
theorem z_okl_mem {ls : z_L} : z_okl ls ↔ ∀ q ∈ ls, z_ok q.2 := by
  induction ls with
  | nil => exact ⟨fun _ q h => (by cases h), fun _ => trivial⟩
  | cons q r ih => exact ⟨fun h x hx => (List.mem_cons.mp hx).elim (fun e => e ▸ h.1) (fun hx => ih.mp h.2 x hx), fun h => ⟨h q List.mem_cons_self, ih.mpr (fun x hx => h x (List.mem_cons_of_mem _ hx))⟩⟩
theorem z_rm1_sub {i : Nat} : ∀ {ls : z_L} {q : Nat × z_V}, q ∈ z_rm1 i ls → q ∈ ls ∧ ¬ q.1 = i ∧ ¬ (q.1 + 1 = i ∧ z_isl q.2 = true) := by
  intro ls
  induction ls with
  | nil => intro q h; cases h
  | cons a r ih =>
    intro q h
    unfold z_rm1 at h
    cases hb : Nat.beq a.1 i with
    | true => rw [hb] at h; exact ⟨List.mem_cons_of_mem _ (ih h).1, (ih h).2⟩
    | false =>
      rw [hb] at h
      cases hc : (Nat.beq (a.1 + 1) i && z_isl a.2) with
      | true => rw [hc] at h; exact ⟨List.mem_cons_of_mem _ (ih h).1, (ih h).2⟩
      | false =>
        rw [hc] at h
        rcases List.mem_cons.mp h with e | h
        · subst e
          refine ⟨List.mem_cons_self, fun e => ?_, fun e => ?_⟩
          · rw [e, Nat.beq_refl] at hb; cases hb
          · rw [e.1, Nat.beq_refl, e.2] at hc; cases hc
        · exact ⟨List.mem_cons_of_mem _ (ih h).1, (ih h).2⟩
theorem z_pk_sub {ls : z_L} : ∀ {ks : List Nat} {q : Nat × z_V}, q ∈ z_pk ks ls → q ∈ ls := by
  intro ks
  induction ks with
  | nil => intro q h; cases h
  | cons k r ih =>
    intro q h
    unfold z_pk at h
    cases hk : z_lk k ls with
    | none => rw [hk] at h; exact ih h
    | some v =>
      rw [hk] at h
      rcases List.mem_cons.mp h with e | h
      · subst e; exact z_lk_mem hk
      · exact ih h
theorem z_cl_sub {X : z_Cx} {nL : Nat} {ls ls' : z_L} {la : Array Slot} (h : ∀ q ∈ ls', q ∈ ls) (hl : lv_has la nL (z_cl X ls)) : lv_has la nL (z_cl X ls') := by
  refine ⟨hl.1, hl.2.1, fun q hq => ?_⟩
  obtain ⟨a, ha, rfl⟩ := List.mem_map.mp hq
  exact hl.2.2 _ (List.mem_map.mpr ⟨a, h a ha, rfl⟩)
theorem z_okl_sub {ls ls' : z_L} (h : ∀ q ∈ ls', q ∈ ls) (ho : z_okl ls) : z_okl ls' := z_okl_mem.mpr (fun q hq => z_okl_mem.mp ho q (h q hq))
theorem z_co_cat {ad : Nat → Nat → Nat} {v : z_V} : (z_co ad v).category = (bif z_isl v then 2 else 1) := by
  rcases v with x | x | x <;> rfl
theorem z_rm1_okl {i : Nat} {ls : z_L} (h : z_okl ls) : z_okl (z_rm1 i ls) := z_okl_sub (fun _ hq => (z_rm1_sub hq).1) h
theorem z_wd_cs {X : z_Cx} (st : List z_V) : ((z_cs X st).map fun v => v.category).sum = z_wd st := by
  induction st with
  | nil => rfl
  | cons v r ih =>
    have e : ((z_cs X (v :: r)).map fun v => v.category).sum = (z_co X.2.2.1 v).category + ((z_cs X r).map fun v => v.category).sum := by
      simp [z_cs]
    rw [e, ih]
    rcases v with x | x | x <;> rfl
end
section
/-! ===== the words that hold everywhere; rooms by depth; contracts; runs ===== -/
def z_U : List Cond := lw_tbl.filter goodWord
theorem z_U_good {w : Cond} (h : w ∈ z_U) : (w.onTables && w.keeps) = true ∨ ∃ ty, w = .arrayClass ty := good_of_word (List.mem_filter.mp h).2
theorem z_U_mem {w : Cond} {i : Nat} (h : lw_tbl[i]? = some w) (hg : goodWord w = true) : w ∈ z_U := List.mem_filter.mpr ⟨List.mem_of_getElem? h, hg⟩
theorem z_U_in {L : List Cond} (h : ∀ w ∈ L, w ∈ z_U) : GoodIn z_U L := fun w hw => ⟨h w hw, z_U_good (h w hw)⟩
def z_rm (d : Nat) : Room := { frames := d + 1, cells := 0, slots := 0, locals := 64 * (d + 1) }
/-- the static arrays (0 to 3), and the script (4), as the start has them -/
def z_sd (j : Nat) : String × String × Nat × List Int32 := bif Nat.beq j 0 then ("PaceStore", "ORDERS_BEHIND", 4, [6, 2, 2, 6]) else bif Nat.beq j 1 then ("PaceStore$Step", "NEAREST", 6, [0, 0, 0, 1, 2, 2]) else bif Nat.beq j 2 then ("PaceStore$Step", "SIZE_BODIES", 6, [10, 13, 11, 14, 12, 11]) else ("PaceStore$Step", "MARK_BODIES", 6, [20, 23, 21, 24, 21, 22])
def z_sN (X : z_Cx) (j : Nat) : Nat := bif Nat.beq j 4 then X.2.2.2.2.1 else (z_sd j).2.2.1
def z_sv (X : z_Cx) (j i : Nat) : Int32 := bif Nat.beq j 4 then X.2.2.2.2.2 i else (z_sd j).2.2.2.getD i 0
def z_SF (X : z_Cx) (U : State) (H : Heap) : Prop :=
  (∀ j : Nat, j < 4 → va_Z (z_sd j).1 (z_sd j).2.1 "[I" (.ref (X.2.2.1 65 j)) (z_A X) U H) ∧ (∀ j : Nat, j < 5 → va_T .int (X.2.2.1 65 j) (z_sN X j) (fun i => .int (z_sv X j i)) (z_A X) U H)
theorem z_SF.moved {X : z_Cx} {u U : State} {H : Heap} (hvm : u.vm.Alike U.vm) (h : z_SF X u H) : z_SF X U H := ⟨fun j hj => (h.1 j hj).moved hvm, fun j hj => (h.2 j hj).moved hvm⟩
theorem z_SF.kept {X : z_Cx} {U : State} {H H1 : Heap} (h : z_SF X U H) (hq : ∀ a : Nat, a < H.size → ¬ z_A X a → H1[a]? = H[a]?) : z_SF X U H1 := ⟨fun j hj => (h.1 j hj).kept hq, fun j hj => (h.2 j hj).kept hq⟩
def z_Pc (X : z_Cx) (as : List z_V) (M : z_M) : Array Value → State → Prop := va_Pc (z_cs X as) (fun U => va_P X.2.1 vwCl (z_w X M) U.heap ∧ va_K X.2.1 vwCl (z_ty X.2.2.2.1) U ∧ z_SF X U U.heap ∧ z_inj X)
def z_Q (X : z_Cx) (rt : Option FieldType) (S : Int32 → z_M → Prop) : Array Value → State → Outcome → State → Prop := match rt with
  | none => va_Qv (fun M' : z_M => S 0 M') (fun M' t => va_P X.2.1 vwCl (z_w X M') t.heap) (z_A X)
  | some _ => va_Qi (fun (r : Int32) (M' : z_M) => S r M') (fun M' t => va_P X.2.1 vwCl (z_w X M') t.heap) (z_A X)
abbrev z_ws (q : z_MI) : List Cond := Cond.code q.1 q.2.1 q.2.2.1 q.2.2.2 :: z_U
/-- a contract, at depth d: from the memory M with these arguments, q returns, and S of its answer (0 where it has none) and of the memory then -/
def z_Con (X : z_Cx) (d : Nat) (q : z_MI) (as : List z_V) (M : z_M) (S : Int32 → z_M → Prop) : Prop :=
  z_oks as → Met X.1 q.1 (z_ws q) (z_rm d) (z_Pc X as M) (z_Q X q.2.2.2 S) 0 0 (z_A X)
def z_Ca (X : z_Cx) (D : Nat) : z_C := fun q as M S => ∃ d : Nat, d < D ∧ z_Con X d q as M S
theorem z_Con.mono {X : z_Cx} {d : Nat} {q : z_MI} {as : List z_V} {M : z_M} {S S' : Int32 → z_M → Prop} (h : z_Con X d q as M S) (hS : ∀ v M', S v M' → S' v M') : z_Con X d q as M S' := by
  intro ho
  refine MetFree.mono (h ho) (fun _ _ h => h) (fun _ _ _ _ _ h => h) (fun a s o t _ hq => ⟨?_, hq.2⟩)
  have h1 := hq.1
  revert h1
  unfold z_Q
  cases q.2.2.2 with
  | none =>
    rintro ⟨⟨u, e, p1, p2⟩, hF⟩
    exact ⟨⟨u, e, hS _ _ p1, p2⟩, hF⟩
  | some ty =>
    rintro ⟨⟨r, u, e, p1, p2⟩, hF⟩
    exact ⟨⟨r, u, e, hS _ _ p1, p2⟩, hF⟩
/-- a callee's contract at its call -/
theorem z_use {X : z_Cx} {D d : Nat} {q : z_MI} {as : List z_V} {M : z_M} {S S' : Int32 → z_M → Prop} (h : z_Con X d q as M S) (hd : d < D) (hS : ∀ v M', S v M' → S' v M') : z_Ca X D q as M S' := ⟨d, hd, h.mono hS⟩
/-- what holds all the way through a method's body -/
def z_MC (X : z_Cx) (D : Nat) (q : z_MI) (R : Int32 → z_M → Prop) (p : Program) (e : Env) (s : State) (m : MethodId) (args : Array Value) (below : List Frame) (meth : Method) (c : Code) (Rm : Room) (cells slots : Nat) (Q : State → Prop) : Prop :=
  p.tables.exec = Jvm.exec ∧ c.code = q.2.1 ∧ c.maxLocals = q.2.2.1 ∧ s.vm.findClass q.1.cls = some m.cls ∧ (∀ w ∈ z_U, w.before args s = true) ∧ va_K X.2.1 vwCl (z_ty X.2.2.2.1) s ∧ z_SF X s s.heap ∧ z_inj X ∧
  (D + 1 ≤ Rm.frames ∧ 64 * (D + 1) ≤ Rm.locals ∧ cells ≤ Rm.cells ∧ slots ≤ Rm.slots) ∧
  (∀ (v : Int32) (M : z_M) (H : Heap) (locs : List Loc) (ls : Array Slot) (pc : Nat) (ty : FieldType), q.2.2.2 = some ty → narrow ty (.int v) = .int v → R v M → va_P X.2.1 vwCl (z_w X M) H → va_S (z_A X) s.heap H locs → decode q.2.1 pc = .ok (.ireturn, 1) → W p X.1 e Rm s m args below meth c H locs cells slots Q (F0 m pc ls [.int v])) ∧
  (∀ (M : z_M) (H : Heap) (locs : List Loc) (ls : Array Slot) (pc : Nat), q.2.2.2 = none → R 0 M → va_P X.2.1 vwCl (z_w X M) H → va_S (z_A X) s.heap H locs → decode q.2.1 pc = .ok (.return_, 1) → W p X.1 e Rm s m args below meth c H locs cells slots Q (F0 m pc ls []))
def z_Is (X : z_Cx) (nL : Nat) (s : State) (st : z_S) (H : Heap) (locs : List Loc) (ls : Array Slot) : Prop :=
  z_okl st.1 ∧ z_oks st.2.1 ∧ va_P X.2.1 vwCl (z_w X st.2.2) H ∧ va_S (z_A X) s.heap H locs ∧ lv_has ls nL (z_cl X st.1)
/-- from pc and this state the method returns with R -/
def z_Run (X : z_Cx) (D : Nat) (q : z_MI) (R : Int32 → z_M → Prop) (pc : Nat) (st : z_S) : Prop :=
  ∀ (p : Program) (e : Env) (s : State) (m : MethodId) (args : Array Value) (below : List Frame) (meth : Method) (c : Code) (Rm : Room) (cells slots : Nat) (Q : State → Prop), z_MC X D q R p e s m args below meth c Rm cells slots Q →
  ∀ (H : Heap) (locs : List Loc) (ls : Array Slot), z_Is X q.2.2.1 s st H locs ls → W p X.1 e Rm s m args below meth c H locs cells slots Q (F0 m pc ls (z_cs X st.2.1))
/-- a row of a method's table is sound -/
def z_Sd (X : z_Cx) (D : Nat) (q : z_MI) (pc npc : Nat) (f : z_X) : Prop :=
  ∀ (ks : z_S → Prop) (kj : Nat → z_S → Prop) (R : Int32 → z_M → Prop) (st : z_S), f ks kj R (z_Ca X D) st → (∀ st', ks st' → z_Run X D q R npc st') → (∀ t st', kj t st' → z_Run X D q R t st') → z_Run X D q R pc st
def z_no : z_X := fun _ _ _ _ _ => False
abbrev z_T : Type := Nat → Nat × z_X
def z_Tok (X : z_Cx) (D : Nat) (q : z_MI) (T : z_T) : Prop := ∀ pc : Nat, z_Sd X D q pc (T pc).1 (T pc).2
/-- the stops: a pc, and which locals are kept there -/
def z_sk (t : Nat) : List (Nat × List Nat) → Option (List Nat)
  | [] => none
  | q :: r => bif Nat.beq q.1 t then some q.2 else z_sk t r
/-- the run of a table, from pc, up to the stops -/
def z_go (T : z_T) (C : z_C) (R : Int32 → z_M → Prop) (stops : List (Nat × List Nat)) (K : Nat → z_S → Prop) : Nat → Nat → z_S → Prop
  | 0, _, _ => False
  | n + 1, pc, st => match T pc with
    | (npc, f) => f (fun st' => match z_sk npc stops with
        | some ks => K npc (z_pk ks st'.1, st'.2.1, st'.2.2)
        | none => z_go T C R stops K n npc st') (fun t st' => match z_sk t stops with
        | some ks => K t (z_pk ks st'.1, st'.2.1, st'.2.2)
        | none => z_go T C R stops K n t st') R C st
theorem z_Run.sub {X : z_Cx} {D : Nat} {q : z_MI} {R : Int32 → z_M → Prop} {pc : Nat} {ls ls' : z_L} {st : List z_V} {M : z_M} (h : ∀ x ∈ ls', x ∈ ls) (k : z_Run X D q R pc (ls', st, M)) : z_Run X D q R pc (ls, st, M) :=
  fun p e s m args below meth c Rm cells slots Q C0 H locs la I => k p e s m args below meth c Rm cells slots Q C0 H locs la ⟨z_okl_sub h I.1, I.2.1, I.2.2.1, I.2.2.2.1, z_cl_sub h I.2.2.2.2⟩
theorem z_go_run {X : z_Cx} {D : Nat} {q : z_MI} {R : Int32 → z_M → Prop} {T : z_T} (hT : z_Tok X D q T) (stops : List (Nat × List Nat)) : ∀ (n pc : Nat) (st : z_S), z_go T (z_Ca X D) R stops (z_Run X D q R) n pc st → z_Run X D q R pc st := by
  intro n
  induction n with
  | zero => intro pc st h; exact False.elim h
  | succ n ih =>
    intro pc st h
    have hs := hT pc
    unfold z_go at h
    revert h hs
    cases T pc with
    | mk npc f =>
      intro hs h
      refine hs _ _ R st h (fun st' h' => ?_) (fun t st' h' => ?_)
      · revert h'
        cases z_sk npc stops with
        | some ks => exact fun h' => z_Run.sub (fun _ => z_pk_sub) h'
        | none => exact fun h' => ih npc st' h'
      · revert h'
        cases z_sk t stops with
        | some ks => exact fun h' => z_Run.sub (fun _ => z_pk_sub) h'
        | none => exact fun h' => ih t st' h'
def z_en0 (n : Nat) : List z_V → z_L
  | [] => []
  | .inr (.inl x) :: r => (n, .inr (.inl x)) :: z_en0 (n + 2) r
  | v :: r => (n, v) :: z_en0 (n + 1) r
theorem z_en0_args {X : z_Cx} : ∀ (as : List z_V) (n : Nat), z_cl X (z_en0 n as) = lv_args n (z_cs X as) := by
  intro as
  induction as with
  | nil => intro n; rfl
  | cons v r ih =>
    intro n
    rcases v with x | x | x
    · show (n, _) :: z_cl X (z_en0 (n + 1) r) = _
      rw [ih]; rfl
    · show (n, _) :: z_cl X (z_en0 (n + 2) r) = _
      rw [ih]; rfl
    · show (n, _) :: z_cl X (z_en0 (n + 1) r) = _
      rw [ih]; rfl
theorem z_en0_ok : ∀ (as : List z_V) (n : Nat), z_oks as → z_okl (z_en0 n as) := by
  intro as
  induction as with
  | nil => intro n h; trivial
  | cons v r ih =>
    intro n h
    rcases v with x | x | x
    · exact ⟨trivial, ih _ h.2⟩
    · exact ⟨trivial, ih _ h.2⟩
    · exact ⟨h.1, ih _ h.2⟩
/-- a contract out of the run of a table from its entry -/
theorem z_mk {X : z_Cx} {D : Nat} {q : z_MI} {as : List z_V} {M : z_M} {S : Int32 → z_M → Prop} (hy : plainName q.1.cls = true) (hn : Nat.ble (lg_sl (z_cs X as)).length q.2.2.1 = true) (hrt : q.2.2.2 = none ∨ ∃ ty, q.2.2.2 = some ty)
    (h : z_Run X D q S 0 (z_en0 0 as, [], M)) : z_Con X D q as M S := by
  intro ho
  refine Met.ofW (cc := q.2.1) (maxL := q.2.2.1) (ret := q.2.2.2) hy rfl ?_
  intro p e s m args below meth c s₁ B hml hv
  obtain ⟨rfl, hP, hK, hF, hJ⟩ := hv
  have hts := atoms_spec (ws := z_ws q) B.pre
  have hl := lv_entry (z_cs X as) (n := q.2.2.1) (Nat.le_of_ble_eq_true hn)
  rw [lg_entry_eq]
  rw [← z_en0_args] at hl
  have hlocks := B.notSynchronized
  have hr := B.returns
  refine h p e s m _ below meth c _ 0 0 _ ⟨B.exec, B.bytes, hml, findClass_of_methodNamed B.named, fun w hw => hts w (List.mem_cons_of_mem _ hw), hK, hF, hJ, ⟨Nat.le_refl _, Nat.le_refl _, Nat.zero_le _, Nat.zero_le _⟩, ?_, ?_⟩ s.heap [] _ ⟨z_en0_ok _ _ ho, trivial, hP, va_S.rf, hl⟩
  · intro v M' H locs ls pc ty hty hnr hR hP' hS' hd
    refine W.zret (ty := ty) B.exec B.bytes (by rw [hr, hty]) hnr (fun t ht hW => ?_) hS'.2.2 hd
    unfold z_Q
    rw [hty]
    exact ⟨⟨v, M', rfl, hR, by show va_P _ _ _ t.heap; rw [ht]; exact hP'⟩, hS'.F ht⟩
  · intro M' H locs ls pc hty hR hP' hS' hd
    refine W.vret B.exec B.bytes (by rw [hr, hty]) (fun t ht hW => ?_) hS'.2.2 hd
    unfold z_Q
    rw [hty]
    exact ⟨⟨M', rfl, hR, by show va_P _ _ _ t.heap; rw [ht]; exact hP'⟩, hS'.F ht⟩
end
section
def x_iadd : z_X := fun ks kj R C st => match st with
  | (ls, .inl y :: .inl x :: r, M) => ks (ls, zi (x + y) :: r, M)
  | _ => False
theorem s_iadd {X : z_Cx} {D : Nat} {q : z_MI} {pc : Nat}  (hd : decode q.2.1 pc = .ok (.iadd, 1)) : z_Sd X D q pc (pc + 1) (x_iadd) := by
  intro ks kj R st h hs hj p e s m args below meth c Rm cells slots Q C0 H locs la I
  rcases st with ⟨ls, _ | ⟨y | y | y, _ | ⟨x | x | x, r⟩⟩, M⟩ <;> first | exact False.elim h | skip
  exact lv_iadd C0.1 C0.2.1 hd (hs _ h p e s m args below meth c Rm cells slots Q C0 H locs la ⟨I.1, ⟨trivial, I.2.1.2.2⟩, I.2.2⟩)
def x_isub : z_X := fun ks kj R C st => match st with
  | (ls, .inl y :: .inl x :: r, M) => ks (ls, zi (x - y) :: r, M)
  | _ => False
theorem s_isub {X : z_Cx} {D : Nat} {q : z_MI} {pc : Nat}  (hd : decode q.2.1 pc = .ok (.isub, 1)) : z_Sd X D q pc (pc + 1) (x_isub) := by
  intro ks kj R st h hs hj p e s m args below meth c Rm cells slots Q C0 H locs la I
  rcases st with ⟨ls, _ | ⟨y | y | y, _ | ⟨x | x | x, r⟩⟩, M⟩ <;> first | exact False.elim h | skip
  exact lv_isub C0.1 C0.2.1 hd (hs _ h p e s m args below meth c Rm cells slots Q C0 H locs la ⟨I.1, ⟨trivial, I.2.1.2.2⟩, I.2.2⟩)
def x_imul : z_X := fun ks kj R C st => match st with
  | (ls, .inl y :: .inl x :: r, M) => ks (ls, zi (x * y) :: r, M)
  | _ => False
theorem s_imul {X : z_Cx} {D : Nat} {q : z_MI} {pc : Nat}  (hd : decode q.2.1 pc = .ok (.imul, 1)) : z_Sd X D q pc (pc + 1) (x_imul) := by
  intro ks kj R st h hs hj p e s m args below meth c Rm cells slots Q C0 H locs la I
  rcases st with ⟨ls, _ | ⟨y | y | y, _ | ⟨x | x | x, r⟩⟩, M⟩ <;> first | exact False.elim h | skip
  exact lv_imul C0.1 C0.2.1 hd (hs _ h p e s m args below meth c Rm cells slots Q C0 H locs la ⟨I.1, ⟨trivial, I.2.1.2.2⟩, I.2.2⟩)
def x_iand : z_X := fun ks kj R C st => match st with
  | (ls, .inl y :: .inl x :: r, M) => ks (ls, zi (x &&& y) :: r, M)
  | _ => False
theorem s_iand {X : z_Cx} {D : Nat} {q : z_MI} {pc : Nat}  (hd : decode q.2.1 pc = .ok (.iand, 1)) : z_Sd X D q pc (pc + 1) (x_iand) := by
  intro ks kj R st h hs hj p e s m args below meth c Rm cells slots Q C0 H locs la I
  rcases st with ⟨ls, _ | ⟨y | y | y, _ | ⟨x | x | x, r⟩⟩, M⟩ <;> first | exact False.elim h | skip
  exact lv_iand C0.1 C0.2.1 hd (hs _ h p e s m args below meth c Rm cells slots Q C0 H locs la ⟨I.1, ⟨trivial, I.2.1.2.2⟩, I.2.2⟩)
def x_ior : z_X := fun ks kj R C st => match st with
  | (ls, .inl y :: .inl x :: r, M) => ks (ls, zi (x ||| y) :: r, M)
  | _ => False
theorem s_ior {X : z_Cx} {D : Nat} {q : z_MI} {pc : Nat}  (hd : decode q.2.1 pc = .ok (.ior, 1)) : z_Sd X D q pc (pc + 1) (x_ior) := by
  intro ks kj R st h hs hj p e s m args below meth c Rm cells slots Q C0 H locs la I
  rcases st with ⟨ls, _ | ⟨y | y | y, _ | ⟨x | x | x, r⟩⟩, M⟩ <;> first | exact False.elim h | skip
  exact lv_ior C0.1 C0.2.1 hd (hs _ h p e s m args below meth c Rm cells slots Q C0 H locs la ⟨I.1, ⟨trivial, I.2.1.2.2⟩, I.2.2⟩)
def x_ishl : z_X := fun ks kj R C st => match st with
  | (ls, .inl y :: .inl x :: r, M) => ks (ls, zi (x <<< (y &&& 31)) :: r, M)
  | _ => False
theorem s_ishl {X : z_Cx} {D : Nat} {q : z_MI} {pc : Nat}  (hd : decode q.2.1 pc = .ok (.ishl, 1)) : z_Sd X D q pc (pc + 1) (x_ishl) := by
  intro ks kj R st h hs hj p e s m args below meth c Rm cells slots Q C0 H locs la I
  rcases st with ⟨ls, _ | ⟨y | y | y, _ | ⟨x | x | x, r⟩⟩, M⟩ <;> first | exact False.elim h | skip
  exact lv_ishl C0.1 C0.2.1 hd (hs _ h p e s m args below meth c Rm cells slots Q C0 H locs la ⟨I.1, ⟨trivial, I.2.1.2.2⟩, I.2.2⟩)
def x_ishr : z_X := fun ks kj R C st => match st with
  | (ls, .inl y :: .inl x :: r, M) => ks (ls, zi (x >>> (y &&& 31)) :: r, M)
  | _ => False
theorem s_ishr {X : z_Cx} {D : Nat} {q : z_MI} {pc : Nat}  (hd : decode q.2.1 pc = .ok (.ishr, 1)) : z_Sd X D q pc (pc + 1) (x_ishr) := by
  intro ks kj R st h hs hj p e s m args below meth c Rm cells slots Q C0 H locs la I
  rcases st with ⟨ls, _ | ⟨y | y | y, _ | ⟨x | x | x, r⟩⟩, M⟩ <;> first | exact False.elim h | skip
  exact lv_ishr C0.1 C0.2.1 hd (hs _ h p e s m args below meth c Rm cells slots Q C0 H locs la ⟨I.1, ⟨trivial, I.2.1.2.2⟩, I.2.2⟩)
def x_iushr : z_X := fun ks kj R C st => match st with
  | (ls, .inl y :: .inl x :: r, M) => ks (ls, zi ((x.toUInt32 >>> (y.toUInt32 &&& Int32.toUInt32 31)).toInt32) :: r, M)
  | _ => False
theorem s_iushr {X : z_Cx} {D : Nat} {q : z_MI} {pc : Nat}  (hd : decode q.2.1 pc = .ok (.iushr, 1)) : z_Sd X D q pc (pc + 1) (x_iushr) := by
  intro ks kj R st h hs hj p e s m args below meth c Rm cells slots Q C0 H locs la I
  rcases st with ⟨ls, _ | ⟨y | y | y, _ | ⟨x | x | x, r⟩⟩, M⟩ <;> first | exact False.elim h | skip
  exact lv_iushr C0.1 C0.2.1 hd rfl (hs _ h p e s m args below meth c Rm cells slots Q C0 H locs la ⟨I.1, ⟨trivial, I.2.1.2.2⟩, I.2.2⟩)
def x_idiv : z_X := fun ks kj R C st => match st with
  | (ls, .inl y :: .inl x :: r, M) => ¬ y = 0 ∧ ks (ls, zi (x / y) :: r, M)
  | _ => False
theorem s_idiv {X : z_Cx} {D : Nat} {q : z_MI} {pc : Nat}  (hd : decode q.2.1 pc = .ok (.idiv, 1)) : z_Sd X D q pc (pc + 1) (x_idiv) := by
  intro ks kj R st h hs hj p e s m args below meth c Rm cells slots Q C0 H locs la I
  rcases st with ⟨ls, _ | ⟨y | y | y, _ | ⟨x | x | x, r⟩⟩, M⟩ <;> first | exact False.elim h | skip
  exact lv_idiv C0.1 C0.2.1 hd h.1 (hs _ h.2 p e s m args below meth c Rm cells slots Q C0 H locs la ⟨I.1, ⟨trivial, I.2.1.2.2⟩, I.2.2⟩)
def x_irem : z_X := fun ks kj R C st => match st with
  | (ls, .inl y :: .inl x :: r, M) => ¬ y = 0 ∧ ks (ls, zi (x - x / y * y) :: r, M)
  | _ => False
theorem s_irem {X : z_Cx} {D : Nat} {q : z_MI} {pc : Nat}  (hd : decode q.2.1 pc = .ok (.irem, 1)) : z_Sd X D q pc (pc + 1) (x_irem) := by
  intro ks kj R st h hs hj p e s m args below meth c Rm cells slots Q C0 H locs la I
  rcases st with ⟨ls, _ | ⟨y | y | y, _ | ⟨x | x | x, r⟩⟩, M⟩ <;> first | exact False.elim h | skip
  exact lv_irem C0.1 C0.2.1 hd h.1 (hs _ h.2 p e s m args below meth c Rm cells slots Q C0 H locs la ⟨I.1, ⟨trivial, I.2.1.2.2⟩, I.2.2⟩)
def x_ladd : z_X := fun ks kj R C st => match st with
  | (ls, .inr (.inl y) :: .inr (.inl x) :: r, M) => ks (ls, zl (x + y) :: r, M)
  | _ => False
theorem s_ladd {X : z_Cx} {D : Nat} {q : z_MI} {pc : Nat}  (hd : decode q.2.1 pc = .ok (.ladd, 1)) : z_Sd X D q pc (pc + 1) (x_ladd) := by
  intro ks kj R st h hs hj p e s m args below meth c Rm cells slots Q C0 H locs la I
  rcases st with ⟨ls, _ | ⟨y | y | y, _ | ⟨x | x | x, r⟩⟩, M⟩ <;> first | exact False.elim h | skip
  exact lv_ladd C0.1 C0.2.1 hd (hs _ h p e s m args below meth c Rm cells slots Q C0 H locs la ⟨I.1, ⟨trivial, I.2.1.2.2⟩, I.2.2⟩)
def x_lmul : z_X := fun ks kj R C st => match st with
  | (ls, .inr (.inl y) :: .inr (.inl x) :: r, M) => ks (ls, zl (x * y) :: r, M)
  | _ => False
theorem s_lmul {X : z_Cx} {D : Nat} {q : z_MI} {pc : Nat}  (hd : decode q.2.1 pc = .ok (.lmul, 1)) : z_Sd X D q pc (pc + 1) (x_lmul) := by
  intro ks kj R st h hs hj p e s m args below meth c Rm cells slots Q C0 H locs la I
  rcases st with ⟨ls, _ | ⟨y | y | y, _ | ⟨x | x | x, r⟩⟩, M⟩ <;> first | exact False.elim h | skip
  exact lv_lmul C0.1 C0.2.1 hd (hs _ h p e s m args below meth c Rm cells slots Q C0 H locs la ⟨I.1, ⟨trivial, I.2.1.2.2⟩, I.2.2⟩)
def x_land : z_X := fun ks kj R C st => match st with
  | (ls, .inr (.inl y) :: .inr (.inl x) :: r, M) => ks (ls, zl (x &&& y) :: r, M)
  | _ => False
theorem s_land {X : z_Cx} {D : Nat} {q : z_MI} {pc : Nat}  (hd : decode q.2.1 pc = .ok (.land, 1)) : z_Sd X D q pc (pc + 1) (x_land) := by
  intro ks kj R st h hs hj p e s m args below meth c Rm cells slots Q C0 H locs la I
  rcases st with ⟨ls, _ | ⟨y | y | y, _ | ⟨x | x | x, r⟩⟩, M⟩ <;> first | exact False.elim h | skip
  exact lv_land C0.1 C0.2.1 hd (hs _ h p e s m args below meth c Rm cells slots Q C0 H locs la ⟨I.1, ⟨trivial, I.2.1.2.2⟩, I.2.2⟩)
def x_lor : z_X := fun ks kj R C st => match st with
  | (ls, .inr (.inl y) :: .inr (.inl x) :: r, M) => ks (ls, zl (x ||| y) :: r, M)
  | _ => False
theorem s_lor {X : z_Cx} {D : Nat} {q : z_MI} {pc : Nat}  (hd : decode q.2.1 pc = .ok (.lor, 1)) : z_Sd X D q pc (pc + 1) (x_lor) := by
  intro ks kj R st h hs hj p e s m args below meth c Rm cells slots Q C0 H locs la I
  rcases st with ⟨ls, _ | ⟨y | y | y, _ | ⟨x | x | x, r⟩⟩, M⟩ <;> first | exact False.elim h | skip
  exact lv_lor C0.1 C0.2.1 hd (hs _ h p e s m args below meth c Rm cells slots Q C0 H locs la ⟨I.1, ⟨trivial, I.2.1.2.2⟩, I.2.2⟩)
def x_lrem : z_X := fun ks kj R C st => match st with
  | (ls, .inr (.inl y) :: .inr (.inl x) :: r, M) => ¬ y = 0 ∧ ks (ls, zl (x - x / y * y) :: r, M)
  | _ => False
theorem s_lrem {X : z_Cx} {D : Nat} {q : z_MI} {pc : Nat}  (hd : decode q.2.1 pc = .ok (.lrem, 1)) : z_Sd X D q pc (pc + 1) (x_lrem) := by
  intro ks kj R st h hs hj p e s m args below meth c Rm cells slots Q C0 H locs la I
  rcases st with ⟨ls, _ | ⟨y | y | y, _ | ⟨x | x | x, r⟩⟩, M⟩ <;> first | exact False.elim h | skip
  exact lv_lrem C0.1 C0.2.1 hd h.1 (hs _ h.2 p e s m args below meth c Rm cells slots Q C0 H locs la ⟨I.1, ⟨trivial, I.2.1.2.2⟩, I.2.2⟩)
def x_lcmp : z_X := fun ks kj R C st => match st with
  | (ls, .inr (.inl y) :: .inr (.inl x) :: r, M) => ks (ls, zi (lg_cmp x y) :: r, M)
  | _ => False
theorem s_lcmp {X : z_Cx} {D : Nat} {q : z_MI} {pc : Nat}  (hd : decode q.2.1 pc = .ok (.lcmp, 1)) : z_Sd X D q pc (pc + 1) (x_lcmp) := by
  intro ks kj R st h hs hj p e s m args below meth c Rm cells slots Q C0 H locs la I
  rcases st with ⟨ls, _ | ⟨y | y | y, _ | ⟨x | x | x, r⟩⟩, M⟩ <;> first | exact False.elim h | skip
  exact W.lcmp C0.1 C0.2.1 hd (hs _ h p e s m args below meth c Rm cells slots Q C0 H locs la ⟨I.1, ⟨trivial, I.2.1.2.2⟩, I.2.2⟩)
def x_lshl : z_X := fun ks kj R C st => match st with
  | (ls, .inl y :: .inr (.inl x) :: r, M) => ks (ls, zl (x <<< (y.toInt64 &&& 63)) :: r, M)
  | _ => False
theorem s_lshl {X : z_Cx} {D : Nat} {q : z_MI} {pc : Nat}  (hd : decode q.2.1 pc = .ok (.lshl, 1)) : z_Sd X D q pc (pc + 1) (x_lshl) := by
  intro ks kj R st h hs hj p e s m args below meth c Rm cells slots Q C0 H locs la I
  rcases st with ⟨ls, _ | ⟨y | y | y, _ | ⟨x | x | x, r⟩⟩, M⟩ <;> first | exact False.elim h | skip
  exact lv_lshl C0.1 C0.2.1 hd rfl (hs _ h p e s m args below meth c Rm cells slots Q C0 H locs la ⟨I.1, ⟨trivial, I.2.1.2.2⟩, I.2.2⟩)
def x_lshr : z_X := fun ks kj R C st => match st with
  | (ls, .inl y :: .inr (.inl x) :: r, M) => ks (ls, zl (x >>> (y.toInt64 &&& 63)) :: r, M)
  | _ => False
theorem s_lshr {X : z_Cx} {D : Nat} {q : z_MI} {pc : Nat}  (hd : decode q.2.1 pc = .ok (.lshr, 1)) : z_Sd X D q pc (pc + 1) (x_lshr) := by
  intro ks kj R st h hs hj p e s m args below meth c Rm cells slots Q C0 H locs la I
  rcases st with ⟨ls, _ | ⟨y | y | y, _ | ⟨x | x | x, r⟩⟩, M⟩ <;> first | exact False.elim h | skip
  exact lv_lshr C0.1 C0.2.1 hd rfl (hs _ h p e s m args below meth c Rm cells slots Q C0 H locs la ⟨I.1, ⟨trivial, I.2.1.2.2⟩, I.2.2⟩)
def x_lushr : z_X := fun ks kj R C st => match st with
  | (ls, .inl y :: .inr (.inl x) :: r, M) => ks (ls, zl ((x.toUInt64 >>> (y.toInt64.toUInt64 &&& Int64.toUInt64 63)).toInt64) :: r, M)
  | _ => False
theorem s_lushr {X : z_Cx} {D : Nat} {q : z_MI} {pc : Nat}  (hd : decode q.2.1 pc = .ok (.lushr, 1)) : z_Sd X D q pc (pc + 1) (x_lushr) := by
  intro ks kj R st h hs hj p e s m args below meth c Rm cells slots Q C0 H locs la I
  rcases st with ⟨ls, _ | ⟨y | y | y, _ | ⟨x | x | x, r⟩⟩, M⟩ <;> first | exact False.elim h | skip
  exact lv_lushr C0.1 C0.2.1 hd rfl (hs _ h p e s m args below meth c Rm cells slots Q C0 H locs la ⟨I.1, ⟨trivial, I.2.1.2.2⟩, I.2.2⟩)
def x_ineg : z_X := fun ks kj R C st => match st with
  | (ls, .inl x :: r, M) => ks (ls, zi (-x) :: r, M)
  | _ => False
theorem s_ineg {X : z_Cx} {D : Nat} {q : z_MI} {pc : Nat}  (hd : decode q.2.1 pc = .ok (.ineg, 1)) : z_Sd X D q pc (pc + 1) (x_ineg) := by
  intro ks kj R st h hs hj p e s m args below meth c Rm cells slots Q C0 H locs la I
  rcases st with ⟨ls, _ | ⟨x | x | x, r⟩, M⟩ <;> first | exact False.elim h | skip
  exact lv_ineg C0.1 C0.2.1 hd (hs _ h p e s m args below meth c Rm cells slots Q C0 H locs la ⟨I.1, ⟨trivial, I.2.1.2⟩, I.2.2⟩)
def x_i2l : z_X := fun ks kj R C st => match st with
  | (ls, .inl x :: r, M) => ks (ls, zl x.toInt64 :: r, M)
  | _ => False
theorem s_i2l {X : z_Cx} {D : Nat} {q : z_MI} {pc : Nat}  (hd : decode q.2.1 pc = .ok (.i2l, 1)) : z_Sd X D q pc (pc + 1) (x_i2l) := by
  intro ks kj R st h hs hj p e s m args below meth c Rm cells slots Q C0 H locs la I
  rcases st with ⟨ls, _ | ⟨x | x | x, r⟩, M⟩ <;> first | exact False.elim h | skip
  exact lv_i2l C0.1 C0.2.1 hd rfl (hs _ h p e s m args below meth c Rm cells slots Q C0 H locs la ⟨I.1, ⟨trivial, I.2.1.2⟩, I.2.2⟩)
def x_i2b : z_X := fun ks kj R C st => match st with
  | (ls, .inl x :: r, M) => ks (ls, zi x.toInt8.toInt32 :: r, M)
  | _ => False
theorem s_i2b {X : z_Cx} {D : Nat} {q : z_MI} {pc : Nat}  (hd : decode q.2.1 pc = .ok (.i2b, 1)) : z_Sd X D q pc (pc + 1) (x_i2b) := by
  intro ks kj R st h hs hj p e s m args below meth c Rm cells slots Q C0 H locs la I
  rcases st with ⟨ls, _ | ⟨x | x | x, r⟩, M⟩ <;> first | exact False.elim h | skip
  exact lv_i2b C0.1 C0.2.1 hd rfl (hs _ h p e s m args below meth c Rm cells slots Q C0 H locs la ⟨I.1, ⟨trivial, I.2.1.2⟩, I.2.2⟩)
def x_i2s : z_X := fun ks kj R C st => match st with
  | (ls, .inl x :: r, M) => ks (ls, zi x.toInt16.toInt32 :: r, M)
  | _ => False
theorem s_i2s {X : z_Cx} {D : Nat} {q : z_MI} {pc : Nat}  (hd : decode q.2.1 pc = .ok (.i2s, 1)) : z_Sd X D q pc (pc + 1) (x_i2s) := by
  intro ks kj R st h hs hj p e s m args below meth c Rm cells slots Q C0 H locs la I
  rcases st with ⟨ls, _ | ⟨x | x | x, r⟩, M⟩ <;> first | exact False.elim h | skip
  exact lv_i2s C0.1 C0.2.1 hd rfl (hs _ h p e s m args below meth c Rm cells slots Q C0 H locs la ⟨I.1, ⟨trivial, I.2.1.2⟩, I.2.2⟩)
def x_i2c : z_X := fun ks kj R C st => match st with
  | (ls, .inl x :: r, M) => ks (ls, zi ((x.toUInt32 % 65536).toInt32) :: r, M)
  | _ => False
theorem s_i2c {X : z_Cx} {D : Nat} {q : z_MI} {pc : Nat}  (hd : decode q.2.1 pc = .ok (.i2c, 1)) : z_Sd X D q pc (pc + 1) (x_i2c) := by
  intro ks kj R st h hs hj p e s m args below meth c Rm cells slots Q C0 H locs la I
  rcases st with ⟨ls, _ | ⟨x | x | x, r⟩, M⟩ <;> first | exact False.elim h | skip
  exact lv_i2c C0.1 C0.2.1 hd rfl (hs _ h p e s m args below meth c Rm cells slots Q C0 H locs la ⟨I.1, ⟨trivial, I.2.1.2⟩, I.2.2⟩)
def x_l2i : z_X := fun ks kj R C st => match st with
  | (ls, .inr (.inl x) :: r, M) => ks (ls, zi x.toInt32 :: r, M)
  | _ => False
theorem s_l2i {X : z_Cx} {D : Nat} {q : z_MI} {pc : Nat}  (hd : decode q.2.1 pc = .ok (.l2i, 1)) : z_Sd X D q pc (pc + 1) (x_l2i) := by
  intro ks kj R st h hs hj p e s m args below meth c Rm cells slots Q C0 H locs la I
  rcases st with ⟨ls, _ | ⟨x | x | x, r⟩, M⟩ <;> first | exact False.elim h | skip
  exact lv_l2i C0.1 C0.2.1 hd rfl (hs _ h p e s m args below meth c Rm cells slots Q C0 H locs la ⟨I.1, ⟨trivial, I.2.1.2⟩, I.2.2⟩)
def x_ic (v : Int32) : z_X := fun ks _ _ _ st => ks (st.1, zi v :: st.2.1, st.2.2)
def x_lc (v : Int64) : z_X := fun ks _ _ _ st => ks (st.1, zl v :: st.2.1, st.2.2)
theorem s_iconst {X : z_Cx} {D : Nat} {q : z_MI} {pc : Nat} {n : Int} {v : Int32} (hd : decode q.2.1 pc = .ok (.iconst n, 1)) (hv : Int32.ofInt n = v) : z_Sd X D q pc (pc + 1) (x_ic v) := by
  intro ks kj R st h hs hj p e s m args below meth c Rm cells slots Q C0 H locs la I
  exact lv_iconst C0.1 C0.2.1 hd hv (hs _ h p e s m args below meth c Rm cells slots Q C0 H locs la ⟨I.1, ⟨trivial, I.2.1⟩, I.2.2⟩)
theorem s_bipush {X : z_Cx} {D : Nat} {q : z_MI} {pc : Nat} {n : Int} {v : Int32} (hd : decode q.2.1 pc = .ok (.bipush n, 2)) (hv : (Int8.ofInt n).toInt32 = v) : z_Sd X D q pc (pc + 2) (x_ic v) := by
  intro ks kj R st h hs hj p e s m args below meth c Rm cells slots Q C0 H locs la I
  exact lv_bipush C0.1 C0.2.1 hd hv (hs _ h p e s m args below meth c Rm cells slots Q C0 H locs la ⟨I.1, ⟨trivial, I.2.1⟩, I.2.2⟩)
theorem s_sipush {X : z_Cx} {D : Nat} {q : z_MI} {pc : Nat} {n : Int} {v : Int32} (hd : decode q.2.1 pc = .ok (.sipush n, 3)) (hv : (Int16.ofInt n).toInt32 = v) : z_Sd X D q pc (pc + 3) (x_ic v) := by
  intro ks kj R st h hs hj p e s m args below meth c Rm cells slots Q C0 H locs la I
  exact lv_sipush C0.1 C0.2.1 hd hv (hs _ h p e s m args below meth c Rm cells slots Q C0 H locs la ⟨I.1, ⟨trivial, I.2.1⟩, I.2.2⟩)
theorem s_ldc {X : z_Cx} {D : Nat} {q : z_MI} {pc : Nat} {i : Nat} {v : Int32} (hd : decode q.2.1 pc = .ok (.ldc i, 2)) (hv : Cond.constant q.1.cls i v ∈ z_U) : z_Sd X D q pc (pc + 2) (x_ic v) := by
  intro ks kj R st h hs hj p e s m args below meth c Rm cells slots Q C0 H locs la I
  exact lv_ldc C0.1 C0.2.1 C0.2.2.2.1 (C0.2.2.2.2.1 _ hv) hd (hs _ h p e s m args below meth c Rm cells slots Q C0 H locs la ⟨I.1, ⟨trivial, I.2.1⟩, I.2.2⟩)
theorem s_ldcw {X : z_Cx} {D : Nat} {q : z_MI} {pc : Nat} {i : Nat} {v : Int32} (hd : decode q.2.1 pc = .ok (.ldc_w i, 3)) (hv : Cond.constant q.1.cls i v ∈ z_U) : z_Sd X D q pc (pc + 3) (x_ic v) := by
  intro ks kj R st h hs hj p e s m args below meth c Rm cells slots Q C0 H locs la I
  exact lv_ldcw C0.1 C0.2.1 C0.2.2.2.1 (C0.2.2.2.2.1 _ hv) hd (hs _ h p e s m args below meth c Rm cells slots Q C0 H locs la ⟨I.1, ⟨trivial, I.2.1⟩, I.2.2⟩)
theorem s_ldc2 {X : z_Cx} {D : Nat} {q : z_MI} {pc : Nat} {i : Nat} {v : Int64} (hd : decode q.2.1 pc = .ok (.ldc2_w i, 3)) (hv : Cond.constantLong q.1.cls i v ∈ z_U) : z_Sd X D q pc (pc + 3) (x_lc v) := by
  intro ks kj R st h hs hj p e s m args below meth c Rm cells slots Q C0 H locs la I
  exact lv_ldc2 C0.1 C0.2.1 C0.2.2.2.1 (C0.2.2.2.2.1 _ hv) hd (hs _ h p e s m args below meth c Rm cells slots Q C0 H locs la ⟨I.1, ⟨trivial, I.2.1⟩, I.2.2⟩)
theorem s_lconst {X : z_Cx} {D : Nat} {q : z_MI} {pc : Nat} {n : Fin 2} {v : Int64} (hd : decode q.2.1 pc = .ok (.lconst n, 1)) (hv : Int64.ofNat (n : Nat) = v) : z_Sd X D q pc (pc + 1) (x_lc v) := by
  intro ks kj R st h hs hj p e s m args below meth c Rm cells slots Q C0 H locs la I
  exact lv_lconst C0.1 C0.2.1 hd hv (hs _ h p e s m args below meth c Rm cells slots Q C0 H locs la ⟨I.1, ⟨trivial, I.2.1⟩, I.2.2⟩)
def x_ild (i : Nat) : z_X := fun ks _ _ _ st => match z_lk i st.1 with
  | some (.inl x) => ks (st.1, zi x :: st.2.1, st.2.2)
  | _ => False
def x_ald (i : Nat) : z_X := fun ks _ _ _ st => match z_lk i st.1 with
  | some (.inr (.inr x)) => ks (st.1, .inr (.inr x) :: st.2.1, st.2.2)
  | _ => False
def x_lld (i : Nat) : z_X := fun ks _ _ _ st => match z_lk i st.1 with
  | some (.inr (.inl x)) => ks (st.1, zl x :: st.2.1, st.2.2)
  | _ => False
theorem s_iload_n {X : z_Cx} {D : Nat} {q : z_MI} {pc i : Nat} {k : Fin 4} (hd : decode q.2.1 pc = .ok (.iload_n k, 1)) (hi : (k : Nat) = i) : z_Sd X D q pc (pc + 1) (x_ild i) := by
  intro ks kj R st h hs hj p e s m args below meth c Rm cells slots Q C0 H locs la I
  rcases st with ⟨ls, st, M⟩
  cases hk : z_lk i ls with
  | none => unfold x_ild at h; rw [show z_lk i (ls, st, M).1 = none from hk] at h; exact False.elim h
  | some v =>
    unfold x_ild at h
    rw [show z_lk i (ls, st, M).1 = some v from hk] at h
    rcases v with x | x | x <;> first | exact False.elim h | skip
    exact lv_iload_n C0.1 C0.2.1 hd hi (z_lk_has hk I.2.2.2.2) (hs _ h p e s m args below meth c Rm cells slots Q C0 H locs la ⟨I.1, ⟨trivial, I.2.1⟩, I.2.2⟩)
theorem s_iload {X : z_Cx} {D : Nat} {q : z_MI} {pc i : Nat}  (hd : decode q.2.1 pc = .ok (.iload i, 2)) : z_Sd X D q pc (pc + 2) (x_ild i) := by
  intro ks kj R st h hs hj p e s m args below meth c Rm cells slots Q C0 H locs la I
  rcases st with ⟨ls, st, M⟩
  cases hk : z_lk i ls with
  | none => unfold x_ild at h; rw [show z_lk i (ls, st, M).1 = none from hk] at h; exact False.elim h
  | some v =>
    unfold x_ild at h
    rw [show z_lk i (ls, st, M).1 = some v from hk] at h
    rcases v with x | x | x <;> first | exact False.elim h | skip
    exact lv_iload C0.1 C0.2.1 hd (z_lk_has hk I.2.2.2.2) (hs _ h p e s m args below meth c Rm cells slots Q C0 H locs la ⟨I.1, ⟨trivial, I.2.1⟩, I.2.2⟩)
theorem s_aload_n {X : z_Cx} {D : Nat} {q : z_MI} {pc i : Nat} {k : Fin 4} (hd : decode q.2.1 pc = .ok (.aload_n k, 1)) (hi : (k : Nat) = i) : z_Sd X D q pc (pc + 1) (x_ald i) := by
  intro ks kj R st h hs hj p e s m args below meth c Rm cells slots Q C0 H locs la I
  rcases st with ⟨ls, st, M⟩
  cases hk : z_lk i ls with
  | none => unfold x_ald at h; rw [show z_lk i (ls, st, M).1 = none from hk] at h; exact False.elim h
  | some v =>
    unfold x_ald at h
    rw [show z_lk i (ls, st, M).1 = some v from hk] at h
    rcases v with x | x | x <;> first | exact False.elim h | skip
    exact lv_aload_n C0.1 C0.2.1 hd hi (z_lk_has hk I.2.2.2.2) (hs _ h p e s m args below meth c Rm cells slots Q C0 H locs la ⟨I.1, ⟨z_lk_ok hk I.1, I.2.1⟩, I.2.2⟩)
theorem s_aload {X : z_Cx} {D : Nat} {q : z_MI} {pc i : Nat}  (hd : decode q.2.1 pc = .ok (.aload i, 2)) : z_Sd X D q pc (pc + 2) (x_ald i) := by
  intro ks kj R st h hs hj p e s m args below meth c Rm cells slots Q C0 H locs la I
  rcases st with ⟨ls, st, M⟩
  cases hk : z_lk i ls with
  | none => unfold x_ald at h; rw [show z_lk i (ls, st, M).1 = none from hk] at h; exact False.elim h
  | some v =>
    unfold x_ald at h
    rw [show z_lk i (ls, st, M).1 = some v from hk] at h
    rcases v with x | x | x <;> first | exact False.elim h | skip
    exact lv_aload C0.1 C0.2.1 hd (z_lk_has hk I.2.2.2.2) (hs _ h p e s m args below meth c Rm cells slots Q C0 H locs la ⟨I.1, ⟨z_lk_ok hk I.1, I.2.1⟩, I.2.2⟩)
theorem s_lload_n {X : z_Cx} {D : Nat} {q : z_MI} {pc i : Nat} {k : Fin 4} (hd : decode q.2.1 pc = .ok (.lload_n k, 1)) (hi : (k : Nat) = i) : z_Sd X D q pc (pc + 1) (x_lld i) := by
  intro ks kj R st h hs hj p e s m args below meth c Rm cells slots Q C0 H locs la I
  rcases st with ⟨ls, st, M⟩
  cases hk : z_lk i ls with
  | none => unfold x_lld at h; rw [show z_lk i (ls, st, M).1 = none from hk] at h; exact False.elim h
  | some v =>
    unfold x_lld at h
    rw [show z_lk i (ls, st, M).1 = some v from hk] at h
    rcases v with x | x | x <;> first | exact False.elim h | skip
    exact lv_lload_n C0.1 C0.2.1 hd hi (z_lk_has hk I.2.2.2.2) (hs _ h p e s m args below meth c Rm cells slots Q C0 H locs la ⟨I.1, ⟨trivial, I.2.1⟩, I.2.2⟩)
theorem s_lload {X : z_Cx} {D : Nat} {q : z_MI} {pc i : Nat}  (hd : decode q.2.1 pc = .ok (.lload i, 2)) : z_Sd X D q pc (pc + 2) (x_lld i) := by
  intro ks kj R st h hs hj p e s m args below meth c Rm cells slots Q C0 H locs la I
  rcases st with ⟨ls, st, M⟩
  cases hk : z_lk i ls with
  | none => unfold x_lld at h; rw [show z_lk i (ls, st, M).1 = none from hk] at h; exact False.elim h
  | some v =>
    unfold x_lld at h
    rw [show z_lk i (ls, st, M).1 = some v from hk] at h
    rcases v with x | x | x <;> first | exact False.elim h | skip
    exact lv_lload C0.1 C0.2.1 hd (z_lk_has hk I.2.2.2.2) (hs _ h p e s m args below meth c Rm cells slots Q C0 H locs la ⟨I.1, ⟨trivial, I.2.1⟩, I.2.2⟩)
theorem z_st1 {X : z_Cx} {nL i : Nat} {la : Array Slot} {ls : z_L} {v : z_V} (h : lv_has la nL ((i, z_co X.2.2.1 v) :: (z_cl X ls).filter (fun q => !(q.1 == i) && !(q.1 + 1 == i && q.2.category == 2)))) : lv_has la nL (z_cl X ((i, v) :: z_rm1 i ls)) := by
  refine ⟨h.1, h.2.1, fun q hq => h.2.2 q ?_⟩
  rcases List.mem_cons.mp hq with e | hq
  · rw [e]; exact List.mem_cons_self
  · obtain ⟨a, ha, rfl⟩ := List.mem_map.mp hq
    obtain ⟨h1, h2, h3⟩ := z_rm1_sub ha
    refine List.mem_cons_of_mem _ (List.mem_filter.mpr ⟨List.mem_map.mpr ⟨a, h1, rfl⟩, ?_⟩)
    have e1 : (a.1 == i) = false := beq_eq_false_iff_ne.mpr h2
    show (!(a.1 == i) && !(a.1 + 1 == i && (z_co X.2.2.1 a.2).category == 2)) = true
    rw [e1, z_co_cat]
    by_cases e2 : a.1 + 1 = i
    · have : z_isl a.2 = false := by
        cases hz : z_isl a.2 with
        | true => exact absurd ⟨e2, hz⟩ h3
        | false => rfl
      rw [this]; simp
    · have e3 : (a.1 + 1 == i) = false := beq_eq_false_iff_ne.mpr e2
      rw [e3]; rfl
theorem z_st2 {X : z_Cx} {nL i : Nat} {la : Array Slot} {ls : z_L} {v : z_V} (h : lv_has la nL ((i, z_co X.2.2.1 v) :: (z_cl X ls).filter (fun q => !(q.1 == i) && (!(q.1 == i + 1) && !(q.1 + 1 == i && q.2.category == 2))))) : lv_has la nL (z_cl X ((i, v) :: z_rm1 i (z_rm1 (i + 1) ls))) := by
  refine ⟨h.1, h.2.1, fun q hq => h.2.2 q ?_⟩
  rcases List.mem_cons.mp hq with e | hq
  · rw [e]; exact List.mem_cons_self
  · obtain ⟨a, ha, rfl⟩ := List.mem_map.mp hq
    obtain ⟨h0, h2, h3⟩ := z_rm1_sub ha
    obtain ⟨h1, h4, -⟩ := z_rm1_sub h0
    refine List.mem_cons_of_mem _ (List.mem_filter.mpr ⟨List.mem_map.mpr ⟨a, h1, rfl⟩, ?_⟩)
    have e1 : (a.1 == i) = false := beq_eq_false_iff_ne.mpr h2
    have e4 : (a.1 == i + 1) = false := beq_eq_false_iff_ne.mpr h4
    show (!(a.1 == i) && (!(a.1 == i + 1) && !(a.1 + 1 == i && (z_co X.2.2.1 a.2).category == 2))) = true
    rw [e1, e4, z_co_cat]
    by_cases e2 : a.1 + 1 = i
    · have : z_isl a.2 = false := by
        cases hz : z_isl a.2 with
        | true => exact absurd ⟨e2, hz⟩ h3
        | false => rfl
      rw [this]; simp
    · have e3 : (a.1 + 1 == i) = false := beq_eq_false_iff_ne.mpr e2
      rw [e3]; rfl
def x_ist (i : Nat) : z_X := fun ks kj R C st => match st with
  | (ls, .inl x :: r, M) => ks ((i, zi x) :: z_rm1 i ls, r, M)
  | _ => False
def x_ast (i : Nat) : z_X := fun ks kj R C st => match st with
  | (ls, .inr (.inr x) :: r, M) => ks ((i, .inr (.inr x)) :: z_rm1 i ls, r, M)
  | _ => False
def x_lst (i : Nat) : z_X := fun ks kj R C st => match st with
  | (ls, .inr (.inl x) :: r, M) => ks ((i, zl x) :: z_rm1 i (z_rm1 (i + 1) ls), r, M)
  | _ => False
theorem s_istore {X : z_Cx} {D : Nat} {q : z_MI} {pc : Nat} {i : Nat}  (hd : decode q.2.1 pc = .ok (.istore i, 2)) (hn : Nat.ble (i + 1) q.2.2.1 = true) : z_Sd X D q pc (pc + 2) (x_ist i) := by
  intro ks kj R st h hs hj p e s m args below meth c Rm cells slots Q C0 H locs la I
  rcases st with ⟨ls, _ | ⟨x | x | x, r⟩, M⟩ <;> first | exact False.elim h | skip
  exact lv_istore C0.1 C0.2.1 hd I.2.2.2.2 (Nat.le_of_ble_eq_true hn) rfl (fun la' hl' => hs _ h p e s m args below meth c Rm cells slots Q C0 H locs la' ⟨⟨trivial, z_rm1_okl I.1⟩, I.2.1.2, I.2.2.1, I.2.2.2.1, z_st1 (v := zi x) hl'⟩)
theorem s_istore_n {X : z_Cx} {D : Nat} {q : z_MI} {pc : Nat} {i : Nat} {k : Fin 4} (hd : decode q.2.1 pc = .ok (.istore_n k, 1)) (hi : (k : Nat) = i) (hn : Nat.ble (i + 1) q.2.2.1 = true) : z_Sd X D q pc (pc + 1) (x_ist i) := by
  intro ks kj R st h hs hj p e s m args below meth c Rm cells slots Q C0 H locs la I
  rcases st with ⟨ls, _ | ⟨x | x | x, r⟩, M⟩ <;> first | exact False.elim h | skip
  exact lv_istore_n C0.1 C0.2.1 hd hi I.2.2.2.2 (Nat.le_of_ble_eq_true hn) rfl (fun la' hl' => hs _ h p e s m args below meth c Rm cells slots Q C0 H locs la' ⟨⟨trivial, z_rm1_okl I.1⟩, I.2.1.2, I.2.2.1, I.2.2.2.1, z_st1 (v := zi x) hl'⟩)
theorem s_astore {X : z_Cx} {D : Nat} {q : z_MI} {pc : Nat} {i : Nat}  (hd : decode q.2.1 pc = .ok (.astore i, 2)) (hn : Nat.ble (i + 1) q.2.2.1 = true) : z_Sd X D q pc (pc + 2) (x_ast i) := by
  intro ks kj R st h hs hj p e s m args below meth c Rm cells slots Q C0 H locs la I
  rcases st with ⟨ls, _ | ⟨x | x | x, r⟩, M⟩ <;> first | exact False.elim h | skip
  exact lv_astore C0.1 C0.2.1 hd I.2.2.2.2 (Nat.le_of_ble_eq_true hn) rfl (fun la' hl' => hs _ h p e s m args below meth c Rm cells slots Q C0 H locs la' ⟨⟨I.2.1.1, z_rm1_okl I.1⟩, I.2.1.2, I.2.2.1, I.2.2.2.1, z_st1 (v := .inr (.inr x)) hl'⟩)
theorem s_astore_n {X : z_Cx} {D : Nat} {q : z_MI} {pc : Nat} {i : Nat} {k : Fin 4} (hd : decode q.2.1 pc = .ok (.astore_n k, 1)) (hi : (k : Nat) = i) (hn : Nat.ble (i + 1) q.2.2.1 = true) : z_Sd X D q pc (pc + 1) (x_ast i) := by
  intro ks kj R st h hs hj p e s m args below meth c Rm cells slots Q C0 H locs la I
  rcases st with ⟨ls, _ | ⟨x | x | x, r⟩, M⟩ <;> first | exact False.elim h | skip
  exact lv_astore_n C0.1 C0.2.1 hd hi I.2.2.2.2 (Nat.le_of_ble_eq_true hn) rfl (fun la' hl' => hs _ h p e s m args below meth c Rm cells slots Q C0 H locs la' ⟨⟨I.2.1.1, z_rm1_okl I.1⟩, I.2.1.2, I.2.2.1, I.2.2.2.1, z_st1 (v := .inr (.inr x)) hl'⟩)
theorem s_lstore {X : z_Cx} {D : Nat} {q : z_MI} {pc : Nat} {i : Nat}  (hd : decode q.2.1 pc = .ok (.lstore i, 2)) (hn : Nat.ble (i + 1 + 1) q.2.2.1 = true) : z_Sd X D q pc (pc + 2) (x_lst i) := by
  intro ks kj R st h hs hj p e s m args below meth c Rm cells slots Q C0 H locs la I
  rcases st with ⟨ls, _ | ⟨x | x | x, r⟩, M⟩ <;> first | exact False.elim h | skip
  exact lv_lstore C0.1 C0.2.1 hd I.2.2.2.2 (Nat.le_of_ble_eq_true hn) rfl (fun la' hl' => hs _ h p e s m args below meth c Rm cells slots Q C0 H locs la' ⟨⟨trivial, z_rm1_okl (z_rm1_okl I.1)⟩, I.2.1.2, I.2.2.1, I.2.2.2.1, z_st2 (v := zl x) hl'⟩)
theorem s_lstore_n {X : z_Cx} {D : Nat} {q : z_MI} {pc : Nat} {i : Nat} {k : Fin 4} (hd : decode q.2.1 pc = .ok (.lstore_n k, 1)) (hi : (k : Nat) = i) (hn : Nat.ble (i + 1 + 1) q.2.2.1 = true) : z_Sd X D q pc (pc + 1) (x_lst i) := by
  intro ks kj R st h hs hj p e s m args below meth c Rm cells slots Q C0 H locs la I
  rcases st with ⟨ls, _ | ⟨x | x | x, r⟩, M⟩ <;> first | exact False.elim h | skip
  exact lv_lstore_n C0.1 C0.2.1 hd hi I.2.2.2.2 (Nat.le_of_ble_eq_true hn) rfl (fun la' hl' => hs _ h p e s m args below meth c Rm cells slots Q C0 H locs la' ⟨⟨trivial, z_rm1_okl (z_rm1_okl I.1)⟩, I.2.1.2, I.2.2.1, I.2.2.2.1, z_st2 (v := zl x) hl'⟩)
def x_iinc (i : Nat) (d : Int32) : z_X := fun ks _ _ _ st => match z_lk i st.1 with
  | some (.inl x) => ks ((i, zi (x + d)) :: z_rm1 i st.1, st.2.1, st.2.2)
  | _ => False
theorem s_iinc {X : z_Cx} {D : Nat} {q : z_MI} {pc i : Nat} {n : Int} {d : Int32} (hd : decode q.2.1 pc = .ok (.iinc i n, 3)) (hv : Int32.ofInt n = d) (hn : Nat.ble (i + 1) q.2.2.1 = true) : z_Sd X D q pc (pc + 3) (x_iinc i d) := by
  intro ks kj R st h hs hj p e s m args below meth c Rm cells slots Q C0 H locs la I
  rcases st with ⟨ls, st, M⟩
  cases hk : z_lk i ls with
  | none => unfold x_iinc at h; rw [show z_lk i (ls, st, M).1 = none from hk] at h; exact False.elim h
  | some v =>
    unfold x_iinc at h
    rw [show z_lk i (ls, st, M).1 = some v from hk] at h
    rcases v with x | x | x <;> first | exact False.elim h | skip
    obtain ⟨k, hkk⟩ := List.getElem?_of_mem (List.mem_map.mpr ⟨(i, .inl x), z_lk_mem hk, rfl⟩ : (i, z_co X.2.2.1 (.inl x)) ∈ z_cl X ls)
    exact lv_iinc (v := x + d) C0.1 C0.2.1 hd I.2.2.2.2 hkk (by rw [hv]) (Nat.le_of_ble_eq_true hn) rfl (fun la' hl' => hs _ h p e s m args below meth c Rm cells slots Q C0 H locs la' ⟨⟨trivial, z_rm1_okl I.1⟩, I.2.1, I.2.2.1, I.2.2.2.1, z_st1 (v := zi (x + d)) hl'⟩)
def x_dup : z_X := fun ks kj R C st => match st with
  | (ls, .inl x :: r, M) => ks (ls, zi x :: zi x :: r, M)
  | _ => False
theorem s_dup {X : z_Cx} {D : Nat} {q : z_MI} {pc : Nat}  (hd : decode q.2.1 pc = .ok (.dup, 1)) : z_Sd X D q pc (pc + 1) (x_dup) := by
  intro ks kj R st h hs hj p e s m args below meth c Rm cells slots Q C0 H locs la I
  rcases st with ⟨ls, _ | ⟨x | x | x, r⟩, M⟩ <;> first | exact False.elim h | skip
  exact lv_dup C0.1 C0.2.1 hd rfl (hs _ h p e s m args below meth c Rm cells slots Q C0 H locs la ⟨I.1, ⟨trivial, I.2.1⟩, I.2.2⟩)
def x_dupr : z_X := fun ks kj R C st => match st with
  | (ls, .inr (.inr x) :: r, M) => ks (ls, .inr (.inr x) :: .inr (.inr x) :: r, M)
  | _ => False
theorem s_dupr {X : z_Cx} {D : Nat} {q : z_MI} {pc : Nat}  (hd : decode q.2.1 pc = .ok (.dup, 1)) : z_Sd X D q pc (pc + 1) (x_dupr) := by
  intro ks kj R st h hs hj p e s m args below meth c Rm cells slots Q C0 H locs la I
  rcases st with ⟨ls, _ | ⟨x | x | x, r⟩, M⟩ <;> first | exact False.elim h | skip
  exact lv_dup C0.1 C0.2.1 hd rfl (hs _ h p e s m args below meth c Rm cells slots Q C0 H locs la ⟨I.1, ⟨I.2.1.1, I.2.1⟩, I.2.2⟩)
def x_dup2 : z_X := fun ks kj R C st => match st with
  | (ls, .inl y :: .inr (.inr x) :: r, M) => ks (ls, zi y :: .inr (.inr x) :: zi y :: .inr (.inr x) :: r, M)
  | _ => False
theorem s_dup2 {X : z_Cx} {D : Nat} {q : z_MI} {pc : Nat}  (hd : decode q.2.1 pc = .ok (.dup2, 1)) : z_Sd X D q pc (pc + 1) (x_dup2) := by
  intro ks kj R st h hs hj p e s m args below meth c Rm cells slots Q C0 H locs la I
  rcases st with ⟨ls, _ | ⟨y | y | y, _ | ⟨x | x | x, r⟩⟩, M⟩ <;> first | exact False.elim h | skip
  exact lv_dup2_11 C0.1 C0.2.1 hd rfl rfl (hs _ h p e s m args below meth c Rm cells slots Q C0 H locs la ⟨I.1, ⟨trivial, I.2.1.2.1, I.2.1⟩, I.2.2⟩)
def x_pop : z_X := fun ks kj R C st => match st with
  | (ls, .inl x :: r, M) => ks (ls, r, M)
  | _ => False
theorem s_pop {X : z_Cx} {D : Nat} {q : z_MI} {pc : Nat}  (hd : decode q.2.1 pc = .ok (.pop, 1)) : z_Sd X D q pc (pc + 1) (x_pop) := by
  intro ks kj R st h hs hj p e s m args below meth c Rm cells slots Q C0 H locs la I
  rcases st with ⟨ls, _ | ⟨x | x | x, r⟩, M⟩ <;> first | exact False.elim h | skip
  exact lv_pop C0.1 C0.2.1 hd rfl (hs _ h p e s m args below meth c Rm cells slots Q C0 H locs la ⟨I.1, I.2.1.2, I.2.2⟩)
def x_if_eq (t : Nat) : z_X := fun ks kj R C st => match st with
  | (ls, .inl x :: r, M) => (x = 0 → kj t (ls, r, M)) ∧ (¬ x = 0 → ks (ls, r, M))
  | _ => False
theorem s_if_eq {X : z_Cx} {D : Nat} {q : z_MI} {pc : Nat} {off : Int} {t : Nat} (hd : decode q.2.1 pc = .ok (.ifCond .eq off, 3)) (ht : (pc : Int) + off = (t : Int)) : z_Sd X D q pc (pc + 3) (x_if_eq t) := by
  intro ks kj R st h hs hj p e s m args below meth c Rm cells slots Q C0 H locs la I
  rcases st with ⟨ls, _ | ⟨x | x | x, r⟩, M⟩ <;> first | exact False.elim h | skip
  exact lv_if_eq C0.1 C0.2.1 hd ht (fun g => hj _ _ (h.1 g) p e s m args below meth c Rm cells slots Q C0 H locs la ⟨I.1, I.2.1.2, I.2.2⟩) (fun g => hs _ (h.2 g) p e s m args below meth c Rm cells slots Q C0 H locs la ⟨I.1, I.2.1.2, I.2.2⟩)
def x_ic_eq (t : Nat) : z_X := fun ks kj R C st => match st with
  | (ls, .inl y :: .inl x :: r, M) => (x = y → kj t (ls, r, M)) ∧ (¬ x = y → ks (ls, r, M))
  | _ => False
theorem s_ic_eq {X : z_Cx} {D : Nat} {q : z_MI} {pc : Nat} {off : Int} {t : Nat} (hd : decode q.2.1 pc = .ok (.if_icmp .eq off, 3)) (ht : (pc : Int) + off = (t : Int)) : z_Sd X D q pc (pc + 3) (x_ic_eq t) := by
  intro ks kj R st h hs hj p e s m args below meth c Rm cells slots Q C0 H locs la I
  rcases st with ⟨ls, _ | ⟨y | y | y, _ | ⟨x | x | x, r⟩⟩, M⟩ <;> first | exact False.elim h | skip
  exact lv_icmp_eq C0.1 C0.2.1 hd ht (fun g => hj _ _ (h.1 g) p e s m args below meth c Rm cells slots Q C0 H locs la ⟨I.1, I.2.1.2.2, I.2.2⟩) (fun g => hs _ (h.2 g) p e s m args below meth c Rm cells slots Q C0 H locs la ⟨I.1, I.2.1.2.2, I.2.2⟩)
def x_if_ne (t : Nat) : z_X := fun ks kj R C st => match st with
  | (ls, .inl x :: r, M) => (¬ x = 0 → kj t (ls, r, M)) ∧ (x = 0 → ks (ls, r, M))
  | _ => False
theorem s_if_ne {X : z_Cx} {D : Nat} {q : z_MI} {pc : Nat} {off : Int} {t : Nat} (hd : decode q.2.1 pc = .ok (.ifCond .ne off, 3)) (ht : (pc : Int) + off = (t : Int)) : z_Sd X D q pc (pc + 3) (x_if_ne t) := by
  intro ks kj R st h hs hj p e s m args below meth c Rm cells slots Q C0 H locs la I
  rcases st with ⟨ls, _ | ⟨x | x | x, r⟩, M⟩ <;> first | exact False.elim h | skip
  exact lv_if_ne C0.1 C0.2.1 hd ht (fun g => hj _ _ (h.1 g) p e s m args below meth c Rm cells slots Q C0 H locs la ⟨I.1, I.2.1.2, I.2.2⟩) (fun g => hs _ (h.2 g) p e s m args below meth c Rm cells slots Q C0 H locs la ⟨I.1, I.2.1.2, I.2.2⟩)
def x_ic_ne (t : Nat) : z_X := fun ks kj R C st => match st with
  | (ls, .inl y :: .inl x :: r, M) => (¬ x = y → kj t (ls, r, M)) ∧ (x = y → ks (ls, r, M))
  | _ => False
theorem s_ic_ne {X : z_Cx} {D : Nat} {q : z_MI} {pc : Nat} {off : Int} {t : Nat} (hd : decode q.2.1 pc = .ok (.if_icmp .ne off, 3)) (ht : (pc : Int) + off = (t : Int)) : z_Sd X D q pc (pc + 3) (x_ic_ne t) := by
  intro ks kj R st h hs hj p e s m args below meth c Rm cells slots Q C0 H locs la I
  rcases st with ⟨ls, _ | ⟨y | y | y, _ | ⟨x | x | x, r⟩⟩, M⟩ <;> first | exact False.elim h | skip
  exact lv_icmp_ne C0.1 C0.2.1 hd ht (fun g => hj _ _ (h.1 g) p e s m args below meth c Rm cells slots Q C0 H locs la ⟨I.1, I.2.1.2.2, I.2.2⟩) (fun g => hs _ (h.2 g) p e s m args below meth c Rm cells slots Q C0 H locs la ⟨I.1, I.2.1.2.2, I.2.2⟩)
def x_if_lt (t : Nat) : z_X := fun ks kj R C st => match st with
  | (ls, .inl x :: r, M) => (x < 0 → kj t (ls, r, M)) ∧ (¬ x < 0 → ks (ls, r, M))
  | _ => False
theorem s_if_lt {X : z_Cx} {D : Nat} {q : z_MI} {pc : Nat} {off : Int} {t : Nat} (hd : decode q.2.1 pc = .ok (.ifCond .lt off, 3)) (ht : (pc : Int) + off = (t : Int)) : z_Sd X D q pc (pc + 3) (x_if_lt t) := by
  intro ks kj R st h hs hj p e s m args below meth c Rm cells slots Q C0 H locs la I
  rcases st with ⟨ls, _ | ⟨x | x | x, r⟩, M⟩ <;> first | exact False.elim h | skip
  exact lv_if_lt C0.1 C0.2.1 hd ht (fun g => hj _ _ (h.1 g) p e s m args below meth c Rm cells slots Q C0 H locs la ⟨I.1, I.2.1.2, I.2.2⟩) (fun g => hs _ (h.2 g) p e s m args below meth c Rm cells slots Q C0 H locs la ⟨I.1, I.2.1.2, I.2.2⟩)
def x_ic_lt (t : Nat) : z_X := fun ks kj R C st => match st with
  | (ls, .inl y :: .inl x :: r, M) => (x < y → kj t (ls, r, M)) ∧ (¬ x < y → ks (ls, r, M))
  | _ => False
theorem s_ic_lt {X : z_Cx} {D : Nat} {q : z_MI} {pc : Nat} {off : Int} {t : Nat} (hd : decode q.2.1 pc = .ok (.if_icmp .lt off, 3)) (ht : (pc : Int) + off = (t : Int)) : z_Sd X D q pc (pc + 3) (x_ic_lt t) := by
  intro ks kj R st h hs hj p e s m args below meth c Rm cells slots Q C0 H locs la I
  rcases st with ⟨ls, _ | ⟨y | y | y, _ | ⟨x | x | x, r⟩⟩, M⟩ <;> first | exact False.elim h | skip
  exact lv_icmp_lt C0.1 C0.2.1 hd ht (fun g => hj _ _ (h.1 g) p e s m args below meth c Rm cells slots Q C0 H locs la ⟨I.1, I.2.1.2.2, I.2.2⟩) (fun g => hs _ (h.2 g) p e s m args below meth c Rm cells slots Q C0 H locs la ⟨I.1, I.2.1.2.2, I.2.2⟩)
def x_if_ge (t : Nat) : z_X := fun ks kj R C st => match st with
  | (ls, .inl x :: r, M) => (0 ≤ x → kj t (ls, r, M)) ∧ (¬ 0 ≤ x → ks (ls, r, M))
  | _ => False
theorem s_if_ge {X : z_Cx} {D : Nat} {q : z_MI} {pc : Nat} {off : Int} {t : Nat} (hd : decode q.2.1 pc = .ok (.ifCond .ge off, 3)) (ht : (pc : Int) + off = (t : Int)) : z_Sd X D q pc (pc + 3) (x_if_ge t) := by
  intro ks kj R st h hs hj p e s m args below meth c Rm cells slots Q C0 H locs la I
  rcases st with ⟨ls, _ | ⟨x | x | x, r⟩, M⟩ <;> first | exact False.elim h | skip
  exact lv_if_ge C0.1 C0.2.1 hd ht (fun g => hj _ _ (h.1 g) p e s m args below meth c Rm cells slots Q C0 H locs la ⟨I.1, I.2.1.2, I.2.2⟩) (fun g => hs _ (h.2 g) p e s m args below meth c Rm cells slots Q C0 H locs la ⟨I.1, I.2.1.2, I.2.2⟩)
def x_ic_ge (t : Nat) : z_X := fun ks kj R C st => match st with
  | (ls, .inl y :: .inl x :: r, M) => (y ≤ x → kj t (ls, r, M)) ∧ (¬ y ≤ x → ks (ls, r, M))
  | _ => False
theorem s_ic_ge {X : z_Cx} {D : Nat} {q : z_MI} {pc : Nat} {off : Int} {t : Nat} (hd : decode q.2.1 pc = .ok (.if_icmp .ge off, 3)) (ht : (pc : Int) + off = (t : Int)) : z_Sd X D q pc (pc + 3) (x_ic_ge t) := by
  intro ks kj R st h hs hj p e s m args below meth c Rm cells slots Q C0 H locs la I
  rcases st with ⟨ls, _ | ⟨y | y | y, _ | ⟨x | x | x, r⟩⟩, M⟩ <;> first | exact False.elim h | skip
  exact lv_icmp_ge C0.1 C0.2.1 hd ht (fun g => hj _ _ (h.1 g) p e s m args below meth c Rm cells slots Q C0 H locs la ⟨I.1, I.2.1.2.2, I.2.2⟩) (fun g => hs _ (h.2 g) p e s m args below meth c Rm cells slots Q C0 H locs la ⟨I.1, I.2.1.2.2, I.2.2⟩)
def x_if_gt (t : Nat) : z_X := fun ks kj R C st => match st with
  | (ls, .inl x :: r, M) => (0 < x → kj t (ls, r, M)) ∧ (¬ 0 < x → ks (ls, r, M))
  | _ => False
theorem s_if_gt {X : z_Cx} {D : Nat} {q : z_MI} {pc : Nat} {off : Int} {t : Nat} (hd : decode q.2.1 pc = .ok (.ifCond .gt off, 3)) (ht : (pc : Int) + off = (t : Int)) : z_Sd X D q pc (pc + 3) (x_if_gt t) := by
  intro ks kj R st h hs hj p e s m args below meth c Rm cells slots Q C0 H locs la I
  rcases st with ⟨ls, _ | ⟨x | x | x, r⟩, M⟩ <;> first | exact False.elim h | skip
  exact lv_if_gt C0.1 C0.2.1 hd ht (fun g => hj _ _ (h.1 g) p e s m args below meth c Rm cells slots Q C0 H locs la ⟨I.1, I.2.1.2, I.2.2⟩) (fun g => hs _ (h.2 g) p e s m args below meth c Rm cells slots Q C0 H locs la ⟨I.1, I.2.1.2, I.2.2⟩)
def x_ic_gt (t : Nat) : z_X := fun ks kj R C st => match st with
  | (ls, .inl y :: .inl x :: r, M) => (y < x → kj t (ls, r, M)) ∧ (¬ y < x → ks (ls, r, M))
  | _ => False
theorem s_ic_gt {X : z_Cx} {D : Nat} {q : z_MI} {pc : Nat} {off : Int} {t : Nat} (hd : decode q.2.1 pc = .ok (.if_icmp .gt off, 3)) (ht : (pc : Int) + off = (t : Int)) : z_Sd X D q pc (pc + 3) (x_ic_gt t) := by
  intro ks kj R st h hs hj p e s m args below meth c Rm cells slots Q C0 H locs la I
  rcases st with ⟨ls, _ | ⟨y | y | y, _ | ⟨x | x | x, r⟩⟩, M⟩ <;> first | exact False.elim h | skip
  exact lv_icmp_gt C0.1 C0.2.1 hd ht (fun g => hj _ _ (h.1 g) p e s m args below meth c Rm cells slots Q C0 H locs la ⟨I.1, I.2.1.2.2, I.2.2⟩) (fun g => hs _ (h.2 g) p e s m args below meth c Rm cells slots Q C0 H locs la ⟨I.1, I.2.1.2.2, I.2.2⟩)
def x_if_le (t : Nat) : z_X := fun ks kj R C st => match st with
  | (ls, .inl x :: r, M) => (x ≤ 0 → kj t (ls, r, M)) ∧ (¬ x ≤ 0 → ks (ls, r, M))
  | _ => False
theorem s_if_le {X : z_Cx} {D : Nat} {q : z_MI} {pc : Nat} {off : Int} {t : Nat} (hd : decode q.2.1 pc = .ok (.ifCond .le off, 3)) (ht : (pc : Int) + off = (t : Int)) : z_Sd X D q pc (pc + 3) (x_if_le t) := by
  intro ks kj R st h hs hj p e s m args below meth c Rm cells slots Q C0 H locs la I
  rcases st with ⟨ls, _ | ⟨x | x | x, r⟩, M⟩ <;> first | exact False.elim h | skip
  exact lv_if_le C0.1 C0.2.1 hd ht (fun g => hj _ _ (h.1 g) p e s m args below meth c Rm cells slots Q C0 H locs la ⟨I.1, I.2.1.2, I.2.2⟩) (fun g => hs _ (h.2 g) p e s m args below meth c Rm cells slots Q C0 H locs la ⟨I.1, I.2.1.2, I.2.2⟩)
def x_ic_le (t : Nat) : z_X := fun ks kj R C st => match st with
  | (ls, .inl y :: .inl x :: r, M) => (x ≤ y → kj t (ls, r, M)) ∧ (¬ x ≤ y → ks (ls, r, M))
  | _ => False
theorem s_ic_le {X : z_Cx} {D : Nat} {q : z_MI} {pc : Nat} {off : Int} {t : Nat} (hd : decode q.2.1 pc = .ok (.if_icmp .le off, 3)) (ht : (pc : Int) + off = (t : Int)) : z_Sd X D q pc (pc + 3) (x_ic_le t) := by
  intro ks kj R st h hs hj p e s m args below meth c Rm cells slots Q C0 H locs la I
  rcases st with ⟨ls, _ | ⟨y | y | y, _ | ⟨x | x | x, r⟩⟩, M⟩ <;> first | exact False.elim h | skip
  exact lv_icmp_le C0.1 C0.2.1 hd ht (fun g => hj _ _ (h.1 g) p e s m args below meth c Rm cells slots Q C0 H locs la ⟨I.1, I.2.1.2.2, I.2.2⟩) (fun g => hs _ (h.2 g) p e s m args below meth c Rm cells slots Q C0 H locs la ⟨I.1, I.2.1.2.2, I.2.2⟩)
def x_goto (t : Nat) : z_X := fun _ kj _ _ st => kj t st
theorem s_goto {X : z_Cx} {D : Nat} {q : z_MI} {pc : Nat} {off : Int} {t : Nat} (hd : decode q.2.1 pc = .ok (.goto off, 3)) (ht : (pc : Int) + off = (t : Int)) : z_Sd X D q pc (pc + 3) (x_goto t) := by
  intro ks kj R st h hs hj p e s m args below meth c Rm cells slots Q C0 H locs la I
  exact lv_goto C0.1 C0.2.1 hd ht (hj _ _ h p e s m args below meth c Rm cells slots Q C0 H locs la I)
def x_ret (ty : FieldType) : z_X := fun ks kj R C st => match st with
  | (ls, [.inl x], M) => narrow ty (.int x) = .int x ∧ R x M
  | _ => False
theorem s_ret {X : z_Cx} {D : Nat} {q : z_MI} {pc : Nat} {ty : FieldType} (hd : decode q.2.1 pc = .ok (.ireturn, 1)) (hr : q.2.2.2 = some ty) : z_Sd X D q pc (pc + 1) (x_ret ty) := by
  intro ks kj R st h hs hj p e s m args below meth c Rm cells slots Q C0 H locs la I
  rcases st with ⟨ls, _ | ⟨x | x | x, _ | ⟨y, r⟩⟩, M⟩ <;> first | exact False.elim h | skip
  exact C0.2.2.2.2.2.2.2.2.2.1 x M H locs la pc ty hr h.1 h.2 I.2.2.1 I.2.2.2.1 hd
def x_iret : z_X := fun ks kj R C st => match st with
  | (ls, [.inl x], M) => R x M
  | _ => False
theorem s_iret {X : z_Cx} {D : Nat} {q : z_MI} {pc : Nat}  (hd : decode q.2.1 pc = .ok (.ireturn, 1)) (hr : q.2.2.2 = some .int) : z_Sd X D q pc (pc + 1) (x_iret) := by
  intro ks kj R st h hs hj p e s m args below meth c Rm cells slots Q C0 H locs la I
  rcases st with ⟨ls, _ | ⟨x | x | x, _ | ⟨y, r⟩⟩, M⟩ <;> first | exact False.elim h | skip
  exact C0.2.2.2.2.2.2.2.2.2.1 x M H locs la pc .int hr rfl h I.2.2.1 I.2.2.2.1 hd
def x_zret : z_X := fun ks kj R C st => match st with
  | (ls, [.inl x], M) => (x = 0 ∨ x = 1) ∧ R x M
  | _ => False
theorem s_zret {X : z_Cx} {D : Nat} {q : z_MI} {pc : Nat}  (hd : decode q.2.1 pc = .ok (.ireturn, 1)) (hr : q.2.2.2 = some .boolean) : z_Sd X D q pc (pc + 1) (x_zret) := by
  intro ks kj R st h hs hj p e s m args below meth c Rm cells slots Q C0 H locs la I
  rcases st with ⟨ls, _ | ⟨x | x | x, _ | ⟨y, r⟩⟩, M⟩ <;> first | exact False.elim h | skip
  exact C0.2.2.2.2.2.2.2.2.2.1 x M H locs la pc .boolean hr (by rcases h.1 with e | e <;> rw [e] <;> rfl) h.2 I.2.2.1 I.2.2.2.1 hd
def x_vret : z_X := fun ks kj R C st => match st with
  | (ls, [], M) => R 0 M
  | _ => False
theorem s_vret {X : z_Cx} {D : Nat} {q : z_MI} {pc : Nat}  (hd : decode q.2.1 pc = .ok (.return_, 1)) (hr : q.2.2.2 = none) : z_Sd X D q pc (pc + 1) (x_vret) := by
  intro ks kj R st h hs hj p e s m args below meth c Rm cells slots Q C0 H locs la I
  rcases st with ⟨ls, _ | ⟨x, r⟩, M⟩ <;> first | exact False.elim h | skip
  exact C0.2.2.2.2.2.2.2.2.2.2 M H locs la pc hr h I.2.2.1 I.2.2.2.1 hd
end
section
/-! ===== fields, arrays, statics ===== -/
theorem z_en_congr {X : z_Cx} {M M' : z_M} {q : Nat × Nat} (h1 : M'.1 q.1 q.2 = M.1 q.1 q.2) (h2 : M'.2.1 q.1 q.2 = M.2.1 q.1 q.2) (h3 : M'.2.2 q.1 = M.2.2 q.1) : z_en X M' q = z_en X M q := by
  have hf : ∀ f, z_fv q.1 f q.2 M' = z_fv q.1 f q.2 M := by
    intro f
    unfold z_fv
    rw [h1, h2, h3]
  unfold z_en
  simp only [hf, h1]
theorem z_en_o {X : z_Cx} {M : z_M} {k i ci nf a b c : Nat} (h : z_kd k = (0, ci, nf, a, b, c)) : z_en X M (k, i) = (X.2.2.1 k i, .inr (ci, (List.range nf).map (fun f => z_co X.2.2.1 (z_fv k f i M)))) := by
  unfold z_en
  rw [show z_kd (k, i).1 = _ from h]
  rfl
theorem z_en_p {X : z_Cx} {M : z_M} {k i t0 n a b c : Nat} (h : z_kd k = (1, t0, n, a, b, c)) : z_en X M (k, i) = (X.2.2.1 k i, .inl (X.2.2.2.1 t0, n, .inl (M.1 k i))) := by
  unfold z_en
  rw [show z_kd (k, i).1 = _ from h]
  rfl
theorem z_en_r {X : z_Cx} {M : z_M} {k i t0 n a b c : Nat} (h : z_kd k = (2, t0, n, a, b, c)) : z_en X M (k, i) = (X.2.2.1 k i, .inl (X.2.2.2.1 t0, n, .inr (.inr (.inr (.inr (fun j => some (X.2.2.1 a (b * i + c + j)))))))) := by
  unfold z_en
  rw [show z_kd (k, i).1 = _ from h]
  rfl
theorem z_rg {α : Type} (nf f : Nat) (g : Nat → α) (h : f < nf) : ((List.range nf).map g)[f]? = some (g f) := by
  rw [List.getElem?_map, List.getElem?_range h]
  rfl
theorem z_rgs {α : Type} (nf f : Nat) (g g' : Nat → α) (h : ∀ j, j ≠ f → g' j = g j) : ((List.range nf).map g).set f (g' f) = (List.range nf).map g' := by
  apply List.ext_getElem?
  intro j
  rw [List.getElem?_set, List.getElem?_map, List.getElem?_map, List.length_map, List.length_range]
  by_cases e : f = j
  · subst e
    rw [if_pos rfl]
    by_cases hl : f < nf
    · rw [if_pos hl, List.getElem?_range hl]; rfl
    · rw [if_neg hl, List.getElem?_eq_none (by rw [List.length_range]; omega)]; rfl
  · rw [if_neg e]
    cases hj : (List.range nf)[j]? with
    | none => rfl
    | some r =>
      have : r = j := by
        obtain ⟨h1, h2⟩ := List.getElem?_eq_some_iff.mp hj
        rw [List.getElem_range] at h2
        exact h2.symm
      subst this
      show some (g r) = some (g' r)
      rw [h r (fun w => e w.symm)]
theorem z_s_ne {M : z_M} {k i j : Nat} {v : Int32} {q : Nat × Nat} (h : q ≠ (k, i)) : (z_s M k i j v).1 q.1 q.2 = M.1 q.1 q.2 := by
  funext x
  show (if q.1 = k ∧ q.2 = i ∧ x = j then v else M.1 q.1 q.2 x) = _
  rw [if_neg]
  rintro ⟨h1, h2, -⟩
  exact h (Prod.ext h1 h2)
theorem z_s_at {M : z_M} {k i j : Nat} {v : Int32} : (z_s M k i j v).1 k i = upd (M.1 k i) j v := by
  funext x
  show (if k = k ∧ i = i ∧ x = j then v else M.1 k i x) = (if x = j then v else M.1 k i x)
  by_cases e : x = j
  · rw [if_pos ⟨rfl, rfl, e⟩, if_pos e]
  · rw [if_neg (fun w => e w.2.2), if_neg e]
theorem z_sn_ne {M : z_M} {k n n' : Nat} {v : Bool} (h : n' ≠ n) : (z_sn M k n v).2.2 k n' = M.2.2 k n' := if_neg (fun w => h w.2)
theorem z_lt64 {q : Nat × Nat} (h : q ∈ z_pl) : q.1 < 64 ∧ q.2 < z_cnt q.1 := by
  unfold z_pl at h
  rw [List.mem_flatMap] at h
  obtain ⟨k, hk, hm⟩ := h
  obtain ⟨i, hi, rfl⟩ := List.mem_map.mp hm
  exact ⟨List.mem_range.mp hk, List.mem_range.mp hi⟩
/-- an object's class, as the tables have it -/
def z_Cl (k ci nf : Nat) (C : String) (T : u_T) : Prop := k < 64 ∧ z_kd k = (0, ci, nf, 0, 0, 0) ∧ vwCl[ci]? = some (C, T, nf) ∧ ∀ w ∈ u_ws C T nf, w ∈ z_U
def x_gI (k f : Nat) : z_X := fun ks _ _ _ st => match st with
  | (ls, .inr (.inr (k', i)) :: r, M) => bif Nat.beq k' k then ks (ls, zi (M.1 k i f) :: r, M) else False
  | _ => False
def x_gL (k : Nat) : z_X := fun ks _ _ _ st => match st with
  | (ls, .inr (.inr (k', i)) :: r, M) => bif Nat.beq k' k then ks (ls, zl (M.2.1 k i) :: r, M) else False
  | _ => False
def x_gR0 (k a c : Nat) : z_X := fun ks _ _ _ st => match st with
  | (ls, .inr (.inr (k', _)) :: r, M) => bif Nat.beq k' k then ks (ls, zr a c :: r, M) else False
  | _ => False
def x_gR1 (k a : Nat) : z_X := fun ks _ _ _ st => match st with
  | (ls, .inr (.inr (k', i)) :: r, M) => bif Nat.beq k' k then ks (ls, zr a i :: r, M) else False
  | _ => False
def x_gD (k a n : Nat) : z_X := fun ks _ _ _ st => match st with
  | (ls, .inr (.inr (k', _)) :: r, M) => bif Nat.beq k' k then ks (ls, zr a (M.2.2 k n).toNat :: r, M) else False
  | _ => False
theorem z_gw {X : z_Cx} {D : Nat} {q : z_MI} {R : Int32 → z_M → Prop} {p : Program} {e : Env} {s : State} {m : MethodId} {args : Array Value} {below : List Frame} {meth : Method} {c : Code} {Rm : Room} {cells slots : Nat} {Q : State → Prop}
    (C0 : z_MC X D q R p e s m args below meth c Rm cells slots Q) {k ci nf f idx pc i : Nat} {C : String} {T : u_T} (hC : z_Cl k ci nf C T) (hf : f < nf) (hlink : Cond.fieldLink q.1.cls idx (T f).1 (T f).2.1 (T f).2.2.1 ∈ z_U) (hd : decode q.2.1 pc = .ok (.getfield idx, 3))
    {M : z_M} {H : Heap} {locs : List Loc} {la : Array Slot} {rest : List Value} (hi : i < z_cnt k) (hP : va_P X.2.1 vwCl (z_w X M) H) {v : z_V} (hv : z_fv k f i M = v) (kk : W p X.1 e Rm s m args below meth c H locs cells slots Q (F0 m (pc + 3) la (z_co X.2.2.1 v :: rest))) :
    W p X.1 e Rm s m args below meth c H locs cells slots Q (F0 m pc la (.ref (X.2.2.1 k i) :: rest)) := by
  obtain ⟨h64, hkd, hcl, hin⟩ := hC
  obtain ⟨q0, hq⟩ := z_pl_at (z_pl_mem h64 hi)
  have he := z_w_at (X := X) (M := M) hq
  rw [z_en_o hkd] at he
  exact va_get (D := X.2.1) (ci := ci) (v := z_co X.2.2.1 v) (C := C) (T := T) (N := nf) C0.1 C0.2.1 C0.2.2.2.2.1 hin C0.2.2.2.1 C0.2.2.2.2.2.1 hP q0 he hcl f hf (C0.2.2.2.2.1 _ hlink) (fun _ h9 => h9) (by rw [z_rg _ _ _ hf, hv]) hd kk
theorem s_gI {X : z_Cx} {D : Nat} {q : z_MI} {pc k ci nf f idx : Nat} {C : String} {T : u_T} (hC : z_Cl k ci nf C T) (hf : f < nf) (hft : z_ft k f = (0, 0, 0, 0)) (hlink : Cond.fieldLink q.1.cls idx (T f).1 (T f).2.1 (T f).2.2.1 ∈ z_U) (hd : decode q.2.1 pc = .ok (.getfield idx, 3)) : z_Sd X D q pc (pc + 3) (x_gI k f) := by
  intro ks kj R st h hs hj p e s m args below meth c Rm cells slots Q C0 H locs la I
  rcases st with ⟨ls, _ | ⟨x | x | ⟨k', i⟩, r⟩, M⟩ <;> first | exact False.elim h | skip
  unfold x_gI at h
  cases hb : Nat.beq k' k with
  | false => simp only [hb] at h; exact False.elim h
  | true =>
    simp only [hb] at h
    have hk := Nat.eq_of_beq_eq_true hb
    subst hk
    exact z_gw C0 hC hf hlink hd I.2.1.1 I.2.2.1 (v := zi (M.1 k' i f)) (by unfold z_fv; rw [hft]; rfl) (hs _ h p e s m args below meth c Rm cells slots Q C0 H locs la ⟨I.1, ⟨trivial, I.2.1.2⟩, I.2.2⟩)
theorem s_gL {X : z_Cx} {D : Nat} {q : z_MI} {pc k ci nf f idx : Nat} {C : String} {T : u_T} (hC : z_Cl k ci nf C T) (hf : f < nf) (hft : z_ft k f = (1, 0, 0, 0)) (hlink : Cond.fieldLink q.1.cls idx (T f).1 (T f).2.1 (T f).2.2.1 ∈ z_U) (hd : decode q.2.1 pc = .ok (.getfield idx, 3)) : z_Sd X D q pc (pc + 3) (x_gL k) := by
  intro ks kj R st h hs hj p e s m args below meth c Rm cells slots Q C0 H locs la I
  rcases st with ⟨ls, _ | ⟨x | x | ⟨k', i⟩, r⟩, M⟩ <;> first | exact False.elim h | skip
  unfold x_gL at h
  cases hb : Nat.beq k' k with
  | false => simp only [hb] at h; exact False.elim h
  | true =>
    simp only [hb] at h
    have hk := Nat.eq_of_beq_eq_true hb
    subst hk
    exact z_gw C0 hC hf hlink hd I.2.1.1 I.2.2.1 (v := zl (M.2.1 k' i)) (by unfold z_fv; rw [hft]; rfl) (hs _ h p e s m args below meth c Rm cells slots Q C0 H locs la ⟨I.1, ⟨trivial, I.2.1.2⟩, I.2.2⟩)
theorem s_gR0 {X : z_Cx} {D : Nat} {q : z_MI} {pc k ci nf f idx a c : Nat} {C : String} {T : u_T} (hC : z_Cl k ci nf C T) (hf : f < nf) (hft : z_ft k f = (2, a, 0, c)) (hlink : Cond.fieldLink q.1.cls idx (T f).1 (T f).2.1 (T f).2.2.1 ∈ z_U) (hd : decode q.2.1 pc = .ok (.getfield idx, 3)) (hok : Nat.ble (c + 1) (z_cnt a) = true) : z_Sd X D q pc (pc + 3) (x_gR0 k a c) := by
  intro ks kj R st h hs hj p e s m args below meth c' Rm cells slots Q C0 H locs la I
  rcases st with ⟨ls, _ | ⟨x | x | ⟨k', i⟩, r⟩, M⟩ <;> first | exact False.elim h | skip
  unfold x_gR0 at h
  cases hb : Nat.beq k' k with
  | false => simp only [hb] at h; exact False.elim h
  | true =>
    simp only [hb] at h
    have hk := Nat.eq_of_beq_eq_true hb
    subst hk
    exact z_gw C0 hC hf hlink hd I.2.1.1 I.2.2.1 (v := zr a c) (by unfold z_fv; rw [hft]; show zr a (0 * i + c) = zr a c; rw [Nat.zero_mul, Nat.zero_add]) (hs _ h p e s m args below meth c' Rm cells slots Q C0 H locs la ⟨I.1, ⟨Nat.le_of_ble_eq_true hok, I.2.1.2⟩, I.2.2⟩)
theorem s_gR1 {X : z_Cx} {D : Nat} {q : z_MI} {pc k ci nf f idx a : Nat} {C : String} {T : u_T} (hC : z_Cl k ci nf C T) (hf : f < nf) (hft : z_ft k f = (2, a, 1, 0)) (hlink : Cond.fieldLink q.1.cls idx (T f).1 (T f).2.1 (T f).2.2.1 ∈ z_U) (hd : decode q.2.1 pc = .ok (.getfield idx, 3)) (hok : Nat.ble (z_cnt k) (z_cnt a) = true) : z_Sd X D q pc (pc + 3) (x_gR1 k a) := by
  intro ks kj R st h hs hj p e s m args below meth c Rm cells slots Q C0 H locs la I
  rcases st with ⟨ls, _ | ⟨x | x | ⟨k', i⟩, r⟩, M⟩ <;> first | exact False.elim h | skip
  unfold x_gR1 at h
  cases hb : Nat.beq k' k with
  | false => simp only [hb] at h; exact False.elim h
  | true =>
    simp only [hb] at h
    have hk := Nat.eq_of_beq_eq_true hb
    subst hk
    exact z_gw C0 hC hf hlink hd I.2.1.1 I.2.2.1 (v := zr a i) (by unfold z_fv; rw [hft]; show zr a (1 * i + 0) = zr a i; rw [Nat.one_mul]; rfl) (hs _ h p e s m args below meth c Rm cells slots Q C0 H locs la ⟨I.1, ⟨Nat.lt_of_lt_of_le I.2.1.1 (Nat.le_of_ble_eq_true hok), I.2.1.2⟩, I.2.2⟩)
theorem s_gD {X : z_Cx} {D : Nat} {q : z_MI} {pc k ci nf f idx a n : Nat} {C : String} {T : u_T} (hC : z_Cl k ci nf C T) (hf : f < nf) (hft : z_ft k f = (3, a, n, 0)) (hlink : Cond.fieldLink q.1.cls idx (T f).1 (T f).2.1 (T f).2.2.1 ∈ z_U) (hd : decode q.2.1 pc = .ok (.getfield idx, 3)) (hok : Nat.ble 2 (z_cnt a) = true) : z_Sd X D q pc (pc + 3) (x_gD k a n) := by
  intro ks kj R st h hs hj p e s m args below meth c Rm cells slots Q C0 H locs la I
  rcases st with ⟨ls, _ | ⟨x | x | ⟨k', i⟩, r⟩, M⟩ <;> first | exact False.elim h | skip
  unfold x_gD at h
  cases hb : Nat.beq k' k with
  | false => simp only [hb] at h; exact False.elim h
  | true =>
    simp only [hb] at h
    have hk := Nat.eq_of_beq_eq_true hb
    subst hk
    exact z_gw C0 hC hf hlink hd I.2.1.1 I.2.2.1 (v := zr a (M.2.2 k' n).toNat) (by unfold z_fv; rw [hft]; rfl) (hs _ h p e s m args below meth c Rm cells slots Q C0 H locs la ⟨I.1, ⟨Nat.lt_of_lt_of_le (Bool.toNat_lt (M.2.2 k' n)) (Nat.le_of_ble_eq_true hok), I.2.1.2⟩, I.2.2⟩)
/-- a field put: the world, at the new memory -/
theorem z_pw {X : z_Cx} {D : Nat} {q : z_MI} {R : Int32 → z_M → Prop} {p : Program} {e : Env} {s : State} {m : MethodId} {args : Array Value} {below : List Frame} {meth : Method} {c : Code} {Rm : Room} {cells slots : Nat} {Q : State → Prop}
    (C0 : z_MC X D q R p e s m args below meth c Rm cells slots Q) {k ci nf f idx pc i : Nat} {C : String} {T : u_T} {ty0 : Nat → FieldType} (hC : z_Cl k ci nf C T) (hty : ∀ k, k < nf → parseFieldDescriptor (T k).2.2.1 = some (ty0 k)) (hnm : ∀ a, a < nf → ∀ b, b < nf → a ≠ b → (T a).2.1 ≠ (T b).2.1) (hf : f < nf) (hfin : (T f).2.2.2 = false) (hlink : Cond.fieldLink q.1.cls idx (T f).1 (T f).2.1 (T f).2.2.1 ∈ z_U) (hd : decode q.2.1 pc = .ok (.putfield idx, 3))
    {M M' : z_M} {H : Heap} {locs : List Loc} {la : Array Slot} {rest : List Value} {v : z_V} (hi : i < z_cnt k) (hP : va_P X.2.1 vwCl (z_w X M) H) (hS : va_S (z_A X) s.heap H locs) (hn : narrow (ty0 f) (z_co X.2.2.1 v) = z_co X.2.2.1 v) (hfit : fits (ty0 f) (z_co X.2.2.1 v) = true)
    (hv : z_fv k f i M' = v) (ho : ∀ j, j ≠ f → z_fv k j i M' = z_fv k j i M) (hr : ∀ r ∈ z_pl, r ≠ (k, i) → z_en X M' r = z_en X M r)
    (kk : ∀ (H1 : Heap) (locs1 : List Loc), va_P X.2.1 vwCl (z_w X M') H1 → va_S (z_A X) s.heap H1 locs1 → W p X.1 e Rm s m args below meth c H1 locs1 cells slots Q (F0 m (pc + 3) la rest)) :
    W p X.1 e Rm s m args below meth c H locs cells slots Q (F0 m pc la (z_co X.2.2.1 v :: .ref (X.2.2.1 k i) :: rest)) := by
  obtain ⟨h64, hkd, hcl, hin⟩ := hC
  obtain ⟨q0, hq⟩ := z_pl_at (z_pl_mem h64 hi)
  have he := z_w_at (X := X) (M := M) hq
  have hs := z_w_set (X := X) (M := M) (M' := M') hq hr
  rw [z_en_o hkd] at he hs
  refine va_put (D := X.2.1) (ci := ci) (v := z_co X.2.2.1 v) (ty := ty0 f) (C := C) (T := T) (N := nf) C0.1 C0.2.1 C0.2.2.2.2.1 hin ty0 hty hnm C0.2.2.2.1 C0.2.2.2.2.2.1 hP (z_w_D C0.2.2.2.2.2.2.2.1) hS q0 he hcl f hf (C0.2.2.2.2.1 _ hlink) (fun _ h9 => h9) hfin (hty f hf) hn hfit (by rw [List.length_map, List.length_range]; exact hf) hd (fun H1 locs1 hP1 _ hS1 => kk H1 locs1 ?_ hS1)
  rw [← hs, ← z_rgs nf f (fun f => z_co X.2.2.1 (z_fv k f i M)) (fun f => z_co X.2.2.1 (z_fv k f i M')) (fun j hj => by rw [ho j hj])]
  simp only [hv]
  exact hP1
def x_pI (k f : Nat) : z_X := fun ks _ _ _ st => match st with
  | (ls, .inl x :: .inr (.inr (k', i)) :: r, M) => bif Nat.beq k' k then ks (ls, r, z_s M k i f x) else False
  | _ => False
def x_pZ (k f : Nat) : z_X := fun ks _ _ _ st => match st with
  | (ls, .inl x :: .inr (.inr (k', i)) :: r, M) => bif Nat.beq k' k then (x = 0 ∨ x = 1) ∧ ks (ls, r, z_s M k i f x) else False
  | _ => False
def x_pL (k : Nat) : z_X := fun ks _ _ _ st => match st with
  | (ls, .inr (.inl x) :: .inr (.inr (k', i)) :: r, M) => bif Nat.beq k' k then ks (ls, r, z_sl M k i x) else False
  | _ => False
def x_pD (k a n : Nat) : z_X := fun ks _ _ _ st => match st with
  | (ls, .inr (.inr (a', j)) :: .inr (.inr (k', _)) :: r, M) => bif (Nat.beq k' k && Nat.beq a' a) then ks (ls, r, z_sn M k n (Nat.beq j 1)) else False
  | _ => False
theorem z_ftI {k f j i : Nat} {M : z_M} {x : Int32} (hj : j ≠ f) : z_fv k j i (z_s M k i f x) = z_fv k j i M := by
  unfold z_fv
  rw [z_s_at]
  have : upd (M.1 k i) f x j = M.1 k i j := by unfold upd; rw [if_neg hj]
  rw [this]
  rfl
theorem s_pI {X : z_Cx} {D : Nat} {q : z_MI} {pc k ci nf f idx : Nat} {C : String} {T : u_T} {ty0 : Nat → FieldType} (hC : z_Cl k ci nf C T) (hty : ∀ k, k < nf → parseFieldDescriptor (T k).2.2.1 = some (ty0 k)) (hnm : ∀ a, a < nf → ∀ b, b < nf → a ≠ b → (T a).2.1 ≠ (T b).2.1) (hf : f < nf) (hft : z_ft k f = (0, 0, 0, 0)) (hfin : (T f).2.2.2 = false) (ht : ty0 f = .int) (hlink : Cond.fieldLink q.1.cls idx (T f).1 (T f).2.1 (T f).2.2.1 ∈ z_U) (hd : decode q.2.1 pc = .ok (.putfield idx, 3)) : z_Sd X D q pc (pc + 3) (x_pI k f) := by
  intro ks kj R st h hs hj p e s m args below meth c Rm cells slots Q C0 H locs la I
  rcases st with ⟨ls, _ | ⟨x | x | x, _ | ⟨y | y | ⟨k', i⟩, r⟩⟩, M⟩ <;> first | exact False.elim h | skip
  unfold x_pI at h
  cases hb : Nat.beq k' k with
  | false => simp only [hb] at h; exact False.elim h
  | true =>
    simp only [hb] at h
    have hk := Nat.eq_of_beq_eq_true hb
    subst hk
    refine z_pw C0 hC hty hnm hf hfin hlink hd I.2.1.2.1 I.2.2.1 I.2.2.2.1 (v := zi x) (M' := z_s M k' i f x) (by rw [ht]; rfl) (by rw [ht]; rfl) ?_ (fun j hj => z_ftI hj) (fun r hr hne => z_en_congr (z_s_ne hne) rfl rfl) (fun H1 locs1 hP1 hS1 => hs _ h p e s m args below meth c Rm cells slots Q C0 H1 locs1 la ⟨I.1, I.2.1.2.2, hP1, hS1, I.2.2.2.2⟩)
    unfold z_fv
    rw [hft, z_s_at]
    show zi (upd _ f x f) = zi x
    unfold upd
    rw [if_pos rfl]
theorem s_pZ {X : z_Cx} {D : Nat} {q : z_MI} {pc k ci nf f idx : Nat} {C : String} {T : u_T} {ty0 : Nat → FieldType} (hC : z_Cl k ci nf C T) (hty : ∀ k, k < nf → parseFieldDescriptor (T k).2.2.1 = some (ty0 k)) (hnm : ∀ a, a < nf → ∀ b, b < nf → a ≠ b → (T a).2.1 ≠ (T b).2.1) (hf : f < nf) (hft : z_ft k f = (0, 0, 0, 0)) (hfin : (T f).2.2.2 = false) (ht : ty0 f = .boolean) (hlink : Cond.fieldLink q.1.cls idx (T f).1 (T f).2.1 (T f).2.2.1 ∈ z_U) (hd : decode q.2.1 pc = .ok (.putfield idx, 3)) : z_Sd X D q pc (pc + 3) (x_pZ k f) := by
  intro ks kj R st h hs hj p e s m args below meth c Rm cells slots Q C0 H locs la I
  rcases st with ⟨ls, _ | ⟨x | x | x, _ | ⟨y | y | ⟨k', i⟩, r⟩⟩, M⟩ <;> first | exact False.elim h | skip
  unfold x_pZ at h
  cases hb : Nat.beq k' k with
  | false => simp only [hb] at h; exact False.elim h
  | true =>
    simp only [hb] at h
    have hk := Nat.eq_of_beq_eq_true hb
    subst hk
    obtain ⟨hx, h⟩ := h
    refine z_pw C0 hC hty hnm hf hfin hlink hd I.2.1.2.1 I.2.2.1 I.2.2.2.1 (v := zi x) (M' := z_s M k' i f x) (by rw [ht]; rcases hx with e | e <;> rw [e] <;> rfl) (by rw [ht]; rcases hx with e | e <;> rw [e] <;> rfl) ?_ (fun j hj => z_ftI hj) (fun r hr hne => z_en_congr (z_s_ne hne) rfl rfl) (fun H1 locs1 hP1 hS1 => hs _ h p e s m args below meth c Rm cells slots Q C0 H1 locs1 la ⟨I.1, I.2.1.2.2, hP1, hS1, I.2.2.2.2⟩)
    unfold z_fv
    rw [hft, z_s_at]
    show zi (upd _ f x f) = zi x
    unfold upd
    rw [if_pos rfl]
theorem s_pL {X : z_Cx} {D : Nat} {q : z_MI} {pc k ci nf f idx : Nat} {C : String} {T : u_T} {ty0 : Nat → FieldType} (hC : z_Cl k ci nf C T) (hty : ∀ k, k < nf → parseFieldDescriptor (T k).2.2.1 = some (ty0 k)) (hnm : ∀ a, a < nf → ∀ b, b < nf → a ≠ b → (T a).2.1 ≠ (T b).2.1) (hf : f < nf) (hft : z_ft k f = (1, 0, 0, 0)) (hft2 : ∀ j, j ≠ f → (z_ft k j).1 ≠ 1) (hfin : (T f).2.2.2 = false) (ht : ty0 f = .long) (hlink : Cond.fieldLink q.1.cls idx (T f).1 (T f).2.1 (T f).2.2.1 ∈ z_U) (hd : decode q.2.1 pc = .ok (.putfield idx, 3)) : z_Sd X D q pc (pc + 3) (x_pL k) := by
  intro ks kj R st h hs hj p e s m args below meth c Rm cells slots Q C0 H locs la I
  rcases st with ⟨ls, _ | ⟨x | x | x, _ | ⟨y | y | ⟨k', i⟩, r⟩⟩, M⟩ <;> first | exact False.elim h | skip
  unfold x_pL at h
  cases hb : Nat.beq k' k with
  | false => simp only [hb] at h; exact False.elim h
  | true =>
    simp only [hb] at h
    have hk := Nat.eq_of_beq_eq_true hb
    subst hk
    refine z_pw C0 hC hty hnm hf hfin hlink hd I.2.1.2.1 I.2.2.1 I.2.2.2.1 (v := zl x) (M' := z_sl M k' i x) (by rw [ht]; rfl) (by rw [ht]; rfl) ?_ (fun j hj => ?_) (fun r hr hne => z_en_congr rfl ?_ rfl) (fun H1 locs1 hP1 hS1 => hs _ h p e s m args below meth c Rm cells slots Q C0 H1 locs1 la ⟨I.1, I.2.1.2.2, hP1, hS1, I.2.2.2.2⟩)
    · unfold z_fv
      rw [hft]
      show zl (if k' = k' ∧ i = i then x else _) = zl x
      rw [if_pos ⟨rfl, rfl⟩]
    · have h2 := hft2 j hj
      unfold z_fv
      revert h2
      rcases z_ft k' j with ⟨_ | _ | _ | t, a, b, c⟩ <;> intro h2 <;> first | rfl | exact absurd rfl h2
    · show (if r.1 = k' ∧ r.2 = i then x else _) = _
      rw [if_neg (fun w => hne (Prod.ext w.1 w.2))]
theorem s_pD {X : z_Cx} {D : Nat} {q : z_MI} {pc k ci nf f idx a n : Nat} {C : String} {T : u_T} {ty0 : Nat → FieldType} (hC : z_Cl k ci nf C T) (hty : ∀ k, k < nf → parseFieldDescriptor (T k).2.2.1 = some (ty0 k)) (hnm : ∀ a, a < nf → ∀ b, b < nf → a ≠ b → (T a).2.1 ≠ (T b).2.1) (hf : f < nf) (hft : z_ft k f = (3, a, n, 0)) (hft2 : ∀ j, j ≠ f → (z_ft k j).1 ≤ 2 ∨ (z_ft k j).2.2.1 ≠ n) (hc1 : z_cnt k = 1) (hca : z_cnt a = 2) (hfin : (T f).2.2.2 = false) (ht : ty0 f = .array .int) (hlink : Cond.fieldLink q.1.cls idx (T f).1 (T f).2.1 (T f).2.2.1 ∈ z_U) (hd : decode q.2.1 pc = .ok (.putfield idx, 3)) : z_Sd X D q pc (pc + 3) (x_pD k a n) := by
  intro ks kj R st h hs hj p e s m args below meth c Rm cells slots Q C0 H locs la I
  rcases st with ⟨ls, _ | ⟨x | x | ⟨a', j⟩, _ | ⟨y | y | ⟨k', i⟩, r⟩⟩, M⟩ <;> first | exact False.elim h | skip
  unfold x_pD at h
  cases hb : (Nat.beq k' k && Nat.beq a' a) with
  | false => simp only [hb] at h; exact False.elim h
  | true =>
    simp only [hb] at h
    obtain ⟨hb1, hb2⟩ := Bool.and_eq_true_iff.mp hb
    have hk := Nat.eq_of_beq_eq_true hb1
    have hka := Nat.eq_of_beq_eq_true hb2
    subst hk
    subst hka
    have hj2 : j < 2 := by have := I.2.1.1; rw [show z_ok (Sum.inr (Sum.inr (a', j))) = (j < z_cnt a') from rfl, hca] at this; exact this
    have hjb : (Nat.beq j 1).toNat = j := by
      rcases (show j = 0 ∨ j = 1 by omega) with e | e <;> rw [e] <;> rfl
    refine z_pw C0 hC hty hnm hf hfin hlink hd I.2.1.2.1 I.2.2.1 I.2.2.2.1 (v := zr a' j) (M' := z_sn M k' n (Nat.beq j 1)) (by rw [ht]; rfl) (by rw [ht]; rfl) ?_ (fun j' hj' => ?_) (fun r hr hne => z_en_congr rfl rfl ?_) (fun H1 locs1 hP1 hS1 => hs _ h p e s m args below meth c Rm cells slots Q C0 H1 locs1 la ⟨I.1, I.2.1.2.2, hP1, hS1, I.2.2.2.2⟩)
    · unfold z_fv
      rw [hft]
      show zr a' (if k' = k' ∧ n = n then Nat.beq j 1 else _).toNat = zr a' j
      rw [if_pos ⟨rfl, rfl⟩, hjb]
    · have h2 := hft2 j' hj'
      unfold z_fv
      revert h2
      rcases z_ft k' j' with ⟨_ | _ | _ | t, b1, b2, b3⟩ <;> intro h2 <;> first | rfl | skip
      show zr b1 ((z_sn M k' n (Nat.beq j 1)).2.2 k' b2).toNat = zr b1 (M.2.2 k' b2).toNat
      rw [z_sn_ne]
      rcases h2 with h2 | h2
      · exact absurd (show t + 3 ≤ 2 from h2) (by omega)
      · exact h2
    · have hr1 := z_lt64 hr
      have hne1 : r.1 ≠ k' := by
        intro w
        apply hne
        have hi0 : i < 1 := by rw [← hc1]; exact I.2.1.2.1
        have hr2 : r.2 < 1 := by rw [← hc1, ← w]; exact hr1.2
        exact Prod.ext w (by show r.2 = i; omega)
      funext x
      show (if r.1 = k' ∧ x = n then _ else _) = _
      rw [if_neg (fun w => hne1 w.1)]
end
section
/-! ===== arrays ===== -/
def x_iald : z_X := fun ks _ _ _ st => match st with
  | (ls, .inl x :: .inr (.inr (k, i)) :: r, M) => match z_kd k with
    | (tg, t0, n, _, _, _) => bif (Nat.beq tg 1 && Nat.beq t0 0) then vp_in x n ∧ ks (ls, zi (M.1 k i x.toNatClampNeg) :: r, M) else False
  | _ => False
def x_bald : z_X := fun ks _ _ _ st => match st with
  | (ls, .inl x :: .inr (.inr (k, i)) :: r, M) => match z_kd k with
    | (tg, t0, n, _, _, _) => bif (Nat.beq tg 1 && Nat.beq t0 1) then vp_in x n ∧ ks (ls, zi (M.1 k i x.toNatClampNeg) :: r, M) else False
  | _ => False
def x_zald : z_X := fun ks _ _ _ st => match st with
  | (ls, .inl x :: .inr (.inr (k, i)) :: r, M) => match z_kd k with
    | (tg, t0, n, _, _, _) => bif (Nat.beq tg 1 && Nat.beq t0 2) then vp_in x n ∧ ks (ls, zi (M.1 k i x.toNatClampNeg) :: r, M) else False
  | _ => False
def x_iast : z_X := fun ks _ _ _ st => match st with
  | (ls, .inl v :: .inl x :: .inr (.inr (k, i)) :: r, M) => match z_kd k with
    | (tg, t0, n, _, _, _) => bif (Nat.beq tg 1 && Nat.beq t0 0) then vp_in x n ∧ ks (ls, r, z_s M k i x.toNatClampNeg v) else False
  | _ => False
def x_bast : z_X := fun ks _ _ _ st => match st with
  | (ls, .inl v :: .inl x :: .inr (.inr (k, i)) :: r, M) => match z_kd k with
    | (tg, t0, n, _, _, _) => bif (Nat.beq tg 1 && Nat.beq t0 1) then vp_in x n ∧ ks (ls, r, z_s M k i x.toNatClampNeg v.toInt8.toInt32) else False
  | _ => False
def x_zast : z_X := fun ks _ _ _ st => match st with
  | (ls, .inl v :: .inl x :: .inr (.inr (k, i)) :: r, M) => match z_kd k with
    | (tg, t0, n, _, _, _) => bif (Nat.beq tg 1 && Nat.beq t0 2) then vp_in x n ∧ (v = 0 ∨ v = 1) ∧ ks (ls, r, z_s M k i x.toNatClampNeg v) else False
  | _ => False
def x_aald : z_X := fun ks _ _ _ st => match st with
  | (ls, .inl x :: .inr (.inr (k, i)) :: r, M) => match z_kd k with
    | (tg, _, n, a, b, c) => bif Nat.beq tg 2 then vp_in x n ∧ (bif Nat.beq b 0 then (bif Nat.beq c 0 then ks (ls, zr a x.toNatClampNeg :: r, M) else ks (ls, zr a (x.toNatClampNeg + c) :: r, M)) else bif Nat.beq c 0 then ks (ls, zr a (x.toNatClampNeg + b * i) :: r, M) else False) else False
  | _ => False
def x_alen : z_X := fun ks _ _ _ st => match st with
  | (ls, .inr (.inr (k, i)) :: r, M) => match z_kd k with
    | (tg, t0, n, _, _, _) => bif (Nat.beq tg 1 && Nat.beq t0 0) then ks (ls, zi (nI n) :: r, M) else False
  | _ => False
/-- the static arrays, and the script (65, 4) -/
def x_gst (j : Nat) : z_X := fun ks _ _ _ st => ks (st.1, zr 65 j :: st.2.1, st.2.2)
def x_sald (X : z_Cx) : z_X := fun ks _ _ _ st => match st with
  | (ls, .inl x :: .inr (.inr (k, j)) :: r, M) => bif Nat.beq k 65 then vp_in x (z_sN X j) ∧ ks (ls, zi (z_sv X j x.toNatClampNeg) :: r, M) else False
  | _ => False
def x_slen (X : z_Cx) : z_X := fun ks _ _ _ st => match st with
  | (ls, .inr (.inr (k, j)) :: r, M) => bif Nat.beq k 65 then ks (ls, zi (nI (z_sN X j)) :: r, M) else False
  | _ => False
theorem z_nk {k : Nat} {t : Nat × Nat × Nat × Nat × Nat} {g : Nat} (h : z_kd k = (g, t)) (hg : g < 3) : k < 64 := by
  rcases Nat.lt_or_ge k 64 with h1 | h1
  · exact h1
  · exfalso
    have e : ∀ n, n ≤ 63 → Nat.ble k n = false := by
      intro n hn
      cases hb : Nat.ble k n with
      | false => rfl
      | true => exact absurd (Nat.le_of_ble_eq_true hb) (by omega)
    have h2 : z_kd k = (3, 0, 0, 0, 0, 0) := by
      simp [z_kd, e]
    rw [h2] at h
    have := congrArg Prod.fst h
    simp at this
    omega
theorem z_pa {X : z_Cx} {M : z_M} {k i t0 n a b c : Nat} (hkd : z_kd k = (1, t0, n, a, b, c)) (hi : i < z_cnt k) : ∃ q0 : Nat, z_pl[q0]? = some (k, i) ∧ (z_w X M)[q0]? = some (X.2.2.1 k i, Sum.inl (X.2.2.2.1 t0, n, Sum.inl (M.1 k i))) := by
  obtain ⟨q0, hq⟩ := z_pl_at (z_pl_mem (z_nk hkd (by decide)) hi)
  exact ⟨q0, hq, by rw [z_w_at hq, z_en_p hkd]⟩
theorem z_pset {X : z_Cx} {M : z_M} {k i t0 n a b c q0 j : Nat} {v : Int32} (hkd : z_kd k = (1, t0, n, a, b, c)) (hq : z_pl[q0]? = some (k, i)) : (z_w X M).set q0 (X.2.2.1 k i, .inl (X.2.2.2.1 t0, n, .inl (upd (M.1 k i) j v))) = z_w X (z_s M k i j v) := by
  have h := z_w_set (X := X) (M := M) (M' := z_s M k i j v) hq (fun r hr hne => z_en_congr (z_s_ne hne) rfl rfl)
  rw [z_en_p hkd, z_s_at] at h
  exact h
theorem s_iald {X : z_Cx} {D : Nat} {q : z_MI} {pc : Nat} (hd : decode q.2.1 pc = .ok (.iaload, 1)) : z_Sd X D q pc (pc + 1) x_iald := by
  intro ks kj R st h hs hj p e s m args below meth c Rm cells slots Q C0 H locs la I
  rcases st with ⟨ls, _ | ⟨x | x | x, _ | ⟨y | y | ⟨k, i⟩, r⟩⟩, M⟩ <;> first | exact False.elim h | skip
  unfold x_iald at h
  simp only at h
  cases hkd : z_kd k with
  | mk tg t =>
    obtain ⟨t0, n, a, b, c2⟩ := t
    rw [hkd] at h
    simp only at h
    cases hb : (Nat.beq tg 1 && Nat.beq t0 0) with
    | false => rw [hb] at h; exact False.elim h
    | true =>
      rw [hb] at h
      obtain ⟨hb1, hb2⟩ := Bool.and_eq_true_iff.mp hb
      have e1 := Nat.eq_of_beq_eq_true hb1
      have e2 := Nat.eq_of_beq_eq_true hb2
      subst e1
      subst e2
      obtain ⟨q0, hq, he⟩ := z_pa (X := X) (M := M) hkd I.2.1.2.1
      exact va_iald C0.1 C0.2.1 C0.2.2.2.2.2.1 I.2.2.1 q0 0 he rfl h.1 hd (hs _ h.2 p e s m args below meth c Rm cells slots Q C0 H locs la ⟨I.1, ⟨trivial, I.2.1.2.2⟩, I.2.2⟩)
theorem s_bald {X : z_Cx} {D : Nat} {q : z_MI} {pc : Nat} (hd : decode q.2.1 pc = .ok (.baload, 1)) : z_Sd X D q pc (pc + 1) x_bald := by
  intro ks kj R st h hs hj p e s m args below meth c Rm cells slots Q C0 H locs la I
  rcases st with ⟨ls, _ | ⟨x | x | x, _ | ⟨y | y | ⟨k, i⟩, r⟩⟩, M⟩ <;> first | exact False.elim h | skip
  unfold x_bald at h
  simp only at h
  cases hkd : z_kd k with
  | mk tg t =>
    obtain ⟨t0, n, a, b, c2⟩ := t
    rw [hkd] at h
    simp only at h
    cases hb : (Nat.beq tg 1 && Nat.beq t0 1) with
    | false => rw [hb] at h; exact False.elim h
    | true =>
      rw [hb] at h
      obtain ⟨hb1, hb2⟩ := Bool.and_eq_true_iff.mp hb
      have e1 := Nat.eq_of_beq_eq_true hb1
      have e2 := Nat.eq_of_beq_eq_true hb2
      subst e1
      subst e2
      obtain ⟨q0, hq, he⟩ := z_pa (X := X) (M := M) hkd I.2.1.2.1
      exact va_bald C0.1 C0.2.1 C0.2.2.2.2.2.1 I.2.2.1 q0 1 he rfl h.1 hd (hs _ h.2 p e s m args below meth c Rm cells slots Q C0 H locs la ⟨I.1, ⟨trivial, I.2.1.2.2⟩, I.2.2⟩)
theorem s_zald {X : z_Cx} {D : Nat} {q : z_MI} {pc : Nat} (hd : decode q.2.1 pc = .ok (.baload, 1)) : z_Sd X D q pc (pc + 1) x_zald := by
  intro ks kj R st h hs hj p e s m args below meth c Rm cells slots Q C0 H locs la I
  rcases st with ⟨ls, _ | ⟨x | x | x, _ | ⟨y | y | ⟨k, i⟩, r⟩⟩, M⟩ <;> first | exact False.elim h | skip
  unfold x_zald at h
  simp only at h
  cases hkd : z_kd k with
  | mk tg t =>
    obtain ⟨t0, n, a, b, c2⟩ := t
    rw [hkd] at h
    simp only at h
    cases hb : (Nat.beq tg 1 && Nat.beq t0 2) with
    | false => rw [hb] at h; exact False.elim h
    | true =>
      rw [hb] at h
      obtain ⟨hb1, hb2⟩ := Bool.and_eq_true_iff.mp hb
      have e1 := Nat.eq_of_beq_eq_true hb1
      have e2 := Nat.eq_of_beq_eq_true hb2
      subst e1
      subst e2
      obtain ⟨q0, hq, he⟩ := z_pa (X := X) (M := M) hkd I.2.1.2.1
      exact va_zald C0.1 C0.2.1 C0.2.2.2.2.2.1 I.2.2.1 q0 2 he rfl h.1 hd (hs _ h.2 p e s m args below meth c Rm cells slots Q C0 H locs la ⟨I.1, ⟨trivial, I.2.1.2.2⟩, I.2.2⟩)
theorem s_iast {X : z_Cx} {D : Nat} {q : z_MI} {pc : Nat} (hd : decode q.2.1 pc = .ok (.iastore, 1)) : z_Sd X D q pc (pc + 1) x_iast := by
  intro ks kj R st h hs hj p e s m args below meth c Rm cells slots Q C0 H locs la I
  rcases st with ⟨ls, _ | ⟨v | v | v, _ | ⟨x | x | x, _ | ⟨y | y | ⟨k, i⟩, r⟩⟩⟩, M⟩ <;> first | exact False.elim h | skip
  unfold x_iast at h
  simp only at h
  cases hkd : z_kd k with
  | mk tg t =>
    obtain ⟨t0, n, a, b, c2⟩ := t
    rw [hkd] at h
    simp only at h
    cases hb : (Nat.beq tg 1 && Nat.beq t0 0) with
    | false => rw [hb] at h; exact False.elim h
    | true =>
      rw [hb] at h
      obtain ⟨hb1, hb2⟩ := Bool.and_eq_true_iff.mp hb
      have e1 := Nat.eq_of_beq_eq_true hb1
      have e2 := Nat.eq_of_beq_eq_true hb2
      subst e1
      subst e2
      obtain ⟨q0, hq, he⟩ := z_pa (X := X) (M := M) hkd I.2.1.2.2.1
      exact va_iast C0.1 C0.2.1 C0.2.2.2.2.2.1 I.2.2.1 (z_w_D C0.2.2.2.2.2.2.2.1) I.2.2.2.1 q0 0 he rfl h.1 hd (fun H1 locs1 hP1 _ hS1 => hs _ h.2 p e s m args below meth c Rm cells slots Q C0 H1 locs1 la ⟨I.1, I.2.1.2.2.2, by rw [z_pset hkd hq] at hP1; exact hP1, hS1, I.2.2.2.2⟩)
theorem s_bast {X : z_Cx} {D : Nat} {q : z_MI} {pc : Nat} (hd : decode q.2.1 pc = .ok (.bastore, 1)) : z_Sd X D q pc (pc + 1) x_bast := by
  intro ks kj R st h hs hj p e s m args below meth c Rm cells slots Q C0 H locs la I
  rcases st with ⟨ls, _ | ⟨v | v | v, _ | ⟨x | x | x, _ | ⟨y | y | ⟨k, i⟩, r⟩⟩⟩, M⟩ <;> first | exact False.elim h | skip
  unfold x_bast at h
  simp only at h
  cases hkd : z_kd k with
  | mk tg t =>
    obtain ⟨t0, n, a, b, c2⟩ := t
    rw [hkd] at h
    simp only at h
    cases hb : (Nat.beq tg 1 && Nat.beq t0 1) with
    | false => rw [hb] at h; exact False.elim h
    | true =>
      rw [hb] at h
      obtain ⟨hb1, hb2⟩ := Bool.and_eq_true_iff.mp hb
      have e1 := Nat.eq_of_beq_eq_true hb1
      have e2 := Nat.eq_of_beq_eq_true hb2
      subst e1
      subst e2
      obtain ⟨q0, hq, he⟩ := z_pa (X := X) (M := M) hkd I.2.1.2.2.1
      exact va_bast C0.1 C0.2.1 C0.2.2.2.2.2.1 I.2.2.1 (z_w_D C0.2.2.2.2.2.2.2.1) I.2.2.2.1 q0 1 he rfl h.1 hd (fun H1 locs1 hP1 _ hS1 => hs _ h.2 p e s m args below meth c Rm cells slots Q C0 H1 locs1 la ⟨I.1, I.2.1.2.2.2, by rw [z_pset hkd hq] at hP1; exact hP1, hS1, I.2.2.2.2⟩)
theorem z_nz {v : Int32} (h : v = 0 ∨ v = 1) : vp_nar .boolean v = v := by rcases h with e | e <;> rw [e] <;> rfl
theorem s_zast {X : z_Cx} {D : Nat} {q : z_MI} {pc : Nat} (hd : decode q.2.1 pc = .ok (.bastore, 1)) : z_Sd X D q pc (pc + 1) x_zast := by
  intro ks kj R st h hs hj p e s m args below meth c Rm cells slots Q C0 H locs la I
  rcases st with ⟨ls, _ | ⟨v | v | v, _ | ⟨x | x | x, _ | ⟨y | y | ⟨k, i⟩, r⟩⟩⟩, M⟩ <;> first | exact False.elim h | skip
  unfold x_zast at h
  simp only at h
  cases hkd : z_kd k with
  | mk tg t =>
    obtain ⟨t0, n, a, b, c2⟩ := t
    rw [hkd] at h
    simp only at h
    cases hb : (Nat.beq tg 1 && Nat.beq t0 2) with
    | false => rw [hb] at h; exact False.elim h
    | true =>
      rw [hb] at h
      obtain ⟨hb1, hb2⟩ := Bool.and_eq_true_iff.mp hb
      have e1 := Nat.eq_of_beq_eq_true hb1
      have e2 := Nat.eq_of_beq_eq_true hb2
      subst e1
      subst e2
      obtain ⟨q0, hq, he⟩ := z_pa (X := X) (M := M) hkd I.2.1.2.2.1
      exact va_zast C0.1 C0.2.1 C0.2.2.2.2.2.1 I.2.2.1 (z_w_D C0.2.2.2.2.2.2.2.1) I.2.2.2.1 q0 2 he rfl h.1 hd (fun H1 locs1 hP1 _ hS1 => hs _ h.2.2 p e s m args below meth c Rm cells slots Q C0 H1 locs1 la ⟨I.1, I.2.1.2.2.2, by rw [z_nz h.2.1, z_pset hkd hq] at hP1; exact hP1, hS1, I.2.2.2.2⟩)
theorem s_alen {X : z_Cx} {D : Nat} {q : z_MI} {pc : Nat} (hd : decode q.2.1 pc = .ok (.arraylength, 1)) : z_Sd X D q pc (pc + 1) x_alen := by
  intro ks kj R st h hs hj p e s m args below meth c Rm cells slots Q C0 H locs la I
  rcases st with ⟨ls, _ | ⟨x | x | ⟨k, i⟩, r⟩, M⟩ <;> first | exact False.elim h | skip
  unfold x_alen at h
  simp only at h
  cases hkd : z_kd k with
  | mk tg t =>
    obtain ⟨t0, n, a, b, c2⟩ := t
    rw [hkd] at h
    simp only at h
    cases hb : (Nat.beq tg 1 && Nat.beq t0 0) with
    | false => rw [hb] at h; exact False.elim h
    | true =>
      rw [hb] at h
      obtain ⟨hb1, hb2⟩ := Bool.and_eq_true_iff.mp hb
      have e1 := Nat.eq_of_beq_eq_true hb1
      have e2 := Nat.eq_of_beq_eq_true hb2
      subst e1
      subst e2
      obtain ⟨q0, hq, he⟩ := z_pa (X := X) (M := M) hkd I.2.1.1
      exact va_alen C0.1 C0.2.1 C0.2.2.2.2.2.1 I.2.2.1 q0 0 he (ty := .int) rfl rfl hd (hs _ h p e s m args below meth c Rm cells slots Q C0 H locs la ⟨I.1, ⟨trivial, I.2.1.2⟩, I.2.2⟩)
theorem s_gst {X : z_Cx} {D : Nat} {q : z_MI} {pc j idx : Nat} (hj4 : j < 4) (hlink : Cond.fieldLink q.1.cls idx (z_sd j).1 (z_sd j).2.1 "[I" ∈ z_U) (hd : decode q.2.1 pc = .ok (.getstatic idx, 3)) : z_Sd X D q pc (pc + 3) (x_gst j) := by
  intro ks kj R st h hs hj p e s m args below meth c Rm cells slots Q C0 H locs la I
  exact va_gets C0.1 C0.2.1 (C0.2.2.2.2.2.2.1.1 j hj4) I.2.2.2.1 C0.2.2.2.1 (C0.2.2.2.2.1 _ hlink) (fun _ h9 => h9) hd (hs _ h p e s m args below meth c Rm cells slots Q C0 H locs la ⟨I.1, ⟨(show j < z_cnt 65 from Nat.lt_of_lt_of_le hj4 (by decide)), I.2.1⟩, I.2.2⟩)
theorem s_sald {X : z_Cx} {D : Nat} {q : z_MI} {pc : Nat} (hd : decode q.2.1 pc = .ok (.iaload, 1)) : z_Sd X D q pc (pc + 1) (x_sald X) := by
  intro ks kj R st h hs hj p e s m args below meth c Rm cells slots Q C0 H locs la I
  rcases st with ⟨ls, _ | ⟨x | x | x, _ | ⟨y | y | ⟨k, j⟩, r⟩⟩, M⟩ <;> first | exact False.elim h | skip
  unfold x_sald at h
  simp only at h
  cases hb : Nat.beq k 65 with
  | false => rw [hb] at h; exact False.elim h
  | true =>
    rw [hb] at h
    have e1 := Nat.eq_of_beq_eq_true hb
    subst e1
    have hj5 : j < 5 := I.2.1.2.1
    exact va_ti C0.1 C0.2.1 (C0.2.2.2.2.2.2.1.2 j hj5) I.2.2.2.1 h.1 rfl hd (hs _ h.2 p e s m args below meth c Rm cells slots Q C0 H locs la ⟨I.1, ⟨trivial, I.2.1.2.2⟩, I.2.2⟩)
theorem s_slen {X : z_Cx} {D : Nat} {q : z_MI} {pc : Nat} (hd : decode q.2.1 pc = .ok (.arraylength, 1)) : z_Sd X D q pc (pc + 1) (x_slen X) := by
  intro ks kj R st h hs hj p e s m args below meth c Rm cells slots Q C0 H locs la I
  rcases st with ⟨ls, _ | ⟨x | x | ⟨k, j⟩, r⟩, M⟩ <;> first | exact False.elim h | skip
  unfold x_slen at h
  simp only at h
  cases hb : Nat.beq k 65 with
  | false => rw [hb] at h; exact False.elim h
  | true =>
    rw [hb] at h
    have e1 := Nat.eq_of_beq_eq_true hb
    subst e1
    have hj5 : j < 5 := I.2.1.1
    exact va_tlen C0.1 C0.2.1 (C0.2.2.2.2.2.2.1.2 j hj5) I.2.2.2.1 rfl hd (hs _ h p e s m args below meth c Rm cells slots Q C0 H locs la ⟨I.1, ⟨trivial, I.2.1.2⟩, I.2.2⟩)
theorem z_aa {X : z_Cx} {D : Nat} {q : z_MI} {R : Int32 → z_M → Prop} {p : Program} {e : Env} {s : State} {m : MethodId} {args : Array Value} {below : List Frame} {meth : Method} {c : Code} {Rm : Room} {cells slots : Nat} {Q : State → Prop}
    (C0 : z_MC X D q R p e s m args below meth c Rm cells slots Q) {k i t0 n a b c2 pc : Nat} (hkd : z_kd k = (2, t0, n, a, b, c2)) (ht : 3 ≤ t0 ∧ t0 < 8) (hi : i < z_cnt k) (hd : decode q.2.1 pc = .ok (.aaload, 1)) {M : z_M} {H : Heap} {locs : List Loc} {la : Array Slot} {rest : List Value} {x : Int32} (hin : vp_in x n) (hP : va_P X.2.1 vwCl (z_w X M) H)
    (kk : W p X.1 e Rm s m args below meth c H locs cells slots Q (F0 m (pc + 1) la (.ref (X.2.2.1 a (b * i + c2 + x.toNatClampNeg)) :: rest))) : W p X.1 e Rm s m args below meth c H locs cells slots Q (F0 m pc la (.int x :: .ref (X.2.2.1 k i) :: rest)) := by
  obtain ⟨q0, hq⟩ := z_pl_at (z_pl_mem (z_nk hkd (by decide)) hi)
  have he : (z_w X M)[q0]? = _ := (z_w_at hq).trans (congrArg some (z_en_r hkd))
  have hK := C0.2.2.2.2.2.1
  have hlt : x.toNatClampNeg < n := Nat.not_le.mp fun q => hin (Or.inr q)
  have key : ∀ (ty : FieldType), (z_ty X.2.2.2.1)[t0]? = some (X.2.2.2.1 t0, ty) → ty.isReference = true → W p X.1 e Rm s m args below meth c H locs cells slots Q (F0 m pc la (.int x :: .ref (X.2.2.1 k i) :: rest)) := by
    intro ty hty hrf
    exact W.aald (v := .ref (X.2.2.1 a (b * i + c2 + x.toNatClampNeg))) (ty := ty) C0.1 C0.2.1 (hP q0 _ he) ((hK.2 t0 _ hty).1 n (fun j => va_rf (some (X.2.2.1 a (b * i + c2 + j))))) hrf (fun q => by cases q) (by show ¬ (x < 0 ∨ (arrV _ _ _).slots.size ≤ _); rw [arrV_size]; exact hin) (by show (arrV _ _ _).slots[_]? = _; rw [arrV_read _ _ hlt]; rfl) rfl rfl hd kk
  rcases (show t0 = 3 ∨ t0 = 4 ∨ t0 = 5 ∨ t0 = 6 ∨ t0 = 7 by omega) with e | e | e | e | e <;> subst e <;> exact key _ rfl rfl
/-- the arrays of places: their rows are places -/
theorem z_aaT : ∀ k, k < 64 → (z_kd k).1 = 2 → 3 ≤ (z_kd k).2.1 ∧ (z_kd k).2.1 < 8 ∧ ((z_kd k).2.2.2.2.1 * (z_cnt k - 1) + (z_kd k).2.2.2.2.2 + (z_kd k).2.2.1 ≤ z_cnt (z_kd k).2.2.2.1) := by decide +kernel
theorem s_aald {X : z_Cx} {D : Nat} {q : z_MI} {pc : Nat} (hd : decode q.2.1 pc = .ok (.aaload, 1)) : z_Sd X D q pc (pc + 1) x_aald := by
  intro ks kj R st h hs hj p e s m args below meth c Rm cells slots Q C0 H locs la I
  rcases st with ⟨ls, _ | ⟨x | x | x, _ | ⟨y | y | ⟨k, i⟩, r⟩⟩, M⟩ <;> first | exact False.elim h | skip
  unfold x_aald at h
  simp only at h
  cases hkd : z_kd k with
  | mk tg t =>
    obtain ⟨t0, n, a, b, c2⟩ := t
    rw [hkd] at h
    simp only at h
    cases hb : (Nat.beq tg 2) with
    | false => rw [hb] at h; exact False.elim h
    | true =>
      rw [hb] at h
      have e1 := Nat.eq_of_beq_eq_true hb
      subst e1
      obtain ⟨hin, h⟩ := h
      have hT := z_aaT k (z_nk hkd (by decide)) (by rw [hkd])
      rw [hkd] at hT
      obtain ⟨ht1, ht2, ht3⟩ := hT
      simp only at ht1 ht2 ht3
      have hi : i < z_cnt k := I.2.1.2.1
      have hlt : x.toNatClampNeg < n := Nat.not_le.mp fun q => hin (Or.inr q)
      have hok : b * i + c2 + x.toNatClampNeg < z_cnt a := by
        have : b * i ≤ b * (z_cnt k - 1) := Nat.mul_le_mul_left b (by omega)
        omega
      refine z_aa C0 hkd ⟨ht1, ht2⟩ hi hd hin I.2.2.1 ?_
      have go : ∀ v, v = b * i + c2 + x.toNatClampNeg → ks (ls, zr a v :: r, M) → W p X.1 e Rm s m args below meth c H locs cells slots Q (F0 m (pc + 1) la (.ref (X.2.2.1 a (b * i + c2 + x.toNatClampNeg)) :: z_cs X r)) := by
        intro v hv hk
        rw [← hv]
        exact hs _ hk p e s m args below meth c Rm cells slots Q C0 H locs la ⟨I.1, ⟨by show v < z_cnt a; rw [hv]; exact hok, I.2.1.2.2⟩, I.2.2⟩
      cases hb0 : Nat.beq b 0 with
      | true =>
        rw [hb0] at h
        have e0 := Nat.eq_of_beq_eq_true hb0
        cases hc0 : Nat.beq c2 0 with
        | true =>
          rw [hc0] at h
          have e2 := Nat.eq_of_beq_eq_true hc0
          exact go x.toNatClampNeg (by rw [e0, e2]; omega) h
        | false =>
          rw [hc0] at h
          exact go (x.toNatClampNeg + c2) (by rw [e0]; omega) h
      | false =>
        rw [hb0] at h
        cases hc0 : Nat.beq c2 0 with
        | true =>
          rw [hc0] at h
          have e2 := Nat.eq_of_beq_eq_true hc0
          exact go (x.toNatClampNeg + b * i) (by rw [e2]; omega) h
        | false => rw [hc0] at h; exact False.elim h
end
section
/-! ===== calls ===== -/
def x_vi (q' : z_MI) (n kc : Nat) : z_X := fun ks _ _ C st => match st with
  | (ls, stk, M) => match z_pop (n + 1) stk [] with
    | some (.inr (.inr (k, i)) :: as, r) => bif (Nat.beq k kc && Nat.ble (z_wd r) 8) then C q' (zr k i :: as) M (fun v M' => ks (ls, zi v :: r, M')) else False
    | _ => False
def x_vv (q' : z_MI) (n kc : Nat) : z_X := fun ks _ _ C st => match st with
  | (ls, stk, M) => match z_pop (n + 1) stk [] with
    | some (.inr (.inr (k, i)) :: as, r) => bif (Nat.beq k kc && Nat.ble (z_wd r) 8) then C q' (zr k i :: as) M (fun _ M' => ks (ls, r, M')) else False
    | _ => False
def x_si (q' : z_MI) (n : Nat) : z_X := fun ks _ _ C st => match st with
  | (ls, stk, M) => match z_pop n stk [] with
    | some (as, r) => bif (Nat.ble (z_wd r) 8) then C q' as M (fun v M' => ks (ls, zi v :: r, M')) else False
    | none => False
def x_sv (q' : z_MI) (n : Nat) : z_X := fun ks _ _ C st => match st with
  | (ls, stk, M) => match z_pop n stk [] with
    | some (as, r) => bif (Nat.ble (z_wd r) 8) then C q' as M (fun _ M' => ks (ls, r, M')) else False
    | none => False
theorem z_Qs {X : z_Cx} {rt : Option FieldType} {S : Int32 → z_M → Prop} {ty : FieldType} (h : rt = some ty) : z_Q X rt S = va_Qi (fun (r : Int32) (M' : z_M) => S r M') (fun M' t => va_P X.2.1 vwCl (z_w X M') t.heap) (z_A X) := by rw [h]; rfl
theorem z_Qn {X : z_Cx} {rt : Option FieldType} {S : Int32 → z_M → Prop} (h : rt = none) : z_Q X rt S = va_Qv (fun M' : z_M => S 0 M') (fun M' t => va_P X.2.1 vwCl (z_w X M') t.heap) (z_A X) := by rw [h]; rfl
theorem z_blind {X : z_Cx} {as : List z_V} {M : z_M} : FrameBlind (z_Pc X as M) := fun a U g mk q => by
  obtain ⟨h1, h2, h3, h4, h5⟩ := q
  exact ⟨h1, h2, va_K.moved (u := U) (U := U.calling g mk a) (Vm.Alike.refl U.vm) h3, z_SF.moved (u := U) (U := U.calling g mk a) (Vm.Alike.refl U.vm) h4, h5⟩
theorem z_pre {X : z_Cx} {D : Nat} {q : z_MI} {R : Int32 → z_M → Prop} {p : Program} {e : Env} {s : State} {m : MethodId} {args : Array Value} {below : List Frame} {meth : Method} {c : Code} {Rm : Room} {cells slots : Nat} {Q : State → Prop}
    (C0 : z_MC X D q R p e s m args below meth c Rm cells slots Q) {M : z_M} {as : List z_V} {H : Heap} {locs : List Loc} (hP : va_P X.2.1 vwCl (z_w X M) H) (hS : va_S (z_A X) s.heap H locs) : PreS s H (z_Pc X as M) (z_cs X as) :=
  ⟨z_blind, fun U hU hW => ⟨rfl, by rw [hU]; exact hP, va_K.moved hW.alike C0.2.2.2.2.2.1, by rw [hU]; exact (C0.2.2.2.2.2.2.1.kept hS.2.1).moved hW.alike, C0.2.2.2.2.2.2.2.1⟩⟩
theorem z_room {X : z_Cx} {D : Nat} {q : z_MI} {R : Int32 → z_M → Prop} {p : Program} {e : Env} {s : State} {m : MethodId} {args : Array Value} {below : List Frame} {meth : Method} {c : Code} {Rm : Room} {cells slots : Nat} {Q : State → Prop}
    (C0 : z_MC X D q R p e s m args below meth c Rm cells slots Q) {d maxL : Nat} (hd : d < D) (hm : Nat.ble maxL 45 = true) : (z_rm d).frames + 1 ≤ Rm.frames ∧ 8 + (maxL + 11) + (z_rm d).locals ≤ Rm.locals := by
  obtain ⟨h1, h2, -, -⟩ := C0.2.2.2.2.2.2.2.2.1
  have h3 := Nat.le_of_ble_eq_true hm
  show d + 1 + 1 ≤ _ ∧ 8 + (maxL + 11) + 64 * (d + 1) ≤ _
  omega
/-- what a call row asks of the callee's words -/
def z_cw (q q' : z_MI) (idx n : Nat) : Prop := Cond.methodLink q.1.cls idx q'.1 ∈ z_U ∧ Cond.initialized q'.1.cls ∈ z_U ∧ Cond.code q'.1 q'.2.1 q'.2.2.1 q'.2.2.2 ∈ z_U ∧ (q'.1.cls ≠ "java/lang/invoke/MethodHandle" ∧ q'.1.cls ≠ "java/lang/invoke/VarHandle" ∧ (parseMethodDescriptor q'.1.desc).map (fun d => d.parameters.length) = some n) ∧ Nat.ble q'.2.2.1 45 = true
def z_cwN (q q' : z_MI) (idx n : Nat) (host : String) : Prop := Cond.methodLinkNest q.1.cls idx q'.1 host ∈ z_U ∧ Cond.initialized q'.1.cls ∈ z_U ∧ Cond.code q'.1 q'.2.1 q'.2.2.1 q'.2.2.2 ∈ z_U ∧ (q'.1.cls ≠ "java/lang/invoke/MethodHandle" ∧ q'.1.cls ≠ "java/lang/invoke/VarHandle" ∧ (parseMethodDescriptor q'.1.desc).map (fun d => d.parameters.length) = some n) ∧ Nat.ble q'.2.2.1 45 = true
theorem z_ws_in {q' : z_MI} (h : Cond.code q'.1 q'.2.1 q'.2.2.1 q'.2.2.2 ∈ z_U) : GoodIn z_U (z_ws q') := z_U_in (fun w hw => (List.mem_cons.mp hw).elim (fun e => e ▸ h) id)
theorem z_cb {X : z_Cx} {D : Nat} {q q' : z_MI} {R : Int32 → z_M → Prop} {p : Program} {e : Env} {s : State} {m : MethodId} {args : Array Value} {below : List Frame} {meth : Method} {c : Code} {Rm : Room} {cells slots : Nat} {Q : State → Prop}
    (C0 : z_MC X D q R p e s m args below meth c Rm cells slots Q) {idx n d : Nat} (h : z_cw q q' idx n) (hd : d < D) : CallB Rm s args q.1.cls idx q'.1 q'.2.1 q'.2.2.1 q'.2.2.2 (z_ws q') (z_rm d) 0 0 n := by
  obtain ⟨h1, h2, h3, h4, h5⟩ := h
  have hts := C0.2.2.2.2.1
  exact callB_of n hts (z_ws_in h3) rfl rfl rfl (hts _ h2) (hts _ h1) h4 (z_room C0 hd h5)
theorem z_cbN {X : z_Cx} {D : Nat} {q q' : z_MI} {R : Int32 → z_M → Prop} {p : Program} {e : Env} {s : State} {m : MethodId} {args : Array Value} {below : List Frame} {meth : Method} {c : Code} {Rm : Room} {cells slots : Nat} {Q : State → Prop}
    (C0 : z_MC X D q R p e s m args below meth c Rm cells slots Q) {idx n d : Nat} {host : String} (h : z_cwN q q' idx n host) (hd : d < D) : va_CN Rm s args q.1.cls idx q'.1 host q'.2.1 q'.2.2.1 q'.2.2.2 (z_ws q') (z_rm d) 0 0 n := by
  obtain ⟨h1, h2, h3, h4, h5⟩ := h
  have hts := C0.2.2.2.2.1
  exact va_cnB n hts (z_ws_in h3) rfl rfl rfl (hts _ h1) (hts _ h2) h4 (z_room C0 hd h5)
theorem z_cs_pop {X : z_Cx} {n : Nat} {st as r : List z_V} (h : z_pop n st [] = some (as, r)) : as.length = n ∧ z_cs X st = (z_cs X as).reverse ++ z_cs X r := by
  obtain ⟨b, e1, e2, e3⟩ := z_pop_spec h
  rw [List.append_nil] at e1
  subst e1
  exact ⟨e2, by rw [e3]; unfold z_cs; rw [List.map_append, List.map_reverse]⟩
theorem z_len {X : z_Cx} {as : List z_V} : (z_cs X as).length = as.length := List.length_map ..
/-- the receiver is of the class that the call names -/
theorem z_rc {X : z_Cx} {D : Nat} {q : z_MI} {R : Int32 → z_M → Prop} {p : Program} {e : Env} {s : State} {m : MethodId} {args : Array Value} {below : List Frame} {meth : Method} {c : Code} {Rm : Room} {cells slots : Nat} {Q : State → Prop}
    (C0 : z_MC X D q R p e s m args below meth c Rm cells slots Q) {k ci nf i : Nat} {C : String} {T : u_T} (hC : z_Cl k ci nf C T) {M : z_M} {H : Heap} (hi : i < z_cnt k) (hP : va_P X.2.1 vwCl (z_w X M) H) : ∃ cell : Cell, H[X.2.2.1 k i]? = some cell ∧ cell.vm.isStatics = false ∧ s.vm.findClass C = some cell.cls := by
  obtain ⟨h64, hkd, hcl, -⟩ := hC
  obtain ⟨q0, hq⟩ := z_pl_at (z_pl_mem h64 hi)
  have he := z_w_at (X := X) (M := M) hq
  rw [z_en_o hkd] at he
  exact va_recv C0.2.2.2.2.2.1 hP hcl he
section ZC
variable {X : z_Cx} {D : Nat} {q q' : z_MI} {pc idx n k ci nf : Nat} {T : u_T} {ty : FieldType} {host : String}
theorem z_vgo {ks : z_S → Prop} {ls : z_L} {stk : List z_V} {M : z_M} {C : z_C} {push : Int32 → List z_V → List z_V} {kc : Nat}
    (h : match z_pop (n + 1) stk [] with
      | some (.inr (.inr (k, i)) :: as, r) => bif (Nat.beq k kc && Nat.ble (z_wd r) 8) then C q' (zr k i :: as) M (fun v M' => ks (ls, push v r, M')) else False
      | _ => False) : ∃ (i : Nat) (as r : List z_V), z_pop (n + 1) stk [] = some (zr kc i :: as, r) ∧ z_wd r ≤ 8 ∧ C q' (zr kc i :: as) M (fun v M' => ks (ls, push v r, M')) := by
  revert h
  cases hp : z_pop (n + 1) stk [] with
  | none => exact fun h => False.elim h
  | some w =>
    obtain ⟨_ | ⟨v | v | ⟨k2, i⟩, as⟩, r⟩ := w
    · exact fun h => False.elim h
    · exact fun h => False.elim h
    · exact fun h => False.elim h
    · intro h
      cases hb : (Nat.beq k2 kc && Nat.ble (z_wd r) 8) with
      | false => simp only [hb] at h; exact False.elim h
      | true =>
        simp only [hb] at h
        obtain ⟨hb1, hb2⟩ := Bool.and_eq_true_iff.mp hb
        have e1 := Nat.eq_of_beq_eq_true hb1
        subst e1
        exact ⟨i, as, r, rfl, Nat.le_of_ble_eq_true hb2, h⟩
theorem z_sgo {ks : z_S → Prop} {ls : z_L} {stk : List z_V} {M : z_M} {C : z_C} {push : Int32 → List z_V → List z_V}
    (h : match z_pop n stk [] with
      | some (as, r) => bif (Nat.ble (z_wd r) 8) then C q' as M (fun v M' => ks (ls, push v r, M')) else False
      | none => False) : ∃ (as r : List z_V), z_pop n stk [] = some (as, r) ∧ z_wd r ≤ 8 ∧ C q' as M (fun v M' => ks (ls, push v r, M')) := by
  revert h
  cases hp : z_pop n stk [] with
  | none => exact fun h => False.elim h
  | some w =>
    obtain ⟨as, r⟩ := w
    intro h
    cases hb : (Nat.ble (z_wd r) 8) with
    | false => simp only [hb] at h; exact False.elim h
    | true =>
      simp only [hb] at h
      exact ⟨as, r, rfl, Nat.le_of_ble_eq_true hb, h⟩
theorem s_vi (hC : z_Cl k ci nf q'.1.cls T) (hw : z_cw q q' idx n) (hin : Cond.instanceMethod q'.1 ∈ z_U) (hsel : Cond.selects q'.1.cls q'.1 q'.1 ∈ z_U) (hrt : q'.2.2.2 = some ty) (hd : decode q.2.1 pc = .ok (.invokevirtual idx, 3)) : z_Sd X D q pc (pc + 3) (x_vi q' n k) := by
  intro ks kj R st h hs hj p e s m args below meth c Rm cells slots Q C0 H locs la I
  obtain ⟨ls, stk, M⟩ := st
  obtain ⟨i, as, r, hp, hwd, d, hdD, hcon⟩ := z_vgo (push := fun v r => zi v :: r) h
  obtain ⟨ho1, ho2⟩ := z_oks_pop hp I.2.1 trivial
  obtain ⟨hl1, hl2⟩ := z_cs_pop (X := X) hp
  have hM := hcon ho1
  rw [z_Qs hrt] at hM
  have hts := C0.2.2.2.2.1
  refine va_calli (va_runV (As := z_cs X as) (rest := z_cs X r) (C := q'.1.cls) ⟨C0.1, C0.2.1, C0.2.2.1, C0.2.2.2.1, hts⟩ hM ⟨z_cb C0 hw hdD, hts _ hin, hts _ hsel⟩ ⟨z_blind, z_rc C0 hC ho1.1 I.2.2.1, (z_pre C0 (as := zr k i :: as) I.2.2.1 I.2.2.2.1).2⟩ rfl (by rw [z_len]; simpa using hl1) I.2.2.2.2.1 ?_ (lv_room (by rw [z_wd_cs]; exact hwd)) hd ⟨C0.2.2.2.2.2.2.2.2.1.2.2.1, C0.2.2.2.2.2.2.2.2.1.2.2.2⟩) I.2.2.2.1 (fun _ _ h => h) (fun _ h => h) (fun v M' t H1 locs1 ht hvm hw2 hB hz hk hS1 => ?_)
  · show z_cs X stk = _
    rw [hl2]
    show (z_co X.2.2.1 (zr k i) :: z_cs X as).reverse ++ z_cs X r = _
    rw [List.reverse_cons, List.append_assoc]
    rfl
  · exact hs _ hw2 p e s m args below meth c Rm cells slots Q C0 H1 locs1 la ⟨I.1, ⟨trivial, ho2⟩, by rw [← ht]; exact hB, hS1, I.2.2.2.2⟩
theorem s_vv (hC : z_Cl k ci nf q'.1.cls T) (hw : z_cw q q' idx n) (hin : Cond.instanceMethod q'.1 ∈ z_U) (hsel : Cond.selects q'.1.cls q'.1 q'.1 ∈ z_U) (hrt : q'.2.2.2 = none) (hd : decode q.2.1 pc = .ok (.invokevirtual idx, 3)) : z_Sd X D q pc (pc + 3) (x_vv q' n k) := by
  intro ks kj R st h hs hj p e s m args below meth c Rm cells slots Q C0 H locs la I
  obtain ⟨ls, stk, M⟩ := st
  obtain ⟨i, as, r, hp, hwd, d, hdD, hcon⟩ := z_vgo (push := fun _ r => r) h
  obtain ⟨ho1, ho2⟩ := z_oks_pop hp I.2.1 trivial
  obtain ⟨hl1, hl2⟩ := z_cs_pop (X := X) hp
  have hM := hcon ho1
  rw [z_Qn hrt] at hM
  have hts := C0.2.2.2.2.1
  refine va_callv (va_runV (As := z_cs X as) (rest := z_cs X r) (C := q'.1.cls) ⟨C0.1, C0.2.1, C0.2.2.1, C0.2.2.2.1, hts⟩ hM ⟨z_cb C0 hw hdD, hts _ hin, hts _ hsel⟩ ⟨z_blind, z_rc C0 hC ho1.1 I.2.2.1, (z_pre C0 (as := zr k i :: as) I.2.2.1 I.2.2.2.1).2⟩ rfl (by rw [z_len]; simpa using hl1) I.2.2.2.2.1 ?_ (lv_room (by rw [z_wd_cs]; exact hwd)) hd ⟨C0.2.2.2.2.2.2.2.2.1.2.2.1, C0.2.2.2.2.2.2.2.2.1.2.2.2⟩) I.2.2.2.1 (fun _ _ h => h) (fun _ h => h) (fun M' t H1 locs1 ht hvm hw2 hB hz hk hS1 => ?_)
  · show z_cs X stk = _
    rw [hl2]
    show (z_co X.2.2.1 (zr k i) :: z_cs X as).reverse ++ z_cs X r = _
    rw [List.reverse_cons, List.append_assoc]
    rfl
  · exact hs _ hw2 p e s m args below meth c Rm cells slots Q C0 H1 locs1 la ⟨I.1, ho2, by rw [← ht]; exact hB, hS1, I.2.2.2.2⟩
theorem s_viN (hC : z_Cl k ci nf q'.1.cls T) (hw : z_cwN q q' idx n host) (hin : Cond.instanceMethod q'.1 ∈ z_U) (hsel : Cond.selects q'.1.cls q'.1 q'.1 ∈ z_U) (hrt : q'.2.2.2 = some ty) (hd : decode q.2.1 pc = .ok (.invokevirtual idx, 3)) : z_Sd X D q pc (pc + 3) (x_vi q' n k) := by
  intro ks kj R st h hs hj p e s m args below meth c Rm cells slots Q C0 H locs la I
  obtain ⟨ls, stk, M⟩ := st
  obtain ⟨i, as, r, hp, hwd, d, hdD, hcon⟩ := z_vgo (push := fun v r => zi v :: r) h
  obtain ⟨ho1, ho2⟩ := z_oks_pop hp I.2.1 trivial
  obtain ⟨hl1, hl2⟩ := z_cs_pop (X := X) hp
  have hM := hcon ho1
  rw [z_Qs hrt] at hM
  have hts := C0.2.2.2.2.1
  refine va_calli (va_runVN (As := z_cs X as) (rest := z_cs X r) (C := q'.1.cls) ⟨C0.1, C0.2.1, C0.2.2.1, C0.2.2.2.1, hts⟩ hM ⟨z_cbN C0 hw hdD, hts _ hin, hts _ hsel⟩ ⟨z_blind, z_rc C0 hC ho1.1 I.2.2.1, (z_pre C0 (as := zr k i :: as) I.2.2.1 I.2.2.2.1).2⟩ rfl (by rw [z_len]; simpa using hl1) I.2.2.2.2.1 ?_ (lv_room (by rw [z_wd_cs]; exact hwd)) hd ⟨C0.2.2.2.2.2.2.2.2.1.2.2.1, C0.2.2.2.2.2.2.2.2.1.2.2.2⟩) I.2.2.2.1 (fun _ _ h => h) (fun _ h => h) (fun v M' t H1 locs1 ht hvm hw2 hB hz hk hS1 => ?_)
  · show z_cs X stk = _
    rw [hl2]
    show (z_co X.2.2.1 (zr k i) :: z_cs X as).reverse ++ z_cs X r = _
    rw [List.reverse_cons, List.append_assoc]
    rfl
  · exact hs _ hw2 p e s m args below meth c Rm cells slots Q C0 H1 locs1 la ⟨I.1, ⟨trivial, ho2⟩, by rw [← ht]; exact hB, hS1, I.2.2.2.2⟩
theorem s_si (hw : z_cw q q' idx n) (hst : Cond.static q'.1 ∈ z_U) (hrt : q'.2.2.2 = some ty) (hd : decode q.2.1 pc = .ok (.invokestatic idx, 3)) : z_Sd X D q pc (pc + 3) (x_si q' n) := by
  intro ks kj R st h hs hj p e s m args below meth c Rm cells slots Q C0 H locs la I
  obtain ⟨ls, stk, M⟩ := st
  obtain ⟨as, r, hp, hwd, d, hdD, hcon⟩ := z_sgo (push := fun v r => zi v :: r) h
  obtain ⟨ho1, ho2⟩ := z_oks_pop hp I.2.1 trivial
  obtain ⟨hl1, hl2⟩ := z_cs_pop (X := X) hp
  have hM := hcon ho1
  rw [z_Qs hrt] at hM
  have hts := C0.2.2.2.2.1
  exact va_calli (va_runS (As := z_cs X as) (rest := z_cs X r) ⟨C0.1, C0.2.1, C0.2.2.1, C0.2.2.2.1, hts⟩ hM ⟨z_cb C0 hw hdD, hts _ hst⟩ (z_pre C0 (as := as) I.2.2.1 I.2.2.2.1) rfl (by rw [z_len]; exact hl1) I.2.2.2.2.1 hl2 (lv_room (by rw [z_wd_cs]; exact hwd)) hd ⟨C0.2.2.2.2.2.2.2.2.1.2.2.1, C0.2.2.2.2.2.2.2.2.1.2.2.2⟩) I.2.2.2.1 (fun _ _ h => h) (fun _ h => h) (fun v M' t H1 locs1 ht hvm hw2 hB hz hk hS1 => hs _ hw2 p e s m args below meth c Rm cells slots Q C0 H1 locs1 la ⟨I.1, ⟨trivial, ho2⟩, by rw [← ht]; exact hB, hS1, I.2.2.2.2⟩)
theorem s_sv (hw : z_cw q q' idx n) (hst : Cond.static q'.1 ∈ z_U) (hrt : q'.2.2.2 = none) (hd : decode q.2.1 pc = .ok (.invokestatic idx, 3)) : z_Sd X D q pc (pc + 3) (x_sv q' n) := by
  intro ks kj R st h hs hj p e s m args below meth c Rm cells slots Q C0 H locs la I
  obtain ⟨ls, stk, M⟩ := st
  obtain ⟨as, r, hp, hwd, d, hdD, hcon⟩ := z_sgo (push := fun _ r => r) h
  obtain ⟨ho1, ho2⟩ := z_oks_pop hp I.2.1 trivial
  obtain ⟨hl1, hl2⟩ := z_cs_pop (X := X) hp
  have hM := hcon ho1
  rw [z_Qn hrt] at hM
  have hts := C0.2.2.2.2.1
  exact va_callv (va_runS (As := z_cs X as) (rest := z_cs X r) ⟨C0.1, C0.2.1, C0.2.2.1, C0.2.2.2.1, hts⟩ hM ⟨z_cb C0 hw hdD, hts _ hst⟩ (z_pre C0 (as := as) I.2.2.1 I.2.2.2.1) rfl (by rw [z_len]; exact hl1) I.2.2.2.2.1 hl2 (lv_room (by rw [z_wd_cs]; exact hwd)) hd ⟨C0.2.2.2.2.2.2.2.2.1.2.2.1, C0.2.2.2.2.2.2.2.2.1.2.2.2⟩) I.2.2.2.1 (fun _ _ h => h) (fun _ h => h) (fun M' t H1 locs1 ht hvm hw2 hB hz hk hS1 => hs _ hw2 p e s m args below meth c Rm cells slots Q C0 H1 locs1 la ⟨I.1, ho2, by rw [← ht]; exact hB, hS1, I.2.2.2.2⟩)
theorem s_siN (hw : z_cwN q q' idx n host) (hst : Cond.static q'.1 ∈ z_U) (hrt : q'.2.2.2 = some ty) (hd : decode q.2.1 pc = .ok (.invokestatic idx, 3)) : z_Sd X D q pc (pc + 3) (x_si q' n) := by
  intro ks kj R st h hs hj p e s m args below meth c Rm cells slots Q C0 H locs la I
  obtain ⟨ls, stk, M⟩ := st
  obtain ⟨as, r, hp, hwd, d, hdD, hcon⟩ := z_sgo (push := fun v r => zi v :: r) h
  obtain ⟨ho1, ho2⟩ := z_oks_pop hp I.2.1 trivial
  obtain ⟨hl1, hl2⟩ := z_cs_pop (X := X) hp
  have hM := hcon ho1
  rw [z_Qs hrt] at hM
  have hts := C0.2.2.2.2.1
  exact va_calli (va_runSN (As := z_cs X as) (rest := z_cs X r) ⟨C0.1, C0.2.1, C0.2.2.1, C0.2.2.2.1, hts⟩ hM ⟨z_cbN C0 hw hdD, hts _ hst, trivial⟩ (z_pre C0 (as := as) I.2.2.1 I.2.2.2.1) rfl (by rw [z_len]; exact hl1) I.2.2.2.2.1 hl2 (lv_room (by rw [z_wd_cs]; exact hwd)) hd ⟨C0.2.2.2.2.2.2.2.2.1.2.2.1, C0.2.2.2.2.2.2.2.2.1.2.2.2⟩) I.2.2.2.1 (fun _ _ h => h) (fun _ h => h) (fun v M' t H1 locs1 ht hvm hw2 hB hz hk hS1 => hs _ hw2 p e s m args below meth c Rm cells slots Q C0 H1 locs1 la ⟨I.1, ⟨trivial, ho2⟩, by rw [← ht]; exact hB, hS1, I.2.2.2.2⟩)
end ZC
end
section
/-! ===== Math, System.arraycopy, switches, tables ===== -/
def x_min : z_X := fun ks _ _ _ st => match st with
  | (ls, .inl y :: .inl x :: r, M) => bif Nat.ble (z_wd r) 8 then ks (ls, zi (if y < x then y else x) :: r, M) else False
  | _ => False
def x_max : z_X := fun ks _ _ _ st => match st with
  | (ls, .inl y :: .inl x :: r, M) => bif Nat.ble (z_wd r) 8 then ks (ls, zi (if x < y then y else x) :: r, M) else False
  | _ => False
def x_abs : z_X := fun ks _ _ _ st => match st with
  | (ls, .inl x :: r, M) => bif Nat.ble (z_wd r) 8 then ks (ls, zi (if 0 ≤ x then x else 0 - x) :: r, M) else False
  | _ => False
def z_mw (q : z_MI) (idx : Nat) (y : MethodName) (b : ByteArray) (n : Nat) : Prop := Cond.methodLink q.1.cls idx y ∈ z_U ∧ Cond.static y ∈ z_U ∧ Cond.initialized "java/lang/Math" ∈ z_U ∧ Cond.code y b n (some .int) ∈ z_U
theorem s_min {X : z_Cx} {D : Nat} {q : z_MI} {pc idx : Nat} (hw : z_mw q idx Lib.Math.min.name Lib.Math.min.code 2) (hd : decode q.2.1 pc = .ok (.invokestatic idx, 3)) : z_Sd X D q pc (pc + 3) x_min := by
  intro ks kj R st h hs hj p e s m args below meth c Rm cells slots Q C0 H locs la I
  rcases st with ⟨ls, _ | ⟨y | y | y, _ | ⟨x | x | x, r⟩⟩, M⟩ <;> first | exact False.elim h | skip
  unfold x_min at h
  simp only at h
  cases hb : Nat.ble (z_wd r) 8 with
  | false => rw [hb] at h; exact False.elim h
  | true =>
    rw [hb] at h
    have hwd := Nat.le_of_ble_eq_true hb
    have hts := C0.2.2.2.2.1
    obtain ⟨r1, r2, r3, r4⟩ := C0.2.2.2.2.2.2.2.2.1
    exact va_mmin C0.1 C0.2.1 (by rw [C0.2.2.1]; exact I.2.2.2.2.1.symm) C0.2.2.2.1 (hts _ hw.1) (hts _ hw.2.1) (hts _ hw.2.2.1) (hts _ hw.2.2.2) (by omega) (by rw [show (List.map (fun v => v.category) (List.map (z_co X.2.2.1) r)).sum = z_wd r from z_wd_cs (X := X) r]; omega) r3 r4 hd (hs _ h p e s m args below meth c Rm cells slots Q C0 H locs la ⟨I.1, ⟨trivial, I.2.1.2.2⟩, I.2.2⟩)
theorem s_max {X : z_Cx} {D : Nat} {q : z_MI} {pc idx : Nat} (hw : z_mw q idx Lib.Math.max.name Lib.Math.max.code 2) (hd : decode q.2.1 pc = .ok (.invokestatic idx, 3)) : z_Sd X D q pc (pc + 3) x_max := by
  intro ks kj R st h hs hj p e s m args below meth c Rm cells slots Q C0 H locs la I
  rcases st with ⟨ls, _ | ⟨y | y | y, _ | ⟨x | x | x, r⟩⟩, M⟩ <;> first | exact False.elim h | skip
  unfold x_max at h
  simp only at h
  cases hb : Nat.ble (z_wd r) 8 with
  | false => rw [hb] at h; exact False.elim h
  | true =>
    rw [hb] at h
    have hwd := Nat.le_of_ble_eq_true hb
    have hts := C0.2.2.2.2.1
    obtain ⟨r1, r2, r3, r4⟩ := C0.2.2.2.2.2.2.2.2.1
    exact va_mmax C0.1 C0.2.1 (by rw [C0.2.2.1]; exact I.2.2.2.2.1.symm) C0.2.2.2.1 (hts _ hw.1) (hts _ hw.2.1) (hts _ hw.2.2.1) (hts _ hw.2.2.2) (by omega) (by rw [show (List.map (fun v => v.category) (List.map (z_co X.2.2.1) r)).sum = z_wd r from z_wd_cs (X := X) r]; omega) r3 r4 hd (hs _ h p e s m args below meth c Rm cells slots Q C0 H locs la ⟨I.1, ⟨trivial, I.2.1.2.2⟩, I.2.2⟩)
theorem s_abs {X : z_Cx} {D : Nat} {q : z_MI} {pc idx : Nat} (hw : z_mw q idx Lib.Math.abs.name Lib.Math.abs.code 1) (hd : decode q.2.1 pc = .ok (.invokestatic idx, 3)) : z_Sd X D q pc (pc + 3) x_abs := by
  intro ks kj R st h hs hj p e s m args below meth c Rm cells slots Q C0 H locs la I
  rcases st with ⟨ls, _ | ⟨x | x | x, r⟩, M⟩ <;> first | exact False.elim h | skip
  unfold x_abs at h
  simp only at h
  cases hb : Nat.ble (z_wd r) 8 with
  | false => rw [hb] at h; exact False.elim h
  | true =>
    rw [hb] at h
    have hwd := Nat.le_of_ble_eq_true hb
    have hts := C0.2.2.2.2.1
    obtain ⟨r1, r2, r3, r4⟩ := C0.2.2.2.2.2.2.2.2.1
    exact va_mabs C0.1 C0.2.1 (by rw [C0.2.2.1]; exact I.2.2.2.2.1.symm) C0.2.2.2.1 (hts _ hw.1) (hts _ hw.2.1) (hts _ hw.2.2.1) (hts _ hw.2.2.2) (by omega) (by rw [show (List.map (fun v => v.category) (List.map (z_co X.2.2.1) r)).sum = z_wd r from z_wd_cs (X := X) r]; omega) r3 r4 hd (hs _ h p e s m args below meth c Rm cells slots Q C0 H locs la ⟨I.1, ⟨trivial, I.2.1.2⟩, I.2.2⟩)
/-- a row of memory in place of another -/
def z_sr (M : z_M) (k i : Nat) (f : Nat → Int32) : z_M := (fun k' i' j' => if k' = k ∧ i' = i then f j' else M.1 k' i' j', M.2)
theorem z_sr_ne {M : z_M} {k i : Nat} {f : Nat → Int32} {q : Nat × Nat} (h : q ≠ (k, i)) : (z_sr M k i f).1 q.1 q.2 = M.1 q.1 q.2 := by
  funext x
  show (if q.1 = k ∧ q.2 = i then f x else M.1 q.1 q.2 x) = _
  rw [if_neg]
  rintro ⟨h1, h2⟩
  exact h (Prod.ext h1 h2)
theorem z_sr_at {M : z_M} {k i : Nat} {f : Nat → Int32} : (z_sr M k i f).1 k i = f := by
  funext x
  exact if_pos ⟨rfl, rfl⟩
theorem z_psetr {X : z_Cx} {M : z_M} {k i t0 n a b c q0 : Nat} {f : Nat → Int32} (hkd : z_kd k = (1, t0, n, a, b, c)) (hq : z_pl[q0]? = some (k, i)) : (z_w X M).set q0 (X.2.2.1 k i, .inl (X.2.2.2.1 t0, n, .inl f)) = z_w X (z_sr M k i f) := by
  have h := z_w_set (X := X) (M := M) (M' := z_sr M k i f) hq (fun r hr hne => z_en_congr (z_sr_ne hne) rfl rfl)
  rw [z_en_p hkd, z_sr_at] at h
  exact h
def x_cpy : z_X := fun ks _ _ _ st => match st with
  | (ls, .inl n :: .inl dp :: .inr (.inr (k1, i1)) :: .inl sp :: .inr (.inr (k0, i0)) :: r, M) => match z_kd k0 with
    | (tg0, t0, n0, _, _, _) => match z_kd k1 with
      | (tg1, t1, n1, _, _, _) => bif (Nat.beq tg0 1 && Nat.beq t0 0 && Nat.beq tg1 1 && Nat.beq t1 0 && Nat.ble (z_wd r) 8) then (¬ sp < 0 ∧ ¬ dp < 0 ∧ ¬ n < 0 ∧ sp.toNatClampNeg + n.toNatClampNeg ≤ n0 ∧ dp.toNatClampNeg + n.toNatClampNeg ≤ n1) ∧ ks (ls, r, z_sr M k1 i1 (va_cpy (M.1 k0 i0) (M.1 k1 i1) sp.toNatClampNeg dp.toNatClampNeg n.toNatClampNeg)) else False
  | _ => False
theorem s_cpy {X : z_Cx} {D : Nat} {q : z_MI} {pc idx : Nat} (hw : Cond.methodLink q.1.cls idx arraycopyName ∈ z_U ∧ Cond.native arraycopyName ∈ z_U ∧ Cond.static arraycopyName ∈ z_U ∧ Cond.initialized "java/lang/System" ∈ z_U) (hd : decode q.2.1 pc = .ok (.invokestatic idx, 3)) : z_Sd X D q pc (pc + 3) x_cpy := by
  intro ks kj R st h hs hj p e s m args below meth c Rm cells slots Q C0 H locs la I
  rcases st with ⟨ls, _ | ⟨n | n | n, _ | ⟨dp | dp | dp, _ | ⟨y | y | ⟨k1, i1⟩, _ | ⟨sp | sp | sp, _ | ⟨z | z | ⟨k0, i0⟩, r⟩⟩⟩⟩⟩, M⟩ <;> first | exact False.elim h | skip
  unfold x_cpy at h
  simp only at h
  cases hkd0 : z_kd k0 with
  | mk tg0 t0 =>
    obtain ⟨t0, n0, a0, b0, c0⟩ := t0
    cases hkd1 : z_kd k1 with
    | mk tg1 t1 =>
      obtain ⟨t1, n1, a1, b1, c1⟩ := t1
      rw [hkd0, hkd1] at h
      simp only at h
      cases hb : (Nat.beq tg0 1 && Nat.beq t0 0 && Nat.beq tg1 1 && Nat.beq t1 0 && Nat.ble (z_wd r) 8) with
      | false => rw [hb] at h; exact False.elim h
      | true =>
        rw [hb] at h
        simp only [Bool.and_eq_true] at hb
        obtain ⟨⟨⟨⟨g1, g2⟩, g3⟩, g4⟩, g5⟩ := hb
        have e1 := Nat.eq_of_beq_eq_true g1
        have e2 := Nat.eq_of_beq_eq_true g2
        have e3 := Nat.eq_of_beq_eq_true g3
        have e4 := Nat.eq_of_beq_eq_true g4
        have hwd := Nat.le_of_ble_eq_true g5
        subst e1 e2 e3 e4
        have hts := C0.2.2.2.2.1
        obtain ⟨r1, r2, r3, r4⟩ := C0.2.2.2.2.2.2.2.2.1
        obtain ⟨⟨v1, v2, v3, v4, v5⟩, h⟩ := h
        obtain ⟨q0, hq0, he0⟩ := z_pa (X := X) (M := M) hkd0 I.2.1.2.2.2.2.1
        obtain ⟨q1, hq1, he1⟩ := z_pa (X := X) (M := M) hkd1 I.2.1.2.2.1
        exact va_copyi C0.1 C0.2.1 (by rw [C0.2.2.1]; exact I.2.2.2.2.1.symm) C0.2.2.2.1 (hts _ hw.1) (hts _ hw.2.1) (hts _ hw.2.2.1) (hts _ hw.2.2.2) C0.2.2.2.2.2.1 I.2.2.1 (z_w_D C0.2.2.2.2.2.2.2.1) I.2.2.2.1 q0 q1 0 0 he0 he1 (ty := .int) rfl rfl rfl v1 v2 v3 v4 v5 (fun _ _ => rfl) (by omega) (by rw [show (List.map (fun v => v.category) (List.map (z_co X.2.2.1) r)).sum = z_wd r from z_wd_cs (X := X) r]; show z_wd r + (7 + 11) ≤ _; omega) hd (fun H1 locs1 hP1 _ hS1 => hs _ h p e s m args below meth c Rm cells slots Q C0 H1 locs1 la ⟨I.1, I.2.1.2.2.2.2.2, by rw [z_psetr hkd1 hq1] at hP1; exact hP1, hS1, I.2.2.2.2⟩)
/-- a switch over a table -/
def z_sw (kj : Nat → z_S → Prop) (x : Int32) (dflt : Nat) (st : z_S) : List (Int32 × Nat) → Prop
  | [] => kj dflt st
  | q :: r => (x = q.1 → kj q.2 st) ∧ (¬ x = q.1 → z_sw kj x dflt st r)
def x_tsw (cs : List (Int32 × Nat)) (dflt : Nat) : z_X := fun _ kj _ _ st => match st with
  | (ls, .inl x :: r, M) => z_sw kj x dflt (ls, r, M) cs
  | _ => False
theorem z_sw_in {kj : Nat → z_S → Prop} {x : Int32} {dflt : Nat} {st : z_S} : ∀ {cs : List (Int32 × Nat)}, z_sw kj x dflt st cs → (∃ t, (x, t) ∈ cs ∧ kj t st) ∨ ((∀ q ∈ cs, ¬ x = q.1) ∧ kj dflt st) := by
  intro cs
  induction cs with
  | nil => exact fun h => Or.inr ⟨fun q hq => (by cases hq), h⟩
  | cons q r ih =>
    intro h
    by_cases e : x = q.1
    · exact Or.inl ⟨q.2, by rw [e]; exact List.mem_cons_self, h.1 e⟩
    · rcases ih (h.2 e) with ⟨t, h1, h2⟩ | ⟨h1, h2⟩
      · exact Or.inl ⟨t, List.mem_cons_of_mem _ h1, h2⟩
      · exact Or.inr ⟨fun a ha => (List.mem_cons.mp ha).elim (fun w => w ▸ e) (h1 a), h2⟩
theorem s_tsw {X : z_Cx} {D : Nat} {q : z_MI} {pc len : Nat} {d lo hi : Int} {offs : Array Int} {cs : List (Int32 × Nat)} {dflt : Nat} (hd : decode q.2.1 pc = .ok (.tableswitch d lo hi offs, len)) (hdf : (pc : Int) + d = (dflt : Int))
    (hcs : ∀ a ∈ cs, lo ≤ a.1.toInt ∧ a.1.toInt ≤ hi ∧ (offs[(a.1.toInt - lo).toNat]?).map (fun o => (pc : Int) + o) = some (a.2 : Int)) (hall : (List.range (hi - lo + 1).toNat).all (fun (j : Nat) => cs.any (fun a => decide (a.1.toInt = lo + (j : Int)))) = true) : z_Sd X D q pc (pc + len) (x_tsw cs dflt) := by
  intro ks kj R st h hs hj p e s m args below meth c Rm cells slots Q C0 H locs la I
  rcases st with ⟨ls, _ | ⟨x | x | x, r⟩, M⟩ <;> first | exact False.elim h | skip
  rcases z_sw_in h with ⟨t, h1, h2⟩ | ⟨h1, h2⟩
  · obtain ⟨g1, g2, g3⟩ := hcs _ h1
    obtain ⟨o, ho, ho2⟩ := Option.map_eq_some_iff.mp g3
    exact lv_tableIn C0.1 C0.2.1 hd (Int.not_lt.mpr g1) (Int.not_lt.mpr g2) ho ho2 (hj _ _ h2 p e s m args below meth c Rm cells slots Q C0 H locs la ⟨I.1, I.2.1.2, I.2.2⟩)
  · refine lv_tableOut C0.1 C0.2.1 hd ?_ hdf (hj _ _ h2 p e s m args below meth c Rm cells slots Q C0 H locs la ⟨I.1, I.2.1.2, I.2.2⟩)
    by_cases hx : x.toInt < lo ∨ hi < x.toInt
    · exact hx
    · exfalso
      have h3 := List.all_eq_true.mp hall (x.toInt - lo).toNat (List.mem_range.mpr (by omega))
      obtain ⟨a, ha, hb⟩ := List.any_eq_true.mp h3
      have h4 := of_decide_eq_true hb
      exact h1 a ha (Int32.toInt_inj.mp (by omega))
/-! tables: chunks of rows -/
abbrev z_R : Type := Nat × Nat × z_X
def z_t1 (pc : Nat) : List z_R → Nat × z_X
  | [] => (0, z_no)
  | r :: t => bif Nat.beq r.1 pc then r.2 else z_t1 pc t
def z_t2 (pc : Nat) : List (Nat × List z_R) → Nat × z_X
  | [] => (0, z_no)
  | c :: t => bif Nat.ble pc c.1 then z_t1 pc c.2 else z_t2 pc t
def z_Ro (X : z_Cx) (D : Nat) (q : z_MI) (l : List z_R) : Prop := ∀ r ∈ l, z_Sd X D q r.1 r.2.1 r.2.2
theorem z_rn {X : z_Cx} {D : Nat} {q : z_MI} : z_Ro X D q [] := fun r h => by cases h
theorem z_rc1 {X : z_Cx} {D : Nat} {q : z_MI} {pc npc : Nat} {f : z_X} {l : List z_R} (h : z_Sd X D q pc npc f) (hl : z_Ro X D q l) : z_Ro X D q ((pc, npc, f) :: l) := fun r hr => (List.mem_cons.mp hr).elim (fun e => e ▸ h) (hl r)
theorem z_no_ok {X : z_Cx} {D : Nat} {q : z_MI} {pc npc : Nat} : z_Sd X D q pc npc z_no := fun _ _ _ _ h => False.elim h
theorem z_t1_ok {X : z_Cx} {D : Nat} {q : z_MI} {pc : Nat} : ∀ {l : List z_R}, z_Ro X D q l → z_Sd X D q pc (z_t1 pc l).1 (z_t1 pc l).2 := by
  intro l
  induction l with
  | nil => exact fun _ => z_no_ok
  | cons r t ih =>
    intro h
    unfold z_t1
    cases hb : Nat.beq r.1 pc with
    | true =>
      have e := Nat.eq_of_beq_eq_true hb
      rw [← e]
      exact h r List.mem_cons_self
    | false => exact ih (fun a ha => h a (List.mem_cons_of_mem _ ha))
theorem z_t2_ok {X : z_Cx} {D : Nat} {q : z_MI} {pc : Nat} : ∀ {l : List (Nat × List z_R)}, (∀ c ∈ l, z_Ro X D q c.2) → z_Sd X D q pc (z_t2 pc l).1 (z_t2 pc l).2 := by
  intro l
  induction l with
  | nil => exact fun _ => z_no_ok
  | cons r t ih =>
    intro h
    unfold z_t2
    cases hb : Nat.ble pc r.1 with
    | true => exact z_t1_ok (h r List.mem_cons_self)
    | false => exact ih (fun a ha => h a (List.mem_cons_of_mem _ ha))
theorem z_cn {X : z_Cx} {D : Nat} {q : z_MI} : ∀ c ∈ ([] : List (Nat × List z_R)), z_Ro X D q c.2 := fun r h => by cases h
theorem z_cc {X : z_Cx} {D : Nat} {q : z_MI} {n : Nat} {a : List z_R} {l : List (Nat × List z_R)} (h : z_Ro X D q a) (hl : ∀ c ∈ l, z_Ro X D q c.2) : ∀ c ∈ (n, a) :: l, z_Ro X D q c.2 := fun r hr => (List.mem_cons.mp hr).elim (fun e => e ▸ h) (hl r)
end
