section
-- ===== PART A: goes FIRST, ahead of the names: the tables' words, and 'selects' of the private methods out of them =====
/-- a private method of a class that the tables say can be made, by its rows of tables_1 -/
def lw_okq (q : MethodName × Nat) : Prop := (q.1.cls ≠ "java/lang/invoke/MethodHandle" ∧ q.1.cls ≠ "java/lang/invoke/VarHandle") ∧ Cond.instantiable q.1.cls q.2 ∈ tables_1 ∧ Cond.privateMethod q.1 ∈ tables_1 ∧ Cond.instanceMethod q.1 ∈ tables_1
theorem lw_p0 : lw_okq (⟨"PaceStore", "found", "(I)I"⟩, 11) := ⟨⟨by decide +kernel, by decide +kernel⟩, List.mem_of_getElem? (i := 21) (by decide +kernel), List.mem_of_getElem? (i := 423) (by decide +kernel), List.mem_of_getElem? (i := 424) (by decide +kernel)⟩
theorem lw_p1 : lw_okq (⟨"PaceStore", "foundNothing", "(I)I"⟩, 11) := ⟨⟨by decide +kernel, by decide +kernel⟩, List.mem_of_getElem? (i := 21) (by decide +kernel), List.mem_of_getElem? (i := 435) (by decide +kernel), List.mem_of_getElem? (i := 436) (by decide +kernel)⟩
theorem lw_p2 : lw_okq (⟨"PaceStore", "findingAt", "(III)I"⟩, 11) := ⟨⟨by decide +kernel, by decide +kernel⟩, List.mem_of_getElem? (i := 21) (by decide +kernel), List.mem_of_getElem? (i := 443) (by decide +kernel), List.mem_of_getElem? (i := 444) (by decide +kernel)⟩
theorem lw_p3 : lw_okq (⟨"PaceStore$Reader", "next", "()V"⟩, 9) := ⟨⟨by decide +kernel, by decide +kernel⟩, List.mem_of_getElem? (i := 31) (by decide +kernel), List.mem_of_getElem? (i := 497) (by decide +kernel), List.mem_of_getElem? (i := 498) (by decide +kernel)⟩
theorem lw_p4 : lw_okq (⟨"PaceStore$Reader", "byteAt", "(I)I"⟩, 9) := ⟨⟨by decide +kernel, by decide +kernel⟩, List.mem_of_getElem? (i := 31) (by decide +kernel), List.mem_of_getElem? (i := 501) (by decide +kernel), List.mem_of_getElem? (i := 502) (by decide +kernel)⟩
theorem lw_p5 : lw_okq (⟨"PaceStore$Reader", "takeName", "()V"⟩, 9) := ⟨⟨by decide +kernel, by decide +kernel⟩, List.mem_of_getElem? (i := 31) (by decide +kernel), List.mem_of_getElem? (i := 511) (by decide +kernel), List.mem_of_getElem? (i := 512) (by decide +kernel)⟩
theorem lw_p6 : lw_okq (⟨"PaceStore$Reader", "takeNumber", "(Z)V"⟩, 9) := ⟨⟨by decide +kernel, by decide +kernel⟩, List.mem_of_getElem? (i := 31) (by decide +kernel), List.mem_of_getElem? (i := 518) (by decide +kernel), List.mem_of_getElem? (i := 519) (by decide +kernel)⟩
theorem lw_p7 : lw_okq (⟨"PaceStore$Reader", "readsMile", "()Z"⟩, 9) := ⟨⟨by decide +kernel, by decide +kernel⟩, List.mem_of_getElem? (i := 31) (by decide +kernel), List.mem_of_getElem? (i := 523) (by decide +kernel), List.mem_of_getElem? (i := 524) (by decide +kernel)⟩
theorem lw_p8 : lw_okq (⟨"PaceStore$Reader", "isWord", "(Ljava/lang/String;)Z"⟩, 9) := ⟨⟨by decide +kernel, by decide +kernel⟩, List.mem_of_getElem? (i := 31) (by decide +kernel), List.mem_of_getElem? (i := 528) (by decide +kernel), List.mem_of_getElem? (i := 529) (by decide +kernel)⟩
theorem lw_p9 : lw_okq (⟨"PaceStore$Reader", "fails", "(I)Z"⟩, 9) := ⟨⟨by decide +kernel, by decide +kernel⟩, List.mem_of_getElem? (i := 31) (by decide +kernel), List.mem_of_getElem? (i := 580) (by decide +kernel), List.mem_of_getElem? (i := 581) (by decide +kernel)⟩
theorem lw_p10 : lw_okq (⟨"PaceStore$Reader", "readsNumber", "(II)Z"⟩, 9) := ⟨⟨by decide +kernel, by decide +kernel⟩, List.mem_of_getElem? (i := 31) (by decide +kernel), List.mem_of_getElem? (i := 584) (by decide +kernel), List.mem_of_getElem? (i := 585) (by decide +kernel)⟩
theorem lw_p11 : lw_okq (⟨"PaceStore$Reader", "readsSemicolon", "()Z"⟩, 9) := ⟨⟨by decide +kernel, by decide +kernel⟩, List.mem_of_getElem? (i := 31) (by decide +kernel), List.mem_of_getElem? (i := 588) (by decide +kernel), List.mem_of_getElem? (i := 589) (by decide +kernel)⟩
theorem lw_p12 : lw_okq (⟨"PaceStore$Reader", "readsRunner", "()Z"⟩, 9) := ⟨⟨by decide +kernel, by decide +kernel⟩, List.mem_of_getElem? (i := 31) (by decide +kernel), List.mem_of_getElem? (i := 592) (by decide +kernel), List.mem_of_getElem? (i := 593) (by decide +kernel)⟩
theorem lw_p13 : lw_okq (⟨"PaceStore$Reader", "readsRule", "(I)Z"⟩, 9) := ⟨⟨by decide +kernel, by decide +kernel⟩, List.mem_of_getElem? (i := 31) (by decide +kernel), List.mem_of_getElem? (i := 598) (by decide +kernel), List.mem_of_getElem? (i := 599) (by decide +kernel)⟩
theorem lw_p14 : lw_okq (⟨"PaceStore$Reader", "readsRabbit", "()Z"⟩, 9) := ⟨⟨by decide +kernel, by decide +kernel⟩, List.mem_of_getElem? (i := 31) (by decide +kernel), List.mem_of_getElem? (i := 614) (by decide +kernel), List.mem_of_getElem? (i := 615) (by decide +kernel)⟩
theorem lw_p15 : lw_okq (⟨"PaceStore$Field", "feel", "(LPaceStore$Course;I)V"⟩, 3) := ⟨⟨by decide +kernel, by decide +kernel⟩, List.mem_of_getElem? (i := 201) (by decide +kernel), List.mem_of_getElem? (i := 665) (by decide +kernel), List.mem_of_getElem? (i := 666) (by decide +kernel)⟩
def lw_privs_1 : List (MethodName × Nat) := [(⟨"PaceStore", "found", "(I)I"⟩, 11), (⟨"PaceStore", "foundNothing", "(I)I"⟩, 11), (⟨"PaceStore", "findingAt", "(III)I"⟩, 11), (⟨"PaceStore$Reader", "next", "()V"⟩, 9), (⟨"PaceStore$Reader", "byteAt", "(I)I"⟩, 9), (⟨"PaceStore$Reader", "takeName", "()V"⟩, 9), (⟨"PaceStore$Reader", "takeNumber", "(Z)V"⟩, 9), (⟨"PaceStore$Reader", "readsMile", "()Z"⟩, 9), (⟨"PaceStore$Reader", "isWord", "(Ljava/lang/String;)Z"⟩, 9), (⟨"PaceStore$Reader", "fails", "(I)Z"⟩, 9), (⟨"PaceStore$Reader", "readsNumber", "(II)Z"⟩, 9), (⟨"PaceStore$Reader", "readsSemicolon", "()Z"⟩, 9), (⟨"PaceStore$Reader", "readsRunner", "()Z"⟩, 9), (⟨"PaceStore$Reader", "readsRule", "(I)Z"⟩, 9), (⟨"PaceStore$Reader", "readsRabbit", "()Z"⟩, 9), (⟨"PaceStore$Field", "feel", "(LPaceStore$Course;I)V"⟩, 3)]
theorem lw_r1 : ∀ q ∈ lw_privs_1, lw_okq q := List.forall_mem_cons.mpr ⟨lw_p0, List.forall_mem_cons.mpr ⟨lw_p1, List.forall_mem_cons.mpr ⟨lw_p2, List.forall_mem_cons.mpr ⟨lw_p3, List.forall_mem_cons.mpr ⟨lw_p4, List.forall_mem_cons.mpr ⟨lw_p5, List.forall_mem_cons.mpr ⟨lw_p6, List.forall_mem_cons.mpr ⟨lw_p7, List.forall_mem_cons.mpr ⟨lw_p8, List.forall_mem_cons.mpr ⟨lw_p9, List.forall_mem_cons.mpr ⟨lw_p10, List.forall_mem_cons.mpr ⟨lw_p11, List.forall_mem_cons.mpr ⟨lw_p12, List.forall_mem_cons.mpr ⟨lw_p13, List.forall_mem_cons.mpr ⟨lw_p14, List.forall_mem_cons.mpr ⟨lw_p15, fun _ h => absurd h List.not_mem_nil⟩⟩⟩⟩⟩⟩⟩⟩⟩⟩⟩⟩⟩⟩⟩⟩
theorem lw_p16 : lw_okq (⟨"PaceStore$Field", "leastTime", "()I"⟩, 3) := ⟨⟨by decide +kernel, by decide +kernel⟩, List.mem_of_getElem? (i := 201) (by decide +kernel), List.mem_of_getElem? (i := 669) (by decide +kernel), List.mem_of_getElem? (i := 670) (by decide +kernel)⟩
theorem lw_p17 : lw_okq (⟨"PaceStore$Field", "stepByRules", "(LPaceStore$Course;III)I"⟩, 3) := ⟨⟨by decide +kernel, by decide +kernel⟩, List.mem_of_getElem? (i := 201) (by decide +kernel), List.mem_of_getElem? (i := 677) (by decide +kernel), List.mem_of_getElem? (i := 678) (by decide +kernel)⟩
theorem lw_p18 : lw_okq (⟨"PaceStore$Field", "stepBySlip", "()I"⟩, 3) := ⟨⟨by decide +kernel, by decide +kernel⟩, List.mem_of_getElem? (i := 201) (by decide +kernel), List.mem_of_getElem? (i := 689) (by decide +kernel), List.mem_of_getElem? (i := 690) (by decide +kernel)⟩
theorem lw_p19 : lw_okq (⟨"PaceStore$Field", "isBehindSomeone", "(I)Z"⟩, 3) := ⟨⟨by decide +kernel, by decide +kernel⟩, List.mem_of_getElem? (i := 201) (by decide +kernel), List.mem_of_getElem? (i := 700) (by decide +kernel), List.mem_of_getElem? (i := 701) (by decide +kernel)⟩
theorem lw_p20 : lw_okq (⟨"PaceStore$Field", "rank", "(LPaceStore$Results;)V"⟩, 3) := ⟨⟨by decide +kernel, by decide +kernel⟩, List.mem_of_getElem? (i := 201) (by decide +kernel), List.mem_of_getElem? (i := 728) (by decide +kernel), List.mem_of_getElem? (i := 729) (by decide +kernel)⟩
theorem lw_p21 : lw_okq (⟨"PaceStore$Alone", "faceHeats", "(LPaceStore$Course;II)V"⟩, 11) := ⟨⟨by decide +kernel, by decide +kernel⟩, List.mem_of_getElem? (i := 270) (by decide +kernel), List.mem_of_getElem? (i := 763) (by decide +kernel), List.mem_of_getElem? (i := 764) (by decide +kernel)⟩
theorem lw_p22 : lw_okq (⟨"PaceStore$Alone", "chooseTries", "(I)V"⟩, 11) := ⟨⟨by decide +kernel, by decide +kernel⟩, List.mem_of_getElem? (i := 270) (by decide +kernel), List.mem_of_getElem? (i := 785) (by decide +kernel), List.mem_of_getElem? (i := 786) (by decide +kernel)⟩
theorem lw_p23 : lw_okq (⟨"PaceStore$Alone", "leastAt", "(II)I"⟩, 11) := ⟨⟨by decide +kernel, by decide +kernel⟩, List.mem_of_getElem? (i := 270) (by decide +kernel), List.mem_of_getElem? (i := 789) (by decide +kernel), List.mem_of_getElem? (i := 790) (by decide +kernel)⟩
theorem lw_p24 : lw_okq (⟨"PaceStore$Alone", "firstPace", "(II)I"⟩, 11) := ⟨⟨by decide +kernel, by decide +kernel⟩, List.mem_of_getElem? (i := 270) (by decide +kernel), List.mem_of_getElem? (i := 801) (by decide +kernel), List.mem_of_getElem? (i := 802) (by decide +kernel)⟩
theorem lw_p25 : lw_okq (⟨"PaceStore$Alone", "leftBehind", "(III)I"⟩, 11) := ⟨⟨by decide +kernel, by decide +kernel⟩, List.mem_of_getElem? (i := 270) (by decide +kernel), List.mem_of_getElem? (i := 805) (by decide +kernel), List.mem_of_getElem? (i := 806) (by decide +kernel)⟩
theorem lw_p26 : lw_okq (⟨"PaceStore", "leastLine", "(ILPaceStore$Sheet;I)I"⟩, 11) := ⟨⟨by decide +kernel, by decide +kernel⟩, List.mem_of_getElem? (i := 21) (by decide +kernel), List.mem_of_getElem? (i := 880) (by decide +kernel), List.mem_of_getElem? (i := 881) (by decide +kernel)⟩
theorem lw_p27 : lw_okq (⟨"PaceStore", "bestHour", "(ILPaceStore$Sheet;III)I"⟩, 11) := ⟨⟨by decide +kernel, by decide +kernel⟩, List.mem_of_getElem? (i := 21) (by decide +kernel), List.mem_of_getElem? (i := 919) (by decide +kernel), List.mem_of_getElem? (i := 920) (by decide +kernel)⟩
theorem lw_p28 : lw_okq (⟨"PaceStore$Step", "answer", "(II)I"⟩, 7) := ⟨⟨by decide +kernel, by decide +kernel⟩, List.mem_of_getElem? (i := 333) (by decide +kernel), List.mem_of_getElem? (i := 983) (by decide +kernel), List.mem_of_getElem? (i := 984) (by decide +kernel)⟩
theorem lw_p29 : lw_okq (⟨"PaceStore$Step", "leaveNumber", "(I)V"⟩, 7) := ⟨⟨by decide +kernel, by decide +kernel⟩, List.mem_of_getElem? (i := 333) (by decide +kernel), List.mem_of_getElem? (i := 987) (by decide +kernel), List.mem_of_getElem? (i := 988) (by decide +kernel)⟩
theorem lw_p30 : lw_okq (⟨"PaceStore", "sheetsThere", "()I"⟩, 11) := ⟨⟨by decide +kernel, by decide +kernel⟩, List.mem_of_getElem? (i := 21) (by decide +kernel), List.mem_of_getElem? (i := 1005) (by decide +kernel), List.mem_of_getElem? (i := 1006) (by decide +kernel)⟩
theorem lw_p31 : lw_okq (⟨"PaceStoreModel", "found", "(I)I"⟩, 30) := ⟨⟨by decide +kernel, by decide +kernel⟩, List.mem_of_getElem? (i := 1017) (by decide +kernel), List.mem_of_getElem? (i := 1128) (by decide +kernel), List.mem_of_getElem? (i := 1129) (by decide +kernel)⟩
def lw_privs_2 : List (MethodName × Nat) := [(⟨"PaceStore$Field", "leastTime", "()I"⟩, 3), (⟨"PaceStore$Field", "stepByRules", "(LPaceStore$Course;III)I"⟩, 3), (⟨"PaceStore$Field", "stepBySlip", "()I"⟩, 3), (⟨"PaceStore$Field", "isBehindSomeone", "(I)Z"⟩, 3), (⟨"PaceStore$Field", "rank", "(LPaceStore$Results;)V"⟩, 3), (⟨"PaceStore$Alone", "faceHeats", "(LPaceStore$Course;II)V"⟩, 11), (⟨"PaceStore$Alone", "chooseTries", "(I)V"⟩, 11), (⟨"PaceStore$Alone", "leastAt", "(II)I"⟩, 11), (⟨"PaceStore$Alone", "firstPace", "(II)I"⟩, 11), (⟨"PaceStore$Alone", "leftBehind", "(III)I"⟩, 11), (⟨"PaceStore", "leastLine", "(ILPaceStore$Sheet;I)I"⟩, 11), (⟨"PaceStore", "bestHour", "(ILPaceStore$Sheet;III)I"⟩, 11), (⟨"PaceStore$Step", "answer", "(II)I"⟩, 7), (⟨"PaceStore$Step", "leaveNumber", "(I)V"⟩, 7), (⟨"PaceStore", "sheetsThere", "()I"⟩, 11), (⟨"PaceStoreModel", "found", "(I)I"⟩, 30)]
theorem lw_r2 : ∀ q ∈ lw_privs_2, lw_okq q := List.forall_mem_cons.mpr ⟨lw_p16, List.forall_mem_cons.mpr ⟨lw_p17, List.forall_mem_cons.mpr ⟨lw_p18, List.forall_mem_cons.mpr ⟨lw_p19, List.forall_mem_cons.mpr ⟨lw_p20, List.forall_mem_cons.mpr ⟨lw_p21, List.forall_mem_cons.mpr ⟨lw_p22, List.forall_mem_cons.mpr ⟨lw_p23, List.forall_mem_cons.mpr ⟨lw_p24, List.forall_mem_cons.mpr ⟨lw_p25, List.forall_mem_cons.mpr ⟨lw_p26, List.forall_mem_cons.mpr ⟨lw_p27, List.forall_mem_cons.mpr ⟨lw_p28, List.forall_mem_cons.mpr ⟨lw_p29, List.forall_mem_cons.mpr ⟨lw_p30, List.forall_mem_cons.mpr ⟨lw_p31, fun _ h => absurd h List.not_mem_nil⟩⟩⟩⟩⟩⟩⟩⟩⟩⟩⟩⟩⟩⟩⟩⟩
theorem lw_p32 : lw_okq (⟨"PaceStoreModel", "through", "(I)I"⟩, 30) := ⟨⟨by decide +kernel, by decide +kernel⟩, List.mem_of_getElem? (i := 1017) (by decide +kernel), List.mem_of_getElem? (i := 1133) (by decide +kernel), List.mem_of_getElem? (i := 1134) (by decide +kernel)⟩
theorem lw_p33 : lw_okq (⟨"PaceStoreModel", "holds", "(III)Z"⟩, 30) := ⟨⟨by decide +kernel, by decide +kernel⟩, List.mem_of_getElem? (i := 1017) (by decide +kernel), List.mem_of_getElem? (i := 1145) (by decide +kernel), List.mem_of_getElem? (i := 1146) (by decide +kernel)⟩
theorem lw_p34 : lw_okq (⟨"PaceStoreModel", "readAll", "()Z"⟩, 30) := ⟨⟨by decide +kernel, by decide +kernel⟩, List.mem_of_getElem? (i := 1017) (by decide +kernel), List.mem_of_getElem? (i := 1164) (by decide +kernel), List.mem_of_getElem? (i := 1165) (by decide +kernel)⟩
theorem lw_p35 : lw_okq (⟨"PaceStoreModel", "look", "(I)V"⟩, 30) := ⟨⟨by decide +kernel, by decide +kernel⟩, List.mem_of_getElem? (i := 1017) (by decide +kernel), List.mem_of_getElem? (i := 1168) (by decide +kernel), List.mem_of_getElem? (i := 1169) (by decide +kernel)⟩
theorem lw_p36 : lw_okq (⟨"PaceStoreModel", "isFigureAt", "(I)Z"⟩, 30) := ⟨⟨by decide +kernel, by decide +kernel⟩, List.mem_of_getElem? (i := 1017) (by decide +kernel), List.mem_of_getElem? (i := 1172) (by decide +kernel), List.mem_of_getElem? (i := 1173) (by decide +kernel)⟩
theorem lw_p37 : lw_okq (⟨"PaceStoreModel", "isMileWord", "()Z"⟩, 30) := ⟨⟨by decide +kernel, by decide +kernel⟩, List.mem_of_getElem? (i := 1017) (by decide +kernel), List.mem_of_getElem? (i := 1183) (by decide +kernel), List.mem_of_getElem? (i := 1184) (by decide +kernel)⟩
theorem lw_p38 : lw_okq (⟨"PaceStoreModel", "isWord", "(IIIIII)Z"⟩, 30) := ⟨⟨by decide +kernel, by decide +kernel⟩, List.mem_of_getElem? (i := 1017) (by decide +kernel), List.mem_of_getElem? (i := 1187) (by decide +kernel), List.mem_of_getElem? (i := 1188) (by decide +kernel)⟩
theorem lw_p39 : lw_okq (⟨"PaceStoreModel", "faulty", "(I)Z"⟩, 30) := ⟨⟨by decide +kernel, by decide +kernel⟩, List.mem_of_getElem? (i := 1017) (by decide +kernel), List.mem_of_getElem? (i := 1191) (by decide +kernel), List.mem_of_getElem? (i := 1192) (by decide +kernel)⟩
theorem lw_p40 : lw_okq (⟨"PaceStoreModel", "readMile", "()Z"⟩, 30) := ⟨⟨by decide +kernel, by decide +kernel⟩, List.mem_of_getElem? (i := 1017) (by decide +kernel), List.mem_of_getElem? (i := 1195) (by decide +kernel), List.mem_of_getElem? (i := 1196) (by decide +kernel)⟩
theorem lw_p41 : lw_okq (⟨"PaceStoreModel", "next", "()V"⟩, 30) := ⟨⟨by decide +kernel, by decide +kernel⟩, List.mem_of_getElem? (i := 1017) (by decide +kernel), List.mem_of_getElem? (i := 1199) (by decide +kernel), List.mem_of_getElem? (i := 1200) (by decide +kernel)⟩
theorem lw_p42 : lw_okq (⟨"PaceStoreModel", "readNumber", "(II)Z"⟩, 30) := ⟨⟨by decide +kernel, by decide +kernel⟩, List.mem_of_getElem? (i := 1017) (by decide +kernel), List.mem_of_getElem? (i := 1203) (by decide +kernel), List.mem_of_getElem? (i := 1204) (by decide +kernel)⟩
theorem lw_p43 : lw_okq (⟨"PaceStoreModel", "readStop", "()Z"⟩, 30) := ⟨⟨by decide +kernel, by decide +kernel⟩, List.mem_of_getElem? (i := 1017) (by decide +kernel), List.mem_of_getElem? (i := 1207) (by decide +kernel), List.mem_of_getElem? (i := 1208) (by decide +kernel)⟩
theorem lw_p44 : lw_okq (⟨"PaceStoreModel", "isRunnerWord", "()Z"⟩, 30) := ⟨⟨by decide +kernel, by decide +kernel⟩, List.mem_of_getElem? (i := 1017) (by decide +kernel), List.mem_of_getElem? (i := 1211) (by decide +kernel), List.mem_of_getElem? (i := 1212) (by decide +kernel)⟩
theorem lw_p45 : lw_okq (⟨"PaceStoreModel", "readRunner", "()Z"⟩, 30) := ⟨⟨by decide +kernel, by decide +kernel⟩, List.mem_of_getElem? (i := 1017) (by decide +kernel), List.mem_of_getElem? (i := 1215) (by decide +kernel), List.mem_of_getElem? (i := 1216) (by decide +kernel)⟩
theorem lw_p46 : lw_okq (⟨"PaceStoreModel", "readRule", "(I)Z"⟩, 30) := ⟨⟨by decide +kernel, by decide +kernel⟩, List.mem_of_getElem? (i := 1017) (by decide +kernel), List.mem_of_getElem? (i := 1219) (by decide +kernel), List.mem_of_getElem? (i := 1220) (by decide +kernel)⟩
theorem lw_p47 : lw_okq (⟨"PaceStoreModel", "readRabbit", "()Z"⟩, 30) := ⟨⟨by decide +kernel, by decide +kernel⟩, List.mem_of_getElem? (i := 1017) (by decide +kernel), List.mem_of_getElem? (i := 1223) (by decide +kernel), List.mem_of_getElem? (i := 1224) (by decide +kernel)⟩
def lw_privs_3 : List (MethodName × Nat) := [(⟨"PaceStoreModel", "through", "(I)I"⟩, 30), (⟨"PaceStoreModel", "holds", "(III)Z"⟩, 30), (⟨"PaceStoreModel", "readAll", "()Z"⟩, 30), (⟨"PaceStoreModel", "look", "(I)V"⟩, 30), (⟨"PaceStoreModel", "isFigureAt", "(I)Z"⟩, 30), (⟨"PaceStoreModel", "isMileWord", "()Z"⟩, 30), (⟨"PaceStoreModel", "isWord", "(IIIIII)Z"⟩, 30), (⟨"PaceStoreModel", "faulty", "(I)Z"⟩, 30), (⟨"PaceStoreModel", "readMile", "()Z"⟩, 30), (⟨"PaceStoreModel", "next", "()V"⟩, 30), (⟨"PaceStoreModel", "readNumber", "(II)Z"⟩, 30), (⟨"PaceStoreModel", "readStop", "()Z"⟩, 30), (⟨"PaceStoreModel", "isRunnerWord", "()Z"⟩, 30), (⟨"PaceStoreModel", "readRunner", "()Z"⟩, 30), (⟨"PaceStoreModel", "readRule", "(I)Z"⟩, 30), (⟨"PaceStoreModel", "readRabbit", "()Z"⟩, 30)]
theorem lw_r3 : ∀ q ∈ lw_privs_3, lw_okq q := List.forall_mem_cons.mpr ⟨lw_p32, List.forall_mem_cons.mpr ⟨lw_p33, List.forall_mem_cons.mpr ⟨lw_p34, List.forall_mem_cons.mpr ⟨lw_p35, List.forall_mem_cons.mpr ⟨lw_p36, List.forall_mem_cons.mpr ⟨lw_p37, List.forall_mem_cons.mpr ⟨lw_p38, List.forall_mem_cons.mpr ⟨lw_p39, List.forall_mem_cons.mpr ⟨lw_p40, List.forall_mem_cons.mpr ⟨lw_p41, List.forall_mem_cons.mpr ⟨lw_p42, List.forall_mem_cons.mpr ⟨lw_p43, List.forall_mem_cons.mpr ⟨lw_p44, List.forall_mem_cons.mpr ⟨lw_p45, List.forall_mem_cons.mpr ⟨lw_p46, List.forall_mem_cons.mpr ⟨lw_p47, fun _ h => absurd h List.not_mem_nil⟩⟩⟩⟩⟩⟩⟩⟩⟩⟩⟩⟩⟩⟩⟩⟩
theorem lw_p48 : lw_okq (⟨"PaceStoreModel", "miles", "()I"⟩, 30) := ⟨⟨by decide +kernel, by decide +kernel⟩, List.mem_of_getElem? (i := 1017) (by decide +kernel), List.mem_of_getElem? (i := 1228) (by decide +kernel), List.mem_of_getElem? (i := 1229) (by decide +kernel)⟩
theorem lw_p49 : lw_okq (⟨"PaceStoreModel", "isMile", "(I)Z"⟩, 30) := ⟨⟨by decide +kernel, by decide +kernel⟩, List.mem_of_getElem? (i := 1017) (by decide +kernel), List.mem_of_getElem? (i := 1240) (by decide +kernel), List.mem_of_getElem? (i := 1241) (by decide +kernel)⟩
theorem lw_p50 : lw_okq (⟨"PaceStoreModel", "needOf", "(IIZ)I"⟩, 30) := ⟨⟨by decide +kernel, by decide +kernel⟩, List.mem_of_getElem? (i := 1017) (by decide +kernel), List.mem_of_getElem? (i := 1249) (by decide +kernel), List.mem_of_getElem? (i := 1250) (by decide +kernel)⟩
theorem lw_p51 : lw_okq (⟨"PaceStoreModel", "runners", "()I"⟩, 30) := ⟨⟨by decide +kernel, by decide +kernel⟩, List.mem_of_getElem? (i := 1017) (by decide +kernel), List.mem_of_getElem? (i := 1259) (by decide +kernel), List.mem_of_getElem? (i := 1260) (by decide +kernel)⟩
theorem lw_p52 : lw_okq (⟨"PaceStoreModel", "item", "(II)I"⟩, 30) := ⟨⟨by decide +kernel, by decide +kernel⟩, List.mem_of_getElem? (i := 1017) (by decide +kernel), List.mem_of_getElem? (i := 1263) (by decide +kernel), List.mem_of_getElem? (i := 1264) (by decide +kernel)⟩
theorem lw_p53 : lw_okq (⟨"PaceStoreModel", "startRace", "()V"⟩, 30) := ⟨⟨by decide +kernel, by decide +kernel⟩, List.mem_of_getElem? (i := 1017) (by decide +kernel), List.mem_of_getElem? (i := 1267) (by decide +kernel), List.mem_of_getElem? (i := 1268) (by decide +kernel)⟩
theorem lw_p54 : lw_okq (⟨"PaceStoreModel", "ofRunner", "(II)I"⟩, 30) := ⟨⟨by decide +kernel, by decide +kernel⟩, List.mem_of_getElem? (i := 1017) (by decide +kernel), List.mem_of_getElem? (i := 1271) (by decide +kernel), List.mem_of_getElem? (i := 1272) (by decide +kernel)⟩
theorem lw_p55 : lw_okq (⟨"PaceStoreModel", "leastTime", "()I"⟩, 30) := ⟨⟨by decide +kernel, by decide +kernel⟩, List.mem_of_getElem? (i := 1017) (by decide +kernel), List.mem_of_getElem? (i := 1275) (by decide +kernel), List.mem_of_getElem? (i := 1276) (by decide +kernel)⟩
theorem lw_p56 : lw_okq (⟨"PaceStoreModel", "paceByRules", "(III)I"⟩, 30) := ⟨⟨by decide +kernel, by decide +kernel⟩, List.mem_of_getElem? (i := 1017) (by decide +kernel), List.mem_of_getElem? (i := 1280) (by decide +kernel), List.mem_of_getElem? (i := 1281) (by decide +kernel)⟩
theorem lw_p57 : lw_okq (⟨"PaceStoreModel", "findShelters", "()V"⟩, 30) := ⟨⟨by decide +kernel, by decide +kernel⟩, List.mem_of_getElem? (i := 1017) (by decide +kernel), List.mem_of_getElem? (i := 1289) (by decide +kernel), List.mem_of_getElem? (i := 1290) (by decide +kernel)⟩
theorem lw_p58 : lw_okq (⟨"PaceStoreModel", "isSheltered", "(I)Z"⟩, 30) := ⟨⟨by decide +kernel, by decide +kernel⟩, List.mem_of_getElem? (i := 1017) (by decide +kernel), List.mem_of_getElem? (i := 1293) (by decide +kernel), List.mem_of_getElem? (i := 1294) (by decide +kernel)⟩
theorem lw_p59 : lw_okq (⟨"PaceStoreModel", "goMile", "(IIZ)V"⟩, 30) := ⟨⟨by decide +kernel, by decide +kernel⟩, List.mem_of_getElem? (i := 1017) (by decide +kernel), List.mem_of_getElem? (i := 1298) (by decide +kernel), List.mem_of_getElem? (i := 1299) (by decide +kernel)⟩
theorem lw_p60 : lw_okq (⟨"PaceStoreModel", "leftBehind", "(IIII)I"⟩, 30) := ⟨⟨by decide +kernel, by decide +kernel⟩, List.mem_of_getElem? (i := 1017) (by decide +kernel), List.mem_of_getElem? (i := 1302) (by decide +kernel), List.mem_of_getElem? (i := 1303) (by decide +kernel)⟩
theorem lw_p61 : lw_okq (⟨"PaceStoreModel", "easyPace", "(II)I"⟩, 30) := ⟨⟨by decide +kernel, by decide +kernel⟩, List.mem_of_getElem? (i := 1017) (by decide +kernel), List.mem_of_getElem? (i := 1306) (by decide +kernel), List.mem_of_getElem? (i := 1307) (by decide +kernel)⟩
theorem lw_p62 : lw_okq (⟨"PaceStoreModel", "isRunner", "(I)Z"⟩, 30) := ⟨⟨by decide +kernel, by decide +kernel⟩, List.mem_of_getElem? (i := 1017) (by decide +kernel), List.mem_of_getElem? (i := 1317) (by decide +kernel), List.mem_of_getElem? (i := 1318) (by decide +kernel)⟩
theorem lw_p63 : lw_okq (⟨"PaceStoreModel", "ranOf", "(III)I"⟩, 30) := ⟨⟨by decide +kernel, by decide +kernel⟩, List.mem_of_getElem? (i := 1017) (by decide +kernel), List.mem_of_getElem? (i := 1321) (by decide +kernel), List.mem_of_getElem? (i := 1322) (by decide +kernel)⟩
def lw_privs_4 : List (MethodName × Nat) := [(⟨"PaceStoreModel", "miles", "()I"⟩, 30), (⟨"PaceStoreModel", "isMile", "(I)Z"⟩, 30), (⟨"PaceStoreModel", "needOf", "(IIZ)I"⟩, 30), (⟨"PaceStoreModel", "runners", "()I"⟩, 30), (⟨"PaceStoreModel", "item", "(II)I"⟩, 30), (⟨"PaceStoreModel", "startRace", "()V"⟩, 30), (⟨"PaceStoreModel", "ofRunner", "(II)I"⟩, 30), (⟨"PaceStoreModel", "leastTime", "()I"⟩, 30), (⟨"PaceStoreModel", "paceByRules", "(III)I"⟩, 30), (⟨"PaceStoreModel", "findShelters", "()V"⟩, 30), (⟨"PaceStoreModel", "isSheltered", "(I)Z"⟩, 30), (⟨"PaceStoreModel", "goMile", "(IIZ)V"⟩, 30), (⟨"PaceStoreModel", "leftBehind", "(IIII)I"⟩, 30), (⟨"PaceStoreModel", "easyPace", "(II)I"⟩, 30), (⟨"PaceStoreModel", "isRunner", "(I)Z"⟩, 30), (⟨"PaceStoreModel", "ranOf", "(III)I"⟩, 30)]
theorem lw_r4 : ∀ q ∈ lw_privs_4, lw_okq q := List.forall_mem_cons.mpr ⟨lw_p48, List.forall_mem_cons.mpr ⟨lw_p49, List.forall_mem_cons.mpr ⟨lw_p50, List.forall_mem_cons.mpr ⟨lw_p51, List.forall_mem_cons.mpr ⟨lw_p52, List.forall_mem_cons.mpr ⟨lw_p53, List.forall_mem_cons.mpr ⟨lw_p54, List.forall_mem_cons.mpr ⟨lw_p55, List.forall_mem_cons.mpr ⟨lw_p56, List.forall_mem_cons.mpr ⟨lw_p57, List.forall_mem_cons.mpr ⟨lw_p58, List.forall_mem_cons.mpr ⟨lw_p59, List.forall_mem_cons.mpr ⟨lw_p60, List.forall_mem_cons.mpr ⟨lw_p61, List.forall_mem_cons.mpr ⟨lw_p62, List.forall_mem_cons.mpr ⟨lw_p63, fun _ h => absurd h List.not_mem_nil⟩⟩⟩⟩⟩⟩⟩⟩⟩⟩⟩⟩⟩⟩⟩⟩
theorem lw_p64 : lw_okq (⟨"PaceStoreModel", "isSet", "(I)Z"⟩, 30) := ⟨⟨by decide +kernel, by decide +kernel⟩, List.mem_of_getElem? (i := 1017) (by decide +kernel), List.mem_of_getElem? (i := 1333) (by decide +kernel), List.mem_of_getElem? (i := 1334) (by decide +kernel)⟩
theorem lw_p65 : lw_okq (⟨"PaceStoreModel", "rabbits", "()I"⟩, 30) := ⟨⟨by decide +kernel, by decide +kernel⟩, List.mem_of_getElem? (i := 1017) (by decide +kernel), List.mem_of_getElem? (i := 1337) (by decide +kernel), List.mem_of_getElem? (i := 1338) (by decide +kernel)⟩
theorem lw_p66 : lw_okq (⟨"PaceStoreModel", "leastAll", "(II)I"⟩, 30) := ⟨⟨by decide +kernel, by decide +kernel⟩, List.mem_of_getElem? (i := 1017) (by decide +kernel), List.mem_of_getElem? (i := 1341) (by decide +kernel), List.mem_of_getElem? (i := 1342) (by decide +kernel)⟩
theorem lw_p67 : lw_okq (⟨"PaceStoreModel", "findLeast", "(II)V"⟩, 30) := ⟨⟨by decide +kernel, by decide +kernel⟩, List.mem_of_getElem? (i := 1017) (by decide +kernel), List.mem_of_getElem? (i := 1345) (by decide +kernel), List.mem_of_getElem? (i := 1346) (by decide +kernel)⟩
theorem lw_p68 : lw_okq (⟨"PaceStoreModel", "timeBy", "(IIIII)I"⟩, 30) := ⟨⟨by decide +kernel, by decide +kernel⟩, List.mem_of_getElem? (i := 1017) (by decide +kernel), List.mem_of_getElem? (i := 1349) (by decide +kernel), List.mem_of_getElem? (i := 1350) (by decide +kernel)⟩
theorem lw_p69 : lw_okq (⟨"PaceStoreModel", "leftAlone", "(IIIII)I"⟩, 30) := ⟨⟨by decide +kernel, by decide +kernel⟩, List.mem_of_getElem? (i := 1017) (by decide +kernel), List.mem_of_getElem? (i := 1353) (by decide +kernel), List.mem_of_getElem? (i := 1354) (by decide +kernel)⟩
theorem lw_p70 : lw_okq (⟨"PaceStoreModel", "isBehindRabbit", "(III)Z"⟩, 30) := ⟨⟨by decide +kernel, by decide +kernel⟩, List.mem_of_getElem? (i := 1017) (by decide +kernel), List.mem_of_getElem? (i := 1357) (by decide +kernel), List.mem_of_getElem? (i := 1358) (by decide +kernel)⟩
theorem lw_p71 : lw_okq (⟨"PaceStoreModel", "ofRabbit", "(II)I"⟩, 30) := ⟨⟨by decide +kernel, by decide +kernel⟩, List.mem_of_getElem? (i := 1017) (by decide +kernel), List.mem_of_getElem? (i := 1361) (by decide +kernel), List.mem_of_getElem? (i := 1362) (by decide +kernel)⟩
theorem lw_p72 : lw_okq (⟨"PaceStoreModel", "paceFor", "(IIII)I"⟩, 30) := ⟨⟨by decide +kernel, by decide +kernel⟩, List.mem_of_getElem? (i := 1017) (by decide +kernel), List.mem_of_getElem? (i := 1366) (by decide +kernel), List.mem_of_getElem? (i := 1367) (by decide +kernel)⟩
theorem lw_p73 : lw_okq (⟨"PaceStoreModel", "evenTime", "(III)I"⟩, 30) := ⟨⟨by decide +kernel, by decide +kernel⟩, List.mem_of_getElem? (i := 1017) (by decide +kernel), List.mem_of_getElem? (i := 1374) (by decide +kernel), List.mem_of_getElem? (i := 1375) (by decide +kernel)⟩
theorem lw_p74 : lw_okq (⟨"PaceStoreModel", "coinOf", "(I)I"⟩, 30) := ⟨⟨by decide +kernel, by decide +kernel⟩, List.mem_of_getElem? (i := 1017) (by decide +kernel), List.mem_of_getElem? (i := 1388) (by decide +kernel), List.mem_of_getElem? (i := 1389) (by decide +kernel)⟩
theorem lw_p75 : lw_okq (⟨"PaceStoreModel", "isGame", "(II)Z"⟩, 30) := ⟨⟨by decide +kernel, by decide +kernel⟩, List.mem_of_getElem? (i := 1017) (by decide +kernel), List.mem_of_getElem? (i := 1400) (by decide +kernel), List.mem_of_getElem? (i := 1401) (by decide +kernel)⟩
theorem lw_p76 : lw_okq (⟨"PaceStoreModel", "gameOf", "(IIII)I"⟩, 30) := ⟨⟨by decide +kernel, by decide +kernel⟩, List.mem_of_getElem? (i := 1017) (by decide +kernel), List.mem_of_getElem? (i := 1404) (by decide +kernel), List.mem_of_getElem? (i := 1405) (by decide +kernel)⟩
theorem lw_p77 : lw_okq (⟨"PaceStoreModel", "planPace", "(III)I"⟩, 30) := ⟨⟨by decide +kernel, by decide +kernel⟩, List.mem_of_getElem? (i := 1017) (by decide +kernel), List.mem_of_getElem? (i := 1408) (by decide +kernel), List.mem_of_getElem? (i := 1409) (by decide +kernel)⟩
theorem lw_p78 : lw_okq (⟨"PaceStoreModel", "isRest", "(II)Z"⟩, 30) := ⟨⟨by decide +kernel, by decide +kernel⟩, List.mem_of_getElem? (i := 1017) (by decide +kernel), List.mem_of_getElem? (i := 1412) (by decide +kernel), List.mem_of_getElem? (i := 1413) (by decide +kernel)⟩
theorem lw_p79 : lw_okq (⟨"PaceStoreModel", "isBorne", "(IIII)Z"⟩, 30) := ⟨⟨by decide +kernel, by decide +kernel⟩, List.mem_of_getElem? (i := 1017) (by decide +kernel), List.mem_of_getElem? (i := 1431) (by decide +kernel), List.mem_of_getElem? (i := 1432) (by decide +kernel)⟩
def lw_privs_5 : List (MethodName × Nat) := [(⟨"PaceStoreModel", "isSet", "(I)Z"⟩, 30), (⟨"PaceStoreModel", "rabbits", "()I"⟩, 30), (⟨"PaceStoreModel", "leastAll", "(II)I"⟩, 30), (⟨"PaceStoreModel", "findLeast", "(II)V"⟩, 30), (⟨"PaceStoreModel", "timeBy", "(IIIII)I"⟩, 30), (⟨"PaceStoreModel", "leftAlone", "(IIIII)I"⟩, 30), (⟨"PaceStoreModel", "isBehindRabbit", "(III)Z"⟩, 30), (⟨"PaceStoreModel", "ofRabbit", "(II)I"⟩, 30), (⟨"PaceStoreModel", "paceFor", "(IIII)I"⟩, 30), (⟨"PaceStoreModel", "evenTime", "(III)I"⟩, 30), (⟨"PaceStoreModel", "coinOf", "(I)I"⟩, 30), (⟨"PaceStoreModel", "isGame", "(II)Z"⟩, 30), (⟨"PaceStoreModel", "gameOf", "(IIII)I"⟩, 30), (⟨"PaceStoreModel", "planPace", "(III)I"⟩, 30), (⟨"PaceStoreModel", "isRest", "(II)Z"⟩, 30), (⟨"PaceStoreModel", "isBorne", "(IIII)Z"⟩, 30)]
theorem lw_r5 : ∀ q ∈ lw_privs_5, lw_okq q := List.forall_mem_cons.mpr ⟨lw_p64, List.forall_mem_cons.mpr ⟨lw_p65, List.forall_mem_cons.mpr ⟨lw_p66, List.forall_mem_cons.mpr ⟨lw_p67, List.forall_mem_cons.mpr ⟨lw_p68, List.forall_mem_cons.mpr ⟨lw_p69, List.forall_mem_cons.mpr ⟨lw_p70, List.forall_mem_cons.mpr ⟨lw_p71, List.forall_mem_cons.mpr ⟨lw_p72, List.forall_mem_cons.mpr ⟨lw_p73, List.forall_mem_cons.mpr ⟨lw_p74, List.forall_mem_cons.mpr ⟨lw_p75, List.forall_mem_cons.mpr ⟨lw_p76, List.forall_mem_cons.mpr ⟨lw_p77, List.forall_mem_cons.mpr ⟨lw_p78, List.forall_mem_cons.mpr ⟨lw_p79, fun _ h => absurd h List.not_mem_nil⟩⟩⟩⟩⟩⟩⟩⟩⟩⟩⟩⟩⟩⟩⟩⟩
theorem lw_p80 : lw_okq (⟨"PaceStoreModel", "feltTime", "(IIII)I"⟩, 30) := ⟨⟨by decide +kernel, by decide +kernel⟩, List.mem_of_getElem? (i := 1017) (by decide +kernel), List.mem_of_getElem? (i := 1449) (by decide +kernel), List.mem_of_getElem? (i := 1450) (by decide +kernel)⟩
theorem lw_p81 : lw_okq (⟨"PaceStoreModel", "isStep", "(II)Z"⟩, 30) := ⟨⟨by decide +kernel, by decide +kernel⟩, List.mem_of_getElem? (i := 1017) (by decide +kernel), List.mem_of_getElem? (i := 1457) (by decide +kernel), List.mem_of_getElem? (i := 1458) (by decide +kernel)⟩
theorem lw_p82 : lw_okq (⟨"PaceStoreModel", "kindOf", "(II)I"⟩, 30) := ⟨⟨by decide +kernel, by decide +kernel⟩, List.mem_of_getElem? (i := 1017) (by decide +kernel), List.mem_of_getElem? (i := 1461) (by decide +kernel), List.mem_of_getElem? (i := 1462) (by decide +kernel)⟩
theorem lw_p83 : lw_okq (⟨"PaceStoreModel", "sizeOf", "(III)I"⟩, 30) := ⟨⟨by decide +kernel, by decide +kernel⟩, List.mem_of_getElem? (i := 1017) (by decide +kernel), List.mem_of_getElem? (i := 1476) (by decide +kernel), List.mem_of_getElem? (i := 1477) (by decide +kernel)⟩
theorem lw_p84 : lw_okq (⟨"PaceStoreModel", "leave", "(IZ)V"⟩, 30) := ⟨⟨by decide +kernel, by decide +kernel⟩, List.mem_of_getElem? (i := 1017) (by decide +kernel), List.mem_of_getElem? (i := 1480) (by decide +kernel), List.mem_of_getElem? (i := 1481) (by decide +kernel)⟩
theorem lw_p85 : lw_okq (⟨"PaceStoreModel", "hardMark", "(III)I"⟩, 30) := ⟨⟨by decide +kernel, by decide +kernel⟩, List.mem_of_getElem? (i := 1017) (by decide +kernel), List.mem_of_getElem? (i := 1484) (by decide +kernel), List.mem_of_getElem? (i := 1485) (by decide +kernel)⟩
theorem lw_p86 : lw_okq (⟨"PaceStoreModel", "markOf", "(III)I"⟩, 30) := ⟨⟨by decide +kernel, by decide +kernel⟩, List.mem_of_getElem? (i := 1017) (by decide +kernel), List.mem_of_getElem? (i := 1488) (by decide +kernel), List.mem_of_getElem? (i := 1489) (by decide +kernel)⟩
def lw_privs_6 : List (MethodName × Nat) := [(⟨"PaceStoreModel", "feltTime", "(IIII)I"⟩, 30), (⟨"PaceStoreModel", "isStep", "(II)Z"⟩, 30), (⟨"PaceStoreModel", "kindOf", "(II)I"⟩, 30), (⟨"PaceStoreModel", "sizeOf", "(III)I"⟩, 30), (⟨"PaceStoreModel", "leave", "(IZ)V"⟩, 30), (⟨"PaceStoreModel", "hardMark", "(III)I"⟩, 30), (⟨"PaceStoreModel", "markOf", "(III)I"⟩, 30)]
theorem lw_r6 : ∀ q ∈ lw_privs_6, lw_okq q := List.forall_mem_cons.mpr ⟨lw_p80, List.forall_mem_cons.mpr ⟨lw_p81, List.forall_mem_cons.mpr ⟨lw_p82, List.forall_mem_cons.mpr ⟨lw_p83, List.forall_mem_cons.mpr ⟨lw_p84, List.forall_mem_cons.mpr ⟨lw_p85, List.forall_mem_cons.mpr ⟨lw_p86, fun _ h => absurd h List.not_mem_nil⟩⟩⟩⟩⟩⟩⟩
def lw_privs : List (MethodName × Nat) := lw_privs_1 ++ (lw_privs_2 ++ (lw_privs_3 ++ (lw_privs_4 ++ (lw_privs_5 ++ (lw_privs_6)))))
def lw_tbl : List Cond := k2_sels lw_privs ++ tables_1
theorem lw_privs_ok : ∀ q ∈ lw_privs, lw_okq q := by
  show ∀ q ∈ lw_privs_1 ++ (lw_privs_2 ++ (lw_privs_3 ++ (lw_privs_4 ++ (lw_privs_5 ++ (lw_privs_6))))), lw_okq q
  exact List.forall_mem_append.mpr ⟨lw_r1, List.forall_mem_append.mpr ⟨lw_r2, List.forall_mem_append.mpr ⟨lw_r3, List.forall_mem_append.mpr ⟨lw_r4, List.forall_mem_append.mpr ⟨lw_r5, lw_r6⟩⟩⟩⟩⟩
end
section
def RX0 : String := "PaceStore$Alone"
def TX0 : u_T := fun k => match k with
  | 0 => ("PaceStore$Alone", "seconds", "[I", true)
  | 1 => ("PaceStore$Alone", "needs", "[[I", true)
  | 2 => ("PaceStore$Alone", "changes", "[[I", true)
  | 3 => ("PaceStore$Alone", "tries", "[[I", true)
  | 4 => ("PaceStore$Alone", "tried", "[I", true)
  | 5 => ("PaceStore$Alone", "least", "[[I", true)
  | 6 => ("PaceStore$Alone", "moreHeats", "[I", true)
  | 7 => ("PaceStore$Alone", "miles", "I", false)
  | 8 => ("PaceStore$Alone", "line", "I", false)
  | 9 => ("PaceStore$Alone", "store", "I", false)
  | _ => ("PaceStore$Alone", "fill", "I", false)
def tyX0 : Nat → FieldType := fun k => match k with
  | 0 => .array .int
  | 1 => .array (.array .int)
  | 2 => .array (.array .int)
  | 3 => .array (.array .int)
  | 4 => .array .int
  | 5 => .array (.array .int)
  | 6 => .array .int
  | 7 => .int
  | 8 => .int
  | 9 => .int
  | _ => .int
abbrev wsX00 : List Cond := u_ws RX0 TX0 11
theorem nmX0 : ∀ a, a < 11 → ∀ b, b < 11 → a ≠ b → (TX0 a).2.1 ≠ (TX0 b).2.1 := by decide +kernel
theorem tyX0_ok : ∀ k, k < 11 → parseFieldDescriptor (TX0 k).2.2.1 = some (tyX0 k) := by decide +kernel
abbrev cX0_init : ByteArray := prog_2_method_1_code
def yX0_init : MethodName := ⟨RX0, "<init>", "()V"⟩
abbrev cX0_face : ByteArray := prog_2_method_2_code
def yX0_face : MethodName := ⟨RX0, "face", "(LPaceStore$Course;II)V"⟩
abbrev cX0_faceHour : ByteArray := prog_2_method_3_code
def yX0_faceHour : MethodName := ⟨RX0, "faceHour", "(LPaceStore$Course;ILPaceStore$Sheet;I)V"⟩
abbrev cX0_faceHeats : ByteArray := prog_2_method_4_code
def yX0_faceHeats : MethodName := ⟨RX0, "faceHeats", "(LPaceStore$Course;II)V"⟩
abbrev cX0_takeLine : ByteArray := prog_2_method_5_code
def yX0_takeLine : MethodName := ⟨RX0, "takeLine", "(I)V"⟩
abbrev cX0_leftBehind : ByteArray := prog_2_method_6_code
def yX0_leftBehind : MethodName := ⟨RX0, "leftBehind", "(III)I"⟩
abbrev cX0_leftAfterEven : ByteArray := prog_2_method_7_code
def yX0_leftAfterEven : MethodName := ⟨RX0, "leftAfterEven", "(II)I"⟩
abbrev cX0_leftAfterSplits : ByteArray := prog_2_method_8_code
def yX0_leftAfterSplits : MethodName := ⟨RX0, "leftAfterSplits", "(LPaceStore$Sheet;I)I"⟩
abbrev cX0_paceThatTakes : ByteArray := prog_2_method_9_code
def yX0_paceThatTakes : MethodName := ⟨RX0, "paceThatTakes", "(I)I"⟩
abbrev cX0_evenPace : ByteArray := prog_2_method_10_code
def yX0_evenPace : MethodName := ⟨RX0, "evenPace", "()I"⟩
abbrev cX0_leastTime : ByteArray := prog_2_method_11_code
def yX0_leastTime : MethodName := ⟨RX0, "leastTime", "()I"⟩
abbrev cX0_solve : ByteArray := prog_2_method_12_code
def yX0_solve : MethodName := ⟨RX0, "solve", "()V"⟩
abbrev cX0_chooseTries : ByteArray := prog_2_method_13_code
def yX0_chooseTries : MethodName := ⟨RX0, "chooseTries", "(I)V"⟩
abbrev cX0_leastAt : ByteArray := prog_2_method_14_code
def yX0_leastAt : MethodName := ⟨RX0, "leastAt", "(II)I"⟩
abbrev cX0_leastFrom : ByteArray := prog_2_method_15_code
def yX0_leastFrom : MethodName := ⟨RX0, "leastFrom", "(I)I"⟩
abbrev cX0_paceOfBest : ByteArray := prog_2_method_16_code
def yX0_paceOfBest : MethodName := ⟨RX0, "paceOfBest", "(I)I"⟩
abbrev cX0_firstPace : ByteArray := prog_2_method_17_code
def yX0_firstPace : MethodName := ⟨RX0, "firstPace", "(II)I"⟩
def RX1 : String := "PaceStore$Body"
def TX1 : u_T := fun k => match k with
  | 0 => ("PaceStore$Body", "line", "I", false)
  | 1 => ("PaceStore$Body", "store", "I", false)
  | 2 => ("PaceStore$Body", "fill", "I", false)
  | 3 => ("PaceStore$Body", "left", "I", false)
  | 4 => ("PaceStore$Body", "time", "I", false)
  | 5 => ("PaceStore$Body", "pace", "I", false)
  | 6 => ("PaceStore$Body", "seconds", "I", false)
  | 7 => ("PaceStore$Body", "isSheltered", "Z", false)
  | 8 => ("PaceStore$Body", "isHard", "Z", false)
  | _ => ("PaceStore$Body", "isSpentOut", "Z", false)
def tyX1 : Nat → FieldType := fun k => match k with
  | 0 => .int
  | 1 => .int
  | 2 => .int
  | 3 => .int
  | 4 => .int
  | 5 => .int
  | 6 => .int
  | 7 => .boolean
  | 8 => .boolean
  | _ => .boolean
abbrev wsX10 : List Cond := u_ws RX1 TX1 10
theorem nmX1 : ∀ a, a < 10 → ∀ b, b < 10 → a ≠ b → (TX1 a).2.1 ≠ (TX1 b).2.1 := by decide +kernel
theorem tyX1_ok : ∀ k, k < 10 → parseFieldDescriptor (TX1 k).2.2.1 = some (tyX1 k) := by decide +kernel
abbrev cX1_init : ByteArray := prog_3_method_1_code
def yX1_init : MethodName := ⟨RX1, "<init>", "()V"⟩
abbrev cX1_start : ByteArray := prog_3_method_2_code
def yX1_start : MethodName := ⟨RX1, "start", "(LPaceStore$Course;II)V"⟩
abbrev cX1_changePace : ByteArray := prog_3_method_3_code
def yX1_changePace : MethodName := ⟨RX1, "changePace", "(I)V"⟩
abbrev cX1_isShelteredBy : ByteArray := prog_3_method_4_code
def yX1_isShelteredBy : MethodName := ⟨RX1, "isShelteredBy", "(LPaceStore$Body;)Z"⟩
abbrev cX1_run : ByteArray := prog_3_method_5_code
def yX1_run : MethodName := ⟨RX1, "run", "(LPaceStore$Course;I)V"⟩
def RX2 : String := "PaceStore$Course"
def TX2 : u_T := fun k => match k with
  | 0 => ("PaceStore$Course", "isThere", "Z", false)
  | 1 => ("PaceStore$Course", "miles", "I", false)
  | 2 => ("PaceStore$Course", "hills", "[I", true)
  | 3 => ("PaceStore$Course", "heats", "[I", true)
  | 4 => ("PaceStore$Course", "winds", "[I", true)
  | 5 => ("PaceStore$Course", "runners", "I", false)
  | 6 => ("PaceStore$Course", "lines", "[I", true)
  | 7 => ("PaceStore$Course", "stores", "[I", true)
  | 8 => ("PaceStore$Course", "fills", "[I", true)
  | 9 => ("PaceStore$Course", "rules", "[I", true)
  | 10 => ("PaceStore$Course", "ruleWhats", "[I", true)
  | 11 => ("PaceStore$Course", "ruleSides", "[I", true)
  | 12 => ("PaceStore$Course", "ruleNumbers", "[I", true)
  | 13 => ("PaceStore$Course", "ruleSteps", "[I", true)
  | 14 => ("PaceStore$Course", "rabbits", "I", false)
  | 15 => ("PaceStore$Course", "rabbitPaces", "[I", true)
  | 16 => ("PaceStore$Course", "tills", "[I", true)
  | _ => ("PaceStore$Course", "coins", "[I", true)
def tyX2 : Nat → FieldType := fun k => match k with
  | 0 => .boolean
  | 1 => .int
  | 2 => .array .int
  | 3 => .array .int
  | 4 => .array .int
  | 5 => .int
  | 6 => .array .int
  | 7 => .array .int
  | 8 => .array .int
  | 9 => .array .int
  | 10 => .array .int
  | 11 => .array .int
  | 12 => .array .int
  | 13 => .array .int
  | 14 => .int
  | 15 => .array .int
  | 16 => .array .int
  | _ => .array .int
abbrev wsX20 : List Cond := u_ws RX2 TX2 18
theorem nmX2 : ∀ a, a < 18 → ∀ b, b < 18 → a ≠ b → (TX2 a).2.1 ≠ (TX2 b).2.1 := by decide +kernel
theorem tyX2_ok : ∀ k, k < 18 → parseFieldDescriptor (TX2 k).2.2.1 = some (tyX2 k) := by decide +kernel
abbrev cX2_init : ByteArray := prog_4_method_1_code
def yX2_init : MethodName := ⟨RX2, "<init>", "()V"⟩
abbrev cX2_clear : ByteArray := prog_4_method_2_code
def yX2_clear : MethodName := ⟨RX2, "clear", "()V"⟩
abbrev cX2_become : ByteArray := prog_4_method_3_code
def yX2_become : MethodName := ⟨RX2, "become", "(LPaceStore$Course;)V"⟩
abbrev cX2_hasMile : ByteArray := prog_4_method_4_code
def yX2_hasMile : MethodName := ⟨RX2, "hasMile", "(I)Z"⟩
abbrev cX2_hasRunner : ByteArray := prog_4_method_5_code
def yX2_hasRunner : MethodName := ⟨RX2, "hasRunner", "(I)Z"⟩
abbrev cX2_hasRabbits : ByteArray := prog_4_method_6_code
def yX2_hasRabbits : MethodName := ⟨RX2, "hasRabbits", "(I)Z"⟩
abbrev cX2_rulesOfAll : ByteArray := prog_4_method_7_code
def yX2_rulesOfAll : MethodName := ⟨RX2, "rulesOfAll", "()I"⟩
abbrev cX2_costOf : ByteArray := prog_4_method_8_code
def yX2_costOf : MethodName := ⟨RX2, "costOf", "(I)I"⟩
abbrev cX2_needOf : ByteArray := prog_4_method_9_code
def yX2_needOf : MethodName := ⟨RX2, "needOf", "(IIZI)I"⟩
abbrev cX2_easyPace : ByteArray := prog_4_method_10_code
def yX2_easyPace : MethodName := ⟨RX2, "easyPace", "(II)I"⟩
abbrev cX2_isShelteredBy : ByteArray := prog_4_method_11_code
def yX2_isShelteredBy : MethodName := ⟨RX2, "isShelteredBy", "(III)Z"⟩
def RX3 : String := "PaceStore$Field"
def TX3 : u_T := fun k => match k with
  | 0 => ("PaceStore$Field", "bodies", "[LPaceStore$Body;", true)
  | 1 => ("PaceStore$Field", "running", "I", false)
  | _ => ("PaceStore$Field", "slip", "J", false)
def tyX3 : Nat → FieldType := fun k => match k with
  | 0 => .array (.object "PaceStore$Body")
  | 1 => .int
  | _ => .long
abbrev wsX30 : List Cond := u_ws RX3 TX3 3
theorem nmX3 : ∀ a, a < 3 → ∀ b, b < 3 → a ≠ b → (TX3 a).2.1 ≠ (TX3 b).2.1 := by decide +kernel
theorem tyX3_ok : ∀ k, k < 3 → parseFieldDescriptor (TX3 k).2.2.1 = some (tyX3 k) := by decide +kernel
abbrev cX3_init : ByteArray := prog_5_method_1_code
def yX3_init : MethodName := ⟨RX3, "<init>", "()V"⟩
abbrev cX3_runAll : ByteArray := prog_5_method_2_code
def yX3_runAll : MethodName := ⟨RX3, "runAll", "(LPaceStore$Course;LPaceStore$Sheet;IILPaceStore$Results;)V"⟩
abbrev cX3_feel : ByteArray := prog_5_method_3_code
def yX3_feel : MethodName := ⟨RX3, "feel", "(LPaceStore$Course;I)V"⟩
abbrev cX3_leastTime : ByteArray := prog_5_method_4_code
def yX3_leastTime : MethodName := ⟨RX3, "leastTime", "()I"⟩
abbrev cX3_stepByRules : ByteArray := prog_5_method_5_code
def yX3_stepByRules : MethodName := ⟨RX3, "stepByRules", "(LPaceStore$Course;III)I"⟩
abbrev cX3_stepBySlip : ByteArray := prog_5_method_6_code
def yX3_stepBySlip : MethodName := ⟨RX3, "stepBySlip", "()I"⟩
abbrev cX3_runMile : ByteArray := prog_5_method_7_code
def yX3_runMile : MethodName := ⟨RX3, "runMile", "(LPaceStore$Course;I)V"⟩
abbrev cX3_isBehindSomeone : ByteArray := prog_5_method_8_code
def yX3_isBehindSomeone : MethodName := ⟨RX3, "isBehindSomeone", "(I)Z"⟩
abbrev cX3_rank : ByteArray := prog_5_method_9_code
def yX3_rank : MethodName := ⟨RX3, "rank", "(LPaceStore$Results;)V"⟩
abbrev cX3_timeByFeeling : ByteArray := prog_5_method_10_code
def yX3_timeByFeeling : MethodName := ⟨RX3, "timeByFeeling", "(LPaceStore$Course;IIII)I"⟩
def RX4 : String := "PaceStore$Game"
def TX4 : u_T := fun k => match k with
  | 0 => ("PaceStore$Game", "field", "LPaceStore$Field;", true)
  | _ => ("PaceStore$Game", "scores", "[I", true)
def tyX4 : Nat → FieldType := fun k => match k with
  | 0 => .object "PaceStore$Field"
  | _ => .array .int
abbrev wsX40 : List Cond := u_ws RX4 TX4 2
theorem nmX4 : ∀ a, a < 2 → ∀ b, b < 2 → a ≠ b → (TX4 a).2.1 ≠ (TX4 b).2.1 := by decide +kernel
theorem tyX4_ok : ∀ k, k < 2 → parseFieldDescriptor (TX4 k).2.2.1 = some (tyX4 k) := by decide +kernel
abbrev cX4_init : ByteArray := prog_6_method_1_code
def yX4_init : MethodName := ⟨RX4, "<init>", "()V"⟩
abbrev cX4_play : ByteArray := prog_6_method_2_code
def yX4_play : MethodName := ⟨RX4, "play", "(LPaceStore$Course;IIII)I"⟩
abbrev cX4_stepByPlan : ByteArray := prog_6_method_3_code
def yX4_stepByPlan : MethodName := ⟨RX4, "stepByPlan", "(IZ)I"⟩
abbrev cX4_playAll : ByteArray := prog_6_method_4_code
def yX4_playAll : MethodName := ⟨RX4, "playAll", "(LPaceStore$Course;II)V"⟩
abbrev cX4_restsAt : ByteArray := prog_6_method_5_code
def yX4_restsAt : MethodName := ⟨RX4, "restsAt", "(I)Z"⟩
def RX5 : String := "PaceStore$Reader"
def TX5 : u_T := fun k => match k with
  | 0 => ("PaceStore$Reader", "tape", "[B", true)
  | 1 => ("PaceStore$Reader", "draft", "LPaceStore$Course;", true)
  | 2 => ("PaceStore$Reader", "length", "I", false)
  | 3 => ("PaceStore$Reader", "fault", "I", false)
  | 4 => ("PaceStore$Reader", "first", "I", false)
  | 5 => ("PaceStore$Reader", "behind", "I", false)
  | 6 => ("PaceStore$Reader", "sort", "I", false)
  | 7 => ("PaceStore$Reader", "value", "I", false)
  | _ => ("PaceStore$Reader", "taken", "I", false)
def tyX5 : Nat → FieldType := fun k => match k with
  | 0 => .array .byte
  | 1 => .object "PaceStore$Course"
  | 2 => .int
  | 3 => .int
  | 4 => .int
  | 5 => .int
  | 6 => .int
  | 7 => .int
  | _ => .int
abbrev wsX50 : List Cond := u_ws RX5 TX5 9
theorem nmX5 : ∀ a, a < 9 → ∀ b, b < 9 → a ≠ b → (TX5 a).2.1 ≠ (TX5 b).2.1 := by decide +kernel
theorem tyX5_ok : ∀ k, k < 9 → parseFieldDescriptor (TX5 k).2.2.1 = some (tyX5 k) := by decide +kernel
abbrev cX5_init : ByteArray := prog_7_method_1_code
def yX5_init : MethodName := ⟨RX5, "<init>", "()V"⟩
abbrev cX5_takes : ByteArray := prog_7_method_2_code
def yX5_takes : MethodName := ⟨RX5, "takes", "(JI)Z"⟩
abbrev cX5_readsAll : ByteArray := prog_7_method_3_code
def yX5_readsAll : MethodName := ⟨RX5, "readsAll", "()Z"⟩
abbrev cX5_readsMile : ByteArray := prog_7_method_4_code
def yX5_readsMile : MethodName := ⟨RX5, "readsMile", "()Z"⟩
abbrev cX5_readsRunner : ByteArray := prog_7_method_5_code
def yX5_readsRunner : MethodName := ⟨RX5, "readsRunner", "()Z"⟩
abbrev cX5_readsRule : ByteArray := prog_7_method_6_code
def yX5_readsRule : MethodName := ⟨RX5, "readsRule", "(I)Z"⟩
abbrev cX5_readsRabbit : ByteArray := prog_7_method_7_code
def yX5_readsRabbit : MethodName := ⟨RX5, "readsRabbit", "()Z"⟩
abbrev cX5_readsNumber : ByteArray := prog_7_method_8_code
def yX5_readsNumber : MethodName := ⟨RX5, "readsNumber", "(II)Z"⟩
abbrev cX5_readsSemicolon : ByteArray := prog_7_method_9_code
def yX5_readsSemicolon : MethodName := ⟨RX5, "readsSemicolon", "()Z"⟩
abbrev cX5_fails : ByteArray := prog_7_method_10_code
def yX5_fails : MethodName := ⟨RX5, "fails", "(I)Z"⟩
abbrev cX5_isWord : ByteArray := prog_7_method_11_code
def yX5_isWord : MethodName := ⟨RX5, "isWord", "(Ljava/lang/String;)Z"⟩
abbrev cX5_next : ByteArray := prog_7_method_12_code
def yX5_next : MethodName := ⟨RX5, "next", "()V"⟩
abbrev cX5_takeName : ByteArray := prog_7_method_13_code
def yX5_takeName : MethodName := ⟨RX5, "takeName", "()V"⟩
abbrev cX5_takeNumber : ByteArray := prog_7_method_14_code
def yX5_takeNumber : MethodName := ⟨RX5, "takeNumber", "(Z)V"⟩
abbrev cX5_byteAt : ByteArray := prog_7_method_15_code
def yX5_byteAt : MethodName := ⟨RX5, "byteAt", "(I)I"⟩
abbrev cX5_isBlank : ByteArray := prog_7_method_16_code
def yX5_isBlank : MethodName := ⟨RX5, "isBlank", "(I)Z"⟩
abbrev cX5_isLetter : ByteArray := prog_7_method_17_code
def yX5_isLetter : MethodName := ⟨RX5, "isLetter", "(I)Z"⟩
abbrev cX5_isFigure : ByteArray := prog_7_method_18_code
def yX5_isFigure : MethodName := ⟨RX5, "isFigure", "(I)Z"⟩
def RX6 : String := "PaceStore$Results"
def TX6 : u_T := fun k => match k with
  | 0 => ("PaceStore$Results", "rows", "[[I", true)
  | 1 => ("PaceStore$Results", "places", "[I", true)
  | 2 => ("PaceStore$Results", "runners", "I", false)
  | _ => ("PaceStore$Results", "isThere", "Z", false)
def tyX6 : Nat → FieldType := fun k => match k with
  | 0 => .array (.array .int)
  | 1 => .array .int
  | 2 => .int
  | _ => .boolean
abbrev wsX60 : List Cond := u_ws RX6 TX6 4
theorem nmX6 : ∀ a, a < 4 → ∀ b, b < 4 → a ≠ b → (TX6 a).2.1 ≠ (TX6 b).2.1 := by decide +kernel
theorem tyX6_ok : ∀ k, k < 4 → parseFieldDescriptor (TX6 k).2.2.1 = some (tyX6 k) := by decide +kernel
abbrev cX6_init : ByteArray := prog_8_method_1_code
def yX6_init : MethodName := ⟨RX6, "<init>", "()V"⟩
abbrev cX6_become : ByteArray := prog_8_method_2_code
def yX6_become : MethodName := ⟨RX6, "become", "(LPaceStore$Results;)V"⟩
abbrev cX6_record : ByteArray := prog_8_method_3_code
def yX6_record : MethodName := ⟨RX6, "record", "(LPaceStore$Body;II)V"⟩
abbrev cX6_told : ByteArray := prog_8_method_4_code
def yX6_told : MethodName := ⟨RX6, "told", "(III)I"⟩
abbrev cX6_runnerAt : ByteArray := prog_8_method_5_code
def yX6_runnerAt : MethodName := ⟨RX6, "runnerAt", "(I)I"⟩
abbrev cX6_kindOf : ByteArray := prog_8_method_6_code
def yX6_kindOf : MethodName := ⟨RX6, "kindOf", "(II)I"⟩
def RX7 : String := "PaceStore$Sheet"
def TX7 : u_T := fun k => match k with
  | 0 => ("PaceStore$Sheet", "items", "[I", true)
  | 1 => ("PaceStore$Sheet", "lane", "I", false)
  | _ => ("PaceStore$Sheet", "size", "I", false)
def tyX7 : Nat → FieldType := fun k => match k with
  | 0 => .array .int
  | 1 => .int
  | _ => .int
abbrev wsX70 : List Cond := u_ws RX7 TX7 3
theorem nmX7 : ∀ a, a < 3 → ∀ b, b < 3 → a ≠ b → (TX7 a).2.1 ≠ (TX7 b).2.1 := by decide +kernel
theorem tyX7_ok : ∀ k, k < 3 → parseFieldDescriptor (TX7 k).2.2.1 = some (tyX7 k) := by decide +kernel
abbrev cX7_init : ByteArray := prog_9_method_1_code
def yX7_init : MethodName := ⟨RX7, "<init>", "()V"⟩
abbrev cX7_isMissing : ByteArray := prog_9_method_2_code
def yX7_isMissing : MethodName := ⟨RX7, "isMissing", "()Z"⟩
abbrev cX7_begin : ByteArray := prog_9_method_3_code
def yX7_begin : MethodName := ⟨RX7, "begin", "(II)V"⟩
abbrev cX7_end : ByteArray := prog_9_method_4_code
def yX7_end : MethodName := ⟨RX7, "end", "()V"⟩
abbrev cX7_reaches : ByteArray := prog_9_method_5_code
def yX7_reaches : MethodName := ⟨RX7, "reaches", "(II)Z"⟩
abbrev cX7_at : ByteArray := prog_9_method_6_code
def yX7_at : MethodName := ⟨RX7, "at", "(I)I"⟩
abbrev cX7_put : ByteArray := prog_9_method_7_code
def yX7_put : MethodName := ⟨RX7, "put", "(II)I"⟩
def RX8 : String := "PaceStore$Step"
def TX8 : u_T := fun k => match k with
  | 0 => ("PaceStore$Step", "numbers", "[I", true)
  | 1 => ("PaceStore$Step", "traced", "I", false)
  | 2 => ("PaceStore$Step", "kind", "I", false)
  | 3 => ("PaceStore$Step", "mile", "I", false)
  | 4 => ("PaceStore$Step", "seconds", "I", false)
  | 5 => ("PaceStore$Step", "pace", "I", false)
  | _ => ("PaceStore$Step", "leftBehind", "I", false)
def tyX8 : Nat → FieldType := fun k => match k with
  | 0 => .array .int
  | 1 => .int
  | 2 => .int
  | 3 => .int
  | 4 => .int
  | 5 => .int
  | _ => .int
abbrev wsX80 : List Cond := u_ws RX8 TX8 7
theorem nmX8 : ∀ a, a < 7 → ∀ b, b < 7 → a ≠ b → (TX8 a).2.1 ≠ (TX8 b).2.1 := by decide +kernel
theorem tyX8_ok : ∀ k, k < 7 → parseFieldDescriptor (TX8 k).2.2.1 = some (tyX8 k) := by decide +kernel
abbrev cX8_init : ByteArray := prog_10_method_1_code
def yX8_init : MethodName := ⟨RX8, "<init>", "()V"⟩
abbrev cX8_isOne : ByteArray := prog_10_method_2_code
def yX8_isOne : MethodName := ⟨RX8, "isOne", "(II)Z"⟩
abbrev cX8_take : ByteArray := prog_10_method_3_code
def yX8_take : MethodName := ⟨RX8, "take", "(LPaceStore$Results;II)V"⟩
abbrev cX8_size : ByteArray := prog_10_method_4_code
def yX8_size : MethodName := ⟨RX8, "size", "()I"⟩
abbrev cX8_mark : ByteArray := prog_10_method_5_code
def yX8_mark : MethodName := ⟨RX8, "mark", "()I"⟩
abbrev cX8_answer : ByteArray := prog_10_method_6_code
def yX8_answer : MethodName := ⟨RX8, "answer", "(II)I"⟩
abbrev cX8_leaveNumber : ByteArray := prog_10_method_7_code
def yX8_leaveNumber : MethodName := ⟨RX8, "leaveNumber", "(I)V"⟩
def RX9 : String := "PaceStore"
def TX9 : u_T := fun k => match k with
  | 0 => ("PaceStore", "sheets", "[LPaceStore$Sheet;", true)
  | 1 => ("PaceStore", "reader", "LPaceStore$Reader;", true)
  | 2 => ("PaceStore", "course", "LPaceStore$Course;", true)
  | 3 => ("PaceStore", "results", "LPaceStore$Results;", true)
  | 4 => ("PaceStore", "keptCourses", "[LPaceStore$Course;", true)
  | 5 => ("PaceStore", "keptResults", "[LPaceStore$Results;", true)
  | 6 => ("PaceStore", "field", "LPaceStore$Field;", true)
  | 7 => ("PaceStore", "alone", "LPaceStore$Alone;", true)
  | 8 => ("PaceStore", "game", "LPaceStore$Game;", true)
  | 9 => ("PaceStore", "step", "LPaceStore$Step;", true)
  | _ => ("PaceStore", "status", "I", false)
def tyX9 : Nat → FieldType := fun k => match k with
  | 0 => .array (.object "PaceStore$Sheet")
  | 1 => .object "PaceStore$Reader"
  | 2 => .object "PaceStore$Course"
  | 3 => .object "PaceStore$Results"
  | 4 => .array (.object "PaceStore$Course")
  | 5 => .array (.object "PaceStore$Results")
  | 6 => .object "PaceStore$Field"
  | 7 => .object "PaceStore$Alone"
  | 8 => .object "PaceStore$Game"
  | 9 => .object "PaceStore$Step"
  | _ => .int
abbrev wsX90 : List Cond := u_ws RX9 TX9 11
theorem nmX9 : ∀ a, a < 11 → ∀ b, b < 11 → a ≠ b → (TX9 a).2.1 ≠ (TX9 b).2.1 := by decide +kernel
theorem tyX9_ok : ∀ k, k < 11 → parseFieldDescriptor (TX9 k).2.2.1 = some (tyX9 k) := by decide +kernel
abbrev cX9_init : ByteArray := prog_1_method_1_code
def yX9_init : MethodName := ⟨RX9, "<init>", "()V"⟩
abbrev cX9_sheet : ByteArray := prog_1_method_2_code
def yX9_sheet : MethodName := ⟨RX9, "sheet", "(III)I"⟩
abbrev cX9_set : ByteArray := prog_1_method_3_code
def yX9_set : MethodName := ⟨RX9, "set", "(III)I"⟩
abbrev cX9_copy : ByteArray := prog_1_method_4_code
def yX9_copy : MethodName := ⟨RX9, "copy", "(IIIII)I"⟩
abbrev cX9_drop : ByteArray := prog_1_method_5_code
def yX9_drop : MethodName := ⟨RX9, "drop", "(I)I"⟩
abbrev cX9_feed : ByteArray := prog_1_method_6_code
def yX9_feed : MethodName := ⟨RX9, "feed", "(JI)I"⟩
abbrev cX9_course : ByteArray := prog_1_method_7_code
def yX9_course : MethodName := ⟨RX9, "course", "()I"⟩
abbrev cX9_fault : ByteArray := prog_1_method_8_code
def yX9_fault : MethodName := ⟨RX9, "fault", "()I"⟩
abbrev cX9_need : ByteArray := prog_1_method_9_code
def yX9_need : MethodName := ⟨RX9, "need", "(III)I"⟩
abbrev cX9_race : ByteArray := prog_1_method_10_code
def yX9_race : MethodName := ⟨RX9, "race", "(III)I"⟩
abbrev cX9_ran : ByteArray := prog_1_method_11_code
def yX9_ran : MethodName := ⟨RX9, "ran", "(III)I"⟩
abbrev cX9_place : ByteArray := prog_1_method_12_code
def yX9_place : MethodName := ⟨RX9, "place", "(I)I"⟩
abbrev cX9_best : ByteArray := prog_1_method_13_code
def yX9_best : MethodName := ⟨RX9, "best", "(III)I"⟩
abbrev cX9_even : ByteArray := prog_1_method_14_code
def yX9_even : MethodName := ⟨RX9, "even", "(III)I"⟩
abbrev cX9_early : ByteArray := prog_1_method_15_code
def yX9_early : MethodName := ⟨RX9, "early", "(II)I"⟩
abbrev cX9_hired : ByteArray := prog_1_method_16_code
def yX9_hired : MethodName := ⟨RX9, "hired", "(III)I"⟩
abbrev cX9_stays : ByteArray := prog_1_method_17_code
def yX9_stays : MethodName := ⟨RX9, "stays", "(II)I"⟩
abbrev cX9_rests : ByteArray := prog_1_method_18_code
def yX9_rests : MethodName := ⟨RX9, "rests", "(III)I"⟩
abbrev cX9_wins : ByteArray := prog_1_method_19_code
def yX9_wins : MethodName := ⟨RX9, "wins", "(IIII)I"⟩
abbrev cX9_line : ByteArray := prog_1_method_20_code
def yX9_line : MethodName := ⟨RX9, "line", "(III)I"⟩
abbrev cX9_leastLine : ByteArray := prog_1_method_21_code
def yX9_leastLine : MethodName := ⟨RX9, "leastLine", "(ILPaceStore$Sheet;I)I"⟩
abbrev cX9_parts : ByteArray := prog_1_method_22_code
def yX9_parts : MethodName := ⟨RX9, "parts", "(IIII)I"⟩
abbrev cX9_takenOffInAllOrders : ByteArray := prog_1_method_23_code
def yX9_takenOffInAllOrders : MethodName := ⟨RX9, "takenOffInAllOrders", "(LPaceStore$Sheet;II)I"⟩
abbrev cX9_commonDivisor : ByteArray := prog_1_method_24_code
def yX9_commonDivisor : MethodName := ⟨RX9, "commonDivisor", "(II)I"⟩
abbrev cX9_hour : ByteArray := prog_1_method_25_code
def yX9_hour : MethodName := ⟨RX9, "hour", "(IIIII)I"⟩
abbrev cX9_bestHour : ByteArray := prog_1_method_26_code
def yX9_bestHour : MethodName := ⟨RX9, "bestHour", "(ILPaceStore$Sheet;III)I"⟩
abbrev cX9_feeling : ByteArray := prog_1_method_27_code
def yX9_feeling : MethodName := ⟨RX9, "feeling", "(III)I"⟩
abbrev cX9_image : ByteArray := prog_1_method_28_code
def yX9_image : MethodName := ⟨RX9, "image", "(I)I"⟩
abbrev cX9_restore : ByteArray := prog_1_method_29_code
def yX9_restore : MethodName := ⟨RX9, "restore", "(I)I"⟩
abbrev cX9_kind : ByteArray := prog_1_method_30_code
def yX9_kind : MethodName := ⟨RX9, "kind", "(II)I"⟩
abbrev cX9_as : ByteArray := prog_1_method_31_code
def yX9_as : MethodName := ⟨RX9, "as", "(III)I"⟩
abbrev cX9_ask : ByteArray := prog_1_method_32_code
def yX9_ask : MethodName := ⟨RX9, "ask", "(III)I"⟩
abbrev cX9_trace : ByteArray := prog_1_method_33_code
def yX9_trace : MethodName := ⟨RX9, "trace", "(I)I"⟩
abbrev cX9_count : ByteArray := prog_1_method_34_code
def yX9_count : MethodName := ⟨RX9, "count", "(I)I"⟩
abbrev cX9_status : ByteArray := prog_1_method_35_code
def yX9_status : MethodName := ⟨RX9, "status", "()I"⟩
abbrev cX9_sheetsThere : ByteArray := prog_1_method_36_code
def yX9_sheetsThere : MethodName := ⟨RX9, "sheetsThere", "()I"⟩
abbrev cX9_found : ByteArray := prog_1_method_37_code
def yX9_found : MethodName := ⟨RX9, "found", "(I)I"⟩
abbrev cX9_foundNothing : ByteArray := prog_1_method_38_code
def yX9_foundNothing : MethodName := ⟨RX9, "foundNothing", "(I)I"⟩
abbrev cX9_findingAt : ByteArray := prog_1_method_39_code
def yX9_findingAt : MethodName := ⟨RX9, "findingAt", "(III)I"⟩
abbrev cX9_itemsWithin : ByteArray := prog_1_method_40_code
def yX9_itemsWithin : MethodName := ⟨RX9, "itemsWithin", "(LPaceStore$Sheet;IIII)Z"⟩
abbrev cX9_within : ByteArray := prog_1_method_41_code
def yX9_within : MethodName := ⟨RX9, "within", "(III)Z"⟩
abbrev cX9_isPace : ByteArray := prog_1_method_42_code
def yX9_isPace : MethodName := ⟨RX9, "isPace", "(I)Z"⟩
abbrev cX9_asPace : ByteArray := prog_1_method_43_code
def yX9_asPace : MethodName := ⟨RX9, "asPace", "(I)I"⟩
abbrev cX9_secondsBy : ByteArray := prog_1_method_44_code
def yX9_secondsBy : MethodName := ⟨RX9, "secondsBy", "(I)I"⟩
abbrev cX9_changeBy : ByteArray := prog_1_method_45_code
def yX9_changeBy : MethodName := ⟨RX9, "changeBy", "(III)I"⟩
def RX10 : String := "PaceStoreModel"
def TX10 : u_T := fun k => match k with
  | 0 => ("PaceStoreModel", "now", "[I", false)
  | 1 => ("PaceStoreModel", "spare", "[I", false)
  | 2 => ("PaceStoreModel", "kept", "[I", true)
  | 3 => ("PaceStoreModel", "isKept", "[Z", true)
  | 4 => ("PaceStoreModel", "tape", "[I", true)
  | 5 => ("PaceStoreModel", "tapeLong", "I", false)
  | 6 => ("PaceStoreModel", "faultNumber", "I", false)
  | 7 => ("PaceStoreModel", "finding", "I", false)
  | 8 => ("PaceStoreModel", "lanes", "[I", true)
  | 9 => ("PaceStoreModel", "sizes", "[I", true)
  | 10 => ("PaceStoreModel", "isThere", "[Z", true)
  | 11 => ("PaceStoreModel", "items", "[I", true)
  | 12 => ("PaceStoreModel", "at", "I", false)
  | 13 => ("PaceStoreModel", "size", "I", false)
  | 14 => ("PaceStoreModel", "token", "I", false)
  | 15 => ("PaceStoreModel", "value", "I", false)
  | 16 => ("PaceStoreModel", "tapeEnd", "I", false)
  | 17 => ("PaceStoreModel", "read", "I", false)
  | 18 => ("PaceStoreModel", "hourHeat", "[I", true)
  | 19 => ("PaceStoreModel", "paces", "[I", true)
  | 20 => ("PaceStoreModel", "lefts", "[I", true)
  | 21 => ("PaceStoreModel", "times", "[I", true)
  | 22 => ("PaceStoreModel", "runs", "[Z", true)
  | 23 => ("PaceStoreModel", "shelters", "[Z", true)
  | 24 => ("PaceStoreModel", "took", "I", false)
  | 25 => ("PaceStoreModel", "isOut", "Z", false)
  | 26 => ("PaceStoreModel", "least", "[I", true)
  | 27 => ("PaceStoreModel", "games", "[I", true)
  | 28 => ("PaceStoreModel", "traced", "[I", true)
  | _ => ("PaceStoreModel", "traceMany", "I", false)
def tyX10 : Nat → FieldType := fun k => match k with
  | 0 => .array .int
  | 1 => .array .int
  | 2 => .array .int
  | 3 => .array .boolean
  | 4 => .array .int
  | 5 => .int
  | 6 => .int
  | 7 => .int
  | 8 => .array .int
  | 9 => .array .int
  | 10 => .array .boolean
  | 11 => .array .int
  | 12 => .int
  | 13 => .int
  | 14 => .int
  | 15 => .int
  | 16 => .int
  | 17 => .int
  | 18 => .array .int
  | 19 => .array .int
  | 20 => .array .int
  | 21 => .array .int
  | 22 => .array .boolean
  | 23 => .array .boolean
  | 24 => .int
  | 25 => .boolean
  | 26 => .array .int
  | 27 => .array .int
  | 28 => .array .int
  | _ => .int
abbrev wsX100 : List Cond := u_ws RX10 TX10 30
theorem nmX10 : ∀ a, a < 30 → ∀ b, b < 30 → a ≠ b → (TX10 a).2.1 ≠ (TX10 b).2.1 := by decide +kernel
theorem tyX10_ok : ∀ k, k < 30 → parseFieldDescriptor (TX10 k).2.2.1 = some (tyX10 k) := by decide +kernel
abbrev cX10_init : ByteArray := prog_12_method_1_code
def yX10_init : MethodName := ⟨RX10, "<init>", "()V"⟩
abbrev cX10_in : ByteArray := prog_12_method_3_code
def yX10_in : MethodName := ⟨RX10, "in", "(JJJ)Z"⟩
abbrev cX10_isSheet : ByteArray := prog_12_method_4_code
def yX10_isSheet : MethodName := ⟨RX10, "isSheet", "(I)Z"⟩
abbrev cX10_found : ByteArray := prog_12_method_5_code
def yX10_found : MethodName := ⟨RX10, "found", "(I)I"⟩
abbrev cX10_through : ByteArray := prog_12_method_6_code
def yX10_through : MethodName := ⟨RX10, "through", "(I)I"⟩
abbrev cX10_sheet : ByteArray := prog_12_method_7_code
def yX10_sheet : MethodName := ⟨RX10, "sheet", "(III)I"⟩
abbrev cX10_set : ByteArray := prog_12_method_8_code
def yX10_set : MethodName := ⟨RX10, "set", "(III)I"⟩
abbrev cX10_holds : ByteArray := prog_12_method_9_code
def yX10_holds : MethodName := ⟨RX10, "holds", "(III)Z"⟩
abbrev cX10_copy : ByteArray := prog_12_method_10_code
def yX10_copy : MethodName := ⟨RX10, "copy", "(IIIII)I"⟩
abbrev cX10_drop : ByteArray := prog_12_method_11_code
def yX10_drop : MethodName := ⟨RX10, "drop", "(I)I"⟩
abbrev cX10_item : ByteArray := prog_12_method_12_code
def yX10_item : MethodName := ⟨RX10, "item", "(II)I"⟩
abbrev cX10_feed : ByteArray := prog_12_method_13_code
def yX10_feed : MethodName := ⟨RX10, "feed", "(JI)I"⟩
abbrev cX10_isSmall : ByteArray := prog_12_method_14_code
def yX10_isSmall : MethodName := ⟨RX10, "isSmall", "(I)Z"⟩
abbrev cX10_isFigureAt : ByteArray := prog_12_method_15_code
def yX10_isFigureAt : MethodName := ⟨RX10, "isFigureAt", "(I)Z"⟩
abbrev cX10_look : ByteArray := prog_12_method_16_code
def yX10_look : MethodName := ⟨RX10, "look", "(I)V"⟩
abbrev cX10_next : ByteArray := prog_12_method_17_code
def yX10_next : MethodName := ⟨RX10, "next", "()V"⟩
abbrev cX10_isWord : ByteArray := prog_12_method_18_code
def yX10_isWord : MethodName := ⟨RX10, "isWord", "(IIIIII)Z"⟩
abbrev cX10_faulty : ByteArray := prog_12_method_19_code
def yX10_faulty : MethodName := ⟨RX10, "faulty", "(I)Z"⟩
abbrev cX10_readNumber : ByteArray := prog_12_method_20_code
def yX10_readNumber : MethodName := ⟨RX10, "readNumber", "(II)Z"⟩
abbrev cX10_readStop : ByteArray := prog_12_method_21_code
def yX10_readStop : MethodName := ⟨RX10, "readStop", "()Z"⟩
abbrev cX10_readMile : ByteArray := prog_12_method_22_code
def yX10_readMile : MethodName := ⟨RX10, "readMile", "()Z"⟩
abbrev cX10_readRunner : ByteArray := prog_12_method_23_code
def yX10_readRunner : MethodName := ⟨RX10, "readRunner", "()Z"⟩
abbrev cX10_readRule : ByteArray := prog_12_method_24_code
def yX10_readRule : MethodName := ⟨RX10, "readRule", "(I)Z"⟩
abbrev cX10_readRabbit : ByteArray := prog_12_method_25_code
def yX10_readRabbit : MethodName := ⟨RX10, "readRabbit", "()Z"⟩
abbrev cX10_isMileWord : ByteArray := prog_12_method_26_code
def yX10_isMileWord : MethodName := ⟨RX10, "isMileWord", "()Z"⟩
abbrev cX10_isRunnerWord : ByteArray := prog_12_method_27_code
def yX10_isRunnerWord : MethodName := ⟨RX10, "isRunnerWord", "()Z"⟩
abbrev cX10_readAll : ByteArray := prog_12_method_28_code
def yX10_readAll : MethodName := ⟨RX10, "readAll", "()Z"⟩
abbrev cX10_course : ByteArray := prog_12_method_29_code
def yX10_course : MethodName := ⟨RX10, "course", "()I"⟩
abbrev cX10_fault : ByteArray := prog_12_method_30_code
def yX10_fault : MethodName := ⟨RX10, "fault", "()I"⟩
abbrev cX10_miles : ByteArray := prog_12_method_31_code
def yX10_miles : MethodName := ⟨RX10, "miles", "()I"⟩
abbrev cX10_runners : ByteArray := prog_12_method_32_code
def yX10_runners : MethodName := ⟨RX10, "runners", "()I"⟩
abbrev cX10_rabbits : ByteArray := prog_12_method_33_code
def yX10_rabbits : MethodName := ⟨RX10, "rabbits", "()I"⟩
abbrev cX10_isMile : ByteArray := prog_12_method_34_code
def yX10_isMile : MethodName := ⟨RX10, "isMile", "(I)Z"⟩
abbrev cX10_isRunner : ByteArray := prog_12_method_35_code
def yX10_isRunner : MethodName := ⟨RX10, "isRunner", "(I)Z"⟩
abbrev cX10_isPace : ByteArray := prog_12_method_36_code
def yX10_isPace : MethodName := ⟨RX10, "isPace", "(I)Z"⟩
abbrev cX10_ofRunner : ByteArray := prog_12_method_37_code
def yX10_ofRunner : MethodName := ⟨RX10, "ofRunner", "(II)I"⟩
abbrev cX10_ofRabbit : ByteArray := prog_12_method_38_code
def yX10_ofRabbit : MethodName := ⟨RX10, "ofRabbit", "(II)I"⟩
abbrev cX10_needOf : ByteArray := prog_12_method_39_code
def yX10_needOf : MethodName := ⟨RX10, "needOf", "(IIZ)I"⟩
abbrev cX10_secondsBy : ByteArray := prog_12_method_40_code
def yX10_secondsBy : MethodName := ⟨RX10, "secondsBy", "(I)I"⟩
abbrev cX10_need : ByteArray := prog_12_method_41_code
def yX10_need : MethodName := ⟨RX10, "need", "(III)I"⟩
abbrev cX10_leftBehind : ByteArray := prog_12_method_42_code
def yX10_leftBehind : MethodName := ⟨RX10, "leftBehind", "(IIII)I"⟩
abbrev cX10_easyPace : ByteArray := prog_12_method_43_code
def yX10_easyPace : MethodName := ⟨RX10, "easyPace", "(II)I"⟩
abbrev cX10_goMile : ByteArray := prog_12_method_44_code
def yX10_goMile : MethodName := ⟨RX10, "goMile", "(IIZ)V"⟩
abbrev cX10_isSheltered : ByteArray := prog_12_method_45_code
def yX10_isSheltered : MethodName := ⟨RX10, "isSheltered", "(I)Z"⟩
abbrev cX10_startRace : ByteArray := prog_12_method_46_code
def yX10_startRace : MethodName := ⟨RX10, "startRace", "()V"⟩
abbrev cX10_brought : ByteArray := prog_12_method_47_code
def yX10_brought : MethodName := ⟨RX10, "brought", "(I)I"⟩
abbrev cX10_leastTime : ByteArray := prog_12_method_48_code
def yX10_leastTime : MethodName := ⟨RX10, "leastTime", "()I"⟩
abbrev cX10_paceByRules : ByteArray := prog_12_method_49_code
def yX10_paceByRules : MethodName := ⟨RX10, "paceByRules", "(III)I"⟩
abbrev cX10_findShelters : ByteArray := prog_12_method_50_code
def yX10_findShelters : MethodName := ⟨RX10, "findShelters", "()V"⟩
abbrev cX10_race : ByteArray := prog_12_method_51_code
def yX10_race : MethodName := ⟨RX10, "race", "(III)I"⟩
abbrev cX10_ranOf : ByteArray := prog_12_method_52_code
def yX10_ranOf : MethodName := ⟨RX10, "ranOf", "(III)I"⟩
abbrev cX10_ran : ByteArray := prog_12_method_53_code
def yX10_ran : MethodName := ⟨RX10, "ran", "(III)I"⟩
abbrev cX10_place : ByteArray := prog_12_method_54_code
def yX10_place : MethodName := ⟨RX10, "place", "(I)I"⟩
abbrev cX10_isBehindRabbit : ByteArray := prog_12_method_55_code
def yX10_isBehindRabbit : MethodName := ⟨RX10, "isBehindRabbit", "(III)Z"⟩
abbrev cX10_leftAlone : ByteArray := prog_12_method_56_code
def yX10_leftAlone : MethodName := ⟨RX10, "leftAlone", "(IIIII)I"⟩
abbrev cX10_timeBy : ByteArray := prog_12_method_57_code
def yX10_timeBy : MethodName := ⟨RX10, "timeBy", "(IIIII)I"⟩
abbrev cX10_findLeast : ByteArray := prog_12_method_58_code
def yX10_findLeast : MethodName := ⟨RX10, "findLeast", "(II)V"⟩
abbrev cX10_leastAll : ByteArray := prog_12_method_59_code
def yX10_leastAll : MethodName := ⟨RX10, "leastAll", "(II)I"⟩
abbrev cX10_paceFor : ByteArray := prog_12_method_60_code
def yX10_paceFor : MethodName := ⟨RX10, "paceFor", "(IIII)I"⟩
abbrev cX10_isSet : ByteArray := prog_12_method_61_code
def yX10_isSet : MethodName := ⟨RX10, "isSet", "(I)Z"⟩
abbrev cX10_best : ByteArray := prog_12_method_62_code
def yX10_best : MethodName := ⟨RX10, "best", "(III)I"⟩
abbrev cX10_evenTime : ByteArray := prog_12_method_63_code
def yX10_evenTime : MethodName := ⟨RX10, "evenTime", "(III)I"⟩
abbrev cX10_even : ByteArray := prog_12_method_64_code
def yX10_even : MethodName := ⟨RX10, "even", "(III)I"⟩
abbrev cX10_early : ByteArray := prog_12_method_65_code
def yX10_early : MethodName := ⟨RX10, "early", "(II)I"⟩
abbrev cX10_coinOf : ByteArray := prog_12_method_66_code
def yX10_coinOf : MethodName := ⟨RX10, "coinOf", "(I)I"⟩
abbrev cX10_hired : ByteArray := prog_12_method_67_code
def yX10_hired : MethodName := ⟨RX10, "hired", "(III)I"⟩
abbrev cX10_stays : ByteArray := prog_12_method_68_code
def yX10_stays : MethodName := ⟨RX10, "stays", "(II)I"⟩
abbrev cX10_planPace : ByteArray := prog_12_method_69_code
def yX10_planPace : MethodName := ⟨RX10, "planPace", "(III)I"⟩
abbrev cX10_gameOf : ByteArray := prog_12_method_70_code
def yX10_gameOf : MethodName := ⟨RX10, "gameOf", "(IIII)I"⟩
abbrev cX10_isGame : ByteArray := prog_12_method_71_code
def yX10_isGame : MethodName := ⟨RX10, "isGame", "(II)Z"⟩
abbrev cX10_worthTo : ByteArray := prog_12_method_72_code
def yX10_worthTo : MethodName := ⟨RX10, "worthTo", "(II)I"⟩
abbrev cX10_isRest : ByteArray := prog_12_method_73_code
def yX10_isRest : MethodName := ⟨RX10, "isRest", "(II)Z"⟩
abbrev cX10_rests : ByteArray := prog_12_method_74_code
def yX10_rests : MethodName := ⟨RX10, "rests", "(III)I"⟩
abbrev cX10_wins : ByteArray := prog_12_method_75_code
def yX10_wins : MethodName := ⟨RX10, "wins", "(IIII)I"⟩
abbrev cX10_paceOf : ByteArray := prog_12_method_76_code
def yX10_paceOf : MethodName := ⟨RX10, "paceOf", "(I)I"⟩
abbrev cX10_isBorne : ByteArray := prog_12_method_77_code
def yX10_isBorne : MethodName := ⟨RX10, "isBorne", "(IIII)Z"⟩
abbrev cX10_line : ByteArray := prog_12_method_78_code
def yX10_line : MethodName := ⟨RX10, "line", "(III)I"⟩
abbrev cX10_parts : ByteArray := prog_12_method_79_code
def yX10_parts : MethodName := ⟨RX10, "parts", "(IIII)I"⟩
abbrev cX10_hour : ByteArray := prog_12_method_80_code
def yX10_hour : MethodName := ⟨RX10, "hour", "(IIIII)I"⟩
abbrev cX10_feltTime : ByteArray := prog_12_method_81_code
def yX10_feltTime : MethodName := ⟨RX10, "feltTime", "(IIII)I"⟩
abbrev cX10_feeling : ByteArray := prog_12_method_82_code
def yX10_feeling : MethodName := ⟨RX10, "feeling", "(III)I"⟩
abbrev cX10_isStep : ByteArray := prog_12_method_83_code
def yX10_isStep : MethodName := ⟨RX10, "isStep", "(II)Z"⟩
abbrev cX10_kindOf : ByteArray := prog_12_method_84_code
def yX10_kindOf : MethodName := ⟨RX10, "kindOf", "(II)I"⟩
abbrev cX10_kind : ByteArray := prog_12_method_85_code
def yX10_kind : MethodName := ⟨RX10, "kind", "(II)I"⟩
abbrev cX10_isOf : ByteArray := prog_12_method_86_code
def yX10_isOf : MethodName := ⟨RX10, "isOf", "(II)Z"⟩
abbrev cX10_as : ByteArray := prog_12_method_87_code
def yX10_as : MethodName := ⟨RX10, "as", "(III)I"⟩
abbrev cX10_leave : ByteArray := prog_12_method_88_code
def yX10_leave : MethodName := ⟨RX10, "leave", "(IZ)V"⟩
abbrev cX10_sizeOf : ByteArray := prog_12_method_89_code
def yX10_sizeOf : MethodName := ⟨RX10, "sizeOf", "(III)I"⟩
abbrev cX10_hardMark : ByteArray := prog_12_method_90_code
def yX10_hardMark : MethodName := ⟨RX10, "hardMark", "(III)I"⟩
abbrev cX10_markOf : ByteArray := prog_12_method_91_code
def yX10_markOf : MethodName := ⟨RX10, "markOf", "(III)I"⟩
abbrev cX10_ask : ByteArray := prog_12_method_92_code
def yX10_ask : MethodName := ⟨RX10, "ask", "(III)I"⟩
abbrev cX10_trace : ByteArray := prog_12_method_93_code
def yX10_trace : MethodName := ⟨RX10, "trace", "(I)I"⟩
abbrev cX10_image : ByteArray := prog_12_method_94_code
def yX10_image : MethodName := ⟨RX10, "image", "(I)I"⟩
abbrev cX10_restore : ByteArray := prog_12_method_95_code
def yX10_restore : MethodName := ⟨RX10, "restore", "(I)I"⟩
abbrev cX10_count : ByteArray := prog_12_method_96_code
def yX10_count : MethodName := ⟨RX10, "count", "(I)I"⟩
abbrev cX10_status : ByteArray := prog_12_method_97_code
def yX10_status : MethodName := ⟨RX10, "status", "()I"⟩
def RJ6 : String := "java/lang/Integer"
abbrev cJ6_compare_7cf53 : ByteArray := prog_13_method_40_code
def yJ6_compare_7cf53 : MethodName := ⟨RJ6, "compare", "(II)I"⟩
abbrev cJ6_bitCount_0f7a4 : ByteArray := prog_13_method_49_code
def yJ6_bitCount_0f7a4 : MethodName := ⟨RJ6, "bitCount", "(I)I"⟩
def RJ9 : String := "java/lang/Math"
abbrev cJ9_abs_0f7a4 : ByteArray := prog_14_method_59_code
def yJ9_abs_0f7a4 : MethodName := ⟨RJ9, "abs", "(I)I"⟩
abbrev cJ9_max_7cf53 : ByteArray := prog_14_method_65_code
def yJ9_max_7cf53 : MethodName := ⟨RJ9, "max", "(II)I"⟩
abbrev cJ9_min_7cf53 : ByteArray := prog_14_method_69_code
def yJ9_min_7cf53 : MethodName := ⟨RJ9, "min", "(II)I"⟩
def RJ0 : String := "java/lang/String"
abbrev cJ0_length_8abf5 : ByteArray := prog_15_method_54_code
def yJ0_length_8abf5 : MethodName := ⟨RJ0, "length", "()I"⟩
abbrev cJ0_charAt_5068e : ByteArray := prog_15_method_56_code
def yJ0_charAt_5068e : MethodName := ⟨RJ0, "charAt", "(I)C"⟩
abbrev cJ0_coder_7d493 : ByteArray := prog_15_method_152_code
def yJ0_coder_7d493 : MethodName := ⟨RJ0, "coder", "()B"⟩
abbrev cJ0_isLatin1_aae02 : ByteArray := prog_15_method_154_code
def yJ0_isLatin1_aae02 : MethodName := ⟨RJ0, "isLatin1", "()Z"⟩
abbrev cJ0_checkIndex_df160 : ByteArray := prog_15_method_155_code
def yJ0_checkIndex_df160 : MethodName := ⟨RJ0, "checkIndex", "(II)V"⟩
def RJ1 : String := "java/lang/StringLatin1"
abbrev cJ1_charAt_3b067 : ByteArray := prog_16_method_2_code
def yJ1_charAt_3b067 : MethodName := ⟨RJ1, "charAt", "([BI)C"⟩
def RJ2 : String := "java/lang/StringUTF16"
abbrev cJ2_getChar_3b067 : ByteArray := prog_17_method_5_code
def yJ2_getChar_3b067 : MethodName := ⟨RJ2, "getChar", "([BI)C"⟩
abbrev cJ2_length_9d52b : ByteArray := prog_17_method_6_code
def yJ2_length_9d52b : MethodName := ⟨RJ2, "length", "([B)I"⟩
abbrev cJ2_charAt_3b067 : ByteArray := prog_17_method_83_code
def yJ2_charAt_3b067 : MethodName := ⟨RJ2, "charAt", "([BI)C"⟩
abbrev cJ2_checkIndex_2214a : ByteArray := prog_17_method_91_code
def yJ2_checkIndex_2214a : MethodName := ⟨RJ2, "checkIndex", "(I[B)V"⟩
def RJ10 : String := "java/lang/System"
def RJ7 : String := "java/util/Arrays"
abbrev cJ7_fill_53178 : ByteArray := prog_19_method_103_code
def yJ7_fill_53178 : MethodName := ⟨RJ7, "fill", "([II)V"⟩
def RJ3 : String := "jdk/internal/util/Preconditions"
abbrev cJ3_checkIndex_8e157 : ByteArray := prog_20_method_11_code
def yJ3_checkIndex_8e157 : MethodName := ⟨RJ3, "checkIndex", "(IILjava/util/function/BiFunction;)I"⟩
def RL : String := "PaceStoreLaw"
abbrev cL_law : ByteArray := code
def yL_law : MethodName := ⟨RL, "law", "([I)Z"⟩
abbrev vwCl : List vw_C := [(RX0, TX0, 11), (RX1, TX1, 10), (RX2, TX2, 18), (RX3, TX3, 3), (RX4, TX4, 2), (RX5, TX5, 9), (RX6, TX6, 4), (RX7, TX7, 3), (RX8, TX8, 7), (RX9, TX9, 11), (RX10, TX10, 30)]
end
section
/-! the kinds of places (by program: wip/whole/gen_kinds.py): 0 to 63 are the world; 64 the script, 65 the static arrays, 66 the String constants, 67 their bytes -/
def z_cnt (k : Nat) : Nat := (bif Nat.ble k 33 then (bif Nat.ble k 16 then (bif Nat.ble k 7 then (bif Nat.ble k 3 then (bif Nat.ble k 1 then (bif Nat.ble k 0 then 1 else 1) else (bif Nat.ble k 2 then 8 else 8)) else (bif Nat.ble k 5 then (bif Nat.ble k 4 then 1 else 1) else (bif Nat.ble k 6 then 4 else 4))) else (bif Nat.ble k 11 then (bif Nat.ble k 9 then (bif Nat.ble k 8 then 4 else 4) else (bif Nat.ble k 10 then 4 else 4)) else (bif Nat.ble k 13 then (bif Nat.ble k 12 then 4 else 4) else (bif Nat.ble k 14 then 4 else (bif Nat.ble k 15 then 4 else 4))))) else (bif Nat.ble k 24 then (bif Nat.ble k 20 then (bif Nat.ble k 18 then (bif Nat.ble k 17 then 4 else 4) else (bif Nat.ble k 19 then 4 else 4)) else (bif Nat.ble k 22 then (bif Nat.ble k 21 then 3 else 3) else (bif Nat.ble k 23 then 21 else 3))) else (bif Nat.ble k 28 then (bif Nat.ble k 26 then (bif Nat.ble k 25 then 1 else 1) else (bif Nat.ble k 27 then 2 else 2)) else (bif Nat.ble k 30 then (bif Nat.ble k 29 then 8 else 1) else (bif Nat.ble k 31 then 1 else (bif Nat.ble k 32 then 1 else 12)))))) else (bif Nat.ble k 50 then (bif Nat.ble k 41 then (bif Nat.ble k 37 then (bif Nat.ble k 35 then (bif Nat.ble k 34 then 1 else 12) else (bif Nat.ble k 36 then 1 else 12)) else (bif Nat.ble k 39 then (bif Nat.ble k 38 then 1 else 1) else (bif Nat.ble k 40 then 13 else 1))) else (bif Nat.ble k 45 then (bif Nat.ble k 43 then (bif Nat.ble k 42 then 1 else 1) else (bif Nat.ble k 44 then 1 else 1)) else (bif Nat.ble k 47 then (bif Nat.ble k 46 then 1 else 2) else (bif Nat.ble k 48 then 1 else (bif Nat.ble k 49 then 1 else 1))))) else (bif Nat.ble k 59 then (bif Nat.ble k 54 then (bif Nat.ble k 52 then (bif Nat.ble k 51 then 1 else 1) else (bif Nat.ble k 53 then 1 else 1)) else (bif Nat.ble k 56 then (bif Nat.ble k 55 then 1 else 1) else (bif Nat.ble k 57 then 1 else (bif Nat.ble k 58 then 1 else 1)))) else (bif Nat.ble k 63 then (bif Nat.ble k 61 then (bif Nat.ble k 60 then 1 else 1) else (bif Nat.ble k 62 then 1 else 1)) else (bif Nat.ble k 65 then (bif Nat.ble k 64 then 0 else 5) else (bif Nat.ble k 66 then 10 else (bif Nat.ble k 67 then 10 else 0)))))))
def z_kd (k : Nat) : Nat × Nat × Nat × Nat × Nat × Nat := (bif Nat.ble k 31 then (bif Nat.ble k 15 then (bif Nat.ble k 7 then (bif Nat.ble k 3 then (bif Nat.ble k 1 then (bif Nat.ble k 0 then (0, 9, 11, 0, 0, 0) else (2, 3, 8, 2, 0, 0)) else (bif Nat.ble k 2 then (0, 7, 3, 0, 0, 0) else (1, 0, 40, 0, 0, 0))) else (bif Nat.ble k 5 then (bif Nat.ble k 4 then (0, 5, 9, 0, 0, 0) else (1, 1, 600, 0, 0, 0)) else (bif Nat.ble k 6 then (0, 2, 18, 0, 0, 0) else (1, 0, 12, 0, 0, 0)))) else (bif Nat.ble k 11 then (bif Nat.ble k 9 then (bif Nat.ble k 8 then (1, 0, 12, 0, 0, 0) else (1, 0, 12, 0, 0, 0)) else (bif Nat.ble k 10 then (1, 0, 4, 0, 0, 0) else (1, 0, 4, 0, 0, 0))) else (bif Nat.ble k 13 then (bif Nat.ble k 12 then (1, 0, 4, 0, 0, 0) else (1, 0, 4, 0, 0, 0)) else (bif Nat.ble k 14 then (1, 0, 24, 0, 0, 0) else (1, 0, 24, 0, 0, 0))))) else (bif Nat.ble k 23 then (bif Nat.ble k 19 then (bif Nat.ble k 17 then (bif Nat.ble k 16 then (1, 0, 24, 0, 0, 0) else (1, 0, 24, 0, 0, 0)) else (bif Nat.ble k 18 then (1, 0, 5, 0, 0, 0) else (1, 0, 5, 0, 0, 0))) else (bif Nat.ble k 21 then (bif Nat.ble k 20 then (1, 0, 5, 0, 0, 0) else (0, 6, 4, 0, 0, 0)) else (bif Nat.ble k 22 then (2, 7, 7, 23, 7, 0) else (1, 0, 48, 0, 0, 0)))) else (bif Nat.ble k 27 then (bif Nat.ble k 25 then (bif Nat.ble k 24 then (1, 0, 4, 0, 0, 0) else (2, 4, 2, 6, 0, 2)) else (bif Nat.ble k 26 then (2, 5, 2, 21, 0, 1) else (0, 3, 3, 0, 0, 0))) else (bif Nat.ble k 29 then (bif Nat.ble k 28 then (2, 6, 4, 29, 4, 0) else (0, 1, 10, 0, 0, 0)) else (bif Nat.ble k 30 then (0, 0, 11, 0, 0, 0) else (1, 0, 31, 0, 0, 0)))))) else (bif Nat.ble k 47 then (bif Nat.ble k 39 then (bif Nat.ble k 35 then (bif Nat.ble k 33 then (bif Nat.ble k 32 then (2, 7, 12, 33, 0, 0) else (1, 0, 31, 0, 0, 0)) else (bif Nat.ble k 34 then (2, 7, 12, 35, 0, 0) else (1, 0, 31, 0, 0, 0))) else (bif Nat.ble k 37 then (bif Nat.ble k 36 then (2, 7, 12, 37, 0, 0) else (1, 0, 31, 0, 0, 0)) else (bif Nat.ble k 38 then (1, 0, 12, 0, 0, 0) else (2, 7, 13, 40, 0, 0)))) else (bif Nat.ble k 43 then (bif Nat.ble k 41 then (bif Nat.ble k 40 then (1, 0, 100, 0, 0, 0) else (1, 0, 12, 0, 0, 0)) else (bif Nat.ble k 42 then (0, 4, 2, 0, 0, 0) else (1, 0, 16, 0, 0, 0))) else (bif Nat.ble k 45 then (bif Nat.ble k 44 then (0, 8, 7, 0, 0, 0) else (1, 0, 16, 0, 0, 0)) else (bif Nat.ble k 46 then (0, 10, 30, 0, 0, 0) else (1, 0, 479, 0, 0, 0))))) else (bif Nat.ble k 55 then (bif Nat.ble k 51 then (bif Nat.ble k 49 then (bif Nat.ble k 48 then (1, 0, 958, 0, 0, 0) else (1, 2, 2, 0, 0, 0)) else (bif Nat.ble k 50 then (1, 0, 600, 0, 0, 0) else (1, 0, 8, 0, 0, 0))) else (bif Nat.ble k 53 then (bif Nat.ble k 52 then (1, 0, 8, 0, 0, 0) else (1, 2, 8, 0, 0, 0)) else (bif Nat.ble k 54 then (1, 0, 320, 0, 0, 0) else (1, 0, 3, 0, 0, 0)))) else (bif Nat.ble k 59 then (bif Nat.ble k 57 then (bif Nat.ble k 56 then (1, 0, 4, 0, 0, 0) else (1, 0, 4, 0, 0, 0)) else (bif Nat.ble k 58 then (1, 0, 4, 0, 0, 0) else (1, 2, 4, 0, 0, 0))) else (bif Nat.ble k 61 then (bif Nat.ble k 60 then (1, 2, 4, 0, 0, 0) else (1, 0, 1300, 0, 0, 0)) else (bif Nat.ble k 62 then (1, 0, 16, 0, 0, 0) else (bif Nat.ble k 63 then (1, 0, 16, 0, 0, 0) else (3, 0, 0, 0, 0, 0))))))))
def z_ft0 (f : Nat) : Nat × Nat × Nat × Nat := (bif Nat.ble f 5 then (bif Nat.ble f 2 then (bif Nat.ble f 0 then (2, 1, 0, 0) else (bif Nat.ble f 1 then (2, 4, 0, 0) else (2, 6, 0, 0))) else (bif Nat.ble f 3 then (2, 21, 0, 0) else (bif Nat.ble f 4 then (2, 25, 0, 0) else (2, 26, 0, 0)))) else (bif Nat.ble f 8 then (bif Nat.ble f 6 then (2, 27, 0, 0) else (bif Nat.ble f 7 then (2, 30, 0, 0) else (2, 42, 0, 0))) else (bif Nat.ble f 9 then (2, 44, 0, 0) else (bif Nat.ble f 10 then (0, 0, 0, 0) else (0, 0, 0, 0)))))
def z_ft2 (f : Nat) : Nat × Nat × Nat × Nat := (bif Nat.ble f 1 then (bif Nat.ble f 0 then (2, 3, 1, 0) else (0, 0, 0, 0)) else (bif Nat.ble f 2 then (0, 0, 0, 0) else (0, 0, 0, 0)))
def z_ft4 (f : Nat) : Nat × Nat × Nat × Nat := (bif Nat.ble f 4 then (bif Nat.ble f 1 then (bif Nat.ble f 0 then (2, 5, 0, 0) else (2, 6, 0, 1)) else (bif Nat.ble f 2 then (0, 0, 0, 0) else (bif Nat.ble f 3 then (0, 0, 0, 0) else (0, 0, 0, 0)))) else (bif Nat.ble f 6 then (bif Nat.ble f 5 then (0, 0, 0, 0) else (0, 0, 0, 0)) else (bif Nat.ble f 7 then (0, 0, 0, 0) else (bif Nat.ble f 8 then (0, 0, 0, 0) else (0, 0, 0, 0)))))
def z_ft6 (f : Nat) : Nat × Nat × Nat × Nat := (bif Nat.ble f 8 then (bif Nat.ble f 3 then (bif Nat.ble f 1 then (bif Nat.ble f 0 then (0, 0, 0, 0) else (0, 0, 0, 0)) else (bif Nat.ble f 2 then (2, 7, 1, 0) else (2, 8, 1, 0))) else (bif Nat.ble f 5 then (bif Nat.ble f 4 then (2, 9, 1, 0) else (0, 0, 0, 0)) else (bif Nat.ble f 6 then (2, 10, 1, 0) else (bif Nat.ble f 7 then (2, 11, 1, 0) else (2, 12, 1, 0))))) else (bif Nat.ble f 13 then (bif Nat.ble f 10 then (bif Nat.ble f 9 then (2, 13, 1, 0) else (2, 14, 1, 0)) else (bif Nat.ble f 11 then (2, 15, 1, 0) else (bif Nat.ble f 12 then (2, 16, 1, 0) else (2, 17, 1, 0)))) else (bif Nat.ble f 15 then (bif Nat.ble f 14 then (0, 0, 0, 0) else (2, 18, 1, 0)) else (bif Nat.ble f 16 then (2, 19, 1, 0) else (bif Nat.ble f 17 then (2, 20, 1, 0) else (0, 0, 0, 0))))))
def z_ft21 (f : Nat) : Nat × Nat × Nat × Nat := (bif Nat.ble f 1 then (bif Nat.ble f 0 then (2, 22, 1, 0) else (2, 24, 1, 0)) else (bif Nat.ble f 2 then (0, 0, 0, 0) else (bif Nat.ble f 3 then (0, 0, 0, 0) else (0, 0, 0, 0))))
def z_ft27 (f : Nat) : Nat × Nat × Nat × Nat := (bif Nat.ble f 1 then (bif Nat.ble f 0 then (2, 28, 1, 0) else (0, 0, 0, 0)) else (bif Nat.ble f 2 then (1, 0, 0, 0) else (0, 0, 0, 0)))
def z_ft29 (f : Nat) : Nat × Nat × Nat × Nat := (bif Nat.ble f 4 then (bif Nat.ble f 1 then (bif Nat.ble f 0 then (0, 0, 0, 0) else (0, 0, 0, 0)) else (bif Nat.ble f 2 then (0, 0, 0, 0) else (bif Nat.ble f 3 then (0, 0, 0, 0) else (0, 0, 0, 0)))) else (bif Nat.ble f 7 then (bif Nat.ble f 5 then (0, 0, 0, 0) else (bif Nat.ble f 6 then (0, 0, 0, 0) else (0, 0, 0, 0))) else (bif Nat.ble f 8 then (0, 0, 0, 0) else (bif Nat.ble f 9 then (0, 0, 0, 0) else (0, 0, 0, 0)))))
def z_ft30 (f : Nat) : Nat × Nat × Nat × Nat := (bif Nat.ble f 5 then (bif Nat.ble f 2 then (bif Nat.ble f 0 then (2, 31, 0, 0) else (bif Nat.ble f 1 then (2, 32, 0, 0) else (2, 34, 0, 0))) else (bif Nat.ble f 3 then (2, 36, 0, 0) else (bif Nat.ble f 4 then (2, 38, 0, 0) else (2, 39, 0, 0)))) else (bif Nat.ble f 8 then (bif Nat.ble f 6 then (2, 41, 0, 0) else (bif Nat.ble f 7 then (0, 0, 0, 0) else (0, 0, 0, 0))) else (bif Nat.ble f 9 then (0, 0, 0, 0) else (bif Nat.ble f 10 then (0, 0, 0, 0) else (0, 0, 0, 0)))))
def z_ft42 (f : Nat) : Nat × Nat × Nat × Nat := (bif Nat.ble f 0 then (2, 27, 0, 1) else (bif Nat.ble f 1 then (2, 43, 0, 0) else (0, 0, 0, 0)))
def z_ft44 (f : Nat) : Nat × Nat × Nat × Nat := (bif Nat.ble f 3 then (bif Nat.ble f 1 then (bif Nat.ble f 0 then (2, 45, 0, 0) else (0, 0, 0, 0)) else (bif Nat.ble f 2 then (0, 0, 0, 0) else (0, 0, 0, 0))) else (bif Nat.ble f 5 then (bif Nat.ble f 4 then (0, 0, 0, 0) else (0, 0, 0, 0)) else (bif Nat.ble f 6 then (0, 0, 0, 0) else (0, 0, 0, 0))))
def z_ft46 (f : Nat) : Nat × Nat × Nat × Nat := (bif Nat.ble f 14 then (bif Nat.ble f 6 then (bif Nat.ble f 2 then (bif Nat.ble f 0 then (3, 47, 0, 0) else (bif Nat.ble f 1 then (3, 47, 1, 0) else (2, 48, 0, 0))) else (bif Nat.ble f 4 then (bif Nat.ble f 3 then (2, 49, 0, 0) else (2, 50, 0, 0)) else (bif Nat.ble f 5 then (0, 0, 0, 0) else (0, 0, 0, 0)))) else (bif Nat.ble f 10 then (bif Nat.ble f 8 then (bif Nat.ble f 7 then (0, 0, 0, 0) else (2, 51, 0, 0)) else (bif Nat.ble f 9 then (2, 52, 0, 0) else (2, 53, 0, 0))) else (bif Nat.ble f 12 then (bif Nat.ble f 11 then (2, 54, 0, 0) else (0, 0, 0, 0)) else (bif Nat.ble f 13 then (0, 0, 0, 0) else (0, 0, 0, 0))))) else (bif Nat.ble f 22 then (bif Nat.ble f 18 then (bif Nat.ble f 16 then (bif Nat.ble f 15 then (0, 0, 0, 0) else (0, 0, 0, 0)) else (bif Nat.ble f 17 then (0, 0, 0, 0) else (2, 55, 0, 0))) else (bif Nat.ble f 20 then (bif Nat.ble f 19 then (2, 56, 0, 0) else (2, 57, 0, 0)) else (bif Nat.ble f 21 then (2, 58, 0, 0) else (2, 59, 0, 0)))) else (bif Nat.ble f 26 then (bif Nat.ble f 24 then (bif Nat.ble f 23 then (2, 60, 0, 0) else (0, 0, 0, 0)) else (bif Nat.ble f 25 then (0, 0, 0, 0) else (2, 61, 0, 0))) else (bif Nat.ble f 28 then (bif Nat.ble f 27 then (2, 62, 0, 0) else (2, 63, 0, 0)) else (bif Nat.ble f 29 then (0, 0, 0, 0) else (0, 0, 0, 0))))))
def z_ft (k f : Nat) : Nat × Nat × Nat × Nat := (bif Nat.beq k 0 then z_ft0 f else (bif Nat.beq k 2 then z_ft2 f else (bif Nat.beq k 4 then z_ft4 f else (bif Nat.beq k 6 then z_ft6 f else (bif Nat.beq k 21 then z_ft21 f else (bif Nat.beq k 27 then z_ft27 f else (bif Nat.beq k 29 then z_ft29 f else (bif Nat.beq k 30 then z_ft30 f else (bif Nat.beq k 42 then z_ft42 f else (bif Nat.beq k 44 then z_ft44 f else (bif Nat.beq k 46 then z_ft46 f else (0, 0, 0, 0))))))))))))
end
section
/-! ===== THE ABSTRACT MACHINE: values, memory, places ===== -/
/-- a value: an int, a long, a place (kind, number) -/
abbrev z_V : Type := Int32 ⊕ Int64 ⊕ (Nat × Nat)
/-- the memory: ints by kind, number, slot; longs by kind, number; which of two rows a field names, by kind, field's number -/
abbrev z_M : Type := (Nat → Nat → Nat → Int32) × (Nat → Nat → Int64) × (Nat → Nat → Bool)
abbrev z_L : Type := List (Nat × z_V)
abbrev z_K : Type := z_L → List z_V → z_M → Prop
/-- launch, classes, addresses of the places, array classes, the script's length and ints -/
abbrev z_Cx : Type := Launch × va_G × (Nat → Nat → Nat) × (Nat → ClassId) × Nat × (Nat → Int32)
/-- a method: name, code, locals, what it returns -/
abbrev z_MI : Type := MethodName × ByteArray × Nat × Option FieldType
abbrev z_C : Type := z_MI → List z_V → z_M → (Int32 → z_M → Prop) → Prop
abbrev z_X : Type := z_K → (Nat → z_K) → (Int32 → z_M → Prop) → z_C → z_K
abbrev zi (x : Int32) : z_V := Sum.inl x
abbrev zl (x : Int64) : z_V := Sum.inr (Sum.inl x)
abbrev zr (k i : Nat) : z_V := Sum.inr (Sum.inr (k, i))
def z_co (ad : Nat → Nat → Nat) : z_V → Value
  | .inl x => .int x
  | .inr (.inl x) => .long x
  | .inr (.inr q) => .ref (ad q.1 q.2)
def z_fv (k f i : Nat) (M : z_M) : z_V := match z_ft k f with
  | (0, _, _, _) => zi (M.1 k i f)
  | (1, _, _, _) => zl (M.2.1 k i)
  | (2, a, b, c) => zr a (b * i + c)
  | (_, a, n, _) => zr a (M.2.2 k n).toNat
def z_en (X : z_Cx) (M : z_M) (q : Nat × Nat) : Nat × va_E := (X.2.2.1 q.1 q.2, match z_kd q.1 with
  | (0, ci, nf, _, _, _) => .inr (ci, (List.range nf).map (fun f => z_co X.2.2.1 (z_fv q.1 f q.2 M)))
  | (1, t0, n, _, _, _) => .inl (X.2.2.2.1 t0, n, .inl (M.1 q.1 q.2))
  | (_, t0, n, a, b, c) => .inl (X.2.2.2.1 t0, n, .inr (.inr (.inr (.inr (fun j => some (X.2.2.1 a (b * q.2 + c + j))))))))
def z_pl : List (Nat × Nat) := (List.range 64).flatMap (fun k => (List.range (z_cnt k)).map (fun i => (k, i)))
def z_w (X : z_Cx) (M : z_M) : va_W := z_pl.map (z_en X M)
def z_A (X : z_Cx) : Nat → Prop := fun a => ∃ q ∈ z_pl, a = X.2.2.1 q.1 q.2
def z_inj (X : z_Cx) : Prop := ∀ q ∈ z_pl, ∀ r ∈ z_pl, X.2.2.1 q.1 q.2 = X.2.2.1 r.1 r.2 → q = r
def z_ty (cA : Nat → ClassId) : List (ClassId × FieldType) := [(cA 0, .int), (cA 1, .byte), (cA 2, .boolean), (cA 3, .object "PaceStore$Sheet"), (cA 4, .object "PaceStore$Course"), (cA 5, .object "PaceStore$Results"), (cA 6, .object "PaceStore$Body"), (cA 7, .array .int)]
def z_tt (t : Nat) : FieldType := bif Nat.beq t 0 then .int else bif Nat.beq t 1 then .byte else .boolean
theorem z_pl_mem {k i : Nat} (hk : k < 64) (hi : i < z_cnt k) : (k, i) ∈ z_pl := by
  unfold z_pl
  rw [List.mem_flatMap]
  exact ⟨k, List.mem_range.mpr hk, List.mem_map.mpr ⟨i, List.mem_range.mpr hi, rfl⟩⟩
theorem z_pl_nd : z_pl.Nodup := by decide +kernel
theorem z_pl_at {q : Nat × Nat} (h : q ∈ z_pl) : ∃ q0 : Nat, z_pl[q0]? = some q := List.getElem?_of_mem h
theorem z_pl_inj {i j : Nat} {q : Nat × Nat} (hi : z_pl[i]? = some q) (hj : z_pl[j]? = some q) : i = j := by
  exact (List.getElem?_inj (List.getElem?_eq_some_iff.mp hi).1 z_pl_nd).mp (hi.trans hj.symm)
theorem z_w_at {X : z_Cx} {M : z_M} {q0 : Nat} {q : Nat × Nat} (h : z_pl[q0]? = some q) : (z_w X M)[q0]? = some (z_en X M q) := by
  unfold z_w
  rw [List.getElem?_map, h]
  rfl
theorem z_w_set {X : z_Cx} {M M' : z_M} {q0 : Nat} {q : Nat × Nat} (h : z_pl[q0]? = some q) (hne : ∀ r ∈ z_pl, r ≠ q → z_en X M' r = z_en X M r) : (z_w X M).set q0 (z_en X M' q) = z_w X M' := by
  apply List.ext_getElem?
  intro j
  unfold z_w
  rw [List.getElem?_set, List.getElem?_map, List.getElem?_map, List.length_map]
  by_cases e : q0 = j
  · subst e
    have hl : q0 < z_pl.length := (List.getElem?_eq_some_iff.mp h).1
    rw [if_pos rfl, if_pos hl, h]
    rfl
  · rw [if_neg e]
    cases hj : z_pl[j]? with
    | none => rfl
    | some r =>
      have hr : r ≠ q := fun w => e (z_pl_inj h (w ▸ hj))
      show some (z_en X M r) = some (z_en X M' r)
      rw [hne r (List.mem_of_getElem? hj) hr]
theorem z_w_D {X : z_Cx} {M : z_M} (h : z_inj X) : va_D (z_A X) (z_w X M) := by
  have key : ∀ (i : Nat) (p : Nat × va_E), (z_w X M)[i]? = some p → ∃ q, z_pl[i]? = some q ∧ p = z_en X M q := by
    intro i p hp
    unfold z_w at hp
    rw [List.getElem?_map] at hp
    cases hi : z_pl[i]? with
    | none => rw [hi] at hp; cases hp
    | some q => rw [hi] at hp; exact ⟨q, rfl, (Option.some.inj hp).symm⟩
  refine ⟨fun i j p q hp hq e => ?_, fun k q hq => ?_⟩
  · obtain ⟨a, ha, rfl⟩ := key i p hp
    obtain ⟨b, hb, rfl⟩ := key j q hq
    have : a = b := h a (List.mem_of_getElem? ha) b (List.mem_of_getElem? hb) e
    subst this
    exact z_pl_inj ha hb
  · obtain ⟨a, ha, rfl⟩ := key k q hq
    exact ⟨a, List.mem_of_getElem? ha, rfl⟩
def z_ok : z_V → Prop
  | .inr (.inr q) => q.2 < z_cnt q.1
  | _ => True
def z_oks : List z_V → Prop
  | [] => True
  | v :: r => z_ok v ∧ z_oks r
def z_okl : z_L → Prop
  | [] => True
  | q :: r => z_ok q.2 ∧ z_okl r
def z_cs (X : z_Cx) (st : List z_V) : List Value := st.map (z_co X.2.2.1)
def z_cl (X : z_Cx) (ls : z_L) : List (Nat × Value) := ls.map (fun q => (q.1, z_co X.2.2.1 q.2))
/-- a local's value; a local stored (a long's second half, and what a store breaks, are forgotten) -/
def z_lk (i : Nat) : z_L → Option z_V
  | [] => none
  | (n, v) :: r => bif Nat.beq n i then some v else z_lk i r
def z_isl : z_V → Bool
  | .inr (.inl _) => true
  | _ => false
def z_rm1 (i : Nat) : z_L → z_L
  | [] => []
  | (n, v) :: r => bif Nat.beq n i then z_rm1 i r else bif (Nat.beq (n + 1) i && z_isl v) then z_rm1 i r else (n, v) :: z_rm1 i r
/-- the same, handed on -/
def z_rmk (i : Nat) : z_L → (z_L → Prop) → Prop
  | [], k => k []
  | (n, v) :: r, k => bif Nat.beq n i then z_rmk i r k else bif (Nat.beq (n + 1) i && z_isl v) then z_rmk i r k else z_rmk i r (fun l => k ((n, v) :: l))
theorem z_rmk_eq {i : Nat} : ∀ {ls : z_L} {k : z_L → Prop}, z_rmk i ls k = k (z_rm1 i ls) := by
  intro ls
  induction ls with
  | nil => intro k; rfl
  | cons q r ih =>
    obtain ⟨n, v⟩ := q
    intro k
    unfold z_rmk z_rm1
    cases hb : Nat.beq n i with
    | true => exact ih
    | false =>
      cases hc : (Nat.beq (n + 1) i && z_isl v) with
      | true => exact ih
      | false => exact ih
def z_pk : List Nat → z_L → z_L
  | [], _ => []
  | k :: r, ls => match z_lk k ls with
    | some v => (k, v) :: z_pk r ls
    | none => z_pk r ls
def z_pkk : List Nat → z_L → (z_L → Prop) → Prop
  | [], _, k => k []
  | a :: r, ls, k => match z_lk a ls with
    | some v => z_pkk r ls (fun l => k ((a, v) :: l))
    | none => z_pkk r ls k
theorem z_pkk_eq {ls : z_L} : ∀ {ks : List Nat} {k : z_L → Prop}, z_pkk ks ls k = k (z_pk ks ls) := by
  intro ks
  induction ks with
  | nil => intro k; rfl
  | cons a r ih =>
    intro k
    unfold z_pkk z_pk
    cases z_lk a ls with
    | none => exact ih
    | some v => exact ih
def z_wd : List z_V → Nat
  | [] => 0
  | .inr (.inl _) :: r => 2 + z_wd r
  | _ :: r => 1 + z_wd r
def z_pop : Nat → List z_V → List z_V → Option (List z_V × List z_V)
  | 0, st, acc => some (acc, st)
  | _ + 1, [], _ => none
  | n + 1, v :: r, acc => z_pop n r (v :: acc)
/-- ints of memory -/
def z_s (M : z_M) (k i j : Nat) (v : Int32) : z_M := (fun k' i' j' => if k' = k ∧ i' = i ∧ j' = j then v else M.1 k' i' j', M.2)
def z_sl (M : z_M) (k i : Nat) (v : Int64) : z_M := (M.1, fun k' i' => if k' = k ∧ i' = i then v else M.2.1 k' i', M.2.2)
def z_sn (M : z_M) (k n : Nat) (v : Bool) : z_M := (M.1, M.2.1, fun k' n' => if k' = k ∧ n' = n then v else M.2.2 k' n')
theorem z_oks_pop {n : Nat} : ∀ {st acc as r : List z_V}, z_pop n st acc = some (as, r) → z_oks st → z_oks acc → z_oks as ∧ z_oks r := by
  induction n with
  | zero => intro st acc as r h h1 h2; cases h; exact ⟨h2, h1⟩
  | succ n ih =>
    intro st acc as r h h1 h2
    cases st with
    | nil => cases h
    | cons v t => exact ih (acc := v :: acc) h h1.2 ⟨h1.1, h2⟩
theorem z_pop_spec {n : Nat} : ∀ {st acc as r : List z_V}, z_pop n st acc = some (as, r) → ∃ b, as = b ++ acc ∧ b.length = n ∧ st = b.reverse ++ r := by
  induction n with
  | zero => intro st acc as r h; cases h; exact ⟨[], rfl, rfl, rfl⟩
  | succ n ih =>
    intro st acc as r h
    cases st with
    | nil => cases h
    | cons v t =>
      obtain ⟨b, e1, e2, e3⟩ := ih (acc := v :: acc) h
      refine ⟨b ++ [v], by rw [e1, List.append_assoc]; rfl, by rw [List.length_append, e2]; rfl, by rw [e3, List.reverse_append]; rfl⟩
theorem z_lk_ok {i : Nat} : ∀ {ls : z_L} {v : z_V}, z_lk i ls = some v → z_okl ls → z_ok v := by
  intro ls
  induction ls with
  | nil => intro v h; cases h
  | cons q r ih =>
    obtain ⟨n, w⟩ := q
    intro v h ho
    unfold z_lk at h
    cases hb : Nat.beq n i with
    | true => rw [hb] at h; cases h; exact ho.1
    | false => rw [hb] at h; exact ih h ho.2
theorem z_lk_mem {i : Nat} : ∀ {ls : z_L} {v : z_V}, z_lk i ls = some v → (i, v) ∈ ls := by
  intro ls
  induction ls with
  | nil => intro v h; cases h
  | cons q r ih =>
    obtain ⟨n, w⟩ := q
    intro v h
    unfold z_lk at h
    cases hb : Nat.beq n i with
    | true =>
      rw [hb] at h
      cases h
      have e : n = i := Nat.eq_of_beq_eq_true hb
      rw [← e]
      exact List.mem_cons_self
    | false => rw [hb] at h; exact List.mem_cons_of_mem _ (ih h)
theorem z_lk_has {X : z_Cx} {i nL : Nat} {ls : z_L} {v : z_V} {la : Array Slot} (h : z_lk i ls = some v) (hl : lv_has la nL (z_cl X ls)) : la[i]? = some (.val (z_co X.2.2.1 v)) :=
  hl.2.2 (i, z_co X.2.2.1 v) (List.mem_map.mpr ⟨(i, v), z_lk_mem h, rfl⟩)
theorem z_okl_mem {ls : z_L} : z_okl ls ↔ ∀ q ∈ ls, z_ok q.2 := by
  induction ls with
  | nil => exact ⟨fun _ q h => (by cases h), fun _ => trivial⟩
  | cons q r ih => exact ⟨fun h x hx => (List.mem_cons.mp hx).elim (fun e => e ▸ h.1) (fun hx => ih.mp h.2 x hx), fun h => ⟨h q List.mem_cons_self, ih.mpr (fun x hx => h x (List.mem_cons_of_mem _ hx))⟩⟩
theorem z_rm1_sub {i : Nat} : ∀ {ls : z_L} {q : Nat × z_V}, q ∈ z_rm1 i ls → q ∈ ls ∧ ¬ q.1 = i ∧ ¬ (q.1 + 1 = i ∧ z_isl q.2 = true) := by
  intro ls
  induction ls with
  | nil => intro q h; cases h
  | cons a r ih =>
    obtain ⟨n, w⟩ := a
    intro q h
    unfold z_rm1 at h
    cases hb : Nat.beq n i with
    | true => rw [hb] at h; exact ⟨List.mem_cons_of_mem _ (ih h).1, (ih h).2⟩
    | false =>
      rw [hb] at h
      cases hc : (Nat.beq (n + 1) i && z_isl w) with
      | true => rw [hc] at h; exact ⟨List.mem_cons_of_mem _ (ih h).1, (ih h).2⟩
      | false =>
        rw [hc] at h
        rcases List.mem_cons.mp h with e | h
        · subst e
          refine ⟨List.mem_cons_self, fun e => ?_, fun e => ?_⟩
          · rw [show n = i from e, Nat.beq_refl] at hb; cases hb
          · rw [show n + 1 = i from e.1, Nat.beq_refl, show z_isl w = true from e.2] at hc; cases hc
        · exact ⟨List.mem_cons_of_mem _ (ih h).1, (ih h).2⟩
theorem z_pk_sub {ls : z_L} : ∀ {ks : List Nat} {q : Nat × z_V}, q ∈ z_pk ks ls → q ∈ ls := by
  intro ks
  induction ks with
  | nil => intro q h; cases h
  | cons k r ih =>
    intro q h
    unfold z_pk at h
    cases hk : z_lk k ls with
    | none => rw [hk] at h; exact ih h
    | some v =>
      rw [hk] at h
      rcases List.mem_cons.mp h with e | h
      · subst e; exact z_lk_mem hk
      · exact ih h
theorem z_cl_sub {X : z_Cx} {nL : Nat} {ls ls' : z_L} {la : Array Slot} (h : ∀ q ∈ ls', q ∈ ls) (hl : lv_has la nL (z_cl X ls)) : lv_has la nL (z_cl X ls') := by
  refine ⟨hl.1, hl.2.1, fun q hq => ?_⟩
  obtain ⟨a, ha, rfl⟩ := List.mem_map.mp hq
  exact hl.2.2 _ (List.mem_map.mpr ⟨a, h a ha, rfl⟩)
theorem z_okl_sub {ls ls' : z_L} (h : ∀ q ∈ ls', q ∈ ls) (ho : z_okl ls) : z_okl ls' := z_okl_mem.mpr (fun q hq => z_okl_mem.mp ho q (h q hq))
theorem z_co_cat {ad : Nat → Nat → Nat} {v : z_V} : (z_co ad v).category = (bif z_isl v then 2 else 1) := by
  rcases v with x | x | x <;> rfl
theorem z_rm1_okl {i : Nat} {ls : z_L} (h : z_okl ls) : z_okl (z_rm1 i ls) := z_okl_sub (fun _ hq => (z_rm1_sub hq).1) h
theorem z_wd_cs {X : z_Cx} (st : List z_V) : ((z_cs X st).map fun v => v.category).sum = z_wd st := by
  induction st with
  | nil => rfl
  | cons v r ih =>
    have e : ((z_cs X (v :: r)).map fun v => v.category).sum = (z_co X.2.2.1 v).category + ((z_cs X r).map fun v => v.category).sum := by
      simp [z_cs]
    rw [e, ih]
    rcases v with x | x | x <;> rfl
end
section
/-! ===== the words that hold everywhere; rooms by depth; contracts; runs ===== -/
def z_U : List Cond := lw_tbl.filter goodWord
theorem z_U_good {w : Cond} (h : w ∈ z_U) : (w.onTables && w.keeps) = true ∨ ∃ ty, w = .arrayClass ty := good_of_word (List.mem_filter.mp h).2
theorem z_U_mem {w : Cond} {i : Nat} (h : lw_tbl[i]? = some w) (hg : goodWord w = true) : w ∈ z_U := List.mem_filter.mpr ⟨List.mem_of_getElem? h, hg⟩
theorem z_U_in {L : List Cond} (h : ∀ w ∈ L, w ∈ z_U) : GoodIn z_U L := fun w hw => ⟨h w hw, z_U_good (h w hw)⟩
def z_rm (d : Nat) : Room := { frames := d + 1, cells := 0, slots := 0, locals := 64 * (d + 1) }
/-- the static arrays (0 to 3), and the script (4), as the start has them -/
def z_sd (j : Nat) : String × String × Nat × List Int32 := bif Nat.beq j 0 then ("PaceStore", "ORDERS_BEHIND", 4, [6, 2, 2, 6]) else bif Nat.beq j 1 then ("PaceStore$Step", "NEAREST", 6, [0, 0, 0, 1, 2, 2]) else bif Nat.beq j 2 then ("PaceStore$Step", "SIZE_BODIES", 6, [10, 13, 11, 14, 12, 11]) else ("PaceStore$Step", "MARK_BODIES", 6, [20, 23, 21, 24, 21, 22])
def z_sN (X : z_Cx) (j : Nat) : Nat := bif Nat.beq j 4 then X.2.2.2.2.1 else (z_sd j).2.2.1
def z_sv (X : z_Cx) (j i : Nat) : Int32 := bif Nat.beq j 4 then X.2.2.2.2.2 i else (z_sd j).2.2.2.getD i 0
/-- the String constants of the reader: their pool numbers and texts; lengths; bytes -/
def z_sg (j : Nat) : Nat × String := (bif Nat.ble j 4 then (bif Nat.ble j 1 then (bif Nat.ble j 0 then (39, "mile") else (48, "runner")) else (bif Nat.ble j 2 then (50, "when") else (bif Nat.ble j 3 then (59, "rabbit") else (112, "store")))) else (bif Nat.ble j 6 then (bif Nat.ble j 5 then (114, "behind") else (121, "above")) else (bif Nat.ble j 7 then (123, "below") else (bif Nat.ble j 8 then (128, "push") else (130, "ease")))))
def z_sln : List Nat := [4, 6, 4, 6, 5, 6, 5, 5, 4, 4]
def z_sby : List (List Int32) := [[109, 105, 108, 101], [114, 117, 110, 110, 101, 114], [119, 104, 101, 110], [114, 97, 98, 98, 105, 116], [115, 116, 111, 114, 101], [98, 101, 104, 105, 110, 100], [97, 98, 111, 118, 101], [98, 101, 108, 111, 119], [112, 117, 115, 104], [101, 97, 115, 101]]
/-- links to private methods of nest mates -/
def z_N : List (String × Nat × MethodName × String) := [("PaceStore$Alone", 35, ⟨"PaceStore", "secondsBy", "(I)I"⟩, "PaceStore"), ("PaceStore$Sheet", 28, ⟨"PaceStore", "within", "(III)Z"⟩, "PaceStore"), ("PaceStore$Reader", 150, ⟨"PaceStore", "within", "(III)Z"⟩, "PaceStore"), ("PaceStore$Course", 80, ⟨"PaceStore", "within", "(III)Z"⟩, "PaceStore"), ("PaceStore$Body", 44, ⟨"PaceStore", "asPace", "(I)I"⟩, "PaceStore"), ("PaceStore$Body", 54, ⟨"PaceStore", "changeBy", "(III)I"⟩, "PaceStore"), ("PaceStore$Body", 76, ⟨"PaceStore", "secondsBy", "(I)I"⟩, "PaceStore"), ("PaceStore$Alone", 90, ⟨"PaceStore", "changeBy", "(III)I"⟩, "PaceStore"), ("PaceStore$Alone", 94, ⟨"PaceStore", "asPace", "(I)I"⟩, "PaceStore"), ("PaceStore$Game", 52, ⟨"PaceStore", "asPace", "(I)I"⟩, "PaceStore"), ("PaceStore$Step", 13, ⟨"PaceStore", "within", "(III)Z"⟩, "PaceStore")]
def z_SF (X : z_Cx) (U : State) (H : Heap) : Prop :=
  (∀ j : Nat, j < 4 → va_Z (z_sd j).1 (z_sd j).2.1 "[I" (.ref (X.2.2.1 65 j)) (z_A X) U H) ∧ (∀ j : Nat, j < 5 → va_T .int (X.2.2.1 65 j) (z_sN X j) (fun i => .int (z_sv X j i)) (z_A X) U H) ∧
  va_Z "java/lang/String" "COMPACT_STRINGS" "Z" (.int 1) (z_A X) U H ∧ va_Zq "jdk/internal/util/Preconditions" "SIOOBE_FORMATTER" "Ljava/util/function/BiFunction;" (z_A X) U H ∧ vk_S 10 z_sln z_sby (X.2.2.1 66) (X.2.2.1 67) (z_A X) U H ∧
  (∀ j : Nat, j < 10 → vk_R "PaceStore$Reader" (z_sg j).1 (z_sg j).2 (X.2.2.1 66 j) U) ∧ (∀ x ∈ z_N, va_Nw (.methodLinkNest x.1 x.2.1 x.2.2.1 x.2.2.2) U)
theorem z_SF.warm {X : z_Cx} {u U : State} {H : Heap} (hW : u.WarmedH U.vm) (h : z_SF X u H) : z_SF X U H := ⟨fun j hj => (h.1 j hj).moved hW.alike, fun j hj => (h.2.1 j hj).moved hW.alike, h.2.2.1.moved hW.alike, h.2.2.2.1.moved hW.alike, h.2.2.2.2.1.moved hW.alike, fun j hj => (h.2.2.2.2.2.1 j hj).warm hW, fun x hx => (h.2.2.2.2.2.2 x hx).warmM hW⟩
theorem z_SF.same {X : z_Cx} {u U : State} {H : Heap} (hv : U.vm = u.vm) (h : z_SF X u H) : z_SF X U H := by
  have hA : u.vm.Alike U.vm := by rw [hv]; exact Vm.Alike.refl u.vm
  exact ⟨fun j hj => (h.1 j hj).moved hA, fun j hj => (h.2.1 j hj).moved hA, h.2.2.1.moved hA, h.2.2.2.1.moved hA, h.2.2.2.2.1.moved hA, fun j hj => (h.2.2.2.2.2.1 j hj).same hv, fun x hx => (h.2.2.2.2.2.2 x hx).same rfl hv.symm⟩
theorem z_SF.kept {X : z_Cx} {U : State} {H H1 : Heap} (h : z_SF X U H) (hq : ∀ a : Nat, a < H.size → ¬ z_A X a → H1[a]? = H[a]?) : z_SF X U H1 := ⟨fun j hj => (h.1 j hj).kept hq, fun j hj => (h.2.1 j hj).kept hq, h.2.2.1.kept hq, h.2.2.2.1.kept hq, h.2.2.2.2.1.kept hq, h.2.2.2.2.2.1, h.2.2.2.2.2.2⟩
def z_Pc (X : z_Cx) (as : List z_V) (M : z_M) : Array Value → State → Prop := va_Pc (z_cs X as) (fun U => va_P X.2.1 vwCl (z_w X M) U.heap ∧ va_K X.2.1 vwCl (z_ty X.2.2.2.1) U ∧ z_SF X U U.heap ∧ z_inj X)
def z_Q (X : z_Cx) (rt : Option FieldType) (S : Int32 → z_M → Prop) : Array Value → State → Outcome → State → Prop := match rt with
  | none => va_Qv (fun M' : z_M => S 0 M') (fun M' t => va_P X.2.1 vwCl (z_w X M') t.heap) (z_A X)
  | some _ => va_Qi (fun (r : Int32) (M' : z_M) => S r M') (fun M' t => va_P X.2.1 vwCl (z_w X M') t.heap) (z_A X)
abbrev z_ws (q : z_MI) : List Cond := Cond.code q.1 q.2.1 q.2.2.1 q.2.2.2 :: z_U
/-- a contract, at depth d: from the memory M with these arguments, q returns, and S of its answer (0 where it has none) and of the memory then -/
def z_Con (X : z_Cx) (d : Nat) (q : z_MI) (as : List z_V) (M : z_M) (S : Int32 → z_M → Prop) : Prop :=
  z_oks as → Met X.1 q.1 (z_ws q) (z_rm d) (z_Pc X as M) (z_Q X q.2.2.2 S) 0 0 (z_A X)
def z_Ca (X : z_Cx) (D : Nat) : z_C := fun q as M S => ∃ d : Nat, d < D ∧ z_Con X d q as M S
theorem z_Con.mono {X : z_Cx} {d : Nat} {q : z_MI} {as : List z_V} {M : z_M} {S S' : Int32 → z_M → Prop} (h : z_Con X d q as M S) (hS : ∀ v M', S v M' → S' v M') : z_Con X d q as M S' := by
  intro ho
  refine MetFree.mono (h ho) (fun _ _ h => h) (fun _ _ _ _ _ h => h) (fun a s o t _ hq => ⟨?_, hq.2⟩)
  have h1 := hq.1
  revert h1
  unfold z_Q
  cases q.2.2.2 with
  | none =>
    rintro ⟨⟨u, e, p1, p2⟩, hF⟩
    exact ⟨⟨u, e, hS _ _ p1, p2⟩, hF⟩
  | some ty =>
    rintro ⟨⟨r, u, e, p1, p2⟩, hF⟩
    exact ⟨⟨r, u, e, hS _ _ p1, p2⟩, hF⟩
/-- a callee's contract at its call -/
theorem z_use {X : z_Cx} {D d : Nat} {q : z_MI} {as : List z_V} {M : z_M} {S S' : Int32 → z_M → Prop} (h : z_Con X d q as M S) (hd : d < D) (hS : ∀ v M', S v M' → S' v M') : z_Ca X D q as M S' := ⟨d, hd, h.mono hS⟩
/-- what holds all the way through a method's body -/
def z_MC (X : z_Cx) (D : Nat) (q : z_MI) (R : Int32 → z_M → Prop) (p : Program) (e : Env) (s : State) (m : MethodId) (args : Array Value) (below : List Frame) (meth : Method) (c : Code) (Rm : Room) (cells slots : Nat) (Q : State → Prop) : Prop :=
  p.tables.exec = Jvm.exec ∧ c.code = q.2.1 ∧ c.maxLocals = q.2.2.1 ∧ s.vm.findClass q.1.cls = some m.cls ∧ (∀ w ∈ z_U, w.before args s = true) ∧ va_K X.2.1 vwCl (z_ty X.2.2.2.1) s ∧ z_SF X s s.heap ∧ z_inj X ∧
  (D + 1 ≤ Rm.frames ∧ 64 * (D + 1) ≤ Rm.locals ∧ cells ≤ Rm.cells ∧ slots ≤ Rm.slots) ∧
  (∀ (v : Int32) (M : z_M) (H : Heap) (locs : List Loc) (ls : Array Slot) (pc : Nat) (ty : FieldType), q.2.2.2 = some ty → narrow ty (.int v) = .int v → R v M → va_P X.2.1 vwCl (z_w X M) H → va_S (z_A X) s.heap H locs → decode q.2.1 pc = .ok (.ireturn, 1) → W p X.1 e Rm s m args below meth c H locs cells slots Q (F0 m pc ls [.int v])) ∧
  (∀ (M : z_M) (H : Heap) (locs : List Loc) (ls : Array Slot) (pc : Nat), q.2.2.2 = none → R 0 M → va_P X.2.1 vwCl (z_w X M) H → va_S (z_A X) s.heap H locs → decode q.2.1 pc = .ok (.return_, 1) → W p X.1 e Rm s m args below meth c H locs cells slots Q (F0 m pc ls []))
def z_Is (X : z_Cx) (nL : Nat) (s : State) (ls : z_L) (st : List z_V) (M : z_M) (H : Heap) (locs : List Loc) (la : Array Slot) : Prop :=
  z_okl ls ∧ z_oks st ∧ va_P X.2.1 vwCl (z_w X M) H ∧ va_S (z_A X) s.heap H locs ∧ lv_has la nL (z_cl X ls)
/-- from pc and this state the method returns with R -/
def z_Run (X : z_Cx) (D : Nat) (q : z_MI) (R : Int32 → z_M → Prop) (pc : Nat) (ls : z_L) (st : List z_V) (M : z_M) : Prop :=
  ∀ (p : Program) (e : Env) (s : State) (m : MethodId) (args : Array Value) (below : List Frame) (meth : Method) (c : Code) (Rm : Room) (cells slots : Nat) (Q : State → Prop), z_MC X D q R p e s m args below meth c Rm cells slots Q →
  ∀ (H : Heap) (locs : List Loc) (la : Array Slot), z_Is X q.2.2.1 s ls st M H locs la → W p X.1 e Rm s m args below meth c H locs cells slots Q (F0 m pc la (z_cs X st))
/-- a row of a method's table is sound -/
def z_Sd (X : z_Cx) (D : Nat) (q : z_MI) (pc npc : Nat) (f : z_X) : Prop :=
  ∀ (ks : z_K) (kj : Nat → z_K) (R : Int32 → z_M → Prop) (ls : z_L) (st : List z_V) (M : z_M), f ks kj R (z_Ca X D) ls st M → (∀ ls st M, ks ls st M → z_Run X D q R npc ls st M) → (∀ t ls st M, kj t ls st M → z_Run X D q R t ls st M) → z_Run X D q R pc ls st M
def z_no : z_X := fun _ _ _ _ _ _ _ => False
abbrev z_T : Type := Nat → Nat × z_X
def z_Tok (X : z_Cx) (D : Nat) (q : z_MI) (T : z_T) : Prop := ∀ pc : Nat, z_Sd X D q pc (T pc).1 (T pc).2
/-- the stops: a pc, and which locals are kept there -/
def z_sk (t : Nat) : List (Nat × List Nat) → Option (List Nat)
  | [] => none
  | (n, l) :: r => bif Nat.beq n t then some l else z_sk t r
/-- the run of a table, from pc, up to the stops -/
def z_go (T : z_T) (C : z_C) (R : Int32 → z_M → Prop) (stops : List (Nat × List Nat)) (K : Nat → z_K) : Nat → Nat → z_K
  | 0, _, _, _, _ => False
  | n + 1, pc, ls, st, M => match T pc with
    | (npc, f) => f (fun ls st M => match z_sk npc stops with
        | some ks => z_pkk ks ls (fun l => K npc l st M)
        | none => z_go T C R stops K n npc ls st M) (fun t ls st M => match z_sk t stops with
        | some ks => z_pkk ks ls (fun l => K t l st M)
        | none => z_go T C R stops K n t ls st M) R C ls st M
theorem z_Run.sub {X : z_Cx} {D : Nat} {q : z_MI} {R : Int32 → z_M → Prop} {pc : Nat} {ls ls' : z_L} {st : List z_V} {M : z_M} (h : ∀ x ∈ ls', x ∈ ls) (k : z_Run X D q R pc ls' st M) : z_Run X D q R pc ls st M :=
  fun p e s m args below meth c Rm cells slots Q C0 H locs la I => k p e s m args below meth c Rm cells slots Q C0 H locs la ⟨z_okl_sub h I.1, I.2.1, I.2.2.1, I.2.2.2.1, z_cl_sub h I.2.2.2.2⟩
theorem z_go_run {X : z_Cx} {D : Nat} {q : z_MI} {R : Int32 → z_M → Prop} {T : z_T} (hT : z_Tok X D q T) (stops : List (Nat × List Nat)) : ∀ (n : Nat) {pc : Nat} {ls : z_L} {st : List z_V} {M : z_M}, z_go T (z_Ca X D) R stops (z_Run X D q R) n pc ls st M → z_Run X D q R pc ls st M := by
  intro n
  induction n with
  | zero => intro pc ls st M h; exact False.elim h
  | succ n ih =>
    intro pc ls st M h
    have hs := hT pc
    unfold z_go at h
    revert h hs
    cases T pc with
    | mk npc f =>
      intro hs h
      refine hs _ _ R ls st M h (fun ls st M h' => ?_) (fun t ls st M h' => ?_)
      · revert h'
        cases z_sk npc stops with
        | some ks => intro h'; simp only [z_pkk_eq] at h'; exact z_Run.sub (fun _ => z_pk_sub) h'
        | none => exact fun h' => ih h'
      · revert h'
        cases z_sk t stops with
        | some ks => intro h'; simp only [z_pkk_eq] at h'; exact z_Run.sub (fun _ => z_pk_sub) h'
        | none => exact fun h' => ih h'
def z_en0 (n : Nat) : List z_V → z_L
  | [] => []
  | .inr (.inl x) :: r => (n, .inr (.inl x)) :: z_en0 (n + 2) r
  | v :: r => (n, v) :: z_en0 (n + 1) r
def z_enk : Nat → List z_V → (z_L → Prop) → Prop
  | _, [], k => k []
  | n, .inr (.inl x) :: r, k => z_enk (Nat.succ (Nat.succ n)) r (fun l => k ((n, .inr (.inl x)) :: l))
  | n, .inl x :: r, k => z_enk (Nat.succ n) r (fun l => k ((n, .inl x) :: l))
  | n, .inr (.inr x) :: r, k => z_enk (Nat.succ n) r (fun l => k ((n, .inr (.inr x)) :: l))
theorem z_enk_eq : ∀ {as : List z_V} {n : Nat} {k : z_L → Prop}, z_enk n as k = k (z_en0 n as) := by
  intro as
  induction as with
  | nil => intro n k; rfl
  | cons v r ih =>
    intro n k
    rcases v with x | x | x
    · exact ih
    · exact ih
    · exact ih
theorem z_en0_args {X : z_Cx} : ∀ (as : List z_V) (n : Nat), z_cl X (z_en0 n as) = lv_args n (z_cs X as) := by
  intro as
  induction as with
  | nil => intro n; rfl
  | cons v r ih =>
    intro n
    rcases v with x | x | x
    · show (n, _) :: z_cl X (z_en0 (n + 1) r) = _
      rw [ih]; rfl
    · show (n, _) :: z_cl X (z_en0 (n + 2) r) = _
      rw [ih]; rfl
    · show (n, _) :: z_cl X (z_en0 (n + 1) r) = _
      rw [ih]; rfl
theorem z_en0_ok : ∀ (as : List z_V) (n : Nat), z_oks as → z_okl (z_en0 n as) := by
  intro as
  induction as with
  | nil => intro n h; trivial
  | cons v r ih =>
    intro n h
    rcases v with x | x | x
    · exact ⟨trivial, ih _ h.2⟩
    · exact ⟨trivial, ih _ h.2⟩
    · exact ⟨h.1, ih _ h.2⟩
/-- a contract out of the run of a table from its entry -/
theorem z_mk {X : z_Cx} {D : Nat} {q : z_MI} {as : List z_V} {M : z_M} {S : Int32 → z_M → Prop} (hy : plainName q.1.cls = true) (hn : Nat.ble (lg_sl (z_cs X as)).length q.2.2.1 = true)
    (h : z_enk 0 as (fun l => z_Run X D q S 0 l [] M)) : z_Con X D q as M S := by
  rw [z_enk_eq] at h
  intro ho
  refine Met.ofW (cc := q.2.1) (maxL := q.2.2.1) (ret := q.2.2.2) hy rfl ?_
  intro p e s m args below meth c s₁ B hml hv
  obtain ⟨rfl, hP, hK, hF, hJ⟩ := hv
  have hts := atoms_spec (ws := z_ws q) B.pre
  have hl := lv_entry (z_cs X as) (n := q.2.2.1) (Nat.le_of_ble_eq_true hn)
  rw [lg_entry_eq]
  rw [← z_en0_args] at hl
  have hlocks := B.notSynchronized
  have hr := B.returns
  refine h p e s m _ below meth c _ 0 0 _ ⟨B.exec, B.bytes, hml, findClass_of_methodNamed B.named, fun w hw => hts w (List.mem_cons_of_mem _ hw), hK, hF, hJ, ⟨Nat.le_refl _, Nat.le_refl _, Nat.zero_le _, Nat.zero_le _⟩, ?_, ?_⟩ s.heap [] _ ⟨z_en0_ok _ _ ho, trivial, hP, va_S.rf, hl⟩
  · intro v M' H locs ls pc ty hty hnr hR hP' hS' hd
    refine W.zret (ty := ty) B.exec B.bytes (by rw [hr, hty]) hnr (fun t ht hW => ?_) hS'.2.2 hd
    unfold z_Q
    rw [hty]
    exact ⟨⟨v, M', rfl, hR, by show va_P _ _ _ t.heap; rw [ht]; exact hP'⟩, hS'.F ht⟩
  · intro M' H locs ls pc hty hR hP' hS' hd
    refine W.vret B.exec B.bytes (by rw [hr, hty]) (fun t ht hW => ?_) hS'.2.2 hd
    unfold z_Q
    rw [hty]
    exact ⟨⟨M', rfl, hR, by show va_P _ _ _ t.heap; rw [ht]; exact hP'⟩, hS'.F ht⟩
/-- the same, with the table's run -/
theorem z_mg {X : z_Cx} {D : Nat} {q : z_MI} {as : List z_V} {M : z_M} {S : Int32 → z_M → Prop} {T : z_T} (hT : z_Tok X D q T) (stops : List (Nat × List Nat)) (n : Nat) (hy : plainName q.1.cls = true) (hn : Nat.ble (lg_sl (z_cs X as)).length q.2.2.1 = true)
    (h : z_enk 0 as (fun l => z_go T (z_Ca X D) S stops (z_Run X D q S) n 0 l [] M)) : z_Con X D q as M S := by
  refine z_mk hy hn ?_
  rw [z_enk_eq] at h ⊢
  exact z_go_run hT stops n h
end
section
def x_iadd : z_X := fun ks kj R C ls st M => match st with
  | .inl y :: .inl x :: r => ks ls (zi (x + y) :: r) M
  | _ => False
theorem s_iadd {X : z_Cx} {D : Nat} {q : z_MI} {pc : Nat}  (hd : decode q.2.1 pc = .ok (.iadd, 1)) : z_Sd X D q pc (pc + 1) (x_iadd) := by
  intro ks kj R ls st M h hs hj p e s m args below meth c Rm cells slots Q C0 H locs la I
  rcases st with _ | ⟨y | y | y, _ | ⟨x | x | x, r⟩⟩ <;> first | exact False.elim h | skip
  exact lv_iadd C0.1 C0.2.1 hd (hs _ _ _ h p e s m args below meth c Rm cells slots Q C0 H locs la ⟨I.1, ⟨trivial, I.2.1.2.2⟩, I.2.2⟩)
def x_isub : z_X := fun ks kj R C ls st M => match st with
  | .inl y :: .inl x :: r => ks ls (zi (x - y) :: r) M
  | _ => False
theorem s_isub {X : z_Cx} {D : Nat} {q : z_MI} {pc : Nat}  (hd : decode q.2.1 pc = .ok (.isub, 1)) : z_Sd X D q pc (pc + 1) (x_isub) := by
  intro ks kj R ls st M h hs hj p e s m args below meth c Rm cells slots Q C0 H locs la I
  rcases st with _ | ⟨y | y | y, _ | ⟨x | x | x, r⟩⟩ <;> first | exact False.elim h | skip
  exact lv_isub C0.1 C0.2.1 hd (hs _ _ _ h p e s m args below meth c Rm cells slots Q C0 H locs la ⟨I.1, ⟨trivial, I.2.1.2.2⟩, I.2.2⟩)
def x_imul : z_X := fun ks kj R C ls st M => match st with
  | .inl y :: .inl x :: r => ks ls (zi (x * y) :: r) M
  | _ => False
theorem s_imul {X : z_Cx} {D : Nat} {q : z_MI} {pc : Nat}  (hd : decode q.2.1 pc = .ok (.imul, 1)) : z_Sd X D q pc (pc + 1) (x_imul) := by
  intro ks kj R ls st M h hs hj p e s m args below meth c Rm cells slots Q C0 H locs la I
  rcases st with _ | ⟨y | y | y, _ | ⟨x | x | x, r⟩⟩ <;> first | exact False.elim h | skip
  exact lv_imul C0.1 C0.2.1 hd (hs _ _ _ h p e s m args below meth c Rm cells slots Q C0 H locs la ⟨I.1, ⟨trivial, I.2.1.2.2⟩, I.2.2⟩)
def x_iand : z_X := fun ks kj R C ls st M => match st with
  | .inl y :: .inl x :: r => ks ls (zi (x &&& y) :: r) M
  | _ => False
theorem s_iand {X : z_Cx} {D : Nat} {q : z_MI} {pc : Nat}  (hd : decode q.2.1 pc = .ok (.iand, 1)) : z_Sd X D q pc (pc + 1) (x_iand) := by
  intro ks kj R ls st M h hs hj p e s m args below meth c Rm cells slots Q C0 H locs la I
  rcases st with _ | ⟨y | y | y, _ | ⟨x | x | x, r⟩⟩ <;> first | exact False.elim h | skip
  exact lv_iand C0.1 C0.2.1 hd (hs _ _ _ h p e s m args below meth c Rm cells slots Q C0 H locs la ⟨I.1, ⟨trivial, I.2.1.2.2⟩, I.2.2⟩)
def x_ior : z_X := fun ks kj R C ls st M => match st with
  | .inl y :: .inl x :: r => ks ls (zi (x ||| y) :: r) M
  | _ => False
theorem s_ior {X : z_Cx} {D : Nat} {q : z_MI} {pc : Nat}  (hd : decode q.2.1 pc = .ok (.ior, 1)) : z_Sd X D q pc (pc + 1) (x_ior) := by
  intro ks kj R ls st M h hs hj p e s m args below meth c Rm cells slots Q C0 H locs la I
  rcases st with _ | ⟨y | y | y, _ | ⟨x | x | x, r⟩⟩ <;> first | exact False.elim h | skip
  exact lv_ior C0.1 C0.2.1 hd (hs _ _ _ h p e s m args below meth c Rm cells slots Q C0 H locs la ⟨I.1, ⟨trivial, I.2.1.2.2⟩, I.2.2⟩)
def x_ishl : z_X := fun ks kj R C ls st M => match st with
  | .inl y :: .inl x :: r => ks ls (zi (x <<< (y &&& 31)) :: r) M
  | _ => False
theorem s_ishl {X : z_Cx} {D : Nat} {q : z_MI} {pc : Nat}  (hd : decode q.2.1 pc = .ok (.ishl, 1)) : z_Sd X D q pc (pc + 1) (x_ishl) := by
  intro ks kj R ls st M h hs hj p e s m args below meth c Rm cells slots Q C0 H locs la I
  rcases st with _ | ⟨y | y | y, _ | ⟨x | x | x, r⟩⟩ <;> first | exact False.elim h | skip
  exact lv_ishl C0.1 C0.2.1 hd (hs _ _ _ h p e s m args below meth c Rm cells slots Q C0 H locs la ⟨I.1, ⟨trivial, I.2.1.2.2⟩, I.2.2⟩)
def x_ishr : z_X := fun ks kj R C ls st M => match st with
  | .inl y :: .inl x :: r => ks ls (zi (x >>> (y &&& 31)) :: r) M
  | _ => False
theorem s_ishr {X : z_Cx} {D : Nat} {q : z_MI} {pc : Nat}  (hd : decode q.2.1 pc = .ok (.ishr, 1)) : z_Sd X D q pc (pc + 1) (x_ishr) := by
  intro ks kj R ls st M h hs hj p e s m args below meth c Rm cells slots Q C0 H locs la I
  rcases st with _ | ⟨y | y | y, _ | ⟨x | x | x, r⟩⟩ <;> first | exact False.elim h | skip
  exact lv_ishr C0.1 C0.2.1 hd (hs _ _ _ h p e s m args below meth c Rm cells slots Q C0 H locs la ⟨I.1, ⟨trivial, I.2.1.2.2⟩, I.2.2⟩)
def x_iushr : z_X := fun ks kj R C ls st M => match st with
  | .inl y :: .inl x :: r => ks ls (zi ((x.toUInt32 >>> (y.toUInt32 &&& Int32.toUInt32 31)).toInt32) :: r) M
  | _ => False
theorem s_iushr {X : z_Cx} {D : Nat} {q : z_MI} {pc : Nat}  (hd : decode q.2.1 pc = .ok (.iushr, 1)) : z_Sd X D q pc (pc + 1) (x_iushr) := by
  intro ks kj R ls st M h hs hj p e s m args below meth c Rm cells slots Q C0 H locs la I
  rcases st with _ | ⟨y | y | y, _ | ⟨x | x | x, r⟩⟩ <;> first | exact False.elim h | skip
  exact lv_iushr C0.1 C0.2.1 hd rfl (hs _ _ _ h p e s m args below meth c Rm cells slots Q C0 H locs la ⟨I.1, ⟨trivial, I.2.1.2.2⟩, I.2.2⟩)
def x_idiv : z_X := fun ks kj R C ls st M => match st with
  | .inl y :: .inl x :: r => ¬ y = 0 ∧ ks ls (zi (x / y) :: r) M
  | _ => False
theorem s_idiv {X : z_Cx} {D : Nat} {q : z_MI} {pc : Nat}  (hd : decode q.2.1 pc = .ok (.idiv, 1)) : z_Sd X D q pc (pc + 1) (x_idiv) := by
  intro ks kj R ls st M h hs hj p e s m args below meth c Rm cells slots Q C0 H locs la I
  rcases st with _ | ⟨y | y | y, _ | ⟨x | x | x, r⟩⟩ <;> first | exact False.elim h | skip
  exact lv_idiv C0.1 C0.2.1 hd h.1 (hs _ _ _ h.2 p e s m args below meth c Rm cells slots Q C0 H locs la ⟨I.1, ⟨trivial, I.2.1.2.2⟩, I.2.2⟩)
def x_irem : z_X := fun ks kj R C ls st M => match st with
  | .inl y :: .inl x :: r => ¬ y = 0 ∧ ks ls (zi (x - x / y * y) :: r) M
  | _ => False
theorem s_irem {X : z_Cx} {D : Nat} {q : z_MI} {pc : Nat}  (hd : decode q.2.1 pc = .ok (.irem, 1)) : z_Sd X D q pc (pc + 1) (x_irem) := by
  intro ks kj R ls st M h hs hj p e s m args below meth c Rm cells slots Q C0 H locs la I
  rcases st with _ | ⟨y | y | y, _ | ⟨x | x | x, r⟩⟩ <;> first | exact False.elim h | skip
  exact lv_irem C0.1 C0.2.1 hd h.1 (hs _ _ _ h.2 p e s m args below meth c Rm cells slots Q C0 H locs la ⟨I.1, ⟨trivial, I.2.1.2.2⟩, I.2.2⟩)
def x_ladd : z_X := fun ks kj R C ls st M => match st with
  | .inr (.inl y) :: .inr (.inl x) :: r => ks ls (zl (x + y) :: r) M
  | _ => False
theorem s_ladd {X : z_Cx} {D : Nat} {q : z_MI} {pc : Nat}  (hd : decode q.2.1 pc = .ok (.ladd, 1)) : z_Sd X D q pc (pc + 1) (x_ladd) := by
  intro ks kj R ls st M h hs hj p e s m args below meth c Rm cells slots Q C0 H locs la I
  rcases st with _ | ⟨y | y | y, _ | ⟨x | x | x, r⟩⟩ <;> first | exact False.elim h | skip
  exact lv_ladd C0.1 C0.2.1 hd (hs _ _ _ h p e s m args below meth c Rm cells slots Q C0 H locs la ⟨I.1, ⟨trivial, I.2.1.2.2⟩, I.2.2⟩)
def x_lmul : z_X := fun ks kj R C ls st M => match st with
  | .inr (.inl y) :: .inr (.inl x) :: r => ks ls (zl (x * y) :: r) M
  | _ => False
theorem s_lmul {X : z_Cx} {D : Nat} {q : z_MI} {pc : Nat}  (hd : decode q.2.1 pc = .ok (.lmul, 1)) : z_Sd X D q pc (pc + 1) (x_lmul) := by
  intro ks kj R ls st M h hs hj p e s m args below meth c Rm cells slots Q C0 H locs la I
  rcases st with _ | ⟨y | y | y, _ | ⟨x | x | x, r⟩⟩ <;> first | exact False.elim h | skip
  exact lv_lmul C0.1 C0.2.1 hd (hs _ _ _ h p e s m args below meth c Rm cells slots Q C0 H locs la ⟨I.1, ⟨trivial, I.2.1.2.2⟩, I.2.2⟩)
def x_land : z_X := fun ks kj R C ls st M => match st with
  | .inr (.inl y) :: .inr (.inl x) :: r => ks ls (zl (x &&& y) :: r) M
  | _ => False
theorem s_land {X : z_Cx} {D : Nat} {q : z_MI} {pc : Nat}  (hd : decode q.2.1 pc = .ok (.land, 1)) : z_Sd X D q pc (pc + 1) (x_land) := by
  intro ks kj R ls st M h hs hj p e s m args below meth c Rm cells slots Q C0 H locs la I
  rcases st with _ | ⟨y | y | y, _ | ⟨x | x | x, r⟩⟩ <;> first | exact False.elim h | skip
  exact lv_land C0.1 C0.2.1 hd (hs _ _ _ h p e s m args below meth c Rm cells slots Q C0 H locs la ⟨I.1, ⟨trivial, I.2.1.2.2⟩, I.2.2⟩)
def x_lor : z_X := fun ks kj R C ls st M => match st with
  | .inr (.inl y) :: .inr (.inl x) :: r => ks ls (zl (x ||| y) :: r) M
  | _ => False
theorem s_lor {X : z_Cx} {D : Nat} {q : z_MI} {pc : Nat}  (hd : decode q.2.1 pc = .ok (.lor, 1)) : z_Sd X D q pc (pc + 1) (x_lor) := by
  intro ks kj R ls st M h hs hj p e s m args below meth c Rm cells slots Q C0 H locs la I
  rcases st with _ | ⟨y | y | y, _ | ⟨x | x | x, r⟩⟩ <;> first | exact False.elim h | skip
  exact lv_lor C0.1 C0.2.1 hd (hs _ _ _ h p e s m args below meth c Rm cells slots Q C0 H locs la ⟨I.1, ⟨trivial, I.2.1.2.2⟩, I.2.2⟩)
def x_lrem : z_X := fun ks kj R C ls st M => match st with
  | .inr (.inl y) :: .inr (.inl x) :: r => ¬ y = 0 ∧ ks ls (zl (x - x / y * y) :: r) M
  | _ => False
theorem s_lrem {X : z_Cx} {D : Nat} {q : z_MI} {pc : Nat}  (hd : decode q.2.1 pc = .ok (.lrem, 1)) : z_Sd X D q pc (pc + 1) (x_lrem) := by
  intro ks kj R ls st M h hs hj p e s m args below meth c Rm cells slots Q C0 H locs la I
  rcases st with _ | ⟨y | y | y, _ | ⟨x | x | x, r⟩⟩ <;> first | exact False.elim h | skip
  exact lv_lrem C0.1 C0.2.1 hd h.1 (hs _ _ _ h.2 p e s m args below meth c Rm cells slots Q C0 H locs la ⟨I.1, ⟨trivial, I.2.1.2.2⟩, I.2.2⟩)
def x_lcmp : z_X := fun ks kj R C ls st M => match st with
  | .inr (.inl y) :: .inr (.inl x) :: r => ks ls (zi (lg_cmp x y) :: r) M
  | _ => False
theorem s_lcmp {X : z_Cx} {D : Nat} {q : z_MI} {pc : Nat}  (hd : decode q.2.1 pc = .ok (.lcmp, 1)) : z_Sd X D q pc (pc + 1) (x_lcmp) := by
  intro ks kj R ls st M h hs hj p e s m args below meth c Rm cells slots Q C0 H locs la I
  rcases st with _ | ⟨y | y | y, _ | ⟨x | x | x, r⟩⟩ <;> first | exact False.elim h | skip
  exact W.lcmp C0.1 C0.2.1 hd (hs _ _ _ h p e s m args below meth c Rm cells slots Q C0 H locs la ⟨I.1, ⟨trivial, I.2.1.2.2⟩, I.2.2⟩)
def x_lshl : z_X := fun ks kj R C ls st M => match st with
  | .inl y :: .inr (.inl x) :: r => ks ls (zl (x <<< (y.toInt64 &&& 63)) :: r) M
  | _ => False
theorem s_lshl {X : z_Cx} {D : Nat} {q : z_MI} {pc : Nat}  (hd : decode q.2.1 pc = .ok (.lshl, 1)) : z_Sd X D q pc (pc + 1) (x_lshl) := by
  intro ks kj R ls st M h hs hj p e s m args below meth c Rm cells slots Q C0 H locs la I
  rcases st with _ | ⟨y | y | y, _ | ⟨x | x | x, r⟩⟩ <;> first | exact False.elim h | skip
  exact lv_lshl C0.1 C0.2.1 hd rfl (hs _ _ _ h p e s m args below meth c Rm cells slots Q C0 H locs la ⟨I.1, ⟨trivial, I.2.1.2.2⟩, I.2.2⟩)
def x_lshr : z_X := fun ks kj R C ls st M => match st with
  | .inl y :: .inr (.inl x) :: r => ks ls (zl (x >>> (y.toInt64 &&& 63)) :: r) M
  | _ => False
theorem s_lshr {X : z_Cx} {D : Nat} {q : z_MI} {pc : Nat}  (hd : decode q.2.1 pc = .ok (.lshr, 1)) : z_Sd X D q pc (pc + 1) (x_lshr) := by
  intro ks kj R ls st M h hs hj p e s m args below meth c Rm cells slots Q C0 H locs la I
  rcases st with _ | ⟨y | y | y, _ | ⟨x | x | x, r⟩⟩ <;> first | exact False.elim h | skip
  exact lv_lshr C0.1 C0.2.1 hd rfl (hs _ _ _ h p e s m args below meth c Rm cells slots Q C0 H locs la ⟨I.1, ⟨trivial, I.2.1.2.2⟩, I.2.2⟩)
def x_lushr : z_X := fun ks kj R C ls st M => match st with
  | .inl y :: .inr (.inl x) :: r => ks ls (zl ((x.toUInt64 >>> (y.toInt64.toUInt64 &&& Int64.toUInt64 63)).toInt64) :: r) M
  | _ => False
theorem s_lushr {X : z_Cx} {D : Nat} {q : z_MI} {pc : Nat}  (hd : decode q.2.1 pc = .ok (.lushr, 1)) : z_Sd X D q pc (pc + 1) (x_lushr) := by
  intro ks kj R ls st M h hs hj p e s m args below meth c Rm cells slots Q C0 H locs la I
  rcases st with _ | ⟨y | y | y, _ | ⟨x | x | x, r⟩⟩ <;> first | exact False.elim h | skip
  exact lv_lushr C0.1 C0.2.1 hd rfl (hs _ _ _ h p e s m args below meth c Rm cells slots Q C0 H locs la ⟨I.1, ⟨trivial, I.2.1.2.2⟩, I.2.2⟩)
def x_ineg : z_X := fun ks kj R C ls st M => match st with
  | .inl x :: r => ks ls (zi (-x) :: r) M
  | _ => False
theorem s_ineg {X : z_Cx} {D : Nat} {q : z_MI} {pc : Nat}  (hd : decode q.2.1 pc = .ok (.ineg, 1)) : z_Sd X D q pc (pc + 1) (x_ineg) := by
  intro ks kj R ls st M h hs hj p e s m args below meth c Rm cells slots Q C0 H locs la I
  rcases st with _ | ⟨x | x | x, r⟩ <;> first | exact False.elim h | skip
  exact lv_ineg C0.1 C0.2.1 hd (hs _ _ _ h p e s m args below meth c Rm cells slots Q C0 H locs la ⟨I.1, ⟨trivial, I.2.1.2⟩, I.2.2⟩)
def x_i2l : z_X := fun ks kj R C ls st M => match st with
  | .inl x :: r => ks ls (zl x.toInt64 :: r) M
  | _ => False
theorem s_i2l {X : z_Cx} {D : Nat} {q : z_MI} {pc : Nat}  (hd : decode q.2.1 pc = .ok (.i2l, 1)) : z_Sd X D q pc (pc + 1) (x_i2l) := by
  intro ks kj R ls st M h hs hj p e s m args below meth c Rm cells slots Q C0 H locs la I
  rcases st with _ | ⟨x | x | x, r⟩ <;> first | exact False.elim h | skip
  exact lv_i2l C0.1 C0.2.1 hd rfl (hs _ _ _ h p e s m args below meth c Rm cells slots Q C0 H locs la ⟨I.1, ⟨trivial, I.2.1.2⟩, I.2.2⟩)
def x_i2b : z_X := fun ks kj R C ls st M => match st with
  | .inl x :: r => ks ls (zi x.toInt8.toInt32 :: r) M
  | _ => False
theorem s_i2b {X : z_Cx} {D : Nat} {q : z_MI} {pc : Nat}  (hd : decode q.2.1 pc = .ok (.i2b, 1)) : z_Sd X D q pc (pc + 1) (x_i2b) := by
  intro ks kj R ls st M h hs hj p e s m args below meth c Rm cells slots Q C0 H locs la I
  rcases st with _ | ⟨x | x | x, r⟩ <;> first | exact False.elim h | skip
  exact lv_i2b C0.1 C0.2.1 hd rfl (hs _ _ _ h p e s m args below meth c Rm cells slots Q C0 H locs la ⟨I.1, ⟨trivial, I.2.1.2⟩, I.2.2⟩)
def x_i2s : z_X := fun ks kj R C ls st M => match st with
  | .inl x :: r => ks ls (zi x.toInt16.toInt32 :: r) M
  | _ => False
theorem s_i2s {X : z_Cx} {D : Nat} {q : z_MI} {pc : Nat}  (hd : decode q.2.1 pc = .ok (.i2s, 1)) : z_Sd X D q pc (pc + 1) (x_i2s) := by
  intro ks kj R ls st M h hs hj p e s m args below meth c Rm cells slots Q C0 H locs la I
  rcases st with _ | ⟨x | x | x, r⟩ <;> first | exact False.elim h | skip
  exact lv_i2s C0.1 C0.2.1 hd rfl (hs _ _ _ h p e s m args below meth c Rm cells slots Q C0 H locs la ⟨I.1, ⟨trivial, I.2.1.2⟩, I.2.2⟩)
def x_i2c : z_X := fun ks kj R C ls st M => match st with
  | .inl x :: r => ks ls (zi ((x.toUInt32 % 65536).toInt32) :: r) M
  | _ => False
theorem s_i2c {X : z_Cx} {D : Nat} {q : z_MI} {pc : Nat}  (hd : decode q.2.1 pc = .ok (.i2c, 1)) : z_Sd X D q pc (pc + 1) (x_i2c) := by
  intro ks kj R ls st M h hs hj p e s m args below meth c Rm cells slots Q C0 H locs la I
  rcases st with _ | ⟨x | x | x, r⟩ <;> first | exact False.elim h | skip
  exact lv_i2c C0.1 C0.2.1 hd rfl (hs _ _ _ h p e s m args below meth c Rm cells slots Q C0 H locs la ⟨I.1, ⟨trivial, I.2.1.2⟩, I.2.2⟩)
def x_l2i : z_X := fun ks kj R C ls st M => match st with
  | .inr (.inl x) :: r => ks ls (zi x.toInt32 :: r) M
  | _ => False
theorem s_l2i {X : z_Cx} {D : Nat} {q : z_MI} {pc : Nat}  (hd : decode q.2.1 pc = .ok (.l2i, 1)) : z_Sd X D q pc (pc + 1) (x_l2i) := by
  intro ks kj R ls st M h hs hj p e s m args below meth c Rm cells slots Q C0 H locs la I
  rcases st with _ | ⟨x | x | x, r⟩ <;> first | exact False.elim h | skip
  exact lv_l2i C0.1 C0.2.1 hd rfl (hs _ _ _ h p e s m args below meth c Rm cells slots Q C0 H locs la ⟨I.1, ⟨trivial, I.2.1.2⟩, I.2.2⟩)
def x_ic (v : Int32) : z_X := fun ks _ _ _ ls st M => ks ls (zi v :: st) M
def x_lc (v : Int64) : z_X := fun ks _ _ _ ls st M => ks ls (zl v :: st) M
theorem s_iconst {X : z_Cx} {D : Nat} {q : z_MI} {pc : Nat} {n : Int} {v : Int32} (hd : decode q.2.1 pc = .ok (.iconst n, 1)) (hv : Int32.ofInt n = v) : z_Sd X D q pc (pc + 1) (x_ic v) := by
  intro ks kj R ls st M h hs hj p e s m args below meth c Rm cells slots Q C0 H locs la I
  exact lv_iconst C0.1 C0.2.1 hd hv (hs _ _ _ h p e s m args below meth c Rm cells slots Q C0 H locs la ⟨I.1, ⟨trivial, I.2.1⟩, I.2.2⟩)
theorem s_bipush {X : z_Cx} {D : Nat} {q : z_MI} {pc : Nat} {n : Int} {v : Int32} (hd : decode q.2.1 pc = .ok (.bipush n, 2)) (hv : (Int8.ofInt n).toInt32 = v) : z_Sd X D q pc (pc + 2) (x_ic v) := by
  intro ks kj R ls st M h hs hj p e s m args below meth c Rm cells slots Q C0 H locs la I
  exact lv_bipush C0.1 C0.2.1 hd hv (hs _ _ _ h p e s m args below meth c Rm cells slots Q C0 H locs la ⟨I.1, ⟨trivial, I.2.1⟩, I.2.2⟩)
theorem s_sipush {X : z_Cx} {D : Nat} {q : z_MI} {pc : Nat} {n : Int} {v : Int32} (hd : decode q.2.1 pc = .ok (.sipush n, 3)) (hv : (Int16.ofInt n).toInt32 = v) : z_Sd X D q pc (pc + 3) (x_ic v) := by
  intro ks kj R ls st M h hs hj p e s m args below meth c Rm cells slots Q C0 H locs la I
  exact lv_sipush C0.1 C0.2.1 hd hv (hs _ _ _ h p e s m args below meth c Rm cells slots Q C0 H locs la ⟨I.1, ⟨trivial, I.2.1⟩, I.2.2⟩)
theorem s_ldc {X : z_Cx} {D : Nat} {q : z_MI} {pc : Nat} {i : Nat} {v : Int32} (hd : decode q.2.1 pc = .ok (.ldc i, 2)) (hv : Cond.constant q.1.cls i v ∈ z_U) : z_Sd X D q pc (pc + 2) (x_ic v) := by
  intro ks kj R ls st M h hs hj p e s m args below meth c Rm cells slots Q C0 H locs la I
  exact lv_ldc C0.1 C0.2.1 C0.2.2.2.1 (C0.2.2.2.2.1 _ hv) hd (hs _ _ _ h p e s m args below meth c Rm cells slots Q C0 H locs la ⟨I.1, ⟨trivial, I.2.1⟩, I.2.2⟩)
theorem s_ldcw {X : z_Cx} {D : Nat} {q : z_MI} {pc : Nat} {i : Nat} {v : Int32} (hd : decode q.2.1 pc = .ok (.ldc_w i, 3)) (hv : Cond.constant q.1.cls i v ∈ z_U) : z_Sd X D q pc (pc + 3) (x_ic v) := by
  intro ks kj R ls st M h hs hj p e s m args below meth c Rm cells slots Q C0 H locs la I
  exact lv_ldcw C0.1 C0.2.1 C0.2.2.2.1 (C0.2.2.2.2.1 _ hv) hd (hs _ _ _ h p e s m args below meth c Rm cells slots Q C0 H locs la ⟨I.1, ⟨trivial, I.2.1⟩, I.2.2⟩)
theorem s_ldc2 {X : z_Cx} {D : Nat} {q : z_MI} {pc : Nat} {i : Nat} {v : Int64} (hd : decode q.2.1 pc = .ok (.ldc2_w i, 3)) (hv : Cond.constantLong q.1.cls i v ∈ z_U) : z_Sd X D q pc (pc + 3) (x_lc v) := by
  intro ks kj R ls st M h hs hj p e s m args below meth c Rm cells slots Q C0 H locs la I
  exact lv_ldc2 C0.1 C0.2.1 C0.2.2.2.1 (C0.2.2.2.2.1 _ hv) hd (hs _ _ _ h p e s m args below meth c Rm cells slots Q C0 H locs la ⟨I.1, ⟨trivial, I.2.1⟩, I.2.2⟩)
theorem s_lconst {X : z_Cx} {D : Nat} {q : z_MI} {pc : Nat} {n : Fin 2} {v : Int64} (hd : decode q.2.1 pc = .ok (.lconst n, 1)) (hv : Int64.ofNat (n : Nat) = v) : z_Sd X D q pc (pc + 1) (x_lc v) := by
  intro ks kj R ls st M h hs hj p e s m args below meth c Rm cells slots Q C0 H locs la I
  exact lv_lconst C0.1 C0.2.1 hd hv (hs _ _ _ h p e s m args below meth c Rm cells slots Q C0 H locs la ⟨I.1, ⟨trivial, I.2.1⟩, I.2.2⟩)
def x_ild (i : Nat) : z_X := fun ks _ _ _ ls st M => match z_lk i ls with
  | some (.inl x) => ks ls (zi x :: st) M
  | _ => False
def x_ald (i : Nat) : z_X := fun ks _ _ _ ls st M => match z_lk i ls with
  | some (.inr (.inr x)) => ks ls (.inr (.inr x) :: st) M
  | _ => False
def x_lld (i : Nat) : z_X := fun ks _ _ _ ls st M => match z_lk i ls with
  | some (.inr (.inl x)) => ks ls (zl x :: st) M
  | _ => False
theorem s_iload_n {X : z_Cx} {D : Nat} {q : z_MI} {pc i : Nat} {k : Fin 4} (hd : decode q.2.1 pc = .ok (.iload_n k, 1)) (hi : (k : Nat) = i) : z_Sd X D q pc (pc + 1) (x_ild i) := by
  intro ks kj R ls st M h hs hj p e s m args below meth c Rm cells slots Q C0 H locs la I
  cases hk : z_lk i ls with
  | none => unfold x_ild at h; rw [hk] at h; exact False.elim h
  | some v =>
    unfold x_ild at h
    rw [hk] at h
    rcases v with x | x | x <;> first | exact False.elim h | skip
    exact lv_iload_n C0.1 C0.2.1 hd hi (z_lk_has hk I.2.2.2.2) (hs _ _ _ h p e s m args below meth c Rm cells slots Q C0 H locs la ⟨I.1, ⟨trivial, I.2.1⟩, I.2.2⟩)
theorem s_iload {X : z_Cx} {D : Nat} {q : z_MI} {pc i : Nat}  (hd : decode q.2.1 pc = .ok (.iload i, 2)) : z_Sd X D q pc (pc + 2) (x_ild i) := by
  intro ks kj R ls st M h hs hj p e s m args below meth c Rm cells slots Q C0 H locs la I
  cases hk : z_lk i ls with
  | none => unfold x_ild at h; rw [hk] at h; exact False.elim h
  | some v =>
    unfold x_ild at h
    rw [hk] at h
    rcases v with x | x | x <;> first | exact False.elim h | skip
    exact lv_iload C0.1 C0.2.1 hd (z_lk_has hk I.2.2.2.2) (hs _ _ _ h p e s m args below meth c Rm cells slots Q C0 H locs la ⟨I.1, ⟨trivial, I.2.1⟩, I.2.2⟩)
theorem s_aload_n {X : z_Cx} {D : Nat} {q : z_MI} {pc i : Nat} {k : Fin 4} (hd : decode q.2.1 pc = .ok (.aload_n k, 1)) (hi : (k : Nat) = i) : z_Sd X D q pc (pc + 1) (x_ald i) := by
  intro ks kj R ls st M h hs hj p e s m args below meth c Rm cells slots Q C0 H locs la I
  cases hk : z_lk i ls with
  | none => unfold x_ald at h; rw [hk] at h; exact False.elim h
  | some v =>
    unfold x_ald at h
    rw [hk] at h
    rcases v with x | x | x <;> first | exact False.elim h | skip
    exact lv_aload_n C0.1 C0.2.1 hd hi (z_lk_has hk I.2.2.2.2) (hs _ _ _ h p e s m args below meth c Rm cells slots Q C0 H locs la ⟨I.1, ⟨z_lk_ok hk I.1, I.2.1⟩, I.2.2⟩)
theorem s_aload {X : z_Cx} {D : Nat} {q : z_MI} {pc i : Nat}  (hd : decode q.2.1 pc = .ok (.aload i, 2)) : z_Sd X D q pc (pc + 2) (x_ald i) := by
  intro ks kj R ls st M h hs hj p e s m args below meth c Rm cells slots Q C0 H locs la I
  cases hk : z_lk i ls with
  | none => unfold x_ald at h; rw [hk] at h; exact False.elim h
  | some v =>
    unfold x_ald at h
    rw [hk] at h
    rcases v with x | x | x <;> first | exact False.elim h | skip
    exact lv_aload C0.1 C0.2.1 hd (z_lk_has hk I.2.2.2.2) (hs _ _ _ h p e s m args below meth c Rm cells slots Q C0 H locs la ⟨I.1, ⟨z_lk_ok hk I.1, I.2.1⟩, I.2.2⟩)
theorem s_lload_n {X : z_Cx} {D : Nat} {q : z_MI} {pc i : Nat} {k : Fin 4} (hd : decode q.2.1 pc = .ok (.lload_n k, 1)) (hi : (k : Nat) = i) : z_Sd X D q pc (pc + 1) (x_lld i) := by
  intro ks kj R ls st M h hs hj p e s m args below meth c Rm cells slots Q C0 H locs la I
  cases hk : z_lk i ls with
  | none => unfold x_lld at h; rw [hk] at h; exact False.elim h
  | some v =>
    unfold x_lld at h
    rw [hk] at h
    rcases v with x | x | x <;> first | exact False.elim h | skip
    exact lv_lload_n C0.1 C0.2.1 hd hi (z_lk_has hk I.2.2.2.2) (hs _ _ _ h p e s m args below meth c Rm cells slots Q C0 H locs la ⟨I.1, ⟨trivial, I.2.1⟩, I.2.2⟩)
theorem s_lload {X : z_Cx} {D : Nat} {q : z_MI} {pc i : Nat}  (hd : decode q.2.1 pc = .ok (.lload i, 2)) : z_Sd X D q pc (pc + 2) (x_lld i) := by
  intro ks kj R ls st M h hs hj p e s m args below meth c Rm cells slots Q C0 H locs la I
  cases hk : z_lk i ls with
  | none => unfold x_lld at h; rw [hk] at h; exact False.elim h
  | some v =>
    unfold x_lld at h
    rw [hk] at h
    rcases v with x | x | x <;> first | exact False.elim h | skip
    exact lv_lload C0.1 C0.2.1 hd (z_lk_has hk I.2.2.2.2) (hs _ _ _ h p e s m args below meth c Rm cells slots Q C0 H locs la ⟨I.1, ⟨trivial, I.2.1⟩, I.2.2⟩)
theorem z_st1 {X : z_Cx} {nL i : Nat} {la : Array Slot} {ls : z_L} {v : z_V} (h : lv_has la nL ((i, z_co X.2.2.1 v) :: (z_cl X ls).filter (fun q => !(q.1 == i) && !(q.1 + 1 == i && q.2.category == 2)))) : lv_has la nL (z_cl X ((i, v) :: z_rm1 i ls)) := by
  refine ⟨h.1, h.2.1, fun q hq => h.2.2 q ?_⟩
  rcases List.mem_cons.mp hq with e | hq
  · rw [e]; exact List.mem_cons_self
  · obtain ⟨a, ha, rfl⟩ := List.mem_map.mp hq
    obtain ⟨h1, h2, h3⟩ := z_rm1_sub ha
    refine List.mem_cons_of_mem _ (List.mem_filter.mpr ⟨List.mem_map.mpr ⟨a, h1, rfl⟩, ?_⟩)
    have e1 : (a.1 == i) = false := beq_eq_false_iff_ne.mpr h2
    show (!(a.1 == i) && !(a.1 + 1 == i && (z_co X.2.2.1 a.2).category == 2)) = true
    rw [e1, z_co_cat]
    by_cases e2 : a.1 + 1 = i
    · have : z_isl a.2 = false := by
        cases hz : z_isl a.2 with
        | true => exact absurd ⟨e2, hz⟩ h3
        | false => rfl
      rw [this]; simp
    · have e3 : (a.1 + 1 == i) = false := beq_eq_false_iff_ne.mpr e2
      rw [e3]; rfl
theorem z_st2 {X : z_Cx} {nL i : Nat} {la : Array Slot} {ls : z_L} {v : z_V} (h : lv_has la nL ((i, z_co X.2.2.1 v) :: (z_cl X ls).filter (fun q => !(q.1 == i) && (!(q.1 == i + 1) && !(q.1 + 1 == i && q.2.category == 2))))) : lv_has la nL (z_cl X ((i, v) :: z_rm1 i (z_rm1 (i + 1) ls))) := by
  refine ⟨h.1, h.2.1, fun q hq => h.2.2 q ?_⟩
  rcases List.mem_cons.mp hq with e | hq
  · rw [e]; exact List.mem_cons_self
  · obtain ⟨a, ha, rfl⟩ := List.mem_map.mp hq
    obtain ⟨h0, h2, h3⟩ := z_rm1_sub ha
    obtain ⟨h1, h4, -⟩ := z_rm1_sub h0
    refine List.mem_cons_of_mem _ (List.mem_filter.mpr ⟨List.mem_map.mpr ⟨a, h1, rfl⟩, ?_⟩)
    have e1 : (a.1 == i) = false := beq_eq_false_iff_ne.mpr h2
    have e4 : (a.1 == i + 1) = false := beq_eq_false_iff_ne.mpr h4
    show (!(a.1 == i) && (!(a.1 == i + 1) && !(a.1 + 1 == i && (z_co X.2.2.1 a.2).category == 2))) = true
    rw [e1, e4, z_co_cat]
    by_cases e2 : a.1 + 1 = i
    · have : z_isl a.2 = false := by
        cases hz : z_isl a.2 with
        | true => exact absurd ⟨e2, hz⟩ h3
        | false => rfl
      rw [this]; simp
    · have e3 : (a.1 + 1 == i) = false := beq_eq_false_iff_ne.mpr e2
      rw [e3]; rfl
def x_ist (i : Nat) : z_X := fun ks kj R C ls st M => match st with
  | .inl x :: r => z_rmk i ls (fun l => ks ((i, zi x) :: l) r M)
  | _ => False
def x_ast (i : Nat) : z_X := fun ks kj R C ls st M => match st with
  | .inr (.inr x) :: r => z_rmk i ls (fun l => ks ((i, .inr (.inr x)) :: l) r M)
  | _ => False
def x_lst (i : Nat) : z_X := fun ks kj R C ls st M => match st with
  | .inr (.inl x) :: r => z_rmk (i + 1) ls (fun l => z_rmk i l (fun l => ks ((i, zl x) :: l) r M))
  | _ => False
theorem s_istore {X : z_Cx} {D : Nat} {q : z_MI} {pc : Nat} {i : Nat}  (hd : decode q.2.1 pc = .ok (.istore i, 2)) (hn : Nat.ble (i + 1) q.2.2.1 = true) : z_Sd X D q pc (pc + 2) (x_ist i) := by
  intro ks kj R ls st M h hs hj p e s m args below meth c Rm cells slots Q C0 H locs la I
  rcases st with _ | ⟨x | x | x, r⟩ <;> first | exact False.elim h | skip
  simp only [x_ist, z_rmk_eq] at h
  exact lv_istore C0.1 C0.2.1 hd I.2.2.2.2 (Nat.le_of_ble_eq_true hn) rfl (fun la' hl' => hs _ _ _ h p e s m args below meth c Rm cells slots Q C0 H locs la' ⟨⟨trivial, z_rm1_okl I.1⟩, I.2.1.2, I.2.2.1, I.2.2.2.1, z_st1 (v := zi x) hl'⟩)
theorem s_istore_n {X : z_Cx} {D : Nat} {q : z_MI} {pc : Nat} {i : Nat} {k : Fin 4} (hd : decode q.2.1 pc = .ok (.istore_n k, 1)) (hi : (k : Nat) = i) (hn : Nat.ble (i + 1) q.2.2.1 = true) : z_Sd X D q pc (pc + 1) (x_ist i) := by
  intro ks kj R ls st M h hs hj p e s m args below meth c Rm cells slots Q C0 H locs la I
  rcases st with _ | ⟨x | x | x, r⟩ <;> first | exact False.elim h | skip
  simp only [x_ist, z_rmk_eq] at h
  exact lv_istore_n C0.1 C0.2.1 hd hi I.2.2.2.2 (Nat.le_of_ble_eq_true hn) rfl (fun la' hl' => hs _ _ _ h p e s m args below meth c Rm cells slots Q C0 H locs la' ⟨⟨trivial, z_rm1_okl I.1⟩, I.2.1.2, I.2.2.1, I.2.2.2.1, z_st1 (v := zi x) hl'⟩)
theorem s_astore {X : z_Cx} {D : Nat} {q : z_MI} {pc : Nat} {i : Nat}  (hd : decode q.2.1 pc = .ok (.astore i, 2)) (hn : Nat.ble (i + 1) q.2.2.1 = true) : z_Sd X D q pc (pc + 2) (x_ast i) := by
  intro ks kj R ls st M h hs hj p e s m args below meth c Rm cells slots Q C0 H locs la I
  rcases st with _ | ⟨x | x | x, r⟩ <;> first | exact False.elim h | skip
  simp only [x_ast, z_rmk_eq] at h
  exact lv_astore C0.1 C0.2.1 hd I.2.2.2.2 (Nat.le_of_ble_eq_true hn) rfl (fun la' hl' => hs _ _ _ h p e s m args below meth c Rm cells slots Q C0 H locs la' ⟨⟨I.2.1.1, z_rm1_okl I.1⟩, I.2.1.2, I.2.2.1, I.2.2.2.1, z_st1 (v := .inr (.inr x)) hl'⟩)
theorem s_astore_n {X : z_Cx} {D : Nat} {q : z_MI} {pc : Nat} {i : Nat} {k : Fin 4} (hd : decode q.2.1 pc = .ok (.astore_n k, 1)) (hi : (k : Nat) = i) (hn : Nat.ble (i + 1) q.2.2.1 = true) : z_Sd X D q pc (pc + 1) (x_ast i) := by
  intro ks kj R ls st M h hs hj p e s m args below meth c Rm cells slots Q C0 H locs la I
  rcases st with _ | ⟨x | x | x, r⟩ <;> first | exact False.elim h | skip
  simp only [x_ast, z_rmk_eq] at h
  exact lv_astore_n C0.1 C0.2.1 hd hi I.2.2.2.2 (Nat.le_of_ble_eq_true hn) rfl (fun la' hl' => hs _ _ _ h p e s m args below meth c Rm cells slots Q C0 H locs la' ⟨⟨I.2.1.1, z_rm1_okl I.1⟩, I.2.1.2, I.2.2.1, I.2.2.2.1, z_st1 (v := .inr (.inr x)) hl'⟩)
theorem s_lstore {X : z_Cx} {D : Nat} {q : z_MI} {pc : Nat} {i : Nat}  (hd : decode q.2.1 pc = .ok (.lstore i, 2)) (hn : Nat.ble (i + 1 + 1) q.2.2.1 = true) : z_Sd X D q pc (pc + 2) (x_lst i) := by
  intro ks kj R ls st M h hs hj p e s m args below meth c Rm cells slots Q C0 H locs la I
  rcases st with _ | ⟨x | x | x, r⟩ <;> first | exact False.elim h | skip
  simp only [x_lst, z_rmk_eq] at h
  exact lv_lstore C0.1 C0.2.1 hd I.2.2.2.2 (Nat.le_of_ble_eq_true hn) rfl (fun la' hl' => hs _ _ _ h p e s m args below meth c Rm cells slots Q C0 H locs la' ⟨⟨trivial, z_rm1_okl (z_rm1_okl I.1)⟩, I.2.1.2, I.2.2.1, I.2.2.2.1, z_st2 (v := zl x) hl'⟩)
theorem s_lstore_n {X : z_Cx} {D : Nat} {q : z_MI} {pc : Nat} {i : Nat} {k : Fin 4} (hd : decode q.2.1 pc = .ok (.lstore_n k, 1)) (hi : (k : Nat) = i) (hn : Nat.ble (i + 1 + 1) q.2.2.1 = true) : z_Sd X D q pc (pc + 1) (x_lst i) := by
  intro ks kj R ls st M h hs hj p e s m args below meth c Rm cells slots Q C0 H locs la I
  rcases st with _ | ⟨x | x | x, r⟩ <;> first | exact False.elim h | skip
  simp only [x_lst, z_rmk_eq] at h
  exact lv_lstore_n C0.1 C0.2.1 hd hi I.2.2.2.2 (Nat.le_of_ble_eq_true hn) rfl (fun la' hl' => hs _ _ _ h p e s m args below meth c Rm cells slots Q C0 H locs la' ⟨⟨trivial, z_rm1_okl (z_rm1_okl I.1)⟩, I.2.1.2, I.2.2.1, I.2.2.2.1, z_st2 (v := zl x) hl'⟩)
def x_iinc (i : Nat) (d : Int32) : z_X := fun ks _ _ _ ls st M => match z_lk i ls with
  | some (.inl x) => z_rmk i ls (fun l => ks ((i, zi (x + d)) :: l) st M)
  | _ => False
theorem s_iinc {X : z_Cx} {D : Nat} {q : z_MI} {pc i : Nat} {n : Int} {d : Int32} (hd : decode q.2.1 pc = .ok (.iinc i n, 3)) (hv : Int32.ofInt n = d) (hn : Nat.ble (i + 1) q.2.2.1 = true) : z_Sd X D q pc (pc + 3) (x_iinc i d) := by
  intro ks kj R ls st M h hs hj p e s m args below meth c Rm cells slots Q C0 H locs la I
  cases hk : z_lk i ls with
  | none => unfold x_iinc at h; rw [hk] at h; exact False.elim h
  | some v =>
    unfold x_iinc at h
    rw [hk] at h
    rcases v with x | x | x <;> first | exact False.elim h | skip
    simp only [z_rmk_eq] at h
    obtain ⟨k, hkk⟩ := List.getElem?_of_mem (List.mem_map.mpr ⟨(i, .inl x), z_lk_mem hk, rfl⟩ : (i, z_co X.2.2.1 (.inl x)) ∈ z_cl X ls)
    exact lv_iinc (v := x + d) C0.1 C0.2.1 hd I.2.2.2.2 hkk (by rw [hv]) (Nat.le_of_ble_eq_true hn) rfl (fun la' hl' => hs _ _ _ h p e s m args below meth c Rm cells slots Q C0 H locs la' ⟨⟨trivial, z_rm1_okl I.1⟩, I.2.1, I.2.2.1, I.2.2.2.1, z_st1 (v := zi (x + d)) hl'⟩)
def x_dup : z_X := fun ks kj R C ls st M => match st with
  | .inl x :: r => ks ls (zi x :: zi x :: r) M
  | _ => False
theorem s_dup {X : z_Cx} {D : Nat} {q : z_MI} {pc : Nat}  (hd : decode q.2.1 pc = .ok (.dup, 1)) : z_Sd X D q pc (pc + 1) (x_dup) := by
  intro ks kj R ls st M h hs hj p e s m args below meth c Rm cells slots Q C0 H locs la I
  rcases st with _ | ⟨x | x | x, r⟩ <;> first | exact False.elim h | skip
  exact lv_dup C0.1 C0.2.1 hd rfl (hs _ _ _ h p e s m args below meth c Rm cells slots Q C0 H locs la ⟨I.1, ⟨trivial, I.2.1⟩, I.2.2⟩)
def x_dupr : z_X := fun ks kj R C ls st M => match st with
  | .inr (.inr x) :: r => ks ls (.inr (.inr x) :: .inr (.inr x) :: r) M
  | _ => False
theorem s_dupr {X : z_Cx} {D : Nat} {q : z_MI} {pc : Nat}  (hd : decode q.2.1 pc = .ok (.dup, 1)) : z_Sd X D q pc (pc + 1) (x_dupr) := by
  intro ks kj R ls st M h hs hj p e s m args below meth c Rm cells slots Q C0 H locs la I
  rcases st with _ | ⟨x | x | x, r⟩ <;> first | exact False.elim h | skip
  exact lv_dup C0.1 C0.2.1 hd rfl (hs _ _ _ h p e s m args below meth c Rm cells slots Q C0 H locs la ⟨I.1, ⟨I.2.1.1, I.2.1⟩, I.2.2⟩)
def x_dup2 : z_X := fun ks kj R C ls st M => match st with
  | .inl y :: .inr (.inr x) :: r => ks ls (zi y :: .inr (.inr x) :: zi y :: .inr (.inr x) :: r) M
  | _ => False
theorem s_dup2 {X : z_Cx} {D : Nat} {q : z_MI} {pc : Nat}  (hd : decode q.2.1 pc = .ok (.dup2, 1)) : z_Sd X D q pc (pc + 1) (x_dup2) := by
  intro ks kj R ls st M h hs hj p e s m args below meth c Rm cells slots Q C0 H locs la I
  rcases st with _ | ⟨y | y | y, _ | ⟨x | x | x, r⟩⟩ <;> first | exact False.elim h | skip
  exact lv_dup2_11 C0.1 C0.2.1 hd rfl rfl (hs _ _ _ h p e s m args below meth c Rm cells slots Q C0 H locs la ⟨I.1, ⟨trivial, I.2.1.2.1, I.2.1⟩, I.2.2⟩)
def x_pop : z_X := fun ks kj R C ls st M => match st with
  | .inl x :: r => ks ls r M
  | _ => False
theorem s_pop {X : z_Cx} {D : Nat} {q : z_MI} {pc : Nat}  (hd : decode q.2.1 pc = .ok (.pop, 1)) : z_Sd X D q pc (pc + 1) (x_pop) := by
  intro ks kj R ls st M h hs hj p e s m args below meth c Rm cells slots Q C0 H locs la I
  rcases st with _ | ⟨x | x | x, r⟩ <;> first | exact False.elim h | skip
  exact lv_pop C0.1 C0.2.1 hd rfl (hs _ _ _ h p e s m args below meth c Rm cells slots Q C0 H locs la ⟨I.1, I.2.1.2, I.2.2⟩)
def x_if_eq (t : Nat) : z_X := fun ks kj R C ls st M => match st with
  | .inl x :: r => (x = 0 → kj t ls r M) ∧ (¬ x = 0 → ks ls r M)
  | _ => False
theorem s_if_eq {X : z_Cx} {D : Nat} {q : z_MI} {pc : Nat} {off : Int} {t : Nat} (hd : decode q.2.1 pc = .ok (.ifCond .eq off, 3)) (ht : (pc : Int) + off = (t : Int)) : z_Sd X D q pc (pc + 3) (x_if_eq t) := by
  intro ks kj R ls st M h hs hj p e s m args below meth c Rm cells slots Q C0 H locs la I
  rcases st with _ | ⟨x | x | x, r⟩ <;> first | exact False.elim h | skip
  exact lv_if_eq C0.1 C0.2.1 hd ht (fun g => hj _ _ _ _ (h.1 g) p e s m args below meth c Rm cells slots Q C0 H locs la ⟨I.1, I.2.1.2, I.2.2⟩) (fun g => hs _ _ _ (h.2 g) p e s m args below meth c Rm cells slots Q C0 H locs la ⟨I.1, I.2.1.2, I.2.2⟩)
def x_ic_eq (t : Nat) : z_X := fun ks kj R C ls st M => match st with
  | .inl y :: .inl x :: r => (x = y → kj t ls r M) ∧ (¬ x = y → ks ls r M)
  | _ => False
theorem s_ic_eq {X : z_Cx} {D : Nat} {q : z_MI} {pc : Nat} {off : Int} {t : Nat} (hd : decode q.2.1 pc = .ok (.if_icmp .eq off, 3)) (ht : (pc : Int) + off = (t : Int)) : z_Sd X D q pc (pc + 3) (x_ic_eq t) := by
  intro ks kj R ls st M h hs hj p e s m args below meth c Rm cells slots Q C0 H locs la I
  rcases st with _ | ⟨y | y | y, _ | ⟨x | x | x, r⟩⟩ <;> first | exact False.elim h | skip
  exact lv_icmp_eq C0.1 C0.2.1 hd ht (fun g => hj _ _ _ _ (h.1 g) p e s m args below meth c Rm cells slots Q C0 H locs la ⟨I.1, I.2.1.2.2, I.2.2⟩) (fun g => hs _ _ _ (h.2 g) p e s m args below meth c Rm cells slots Q C0 H locs la ⟨I.1, I.2.1.2.2, I.2.2⟩)
def x_if_ne (t : Nat) : z_X := fun ks kj R C ls st M => match st with
  | .inl x :: r => (¬ x = 0 → kj t ls r M) ∧ (x = 0 → ks ls r M)
  | _ => False
theorem s_if_ne {X : z_Cx} {D : Nat} {q : z_MI} {pc : Nat} {off : Int} {t : Nat} (hd : decode q.2.1 pc = .ok (.ifCond .ne off, 3)) (ht : (pc : Int) + off = (t : Int)) : z_Sd X D q pc (pc + 3) (x_if_ne t) := by
  intro ks kj R ls st M h hs hj p e s m args below meth c Rm cells slots Q C0 H locs la I
  rcases st with _ | ⟨x | x | x, r⟩ <;> first | exact False.elim h | skip
  exact lv_if_ne C0.1 C0.2.1 hd ht (fun g => hj _ _ _ _ (h.1 g) p e s m args below meth c Rm cells slots Q C0 H locs la ⟨I.1, I.2.1.2, I.2.2⟩) (fun g => hs _ _ _ (h.2 g) p e s m args below meth c Rm cells slots Q C0 H locs la ⟨I.1, I.2.1.2, I.2.2⟩)
def x_ic_ne (t : Nat) : z_X := fun ks kj R C ls st M => match st with
  | .inl y :: .inl x :: r => (¬ x = y → kj t ls r M) ∧ (x = y → ks ls r M)
  | _ => False
theorem s_ic_ne {X : z_Cx} {D : Nat} {q : z_MI} {pc : Nat} {off : Int} {t : Nat} (hd : decode q.2.1 pc = .ok (.if_icmp .ne off, 3)) (ht : (pc : Int) + off = (t : Int)) : z_Sd X D q pc (pc + 3) (x_ic_ne t) := by
  intro ks kj R ls st M h hs hj p e s m args below meth c Rm cells slots Q C0 H locs la I
  rcases st with _ | ⟨y | y | y, _ | ⟨x | x | x, r⟩⟩ <;> first | exact False.elim h | skip
  exact lv_icmp_ne C0.1 C0.2.1 hd ht (fun g => hj _ _ _ _ (h.1 g) p e s m args below meth c Rm cells slots Q C0 H locs la ⟨I.1, I.2.1.2.2, I.2.2⟩) (fun g => hs _ _ _ (h.2 g) p e s m args below meth c Rm cells slots Q C0 H locs la ⟨I.1, I.2.1.2.2, I.2.2⟩)
def x_if_lt (t : Nat) : z_X := fun ks kj R C ls st M => match st with
  | .inl x :: r => (x < 0 → kj t ls r M) ∧ (¬ x < 0 → ks ls r M)
  | _ => False
theorem s_if_lt {X : z_Cx} {D : Nat} {q : z_MI} {pc : Nat} {off : Int} {t : Nat} (hd : decode q.2.1 pc = .ok (.ifCond .lt off, 3)) (ht : (pc : Int) + off = (t : Int)) : z_Sd X D q pc (pc + 3) (x_if_lt t) := by
  intro ks kj R ls st M h hs hj p e s m args below meth c Rm cells slots Q C0 H locs la I
  rcases st with _ | ⟨x | x | x, r⟩ <;> first | exact False.elim h | skip
  exact lv_if_lt C0.1 C0.2.1 hd ht (fun g => hj _ _ _ _ (h.1 g) p e s m args below meth c Rm cells slots Q C0 H locs la ⟨I.1, I.2.1.2, I.2.2⟩) (fun g => hs _ _ _ (h.2 g) p e s m args below meth c Rm cells slots Q C0 H locs la ⟨I.1, I.2.1.2, I.2.2⟩)
def x_ic_lt (t : Nat) : z_X := fun ks kj R C ls st M => match st with
  | .inl y :: .inl x :: r => (x < y → kj t ls r M) ∧ (¬ x < y → ks ls r M)
  | _ => False
theorem s_ic_lt {X : z_Cx} {D : Nat} {q : z_MI} {pc : Nat} {off : Int} {t : Nat} (hd : decode q.2.1 pc = .ok (.if_icmp .lt off, 3)) (ht : (pc : Int) + off = (t : Int)) : z_Sd X D q pc (pc + 3) (x_ic_lt t) := by
  intro ks kj R ls st M h hs hj p e s m args below meth c Rm cells slots Q C0 H locs la I
  rcases st with _ | ⟨y | y | y, _ | ⟨x | x | x, r⟩⟩ <;> first | exact False.elim h | skip
  exact lv_icmp_lt C0.1 C0.2.1 hd ht (fun g => hj _ _ _ _ (h.1 g) p e s m args below meth c Rm cells slots Q C0 H locs la ⟨I.1, I.2.1.2.2, I.2.2⟩) (fun g => hs _ _ _ (h.2 g) p e s m args below meth c Rm cells slots Q C0 H locs la ⟨I.1, I.2.1.2.2, I.2.2⟩)
def x_if_ge (t : Nat) : z_X := fun ks kj R C ls st M => match st with
  | .inl x :: r => (0 ≤ x → kj t ls r M) ∧ (¬ 0 ≤ x → ks ls r M)
  | _ => False
theorem s_if_ge {X : z_Cx} {D : Nat} {q : z_MI} {pc : Nat} {off : Int} {t : Nat} (hd : decode q.2.1 pc = .ok (.ifCond .ge off, 3)) (ht : (pc : Int) + off = (t : Int)) : z_Sd X D q pc (pc + 3) (x_if_ge t) := by
  intro ks kj R ls st M h hs hj p e s m args below meth c Rm cells slots Q C0 H locs la I
  rcases st with _ | ⟨x | x | x, r⟩ <;> first | exact False.elim h | skip
  exact lv_if_ge C0.1 C0.2.1 hd ht (fun g => hj _ _ _ _ (h.1 g) p e s m args below meth c Rm cells slots Q C0 H locs la ⟨I.1, I.2.1.2, I.2.2⟩) (fun g => hs _ _ _ (h.2 g) p e s m args below meth c Rm cells slots Q C0 H locs la ⟨I.1, I.2.1.2, I.2.2⟩)
def x_ic_ge (t : Nat) : z_X := fun ks kj R C ls st M => match st with
  | .inl y :: .inl x :: r => (y ≤ x → kj t ls r M) ∧ (¬ y ≤ x → ks ls r M)
  | _ => False
theorem s_ic_ge {X : z_Cx} {D : Nat} {q : z_MI} {pc : Nat} {off : Int} {t : Nat} (hd : decode q.2.1 pc = .ok (.if_icmp .ge off, 3)) (ht : (pc : Int) + off = (t : Int)) : z_Sd X D q pc (pc + 3) (x_ic_ge t) := by
  intro ks kj R ls st M h hs hj p e s m args below meth c Rm cells slots Q C0 H locs la I
  rcases st with _ | ⟨y | y | y, _ | ⟨x | x | x, r⟩⟩ <;> first | exact False.elim h | skip
  exact lv_icmp_ge C0.1 C0.2.1 hd ht (fun g => hj _ _ _ _ (h.1 g) p e s m args below meth c Rm cells slots Q C0 H locs la ⟨I.1, I.2.1.2.2, I.2.2⟩) (fun g => hs _ _ _ (h.2 g) p e s m args below meth c Rm cells slots Q C0 H locs la ⟨I.1, I.2.1.2.2, I.2.2⟩)
def x_if_gt (t : Nat) : z_X := fun ks kj R C ls st M => match st with
  | .inl x :: r => (0 < x → kj t ls r M) ∧ (¬ 0 < x → ks ls r M)
  | _ => False
theorem s_if_gt {X : z_Cx} {D : Nat} {q : z_MI} {pc : Nat} {off : Int} {t : Nat} (hd : decode q.2.1 pc = .ok (.ifCond .gt off, 3)) (ht : (pc : Int) + off = (t : Int)) : z_Sd X D q pc (pc + 3) (x_if_gt t) := by
  intro ks kj R ls st M h hs hj p e s m args below meth c Rm cells slots Q C0 H locs la I
  rcases st with _ | ⟨x | x | x, r⟩ <;> first | exact False.elim h | skip
  exact lv_if_gt C0.1 C0.2.1 hd ht (fun g => hj _ _ _ _ (h.1 g) p e s m args below meth c Rm cells slots Q C0 H locs la ⟨I.1, I.2.1.2, I.2.2⟩) (fun g => hs _ _ _ (h.2 g) p e s m args below meth c Rm cells slots Q C0 H locs la ⟨I.1, I.2.1.2, I.2.2⟩)
def x_ic_gt (t : Nat) : z_X := fun ks kj R C ls st M => match st with
  | .inl y :: .inl x :: r => (y < x → kj t ls r M) ∧ (¬ y < x → ks ls r M)
  | _ => False
theorem s_ic_gt {X : z_Cx} {D : Nat} {q : z_MI} {pc : Nat} {off : Int} {t : Nat} (hd : decode q.2.1 pc = .ok (.if_icmp .gt off, 3)) (ht : (pc : Int) + off = (t : Int)) : z_Sd X D q pc (pc + 3) (x_ic_gt t) := by
  intro ks kj R ls st M h hs hj p e s m args below meth c Rm cells slots Q C0 H locs la I
  rcases st with _ | ⟨y | y | y, _ | ⟨x | x | x, r⟩⟩ <;> first | exact False.elim h | skip
  exact lv_icmp_gt C0.1 C0.2.1 hd ht (fun g => hj _ _ _ _ (h.1 g) p e s m args below meth c Rm cells slots Q C0 H locs la ⟨I.1, I.2.1.2.2, I.2.2⟩) (fun g => hs _ _ _ (h.2 g) p e s m args below meth c Rm cells slots Q C0 H locs la ⟨I.1, I.2.1.2.2, I.2.2⟩)
def x_if_le (t : Nat) : z_X := fun ks kj R C ls st M => match st with
  | .inl x :: r => (x ≤ 0 → kj t ls r M) ∧ (¬ x ≤ 0 → ks ls r M)
  | _ => False
theorem s_if_le {X : z_Cx} {D : Nat} {q : z_MI} {pc : Nat} {off : Int} {t : Nat} (hd : decode q.2.1 pc = .ok (.ifCond .le off, 3)) (ht : (pc : Int) + off = (t : Int)) : z_Sd X D q pc (pc + 3) (x_if_le t) := by
  intro ks kj R ls st M h hs hj p e s m args below meth c Rm cells slots Q C0 H locs la I
  rcases st with _ | ⟨x | x | x, r⟩ <;> first | exact False.elim h | skip
  exact lv_if_le C0.1 C0.2.1 hd ht (fun g => hj _ _ _ _ (h.1 g) p e s m args below meth c Rm cells slots Q C0 H locs la ⟨I.1, I.2.1.2, I.2.2⟩) (fun g => hs _ _ _ (h.2 g) p e s m args below meth c Rm cells slots Q C0 H locs la ⟨I.1, I.2.1.2, I.2.2⟩)
def x_ic_le (t : Nat) : z_X := fun ks kj R C ls st M => match st with
  | .inl y :: .inl x :: r => (x ≤ y → kj t ls r M) ∧ (¬ x ≤ y → ks ls r M)
  | _ => False
theorem s_ic_le {X : z_Cx} {D : Nat} {q : z_MI} {pc : Nat} {off : Int} {t : Nat} (hd : decode q.2.1 pc = .ok (.if_icmp .le off, 3)) (ht : (pc : Int) + off = (t : Int)) : z_Sd X D q pc (pc + 3) (x_ic_le t) := by
  intro ks kj R ls st M h hs hj p e s m args below meth c Rm cells slots Q C0 H locs la I
  rcases st with _ | ⟨y | y | y, _ | ⟨x | x | x, r⟩⟩ <;> first | exact False.elim h | skip
  exact lv_icmp_le C0.1 C0.2.1 hd ht (fun g => hj _ _ _ _ (h.1 g) p e s m args below meth c Rm cells slots Q C0 H locs la ⟨I.1, I.2.1.2.2, I.2.2⟩) (fun g => hs _ _ _ (h.2 g) p e s m args below meth c Rm cells slots Q C0 H locs la ⟨I.1, I.2.1.2.2, I.2.2⟩)
def x_goto (t : Nat) : z_X := fun _ kj _ _ ls st M => kj t ls st M
theorem s_goto {X : z_Cx} {D : Nat} {q : z_MI} {pc : Nat} {off : Int} {t : Nat} (hd : decode q.2.1 pc = .ok (.goto off, 3)) (ht : (pc : Int) + off = (t : Int)) : z_Sd X D q pc (pc + 3) (x_goto t) := by
  intro ks kj R ls st M h hs hj p e s m args below meth c Rm cells slots Q C0 H locs la I
  exact lv_goto C0.1 C0.2.1 hd ht (hj _ _ _ _ h p e s m args below meth c Rm cells slots Q C0 H locs la I)
def x_ret (ty : FieldType) : z_X := fun ks kj R C ls st M => match st with
  | [.inl x] => narrow ty (.int x) = .int x ∧ R x M
  | _ => False
theorem s_ret {X : z_Cx} {D : Nat} {q : z_MI} {pc : Nat} {ty : FieldType} (hd : decode q.2.1 pc = .ok (.ireturn, 1)) (hr : q.2.2.2 = some ty) : z_Sd X D q pc (pc + 1) (x_ret ty) := by
  intro ks kj R ls st M h hs hj p e s m args below meth c Rm cells slots Q C0 H locs la I
  rcases st with _ | ⟨x | x | x, _ | ⟨y, r⟩⟩ <;> first | exact False.elim h | skip
  exact C0.2.2.2.2.2.2.2.2.2.1 x M H locs la pc ty hr h.1 h.2 I.2.2.1 I.2.2.2.1 hd
def x_iret : z_X := fun ks kj R C ls st M => match st with
  | [.inl x] => R x M
  | _ => False
theorem s_iret {X : z_Cx} {D : Nat} {q : z_MI} {pc : Nat}  (hd : decode q.2.1 pc = .ok (.ireturn, 1)) (hr : q.2.2.2 = some .int) : z_Sd X D q pc (pc + 1) (x_iret) := by
  intro ks kj R ls st M h hs hj p e s m args below meth c Rm cells slots Q C0 H locs la I
  rcases st with _ | ⟨x | x | x, _ | ⟨y, r⟩⟩ <;> first | exact False.elim h | skip
  exact C0.2.2.2.2.2.2.2.2.2.1 x M H locs la pc .int hr rfl h I.2.2.1 I.2.2.2.1 hd
def x_zret : z_X := fun ks kj R C ls st M => match st with
  | [.inl x] => (x = 0 ∨ x = 1) ∧ R x M
  | _ => False
theorem s_zret {X : z_Cx} {D : Nat} {q : z_MI} {pc : Nat}  (hd : decode q.2.1 pc = .ok (.ireturn, 1)) (hr : q.2.2.2 = some .boolean) : z_Sd X D q pc (pc + 1) (x_zret) := by
  intro ks kj R ls st M h hs hj p e s m args below meth c Rm cells slots Q C0 H locs la I
  rcases st with _ | ⟨x | x | x, _ | ⟨y, r⟩⟩ <;> first | exact False.elim h | skip
  exact C0.2.2.2.2.2.2.2.2.2.1 x M H locs la pc .boolean hr (by rcases h.1 with e | e <;> rw [e] <;> rfl) h.2 I.2.2.1 I.2.2.2.1 hd
def x_vret : z_X := fun ks kj R C ls st M => match st with
  | [] => R 0 M
  | _ => False
theorem s_vret {X : z_Cx} {D : Nat} {q : z_MI} {pc : Nat}  (hd : decode q.2.1 pc = .ok (.return_, 1)) (hr : q.2.2.2 = none) : z_Sd X D q pc (pc + 1) (x_vret) := by
  intro ks kj R ls st M h hs hj p e s m args below meth c Rm cells slots Q C0 H locs la I
  rcases st with _ | ⟨x, r⟩ <;> first | exact False.elim h | skip
  exact C0.2.2.2.2.2.2.2.2.2.2 M H locs la pc hr h I.2.2.1 I.2.2.2.1 hd
end
section
/-! ===== fields, arrays, statics ===== -/
theorem z_en_congr {X : z_Cx} {M M' : z_M} {q : Nat × Nat} (h1 : M'.1 q.1 q.2 = M.1 q.1 q.2) (h2 : M'.2.1 q.1 q.2 = M.2.1 q.1 q.2) (h3 : M'.2.2 q.1 = M.2.2 q.1) : z_en X M' q = z_en X M q := by
  have hf : ∀ f, z_fv q.1 f q.2 M' = z_fv q.1 f q.2 M := by
    intro f
    unfold z_fv
    rw [h1, h2, h3]
  unfold z_en
  simp only [hf, h1]
theorem z_en_o {X : z_Cx} {M : z_M} {k i ci nf a b c : Nat} (h : z_kd k = (0, ci, nf, a, b, c)) : z_en X M (k, i) = (X.2.2.1 k i, .inr (ci, (List.range nf).map (fun f => z_co X.2.2.1 (z_fv k f i M)))) := by
  unfold z_en
  rw [show z_kd (k, i).1 = _ from h]
  rfl
theorem z_en_p {X : z_Cx} {M : z_M} {k i t0 n a b c : Nat} (h : z_kd k = (1, t0, n, a, b, c)) : z_en X M (k, i) = (X.2.2.1 k i, .inl (X.2.2.2.1 t0, n, .inl (M.1 k i))) := by
  unfold z_en
  rw [show z_kd (k, i).1 = _ from h]
  rfl
theorem z_en_r {X : z_Cx} {M : z_M} {k i t0 n a b c : Nat} (h : z_kd k = (2, t0, n, a, b, c)) : z_en X M (k, i) = (X.2.2.1 k i, .inl (X.2.2.2.1 t0, n, .inr (.inr (.inr (.inr (fun j => some (X.2.2.1 a (b * i + c + j)))))))) := by
  unfold z_en
  rw [show z_kd (k, i).1 = _ from h]
  rfl
theorem z_rg {α : Type} (nf f : Nat) (g : Nat → α) (h : f < nf) : ((List.range nf).map g)[f]? = some (g f) := by
  rw [List.getElem?_map, List.getElem?_range h]
  rfl
theorem z_rgs {α : Type} (nf f : Nat) (g g' : Nat → α) (h : ∀ j, j ≠ f → g' j = g j) : ((List.range nf).map g).set f (g' f) = (List.range nf).map g' := by
  apply List.ext_getElem?
  intro j
  rw [List.getElem?_set, List.getElem?_map, List.getElem?_map, List.length_map, List.length_range]
  by_cases e : f = j
  · subst e
    rw [if_pos rfl]
    by_cases hl : f < nf
    · rw [if_pos hl, List.getElem?_range hl]; rfl
    · rw [if_neg hl, List.getElem?_eq_none (by rw [List.length_range]; omega)]; rfl
  · rw [if_neg e]
    cases hj : (List.range nf)[j]? with
    | none => rfl
    | some r =>
      have : r = j := by
        obtain ⟨h1, h2⟩ := List.getElem?_eq_some_iff.mp hj
        rw [List.getElem_range] at h2
        exact h2.symm
      subst this
      show some (g r) = some (g' r)
      rw [h r (fun w => e w.symm)]
theorem z_s_ne {M : z_M} {k i j : Nat} {v : Int32} {q : Nat × Nat} (h : q ≠ (k, i)) : (z_s M k i j v).1 q.1 q.2 = M.1 q.1 q.2 := by
  funext x
  show (if q.1 = k ∧ q.2 = i ∧ x = j then v else M.1 q.1 q.2 x) = _
  rw [if_neg]
  rintro ⟨h1, h2, -⟩
  exact h (Prod.ext h1 h2)
theorem z_s_at {M : z_M} {k i j : Nat} {v : Int32} : (z_s M k i j v).1 k i = upd (M.1 k i) j v := by
  funext x
  show (if k = k ∧ i = i ∧ x = j then v else M.1 k i x) = (if x = j then v else M.1 k i x)
  by_cases e : x = j
  · rw [if_pos ⟨rfl, rfl, e⟩, if_pos e]
  · rw [if_neg (fun w => e w.2.2), if_neg e]
theorem z_sn_ne {M : z_M} {k n n' : Nat} {v : Bool} (h : n' ≠ n) : (z_sn M k n v).2.2 k n' = M.2.2 k n' := if_neg (fun w => h w.2)
theorem z_lt64 {q : Nat × Nat} (h : q ∈ z_pl) : q.1 < 64 ∧ q.2 < z_cnt q.1 := by
  unfold z_pl at h
  rw [List.mem_flatMap] at h
  obtain ⟨k, hk, hm⟩ := h
  obtain ⟨i, hi, rfl⟩ := List.mem_map.mp hm
  exact ⟨List.mem_range.mp hk, List.mem_range.mp hi⟩
/-- an object's class, as the tables have it -/
def z_Cl (k ci nf : Nat) (C : String) (T : u_T) : Prop := k < 64 ∧ z_kd k = (0, ci, nf, 0, 0, 0) ∧ vwCl[ci]? = some (C, T, nf) ∧ ∀ w ∈ u_ws C T nf, w ∈ z_U
def x_gI (k f : Nat) : z_X := fun ks _ _ _ ls st M => match st with
  | .inr (.inr (k', i)) :: r => bif Nat.beq k' k then ks ls (zi (M.1 k i f) :: r) M else False
  | _ => False
def x_gL (k : Nat) : z_X := fun ks _ _ _ ls st M => match st with
  | .inr (.inr (k', i)) :: r => bif Nat.beq k' k then ks ls (zl (M.2.1 k i) :: r) M else False
  | _ => False
def x_gR0 (k a c : Nat) : z_X := fun ks _ _ _ ls st M => match st with
  | .inr (.inr (k', _)) :: r => bif Nat.beq k' k then ks ls (zr a c :: r) M else False
  | _ => False
def x_gR1 (k a : Nat) : z_X := fun ks _ _ _ ls st M => match st with
  | .inr (.inr (k', i)) :: r => bif Nat.beq k' k then ks ls (zr a i :: r) M else False
  | _ => False
def x_gD (k a n : Nat) : z_X := fun ks _ _ _ ls st M => match st with
  | .inr (.inr (k', _)) :: r => bif Nat.beq k' k then ks ls (zr a (M.2.2 k n).toNat :: r) M else False
  | _ => False
theorem z_gw {X : z_Cx} {D : Nat} {q : z_MI} {R : Int32 → z_M → Prop} {p : Program} {e : Env} {s : State} {m : MethodId} {args : Array Value} {below : List Frame} {meth : Method} {c : Code} {Rm : Room} {cells slots : Nat} {Q : State → Prop}
    (C0 : z_MC X D q R p e s m args below meth c Rm cells slots Q) {k ci nf f idx pc i : Nat} {C : String} {T : u_T} (hC : z_Cl k ci nf C T) (hf : f < nf) (hlink : Cond.fieldLink q.1.cls idx (T f).1 (T f).2.1 (T f).2.2.1 ∈ z_U) (hd : decode q.2.1 pc = .ok (.getfield idx, 3))
    {M : z_M} {H : Heap} {locs : List Loc} {la : Array Slot} {rest : List Value} (hi : i < z_cnt k) (hP : va_P X.2.1 vwCl (z_w X M) H) {v : z_V} (hv : z_fv k f i M = v) (kk : W p X.1 e Rm s m args below meth c H locs cells slots Q (F0 m (pc + 3) la (z_co X.2.2.1 v :: rest))) :
    W p X.1 e Rm s m args below meth c H locs cells slots Q (F0 m pc la (.ref (X.2.2.1 k i) :: rest)) := by
  obtain ⟨h64, hkd, hcl, hin⟩ := hC
  obtain ⟨q0, hq⟩ := z_pl_at (z_pl_mem h64 hi)
  have he := z_w_at (X := X) (M := M) hq
  rw [z_en_o hkd] at he
  exact va_get (D := X.2.1) (ci := ci) (v := z_co X.2.2.1 v) (C := C) (T := T) (N := nf) C0.1 C0.2.1 C0.2.2.2.2.1 hin C0.2.2.2.1 C0.2.2.2.2.2.1 hP q0 he hcl f hf (C0.2.2.2.2.1 _ hlink) (fun _ h9 => h9) (by rw [z_rg _ _ _ hf, hv]) hd kk
theorem s_gI {X : z_Cx} {D : Nat} {q : z_MI} {pc k ci nf f idx : Nat} {C : String} {T : u_T} (hC : z_Cl k ci nf C T) (hf : f < nf) (hft : z_ft k f = (0, 0, 0, 0)) (hlink : Cond.fieldLink q.1.cls idx (T f).1 (T f).2.1 (T f).2.2.1 ∈ z_U) (hd : decode q.2.1 pc = .ok (.getfield idx, 3)) : z_Sd X D q pc (pc + 3) (x_gI k f) := by
  intro ks kj R ls st M h hs hj p e s m args below meth c Rm cells slots Q C0 H locs la I
  rcases st with _ | ⟨x | x | ⟨k', i⟩, r⟩ <;> first | exact False.elim h | skip
  unfold x_gI at h
  cases hb : Nat.beq k' k with
  | false => simp only [hb] at h; exact False.elim h
  | true =>
    simp only [hb] at h
    have hk := Nat.eq_of_beq_eq_true hb
    subst hk
    exact z_gw C0 hC hf hlink hd I.2.1.1 I.2.2.1 (v := zi (M.1 k' i f)) (by unfold z_fv; rw [hft]; rfl) (hs _ _ _ h p e s m args below meth c Rm cells slots Q C0 H locs la ⟨I.1, ⟨trivial, I.2.1.2⟩, I.2.2⟩)
theorem s_gL {X : z_Cx} {D : Nat} {q : z_MI} {pc k ci nf f idx : Nat} {C : String} {T : u_T} (hC : z_Cl k ci nf C T) (hf : f < nf) (hft : z_ft k f = (1, 0, 0, 0)) (hlink : Cond.fieldLink q.1.cls idx (T f).1 (T f).2.1 (T f).2.2.1 ∈ z_U) (hd : decode q.2.1 pc = .ok (.getfield idx, 3)) : z_Sd X D q pc (pc + 3) (x_gL k) := by
  intro ks kj R ls st M h hs hj p e s m args below meth c Rm cells slots Q C0 H locs la I
  rcases st with _ | ⟨x | x | ⟨k', i⟩, r⟩ <;> first | exact False.elim h | skip
  unfold x_gL at h
  cases hb : Nat.beq k' k with
  | false => simp only [hb] at h; exact False.elim h
  | true =>
    simp only [hb] at h
    have hk := Nat.eq_of_beq_eq_true hb
    subst hk
    exact z_gw C0 hC hf hlink hd I.2.1.1 I.2.2.1 (v := zl (M.2.1 k' i)) (by unfold z_fv; rw [hft]; rfl) (hs _ _ _ h p e s m args below meth c Rm cells slots Q C0 H locs la ⟨I.1, ⟨trivial, I.2.1.2⟩, I.2.2⟩)
theorem s_gR0 {X : z_Cx} {D : Nat} {q : z_MI} {pc k ci nf f idx a c : Nat} {C : String} {T : u_T} (hC : z_Cl k ci nf C T) (hf : f < nf) (hft : z_ft k f = (2, a, 0, c)) (hlink : Cond.fieldLink q.1.cls idx (T f).1 (T f).2.1 (T f).2.2.1 ∈ z_U) (hd : decode q.2.1 pc = .ok (.getfield idx, 3)) (hok : Nat.ble (c + 1) (z_cnt a) = true) : z_Sd X D q pc (pc + 3) (x_gR0 k a c) := by
  intro ks kj R ls st M h hs hj p e s m args below meth c' Rm cells slots Q C0 H locs la I
  rcases st with _ | ⟨x | x | ⟨k', i⟩, r⟩ <;> first | exact False.elim h | skip
  unfold x_gR0 at h
  cases hb : Nat.beq k' k with
  | false => simp only [hb] at h; exact False.elim h
  | true =>
    simp only [hb] at h
    have hk := Nat.eq_of_beq_eq_true hb
    subst hk
    exact z_gw C0 hC hf hlink hd I.2.1.1 I.2.2.1 (v := zr a c) (by unfold z_fv; rw [hft]; show zr a (0 * i + c) = zr a c; rw [Nat.zero_mul, Nat.zero_add]) (hs _ _ _ h p e s m args below meth c' Rm cells slots Q C0 H locs la ⟨I.1, ⟨Nat.le_of_ble_eq_true hok, I.2.1.2⟩, I.2.2⟩)
theorem s_gR1 {X : z_Cx} {D : Nat} {q : z_MI} {pc k ci nf f idx a : Nat} {C : String} {T : u_T} (hC : z_Cl k ci nf C T) (hf : f < nf) (hft : z_ft k f = (2, a, 1, 0)) (hlink : Cond.fieldLink q.1.cls idx (T f).1 (T f).2.1 (T f).2.2.1 ∈ z_U) (hd : decode q.2.1 pc = .ok (.getfield idx, 3)) (hok : Nat.ble (z_cnt k) (z_cnt a) = true) : z_Sd X D q pc (pc + 3) (x_gR1 k a) := by
  intro ks kj R ls st M h hs hj p e s m args below meth c Rm cells slots Q C0 H locs la I
  rcases st with _ | ⟨x | x | ⟨k', i⟩, r⟩ <;> first | exact False.elim h | skip
  unfold x_gR1 at h
  cases hb : Nat.beq k' k with
  | false => simp only [hb] at h; exact False.elim h
  | true =>
    simp only [hb] at h
    have hk := Nat.eq_of_beq_eq_true hb
    subst hk
    exact z_gw C0 hC hf hlink hd I.2.1.1 I.2.2.1 (v := zr a i) (by unfold z_fv; rw [hft]; show zr a (1 * i + 0) = zr a i; rw [Nat.one_mul]; rfl) (hs _ _ _ h p e s m args below meth c Rm cells slots Q C0 H locs la ⟨I.1, ⟨Nat.lt_of_lt_of_le I.2.1.1 (Nat.le_of_ble_eq_true hok), I.2.1.2⟩, I.2.2⟩)
theorem s_gD {X : z_Cx} {D : Nat} {q : z_MI} {pc k ci nf f idx a n : Nat} {C : String} {T : u_T} (hC : z_Cl k ci nf C T) (hf : f < nf) (hft : z_ft k f = (3, a, n, 0)) (hlink : Cond.fieldLink q.1.cls idx (T f).1 (T f).2.1 (T f).2.2.1 ∈ z_U) (hd : decode q.2.1 pc = .ok (.getfield idx, 3)) (hok : Nat.ble 2 (z_cnt a) = true) : z_Sd X D q pc (pc + 3) (x_gD k a n) := by
  intro ks kj R ls st M h hs hj p e s m args below meth c Rm cells slots Q C0 H locs la I
  rcases st with _ | ⟨x | x | ⟨k', i⟩, r⟩ <;> first | exact False.elim h | skip
  unfold x_gD at h
  cases hb : Nat.beq k' k with
  | false => simp only [hb] at h; exact False.elim h
  | true =>
    simp only [hb] at h
    have hk := Nat.eq_of_beq_eq_true hb
    subst hk
    exact z_gw C0 hC hf hlink hd I.2.1.1 I.2.2.1 (v := zr a (M.2.2 k' n).toNat) (by unfold z_fv; rw [hft]; rfl) (hs _ _ _ h p e s m args below meth c Rm cells slots Q C0 H locs la ⟨I.1, ⟨Nat.lt_of_lt_of_le (Bool.toNat_lt (M.2.2 k' n)) (Nat.le_of_ble_eq_true hok), I.2.1.2⟩, I.2.2⟩)
/-- a field put: the world, at the new memory -/
theorem z_pw {X : z_Cx} {D : Nat} {q : z_MI} {R : Int32 → z_M → Prop} {p : Program} {e : Env} {s : State} {m : MethodId} {args : Array Value} {below : List Frame} {meth : Method} {c : Code} {Rm : Room} {cells slots : Nat} {Q : State → Prop}
    (C0 : z_MC X D q R p e s m args below meth c Rm cells slots Q) {k ci nf f idx pc i : Nat} {C : String} {T : u_T} {ty0 : Nat → FieldType} (hC : z_Cl k ci nf C T) (hty : ∀ k, k < nf → parseFieldDescriptor (T k).2.2.1 = some (ty0 k)) (hnm : ∀ a, a < nf → ∀ b, b < nf → a ≠ b → (T a).2.1 ≠ (T b).2.1) (hf : f < nf) (hfin : (T f).2.2.2 = false) (hlink : Cond.fieldLink q.1.cls idx (T f).1 (T f).2.1 (T f).2.2.1 ∈ z_U) (hd : decode q.2.1 pc = .ok (.putfield idx, 3))
    {M M' : z_M} {H : Heap} {locs : List Loc} {la : Array Slot} {rest : List Value} {v : z_V} (hi : i < z_cnt k) (hP : va_P X.2.1 vwCl (z_w X M) H) (hS : va_S (z_A X) s.heap H locs) (hn : narrow (ty0 f) (z_co X.2.2.1 v) = z_co X.2.2.1 v) (hfit : fits (ty0 f) (z_co X.2.2.1 v) = true)
    (hv : z_fv k f i M' = v) (ho : ∀ j, j ≠ f → z_fv k j i M' = z_fv k j i M) (hr : ∀ r ∈ z_pl, r ≠ (k, i) → z_en X M' r = z_en X M r)
    (kk : ∀ (H1 : Heap) (locs1 : List Loc), va_P X.2.1 vwCl (z_w X M') H1 → va_S (z_A X) s.heap H1 locs1 → W p X.1 e Rm s m args below meth c H1 locs1 cells slots Q (F0 m (pc + 3) la rest)) :
    W p X.1 e Rm s m args below meth c H locs cells slots Q (F0 m pc la (z_co X.2.2.1 v :: .ref (X.2.2.1 k i) :: rest)) := by
  obtain ⟨h64, hkd, hcl, hin⟩ := hC
  obtain ⟨q0, hq⟩ := z_pl_at (z_pl_mem h64 hi)
  have he := z_w_at (X := X) (M := M) hq
  have hs := z_w_set (X := X) (M := M) (M' := M') hq hr
  rw [z_en_o hkd] at he hs
  refine va_put (D := X.2.1) (ci := ci) (v := z_co X.2.2.1 v) (ty := ty0 f) (C := C) (T := T) (N := nf) C0.1 C0.2.1 C0.2.2.2.2.1 hin ty0 hty hnm C0.2.2.2.1 C0.2.2.2.2.2.1 hP (z_w_D C0.2.2.2.2.2.2.2.1) hS q0 he hcl f hf (C0.2.2.2.2.1 _ hlink) (fun _ h9 => h9) hfin (hty f hf) hn hfit (by rw [List.length_map, List.length_range]; exact hf) hd (fun H1 locs1 hP1 _ hS1 => kk H1 locs1 ?_ hS1)
  rw [← hs, ← z_rgs nf f (fun f => z_co X.2.2.1 (z_fv k f i M)) (fun f => z_co X.2.2.1 (z_fv k f i M')) (fun j hj => by rw [ho j hj])]
  simp only [hv]
  exact hP1
def x_pI (k f : Nat) : z_X := fun ks _ _ _ ls st M => match st with
  | .inl x :: .inr (.inr (k', i)) :: r => bif Nat.beq k' k then ks ls r (z_s M k i f x) else False
  | _ => False
def x_pZ (k f : Nat) : z_X := fun ks _ _ _ ls st M => match st with
  | .inl x :: .inr (.inr (k', i)) :: r => bif Nat.beq k' k then (x = 0 ∨ x = 1) ∧ ks ls r (z_s M k i f x) else False
  | _ => False
def x_pL (k : Nat) : z_X := fun ks _ _ _ ls st M => match st with
  | .inr (.inl x) :: .inr (.inr (k', i)) :: r => bif Nat.beq k' k then ks ls r (z_sl M k i x) else False
  | _ => False
def x_pD (k a n : Nat) : z_X := fun ks _ _ _ ls st M => match st with
  | .inr (.inr (a', j)) :: .inr (.inr (k', _)) :: r => bif (Nat.beq k' k && Nat.beq a' a) then ks ls r (z_sn M k n (Nat.beq j 1)) else False
  | _ => False
theorem z_ftI {k f j i : Nat} {M : z_M} {x : Int32} (hj : j ≠ f) : z_fv k j i (z_s M k i f x) = z_fv k j i M := by
  unfold z_fv
  rw [z_s_at]
  have : upd (M.1 k i) f x j = M.1 k i j := by unfold upd; rw [if_neg hj]
  rw [this]
  rfl
theorem s_pI {X : z_Cx} {D : Nat} {q : z_MI} {pc k ci nf f idx : Nat} {C : String} {T : u_T} {ty0 : Nat → FieldType} (hC : z_Cl k ci nf C T) (hty : ∀ k, k < nf → parseFieldDescriptor (T k).2.2.1 = some (ty0 k)) (hnm : ∀ a, a < nf → ∀ b, b < nf → a ≠ b → (T a).2.1 ≠ (T b).2.1) (hf : f < nf) (hft : z_ft k f = (0, 0, 0, 0)) (hfin : (T f).2.2.2 = false) (ht : ty0 f = .int) (hlink : Cond.fieldLink q.1.cls idx (T f).1 (T f).2.1 (T f).2.2.1 ∈ z_U) (hd : decode q.2.1 pc = .ok (.putfield idx, 3)) : z_Sd X D q pc (pc + 3) (x_pI k f) := by
  intro ks kj R ls st M h hs hj p e s m args below meth c Rm cells slots Q C0 H locs la I
  rcases st with _ | ⟨x | x | x, _ | ⟨y | y | ⟨k', i⟩, r⟩⟩ <;> first | exact False.elim h | skip
  unfold x_pI at h
  cases hb : Nat.beq k' k with
  | false => simp only [hb] at h; exact False.elim h
  | true =>
    simp only [hb] at h
    have hk := Nat.eq_of_beq_eq_true hb
    subst hk
    refine z_pw C0 hC hty hnm hf hfin hlink hd I.2.1.2.1 I.2.2.1 I.2.2.2.1 (v := zi x) (M' := z_s M k' i f x) (by rw [ht]; rfl) (by rw [ht]; rfl) ?_ (fun j hj => z_ftI hj) (fun r hr hne => z_en_congr (z_s_ne hne) rfl rfl) (fun H1 locs1 hP1 hS1 => hs _ _ _ h p e s m args below meth c Rm cells slots Q C0 H1 locs1 la ⟨I.1, I.2.1.2.2, hP1, hS1, I.2.2.2.2⟩)
    unfold z_fv
    rw [hft, z_s_at]
    show zi (upd _ f x f) = zi x
    unfold upd
    rw [if_pos rfl]
theorem s_pZ {X : z_Cx} {D : Nat} {q : z_MI} {pc k ci nf f idx : Nat} {C : String} {T : u_T} {ty0 : Nat → FieldType} (hC : z_Cl k ci nf C T) (hty : ∀ k, k < nf → parseFieldDescriptor (T k).2.2.1 = some (ty0 k)) (hnm : ∀ a, a < nf → ∀ b, b < nf → a ≠ b → (T a).2.1 ≠ (T b).2.1) (hf : f < nf) (hft : z_ft k f = (0, 0, 0, 0)) (hfin : (T f).2.2.2 = false) (ht : ty0 f = .boolean) (hlink : Cond.fieldLink q.1.cls idx (T f).1 (T f).2.1 (T f).2.2.1 ∈ z_U) (hd : decode q.2.1 pc = .ok (.putfield idx, 3)) : z_Sd X D q pc (pc + 3) (x_pZ k f) := by
  intro ks kj R ls st M h hs hj p e s m args below meth c Rm cells slots Q C0 H locs la I
  rcases st with _ | ⟨x | x | x, _ | ⟨y | y | ⟨k', i⟩, r⟩⟩ <;> first | exact False.elim h | skip
  unfold x_pZ at h
  cases hb : Nat.beq k' k with
  | false => simp only [hb] at h; exact False.elim h
  | true =>
    simp only [hb] at h
    have hk := Nat.eq_of_beq_eq_true hb
    subst hk
    obtain ⟨hx, h⟩ := h
    refine z_pw C0 hC hty hnm hf hfin hlink hd I.2.1.2.1 I.2.2.1 I.2.2.2.1 (v := zi x) (M' := z_s M k' i f x) (by rw [ht]; rcases hx with e | e <;> rw [e] <;> rfl) (by rw [ht]; rcases hx with e | e <;> rw [e] <;> rfl) ?_ (fun j hj => z_ftI hj) (fun r hr hne => z_en_congr (z_s_ne hne) rfl rfl) (fun H1 locs1 hP1 hS1 => hs _ _ _ h p e s m args below meth c Rm cells slots Q C0 H1 locs1 la ⟨I.1, I.2.1.2.2, hP1, hS1, I.2.2.2.2⟩)
    unfold z_fv
    rw [hft, z_s_at]
    show zi (upd _ f x f) = zi x
    unfold upd
    rw [if_pos rfl]
theorem s_pL {X : z_Cx} {D : Nat} {q : z_MI} {pc k ci nf f idx : Nat} {C : String} {T : u_T} {ty0 : Nat → FieldType} (hC : z_Cl k ci nf C T) (hty : ∀ k, k < nf → parseFieldDescriptor (T k).2.2.1 = some (ty0 k)) (hnm : ∀ a, a < nf → ∀ b, b < nf → a ≠ b → (T a).2.1 ≠ (T b).2.1) (hf : f < nf) (hft : z_ft k f = (1, 0, 0, 0)) (hft2 : ∀ j, j ≠ f → (z_ft k j).1 ≠ 1) (hfin : (T f).2.2.2 = false) (ht : ty0 f = .long) (hlink : Cond.fieldLink q.1.cls idx (T f).1 (T f).2.1 (T f).2.2.1 ∈ z_U) (hd : decode q.2.1 pc = .ok (.putfield idx, 3)) : z_Sd X D q pc (pc + 3) (x_pL k) := by
  intro ks kj R ls st M h hs hj p e s m args below meth c Rm cells slots Q C0 H locs la I
  rcases st with _ | ⟨x | x | x, _ | ⟨y | y | ⟨k', i⟩, r⟩⟩ <;> first | exact False.elim h | skip
  unfold x_pL at h
  cases hb : Nat.beq k' k with
  | false => simp only [hb] at h; exact False.elim h
  | true =>
    simp only [hb] at h
    have hk := Nat.eq_of_beq_eq_true hb
    subst hk
    refine z_pw C0 hC hty hnm hf hfin hlink hd I.2.1.2.1 I.2.2.1 I.2.2.2.1 (v := zl x) (M' := z_sl M k' i x) (by rw [ht]; rfl) (by rw [ht]; rfl) ?_ (fun j hj => ?_) (fun r hr hne => z_en_congr rfl ?_ rfl) (fun H1 locs1 hP1 hS1 => hs _ _ _ h p e s m args below meth c Rm cells slots Q C0 H1 locs1 la ⟨I.1, I.2.1.2.2, hP1, hS1, I.2.2.2.2⟩)
    · unfold z_fv
      rw [hft]
      show zl (if k' = k' ∧ i = i then x else _) = zl x
      rw [if_pos ⟨rfl, rfl⟩]
    · have h2 := hft2 j hj
      unfold z_fv
      revert h2
      rcases z_ft k' j with ⟨_ | _ | _ | t, a, b, c⟩ <;> intro h2 <;> first | rfl | exact absurd rfl h2
    · show (if r.1 = k' ∧ r.2 = i then x else _) = _
      rw [if_neg (fun w => hne (Prod.ext w.1 w.2))]
theorem s_pD {X : z_Cx} {D : Nat} {q : z_MI} {pc k ci nf f idx a n : Nat} {C : String} {T : u_T} {ty0 : Nat → FieldType} (hC : z_Cl k ci nf C T) (hty : ∀ k, k < nf → parseFieldDescriptor (T k).2.2.1 = some (ty0 k)) (hnm : ∀ a, a < nf → ∀ b, b < nf → a ≠ b → (T a).2.1 ≠ (T b).2.1) (hf : f < nf) (hft : z_ft k f = (3, a, n, 0)) (hft2 : ∀ j, j ≠ f → (z_ft k j).1 ≤ 2 ∨ (z_ft k j).2.2.1 ≠ n) (hc1 : z_cnt k = 1) (hca : z_cnt a = 2) (hfin : (T f).2.2.2 = false) (ht : ty0 f = .array .int) (hlink : Cond.fieldLink q.1.cls idx (T f).1 (T f).2.1 (T f).2.2.1 ∈ z_U) (hd : decode q.2.1 pc = .ok (.putfield idx, 3)) : z_Sd X D q pc (pc + 3) (x_pD k a n) := by
  intro ks kj R ls st M h hs hj p e s m args below meth c Rm cells slots Q C0 H locs la I
  rcases st with _ | ⟨x | x | ⟨a', j⟩, _ | ⟨y | y | ⟨k', i⟩, r⟩⟩ <;> first | exact False.elim h | skip
  unfold x_pD at h
  cases hb : (Nat.beq k' k && Nat.beq a' a) with
  | false => simp only [hb] at h; exact False.elim h
  | true =>
    simp only [hb] at h
    obtain ⟨hb1, hb2⟩ := Bool.and_eq_true_iff.mp hb
    have hk := Nat.eq_of_beq_eq_true hb1
    have hka := Nat.eq_of_beq_eq_true hb2
    subst hk
    subst hka
    have hj2 : j < 2 := by have := I.2.1.1; rw [show z_ok (Sum.inr (Sum.inr (a', j))) = (j < z_cnt a') from rfl, hca] at this; exact this
    have hjb : (Nat.beq j 1).toNat = j := by
      rcases (show j = 0 ∨ j = 1 by omega) with e | e <;> rw [e] <;> rfl
    refine z_pw C0 hC hty hnm hf hfin hlink hd I.2.1.2.1 I.2.2.1 I.2.2.2.1 (v := zr a' j) (M' := z_sn M k' n (Nat.beq j 1)) (by rw [ht]; rfl) (by rw [ht]; rfl) ?_ (fun j' hj' => ?_) (fun r hr hne => z_en_congr rfl rfl ?_) (fun H1 locs1 hP1 hS1 => hs _ _ _ h p e s m args below meth c Rm cells slots Q C0 H1 locs1 la ⟨I.1, I.2.1.2.2, hP1, hS1, I.2.2.2.2⟩)
    · unfold z_fv
      rw [hft]
      show zr a' (if k' = k' ∧ n = n then Nat.beq j 1 else _).toNat = zr a' j
      rw [if_pos ⟨rfl, rfl⟩, hjb]
    · have h2 := hft2 j' hj'
      unfold z_fv
      revert h2
      rcases z_ft k' j' with ⟨_ | _ | _ | t, b1, b2, b3⟩ <;> intro h2 <;> first | rfl | skip
      show zr b1 ((z_sn M k' n (Nat.beq j 1)).2.2 k' b2).toNat = zr b1 (M.2.2 k' b2).toNat
      rw [z_sn_ne]
      rcases h2 with h2 | h2
      · exact absurd (show t + 3 ≤ 2 from h2) (by omega)
      · exact h2
    · have hr1 := z_lt64 hr
      have hne1 : r.1 ≠ k' := by
        intro w
        apply hne
        have hi0 : i < 1 := by rw [← hc1]; exact I.2.1.2.1
        have hr2 : r.2 < 1 := by rw [← hc1, ← w]; exact hr1.2
        exact Prod.ext w (by show r.2 = i; omega)
      funext x
      show (if r.1 = k' ∧ x = n then _ else _) = _
      rw [if_neg (fun w => hne1 w.1)]
end
section
/-! ===== arrays ===== -/
def x_iald : z_X := fun ks _ _ _ ls st M => match st with
  | .inl x :: .inr (.inr (k, i)) :: r => match z_kd k with
    | (tg, t0, n, _, _, _) => bif (Nat.beq tg 1 && Nat.beq t0 0) then vp_in x n ∧ ks ls (zi (M.1 k i x.toNatClampNeg) :: r) M else False
  | _ => False
def x_bald : z_X := fun ks _ _ _ ls st M => match st with
  | .inl x :: .inr (.inr (k, i)) :: r => match z_kd k with
    | (tg, t0, n, _, _, _) => bif (Nat.beq tg 1 && Nat.beq t0 1) then vp_in x n ∧ ks ls (zi (M.1 k i x.toNatClampNeg) :: r) M else False
  | _ => False
def x_zald : z_X := fun ks _ _ _ ls st M => match st with
  | .inl x :: .inr (.inr (k, i)) :: r => match z_kd k with
    | (tg, t0, n, _, _, _) => bif (Nat.beq tg 1 && Nat.beq t0 2) then vp_in x n ∧ ks ls (zi (M.1 k i x.toNatClampNeg) :: r) M else False
  | _ => False
def x_iast : z_X := fun ks _ _ _ ls st M => match st with
  | .inl v :: .inl x :: .inr (.inr (k, i)) :: r => match z_kd k with
    | (tg, t0, n, _, _, _) => bif (Nat.beq tg 1 && Nat.beq t0 0) then vp_in x n ∧ ks ls r (z_s M k i x.toNatClampNeg v) else False
  | _ => False
def x_bast : z_X := fun ks _ _ _ ls st M => match st with
  | .inl v :: .inl x :: .inr (.inr (k, i)) :: r => match z_kd k with
    | (tg, t0, n, _, _, _) => bif (Nat.beq tg 1 && Nat.beq t0 1) then vp_in x n ∧ ks ls r (z_s M k i x.toNatClampNeg v.toInt8.toInt32) else False
  | _ => False
def x_zast : z_X := fun ks _ _ _ ls st M => match st with
  | .inl v :: .inl x :: .inr (.inr (k, i)) :: r => match z_kd k with
    | (tg, t0, n, _, _, _) => bif (Nat.beq tg 1 && Nat.beq t0 2) then vp_in x n ∧ (v = 0 ∨ v = 1) ∧ ks ls r (z_s M k i x.toNatClampNeg v) else False
  | _ => False
def x_aald : z_X := fun ks _ _ _ ls st M => match st with
  | .inl x :: .inr (.inr (k, i)) :: r => match z_kd k with
    | (tg, _, n, a, b, c) => bif Nat.beq tg 2 then vp_in x n ∧ (bif Nat.beq b 0 then (bif Nat.beq c 0 then ks ls (zr a x.toNatClampNeg :: r) M else ks ls (zr a (x.toNatClampNeg + c) :: r) M) else bif Nat.beq c 0 then ks ls (zr a (x.toNatClampNeg + b * i) :: r) M else False) else False
  | _ => False
def x_alen : z_X := fun ks _ _ _ ls st M => match st with
  | .inr (.inr (k, i)) :: r => match z_kd k with
    | (tg, t0, n, _, _, _) => bif (Nat.beq tg 1 && Nat.beq t0 0) then ks ls (zi (nI n) :: r) M else False
  | _ => False
/-- the static arrays, and the script (65, 4) -/
def x_gst (j : Nat) : z_X := fun ks _ _ _ ls st M => ks ls (zr 65 j :: st) M
def x_sald (X : z_Cx) : z_X := fun ks _ _ _ ls st M => match st with
  | .inl x :: .inr (.inr (k, j)) :: r => bif Nat.beq k 65 then vp_in x (z_sN X j) ∧ ks ls (zi (z_sv X j x.toNatClampNeg) :: r) M else False
  | _ => False
def x_slen (X : z_Cx) : z_X := fun ks _ _ _ ls st M => match st with
  | .inr (.inr (k, j)) :: r => bif Nat.beq k 65 then ks ls (zi (nI (z_sN X j)) :: r) M else False
  | _ => False
theorem z_nk {k : Nat} {t : Nat × Nat × Nat × Nat × Nat} {g : Nat} (h : z_kd k = (g, t)) (hg : g < 3) : k < 64 := by
  rcases Nat.lt_or_ge k 64 with h1 | h1
  · exact h1
  · exfalso
    have e : ∀ n, n ≤ 63 → Nat.ble k n = false := by
      intro n hn
      cases hb : Nat.ble k n with
      | false => rfl
      | true => exact absurd (Nat.le_of_ble_eq_true hb) (by omega)
    have h2 : z_kd k = (3, 0, 0, 0, 0, 0) := by
      simp [z_kd, e]
    rw [h2] at h
    have := congrArg Prod.fst h
    simp at this
    omega
theorem z_pa {X : z_Cx} {M : z_M} {k i t0 n a b c : Nat} (hkd : z_kd k = (1, t0, n, a, b, c)) (hi : i < z_cnt k) : ∃ q0 : Nat, z_pl[q0]? = some (k, i) ∧ (z_w X M)[q0]? = some (X.2.2.1 k i, Sum.inl (X.2.2.2.1 t0, n, Sum.inl (M.1 k i))) := by
  obtain ⟨q0, hq⟩ := z_pl_at (z_pl_mem (z_nk hkd (by decide)) hi)
  exact ⟨q0, hq, by rw [z_w_at hq, z_en_p hkd]⟩
theorem z_pset {X : z_Cx} {M : z_M} {k i t0 n a b c q0 j : Nat} {v : Int32} (hkd : z_kd k = (1, t0, n, a, b, c)) (hq : z_pl[q0]? = some (k, i)) : (z_w X M).set q0 (X.2.2.1 k i, .inl (X.2.2.2.1 t0, n, .inl (upd (M.1 k i) j v))) = z_w X (z_s M k i j v) := by
  have h := z_w_set (X := X) (M := M) (M' := z_s M k i j v) hq (fun r hr hne => z_en_congr (z_s_ne hne) rfl rfl)
  rw [z_en_p hkd, z_s_at] at h
  exact h
theorem s_iald {X : z_Cx} {D : Nat} {q : z_MI} {pc : Nat} (hd : decode q.2.1 pc = .ok (.iaload, 1)) : z_Sd X D q pc (pc + 1) x_iald := by
  intro ks kj R ls st M h hs hj p e s m args below meth c Rm cells slots Q C0 H locs la I
  rcases st with _ | ⟨x | x | x, _ | ⟨y | y | ⟨k, i⟩, r⟩⟩ <;> first | exact False.elim h | skip
  unfold x_iald at h
  simp only at h
  cases hkd : z_kd k with
  | mk tg t =>
    obtain ⟨t0, n, a, b, c2⟩ := t
    rw [hkd] at h
    simp only at h
    cases hb : (Nat.beq tg 1 && Nat.beq t0 0) with
    | false => rw [hb] at h; exact False.elim h
    | true =>
      rw [hb] at h
      obtain ⟨hb1, hb2⟩ := Bool.and_eq_true_iff.mp hb
      have e1 := Nat.eq_of_beq_eq_true hb1
      have e2 := Nat.eq_of_beq_eq_true hb2
      subst e1
      subst e2
      obtain ⟨q0, hq, he⟩ := z_pa (X := X) (M := M) hkd I.2.1.2.1
      exact va_iald C0.1 C0.2.1 C0.2.2.2.2.2.1 I.2.2.1 q0 0 he rfl h.1 hd (hs _ _ _ h.2 p e s m args below meth c Rm cells slots Q C0 H locs la ⟨I.1, ⟨trivial, I.2.1.2.2⟩, I.2.2⟩)
theorem s_bald {X : z_Cx} {D : Nat} {q : z_MI} {pc : Nat} (hd : decode q.2.1 pc = .ok (.baload, 1)) : z_Sd X D q pc (pc + 1) x_bald := by
  intro ks kj R ls st M h hs hj p e s m args below meth c Rm cells slots Q C0 H locs la I
  rcases st with _ | ⟨x | x | x, _ | ⟨y | y | ⟨k, i⟩, r⟩⟩ <;> first | exact False.elim h | skip
  unfold x_bald at h
  simp only at h
  cases hkd : z_kd k with
  | mk tg t =>
    obtain ⟨t0, n, a, b, c2⟩ := t
    rw [hkd] at h
    simp only at h
    cases hb : (Nat.beq tg 1 && Nat.beq t0 1) with
    | false => rw [hb] at h; exact False.elim h
    | true =>
      rw [hb] at h
      obtain ⟨hb1, hb2⟩ := Bool.and_eq_true_iff.mp hb
      have e1 := Nat.eq_of_beq_eq_true hb1
      have e2 := Nat.eq_of_beq_eq_true hb2
      subst e1
      subst e2
      obtain ⟨q0, hq, he⟩ := z_pa (X := X) (M := M) hkd I.2.1.2.1
      exact va_bald C0.1 C0.2.1 C0.2.2.2.2.2.1 I.2.2.1 q0 1 he rfl h.1 hd (hs _ _ _ h.2 p e s m args below meth c Rm cells slots Q C0 H locs la ⟨I.1, ⟨trivial, I.2.1.2.2⟩, I.2.2⟩)
theorem s_zald {X : z_Cx} {D : Nat} {q : z_MI} {pc : Nat} (hd : decode q.2.1 pc = .ok (.baload, 1)) : z_Sd X D q pc (pc + 1) x_zald := by
  intro ks kj R ls st M h hs hj p e s m args below meth c Rm cells slots Q C0 H locs la I
  rcases st with _ | ⟨x | x | x, _ | ⟨y | y | ⟨k, i⟩, r⟩⟩ <;> first | exact False.elim h | skip
  unfold x_zald at h
  simp only at h
  cases hkd : z_kd k with
  | mk tg t =>
    obtain ⟨t0, n, a, b, c2⟩ := t
    rw [hkd] at h
    simp only at h
    cases hb : (Nat.beq tg 1 && Nat.beq t0 2) with
    | false => rw [hb] at h; exact False.elim h
    | true =>
      rw [hb] at h
      obtain ⟨hb1, hb2⟩ := Bool.and_eq_true_iff.mp hb
      have e1 := Nat.eq_of_beq_eq_true hb1
      have e2 := Nat.eq_of_beq_eq_true hb2
      subst e1
      subst e2
      obtain ⟨q0, hq, he⟩ := z_pa (X := X) (M := M) hkd I.2.1.2.1
      exact va_zald C0.1 C0.2.1 C0.2.2.2.2.2.1 I.2.2.1 q0 2 he rfl h.1 hd (hs _ _ _ h.2 p e s m args below meth c Rm cells slots Q C0 H locs la ⟨I.1, ⟨trivial, I.2.1.2.2⟩, I.2.2⟩)
theorem s_iast {X : z_Cx} {D : Nat} {q : z_MI} {pc : Nat} (hd : decode q.2.1 pc = .ok (.iastore, 1)) : z_Sd X D q pc (pc + 1) x_iast := by
  intro ks kj R ls st M h hs hj p e s m args below meth c Rm cells slots Q C0 H locs la I
  rcases st with _ | ⟨v | v | v, _ | ⟨x | x | x, _ | ⟨y | y | ⟨k, i⟩, r⟩⟩⟩ <;> first | exact False.elim h | skip
  unfold x_iast at h
  simp only at h
  cases hkd : z_kd k with
  | mk tg t =>
    obtain ⟨t0, n, a, b, c2⟩ := t
    rw [hkd] at h
    simp only at h
    cases hb : (Nat.beq tg 1 && Nat.beq t0 0) with
    | false => rw [hb] at h; exact False.elim h
    | true =>
      rw [hb] at h
      obtain ⟨hb1, hb2⟩ := Bool.and_eq_true_iff.mp hb
      have e1 := Nat.eq_of_beq_eq_true hb1
      have e2 := Nat.eq_of_beq_eq_true hb2
      subst e1
      subst e2
      obtain ⟨q0, hq, he⟩ := z_pa (X := X) (M := M) hkd I.2.1.2.2.1
      exact va_iast C0.1 C0.2.1 C0.2.2.2.2.2.1 I.2.2.1 (z_w_D C0.2.2.2.2.2.2.2.1) I.2.2.2.1 q0 0 he rfl h.1 hd (fun H1 locs1 hP1 _ hS1 => hs _ _ _ h.2 p e s m args below meth c Rm cells slots Q C0 H1 locs1 la ⟨I.1, I.2.1.2.2.2, by rw [z_pset hkd hq] at hP1; exact hP1, hS1, I.2.2.2.2⟩)
theorem s_bast {X : z_Cx} {D : Nat} {q : z_MI} {pc : Nat} (hd : decode q.2.1 pc = .ok (.bastore, 1)) : z_Sd X D q pc (pc + 1) x_bast := by
  intro ks kj R ls st M h hs hj p e s m args below meth c Rm cells slots Q C0 H locs la I
  rcases st with _ | ⟨v | v | v, _ | ⟨x | x | x, _ | ⟨y | y | ⟨k, i⟩, r⟩⟩⟩ <;> first | exact False.elim h | skip
  unfold x_bast at h
  simp only at h
  cases hkd : z_kd k with
  | mk tg t =>
    obtain ⟨t0, n, a, b, c2⟩ := t
    rw [hkd] at h
    simp only at h
    cases hb : (Nat.beq tg 1 && Nat.beq t0 1) with
    | false => rw [hb] at h; exact False.elim h
    | true =>
      rw [hb] at h
      obtain ⟨hb1, hb2⟩ := Bool.and_eq_true_iff.mp hb
      have e1 := Nat.eq_of_beq_eq_true hb1
      have e2 := Nat.eq_of_beq_eq_true hb2
      subst e1
      subst e2
      obtain ⟨q0, hq, he⟩ := z_pa (X := X) (M := M) hkd I.2.1.2.2.1
      exact va_bast C0.1 C0.2.1 C0.2.2.2.2.2.1 I.2.2.1 (z_w_D C0.2.2.2.2.2.2.2.1) I.2.2.2.1 q0 1 he rfl h.1 hd (fun H1 locs1 hP1 _ hS1 => hs _ _ _ h.2 p e s m args below meth c Rm cells slots Q C0 H1 locs1 la ⟨I.1, I.2.1.2.2.2, by rw [z_pset hkd hq] at hP1; exact hP1, hS1, I.2.2.2.2⟩)
theorem z_nz {v : Int32} (h : v = 0 ∨ v = 1) : vp_nar .boolean v = v := by rcases h with e | e <;> rw [e] <;> rfl
theorem s_zast {X : z_Cx} {D : Nat} {q : z_MI} {pc : Nat} (hd : decode q.2.1 pc = .ok (.bastore, 1)) : z_Sd X D q pc (pc + 1) x_zast := by
  intro ks kj R ls st M h hs hj p e s m args below meth c Rm cells slots Q C0 H locs la I
  rcases st with _ | ⟨v | v | v, _ | ⟨x | x | x, _ | ⟨y | y | ⟨k, i⟩, r⟩⟩⟩ <;> first | exact False.elim h | skip
  unfold x_zast at h
  simp only at h
  cases hkd : z_kd k with
  | mk tg t =>
    obtain ⟨t0, n, a, b, c2⟩ := t
    rw [hkd] at h
    simp only at h
    cases hb : (Nat.beq tg 1 && Nat.beq t0 2) with
    | false => rw [hb] at h; exact False.elim h
    | true =>
      rw [hb] at h
      obtain ⟨hb1, hb2⟩ := Bool.and_eq_true_iff.mp hb
      have e1 := Nat.eq_of_beq_eq_true hb1
      have e2 := Nat.eq_of_beq_eq_true hb2
      subst e1
      subst e2
      obtain ⟨q0, hq, he⟩ := z_pa (X := X) (M := M) hkd I.2.1.2.2.1
      exact va_zast C0.1 C0.2.1 C0.2.2.2.2.2.1 I.2.2.1 (z_w_D C0.2.2.2.2.2.2.2.1) I.2.2.2.1 q0 2 he rfl h.1 hd (fun H1 locs1 hP1 _ hS1 => hs _ _ _ h.2.2 p e s m args below meth c Rm cells slots Q C0 H1 locs1 la ⟨I.1, I.2.1.2.2.2, by rw [z_nz h.2.1, z_pset hkd hq] at hP1; exact hP1, hS1, I.2.2.2.2⟩)
theorem s_alen {X : z_Cx} {D : Nat} {q : z_MI} {pc : Nat} (hd : decode q.2.1 pc = .ok (.arraylength, 1)) : z_Sd X D q pc (pc + 1) x_alen := by
  intro ks kj R ls st M h hs hj p e s m args below meth c Rm cells slots Q C0 H locs la I
  rcases st with _ | ⟨x | x | ⟨k, i⟩, r⟩ <;> first | exact False.elim h | skip
  unfold x_alen at h
  simp only at h
  cases hkd : z_kd k with
  | mk tg t =>
    obtain ⟨t0, n, a, b, c2⟩ := t
    rw [hkd] at h
    simp only at h
    cases hb : (Nat.beq tg 1 && Nat.beq t0 0) with
    | false => rw [hb] at h; exact False.elim h
    | true =>
      rw [hb] at h
      obtain ⟨hb1, hb2⟩ := Bool.and_eq_true_iff.mp hb
      have e1 := Nat.eq_of_beq_eq_true hb1
      have e2 := Nat.eq_of_beq_eq_true hb2
      subst e1
      subst e2
      obtain ⟨q0, hq, he⟩ := z_pa (X := X) (M := M) hkd I.2.1.1
      exact va_alen C0.1 C0.2.1 C0.2.2.2.2.2.1 I.2.2.1 q0 0 he (ty := .int) rfl rfl hd (hs _ _ _ h p e s m args below meth c Rm cells slots Q C0 H locs la ⟨I.1, ⟨trivial, I.2.1.2⟩, I.2.2⟩)
theorem s_gst {X : z_Cx} {D : Nat} {q : z_MI} {pc j idx : Nat} (hj4 : j < 4) (hlink : Cond.fieldLink q.1.cls idx (z_sd j).1 (z_sd j).2.1 "[I" ∈ z_U) (hd : decode q.2.1 pc = .ok (.getstatic idx, 3)) : z_Sd X D q pc (pc + 3) (x_gst j) := by
  intro ks kj R ls st M h hs hj p e s m args below meth c Rm cells slots Q C0 H locs la I
  exact va_gets C0.1 C0.2.1 (C0.2.2.2.2.2.2.1.1 j hj4) I.2.2.2.1 C0.2.2.2.1 (C0.2.2.2.2.1 _ hlink) (fun _ h9 => h9) hd (hs _ _ _ h p e s m args below meth c Rm cells slots Q C0 H locs la ⟨I.1, ⟨(show j < z_cnt 65 from Nat.lt_of_lt_of_le hj4 (by decide)), I.2.1⟩, I.2.2⟩)
theorem s_sald {X : z_Cx} {D : Nat} {q : z_MI} {pc : Nat} (hd : decode q.2.1 pc = .ok (.iaload, 1)) : z_Sd X D q pc (pc + 1) (x_sald X) := by
  intro ks kj R ls st M h hs hj p e s m args below meth c Rm cells slots Q C0 H locs la I
  rcases st with _ | ⟨x | x | x, _ | ⟨y | y | ⟨k, j⟩, r⟩⟩ <;> first | exact False.elim h | skip
  unfold x_sald at h
  simp only at h
  cases hb : Nat.beq k 65 with
  | false => rw [hb] at h; exact False.elim h
  | true =>
    rw [hb] at h
    have e1 := Nat.eq_of_beq_eq_true hb
    subst e1
    have hj5 : j < 5 := I.2.1.2.1
    exact va_ti C0.1 C0.2.1 (C0.2.2.2.2.2.2.1.2.1 j hj5) I.2.2.2.1 h.1 rfl hd (hs _ _ _ h.2 p e s m args below meth c Rm cells slots Q C0 H locs la ⟨I.1, ⟨trivial, I.2.1.2.2⟩, I.2.2⟩)
theorem s_slen {X : z_Cx} {D : Nat} {q : z_MI} {pc : Nat} (hd : decode q.2.1 pc = .ok (.arraylength, 1)) : z_Sd X D q pc (pc + 1) (x_slen X) := by
  intro ks kj R ls st M h hs hj p e s m args below meth c Rm cells slots Q C0 H locs la I
  rcases st with _ | ⟨x | x | ⟨k, j⟩, r⟩ <;> first | exact False.elim h | skip
  unfold x_slen at h
  simp only at h
  cases hb : Nat.beq k 65 with
  | false => rw [hb] at h; exact False.elim h
  | true =>
    rw [hb] at h
    have e1 := Nat.eq_of_beq_eq_true hb
    subst e1
    have hj5 : j < 5 := I.2.1.1
    exact va_tlen C0.1 C0.2.1 (C0.2.2.2.2.2.2.1.2.1 j hj5) I.2.2.2.1 rfl hd (hs _ _ _ h p e s m args below meth c Rm cells slots Q C0 H locs la ⟨I.1, ⟨trivial, I.2.1.2⟩, I.2.2⟩)
theorem z_aa {X : z_Cx} {D : Nat} {q : z_MI} {R : Int32 → z_M → Prop} {p : Program} {e : Env} {s : State} {m : MethodId} {args : Array Value} {below : List Frame} {meth : Method} {c : Code} {Rm : Room} {cells slots : Nat} {Q : State → Prop}
    (C0 : z_MC X D q R p e s m args below meth c Rm cells slots Q) {k i t0 n a b c2 pc : Nat} (hkd : z_kd k = (2, t0, n, a, b, c2)) (ht : 3 ≤ t0 ∧ t0 < 8) (hi : i < z_cnt k) (hd : decode q.2.1 pc = .ok (.aaload, 1)) {M : z_M} {H : Heap} {locs : List Loc} {la : Array Slot} {rest : List Value} {x : Int32} (hin : vp_in x n) (hP : va_P X.2.1 vwCl (z_w X M) H)
    (kk : W p X.1 e Rm s m args below meth c H locs cells slots Q (F0 m (pc + 1) la (.ref (X.2.2.1 a (b * i + c2 + x.toNatClampNeg)) :: rest))) : W p X.1 e Rm s m args below meth c H locs cells slots Q (F0 m pc la (.int x :: .ref (X.2.2.1 k i) :: rest)) := by
  obtain ⟨q0, hq⟩ := z_pl_at (z_pl_mem (z_nk hkd (by decide)) hi)
  have he : (z_w X M)[q0]? = _ := (z_w_at hq).trans (congrArg some (z_en_r hkd))
  have hK := C0.2.2.2.2.2.1
  have hlt : x.toNatClampNeg < n := Nat.not_le.mp fun q => hin (Or.inr q)
  have key : ∀ (ty : FieldType), (z_ty X.2.2.2.1)[t0]? = some (X.2.2.2.1 t0, ty) → ty.isReference = true → W p X.1 e Rm s m args below meth c H locs cells slots Q (F0 m pc la (.int x :: .ref (X.2.2.1 k i) :: rest)) := by
    intro ty hty hrf
    exact W.aald (v := .ref (X.2.2.1 a (b * i + c2 + x.toNatClampNeg))) (ty := ty) C0.1 C0.2.1 (hP q0 _ he) ((hK.2 t0 _ hty).1 n (fun j => va_rf (some (X.2.2.1 a (b * i + c2 + j))))) hrf (fun q => by cases q) (by show ¬ (x < 0 ∨ (arrV _ _ _).slots.size ≤ _); rw [arrV_size]; exact hin) (by show (arrV _ _ _).slots[_]? = _; rw [arrV_read _ _ hlt]; rfl) rfl rfl hd kk
  rcases (show t0 = 3 ∨ t0 = 4 ∨ t0 = 5 ∨ t0 = 6 ∨ t0 = 7 by omega) with e | e | e | e | e <;> subst e <;> exact key _ rfl rfl
/-- the arrays of places: their rows are places -/
theorem z_aaT : ∀ k, k < 64 → (z_kd k).1 = 2 → 3 ≤ (z_kd k).2.1 ∧ (z_kd k).2.1 < 8 ∧ ((z_kd k).2.2.2.2.1 * (z_cnt k - 1) + (z_kd k).2.2.2.2.2 + (z_kd k).2.2.1 ≤ z_cnt (z_kd k).2.2.2.1) := by decide +kernel
theorem s_aald {X : z_Cx} {D : Nat} {q : z_MI} {pc : Nat} (hd : decode q.2.1 pc = .ok (.aaload, 1)) : z_Sd X D q pc (pc + 1) x_aald := by
  intro ks kj R ls st M h hs hj p e s m args below meth c Rm cells slots Q C0 H locs la I
  rcases st with _ | ⟨x | x | x, _ | ⟨y | y | ⟨k, i⟩, r⟩⟩ <;> first | exact False.elim h | skip
  unfold x_aald at h
  simp only at h
  cases hkd : z_kd k with
  | mk tg t =>
    obtain ⟨t0, n, a, b, c2⟩ := t
    rw [hkd] at h
    simp only at h
    cases hb : (Nat.beq tg 2) with
    | false => rw [hb] at h; exact False.elim h
    | true =>
      rw [hb] at h
      have e1 := Nat.eq_of_beq_eq_true hb
      subst e1
      obtain ⟨hin, h⟩ := h
      have hT := z_aaT k (z_nk hkd (by decide)) (by rw [hkd])
      rw [hkd] at hT
      obtain ⟨ht1, ht2, ht3⟩ := hT
      simp only at ht1 ht2 ht3
      have hi : i < z_cnt k := I.2.1.2.1
      have hlt : x.toNatClampNeg < n := Nat.not_le.mp fun q => hin (Or.inr q)
      have hok : b * i + c2 + x.toNatClampNeg < z_cnt a := by
        have : b * i ≤ b * (z_cnt k - 1) := Nat.mul_le_mul_left b (by omega)
        omega
      refine z_aa C0 hkd ⟨ht1, ht2⟩ hi hd hin I.2.2.1 ?_
      have go : ∀ v, v = b * i + c2 + x.toNatClampNeg → ks ls (zr a v :: r) M → W p X.1 e Rm s m args below meth c H locs cells slots Q (F0 m (pc + 1) la (.ref (X.2.2.1 a (b * i + c2 + x.toNatClampNeg)) :: z_cs X r)) := by
        intro v hv hk
        rw [← hv]
        exact hs _ _ _ hk p e s m args below meth c Rm cells slots Q C0 H locs la ⟨I.1, ⟨by show v < z_cnt a; rw [hv]; exact hok, I.2.1.2.2⟩, I.2.2⟩
      cases hb0 : Nat.beq b 0 with
      | true =>
        rw [hb0] at h
        have e0 := Nat.eq_of_beq_eq_true hb0
        cases hc0 : Nat.beq c2 0 with
        | true =>
          rw [hc0] at h
          have e2 := Nat.eq_of_beq_eq_true hc0
          exact go x.toNatClampNeg (by rw [e0, e2]; omega) h
        | false =>
          rw [hc0] at h
          exact go (x.toNatClampNeg + c2) (by rw [e0]; omega) h
      | false =>
        rw [hb0] at h
        cases hc0 : Nat.beq c2 0 with
        | true =>
          rw [hc0] at h
          have e2 := Nat.eq_of_beq_eq_true hc0
          exact go (x.toNatClampNeg + b * i) (by rw [e2]; omega) h
        | false => rw [hc0] at h; exact False.elim h
end
section
/-! ===== calls ===== -/
def x_vi (q' : z_MI) (n kc : Nat) : z_X := fun ks _ _ C ls stk M => match z_pop (n + 1) stk [] with
  | some (.inr (.inr (k, i)) :: as, r) => bif (Nat.beq k kc && Nat.ble (z_wd r) 8) then C q' (zr k i :: as) M (fun v M' => ks ls (zi v :: r) M') else False
    | _ => False
def x_vv (q' : z_MI) (n kc : Nat) : z_X := fun ks _ _ C ls stk M => match z_pop (n + 1) stk [] with
  | some (.inr (.inr (k, i)) :: as, r) => bif (Nat.beq k kc && Nat.ble (z_wd r) 8) then C q' (zr k i :: as) M (fun _ M' => ks ls r M') else False
    | _ => False
def x_si (q' : z_MI) (n : Nat) : z_X := fun ks _ _ C ls stk M => match z_pop n stk [] with
  | some (as, r) => bif (Nat.ble (z_wd r) 8) then C q' as M (fun v M' => ks ls (zi v :: r) M') else False
    | none => False
def x_sv (q' : z_MI) (n : Nat) : z_X := fun ks _ _ C ls stk M => match z_pop n stk [] with
  | some (as, r) => bif (Nat.ble (z_wd r) 8) then C q' as M (fun _ M' => ks ls r M') else False
    | none => False
theorem z_Qs {X : z_Cx} {rt : Option FieldType} {S : Int32 → z_M → Prop} {ty : FieldType} (h : rt = some ty) : z_Q X rt S = va_Qi (fun (r : Int32) (M' : z_M) => S r M') (fun M' t => va_P X.2.1 vwCl (z_w X M') t.heap) (z_A X) := by rw [h]; rfl
theorem z_Qn {X : z_Cx} {rt : Option FieldType} {S : Int32 → z_M → Prop} (h : rt = none) : z_Q X rt S = va_Qv (fun M' : z_M => S 0 M') (fun M' t => va_P X.2.1 vwCl (z_w X M') t.heap) (z_A X) := by rw [h]; rfl
theorem z_blind {X : z_Cx} {as : List z_V} {M : z_M} : FrameBlind (z_Pc X as M) := fun a U g mk q => by
  obtain ⟨h1, h2, h3, h4, h5⟩ := q
  exact ⟨h1, h2, va_K.moved (u := U) (U := U.calling g mk a) (Vm.Alike.refl U.vm) h3, z_SF.same (u := U) (U := U.calling g mk a) rfl h4, h5⟩
theorem z_pre {X : z_Cx} {D : Nat} {q : z_MI} {R : Int32 → z_M → Prop} {p : Program} {e : Env} {s : State} {m : MethodId} {args : Array Value} {below : List Frame} {meth : Method} {c : Code} {Rm : Room} {cells slots : Nat} {Q : State → Prop}
    (C0 : z_MC X D q R p e s m args below meth c Rm cells slots Q) {M : z_M} {as : List z_V} {H : Heap} {locs : List Loc} (hP : va_P X.2.1 vwCl (z_w X M) H) (hS : va_S (z_A X) s.heap H locs) : PreS s H (z_Pc X as M) (z_cs X as) :=
  ⟨z_blind, fun U hU hW => ⟨rfl, by rw [hU]; exact hP, va_K.moved hW.alike C0.2.2.2.2.2.1, by rw [hU]; exact (C0.2.2.2.2.2.2.1.kept hS.2.1).warm hW, C0.2.2.2.2.2.2.2.1⟩⟩
theorem z_room {X : z_Cx} {D : Nat} {q : z_MI} {R : Int32 → z_M → Prop} {p : Program} {e : Env} {s : State} {m : MethodId} {args : Array Value} {below : List Frame} {meth : Method} {c : Code} {Rm : Room} {cells slots : Nat} {Q : State → Prop}
    (C0 : z_MC X D q R p e s m args below meth c Rm cells slots Q) {d maxL : Nat} (hd : d < D) (hm : Nat.ble maxL 45 = true) : (z_rm d).frames + 1 ≤ Rm.frames ∧ 8 + (maxL + 11) + (z_rm d).locals ≤ Rm.locals := by
  obtain ⟨h1, h2, -, -⟩ := C0.2.2.2.2.2.2.2.2.1
  have h3 := Nat.le_of_ble_eq_true hm
  show d + 1 + 1 ≤ _ ∧ 8 + (maxL + 11) + 64 * (d + 1) ≤ _
  omega
/-- what a call row asks of the callee's words -/
def z_cw (q q' : z_MI) (idx n : Nat) : Prop := Cond.methodLink q.1.cls idx q'.1 ∈ z_U ∧ Cond.initialized q'.1.cls ∈ z_U ∧ Cond.code q'.1 q'.2.1 q'.2.2.1 q'.2.2.2 ∈ z_U ∧ (q'.1.cls ≠ "java/lang/invoke/MethodHandle" ∧ q'.1.cls ≠ "java/lang/invoke/VarHandle" ∧ (parseMethodDescriptor q'.1.desc).map (fun d => d.parameters.length) = some n) ∧ Nat.ble q'.2.2.1 45 = true
def z_cwN (q q' : z_MI) (idx n : Nat) (host : String) : Prop := (q.1.cls, idx, q'.1, host) ∈ z_N ∧ Cond.initialized q'.1.cls ∈ z_U ∧ Cond.code q'.1 q'.2.1 q'.2.2.1 q'.2.2.2 ∈ z_U ∧ (q'.1.cls ≠ "java/lang/invoke/MethodHandle" ∧ q'.1.cls ≠ "java/lang/invoke/VarHandle" ∧ (parseMethodDescriptor q'.1.desc).map (fun d => d.parameters.length) = some n) ∧ Nat.ble q'.2.2.1 45 = true
theorem z_ws_in {q' : z_MI} (h : Cond.code q'.1 q'.2.1 q'.2.2.1 q'.2.2.2 ∈ z_U) : GoodIn z_U (z_ws q') := z_U_in (fun w hw => (List.mem_cons.mp hw).elim (fun e => e ▸ h) id)
theorem z_cb {X : z_Cx} {D : Nat} {q q' : z_MI} {R : Int32 → z_M → Prop} {p : Program} {e : Env} {s : State} {m : MethodId} {args : Array Value} {below : List Frame} {meth : Method} {c : Code} {Rm : Room} {cells slots : Nat} {Q : State → Prop}
    (C0 : z_MC X D q R p e s m args below meth c Rm cells slots Q) {idx n d : Nat} (h : z_cw q q' idx n) (hd : d < D) : CallB Rm s args q.1.cls idx q'.1 q'.2.1 q'.2.2.1 q'.2.2.2 (z_ws q') (z_rm d) 0 0 n := by
  obtain ⟨h1, h2, h3, h4, h5⟩ := h
  have hts := C0.2.2.2.2.1
  exact callB_of n hts (z_ws_in h3) rfl rfl rfl (hts _ h2) (hts _ h1) h4 (z_room C0 hd h5)
theorem z_cbN {X : z_Cx} {D : Nat} {q q' : z_MI} {R : Int32 → z_M → Prop} {p : Program} {e : Env} {s : State} {m : MethodId} {args : Array Value} {below : List Frame} {meth : Method} {c : Code} {Rm : Room} {cells slots : Nat} {Q : State → Prop}
    (C0 : z_MC X D q R p e s m args below meth c Rm cells slots Q) {idx n d : Nat} {host : String} (h : z_cwN q q' idx n host) (hd : d < D) : va_CN Rm s args q.1.cls idx q'.1 host q'.2.1 q'.2.2.1 q'.2.2.2 (z_ws q') (z_rm d) 0 0 n := by
  obtain ⟨h1, h2, h3, h4, h5⟩ := h
  have hts := C0.2.2.2.2.1
  exact va_cnB n hts (z_ws_in h3) rfl rfl rfl (C0.2.2.2.2.2.2.1.2.2.2.2.2.2 _ h1) (hts _ h2) h4 (z_room C0 hd h5)
theorem z_cs_pop {X : z_Cx} {n : Nat} {st as r : List z_V} (h : z_pop n st [] = some (as, r)) : as.length = n ∧ z_cs X st = (z_cs X as).reverse ++ z_cs X r := by
  obtain ⟨b, e1, e2, e3⟩ := z_pop_spec h
  rw [List.append_nil] at e1
  subst e1
  exact ⟨e2, by rw [e3]; unfold z_cs; rw [List.map_append, List.map_reverse]⟩
theorem z_len {X : z_Cx} {as : List z_V} : (z_cs X as).length = as.length := List.length_map ..
/-- the receiver is of the class that the call names -/
theorem z_rc {X : z_Cx} {D : Nat} {q : z_MI} {R : Int32 → z_M → Prop} {p : Program} {e : Env} {s : State} {m : MethodId} {args : Array Value} {below : List Frame} {meth : Method} {c : Code} {Rm : Room} {cells slots : Nat} {Q : State → Prop}
    (C0 : z_MC X D q R p e s m args below meth c Rm cells slots Q) {k ci nf i : Nat} {C : String} {T : u_T} (hC : z_Cl k ci nf C T) {M : z_M} {H : Heap} (hi : i < z_cnt k) (hP : va_P X.2.1 vwCl (z_w X M) H) : ∃ cell : Cell, H[X.2.2.1 k i]? = some cell ∧ cell.vm.isStatics = false ∧ s.vm.findClass C = some cell.cls := by
  obtain ⟨h64, hkd, hcl, -⟩ := hC
  obtain ⟨q0, hq⟩ := z_pl_at (z_pl_mem h64 hi)
  have he := z_w_at (X := X) (M := M) hq
  rw [z_en_o hkd] at he
  exact va_recv C0.2.2.2.2.2.1 hP hcl he
section ZC
variable {X : z_Cx} {D : Nat} {q q' : z_MI} {pc idx n k ci nf : Nat} {T : u_T} {ty : FieldType} {host : String}
theorem z_vgo {ks : z_K} {ls : z_L} {stk : List z_V} {M : z_M} {C : z_C} {push : Int32 → List z_V → List z_V} {kc : Nat}
    (h : match z_pop (n + 1) stk [] with
      | some (.inr (.inr (k, i)) :: as, r) => bif (Nat.beq k kc && Nat.ble (z_wd r) 8) then C q' (zr k i :: as) M (fun v M' => ks ls (push v r) M') else False
      | _ => False) : ∃ (i : Nat) (as r : List z_V), z_pop (n + 1) stk [] = some (zr kc i :: as, r) ∧ z_wd r ≤ 8 ∧ C q' (zr kc i :: as) M (fun v M' => ks ls (push v r) M') := by
  revert h
  cases hp : z_pop (n + 1) stk [] with
  | none => exact fun h => False.elim h
  | some w =>
    obtain ⟨_ | ⟨v | v | ⟨k2, i⟩, as⟩, r⟩ := w
    · exact fun h => False.elim h
    · exact fun h => False.elim h
    · exact fun h => False.elim h
    · intro h
      cases hb : (Nat.beq k2 kc && Nat.ble (z_wd r) 8) with
      | false => simp only [hb] at h; exact False.elim h
      | true =>
        simp only [hb] at h
        obtain ⟨hb1, hb2⟩ := Bool.and_eq_true_iff.mp hb
        have e1 := Nat.eq_of_beq_eq_true hb1
        subst e1
        exact ⟨i, as, r, rfl, Nat.le_of_ble_eq_true hb2, h⟩
theorem z_sgo {ks : z_K} {ls : z_L} {stk : List z_V} {M : z_M} {C : z_C} {push : Int32 → List z_V → List z_V}
    (h : match z_pop n stk [] with
      | some (as, r) => bif (Nat.ble (z_wd r) 8) then C q' as M (fun v M' => ks ls (push v r) M') else False
      | none => False) : ∃ (as r : List z_V), z_pop n stk [] = some (as, r) ∧ z_wd r ≤ 8 ∧ C q' as M (fun v M' => ks ls (push v r) M') := by
  revert h
  cases hp : z_pop n stk [] with
  | none => exact fun h => False.elim h
  | some w =>
    obtain ⟨as, r⟩ := w
    intro h
    cases hb : (Nat.ble (z_wd r) 8) with
    | false => simp only [hb] at h; exact False.elim h
    | true =>
      simp only [hb] at h
      exact ⟨as, r, rfl, Nat.le_of_ble_eq_true hb, h⟩
theorem s_vi (hC : z_Cl k ci nf q'.1.cls T) (hw : z_cw q q' idx n) (hin : Cond.instanceMethod q'.1 ∈ z_U) (hsel : Cond.selects q'.1.cls q'.1 q'.1 ∈ z_U) (hrt : q'.2.2.2 = some ty) (hd : decode q.2.1 pc = .ok (.invokevirtual idx, 3)) : z_Sd X D q pc (pc + 3) (x_vi q' n k) := by
  intro ks kj R ls st M h hs hj p e s m args below meth c Rm cells slots Q C0 H locs la I
  obtain ⟨i, as, r, hp, hwd, d, hdD, hcon⟩ := z_vgo (push := fun v r => zi v :: r) h
  obtain ⟨ho1, ho2⟩ := z_oks_pop hp I.2.1 trivial
  obtain ⟨hl1, hl2⟩ := z_cs_pop (X := X) hp
  have hM := hcon ho1
  rw [z_Qs hrt] at hM
  have hts := C0.2.2.2.2.1
  refine va_calli (va_runV (As := z_cs X as) (rest := z_cs X r) (C := q'.1.cls) ⟨C0.1, C0.2.1, C0.2.2.1, C0.2.2.2.1, hts⟩ hM ⟨z_cb C0 hw hdD, hts _ hin, hts _ hsel⟩ ⟨z_blind, z_rc C0 hC ho1.1 I.2.2.1, (z_pre C0 (as := zr k i :: as) I.2.2.1 I.2.2.2.1).2⟩ rfl (by rw [z_len]; simpa using hl1) I.2.2.2.2.1 ?_ (lv_room (by rw [z_wd_cs]; exact hwd)) hd ⟨C0.2.2.2.2.2.2.2.2.1.2.2.1, C0.2.2.2.2.2.2.2.2.1.2.2.2⟩) I.2.2.2.1 (fun _ _ h => h) (fun _ h => h) (fun v M' t H1 locs1 ht hvm hw2 hB hz hk hS1 => ?_)
  · show z_cs X st = _
    rw [hl2]
    show (z_co X.2.2.1 (zr k i) :: z_cs X as).reverse ++ z_cs X r = _
    rw [List.reverse_cons, List.append_assoc]
    rfl
  · exact hs _ _ _ hw2 p e s m args below meth c Rm cells slots Q C0 H1 locs1 la ⟨I.1, ⟨trivial, ho2⟩, by rw [← ht]; exact hB, hS1, I.2.2.2.2⟩
theorem s_vv (hC : z_Cl k ci nf q'.1.cls T) (hw : z_cw q q' idx n) (hin : Cond.instanceMethod q'.1 ∈ z_U) (hsel : Cond.selects q'.1.cls q'.1 q'.1 ∈ z_U) (hrt : q'.2.2.2 = none) (hd : decode q.2.1 pc = .ok (.invokevirtual idx, 3)) : z_Sd X D q pc (pc + 3) (x_vv q' n k) := by
  intro ks kj R ls st M h hs hj p e s m args below meth c Rm cells slots Q C0 H locs la I
  obtain ⟨i, as, r, hp, hwd, d, hdD, hcon⟩ := z_vgo (push := fun _ r => r) h
  obtain ⟨ho1, ho2⟩ := z_oks_pop hp I.2.1 trivial
  obtain ⟨hl1, hl2⟩ := z_cs_pop (X := X) hp
  have hM := hcon ho1
  rw [z_Qn hrt] at hM
  have hts := C0.2.2.2.2.1
  refine va_callv (va_runV (As := z_cs X as) (rest := z_cs X r) (C := q'.1.cls) ⟨C0.1, C0.2.1, C0.2.2.1, C0.2.2.2.1, hts⟩ hM ⟨z_cb C0 hw hdD, hts _ hin, hts _ hsel⟩ ⟨z_blind, z_rc C0 hC ho1.1 I.2.2.1, (z_pre C0 (as := zr k i :: as) I.2.2.1 I.2.2.2.1).2⟩ rfl (by rw [z_len]; simpa using hl1) I.2.2.2.2.1 ?_ (lv_room (by rw [z_wd_cs]; exact hwd)) hd ⟨C0.2.2.2.2.2.2.2.2.1.2.2.1, C0.2.2.2.2.2.2.2.2.1.2.2.2⟩) I.2.2.2.1 (fun _ _ h => h) (fun _ h => h) (fun M' t H1 locs1 ht hvm hw2 hB hz hk hS1 => ?_)
  · show z_cs X st = _
    rw [hl2]
    show (z_co X.2.2.1 (zr k i) :: z_cs X as).reverse ++ z_cs X r = _
    rw [List.reverse_cons, List.append_assoc]
    rfl
  · exact hs _ _ _ hw2 p e s m args below meth c Rm cells slots Q C0 H1 locs1 la ⟨I.1, ho2, by rw [← ht]; exact hB, hS1, I.2.2.2.2⟩
theorem s_viN (hC : z_Cl k ci nf q'.1.cls T) (hw : z_cwN q q' idx n host) (hin : Cond.instanceMethod q'.1 ∈ z_U) (hsel : Cond.selects q'.1.cls q'.1 q'.1 ∈ z_U) (hrt : q'.2.2.2 = some ty) (hd : decode q.2.1 pc = .ok (.invokevirtual idx, 3)) : z_Sd X D q pc (pc + 3) (x_vi q' n k) := by
  intro ks kj R ls st M h hs hj p e s m args below meth c Rm cells slots Q C0 H locs la I
  obtain ⟨i, as, r, hp, hwd, d, hdD, hcon⟩ := z_vgo (push := fun v r => zi v :: r) h
  obtain ⟨ho1, ho2⟩ := z_oks_pop hp I.2.1 trivial
  obtain ⟨hl1, hl2⟩ := z_cs_pop (X := X) hp
  have hM := hcon ho1
  rw [z_Qs hrt] at hM
  have hts := C0.2.2.2.2.1
  refine va_calli (va_runVN (As := z_cs X as) (rest := z_cs X r) (C := q'.1.cls) ⟨C0.1, C0.2.1, C0.2.2.1, C0.2.2.2.1, hts⟩ hM ⟨z_cbN C0 hw hdD, hts _ hin, hts _ hsel⟩ ⟨z_blind, z_rc C0 hC ho1.1 I.2.2.1, (z_pre C0 (as := zr k i :: as) I.2.2.1 I.2.2.2.1).2⟩ rfl (by rw [z_len]; simpa using hl1) I.2.2.2.2.1 ?_ (lv_room (by rw [z_wd_cs]; exact hwd)) hd ⟨C0.2.2.2.2.2.2.2.2.1.2.2.1, C0.2.2.2.2.2.2.2.2.1.2.2.2⟩) I.2.2.2.1 (fun _ _ h => h) (fun _ h => h) (fun v M' t H1 locs1 ht hvm hw2 hB hz hk hS1 => ?_)
  · show z_cs X st = _
    rw [hl2]
    show (z_co X.2.2.1 (zr k i) :: z_cs X as).reverse ++ z_cs X r = _
    rw [List.reverse_cons, List.append_assoc]
    rfl
  · exact hs _ _ _ hw2 p e s m args below meth c Rm cells slots Q C0 H1 locs1 la ⟨I.1, ⟨trivial, ho2⟩, by rw [← ht]; exact hB, hS1, I.2.2.2.2⟩
theorem s_si (hw : z_cw q q' idx n) (hst : Cond.static q'.1 ∈ z_U) (hrt : q'.2.2.2 = some ty) (hd : decode q.2.1 pc = .ok (.invokestatic idx, 3)) : z_Sd X D q pc (pc + 3) (x_si q' n) := by
  intro ks kj R ls st M h hs hj p e s m args below meth c Rm cells slots Q C0 H locs la I
  obtain ⟨as, r, hp, hwd, d, hdD, hcon⟩ := z_sgo (push := fun v r => zi v :: r) h
  obtain ⟨ho1, ho2⟩ := z_oks_pop hp I.2.1 trivial
  obtain ⟨hl1, hl2⟩ := z_cs_pop (X := X) hp
  have hM := hcon ho1
  rw [z_Qs hrt] at hM
  have hts := C0.2.2.2.2.1
  exact va_calli (va_runS (As := z_cs X as) (rest := z_cs X r) ⟨C0.1, C0.2.1, C0.2.2.1, C0.2.2.2.1, hts⟩ hM ⟨z_cb C0 hw hdD, hts _ hst⟩ (z_pre C0 (as := as) I.2.2.1 I.2.2.2.1) rfl (by rw [z_len]; exact hl1) I.2.2.2.2.1 hl2 (lv_room (by rw [z_wd_cs]; exact hwd)) hd ⟨C0.2.2.2.2.2.2.2.2.1.2.2.1, C0.2.2.2.2.2.2.2.2.1.2.2.2⟩) I.2.2.2.1 (fun _ _ h => h) (fun _ h => h) (fun v M' t H1 locs1 ht hvm hw2 hB hz hk hS1 => hs _ _ _ hw2 p e s m args below meth c Rm cells slots Q C0 H1 locs1 la ⟨I.1, ⟨trivial, ho2⟩, by rw [← ht]; exact hB, hS1, I.2.2.2.2⟩)
theorem s_sv (hw : z_cw q q' idx n) (hst : Cond.static q'.1 ∈ z_U) (hrt : q'.2.2.2 = none) (hd : decode q.2.1 pc = .ok (.invokestatic idx, 3)) : z_Sd X D q pc (pc + 3) (x_sv q' n) := by
  intro ks kj R ls st M h hs hj p e s m args below meth c Rm cells slots Q C0 H locs la I
  obtain ⟨as, r, hp, hwd, d, hdD, hcon⟩ := z_sgo (push := fun _ r => r) h
  obtain ⟨ho1, ho2⟩ := z_oks_pop hp I.2.1 trivial
  obtain ⟨hl1, hl2⟩ := z_cs_pop (X := X) hp
  have hM := hcon ho1
  rw [z_Qn hrt] at hM
  have hts := C0.2.2.2.2.1
  exact va_callv (va_runS (As := z_cs X as) (rest := z_cs X r) ⟨C0.1, C0.2.1, C0.2.2.1, C0.2.2.2.1, hts⟩ hM ⟨z_cb C0 hw hdD, hts _ hst⟩ (z_pre C0 (as := as) I.2.2.1 I.2.2.2.1) rfl (by rw [z_len]; exact hl1) I.2.2.2.2.1 hl2 (lv_room (by rw [z_wd_cs]; exact hwd)) hd ⟨C0.2.2.2.2.2.2.2.2.1.2.2.1, C0.2.2.2.2.2.2.2.2.1.2.2.2⟩) I.2.2.2.1 (fun _ _ h => h) (fun _ h => h) (fun M' t H1 locs1 ht hvm hw2 hB hz hk hS1 => hs _ _ _ hw2 p e s m args below meth c Rm cells slots Q C0 H1 locs1 la ⟨I.1, ho2, by rw [← ht]; exact hB, hS1, I.2.2.2.2⟩)
theorem s_siN (hw : z_cwN q q' idx n host) (hst : Cond.static q'.1 ∈ z_U) (hrt : q'.2.2.2 = some ty) (hd : decode q.2.1 pc = .ok (.invokestatic idx, 3)) : z_Sd X D q pc (pc + 3) (x_si q' n) := by
  intro ks kj R ls st M h hs hj p e s m args below meth c Rm cells slots Q C0 H locs la I
  obtain ⟨as, r, hp, hwd, d, hdD, hcon⟩ := z_sgo (push := fun v r => zi v :: r) h
  obtain ⟨ho1, ho2⟩ := z_oks_pop hp I.2.1 trivial
  obtain ⟨hl1, hl2⟩ := z_cs_pop (X := X) hp
  have hM := hcon ho1
  rw [z_Qs hrt] at hM
  have hts := C0.2.2.2.2.1
  exact va_calli (va_runSN (As := z_cs X as) (rest := z_cs X r) ⟨C0.1, C0.2.1, C0.2.2.1, C0.2.2.2.1, hts⟩ hM ⟨z_cbN C0 hw hdD, hts _ hst, trivial⟩ (z_pre C0 (as := as) I.2.2.1 I.2.2.2.1) rfl (by rw [z_len]; exact hl1) I.2.2.2.2.1 hl2 (lv_room (by rw [z_wd_cs]; exact hwd)) hd ⟨C0.2.2.2.2.2.2.2.2.1.2.2.1, C0.2.2.2.2.2.2.2.2.1.2.2.2⟩) I.2.2.2.1 (fun _ _ h => h) (fun _ h => h) (fun v M' t H1 locs1 ht hvm hw2 hB hz hk hS1 => hs _ _ _ hw2 p e s m args below meth c Rm cells slots Q C0 H1 locs1 la ⟨I.1, ⟨trivial, ho2⟩, by rw [← ht]; exact hB, hS1, I.2.2.2.2⟩)
end ZC
end
section
/-! ===== Math, System.arraycopy, switches, tables ===== -/
def x_min : z_X := fun ks _ _ _ ls st M => match st with
  | .inl y :: .inl x :: r => bif Nat.ble (z_wd r) 8 then ks ls (zi (if y < x then y else x) :: r) M else False
  | _ => False
def x_max : z_X := fun ks _ _ _ ls st M => match st with
  | .inl y :: .inl x :: r => bif Nat.ble (z_wd r) 8 then ks ls (zi (if x < y then y else x) :: r) M else False
  | _ => False
def x_abs : z_X := fun ks _ _ _ ls st M => match st with
  | .inl x :: r => bif Nat.ble (z_wd r) 8 then ks ls (zi (if 0 ≤ x then x else 0 - x) :: r) M else False
  | _ => False
def z_mw (q : z_MI) (idx : Nat) (y : MethodName) (b : ByteArray) (n : Nat) : Prop := Cond.methodLink q.1.cls idx y ∈ z_U ∧ Cond.static y ∈ z_U ∧ Cond.initialized "java/lang/Math" ∈ z_U ∧ Cond.code y b n (some .int) ∈ z_U
theorem s_min {X : z_Cx} {D : Nat} {q : z_MI} {pc idx : Nat} (hw : z_mw q idx Lib.Math.min.name Lib.Math.min.code 2) (hd : decode q.2.1 pc = .ok (.invokestatic idx, 3)) : z_Sd X D q pc (pc + 3) x_min := by
  intro ks kj R ls st M h hs hj p e s m args below meth c Rm cells slots Q C0 H locs la I
  rcases st with _ | ⟨y | y | y, _ | ⟨x | x | x, r⟩⟩ <;> first | exact False.elim h | skip
  unfold x_min at h
  simp only at h
  cases hb : Nat.ble (z_wd r) 8 with
  | false => rw [hb] at h; exact False.elim h
  | true =>
    rw [hb] at h
    have hwd := Nat.le_of_ble_eq_true hb
    have hts := C0.2.2.2.2.1
    obtain ⟨r1, r2, r3, r4⟩ := C0.2.2.2.2.2.2.2.2.1
    exact va_mmin C0.1 C0.2.1 (by rw [C0.2.2.1]; exact I.2.2.2.2.1.symm) C0.2.2.2.1 (hts _ hw.1) (hts _ hw.2.1) (hts _ hw.2.2.1) (hts _ hw.2.2.2) (by omega) (by rw [show (List.map (fun v => v.category) (List.map (z_co X.2.2.1) r)).sum = z_wd r from z_wd_cs (X := X) r]; omega) r3 r4 hd (hs _ _ _ h p e s m args below meth c Rm cells slots Q C0 H locs la ⟨I.1, ⟨trivial, I.2.1.2.2⟩, I.2.2⟩)
theorem s_max {X : z_Cx} {D : Nat} {q : z_MI} {pc idx : Nat} (hw : z_mw q idx Lib.Math.max.name Lib.Math.max.code 2) (hd : decode q.2.1 pc = .ok (.invokestatic idx, 3)) : z_Sd X D q pc (pc + 3) x_max := by
  intro ks kj R ls st M h hs hj p e s m args below meth c Rm cells slots Q C0 H locs la I
  rcases st with _ | ⟨y | y | y, _ | ⟨x | x | x, r⟩⟩ <;> first | exact False.elim h | skip
  unfold x_max at h
  simp only at h
  cases hb : Nat.ble (z_wd r) 8 with
  | false => rw [hb] at h; exact False.elim h
  | true =>
    rw [hb] at h
    have hwd := Nat.le_of_ble_eq_true hb
    have hts := C0.2.2.2.2.1
    obtain ⟨r1, r2, r3, r4⟩ := C0.2.2.2.2.2.2.2.2.1
    exact va_mmax C0.1 C0.2.1 (by rw [C0.2.2.1]; exact I.2.2.2.2.1.symm) C0.2.2.2.1 (hts _ hw.1) (hts _ hw.2.1) (hts _ hw.2.2.1) (hts _ hw.2.2.2) (by omega) (by rw [show (List.map (fun v => v.category) (List.map (z_co X.2.2.1) r)).sum = z_wd r from z_wd_cs (X := X) r]; omega) r3 r4 hd (hs _ _ _ h p e s m args below meth c Rm cells slots Q C0 H locs la ⟨I.1, ⟨trivial, I.2.1.2.2⟩, I.2.2⟩)
theorem s_abs {X : z_Cx} {D : Nat} {q : z_MI} {pc idx : Nat} (hw : z_mw q idx Lib.Math.abs.name Lib.Math.abs.code 1) (hd : decode q.2.1 pc = .ok (.invokestatic idx, 3)) : z_Sd X D q pc (pc + 3) x_abs := by
  intro ks kj R ls st M h hs hj p e s m args below meth c Rm cells slots Q C0 H locs la I
  rcases st with _ | ⟨x | x | x, r⟩ <;> first | exact False.elim h | skip
  unfold x_abs at h
  simp only at h
  cases hb : Nat.ble (z_wd r) 8 with
  | false => rw [hb] at h; exact False.elim h
  | true =>
    rw [hb] at h
    have hwd := Nat.le_of_ble_eq_true hb
    have hts := C0.2.2.2.2.1
    obtain ⟨r1, r2, r3, r4⟩ := C0.2.2.2.2.2.2.2.2.1
    exact va_mabs C0.1 C0.2.1 (by rw [C0.2.2.1]; exact I.2.2.2.2.1.symm) C0.2.2.2.1 (hts _ hw.1) (hts _ hw.2.1) (hts _ hw.2.2.1) (hts _ hw.2.2.2) (by omega) (by rw [show (List.map (fun v => v.category) (List.map (z_co X.2.2.1) r)).sum = z_wd r from z_wd_cs (X := X) r]; omega) r3 r4 hd (hs _ _ _ h p e s m args below meth c Rm cells slots Q C0 H locs la ⟨I.1, ⟨trivial, I.2.1.2⟩, I.2.2⟩)
/-- a row of memory in place of another -/
def z_sr (M : z_M) (k i : Nat) (f : Nat → Int32) : z_M := (fun k' i' j' => if k' = k ∧ i' = i then f j' else M.1 k' i' j', M.2)
theorem z_sr_ne {M : z_M} {k i : Nat} {f : Nat → Int32} {q : Nat × Nat} (h : q ≠ (k, i)) : (z_sr M k i f).1 q.1 q.2 = M.1 q.1 q.2 := by
  funext x
  show (if q.1 = k ∧ q.2 = i then f x else M.1 q.1 q.2 x) = _
  rw [if_neg]
  rintro ⟨h1, h2⟩
  exact h (Prod.ext h1 h2)
theorem z_sr_at {M : z_M} {k i : Nat} {f : Nat → Int32} : (z_sr M k i f).1 k i = f := by
  funext x
  exact if_pos ⟨rfl, rfl⟩
theorem z_psetr {X : z_Cx} {M : z_M} {k i t0 n a b c q0 : Nat} {f : Nat → Int32} (hkd : z_kd k = (1, t0, n, a, b, c)) (hq : z_pl[q0]? = some (k, i)) : (z_w X M).set q0 (X.2.2.1 k i, .inl (X.2.2.2.1 t0, n, .inl f)) = z_w X (z_sr M k i f) := by
  have h := z_w_set (X := X) (M := M) (M' := z_sr M k i f) hq (fun r hr hne => z_en_congr (z_sr_ne hne) rfl rfl)
  rw [z_en_p hkd, z_sr_at] at h
  exact h
def x_cpy : z_X := fun ks _ _ _ ls st M => match st with
  | .inl n :: .inl dp :: .inr (.inr (k1, i1)) :: .inl sp :: .inr (.inr (k0, i0)) :: r => match z_kd k0 with
    | (tg0, t0, n0, _, _, _) => match z_kd k1 with
      | (tg1, t1, n1, _, _, _) => bif (Nat.beq tg0 1 && Nat.beq t0 0 && Nat.beq tg1 1 && Nat.beq t1 0 && Nat.ble (z_wd r) 8) then (¬ sp < 0 ∧ ¬ dp < 0 ∧ ¬ n < 0 ∧ sp.toNatClampNeg + n.toNatClampNeg ≤ n0 ∧ dp.toNatClampNeg + n.toNatClampNeg ≤ n1) ∧ ks ls r (z_sr M k1 i1 (va_cpy (M.1 k0 i0) (M.1 k1 i1) sp.toNatClampNeg dp.toNatClampNeg n.toNatClampNeg)) else False
  | _ => False
theorem s_cpy {X : z_Cx} {D : Nat} {q : z_MI} {pc idx : Nat} (hw : Cond.methodLink q.1.cls idx arraycopyName ∈ z_U ∧ Cond.native arraycopyName ∈ z_U ∧ Cond.static arraycopyName ∈ z_U ∧ Cond.initialized "java/lang/System" ∈ z_U) (hd : decode q.2.1 pc = .ok (.invokestatic idx, 3)) : z_Sd X D q pc (pc + 3) x_cpy := by
  intro ks kj R ls st M h hs hj p e s m args below meth c Rm cells slots Q C0 H locs la I
  rcases st with _ | ⟨n | n | n, _ | ⟨dp | dp | dp, _ | ⟨y | y | ⟨k1, i1⟩, _ | ⟨sp | sp | sp, _ | ⟨z | z | ⟨k0, i0⟩, r⟩⟩⟩⟩⟩ <;> first | exact False.elim h | skip
  unfold x_cpy at h
  simp only at h
  cases hkd0 : z_kd k0 with
  | mk tg0 t0 =>
    obtain ⟨t0, n0, a0, b0, c0⟩ := t0
    cases hkd1 : z_kd k1 with
    | mk tg1 t1 =>
      obtain ⟨t1, n1, a1, b1, c1⟩ := t1
      rw [hkd0, hkd1] at h
      simp only at h
      cases hb : (Nat.beq tg0 1 && Nat.beq t0 0 && Nat.beq tg1 1 && Nat.beq t1 0 && Nat.ble (z_wd r) 8) with
      | false => rw [hb] at h; exact False.elim h
      | true =>
        rw [hb] at h
        simp only [Bool.and_eq_true] at hb
        obtain ⟨⟨⟨⟨g1, g2⟩, g3⟩, g4⟩, g5⟩ := hb
        have e1 := Nat.eq_of_beq_eq_true g1
        have e2 := Nat.eq_of_beq_eq_true g2
        have e3 := Nat.eq_of_beq_eq_true g3
        have e4 := Nat.eq_of_beq_eq_true g4
        have hwd := Nat.le_of_ble_eq_true g5
        subst e1 e2 e3 e4
        have hts := C0.2.2.2.2.1
        obtain ⟨r1, r2, r3, r4⟩ := C0.2.2.2.2.2.2.2.2.1
        obtain ⟨⟨v1, v2, v3, v4, v5⟩, h⟩ := h
        obtain ⟨q0, hq0, he0⟩ := z_pa (X := X) (M := M) hkd0 I.2.1.2.2.2.2.1
        obtain ⟨q1, hq1, he1⟩ := z_pa (X := X) (M := M) hkd1 I.2.1.2.2.1
        exact va_copyi C0.1 C0.2.1 (by rw [C0.2.2.1]; exact I.2.2.2.2.1.symm) C0.2.2.2.1 (hts _ hw.1) (hts _ hw.2.1) (hts _ hw.2.2.1) (hts _ hw.2.2.2) C0.2.2.2.2.2.1 I.2.2.1 (z_w_D C0.2.2.2.2.2.2.2.1) I.2.2.2.1 q0 q1 0 0 he0 he1 (ty := .int) rfl rfl rfl v1 v2 v3 v4 v5 (fun _ _ => rfl) (by omega) (by rw [show (List.map (fun v => v.category) (List.map (z_co X.2.2.1) r)).sum = z_wd r from z_wd_cs (X := X) r]; show z_wd r + (7 + 11) ≤ _; omega) hd (fun H1 locs1 hP1 _ hS1 => hs _ _ _ h p e s m args below meth c Rm cells slots Q C0 H1 locs1 la ⟨I.1, I.2.1.2.2.2.2.2, by rw [z_psetr hkd1 hq1] at hP1; exact hP1, hS1, I.2.2.2.2⟩)
/-- a switch over a table -/
def z_sw (kj : Nat → Prop) (x : Int32) (dflt : Nat) : List (Int32 × Nat) → Prop
  | [] => kj dflt
  | (v, t) :: r => (x = v → kj t) ∧ (¬ x = v → z_sw kj x dflt r)
def x_tsw (cs : List (Int32 × Nat)) (dflt : Nat) : z_X := fun _ kj _ _ ls st M => match st with
  | .inl x :: r => z_sw (fun t => kj t ls r M) x dflt cs
  | _ => False
theorem z_sw_in {kj : Nat → Prop} {x : Int32} {dflt : Nat} : ∀ {cs : List (Int32 × Nat)}, z_sw kj x dflt cs → (∃ t, (x, t) ∈ cs ∧ kj t) ∨ ((∀ q ∈ cs, ¬ x = q.1) ∧ kj dflt) := by
  intro cs
  induction cs with
  | nil => exact fun h => Or.inr ⟨fun q hq => (by cases hq), h⟩
  | cons q r ih =>
    obtain ⟨v, t⟩ := q
    intro h
    by_cases e : x = v
    · exact Or.inl ⟨t, by rw [e]; exact List.mem_cons_self, h.1 e⟩
    · rcases ih (h.2 e) with ⟨t, h1, h2⟩ | ⟨h1, h2⟩
      · exact Or.inl ⟨t, List.mem_cons_of_mem _ h1, h2⟩
      · exact Or.inr ⟨fun a ha => (List.mem_cons.mp ha).elim (fun w => w ▸ e) (h1 a), h2⟩
theorem s_tsw {X : z_Cx} {D : Nat} {q : z_MI} {pc len : Nat} {d lo hi : Int} {offs : Array Int} {cs : List (Int32 × Nat)} {dflt : Nat} (hd : decode q.2.1 pc = .ok (.tableswitch d lo hi offs, len)) (hdf : (pc : Int) + d = (dflt : Int))
    (hcs : ∀ a ∈ cs, lo ≤ a.1.toInt ∧ a.1.toInt ≤ hi ∧ (offs[(a.1.toInt - lo).toNat]?).map (fun o => (pc : Int) + o) = some (a.2 : Int)) (hall : (List.range (hi - lo + 1).toNat).all (fun (j : Nat) => cs.any (fun a => decide (a.1.toInt = lo + (j : Int)))) = true) : z_Sd X D q pc (pc + len) (x_tsw cs dflt) := by
  intro ks kj R ls st M h hs hj p e s m args below meth c Rm cells slots Q C0 H locs la I
  rcases st with _ | ⟨x | x | x, r⟩ <;> first | exact False.elim h | skip
  rcases z_sw_in h with ⟨t, h1, h2⟩ | ⟨h1, h2⟩
  · obtain ⟨g1, g2, g3⟩ := hcs _ h1
    obtain ⟨o, ho, ho2⟩ := Option.map_eq_some_iff.mp g3
    exact lv_tableIn C0.1 C0.2.1 hd (Int.not_lt.mpr g1) (Int.not_lt.mpr g2) ho ho2 (hj _ _ _ _ h2 p e s m args below meth c Rm cells slots Q C0 H locs la ⟨I.1, I.2.1.2, I.2.2⟩)
  · refine lv_tableOut C0.1 C0.2.1 hd ?_ hdf (hj _ _ _ _ h2 p e s m args below meth c Rm cells slots Q C0 H locs la ⟨I.1, I.2.1.2, I.2.2⟩)
    by_cases hx : x.toInt < lo ∨ hi < x.toInt
    · exact hx
    · exfalso
      have h3 := List.all_eq_true.mp hall (x.toInt - lo).toNat (List.mem_range.mpr (by omega))
      obtain ⟨a, ha, hb⟩ := List.any_eq_true.mp h3
      have h4 := of_decide_eq_true hb
      exact h1 a ha (Int32.toInt_inj.mp (by omega))
/-! tables: chunks of rows -/
abbrev z_R : Type := Nat × Nat × z_X
def z_t1 (pc : Nat) : List z_R → Nat × z_X
  | [] => (0, z_no)
  | r :: t => bif Nat.beq r.1 pc then r.2 else z_t1 pc t
def z_t2 (pc : Nat) : List (Nat × List z_R) → Nat × z_X
  | [] => (0, z_no)
  | c :: t => bif Nat.ble pc c.1 then z_t1 pc c.2 else z_t2 pc t
def z_Ro (X : z_Cx) (D : Nat) (q : z_MI) (l : List z_R) : Prop := ∀ r ∈ l, z_Sd X D q r.1 r.2.1 r.2.2
theorem z_rn {X : z_Cx} {D : Nat} {q : z_MI} : z_Ro X D q [] := fun r h => by cases h
theorem z_rc1 {X : z_Cx} {D : Nat} {q : z_MI} {pc npc : Nat} {f : z_X} {l : List z_R} (h : z_Sd X D q pc npc f) (hl : z_Ro X D q l) : z_Ro X D q ((pc, npc, f) :: l) := fun r hr => (List.mem_cons.mp hr).elim (fun e => e ▸ h) (hl r)
theorem z_no_ok {X : z_Cx} {D : Nat} {q : z_MI} {pc npc : Nat} : z_Sd X D q pc npc z_no := fun _ _ _ _ _ _ h => False.elim h
theorem z_t1_ok {X : z_Cx} {D : Nat} {q : z_MI} {pc : Nat} : ∀ {l : List z_R}, z_Ro X D q l → z_Sd X D q pc (z_t1 pc l).1 (z_t1 pc l).2 := by
  intro l
  induction l with
  | nil => exact fun _ => z_no_ok
  | cons r t ih =>
    intro h
    unfold z_t1
    cases hb : Nat.beq r.1 pc with
    | true =>
      have e := Nat.eq_of_beq_eq_true hb
      rw [← e]
      exact h r List.mem_cons_self
    | false => exact ih (fun a ha => h a (List.mem_cons_of_mem _ ha))
theorem z_t2_ok {X : z_Cx} {D : Nat} {q : z_MI} {pc : Nat} : ∀ {l : List (Nat × List z_R)}, (∀ c ∈ l, z_Ro X D q c.2) → z_Sd X D q pc (z_t2 pc l).1 (z_t2 pc l).2 := by
  intro l
  induction l with
  | nil => exact fun _ => z_no_ok
  | cons r t ih =>
    intro h
    unfold z_t2
    cases hb : Nat.ble pc r.1 with
    | true => exact z_t1_ok (h r List.mem_cons_self)
    | false => exact ih (fun a ha => h a (List.mem_cons_of_mem _ ha))
theorem z_cn {X : z_Cx} {D : Nat} {q : z_MI} : ∀ c ∈ ([] : List (Nat × List z_R)), z_Ro X D q c.2 := fun r h => by cases h
theorem z_cc {X : z_Cx} {D : Nat} {q : z_MI} {n : Nat} {a : List z_R} {l : List (Nat × List z_R)} (h : z_Ro X D q a) (hl : ∀ c ∈ l, z_Ro X D q c.2) : ∀ c ∈ (n, a) :: l, z_Ro X D q c.2 := fun r hr => (List.mem_cons.mp hr).elim (fun e => e ▸ h) (hl r)
end
section
def mX0_init : z_MI := (yX0_init, cX0_init, 2, none)
def mX0_face : z_MI := (yX0_face, cX0_face, 4, none)
def mX0_faceHour : z_MI := (yX0_faceHour, cX0_faceHour, 6, none)
def mX0_faceHeats : z_MI := (yX0_faceHeats, cX0_faceHeats, 8, none)
def mX0_takeLine : z_MI := (yX0_takeLine, cX0_takeLine, 4, none)
def mX0_leftBehind : z_MI := (yX0_leftBehind, cX0_leftBehind, 5, some .int)
def mX0_leftAfterEven : z_MI := (yX0_leftAfterEven, cX0_leftAfterEven, 5, some .int)
def mX0_leftAfterSplits : z_MI := (yX0_leftAfterSplits, cX0_leftAfterSplits, 6, some .int)
def mX0_paceThatTakes : z_MI := (yX0_paceThatTakes, cX0_paceThatTakes, 2, some .int)
def mX0_evenPace : z_MI := (yX0_evenPace, cX0_evenPace, 2, some .int)
def mX0_leastTime : z_MI := (yX0_leastTime, cX0_leastTime, 1, some .int)
def mX0_solve : z_MI := (yX0_solve, cX0_solve, 3, none)
def mX0_chooseTries : z_MI := (yX0_chooseTries, cX0_chooseTries, 5, none)
def mX0_leastAt : z_MI := (yX0_leastAt, cX0_leastAt, 10, some .int)
def mX0_leastFrom : z_MI := (yX0_leastFrom, cX0_leastFrom, 3, some .int)
def mX0_paceOfBest : z_MI := (yX0_paceOfBest, cX0_paceOfBest, 5, some .int)
def mX0_firstPace : z_MI := (yX0_firstPace, cX0_firstPace, 5, some .int)
def mX1_init : z_MI := (yX1_init, cX1_init, 1, none)
def mX1_start : z_MI := (yX1_start, cX1_start, 4, none)
def mX1_changePace : z_MI := (yX1_changePace, cX1_changePace, 2, none)
def mX1_isShelteredBy : z_MI := (yX1_isShelteredBy, cX1_isShelteredBy, 3, some .boolean)
def mX1_run : z_MI := (yX1_run, cX1_run, 5, none)
def mX2_init : z_MI := (yX2_init, cX2_init, 1, none)
def mX2_clear : z_MI := (yX2_clear, cX2_clear, 1, none)
def mX2_become : z_MI := (yX2_become, cX2_become, 2, none)
def mX2_hasMile : z_MI := (yX2_hasMile, cX2_hasMile, 2, some .boolean)
def mX2_hasRunner : z_MI := (yX2_hasRunner, cX2_hasRunner, 2, some .boolean)
def mX2_hasRabbits : z_MI := (yX2_hasRabbits, cX2_hasRabbits, 2, some .boolean)
def mX2_rulesOfAll : z_MI := (yX2_rulesOfAll, cX2_rulesOfAll, 3, some .int)
def mX2_costOf : z_MI := (yX2_costOf, cX2_costOf, 4, some .int)
def mX2_needOf : z_MI := (yX2_needOf, cX2_needOf, 6, some .int)
def mX2_easyPace : z_MI := (yX2_easyPace, cX2_easyPace, 4, some .int)
def mX2_isShelteredBy : z_MI := (yX2_isShelteredBy, cX2_isShelteredBy, 5, some .boolean)
def mX3_init : z_MI := (yX3_init, cX3_init, 2, none)
def mX3_runAll : z_MI := (yX3_runAll, cX3_runAll, 8, none)
def mX3_feel : z_MI := (yX3_feel, cX3_feel, 5, none)
def mX3_leastTime : z_MI := (yX3_leastTime, cX3_leastTime, 3, some .int)
def mX3_stepByRules : z_MI := (yX3_stepByRules, cX3_stepByRules, 10, some .int)
def mX3_stepBySlip : z_MI := (yX3_stepBySlip, cX3_stepBySlip, 3, some .int)
def mX3_runMile : z_MI := (yX3_runMile, cX3_runMile, 4, none)
def mX3_isBehindSomeone : z_MI := (yX3_isBehindSomeone, cX3_isBehindSomeone, 3, some .boolean)
def mX3_rank : z_MI := (yX3_rank, cX3_rank, 6, none)
def mX3_timeByFeeling : z_MI := (yX3_timeByFeeling, cX3_timeByFeeling, 8, some .int)
def mX4_init : z_MI := (yX4_init, cX4_init, 1, none)
def mX4_play : z_MI := (yX4_play, cX4_play, 12, some .int)
def mX4_stepByPlan : z_MI := (yX4_stepByPlan, cX4_stepByPlan, 2, some .int)
def mX4_playAll : z_MI := (yX4_playAll, cX4_playAll, 5, none)
def mX4_restsAt : z_MI := (yX4_restsAt, cX4_restsAt, 6, some .boolean)
def mX5_init : z_MI := (yX5_init, cX5_init, 1, none)
def mX5_takes : z_MI := (yX5_takes, cX5_takes, 5, some .boolean)
def mX5_readsAll : z_MI := (yX5_readsAll, cX5_readsAll, 3, some .boolean)
def mX5_readsMile : z_MI := (yX5_readsMile, cX5_readsMile, 2, some .boolean)
def mX5_readsRunner : z_MI := (yX5_readsRunner, cX5_readsRunner, 2, some .boolean)
def mX5_readsRule : z_MI := (yX5_readsRule, cX5_readsRule, 5, some .boolean)
def mX5_readsRabbit : z_MI := (yX5_readsRabbit, cX5_readsRabbit, 2, some .boolean)
def mX5_readsNumber : z_MI := (yX5_readsNumber, cX5_readsNumber, 3, some .boolean)
def mX5_readsSemicolon : z_MI := (yX5_readsSemicolon, cX5_readsSemicolon, 1, some .boolean)
def mX5_fails : z_MI := (yX5_fails, cX5_fails, 2, some .boolean)
def mX5_isWord : z_MI := (yX5_isWord, cX5_isWord, 3, some .boolean)
def mX5_next : z_MI := (yX5_next, cX5_next, 2, none)
def mX5_takeName : z_MI := (yX5_takeName, cX5_takeName, 1, none)
def mX5_takeNumber : z_MI := (yX5_takeNumber, cX5_takeNumber, 4, none)
def mX5_byteAt : z_MI := (yX5_byteAt, cX5_byteAt, 2, some .int)
def mX5_isBlank : z_MI := (yX5_isBlank, cX5_isBlank, 1, some .boolean)
def mX5_isLetter : z_MI := (yX5_isLetter, cX5_isLetter, 1, some .boolean)
def mX5_isFigure : z_MI := (yX5_isFigure, cX5_isFigure, 1, some .boolean)
def mX6_init : z_MI := (yX6_init, cX6_init, 1, none)
def mX6_become : z_MI := (yX6_become, cX6_become, 3, none)
def mX6_record : z_MI := (yX6_record, cX6_record, 5, none)
def mX6_told : z_MI := (yX6_told, cX6_told, 4, some .int)
def mX6_runnerAt : z_MI := (yX6_runnerAt, cX6_runnerAt, 3, some .int)
def mX6_kindOf : z_MI := (yX6_kindOf, cX6_kindOf, 4, some .int)
def mX7_init : z_MI := (yX7_init, cX7_init, 1, none)
def mX7_isMissing : z_MI := (yX7_isMissing, cX7_isMissing, 1, some .boolean)
def mX7_begin : z_MI := (yX7_begin, cX7_begin, 3, none)
def mX7_end : z_MI := (yX7_end, cX7_end, 1, none)
def mX7_reaches : z_MI := (yX7_reaches, cX7_reaches, 3, some .boolean)
def mX7_at : z_MI := (yX7_at, cX7_at, 2, some .int)
def mX7_put : z_MI := (yX7_put, cX7_put, 4, some .int)
def mX8_init : z_MI := (yX8_init, cX8_init, 1, none)
def mX8_isOne : z_MI := (yX8_isOne, cX8_isOne, 4, some .boolean)
def mX8_take : z_MI := (yX8_take, cX8_take, 4, none)
def mX8_size : z_MI := (yX8_size, cX8_size, 1, some .int)
def mX8_mark : z_MI := (yX8_mark, cX8_mark, 1, some .int)
def mX8_answer : z_MI := (yX8_answer, cX8_answer, 3, some .int)
def mX8_leaveNumber : z_MI := (yX8_leaveNumber, cX8_leaveNumber, 2, none)
def mX9_init : z_MI := (yX9_init, cX9_init, 2, none)
def mX9_sheet : z_MI := (yX9_sheet, cX9_sheet, 4, some .int)
def mX9_set : z_MI := (yX9_set, cX9_set, 5, some .int)
def mX9_copy : z_MI := (yX9_copy, cX9_copy, 8, some .int)
def mX9_drop : z_MI := (yX9_drop, cX9_drop, 3, some .int)
def mX9_feed : z_MI := (yX9_feed, cX9_feed, 4, some .int)
def mX9_course : z_MI := (yX9_course, cX9_course, 2, some .int)
def mX9_fault : z_MI := (yX9_fault, cX9_fault, 1, some .int)
def mX9_need : z_MI := (yX9_need, cX9_need, 4, some .int)
def mX9_race : z_MI := (yX9_race, cX9_race, 5, some .int)
def mX9_ran : z_MI := (yX9_ran, cX9_ran, 4, some .int)
def mX9_place : z_MI := (yX9_place, cX9_place, 2, some .int)
def mX9_best : z_MI := (yX9_best, cX9_best, 5, some .int)
def mX9_even : z_MI := (yX9_even, cX9_even, 5, some .int)
def mX9_early : z_MI := (yX9_early, cX9_early, 6, some .int)
def mX9_hired : z_MI := (yX9_hired, cX9_hired, 10, some .int)
def mX9_stays : z_MI := (yX9_stays, cX9_stays, 6, some .int)
def mX9_rests : z_MI := (yX9_rests, cX9_rests, 6, some .int)
def mX9_wins : z_MI := (yX9_wins, cX9_wins, 6, some .int)
def mX9_line : z_MI := (yX9_line, cX9_line, 5, some .int)
def mX9_leastLine : z_MI := (yX9_leastLine, cX9_leastLine, 5, some .int)
def mX9_parts : z_MI := (yX9_parts, cX9_parts, 8, some .int)
def mX9_takenOffInAllOrders : z_MI := (yX9_takenOffInAllOrders, cX9_takenOffInAllOrders, 7, some .int)
def mX9_commonDivisor : z_MI := (yX9_commonDivisor, cX9_commonDivisor, 6, some .int)
def mX9_hour : z_MI := (yX9_hour, cX9_hour, 7, some .int)
def mX9_bestHour : z_MI := (yX9_bestHour, cX9_bestHour, 10, some .int)
def mX9_feeling : z_MI := (yX9_feeling, cX9_feeling, 8, some .int)
def mX9_image : z_MI := (yX9_image, cX9_image, 2, some .int)
def mX9_restore : z_MI := (yX9_restore, cX9_restore, 2, some .int)
def mX9_kind : z_MI := (yX9_kind, cX9_kind, 3, some .int)
def mX9_as : z_MI := (yX9_as, cX9_as, 4, some .int)
def mX9_ask : z_MI := (yX9_ask, cX9_ask, 4, some .int)
def mX9_trace : z_MI := (yX9_trace, cX9_trace, 2, some .int)
def mX9_count : z_MI := (yX9_count, cX9_count, 2, some .int)
def mX9_status : z_MI := (yX9_status, cX9_status, 1, some .int)
def mX9_sheetsThere : z_MI := (yX9_sheetsThere, cX9_sheetsThere, 3, some .int)
def mX9_found : z_MI := (yX9_found, cX9_found, 2, some .int)
def mX9_foundNothing : z_MI := (yX9_foundNothing, cX9_foundNothing, 2, some .int)
def mX9_findingAt : z_MI := (yX9_findingAt, cX9_findingAt, 4, some .int)
def mX9_itemsWithin : z_MI := (yX9_itemsWithin, cX9_itemsWithin, 6, some .boolean)
def mX9_within : z_MI := (yX9_within, cX9_within, 3, some .boolean)
def mX9_isPace : z_MI := (yX9_isPace, cX9_isPace, 1, some .boolean)
def mX9_asPace : z_MI := (yX9_asPace, cX9_asPace, 1, some .int)
def mX9_secondsBy : z_MI := (yX9_secondsBy, cX9_secondsBy, 1, some .int)
def mX9_changeBy : z_MI := (yX9_changeBy, cX9_changeBy, 4, some .int)
def mX10_init : z_MI := (yX10_init, cX10_init, 1, none)
def mX10_in : z_MI := (yX10_in, cX10_in, 6, some .boolean)
def mX10_isSheet : z_MI := (yX10_isSheet, cX10_isSheet, 1, some .boolean)
def mX10_found : z_MI := (yX10_found, cX10_found, 2, some .int)
def mX10_through : z_MI := (yX10_through, cX10_through, 2, some .int)
def mX10_sheet : z_MI := (yX10_sheet, cX10_sheet, 5, some .int)
def mX10_set : z_MI := (yX10_set, cX10_set, 5, some .int)
def mX10_holds : z_MI := (yX10_holds, cX10_holds, 4, some .boolean)
def mX10_copy : z_MI := (yX10_copy, cX10_copy, 7, some .int)
def mX10_drop : z_MI := (yX10_drop, cX10_drop, 2, some .int)
def mX10_item : z_MI := (yX10_item, cX10_item, 3, some .int)
def mX10_feed : z_MI := (yX10_feed, cX10_feed, 5, some .int)
def mX10_isSmall : z_MI := (yX10_isSmall, cX10_isSmall, 1, some .boolean)
def mX10_isFigureAt : z_MI := (yX10_isFigureAt, cX10_isFigureAt, 2, some .boolean)
def mX10_look : z_MI := (yX10_look, cX10_look, 4, none)
def mX10_next : z_MI := (yX10_next, cX10_next, 1, none)
def mX10_isWord : z_MI := (yX10_isWord, cX10_isWord, 10, some .boolean)
def mX10_faulty : z_MI := (yX10_faulty, cX10_faulty, 2, some .boolean)
def mX10_readNumber : z_MI := (yX10_readNumber, cX10_readNumber, 3, some .boolean)
def mX10_readStop : z_MI := (yX10_readStop, cX10_readStop, 1, some .boolean)
def mX10_readMile : z_MI := (yX10_readMile, cX10_readMile, 3, some .boolean)
def mX10_readRunner : z_MI := (yX10_readRunner, cX10_readRunner, 3, some .boolean)
def mX10_readRule : z_MI := (yX10_readRule, cX10_readRule, 7, some .boolean)
def mX10_readRabbit : z_MI := (yX10_readRabbit, cX10_readRabbit, 3, some .boolean)
def mX10_isMileWord : z_MI := (yX10_isMileWord, cX10_isMileWord, 1, some .boolean)
def mX10_isRunnerWord : z_MI := (yX10_isRunnerWord, cX10_isRunnerWord, 1, some .boolean)
def mX10_readAll : z_MI := (yX10_readAll, cX10_readAll, 1, some .boolean)
def mX10_course : z_MI := (yX10_course, cX10_course, 2, some .int)
def mX10_fault : z_MI := (yX10_fault, cX10_fault, 1, some .int)
def mX10_miles : z_MI := (yX10_miles, cX10_miles, 1, some .int)
def mX10_runners : z_MI := (yX10_runners, cX10_runners, 1, some .int)
def mX10_rabbits : z_MI := (yX10_rabbits, cX10_rabbits, 1, some .int)
def mX10_isMile : z_MI := (yX10_isMile, cX10_isMile, 2, some .boolean)
def mX10_isRunner : z_MI := (yX10_isRunner, cX10_isRunner, 2, some .boolean)
def mX10_isPace : z_MI := (yX10_isPace, cX10_isPace, 1, some .boolean)
def mX10_ofRunner : z_MI := (yX10_ofRunner, cX10_ofRunner, 3, some .int)
def mX10_ofRabbit : z_MI := (yX10_ofRabbit, cX10_ofRabbit, 3, some .int)
def mX10_needOf : z_MI := (yX10_needOf, cX10_needOf, 5, some .int)
def mX10_secondsBy : z_MI := (yX10_secondsBy, cX10_secondsBy, 1, some .int)
def mX10_need : z_MI := (yX10_need, cX10_need, 4, some .int)
def mX10_leftBehind : z_MI := (yX10_leftBehind, cX10_leftBehind, 6, some .int)
def mX10_easyPace : z_MI := (yX10_easyPace, cX10_easyPace, 4, some .int)
def mX10_goMile : z_MI := (yX10_goMile, cX10_goMile, 5, none)
def mX10_isSheltered : z_MI := (yX10_isSheltered, cX10_isSheltered, 4, some .boolean)
def mX10_startRace : z_MI := (yX10_startRace, cX10_startRace, 2, none)
def mX10_brought : z_MI := (yX10_brought, cX10_brought, 1, some .int)
def mX10_leastTime : z_MI := (yX10_leastTime, cX10_leastTime, 3, some .int)
def mX10_paceByRules : z_MI := (yX10_paceByRules, cX10_paceByRules, 9, some .int)
def mX10_findShelters : z_MI := (yX10_findShelters, cX10_findShelters, 2, none)
def mX10_race : z_MI := (yX10_race, cX10_race, 10, some .int)
def mX10_ranOf : z_MI := (yX10_ranOf, cX10_ranOf, 4, some .int)
def mX10_ran : z_MI := (yX10_ran, cX10_ran, 4, some .int)
def mX10_place : z_MI := (yX10_place, cX10_place, 6, some .int)
def mX10_isBehindRabbit : z_MI := (yX10_isBehindRabbit, cX10_isBehindRabbit, 6, some .boolean)
def mX10_leftAlone : z_MI := (yX10_leftAlone, cX10_leftAlone, 6, some .int)
def mX10_timeBy : z_MI := (yX10_timeBy, cX10_timeBy, 7, some .int)
def mX10_findLeast : z_MI := (yX10_findLeast, cX10_findLeast, 8, none)
def mX10_leastAll : z_MI := (yX10_leastAll, cX10_leastAll, 3, some .int)
def mX10_paceFor : z_MI := (yX10_paceFor, cX10_paceFor, 6, some .int)
def mX10_isSet : z_MI := (yX10_isSet, cX10_isSet, 2, some .boolean)
def mX10_best : z_MI := (yX10_best, cX10_best, 8, some .int)
def mX10_evenTime : z_MI := (yX10_evenTime, cX10_evenTime, 6, some .int)
def mX10_even : z_MI := (yX10_even, cX10_even, 8, some .int)
def mX10_early : z_MI := (yX10_early, cX10_early, 6, some .int)
def mX10_coinOf : z_MI := (yX10_coinOf, cX10_coinOf, 4, some .int)
def mX10_hired : z_MI := (yX10_hired, cX10_hired, 9, some .int)
def mX10_stays : z_MI := (yX10_stays, cX10_stays, 7, some .int)
def mX10_planPace : z_MI := (yX10_planPace, cX10_planPace, 7, some .int)
def mX10_gameOf : z_MI := (yX10_gameOf, cX10_gameOf, 6, some .int)
def mX10_isGame : z_MI := (yX10_isGame, cX10_isGame, 3, some .boolean)
def mX10_worthTo : z_MI := (yX10_worthTo, cX10_worthTo, 2, some .int)
def mX10_isRest : z_MI := (yX10_isRest, cX10_isRest, 5, some .boolean)
def mX10_rests : z_MI := (yX10_rests, cX10_rests, 6, some .int)
def mX10_wins : z_MI := (yX10_wins, cX10_wins, 6, some .int)
def mX10_paceOf : z_MI := (yX10_paceOf, cX10_paceOf, 2, some .int)
def mX10_isBorne : z_MI := (yX10_isBorne, cX10_isBorne, 7, some .boolean)
def mX10_line : z_MI := (yX10_line, cX10_line, 5, some .int)
def mX10_parts : z_MI := (yX10_parts, cX10_parts, 9, some .int)
def mX10_hour : z_MI := (yX10_hour, cX10_hour, 10, some .int)
def mX10_feltTime : z_MI := (yX10_feltTime, cX10_feltTime, 8, some .int)
def mX10_feeling : z_MI := (yX10_feeling, cX10_feeling, 8, some .int)
def mX10_isStep : z_MI := (yX10_isStep, cX10_isStep, 3, some .boolean)
def mX10_kindOf : z_MI := (yX10_kindOf, cX10_kindOf, 5, some .int)
def mX10_kind : z_MI := (yX10_kind, cX10_kind, 3, some .int)
def mX10_isOf : z_MI := (yX10_isOf, cX10_isOf, 2, some .boolean)
def mX10_as : z_MI := (yX10_as, cX10_as, 4, some .int)
def mX10_leave : z_MI := (yX10_leave, cX10_leave, 3, none)
def mX10_sizeOf : z_MI := (yX10_sizeOf, cX10_sizeOf, 5, some .int)
def mX10_hardMark : z_MI := (yX10_hardMark, cX10_hardMark, 4, some .int)
def mX10_markOf : z_MI := (yX10_markOf, cX10_markOf, 5, some .int)
def mX10_ask : z_MI := (yX10_ask, cX10_ask, 5, some .int)
def mX10_trace : z_MI := (yX10_trace, cX10_trace, 2, some .int)
def mX10_image : z_MI := (yX10_image, cX10_image, 3, some .int)
def mX10_restore : z_MI := (yX10_restore, cX10_restore, 3, some .int)
def mX10_count : z_MI := (yX10_count, cX10_count, 4, some .int)
def mX10_status : z_MI := (yX10_status, cX10_status, 1, some .int)
def mJ6_compare_7cf53 : z_MI := (yJ6_compare_7cf53, cJ6_compare_7cf53, 2, some .int)
def mJ6_bitCount_0f7a4 : z_MI := (yJ6_bitCount_0f7a4, cJ6_bitCount_0f7a4, 1, some .int)
def mJ9_abs_0f7a4 : z_MI := (yJ9_abs_0f7a4, cJ9_abs_0f7a4, 1, some .int)
def mJ9_max_7cf53 : z_MI := (yJ9_max_7cf53, cJ9_max_7cf53, 2, some .int)
def mJ9_min_7cf53 : z_MI := (yJ9_min_7cf53, cJ9_min_7cf53, 2, some .int)
def mJ0_length_8abf5 : z_MI := (yJ0_length_8abf5, cJ0_length_8abf5, 1, some .int)
def mJ0_charAt_5068e : z_MI := (yJ0_charAt_5068e, cJ0_charAt_5068e, 2, some .char)
def mJ0_coder_7d493 : z_MI := (yJ0_coder_7d493, cJ0_coder_7d493, 1, some .byte)
def mJ0_isLatin1_aae02 : z_MI := (yJ0_isLatin1_aae02, cJ0_isLatin1_aae02, 1, some .boolean)
def mJ0_checkIndex_df160 : z_MI := (yJ0_checkIndex_df160, cJ0_checkIndex_df160, 2, none)
def mJ1_charAt_3b067 : z_MI := (yJ1_charAt_3b067, cJ1_charAt_3b067, 2, some .char)
def mJ2_getChar_3b067 : z_MI := (yJ2_getChar_3b067, cJ2_getChar_3b067, 2, some .char)
def mJ2_length_9d52b : z_MI := (yJ2_length_9d52b, cJ2_length_9d52b, 1, some .int)
def mJ2_charAt_3b067 : z_MI := (yJ2_charAt_3b067, cJ2_charAt_3b067, 2, some .char)
def mJ2_checkIndex_2214a : z_MI := (yJ2_checkIndex_2214a, cJ2_checkIndex_2214a, 2, none)
def mJ7_fill_53178 : z_MI := (yJ7_fill_53178, cJ7_fill_53178, 4, none)
def mJ3_checkIndex_8e157 : z_MI := (yJ3_checkIndex_8e157, cJ3_checkIndex_8e157, 3, some .int)
def mL_law : z_MI := (x, code, maxLocals, ret)
theorem z_fn {P : Cond → Prop} : ∀ w ∈ ([] : List Cond), P w := fun r h => by cases h
theorem z_fc {P : Cond → Prop} {a : Cond} {l : List Cond} (h : P a) (hl : ∀ w ∈ l, P w) : ∀ w ∈ a :: l, P w := fun r hr => (List.mem_cons.mp hr).elim (fun e => e ▸ h) (hl r)
theorem z_U_p {i : Nat} {w : Cond} (h : (k2_sels lw_privs)[i]? = some w) (hg : goodWord w = true) : w ∈ z_U := List.mem_filter.mpr ⟨List.mem_append_left _ (List.mem_of_getElem? h), hg⟩
theorem z_U_1 {i : Nat} {w : Cond} (h : tables_1_1[i]? = some w) (hg : goodWord w = true) : w ∈ z_U := List.mem_filter.mpr ⟨List.mem_append_right _ (List.mem_append_left _ (List.mem_of_getElem? h)), hg⟩
theorem z_U_2 {i : Nat} {w : Cond} (h : tables_1_2[i]? = some w) (hg : goodWord w = true) : w ∈ z_U := List.mem_filter.mpr ⟨List.mem_append_right _ (List.mem_append_right _ (List.mem_append_left _ (List.mem_of_getElem? h))), hg⟩
theorem z_U_3 {i : Nat} {w : Cond} (h : tables_1_3[i]? = some w) (hg : goodWord w = true) : w ∈ z_U := List.mem_filter.mpr ⟨List.mem_append_right _ (List.mem_append_right _ (List.mem_append_right _ (List.mem_append_left _ (List.mem_of_getElem? h)))), hg⟩
theorem z_U_4 {i : Nat} {w : Cond} (h : tables_1_4[i]? = some w) (hg : goodWord w = true) : w ∈ z_U := List.mem_filter.mpr ⟨List.mem_append_right _ (List.mem_append_right _ (List.mem_append_right _ (List.mem_append_right _ (List.mem_append_left _ (List.mem_of_getElem? h))))), hg⟩
theorem z_U_5 {i : Nat} {w : Cond} (h : tables_1_5[i]? = some w) (hg : goodWord w = true) : w ∈ z_U := List.mem_filter.mpr ⟨List.mem_append_right _ (List.mem_append_right _ (List.mem_append_right _ (List.mem_append_right _ (List.mem_append_right _ (List.mem_append_left _ (List.mem_of_getElem? h)))))), hg⟩
theorem z_U_6 {i : Nat} {w : Cond} (h : tables_1_6[i]? = some w) (hg : goodWord w = true) : w ∈ z_U := List.mem_filter.mpr ⟨List.mem_append_right _ (List.mem_append_right _ (List.mem_append_right _ (List.mem_append_right _ (List.mem_append_right _ (List.mem_append_right _ (List.mem_append_left _ (List.mem_of_getElem? h))))))), hg⟩
theorem z_U_7 {i : Nat} {w : Cond} (h : tables_1_7[i]? = some w) (hg : goodWord w = true) : w ∈ z_U := List.mem_filter.mpr ⟨List.mem_append_right _ (List.mem_append_right _ (List.mem_append_right _ (List.mem_append_right _ (List.mem_append_right _ (List.mem_append_right _ (List.mem_append_right _ (List.mem_of_getElem? h))))))), hg⟩
theorem u_0 : Cond.selects "PaceStore" ⟨"PaceStore", "found", "(I)I"⟩ ⟨"PaceStore", "found", "(I)I"⟩ ∈ z_U := z_U_p (i := 0) rfl rfl
theorem u_1 : Cond.selects "PaceStore" ⟨"PaceStore", "foundNothing", "(I)I"⟩ ⟨"PaceStore", "foundNothing", "(I)I"⟩ ∈ z_U := z_U_p (i := 1) rfl rfl
theorem u_2 : Cond.selects "PaceStore" ⟨"PaceStore", "findingAt", "(III)I"⟩ ⟨"PaceStore", "findingAt", "(III)I"⟩ ∈ z_U := z_U_p (i := 2) rfl rfl
theorem u_3 : Cond.selects "PaceStore$Reader" ⟨"PaceStore$Reader", "next", "()V"⟩ ⟨"PaceStore$Reader", "next", "()V"⟩ ∈ z_U := z_U_p (i := 3) rfl rfl
theorem u_4 : Cond.selects "PaceStore$Reader" ⟨"PaceStore$Reader", "byteAt", "(I)I"⟩ ⟨"PaceStore$Reader", "byteAt", "(I)I"⟩ ∈ z_U := z_U_p (i := 4) rfl rfl
theorem u_5 : Cond.selects "PaceStore$Reader" ⟨"PaceStore$Reader", "takeName", "()V"⟩ ⟨"PaceStore$Reader", "takeName", "()V"⟩ ∈ z_U := z_U_p (i := 5) rfl rfl
theorem u_6 : Cond.selects "PaceStore$Reader" ⟨"PaceStore$Reader", "takeNumber", "(Z)V"⟩ ⟨"PaceStore$Reader", "takeNumber", "(Z)V"⟩ ∈ z_U := z_U_p (i := 6) rfl rfl
theorem u_7 : Cond.selects "PaceStore$Reader" ⟨"PaceStore$Reader", "readsMile", "()Z"⟩ ⟨"PaceStore$Reader", "readsMile", "()Z"⟩ ∈ z_U := z_U_p (i := 7) rfl rfl
theorem u_8 : Cond.selects "PaceStore$Reader" ⟨"PaceStore$Reader", "isWord", "(Ljava/lang/String;)Z"⟩ ⟨"PaceStore$Reader", "isWord", "(Ljava/lang/String;)Z"⟩ ∈ z_U := z_U_p (i := 8) rfl rfl
theorem u_9 : Cond.selects "PaceStore$Reader" ⟨"PaceStore$Reader", "fails", "(I)Z"⟩ ⟨"PaceStore$Reader", "fails", "(I)Z"⟩ ∈ z_U := z_U_p (i := 9) rfl rfl
theorem u_10 : Cond.selects "PaceStore$Reader" ⟨"PaceStore$Reader", "readsNumber", "(II)Z"⟩ ⟨"PaceStore$Reader", "readsNumber", "(II)Z"⟩ ∈ z_U := z_U_p (i := 10) rfl rfl
theorem u_11 : Cond.selects "PaceStore$Reader" ⟨"PaceStore$Reader", "readsSemicolon", "()Z"⟩ ⟨"PaceStore$Reader", "readsSemicolon", "()Z"⟩ ∈ z_U := z_U_p (i := 11) rfl rfl
theorem u_12 : Cond.selects "PaceStore$Reader" ⟨"PaceStore$Reader", "readsRunner", "()Z"⟩ ⟨"PaceStore$Reader", "readsRunner", "()Z"⟩ ∈ z_U := z_U_p (i := 12) rfl rfl
theorem u_13 : Cond.selects "PaceStore$Reader" ⟨"PaceStore$Reader", "readsRule", "(I)Z"⟩ ⟨"PaceStore$Reader", "readsRule", "(I)Z"⟩ ∈ z_U := z_U_p (i := 13) rfl rfl
theorem u_14 : Cond.selects "PaceStore$Reader" ⟨"PaceStore$Reader", "readsRabbit", "()Z"⟩ ⟨"PaceStore$Reader", "readsRabbit", "()Z"⟩ ∈ z_U := z_U_p (i := 14) rfl rfl
theorem u_15 : Cond.selects "PaceStore$Field" ⟨"PaceStore$Field", "feel", "(LPaceStore$Course;I)V"⟩ ⟨"PaceStore$Field", "feel", "(LPaceStore$Course;I)V"⟩ ∈ z_U := z_U_p (i := 15) rfl rfl
theorem u_16 : Cond.selects "PaceStore$Field" ⟨"PaceStore$Field", "leastTime", "()I"⟩ ⟨"PaceStore$Field", "leastTime", "()I"⟩ ∈ z_U := z_U_p (i := 16) rfl rfl
theorem u_17 : Cond.selects "PaceStore$Field" ⟨"PaceStore$Field", "stepByRules", "(LPaceStore$Course;III)I"⟩ ⟨"PaceStore$Field", "stepByRules", "(LPaceStore$Course;III)I"⟩ ∈ z_U := z_U_p (i := 17) rfl rfl
theorem u_18 : Cond.selects "PaceStore$Field" ⟨"PaceStore$Field", "stepBySlip", "()I"⟩ ⟨"PaceStore$Field", "stepBySlip", "()I"⟩ ∈ z_U := z_U_p (i := 18) rfl rfl
theorem u_19 : Cond.selects "PaceStore$Field" ⟨"PaceStore$Field", "isBehindSomeone", "(I)Z"⟩ ⟨"PaceStore$Field", "isBehindSomeone", "(I)Z"⟩ ∈ z_U := z_U_p (i := 19) rfl rfl
theorem u_20 : Cond.selects "PaceStore$Field" ⟨"PaceStore$Field", "rank", "(LPaceStore$Results;)V"⟩ ⟨"PaceStore$Field", "rank", "(LPaceStore$Results;)V"⟩ ∈ z_U := z_U_p (i := 20) rfl rfl
theorem u_21 : Cond.selects "PaceStore$Alone" ⟨"PaceStore$Alone", "faceHeats", "(LPaceStore$Course;II)V"⟩ ⟨"PaceStore$Alone", "faceHeats", "(LPaceStore$Course;II)V"⟩ ∈ z_U := z_U_p (i := 21) rfl rfl
theorem u_22 : Cond.selects "PaceStore$Alone" ⟨"PaceStore$Alone", "chooseTries", "(I)V"⟩ ⟨"PaceStore$Alone", "chooseTries", "(I)V"⟩ ∈ z_U := z_U_p (i := 22) rfl rfl
theorem u_23 : Cond.selects "PaceStore$Alone" ⟨"PaceStore$Alone", "leastAt", "(II)I"⟩ ⟨"PaceStore$Alone", "leastAt", "(II)I"⟩ ∈ z_U := z_U_p (i := 23) rfl rfl
theorem u_24 : Cond.selects "PaceStore$Alone" ⟨"PaceStore$Alone", "firstPace", "(II)I"⟩ ⟨"PaceStore$Alone", "firstPace", "(II)I"⟩ ∈ z_U := z_U_p (i := 24) rfl rfl
theorem u_25 : Cond.selects "PaceStore$Alone" ⟨"PaceStore$Alone", "leftBehind", "(III)I"⟩ ⟨"PaceStore$Alone", "leftBehind", "(III)I"⟩ ∈ z_U := z_U_p (i := 25) rfl rfl
theorem u_26 : Cond.selects "PaceStore" ⟨"PaceStore", "leastLine", "(ILPaceStore$Sheet;I)I"⟩ ⟨"PaceStore", "leastLine", "(ILPaceStore$Sheet;I)I"⟩ ∈ z_U := z_U_p (i := 26) rfl rfl
theorem u_27 : Cond.selects "PaceStore" ⟨"PaceStore", "bestHour", "(ILPaceStore$Sheet;III)I"⟩ ⟨"PaceStore", "bestHour", "(ILPaceStore$Sheet;III)I"⟩ ∈ z_U := z_U_p (i := 27) rfl rfl
theorem u_28 : Cond.selects "PaceStore$Step" ⟨"PaceStore$Step", "answer", "(II)I"⟩ ⟨"PaceStore$Step", "answer", "(II)I"⟩ ∈ z_U := z_U_p (i := 28) rfl rfl
theorem u_29 : Cond.selects "PaceStore$Step" ⟨"PaceStore$Step", "leaveNumber", "(I)V"⟩ ⟨"PaceStore$Step", "leaveNumber", "(I)V"⟩ ∈ z_U := z_U_p (i := 29) rfl rfl
theorem u_30 : Cond.selects "PaceStore" ⟨"PaceStore", "sheetsThere", "()I"⟩ ⟨"PaceStore", "sheetsThere", "()I"⟩ ∈ z_U := z_U_p (i := 30) rfl rfl
theorem u_31 : Cond.selects "PaceStoreModel" ⟨"PaceStoreModel", "found", "(I)I"⟩ ⟨"PaceStoreModel", "found", "(I)I"⟩ ∈ z_U := z_U_p (i := 31) rfl rfl
theorem u_32 : Cond.selects "PaceStoreModel" ⟨"PaceStoreModel", "through", "(I)I"⟩ ⟨"PaceStoreModel", "through", "(I)I"⟩ ∈ z_U := z_U_p (i := 32) rfl rfl
theorem u_33 : Cond.selects "PaceStoreModel" ⟨"PaceStoreModel", "holds", "(III)Z"⟩ ⟨"PaceStoreModel", "holds", "(III)Z"⟩ ∈ z_U := z_U_p (i := 33) rfl rfl
theorem u_34 : Cond.selects "PaceStoreModel" ⟨"PaceStoreModel", "readAll", "()Z"⟩ ⟨"PaceStoreModel", "readAll", "()Z"⟩ ∈ z_U := z_U_p (i := 34) rfl rfl
theorem u_35 : Cond.selects "PaceStoreModel" ⟨"PaceStoreModel", "look", "(I)V"⟩ ⟨"PaceStoreModel", "look", "(I)V"⟩ ∈ z_U := z_U_p (i := 35) rfl rfl
theorem u_36 : Cond.selects "PaceStoreModel" ⟨"PaceStoreModel", "isFigureAt", "(I)Z"⟩ ⟨"PaceStoreModel", "isFigureAt", "(I)Z"⟩ ∈ z_U := z_U_p (i := 36) rfl rfl
theorem u_37 : Cond.selects "PaceStoreModel" ⟨"PaceStoreModel", "isMileWord", "()Z"⟩ ⟨"PaceStoreModel", "isMileWord", "()Z"⟩ ∈ z_U := z_U_p (i := 37) rfl rfl
theorem u_38 : Cond.selects "PaceStoreModel" ⟨"PaceStoreModel", "isWord", "(IIIIII)Z"⟩ ⟨"PaceStoreModel", "isWord", "(IIIIII)Z"⟩ ∈ z_U := z_U_p (i := 38) rfl rfl
theorem u_39 : Cond.selects "PaceStoreModel" ⟨"PaceStoreModel", "faulty", "(I)Z"⟩ ⟨"PaceStoreModel", "faulty", "(I)Z"⟩ ∈ z_U := z_U_p (i := 39) rfl rfl
theorem u_40 : Cond.selects "PaceStoreModel" ⟨"PaceStoreModel", "readMile", "()Z"⟩ ⟨"PaceStoreModel", "readMile", "()Z"⟩ ∈ z_U := z_U_p (i := 40) rfl rfl
theorem u_41 : Cond.selects "PaceStoreModel" ⟨"PaceStoreModel", "next", "()V"⟩ ⟨"PaceStoreModel", "next", "()V"⟩ ∈ z_U := z_U_p (i := 41) rfl rfl
theorem u_42 : Cond.selects "PaceStoreModel" ⟨"PaceStoreModel", "readNumber", "(II)Z"⟩ ⟨"PaceStoreModel", "readNumber", "(II)Z"⟩ ∈ z_U := z_U_p (i := 42) rfl rfl
theorem u_43 : Cond.selects "PaceStoreModel" ⟨"PaceStoreModel", "readStop", "()Z"⟩ ⟨"PaceStoreModel", "readStop", "()Z"⟩ ∈ z_U := z_U_p (i := 43) rfl rfl
theorem u_44 : Cond.selects "PaceStoreModel" ⟨"PaceStoreModel", "isRunnerWord", "()Z"⟩ ⟨"PaceStoreModel", "isRunnerWord", "()Z"⟩ ∈ z_U := z_U_p (i := 44) rfl rfl
theorem u_45 : Cond.selects "PaceStoreModel" ⟨"PaceStoreModel", "readRunner", "()Z"⟩ ⟨"PaceStoreModel", "readRunner", "()Z"⟩ ∈ z_U := z_U_p (i := 45) rfl rfl
theorem u_46 : Cond.selects "PaceStoreModel" ⟨"PaceStoreModel", "readRule", "(I)Z"⟩ ⟨"PaceStoreModel", "readRule", "(I)Z"⟩ ∈ z_U := z_U_p (i := 46) rfl rfl
theorem u_47 : Cond.selects "PaceStoreModel" ⟨"PaceStoreModel", "readRabbit", "()Z"⟩ ⟨"PaceStoreModel", "readRabbit", "()Z"⟩ ∈ z_U := z_U_p (i := 47) rfl rfl
theorem u_48 : Cond.selects "PaceStoreModel" ⟨"PaceStoreModel", "miles", "()I"⟩ ⟨"PaceStoreModel", "miles", "()I"⟩ ∈ z_U := z_U_p (i := 48) rfl rfl
theorem u_49 : Cond.selects "PaceStoreModel" ⟨"PaceStoreModel", "isMile", "(I)Z"⟩ ⟨"PaceStoreModel", "isMile", "(I)Z"⟩ ∈ z_U := z_U_p (i := 49) rfl rfl
theorem u_50 : Cond.selects "PaceStoreModel" ⟨"PaceStoreModel", "needOf", "(IIZ)I"⟩ ⟨"PaceStoreModel", "needOf", "(IIZ)I"⟩ ∈ z_U := z_U_p (i := 50) rfl rfl
theorem u_51 : Cond.selects "PaceStoreModel" ⟨"PaceStoreModel", "runners", "()I"⟩ ⟨"PaceStoreModel", "runners", "()I"⟩ ∈ z_U := z_U_p (i := 51) rfl rfl
theorem u_52 : Cond.selects "PaceStoreModel" ⟨"PaceStoreModel", "item", "(II)I"⟩ ⟨"PaceStoreModel", "item", "(II)I"⟩ ∈ z_U := z_U_p (i := 52) rfl rfl
theorem u_53 : Cond.selects "PaceStoreModel" ⟨"PaceStoreModel", "startRace", "()V"⟩ ⟨"PaceStoreModel", "startRace", "()V"⟩ ∈ z_U := z_U_p (i := 53) rfl rfl
theorem u_54 : Cond.selects "PaceStoreModel" ⟨"PaceStoreModel", "ofRunner", "(II)I"⟩ ⟨"PaceStoreModel", "ofRunner", "(II)I"⟩ ∈ z_U := z_U_p (i := 54) rfl rfl
theorem u_55 : Cond.selects "PaceStoreModel" ⟨"PaceStoreModel", "leastTime", "()I"⟩ ⟨"PaceStoreModel", "leastTime", "()I"⟩ ∈ z_U := z_U_p (i := 55) rfl rfl
theorem u_56 : Cond.selects "PaceStoreModel" ⟨"PaceStoreModel", "paceByRules", "(III)I"⟩ ⟨"PaceStoreModel", "paceByRules", "(III)I"⟩ ∈ z_U := z_U_p (i := 56) rfl rfl
theorem u_57 : Cond.selects "PaceStoreModel" ⟨"PaceStoreModel", "findShelters", "()V"⟩ ⟨"PaceStoreModel", "findShelters", "()V"⟩ ∈ z_U := z_U_p (i := 57) rfl rfl
theorem u_58 : Cond.selects "PaceStoreModel" ⟨"PaceStoreModel", "isSheltered", "(I)Z"⟩ ⟨"PaceStoreModel", "isSheltered", "(I)Z"⟩ ∈ z_U := z_U_p (i := 58) rfl rfl
theorem u_59 : Cond.selects "PaceStoreModel" ⟨"PaceStoreModel", "goMile", "(IIZ)V"⟩ ⟨"PaceStoreModel", "goMile", "(IIZ)V"⟩ ∈ z_U := z_U_p (i := 59) rfl rfl
theorem u_60 : Cond.selects "PaceStoreModel" ⟨"PaceStoreModel", "leftBehind", "(IIII)I"⟩ ⟨"PaceStoreModel", "leftBehind", "(IIII)I"⟩ ∈ z_U := z_U_p (i := 60) rfl rfl
theorem u_61 : Cond.selects "PaceStoreModel" ⟨"PaceStoreModel", "easyPace", "(II)I"⟩ ⟨"PaceStoreModel", "easyPace", "(II)I"⟩ ∈ z_U := z_U_p (i := 61) rfl rfl
theorem u_62 : Cond.selects "PaceStoreModel" ⟨"PaceStoreModel", "isRunner", "(I)Z"⟩ ⟨"PaceStoreModel", "isRunner", "(I)Z"⟩ ∈ z_U := z_U_p (i := 62) rfl rfl
theorem u_63 : Cond.selects "PaceStoreModel" ⟨"PaceStoreModel", "ranOf", "(III)I"⟩ ⟨"PaceStoreModel", "ranOf", "(III)I"⟩ ∈ z_U := z_U_p (i := 63) rfl rfl
theorem u_64 : Cond.selects "PaceStoreModel" ⟨"PaceStoreModel", "isSet", "(I)Z"⟩ ⟨"PaceStoreModel", "isSet", "(I)Z"⟩ ∈ z_U := z_U_p (i := 64) rfl rfl
theorem u_65 : Cond.selects "PaceStoreModel" ⟨"PaceStoreModel", "rabbits", "()I"⟩ ⟨"PaceStoreModel", "rabbits", "()I"⟩ ∈ z_U := z_U_p (i := 65) rfl rfl
theorem u_66 : Cond.selects "PaceStoreModel" ⟨"PaceStoreModel", "leastAll", "(II)I"⟩ ⟨"PaceStoreModel", "leastAll", "(II)I"⟩ ∈ z_U := z_U_p (i := 66) rfl rfl
theorem u_67 : Cond.selects "PaceStoreModel" ⟨"PaceStoreModel", "findLeast", "(II)V"⟩ ⟨"PaceStoreModel", "findLeast", "(II)V"⟩ ∈ z_U := z_U_p (i := 67) rfl rfl
theorem u_68 : Cond.selects "PaceStoreModel" ⟨"PaceStoreModel", "timeBy", "(IIIII)I"⟩ ⟨"PaceStoreModel", "timeBy", "(IIIII)I"⟩ ∈ z_U := z_U_p (i := 68) rfl rfl
theorem u_69 : Cond.selects "PaceStoreModel" ⟨"PaceStoreModel", "leftAlone", "(IIIII)I"⟩ ⟨"PaceStoreModel", "leftAlone", "(IIIII)I"⟩ ∈ z_U := z_U_p (i := 69) rfl rfl
theorem u_70 : Cond.selects "PaceStoreModel" ⟨"PaceStoreModel", "isBehindRabbit", "(III)Z"⟩ ⟨"PaceStoreModel", "isBehindRabbit", "(III)Z"⟩ ∈ z_U := z_U_p (i := 70) rfl rfl
theorem u_71 : Cond.selects "PaceStoreModel" ⟨"PaceStoreModel", "ofRabbit", "(II)I"⟩ ⟨"PaceStoreModel", "ofRabbit", "(II)I"⟩ ∈ z_U := z_U_p (i := 71) rfl rfl
theorem u_72 : Cond.selects "PaceStoreModel" ⟨"PaceStoreModel", "paceFor", "(IIII)I"⟩ ⟨"PaceStoreModel", "paceFor", "(IIII)I"⟩ ∈ z_U := z_U_p (i := 72) rfl rfl
theorem u_73 : Cond.selects "PaceStoreModel" ⟨"PaceStoreModel", "evenTime", "(III)I"⟩ ⟨"PaceStoreModel", "evenTime", "(III)I"⟩ ∈ z_U := z_U_p (i := 73) rfl rfl
theorem u_74 : Cond.selects "PaceStoreModel" ⟨"PaceStoreModel", "coinOf", "(I)I"⟩ ⟨"PaceStoreModel", "coinOf", "(I)I"⟩ ∈ z_U := z_U_p (i := 74) rfl rfl
theorem u_75 : Cond.selects "PaceStoreModel" ⟨"PaceStoreModel", "isGame", "(II)Z"⟩ ⟨"PaceStoreModel", "isGame", "(II)Z"⟩ ∈ z_U := z_U_p (i := 75) rfl rfl
theorem u_76 : Cond.selects "PaceStoreModel" ⟨"PaceStoreModel", "gameOf", "(IIII)I"⟩ ⟨"PaceStoreModel", "gameOf", "(IIII)I"⟩ ∈ z_U := z_U_p (i := 76) rfl rfl
theorem u_77 : Cond.selects "PaceStoreModel" ⟨"PaceStoreModel", "planPace", "(III)I"⟩ ⟨"PaceStoreModel", "planPace", "(III)I"⟩ ∈ z_U := z_U_p (i := 77) rfl rfl
theorem u_78 : Cond.selects "PaceStoreModel" ⟨"PaceStoreModel", "isRest", "(II)Z"⟩ ⟨"PaceStoreModel", "isRest", "(II)Z"⟩ ∈ z_U := z_U_p (i := 78) rfl rfl
theorem u_79 : Cond.selects "PaceStoreModel" ⟨"PaceStoreModel", "isBorne", "(IIII)Z"⟩ ⟨"PaceStoreModel", "isBorne", "(IIII)Z"⟩ ∈ z_U := z_U_p (i := 79) rfl rfl
theorem u_80 : Cond.selects "PaceStoreModel" ⟨"PaceStoreModel", "feltTime", "(IIII)I"⟩ ⟨"PaceStoreModel", "feltTime", "(IIII)I"⟩ ∈ z_U := z_U_p (i := 80) rfl rfl
theorem u_81 : Cond.selects "PaceStoreModel" ⟨"PaceStoreModel", "isStep", "(II)Z"⟩ ⟨"PaceStoreModel", "isStep", "(II)Z"⟩ ∈ z_U := z_U_p (i := 81) rfl rfl
theorem u_82 : Cond.selects "PaceStoreModel" ⟨"PaceStoreModel", "kindOf", "(II)I"⟩ ⟨"PaceStoreModel", "kindOf", "(II)I"⟩ ∈ z_U := z_U_p (i := 82) rfl rfl
theorem u_83 : Cond.selects "PaceStoreModel" ⟨"PaceStoreModel", "sizeOf", "(III)I"⟩ ⟨"PaceStoreModel", "sizeOf", "(III)I"⟩ ∈ z_U := z_U_p (i := 83) rfl rfl
theorem u_84 : Cond.selects "PaceStoreModel" ⟨"PaceStoreModel", "leave", "(IZ)V"⟩ ⟨"PaceStoreModel", "leave", "(IZ)V"⟩ ∈ z_U := z_U_p (i := 84) rfl rfl
theorem u_85 : Cond.selects "PaceStoreModel" ⟨"PaceStoreModel", "hardMark", "(III)I"⟩ ⟨"PaceStoreModel", "hardMark", "(III)I"⟩ ∈ z_U := z_U_p (i := 85) rfl rfl
theorem u_86 : Cond.selects "PaceStoreModel" ⟨"PaceStoreModel", "markOf", "(III)I"⟩ ⟨"PaceStoreModel", "markOf", "(III)I"⟩ ∈ z_U := z_U_p (i := 86) rfl rfl
theorem u_88 : (Jvm.Cond.initialized "PaceStore") ∈ z_U := z_U_1 (i := 1) rfl rfl
theorem u_89 : (Jvm.Cond.initialized "PaceStore$Reader") ∈ z_U := z_U_1 (i := 2) rfl rfl
theorem u_90 : (Jvm.Cond.initialized "PaceStore$Course") ∈ z_U := z_U_1 (i := 3) rfl rfl
theorem u_91 : (Jvm.Cond.initialized "PaceStore$Results") ∈ z_U := z_U_1 (i := 4) rfl rfl
theorem u_92 : (Jvm.Cond.initialized "PaceStore$Field") ∈ z_U := z_U_1 (i := 5) rfl rfl
theorem u_93 : (Jvm.Cond.initialized "PaceStore$Body") ∈ z_U := z_U_1 (i := 6) rfl rfl
theorem u_94 : (Jvm.Cond.initialized "PaceStore$Alone") ∈ z_U := z_U_1 (i := 7) rfl rfl
theorem u_95 : (Jvm.Cond.initialized "java/lang/Math") ∈ z_U := z_U_1 (i := 8) rfl rfl
theorem u_96 : (Jvm.Cond.initialized "PaceStore$Game") ∈ z_U := z_U_1 (i := 9) rfl rfl
theorem u_97 : (Jvm.Cond.initialized "PaceStore$Step") ∈ z_U := z_U_1 (i := 10) rfl rfl
theorem u_98 : (Jvm.Cond.initialized "PaceStore$Sheet") ∈ z_U := z_U_1 (i := 11) rfl rfl
theorem u_99 : (Jvm.Cond.initialized "PaceStoreModel") ∈ z_U := z_U_1 (i := 12) rfl rfl
theorem u_100 : (Jvm.Cond.initialized "java/util/Arrays") ∈ z_U := z_U_1 (i := 13) rfl rfl
theorem u_101 : (Jvm.Cond.initialized "java/lang/System") ∈ z_U := z_U_1 (i := 14) rfl rfl
theorem u_102 : (Jvm.Cond.initialized "java/lang/String") ∈ z_U := z_U_1 (i := 15) rfl rfl
theorem u_106 : (Jvm.Cond.initialized "java/lang/Integer") ∈ z_U := z_U_1 (i := 19) rfl rfl
theorem u_129 : (Jvm.Cond.fieldLink "PaceStore$Course" (70 : Nat) "PaceStore$Course" "isThere" "Z") ∈ z_U := z_U_1 (i := 42) rfl rfl
theorem u_130 : (Jvm.Cond.fieldLink "PaceStore$Reader" (70 : Nat) "PaceStore$Course" "isThere" "Z") ∈ z_U := z_U_1 (i := 43) rfl rfl
theorem u_131 : (Jvm.Cond.fieldLink "PaceStore" (169 : Nat) "PaceStore$Course" "isThere" "Z") ∈ z_U := z_U_1 (i := 44) rfl rfl
theorem u_132 : (Jvm.Cond.fieldLink "PaceStore$Course" (54 : Nat) "PaceStore$Course" "miles" "I") ∈ z_U := z_U_1 (i := 45) rfl rfl
theorem u_133 : (Jvm.Cond.fieldLink "PaceStore$Field" (41 : Nat) "PaceStore$Course" "miles" "I") ∈ z_U := z_U_1 (i := 46) rfl rfl
theorem u_134 : (Jvm.Cond.fieldLink "PaceStore$Game" (45 : Nat) "PaceStore$Course" "miles" "I") ∈ z_U := z_U_1 (i := 47) rfl rfl
theorem u_135 : (Jvm.Cond.fieldLink "PaceStore$Alone" (54 : Nat) "PaceStore$Course" "miles" "I") ∈ z_U := z_U_1 (i := 48) rfl rfl
theorem u_136 : (Jvm.Cond.fieldLink "PaceStore$Reader" (74 : Nat) "PaceStore$Course" "miles" "I") ∈ z_U := z_U_1 (i := 49) rfl rfl
theorem u_137 : (Jvm.Cond.fieldLink "PaceStore" (151 : Nat) "PaceStore$Course" "miles" "I") ∈ z_U := z_U_1 (i := 50) rfl rfl
theorem u_138 : (Jvm.Cond.fieldLink "PaceStore$Course" (9 : Nat) "PaceStore$Course" "hills" "[I") ∈ z_U := z_U_1 (i := 51) rfl rfl
theorem u_139 : (Jvm.Cond.fieldLink "PaceStore$Reader" (81 : Nat) "PaceStore$Course" "hills" "[I") ∈ z_U := z_U_1 (i := 52) rfl rfl
theorem u_140 : (Jvm.Cond.fieldLink "PaceStore$Course" (15 : Nat) "PaceStore$Course" "heats" "[I") ∈ z_U := z_U_1 (i := 53) rfl rfl
theorem u_141 : (Jvm.Cond.fieldLink "PaceStore$Reader" (88 : Nat) "PaceStore$Course" "heats" "[I") ∈ z_U := z_U_1 (i := 54) rfl rfl
theorem u_142 : (Jvm.Cond.fieldLink "PaceStore$Course" (18 : Nat) "PaceStore$Course" "winds" "[I") ∈ z_U := z_U_1 (i := 55) rfl rfl
theorem u_143 : (Jvm.Cond.fieldLink "PaceStore$Reader" (91 : Nat) "PaceStore$Course" "winds" "[I") ∈ z_U := z_U_1 (i := 56) rfl rfl
theorem u_144 : (Jvm.Cond.fieldLink "PaceStore$Field" (18 : Nat) "PaceStore$Course" "runners" "I") ∈ z_U := z_U_1 (i := 57) rfl rfl
theorem u_145 : (Jvm.Cond.fieldLink "PaceStore$Course" (58 : Nat) "PaceStore$Course" "runners" "I") ∈ z_U := z_U_1 (i := 58) rfl rfl
theorem u_146 : (Jvm.Cond.fieldLink "PaceStore$Reader" (52 : Nat) "PaceStore$Course" "runners" "I") ∈ z_U := z_U_1 (i := 59) rfl rfl
theorem u_147 : (Jvm.Cond.fieldLink "PaceStore" (171 : Nat) "PaceStore$Course" "runners" "I") ∈ z_U := z_U_1 (i := 60) rfl rfl
theorem u_148 : (Jvm.Cond.fieldLink "PaceStore$Course" (21 : Nat) "PaceStore$Course" "lines" "[I") ∈ z_U := z_U_1 (i := 61) rfl rfl
theorem u_149 : (Jvm.Cond.fieldLink "PaceStore$Body" (7 : Nat) "PaceStore$Course" "lines" "[I") ∈ z_U := z_U_1 (i := 62) rfl rfl
theorem u_150 : (Jvm.Cond.fieldLink "PaceStore$Alone" (80 : Nat) "PaceStore$Course" "lines" "[I") ∈ z_U := z_U_1 (i := 63) rfl rfl
theorem u_151 : (Jvm.Cond.fieldLink "PaceStore$Reader" (97 : Nat) "PaceStore$Course" "lines" "[I") ∈ z_U := z_U_1 (i := 64) rfl rfl
theorem u_152 : (Jvm.Cond.fieldLink "PaceStore$Course" (24 : Nat) "PaceStore$Course" "stores" "[I") ∈ z_U := z_U_1 (i := 65) rfl rfl
theorem u_153 : (Jvm.Cond.fieldLink "PaceStore$Body" (19 : Nat) "PaceStore$Course" "stores" "[I") ∈ z_U := z_U_1 (i := 66) rfl rfl
theorem u_154 : (Jvm.Cond.fieldLink "PaceStore$Alone" (61 : Nat) "PaceStore$Course" "stores" "[I") ∈ z_U := z_U_1 (i := 67) rfl rfl
theorem u_155 : (Jvm.Cond.fieldLink "PaceStore$Reader" (100 : Nat) "PaceStore$Course" "stores" "[I") ∈ z_U := z_U_1 (i := 68) rfl rfl
theorem u_156 : (Jvm.Cond.fieldLink "PaceStore$Course" (27 : Nat) "PaceStore$Course" "fills" "[I") ∈ z_U := z_U_1 (i := 69) rfl rfl
theorem u_157 : (Jvm.Cond.fieldLink "PaceStore$Body" (25 : Nat) "PaceStore$Course" "fills" "[I") ∈ z_U := z_U_1 (i := 70) rfl rfl
theorem u_158 : (Jvm.Cond.fieldLink "PaceStore$Alone" (67 : Nat) "PaceStore$Course" "fills" "[I") ∈ z_U := z_U_1 (i := 71) rfl rfl
theorem u_159 : (Jvm.Cond.fieldLink "PaceStore$Reader" (103 : Nat) "PaceStore$Course" "fills" "[I") ∈ z_U := z_U_1 (i := 72) rfl rfl
theorem u_160 : (Jvm.Cond.fieldLink "PaceStore$Course" (30 : Nat) "PaceStore$Course" "rules" "[I") ∈ z_U := z_U_1 (i := 73) rfl rfl
theorem u_161 : (Jvm.Cond.fieldLink "PaceStore$Field" (86 : Nat) "PaceStore$Course" "rules" "[I") ∈ z_U := z_U_1 (i := 74) rfl rfl
theorem u_162 : (Jvm.Cond.fieldLink "PaceStore$Reader" (109 : Nat) "PaceStore$Course" "rules" "[I") ∈ z_U := z_U_1 (i := 75) rfl rfl
theorem u_163 : (Jvm.Cond.fieldLink "PaceStore$Course" (33 : Nat) "PaceStore$Course" "ruleWhats" "[I") ∈ z_U := z_U_1 (i := 76) rfl rfl
theorem u_164 : (Jvm.Cond.fieldLink "PaceStore$Field" (90 : Nat) "PaceStore$Course" "ruleWhats" "[I") ∈ z_U := z_U_1 (i := 77) rfl rfl
theorem u_165 : (Jvm.Cond.fieldLink "PaceStore$Reader" (115 : Nat) "PaceStore$Course" "ruleWhats" "[I") ∈ z_U := z_U_1 (i := 78) rfl rfl
theorem u_166 : (Jvm.Cond.fieldLink "PaceStore$Course" (36 : Nat) "PaceStore$Course" "ruleSides" "[I") ∈ z_U := z_U_1 (i := 79) rfl rfl
theorem u_167 : (Jvm.Cond.fieldLink "PaceStore$Field" (99 : Nat) "PaceStore$Course" "ruleSides" "[I") ∈ z_U := z_U_1 (i := 80) rfl rfl
theorem u_168 : (Jvm.Cond.fieldLink "PaceStore$Reader" (118 : Nat) "PaceStore$Course" "ruleSides" "[I") ∈ z_U := z_U_1 (i := 81) rfl rfl
theorem u_169 : (Jvm.Cond.fieldLink "PaceStore$Course" (39 : Nat) "PaceStore$Course" "ruleNumbers" "[I") ∈ z_U := z_U_1 (i := 82) rfl rfl
theorem u_170 : (Jvm.Cond.fieldLink "PaceStore$Field" (96 : Nat) "PaceStore$Course" "ruleNumbers" "[I") ∈ z_U := z_U_1 (i := 83) rfl rfl
theorem u_171 : (Jvm.Cond.fieldLink "PaceStore$Reader" (125 : Nat) "PaceStore$Course" "ruleNumbers" "[I") ∈ z_U := z_U_1 (i := 84) rfl rfl
theorem u_172 : (Jvm.Cond.fieldLink "PaceStore$Course" (42 : Nat) "PaceStore$Course" "ruleSteps" "[I") ∈ z_U := z_U_1 (i := 85) rfl rfl
theorem u_173 : (Jvm.Cond.fieldLink "PaceStore$Field" (102 : Nat) "PaceStore$Course" "ruleSteps" "[I") ∈ z_U := z_U_1 (i := 86) rfl rfl
theorem u_174 : (Jvm.Cond.fieldLink "PaceStore$Reader" (132 : Nat) "PaceStore$Course" "ruleSteps" "[I") ∈ z_U := z_U_1 (i := 87) rfl rfl
theorem u_175 : (Jvm.Cond.fieldLink "PaceStore$Course" (61 : Nat) "PaceStore$Course" "rabbits" "I") ∈ z_U := z_U_1 (i := 88) rfl rfl
theorem u_176 : (Jvm.Cond.fieldLink "PaceStore$Reader" (135 : Nat) "PaceStore$Course" "rabbits" "I") ∈ z_U := z_U_1 (i := 89) rfl rfl
theorem u_177 : (Jvm.Cond.fieldLink "PaceStore" (227 : Nat) "PaceStore$Course" "rabbits" "I") ∈ z_U := z_U_1 (i := 90) rfl rfl
theorem u_178 : (Jvm.Cond.fieldLink "PaceStore$Course" (45 : Nat) "PaceStore$Course" "rabbitPaces" "[I") ∈ z_U := z_U_1 (i := 91) rfl rfl
theorem u_179 : (Jvm.Cond.fieldLink "PaceStore$Reader" (138 : Nat) "PaceStore$Course" "rabbitPaces" "[I") ∈ z_U := z_U_1 (i := 92) rfl rfl
theorem u_180 : (Jvm.Cond.fieldLink "PaceStore" (233 : Nat) "PaceStore$Course" "rabbitPaces" "[I") ∈ z_U := z_U_1 (i := 93) rfl rfl
theorem u_181 : (Jvm.Cond.fieldLink "PaceStore$Course" (48 : Nat) "PaceStore$Course" "tills" "[I") ∈ z_U := z_U_1 (i := 94) rfl rfl
theorem u_182 : (Jvm.Cond.fieldLink "PaceStore$Reader" (141 : Nat) "PaceStore$Course" "tills" "[I") ∈ z_U := z_U_1 (i := 95) rfl rfl
theorem u_183 : (Jvm.Cond.fieldLink "PaceStore" (230 : Nat) "PaceStore$Course" "tills" "[I") ∈ z_U := z_U_1 (i := 96) rfl rfl
theorem u_184 : (Jvm.Cond.fieldLink "PaceStore$Course" (51 : Nat) "PaceStore$Course" "coins" "[I") ∈ z_U := z_U_1 (i := 97) rfl rfl
theorem u_185 : (Jvm.Cond.fieldLink "PaceStore$Reader" (144 : Nat) "PaceStore$Course" "coins" "[I") ∈ z_U := z_U_1 (i := 98) rfl rfl
theorem u_186 : (Jvm.Cond.lays "PaceStore$Course" "PaceStore$Course" "isThere" "Z") ∈ z_U := z_U_1 (i := 99) rfl rfl
theorem u_188 : (Jvm.Cond.lays "PaceStore$Course" "PaceStore$Course" "miles" "I") ∈ z_U := z_U_1 (i := 101) rfl rfl
theorem u_190 : (Jvm.Cond.laysFinal "PaceStore$Course" "PaceStore$Course" "hills" "[I") ∈ z_U := z_U_1 (i := 103) rfl rfl
theorem u_192 : (Jvm.Cond.laysFinal "PaceStore$Course" "PaceStore$Course" "heats" "[I") ∈ z_U := z_U_1 (i := 105) rfl rfl
theorem u_194 : (Jvm.Cond.laysFinal "PaceStore$Course" "PaceStore$Course" "winds" "[I") ∈ z_U := z_U_1 (i := 107) rfl rfl
theorem u_196 : (Jvm.Cond.lays "PaceStore$Course" "PaceStore$Course" "runners" "I") ∈ z_U := z_U_1 (i := 109) rfl rfl
theorem u_198 : (Jvm.Cond.laysFinal "PaceStore$Course" "PaceStore$Course" "lines" "[I") ∈ z_U := z_U_1 (i := 111) rfl rfl
theorem u_200 : (Jvm.Cond.laysFinal "PaceStore$Course" "PaceStore$Course" "stores" "[I") ∈ z_U := z_U_1 (i := 113) rfl rfl
theorem u_202 : (Jvm.Cond.laysFinal "PaceStore$Course" "PaceStore$Course" "fills" "[I") ∈ z_U := z_U_1 (i := 115) rfl rfl
theorem u_204 : (Jvm.Cond.laysFinal "PaceStore$Course" "PaceStore$Course" "rules" "[I") ∈ z_U := z_U_1 (i := 117) rfl rfl
theorem u_206 : (Jvm.Cond.laysFinal "PaceStore$Course" "PaceStore$Course" "ruleWhats" "[I") ∈ z_U := z_U_1 (i := 119) rfl rfl
theorem u_208 : (Jvm.Cond.laysFinal "PaceStore$Course" "PaceStore$Course" "ruleSides" "[I") ∈ z_U := z_U_1 (i := 121) rfl rfl
theorem u_210 : (Jvm.Cond.laysFinal "PaceStore$Course" "PaceStore$Course" "ruleNumbers" "[I") ∈ z_U := z_U_1 (i := 123) rfl rfl
theorem u_212 : (Jvm.Cond.laysFinal "PaceStore$Course" "PaceStore$Course" "ruleSteps" "[I") ∈ z_U := z_U_1 (i := 125) rfl rfl
theorem u_214 : (Jvm.Cond.lays "PaceStore$Course" "PaceStore$Course" "rabbits" "I") ∈ z_U := z_U_1 (i := 127) rfl rfl
theorem u_216 : (Jvm.Cond.laysFinal "PaceStore$Course" "PaceStore$Course" "rabbitPaces" "[I") ∈ z_U := z_U_1 (i := 129) rfl rfl
theorem u_218 : (Jvm.Cond.laysFinal "PaceStore$Course" "PaceStore$Course" "tills" "[I") ∈ z_U := z_U_1 (i := 131) rfl rfl
theorem u_220 : (Jvm.Cond.laysFinal "PaceStore$Course" "PaceStore$Course" "coins" "[I") ∈ z_U := z_U_1 (i := 133) rfl rfl
theorem u_225 : (Jvm.Cond.fieldLink "PaceStore$Reader" (11 : Nat) "PaceStore$Reader" "tape" "[B") ∈ z_U := z_U_1 (i := 138) rfl rfl
theorem u_226 : (Jvm.Cond.fieldLink "PaceStore$Reader" (18 : Nat) "PaceStore$Reader" "draft" "LPaceStore$Course;") ∈ z_U := z_U_1 (i := 139) rfl rfl
theorem u_227 : (Jvm.Cond.fieldLink "PaceStore" (140 : Nat) "PaceStore$Reader" "draft" "LPaceStore$Course;") ∈ z_U := z_U_1 (i := 140) rfl rfl
theorem u_228 : (Jvm.Cond.fieldLink "PaceStore$Reader" (22 : Nat) "PaceStore$Reader" "length" "I") ∈ z_U := z_U_1 (i := 141) rfl rfl
theorem u_229 : (Jvm.Cond.fieldLink "PaceStore" (129 : Nat) "PaceStore$Reader" "length" "I") ∈ z_U := z_U_1 (i := 142) rfl rfl
theorem u_230 : (Jvm.Cond.fieldLink "PaceStore" (154 : Nat) "PaceStore$Reader" "fault" "I") ∈ z_U := z_U_1 (i := 143) rfl rfl
theorem u_231 : (Jvm.Cond.fieldLink "PaceStore$Reader" (154 : Nat) "PaceStore$Reader" "fault" "I") ∈ z_U := z_U_1 (i := 144) rfl rfl
theorem u_232 : (Jvm.Cond.fieldLink "PaceStore" (137 : Nat) "PaceStore$Reader" "first" "I") ∈ z_U := z_U_1 (i := 145) rfl rfl
theorem u_233 : (Jvm.Cond.fieldLink "PaceStore$Reader" (157 : Nat) "PaceStore$Reader" "first" "I") ∈ z_U := z_U_1 (i := 146) rfl rfl
theorem u_234 : (Jvm.Cond.fieldLink "PaceStore$Reader" (29 : Nat) "PaceStore$Reader" "behind" "I") ∈ z_U := z_U_1 (i := 147) rfl rfl
theorem u_235 : (Jvm.Cond.fieldLink "PaceStore$Reader" (64 : Nat) "PaceStore$Reader" "sort" "I") ∈ z_U := z_U_1 (i := 148) rfl rfl
theorem u_236 : (Jvm.Cond.fieldLink "PaceStore$Reader" (147 : Nat) "PaceStore$Reader" "value" "I") ∈ z_U := z_U_1 (i := 149) rfl rfl
theorem u_237 : (Jvm.Cond.fieldLink "PaceStore$Reader" (85 : Nat) "PaceStore$Reader" "taken" "I") ∈ z_U := z_U_1 (i := 150) rfl rfl
theorem u_238 : (Jvm.Cond.laysFinal "PaceStore$Reader" "PaceStore$Reader" "tape" "[B") ∈ z_U := z_U_1 (i := 151) rfl rfl
theorem u_240 : (Jvm.Cond.laysFinal "PaceStore$Reader" "PaceStore$Reader" "draft" "LPaceStore$Course;") ∈ z_U := z_U_1 (i := 153) rfl rfl
theorem u_242 : (Jvm.Cond.lays "PaceStore$Reader" "PaceStore$Reader" "length" "I") ∈ z_U := z_U_1 (i := 155) rfl rfl
theorem u_244 : (Jvm.Cond.lays "PaceStore$Reader" "PaceStore$Reader" "fault" "I") ∈ z_U := z_U_1 (i := 157) rfl rfl
theorem u_246 : (Jvm.Cond.lays "PaceStore$Reader" "PaceStore$Reader" "first" "I") ∈ z_U := z_U_1 (i := 159) rfl rfl
theorem u_248 : (Jvm.Cond.lays "PaceStore$Reader" "PaceStore$Reader" "behind" "I") ∈ z_U := z_U_1 (i := 161) rfl rfl
theorem u_250 : (Jvm.Cond.lays "PaceStore$Reader" "PaceStore$Reader" "sort" "I") ∈ z_U := z_U_1 (i := 163) rfl rfl
theorem u_252 : (Jvm.Cond.lays "PaceStore$Reader" "PaceStore$Reader" "value" "I") ∈ z_U := z_U_1 (i := 165) rfl rfl
theorem u_254 : (Jvm.Cond.lays "PaceStore$Reader" "PaceStore$Reader" "taken" "I") ∈ z_U := z_U_1 (i := 167) rfl rfl
theorem u_267 : (Jvm.Cond.fieldLink "PaceStore$Results" (13 : Nat) "PaceStore$Results" "rows" "[[I") ∈ z_U := z_U_1 (i := 180) rfl rfl
theorem u_268 : (Jvm.Cond.fieldLink "PaceStore$Results" (16 : Nat) "PaceStore$Results" "places" "[I") ∈ z_U := z_U_1 (i := 181) rfl rfl
theorem u_269 : (Jvm.Cond.fieldLink "PaceStore$Field" (126 : Nat) "PaceStore$Results" "places" "[I") ∈ z_U := z_U_1 (i := 182) rfl rfl
theorem u_270 : (Jvm.Cond.fieldLink "PaceStore" (191 : Nat) "PaceStore$Results" "places" "[I") ∈ z_U := z_U_1 (i := 183) rfl rfl
theorem u_271 : (Jvm.Cond.fieldLink "PaceStore$Results" (24 : Nat) "PaceStore$Results" "runners" "I") ∈ z_U := z_U_1 (i := 184) rfl rfl
theorem u_272 : (Jvm.Cond.fieldLink "PaceStore$Field" (129 : Nat) "PaceStore$Results" "runners" "I") ∈ z_U := z_U_1 (i := 185) rfl rfl
theorem u_273 : (Jvm.Cond.fieldLink "PaceStore$Results" (20 : Nat) "PaceStore$Results" "isThere" "Z") ∈ z_U := z_U_1 (i := 186) rfl rfl
theorem u_274 : (Jvm.Cond.fieldLink "PaceStore" (147 : Nat) "PaceStore$Results" "isThere" "Z") ∈ z_U := z_U_1 (i := 187) rfl rfl
theorem u_275 : (Jvm.Cond.fieldLink "PaceStore$Field" (130 : Nat) "PaceStore$Results" "isThere" "Z") ∈ z_U := z_U_1 (i := 188) rfl rfl
theorem u_276 : (Jvm.Cond.laysFinal "PaceStore$Results" "PaceStore$Results" "rows" "[[I") ∈ z_U := z_U_1 (i := 189) rfl rfl
theorem u_278 : (Jvm.Cond.laysFinal "PaceStore$Results" "PaceStore$Results" "places" "[I") ∈ z_U := z_U_1 (i := 191) rfl rfl
theorem u_280 : (Jvm.Cond.lays "PaceStore$Results" "PaceStore$Results" "runners" "I") ∈ z_U := z_U_1 (i := 193) rfl rfl
theorem u_282 : (Jvm.Cond.lays "PaceStore$Results" "PaceStore$Results" "isThere" "Z") ∈ z_U := z_U_1 (i := 195) rfl rfl
theorem u_300 : (Jvm.Cond.fieldLink "PaceStore$Body" (13 : Nat) "PaceStore$Body" "line" "I") ∈ z_U := z_U_1 (i := 213) rfl rfl
theorem u_301 : (Jvm.Cond.fieldLink "PaceStore$Game" (36 : Nat) "PaceStore$Body" "line" "I") ∈ z_U := z_U_1 (i := 214) rfl rfl
theorem u_302 : (Jvm.Cond.fieldLink "PaceStore$Body" (22 : Nat) "PaceStore$Body" "store" "I") ∈ z_U := z_U_1 (i := 215) rfl rfl
theorem u_303 : (Jvm.Cond.fieldLink "PaceStore$Body" (28 : Nat) "PaceStore$Body" "fill" "I") ∈ z_U := z_U_1 (i := 216) rfl rfl
theorem u_304 : (Jvm.Cond.fieldLink "PaceStore$Body" (31 : Nat) "PaceStore$Body" "left" "I") ∈ z_U := z_U_1 (i := 217) rfl rfl
theorem u_305 : (Jvm.Cond.fieldLink "PaceStore$Results" (42 : Nat) "PaceStore$Body" "left" "I") ∈ z_U := z_U_1 (i := 218) rfl rfl
theorem u_306 : (Jvm.Cond.fieldLink "PaceStore$Field" (93 : Nat) "PaceStore$Body" "left" "I") ∈ z_U := z_U_1 (i := 219) rfl rfl
theorem u_307 : (Jvm.Cond.fieldLink "PaceStore$Body" (34 : Nat) "PaceStore$Body" "time" "I") ∈ z_U := z_U_1 (i := 220) rfl rfl
theorem u_308 : (Jvm.Cond.fieldLink "PaceStore$Game" (63 : Nat) "PaceStore$Body" "time" "I") ∈ z_U := z_U_1 (i := 221) rfl rfl
theorem u_309 : (Jvm.Cond.fieldLink "PaceStore$Results" (51 : Nat) "PaceStore$Body" "time" "I") ∈ z_U := z_U_1 (i := 222) rfl rfl
theorem u_310 : (Jvm.Cond.fieldLink "PaceStore$Field" (77 : Nat) "PaceStore$Body" "time" "I") ∈ z_U := z_U_1 (i := 223) rfl rfl
theorem u_311 : (Jvm.Cond.fieldLink "PaceStore$Body" (37 : Nat) "PaceStore$Body" "pace" "I") ∈ z_U := z_U_1 (i := 224) rfl rfl
theorem u_312 : (Jvm.Cond.fieldLink "PaceStore$Game" (56 : Nat) "PaceStore$Body" "pace" "I") ∈ z_U := z_U_1 (i := 225) rfl rfl
theorem u_313 : (Jvm.Cond.fieldLink "PaceStore$Results" (39 : Nat) "PaceStore$Body" "pace" "I") ∈ z_U := z_U_1 (i := 226) rfl rfl
theorem u_314 : (Jvm.Cond.fieldLink "PaceStore$Results" (34 : Nat) "PaceStore$Body" "seconds" "I") ∈ z_U := z_U_1 (i := 227) rfl rfl
theorem u_315 : (Jvm.Cond.fieldLink "PaceStore$Body" (79 : Nat) "PaceStore$Body" "seconds" "I") ∈ z_U := z_U_1 (i := 228) rfl rfl
theorem u_316 : (Jvm.Cond.fieldLink "PaceStore$Body" (40 : Nat) "PaceStore$Body" "isSheltered" "Z") ∈ z_U := z_U_1 (i := 229) rfl rfl
theorem u_317 : (Jvm.Cond.fieldLink "PaceStore$Results" (45 : Nat) "PaceStore$Body" "isSheltered" "Z") ∈ z_U := z_U_1 (i := 230) rfl rfl
theorem u_318 : (Jvm.Cond.fieldLink "PaceStore$Field" (115 : Nat) "PaceStore$Body" "isSheltered" "Z") ∈ z_U := z_U_1 (i := 231) rfl rfl
theorem u_319 : (Jvm.Cond.fieldLink "PaceStore$Results" (54 : Nat) "PaceStore$Body" "isHard" "Z") ∈ z_U := z_U_1 (i := 232) rfl rfl
theorem u_320 : (Jvm.Cond.fieldLink "PaceStore$Body" (58 : Nat) "PaceStore$Body" "isHard" "Z") ∈ z_U := z_U_1 (i := 233) rfl rfl
theorem u_321 : (Jvm.Cond.fieldLink "PaceStore$Results" (48 : Nat) "PaceStore$Body" "isSpentOut" "Z") ∈ z_U := z_U_1 (i := 234) rfl rfl
theorem u_322 : (Jvm.Cond.fieldLink "PaceStore$Body" (61 : Nat) "PaceStore$Body" "isSpentOut" "Z") ∈ z_U := z_U_1 (i := 235) rfl rfl
theorem u_323 : (Jvm.Cond.lays "PaceStore$Body" "PaceStore$Body" "line" "I") ∈ z_U := z_U_1 (i := 236) rfl rfl
theorem u_325 : (Jvm.Cond.lays "PaceStore$Body" "PaceStore$Body" "store" "I") ∈ z_U := z_U_1 (i := 238) rfl rfl
theorem u_327 : (Jvm.Cond.lays "PaceStore$Body" "PaceStore$Body" "fill" "I") ∈ z_U := z_U_2 (i := 0) rfl rfl
theorem u_329 : (Jvm.Cond.lays "PaceStore$Body" "PaceStore$Body" "left" "I") ∈ z_U := z_U_2 (i := 2) rfl rfl
theorem u_331 : (Jvm.Cond.lays "PaceStore$Body" "PaceStore$Body" "time" "I") ∈ z_U := z_U_2 (i := 4) rfl rfl
theorem u_333 : (Jvm.Cond.lays "PaceStore$Body" "PaceStore$Body" "pace" "I") ∈ z_U := z_U_2 (i := 6) rfl rfl
theorem u_335 : (Jvm.Cond.lays "PaceStore$Body" "PaceStore$Body" "seconds" "I") ∈ z_U := z_U_2 (i := 8) rfl rfl
theorem u_337 : (Jvm.Cond.lays "PaceStore$Body" "PaceStore$Body" "isSheltered" "Z") ∈ z_U := z_U_2 (i := 10) rfl rfl
theorem u_339 : (Jvm.Cond.lays "PaceStore$Body" "PaceStore$Body" "isHard" "Z") ∈ z_U := z_U_2 (i := 12) rfl rfl
theorem u_341 : (Jvm.Cond.lays "PaceStore$Body" "PaceStore$Body" "isSpentOut" "Z") ∈ z_U := z_U_2 (i := 14) rfl rfl
theorem u_344 : (Jvm.Cond.fieldLink "PaceStore$Field" (11 : Nat) "PaceStore$Field" "bodies" "[LPaceStore$Body;") ∈ z_U := z_U_2 (i := 17) rfl rfl
theorem u_345 : (Jvm.Cond.fieldLink "PaceStore$Game" (22 : Nat) "PaceStore$Field" "bodies" "[LPaceStore$Body;") ∈ z_U := z_U_2 (i := 18) rfl rfl
theorem u_346 : (Jvm.Cond.fieldLink "PaceStore$Field" (24 : Nat) "PaceStore$Field" "running" "I") ∈ z_U := z_U_2 (i := 19) rfl rfl
theorem u_347 : (Jvm.Cond.fieldLink "PaceStore$Game" (26 : Nat) "PaceStore$Field" "running" "I") ∈ z_U := z_U_2 (i := 20) rfl rfl
theorem u_348 : (Jvm.Cond.fieldLink "PaceStore$Field" (27 : Nat) "PaceStore$Field" "slip" "J") ∈ z_U := z_U_2 (i := 21) rfl rfl
theorem u_349 : (Jvm.Cond.laysFinal "PaceStore$Field" "PaceStore$Field" "bodies" "[LPaceStore$Body;") ∈ z_U := z_U_2 (i := 22) rfl rfl
theorem u_351 : (Jvm.Cond.lays "PaceStore$Field" "PaceStore$Field" "running" "I") ∈ z_U := z_U_2 (i := 24) rfl rfl
theorem u_353 : (Jvm.Cond.lays "PaceStore$Field" "PaceStore$Field" "slip" "J") ∈ z_U := z_U_2 (i := 26) rfl rfl
theorem u_364 : (Jvm.Cond.static ({ cls := "PaceStore", name := "secondsBy", desc := "(I)I" } : Jvm.MethodName)) ∈ z_U := z_U_2 (i := 37) rfl rfl
theorem u_365 : (Jvm.Cond.code ({ cls := "PaceStore", name := "secondsBy", desc := "(I)I" } : Jvm.MethodName) prog_1_method_44_code (1 : Nat) (Option.some Jvm.ClassFile.FieldType.int)) ∈ z_U := z_U_2 (i := 38) rfl rfl
theorem u_366 : (Jvm.Cond.methodLink "PaceStore" (335 : Nat) ({ cls := "java/lang/Math", name := "max", desc := "(II)I" } : Jvm.MethodName)) ∈ z_U := z_U_2 (i := 39) rfl rfl
theorem u_367 : (Jvm.Cond.static ({ cls := "java/lang/Math", name := "max", desc := "(II)I" } : Jvm.MethodName)) ∈ z_U := z_U_2 (i := 40) rfl rfl
theorem u_368 : (Jvm.Cond.code ({ cls := "java/lang/Math", name := "max", desc := "(II)I" } : Jvm.MethodName) prog_14_method_65_code (2 : Nat) (Option.some Jvm.ClassFile.FieldType.int)) ∈ z_U := z_U_2 (i := 41) rfl rfl
theorem u_369 : (Jvm.Cond.fieldLink "PaceStore$Alone" (9 : Nat) "PaceStore$Alone" "seconds" "[I") ∈ z_U := z_U_2 (i := 42) rfl rfl
theorem u_370 : (Jvm.Cond.fieldLink "PaceStore$Alone" (17 : Nat) "PaceStore$Alone" "needs" "[[I") ∈ z_U := z_U_2 (i := 43) rfl rfl
theorem u_371 : (Jvm.Cond.fieldLink "PaceStore$Alone" (20 : Nat) "PaceStore$Alone" "changes" "[[I") ∈ z_U := z_U_2 (i := 44) rfl rfl
theorem u_372 : (Jvm.Cond.fieldLink "PaceStore$Alone" (23 : Nat) "PaceStore$Alone" "tries" "[[I") ∈ z_U := z_U_2 (i := 45) rfl rfl
theorem u_373 : (Jvm.Cond.fieldLink "PaceStore$Alone" (26 : Nat) "PaceStore$Alone" "tried" "[I") ∈ z_U := z_U_2 (i := 46) rfl rfl
theorem u_374 : (Jvm.Cond.fieldLink "PaceStore$Alone" (29 : Nat) "PaceStore$Alone" "least" "[[I") ∈ z_U := z_U_2 (i := 47) rfl rfl
theorem u_375 : (Jvm.Cond.fieldLink "PaceStore" (242 : Nat) "PaceStore$Alone" "least" "[[I") ∈ z_U := z_U_2 (i := 48) rfl rfl
theorem u_376 : (Jvm.Cond.fieldLink "PaceStore$Alone" (32 : Nat) "PaceStore$Alone" "moreHeats" "[I") ∈ z_U := z_U_2 (i := 49) rfl rfl
theorem u_377 : (Jvm.Cond.fieldLink "PaceStore$Alone" (60 : Nat) "PaceStore$Alone" "miles" "I") ∈ z_U := z_U_2 (i := 50) rfl rfl
theorem u_378 : (Jvm.Cond.fieldLink "PaceStore$Alone" (87 : Nat) "PaceStore$Alone" "line" "I") ∈ z_U := z_U_2 (i := 51) rfl rfl
theorem u_379 : (Jvm.Cond.fieldLink "PaceStore$Alone" (64 : Nat) "PaceStore$Alone" "store" "I") ∈ z_U := z_U_2 (i := 52) rfl rfl
theorem u_380 : (Jvm.Cond.fieldLink "PaceStore$Alone" (70 : Nat) "PaceStore$Alone" "fill" "I") ∈ z_U := z_U_2 (i := 53) rfl rfl
theorem u_381 : (Jvm.Cond.laysFinal "PaceStore$Alone" "PaceStore$Alone" "seconds" "[I") ∈ z_U := z_U_2 (i := 54) rfl rfl
theorem u_383 : (Jvm.Cond.laysFinal "PaceStore$Alone" "PaceStore$Alone" "needs" "[[I") ∈ z_U := z_U_2 (i := 56) rfl rfl
theorem u_385 : (Jvm.Cond.laysFinal "PaceStore$Alone" "PaceStore$Alone" "changes" "[[I") ∈ z_U := z_U_2 (i := 58) rfl rfl
theorem u_387 : (Jvm.Cond.laysFinal "PaceStore$Alone" "PaceStore$Alone" "tries" "[[I") ∈ z_U := z_U_2 (i := 60) rfl rfl
theorem u_389 : (Jvm.Cond.laysFinal "PaceStore$Alone" "PaceStore$Alone" "tried" "[I") ∈ z_U := z_U_2 (i := 62) rfl rfl
theorem u_391 : (Jvm.Cond.laysFinal "PaceStore$Alone" "PaceStore$Alone" "least" "[[I") ∈ z_U := z_U_2 (i := 64) rfl rfl
theorem u_393 : (Jvm.Cond.laysFinal "PaceStore$Alone" "PaceStore$Alone" "moreHeats" "[I") ∈ z_U := z_U_2 (i := 66) rfl rfl
theorem u_395 : (Jvm.Cond.lays "PaceStore$Alone" "PaceStore$Alone" "miles" "I") ∈ z_U := z_U_2 (i := 68) rfl rfl
theorem u_397 : (Jvm.Cond.lays "PaceStore$Alone" "PaceStore$Alone" "line" "I") ∈ z_U := z_U_2 (i := 70) rfl rfl
theorem u_399 : (Jvm.Cond.lays "PaceStore$Alone" "PaceStore$Alone" "store" "I") ∈ z_U := z_U_2 (i := 72) rfl rfl
theorem u_401 : (Jvm.Cond.lays "PaceStore$Alone" "PaceStore$Alone" "fill" "I") ∈ z_U := z_U_2 (i := 74) rfl rfl
theorem u_412 : (Jvm.Cond.fieldLink "PaceStore$Game" (12 : Nat) "PaceStore$Game" "field" "LPaceStore$Field;") ∈ z_U := z_U_2 (i := 85) rfl rfl
theorem u_413 : (Jvm.Cond.fieldLink "PaceStore$Game" (18 : Nat) "PaceStore$Game" "scores" "[I") ∈ z_U := z_U_2 (i := 86) rfl rfl
theorem u_414 : (Jvm.Cond.laysFinal "PaceStore$Game" "PaceStore$Game" "field" "LPaceStore$Field;") ∈ z_U := z_U_2 (i := 87) rfl rfl
theorem u_416 : (Jvm.Cond.laysFinal "PaceStore$Game" "PaceStore$Game" "scores" "[I") ∈ z_U := z_U_2 (i := 89) rfl rfl
theorem u_425 : (Jvm.Cond.fieldLink "PaceStore$Step" (9 : Nat) "PaceStore$Step" "numbers" "[I") ∈ z_U := z_U_2 (i := 98) rfl rfl
theorem u_426 : (Jvm.Cond.fieldLink "PaceStore" (322 : Nat) "PaceStore$Step" "numbers" "[I") ∈ z_U := z_U_2 (i := 99) rfl rfl
theorem u_427 : (Jvm.Cond.fieldLink "PaceStore$Step" (22 : Nat) "PaceStore$Step" "traced" "I") ∈ z_U := z_U_2 (i := 100) rfl rfl
theorem u_428 : (Jvm.Cond.fieldLink "PaceStore" (319 : Nat) "PaceStore$Step" "traced" "I") ∈ z_U := z_U_2 (i := 101) rfl rfl
theorem u_429 : (Jvm.Cond.fieldLink "PaceStore$Step" (32 : Nat) "PaceStore$Step" "kind" "I") ∈ z_U := z_U_2 (i := 102) rfl rfl
theorem u_430 : (Jvm.Cond.fieldLink "PaceStore$Step" (35 : Nat) "PaceStore$Step" "mile" "I") ∈ z_U := z_U_2 (i := 103) rfl rfl
theorem u_431 : (Jvm.Cond.fieldLink "PaceStore$Step" (42 : Nat) "PaceStore$Step" "seconds" "I") ∈ z_U := z_U_2 (i := 104) rfl rfl
theorem u_432 : (Jvm.Cond.fieldLink "PaceStore$Step" (45 : Nat) "PaceStore$Step" "pace" "I") ∈ z_U := z_U_2 (i := 105) rfl rfl
theorem u_433 : (Jvm.Cond.fieldLink "PaceStore$Step" (48 : Nat) "PaceStore$Step" "leftBehind" "I") ∈ z_U := z_U_2 (i := 106) rfl rfl
theorem u_434 : (Jvm.Cond.laysFinal "PaceStore$Step" "PaceStore$Step" "numbers" "[I") ∈ z_U := z_U_2 (i := 107) rfl rfl
theorem u_436 : (Jvm.Cond.lays "PaceStore$Step" "PaceStore$Step" "traced" "I") ∈ z_U := z_U_2 (i := 109) rfl rfl
theorem u_438 : (Jvm.Cond.lays "PaceStore$Step" "PaceStore$Step" "kind" "I") ∈ z_U := z_U_2 (i := 111) rfl rfl
theorem u_440 : (Jvm.Cond.lays "PaceStore$Step" "PaceStore$Step" "mile" "I") ∈ z_U := z_U_2 (i := 113) rfl rfl
theorem u_442 : (Jvm.Cond.lays "PaceStore$Step" "PaceStore$Step" "seconds" "I") ∈ z_U := z_U_2 (i := 115) rfl rfl
theorem u_444 : (Jvm.Cond.lays "PaceStore$Step" "PaceStore$Step" "pace" "I") ∈ z_U := z_U_2 (i := 117) rfl rfl
theorem u_446 : (Jvm.Cond.lays "PaceStore$Step" "PaceStore$Step" "leftBehind" "I") ∈ z_U := z_U_2 (i := 119) rfl rfl
theorem u_454 : (Jvm.Cond.fieldLink "PaceStore$Sheet" (9 : Nat) "PaceStore$Sheet" "items" "[I") ∈ z_U := z_U_2 (i := 127) rfl rfl
theorem u_455 : (Jvm.Cond.fieldLink "PaceStore" (109 : Nat) "PaceStore$Sheet" "items" "[I") ∈ z_U := z_U_2 (i := 128) rfl rfl
theorem u_456 : (Jvm.Cond.fieldLink "PaceStore$Sheet" (15 : Nat) "PaceStore$Sheet" "lane" "I") ∈ z_U := z_U_2 (i := 129) rfl rfl
theorem u_457 : (Jvm.Cond.fieldLink "PaceStore" (101 : Nat) "PaceStore$Sheet" "lane" "I") ∈ z_U := z_U_2 (i := 130) rfl rfl
theorem u_458 : (Jvm.Cond.fieldLink "PaceStore$Sheet" (25 : Nat) "PaceStore$Sheet" "size" "I") ∈ z_U := z_U_2 (i := 131) rfl rfl
theorem u_459 : (Jvm.Cond.fieldLink "PaceStore" (119 : Nat) "PaceStore$Sheet" "size" "I") ∈ z_U := z_U_2 (i := 132) rfl rfl
theorem u_460 : (Jvm.Cond.laysFinal "PaceStore$Sheet" "PaceStore$Sheet" "items" "[I") ∈ z_U := z_U_2 (i := 133) rfl rfl
theorem u_462 : (Jvm.Cond.lays "PaceStore$Sheet" "PaceStore$Sheet" "lane" "I") ∈ z_U := z_U_2 (i := 135) rfl rfl
theorem u_464 : (Jvm.Cond.lays "PaceStore$Sheet" "PaceStore$Sheet" "size" "I") ∈ z_U := z_U_2 (i := 137) rfl rfl
theorem u_467 : (Jvm.Cond.fieldLink "PaceStore" (11 : Nat) "PaceStore" "sheets" "[LPaceStore$Sheet;") ∈ z_U := z_U_2 (i := 140) rfl rfl
theorem u_468 : (Jvm.Cond.fieldLink "PaceStore" (18 : Nat) "PaceStore" "reader" "LPaceStore$Reader;") ∈ z_U := z_U_2 (i := 141) rfl rfl
theorem u_469 : (Jvm.Cond.fieldLink "PaceStore" (25 : Nat) "PaceStore" "course" "LPaceStore$Course;") ∈ z_U := z_U_2 (i := 142) rfl rfl
theorem u_470 : (Jvm.Cond.fieldLink "PaceStore" (32 : Nat) "PaceStore" "results" "LPaceStore$Results;") ∈ z_U := z_U_2 (i := 143) rfl rfl
theorem u_471 : (Jvm.Cond.fieldLink "PaceStore" (36 : Nat) "PaceStore" "keptCourses" "[LPaceStore$Course;") ∈ z_U := z_U_2 (i := 144) rfl rfl
theorem u_472 : (Jvm.Cond.fieldLink "PaceStore" (40 : Nat) "PaceStore" "keptResults" "[LPaceStore$Results;") ∈ z_U := z_U_2 (i := 145) rfl rfl
theorem u_473 : (Jvm.Cond.fieldLink "PaceStore" (47 : Nat) "PaceStore" "field" "LPaceStore$Field;") ∈ z_U := z_U_2 (i := 146) rfl rfl
theorem u_474 : (Jvm.Cond.fieldLink "PaceStore" (54 : Nat) "PaceStore" "alone" "LPaceStore$Alone;") ∈ z_U := z_U_2 (i := 147) rfl rfl
theorem u_475 : (Jvm.Cond.fieldLink "PaceStore" (61 : Nat) "PaceStore" "game" "LPaceStore$Game;") ∈ z_U := z_U_2 (i := 148) rfl rfl
theorem u_476 : (Jvm.Cond.fieldLink "PaceStore" (68 : Nat) "PaceStore" "step" "LPaceStore$Step;") ∈ z_U := z_U_2 (i := 149) rfl rfl
theorem u_477 : (Jvm.Cond.fieldLink "PaceStore" (331 : Nat) "PaceStore" "status" "I") ∈ z_U := z_U_2 (i := 150) rfl rfl
theorem u_478 : (Jvm.Cond.laysFinal "PaceStore" "PaceStore" "sheets" "[LPaceStore$Sheet;") ∈ z_U := z_U_2 (i := 151) rfl rfl
theorem u_480 : (Jvm.Cond.laysFinal "PaceStore" "PaceStore" "reader" "LPaceStore$Reader;") ∈ z_U := z_U_2 (i := 153) rfl rfl
theorem u_482 : (Jvm.Cond.laysFinal "PaceStore" "PaceStore" "course" "LPaceStore$Course;") ∈ z_U := z_U_2 (i := 155) rfl rfl
theorem u_484 : (Jvm.Cond.laysFinal "PaceStore" "PaceStore" "results" "LPaceStore$Results;") ∈ z_U := z_U_2 (i := 157) rfl rfl
theorem u_486 : (Jvm.Cond.laysFinal "PaceStore" "PaceStore" "keptCourses" "[LPaceStore$Course;") ∈ z_U := z_U_2 (i := 159) rfl rfl
theorem u_488 : (Jvm.Cond.laysFinal "PaceStore" "PaceStore" "keptResults" "[LPaceStore$Results;") ∈ z_U := z_U_2 (i := 161) rfl rfl
theorem u_490 : (Jvm.Cond.laysFinal "PaceStore" "PaceStore" "field" "LPaceStore$Field;") ∈ z_U := z_U_2 (i := 163) rfl rfl
theorem u_492 : (Jvm.Cond.laysFinal "PaceStore" "PaceStore" "alone" "LPaceStore$Alone;") ∈ z_U := z_U_2 (i := 165) rfl rfl
theorem u_494 : (Jvm.Cond.laysFinal "PaceStore" "PaceStore" "game" "LPaceStore$Game;") ∈ z_U := z_U_2 (i := 167) rfl rfl
theorem u_496 : (Jvm.Cond.laysFinal "PaceStore" "PaceStore" "step" "LPaceStore$Step;") ∈ z_U := z_U_2 (i := 169) rfl rfl
theorem u_498 : (Jvm.Cond.lays "PaceStore" "PaceStore" "status" "I") ∈ z_U := z_U_2 (i := 171) rfl rfl
theorem u_501 : (Jvm.Cond.methodLink "PaceStoreLaw" (13 : Nat) ({ cls := "PaceStore", name := "sheet", desc := "(III)I" } : Jvm.MethodName)) ∈ z_U := z_U_2 (i := 174) rfl rfl
theorem u_502 : (Jvm.Cond.instanceMethod ({ cls := "PaceStore", name := "sheet", desc := "(III)I" } : Jvm.MethodName)) ∈ z_U := z_U_2 (i := 175) rfl rfl
theorem u_503 : (Jvm.Cond.selects "PaceStore" ({ cls := "PaceStore", name := "sheet", desc := "(III)I" } : Jvm.MethodName) ({ cls := "PaceStore", name := "sheet", desc := "(III)I" } : Jvm.MethodName)) ∈ z_U := z_U_2 (i := 176) rfl rfl
theorem u_504 : (Jvm.Cond.code ({ cls := "PaceStore", name := "sheet", desc := "(III)I" } : Jvm.MethodName) prog_1_method_2_code (4 : Nat) (Option.some Jvm.ClassFile.FieldType.int)) ∈ z_U := z_U_2 (i := 177) rfl rfl
theorem u_505 : (Jvm.Cond.methodLink "PaceStore" (73 : Nat) ({ cls := "PaceStore", name := "within", desc := "(III)Z" } : Jvm.MethodName)) ∈ z_U := z_U_2 (i := 178) rfl rfl
theorem u_506 : (Jvm.Cond.static ({ cls := "PaceStore", name := "within", desc := "(III)Z" } : Jvm.MethodName)) ∈ z_U := z_U_2 (i := 179) rfl rfl
theorem u_507 : (Jvm.Cond.code ({ cls := "PaceStore", name := "within", desc := "(III)Z" } : Jvm.MethodName) prog_1_method_41_code (3 : Nat) (Option.some Jvm.ClassFile.FieldType.boolean)) ∈ z_U := z_U_2 (i := 180) rfl rfl
theorem u_508 : (Jvm.Cond.constant "PaceStore" (77 : Nat) (-1000001 : Int32)) ∈ z_U := z_U_2 (i := 181) rfl rfl
theorem u_509 : (Jvm.Cond.methodLink "PaceStore" (78 : Nat) ({ cls := "PaceStore", name := "found", desc := "(I)I" } : Jvm.MethodName)) ∈ z_U := z_U_2 (i := 182) rfl rfl
theorem u_511 : (Jvm.Cond.instanceMethod ({ cls := "PaceStore", name := "found", desc := "(I)I" } : Jvm.MethodName)) ∈ z_U := z_U_2 (i := 184) rfl rfl
theorem u_512 : (Jvm.Cond.code ({ cls := "PaceStore", name := "found", desc := "(I)I" } : Jvm.MethodName) prog_1_method_37_code (2 : Nat) (Option.some Jvm.ClassFile.FieldType.int)) ∈ z_U := z_U_2 (i := 185) rfl rfl
theorem u_513 : (Jvm.Cond.constant "PaceStore" (334 : Nat) (-1000010 : Int32)) ∈ z_U := z_U_2 (i := 186) rfl rfl
theorem u_514 : (Jvm.Cond.methodLink "PaceStore" (82 : Nat) ({ cls := "PaceStore$Sheet", name := "begin", desc := "(II)V" } : Jvm.MethodName)) ∈ z_U := z_U_2 (i := 187) rfl rfl
theorem u_515 : (Jvm.Cond.instanceMethod ({ cls := "PaceStore$Sheet", name := "begin", desc := "(II)V" } : Jvm.MethodName)) ∈ z_U := z_U_2 (i := 188) rfl rfl
theorem u_516 : (Jvm.Cond.selects "PaceStore$Sheet" ({ cls := "PaceStore$Sheet", name := "begin", desc := "(II)V" } : Jvm.MethodName) ({ cls := "PaceStore$Sheet", name := "begin", desc := "(II)V" } : Jvm.MethodName)) ∈ z_U := z_U_2 (i := 189) rfl rfl
theorem u_517 : (Jvm.Cond.code ({ cls := "PaceStore$Sheet", name := "begin", desc := "(II)V" } : Jvm.MethodName) prog_9_method_3_code (3 : Nat) (Option.none : Option Jvm.ClassFile.FieldType)) ∈ z_U := z_U_2 (i := 190) rfl rfl
theorem u_518 : (Jvm.Cond.methodLink "PaceStore$Sheet" (19 : Nat) ({ cls := "java/util/Arrays", name := "fill", desc := "([II)V" } : Jvm.MethodName)) ∈ z_U := z_U_2 (i := 191) rfl rfl
theorem u_519 : (Jvm.Cond.static ({ cls := "java/util/Arrays", name := "fill", desc := "([II)V" } : Jvm.MethodName)) ∈ z_U := z_U_2 (i := 192) rfl rfl
theorem u_520 : (Jvm.Cond.code ({ cls := "java/util/Arrays", name := "fill", desc := "([II)V" } : Jvm.MethodName) prog_19_method_103_code (4 : Nat) (Option.none : Option Jvm.ClassFile.FieldType)) ∈ z_U := z_U_2 (i := 193) rfl rfl
theorem u_521 : (Jvm.Cond.methodLink "PaceStore" (86 : Nat) ({ cls := "PaceStore", name := "foundNothing", desc := "(I)I" } : Jvm.MethodName)) ∈ z_U := z_U_2 (i := 194) rfl rfl
theorem u_523 : (Jvm.Cond.instanceMethod ({ cls := "PaceStore", name := "foundNothing", desc := "(I)I" } : Jvm.MethodName)) ∈ z_U := z_U_2 (i := 196) rfl rfl
theorem u_524 : (Jvm.Cond.code ({ cls := "PaceStore", name := "foundNothing", desc := "(I)I" } : Jvm.MethodName) prog_1_method_38_code (2 : Nat) (Option.some Jvm.ClassFile.FieldType.int)) ∈ z_U := z_U_2 (i := 197) rfl rfl
theorem u_525 : (Jvm.Cond.methodLink "PaceStoreLaw" (18 : Nat) ({ cls := "PaceStore", name := "set", desc := "(III)I" } : Jvm.MethodName)) ∈ z_U := z_U_2 (i := 198) rfl rfl
theorem u_526 : (Jvm.Cond.instanceMethod ({ cls := "PaceStore", name := "set", desc := "(III)I" } : Jvm.MethodName)) ∈ z_U := z_U_2 (i := 199) rfl rfl
theorem u_527 : (Jvm.Cond.selects "PaceStore" ({ cls := "PaceStore", name := "set", desc := "(III)I" } : Jvm.MethodName) ({ cls := "PaceStore", name := "set", desc := "(III)I" } : Jvm.MethodName)) ∈ z_U := z_U_2 (i := 200) rfl rfl
theorem u_528 : (Jvm.Cond.code ({ cls := "PaceStore", name := "set", desc := "(III)I" } : Jvm.MethodName) prog_1_method_3_code (5 : Nat) (Option.some Jvm.ClassFile.FieldType.int)) ∈ z_U := z_U_2 (i := 201) rfl rfl
theorem u_529 : (Jvm.Cond.methodLink "PaceStore" (89 : Nat) ({ cls := "PaceStore", name := "findingAt", desc := "(III)I" } : Jvm.MethodName)) ∈ z_U := z_U_2 (i := 202) rfl rfl
theorem u_531 : (Jvm.Cond.instanceMethod ({ cls := "PaceStore", name := "findingAt", desc := "(III)I" } : Jvm.MethodName)) ∈ z_U := z_U_2 (i := 204) rfl rfl
theorem u_532 : (Jvm.Cond.code ({ cls := "PaceStore", name := "findingAt", desc := "(III)I" } : Jvm.MethodName) prog_1_method_39_code (4 : Nat) (Option.some Jvm.ClassFile.FieldType.int)) ∈ z_U := z_U_2 (i := 205) rfl rfl
theorem u_533 : (Jvm.Cond.methodLink "PaceStore" (97 : Nat) ({ cls := "PaceStore$Sheet", name := "isMissing", desc := "()Z" } : Jvm.MethodName)) ∈ z_U := z_U_2 (i := 206) rfl rfl
theorem u_534 : (Jvm.Cond.instanceMethod ({ cls := "PaceStore$Sheet", name := "isMissing", desc := "()Z" } : Jvm.MethodName)) ∈ z_U := z_U_2 (i := 207) rfl rfl
theorem u_535 : (Jvm.Cond.selects "PaceStore$Sheet" ({ cls := "PaceStore$Sheet", name := "isMissing", desc := "()Z" } : Jvm.MethodName) ({ cls := "PaceStore$Sheet", name := "isMissing", desc := "()Z" } : Jvm.MethodName)) ∈ z_U := z_U_2 (i := 208) rfl rfl
theorem u_536 : (Jvm.Cond.code ({ cls := "PaceStore$Sheet", name := "isMissing", desc := "()Z" } : Jvm.MethodName) prog_9_method_2_code (1 : Nat) (Option.some Jvm.ClassFile.FieldType.boolean)) ∈ z_U := z_U_2 (i := 209) rfl rfl
theorem u_537 : (Jvm.Cond.methodLink "PaceStore" (105 : Nat) ({ cls := "PaceStore$Sheet", name := "reaches", desc := "(II)Z" } : Jvm.MethodName)) ∈ z_U := z_U_2 (i := 210) rfl rfl
theorem u_538 : (Jvm.Cond.instanceMethod ({ cls := "PaceStore$Sheet", name := "reaches", desc := "(II)Z" } : Jvm.MethodName)) ∈ z_U := z_U_2 (i := 211) rfl rfl
theorem u_539 : (Jvm.Cond.selects "PaceStore$Sheet" ({ cls := "PaceStore$Sheet", name := "reaches", desc := "(II)Z" } : Jvm.MethodName) ({ cls := "PaceStore$Sheet", name := "reaches", desc := "(II)Z" } : Jvm.MethodName)) ∈ z_U := z_U_2 (i := 212) rfl rfl
theorem u_540 : (Jvm.Cond.code ({ cls := "PaceStore$Sheet", name := "reaches", desc := "(II)Z" } : Jvm.MethodName) prog_9_method_5_code (3 : Nat) (Option.some Jvm.ClassFile.FieldType.boolean)) ∈ z_U := z_U_2 (i := 213) rfl rfl
theorem u_541 : (Jvm.Cond.methodLink "PaceStore" (93 : Nat) ({ cls := "PaceStore$Sheet", name := "put", desc := "(II)I" } : Jvm.MethodName)) ∈ z_U := z_U_2 (i := 214) rfl rfl
theorem u_542 : (Jvm.Cond.instanceMethod ({ cls := "PaceStore$Sheet", name := "put", desc := "(II)I" } : Jvm.MethodName)) ∈ z_U := z_U_2 (i := 215) rfl rfl
theorem u_543 : (Jvm.Cond.selects "PaceStore$Sheet" ({ cls := "PaceStore$Sheet", name := "put", desc := "(II)I" } : Jvm.MethodName) ({ cls := "PaceStore$Sheet", name := "put", desc := "(II)I" } : Jvm.MethodName)) ∈ z_U := z_U_2 (i := 216) rfl rfl
theorem u_544 : (Jvm.Cond.code ({ cls := "PaceStore$Sheet", name := "put", desc := "(II)I" } : Jvm.MethodName) prog_9_method_7_code (4 : Nat) (Option.some Jvm.ClassFile.FieldType.int)) ∈ z_U := z_U_2 (i := 217) rfl rfl
theorem u_546 : (Jvm.Cond.methodLink "PaceStoreLaw" (22 : Nat) ({ cls := "PaceStore", name := "copy", desc := "(IIIII)I" } : Jvm.MethodName)) ∈ z_U := z_U_2 (i := 219) rfl rfl
theorem u_547 : (Jvm.Cond.instanceMethod ({ cls := "PaceStore", name := "copy", desc := "(IIIII)I" } : Jvm.MethodName)) ∈ z_U := z_U_2 (i := 220) rfl rfl
theorem u_548 : (Jvm.Cond.selects "PaceStore" ({ cls := "PaceStore", name := "copy", desc := "(IIIII)I" } : Jvm.MethodName) ({ cls := "PaceStore", name := "copy", desc := "(IIIII)I" } : Jvm.MethodName)) ∈ z_U := z_U_2 (i := 221) rfl rfl
theorem u_549 : (Jvm.Cond.code ({ cls := "PaceStore", name := "copy", desc := "(IIIII)I" } : Jvm.MethodName) prog_1_method_4_code (8 : Nat) (Option.some Jvm.ClassFile.FieldType.int)) ∈ z_U := z_U_2 (i := 222) rfl rfl
theorem u_550 : (Jvm.Cond.methodLink "PaceStore" (113 : Nat) ({ cls := "java/lang/System", name := "arraycopy", desc := "(Ljava/lang/Object;ILjava/lang/Object;II)V" } : Jvm.MethodName)) ∈ z_U := z_U_2 (i := 223) rfl rfl
theorem u_551 : (Jvm.Cond.static ({ cls := "java/lang/System", name := "arraycopy", desc := "(Ljava/lang/Object;ILjava/lang/Object;II)V" } : Jvm.MethodName)) ∈ z_U := z_U_2 (i := 224) rfl rfl
theorem u_552 : (Jvm.Cond.native ({ cls := "java/lang/System", name := "arraycopy", desc := "(Ljava/lang/Object;ILjava/lang/Object;II)V" } : Jvm.MethodName)) ∈ z_U := z_U_2 (i := 225) rfl rfl
theorem u_553 : (Jvm.Cond.methodLink "PaceStoreLaw" (27 : Nat) ({ cls := "PaceStore", name := "drop", desc := "(I)I" } : Jvm.MethodName)) ∈ z_U := z_U_2 (i := 226) rfl rfl
theorem u_554 : (Jvm.Cond.instanceMethod ({ cls := "PaceStore", name := "drop", desc := "(I)I" } : Jvm.MethodName)) ∈ z_U := z_U_2 (i := 227) rfl rfl
theorem u_555 : (Jvm.Cond.selects "PaceStore" ({ cls := "PaceStore", name := "drop", desc := "(I)I" } : Jvm.MethodName) ({ cls := "PaceStore", name := "drop", desc := "(I)I" } : Jvm.MethodName)) ∈ z_U := z_U_2 (i := 228) rfl rfl
theorem u_556 : (Jvm.Cond.code ({ cls := "PaceStore", name := "drop", desc := "(I)I" } : Jvm.MethodName) prog_1_method_5_code (3 : Nat) (Option.some Jvm.ClassFile.FieldType.int)) ∈ z_U := z_U_2 (i := 229) rfl rfl
theorem u_557 : (Jvm.Cond.methodLink "PaceStore" (122 : Nat) ({ cls := "PaceStore$Sheet", name := "end", desc := "()V" } : Jvm.MethodName)) ∈ z_U := z_U_2 (i := 230) rfl rfl
theorem u_558 : (Jvm.Cond.instanceMethod ({ cls := "PaceStore$Sheet", name := "end", desc := "()V" } : Jvm.MethodName)) ∈ z_U := z_U_2 (i := 231) rfl rfl
theorem u_559 : (Jvm.Cond.selects "PaceStore$Sheet" ({ cls := "PaceStore$Sheet", name := "end", desc := "()V" } : Jvm.MethodName) ({ cls := "PaceStore$Sheet", name := "end", desc := "()V" } : Jvm.MethodName)) ∈ z_U := z_U_2 (i := 232) rfl rfl
theorem u_560 : (Jvm.Cond.code ({ cls := "PaceStore$Sheet", name := "end", desc := "()V" } : Jvm.MethodName) prog_9_method_4_code (1 : Nat) (Option.none : Option Jvm.ClassFile.FieldType)) ∈ z_U := z_U_2 (i := 233) rfl rfl
theorem u_561 : (Jvm.Cond.methodLink "PaceStoreLaw" (34 : Nat) ({ cls := "PaceStore", name := "feed", desc := "(JI)I" } : Jvm.MethodName)) ∈ z_U := z_U_2 (i := 234) rfl rfl
theorem u_562 : (Jvm.Cond.instanceMethod ({ cls := "PaceStore", name := "feed", desc := "(JI)I" } : Jvm.MethodName)) ∈ z_U := z_U_2 (i := 235) rfl rfl
theorem u_563 : (Jvm.Cond.selects "PaceStore" ({ cls := "PaceStore", name := "feed", desc := "(JI)I" } : Jvm.MethodName) ({ cls := "PaceStore", name := "feed", desc := "(JI)I" } : Jvm.MethodName)) ∈ z_U := z_U_2 (i := 236) rfl rfl
theorem u_564 : (Jvm.Cond.code ({ cls := "PaceStore", name := "feed", desc := "(JI)I" } : Jvm.MethodName) prog_1_method_6_code (4 : Nat) (Option.some Jvm.ClassFile.FieldType.int)) ∈ z_U := z_U_2 (i := 237) rfl rfl
theorem u_565 : (Jvm.Cond.methodLink "PaceStore" (125 : Nat) ({ cls := "PaceStore$Reader", name := "takes", desc := "(JI)Z" } : Jvm.MethodName)) ∈ z_U := z_U_2 (i := 238) rfl rfl
theorem u_566 : (Jvm.Cond.instanceMethod ({ cls := "PaceStore$Reader", name := "takes", desc := "(JI)Z" } : Jvm.MethodName)) ∈ z_U := z_U_2 (i := 239) rfl rfl
theorem u_567 : (Jvm.Cond.selects "PaceStore$Reader" ({ cls := "PaceStore$Reader", name := "takes", desc := "(JI)Z" } : Jvm.MethodName) ({ cls := "PaceStore$Reader", name := "takes", desc := "(JI)Z" } : Jvm.MethodName)) ∈ z_U := z_U_3 (i := 0) rfl rfl
theorem u_568 : (Jvm.Cond.code ({ cls := "PaceStore$Reader", name := "takes", desc := "(JI)Z" } : Jvm.MethodName) prog_7_method_2_code (5 : Nat) (Option.some Jvm.ClassFile.FieldType.boolean)) ∈ z_U := z_U_3 (i := 1) rfl rfl
theorem u_569 : (Jvm.Cond.constant "PaceStore" (132 : Nat) (-1000003 : Int32)) ∈ z_U := z_U_3 (i := 2) rfl rfl
theorem u_570 : (Jvm.Cond.methodLink "PaceStoreLaw" (39 : Nat) ({ cls := "PaceStore", name := "course", desc := "()I" } : Jvm.MethodName)) ∈ z_U := z_U_3 (i := 3) rfl rfl
theorem u_571 : (Jvm.Cond.instanceMethod ({ cls := "PaceStore", name := "course", desc := "()I" } : Jvm.MethodName)) ∈ z_U := z_U_3 (i := 4) rfl rfl
theorem u_572 : (Jvm.Cond.selects "PaceStore" ({ cls := "PaceStore", name := "course", desc := "()I" } : Jvm.MethodName) ({ cls := "PaceStore", name := "course", desc := "()I" } : Jvm.MethodName)) ∈ z_U := z_U_3 (i := 5) rfl rfl
theorem u_573 : (Jvm.Cond.code ({ cls := "PaceStore", name := "course", desc := "()I" } : Jvm.MethodName) prog_1_method_7_code (2 : Nat) (Option.some Jvm.ClassFile.FieldType.int)) ∈ z_U := z_U_3 (i := 6) rfl rfl
theorem u_574 : (Jvm.Cond.methodLink "PaceStore" (133 : Nat) ({ cls := "PaceStore$Reader", name := "readsAll", desc := "()Z" } : Jvm.MethodName)) ∈ z_U := z_U_3 (i := 7) rfl rfl
theorem u_575 : (Jvm.Cond.instanceMethod ({ cls := "PaceStore$Reader", name := "readsAll", desc := "()Z" } : Jvm.MethodName)) ∈ z_U := z_U_3 (i := 8) rfl rfl
theorem u_576 : (Jvm.Cond.selects "PaceStore$Reader" ({ cls := "PaceStore$Reader", name := "readsAll", desc := "()Z" } : Jvm.MethodName) ({ cls := "PaceStore$Reader", name := "readsAll", desc := "()Z" } : Jvm.MethodName)) ∈ z_U := z_U_3 (i := 9) rfl rfl
theorem u_577 : (Jvm.Cond.code ({ cls := "PaceStore$Reader", name := "readsAll", desc := "()Z" } : Jvm.MethodName) prog_7_method_3_code (3 : Nat) (Option.some Jvm.ClassFile.FieldType.boolean)) ∈ z_U := z_U_3 (i := 10) rfl rfl
theorem u_578 : (Jvm.Cond.methodLink "PaceStore$Reader" (26 : Nat) ({ cls := "PaceStore$Course", name := "clear", desc := "()V" } : Jvm.MethodName)) ∈ z_U := z_U_3 (i := 11) rfl rfl
theorem u_579 : (Jvm.Cond.instanceMethod ({ cls := "PaceStore$Course", name := "clear", desc := "()V" } : Jvm.MethodName)) ∈ z_U := z_U_3 (i := 12) rfl rfl
theorem u_580 : (Jvm.Cond.selects "PaceStore$Course" ({ cls := "PaceStore$Course", name := "clear", desc := "()V" } : Jvm.MethodName) ({ cls := "PaceStore$Course", name := "clear", desc := "()V" } : Jvm.MethodName)) ∈ z_U := z_U_3 (i := 13) rfl rfl
theorem u_581 : (Jvm.Cond.code ({ cls := "PaceStore$Course", name := "clear", desc := "()V" } : Jvm.MethodName) prog_4_method_2_code (1 : Nat) (Option.none : Option Jvm.ClassFile.FieldType)) ∈ z_U := z_U_3 (i := 14) rfl rfl
theorem u_582 : (Jvm.Cond.methodLink "PaceStore$Course" (64 : Nat) ({ cls := "java/util/Arrays", name := "fill", desc := "([II)V" } : Jvm.MethodName)) ∈ z_U := z_U_3 (i := 15) rfl rfl
theorem u_583 : (Jvm.Cond.methodLink "PaceStore$Reader" (32 : Nat) ({ cls := "PaceStore$Reader", name := "next", desc := "()V" } : Jvm.MethodName)) ∈ z_U := z_U_3 (i := 16) rfl rfl
theorem u_585 : (Jvm.Cond.instanceMethod ({ cls := "PaceStore$Reader", name := "next", desc := "()V" } : Jvm.MethodName)) ∈ z_U := z_U_3 (i := 18) rfl rfl
theorem u_586 : (Jvm.Cond.code ({ cls := "PaceStore$Reader", name := "next", desc := "()V" } : Jvm.MethodName) prog_7_method_12_code (2 : Nat) (Option.none : Option Jvm.ClassFile.FieldType)) ∈ z_U := z_U_3 (i := 19) rfl rfl
theorem u_587 : (Jvm.Cond.methodLink "PaceStore$Reader" (165 : Nat) ({ cls := "PaceStore$Reader", name := "byteAt", desc := "(I)I" } : Jvm.MethodName)) ∈ z_U := z_U_3 (i := 20) rfl rfl
theorem u_589 : (Jvm.Cond.instanceMethod ({ cls := "PaceStore$Reader", name := "byteAt", desc := "(I)I" } : Jvm.MethodName)) ∈ z_U := z_U_3 (i := 22) rfl rfl
theorem u_590 : (Jvm.Cond.code ({ cls := "PaceStore$Reader", name := "byteAt", desc := "(I)I" } : Jvm.MethodName) prog_7_method_15_code (2 : Nat) (Option.some Jvm.ClassFile.FieldType.int)) ∈ z_U := z_U_3 (i := 23) rfl rfl
theorem u_591 : (Jvm.Cond.methodLink "PaceStore$Reader" (173 : Nat) ({ cls := "PaceStore$Reader", name := "isBlank", desc := "(I)Z" } : Jvm.MethodName)) ∈ z_U := z_U_3 (i := 24) rfl rfl
theorem u_592 : (Jvm.Cond.static ({ cls := "PaceStore$Reader", name := "isBlank", desc := "(I)Z" } : Jvm.MethodName)) ∈ z_U := z_U_3 (i := 25) rfl rfl
theorem u_593 : (Jvm.Cond.code ({ cls := "PaceStore$Reader", name := "isBlank", desc := "(I)Z" } : Jvm.MethodName) prog_7_method_16_code (1 : Nat) (Option.some Jvm.ClassFile.FieldType.boolean)) ∈ z_U := z_U_3 (i := 26) rfl rfl
theorem u_594 : (Jvm.Cond.methodLink "PaceStore$Reader" (176 : Nat) ({ cls := "PaceStore$Reader", name := "isLetter", desc := "(I)Z" } : Jvm.MethodName)) ∈ z_U := z_U_3 (i := 27) rfl rfl
theorem u_595 : (Jvm.Cond.static ({ cls := "PaceStore$Reader", name := "isLetter", desc := "(I)Z" } : Jvm.MethodName)) ∈ z_U := z_U_3 (i := 28) rfl rfl
theorem u_596 : (Jvm.Cond.code ({ cls := "PaceStore$Reader", name := "isLetter", desc := "(I)Z" } : Jvm.MethodName) prog_7_method_17_code (1 : Nat) (Option.some Jvm.ClassFile.FieldType.boolean)) ∈ z_U := z_U_3 (i := 29) rfl rfl
theorem u_597 : (Jvm.Cond.methodLink "PaceStore$Reader" (179 : Nat) ({ cls := "PaceStore$Reader", name := "takeName", desc := "()V" } : Jvm.MethodName)) ∈ z_U := z_U_3 (i := 30) rfl rfl
theorem u_599 : (Jvm.Cond.instanceMethod ({ cls := "PaceStore$Reader", name := "takeName", desc := "()V" } : Jvm.MethodName)) ∈ z_U := z_U_3 (i := 32) rfl rfl
theorem u_600 : (Jvm.Cond.code ({ cls := "PaceStore$Reader", name := "takeName", desc := "()V" } : Jvm.MethodName) prog_7_method_13_code (1 : Nat) (Option.none : Option Jvm.ClassFile.FieldType)) ∈ z_U := z_U_3 (i := 33) rfl rfl
theorem u_601 : (Jvm.Cond.methodLink "PaceStore$Reader" (182 : Nat) ({ cls := "PaceStore$Reader", name := "isFigure", desc := "(I)Z" } : Jvm.MethodName)) ∈ z_U := z_U_3 (i := 34) rfl rfl
theorem u_602 : (Jvm.Cond.static ({ cls := "PaceStore$Reader", name := "isFigure", desc := "(I)Z" } : Jvm.MethodName)) ∈ z_U := z_U_3 (i := 35) rfl rfl
theorem u_603 : (Jvm.Cond.code ({ cls := "PaceStore$Reader", name := "isFigure", desc := "(I)Z" } : Jvm.MethodName) prog_7_method_18_code (1 : Nat) (Option.some Jvm.ClassFile.FieldType.boolean)) ∈ z_U := z_U_3 (i := 36) rfl rfl
theorem u_604 : (Jvm.Cond.methodLink "PaceStore$Reader" (185 : Nat) ({ cls := "PaceStore$Reader", name := "takeNumber", desc := "(Z)V" } : Jvm.MethodName)) ∈ z_U := z_U_3 (i := 37) rfl rfl
theorem u_606 : (Jvm.Cond.instanceMethod ({ cls := "PaceStore$Reader", name := "takeNumber", desc := "(Z)V" } : Jvm.MethodName)) ∈ z_U := z_U_3 (i := 39) rfl rfl
theorem u_607 : (Jvm.Cond.code ({ cls := "PaceStore$Reader", name := "takeNumber", desc := "(Z)V" } : Jvm.MethodName) prog_7_method_14_code (4 : Nat) (Option.none : Option Jvm.ClassFile.FieldType)) ∈ z_U := z_U_3 (i := 40) rfl rfl
theorem u_609 : (Jvm.Cond.methodLink "PaceStore$Reader" (35 : Nat) ({ cls := "PaceStore$Reader", name := "readsMile", desc := "()Z" } : Jvm.MethodName)) ∈ z_U := z_U_3 (i := 42) rfl rfl
theorem u_611 : (Jvm.Cond.instanceMethod ({ cls := "PaceStore$Reader", name := "readsMile", desc := "()Z" } : Jvm.MethodName)) ∈ z_U := z_U_3 (i := 44) rfl rfl
theorem u_612 : (Jvm.Cond.code ({ cls := "PaceStore$Reader", name := "readsMile", desc := "()Z" } : Jvm.MethodName) prog_7_method_4_code (2 : Nat) (Option.some Jvm.ClassFile.FieldType.boolean)) ∈ z_U := z_U_3 (i := 45) rfl rfl
theorem u_614 : (Jvm.Cond.methodLink "PaceStore$Reader" (41 : Nat) ({ cls := "PaceStore$Reader", name := "isWord", desc := "(Ljava/lang/String;)Z" } : Jvm.MethodName)) ∈ z_U := z_U_3 (i := 47) rfl rfl
theorem u_616 : (Jvm.Cond.instanceMethod ({ cls := "PaceStore$Reader", name := "isWord", desc := "(Ljava/lang/String;)Z" } : Jvm.MethodName)) ∈ z_U := z_U_3 (i := 49) rfl rfl
theorem u_617 : (Jvm.Cond.code ({ cls := "PaceStore$Reader", name := "isWord", desc := "(Ljava/lang/String;)Z" } : Jvm.MethodName) prog_7_method_11_code (3 : Nat) (Option.some Jvm.ClassFile.FieldType.boolean)) ∈ z_U := z_U_3 (i := 50) rfl rfl
theorem u_618 : (Jvm.Cond.methodLink "PaceStore$Reader" (160 : Nat) ({ cls := "java/lang/String", name := "length", desc := "()I" } : Jvm.MethodName)) ∈ z_U := z_U_3 (i := 51) rfl rfl
theorem u_621 : (Jvm.Cond.code ({ cls := "java/lang/String", name := "length", desc := "()I" } : Jvm.MethodName) prog_15_method_54_code (1 : Nat) (Option.some Jvm.ClassFile.FieldType.int)) ∈ z_U := z_U_3 (i := 54) rfl rfl
theorem u_628 : (Jvm.Cond.methodLink "PaceStore$Reader" (169 : Nat) ({ cls := "java/lang/String", name := "charAt", desc := "(I)C" } : Jvm.MethodName)) ∈ z_U := z_U_3 (i := 61) rfl rfl
theorem u_631 : (Jvm.Cond.code ({ cls := "java/lang/String", name := "charAt", desc := "(I)C" } : Jvm.MethodName) prog_15_method_56_code (2 : Nat) (Option.some Jvm.ClassFile.FieldType.char)) ∈ z_U := z_U_3 (i := 64) rfl rfl
theorem u_666 : (Jvm.Cond.methodLink "PaceStore$Reader" (67 : Nat) ({ cls := "PaceStore$Reader", name := "fails", desc := "(I)Z" } : Jvm.MethodName)) ∈ z_U := z_U_3 (i := 99) rfl rfl
theorem u_668 : (Jvm.Cond.instanceMethod ({ cls := "PaceStore$Reader", name := "fails", desc := "(I)Z" } : Jvm.MethodName)) ∈ z_U := z_U_3 (i := 101) rfl rfl
theorem u_669 : (Jvm.Cond.code ({ cls := "PaceStore$Reader", name := "fails", desc := "(I)Z" } : Jvm.MethodName) prog_7_method_10_code (2 : Nat) (Option.some Jvm.ClassFile.FieldType.boolean)) ∈ z_U := z_U_3 (i := 102) rfl rfl
theorem u_670 : (Jvm.Cond.methodLink "PaceStore$Reader" (77 : Nat) ({ cls := "PaceStore$Reader", name := "readsNumber", desc := "(II)Z" } : Jvm.MethodName)) ∈ z_U := z_U_3 (i := 103) rfl rfl
theorem u_672 : (Jvm.Cond.instanceMethod ({ cls := "PaceStore$Reader", name := "readsNumber", desc := "(II)Z" } : Jvm.MethodName)) ∈ z_U := z_U_3 (i := 105) rfl rfl
theorem u_673 : (Jvm.Cond.code ({ cls := "PaceStore$Reader", name := "readsNumber", desc := "(II)Z" } : Jvm.MethodName) prog_7_method_8_code (3 : Nat) (Option.some Jvm.ClassFile.FieldType.boolean)) ∈ z_U := z_U_3 (i := 106) rfl rfl
theorem u_674 : (Jvm.Cond.methodLink "PaceStore$Reader" (94 : Nat) ({ cls := "PaceStore$Reader", name := "readsSemicolon", desc := "()Z" } : Jvm.MethodName)) ∈ z_U := z_U_3 (i := 107) rfl rfl
theorem u_676 : (Jvm.Cond.instanceMethod ({ cls := "PaceStore$Reader", name := "readsSemicolon", desc := "()Z" } : Jvm.MethodName)) ∈ z_U := z_U_3 (i := 109) rfl rfl
theorem u_677 : (Jvm.Cond.code ({ cls := "PaceStore$Reader", name := "readsSemicolon", desc := "()Z" } : Jvm.MethodName) prog_7_method_9_code (1 : Nat) (Option.some Jvm.ClassFile.FieldType.boolean)) ∈ z_U := z_U_3 (i := 110) rfl rfl
theorem u_678 : (Jvm.Cond.methodLink "PaceStore$Reader" (45 : Nat) ({ cls := "PaceStore$Reader", name := "readsRunner", desc := "()Z" } : Jvm.MethodName)) ∈ z_U := z_U_3 (i := 111) rfl rfl
theorem u_680 : (Jvm.Cond.instanceMethod ({ cls := "PaceStore$Reader", name := "readsRunner", desc := "()Z" } : Jvm.MethodName)) ∈ z_U := z_U_3 (i := 113) rfl rfl
theorem u_681 : (Jvm.Cond.code ({ cls := "PaceStore$Reader", name := "readsRunner", desc := "()Z" } : Jvm.MethodName) prog_7_method_5_code (2 : Nat) (Option.some Jvm.ClassFile.FieldType.boolean)) ∈ z_U := z_U_3 (i := 114) rfl rfl
theorem u_684 : (Jvm.Cond.methodLink "PaceStore$Reader" (55 : Nat) ({ cls := "PaceStore$Reader", name := "readsRule", desc := "(I)Z" } : Jvm.MethodName)) ∈ z_U := z_U_3 (i := 117) rfl rfl
theorem u_686 : (Jvm.Cond.instanceMethod ({ cls := "PaceStore$Reader", name := "readsRule", desc := "(I)Z" } : Jvm.MethodName)) ∈ z_U := z_U_3 (i := 119) rfl rfl
theorem u_687 : (Jvm.Cond.code ({ cls := "PaceStore$Reader", name := "readsRule", desc := "(I)Z" } : Jvm.MethodName) prog_7_method_6_code (5 : Nat) (Option.some Jvm.ClassFile.FieldType.boolean)) ∈ z_U := z_U_3 (i := 120) rfl rfl
theorem u_688 : (Jvm.Cond.methodLink "PaceStore$Reader" (106 : Nat) ({ cls := "PaceStore$Course", name := "hasRunner", desc := "(I)Z" } : Jvm.MethodName)) ∈ z_U := z_U_3 (i := 121) rfl rfl
theorem u_689 : (Jvm.Cond.instanceMethod ({ cls := "PaceStore$Course", name := "hasRunner", desc := "(I)Z" } : Jvm.MethodName)) ∈ z_U := z_U_3 (i := 122) rfl rfl
theorem u_690 : (Jvm.Cond.selects "PaceStore$Course" ({ cls := "PaceStore$Course", name := "hasRunner", desc := "(I)Z" } : Jvm.MethodName) ({ cls := "PaceStore$Course", name := "hasRunner", desc := "(I)Z" } : Jvm.MethodName)) ∈ z_U := z_U_3 (i := 123) rfl rfl
theorem u_691 : (Jvm.Cond.code ({ cls := "PaceStore$Course", name := "hasRunner", desc := "(I)Z" } : Jvm.MethodName) prog_4_method_5_code (2 : Nat) (Option.some Jvm.ClassFile.FieldType.boolean)) ∈ z_U := z_U_3 (i := 124) rfl rfl
theorem u_700 : (Jvm.Cond.methodLink "PaceStore$Reader" (61 : Nat) ({ cls := "PaceStore$Reader", name := "readsRabbit", desc := "()Z" } : Jvm.MethodName)) ∈ z_U := z_U_3 (i := 133) rfl rfl
theorem u_702 : (Jvm.Cond.instanceMethod ({ cls := "PaceStore$Reader", name := "readsRabbit", desc := "()Z" } : Jvm.MethodName)) ∈ z_U := z_U_3 (i := 135) rfl rfl
theorem u_703 : (Jvm.Cond.code ({ cls := "PaceStore$Reader", name := "readsRabbit", desc := "()Z" } : Jvm.MethodName) prog_7_method_7_code (2 : Nat) (Option.some Jvm.ClassFile.FieldType.boolean)) ∈ z_U := z_U_3 (i := 136) rfl rfl
theorem u_704 : (Jvm.Cond.constant "PaceStore" (136 : Nat) (-1000100 : Int32)) ∈ z_U := z_U_3 (i := 137) rfl rfl
theorem u_705 : (Jvm.Cond.methodLink "PaceStore" (143 : Nat) ({ cls := "PaceStore$Course", name := "become", desc := "(LPaceStore$Course;)V" } : Jvm.MethodName)) ∈ z_U := z_U_3 (i := 138) rfl rfl
theorem u_706 : (Jvm.Cond.instanceMethod ({ cls := "PaceStore$Course", name := "become", desc := "(LPaceStore$Course;)V" } : Jvm.MethodName)) ∈ z_U := z_U_3 (i := 139) rfl rfl
theorem u_707 : (Jvm.Cond.selects "PaceStore$Course" ({ cls := "PaceStore$Course", name := "become", desc := "(LPaceStore$Course;)V" } : Jvm.MethodName) ({ cls := "PaceStore$Course", name := "become", desc := "(LPaceStore$Course;)V" } : Jvm.MethodName)) ∈ z_U := z_U_3 (i := 140) rfl rfl
theorem u_708 : (Jvm.Cond.code ({ cls := "PaceStore$Course", name := "become", desc := "(LPaceStore$Course;)V" } : Jvm.MethodName) prog_4_method_3_code (2 : Nat) (Option.none : Option Jvm.ClassFile.FieldType)) ∈ z_U := z_U_3 (i := 141) rfl rfl
theorem u_709 : (Jvm.Cond.methodLink "PaceStore$Course" (74 : Nat) ({ cls := "java/lang/System", name := "arraycopy", desc := "(Ljava/lang/Object;ILjava/lang/Object;II)V" } : Jvm.MethodName)) ∈ z_U := z_U_3 (i := 142) rfl rfl
theorem u_710 : (Jvm.Cond.methodLink "PaceStoreLaw" (44 : Nat) ({ cls := "PaceStore", name := "fault", desc := "()I" } : Jvm.MethodName)) ∈ z_U := z_U_3 (i := 143) rfl rfl
theorem u_711 : (Jvm.Cond.instanceMethod ({ cls := "PaceStore", name := "fault", desc := "()I" } : Jvm.MethodName)) ∈ z_U := z_U_3 (i := 144) rfl rfl
theorem u_712 : (Jvm.Cond.selects "PaceStore" ({ cls := "PaceStore", name := "fault", desc := "()I" } : Jvm.MethodName) ({ cls := "PaceStore", name := "fault", desc := "()I" } : Jvm.MethodName)) ∈ z_U := z_U_3 (i := 145) rfl rfl
theorem u_713 : (Jvm.Cond.code ({ cls := "PaceStore", name := "fault", desc := "()I" } : Jvm.MethodName) prog_1_method_8_code (1 : Nat) (Option.some Jvm.ClassFile.FieldType.int)) ∈ z_U := z_U_3 (i := 146) rfl rfl
theorem u_714 : (Jvm.Cond.methodLink "PaceStoreLaw" (48 : Nat) ({ cls := "PaceStore", name := "need", desc := "(III)I" } : Jvm.MethodName)) ∈ z_U := z_U_3 (i := 147) rfl rfl
theorem u_715 : (Jvm.Cond.instanceMethod ({ cls := "PaceStore", name := "need", desc := "(III)I" } : Jvm.MethodName)) ∈ z_U := z_U_3 (i := 148) rfl rfl
theorem u_716 : (Jvm.Cond.selects "PaceStore" ({ cls := "PaceStore", name := "need", desc := "(III)I" } : Jvm.MethodName) ({ cls := "PaceStore", name := "need", desc := "(III)I" } : Jvm.MethodName)) ∈ z_U := z_U_3 (i := 149) rfl rfl
theorem u_717 : (Jvm.Cond.code ({ cls := "PaceStore", name := "need", desc := "(III)I" } : Jvm.MethodName) prog_1_method_9_code (4 : Nat) (Option.some Jvm.ClassFile.FieldType.int)) ∈ z_U := z_U_3 (i := 150) rfl rfl
theorem u_718 : (Jvm.Cond.methodLink "PaceStore" (157 : Nat) ({ cls := "PaceStore$Course", name := "hasMile", desc := "(I)Z" } : Jvm.MethodName)) ∈ z_U := z_U_3 (i := 151) rfl rfl
theorem u_719 : (Jvm.Cond.instanceMethod ({ cls := "PaceStore$Course", name := "hasMile", desc := "(I)Z" } : Jvm.MethodName)) ∈ z_U := z_U_3 (i := 152) rfl rfl
theorem u_720 : (Jvm.Cond.selects "PaceStore$Course" ({ cls := "PaceStore$Course", name := "hasMile", desc := "(I)Z" } : Jvm.MethodName) ({ cls := "PaceStore$Course", name := "hasMile", desc := "(I)Z" } : Jvm.MethodName)) ∈ z_U := z_U_3 (i := 153) rfl rfl
theorem u_721 : (Jvm.Cond.code ({ cls := "PaceStore$Course", name := "hasMile", desc := "(I)Z" } : Jvm.MethodName) prog_4_method_4_code (2 : Nat) (Option.some Jvm.ClassFile.FieldType.boolean)) ∈ z_U := z_U_3 (i := 154) rfl rfl
theorem u_722 : (Jvm.Cond.methodLink "PaceStore" (161 : Nat) ({ cls := "PaceStore", name := "isPace", desc := "(I)Z" } : Jvm.MethodName)) ∈ z_U := z_U_3 (i := 155) rfl rfl
theorem u_723 : (Jvm.Cond.static ({ cls := "PaceStore", name := "isPace", desc := "(I)Z" } : Jvm.MethodName)) ∈ z_U := z_U_3 (i := 156) rfl rfl
theorem u_724 : (Jvm.Cond.code ({ cls := "PaceStore", name := "isPace", desc := "(I)Z" } : Jvm.MethodName) prog_1_method_42_code (1 : Nat) (Option.some Jvm.ClassFile.FieldType.boolean)) ∈ z_U := z_U_3 (i := 157) rfl rfl
theorem u_725 : (Jvm.Cond.methodLink "PaceStore" (164 : Nat) ({ cls := "PaceStore$Course", name := "needOf", desc := "(IIZI)I" } : Jvm.MethodName)) ∈ z_U := z_U_3 (i := 158) rfl rfl
theorem u_726 : (Jvm.Cond.instanceMethod ({ cls := "PaceStore$Course", name := "needOf", desc := "(IIZI)I" } : Jvm.MethodName)) ∈ z_U := z_U_3 (i := 159) rfl rfl
theorem u_727 : (Jvm.Cond.selects "PaceStore$Course" ({ cls := "PaceStore$Course", name := "needOf", desc := "(IIZI)I" } : Jvm.MethodName) ({ cls := "PaceStore$Course", name := "needOf", desc := "(IIZI)I" } : Jvm.MethodName)) ∈ z_U := z_U_3 (i := 160) rfl rfl
theorem u_728 : (Jvm.Cond.code ({ cls := "PaceStore$Course", name := "needOf", desc := "(IIZI)I" } : Jvm.MethodName) prog_4_method_9_code (6 : Nat) (Option.some Jvm.ClassFile.FieldType.int)) ∈ z_U := z_U_3 (i := 161) rfl rfl
theorem u_729 : (Jvm.Cond.methodLink "PaceStoreLaw" (52 : Nat) ({ cls := "PaceStore", name := "race", desc := "(III)I" } : Jvm.MethodName)) ∈ z_U := z_U_3 (i := 162) rfl rfl
theorem u_730 : (Jvm.Cond.instanceMethod ({ cls := "PaceStore", name := "race", desc := "(III)I" } : Jvm.MethodName)) ∈ z_U := z_U_3 (i := 163) rfl rfl
theorem u_731 : (Jvm.Cond.selects "PaceStore" ({ cls := "PaceStore", name := "race", desc := "(III)I" } : Jvm.MethodName) ({ cls := "PaceStore", name := "race", desc := "(III)I" } : Jvm.MethodName)) ∈ z_U := z_U_3 (i := 164) rfl rfl
theorem u_732 : (Jvm.Cond.code ({ cls := "PaceStore", name := "race", desc := "(III)I" } : Jvm.MethodName) prog_1_method_10_code (5 : Nat) (Option.some Jvm.ClassFile.FieldType.int)) ∈ z_U := z_U_3 (i := 165) rfl rfl
theorem u_733 : (Jvm.Cond.constant "PaceStore" (168 : Nat) (999999 : Int32)) ∈ z_U := z_U_3 (i := 166) rfl rfl
theorem u_734 : (Jvm.Cond.constant "PaceStore" (170 : Nat) (-1000002 : Int32)) ∈ z_U := z_U_3 (i := 167) rfl rfl
theorem u_735 : (Jvm.Cond.methodLink "PaceStore" (174 : Nat) ({ cls := "PaceStore", name := "itemsWithin", desc := "(LPaceStore$Sheet;IIII)Z" } : Jvm.MethodName)) ∈ z_U := z_U_3 (i := 168) rfl rfl
theorem u_736 : (Jvm.Cond.static ({ cls := "PaceStore", name := "itemsWithin", desc := "(LPaceStore$Sheet;IIII)Z" } : Jvm.MethodName)) ∈ z_U := z_U_3 (i := 169) rfl rfl
theorem u_737 : (Jvm.Cond.code ({ cls := "PaceStore", name := "itemsWithin", desc := "(LPaceStore$Sheet;IIII)Z" } : Jvm.MethodName) prog_1_method_40_code (6 : Nat) (Option.some Jvm.ClassFile.FieldType.boolean)) ∈ z_U := z_U_3 (i := 170) rfl rfl
theorem u_738 : (Jvm.Cond.methodLink "PaceStore" (287 : Nat) ({ cls := "PaceStore$Sheet", name := "at", desc := "(I)I" } : Jvm.MethodName)) ∈ z_U := z_U_3 (i := 171) rfl rfl
theorem u_739 : (Jvm.Cond.instanceMethod ({ cls := "PaceStore$Sheet", name := "at", desc := "(I)I" } : Jvm.MethodName)) ∈ z_U := z_U_3 (i := 172) rfl rfl
theorem u_740 : (Jvm.Cond.selects "PaceStore$Sheet" ({ cls := "PaceStore$Sheet", name := "at", desc := "(I)I" } : Jvm.MethodName) ({ cls := "PaceStore$Sheet", name := "at", desc := "(I)I" } : Jvm.MethodName)) ∈ z_U := z_U_3 (i := 173) rfl rfl
theorem u_741 : (Jvm.Cond.code ({ cls := "PaceStore$Sheet", name := "at", desc := "(I)I" } : Jvm.MethodName) prog_9_method_6_code (2 : Nat) (Option.some Jvm.ClassFile.FieldType.int)) ∈ z_U := z_U_3 (i := 174) rfl rfl
theorem u_742 : (Jvm.Cond.methodLink "PaceStore" (178 : Nat) ({ cls := "PaceStore$Field", name := "runAll", desc := "(LPaceStore$Course;LPaceStore$Sheet;IILPaceStore$Results;)V" } : Jvm.MethodName)) ∈ z_U := z_U_3 (i := 175) rfl rfl
theorem u_743 : (Jvm.Cond.instanceMethod ({ cls := "PaceStore$Field", name := "runAll", desc := "(LPaceStore$Course;LPaceStore$Sheet;IILPaceStore$Results;)V" } : Jvm.MethodName)) ∈ z_U := z_U_3 (i := 176) rfl rfl
theorem u_744 : (Jvm.Cond.selects "PaceStore$Field" ({ cls := "PaceStore$Field", name := "runAll", desc := "(LPaceStore$Course;LPaceStore$Sheet;IILPaceStore$Results;)V" } : Jvm.MethodName) ({ cls := "PaceStore$Field", name := "runAll", desc := "(LPaceStore$Course;LPaceStore$Sheet;IILPaceStore$Results;)V" } : Jvm.MethodName)) ∈ z_U := z_U_3 (i := 177) rfl rfl
theorem u_745 : (Jvm.Cond.code ({ cls := "PaceStore$Field", name := "runAll", desc := "(LPaceStore$Course;LPaceStore$Sheet;IILPaceStore$Results;)V" } : Jvm.MethodName) prog_5_method_2_code (8 : Nat) (Option.none : Option Jvm.ClassFile.FieldType)) ∈ z_U := z_U_3 (i := 178) rfl rfl
theorem u_746 : (Jvm.Cond.methodLink "PaceStore$Field" (31 : Nat) ({ cls := "PaceStore$Sheet", name := "at", desc := "(I)I" } : Jvm.MethodName)) ∈ z_U := z_U_3 (i := 179) rfl rfl
theorem u_747 : (Jvm.Cond.methodLink "PaceStore$Field" (37 : Nat) ({ cls := "PaceStore$Body", name := "start", desc := "(LPaceStore$Course;II)V" } : Jvm.MethodName)) ∈ z_U := z_U_3 (i := 180) rfl rfl
theorem u_748 : (Jvm.Cond.instanceMethod ({ cls := "PaceStore$Body", name := "start", desc := "(LPaceStore$Course;II)V" } : Jvm.MethodName)) ∈ z_U := z_U_3 (i := 181) rfl rfl
theorem u_749 : (Jvm.Cond.selects "PaceStore$Body" ({ cls := "PaceStore$Body", name := "start", desc := "(LPaceStore$Course;II)V" } : Jvm.MethodName) ({ cls := "PaceStore$Body", name := "start", desc := "(LPaceStore$Course;II)V" } : Jvm.MethodName)) ∈ z_U := z_U_3 (i := 182) rfl rfl
theorem u_750 : (Jvm.Cond.code ({ cls := "PaceStore$Body", name := "start", desc := "(LPaceStore$Course;II)V" } : Jvm.MethodName) prog_3_method_2_code (4 : Nat) (Option.none : Option Jvm.ClassFile.FieldType)) ∈ z_U := z_U_3 (i := 183) rfl rfl
theorem u_751 : (Jvm.Cond.methodLink "PaceStore$Field" (44 : Nat) ({ cls := "PaceStore$Field", name := "feel", desc := "(LPaceStore$Course;I)V" } : Jvm.MethodName)) ∈ z_U := z_U_3 (i := 184) rfl rfl
theorem u_753 : (Jvm.Cond.instanceMethod ({ cls := "PaceStore$Field", name := "feel", desc := "(LPaceStore$Course;I)V" } : Jvm.MethodName)) ∈ z_U := z_U_3 (i := 186) rfl rfl
theorem u_754 : (Jvm.Cond.code ({ cls := "PaceStore$Field", name := "feel", desc := "(LPaceStore$Course;I)V" } : Jvm.MethodName) prog_5_method_3_code (5 : Nat) (Option.none : Option Jvm.ClassFile.FieldType)) ∈ z_U := z_U_3 (i := 187) rfl rfl
theorem u_755 : (Jvm.Cond.methodLink "PaceStore$Field" (61 : Nat) ({ cls := "PaceStore$Field", name := "leastTime", desc := "()I" } : Jvm.MethodName)) ∈ z_U := z_U_3 (i := 188) rfl rfl
theorem u_757 : (Jvm.Cond.instanceMethod ({ cls := "PaceStore$Field", name := "leastTime", desc := "()I" } : Jvm.MethodName)) ∈ z_U := z_U_3 (i := 190) rfl rfl
theorem u_758 : (Jvm.Cond.code ({ cls := "PaceStore$Field", name := "leastTime", desc := "()I" } : Jvm.MethodName) prog_5_method_4_code (3 : Nat) (Option.some Jvm.ClassFile.FieldType.int)) ∈ z_U := z_U_3 (i := 191) rfl rfl
theorem u_759 : (Jvm.Cond.constant "PaceStore$Field" (76 : Nat) (1000000000 : Int32)) ∈ z_U := z_U_3 (i := 192) rfl rfl
theorem u_760 : (Jvm.Cond.methodLink "PaceStore$Field" (80 : Nat) ({ cls := "java/lang/Math", name := "min", desc := "(II)I" } : Jvm.MethodName)) ∈ z_U := z_U_3 (i := 193) rfl rfl
theorem u_761 : (Jvm.Cond.static ({ cls := "java/lang/Math", name := "min", desc := "(II)I" } : Jvm.MethodName)) ∈ z_U := z_U_3 (i := 194) rfl rfl
theorem u_762 : (Jvm.Cond.code ({ cls := "java/lang/Math", name := "min", desc := "(II)I" } : Jvm.MethodName) prog_14_method_69_code (2 : Nat) (Option.some Jvm.ClassFile.FieldType.int)) ∈ z_U := z_U_3 (i := 195) rfl rfl
theorem u_763 : (Jvm.Cond.methodLink "PaceStore$Field" (65 : Nat) ({ cls := "PaceStore$Field", name := "stepByRules", desc := "(LPaceStore$Course;III)I" } : Jvm.MethodName)) ∈ z_U := z_U_3 (i := 196) rfl rfl
theorem u_765 : (Jvm.Cond.instanceMethod ({ cls := "PaceStore$Field", name := "stepByRules", desc := "(LPaceStore$Course;III)I" } : Jvm.MethodName)) ∈ z_U := z_U_3 (i := 198) rfl rfl
theorem u_766 : (Jvm.Cond.code ({ cls := "PaceStore$Field", name := "stepByRules", desc := "(LPaceStore$Course;III)I" } : Jvm.MethodName) prog_5_method_5_code (10 : Nat) (Option.some Jvm.ClassFile.FieldType.int)) ∈ z_U := z_U_3 (i := 199) rfl rfl
theorem u_767 : (Jvm.Cond.methodLink "PaceStore$Field" (69 : Nat) ({ cls := "PaceStore$Body", name := "changePace", desc := "(I)V" } : Jvm.MethodName)) ∈ z_U := z_U_3 (i := 200) rfl rfl
theorem u_768 : (Jvm.Cond.instanceMethod ({ cls := "PaceStore$Body", name := "changePace", desc := "(I)V" } : Jvm.MethodName)) ∈ z_U := z_U_3 (i := 201) rfl rfl
theorem u_769 : (Jvm.Cond.selects "PaceStore$Body" ({ cls := "PaceStore$Body", name := "changePace", desc := "(I)V" } : Jvm.MethodName) ({ cls := "PaceStore$Body", name := "changePace", desc := "(I)V" } : Jvm.MethodName)) ∈ z_U := z_U_3 (i := 202) rfl rfl
theorem u_770 : (Jvm.Cond.code ({ cls := "PaceStore$Body", name := "changePace", desc := "(I)V" } : Jvm.MethodName) prog_3_method_3_code (2 : Nat) (Option.none : Option Jvm.ClassFile.FieldType)) ∈ z_U := z_U_3 (i := 203) rfl rfl
theorem u_772 : (Jvm.Cond.static ({ cls := "PaceStore", name := "asPace", desc := "(I)I" } : Jvm.MethodName)) ∈ z_U := z_U_3 (i := 205) rfl rfl
theorem u_773 : (Jvm.Cond.code ({ cls := "PaceStore", name := "asPace", desc := "(I)I" } : Jvm.MethodName) prog_1_method_43_code (1 : Nat) (Option.some Jvm.ClassFile.FieldType.int)) ∈ z_U := z_U_3 (i := 206) rfl rfl
theorem u_774 : (Jvm.Cond.methodLink "PaceStore" (216 : Nat) ({ cls := "java/lang/Math", name := "min", desc := "(II)I" } : Jvm.MethodName)) ∈ z_U := z_U_3 (i := 207) rfl rfl
theorem u_775 : (Jvm.Cond.methodLink "PaceStore$Field" (73 : Nat) ({ cls := "PaceStore$Field", name := "stepBySlip", desc := "()I" } : Jvm.MethodName)) ∈ z_U := z_U_3 (i := 208) rfl rfl
theorem u_777 : (Jvm.Cond.instanceMethod ({ cls := "PaceStore$Field", name := "stepBySlip", desc := "()I" } : Jvm.MethodName)) ∈ z_U := z_U_3 (i := 210) rfl rfl
theorem u_778 : (Jvm.Cond.code ({ cls := "PaceStore$Field", name := "stepBySlip", desc := "()I" } : Jvm.MethodName) prog_5_method_6_code (3 : Nat) (Option.some Jvm.ClassFile.FieldType.int)) ∈ z_U := z_U_3 (i := 211) rfl rfl
theorem u_779 : (Jvm.Cond.constantLong "PaceStore$Field" (105 : Nat) (16807 : Int64)) ∈ z_U := z_U_3 (i := 212) rfl rfl
theorem u_780 : (Jvm.Cond.constantLong "PaceStore$Field" (107 : Nat) (2147483647 : Int64)) ∈ z_U := z_U_3 (i := 213) rfl rfl
theorem u_781 : (Jvm.Cond.constantLong "PaceStore$Field" (109 : Nat) (7 : Int64)) ∈ z_U := z_U_3 (i := 214) rfl rfl
theorem u_782 : (Jvm.Cond.methodLink "PaceStore$Field" (48 : Nat) ({ cls := "PaceStore$Field", name := "runMile", desc := "(LPaceStore$Course;I)V" } : Jvm.MethodName)) ∈ z_U := z_U_3 (i := 215) rfl rfl
theorem u_783 : (Jvm.Cond.instanceMethod ({ cls := "PaceStore$Field", name := "runMile", desc := "(LPaceStore$Course;I)V" } : Jvm.MethodName)) ∈ z_U := z_U_3 (i := 216) rfl rfl
theorem u_784 : (Jvm.Cond.selects "PaceStore$Field" ({ cls := "PaceStore$Field", name := "runMile", desc := "(LPaceStore$Course;I)V" } : Jvm.MethodName) ({ cls := "PaceStore$Field", name := "runMile", desc := "(LPaceStore$Course;I)V" } : Jvm.MethodName)) ∈ z_U := z_U_3 (i := 217) rfl rfl
theorem u_785 : (Jvm.Cond.code ({ cls := "PaceStore$Field", name := "runMile", desc := "(LPaceStore$Course;I)V" } : Jvm.MethodName) prog_5_method_7_code (4 : Nat) (Option.none : Option Jvm.ClassFile.FieldType)) ∈ z_U := z_U_3 (i := 218) rfl rfl
theorem u_786 : (Jvm.Cond.methodLink "PaceStore$Field" (111 : Nat) ({ cls := "PaceStore$Field", name := "isBehindSomeone", desc := "(I)Z" } : Jvm.MethodName)) ∈ z_U := z_U_3 (i := 219) rfl rfl
theorem u_788 : (Jvm.Cond.instanceMethod ({ cls := "PaceStore$Field", name := "isBehindSomeone", desc := "(I)Z" } : Jvm.MethodName)) ∈ z_U := z_U_3 (i := 221) rfl rfl
theorem u_789 : (Jvm.Cond.code ({ cls := "PaceStore$Field", name := "isBehindSomeone", desc := "(I)Z" } : Jvm.MethodName) prog_5_method_8_code (3 : Nat) (Option.some Jvm.ClassFile.FieldType.boolean)) ∈ z_U := z_U_3 (i := 222) rfl rfl
theorem u_790 : (Jvm.Cond.methodLink "PaceStore$Field" (122 : Nat) ({ cls := "PaceStore$Body", name := "isShelteredBy", desc := "(LPaceStore$Body;)Z" } : Jvm.MethodName)) ∈ z_U := z_U_3 (i := 223) rfl rfl
theorem u_791 : (Jvm.Cond.instanceMethod ({ cls := "PaceStore$Body", name := "isShelteredBy", desc := "(LPaceStore$Body;)Z" } : Jvm.MethodName)) ∈ z_U := z_U_3 (i := 224) rfl rfl
theorem u_792 : (Jvm.Cond.selects "PaceStore$Body" ({ cls := "PaceStore$Body", name := "isShelteredBy", desc := "(LPaceStore$Body;)Z" } : Jvm.MethodName) ({ cls := "PaceStore$Body", name := "isShelteredBy", desc := "(LPaceStore$Body;)Z" } : Jvm.MethodName)) ∈ z_U := z_U_3 (i := 225) rfl rfl
theorem u_793 : (Jvm.Cond.code ({ cls := "PaceStore$Body", name := "isShelteredBy", desc := "(LPaceStore$Body;)Z" } : Jvm.MethodName) prog_3_method_4_code (3 : Nat) (Option.some Jvm.ClassFile.FieldType.boolean)) ∈ z_U := z_U_3 (i := 226) rfl rfl
theorem u_794 : (Jvm.Cond.methodLink "PaceStore$Field" (119 : Nat) ({ cls := "PaceStore$Body", name := "run", desc := "(LPaceStore$Course;I)V" } : Jvm.MethodName)) ∈ z_U := z_U_3 (i := 227) rfl rfl
theorem u_795 : (Jvm.Cond.instanceMethod ({ cls := "PaceStore$Body", name := "run", desc := "(LPaceStore$Course;I)V" } : Jvm.MethodName)) ∈ z_U := z_U_3 (i := 228) rfl rfl
theorem u_796 : (Jvm.Cond.selects "PaceStore$Body" ({ cls := "PaceStore$Body", name := "run", desc := "(LPaceStore$Course;I)V" } : Jvm.MethodName) ({ cls := "PaceStore$Body", name := "run", desc := "(LPaceStore$Course;I)V" } : Jvm.MethodName)) ∈ z_U := z_U_3 (i := 229) rfl rfl
theorem u_797 : (Jvm.Cond.code ({ cls := "PaceStore$Body", name := "run", desc := "(LPaceStore$Course;I)V" } : Jvm.MethodName) prog_3_method_5_code (5 : Nat) (Option.none : Option Jvm.ClassFile.FieldType)) ∈ z_U := z_U_3 (i := 230) rfl rfl
theorem u_798 : (Jvm.Cond.methodLink "PaceStore$Body" (50 : Nat) ({ cls := "PaceStore$Course", name := "needOf", desc := "(IIZI)I" } : Jvm.MethodName)) ∈ z_U := z_U_3 (i := 231) rfl rfl
theorem u_800 : (Jvm.Cond.static ({ cls := "PaceStore", name := "changeBy", desc := "(III)I" } : Jvm.MethodName)) ∈ z_U := z_U_3 (i := 233) rfl rfl
theorem u_801 : (Jvm.Cond.code ({ cls := "PaceStore", name := "changeBy", desc := "(III)I" } : Jvm.MethodName) prog_1_method_45_code (4 : Nat) (Option.some Jvm.ClassFile.FieldType.int)) ∈ z_U := z_U_3 (i := 234) rfl rfl
theorem u_802 : (Jvm.Cond.methodLink "PaceStore$Body" (64 : Nat) ({ cls := "java/lang/Math", name := "min", desc := "(II)I" } : Jvm.MethodName)) ∈ z_U := z_U_3 (i := 235) rfl rfl
theorem u_803 : (Jvm.Cond.methodLink "PaceStore$Body" (70 : Nat) ({ cls := "java/lang/Math", name := "max", desc := "(II)I" } : Jvm.MethodName)) ∈ z_U := z_U_3 (i := 236) rfl rfl
theorem u_804 : (Jvm.Cond.methodLink "PaceStore$Body" (73 : Nat) ({ cls := "PaceStore$Course", name := "easyPace", desc := "(II)I" } : Jvm.MethodName)) ∈ z_U := z_U_3 (i := 237) rfl rfl
theorem u_805 : (Jvm.Cond.instanceMethod ({ cls := "PaceStore$Course", name := "easyPace", desc := "(II)I" } : Jvm.MethodName)) ∈ z_U := z_U_3 (i := 238) rfl rfl
theorem u_806 : (Jvm.Cond.selects "PaceStore$Course" ({ cls := "PaceStore$Course", name := "easyPace", desc := "(II)I" } : Jvm.MethodName) ({ cls := "PaceStore$Course", name := "easyPace", desc := "(II)I" } : Jvm.MethodName)) ∈ z_U := z_U_3 (i := 239) rfl rfl
theorem u_807 : (Jvm.Cond.code ({ cls := "PaceStore$Course", name := "easyPace", desc := "(II)I" } : Jvm.MethodName) prog_4_method_10_code (4 : Nat) (Option.some Jvm.ClassFile.FieldType.int)) ∈ z_U := z_U_4 (i := 0) rfl rfl
theorem u_808 : (Jvm.Cond.methodLink "PaceStore$Course" (84 : Nat) ({ cls := "PaceStore$Course", name := "needOf", desc := "(IIZI)I" } : Jvm.MethodName)) ∈ z_U := z_U_4 (i := 1) rfl rfl
theorem u_810 : (Jvm.Cond.methodLink "PaceStore$Field" (51 : Nat) ({ cls := "PaceStore$Results", name := "record", desc := "(LPaceStore$Body;II)V" } : Jvm.MethodName)) ∈ z_U := z_U_4 (i := 3) rfl rfl
theorem u_811 : (Jvm.Cond.instanceMethod ({ cls := "PaceStore$Results", name := "record", desc := "(LPaceStore$Body;II)V" } : Jvm.MethodName)) ∈ z_U := z_U_4 (i := 4) rfl rfl
theorem u_812 : (Jvm.Cond.selects "PaceStore$Results" ({ cls := "PaceStore$Results", name := "record", desc := "(LPaceStore$Body;II)V" } : Jvm.MethodName) ({ cls := "PaceStore$Results", name := "record", desc := "(LPaceStore$Body;II)V" } : Jvm.MethodName)) ∈ z_U := z_U_4 (i := 5) rfl rfl
theorem u_813 : (Jvm.Cond.code ({ cls := "PaceStore$Results", name := "record", desc := "(LPaceStore$Body;II)V" } : Jvm.MethodName) prog_8_method_3_code (5 : Nat) (Option.none : Option Jvm.ClassFile.FieldType)) ∈ z_U := z_U_4 (i := 6) rfl rfl
theorem u_814 : (Jvm.Cond.methodLink "PaceStore$Field" (57 : Nat) ({ cls := "PaceStore$Field", name := "rank", desc := "(LPaceStore$Results;)V" } : Jvm.MethodName)) ∈ z_U := z_U_4 (i := 7) rfl rfl
theorem u_816 : (Jvm.Cond.instanceMethod ({ cls := "PaceStore$Field", name := "rank", desc := "(LPaceStore$Results;)V" } : Jvm.MethodName)) ∈ z_U := z_U_4 (i := 9) rfl rfl
theorem u_817 : (Jvm.Cond.code ({ cls := "PaceStore$Field", name := "rank", desc := "(LPaceStore$Results;)V" } : Jvm.MethodName) prog_5_method_9_code (6 : Nat) (Option.none : Option Jvm.ClassFile.FieldType)) ∈ z_U := z_U_4 (i := 10) rfl rfl
theorem u_818 : (Jvm.Cond.methodLink "PaceStore" (182 : Nat) ({ cls := "PaceStore$Results", name := "runnerAt", desc := "(I)I" } : Jvm.MethodName)) ∈ z_U := z_U_4 (i := 11) rfl rfl
theorem u_819 : (Jvm.Cond.instanceMethod ({ cls := "PaceStore$Results", name := "runnerAt", desc := "(I)I" } : Jvm.MethodName)) ∈ z_U := z_U_4 (i := 12) rfl rfl
theorem u_820 : (Jvm.Cond.selects "PaceStore$Results" ({ cls := "PaceStore$Results", name := "runnerAt", desc := "(I)I" } : Jvm.MethodName) ({ cls := "PaceStore$Results", name := "runnerAt", desc := "(I)I" } : Jvm.MethodName)) ∈ z_U := z_U_4 (i := 13) rfl rfl
theorem u_821 : (Jvm.Cond.code ({ cls := "PaceStore$Results", name := "runnerAt", desc := "(I)I" } : Jvm.MethodName) prog_8_method_5_code (3 : Nat) (Option.some Jvm.ClassFile.FieldType.int)) ∈ z_U := z_U_4 (i := 14) rfl rfl
theorem u_822 : (Jvm.Cond.constant "PaceStore$Results" (57 : Nat) (-1000000 : Int32)) ∈ z_U := z_U_4 (i := 15) rfl rfl
theorem u_823 : (Jvm.Cond.methodLink "PaceStoreLaw" (56 : Nat) ({ cls := "PaceStore", name := "ran", desc := "(III)I" } : Jvm.MethodName)) ∈ z_U := z_U_4 (i := 16) rfl rfl
theorem u_824 : (Jvm.Cond.instanceMethod ({ cls := "PaceStore", name := "ran", desc := "(III)I" } : Jvm.MethodName)) ∈ z_U := z_U_4 (i := 17) rfl rfl
theorem u_825 : (Jvm.Cond.selects "PaceStore" ({ cls := "PaceStore", name := "ran", desc := "(III)I" } : Jvm.MethodName) ({ cls := "PaceStore", name := "ran", desc := "(III)I" } : Jvm.MethodName)) ∈ z_U := z_U_4 (i := 18) rfl rfl
theorem u_826 : (Jvm.Cond.code ({ cls := "PaceStore", name := "ran", desc := "(III)I" } : Jvm.MethodName) prog_1_method_11_code (4 : Nat) (Option.some Jvm.ClassFile.FieldType.int)) ∈ z_U := z_U_4 (i := 19) rfl rfl
theorem u_827 : (Jvm.Cond.methodLink "PaceStore" (185 : Nat) ({ cls := "PaceStore$Course", name := "hasRunner", desc := "(I)Z" } : Jvm.MethodName)) ∈ z_U := z_U_4 (i := 20) rfl rfl
theorem u_828 : (Jvm.Cond.methodLink "PaceStore" (188 : Nat) ({ cls := "PaceStore$Results", name := "told", desc := "(III)I" } : Jvm.MethodName)) ∈ z_U := z_U_4 (i := 21) rfl rfl
theorem u_829 : (Jvm.Cond.instanceMethod ({ cls := "PaceStore$Results", name := "told", desc := "(III)I" } : Jvm.MethodName)) ∈ z_U := z_U_4 (i := 22) rfl rfl
theorem u_830 : (Jvm.Cond.selects "PaceStore$Results" ({ cls := "PaceStore$Results", name := "told", desc := "(III)I" } : Jvm.MethodName) ({ cls := "PaceStore$Results", name := "told", desc := "(III)I" } : Jvm.MethodName)) ∈ z_U := z_U_4 (i := 23) rfl rfl
theorem u_831 : (Jvm.Cond.code ({ cls := "PaceStore$Results", name := "told", desc := "(III)I" } : Jvm.MethodName) prog_8_method_4_code (4 : Nat) (Option.some Jvm.ClassFile.FieldType.int)) ∈ z_U := z_U_4 (i := 24) rfl rfl
theorem u_832 : (Jvm.Cond.methodLink "PaceStoreLaw" (60 : Nat) ({ cls := "PaceStore", name := "place", desc := "(I)I" } : Jvm.MethodName)) ∈ z_U := z_U_4 (i := 25) rfl rfl
theorem u_833 : (Jvm.Cond.instanceMethod ({ cls := "PaceStore", name := "place", desc := "(I)I" } : Jvm.MethodName)) ∈ z_U := z_U_4 (i := 26) rfl rfl
theorem u_834 : (Jvm.Cond.selects "PaceStore" ({ cls := "PaceStore", name := "place", desc := "(I)I" } : Jvm.MethodName) ({ cls := "PaceStore", name := "place", desc := "(I)I" } : Jvm.MethodName)) ∈ z_U := z_U_4 (i := 27) rfl rfl
theorem u_835 : (Jvm.Cond.code ({ cls := "PaceStore", name := "place", desc := "(I)I" } : Jvm.MethodName) prog_1_method_12_code (2 : Nat) (Option.some Jvm.ClassFile.FieldType.int)) ∈ z_U := z_U_4 (i := 28) rfl rfl
theorem u_836 : (Jvm.Cond.methodLink "PaceStoreLaw" (64 : Nat) ({ cls := "PaceStore", name := "best", desc := "(III)I" } : Jvm.MethodName)) ∈ z_U := z_U_4 (i := 29) rfl rfl
theorem u_837 : (Jvm.Cond.instanceMethod ({ cls := "PaceStore", name := "best", desc := "(III)I" } : Jvm.MethodName)) ∈ z_U := z_U_4 (i := 30) rfl rfl
theorem u_838 : (Jvm.Cond.selects "PaceStore" ({ cls := "PaceStore", name := "best", desc := "(III)I" } : Jvm.MethodName) ({ cls := "PaceStore", name := "best", desc := "(III)I" } : Jvm.MethodName)) ∈ z_U := z_U_4 (i := 31) rfl rfl
theorem u_839 : (Jvm.Cond.code ({ cls := "PaceStore", name := "best", desc := "(III)I" } : Jvm.MethodName) prog_1_method_13_code (5 : Nat) (Option.some Jvm.ClassFile.FieldType.int)) ∈ z_U := z_U_4 (i := 32) rfl rfl
theorem u_840 : (Jvm.Cond.methodLink "PaceStore" (194 : Nat) ({ cls := "PaceStore$Course", name := "hasRabbits", desc := "(I)Z" } : Jvm.MethodName)) ∈ z_U := z_U_4 (i := 33) rfl rfl
theorem u_841 : (Jvm.Cond.instanceMethod ({ cls := "PaceStore$Course", name := "hasRabbits", desc := "(I)Z" } : Jvm.MethodName)) ∈ z_U := z_U_4 (i := 34) rfl rfl
theorem u_842 : (Jvm.Cond.selects "PaceStore$Course" ({ cls := "PaceStore$Course", name := "hasRabbits", desc := "(I)Z" } : Jvm.MethodName) ({ cls := "PaceStore$Course", name := "hasRabbits", desc := "(I)Z" } : Jvm.MethodName)) ∈ z_U := z_U_4 (i := 35) rfl rfl
theorem u_843 : (Jvm.Cond.code ({ cls := "PaceStore$Course", name := "hasRabbits", desc := "(I)Z" } : Jvm.MethodName) prog_4_method_6_code (2 : Nat) (Option.some Jvm.ClassFile.FieldType.boolean)) ∈ z_U := z_U_4 (i := 36) rfl rfl
theorem u_844 : (Jvm.Cond.methodLink "PaceStore" (197 : Nat) ({ cls := "PaceStore$Alone", name := "face", desc := "(LPaceStore$Course;II)V" } : Jvm.MethodName)) ∈ z_U := z_U_4 (i := 37) rfl rfl
theorem u_845 : (Jvm.Cond.instanceMethod ({ cls := "PaceStore$Alone", name := "face", desc := "(LPaceStore$Course;II)V" } : Jvm.MethodName)) ∈ z_U := z_U_4 (i := 38) rfl rfl
theorem u_846 : (Jvm.Cond.selects "PaceStore$Alone" ({ cls := "PaceStore$Alone", name := "face", desc := "(LPaceStore$Course;II)V" } : Jvm.MethodName) ({ cls := "PaceStore$Alone", name := "face", desc := "(LPaceStore$Course;II)V" } : Jvm.MethodName)) ∈ z_U := z_U_4 (i := 39) rfl rfl
theorem u_847 : (Jvm.Cond.code ({ cls := "PaceStore$Alone", name := "face", desc := "(LPaceStore$Course;II)V" } : Jvm.MethodName) prog_2_method_2_code (4 : Nat) (Option.none : Option Jvm.ClassFile.FieldType)) ∈ z_U := z_U_4 (i := 40) rfl rfl
theorem u_848 : (Jvm.Cond.methodLink "PaceStore$Alone" (39 : Nat) ({ cls := "java/util/Arrays", name := "fill", desc := "([II)V" } : Jvm.MethodName)) ∈ z_U := z_U_4 (i := 41) rfl rfl
theorem u_849 : (Jvm.Cond.methodLink "PaceStore$Alone" (45 : Nat) ({ cls := "PaceStore$Alone", name := "faceHeats", desc := "(LPaceStore$Course;II)V" } : Jvm.MethodName)) ∈ z_U := z_U_4 (i := 42) rfl rfl
theorem u_851 : (Jvm.Cond.instanceMethod ({ cls := "PaceStore$Alone", name := "faceHeats", desc := "(LPaceStore$Course;II)V" } : Jvm.MethodName)) ∈ z_U := z_U_4 (i := 44) rfl rfl
theorem u_852 : (Jvm.Cond.code ({ cls := "PaceStore$Alone", name := "faceHeats", desc := "(LPaceStore$Course;II)V" } : Jvm.MethodName) prog_2_method_4_code (8 : Nat) (Option.none : Option Jvm.ClassFile.FieldType)) ∈ z_U := z_U_4 (i := 45) rfl rfl
theorem u_853 : (Jvm.Cond.methodLink "PaceStore$Alone" (72 : Nat) ({ cls := "PaceStore$Course", name := "isShelteredBy", desc := "(III)Z" } : Jvm.MethodName)) ∈ z_U := z_U_4 (i := 46) rfl rfl
theorem u_854 : (Jvm.Cond.instanceMethod ({ cls := "PaceStore$Course", name := "isShelteredBy", desc := "(III)Z" } : Jvm.MethodName)) ∈ z_U := z_U_4 (i := 47) rfl rfl
theorem u_855 : (Jvm.Cond.selects "PaceStore$Course" ({ cls := "PaceStore$Course", name := "isShelteredBy", desc := "(III)Z" } : Jvm.MethodName) ({ cls := "PaceStore$Course", name := "isShelteredBy", desc := "(III)Z" } : Jvm.MethodName)) ∈ z_U := z_U_4 (i := 48) rfl rfl
theorem u_856 : (Jvm.Cond.code ({ cls := "PaceStore$Course", name := "isShelteredBy", desc := "(III)Z" } : Jvm.MethodName) prog_4_method_11_code (5 : Nat) (Option.some Jvm.ClassFile.FieldType.boolean)) ∈ z_U := z_U_4 (i := 49) rfl rfl
theorem u_857 : (Jvm.Cond.methodLink "PaceStore$Alone" (76 : Nat) ({ cls := "PaceStore$Course", name := "needOf", desc := "(IIZI)I" } : Jvm.MethodName)) ∈ z_U := z_U_4 (i := 50) rfl rfl
theorem u_858 : (Jvm.Cond.methodLink "PaceStore$Alone" (83 : Nat) ({ cls := "PaceStore$Alone", name := "takeLine", desc := "(I)V" } : Jvm.MethodName)) ∈ z_U := z_U_4 (i := 51) rfl rfl
theorem u_859 : (Jvm.Cond.instanceMethod ({ cls := "PaceStore$Alone", name := "takeLine", desc := "(I)V" } : Jvm.MethodName)) ∈ z_U := z_U_4 (i := 52) rfl rfl
theorem u_860 : (Jvm.Cond.selects "PaceStore$Alone" ({ cls := "PaceStore$Alone", name := "takeLine", desc := "(I)V" } : Jvm.MethodName) ({ cls := "PaceStore$Alone", name := "takeLine", desc := "(I)V" } : Jvm.MethodName)) ∈ z_U := z_U_4 (i := 53) rfl rfl
theorem u_861 : (Jvm.Cond.code ({ cls := "PaceStore$Alone", name := "takeLine", desc := "(I)V" } : Jvm.MethodName) prog_2_method_5_code (4 : Nat) (Option.none : Option Jvm.ClassFile.FieldType)) ∈ z_U := z_U_4 (i := 54) rfl rfl
theorem u_863 : (Jvm.Cond.methodLink "PaceStore" (201 : Nat) ({ cls := "PaceStore$Alone", name := "leastTime", desc := "()I" } : Jvm.MethodName)) ∈ z_U := z_U_4 (i := 56) rfl rfl
theorem u_864 : (Jvm.Cond.instanceMethod ({ cls := "PaceStore$Alone", name := "leastTime", desc := "()I" } : Jvm.MethodName)) ∈ z_U := z_U_4 (i := 57) rfl rfl
theorem u_865 : (Jvm.Cond.selects "PaceStore$Alone" ({ cls := "PaceStore$Alone", name := "leastTime", desc := "()I" } : Jvm.MethodName) ({ cls := "PaceStore$Alone", name := "leastTime", desc := "()I" } : Jvm.MethodName)) ∈ z_U := z_U_4 (i := 58) rfl rfl
theorem u_866 : (Jvm.Cond.code ({ cls := "PaceStore$Alone", name := "leastTime", desc := "()I" } : Jvm.MethodName) prog_2_method_11_code (1 : Nat) (Option.some Jvm.ClassFile.FieldType.int)) ∈ z_U := z_U_4 (i := 59) rfl rfl
theorem u_867 : (Jvm.Cond.methodLink "PaceStore$Alone" (112 : Nat) ({ cls := "PaceStore$Alone", name := "solve", desc := "()V" } : Jvm.MethodName)) ∈ z_U := z_U_4 (i := 60) rfl rfl
theorem u_868 : (Jvm.Cond.instanceMethod ({ cls := "PaceStore$Alone", name := "solve", desc := "()V" } : Jvm.MethodName)) ∈ z_U := z_U_4 (i := 61) rfl rfl
theorem u_869 : (Jvm.Cond.selects "PaceStore$Alone" ({ cls := "PaceStore$Alone", name := "solve", desc := "()V" } : Jvm.MethodName) ({ cls := "PaceStore$Alone", name := "solve", desc := "()V" } : Jvm.MethodName)) ∈ z_U := z_U_4 (i := 62) rfl rfl
theorem u_870 : (Jvm.Cond.code ({ cls := "PaceStore$Alone", name := "solve", desc := "()V" } : Jvm.MethodName) prog_2_method_12_code (3 : Nat) (Option.none : Option Jvm.ClassFile.FieldType)) ∈ z_U := z_U_4 (i := 63) rfl rfl
theorem u_871 : (Jvm.Cond.methodLink "PaceStore$Alone" (115 : Nat) ({ cls := "PaceStore$Alone", name := "chooseTries", desc := "(I)V" } : Jvm.MethodName)) ∈ z_U := z_U_4 (i := 64) rfl rfl
theorem u_873 : (Jvm.Cond.instanceMethod ({ cls := "PaceStore$Alone", name := "chooseTries", desc := "(I)V" } : Jvm.MethodName)) ∈ z_U := z_U_4 (i := 66) rfl rfl
theorem u_874 : (Jvm.Cond.code ({ cls := "PaceStore$Alone", name := "chooseTries", desc := "(I)V" } : Jvm.MethodName) prog_2_method_13_code (5 : Nat) (Option.none : Option Jvm.ClassFile.FieldType)) ∈ z_U := z_U_4 (i := 67) rfl rfl
theorem u_875 : (Jvm.Cond.methodLink "PaceStore$Alone" (118 : Nat) ({ cls := "PaceStore$Alone", name := "leastAt", desc := "(II)I" } : Jvm.MethodName)) ∈ z_U := z_U_4 (i := 68) rfl rfl
theorem u_877 : (Jvm.Cond.instanceMethod ({ cls := "PaceStore$Alone", name := "leastAt", desc := "(II)I" } : Jvm.MethodName)) ∈ z_U := z_U_4 (i := 70) rfl rfl
theorem u_878 : (Jvm.Cond.code ({ cls := "PaceStore$Alone", name := "leastAt", desc := "(II)I" } : Jvm.MethodName) prog_2_method_14_code (10 : Nat) (Option.some Jvm.ClassFile.FieldType.int)) ∈ z_U := z_U_4 (i := 71) rfl rfl
theorem u_879 : (Jvm.Cond.constant "PaceStore$Alone" (121 : Nat) (1000000000 : Int32)) ∈ z_U := z_U_4 (i := 72) rfl rfl
theorem u_880 : (Jvm.Cond.methodLink "PaceStore$Alone" (97 : Nat) ({ cls := "java/lang/Math", name := "min", desc := "(II)I" } : Jvm.MethodName)) ∈ z_U := z_U_4 (i := 73) rfl rfl
theorem u_881 : (Jvm.Cond.constant "PaceStore" (205 : Nat) (1000000000 : Int32)) ∈ z_U := z_U_4 (i := 74) rfl rfl
theorem u_882 : (Jvm.Cond.constant "PaceStore" (206 : Nat) (-1000000 : Int32)) ∈ z_U := z_U_4 (i := 75) rfl rfl
theorem u_883 : (Jvm.Cond.methodLink "PaceStore" (207 : Nat) ({ cls := "PaceStore$Alone", name := "paceOfBest", desc := "(I)I" } : Jvm.MethodName)) ∈ z_U := z_U_4 (i := 76) rfl rfl
theorem u_884 : (Jvm.Cond.instanceMethod ({ cls := "PaceStore$Alone", name := "paceOfBest", desc := "(I)I" } : Jvm.MethodName)) ∈ z_U := z_U_4 (i := 77) rfl rfl
theorem u_885 : (Jvm.Cond.selects "PaceStore$Alone" ({ cls := "PaceStore$Alone", name := "paceOfBest", desc := "(I)I" } : Jvm.MethodName) ({ cls := "PaceStore$Alone", name := "paceOfBest", desc := "(I)I" } : Jvm.MethodName)) ∈ z_U := z_U_4 (i := 78) rfl rfl
theorem u_886 : (Jvm.Cond.code ({ cls := "PaceStore$Alone", name := "paceOfBest", desc := "(I)I" } : Jvm.MethodName) prog_2_method_16_code (5 : Nat) (Option.some Jvm.ClassFile.FieldType.int)) ∈ z_U := z_U_4 (i := 79) rfl rfl
theorem u_887 : (Jvm.Cond.methodLink "PaceStore$Alone" (122 : Nat) ({ cls := "PaceStore$Alone", name := "firstPace", desc := "(II)I" } : Jvm.MethodName)) ∈ z_U := z_U_4 (i := 80) rfl rfl
theorem u_889 : (Jvm.Cond.instanceMethod ({ cls := "PaceStore$Alone", name := "firstPace", desc := "(II)I" } : Jvm.MethodName)) ∈ z_U := z_U_4 (i := 82) rfl rfl
theorem u_890 : (Jvm.Cond.code ({ cls := "PaceStore$Alone", name := "firstPace", desc := "(II)I" } : Jvm.MethodName) prog_2_method_17_code (5 : Nat) (Option.some Jvm.ClassFile.FieldType.int)) ∈ z_U := z_U_4 (i := 83) rfl rfl
theorem u_891 : (Jvm.Cond.methodLink "PaceStore$Alone" (103 : Nat) ({ cls := "PaceStore$Alone", name := "leftBehind", desc := "(III)I" } : Jvm.MethodName)) ∈ z_U := z_U_4 (i := 84) rfl rfl
theorem u_893 : (Jvm.Cond.instanceMethod ({ cls := "PaceStore$Alone", name := "leftBehind", desc := "(III)I" } : Jvm.MethodName)) ∈ z_U := z_U_4 (i := 86) rfl rfl
theorem u_894 : (Jvm.Cond.code ({ cls := "PaceStore$Alone", name := "leftBehind", desc := "(III)I" } : Jvm.MethodName) prog_2_method_6_code (5 : Nat) (Option.some Jvm.ClassFile.FieldType.int)) ∈ z_U := z_U_4 (i := 87) rfl rfl
theorem u_896 : (Jvm.Cond.methodLink "PaceStoreLaw" (68 : Nat) ({ cls := "PaceStore", name := "even", desc := "(III)I" } : Jvm.MethodName)) ∈ z_U := z_U_4 (i := 89) rfl rfl
theorem u_897 : (Jvm.Cond.instanceMethod ({ cls := "PaceStore", name := "even", desc := "(III)I" } : Jvm.MethodName)) ∈ z_U := z_U_4 (i := 90) rfl rfl
theorem u_898 : (Jvm.Cond.selects "PaceStore" ({ cls := "PaceStore", name := "even", desc := "(III)I" } : Jvm.MethodName) ({ cls := "PaceStore", name := "even", desc := "(III)I" } : Jvm.MethodName)) ∈ z_U := z_U_4 (i := 91) rfl rfl
theorem u_899 : (Jvm.Cond.code ({ cls := "PaceStore", name := "even", desc := "(III)I" } : Jvm.MethodName) prog_1_method_14_code (5 : Nat) (Option.some Jvm.ClassFile.FieldType.int)) ∈ z_U := z_U_4 (i := 92) rfl rfl
theorem u_900 : (Jvm.Cond.methodLink "PaceStore" (210 : Nat) ({ cls := "PaceStore$Alone", name := "evenPace", desc := "()I" } : Jvm.MethodName)) ∈ z_U := z_U_4 (i := 93) rfl rfl
theorem u_901 : (Jvm.Cond.instanceMethod ({ cls := "PaceStore$Alone", name := "evenPace", desc := "()I" } : Jvm.MethodName)) ∈ z_U := z_U_4 (i := 94) rfl rfl
theorem u_902 : (Jvm.Cond.selects "PaceStore$Alone" ({ cls := "PaceStore$Alone", name := "evenPace", desc := "()I" } : Jvm.MethodName) ({ cls := "PaceStore$Alone", name := "evenPace", desc := "()I" } : Jvm.MethodName)) ∈ z_U := z_U_4 (i := 95) rfl rfl
theorem u_903 : (Jvm.Cond.code ({ cls := "PaceStore$Alone", name := "evenPace", desc := "()I" } : Jvm.MethodName) prog_2_method_10_code (2 : Nat) (Option.some Jvm.ClassFile.FieldType.int)) ∈ z_U := z_U_4 (i := 96) rfl rfl
theorem u_904 : (Jvm.Cond.methodLink "PaceStore$Alone" (109 : Nat) ({ cls := "PaceStore$Alone", name := "leftAfterEven", desc := "(II)I" } : Jvm.MethodName)) ∈ z_U := z_U_4 (i := 97) rfl rfl
theorem u_905 : (Jvm.Cond.instanceMethod ({ cls := "PaceStore$Alone", name := "leftAfterEven", desc := "(II)I" } : Jvm.MethodName)) ∈ z_U := z_U_4 (i := 98) rfl rfl
theorem u_906 : (Jvm.Cond.selects "PaceStore$Alone" ({ cls := "PaceStore$Alone", name := "leftAfterEven", desc := "(II)I" } : Jvm.MethodName) ({ cls := "PaceStore$Alone", name := "leftAfterEven", desc := "(II)I" } : Jvm.MethodName)) ∈ z_U := z_U_4 (i := 99) rfl rfl
theorem u_907 : (Jvm.Cond.code ({ cls := "PaceStore$Alone", name := "leftAfterEven", desc := "(II)I" } : Jvm.MethodName) prog_2_method_7_code (5 : Nat) (Option.some Jvm.ClassFile.FieldType.int)) ∈ z_U := z_U_4 (i := 100) rfl rfl
theorem u_908 : (Jvm.Cond.methodLink "PaceStore" (213 : Nat) ({ cls := "PaceStore", name := "secondsBy", desc := "(I)I" } : Jvm.MethodName)) ∈ z_U := z_U_4 (i := 101) rfl rfl
theorem u_909 : (Jvm.Cond.methodLink "PaceStoreLaw" (72 : Nat) ({ cls := "PaceStore", name := "early", desc := "(II)I" } : Jvm.MethodName)) ∈ z_U := z_U_4 (i := 102) rfl rfl
theorem u_910 : (Jvm.Cond.instanceMethod ({ cls := "PaceStore", name := "early", desc := "(II)I" } : Jvm.MethodName)) ∈ z_U := z_U_4 (i := 103) rfl rfl
theorem u_911 : (Jvm.Cond.selects "PaceStore" ({ cls := "PaceStore", name := "early", desc := "(II)I" } : Jvm.MethodName) ({ cls := "PaceStore", name := "early", desc := "(II)I" } : Jvm.MethodName)) ∈ z_U := z_U_4 (i := 104) rfl rfl
theorem u_912 : (Jvm.Cond.code ({ cls := "PaceStore", name := "early", desc := "(II)I" } : Jvm.MethodName) prog_1_method_15_code (6 : Nat) (Option.some Jvm.ClassFile.FieldType.int)) ∈ z_U := z_U_4 (i := 105) rfl rfl
theorem u_913 : (Jvm.Cond.methodLink "PaceStore" (221 : Nat) ({ cls := "PaceStore$Alone", name := "leastFrom", desc := "(I)I" } : Jvm.MethodName)) ∈ z_U := z_U_4 (i := 106) rfl rfl
theorem u_914 : (Jvm.Cond.instanceMethod ({ cls := "PaceStore$Alone", name := "leastFrom", desc := "(I)I" } : Jvm.MethodName)) ∈ z_U := z_U_4 (i := 107) rfl rfl
theorem u_915 : (Jvm.Cond.selects "PaceStore$Alone" ({ cls := "PaceStore$Alone", name := "leastFrom", desc := "(I)I" } : Jvm.MethodName) ({ cls := "PaceStore$Alone", name := "leastFrom", desc := "(I)I" } : Jvm.MethodName)) ∈ z_U := z_U_4 (i := 108) rfl rfl
theorem u_916 : (Jvm.Cond.code ({ cls := "PaceStore$Alone", name := "leastFrom", desc := "(I)I" } : Jvm.MethodName) prog_2_method_15_code (3 : Nat) (Option.some Jvm.ClassFile.FieldType.int)) ∈ z_U := z_U_4 (i := 109) rfl rfl
theorem u_917 : (Jvm.Cond.methodLink "PaceStoreLaw" (77 : Nat) ({ cls := "PaceStore", name := "hired", desc := "(III)I" } : Jvm.MethodName)) ∈ z_U := z_U_4 (i := 110) rfl rfl
theorem u_918 : (Jvm.Cond.instanceMethod ({ cls := "PaceStore", name := "hired", desc := "(III)I" } : Jvm.MethodName)) ∈ z_U := z_U_4 (i := 111) rfl rfl
theorem u_919 : (Jvm.Cond.selects "PaceStore" ({ cls := "PaceStore", name := "hired", desc := "(III)I" } : Jvm.MethodName) ({ cls := "PaceStore", name := "hired", desc := "(III)I" } : Jvm.MethodName)) ∈ z_U := z_U_4 (i := 112) rfl rfl
theorem u_920 : (Jvm.Cond.code ({ cls := "PaceStore", name := "hired", desc := "(III)I" } : Jvm.MethodName) prog_1_method_16_code (10 : Nat) (Option.some Jvm.ClassFile.FieldType.int)) ∈ z_U := z_U_4 (i := 113) rfl rfl
theorem u_921 : (Jvm.Cond.methodLink "PaceStore" (224 : Nat) ({ cls := "PaceStore$Course", name := "costOf", desc := "(I)I" } : Jvm.MethodName)) ∈ z_U := z_U_4 (i := 114) rfl rfl
theorem u_922 : (Jvm.Cond.instanceMethod ({ cls := "PaceStore$Course", name := "costOf", desc := "(I)I" } : Jvm.MethodName)) ∈ z_U := z_U_4 (i := 115) rfl rfl
theorem u_923 : (Jvm.Cond.selects "PaceStore$Course" ({ cls := "PaceStore$Course", name := "costOf", desc := "(I)I" } : Jvm.MethodName) ({ cls := "PaceStore$Course", name := "costOf", desc := "(I)I" } : Jvm.MethodName)) ∈ z_U := z_U_4 (i := 116) rfl rfl
theorem u_924 : (Jvm.Cond.code ({ cls := "PaceStore$Course", name := "costOf", desc := "(I)I" } : Jvm.MethodName) prog_4_method_8_code (4 : Nat) (Option.some Jvm.ClassFile.FieldType.int)) ∈ z_U := z_U_4 (i := 117) rfl rfl
theorem u_925 : (Jvm.Cond.methodLink "PaceStoreLaw" (81 : Nat) ({ cls := "PaceStore", name := "stays", desc := "(II)I" } : Jvm.MethodName)) ∈ z_U := z_U_4 (i := 118) rfl rfl
theorem u_926 : (Jvm.Cond.instanceMethod ({ cls := "PaceStore", name := "stays", desc := "(II)I" } : Jvm.MethodName)) ∈ z_U := z_U_4 (i := 119) rfl rfl
theorem u_927 : (Jvm.Cond.selects "PaceStore" ({ cls := "PaceStore", name := "stays", desc := "(II)I" } : Jvm.MethodName) ({ cls := "PaceStore", name := "stays", desc := "(II)I" } : Jvm.MethodName)) ∈ z_U := z_U_4 (i := 120) rfl rfl
theorem u_928 : (Jvm.Cond.code ({ cls := "PaceStore", name := "stays", desc := "(II)I" } : Jvm.MethodName) prog_1_method_17_code (6 : Nat) (Option.some Jvm.ClassFile.FieldType.int)) ∈ z_U := z_U_4 (i := 121) rfl rfl
theorem u_929 : (Jvm.Cond.methodLink "PaceStore" (236 : Nat) ({ cls := "PaceStore$Alone", name := "leftAfterEven", desc := "(II)I" } : Jvm.MethodName)) ∈ z_U := z_U_4 (i := 122) rfl rfl
theorem u_930 : (Jvm.Cond.methodLink "PaceStore" (239 : Nat) ({ cls := "PaceStore$Alone", name := "solve", desc := "()V" } : Jvm.MethodName)) ∈ z_U := z_U_4 (i := 123) rfl rfl
theorem u_931 : (Jvm.Cond.methodLink "PaceStoreLaw" (85 : Nat) ({ cls := "PaceStore", name := "rests", desc := "(III)I" } : Jvm.MethodName)) ∈ z_U := z_U_4 (i := 124) rfl rfl
theorem u_932 : (Jvm.Cond.instanceMethod ({ cls := "PaceStore", name := "rests", desc := "(III)I" } : Jvm.MethodName)) ∈ z_U := z_U_4 (i := 125) rfl rfl
theorem u_933 : (Jvm.Cond.selects "PaceStore" ({ cls := "PaceStore", name := "rests", desc := "(III)I" } : Jvm.MethodName) ({ cls := "PaceStore", name := "rests", desc := "(III)I" } : Jvm.MethodName)) ∈ z_U := z_U_4 (i := 126) rfl rfl
theorem u_934 : (Jvm.Cond.code ({ cls := "PaceStore", name := "rests", desc := "(III)I" } : Jvm.MethodName) prog_1_method_18_code (6 : Nat) (Option.some Jvm.ClassFile.FieldType.int)) ∈ z_U := z_U_4 (i := 127) rfl rfl
theorem u_935 : (Jvm.Cond.methodLink "PaceStore" (246 : Nat) ({ cls := "PaceStore$Game", name := "playAll", desc := "(LPaceStore$Course;II)V" } : Jvm.MethodName)) ∈ z_U := z_U_4 (i := 128) rfl rfl
theorem u_936 : (Jvm.Cond.instanceMethod ({ cls := "PaceStore$Game", name := "playAll", desc := "(LPaceStore$Course;II)V" } : Jvm.MethodName)) ∈ z_U := z_U_4 (i := 129) rfl rfl
theorem u_937 : (Jvm.Cond.selects "PaceStore$Game" ({ cls := "PaceStore$Game", name := "playAll", desc := "(LPaceStore$Course;II)V" } : Jvm.MethodName) ({ cls := "PaceStore$Game", name := "playAll", desc := "(LPaceStore$Course;II)V" } : Jvm.MethodName)) ∈ z_U := z_U_4 (i := 130) rfl rfl
theorem u_938 : (Jvm.Cond.code ({ cls := "PaceStore$Game", name := "playAll", desc := "(LPaceStore$Course;II)V" } : Jvm.MethodName) prog_6_method_4_code (5 : Nat) (Option.none : Option Jvm.ClassFile.FieldType)) ∈ z_U := z_U_4 (i := 131) rfl rfl
theorem u_939 : (Jvm.Cond.methodLink "PaceStore$Game" (71 : Nat) ({ cls := "PaceStore$Game", name := "play", desc := "(LPaceStore$Course;IIII)I" } : Jvm.MethodName)) ∈ z_U := z_U_4 (i := 132) rfl rfl
theorem u_940 : (Jvm.Cond.instanceMethod ({ cls := "PaceStore$Game", name := "play", desc := "(LPaceStore$Course;IIII)I" } : Jvm.MethodName)) ∈ z_U := z_U_4 (i := 133) rfl rfl
theorem u_941 : (Jvm.Cond.selects "PaceStore$Game" ({ cls := "PaceStore$Game", name := "play", desc := "(LPaceStore$Course;IIII)I" } : Jvm.MethodName) ({ cls := "PaceStore$Game", name := "play", desc := "(LPaceStore$Course;IIII)I" } : Jvm.MethodName)) ∈ z_U := z_U_4 (i := 134) rfl rfl
theorem u_942 : (Jvm.Cond.code ({ cls := "PaceStore$Game", name := "play", desc := "(LPaceStore$Course;IIII)I" } : Jvm.MethodName) prog_6_method_2_code (12 : Nat) (Option.some Jvm.ClassFile.FieldType.int)) ∈ z_U := z_U_4 (i := 135) rfl rfl
theorem u_943 : (Jvm.Cond.methodLink "PaceStore$Game" (30 : Nat) ({ cls := "PaceStore$Body", name := "start", desc := "(LPaceStore$Course;II)V" } : Jvm.MethodName)) ∈ z_U := z_U_4 (i := 136) rfl rfl
theorem u_944 : (Jvm.Cond.methodLink "PaceStore$Game" (39 : Nat) ({ cls := "PaceStore$Course", name := "easyPace", desc := "(II)I" } : Jvm.MethodName)) ∈ z_U := z_U_4 (i := 137) rfl rfl
theorem u_945 : (Jvm.Cond.methodLink "PaceStore$Game" (48 : Nat) ({ cls := "PaceStore$Game", name := "stepByPlan", desc := "(IZ)I" } : Jvm.MethodName)) ∈ z_U := z_U_4 (i := 138) rfl rfl
theorem u_946 : (Jvm.Cond.static ({ cls := "PaceStore$Game", name := "stepByPlan", desc := "(IZ)I" } : Jvm.MethodName)) ∈ z_U := z_U_4 (i := 139) rfl rfl
theorem u_947 : (Jvm.Cond.code ({ cls := "PaceStore$Game", name := "stepByPlan", desc := "(IZ)I" } : Jvm.MethodName) prog_6_method_3_code (2 : Nat) (Option.some Jvm.ClassFile.FieldType.int)) ∈ z_U := z_U_4 (i := 140) rfl rfl
theorem u_949 : (Jvm.Cond.methodLink "PaceStore$Game" (59 : Nat) ({ cls := "PaceStore$Field", name := "runMile", desc := "(LPaceStore$Course;I)V" } : Jvm.MethodName)) ∈ z_U := z_U_4 (i := 142) rfl rfl
theorem u_950 : (Jvm.Cond.methodLink "PaceStore$Game" (66 : Nat) ({ cls := "java/lang/Integer", name := "compare", desc := "(II)I" } : Jvm.MethodName)) ∈ z_U := z_U_4 (i := 143) rfl rfl
theorem u_951 : (Jvm.Cond.static ({ cls := "java/lang/Integer", name := "compare", desc := "(II)I" } : Jvm.MethodName)) ∈ z_U := z_U_4 (i := 144) rfl rfl
theorem u_952 : (Jvm.Cond.code ({ cls := "java/lang/Integer", name := "compare", desc := "(II)I" } : Jvm.MethodName) prog_13_method_40_code (2 : Nat) (Option.some Jvm.ClassFile.FieldType.int)) ∈ z_U := z_U_4 (i := 145) rfl rfl
theorem u_953 : (Jvm.Cond.methodLink "PaceStore" (249 : Nat) ({ cls := "PaceStore$Game", name := "restsAt", desc := "(I)Z" } : Jvm.MethodName)) ∈ z_U := z_U_4 (i := 146) rfl rfl
theorem u_954 : (Jvm.Cond.instanceMethod ({ cls := "PaceStore$Game", name := "restsAt", desc := "(I)Z" } : Jvm.MethodName)) ∈ z_U := z_U_4 (i := 147) rfl rfl
theorem u_955 : (Jvm.Cond.selects "PaceStore$Game" ({ cls := "PaceStore$Game", name := "restsAt", desc := "(I)Z" } : Jvm.MethodName) ({ cls := "PaceStore$Game", name := "restsAt", desc := "(I)Z" } : Jvm.MethodName)) ∈ z_U := z_U_4 (i := 148) rfl rfl
theorem u_956 : (Jvm.Cond.code ({ cls := "PaceStore$Game", name := "restsAt", desc := "(I)Z" } : Jvm.MethodName) prog_6_method_5_code (6 : Nat) (Option.some Jvm.ClassFile.FieldType.boolean)) ∈ z_U := z_U_4 (i := 149) rfl rfl
theorem u_957 : (Jvm.Cond.methodLink "PaceStoreLaw" (89 : Nat) ({ cls := "PaceStore", name := "wins", desc := "(IIII)I" } : Jvm.MethodName)) ∈ z_U := z_U_4 (i := 150) rfl rfl
theorem u_958 : (Jvm.Cond.instanceMethod ({ cls := "PaceStore", name := "wins", desc := "(IIII)I" } : Jvm.MethodName)) ∈ z_U := z_U_4 (i := 151) rfl rfl
theorem u_959 : (Jvm.Cond.selects "PaceStore" ({ cls := "PaceStore", name := "wins", desc := "(IIII)I" } : Jvm.MethodName) ({ cls := "PaceStore", name := "wins", desc := "(IIII)I" } : Jvm.MethodName)) ∈ z_U := z_U_4 (i := 152) rfl rfl
theorem u_960 : (Jvm.Cond.code ({ cls := "PaceStore", name := "wins", desc := "(IIII)I" } : Jvm.MethodName) prog_1_method_19_code (6 : Nat) (Option.some Jvm.ClassFile.FieldType.int)) ∈ z_U := z_U_4 (i := 153) rfl rfl
theorem u_961 : (Jvm.Cond.methodLink "PaceStore" (252 : Nat) ({ cls := "PaceStore$Game", name := "play", desc := "(LPaceStore$Course;IIII)I" } : Jvm.MethodName)) ∈ z_U := z_U_4 (i := 154) rfl rfl
theorem u_962 : (Jvm.Cond.methodLink "PaceStoreLaw" (94 : Nat) ({ cls := "PaceStore", name := "line", desc := "(III)I" } : Jvm.MethodName)) ∈ z_U := z_U_4 (i := 155) rfl rfl
theorem u_963 : (Jvm.Cond.instanceMethod ({ cls := "PaceStore", name := "line", desc := "(III)I" } : Jvm.MethodName)) ∈ z_U := z_U_4 (i := 156) rfl rfl
theorem u_964 : (Jvm.Cond.selects "PaceStore" ({ cls := "PaceStore", name := "line", desc := "(III)I" } : Jvm.MethodName) ({ cls := "PaceStore", name := "line", desc := "(III)I" } : Jvm.MethodName)) ∈ z_U := z_U_4 (i := 157) rfl rfl
theorem u_965 : (Jvm.Cond.code ({ cls := "PaceStore", name := "line", desc := "(III)I" } : Jvm.MethodName) prog_1_method_20_code (5 : Nat) (Option.some Jvm.ClassFile.FieldType.int)) ∈ z_U := z_U_4 (i := 158) rfl rfl
theorem u_966 : (Jvm.Cond.methodLink "PaceStore" (256 : Nat) ({ cls := "PaceStore", name := "leastLine", desc := "(ILPaceStore$Sheet;I)I" } : Jvm.MethodName)) ∈ z_U := z_U_4 (i := 159) rfl rfl
theorem u_968 : (Jvm.Cond.instanceMethod ({ cls := "PaceStore", name := "leastLine", desc := "(ILPaceStore$Sheet;I)I" } : Jvm.MethodName)) ∈ z_U := z_U_4 (i := 161) rfl rfl
theorem u_969 : (Jvm.Cond.code ({ cls := "PaceStore", name := "leastLine", desc := "(ILPaceStore$Sheet;I)I" } : Jvm.MethodName) prog_1_method_21_code (5 : Nat) (Option.some Jvm.ClassFile.FieldType.int)) ∈ z_U := z_U_4 (i := 162) rfl rfl
theorem u_970 : (Jvm.Cond.methodLink "PaceStore" (260 : Nat) ({ cls := "PaceStore$Alone", name := "takeLine", desc := "(I)V" } : Jvm.MethodName)) ∈ z_U := z_U_4 (i := 163) rfl rfl
theorem u_971 : (Jvm.Cond.methodLink "PaceStore" (264 : Nat) ({ cls := "PaceStore$Alone", name := "leftAfterSplits", desc := "(LPaceStore$Sheet;I)I" } : Jvm.MethodName)) ∈ z_U := z_U_4 (i := 164) rfl rfl
theorem u_972 : (Jvm.Cond.instanceMethod ({ cls := "PaceStore$Alone", name := "leftAfterSplits", desc := "(LPaceStore$Sheet;I)I" } : Jvm.MethodName)) ∈ z_U := z_U_4 (i := 165) rfl rfl
theorem u_973 : (Jvm.Cond.selects "PaceStore$Alone" ({ cls := "PaceStore$Alone", name := "leftAfterSplits", desc := "(LPaceStore$Sheet;I)I" } : Jvm.MethodName) ({ cls := "PaceStore$Alone", name := "leftAfterSplits", desc := "(LPaceStore$Sheet;I)I" } : Jvm.MethodName)) ∈ z_U := z_U_4 (i := 166) rfl rfl
theorem u_974 : (Jvm.Cond.code ({ cls := "PaceStore$Alone", name := "leftAfterSplits", desc := "(LPaceStore$Sheet;I)I" } : Jvm.MethodName) prog_2_method_8_code (6 : Nat) (Option.some Jvm.ClassFile.FieldType.int)) ∈ z_U := z_U_4 (i := 167) rfl rfl
theorem u_975 : (Jvm.Cond.methodLink "PaceStore$Alone" (49 : Nat) ({ cls := "PaceStore$Sheet", name := "at", desc := "(I)I" } : Jvm.MethodName)) ∈ z_U := z_U_4 (i := 168) rfl rfl
theorem u_976 : (Jvm.Cond.methodLink "PaceStore$Alone" (106 : Nat) ({ cls := "PaceStore$Alone", name := "paceThatTakes", desc := "(I)I" } : Jvm.MethodName)) ∈ z_U := z_U_4 (i := 169) rfl rfl
theorem u_977 : (Jvm.Cond.static ({ cls := "PaceStore$Alone", name := "paceThatTakes", desc := "(I)I" } : Jvm.MethodName)) ∈ z_U := z_U_4 (i := 170) rfl rfl
theorem u_978 : (Jvm.Cond.code ({ cls := "PaceStore$Alone", name := "paceThatTakes", desc := "(I)I" } : Jvm.MethodName) prog_2_method_9_code (2 : Nat) (Option.some Jvm.ClassFile.FieldType.int)) ∈ z_U := z_U_4 (i := 171) rfl rfl
theorem u_979 : (Jvm.Cond.methodLink "PaceStoreLaw" (98 : Nat) ({ cls := "PaceStore", name := "parts", desc := "(IIII)I" } : Jvm.MethodName)) ∈ z_U := z_U_4 (i := 172) rfl rfl
theorem u_980 : (Jvm.Cond.instanceMethod ({ cls := "PaceStore", name := "parts", desc := "(IIII)I" } : Jvm.MethodName)) ∈ z_U := z_U_4 (i := 173) rfl rfl
theorem u_981 : (Jvm.Cond.selects "PaceStore" ({ cls := "PaceStore", name := "parts", desc := "(IIII)I" } : Jvm.MethodName) ({ cls := "PaceStore", name := "parts", desc := "(IIII)I" } : Jvm.MethodName)) ∈ z_U := z_U_4 (i := 174) rfl rfl
theorem u_982 : (Jvm.Cond.code ({ cls := "PaceStore", name := "parts", desc := "(IIII)I" } : Jvm.MethodName) prog_1_method_22_code (8 : Nat) (Option.some Jvm.ClassFile.FieldType.int)) ∈ z_U := z_U_4 (i := 175) rfl rfl
theorem u_983 : (Jvm.Cond.constant "PaceStore" (268 : Nat) (99999 : Int32)) ∈ z_U := z_U_4 (i := 176) rfl rfl
theorem u_984 : (Jvm.Cond.methodLink "PaceStore" (269 : Nat) ({ cls := "PaceStore", name := "takenOffInAllOrders", desc := "(LPaceStore$Sheet;II)I" } : Jvm.MethodName)) ∈ z_U := z_U_4 (i := 177) rfl rfl
theorem u_985 : (Jvm.Cond.static ({ cls := "PaceStore", name := "takenOffInAllOrders", desc := "(LPaceStore$Sheet;II)I" } : Jvm.MethodName)) ∈ z_U := z_U_4 (i := 178) rfl rfl
theorem u_986 : (Jvm.Cond.code ({ cls := "PaceStore", name := "takenOffInAllOrders", desc := "(LPaceStore$Sheet;II)I" } : Jvm.MethodName) prog_1_method_23_code (7 : Nat) (Option.some Jvm.ClassFile.FieldType.int)) ∈ z_U := z_U_4 (i := 179) rfl rfl
theorem u_987 : (Jvm.Cond.methodLink "PaceStore" (279 : Nat) ({ cls := "java/lang/Integer", name := "bitCount", desc := "(I)I" } : Jvm.MethodName)) ∈ z_U := z_U_4 (i := 180) rfl rfl
theorem u_988 : (Jvm.Cond.static ({ cls := "java/lang/Integer", name := "bitCount", desc := "(I)I" } : Jvm.MethodName)) ∈ z_U := z_U_4 (i := 181) rfl rfl
theorem u_989 : (Jvm.Cond.code ({ cls := "java/lang/Integer", name := "bitCount", desc := "(I)I" } : Jvm.MethodName) prog_13_method_49_code (1 : Nat) (Option.some Jvm.ClassFile.FieldType.int)) ∈ z_U := z_U_4 (i := 182) rfl rfl
theorem u_990 : (Jvm.Cond.constant "java/lang/Integer" (265 : Nat) (1431655765 : Int32)) ∈ z_U := z_U_4 (i := 183) rfl rfl
theorem u_991 : (Jvm.Cond.constant "java/lang/Integer" (266 : Nat) (858993459 : Int32)) ∈ z_U := z_U_4 (i := 184) rfl rfl
theorem u_992 : (Jvm.Cond.constant "java/lang/Integer" (267 : Nat) (252645135 : Int32)) ∈ z_U := z_U_4 (i := 185) rfl rfl
theorem u_993 : (Jvm.Cond.fieldLink "PaceStore" (284 : Nat) "PaceStore" "ORDERS_BEHIND" "[I") ∈ z_U := z_U_4 (i := 186) rfl rfl
theorem u_995 : (Jvm.Cond.methodLink "PaceStore" (273 : Nat) ({ cls := "java/lang/Math", name := "abs", desc := "(I)I" } : Jvm.MethodName)) ∈ z_U := z_U_4 (i := 188) rfl rfl
theorem u_996 : (Jvm.Cond.static ({ cls := "java/lang/Math", name := "abs", desc := "(I)I" } : Jvm.MethodName)) ∈ z_U := z_U_4 (i := 189) rfl rfl
theorem u_997 : (Jvm.Cond.code ({ cls := "java/lang/Math", name := "abs", desc := "(I)I" } : Jvm.MethodName) prog_14_method_59_code (1 : Nat) (Option.some Jvm.ClassFile.FieldType.int)) ∈ z_U := z_U_4 (i := 190) rfl rfl
theorem u_998 : (Jvm.Cond.methodLink "PaceStore" (276 : Nat) ({ cls := "PaceStore", name := "commonDivisor", desc := "(II)I" } : Jvm.MethodName)) ∈ z_U := z_U_4 (i := 191) rfl rfl
theorem u_999 : (Jvm.Cond.static ({ cls := "PaceStore", name := "commonDivisor", desc := "(II)I" } : Jvm.MethodName)) ∈ z_U := z_U_4 (i := 192) rfl rfl
theorem u_1000 : (Jvm.Cond.code ({ cls := "PaceStore", name := "commonDivisor", desc := "(II)I" } : Jvm.MethodName) prog_1_method_24_code (6 : Nat) (Option.some Jvm.ClassFile.FieldType.int)) ∈ z_U := z_U_4 (i := 193) rfl rfl
theorem u_1001 : (Jvm.Cond.methodLink "PaceStoreLaw" (102 : Nat) ({ cls := "PaceStore", name := "hour", desc := "(IIIII)I" } : Jvm.MethodName)) ∈ z_U := z_U_4 (i := 194) rfl rfl
theorem u_1002 : (Jvm.Cond.instanceMethod ({ cls := "PaceStore", name := "hour", desc := "(IIIII)I" } : Jvm.MethodName)) ∈ z_U := z_U_4 (i := 195) rfl rfl
theorem u_1003 : (Jvm.Cond.selects "PaceStore" ({ cls := "PaceStore", name := "hour", desc := "(IIIII)I" } : Jvm.MethodName) ({ cls := "PaceStore", name := "hour", desc := "(IIIII)I" } : Jvm.MethodName)) ∈ z_U := z_U_4 (i := 196) rfl rfl
theorem u_1004 : (Jvm.Cond.code ({ cls := "PaceStore", name := "hour", desc := "(IIIII)I" } : Jvm.MethodName) prog_1_method_25_code (7 : Nat) (Option.some Jvm.ClassFile.FieldType.int)) ∈ z_U := z_U_4 (i := 197) rfl rfl
theorem u_1005 : (Jvm.Cond.methodLink "PaceStore" (290 : Nat) ({ cls := "PaceStore", name := "bestHour", desc := "(ILPaceStore$Sheet;III)I" } : Jvm.MethodName)) ∈ z_U := z_U_4 (i := 198) rfl rfl
theorem u_1007 : (Jvm.Cond.instanceMethod ({ cls := "PaceStore", name := "bestHour", desc := "(ILPaceStore$Sheet;III)I" } : Jvm.MethodName)) ∈ z_U := z_U_4 (i := 200) rfl rfl
theorem u_1008 : (Jvm.Cond.code ({ cls := "PaceStore", name := "bestHour", desc := "(ILPaceStore$Sheet;III)I" } : Jvm.MethodName) prog_1_method_26_code (10 : Nat) (Option.some Jvm.ClassFile.FieldType.int)) ∈ z_U := z_U_4 (i := 201) rfl rfl
theorem u_1009 : (Jvm.Cond.methodLink "PaceStore" (294 : Nat) ({ cls := "PaceStore$Alone", name := "faceHour", desc := "(LPaceStore$Course;ILPaceStore$Sheet;I)V" } : Jvm.MethodName)) ∈ z_U := z_U_4 (i := 202) rfl rfl
theorem u_1010 : (Jvm.Cond.instanceMethod ({ cls := "PaceStore$Alone", name := "faceHour", desc := "(LPaceStore$Course;ILPaceStore$Sheet;I)V" } : Jvm.MethodName)) ∈ z_U := z_U_4 (i := 203) rfl rfl
theorem u_1011 : (Jvm.Cond.selects "PaceStore$Alone" ({ cls := "PaceStore$Alone", name := "faceHour", desc := "(LPaceStore$Course;ILPaceStore$Sheet;I)V" } : Jvm.MethodName) ({ cls := "PaceStore$Alone", name := "faceHour", desc := "(LPaceStore$Course;ILPaceStore$Sheet;I)V" } : Jvm.MethodName)) ∈ z_U := z_U_4 (i := 204) rfl rfl
theorem u_1012 : (Jvm.Cond.code ({ cls := "PaceStore$Alone", name := "faceHour", desc := "(LPaceStore$Course;ILPaceStore$Sheet;I)V" } : Jvm.MethodName) prog_2_method_3_code (6 : Nat) (Option.none : Option Jvm.ClassFile.FieldType)) ∈ z_U := z_U_4 (i := 205) rfl rfl
theorem u_1013 : (Jvm.Cond.methodLink "PaceStoreLaw" (106 : Nat) ({ cls := "PaceStore", name := "feeling", desc := "(III)I" } : Jvm.MethodName)) ∈ z_U := z_U_4 (i := 206) rfl rfl
theorem u_1014 : (Jvm.Cond.instanceMethod ({ cls := "PaceStore", name := "feeling", desc := "(III)I" } : Jvm.MethodName)) ∈ z_U := z_U_4 (i := 207) rfl rfl
theorem u_1015 : (Jvm.Cond.selects "PaceStore" ({ cls := "PaceStore", name := "feeling", desc := "(III)I" } : Jvm.MethodName) ({ cls := "PaceStore", name := "feeling", desc := "(III)I" } : Jvm.MethodName)) ∈ z_U := z_U_4 (i := 208) rfl rfl
theorem u_1016 : (Jvm.Cond.code ({ cls := "PaceStore", name := "feeling", desc := "(III)I" } : Jvm.MethodName) prog_1_method_27_code (8 : Nat) (Option.some Jvm.ClassFile.FieldType.int)) ∈ z_U := z_U_4 (i := 209) rfl rfl
theorem u_1017 : (Jvm.Cond.methodLink "PaceStore" (298 : Nat) ({ cls := "PaceStore$Field", name := "timeByFeeling", desc := "(LPaceStore$Course;IIII)I" } : Jvm.MethodName)) ∈ z_U := z_U_4 (i := 210) rfl rfl
theorem u_1018 : (Jvm.Cond.instanceMethod ({ cls := "PaceStore$Field", name := "timeByFeeling", desc := "(LPaceStore$Course;IIII)I" } : Jvm.MethodName)) ∈ z_U := z_U_4 (i := 211) rfl rfl
theorem u_1019 : (Jvm.Cond.selects "PaceStore$Field" ({ cls := "PaceStore$Field", name := "timeByFeeling", desc := "(LPaceStore$Course;IIII)I" } : Jvm.MethodName) ({ cls := "PaceStore$Field", name := "timeByFeeling", desc := "(LPaceStore$Course;IIII)I" } : Jvm.MethodName)) ∈ z_U := z_U_4 (i := 212) rfl rfl
theorem u_1020 : (Jvm.Cond.code ({ cls := "PaceStore$Field", name := "timeByFeeling", desc := "(LPaceStore$Course;IIII)I" } : Jvm.MethodName) prog_5_method_10_code (8 : Nat) (Option.some Jvm.ClassFile.FieldType.int)) ∈ z_U := z_U_4 (i := 213) rfl rfl
theorem u_1021 : (Jvm.Cond.methodLink "PaceStoreLaw" (110 : Nat) ({ cls := "PaceStore", name := "image", desc := "(I)I" } : Jvm.MethodName)) ∈ z_U := z_U_4 (i := 214) rfl rfl
theorem u_1022 : (Jvm.Cond.instanceMethod ({ cls := "PaceStore", name := "image", desc := "(I)I" } : Jvm.MethodName)) ∈ z_U := z_U_4 (i := 215) rfl rfl
theorem u_1023 : (Jvm.Cond.selects "PaceStore" ({ cls := "PaceStore", name := "image", desc := "(I)I" } : Jvm.MethodName) ({ cls := "PaceStore", name := "image", desc := "(I)I" } : Jvm.MethodName)) ∈ z_U := z_U_4 (i := 216) rfl rfl
theorem u_1024 : (Jvm.Cond.code ({ cls := "PaceStore", name := "image", desc := "(I)I" } : Jvm.MethodName) prog_1_method_28_code (2 : Nat) (Option.some Jvm.ClassFile.FieldType.int)) ∈ z_U := z_U_4 (i := 217) rfl rfl
theorem u_1025 : (Jvm.Cond.methodLink "PaceStore" (301 : Nat) ({ cls := "PaceStore$Results", name := "become", desc := "(LPaceStore$Results;)V" } : Jvm.MethodName)) ∈ z_U := z_U_4 (i := 218) rfl rfl
theorem u_1026 : (Jvm.Cond.instanceMethod ({ cls := "PaceStore$Results", name := "become", desc := "(LPaceStore$Results;)V" } : Jvm.MethodName)) ∈ z_U := z_U_4 (i := 219) rfl rfl
theorem u_1027 : (Jvm.Cond.selects "PaceStore$Results" ({ cls := "PaceStore$Results", name := "become", desc := "(LPaceStore$Results;)V" } : Jvm.MethodName) ({ cls := "PaceStore$Results", name := "become", desc := "(LPaceStore$Results;)V" } : Jvm.MethodName)) ∈ z_U := z_U_4 (i := 220) rfl rfl
theorem u_1028 : (Jvm.Cond.code ({ cls := "PaceStore$Results", name := "become", desc := "(LPaceStore$Results;)V" } : Jvm.MethodName) prog_8_method_2_code (3 : Nat) (Option.none : Option Jvm.ClassFile.FieldType)) ∈ z_U := z_U_4 (i := 221) rfl rfl
theorem u_1029 : (Jvm.Cond.methodLink "PaceStore$Results" (28 : Nat) ({ cls := "java/lang/System", name := "arraycopy", desc := "(Ljava/lang/Object;ILjava/lang/Object;II)V" } : Jvm.MethodName)) ∈ z_U := z_U_4 (i := 222) rfl rfl
theorem u_1030 : (Jvm.Cond.methodLink "PaceStoreLaw" (114 : Nat) ({ cls := "PaceStore", name := "restore", desc := "(I)I" } : Jvm.MethodName)) ∈ z_U := z_U_4 (i := 223) rfl rfl
theorem u_1031 : (Jvm.Cond.instanceMethod ({ cls := "PaceStore", name := "restore", desc := "(I)I" } : Jvm.MethodName)) ∈ z_U := z_U_4 (i := 224) rfl rfl
theorem u_1032 : (Jvm.Cond.selects "PaceStore" ({ cls := "PaceStore", name := "restore", desc := "(I)I" } : Jvm.MethodName) ({ cls := "PaceStore", name := "restore", desc := "(I)I" } : Jvm.MethodName)) ∈ z_U := z_U_4 (i := 225) rfl rfl
theorem u_1033 : (Jvm.Cond.code ({ cls := "PaceStore", name := "restore", desc := "(I)I" } : Jvm.MethodName) prog_1_method_29_code (2 : Nat) (Option.some Jvm.ClassFile.FieldType.int)) ∈ z_U := z_U_4 (i := 226) rfl rfl
theorem u_1034 : (Jvm.Cond.methodLink "PaceStoreLaw" (118 : Nat) ({ cls := "PaceStore", name := "kind", desc := "(II)I" } : Jvm.MethodName)) ∈ z_U := z_U_4 (i := 227) rfl rfl
theorem u_1035 : (Jvm.Cond.instanceMethod ({ cls := "PaceStore", name := "kind", desc := "(II)I" } : Jvm.MethodName)) ∈ z_U := z_U_4 (i := 228) rfl rfl
theorem u_1036 : (Jvm.Cond.selects "PaceStore" ({ cls := "PaceStore", name := "kind", desc := "(II)I" } : Jvm.MethodName) ({ cls := "PaceStore", name := "kind", desc := "(II)I" } : Jvm.MethodName)) ∈ z_U := z_U_4 (i := 229) rfl rfl
theorem u_1037 : (Jvm.Cond.code ({ cls := "PaceStore", name := "kind", desc := "(II)I" } : Jvm.MethodName) prog_1_method_30_code (3 : Nat) (Option.some Jvm.ClassFile.FieldType.int)) ∈ z_U := z_U_4 (i := 230) rfl rfl
theorem u_1038 : (Jvm.Cond.methodLink "PaceStore" (304 : Nat) ({ cls := "PaceStore$Results", name := "kindOf", desc := "(II)I" } : Jvm.MethodName)) ∈ z_U := z_U_4 (i := 231) rfl rfl
theorem u_1039 : (Jvm.Cond.instanceMethod ({ cls := "PaceStore$Results", name := "kindOf", desc := "(II)I" } : Jvm.MethodName)) ∈ z_U := z_U_4 (i := 232) rfl rfl
theorem u_1040 : (Jvm.Cond.selects "PaceStore$Results" ({ cls := "PaceStore$Results", name := "kindOf", desc := "(II)I" } : Jvm.MethodName) ({ cls := "PaceStore$Results", name := "kindOf", desc := "(II)I" } : Jvm.MethodName)) ∈ z_U := z_U_4 (i := 233) rfl rfl
theorem u_1041 : (Jvm.Cond.code ({ cls := "PaceStore$Results", name := "kindOf", desc := "(II)I" } : Jvm.MethodName) prog_8_method_6_code (4 : Nat) (Option.some Jvm.ClassFile.FieldType.int)) ∈ z_U := z_U_4 (i := 234) rfl rfl
theorem u_1042 : (Jvm.Cond.methodLink "PaceStore$Results" (58 : Nat) ({ cls := "PaceStore$Results", name := "told", desc := "(III)I" } : Jvm.MethodName)) ∈ z_U := z_U_4 (i := 235) rfl rfl
theorem u_1043 : (Jvm.Cond.methodLink "PaceStoreLaw" (122 : Nat) ({ cls := "PaceStore", name := "as", desc := "(III)I" } : Jvm.MethodName)) ∈ z_U := z_U_4 (i := 236) rfl rfl
theorem u_1044 : (Jvm.Cond.instanceMethod ({ cls := "PaceStore", name := "as", desc := "(III)I" } : Jvm.MethodName)) ∈ z_U := z_U_4 (i := 237) rfl rfl
theorem u_1045 : (Jvm.Cond.selects "PaceStore" ({ cls := "PaceStore", name := "as", desc := "(III)I" } : Jvm.MethodName) ({ cls := "PaceStore", name := "as", desc := "(III)I" } : Jvm.MethodName)) ∈ z_U := z_U_4 (i := 238) rfl rfl
theorem u_1046 : (Jvm.Cond.code ({ cls := "PaceStore", name := "as", desc := "(III)I" } : Jvm.MethodName) prog_1_method_31_code (4 : Nat) (Option.some Jvm.ClassFile.FieldType.int)) ∈ z_U := z_U_4 (i := 239) rfl rfl
theorem u_1047 : (Jvm.Cond.methodLink "PaceStore" (307 : Nat) ({ cls := "PaceStore$Step", name := "isOne", desc := "(II)Z" } : Jvm.MethodName)) ∈ z_U := z_U_5 (i := 0) rfl rfl
theorem u_1048 : (Jvm.Cond.static ({ cls := "PaceStore$Step", name := "isOne", desc := "(II)Z" } : Jvm.MethodName)) ∈ z_U := z_U_5 (i := 1) rfl rfl
theorem u_1049 : (Jvm.Cond.code ({ cls := "PaceStore$Step", name := "isOne", desc := "(II)Z" } : Jvm.MethodName) prog_10_method_2_code (4 : Nat) (Option.some Jvm.ClassFile.FieldType.boolean)) ∈ z_U := z_U_5 (i := 2) rfl rfl
theorem u_1051 : (Jvm.Cond.fieldLink "PaceStore$Step" (19 : Nat) "PaceStore$Step" "NEAREST" "[I") ∈ z_U := z_U_5 (i := 4) rfl rfl
theorem u_1053 : (Jvm.Cond.methodLink "PaceStoreLaw" (126 : Nat) ({ cls := "PaceStore", name := "ask", desc := "(III)I" } : Jvm.MethodName)) ∈ z_U := z_U_5 (i := 6) rfl rfl
theorem u_1054 : (Jvm.Cond.instanceMethod ({ cls := "PaceStore", name := "ask", desc := "(III)I" } : Jvm.MethodName)) ∈ z_U := z_U_5 (i := 7) rfl rfl
theorem u_1055 : (Jvm.Cond.selects "PaceStore" ({ cls := "PaceStore", name := "ask", desc := "(III)I" } : Jvm.MethodName) ({ cls := "PaceStore", name := "ask", desc := "(III)I" } : Jvm.MethodName)) ∈ z_U := z_U_5 (i := 8) rfl rfl
theorem u_1056 : (Jvm.Cond.code ({ cls := "PaceStore", name := "ask", desc := "(III)I" } : Jvm.MethodName) prog_1_method_32_code (4 : Nat) (Option.some Jvm.ClassFile.FieldType.int)) ∈ z_U := z_U_5 (i := 9) rfl rfl
theorem u_1057 : (Jvm.Cond.methodLink "PaceStore" (310 : Nat) ({ cls := "PaceStore$Step", name := "take", desc := "(LPaceStore$Results;II)V" } : Jvm.MethodName)) ∈ z_U := z_U_5 (i := 10) rfl rfl
theorem u_1058 : (Jvm.Cond.instanceMethod ({ cls := "PaceStore$Step", name := "take", desc := "(LPaceStore$Results;II)V" } : Jvm.MethodName)) ∈ z_U := z_U_5 (i := 11) rfl rfl
theorem u_1059 : (Jvm.Cond.selects "PaceStore$Step" ({ cls := "PaceStore$Step", name := "take", desc := "(LPaceStore$Results;II)V" } : Jvm.MethodName) ({ cls := "PaceStore$Step", name := "take", desc := "(LPaceStore$Results;II)V" } : Jvm.MethodName)) ∈ z_U := z_U_5 (i := 12) rfl rfl
theorem u_1060 : (Jvm.Cond.code ({ cls := "PaceStore$Step", name := "take", desc := "(LPaceStore$Results;II)V" } : Jvm.MethodName) prog_10_method_3_code (4 : Nat) (Option.none : Option Jvm.ClassFile.FieldType)) ∈ z_U := z_U_5 (i := 13) rfl rfl
theorem u_1061 : (Jvm.Cond.methodLink "PaceStore$Step" (26 : Nat) ({ cls := "PaceStore$Results", name := "kindOf", desc := "(II)I" } : Jvm.MethodName)) ∈ z_U := z_U_5 (i := 14) rfl rfl
theorem u_1062 : (Jvm.Cond.methodLink "PaceStore$Step" (38 : Nat) ({ cls := "PaceStore$Results", name := "told", desc := "(III)I" } : Jvm.MethodName)) ∈ z_U := z_U_5 (i := 15) rfl rfl
theorem u_1063 : (Jvm.Cond.methodLink "PaceStore" (314 : Nat) ({ cls := "PaceStore$Step", name := "size", desc := "()I" } : Jvm.MethodName)) ∈ z_U := z_U_5 (i := 16) rfl rfl
theorem u_1064 : (Jvm.Cond.instanceMethod ({ cls := "PaceStore$Step", name := "size", desc := "()I" } : Jvm.MethodName)) ∈ z_U := z_U_5 (i := 17) rfl rfl
theorem u_1065 : (Jvm.Cond.selects "PaceStore$Step" ({ cls := "PaceStore$Step", name := "size", desc := "()I" } : Jvm.MethodName) ({ cls := "PaceStore$Step", name := "size", desc := "()I" } : Jvm.MethodName)) ∈ z_U := z_U_5 (i := 18) rfl rfl
theorem u_1066 : (Jvm.Cond.code ({ cls := "PaceStore$Step", name := "size", desc := "()I" } : Jvm.MethodName) prog_10_method_4_code (1 : Nat) (Option.some Jvm.ClassFile.FieldType.int)) ∈ z_U := z_U_5 (i := 19) rfl rfl
theorem u_1067 : (Jvm.Cond.fieldLink "PaceStore$Step" (51 : Nat) "PaceStore$Step" "SIZE_BODIES" "[I") ∈ z_U := z_U_5 (i := 20) rfl rfl
theorem u_1069 : (Jvm.Cond.methodLink "PaceStore$Step" (54 : Nat) ({ cls := "PaceStore$Step", name := "answer", desc := "(II)I" } : Jvm.MethodName)) ∈ z_U := z_U_5 (i := 22) rfl rfl
theorem u_1071 : (Jvm.Cond.instanceMethod ({ cls := "PaceStore$Step", name := "answer", desc := "(II)I" } : Jvm.MethodName)) ∈ z_U := z_U_5 (i := 24) rfl rfl
theorem u_1072 : (Jvm.Cond.code ({ cls := "PaceStore$Step", name := "answer", desc := "(II)I" } : Jvm.MethodName) prog_10_method_6_code (3 : Nat) (Option.some Jvm.ClassFile.FieldType.int)) ∈ z_U := z_U_5 (i := 25) rfl rfl
theorem u_1073 : (Jvm.Cond.methodLink "PaceStore$Step" (60 : Nat) ({ cls := "PaceStore$Step", name := "leaveNumber", desc := "(I)V" } : Jvm.MethodName)) ∈ z_U := z_U_5 (i := 26) rfl rfl
theorem u_1075 : (Jvm.Cond.instanceMethod ({ cls := "PaceStore$Step", name := "leaveNumber", desc := "(I)V" } : Jvm.MethodName)) ∈ z_U := z_U_5 (i := 28) rfl rfl
theorem u_1076 : (Jvm.Cond.code ({ cls := "PaceStore$Step", name := "leaveNumber", desc := "(I)V" } : Jvm.MethodName) prog_10_method_7_code (2 : Nat) (Option.none : Option Jvm.ClassFile.FieldType)) ∈ z_U := z_U_5 (i := 29) rfl rfl
theorem u_1077 : (Jvm.Cond.fieldLink "PaceStore$Step" (57 : Nat) "PaceStore$Step" "MARK_BODIES" "[I") ∈ z_U := z_U_5 (i := 30) rfl rfl
theorem u_1079 : (Jvm.Cond.methodLink "PaceStore" (316 : Nat) ({ cls := "PaceStore$Step", name := "mark", desc := "()I" } : Jvm.MethodName)) ∈ z_U := z_U_5 (i := 32) rfl rfl
theorem u_1080 : (Jvm.Cond.instanceMethod ({ cls := "PaceStore$Step", name := "mark", desc := "()I" } : Jvm.MethodName)) ∈ z_U := z_U_5 (i := 33) rfl rfl
theorem u_1081 : (Jvm.Cond.selects "PaceStore$Step" ({ cls := "PaceStore$Step", name := "mark", desc := "()I" } : Jvm.MethodName) ({ cls := "PaceStore$Step", name := "mark", desc := "()I" } : Jvm.MethodName)) ∈ z_U := z_U_5 (i := 34) rfl rfl
theorem u_1082 : (Jvm.Cond.code ({ cls := "PaceStore$Step", name := "mark", desc := "()I" } : Jvm.MethodName) prog_10_method_5_code (1 : Nat) (Option.some Jvm.ClassFile.FieldType.int)) ∈ z_U := z_U_5 (i := 35) rfl rfl
theorem u_1083 : (Jvm.Cond.methodLink "PaceStoreLaw" (130 : Nat) ({ cls := "PaceStore", name := "trace", desc := "(I)I" } : Jvm.MethodName)) ∈ z_U := z_U_5 (i := 36) rfl rfl
theorem u_1084 : (Jvm.Cond.instanceMethod ({ cls := "PaceStore", name := "trace", desc := "(I)I" } : Jvm.MethodName)) ∈ z_U := z_U_5 (i := 37) rfl rfl
theorem u_1085 : (Jvm.Cond.selects "PaceStore" ({ cls := "PaceStore", name := "trace", desc := "(I)I" } : Jvm.MethodName) ({ cls := "PaceStore", name := "trace", desc := "(I)I" } : Jvm.MethodName)) ∈ z_U := z_U_5 (i := 38) rfl rfl
theorem u_1086 : (Jvm.Cond.code ({ cls := "PaceStore", name := "trace", desc := "(I)I" } : Jvm.MethodName) prog_1_method_33_code (2 : Nat) (Option.some Jvm.ClassFile.FieldType.int)) ∈ z_U := z_U_5 (i := 39) rfl rfl
theorem u_1087 : (Jvm.Cond.methodLink "PaceStoreLaw" (134 : Nat) ({ cls := "PaceStore", name := "count", desc := "(I)I" } : Jvm.MethodName)) ∈ z_U := z_U_5 (i := 40) rfl rfl
theorem u_1088 : (Jvm.Cond.instanceMethod ({ cls := "PaceStore", name := "count", desc := "(I)I" } : Jvm.MethodName)) ∈ z_U := z_U_5 (i := 41) rfl rfl
theorem u_1089 : (Jvm.Cond.selects "PaceStore" ({ cls := "PaceStore", name := "count", desc := "(I)I" } : Jvm.MethodName) ({ cls := "PaceStore", name := "count", desc := "(I)I" } : Jvm.MethodName)) ∈ z_U := z_U_5 (i := 42) rfl rfl
theorem u_1090 : (Jvm.Cond.code ({ cls := "PaceStore", name := "count", desc := "(I)I" } : Jvm.MethodName) prog_1_method_34_code (2 : Nat) (Option.some Jvm.ClassFile.FieldType.int)) ∈ z_U := z_U_5 (i := 43) rfl rfl
theorem u_1091 : (Jvm.Cond.methodLink "PaceStore" (325 : Nat) ({ cls := "PaceStore", name := "sheetsThere", desc := "()I" } : Jvm.MethodName)) ∈ z_U := z_U_5 (i := 44) rfl rfl
theorem u_1093 : (Jvm.Cond.instanceMethod ({ cls := "PaceStore", name := "sheetsThere", desc := "()I" } : Jvm.MethodName)) ∈ z_U := z_U_5 (i := 46) rfl rfl
theorem u_1094 : (Jvm.Cond.code ({ cls := "PaceStore", name := "sheetsThere", desc := "()I" } : Jvm.MethodName) prog_1_method_36_code (3 : Nat) (Option.some Jvm.ClassFile.FieldType.int)) ∈ z_U := z_U_5 (i := 47) rfl rfl
theorem u_1095 : (Jvm.Cond.methodLink "PaceStore" (328 : Nat) ({ cls := "PaceStore$Course", name := "rulesOfAll", desc := "()I" } : Jvm.MethodName)) ∈ z_U := z_U_5 (i := 48) rfl rfl
theorem u_1096 : (Jvm.Cond.instanceMethod ({ cls := "PaceStore$Course", name := "rulesOfAll", desc := "()I" } : Jvm.MethodName)) ∈ z_U := z_U_5 (i := 49) rfl rfl
theorem u_1097 : (Jvm.Cond.selects "PaceStore$Course" ({ cls := "PaceStore$Course", name := "rulesOfAll", desc := "()I" } : Jvm.MethodName) ({ cls := "PaceStore$Course", name := "rulesOfAll", desc := "()I" } : Jvm.MethodName)) ∈ z_U := z_U_5 (i := 50) rfl rfl
theorem u_1098 : (Jvm.Cond.code ({ cls := "PaceStore$Course", name := "rulesOfAll", desc := "()I" } : Jvm.MethodName) prog_4_method_7_code (3 : Nat) (Option.some Jvm.ClassFile.FieldType.int)) ∈ z_U := z_U_5 (i := 51) rfl rfl
theorem u_1099 : (Jvm.Cond.methodLink "PaceStoreLaw" (138 : Nat) ({ cls := "PaceStore", name := "status", desc := "()I" } : Jvm.MethodName)) ∈ z_U := z_U_5 (i := 52) rfl rfl
theorem u_1100 : (Jvm.Cond.instanceMethod ({ cls := "PaceStore", name := "status", desc := "()I" } : Jvm.MethodName)) ∈ z_U := z_U_5 (i := 53) rfl rfl
theorem u_1101 : (Jvm.Cond.selects "PaceStore" ({ cls := "PaceStore", name := "status", desc := "()I" } : Jvm.MethodName) ({ cls := "PaceStore", name := "status", desc := "()I" } : Jvm.MethodName)) ∈ z_U := z_U_5 (i := 54) rfl rfl
theorem u_1102 : (Jvm.Cond.code ({ cls := "PaceStore", name := "status", desc := "()I" } : Jvm.MethodName) prog_1_method_35_code (1 : Nat) (Option.some Jvm.ClassFile.FieldType.int)) ∈ z_U := z_U_5 (i := 55) rfl rfl
theorem u_1109 : (Jvm.Cond.fieldLink "PaceStoreModel" (7 : Nat) "PaceStoreModel" "now" "[I") ∈ z_U := z_U_5 (i := 62) rfl rfl
theorem u_1110 : (Jvm.Cond.fieldLink "PaceStoreModel" (13 : Nat) "PaceStoreModel" "spare" "[I") ∈ z_U := z_U_5 (i := 63) rfl rfl
theorem u_1111 : (Jvm.Cond.fieldLink "PaceStoreModel" (16 : Nat) "PaceStoreModel" "kept" "[I") ∈ z_U := z_U_5 (i := 64) rfl rfl
theorem u_1112 : (Jvm.Cond.fieldLink "PaceStoreModel" (19 : Nat) "PaceStoreModel" "isKept" "[Z") ∈ z_U := z_U_5 (i := 65) rfl rfl
theorem u_1113 : (Jvm.Cond.fieldLink "PaceStoreModel" (23 : Nat) "PaceStoreModel" "tape" "[I") ∈ z_U := z_U_5 (i := 66) rfl rfl
theorem u_1114 : (Jvm.Cond.fieldLink "PaceStoreModel" (96 : Nat) "PaceStoreModel" "tapeLong" "I") ∈ z_U := z_U_5 (i := 67) rfl rfl
theorem u_1115 : (Jvm.Cond.fieldLink "PaceStoreModel" (135 : Nat) "PaceStoreModel" "faultNumber" "I") ∈ z_U := z_U_5 (i := 68) rfl rfl
theorem u_1116 : (Jvm.Cond.fieldLink "PaceStoreModel" (71 : Nat) "PaceStoreModel" "finding" "I") ∈ z_U := z_U_5 (i := 69) rfl rfl
theorem u_1117 : (Jvm.Cond.fieldLink "PaceStoreModel" (26 : Nat) "PaceStoreModel" "lanes" "[I") ∈ z_U := z_U_5 (i := 70) rfl rfl
theorem u_1118 : (Jvm.Cond.fieldLink "PaceStoreModel" (29 : Nat) "PaceStoreModel" "sizes" "[I") ∈ z_U := z_U_5 (i := 71) rfl rfl
theorem u_1119 : (Jvm.Cond.fieldLink "PaceStoreModel" (32 : Nat) "PaceStoreModel" "isThere" "[Z") ∈ z_U := z_U_5 (i := 72) rfl rfl
theorem u_1120 : (Jvm.Cond.fieldLink "PaceStoreModel" (35 : Nat) "PaceStoreModel" "items" "[I") ∈ z_U := z_U_5 (i := 73) rfl rfl
theorem u_1121 : (Jvm.Cond.fieldLink "PaceStoreModel" (113 : Nat) "PaceStoreModel" "at" "I") ∈ z_U := z_U_5 (i := 74) rfl rfl
theorem u_1122 : (Jvm.Cond.fieldLink "PaceStoreModel" (116 : Nat) "PaceStoreModel" "size" "I") ∈ z_U := z_U_5 (i := 75) rfl rfl
theorem u_1123 : (Jvm.Cond.fieldLink "PaceStoreModel" (119 : Nat) "PaceStoreModel" "token" "I") ∈ z_U := z_U_5 (i := 76) rfl rfl
theorem u_1124 : (Jvm.Cond.fieldLink "PaceStoreModel" (122 : Nat) "PaceStoreModel" "value" "I") ∈ z_U := z_U_5 (i := 77) rfl rfl
theorem u_1125 : (Jvm.Cond.fieldLink "PaceStoreModel" (106 : Nat) "PaceStoreModel" "tapeEnd" "I") ∈ z_U := z_U_5 (i := 78) rfl rfl
theorem u_1126 : (Jvm.Cond.fieldLink "PaceStoreModel" (141 : Nat) "PaceStoreModel" "read" "I") ∈ z_U := z_U_5 (i := 79) rfl rfl
theorem u_1127 : (Jvm.Cond.fieldLink "PaceStoreModel" (38 : Nat) "PaceStoreModel" "hourHeat" "[I") ∈ z_U := z_U_5 (i := 80) rfl rfl
theorem u_1128 : (Jvm.Cond.fieldLink "PaceStoreModel" (41 : Nat) "PaceStoreModel" "paces" "[I") ∈ z_U := z_U_5 (i := 81) rfl rfl
theorem u_1129 : (Jvm.Cond.fieldLink "PaceStoreModel" (44 : Nat) "PaceStoreModel" "lefts" "[I") ∈ z_U := z_U_5 (i := 82) rfl rfl
theorem u_1130 : (Jvm.Cond.fieldLink "PaceStoreModel" (47 : Nat) "PaceStoreModel" "times" "[I") ∈ z_U := z_U_5 (i := 83) rfl rfl
theorem u_1131 : (Jvm.Cond.fieldLink "PaceStoreModel" (50 : Nat) "PaceStoreModel" "runs" "[Z") ∈ z_U := z_U_5 (i := 84) rfl rfl
theorem u_1132 : (Jvm.Cond.fieldLink "PaceStoreModel" (53 : Nat) "PaceStoreModel" "shelters" "[Z") ∈ z_U := z_U_5 (i := 85) rfl rfl
theorem u_1133 : (Jvm.Cond.fieldLink "PaceStoreModel" (220 : Nat) "PaceStoreModel" "took" "I") ∈ z_U := z_U_5 (i := 86) rfl rfl
theorem u_1134 : (Jvm.Cond.fieldLink "PaceStoreModel" (210 : Nat) "PaceStoreModel" "isOut" "Z") ∈ z_U := z_U_5 (i := 87) rfl rfl
theorem u_1135 : (Jvm.Cond.fieldLink "PaceStoreModel" (56 : Nat) "PaceStoreModel" "least" "[I") ∈ z_U := z_U_5 (i := 88) rfl rfl
theorem u_1136 : (Jvm.Cond.fieldLink "PaceStoreModel" (59 : Nat) "PaceStoreModel" "games" "[I") ∈ z_U := z_U_5 (i := 89) rfl rfl
theorem u_1137 : (Jvm.Cond.fieldLink "PaceStoreModel" (62 : Nat) "PaceStoreModel" "traced" "[I") ∈ z_U := z_U_5 (i := 90) rfl rfl
theorem u_1138 : (Jvm.Cond.fieldLink "PaceStoreModel" (345 : Nat) "PaceStoreModel" "traceMany" "I") ∈ z_U := z_U_5 (i := 91) rfl rfl
theorem u_1139 : (Jvm.Cond.lays "PaceStoreModel" "PaceStoreModel" "now" "[I") ∈ z_U := z_U_5 (i := 92) rfl rfl
theorem u_1141 : (Jvm.Cond.lays "PaceStoreModel" "PaceStoreModel" "spare" "[I") ∈ z_U := z_U_5 (i := 94) rfl rfl
theorem u_1143 : (Jvm.Cond.laysFinal "PaceStoreModel" "PaceStoreModel" "kept" "[I") ∈ z_U := z_U_5 (i := 96) rfl rfl
theorem u_1145 : (Jvm.Cond.laysFinal "PaceStoreModel" "PaceStoreModel" "isKept" "[Z") ∈ z_U := z_U_5 (i := 98) rfl rfl
theorem u_1147 : (Jvm.Cond.laysFinal "PaceStoreModel" "PaceStoreModel" "tape" "[I") ∈ z_U := z_U_5 (i := 100) rfl rfl
theorem u_1149 : (Jvm.Cond.lays "PaceStoreModel" "PaceStoreModel" "tapeLong" "I") ∈ z_U := z_U_5 (i := 102) rfl rfl
theorem u_1151 : (Jvm.Cond.lays "PaceStoreModel" "PaceStoreModel" "faultNumber" "I") ∈ z_U := z_U_5 (i := 104) rfl rfl
theorem u_1153 : (Jvm.Cond.lays "PaceStoreModel" "PaceStoreModel" "finding" "I") ∈ z_U := z_U_5 (i := 106) rfl rfl
theorem u_1155 : (Jvm.Cond.laysFinal "PaceStoreModel" "PaceStoreModel" "lanes" "[I") ∈ z_U := z_U_5 (i := 108) rfl rfl
theorem u_1157 : (Jvm.Cond.laysFinal "PaceStoreModel" "PaceStoreModel" "sizes" "[I") ∈ z_U := z_U_5 (i := 110) rfl rfl
theorem u_1159 : (Jvm.Cond.laysFinal "PaceStoreModel" "PaceStoreModel" "isThere" "[Z") ∈ z_U := z_U_5 (i := 112) rfl rfl
theorem u_1161 : (Jvm.Cond.laysFinal "PaceStoreModel" "PaceStoreModel" "items" "[I") ∈ z_U := z_U_5 (i := 114) rfl rfl
theorem u_1163 : (Jvm.Cond.lays "PaceStoreModel" "PaceStoreModel" "at" "I") ∈ z_U := z_U_5 (i := 116) rfl rfl
theorem u_1165 : (Jvm.Cond.lays "PaceStoreModel" "PaceStoreModel" "size" "I") ∈ z_U := z_U_5 (i := 118) rfl rfl
theorem u_1167 : (Jvm.Cond.lays "PaceStoreModel" "PaceStoreModel" "token" "I") ∈ z_U := z_U_5 (i := 120) rfl rfl
theorem u_1169 : (Jvm.Cond.lays "PaceStoreModel" "PaceStoreModel" "value" "I") ∈ z_U := z_U_5 (i := 122) rfl rfl
theorem u_1171 : (Jvm.Cond.lays "PaceStoreModel" "PaceStoreModel" "tapeEnd" "I") ∈ z_U := z_U_5 (i := 124) rfl rfl
theorem u_1173 : (Jvm.Cond.lays "PaceStoreModel" "PaceStoreModel" "read" "I") ∈ z_U := z_U_5 (i := 126) rfl rfl
theorem u_1175 : (Jvm.Cond.laysFinal "PaceStoreModel" "PaceStoreModel" "hourHeat" "[I") ∈ z_U := z_U_5 (i := 128) rfl rfl
theorem u_1177 : (Jvm.Cond.laysFinal "PaceStoreModel" "PaceStoreModel" "paces" "[I") ∈ z_U := z_U_5 (i := 130) rfl rfl
theorem u_1179 : (Jvm.Cond.laysFinal "PaceStoreModel" "PaceStoreModel" "lefts" "[I") ∈ z_U := z_U_5 (i := 132) rfl rfl
theorem u_1181 : (Jvm.Cond.laysFinal "PaceStoreModel" "PaceStoreModel" "times" "[I") ∈ z_U := z_U_5 (i := 134) rfl rfl
theorem u_1183 : (Jvm.Cond.laysFinal "PaceStoreModel" "PaceStoreModel" "runs" "[Z") ∈ z_U := z_U_5 (i := 136) rfl rfl
theorem u_1185 : (Jvm.Cond.laysFinal "PaceStoreModel" "PaceStoreModel" "shelters" "[Z") ∈ z_U := z_U_5 (i := 138) rfl rfl
theorem u_1187 : (Jvm.Cond.lays "PaceStoreModel" "PaceStoreModel" "took" "I") ∈ z_U := z_U_5 (i := 140) rfl rfl
theorem u_1189 : (Jvm.Cond.lays "PaceStoreModel" "PaceStoreModel" "isOut" "Z") ∈ z_U := z_U_5 (i := 142) rfl rfl
theorem u_1191 : (Jvm.Cond.laysFinal "PaceStoreModel" "PaceStoreModel" "least" "[I") ∈ z_U := z_U_5 (i := 144) rfl rfl
theorem u_1193 : (Jvm.Cond.laysFinal "PaceStoreModel" "PaceStoreModel" "games" "[I") ∈ z_U := z_U_5 (i := 146) rfl rfl
theorem u_1195 : (Jvm.Cond.laysFinal "PaceStoreModel" "PaceStoreModel" "traced" "[I") ∈ z_U := z_U_5 (i := 148) rfl rfl
theorem u_1197 : (Jvm.Cond.lays "PaceStoreModel" "PaceStoreModel" "traceMany" "I") ∈ z_U := z_U_5 (i := 150) rfl rfl
theorem u_1201 : (Jvm.Cond.methodLink "PaceStoreLaw" (17 : Nat) ({ cls := "PaceStoreModel", name := "sheet", desc := "(III)I" } : Jvm.MethodName)) ∈ z_U := z_U_5 (i := 154) rfl rfl
theorem u_1202 : (Jvm.Cond.instanceMethod ({ cls := "PaceStoreModel", name := "sheet", desc := "(III)I" } : Jvm.MethodName)) ∈ z_U := z_U_5 (i := 155) rfl rfl
theorem u_1203 : (Jvm.Cond.selects "PaceStoreModel" ({ cls := "PaceStoreModel", name := "sheet", desc := "(III)I" } : Jvm.MethodName) ({ cls := "PaceStoreModel", name := "sheet", desc := "(III)I" } : Jvm.MethodName)) ∈ z_U := z_U_5 (i := 156) rfl rfl
theorem u_1204 : (Jvm.Cond.code ({ cls := "PaceStoreModel", name := "sheet", desc := "(III)I" } : Jvm.MethodName) prog_12_method_7_code (5 : Nat) (Option.some Jvm.ClassFile.FieldType.int)) ∈ z_U := z_U_5 (i := 157) rfl rfl
theorem u_1205 : (Jvm.Cond.methodLink "PaceStoreModel" (76 : Nat) ({ cls := "PaceStoreModel", name := "isSheet", desc := "(I)Z" } : Jvm.MethodName)) ∈ z_U := z_U_5 (i := 158) rfl rfl
theorem u_1206 : (Jvm.Cond.static ({ cls := "PaceStoreModel", name := "isSheet", desc := "(I)Z" } : Jvm.MethodName)) ∈ z_U := z_U_5 (i := 159) rfl rfl
theorem u_1207 : (Jvm.Cond.code ({ cls := "PaceStoreModel", name := "isSheet", desc := "(I)Z" } : Jvm.MethodName) prog_12_method_4_code (1 : Nat) (Option.some Jvm.ClassFile.FieldType.boolean)) ∈ z_U := z_U_5 (i := 160) rfl rfl
theorem u_1208 : (Jvm.Cond.constantLong "PaceStoreModel" (65 : Nat) (7 : Int64)) ∈ z_U := z_U_5 (i := 161) rfl rfl
theorem u_1209 : (Jvm.Cond.methodLink "PaceStoreModel" (67 : Nat) ({ cls := "PaceStoreModel", name := "in", desc := "(JJJ)Z" } : Jvm.MethodName)) ∈ z_U := z_U_5 (i := 162) rfl rfl
theorem u_1210 : (Jvm.Cond.static ({ cls := "PaceStoreModel", name := "in", desc := "(JJJ)Z" } : Jvm.MethodName)) ∈ z_U := z_U_5 (i := 163) rfl rfl
theorem u_1211 : (Jvm.Cond.code ({ cls := "PaceStoreModel", name := "in", desc := "(JJJ)Z" } : Jvm.MethodName) prog_12_method_3_code (6 : Nat) (Option.some Jvm.ClassFile.FieldType.boolean)) ∈ z_U := z_U_5 (i := 164) rfl rfl
theorem u_1212 : (Jvm.Cond.constantLong "PaceStoreModel" (80 : Nat) (2 : Int64)) ∈ z_U := z_U_5 (i := 165) rfl rfl
theorem u_1213 : (Jvm.Cond.constant "PaceStoreModel" (82 : Nat) (-1000001 : Int32)) ∈ z_U := z_U_5 (i := 166) rfl rfl
theorem u_1214 : (Jvm.Cond.methodLink "PaceStoreModel" (83 : Nat) ({ cls := "PaceStoreModel", name := "found", desc := "(I)I" } : Jvm.MethodName)) ∈ z_U := z_U_5 (i := 167) rfl rfl
theorem u_1216 : (Jvm.Cond.instanceMethod ({ cls := "PaceStoreModel", name := "found", desc := "(I)I" } : Jvm.MethodName)) ∈ z_U := z_U_5 (i := 169) rfl rfl
theorem u_1217 : (Jvm.Cond.code ({ cls := "PaceStoreModel", name := "found", desc := "(I)I" } : Jvm.MethodName) prog_12_method_5_code (2 : Nat) (Option.some Jvm.ClassFile.FieldType.int)) ∈ z_U := z_U_5 (i := 170) rfl rfl
theorem u_1218 : (Jvm.Cond.constant "PaceStoreModel" (75 : Nat) (-1000010 : Int32)) ∈ z_U := z_U_5 (i := 171) rfl rfl
theorem u_1219 : (Jvm.Cond.methodLink "PaceStoreModel" (87 : Nat) ({ cls := "PaceStoreModel", name := "through", desc := "(I)I" } : Jvm.MethodName)) ∈ z_U := z_U_5 (i := 172) rfl rfl
theorem u_1221 : (Jvm.Cond.instanceMethod ({ cls := "PaceStoreModel", name := "through", desc := "(I)I" } : Jvm.MethodName)) ∈ z_U := z_U_5 (i := 174) rfl rfl
theorem u_1222 : (Jvm.Cond.code ({ cls := "PaceStoreModel", name := "through", desc := "(I)I" } : Jvm.MethodName) prog_12_method_6_code (2 : Nat) (Option.some Jvm.ClassFile.FieldType.int)) ∈ z_U := z_U_5 (i := 175) rfl rfl
theorem u_1223 : (Jvm.Cond.methodLink "PaceStoreLaw" (21 : Nat) ({ cls := "PaceStoreModel", name := "set", desc := "(III)I" } : Jvm.MethodName)) ∈ z_U := z_U_5 (i := 176) rfl rfl
theorem u_1224 : (Jvm.Cond.instanceMethod ({ cls := "PaceStoreModel", name := "set", desc := "(III)I" } : Jvm.MethodName)) ∈ z_U := z_U_5 (i := 177) rfl rfl
theorem u_1225 : (Jvm.Cond.selects "PaceStoreModel" ({ cls := "PaceStoreModel", name := "set", desc := "(III)I" } : Jvm.MethodName) ({ cls := "PaceStoreModel", name := "set", desc := "(III)I" } : Jvm.MethodName)) ∈ z_U := z_U_5 (i := 178) rfl rfl
theorem u_1226 : (Jvm.Cond.code ({ cls := "PaceStoreModel", name := "set", desc := "(III)I" } : Jvm.MethodName) prog_12_method_8_code (5 : Nat) (Option.some Jvm.ClassFile.FieldType.int)) ∈ z_U := z_U_5 (i := 179) rfl rfl
theorem u_1227 : (Jvm.Cond.methodLink "PaceStoreLaw" (26 : Nat) ({ cls := "PaceStoreModel", name := "copy", desc := "(IIIII)I" } : Jvm.MethodName)) ∈ z_U := z_U_5 (i := 180) rfl rfl
theorem u_1228 : (Jvm.Cond.instanceMethod ({ cls := "PaceStoreModel", name := "copy", desc := "(IIIII)I" } : Jvm.MethodName)) ∈ z_U := z_U_5 (i := 181) rfl rfl
theorem u_1229 : (Jvm.Cond.selects "PaceStoreModel" ({ cls := "PaceStoreModel", name := "copy", desc := "(IIIII)I" } : Jvm.MethodName) ({ cls := "PaceStoreModel", name := "copy", desc := "(IIIII)I" } : Jvm.MethodName)) ∈ z_U := z_U_5 (i := 182) rfl rfl
theorem u_1230 : (Jvm.Cond.code ({ cls := "PaceStoreModel", name := "copy", desc := "(IIIII)I" } : Jvm.MethodName) prog_12_method_10_code (7 : Nat) (Option.some Jvm.ClassFile.FieldType.int)) ∈ z_U := z_U_5 (i := 183) rfl rfl
theorem u_1231 : (Jvm.Cond.methodLink "PaceStoreModel" (90 : Nat) ({ cls := "PaceStoreModel", name := "holds", desc := "(III)Z" } : Jvm.MethodName)) ∈ z_U := z_U_5 (i := 184) rfl rfl
theorem u_1233 : (Jvm.Cond.instanceMethod ({ cls := "PaceStoreModel", name := "holds", desc := "(III)Z" } : Jvm.MethodName)) ∈ z_U := z_U_5 (i := 186) rfl rfl
theorem u_1234 : (Jvm.Cond.code ({ cls := "PaceStoreModel", name := "holds", desc := "(III)Z" } : Jvm.MethodName) prog_12_method_9_code (4 : Nat) (Option.some Jvm.ClassFile.FieldType.boolean)) ∈ z_U := z_U_5 (i := 187) rfl rfl
theorem u_1235 : (Jvm.Cond.methodLink "PaceStoreLaw" (31 : Nat) ({ cls := "PaceStoreModel", name := "drop", desc := "(I)I" } : Jvm.MethodName)) ∈ z_U := z_U_5 (i := 188) rfl rfl
theorem u_1236 : (Jvm.Cond.instanceMethod ({ cls := "PaceStoreModel", name := "drop", desc := "(I)I" } : Jvm.MethodName)) ∈ z_U := z_U_5 (i := 189) rfl rfl
theorem u_1237 : (Jvm.Cond.selects "PaceStoreModel" ({ cls := "PaceStoreModel", name := "drop", desc := "(I)I" } : Jvm.MethodName) ({ cls := "PaceStoreModel", name := "drop", desc := "(I)I" } : Jvm.MethodName)) ∈ z_U := z_U_5 (i := 190) rfl rfl
theorem u_1238 : (Jvm.Cond.code ({ cls := "PaceStoreModel", name := "drop", desc := "(I)I" } : Jvm.MethodName) prog_12_method_11_code (2 : Nat) (Option.some Jvm.ClassFile.FieldType.int)) ∈ z_U := z_U_5 (i := 191) rfl rfl
theorem u_1239 : (Jvm.Cond.methodLink "PaceStoreLaw" (38 : Nat) ({ cls := "PaceStoreModel", name := "feed", desc := "(JI)I" } : Jvm.MethodName)) ∈ z_U := z_U_5 (i := 192) rfl rfl
theorem u_1240 : (Jvm.Cond.instanceMethod ({ cls := "PaceStoreModel", name := "feed", desc := "(JI)I" } : Jvm.MethodName)) ∈ z_U := z_U_5 (i := 193) rfl rfl
theorem u_1241 : (Jvm.Cond.selects "PaceStoreModel" ({ cls := "PaceStoreModel", name := "feed", desc := "(JI)I" } : Jvm.MethodName) ({ cls := "PaceStoreModel", name := "feed", desc := "(JI)I" } : Jvm.MethodName)) ∈ z_U := z_U_5 (i := 194) rfl rfl
theorem u_1242 : (Jvm.Cond.code ({ cls := "PaceStoreModel", name := "feed", desc := "(JI)I" } : Jvm.MethodName) prog_12_method_13_code (5 : Nat) (Option.some Jvm.ClassFile.FieldType.int)) ∈ z_U := z_U_5 (i := 195) rfl rfl
theorem u_1243 : (Jvm.Cond.constantLong "PaceStoreModel" (94 : Nat) (8 : Int64)) ∈ z_U := z_U_5 (i := 196) rfl rfl
theorem u_1244 : (Jvm.Cond.constant "PaceStoreModel" (99 : Nat) (-1000003 : Int32)) ∈ z_U := z_U_5 (i := 197) rfl rfl
theorem u_1245 : (Jvm.Cond.constantLong "PaceStoreModel" (100 : Nat) (255 : Int64)) ∈ z_U := z_U_5 (i := 198) rfl rfl
theorem u_1246 : (Jvm.Cond.methodLink "PaceStoreLaw" (43 : Nat) ({ cls := "PaceStoreModel", name := "course", desc := "()I" } : Jvm.MethodName)) ∈ z_U := z_U_5 (i := 199) rfl rfl
theorem u_1247 : (Jvm.Cond.instanceMethod ({ cls := "PaceStoreModel", name := "course", desc := "()I" } : Jvm.MethodName)) ∈ z_U := z_U_5 (i := 200) rfl rfl
theorem u_1248 : (Jvm.Cond.selects "PaceStoreModel" ({ cls := "PaceStoreModel", name := "course", desc := "()I" } : Jvm.MethodName) ({ cls := "PaceStoreModel", name := "course", desc := "()I" } : Jvm.MethodName)) ∈ z_U := z_U_5 (i := 201) rfl rfl
theorem u_1249 : (Jvm.Cond.code ({ cls := "PaceStoreModel", name := "course", desc := "()I" } : Jvm.MethodName) prog_12_method_29_code (2 : Nat) (Option.some Jvm.ClassFile.FieldType.int)) ∈ z_U := z_U_5 (i := 202) rfl rfl
theorem u_1250 : (Jvm.Cond.methodLink "PaceStoreModel" (177 : Nat) ({ cls := "PaceStoreModel", name := "readAll", desc := "()Z" } : Jvm.MethodName)) ∈ z_U := z_U_5 (i := 203) rfl rfl
theorem u_1252 : (Jvm.Cond.instanceMethod ({ cls := "PaceStoreModel", name := "readAll", desc := "()Z" } : Jvm.MethodName)) ∈ z_U := z_U_5 (i := 205) rfl rfl
theorem u_1253 : (Jvm.Cond.code ({ cls := "PaceStoreModel", name := "readAll", desc := "()Z" } : Jvm.MethodName) prog_12_method_28_code (1 : Nat) (Option.some Jvm.ClassFile.FieldType.boolean)) ∈ z_U := z_U_5 (i := 206) rfl rfl
theorem u_1254 : (Jvm.Cond.methodLink "PaceStoreModel" (131 : Nat) ({ cls := "PaceStoreModel", name := "look", desc := "(I)V" } : Jvm.MethodName)) ∈ z_U := z_U_5 (i := 207) rfl rfl
theorem u_1256 : (Jvm.Cond.instanceMethod ({ cls := "PaceStoreModel", name := "look", desc := "(I)V" } : Jvm.MethodName)) ∈ z_U := z_U_5 (i := 209) rfl rfl
theorem u_1257 : (Jvm.Cond.code ({ cls := "PaceStoreModel", name := "look", desc := "(I)V" } : Jvm.MethodName) prog_12_method_16_code (4 : Nat) (Option.none : Option Jvm.ClassFile.FieldType)) ∈ z_U := z_U_5 (i := 210) rfl rfl
theorem u_1258 : (Jvm.Cond.methodLink "PaceStoreModel" (125 : Nat) ({ cls := "PaceStoreModel", name := "isFigureAt", desc := "(I)Z" } : Jvm.MethodName)) ∈ z_U := z_U_5 (i := 211) rfl rfl
theorem u_1260 : (Jvm.Cond.instanceMethod ({ cls := "PaceStoreModel", name := "isFigureAt", desc := "(I)Z" } : Jvm.MethodName)) ∈ z_U := z_U_5 (i := 213) rfl rfl
theorem u_1261 : (Jvm.Cond.code ({ cls := "PaceStoreModel", name := "isFigureAt", desc := "(I)Z" } : Jvm.MethodName) prog_12_method_15_code (2 : Nat) (Option.some Jvm.ClassFile.FieldType.boolean)) ∈ z_U := z_U_5 (i := 214) rfl rfl
theorem u_1262 : (Jvm.Cond.constantLong "PaceStoreModel" (109 : Nat) (48 : Int64)) ∈ z_U := z_U_5 (i := 215) rfl rfl
theorem u_1263 : (Jvm.Cond.constantLong "PaceStoreModel" (111 : Nat) (57 : Int64)) ∈ z_U := z_U_5 (i := 216) rfl rfl
theorem u_1264 : (Jvm.Cond.methodLink "PaceStoreModel" (128 : Nat) ({ cls := "PaceStoreModel", name := "isSmall", desc := "(I)Z" } : Jvm.MethodName)) ∈ z_U := z_U_5 (i := 217) rfl rfl
theorem u_1265 : (Jvm.Cond.static ({ cls := "PaceStoreModel", name := "isSmall", desc := "(I)Z" } : Jvm.MethodName)) ∈ z_U := z_U_5 (i := 218) rfl rfl
theorem u_1266 : (Jvm.Cond.code ({ cls := "PaceStoreModel", name := "isSmall", desc := "(I)Z" } : Jvm.MethodName) prog_12_method_14_code (1 : Nat) (Option.some Jvm.ClassFile.FieldType.boolean)) ∈ z_U := z_U_5 (i := 219) rfl rfl
theorem u_1267 : (Jvm.Cond.constantLong "PaceStoreModel" (102 : Nat) (97 : Int64)) ∈ z_U := z_U_5 (i := 220) rfl rfl
theorem u_1268 : (Jvm.Cond.constantLong "PaceStoreModel" (104 : Nat) (122 : Int64)) ∈ z_U := z_U_5 (i := 221) rfl rfl
theorem u_1269 : (Jvm.Cond.methodLink "PaceStoreModel" (162 : Nat) ({ cls := "PaceStoreModel", name := "isMileWord", desc := "()Z" } : Jvm.MethodName)) ∈ z_U := z_U_5 (i := 222) rfl rfl
theorem u_1271 : (Jvm.Cond.instanceMethod ({ cls := "PaceStoreModel", name := "isMileWord", desc := "()Z" } : Jvm.MethodName)) ∈ z_U := z_U_5 (i := 224) rfl rfl
theorem u_1272 : (Jvm.Cond.code ({ cls := "PaceStoreModel", name := "isMileWord", desc := "()Z" } : Jvm.MethodName) prog_12_method_26_code (1 : Nat) (Option.some Jvm.ClassFile.FieldType.boolean)) ∈ z_U := z_U_5 (i := 225) rfl rfl
theorem u_1273 : (Jvm.Cond.methodLink "PaceStoreModel" (155 : Nat) ({ cls := "PaceStoreModel", name := "isWord", desc := "(IIIIII)Z" } : Jvm.MethodName)) ∈ z_U := z_U_5 (i := 226) rfl rfl
theorem u_1275 : (Jvm.Cond.instanceMethod ({ cls := "PaceStoreModel", name := "isWord", desc := "(IIIIII)Z" } : Jvm.MethodName)) ∈ z_U := z_U_5 (i := 228) rfl rfl
theorem u_1276 : (Jvm.Cond.code ({ cls := "PaceStoreModel", name := "isWord", desc := "(IIIIII)Z" } : Jvm.MethodName) prog_12_method_18_code (10 : Nat) (Option.some Jvm.ClassFile.FieldType.boolean)) ∈ z_U := z_U_5 (i := 229) rfl rfl
theorem u_1277 : (Jvm.Cond.methodLink "PaceStoreModel" (138 : Nat) ({ cls := "PaceStoreModel", name := "faulty", desc := "(I)Z" } : Jvm.MethodName)) ∈ z_U := z_U_5 (i := 230) rfl rfl
theorem u_1279 : (Jvm.Cond.instanceMethod ({ cls := "PaceStoreModel", name := "faulty", desc := "(I)Z" } : Jvm.MethodName)) ∈ z_U := z_U_5 (i := 232) rfl rfl
theorem u_1280 : (Jvm.Cond.code ({ cls := "PaceStoreModel", name := "faulty", desc := "(I)Z" } : Jvm.MethodName) prog_12_method_19_code (2 : Nat) (Option.some Jvm.ClassFile.FieldType.boolean)) ∈ z_U := z_U_5 (i := 233) rfl rfl
theorem u_1281 : (Jvm.Cond.methodLink "PaceStoreModel" (165 : Nat) ({ cls := "PaceStoreModel", name := "readMile", desc := "()Z" } : Jvm.MethodName)) ∈ z_U := z_U_5 (i := 234) rfl rfl
theorem u_1283 : (Jvm.Cond.instanceMethod ({ cls := "PaceStoreModel", name := "readMile", desc := "()Z" } : Jvm.MethodName)) ∈ z_U := z_U_5 (i := 236) rfl rfl
theorem u_1284 : (Jvm.Cond.code ({ cls := "PaceStoreModel", name := "readMile", desc := "()Z" } : Jvm.MethodName) prog_12_method_22_code (3 : Nat) (Option.some Jvm.ClassFile.FieldType.boolean)) ∈ z_U := z_U_5 (i := 237) rfl rfl
theorem u_1285 : (Jvm.Cond.methodLink "PaceStoreModel" (144 : Nat) ({ cls := "PaceStoreModel", name := "next", desc := "()V" } : Jvm.MethodName)) ∈ z_U := z_U_5 (i := 238) rfl rfl
theorem u_1287 : (Jvm.Cond.instanceMethod ({ cls := "PaceStoreModel", name := "next", desc := "()V" } : Jvm.MethodName)) ∈ z_U := z_U_6 (i := 0) rfl rfl
theorem u_1288 : (Jvm.Cond.code ({ cls := "PaceStoreModel", name := "next", desc := "()V" } : Jvm.MethodName) prog_12_method_17_code (1 : Nat) (Option.none : Option Jvm.ClassFile.FieldType)) ∈ z_U := z_U_6 (i := 1) rfl rfl
theorem u_1289 : (Jvm.Cond.methodLink "PaceStoreModel" (147 : Nat) ({ cls := "PaceStoreModel", name := "readNumber", desc := "(II)Z" } : Jvm.MethodName)) ∈ z_U := z_U_6 (i := 2) rfl rfl
theorem u_1291 : (Jvm.Cond.instanceMethod ({ cls := "PaceStoreModel", name := "readNumber", desc := "(II)Z" } : Jvm.MethodName)) ∈ z_U := z_U_6 (i := 4) rfl rfl
theorem u_1292 : (Jvm.Cond.code ({ cls := "PaceStoreModel", name := "readNumber", desc := "(II)Z" } : Jvm.MethodName) prog_12_method_20_code (3 : Nat) (Option.some Jvm.ClassFile.FieldType.boolean)) ∈ z_U := z_U_6 (i := 5) rfl rfl
theorem u_1293 : (Jvm.Cond.methodLink "PaceStoreModel" (151 : Nat) ({ cls := "PaceStoreModel", name := "readStop", desc := "()Z" } : Jvm.MethodName)) ∈ z_U := z_U_6 (i := 6) rfl rfl
theorem u_1295 : (Jvm.Cond.instanceMethod ({ cls := "PaceStoreModel", name := "readStop", desc := "()Z" } : Jvm.MethodName)) ∈ z_U := z_U_6 (i := 8) rfl rfl
theorem u_1296 : (Jvm.Cond.code ({ cls := "PaceStoreModel", name := "readStop", desc := "()Z" } : Jvm.MethodName) prog_12_method_21_code (1 : Nat) (Option.some Jvm.ClassFile.FieldType.boolean)) ∈ z_U := z_U_6 (i := 9) rfl rfl
theorem u_1297 : (Jvm.Cond.methodLink "PaceStoreModel" (168 : Nat) ({ cls := "PaceStoreModel", name := "isRunnerWord", desc := "()Z" } : Jvm.MethodName)) ∈ z_U := z_U_6 (i := 10) rfl rfl
theorem u_1299 : (Jvm.Cond.instanceMethod ({ cls := "PaceStoreModel", name := "isRunnerWord", desc := "()Z" } : Jvm.MethodName)) ∈ z_U := z_U_6 (i := 12) rfl rfl
theorem u_1300 : (Jvm.Cond.code ({ cls := "PaceStoreModel", name := "isRunnerWord", desc := "()Z" } : Jvm.MethodName) prog_12_method_27_code (1 : Nat) (Option.some Jvm.ClassFile.FieldType.boolean)) ∈ z_U := z_U_6 (i := 13) rfl rfl
theorem u_1301 : (Jvm.Cond.methodLink "PaceStoreModel" (171 : Nat) ({ cls := "PaceStoreModel", name := "readRunner", desc := "()Z" } : Jvm.MethodName)) ∈ z_U := z_U_6 (i := 14) rfl rfl
theorem u_1303 : (Jvm.Cond.instanceMethod ({ cls := "PaceStoreModel", name := "readRunner", desc := "()Z" } : Jvm.MethodName)) ∈ z_U := z_U_6 (i := 16) rfl rfl
theorem u_1304 : (Jvm.Cond.code ({ cls := "PaceStoreModel", name := "readRunner", desc := "()Z" } : Jvm.MethodName) prog_12_method_23_code (3 : Nat) (Option.some Jvm.ClassFile.FieldType.boolean)) ∈ z_U := z_U_6 (i := 17) rfl rfl
theorem u_1305 : (Jvm.Cond.methodLink "PaceStoreModel" (159 : Nat) ({ cls := "PaceStoreModel", name := "readRule", desc := "(I)Z" } : Jvm.MethodName)) ∈ z_U := z_U_6 (i := 18) rfl rfl
theorem u_1307 : (Jvm.Cond.instanceMethod ({ cls := "PaceStoreModel", name := "readRule", desc := "(I)Z" } : Jvm.MethodName)) ∈ z_U := z_U_6 (i := 20) rfl rfl
theorem u_1308 : (Jvm.Cond.code ({ cls := "PaceStoreModel", name := "readRule", desc := "(I)Z" } : Jvm.MethodName) prog_12_method_24_code (7 : Nat) (Option.some Jvm.ClassFile.FieldType.boolean)) ∈ z_U := z_U_6 (i := 21) rfl rfl
theorem u_1309 : (Jvm.Cond.methodLink "PaceStoreModel" (174 : Nat) ({ cls := "PaceStoreModel", name := "readRabbit", desc := "()Z" } : Jvm.MethodName)) ∈ z_U := z_U_6 (i := 22) rfl rfl
theorem u_1311 : (Jvm.Cond.instanceMethod ({ cls := "PaceStoreModel", name := "readRabbit", desc := "()Z" } : Jvm.MethodName)) ∈ z_U := z_U_6 (i := 24) rfl rfl
theorem u_1312 : (Jvm.Cond.code ({ cls := "PaceStoreModel", name := "readRabbit", desc := "()Z" } : Jvm.MethodName) prog_12_method_25_code (3 : Nat) (Option.some Jvm.ClassFile.FieldType.boolean)) ∈ z_U := z_U_6 (i := 25) rfl rfl
theorem u_1313 : (Jvm.Cond.constant "PaceStoreModel" (180 : Nat) (-1000100 : Int32)) ∈ z_U := z_U_6 (i := 26) rfl rfl
theorem u_1314 : (Jvm.Cond.methodLink "PaceStoreModel" (181 : Nat) ({ cls := "PaceStoreModel", name := "miles", desc := "()I" } : Jvm.MethodName)) ∈ z_U := z_U_6 (i := 27) rfl rfl
theorem u_1316 : (Jvm.Cond.instanceMethod ({ cls := "PaceStoreModel", name := "miles", desc := "()I" } : Jvm.MethodName)) ∈ z_U := z_U_6 (i := 29) rfl rfl
theorem u_1317 : (Jvm.Cond.code ({ cls := "PaceStoreModel", name := "miles", desc := "()I" } : Jvm.MethodName) prog_12_method_31_code (1 : Nat) (Option.some Jvm.ClassFile.FieldType.int)) ∈ z_U := z_U_6 (i := 30) rfl rfl
theorem u_1318 : (Jvm.Cond.methodLink "PaceStoreLaw" (47 : Nat) ({ cls := "PaceStoreModel", name := "fault", desc := "()I" } : Jvm.MethodName)) ∈ z_U := z_U_6 (i := 31) rfl rfl
theorem u_1319 : (Jvm.Cond.instanceMethod ({ cls := "PaceStoreModel", name := "fault", desc := "()I" } : Jvm.MethodName)) ∈ z_U := z_U_6 (i := 32) rfl rfl
theorem u_1320 : (Jvm.Cond.selects "PaceStoreModel" ({ cls := "PaceStoreModel", name := "fault", desc := "()I" } : Jvm.MethodName) ({ cls := "PaceStoreModel", name := "fault", desc := "()I" } : Jvm.MethodName)) ∈ z_U := z_U_6 (i := 33) rfl rfl
theorem u_1321 : (Jvm.Cond.code ({ cls := "PaceStoreModel", name := "fault", desc := "()I" } : Jvm.MethodName) prog_12_method_30_code (1 : Nat) (Option.some Jvm.ClassFile.FieldType.int)) ∈ z_U := z_U_6 (i := 34) rfl rfl
theorem u_1322 : (Jvm.Cond.methodLink "PaceStoreLaw" (51 : Nat) ({ cls := "PaceStoreModel", name := "need", desc := "(III)I" } : Jvm.MethodName)) ∈ z_U := z_U_6 (i := 35) rfl rfl
theorem u_1323 : (Jvm.Cond.instanceMethod ({ cls := "PaceStoreModel", name := "need", desc := "(III)I" } : Jvm.MethodName)) ∈ z_U := z_U_6 (i := 36) rfl rfl
theorem u_1324 : (Jvm.Cond.selects "PaceStoreModel" ({ cls := "PaceStoreModel", name := "need", desc := "(III)I" } : Jvm.MethodName) ({ cls := "PaceStoreModel", name := "need", desc := "(III)I" } : Jvm.MethodName)) ∈ z_U := z_U_6 (i := 37) rfl rfl
theorem u_1325 : (Jvm.Cond.code ({ cls := "PaceStoreModel", name := "need", desc := "(III)I" } : Jvm.MethodName) prog_12_method_41_code (4 : Nat) (Option.some Jvm.ClassFile.FieldType.int)) ∈ z_U := z_U_6 (i := 38) rfl rfl
theorem u_1326 : (Jvm.Cond.methodLink "PaceStoreModel" (192 : Nat) ({ cls := "PaceStoreModel", name := "isMile", desc := "(I)Z" } : Jvm.MethodName)) ∈ z_U := z_U_6 (i := 39) rfl rfl
theorem u_1328 : (Jvm.Cond.instanceMethod ({ cls := "PaceStoreModel", name := "isMile", desc := "(I)Z" } : Jvm.MethodName)) ∈ z_U := z_U_6 (i := 41) rfl rfl
theorem u_1329 : (Jvm.Cond.code ({ cls := "PaceStoreModel", name := "isMile", desc := "(I)Z" } : Jvm.MethodName) prog_12_method_34_code (2 : Nat) (Option.some Jvm.ClassFile.FieldType.boolean)) ∈ z_U := z_U_6 (i := 42) rfl rfl
theorem u_1330 : (Jvm.Cond.methodLink "PaceStoreModel" (195 : Nat) ({ cls := "PaceStoreModel", name := "isPace", desc := "(I)Z" } : Jvm.MethodName)) ∈ z_U := z_U_6 (i := 43) rfl rfl
theorem u_1331 : (Jvm.Cond.static ({ cls := "PaceStoreModel", name := "isPace", desc := "(I)Z" } : Jvm.MethodName)) ∈ z_U := z_U_6 (i := 44) rfl rfl
theorem u_1332 : (Jvm.Cond.code ({ cls := "PaceStoreModel", name := "isPace", desc := "(I)Z" } : Jvm.MethodName) prog_12_method_36_code (1 : Nat) (Option.some Jvm.ClassFile.FieldType.boolean)) ∈ z_U := z_U_6 (i := 45) rfl rfl
theorem u_1333 : (Jvm.Cond.constantLong "PaceStoreModel" (188 : Nat) (10 : Int64)) ∈ z_U := z_U_6 (i := 46) rfl rfl
theorem u_1334 : (Jvm.Cond.constantLong "PaceStoreModel" (190 : Nat) (40 : Int64)) ∈ z_U := z_U_6 (i := 47) rfl rfl
theorem u_1335 : (Jvm.Cond.methodLink "PaceStoreModel" (198 : Nat) ({ cls := "PaceStoreModel", name := "needOf", desc := "(IIZ)I" } : Jvm.MethodName)) ∈ z_U := z_U_6 (i := 48) rfl rfl
theorem u_1337 : (Jvm.Cond.instanceMethod ({ cls := "PaceStoreModel", name := "needOf", desc := "(IIZ)I" } : Jvm.MethodName)) ∈ z_U := z_U_6 (i := 50) rfl rfl
theorem u_1338 : (Jvm.Cond.code ({ cls := "PaceStoreModel", name := "needOf", desc := "(IIZ)I" } : Jvm.MethodName) prog_12_method_39_code (5 : Nat) (Option.some Jvm.ClassFile.FieldType.int)) ∈ z_U := z_U_6 (i := 51) rfl rfl
theorem u_1339 : (Jvm.Cond.methodLink "PaceStoreLaw" (55 : Nat) ({ cls := "PaceStoreModel", name := "race", desc := "(III)I" } : Jvm.MethodName)) ∈ z_U := z_U_6 (i := 52) rfl rfl
theorem u_1340 : (Jvm.Cond.instanceMethod ({ cls := "PaceStoreModel", name := "race", desc := "(III)I" } : Jvm.MethodName)) ∈ z_U := z_U_6 (i := 53) rfl rfl
theorem u_1341 : (Jvm.Cond.selects "PaceStoreModel" ({ cls := "PaceStoreModel", name := "race", desc := "(III)I" } : Jvm.MethodName) ({ cls := "PaceStoreModel", name := "race", desc := "(III)I" } : Jvm.MethodName)) ∈ z_U := z_U_6 (i := 54) rfl rfl
theorem u_1342 : (Jvm.Cond.code ({ cls := "PaceStoreModel", name := "race", desc := "(III)I" } : Jvm.MethodName) prog_12_method_51_code (10 : Nat) (Option.some Jvm.ClassFile.FieldType.int)) ∈ z_U := z_U_6 (i := 55) rfl rfl
theorem u_1343 : (Jvm.Cond.constantLong "PaceStoreModel" (232 : Nat) (999999 : Int64)) ∈ z_U := z_U_6 (i := 56) rfl rfl
theorem u_1344 : (Jvm.Cond.constant "PaceStoreModel" (234 : Nat) (-1000002 : Int32)) ∈ z_U := z_U_6 (i := 57) rfl rfl
theorem u_1345 : (Jvm.Cond.methodLink "PaceStoreModel" (185 : Nat) ({ cls := "PaceStoreModel", name := "runners", desc := "()I" } : Jvm.MethodName)) ∈ z_U := z_U_6 (i := 58) rfl rfl
theorem u_1347 : (Jvm.Cond.instanceMethod ({ cls := "PaceStoreModel", name := "runners", desc := "()I" } : Jvm.MethodName)) ∈ z_U := z_U_6 (i := 60) rfl rfl
theorem u_1348 : (Jvm.Cond.code ({ cls := "PaceStoreModel", name := "runners", desc := "()I" } : Jvm.MethodName) prog_12_method_32_code (1 : Nat) (Option.some Jvm.ClassFile.FieldType.int)) ∈ z_U := z_U_6 (i := 61) rfl rfl
theorem u_1349 : (Jvm.Cond.methodLink "PaceStoreModel" (235 : Nat) ({ cls := "PaceStoreModel", name := "item", desc := "(II)I" } : Jvm.MethodName)) ∈ z_U := z_U_6 (i := 62) rfl rfl
theorem u_1351 : (Jvm.Cond.instanceMethod ({ cls := "PaceStoreModel", name := "item", desc := "(II)I" } : Jvm.MethodName)) ∈ z_U := z_U_6 (i := 64) rfl rfl
theorem u_1352 : (Jvm.Cond.code ({ cls := "PaceStoreModel", name := "item", desc := "(II)I" } : Jvm.MethodName) prog_12_method_12_code (3 : Nat) (Option.some Jvm.ClassFile.FieldType.int)) ∈ z_U := z_U_6 (i := 65) rfl rfl
theorem u_1353 : (Jvm.Cond.methodLink "PaceStoreModel" (238 : Nat) ({ cls := "PaceStoreModel", name := "startRace", desc := "()V" } : Jvm.MethodName)) ∈ z_U := z_U_6 (i := 66) rfl rfl
theorem u_1355 : (Jvm.Cond.instanceMethod ({ cls := "PaceStoreModel", name := "startRace", desc := "()V" } : Jvm.MethodName)) ∈ z_U := z_U_6 (i := 68) rfl rfl
theorem u_1356 : (Jvm.Cond.code ({ cls := "PaceStoreModel", name := "startRace", desc := "()V" } : Jvm.MethodName) prog_12_method_46_code (2 : Nat) (Option.none : Option Jvm.ClassFile.FieldType)) ∈ z_U := z_U_6 (i := 69) rfl rfl
theorem u_1357 : (Jvm.Cond.methodLink "PaceStoreModel" (202 : Nat) ({ cls := "PaceStoreModel", name := "ofRunner", desc := "(II)I" } : Jvm.MethodName)) ∈ z_U := z_U_6 (i := 70) rfl rfl
theorem u_1359 : (Jvm.Cond.instanceMethod ({ cls := "PaceStoreModel", name := "ofRunner", desc := "(II)I" } : Jvm.MethodName)) ∈ z_U := z_U_6 (i := 72) rfl rfl
theorem u_1360 : (Jvm.Cond.code ({ cls := "PaceStoreModel", name := "ofRunner", desc := "(II)I" } : Jvm.MethodName) prog_12_method_37_code (3 : Nat) (Option.some Jvm.ClassFile.FieldType.int)) ∈ z_U := z_U_6 (i := 73) rfl rfl
theorem u_1361 : (Jvm.Cond.methodLink "PaceStoreModel" (241 : Nat) ({ cls := "PaceStoreModel", name := "leastTime", desc := "()I" } : Jvm.MethodName)) ∈ z_U := z_U_6 (i := 74) rfl rfl
theorem u_1363 : (Jvm.Cond.instanceMethod ({ cls := "PaceStoreModel", name := "leastTime", desc := "()I" } : Jvm.MethodName)) ∈ z_U := z_U_6 (i := 76) rfl rfl
theorem u_1364 : (Jvm.Cond.code ({ cls := "PaceStoreModel", name := "leastTime", desc := "()I" } : Jvm.MethodName) prog_12_method_48_code (3 : Nat) (Option.some Jvm.ClassFile.FieldType.int)) ∈ z_U := z_U_6 (i := 77) rfl rfl
theorem u_1365 : (Jvm.Cond.constant "PaceStoreModel" (225 : Nat) (100000000 : Int32)) ∈ z_U := z_U_6 (i := 78) rfl rfl
theorem u_1366 : (Jvm.Cond.methodLink "PaceStoreModel" (244 : Nat) ({ cls := "PaceStoreModel", name := "paceByRules", desc := "(III)I" } : Jvm.MethodName)) ∈ z_U := z_U_6 (i := 79) rfl rfl
theorem u_1368 : (Jvm.Cond.instanceMethod ({ cls := "PaceStoreModel", name := "paceByRules", desc := "(III)I" } : Jvm.MethodName)) ∈ z_U := z_U_6 (i := 81) rfl rfl
theorem u_1369 : (Jvm.Cond.code ({ cls := "PaceStoreModel", name := "paceByRules", desc := "(III)I" } : Jvm.MethodName) prog_12_method_49_code (9 : Nat) (Option.some Jvm.ClassFile.FieldType.int)) ∈ z_U := z_U_6 (i := 82) rfl rfl
theorem u_1370 : (Jvm.Cond.methodLink "PaceStoreModel" (226 : Nat) ({ cls := "PaceStoreModel", name := "brought", desc := "(I)I" } : Jvm.MethodName)) ∈ z_U := z_U_6 (i := 83) rfl rfl
theorem u_1371 : (Jvm.Cond.static ({ cls := "PaceStoreModel", name := "brought", desc := "(I)I" } : Jvm.MethodName)) ∈ z_U := z_U_6 (i := 84) rfl rfl
theorem u_1372 : (Jvm.Cond.code ({ cls := "PaceStoreModel", name := "brought", desc := "(I)I" } : Jvm.MethodName) prog_12_method_47_code (1 : Nat) (Option.some Jvm.ClassFile.FieldType.int)) ∈ z_U := z_U_6 (i := 85) rfl rfl
theorem u_1373 : (Jvm.Cond.constantLong "PaceStoreModel" (248 : Nat) (16807 : Int64)) ∈ z_U := z_U_6 (i := 86) rfl rfl
theorem u_1374 : (Jvm.Cond.constantLong "PaceStoreModel" (250 : Nat) (2147483647 : Int64)) ∈ z_U := z_U_6 (i := 87) rfl rfl
theorem u_1375 : (Jvm.Cond.methodLink "PaceStoreModel" (252 : Nat) ({ cls := "PaceStoreModel", name := "findShelters", desc := "()V" } : Jvm.MethodName)) ∈ z_U := z_U_6 (i := 88) rfl rfl
theorem u_1377 : (Jvm.Cond.instanceMethod ({ cls := "PaceStoreModel", name := "findShelters", desc := "()V" } : Jvm.MethodName)) ∈ z_U := z_U_6 (i := 90) rfl rfl
theorem u_1378 : (Jvm.Cond.code ({ cls := "PaceStoreModel", name := "findShelters", desc := "()V" } : Jvm.MethodName) prog_12_method_50_code (2 : Nat) (Option.none : Option Jvm.ClassFile.FieldType)) ∈ z_U := z_U_6 (i := 91) rfl rfl
theorem u_1379 : (Jvm.Cond.methodLink "PaceStoreModel" (229 : Nat) ({ cls := "PaceStoreModel", name := "isSheltered", desc := "(I)Z" } : Jvm.MethodName)) ∈ z_U := z_U_6 (i := 92) rfl rfl
theorem u_1381 : (Jvm.Cond.instanceMethod ({ cls := "PaceStoreModel", name := "isSheltered", desc := "(I)Z" } : Jvm.MethodName)) ∈ z_U := z_U_6 (i := 94) rfl rfl
theorem u_1382 : (Jvm.Cond.code ({ cls := "PaceStoreModel", name := "isSheltered", desc := "(I)Z" } : Jvm.MethodName) prog_12_method_45_code (4 : Nat) (Option.some Jvm.ClassFile.FieldType.boolean)) ∈ z_U := z_U_6 (i := 95) rfl rfl
theorem u_1383 : (Jvm.Cond.constantLong "PaceStoreModel" (223 : Nat) (5 : Int64)) ∈ z_U := z_U_6 (i := 96) rfl rfl
theorem u_1384 : (Jvm.Cond.methodLink "PaceStoreModel" (255 : Nat) ({ cls := "PaceStoreModel", name := "goMile", desc := "(IIZ)V" } : Jvm.MethodName)) ∈ z_U := z_U_6 (i := 97) rfl rfl
theorem u_1386 : (Jvm.Cond.instanceMethod ({ cls := "PaceStoreModel", name := "goMile", desc := "(IIZ)V" } : Jvm.MethodName)) ∈ z_U := z_U_6 (i := 99) rfl rfl
theorem u_1387 : (Jvm.Cond.code ({ cls := "PaceStoreModel", name := "goMile", desc := "(IIZ)V" } : Jvm.MethodName) prog_12_method_44_code (5 : Nat) (Option.none : Option Jvm.ClassFile.FieldType)) ∈ z_U := z_U_6 (i := 100) rfl rfl
theorem u_1388 : (Jvm.Cond.methodLink "PaceStoreModel" (206 : Nat) ({ cls := "PaceStoreModel", name := "leftBehind", desc := "(IIII)I" } : Jvm.MethodName)) ∈ z_U := z_U_6 (i := 101) rfl rfl
theorem u_1390 : (Jvm.Cond.instanceMethod ({ cls := "PaceStoreModel", name := "leftBehind", desc := "(IIII)I" } : Jvm.MethodName)) ∈ z_U := z_U_6 (i := 103) rfl rfl
theorem u_1391 : (Jvm.Cond.code ({ cls := "PaceStoreModel", name := "leftBehind", desc := "(IIII)I" } : Jvm.MethodName) prog_12_method_42_code (6 : Nat) (Option.some Jvm.ClassFile.FieldType.int)) ∈ z_U := z_U_6 (i := 104) rfl rfl
theorem u_1392 : (Jvm.Cond.methodLink "PaceStoreModel" (214 : Nat) ({ cls := "PaceStoreModel", name := "easyPace", desc := "(II)I" } : Jvm.MethodName)) ∈ z_U := z_U_6 (i := 105) rfl rfl
theorem u_1394 : (Jvm.Cond.instanceMethod ({ cls := "PaceStoreModel", name := "easyPace", desc := "(II)I" } : Jvm.MethodName)) ∈ z_U := z_U_6 (i := 107) rfl rfl
theorem u_1395 : (Jvm.Cond.code ({ cls := "PaceStoreModel", name := "easyPace", desc := "(II)I" } : Jvm.MethodName) prog_12_method_43_code (4 : Nat) (Option.some Jvm.ClassFile.FieldType.int)) ∈ z_U := z_U_6 (i := 108) rfl rfl
theorem u_1396 : (Jvm.Cond.methodLink "PaceStoreModel" (217 : Nat) ({ cls := "PaceStoreModel", name := "secondsBy", desc := "(I)I" } : Jvm.MethodName)) ∈ z_U := z_U_6 (i := 109) rfl rfl
theorem u_1397 : (Jvm.Cond.static ({ cls := "PaceStoreModel", name := "secondsBy", desc := "(I)I" } : Jvm.MethodName)) ∈ z_U := z_U_6 (i := 110) rfl rfl
theorem u_1398 : (Jvm.Cond.code ({ cls := "PaceStoreModel", name := "secondsBy", desc := "(I)I" } : Jvm.MethodName) prog_12_method_40_code (1 : Nat) (Option.some Jvm.ClassFile.FieldType.int)) ∈ z_U := z_U_6 (i := 111) rfl rfl
theorem u_1399 : (Jvm.Cond.methodLink "PaceStoreLaw" (59 : Nat) ({ cls := "PaceStoreModel", name := "ran", desc := "(III)I" } : Jvm.MethodName)) ∈ z_U := z_U_6 (i := 112) rfl rfl
theorem u_1400 : (Jvm.Cond.instanceMethod ({ cls := "PaceStoreModel", name := "ran", desc := "(III)I" } : Jvm.MethodName)) ∈ z_U := z_U_6 (i := 113) rfl rfl
theorem u_1401 : (Jvm.Cond.selects "PaceStoreModel" ({ cls := "PaceStoreModel", name := "ran", desc := "(III)I" } : Jvm.MethodName) ({ cls := "PaceStoreModel", name := "ran", desc := "(III)I" } : Jvm.MethodName)) ∈ z_U := z_U_6 (i := 114) rfl rfl
theorem u_1402 : (Jvm.Cond.code ({ cls := "PaceStoreModel", name := "ran", desc := "(III)I" } : Jvm.MethodName) prog_12_method_53_code (4 : Nat) (Option.some Jvm.ClassFile.FieldType.int)) ∈ z_U := z_U_6 (i := 115) rfl rfl
theorem u_1403 : (Jvm.Cond.methodLink "PaceStoreModel" (259 : Nat) ({ cls := "PaceStoreModel", name := "isRunner", desc := "(I)Z" } : Jvm.MethodName)) ∈ z_U := z_U_6 (i := 116) rfl rfl
theorem u_1405 : (Jvm.Cond.instanceMethod ({ cls := "PaceStoreModel", name := "isRunner", desc := "(I)Z" } : Jvm.MethodName)) ∈ z_U := z_U_6 (i := 118) rfl rfl
theorem u_1406 : (Jvm.Cond.code ({ cls := "PaceStoreModel", name := "isRunner", desc := "(I)Z" } : Jvm.MethodName) prog_12_method_35_code (2 : Nat) (Option.some Jvm.ClassFile.FieldType.boolean)) ∈ z_U := z_U_6 (i := 119) rfl rfl
theorem u_1407 : (Jvm.Cond.methodLink "PaceStoreModel" (262 : Nat) ({ cls := "PaceStoreModel", name := "ranOf", desc := "(III)I" } : Jvm.MethodName)) ∈ z_U := z_U_6 (i := 120) rfl rfl
theorem u_1409 : (Jvm.Cond.instanceMethod ({ cls := "PaceStoreModel", name := "ranOf", desc := "(III)I" } : Jvm.MethodName)) ∈ z_U := z_U_6 (i := 122) rfl rfl
theorem u_1410 : (Jvm.Cond.code ({ cls := "PaceStoreModel", name := "ranOf", desc := "(III)I" } : Jvm.MethodName) prog_12_method_52_code (4 : Nat) (Option.some Jvm.ClassFile.FieldType.int)) ∈ z_U := z_U_6 (i := 123) rfl rfl
theorem u_1411 : (Jvm.Cond.methodLink "PaceStoreLaw" (63 : Nat) ({ cls := "PaceStoreModel", name := "place", desc := "(I)I" } : Jvm.MethodName)) ∈ z_U := z_U_6 (i := 124) rfl rfl
theorem u_1412 : (Jvm.Cond.instanceMethod ({ cls := "PaceStoreModel", name := "place", desc := "(I)I" } : Jvm.MethodName)) ∈ z_U := z_U_6 (i := 125) rfl rfl
theorem u_1413 : (Jvm.Cond.selects "PaceStoreModel" ({ cls := "PaceStoreModel", name := "place", desc := "(I)I" } : Jvm.MethodName) ({ cls := "PaceStoreModel", name := "place", desc := "(I)I" } : Jvm.MethodName)) ∈ z_U := z_U_6 (i := 126) rfl rfl
theorem u_1414 : (Jvm.Cond.code ({ cls := "PaceStoreModel", name := "place", desc := "(I)I" } : Jvm.MethodName) prog_12_method_54_code (6 : Nat) (Option.some Jvm.ClassFile.FieldType.int)) ∈ z_U := z_U_6 (i := 127) rfl rfl
theorem u_1415 : (Jvm.Cond.methodLink "PaceStoreLaw" (67 : Nat) ({ cls := "PaceStoreModel", name := "best", desc := "(III)I" } : Jvm.MethodName)) ∈ z_U := z_U_6 (i := 128) rfl rfl
theorem u_1416 : (Jvm.Cond.instanceMethod ({ cls := "PaceStoreModel", name := "best", desc := "(III)I" } : Jvm.MethodName)) ∈ z_U := z_U_6 (i := 129) rfl rfl
theorem u_1417 : (Jvm.Cond.selects "PaceStoreModel" ({ cls := "PaceStoreModel", name := "best", desc := "(III)I" } : Jvm.MethodName) ({ cls := "PaceStoreModel", name := "best", desc := "(III)I" } : Jvm.MethodName)) ∈ z_U := z_U_6 (i := 130) rfl rfl
theorem u_1418 : (Jvm.Cond.code ({ cls := "PaceStoreModel", name := "best", desc := "(III)I" } : Jvm.MethodName) prog_12_method_62_code (8 : Nat) (Option.some Jvm.ClassFile.FieldType.int)) ∈ z_U := z_U_6 (i := 131) rfl rfl
theorem u_1419 : (Jvm.Cond.methodLink "PaceStoreModel" (285 : Nat) ({ cls := "PaceStoreModel", name := "isSet", desc := "(I)Z" } : Jvm.MethodName)) ∈ z_U := z_U_6 (i := 132) rfl rfl
theorem u_1421 : (Jvm.Cond.instanceMethod ({ cls := "PaceStoreModel", name := "isSet", desc := "(I)Z" } : Jvm.MethodName)) ∈ z_U := z_U_6 (i := 134) rfl rfl
theorem u_1422 : (Jvm.Cond.code ({ cls := "PaceStoreModel", name := "isSet", desc := "(I)Z" } : Jvm.MethodName) prog_12_method_61_code (2 : Nat) (Option.some Jvm.ClassFile.FieldType.boolean)) ∈ z_U := z_U_6 (i := 135) rfl rfl
theorem u_1423 : (Jvm.Cond.methodLink "PaceStoreModel" (265 : Nat) ({ cls := "PaceStoreModel", name := "rabbits", desc := "()I" } : Jvm.MethodName)) ∈ z_U := z_U_6 (i := 136) rfl rfl
theorem u_1425 : (Jvm.Cond.instanceMethod ({ cls := "PaceStoreModel", name := "rabbits", desc := "()I" } : Jvm.MethodName)) ∈ z_U := z_U_6 (i := 138) rfl rfl
theorem u_1426 : (Jvm.Cond.code ({ cls := "PaceStoreModel", name := "rabbits", desc := "()I" } : Jvm.MethodName) prog_12_method_33_code (1 : Nat) (Option.some Jvm.ClassFile.FieldType.int)) ∈ z_U := z_U_6 (i := 139) rfl rfl
theorem u_1427 : (Jvm.Cond.methodLink "PaceStoreModel" (288 : Nat) ({ cls := "PaceStoreModel", name := "leastAll", desc := "(II)I" } : Jvm.MethodName)) ∈ z_U := z_U_6 (i := 140) rfl rfl
theorem u_1429 : (Jvm.Cond.instanceMethod ({ cls := "PaceStoreModel", name := "leastAll", desc := "(II)I" } : Jvm.MethodName)) ∈ z_U := z_U_6 (i := 142) rfl rfl
theorem u_1430 : (Jvm.Cond.code ({ cls := "PaceStoreModel", name := "leastAll", desc := "(II)I" } : Jvm.MethodName) prog_12_method_59_code (3 : Nat) (Option.some Jvm.ClassFile.FieldType.int)) ∈ z_U := z_U_6 (i := 143) rfl rfl
theorem u_1431 : (Jvm.Cond.methodLink "PaceStoreModel" (281 : Nat) ({ cls := "PaceStoreModel", name := "findLeast", desc := "(II)V" } : Jvm.MethodName)) ∈ z_U := z_U_6 (i := 144) rfl rfl
theorem u_1433 : (Jvm.Cond.instanceMethod ({ cls := "PaceStoreModel", name := "findLeast", desc := "(II)V" } : Jvm.MethodName)) ∈ z_U := z_U_6 (i := 146) rfl rfl
theorem u_1434 : (Jvm.Cond.code ({ cls := "PaceStoreModel", name := "findLeast", desc := "(II)V" } : Jvm.MethodName) prog_12_method_58_code (8 : Nat) (Option.none : Option Jvm.ClassFile.FieldType)) ∈ z_U := z_U_6 (i := 147) rfl rfl
theorem u_1435 : (Jvm.Cond.methodLink "PaceStoreModel" (278 : Nat) ({ cls := "PaceStoreModel", name := "timeBy", desc := "(IIIII)I" } : Jvm.MethodName)) ∈ z_U := z_U_6 (i := 148) rfl rfl
theorem u_1437 : (Jvm.Cond.instanceMethod ({ cls := "PaceStoreModel", name := "timeBy", desc := "(IIIII)I" } : Jvm.MethodName)) ∈ z_U := z_U_6 (i := 150) rfl rfl
theorem u_1438 : (Jvm.Cond.code ({ cls := "PaceStoreModel", name := "timeBy", desc := "(IIIII)I" } : Jvm.MethodName) prog_12_method_57_code (7 : Nat) (Option.some Jvm.ClassFile.FieldType.int)) ∈ z_U := z_U_6 (i := 151) rfl rfl
theorem u_1439 : (Jvm.Cond.methodLink "PaceStoreModel" (274 : Nat) ({ cls := "PaceStoreModel", name := "leftAlone", desc := "(IIIII)I" } : Jvm.MethodName)) ∈ z_U := z_U_6 (i := 152) rfl rfl
theorem u_1441 : (Jvm.Cond.instanceMethod ({ cls := "PaceStoreModel", name := "leftAlone", desc := "(IIIII)I" } : Jvm.MethodName)) ∈ z_U := z_U_6 (i := 154) rfl rfl
theorem u_1442 : (Jvm.Cond.code ({ cls := "PaceStoreModel", name := "leftAlone", desc := "(IIIII)I" } : Jvm.MethodName) prog_12_method_56_code (6 : Nat) (Option.some Jvm.ClassFile.FieldType.int)) ∈ z_U := z_U_6 (i := 155) rfl rfl
theorem u_1443 : (Jvm.Cond.methodLink "PaceStoreModel" (271 : Nat) ({ cls := "PaceStoreModel", name := "isBehindRabbit", desc := "(III)Z" } : Jvm.MethodName)) ∈ z_U := z_U_6 (i := 156) rfl rfl
theorem u_1445 : (Jvm.Cond.instanceMethod ({ cls := "PaceStoreModel", name := "isBehindRabbit", desc := "(III)Z" } : Jvm.MethodName)) ∈ z_U := z_U_6 (i := 158) rfl rfl
theorem u_1446 : (Jvm.Cond.code ({ cls := "PaceStoreModel", name := "isBehindRabbit", desc := "(III)Z" } : Jvm.MethodName) prog_12_method_55_code (6 : Nat) (Option.some Jvm.ClassFile.FieldType.boolean)) ∈ z_U := z_U_6 (i := 159) rfl rfl
theorem u_1447 : (Jvm.Cond.methodLink "PaceStoreModel" (268 : Nat) ({ cls := "PaceStoreModel", name := "ofRabbit", desc := "(II)I" } : Jvm.MethodName)) ∈ z_U := z_U_6 (i := 160) rfl rfl
theorem u_1449 : (Jvm.Cond.instanceMethod ({ cls := "PaceStoreModel", name := "ofRabbit", desc := "(II)I" } : Jvm.MethodName)) ∈ z_U := z_U_6 (i := 162) rfl rfl
theorem u_1450 : (Jvm.Cond.code ({ cls := "PaceStoreModel", name := "ofRabbit", desc := "(II)I" } : Jvm.MethodName) prog_12_method_38_code (3 : Nat) (Option.some Jvm.ClassFile.FieldType.int)) ∈ z_U := z_U_6 (i := 163) rfl rfl
theorem u_1451 : (Jvm.Cond.constant "PaceStoreModel" (291 : Nat) (-1000000 : Int32)) ∈ z_U := z_U_6 (i := 164) rfl rfl
theorem u_1452 : (Jvm.Cond.methodLink "PaceStoreModel" (292 : Nat) ({ cls := "PaceStoreModel", name := "paceFor", desc := "(IIII)I" } : Jvm.MethodName)) ∈ z_U := z_U_6 (i := 165) rfl rfl
theorem u_1454 : (Jvm.Cond.instanceMethod ({ cls := "PaceStoreModel", name := "paceFor", desc := "(IIII)I" } : Jvm.MethodName)) ∈ z_U := z_U_6 (i := 167) rfl rfl
theorem u_1455 : (Jvm.Cond.code ({ cls := "PaceStoreModel", name := "paceFor", desc := "(IIII)I" } : Jvm.MethodName) prog_12_method_60_code (6 : Nat) (Option.some Jvm.ClassFile.FieldType.int)) ∈ z_U := z_U_6 (i := 168) rfl rfl
theorem u_1456 : (Jvm.Cond.methodLink "PaceStoreLaw" (71 : Nat) ({ cls := "PaceStoreModel", name := "even", desc := "(III)I" } : Jvm.MethodName)) ∈ z_U := z_U_6 (i := 169) rfl rfl
theorem u_1457 : (Jvm.Cond.instanceMethod ({ cls := "PaceStoreModel", name := "even", desc := "(III)I" } : Jvm.MethodName)) ∈ z_U := z_U_6 (i := 170) rfl rfl
theorem u_1458 : (Jvm.Cond.selects "PaceStoreModel" ({ cls := "PaceStoreModel", name := "even", desc := "(III)I" } : Jvm.MethodName) ({ cls := "PaceStoreModel", name := "even", desc := "(III)I" } : Jvm.MethodName)) ∈ z_U := z_U_6 (i := 171) rfl rfl
theorem u_1459 : (Jvm.Cond.code ({ cls := "PaceStoreModel", name := "even", desc := "(III)I" } : Jvm.MethodName) prog_12_method_64_code (8 : Nat) (Option.some Jvm.ClassFile.FieldType.int)) ∈ z_U := z_U_6 (i := 172) rfl rfl
theorem u_1460 : (Jvm.Cond.methodLink "PaceStoreModel" (295 : Nat) ({ cls := "PaceStoreModel", name := "evenTime", desc := "(III)I" } : Jvm.MethodName)) ∈ z_U := z_U_6 (i := 173) rfl rfl
theorem u_1462 : (Jvm.Cond.instanceMethod ({ cls := "PaceStoreModel", name := "evenTime", desc := "(III)I" } : Jvm.MethodName)) ∈ z_U := z_U_6 (i := 175) rfl rfl
theorem u_1463 : (Jvm.Cond.code ({ cls := "PaceStoreModel", name := "evenTime", desc := "(III)I" } : Jvm.MethodName) prog_12_method_63_code (6 : Nat) (Option.some Jvm.ClassFile.FieldType.int)) ∈ z_U := z_U_6 (i := 176) rfl rfl
theorem u_1464 : (Jvm.Cond.methodLink "PaceStoreLaw" (76 : Nat) ({ cls := "PaceStoreModel", name := "early", desc := "(II)I" } : Jvm.MethodName)) ∈ z_U := z_U_6 (i := 177) rfl rfl
theorem u_1465 : (Jvm.Cond.instanceMethod ({ cls := "PaceStoreModel", name := "early", desc := "(II)I" } : Jvm.MethodName)) ∈ z_U := z_U_6 (i := 178) rfl rfl
theorem u_1466 : (Jvm.Cond.selects "PaceStoreModel" ({ cls := "PaceStoreModel", name := "early", desc := "(II)I" } : Jvm.MethodName) ({ cls := "PaceStoreModel", name := "early", desc := "(II)I" } : Jvm.MethodName)) ∈ z_U := z_U_6 (i := 179) rfl rfl
theorem u_1467 : (Jvm.Cond.code ({ cls := "PaceStoreModel", name := "early", desc := "(II)I" } : Jvm.MethodName) prog_12_method_65_code (6 : Nat) (Option.some Jvm.ClassFile.FieldType.int)) ∈ z_U := z_U_6 (i := 180) rfl rfl
theorem u_1468 : (Jvm.Cond.constantLong "PaceStoreModel" (298 : Nat) (20 : Int64)) ∈ z_U := z_U_6 (i := 181) rfl rfl
theorem u_1469 : (Jvm.Cond.methodLink "PaceStoreLaw" (80 : Nat) ({ cls := "PaceStoreModel", name := "hired", desc := "(III)I" } : Jvm.MethodName)) ∈ z_U := z_U_6 (i := 182) rfl rfl
theorem u_1470 : (Jvm.Cond.instanceMethod ({ cls := "PaceStoreModel", name := "hired", desc := "(III)I" } : Jvm.MethodName)) ∈ z_U := z_U_6 (i := 183) rfl rfl
theorem u_1471 : (Jvm.Cond.selects "PaceStoreModel" ({ cls := "PaceStoreModel", name := "hired", desc := "(III)I" } : Jvm.MethodName) ({ cls := "PaceStoreModel", name := "hired", desc := "(III)I" } : Jvm.MethodName)) ∈ z_U := z_U_6 (i := 184) rfl rfl
theorem u_1472 : (Jvm.Cond.code ({ cls := "PaceStoreModel", name := "hired", desc := "(III)I" } : Jvm.MethodName) prog_12_method_67_code (9 : Nat) (Option.some Jvm.ClassFile.FieldType.int)) ∈ z_U := z_U_6 (i := 185) rfl rfl
theorem u_1473 : (Jvm.Cond.constantLong "PaceStoreModel" (300 : Nat) (999 : Int64)) ∈ z_U := z_U_6 (i := 186) rfl rfl
theorem u_1474 : (Jvm.Cond.methodLink "PaceStoreModel" (302 : Nat) ({ cls := "PaceStoreModel", name := "coinOf", desc := "(I)I" } : Jvm.MethodName)) ∈ z_U := z_U_6 (i := 187) rfl rfl
theorem u_1476 : (Jvm.Cond.instanceMethod ({ cls := "PaceStoreModel", name := "coinOf", desc := "(I)I" } : Jvm.MethodName)) ∈ z_U := z_U_6 (i := 189) rfl rfl
theorem u_1477 : (Jvm.Cond.code ({ cls := "PaceStoreModel", name := "coinOf", desc := "(I)I" } : Jvm.MethodName) prog_12_method_66_code (4 : Nat) (Option.some Jvm.ClassFile.FieldType.int)) ∈ z_U := z_U_6 (i := 190) rfl rfl
theorem u_1478 : (Jvm.Cond.methodLink "PaceStoreLaw" (84 : Nat) ({ cls := "PaceStoreModel", name := "stays", desc := "(II)I" } : Jvm.MethodName)) ∈ z_U := z_U_6 (i := 191) rfl rfl
theorem u_1479 : (Jvm.Cond.instanceMethod ({ cls := "PaceStoreModel", name := "stays", desc := "(II)I" } : Jvm.MethodName)) ∈ z_U := z_U_6 (i := 192) rfl rfl
theorem u_1480 : (Jvm.Cond.selects "PaceStoreModel" ({ cls := "PaceStoreModel", name := "stays", desc := "(II)I" } : Jvm.MethodName) ({ cls := "PaceStoreModel", name := "stays", desc := "(II)I" } : Jvm.MethodName)) ∈ z_U := z_U_6 (i := 193) rfl rfl
theorem u_1481 : (Jvm.Cond.code ({ cls := "PaceStoreModel", name := "stays", desc := "(II)I" } : Jvm.MethodName) prog_12_method_68_code (7 : Nat) (Option.some Jvm.ClassFile.FieldType.int)) ∈ z_U := z_U_6 (i := 194) rfl rfl
theorem u_1482 : (Jvm.Cond.methodLink "PaceStoreLaw" (88 : Nat) ({ cls := "PaceStoreModel", name := "rests", desc := "(III)I" } : Jvm.MethodName)) ∈ z_U := z_U_6 (i := 195) rfl rfl
theorem u_1483 : (Jvm.Cond.instanceMethod ({ cls := "PaceStoreModel", name := "rests", desc := "(III)I" } : Jvm.MethodName)) ∈ z_U := z_U_6 (i := 196) rfl rfl
theorem u_1484 : (Jvm.Cond.selects "PaceStoreModel" ({ cls := "PaceStoreModel", name := "rests", desc := "(III)I" } : Jvm.MethodName) ({ cls := "PaceStoreModel", name := "rests", desc := "(III)I" } : Jvm.MethodName)) ∈ z_U := z_U_6 (i := 197) rfl rfl
theorem u_1485 : (Jvm.Cond.code ({ cls := "PaceStoreModel", name := "rests", desc := "(III)I" } : Jvm.MethodName) prog_12_method_74_code (6 : Nat) (Option.some Jvm.ClassFile.FieldType.int)) ∈ z_U := z_U_6 (i := 198) rfl rfl
theorem u_1486 : (Jvm.Cond.methodLink "PaceStoreModel" (311 : Nat) ({ cls := "PaceStoreModel", name := "isGame", desc := "(II)Z" } : Jvm.MethodName)) ∈ z_U := z_U_6 (i := 199) rfl rfl
theorem u_1488 : (Jvm.Cond.instanceMethod ({ cls := "PaceStoreModel", name := "isGame", desc := "(II)Z" } : Jvm.MethodName)) ∈ z_U := z_U_6 (i := 201) rfl rfl
theorem u_1489 : (Jvm.Cond.code ({ cls := "PaceStoreModel", name := "isGame", desc := "(II)Z" } : Jvm.MethodName) prog_12_method_71_code (3 : Nat) (Option.some Jvm.ClassFile.FieldType.boolean)) ∈ z_U := z_U_6 (i := 202) rfl rfl
theorem u_1490 : (Jvm.Cond.methodLink "PaceStoreModel" (314 : Nat) ({ cls := "PaceStoreModel", name := "gameOf", desc := "(IIII)I" } : Jvm.MethodName)) ∈ z_U := z_U_6 (i := 203) rfl rfl
theorem u_1492 : (Jvm.Cond.instanceMethod ({ cls := "PaceStoreModel", name := "gameOf", desc := "(IIII)I" } : Jvm.MethodName)) ∈ z_U := z_U_6 (i := 205) rfl rfl
theorem u_1493 : (Jvm.Cond.code ({ cls := "PaceStoreModel", name := "gameOf", desc := "(IIII)I" } : Jvm.MethodName) prog_12_method_70_code (6 : Nat) (Option.some Jvm.ClassFile.FieldType.int)) ∈ z_U := z_U_6 (i := 206) rfl rfl
theorem u_1494 : (Jvm.Cond.methodLink "PaceStoreModel" (305 : Nat) ({ cls := "PaceStoreModel", name := "planPace", desc := "(III)I" } : Jvm.MethodName)) ∈ z_U := z_U_6 (i := 207) rfl rfl
theorem u_1496 : (Jvm.Cond.instanceMethod ({ cls := "PaceStoreModel", name := "planPace", desc := "(III)I" } : Jvm.MethodName)) ∈ z_U := z_U_6 (i := 209) rfl rfl
theorem u_1497 : (Jvm.Cond.code ({ cls := "PaceStoreModel", name := "planPace", desc := "(III)I" } : Jvm.MethodName) prog_12_method_69_code (7 : Nat) (Option.some Jvm.ClassFile.FieldType.int)) ∈ z_U := z_U_6 (i := 210) rfl rfl
theorem u_1498 : (Jvm.Cond.methodLink "PaceStoreModel" (317 : Nat) ({ cls := "PaceStoreModel", name := "isRest", desc := "(II)Z" } : Jvm.MethodName)) ∈ z_U := z_U_6 (i := 211) rfl rfl
theorem u_1500 : (Jvm.Cond.instanceMethod ({ cls := "PaceStoreModel", name := "isRest", desc := "(II)Z" } : Jvm.MethodName)) ∈ z_U := z_U_6 (i := 213) rfl rfl
theorem u_1501 : (Jvm.Cond.code ({ cls := "PaceStoreModel", name := "isRest", desc := "(II)Z" } : Jvm.MethodName) prog_12_method_73_code (5 : Nat) (Option.some Jvm.ClassFile.FieldType.boolean)) ∈ z_U := z_U_6 (i := 214) rfl rfl
theorem u_1502 : (Jvm.Cond.methodLink "PaceStoreModel" (308 : Nat) ({ cls := "PaceStoreModel", name := "worthTo", desc := "(II)I" } : Jvm.MethodName)) ∈ z_U := z_U_6 (i := 215) rfl rfl
theorem u_1503 : (Jvm.Cond.static ({ cls := "PaceStoreModel", name := "worthTo", desc := "(II)I" } : Jvm.MethodName)) ∈ z_U := z_U_6 (i := 216) rfl rfl
theorem u_1504 : (Jvm.Cond.code ({ cls := "PaceStoreModel", name := "worthTo", desc := "(II)I" } : Jvm.MethodName) prog_12_method_72_code (2 : Nat) (Option.some Jvm.ClassFile.FieldType.int)) ∈ z_U := z_U_6 (i := 217) rfl rfl
theorem u_1505 : (Jvm.Cond.methodLink "PaceStoreLaw" (93 : Nat) ({ cls := "PaceStoreModel", name := "wins", desc := "(IIII)I" } : Jvm.MethodName)) ∈ z_U := z_U_6 (i := 218) rfl rfl
theorem u_1506 : (Jvm.Cond.instanceMethod ({ cls := "PaceStoreModel", name := "wins", desc := "(IIII)I" } : Jvm.MethodName)) ∈ z_U := z_U_6 (i := 219) rfl rfl
theorem u_1507 : (Jvm.Cond.selects "PaceStoreModel" ({ cls := "PaceStoreModel", name := "wins", desc := "(IIII)I" } : Jvm.MethodName) ({ cls := "PaceStoreModel", name := "wins", desc := "(IIII)I" } : Jvm.MethodName)) ∈ z_U := z_U_6 (i := 220) rfl rfl
theorem u_1508 : (Jvm.Cond.code ({ cls := "PaceStoreModel", name := "wins", desc := "(IIII)I" } : Jvm.MethodName) prog_12_method_75_code (6 : Nat) (Option.some Jvm.ClassFile.FieldType.int)) ∈ z_U := z_U_6 (i := 221) rfl rfl
theorem u_1509 : (Jvm.Cond.constantLong "PaceStoreModel" (320 : Nat) (3 : Int64)) ∈ z_U := z_U_6 (i := 222) rfl rfl
theorem u_1510 : (Jvm.Cond.methodLink "PaceStoreLaw" (97 : Nat) ({ cls := "PaceStoreModel", name := "line", desc := "(III)I" } : Jvm.MethodName)) ∈ z_U := z_U_6 (i := 223) rfl rfl
theorem u_1511 : (Jvm.Cond.instanceMethod ({ cls := "PaceStoreModel", name := "line", desc := "(III)I" } : Jvm.MethodName)) ∈ z_U := z_U_6 (i := 224) rfl rfl
theorem u_1512 : (Jvm.Cond.selects "PaceStoreModel" ({ cls := "PaceStoreModel", name := "line", desc := "(III)I" } : Jvm.MethodName) ({ cls := "PaceStoreModel", name := "line", desc := "(III)I" } : Jvm.MethodName)) ∈ z_U := z_U_6 (i := 225) rfl rfl
theorem u_1513 : (Jvm.Cond.code ({ cls := "PaceStoreModel", name := "line", desc := "(III)I" } : Jvm.MethodName) prog_12_method_78_code (5 : Nat) (Option.some Jvm.ClassFile.FieldType.int)) ∈ z_U := z_U_6 (i := 226) rfl rfl
theorem u_1514 : (Jvm.Cond.methodLink "PaceStoreModel" (322 : Nat) ({ cls := "PaceStoreModel", name := "paceOf", desc := "(I)I" } : Jvm.MethodName)) ∈ z_U := z_U_6 (i := 227) rfl rfl
theorem u_1515 : (Jvm.Cond.static ({ cls := "PaceStoreModel", name := "paceOf", desc := "(I)I" } : Jvm.MethodName)) ∈ z_U := z_U_6 (i := 228) rfl rfl
theorem u_1516 : (Jvm.Cond.code ({ cls := "PaceStoreModel", name := "paceOf", desc := "(I)I" } : Jvm.MethodName) prog_12_method_76_code (2 : Nat) (Option.some Jvm.ClassFile.FieldType.int)) ∈ z_U := z_U_6 (i := 229) rfl rfl
theorem u_1517 : (Jvm.Cond.methodLink "PaceStoreModel" (325 : Nat) ({ cls := "PaceStoreModel", name := "isBorne", desc := "(IIII)Z" } : Jvm.MethodName)) ∈ z_U := z_U_6 (i := 230) rfl rfl
theorem u_1519 : (Jvm.Cond.instanceMethod ({ cls := "PaceStoreModel", name := "isBorne", desc := "(IIII)Z" } : Jvm.MethodName)) ∈ z_U := z_U_6 (i := 232) rfl rfl
theorem u_1520 : (Jvm.Cond.code ({ cls := "PaceStoreModel", name := "isBorne", desc := "(IIII)Z" } : Jvm.MethodName) prog_12_method_77_code (7 : Nat) (Option.some Jvm.ClassFile.FieldType.boolean)) ∈ z_U := z_U_6 (i := 233) rfl rfl
theorem u_1521 : (Jvm.Cond.methodLink "PaceStoreLaw" (101 : Nat) ({ cls := "PaceStoreModel", name := "parts", desc := "(IIII)I" } : Jvm.MethodName)) ∈ z_U := z_U_6 (i := 234) rfl rfl
theorem u_1522 : (Jvm.Cond.instanceMethod ({ cls := "PaceStoreModel", name := "parts", desc := "(IIII)I" } : Jvm.MethodName)) ∈ z_U := z_U_6 (i := 235) rfl rfl
theorem u_1523 : (Jvm.Cond.selects "PaceStoreModel" ({ cls := "PaceStoreModel", name := "parts", desc := "(IIII)I" } : Jvm.MethodName) ({ cls := "PaceStoreModel", name := "parts", desc := "(IIII)I" } : Jvm.MethodName)) ∈ z_U := z_U_6 (i := 236) rfl rfl
theorem u_1524 : (Jvm.Cond.code ({ cls := "PaceStoreModel", name := "parts", desc := "(IIII)I" } : Jvm.MethodName) prog_12_method_79_code (9 : Nat) (Option.some Jvm.ClassFile.FieldType.int)) ∈ z_U := z_U_6 (i := 237) rfl rfl
theorem u_1525 : (Jvm.Cond.constantLong "PaceStoreModel" (329 : Nat) (99999 : Int64)) ∈ z_U := z_U_6 (i := 238) rfl rfl
theorem u_1526 : (Jvm.Cond.methodLink "PaceStoreLaw" (105 : Nat) ({ cls := "PaceStoreModel", name := "hour", desc := "(IIIII)I" } : Jvm.MethodName)) ∈ z_U := z_U_6 (i := 239) rfl rfl
theorem u_1527 : (Jvm.Cond.instanceMethod ({ cls := "PaceStoreModel", name := "hour", desc := "(IIIII)I" } : Jvm.MethodName)) ∈ z_U := z_U_7 (i := 0) rfl rfl
theorem u_1528 : (Jvm.Cond.selects "PaceStoreModel" ({ cls := "PaceStoreModel", name := "hour", desc := "(IIIII)I" } : Jvm.MethodName) ({ cls := "PaceStoreModel", name := "hour", desc := "(IIIII)I" } : Jvm.MethodName)) ∈ z_U := z_U_7 (i := 1) rfl rfl
theorem u_1529 : (Jvm.Cond.code ({ cls := "PaceStoreModel", name := "hour", desc := "(IIIII)I" } : Jvm.MethodName) prog_12_method_80_code (10 : Nat) (Option.some Jvm.ClassFile.FieldType.int)) ∈ z_U := z_U_7 (i := 2) rfl rfl
theorem u_1530 : (Jvm.Cond.constantLong "PaceStoreModel" (331 : Nat) (24 : Int64)) ∈ z_U := z_U_7 (i := 3) rfl rfl
theorem u_1531 : (Jvm.Cond.methodLink "PaceStoreLaw" (109 : Nat) ({ cls := "PaceStoreModel", name := "feeling", desc := "(III)I" } : Jvm.MethodName)) ∈ z_U := z_U_7 (i := 4) rfl rfl
theorem u_1532 : (Jvm.Cond.instanceMethod ({ cls := "PaceStoreModel", name := "feeling", desc := "(III)I" } : Jvm.MethodName)) ∈ z_U := z_U_7 (i := 5) rfl rfl
theorem u_1533 : (Jvm.Cond.selects "PaceStoreModel" ({ cls := "PaceStoreModel", name := "feeling", desc := "(III)I" } : Jvm.MethodName) ({ cls := "PaceStoreModel", name := "feeling", desc := "(III)I" } : Jvm.MethodName)) ∈ z_U := z_U_7 (i := 6) rfl rfl
theorem u_1534 : (Jvm.Cond.code ({ cls := "PaceStoreModel", name := "feeling", desc := "(III)I" } : Jvm.MethodName) prog_12_method_82_code (8 : Nat) (Option.some Jvm.ClassFile.FieldType.int)) ∈ z_U := z_U_7 (i := 7) rfl rfl
theorem u_1535 : (Jvm.Cond.methodLink "PaceStoreModel" (333 : Nat) ({ cls := "PaceStoreModel", name := "feltTime", desc := "(IIII)I" } : Jvm.MethodName)) ∈ z_U := z_U_7 (i := 8) rfl rfl
theorem u_1537 : (Jvm.Cond.instanceMethod ({ cls := "PaceStoreModel", name := "feltTime", desc := "(IIII)I" } : Jvm.MethodName)) ∈ z_U := z_U_7 (i := 10) rfl rfl
theorem u_1538 : (Jvm.Cond.code ({ cls := "PaceStoreModel", name := "feltTime", desc := "(IIII)I" } : Jvm.MethodName) prog_12_method_81_code (8 : Nat) (Option.some Jvm.ClassFile.FieldType.int)) ∈ z_U := z_U_7 (i := 11) rfl rfl
theorem u_1539 : (Jvm.Cond.methodLink "PaceStoreLaw" (121 : Nat) ({ cls := "PaceStoreModel", name := "kind", desc := "(II)I" } : Jvm.MethodName)) ∈ z_U := z_U_7 (i := 12) rfl rfl
theorem u_1540 : (Jvm.Cond.instanceMethod ({ cls := "PaceStoreModel", name := "kind", desc := "(II)I" } : Jvm.MethodName)) ∈ z_U := z_U_7 (i := 13) rfl rfl
theorem u_1541 : (Jvm.Cond.selects "PaceStoreModel" ({ cls := "PaceStoreModel", name := "kind", desc := "(II)I" } : Jvm.MethodName) ({ cls := "PaceStoreModel", name := "kind", desc := "(II)I" } : Jvm.MethodName)) ∈ z_U := z_U_7 (i := 14) rfl rfl
theorem u_1542 : (Jvm.Cond.code ({ cls := "PaceStoreModel", name := "kind", desc := "(II)I" } : Jvm.MethodName) prog_12_method_85_code (3 : Nat) (Option.some Jvm.ClassFile.FieldType.int)) ∈ z_U := z_U_7 (i := 15) rfl rfl
theorem u_1543 : (Jvm.Cond.methodLink "PaceStoreModel" (336 : Nat) ({ cls := "PaceStoreModel", name := "isStep", desc := "(II)Z" } : Jvm.MethodName)) ∈ z_U := z_U_7 (i := 16) rfl rfl
theorem u_1545 : (Jvm.Cond.instanceMethod ({ cls := "PaceStoreModel", name := "isStep", desc := "(II)Z" } : Jvm.MethodName)) ∈ z_U := z_U_7 (i := 18) rfl rfl
theorem u_1546 : (Jvm.Cond.code ({ cls := "PaceStoreModel", name := "isStep", desc := "(II)Z" } : Jvm.MethodName) prog_12_method_83_code (3 : Nat) (Option.some Jvm.ClassFile.FieldType.boolean)) ∈ z_U := z_U_7 (i := 19) rfl rfl
theorem u_1547 : (Jvm.Cond.methodLink "PaceStoreModel" (339 : Nat) ({ cls := "PaceStoreModel", name := "kindOf", desc := "(II)I" } : Jvm.MethodName)) ∈ z_U := z_U_7 (i := 20) rfl rfl
theorem u_1549 : (Jvm.Cond.instanceMethod ({ cls := "PaceStoreModel", name := "kindOf", desc := "(II)I" } : Jvm.MethodName)) ∈ z_U := z_U_7 (i := 22) rfl rfl
theorem u_1550 : (Jvm.Cond.code ({ cls := "PaceStoreModel", name := "kindOf", desc := "(II)I" } : Jvm.MethodName) prog_12_method_84_code (5 : Nat) (Option.some Jvm.ClassFile.FieldType.int)) ∈ z_U := z_U_7 (i := 23) rfl rfl
theorem u_1551 : (Jvm.Cond.methodLink "PaceStoreLaw" (125 : Nat) ({ cls := "PaceStoreModel", name := "as", desc := "(III)I" } : Jvm.MethodName)) ∈ z_U := z_U_7 (i := 24) rfl rfl
theorem u_1552 : (Jvm.Cond.instanceMethod ({ cls := "PaceStoreModel", name := "as", desc := "(III)I" } : Jvm.MethodName)) ∈ z_U := z_U_7 (i := 25) rfl rfl
theorem u_1553 : (Jvm.Cond.selects "PaceStoreModel" ({ cls := "PaceStoreModel", name := "as", desc := "(III)I" } : Jvm.MethodName) ({ cls := "PaceStoreModel", name := "as", desc := "(III)I" } : Jvm.MethodName)) ∈ z_U := z_U_7 (i := 26) rfl rfl
theorem u_1554 : (Jvm.Cond.code ({ cls := "PaceStoreModel", name := "as", desc := "(III)I" } : Jvm.MethodName) prog_12_method_87_code (4 : Nat) (Option.some Jvm.ClassFile.FieldType.int)) ∈ z_U := z_U_7 (i := 27) rfl rfl
theorem u_1555 : (Jvm.Cond.methodLink "PaceStoreModel" (342 : Nat) ({ cls := "PaceStoreModel", name := "isOf", desc := "(II)Z" } : Jvm.MethodName)) ∈ z_U := z_U_7 (i := 28) rfl rfl
theorem u_1556 : (Jvm.Cond.static ({ cls := "PaceStoreModel", name := "isOf", desc := "(II)Z" } : Jvm.MethodName)) ∈ z_U := z_U_7 (i := 29) rfl rfl
theorem u_1557 : (Jvm.Cond.code ({ cls := "PaceStoreModel", name := "isOf", desc := "(II)Z" } : Jvm.MethodName) prog_12_method_86_code (2 : Nat) (Option.some Jvm.ClassFile.FieldType.boolean)) ∈ z_U := z_U_7 (i := 30) rfl rfl
theorem u_1558 : (Jvm.Cond.methodLink "PaceStoreLaw" (129 : Nat) ({ cls := "PaceStoreModel", name := "ask", desc := "(III)I" } : Jvm.MethodName)) ∈ z_U := z_U_7 (i := 31) rfl rfl
theorem u_1559 : (Jvm.Cond.instanceMethod ({ cls := "PaceStoreModel", name := "ask", desc := "(III)I" } : Jvm.MethodName)) ∈ z_U := z_U_7 (i := 32) rfl rfl
theorem u_1560 : (Jvm.Cond.selects "PaceStoreModel" ({ cls := "PaceStoreModel", name := "ask", desc := "(III)I" } : Jvm.MethodName) ({ cls := "PaceStoreModel", name := "ask", desc := "(III)I" } : Jvm.MethodName)) ∈ z_U := z_U_7 (i := 33) rfl rfl
theorem u_1561 : (Jvm.Cond.code ({ cls := "PaceStoreModel", name := "ask", desc := "(III)I" } : Jvm.MethodName) prog_12_method_92_code (5 : Nat) (Option.some Jvm.ClassFile.FieldType.int)) ∈ z_U := z_U_7 (i := 34) rfl rfl
theorem u_1562 : (Jvm.Cond.methodLink "PaceStoreModel" (355 : Nat) ({ cls := "PaceStoreModel", name := "sizeOf", desc := "(III)I" } : Jvm.MethodName)) ∈ z_U := z_U_7 (i := 35) rfl rfl
theorem u_1564 : (Jvm.Cond.instanceMethod ({ cls := "PaceStoreModel", name := "sizeOf", desc := "(III)I" } : Jvm.MethodName)) ∈ z_U := z_U_7 (i := 37) rfl rfl
theorem u_1565 : (Jvm.Cond.code ({ cls := "PaceStoreModel", name := "sizeOf", desc := "(III)I" } : Jvm.MethodName) prog_12_method_89_code (5 : Nat) (Option.some Jvm.ClassFile.FieldType.int)) ∈ z_U := z_U_7 (i := 38) rfl rfl
theorem u_1566 : (Jvm.Cond.methodLink "PaceStoreModel" (348 : Nat) ({ cls := "PaceStoreModel", name := "leave", desc := "(IZ)V" } : Jvm.MethodName)) ∈ z_U := z_U_7 (i := 39) rfl rfl
theorem u_1568 : (Jvm.Cond.instanceMethod ({ cls := "PaceStoreModel", name := "leave", desc := "(IZ)V" } : Jvm.MethodName)) ∈ z_U := z_U_7 (i := 41) rfl rfl
theorem u_1569 : (Jvm.Cond.code ({ cls := "PaceStoreModel", name := "leave", desc := "(IZ)V" } : Jvm.MethodName) prog_12_method_88_code (3 : Nat) (Option.none : Option Jvm.ClassFile.FieldType)) ∈ z_U := z_U_7 (i := 42) rfl rfl
theorem u_1570 : (Jvm.Cond.methodLink "PaceStoreModel" (352 : Nat) ({ cls := "PaceStoreModel", name := "hardMark", desc := "(III)I" } : Jvm.MethodName)) ∈ z_U := z_U_7 (i := 43) rfl rfl
theorem u_1572 : (Jvm.Cond.instanceMethod ({ cls := "PaceStoreModel", name := "hardMark", desc := "(III)I" } : Jvm.MethodName)) ∈ z_U := z_U_7 (i := 45) rfl rfl
theorem u_1573 : (Jvm.Cond.code ({ cls := "PaceStoreModel", name := "hardMark", desc := "(III)I" } : Jvm.MethodName) prog_12_method_90_code (4 : Nat) (Option.some Jvm.ClassFile.FieldType.int)) ∈ z_U := z_U_7 (i := 46) rfl rfl
theorem u_1574 : (Jvm.Cond.methodLink "PaceStoreModel" (358 : Nat) ({ cls := "PaceStoreModel", name := "markOf", desc := "(III)I" } : Jvm.MethodName)) ∈ z_U := z_U_7 (i := 47) rfl rfl
theorem u_1576 : (Jvm.Cond.instanceMethod ({ cls := "PaceStoreModel", name := "markOf", desc := "(III)I" } : Jvm.MethodName)) ∈ z_U := z_U_7 (i := 49) rfl rfl
theorem u_1577 : (Jvm.Cond.code ({ cls := "PaceStoreModel", name := "markOf", desc := "(III)I" } : Jvm.MethodName) prog_12_method_91_code (5 : Nat) (Option.some Jvm.ClassFile.FieldType.int)) ∈ z_U := z_U_7 (i := 50) rfl rfl
theorem u_1578 : (Jvm.Cond.methodLink "PaceStoreLaw" (133 : Nat) ({ cls := "PaceStoreModel", name := "trace", desc := "(I)I" } : Jvm.MethodName)) ∈ z_U := z_U_7 (i := 51) rfl rfl
theorem u_1579 : (Jvm.Cond.instanceMethod ({ cls := "PaceStoreModel", name := "trace", desc := "(I)I" } : Jvm.MethodName)) ∈ z_U := z_U_7 (i := 52) rfl rfl
theorem u_1580 : (Jvm.Cond.selects "PaceStoreModel" ({ cls := "PaceStoreModel", name := "trace", desc := "(I)I" } : Jvm.MethodName) ({ cls := "PaceStoreModel", name := "trace", desc := "(I)I" } : Jvm.MethodName)) ∈ z_U := z_U_7 (i := 53) rfl rfl
theorem u_1581 : (Jvm.Cond.code ({ cls := "PaceStoreModel", name := "trace", desc := "(I)I" } : Jvm.MethodName) prog_12_method_93_code (2 : Nat) (Option.some Jvm.ClassFile.FieldType.int)) ∈ z_U := z_U_7 (i := 54) rfl rfl
theorem u_1582 : (Jvm.Cond.methodLink "PaceStoreLaw" (113 : Nat) ({ cls := "PaceStoreModel", name := "image", desc := "(I)I" } : Jvm.MethodName)) ∈ z_U := z_U_7 (i := 55) rfl rfl
theorem u_1583 : (Jvm.Cond.instanceMethod ({ cls := "PaceStoreModel", name := "image", desc := "(I)I" } : Jvm.MethodName)) ∈ z_U := z_U_7 (i := 56) rfl rfl
theorem u_1584 : (Jvm.Cond.selects "PaceStoreModel" ({ cls := "PaceStoreModel", name := "image", desc := "(I)I" } : Jvm.MethodName) ({ cls := "PaceStoreModel", name := "image", desc := "(I)I" } : Jvm.MethodName)) ∈ z_U := z_U_7 (i := 57) rfl rfl
theorem u_1585 : (Jvm.Cond.code ({ cls := "PaceStoreModel", name := "image", desc := "(I)I" } : Jvm.MethodName) prog_12_method_94_code (3 : Nat) (Option.some Jvm.ClassFile.FieldType.int)) ∈ z_U := z_U_7 (i := 58) rfl rfl
theorem u_1586 : (Jvm.Cond.methodLink "PaceStoreLaw" (117 : Nat) ({ cls := "PaceStoreModel", name := "restore", desc := "(I)I" } : Jvm.MethodName)) ∈ z_U := z_U_7 (i := 59) rfl rfl
theorem u_1587 : (Jvm.Cond.instanceMethod ({ cls := "PaceStoreModel", name := "restore", desc := "(I)I" } : Jvm.MethodName)) ∈ z_U := z_U_7 (i := 60) rfl rfl
theorem u_1588 : (Jvm.Cond.selects "PaceStoreModel" ({ cls := "PaceStoreModel", name := "restore", desc := "(I)I" } : Jvm.MethodName) ({ cls := "PaceStoreModel", name := "restore", desc := "(I)I" } : Jvm.MethodName)) ∈ z_U := z_U_7 (i := 61) rfl rfl
theorem u_1589 : (Jvm.Cond.code ({ cls := "PaceStoreModel", name := "restore", desc := "(I)I" } : Jvm.MethodName) prog_12_method_95_code (3 : Nat) (Option.some Jvm.ClassFile.FieldType.int)) ∈ z_U := z_U_7 (i := 62) rfl rfl
theorem u_1590 : (Jvm.Cond.methodLink "PaceStoreLaw" (137 : Nat) ({ cls := "PaceStoreModel", name := "count", desc := "(I)I" } : Jvm.MethodName)) ∈ z_U := z_U_7 (i := 63) rfl rfl
theorem u_1591 : (Jvm.Cond.instanceMethod ({ cls := "PaceStoreModel", name := "count", desc := "(I)I" } : Jvm.MethodName)) ∈ z_U := z_U_7 (i := 64) rfl rfl
theorem u_1592 : (Jvm.Cond.selects "PaceStoreModel" ({ cls := "PaceStoreModel", name := "count", desc := "(I)I" } : Jvm.MethodName) ({ cls := "PaceStoreModel", name := "count", desc := "(I)I" } : Jvm.MethodName)) ∈ z_U := z_U_7 (i := 65) rfl rfl
theorem u_1593 : (Jvm.Cond.code ({ cls := "PaceStoreModel", name := "count", desc := "(I)I" } : Jvm.MethodName) prog_12_method_96_code (4 : Nat) (Option.some Jvm.ClassFile.FieldType.int)) ∈ z_U := z_U_7 (i := 66) rfl rfl
theorem u_1594 : (Jvm.Cond.methodLink "PaceStoreLaw" (141 : Nat) ({ cls := "PaceStoreModel", name := "status", desc := "()I" } : Jvm.MethodName)) ∈ z_U := z_U_7 (i := 67) rfl rfl
theorem u_1595 : (Jvm.Cond.instanceMethod ({ cls := "PaceStoreModel", name := "status", desc := "()I" } : Jvm.MethodName)) ∈ z_U := z_U_7 (i := 68) rfl rfl
theorem u_1596 : (Jvm.Cond.selects "PaceStoreModel" ({ cls := "PaceStoreModel", name := "status", desc := "()I" } : Jvm.MethodName) ({ cls := "PaceStoreModel", name := "status", desc := "()I" } : Jvm.MethodName)) ∈ z_U := z_U_7 (i := 69) rfl rfl
theorem u_1597 : (Jvm.Cond.code ({ cls := "PaceStoreModel", name := "status", desc := "()I" } : Jvm.MethodName) prog_12_method_97_code (1 : Nat) (Option.some Jvm.ClassFile.FieldType.int)) ∈ z_U := z_U_7 (i := 70) rfl rfl
theorem u_1598 : (Jvm.Cond.constantLong "PaceStoreLaw" (32 : Nat) (4294967295 : Int64)) ∈ z_U := z_U_7 (i := 71) rfl rfl
theorem z_i9 : ∀ w ∈ u_ws RX9 TX9 11, w ∈ z_U := z_fc u_478 (z_fc u_480 (z_fc u_482 (z_fc u_484 (z_fc u_486 (z_fc u_488 (z_fc u_490 (z_fc u_492 (z_fc u_494 (z_fc u_496 (z_fc u_498 (z_fn)))))))))))
theorem z_i7 : ∀ w ∈ u_ws RX7 TX7 3, w ∈ z_U := z_fc u_460 (z_fc u_462 (z_fc u_464 (z_fn)))
theorem z_i5 : ∀ w ∈ u_ws RX5 TX5 9, w ∈ z_U := z_fc u_238 (z_fc u_240 (z_fc u_242 (z_fc u_244 (z_fc u_246 (z_fc u_248 (z_fc u_250 (z_fc u_252 (z_fc u_254 (z_fn)))))))))
theorem z_i2 : ∀ w ∈ u_ws RX2 TX2 18, w ∈ z_U := z_fc u_186 (z_fc u_188 (z_fc u_190 (z_fc u_192 (z_fc u_194 (z_fc u_196 (z_fc u_198 (z_fc u_200 (z_fc u_202 (z_fc u_204 (z_fc u_206 (z_fc u_208 (z_fc u_210 (z_fc u_212 (z_fc u_214 (z_fc u_216 (z_fc u_218 (z_fc u_220 (z_fn))))))))))))))))))
theorem z_i6 : ∀ w ∈ u_ws RX6 TX6 4, w ∈ z_U := z_fc u_276 (z_fc u_278 (z_fc u_280 (z_fc u_282 (z_fn))))
theorem z_i3 : ∀ w ∈ u_ws RX3 TX3 3, w ∈ z_U := z_fc u_349 (z_fc u_351 (z_fc u_353 (z_fn)))
theorem z_i1 : ∀ w ∈ u_ws RX1 TX1 10, w ∈ z_U := z_fc u_323 (z_fc u_325 (z_fc u_327 (z_fc u_329 (z_fc u_331 (z_fc u_333 (z_fc u_335 (z_fc u_337 (z_fc u_339 (z_fc u_341 (z_fn))))))))))
theorem z_i0 : ∀ w ∈ u_ws RX0 TX0 11, w ∈ z_U := z_fc u_381 (z_fc u_383 (z_fc u_385 (z_fc u_387 (z_fc u_389 (z_fc u_391 (z_fc u_393 (z_fc u_395 (z_fc u_397 (z_fc u_399 (z_fc u_401 (z_fn)))))))))))
theorem z_i4 : ∀ w ∈ u_ws RX4 TX4 2, w ∈ z_U := z_fc u_414 (z_fc u_416 (z_fn))
theorem z_i8 : ∀ w ∈ u_ws RX8 TX8 7, w ∈ z_U := z_fc u_434 (z_fc u_436 (z_fc u_438 (z_fc u_440 (z_fc u_442 (z_fc u_444 (z_fc u_446 (z_fn)))))))
theorem z_i10 : ∀ w ∈ u_ws RX10 TX10 30, w ∈ z_U := z_fc u_1139 (z_fc u_1141 (z_fc u_1143 (z_fc u_1145 (z_fc u_1147 (z_fc u_1149 (z_fc u_1151 (z_fc u_1153 (z_fc u_1155 (z_fc u_1157 (z_fc u_1159 (z_fc u_1161 (z_fc u_1163 (z_fc u_1165 (z_fc u_1167 (z_fc u_1169 (z_fc u_1171 (z_fc u_1173 (z_fc u_1175 (z_fc u_1177 (z_fc u_1179 (z_fc u_1181 (z_fc u_1183 (z_fc u_1185 (z_fc u_1187 (z_fc u_1189 (z_fc u_1191 (z_fc u_1193 (z_fc u_1195 (z_fc u_1197 (z_fn))))))))))))))))))))))))))))))
theorem z_c9 : z_Cl 0 9 11 RX9 TX9 := ⟨by decide, rfl, rfl, z_i9⟩
theorem z_c7 : z_Cl 2 7 3 RX7 TX7 := ⟨by decide, rfl, rfl, z_i7⟩
theorem z_c5 : z_Cl 4 5 9 RX5 TX5 := ⟨by decide, rfl, rfl, z_i5⟩
theorem z_c2 : z_Cl 6 2 18 RX2 TX2 := ⟨by decide, rfl, rfl, z_i2⟩
theorem z_c6 : z_Cl 21 6 4 RX6 TX6 := ⟨by decide, rfl, rfl, z_i6⟩
theorem z_c3 : z_Cl 27 3 3 RX3 TX3 := ⟨by decide, rfl, rfl, z_i3⟩
theorem z_c1 : z_Cl 29 1 10 RX1 TX1 := ⟨by decide, rfl, rfl, z_i1⟩
theorem z_c0 : z_Cl 30 0 11 RX0 TX0 := ⟨by decide, rfl, rfl, z_i0⟩
theorem z_c4 : z_Cl 42 4 2 RX4 TX4 := ⟨by decide, rfl, rfl, z_i4⟩
theorem z_c8 : z_Cl 44 8 7 RX8 TX8 := ⟨by decide, rfl, rfl, z_i8⟩
theorem z_c10 : z_Cl 46 10 30 RX10 TX10 := ⟨by decide, rfl, rfl, z_i10⟩
theorem z_only27 : ∀ j, j ≠ 2 → (z_ft 27 j).1 ≠ 1 := fun j => match j with
  | 0 => fun _ => by decide
  | 1 => fun _ => by decide
  | 2 => fun h => absurd rfl h
  | n + 3 => fun _ => (by show (0 : Nat) ≠ 1; decide)
theorem z_only46_0 : ∀ j, j ≠ 0 → (z_ft 46 j).1 ≤ 2 ∨ (z_ft 46 j).2.2.1 ≠ 0 := fun j => match j with
  | 0 => fun h => absurd rfl h
  | 1 => fun _ => by decide
  | 2 => fun _ => by decide
  | 3 => fun _ => by decide
  | 4 => fun _ => by decide
  | 5 => fun _ => by decide
  | 6 => fun _ => by decide
  | 7 => fun _ => by decide
  | 8 => fun _ => by decide
  | 9 => fun _ => by decide
  | 10 => fun _ => by decide
  | 11 => fun _ => by decide
  | 12 => fun _ => by decide
  | 13 => fun _ => by decide
  | 14 => fun _ => by decide
  | 15 => fun _ => by decide
  | 16 => fun _ => by decide
  | 17 => fun _ => by decide
  | 18 => fun _ => by decide
  | 19 => fun _ => by decide
  | 20 => fun _ => by decide
  | 21 => fun _ => by decide
  | 22 => fun _ => by decide
  | 23 => fun _ => by decide
  | 24 => fun _ => by decide
  | 25 => fun _ => by decide
  | 26 => fun _ => by decide
  | 27 => fun _ => by decide
  | 28 => fun _ => by decide
  | 29 => fun _ => by decide
  | n + 30 => fun _ => Or.inl (by show (0 : Nat) ≤ 2; decide)
theorem z_only46_1 : ∀ j, j ≠ 1 → (z_ft 46 j).1 ≤ 2 ∨ (z_ft 46 j).2.2.1 ≠ 1 := fun j => match j with
  | 0 => fun _ => by decide
  | 1 => fun h => absurd rfl h
  | 2 => fun _ => by decide
  | 3 => fun _ => by decide
  | 4 => fun _ => by decide
  | 5 => fun _ => by decide
  | 6 => fun _ => by decide
  | 7 => fun _ => by decide
  | 8 => fun _ => by decide
  | 9 => fun _ => by decide
  | 10 => fun _ => by decide
  | 11 => fun _ => by decide
  | 12 => fun _ => by decide
  | 13 => fun _ => by decide
  | 14 => fun _ => by decide
  | 15 => fun _ => by decide
  | 16 => fun _ => by decide
  | 17 => fun _ => by decide
  | 18 => fun _ => by decide
  | 19 => fun _ => by decide
  | 20 => fun _ => by decide
  | 21 => fun _ => by decide
  | 22 => fun _ => by decide
  | 23 => fun _ => by decide
  | 24 => fun _ => by decide
  | 25 => fun _ => by decide
  | 26 => fun _ => by decide
  | 27 => fun _ => by decide
  | 28 => fun _ => by decide
  | 29 => fun _ => by decide
  | n + 30 => fun _ => Or.inl (by show (0 : Nat) ≤ 2; decide)
end
section
def TX7_isMissing_0 : List z_R := [(0, 1, x_ald 0), (1, 4, x_gI 2 1), (4, 5, x_ic (-1)), (5, 8, x_ic_ne 12), (8, 9, x_ic 1), (9, 12, x_goto 13), (12, 13, x_ic 0), (13, 14, x_zret)]
theorem KX7_isMissing_0 {X : z_Cx} {D : Nat} : z_Ro X D mX7_isMissing (TX7_isMissing_0) := z_rc1 (s_aload_n (k := 0) (by decide +kernel) rfl) (z_rc1 (s_gI (f := 1) z_c7 (by decide) rfl u_456 (by decide +kernel)) (z_rc1 (s_iconst (n := -1) (by decide +kernel) (by decide)) (z_rc1 (s_ic_ne (off := 7) (by decide +kernel) (by decide)) (z_rc1 (s_iconst (n := 1) (by decide +kernel) (by decide)) (z_rc1 (s_goto (off := 4) (by decide +kernel) (by decide)) (z_rc1 (s_iconst (n := 0) (by decide +kernel) (by decide)) (z_rc1 (s_zret (by decide +kernel) rfl) (z_rn))))))))
def TX7_isMissing : z_T := fun pc => z_t2 pc [(13, TX7_isMissing_0)]
theorem KX7_isMissing {X : z_Cx} {D : Nat} : z_Tok X D mX7_isMissing (TX7_isMissing) := fun _ => z_t2_ok (z_cc KX7_isMissing_0 (z_cn))
def TX7_begin_0 : List z_R := [(0, 1, x_ald 0), (1, 4, x_gR1 2 3), (4, 5, x_ic 0), (5, 8, x_sv mJ7_fill_53178 2), (8, 9, x_ald 0), (9, 10, x_ild 1), (10, 13, x_pI 2 1), (13, 14, x_ald 0), (14, 15, x_ild 2), (15, 18, x_pI 2 2), (18, 19, x_vret)]
theorem KX7_begin_0 {X : z_Cx} {D : Nat} : z_Ro X D mX7_begin (TX7_begin_0) := z_rc1 (s_aload_n (k := 0) (by decide +kernel) rfl) (z_rc1 (s_gR1 (f := 0) z_c7 (by decide) rfl u_454 (by decide +kernel) rfl) (z_rc1 (s_iconst (n := 0) (by decide +kernel) (by decide)) (z_rc1 (s_sv ⟨u_518, u_100, u_520, by decide +kernel, rfl⟩ u_519 rfl (by decide +kernel)) (z_rc1 (s_aload_n (k := 0) (by decide +kernel) rfl) (z_rc1 (s_iload_n (k := 1) (by decide +kernel) rfl) (z_rc1 (s_pI (f := 1) z_c7 tyX7_ok nmX7 (by decide) rfl rfl rfl u_456 (by decide +kernel)) (z_rc1 (s_aload_n (k := 0) (by decide +kernel) rfl) (z_rc1 (s_iload_n (k := 2) (by decide +kernel) rfl) (z_rc1 (s_pI (f := 2) z_c7 tyX7_ok nmX7 (by decide) rfl rfl rfl u_458 (by decide +kernel)) (z_rc1 (s_vret (by decide +kernel) rfl) (z_rn)))))))))))
def TX7_begin : z_T := fun pc => z_t2 pc [(18, TX7_begin_0)]
theorem KX7_begin {X : z_Cx} {D : Nat} : z_Tok X D mX7_begin (TX7_begin) := fun _ => z_t2_ok (z_cc KX7_begin_0 (z_cn))
def TX7_end_0 : List z_R := [(0, 1, x_ald 0), (1, 2, x_ic (-1)), (2, 5, x_pI 2 1), (5, 6, x_ald 0), (6, 7, x_ic 0), (7, 10, x_pI 2 2), (10, 11, x_vret)]
theorem KX7_end_0 {X : z_Cx} {D : Nat} : z_Ro X D mX7_end (TX7_end_0) := z_rc1 (s_aload_n (k := 0) (by decide +kernel) rfl) (z_rc1 (s_iconst (n := -1) (by decide +kernel) (by decide)) (z_rc1 (s_pI (f := 1) z_c7 tyX7_ok nmX7 (by decide) rfl rfl rfl u_456 (by decide +kernel)) (z_rc1 (s_aload_n (k := 0) (by decide +kernel) rfl) (z_rc1 (s_iconst (n := 0) (by decide +kernel) (by decide)) (z_rc1 (s_pI (f := 2) z_c7 tyX7_ok nmX7 (by decide) rfl rfl rfl u_458 (by decide +kernel)) (z_rc1 (s_vret (by decide +kernel) rfl) (z_rn)))))))
def TX7_end : z_T := fun pc => z_t2 pc [(10, TX7_end_0)]
theorem KX7_end {X : z_Cx} {D : Nat} : z_Tok X D mX7_end (TX7_end) := fun _ => z_t2_ok (z_cc KX7_end_0 (z_cn))
def TX7_reaches_0 : List z_R := [(0, 1, x_ild 1), (1, 4, x_if_lt 22), (4, 5, x_ild 2), (5, 8, x_if_lt 22), (8, 9, x_ild 1), (9, 10, x_ald 0), (10, 13, x_gI 2 2), (13, 14, x_ild 2), (14, 15, x_isub), (15, 18, x_ic_gt 22), (18, 19, x_ic 1), (19, 22, x_goto 23), (22, 23, x_ic 0), (23, 24, x_zret)]
theorem KX7_reaches_0 {X : z_Cx} {D : Nat} : z_Ro X D mX7_reaches (TX7_reaches_0) := z_rc1 (s_iload_n (k := 1) (by decide +kernel) rfl) (z_rc1 (s_if_lt (off := 21) (by decide +kernel) (by decide)) (z_rc1 (s_iload_n (k := 2) (by decide +kernel) rfl) (z_rc1 (s_if_lt (off := 17) (by decide +kernel) (by decide)) (z_rc1 (s_iload_n (k := 1) (by decide +kernel) rfl) (z_rc1 (s_aload_n (k := 0) (by decide +kernel) rfl) (z_rc1 (s_gI (f := 2) z_c7 (by decide) rfl u_458 (by decide +kernel)) (z_rc1 (s_iload_n (k := 2) (by decide +kernel) rfl) (z_rc1 (s_isub (by decide +kernel)) (z_rc1 (s_ic_gt (off := 7) (by decide +kernel) (by decide)) (z_rc1 (s_iconst (n := 1) (by decide +kernel) (by decide)) (z_rc1 (s_goto (off := 4) (by decide +kernel) (by decide)) (z_rc1 (s_iconst (n := 0) (by decide +kernel) (by decide)) (z_rc1 (s_zret (by decide +kernel) rfl) (z_rn))))))))))))))
def TX7_reaches : z_T := fun pc => z_t2 pc [(23, TX7_reaches_0)]
theorem KX7_reaches {X : z_Cx} {D : Nat} : z_Tok X D mX7_reaches (TX7_reaches) := fun _ => z_t2_ok (z_cc KX7_reaches_0 (z_cn))
def TX7_at_0 : List z_R := [(0, 1, x_ild 1), (1, 2, x_ic 0), (2, 4, x_ic 39), (4, 7, x_si mX9_within 3), (7, 10, x_if_eq 19), (10, 11, x_ald 0), (11, 14, x_gR1 2 3), (14, 15, x_ild 1), (15, 16, x_iald), (16, 19, x_goto 20), (19, 20, x_ic 0), (20, 21, x_iret)]
theorem KX7_at_0 {X : z_Cx} {D : Nat} : z_Ro X D mX7_at (TX7_at_0) := z_rc1 (s_iload_n (k := 1) (by decide +kernel) rfl) (z_rc1 (s_iconst (n := 0) (by decide +kernel) (by decide)) (z_rc1 (s_bipush (n := 39) (by decide +kernel) (by decide)) (z_rc1 (s_siN ⟨List.mem_of_getElem? (i := 1) rfl, u_88, u_507, by decide +kernel, rfl⟩ u_506 rfl (by decide +kernel)) (z_rc1 (s_if_eq (off := 12) (by decide +kernel) (by decide)) (z_rc1 (s_aload_n (k := 0) (by decide +kernel) rfl) (z_rc1 (s_gR1 (f := 0) z_c7 (by decide) rfl u_454 (by decide +kernel) rfl) (z_rc1 (s_iload_n (k := 1) (by decide +kernel) rfl) (z_rc1 (s_iald (by decide +kernel)) (z_rc1 (s_goto (off := 4) (by decide +kernel) (by decide)) (z_rc1 (s_iconst (n := 0) (by decide +kernel) (by decide)) (z_rc1 (s_iret (by decide +kernel) rfl) (z_rn))))))))))))
def TX7_at : z_T := fun pc => z_t2 pc [(20, TX7_at_0)]
theorem KX7_at {X : z_Cx} {D : Nat} : z_Tok X D mX7_at (TX7_at) := fun _ => z_t2_ok (z_cc KX7_at_0 (z_cn))
def TX7_put_0 : List z_R := [(0, 1, x_ald 0), (1, 4, x_gI 2 1), (4, 7, x_if_ne 12), (7, 8, x_ild 2), (8, 9, x_i2b), (9, 12, x_goto 26), (12, 13, x_ald 0), (13, 16, x_gI 2 1), (16, 17, x_ic 1), (17, 20, x_ic_ne 25), (20, 21, x_ild 2), (21, 22, x_i2s), (22, 25, x_goto 26), (25, 26, x_ild 2)]
theorem KX7_put_0 {X : z_Cx} {D : Nat} : z_Ro X D mX7_put (TX7_put_0) := z_rc1 (s_aload_n (k := 0) (by decide +kernel) rfl) (z_rc1 (s_gI (f := 1) z_c7 (by decide) rfl u_456 (by decide +kernel)) (z_rc1 (s_if_ne (off := 8) (by decide +kernel) (by decide)) (z_rc1 (s_iload_n (k := 2) (by decide +kernel) rfl) (z_rc1 (s_i2b (by decide +kernel)) (z_rc1 (s_goto (off := 17) (by decide +kernel) (by decide)) (z_rc1 (s_aload_n (k := 0) (by decide +kernel) rfl) (z_rc1 (s_gI (f := 1) z_c7 (by decide) rfl u_456 (by decide +kernel)) (z_rc1 (s_iconst (n := 1) (by decide +kernel) (by decide)) (z_rc1 (s_ic_ne (off := 8) (by decide +kernel) (by decide)) (z_rc1 (s_iload_n (k := 2) (by decide +kernel) rfl) (z_rc1 (s_i2s (by decide +kernel)) (z_rc1 (s_goto (off := 4) (by decide +kernel) (by decide)) (z_rc1 (s_iload_n (k := 2) (by decide +kernel) rfl) (z_rn))))))))))))))
def TX7_put_1 : List z_R := [(26, 27, x_ist 3), (27, 28, x_ild 1), (28, 29, x_ic 0), (29, 31, x_ic 39), (31, 34, x_si mX9_within 3), (34, 37, x_if_eq 44), (37, 38, x_ald 0), (38, 41, x_gR1 2 3), (41, 42, x_ild 1), (42, 43, x_ild 3), (43, 44, x_iast), (44, 45, x_ild 3), (45, 46, x_iret)]
theorem KX7_put_1 {X : z_Cx} {D : Nat} : z_Ro X D mX7_put (TX7_put_1) := z_rc1 (s_istore_n (k := 3) (by decide +kernel) rfl rfl) (z_rc1 (s_iload_n (k := 1) (by decide +kernel) rfl) (z_rc1 (s_iconst (n := 0) (by decide +kernel) (by decide)) (z_rc1 (s_bipush (n := 39) (by decide +kernel) (by decide)) (z_rc1 (s_siN ⟨List.mem_of_getElem? (i := 1) rfl, u_88, u_507, by decide +kernel, rfl⟩ u_506 rfl (by decide +kernel)) (z_rc1 (s_if_eq (off := 10) (by decide +kernel) (by decide)) (z_rc1 (s_aload_n (k := 0) (by decide +kernel) rfl) (z_rc1 (s_gR1 (f := 0) z_c7 (by decide) rfl u_454 (by decide +kernel) rfl) (z_rc1 (s_iload_n (k := 1) (by decide +kernel) rfl) (z_rc1 (s_iload_n (k := 3) (by decide +kernel) rfl) (z_rc1 (s_iast (by decide +kernel)) (z_rc1 (s_iload_n (k := 3) (by decide +kernel) rfl) (z_rc1 (s_iret (by decide +kernel) rfl) (z_rn)))))))))))))
def TX7_put : z_T := fun pc => z_t2 pc [(25, TX7_put_0), (45, TX7_put_1)]
theorem KX7_put {X : z_Cx} {D : Nat} : z_Tok X D mX7_put (TX7_put) := fun _ => z_t2_ok (z_cc KX7_put_0 (z_cc KX7_put_1 (z_cn)))
end
section
theorem hX7_isMissing {X : z_Cx} (i : Nat) (M : z_M) : z_Con X 0 mX7_isMissing [zr 2 i] M (fun r M' => M' = M ∧ r = if M.1 2 i 1 = -1 then 1 else 0) := by
  refine z_mg KX7_isMissing [] 20 (by decide +kernel) rfl ?_
  refine ⟨fun h => ?_, fun h => ?_⟩
  · trace_state
    exact ⟨Or.inl rfl, rfl, (if_neg h).symm⟩
  · exact ⟨Or.inr rfl, rfl, (if_pos h).symm⟩
theorem hX7_reaches {X : z_Cx} (i : Nat) (M : z_M) (a n : Int32) : z_Con X 0 mX7_reaches [zr 2 i, zi a, zi n] M (fun r M' => M' = M ∧ r = if 0 ≤ a ∧ 0 ≤ n ∧ a ≤ M.1 2 i 2 - n then 1 else 0) := by
  refine z_mg KX7_reaches [] 20 (by decide +kernel) rfl ?_
  refine ⟨fun h => ?_, fun h => ?_⟩
  · trace_state
    exact ⟨Or.inl rfl, rfl, (if_neg (by grind)).symm⟩
  · refine ⟨fun h2 => ?_, fun h2 => ?_⟩
    · exact ⟨Or.inl rfl, rfl, (if_neg (by grind)).symm⟩
    · refine ⟨fun h3 => ?_, fun h3 => ?_⟩
      · exact ⟨Or.inl rfl, rfl, (if_neg (by grind)).symm⟩
      · exact ⟨Or.inr rfl, rfl, (if_pos (by grind)).symm⟩
end
