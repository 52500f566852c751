section
-- ===== PART A: goes FIRST, ahead of the names: the tables' words, and 'selects' of the private methods out of them =====
/-- a private method of a class that the tables say can be made, by its rows of tables_1 -/
def lw_okq (q : MethodName × Nat) : Prop := (q.1.cls ≠ "java/lang/invoke/MethodHandle" ∧ q.1.cls ≠ "java/lang/invoke/VarHandle") ∧ Cond.instantiable q.1.cls q.2 ∈ tables_1 ∧ Cond.privateMethod q.1 ∈ tables_1 ∧ Cond.instanceMethod q.1 ∈ tables_1
theorem lw_p0 : lw_okq (⟨"JobWorkshop$Timetable", "nextStep", "(I)I"⟩, 10) := ⟨⟨by decide +kernel, by decide +kernel⟩, List.mem_of_getElem? (i := 135) (by decide +kernel), List.mem_of_getElem? (i := 433) (by decide +kernel), List.mem_of_getElem? (i := 434) (by decide +kernel)⟩
theorem lw_p1 : lw_okq (⟨"JobWorkshop$Timetable", "lastOn", "(I)I"⟩, 10) := ⟨⟨by decide +kernel, by decide +kernel⟩, List.mem_of_getElem? (i := 135) (by decide +kernel), List.mem_of_getElem? (i := 445) (by decide +kernel), List.mem_of_getElem? (i := 446) (by decide +kernel)⟩
theorem lw_p2 : lw_okq (⟨"JobWorkshop$Timetable", "firstHour", "(II)I"⟩, 10) := ⟨⟨by decide +kernel, by decide +kernel⟩, List.mem_of_getElem? (i := 135) (by decide +kernel), List.mem_of_getElem? (i := 449) (by decide +kernel), List.mem_of_getElem? (i := 450) (by decide +kernel)⟩
theorem lw_p3 : lw_okq (⟨"JobWorkshop$Timetable", "readyHour", "(I)I"⟩, 10) := ⟨⟨by decide +kernel, by decide +kernel⟩, List.mem_of_getElem? (i := 135) (by decide +kernel), List.mem_of_getElem? (i := 453) (by decide +kernel), List.mem_of_getElem? (i := 454) (by decide +kernel)⟩
theorem lw_p4 : lw_okq (⟨"JobWorkshop$Timetable", "hoursBetween", "(II)I"⟩, 10) := ⟨⟨by decide +kernel, by decide +kernel⟩, List.mem_of_getElem? (i := 135) (by decide +kernel), List.mem_of_getElem? (i := 464) (by decide +kernel), List.mem_of_getElem? (i := 465) (by decide +kernel)⟩
theorem lw_p5 : lw_okq (⟨"JobWorkshop$Timetable", "needsTool", "(II)Z"⟩, 10) := ⟨⟨by decide +kernel, by decide +kernel⟩, List.mem_of_getElem? (i := 135) (by decide +kernel), List.mem_of_getElem? (i := 468) (by decide +kernel), List.mem_of_getElem? (i := 469) (by decide +kernel)⟩
theorem lw_p6 : lw_okq (⟨"JobWorkshop$Sequences", "sortByLength", "()V"⟩, 2) := ⟨⟨by decide +kernel, by decide +kernel⟩, List.mem_of_getElem? (i := 253) (by decide +kernel), List.mem_of_getElem? (i := 505) (by decide +kernel), List.mem_of_getElem? (i := 506) (by decide +kernel)⟩
theorem lw_p7 : lw_okq (⟨"JobWorkshop$Sequences", "sortByDue", "()V"⟩, 2) := ⟨⟨by decide +kernel, by decide +kernel⟩, List.mem_of_getElem? (i := 253) (by decide +kernel), List.mem_of_getElem? (i := 526) (by decide +kernel), List.mem_of_getElem? (i := 527) (by decide +kernel)⟩
theorem lw_p8 : lw_okq (⟨"JobWorkshop$Sequences", "longestOf", "(I)I"⟩, 2) := ⟨⟨by decide +kernel, by decide +kernel⟩, List.mem_of_getElem? (i := 253) (by decide +kernel), List.mem_of_getElem? (i := 539) (by decide +kernel), List.mem_of_getElem? (i := 540) (by decide +kernel)⟩
theorem lw_p9 : lw_okq (⟨"JobWorkshop$Sequences", "sortForTwo", "()V"⟩, 2) := ⟨⟨by decide +kernel, by decide +kernel⟩, List.mem_of_getElem? (i := 253) (by decide +kernel), List.mem_of_getElem? (i := 557) (by decide +kernel), List.mem_of_getElem? (i := 558) (by decide +kernel)⟩
theorem lw_p10 : lw_okq (⟨"JobWorkshop$Sequences", "hoursOfStep", "(II)I"⟩, 2) := ⟨⟨by decide +kernel, by decide +kernel⟩, List.mem_of_getElem? (i := 253) (by decide +kernel), List.mem_of_getElem? (i := 561) (by decide +kernel), List.mem_of_getElem? (i := 562) (by decide +kernel)⟩
theorem lw_p11 : lw_okq (⟨"JobWorkshop$SetupTour", "explore", "(III)V"⟩, 5) := ⟨⟨by decide +kernel, by decide +kernel⟩, List.mem_of_getElem? (i := 284) (by decide +kernel), List.mem_of_getElem? (i := 573) (by decide +kernel), List.mem_of_getElem? (i := 574) (by decide +kernel)⟩
theorem lw_p12 : lw_okq (⟨"JobWorkshop$SetupTour", "hoursBehind", "(II)I"⟩, 5) := ⟨⟨by decide +kernel, by decide +kernel⟩, List.mem_of_getElem? (i := 284) (by decide +kernel), List.mem_of_getElem? (i := 578) (by decide +kernel), List.mem_of_getElem? (i := 579) (by decide +kernel)⟩
theorem lw_p13 : lw_okq (⟨"JobWorkshop$Timetable", "hoursLeft", "(I)I"⟩, 10) := ⟨⟨by decide +kernel, by decide +kernel⟩, List.mem_of_getElem? (i := 135) (by decide +kernel), List.mem_of_getElem? (i := 594) (by decide +kernel), List.mem_of_getElem? (i := 595) (by decide +kernel)⟩
theorem lw_p14 : lw_okq (⟨"JobWorkshop$HourCheck", "markStep", "(II)V"⟩, 3) := ⟨⟨by decide +kernel, by decide +kernel⟩, List.mem_of_getElem? (i := 237) (by decide +kernel), List.mem_of_getElem? (i := 604) (by decide +kernel), List.mem_of_getElem? (i := 605) (by decide +kernel)⟩
theorem lw_p15 : lw_okq (⟨"java/lang/Throwable", "fillInStackTrace", "(I)Ljava/lang/Throwable;"⟩, 6) := ⟨⟨by decide +kernel, by decide +kernel⟩, List.mem_of_getElem? (i := 666) (by decide +kernel), List.mem_of_getElem? (i := 664) (by decide +kernel), List.mem_of_getElem? (i := 665) (by decide +kernel)⟩
def lw_privs_1 : List (MethodName × Nat) := [(⟨"JobWorkshop$Timetable", "nextStep", "(I)I"⟩, 10), (⟨"JobWorkshop$Timetable", "lastOn", "(I)I"⟩, 10), (⟨"JobWorkshop$Timetable", "firstHour", "(II)I"⟩, 10), (⟨"JobWorkshop$Timetable", "readyHour", "(I)I"⟩, 10), (⟨"JobWorkshop$Timetable", "hoursBetween", "(II)I"⟩, 10), (⟨"JobWorkshop$Timetable", "needsTool", "(II)Z"⟩, 10), (⟨"JobWorkshop$Sequences", "sortByLength", "()V"⟩, 2), (⟨"JobWorkshop$Sequences", "sortByDue", "()V"⟩, 2), (⟨"JobWorkshop$Sequences", "longestOf", "(I)I"⟩, 2), (⟨"JobWorkshop$Sequences", "sortForTwo", "()V"⟩, 2), (⟨"JobWorkshop$Sequences", "hoursOfStep", "(II)I"⟩, 2), (⟨"JobWorkshop$SetupTour", "explore", "(III)V"⟩, 5), (⟨"JobWorkshop$SetupTour", "hoursBehind", "(II)I"⟩, 5), (⟨"JobWorkshop$Timetable", "hoursLeft", "(I)I"⟩, 10), (⟨"JobWorkshop$HourCheck", "markStep", "(II)V"⟩, 3), (⟨"java/lang/Throwable", "fillInStackTrace", "(I)Ljava/lang/Throwable;"⟩, 6)]
theorem lw_r1 : ∀ q ∈ lw_privs_1, lw_okq q := List.forall_mem_cons.mpr ⟨lw_p0, List.forall_mem_cons.mpr ⟨lw_p1, List.forall_mem_cons.mpr ⟨lw_p2, List.forall_mem_cons.mpr ⟨lw_p3, List.forall_mem_cons.mpr ⟨lw_p4, List.forall_mem_cons.mpr ⟨lw_p5, List.forall_mem_cons.mpr ⟨lw_p6, List.forall_mem_cons.mpr ⟨lw_p7, List.forall_mem_cons.mpr ⟨lw_p8, List.forall_mem_cons.mpr ⟨lw_p9, List.forall_mem_cons.mpr ⟨lw_p10, List.forall_mem_cons.mpr ⟨lw_p11, List.forall_mem_cons.mpr ⟨lw_p12, List.forall_mem_cons.mpr ⟨lw_p13, List.forall_mem_cons.mpr ⟨lw_p14, List.forall_mem_cons.mpr ⟨lw_p15, fun _ h => absurd h List.not_mem_nil⟩⟩⟩⟩⟩⟩⟩⟩⟩⟩⟩⟩⟩⟩⟩⟩
theorem lw_p16 : lw_okq (⟨"JobWorkshop", "remember", "()V"⟩, 15) := ⟨⟨by decide +kernel, by decide +kernel⟩, List.mem_of_getElem? (i := 24) (by decide +kernel), List.mem_of_getElem? (i := 731) (by decide +kernel), List.mem_of_getElem? (i := 732) (by decide +kernel)⟩
theorem lw_p17 : lw_okq (⟨"JobWorkshop", "dropPlan", "()V"⟩, 15) := ⟨⟨by decide +kernel, by decide +kernel⟩, List.mem_of_getElem? (i := 24) (by decide +kernel), List.mem_of_getElem? (i := 758) (by decide +kernel), List.mem_of_getElem? (i := 759) (by decide +kernel)⟩
theorem lw_p18 : lw_okq (⟨"JobWorkshop", "needRoomForJob", "()V"⟩, 15) := ⟨⟨by decide +kernel, by decide +kernel⟩, List.mem_of_getElem? (i := 24) (by decide +kernel), List.mem_of_getElem? (i := 769) (by decide +kernel), List.mem_of_getElem? (i := 770) (by decide +kernel)⟩
theorem lw_p19 : lw_okq (⟨"JobWorkshop", "needJob", "(I)V"⟩, 15) := ⟨⟨by decide +kernel, by decide +kernel⟩, List.mem_of_getElem? (i := 24) (by decide +kernel), List.mem_of_getElem? (i := 781) (by decide +kernel), List.mem_of_getElem? (i := 782) (by decide +kernel)⟩
theorem lw_p20 : lw_okq (⟨"JobWorkshop$Timetable", "firstByRule", "(I)I"⟩, 10) := ⟨⟨by decide +kernel, by decide +kernel⟩, List.mem_of_getElem? (i := 135) (by decide +kernel), List.mem_of_getElem? (i := 820) (by decide +kernel), List.mem_of_getElem? (i := 821) (by decide +kernel)⟩
theorem lw_p21 : lw_okq (⟨"JobWorkshop$Timetable", "goesAhead", "(III)Z"⟩, 10) := ⟨⟨by decide +kernel, by decide +kernel⟩, List.mem_of_getElem? (i := 135) (by decide +kernel), List.mem_of_getElem? (i := 824) (by decide +kernel), List.mem_of_getElem? (i := 825) (by decide +kernel)⟩
theorem lw_p22 : lw_okq (⟨"JobWorkshop", "adoptTrial", "()I"⟩, 15) := ⟨⟨by decide +kernel, by decide +kernel⟩, List.mem_of_getElem? (i := 24) (by decide +kernel), List.mem_of_getElem? (i := 828) (by decide +kernel), List.mem_of_getElem? (i := 829) (by decide +kernel)⟩
theorem lw_p23 : lw_okq (⟨"JobWorkshop", "putDigits", "(J)Z"⟩, 15) := ⟨⟨by decide +kernel, by decide +kernel⟩, List.mem_of_getElem? (i := 24) (by decide +kernel), List.mem_of_getElem? (i := 843) (by decide +kernel), List.mem_of_getElem? (i := 844) (by decide +kernel)⟩
theorem lw_p24 : lw_okq (⟨"JobWorkshop$BestRow", "explore", "(II)V"⟩, 6) := ⟨⟨by decide +kernel, by decide +kernel⟩, List.mem_of_getElem? (i := 183) (by decide +kernel), List.mem_of_getElem? (i := 870) (by decide +kernel), List.mem_of_getElem? (i := 871) (by decide +kernel)⟩
theorem lw_p25 : lw_okq (⟨"JobWorkshop", "putSwapped", "(II)Z"⟩, 15) := ⟨⟨by decide +kernel, by decide +kernel⟩, List.mem_of_getElem? (i := 24) (by decide +kernel), List.mem_of_getElem? (i := 890) (by decide +kernel), List.mem_of_getElem? (i := 891) (by decide +kernel)⟩
theorem lw_p26 : lw_okq (⟨"JobWorkshop", "needPlan", "()V"⟩, 15) := ⟨⟨by decide +kernel, by decide +kernel⟩, List.mem_of_getElem? (i := 24) (by decide +kernel), List.mem_of_getElem? (i := 907) (by decide +kernel), List.mem_of_getElem? (i := 908) (by decide +kernel)⟩
theorem lw_p27 : lw_okq (⟨"JobWorkshop", "needStep", "(II)V"⟩, 15) := ⟨⟨by decide +kernel, by decide +kernel⟩, List.mem_of_getElem? (i := 24) (by decide +kernel), List.mem_of_getElem? (i := 953) (by decide +kernel), List.mem_of_getElem? (i := 954) (by decide +kernel)⟩
theorem lw_p28 : lw_okq (⟨"JobWorkshop$Way", "latestStep", "()I"⟩, 6) := ⟨⟨by decide +kernel, by decide +kernel⟩, List.mem_of_getElem? (i := 208) (by decide +kernel), List.mem_of_getElem? (i := 1010) (by decide +kernel), List.mem_of_getElem? (i := 1011) (by decide +kernel)⟩
theorem lw_p29 : lw_okq (⟨"JobWorkshop$Way", "stepAheadOf", "(I)I"⟩, 6) := ⟨⟨by decide +kernel, by decide +kernel⟩, List.mem_of_getElem? (i := 208) (by decide +kernel), List.mem_of_getElem? (i := 1016) (by decide +kernel), List.mem_of_getElem? (i := 1017) (by decide +kernel)⟩
theorem lw_p30 : lw_okq (⟨"JobWorkshop", "needPlaceOfJob", "(I)V"⟩, 15) := ⟨⟨by decide +kernel, by decide +kernel⟩, List.mem_of_getElem? (i := 24) (by decide +kernel), List.mem_of_getElem? (i := 1070) (by decide +kernel), List.mem_of_getElem? (i := 1071) (by decide +kernel)⟩
theorem lw_p31 : lw_okq (⟨"JobWorkshop$Crew", "fillable", "(I)I"⟩, 4) := ⟨⟨by decide +kernel, by decide +kernel⟩, List.mem_of_getElem? (i := 308) (by decide +kernel), List.mem_of_getElem? (i := 1096) (by decide +kernel), List.mem_of_getElem? (i := 1097) (by decide +kernel)⟩
def lw_privs_2 : List (MethodName × Nat) := [(⟨"JobWorkshop", "remember", "()V"⟩, 15), (⟨"JobWorkshop", "dropPlan", "()V"⟩, 15), (⟨"JobWorkshop", "needRoomForJob", "()V"⟩, 15), (⟨"JobWorkshop", "needJob", "(I)V"⟩, 15), (⟨"JobWorkshop$Timetable", "firstByRule", "(I)I"⟩, 10), (⟨"JobWorkshop$Timetable", "goesAhead", "(III)Z"⟩, 10), (⟨"JobWorkshop", "adoptTrial", "()I"⟩, 15), (⟨"JobWorkshop", "putDigits", "(J)Z"⟩, 15), (⟨"JobWorkshop$BestRow", "explore", "(II)V"⟩, 6), (⟨"JobWorkshop", "putSwapped", "(II)Z"⟩, 15), (⟨"JobWorkshop", "needPlan", "()V"⟩, 15), (⟨"JobWorkshop", "needStep", "(II)V"⟩, 15), (⟨"JobWorkshop$Way", "latestStep", "()I"⟩, 6), (⟨"JobWorkshop$Way", "stepAheadOf", "(I)I"⟩, 6), (⟨"JobWorkshop", "needPlaceOfJob", "(I)V"⟩, 15), (⟨"JobWorkshop$Crew", "fillable", "(I)I"⟩, 4)]
theorem lw_r2 : ∀ q ∈ lw_privs_2, lw_okq q := List.forall_mem_cons.mpr ⟨lw_p16, List.forall_mem_cons.mpr ⟨lw_p17, List.forall_mem_cons.mpr ⟨lw_p18, List.forall_mem_cons.mpr ⟨lw_p19, List.forall_mem_cons.mpr ⟨lw_p20, List.forall_mem_cons.mpr ⟨lw_p21, List.forall_mem_cons.mpr ⟨lw_p22, List.forall_mem_cons.mpr ⟨lw_p23, List.forall_mem_cons.mpr ⟨lw_p24, List.forall_mem_cons.mpr ⟨lw_p25, List.forall_mem_cons.mpr ⟨lw_p26, List.forall_mem_cons.mpr ⟨lw_p27, List.forall_mem_cons.mpr ⟨lw_p28, List.forall_mem_cons.mpr ⟨lw_p29, List.forall_mem_cons.mpr ⟨lw_p30, List.forall_mem_cons.mpr ⟨lw_p31, fun _ h => absurd h List.not_mem_nil⟩⟩⟩⟩⟩⟩⟩⟩⟩⟩⟩⟩⟩⟩⟩⟩
theorem lw_p32 : lw_okq (⟨"JobWorkshop$Crew", "explore", "(IIII)V"⟩, 4) := ⟨⟨by decide +kernel, by decide +kernel⟩, List.mem_of_getElem? (i := 308) (by decide +kernel), List.mem_of_getElem? (i := 1100) (by decide +kernel), List.mem_of_getElem? (i := 1101) (by decide +kernel)⟩
theorem lw_p33 : lw_okq (⟨"JobWorkshop$Odds", "spread", "(III)J"⟩, 2) := ⟨⟨by decide +kernel, by decide +kernel⟩, List.mem_of_getElem? (i := 329) (by decide +kernel), List.mem_of_getElem? (i := 1126) (by decide +kernel), List.mem_of_getElem? (i := 1127) (by decide +kernel)⟩
theorem lw_p34 : lw_okq (⟨"JobWorkshopModel", "laysJob", "(III)V"⟩, 20) := ⟨⟨by decide +kernel, by decide +kernel⟩, List.mem_of_getElem? (i := 1162) (by decide +kernel), List.mem_of_getElem? (i := 1168) (by decide +kernel), List.mem_of_getElem? (i := 1169) (by decide +kernel)⟩
theorem lw_p35 : lw_okq (⟨"JobWorkshopModel", "laysStep", "(III)I"⟩, 20) := ⟨⟨by decide +kernel, by decide +kernel⟩, List.mem_of_getElem? (i := 1162) (by decide +kernel), List.mem_of_getElem? (i := 1172) (by decide +kernel), List.mem_of_getElem? (i := 1173) (by decide +kernel)⟩
theorem lw_p36 : lw_okq (⟨"JobWorkshopModel", "of", "(II)I"⟩, 20) := ⟨⟨by decide +kernel, by decide +kernel⟩, List.mem_of_getElem? (i := 1162) (by decide +kernel), List.mem_of_getElem? (i := 1176) (by decide +kernel), List.mem_of_getElem? (i := 1177) (by decide +kernel)⟩
theorem lw_p37 : lw_okq (⟨"JobWorkshopModel", "fits", "(ZZZ)Z"⟩, 20) := ⟨⟨by decide +kernel, by decide +kernel⟩, List.mem_of_getElem? (i := 1162) (by decide +kernel), List.mem_of_getElem? (i := 1252) (by decide +kernel), List.mem_of_getElem? (i := 1253) (by decide +kernel)⟩
theorem lw_p38 : lw_okq (⟨"JobWorkshopModel", "keeps", "()V"⟩, 20) := ⟨⟨by decide +kernel, by decide +kernel⟩, List.mem_of_getElem? (i := 1162) (by decide +kernel), List.mem_of_getElem? (i := 1256) (by decide +kernel), List.mem_of_getElem? (i := 1257) (by decide +kernel)⟩
theorem lw_p39 : lw_okq (⟨"JobWorkshopModel", "noPlan", "()V"⟩, 20) := ⟨⟨by decide +kernel, by decide +kernel⟩, List.mem_of_getElem? (i := 1162) (by decide +kernel), List.mem_of_getElem? (i := 1269) (by decide +kernel), List.mem_of_getElem? (i := 1270) (by decide +kernel)⟩
theorem lw_p40 : lw_okq (⟨"JobWorkshopModel", "isJob", "(I)Z"⟩, 20) := ⟨⟨by decide +kernel, by decide +kernel⟩, List.mem_of_getElem? (i := 1162) (by decide +kernel), List.mem_of_getElem? (i := 1281) (by decide +kernel), List.mem_of_getElem? (i := 1282) (by decide +kernel)⟩
theorem lw_p41 : lw_okq (⟨"JobWorkshopModel", "hoursOf", "(II)I"⟩, 20) := ⟨⟨by decide +kernel, by decide +kernel⟩, List.mem_of_getElem? (i := 1162) (by decide +kernel), List.mem_of_getElem? (i := 1289) (by decide +kernel), List.mem_of_getElem? (i := 1290) (by decide +kernel)⟩
theorem lw_p42 : lw_okq (⟨"JobWorkshopModel", "machineOf", "(II)I"⟩, 20) := ⟨⟨by decide +kernel, by decide +kernel⟩, List.mem_of_getElem? (i := 1162) (by decide +kernel), List.mem_of_getElem? (i := 1293) (by decide +kernel), List.mem_of_getElem? (i := 1294) (by decide +kernel)⟩
theorem lw_p43 : lw_okq (⟨"JobWorkshopModel", "startsPlan", "()V"⟩, 20) := ⟨⟨by decide +kernel, by decide +kernel⟩, List.mem_of_getElem? (i := 1162) (by decide +kernel), List.mem_of_getElem? (i := 1301) (by decide +kernel), List.mem_of_getElem? (i := 1302) (by decide +kernel)⟩
theorem lw_p44 : lw_okq (⟨"JobWorkshopModel", "clearsOrder", "()V"⟩, 20) := ⟨⟨by decide +kernel, by decide +kernel⟩, List.mem_of_getElem? (i := 1162) (by decide +kernel), List.mem_of_getElem? (i := 1305) (by decide +kernel), List.mem_of_getElem? (i := 1306) (by decide +kernel)⟩
theorem lw_p45 : lw_okq (⟨"JobWorkshopModel", "goesByRule", "(I)V"⟩, 20) := ⟨⟨by decide +kernel, by decide +kernel⟩, List.mem_of_getElem? (i := 1162) (by decide +kernel), List.mem_of_getElem? (i := 1309) (by decide +kernel), List.mem_of_getElem? (i := 1310) (by decide +kernel)⟩
theorem lw_p46 : lw_okq (⟨"JobWorkshopModel", "beginOf", "(I)I"⟩, 20) := ⟨⟨by decide +kernel, by decide +kernel⟩, List.mem_of_getElem? (i := 1162) (by decide +kernel), List.mem_of_getElem? (i := 1313) (by decide +kernel), List.mem_of_getElem? (i := 1314) (by decide +kernel)⟩
theorem lw_p47 : lw_okq (⟨"JobWorkshopModel", "between", "(III)I"⟩, 20) := ⟨⟨by decide +kernel, by decide +kernel⟩, List.mem_of_getElem? (i := 1162) (by decide +kernel), List.mem_of_getElem? (i := 1317) (by decide +kernel), List.mem_of_getElem? (i := 1318) (by decide +kernel)⟩
def lw_privs_3 : List (MethodName × Nat) := [(⟨"JobWorkshop$Crew", "explore", "(IIII)V"⟩, 4), (⟨"JobWorkshop$Odds", "spread", "(III)J"⟩, 2), (⟨"JobWorkshopModel", "laysJob", "(III)V"⟩, 20), (⟨"JobWorkshopModel", "laysStep", "(III)I"⟩, 20), (⟨"JobWorkshopModel", "of", "(II)I"⟩, 20), (⟨"JobWorkshopModel", "fits", "(ZZZ)Z"⟩, 20), (⟨"JobWorkshopModel", "keeps", "()V"⟩, 20), (⟨"JobWorkshopModel", "noPlan", "()V"⟩, 20), (⟨"JobWorkshopModel", "isJob", "(I)Z"⟩, 20), (⟨"JobWorkshopModel", "hoursOf", "(II)I"⟩, 20), (⟨"JobWorkshopModel", "machineOf", "(II)I"⟩, 20), (⟨"JobWorkshopModel", "startsPlan", "()V"⟩, 20), (⟨"JobWorkshopModel", "clearsOrder", "()V"⟩, 20), (⟨"JobWorkshopModel", "goesByRule", "(I)V"⟩, 20), (⟨"JobWorkshopModel", "beginOf", "(I)I"⟩, 20), (⟨"JobWorkshopModel", "between", "(III)I"⟩, 20)]
theorem lw_r3 : ∀ q ∈ lw_privs_3, lw_okq q := List.forall_mem_cons.mpr ⟨lw_p32, List.forall_mem_cons.mpr ⟨lw_p33, List.forall_mem_cons.mpr ⟨lw_p34, List.forall_mem_cons.mpr ⟨lw_p35, List.forall_mem_cons.mpr ⟨lw_p36, List.forall_mem_cons.mpr ⟨lw_p37, List.forall_mem_cons.mpr ⟨lw_p38, List.forall_mem_cons.mpr ⟨lw_p39, List.forall_mem_cons.mpr ⟨lw_p40, List.forall_mem_cons.mpr ⟨lw_p41, List.forall_mem_cons.mpr ⟨lw_p42, List.forall_mem_cons.mpr ⟨lw_p43, List.forall_mem_cons.mpr ⟨lw_p44, List.forall_mem_cons.mpr ⟨lw_p45, List.forall_mem_cons.mpr ⟨lw_p46, List.forall_mem_cons.mpr ⟨lw_p47, fun _ h => absurd h List.not_mem_nil⟩⟩⟩⟩⟩⟩⟩⟩⟩⟩⟩⟩⟩⟩⟩⟩
theorem lw_p48 : lw_okq (⟨"JobWorkshopModel", "isChanged", "(II)Z"⟩, 20) := ⟨⟨by decide +kernel, by decide +kernel⟩, List.mem_of_getElem? (i := 1162) (by decide +kernel), List.mem_of_getElem? (i := 1321) (by decide +kernel), List.mem_of_getElem? (i := 1322) (by decide +kernel)⟩
theorem lw_p49 : lw_okq (⟨"JobWorkshopModel", "open", "(III)I"⟩, 20) := ⟨⟨by decide +kernel, by decide +kernel⟩, List.mem_of_getElem? (i := 1162) (by decide +kernel), List.mem_of_getElem? (i := 1326) (by decide +kernel), List.mem_of_getElem? (i := 1327) (by decide +kernel)⟩
theorem lw_p50 : lw_okq (⟨"JobWorkshopModel", "isAhead", "(III)Z"⟩, 20) := ⟨⟨by decide +kernel, by decide +kernel⟩, List.mem_of_getElem? (i := 1162) (by decide +kernel), List.mem_of_getElem? (i := 1330) (by decide +kernel), List.mem_of_getElem? (i := 1331) (by decide +kernel)⟩
theorem lw_p51 : lw_okq (⟨"JobWorkshopModel", "left", "(II)I"⟩, 20) := ⟨⟨by decide +kernel, by decide +kernel⟩, List.mem_of_getElem? (i := 1162) (by decide +kernel), List.mem_of_getElem? (i := 1334) (by decide +kernel), List.mem_of_getElem? (i := 1335) (by decide +kernel)⟩
theorem lw_p52 : lw_okq (⟨"JobWorkshopModel", "puts", "(I)V"⟩, 20) := ⟨⟨by decide +kernel, by decide +kernel⟩, List.mem_of_getElem? (i := 1162) (by decide +kernel), List.mem_of_getElem? (i := 1338) (by decide +kernel), List.mem_of_getElem? (i := 1339) (by decide +kernel)⟩
theorem lw_p53 : lw_okq (⟨"JobWorkshopModel", "does", "(II)V"⟩, 20) := ⟨⟨by decide +kernel, by decide +kernel⟩, List.mem_of_getElem? (i := 1162) (by decide +kernel), List.mem_of_getElem? (i := 1342) (by decide +kernel), List.mem_of_getElem? (i := 1343) (by decide +kernel)⟩
theorem lw_p54 : lw_okq (⟨"JobWorkshopModel", "takesOrder", "()I"⟩, 20) := ⟨⟨by decide +kernel, by decide +kernel⟩, List.mem_of_getElem? (i := 1162) (by decide +kernel), List.mem_of_getElem? (i := 1346) (by decide +kernel), List.mem_of_getElem? (i := 1347) (by decide +kernel)⟩
theorem lw_p55 : lw_okq (⟨"JobWorkshopModel", "works", "()Z"⟩, 20) := ⟨⟨by decide +kernel, by decide +kernel⟩, List.mem_of_getElem? (i := 1162) (by decide +kernel), List.mem_of_getElem? (i := 1350) (by decide +kernel), List.mem_of_getElem? (i := 1351) (by decide +kernel)⟩
theorem lw_p56 : lw_okq (⟨"JobWorkshopModel", "worksOut", "([IIII)Z"⟩, 20) := ⟨⟨by decide +kernel, by decide +kernel⟩, List.mem_of_getElem? (i := 1162) (by decide +kernel), List.mem_of_getElem? (i := 1354) (by decide +kernel), List.mem_of_getElem? (i := 1355) (by decide +kernel)⟩
theorem lw_p57 : lw_okq (⟨"JobWorkshopModel", "allSteps", "()I"⟩, 20) := ⟨⟨by decide +kernel, by decide +kernel⟩, List.mem_of_getElem? (i := 1162) (by decide +kernel), List.mem_of_getElem? (i := 1358) (by decide +kernel), List.mem_of_getElem? (i := 1359) (by decide +kernel)⟩
theorem lw_p58 : lw_okq (⟨"JobWorkshopModel", "planEnd", "()I"⟩, 20) := ⟨⟨by decide +kernel, by decide +kernel⟩, List.mem_of_getElem? (i := 1162) (by decide +kernel), List.mem_of_getElem? (i := 1362) (by decide +kernel), List.mem_of_getElem? (i := 1363) (by decide +kernel)⟩
theorem lw_p59 : lw_okq (⟨"JobWorkshopModel", "valueOf", "(I)I"⟩, 20) := ⟨⟨by decide +kernel, by decide +kernel⟩, List.mem_of_getElem? (i := 1162) (by decide +kernel), List.mem_of_getElem? (i := 1375) (by decide +kernel), List.mem_of_getElem? (i := 1376) (by decide +kernel)⟩
theorem lw_p60 : lw_okq (⟨"JobWorkshopModel", "nextJob", "(I)I"⟩, 20) := ⟨⟨by decide +kernel, by decide +kernel⟩, List.mem_of_getElem? (i := 1162) (by decide +kernel), List.mem_of_getElem? (i := 1379) (by decide +kernel), List.mem_of_getElem? (i := 1380) (by decide +kernel)⟩
theorem lw_p61 : lw_okq (⟨"JobWorkshopModel", "takesBack", "(I)V"⟩, 20) := ⟨⟨by decide +kernel, by decide +kernel⟩, List.mem_of_getElem? (i := 1162) (by decide +kernel), List.mem_of_getElem? (i := 1383) (by decide +kernel), List.mem_of_getElem? (i := 1384) (by decide +kernel)⟩
theorem lw_p62 : lw_okq (⟨"JobWorkshopModel", "remembers", "(II)V"⟩, 20) := ⟨⟨by decide +kernel, by decide +kernel⟩, List.mem_of_getElem? (i := 1162) (by decide +kernel), List.mem_of_getElem? (i := 1387) (by decide +kernel), List.mem_of_getElem? (i := 1388) (by decide +kernel)⟩
theorem lw_p63 : lw_okq (⟨"JobWorkshopModel", "exchanges", "(I)V"⟩, 20) := ⟨⟨by decide +kernel, by decide +kernel⟩, List.mem_of_getElem? (i := 1162) (by decide +kernel), List.mem_of_getElem? (i := 1395) (by decide +kernel), List.mem_of_getElem? (i := 1396) (by decide +kernel)⟩
def lw_privs_4 : List (MethodName × Nat) := [(⟨"JobWorkshopModel", "isChanged", "(II)Z"⟩, 20), (⟨"JobWorkshopModel", "open", "(III)I"⟩, 20), (⟨"JobWorkshopModel", "isAhead", "(III)Z"⟩, 20), (⟨"JobWorkshopModel", "left", "(II)I"⟩, 20), (⟨"JobWorkshopModel", "puts", "(I)V"⟩, 20), (⟨"JobWorkshopModel", "does", "(II)V"⟩, 20), (⟨"JobWorkshopModel", "takesOrder", "()I"⟩, 20), (⟨"JobWorkshopModel", "works", "()Z"⟩, 20), (⟨"JobWorkshopModel", "worksOut", "([IIII)Z"⟩, 20), (⟨"JobWorkshopModel", "allSteps", "()I"⟩, 20), (⟨"JobWorkshopModel", "planEnd", "()I"⟩, 20), (⟨"JobWorkshopModel", "valueOf", "(I)I"⟩, 20), (⟨"JobWorkshopModel", "nextJob", "(I)I"⟩, 20), (⟨"JobWorkshopModel", "takesBack", "(I)V"⟩, 20), (⟨"JobWorkshopModel", "remembers", "(II)V"⟩, 20), (⟨"JobWorkshopModel", "exchanges", "(I)V"⟩, 20)]
theorem lw_r4 : ∀ q ∈ lw_privs_4, lw_okq q := List.forall_mem_cons.mpr ⟨lw_p48, List.forall_mem_cons.mpr ⟨lw_p49, List.forall_mem_cons.mpr ⟨lw_p50, List.forall_mem_cons.mpr ⟨lw_p51, List.forall_mem_cons.mpr ⟨lw_p52, List.forall_mem_cons.mpr ⟨lw_p53, List.forall_mem_cons.mpr ⟨lw_p54, List.forall_mem_cons.mpr ⟨lw_p55, List.forall_mem_cons.mpr ⟨lw_p56, List.forall_mem_cons.mpr ⟨lw_p57, List.forall_mem_cons.mpr ⟨lw_p58, List.forall_mem_cons.mpr ⟨lw_p59, List.forall_mem_cons.mpr ⟨lw_p60, List.forall_mem_cons.mpr ⟨lw_p61, List.forall_mem_cons.mpr ⟨lw_p62, List.forall_mem_cons.mpr ⟨lw_p63, fun _ h => absurd h List.not_mem_nil⟩⟩⟩⟩⟩⟩⟩⟩⟩⟩⟩⟩⟩⟩⟩⟩
theorem lw_p64 : lw_okq (⟨"JobWorkshopModel", "hasPlan", "()Z"⟩, 20) := ⟨⟨by decide +kernel, by decide +kernel⟩, List.mem_of_getElem? (i := 1162) (by decide +kernel), List.mem_of_getElem? (i := 1403) (by decide +kernel), List.mem_of_getElem? (i := 1404) (by decide +kernel)⟩
theorem lw_p65 : lw_okq (⟨"JobWorkshopModel", "laysRushed", "(I)V"⟩, 20) := ⟨⟨by decide +kernel, by decide +kernel⟩, List.mem_of_getElem? (i := 1162) (by decide +kernel), List.mem_of_getElem? (i := 1411) (by decide +kernel), List.mem_of_getElem? (i := 1412) (by decide +kernel)⟩
theorem lw_p66 : lw_okq (⟨"JobWorkshopModel", "length", "(I)I"⟩, 20) := ⟨⟨by decide +kernel, by decide +kernel⟩, List.mem_of_getElem? (i := 1162) (by decide +kernel), List.mem_of_getElem? (i := 1431) (by decide +kernel), List.mem_of_getElem? (i := 1432) (by decide +kernel)⟩
theorem lw_p67 : lw_okq (⟨"JobWorkshopModel", "isStep", "(II)Z"⟩, 20) := ⟨⟨by decide +kernel, by decide +kernel⟩, List.mem_of_getElem? (i := 1162) (by decide +kernel), List.mem_of_getElem? (i := 1439) (by decide +kernel), List.mem_of_getElem? (i := 1440) (by decide +kernel)⟩
theorem lw_p68 : lw_okq (⟨"JobWorkshopModel", "isPlanned", "()Z"⟩, 20) := ⟨⟨by decide +kernel, by decide +kernel⟩, List.mem_of_getElem? (i := 1162) (by decide +kernel), List.mem_of_getElem? (i := 1447) (by decide +kernel), List.mem_of_getElem? (i := 1448) (by decide +kernel)⟩
theorem lw_p69 : lw_okq (⟨"JobWorkshopModel", "hoursOn", "(I)I"⟩, 20) := ⟨⟨by decide +kernel, by decide +kernel⟩, List.mem_of_getElem? (i := 1162) (by decide +kernel), List.mem_of_getElem? (i := 1463) (by decide +kernel), List.mem_of_getElem? (i := 1464) (by decide +kernel)⟩
theorem lw_p70 : lw_okq (⟨"JobWorkshopModel", "isDone", "(III)Z"⟩, 20) := ⟨⟨by decide +kernel, by decide +kernel⟩, List.mem_of_getElem? (i := 1162) (by decide +kernel), List.mem_of_getElem? (i := 1475) (by decide +kernel), List.mem_of_getElem? (i := 1476) (by decide +kernel)⟩
theorem lw_p71 : lw_okq (⟨"JobWorkshopModel", "stepEnd", "(II)I"⟩, 20) := ⟨⟨by decide +kernel, by decide +kernel⟩, List.mem_of_getElem? (i := 1162) (by decide +kernel), List.mem_of_getElem? (i := 1479) (by decide +kernel), List.mem_of_getElem? (i := 1480) (by decide +kernel)⟩
theorem lw_p72 : lw_okq (⟨"JobWorkshopModel", "laysWay", "()V"⟩, 20) := ⟨⟨by decide +kernel, by decide +kernel⟩, List.mem_of_getElem? (i := 1162) (by decide +kernel), List.mem_of_getElem? (i := 1487) (by decide +kernel), List.mem_of_getElem? (i := 1488) (by decide +kernel)⟩
theorem lw_p73 : lw_okq (⟨"JobWorkshopModel", "readyAt", "(I)I"⟩, 20) := ⟨⟨by decide +kernel, by decide +kernel⟩, List.mem_of_getElem? (i := 1162) (by decide +kernel), List.mem_of_getElem? (i := 1491) (by decide +kernel), List.mem_of_getElem? (i := 1492) (by decide +kernel)⟩
theorem lw_p74 : lw_okq (⟨"JobWorkshopModel", "aheadOf", "(I)I"⟩, 20) := ⟨⟨by decide +kernel, by decide +kernel⟩, List.mem_of_getElem? (i := 1162) (by decide +kernel), List.mem_of_getElem? (i := 1495) (by decide +kernel), List.mem_of_getElem? (i := 1496) (by decide +kernel)⟩
theorem lw_p75 : lw_okq (⟨"JobWorkshopModel", "block", "(Z)I"⟩, 20) := ⟨⟨by decide +kernel, by decide +kernel⟩, List.mem_of_getElem? (i := 1162) (by decide +kernel), List.mem_of_getElem? (i := 1507) (by decide +kernel), List.mem_of_getElem? (i := 1508) (by decide +kernel)⟩
theorem lw_p76 : lw_okq (⟨"JobWorkshopModel", "laysRow", "(I)V"⟩, 20) := ⟨⟨by decide +kernel, by decide +kernel⟩, List.mem_of_getElem? (i := 1162) (by decide +kernel), List.mem_of_getElem? (i := 1527) (by decide +kernel), List.mem_of_getElem? (i := 1528) (by decide +kernel)⟩
theorem lw_p77 : lw_okq (⟨"JobWorkshopModel", "goesFirst", "(III)Z"⟩, 20) := ⟨⟨by decide +kernel, by decide +kernel⟩, List.mem_of_getElem? (i := 1162) (by decide +kernel), List.mem_of_getElem? (i := 1531) (by decide +kernel), List.mem_of_getElem? (i := 1532) (by decide +kernel)⟩
theorem lw_p78 : lw_okq (⟨"JobWorkshopModel", "part", "(II)I"⟩, 20) := ⟨⟨by decide +kernel, by decide +kernel⟩, List.mem_of_getElem? (i := 1162) (by decide +kernel), List.mem_of_getElem? (i := 1535) (by decide +kernel), List.mem_of_getElem? (i := 1536) (by decide +kernel)⟩
theorem lw_p79 : lw_okq (⟨"JobWorkshopModel", "dropped", "()I"⟩, 20) := ⟨⟨by decide +kernel, by decide +kernel⟩, List.mem_of_getElem? (i := 1162) (by decide +kernel), List.mem_of_getElem? (i := 1547) (by decide +kernel), List.mem_of_getElem? (i := 1548) (by decide +kernel)⟩
def lw_privs_5 : List (MethodName × Nat) := [(⟨"JobWorkshopModel", "hasPlan", "()Z"⟩, 20), (⟨"JobWorkshopModel", "laysRushed", "(I)V"⟩, 20), (⟨"JobWorkshopModel", "length", "(I)I"⟩, 20), (⟨"JobWorkshopModel", "isStep", "(II)Z"⟩, 20), (⟨"JobWorkshopModel", "isPlanned", "()Z"⟩, 20), (⟨"JobWorkshopModel", "hoursOn", "(I)I"⟩, 20), (⟨"JobWorkshopModel", "isDone", "(III)Z"⟩, 20), (⟨"JobWorkshopModel", "stepEnd", "(II)I"⟩, 20), (⟨"JobWorkshopModel", "laysWay", "()V"⟩, 20), (⟨"JobWorkshopModel", "readyAt", "(I)I"⟩, 20), (⟨"JobWorkshopModel", "aheadOf", "(I)I"⟩, 20), (⟨"JobWorkshopModel", "block", "(Z)I"⟩, 20), (⟨"JobWorkshopModel", "laysRow", "(I)V"⟩, 20), (⟨"JobWorkshopModel", "goesFirst", "(III)Z"⟩, 20), (⟨"JobWorkshopModel", "part", "(II)I"⟩, 20), (⟨"JobWorkshopModel", "dropped", "()I"⟩, 20)]
theorem lw_r5 : ∀ q ∈ lw_privs_5, lw_okq q := List.forall_mem_cons.mpr ⟨lw_p64, List.forall_mem_cons.mpr ⟨lw_p65, List.forall_mem_cons.mpr ⟨lw_p66, List.forall_mem_cons.mpr ⟨lw_p67, List.forall_mem_cons.mpr ⟨lw_p68, List.forall_mem_cons.mpr ⟨lw_p69, List.forall_mem_cons.mpr ⟨lw_p70, List.forall_mem_cons.mpr ⟨lw_p71, List.forall_mem_cons.mpr ⟨lw_p72, List.forall_mem_cons.mpr ⟨lw_p73, List.forall_mem_cons.mpr ⟨lw_p74, List.forall_mem_cons.mpr ⟨lw_p75, List.forall_mem_cons.mpr ⟨lw_p76, List.forall_mem_cons.mpr ⟨lw_p77, List.forall_mem_cons.mpr ⟨lw_p78, List.forall_mem_cons.mpr ⟨lw_p79, fun _ h => absurd h List.not_mem_nil⟩⟩⟩⟩⟩⟩⟩⟩⟩⟩⟩⟩⟩⟩⟩⟩
theorem lw_p80 : lw_okq (⟨"JobWorkshopModel", "setup", "()I"⟩, 20) := ⟨⟨by decide +kernel, by decide +kernel⟩, List.mem_of_getElem? (i := 1162) (by decide +kernel), List.mem_of_getElem? (i := 1567) (by decide +kernel), List.mem_of_getElem? (i := 1568) (by decide +kernel)⟩
theorem lw_p81 : lw_okq (⟨"JobWorkshopModel", "nextRow", "()Z"⟩, 20) := ⟨⟨by decide +kernel, by decide +kernel⟩, List.mem_of_getElem? (i := 1162) (by decide +kernel), List.mem_of_getElem? (i := 1571) (by decide +kernel), List.mem_of_getElem? (i := 1572) (by decide +kernel)⟩
theorem lw_p82 : lw_okq (⟨"JobWorkshopModel", "turns", "(II)V"⟩, 20) := ⟨⟨by decide +kernel, by decide +kernel⟩, List.mem_of_getElem? (i := 1162) (by decide +kernel), List.mem_of_getElem? (i := 1575) (by decide +kernel), List.mem_of_getElem? (i := 1576) (by decide +kernel)⟩
theorem lw_p83 : lw_okq (⟨"JobWorkshopModel", "matches", "(I)I"⟩, 20) := ⟨⟨by decide +kernel, by decide +kernel⟩, List.mem_of_getElem? (i := 1162) (by decide +kernel), List.mem_of_getElem? (i := 1587) (by decide +kernel), List.mem_of_getElem? (i := 1588) (by decide +kernel)⟩
theorem lw_p84 : lw_okq (⟨"JobWorkshopModel", "oddsOf", "(III)J"⟩, 20) := ⟨⟨by decide +kernel, by decide +kernel⟩, List.mem_of_getElem? (i := 1162) (by decide +kernel), List.mem_of_getElem? (i := 1603) (by decide +kernel), List.mem_of_getElem? (i := 1604) (by decide +kernel)⟩
theorem lw_p85 : lw_okq (⟨"JobWorkshopModel", "isWrong", "(I)Z"⟩, 20) := ⟨⟨by decide +kernel, by decide +kernel⟩, List.mem_of_getElem? (i := 1162) (by decide +kernel), List.mem_of_getElem? (i := 1625) (by decide +kernel), List.mem_of_getElem? (i := 1626) (by decide +kernel)⟩
theorem lw_p86 : lw_okq (⟨"JobWorkshopModel", "isClosed", "(II)Z"⟩, 20) := ⟨⟨by decide +kernel, by decide +kernel⟩, List.mem_of_getElem? (i := 1162) (by decide +kernel), List.mem_of_getElem? (i := 1629) (by decide +kernel), List.mem_of_getElem? (i := 1630) (by decide +kernel)⟩
def lw_privs_6 : List (MethodName × Nat) := [(⟨"JobWorkshopModel", "setup", "()I"⟩, 20), (⟨"JobWorkshopModel", "nextRow", "()Z"⟩, 20), (⟨"JobWorkshopModel", "turns", "(II)V"⟩, 20), (⟨"JobWorkshopModel", "matches", "(I)I"⟩, 20), (⟨"JobWorkshopModel", "oddsOf", "(III)J"⟩, 20), (⟨"JobWorkshopModel", "isWrong", "(I)Z"⟩, 20), (⟨"JobWorkshopModel", "isClosed", "(II)Z"⟩, 20)]
theorem lw_r6 : ∀ q ∈ lw_privs_6, lw_okq q := List.forall_mem_cons.mpr ⟨lw_p80, List.forall_mem_cons.mpr ⟨lw_p81, List.forall_mem_cons.mpr ⟨lw_p82, List.forall_mem_cons.mpr ⟨lw_p83, List.forall_mem_cons.mpr ⟨lw_p84, List.forall_mem_cons.mpr ⟨lw_p85, List.forall_mem_cons.mpr ⟨lw_p86, fun _ h => absurd h List.not_mem_nil⟩⟩⟩⟩⟩⟩⟩
def lw_privs : List (MethodName × Nat) := lw_privs_1 ++ (lw_privs_2 ++ (lw_privs_3 ++ (lw_privs_4 ++ (lw_privs_5 ++ (lw_privs_6)))))
def lw_tbl : List Cond := k2_sels lw_privs ++ tables_1
theorem lw_privs_ok : ∀ q ∈ lw_privs, lw_okq q := by
  show ∀ q ∈ lw_privs_1 ++ (lw_privs_2 ++ (lw_privs_3 ++ (lw_privs_4 ++ (lw_privs_5 ++ (lw_privs_6))))), lw_okq q
  exact List.forall_mem_append.mpr ⟨lw_r1, List.forall_mem_append.mpr ⟨lw_r2, List.forall_mem_append.mpr ⟨lw_r3, List.forall_mem_append.mpr ⟨lw_r4, List.forall_mem_append.mpr ⟨lw_r5, lw_r6⟩⟩⟩⟩⟩
/-- the streams that the claim lets the run draw from -/
abbrev lw_cs : List Choice := [Jvm.Choice.named "NaN.bits"]
theorem lw_bits : nanBits ∈ lw_cs := by first | decide | exact List.mem_cons_self | simp [lw_cs, nanBits]
end
section
/-! ===== BEGIN words of one list among another's, by their places ===== -/
theorem goodIn_r {big : List Cond} (ws : List Cond) (ps : List Nat) (hp : ws = ps.filterMap (fun i => big[i]?)) (h : ws.all goodWord = true) : GoodIn big ws := by
  intro w hw
  have h1 := List.all_eq_true.mp h w hw
  rw [hp] at hw
  obtain ⟨i, -, hi⟩ := List.mem_filterMap.mp hw
  have hm : w ∈ big := by first | exact List.mem_of_getElem? hi | exact List.getElem?_mem hi
  exact ⟨hm, good_of_word h1⟩
theorem goodIn_app {big a b : List Cond} (ha : GoodIn big a) (hb : GoodIn big b) : GoodIn big (a ++ b) := fun w h => (List.mem_append.mp h).elim (ha w) (hb w)
theorem goodIn_ca {big a b : List Cond} {c : Cond} (ha : GoodIn big (c :: a)) (hb : GoodIn big b) : GoodIn big (c :: (a ++ b)) := fun w h => (List.mem_cons.mp h).elim (fun e => ha w (List.mem_cons.mpr (Or.inl e))) (fun h => (List.mem_append.mp h).elim (fun h => ha w (List.mem_cons.mpr (Or.inr h))) (hb w))
theorem goodIn_sub {big ws : List Cond} (hm : ∀ w ∈ ws, w ∈ big) (h : ws.all goodWord = true) : GoodIn big ws := fun w hw => ⟨hm w hw, good_of_word (List.all_eq_true.mp h w hw)⟩
/-! ===== END ===== -/

/-! ===== BEGIN exceptions that leave a method, and their catching by the caller (launches without stack traces) ===== -/
section VXA
/-! The laws vx_back, vx_callV, vx_callS, vx_callSW, vx_throw0, vx_throwS follow proofs of the library, with one case more: JvmDerived/Free/Laws.lean (Back.of_free), Shelf42/LK1.lean (callV, callS), Shelf/KitTraced.lean (throwNew0V, throwNewS). -/
/-- where a method has thrown q: the class by its name, the cell, what was written, the world -/
def vx_T (XC : String → State → State → Prop) (st : State) (q : Addr) (t : State) (mc ms : Nat) (free : Addr → Prop) : Prop :=
  ∃ (E : String) (ce : Cell) (L : List Loc), XC E st t ∧ t.heap[q]? = some ce ∧ ce.vm = .none ∧ st.vm.findClass E = some ce.cls ∧ st.WarmedH t.vm ∧ st.sameButNew ({ t with vm := st.vm } : State) L mc ms ∧ ∀ z ∈ L, free z.base
def vx_Q (Qc : Array Value → State → Outcome → State → Prop) (XC : String → State → State → Prop) (mc ms : Nat) (free : Addr → Prop) : Array Value → State → Outcome → State → Prop := fun a st o t =>
  (Qc a st o t ∧ ∃ L, FrameEnd st o t L mc ms ∧ ∀ q ∈ L, free q.base) ∨ ∃ q, o = .threw q ∧ vx_T XC st q t mc ms free
/-- a callee that returns or throws -/
def vx_Met (l : Launch) (y : MethodName) (ws : List Cond) (rm : Room) (Pc : Array Value → State → Prop) (Qc : Array Value → State → Outcome → State → Prop) (XC : String → State → State → Prop) (mc ms : Nat) (free : Addr → Prop) : Prop :=
  MetFree l y (headSpec ws rm) Pc (fun _ _ _ _ _ => True) (vx_Q Qc XC mc ms free)
def vx_Post (XC : String → State → State → Prop) (mc ms : Nat) (free : Addr → Prop) : Pt → Array Value → Addr → Pt → Prop := fun A a q B =>
  ∃ (g : JFrame) (mk : MethodId) (t : State) (L : List Loc) (E : String) (ce : Cell), B.U.heap = t.heap ∧ B.U.vm = t.vm ∧ XC E (A.U.calling g mk a) t ∧ t.heap[q]? = some ce ∧ ce.vm = .none ∧ A.U.vm.findClass E = some ce.cls ∧ B.locs = A.locs ++ L ∧ (∀ z ∈ L, free z.base) ∧ B.cells = A.cells + mc ∧ B.slots = A.slots + ms
def vx_Back (l : Launch) (R : Room) (p : Program) (e : Env) (below : List Frame) (s : State) (sargs : Array Value) (y : MethodName) (len W9 : Nat)
    (Pre : Pt → Array Value → Prop) (Post : Pt → Array Value → Option Value → Pt → Prop) (PostX : Pt → Array Value → Addr → Pt → Prop) : Prop :=
  ∀ (m : MethodId) (meth : Method) (c : Code) (A : Pt) (g : JFrame) (ig : Instr) (mk : MethodId) (a : Array Value),
    Stand p l e R s m sargs below meth c A.U A.locs A.cells A.slots → g.method = m → g.locals.size = c.maxLocals → decode c.code g.pc = .ok (ig, len) →
    2 * g.monitorRoom + (g.stack.map fun v => v.category).sum ≤ W9 → A.U.methodNamed? y = some mk → Pre A a →
    (∃ (v : Option Value) (B : Pt), Stand p l e R s m sargs below meth c B.U B.locs B.cells B.slots ∧ Post A a v B ∧
      Steps p.tables e below (doInvoke e (A.U.setTop g) [] mk a).1 (B.U.setTop { g with pc := g.pc + len, stack := v.toList ++ g.stack })) ∨
    (∃ (q : Addr) (B : Pt), Stand p l e R s m sargs below meth c B.U B.locs B.cells B.slots ∧ PostX A a q B ∧
      Steps p.tables e below (doInvoke e (A.U.setTop g) [] mk a).1 ((B.U.setTop g).pushFrame (.throwing q)))
section Payer
variable {l : Launch} {R : Room} {p : Program} {e : Env} {below : List Frame} {s : State} {sargs : Array Value} {y : MethodName} {len W9 : Nat}
theorem vx_back {ws : List Cond} {rm : Room} {Pc : Array Value → State → Prop} {Qc : Array Value → State → Outcome → State → Prop} {XC : String → State → State → Prop} {mc ms : Nat} {free : Addr → Prop} {bytes : ByteArray} {maxL : Nat} {ret : Option FieldType}
    (hM : vx_Met l y ws rm Pc Qc XC mc ms free) (hblind : FrameBlind Pc) (hrc : rm.cells = mc) (hrs : rm.slots = ms)
    (hframes : rm.frames + 1 ≤ R.frames) (hlocals : W9 + (maxL + 11) + rm.locals ≤ R.locals)
    (hws : ∀ w ∈ ws, ∀ a' U, s.WarmedH U.vm → w.before a' U = true) (hcode : Cond.code y bytes maxL ret ∈ ws) (hinit : ∀ a' U, s.WarmedH U.vm → (Cond.initialized y.cls).before a' U = true) :
    vx_Back l R p e below s sargs y len W9 (PreOf R mc ms Pc) (PostOf Qc mc ms free) (vx_Post XC mc ms free) := by
  intro m meth c A g ig mk a X hg hsize hdg hW hn hp
  have h1 : (headSpec ws rm).pre.before a A.U = true := atoms_intro fun w hw => hws w hw _ _ X.warmed
  have h2 : (Cond.code y bytes maxL ret).before a A.U = true := hws _ hcode _ _ X.warmed
  have h3 : (Cond.initialized y.cls).before a A.U = true := hinit _ _ X.warmed
  have h4 : A.cells + (headSpec ws rm).room.cells ≤ R.cells := by rw [show (headSpec ws rm).room.cells = mc from hrc]; exact hp.1
  have h5 : A.slots + (headSpec ws rm).room.slots ≤ R.slots := by rw [show (headSpec ws rm).room.slots = ms from hrs]; exact hp.2.1
  have hPc : Pc a (A.U.calling g mk a) := hblind _ _ _ _ hp.2.2
  obtain ⟨U, Ls, c0, s0⟩ := A
  dsimp only [Pt.U, Pt.locs, Pt.cells, Pt.slots] at h1 h2 h3 h4 h5 X hn hPc ⊢
  obtain ⟨methY, cY, hmY, hcY, -, hlY, -, -, -, -⟩ := Cond.code_spec hn h2
  obtain ⟨kY, hkY, -⟩ := className_of_methodNamed hn
  have hinitY : kY.init = .initialized := Cond.initialized_spec (findClass_of_methodNamed hn) hkY h3
  have h : At U g.method c below := by rw [hg]; exact X.here
  have hlocals9 : W9 + (maxL + 11) + (headSpec ws rm).room.locals ≤ R.locals := hlocals
  have happ : (headSpec ws rm).appliesLoose y e.platform (U.calling g mk a) = true :=
    Spec.appliesLoose_calling (g := g) h hdg hn hkY hinitY
      (X.room_calling (g := g) (R' := (headSpec ws rm).room) hsize hmY hcY hframes (by rw [hlY]; omega) h4 h5) h1
  obtain ⟨mid, hmid⟩ := h.above
  have hfr : (U.setTop g).frames = (.java g :: mid) ++ below := by rw [State.frames_setTop' g h.top, hmid]; rfl
  obtain ⟨o, s₂, hsteps, -, hend, hq⟩ := Steps.callFree hM p X.admits X.cas X.clock (acts := []) hfr happ hPc trivial
  have hq' : vx_Q Qc XC mc ms free a (U.calling g mk a) o s₂ := hq
  rw [State.frames_setTop' g h.top] at hend
  obtain ⟨g₀, hg0⟩ := Option.isSome_iff_exists.mp h.top
  obtain ⟨r, hr⟩ := State.topJava?_eq_some.mp hg0
  have hr' : (({ U with heap := s₂.heap, slotsUsed := s₂.slotsUsed } : State).setVm s₂.vm).frames = .java g₀ :: r := hr
  rcases hq' with ⟨hqc, L, hfe, hL⟩ | ⟨q, rfl, E, ce, L, hx, hce, hcv, hcl, hW₂, hsm, hL⟩
  · obtain ⟨⟨v, rfl⟩, hW₂, e2, q2, q3, q4, q5, q6⟩ := id hfe
    have e3 : s₂ = ({ (U.calling g mk a).setFrames s₂.frames with heap := s₂.heap, slotsUsed := s₂.slotsUsed } : State).setVm s₂.vm := by
      have : s₂ = ({ s₂ with vm := (U.calling g mk a).vm } : State).setVm s₂.vm := rfl
      rw [e2] at this
      exact this
    obtain ⟨c₂, i₂, len₂, hc₂, hd₂, hf₂⟩ := hend
    have hW' : U.WarmedH s₂.vm := hW₂
    have hcc : c₂ = c := by
      have h1 : s₂.code? g.method = U.code? g.method := by
        rw [State.code?_eq, State.code?_eq, hW'.alike.method?]
      exact Option.some.inj (hc₂.symm.trans (h1.trans h.code))
    subst hcc
    have hlen : len₂ = len := by rw [hdg] at hd₂; cases hd₂; rfl
    subst hlen
    have hs₂ : s₂ = (({ U with heap := s₂.heap, slotsUsed := s₂.slotsUsed } : State).setVm s₂.vm).setTop { g with pc := g.pc + len₂, stack := v.toList ++ g.stack } := by
      refine e3.trans ?_
      rw [hf₂, State.calling_eq h.top, State.setFrames_setFrames, State.setTop_of_frames _ hr', hr]
      rfl
    have hsame : U.sameButNew ({ U with heap := s₂.heap, slotsUsed := s₂.slotsUsed } : State) L mc ms := by
      refine ⟨?_, q2, q3, q4, q5, q6⟩
      obtain ⟨t, ht, -⟩ := State.frames_cons hr
      show ({ U with heap := s₂.heap, slotsUsed := s₂.slotsUsed } : State) = { U.setFrames U.frames with heap := s₂.heap, slotsUsed := s₂.slotsUsed }
      rw [State.setFrames_self ht]
    subst hg
    refine Or.inl ⟨v, ⟨(({ U with heap := s₂.heap, slotsUsed := s₂.slotsUsed } : State).setVm s₂.vm), Ls ++ L, c0 + mc, s0 + ms⟩,
      ⟨X.admits, X.cas, X.clock, X.frames, X.room, X.hears, X.method, X.code, (X.here.setHeapUsed s₂.heap s₂.slotsUsed).setVm hW'.alike, X.tail, State.WarmedH.trans X.warmed hW', X.limits, X.bytes, X.same.trans (hsame.setVm s.vm)⟩,
      ⟨g, mk, s₂, L, rfl, rfl, hqc, rfl, hL, rfl, rfl⟩, ?_⟩
    show Steps p.tables e below _ ((({ U with heap := s₂.heap, slotsUsed := s₂.slotsUsed } : State).setVm s₂.vm).setTop { g with pc := g.pc + len₂, stack := v.toList ++ g.stack })
    rw [← hs₂]
    exact hsteps
  · obtain ⟨e2, q2, q3, q4, q5, q6⟩ := id hsm
    have e3 : s₂ = ({ (U.calling g mk a).setFrames s₂.frames with heap := s₂.heap, slotsUsed := s₂.slotsUsed } : State).setVm s₂.vm := by
      have : s₂ = ({ s₂ with vm := (U.calling g mk a).vm } : State).setVm s₂.vm := rfl
      rw [e2] at this
      exact this
    have hf₂ : s₂.frames = .throwing q :: .java g :: U.frames.tail := hend
    have hW' : U.WarmedH s₂.vm := hW₂
    have hs₂ : s₂ = ((({ U with heap := s₂.heap, slotsUsed := s₂.slotsUsed } : State).setVm s₂.vm).setTop g).pushFrame (.throwing q) := by
      refine e3.trans ?_
      rw [hf₂, State.calling_eq h.top, State.setFrames_setFrames, State.pushFrame, State.frames_setTop _ hr', State.setTop_of_frames _ hr', State.setFrames_setFrames, hr]
      rfl
    have hsame : U.sameButNew ({ U with heap := s₂.heap, slotsUsed := s₂.slotsUsed } : State) L mc ms := by
      refine ⟨?_, q2, q3, q4, q5, q6⟩
      obtain ⟨t, ht, -⟩ := State.frames_cons hr
      show ({ U with heap := s₂.heap, slotsUsed := s₂.slotsUsed } : State) = { U.setFrames U.frames with heap := s₂.heap, slotsUsed := s₂.slotsUsed }
      rw [State.setFrames_self ht]
    subst hg
    refine Or.inr ⟨q, ⟨(({ U with heap := s₂.heap, slotsUsed := s₂.slotsUsed } : State).setVm s₂.vm), Ls ++ L, c0 + mc, s0 + ms⟩,
      ⟨X.admits, X.cas, X.clock, X.frames, X.room, X.hears, X.method, X.code, (X.here.setHeapUsed s₂.heap s₂.slotsUsed).setVm hW'.alike, X.tail, State.WarmedH.trans X.warmed hW', X.limits, X.bytes, X.same.trans (hsame.setVm s.vm)⟩,
      ⟨g, mk, s₂, L, E, ce, rfl, rfl, hx, hce, hcv, hcl, rfl, hL, rfl, rfl⟩, ?_⟩
    show Steps p.tables e below _ (((({ U with heap := s₂.heap, slotsUsed := s₂.slotsUsed } : State).setVm s₂.vm).setTop g).pushFrame (.throwing q))
    rw [← hs₂]
    exact hsteps
end Payer
section Calls
variable {p : Program} {l : Launch} {e : Env} {R : Room} {s : State} {m : MethodId} {args : Array Value} {below : List Frame} {meth : Method} {c : Code} {T : State} {locs : List Loc} {cells slots : Nat}
theorem vx_callV (X : Stand p l e R s m args below meth c T locs cells slots) (hexec : p.tables.exec = Jvm.exec) {own C : String} {index : Nat} {y : MethodName} {bytes : ByteArray} {maxL : Nat} {ret : Option FieldType}
    (hown : s.vm.findClass own = some m.cls) (hlink : (Cond.methodLink own index y).before args s = true) (hinst : (Cond.instanceMethod y).before args s = true) (hsel : (Cond.selects C y y).before args s = true)
    (hcode : (Cond.code y bytes maxL ret).before args s = true) (hy : y.cls ≠ "java/lang/invoke/MethodHandle" ∧ y.cls ≠ "java/lang/invoke/VarHandle")
    {W9 : Nat} {Pre : Pt → Array Value → Prop} {Post : Pt → Array Value → Option Value → Pt → Prop} {PostX : Pt → Array Value → Addr → Pt → Prop} (hK : vx_Back l R p e below s args y 3 W9 Pre Post PostX)
    {b : Addr} {cellB : Cell} (hcell : T.heap[b]? = some cellB) (hobj : cellB.vm.isStatics = false) (hcls : s.vm.findClass C = some cellB.cls)
    {g : JFrame} (hg : g.method = m) (hsize : g.locals.size = c.maxLocals) {argsL rest : List Value} (hlen : ∀ sig, parseMethodDescriptor y.desc = some sig → argsL.length = sig.parameters.length)
    (hstack : g.stack = argsL.reverse ++ .ref b :: rest) (hW : 2 * g.monitorRoom + (rest.map fun v => v.category).sum ≤ W9) (hdg : decode c.code g.pc = .ok (.invokevirtual index, 3))
    (hpre : ∀ vm₁, s.WarmedH vm₁ → Pre ⟨T.setVm vm₁, locs, cells, slots⟩ (Value.ref b :: argsL).toArray) :
    (∃ (v : Option Value) (vm₁ : Vm) (B : Pt), s.WarmedH vm₁ ∧ Stand p l e R s m args below meth c B.U B.locs B.cells B.slots ∧ Post ⟨T.setVm vm₁, locs, cells, slots⟩ (Value.ref b :: argsL).toArray v B ∧
      ∀ target, Steps p.tables e below (B.U.setTop { g with pc := g.pc + 3, stack := v.toList ++ rest }) target → Steps p.tables e below (T.setTop g) target) ∨
    (∃ (q : Addr) (vm₁ : Vm) (B : Pt), s.WarmedH vm₁ ∧ Stand p l e R s m args below meth c B.U B.locs B.cells B.slots ∧ PostX ⟨T.setVm vm₁, locs, cells, slots⟩ (Value.ref b :: argsL).toArray q B ∧
      Steps p.tables e below (T.setTop g) ((B.U.setTop { g with stack := rest }).pushFrame (.throwing q))) := by
  obtain ⟨mk, methM, hnamed, hmethM, hstM, habM⟩ := Cond.instanceMethod_spec hinst
  obtain ⟨methM', cM, hmethM', -, -, -, -, -, -, hsigM⟩ := Cond.code_spec hnamed hcode
  cases hmethM.symm.trans hmethM'
  obtain ⟨c2, r2, m2, q1, q2, q3, q4, kP, hkP, hkPi⟩ := Cond.selects_spec hsel
  cases hcls.symm.trans q1
  cases (State.methodFound?_of_named hnamed hy).symm.trans q2
  cases hnamed.symm.trans q3
  have hselP : selectMethod e.platform s.vm cellB.cls mk = .method mk := by rw [Launch.admits_selectMethod X.admits]; exact q4
  obtain ⟨vm₁, X₁, hstep₁⟩ := X.invokevirtual hexec hown hlink hnamed hmethM hstM hkP hkPi hy (a := b) (cell := cellB) hcell
    (fun z h => by rw [h] at hobj; cases hobj) hselP hmethM habM hkP hkPi (g := g) hg (argsL := argsL) (rest := rest) (hlen _ hsigM) hstack hdg
  rcases hK m meth c ⟨T.setVm vm₁, locs, cells, slots⟩ { g with stack := rest } (.invokevirtual index) mk (Value.ref b :: argsL).toArray X₁ hg hsize hdg hW (X₁.named hnamed) (hpre vm₁ X₁.warmed) with ⟨v, B, X', hpost, hsteps⟩ | ⟨q, B, X', hpost, hsteps⟩
  · exact Or.inl ⟨v, vm₁, B, X₁.warmed, X', hpost, fun target h => hstep₁ _ fun acts => by rw [doInvoke_state]; exact hsteps.trans h⟩
  · exact Or.inr ⟨q, vm₁, B, X₁.warmed, X', hpost, hstep₁ _ fun acts => by rw [doInvoke_state]; exact hsteps⟩
theorem vx_callS (X : Stand p l e R s m args below meth c T locs cells slots) (hexec : p.tables.exec = Jvm.exec) {own : String} {index : Nat} {y : MethodName} {bytes : ByteArray} {maxL : Nat} {ret : Option FieldType}
    (hown : s.vm.findClass own = some m.cls) (hlink : (Cond.methodLink own index y).before args s = true) (hstat : (Cond.static y).before args s = true) (hinit : (Cond.initialized y.cls).before args s = true)
    (hcode : (Cond.code y bytes maxL ret).before args s = true) (hy : y.cls ≠ "java/lang/invoke/MethodHandle" ∧ y.cls ≠ "java/lang/invoke/VarHandle")
    {W9 : Nat} {Pre : Pt → Array Value → Prop} {Post : Pt → Array Value → Option Value → Pt → Prop} {PostX : Pt → Array Value → Addr → Pt → Prop} (hK : vx_Back l R p e below s args y 3 W9 Pre Post PostX)
    {g : JFrame} (hg : g.method = m) (hsize : g.locals.size = c.maxLocals) {argsL rest : List Value} (hlen : ∀ sig, parseMethodDescriptor y.desc = some sig → argsL.length = sig.parameters.length)
    (hstack : g.stack = argsL.reverse ++ rest) (hW : 2 * g.monitorRoom + (rest.map fun v => v.category).sum ≤ W9) (hdg : decode c.code g.pc = .ok (.invokestatic index, 3))
    (hpre : ∀ vm₁, s.WarmedH vm₁ → Pre ⟨T.setVm vm₁, locs, cells, slots⟩ argsL.toArray) :
    (∃ (v : Option Value) (vm₁ : Vm) (B : Pt), s.WarmedH vm₁ ∧ Stand p l e R s m args below meth c B.U B.locs B.cells B.slots ∧ Post ⟨T.setVm vm₁, locs, cells, slots⟩ argsL.toArray v B ∧
      ∀ target, Steps p.tables e below (B.U.setTop { g with pc := g.pc + 3, stack := v.toList ++ rest }) target → Steps p.tables e below (T.setTop g) target) ∨
    (∃ (q : Addr) (vm₁ : Vm) (B : Pt), s.WarmedH vm₁ ∧ Stand p l e R s m args below meth c B.U B.locs B.cells B.slots ∧ PostX ⟨T.setVm vm₁, locs, cells, slots⟩ argsL.toArray q B ∧
      Steps p.tables e below (T.setTop g) ((B.U.setTop { g with stack := rest }).pushFrame (.throwing q))) := by
  obtain ⟨mk, hnamed⟩ := Cond.code_named hcode
  obtain ⟨methM, cM, hmethM, -, -, -, -, -, -, hsigM⟩ := Cond.code_spec hnamed hcode
  have hstatic : methM.isStatic = true := Cond.static_spec hnamed hmethM hstat
  obtain ⟨kP, hkP, -⟩ := className_of_methodNamed hnamed
  have hinitP : kP.init = .initialized := Cond.initialized_spec (findClass_of_methodNamed hnamed) hkP hinit
  obtain ⟨vm₁, X₁, hstep₁⟩ := X.invokestatic hexec hown hlink hnamed hmethM hstatic hkP hinitP hy (g := g) hg (argsL := argsL) (rest := rest) (hlen _ hsigM) hstack hdg
  rcases hK m meth c ⟨T.setVm vm₁, locs, cells, slots⟩ { g with stack := rest } (.invokestatic index) mk argsL.toArray X₁ hg hsize hdg hW (X₁.named hnamed) (hpre vm₁ X₁.warmed) with ⟨v, B, X', hpost, hsteps⟩ | ⟨q, B, X', hpost, hsteps⟩
  · exact Or.inl ⟨v, vm₁, B, X₁.warmed, X', hpost, fun target h => hstep₁ _ fun acts => by rw [doInvoke_state]; exact hsteps.trans h⟩
  · exact Or.inr ⟨q, vm₁, B, X₁.warmed, X', hpost, hstep₁ _ fun acts => by rw [doInvoke_state]; exact hsteps⟩
end Calls
theorem vx_cls {s : State} {T : State} {vm₁ : Vm} {E : String} {k : ClassId} (hW : s.WarmedH vm₁) (h : (T.setVm vm₁).vm.findClass E = some k) : s.vm.findClass E = some k := by
  have h1 : vm₁.findClass E = some k := h
  rw [hW.alike.findClass] at h1
  exact h1
/-- the method's frame g, with q thrown over it -/
def vx_W (p : Program) (l : Launch) (e : Env) (R : Room) (s : State) (m : MethodId) (args : Array Value) (below : List Frame) (meth : Method) (c : Code) (H : Heap) (locs : List Loc) (cells slots : Nat) (Q : State → Prop) (g : JFrame) (q : Addr) : Prop :=
  ∀ T : State, T.heap = H → Stand p l e R s m args below meth c T locs cells slots → ∃ t, Steps p.tables e below ((T.setTop g).pushFrame (.throwing q)) t ∧ Q t
def vx_Run (p : Program) (l : Launch) (e : Env) (R : Room) (s : State) (m : MethodId) (args : Array Value) (below : List Frame) (meth : Method) (c : Code) (H : Heap) (locs : List Loc) (cells slots mc ms : Nat) (g : JFrame) (rest : List Value) (Qa : State → Outcome → State → Prop) (XC : String → State → State → Prop) (free : Addr → Prop) : Prop :=
  ∀ T : State, T.heap = H → Stand p l e R s m args below meth c T locs cells slots →
    (∃ (v : Option Value) (st₀ t T' : State) (L : List Loc), st₀.heap = H ∧ Stand p l e R s m args below meth c T' (locs ++ L) (cells + mc) (slots + ms) ∧ (∀ q ∈ L, free q.base) ∧ T'.heap = t.heap ∧ T'.vm = t.vm ∧ Qa st₀ (.returned v) t ∧
      Goes p e below T g T' { g with pc := g.pc + 3, stack := v.toList ++ rest }) ∨
    (∃ (q : Addr) (st₀ t T' : State) (L : List Loc) (E : String) (ce : Cell), st₀.heap = H ∧ Stand p l e R s m args below meth c T' (locs ++ L) (cells + mc) (slots + ms) ∧ (∀ z ∈ L, free z.base) ∧ T'.heap = t.heap ∧ T'.vm = t.vm ∧ XC E st₀ t ∧ t.heap[q]? = some ce ∧ ce.vm = .none ∧ s.vm.findClass E = some ce.cls ∧
      Steps p.tables e below (T.setTop g) ((T'.setTop { g with stack := rest }).pushFrame (.throwing q)))
def vx_X {S : Type} (px : S → Prop) (B : String → S → State → Prop) (A : Nat → Prop) : String → State → State → Prop := fun E st t => ∃ u : S, px u ∧ B E u t ∧ va_F A st t
section Runs
variable {p : Program} {l : Launch} {e : Env} {R : Room} {s : State} {m : MethodId} {args : Array Value} {below : List Frame} {meth : Method} {c : Code} {H : Heap} {locs : List Loc} {cells slots : Nat}
variable {y : MethodName} {bytes cc : ByteArray} {maxL nL mc ms n index : Nat} {ret : Option FieldType} {ws : List Cond} {rm : Room} {Pc : Array Value → State → Prop} {Qc : Array Value → State → Outcome → State → Prop} {XC : String → State → State → Prop} {free : Addr → Prop} {Ts : List Cond} {own C : String} {b : Addr} {As rest : List Value} {g : JFrame}
theorem vx_callBack (cb : CallB R s args own index y bytes maxL ret ws rm mc ms n) (hM : vx_Met l y ws rm Pc Qc XC mc ms free) (hbl : FrameBlind Pc) : vx_Back l R p e below s args y 3 8 (PreOf R mc ms Pc) (PostOf Qc mc ms free) (vx_Post XC mc ms free) := by
  obtain ⟨hrc, hrs, hfr, hlo, hws, hcw, -, hini, -⟩ := cb
  exact vx_back (bytes := bytes) (maxL := maxL) (ret := ret) hM hbl hrc hrs hfr hlo hws hcw (fun a' U hW => word_at hW (Or.inl (by first | rfl | simp [Cond.onTables, Cond.keeps, Cond.steady])) hini)
theorem vx_runV (S : CallFix p m c cc nL s args Ts own) (hM : vx_Met l y ws rm Pc Qc XC mc ms free) (cw : CallW R s args own C index y bytes maxL ret ws rm mc ms n) (hp : PreV s H C b Pc As)
    (hg : g.method = m) (hn : As.length = n) (hsize : g.locals.size = nL) (hstack : g.stack = As.reverse ++ .ref b :: rest) (hW : 2 * g.monitorRoom + (rest.map fun v => v.category).sum ≤ 8) (hdg : decode cc g.pc = .ok (.invokevirtual index, 3)) (hf : cells + mc ≤ R.cells ∧ slots + ms ≤ R.slots) :
    vx_Run p l e R s m args below meth c H locs cells slots mc ms g rest (Qc (Value.ref b :: As).toArray) XC free := by
  have hK : vx_Back l R p e below s args y 3 8 (PreOf R mc ms Pc) (PostOf Qc mc ms free) (vx_Post XC mc ms free) := vx_callBack cw.1 hM hp.1
  obtain ⟨⟨-, -, -, -, -, -, hcode, -, hy, hlen, hl⟩, hin, hse⟩ := cw
  obtain ⟨hx, hb, hml, ho, -⟩ := S
  obtain ⟨-, ⟨cellB, hcB, hoB, hclB⟩, hPc⟩ := hp
  intro T hT X
  rcases vx_callV X hx (C := C) (bytes := bytes) (maxL := maxL) (ret := ret) ho hl hin hse hcode hy hK (by rw [hT]; exact hcB) hoB hclB hg (hsize.trans hml.symm) (argsL := As) (rest := rest) (fun sig h => hn.trans (hlen sig h)) hstack hW (by rw [hb]; exact hdg)
    (fun vm₁ hW₁ => ⟨hf.1, hf.2, hPc (T.setVm vm₁) hT hW₁⟩) with ⟨v, vm₁, ⟨U', l2, c2, s2⟩, hW₁, X', ⟨g', mk, t, L, e1, e2, hq, h1, hL, h2, h3⟩, st⟩ | ⟨q, vm₁, ⟨U', l2, c2, s2⟩, hW₁, X', ⟨g', mk, t, L, E, ce, e1, e2, hq, hce, hcv, hcl, h1, hL, h2, h3⟩, st⟩
  · dsimp only [Pt.U, Pt.locs, Pt.cells, Pt.slots] at X' e1 e2 h1 h2 h3 st
    subst h1; subst h2; subst h3
    exact Or.inl ⟨v, (T.setVm vm₁).calling g' mk (Value.ref b :: As).toArray, t, U', L, hT, X', hL, e1, e2, hq, st⟩
  · dsimp only [Pt.U, Pt.locs, Pt.cells, Pt.slots] at X' e1 e2 h1 h2 h3 st hcl
    subst h1; subst h2; subst h3
    exact Or.inr ⟨q, (T.setVm vm₁).calling g' mk (Value.ref b :: As).toArray, t, U', L, E, ce, hT, X', hL, e1, e2, hq, hce, hcv, vx_cls hW₁ hcl, st⟩
theorem vx_runS (S : CallFix p m c cc nL s args Ts own) (hM : vx_Met l y ws rm Pc Qc XC mc ms free) (cw : CallB R s args own index y bytes maxL ret ws rm mc ms n ∧ (Cond.static y).before args s = true) (hp : PreS s H Pc As)
    (hg : g.method = m) (hn : As.length = n) (hsize : g.locals.size = nL) (hstack : g.stack = As.reverse ++ rest) (hW : 2 * g.monitorRoom + (rest.map fun v => v.category).sum ≤ 8) (hdg : decode cc g.pc = .ok (.invokestatic index, 3)) (hf : cells + mc ≤ R.cells ∧ slots + ms ≤ R.slots) :
    vx_Run p l e R s m args below meth c H locs cells slots mc ms g rest (Qc As.toArray) XC free := by
  have hK : vx_Back l R p e below s args y 3 8 (PreOf R mc ms Pc) (PostOf Qc mc ms free) (vx_Post XC mc ms free) := vx_callBack cw.1 hM hp.1
  obtain ⟨⟨-, -, -, -, -, -, hcode, hini, hy, hlen, hl⟩, hstt⟩ := cw
  obtain ⟨hx, hb, hml, ho, -⟩ := S
  intro T hT X
  rcases vx_callS X hx (bytes := bytes) (maxL := maxL) (ret := ret) ho hl hstt hini hcode hy hK hg (hsize.trans hml.symm) (argsL := As) (rest := rest) (fun sig h => hn.trans (hlen sig h)) hstack hW (by rw [hb]; exact hdg)
    (fun vm₁ hW₁ => ⟨hf.1, hf.2, hp.2 (T.setVm vm₁) hT hW₁⟩) with ⟨v, vm₁, ⟨U', l2, c2, s2⟩, hW₁, X', ⟨g', mk, t, L, e1, e2, hq, h1, hL, h2, h3⟩, st⟩ | ⟨q, vm₁, ⟨U', l2, c2, s2⟩, hW₁, X', ⟨g', mk, t, L, E, ce, e1, e2, hq, hce, hcv, hcl, h1, hL, h2, h3⟩, st⟩
  · dsimp only [Pt.U, Pt.locs, Pt.cells, Pt.slots] at X' e1 e2 h1 h2 h3 st
    subst h1; subst h2; subst h3
    exact Or.inl ⟨v, (T.setVm vm₁).calling g' mk As.toArray, t, U', L, hT, X', hL, e1, e2, hq, st⟩
  · dsimp only [Pt.U, Pt.locs, Pt.cells, Pt.slots] at X' e1 e2 h1 h2 h3 st hcl
    subst h1; subst h2; subst h3
    exact Or.inr ⟨q, (T.setVm vm₁).calling g' mk As.toArray, t, U', L, E, ce, hT, X', hL, e1, e2, hq, hce, hcv, vx_cls hW₁ hcl, st⟩
end Runs
section Rows
variable {p : Program} {l : Launch} {e : Env} {R : Room} {s : State} {m : MethodId} {args : Array Value} {below : List Frame} {meth : Method} {c : Code} {H : Heap} {locs : List Loc} {cells slots : Nat} {Q : State → Prop}
variable {mc ms : Nat} {free : Addr → Prop} {A0 A1 : Nat → Prop} {H0 : Heap} {a : Array Value} {pc : Nat} {ls : Array Slot} {st0 rest : List Value}
theorem vx_keep {st₀ t T' : State} {L : List Loc} (h0 : st₀.heap = H) (e1 : T'.heap = t.heap) (hS : va_S A0 H0 H locs) (hA : ∀ q, q < H.size → A1 q → A0 q) (hf : ∀ q, free q → A0 q) (hL : ∀ q ∈ L, free q.base) (hF : va_F A1 st₀ t) :
    H.size ≤ T'.heap.size ∧ (∀ q : Nat, q < H.size → ¬ A1 q → T'.heap[q]? = H[q]?) ∧ va_S A0 H0 T'.heap (locs ++ L) := by
  obtain ⟨hz, hk⟩ := hF
  rw [h0] at hz hk
  exact ⟨by rw [e1]; exact hz, fun q h1 h2 => by rw [e1]; exact hk q h1 h2,
    ⟨Nat.le_trans hS.1 (by rw [e1]; exact hz), fun q h1 h2 => by rw [e1, hk q (Nat.lt_of_lt_of_le h1 hS.1) (fun z => h2 (hA q (Nat.lt_of_lt_of_le h1 hS.1) z))]; exact hS.2.1 q h1 h2, fun q hq => by
      rcases List.mem_append.mp hq with h | h
      · exact hS.2.2 q h
      · exact hf _ (hL q h)⟩⟩
theorem vx_calli {S SX : Type} {post : Int32 → S → Prop} {px : SX → Prop} {B : S → State → Prop} {BX : String → SX → State → Prop} {AX : Nat → Prop} (hr : vx_Run p l e R s m args below meth c H locs cells slots mc ms (F0 m pc ls st0) rest (va_Qi post B A1 a) (vx_X px BX AX) free) (hS : va_S A0 H0 H locs) (hA : ∀ q, q < H.size → A1 q → A0 q) (hf : ∀ q, free q → A0 q) (hAX : ∀ q, q < H.size → AX q → A0 q)
    (kx : ∀ (E : String) (ce : Cell) (q9 : Addr) (u : SX) (t : State) (H1 : Heap) (locs1 : List Loc), t.heap = H1 → s.vm.Alike t.vm → px u → BX E u t → H.size ≤ H1.size → (∀ q : Nat, q < H.size → ¬ AX q → H1[q]? = H[q]?) → va_S A0 H0 H1 locs1 → H1[q9]? = some ce → ce.vm = .none → s.vm.findClass E = some ce.cls → vx_W p l e R s m args below meth c H1 locs1 (cells + mc) (slots + ms) Q (F0 m pc ls rest) q9)
    (kk : ∀ (r : Int32) (u : S) (t : State) (H1 : Heap) (locs1 : List Loc), t.heap = H1 → s.vm.Alike t.vm → post r u → B u t → H.size ≤ H1.size → (∀ q : Nat, q < H.size → ¬ A1 q → H1[q]? = H[q]?) → va_S A0 H0 H1 locs1 → W p l e R s m args below meth c H1 locs1 (cells + mc) (slots + ms) Q (F0 m (pc + 3) ls (.int r :: rest))) : W p l e R s m args below meth c H locs cells slots Q (F0 m pc ls st0) := by
  intro T hT X
  rcases hr T hT X with ⟨v, st₀, t, T', L, h0, X', hL, e1, e2, ⟨⟨r, u, hv, hp, hb⟩, hF⟩, st⟩ | ⟨q, st₀, t, T', L, E, ce, h0, X', hL, e1, e2, ⟨u, hp, hb, hF⟩, hce, hcv, hcl, st⟩
  · cases hv
    obtain ⟨k1, k2, k3⟩ := vx_keep h0 e1 hS hA hf hL hF
    obtain ⟨t2, a1, b1⟩ := kk r u t T'.heap (locs ++ L) e1.symm (by rw [← e2]; exact X'.warmed.alike) hp hb k1 k2 k3 T' rfl X'
    exact ⟨t2, st t2 a1, b1⟩
  · obtain ⟨k1, k2, k3⟩ := vx_keep h0 e1 hS hAX hf hL hF
    obtain ⟨t2, a1, b1⟩ := kx E ce q u t T'.heap (locs ++ L) e1.symm (by rw [← e2]; exact X'.warmed.alike) hp hb k1 k2 k3 (by rw [e1]; exact hce) hcv hcl T' rfl X'
    exact ⟨t2, st.trans a1, b1⟩
theorem vx_calll {S SX : Type} {post : Int64 → S → Prop} {px : SX → Prop} {B : S → State → Prop} {BX : String → SX → State → Prop} {AX : Nat → Prop} (hr : vx_Run p l e R s m args below meth c H locs cells slots mc ms (F0 m pc ls st0) rest (va_Ql post B A1 a) (vx_X px BX AX) free) (hS : va_S A0 H0 H locs) (hA : ∀ q, q < H.size → A1 q → A0 q) (hf : ∀ q, free q → A0 q) (hAX : ∀ q, q < H.size → AX q → A0 q)
    (kx : ∀ (E : String) (ce : Cell) (q9 : Addr) (u : SX) (t : State) (H1 : Heap) (locs1 : List Loc), t.heap = H1 → s.vm.Alike t.vm → px u → BX E u t → H.size ≤ H1.size → (∀ q : Nat, q < H.size → ¬ AX q → H1[q]? = H[q]?) → va_S A0 H0 H1 locs1 → H1[q9]? = some ce → ce.vm = .none → s.vm.findClass E = some ce.cls → vx_W p l e R s m args below meth c H1 locs1 (cells + mc) (slots + ms) Q (F0 m pc ls rest) q9)
    (kk : ∀ (r : Int64) (u : S) (t : State) (H1 : Heap) (locs1 : List Loc), t.heap = H1 → s.vm.Alike t.vm → post r u → B u t → H.size ≤ H1.size → (∀ q : Nat, q < H.size → ¬ A1 q → H1[q]? = H[q]?) → va_S A0 H0 H1 locs1 → W p l e R s m args below meth c H1 locs1 (cells + mc) (slots + ms) Q (F0 m (pc + 3) ls (.long r :: rest))) : W p l e R s m args below meth c H locs cells slots Q (F0 m pc ls st0) := by
  intro T hT X
  rcases hr T hT X with ⟨v, st₀, t, T', L, h0, X', hL, e1, e2, ⟨⟨r, u, hv, hp, hb⟩, hF⟩, st⟩ | ⟨q, st₀, t, T', L, E, ce, h0, X', hL, e1, e2, ⟨u, hp, hb, hF⟩, hce, hcv, hcl, st⟩
  · cases hv
    obtain ⟨k1, k2, k3⟩ := vx_keep h0 e1 hS hA hf hL hF
    obtain ⟨t2, a1, b1⟩ := kk r u t T'.heap (locs ++ L) e1.symm (by rw [← e2]; exact X'.warmed.alike) hp hb k1 k2 k3 T' rfl X'
    exact ⟨t2, st t2 a1, b1⟩
  · obtain ⟨k1, k2, k3⟩ := vx_keep h0 e1 hS hAX hf hL hF
    obtain ⟨t2, a1, b1⟩ := kx E ce q u t T'.heap (locs ++ L) e1.symm (by rw [← e2]; exact X'.warmed.alike) hp hb k1 k2 k3 (by rw [e1]; exact hce) hcv hcl T' rfl X'
    exact ⟨t2, st.trans a1, b1⟩
theorem vx_callf {S SX : Type} {post : UInt32 → S → Prop} {px : SX → Prop} {B : S → State → Prop} {BX : String → SX → State → Prop} {AX : Nat → Prop} (hr : vx_Run p l e R s m args below meth c H locs cells slots mc ms (F0 m pc ls st0) rest (va_Qf post B A1 a) (vx_X px BX AX) free) (hS : va_S A0 H0 H locs) (hA : ∀ q, q < H.size → A1 q → A0 q) (hf : ∀ q, free q → A0 q) (hAX : ∀ q, q < H.size → AX q → A0 q)
    (kx : ∀ (E : String) (ce : Cell) (q9 : Addr) (u : SX) (t : State) (H1 : Heap) (locs1 : List Loc), t.heap = H1 → s.vm.Alike t.vm → px u → BX E u t → H.size ≤ H1.size → (∀ q : Nat, q < H.size → ¬ AX q → H1[q]? = H[q]?) → va_S A0 H0 H1 locs1 → H1[q9]? = some ce → ce.vm = .none → s.vm.findClass E = some ce.cls → vx_W p l e R s m args below meth c H1 locs1 (cells + mc) (slots + ms) Q (F0 m pc ls rest) q9)
    (kk : ∀ (r : UInt32) (u : S) (t : State) (H1 : Heap) (locs1 : List Loc), t.heap = H1 → s.vm.Alike t.vm → post r u → B u t → H.size ≤ H1.size → (∀ q : Nat, q < H.size → ¬ A1 q → H1[q]? = H[q]?) → va_S A0 H0 H1 locs1 → W p l e R s m args below meth c H1 locs1 (cells + mc) (slots + ms) Q (F0 m (pc + 3) ls (.float r :: rest))) : W p l e R s m args below meth c H locs cells slots Q (F0 m pc ls st0) := by
  intro T hT X
  rcases hr T hT X with ⟨v, st₀, t, T', L, h0, X', hL, e1, e2, ⟨⟨r, u, hv, hp, hb⟩, hF⟩, st⟩ | ⟨q, st₀, t, T', L, E, ce, h0, X', hL, e1, e2, ⟨u, hp, hb, hF⟩, hce, hcv, hcl, st⟩
  · cases hv
    obtain ⟨k1, k2, k3⟩ := vx_keep h0 e1 hS hA hf hL hF
    obtain ⟨t2, a1, b1⟩ := kk r u t T'.heap (locs ++ L) e1.symm (by rw [← e2]; exact X'.warmed.alike) hp hb k1 k2 k3 T' rfl X'
    exact ⟨t2, st t2 a1, b1⟩
  · obtain ⟨k1, k2, k3⟩ := vx_keep h0 e1 hS hAX hf hL hF
    obtain ⟨t2, a1, b1⟩ := kx E ce q u t T'.heap (locs ++ L) e1.symm (by rw [← e2]; exact X'.warmed.alike) hp hb k1 k2 k3 (by rw [e1]; exact hce) hcv hcl T' rfl X'
    exact ⟨t2, st.trans a1, b1⟩
theorem vx_calld {S SX : Type} {post : UInt64 → S → Prop} {px : SX → Prop} {B : S → State → Prop} {BX : String → SX → State → Prop} {AX : Nat → Prop} (hr : vx_Run p l e R s m args below meth c H locs cells slots mc ms (F0 m pc ls st0) rest (va_Qd post B A1 a) (vx_X px BX AX) free) (hS : va_S A0 H0 H locs) (hA : ∀ q, q < H.size → A1 q → A0 q) (hf : ∀ q, free q → A0 q) (hAX : ∀ q, q < H.size → AX q → A0 q)
    (kx : ∀ (E : String) (ce : Cell) (q9 : Addr) (u : SX) (t : State) (H1 : Heap) (locs1 : List Loc), t.heap = H1 → s.vm.Alike t.vm → px u → BX E u t → H.size ≤ H1.size → (∀ q : Nat, q < H.size → ¬ AX q → H1[q]? = H[q]?) → va_S A0 H0 H1 locs1 → H1[q9]? = some ce → ce.vm = .none → s.vm.findClass E = some ce.cls → vx_W p l e R s m args below meth c H1 locs1 (cells + mc) (slots + ms) Q (F0 m pc ls rest) q9)
    (kk : ∀ (r : UInt64) (u : S) (t : State) (H1 : Heap) (locs1 : List Loc), t.heap = H1 → s.vm.Alike t.vm → post r u → B u t → H.size ≤ H1.size → (∀ q : Nat, q < H.size → ¬ A1 q → H1[q]? = H[q]?) → va_S A0 H0 H1 locs1 → W p l e R s m args below meth c H1 locs1 (cells + mc) (slots + ms) Q (F0 m (pc + 3) ls (.double r :: rest))) : W p l e R s m args below meth c H locs cells slots Q (F0 m pc ls st0) := by
  intro T hT X
  rcases hr T hT X with ⟨v, st₀, t, T', L, h0, X', hL, e1, e2, ⟨⟨r, u, hv, hp, hb⟩, hF⟩, st⟩ | ⟨q, st₀, t, T', L, E, ce, h0, X', hL, e1, e2, ⟨u, hp, hb, hF⟩, hce, hcv, hcl, st⟩
  · cases hv
    obtain ⟨k1, k2, k3⟩ := vx_keep h0 e1 hS hA hf hL hF
    obtain ⟨t2, a1, b1⟩ := kk r u t T'.heap (locs ++ L) e1.symm (by rw [← e2]; exact X'.warmed.alike) hp hb k1 k2 k3 T' rfl X'
    exact ⟨t2, st t2 a1, b1⟩
  · obtain ⟨k1, k2, k3⟩ := vx_keep h0 e1 hS hAX hf hL hF
    obtain ⟨t2, a1, b1⟩ := kx E ce q u t T'.heap (locs ++ L) e1.symm (by rw [← e2]; exact X'.warmed.alike) hp hb k1 k2 k3 (by rw [e1]; exact hce) hcv hcl T' rfl X'
    exact ⟨t2, st.trans a1, b1⟩
theorem vx_callv {S SX : Type} {post : S → Prop} {px : SX → Prop} {B : S → State → Prop} {BX : String → SX → State → Prop} {AX : Nat → Prop} (hr : vx_Run p l e R s m args below meth c H locs cells slots mc ms (F0 m pc ls st0) rest (va_Qv post B A1 a) (vx_X px BX AX) free) (hS : va_S A0 H0 H locs) (hA : ∀ q, q < H.size → A1 q → A0 q) (hf : ∀ q, free q → A0 q) (hAX : ∀ q, q < H.size → AX q → A0 q)
    (kx : ∀ (E : String) (ce : Cell) (q9 : Addr) (u : SX) (t : State) (H1 : Heap) (locs1 : List Loc), t.heap = H1 → s.vm.Alike t.vm → px u → BX E u t → H.size ≤ H1.size → (∀ q : Nat, q < H.size → ¬ AX q → H1[q]? = H[q]?) → va_S A0 H0 H1 locs1 → H1[q9]? = some ce → ce.vm = .none → s.vm.findClass E = some ce.cls → vx_W p l e R s m args below meth c H1 locs1 (cells + mc) (slots + ms) Q (F0 m pc ls rest) q9)
    (kk : ∀ (u : S) (t : State) (H1 : Heap) (locs1 : List Loc), t.heap = H1 → s.vm.Alike t.vm → post u → B u t → H.size ≤ H1.size → (∀ q : Nat, q < H.size → ¬ A1 q → H1[q]? = H[q]?) → va_S A0 H0 H1 locs1 → W p l e R s m args below meth c H1 locs1 (cells + mc) (slots + ms) Q (F0 m (pc + 3) ls (rest))) : W p l e R s m args below meth c H locs cells slots Q (F0 m pc ls st0) := by
  intro T hT X
  rcases hr T hT X with ⟨v, st₀, t, T', L, h0, X', hL, e1, e2, ⟨⟨u, hv, hp, hb⟩, hF⟩, st⟩ | ⟨q, st₀, t, T', L, E, ce, h0, X', hL, e1, e2, ⟨u, hp, hb, hF⟩, hce, hcv, hcl, st⟩
  · cases hv
    obtain ⟨k1, k2, k3⟩ := vx_keep h0 e1 hS hA hf hL hF
    obtain ⟨t2, a1, b1⟩ := kk u t T'.heap (locs ++ L) e1.symm (by rw [← e2]; exact X'.warmed.alike) hp hb k1 k2 k3 T' rfl X'
    exact ⟨t2, st t2 a1, b1⟩
  · obtain ⟨k1, k2, k3⟩ := vx_keep h0 e1 hS hAX hf hL hF
    obtain ⟨t2, a1, b1⟩ := kx E ce q u t T'.heap (locs ++ L) e1.symm (by rw [← e2]; exact X'.warmed.alike) hp hb k1 k2 k3 (by rw [e1]; exact hce) hcv hcl T' rfl X'
    exact ⟨t2, st.trans a1, b1⟩
/-- caught by the row x of this method's table; the rows ahead don't take it -/
theorem vx_catch {own name : String} {E : String} {ce : Cell} {q : Addr} (hown : s.vm.findClass own = some m.cls) (pre : List ExceptionTableEntry) (x : ExceptionTableEntry) (suf : List ExceptionTableEntry) (hsplit : c.exceptionTable.toList = pre ++ x :: suf)
    (hpass : ∀ z ∈ pre, covers z pc = false ∨ (z.catchType ≠ 0 ∧ ∃ nm : String, (Cond.classLink own z.catchType nm).before args s = true ∧ va_Nc E nm s)) (hx : covers x pc = true) (h0 : x.catchType ≠ 0)
    (hlink : (Cond.classLink own x.catchType name).before args s = true) (hcast : (Cond.castable E name).before args s = true) (hcell : H[q]? = some ce) (hv : ce.vm = .none) (hcl : s.vm.findClass E = some ce.cls)
    (kk : W p l e R s m args below meth c H locs cells slots Q (F0 m x.handlerPc ls [.ref q])) : vx_W p l e R s m args below meth c H locs cells slots Q (F0 m pc ls rest) q := by
  intro T hT X
  have hpl : e.platform.magicAccessors = ({} : Platform).magicAccessors := by rw [X.admits.platform]
  obtain ⟨c3, c4, hc3, hc4, hasg⟩ := Cond.castable_spec hcast
  cases Option.some.inj (hc3.symm.trans hcl)
  obtain ⟨c5, hc5, hcl5⟩ := Cond.classLink_spec hown hlink e.platform hpl
  cases Option.some.inj (hc4.symm.trans hc5)
  obtain ⟨vm', X', st⟩ := X.thenCaughtThrough q (g := F0 m pc ls rest) rfl (Steps.refl _) (by rw [hT]; exact hcell) (by rw [hv]; rfl) (by obtain ⟨k9, h9, -⟩ := Vm.findClass_spec hcl; exact ⟨k9, h9⟩) pre x suf hsplit
    (fun z hz => by
      rcases hpass z hz with h | ⟨hz0, nm, hl1, hn1⟩
      · exact Or.inl h
      · obtain ⟨c6, hc6, hcl6⟩ := Cond.classLink_spec hown hl1 e.platform hpl
        obtain ⟨a8, b8, h1, h2, h3⟩ := hn1
        cases Option.some.inj (h1.symm.trans hcl)
        cases Option.some.inj (h2.symm.trans hc6)
        exact Or.inr ⟨hz0, _, hcl6, h3⟩) hx (Or.inr ⟨h0, c4, hcl5, hasg⟩)
  obtain ⟨t, a1, b1⟩ := kk (T.setVm vm') hT X'
  exact ⟨t, st.trans a1, b1⟩
end Rows
section Ends
variable {p : Program} {l : Launch} {e : Env} {R : Room} {s : State} {m : MethodId} {args : Array Value} {below : List Frame} {meth : Method} {c : Code} {H : Heap} {locs : List Loc} {cells slots : Nat} {Q : State → Prop}
variable {mc ms : Nat} {free : Addr → Prop} {A0 A1 : Nat → Prop} {H0 : Heap} {a : Array Value} {ls : Array Slot} {st0 rest : List Value}
variable {Qc : Array Value → State → Outcome → State → Prop} {XC : String → State → State → Prop}
/-- what a body that may throw owes at its end -/
def vx_MQ (below : List Frame) (Qc : Array Value → State → Outcome → State → Prop) (XC : String → State → State → Prop) (a : Array Value) (s : State) (mc ms : Nat) (free : Addr → Prop) : State → Prop := fun t =>
  ∃ o, t.status = .running ∧ Ended t below o ∧ vx_Q Qc XC mc ms free a s o t
theorem vx_ret {g : JFrame} {mc ms : Nat} (k : W p l e R s m args below meth c H locs cells slots (MQ below Qc args s mc ms free) g) : W p l e R s m args below meth c H locs cells slots (vx_MQ below Qc XC args s mc ms free) g := by
  intro T hT X
  obtain ⟨t, a1, o, b1, b2, b3, b4⟩ := k T hT X
  exact ⟨t, a1, o, b1, b2, Or.inl ⟨b3, b4⟩⟩
/-- not caught here: it goes on to the caller -/
theorem vx_widen {g : JFrame} {q : Addr} {k n : Nat} (h1 : cells ≤ k) (h2 : slots ≤ n) (kk : vx_W p l e R s m args below meth c H locs k n Q g q) : vx_W p l e R s m args below meth c H locs cells slots Q g q := fun T hT X => kk T hT (stand_widen X h1 h2)
theorem vx_out {pc : Nat} {E : String} {ce : Cell} {q : Addr} {mc ms : Nat} (hout : ∀ x ∈ c.exceptionTable.toList, covers x pc = false) (hlocks : meth.locks = false) (hcell : H[q]? = some ce) (hv : ce.vm = .none) (hcl : s.vm.findClass E = some ce.cls)
    (hx : ∀ t : State, t.heap = H → s.vm.Alike t.vm → XC E s t) (hf : ∀ z ∈ locs, free z.base) (hc : cells ≤ mc) (hs : slots ≤ ms) :
    vx_W p l e R s m args below meth c H locs cells slots (vx_MQ below Qc XC args s mc ms free) (F0 m pc ls rest) q := by
  intro T hT X
  obtain ⟨st1, hrun, hend, hW, hsm⟩ := X.leaveThrown q (g := F0 m pc ls rest) rfl rfl rfl hout hlocks
  have hcell9 : (T.setFrames (.throwing q :: below)).heap[q]? = some ce := by
    show T.heap[q]? = some ce
    rw [hT]; exact hcell
  exact ⟨_, st1, .threw q, hrun, hend, Or.inr ⟨q, rfl, E, ce, locs, hx _ hT hW.alike, hcell9, hv, hcl, hW, hsm.mono hc hs, hf⟩⟩
theorem vx_frame {U : State} {k n : Nat} (h : s.sameButNew ({ U with vm := s.vm } : State) locs k n) : s.heap.size ≤ U.heap.size ∧ ∀ q : Nat, q < s.heap.size → (∀ z ∈ locs, z.base ≠ q) → U.heap[q]? = s.heap[q]? := by
  obtain ⟨-, h2, -, -, -, h6⟩ := h
  refine ⟨h2, fun q hq hz => ?_⟩
  obtain ⟨c9, e1, e2, e3, e4⟩ := h6 q _ (Array.getElem?_eq_getElem hq)
  have hs : c9.slots = (s.heap[q]).slots := Array.ext_getElem? fun i => e4 i fun hm => hz _ hm rfl
  have h9 : c9 = s.heap[q] := by
    rw [hs] at e2
    exact e2
  have e5 : U.heap[q]? = some c9 := e1
  rw [e5, h9, Array.getElem?_eq_getElem hq]
/-- the words of a throw but the four that speak of the heap -/
def vx_no (w : Cond) : Bool := decide (w ≠ .isRef (.static Bundle.tN "UNASSIGNED_STACK" Bundle.steD)) && decide (w ≠ .isRef (.static Bundle.tN "SUPPRESSED_SENTINEL" Bundle.listD)) && decide (w ≠ .laysStatic Bundle.tN "UNASSIGNED_STACK" Bundle.steD) && decide (w ≠ .laysStatic Bundle.tN "SUPPRESSED_SENTINEL" Bundle.listD)
def vx_at0 (own : String) (ic : Nat) (X : String) (names : List String) : List Cond := (Bundle.ownAtoms0 own ic X names).filter vx_no
def vx_atS (own : String) (ic : Nat) (X : String) (names : List String) : List Cond := (Bundle.ownAtoms own ic X names).filter vx_no
/-- a word that the tables alone decide, or a good one -/
def vx_ot (w : Cond) : Bool := w.onTables || goodWord w
theorem vx_ot_at {args a' : Array Value} {s U : State} {w : Cond} (hW : s.WarmedH U.vm) (hvm : s.vm = U.vm) (hg : vx_ot w = true) (h : w.before args s = true) : w.before a' U = true := by
  simp only [vx_ot, Bool.or_eq_true] at hg
  rcases hg with hg | hg
  · exact va_tabs hg hvm h
  · exact word_at hW (good_of_word hg) h
/-- a list's words: the good ones out of the method's own list, the others by premises of their own -/
theorem vx_hat {args : Array Value} {s : State} {L B : List Cond} (h1 : ∀ w ∈ L.filter goodWord, w.before args s = true) (h2 : ∀ w ∈ L.filter (fun w => !goodWord w), w ∈ B) (h3 : ∀ w ∈ B, w.before args s = true) : ∀ w ∈ L, w.before args s = true := by
  intro w hw
  by_cases g : goodWord w = true
  · exact h1 w (List.mem_filter.mpr ⟨hw, g⟩)
  · refine h3 w (h2 w (List.mem_filter.mpr ⟨hw, ?_⟩))
    show (!goodWord w) = true
    cases hgw : goodWord w
    · rfl
    · exact absurd hgw g
theorem vx_c {args : Array Value} {s : State} {w : Cond} {B : List Cond} (h : w.before args s = true) (t : ∀ w ∈ B, w.before args s = true) : ∀ w' ∈ w :: B, w'.before args s = true := fun w' h' => (List.mem_cons.mp h').elim (fun e => by rw [e]; exact h) (t w')
theorem vx_n {args : Array Value} {s : State} : ∀ w ∈ ([] : List Cond), w.before args s = true := fun _ h => nomatch h
theorem vx_own {args : Array Value} {s : State} {L : List Cond} (h1 : ∀ w ∈ L.filter vx_no, w.before args s = true)
    (hU : (Cond.isRef (.static Bundle.tN "UNASSIGNED_STACK" Bundle.steD)).before args s = true) (hN : (Cond.isRef (.static Bundle.tN "SUPPRESSED_SENTINEL" Bundle.listD)).before args s = true)
    (lU : (Cond.laysStatic Bundle.tN "UNASSIGNED_STACK" Bundle.steD).before args s = true) (lN : (Cond.laysStatic Bundle.tN "SUPPRESSED_SENTINEL" Bundle.listD).before args s = true) : ∀ w ∈ L, w.before args s = true := by
  intro w hw
  by_cases e1 : w = .isRef (.static Bundle.tN "UNASSIGNED_STACK" Bundle.steD)
  · rw [e1]; exact hU
  · by_cases e2 : w = .isRef (.static Bundle.tN "SUPPRESSED_SENTINEL" Bundle.listD)
    · rw [e2]; exact hN
    · by_cases e3 : w = .laysStatic Bundle.tN "UNASSIGNED_STACK" Bundle.steD
      · rw [e3]; exact lU
      · by_cases e4 : w = .laysStatic Bundle.tN "SUPPRESSED_SENTINEL" Bundle.listD
        · rw [e4]; exact lN
        · exact h1 w (List.mem_filter.mpr ⟨hw, by unfold vx_no; rw [decide_eq_true e1, decide_eq_true e2, decide_eq_true e3, decide_eq_true e4]; rfl⟩)
/-- where a static field lies, its class's statics cell in H -/
def vx_L (C n d : String) (A : Nat → Prop) (U : State) (H : Heap) : Prop := ∃ (c : ClassId) (k : Class) (i : Nat) (f : Field) (a : Nat) (cell : Cell), U.vm.findClass C = some c ∧ U.fieldFound? C n d = some (c, k, i, f) ∧ f.isStatic = true ∧ k.statics = some a ∧ H[a]? = some cell ∧ cell.vm.isStatics = true ∧ cell.cls = c ∧ f.slot < cell.slots.size ∧ k.staticTypes[f.slot]? = some f.type ∧ ¬ A a
theorem vx_L.moved {C n d : String} {A : Nat → Prop} {u U : State} {H : Heap} (hvm : u.vm.Alike U.vm) (h : vx_L C n d A u H) : vx_L C n d A U H := by
  obtain ⟨c, k, i, f, a, cell, h1, h2, h3, h4, h5, h6, h7, h8, h9, h10⟩ := h
  obtain ⟨k', hi', he⟩ := State.fieldFound?_setVm hvm h2
  exact ⟨c, k', i, f, a, cell, by rw [hvm.findClass]; exact h1, hi', h3, by rw [he]; exact h4, h5, h6, h7, h8, by rw [he]; exact h9, h10⟩
theorem vx_L.kept {C n d : String} {A : Nat → Prop} {U : State} {H H1 : Heap} (h : vx_L C n d A U H) (hq : ∀ a : Nat, a < H.size → ¬ A a → H1[a]? = H[a]?) : vx_L C n d A U H1 := by
  obtain ⟨c, k, i, f, a, cell, h1, h2, h3, h4, h5, h6, h7, h8, h9, h10⟩ := h
  exact ⟨c, k, i, f, a, cell, h1, h2, h3, h4, by rw [hq a (Array.getElem?_eq_some_iff.mp h5).1 h10]; exact h5, h6, h7, h8, h9, h10⟩
theorem vx_L.narrow {C n d : String} {A B : Nat → Prop} {U : State} {H : Heap} (h : vx_L C n d A U H) (hAB : ∀ q, B q → A q) : vx_L C n d B U H := by
  obtain ⟨c, k, i, f, a, cell, h1, h2, h3, h4, h5, h6, h7, h8, h9, h10⟩ := h
  exact ⟨c, k, i, f, a, cell, h1, h2, h3, h4, h5, h6, h7, h8, h9, fun z => h10 (hAB _ z)⟩
theorem vx_L.word {C n d : String} {A : Nat → Prop} {s : State} {args : Array Value} (h : vx_L C n d A s s.heap) : (Cond.laysStatic C n d).before args s = true := by
  obtain ⟨c, k, i, f, a, cell, h1, h2, h3, h4, h5, h6, h7, h8, h9, -⟩ := h
  show (Cond.laysStatic C n d).holds args s none s [] = true
  exact Cond.laysStatic_of h1 h2 h3 h4 h5 h6 h7 h8 h9
/-- .. and what it holds: null or some reference -/
def vx_Zq (C n d : String) (A : Nat → Prop) (U : State) (H : Heap) : Prop := va_Zq C n d A U H ∧ vx_L C n d A U H
theorem vx_Zq.moved {C n d : String} {A : Nat → Prop} {u U : State} {H : Heap} (hvm : u.vm.Alike U.vm) (h : vx_Zq C n d A u H) : vx_Zq C n d A U H := ⟨va_Zq.moved hvm h.1, vx_L.moved hvm h.2⟩
theorem vx_Zq.kept {C n d : String} {A : Nat → Prop} {U : State} {H H1 : Heap} (h : vx_Zq C n d A U H) (hq : ∀ a : Nat, a < H.size → ¬ A a → H1[a]? = H[a]?) : vx_Zq C n d A U H1 := ⟨va_Zq.kept h.1 hq, vx_L.kept h.2 hq⟩
theorem vx_Zq.narrow {C n d : String} {A B : Nat → Prop} {U : State} {H : Heap} (h : vx_Zq C n d A U H) (hAB : ∀ q, B q → A q) : vx_Zq C n d B U H := ⟨va_Zq.narrow h.1 hAB, vx_L.narrow h.2 hAB⟩
theorem vx_Zqof {args : Array Value} {s : State} {C n d : String} {A : Nat → Prop} (hl : (Cond.laysStatic C n d).before args s = true) (hini : (Cond.initialized C).before args s = true) (h : (Cond.isRef (.static C n d)).before args s = true) (hA : ∀ a : Nat, a < s.heap.size → ¬ A a) : vx_Zq C n d A s s.heap := by
  refine ⟨va_Zqof hl hini h hA, ?_⟩
  obtain ⟨c, k, i, f, a, cell, h1, h2, h3, h4, h5, h6, h7, h8, h9⟩ := Cond.laysStatic_spec hl
  exact ⟨c, k, i, f, a, cell, h1, h2, h3, h4, h5, h6, h7, h8, h9, hA a (Array.getElem?_eq_some_iff.mp h5).1⟩
theorem vx_isRef {C n d : String} {v : Value} {A : Nat → Prop} {s : State} {args : Array Value} (h : va_Z C n d v A s s.heap) (hv : v.isRef = true) : (Cond.isRef (.static C n d)).before args s = true := by
  obtain ⟨cf, kf, fi, f, a, cell, h1, h2, h3, h4, h5, h6, h7, -⟩ := h
  have he : (Term.static C n d).eval args s none [] s = some v := by
    simp [Term.eval, State.fieldNamed?, h1, h2, h4, h5, h6, h7]
  simp only [Cond.before, Cond.holds, Cond.value, he]
  cases v <;> simp_all [Value.isRef]
theorem vx_isRefq {C n d : String} {A : Nat → Prop} {s : State} {args : Array Value} (h : va_Zq C n d A s s.heap) : (Cond.isRef (.static C n d)).before args s = true := by
  rcases h with h | ⟨t, h⟩
  · exact vx_isRef h rfl
  · exact vx_isRef h rfl
/-- the same frame, seen from here: as if the method were called anew in this heap -/
theorem vx_rebase {T : State} (X : Stand p l e R s m args below meth c T locs cells slots) {R' : Room} (hf : R'.frames ≤ R.frames) (hl : R'.locals ≤ R.locals) (hc : cells + R'.cells ≤ R.cells) (hs : slots + R'.slots ≤ R.slots) :
    Stand p l e R' ((T.setVm s.vm).setFrames (.invoking m args :: below)) m args below meth c T [] 0 0 := by
  have htop : (T.setVm s.vm).topJava?.isSome := X.here.top
  have hF : ((T.setVm s.vm).setFrames (.invoking m args :: below)).frames = .invoking m args :: below := State.frames_setFrames _ (State.cur_lt_of_top htop)
  obtain ⟨g₀, hg0⟩ := Option.isSome_iff_exists.mp htop
  obtain ⟨r, hr⟩ := State.topJava?_eq_some.mp hg0
  have hl9 : e.platform.stackLimits (T.setVm s.vm).me = e.platform.stackLimits s.me := X.limits
  have hb9 : (T.setVm s.vm).me.stackBytes = s.me.stackBytes := X.bytes
  refine ⟨X.admits, X.cas, X.clock, hF, ?_, X.hears, X.method, X.code, X.here, X.tail, X.warmed, ?_, ?_, ?_⟩
  · have h := X.room
    have hU : ((T.setVm s.vm).setFrames (.invoking m args :: below)).localsInUse = s.localsInUse := by
      rw [State.localsInUse_invoking hF (meth := meth) (c := c) X.method X.code, State.localsInUse_invoking X.frames X.method X.code]
    simp only [State.hasRoom, Bool.and_eq_true, decide_eq_true_eq] at h ⊢
    obtain ⟨⟨⟨⟨h1, h2, h3, h4, h5, h6⟩, h7⟩, h8⟩, h9⟩ := h
    rw [X.frames, List.length_cons] at h2 h3
    have q1 := X.heapSize
    have q2 := X.used
    simp only [hF, hU, List.length_cons, State.stackLimits_setFrames, State.stackBytes_setFrames, hl9, hb9]
    refine ⟨⟨⟨⟨by omega, by omega, by omega, by omega, by omega, h6⟩, ?_⟩, ?_⟩, X.book⟩
    · show T.heap.size + R'.cells ≤ e.platform.maxCells
      omega
    · show T.slotsUsed + R'.slots ≤ e.platform.maxSlots
      omega
  · rw [State.stackLimits_setFrames]; rfl
  · rw [State.stackBytes_setFrames]; rfl
  · refine ⟨?_, Nat.le_refl _, Nat.le_refl _, ?_, ?_, fun a c9 h9 => ⟨c9, h9, rfl, rfl, fun _ _ => rfl⟩⟩
    · obtain ⟨t, ht, -⟩ := State.frames_cons hr
      show T.setVm s.vm = { ((T.setVm s.vm).setFrames (.invoking m args :: below)).setFrames (T.setVm s.vm).frames with heap := T.heap, slotsUsed := T.slotsUsed }
      rw [State.setFrames_setFrames, State.setFrames_self ht]
      rfl
    · show T.slotsUsed = T.slotsUsed + ((T.heap.toList.drop T.heap.size).map (·.slots.size)).sum
      rw [List.drop_eq_nil_of_le (Nat.le_of_eq Array.length_toList)]
      rfl
    · show ((T.heap.toList.drop T.heap.size).map (·.slots.size)).sum ≤ 0
      rw [List.drop_eq_nil_of_le (Nat.le_of_eq Array.length_toList)]
      exact Nat.le_refl _
/-- 'throw new E()': new; dup; invokespecial; athrow -/
theorem vx_throw0 {cc : ByteArray} {pc : Nat} (hexec : p.tables.exec = Jvm.exec) (hb : c.code = cc) (hl : l.stackTraces = false) {own cls : String} {names : List String} {ik ic mc ms : Nat} {A : Nat → Prop}
    (hown : s.vm.findClass own = some m.cls) (hcls : Bundle.fit cls = true) (hnames : ∀ n ∈ names, Bundle.fit n = true)
    (hk : (Cond.classLink own ik cls).before args s = true) (hini : (Cond.initialized cls).before args s = true) (hat : ∀ w ∈ vx_at0 own ic cls names, w.before args s = true)
    (hgood : ∀ w ∈ Cond.classLink own ik cls :: Cond.initialized cls :: vx_at0 own ic cls names, vx_ot w = true)
    (hU : vx_Zq Bundle.tN "UNASSIGNED_STACK" Bundle.steD A s s.heap) (hN : vx_Zq Bundle.tN "SUPPRESSED_SENTINEL" Bundle.listD A s s.heap) (hS : va_S A s.heap H locs) (hsize : ls.size = c.maxLocals)
    (d0 : decode cc pc = .ok (.new ik, 3)) (d3 : decode cc (pc + 3) = .ok (.dup, 1)) (d4 : decode cc (pc + 4) = .ok (.invokespecial ic, 3)) (d7 : decode cc (pc + 7) = .ok (.athrow, 1))
    (hout : ∀ x ∈ c.exceptionTable.toList, covers x (pc + 7) = false)
    (hRframes : names.length + 3 < R.frames) (hRlocals : (rest.map fun v => v.category).sum + (13 * (names.length + 1) + 42) ≤ R.locals) (hRcells : cells + 1 ≤ R.cells) (hRslots : slots + 6 ≤ R.slots) (hlocks : meth.locks = false)
    (hx : ∀ t : State, s.vm.Alike t.vm → H.size ≤ t.heap.size → (∀ q : Nat, q < H.size → t.heap[q]? = H[q]?) → XC cls s t)
    (hf : ∀ z ∈ locs, free z.base) (hc : cells + 1 ≤ mc) (hs : slots + 6 ≤ ms) :
    W p l e R s m args below meth c H locs cells slots (vx_MQ below Qc XC args s mc ms free) (F0 m pc ls rest) := by
  intro T hT X
  have htr : e.platform.stackTraces = false := (show e.platform.stackTraces = l.stackTraces by rw [X.admits.platform]).trans hl
  have Y := vx_rebase X (R' := { frames := R.frames, locals := R.locals, cells := 1, slots := 6 }) (Nat.le_refl _) (Nat.le_refl _) hRcells hRslots
  obtain ⟨s', hA⟩ : ∃ z, z = (T.setVm s.vm).setFrames (.invoking m args :: below) := ⟨_, rfl⟩
  rw [← hA] at Y
  have hvm : s'.vm = s.vm := by rw [hA]; rfl
  have hhp : s'.heap = H := by rw [hA]; exact hT
  have hW0 : s.WarmedH s'.vm := by rw [hvm]; exact State.WarmedH.refl s
  have hat' : ∀ w ∈ vx_at0 own ic cls names, w.before args s' = true := fun w hw => vx_ot_at hW0 hvm.symm (hgood w (List.mem_cons_of_mem _ (List.mem_cons_of_mem _ hw))) (hat w hw)
  have hk' : (Cond.classLink own ik cls).before args s' = true := vx_ot_at hW0 hvm.symm (hgood _ List.mem_cons_self) hk
  have hini' : (Cond.initialized cls).before args s' = true := vx_ot_at hW0 hvm.symm (hgood _ (List.mem_cons_of_mem _ List.mem_cons_self)) hini
  have hU' : vx_Zq Bundle.tN "UNASSIGNED_STACK" Bundle.steD A s' s'.heap := by rw [hhp]; exact vx_Zq.moved hW0.alike (hU.kept hS.2.1)
  have hN' : vx_Zq Bundle.tN "SUPPRESSED_SENTINEL" Bundle.listD A s' s'.heap := by rw [hhp]; exact vx_Zq.moved hW0.alike (hN.kept hS.2.1)
  have h : ∀ w ∈ Bundle.ownAtoms0 own ic cls names, w.before args s' = true := vx_own hat' (vx_isRefq hU'.1) (vx_isRefq hN'.1) hU'.2.word hN'.2.word
  have hown' : s'.vm.findClass own = some m.cls := by rw [hvm]; exact hown
  have hins : (Cond.instantiable cls 6).before args s' = true := h _ (by simp [Bundle.ownAtoms0])
  obtain ⟨vm₁, cX, kX, hfX, hkX, -, -, X₁, st1⟩ := Y.newCold hexec (own := own) (C := cls) (index := ik) (n := 6) hown' hk' hins hini'
    (g := F0 m pc ls rest) rfl (by rw [hb]; exact d0) (Nat.le_refl _) (Nat.le_refl _)
  generalize hT1 : (T.setVm vm₁).pushCell { cls := cX, slots := kX.instanceTypes.map defaultValue, vm := .none } = T1 at X₁ st1
  have hcat : (Value.ref T.heap.size).category = 1 := rfl
  have hcellA : T1.heap[T.heap.size]? = some (freshCell cX kX) := by rw [← hT1]; exact State.heap_pushCell_size _ _
  have d3' : decode c.code (pc + 3) = .ok (.dup, 1) := by rw [hb]; exact d3
  obtain ⟨U, hsteps, hrun, hend, hW, hsame, ce, hce, hO⟩ := X₁.ctorThrow0 hexec htr (own := own) (cls := cls) (names := names) (ic := ic) hown' hcls hnames h (fun x hx => nomatch hx) hfX hkX hcellA (by rw [hhp, hT]; exact Nat.le_refl _)
    (g := { method := m, pc := pc + 4, locals := ls, stack := .ref T.heap.size :: .ref T.heap.size :: rest, locked := none }) rfl hsize rfl rfl (rest := rest) rfl
    (by rw [hb]; exact d4) (by rw [hb]; exact d7) hout hRframes (by simp only [List.map_cons, List.sum_cons, hcat]; omega) hlocks
  obtain ⟨f1, f2⟩ := vx_frame hsame
  rw [hhp] at f1 f2
  have hWs : s.WarmedH U.vm := State.WarmedH.trans hW0 hW
  have hcl : s.vm.findClass cls = some ce.cls := by
    have h9 := hO.cls
    rw [hvm] at h9
    exact h9
  have hall : s.sameButNew ({ U with vm := s.vm } : State) locs mc ms := by
    subst hA
    obtain ⟨e1, e2⟩ := hsame
    rw [State.setFrames_setFrames] at e1
    have h2 : (T.setVm s.vm).sameButNew ({ U with vm := s.vm } : State) [] (0 + 1) (0 + 6) := ⟨e1, e2⟩
    have h3 := X.same.trans h2
    rw [List.append_nil] at h3
    exact h3.mono hc hs
  refine ⟨U, ?_, .threw T.heap.size, hrun, hend, Or.inr ⟨T.heap.size, rfl, cls, ce, locs, hx U hWs.alike f1 (fun q hq => f2 q hq (fun z hz => nomatch hz)), hce, hO.vm, hcl, hWs, hall, hf⟩⟩
  refine st1 _ ?_
  show Steps p.tables e below (T1.setTop { method := m, pc := pc + 3, locals := ls, stack := .ref T.heap.size :: rest, locked := none }) _
  jvm_step X₁.here [X₁.here.top, hexec, d3', Value.category]
  exact hsteps
/-- 'throw new E("text")': new; dup; ldc; invokespecial; athrow -/
theorem vx_throwS {cc : ByteArray} {pc : Nat} (hexec : p.tables.exec = Jvm.exec) (hb : c.code = cc) (hl : l.stackTraces = false) {own cls text : String} {names : List String} {ik is ic mc ms sa : Nat} {A : Nat → Prop}
    (hown : s.vm.findClass own = some m.cls) (hcls : Bundle.fit cls = true) (hnames : ∀ n ∈ names, Bundle.fit n = true)
    (hk : (Cond.classLink own ik cls).before args s = true) (hini : (Cond.initialized cls).before args s = true) (hstr : vk_R own is text sa s) (hat : ∀ w ∈ vx_atS own ic cls names, w.before args s = true)
    (hgood : ∀ w ∈ Cond.classLink own ik cls :: Cond.initialized cls :: vx_atS own ic cls names, vx_ot w = true)
    (hU : vx_Zq Bundle.tN "UNASSIGNED_STACK" Bundle.steD A s s.heap) (hN : vx_Zq Bundle.tN "SUPPRESSED_SENTINEL" Bundle.listD A s s.heap) (hS : va_S A s.heap H locs) (hsize : ls.size = c.maxLocals)
    (d0 : decode cc pc = .ok (.new ik, 3)) (d3 : decode cc (pc + 3) = .ok (.dup, 1)) (d4 : decode cc (pc + 4) = .ok (.ldc is, 2)) (d6 : decode cc (pc + 6) = .ok (.invokespecial ic, 3)) (d9 : decode cc (pc + 9) = .ok (.athrow, 1))
    (hout : ∀ x ∈ c.exceptionTable.toList, covers x (pc + 9) = false)
    (hRframes : names.length + 3 < R.frames) (hRlocals : (rest.map fun v => v.category).sum + (13 * (names.length + 1) + 43) ≤ R.locals) (hRcells : cells + 1 ≤ R.cells) (hRslots : slots + 6 ≤ R.slots) (hlocks : meth.locks = false)
    (hx : ∀ t : State, s.vm.Alike t.vm → H.size ≤ t.heap.size → (∀ q : Nat, q < H.size → t.heap[q]? = H[q]?) → XC cls s t)
    (hf : ∀ z ∈ locs, free z.base) (hc : cells + 1 ≤ mc) (hs : slots + 6 ≤ ms) :
    W p l e R s m args below meth c H locs cells slots (vx_MQ below Qc XC args s mc ms free) (F0 m pc ls rest) := by
  intro T hT X
  have htr : e.platform.stackTraces = false := (show e.platform.stackTraces = l.stackTraces by rw [X.admits.platform]).trans hl
  have Y := vx_rebase X (R' := { frames := R.frames, locals := R.locals, cells := 1, slots := 6 }) (Nat.le_refl _) (Nat.le_refl _) hRcells hRslots
  obtain ⟨s', hA⟩ : ∃ z, z = (T.setVm s.vm).setFrames (.invoking m args :: below) := ⟨_, rfl⟩
  rw [← hA] at Y
  have hvm : s'.vm = s.vm := by rw [hA]; rfl
  have hhp : s'.heap = H := by rw [hA]; exact hT
  have hW0 : s.WarmedH s'.vm := by rw [hvm]; exact State.WarmedH.refl s
  have hat' : ∀ w ∈ vx_atS own ic cls names, w.before args s' = true := fun w hw => vx_ot_at hW0 hvm.symm (hgood w (List.mem_cons_of_mem _ (List.mem_cons_of_mem _ hw))) (hat w hw)
  have hk' : (Cond.classLink own ik cls).before args s' = true := vx_ot_at hW0 hvm.symm (hgood _ List.mem_cons_self) hk
  have hini' : (Cond.initialized cls).before args s' = true := vx_ot_at hW0 hvm.symm (hgood _ (List.mem_cons_of_mem _ List.mem_cons_self)) hini
  have hU' : vx_Zq Bundle.tN "UNASSIGNED_STACK" Bundle.steD A s' s'.heap := by rw [hhp]; exact vx_Zq.moved hW0.alike (hU.kept hS.2.1)
  have hN' : vx_Zq Bundle.tN "SUPPRESSED_SENTINEL" Bundle.listD A s' s'.heap := by rw [hhp]; exact vx_Zq.moved hW0.alike (hN.kept hS.2.1)
  have h : ∀ w ∈ Bundle.ownAtoms own ic cls names, w.before args s' = true := vx_own hat' (vx_isRefq hU'.1) (vx_isRefq hN'.1) hU'.2.word hN'.2.word
  have hown' : s'.vm.findClass own = some m.cls := by rw [hvm]; exact hown
  have hins : (Cond.instantiable cls 6).before args s' = true := h _ (by simp [Bundle.ownAtoms])
  obtain ⟨vm₁, cX, kX, hfX, hkX, -, -, X₁, st1⟩ := Y.newCold hexec (own := own) (C := cls) (index := ik) (n := 6) hown' hk' hins hini'
    (g := F0 m pc ls rest) rfl (by rw [hb]; exact d0) (Nat.le_refl _) (Nat.le_refl _)
  generalize hT1 : (T.setVm vm₁).pushCell { cls := cX, slots := kX.instanceTypes.map defaultValue, vm := .none } = T1 at X₁ st1
  have hcat : (Value.ref T.heap.size).category = 1 := rfl
  have hcellA : T1.heap[T.heap.size]? = some (freshCell cX kX) := by rw [← hT1]; exact State.heap_pushCell_size _ _
  have d3' : decode c.code (pc + 3) = .ok (.dup, 1) := by rw [hb]; exact d3
  have d4' : decode c.code (pc + 4) = .ok (.ldc is, 2) := by rw [hb]; exact d4
  have hstr' : vk_R own is text sa s' := vk_R.warm hW0 hstr
  obtain ⟨U, hsteps, hrun, hend, hW, hsame, ce, hce, hO⟩ := X₁.ctorThrowS hexec htr (own := own) (cls := cls) (names := names) (ic := ic) hown' hcls hnames h (fun x hx => nomatch hx) hfX hkX hcellA (by rw [hhp, hT]; exact Nat.le_refl _) (msg := .ref sa) rfl
    (g := { method := m, pc := pc + 6, locals := ls, stack := .ref sa :: .ref T.heap.size :: .ref T.heap.size :: rest, locked := none }) rfl hsize rfl rfl (rest := rest) rfl
    (by rw [hb]; exact d6) (by rw [hb]; exact d9) hout hRframes (by simp only [List.map_cons, List.sum_cons, hcat]; omega) hlocks
  obtain ⟨f1, f2⟩ := vx_frame hsame
  rw [hhp] at f1 f2
  have hWs : s.WarmedH U.vm := State.WarmedH.trans hW0 hW
  have hcl : s.vm.findClass cls = some ce.cls := by
    have h9 := hO.cls
    rw [hvm] at h9
    exact h9
  have hall : s.sameButNew ({ U with vm := s.vm } : State) locs mc ms := by
    subst hA
    obtain ⟨e1, e2⟩ := hsame
    rw [State.setFrames_setFrames] at e1
    have h2 : (T.setVm s.vm).sameButNew ({ U with vm := s.vm } : State) [] (0 + 1) (0 + 6) := ⟨e1, e2⟩
    have h3 := X.same.trans h2
    rw [List.append_nil] at h3
    exact h3.mono hc hs
  refine ⟨U, ?_, .threw T.heap.size, hrun, hend, Or.inr ⟨T.heap.size, rfl, cls, ce, locs, hx U hWs.alike f1 (fun q hq => f2 q hq (fun z hz => nomatch hz)), hce, hO.vm, hcl, hWs, hall, hf⟩⟩
  refine st1 _ ?_
  show Steps p.tables e below (T1.setTop { method := m, pc := pc + 3, locals := ls, stack := .ref T.heap.size :: rest, locked := none }) _
  jvm_step X₁.here [X₁.here.top, hexec, d3', Value.category]
  exact X₁.ldcString hexec (own := own) (text := text) (index := is) (a := sa) hown' hstr'.1 hstr'.2
    (g := { method := m, pc := pc + 4, locals := ls, stack := .ref T.heap.size :: .ref T.heap.size :: rest, locked := none }) rfl d4' _ hsteps
/-- 'throw new E("text")', the text by a wide index -/
theorem vx_throwSW {cc : ByteArray} {pc : Nat} (hexec : p.tables.exec = Jvm.exec) (hb : c.code = cc) (hl : l.stackTraces = false) {own cls text : String} {names : List String} {ik is ic mc ms sa : Nat} {A : Nat → Prop}
    (hown : s.vm.findClass own = some m.cls) (hcls : Bundle.fit cls = true) (hnames : ∀ n ∈ names, Bundle.fit n = true)
    (hk : (Cond.classLink own ik cls).before args s = true) (hini : (Cond.initialized cls).before args s = true) (hstr : vk_R own is text sa s) (hat : ∀ w ∈ vx_atS own ic cls names, w.before args s = true)
    (hgood : ∀ w ∈ Cond.classLink own ik cls :: Cond.initialized cls :: vx_atS own ic cls names, vx_ot w = true)
    (hU : vx_Zq Bundle.tN "UNASSIGNED_STACK" Bundle.steD A s s.heap) (hN : vx_Zq Bundle.tN "SUPPRESSED_SENTINEL" Bundle.listD A s s.heap) (hS : va_S A s.heap H locs) (hsize : ls.size = c.maxLocals)
    (d0 : decode cc pc = .ok (.new ik, 3)) (d3 : decode cc (pc + 3) = .ok (.dup, 1)) (d4 : decode cc (pc + 4) = .ok (.ldc_w is, 3)) (d7 : decode cc (pc + 7) = .ok (.invokespecial ic, 3)) (d10 : decode cc (pc + 10) = .ok (.athrow, 1))
    (hout : ∀ x ∈ c.exceptionTable.toList, covers x (pc + 10) = false)
    (hRframes : names.length + 3 < R.frames) (hRlocals : (rest.map fun v => v.category).sum + (13 * (names.length + 1) + 43) ≤ R.locals) (hRcells : cells + 1 ≤ R.cells) (hRslots : slots + 6 ≤ R.slots) (hlocks : meth.locks = false)
    (hx : ∀ t : State, s.vm.Alike t.vm → H.size ≤ t.heap.size → (∀ q : Nat, q < H.size → t.heap[q]? = H[q]?) → XC cls s t)
    (hf : ∀ z ∈ locs, free z.base) (hc : cells + 1 ≤ mc) (hs : slots + 6 ≤ ms) :
    W p l e R s m args below meth c H locs cells slots (vx_MQ below Qc XC args s mc ms free) (F0 m pc ls rest) := by
  intro T hT X
  have htr : e.platform.stackTraces = false := (show e.platform.stackTraces = l.stackTraces by rw [X.admits.platform]).trans hl
  have Y := vx_rebase X (R' := { frames := R.frames, locals := R.locals, cells := 1, slots := 6 }) (Nat.le_refl _) (Nat.le_refl _) hRcells hRslots
  obtain ⟨s', hA⟩ : ∃ z, z = (T.setVm s.vm).setFrames (.invoking m args :: below) := ⟨_, rfl⟩
  rw [← hA] at Y
  have hvm : s'.vm = s.vm := by rw [hA]; rfl
  have hhp : s'.heap = H := by rw [hA]; exact hT
  have hW0 : s.WarmedH s'.vm := by rw [hvm]; exact State.WarmedH.refl s
  have hat' : ∀ w ∈ vx_atS own ic cls names, w.before args s' = true := fun w hw => vx_ot_at hW0 hvm.symm (hgood w (List.mem_cons_of_mem _ (List.mem_cons_of_mem _ hw))) (hat w hw)
  have hk' : (Cond.classLink own ik cls).before args s' = true := vx_ot_at hW0 hvm.symm (hgood _ List.mem_cons_self) hk
  have hini' : (Cond.initialized cls).before args s' = true := vx_ot_at hW0 hvm.symm (hgood _ (List.mem_cons_of_mem _ List.mem_cons_self)) hini
  have hU' : vx_Zq Bundle.tN "UNASSIGNED_STACK" Bundle.steD A s' s'.heap := by rw [hhp]; exact vx_Zq.moved hW0.alike (hU.kept hS.2.1)
  have hN' : vx_Zq Bundle.tN "SUPPRESSED_SENTINEL" Bundle.listD A s' s'.heap := by rw [hhp]; exact vx_Zq.moved hW0.alike (hN.kept hS.2.1)
  have h : ∀ w ∈ Bundle.ownAtoms own ic cls names, w.before args s' = true := vx_own hat' (vx_isRefq hU'.1) (vx_isRefq hN'.1) hU'.2.word hN'.2.word
  have hown' : s'.vm.findClass own = some m.cls := by rw [hvm]; exact hown
  have hins : (Cond.instantiable cls 6).before args s' = true := h _ (by simp [Bundle.ownAtoms])
  obtain ⟨vm₁, cX, kX, hfX, hkX, -, -, X₁, st1⟩ := Y.newCold hexec (own := own) (C := cls) (index := ik) (n := 6) hown' hk' hins hini'
    (g := F0 m pc ls rest) rfl (by rw [hb]; exact d0) (Nat.le_refl _) (Nat.le_refl _)
  generalize hT1 : (T.setVm vm₁).pushCell { cls := cX, slots := kX.instanceTypes.map defaultValue, vm := .none } = T1 at X₁ st1
  have hcat : (Value.ref T.heap.size).category = 1 := rfl
  have hcellA : T1.heap[T.heap.size]? = some (freshCell cX kX) := by rw [← hT1]; exact State.heap_pushCell_size _ _
  have d3' : decode c.code (pc + 3) = .ok (.dup, 1) := by rw [hb]; exact d3
  have d4' : decode c.code (pc + 4) = .ok (.ldc_w is, 3) := by rw [hb]; exact d4
  have hstr' : vk_R own is text sa s' := vk_R.warm hW0 hstr
  obtain ⟨U, hsteps, hrun, hend, hW, hsame, ce, hce, hO⟩ := X₁.ctorThrowS hexec htr (own := own) (cls := cls) (names := names) (ic := ic) hown' hcls hnames h (fun x hx => nomatch hx) hfX hkX hcellA (by rw [hhp, hT]; exact Nat.le_refl _) (msg := .ref sa) rfl
    (g := { method := m, pc := pc + 7, locals := ls, stack := .ref sa :: .ref T.heap.size :: .ref T.heap.size :: rest, locked := none }) rfl hsize rfl rfl (rest := rest) rfl
    (by rw [hb]; exact d7) (by rw [hb]; exact d10) hout hRframes (by simp only [List.map_cons, List.sum_cons, hcat]; omega) hlocks
  obtain ⟨f1, f2⟩ := vx_frame hsame
  rw [hhp] at f1 f2
  have hWs : s.WarmedH U.vm := State.WarmedH.trans hW0 hW
  have hcl : s.vm.findClass cls = some ce.cls := by
    have h9 := hO.cls
    rw [hvm] at h9
    exact h9
  have hall : s.sameButNew ({ U with vm := s.vm } : State) locs mc ms := by
    subst hA
    obtain ⟨e1, e2⟩ := hsame
    rw [State.setFrames_setFrames] at e1
    have h2 : (T.setVm s.vm).sameButNew ({ U with vm := s.vm } : State) [] (0 + 1) (0 + 6) := ⟨e1, e2⟩
    have h3 := X.same.trans h2
    rw [List.append_nil] at h3
    exact h3.mono hc hs
  refine ⟨U, ?_, .threw T.heap.size, hrun, hend, Or.inr ⟨T.heap.size, rfl, cls, ce, locs, hx U hWs.alike f1 (fun q hq => f2 q hq (fun z hz => nomatch hz)), hce, hO.vm, hcl, hWs, hall, hf⟩⟩
  refine st1 _ ?_
  show Steps p.tables e below (T1.setTop { method := m, pc := pc + 3, locals := ls, stack := .ref T.heap.size :: rest, locked := none }) _
  jvm_step X₁.here [X₁.here.top, hexec, d3', Value.category]
  exact X₁.ldcStringW hexec (own := own) (text := text) (index := is) (a := sa) hown' hstr'.1 hstr'.2
    (g := { method := m, pc := pc + 4, locals := ls, stack := .ref T.heap.size :: .ref T.heap.size :: rest, locked := none }) rfl d4' _ hsteps
end Ends
section Bodies
variable {l : Launch}
theorem vx_ofW {y : MethodName} {ws ws' : List Cond} {rm : Room} {Pc : Array Value → State → Prop} {Qc : Array Value → State → Outcome → State → Prop} {XC : String → State → State → Prop} {mc ms : Nat} {free : Addr → Prop} {cc : ByteArray} {maxL : Nat} {ret : Option FieldType}
    (hy : plainName y.cls = true) (hw : ws = Cond.code y cc maxL ret :: ws')
    (body : ∀ p e s m args below meth c s₁, BodyLoose p l y (headSpec ws rm) cc maxL ret e s m args below meth c s₁ → c.maxLocals = maxL → (∀ x ∈ c.exceptionTable.toList, False) → Pc args s →
      W p l e (headSpec ws rm).room s m args below meth c s.heap [] 0 0 (vx_MQ below Qc XC args s mc ms free) (entryFrame m args maxL)) : vx_Met l y ws rm Pc Qc XC mc ms free := by
  refine MetFree.of_bodyS (code := cc) (maxLocals := maxL) (ret := ret) hy ?_ ?_
  · intro args s m h hn
    obtain ⟨meth, c, h1, h2, h3, h4, h5, h6, -, -⟩ := Cond.code_spec hn (atoms_spec (ws := ws) h _ (by rw [hw]; exact List.mem_cons_self))
    exact ⟨meth, c, h1, h2, h3, h4, h5, h6⟩
  · intro p e s m args below meth c s₁ B hml hP _
    have hh0 : s₁.heap = s.heap := by rw [B.state]; rfl
    have ht : ∀ x ∈ c.exceptionTable.toList, False := by
      obtain ⟨meth9, c9, h1, h2, -, -, -, -, h7, -⟩ := Cond.code_spec B.named (atoms_spec (ws := ws) B.pre _ (by rw [hw]; exact List.mem_cons_self))
      cases Option.some.inj (h1.symm.trans B.method)
      cases Option.some.inj (h2.symm.trans (Stand.of_body B).code)
      intro x hx
      rw [Array.isEmpty_iff.mp h7] at hx
      cases hx
    obtain ⟨t, a1, o, b1, b2, b3⟩ := body p e s m args below meth c s₁ B hml ht hP s₁ hh0 (Stand.of_body B)
    exact ⟨t, o, a1, b1, b2, b3⟩
/-- the table of a body with handlers -/
theorem vx_table {p : Program} {x y : MethodName} {S : Spec} {cc bytes : ByteArray} {maxL maxL' : Nat} {ret ret' : Option FieldType} {e : Env} {s s₁ : State} {m : MethodId} {args : Array Value} {below : List Frame} {meth : Method} {c : Code} {hh : List (Nat × Nat × Nat × Nat)}
    (B : BodyLoose p l y S cc maxL ret e s m args below meth c s₁) (h : (Cond.codeWith y bytes maxL' ret' hh).before args s = true) : c.exceptionTable.toList = tableOf hh := by
  obtain ⟨m9, meth9, c9, hn9, h1, h2, -, -, h6, -⟩ := Cond.codeWith_spec h
  cases Option.some.inj (hn9.symm.trans B.named)
  cases Option.some.inj (h1.symm.trans B.method)
  cases Option.some.inj (h2.symm.trans (Stand.of_body B).code)
  rw [← h6, table_eq]
end Bodies
end VXA
/-! ===== END ===== -/
/-! ===== BEGIN a static call of a method with an exception table ===== -/
section VXS
variable {p : Program} {l : Launch} {e : Env} {R : Room} {s : State} {m : MethodId} {args : Array Value} {below : List Frame} {meth : Method} {c : Code} {T : State} {H : Heap} {locs : List Loc} {cells slots : Nat}
abbrev vx_CSW (R : Room) (s : State) (args : Array Value) (own : String) (index : Nat) (y : MethodName) (bytes : ByteArray) (maxL : Nat) (ret : Option FieldType) (hh : List (Nat × Nat × Nat × Nat)) (ws : List Cond) (rm : Room) (mc ms n : Nat) : Prop :=
  (rm.cells = mc ∧ rm.slots = ms ∧ rm.frames + 1 ≤ R.frames ∧ 8 + (maxL + 11) + rm.locals ≤ R.locals ∧ (∀ w ∈ ws, ∀ (a' : Array Value) (U : State), s.WarmedH U.vm → w.before a' U = true) ∧ Cond.codeWith y bytes maxL ret hh ∈ ws) ∧
  (Cond.codeWith y bytes maxL ret hh).before args s = true ∧ (Cond.initialized y.cls).before args s = true ∧ (y.cls ≠ "java/lang/invoke/MethodHandle" ∧ y.cls ≠ "java/lang/invoke/VarHandle") ∧
  (∀ sig, parseMethodDescriptor y.desc = some sig → n = sig.parameters.length) ∧ (Cond.methodLink own index y).before args s = true ∧ (Cond.static y).before args s = true
theorem vx_cwSW {own : String} {index maxL mc ms : Nat} {y : MethodName} {bytes : ByteArray} {ret : Option FieldType} {hh : List (Nat × Nat × Nat × Nat)} {Ts ws ws' : List Cond} {rm : Room} (n : Nat) (ht : ∀ w ∈ Ts, w.before args s = true) (hT : GoodIn Ts (va_wsS own index y ws)) (hw : ws = Cond.codeWith y bytes maxL ret hh :: ws') (hrc : rm.cells = mc) (hrs : rm.slots = ms)
    (hd : y.cls ≠ "java/lang/invoke/MethodHandle" ∧ y.cls ≠ "java/lang/invoke/VarHandle" ∧ (parseMethodDescriptor y.desc).map (fun d => d.parameters.length) = some n) (hR : rm.frames + 1 ≤ R.frames ∧ 8 + (maxL + 11) + rm.locals ≤ R.locals) :
    vx_CSW R s args own index y bytes maxL ret hh ws rm mc ms n := by
  have ok : ∀ w ∈ va_wsS own index y ws, w.before args s = true := fun w h => ht w (hT w h).1
  have hG : GoodIn Ts ws := fun w h => hT w (by unfold va_wsS; exact List.mem_append_right _ h)
  have hc : Cond.codeWith y bytes maxL ret hh ∈ ws := by rw [hw]; exact List.mem_cons_self
  refine ⟨⟨hrc, hrs, hR.1, hR.2, pay_in ht hG, hc⟩, ht _ (hG _ hc).1, ok _ (by simp [va_wsS]), ⟨hd.1, hd.2.1⟩, fun sig h => ?_, ok _ (by simp [va_wsS]), ok _ (by simp [va_wsS])⟩
  have h2 := hd.2.2
  rw [h] at h2
  exact (Option.some.inj h2).symm
theorem vx_callSW (X : Stand p l e R s m args below meth c T locs cells slots) (hexec : p.tables.exec = Jvm.exec) {own : String} {index : Nat} {y : MethodName} {bytes : ByteArray} {maxL : Nat} {ret : Option FieldType} {hh : List (Nat × Nat × Nat × Nat)}
    (hown : s.vm.findClass own = some m.cls) (hlink : (Cond.methodLink own index y).before args s = true) (hstat : (Cond.static y).before args s = true) (hinit : (Cond.initialized y.cls).before args s = true)
    (hcode : (Cond.codeWith y bytes maxL ret hh).before args s = true) (hy : y.cls ≠ "java/lang/invoke/MethodHandle" ∧ y.cls ≠ "java/lang/invoke/VarHandle")
    {W9 : Nat} {Pre : Pt → Array Value → Prop} {Post : Pt → Array Value → Option Value → Pt → Prop} (hK : Back l R p e below s args y 3 W9 Pre Post)
    {g : JFrame} (hg : g.method = m) (hsize : g.locals.size = c.maxLocals) {argsL rest : List Value} (hlen : ∀ sig, parseMethodDescriptor y.desc = some sig → argsL.length = sig.parameters.length)
    (hstack : g.stack = argsL.reverse ++ rest) (hW : 2 * g.monitorRoom + (rest.map fun v => v.category).sum ≤ W9) (hdg : decode c.code g.pc = .ok (.invokestatic index, 3))
    (hpre : ∀ vm₁, s.WarmedH vm₁ → Pre ⟨T.setVm vm₁, locs, cells, slots⟩ argsL.toArray) :
    ∃ (v : Option Value) (vm₁ : Vm) (B : Pt), s.WarmedH vm₁ ∧ Stand p l e R s m args below meth c B.U B.locs B.cells B.slots ∧ Post ⟨T.setVm vm₁, locs, cells, slots⟩ argsL.toArray v B ∧
      ∀ target, Steps p.tables e below (B.U.setTop { g with pc := g.pc + 3, stack := v.toList ++ rest }) target → Steps p.tables e below (T.setTop g) target := by
  obtain ⟨mk, methM, cM, hnamed, hmethM, -, -, -, -, -, -, hsigM⟩ := Cond.codeWith_spec hcode
  have hstatic : methM.isStatic = true := Cond.static_spec hnamed hmethM hstat
  obtain ⟨kP, hkP, -⟩ := className_of_methodNamed hnamed
  have hinitP : kP.init = .initialized := Cond.initialized_spec (findClass_of_methodNamed hnamed) hkP hinit
  obtain ⟨vm₁, X₁, hstep₁⟩ := X.invokestatic hexec hown hlink hnamed hmethM hstatic hkP hinitP hy (g := g) hg (argsL := argsL) (rest := rest) (hlen _ hsigM) hstack hdg
  obtain ⟨v, B, X', hpost, hsteps⟩ := hK m meth c ⟨T.setVm vm₁, locs, cells, slots⟩ { g with stack := rest } (.invokestatic index) mk argsL.toArray X₁ hg hsize hdg hW (X₁.named hnamed) (hpre vm₁ X₁.warmed)
  exact ⟨v, vm₁, B, X₁.warmed, X', hpost, fun target h => hstep₁ _ fun acts => by rw [doInvoke_state]; exact hsteps.trans h⟩
theorem vx_runSW {y : MethodName} {bytes cc : ByteArray} {maxL nL mc ms n index : Nat} {ret : Option FieldType} {hh : List (Nat × Nat × Nat × Nat)} {ws : List Cond} {rm : Room} {Pc : Array Value → State → Prop} {Qc : Array Value → State → Outcome → State → Prop} {free : Addr → Prop} {Ts : List Cond} {own : String} {As rest : List Value} {g : JFrame}
    (S : CallFix p m c cc nL s args Ts own) (hM : Met l y ws rm Pc Qc mc ms free) (cw : vx_CSW R s args own index y bytes maxL ret hh ws rm mc ms n) (hp : PreS s H Pc As)
    (hg : g.method = m) (hn : As.length = n) (hsize : g.locals.size = nL) (hstack : g.stack = As.reverse ++ rest) (hW : 2 * g.monitorRoom + (rest.map fun v => v.category).sum ≤ 8) (hdg : decode cc g.pc = .ok (.invokestatic index, 3)) (hf : cells + mc ≤ R.cells ∧ slots + ms ≤ R.slots) :
    va_Run p l e R s m args below meth c H locs cells slots mc ms g rest (Qc As.toArray) (free) := by
  obtain ⟨⟨hrc, hrs, hfr, hlo, hws, hcw⟩, hcode, hini, hy, hlen, hl, hstt⟩ := cw
  have hK : Back l R p e below s args y 3 8 (PreOf R mc ms Pc) (PostOf Qc mc ms free) := va_backW (hh := hh) (bytes := bytes) (maxL := maxL) (ret := ret) hM hp.1 hrc hrs hfr hlo hws hcw (fun a' U hW => word_at hW (Or.inl (by first | rfl | simp [Cond.onTables, Cond.keeps, Cond.steady])) hini)
  obtain ⟨hx, hb, hml, ho, -⟩ := S
  intro T hT X
  obtain ⟨v, vm₁, ⟨U', l2, c2, s2⟩, hW₁, X', ⟨g', mk, t, L, e1, e2, hq, h1, hL, h2, h3⟩, st⟩ := vx_callSW X hx (hh := hh) (bytes := bytes) (maxL := maxL) (ret := ret) ho hl hstt hini hcode hy hK hg (hsize.trans hml.symm) (argsL := As) (rest := rest) (fun sig h => hn.trans (hlen sig h)) hstack hW (by rw [hb]; exact hdg)
    (fun vm₁ hW₁ => ⟨hf.1, hf.2, hp.2 (T.setVm vm₁) hT hW₁⟩)
  dsimp only [Pt.U, Pt.locs, Pt.cells, Pt.slots] at X' e1 e2 h1 h2 h3 st
  subst h1; subst h2; subst h3
  exact ⟨v, (T.setVm vm₁).calling g' mk As.toArray, t, U', L, hT, X', hL, e1, e2, hq, st⟩
/-- not caught here, past rows that name other classes: it goes on to the caller -/
theorem vx_outP {p : Program} {l : Launch} {e : Env} {R : Room} {s : State} {m : MethodId} {args : Array Value} {below : List Frame} {meth : Method} {c : Code} {H : Heap} {locs : List Loc} {cells slots : Nat} {free : Addr → Prop} {ls : Array Slot} {rest : List Value} {Qc : Array Value → State → Outcome → State → Prop} {XC : String → State → State → Prop}
    {pc : Nat} {own E : String} {ce : Cell} {q : Addr} {mc ms : Nat} (hown : s.vm.findClass own = some m.cls) (hlocks : meth.locks = false)
    (hpass : ∀ z ∈ c.exceptionTable.toList, covers z pc = false ∨ (z.catchType ≠ 0 ∧ ∃ nm : String, (Cond.classLink own z.catchType nm).before args s = true ∧ va_Nc E nm s)) (hcell : H[q]? = some ce) (hv : ce.vm = .none) (hcl : s.vm.findClass E = some ce.cls)
    (hx : ∀ t : State, t.heap = H → s.vm.Alike t.vm → XC E s t) (hf : ∀ z ∈ locs, free z.base) (hc : cells ≤ mc) (hs : slots ≤ ms) :
    vx_W p l e R s m args below meth c H locs cells slots (vx_MQ below Qc XC args s mc ms free) (F0 m pc ls rest) q := by
  intro T hT X
  have hpl : e.platform.magicAccessors = ({} : Platform).magicAccessors := by rw [X.admits.platform]
  obtain ⟨vm', hW', X', st⟩ := X.outThrough hlocks q (g := F0 m pc ls rest) rfl rfl rfl (cell := ce) (by rw [hT]; exact hcell) (by rw [hv]; rfl)
    (by obtain ⟨k9, h9, -⟩ := Vm.findClass_spec hcl; exact ⟨k9, h9⟩) (fun z hz => by
      rcases hpass z hz with h | ⟨hz0, nm, hl1, hn1⟩
      · exact Or.inl h
      · obtain ⟨c6, hc6, hcl6⟩ := Cond.classLink_spec hown hl1 e.platform hpl
        obtain ⟨a8, b8, h1, h2, h3⟩ := hn1
        cases Option.some.inj (h1.symm.trans hcl)
        cases Option.some.inj (h2.symm.trans hc6)
        exact Or.inr ⟨hz0, _, hcl6, h3⟩)
  obtain ⟨g₀, hfr⟩ := X'.frames_eq
  have hcell9 : ((T.setVm vm').setFrames (.throwing q :: below)).heap[q]? = some ce := by
    show T.heap[q]? = some ce
    rw [hT]; exact hcell
  have hend : Ended ((T.setVm vm').setFrames (.throwing q :: below)) below (.threw q) := State.frames_setFrames _ (State.cur_lt_of_frames hfr)
  refine ⟨(T.setVm vm').setFrames (.throwing q :: below), ?_, .threw q, X'.here.running, hend, Or.inr ⟨q, rfl, E, ce, locs, hx _ hT (X'.ends _).1.alike, hcell9, hv, hcl, (X'.ends _).1, (X'.ends _).2.mono hc hs, hf⟩⟩
  rw [X.pushThrowing_eq]
  exact st
/-- a thing of a world lies in the heap -/
theorem vx_lt {D : va_G} {cl : List vw_C} {ws : va_W} {H1 : Heap} (h : va_P D cl ws H1) {k : Nat} {q : Nat × va_E} (hk : ws[k]? = some q) : q.1 < H1.size := (h k q hk).lt
end VXS
/-! ===== END ===== -/
/-! ===== BEGIN methods with a table of their own: called by a name, returning or throwing ===== -/
section VXH
/-! vx_backW, vx_callVX, vx_callSX, vx_callVW, vx_runVW, vx_runVX, vx_runSX, vx_ofWH follow the same proofs as their sisters above (Free/Laws.lean, Shelf42/LK1.lean); vx_outP calls Shelf42/NT130.lean (outThrough). -/
section
variable {l : Launch} {R : Room} {p : Program} {e : Env} {below : List Frame} {s : State} {sargs : Array Value} {y : MethodName} {len W9 : Nat}
theorem vx_backW {ws : List Cond} {rm : Room} {Pc : Array Value → State → Prop} {Qc : Array Value → State → Outcome → State → Prop} {XC : String → State → State → Prop} {mc ms : Nat} {free : Addr → Prop} {bytes : ByteArray} {maxL : Nat} {ret : Option FieldType} {hh : List (Nat × Nat × Nat × Nat)}
    (hM : vx_Met l y ws rm Pc Qc XC mc ms free) (hblind : FrameBlind Pc) (hrc : rm.cells = mc) (hrs : rm.slots = ms)
    (hframes : rm.frames + 1 ≤ R.frames) (hlocals : W9 + (maxL + 11) + rm.locals ≤ R.locals)
    (hws : ∀ w ∈ ws, ∀ a' U, s.WarmedH U.vm → w.before a' U = true) (hcode : Cond.codeWith y bytes maxL ret hh ∈ ws) (hinit : ∀ a' U, s.WarmedH U.vm → (Cond.initialized y.cls).before a' U = true) :
    vx_Back l R p e below s sargs y len W9 (PreOf R mc ms Pc) (PostOf Qc mc ms free) (vx_Post XC mc ms free) := by
  intro m meth c A g ig mk a X hg hsize hdg hW hn hp
  have h1 : (headSpec ws rm).pre.before a A.U = true := atoms_intro fun w hw => hws w hw _ _ X.warmed
  have h2 : (Cond.codeWith y bytes maxL ret hh).before a A.U = true := hws _ hcode _ _ X.warmed
  have h3 : (Cond.initialized y.cls).before a A.U = true := hinit _ _ X.warmed
  have h4 : A.cells + (headSpec ws rm).room.cells ≤ R.cells := by rw [show (headSpec ws rm).room.cells = mc from hrc]; exact hp.1
  have h5 : A.slots + (headSpec ws rm).room.slots ≤ R.slots := by rw [show (headSpec ws rm).room.slots = ms from hrs]; exact hp.2.1
  have hPc : Pc a (A.U.calling g mk a) := hblind _ _ _ _ hp.2.2
  obtain ⟨U, Ls, c0, s0⟩ := A
  dsimp only [Pt.U, Pt.locs, Pt.cells, Pt.slots] at h1 h2 h3 h4 h5 X hn hPc ⊢
  obtain ⟨m9, methY, cY, hn9, hmY, hcY, -, hlY, -⟩ := Cond.codeWith_spec h2
  cases Option.some.inj (hn9.symm.trans hn)
  obtain ⟨kY, hkY, -⟩ := className_of_methodNamed hn
  have hinitY : kY.init = .initialized := Cond.initialized_spec (findClass_of_methodNamed hn) hkY h3
  have h : At U g.method c below := by rw [hg]; exact X.here
  have hlocals9 : W9 + (maxL + 11) + (headSpec ws rm).room.locals ≤ R.locals := hlocals
  have happ : (headSpec ws rm).appliesLoose y e.platform (U.calling g mk a) = true :=
    Spec.appliesLoose_calling (g := g) h hdg hn hkY hinitY
      (X.room_calling (g := g) (R' := (headSpec ws rm).room) hsize hmY hcY hframes (by rw [hlY]; omega) h4 h5) h1
  obtain ⟨mid, hmid⟩ := h.above
  have hfr : (U.setTop g).frames = (.java g :: mid) ++ below := by rw [State.frames_setTop' g h.top, hmid]; rfl
  obtain ⟨o, s₂, hsteps, -, hend, hq⟩ := Steps.callFree hM p X.admits X.cas X.clock (acts := []) hfr happ hPc trivial
  have hq' : vx_Q Qc XC mc ms free a (U.calling g mk a) o s₂ := hq
  rw [State.frames_setTop' g h.top] at hend
  obtain ⟨g₀, hg0⟩ := Option.isSome_iff_exists.mp h.top
  obtain ⟨r, hr⟩ := State.topJava?_eq_some.mp hg0
  have hr' : (({ U with heap := s₂.heap, slotsUsed := s₂.slotsUsed } : State).setVm s₂.vm).frames = .java g₀ :: r := hr
  rcases hq' with ⟨hqc, L, hfe, hL⟩ | ⟨q, rfl, E, ce, L, hx, hce, hcv, hcl, hW₂, hsm, hL⟩
  · obtain ⟨⟨v, rfl⟩, hW₂, e2, q2, q3, q4, q5, q6⟩ := id hfe
    have e3 : s₂ = ({ (U.calling g mk a).setFrames s₂.frames with heap := s₂.heap, slotsUsed := s₂.slotsUsed } : State).setVm s₂.vm := by
      have : s₂ = ({ s₂ with vm := (U.calling g mk a).vm } : State).setVm s₂.vm := rfl
      rw [e2] at this
      exact this
    obtain ⟨c₂, i₂, len₂, hc₂, hd₂, hf₂⟩ := hend
    have hW' : U.WarmedH s₂.vm := hW₂
    have hcc : c₂ = c := by
      have h1 : s₂.code? g.method = U.code? g.method := by
        rw [State.code?_eq, State.code?_eq, hW'.alike.method?]
      exact Option.some.inj (hc₂.symm.trans (h1.trans h.code))
    subst hcc
    have hlen : len₂ = len := by rw [hdg] at hd₂; cases hd₂; rfl
    subst hlen
    have hs₂ : s₂ = (({ U with heap := s₂.heap, slotsUsed := s₂.slotsUsed } : State).setVm s₂.vm).setTop { g with pc := g.pc + len₂, stack := v.toList ++ g.stack } := by
      refine e3.trans ?_
      rw [hf₂, State.calling_eq h.top, State.setFrames_setFrames, State.setTop_of_frames _ hr', hr]
      rfl
    have hsame : U.sameButNew ({ U with heap := s₂.heap, slotsUsed := s₂.slotsUsed } : State) L mc ms := by
      refine ⟨?_, q2, q3, q4, q5, q6⟩
      obtain ⟨t, ht, -⟩ := State.frames_cons hr
      show ({ U with heap := s₂.heap, slotsUsed := s₂.slotsUsed } : State) = { U.setFrames U.frames with heap := s₂.heap, slotsUsed := s₂.slotsUsed }
      rw [State.setFrames_self ht]
    subst hg
    refine Or.inl ⟨v, ⟨(({ U with heap := s₂.heap, slotsUsed := s₂.slotsUsed } : State).setVm s₂.vm), Ls ++ L, c0 + mc, s0 + ms⟩,
      ⟨X.admits, X.cas, X.clock, X.frames, X.room, X.hears, X.method, X.code, (X.here.setHeapUsed s₂.heap s₂.slotsUsed).setVm hW'.alike, X.tail, State.WarmedH.trans X.warmed hW', X.limits, X.bytes, X.same.trans (hsame.setVm s.vm)⟩,
      ⟨g, mk, s₂, L, rfl, rfl, hqc, rfl, hL, rfl, rfl⟩, ?_⟩
    show Steps p.tables e below _ ((({ U with heap := s₂.heap, slotsUsed := s₂.slotsUsed } : State).setVm s₂.vm).setTop { g with pc := g.pc + len₂, stack := v.toList ++ g.stack })
    rw [← hs₂]
    exact hsteps
  · obtain ⟨e2, q2, q3, q4, q5, q6⟩ := id hsm
    have e3 : s₂ = ({ (U.calling g mk a).setFrames s₂.frames with heap := s₂.heap, slotsUsed := s₂.slotsUsed } : State).setVm s₂.vm := by
      have : s₂ = ({ s₂ with vm := (U.calling g mk a).vm } : State).setVm s₂.vm := rfl
      rw [e2] at this
      exact this
    have hf₂ : s₂.frames = .throwing q :: .java g :: U.frames.tail := hend
    have hW' : U.WarmedH s₂.vm := hW₂
    have hs₂ : s₂ = ((({ U with heap := s₂.heap, slotsUsed := s₂.slotsUsed } : State).setVm s₂.vm).setTop g).pushFrame (.throwing q) := by
      refine e3.trans ?_
      rw [hf₂, State.calling_eq h.top, State.setFrames_setFrames, State.pushFrame, State.frames_setTop _ hr', State.setTop_of_frames _ hr', State.setFrames_setFrames, hr]
      rfl
    have hsame : U.sameButNew ({ U with heap := s₂.heap, slotsUsed := s₂.slotsUsed } : State) L mc ms := by
      refine ⟨?_, q2, q3, q4, q5, q6⟩
      obtain ⟨t, ht, -⟩ := State.frames_cons hr
      show ({ U with heap := s₂.heap, slotsUsed := s₂.slotsUsed } : State) = { U.setFrames U.frames with heap := s₂.heap, slotsUsed := s₂.slotsUsed }
      rw [State.setFrames_self ht]
    subst hg
    refine Or.inr ⟨q, ⟨(({ U with heap := s₂.heap, slotsUsed := s₂.slotsUsed } : State).setVm s₂.vm), Ls ++ L, c0 + mc, s0 + ms⟩,
      ⟨X.admits, X.cas, X.clock, X.frames, X.room, X.hears, X.method, X.code, (X.here.setHeapUsed s₂.heap s₂.slotsUsed).setVm hW'.alike, X.tail, State.WarmedH.trans X.warmed hW', X.limits, X.bytes, X.same.trans (hsame.setVm s.vm)⟩,
      ⟨g, mk, s₂, L, E, ce, rfl, rfl, hx, hce, hcv, hcl, rfl, hL, rfl, rfl⟩, ?_⟩
    show Steps p.tables e below _ (((({ U with heap := s₂.heap, slotsUsed := s₂.slotsUsed } : State).setVm s₂.vm).setTop g).pushFrame (.throwing q))
    rw [← hs₂]
    exact hsteps
end
variable {p : Program} {l : Launch} {e : Env} {R : Room} {s : State} {m : MethodId} {args : Array Value} {below : List Frame} {meth : Method} {c : Code} {T : State} {H : Heap} {locs : List Loc} {cells slots : Nat}
theorem vx_callVX (X : Stand p l e R s m args below meth c T locs cells slots) (hexec : p.tables.exec = Jvm.exec) {own C : String} {index : Nat} {y : MethodName} {bytes : ByteArray} {maxL : Nat} {ret : Option FieldType} {hh : List (Nat × Nat × Nat × Nat)}
    (hown : s.vm.findClass own = some m.cls) (hlink : (Cond.methodLink own index y).before args s = true) (hinst : (Cond.instanceMethod y).before args s = true) (hsel : (Cond.selects C y y).before args s = true)
    (hcode : (Cond.codeWith y bytes maxL ret hh).before args s = true) (hy : y.cls ≠ "java/lang/invoke/MethodHandle" ∧ y.cls ≠ "java/lang/invoke/VarHandle")
    {W9 : Nat} {Pre : Pt → Array Value → Prop} {Post : Pt → Array Value → Option Value → Pt → Prop} {PostX : Pt → Array Value → Addr → Pt → Prop} (hK : vx_Back l R p e below s args y 3 W9 Pre Post PostX)
    {b : Addr} {cellB : Cell} (hcell : T.heap[b]? = some cellB) (hobj : cellB.vm.isStatics = false) (hcls : s.vm.findClass C = some cellB.cls)
    {g : JFrame} (hg : g.method = m) (hsize : g.locals.size = c.maxLocals) {argsL rest : List Value} (hlen : ∀ sig, parseMethodDescriptor y.desc = some sig → argsL.length = sig.parameters.length)
    (hstack : g.stack = argsL.reverse ++ .ref b :: rest) (hW : 2 * g.monitorRoom + (rest.map fun v => v.category).sum ≤ W9) (hdg : decode c.code g.pc = .ok (.invokevirtual index, 3))
    (hpre : ∀ vm₁, s.WarmedH vm₁ → Pre ⟨T.setVm vm₁, locs, cells, slots⟩ (Value.ref b :: argsL).toArray) :
    (∃ (v : Option Value) (vm₁ : Vm) (B : Pt), s.WarmedH vm₁ ∧ Stand p l e R s m args below meth c B.U B.locs B.cells B.slots ∧ Post ⟨T.setVm vm₁, locs, cells, slots⟩ (Value.ref b :: argsL).toArray v B ∧
      ∀ target, Steps p.tables e below (B.U.setTop { g with pc := g.pc + 3, stack := v.toList ++ rest }) target → Steps p.tables e below (T.setTop g) target) ∨
    (∃ (q : Addr) (vm₁ : Vm) (B : Pt), s.WarmedH vm₁ ∧ Stand p l e R s m args below meth c B.U B.locs B.cells B.slots ∧ PostX ⟨T.setVm vm₁, locs, cells, slots⟩ (Value.ref b :: argsL).toArray q B ∧
      Steps p.tables e below (T.setTop g) ((B.U.setTop { g with stack := rest }).pushFrame (.throwing q))) := by
  obtain ⟨mk, methM, hnamed, hmethM, hstM, habM⟩ := Cond.instanceMethod_spec hinst
  obtain ⟨m8, methM', cM, hn8, hmethM', -, -, -, -, -, -, hsigM⟩ := Cond.codeWith_spec hcode
  cases Option.some.inj (hn8.symm.trans hnamed)
  cases hmethM.symm.trans hmethM'
  obtain ⟨c2, r2, m2, q1, q2, q3, q4, kP, hkP, hkPi⟩ := Cond.selects_spec hsel
  cases hcls.symm.trans q1
  cases (State.methodFound?_of_named hnamed hy).symm.trans q2
  cases hnamed.symm.trans q3
  have hselP : selectMethod e.platform s.vm cellB.cls mk = .method mk := by rw [Launch.admits_selectMethod X.admits]; exact q4
  obtain ⟨vm₁, X₁, hstep₁⟩ := X.invokevirtual hexec hown hlink hnamed hmethM hstM hkP hkPi hy (a := b) (cell := cellB) hcell
    (fun z h => by rw [h] at hobj; cases hobj) hselP hmethM habM hkP hkPi (g := g) hg (argsL := argsL) (rest := rest) (hlen _ hsigM) hstack hdg
  rcases hK m meth c ⟨T.setVm vm₁, locs, cells, slots⟩ { g with stack := rest } (.invokevirtual index) mk (Value.ref b :: argsL).toArray X₁ hg hsize hdg hW (X₁.named hnamed) (hpre vm₁ X₁.warmed) with ⟨v, B, X', hpost, hsteps⟩ | ⟨q, B, X', hpost, hsteps⟩
  · exact Or.inl ⟨v, vm₁, B, X₁.warmed, X', hpost, fun target h => hstep₁ _ fun acts => by rw [doInvoke_state]; exact hsteps.trans h⟩
  · exact Or.inr ⟨q, vm₁, B, X₁.warmed, X', hpost, hstep₁ _ fun acts => by rw [doInvoke_state]; exact hsteps⟩
theorem vx_callSX (X : Stand p l e R s m args below meth c T locs cells slots) (hexec : p.tables.exec = Jvm.exec) {own : String} {index : Nat} {y : MethodName} {bytes : ByteArray} {maxL : Nat} {ret : Option FieldType} {hh : List (Nat × Nat × Nat × Nat)}
    (hown : s.vm.findClass own = some m.cls) (hlink : (Cond.methodLink own index y).before args s = true) (hstat : (Cond.static y).before args s = true) (hinit : (Cond.initialized y.cls).before args s = true)
    (hcode : (Cond.codeWith y bytes maxL ret hh).before args s = true) (hy : y.cls ≠ "java/lang/invoke/MethodHandle" ∧ y.cls ≠ "java/lang/invoke/VarHandle")
    {W9 : Nat} {Pre : Pt → Array Value → Prop} {Post : Pt → Array Value → Option Value → Pt → Prop} {PostX : Pt → Array Value → Addr → Pt → Prop} (hK : vx_Back l R p e below s args y 3 W9 Pre Post PostX)
    {g : JFrame} (hg : g.method = m) (hsize : g.locals.size = c.maxLocals) {argsL rest : List Value} (hlen : ∀ sig, parseMethodDescriptor y.desc = some sig → argsL.length = sig.parameters.length)
    (hstack : g.stack = argsL.reverse ++ rest) (hW : 2 * g.monitorRoom + (rest.map fun v => v.category).sum ≤ W9) (hdg : decode c.code g.pc = .ok (.invokestatic index, 3))
    (hpre : ∀ vm₁, s.WarmedH vm₁ → Pre ⟨T.setVm vm₁, locs, cells, slots⟩ argsL.toArray) :
    (∃ (v : Option Value) (vm₁ : Vm) (B : Pt), s.WarmedH vm₁ ∧ Stand p l e R s m args below meth c B.U B.locs B.cells B.slots ∧ Post ⟨T.setVm vm₁, locs, cells, slots⟩ argsL.toArray v B ∧
      ∀ target, Steps p.tables e below (B.U.setTop { g with pc := g.pc + 3, stack := v.toList ++ rest }) target → Steps p.tables e below (T.setTop g) target) ∨
    (∃ (q : Addr) (vm₁ : Vm) (B : Pt), s.WarmedH vm₁ ∧ Stand p l e R s m args below meth c B.U B.locs B.cells B.slots ∧ PostX ⟨T.setVm vm₁, locs, cells, slots⟩ argsL.toArray q B ∧
      Steps p.tables e below (T.setTop g) ((B.U.setTop { g with stack := rest }).pushFrame (.throwing q))) := by
  obtain ⟨mk, methM, cM, hnamed, hmethM, -, -, -, -, -, -, hsigM⟩ := Cond.codeWith_spec hcode
  have hstatic : methM.isStatic = true := Cond.static_spec hnamed hmethM hstat
  obtain ⟨kP, hkP, -⟩ := className_of_methodNamed hnamed
  have hinitP : kP.init = .initialized := Cond.initialized_spec (findClass_of_methodNamed hnamed) hkP hinit
  obtain ⟨vm₁, X₁, hstep₁⟩ := X.invokestatic hexec hown hlink hnamed hmethM hstatic hkP hinitP hy (g := g) hg (argsL := argsL) (rest := rest) (hlen _ hsigM) hstack hdg
  rcases hK m meth c ⟨T.setVm vm₁, locs, cells, slots⟩ { g with stack := rest } (.invokestatic index) mk argsL.toArray X₁ hg hsize hdg hW (X₁.named hnamed) (hpre vm₁ X₁.warmed) with ⟨v, B, X', hpost, hsteps⟩ | ⟨q, B, X', hpost, hsteps⟩
  · exact Or.inl ⟨v, vm₁, B, X₁.warmed, X', hpost, fun target h => hstep₁ _ fun acts => by rw [doInvoke_state]; exact hsteps.trans h⟩
  · exact Or.inr ⟨q, vm₁, B, X₁.warmed, X', hpost, hstep₁ _ fun acts => by rw [doInvoke_state]; exact hsteps⟩
theorem vx_callVW (X : Stand p l e R s m args below meth c T locs cells slots) (hexec : p.tables.exec = Jvm.exec) {own C : String} {index : Nat} {y : MethodName} {bytes : ByteArray} {maxL : Nat} {ret : Option FieldType} {hh : List (Nat × Nat × Nat × Nat)}
    (hown : s.vm.findClass own = some m.cls) (hlink : (Cond.methodLink own index y).before args s = true) (hinst : (Cond.instanceMethod y).before args s = true) (hsel : (Cond.selects C y y).before args s = true)
    (hcode : (Cond.codeWith y bytes maxL ret hh).before args s = true) (hy : y.cls ≠ "java/lang/invoke/MethodHandle" ∧ y.cls ≠ "java/lang/invoke/VarHandle")
    {W9 : Nat} {Pre : Pt → Array Value → Prop} {Post : Pt → Array Value → Option Value → Pt → Prop} (hK : Back l R p e below s args y 3 W9 Pre Post)
    {b : Addr} {cellB : Cell} (hcell : T.heap[b]? = some cellB) (hobj : cellB.vm.isStatics = false) (hcls : s.vm.findClass C = some cellB.cls)
    {g : JFrame} (hg : g.method = m) (hsize : g.locals.size = c.maxLocals) {argsL rest : List Value} (hlen : ∀ sig, parseMethodDescriptor y.desc = some sig → argsL.length = sig.parameters.length)
    (hstack : g.stack = argsL.reverse ++ .ref b :: rest) (hW : 2 * g.monitorRoom + (rest.map fun v => v.category).sum ≤ W9) (hdg : decode c.code g.pc = .ok (.invokevirtual index, 3))
    (hpre : ∀ vm₁, s.WarmedH vm₁ → Pre ⟨T.setVm vm₁, locs, cells, slots⟩ (Value.ref b :: argsL).toArray) :
    ∃ (v : Option Value) (vm₁ : Vm) (B : Pt), s.WarmedH vm₁ ∧ Stand p l e R s m args below meth c B.U B.locs B.cells B.slots ∧ Post ⟨T.setVm vm₁, locs, cells, slots⟩ (Value.ref b :: argsL).toArray v B ∧
      ∀ target, Steps p.tables e below (B.U.setTop { g with pc := g.pc + 3, stack := v.toList ++ rest }) target → Steps p.tables e below (T.setTop g) target := by
  obtain ⟨mk, methM, hnamed, hmethM, hstM, habM⟩ := Cond.instanceMethod_spec hinst
  obtain ⟨m8, methM', cM, hn8, hmethM', -, -, -, -, -, -, hsigM⟩ := Cond.codeWith_spec hcode
  cases Option.some.inj (hn8.symm.trans hnamed)
  cases hmethM.symm.trans hmethM'
  obtain ⟨c2, r2, m2, q1, q2, q3, q4, kP, hkP, hkPi⟩ := Cond.selects_spec hsel
  cases hcls.symm.trans q1
  cases (State.methodFound?_of_named hnamed hy).symm.trans q2
  cases hnamed.symm.trans q3
  have hselP : selectMethod e.platform s.vm cellB.cls mk = .method mk := by rw [Launch.admits_selectMethod X.admits]; exact q4
  obtain ⟨vm₁, X₁, hstep₁⟩ := X.invokevirtual hexec hown hlink hnamed hmethM hstM hkP hkPi hy (a := b) (cell := cellB) hcell
    (fun z h => by rw [h] at hobj; cases hobj) hselP hmethM habM hkP hkPi (g := g) hg (argsL := argsL) (rest := rest) (hlen _ hsigM) hstack hdg
  obtain ⟨v, B, X', hpost, hsteps⟩ := hK m meth c ⟨T.setVm vm₁, locs, cells, slots⟩ { g with stack := rest } (.invokevirtual index) mk (Value.ref b :: argsL).toArray X₁ hg hsize hdg hW (X₁.named hnamed) (hpre vm₁ X₁.warmed)
  exact ⟨v, vm₁, B, X₁.warmed, X', hpost, fun target h => hstep₁ _ fun acts => by rw [doInvoke_state]; exact hsteps.trans h⟩
abbrev vx_CVW (R : Room) (s : State) (args : Array Value) (own C : String) (index : Nat) (y : MethodName) (bytes : ByteArray) (maxL : Nat) (ret : Option FieldType) (hh : List (Nat × Nat × Nat × Nat)) (ws : List Cond) (rm : Room) (mc ms n : Nat) : Prop :=
  (rm.cells = mc ∧ rm.slots = ms ∧ rm.frames + 1 ≤ R.frames ∧ 8 + (maxL + 11) + rm.locals ≤ R.locals ∧ (∀ w ∈ ws, ∀ (a' : Array Value) (U : State), s.WarmedH U.vm → w.before a' U = true) ∧ Cond.codeWith y bytes maxL ret hh ∈ ws) ∧
  (Cond.codeWith y bytes maxL ret hh).before args s = true ∧ (Cond.initialized y.cls).before args s = true ∧ (y.cls ≠ "java/lang/invoke/MethodHandle" ∧ y.cls ≠ "java/lang/invoke/VarHandle") ∧
  (∀ sig, parseMethodDescriptor y.desc = some sig → n = sig.parameters.length) ∧ (Cond.methodLink own index y).before args s = true ∧ (Cond.instanceMethod y).before args s = true ∧ (Cond.selects C y y).before args s = true
theorem vx_cwVW {own C : String} {index maxL mc ms : Nat} {y : MethodName} {bytes : ByteArray} {ret : Option FieldType} {hh : List (Nat × Nat × Nat × Nat)} {Ts ws ws' : List Cond} {rm : Room} (n : Nat) (ht : ∀ w ∈ Ts, w.before args s = true) (hT : GoodIn Ts (wsV own index C y ws)) (hw : ws = Cond.codeWith y bytes maxL ret hh :: ws') (hrc : rm.cells = mc) (hrs : rm.slots = ms)
    (hd : y.cls = C ∧ y.cls ≠ "java/lang/invoke/MethodHandle" ∧ y.cls ≠ "java/lang/invoke/VarHandle" ∧ (parseMethodDescriptor y.desc).map (fun d => d.parameters.length) = some n) (hR : rm.frames + 1 ≤ R.frames ∧ 8 + (maxL + 11) + rm.locals ≤ R.locals) :
    vx_CVW R s args own C index y bytes maxL ret hh ws rm mc ms n := by
  obtain ⟨hC, hd⟩ := hd
  subst hC
  have ok : ∀ w ∈ wsV own index y.cls y ws, w.before args s = true := fun w h => ht w (hT w h).1
  have hG : GoodIn Ts ws := fun w h => hT w (by unfold wsV; exact List.mem_append_right _ h)
  have hc : Cond.codeWith y bytes maxL ret hh ∈ ws := by rw [hw]; exact List.mem_cons_self
  refine ⟨⟨hrc, hrs, hR.1, hR.2, pay_in ht hG, hc⟩, ht _ (hG _ hc).1, ok _ (by simp [wsV]), ⟨hd.1, hd.2.1⟩, fun sig h => ?_, ok _ (by simp [wsV]), ok _ (by simp [wsV]), ok _ (by simp [wsV])⟩
  have h2 := hd.2.2
  rw [h] at h2
  exact (Option.some.inj h2).symm
theorem vx_runVW {y : MethodName} {bytes cc : ByteArray} {maxL nL mc ms n index : Nat} {ret : Option FieldType} {hh : List (Nat × Nat × Nat × Nat)} {ws : List Cond} {rm : Room} {Pc : Array Value → State → Prop} {Qc : Array Value → State → Outcome → State → Prop} {free : Addr → Prop} {Ts : List Cond} {own C : String} {b : Addr} {As rest : List Value} {g : JFrame}
    (S : CallFix p m c cc nL s args Ts own) (hM : Met l y ws rm Pc Qc mc ms free) (cw : vx_CVW R s args own C index y bytes maxL ret hh ws rm mc ms n) (hp : PreV s H C b Pc As)
    (hg : g.method = m) (hn : As.length = n) (hsize : g.locals.size = nL) (hstack : g.stack = As.reverse ++ .ref b :: rest) (hW : 2 * g.monitorRoom + (rest.map fun v => v.category).sum ≤ 8) (hdg : decode cc g.pc = .ok (.invokevirtual index, 3)) (hf : cells + mc ≤ R.cells ∧ slots + ms ≤ R.slots) :
    va_Run p l e R s m args below meth c H locs cells slots mc ms g rest (Qc (Value.ref b :: As).toArray) free := by
  obtain ⟨⟨hrc, hrs, hfr, hlo, hws, hcw⟩, hcode, hini, hy, hlen, hl, hin, hse⟩ := cw
  have hK : Back l R p e below s args y 3 8 (PreOf R mc ms Pc) (PostOf Qc mc ms free) := va_backW (hh := hh) (bytes := bytes) (maxL := maxL) (ret := ret) hM hp.1 hrc hrs hfr hlo hws hcw (fun a' U hW => word_at hW (Or.inl (by first | rfl | simp [Cond.onTables, Cond.keeps, Cond.steady])) hini)
  obtain ⟨hx, hb, hml, ho, -⟩ := S
  obtain ⟨-, ⟨cellB, hcB, hoB, hclB⟩, hPc⟩ := hp
  intro T hT X
  obtain ⟨v, vm₁, ⟨U', l2, c2, s2⟩, hW₁, X', ⟨g', mk, t, L, e1, e2, hq, h1, hL, h2, h3⟩, st⟩ := vx_callVW X hx (C := C) (hh := hh) (bytes := bytes) (maxL := maxL) (ret := ret) ho hl hin hse hcode hy hK (by rw [hT]; exact hcB) hoB hclB hg (hsize.trans hml.symm) (argsL := As) (rest := rest) (fun sig h => hn.trans (hlen sig h)) hstack hW (by rw [hb]; exact hdg)
    (fun vm₁ hW₁ => ⟨hf.1, hf.2, hPc (T.setVm vm₁) hT hW₁⟩)
  dsimp only [Pt.U, Pt.locs, Pt.cells, Pt.slots] at X' e1 e2 h1 h2 h3 st
  subst h1; subst h2; subst h3
  exact ⟨v, (T.setVm vm₁).calling g' mk (Value.ref b :: As).toArray, t, U', L, hT, X', hL, e1, e2, hq, st⟩
section
variable {y : MethodName} {bytes cc : ByteArray} {maxL nL mc ms n index : Nat} {ret : Option FieldType} {ws : List Cond} {rm : Room} {Pc : Array Value → State → Prop} {Qc : Array Value → State → Outcome → State → Prop} {XC : String → State → State → Prop} {free : Addr → Prop} {Ts : List Cond} {own C : String} {b : Addr} {As rest : List Value} {g : JFrame}
theorem vx_runVX {hh : List (Nat × Nat × Nat × Nat)} (S : CallFix p m c cc nL s args Ts own) (hM : vx_Met l y ws rm Pc Qc XC mc ms free) (cw : vx_CVW R s args own C index y bytes maxL ret hh ws rm mc ms n) (hp : PreV s H C b Pc As)
    (hg : g.method = m) (hn : As.length = n) (hsize : g.locals.size = nL) (hstack : g.stack = As.reverse ++ .ref b :: rest) (hW : 2 * g.monitorRoom + (rest.map fun v => v.category).sum ≤ 8) (hdg : decode cc g.pc = .ok (.invokevirtual index, 3)) (hf : cells + mc ≤ R.cells ∧ slots + ms ≤ R.slots) :
    vx_Run p l e R s m args below meth c H locs cells slots mc ms g rest (Qc (Value.ref b :: As).toArray) XC free := by
  obtain ⟨⟨hrc, hrs, hfr, hlo, hws, hcw⟩, hcode, hini, hy, hlen, hl, hin, hse⟩ := cw
  have hK : vx_Back l R p e below s args y 3 8 (PreOf R mc ms Pc) (PostOf Qc mc ms free) (vx_Post XC mc ms free) := vx_backW (hh := hh) (bytes := bytes) (maxL := maxL) (ret := ret) hM hp.1 hrc hrs hfr hlo hws hcw (fun a' U hW => word_at hW (Or.inl (by first | rfl | simp [Cond.onTables, Cond.keeps, Cond.steady])) hini)
  obtain ⟨hx, hb, hml, ho, -⟩ := S
  obtain ⟨-, ⟨cellB, hcB, hoB, hclB⟩, hPc⟩ := hp
  intro T hT X
  rcases vx_callVX X hx (C := C) (hh := hh) (bytes := bytes) (maxL := maxL) (ret := ret) ho hl hin hse hcode hy hK (by rw [hT]; exact hcB) hoB hclB hg (hsize.trans hml.symm) (argsL := As) (rest := rest) (fun sig h => hn.trans (hlen sig h)) hstack hW (by rw [hb]; exact hdg)
    (fun vm₁ hW₁ => ⟨hf.1, hf.2, hPc (T.setVm vm₁) hT hW₁⟩) with ⟨v, vm₁, ⟨U', l2, c2, s2⟩, hW₁, X', ⟨g', mk, t, L, e1, e2, hq, h1, hL, h2, h3⟩, st⟩ | ⟨q, vm₁, ⟨U', l2, c2, s2⟩, hW₁, X', ⟨g', mk, t, L, E, ce, e1, e2, hq, hce, hcv, hcl, h1, hL, h2, h3⟩, st⟩
  · dsimp only [Pt.U, Pt.locs, Pt.cells, Pt.slots] at X' e1 e2 h1 h2 h3 st
    subst h1; subst h2; subst h3
    exact Or.inl ⟨v, (T.setVm vm₁).calling g' mk (Value.ref b :: As).toArray, t, U', L, hT, X', hL, e1, e2, hq, st⟩
  · dsimp only [Pt.U, Pt.locs, Pt.cells, Pt.slots] at X' e1 e2 h1 h2 h3 st hcl
    subst h1; subst h2; subst h3
    exact Or.inr ⟨q, (T.setVm vm₁).calling g' mk (Value.ref b :: As).toArray, t, U', L, E, ce, hT, X', hL, e1, e2, hq, hce, hcv, vx_cls hW₁ hcl, st⟩
theorem vx_runSX {hh : List (Nat × Nat × Nat × Nat)} (S : CallFix p m c cc nL s args Ts own) (hM : vx_Met l y ws rm Pc Qc XC mc ms free) (cw : vx_CSW R s args own index y bytes maxL ret hh ws rm mc ms n) (hp : PreS s H Pc As)
    (hg : g.method = m) (hn : As.length = n) (hsize : g.locals.size = nL) (hstack : g.stack = As.reverse ++ rest) (hW : 2 * g.monitorRoom + (rest.map fun v => v.category).sum ≤ 8) (hdg : decode cc g.pc = .ok (.invokestatic index, 3)) (hf : cells + mc ≤ R.cells ∧ slots + ms ≤ R.slots) :
    vx_Run p l e R s m args below meth c H locs cells slots mc ms g rest (Qc As.toArray) XC free := by
  obtain ⟨⟨hrc, hrs, hfr, hlo, hws, hcw⟩, hcode, hini, hy, hlen, hl, hstt⟩ := cw
  have hK : vx_Back l R p e below s args y 3 8 (PreOf R mc ms Pc) (PostOf Qc mc ms free) (vx_Post XC mc ms free) := vx_backW (hh := hh) (bytes := bytes) (maxL := maxL) (ret := ret) hM hp.1 hrc hrs hfr hlo hws hcw (fun a' U hW => word_at hW (Or.inl (by first | rfl | simp [Cond.onTables, Cond.keeps, Cond.steady])) hini)
  obtain ⟨hx, hb, hml, ho, -⟩ := S
  intro T hT X
  rcases vx_callSX X hx (hh := hh) (bytes := bytes) (maxL := maxL) (ret := ret) ho hl hstt hini hcode hy hK hg (hsize.trans hml.symm) (argsL := As) (rest := rest) (fun sig h => hn.trans (hlen sig h)) hstack hW (by rw [hb]; exact hdg)
    (fun vm₁ hW₁ => ⟨hf.1, hf.2, hp.2 (T.setVm vm₁) hT hW₁⟩) with ⟨v, vm₁, ⟨U', l2, c2, s2⟩, hW₁, X', ⟨g', mk, t, L, e1, e2, hq, h1, hL, h2, h3⟩, st⟩ | ⟨q, vm₁, ⟨U', l2, c2, s2⟩, hW₁, X', ⟨g', mk, t, L, E, ce, e1, e2, hq, hce, hcv, hcl, h1, hL, h2, h3⟩, st⟩
  · dsimp only [Pt.U, Pt.locs, Pt.cells, Pt.slots] at X' e1 e2 h1 h2 h3 st
    subst h1; subst h2; subst h3
    exact Or.inl ⟨v, (T.setVm vm₁).calling g' mk As.toArray, t, U', L, hT, X', hL, e1, e2, hq, st⟩
  · dsimp only [Pt.U, Pt.locs, Pt.cells, Pt.slots] at X' e1 e2 h1 h2 h3 st hcl
    subst h1; subst h2; subst h3
    exact Or.inr ⟨q, (T.setVm vm₁).calling g' mk As.toArray, t, U', L, E, ce, hT, X', hL, e1, e2, hq, hce, hcv, vx_cls hW₁ hcl, st⟩
end
end VXH
theorem vx_ofWH {l : Launch} {y : MethodName} {ws ws' : List Cond} {rm : Room} {Pc : Array Value → State → Prop} {Qc : Array Value → State → Outcome → State → Prop} {XC : String → State → State → Prop} {mc ms : Nat} {free : Addr → Prop} {cc : ByteArray} {maxL : Nat} {ret : Option FieldType} {hh : List (Nat × Nat × Nat × Nat)}
    (hy : plainName y.cls = true) (hw : ws = Cond.codeWith y cc maxL ret hh :: ws')
    (body : ∀ p e s m args below meth c s₁, BodyLoose p l y (headSpec ws rm) cc maxL ret e s m args below meth c s₁ → c.maxLocals = maxL → Pc args s →
      W p l e (headSpec ws rm).room s m args below meth c s.heap [] 0 0 (vx_MQ below Qc XC args s mc ms free) (entryFrame m args maxL)) : vx_Met l y ws rm Pc Qc XC mc ms free := by
  refine MetFree.of_bodyS (code := cc) (maxLocals := maxL) (ret := ret) hy ?_ ?_
  · intro args s m h hn
    obtain ⟨m9, meth, c, hn9, h1, h2, h3, h4, -, h5, h6, -⟩ := Cond.codeWith_spec (atoms_spec (ws := ws) h _ (by rw [hw]; exact List.mem_cons_self))
    cases hn.symm.trans hn9
    exact ⟨meth, c, h1, h2, h3, h4, h5, h6⟩
  · intro p e s m args below meth c s₁ B hml hP _
    have hh0 : s₁.heap = s.heap := by rw [B.state]; rfl
    obtain ⟨t, a1, o, b1, b2, b3⟩ := body p e s m args below meth c s₁ B hml hP s₁ hh0 (Stand.of_body B)
    exact ⟨t, o, a1, b1, b2, b3⟩
/-! ===== END ===== -/
end
section
def RX0 : String := "JobWorkshop$BestRow"
def TX0 : u_T := fun k => match k with
  | 0 => ("JobWorkshop$BestRow", "shop", "LJobWorkshop$Shop;", true)
  | 1 => ("JobWorkshop$BestRow", "trial", "LJobWorkshop$Timetable;", true)
  | 2 => ("JobWorkshop$BestRow", "row", "[I", true)
  | 3 => ("JobWorkshop$BestRow", "total", "I", false)
  | 4 => ("JobWorkshop$BestRow", "least", "I", false)
  | _ => ("JobWorkshop$BestRow", "found", "Z", false)
def tyX0 : Nat → FieldType := fun k => match k with
  | 0 => .object "JobWorkshop$Shop"
  | 1 => .object "JobWorkshop$Timetable"
  | 2 => .array .int
  | 3 => .int
  | 4 => .int
  | _ => .boolean
theorem tyX0_ok : ∀ k, k < 6 → parseFieldDescriptor (TX0 k).2.2.1 = some (tyX0 k) := by decide +kernel
abbrev cX0_init : ByteArray := prog_2_method_1_code
def yX0_init : MethodName := ⟨RX0, "<init>", "(LJobWorkshop$Shop;LJobWorkshop$Timetable;)V"⟩
abbrev cX0_search : ByteArray := prog_2_method_2_code
def yX0_search : MethodName := ⟨RX0, "search", "(I)V"⟩
abbrev cX0_explore : ByteArray := prog_2_method_3_code
def yX0_explore : MethodName := ⟨RX0, "explore", "(II)V"⟩
def RX1 : String := "JobWorkshop$Crew"
def TX1 : u_T := fun k => match k with
  | 0 => ("JobWorkshop$Crew", "shop", "LJobWorkshop$Shop;", true)
  | 1 => ("JobWorkshop$Crew", "workers", "[I", true)
  | 2 => ("JobWorkshop$Crew", "toldWorkers", "[I", true)
  | _ => ("JobWorkshop$Crew", "mostFilled", "I", false)
def tyX1 : Nat → FieldType := fun k => match k with
  | 0 => .object "JobWorkshop$Shop"
  | 1 => .array .int
  | 2 => .array .int
  | _ => .int
theorem tyX1_ok : ∀ k, k < 4 → parseFieldDescriptor (TX1 k).2.2.1 = some (tyX1 k) := by decide +kernel
abbrev cX1_init : ByteArray := prog_3_method_1_code
def yX1_init : MethodName := ⟨RX1, "<init>", "(LJobWorkshop$Shop;)V"⟩
abbrev cX1_assign : ByteArray := prog_3_method_2_code
def yX1_assign : MethodName := ⟨RX1, "assign", "(I)V"⟩
abbrev cX1_fillable : ByteArray := prog_3_method_3_code
def yX1_fillable : MethodName := ⟨RX1, "fillable", "(I)I"⟩
abbrev cX1_explore : ByteArray := prog_3_method_4_code
def yX1_explore : MethodName := ⟨RX1, "explore", "(IIII)V"⟩
def RX2 : String := "JobWorkshop$HourCheck"
def TX2 : u_T := fun k => match k with
  | 0 => ("JobWorkshop$HourCheck", "shop", "LJobWorkshop$Shop;", true)
  | 1 => ("JobWorkshop$HourCheck", "table", "LJobWorkshop$Timetable;", true)
  | _ => ("JobWorkshop$HourCheck", "marks", "[I", true)
def tyX2 : Nat → FieldType := fun k => match k with
  | 0 => .object "JobWorkshop$Shop"
  | 1 => .object "JobWorkshop$Timetable"
  | _ => .array .int
theorem tyX2_ok : ∀ k, k < 3 → parseFieldDescriptor (TX2 k).2.2.1 = some (tyX2 k) := by decide +kernel
abbrev cX2_init : ByteArray := prog_4_method_1_code
def yX2_init : MethodName := ⟨RX2, "<init>", "(LJobWorkshop$Shop;LJobWorkshop$Timetable;)V"⟩
abbrev cX2_wrongHours : ByteArray := prog_4_method_2_code
def yX2_wrongHours : MethodName := ⟨RX2, "wrongHours", "()I"⟩
abbrev cX2_markStep : ByteArray := prog_4_method_3_code
def yX2_markStep : MethodName := ⟨RX2, "markStep", "(II)V"⟩
def RX3 : String := "JobWorkshop$KeyedJobs"
def TX3 : u_T := fun k => match k with
  | 0 => ("JobWorkshop$KeyedJobs", "jobs", "[I", true)
  | 1 => ("JobWorkshop$KeyedJobs", "keys", "[I", true)
  | _ => ("JobWorkshop$KeyedJobs", "size", "I", false)
def tyX3 : Nat → FieldType := fun k => match k with
  | 0 => .array .int
  | 1 => .array .int
  | _ => .int
theorem tyX3_ok : ∀ k, k < 3 → parseFieldDescriptor (TX3 k).2.2.1 = some (tyX3 k) := by decide +kernel
abbrev cX3_init : ByteArray := prog_5_method_1_code
def yX3_init : MethodName := ⟨RX3, "<init>", "()V"⟩
abbrev cX3_clear : ByteArray := prog_5_method_2_code
def yX3_clear : MethodName := ⟨RX3, "clear", "()V"⟩
abbrev cX3_insert : ByteArray := prog_5_method_3_code
def yX3_insert : MethodName := ⟨RX3, "insert", "(II)V"⟩
def RX4 : String := "JobWorkshop$Odds"
def TX4 : u_T := fun k => match k with
  | 0 => ("JobWorkshop$Odds", "shop", "LJobWorkshop$Shop;", true)
  | _ => ("JobWorkshop$Odds", "parts", "[J", true)
def tyX4 : Nat → FieldType := fun k => match k with
  | 0 => .object "JobWorkshop$Shop"
  | _ => .array .long
theorem tyX4_ok : ∀ k, k < 2 → parseFieldDescriptor (TX4 k).2.2.1 = some (tyX4 k) := by decide +kernel
abbrev cX4_init : ByteArray := prog_6_method_1_code
def yX4_init : MethodName := ⟨RX4, "<init>", "(LJobWorkshop$Shop;)V"⟩
abbrev cX4_hourOf : ByteArray := prog_6_method_2_code
def yX4_hourOf : MethodName := ⟨RX4, "hourOf", "(III)I"⟩
abbrev cX4_spread : ByteArray := prog_6_method_3_code
def yX4_spread : MethodName := ⟨RX4, "spread", "(III)J"⟩
def RX5 : String := "JobWorkshop$Sequences"
def TX5 : u_T := fun k => match k with
  | 0 => ("JobWorkshop$Sequences", "shop", "LJobWorkshop$Shop;", true)
  | _ => ("JobWorkshop$Sequences", "sorted", "LJobWorkshop$KeyedJobs;", true)
def tyX5 : Nat → FieldType := fun k => match k with
  | 0 => .object "JobWorkshop$Shop"
  | _ => .object "JobWorkshop$KeyedJobs"
theorem tyX5_ok : ∀ k, k < 2 → parseFieldDescriptor (TX5 k).2.2.1 = some (tyX5 k) := by decide +kernel
abbrev cX5_init : ByteArray := prog_7_method_1_code
def yX5_init : MethodName := ⟨RX5, "<init>", "(LJobWorkshop$Shop;)V"⟩
abbrev cX5_sortByLength : ByteArray := prog_7_method_2_code
def yX5_sortByLength : MethodName := ⟨RX5, "sortByLength", "()V"⟩
abbrev cX5_sortByDue : ByteArray := prog_7_method_3_code
def yX5_sortByDue : MethodName := ⟨RX5, "sortByDue", "()V"⟩
abbrev cX5_sumOfEnds : ByteArray := prog_7_method_4_code
def yX5_sumOfEnds : MethodName := ⟨RX5, "sumOfEnds", "()I"⟩
abbrev cX5_greatestLateness : ByteArray := prog_7_method_5_code
def yX5_greatestLateness : MethodName := ⟨RX5, "greatestLateness", "()I"⟩
abbrev cX5_droppedJobs : ByteArray := prog_7_method_6_code
def yX5_droppedJobs : MethodName := ⟨RX5, "droppedJobs", "()I"⟩
abbrev cX5_longestOf : ByteArray := prog_7_method_7_code
def yX5_longestOf : MethodName := ⟨RX5, "longestOf", "(I)I"⟩
abbrev cX5_hoursOfStep : ByteArray := prog_7_method_8_code
def yX5_hoursOfStep : MethodName := ⟨RX5, "hoursOfStep", "(II)I"⟩
abbrev cX5_sortForTwo : ByteArray := prog_7_method_9_code
def yX5_sortForTwo : MethodName := ⟨RX5, "sortForTwo", "()V"⟩
abbrev cX5_endOnTwo : ByteArray := prog_7_method_10_code
def yX5_endOnTwo : MethodName := ⟨RX5, "endOnTwo", "()I"⟩
abbrev cX5_jobOnTwo : ByteArray := prog_7_method_11_code
def yX5_jobOnTwo : MethodName := ⟨RX5, "jobOnTwo", "(I)I"⟩
def RX6 : String := "JobWorkshop$SetupTour"
def TX6 : u_T := fun k => match k with
  | 0 => ("JobWorkshop$SetupTour", "shop", "LJobWorkshop$Shop;", true)
  | 1 => ("JobWorkshop$SetupTour", "order", "[I", true)
  | 2 => ("JobWorkshop$SetupTour", "leastOrder", "[I", true)
  | 3 => ("JobWorkshop$SetupTour", "leastHours", "I", false)
  | _ => ("JobWorkshop$SetupTour", "found", "Z", false)
def tyX6 : Nat → FieldType := fun k => match k with
  | 0 => .object "JobWorkshop$Shop"
  | 1 => .array .int
  | 2 => .array .int
  | 3 => .int
  | _ => .boolean
theorem tyX6_ok : ∀ k, k < 5 → parseFieldDescriptor (TX6 k).2.2.1 = some (tyX6 k) := by decide +kernel
abbrev cX6_init : ByteArray := prog_8_method_1_code
def yX6_init : MethodName := ⟨RX6, "<init>", "(LJobWorkshop$Shop;)V"⟩
abbrev cX6_search : ByteArray := prog_8_method_2_code
def yX6_search : MethodName := ⟨RX6, "search", "()V"⟩
abbrev cX6_explore : ByteArray := prog_8_method_3_code
def yX6_explore : MethodName := ⟨RX6, "explore", "(III)V"⟩
abbrev cX6_hoursBehind : ByteArray := prog_8_method_4_code
def yX6_hoursBehind : MethodName := ⟨RX6, "hoursBehind", "(II)I"⟩
def RX7 : String := "JobWorkshop$Shop"
def TX7 : u_T := fun k => match k with
  | 0 => ("JobWorkshop$Shop", "jobs", "I", false)
  | 1 => ("JobWorkshop$Shop", "release", "[I", true)
  | 2 => ("JobWorkshop$Shop", "due", "[I", true)
  | 3 => ("JobWorkshop$Shop", "weight", "[I", true)
  | 4 => ("JobWorkshop$Shop", "kind", "[I", true)
  | 5 => ("JobWorkshop$Shop", "steps", "[I", true)
  | 6 => ("JobWorkshop$Shop", "machineOf", "[I", true)
  | 7 => ("JobWorkshop$Shop", "hoursOf", "[I", true)
  | 8 => ("JobWorkshop$Shop", "closures", "[I", true)
  | 9 => ("JobWorkshop$Shop", "closedFrom", "[I", true)
  | 10 => ("JobWorkshop$Shop", "closedTo", "[I", true)
  | 11 => ("JobWorkshop$Shop", "life", "[I", true)
  | 12 => ("JobWorkshop$Shop", "change", "[I", true)
  | 13 => ("JobWorkshop$Shop", "setup", "[I", true)
  | 14 => ("JobWorkshop$Shop", "skills", "[I", true)
  | 15 => ("JobWorkshop$Shop", "planned", "Z", false)
  | _ => ("JobWorkshop$Shop", "row", "[I", true)
def tyX7 : Nat → FieldType := fun k => match k with
  | 0 => .int
  | 1 => .array .int
  | 2 => .array .int
  | 3 => .array .int
  | 4 => .array .int
  | 5 => .array .int
  | 6 => .array .int
  | 7 => .array .int
  | 8 => .array .int
  | 9 => .array .int
  | 10 => .array .int
  | 11 => .array .int
  | 12 => .array .int
  | 13 => .array .int
  | 14 => .array .int
  | 15 => .boolean
  | _ => .array .int
theorem tyX7_ok : ∀ k, k < 17 → parseFieldDescriptor (TX7 k).2.2.1 = some (tyX7 k) := by decide +kernel
abbrev cX7_init : ByteArray := prog_9_method_1_code
def yX7_init : MethodName := ⟨RX7, "<init>", "()V"⟩
abbrev cX7_copyFrom : ByteArray := prog_9_method_2_code
def yX7_copyFrom : MethodName := ⟨RX7, "copyFrom", "(LJobWorkshop$Shop;)V"⟩
abbrev cX7_copy : ByteArray := prog_9_method_3_code
def yX7_copy : MethodName := ⟨RX7, "copy", "([I[I)V"⟩
abbrev cX7_takeRow : ByteArray := prog_9_method_4_code
def yX7_takeRow : MethodName := ⟨RX7, "takeRow", "([I)V"⟩
abbrev cX7_newJob : ByteArray := prog_9_method_5_code
def yX7_newJob : MethodName := ⟨RX7, "newJob", "(IIII)I"⟩
abbrev cX7_newStep : ByteArray := prog_9_method_6_code
def yX7_newStep : MethodName := ⟨RX7, "newStep", "(III)I"⟩
abbrev cX7_newClosure : ByteArray := prog_9_method_7_code
def yX7_newClosure : MethodName := ⟨RX7, "newClosure", "(III)V"⟩
abbrev cX7_canBeHalved : ByteArray := prog_9_method_8_code
def yX7_canBeHalved : MethodName := ⟨RX7, "canBeHalved", "(I)Z"⟩
abbrev cX7_halve : ByteArray := prog_9_method_9_code
def yX7_halve : MethodName := ⟨RX7, "halve", "(I)I"⟩
abbrev cX7_stepTotal : ByteArray := prog_9_method_10_code
def yX7_stepTotal : MethodName := ⟨RX7, "stepTotal", "()I"⟩
abbrev cX7_hoursFrom : ByteArray := prog_9_method_11_code
def yX7_hoursFrom : MethodName := ⟨RX7, "hoursFrom", "(II)I"⟩
abbrev cX7_hoursOn : ByteArray := prog_9_method_12_code
def yX7_hoursOn : MethodName := ⟨RX7, "hoursOn", "(I)I"⟩
abbrev cX7_leastHours : ByteArray := prog_9_method_13_code
def yX7_leastHours : MethodName := ⟨RX7, "leastHours", "()I"⟩
abbrev cX7_isClosedIn : ByteArray := prog_9_method_14_code
def yX7_isClosedIn : MethodName := ⟨RX7, "isClosedIn", "(II)Z"⟩
abbrev cX7_firstOpen : ByteArray := prog_9_method_15_code
def yX7_firstOpen : MethodName := ⟨RX7, "firstOpen", "(III)I"⟩
def RX8 : String := "JobWorkshop$Timetable"
def TX8 : u_T := fun k => match k with
  | 0 => ("JobWorkshop$Timetable", "shop", "LJobWorkshop$Shop;", true)
  | 1 => ("JobWorkshop$Timetable", "length", "I", false)
  | 2 => ("JobWorkshop$Timetable", "row", "[I", true)
  | 3 => ("JobWorkshop$Timetable", "putOf", "[I", true)
  | 4 => ("JobWorkshop$Timetable", "count", "[I", true)
  | 5 => ("JobWorkshop$Timetable", "order", "[I", true)
  | 6 => ("JobWorkshop$Timetable", "begin", "[I", true)
  | 7 => ("JobWorkshop$Timetable", "ahead", "[I", true)
  | 8 => ("JobWorkshop$Timetable", "between", "[I", true)
  | _ => ("JobWorkshop$Timetable", "wear", "[I", true)
def tyX8 : Nat → FieldType := fun k => match k with
  | 0 => .object "JobWorkshop$Shop"
  | 1 => .int
  | 2 => .array .int
  | 3 => .array .int
  | 4 => .array .int
  | 5 => .array .int
  | 6 => .array .int
  | 7 => .array .int
  | 8 => .array .int
  | _ => .array .int
theorem tyX8_ok : ∀ k, k < 10 → parseFieldDescriptor (TX8 k).2.2.1 = some (tyX8 k) := by decide +kernel
abbrev cX8_init : ByteArray := prog_10_method_1_code
def yX8_init : MethodName := ⟨RX8, "<init>", "(LJobWorkshop$Shop;)V"⟩
abbrev cX8_clear : ByteArray := prog_10_method_2_code
def yX8_clear : MethodName := ⟨RX8, "clear", "()V"⟩
abbrev cX8_hasLeft : ByteArray := prog_10_method_3_code
def yX8_hasLeft : MethodName := ⟨RX8, "hasLeft", "(I)Z"⟩
abbrev cX8_endOfStep : ByteArray := prog_10_method_4_code
def yX8_endOfStep : MethodName := ⟨RX8, "endOfStep", "(I)I"⟩
abbrev cX8_nextStep : ByteArray := prog_10_method_5_code
def yX8_nextStep : MethodName := ⟨RX8, "nextStep", "(I)I"⟩
abbrev cX8_readyHour : ByteArray := prog_10_method_6_code
def yX8_readyHour : MethodName := ⟨RX8, "readyHour", "(I)I"⟩
abbrev cX8_lastOn : ByteArray := prog_10_method_7_code
def yX8_lastOn : MethodName := ⟨RX8, "lastOn", "(I)I"⟩
abbrev cX8_needsTool : ByteArray := prog_10_method_8_code
def yX8_needsTool : MethodName := ⟨RX8, "needsTool", "(II)Z"⟩
abbrev cX8_hoursBetween : ByteArray := prog_10_method_9_code
def yX8_hoursBetween : MethodName := ⟨RX8, "hoursBetween", "(II)I"⟩
abbrev cX8_firstHour : ByteArray := prog_10_method_10_code
def yX8_firstHour : MethodName := ⟨RX8, "firstHour", "(II)I"⟩
abbrev cX8_put : ByteArray := prog_10_method_11_code
def yX8_put : MethodName := ⟨RX8, "put", "(II)V"⟩
abbrev cX8_takeBack : ByteArray := prog_10_method_12_code
def yX8_takeBack : MethodName := ⟨RX8, "takeBack", "()V"⟩
abbrev cX8_replay : ByteArray := prog_10_method_13_code
def yX8_replay : MethodName := ⟨RX8, "replay", "()V"⟩
abbrev cX8_putDelayed : ByteArray := prog_10_method_14_code
def yX8_putDelayed : MethodName := ⟨RX8, "putDelayed", "(II)V"⟩
abbrev cX8_putRushed : ByteArray := prog_10_method_15_code
def yX8_putRushed : MethodName := ⟨RX8, "putRushed", "(I)V"⟩
abbrev cX8_putBegunIn : ByteArray := prog_10_method_16_code
def yX8_putBegunIn : MethodName := ⟨RX8, "putBegunIn", "(LJobWorkshop$Timetable;I)V"⟩
abbrev cX8_putRestByRule : ByteArray := prog_10_method_17_code
def yX8_putRestByRule : MethodName := ⟨RX8, "putRestByRule", "(I)V"⟩
abbrev cX8_firstByRule : ByteArray := prog_10_method_18_code
def yX8_firstByRule : MethodName := ⟨RX8, "firstByRule", "(I)I"⟩
abbrev cX8_goesAhead : ByteArray := prog_10_method_19_code
def yX8_goesAhead : MethodName := ⟨RX8, "goesAhead", "(III)Z"⟩
abbrev cX8_nextOf : ByteArray := prog_10_method_20_code
def yX8_nextOf : MethodName := ⟨RX8, "nextOf", "([I)I"⟩
abbrev cX8_hoursLeft : ByteArray := prog_10_method_21_code
def yX8_hoursLeft : MethodName := ⟨RX8, "hoursLeft", "(I)I"⟩
abbrev cX8_leastEndOf : ByteArray := prog_10_method_22_code
def yX8_leastEndOf : MethodName := ⟨RX8, "leastEndOf", "(I)I"⟩
abbrev cX8_aimed : ByteArray := prog_10_method_23_code
def yX8_aimed : MethodName := ⟨RX8, "aimed", "(I)I"⟩
abbrev cX8_hoursDone : ByteArray := prog_10_method_24_code
def yX8_hoursDone : MethodName := ⟨RX8, "hoursDone", "(II)I"⟩
def RX9 : String := "JobWorkshop$Way"
def TX9 : u_T := fun k => match k with
  | 0 => ("JobWorkshop$Way", "shop", "LJobWorkshop$Shop;", true)
  | 1 => ("JobWorkshop$Way", "table", "LJobWorkshop$Timetable;", true)
  | 2 => ("JobWorkshop$Way", "fromEnd", "[I", true)
  | 3 => ("JobWorkshop$Way", "length", "I", false)
  | 4 => ("JobWorkshop$Way", "pieces", "I", false)
  | _ => ("JobWorkshop$Way", "longestPiece", "I", false)
def tyX9 : Nat → FieldType := fun k => match k with
  | 0 => .object "JobWorkshop$Shop"
  | 1 => .object "JobWorkshop$Timetable"
  | 2 => .array .int
  | 3 => .int
  | 4 => .int
  | _ => .int
theorem tyX9_ok : ∀ k, k < 6 → parseFieldDescriptor (TX9 k).2.2.1 = some (tyX9 k) := by decide +kernel
abbrev cX9_init : ByteArray := prog_11_method_1_code
def yX9_init : MethodName := ⟨RX9, "<init>", "(LJobWorkshop$Shop;LJobWorkshop$Timetable;)V"⟩
abbrev cX9_trace : ByteArray := prog_11_method_2_code
def yX9_trace : MethodName := ⟨RX9, "trace", "()V"⟩
abbrev cX9_latestStep : ByteArray := prog_11_method_3_code
def yX9_latestStep : MethodName := ⟨RX9, "latestStep", "()I"⟩
abbrev cX9_stepAheadOf : ByteArray := prog_11_method_4_code
def yX9_stepAheadOf : MethodName := ⟨RX9, "stepAheadOf", "(I)I"⟩
def RX10 : String := "JobWorkshop"
def TX10 : u_T := fun k => match k with
  | 0 => ("JobWorkshop", "shop", "LJobWorkshop$Shop;", true)
  | 1 => ("JobWorkshop", "table", "LJobWorkshop$Timetable;", true)
  | 2 => ("JobWorkshop", "trial", "LJobWorkshop$Timetable;", true)
  | 3 => ("JobWorkshop", "past", "[LJobWorkshop$Shop;", true)
  | 4 => ("JobWorkshop", "digits", "[I", true)
  | 5 => ("JobWorkshop", "wanted", "[I", true)
  | 6 => ("JobWorkshop", "bestRow", "LJobWorkshop$BestRow;", true)
  | 7 => ("JobWorkshop", "way", "LJobWorkshop$Way;", true)
  | 8 => ("JobWorkshop", "hourCheck", "LJobWorkshop$HourCheck;", true)
  | 9 => ("JobWorkshop", "sequences", "LJobWorkshop$Sequences;", true)
  | 10 => ("JobWorkshop", "tour", "LJobWorkshop$SetupTour;", true)
  | 11 => ("JobWorkshop", "crew", "LJobWorkshop$Crew;", true)
  | 12 => ("JobWorkshop", "oddsOfJob", "LJobWorkshop$Odds;", true)
  | 13 => ("JobWorkshop", "nextPast", "I", false)
  | _ => ("JobWorkshop", "undoable", "I", false)
def tyX10 : Nat → FieldType := fun k => match k with
  | 0 => .object "JobWorkshop$Shop"
  | 1 => .object "JobWorkshop$Timetable"
  | 2 => .object "JobWorkshop$Timetable"
  | 3 => .array (.object "JobWorkshop$Shop")
  | 4 => .array .int
  | 5 => .array .int
  | 6 => .object "JobWorkshop$BestRow"
  | 7 => .object "JobWorkshop$Way"
  | 8 => .object "JobWorkshop$HourCheck"
  | 9 => .object "JobWorkshop$Sequences"
  | 10 => .object "JobWorkshop$SetupTour"
  | 11 => .object "JobWorkshop$Crew"
  | 12 => .object "JobWorkshop$Odds"
  | 13 => .int
  | _ => .int
theorem tyX10_ok : ∀ k, k < 15 → parseFieldDescriptor (TX10 k).2.2.1 = some (tyX10 k) := by decide +kernel
abbrev cX10_init : ByteArray := prog_1_method_1_code
def yX10_init : MethodName := ⟨RX10, "<init>", "()V"⟩
abbrev cX10_close : ByteArray := prog_1_method_2_code
def yX10_close : MethodName := ⟨RX10, "close", "(III)I"⟩
abbrev cX10_setTool : ByteArray := prog_1_method_3_code
def yX10_setTool : MethodName := ⟨RX10, "setTool", "(III)I"⟩
abbrev cX10_setSetup : ByteArray := prog_1_method_4_code
def yX10_setSetup : MethodName := ⟨RX10, "setSetup", "(III)I"⟩
abbrev cX10_addJob : ByteArray := prog_1_method_5_code
def yX10_addJob : MethodName := ⟨RX10, "addJob", "(IIII)I"⟩
abbrev cX10_addStep : ByteArray := prog_1_method_6_code
def yX10_addStep : MethodName := ⟨RX10, "addStep", "(III)I"⟩
abbrev cX10_cut : ByteArray := prog_1_method_7_code
def yX10_cut : MethodName := ⟨RX10, "cut", "(I)I"⟩
abbrev cX10_plan : ByteArray := prog_1_method_8_code
def yX10_plan : MethodName := ⟨RX10, "plan", "(I)I"⟩
abbrev cX10_tell : ByteArray := prog_1_method_9_code
def yX10_tell : MethodName := ⟨RX10, "tell", "(J)I"⟩
abbrev cX10_best : ByteArray := prog_1_method_10_code
def yX10_best : MethodName := ⟨RX10, "best", "(I)I"⟩
abbrev cX10_swap : ByteArray := prog_1_method_11_code
def yX10_swap : MethodName := ⟨RX10, "swap", "(II)I"⟩
abbrev cX10_replan : ByteArray := prog_1_method_12_code
def yX10_replan : MethodName := ⟨RX10, "replan", "(II)I"⟩
abbrev cX10_rush : ByteArray := prog_1_method_13_code
def yX10_rush : MethodName := ⟨RX10, "rush", "(I)I"⟩
abbrev cX10_setWorker : ByteArray := prog_1_method_14_code
def yX10_setWorker : MethodName := ⟨RX10, "setWorker", "(II)I"⟩
abbrev cX10_undo : ByteArray := prog_1_method_15_code
def yX10_undo : MethodName := ⟨RX10, "undo", "()I"⟩
abbrev cX10_jobs : ByteArray := prog_1_method_16_code
def yX10_jobs : MethodName := ⟨RX10, "jobs", "()I"⟩
abbrev cX10_jobAt : ByteArray := prog_1_method_17_code
def yX10_jobAt : MethodName := ⟨RX10, "jobAt", "(II)I"⟩
abbrev cX10_stepAt : ByteArray := prog_1_method_18_code
def yX10_stepAt : MethodName := ⟨RX10, "stepAt", "(III)I"⟩
abbrev cX10_begin : ByteArray := prog_1_method_19_code
def yX10_begin : MethodName := ⟨RX10, "begin", "(II)I"⟩
abbrev cX10_endOf : ByteArray := prog_1_method_20_code
def yX10_endOf : MethodName := ⟨RX10, "endOf", "(I)I"⟩
abbrev cX10_value : ByteArray := prog_1_method_21_code
def yX10_value : MethodName := ⟨RX10, "value", "(I)I"⟩
abbrev cX10_bound : ByteArray := prog_1_method_22_code
def yX10_bound : MethodName := ⟨RX10, "bound", "()I"⟩
abbrev cX10_orderAt : ByteArray := prog_1_method_23_code
def yX10_orderAt : MethodName := ⟨RX10, "orderAt", "(II)I"⟩
abbrev cX10_doneIn : ByteArray := prog_1_method_24_code
def yX10_doneIn : MethodName := ⟨RX10, "doneIn", "(II)I"⟩
abbrev cX10_wayLength : ByteArray := prog_1_method_25_code
def yX10_wayLength : MethodName := ⟨RX10, "wayLength", "()I"⟩
abbrev cX10_wayAt : ByteArray := prog_1_method_26_code
def yX10_wayAt : MethodName := ⟨RX10, "wayAt", "(I)I"⟩
abbrev cX10_blocks : ByteArray := prog_1_method_27_code
def yX10_blocks : MethodName := ⟨RX10, "blocks", "()I"⟩
abbrev cX10_longestBlock : ByteArray := prog_1_method_28_code
def yX10_longestBlock : MethodName := ⟨RX10, "longestBlock", "()I"⟩
abbrev cX10_slack : ByteArray := prog_1_method_29_code
def yX10_slack : MethodName := ⟨RX10, "slack", "(II)I"⟩
abbrev cX10_delay : ByteArray := prog_1_method_30_code
def yX10_delay : MethodName := ⟨RX10, "delay", "(II)I"⟩
abbrev cX10_leastSum : ByteArray := prog_1_method_31_code
def yX10_leastSum : MethodName := ⟨RX10, "leastSum", "()I"⟩
abbrev cX10_leastLateness : ByteArray := prog_1_method_32_code
def yX10_leastLateness : MethodName := ⟨RX10, "leastLateness", "()I"⟩
abbrev cX10_fewestLate : ByteArray := prog_1_method_33_code
def yX10_fewestLate : MethodName := ⟨RX10, "fewestLate", "()I"⟩
abbrev cX10_isDropped : ByteArray := prog_1_method_34_code
def yX10_isDropped : MethodName := ⟨RX10, "isDropped", "(I)Z"⟩
abbrev cX10_leastEnd : ByteArray := prog_1_method_35_code
def yX10_leastEnd : MethodName := ⟨RX10, "leastEnd", "()I"⟩
abbrev cX10_twoAt : ByteArray := prog_1_method_36_code
def yX10_twoAt : MethodName := ⟨RX10, "twoAt", "(I)I"⟩
abbrev cX10_leastSetup : ByteArray := prog_1_method_37_code
def yX10_leastSetup : MethodName := ⟨RX10, "leastSetup", "()I"⟩
abbrev cX10_setupAt : ByteArray := prog_1_method_38_code
def yX10_setupAt : MethodName := ⟨RX10, "setupAt", "(I)I"⟩
abbrev cX10_match : ByteArray := prog_1_method_39_code
def yX10_match : MethodName := ⟨RX10, "match", "(I)I"⟩
abbrev cX10_workerOf : ByteArray := prog_1_method_40_code
def yX10_workerOf : MethodName := ⟨RX10, "workerOf", "(II)I"⟩
abbrev cX10_promise : ByteArray := prog_1_method_41_code
def yX10_promise : MethodName := ⟨RX10, "promise", "(III)I"⟩
abbrev cX10_worked : ByteArray := prog_1_method_42_code
def yX10_worked : MethodName := ⟨RX10, "worked", "(II)I"⟩
abbrev cX10_meanEnd : ByteArray := prog_1_method_43_code
def yX10_meanEnd : MethodName := ⟨RX10, "meanEnd", "()D"⟩
abbrev cX10_use : ByteArray := prog_1_method_44_code
def yX10_use : MethodName := ⟨RX10, "use", "(I)F"⟩
abbrev cX10_errors : ByteArray := prog_1_method_45_code
def yX10_errors : MethodName := ⟨RX10, "errors", "()I"⟩
abbrev cX10_needMachine : ByteArray := prog_1_method_46_code
def yX10_needMachine : MethodName := ⟨RX10, "needMachine", "(I)V"⟩
abbrev cX10_needKind : ByteArray := prog_1_method_47_code
def yX10_needKind : MethodName := ⟨RX10, "needKind", "(I)V"⟩
abbrev cX10_needJob : ByteArray := prog_1_method_48_code
def yX10_needJob : MethodName := ⟨RX10, "needJob", "(I)V"⟩
abbrev cX10_needStep : ByteArray := prog_1_method_49_code
def yX10_needStep : MethodName := ⟨RX10, "needStep", "(II)V"⟩
abbrev cX10_needPlaceOfJob : ByteArray := prog_1_method_50_code
def yX10_needPlaceOfJob : MethodName := ⟨RX10, "needPlaceOfJob", "(I)V"⟩
abbrev cX10_needRange : ByteArray := prog_1_method_51_code
def yX10_needRange : MethodName := ⟨RX10, "needRange", "(III)V"⟩
abbrev cX10_needRule : ByteArray := prog_1_method_52_code
def yX10_needRule : MethodName := ⟨RX10, "needRule", "(I)V"⟩
abbrev cX10_needAim : ByteArray := prog_1_method_53_code
def yX10_needAim : MethodName := ⟨RX10, "needAim", "(I)V"⟩
abbrev cX10_needMachines : ByteArray := prog_1_method_54_code
def yX10_needMachines : MethodName := ⟨RX10, "needMachines", "(I)V"⟩
abbrev cX10_needRoomForJob : ByteArray := prog_1_method_55_code
def yX10_needRoomForJob : MethodName := ⟨RX10, "needRoomForJob", "()V"⟩
abbrev cX10_needPlan : ByteArray := prog_1_method_56_code
def yX10_needPlan : MethodName := ⟨RX10, "needPlan", "()V"⟩
abbrev cX10_told : ByteArray := prog_1_method_57_code
def yX10_told : MethodName := ⟨RX10, "told", "(I)I"⟩
abbrev cX10_remember : ByteArray := prog_1_method_58_code
def yX10_remember : MethodName := ⟨RX10, "remember", "()V"⟩
abbrev cX10_dropPlan : ByteArray := prog_1_method_59_code
def yX10_dropPlan : MethodName := ⟨RX10, "dropPlan", "()V"⟩
abbrev cX10_adoptTrial : ByteArray := prog_1_method_60_code
def yX10_adoptTrial : MethodName := ⟨RX10, "adoptTrial", "()I"⟩
abbrev cX10_putDigits : ByteArray := prog_1_method_61_code
def yX10_putDigits : MethodName := ⟨RX10, "putDigits", "(J)Z"⟩
abbrev cX10_putSwapped : ByteArray := prog_1_method_62_code
def yX10_putSwapped : MethodName := ⟨RX10, "putSwapped", "(II)Z"⟩
def RX11 : String := "JobWorkshopModel"
def TX11 : u_T := fun k => match k with
  | 0 => ("JobWorkshopModel", "now", "[I", true)
  | 1 => ("JobWorkshopModel", "before", "[I", true)
  | 2 => ("JobWorkshopModel", "changes", "I", false)
  | 3 => ("JobWorkshopModel", "thrown", "I", false)
  | 4 => ("JobWorkshopModel", "begin", "[I", true)
  | 5 => ("JobWorkshopModel", "done", "[I", true)
  | 6 => ("JobWorkshopModel", "end", "[I", true)
  | 7 => ("JobWorkshopModel", "latest", "[I", true)
  | 8 => ("JobWorkshopModel", "free", "[I", true)
  | 9 => ("JobWorkshopModel", "worn", "[I", true)
  | 10 => ("JobWorkshopModel", "place", "[I", true)
  | 11 => ("JobWorkshopModel", "order", "[I", true)
  | 12 => ("JobWorkshopModel", "tried", "[I", true)
  | 13 => ("JobWorkshopModel", "was", "[I", true)
  | 14 => ("JobWorkshopModel", "best", "[I", true)
  | 15 => ("JobWorkshopModel", "row", "[I", true)
  | 16 => ("JobWorkshopModel", "found", "[I", true)
  | 17 => ("JobWorkshopModel", "matched", "[I", true)
  | 18 => ("JobWorkshopModel", "way", "[I", true)
  | _ => ("JobWorkshopModel", "wayMany", "I", false)
def tyX11 : Nat → FieldType := fun k => match k with
  | 0 => .array .int
  | 1 => .array .int
  | 2 => .int
  | 3 => .int
  | 4 => .array .int
  | 5 => .array .int
  | 6 => .array .int
  | 7 => .array .int
  | 8 => .array .int
  | 9 => .array .int
  | 10 => .array .int
  | 11 => .array .int
  | 12 => .array .int
  | 13 => .array .int
  | 14 => .array .int
  | 15 => .array .int
  | 16 => .array .int
  | 17 => .array .int
  | 18 => .array .int
  | _ => .int
theorem tyX11_ok : ∀ k, k < 20 → parseFieldDescriptor (TX11 k).2.2.1 = some (tyX11 k) := by decide +kernel
abbrev cX11_init : ByteArray := prog_13_method_1_code
def yX11_init : MethodName := ⟨RX11, "<init>", "()V"⟩
abbrev cX11_thrown : ByteArray := prog_13_method_2_code
def yX11_thrown : MethodName := ⟨RX11, "thrown", "()I"⟩
abbrev cX11_in : ByteArray := prog_13_method_4_code
def yX11_in : MethodName := ⟨RX11, "in", "(III)Z"⟩
abbrev cX11_fits : ByteArray := prog_13_method_5_code
def yX11_fits : MethodName := ⟨RX11, "fits", "(ZZZ)Z"⟩
abbrev cX11_laysJob : ByteArray := prog_13_method_6_code
def yX11_laysJob : MethodName := ⟨RX11, "laysJob", "(III)V"⟩
abbrev cX11_laysStep : ByteArray := prog_13_method_7_code
def yX11_laysStep : MethodName := ⟨RX11, "laysStep", "(III)I"⟩
abbrev cX11_of : ByteArray := prog_13_method_8_code
def yX11_of : MethodName := ⟨RX11, "of", "(II)I"⟩
abbrev cX11_machineOf : ByteArray := prog_13_method_9_code
def yX11_machineOf : MethodName := ⟨RX11, "machineOf", "(II)I"⟩
abbrev cX11_hoursOf : ByteArray := prog_13_method_10_code
def yX11_hoursOf : MethodName := ⟨RX11, "hoursOf", "(II)I"⟩
abbrev cX11_left : ByteArray := prog_13_method_11_code
def yX11_left : MethodName := ⟨RX11, "left", "(II)I"⟩
abbrev cX11_length : ByteArray := prog_13_method_12_code
def yX11_length : MethodName := ⟨RX11, "length", "(I)I"⟩
abbrev cX11_allSteps : ByteArray := prog_13_method_13_code
def yX11_allSteps : MethodName := ⟨RX11, "allSteps", "()I"⟩
abbrev cX11_isJob : ByteArray := prog_13_method_14_code
def yX11_isJob : MethodName := ⟨RX11, "isJob", "(I)Z"⟩
abbrev cX11_isStep : ByteArray := prog_13_method_15_code
def yX11_isStep : MethodName := ⟨RX11, "isStep", "(II)Z"⟩
abbrev cX11_hasPlan : ByteArray := prog_13_method_16_code
def yX11_hasPlan : MethodName := ⟨RX11, "hasPlan", "()Z"⟩
abbrev cX11_startsPlan : ByteArray := prog_13_method_17_code
def yX11_startsPlan : MethodName := ⟨RX11, "startsPlan", "()V"⟩
abbrev cX11_open : ByteArray := prog_13_method_18_code
def yX11_open : MethodName := ⟨RX11, "open", "(III)I"⟩
abbrev cX11_isChanged : ByteArray := prog_13_method_19_code
def yX11_isChanged : MethodName := ⟨RX11, "isChanged", "(II)Z"⟩
abbrev cX11_between : ByteArray := prog_13_method_20_code
def yX11_between : MethodName := ⟨RX11, "between", "(III)I"⟩
abbrev cX11_beginOf : ByteArray := prog_13_method_21_code
def yX11_beginOf : MethodName := ⟨RX11, "beginOf", "(I)I"⟩
abbrev cX11_does : ByteArray := prog_13_method_22_code
def yX11_does : MethodName := ⟨RX11, "does", "(II)V"⟩
abbrev cX11_worksOut : ByteArray := prog_13_method_23_code
def yX11_worksOut : MethodName := ⟨RX11, "worksOut", "([IIII)Z"⟩
abbrev cX11_works : ByteArray := prog_13_method_24_code
def yX11_works : MethodName := ⟨RX11, "works", "()Z"⟩
abbrev cX11_planEnd : ByteArray := prog_13_method_25_code
def yX11_planEnd : MethodName := ⟨RX11, "planEnd", "()I"⟩
abbrev cX11_valueOf : ByteArray := prog_13_method_26_code
def yX11_valueOf : MethodName := ⟨RX11, "valueOf", "(I)I"⟩
abbrev cX11_isAhead : ByteArray := prog_13_method_27_code
def yX11_isAhead : MethodName := ⟨RX11, "isAhead", "(III)Z"⟩
abbrev cX11_goesByRule : ByteArray := prog_13_method_28_code
def yX11_goesByRule : MethodName := ⟨RX11, "goesByRule", "(I)V"⟩
abbrev cX11_puts : ByteArray := prog_13_method_29_code
def yX11_puts : MethodName := ⟨RX11, "puts", "(I)V"⟩
abbrev cX11_clearsOrder : ByteArray := prog_13_method_30_code
def yX11_clearsOrder : MethodName := ⟨RX11, "clearsOrder", "()V"⟩
abbrev cX11_takesOrder : ByteArray := prog_13_method_31_code
def yX11_takesOrder : MethodName := ⟨RX11, "takesOrder", "()I"⟩
abbrev cX11_noPlan : ByteArray := prog_13_method_32_code
def yX11_noPlan : MethodName := ⟨RX11, "noPlan", "()V"⟩
abbrev cX11_keeps : ByteArray := prog_13_method_33_code
def yX11_keeps : MethodName := ⟨RX11, "keeps", "()V"⟩
abbrev cX11_close : ByteArray := prog_13_method_34_code
def yX11_close : MethodName := ⟨RX11, "close", "(III)I"⟩
abbrev cX11_setTool : ByteArray := prog_13_method_35_code
def yX11_setTool : MethodName := ⟨RX11, "setTool", "(III)I"⟩
abbrev cX11_setSetup : ByteArray := prog_13_method_36_code
def yX11_setSetup : MethodName := ⟨RX11, "setSetup", "(III)I"⟩
abbrev cX11_addJob : ByteArray := prog_13_method_37_code
def yX11_addJob : MethodName := ⟨RX11, "addJob", "(IIII)I"⟩
abbrev cX11_addStep : ByteArray := prog_13_method_38_code
def yX11_addStep : MethodName := ⟨RX11, "addStep", "(III)I"⟩
abbrev cX11_cut : ByteArray := prog_13_method_39_code
def yX11_cut : MethodName := ⟨RX11, "cut", "(I)I"⟩
abbrev cX11_plan : ByteArray := prog_13_method_40_code
def yX11_plan : MethodName := ⟨RX11, "plan", "(I)I"⟩
abbrev cX11_tell : ByteArray := prog_13_method_41_code
def yX11_tell : MethodName := ⟨RX11, "tell", "(J)I"⟩
abbrev cX11_remembers : ByteArray := prog_13_method_42_code
def yX11_remembers : MethodName := ⟨RX11, "remembers", "(II)V"⟩
abbrev cX11_takesBack : ByteArray := prog_13_method_43_code
def yX11_takesBack : MethodName := ⟨RX11, "takesBack", "(I)V"⟩
abbrev cX11_nextJob : ByteArray := prog_13_method_44_code
def yX11_nextJob : MethodName := ⟨RX11, "nextJob", "(I)I"⟩
abbrev cX11_best : ByteArray := prog_13_method_45_code
def yX11_best : MethodName := ⟨RX11, "best", "(I)I"⟩
abbrev cX11_exchanges : ByteArray := prog_13_method_46_code
def yX11_exchanges : MethodName := ⟨RX11, "exchanges", "(I)V"⟩
abbrev cX11_swap : ByteArray := prog_13_method_47_code
def yX11_swap : MethodName := ⟨RX11, "swap", "(II)I"⟩
abbrev cX11_replan : ByteArray := prog_13_method_48_code
def yX11_replan : MethodName := ⟨RX11, "replan", "(II)I"⟩
abbrev cX11_laysRushed : ByteArray := prog_13_method_49_code
def yX11_laysRushed : MethodName := ⟨RX11, "laysRushed", "(I)V"⟩
abbrev cX11_rush : ByteArray := prog_13_method_50_code
def yX11_rush : MethodName := ⟨RX11, "rush", "(I)I"⟩
abbrev cX11_setWorker : ByteArray := prog_13_method_51_code
def yX11_setWorker : MethodName := ⟨RX11, "setWorker", "(II)I"⟩
abbrev cX11_undo : ByteArray := prog_13_method_52_code
def yX11_undo : MethodName := ⟨RX11, "undo", "()I"⟩
abbrev cX11_jobs : ByteArray := prog_13_method_53_code
def yX11_jobs : MethodName := ⟨RX11, "jobs", "()I"⟩
abbrev cX11_jobAt : ByteArray := prog_13_method_54_code
def yX11_jobAt : MethodName := ⟨RX11, "jobAt", "(II)I"⟩
abbrev cX11_stepAt : ByteArray := prog_13_method_55_code
def yX11_stepAt : MethodName := ⟨RX11, "stepAt", "(III)I"⟩
abbrev cX11_isPlanned : ByteArray := prog_13_method_56_code
def yX11_isPlanned : MethodName := ⟨RX11, "isPlanned", "()Z"⟩
abbrev cX11_begin : ByteArray := prog_13_method_57_code
def yX11_begin : MethodName := ⟨RX11, "begin", "(II)I"⟩
abbrev cX11_endOf : ByteArray := prog_13_method_58_code
def yX11_endOf : MethodName := ⟨RX11, "endOf", "(I)I"⟩
abbrev cX11_value : ByteArray := prog_13_method_59_code
def yX11_value : MethodName := ⟨RX11, "value", "(I)I"⟩
abbrev cX11_bound : ByteArray := prog_13_method_60_code
def yX11_bound : MethodName := ⟨RX11, "bound", "()I"⟩
abbrev cX11_hoursOn : ByteArray := prog_13_method_61_code
def yX11_hoursOn : MethodName := ⟨RX11, "hoursOn", "(I)I"⟩
abbrev cX11_orderAt : ByteArray := prog_13_method_62_code
def yX11_orderAt : MethodName := ⟨RX11, "orderAt", "(II)I"⟩
abbrev cX11_doneIn : ByteArray := prog_13_method_63_code
def yX11_doneIn : MethodName := ⟨RX11, "doneIn", "(II)I"⟩
abbrev cX11_isDone : ByteArray := prog_13_method_64_code
def yX11_isDone : MethodName := ⟨RX11, "isDone", "(III)Z"⟩
abbrev cX11_stepEnd : ByteArray := prog_13_method_65_code
def yX11_stepEnd : MethodName := ⟨RX11, "stepEnd", "(II)I"⟩
abbrev cX11_aheadOf : ByteArray := prog_13_method_66_code
def yX11_aheadOf : MethodName := ⟨RX11, "aheadOf", "(I)I"⟩
abbrev cX11_readyAt : ByteArray := prog_13_method_67_code
def yX11_readyAt : MethodName := ⟨RX11, "readyAt", "(I)I"⟩
abbrev cX11_laysWay : ByteArray := prog_13_method_68_code
def yX11_laysWay : MethodName := ⟨RX11, "laysWay", "()V"⟩
abbrev cX11_wayLength : ByteArray := prog_13_method_69_code
def yX11_wayLength : MethodName := ⟨RX11, "wayLength", "()I"⟩
abbrev cX11_wayAt : ByteArray := prog_13_method_70_code
def yX11_wayAt : MethodName := ⟨RX11, "wayAt", "(I)I"⟩
abbrev cX11_block : ByteArray := prog_13_method_71_code
def yX11_block : MethodName := ⟨RX11, "block", "(Z)I"⟩
abbrev cX11_blocks : ByteArray := prog_13_method_72_code
def yX11_blocks : MethodName := ⟨RX11, "blocks", "()I"⟩
abbrev cX11_longestBlock : ByteArray := prog_13_method_73_code
def yX11_longestBlock : MethodName := ⟨RX11, "longestBlock", "()I"⟩
abbrev cX11_slack : ByteArray := prog_13_method_74_code
def yX11_slack : MethodName := ⟨RX11, "slack", "(II)I"⟩
abbrev cX11_delay : ByteArray := prog_13_method_75_code
def yX11_delay : MethodName := ⟨RX11, "delay", "(II)I"⟩
abbrev cX11_part : ByteArray := prog_13_method_76_code
def yX11_part : MethodName := ⟨RX11, "part", "(II)I"⟩
abbrev cX11_goesFirst : ByteArray := prog_13_method_77_code
def yX11_goesFirst : MethodName := ⟨RX11, "goesFirst", "(III)Z"⟩
abbrev cX11_laysRow : ByteArray := prog_13_method_78_code
def yX11_laysRow : MethodName := ⟨RX11, "laysRow", "(I)V"⟩
abbrev cX11_leastSum : ByteArray := prog_13_method_79_code
def yX11_leastSum : MethodName := ⟨RX11, "leastSum", "()I"⟩
abbrev cX11_leastLateness : ByteArray := prog_13_method_80_code
def yX11_leastLateness : MethodName := ⟨RX11, "leastLateness", "()I"⟩
abbrev cX11_dropped : ByteArray := prog_13_method_81_code
def yX11_dropped : MethodName := ⟨RX11, "dropped", "()I"⟩
abbrev cX11_fewestLate : ByteArray := prog_13_method_82_code
def yX11_fewestLate : MethodName := ⟨RX11, "fewestLate", "()I"⟩
abbrev cX11_isDropped : ByteArray := prog_13_method_83_code
def yX11_isDropped : MethodName := ⟨RX11, "isDropped", "(I)Z"⟩
abbrev cX11_leastEnd : ByteArray := prog_13_method_84_code
def yX11_leastEnd : MethodName := ⟨RX11, "leastEnd", "()I"⟩
abbrev cX11_twoAt : ByteArray := prog_13_method_85_code
def yX11_twoAt : MethodName := ⟨RX11, "twoAt", "(I)I"⟩
abbrev cX11_nextRow : ByteArray := prog_13_method_86_code
def yX11_nextRow : MethodName := ⟨RX11, "nextRow", "()Z"⟩
abbrev cX11_turns : ByteArray := prog_13_method_87_code
def yX11_turns : MethodName := ⟨RX11, "turns", "(II)V"⟩
abbrev cX11_setup : ByteArray := prog_13_method_88_code
def yX11_setup : MethodName := ⟨RX11, "setup", "()I"⟩
abbrev cX11_leastSetup : ByteArray := prog_13_method_89_code
def yX11_leastSetup : MethodName := ⟨RX11, "leastSetup", "()I"⟩
abbrev cX11_setupAt : ByteArray := prog_13_method_90_code
def yX11_setupAt : MethodName := ⟨RX11, "setupAt", "(I)I"⟩
abbrev cX11_matches : ByteArray := prog_13_method_91_code
def yX11_matches : MethodName := ⟨RX11, "matches", "(I)I"⟩
abbrev cX11_workerIn : ByteArray := prog_13_method_92_code
def yX11_workerIn : MethodName := ⟨RX11, "workerIn", "(II)I"⟩
abbrev cX11_match : ByteArray := prog_13_method_93_code
def yX11_match : MethodName := ⟨RX11, "match", "(I)I"⟩
abbrev cX11_workerOf : ByteArray := prog_13_method_94_code
def yX11_workerOf : MethodName := ⟨RX11, "workerOf", "(II)I"⟩
abbrev cX11_oddsOf : ByteArray := prog_13_method_95_code
def yX11_oddsOf : MethodName := ⟨RX11, "oddsOf", "(III)J"⟩
abbrev cX11_promise : ByteArray := prog_13_method_96_code
def yX11_promise : MethodName := ⟨RX11, "promise", "(III)I"⟩
abbrev cX11_worked : ByteArray := prog_13_method_97_code
def yX11_worked : MethodName := ⟨RX11, "worked", "(II)I"⟩
abbrev cX11_meanEnd : ByteArray := prog_13_method_98_code
def yX11_meanEnd : MethodName := ⟨RX11, "meanEnd", "()D"⟩
abbrev cX11_use : ByteArray := prog_13_method_99_code
def yX11_use : MethodName := ⟨RX11, "use", "(I)F"⟩
abbrev cX11_isClosed : ByteArray := prog_13_method_100_code
def yX11_isClosed : MethodName := ⟨RX11, "isClosed", "(II)Z"⟩
abbrev cX11_isWrong : ByteArray := prog_13_method_101_code
def yX11_isWrong : MethodName := ⟨RX11, "isWrong", "(I)Z"⟩
abbrev cX11_errors : ByteArray := prog_13_method_102_code
def yX11_errors : MethodName := ⟨RX11, "errors", "()I"⟩
def RJx145de : String := "java/io/Serializable"
def TJx145de : u_T := fun k => match k with
  | _ => ("", "", "", false)
def tyJx145de : Nat → FieldType := fun k => match k with
  | _ => .int
theorem tyJx145de_ok : ∀ k, k < 0 → parseFieldDescriptor (TJx145de k).2.2.1 = some (tyJx145de k) := by decide +kernel
def RJ6 : String := "java/lang/Integer"
def TJ6 : u_T := fun k => match k with
  | _ => ("", "", "", false)
def tyJ6 : Nat → FieldType := fun k => match k with
  | _ => .int
theorem tyJ6_ok : ∀ k, k < 0 → parseFieldDescriptor (TJ6 k).2.2.1 = some (tyJ6 k) := by decide +kernel
abbrev cJ6_bitCount_0f7a4 : ByteArray := prog_18_method_49_code
def yJ6_bitCount_0f7a4 : MethodName := ⟨RJ6, "bitCount", "(I)I"⟩
def RJ9 : String := "java/lang/Math"
def TJ9 : u_T := fun k => match k with
  | _ => ("", "", "", false)
def tyJ9 : Nat → FieldType := fun k => match k with
  | _ => .int
theorem tyJ9_ok : ∀ k, k < 0 → parseFieldDescriptor (TJ9 k).2.2.1 = some (tyJ9 k) := by decide +kernel
abbrev cJ9_max_7cf53 : ByteArray := prog_19_method_65_code
def yJ9_max_7cf53 : MethodName := ⟨RJ9, "max", "(II)I"⟩
abbrev cJ9_min_7cf53 : ByteArray := prog_19_method_69_code
def yJ9_min_7cf53 : MethodName := ⟨RJ9, "min", "(II)I"⟩
def RJ0 : String := "java/lang/String"
def TJ0 : u_T := fun k => match k with
  | _ => ("", "", "", false)
def tyJ0 : Nat → FieldType := fun k => match k with
  | _ => .int
theorem tyJ0_ok : ∀ k, k < 0 → parseFieldDescriptor (TJ0 k).2.2.1 = some (tyJ0 k) := by decide +kernel
def RJ10 : String := "java/lang/System"
def TJ10 : u_T := fun k => match k with
  | _ => ("", "", "", false)
def tyJ10 : Nat → FieldType := fun k => match k with
  | _ => .int
theorem tyJ10_ok : ∀ k, k < 0 → parseFieldDescriptor (TJ10 k).2.2.1 = some (tyJ10 k) := by decide +kernel
def RJ7 : String := "java/util/Arrays"
def TJ7 : u_T := fun k => match k with
  | _ => ("", "", "", false)
def tyJ7 : Nat → FieldType := fun k => match k with
  | _ => .int
theorem tyJ7_ok : ∀ k, k < 0 → parseFieldDescriptor (TJ7 k).2.2.1 = some (tyJ7 k) := by decide +kernel
abbrev cJ7_fill_d0a16 : ByteArray := prog_24_method_101_code
def yJ7_fill_d0a16 : MethodName := ⟨RJ7, "fill", "([JJ)V"⟩
abbrev cJ7_fill_53178 : ByteArray := prog_24_method_103_code
def yJ7_fill_53178 : MethodName := ⟨RJ7, "fill", "([II)V"⟩
def RL : String := "JobWorkshopLaw"
abbrev cL_close : ByteArray := method_3_code
def yL_close : MethodName := ⟨RL, "close", "(LJobWorkshop;III[J)I"⟩
abbrev cL_setTool : ByteArray := method_4_code
def yL_setTool : MethodName := ⟨RL, "setTool", "(LJobWorkshop;III[J)I"⟩
abbrev cL_setSetup : ByteArray := method_5_code
def yL_setSetup : MethodName := ⟨RL, "setSetup", "(LJobWorkshop;III[J)I"⟩
abbrev cL_addJob : ByteArray := method_6_code
def yL_addJob : MethodName := ⟨RL, "addJob", "(LJobWorkshop;IIII[J)I"⟩
abbrev cL_addStep : ByteArray := method_7_code
def yL_addStep : MethodName := ⟨RL, "addStep", "(LJobWorkshop;III[J)I"⟩
abbrev cL_cut : ByteArray := method_8_code
def yL_cut : MethodName := ⟨RL, "cut", "(LJobWorkshop;I[J)I"⟩
abbrev cL_plan : ByteArray := method_9_code
def yL_plan : MethodName := ⟨RL, "plan", "(LJobWorkshop;I[J)I"⟩
abbrev cL_tell : ByteArray := method_10_code
def yL_tell : MethodName := ⟨RL, "tell", "(LJobWorkshop;J[J)I"⟩
abbrev cL_best : ByteArray := method_11_code
def yL_best : MethodName := ⟨RL, "best", "(LJobWorkshop;I[J)I"⟩
abbrev cL_swap : ByteArray := method_12_code
def yL_swap : MethodName := ⟨RL, "swap", "(LJobWorkshop;II[J)I"⟩
abbrev cL_replan : ByteArray := method_13_code
def yL_replan : MethodName := ⟨RL, "replan", "(LJobWorkshop;II[J)I"⟩
abbrev cL_rush : ByteArray := method_14_code
def yL_rush : MethodName := ⟨RL, "rush", "(LJobWorkshop;I[J)I"⟩
abbrev cL_setWorker : ByteArray := method_15_code
def yL_setWorker : MethodName := ⟨RL, "setWorker", "(LJobWorkshop;II[J)I"⟩
abbrev cL_jobAt : ByteArray := method_16_code
def yL_jobAt : MethodName := ⟨RL, "jobAt", "(LJobWorkshop;II[J)I"⟩
abbrev cL_stepAt : ByteArray := method_17_code
def yL_stepAt : MethodName := ⟨RL, "stepAt", "(LJobWorkshop;III[J)I"⟩
abbrev cL_begin : ByteArray := method_18_code
def yL_begin : MethodName := ⟨RL, "begin", "(LJobWorkshop;II[J)I"⟩
abbrev cL_endOf : ByteArray := method_19_code
def yL_endOf : MethodName := ⟨RL, "endOf", "(LJobWorkshop;I[J)I"⟩
abbrev cL_value : ByteArray := method_20_code
def yL_value : MethodName := ⟨RL, "value", "(LJobWorkshop;I[J)I"⟩
abbrev cL_orderAt : ByteArray := method_21_code
def yL_orderAt : MethodName := ⟨RL, "orderAt", "(LJobWorkshop;II[J)I"⟩
abbrev cL_doneIn : ByteArray := method_22_code
def yL_doneIn : MethodName := ⟨RL, "doneIn", "(LJobWorkshop;II[J)I"⟩
abbrev cL_wayLength : ByteArray := method_23_code
def yL_wayLength : MethodName := ⟨RL, "wayLength", "(LJobWorkshop;[J)I"⟩
abbrev cL_wayAt : ByteArray := method_24_code
def yL_wayAt : MethodName := ⟨RL, "wayAt", "(LJobWorkshop;I[J)I"⟩
abbrev cL_blocks : ByteArray := method_25_code
def yL_blocks : MethodName := ⟨RL, "blocks", "(LJobWorkshop;[J)I"⟩
abbrev cL_longestBlock : ByteArray := method_26_code
def yL_longestBlock : MethodName := ⟨RL, "longestBlock", "(LJobWorkshop;[J)I"⟩
abbrev cL_slack : ByteArray := method_27_code
def yL_slack : MethodName := ⟨RL, "slack", "(LJobWorkshop;II[J)I"⟩
abbrev cL_delay : ByteArray := method_28_code
def yL_delay : MethodName := ⟨RL, "delay", "(LJobWorkshop;II[J)I"⟩
abbrev cL_isDropped : ByteArray := method_29_code
def yL_isDropped : MethodName := ⟨RL, "isDropped", "(LJobWorkshop;I[J)I"⟩
abbrev cL_twoAt : ByteArray := method_30_code
def yL_twoAt : MethodName := ⟨RL, "twoAt", "(LJobWorkshop;I[J)I"⟩
abbrev cL_setupAt : ByteArray := method_31_code
def yL_setupAt : MethodName := ⟨RL, "setupAt", "(LJobWorkshop;I[J)I"⟩
abbrev cL_match : ByteArray := method_32_code
def yL_match : MethodName := ⟨RL, "match", "(LJobWorkshop;I[J)I"⟩
abbrev cL_workerOf : ByteArray := method_33_code
def yL_workerOf : MethodName := ⟨RL, "workerOf", "(LJobWorkshop;II[J)I"⟩
abbrev cL_promise : ByteArray := method_34_code
def yL_promise : MethodName := ⟨RL, "promise", "(LJobWorkshop;III[J)I"⟩
abbrev cL_worked : ByteArray := method_35_code
def yL_worked : MethodName := ⟨RL, "worked", "(LJobWorkshop;II[J)I"⟩
abbrev cL_meanEnd : ByteArray := method_36_code
def yL_meanEnd : MethodName := ⟨RL, "meanEnd", "(LJobWorkshop;[D)I"⟩
abbrev cL_use : ByteArray := method_37_code
def yL_use : MethodName := ⟨RL, "use", "(LJobWorkshop;I[D)I"⟩
abbrev cL_law : ByteArray := code
def yL_law : MethodName := ⟨RL, "law", "([I)Z"⟩
abbrev vwCl : List vw_C := [(RX0, TX0, 6), (RX1, TX1, 4), (RX2, TX2, 3), (RX3, TX3, 3), (RX4, TX4, 2), (RX5, TX5, 2), (RX6, TX6, 5), (RX7, TX7, 17), (RX8, TX8, 10), (RX9, TX9, 6), (RX10, TX10, 15), (RX11, TX11, 20)]
end
section
/-! ===== the small machine: shapes of cells, whole numbers in them; one step, a method's run, a call. What its runs say of the big machine: part 06 ===== -/
abbrev mV : Type := Int ⊕ (Int ⊕ (Nat ⊕ Value))
abbrev mSh : Type := (Nat × List (Option (Option Nat))) ⊕ (Nat × (Nat × List (Option Nat)))
abbrev mG : Type := Nat → Nat → Int
abbrev mM : Type := List mSh × (mG × (Nat × Nat))
abbrev mO : Type := (Option mV) ⊕ Nat
abbrev mI : Type := Nat × (Instr × (Nat × (Nat × (Nat × Nat))))
abbrev mL : Type := List (Option mV)
abbrev mS : Type := Nat × (mL × (List mV × mM))
abbrev mScr : Type := Nat × (Nat × (Nat → Int))
def w32 (z : Int) : Int := (Int32.ofInt z).toInt
def w64 (z : Int) : Int := (Int64.ofInt z).toInt
def up1 (f : Nat → Int) (i : Nat) (x : Int) : Nat → Int := fun j => bif Nat.beq j i then x else f j
def upG (G : mG) (a : Nat) (f : Nat → Int) : mG := fun b => bif Nat.beq b a then f else G b
def up2 (G : mG) (a i : Nat) (x : Int) : mG := upG G a (up1 (G a) i x)
def cpyF (f g : Nat → Int) (sp dp n : Nat) : Nat → Int := fun k => if dp ≤ k ∧ k < dp + n then f (sp + (k - dp)) else g k
def mcat : mV → Nat
  | .inl _ => 1
  | .inr (.inl _) => 2
  | .inr (.inr (.inl _)) => 1
  | .inr (.inr (.inr v)) => v.category
def mNar (o : Option mV) : Option mV := match o with
  | none => none
  | some v => match mcat v with
    | 1 => some v
    | _ => none
def mSt : mL → Nat → mV → mL
  | [], _, _ => []
  | _ :: r, 0, v => some v :: r
  | o :: r, 1, v => mNar o :: mSt r 0 v
  | o :: r, i + 2, v => o :: mSt r (i + 1) v
def mSt2 : mL → Nat → mV → mL
  | [], _, _ => []
  | _ :: [], 0, _ => []
  | _ :: _ :: r, 0, v => some v :: none :: r
  | o :: r, 1, v => mNar o :: mSt2 r 0 v
  | o :: r, i + 2, v => o :: mSt2 r (i + 1) v
-- comparisons, as the machine makes them on 32 bits
def ilt (a b : Int) : Bool := decide (w32 a < w32 b)
def ieq (a b : Int) : Bool := decide (w32 a = w32 b)
def mCmp (c : ClassFile.Cond) (a b : Int) : Bool := match c with
  | .eq => ieq a b
  | .ne => !(ieq a b)
  | .lt => ilt a b
  | .ge => !(ilt a b)
  | .gt => ilt b a
  | .le => !(ilt b a)
def lcmpI (a b : Int) : Int := if w64 a < w64 b then -1 else if w64 a = w64 b then 0 else 1
def iAnd (a b : Int) : Int := (Int32.ofInt a &&& Int32.ofInt b).toInt
def iOr (a b : Int) : Int := (Int32.ofInt a ||| Int32.ofInt b).toInt
def iXor (a b : Int) : Int := (Int32.ofInt a ^^^ Int32.ofInt b).toInt
def iShl (a b : Int) : Int := (Int32.ofInt a <<< (Int32.ofInt b &&& 31)).toInt
def iShr (a b : Int) : Int := (Int32.ofInt a >>> (Int32.ofInt b &&& 31)).toInt
def iUshr (a b : Int) : Int := (((Int32.ofInt a).toUInt32 >>> ((Int32.ofInt b).toUInt32 &&& Int32.toUInt32 31)).toInt32).toInt
def iDiv (a b : Int) : Int := Int.tdiv (w32 a) (w32 b)
def iRem (a b : Int) : Int := Int.tmod (w32 a) (w32 b)
def lAnd (a b : Int) : Int := (Int64.ofInt a &&& Int64.ofInt b).toInt
def lOr (a b : Int) : Int := (Int64.ofInt a ||| Int64.ofInt b).toInt
def lShl (a b : Int) : Int := (Int64.ofInt a <<< ((Int32.ofInt b).toInt64 &&& 63)).toInt
def lDiv (a b : Int) : Int := Int.tdiv (w64 a) (w64 b)
def lRem (a b : Int) : Int := Int.tmod (w64 a) (w64 b)
def iMax (a b : Int) : Int := if w32 a < w32 b then b else a
def iMin (a b : Int) : Int := if w32 b < w32 a then b else a
def n64 (r : UInt64) : Bool := decide (r &&& 0x7fffffffffffffff ≤ 0x7ff0000000000000)
def n32 (r : UInt32) : Bool := decide (r &&& 0x7fffffff ≤ 0x7f800000)
def mBin (f : Int → Int → Int) : List mV → Option (List mV)
  | .inl b :: .inl a :: r => some (.inl (f a b) :: r)
  | _ => none
def mBinL (f : Int → Int → Int) : List mV → Option (List mV)
  | .inr (.inl b) :: .inr (.inl a) :: r => some (.inr (.inl (f a b)) :: r)
  | _ => none
def mBinD (f : Int → Int → Int) : List mV → Option (List mV)
  | .inl b :: .inl a :: r => bif ieq b 0 then none else some (.inl (f a b) :: r)
  | _ => none
def mBinLD (f : Int → Int → Int) : List mV → Option (List mV)
  | .inr (.inl b) :: .inr (.inl a) :: r => bif decide (w64 b = 0) then none else some (.inr (.inl (f a b)) :: r)
  | _ => none
def mLdI (ls : mL) (i : Nat) (st : List mV) : Option (List mV) := match ls[i]? with
  | some (some (.inl z)) => some (.inl z :: st)
  | _ => none
def mLdL (ls : mL) (i : Nat) (st : List mV) : Option (List mV) := match ls[i]? with
  | some (some (.inr (.inl z))) => some (.inr (.inl z) :: st)
  | _ => none
def mLdA (ls : mL) (i : Nat) (st : List mV) : Option (List mV) := match ls[i]? with
  | some (some (.inr (.inr (.inl a)))) => some (.inr (.inr (.inl a)) :: st)
  | some (some (.inr (.inr (.inr .null)))) => some (.inr (.inr (.inr .null)) :: st)
  | some (some (.inr (.inr (.inr (.ref b))))) => some (.inr (.inr (.inr (.ref b))) :: st)
  | _ => none
def mLdF (ls : mL) (i : Nat) (st : List mV) : Option (List mV) := match ls[i]? with
  | some (some (.inr (.inr (.inr (.float x))))) => some (.inr (.inr (.inr (.float x))) :: st)
  | _ => none
def mLdD (ls : mL) (i : Nat) (st : List mV) : Option (List mV) := match ls[i]? with
  | some (some (.inr (.inr (.inr (.double x))))) => some (.inr (.inr (.inr (.double x))) :: st)
  | _ => none
def mStI (ls : mL) (i : Nat) : List mV → Option (mL × List mV)
  | .inl z :: r => bif Nat.blt i ls.length then some (mSt ls i (.inl z), r) else none
  | _ => none
def mStL (ls : mL) (i : Nat) : List mV → Option (mL × List mV)
  | .inr (.inl z) :: r => bif Nat.blt (i + 1) ls.length then some (mSt2 ls i (.inr (.inl z)), r) else none
  | _ => none
def mStA (ls : mL) (i : Nat) : List mV → Option (mL × List mV)
  | .inr (.inr (.inl a)) :: r => bif Nat.blt i ls.length then some (mSt ls i (.inr (.inr (.inl a))), r) else none
  | .inr (.inr (.inr .null)) :: r => bif Nat.blt i ls.length then some (mSt ls i (.inr (.inr (.inr .null))), r) else none
  | .inr (.inr (.inr (.retAddr _))) :: r => bif Nat.blt i ls.length then some (mSt ls i (.inr (.inr (.inr (.retAddr 0)))), r) else none
  | _ => none
def mStF (ls : mL) (i : Nat) : List mV → Option (mL × List mV)
  | .inr (.inr (.inr (.float x))) :: r => bif Nat.blt i ls.length then some (mSt ls i (.inr (.inr (.inr (.float x)))), r) else none
  | _ => none
def mStD (ls : mL) (i : Nat) : List mV → Option (mL × List mV)
  | .inr (.inr (.inr (.double x))) :: r => bif Nat.blt (i + 1) ls.length then some (mSt2 ls i (.inr (.inr (.inr (.double x)))), r) else none
  | _ => none
def mWith (ls : mL) : Option (List mV) → Option (mL × List mV)
  | some st => some (ls, st)
  | none => none
/-- instructions on the locals and the operand stack alone; c: a constant of the pool -/
def mPure (ins : Instr) (c : Nat) (ls : mL) (st : List mV) : Option (mL × List mV) := match ins with
  | .iconst n => some (ls, .inl n :: st)
  | .bipush n => some (ls, .inl n :: st)
  | .sipush n => some (ls, .inl n :: st)
  | .ldc _ => some (ls, .inl (c : Int) :: st)
  | .ldc_w _ => some (ls, .inl (c : Int) :: st)
  | .ldc2_w _ => some (ls, .inr (.inl (c : Int)) :: st)
  | .lconst n => some (ls, .inr (.inl ((n : Nat) : Int)) :: st)
  | .fconst _ => some (ls, .inr (.inr (.inr (.float FP.fconst0))) :: st)
  | .dconst _ => some (ls, .inr (.inr (.inr (.double FP.dconst0))) :: st)
  | .aconst_null => some (ls, .inr (.inr (.inr .null)) :: st)
  | .iload_n k => mWith ls (mLdI ls k st)
  | .iload i => mWith ls (mLdI ls i st)
  | .lload_n k => mWith ls (mLdL ls k st)
  | .lload i => mWith ls (mLdL ls i st)
  | .aload_n k => mWith ls (mLdA ls k st)
  | .aload i => mWith ls (mLdA ls i st)
  | .fload i => mWith ls (mLdF ls i st)
  | .dload i => mWith ls (mLdD ls i st)
  | .istore_n k => mStI ls k st
  | .istore i => mStI ls i st
  | .lstore i => mStL ls i st
  | .astore_n k => mStA ls k st
  | .astore i => mStA ls i st
  | .fstore i => mStF ls i st
  | .dstore i => mStD ls i st
  | .iinc i n => match ls[i]? with
    | some (some (.inl z)) => some (mSt ls i (.inl (z + n)), st)
    | _ => none
  | .iadd => mWith ls (mBin (fun a b => a + b) st)
  | .isub => mWith ls (mBin (fun a b => a - b) st)
  | .imul => mWith ls (mBin (fun a b => a * b) st)
  | .iand => mWith ls (mBin iAnd st)
  | .ior => mWith ls (mBin iOr st)
  | .ixor => mWith ls (mBin iXor st)
  | .ishl => mWith ls (mBin iShl st)
  | .ishr => mWith ls (mBin iShr st)
  | .iushr => mWith ls (mBin iUshr st)
  | .idiv => mWith ls (mBinD iDiv st)
  | .irem => mWith ls (mBinD iRem st)
  | .ineg => match st with
    | .inl a :: r => some (ls, .inl (-a) :: r)
    | _ => none
  | .ladd => mWith ls (mBinL (fun a b => a + b) st)
  | .lmul => mWith ls (mBinL (fun a b => a * b) st)
  | .land => mWith ls (mBinL lAnd st)
  | .lor => mWith ls (mBinL lOr st)
  | .ldiv => mWith ls (mBinLD lDiv st)
  | .lrem => mWith ls (mBinLD lRem st)
  | .lshl => match st with
    | .inl b :: .inr (.inl a) :: r => some (ls, .inr (.inl (lShl a b)) :: r)
    | _ => none
  | .lcmp => match st with
    | .inr (.inl b) :: .inr (.inl a) :: r => some (ls, .inl (lcmpI a b) :: r)
    | _ => none
  | .i2l => match st with
    | .inl a :: r => some (ls, .inr (.inl (w32 a)) :: r)
    | _ => none
  | .l2i => match st with
    | .inr (.inl a) :: r => some (ls, .inl a :: r)
    | _ => none
  | .i2d => match st with
    | .inl a :: r => some (ls, .inr (.inr (.inr (.double (FP.i2d (Int32.ofInt a))))) :: r)
    | _ => none
  | .i2f => match st with
    | .inl a :: r => some (ls, .inr (.inr (.inr (.float (FP.i2f (Int32.ofInt a))))) :: r)
    | _ => none
  | .f2d => match st with
    | .inr (.inr (.inr (.float x))) :: r => bif n64 (FP.f2d x) then some (ls, .inr (.inr (.inr (.double (FP.f2d x)))) :: r) else none
    | _ => none
  | .ddiv => match st with
    | .inr (.inr (.inr (.double y))) :: .inr (.inr (.inr (.double x))) :: r => bif n64 (FP.ddiv x y) then some (ls, .inr (.inr (.inr (.double (FP.ddiv x y)))) :: r) else none
    | _ => none
  | .fdiv => match st with
    | .inr (.inr (.inr (.float y))) :: .inr (.inr (.inr (.float x))) :: r => bif n32 (FP.fdiv x y) then some (ls, .inr (.inr (.inr (.float (FP.fdiv x y)))) :: r) else none
    | _ => none
  | .dcmp op => match st with
    | .inr (.inr (.inr (.double y))) :: .inr (.inr (.inr (.double x))) :: r => some (ls, .inl (Op.cmpValue (FP.dcmp x y) op).toInt :: r)
    | _ => none
  | .fcmp op => match st with
    | .inr (.inr (.inr (.float y))) :: .inr (.inr (.inr (.float x))) :: r => some (ls, .inl (Op.cmpValue (FP.fcmp x y) op).toInt :: r)
    | _ => none
  | .dup => match st with
    | v :: r => match mcat v with
      | 1 => some (ls, v :: v :: r)
      | _ => none
    | _ => none
  | .pop => match st with
    | v :: r => match mcat v with
      | 1 => some (ls, r)
      | _ => none
    | _ => none
  | .dup2 => match st with
    | v :: w :: r => match mcat v, mcat w with
      | 1, 1 => some (ls, v :: w :: v :: w :: r)
      | _, _ => none
    | _ => none
  | _ => none
def mTgt (pc : Nat) (off : Int) : Nat := ((pc : Int) + off).toNat
/-- branches -/
def mJump (ins : Instr) (pc : Nat) (st : List mV) : Option (Nat × List mV) := match ins with
  | .goto off => some (mTgt pc off, st)
  | .if_icmp c off => match st with
    | .inl b :: .inl a :: r => some (bif mCmp c a b then mTgt pc off else pc + 3, r)
    | _ => none
  | .ifCond c off => match st with
    | .inl a :: r => some (bif mCmp c a 0 then mTgt pc off else pc + 3, r)
    | _ => none
  | .ifnull off => match st with
    | .inr (.inr (.inl _)) :: r => some (pc + 3, r)
    | .inr (.inr (.inr .null)) :: r => some (mTgt pc off, r)
    | _ => none
  | .ifnonnull off => match st with
    | .inr (.inr (.inl _)) :: r => some (mTgt pc off, r)
    | .inr (.inr (.inr .null)) :: r => some (pc + 3, r)
    | _ => none
  | .tableswitch dflt lo hi offs => match st with
    | .inl x :: r => bif decide (w32 x < lo ∨ hi < w32 x) then some (mTgt pc dflt, r) else match offs.toList[(w32 x - lo).toNat]? with
      | some off => some (mTgt pc off, r)
      | none => none
    | _ => none
  | _ => none
def mIn (i : Int) (n : Nat) : Bool := decide (0 ≤ w32 i ∧ w32 i < (n : Int))
def mIx (i : Int) : Nat := (w32 i).toNat
def b2i (t : Bool) : Int := bif t then 1 else 0
def m01 (z : Int) : Bool := decide (z = 0 ∨ z = 1)
/-- what a field's slot holds -/
def mFld (G : mG) (a k : Nat) : Option (Option Nat) → mV
  | none => .inl (G a k)
  | some none => .inr (.inr (.inr .null))
  | some (some q) => .inr (.inr (.inl q))
/-- instructions on cells; c, k, b: what the pool says (class and slot; b: 1 a field of booleans, 2 a final one) -/
def mMem (scr : mScr) (ins : Instr) (c k b : Nat) (st : List mV) (M : mM) : Option (List mV × mM) := match ins with
  | .getfield _ => match st with
    | .inr (.inr (.inl a)) :: r => match M.1[a]? with
      | some (.inl q) => bif Nat.beq q.1 c then (match q.2[k]? with
        | some f => some (mFld M.2.1 a k f :: r, M)
        | none => none) else none
      | _ => none
    | _ => none
  | .putfield _ => match st with
    | .inl z :: .inr (.inr (.inl a)) :: r => match M.1[a]? with
      | some (.inl q) => bif Nat.beq q.1 c then (match q.2[k]? with
        | some none => bif (Nat.beq b 0 || (Nat.beq b 1 && m01 z)) then some (r, (M.1, (up2 M.2.1 a k z, M.2.2))) else none
        | _ => none) else none
      | _ => none
    | .inr (.inr (.inl v)) :: .inr (.inr (.inl a)) :: r => match M.1[a]? with
      | some (.inl q) => bif Nat.beq q.1 c then (match q.2[k]? with
        | some (some _) => bif Nat.beq b 2 then some (r, (M.1.set a (.inl (q.1, q.2.set k (some (some v)))), M.2)) else none
        | _ => none) else none
      | _ => none
    | _ => none
  | .iaload => match st with
    | .inl i :: .inr (.inr (.inl a)) :: r => match M.1[a]? with
      | some (.inr (0, (n, _))) => bif mIn i n then some (.inl (M.2.1 a (mIx i)) :: r, M) else none
      | _ => none
    | .inl i :: .inr (.inr (.inr (.ref q))) :: r => bif Nat.beq q scr.1 && mIn i scr.2.1 then some (.inl (scr.2.2 (mIx i)) :: r, M) else none
    | _ => none
  | .laload => match st with
    | .inl i :: .inr (.inr (.inl a)) :: r => match M.1[a]? with
      | some (.inr (1, (n, _))) => bif mIn i n then some (.inr (.inl (M.2.1 a (mIx i))) :: r, M) else none
      | _ => none
    | _ => none
  | .daload => match st with
    | .inl i :: .inr (.inr (.inl a)) :: r => match M.1[a]? with
      | some (.inr (2, (n, _))) => bif mIn i n then some (.inr (.inr (.inr (.double (UInt64.ofNat (M.2.1 a (mIx i)).toNat)))) :: r, M) else none
      | _ => none
    | _ => none
  | .aaload => match st with
    | .inl i :: .inr (.inr (.inl a)) :: r => match M.1[a]? with
      | some (.inr (3, (n, rs))) => bif mIn i n then (match rs[mIx i]? with
        | some (some q) => some (.inr (.inr (.inl q)) :: r, M)
        | some none => some (.inr (.inr (.inr .null)) :: r, M)
        | none => none) else none
      | _ => none
    | _ => none
  | .iastore => match st with
    | .inl x :: .inl i :: .inr (.inr (.inl a)) :: r => match M.1[a]? with
      | some (.inr (0, (n, _))) => bif mIn i n then some (r, (M.1, (up2 M.2.1 a (mIx i) x, M.2.2))) else none
      | _ => none
    | _ => none
  | .lastore => match st with
    | .inr (.inl x) :: .inl i :: .inr (.inr (.inl a)) :: r => match M.1[a]? with
      | some (.inr (1, (n, _))) => bif mIn i n then some (r, (M.1, (up2 M.2.1 a (mIx i) x, M.2.2))) else none
      | _ => none
    | _ => none
  | .dastore => match st with
    | .inr (.inr (.inr (.double x))) :: .inl i :: .inr (.inr (.inl a)) :: r => match M.1[a]? with
      | some (.inr (2, (n, _))) => bif mIn i n then some (r, (M.1, (up2 M.2.1 a (mIx i) (x.toNat : Int), M.2.2))) else none
      | _ => none
    | _ => none
  | .aastore => match st with
    | .inr (.inr (.inl v)) :: .inl i :: .inr (.inr (.inl a)) :: r => match M.1[a]?, M.1[v]? with
      | some (.inr (3, (n, rs))), some (.inl q) => bif mIn i n && Nat.beq q.1 c then some (r, (M.1.set a (.inr (3, (n, rs.set (mIx i) (some v)))), M.2)) else none
      | _, _ => none
    | _ => none
  | .arraylength => match st with
    | .inr (.inr (.inl a)) :: r => match M.1[a]? with
      | some (.inr (_, (n, _))) => some (.inl (n : Int) :: r, M)
      | _ => none
    | .inr (.inr (.inr (.ref q))) :: r => bif Nat.beq q scr.1 then some (.inl (scr.2.1 : Int) :: r, M) else none
    | _ => none
  | .newarray t => match st with
    | .inl z :: r => bif mIn z 8192 then (match t with
      | .int => some (.inr (.inr (.inl M.1.length)) :: r, (M.1 ++ [.inr (0, (mIx z, []))], (upG M.2.1 M.1.length (fun _ => 0), (M.2.2.1 + 1, M.2.2.2 + mIx z))))
      | .long => some (.inr (.inr (.inl M.1.length)) :: r, (M.1 ++ [.inr (1, (mIx z, []))], (upG M.2.1 M.1.length (fun _ => 0), (M.2.2.1 + 1, M.2.2.2 + mIx z))))
      | .double => some (.inr (.inr (.inl M.1.length)) :: r, (M.1 ++ [.inr (2, (mIx z, []))], (upG M.2.1 M.1.length (fun _ => 0), (M.2.2.1 + 1, M.2.2.2 + mIx z))))
      | _ => none) else none
    | _ => none
  | .anewarray _ => match st with
    | .inl z :: r => bif mIn z 8192 then some (.inr (.inr (.inl M.1.length)) :: r, (M.1 ++ [.inr (3, (mIx z, List.replicate (mIx z) none))], (upG M.2.1 M.1.length (fun _ => 0), (M.2.2.1 + 1, M.2.2.2 + mIx z)))) else none
    | _ => none
  | _ => none
end
section
/-! ===== the program in the small machine's tables: printed by wip/whole/gen/gen_prog.py out of the task's decode rows and words ===== -/
def mFL : List (List (Option (Option Nat))) := [[some none, some none, some none, none, none, none],
  [some none, some none, some none, none],
  [some none, some none, some none],
  [some none, some none, none],
  [some none, some none],
  [some none, some none],
  [some none, some none, some none, none, none],
  [none, some none, some none, some none, some none, some none, some none, some none, some none, some none, some none, some none, some none, some none, some none, none, some none],
  [some none, none, some none, some none, some none, some none, some none, some none, some none, some none],
  [some none, some none, some none, none, none, none],
  [some none, some none, some none, some none, some none, some none, some none, some none, some none, some none, some none, some none, some none, none, none],
  [some none, some none, none, none, some none, some none, some none, some none, some none, some none, some none, some none, some none, some none, some none, some none, some none, some none, some none, none]]
set_option maxRecDepth 100000 in
noncomputable def mc_X0_init : List (List mI) := [[(0, (.aload_n 0, (1, (0, (0, 0))))), (1, (.invokespecial 3, (3, (0, (1, 4))))), (4, (.aload_n 0, (1, (0, (0, 0))))), (5, (.bipush 8, (2, (0, (0, 0))))), (7, (.newarray .int, (2, (0, (0, 0))))), (9, (.putfield 9, (3, (0, (2, 2))))), (12, (.aload_n 0, (1, (0, (0, 0))))), (13, (.aload_n 1, (1, (0, (0, 0))))), (14, (.putfield 15, (3, (0, (0, 2))))), (17, (.aload_n 0, (1, (0, (0, 0))))), (18, (.aload_n 2, (1, (0, (0, 0))))), (19, (.putfield 19, (3, (0, (1, 2))))), (22, (.return_, (1, (0, (0, 0)))))]]
set_option maxRecDepth 100000 in
noncomputable def mc_X0_search : List (List mI) := [[(0, (.aload_n 0, (1, (0, (0, 0))))), (1, (.aload_n 0, (1, (0, (0, 0))))), (2, (.getfield 15, (3, (0, (0, 2))))), (5, (.invokevirtual 23, (3, (40, (1, 0))))), (8, (.bipush 8, (2, (0, (0, 0))))), (10, (.invokestatic 29, (3, (0, (2, 6))))), (13, (.putfield 35, (3, (0, (3, 0))))), (16, (.aload_n 0, (1, (0, (0, 0))))), (17, (.iconst 0, (1, (0, (0, 0))))), (18, (.putfield 39, (3, (0, (5, 1))))), (21, (.aload_n 0, (1, (0, (0, 0))))), (22, (.getfield 19, (3, (0, (1, 2))))), (25, (.invokevirtual 43, (3, (47, (1, 0))))), (28, (.aload_n 0, (1, (0, (0, 0))))), (29, (.iload_n 1, (1, (0, (0, 0))))), (30, (.iconst 0, (1, (0, (0, 0))))), (31, (.invokevirtual 48, (3, (2, (3, 0))))), (34, (.aload_n 0, (1, (0, (0, 0))))), (35, (.getfield 19, (3, (0, (1, 2))))), (38, (.invokevirtual 43, (3, (47, (1, 0))))), (41, (.iconst 0, (1, (0, (0, 0))))), (42, (.istore_n 2, (1, (0, (0, 0))))), (43, (.iload_n 2, (1, (0, (0, 0))))), (44, (.aload_n 0, (1, (0, (0, 0))))), (45, (.getfield 35, (3, (0, (3, 0))))), (48, (.if_icmp .ge 23, (3, (0, (0, 0))))), (51, (.aload_n 0, (1, (0, (0, 0))))), (52, (.getfield 19, (3, (0, (1, 2))))), (55, (.aload_n 0, (1, (0, (0, 0))))), (56, (.getfield 9, (3, (0, (2, 2))))), (59, (.iload_n 2, (1, (0, (0, 0))))), (60, (.iaload, (1, (0, (0, 0))))), (61, (.iconst 0, (1, (0, (0, 0))))), (62, (.invokevirtual 52, (3, (56, (3, 0)))))],
  [(65, (.iinc 2 1, (3, (0, (0, 0))))), (68, (.goto (-25), (3, (0, (0, 0))))), (71, (.return_, (1, (0, (0, 0)))))]]
set_option maxRecDepth 100000 in
noncomputable def mc_X0_explore : List (List mI) := [[(0, (.aload_n 0, (1, (0, (0, 0))))), (1, (.getfield 19, (3, (0, (1, 2))))), (4, (.iload_n 1, (1, (0, (0, 0))))), (5, (.invokevirtual 55, (3, (68, (2, 0))))), (8, (.istore_n 3, (1, (0, (0, 0))))), (9, (.aload_n 0, (1, (0, (0, 0))))), (10, (.getfield 39, (3, (0, (5, 1))))), (13, (.ifCond .eq 12, (3, (0, (0, 0))))), (16, (.iload_n 3, (1, (0, (0, 0))))), (17, (.aload_n 0, (1, (0, (0, 0))))), (18, (.getfield 59, (3, (0, (4, 0))))), (21, (.if_icmp .lt 4, (3, (0, (0, 0))))), (24, (.return_, (1, (0, (0, 0))))), (25, (.iload_n 2, (1, (0, (0, 0))))), (26, (.aload_n 0, (1, (0, (0, 0))))), (27, (.getfield 35, (3, (0, (3, 0))))), (30, (.if_icmp .lt 34, (3, (0, (0, 0))))), (33, (.aload_n 0, (1, (0, (0, 0))))), (34, (.iconst 1, (1, (0, (0, 0))))), (35, (.putfield 39, (3, (0, (5, 1))))), (38, (.aload_n 0, (1, (0, (0, 0))))), (39, (.iload_n 3, (1, (0, (0, 0))))), (40, (.putfield 59, (3, (0, (4, 0))))), (43, (.aload_n 0, (1, (0, (0, 0))))), (44, (.getfield 19, (3, (0, (1, 2))))), (47, (.getfield 62, (3, (8, (2, 2))))), (50, (.iconst 0, (1, (0, (0, 0))))), (51, (.aload_n 0, (1, (0, (0, 0))))), (52, (.getfield 9, (3, (0, (2, 2))))), (55, (.iconst 0, (1, (0, (0, 0))))), (56, (.aload_n 0, (1, (0, (0, 0))))), (57, (.getfield 35, (3, (0, (3, 0))))), (60, (.invokestatic 63, (3, (0, (5, 7))))), (63, (.return_, (1, (0, (0, 0)))))],
  [(64, (.iconst 0, (1, (0, (0, 0))))), (65, (.istore 4, (2, (0, (0, 0))))), (67, (.iload 4, (2, (0, (0, 0))))), (69, (.aload_n 0, (1, (0, (0, 0))))), (70, (.getfield 15, (3, (0, (0, 2))))), (73, (.getfield 69, (3, (7, (0, 0))))), (76, (.if_icmp .ge 46, (3, (0, (0, 0))))), (79, (.aload_n 0, (1, (0, (0, 0))))), (80, (.getfield 19, (3, (0, (1, 2))))), (83, (.iload 4, (2, (0, (0, 0))))), (85, (.invokevirtual 72, (3, (48, (2, 0))))), (88, (.ifCond .eq 28, (3, (0, (0, 0))))), (91, (.aload_n 0, (1, (0, (0, 0))))), (92, (.getfield 19, (3, (0, (1, 2))))), (95, (.iload 4, (2, (0, (0, 0))))), (97, (.iconst 0, (1, (0, (0, 0))))), (98, (.invokevirtual 52, (3, (56, (3, 0))))), (101, (.aload_n 0, (1, (0, (0, 0))))), (102, (.iload_n 1, (1, (0, (0, 0))))), (103, (.iload_n 2, (1, (0, (0, 0))))), (104, (.iconst 1, (1, (0, (0, 0))))), (105, (.iadd, (1, (0, (0, 0))))), (106, (.invokevirtual 48, (3, (2, (3, 0))))), (109, (.aload_n 0, (1, (0, (0, 0))))), (110, (.getfield 19, (3, (0, (1, 2))))), (113, (.invokevirtual 76, (3, (57, (1, 0))))), (116, (.iinc 4 1, (3, (0, (0, 0))))), (119, (.goto (-52), (3, (0, (0, 0))))), (122, (.return_, (1, (0, (0, 0)))))]]
set_option maxRecDepth 100000 in
noncomputable def mc_X1_init : List (List mI) := [[(0, (.aload_n 0, (1, (0, (0, 0))))), (1, (.invokespecial 3, (3, (0, (1, 4))))), (4, (.aload_n 0, (1, (0, (0, 0))))), (5, (.iconst 4, (1, (0, (0, 0))))), (6, (.newarray .int, (2, (0, (0, 0))))), (8, (.putfield 9, (3, (1, (1, 2))))), (11, (.aload_n 0, (1, (0, (0, 0))))), (12, (.iconst 4, (1, (0, (0, 0))))), (13, (.newarray .int, (2, (0, (0, 0))))), (15, (.putfield 15, (3, (1, (2, 2))))), (18, (.aload_n 0, (1, (0, (0, 0))))), (19, (.aload_n 1, (1, (0, (0, 0))))), (20, (.putfield 18, (3, (1, (0, 2))))), (23, (.return_, (1, (0, (0, 0)))))]]
set_option maxRecDepth 100000 in
noncomputable def mc_X1_assign : List (List mI) := [[(0, (.aload_n 0, (1, (0, (0, 0))))), (1, (.iconst (-1), (1, (0, (0, 0))))), (2, (.putfield 22, (3, (1, (3, 0))))), (5, (.aload_n 0, (1, (0, (0, 0))))), (6, (.aload_n 0, (1, (0, (0, 0))))), (7, (.iload_n 1, (1, (0, (0, 0))))), (8, (.invokevirtual 26, (3, (5, (2, 0))))), (11, (.iconst 0, (1, (0, (0, 0))))), (12, (.iconst 0, (1, (0, (0, 0))))), (13, (.iconst 0, (1, (0, (0, 0))))), (14, (.invokevirtual 30, (3, (6, (5, 0))))), (17, (.return_, (1, (0, (0, 0)))))]]
set_option maxRecDepth 100000 in
noncomputable def mc_X1_fillable : List (List mI) := [[(0, (.iconst 0, (1, (0, (0, 0))))), (1, (.istore_n 2, (1, (0, (0, 0))))), (2, (.iconst 0, (1, (0, (0, 0))))), (3, (.istore_n 3, (1, (0, (0, 0))))), (4, (.iload_n 3, (1, (0, (0, 0))))), (5, (.bipush 6, (2, (0, (0, 0))))), (7, (.if_icmp .ge 21, (3, (0, (0, 0))))), (10, (.iload_n 2, (1, (0, (0, 0))))), (11, (.aload_n 0, (1, (0, (0, 0))))), (12, (.getfield 18, (3, (1, (0, 2))))), (15, (.getfield 34, (3, (7, (14, 2))))), (18, (.iload_n 3, (1, (0, (0, 0))))), (19, (.iaload, (1, (0, (0, 0))))), (20, (.ior, (1, (0, (0, 0))))), (21, (.istore_n 2, (1, (0, (0, 0))))), (22, (.iinc 3 1, (3, (0, (0, 0))))), (25, (.goto (-21), (3, (0, (0, 0))))), (28, (.iload_n 1, (1, (0, (0, 0))))), (29, (.iload_n 2, (1, (0, (0, 0))))), (30, (.iand, (1, (0, (0, 0))))), (31, (.ireturn, (1, (0, (0, 0)))))]]
set_option maxRecDepth 100000 in
noncomputable def mc_X1_explore : List (List mI) := [[(0, (.iload 4, (2, (0, (0, 0))))), (2, (.iload_n 1, (1, (0, (0, 0))))), (3, (.iload_n 2, (1, (0, (0, 0))))), (4, (.iushr, (1, (0, (0, 0))))), (5, (.invokestatic 39, (3, (237, (1, 1))))), (8, (.iadd, (1, (0, (0, 0))))), (9, (.aload_n 0, (1, (0, (0, 0))))), (10, (.getfield 22, (3, (1, (3, 0))))), (13, (.if_icmp .gt 4, (3, (0, (0, 0))))), (16, (.return_, (1, (0, (0, 0))))), (17, (.iload_n 2, (1, (0, (0, 0))))), (18, (.iconst 4, (1, (0, (0, 0))))), (19, (.if_icmp .lt 24, (3, (0, (0, 0))))), (22, (.aload_n 0, (1, (0, (0, 0))))), (23, (.iload 4, (2, (0, (0, 0))))), (25, (.putfield 22, (3, (1, (3, 0))))), (28, (.aload_n 0, (1, (0, (0, 0))))), (29, (.getfield 9, (3, (1, (1, 2))))), (32, (.iconst 0, (1, (0, (0, 0))))), (33, (.aload_n 0, (1, (0, (0, 0))))), (34, (.getfield 15, (3, (1, (2, 2))))), (37, (.iconst 0, (1, (0, (0, 0))))), (38, (.iconst 4, (1, (0, (0, 0))))), (39, (.invokestatic 44, (3, (0, (5, 7))))), (42, (.return_, (1, (0, (0, 0))))), (43, (.iload_n 1, (1, (0, (0, 0))))), (44, (.iconst 1, (1, (0, (0, 0))))), (45, (.iload_n 2, (1, (0, (0, 0))))), (46, (.ishl, (1, (0, (0, 0))))), (47, (.iand, (1, (0, (0, 0))))), (48, (.ifCond .eq 71, (3, (0, (0, 0))))), (51, (.iconst 0, (1, (0, (0, 0))))), (52, (.istore 5, (2, (0, (0, 0))))), (54, (.iload 5, (2, (0, (0, 0))))), (56, (.bipush 6, (2, (0, (0, 0))))), (58, (.if_icmp .ge 61, (3, (0, (0, 0))))), (61, (.iload_n 3, (1, (0, (0, 0))))), (62, (.iconst 1, (1, (0, (0, 0))))), (63, (.iload 5, (2, (0, (0, 0)))))],
  [(65, (.ishl, (1, (0, (0, 0))))), (66, (.iand, (1, (0, (0, 0))))), (67, (.ifCond .ne 46, (3, (0, (0, 0))))), (70, (.aload_n 0, (1, (0, (0, 0))))), (71, (.getfield 18, (3, (1, (0, 2))))), (74, (.getfield 34, (3, (7, (14, 2))))), (77, (.iload 5, (2, (0, (0, 0))))), (79, (.iaload, (1, (0, (0, 0))))), (80, (.iconst 1, (1, (0, (0, 0))))), (81, (.iload_n 2, (1, (0, (0, 0))))), (82, (.ishl, (1, (0, (0, 0))))), (83, (.iand, (1, (0, (0, 0))))), (84, (.ifCond .eq 29, (3, (0, (0, 0))))), (87, (.aload_n 0, (1, (0, (0, 0))))), (88, (.getfield 9, (3, (1, (1, 2))))), (91, (.iload_n 2, (1, (0, (0, 0))))), (92, (.iload 5, (2, (0, (0, 0))))), (94, (.iastore, (1, (0, (0, 0))))), (95, (.aload_n 0, (1, (0, (0, 0))))), (96, (.iload_n 1, (1, (0, (0, 0))))), (97, (.iload_n 2, (1, (0, (0, 0))))), (98, (.iconst 1, (1, (0, (0, 0))))), (99, (.iadd, (1, (0, (0, 0))))), (100, (.iload_n 3, (1, (0, (0, 0))))), (101, (.iconst 1, (1, (0, (0, 0))))), (102, (.iload 5, (2, (0, (0, 0))))), (104, (.ishl, (1, (0, (0, 0))))), (105, (.ior, (1, (0, (0, 0))))), (106, (.iload 4, (2, (0, (0, 0))))), (108, (.iconst 1, (1, (0, (0, 0))))), (109, (.iadd, (1, (0, (0, 0))))), (110, (.invokevirtual 30, (3, (6, (5, 0))))), (113, (.iinc 5 1, (3, (0, (0, 0))))), (116, (.goto (-62), (3, (0, (0, 0))))), (119, (.aload_n 0, (1, (0, (0, 0))))), (120, (.getfield 9, (3, (1, (1, 2))))), (123, (.iload_n 2, (1, (0, (0, 0))))), (124, (.iconst (-1), (1, (0, (0, 0))))), (125, (.iastore, (1, (0, (0, 0))))), (126, (.aload_n 0, (1, (0, (0, 0))))), (127, (.iload_n 1, (1, (0, (0, 0)))))],
  [(128, (.iload_n 2, (1, (0, (0, 0))))), (129, (.iconst 1, (1, (0, (0, 0))))), (130, (.iadd, (1, (0, (0, 0))))), (131, (.iload_n 3, (1, (0, (0, 0))))), (132, (.iload 4, (2, (0, (0, 0))))), (134, (.invokevirtual 30, (3, (6, (5, 0))))), (137, (.return_, (1, (0, (0, 0)))))]]
set_option maxRecDepth 100000 in
noncomputable def mc_X2_init : List (List mI) := [[(0, (.aload_n 0, (1, (0, (0, 0))))), (1, (.invokespecial 3, (3, (0, (1, 4))))), (4, (.aload_n 0, (1, (0, (0, 0))))), (5, (.sipush 5000, (3, (0, (0, 0))))), (8, (.newarray .int, (2, (0, (0, 0))))), (10, (.putfield 9, (3, (2, (2, 2))))), (13, (.aload_n 0, (1, (0, (0, 0))))), (14, (.aload_n 1, (1, (0, (0, 0))))), (15, (.putfield 15, (3, (2, (0, 2))))), (18, (.aload_n 0, (1, (0, (0, 0))))), (19, (.aload_n 2, (1, (0, (0, 0))))), (20, (.putfield 19, (3, (2, (1, 2))))), (23, (.return_, (1, (0, (0, 0)))))]]
set_option maxRecDepth 100000 in
noncomputable def mc_X2_wrongHours : List (List mI) := [[(0, (.aload_n 0, (1, (0, (0, 0))))), (1, (.getfield 9, (3, (2, (2, 2))))), (4, (.iconst 0, (1, (0, (0, 0))))), (5, (.invokestatic 23, (3, (241, (2, 1))))), (8, (.iconst 0, (1, (0, (0, 0))))), (9, (.istore_n 1, (1, (0, (0, 0))))), (10, (.iload_n 1, (1, (0, (0, 0))))), (11, (.aload_n 0, (1, (0, (0, 0))))), (12, (.getfield 15, (3, (2, (0, 2))))), (15, (.getfield 29, (3, (7, (0, 0))))), (18, (.if_icmp .ge 40, (3, (0, (0, 0))))), (21, (.iconst 0, (1, (0, (0, 0))))), (22, (.istore_n 2, (1, (0, (0, 0))))), (23, (.iload_n 2, (1, (0, (0, 0))))), (24, (.aload_n 0, (1, (0, (0, 0))))), (25, (.getfield 15, (3, (2, (0, 2))))), (28, (.getfield 35, (3, (7, (5, 2))))), (31, (.iload_n 1, (1, (0, (0, 0))))), (32, (.iaload, (1, (0, (0, 0))))), (33, (.if_icmp .ge 19, (3, (0, (0, 0))))), (36, (.aload_n 0, (1, (0, (0, 0))))), (37, (.iload_n 1, (1, (0, (0, 0))))), (38, (.iload_n 1, (1, (0, (0, 0))))), (39, (.iconst 5, (1, (0, (0, 0))))), (40, (.imul, (1, (0, (0, 0))))), (41, (.iload_n 2, (1, (0, (0, 0))))), (42, (.iadd, (1, (0, (0, 0))))), (43, (.invokevirtual 38, (3, (9, (3, 0))))), (46, (.iinc 2 1, (3, (0, (0, 0))))), (49, (.goto (-26), (3, (0, (0, 0))))), (52, (.iinc 1 1, (3, (0, (0, 0))))), (55, (.goto (-45), (3, (0, (0, 0))))), (58, (.iconst 0, (1, (0, (0, 0))))), (59, (.istore_n 1, (1, (0, (0, 0))))), (60, (.iconst 0, (1, (0, (0, 0))))), (61, (.istore_n 2, (1, (0, (0, 0))))), (62, (.iload_n 2, (1, (0, (0, 0))))), (63, (.aload_n 0, (1, (0, (0, 0)))))],
  [(64, (.getfield 9, (3, (2, (2, 2))))), (67, (.arraylength, (1, (0, (0, 0))))), (68, (.if_icmp .ge 30, (3, (0, (0, 0))))), (71, (.iload_n 1, (1, (0, (0, 0))))), (72, (.aload_n 0, (1, (0, (0, 0))))), (73, (.getfield 9, (3, (2, (2, 2))))), (76, (.iload_n 2, (1, (0, (0, 0))))), (77, (.iaload, (1, (0, (0, 0))))), (78, (.sipush 1024, (3, (0, (0, 0))))), (81, (.iand, (1, (0, (0, 0))))), (82, (.ifCond .ne 7, (3, (0, (0, 0))))), (85, (.iconst 0, (1, (0, (0, 0))))), (86, (.goto 4, (3, (0, (0, 0))))), (89, (.iconst 1, (1, (0, (0, 0))))), (90, (.iadd, (1, (0, (0, 0))))), (91, (.istore_n 1, (1, (0, (0, 0))))), (92, (.iinc 2 1, (3, (0, (0, 0))))), (95, (.goto (-33), (3, (0, (0, 0))))), (98, (.iload_n 1, (1, (0, (0, 0))))), (99, (.ireturn, (1, (0, (0, 0)))))]]
set_option maxRecDepth 100000 in
noncomputable def mc_X2_markStep : List (List mI) := [[(0, (.aload_n 0, (1, (0, (0, 0))))), (1, (.getfield 15, (3, (2, (0, 2))))), (4, (.getfield 42, (3, (7, (6, 2))))), (7, (.iload_n 2, (1, (0, (0, 0))))), (8, (.iaload, (1, (0, (0, 0))))), (9, (.istore_n 3, (1, (0, (0, 0))))), (10, (.iconst 1, (1, (0, (0, 0))))), (11, (.iload_n 3, (1, (0, (0, 0))))), (12, (.ishl, (1, (0, (0, 0))))), (13, (.iconst 1, (1, (0, (0, 0))))), (14, (.iconst 4, (1, (0, (0, 0))))), (15, (.iload_n 1, (1, (0, (0, 0))))), (16, (.iadd, (1, (0, (0, 0))))), (17, (.ishl, (1, (0, (0, 0))))), (18, (.ior, (1, (0, (0, 0))))), (19, (.istore 4, (2, (0, (0, 0))))), (21, (.aload_n 0, (1, (0, (0, 0))))), (22, (.getfield 19, (3, (2, (1, 2))))), (25, (.iload_n 2, (1, (0, (0, 0))))), (26, (.invokevirtual 45, (3, (49, (2, 0))))), (29, (.aload_n 0, (1, (0, (0, 0))))), (30, (.getfield 9, (3, (2, (2, 2))))), (33, (.arraylength, (1, (0, (0, 0))))), (34, (.invokestatic 51, (3, (0, (2, 6))))), (37, (.istore 5, (2, (0, (0, 0))))), (39, (.aload_n 0, (1, (0, (0, 0))))), (40, (.getfield 19, (3, (2, (1, 2))))), (43, (.getfield 57, (3, (8, (6, 2))))), (46, (.iload_n 2, (1, (0, (0, 0))))), (47, (.iaload, (1, (0, (0, 0))))), (48, (.iconst 0, (1, (0, (0, 0))))), (49, (.invokestatic 60, (3, (0, (2, 5))))), (52, (.istore 6, (2, (0, (0, 0))))), (54, (.iload 6, (2, (0, (0, 0))))), (56, (.iload 5, (2, (0, (0, 0))))), (58, (.if_icmp .ge 68, (3, (0, (0, 0))))), (61, (.aload_n 0, (1, (0, (0, 0))))), (62, (.getfield 9, (3, (2, (2, 2)))))],
  [(65, (.iload 6, (2, (0, (0, 0))))), (67, (.iaload, (1, (0, (0, 0))))), (68, (.iload 4, (2, (0, (0, 0))))), (70, (.iand, (1, (0, (0, 0))))), (71, (.ifCond .ne 16, (3, (0, (0, 0))))), (74, (.aload_n 0, (1, (0, (0, 0))))), (75, (.getfield 15, (3, (2, (0, 2))))), (78, (.iload_n 3, (1, (0, (0, 0))))), (79, (.iload 6, (2, (0, (0, 0))))), (81, (.invokevirtual 63, (3, (44, (3, 0))))), (84, (.ifCond .eq 7, (3, (0, (0, 0))))), (87, (.iconst 1, (1, (0, (0, 0))))), (88, (.goto 4, (3, (0, (0, 0))))), (91, (.iconst 0, (1, (0, (0, 0))))), (92, (.istore 7, (2, (0, (0, 0))))), (94, (.aload_n 0, (1, (0, (0, 0))))), (95, (.getfield 9, (3, (2, (2, 2))))), (98, (.iload 6, (2, (0, (0, 0))))), (100, (.dup2, (1, (0, (0, 0))))), (101, (.iaload, (1, (0, (0, 0))))), (102, (.iload 7, (2, (0, (0, 0))))), (104, (.ifCond .eq 12, (3, (0, (0, 0))))), (107, (.iload 4, (2, (0, (0, 0))))), (109, (.sipush 1024, (3, (0, (0, 0))))), (112, (.ior, (1, (0, (0, 0))))), (113, (.goto 5, (3, (0, (0, 0))))), (116, (.iload 4, (2, (0, (0, 0))))), (118, (.ior, (1, (0, (0, 0))))), (119, (.iastore, (1, (0, (0, 0))))), (120, (.iinc 6 1, (3, (0, (0, 0))))), (123, (.goto (-69), (3, (0, (0, 0))))), (126, (.return_, (1, (0, (0, 0)))))]]
set_option maxRecDepth 100000 in
noncomputable def mc_X3_init : List (List mI) := [[(0, (.aload_n 0, (1, (0, (0, 0))))), (1, (.invokespecial 3, (3, (0, (1, 4))))), (4, (.aload_n 0, (1, (0, (0, 0))))), (5, (.bipush 6, (2, (0, (0, 0))))), (7, (.newarray .int, (2, (0, (0, 0))))), (9, (.putfield 9, (3, (3, (0, 2))))), (12, (.aload_n 0, (1, (0, (0, 0))))), (13, (.bipush 6, (2, (0, (0, 0))))), (15, (.newarray .int, (2, (0, (0, 0))))), (17, (.putfield 15, (3, (3, (1, 2))))), (20, (.return_, (1, (0, (0, 0)))))]]
set_option maxRecDepth 100000 in
noncomputable def mc_X3_clear : List (List mI) := [[(0, (.aload_n 0, (1, (0, (0, 0))))), (1, (.iconst 0, (1, (0, (0, 0))))), (2, (.putfield 18, (3, (3, (2, 0))))), (5, (.return_, (1, (0, (0, 0)))))]]
set_option maxRecDepth 100000 in
noncomputable def mc_X3_insert : List (List mI) := [[(0, (.aload_n 0, (1, (0, (0, 0))))), (1, (.getfield 18, (3, (3, (2, 0))))), (4, (.bipush 6, (2, (0, (0, 0))))), (6, (.if_icmp .lt 4, (3, (0, (0, 0))))), (9, (.return_, (1, (0, (0, 0))))), (10, (.aload_n 0, (1, (0, (0, 0))))), (11, (.getfield 18, (3, (3, (2, 0))))), (14, (.istore_n 3, (1, (0, (0, 0))))), (15, (.iload_n 3, (1, (0, (0, 0))))), (16, (.ifCond .le 49, (3, (0, (0, 0))))), (19, (.aload_n 0, (1, (0, (0, 0))))), (20, (.getfield 15, (3, (3, (1, 2))))), (23, (.iload_n 3, (1, (0, (0, 0))))), (24, (.iconst 1, (1, (0, (0, 0))))), (25, (.isub, (1, (0, (0, 0))))), (26, (.iaload, (1, (0, (0, 0))))), (27, (.iload_n 2, (1, (0, (0, 0))))), (28, (.if_icmp .le 37, (3, (0, (0, 0))))), (31, (.aload_n 0, (1, (0, (0, 0))))), (32, (.getfield 15, (3, (3, (1, 2))))), (35, (.iload_n 3, (1, (0, (0, 0))))), (36, (.aload_n 0, (1, (0, (0, 0))))), (37, (.getfield 15, (3, (3, (1, 2))))), (40, (.iload_n 3, (1, (0, (0, 0))))), (41, (.iconst 1, (1, (0, (0, 0))))), (42, (.isub, (1, (0, (0, 0))))), (43, (.iaload, (1, (0, (0, 0))))), (44, (.iastore, (1, (0, (0, 0))))), (45, (.aload_n 0, (1, (0, (0, 0))))), (46, (.getfield 9, (3, (3, (0, 2))))), (49, (.iload_n 3, (1, (0, (0, 0))))), (50, (.aload_n 0, (1, (0, (0, 0))))), (51, (.getfield 9, (3, (3, (0, 2))))), (54, (.iload_n 3, (1, (0, (0, 0))))), (55, (.iconst 1, (1, (0, (0, 0))))), (56, (.isub, (1, (0, (0, 0))))), (57, (.iaload, (1, (0, (0, 0))))), (58, (.iastore, (1, (0, (0, 0))))), (59, (.iinc 3 (-1), (3, (0, (0, 0))))), (62, (.goto (-47), (3, (0, (0, 0)))))],
  [(65, (.aload_n 0, (1, (0, (0, 0))))), (66, (.getfield 15, (3, (3, (1, 2))))), (69, (.iload_n 3, (1, (0, (0, 0))))), (70, (.iload_n 2, (1, (0, (0, 0))))), (71, (.iastore, (1, (0, (0, 0))))), (72, (.aload_n 0, (1, (0, (0, 0))))), (73, (.getfield 9, (3, (3, (0, 2))))), (76, (.iload_n 3, (1, (0, (0, 0))))), (77, (.iload_n 1, (1, (0, (0, 0))))), (78, (.iastore, (1, (0, (0, 0))))), (79, (.aload_n 0, (1, (0, (0, 0))))), (80, (.dup, (1, (0, (0, 0))))), (81, (.getfield 18, (3, (3, (2, 0))))), (84, (.iconst 1, (1, (0, (0, 0))))), (85, (.iadd, (1, (0, (0, 0))))), (86, (.putfield 18, (3, (3, (2, 0))))), (89, (.return_, (1, (0, (0, 0)))))]]
set_option maxRecDepth 100000 in
noncomputable def mc_X4_init : List (List mI) := [[(0, (.aload_n 0, (1, (0, (0, 0))))), (1, (.invokespecial 3, (3, (0, (1, 4))))), (4, (.aload_n 0, (1, (0, (0, 0))))), (5, (.sipush 251, (3, (0, (0, 0))))), (8, (.newarray .long, (2, (0, (0, 0))))), (10, (.putfield 9, (3, (4, (1, 2))))), (13, (.aload_n 0, (1, (0, (0, 0))))), (14, (.aload_n 1, (1, (0, (0, 0))))), (15, (.putfield 15, (3, (4, (0, 2))))), (18, (.return_, (1, (0, (0, 0)))))]]
set_option maxRecDepth 100000 in
noncomputable def mc_X4_hourOf : List (List mI) := [[(0, (.aload_n 0, (1, (0, (0, 0))))), (1, (.getfield 15, (3, (4, (0, 2))))), (4, (.iload_n 1, (1, (0, (0, 0))))), (5, (.iconst 0, (1, (0, (0, 0))))), (6, (.invokevirtual 19, (3, (41, (3, 0))))), (9, (.aload_n 0, (1, (0, (0, 0))))), (10, (.getfield 9, (3, (4, (1, 2))))), (13, (.arraylength, (1, (0, (0, 0))))), (14, (.iconst 1, (1, (0, (0, 0))))), (15, (.isub, (1, (0, (0, 0))))), (16, (.invokestatic 25, (3, (0, (2, 6))))), (19, (.istore 4, (2, (0, (0, 0))))), (21, (.aload_n 0, (1, (0, (0, 0))))), (22, (.iload_n 1, (1, (0, (0, 0))))), (23, (.iload_n 2, (1, (0, (0, 0))))), (24, (.iload 4, (2, (0, (0, 0))))), (26, (.invokevirtual 30, (3, (15, (4, 0))))), (29, (.lstore 5, (2, (0, (0, 0))))), (31, (.lconst 0, (1, (0, (0, 0))))), (32, (.lstore 7, (2, (0, (0, 0))))), (34, (.iconst (-1), (1, (0, (0, 0))))), (35, (.istore 9, (2, (0, (0, 0))))), (37, (.iload 9, (2, (0, (0, 0))))), (39, (.iload 4, (2, (0, (0, 0))))), (41, (.if_icmp .ge 36, (3, (0, (0, 0))))), (44, (.lload 7, (2, (0, (0, 0))))), (46, (.ldc2_w 34, (3, (1000, (0, 0))))), (49, (.lmul, (1, (0, (0, 0))))), (50, (.iload_n 3, (1, (0, (0, 0))))), (51, (.i2l, (1, (0, (0, 0))))), (52, (.lload 5, (2, (0, (0, 0))))), (54, (.lmul, (1, (0, (0, 0))))), (55, (.lcmp, (1, (0, (0, 0))))), (56, (.ifCond .ge 21, (3, (0, (0, 0))))), (59, (.iinc 9 1, (3, (0, (0, 0))))), (62, (.lload 7, (2, (0, (0, 0)))))],
  [(64, (.aload_n 0, (1, (0, (0, 0))))), (65, (.getfield 9, (3, (4, (1, 2))))), (68, (.iload 9, (2, (0, (0, 0))))), (70, (.laload, (1, (0, (0, 0))))), (71, (.ladd, (1, (0, (0, 0))))), (72, (.lstore 7, (2, (0, (0, 0))))), (74, (.goto (-37), (3, (0, (0, 0))))), (77, (.aload_n 0, (1, (0, (0, 0))))), (78, (.getfield 15, (3, (4, (0, 2))))), (81, (.getfield 36, (3, (7, (1, 2))))), (84, (.iload_n 1, (1, (0, (0, 0))))), (85, (.iaload, (1, (0, (0, 0))))), (86, (.iload 4, (2, (0, (0, 0))))), (88, (.iadd, (1, (0, (0, 0))))), (89, (.iload 9, (2, (0, (0, 0))))), (91, (.iconst 0, (1, (0, (0, 0))))), (92, (.invokestatic 40, (3, (0, (2, 5))))), (95, (.iadd, (1, (0, (0, 0))))), (96, (.ireturn, (1, (0, (0, 0)))))]]
set_option maxRecDepth 100000 in
noncomputable def mc_X4_spread : List (List mI) := [[(0, (.aload_n 0, (1, (0, (0, 0))))), (1, (.getfield 9, (3, (4, (1, 2))))), (4, (.lconst 0, (1, (0, (0, 0))))), (5, (.invokestatic 43, (3, (240, (2, 1))))), (8, (.aload_n 0, (1, (0, (0, 0))))), (9, (.getfield 9, (3, (4, (1, 2))))), (12, (.iconst 0, (1, (0, (0, 0))))), (13, (.lconst 1, (1, (0, (0, 0))))), (14, (.lastore, (1, (0, (0, 0))))), (15, (.lconst 1, (1, (0, (0, 0))))), (16, (.lstore 4, (2, (0, (0, 0))))), (18, (.iconst 0, (1, (0, (0, 0))))), (19, (.istore 6, (2, (0, (0, 0))))), (21, (.iload 6, (2, (0, (0, 0))))), (23, (.aload_n 0, (1, (0, (0, 0))))), (24, (.getfield 15, (3, (4, (0, 2))))), (27, (.getfield 49, (3, (7, (5, 2))))), (30, (.iload_n 1, (1, (0, (0, 0))))), (31, (.iaload, (1, (0, (0, 0))))), (32, (.if_icmp .ge 97, (3, (0, (0, 0))))), (35, (.aload_n 0, (1, (0, (0, 0))))), (36, (.getfield 15, (3, (4, (0, 2))))), (39, (.getfield 52, (3, (7, (7, 2))))), (42, (.iload_n 1, (1, (0, (0, 0))))), (43, (.iconst 5, (1, (0, (0, 0))))), (44, (.imul, (1, (0, (0, 0))))), (45, (.iload 6, (2, (0, (0, 0))))), (47, (.iadd, (1, (0, (0, 0))))), (48, (.iaload, (1, (0, (0, 0))))), (49, (.istore 7, (2, (0, (0, 0))))), (51, (.iload_n 3, (1, (0, (0, 0))))), (52, (.istore 8, (2, (0, (0, 0))))), (54, (.iload 8, (2, (0, (0, 0))))), (56, (.ifCond .lt 59, (3, (0, (0, 0))))), (59, (.iload 8, (2, (0, (0, 0))))), (61, (.iload 7, (2, (0, (0, 0))))), (63, (.if_icmp .lt 19, (3, (0, (0, 0)))))],
  [(66, (.aload_n 0, (1, (0, (0, 0))))), (67, (.getfield 9, (3, (4, (1, 2))))), (70, (.iload 8, (2, (0, (0, 0))))), (72, (.iload 7, (2, (0, (0, 0))))), (74, (.isub, (1, (0, (0, 0))))), (75, (.laload, (1, (0, (0, 0))))), (76, (.iload_n 2, (1, (0, (0, 0))))), (77, (.i2l, (1, (0, (0, 0))))), (78, (.lmul, (1, (0, (0, 0))))), (79, (.goto 4, (3, (0, (0, 0))))), (82, (.lconst 0, (1, (0, (0, 0))))), (83, (.lstore 9, (2, (0, (0, 0))))), (85, (.aload_n 0, (1, (0, (0, 0))))), (86, (.getfield 9, (3, (4, (1, 2))))), (89, (.iload 8, (2, (0, (0, 0))))), (91, (.aload_n 0, (1, (0, (0, 0))))), (92, (.getfield 9, (3, (4, (1, 2))))), (95, (.iload 8, (2, (0, (0, 0))))), (97, (.laload, (1, (0, (0, 0))))), (98, (.sipush 1000, (3, (0, (0, 0))))), (101, (.iload_n 2, (1, (0, (0, 0))))), (102, (.isub, (1, (0, (0, 0))))), (103, (.i2l, (1, (0, (0, 0))))), (104, (.lmul, (1, (0, (0, 0))))), (105, (.lload 9, (2, (0, (0, 0))))), (107, (.ladd, (1, (0, (0, 0))))), (108, (.lastore, (1, (0, (0, 0))))), (109, (.iinc 8 (-1), (3, (0, (0, 0))))), (112, (.goto (-58), (3, (0, (0, 0))))), (115, (.lload 4, (2, (0, (0, 0))))), (117, (.ldc2_w 34, (3, (1000, (0, 0))))), (120, (.lmul, (1, (0, (0, 0))))), (121, (.lstore 4, (2, (0, (0, 0))))), (123, (.iinc 6 1, (3, (0, (0, 0))))), (126, (.goto (-105), (3, (0, (0, 0)))))],
  [(129, (.lload 4, (2, (0, (0, 0))))), (131, (.lreturn, (1, (0, (0, 0)))))]]
set_option maxRecDepth 100000 in
noncomputable def mc_X5_init : List (List mI) := [[(0, (.aload_n 0, (1, (0, (0, 0))))), (1, (.invokespecial 3, (3, (0, (1, 4))))), (4, (.aload_n 0, (1, (0, (0, 0))))), (5, (.new 9, (3, (3, (0, 0))))), (8, (.dup, (1, (0, (0, 0))))), (9, (.invokespecial 11, (3, (10, (1, 3))))), (12, (.putfield 12, (3, (5, (1, 2))))), (15, (.aload_n 0, (1, (0, (0, 0))))), (16, (.aload_n 1, (1, (0, (0, 0))))), (17, (.putfield 18, (3, (5, (0, 2))))), (20, (.return_, (1, (0, (0, 0)))))]]
set_option maxRecDepth 100000 in
noncomputable def mc_X5_sortByLength : List (List mI) := [[(0, (.aload_n 0, (1, (0, (0, 0))))), (1, (.getfield 12, (3, (5, (1, 2))))), (4, (.invokevirtual 22, (3, (11, (1, 0))))), (7, (.iconst 0, (1, (0, (0, 0))))), (8, (.istore_n 1, (1, (0, (0, 0))))), (9, (.iload_n 1, (1, (0, (0, 0))))), (10, (.aload_n 0, (1, (0, (0, 0))))), (11, (.getfield 18, (3, (5, (0, 2))))), (14, (.getfield 25, (3, (7, (0, 0))))), (17, (.if_icmp .ge 26, (3, (0, (0, 0))))), (20, (.aload_n 0, (1, (0, (0, 0))))), (21, (.getfield 12, (3, (5, (1, 2))))), (24, (.iload_n 1, (1, (0, (0, 0))))), (25, (.aload_n 0, (1, (0, (0, 0))))), (26, (.getfield 18, (3, (5, (0, 2))))), (29, (.iload_n 1, (1, (0, (0, 0))))), (30, (.iconst 0, (1, (0, (0, 0))))), (31, (.invokevirtual 31, (3, (41, (3, 0))))), (34, (.invokevirtual 35, (3, (12, (3, 0))))), (37, (.iinc 1 1, (3, (0, (0, 0))))), (40, (.goto (-31), (3, (0, (0, 0))))), (43, (.return_, (1, (0, (0, 0)))))]]
set_option maxRecDepth 100000 in
noncomputable def mc_X5_sortByDue : List (List mI) := [[(0, (.aload_n 0, (1, (0, (0, 0))))), (1, (.getfield 12, (3, (5, (1, 2))))), (4, (.invokevirtual 22, (3, (11, (1, 0))))), (7, (.iconst 0, (1, (0, (0, 0))))), (8, (.istore_n 1, (1, (0, (0, 0))))), (9, (.iload_n 1, (1, (0, (0, 0))))), (10, (.aload_n 0, (1, (0, (0, 0))))), (11, (.getfield 18, (3, (5, (0, 2))))), (14, (.getfield 25, (3, (7, (0, 0))))), (17, (.if_icmp .ge 26, (3, (0, (0, 0))))), (20, (.aload_n 0, (1, (0, (0, 0))))), (21, (.getfield 12, (3, (5, (1, 2))))), (24, (.iload_n 1, (1, (0, (0, 0))))), (25, (.aload_n 0, (1, (0, (0, 0))))), (26, (.getfield 18, (3, (5, (0, 2))))), (29, (.getfield 39, (3, (7, (2, 2))))), (32, (.iload_n 1, (1, (0, (0, 0))))), (33, (.iaload, (1, (0, (0, 0))))), (34, (.invokevirtual 35, (3, (12, (3, 0))))), (37, (.iinc 1 1, (3, (0, (0, 0))))), (40, (.goto (-31), (3, (0, (0, 0))))), (43, (.return_, (1, (0, (0, 0)))))]]
set_option maxRecDepth 100000 in
noncomputable def mc_X5_sumOfEnds : List (List mI) := [[(0, (.aload_n 0, (1, (0, (0, 0))))), (1, (.invokevirtual 43, (3, (17, (1, 0))))), (4, (.iconst 0, (1, (0, (0, 0))))), (5, (.istore_n 1, (1, (0, (0, 0))))), (6, (.iconst 0, (1, (0, (0, 0))))), (7, (.istore_n 2, (1, (0, (0, 0))))), (8, (.iconst 0, (1, (0, (0, 0))))), (9, (.istore_n 3, (1, (0, (0, 0))))), (10, (.iload_n 3, (1, (0, (0, 0))))), (11, (.aload_n 0, (1, (0, (0, 0))))), (12, (.getfield 12, (3, (5, (1, 2))))), (15, (.getfield 46, (3, (3, (2, 0))))), (18, (.if_icmp .ge 33, (3, (0, (0, 0))))), (21, (.iload_n 1, (1, (0, (0, 0))))), (22, (.aload_n 0, (1, (0, (0, 0))))), (23, (.getfield 18, (3, (5, (0, 2))))), (26, (.aload_n 0, (1, (0, (0, 0))))), (27, (.getfield 12, (3, (5, (1, 2))))), (30, (.getfield 49, (3, (3, (0, 2))))), (33, (.iload_n 3, (1, (0, (0, 0))))), (34, (.iaload, (1, (0, (0, 0))))), (35, (.iconst 0, (1, (0, (0, 0))))), (36, (.invokevirtual 31, (3, (41, (3, 0))))), (39, (.iadd, (1, (0, (0, 0))))), (40, (.istore_n 1, (1, (0, (0, 0))))), (41, (.iload_n 2, (1, (0, (0, 0))))), (42, (.iload_n 1, (1, (0, (0, 0))))), (43, (.iadd, (1, (0, (0, 0))))), (44, (.istore_n 2, (1, (0, (0, 0))))), (45, (.iinc 3 1, (3, (0, (0, 0))))), (48, (.goto (-38), (3, (0, (0, 0))))), (51, (.iload_n 2, (1, (0, (0, 0))))), (52, (.ireturn, (1, (0, (0, 0)))))]]
set_option maxRecDepth 100000 in
noncomputable def mc_X5_greatestLateness : List (List mI) := [[(0, (.aload_n 0, (1, (0, (0, 0))))), (1, (.invokevirtual 51, (3, (18, (1, 0))))), (4, (.iconst 0, (1, (0, (0, 0))))), (5, (.istore_n 1, (1, (0, (0, 0))))), (6, (.iconst 0, (1, (0, (0, 0))))), (7, (.istore_n 2, (1, (0, (0, 0))))), (8, (.iconst 0, (1, (0, (0, 0))))), (9, (.istore_n 3, (1, (0, (0, 0))))), (10, (.iload_n 3, (1, (0, (0, 0))))), (11, (.aload_n 0, (1, (0, (0, 0))))), (12, (.getfield 12, (3, (5, (1, 2))))), (15, (.getfield 46, (3, (3, (2, 0))))), (18, (.if_icmp .ge 63, (3, (0, (0, 0))))), (21, (.aload_n 0, (1, (0, (0, 0))))), (22, (.getfield 12, (3, (5, (1, 2))))), (25, (.getfield 49, (3, (3, (0, 2))))), (28, (.iload_n 3, (1, (0, (0, 0))))), (29, (.iaload, (1, (0, (0, 0))))), (30, (.istore 4, (2, (0, (0, 0))))), (32, (.iload_n 1, (1, (0, (0, 0))))), (33, (.aload_n 0, (1, (0, (0, 0))))), (34, (.getfield 18, (3, (5, (0, 2))))), (37, (.iload 4, (2, (0, (0, 0))))), (39, (.iconst 0, (1, (0, (0, 0))))), (40, (.invokevirtual 31, (3, (41, (3, 0))))), (43, (.iadd, (1, (0, (0, 0))))), (44, (.istore_n 1, (1, (0, (0, 0))))), (45, (.iload_n 1, (1, (0, (0, 0))))), (46, (.aload_n 0, (1, (0, (0, 0))))), (47, (.getfield 18, (3, (5, (0, 2))))), (50, (.getfield 39, (3, (7, (2, 2))))), (53, (.iload 4, (2, (0, (0, 0))))), (55, (.iaload, (1, (0, (0, 0))))), (56, (.isub, (1, (0, (0, 0))))), (57, (.istore 5, (2, (0, (0, 0))))), (59, (.iload_n 3, (1, (0, (0, 0))))), (60, (.ifCond .ne 8, (3, (0, (0, 0))))), (63, (.iload 5, (2, (0, (0, 0)))))],
  [(65, (.goto 9, (3, (0, (0, 0))))), (68, (.iload_n 2, (1, (0, (0, 0))))), (69, (.iload 5, (2, (0, (0, 0))))), (71, (.invokestatic 54, (3, (0, (2, 5))))), (74, (.istore_n 2, (1, (0, (0, 0))))), (75, (.iinc 3 1, (3, (0, (0, 0))))), (78, (.goto (-68), (3, (0, (0, 0))))), (81, (.iload_n 2, (1, (0, (0, 0))))), (82, (.ireturn, (1, (0, (0, 0)))))]]
set_option maxRecDepth 100000 in
noncomputable def mc_X5_droppedJobs : List (List mI) := [[(0, (.aload_n 0, (1, (0, (0, 0))))), (1, (.invokevirtual 51, (3, (18, (1, 0))))), (4, (.iconst 0, (1, (0, (0, 0))))), (5, (.istore_n 1, (1, (0, (0, 0))))), (6, (.iconst 0, (1, (0, (0, 0))))), (7, (.istore_n 2, (1, (0, (0, 0))))), (8, (.iconst 0, (1, (0, (0, 0))))), (9, (.istore_n 3, (1, (0, (0, 0))))), (10, (.iconst 0, (1, (0, (0, 0))))), (11, (.istore 4, (2, (0, (0, 0))))), (13, (.iload 4, (2, (0, (0, 0))))), (15, (.aload_n 0, (1, (0, (0, 0))))), (16, (.getfield 12, (3, (5, (1, 2))))), (19, (.getfield 46, (3, (3, (2, 0))))), (22, (.if_icmp .ge 91, (3, (0, (0, 0))))), (25, (.aload_n 0, (1, (0, (0, 0))))), (26, (.getfield 12, (3, (5, (1, 2))))), (29, (.getfield 49, (3, (3, (0, 2))))), (32, (.iload 4, (2, (0, (0, 0))))), (34, (.iaload, (1, (0, (0, 0))))), (35, (.istore 5, (2, (0, (0, 0))))), (37, (.iload_n 2, (1, (0, (0, 0))))), (38, (.iconst 1, (1, (0, (0, 0))))), (39, (.iload 5, (2, (0, (0, 0))))), (41, (.ishl, (1, (0, (0, 0))))), (42, (.ior, (1, (0, (0, 0))))), (43, (.istore_n 2, (1, (0, (0, 0))))), (44, (.iload_n 1, (1, (0, (0, 0))))), (45, (.aload_n 0, (1, (0, (0, 0))))), (46, (.getfield 18, (3, (5, (0, 2))))), (49, (.iload 5, (2, (0, (0, 0))))), (51, (.iconst 0, (1, (0, (0, 0))))), (52, (.invokevirtual 31, (3, (41, (3, 0))))), (55, (.iadd, (1, (0, (0, 0))))), (56, (.istore_n 1, (1, (0, (0, 0))))), (57, (.iload_n 1, (1, (0, (0, 0))))), (58, (.aload_n 0, (1, (0, (0, 0))))), (59, (.getfield 18, (3, (5, (0, 2))))), (62, (.getfield 39, (3, (7, (2, 2)))))],
  [(65, (.iload 5, (2, (0, (0, 0))))), (67, (.iaload, (1, (0, (0, 0))))), (68, (.if_icmp .le 39, (3, (0, (0, 0))))), (71, (.aload_n 0, (1, (0, (0, 0))))), (72, (.iload_n 2, (1, (0, (0, 0))))), (73, (.invokevirtual 59, (3, (22, (2, 0))))), (76, (.istore 6, (2, (0, (0, 0))))), (78, (.iload_n 2, (1, (0, (0, 0))))), (79, (.iconst 1, (1, (0, (0, 0))))), (80, (.iload 6, (2, (0, (0, 0))))), (82, (.ishl, (1, (0, (0, 0))))), (83, (.iconst (-1), (1, (0, (0, 0))))), (84, (.ixor, (1, (0, (0, 0))))), (85, (.iand, (1, (0, (0, 0))))), (86, (.istore_n 2, (1, (0, (0, 0))))), (87, (.iload_n 3, (1, (0, (0, 0))))), (88, (.iconst 1, (1, (0, (0, 0))))), (89, (.iload 6, (2, (0, (0, 0))))), (91, (.ishl, (1, (0, (0, 0))))), (92, (.ior, (1, (0, (0, 0))))), (93, (.istore_n 3, (1, (0, (0, 0))))), (94, (.iload_n 1, (1, (0, (0, 0))))), (95, (.aload_n 0, (1, (0, (0, 0))))), (96, (.getfield 18, (3, (5, (0, 2))))), (99, (.iload 6, (2, (0, (0, 0))))), (101, (.iconst 0, (1, (0, (0, 0))))), (102, (.invokevirtual 31, (3, (41, (3, 0))))), (105, (.isub, (1, (0, (0, 0))))), (106, (.istore_n 1, (1, (0, (0, 0))))), (107, (.iinc 4 1, (3, (0, (0, 0))))), (110, (.goto (-97), (3, (0, (0, 0))))), (113, (.iload_n 3, (1, (0, (0, 0))))), (114, (.ireturn, (1, (0, (0, 0)))))]]
set_option maxRecDepth 100000 in
noncomputable def mc_X5_longestOf : List (List mI) := [[(0, (.iconst 0, (1, (0, (0, 0))))), (1, (.istore_n 2, (1, (0, (0, 0))))), (2, (.iconst (-1), (1, (0, (0, 0))))), (3, (.istore_n 3, (1, (0, (0, 0))))), (4, (.iconst 0, (1, (0, (0, 0))))), (5, (.istore 4, (2, (0, (0, 0))))), (7, (.iload 4, (2, (0, (0, 0))))), (9, (.aload_n 0, (1, (0, (0, 0))))), (10, (.getfield 18, (3, (5, (0, 2))))), (13, (.getfield 25, (3, (7, (0, 0))))), (16, (.if_icmp .ge 42, (3, (0, (0, 0))))), (19, (.aload_n 0, (1, (0, (0, 0))))), (20, (.getfield 18, (3, (5, (0, 2))))), (23, (.iload 4, (2, (0, (0, 0))))), (25, (.iconst 0, (1, (0, (0, 0))))), (26, (.invokevirtual 31, (3, (41, (3, 0))))), (29, (.istore 5, (2, (0, (0, 0))))), (31, (.iload_n 1, (1, (0, (0, 0))))), (32, (.iconst 1, (1, (0, (0, 0))))), (33, (.iload 4, (2, (0, (0, 0))))), (35, (.ishl, (1, (0, (0, 0))))), (36, (.iand, (1, (0, (0, 0))))), (37, (.ifCond .eq 15, (3, (0, (0, 0))))), (40, (.iload 5, (2, (0, (0, 0))))), (42, (.iload_n 3, (1, (0, (0, 0))))), (43, (.if_icmp .lt 9, (3, (0, (0, 0))))), (46, (.iload 4, (2, (0, (0, 0))))), (48, (.istore_n 2, (1, (0, (0, 0))))), (49, (.iload 5, (2, (0, (0, 0))))), (51, (.istore_n 3, (1, (0, (0, 0))))), (52, (.iinc 4 1, (3, (0, (0, 0))))), (55, (.goto (-48), (3, (0, (0, 0))))), (58, (.iload_n 2, (1, (0, (0, 0))))), (59, (.ireturn, (1, (0, (0, 0)))))]]
set_option maxRecDepth 100000 in
noncomputable def mc_X5_hoursOfStep : List (List mI) := [[(0, (.iload_n 2, (1, (0, (0, 0))))), (1, (.aload_n 0, (1, (0, (0, 0))))), (2, (.getfield 18, (3, (5, (0, 2))))), (5, (.getfield 63, (3, (7, (5, 2))))), (8, (.iload_n 1, (1, (0, (0, 0))))), (9, (.iaload, (1, (0, (0, 0))))), (10, (.if_icmp .ge 19, (3, (0, (0, 0))))), (13, (.aload_n 0, (1, (0, (0, 0))))), (14, (.getfield 18, (3, (5, (0, 2))))), (17, (.getfield 66, (3, (7, (7, 2))))), (20, (.iload_n 1, (1, (0, (0, 0))))), (21, (.iconst 5, (1, (0, (0, 0))))), (22, (.imul, (1, (0, (0, 0))))), (23, (.iload_n 2, (1, (0, (0, 0))))), (24, (.iadd, (1, (0, (0, 0))))), (25, (.iaload, (1, (0, (0, 0))))), (26, (.goto 4, (3, (0, (0, 0))))), (29, (.iconst 0, (1, (0, (0, 0))))), (30, (.ireturn, (1, (0, (0, 0)))))]]
set_option maxRecDepth 100000 in
noncomputable def mc_X5_sortForTwo : List (List mI) := [[(0, (.aload_n 0, (1, (0, (0, 0))))), (1, (.getfield 12, (3, (5, (1, 2))))), (4, (.invokevirtual 22, (3, (11, (1, 0))))), (7, (.iconst 0, (1, (0, (0, 0))))), (8, (.istore_n 1, (1, (0, (0, 0))))), (9, (.iload_n 1, (1, (0, (0, 0))))), (10, (.aload_n 0, (1, (0, (0, 0))))), (11, (.getfield 18, (3, (5, (0, 2))))), (14, (.getfield 25, (3, (7, (0, 0))))), (17, (.if_icmp .ge 44, (3, (0, (0, 0))))), (20, (.aload_n 0, (1, (0, (0, 0))))), (21, (.iload_n 1, (1, (0, (0, 0))))), (22, (.iconst 0, (1, (0, (0, 0))))), (23, (.invokevirtual 69, (3, (23, (3, 0))))), (26, (.istore_n 2, (1, (0, (0, 0))))), (27, (.aload_n 0, (1, (0, (0, 0))))), (28, (.iload_n 1, (1, (0, (0, 0))))), (29, (.iconst 1, (1, (0, (0, 0))))), (30, (.invokevirtual 69, (3, (23, (3, 0))))), (33, (.istore_n 3, (1, (0, (0, 0))))), (34, (.aload_n 0, (1, (0, (0, 0))))), (35, (.getfield 12, (3, (5, (1, 2))))), (38, (.iload_n 1, (1, (0, (0, 0))))), (39, (.iload_n 2, (1, (0, (0, 0))))), (40, (.iload_n 3, (1, (0, (0, 0))))), (41, (.if_icmp .ge 7, (3, (0, (0, 0))))), (44, (.iload_n 2, (1, (0, (0, 0))))), (45, (.goto 7, (3, (0, (0, 0))))), (48, (.bipush 101, (2, (0, (0, 0))))), (50, (.iload_n 3, (1, (0, (0, 0))))), (51, (.isub, (1, (0, (0, 0))))), (52, (.invokevirtual 35, (3, (12, (3, 0))))), (55, (.iinc 1 1, (3, (0, (0, 0))))), (58, (.goto (-49), (3, (0, (0, 0))))), (61, (.return_, (1, (0, (0, 0)))))]]
set_option maxRecDepth 100000 in
noncomputable def mc_X5_endOnTwo : List (List mI) := [[(0, (.aload_n 0, (1, (0, (0, 0))))), (1, (.invokevirtual 72, (3, (24, (1, 0))))), (4, (.iconst 0, (1, (0, (0, 0))))), (5, (.istore_n 1, (1, (0, (0, 0))))), (6, (.iconst 0, (1, (0, (0, 0))))), (7, (.istore_n 2, (1, (0, (0, 0))))), (8, (.iconst 0, (1, (0, (0, 0))))), (9, (.istore_n 3, (1, (0, (0, 0))))), (10, (.iload_n 3, (1, (0, (0, 0))))), (11, (.aload_n 0, (1, (0, (0, 0))))), (12, (.getfield 12, (3, (5, (1, 2))))), (15, (.getfield 46, (3, (3, (2, 0))))), (18, (.if_icmp .ge 47, (3, (0, (0, 0))))), (21, (.iload_n 1, (1, (0, (0, 0))))), (22, (.aload_n 0, (1, (0, (0, 0))))), (23, (.aload_n 0, (1, (0, (0, 0))))), (24, (.getfield 12, (3, (5, (1, 2))))), (27, (.getfield 49, (3, (3, (0, 2))))), (30, (.iload_n 3, (1, (0, (0, 0))))), (31, (.iaload, (1, (0, (0, 0))))), (32, (.iconst 0, (1, (0, (0, 0))))), (33, (.invokevirtual 69, (3, (23, (3, 0))))), (36, (.iadd, (1, (0, (0, 0))))), (37, (.istore_n 1, (1, (0, (0, 0))))), (38, (.iload_n 1, (1, (0, (0, 0))))), (39, (.iload_n 2, (1, (0, (0, 0))))), (40, (.invokestatic 54, (3, (0, (2, 5))))), (43, (.aload_n 0, (1, (0, (0, 0))))), (44, (.aload_n 0, (1, (0, (0, 0))))), (45, (.getfield 12, (3, (5, (1, 2))))), (48, (.getfield 49, (3, (3, (0, 2))))), (51, (.iload_n 3, (1, (0, (0, 0))))), (52, (.iaload, (1, (0, (0, 0))))), (53, (.iconst 1, (1, (0, (0, 0))))), (54, (.invokevirtual 69, (3, (23, (3, 0))))), (57, (.iadd, (1, (0, (0, 0))))), (58, (.istore_n 2, (1, (0, (0, 0))))), (59, (.iinc 3 1, (3, (0, (0, 0))))), (62, (.goto (-52), (3, (0, (0, 0)))))],
  [(65, (.iload_n 2, (1, (0, (0, 0))))), (66, (.ireturn, (1, (0, (0, 0)))))]]
set_option maxRecDepth 100000 in
noncomputable def mc_X5_jobOnTwo : List (List mI) := [[(0, (.aload_n 0, (1, (0, (0, 0))))), (1, (.invokevirtual 72, (3, (24, (1, 0))))), (4, (.iload_n 1, (1, (0, (0, 0))))), (5, (.ifCond .lt 26, (3, (0, (0, 0))))), (8, (.iload_n 1, (1, (0, (0, 0))))), (9, (.aload_n 0, (1, (0, (0, 0))))), (10, (.getfield 12, (3, (5, (1, 2))))), (13, (.getfield 46, (3, (3, (2, 0))))), (16, (.if_icmp .ge 15, (3, (0, (0, 0))))), (19, (.aload_n 0, (1, (0, (0, 0))))), (20, (.getfield 12, (3, (5, (1, 2))))), (23, (.getfield 49, (3, (3, (0, 2))))), (26, (.iload_n 1, (1, (0, (0, 0))))), (27, (.iaload, (1, (0, (0, 0))))), (28, (.goto 4, (3, (0, (0, 0))))), (31, (.iconst (-1), (1, (0, (0, 0))))), (32, (.ireturn, (1, (0, (0, 0)))))]]
set_option maxRecDepth 100000 in
noncomputable def mc_X6_init : List (List mI) := [[(0, (.aload_n 0, (1, (0, (0, 0))))), (1, (.invokespecial 3, (3, (0, (1, 4))))), (4, (.aload_n 0, (1, (0, (0, 0))))), (5, (.bipush 6, (2, (0, (0, 0))))), (7, (.newarray .int, (2, (0, (0, 0))))), (9, (.putfield 9, (3, (6, (1, 2))))), (12, (.aload_n 0, (1, (0, (0, 0))))), (13, (.bipush 6, (2, (0, (0, 0))))), (15, (.newarray .int, (2, (0, (0, 0))))), (17, (.putfield 15, (3, (6, (2, 2))))), (20, (.aload_n 0, (1, (0, (0, 0))))), (21, (.aload_n 1, (1, (0, (0, 0))))), (22, (.putfield 18, (3, (6, (0, 2))))), (25, (.return_, (1, (0, (0, 0)))))]]
set_option maxRecDepth 100000 in
noncomputable def mc_X6_search : List (List mI) := [[(0, (.aload_n 0, (1, (0, (0, 0))))), (1, (.iconst 0, (1, (0, (0, 0))))), (2, (.putfield 22, (3, (6, (3, 0))))), (5, (.aload_n 0, (1, (0, (0, 0))))), (6, (.iconst 0, (1, (0, (0, 0))))), (7, (.putfield 26, (3, (6, (4, 1))))), (10, (.aload_n 0, (1, (0, (0, 0))))), (11, (.iconst 0, (1, (0, (0, 0))))), (12, (.iconst 0, (1, (0, (0, 0))))), (13, (.iconst 0, (1, (0, (0, 0))))), (14, (.invokevirtual 30, (3, (29, (4, 0))))), (17, (.return_, (1, (0, (0, 0)))))]]
set_option maxRecDepth 100000 in
noncomputable def mc_X6_explore : List (List mI) := [[(0, (.aload_n 0, (1, (0, (0, 0))))), (1, (.getfield 26, (3, (6, (4, 1))))), (4, (.ifCond .eq 12, (3, (0, (0, 0))))), (7, (.iload_n 3, (1, (0, (0, 0))))), (8, (.aload_n 0, (1, (0, (0, 0))))), (9, (.getfield 22, (3, (6, (3, 0))))), (12, (.if_icmp .lt 4, (3, (0, (0, 0))))), (15, (.return_, (1, (0, (0, 0))))), (16, (.iload_n 1, (1, (0, (0, 0))))), (17, (.aload_n 0, (1, (0, (0, 0))))), (18, (.getfield 18, (3, (6, (0, 2))))), (21, (.getfield 34, (3, (7, (0, 0))))), (24, (.if_icmp .lt 32, (3, (0, (0, 0))))), (27, (.aload_n 0, (1, (0, (0, 0))))), (28, (.iconst 1, (1, (0, (0, 0))))), (29, (.putfield 26, (3, (6, (4, 1))))), (32, (.aload_n 0, (1, (0, (0, 0))))), (33, (.iload_n 3, (1, (0, (0, 0))))), (34, (.putfield 22, (3, (6, (3, 0))))), (37, (.aload_n 0, (1, (0, (0, 0))))), (38, (.getfield 9, (3, (6, (1, 2))))), (41, (.iconst 0, (1, (0, (0, 0))))), (42, (.aload_n 0, (1, (0, (0, 0))))), (43, (.getfield 15, (3, (6, (2, 2))))), (46, (.iconst 0, (1, (0, (0, 0))))), (47, (.aload_n 0, (1, (0, (0, 0))))), (48, (.getfield 9, (3, (6, (1, 2))))), (51, (.arraylength, (1, (0, (0, 0))))), (52, (.invokestatic 39, (3, (0, (5, 7))))), (55, (.return_, (1, (0, (0, 0))))), (56, (.iconst 0, (1, (0, (0, 0))))), (57, (.istore 4, (2, (0, (0, 0))))), (59, (.iload 4, (2, (0, (0, 0))))), (61, (.aload_n 0, (1, (0, (0, 0))))), (62, (.getfield 18, (3, (6, (0, 2)))))],
  [(65, (.getfield 34, (3, (7, (0, 0))))), (68, (.if_icmp .ge 48, (3, (0, (0, 0))))), (71, (.iload_n 2, (1, (0, (0, 0))))), (72, (.iconst 1, (1, (0, (0, 0))))), (73, (.iload 4, (2, (0, (0, 0))))), (75, (.ishl, (1, (0, (0, 0))))), (76, (.iand, (1, (0, (0, 0))))), (77, (.ifCond .ne 33, (3, (0, (0, 0))))), (80, (.aload_n 0, (1, (0, (0, 0))))), (81, (.getfield 9, (3, (6, (1, 2))))), (84, (.iload_n 1, (1, (0, (0, 0))))), (85, (.iload 4, (2, (0, (0, 0))))), (87, (.iastore, (1, (0, (0, 0))))), (88, (.aload_n 0, (1, (0, (0, 0))))), (89, (.iload_n 1, (1, (0, (0, 0))))), (90, (.iconst 1, (1, (0, (0, 0))))), (91, (.iadd, (1, (0, (0, 0))))), (92, (.iload_n 2, (1, (0, (0, 0))))), (93, (.iconst 1, (1, (0, (0, 0))))), (94, (.iload 4, (2, (0, (0, 0))))), (96, (.ishl, (1, (0, (0, 0))))), (97, (.ior, (1, (0, (0, 0))))), (98, (.iload_n 3, (1, (0, (0, 0))))), (99, (.aload_n 0, (1, (0, (0, 0))))), (100, (.iload_n 1, (1, (0, (0, 0))))), (101, (.iload 4, (2, (0, (0, 0))))), (103, (.invokevirtual 45, (3, (30, (3, 0))))), (106, (.iadd, (1, (0, (0, 0))))), (107, (.invokevirtual 30, (3, (29, (4, 0))))), (110, (.iinc 4 1, (3, (0, (0, 0))))), (113, (.goto (-54), (3, (0, (0, 0))))), (116, (.return_, (1, (0, (0, 0)))))]]
set_option maxRecDepth 100000 in
noncomputable def mc_X6_hoursBehind : List (List mI) := [[(0, (.iload_n 1, (1, (0, (0, 0))))), (1, (.ifCond .ne 7, (3, (0, (0, 0))))), (4, (.iconst 0, (1, (0, (0, 0))))), (5, (.goto 39, (3, (0, (0, 0))))), (8, (.aload_n 0, (1, (0, (0, 0))))), (9, (.getfield 18, (3, (6, (0, 2))))), (12, (.getfield 49, (3, (7, (13, 2))))), (15, (.aload_n 0, (1, (0, (0, 0))))), (16, (.getfield 18, (3, (6, (0, 2))))), (19, (.getfield 52, (3, (7, (4, 2))))), (22, (.aload_n 0, (1, (0, (0, 0))))), (23, (.getfield 9, (3, (6, (1, 2))))), (26, (.iload_n 1, (1, (0, (0, 0))))), (27, (.iconst 1, (1, (0, (0, 0))))), (28, (.isub, (1, (0, (0, 0))))), (29, (.iaload, (1, (0, (0, 0))))), (30, (.iaload, (1, (0, (0, 0))))), (31, (.iconst 4, (1, (0, (0, 0))))), (32, (.imul, (1, (0, (0, 0))))), (33, (.aload_n 0, (1, (0, (0, 0))))), (34, (.getfield 18, (3, (6, (0, 2))))), (37, (.getfield 52, (3, (7, (4, 2))))), (40, (.iload_n 2, (1, (0, (0, 0))))), (41, (.iaload, (1, (0, (0, 0))))), (42, (.iadd, (1, (0, (0, 0))))), (43, (.iaload, (1, (0, (0, 0))))), (44, (.ireturn, (1, (0, (0, 0)))))]]
set_option maxRecDepth 100000 in
noncomputable def mc_X7_init : List (List mI) := [[(0, (.aload_n 0, (1, (0, (0, 0))))), (1, (.invokespecial 3, (3, (0, (1, 4))))), (4, (.aload_n 0, (1, (0, (0, 0))))), (5, (.bipush 6, (2, (0, (0, 0))))), (7, (.newarray .int, (2, (0, (0, 0))))), (9, (.putfield 9, (3, (7, (1, 2))))), (12, (.aload_n 0, (1, (0, (0, 0))))), (13, (.bipush 6, (2, (0, (0, 0))))), (15, (.newarray .int, (2, (0, (0, 0))))), (17, (.putfield 15, (3, (7, (2, 2))))), (20, (.aload_n 0, (1, (0, (0, 0))))), (21, (.bipush 6, (2, (0, (0, 0))))), (23, (.newarray .int, (2, (0, (0, 0))))), (25, (.putfield 18, (3, (7, (3, 2))))), (28, (.aload_n 0, (1, (0, (0, 0))))), (29, (.bipush 6, (2, (0, (0, 0))))), (31, (.newarray .int, (2, (0, (0, 0))))), (33, (.putfield 21, (3, (7, (4, 2))))), (36, (.aload_n 0, (1, (0, (0, 0))))), (37, (.bipush 6, (2, (0, (0, 0))))), (39, (.newarray .int, (2, (0, (0, 0))))), (41, (.putfield 24, (3, (7, (5, 2))))), (44, (.aload_n 0, (1, (0, (0, 0))))), (45, (.bipush 30, (2, (0, (0, 0))))), (47, (.newarray .int, (2, (0, (0, 0))))), (49, (.putfield 27, (3, (7, (6, 2))))), (52, (.aload_n 0, (1, (0, (0, 0))))), (53, (.bipush 30, (2, (0, (0, 0))))), (55, (.newarray .int, (2, (0, (0, 0))))), (57, (.putfield 30, (3, (7, (7, 2))))), (60, (.aload_n 0, (1, (0, (0, 0))))), (61, (.iconst 4, (1, (0, (0, 0))))), (62, (.newarray .int, (2, (0, (0, 0)))))],
  [(64, (.putfield 33, (3, (7, (8, 2))))), (67, (.aload_n 0, (1, (0, (0, 0))))), (68, (.bipush 16, (2, (0, (0, 0))))), (70, (.newarray .int, (2, (0, (0, 0))))), (72, (.putfield 36, (3, (7, (9, 2))))), (75, (.aload_n 0, (1, (0, (0, 0))))), (76, (.bipush 16, (2, (0, (0, 0))))), (78, (.newarray .int, (2, (0, (0, 0))))), (80, (.putfield 39, (3, (7, (10, 2))))), (83, (.aload_n 0, (1, (0, (0, 0))))), (84, (.iconst 4, (1, (0, (0, 0))))), (85, (.newarray .int, (2, (0, (0, 0))))), (87, (.putfield 42, (3, (7, (11, 2))))), (90, (.aload_n 0, (1, (0, (0, 0))))), (91, (.iconst 4, (1, (0, (0, 0))))), (92, (.newarray .int, (2, (0, (0, 0))))), (94, (.putfield 45, (3, (7, (12, 2))))), (97, (.aload_n 0, (1, (0, (0, 0))))), (98, (.bipush 16, (2, (0, (0, 0))))), (100, (.newarray .int, (2, (0, (0, 0))))), (102, (.putfield 48, (3, (7, (13, 2))))), (105, (.aload_n 0, (1, (0, (0, 0))))), (106, (.bipush 6, (2, (0, (0, 0))))), (108, (.newarray .int, (2, (0, (0, 0))))), (110, (.putfield 51, (3, (7, (14, 2))))), (113, (.aload_n 0, (1, (0, (0, 0))))), (114, (.bipush 30, (2, (0, (0, 0))))), (116, (.newarray .int, (2, (0, (0, 0))))), (118, (.putfield 54, (3, (7, (16, 2))))), (121, (.return_, (1, (0, (0, 0)))))]]
set_option maxRecDepth 100000 in
noncomputable def mc_X7_copyFrom : List (List mI) := [[(0, (.aload_n 0, (1, (0, (0, 0))))), (1, (.aload_n 1, (1, (0, (0, 0))))), (2, (.getfield 57, (3, (7, (0, 0))))), (5, (.putfield 57, (3, (7, (0, 0))))), (8, (.aload_n 1, (1, (0, (0, 0))))), (9, (.getfield 9, (3, (7, (1, 2))))), (12, (.aload_n 0, (1, (0, (0, 0))))), (13, (.getfield 9, (3, (7, (1, 2))))), (16, (.invokestatic 61, (3, (33, (2, 1))))), (19, (.aload_n 1, (1, (0, (0, 0))))), (20, (.getfield 15, (3, (7, (2, 2))))), (23, (.aload_n 0, (1, (0, (0, 0))))), (24, (.getfield 15, (3, (7, (2, 2))))), (27, (.invokestatic 61, (3, (33, (2, 1))))), (30, (.aload_n 1, (1, (0, (0, 0))))), (31, (.getfield 18, (3, (7, (3, 2))))), (34, (.aload_n 0, (1, (0, (0, 0))))), (35, (.getfield 18, (3, (7, (3, 2))))), (38, (.invokestatic 61, (3, (33, (2, 1))))), (41, (.aload_n 1, (1, (0, (0, 0))))), (42, (.getfield 21, (3, (7, (4, 2))))), (45, (.aload_n 0, (1, (0, (0, 0))))), (46, (.getfield 21, (3, (7, (4, 2))))), (49, (.invokestatic 61, (3, (33, (2, 1))))), (52, (.aload_n 1, (1, (0, (0, 0))))), (53, (.getfield 24, (3, (7, (5, 2))))), (56, (.aload_n 0, (1, (0, (0, 0))))), (57, (.getfield 24, (3, (7, (5, 2))))), (60, (.invokestatic 61, (3, (33, (2, 1))))), (63, (.aload_n 1, (1, (0, (0, 0)))))],
  [(64, (.getfield 27, (3, (7, (6, 2))))), (67, (.aload_n 0, (1, (0, (0, 0))))), (68, (.getfield 27, (3, (7, (6, 2))))), (71, (.invokestatic 61, (3, (33, (2, 1))))), (74, (.aload_n 1, (1, (0, (0, 0))))), (75, (.getfield 30, (3, (7, (7, 2))))), (78, (.aload_n 0, (1, (0, (0, 0))))), (79, (.getfield 30, (3, (7, (7, 2))))), (82, (.invokestatic 61, (3, (33, (2, 1))))), (85, (.aload_n 1, (1, (0, (0, 0))))), (86, (.getfield 33, (3, (7, (8, 2))))), (89, (.aload_n 0, (1, (0, (0, 0))))), (90, (.getfield 33, (3, (7, (8, 2))))), (93, (.invokestatic 61, (3, (33, (2, 1))))), (96, (.aload_n 1, (1, (0, (0, 0))))), (97, (.getfield 36, (3, (7, (9, 2))))), (100, (.aload_n 0, (1, (0, (0, 0))))), (101, (.getfield 36, (3, (7, (9, 2))))), (104, (.invokestatic 61, (3, (33, (2, 1))))), (107, (.aload_n 1, (1, (0, (0, 0))))), (108, (.getfield 39, (3, (7, (10, 2))))), (111, (.aload_n 0, (1, (0, (0, 0))))), (112, (.getfield 39, (3, (7, (10, 2))))), (115, (.invokestatic 61, (3, (33, (2, 1))))), (118, (.aload_n 1, (1, (0, (0, 0))))), (119, (.getfield 42, (3, (7, (11, 2))))), (122, (.aload_n 0, (1, (0, (0, 0))))), (123, (.getfield 42, (3, (7, (11, 2))))), (126, (.invokestatic 61, (3, (33, (2, 1)))))],
  [(129, (.aload_n 1, (1, (0, (0, 0))))), (130, (.getfield 45, (3, (7, (12, 2))))), (133, (.aload_n 0, (1, (0, (0, 0))))), (134, (.getfield 45, (3, (7, (12, 2))))), (137, (.invokestatic 61, (3, (33, (2, 1))))), (140, (.aload_n 1, (1, (0, (0, 0))))), (141, (.getfield 48, (3, (7, (13, 2))))), (144, (.aload_n 0, (1, (0, (0, 0))))), (145, (.getfield 48, (3, (7, (13, 2))))), (148, (.invokestatic 61, (3, (33, (2, 1))))), (151, (.aload_n 1, (1, (0, (0, 0))))), (152, (.getfield 51, (3, (7, (14, 2))))), (155, (.aload_n 0, (1, (0, (0, 0))))), (156, (.getfield 51, (3, (7, (14, 2))))), (159, (.invokestatic 61, (3, (33, (2, 1))))), (162, (.aload_n 0, (1, (0, (0, 0))))), (163, (.aload_n 1, (1, (0, (0, 0))))), (164, (.getfield 65, (3, (7, (15, 1))))), (167, (.putfield 65, (3, (7, (15, 1))))), (170, (.aload_n 1, (1, (0, (0, 0))))), (171, (.getfield 54, (3, (7, (16, 2))))), (174, (.aload_n 0, (1, (0, (0, 0))))), (175, (.getfield 54, (3, (7, (16, 2))))), (178, (.invokestatic 61, (3, (33, (2, 1))))), (181, (.return_, (1, (0, (0, 0)))))]]
set_option maxRecDepth 100000 in
noncomputable def mc_X7_copy : List (List mI) := [[(0, (.aload_n 0, (1, (0, (0, 0))))), (1, (.iconst 0, (1, (0, (0, 0))))), (2, (.aload_n 1, (1, (0, (0, 0))))), (3, (.iconst 0, (1, (0, (0, 0))))), (4, (.aload_n 0, (1, (0, (0, 0))))), (5, (.arraylength, (1, (0, (0, 0))))), (6, (.aload_n 1, (1, (0, (0, 0))))), (7, (.arraylength, (1, (0, (0, 0))))), (8, (.invokestatic 69, (3, (0, (2, 6))))), (11, (.invokestatic 75, (3, (0, (5, 7))))), (14, (.return_, (1, (0, (0, 0)))))]]
set_option maxRecDepth 100000 in
noncomputable def mc_X7_takeRow : List (List mI) := [[(0, (.aload_n 1, (1, (0, (0, 0))))), (1, (.aload_n 0, (1, (0, (0, 0))))), (2, (.getfield 54, (3, (7, (16, 2))))), (5, (.invokestatic 61, (3, (33, (2, 1))))), (8, (.aload_n 0, (1, (0, (0, 0))))), (9, (.iconst 1, (1, (0, (0, 0))))), (10, (.putfield 65, (3, (7, (15, 1))))), (13, (.return_, (1, (0, (0, 0)))))]]
set_option maxRecDepth 100000 in
noncomputable def mc_X7_newJob : List (List mI) := [[(0, (.aload_n 0, (1, (0, (0, 0))))), (1, (.getfield 57, (3, (7, (0, 0))))), (4, (.bipush 6, (2, (0, (0, 0))))), (6, (.if_icmp .lt 5, (3, (0, (0, 0))))), (9, (.iconst (-1), (1, (0, (0, 0))))), (10, (.ireturn, (1, (0, (0, 0))))), (11, (.aload_n 0, (1, (0, (0, 0))))), (12, (.getfield 9, (3, (7, (1, 2))))), (15, (.aload_n 0, (1, (0, (0, 0))))), (16, (.getfield 57, (3, (7, (0, 0))))), (19, (.iload_n 1, (1, (0, (0, 0))))), (20, (.iastore, (1, (0, (0, 0))))), (21, (.aload_n 0, (1, (0, (0, 0))))), (22, (.getfield 15, (3, (7, (2, 2))))), (25, (.aload_n 0, (1, (0, (0, 0))))), (26, (.getfield 57, (3, (7, (0, 0))))), (29, (.iload_n 2, (1, (0, (0, 0))))), (30, (.iastore, (1, (0, (0, 0))))), (31, (.aload_n 0, (1, (0, (0, 0))))), (32, (.getfield 18, (3, (7, (3, 2))))), (35, (.aload_n 0, (1, (0, (0, 0))))), (36, (.getfield 57, (3, (7, (0, 0))))), (39, (.iload_n 3, (1, (0, (0, 0))))), (40, (.iastore, (1, (0, (0, 0))))), (41, (.aload_n 0, (1, (0, (0, 0))))), (42, (.getfield 21, (3, (7, (4, 2))))), (45, (.aload_n 0, (1, (0, (0, 0))))), (46, (.getfield 57, (3, (7, (0, 0))))), (49, (.iload 4, (2, (0, (0, 0))))), (51, (.iastore, (1, (0, (0, 0))))), (52, (.aload_n 0, (1, (0, (0, 0))))), (53, (.getfield 24, (3, (7, (5, 2))))), (56, (.aload_n 0, (1, (0, (0, 0))))), (57, (.getfield 57, (3, (7, (0, 0))))), (60, (.iconst 0, (1, (0, (0, 0))))), (61, (.iastore, (1, (0, (0, 0))))), (62, (.aload_n 0, (1, (0, (0, 0))))), (63, (.dup, (1, (0, (0, 0)))))],
  [(64, (.getfield 57, (3, (7, (0, 0))))), (67, (.iconst 1, (1, (0, (0, 0))))), (68, (.iadd, (1, (0, (0, 0))))), (69, (.putfield 57, (3, (7, (0, 0))))), (72, (.aload_n 0, (1, (0, (0, 0))))), (73, (.getfield 57, (3, (7, (0, 0))))), (76, (.iconst 1, (1, (0, (0, 0))))), (77, (.isub, (1, (0, (0, 0))))), (78, (.ireturn, (1, (0, (0, 0)))))]]
set_option maxRecDepth 100000 in
noncomputable def mc_X7_newStep : List (List mI) := [[(0, (.iload_n 1, (1, (0, (0, 0))))), (1, (.ifCond .lt 21, (3, (0, (0, 0))))), (4, (.iload_n 1, (1, (0, (0, 0))))), (5, (.aload_n 0, (1, (0, (0, 0))))), (6, (.getfield 57, (3, (7, (0, 0))))), (9, (.if_icmp .ge 13, (3, (0, (0, 0))))), (12, (.aload_n 0, (1, (0, (0, 0))))), (13, (.getfield 24, (3, (7, (5, 2))))), (16, (.iload_n 1, (1, (0, (0, 0))))), (17, (.iaload, (1, (0, (0, 0))))), (18, (.iconst 5, (1, (0, (0, 0))))), (19, (.if_icmp .lt 5, (3, (0, (0, 0))))), (22, (.iconst (-1), (1, (0, (0, 0))))), (23, (.ireturn, (1, (0, (0, 0))))), (24, (.aload_n 0, (1, (0, (0, 0))))), (25, (.getfield 24, (3, (7, (5, 2))))), (28, (.iload_n 1, (1, (0, (0, 0))))), (29, (.iaload, (1, (0, (0, 0))))), (30, (.istore 4, (2, (0, (0, 0))))), (32, (.aload_n 0, (1, (0, (0, 0))))), (33, (.getfield 27, (3, (7, (6, 2))))), (36, (.iload_n 1, (1, (0, (0, 0))))), (37, (.iconst 5, (1, (0, (0, 0))))), (38, (.imul, (1, (0, (0, 0))))), (39, (.iload 4, (2, (0, (0, 0))))), (41, (.iadd, (1, (0, (0, 0))))), (42, (.iload_n 2, (1, (0, (0, 0))))), (43, (.iastore, (1, (0, (0, 0))))), (44, (.aload_n 0, (1, (0, (0, 0))))), (45, (.getfield 30, (3, (7, (7, 2))))), (48, (.iload_n 1, (1, (0, (0, 0))))), (49, (.iconst 5, (1, (0, (0, 0))))), (50, (.imul, (1, (0, (0, 0))))), (51, (.iload 4, (2, (0, (0, 0))))), (53, (.iadd, (1, (0, (0, 0))))), (54, (.iload_n 3, (1, (0, (0, 0))))), (55, (.iastore, (1, (0, (0, 0))))), (56, (.aload_n 0, (1, (0, (0, 0))))), (57, (.getfield 24, (3, (7, (5, 2))))), (60, (.iload_n 1, (1, (0, (0, 0))))), (61, (.dup2, (1, (0, (0, 0))))), (62, (.iaload, (1, (0, (0, 0))))), (63, (.iconst 1, (1, (0, (0, 0)))))],
  [(64, (.iadd, (1, (0, (0, 0))))), (65, (.iastore, (1, (0, (0, 0))))), (66, (.iload 4, (2, (0, (0, 0))))), (68, (.ireturn, (1, (0, (0, 0)))))]]
set_option maxRecDepth 100000 in
noncomputable def mc_X7_newClosure : List (List mI) := [[(0, (.aload_n 0, (1, (0, (0, 0))))), (1, (.getfield 33, (3, (7, (8, 2))))), (4, (.iload_n 1, (1, (0, (0, 0))))), (5, (.iaload, (1, (0, (0, 0))))), (6, (.istore 4, (2, (0, (0, 0))))), (8, (.iload 4, (2, (0, (0, 0))))), (10, (.iconst 4, (1, (0, (0, 0))))), (11, (.if_icmp .ge 37, (3, (0, (0, 0))))), (14, (.aload_n 0, (1, (0, (0, 0))))), (15, (.getfield 36, (3, (7, (9, 2))))), (18, (.iload_n 1, (1, (0, (0, 0))))), (19, (.iconst 4, (1, (0, (0, 0))))), (20, (.imul, (1, (0, (0, 0))))), (21, (.iload 4, (2, (0, (0, 0))))), (23, (.iadd, (1, (0, (0, 0))))), (24, (.iload_n 2, (1, (0, (0, 0))))), (25, (.iastore, (1, (0, (0, 0))))), (26, (.aload_n 0, (1, (0, (0, 0))))), (27, (.getfield 39, (3, (7, (10, 2))))), (30, (.iload_n 1, (1, (0, (0, 0))))), (31, (.iconst 4, (1, (0, (0, 0))))), (32, (.imul, (1, (0, (0, 0))))), (33, (.iload 4, (2, (0, (0, 0))))), (35, (.iadd, (1, (0, (0, 0))))), (36, (.iload_n 3, (1, (0, (0, 0))))), (37, (.iastore, (1, (0, (0, 0))))), (38, (.aload_n 0, (1, (0, (0, 0))))), (39, (.getfield 33, (3, (7, (8, 2))))), (42, (.iload_n 1, (1, (0, (0, 0))))), (43, (.dup2, (1, (0, (0, 0))))), (44, (.iaload, (1, (0, (0, 0))))), (45, (.iconst 1, (1, (0, (0, 0))))), (46, (.iadd, (1, (0, (0, 0))))), (47, (.iastore, (1, (0, (0, 0))))), (48, (.return_, (1, (0, (0, 0)))))]]
set_option maxRecDepth 100000 in
noncomputable def mc_X7_canBeHalved : List (List mI) := [[(0, (.iconst 0, (1, (0, (0, 0))))), (1, (.istore_n 2, (1, (0, (0, 0))))), (2, (.iload_n 2, (1, (0, (0, 0))))), (3, (.aload_n 0, (1, (0, (0, 0))))), (4, (.getfield 24, (3, (7, (5, 2))))), (7, (.iload_n 1, (1, (0, (0, 0))))), (8, (.iaload, (1, (0, (0, 0))))), (9, (.if_icmp .ge 25, (3, (0, (0, 0))))), (12, (.aload_n 0, (1, (0, (0, 0))))), (13, (.getfield 30, (3, (7, (7, 2))))), (16, (.iload_n 1, (1, (0, (0, 0))))), (17, (.iconst 5, (1, (0, (0, 0))))), (18, (.imul, (1, (0, (0, 0))))), (19, (.iload_n 2, (1, (0, (0, 0))))), (20, (.iadd, (1, (0, (0, 0))))), (21, (.iaload, (1, (0, (0, 0))))), (22, (.iconst 2, (1, (0, (0, 0))))), (23, (.if_icmp .ge 5, (3, (0, (0, 0))))), (26, (.iconst 0, (1, (0, (0, 0))))), (27, (.ireturn, (1, (0, (0, 0))))), (28, (.iinc 2 1, (3, (0, (0, 0))))), (31, (.goto (-29), (3, (0, (0, 0))))), (34, (.aload_n 0, (1, (0, (0, 0))))), (35, (.getfield 24, (3, (7, (5, 2))))), (38, (.iload_n 1, (1, (0, (0, 0))))), (39, (.iaload, (1, (0, (0, 0))))), (40, (.ifCond .le 7, (3, (0, (0, 0))))), (43, (.iconst 1, (1, (0, (0, 0))))), (44, (.goto 4, (3, (0, (0, 0))))), (47, (.iconst 0, (1, (0, (0, 0))))), (48, (.ireturn, (1, (0, (0, 0)))))]]
set_option maxRecDepth 100000 in
noncomputable def mc_X7_halve : List (List mI) := [[(0, (.aload_n 0, (1, (0, (0, 0))))), (1, (.aload_n 0, (1, (0, (0, 0))))), (2, (.getfield 9, (3, (7, (1, 2))))), (5, (.iload_n 1, (1, (0, (0, 0))))), (6, (.iaload, (1, (0, (0, 0))))), (7, (.aload_n 0, (1, (0, (0, 0))))), (8, (.getfield 15, (3, (7, (2, 2))))), (11, (.iload_n 1, (1, (0, (0, 0))))), (12, (.iaload, (1, (0, (0, 0))))), (13, (.aload_n 0, (1, (0, (0, 0))))), (14, (.getfield 18, (3, (7, (3, 2))))), (17, (.iload_n 1, (1, (0, (0, 0))))), (18, (.iaload, (1, (0, (0, 0))))), (19, (.aload_n 0, (1, (0, (0, 0))))), (20, (.getfield 21, (3, (7, (4, 2))))), (23, (.iload_n 1, (1, (0, (0, 0))))), (24, (.iaload, (1, (0, (0, 0))))), (25, (.invokevirtual 81, (3, (35, (5, 0))))), (28, (.istore_n 2, (1, (0, (0, 0))))), (29, (.iconst 0, (1, (0, (0, 0))))), (30, (.istore_n 3, (1, (0, (0, 0))))), (31, (.iload_n 3, (1, (0, (0, 0))))), (32, (.aload_n 0, (1, (0, (0, 0))))), (33, (.getfield 24, (3, (7, (5, 2))))), (36, (.iload_n 1, (1, (0, (0, 0))))), (37, (.iaload, (1, (0, (0, 0))))), (38, (.if_icmp .ge 54, (3, (0, (0, 0))))), (41, (.iload_n 1, (1, (0, (0, 0))))), (42, (.iconst 5, (1, (0, (0, 0))))), (43, (.imul, (1, (0, (0, 0))))), (44, (.iload_n 3, (1, (0, (0, 0))))), (45, (.iadd, (1, (0, (0, 0))))), (46, (.istore 4, (2, (0, (0, 0))))), (48, (.aload_n 0, (1, (0, (0, 0))))), (49, (.getfield 30, (3, (7, (7, 2))))), (52, (.iload 4, (2, (0, (0, 0))))), (54, (.iaload, (1, (0, (0, 0))))), (55, (.iconst 2, (1, (0, (0, 0))))), (56, (.idiv, (1, (0, (0, 0))))), (57, (.istore 5, (2, (0, (0, 0))))), (59, (.aload_n 0, (1, (0, (0, 0))))), (60, (.iload_n 2, (1, (0, (0, 0))))), (61, (.aload_n 0, (1, (0, (0, 0))))), (62, (.getfield 27, (3, (7, (6, 2)))))],
  [(65, (.iload 4, (2, (0, (0, 0))))), (67, (.iaload, (1, (0, (0, 0))))), (68, (.iload 5, (2, (0, (0, 0))))), (70, (.invokevirtual 85, (3, (36, (4, 0))))), (73, (.pop, (1, (0, (0, 0))))), (74, (.aload_n 0, (1, (0, (0, 0))))), (75, (.getfield 30, (3, (7, (7, 2))))), (78, (.iload 4, (2, (0, (0, 0))))), (80, (.dup2, (1, (0, (0, 0))))), (81, (.iaload, (1, (0, (0, 0))))), (82, (.iload 5, (2, (0, (0, 0))))), (84, (.isub, (1, (0, (0, 0))))), (85, (.iastore, (1, (0, (0, 0))))), (86, (.iinc 3 1, (3, (0, (0, 0))))), (89, (.goto (-58), (3, (0, (0, 0))))), (92, (.iload_n 2, (1, (0, (0, 0))))), (93, (.ireturn, (1, (0, (0, 0)))))]]
set_option maxRecDepth 100000 in
noncomputable def mc_X7_stepTotal : List (List mI) := [[(0, (.iconst 0, (1, (0, (0, 0))))), (1, (.istore_n 1, (1, (0, (0, 0))))), (2, (.iconst 0, (1, (0, (0, 0))))), (3, (.istore_n 2, (1, (0, (0, 0))))), (4, (.iload_n 2, (1, (0, (0, 0))))), (5, (.aload_n 0, (1, (0, (0, 0))))), (6, (.getfield 57, (3, (7, (0, 0))))), (9, (.if_icmp .ge 18, (3, (0, (0, 0))))), (12, (.iload_n 1, (1, (0, (0, 0))))), (13, (.aload_n 0, (1, (0, (0, 0))))), (14, (.getfield 24, (3, (7, (5, 2))))), (17, (.iload_n 2, (1, (0, (0, 0))))), (18, (.iaload, (1, (0, (0, 0))))), (19, (.iadd, (1, (0, (0, 0))))), (20, (.istore_n 1, (1, (0, (0, 0))))), (21, (.iinc 2 1, (3, (0, (0, 0))))), (24, (.goto (-20), (3, (0, (0, 0))))), (27, (.iload_n 1, (1, (0, (0, 0))))), (28, (.ireturn, (1, (0, (0, 0)))))]]
set_option maxRecDepth 100000 in
noncomputable def mc_X7_hoursFrom : List (List mI) := [[(0, (.iconst 0, (1, (0, (0, 0))))), (1, (.istore_n 3, (1, (0, (0, 0))))), (2, (.iload_n 2, (1, (0, (0, 0))))), (3, (.istore 4, (2, (0, (0, 0))))), (5, (.iload 4, (2, (0, (0, 0))))), (7, (.aload_n 0, (1, (0, (0, 0))))), (8, (.getfield 24, (3, (7, (5, 2))))), (11, (.iload_n 1, (1, (0, (0, 0))))), (12, (.iaload, (1, (0, (0, 0))))), (13, (.if_icmp .ge 23, (3, (0, (0, 0))))), (16, (.iload_n 3, (1, (0, (0, 0))))), (17, (.aload_n 0, (1, (0, (0, 0))))), (18, (.getfield 30, (3, (7, (7, 2))))), (21, (.iload_n 1, (1, (0, (0, 0))))), (22, (.iconst 5, (1, (0, (0, 0))))), (23, (.imul, (1, (0, (0, 0))))), (24, (.iload 4, (2, (0, (0, 0))))), (26, (.iadd, (1, (0, (0, 0))))), (27, (.iaload, (1, (0, (0, 0))))), (28, (.iadd, (1, (0, (0, 0))))), (29, (.istore_n 3, (1, (0, (0, 0))))), (30, (.iinc 4 1, (3, (0, (0, 0))))), (33, (.goto (-28), (3, (0, (0, 0))))), (36, (.iload_n 3, (1, (0, (0, 0))))), (37, (.ireturn, (1, (0, (0, 0)))))]]
set_option maxRecDepth 100000 in
noncomputable def mc_X7_hoursOn : List (List mI) := [[(0, (.iconst 0, (1, (0, (0, 0))))), (1, (.istore_n 2, (1, (0, (0, 0))))), (2, (.iconst 0, (1, (0, (0, 0))))), (3, (.istore_n 3, (1, (0, (0, 0))))), (4, (.iload_n 3, (1, (0, (0, 0))))), (5, (.aload_n 0, (1, (0, (0, 0))))), (6, (.getfield 57, (3, (7, (0, 0))))), (9, (.if_icmp .ge 58, (3, (0, (0, 0))))), (12, (.iconst 0, (1, (0, (0, 0))))), (13, (.istore 4, (2, (0, (0, 0))))), (15, (.iload 4, (2, (0, (0, 0))))), (17, (.aload_n 0, (1, (0, (0, 0))))), (18, (.getfield 24, (3, (7, (5, 2))))), (21, (.iload_n 3, (1, (0, (0, 0))))), (22, (.iaload, (1, (0, (0, 0))))), (23, (.if_icmp .ge 38, (3, (0, (0, 0))))), (26, (.iload_n 3, (1, (0, (0, 0))))), (27, (.iconst 5, (1, (0, (0, 0))))), (28, (.imul, (1, (0, (0, 0))))), (29, (.iload 4, (2, (0, (0, 0))))), (31, (.iadd, (1, (0, (0, 0))))), (32, (.istore 5, (2, (0, (0, 0))))), (34, (.aload_n 0, (1, (0, (0, 0))))), (35, (.getfield 27, (3, (7, (6, 2))))), (38, (.iload 5, (2, (0, (0, 0))))), (40, (.iaload, (1, (0, (0, 0))))), (41, (.iload_n 1, (1, (0, (0, 0))))), (42, (.if_icmp .ne 13, (3, (0, (0, 0))))), (45, (.iload_n 2, (1, (0, (0, 0))))), (46, (.aload_n 0, (1, (0, (0, 0))))), (47, (.getfield 30, (3, (7, (7, 2))))), (50, (.iload 5, (2, (0, (0, 0))))), (52, (.iaload, (1, (0, (0, 0))))), (53, (.iadd, (1, (0, (0, 0))))), (54, (.istore_n 2, (1, (0, (0, 0))))), (55, (.iinc 4 1, (3, (0, (0, 0))))), (58, (.goto (-43), (3, (0, (0, 0))))), (61, (.iinc 3 1, (3, (0, (0, 0)))))],
  [(64, (.goto (-60), (3, (0, (0, 0))))), (67, (.iload_n 2, (1, (0, (0, 0))))), (68, (.ireturn, (1, (0, (0, 0)))))]]
set_option maxRecDepth 100000 in
noncomputable def mc_X7_leastHours : List (List mI) := [[(0, (.iconst 0, (1, (0, (0, 0))))), (1, (.istore_n 1, (1, (0, (0, 0))))), (2, (.iconst 0, (1, (0, (0, 0))))), (3, (.istore_n 2, (1, (0, (0, 0))))), (4, (.iload_n 2, (1, (0, (0, 0))))), (5, (.aload_n 0, (1, (0, (0, 0))))), (6, (.getfield 57, (3, (7, (0, 0))))), (9, (.if_icmp .ge 27, (3, (0, (0, 0))))), (12, (.iload_n 1, (1, (0, (0, 0))))), (13, (.aload_n 0, (1, (0, (0, 0))))), (14, (.getfield 9, (3, (7, (1, 2))))), (17, (.iload_n 2, (1, (0, (0, 0))))), (18, (.iaload, (1, (0, (0, 0))))), (19, (.aload_n 0, (1, (0, (0, 0))))), (20, (.iload_n 2, (1, (0, (0, 0))))), (21, (.iconst 0, (1, (0, (0, 0))))), (22, (.invokevirtual 89, (3, (41, (3, 0))))), (25, (.iadd, (1, (0, (0, 0))))), (26, (.invokestatic 92, (3, (0, (2, 5))))), (29, (.istore_n 1, (1, (0, (0, 0))))), (30, (.iinc 2 1, (3, (0, (0, 0))))), (33, (.goto (-29), (3, (0, (0, 0))))), (36, (.iconst 0, (1, (0, (0, 0))))), (37, (.istore_n 2, (1, (0, (0, 0))))), (38, (.iload_n 2, (1, (0, (0, 0))))), (39, (.iconst 4, (1, (0, (0, 0))))), (40, (.if_icmp .ge 19, (3, (0, (0, 0))))), (43, (.iload_n 1, (1, (0, (0, 0))))), (44, (.aload_n 0, (1, (0, (0, 0))))), (45, (.iload_n 2, (1, (0, (0, 0))))), (46, (.invokevirtual 95, (3, (42, (2, 0))))), (49, (.invokestatic 92, (3, (0, (2, 5))))), (52, (.istore_n 1, (1, (0, (0, 0))))), (53, (.iinc 2 1, (3, (0, (0, 0))))), (56, (.goto (-18), (3, (0, (0, 0))))), (59, (.iload_n 1, (1, (0, (0, 0))))), (60, (.ireturn, (1, (0, (0, 0)))))]]
set_option maxRecDepth 100000 in
noncomputable def mc_X7_isClosedIn : List (List mI) := [[(0, (.iconst 0, (1, (0, (0, 0))))), (1, (.istore_n 3, (1, (0, (0, 0))))), (2, (.iload_n 3, (1, (0, (0, 0))))), (3, (.aload_n 0, (1, (0, (0, 0))))), (4, (.getfield 33, (3, (7, (8, 2))))), (7, (.iload_n 1, (1, (0, (0, 0))))), (8, (.iaload, (1, (0, (0, 0))))), (9, (.if_icmp .ge 40, (3, (0, (0, 0))))), (12, (.iload_n 1, (1, (0, (0, 0))))), (13, (.iconst 4, (1, (0, (0, 0))))), (14, (.imul, (1, (0, (0, 0))))), (15, (.iload_n 3, (1, (0, (0, 0))))), (16, (.iadd, (1, (0, (0, 0))))), (17, (.istore 4, (2, (0, (0, 0))))), (19, (.aload_n 0, (1, (0, (0, 0))))), (20, (.getfield 36, (3, (7, (9, 2))))), (23, (.iload 4, (2, (0, (0, 0))))), (25, (.iaload, (1, (0, (0, 0))))), (26, (.iload_n 2, (1, (0, (0, 0))))), (27, (.if_icmp .gt 16, (3, (0, (0, 0))))), (30, (.iload_n 2, (1, (0, (0, 0))))), (31, (.aload_n 0, (1, (0, (0, 0))))), (32, (.getfield 39, (3, (7, (10, 2))))), (35, (.iload 4, (2, (0, (0, 0))))), (37, (.iaload, (1, (0, (0, 0))))), (38, (.if_icmp .ge 5, (3, (0, (0, 0))))), (41, (.iconst 1, (1, (0, (0, 0))))), (42, (.ireturn, (1, (0, (0, 0))))), (43, (.iinc 3 1, (3, (0, (0, 0))))), (46, (.goto (-44), (3, (0, (0, 0))))), (49, (.iconst 0, (1, (0, (0, 0))))), (50, (.ireturn, (1, (0, (0, 0)))))]]
set_option maxRecDepth 100000 in
noncomputable def mc_X7_firstOpen : List (List mI) := [[(0, (.iload_n 2, (1, (0, (0, 0))))), (1, (.istore 4, (2, (0, (0, 0))))), (3, (.iconst 0, (1, (0, (0, 0))))), (4, (.istore 5, (2, (0, (0, 0))))), (6, (.iload 5, (2, (0, (0, 0))))), (8, (.aload_n 0, (1, (0, (0, 0))))), (9, (.getfield 33, (3, (7, (8, 2))))), (12, (.iload_n 1, (1, (0, (0, 0))))), (13, (.iaload, (1, (0, (0, 0))))), (14, (.if_icmp .ge 72, (3, (0, (0, 0))))), (17, (.iconst 0, (1, (0, (0, 0))))), (18, (.istore 6, (2, (0, (0, 0))))), (20, (.iload 6, (2, (0, (0, 0))))), (22, (.aload_n 0, (1, (0, (0, 0))))), (23, (.getfield 33, (3, (7, (8, 2))))), (26, (.iload_n 1, (1, (0, (0, 0))))), (27, (.iaload, (1, (0, (0, 0))))), (28, (.if_icmp .ge 52, (3, (0, (0, 0))))), (31, (.iload_n 1, (1, (0, (0, 0))))), (32, (.iconst 4, (1, (0, (0, 0))))), (33, (.imul, (1, (0, (0, 0))))), (34, (.iload 6, (2, (0, (0, 0))))), (36, (.iadd, (1, (0, (0, 0))))), (37, (.istore 7, (2, (0, (0, 0))))), (39, (.iload 4, (2, (0, (0, 0))))), (41, (.aload_n 0, (1, (0, (0, 0))))), (42, (.getfield 39, (3, (7, (10, 2))))), (45, (.iload 7, (2, (0, (0, 0))))), (47, (.iaload, (1, (0, (0, 0))))), (48, (.if_icmp .ge 26, (3, (0, (0, 0))))), (51, (.aload_n 0, (1, (0, (0, 0))))), (52, (.getfield 36, (3, (7, (9, 2))))), (55, (.iload 7, (2, (0, (0, 0))))), (57, (.iaload, (1, (0, (0, 0))))), (58, (.iload 4, (2, (0, (0, 0))))), (60, (.iload_n 3, (1, (0, (0, 0))))), (61, (.iadd, (1, (0, (0, 0))))), (62, (.if_icmp .ge 12, (3, (0, (0, 0)))))],
  [(65, (.aload_n 0, (1, (0, (0, 0))))), (66, (.getfield 39, (3, (7, (10, 2))))), (69, (.iload 7, (2, (0, (0, 0))))), (71, (.iaload, (1, (0, (0, 0))))), (72, (.istore 4, (2, (0, (0, 0))))), (74, (.iinc 6 1, (3, (0, (0, 0))))), (77, (.goto (-57), (3, (0, (0, 0))))), (80, (.iinc 5 1, (3, (0, (0, 0))))), (83, (.goto (-77), (3, (0, (0, 0))))), (86, (.iload 4, (2, (0, (0, 0))))), (88, (.ireturn, (1, (0, (0, 0)))))]]
set_option maxRecDepth 100000 in
noncomputable def mc_X8_init : List (List mI) := [[(0, (.aload_n 0, (1, (0, (0, 0))))), (1, (.invokespecial 3, (3, (0, (1, 4))))), (4, (.aload_n 0, (1, (0, (0, 0))))), (5, (.bipush 30, (2, (0, (0, 0))))), (7, (.newarray .int, (2, (0, (0, 0))))), (9, (.putfield 9, (3, (8, (2, 2))))), (12, (.aload_n 0, (1, (0, (0, 0))))), (13, (.bipush 6, (2, (0, (0, 0))))), (15, (.newarray .int, (2, (0, (0, 0))))), (17, (.putfield 15, (3, (8, (3, 2))))), (20, (.aload_n 0, (1, (0, (0, 0))))), (21, (.iconst 4, (1, (0, (0, 0))))), (22, (.newarray .int, (2, (0, (0, 0))))), (24, (.putfield 18, (3, (8, (4, 2))))), (27, (.aload_n 0, (1, (0, (0, 0))))), (28, (.bipush 120, (2, (0, (0, 0))))), (30, (.newarray .int, (2, (0, (0, 0))))), (32, (.putfield 21, (3, (8, (5, 2))))), (35, (.aload_n 0, (1, (0, (0, 0))))), (36, (.bipush 30, (2, (0, (0, 0))))), (38, (.newarray .int, (2, (0, (0, 0))))), (40, (.putfield 24, (3, (8, (6, 2))))), (43, (.aload_n 0, (1, (0, (0, 0))))), (44, (.bipush 30, (2, (0, (0, 0))))), (46, (.newarray .int, (2, (0, (0, 0))))), (48, (.putfield 27, (3, (8, (7, 2))))), (51, (.aload_n 0, (1, (0, (0, 0))))), (52, (.bipush 30, (2, (0, (0, 0))))), (54, (.newarray .int, (2, (0, (0, 0))))), (56, (.putfield 30, (3, (8, (8, 2))))), (59, (.aload_n 0, (1, (0, (0, 0))))), (60, (.bipush 30, (2, (0, (0, 0))))), (62, (.newarray .int, (2, (0, (0, 0)))))],
  [(64, (.putfield 33, (3, (8, (9, 2))))), (67, (.aload_n 0, (1, (0, (0, 0))))), (68, (.aload_n 1, (1, (0, (0, 0))))), (69, (.putfield 36, (3, (8, (0, 2))))), (72, (.return_, (1, (0, (0, 0)))))]]
set_option maxRecDepth 100000 in
noncomputable def mc_X8_clear : List (List mI) := [[(0, (.aload_n 0, (1, (0, (0, 0))))), (1, (.iconst 0, (1, (0, (0, 0))))), (2, (.putfield 40, (3, (8, (1, 0))))), (5, (.aload_n 0, (1, (0, (0, 0))))), (6, (.getfield 15, (3, (8, (3, 2))))), (9, (.iconst 0, (1, (0, (0, 0))))), (10, (.invokestatic 44, (3, (241, (2, 1))))), (13, (.aload_n 0, (1, (0, (0, 0))))), (14, (.getfield 18, (3, (8, (4, 2))))), (17, (.iconst 0, (1, (0, (0, 0))))), (18, (.invokestatic 44, (3, (241, (2, 1))))), (21, (.return_, (1, (0, (0, 0)))))]]
set_option maxRecDepth 100000 in
noncomputable def mc_X8_hasLeft : List (List mI) := [[(0, (.iload_n 1, (1, (0, (0, 0))))), (1, (.ifCond .lt 36, (3, (0, (0, 0))))), (4, (.iload_n 1, (1, (0, (0, 0))))), (5, (.aload_n 0, (1, (0, (0, 0))))), (6, (.getfield 36, (3, (8, (0, 2))))), (9, (.getfield 50, (3, (7, (0, 0))))), (12, (.if_icmp .ge 25, (3, (0, (0, 0))))), (15, (.aload_n 0, (1, (0, (0, 0))))), (16, (.getfield 15, (3, (8, (3, 2))))), (19, (.iload_n 1, (1, (0, (0, 0))))), (20, (.iaload, (1, (0, (0, 0))))), (21, (.aload_n 0, (1, (0, (0, 0))))), (22, (.getfield 36, (3, (8, (0, 2))))), (25, (.getfield 55, (3, (7, (5, 2))))), (28, (.iload_n 1, (1, (0, (0, 0))))), (29, (.iaload, (1, (0, (0, 0))))), (30, (.if_icmp .ge 7, (3, (0, (0, 0))))), (33, (.iconst 1, (1, (0, (0, 0))))), (34, (.goto 4, (3, (0, (0, 0))))), (37, (.iconst 0, (1, (0, (0, 0))))), (38, (.ireturn, (1, (0, (0, 0)))))]]
set_option maxRecDepth 100000 in
noncomputable def mc_X8_endOfStep : List (List mI) := [[(0, (.aload_n 0, (1, (0, (0, 0))))), (1, (.getfield 24, (3, (8, (6, 2))))), (4, (.iload_n 1, (1, (0, (0, 0))))), (5, (.iaload, (1, (0, (0, 0))))), (6, (.aload_n 0, (1, (0, (0, 0))))), (7, (.getfield 36, (3, (8, (0, 2))))), (10, (.getfield 58, (3, (7, (7, 2))))), (13, (.iload_n 1, (1, (0, (0, 0))))), (14, (.iaload, (1, (0, (0, 0))))), (15, (.iadd, (1, (0, (0, 0))))), (16, (.ireturn, (1, (0, (0, 0)))))]]
set_option maxRecDepth 100000 in
noncomputable def mc_X8_nextStep : List (List mI) := [[(0, (.iload_n 1, (1, (0, (0, 0))))), (1, (.iconst 5, (1, (0, (0, 0))))), (2, (.imul, (1, (0, (0, 0))))), (3, (.aload_n 0, (1, (0, (0, 0))))), (4, (.getfield 15, (3, (8, (3, 2))))), (7, (.iload_n 1, (1, (0, (0, 0))))), (8, (.iaload, (1, (0, (0, 0))))), (9, (.iadd, (1, (0, (0, 0))))), (10, (.ireturn, (1, (0, (0, 0)))))]]
set_option maxRecDepth 100000 in
noncomputable def mc_X8_readyHour : List (List mI) := [[(0, (.aload_n 0, (1, (0, (0, 0))))), (1, (.getfield 15, (3, (8, (3, 2))))), (4, (.iload_n 1, (1, (0, (0, 0))))), (5, (.iaload, (1, (0, (0, 0))))), (6, (.ifCond .ne 15, (3, (0, (0, 0))))), (9, (.aload_n 0, (1, (0, (0, 0))))), (10, (.getfield 36, (3, (8, (0, 2))))), (13, (.getfield 61, (3, (7, (1, 2))))), (16, (.iload_n 1, (1, (0, (0, 0))))), (17, (.iaload, (1, (0, (0, 0))))), (18, (.goto 14, (3, (0, (0, 0))))), (21, (.aload_n 0, (1, (0, (0, 0))))), (22, (.aload_n 0, (1, (0, (0, 0))))), (23, (.iload_n 1, (1, (0, (0, 0))))), (24, (.invokevirtual 64, (3, (50, (2, 0))))), (27, (.iconst 1, (1, (0, (0, 0))))), (28, (.isub, (1, (0, (0, 0))))), (29, (.invokevirtual 68, (3, (49, (2, 0))))), (32, (.ireturn, (1, (0, (0, 0)))))]]
set_option maxRecDepth 100000 in
noncomputable def mc_X8_lastOn : List (List mI) := [[(0, (.aload_n 0, (1, (0, (0, 0))))), (1, (.getfield 18, (3, (8, (4, 2))))), (4, (.iload_n 1, (1, (0, (0, 0))))), (5, (.iaload, (1, (0, (0, 0))))), (6, (.ifCond .ne 7, (3, (0, (0, 0))))), (9, (.iconst (-1), (1, (0, (0, 0))))), (10, (.goto 21, (3, (0, (0, 0))))), (13, (.aload_n 0, (1, (0, (0, 0))))), (14, (.getfield 21, (3, (8, (5, 2))))), (17, (.iload_n 1, (1, (0, (0, 0))))), (18, (.bipush 30, (2, (0, (0, 0))))), (20, (.imul, (1, (0, (0, 0))))), (21, (.aload_n 0, (1, (0, (0, 0))))), (22, (.getfield 18, (3, (8, (4, 2))))), (25, (.iload_n 1, (1, (0, (0, 0))))), (26, (.iaload, (1, (0, (0, 0))))), (27, (.iadd, (1, (0, (0, 0))))), (28, (.iconst 1, (1, (0, (0, 0))))), (29, (.isub, (1, (0, (0, 0))))), (30, (.iaload, (1, (0, (0, 0))))), (31, (.ireturn, (1, (0, (0, 0)))))]]
set_option maxRecDepth 100000 in
noncomputable def mc_X8_needsTool : List (List mI) := [[(0, (.aload_n 0, (1, (0, (0, 0))))), (1, (.getfield 36, (3, (8, (0, 2))))), (4, (.getfield 71, (3, (7, (11, 2))))), (7, (.aload_n 0, (1, (0, (0, 0))))), (8, (.getfield 36, (3, (8, (0, 2))))), (11, (.getfield 74, (3, (7, (6, 2))))), (14, (.iload_n 2, (1, (0, (0, 0))))), (15, (.iaload, (1, (0, (0, 0))))), (16, (.iaload, (1, (0, (0, 0))))), (17, (.istore_n 3, (1, (0, (0, 0))))), (18, (.iload_n 3, (1, (0, (0, 0))))), (19, (.ifCond .eq 27, (3, (0, (0, 0))))), (22, (.aload_n 0, (1, (0, (0, 0))))), (23, (.getfield 33, (3, (8, (9, 2))))), (26, (.iload_n 1, (1, (0, (0, 0))))), (27, (.iaload, (1, (0, (0, 0))))), (28, (.aload_n 0, (1, (0, (0, 0))))), (29, (.getfield 36, (3, (8, (0, 2))))), (32, (.getfield 58, (3, (7, (7, 2))))), (35, (.iload_n 2, (1, (0, (0, 0))))), (36, (.iaload, (1, (0, (0, 0))))), (37, (.iadd, (1, (0, (0, 0))))), (38, (.iload_n 3, (1, (0, (0, 0))))), (39, (.if_icmp .le 7, (3, (0, (0, 0))))), (42, (.iconst 1, (1, (0, (0, 0))))), (43, (.goto 4, (3, (0, (0, 0))))), (46, (.iconst 0, (1, (0, (0, 0))))), (47, (.ireturn, (1, (0, (0, 0)))))]]
set_option maxRecDepth 100000 in
noncomputable def mc_X8_hoursBetween : List (List mI) := [[(0, (.aload_n 0, (1, (0, (0, 0))))), (1, (.getfield 36, (3, (8, (0, 2))))), (4, (.getfield 77, (3, (7, (13, 2))))), (7, (.aload_n 0, (1, (0, (0, 0))))), (8, (.getfield 36, (3, (8, (0, 2))))), (11, (.getfield 80, (3, (7, (4, 2))))), (14, (.iload_n 1, (1, (0, (0, 0))))), (15, (.iconst 5, (1, (0, (0, 0))))), (16, (.idiv, (1, (0, (0, 0))))), (17, (.iaload, (1, (0, (0, 0))))), (18, (.iconst 4, (1, (0, (0, 0))))), (19, (.imul, (1, (0, (0, 0))))), (20, (.aload_n 0, (1, (0, (0, 0))))), (21, (.getfield 36, (3, (8, (0, 2))))), (24, (.getfield 80, (3, (7, (4, 2))))), (27, (.iload_n 2, (1, (0, (0, 0))))), (28, (.iconst 5, (1, (0, (0, 0))))), (29, (.idiv, (1, (0, (0, 0))))), (30, (.iaload, (1, (0, (0, 0))))), (31, (.iadd, (1, (0, (0, 0))))), (32, (.iaload, (1, (0, (0, 0))))), (33, (.istore_n 3, (1, (0, (0, 0))))), (34, (.aload_n 0, (1, (0, (0, 0))))), (35, (.iload_n 1, (1, (0, (0, 0))))), (36, (.iload_n 2, (1, (0, (0, 0))))), (37, (.invokevirtual 83, (3, (53, (3, 0))))), (40, (.ifCond .eq 25, (3, (0, (0, 0))))), (43, (.iload_n 3, (1, (0, (0, 0))))), (44, (.aload_n 0, (1, (0, (0, 0))))), (45, (.getfield 36, (3, (8, (0, 2))))), (48, (.getfield 87, (3, (7, (12, 2))))), (51, (.aload_n 0, (1, (0, (0, 0))))), (52, (.getfield 36, (3, (8, (0, 2))))), (55, (.getfield 74, (3, (7, (6, 2))))), (58, (.iload_n 2, (1, (0, (0, 0))))), (59, (.iaload, (1, (0, (0, 0))))), (60, (.iaload, (1, (0, (0, 0))))), (61, (.iadd, (1, (0, (0, 0))))), (62, (.goto 4, (3, (0, (0, 0)))))],
  [(65, (.iload_n 3, (1, (0, (0, 0))))), (66, (.ireturn, (1, (0, (0, 0)))))]]
set_option maxRecDepth 100000 in
noncomputable def mc_X8_firstHour : List (List mI) := [[(0, (.aload_n 0, (1, (0, (0, 0))))), (1, (.iload_n 1, (1, (0, (0, 0))))), (2, (.invokevirtual 64, (3, (50, (2, 0))))), (5, (.istore_n 3, (1, (0, (0, 0))))), (6, (.aload_n 0, (1, (0, (0, 0))))), (7, (.getfield 36, (3, (8, (0, 2))))), (10, (.getfield 74, (3, (7, (6, 2))))), (13, (.iload_n 3, (1, (0, (0, 0))))), (14, (.iaload, (1, (0, (0, 0))))), (15, (.istore 4, (2, (0, (0, 0))))), (17, (.aload_n 0, (1, (0, (0, 0))))), (18, (.iload 4, (2, (0, (0, 0))))), (20, (.invokevirtual 90, (3, (52, (2, 0))))), (23, (.istore 5, (2, (0, (0, 0))))), (25, (.aload_n 0, (1, (0, (0, 0))))), (26, (.iload_n 1, (1, (0, (0, 0))))), (27, (.invokevirtual 93, (3, (51, (2, 0))))), (30, (.iload_n 2, (1, (0, (0, 0))))), (31, (.invokestatic 96, (3, (0, (2, 5))))), (34, (.istore 6, (2, (0, (0, 0))))), (36, (.iload 5, (2, (0, (0, 0))))), (38, (.iconst (-1), (1, (0, (0, 0))))), (39, (.if_icmp .eq 24, (3, (0, (0, 0))))), (42, (.iload 6, (2, (0, (0, 0))))), (44, (.aload_n 0, (1, (0, (0, 0))))), (45, (.iload 5, (2, (0, (0, 0))))), (47, (.invokevirtual 68, (3, (49, (2, 0))))), (50, (.aload_n 0, (1, (0, (0, 0))))), (51, (.iload 5, (2, (0, (0, 0))))), (53, (.iload_n 3, (1, (0, (0, 0))))), (54, (.invokevirtual 102, (3, (54, (3, 0))))), (57, (.iadd, (1, (0, (0, 0))))), (58, (.invokestatic 96, (3, (0, (2, 5))))), (61, (.istore 6, (2, (0, (0, 0))))), (63, (.aload_n 0, (1, (0, (0, 0)))))],
  [(64, (.getfield 36, (3, (8, (0, 2))))), (67, (.iload 4, (2, (0, (0, 0))))), (69, (.iload 6, (2, (0, (0, 0))))), (71, (.aload_n 0, (1, (0, (0, 0))))), (72, (.getfield 36, (3, (8, (0, 2))))), (75, (.getfield 58, (3, (7, (7, 2))))), (78, (.iload_n 3, (1, (0, (0, 0))))), (79, (.iaload, (1, (0, (0, 0))))), (80, (.invokevirtual 105, (3, (45, (4, 0))))), (83, (.ireturn, (1, (0, (0, 0)))))]]
set_option maxRecDepth 100000 in
noncomputable def mc_X8_put : List (List mI) := [[(0, (.aload_n 0, (1, (0, (0, 0))))), (1, (.iload_n 1, (1, (0, (0, 0))))), (2, (.invokevirtual 109, (3, (48, (2, 0))))), (5, (.ifCond .eq 12, (3, (0, (0, 0))))), (8, (.aload_n 0, (1, (0, (0, 0))))), (9, (.getfield 40, (3, (8, (1, 0))))), (12, (.bipush 30, (2, (0, (0, 0))))), (14, (.if_icmp .lt 4, (3, (0, (0, 0))))), (17, (.return_, (1, (0, (0, 0))))), (18, (.aload_n 0, (1, (0, (0, 0))))), (19, (.iload_n 1, (1, (0, (0, 0))))), (20, (.invokevirtual 64, (3, (50, (2, 0))))), (23, (.istore_n 3, (1, (0, (0, 0))))), (24, (.aload_n 0, (1, (0, (0, 0))))), (25, (.getfield 36, (3, (8, (0, 2))))), (28, (.getfield 74, (3, (7, (6, 2))))), (31, (.iload_n 3, (1, (0, (0, 0))))), (32, (.iaload, (1, (0, (0, 0))))), (33, (.istore 4, (2, (0, (0, 0))))), (35, (.aload_n 0, (1, (0, (0, 0))))), (36, (.iload 4, (2, (0, (0, 0))))), (38, (.invokevirtual 90, (3, (52, (2, 0))))), (41, (.istore 5, (2, (0, (0, 0))))), (43, (.aload_n 0, (1, (0, (0, 0))))), (44, (.getfield 24, (3, (8, (6, 2))))), (47, (.iload_n 3, (1, (0, (0, 0))))), (48, (.aload_n 0, (1, (0, (0, 0))))), (49, (.iload_n 1, (1, (0, (0, 0))))), (50, (.iload_n 2, (1, (0, (0, 0))))), (51, (.invokevirtual 113, (3, (55, (3, 0))))), (54, (.iastore, (1, (0, (0, 0))))), (55, (.aload_n 0, (1, (0, (0, 0))))), (56, (.getfield 27, (3, (8, (7, 2))))), (59, (.iload_n 3, (1, (0, (0, 0))))), (60, (.iload 5, (2, (0, (0, 0))))), (62, (.iastore, (1, (0, (0, 0))))), (63, (.aload_n 0, (1, (0, (0, 0)))))],
  [(64, (.getfield 30, (3, (8, (8, 2))))), (67, (.iload_n 3, (1, (0, (0, 0))))), (68, (.iload 5, (2, (0, (0, 0))))), (70, (.iconst (-1), (1, (0, (0, 0))))), (71, (.if_icmp .ne 7, (3, (0, (0, 0))))), (74, (.iconst 0, (1, (0, (0, 0))))), (75, (.goto 10, (3, (0, (0, 0))))), (78, (.aload_n 0, (1, (0, (0, 0))))), (79, (.iload 5, (2, (0, (0, 0))))), (81, (.iload_n 3, (1, (0, (0, 0))))), (82, (.invokevirtual 102, (3, (54, (3, 0))))), (85, (.iastore, (1, (0, (0, 0))))), (86, (.iload 5, (2, (0, (0, 0))))), (88, (.iconst (-1), (1, (0, (0, 0))))), (89, (.if_icmp .eq 13, (3, (0, (0, 0))))), (92, (.aload_n 0, (1, (0, (0, 0))))), (93, (.iload 5, (2, (0, (0, 0))))), (95, (.iload_n 3, (1, (0, (0, 0))))), (96, (.invokevirtual 83, (3, (53, (3, 0))))), (99, (.ifCond .eq 7, (3, (0, (0, 0))))), (102, (.iconst 1, (1, (0, (0, 0))))), (103, (.goto 4, (3, (0, (0, 0))))), (106, (.iconst 0, (1, (0, (0, 0))))), (107, (.istore 6, (2, (0, (0, 0))))), (109, (.aload_n 0, (1, (0, (0, 0))))), (110, (.getfield 33, (3, (8, (9, 2))))), (113, (.iload_n 3, (1, (0, (0, 0))))), (114, (.iload 6, (2, (0, (0, 0))))), (116, (.ifCond .eq 15, (3, (0, (0, 0))))), (119, (.aload_n 0, (1, (0, (0, 0))))), (120, (.getfield 36, (3, (8, (0, 2))))), (123, (.getfield 58, (3, (7, (7, 2))))), (126, (.iload_n 3, (1, (0, (0, 0))))), (127, (.iaload, (1, (0, (0, 0)))))],
  [(128, (.goto 20, (3, (0, (0, 0))))), (131, (.aload_n 0, (1, (0, (0, 0))))), (132, (.getfield 33, (3, (8, (9, 2))))), (135, (.iload 5, (2, (0, (0, 0))))), (137, (.iaload, (1, (0, (0, 0))))), (138, (.aload_n 0, (1, (0, (0, 0))))), (139, (.getfield 36, (3, (8, (0, 2))))), (142, (.getfield 58, (3, (7, (7, 2))))), (145, (.iload_n 3, (1, (0, (0, 0))))), (146, (.iaload, (1, (0, (0, 0))))), (147, (.iadd, (1, (0, (0, 0))))), (148, (.iastore, (1, (0, (0, 0))))), (149, (.aload_n 0, (1, (0, (0, 0))))), (150, (.getfield 21, (3, (8, (5, 2))))), (153, (.iload 4, (2, (0, (0, 0))))), (155, (.bipush 30, (2, (0, (0, 0))))), (157, (.imul, (1, (0, (0, 0))))), (158, (.aload_n 0, (1, (0, (0, 0))))), (159, (.getfield 18, (3, (8, (4, 2))))), (162, (.iload 4, (2, (0, (0, 0))))), (164, (.iaload, (1, (0, (0, 0))))), (165, (.iadd, (1, (0, (0, 0))))), (166, (.iload_n 3, (1, (0, (0, 0))))), (167, (.iastore, (1, (0, (0, 0))))), (168, (.aload_n 0, (1, (0, (0, 0))))), (169, (.getfield 18, (3, (8, (4, 2))))), (172, (.iload 4, (2, (0, (0, 0))))), (174, (.dup2, (1, (0, (0, 0))))), (175, (.iaload, (1, (0, (0, 0))))), (176, (.iconst 1, (1, (0, (0, 0))))), (177, (.iadd, (1, (0, (0, 0))))), (178, (.iastore, (1, (0, (0, 0))))), (179, (.aload_n 0, (1, (0, (0, 0))))), (180, (.getfield 15, (3, (8, (3, 2))))), (183, (.iload_n 1, (1, (0, (0, 0))))), (184, (.dup2, (1, (0, (0, 0))))), (185, (.iaload, (1, (0, (0, 0))))), (186, (.iconst 1, (1, (0, (0, 0))))), (187, (.iadd, (1, (0, (0, 0))))), (188, (.iastore, (1, (0, (0, 0))))), (189, (.aload_n 0, (1, (0, (0, 0))))), (190, (.getfield 9, (3, (8, (2, 2)))))],
  [(193, (.aload_n 0, (1, (0, (0, 0))))), (194, (.getfield 40, (3, (8, (1, 0))))), (197, (.iload_n 1, (1, (0, (0, 0))))), (198, (.iastore, (1, (0, (0, 0))))), (199, (.aload_n 0, (1, (0, (0, 0))))), (200, (.dup, (1, (0, (0, 0))))), (201, (.getfield 40, (3, (8, (1, 0))))), (204, (.iconst 1, (1, (0, (0, 0))))), (205, (.iadd, (1, (0, (0, 0))))), (206, (.putfield 40, (3, (8, (1, 0))))), (209, (.return_, (1, (0, (0, 0)))))]]
set_option maxRecDepth 100000 in
noncomputable def mc_X8_takeBack : List (List mI) := [[(0, (.aload_n 0, (1, (0, (0, 0))))), (1, (.getfield 40, (3, (8, (1, 0))))), (4, (.ifCond .le 55, (3, (0, (0, 0))))), (7, (.aload_n 0, (1, (0, (0, 0))))), (8, (.dup, (1, (0, (0, 0))))), (9, (.getfield 40, (3, (8, (1, 0))))), (12, (.iconst 1, (1, (0, (0, 0))))), (13, (.isub, (1, (0, (0, 0))))), (14, (.putfield 40, (3, (8, (1, 0))))), (17, (.aload_n 0, (1, (0, (0, 0))))), (18, (.getfield 9, (3, (8, (2, 2))))), (21, (.aload_n 0, (1, (0, (0, 0))))), (22, (.getfield 40, (3, (8, (1, 0))))), (25, (.iaload, (1, (0, (0, 0))))), (26, (.istore_n 1, (1, (0, (0, 0))))), (27, (.aload_n 0, (1, (0, (0, 0))))), (28, (.getfield 15, (3, (8, (3, 2))))), (31, (.iload_n 1, (1, (0, (0, 0))))), (32, (.dup2, (1, (0, (0, 0))))), (33, (.iaload, (1, (0, (0, 0))))), (34, (.iconst 1, (1, (0, (0, 0))))), (35, (.isub, (1, (0, (0, 0))))), (36, (.iastore, (1, (0, (0, 0))))), (37, (.aload_n 0, (1, (0, (0, 0))))), (38, (.getfield 18, (3, (8, (4, 2))))), (41, (.aload_n 0, (1, (0, (0, 0))))), (42, (.getfield 36, (3, (8, (0, 2))))), (45, (.getfield 74, (3, (7, (6, 2))))), (48, (.aload_n 0, (1, (0, (0, 0))))), (49, (.iload_n 1, (1, (0, (0, 0))))), (50, (.invokevirtual 64, (3, (50, (2, 0))))), (53, (.iaload, (1, (0, (0, 0))))), (54, (.dup2, (1, (0, (0, 0))))), (55, (.iaload, (1, (0, (0, 0))))), (56, (.iconst 1, (1, (0, (0, 0))))), (57, (.isub, (1, (0, (0, 0))))), (58, (.iastore, (1, (0, (0, 0))))), (59, (.return_, (1, (0, (0, 0)))))]]
set_option maxRecDepth 100000 in
noncomputable def mc_X8_replay : List (List mI) := [[(0, (.aload_n 0, (1, (0, (0, 0))))), (1, (.invokevirtual 116, (3, (47, (1, 0))))), (4, (.aload_n 0, (1, (0, (0, 0))))), (5, (.getfield 36, (3, (8, (0, 2))))), (8, (.getfield 119, (3, (7, (15, 1))))), (11, (.ifCond .eq 9, (3, (0, (0, 0))))), (14, (.aload_n 0, (1, (0, (0, 0))))), (15, (.iconst (-1), (1, (0, (0, 0))))), (16, (.iconst 0, (1, (0, (0, 0))))), (17, (.invokevirtual 123, (3, (59, (3, 0))))), (20, (.return_, (1, (0, (0, 0)))))]]
set_option maxRecDepth 100000 in
noncomputable def mc_X8_putDelayed : List (List mI) := [[(0, (.aload_n 0, (1, (0, (0, 0))))), (1, (.invokevirtual 116, (3, (47, (1, 0))))), (4, (.aload_n 0, (1, (0, (0, 0))))), (5, (.getfield 36, (3, (8, (0, 2))))), (8, (.invokevirtual 127, (3, (40, (1, 0))))), (11, (.istore_n 3, (1, (0, (0, 0))))), (12, (.iconst 0, (1, (0, (0, 0))))), (13, (.istore 4, (2, (0, (0, 0))))), (15, (.iload 4, (2, (0, (0, 0))))), (17, (.iload_n 3, (1, (0, (0, 0))))), (18, (.if_icmp .ge 42, (3, (0, (0, 0))))), (21, (.aload_n 0, (1, (0, (0, 0))))), (22, (.getfield 36, (3, (8, (0, 2))))), (25, (.getfield 131, (3, (7, (16, 2))))), (28, (.iload 4, (2, (0, (0, 0))))), (30, (.iaload, (1, (0, (0, 0))))), (31, (.istore 5, (2, (0, (0, 0))))), (33, (.aload_n 0, (1, (0, (0, 0))))), (34, (.iload 5, (2, (0, (0, 0))))), (36, (.aload_n 0, (1, (0, (0, 0))))), (37, (.iload 5, (2, (0, (0, 0))))), (39, (.invokevirtual 64, (3, (50, (2, 0))))), (42, (.iload_n 1, (1, (0, (0, 0))))), (43, (.if_icmp .ne 7, (3, (0, (0, 0))))), (46, (.iload_n 2, (1, (0, (0, 0))))), (47, (.goto 4, (3, (0, (0, 0))))), (50, (.iconst 0, (1, (0, (0, 0))))), (51, (.invokevirtual 132, (3, (56, (3, 0))))), (54, (.iinc 4 1, (3, (0, (0, 0))))), (57, (.goto (-42), (3, (0, (0, 0))))), (60, (.return_, (1, (0, (0, 0)))))]]
set_option maxRecDepth 100000 in
noncomputable def mc_X8_putRushed : List (List mI) := [[(0, (.aload_n 0, (1, (0, (0, 0))))), (1, (.invokevirtual 116, (3, (47, (1, 0))))), (4, (.iconst 0, (1, (0, (0, 0))))), (5, (.istore_n 2, (1, (0, (0, 0))))), (6, (.iload_n 2, (1, (0, (0, 0))))), (7, (.aload_n 0, (1, (0, (0, 0))))), (8, (.getfield 36, (3, (8, (0, 2))))), (11, (.getfield 55, (3, (7, (5, 2))))), (14, (.iload_n 1, (1, (0, (0, 0))))), (15, (.iaload, (1, (0, (0, 0))))), (16, (.if_icmp .ge 15, (3, (0, (0, 0))))), (19, (.aload_n 0, (1, (0, (0, 0))))), (20, (.iload_n 1, (1, (0, (0, 0))))), (21, (.iconst 0, (1, (0, (0, 0))))), (22, (.invokevirtual 132, (3, (56, (3, 0))))), (25, (.iinc 2 1, (3, (0, (0, 0))))), (28, (.goto (-22), (3, (0, (0, 0))))), (31, (.aload_n 0, (1, (0, (0, 0))))), (32, (.getfield 36, (3, (8, (0, 2))))), (35, (.invokevirtual 127, (3, (40, (1, 0))))), (38, (.istore_n 2, (1, (0, (0, 0))))), (39, (.iconst 0, (1, (0, (0, 0))))), (40, (.istore_n 3, (1, (0, (0, 0))))), (41, (.iload_n 3, (1, (0, (0, 0))))), (42, (.iload_n 2, (1, (0, (0, 0))))), (43, (.if_icmp .ge 36, (3, (0, (0, 0))))), (46, (.aload_n 0, (1, (0, (0, 0))))), (47, (.getfield 36, (3, (8, (0, 2))))), (50, (.getfield 131, (3, (7, (16, 2))))), (53, (.iload_n 3, (1, (0, (0, 0))))), (54, (.iaload, (1, (0, (0, 0))))), (55, (.iload_n 1, (1, (0, (0, 0))))), (56, (.if_icmp .eq 17, (3, (0, (0, 0))))), (59, (.aload_n 0, (1, (0, (0, 0))))), (60, (.aload_n 0, (1, (0, (0, 0))))), (61, (.getfield 36, (3, (8, (0, 2)))))],
  [(64, (.getfield 131, (3, (7, (16, 2))))), (67, (.iload_n 3, (1, (0, (0, 0))))), (68, (.iaload, (1, (0, (0, 0))))), (69, (.iconst 0, (1, (0, (0, 0))))), (70, (.invokevirtual 132, (3, (56, (3, 0))))), (73, (.iinc 3 1, (3, (0, (0, 0))))), (76, (.goto (-35), (3, (0, (0, 0))))), (79, (.return_, (1, (0, (0, 0)))))]]
set_option maxRecDepth 100000 in
noncomputable def mc_X8_putBegunIn : List (List mI) := [[(0, (.iconst 0, (1, (0, (0, 0))))), (1, (.istore_n 3, (1, (0, (0, 0))))), (2, (.iload_n 3, (1, (0, (0, 0))))), (3, (.aload_n 1, (1, (0, (0, 0))))), (4, (.getfield 40, (3, (8, (1, 0))))), (7, (.if_icmp .ge 48, (3, (0, (0, 0))))), (10, (.aload_n 1, (1, (0, (0, 0))))), (11, (.getfield 9, (3, (8, (2, 2))))), (14, (.iload_n 3, (1, (0, (0, 0))))), (15, (.iaload, (1, (0, (0, 0))))), (16, (.istore 4, (2, (0, (0, 0))))), (18, (.aload_n 0, (1, (0, (0, 0))))), (19, (.iload 4, (2, (0, (0, 0))))), (21, (.invokevirtual 109, (3, (48, (2, 0))))), (24, (.ifCond .eq 25, (3, (0, (0, 0))))), (27, (.aload_n 1, (1, (0, (0, 0))))), (28, (.getfield 24, (3, (8, (6, 2))))), (31, (.aload_n 0, (1, (0, (0, 0))))), (32, (.iload 4, (2, (0, (0, 0))))), (34, (.invokevirtual 64, (3, (50, (2, 0))))), (37, (.iaload, (1, (0, (0, 0))))), (38, (.iload_n 2, (1, (0, (0, 0))))), (39, (.if_icmp .ge 10, (3, (0, (0, 0))))), (42, (.aload_n 0, (1, (0, (0, 0))))), (43, (.iload 4, (2, (0, (0, 0))))), (45, (.iconst 0, (1, (0, (0, 0))))), (46, (.invokevirtual 132, (3, (56, (3, 0))))), (49, (.iinc 3 1, (3, (0, (0, 0))))), (52, (.goto (-50), (3, (0, (0, 0))))), (55, (.return_, (1, (0, (0, 0)))))]]
set_option maxRecDepth 100000 in
noncomputable def mc_X8_putRestByRule : List (List mI) := [[(0, (.aload_n 0, (1, (0, (0, 0))))), (1, (.getfield 36, (3, (8, (0, 2))))), (4, (.invokevirtual 127, (3, (40, (1, 0))))), (7, (.aload_n 0, (1, (0, (0, 0))))), (8, (.getfield 40, (3, (8, (1, 0))))), (11, (.isub, (1, (0, (0, 0))))), (12, (.istore_n 2, (1, (0, (0, 0))))), (13, (.iconst 0, (1, (0, (0, 0))))), (14, (.istore_n 3, (1, (0, (0, 0))))), (15, (.iload_n 3, (1, (0, (0, 0))))), (16, (.iload_n 2, (1, (0, (0, 0))))), (17, (.if_icmp .ge 19, (3, (0, (0, 0))))), (20, (.aload_n 0, (1, (0, (0, 0))))), (21, (.aload_n 0, (1, (0, (0, 0))))), (22, (.iload_n 1, (1, (0, (0, 0))))), (23, (.invokevirtual 135, (3, (63, (2, 0))))), (26, (.iconst 0, (1, (0, (0, 0))))), (27, (.invokevirtual 132, (3, (56, (3, 0))))), (30, (.iinc 3 1, (3, (0, (0, 0))))), (33, (.goto (-18), (3, (0, (0, 0))))), (36, (.return_, (1, (0, (0, 0)))))]]
set_option maxRecDepth 100000 in
noncomputable def mc_X8_firstByRule : List (List mI) := [[(0, (.iconst (-1), (1, (0, (0, 0))))), (1, (.istore_n 2, (1, (0, (0, 0))))), (2, (.iconst 0, (1, (0, (0, 0))))), (3, (.istore_n 3, (1, (0, (0, 0))))), (4, (.iconst 0, (1, (0, (0, 0))))), (5, (.istore 4, (2, (0, (0, 0))))), (7, (.iload 4, (2, (0, (0, 0))))), (9, (.aload_n 0, (1, (0, (0, 0))))), (10, (.getfield 36, (3, (8, (0, 2))))), (13, (.getfield 50, (3, (7, (0, 0))))), (16, (.if_icmp .ge 61, (3, (0, (0, 0))))), (19, (.aload_n 0, (1, (0, (0, 0))))), (20, (.iload 4, (2, (0, (0, 0))))), (22, (.invokevirtual 109, (3, (48, (2, 0))))), (25, (.ifCond .eq 46, (3, (0, (0, 0))))), (28, (.aload_n 0, (1, (0, (0, 0))))), (29, (.iload 4, (2, (0, (0, 0))))), (31, (.iconst 0, (1, (0, (0, 0))))), (32, (.invokevirtual 113, (3, (55, (3, 0))))), (35, (.istore 5, (2, (0, (0, 0))))), (37, (.iload_n 2, (1, (0, (0, 0))))), (38, (.iconst (-1), (1, (0, (0, 0))))), (39, (.if_icmp .eq 26, (3, (0, (0, 0))))), (42, (.iload 5, (2, (0, (0, 0))))), (44, (.iload_n 3, (1, (0, (0, 0))))), (45, (.if_icmp .lt 20, (3, (0, (0, 0))))), (48, (.iload 5, (2, (0, (0, 0))))), (50, (.iload_n 3, (1, (0, (0, 0))))), (51, (.if_icmp .ne 20, (3, (0, (0, 0))))), (54, (.aload_n 0, (1, (0, (0, 0))))), (55, (.iload_n 1, (1, (0, (0, 0))))), (56, (.iload 4, (2, (0, (0, 0))))), (58, (.iload_n 2, (1, (0, (0, 0))))), (59, (.invokevirtual 138, (3, (64, (4, 0))))), (62, (.ifCond .eq 9, (3, (0, (0, 0)))))],
  [(65, (.iload 4, (2, (0, (0, 0))))), (67, (.istore_n 2, (1, (0, (0, 0))))), (68, (.iload 5, (2, (0, (0, 0))))), (70, (.istore_n 3, (1, (0, (0, 0))))), (71, (.iinc 4 1, (3, (0, (0, 0))))), (74, (.goto (-67), (3, (0, (0, 0))))), (77, (.iload_n 2, (1, (0, (0, 0))))), (78, (.ireturn, (1, (0, (0, 0)))))]]
set_option maxRecDepth 100000 in
noncomputable def mc_X8_goesAhead : List (List mI) := [[(0, (.aload_n 0, (1, (0, (0, 0))))), (1, (.getfield 36, (3, (8, (0, 2))))), (4, (.getfield 58, (3, (7, (7, 2))))), (7, (.aload_n 0, (1, (0, (0, 0))))), (8, (.iload_n 2, (1, (0, (0, 0))))), (9, (.invokevirtual 64, (3, (50, (2, 0))))), (12, (.iaload, (1, (0, (0, 0))))), (13, (.istore 4, (2, (0, (0, 0))))), (15, (.aload_n 0, (1, (0, (0, 0))))), (16, (.getfield 36, (3, (8, (0, 2))))), (19, (.getfield 58, (3, (7, (7, 2))))), (22, (.aload_n 0, (1, (0, (0, 0))))), (23, (.iload_n 3, (1, (0, (0, 0))))), (24, (.invokevirtual 64, (3, (50, (2, 0))))), (27, (.iaload, (1, (0, (0, 0))))), (28, (.istore 5, (2, (0, (0, 0))))), (30, (.iload_n 1, (1, (0, (0, 0))))), (31, (.tableswitch 212 0 6 #[41, 54, 67, 94, 121, 140, 179], (41, (0, (0, 0)))))],
  [(72, (.iload 4, (2, (0, (0, 0))))), (74, (.iload 5, (2, (0, (0, 0))))), (76, (.if_icmp .ge 7, (3, (0, (0, 0))))), (79, (.iconst 1, (1, (0, (0, 0))))), (80, (.goto 4, (3, (0, (0, 0))))), (83, (.iconst 0, (1, (0, (0, 0))))), (84, (.ireturn, (1, (0, (0, 0))))), (85, (.iload 4, (2, (0, (0, 0))))), (87, (.iload 5, (2, (0, (0, 0))))), (89, (.if_icmp .le 7, (3, (0, (0, 0))))), (92, (.iconst 1, (1, (0, (0, 0))))), (93, (.goto 4, (3, (0, (0, 0))))), (96, (.iconst 0, (1, (0, (0, 0))))), (97, (.ireturn, (1, (0, (0, 0))))), (98, (.aload_n 0, (1, (0, (0, 0))))), (99, (.getfield 36, (3, (8, (0, 2))))), (102, (.getfield 142, (3, (7, (2, 2))))), (105, (.iload_n 2, (1, (0, (0, 0))))), (106, (.iaload, (1, (0, (0, 0))))), (107, (.aload_n 0, (1, (0, (0, 0))))), (108, (.getfield 36, (3, (8, (0, 2))))), (111, (.getfield 142, (3, (7, (2, 2))))), (114, (.iload_n 3, (1, (0, (0, 0))))), (115, (.iaload, (1, (0, (0, 0))))), (116, (.if_icmp .ge 7, (3, (0, (0, 0))))), (119, (.iconst 1, (1, (0, (0, 0))))), (120, (.goto 4, (3, (0, (0, 0))))), (123, (.iconst 0, (1, (0, (0, 0))))), (124, (.ireturn, (1, (0, (0, 0))))), (125, (.aload_n 0, (1, (0, (0, 0))))), (126, (.getfield 36, (3, (8, (0, 2)))))],
  [(129, (.getfield 145, (3, (7, (3, 2))))), (132, (.iload_n 2, (1, (0, (0, 0))))), (133, (.iaload, (1, (0, (0, 0))))), (134, (.aload_n 0, (1, (0, (0, 0))))), (135, (.getfield 36, (3, (8, (0, 2))))), (138, (.getfield 145, (3, (7, (3, 2))))), (141, (.iload_n 3, (1, (0, (0, 0))))), (142, (.iaload, (1, (0, (0, 0))))), (143, (.if_icmp .le 7, (3, (0, (0, 0))))), (146, (.iconst 1, (1, (0, (0, 0))))), (147, (.goto 4, (3, (0, (0, 0))))), (150, (.iconst 0, (1, (0, (0, 0))))), (151, (.ireturn, (1, (0, (0, 0))))), (152, (.aload_n 0, (1, (0, (0, 0))))), (153, (.iload_n 2, (1, (0, (0, 0))))), (154, (.invokevirtual 148, (3, (66, (2, 0))))), (157, (.aload_n 0, (1, (0, (0, 0))))), (158, (.iload_n 3, (1, (0, (0, 0))))), (159, (.invokevirtual 148, (3, (66, (2, 0))))), (162, (.if_icmp .le 7, (3, (0, (0, 0))))), (165, (.iconst 1, (1, (0, (0, 0))))), (166, (.goto 4, (3, (0, (0, 0))))), (169, (.iconst 0, (1, (0, (0, 0))))), (170, (.ireturn, (1, (0, (0, 0))))), (171, (.aload_n 0, (1, (0, (0, 0))))), (172, (.getfield 36, (3, (8, (0, 2))))), (175, (.getfield 142, (3, (7, (2, 2))))), (178, (.iload_n 2, (1, (0, (0, 0))))), (179, (.iaload, (1, (0, (0, 0))))), (180, (.aload_n 0, (1, (0, (0, 0))))), (181, (.iload_n 2, (1, (0, (0, 0))))), (182, (.invokevirtual 148, (3, (66, (2, 0))))), (185, (.isub, (1, (0, (0, 0))))), (186, (.aload_n 0, (1, (0, (0, 0))))), (187, (.getfield 36, (3, (8, (0, 2))))), (190, (.getfield 142, (3, (7, (2, 2)))))],
  [(193, (.iload_n 3, (1, (0, (0, 0))))), (194, (.iaload, (1, (0, (0, 0))))), (195, (.aload_n 0, (1, (0, (0, 0))))), (196, (.iload_n 3, (1, (0, (0, 0))))), (197, (.invokevirtual 148, (3, (66, (2, 0))))), (200, (.isub, (1, (0, (0, 0))))), (201, (.if_icmp .ge 7, (3, (0, (0, 0))))), (204, (.iconst 1, (1, (0, (0, 0))))), (205, (.goto 4, (3, (0, (0, 0))))), (208, (.iconst 0, (1, (0, (0, 0))))), (209, (.ireturn, (1, (0, (0, 0))))), (210, (.aload_n 0, (1, (0, (0, 0))))), (211, (.getfield 36, (3, (8, (0, 2))))), (214, (.getfield 145, (3, (7, (3, 2))))), (217, (.iload_n 2, (1, (0, (0, 0))))), (218, (.iaload, (1, (0, (0, 0))))), (219, (.iload 5, (2, (0, (0, 0))))), (221, (.imul, (1, (0, (0, 0))))), (222, (.aload_n 0, (1, (0, (0, 0))))), (223, (.getfield 36, (3, (8, (0, 2))))), (226, (.getfield 145, (3, (7, (3, 2))))), (229, (.iload_n 3, (1, (0, (0, 0))))), (230, (.iaload, (1, (0, (0, 0))))), (231, (.iload 4, (2, (0, (0, 0))))), (233, (.imul, (1, (0, (0, 0))))), (234, (.if_icmp .le 7, (3, (0, (0, 0))))), (237, (.iconst 1, (1, (0, (0, 0))))), (238, (.goto 4, (3, (0, (0, 0))))), (241, (.iconst 0, (1, (0, (0, 0))))), (242, (.ireturn, (1, (0, (0, 0))))), (243, (.aload_n 0, (1, (0, (0, 0))))), (244, (.getfield 36, (3, (8, (0, 2))))), (247, (.getfield 61, (3, (7, (1, 2))))), (250, (.iload_n 2, (1, (0, (0, 0))))), (251, (.iaload, (1, (0, (0, 0))))), (252, (.aload_n 0, (1, (0, (0, 0))))), (253, (.getfield 36, (3, (8, (0, 2)))))],
  [(256, (.getfield 61, (3, (7, (1, 2))))), (259, (.iload_n 3, (1, (0, (0, 0))))), (260, (.iaload, (1, (0, (0, 0))))), (261, (.if_icmp .ge 7, (3, (0, (0, 0))))), (264, (.iconst 1, (1, (0, (0, 0))))), (265, (.goto 4, (3, (0, (0, 0))))), (268, (.iconst 0, (1, (0, (0, 0))))), (269, (.ireturn, (1, (0, (0, 0)))))]]
set_option maxRecDepth 100000 in
noncomputable def mc_X8_nextOf : List (List mI) := [[(0, (.iconst 0, (1, (0, (0, 0))))), (1, (.istore_n 2, (1, (0, (0, 0))))), (2, (.iload_n 2, (1, (0, (0, 0))))), (3, (.aload_n 0, (1, (0, (0, 0))))), (4, (.getfield 36, (3, (8, (0, 2))))), (7, (.getfield 50, (3, (7, (0, 0))))), (10, (.if_icmp .ge 55, (3, (0, (0, 0))))), (13, (.aload_n 0, (1, (0, (0, 0))))), (14, (.iload_n 2, (1, (0, (0, 0))))), (15, (.invokevirtual 109, (3, (48, (2, 0))))), (18, (.ifCond .eq 41, (3, (0, (0, 0))))), (21, (.aload_n 0, (1, (0, (0, 0))))), (22, (.iload_n 2, (1, (0, (0, 0))))), (23, (.invokevirtual 64, (3, (50, (2, 0))))), (26, (.istore_n 3, (1, (0, (0, 0))))), (27, (.aload_n 0, (1, (0, (0, 0))))), (28, (.getfield 36, (3, (8, (0, 2))))), (31, (.getfield 74, (3, (7, (6, 2))))), (34, (.iload_n 3, (1, (0, (0, 0))))), (35, (.iaload, (1, (0, (0, 0))))), (36, (.istore 4, (2, (0, (0, 0))))), (38, (.aload_n 1, (1, (0, (0, 0))))), (39, (.iload 4, (2, (0, (0, 0))))), (41, (.bipush 30, (2, (0, (0, 0))))), (43, (.imul, (1, (0, (0, 0))))), (44, (.aload_n 0, (1, (0, (0, 0))))), (45, (.getfield 18, (3, (8, (4, 2))))), (48, (.iload 4, (2, (0, (0, 0))))), (50, (.iaload, (1, (0, (0, 0))))), (51, (.iadd, (1, (0, (0, 0))))), (52, (.iaload, (1, (0, (0, 0))))), (53, (.iload_n 3, (1, (0, (0, 0))))), (54, (.if_icmp .ne 5, (3, (0, (0, 0))))), (57, (.iload_n 2, (1, (0, (0, 0))))), (58, (.ireturn, (1, (0, (0, 0))))), (59, (.iinc 2 1, (3, (0, (0, 0))))), (62, (.goto (-60), (3, (0, (0, 0)))))],
  [(65, (.iconst (-1), (1, (0, (0, 0))))), (66, (.ireturn, (1, (0, (0, 0)))))]]
set_option maxRecDepth 100000 in
noncomputable def mc_X8_hoursLeft : List (List mI) := [[(0, (.aload_n 0, (1, (0, (0, 0))))), (1, (.getfield 36, (3, (8, (0, 2))))), (4, (.iload_n 1, (1, (0, (0, 0))))), (5, (.aload_n 0, (1, (0, (0, 0))))), (6, (.getfield 15, (3, (8, (3, 2))))), (9, (.iload_n 1, (1, (0, (0, 0))))), (10, (.iaload, (1, (0, (0, 0))))), (11, (.invokevirtual 151, (3, (41, (3, 0))))), (14, (.ireturn, (1, (0, (0, 0)))))]]
set_option maxRecDepth 100000 in
noncomputable def mc_X8_leastEndOf : List (List mI) := [[(0, (.aload_n 0, (1, (0, (0, 0))))), (1, (.iload_n 1, (1, (0, (0, 0))))), (2, (.invokevirtual 93, (3, (51, (2, 0))))), (5, (.aload_n 0, (1, (0, (0, 0))))), (6, (.iload_n 1, (1, (0, (0, 0))))), (7, (.invokevirtual 148, (3, (66, (2, 0))))), (10, (.iadd, (1, (0, (0, 0))))), (11, (.ireturn, (1, (0, (0, 0)))))]]
set_option maxRecDepth 100000 in
noncomputable def mc_X8_aimed : List (List mI) := [[(0, (.iconst 0, (1, (0, (0, 0))))), (1, (.istore_n 2, (1, (0, (0, 0))))), (2, (.iconst 0, (1, (0, (0, 0))))), (3, (.istore_n 3, (1, (0, (0, 0))))), (4, (.iload_n 3, (1, (0, (0, 0))))), (5, (.aload_n 0, (1, (0, (0, 0))))), (6, (.getfield 36, (3, (8, (0, 2))))), (9, (.getfield 50, (3, (7, (0, 0))))), (12, (.if_icmp .ge 134, (3, (0, (0, 0))))), (15, (.aload_n 0, (1, (0, (0, 0))))), (16, (.iload_n 3, (1, (0, (0, 0))))), (17, (.invokevirtual 154, (3, (67, (2, 0))))), (20, (.istore 4, (2, (0, (0, 0))))), (22, (.iload 4, (2, (0, (0, 0))))), (24, (.aload_n 0, (1, (0, (0, 0))))), (25, (.getfield 36, (3, (8, (0, 2))))), (28, (.getfield 142, (3, (7, (2, 2))))), (31, (.iload_n 3, (1, (0, (0, 0))))), (32, (.iaload, (1, (0, (0, 0))))), (33, (.isub, (1, (0, (0, 0))))), (34, (.istore 5, (2, (0, (0, 0))))), (36, (.iload_n 1, (1, (0, (0, 0))))), (37, (.tableswitch 84 0 3 #[31, 41, 49, 68], (31, (0, (0, 0)))))],
  [(68, (.iload_n 2, (1, (0, (0, 0))))), (69, (.iload 4, (2, (0, (0, 0))))), (71, (.invokestatic 96, (3, (0, (2, 5))))), (74, (.istore_n 2, (1, (0, (0, 0))))), (75, (.goto 65, (3, (0, (0, 0))))), (78, (.iload_n 2, (1, (0, (0, 0))))), (79, (.iload 4, (2, (0, (0, 0))))), (81, (.iadd, (1, (0, (0, 0))))), (82, (.istore_n 2, (1, (0, (0, 0))))), (83, (.goto 57, (3, (0, (0, 0))))), (86, (.iload_n 3, (1, (0, (0, 0))))), (87, (.ifCond .ne 8, (3, (0, (0, 0))))), (90, (.iload 5, (2, (0, (0, 0))))), (92, (.goto 9, (3, (0, (0, 0))))), (95, (.iload_n 2, (1, (0, (0, 0))))), (96, (.iload 5, (2, (0, (0, 0))))), (98, (.invokestatic 96, (3, (0, (2, 5))))), (101, (.istore_n 2, (1, (0, (0, 0))))), (102, (.goto 38, (3, (0, (0, 0))))), (105, (.iload_n 2, (1, (0, (0, 0))))), (106, (.iload 5, (2, (0, (0, 0))))), (108, (.ifCond .le 7, (3, (0, (0, 0))))), (111, (.iconst 1, (1, (0, (0, 0))))), (112, (.goto 4, (3, (0, (0, 0))))), (115, (.iconst 0, (1, (0, (0, 0))))), (116, (.iadd, (1, (0, (0, 0))))), (117, (.istore_n 2, (1, (0, (0, 0))))), (118, (.goto 22, (3, (0, (0, 0))))), (121, (.iload_n 2, (1, (0, (0, 0))))), (122, (.aload_n 0, (1, (0, (0, 0))))), (123, (.getfield 36, (3, (8, (0, 2))))), (126, (.getfield 145, (3, (7, (3, 2)))))],
  [(129, (.iload_n 3, (1, (0, (0, 0))))), (130, (.iaload, (1, (0, (0, 0))))), (131, (.iload 5, (2, (0, (0, 0))))), (133, (.iconst 0, (1, (0, (0, 0))))), (134, (.invokestatic 96, (3, (0, (2, 5))))), (137, (.imul, (1, (0, (0, 0))))), (138, (.iadd, (1, (0, (0, 0))))), (139, (.istore_n 2, (1, (0, (0, 0))))), (140, (.iinc 3 1, (3, (0, (0, 0))))), (143, (.goto (-139), (3, (0, (0, 0))))), (146, (.iload_n 2, (1, (0, (0, 0))))), (147, (.ireturn, (1, (0, (0, 0)))))]]
set_option maxRecDepth 100000 in
noncomputable def mc_X8_hoursDone : List (List mI) := [[(0, (.iconst 0, (1, (0, (0, 0))))), (1, (.istore_n 3, (1, (0, (0, 0))))), (2, (.iconst 0, (1, (0, (0, 0))))), (3, (.istore 4, (2, (0, (0, 0))))), (5, (.iload 4, (2, (0, (0, 0))))), (7, (.aload_n 0, (1, (0, (0, 0))))), (8, (.getfield 15, (3, (8, (3, 2))))), (11, (.iload_n 1, (1, (0, (0, 0))))), (12, (.iaload, (1, (0, (0, 0))))), (13, (.if_icmp .ge 46, (3, (0, (0, 0))))), (16, (.iload_n 1, (1, (0, (0, 0))))), (17, (.iconst 5, (1, (0, (0, 0))))), (18, (.imul, (1, (0, (0, 0))))), (19, (.iload 4, (2, (0, (0, 0))))), (21, (.iadd, (1, (0, (0, 0))))), (22, (.istore 5, (2, (0, (0, 0))))), (24, (.iload_n 3, (1, (0, (0, 0))))), (25, (.iload_n 2, (1, (0, (0, 0))))), (26, (.aload_n 0, (1, (0, (0, 0))))), (27, (.getfield 24, (3, (8, (6, 2))))), (30, (.iload 5, (2, (0, (0, 0))))), (32, (.iaload, (1, (0, (0, 0))))), (33, (.isub, (1, (0, (0, 0))))), (34, (.iconst 0, (1, (0, (0, 0))))), (35, (.invokestatic 96, (3, (0, (2, 5))))), (38, (.aload_n 0, (1, (0, (0, 0))))), (39, (.getfield 36, (3, (8, (0, 2))))), (42, (.getfield 58, (3, (7, (7, 2))))), (45, (.iload 5, (2, (0, (0, 0))))), (47, (.iaload, (1, (0, (0, 0))))), (48, (.invokestatic 157, (3, (0, (2, 6))))), (51, (.iadd, (1, (0, (0, 0))))), (52, (.istore_n 3, (1, (0, (0, 0))))), (53, (.iinc 4 1, (3, (0, (0, 0))))), (56, (.goto (-51), (3, (0, (0, 0))))), (59, (.iload_n 3, (1, (0, (0, 0))))), (60, (.ireturn, (1, (0, (0, 0)))))]]
set_option maxRecDepth 100000 in
noncomputable def mc_X9_init : List (List mI) := [[(0, (.aload_n 0, (1, (0, (0, 0))))), (1, (.invokespecial 3, (3, (0, (1, 4))))), (4, (.aload_n 0, (1, (0, (0, 0))))), (5, (.bipush 30, (2, (0, (0, 0))))), (7, (.newarray .int, (2, (0, (0, 0))))), (9, (.putfield 9, (3, (9, (2, 2))))), (12, (.aload_n 0, (1, (0, (0, 0))))), (13, (.aload_n 1, (1, (0, (0, 0))))), (14, (.putfield 15, (3, (9, (0, 2))))), (17, (.aload_n 0, (1, (0, (0, 0))))), (18, (.aload_n 2, (1, (0, (0, 0))))), (19, (.putfield 19, (3, (9, (1, 2))))), (22, (.return_, (1, (0, (0, 0)))))]]
set_option maxRecDepth 100000 in
noncomputable def mc_X9_trace : List (List mI) := [[(0, (.aload_n 0, (1, (0, (0, 0))))), (1, (.iconst 0, (1, (0, (0, 0))))), (2, (.putfield 23, (3, (9, (3, 0))))), (5, (.aload_n 0, (1, (0, (0, 0))))), (6, (.iconst 0, (1, (0, (0, 0))))), (7, (.putfield 27, (3, (9, (4, 0))))), (10, (.aload_n 0, (1, (0, (0, 0))))), (11, (.iconst 0, (1, (0, (0, 0))))), (12, (.putfield 30, (3, (9, (5, 0))))), (15, (.iconst 0, (1, (0, (0, 0))))), (16, (.istore_n 1, (1, (0, (0, 0))))), (17, (.iconst (-1), (1, (0, (0, 0))))), (18, (.istore_n 2, (1, (0, (0, 0))))), (19, (.aload_n 0, (1, (0, (0, 0))))), (20, (.invokevirtual 33, (3, (72, (1, 0))))), (23, (.istore_n 3, (1, (0, (0, 0))))), (24, (.iload_n 3, (1, (0, (0, 0))))), (25, (.iconst (-1), (1, (0, (0, 0))))), (26, (.if_icmp .eq 115, (3, (0, (0, 0))))), (29, (.aload_n 0, (1, (0, (0, 0))))), (30, (.getfield 23, (3, (9, (3, 0))))), (33, (.bipush 30, (2, (0, (0, 0))))), (35, (.if_icmp .ge 106, (3, (0, (0, 0))))), (38, (.aload_n 0, (1, (0, (0, 0))))), (39, (.getfield 9, (3, (9, (2, 2))))), (42, (.aload_n 0, (1, (0, (0, 0))))), (43, (.getfield 23, (3, (9, (3, 0))))), (46, (.iload_n 3, (1, (0, (0, 0))))), (47, (.iastore, (1, (0, (0, 0))))), (48, (.aload_n 0, (1, (0, (0, 0))))), (49, (.dup, (1, (0, (0, 0))))), (50, (.getfield 23, (3, (9, (3, 0))))), (53, (.iconst 1, (1, (0, (0, 0))))), (54, (.iadd, (1, (0, (0, 0))))), (55, (.putfield 23, (3, (9, (3, 0))))), (58, (.aload_n 0, (1, (0, (0, 0))))), (59, (.getfield 15, (3, (9, (0, 2))))), (62, (.getfield 37, (3, (7, (6, 2)))))],
  [(65, (.iload_n 3, (1, (0, (0, 0))))), (66, (.iaload, (1, (0, (0, 0))))), (67, (.iload_n 2, (1, (0, (0, 0))))), (68, (.if_icmp .ne 7, (3, (0, (0, 0))))), (71, (.iconst 1, (1, (0, (0, 0))))), (72, (.goto 4, (3, (0, (0, 0))))), (75, (.iconst 0, (1, (0, (0, 0))))), (76, (.istore 4, (2, (0, (0, 0))))), (78, (.aload_n 0, (1, (0, (0, 0))))), (79, (.dup, (1, (0, (0, 0))))), (80, (.getfield 27, (3, (9, (4, 0))))), (83, (.iload 4, (2, (0, (0, 0))))), (85, (.ifCond .eq 7, (3, (0, (0, 0))))), (88, (.iconst 0, (1, (0, (0, 0))))), (89, (.goto 4, (3, (0, (0, 0))))), (92, (.iconst 1, (1, (0, (0, 0))))), (93, (.iadd, (1, (0, (0, 0))))), (94, (.putfield 27, (3, (9, (4, 0))))), (97, (.iload 4, (2, (0, (0, 0))))), (99, (.ifCond .eq 9, (3, (0, (0, 0))))), (102, (.iload_n 1, (1, (0, (0, 0))))), (103, (.iconst 1, (1, (0, (0, 0))))), (104, (.iadd, (1, (0, (0, 0))))), (105, (.goto 4, (3, (0, (0, 0))))), (108, (.iconst 1, (1, (0, (0, 0))))), (109, (.istore_n 1, (1, (0, (0, 0))))), (110, (.aload_n 0, (1, (0, (0, 0))))), (111, (.aload_n 0, (1, (0, (0, 0))))), (112, (.getfield 30, (3, (9, (5, 0))))), (115, (.iload_n 1, (1, (0, (0, 0))))), (116, (.invokestatic 42, (3, (0, (2, 5))))), (119, (.putfield 30, (3, (9, (5, 0))))), (122, (.aload_n 0, (1, (0, (0, 0))))), (123, (.getfield 15, (3, (9, (0, 2))))), (126, (.getfield 37, (3, (7, (6, 2)))))],
  [(129, (.iload_n 3, (1, (0, (0, 0))))), (130, (.iaload, (1, (0, (0, 0))))), (131, (.istore_n 2, (1, (0, (0, 0))))), (132, (.aload_n 0, (1, (0, (0, 0))))), (133, (.iload_n 3, (1, (0, (0, 0))))), (134, (.invokevirtual 48, (3, (73, (2, 0))))), (137, (.istore_n 3, (1, (0, (0, 0))))), (138, (.goto (-114), (3, (0, (0, 0))))), (141, (.return_, (1, (0, (0, 0)))))]]
set_option maxRecDepth 100000 in
noncomputable def mc_X9_latestStep : List (List mI) := [[(0, (.iconst (-1), (1, (0, (0, 0))))), (1, (.istore_n 1, (1, (0, (0, 0))))), (2, (.iconst 0, (1, (0, (0, 0))))), (3, (.istore_n 2, (1, (0, (0, 0))))), (4, (.iload_n 2, (1, (0, (0, 0))))), (5, (.aload_n 0, (1, (0, (0, 0))))), (6, (.getfield 15, (3, (9, (0, 2))))), (9, (.getfield 52, (3, (7, (0, 0))))), (12, (.if_icmp .ge 63, (3, (0, (0, 0))))), (15, (.aload_n 0, (1, (0, (0, 0))))), (16, (.getfield 19, (3, (9, (1, 2))))), (19, (.getfield 55, (3, (8, (3, 2))))), (22, (.iload_n 2, (1, (0, (0, 0))))), (23, (.iaload, (1, (0, (0, 0))))), (24, (.ifCond .le 45, (3, (0, (0, 0))))), (27, (.iload_n 2, (1, (0, (0, 0))))), (28, (.iconst 5, (1, (0, (0, 0))))), (29, (.imul, (1, (0, (0, 0))))), (30, (.aload_n 0, (1, (0, (0, 0))))), (31, (.getfield 19, (3, (9, (1, 2))))), (34, (.getfield 55, (3, (8, (3, 2))))), (37, (.iload_n 2, (1, (0, (0, 0))))), (38, (.iaload, (1, (0, (0, 0))))), (39, (.iadd, (1, (0, (0, 0))))), (40, (.iconst 1, (1, (0, (0, 0))))), (41, (.isub, (1, (0, (0, 0))))), (42, (.istore_n 3, (1, (0, (0, 0))))), (43, (.iload_n 1, (1, (0, (0, 0))))), (44, (.iconst (-1), (1, (0, (0, 0))))), (45, (.if_icmp .eq 22, (3, (0, (0, 0))))), (48, (.aload_n 0, (1, (0, (0, 0))))), (49, (.getfield 19, (3, (9, (1, 2))))), (52, (.iload_n 3, (1, (0, (0, 0))))), (53, (.invokevirtual 60, (3, (49, (2, 0))))), (56, (.aload_n 0, (1, (0, (0, 0))))), (57, (.getfield 19, (3, (9, (1, 2))))), (60, (.iload_n 1, (1, (0, (0, 0))))), (61, (.invokevirtual 60, (3, (49, (2, 0)))))],
  [(64, (.if_icmp .le 5, (3, (0, (0, 0))))), (67, (.iload_n 3, (1, (0, (0, 0))))), (68, (.istore_n 1, (1, (0, (0, 0))))), (69, (.iinc 2 1, (3, (0, (0, 0))))), (72, (.goto (-68), (3, (0, (0, 0))))), (75, (.iload_n 1, (1, (0, (0, 0))))), (76, (.ireturn, (1, (0, (0, 0)))))]]
set_option maxRecDepth 100000 in
noncomputable def mc_X9_stepAheadOf : List (List mI) := [[(0, (.iload_n 1, (1, (0, (0, 0))))), (1, (.iconst 5, (1, (0, (0, 0))))), (2, (.irem, (1, (0, (0, 0))))), (3, (.ifCond .le 29, (3, (0, (0, 0))))), (6, (.aload_n 0, (1, (0, (0, 0))))), (7, (.getfield 19, (3, (9, (1, 2))))), (10, (.iload_n 1, (1, (0, (0, 0))))), (11, (.iconst 1, (1, (0, (0, 0))))), (12, (.isub, (1, (0, (0, 0))))), (13, (.invokevirtual 60, (3, (49, (2, 0))))), (16, (.aload_n 0, (1, (0, (0, 0))))), (17, (.getfield 19, (3, (9, (1, 2))))), (20, (.getfield 63, (3, (8, (6, 2))))), (23, (.iload_n 1, (1, (0, (0, 0))))), (24, (.iaload, (1, (0, (0, 0))))), (25, (.if_icmp .ne 7, (3, (0, (0, 0))))), (28, (.iload_n 1, (1, (0, (0, 0))))), (29, (.iconst 1, (1, (0, (0, 0))))), (30, (.isub, (1, (0, (0, 0))))), (31, (.ireturn, (1, (0, (0, 0))))), (32, (.aload_n 0, (1, (0, (0, 0))))), (33, (.getfield 19, (3, (9, (1, 2))))), (36, (.getfield 66, (3, (8, (7, 2))))), (39, (.iload_n 1, (1, (0, (0, 0))))), (40, (.iaload, (1, (0, (0, 0))))), (41, (.istore_n 2, (1, (0, (0, 0))))), (42, (.iload_n 2, (1, (0, (0, 0))))), (43, (.iconst (-1), (1, (0, (0, 0))))), (44, (.if_icmp .eq 35, (3, (0, (0, 0))))), (47, (.aload_n 0, (1, (0, (0, 0))))), (48, (.getfield 19, (3, (9, (1, 2))))), (51, (.iload_n 2, (1, (0, (0, 0))))), (52, (.invokevirtual 60, (3, (49, (2, 0))))), (55, (.aload_n 0, (1, (0, (0, 0))))), (56, (.getfield 19, (3, (9, (1, 2))))), (59, (.getfield 69, (3, (8, (8, 2))))), (62, (.iload_n 1, (1, (0, (0, 0))))), (63, (.iaload, (1, (0, (0, 0)))))],
  [(64, (.iadd, (1, (0, (0, 0))))), (65, (.aload_n 0, (1, (0, (0, 0))))), (66, (.getfield 19, (3, (9, (1, 2))))), (69, (.getfield 63, (3, (8, (6, 2))))), (72, (.iload_n 1, (1, (0, (0, 0))))), (73, (.iaload, (1, (0, (0, 0))))), (74, (.if_icmp .ne 5, (3, (0, (0, 0))))), (77, (.iload_n 2, (1, (0, (0, 0))))), (78, (.ireturn, (1, (0, (0, 0))))), (79, (.iconst (-1), (1, (0, (0, 0))))), (80, (.ireturn, (1, (0, (0, 0)))))]]
set_option maxRecDepth 100000 in
noncomputable def mc_X10_init : List (List mI) := [[(0, (.aload_n 0, (1, (0, (0, 0))))), (1, (.invokespecial 3, (3, (0, (1, 4))))), (4, (.aload_n 0, (1, (0, (0, 0))))), (5, (.new 9, (3, (7, (0, 0))))), (8, (.dup, (1, (0, (0, 0))))), (9, (.invokespecial 11, (3, (31, (1, 3))))), (12, (.putfield 12, (3, (10, (0, 2))))), (15, (.aload_n 0, (1, (0, (0, 0))))), (16, (.new 16, (3, (8, (0, 0))))), (19, (.dup, (1, (0, (0, 0))))), (20, (.aload_n 0, (1, (0, (0, 0))))), (21, (.getfield 12, (3, (10, (0, 2))))), (24, (.invokespecial 18, (3, (46, (2, 2))))), (27, (.putfield 21, (3, (10, (1, 2))))), (30, (.aload_n 0, (1, (0, (0, 0))))), (31, (.new 16, (3, (8, (0, 0))))), (34, (.dup, (1, (0, (0, 0))))), (35, (.aload_n 0, (1, (0, (0, 0))))), (36, (.getfield 12, (3, (10, (0, 2))))), (39, (.invokespecial 18, (3, (46, (2, 2))))), (42, (.putfield 25, (3, (10, (2, 2))))), (45, (.aload_n 0, (1, (0, (0, 0))))), (46, (.bipush 8, (2, (0, (0, 0))))), (48, (.anewarray 9, (3, (7, (0, 0))))), (51, (.putfield 28, (3, (10, (3, 2))))), (54, (.aload_n 0, (1, (0, (0, 0))))), (55, (.bipush 19, (2, (0, (0, 0))))), (57, (.newarray .int, (2, (0, (0, 0))))), (59, (.putfield 32, (3, (10, (4, 2))))), (62, (.aload_n 0, (1, (0, (0, 0))))), (63, (.bipush 120, (2, (0, (0, 0)))))],
  [(65, (.newarray .int, (2, (0, (0, 0))))), (67, (.putfield 36, (3, (10, (5, 2))))), (70, (.aload_n 0, (1, (0, (0, 0))))), (71, (.new 39, (3, (0, (0, 0))))), (74, (.dup, (1, (0, (0, 0))))), (75, (.aload_n 0, (1, (0, (0, 0))))), (76, (.getfield 12, (3, (10, (0, 2))))), (79, (.aload_n 0, (1, (0, (0, 0))))), (80, (.getfield 25, (3, (10, (2, 2))))), (83, (.invokespecial 41, (3, (0, (3, 2))))), (86, (.putfield 44, (3, (10, (6, 2))))), (89, (.aload_n 0, (1, (0, (0, 0))))), (90, (.new 48, (3, (9, (0, 0))))), (93, (.dup, (1, (0, (0, 0))))), (94, (.aload_n 0, (1, (0, (0, 0))))), (95, (.getfield 12, (3, (10, (0, 2))))), (98, (.aload_n 0, (1, (0, (0, 0))))), (99, (.getfield 21, (3, (10, (1, 2))))), (102, (.invokespecial 50, (3, (70, (3, 2))))), (105, (.putfield 51, (3, (10, (7, 2))))), (108, (.aload_n 0, (1, (0, (0, 0))))), (109, (.new 55, (3, (2, (0, 0))))), (112, (.dup, (1, (0, (0, 0))))), (113, (.aload_n 0, (1, (0, (0, 0))))), (114, (.getfield 12, (3, (10, (0, 2))))), (117, (.aload_n 0, (1, (0, (0, 0))))), (118, (.getfield 21, (3, (10, (1, 2))))), (121, (.invokespecial 57, (3, (7, (3, 2))))), (124, (.putfield 58, (3, (10, (8, 2))))), (127, (.aload_n 0, (1, (0, (0, 0)))))],
  [(128, (.new 62, (3, (5, (0, 0))))), (131, (.dup, (1, (0, (0, 0))))), (132, (.aload_n 0, (1, (0, (0, 0))))), (133, (.getfield 12, (3, (10, (0, 2))))), (136, (.invokespecial 64, (3, (16, (2, 2))))), (139, (.putfield 65, (3, (10, (9, 2))))), (142, (.aload_n 0, (1, (0, (0, 0))))), (143, (.new 69, (3, (6, (0, 0))))), (146, (.dup, (1, (0, (0, 0))))), (147, (.aload_n 0, (1, (0, (0, 0))))), (148, (.getfield 12, (3, (10, (0, 2))))), (151, (.invokespecial 71, (3, (27, (2, 2))))), (154, (.putfield 72, (3, (10, (10, 2))))), (157, (.aload_n 0, (1, (0, (0, 0))))), (158, (.new 76, (3, (1, (0, 0))))), (161, (.dup, (1, (0, (0, 0))))), (162, (.aload_n 0, (1, (0, (0, 0))))), (163, (.getfield 12, (3, (10, (0, 2))))), (166, (.invokespecial 78, (3, (3, (2, 2))))), (169, (.putfield 79, (3, (10, (11, 2))))), (172, (.aload_n 0, (1, (0, (0, 0))))), (173, (.new 83, (3, (4, (0, 0))))), (176, (.dup, (1, (0, (0, 0))))), (177, (.aload_n 0, (1, (0, (0, 0))))), (178, (.getfield 12, (3, (10, (0, 2))))), (181, (.invokespecial 85, (3, (13, (2, 2))))), (184, (.putfield 86, (3, (10, (12, 2))))), (187, (.aload_n 0, (1, (0, (0, 0))))), (188, (.getfield 12, (3, (10, (0, 2))))), (191, (.iconst 0, (1, (0, (0, 0)))))],
  [(192, (.bipush 12, (2, (0, (0, 0))))), (194, (.iconst 1, (1, (0, (0, 0))))), (195, (.iconst 0, (1, (0, (0, 0))))), (196, (.invokevirtual 90, (3, (35, (5, 0))))), (199, (.istore_n 1, (1, (0, (0, 0))))), (200, (.aload_n 0, (1, (0, (0, 0))))), (201, (.getfield 12, (3, (10, (0, 2))))), (204, (.iload_n 1, (1, (0, (0, 0))))), (205, (.iconst 0, (1, (0, (0, 0))))), (206, (.iconst 3, (1, (0, (0, 0))))), (207, (.invokevirtual 94, (3, (36, (4, 0))))), (210, (.pop, (1, (0, (0, 0))))), (211, (.aload_n 0, (1, (0, (0, 0))))), (212, (.getfield 12, (3, (10, (0, 2))))), (215, (.iload_n 1, (1, (0, (0, 0))))), (216, (.iconst 1, (1, (0, (0, 0))))), (217, (.iconst 4, (1, (0, (0, 0))))), (218, (.invokevirtual 94, (3, (36, (4, 0))))), (221, (.pop, (1, (0, (0, 0))))), (222, (.aload_n 0, (1, (0, (0, 0))))), (223, (.getfield 12, (3, (10, (0, 2))))), (226, (.iconst 0, (1, (0, (0, 0))))), (227, (.bipush 9, (2, (0, (0, 0))))), (229, (.iconst 1, (1, (0, (0, 0))))), (230, (.iconst 1, (1, (0, (0, 0))))), (231, (.invokevirtual 90, (3, (35, (5, 0))))), (234, (.istore_n 2, (1, (0, (0, 0))))), (235, (.aload_n 0, (1, (0, (0, 0))))), (236, (.getfield 12, (3, (10, (0, 2))))), (239, (.iload_n 2, (1, (0, (0, 0))))), (240, (.iconst 1, (1, (0, (0, 0))))), (241, (.iconst 2, (1, (0, (0, 0))))), (242, (.invokevirtual 94, (3, (36, (4, 0))))), (245, (.pop, (1, (0, (0, 0))))), (246, (.aload_n 0, (1, (0, (0, 0))))), (247, (.getfield 12, (3, (10, (0, 2))))), (250, (.iload_n 2, (1, (0, (0, 0))))), (251, (.iconst 0, (1, (0, (0, 0))))), (252, (.iconst 5, (1, (0, (0, 0))))), (253, (.invokevirtual 94, (3, (36, (4, 0)))))],
  [(256, (.pop, (1, (0, (0, 0))))), (257, (.aload_n 0, (1, (0, (0, 0))))), (258, (.getfield 12, (3, (10, (0, 2))))), (261, (.iconst 0, (1, (0, (0, 0))))), (262, (.bipush 10, (2, (0, (0, 0))))), (264, (.iconst 1, (1, (0, (0, 0))))), (265, (.iconst 2, (1, (0, (0, 0))))), (266, (.invokevirtual 90, (3, (35, (5, 0))))), (269, (.istore_n 3, (1, (0, (0, 0))))), (270, (.aload_n 0, (1, (0, (0, 0))))), (271, (.getfield 12, (3, (10, (0, 2))))), (274, (.iload_n 3, (1, (0, (0, 0))))), (275, (.iconst 0, (1, (0, (0, 0))))), (276, (.iconst 4, (1, (0, (0, 0))))), (277, (.invokevirtual 94, (3, (36, (4, 0))))), (280, (.pop, (1, (0, (0, 0))))), (281, (.aload_n 0, (1, (0, (0, 0))))), (282, (.getfield 12, (3, (10, (0, 2))))), (285, (.iload_n 3, (1, (0, (0, 0))))), (286, (.iconst 2, (1, (0, (0, 0))))), (287, (.iconst 1, (1, (0, (0, 0))))), (288, (.invokevirtual 94, (3, (36, (4, 0))))), (291, (.pop, (1, (0, (0, 0))))), (292, (.return_, (1, (0, (0, 0)))))]]
set_option maxRecDepth 100000 in
noncomputable def mc_X10_close : List (List mI) := [[(0, (.iload_n 1, (1, (0, (0, 0))))), (1, (.invokestatic 98, (3, (119, (1, 1))))), (4, (.iload_n 2, (1, (0, (0, 0))))), (5, (.iconst 0, (1, (0, (0, 0))))), (6, (.sipush 2000, (3, (0, (0, 0))))), (9, (.invokestatic 102, (3, (124, (3, 1))))), (12, (.iload_n 3, (1, (0, (0, 0))))), (13, (.iload_n 2, (1, (0, (0, 0))))), (14, (.iconst 1, (1, (0, (0, 0))))), (15, (.iadd, (1, (0, (0, 0))))), (16, (.sipush 2000, (3, (0, (0, 0))))), (19, (.invokestatic 102, (3, (124, (3, 1))))), (22, (.aload_n 0, (1, (0, (0, 0))))), (23, (.getfield 12, (3, (10, (0, 2))))), (26, (.getfield 106, (3, (7, (8, 2))))), (29, (.iload_n 1, (1, (0, (0, 0))))), (30, (.iaload, (1, (0, (0, 0))))), (31, (.iconst 4, (1, (0, (0, 0))))), (32, (.if_icmp .lt 13, (3, (0, (0, 0))))), (35, (.new 109, (3, (1002, (111, 226))))), (45, (.aload_n 0, (1, (0, (0, 0))))), (46, (.invokevirtual 116, (3, (131, (1, 0))))), (49, (.aload_n 0, (1, (0, (0, 0))))), (50, (.getfield 12, (3, (10, (0, 2))))), (53, (.iload_n 1, (1, (0, (0, 0))))), (54, (.iload_n 2, (1, (0, (0, 0))))), (55, (.iload_n 3, (1, (0, (0, 0))))), (56, (.invokevirtual 119, (3, (37, (4, 0))))), (59, (.aload_n 0, (1, (0, (0, 0))))), (60, (.getfield 21, (3, (10, (1, 2))))), (63, (.invokevirtual 122, (3, (58, (1, 0)))))],
  [(66, (.aload_n 0, (1, (0, (0, 0))))), (67, (.getfield 12, (3, (10, (0, 2))))), (70, (.getfield 106, (3, (7, (8, 2))))), (73, (.iload_n 1, (1, (0, (0, 0))))), (74, (.iaload, (1, (0, (0, 0))))), (75, (.ireturn, (1, (0, (0, 0)))))]]
set_option maxRecDepth 100000 in
noncomputable def mc_X10_setTool : List (List mI) := [[(0, (.iload_n 1, (1, (0, (0, 0))))), (1, (.invokestatic 98, (3, (119, (1, 1))))), (4, (.iload_n 2, (1, (0, (0, 0))))), (5, (.ifCond .eq 12, (3, (0, (0, 0))))), (8, (.iload_n 2, (1, (0, (0, 0))))), (9, (.bipush 50, (2, (0, (0, 0))))), (11, (.sipush 300, (3, (0, (0, 0))))), (14, (.invokestatic 102, (3, (124, (3, 1))))), (17, (.iload_n 3, (1, (0, (0, 0))))), (18, (.iconst 0, (1, (0, (0, 0))))), (19, (.bipush 20, (2, (0, (0, 0))))), (21, (.invokestatic 102, (3, (124, (3, 1))))), (24, (.aload_n 0, (1, (0, (0, 0))))), (25, (.invokevirtual 116, (3, (131, (1, 0))))), (28, (.aload_n 0, (1, (0, (0, 0))))), (29, (.getfield 12, (3, (10, (0, 2))))), (32, (.getfield 125, (3, (7, (11, 2))))), (35, (.iload_n 1, (1, (0, (0, 0))))), (36, (.iaload, (1, (0, (0, 0))))), (37, (.istore 4, (2, (0, (0, 0))))), (39, (.aload_n 0, (1, (0, (0, 0))))), (40, (.getfield 12, (3, (10, (0, 2))))), (43, (.getfield 125, (3, (7, (11, 2))))), (46, (.iload_n 1, (1, (0, (0, 0))))), (47, (.iload_n 2, (1, (0, (0, 0))))), (48, (.iastore, (1, (0, (0, 0))))), (49, (.aload_n 0, (1, (0, (0, 0))))), (50, (.getfield 12, (3, (10, (0, 2))))), (53, (.getfield 128, (3, (7, (12, 2))))), (56, (.iload_n 1, (1, (0, (0, 0))))), (57, (.iload_n 3, (1, (0, (0, 0))))), (58, (.iastore, (1, (0, (0, 0))))), (59, (.aload_n 0, (1, (0, (0, 0))))), (60, (.getfield 21, (3, (10, (1, 2))))), (63, (.invokevirtual 122, (3, (58, (1, 0)))))],
  [(66, (.iload 4, (2, (0, (0, 0))))), (68, (.ireturn, (1, (0, (0, 0)))))]]
set_option maxRecDepth 100000 in
noncomputable def mc_X10_setSetup : List (List mI) := [[(0, (.iload_n 1, (1, (0, (0, 0))))), (1, (.invokestatic 131, (3, (120, (1, 1))))), (4, (.iload_n 2, (1, (0, (0, 0))))), (5, (.invokestatic 131, (3, (120, (1, 1))))), (8, (.iload_n 3, (1, (0, (0, 0))))), (9, (.iconst 0, (1, (0, (0, 0))))), (10, (.bipush 20, (2, (0, (0, 0))))), (12, (.invokestatic 102, (3, (124, (3, 1))))), (15, (.aload_n 0, (1, (0, (0, 0))))), (16, (.invokevirtual 116, (3, (131, (1, 0))))), (19, (.aload_n 0, (1, (0, (0, 0))))), (20, (.getfield 12, (3, (10, (0, 2))))), (23, (.getfield 134, (3, (7, (13, 2))))), (26, (.iload_n 1, (1, (0, (0, 0))))), (27, (.iconst 4, (1, (0, (0, 0))))), (28, (.imul, (1, (0, (0, 0))))), (29, (.iload_n 2, (1, (0, (0, 0))))), (30, (.iadd, (1, (0, (0, 0))))), (31, (.iaload, (1, (0, (0, 0))))), (32, (.istore 4, (2, (0, (0, 0))))), (34, (.aload_n 0, (1, (0, (0, 0))))), (35, (.getfield 12, (3, (10, (0, 2))))), (38, (.getfield 134, (3, (7, (13, 2))))), (41, (.iload_n 1, (1, (0, (0, 0))))), (42, (.iconst 4, (1, (0, (0, 0))))), (43, (.imul, (1, (0, (0, 0))))), (44, (.iload_n 2, (1, (0, (0, 0))))), (45, (.iadd, (1, (0, (0, 0))))), (46, (.iload_n 3, (1, (0, (0, 0))))), (47, (.iastore, (1, (0, (0, 0))))), (48, (.aload_n 0, (1, (0, (0, 0))))), (49, (.invokevirtual 137, (3, (132, (1, 0))))), (52, (.iload 4, (2, (0, (0, 0))))), (54, (.ireturn, (1, (0, (0, 0)))))]]
set_option maxRecDepth 100000 in
noncomputable def mc_X10_addJob : List (List mI) := [[(0, (.iload 4, (2, (0, (0, 0))))), (2, (.invokestatic 131, (3, (120, (1, 1))))), (5, (.iload_n 1, (1, (0, (0, 0))))), (6, (.iconst 0, (1, (0, (0, 0))))), (7, (.sipush 200, (3, (0, (0, 0))))), (10, (.invokestatic 102, (3, (124, (3, 1))))), (13, (.iload_n 2, (1, (0, (0, 0))))), (14, (.iconst 0, (1, (0, (0, 0))))), (15, (.sipush 1000, (3, (0, (0, 0))))), (18, (.invokestatic 102, (3, (124, (3, 1))))), (21, (.iload_n 3, (1, (0, (0, 0))))), (22, (.iconst 1, (1, (0, (0, 0))))), (23, (.bipush 9, (2, (0, (0, 0))))), (25, (.invokestatic 102, (3, (124, (3, 1))))), (28, (.aload_n 0, (1, (0, (0, 0))))), (29, (.invokevirtual 140, (3, (128, (1, 0))))), (32, (.aload_n 0, (1, (0, (0, 0))))), (33, (.invokevirtual 116, (3, (131, (1, 0))))), (36, (.aload_n 0, (1, (0, (0, 0))))), (37, (.getfield 12, (3, (10, (0, 2))))), (40, (.iload_n 1, (1, (0, (0, 0))))), (41, (.iload_n 2, (1, (0, (0, 0))))), (42, (.iload_n 3, (1, (0, (0, 0))))), (43, (.iload 4, (2, (0, (0, 0))))), (45, (.invokevirtual 90, (3, (35, (5, 0))))), (48, (.istore 5, (2, (0, (0, 0))))), (50, (.aload_n 0, (1, (0, (0, 0))))), (51, (.invokevirtual 137, (3, (132, (1, 0))))), (54, (.iload 5, (2, (0, (0, 0))))), (56, (.ireturn, (1, (0, (0, 0)))))]]
set_option maxRecDepth 100000 in
noncomputable def mc_X10_addStep : List (List mI) := [[(0, (.aload_n 0, (1, (0, (0, 0))))), (1, (.iload_n 1, (1, (0, (0, 0))))), (2, (.invokevirtual 143, (3, (121, (2, 0))))), (5, (.iload_n 2, (1, (0, (0, 0))))), (6, (.invokestatic 98, (3, (119, (1, 1))))), (9, (.iload_n 3, (1, (0, (0, 0))))), (10, (.iconst 1, (1, (0, (0, 0))))), (11, (.bipush 50, (2, (0, (0, 0))))), (13, (.invokestatic 102, (3, (124, (3, 1))))), (16, (.aload_n 0, (1, (0, (0, 0))))), (17, (.getfield 12, (3, (10, (0, 2))))), (20, (.getfield 146, (3, (7, (5, 2))))), (23, (.iload_n 1, (1, (0, (0, 0))))), (24, (.iaload, (1, (0, (0, 0))))), (25, (.iconst 5, (1, (0, (0, 0))))), (26, (.if_icmp .lt 13, (3, (0, (0, 0))))), (29, (.new 109, (3, (1002, (149, 226))))), (39, (.aload_n 0, (1, (0, (0, 0))))), (40, (.invokevirtual 116, (3, (131, (1, 0))))), (43, (.aload_n 0, (1, (0, (0, 0))))), (44, (.getfield 12, (3, (10, (0, 2))))), (47, (.iload_n 1, (1, (0, (0, 0))))), (48, (.iload_n 2, (1, (0, (0, 0))))), (49, (.iload_n 3, (1, (0, (0, 0))))), (50, (.invokevirtual 94, (3, (36, (4, 0))))), (53, (.istore 4, (2, (0, (0, 0))))), (55, (.aload_n 0, (1, (0, (0, 0))))), (56, (.invokevirtual 137, (3, (132, (1, 0))))), (59, (.iload 4, (2, (0, (0, 0))))), (61, (.ireturn, (1, (0, (0, 0)))))]]
set_option maxRecDepth 100000 in
noncomputable def mc_X10_cut : List (List mI) := [[(0, (.aload_n 0, (1, (0, (0, 0))))), (1, (.iload_n 1, (1, (0, (0, 0))))), (2, (.invokevirtual 143, (3, (121, (2, 0))))), (5, (.aload_n 0, (1, (0, (0, 0))))), (6, (.invokevirtual 140, (3, (128, (1, 0))))), (9, (.aload_n 0, (1, (0, (0, 0))))), (10, (.getfield 12, (3, (10, (0, 2))))), (13, (.iload_n 1, (1, (0, (0, 0))))), (14, (.invokevirtual 151, (3, (38, (2, 0))))), (17, (.ifCond .ne 13, (3, (0, (0, 0))))), (20, (.new 109, (3, (1002, (155, 226))))), (30, (.aload_n 0, (1, (0, (0, 0))))), (31, (.invokevirtual 116, (3, (131, (1, 0))))), (34, (.aload_n 0, (1, (0, (0, 0))))), (35, (.getfield 12, (3, (10, (0, 2))))), (38, (.iload_n 1, (1, (0, (0, 0))))), (39, (.invokevirtual 157, (3, (39, (2, 0))))), (42, (.istore_n 2, (1, (0, (0, 0))))), (43, (.aload_n 0, (1, (0, (0, 0))))), (44, (.invokevirtual 137, (3, (132, (1, 0))))), (47, (.iload_n 2, (1, (0, (0, 0))))), (48, (.ireturn, (1, (0, (0, 0)))))]]
set_option maxRecDepth 100000 in
noncomputable def mc_X10_plan : List (List mI) := [[(0, (.iload_n 1, (1, (0, (0, 0))))), (1, (.invokestatic 161, (3, (125, (1, 1))))), (4, (.aload_n 0, (1, (0, (0, 0))))), (5, (.getfield 25, (3, (10, (2, 2))))), (8, (.invokevirtual 164, (3, (47, (1, 0))))), (11, (.aload_n 0, (1, (0, (0, 0))))), (12, (.getfield 25, (3, (10, (2, 2))))), (15, (.iload_n 1, (1, (0, (0, 0))))), (16, (.invokevirtual 167, (3, (62, (2, 0))))), (19, (.aload_n 0, (1, (0, (0, 0))))), (20, (.invokevirtual 170, (3, (133, (1, 0))))), (23, (.ireturn, (1, (0, (0, 0)))))]]
set_option maxRecDepth 100000 in
noncomputable def mc_X10_tell : List (List mI) := [[(0, (.aload_n 0, (1, (0, (0, 0))))), (1, (.lload_n 1, (1, (0, (0, 0))))), (2, (.invokevirtual 174, (3, (134, (2, 0))))), (5, (.ifCond .ne 13, (3, (0, (0, 0))))), (8, (.new 178, (3, (1001, (180, 364))))), (18, (.aload_n 0, (1, (0, (0, 0))))), (19, (.invokevirtual 170, (3, (133, (1, 0))))), (22, (.ireturn, (1, (0, (0, 0)))))]]
set_option maxRecDepth 100000 in
noncomputable def mc_X10_best : List (List mI) := [[(0, (.iload_n 1, (1, (0, (0, 0))))), (1, (.invokestatic 183, (3, (126, (1, 1))))), (4, (.aload_n 0, (1, (0, (0, 0))))), (5, (.getfield 12, (3, (10, (0, 2))))), (8, (.invokevirtual 186, (3, (40, (1, 0))))), (11, (.bipush 8, (2, (0, (0, 0))))), (13, (.if_icmp .le 13, (3, (0, (0, 0))))), (16, (.new 109, (3, (1002, (189, 226))))), (26, (.aload_n 0, (1, (0, (0, 0))))), (27, (.getfield 44, (3, (10, (6, 2))))), (30, (.iload_n 1, (1, (0, (0, 0))))), (31, (.invokevirtual 191, (3, (1, (2, 0))))), (34, (.aload_n 0, (1, (0, (0, 0))))), (35, (.invokevirtual 170, (3, (133, (1, 0))))), (38, (.pop, (1, (0, (0, 0))))), (39, (.aload_n 0, (1, (0, (0, 0))))), (40, (.getfield 21, (3, (10, (1, 2))))), (43, (.iload_n 1, (1, (0, (0, 0))))), (44, (.invokevirtual 194, (3, (68, (2, 0))))), (47, (.ireturn, (1, (0, (0, 0)))))]]
set_option maxRecDepth 100000 in
noncomputable def mc_X10_swap : List (List mI) := [[(0, (.iload_n 1, (1, (0, (0, 0))))), (1, (.invokestatic 98, (3, (119, (1, 1))))), (4, (.iload_n 2, (1, (0, (0, 0))))), (5, (.ifCond .lt 18, (3, (0, (0, 0))))), (8, (.iload_n 2, (1, (0, (0, 0))))), (9, (.aload_n 0, (1, (0, (0, 0))))), (10, (.getfield 21, (3, (10, (1, 2))))), (13, (.getfield 197, (3, (8, (4, 2))))), (16, (.iload_n 1, (1, (0, (0, 0))))), (17, (.iaload, (1, (0, (0, 0))))), (18, (.iconst 1, (1, (0, (0, 0))))), (19, (.isub, (1, (0, (0, 0))))), (20, (.if_icmp .lt 13, (3, (0, (0, 0))))), (23, (.new 200, (3, (1000, (202, 408))))), (33, (.aload_n 0, (1, (0, (0, 0))))), (34, (.iload_n 1, (1, (0, (0, 0))))), (35, (.iload_n 2, (1, (0, (0, 0))))), (36, (.invokevirtual 205, (3, (135, (3, 0))))), (39, (.ifCond .ne 13, (3, (0, (0, 0))))), (42, (.new 109, (3, (1002, (209, 226))))), (52, (.aload_n 0, (1, (0, (0, 0))))), (53, (.invokevirtual 170, (3, (133, (1, 0))))), (56, (.ireturn, (1, (0, (0, 0)))))]]
set_option maxRecDepth 100000 in
noncomputable def mc_X10_replan : List (List mI) := [[(0, (.iload_n 1, (1, (0, (0, 0))))), (1, (.invokestatic 161, (3, (125, (1, 1))))), (4, (.iload_n 2, (1, (0, (0, 0))))), (5, (.iconst 0, (1, (0, (0, 0))))), (6, (.sipush 2000, (3, (0, (0, 0))))), (9, (.invokestatic 102, (3, (124, (3, 1))))), (12, (.aload_n 0, (1, (0, (0, 0))))), (13, (.invokevirtual 211, (3, (129, (1, 0))))), (16, (.aload_n 0, (1, (0, (0, 0))))), (17, (.getfield 25, (3, (10, (2, 2))))), (20, (.invokevirtual 164, (3, (47, (1, 0))))), (23, (.aload_n 0, (1, (0, (0, 0))))), (24, (.getfield 25, (3, (10, (2, 2))))), (27, (.aload_n 0, (1, (0, (0, 0))))), (28, (.getfield 21, (3, (10, (1, 2))))), (31, (.iload_n 2, (1, (0, (0, 0))))), (32, (.invokevirtual 214, (3, (61, (3, 0))))), (35, (.aload_n 0, (1, (0, (0, 0))))), (36, (.getfield 25, (3, (10, (2, 2))))), (39, (.iload_n 1, (1, (0, (0, 0))))), (40, (.invokevirtual 167, (3, (62, (2, 0))))), (43, (.aload_n 0, (1, (0, (0, 0))))), (44, (.invokevirtual 170, (3, (133, (1, 0))))), (47, (.ireturn, (1, (0, (0, 0)))))]]
set_option maxRecDepth 100000 in
noncomputable def mc_X10_rush : List (List mI) := [[(0, (.aload_n 0, (1, (0, (0, 0))))), (1, (.iload_n 1, (1, (0, (0, 0))))), (2, (.invokevirtual 143, (3, (121, (2, 0))))), (5, (.aload_n 0, (1, (0, (0, 0))))), (6, (.invokevirtual 211, (3, (129, (1, 0))))), (9, (.aload_n 0, (1, (0, (0, 0))))), (10, (.getfield 25, (3, (10, (2, 2))))), (13, (.iload_n 1, (1, (0, (0, 0))))), (14, (.invokevirtual 218, (3, (60, (2, 0))))), (17, (.aload_n 0, (1, (0, (0, 0))))), (18, (.invokevirtual 170, (3, (133, (1, 0))))), (21, (.ireturn, (1, (0, (0, 0)))))]]
set_option maxRecDepth 100000 in
noncomputable def mc_X10_setWorker : List (List mI) := [[(0, (.iload_n 1, (1, (0, (0, 0))))), (1, (.ifCond .lt 9, (3, (0, (0, 0))))), (4, (.iload_n 1, (1, (0, (0, 0))))), (5, (.bipush 6, (2, (0, (0, 0))))), (7, (.if_icmp .lt 13, (3, (0, (0, 0))))), (10, (.new 200, (3, (1000, (221, 408))))), (20, (.iload_n 2, (1, (0, (0, 0))))), (21, (.invokestatic 223, (3, (127, (1, 1))))), (24, (.aload_n 0, (1, (0, (0, 0))))), (25, (.invokevirtual 116, (3, (131, (1, 0))))), (28, (.aload_n 0, (1, (0, (0, 0))))), (29, (.getfield 12, (3, (10, (0, 2))))), (32, (.getfield 226, (3, (7, (14, 2))))), (35, (.iload_n 1, (1, (0, (0, 0))))), (36, (.iaload, (1, (0, (0, 0))))), (37, (.istore_n 3, (1, (0, (0, 0))))), (38, (.aload_n 0, (1, (0, (0, 0))))), (39, (.getfield 12, (3, (10, (0, 2))))), (42, (.getfield 226, (3, (7, (14, 2))))), (45, (.iload_n 1, (1, (0, (0, 0))))), (46, (.iload_n 2, (1, (0, (0, 0))))), (47, (.iastore, (1, (0, (0, 0))))), (48, (.iload_n 3, (1, (0, (0, 0))))), (49, (.ireturn, (1, (0, (0, 0)))))]]
set_option maxRecDepth 100000 in
noncomputable def mc_X10_undo : List (List mI) := [[(0, (.aload_n 0, (1, (0, (0, 0))))), (1, (.getfield 229, (3, (10, (14, 0))))), (4, (.ifCond .ne 5, (3, (0, (0, 0))))), (7, (.iconst (-1), (1, (0, (0, 0))))), (8, (.ireturn, (1, (0, (0, 0))))), (9, (.aload_n 0, (1, (0, (0, 0))))), (10, (.aload_n 0, (1, (0, (0, 0))))), (11, (.getfield 233, (3, (10, (13, 0))))), (14, (.bipush 8, (2, (0, (0, 0))))), (16, (.iadd, (1, (0, (0, 0))))), (17, (.iconst 1, (1, (0, (0, 0))))), (18, (.isub, (1, (0, (0, 0))))), (19, (.bipush 8, (2, (0, (0, 0))))), (21, (.irem, (1, (0, (0, 0))))), (22, (.putfield 233, (3, (10, (13, 0))))), (25, (.aload_n 0, (1, (0, (0, 0))))), (26, (.dup, (1, (0, (0, 0))))), (27, (.getfield 229, (3, (10, (14, 0))))), (30, (.iconst 1, (1, (0, (0, 0))))), (31, (.isub, (1, (0, (0, 0))))), (32, (.putfield 229, (3, (10, (14, 0))))), (35, (.aload_n 0, (1, (0, (0, 0))))), (36, (.getfield 28, (3, (10, (3, 2))))), (39, (.aload_n 0, (1, (0, (0, 0))))), (40, (.getfield 233, (3, (10, (13, 0))))), (43, (.aaload, (1, (0, (0, 0))))), (44, (.astore_n 1, (1, (0, (0, 0))))), (45, (.aload_n 1, (1, (0, (0, 0))))), (46, (.ifnull 11, (3, (0, (0, 0))))), (49, (.aload_n 0, (1, (0, (0, 0))))), (50, (.getfield 12, (3, (10, (0, 2))))), (53, (.aload_n 1, (1, (0, (0, 0))))), (54, (.invokevirtual 236, (3, (32, (2, 0))))), (57, (.aload_n 0, (1, (0, (0, 0))))), (58, (.getfield 21, (3, (10, (1, 2))))), (61, (.invokevirtual 122, (3, (58, (1, 0)))))],
  [(64, (.aload_n 0, (1, (0, (0, 0))))), (65, (.getfield 229, (3, (10, (14, 0))))), (68, (.ireturn, (1, (0, (0, 0)))))]]
set_option maxRecDepth 100000 in
noncomputable def mc_X10_jobs : List (List mI) := [[(0, (.aload_n 0, (1, (0, (0, 0))))), (1, (.getfield 12, (3, (10, (0, 2))))), (4, (.getfield 239, (3, (7, (0, 0))))), (7, (.ireturn, (1, (0, (0, 0)))))]]
set_option maxRecDepth 100000 in
noncomputable def mc_X10_jobAt : List (List mI) := [[(0, (.aload_n 0, (1, (0, (0, 0))))), (1, (.iload_n 1, (1, (0, (0, 0))))), (2, (.invokevirtual 143, (3, (121, (2, 0))))), (5, (.iload_n 2, (1, (0, (0, 0))))), (6, (.iconst 0, (1, (0, (0, 0))))), (7, (.iconst 5, (1, (0, (0, 0))))), (8, (.invokestatic 102, (3, (124, (3, 1))))), (11, (.iload_n 2, (1, (0, (0, 0))))), (12, (.tableswitch 86 0 4 #[36, 46, 56, 66, 76], (36, (0, (0, 0))))), (48, (.aload_n 0, (1, (0, (0, 0))))), (49, (.getfield 12, (3, (10, (0, 2))))), (52, (.getfield 242, (3, (7, (1, 2))))), (55, (.iload_n 1, (1, (0, (0, 0))))), (56, (.iaload, (1, (0, (0, 0))))), (57, (.ireturn, (1, (0, (0, 0))))), (58, (.aload_n 0, (1, (0, (0, 0))))), (59, (.getfield 12, (3, (10, (0, 2))))), (62, (.getfield 245, (3, (7, (2, 2)))))],
  [(65, (.iload_n 1, (1, (0, (0, 0))))), (66, (.iaload, (1, (0, (0, 0))))), (67, (.ireturn, (1, (0, (0, 0))))), (68, (.aload_n 0, (1, (0, (0, 0))))), (69, (.getfield 12, (3, (10, (0, 2))))), (72, (.getfield 248, (3, (7, (3, 2))))), (75, (.iload_n 1, (1, (0, (0, 0))))), (76, (.iaload, (1, (0, (0, 0))))), (77, (.ireturn, (1, (0, (0, 0))))), (78, (.aload_n 0, (1, (0, (0, 0))))), (79, (.getfield 12, (3, (10, (0, 2))))), (82, (.getfield 251, (3, (7, (4, 2))))), (85, (.iload_n 1, (1, (0, (0, 0))))), (86, (.iaload, (1, (0, (0, 0))))), (87, (.ireturn, (1, (0, (0, 0))))), (88, (.aload_n 0, (1, (0, (0, 0))))), (89, (.getfield 12, (3, (10, (0, 2))))), (92, (.getfield 146, (3, (7, (5, 2))))), (95, (.iload_n 1, (1, (0, (0, 0))))), (96, (.iaload, (1, (0, (0, 0))))), (97, (.ireturn, (1, (0, (0, 0))))), (98, (.aload_n 0, (1, (0, (0, 0))))), (99, (.getfield 12, (3, (10, (0, 2))))), (102, (.iload_n 1, (1, (0, (0, 0))))), (103, (.iconst 0, (1, (0, (0, 0))))), (104, (.invokevirtual 254, (3, (41, (3, 0))))), (107, (.ireturn, (1, (0, (0, 0)))))]]
set_option maxRecDepth 100000 in
noncomputable def mc_X10_stepAt : List (List mI) := [[(0, (.aload_n 0, (1, (0, (0, 0))))), (1, (.iload_n 1, (1, (0, (0, 0))))), (2, (.iload_n 2, (1, (0, (0, 0))))), (3, (.invokevirtual 258, (3, (122, (3, 0))))), (6, (.iload_n 3, (1, (0, (0, 0))))), (7, (.iconst 0, (1, (0, (0, 0))))), (8, (.iconst 1, (1, (0, (0, 0))))), (9, (.invokestatic 102, (3, (124, (3, 1))))), (12, (.iload_n 1, (1, (0, (0, 0))))), (13, (.iconst 5, (1, (0, (0, 0))))), (14, (.imul, (1, (0, (0, 0))))), (15, (.iload_n 2, (1, (0, (0, 0))))), (16, (.iadd, (1, (0, (0, 0))))), (17, (.istore 4, (2, (0, (0, 0))))), (19, (.iload_n 3, (1, (0, (0, 0))))), (20, (.ifCond .ne 16, (3, (0, (0, 0))))), (23, (.aload_n 0, (1, (0, (0, 0))))), (24, (.getfield 12, (3, (10, (0, 2))))), (27, (.getfield 262, (3, (7, (6, 2))))), (30, (.iload 4, (2, (0, (0, 0))))), (32, (.iaload, (1, (0, (0, 0))))), (33, (.goto 13, (3, (0, (0, 0))))), (36, (.aload_n 0, (1, (0, (0, 0))))), (37, (.getfield 12, (3, (10, (0, 2))))), (40, (.getfield 265, (3, (7, (7, 2))))), (43, (.iload 4, (2, (0, (0, 0))))), (45, (.iaload, (1, (0, (0, 0))))), (46, (.ireturn, (1, (0, (0, 0)))))]]
set_option maxRecDepth 100000 in
noncomputable def mc_X10_begin : List (List mI) := [[(0, (.aload_n 0, (1, (0, (0, 0))))), (1, (.iload_n 1, (1, (0, (0, 0))))), (2, (.iload_n 2, (1, (0, (0, 0))))), (3, (.invokevirtual 258, (3, (122, (3, 0))))), (6, (.aload_n 0, (1, (0, (0, 0))))), (7, (.invokevirtual 211, (3, (129, (1, 0))))), (10, (.aload_n 0, (1, (0, (0, 0))))), (11, (.getfield 21, (3, (10, (1, 2))))), (14, (.getfield 268, (3, (8, (6, 2))))), (17, (.iload_n 1, (1, (0, (0, 0))))), (18, (.iconst 5, (1, (0, (0, 0))))), (19, (.imul, (1, (0, (0, 0))))), (20, (.iload_n 2, (1, (0, (0, 0))))), (21, (.iadd, (1, (0, (0, 0))))), (22, (.iaload, (1, (0, (0, 0))))), (23, (.ireturn, (1, (0, (0, 0)))))]]
set_option maxRecDepth 100000 in
noncomputable def mc_X10_endOf : List (List mI) := [[(0, (.aload_n 0, (1, (0, (0, 0))))), (1, (.iload_n 1, (1, (0, (0, 0))))), (2, (.invokevirtual 143, (3, (121, (2, 0))))), (5, (.aload_n 0, (1, (0, (0, 0))))), (6, (.invokevirtual 211, (3, (129, (1, 0))))), (9, (.aload_n 0, (1, (0, (0, 0))))), (10, (.getfield 21, (3, (10, (1, 2))))), (13, (.iload_n 1, (1, (0, (0, 0))))), (14, (.invokevirtual 271, (3, (67, (2, 0))))), (17, (.ireturn, (1, (0, (0, 0)))))]]
set_option maxRecDepth 100000 in
noncomputable def mc_X10_value : List (List mI) := [[(0, (.iload_n 1, (1, (0, (0, 0))))), (1, (.invokestatic 183, (3, (126, (1, 1))))), (4, (.aload_n 0, (1, (0, (0, 0))))), (5, (.invokevirtual 211, (3, (129, (1, 0))))), (8, (.aload_n 0, (1, (0, (0, 0))))), (9, (.getfield 21, (3, (10, (1, 2))))), (12, (.iload_n 1, (1, (0, (0, 0))))), (13, (.invokevirtual 194, (3, (68, (2, 0))))), (16, (.ireturn, (1, (0, (0, 0)))))]]
set_option maxRecDepth 100000 in
noncomputable def mc_X10_bound : List (List mI) := [[(0, (.aload_n 0, (1, (0, (0, 0))))), (1, (.getfield 12, (3, (10, (0, 2))))), (4, (.invokevirtual 274, (3, (43, (1, 0))))), (7, (.ireturn, (1, (0, (0, 0)))))]]
set_option maxRecDepth 100000 in
noncomputable def mc_X10_orderAt : List (List mI) := [[(0, (.iload_n 1, (1, (0, (0, 0))))), (1, (.invokestatic 98, (3, (119, (1, 1))))), (4, (.iload_n 2, (1, (0, (0, 0))))), (5, (.ifCond .lt 16, (3, (0, (0, 0))))), (8, (.iload_n 2, (1, (0, (0, 0))))), (9, (.aload_n 0, (1, (0, (0, 0))))), (10, (.getfield 21, (3, (10, (1, 2))))), (13, (.getfield 197, (3, (8, (4, 2))))), (16, (.iload_n 1, (1, (0, (0, 0))))), (17, (.iaload, (1, (0, (0, 0))))), (18, (.if_icmp .lt 14, (3, (0, (0, 0))))), (21, (.new 200, (3, (1000, (277, 409))))), (32, (.aload_n 0, (1, (0, (0, 0))))), (33, (.getfield 21, (3, (10, (1, 2))))), (36, (.getfield 279, (3, (8, (5, 2))))), (39, (.iload_n 1, (1, (0, (0, 0))))), (40, (.bipush 30, (2, (0, (0, 0))))), (42, (.imul, (1, (0, (0, 0))))), (43, (.iload_n 2, (1, (0, (0, 0))))), (44, (.iadd, (1, (0, (0, 0))))), (45, (.iaload, (1, (0, (0, 0))))), (46, (.invokestatic 282, (3, (130, (1, 1))))), (49, (.ireturn, (1, (0, (0, 0)))))]]
set_option maxRecDepth 100000 in
noncomputable def mc_X10_doneIn : List (List mI) := [[(0, (.iload_n 1, (1, (0, (0, 0))))), (1, (.invokestatic 98, (3, (119, (1, 1))))), (4, (.iload_n 2, (1, (0, (0, 0))))), (5, (.iconst 0, (1, (0, (0, 0))))), (6, (.sipush 5000, (3, (0, (0, 0))))), (9, (.invokestatic 102, (3, (124, (3, 1))))), (12, (.aload_n 0, (1, (0, (0, 0))))), (13, (.invokevirtual 211, (3, (129, (1, 0))))), (16, (.iconst 0, (1, (0, (0, 0))))), (17, (.istore_n 3, (1, (0, (0, 0))))), (18, (.iload_n 3, (1, (0, (0, 0))))), (19, (.aload_n 0, (1, (0, (0, 0))))), (20, (.getfield 21, (3, (10, (1, 2))))), (23, (.getfield 197, (3, (8, (4, 2))))), (26, (.iload_n 1, (1, (0, (0, 0))))), (27, (.iaload, (1, (0, (0, 0))))), (28, (.if_icmp .ge 57, (3, (0, (0, 0))))), (31, (.aload_n 0, (1, (0, (0, 0))))), (32, (.getfield 21, (3, (10, (1, 2))))), (35, (.getfield 279, (3, (8, (5, 2))))), (38, (.iload_n 1, (1, (0, (0, 0))))), (39, (.bipush 30, (2, (0, (0, 0))))), (41, (.imul, (1, (0, (0, 0))))), (42, (.iload_n 3, (1, (0, (0, 0))))), (43, (.iadd, (1, (0, (0, 0))))), (44, (.iaload, (1, (0, (0, 0))))), (45, (.istore 4, (2, (0, (0, 0))))), (47, (.aload_n 0, (1, (0, (0, 0))))), (48, (.getfield 21, (3, (10, (1, 2))))), (51, (.getfield 268, (3, (8, (6, 2))))), (54, (.iload 4, (2, (0, (0, 0))))), (56, (.iaload, (1, (0, (0, 0))))), (57, (.iload_n 2, (1, (0, (0, 0))))), (58, (.if_icmp .gt 21, (3, (0, (0, 0))))), (61, (.iload_n 2, (1, (0, (0, 0))))), (62, (.aload_n 0, (1, (0, (0, 0))))), (63, (.getfield 21, (3, (10, (1, 2)))))],
  [(66, (.iload 4, (2, (0, (0, 0))))), (68, (.invokevirtual 285, (3, (49, (2, 0))))), (71, (.if_icmp .ge 8, (3, (0, (0, 0))))), (74, (.iload 4, (2, (0, (0, 0))))), (76, (.iconst 5, (1, (0, (0, 0))))), (77, (.idiv, (1, (0, (0, 0))))), (78, (.ireturn, (1, (0, (0, 0))))), (79, (.iinc 3 1, (3, (0, (0, 0))))), (82, (.goto (-64), (3, (0, (0, 0))))), (85, (.iconst (-1), (1, (0, (0, 0))))), (86, (.ireturn, (1, (0, (0, 0)))))]]
set_option maxRecDepth 100000 in
noncomputable def mc_X10_wayLength : List (List mI) := [[(0, (.aload_n 0, (1, (0, (0, 0))))), (1, (.invokevirtual 211, (3, (129, (1, 0))))), (4, (.aload_n 0, (1, (0, (0, 0))))), (5, (.getfield 51, (3, (10, (7, 2))))), (8, (.invokevirtual 288, (3, (71, (1, 0))))), (11, (.aload_n 0, (1, (0, (0, 0))))), (12, (.getfield 51, (3, (10, (7, 2))))), (15, (.getfield 291, (3, (9, (3, 0))))), (18, (.ireturn, (1, (0, (0, 0)))))]]
set_option maxRecDepth 100000 in
noncomputable def mc_X10_wayAt : List (List mI) := [[(0, (.aload_n 0, (1, (0, (0, 0))))), (1, (.getfield 51, (3, (10, (7, 2))))), (4, (.invokevirtual 288, (3, (71, (1, 0))))), (7, (.iload_n 1, (1, (0, (0, 0))))), (8, (.ifCond .lt 14, (3, (0, (0, 0))))), (11, (.iload_n 1, (1, (0, (0, 0))))), (12, (.aload_n 0, (1, (0, (0, 0))))), (13, (.getfield 51, (3, (10, (7, 2))))), (16, (.getfield 291, (3, (9, (3, 0))))), (19, (.if_icmp .lt 14, (3, (0, (0, 0))))), (22, (.new 200, (3, (1000, (277, 409))))), (33, (.aload_n 0, (1, (0, (0, 0))))), (34, (.getfield 51, (3, (10, (7, 2))))), (37, (.getfield 294, (3, (9, (2, 2))))), (40, (.aload_n 0, (1, (0, (0, 0))))), (41, (.getfield 51, (3, (10, (7, 2))))), (44, (.getfield 291, (3, (9, (3, 0))))), (47, (.iconst 1, (1, (0, (0, 0))))), (48, (.isub, (1, (0, (0, 0))))), (49, (.iload_n 1, (1, (0, (0, 0))))), (50, (.isub, (1, (0, (0, 0))))), (51, (.iaload, (1, (0, (0, 0))))), (52, (.invokestatic 282, (3, (130, (1, 1))))), (55, (.ireturn, (1, (0, (0, 0)))))]]
set_option maxRecDepth 100000 in
noncomputable def mc_X10_blocks : List (List mI) := [[(0, (.aload_n 0, (1, (0, (0, 0))))), (1, (.invokevirtual 211, (3, (129, (1, 0))))), (4, (.aload_n 0, (1, (0, (0, 0))))), (5, (.getfield 51, (3, (10, (7, 2))))), (8, (.invokevirtual 288, (3, (71, (1, 0))))), (11, (.aload_n 0, (1, (0, (0, 0))))), (12, (.getfield 51, (3, (10, (7, 2))))), (15, (.getfield 297, (3, (9, (4, 0))))), (18, (.ireturn, (1, (0, (0, 0)))))]]
set_option maxRecDepth 100000 in
noncomputable def mc_X10_longestBlock : List (List mI) := [[(0, (.aload_n 0, (1, (0, (0, 0))))), (1, (.invokevirtual 211, (3, (129, (1, 0))))), (4, (.aload_n 0, (1, (0, (0, 0))))), (5, (.getfield 51, (3, (10, (7, 2))))), (8, (.invokevirtual 288, (3, (71, (1, 0))))), (11, (.aload_n 0, (1, (0, (0, 0))))), (12, (.getfield 51, (3, (10, (7, 2))))), (15, (.getfield 300, (3, (9, (5, 0))))), (18, (.ireturn, (1, (0, (0, 0)))))]]
set_option maxRecDepth 100000 in
noncomputable def mc_X10_slack : List (List mI) := [[(0, (.aload_n 0, (1, (0, (0, 0))))), (1, (.iload_n 1, (1, (0, (0, 0))))), (2, (.iload_n 2, (1, (0, (0, 0))))), (3, (.invokevirtual 258, (3, (122, (3, 0))))), (6, (.aload_n 0, (1, (0, (0, 0))))), (7, (.invokevirtual 211, (3, (129, (1, 0))))), (10, (.iload_n 1, (1, (0, (0, 0))))), (11, (.iconst 5, (1, (0, (0, 0))))), (12, (.imul, (1, (0, (0, 0))))), (13, (.iload_n 2, (1, (0, (0, 0))))), (14, (.iadd, (1, (0, (0, 0))))), (15, (.istore_n 3, (1, (0, (0, 0))))), (16, (.aload_n 0, (1, (0, (0, 0))))), (17, (.getfield 21, (3, (10, (1, 2))))), (20, (.iconst 0, (1, (0, (0, 0))))), (21, (.invokevirtual 194, (3, (68, (2, 0))))), (24, (.istore 4, (2, (0, (0, 0))))), (26, (.iconst 0, (1, (0, (0, 0))))), (27, (.istore 5, (2, (0, (0, 0))))), (29, (.sipush 512, (3, (0, (0, 0))))), (32, (.istore 6, (2, (0, (0, 0))))), (34, (.iload 6, (2, (0, (0, 0))))), (36, (.ifCond .le 66, (3, (0, (0, 0))))), (39, (.iload 5, (2, (0, (0, 0))))), (41, (.iload 6, (2, (0, (0, 0))))), (43, (.iadd, (1, (0, (0, 0))))), (44, (.sipush 1000, (3, (0, (0, 0))))), (47, (.if_icmp .gt 46, (3, (0, (0, 0))))), (50, (.aload_n 0, (1, (0, (0, 0))))), (51, (.getfield 25, (3, (10, (2, 2))))), (54, (.iload_n 3, (1, (0, (0, 0))))), (55, (.aload_n 0, (1, (0, (0, 0))))), (56, (.getfield 21, (3, (10, (1, 2))))), (59, (.getfield 268, (3, (8, (6, 2))))), (62, (.iload_n 3, (1, (0, (0, 0))))), (63, (.iaload, (1, (0, (0, 0)))))],
  [(64, (.iload 5, (2, (0, (0, 0))))), (66, (.iadd, (1, (0, (0, 0))))), (67, (.iload 6, (2, (0, (0, 0))))), (69, (.iadd, (1, (0, (0, 0))))), (70, (.invokevirtual 303, (3, (59, (3, 0))))), (73, (.aload_n 0, (1, (0, (0, 0))))), (74, (.getfield 25, (3, (10, (2, 2))))), (77, (.iconst 0, (1, (0, (0, 0))))), (78, (.invokevirtual 194, (3, (68, (2, 0))))), (81, (.iload 4, (2, (0, (0, 0))))), (83, (.if_icmp .gt 10, (3, (0, (0, 0))))), (86, (.iload 5, (2, (0, (0, 0))))), (88, (.iload 6, (2, (0, (0, 0))))), (90, (.iadd, (1, (0, (0, 0))))), (91, (.istore 5, (2, (0, (0, 0))))), (93, (.iload 6, (2, (0, (0, 0))))), (95, (.iconst 2, (1, (0, (0, 0))))), (96, (.idiv, (1, (0, (0, 0))))), (97, (.istore 6, (2, (0, (0, 0))))), (99, (.goto (-65), (3, (0, (0, 0))))), (102, (.iload 5, (2, (0, (0, 0))))), (104, (.ireturn, (1, (0, (0, 0)))))]]
set_option maxRecDepth 100000 in
noncomputable def mc_X10_delay : List (List mI) := [[(0, (.aload_n 0, (1, (0, (0, 0))))), (1, (.iload_n 1, (1, (0, (0, 0))))), (2, (.invokevirtual 143, (3, (121, (2, 0))))), (5, (.aload_n 0, (1, (0, (0, 0))))), (6, (.iload_n 2, (1, (0, (0, 0))))), (7, (.invokevirtual 143, (3, (121, (2, 0))))), (10, (.aload_n 0, (1, (0, (0, 0))))), (11, (.invokevirtual 211, (3, (129, (1, 0))))), (14, (.aload_n 0, (1, (0, (0, 0))))), (15, (.getfield 25, (3, (10, (2, 2))))), (18, (.iload_n 1, (1, (0, (0, 0))))), (19, (.invokevirtual 218, (3, (60, (2, 0))))), (22, (.aload_n 0, (1, (0, (0, 0))))), (23, (.getfield 25, (3, (10, (2, 2))))), (26, (.iload_n 2, (1, (0, (0, 0))))), (27, (.invokevirtual 271, (3, (67, (2, 0))))), (30, (.aload_n 0, (1, (0, (0, 0))))), (31, (.getfield 21, (3, (10, (1, 2))))), (34, (.iload_n 2, (1, (0, (0, 0))))), (35, (.invokevirtual 271, (3, (67, (2, 0))))), (38, (.isub, (1, (0, (0, 0))))), (39, (.ireturn, (1, (0, (0, 0)))))]]
set_option maxRecDepth 100000 in
noncomputable def mc_X10_leastSum : List (List mI) := [[(0, (.aload_n 0, (1, (0, (0, 0))))), (1, (.getfield 65, (3, (10, (9, 2))))), (4, (.invokevirtual 306, (3, (19, (1, 0))))), (7, (.ireturn, (1, (0, (0, 0)))))]]
set_option maxRecDepth 100000 in
noncomputable def mc_X10_leastLateness : List (List mI) := [[(0, (.aload_n 0, (1, (0, (0, 0))))), (1, (.getfield 65, (3, (10, (9, 2))))), (4, (.invokevirtual 309, (3, (20, (1, 0))))), (7, (.ireturn, (1, (0, (0, 0)))))]]
set_option maxRecDepth 100000 in
noncomputable def mc_X10_fewestLate : List (List mI) := [[(0, (.aload_n 0, (1, (0, (0, 0))))), (1, (.getfield 65, (3, (10, (9, 2))))), (4, (.invokevirtual 312, (3, (21, (1, 0))))), (7, (.invokestatic 315, (3, (237, (1, 1))))), (10, (.ireturn, (1, (0, (0, 0)))))]]
set_option maxRecDepth 100000 in
noncomputable def mc_X10_isDropped : List (List mI) := [[(0, (.aload_n 0, (1, (0, (0, 0))))), (1, (.iload_n 1, (1, (0, (0, 0))))), (2, (.invokevirtual 143, (3, (121, (2, 0))))), (5, (.aload_n 0, (1, (0, (0, 0))))), (6, (.getfield 65, (3, (10, (9, 2))))), (9, (.invokevirtual 312, (3, (21, (1, 0))))), (12, (.iconst 1, (1, (0, (0, 0))))), (13, (.iload_n 1, (1, (0, (0, 0))))), (14, (.ishl, (1, (0, (0, 0))))), (15, (.iand, (1, (0, (0, 0))))), (16, (.ifCond .eq 7, (3, (0, (0, 0))))), (19, (.iconst 1, (1, (0, (0, 0))))), (20, (.goto 4, (3, (0, (0, 0))))), (23, (.iconst 0, (1, (0, (0, 0))))), (24, (.ireturn, (1, (0, (0, 0)))))]]
set_option maxRecDepth 100000 in
noncomputable def mc_X10_leastEnd : List (List mI) := [[(0, (.aload_n 0, (1, (0, (0, 0))))), (1, (.getfield 65, (3, (10, (9, 2))))), (4, (.invokevirtual 320, (3, (25, (1, 0))))), (7, (.ireturn, (1, (0, (0, 0)))))]]
set_option maxRecDepth 100000 in
noncomputable def mc_X10_twoAt : List (List mI) := [[(0, (.aload_n 0, (1, (0, (0, 0))))), (1, (.iload_n 1, (1, (0, (0, 0))))), (2, (.invokevirtual 323, (3, (123, (2, 0))))), (5, (.aload_n 0, (1, (0, (0, 0))))), (6, (.getfield 65, (3, (10, (9, 2))))), (9, (.iload_n 1, (1, (0, (0, 0))))), (10, (.invokevirtual 326, (3, (26, (2, 0))))), (13, (.ireturn, (1, (0, (0, 0)))))]]
set_option maxRecDepth 100000 in
noncomputable def mc_X10_leastSetup : List (List mI) := [[(0, (.aload_n 0, (1, (0, (0, 0))))), (1, (.getfield 72, (3, (10, (10, 2))))), (4, (.invokevirtual 329, (3, (28, (1, 0))))), (7, (.aload_n 0, (1, (0, (0, 0))))), (8, (.getfield 72, (3, (10, (10, 2))))), (11, (.getfield 331, (3, (6, (3, 0))))), (14, (.ireturn, (1, (0, (0, 0)))))]]
set_option maxRecDepth 100000 in
noncomputable def mc_X10_setupAt : List (List mI) := [[(0, (.aload_n 0, (1, (0, (0, 0))))), (1, (.iload_n 1, (1, (0, (0, 0))))), (2, (.invokevirtual 323, (3, (123, (2, 0))))), (5, (.aload_n 0, (1, (0, (0, 0))))), (6, (.getfield 72, (3, (10, (10, 2))))), (9, (.invokevirtual 329, (3, (28, (1, 0))))), (12, (.aload_n 0, (1, (0, (0, 0))))), (13, (.getfield 72, (3, (10, (10, 2))))), (16, (.getfield 333, (3, (6, (2, 2))))), (19, (.iload_n 1, (1, (0, (0, 0))))), (20, (.iaload, (1, (0, (0, 0))))), (21, (.ireturn, (1, (0, (0, 0)))))]]
set_option maxRecDepth 100000 in
noncomputable def mc_X10_match : List (List mI) := [[(0, (.iload_n 1, (1, (0, (0, 0))))), (1, (.invokestatic 223, (3, (127, (1, 1))))), (4, (.aload_n 0, (1, (0, (0, 0))))), (5, (.getfield 79, (3, (10, (11, 2))))), (8, (.iload_n 1, (1, (0, (0, 0))))), (9, (.invokevirtual 336, (3, (4, (2, 0))))), (12, (.aload_n 0, (1, (0, (0, 0))))), (13, (.getfield 79, (3, (10, (11, 2))))), (16, (.getfield 339, (3, (1, (3, 0))))), (19, (.ireturn, (1, (0, (0, 0)))))]]
set_option maxRecDepth 100000 in
noncomputable def mc_X10_workerOf : List (List mI) := [[(0, (.iload_n 2, (1, (0, (0, 0))))), (1, (.invokestatic 98, (3, (119, (1, 1))))), (4, (.iload_n 1, (1, (0, (0, 0))))), (5, (.invokestatic 223, (3, (127, (1, 1))))), (8, (.aload_n 0, (1, (0, (0, 0))))), (9, (.getfield 79, (3, (10, (11, 2))))), (12, (.iload_n 1, (1, (0, (0, 0))))), (13, (.invokevirtual 336, (3, (4, (2, 0))))), (16, (.aload_n 0, (1, (0, (0, 0))))), (17, (.getfield 79, (3, (10, (11, 2))))), (20, (.getfield 342, (3, (1, (2, 2))))), (23, (.iload_n 2, (1, (0, (0, 0))))), (24, (.iaload, (1, (0, (0, 0))))), (25, (.ireturn, (1, (0, (0, 0)))))]]
set_option maxRecDepth 100000 in
noncomputable def mc_X10_promise : List (List mI) := [[(0, (.aload_n 0, (1, (0, (0, 0))))), (1, (.iload_n 1, (1, (0, (0, 0))))), (2, (.invokevirtual 143, (3, (121, (2, 0))))), (5, (.iload_n 2, (1, (0, (0, 0))))), (6, (.iconst 0, (1, (0, (0, 0))))), (7, (.sipush 1000, (3, (0, (0, 0))))), (10, (.invokestatic 102, (3, (124, (3, 1))))), (13, (.iload_n 3, (1, (0, (0, 0))))), (14, (.iconst 1, (1, (0, (0, 0))))), (15, (.sipush 1000, (3, (0, (0, 0))))), (18, (.invokestatic 102, (3, (124, (3, 1))))), (21, (.aload_n 0, (1, (0, (0, 0))))), (22, (.getfield 86, (3, (10, (12, 2))))), (25, (.iload_n 1, (1, (0, (0, 0))))), (26, (.iload_n 2, (1, (0, (0, 0))))), (27, (.iload_n 3, (1, (0, (0, 0))))), (28, (.invokevirtual 345, (3, (14, (4, 0))))), (31, (.ireturn, (1, (0, (0, 0)))))]]
set_option maxRecDepth 100000 in
noncomputable def mc_X10_worked : List (List mI) := [[(0, (.iload_n 1, (1, (0, (0, 0))))), (1, (.iconst 0, (1, (0, (0, 0))))), (2, (.sipush 5000, (3, (0, (0, 0))))), (5, (.invokestatic 102, (3, (124, (3, 1))))), (8, (.iload_n 2, (1, (0, (0, 0))))), (9, (.iconst 0, (1, (0, (0, 0))))), (10, (.iconst 2, (1, (0, (0, 0))))), (11, (.invokestatic 102, (3, (124, (3, 1))))), (14, (.aload_n 0, (1, (0, (0, 0))))), (15, (.invokevirtual 211, (3, (129, (1, 0))))), (18, (.iconst 0, (1, (0, (0, 0))))), (19, (.istore_n 3, (1, (0, (0, 0))))), (20, (.iconst 0, (1, (0, (0, 0))))), (21, (.istore 4, (2, (0, (0, 0))))), (23, (.iload 4, (2, (0, (0, 0))))), (25, (.aload_n 0, (1, (0, (0, 0))))), (26, (.getfield 12, (3, (10, (0, 2))))), (29, (.getfield 239, (3, (7, (0, 0))))), (32, (.if_icmp .ge 61, (3, (0, (0, 0))))), (35, (.aload_n 0, (1, (0, (0, 0))))), (36, (.getfield 21, (3, (10, (1, 2))))), (39, (.iload 4, (2, (0, (0, 0))))), (41, (.invokevirtual 271, (3, (67, (2, 0))))), (44, (.iload_n 1, (1, (0, (0, 0))))), (45, (.if_icmp .gt 7, (3, (0, (0, 0))))), (48, (.iconst 1, (1, (0, (0, 0))))), (49, (.goto 4, (3, (0, (0, 0))))), (52, (.iconst 0, (1, (0, (0, 0))))), (53, (.istore 5, (2, (0, (0, 0))))), (55, (.iload_n 2, (1, (0, (0, 0))))), (56, (.ifCond .eq 18, (3, (0, (0, 0))))), (59, (.iload 5, (2, (0, (0, 0))))), (61, (.iload_n 2, (1, (0, (0, 0))))), (62, (.iconst 1, (1, (0, (0, 0))))), (63, (.if_icmp .ne 7, (3, (0, (0, 0)))))],
  [(66, (.iconst 1, (1, (0, (0, 0))))), (67, (.goto 4, (3, (0, (0, 0))))), (70, (.iconst 0, (1, (0, (0, 0))))), (71, (.if_icmp .ne 16, (3, (0, (0, 0))))), (74, (.iload_n 3, (1, (0, (0, 0))))), (75, (.aload_n 0, (1, (0, (0, 0))))), (76, (.getfield 21, (3, (10, (1, 2))))), (79, (.iload 4, (2, (0, (0, 0))))), (81, (.iload_n 1, (1, (0, (0, 0))))), (82, (.invokevirtual 348, (3, (69, (3, 0))))), (85, (.iadd, (1, (0, (0, 0))))), (86, (.istore_n 3, (1, (0, (0, 0))))), (87, (.iinc 4 1, (3, (0, (0, 0))))), (90, (.goto (-67), (3, (0, (0, 0))))), (93, (.iload_n 3, (1, (0, (0, 0))))), (94, (.ireturn, (1, (0, (0, 0)))))]]
set_option maxRecDepth 100000 in
noncomputable def mc_X10_meanEnd : List (List mI) := [[(0, (.aload_n 0, (1, (0, (0, 0))))), (1, (.invokevirtual 211, (3, (129, (1, 0))))), (4, (.aload_n 0, (1, (0, (0, 0))))), (5, (.getfield 12, (3, (10, (0, 2))))), (8, (.getfield 239, (3, (7, (0, 0))))), (11, (.ifCond .ne 5, (3, (0, (0, 0))))), (14, (.dconst 0, (1, (0, (0, 0))))), (15, (.dreturn, (1, (0, (0, 0))))), (16, (.aload_n 0, (1, (0, (0, 0))))), (17, (.getfield 21, (3, (10, (1, 2))))), (20, (.iconst 1, (1, (0, (0, 0))))), (21, (.invokevirtual 194, (3, (68, (2, 0))))), (24, (.i2d, (1, (0, (0, 0))))), (25, (.aload_n 0, (1, (0, (0, 0))))), (26, (.getfield 12, (3, (10, (0, 2))))), (29, (.getfield 239, (3, (7, (0, 0))))), (32, (.i2d, (1, (0, (0, 0))))), (33, (.ddiv, (1, (0, (0, 0))))), (34, (.dreturn, (1, (0, (0, 0)))))]]
set_option maxRecDepth 100000 in
noncomputable def mc_X10_use : List (List mI) := [[(0, (.iload_n 1, (1, (0, (0, 0))))), (1, (.invokestatic 98, (3, (119, (1, 1))))), (4, (.aload_n 0, (1, (0, (0, 0))))), (5, (.invokevirtual 211, (3, (129, (1, 0))))), (8, (.aload_n 0, (1, (0, (0, 0))))), (9, (.getfield 21, (3, (10, (1, 2))))), (12, (.iconst 0, (1, (0, (0, 0))))), (13, (.invokevirtual 194, (3, (68, (2, 0))))), (16, (.istore_n 2, (1, (0, (0, 0))))), (17, (.iload_n 2, (1, (0, (0, 0))))), (18, (.ifCond .ne 5, (3, (0, (0, 0))))), (21, (.fconst 0, (1, (0, (0, 0))))), (22, (.freturn, (1, (0, (0, 0))))), (23, (.aload_n 0, (1, (0, (0, 0))))), (24, (.getfield 12, (3, (10, (0, 2))))), (27, (.iload_n 1, (1, (0, (0, 0))))), (28, (.invokevirtual 351, (3, (42, (2, 0))))), (31, (.i2f, (1, (0, (0, 0))))), (32, (.iload_n 2, (1, (0, (0, 0))))), (33, (.i2f, (1, (0, (0, 0))))), (34, (.fdiv, (1, (0, (0, 0))))), (35, (.freturn, (1, (0, (0, 0)))))]]
set_option maxRecDepth 100000 in
noncomputable def mc_X10_errors : List (List mI) := [[(0, (.aload_n 0, (1, (0, (0, 0))))), (1, (.getfield 12, (3, (10, (0, 2))))), (4, (.getfield 354, (3, (7, (15, 1))))), (7, (.ifCond .ne 5, (3, (0, (0, 0))))), (10, (.iconst 0, (1, (0, (0, 0))))), (11, (.ireturn, (1, (0, (0, 0))))), (12, (.aload_n 0, (1, (0, (0, 0))))), (13, (.getfield 21, (3, (10, (1, 2))))), (16, (.iconst 0, (1, (0, (0, 0))))), (17, (.invokevirtual 194, (3, (68, (2, 0))))), (20, (.aload_n 0, (1, (0, (0, 0))))), (21, (.getfield 12, (3, (10, (0, 2))))), (24, (.invokevirtual 274, (3, (43, (1, 0))))), (27, (.if_icmp .ge 7, (3, (0, (0, 0))))), (30, (.iconst 1, (1, (0, (0, 0))))), (31, (.goto 4, (3, (0, (0, 0))))), (34, (.iconst 0, (1, (0, (0, 0))))), (35, (.istore_n 1, (1, (0, (0, 0))))), (36, (.aload_n 0, (1, (0, (0, 0))))), (37, (.getfield 58, (3, (10, (8, 2))))), (40, (.invokevirtual 358, (3, (8, (1, 0))))), (43, (.iload_n 1, (1, (0, (0, 0))))), (44, (.iadd, (1, (0, (0, 0))))), (45, (.ireturn, (1, (0, (0, 0)))))]]
set_option maxRecDepth 100000 in
noncomputable def mc_X10_needMachine : List (List mI) := [[(0, (.iload_n 0, (1, (0, (0, 0))))), (1, (.ifCond .lt 8, (3, (0, (0, 0))))), (4, (.iload_n 0, (1, (0, (0, 0))))), (5, (.iconst 4, (1, (0, (0, 0))))), (6, (.if_icmp .lt 14, (3, (0, (0, 0))))), (9, (.new 200, (3, (1000, (361, 409))))), (20, (.return_, (1, (0, (0, 0)))))]]
set_option maxRecDepth 100000 in
noncomputable def mc_X10_needKind : List (List mI) := [[(0, (.iload_n 0, (1, (0, (0, 0))))), (1, (.ifCond .lt 8, (3, (0, (0, 0))))), (4, (.iload_n 0, (1, (0, (0, 0))))), (5, (.iconst 4, (1, (0, (0, 0))))), (6, (.if_icmp .lt 14, (3, (0, (0, 0))))), (9, (.new 200, (3, (1000, (363, 409))))), (20, (.return_, (1, (0, (0, 0)))))]]
set_option maxRecDepth 100000 in
noncomputable def mc_X10_needJob : List (List mI) := [[(0, (.iload_n 1, (1, (0, (0, 0))))), (1, (.ifCond .lt 14, (3, (0, (0, 0))))), (4, (.iload_n 1, (1, (0, (0, 0))))), (5, (.aload_n 0, (1, (0, (0, 0))))), (6, (.getfield 12, (3, (10, (0, 2))))), (9, (.getfield 239, (3, (7, (0, 0))))), (12, (.if_icmp .lt 14, (3, (0, (0, 0))))), (15, (.new 200, (3, (1000, (365, 409))))), (26, (.return_, (1, (0, (0, 0)))))]]
set_option maxRecDepth 100000 in
noncomputable def mc_X10_needStep : List (List mI) := [[(0, (.aload_n 0, (1, (0, (0, 0))))), (1, (.iload_n 1, (1, (0, (0, 0))))), (2, (.invokevirtual 143, (3, (121, (2, 0))))), (5, (.iload_n 2, (1, (0, (0, 0))))), (6, (.ifCond .lt 16, (3, (0, (0, 0))))), (9, (.iload_n 2, (1, (0, (0, 0))))), (10, (.aload_n 0, (1, (0, (0, 0))))), (11, (.getfield 12, (3, (10, (0, 2))))), (14, (.getfield 146, (3, (7, (5, 2))))), (17, (.iload_n 1, (1, (0, (0, 0))))), (18, (.iaload, (1, (0, (0, 0))))), (19, (.if_icmp .lt 14, (3, (0, (0, 0))))), (22, (.new 200, (3, (1000, (367, 409))))), (33, (.return_, (1, (0, (0, 0)))))]]
set_option maxRecDepth 100000 in
noncomputable def mc_X10_needPlaceOfJob : List (List mI) := [[(0, (.iload_n 1, (1, (0, (0, 0))))), (1, (.ifCond .lt 14, (3, (0, (0, 0))))), (4, (.iload_n 1, (1, (0, (0, 0))))), (5, (.aload_n 0, (1, (0, (0, 0))))), (6, (.getfield 12, (3, (10, (0, 2))))), (9, (.getfield 239, (3, (7, (0, 0))))), (12, (.if_icmp .lt 14, (3, (0, (0, 0))))), (15, (.new 200, (3, (1000, (277, 409))))), (26, (.return_, (1, (0, (0, 0)))))]]
set_option maxRecDepth 100000 in
noncomputable def mc_X10_needRange : List (List mI) := [[(0, (.iload_n 0, (1, (0, (0, 0))))), (1, (.iload_n 1, (1, (0, (0, 0))))), (2, (.if_icmp .lt 8, (3, (0, (0, 0))))), (5, (.iload_n 0, (1, (0, (0, 0))))), (6, (.iload_n 2, (1, (0, (0, 0))))), (7, (.if_icmp .le 14, (3, (0, (0, 0))))), (10, (.new 178, (3, (1001, (369, 365))))), (21, (.return_, (1, (0, (0, 0)))))]]
set_option maxRecDepth 100000 in
noncomputable def mc_X10_needRule : List (List mI) := [[(0, (.iload_n 0, (1, (0, (0, 0))))), (1, (.iconst 0, (1, (0, (0, 0))))), (2, (.bipush 7, (2, (0, (0, 0))))), (4, (.invokestatic 102, (3, (124, (3, 1))))), (7, (.return_, (1, (0, (0, 0)))))]]
set_option maxRecDepth 100000 in
noncomputable def mc_X10_needAim : List (List mI) := [[(0, (.iload_n 0, (1, (0, (0, 0))))), (1, (.iconst 0, (1, (0, (0, 0))))), (2, (.iconst 4, (1, (0, (0, 0))))), (3, (.invokestatic 102, (3, (124, (3, 1))))), (6, (.return_, (1, (0, (0, 0)))))]]
set_option maxRecDepth 100000 in
noncomputable def mc_X10_needMachines : List (List mI) := [[(0, (.iload_n 0, (1, (0, (0, 0))))), (1, (.iconst 0, (1, (0, (0, 0))))), (2, (.bipush 15, (2, (0, (0, 0))))), (4, (.invokestatic 102, (3, (124, (3, 1))))), (7, (.return_, (1, (0, (0, 0)))))]]
set_option maxRecDepth 100000 in
noncomputable def mc_X10_needRoomForJob : List (List mI) := [[(0, (.aload_n 0, (1, (0, (0, 0))))), (1, (.getfield 12, (3, (10, (0, 2))))), (4, (.getfield 239, (3, (7, (0, 0))))), (7, (.bipush 6, (2, (0, (0, 0))))), (9, (.if_icmp .lt 14, (3, (0, (0, 0))))), (12, (.new 109, (3, (1002, (371, 227))))), (23, (.return_, (1, (0, (0, 0)))))]]
set_option maxRecDepth 100000 in
noncomputable def mc_X10_needPlan : List (List mI) := [[(0, (.aload_n 0, (1, (0, (0, 0))))), (1, (.getfield 12, (3, (10, (0, 2))))), (4, (.getfield 354, (3, (7, (15, 1))))), (7, (.ifCond .ne 14, (3, (0, (0, 0))))), (10, (.new 109, (3, (1002, (373, 227))))), (21, (.return_, (1, (0, (0, 0)))))]]
set_option maxRecDepth 100000 in
noncomputable def mc_X10_told : List (List mI) := [[(0, (.bipush 10, (2, (0, (0, 0))))), (2, (.iload_n 0, (1, (0, (0, 0))))), (3, (.iconst 5, (1, (0, (0, 0))))), (4, (.idiv, (1, (0, (0, 0))))), (5, (.imul, (1, (0, (0, 0))))), (6, (.iload_n 0, (1, (0, (0, 0))))), (7, (.iconst 5, (1, (0, (0, 0))))), (8, (.irem, (1, (0, (0, 0))))), (9, (.iadd, (1, (0, (0, 0))))), (10, (.ireturn, (1, (0, (0, 0)))))]]
set_option maxRecDepth 100000 in
noncomputable def mc_X10_remember : List (List mI) := [[(0, (.aload_n 0, (1, (0, (0, 0))))), (1, (.getfield 28, (3, (10, (3, 2))))), (4, (.aload_n 0, (1, (0, (0, 0))))), (5, (.getfield 233, (3, (10, (13, 0))))), (8, (.aaload, (1, (0, (0, 0))))), (9, (.astore_n 1, (1, (0, (0, 0))))), (10, (.aload_n 1, (1, (0, (0, 0))))), (11, (.ifnonnull 21, (3, (0, (0, 0))))), (14, (.new 9, (3, (7, (0, 0))))), (17, (.dup, (1, (0, (0, 0))))), (18, (.invokespecial 11, (3, (31, (1, 3))))), (21, (.astore_n 1, (1, (0, (0, 0))))), (22, (.aload_n 0, (1, (0, (0, 0))))), (23, (.getfield 28, (3, (10, (3, 2))))), (26, (.aload_n 0, (1, (0, (0, 0))))), (27, (.getfield 233, (3, (10, (13, 0))))), (30, (.aload_n 1, (1, (0, (0, 0))))), (31, (.aastore, (1, (7, (0, 0))))), (32, (.aload_n 1, (1, (0, (0, 0))))), (33, (.aload_n 0, (1, (0, (0, 0))))), (34, (.getfield 12, (3, (10, (0, 2))))), (37, (.invokevirtual 236, (3, (32, (2, 0))))), (40, (.aload_n 0, (1, (0, (0, 0))))), (41, (.aload_n 0, (1, (0, (0, 0))))), (42, (.getfield 233, (3, (10, (13, 0))))), (45, (.iconst 1, (1, (0, (0, 0))))), (46, (.iadd, (1, (0, (0, 0))))), (47, (.bipush 8, (2, (0, (0, 0))))), (49, (.irem, (1, (0, (0, 0))))), (50, (.putfield 233, (3, (10, (13, 0))))), (53, (.aload_n 0, (1, (0, (0, 0))))), (54, (.aload_n 0, (1, (0, (0, 0))))), (55, (.getfield 229, (3, (10, (14, 0))))), (58, (.iconst 1, (1, (0, (0, 0))))), (59, (.iadd, (1, (0, (0, 0))))), (60, (.bipush 8, (2, (0, (0, 0))))), (62, (.invokestatic 375, (3, (0, (2, 6)))))],
  [(65, (.putfield 229, (3, (10, (14, 0))))), (68, (.return_, (1, (0, (0, 0)))))]]
set_option maxRecDepth 100000 in
noncomputable def mc_X10_dropPlan : List (List mI) := [[(0, (.aload_n 0, (1, (0, (0, 0))))), (1, (.getfield 12, (3, (10, (0, 2))))), (4, (.iconst 0, (1, (0, (0, 0))))), (5, (.putfield 354, (3, (7, (15, 1))))), (8, (.aload_n 0, (1, (0, (0, 0))))), (9, (.getfield 21, (3, (10, (1, 2))))), (12, (.invokevirtual 122, (3, (58, (1, 0))))), (15, (.return_, (1, (0, (0, 0)))))]]
set_option maxRecDepth 100000 in
noncomputable def mc_X10_adoptTrial : List (List mI) := [[(0, (.aload_n 0, (1, (0, (0, 0))))), (1, (.invokevirtual 116, (3, (131, (1, 0))))), (4, (.aload_n 0, (1, (0, (0, 0))))), (5, (.getfield 12, (3, (10, (0, 2))))), (8, (.aload_n 0, (1, (0, (0, 0))))), (9, (.getfield 25, (3, (10, (2, 2))))), (12, (.getfield 380, (3, (8, (2, 2))))), (15, (.invokevirtual 383, (3, (34, (2, 0))))), (18, (.aload_n 0, (1, (0, (0, 0))))), (19, (.getfield 21, (3, (10, (1, 2))))), (22, (.invokevirtual 122, (3, (58, (1, 0))))), (25, (.aload_n 0, (1, (0, (0, 0))))), (26, (.getfield 21, (3, (10, (1, 2))))), (29, (.iconst 0, (1, (0, (0, 0))))), (30, (.invokevirtual 194, (3, (68, (2, 0))))), (33, (.ireturn, (1, (0, (0, 0)))))]]
set_option maxRecDepth 100000 in
noncomputable def mc_X10_putDigits : List (List mI) := [[(0, (.iconst 0, (1, (0, (0, 0))))), (1, (.istore_n 3, (1, (0, (0, 0))))), (2, (.lload_n 1, (1, (0, (0, 0))))), (3, (.lstore 4, (2, (0, (0, 0))))), (5, (.lload 4, (2, (0, (0, 0))))), (7, (.lconst 0, (1, (0, (0, 0))))), (8, (.lcmp, (1, (0, (0, 0))))), (9, (.ifCond .le 36, (3, (0, (0, 0))))), (12, (.iload_n 3, (1, (0, (0, 0))))), (13, (.bipush 19, (2, (0, (0, 0))))), (15, (.if_icmp .ge 30, (3, (0, (0, 0))))), (18, (.aload_n 0, (1, (0, (0, 0))))), (19, (.getfield 32, (3, (10, (4, 2))))), (22, (.iload_n 3, (1, (0, (0, 0))))), (23, (.lload 4, (2, (0, (0, 0))))), (25, (.ldc2_w 387, (3, (10, (0, 0))))), (28, (.lrem, (1, (0, (0, 0))))), (29, (.l2i, (1, (0, (0, 0))))), (30, (.iastore, (1, (0, (0, 0))))), (31, (.lload 4, (2, (0, (0, 0))))), (33, (.ldc2_w 387, (3, (10, (0, 0))))), (36, (.ldiv, (1, (0, (0, 0))))), (37, (.lstore 4, (2, (0, (0, 0))))), (39, (.iinc 3 1, (3, (0, (0, 0))))), (42, (.goto (-37), (3, (0, (0, 0))))), (45, (.lload_n 1, (1, (0, (0, 0))))), (46, (.lconst 0, (1, (0, (0, 0))))), (47, (.lcmp, (1, (0, (0, 0))))), (48, (.ifCond .lt 14, (3, (0, (0, 0))))), (51, (.iload_n 3, (1, (0, (0, 0))))), (52, (.aload_n 0, (1, (0, (0, 0))))), (53, (.getfield 12, (3, (10, (0, 2))))), (56, (.invokevirtual 186, (3, (40, (1, 0))))), (59, (.if_icmp .eq 5, (3, (0, (0, 0))))), (62, (.iconst 0, (1, (0, (0, 0))))), (63, (.ireturn, (1, (0, (0, 0)))))],
  [(64, (.aload_n 0, (1, (0, (0, 0))))), (65, (.getfield 25, (3, (10, (2, 2))))), (68, (.invokevirtual 164, (3, (47, (1, 0))))), (71, (.iload_n 3, (1, (0, (0, 0))))), (72, (.iconst 1, (1, (0, (0, 0))))), (73, (.isub, (1, (0, (0, 0))))), (74, (.istore 6, (2, (0, (0, 0))))), (76, (.iload 6, (2, (0, (0, 0))))), (78, (.ifCond .lt 44, (3, (0, (0, 0))))), (81, (.aload_n 0, (1, (0, (0, 0))))), (82, (.getfield 32, (3, (10, (4, 2))))), (85, (.iload 6, (2, (0, (0, 0))))), (87, (.iaload, (1, (0, (0, 0))))), (88, (.iconst 1, (1, (0, (0, 0))))), (89, (.isub, (1, (0, (0, 0))))), (90, (.istore 7, (2, (0, (0, 0))))), (92, (.aload_n 0, (1, (0, (0, 0))))), (93, (.getfield 25, (3, (10, (2, 2))))), (96, (.iload 7, (2, (0, (0, 0))))), (98, (.invokevirtual 389, (3, (48, (2, 0))))), (101, (.ifCond .ne 5, (3, (0, (0, 0))))), (104, (.iconst 0, (1, (0, (0, 0))))), (105, (.ireturn, (1, (0, (0, 0))))), (106, (.aload_n 0, (1, (0, (0, 0))))), (107, (.getfield 25, (3, (10, (2, 2))))), (110, (.iload 7, (2, (0, (0, 0))))), (112, (.iconst 0, (1, (0, (0, 0))))), (113, (.invokevirtual 392, (3, (56, (3, 0))))), (116, (.iinc 6 (-1), (3, (0, (0, 0))))), (119, (.goto (-43), (3, (0, (0, 0))))), (122, (.iconst 1, (1, (0, (0, 0))))), (123, (.ireturn, (1, (0, (0, 0)))))]]
set_option maxRecDepth 100000 in
noncomputable def mc_X10_putSwapped : List (List mI) := [[(0, (.aload_n 0, (1, (0, (0, 0))))), (1, (.getfield 21, (3, (10, (1, 2))))), (4, (.getfield 279, (3, (8, (5, 2))))), (7, (.iconst 0, (1, (0, (0, 0))))), (8, (.aload_n 0, (1, (0, (0, 0))))), (9, (.getfield 36, (3, (10, (5, 2))))), (12, (.iconst 0, (1, (0, (0, 0))))), (13, (.aload_n 0, (1, (0, (0, 0))))), (14, (.getfield 36, (3, (10, (5, 2))))), (17, (.arraylength, (1, (0, (0, 0))))), (18, (.invokestatic 395, (3, (0, (5, 7))))), (21, (.iload_n 1, (1, (0, (0, 0))))), (22, (.bipush 30, (2, (0, (0, 0))))), (24, (.imul, (1, (0, (0, 0))))), (25, (.iload_n 2, (1, (0, (0, 0))))), (26, (.iadd, (1, (0, (0, 0))))), (27, (.istore_n 3, (1, (0, (0, 0))))), (28, (.aload_n 0, (1, (0, (0, 0))))), (29, (.getfield 36, (3, (10, (5, 2))))), (32, (.iload_n 3, (1, (0, (0, 0))))), (33, (.aload_n 0, (1, (0, (0, 0))))), (34, (.getfield 21, (3, (10, (1, 2))))), (37, (.getfield 279, (3, (8, (5, 2))))), (40, (.iload_n 3, (1, (0, (0, 0))))), (41, (.iconst 1, (1, (0, (0, 0))))), (42, (.iadd, (1, (0, (0, 0))))), (43, (.iaload, (1, (0, (0, 0))))), (44, (.iastore, (1, (0, (0, 0))))), (45, (.aload_n 0, (1, (0, (0, 0))))), (46, (.getfield 36, (3, (10, (5, 2))))), (49, (.iload_n 3, (1, (0, (0, 0))))), (50, (.iconst 1, (1, (0, (0, 0))))), (51, (.iadd, (1, (0, (0, 0))))), (52, (.aload_n 0, (1, (0, (0, 0))))), (53, (.getfield 21, (3, (10, (1, 2))))), (56, (.getfield 279, (3, (8, (5, 2))))), (59, (.iload_n 3, (1, (0, (0, 0))))), (60, (.iaload, (1, (0, (0, 0))))), (61, (.iastore, (1, (0, (0, 0))))), (62, (.aload_n 0, (1, (0, (0, 0))))), (63, (.getfield 25, (3, (10, (2, 2)))))],
  [(66, (.invokevirtual 164, (3, (47, (1, 0))))), (69, (.aload_n 0, (1, (0, (0, 0))))), (70, (.getfield 12, (3, (10, (0, 2))))), (73, (.invokevirtual 186, (3, (40, (1, 0))))), (76, (.istore 4, (2, (0, (0, 0))))), (78, (.iconst 0, (1, (0, (0, 0))))), (79, (.istore 5, (2, (0, (0, 0))))), (81, (.iload 5, (2, (0, (0, 0))))), (83, (.iload 4, (2, (0, (0, 0))))), (85, (.if_icmp .ge 40, (3, (0, (0, 0))))), (88, (.aload_n 0, (1, (0, (0, 0))))), (89, (.getfield 25, (3, (10, (2, 2))))), (92, (.aload_n 0, (1, (0, (0, 0))))), (93, (.getfield 36, (3, (10, (5, 2))))), (96, (.invokevirtual 401, (3, (65, (2, 0))))), (99, (.istore 6, (2, (0, (0, 0))))), (101, (.iload 6, (2, (0, (0, 0))))), (103, (.iconst (-1), (1, (0, (0, 0))))), (104, (.if_icmp .ne 5, (3, (0, (0, 0))))), (107, (.iconst 0, (1, (0, (0, 0))))), (108, (.ireturn, (1, (0, (0, 0))))), (109, (.aload_n 0, (1, (0, (0, 0))))), (110, (.getfield 25, (3, (10, (2, 2))))), (113, (.iload 6, (2, (0, (0, 0))))), (115, (.iconst 0, (1, (0, (0, 0))))), (116, (.invokevirtual 392, (3, (56, (3, 0))))), (119, (.iinc 5 1, (3, (0, (0, 0))))), (122, (.goto (-41), (3, (0, (0, 0))))), (125, (.iconst 1, (1, (0, (0, 0))))), (126, (.ireturn, (1, (0, (0, 0)))))]]
set_option maxRecDepth 100000 in
noncomputable def mc_X11_init : List (List mI) := [[(0, (.aload_n 0, (1, (0, (0, 0))))), (1, (.invokespecial 3, (3, (0, (1, 4))))), (4, (.aload_n 0, (1, (0, (0, 0))))), (5, (.sipush 282, (3, (0, (0, 0))))), (8, (.newarray .int, (2, (0, (0, 0))))), (10, (.putfield 9, (3, (11, (0, 2))))), (13, (.aload_n 0, (1, (0, (0, 0))))), (14, (.sipush 2256, (3, (0, (0, 0))))), (17, (.newarray .int, (2, (0, (0, 0))))), (19, (.putfield 13, (3, (11, (1, 2))))), (22, (.aload_n 0, (1, (0, (0, 0))))), (23, (.bipush 30, (2, (0, (0, 0))))), (25, (.newarray .int, (2, (0, (0, 0))))), (27, (.putfield 16, (3, (11, (4, 2))))), (30, (.aload_n 0, (1, (0, (0, 0))))), (31, (.bipush 6, (2, (0, (0, 0))))), (33, (.newarray .int, (2, (0, (0, 0))))), (35, (.putfield 19, (3, (11, (5, 2))))), (38, (.aload_n 0, (1, (0, (0, 0))))), (39, (.bipush 6, (2, (0, (0, 0))))), (41, (.newarray .int, (2, (0, (0, 0))))), (43, (.putfield 22, (3, (11, (6, 2))))), (46, (.aload_n 0, (1, (0, (0, 0))))), (47, (.iconst 4, (1, (0, (0, 0))))), (48, (.newarray .int, (2, (0, (0, 0))))), (50, (.putfield 25, (3, (11, (7, 2))))), (53, (.aload_n 0, (1, (0, (0, 0))))), (54, (.iconst 4, (1, (0, (0, 0))))), (55, (.newarray .int, (2, (0, (0, 0))))), (57, (.putfield 28, (3, (11, (8, 2))))), (60, (.aload_n 0, (1, (0, (0, 0))))), (61, (.iconst 4, (1, (0, (0, 0))))), (62, (.newarray .int, (2, (0, (0, 0)))))],
  [(64, (.putfield 31, (3, (11, (9, 2))))), (67, (.aload_n 0, (1, (0, (0, 0))))), (68, (.iconst 4, (1, (0, (0, 0))))), (69, (.newarray .int, (2, (0, (0, 0))))), (71, (.putfield 34, (3, (11, (10, 2))))), (74, (.aload_n 0, (1, (0, (0, 0))))), (75, (.bipush 124, (2, (0, (0, 0))))), (77, (.newarray .int, (2, (0, (0, 0))))), (79, (.putfield 37, (3, (11, (11, 2))))), (82, (.aload_n 0, (1, (0, (0, 0))))), (83, (.bipush 9, (2, (0, (0, 0))))), (85, (.newarray .int, (2, (0, (0, 0))))), (87, (.putfield 40, (3, (11, (12, 2))))), (90, (.aload_n 0, (1, (0, (0, 0))))), (91, (.bipush 36, (2, (0, (0, 0))))), (93, (.newarray .int, (2, (0, (0, 0))))), (95, (.putfield 43, (3, (11, (13, 2))))), (98, (.aload_n 0, (1, (0, (0, 0))))), (99, (.bipush 8, (2, (0, (0, 0))))), (101, (.newarray .int, (2, (0, (0, 0))))), (103, (.putfield 46, (3, (11, (14, 2))))), (106, (.aload_n 0, (1, (0, (0, 0))))), (107, (.bipush 6, (2, (0, (0, 0))))), (109, (.newarray .int, (2, (0, (0, 0))))), (111, (.putfield 49, (3, (11, (15, 2))))), (114, (.aload_n 0, (1, (0, (0, 0))))), (115, (.bipush 6, (2, (0, (0, 0))))), (117, (.newarray .int, (2, (0, (0, 0))))), (119, (.putfield 52, (3, (11, (16, 2))))), (122, (.aload_n 0, (1, (0, (0, 0))))), (123, (.iconst 4, (1, (0, (0, 0))))), (124, (.newarray .int, (2, (0, (0, 0))))), (126, (.putfield 55, (3, (11, (17, 2)))))],
  [(129, (.aload_n 0, (1, (0, (0, 0))))), (130, (.bipush 30, (2, (0, (0, 0))))), (132, (.newarray .int, (2, (0, (0, 0))))), (134, (.putfield 58, (3, (11, (18, 2))))), (137, (.aload_n 0, (1, (0, (0, 0))))), (138, (.iconst 0, (1, (0, (0, 0))))), (139, (.bipush 12, (2, (0, (0, 0))))), (141, (.iconst 0, (1, (0, (0, 0))))), (142, (.invokevirtual 61, (3, (140, (4, 0))))), (145, (.aload_n 0, (1, (0, (0, 0))))), (146, (.iconst 0, (1, (0, (0, 0))))), (147, (.iconst 0, (1, (0, (0, 0))))), (148, (.iconst 3, (1, (0, (0, 0))))), (149, (.invokevirtual 65, (3, (141, (4, 0))))), (152, (.pop, (1, (0, (0, 0))))), (153, (.aload_n 0, (1, (0, (0, 0))))), (154, (.iconst 0, (1, (0, (0, 0))))), (155, (.iconst 1, (1, (0, (0, 0))))), (156, (.iconst 4, (1, (0, (0, 0))))), (157, (.invokevirtual 65, (3, (141, (4, 0))))), (160, (.pop, (1, (0, (0, 0))))), (161, (.aload_n 0, (1, (0, (0, 0))))), (162, (.iconst 0, (1, (0, (0, 0))))), (163, (.bipush 9, (2, (0, (0, 0))))), (165, (.iconst 1, (1, (0, (0, 0))))), (166, (.invokevirtual 61, (3, (140, (4, 0))))), (169, (.aload_n 0, (1, (0, (0, 0))))), (170, (.iconst 1, (1, (0, (0, 0))))), (171, (.iconst 1, (1, (0, (0, 0))))), (172, (.iconst 2, (1, (0, (0, 0))))), (173, (.invokevirtual 65, (3, (141, (4, 0))))), (176, (.pop, (1, (0, (0, 0))))), (177, (.aload_n 0, (1, (0, (0, 0))))), (178, (.iconst 1, (1, (0, (0, 0))))), (179, (.iconst 0, (1, (0, (0, 0))))), (180, (.iconst 5, (1, (0, (0, 0))))), (181, (.invokevirtual 65, (3, (141, (4, 0))))), (184, (.pop, (1, (0, (0, 0))))), (185, (.aload_n 0, (1, (0, (0, 0))))), (186, (.iconst 0, (1, (0, (0, 0))))), (187, (.bipush 10, (2, (0, (0, 0))))), (189, (.iconst 2, (1, (0, (0, 0))))), (190, (.invokevirtual 61, (3, (140, (4, 0)))))],
  [(193, (.aload_n 0, (1, (0, (0, 0))))), (194, (.iconst 2, (1, (0, (0, 0))))), (195, (.iconst 0, (1, (0, (0, 0))))), (196, (.iconst 4, (1, (0, (0, 0))))), (197, (.invokevirtual 65, (3, (141, (4, 0))))), (200, (.pop, (1, (0, (0, 0))))), (201, (.aload_n 0, (1, (0, (0, 0))))), (202, (.iconst 2, (1, (0, (0, 0))))), (203, (.iconst 2, (1, (0, (0, 0))))), (204, (.iconst 1, (1, (0, (0, 0))))), (205, (.invokevirtual 65, (3, (141, (4, 0))))), (208, (.pop, (1, (0, (0, 0))))), (209, (.return_, (1, (0, (0, 0)))))]]
set_option maxRecDepth 100000 in
noncomputable def mc_X11_thrown : List (List mI) := [[(0, (.aload_n 0, (1, (0, (0, 0))))), (1, (.getfield 69, (3, (11, (3, 0))))), (4, (.ireturn, (1, (0, (0, 0)))))]]
set_option maxRecDepth 100000 in
noncomputable def mc_X11_in : List (List mI) := [[(0, (.iload_n 0, (1, (0, (0, 0))))), (1, (.iload_n 1, (1, (0, (0, 0))))), (2, (.if_icmp .lt 12, (3, (0, (0, 0))))), (5, (.iload_n 0, (1, (0, (0, 0))))), (6, (.iload_n 2, (1, (0, (0, 0))))), (7, (.if_icmp .gt 7, (3, (0, (0, 0))))), (10, (.iconst 1, (1, (0, (0, 0))))), (11, (.goto 4, (3, (0, (0, 0))))), (14, (.iconst 0, (1, (0, (0, 0))))), (15, (.ireturn, (1, (0, (0, 0)))))]]
set_option maxRecDepth 100000 in
noncomputable def mc_X11_fits : List (List mI) := [[(0, (.aload_n 0, (1, (0, (0, 0))))), (1, (.iload_n 1, (1, (0, (0, 0))))), (2, (.ifCond .ne 7, (3, (0, (0, 0))))), (5, (.iconst 1, (1, (0, (0, 0))))), (6, (.goto 20, (3, (0, (0, 0))))), (9, (.iload_n 2, (1, (0, (0, 0))))), (10, (.ifCond .ne 7, (3, (0, (0, 0))))), (13, (.iconst 2, (1, (0, (0, 0))))), (14, (.goto 12, (3, (0, (0, 0))))), (17, (.iload_n 3, (1, (0, (0, 0))))), (18, (.ifCond .ne 7, (3, (0, (0, 0))))), (21, (.iconst 3, (1, (0, (0, 0))))), (22, (.goto 4, (3, (0, (0, 0))))), (25, (.iconst 0, (1, (0, (0, 0))))), (26, (.putfield 69, (3, (11, (3, 0))))), (29, (.aload_n 0, (1, (0, (0, 0))))), (30, (.getfield 69, (3, (11, (3, 0))))), (33, (.ifCond .ne 7, (3, (0, (0, 0))))), (36, (.iconst 1, (1, (0, (0, 0))))), (37, (.goto 4, (3, (0, (0, 0))))), (40, (.iconst 0, (1, (0, (0, 0))))), (41, (.ireturn, (1, (0, (0, 0)))))]]
set_option maxRecDepth 100000 in
noncomputable def mc_X11_laysJob : List (List mI) := [[(0, (.bipush 61, (2, (0, (0, 0))))), (2, (.aload_n 0, (1, (0, (0, 0))))), (3, (.getfield 9, (3, (11, (0, 2))))), (6, (.iconst 0, (1, (0, (0, 0))))), (7, (.iaload, (1, (0, (0, 0))))), (8, (.bipush 15, (2, (0, (0, 0))))), (10, (.imul, (1, (0, (0, 0))))), (11, (.iadd, (1, (0, (0, 0))))), (12, (.istore 4, (2, (0, (0, 0))))), (14, (.aload_n 0, (1, (0, (0, 0))))), (15, (.getfield 9, (3, (11, (0, 2))))), (18, (.iload 4, (2, (0, (0, 0))))), (20, (.iconst 0, (1, (0, (0, 0))))), (21, (.iadd, (1, (0, (0, 0))))), (22, (.iload_n 1, (1, (0, (0, 0))))), (23, (.iastore, (1, (0, (0, 0))))), (24, (.aload_n 0, (1, (0, (0, 0))))), (25, (.getfield 9, (3, (11, (0, 2))))), (28, (.iload 4, (2, (0, (0, 0))))), (30, (.iconst 1, (1, (0, (0, 0))))), (31, (.iadd, (1, (0, (0, 0))))), (32, (.iload_n 2, (1, (0, (0, 0))))), (33, (.iastore, (1, (0, (0, 0))))), (34, (.aload_n 0, (1, (0, (0, 0))))), (35, (.getfield 9, (3, (11, (0, 2))))), (38, (.iload 4, (2, (0, (0, 0))))), (40, (.iconst 2, (1, (0, (0, 0))))), (41, (.iadd, (1, (0, (0, 0))))), (42, (.iconst 1, (1, (0, (0, 0))))), (43, (.iastore, (1, (0, (0, 0))))), (44, (.aload_n 0, (1, (0, (0, 0))))), (45, (.getfield 9, (3, (11, (0, 2))))), (48, (.iload 4, (2, (0, (0, 0))))), (50, (.iconst 3, (1, (0, (0, 0))))), (51, (.iadd, (1, (0, (0, 0))))), (52, (.iload_n 3, (1, (0, (0, 0))))), (53, (.iastore, (1, (0, (0, 0))))), (54, (.aload_n 0, (1, (0, (0, 0))))), (55, (.getfield 9, (3, (11, (0, 2))))), (58, (.iload 4, (2, (0, (0, 0))))), (60, (.iconst 4, (1, (0, (0, 0))))), (61, (.iadd, (1, (0, (0, 0))))), (62, (.iconst 0, (1, (0, (0, 0))))), (63, (.iastore, (1, (0, (0, 0)))))],
  [(64, (.aload_n 0, (1, (0, (0, 0))))), (65, (.getfield 9, (3, (11, (0, 2))))), (68, (.iconst 0, (1, (0, (0, 0))))), (69, (.dup2, (1, (0, (0, 0))))), (70, (.iaload, (1, (0, (0, 0))))), (71, (.iconst 1, (1, (0, (0, 0))))), (72, (.iadd, (1, (0, (0, 0))))), (73, (.iastore, (1, (0, (0, 0))))), (74, (.return_, (1, (0, (0, 0)))))]]
set_option maxRecDepth 100000 in
noncomputable def mc_X11_laysStep : List (List mI) := [[(0, (.aload_n 0, (1, (0, (0, 0))))), (1, (.iload_n 1, (1, (0, (0, 0))))), (2, (.iconst 4, (1, (0, (0, 0))))), (3, (.invokevirtual 73, (3, (142, (3, 0))))), (6, (.istore 4, (2, (0, (0, 0))))), (8, (.bipush 61, (2, (0, (0, 0))))), (10, (.iload_n 1, (1, (0, (0, 0))))), (11, (.bipush 15, (2, (0, (0, 0))))), (13, (.imul, (1, (0, (0, 0))))), (14, (.iadd, (1, (0, (0, 0))))), (15, (.istore 5, (2, (0, (0, 0))))), (17, (.aload_n 0, (1, (0, (0, 0))))), (18, (.getfield 9, (3, (11, (0, 2))))), (21, (.iload 5, (2, (0, (0, 0))))), (23, (.iconst 5, (1, (0, (0, 0))))), (24, (.iadd, (1, (0, (0, 0))))), (25, (.iconst 2, (1, (0, (0, 0))))), (26, (.iload 4, (2, (0, (0, 0))))), (28, (.imul, (1, (0, (0, 0))))), (29, (.iadd, (1, (0, (0, 0))))), (30, (.iload_n 2, (1, (0, (0, 0))))), (31, (.iastore, (1, (0, (0, 0))))), (32, (.aload_n 0, (1, (0, (0, 0))))), (33, (.getfield 9, (3, (11, (0, 2))))), (36, (.iload 5, (2, (0, (0, 0))))), (38, (.iconst 5, (1, (0, (0, 0))))), (39, (.iadd, (1, (0, (0, 0))))), (40, (.iconst 2, (1, (0, (0, 0))))), (41, (.iload 4, (2, (0, (0, 0))))), (43, (.imul, (1, (0, (0, 0))))), (44, (.iadd, (1, (0, (0, 0))))), (45, (.iconst 1, (1, (0, (0, 0))))), (46, (.iadd, (1, (0, (0, 0))))), (47, (.iload_n 3, (1, (0, (0, 0))))), (48, (.iastore, (1, (0, (0, 0))))), (49, (.aload_n 0, (1, (0, (0, 0))))), (50, (.getfield 9, (3, (11, (0, 2))))), (53, (.iload 5, (2, (0, (0, 0))))), (55, (.iconst 4, (1, (0, (0, 0))))), (56, (.iadd, (1, (0, (0, 0))))), (57, (.dup2, (1, (0, (0, 0))))), (58, (.iaload, (1, (0, (0, 0))))), (59, (.iconst 1, (1, (0, (0, 0))))), (60, (.iadd, (1, (0, (0, 0))))), (61, (.iastore, (1, (0, (0, 0))))), (62, (.iload 4, (2, (0, (0, 0)))))],
  [(64, (.ireturn, (1, (0, (0, 0)))))]]
set_option maxRecDepth 100000 in
noncomputable def mc_X11_of : List (List mI) := [[(0, (.aload_n 0, (1, (0, (0, 0))))), (1, (.getfield 9, (3, (11, (0, 2))))), (4, (.bipush 61, (2, (0, (0, 0))))), (6, (.iload_n 1, (1, (0, (0, 0))))), (7, (.bipush 15, (2, (0, (0, 0))))), (9, (.imul, (1, (0, (0, 0))))), (10, (.iadd, (1, (0, (0, 0))))), (11, (.iload_n 2, (1, (0, (0, 0))))), (12, (.iadd, (1, (0, (0, 0))))), (13, (.iaload, (1, (0, (0, 0))))), (14, (.ireturn, (1, (0, (0, 0)))))]]
set_option maxRecDepth 100000 in
noncomputable def mc_X11_machineOf : List (List mI) := [[(0, (.aload_n 0, (1, (0, (0, 0))))), (1, (.iload_n 1, (1, (0, (0, 0))))), (2, (.iconst 5, (1, (0, (0, 0))))), (3, (.iconst 2, (1, (0, (0, 0))))), (4, (.iload_n 2, (1, (0, (0, 0))))), (5, (.imul, (1, (0, (0, 0))))), (6, (.iadd, (1, (0, (0, 0))))), (7, (.invokevirtual 73, (3, (142, (3, 0))))), (10, (.ireturn, (1, (0, (0, 0)))))]]
set_option maxRecDepth 100000 in
noncomputable def mc_X11_hoursOf : List (List mI) := [[(0, (.aload_n 0, (1, (0, (0, 0))))), (1, (.iload_n 1, (1, (0, (0, 0))))), (2, (.iconst 5, (1, (0, (0, 0))))), (3, (.iconst 2, (1, (0, (0, 0))))), (4, (.iload_n 2, (1, (0, (0, 0))))), (5, (.imul, (1, (0, (0, 0))))), (6, (.iadd, (1, (0, (0, 0))))), (7, (.iconst 1, (1, (0, (0, 0))))), (8, (.iadd, (1, (0, (0, 0))))), (9, (.invokevirtual 73, (3, (142, (3, 0))))), (12, (.ireturn, (1, (0, (0, 0)))))]]
set_option maxRecDepth 100000 in
noncomputable def mc_X11_left : List (List mI) := [[(0, (.iconst 0, (1, (0, (0, 0))))), (1, (.istore_n 3, (1, (0, (0, 0))))), (2, (.iload_n 2, (1, (0, (0, 0))))), (3, (.istore 4, (2, (0, (0, 0))))), (5, (.iload 4, (2, (0, (0, 0))))), (7, (.aload_n 0, (1, (0, (0, 0))))), (8, (.iload_n 1, (1, (0, (0, 0))))), (9, (.iconst 4, (1, (0, (0, 0))))), (10, (.invokevirtual 73, (3, (142, (3, 0))))), (13, (.if_icmp .ge 19, (3, (0, (0, 0))))), (16, (.iload_n 3, (1, (0, (0, 0))))), (17, (.aload_n 0, (1, (0, (0, 0))))), (18, (.iload_n 1, (1, (0, (0, 0))))), (19, (.iload 4, (2, (0, (0, 0))))), (21, (.invokevirtual 77, (3, (144, (3, 0))))), (24, (.iadd, (1, (0, (0, 0))))), (25, (.istore_n 3, (1, (0, (0, 0))))), (26, (.iinc 4 1, (3, (0, (0, 0))))), (29, (.goto (-24), (3, (0, (0, 0))))), (32, (.iload_n 3, (1, (0, (0, 0))))), (33, (.ireturn, (1, (0, (0, 0)))))]]
set_option maxRecDepth 100000 in
noncomputable def mc_X11_length : List (List mI) := [[(0, (.aload_n 0, (1, (0, (0, 0))))), (1, (.iload_n 1, (1, (0, (0, 0))))), (2, (.iconst 0, (1, (0, (0, 0))))), (3, (.invokevirtual 80, (3, (145, (3, 0))))), (6, (.ireturn, (1, (0, (0, 0)))))]]
set_option maxRecDepth 100000 in
noncomputable def mc_X11_allSteps : List (List mI) := [[(0, (.iconst 0, (1, (0, (0, 0))))), (1, (.istore_n 1, (1, (0, (0, 0))))), (2, (.iconst 0, (1, (0, (0, 0))))), (3, (.istore_n 2, (1, (0, (0, 0))))), (4, (.iload_n 2, (1, (0, (0, 0))))), (5, (.aload_n 0, (1, (0, (0, 0))))), (6, (.getfield 9, (3, (11, (0, 2))))), (9, (.iconst 0, (1, (0, (0, 0))))), (10, (.iaload, (1, (0, (0, 0))))), (11, (.if_icmp .ge 18, (3, (0, (0, 0))))), (14, (.iload_n 1, (1, (0, (0, 0))))), (15, (.aload_n 0, (1, (0, (0, 0))))), (16, (.iload_n 2, (1, (0, (0, 0))))), (17, (.iconst 4, (1, (0, (0, 0))))), (18, (.invokevirtual 73, (3, (142, (3, 0))))), (21, (.iadd, (1, (0, (0, 0))))), (22, (.istore_n 1, (1, (0, (0, 0))))), (23, (.iinc 2 1, (3, (0, (0, 0))))), (26, (.goto (-22), (3, (0, (0, 0))))), (29, (.iload_n 1, (1, (0, (0, 0))))), (30, (.ireturn, (1, (0, (0, 0)))))]]
set_option maxRecDepth 100000 in
noncomputable def mc_X11_isJob : List (List mI) := [[(0, (.iload_n 1, (1, (0, (0, 0))))), (1, (.iconst 0, (1, (0, (0, 0))))), (2, (.aload_n 0, (1, (0, (0, 0))))), (3, (.getfield 9, (3, (11, (0, 2))))), (6, (.iconst 0, (1, (0, (0, 0))))), (7, (.iaload, (1, (0, (0, 0))))), (8, (.iconst 1, (1, (0, (0, 0))))), (9, (.isub, (1, (0, (0, 0))))), (10, (.invokestatic 83, (3, (138, (3, 1))))), (13, (.ireturn, (1, (0, (0, 0)))))]]
set_option maxRecDepth 100000 in
noncomputable def mc_X11_isStep : List (List mI) := [[(0, (.aload_n 0, (1, (0, (0, 0))))), (1, (.iload_n 1, (1, (0, (0, 0))))), (2, (.invokevirtual 87, (3, (148, (2, 0))))), (5, (.ifCond .eq 23, (3, (0, (0, 0))))), (8, (.iload_n 2, (1, (0, (0, 0))))), (9, (.iconst 0, (1, (0, (0, 0))))), (10, (.aload_n 0, (1, (0, (0, 0))))), (11, (.iload_n 1, (1, (0, (0, 0))))), (12, (.iconst 4, (1, (0, (0, 0))))), (13, (.invokevirtual 73, (3, (142, (3, 0))))), (16, (.iconst 1, (1, (0, (0, 0))))), (17, (.isub, (1, (0, (0, 0))))), (18, (.invokestatic 83, (3, (138, (3, 1))))), (21, (.ifCond .eq 7, (3, (0, (0, 0))))), (24, (.iconst 1, (1, (0, (0, 0))))), (25, (.goto 4, (3, (0, (0, 0))))), (28, (.iconst 0, (1, (0, (0, 0))))), (29, (.ireturn, (1, (0, (0, 0)))))]]
set_option maxRecDepth 100000 in
noncomputable def mc_X11_hasPlan : List (List mI) := [[(0, (.aload_n 0, (1, (0, (0, 0))))), (1, (.getfield 9, (3, (11, (0, 2))))), (4, (.sipush 151, (3, (0, (0, 0))))), (7, (.iaload, (1, (0, (0, 0))))), (8, (.iconst 1, (1, (0, (0, 0))))), (9, (.if_icmp .ne 7, (3, (0, (0, 0))))), (12, (.iconst 1, (1, (0, (0, 0))))), (13, (.goto 4, (3, (0, (0, 0))))), (16, (.iconst 0, (1, (0, (0, 0))))), (17, (.ireturn, (1, (0, (0, 0)))))]]
set_option maxRecDepth 100000 in
noncomputable def mc_X11_startsPlan : List (List mI) := [[(0, (.iconst 0, (1, (0, (0, 0))))), (1, (.istore_n 1, (1, (0, (0, 0))))), (2, (.iload_n 1, (1, (0, (0, 0))))), (3, (.bipush 6, (2, (0, (0, 0))))), (5, (.if_icmp .ge 42, (3, (0, (0, 0))))), (8, (.aload_n 0, (1, (0, (0, 0))))), (9, (.getfield 19, (3, (11, (5, 2))))), (12, (.iload_n 1, (1, (0, (0, 0))))), (13, (.iconst 0, (1, (0, (0, 0))))), (14, (.iastore, (1, (0, (0, 0))))), (15, (.aload_n 0, (1, (0, (0, 0))))), (16, (.getfield 22, (3, (11, (6, 2))))), (19, (.iload_n 1, (1, (0, (0, 0))))), (20, (.iload_n 1, (1, (0, (0, 0))))), (21, (.aload_n 0, (1, (0, (0, 0))))), (22, (.getfield 9, (3, (11, (0, 2))))), (25, (.iconst 0, (1, (0, (0, 0))))), (26, (.iaload, (1, (0, (0, 0))))), (27, (.if_icmp .ge 12, (3, (0, (0, 0))))), (30, (.aload_n 0, (1, (0, (0, 0))))), (31, (.iload_n 1, (1, (0, (0, 0))))), (32, (.iconst 0, (1, (0, (0, 0))))), (33, (.invokevirtual 73, (3, (142, (3, 0))))), (36, (.goto 4, (3, (0, (0, 0))))), (39, (.iconst 0, (1, (0, (0, 0))))), (40, (.iastore, (1, (0, (0, 0))))), (41, (.iinc 1 1, (3, (0, (0, 0))))), (44, (.goto (-42), (3, (0, (0, 0))))), (47, (.iconst 0, (1, (0, (0, 0))))), (48, (.istore_n 1, (1, (0, (0, 0))))), (49, (.iload_n 1, (1, (0, (0, 0))))), (50, (.iconst 4, (1, (0, (0, 0))))), (51, (.if_icmp .ge 37, (3, (0, (0, 0))))), (54, (.aload_n 0, (1, (0, (0, 0))))), (55, (.getfield 25, (3, (11, (7, 2))))), (58, (.iload_n 1, (1, (0, (0, 0))))), (59, (.iconst (-1), (1, (0, (0, 0))))), (60, (.iastore, (1, (0, (0, 0))))), (61, (.aload_n 0, (1, (0, (0, 0))))), (62, (.getfield 28, (3, (11, (8, 2)))))],
  [(65, (.iload_n 1, (1, (0, (0, 0))))), (66, (.iconst 0, (1, (0, (0, 0))))), (67, (.iastore, (1, (0, (0, 0))))), (68, (.aload_n 0, (1, (0, (0, 0))))), (69, (.getfield 31, (3, (11, (9, 2))))), (72, (.iload_n 1, (1, (0, (0, 0))))), (73, (.iconst 0, (1, (0, (0, 0))))), (74, (.iastore, (1, (0, (0, 0))))), (75, (.aload_n 0, (1, (0, (0, 0))))), (76, (.getfield 34, (3, (11, (10, 2))))), (79, (.iload_n 1, (1, (0, (0, 0))))), (80, (.iconst 0, (1, (0, (0, 0))))), (81, (.iastore, (1, (0, (0, 0))))), (82, (.iinc 1 1, (3, (0, (0, 0))))), (85, (.goto (-36), (3, (0, (0, 0))))), (88, (.return_, (1, (0, (0, 0)))))]]
set_option maxRecDepth 100000 in
noncomputable def mc_X11_open : List (List mI) := [[(0, (.iload_n 2, (1, (0, (0, 0))))), (1, (.istore 4, (2, (0, (0, 0))))), (3, (.iconst 1, (1, (0, (0, 0))))), (4, (.istore 5, (2, (0, (0, 0))))), (6, (.iload 5, (2, (0, (0, 0))))), (8, (.ifCond .eq 94, (3, (0, (0, 0))))), (11, (.iconst 0, (1, (0, (0, 0))))), (12, (.istore 5, (2, (0, (0, 0))))), (14, (.iconst 0, (1, (0, (0, 0))))), (15, (.istore 6, (2, (0, (0, 0))))), (17, (.iload 6, (2, (0, (0, 0))))), (19, (.aload_n 0, (1, (0, (0, 0))))), (20, (.getfield 9, (3, (11, (0, 2))))), (23, (.iconst 1, (1, (0, (0, 0))))), (24, (.iload_n 1, (1, (0, (0, 0))))), (25, (.bipush 11, (2, (0, (0, 0))))), (27, (.imul, (1, (0, (0, 0))))), (28, (.iadd, (1, (0, (0, 0))))), (29, (.iaload, (1, (0, (0, 0))))), (30, (.if_icmp .ge 69, (3, (0, (0, 0))))), (33, (.iconst 1, (1, (0, (0, 0))))), (34, (.iload_n 1, (1, (0, (0, 0))))), (35, (.bipush 11, (2, (0, (0, 0))))), (37, (.imul, (1, (0, (0, 0))))), (38, (.iadd, (1, (0, (0, 0))))), (39, (.iconst 1, (1, (0, (0, 0))))), (40, (.iadd, (1, (0, (0, 0))))), (41, (.iconst 2, (1, (0, (0, 0))))), (42, (.iload 6, (2, (0, (0, 0))))), (44, (.imul, (1, (0, (0, 0))))), (45, (.iadd, (1, (0, (0, 0))))), (46, (.istore 7, (2, (0, (0, 0))))), (48, (.iload 4, (2, (0, (0, 0))))), (50, (.aload_n 0, (1, (0, (0, 0))))), (51, (.getfield 9, (3, (11, (0, 2))))), (54, (.iload 7, (2, (0, (0, 0))))), (56, (.iconst 1, (1, (0, (0, 0))))), (57, (.iadd, (1, (0, (0, 0))))), (58, (.iaload, (1, (0, (0, 0))))), (59, (.if_icmp .ge 34, (3, (0, (0, 0))))), (62, (.iload 4, (2, (0, (0, 0)))))],
  [(64, (.iload_n 3, (1, (0, (0, 0))))), (65, (.iadd, (1, (0, (0, 0))))), (66, (.aload_n 0, (1, (0, (0, 0))))), (67, (.getfield 9, (3, (11, (0, 2))))), (70, (.iload 7, (2, (0, (0, 0))))), (72, (.iaload, (1, (0, (0, 0))))), (73, (.if_icmp .gt 6, (3, (0, (0, 0))))), (76, (.goto 17, (3, (0, (0, 0))))), (79, (.aload_n 0, (1, (0, (0, 0))))), (80, (.getfield 9, (3, (11, (0, 2))))), (83, (.iload 7, (2, (0, (0, 0))))), (85, (.iconst 1, (1, (0, (0, 0))))), (86, (.iadd, (1, (0, (0, 0))))), (87, (.iaload, (1, (0, (0, 0))))), (88, (.istore 4, (2, (0, (0, 0))))), (90, (.iconst 1, (1, (0, (0, 0))))), (91, (.istore 5, (2, (0, (0, 0))))), (93, (.iinc 6 1, (3, (0, (0, 0))))), (96, (.goto (-79), (3, (0, (0, 0))))), (99, (.goto (-93), (3, (0, (0, 0))))), (102, (.iload 4, (2, (0, (0, 0))))), (104, (.ireturn, (1, (0, (0, 0)))))]]
set_option maxRecDepth 100000 in
noncomputable def mc_X11_isChanged : List (List mI) := [[(0, (.aload_n 0, (1, (0, (0, 0))))), (1, (.getfield 9, (3, (11, (0, 2))))), (4, (.iconst 1, (1, (0, (0, 0))))), (5, (.iload_n 1, (1, (0, (0, 0))))), (6, (.bipush 11, (2, (0, (0, 0))))), (8, (.imul, (1, (0, (0, 0))))), (9, (.iadd, (1, (0, (0, 0))))), (10, (.bipush 9, (2, (0, (0, 0))))), (12, (.iadd, (1, (0, (0, 0))))), (13, (.iaload, (1, (0, (0, 0))))), (14, (.istore_n 3, (1, (0, (0, 0))))), (15, (.aload_n 0, (1, (0, (0, 0))))), (16, (.getfield 25, (3, (11, (7, 2))))), (19, (.iload_n 1, (1, (0, (0, 0))))), (20, (.iaload, (1, (0, (0, 0))))), (21, (.iconst (-1), (1, (0, (0, 0))))), (22, (.if_icmp .eq 23, (3, (0, (0, 0))))), (25, (.iload_n 3, (1, (0, (0, 0))))), (26, (.ifCond .le 19, (3, (0, (0, 0))))), (29, (.aload_n 0, (1, (0, (0, 0))))), (30, (.getfield 31, (3, (11, (9, 2))))), (33, (.iload_n 1, (1, (0, (0, 0))))), (34, (.iaload, (1, (0, (0, 0))))), (35, (.iload_n 2, (1, (0, (0, 0))))), (36, (.iadd, (1, (0, (0, 0))))), (37, (.iload_n 3, (1, (0, (0, 0))))), (38, (.if_icmp .le 7, (3, (0, (0, 0))))), (41, (.iconst 1, (1, (0, (0, 0))))), (42, (.goto 4, (3, (0, (0, 0))))), (45, (.iconst 0, (1, (0, (0, 0))))), (46, (.ireturn, (1, (0, (0, 0)))))]]
set_option maxRecDepth 100000 in
noncomputable def mc_X11_between : List (List mI) := [[(0, (.aload_n 0, (1, (0, (0, 0))))), (1, (.getfield 25, (3, (11, (7, 2))))), (4, (.iload_n 1, (1, (0, (0, 0))))), (5, (.iaload, (1, (0, (0, 0))))), (6, (.iconst (-1), (1, (0, (0, 0))))), (7, (.if_icmp .ne 5, (3, (0, (0, 0))))), (10, (.iconst 0, (1, (0, (0, 0))))), (11, (.ireturn, (1, (0, (0, 0))))), (12, (.aload_n 0, (1, (0, (0, 0))))), (13, (.getfield 9, (3, (11, (0, 2))))), (16, (.bipush 45, (2, (0, (0, 0))))), (18, (.iconst 4, (1, (0, (0, 0))))), (19, (.aload_n 0, (1, (0, (0, 0))))), (20, (.aload_n 0, (1, (0, (0, 0))))), (21, (.getfield 25, (3, (11, (7, 2))))), (24, (.iload_n 1, (1, (0, (0, 0))))), (25, (.iaload, (1, (0, (0, 0))))), (26, (.bipush 10, (2, (0, (0, 0))))), (28, (.idiv, (1, (0, (0, 0))))), (29, (.iconst 3, (1, (0, (0, 0))))), (30, (.invokevirtual 73, (3, (142, (3, 0))))), (33, (.imul, (1, (0, (0, 0))))), (34, (.iadd, (1, (0, (0, 0))))), (35, (.aload_n 0, (1, (0, (0, 0))))), (36, (.iload_n 2, (1, (0, (0, 0))))), (37, (.iconst 3, (1, (0, (0, 0))))), (38, (.invokevirtual 73, (3, (142, (3, 0))))), (41, (.iadd, (1, (0, (0, 0))))), (42, (.iaload, (1, (0, (0, 0))))), (43, (.aload_n 0, (1, (0, (0, 0))))), (44, (.iload_n 1, (1, (0, (0, 0))))), (45, (.iload_n 3, (1, (0, (0, 0))))), (46, (.invokevirtual 91, (3, (153, (3, 0))))), (49, (.ifCond .eq 20, (3, (0, (0, 0))))), (52, (.aload_n 0, (1, (0, (0, 0))))), (53, (.getfield 9, (3, (11, (0, 2))))), (56, (.iconst 1, (1, (0, (0, 0))))), (57, (.iload_n 1, (1, (0, (0, 0))))), (58, (.bipush 11, (2, (0, (0, 0))))), (60, (.imul, (1, (0, (0, 0))))), (61, (.iadd, (1, (0, (0, 0))))), (62, (.bipush 10, (2, (0, (0, 0)))))],
  [(64, (.iadd, (1, (0, (0, 0))))), (65, (.iaload, (1, (0, (0, 0))))), (66, (.goto 4, (3, (0, (0, 0))))), (69, (.iconst 0, (1, (0, (0, 0))))), (70, (.iadd, (1, (0, (0, 0))))), (71, (.ireturn, (1, (0, (0, 0)))))]]
set_option maxRecDepth 100000 in
noncomputable def mc_X11_beginOf : List (List mI) := [[(0, (.aload_n 0, (1, (0, (0, 0))))), (1, (.iload_n 1, (1, (0, (0, 0))))), (2, (.aload_n 0, (1, (0, (0, 0))))), (3, (.getfield 19, (3, (11, (5, 2))))), (6, (.iload_n 1, (1, (0, (0, 0))))), (7, (.iaload, (1, (0, (0, 0))))), (8, (.invokevirtual 95, (3, (143, (3, 0))))), (11, (.istore_n 2, (1, (0, (0, 0))))), (12, (.aload_n 0, (1, (0, (0, 0))))), (13, (.iload_n 1, (1, (0, (0, 0))))), (14, (.aload_n 0, (1, (0, (0, 0))))), (15, (.getfield 19, (3, (11, (5, 2))))), (18, (.iload_n 1, (1, (0, (0, 0))))), (19, (.iaload, (1, (0, (0, 0))))), (20, (.invokevirtual 77, (3, (144, (3, 0))))), (23, (.istore_n 3, (1, (0, (0, 0))))), (24, (.aload_n 0, (1, (0, (0, 0))))), (25, (.iload_n 2, (1, (0, (0, 0))))), (26, (.aload_n 0, (1, (0, (0, 0))))), (27, (.getfield 22, (3, (11, (6, 2))))), (30, (.iload_n 1, (1, (0, (0, 0))))), (31, (.iaload, (1, (0, (0, 0))))), (32, (.aload_n 0, (1, (0, (0, 0))))), (33, (.getfield 28, (3, (11, (8, 2))))), (36, (.iload_n 2, (1, (0, (0, 0))))), (37, (.iaload, (1, (0, (0, 0))))), (38, (.aload_n 0, (1, (0, (0, 0))))), (39, (.iload_n 2, (1, (0, (0, 0))))), (40, (.iload_n 1, (1, (0, (0, 0))))), (41, (.iload_n 3, (1, (0, (0, 0))))), (42, (.invokevirtual 98, (3, (154, (4, 0))))), (45, (.iadd, (1, (0, (0, 0))))), (46, (.invokestatic 101, (3, (0, (2, 5))))), (49, (.iload_n 3, (1, (0, (0, 0))))), (50, (.invokevirtual 106, (3, (152, (4, 0))))), (53, (.ireturn, (1, (0, (0, 0)))))]]
set_option maxRecDepth 100000 in
noncomputable def mc_X11_does : List (List mI) := [[(0, (.aload_n 0, (1, (0, (0, 0))))), (1, (.getfield 19, (3, (11, (5, 2))))), (4, (.iload_n 1, (1, (0, (0, 0))))), (5, (.iaload, (1, (0, (0, 0))))), (6, (.istore_n 3, (1, (0, (0, 0))))), (7, (.aload_n 0, (1, (0, (0, 0))))), (8, (.iload_n 1, (1, (0, (0, 0))))), (9, (.iload_n 3, (1, (0, (0, 0))))), (10, (.invokevirtual 95, (3, (143, (3, 0))))), (13, (.istore 4, (2, (0, (0, 0))))), (15, (.aload_n 0, (1, (0, (0, 0))))), (16, (.iload_n 1, (1, (0, (0, 0))))), (17, (.iload_n 3, (1, (0, (0, 0))))), (18, (.invokevirtual 77, (3, (144, (3, 0))))), (21, (.istore 5, (2, (0, (0, 0))))), (23, (.aload_n 0, (1, (0, (0, 0))))), (24, (.getfield 31, (3, (11, (9, 2))))), (27, (.iload 4, (2, (0, (0, 0))))), (29, (.aload_n 0, (1, (0, (0, 0))))), (30, (.iload 4, (2, (0, (0, 0))))), (32, (.iload 5, (2, (0, (0, 0))))), (34, (.invokevirtual 91, (3, (153, (3, 0))))), (37, (.ifCond .eq 8, (3, (0, (0, 0))))), (40, (.iload 5, (2, (0, (0, 0))))), (42, (.goto 13, (3, (0, (0, 0))))), (45, (.aload_n 0, (1, (0, (0, 0))))), (46, (.getfield 31, (3, (11, (9, 2))))), (49, (.iload 4, (2, (0, (0, 0))))), (51, (.iaload, (1, (0, (0, 0))))), (52, (.iload 5, (2, (0, (0, 0))))), (54, (.iadd, (1, (0, (0, 0))))), (55, (.iastore, (1, (0, (0, 0))))), (56, (.aload_n 0, (1, (0, (0, 0))))), (57, (.getfield 16, (3, (11, (4, 2))))), (60, (.iload_n 1, (1, (0, (0, 0))))), (61, (.iconst 5, (1, (0, (0, 0))))), (62, (.imul, (1, (0, (0, 0))))), (63, (.iload_n 3, (1, (0, (0, 0)))))],
  [(64, (.iadd, (1, (0, (0, 0))))), (65, (.iload_n 2, (1, (0, (0, 0))))), (66, (.iastore, (1, (0, (0, 0))))), (67, (.aload_n 0, (1, (0, (0, 0))))), (68, (.getfield 25, (3, (11, (7, 2))))), (71, (.iload 4, (2, (0, (0, 0))))), (73, (.bipush 10, (2, (0, (0, 0))))), (75, (.iload_n 1, (1, (0, (0, 0))))), (76, (.imul, (1, (0, (0, 0))))), (77, (.iload_n 3, (1, (0, (0, 0))))), (78, (.iadd, (1, (0, (0, 0))))), (79, (.iastore, (1, (0, (0, 0))))), (80, (.aload_n 0, (1, (0, (0, 0))))), (81, (.getfield 28, (3, (11, (8, 2))))), (84, (.iload 4, (2, (0, (0, 0))))), (86, (.iload_n 2, (1, (0, (0, 0))))), (87, (.iload 5, (2, (0, (0, 0))))), (89, (.iadd, (1, (0, (0, 0))))), (90, (.iastore, (1, (0, (0, 0))))), (91, (.aload_n 0, (1, (0, (0, 0))))), (92, (.getfield 22, (3, (11, (6, 2))))), (95, (.iload_n 1, (1, (0, (0, 0))))), (96, (.iload_n 2, (1, (0, (0, 0))))), (97, (.iload 5, (2, (0, (0, 0))))), (99, (.iadd, (1, (0, (0, 0))))), (100, (.iastore, (1, (0, (0, 0))))), (101, (.aload_n 0, (1, (0, (0, 0))))), (102, (.getfield 19, (3, (11, (5, 2))))), (105, (.iload_n 1, (1, (0, (0, 0))))), (106, (.dup2, (1, (0, (0, 0))))), (107, (.iaload, (1, (0, (0, 0))))), (108, (.iconst 1, (1, (0, (0, 0))))), (109, (.iadd, (1, (0, (0, 0))))), (110, (.iastore, (1, (0, (0, 0))))), (111, (.aload_n 0, (1, (0, (0, 0))))), (112, (.getfield 34, (3, (11, (10, 2))))), (115, (.iload 4, (2, (0, (0, 0))))), (117, (.dup2, (1, (0, (0, 0))))), (118, (.iaload, (1, (0, (0, 0))))), (119, (.iconst 1, (1, (0, (0, 0))))), (120, (.iadd, (1, (0, (0, 0))))), (121, (.iastore, (1, (0, (0, 0))))), (122, (.return_, (1, (0, (0, 0)))))]]
set_option maxRecDepth 100000 in
noncomputable def mc_X11_worksOut : List (List mI) := [[(0, (.aload_n 0, (1, (0, (0, 0))))), (1, (.invokevirtual 109, (3, (151, (1, 0))))), (4, (.iconst 1, (1, (0, (0, 0))))), (5, (.istore 5, (2, (0, (0, 0))))), (7, (.iconst 0, (1, (0, (0, 0))))), (8, (.istore 6, (2, (0, (0, 0))))), (10, (.iload 5, (2, (0, (0, 0))))), (12, (.ifCond .eq 149, (3, (0, (0, 0))))), (15, (.iconst 0, (1, (0, (0, 0))))), (16, (.istore 5, (2, (0, (0, 0))))), (18, (.iconst 0, (1, (0, (0, 0))))), (19, (.istore 7, (2, (0, (0, 0))))), (21, (.iload 7, (2, (0, (0, 0))))), (23, (.iconst 4, (1, (0, (0, 0))))), (24, (.if_icmp .ge 134, (3, (0, (0, 0))))), (27, (.iload_n 2, (1, (0, (0, 0))))), (28, (.iload 7, (2, (0, (0, 0))))), (30, (.bipush 31, (2, (0, (0, 0))))), (32, (.imul, (1, (0, (0, 0))))), (33, (.iadd, (1, (0, (0, 0))))), (34, (.istore 8, (2, (0, (0, 0))))), (36, (.aload_n 0, (1, (0, (0, 0))))), (37, (.getfield 34, (3, (11, (10, 2))))), (40, (.iload 7, (2, (0, (0, 0))))), (42, (.iaload, (1, (0, (0, 0))))), (43, (.aload_n 1, (1, (0, (0, 0))))), (44, (.iload 8, (2, (0, (0, 0))))), (46, (.iaload, (1, (0, (0, 0))))), (47, (.if_icmp .ne 6, (3, (0, (0, 0))))), (50, (.goto 102, (3, (0, (0, 0))))), (53, (.aload_n 1, (1, (0, (0, 0))))), (54, (.iload 8, (2, (0, (0, 0))))), (56, (.iconst 1, (1, (0, (0, 0))))), (57, (.iadd, (1, (0, (0, 0))))), (58, (.aload_n 0, (1, (0, (0, 0))))), (59, (.getfield 34, (3, (11, (10, 2))))), (62, (.iload 7, (2, (0, (0, 0)))))],
  [(64, (.iaload, (1, (0, (0, 0))))), (65, (.iadd, (1, (0, (0, 0))))), (66, (.iaload, (1, (0, (0, 0))))), (67, (.istore 9, (2, (0, (0, 0))))), (69, (.aload_n 0, (1, (0, (0, 0))))), (70, (.getfield 19, (3, (11, (5, 2))))), (73, (.iload 9, (2, (0, (0, 0))))), (75, (.bipush 10, (2, (0, (0, 0))))), (77, (.idiv, (1, (0, (0, 0))))), (78, (.iaload, (1, (0, (0, 0))))), (79, (.iload 9, (2, (0, (0, 0))))), (81, (.bipush 10, (2, (0, (0, 0))))), (83, (.irem, (1, (0, (0, 0))))), (84, (.if_icmp .eq 6, (3, (0, (0, 0))))), (87, (.goto 65, (3, (0, (0, 0))))), (90, (.aload_n 0, (1, (0, (0, 0))))), (91, (.iload 9, (2, (0, (0, 0))))), (93, (.bipush 10, (2, (0, (0, 0))))), (95, (.idiv, (1, (0, (0, 0))))), (96, (.invokevirtual 112, (3, (155, (2, 0))))), (99, (.istore 10, (2, (0, (0, 0))))), (101, (.aload_n 0, (1, (0, (0, 0))))), (102, (.iload 9, (2, (0, (0, 0))))), (104, (.bipush 10, (2, (0, (0, 0))))), (106, (.idiv, (1, (0, (0, 0))))), (107, (.iload 9, (2, (0, (0, 0))))), (109, (.iload_n 3, (1, (0, (0, 0))))), (110, (.if_icmp .ne 31, (3, (0, (0, 0))))), (113, (.aload_n 0, (1, (0, (0, 0))))), (114, (.iload 7, (2, (0, (0, 0))))), (116, (.iload 10, (2, (0, (0, 0))))), (118, (.iload 4, (2, (0, (0, 0))))), (120, (.iadd, (1, (0, (0, 0))))), (121, (.aload_n 0, (1, (0, (0, 0))))), (122, (.iload 9, (2, (0, (0, 0))))), (124, (.bipush 10, (2, (0, (0, 0))))), (126, (.idiv, (1, (0, (0, 0))))), (127, (.iload 9, (2, (0, (0, 0)))))],
  [(129, (.bipush 10, (2, (0, (0, 0))))), (131, (.irem, (1, (0, (0, 0))))), (132, (.invokevirtual 77, (3, (144, (3, 0))))), (135, (.invokevirtual 106, (3, (152, (4, 0))))), (138, (.goto 5, (3, (0, (0, 0))))), (141, (.iload 10, (2, (0, (0, 0))))), (143, (.invokevirtual 116, (3, (156, (3, 0))))), (146, (.iconst 1, (1, (0, (0, 0))))), (147, (.istore 5, (2, (0, (0, 0))))), (149, (.iinc 6 1, (3, (0, (0, 0))))), (152, (.iinc 7 1, (3, (0, (0, 0))))), (155, (.goto (-134), (3, (0, (0, 0))))), (158, (.goto (-148), (3, (0, (0, 0))))), (161, (.iload 6, (2, (0, (0, 0))))), (163, (.aload_n 0, (1, (0, (0, 0))))), (164, (.invokevirtual 120, (3, (147, (1, 0))))), (167, (.if_icmp .ne 7, (3, (0, (0, 0))))), (170, (.iconst 1, (1, (0, (0, 0))))), (171, (.goto 4, (3, (0, (0, 0))))), (174, (.iconst 0, (1, (0, (0, 0))))), (175, (.ireturn, (1, (0, (0, 0)))))]]
set_option maxRecDepth 100000 in
noncomputable def mc_X11_works : List (List mI) := [[(0, (.aload_n 0, (1, (0, (0, 0))))), (1, (.aload_n 0, (1, (0, (0, 0))))), (2, (.getfield 9, (3, (11, (0, 2))))), (5, (.sipush 152, (3, (0, (0, 0))))), (8, (.iconst (-1), (1, (0, (0, 0))))), (9, (.iconst 0, (1, (0, (0, 0))))), (10, (.invokevirtual 124, (3, (157, (5, 0))))), (13, (.ireturn, (1, (0, (0, 0)))))]]
set_option maxRecDepth 100000 in
noncomputable def mc_X11_planEnd : List (List mI) := [[(0, (.iconst 0, (1, (0, (0, 0))))), (1, (.istore_n 1, (1, (0, (0, 0))))), (2, (.iconst 0, (1, (0, (0, 0))))), (3, (.istore_n 2, (1, (0, (0, 0))))), (4, (.iload_n 2, (1, (0, (0, 0))))), (5, (.aload_n 0, (1, (0, (0, 0))))), (6, (.getfield 9, (3, (11, (0, 2))))), (9, (.iconst 0, (1, (0, (0, 0))))), (10, (.iaload, (1, (0, (0, 0))))), (11, (.if_icmp .ge 20, (3, (0, (0, 0))))), (14, (.iload_n 1, (1, (0, (0, 0))))), (15, (.aload_n 0, (1, (0, (0, 0))))), (16, (.getfield 22, (3, (11, (6, 2))))), (19, (.iload_n 2, (1, (0, (0, 0))))), (20, (.iaload, (1, (0, (0, 0))))), (21, (.invokestatic 101, (3, (0, (2, 5))))), (24, (.istore_n 1, (1, (0, (0, 0))))), (25, (.iinc 2 1, (3, (0, (0, 0))))), (28, (.goto (-24), (3, (0, (0, 0))))), (31, (.iload_n 1, (1, (0, (0, 0))))), (32, (.ireturn, (1, (0, (0, 0)))))]]
set_option maxRecDepth 100000 in
noncomputable def mc_X11_valueOf : List (List mI) := [[(0, (.iconst 0, (1, (0, (0, 0))))), (1, (.istore_n 2, (1, (0, (0, 0))))), (2, (.iconst 0, (1, (0, (0, 0))))), (3, (.istore_n 3, (1, (0, (0, 0))))), (4, (.iload_n 3, (1, (0, (0, 0))))), (5, (.aload_n 0, (1, (0, (0, 0))))), (6, (.getfield 9, (3, (11, (0, 2))))), (9, (.iconst 0, (1, (0, (0, 0))))), (10, (.iaload, (1, (0, (0, 0))))), (11, (.if_icmp .ge 137, (3, (0, (0, 0))))), (14, (.aload_n 0, (1, (0, (0, 0))))), (15, (.getfield 22, (3, (11, (6, 2))))), (18, (.iload_n 3, (1, (0, (0, 0))))), (19, (.iaload, (1, (0, (0, 0))))), (20, (.aload_n 0, (1, (0, (0, 0))))), (21, (.iload_n 3, (1, (0, (0, 0))))), (22, (.iconst 1, (1, (0, (0, 0))))), (23, (.invokevirtual 73, (3, (142, (3, 0))))), (26, (.isub, (1, (0, (0, 0))))), (27, (.istore 4, (2, (0, (0, 0))))), (29, (.iload_n 1, (1, (0, (0, 0))))), (30, (.tableswitch 91 0 3 #[30, 44, 56, 75], (30, (0, (0, 0))))), (60, (.iload_n 2, (1, (0, (0, 0))))), (61, (.aload_n 0, (1, (0, (0, 0))))), (62, (.getfield 22, (3, (11, (6, 2)))))],
  [(65, (.iload_n 3, (1, (0, (0, 0))))), (66, (.iaload, (1, (0, (0, 0))))), (67, (.invokestatic 101, (3, (0, (2, 5))))), (70, (.istore_n 2, (1, (0, (0, 0))))), (71, (.goto 71, (3, (0, (0, 0))))), (74, (.iload_n 2, (1, (0, (0, 0))))), (75, (.aload_n 0, (1, (0, (0, 0))))), (76, (.getfield 22, (3, (11, (6, 2))))), (79, (.iload_n 3, (1, (0, (0, 0))))), (80, (.iaload, (1, (0, (0, 0))))), (81, (.iadd, (1, (0, (0, 0))))), (82, (.istore_n 2, (1, (0, (0, 0))))), (83, (.goto 59, (3, (0, (0, 0))))), (86, (.iload_n 3, (1, (0, (0, 0))))), (87, (.ifCond .ne 8, (3, (0, (0, 0))))), (90, (.iload 4, (2, (0, (0, 0))))), (92, (.goto 9, (3, (0, (0, 0))))), (95, (.iload_n 2, (1, (0, (0, 0))))), (96, (.iload 4, (2, (0, (0, 0))))), (98, (.invokestatic 101, (3, (0, (2, 5))))), (101, (.istore_n 2, (1, (0, (0, 0))))), (102, (.goto 40, (3, (0, (0, 0))))), (105, (.iload_n 2, (1, (0, (0, 0))))), (106, (.iload 4, (2, (0, (0, 0))))), (108, (.ifCond .le 7, (3, (0, (0, 0))))), (111, (.iconst 1, (1, (0, (0, 0))))), (112, (.goto 4, (3, (0, (0, 0))))), (115, (.iconst 0, (1, (0, (0, 0))))), (116, (.iadd, (1, (0, (0, 0))))), (117, (.istore_n 2, (1, (0, (0, 0))))), (118, (.goto 24, (3, (0, (0, 0))))), (121, (.iload_n 2, (1, (0, (0, 0))))), (122, (.iload 4, (2, (0, (0, 0))))), (124, (.ifCond .le 15, (3, (0, (0, 0))))), (127, (.aload_n 0, (1, (0, (0, 0)))))],
  [(128, (.iload_n 3, (1, (0, (0, 0))))), (129, (.iconst 2, (1, (0, (0, 0))))), (130, (.invokevirtual 73, (3, (142, (3, 0))))), (133, (.iload 4, (2, (0, (0, 0))))), (135, (.imul, (1, (0, (0, 0))))), (136, (.goto 4, (3, (0, (0, 0))))), (139, (.iconst 0, (1, (0, (0, 0))))), (140, (.iadd, (1, (0, (0, 0))))), (141, (.istore_n 2, (1, (0, (0, 0))))), (142, (.iinc 3 1, (3, (0, (0, 0))))), (145, (.goto (-141), (3, (0, (0, 0))))), (148, (.iload_n 2, (1, (0, (0, 0))))), (149, (.ireturn, (1, (0, (0, 0)))))]]
set_option maxRecDepth 100000 in
noncomputable def mc_X11_isAhead : List (List mI) := [[(0, (.aload_n 0, (1, (0, (0, 0))))), (1, (.iload_n 2, (1, (0, (0, 0))))), (2, (.aload_n 0, (1, (0, (0, 0))))), (3, (.getfield 19, (3, (11, (5, 2))))), (6, (.iload_n 2, (1, (0, (0, 0))))), (7, (.iaload, (1, (0, (0, 0))))), (8, (.invokevirtual 77, (3, (144, (3, 0))))), (11, (.istore 4, (2, (0, (0, 0))))), (13, (.aload_n 0, (1, (0, (0, 0))))), (14, (.iload_n 3, (1, (0, (0, 0))))), (15, (.aload_n 0, (1, (0, (0, 0))))), (16, (.getfield 19, (3, (11, (5, 2))))), (19, (.iload_n 3, (1, (0, (0, 0))))), (20, (.iaload, (1, (0, (0, 0))))), (21, (.invokevirtual 77, (3, (144, (3, 0))))), (24, (.istore 5, (2, (0, (0, 0))))), (26, (.iload_n 1, (1, (0, (0, 0))))), (27, (.tableswitch 212 0 6 #[41, 54, 67, 88, 109, 140, 185], (41, (0, (0, 0)))))],
  [(68, (.iload 4, (2, (0, (0, 0))))), (70, (.iload 5, (2, (0, (0, 0))))), (72, (.if_icmp .ge 7, (3, (0, (0, 0))))), (75, (.iconst 1, (1, (0, (0, 0))))), (76, (.goto 4, (3, (0, (0, 0))))), (79, (.iconst 0, (1, (0, (0, 0))))), (80, (.ireturn, (1, (0, (0, 0))))), (81, (.iload 4, (2, (0, (0, 0))))), (83, (.iload 5, (2, (0, (0, 0))))), (85, (.if_icmp .le 7, (3, (0, (0, 0))))), (88, (.iconst 1, (1, (0, (0, 0))))), (89, (.goto 4, (3, (0, (0, 0))))), (92, (.iconst 0, (1, (0, (0, 0))))), (93, (.ireturn, (1, (0, (0, 0))))), (94, (.aload_n 0, (1, (0, (0, 0))))), (95, (.iload_n 2, (1, (0, (0, 0))))), (96, (.iconst 1, (1, (0, (0, 0))))), (97, (.invokevirtual 73, (3, (142, (3, 0))))), (100, (.aload_n 0, (1, (0, (0, 0))))), (101, (.iload_n 3, (1, (0, (0, 0))))), (102, (.iconst 1, (1, (0, (0, 0))))), (103, (.invokevirtual 73, (3, (142, (3, 0))))), (106, (.if_icmp .ge 7, (3, (0, (0, 0))))), (109, (.iconst 1, (1, (0, (0, 0))))), (110, (.goto 4, (3, (0, (0, 0))))), (113, (.iconst 0, (1, (0, (0, 0))))), (114, (.ireturn, (1, (0, (0, 0))))), (115, (.aload_n 0, (1, (0, (0, 0))))), (116, (.iload_n 2, (1, (0, (0, 0))))), (117, (.iconst 2, (1, (0, (0, 0))))), (118, (.invokevirtual 73, (3, (142, (3, 0))))), (121, (.aload_n 0, (1, (0, (0, 0))))), (122, (.iload_n 3, (1, (0, (0, 0))))), (123, (.iconst 2, (1, (0, (0, 0))))), (124, (.invokevirtual 73, (3, (142, (3, 0))))), (127, (.if_icmp .le 7, (3, (0, (0, 0)))))],
  [(130, (.iconst 1, (1, (0, (0, 0))))), (131, (.goto 4, (3, (0, (0, 0))))), (134, (.iconst 0, (1, (0, (0, 0))))), (135, (.ireturn, (1, (0, (0, 0))))), (136, (.aload_n 0, (1, (0, (0, 0))))), (137, (.iload_n 2, (1, (0, (0, 0))))), (138, (.aload_n 0, (1, (0, (0, 0))))), (139, (.getfield 19, (3, (11, (5, 2))))), (142, (.iload_n 2, (1, (0, (0, 0))))), (143, (.iaload, (1, (0, (0, 0))))), (144, (.invokevirtual 80, (3, (145, (3, 0))))), (147, (.aload_n 0, (1, (0, (0, 0))))), (148, (.iload_n 3, (1, (0, (0, 0))))), (149, (.aload_n 0, (1, (0, (0, 0))))), (150, (.getfield 19, (3, (11, (5, 2))))), (153, (.iload_n 3, (1, (0, (0, 0))))), (154, (.iaload, (1, (0, (0, 0))))), (155, (.invokevirtual 80, (3, (145, (3, 0))))), (158, (.if_icmp .le 7, (3, (0, (0, 0))))), (161, (.iconst 1, (1, (0, (0, 0))))), (162, (.goto 4, (3, (0, (0, 0))))), (165, (.iconst 0, (1, (0, (0, 0))))), (166, (.ireturn, (1, (0, (0, 0))))), (167, (.aload_n 0, (1, (0, (0, 0))))), (168, (.iload_n 2, (1, (0, (0, 0))))), (169, (.iconst 1, (1, (0, (0, 0))))), (170, (.invokevirtual 73, (3, (142, (3, 0))))), (173, (.aload_n 0, (1, (0, (0, 0))))), (174, (.iload_n 2, (1, (0, (0, 0))))), (175, (.aload_n 0, (1, (0, (0, 0))))), (176, (.getfield 19, (3, (11, (5, 2))))), (179, (.iload_n 2, (1, (0, (0, 0))))), (180, (.iaload, (1, (0, (0, 0))))), (181, (.invokevirtual 80, (3, (145, (3, 0))))), (184, (.isub, (1, (0, (0, 0))))), (185, (.aload_n 0, (1, (0, (0, 0))))), (186, (.iload_n 3, (1, (0, (0, 0))))), (187, (.iconst 1, (1, (0, (0, 0))))), (188, (.invokevirtual 73, (3, (142, (3, 0))))), (191, (.aload_n 0, (1, (0, (0, 0)))))],
  [(192, (.iload_n 3, (1, (0, (0, 0))))), (193, (.aload_n 0, (1, (0, (0, 0))))), (194, (.getfield 19, (3, (11, (5, 2))))), (197, (.iload_n 3, (1, (0, (0, 0))))), (198, (.iaload, (1, (0, (0, 0))))), (199, (.invokevirtual 80, (3, (145, (3, 0))))), (202, (.isub, (1, (0, (0, 0))))), (203, (.if_icmp .ge 7, (3, (0, (0, 0))))), (206, (.iconst 1, (1, (0, (0, 0))))), (207, (.goto 4, (3, (0, (0, 0))))), (210, (.iconst 0, (1, (0, (0, 0))))), (211, (.ireturn, (1, (0, (0, 0))))), (212, (.aload_n 0, (1, (0, (0, 0))))), (213, (.iload_n 2, (1, (0, (0, 0))))), (214, (.iconst 2, (1, (0, (0, 0))))), (215, (.invokevirtual 73, (3, (142, (3, 0))))), (218, (.iload 5, (2, (0, (0, 0))))), (220, (.imul, (1, (0, (0, 0))))), (221, (.aload_n 0, (1, (0, (0, 0))))), (222, (.iload_n 3, (1, (0, (0, 0))))), (223, (.iconst 2, (1, (0, (0, 0))))), (224, (.invokevirtual 73, (3, (142, (3, 0))))), (227, (.iload 4, (2, (0, (0, 0))))), (229, (.imul, (1, (0, (0, 0))))), (230, (.if_icmp .le 7, (3, (0, (0, 0))))), (233, (.iconst 1, (1, (0, (0, 0))))), (234, (.goto 4, (3, (0, (0, 0))))), (237, (.iconst 0, (1, (0, (0, 0))))), (238, (.ireturn, (1, (0, (0, 0))))), (239, (.aload_n 0, (1, (0, (0, 0))))), (240, (.iload_n 2, (1, (0, (0, 0))))), (241, (.iconst 0, (1, (0, (0, 0))))), (242, (.invokevirtual 73, (3, (142, (3, 0))))), (245, (.aload_n 0, (1, (0, (0, 0))))), (246, (.iload_n 3, (1, (0, (0, 0))))), (247, (.iconst 0, (1, (0, (0, 0))))), (248, (.invokevirtual 73, (3, (142, (3, 0))))), (251, (.if_icmp .ge 7, (3, (0, (0, 0))))), (254, (.iconst 1, (1, (0, (0, 0))))), (255, (.goto 4, (3, (0, (0, 0)))))],
  [(258, (.iconst 0, (1, (0, (0, 0))))), (259, (.ireturn, (1, (0, (0, 0)))))]]
set_option maxRecDepth 100000 in
noncomputable def mc_X11_goesByRule : List (List mI) := [[(0, (.iconst 1, (1, (0, (0, 0))))), (1, (.istore_n 2, (1, (0, (0, 0))))), (2, (.iload_n 2, (1, (0, (0, 0))))), (3, (.ifCond .eq 129, (3, (0, (0, 0))))), (6, (.iconst (-1), (1, (0, (0, 0))))), (7, (.istore_n 3, (1, (0, (0, 0))))), (8, (.iconst 0, (1, (0, (0, 0))))), (9, (.istore 4, (2, (0, (0, 0))))), (11, (.iconst 0, (1, (0, (0, 0))))), (12, (.istore 5, (2, (0, (0, 0))))), (14, (.iload 5, (2, (0, (0, 0))))), (16, (.aload_n 0, (1, (0, (0, 0))))), (17, (.getfield 9, (3, (11, (0, 2))))), (20, (.iconst 0, (1, (0, (0, 0))))), (21, (.iaload, (1, (0, (0, 0))))), (22, (.if_icmp .ge 77, (3, (0, (0, 0))))), (25, (.aload_n 0, (1, (0, (0, 0))))), (26, (.getfield 19, (3, (11, (5, 2))))), (29, (.iload 5, (2, (0, (0, 0))))), (31, (.iaload, (1, (0, (0, 0))))), (32, (.aload_n 0, (1, (0, (0, 0))))), (33, (.iload 5, (2, (0, (0, 0))))), (35, (.iconst 4, (1, (0, (0, 0))))), (36, (.invokevirtual 73, (3, (142, (3, 0))))), (39, (.if_icmp .ne 6, (3, (0, (0, 0))))), (42, (.goto 51, (3, (0, (0, 0))))), (45, (.aload_n 0, (1, (0, (0, 0))))), (46, (.iload 5, (2, (0, (0, 0))))), (48, (.invokevirtual 112, (3, (155, (2, 0))))), (51, (.istore 6, (2, (0, (0, 0))))), (53, (.iload_n 3, (1, (0, (0, 0))))), (54, (.iconst (-1), (1, (0, (0, 0))))), (55, (.if_icmp .eq 31, (3, (0, (0, 0))))), (58, (.iload 6, (2, (0, (0, 0))))), (60, (.iload 4, (2, (0, (0, 0))))), (62, (.if_icmp .gt 31, (3, (0, (0, 0)))))],
  [(65, (.iload 6, (2, (0, (0, 0))))), (67, (.iload 4, (2, (0, (0, 0))))), (69, (.if_icmp .ne 17, (3, (0, (0, 0))))), (72, (.aload_n 0, (1, (0, (0, 0))))), (73, (.iload_n 1, (1, (0, (0, 0))))), (74, (.iload 5, (2, (0, (0, 0))))), (76, (.iload_n 3, (1, (0, (0, 0))))), (77, (.invokevirtual 128, (3, (161, (4, 0))))), (80, (.ifCond .ne 6, (3, (0, (0, 0))))), (83, (.goto 10, (3, (0, (0, 0))))), (86, (.iload 5, (2, (0, (0, 0))))), (88, (.istore_n 3, (1, (0, (0, 0))))), (89, (.iload 6, (2, (0, (0, 0))))), (91, (.istore 4, (2, (0, (0, 0))))), (93, (.iinc 5 1, (3, (0, (0, 0))))), (96, (.goto (-82), (3, (0, (0, 0))))), (99, (.iload_n 3, (1, (0, (0, 0))))), (100, (.iconst (-1), (1, (0, (0, 0))))), (101, (.if_icmp .eq 7, (3, (0, (0, 0))))), (104, (.iconst 1, (1, (0, (0, 0))))), (105, (.goto 4, (3, (0, (0, 0))))), (108, (.iconst 0, (1, (0, (0, 0))))), (109, (.istore_n 2, (1, (0, (0, 0))))), (110, (.iload_n 2, (1, (0, (0, 0))))), (111, (.ifCond .ne 6, (3, (0, (0, 0))))), (114, (.goto (-112), (3, (0, (0, 0))))), (117, (.aload_n 0, (1, (0, (0, 0))))), (118, (.iload_n 3, (1, (0, (0, 0))))), (119, (.invokevirtual 131, (3, (163, (2, 0))))), (122, (.aload_n 0, (1, (0, (0, 0))))), (123, (.iload_n 3, (1, (0, (0, 0))))), (124, (.iload 4, (2, (0, (0, 0))))), (126, (.invokevirtual 116, (3, (156, (3, 0)))))],
  [(129, (.goto (-127), (3, (0, (0, 0))))), (132, (.return_, (1, (0, (0, 0)))))]]
set_option maxRecDepth 100000 in
noncomputable def mc_X11_puts : List (List mI) := [[(0, (.aload_n 0, (1, (0, (0, 0))))), (1, (.iload_n 1, (1, (0, (0, 0))))), (2, (.aload_n 0, (1, (0, (0, 0))))), (3, (.getfield 19, (3, (11, (5, 2))))), (6, (.iload_n 1, (1, (0, (0, 0))))), (7, (.iaload, (1, (0, (0, 0))))), (8, (.invokevirtual 95, (3, (143, (3, 0))))), (11, (.bipush 31, (2, (0, (0, 0))))), (13, (.imul, (1, (0, (0, 0))))), (14, (.istore_n 2, (1, (0, (0, 0))))), (15, (.aload_n 0, (1, (0, (0, 0))))), (16, (.getfield 37, (3, (11, (11, 2))))), (19, (.iload_n 2, (1, (0, (0, 0))))), (20, (.iconst 1, (1, (0, (0, 0))))), (21, (.iadd, (1, (0, (0, 0))))), (22, (.aload_n 0, (1, (0, (0, 0))))), (23, (.getfield 37, (3, (11, (11, 2))))), (26, (.iload_n 2, (1, (0, (0, 0))))), (27, (.iaload, (1, (0, (0, 0))))), (28, (.iadd, (1, (0, (0, 0))))), (29, (.bipush 10, (2, (0, (0, 0))))), (31, (.iload_n 1, (1, (0, (0, 0))))), (32, (.imul, (1, (0, (0, 0))))), (33, (.aload_n 0, (1, (0, (0, 0))))), (34, (.getfield 19, (3, (11, (5, 2))))), (37, (.iload_n 1, (1, (0, (0, 0))))), (38, (.iaload, (1, (0, (0, 0))))), (39, (.iadd, (1, (0, (0, 0))))), (40, (.iastore, (1, (0, (0, 0))))), (41, (.aload_n 0, (1, (0, (0, 0))))), (42, (.getfield 37, (3, (11, (11, 2))))), (45, (.iload_n 2, (1, (0, (0, 0))))), (46, (.dup2, (1, (0, (0, 0))))), (47, (.iaload, (1, (0, (0, 0))))), (48, (.iconst 1, (1, (0, (0, 0))))), (49, (.iadd, (1, (0, (0, 0))))), (50, (.iastore, (1, (0, (0, 0))))), (51, (.return_, (1, (0, (0, 0)))))]]
set_option maxRecDepth 100000 in
noncomputable def mc_X11_clearsOrder : List (List mI) := [[(0, (.iconst 0, (1, (0, (0, 0))))), (1, (.istore_n 1, (1, (0, (0, 0))))), (2, (.iload_n 1, (1, (0, (0, 0))))), (3, (.iconst 4, (1, (0, (0, 0))))), (4, (.if_icmp .ge 19, (3, (0, (0, 0))))), (7, (.aload_n 0, (1, (0, (0, 0))))), (8, (.getfield 37, (3, (11, (11, 2))))), (11, (.iload_n 1, (1, (0, (0, 0))))), (12, (.bipush 31, (2, (0, (0, 0))))), (14, (.imul, (1, (0, (0, 0))))), (15, (.iconst 0, (1, (0, (0, 0))))), (16, (.iastore, (1, (0, (0, 0))))), (17, (.iinc 1 1, (3, (0, (0, 0))))), (20, (.goto (-18), (3, (0, (0, 0))))), (23, (.return_, (1, (0, (0, 0)))))]]
set_option maxRecDepth 100000 in
noncomputable def mc_X11_takesOrder : List (List mI) := [[(0, (.aload_n 0, (1, (0, (0, 0))))), (1, (.getfield 37, (3, (11, (11, 2))))), (4, (.iconst 0, (1, (0, (0, 0))))), (5, (.aload_n 0, (1, (0, (0, 0))))), (6, (.getfield 9, (3, (11, (0, 2))))), (9, (.sipush 152, (3, (0, (0, 0))))), (12, (.bipush 124, (2, (0, (0, 0))))), (14, (.invokestatic 135, (3, (0, (5, 7))))), (17, (.aload_n 0, (1, (0, (0, 0))))), (18, (.getfield 9, (3, (11, (0, 2))))), (21, (.sipush 151, (3, (0, (0, 0))))), (24, (.iconst 1, (1, (0, (0, 0))))), (25, (.iastore, (1, (0, (0, 0))))), (26, (.aload_n 0, (1, (0, (0, 0))))), (27, (.invokevirtual 141, (3, (158, (1, 0))))), (30, (.istore_n 1, (1, (0, (0, 0))))), (31, (.aload_n 0, (1, (0, (0, 0))))), (32, (.invokevirtual 145, (3, (159, (1, 0))))), (35, (.ireturn, (1, (0, (0, 0)))))]]
set_option maxRecDepth 100000 in
noncomputable def mc_X11_noPlan : List (List mI) := [[(0, (.aload_n 0, (1, (0, (0, 0))))), (1, (.getfield 9, (3, (11, (0, 2))))), (4, (.sipush 151, (3, (0, (0, 0))))), (7, (.iconst 0, (1, (0, (0, 0))))), (8, (.iastore, (1, (0, (0, 0))))), (9, (.iconst 0, (1, (0, (0, 0))))), (10, (.istore_n 1, (1, (0, (0, 0))))), (11, (.iload_n 1, (1, (0, (0, 0))))), (12, (.iconst 4, (1, (0, (0, 0))))), (13, (.if_icmp .ge 23, (3, (0, (0, 0))))), (16, (.aload_n 0, (1, (0, (0, 0))))), (17, (.getfield 9, (3, (11, (0, 2))))), (20, (.sipush 152, (3, (0, (0, 0))))), (23, (.iload_n 1, (1, (0, (0, 0))))), (24, (.bipush 31, (2, (0, (0, 0))))), (26, (.imul, (1, (0, (0, 0))))), (27, (.iadd, (1, (0, (0, 0))))), (28, (.iconst 0, (1, (0, (0, 0))))), (29, (.iastore, (1, (0, (0, 0))))), (30, (.iinc 1 1, (3, (0, (0, 0))))), (33, (.goto (-22), (3, (0, (0, 0))))), (36, (.return_, (1, (0, (0, 0)))))]]
set_option maxRecDepth 100000 in
noncomputable def mc_X11_keeps : List (List mI) := [[(0, (.aload_n 0, (1, (0, (0, 0))))), (1, (.getfield 148, (3, (11, (2, 0))))), (4, (.bipush 8, (2, (0, (0, 0))))), (6, (.if_icmp .ne 31, (3, (0, (0, 0))))), (9, (.aload_n 0, (1, (0, (0, 0))))), (10, (.getfield 13, (3, (11, (1, 2))))), (13, (.sipush 282, (3, (0, (0, 0))))), (16, (.aload_n 0, (1, (0, (0, 0))))), (17, (.getfield 13, (3, (11, (1, 2))))), (20, (.iconst 0, (1, (0, (0, 0))))), (21, (.sipush 1974, (3, (0, (0, 0))))), (24, (.invokestatic 135, (3, (0, (5, 7))))), (27, (.aload_n 0, (1, (0, (0, 0))))), (28, (.dup, (1, (0, (0, 0))))), (29, (.getfield 148, (3, (11, (2, 0))))), (32, (.iconst 1, (1, (0, (0, 0))))), (33, (.isub, (1, (0, (0, 0))))), (34, (.putfield 148, (3, (11, (2, 0))))), (37, (.aload_n 0, (1, (0, (0, 0))))), (38, (.getfield 9, (3, (11, (0, 2))))), (41, (.iconst 0, (1, (0, (0, 0))))), (42, (.aload_n 0, (1, (0, (0, 0))))), (43, (.getfield 13, (3, (11, (1, 2))))), (46, (.aload_n 0, (1, (0, (0, 0))))), (47, (.getfield 148, (3, (11, (2, 0))))), (50, (.sipush 282, (3, (0, (0, 0))))), (53, (.imul, (1, (0, (0, 0))))), (54, (.sipush 282, (3, (0, (0, 0))))), (57, (.invokestatic 135, (3, (0, (5, 7))))), (60, (.aload_n 0, (1, (0, (0, 0))))), (61, (.dup, (1, (0, (0, 0))))), (62, (.getfield 148, (3, (11, (2, 0)))))],
  [(65, (.iconst 1, (1, (0, (0, 0))))), (66, (.iadd, (1, (0, (0, 0))))), (67, (.putfield 148, (3, (11, (2, 0))))), (70, (.return_, (1, (0, (0, 0)))))]]
set_option maxRecDepth 100000 in
noncomputable def mc_X11_close : List (List mI) := [[(0, (.iload_n 1, (1, (0, (0, 0))))), (1, (.iconst 0, (1, (0, (0, 0))))), (2, (.iconst 3, (1, (0, (0, 0))))), (3, (.invokestatic 83, (3, (138, (3, 1))))), (6, (.istore 4, (2, (0, (0, 0))))), (8, (.aload_n 0, (1, (0, (0, 0))))), (9, (.iload 4, (2, (0, (0, 0))))), (11, (.iload_n 2, (1, (0, (0, 0))))), (12, (.iconst 0, (1, (0, (0, 0))))), (13, (.sipush 2000, (3, (0, (0, 0))))), (16, (.invokestatic 83, (3, (138, (3, 1))))), (19, (.ifCond .eq 19, (3, (0, (0, 0))))), (22, (.iload_n 3, (1, (0, (0, 0))))), (23, (.iload_n 2, (1, (0, (0, 0))))), (24, (.if_icmp .le 14, (3, (0, (0, 0))))), (27, (.iload_n 3, (1, (0, (0, 0))))), (28, (.sipush 2000, (3, (0, (0, 0))))), (31, (.if_icmp .gt 7, (3, (0, (0, 0))))), (34, (.iconst 1, (1, (0, (0, 0))))), (35, (.goto 4, (3, (0, (0, 0))))), (38, (.iconst 0, (1, (0, (0, 0))))), (39, (.iload 4, (2, (0, (0, 0))))), (41, (.ifCond .eq 22, (3, (0, (0, 0))))), (44, (.aload_n 0, (1, (0, (0, 0))))), (45, (.getfield 9, (3, (11, (0, 2))))), (48, (.iconst 1, (1, (0, (0, 0))))), (49, (.iload_n 1, (1, (0, (0, 0))))), (50, (.bipush 11, (2, (0, (0, 0))))), (52, (.imul, (1, (0, (0, 0))))), (53, (.iadd, (1, (0, (0, 0))))), (54, (.iaload, (1, (0, (0, 0))))), (55, (.iconst 4, (1, (0, (0, 0))))), (56, (.if_icmp .ge 7, (3, (0, (0, 0))))), (59, (.iconst 1, (1, (0, (0, 0))))), (60, (.goto 4, (3, (0, (0, 0))))), (63, (.iconst 0, (1, (0, (0, 0)))))],
  [(64, (.invokevirtual 151, (3, (139, (4, 0))))), (67, (.ifCond .ne 5, (3, (0, (0, 0))))), (70, (.iconst 0, (1, (0, (0, 0))))), (71, (.ireturn, (1, (0, (0, 0))))), (72, (.aload_n 0, (1, (0, (0, 0))))), (73, (.invokevirtual 155, (3, (167, (1, 0))))), (76, (.iconst 1, (1, (0, (0, 0))))), (77, (.iload_n 1, (1, (0, (0, 0))))), (78, (.bipush 11, (2, (0, (0, 0))))), (80, (.imul, (1, (0, (0, 0))))), (81, (.iadd, (1, (0, (0, 0))))), (82, (.istore 5, (2, (0, (0, 0))))), (84, (.aload_n 0, (1, (0, (0, 0))))), (85, (.getfield 9, (3, (11, (0, 2))))), (88, (.iload 5, (2, (0, (0, 0))))), (90, (.iconst 1, (1, (0, (0, 0))))), (91, (.iadd, (1, (0, (0, 0))))), (92, (.iconst 2, (1, (0, (0, 0))))), (93, (.aload_n 0, (1, (0, (0, 0))))), (94, (.getfield 9, (3, (11, (0, 2))))), (97, (.iload 5, (2, (0, (0, 0))))), (99, (.iaload, (1, (0, (0, 0))))), (100, (.imul, (1, (0, (0, 0))))), (101, (.iadd, (1, (0, (0, 0))))), (102, (.iload_n 2, (1, (0, (0, 0))))), (103, (.iastore, (1, (0, (0, 0))))), (104, (.aload_n 0, (1, (0, (0, 0))))), (105, (.getfield 9, (3, (11, (0, 2))))), (108, (.iload 5, (2, (0, (0, 0))))), (110, (.iconst 1, (1, (0, (0, 0))))), (111, (.iadd, (1, (0, (0, 0))))), (112, (.iconst 2, (1, (0, (0, 0))))), (113, (.aload_n 0, (1, (0, (0, 0))))), (114, (.getfield 9, (3, (11, (0, 2))))), (117, (.iload 5, (2, (0, (0, 0))))), (119, (.iaload, (1, (0, (0, 0))))), (120, (.imul, (1, (0, (0, 0))))), (121, (.iadd, (1, (0, (0, 0))))), (122, (.iconst 1, (1, (0, (0, 0))))), (123, (.iadd, (1, (0, (0, 0))))), (124, (.iload_n 3, (1, (0, (0, 0))))), (125, (.iastore, (1, (0, (0, 0))))), (126, (.aload_n 0, (1, (0, (0, 0))))), (127, (.getfield 9, (3, (11, (0, 2)))))],
  [(130, (.iload 5, (2, (0, (0, 0))))), (132, (.dup2, (1, (0, (0, 0))))), (133, (.iaload, (1, (0, (0, 0))))), (134, (.iconst 1, (1, (0, (0, 0))))), (135, (.iadd, (1, (0, (0, 0))))), (136, (.iastore, (1, (0, (0, 0))))), (137, (.aload_n 0, (1, (0, (0, 0))))), (138, (.getfield 9, (3, (11, (0, 2))))), (141, (.iload 5, (2, (0, (0, 0))))), (143, (.iaload, (1, (0, (0, 0))))), (144, (.ireturn, (1, (0, (0, 0)))))]]
set_option maxRecDepth 100000 in
noncomputable def mc_X11_setTool : List (List mI) := [[(0, (.aload_n 0, (1, (0, (0, 0))))), (1, (.iload_n 1, (1, (0, (0, 0))))), (2, (.iconst 0, (1, (0, (0, 0))))), (3, (.iconst 3, (1, (0, (0, 0))))), (4, (.invokestatic 83, (3, (138, (3, 1))))), (7, (.iload_n 2, (1, (0, (0, 0))))), (8, (.ifCond .eq 15, (3, (0, (0, 0))))), (11, (.iload_n 2, (1, (0, (0, 0))))), (12, (.bipush 50, (2, (0, (0, 0))))), (14, (.sipush 300, (3, (0, (0, 0))))), (17, (.invokestatic 83, (3, (138, (3, 1))))), (20, (.ifCond .eq 17, (3, (0, (0, 0))))), (23, (.iload_n 3, (1, (0, (0, 0))))), (24, (.iconst 0, (1, (0, (0, 0))))), (25, (.bipush 20, (2, (0, (0, 0))))), (27, (.invokestatic 83, (3, (138, (3, 1))))), (30, (.ifCond .eq 7, (3, (0, (0, 0))))), (33, (.iconst 1, (1, (0, (0, 0))))), (34, (.goto 4, (3, (0, (0, 0))))), (37, (.iconst 0, (1, (0, (0, 0))))), (38, (.iconst 1, (1, (0, (0, 0))))), (39, (.invokevirtual 151, (3, (139, (4, 0))))), (42, (.ifCond .ne 5, (3, (0, (0, 0))))), (45, (.iconst 0, (1, (0, (0, 0))))), (46, (.ireturn, (1, (0, (0, 0))))), (47, (.aload_n 0, (1, (0, (0, 0))))), (48, (.invokevirtual 155, (3, (167, (1, 0))))), (51, (.iconst 1, (1, (0, (0, 0))))), (52, (.iload_n 1, (1, (0, (0, 0))))), (53, (.bipush 11, (2, (0, (0, 0))))), (55, (.imul, (1, (0, (0, 0))))), (56, (.iadd, (1, (0, (0, 0))))), (57, (.istore 4, (2, (0, (0, 0))))), (59, (.aload_n 0, (1, (0, (0, 0))))), (60, (.getfield 9, (3, (11, (0, 2))))), (63, (.iload 4, (2, (0, (0, 0)))))],
  [(65, (.bipush 9, (2, (0, (0, 0))))), (67, (.iadd, (1, (0, (0, 0))))), (68, (.iaload, (1, (0, (0, 0))))), (69, (.istore 5, (2, (0, (0, 0))))), (71, (.aload_n 0, (1, (0, (0, 0))))), (72, (.getfield 9, (3, (11, (0, 2))))), (75, (.iload 4, (2, (0, (0, 0))))), (77, (.bipush 9, (2, (0, (0, 0))))), (79, (.iadd, (1, (0, (0, 0))))), (80, (.iload_n 2, (1, (0, (0, 0))))), (81, (.iastore, (1, (0, (0, 0))))), (82, (.aload_n 0, (1, (0, (0, 0))))), (83, (.getfield 9, (3, (11, (0, 2))))), (86, (.iload 4, (2, (0, (0, 0))))), (88, (.bipush 10, (2, (0, (0, 0))))), (90, (.iadd, (1, (0, (0, 0))))), (91, (.iload_n 3, (1, (0, (0, 0))))), (92, (.iastore, (1, (0, (0, 0))))), (93, (.iload 5, (2, (0, (0, 0))))), (95, (.ireturn, (1, (0, (0, 0)))))]]
set_option maxRecDepth 100000 in
noncomputable def mc_X11_setSetup : List (List mI) := [[(0, (.aload_n 0, (1, (0, (0, 0))))), (1, (.iload_n 1, (1, (0, (0, 0))))), (2, (.iconst 0, (1, (0, (0, 0))))), (3, (.iconst 3, (1, (0, (0, 0))))), (4, (.invokestatic 83, (3, (138, (3, 1))))), (7, (.ifCond .eq 16, (3, (0, (0, 0))))), (10, (.iload_n 2, (1, (0, (0, 0))))), (11, (.iconst 0, (1, (0, (0, 0))))), (12, (.iconst 3, (1, (0, (0, 0))))), (13, (.invokestatic 83, (3, (138, (3, 1))))), (16, (.ifCond .eq 7, (3, (0, (0, 0))))), (19, (.iconst 1, (1, (0, (0, 0))))), (20, (.goto 4, (3, (0, (0, 0))))), (23, (.iconst 0, (1, (0, (0, 0))))), (24, (.iload_n 3, (1, (0, (0, 0))))), (25, (.iconst 0, (1, (0, (0, 0))))), (26, (.bipush 20, (2, (0, (0, 0))))), (28, (.invokestatic 83, (3, (138, (3, 1))))), (31, (.iconst 1, (1, (0, (0, 0))))), (32, (.invokevirtual 151, (3, (139, (4, 0))))), (35, (.ifCond .ne 5, (3, (0, (0, 0))))), (38, (.iconst 0, (1, (0, (0, 0))))), (39, (.ireturn, (1, (0, (0, 0))))), (40, (.aload_n 0, (1, (0, (0, 0))))), (41, (.invokevirtual 155, (3, (167, (1, 0))))), (44, (.aload_n 0, (1, (0, (0, 0))))), (45, (.getfield 9, (3, (11, (0, 2))))), (48, (.bipush 45, (2, (0, (0, 0))))), (50, (.iconst 4, (1, (0, (0, 0))))), (51, (.iload_n 1, (1, (0, (0, 0))))), (52, (.imul, (1, (0, (0, 0))))), (53, (.iadd, (1, (0, (0, 0))))), (54, (.iload_n 2, (1, (0, (0, 0))))), (55, (.iadd, (1, (0, (0, 0))))), (56, (.iaload, (1, (0, (0, 0))))), (57, (.istore 4, (2, (0, (0, 0))))), (59, (.aload_n 0, (1, (0, (0, 0))))), (60, (.getfield 9, (3, (11, (0, 2))))), (63, (.bipush 45, (2, (0, (0, 0)))))],
  [(65, (.iconst 4, (1, (0, (0, 0))))), (66, (.iload_n 1, (1, (0, (0, 0))))), (67, (.imul, (1, (0, (0, 0))))), (68, (.iadd, (1, (0, (0, 0))))), (69, (.iload_n 2, (1, (0, (0, 0))))), (70, (.iadd, (1, (0, (0, 0))))), (71, (.iload_n 3, (1, (0, (0, 0))))), (72, (.iastore, (1, (0, (0, 0))))), (73, (.aload_n 0, (1, (0, (0, 0))))), (74, (.invokevirtual 158, (3, (166, (1, 0))))), (77, (.iload 4, (2, (0, (0, 0))))), (79, (.ireturn, (1, (0, (0, 0)))))]]
set_option maxRecDepth 100000 in
noncomputable def mc_X11_addJob : List (List mI) := [[(0, (.aload_n 0, (1, (0, (0, 0))))), (1, (.iload 4, (2, (0, (0, 0))))), (3, (.iconst 0, (1, (0, (0, 0))))), (4, (.iconst 3, (1, (0, (0, 0))))), (5, (.invokestatic 83, (3, (138, (3, 1))))), (8, (.iload_n 1, (1, (0, (0, 0))))), (9, (.iconst 0, (1, (0, (0, 0))))), (10, (.sipush 200, (3, (0, (0, 0))))), (13, (.invokestatic 83, (3, (138, (3, 1))))), (16, (.ifCond .eq 28, (3, (0, (0, 0))))), (19, (.iload_n 2, (1, (0, (0, 0))))), (20, (.iconst 0, (1, (0, (0, 0))))), (21, (.sipush 1000, (3, (0, (0, 0))))), (24, (.invokestatic 83, (3, (138, (3, 1))))), (27, (.ifCond .eq 17, (3, (0, (0, 0))))), (30, (.iload_n 3, (1, (0, (0, 0))))), (31, (.iconst 1, (1, (0, (0, 0))))), (32, (.bipush 9, (2, (0, (0, 0))))), (34, (.invokestatic 83, (3, (138, (3, 1))))), (37, (.ifCond .eq 7, (3, (0, (0, 0))))), (40, (.iconst 1, (1, (0, (0, 0))))), (41, (.goto 4, (3, (0, (0, 0))))), (44, (.iconst 0, (1, (0, (0, 0))))), (45, (.aload_n 0, (1, (0, (0, 0))))), (46, (.getfield 9, (3, (11, (0, 2))))), (49, (.iconst 0, (1, (0, (0, 0))))), (50, (.iaload, (1, (0, (0, 0))))), (51, (.bipush 6, (2, (0, (0, 0))))), (53, (.if_icmp .ge 7, (3, (0, (0, 0))))), (56, (.iconst 1, (1, (0, (0, 0))))), (57, (.goto 4, (3, (0, (0, 0))))), (60, (.iconst 0, (1, (0, (0, 0))))), (61, (.invokevirtual 151, (3, (139, (4, 0)))))],
  [(64, (.ifCond .ne 5, (3, (0, (0, 0))))), (67, (.iconst 0, (1, (0, (0, 0))))), (68, (.ireturn, (1, (0, (0, 0))))), (69, (.aload_n 0, (1, (0, (0, 0))))), (70, (.invokevirtual 155, (3, (167, (1, 0))))), (73, (.aload_n 0, (1, (0, (0, 0))))), (74, (.iload_n 1, (1, (0, (0, 0))))), (75, (.iload_n 2, (1, (0, (0, 0))))), (76, (.iload 4, (2, (0, (0, 0))))), (78, (.invokevirtual 61, (3, (140, (4, 0))))), (81, (.aload_n 0, (1, (0, (0, 0))))), (82, (.getfield 9, (3, (11, (0, 2))))), (85, (.bipush 61, (2, (0, (0, 0))))), (87, (.aload_n 0, (1, (0, (0, 0))))), (88, (.getfield 9, (3, (11, (0, 2))))), (91, (.iconst 0, (1, (0, (0, 0))))), (92, (.iaload, (1, (0, (0, 0))))), (93, (.iconst 1, (1, (0, (0, 0))))), (94, (.isub, (1, (0, (0, 0))))), (95, (.bipush 15, (2, (0, (0, 0))))), (97, (.imul, (1, (0, (0, 0))))), (98, (.iadd, (1, (0, (0, 0))))), (99, (.iconst 2, (1, (0, (0, 0))))), (100, (.iadd, (1, (0, (0, 0))))), (101, (.iload_n 3, (1, (0, (0, 0))))), (102, (.iastore, (1, (0, (0, 0))))), (103, (.aload_n 0, (1, (0, (0, 0))))), (104, (.invokevirtual 158, (3, (166, (1, 0))))), (107, (.aload_n 0, (1, (0, (0, 0))))), (108, (.getfield 9, (3, (11, (0, 2))))), (111, (.iconst 0, (1, (0, (0, 0))))), (112, (.iaload, (1, (0, (0, 0))))), (113, (.iconst 1, (1, (0, (0, 0))))), (114, (.isub, (1, (0, (0, 0))))), (115, (.ireturn, (1, (0, (0, 0)))))]]
set_option maxRecDepth 100000 in
noncomputable def mc_X11_addStep : List (List mI) := [[(0, (.aload_n 0, (1, (0, (0, 0))))), (1, (.aload_n 0, (1, (0, (0, 0))))), (2, (.iload_n 1, (1, (0, (0, 0))))), (3, (.invokevirtual 87, (3, (148, (2, 0))))), (6, (.ifCond .eq 16, (3, (0, (0, 0))))), (9, (.iload_n 2, (1, (0, (0, 0))))), (10, (.iconst 0, (1, (0, (0, 0))))), (11, (.iconst 3, (1, (0, (0, 0))))), (12, (.invokestatic 83, (3, (138, (3, 1))))), (15, (.ifCond .eq 7, (3, (0, (0, 0))))), (18, (.iconst 1, (1, (0, (0, 0))))), (19, (.goto 4, (3, (0, (0, 0))))), (22, (.iconst 0, (1, (0, (0, 0))))), (23, (.iload_n 3, (1, (0, (0, 0))))), (24, (.iconst 1, (1, (0, (0, 0))))), (25, (.bipush 50, (2, (0, (0, 0))))), (27, (.invokestatic 83, (3, (138, (3, 1))))), (30, (.aload_n 0, (1, (0, (0, 0))))), (31, (.iload_n 1, (1, (0, (0, 0))))), (32, (.invokevirtual 87, (3, (148, (2, 0))))), (35, (.ifCond .eq 17, (3, (0, (0, 0))))), (38, (.aload_n 0, (1, (0, (0, 0))))), (39, (.iload_n 1, (1, (0, (0, 0))))), (40, (.iconst 4, (1, (0, (0, 0))))), (41, (.invokevirtual 73, (3, (142, (3, 0))))), (44, (.iconst 5, (1, (0, (0, 0))))), (45, (.if_icmp .ge 7, (3, (0, (0, 0))))), (48, (.iconst 1, (1, (0, (0, 0))))), (49, (.goto 4, (3, (0, (0, 0))))), (52, (.iconst 0, (1, (0, (0, 0))))), (53, (.invokevirtual 151, (3, (139, (4, 0))))), (56, (.ifCond .ne 5, (3, (0, (0, 0))))), (59, (.iconst 0, (1, (0, (0, 0))))), (60, (.ireturn, (1, (0, (0, 0))))), (61, (.aload_n 0, (1, (0, (0, 0))))), (62, (.invokevirtual 155, (3, (167, (1, 0)))))],
  [(65, (.aload_n 0, (1, (0, (0, 0))))), (66, (.invokevirtual 158, (3, (166, (1, 0))))), (69, (.aload_n 0, (1, (0, (0, 0))))), (70, (.iload_n 1, (1, (0, (0, 0))))), (71, (.iload_n 2, (1, (0, (0, 0))))), (72, (.iload_n 3, (1, (0, (0, 0))))), (73, (.invokevirtual 65, (3, (141, (4, 0))))), (76, (.ireturn, (1, (0, (0, 0)))))]]
set_option maxRecDepth 100000 in
noncomputable def mc_X11_cut : List (List mI) := [[(0, (.aload_n 0, (1, (0, (0, 0))))), (1, (.iload_n 1, (1, (0, (0, 0))))), (2, (.invokevirtual 87, (3, (148, (2, 0))))), (5, (.ifCond .eq 27, (3, (0, (0, 0))))), (8, (.aload_n 0, (1, (0, (0, 0))))), (9, (.getfield 9, (3, (11, (0, 2))))), (12, (.iconst 0, (1, (0, (0, 0))))), (13, (.iaload, (1, (0, (0, 0))))), (14, (.bipush 6, (2, (0, (0, 0))))), (16, (.if_icmp .ge 16, (3, (0, (0, 0))))), (19, (.aload_n 0, (1, (0, (0, 0))))), (20, (.iload_n 1, (1, (0, (0, 0))))), (21, (.iconst 4, (1, (0, (0, 0))))), (22, (.invokevirtual 73, (3, (142, (3, 0))))), (25, (.ifCond .le 7, (3, (0, (0, 0))))), (28, (.iconst 1, (1, (0, (0, 0))))), (29, (.goto 4, (3, (0, (0, 0))))), (32, (.iconst 0, (1, (0, (0, 0))))), (33, (.istore_n 2, (1, (0, (0, 0))))), (34, (.iconst 0, (1, (0, (0, 0))))), (35, (.istore_n 3, (1, (0, (0, 0))))), (36, (.iload_n 2, (1, (0, (0, 0))))), (37, (.ifCond .eq 35, (3, (0, (0, 0))))), (40, (.iload_n 3, (1, (0, (0, 0))))), (41, (.aload_n 0, (1, (0, (0, 0))))), (42, (.iload_n 1, (1, (0, (0, 0))))), (43, (.iconst 4, (1, (0, (0, 0))))), (44, (.invokevirtual 73, (3, (142, (3, 0))))), (47, (.if_icmp .ge 25, (3, (0, (0, 0))))), (50, (.aload_n 0, (1, (0, (0, 0))))), (51, (.iload_n 1, (1, (0, (0, 0))))), (52, (.iload_n 3, (1, (0, (0, 0))))), (53, (.invokevirtual 77, (3, (144, (3, 0))))), (56, (.iconst 2, (1, (0, (0, 0))))), (57, (.if_icmp .lt 7, (3, (0, (0, 0))))), (60, (.iconst 1, (1, (0, (0, 0))))), (61, (.goto 4, (3, (0, (0, 0)))))],
  [(64, (.iconst 0, (1, (0, (0, 0))))), (65, (.istore_n 2, (1, (0, (0, 0))))), (66, (.iinc 3 1, (3, (0, (0, 0))))), (69, (.goto (-33), (3, (0, (0, 0))))), (72, (.aload_n 0, (1, (0, (0, 0))))), (73, (.aload_n 0, (1, (0, (0, 0))))), (74, (.iload_n 1, (1, (0, (0, 0))))), (75, (.invokevirtual 87, (3, (148, (2, 0))))), (78, (.iload_n 2, (1, (0, (0, 0))))), (79, (.iconst 1, (1, (0, (0, 0))))), (80, (.invokevirtual 151, (3, (139, (4, 0))))), (83, (.ifCond .ne 5, (3, (0, (0, 0))))), (86, (.iconst 0, (1, (0, (0, 0))))), (87, (.ireturn, (1, (0, (0, 0))))), (88, (.aload_n 0, (1, (0, (0, 0))))), (89, (.invokevirtual 155, (3, (167, (1, 0))))), (92, (.aload_n 0, (1, (0, (0, 0))))), (93, (.aload_n 0, (1, (0, (0, 0))))), (94, (.iload_n 1, (1, (0, (0, 0))))), (95, (.iconst 0, (1, (0, (0, 0))))), (96, (.invokevirtual 73, (3, (142, (3, 0))))), (99, (.aload_n 0, (1, (0, (0, 0))))), (100, (.iload_n 1, (1, (0, (0, 0))))), (101, (.iconst 1, (1, (0, (0, 0))))), (102, (.invokevirtual 73, (3, (142, (3, 0))))), (105, (.aload_n 0, (1, (0, (0, 0))))), (106, (.iload_n 1, (1, (0, (0, 0))))), (107, (.iconst 3, (1, (0, (0, 0))))), (108, (.invokevirtual 73, (3, (142, (3, 0))))), (111, (.invokevirtual 61, (3, (140, (4, 0))))), (114, (.aload_n 0, (1, (0, (0, 0))))), (115, (.getfield 9, (3, (11, (0, 2))))), (118, (.iconst 0, (1, (0, (0, 0))))), (119, (.iaload, (1, (0, (0, 0))))), (120, (.iconst 1, (1, (0, (0, 0))))), (121, (.isub, (1, (0, (0, 0))))), (122, (.istore_n 3, (1, (0, (0, 0))))), (123, (.aload_n 0, (1, (0, (0, 0))))), (124, (.getfield 9, (3, (11, (0, 2))))), (127, (.bipush 61, (2, (0, (0, 0)))))],
  [(129, (.iload_n 3, (1, (0, (0, 0))))), (130, (.bipush 15, (2, (0, (0, 0))))), (132, (.imul, (1, (0, (0, 0))))), (133, (.iadd, (1, (0, (0, 0))))), (134, (.iconst 2, (1, (0, (0, 0))))), (135, (.iadd, (1, (0, (0, 0))))), (136, (.aload_n 0, (1, (0, (0, 0))))), (137, (.iload_n 1, (1, (0, (0, 0))))), (138, (.iconst 2, (1, (0, (0, 0))))), (139, (.invokevirtual 73, (3, (142, (3, 0))))), (142, (.iastore, (1, (0, (0, 0))))), (143, (.iconst 0, (1, (0, (0, 0))))), (144, (.istore 4, (2, (0, (0, 0))))), (146, (.iload 4, (2, (0, (0, 0))))), (148, (.aload_n 0, (1, (0, (0, 0))))), (149, (.iload_n 1, (1, (0, (0, 0))))), (150, (.iconst 4, (1, (0, (0, 0))))), (151, (.invokevirtual 73, (3, (142, (3, 0))))), (154, (.if_icmp .ge 62, (3, (0, (0, 0))))), (157, (.aload_n 0, (1, (0, (0, 0))))), (158, (.iload_n 1, (1, (0, (0, 0))))), (159, (.iload 4, (2, (0, (0, 0))))), (161, (.invokevirtual 77, (3, (144, (3, 0))))), (164, (.iconst 2, (1, (0, (0, 0))))), (165, (.idiv, (1, (0, (0, 0))))), (166, (.istore 5, (2, (0, (0, 0))))), (168, (.aload_n 0, (1, (0, (0, 0))))), (169, (.iload_n 3, (1, (0, (0, 0))))), (170, (.aload_n 0, (1, (0, (0, 0))))), (171, (.iload_n 1, (1, (0, (0, 0))))), (172, (.iload 4, (2, (0, (0, 0))))), (174, (.invokevirtual 95, (3, (143, (3, 0))))), (177, (.iload 5, (2, (0, (0, 0))))), (179, (.invokevirtual 65, (3, (141, (4, 0))))), (182, (.istore 6, (2, (0, (0, 0))))), (184, (.aload_n 0, (1, (0, (0, 0))))), (185, (.getfield 9, (3, (11, (0, 2))))), (188, (.bipush 61, (2, (0, (0, 0))))), (190, (.iload_n 1, (1, (0, (0, 0))))), (191, (.bipush 15, (2, (0, (0, 0)))))],
  [(193, (.imul, (1, (0, (0, 0))))), (194, (.iadd, (1, (0, (0, 0))))), (195, (.iconst 5, (1, (0, (0, 0))))), (196, (.iadd, (1, (0, (0, 0))))), (197, (.iconst 2, (1, (0, (0, 0))))), (198, (.iload 4, (2, (0, (0, 0))))), (200, (.imul, (1, (0, (0, 0))))), (201, (.iadd, (1, (0, (0, 0))))), (202, (.iconst 1, (1, (0, (0, 0))))), (203, (.iadd, (1, (0, (0, 0))))), (204, (.dup2, (1, (0, (0, 0))))), (205, (.iaload, (1, (0, (0, 0))))), (206, (.iload 5, (2, (0, (0, 0))))), (208, (.isub, (1, (0, (0, 0))))), (209, (.iastore, (1, (0, (0, 0))))), (210, (.iinc 4 1, (3, (0, (0, 0))))), (213, (.goto (-67), (3, (0, (0, 0))))), (216, (.aload_n 0, (1, (0, (0, 0))))), (217, (.invokevirtual 158, (3, (166, (1, 0))))), (220, (.iload_n 3, (1, (0, (0, 0))))), (221, (.ireturn, (1, (0, (0, 0)))))]]
set_option maxRecDepth 100000 in
noncomputable def mc_X11_plan : List (List mI) := [[(0, (.aload_n 0, (1, (0, (0, 0))))), (1, (.iload_n 1, (1, (0, (0, 0))))), (2, (.iconst 0, (1, (0, (0, 0))))), (3, (.bipush 7, (2, (0, (0, 0))))), (5, (.invokestatic 83, (3, (138, (3, 1))))), (8, (.iconst 1, (1, (0, (0, 0))))), (9, (.iconst 1, (1, (0, (0, 0))))), (10, (.invokevirtual 151, (3, (139, (4, 0))))), (13, (.ifCond .ne 5, (3, (0, (0, 0))))), (16, (.iconst 0, (1, (0, (0, 0))))), (17, (.ireturn, (1, (0, (0, 0))))), (18, (.aload_n 0, (1, (0, (0, 0))))), (19, (.invokevirtual 155, (3, (167, (1, 0))))), (22, (.aload_n 0, (1, (0, (0, 0))))), (23, (.invokevirtual 109, (3, (151, (1, 0))))), (26, (.aload_n 0, (1, (0, (0, 0))))), (27, (.invokevirtual 161, (3, (164, (1, 0))))), (30, (.aload_n 0, (1, (0, (0, 0))))), (31, (.iload_n 1, (1, (0, (0, 0))))), (32, (.invokevirtual 164, (3, (162, (2, 0))))), (35, (.aload_n 0, (1, (0, (0, 0))))), (36, (.invokevirtual 167, (3, (165, (1, 0))))), (39, (.ireturn, (1, (0, (0, 0)))))]]
set_option maxRecDepth 100000 in
noncomputable def mc_X11_tell : List (List mI) := [[(0, (.lload_n 1, (1, (0, (0, 0))))), (1, (.lconst 0, (1, (0, (0, 0))))), (2, (.lcmp, (1, (0, (0, 0))))), (3, (.ifCond .lt 7, (3, (0, (0, 0))))), (6, (.iconst 1, (1, (0, (0, 0))))), (7, (.goto 4, (3, (0, (0, 0))))), (10, (.iconst 0, (1, (0, (0, 0))))), (11, (.istore_n 3, (1, (0, (0, 0))))), (12, (.iconst 0, (1, (0, (0, 0))))), (13, (.istore 4, (2, (0, (0, 0))))), (15, (.iload 4, (2, (0, (0, 0))))), (17, (.bipush 6, (2, (0, (0, 0))))), (19, (.if_icmp .ge 17, (3, (0, (0, 0))))), (22, (.aload_n 0, (1, (0, (0, 0))))), (23, (.getfield 49, (3, (11, (15, 2))))), (26, (.iload 4, (2, (0, (0, 0))))), (28, (.iconst 0, (1, (0, (0, 0))))), (29, (.iastore, (1, (0, (0, 0))))), (30, (.iinc 4 1, (3, (0, (0, 0))))), (33, (.goto (-18), (3, (0, (0, 0))))), (36, (.lload_n 1, (1, (0, (0, 0))))), (37, (.lstore 4, (2, (0, (0, 0))))), (39, (.lload 4, (2, (0, (0, 0))))), (41, (.lconst 0, (1, (0, (0, 0))))), (42, (.lcmp, (1, (0, (0, 0))))), (43, (.ifCond .le 51, (3, (0, (0, 0))))), (46, (.iload_n 3, (1, (0, (0, 0))))), (47, (.ifCond .eq 47, (3, (0, (0, 0))))), (50, (.lload 4, (2, (0, (0, 0))))), (52, (.ldc2_w 170, (3, (10, (0, 0))))), (55, (.lrem, (1, (0, (0, 0))))), (56, (.l2i, (1, (0, (0, 0))))), (57, (.iconst 1, (1, (0, (0, 0))))), (58, (.isub, (1, (0, (0, 0))))), (59, (.istore 6, (2, (0, (0, 0))))), (61, (.aload_n 0, (1, (0, (0, 0))))), (62, (.iload 6, (2, (0, (0, 0)))))],
  [(64, (.invokevirtual 87, (3, (148, (2, 0))))), (67, (.istore_n 3, (1, (0, (0, 0))))), (68, (.iload_n 3, (1, (0, (0, 0))))), (69, (.ifCond .eq 14, (3, (0, (0, 0))))), (72, (.aload_n 0, (1, (0, (0, 0))))), (73, (.getfield 49, (3, (11, (15, 2))))), (76, (.iload 6, (2, (0, (0, 0))))), (78, (.dup2, (1, (0, (0, 0))))), (79, (.iaload, (1, (0, (0, 0))))), (80, (.iconst 1, (1, (0, (0, 0))))), (81, (.iadd, (1, (0, (0, 0))))), (82, (.iastore, (1, (0, (0, 0))))), (83, (.lload 4, (2, (0, (0, 0))))), (85, (.ldc2_w 170, (3, (10, (0, 0))))), (88, (.ldiv, (1, (0, (0, 0))))), (89, (.lstore 4, (2, (0, (0, 0))))), (91, (.goto (-52), (3, (0, (0, 0))))), (94, (.iconst 0, (1, (0, (0, 0))))), (95, (.istore 4, (2, (0, (0, 0))))), (97, (.iload 4, (2, (0, (0, 0))))), (99, (.aload_n 0, (1, (0, (0, 0))))), (100, (.getfield 9, (3, (11, (0, 2))))), (103, (.iconst 0, (1, (0, (0, 0))))), (104, (.iaload, (1, (0, (0, 0))))), (105, (.if_icmp .ge 36, (3, (0, (0, 0))))), (108, (.iload_n 3, (1, (0, (0, 0))))), (109, (.ifCond .eq 24, (3, (0, (0, 0))))), (112, (.aload_n 0, (1, (0, (0, 0))))), (113, (.getfield 49, (3, (11, (15, 2))))), (116, (.iload 4, (2, (0, (0, 0))))), (118, (.iaload, (1, (0, (0, 0))))), (119, (.aload_n 0, (1, (0, (0, 0))))), (120, (.iload 4, (2, (0, (0, 0))))), (122, (.iconst 4, (1, (0, (0, 0))))), (123, (.invokevirtual 73, (3, (142, (3, 0))))), (126, (.if_icmp .ne 7, (3, (0, (0, 0)))))],
  [(129, (.iconst 1, (1, (0, (0, 0))))), (130, (.goto 4, (3, (0, (0, 0))))), (133, (.iconst 0, (1, (0, (0, 0))))), (134, (.istore_n 3, (1, (0, (0, 0))))), (135, (.iinc 4 1, (3, (0, (0, 0))))), (138, (.goto (-41), (3, (0, (0, 0))))), (141, (.aload_n 0, (1, (0, (0, 0))))), (142, (.iload_n 3, (1, (0, (0, 0))))), (143, (.iconst 1, (1, (0, (0, 0))))), (144, (.iconst 1, (1, (0, (0, 0))))), (145, (.invokevirtual 151, (3, (139, (4, 0))))), (148, (.ifCond .ne 5, (3, (0, (0, 0))))), (151, (.iconst 0, (1, (0, (0, 0))))), (152, (.ireturn, (1, (0, (0, 0))))), (153, (.aload_n 0, (1, (0, (0, 0))))), (154, (.invokevirtual 155, (3, (167, (1, 0))))), (157, (.aload_n 0, (1, (0, (0, 0))))), (158, (.invokevirtual 109, (3, (151, (1, 0))))), (161, (.aload_n 0, (1, (0, (0, 0))))), (162, (.invokevirtual 161, (3, (164, (1, 0))))), (165, (.lconst 1, (1, (0, (0, 0))))), (166, (.lstore 4, (2, (0, (0, 0))))), (168, (.lload 4, (2, (0, (0, 0))))), (170, (.lload_n 1, (1, (0, (0, 0))))), (171, (.ldc2_w 170, (3, (10, (0, 0))))), (174, (.ldiv, (1, (0, (0, 0))))), (175, (.lcmp, (1, (0, (0, 0))))), (176, (.ifCond .gt 14, (3, (0, (0, 0))))), (179, (.lload 4, (2, (0, (0, 0))))), (181, (.ldc2_w 170, (3, (10, (0, 0))))), (184, (.lmul, (1, (0, (0, 0))))), (185, (.lstore 4, (2, (0, (0, 0))))), (187, (.goto (-19), (3, (0, (0, 0))))), (190, (.lload 4, (2, (0, (0, 0)))))],
  [(192, (.lconst 0, (1, (0, (0, 0))))), (193, (.lcmp, (1, (0, (0, 0))))), (194, (.ifCond .le 50, (3, (0, (0, 0))))), (197, (.lload_n 1, (1, (0, (0, 0))))), (198, (.lconst 0, (1, (0, (0, 0))))), (199, (.lcmp, (1, (0, (0, 0))))), (200, (.ifCond .le 44, (3, (0, (0, 0))))), (203, (.lload_n 1, (1, (0, (0, 0))))), (204, (.lload 4, (2, (0, (0, 0))))), (206, (.ldiv, (1, (0, (0, 0))))), (207, (.ldc2_w 170, (3, (10, (0, 0))))), (210, (.lrem, (1, (0, (0, 0))))), (211, (.l2i, (1, (0, (0, 0))))), (212, (.iconst 1, (1, (0, (0, 0))))), (213, (.isub, (1, (0, (0, 0))))), (214, (.istore 6, (2, (0, (0, 0))))), (216, (.aload_n 0, (1, (0, (0, 0))))), (217, (.iload 6, (2, (0, (0, 0))))), (219, (.invokevirtual 131, (3, (163, (2, 0))))), (222, (.aload_n 0, (1, (0, (0, 0))))), (223, (.getfield 19, (3, (11, (5, 2))))), (226, (.iload 6, (2, (0, (0, 0))))), (228, (.dup2, (1, (0, (0, 0))))), (229, (.iaload, (1, (0, (0, 0))))), (230, (.iconst 1, (1, (0, (0, 0))))), (231, (.iadd, (1, (0, (0, 0))))), (232, (.iastore, (1, (0, (0, 0))))), (233, (.lload 4, (2, (0, (0, 0))))), (235, (.ldc2_w 170, (3, (10, (0, 0))))), (238, (.ldiv, (1, (0, (0, 0))))), (239, (.lstore 4, (2, (0, (0, 0))))), (241, (.goto (-51), (3, (0, (0, 0))))), (244, (.aload_n 0, (1, (0, (0, 0))))), (245, (.invokevirtual 167, (3, (165, (1, 0))))), (248, (.ireturn, (1, (0, (0, 0)))))]]
set_option maxRecDepth 100000 in
noncomputable def mc_X11_remembers : List (List mI) := [[(0, (.aload_n 0, (1, (0, (0, 0))))), (1, (.iload_n 2, (1, (0, (0, 0))))), (2, (.aload_n 0, (1, (0, (0, 0))))), (3, (.getfield 19, (3, (11, (5, 2))))), (6, (.iload_n 2, (1, (0, (0, 0))))), (7, (.iaload, (1, (0, (0, 0))))), (8, (.invokevirtual 95, (3, (143, (3, 0))))), (11, (.istore_n 3, (1, (0, (0, 0))))), (12, (.aload_n 0, (1, (0, (0, 0))))), (13, (.getfield 43, (3, (11, (13, 2))))), (16, (.iconst 4, (1, (0, (0, 0))))), (17, (.iload_n 1, (1, (0, (0, 0))))), (18, (.imul, (1, (0, (0, 0))))), (19, (.aload_n 0, (1, (0, (0, 0))))), (20, (.getfield 25, (3, (11, (7, 2))))), (23, (.iload_n 3, (1, (0, (0, 0))))), (24, (.iaload, (1, (0, (0, 0))))), (25, (.iastore, (1, (0, (0, 0))))), (26, (.aload_n 0, (1, (0, (0, 0))))), (27, (.getfield 43, (3, (11, (13, 2))))), (30, (.iconst 4, (1, (0, (0, 0))))), (31, (.iload_n 1, (1, (0, (0, 0))))), (32, (.imul, (1, (0, (0, 0))))), (33, (.iconst 1, (1, (0, (0, 0))))), (34, (.iadd, (1, (0, (0, 0))))), (35, (.aload_n 0, (1, (0, (0, 0))))), (36, (.getfield 28, (3, (11, (8, 2))))), (39, (.iload_n 3, (1, (0, (0, 0))))), (40, (.iaload, (1, (0, (0, 0))))), (41, (.iastore, (1, (0, (0, 0))))), (42, (.aload_n 0, (1, (0, (0, 0))))), (43, (.getfield 43, (3, (11, (13, 2))))), (46, (.iconst 4, (1, (0, (0, 0))))), (47, (.iload_n 1, (1, (0, (0, 0))))), (48, (.imul, (1, (0, (0, 0))))), (49, (.iconst 2, (1, (0, (0, 0))))), (50, (.iadd, (1, (0, (0, 0))))), (51, (.aload_n 0, (1, (0, (0, 0))))), (52, (.getfield 31, (3, (11, (9, 2))))), (55, (.iload_n 3, (1, (0, (0, 0))))), (56, (.iaload, (1, (0, (0, 0))))), (57, (.iastore, (1, (0, (0, 0))))), (58, (.aload_n 0, (1, (0, (0, 0))))), (59, (.getfield 43, (3, (11, (13, 2))))), (62, (.iconst 4, (1, (0, (0, 0))))), (63, (.iload_n 1, (1, (0, (0, 0)))))],
  [(64, (.imul, (1, (0, (0, 0))))), (65, (.iconst 3, (1, (0, (0, 0))))), (66, (.iadd, (1, (0, (0, 0))))), (67, (.aload_n 0, (1, (0, (0, 0))))), (68, (.getfield 22, (3, (11, (6, 2))))), (71, (.iload_n 2, (1, (0, (0, 0))))), (72, (.iaload, (1, (0, (0, 0))))), (73, (.iastore, (1, (0, (0, 0))))), (74, (.return_, (1, (0, (0, 0)))))]]
set_option maxRecDepth 100000 in
noncomputable def mc_X11_takesBack : List (List mI) := [[(0, (.aload_n 0, (1, (0, (0, 0))))), (1, (.getfield 40, (3, (11, (12, 2))))), (4, (.iload_n 1, (1, (0, (0, 0))))), (5, (.iaload, (1, (0, (0, 0))))), (6, (.istore_n 2, (1, (0, (0, 0))))), (7, (.aload_n 0, (1, (0, (0, 0))))), (8, (.getfield 19, (3, (11, (5, 2))))), (11, (.iload_n 2, (1, (0, (0, 0))))), (12, (.dup2, (1, (0, (0, 0))))), (13, (.iaload, (1, (0, (0, 0))))), (14, (.iconst 1, (1, (0, (0, 0))))), (15, (.isub, (1, (0, (0, 0))))), (16, (.iastore, (1, (0, (0, 0))))), (17, (.aload_n 0, (1, (0, (0, 0))))), (18, (.iload_n 2, (1, (0, (0, 0))))), (19, (.aload_n 0, (1, (0, (0, 0))))), (20, (.getfield 19, (3, (11, (5, 2))))), (23, (.iload_n 2, (1, (0, (0, 0))))), (24, (.iaload, (1, (0, (0, 0))))), (25, (.invokevirtual 95, (3, (143, (3, 0))))), (28, (.istore_n 3, (1, (0, (0, 0))))), (29, (.aload_n 0, (1, (0, (0, 0))))), (30, (.getfield 25, (3, (11, (7, 2))))), (33, (.iload_n 3, (1, (0, (0, 0))))), (34, (.aload_n 0, (1, (0, (0, 0))))), (35, (.getfield 43, (3, (11, (13, 2))))), (38, (.iconst 4, (1, (0, (0, 0))))), (39, (.iload_n 1, (1, (0, (0, 0))))), (40, (.imul, (1, (0, (0, 0))))), (41, (.iaload, (1, (0, (0, 0))))), (42, (.iastore, (1, (0, (0, 0))))), (43, (.aload_n 0, (1, (0, (0, 0))))), (44, (.getfield 28, (3, (11, (8, 2))))), (47, (.iload_n 3, (1, (0, (0, 0))))), (48, (.aload_n 0, (1, (0, (0, 0))))), (49, (.getfield 43, (3, (11, (13, 2))))), (52, (.iconst 4, (1, (0, (0, 0))))), (53, (.iload_n 1, (1, (0, (0, 0))))), (54, (.imul, (1, (0, (0, 0))))), (55, (.iconst 1, (1, (0, (0, 0))))), (56, (.iadd, (1, (0, (0, 0))))), (57, (.iaload, (1, (0, (0, 0))))), (58, (.iastore, (1, (0, (0, 0))))), (59, (.aload_n 0, (1, (0, (0, 0))))), (60, (.getfield 31, (3, (11, (9, 2))))), (63, (.iload_n 3, (1, (0, (0, 0)))))],
  [(64, (.aload_n 0, (1, (0, (0, 0))))), (65, (.getfield 43, (3, (11, (13, 2))))), (68, (.iconst 4, (1, (0, (0, 0))))), (69, (.iload_n 1, (1, (0, (0, 0))))), (70, (.imul, (1, (0, (0, 0))))), (71, (.iconst 2, (1, (0, (0, 0))))), (72, (.iadd, (1, (0, (0, 0))))), (73, (.iaload, (1, (0, (0, 0))))), (74, (.iastore, (1, (0, (0, 0))))), (75, (.aload_n 0, (1, (0, (0, 0))))), (76, (.getfield 22, (3, (11, (6, 2))))), (79, (.iload_n 2, (1, (0, (0, 0))))), (80, (.aload_n 0, (1, (0, (0, 0))))), (81, (.getfield 43, (3, (11, (13, 2))))), (84, (.iconst 4, (1, (0, (0, 0))))), (85, (.iload_n 1, (1, (0, (0, 0))))), (86, (.imul, (1, (0, (0, 0))))), (87, (.iconst 3, (1, (0, (0, 0))))), (88, (.iadd, (1, (0, (0, 0))))), (89, (.iaload, (1, (0, (0, 0))))), (90, (.iastore, (1, (0, (0, 0))))), (91, (.return_, (1, (0, (0, 0)))))]]
set_option maxRecDepth 100000 in
noncomputable def mc_X11_nextJob : List (List mI) := [[(0, (.iload_n 1, (1, (0, (0, 0))))), (1, (.iconst 1, (1, (0, (0, 0))))), (2, (.iadd, (1, (0, (0, 0))))), (3, (.istore_n 2, (1, (0, (0, 0))))), (4, (.iload_n 2, (1, (0, (0, 0))))), (5, (.aload_n 0, (1, (0, (0, 0))))), (6, (.getfield 9, (3, (11, (0, 2))))), (9, (.iconst 0, (1, (0, (0, 0))))), (10, (.iaload, (1, (0, (0, 0))))), (11, (.if_icmp .ge 24, (3, (0, (0, 0))))), (14, (.aload_n 0, (1, (0, (0, 0))))), (15, (.getfield 19, (3, (11, (5, 2))))), (18, (.iload_n 2, (1, (0, (0, 0))))), (19, (.iaload, (1, (0, (0, 0))))), (20, (.aload_n 0, (1, (0, (0, 0))))), (21, (.iload_n 2, (1, (0, (0, 0))))), (22, (.iconst 4, (1, (0, (0, 0))))), (23, (.invokevirtual 73, (3, (142, (3, 0))))), (26, (.if_icmp .ne 9, (3, (0, (0, 0))))), (29, (.iinc 2 1, (3, (0, (0, 0))))), (32, (.goto (-28), (3, (0, (0, 0))))), (35, (.iload_n 2, (1, (0, (0, 0))))), (36, (.aload_n 0, (1, (0, (0, 0))))), (37, (.getfield 9, (3, (11, (0, 2))))), (40, (.iconst 0, (1, (0, (0, 0))))), (41, (.iaload, (1, (0, (0, 0))))), (42, (.if_icmp .ge 7, (3, (0, (0, 0))))), (45, (.iload_n 2, (1, (0, (0, 0))))), (46, (.goto 4, (3, (0, (0, 0))))), (49, (.iconst (-1), (1, (0, (0, 0))))), (50, (.ireturn, (1, (0, (0, 0)))))]]
set_option maxRecDepth 100000 in
noncomputable def mc_X11_best : List (List mI) := [[(0, (.aload_n 0, (1, (0, (0, 0))))), (1, (.invokevirtual 120, (3, (147, (1, 0))))), (4, (.istore_n 2, (1, (0, (0, 0))))), (5, (.aload_n 0, (1, (0, (0, 0))))), (6, (.iload_n 1, (1, (0, (0, 0))))), (7, (.iconst 0, (1, (0, (0, 0))))), (8, (.iconst 4, (1, (0, (0, 0))))), (9, (.invokestatic 83, (3, (138, (3, 1))))), (12, (.iload_n 2, (1, (0, (0, 0))))), (13, (.bipush 8, (2, (0, (0, 0))))), (15, (.if_icmp .gt 7, (3, (0, (0, 0))))), (18, (.iconst 1, (1, (0, (0, 0))))), (19, (.goto 4, (3, (0, (0, 0))))), (22, (.iconst 0, (1, (0, (0, 0))))), (23, (.iconst 1, (1, (0, (0, 0))))), (24, (.invokevirtual 151, (3, (139, (4, 0))))), (27, (.ifCond .ne 5, (3, (0, (0, 0))))), (30, (.iconst 0, (1, (0, (0, 0))))), (31, (.ireturn, (1, (0, (0, 0))))), (32, (.aload_n 0, (1, (0, (0, 0))))), (33, (.invokevirtual 155, (3, (167, (1, 0))))), (36, (.aload_n 0, (1, (0, (0, 0))))), (37, (.invokevirtual 109, (3, (151, (1, 0))))), (40, (.aload_n 0, (1, (0, (0, 0))))), (41, (.iload_n 1, (1, (0, (0, 0))))), (42, (.invokevirtual 172, (3, (160, (2, 0))))), (45, (.istore_n 3, (1, (0, (0, 0))))), (46, (.iload_n 2, (1, (0, (0, 0))))), (47, (.ifCond .ne 7, (3, (0, (0, 0))))), (50, (.iconst 1, (1, (0, (0, 0))))), (51, (.goto 4, (3, (0, (0, 0))))), (54, (.iconst 0, (1, (0, (0, 0))))), (55, (.istore 4, (2, (0, (0, 0))))), (57, (.iconst 0, (1, (0, (0, 0))))), (58, (.istore 5, (2, (0, (0, 0))))), (60, (.aload_n 0, (1, (0, (0, 0))))), (61, (.getfield 40, (3, (11, (12, 2)))))],
  [(64, (.iconst 0, (1, (0, (0, 0))))), (65, (.iconst (-1), (1, (0, (0, 0))))), (66, (.iastore, (1, (0, (0, 0))))), (67, (.iload 5, (2, (0, (0, 0))))), (69, (.ifCond .lt 141, (3, (0, (0, 0))))), (72, (.iload_n 2, (1, (0, (0, 0))))), (73, (.ifCond .le 137, (3, (0, (0, 0))))), (76, (.aload_n 0, (1, (0, (0, 0))))), (77, (.aload_n 0, (1, (0, (0, 0))))), (78, (.getfield 40, (3, (11, (12, 2))))), (81, (.iload 5, (2, (0, (0, 0))))), (83, (.iaload, (1, (0, (0, 0))))), (84, (.invokevirtual 175, (3, (178, (2, 0))))), (87, (.istore 6, (2, (0, (0, 0))))), (89, (.iload 6, (2, (0, (0, 0))))), (91, (.iconst (-1), (1, (0, (0, 0))))), (92, (.if_icmp .ne 20, (3, (0, (0, 0))))), (95, (.iinc 5 (-1), (3, (0, (0, 0))))), (98, (.iload 5, (2, (0, (0, 0))))), (100, (.ifCond .lt (-33), (3, (0, (0, 0))))), (103, (.aload_n 0, (1, (0, (0, 0))))), (104, (.iload 5, (2, (0, (0, 0))))), (106, (.invokevirtual 178, (3, (177, (2, 0))))), (109, (.goto (-42), (3, (0, (0, 0))))), (112, (.aload_n 0, (1, (0, (0, 0))))), (113, (.iload 5, (2, (0, (0, 0))))), (115, (.iload 6, (2, (0, (0, 0))))), (117, (.invokevirtual 181, (3, (176, (3, 0))))), (120, (.aload_n 0, (1, (0, (0, 0))))), (121, (.getfield 40, (3, (11, (12, 2))))), (124, (.iload 5, (2, (0, (0, 0))))), (126, (.iload 6, (2, (0, (0, 0)))))],
  [(128, (.iastore, (1, (0, (0, 0))))), (129, (.aload_n 0, (1, (0, (0, 0))))), (130, (.iload 6, (2, (0, (0, 0))))), (132, (.aload_n 0, (1, (0, (0, 0))))), (133, (.iload 6, (2, (0, (0, 0))))), (135, (.invokevirtual 112, (3, (155, (2, 0))))), (138, (.invokevirtual 116, (3, (156, (3, 0))))), (141, (.iload 5, (2, (0, (0, 0))))), (143, (.iconst 1, (1, (0, (0, 0))))), (144, (.iadd, (1, (0, (0, 0))))), (145, (.iload_n 2, (1, (0, (0, 0))))), (146, (.if_icmp .ge 17, (3, (0, (0, 0))))), (149, (.iinc 5 1, (3, (0, (0, 0))))), (152, (.aload_n 0, (1, (0, (0, 0))))), (153, (.getfield 40, (3, (11, (12, 2))))), (156, (.iload 5, (2, (0, (0, 0))))), (158, (.iconst (-1), (1, (0, (0, 0))))), (159, (.iastore, (1, (0, (0, 0))))), (160, (.goto (-93), (3, (0, (0, 0))))), (163, (.aload_n 0, (1, (0, (0, 0))))), (164, (.iload_n 1, (1, (0, (0, 0))))), (165, (.invokevirtual 172, (3, (160, (2, 0))))), (168, (.istore 7, (2, (0, (0, 0))))), (170, (.iload 4, (2, (0, (0, 0))))), (172, (.ifCond .eq 9, (3, (0, (0, 0))))), (175, (.iload 7, (2, (0, (0, 0))))), (177, (.iload_n 3, (1, (0, (0, 0))))), (178, (.if_icmp .ge 23, (3, (0, (0, 0))))), (181, (.iconst 1, (1, (0, (0, 0))))), (182, (.istore 4, (2, (0, (0, 0))))), (184, (.iload 7, (2, (0, (0, 0))))), (186, (.istore_n 3, (1, (0, (0, 0))))), (187, (.aload_n 0, (1, (0, (0, 0))))), (188, (.getfield 40, (3, (11, (12, 2))))), (191, (.iconst 0, (1, (0, (0, 0)))))],
  [(192, (.aload_n 0, (1, (0, (0, 0))))), (193, (.getfield 46, (3, (11, (14, 2))))), (196, (.iconst 0, (1, (0, (0, 0))))), (197, (.iload_n 2, (1, (0, (0, 0))))), (198, (.invokestatic 135, (3, (0, (5, 7))))), (201, (.aload_n 0, (1, (0, (0, 0))))), (202, (.iload 5, (2, (0, (0, 0))))), (204, (.invokevirtual 178, (3, (177, (2, 0))))), (207, (.goto (-140), (3, (0, (0, 0))))), (210, (.aload_n 0, (1, (0, (0, 0))))), (211, (.invokevirtual 109, (3, (151, (1, 0))))), (214, (.aload_n 0, (1, (0, (0, 0))))), (215, (.invokevirtual 161, (3, (164, (1, 0))))), (218, (.iconst 0, (1, (0, (0, 0))))), (219, (.istore 6, (2, (0, (0, 0))))), (221, (.iload 6, (2, (0, (0, 0))))), (223, (.iload_n 2, (1, (0, (0, 0))))), (224, (.if_icmp .ge 36, (3, (0, (0, 0))))), (227, (.aload_n 0, (1, (0, (0, 0))))), (228, (.aload_n 0, (1, (0, (0, 0))))), (229, (.getfield 46, (3, (11, (14, 2))))), (232, (.iload 6, (2, (0, (0, 0))))), (234, (.iaload, (1, (0, (0, 0))))), (235, (.invokevirtual 131, (3, (163, (2, 0))))), (238, (.aload_n 0, (1, (0, (0, 0))))), (239, (.getfield 19, (3, (11, (5, 2))))), (242, (.aload_n 0, (1, (0, (0, 0))))), (243, (.getfield 46, (3, (11, (14, 2))))), (246, (.iload 6, (2, (0, (0, 0))))), (248, (.iaload, (1, (0, (0, 0))))), (249, (.dup2, (1, (0, (0, 0))))), (250, (.iaload, (1, (0, (0, 0))))), (251, (.iconst 1, (1, (0, (0, 0))))), (252, (.iadd, (1, (0, (0, 0))))), (253, (.iastore, (1, (0, (0, 0))))), (254, (.iinc 6 1, (3, (0, (0, 0)))))],
  [(257, (.goto (-36), (3, (0, (0, 0))))), (260, (.aload_n 0, (1, (0, (0, 0))))), (261, (.invokevirtual 167, (3, (165, (1, 0))))), (264, (.istore 6, (2, (0, (0, 0))))), (266, (.iload_n 3, (1, (0, (0, 0))))), (267, (.ireturn, (1, (0, (0, 0)))))]]
set_option maxRecDepth 100000 in
noncomputable def mc_X11_exchanges : List (List mI) := [[(0, (.aload_n 0, (1, (0, (0, 0))))), (1, (.getfield 9, (3, (11, (0, 2))))), (4, (.iload_n 1, (1, (0, (0, 0))))), (5, (.iaload, (1, (0, (0, 0))))), (6, (.istore_n 2, (1, (0, (0, 0))))), (7, (.aload_n 0, (1, (0, (0, 0))))), (8, (.getfield 9, (3, (11, (0, 2))))), (11, (.iload_n 1, (1, (0, (0, 0))))), (12, (.aload_n 0, (1, (0, (0, 0))))), (13, (.getfield 9, (3, (11, (0, 2))))), (16, (.iload_n 1, (1, (0, (0, 0))))), (17, (.iconst 1, (1, (0, (0, 0))))), (18, (.iadd, (1, (0, (0, 0))))), (19, (.iaload, (1, (0, (0, 0))))), (20, (.iastore, (1, (0, (0, 0))))), (21, (.aload_n 0, (1, (0, (0, 0))))), (22, (.getfield 9, (3, (11, (0, 2))))), (25, (.iload_n 1, (1, (0, (0, 0))))), (26, (.iconst 1, (1, (0, (0, 0))))), (27, (.iadd, (1, (0, (0, 0))))), (28, (.iload_n 2, (1, (0, (0, 0))))), (29, (.iastore, (1, (0, (0, 0))))), (30, (.return_, (1, (0, (0, 0)))))]]
set_option maxRecDepth 100000 in
noncomputable def mc_X11_swap : List (List mI) := [[(0, (.iload_n 1, (1, (0, (0, 0))))), (1, (.iconst 0, (1, (0, (0, 0))))), (2, (.iconst 3, (1, (0, (0, 0))))), (3, (.invokestatic 83, (3, (138, (3, 1))))), (6, (.ifCond .eq 30, (3, (0, (0, 0))))), (9, (.iload_n 2, (1, (0, (0, 0))))), (10, (.iconst 0, (1, (0, (0, 0))))), (11, (.aload_n 0, (1, (0, (0, 0))))), (12, (.getfield 9, (3, (11, (0, 2))))), (15, (.sipush 152, (3, (0, (0, 0))))), (18, (.iload_n 1, (1, (0, (0, 0))))), (19, (.bipush 31, (2, (0, (0, 0))))), (21, (.imul, (1, (0, (0, 0))))), (22, (.iadd, (1, (0, (0, 0))))), (23, (.iaload, (1, (0, (0, 0))))), (24, (.iconst 2, (1, (0, (0, 0))))), (25, (.isub, (1, (0, (0, 0))))), (26, (.invokestatic 83, (3, (138, (3, 1))))), (29, (.ifCond .eq 7, (3, (0, (0, 0))))), (32, (.iconst 1, (1, (0, (0, 0))))), (33, (.goto 4, (3, (0, (0, 0))))), (36, (.iconst 0, (1, (0, (0, 0))))), (37, (.istore_n 3, (1, (0, (0, 0))))), (38, (.iload_n 3, (1, (0, (0, 0))))), (39, (.istore 4, (2, (0, (0, 0))))), (41, (.iload_n 3, (1, (0, (0, 0))))), (42, (.ifCond .eq 35, (3, (0, (0, 0))))), (45, (.sipush 152, (3, (0, (0, 0))))), (48, (.iload_n 1, (1, (0, (0, 0))))), (49, (.bipush 31, (2, (0, (0, 0))))), (51, (.imul, (1, (0, (0, 0))))), (52, (.iadd, (1, (0, (0, 0))))), (53, (.iconst 1, (1, (0, (0, 0))))), (54, (.iadd, (1, (0, (0, 0))))), (55, (.iload_n 2, (1, (0, (0, 0))))), (56, (.iadd, (1, (0, (0, 0))))), (57, (.istore 5, (2, (0, (0, 0))))), (59, (.aload_n 0, (1, (0, (0, 0))))), (60, (.iload 5, (2, (0, (0, 0))))), (62, (.invokevirtual 184, (3, (180, (2, 0)))))],
  [(65, (.aload_n 0, (1, (0, (0, 0))))), (66, (.invokevirtual 141, (3, (158, (1, 0))))), (69, (.istore 4, (2, (0, (0, 0))))), (71, (.aload_n 0, (1, (0, (0, 0))))), (72, (.iload 5, (2, (0, (0, 0))))), (74, (.invokevirtual 184, (3, (180, (2, 0))))), (77, (.aload_n 0, (1, (0, (0, 0))))), (78, (.iload_n 3, (1, (0, (0, 0))))), (79, (.iload 4, (2, (0, (0, 0))))), (81, (.iconst 1, (1, (0, (0, 0))))), (82, (.invokevirtual 151, (3, (139, (4, 0))))), (85, (.ifCond .ne 5, (3, (0, (0, 0))))), (88, (.iconst 0, (1, (0, (0, 0))))), (89, (.ireturn, (1, (0, (0, 0))))), (90, (.aload_n 0, (1, (0, (0, 0))))), (91, (.invokevirtual 155, (3, (167, (1, 0))))), (94, (.aload_n 0, (1, (0, (0, 0))))), (95, (.sipush 152, (3, (0, (0, 0))))), (98, (.iload_n 1, (1, (0, (0, 0))))), (99, (.bipush 31, (2, (0, (0, 0))))), (101, (.imul, (1, (0, (0, 0))))), (102, (.iadd, (1, (0, (0, 0))))), (103, (.iconst 1, (1, (0, (0, 0))))), (104, (.iadd, (1, (0, (0, 0))))), (105, (.iload_n 2, (1, (0, (0, 0))))), (106, (.iadd, (1, (0, (0, 0))))), (107, (.invokevirtual 184, (3, (180, (2, 0))))), (110, (.aload_n 0, (1, (0, (0, 0))))), (111, (.invokevirtual 141, (3, (158, (1, 0))))), (114, (.istore 4, (2, (0, (0, 0))))), (116, (.aload_n 0, (1, (0, (0, 0))))), (117, (.invokevirtual 145, (3, (159, (1, 0))))), (120, (.ireturn, (1, (0, (0, 0)))))]]
set_option maxRecDepth 100000 in
noncomputable def mc_X11_replan : List (List mI) := [[(0, (.aload_n 0, (1, (0, (0, 0))))), (1, (.iload_n 1, (1, (0, (0, 0))))), (2, (.iconst 0, (1, (0, (0, 0))))), (3, (.bipush 7, (2, (0, (0, 0))))), (5, (.invokestatic 83, (3, (138, (3, 1))))), (8, (.ifCond .eq 18, (3, (0, (0, 0))))), (11, (.iload_n 2, (1, (0, (0, 0))))), (12, (.iconst 0, (1, (0, (0, 0))))), (13, (.sipush 2000, (3, (0, (0, 0))))), (16, (.invokestatic 83, (3, (138, (3, 1))))), (19, (.ifCond .eq 7, (3, (0, (0, 0))))), (22, (.iconst 1, (1, (0, (0, 0))))), (23, (.goto 4, (3, (0, (0, 0))))), (26, (.iconst 0, (1, (0, (0, 0))))), (27, (.aload_n 0, (1, (0, (0, 0))))), (28, (.invokevirtual 187, (3, (150, (1, 0))))), (31, (.iconst 1, (1, (0, (0, 0))))), (32, (.invokevirtual 151, (3, (139, (4, 0))))), (35, (.ifCond .ne 5, (3, (0, (0, 0))))), (38, (.iconst 0, (1, (0, (0, 0))))), (39, (.ireturn, (1, (0, (0, 0))))), (40, (.aload_n 0, (1, (0, (0, 0))))), (41, (.invokevirtual 155, (3, (167, (1, 0))))), (44, (.aload_n 0, (1, (0, (0, 0))))), (45, (.invokevirtual 141, (3, (158, (1, 0))))), (48, (.istore_n 3, (1, (0, (0, 0))))), (49, (.aload_n 0, (1, (0, (0, 0))))), (50, (.getfield 16, (3, (11, (4, 2))))), (53, (.iconst 0, (1, (0, (0, 0))))), (54, (.aload_n 0, (1, (0, (0, 0))))), (55, (.getfield 58, (3, (11, (18, 2))))), (58, (.iconst 0, (1, (0, (0, 0))))), (59, (.bipush 30, (2, (0, (0, 0))))), (61, (.invokestatic 135, (3, (0, (5, 7)))))],
  [(64, (.aload_n 0, (1, (0, (0, 0))))), (65, (.invokevirtual 109, (3, (151, (1, 0))))), (68, (.aload_n 0, (1, (0, (0, 0))))), (69, (.invokevirtual 161, (3, (164, (1, 0))))), (72, (.iload_n 3, (1, (0, (0, 0))))), (73, (.ifCond .eq 137, (3, (0, (0, 0))))), (76, (.iconst 0, (1, (0, (0, 0))))), (77, (.istore_n 3, (1, (0, (0, 0))))), (78, (.iconst 0, (1, (0, (0, 0))))), (79, (.istore 4, (2, (0, (0, 0))))), (81, (.iload 4, (2, (0, (0, 0))))), (83, (.iconst 4, (1, (0, (0, 0))))), (84, (.if_icmp .ge 123, (3, (0, (0, 0))))), (87, (.sipush 152, (3, (0, (0, 0))))), (90, (.iload 4, (2, (0, (0, 0))))), (92, (.bipush 31, (2, (0, (0, 0))))), (94, (.imul, (1, (0, (0, 0))))), (95, (.iadd, (1, (0, (0, 0))))), (96, (.istore 5, (2, (0, (0, 0))))), (98, (.aload_n 0, (1, (0, (0, 0))))), (99, (.getfield 34, (3, (11, (10, 2))))), (102, (.iload 4, (2, (0, (0, 0))))), (104, (.iaload, (1, (0, (0, 0))))), (105, (.aload_n 0, (1, (0, (0, 0))))), (106, (.getfield 9, (3, (11, (0, 2))))), (109, (.iload 5, (2, (0, (0, 0))))), (111, (.iaload, (1, (0, (0, 0))))), (112, (.if_icmp .ne 6, (3, (0, (0, 0))))), (115, (.goto 86, (3, (0, (0, 0))))), (118, (.aload_n 0, (1, (0, (0, 0))))), (119, (.getfield 9, (3, (11, (0, 2))))), (122, (.iload 5, (2, (0, (0, 0))))), (124, (.iconst 1, (1, (0, (0, 0))))), (125, (.iadd, (1, (0, (0, 0))))), (126, (.aload_n 0, (1, (0, (0, 0))))), (127, (.getfield 34, (3, (11, (10, 2)))))],
  [(130, (.iload 4, (2, (0, (0, 0))))), (132, (.iaload, (1, (0, (0, 0))))), (133, (.iadd, (1, (0, (0, 0))))), (134, (.iaload, (1, (0, (0, 0))))), (135, (.istore 6, (2, (0, (0, 0))))), (137, (.iload 6, (2, (0, (0, 0))))), (139, (.bipush 10, (2, (0, (0, 0))))), (141, (.idiv, (1, (0, (0, 0))))), (142, (.istore 7, (2, (0, (0, 0))))), (144, (.aload_n 0, (1, (0, (0, 0))))), (145, (.getfield 19, (3, (11, (5, 2))))), (148, (.iload 7, (2, (0, (0, 0))))), (150, (.iaload, (1, (0, (0, 0))))), (151, (.iload 6, (2, (0, (0, 0))))), (153, (.bipush 10, (2, (0, (0, 0))))), (155, (.irem, (1, (0, (0, 0))))), (156, (.if_icmp .ne 45, (3, (0, (0, 0))))), (159, (.aload_n 0, (1, (0, (0, 0))))), (160, (.getfield 58, (3, (11, (18, 2))))), (163, (.iload 7, (2, (0, (0, 0))))), (165, (.iconst 5, (1, (0, (0, 0))))), (166, (.imul, (1, (0, (0, 0))))), (167, (.iload 6, (2, (0, (0, 0))))), (169, (.bipush 10, (2, (0, (0, 0))))), (171, (.irem, (1, (0, (0, 0))))), (172, (.iadd, (1, (0, (0, 0))))), (173, (.iaload, (1, (0, (0, 0))))), (174, (.iload_n 2, (1, (0, (0, 0))))), (175, (.if_icmp .lt 6, (3, (0, (0, 0))))), (178, (.goto 23, (3, (0, (0, 0))))), (181, (.aload_n 0, (1, (0, (0, 0))))), (182, (.iload 7, (2, (0, (0, 0))))), (184, (.invokevirtual 131, (3, (163, (2, 0))))), (187, (.aload_n 0, (1, (0, (0, 0))))), (188, (.iload 7, (2, (0, (0, 0))))), (190, (.aload_n 0, (1, (0, (0, 0))))), (191, (.iload 7, (2, (0, (0, 0)))))],
  [(193, (.invokevirtual 112, (3, (155, (2, 0))))), (196, (.invokevirtual 116, (3, (156, (3, 0))))), (199, (.iconst 1, (1, (0, (0, 0))))), (200, (.istore_n 3, (1, (0, (0, 0))))), (201, (.iinc 4 1, (3, (0, (0, 0))))), (204, (.goto (-123), (3, (0, (0, 0))))), (207, (.goto (-135), (3, (0, (0, 0))))), (210, (.aload_n 0, (1, (0, (0, 0))))), (211, (.iload_n 1, (1, (0, (0, 0))))), (212, (.invokevirtual 164, (3, (162, (2, 0))))), (215, (.aload_n 0, (1, (0, (0, 0))))), (216, (.invokevirtual 167, (3, (165, (1, 0))))), (219, (.ireturn, (1, (0, (0, 0)))))]]
set_option maxRecDepth 100000 in
noncomputable def mc_X11_laysRushed : List (List mI) := [[(0, (.aload_n 0, (1, (0, (0, 0))))), (1, (.invokevirtual 161, (3, (164, (1, 0))))), (4, (.iconst 0, (1, (0, (0, 0))))), (5, (.istore_n 2, (1, (0, (0, 0))))), (6, (.iload_n 2, (1, (0, (0, 0))))), (7, (.iconst 4, (1, (0, (0, 0))))), (8, (.if_icmp .ge 132, (3, (0, (0, 0))))), (11, (.sipush 152, (3, (0, (0, 0))))), (14, (.iload_n 2, (1, (0, (0, 0))))), (15, (.bipush 31, (2, (0, (0, 0))))), (17, (.imul, (1, (0, (0, 0))))), (18, (.iadd, (1, (0, (0, 0))))), (19, (.istore_n 3, (1, (0, (0, 0))))), (20, (.iconst 0, (1, (0, (0, 0))))), (21, (.istore 4, (2, (0, (0, 0))))), (23, (.iload 4, (2, (0, (0, 0))))), (25, (.iconst 2, (1, (0, (0, 0))))), (26, (.if_icmp .ge 108, (3, (0, (0, 0))))), (29, (.iconst 0, (1, (0, (0, 0))))), (30, (.istore 5, (2, (0, (0, 0))))), (32, (.iload 5, (2, (0, (0, 0))))), (34, (.aload_n 0, (1, (0, (0, 0))))), (35, (.getfield 9, (3, (11, (0, 2))))), (38, (.iload_n 3, (1, (0, (0, 0))))), (39, (.iaload, (1, (0, (0, 0))))), (40, (.if_icmp .ge 88, (3, (0, (0, 0))))), (43, (.aload_n 0, (1, (0, (0, 0))))), (44, (.getfield 9, (3, (11, (0, 2))))), (47, (.iload_n 3, (1, (0, (0, 0))))), (48, (.iconst 1, (1, (0, (0, 0))))), (49, (.iadd, (1, (0, (0, 0))))), (50, (.iload 5, (2, (0, (0, 0))))), (52, (.iadd, (1, (0, (0, 0))))), (53, (.iaload, (1, (0, (0, 0))))), (54, (.istore 6, (2, (0, (0, 0))))), (56, (.iload 6, (2, (0, (0, 0))))), (58, (.bipush 10, (2, (0, (0, 0))))), (60, (.idiv, (1, (0, (0, 0))))), (61, (.iload_n 1, (1, (0, (0, 0))))), (62, (.if_icmp .ne 7, (3, (0, (0, 0)))))],
  [(65, (.iconst 1, (1, (0, (0, 0))))), (66, (.goto 4, (3, (0, (0, 0))))), (69, (.iconst 0, (1, (0, (0, 0))))), (70, (.iload 4, (2, (0, (0, 0))))), (72, (.ifCond .ne 7, (3, (0, (0, 0))))), (75, (.iconst 1, (1, (0, (0, 0))))), (76, (.goto 4, (3, (0, (0, 0))))), (79, (.iconst 0, (1, (0, (0, 0))))), (80, (.if_icmp .eq 6, (3, (0, (0, 0))))), (83, (.goto 39, (3, (0, (0, 0))))), (86, (.aload_n 0, (1, (0, (0, 0))))), (87, (.getfield 37, (3, (11, (11, 2))))), (90, (.iload_n 2, (1, (0, (0, 0))))), (91, (.bipush 31, (2, (0, (0, 0))))), (93, (.imul, (1, (0, (0, 0))))), (94, (.iconst 1, (1, (0, (0, 0))))), (95, (.iadd, (1, (0, (0, 0))))), (96, (.aload_n 0, (1, (0, (0, 0))))), (97, (.getfield 37, (3, (11, (11, 2))))), (100, (.iload_n 2, (1, (0, (0, 0))))), (101, (.bipush 31, (2, (0, (0, 0))))), (103, (.imul, (1, (0, (0, 0))))), (104, (.iaload, (1, (0, (0, 0))))), (105, (.iadd, (1, (0, (0, 0))))), (106, (.iload 6, (2, (0, (0, 0))))), (108, (.iastore, (1, (0, (0, 0))))), (109, (.aload_n 0, (1, (0, (0, 0))))), (110, (.getfield 37, (3, (11, (11, 2))))), (113, (.iload_n 2, (1, (0, (0, 0))))), (114, (.bipush 31, (2, (0, (0, 0))))), (116, (.imul, (1, (0, (0, 0))))), (117, (.dup2, (1, (0, (0, 0))))), (118, (.iaload, (1, (0, (0, 0))))), (119, (.iconst 1, (1, (0, (0, 0))))), (120, (.iadd, (1, (0, (0, 0))))), (121, (.iastore, (1, (0, (0, 0))))), (122, (.iinc 5 1, (3, (0, (0, 0))))), (125, (.goto (-93), (3, (0, (0, 0)))))],
  [(128, (.iinc 4 1, (3, (0, (0, 0))))), (131, (.goto (-108), (3, (0, (0, 0))))), (134, (.iinc 2 1, (3, (0, (0, 0))))), (137, (.goto (-131), (3, (0, (0, 0))))), (140, (.return_, (1, (0, (0, 0)))))]]
set_option maxRecDepth 100000 in
noncomputable def mc_X11_rush : List (List mI) := [[(0, (.aload_n 0, (1, (0, (0, 0))))), (1, (.aload_n 0, (1, (0, (0, 0))))), (2, (.iload_n 1, (1, (0, (0, 0))))), (3, (.invokevirtual 87, (3, (148, (2, 0))))), (6, (.aload_n 0, (1, (0, (0, 0))))), (7, (.invokevirtual 187, (3, (150, (1, 0))))), (10, (.iconst 1, (1, (0, (0, 0))))), (11, (.invokevirtual 151, (3, (139, (4, 0))))), (14, (.ifCond .ne 5, (3, (0, (0, 0))))), (17, (.iconst 0, (1, (0, (0, 0))))), (18, (.ireturn, (1, (0, (0, 0))))), (19, (.aload_n 0, (1, (0, (0, 0))))), (20, (.invokevirtual 155, (3, (167, (1, 0))))), (23, (.aload_n 0, (1, (0, (0, 0))))), (24, (.iload_n 1, (1, (0, (0, 0))))), (25, (.invokevirtual 190, (3, (183, (2, 0))))), (28, (.aload_n 0, (1, (0, (0, 0))))), (29, (.invokevirtual 167, (3, (165, (1, 0))))), (32, (.ireturn, (1, (0, (0, 0)))))]]
set_option maxRecDepth 100000 in
noncomputable def mc_X11_setWorker : List (List mI) := [[(0, (.aload_n 0, (1, (0, (0, 0))))), (1, (.iload_n 1, (1, (0, (0, 0))))), (2, (.iconst 0, (1, (0, (0, 0))))), (3, (.iconst 5, (1, (0, (0, 0))))), (4, (.invokestatic 83, (3, (138, (3, 1))))), (7, (.iload_n 2, (1, (0, (0, 0))))), (8, (.iconst 0, (1, (0, (0, 0))))), (9, (.bipush 15, (2, (0, (0, 0))))), (11, (.invokestatic 83, (3, (138, (3, 1))))), (14, (.iconst 1, (1, (0, (0, 0))))), (15, (.invokevirtual 151, (3, (139, (4, 0))))), (18, (.ifCond .ne 5, (3, (0, (0, 0))))), (21, (.iconst 0, (1, (0, (0, 0))))), (22, (.ireturn, (1, (0, (0, 0))))), (23, (.aload_n 0, (1, (0, (0, 0))))), (24, (.invokevirtual 155, (3, (167, (1, 0))))), (27, (.aload_n 0, (1, (0, (0, 0))))), (28, (.getfield 9, (3, (11, (0, 2))))), (31, (.sipush 276, (3, (0, (0, 0))))), (34, (.iload_n 1, (1, (0, (0, 0))))), (35, (.iadd, (1, (0, (0, 0))))), (36, (.iaload, (1, (0, (0, 0))))), (37, (.istore_n 3, (1, (0, (0, 0))))), (38, (.aload_n 0, (1, (0, (0, 0))))), (39, (.getfield 9, (3, (11, (0, 2))))), (42, (.sipush 276, (3, (0, (0, 0))))), (45, (.iload_n 1, (1, (0, (0, 0))))), (46, (.iadd, (1, (0, (0, 0))))), (47, (.iload_n 2, (1, (0, (0, 0))))), (48, (.iastore, (1, (0, (0, 0))))), (49, (.iload_n 3, (1, (0, (0, 0))))), (50, (.ireturn, (1, (0, (0, 0)))))]]
set_option maxRecDepth 100000 in
noncomputable def mc_X11_undo : List (List mI) := [[(0, (.aload_n 0, (1, (0, (0, 0))))), (1, (.iconst 0, (1, (0, (0, 0))))), (2, (.putfield 69, (3, (11, (3, 0))))), (5, (.aload_n 0, (1, (0, (0, 0))))), (6, (.getfield 148, (3, (11, (2, 0))))), (9, (.ifCond .ne 5, (3, (0, (0, 0))))), (12, (.iconst (-1), (1, (0, (0, 0))))), (13, (.ireturn, (1, (0, (0, 0))))), (14, (.aload_n 0, (1, (0, (0, 0))))), (15, (.dup, (1, (0, (0, 0))))), (16, (.getfield 148, (3, (11, (2, 0))))), (19, (.iconst 1, (1, (0, (0, 0))))), (20, (.isub, (1, (0, (0, 0))))), (21, (.putfield 148, (3, (11, (2, 0))))), (24, (.aload_n 0, (1, (0, (0, 0))))), (25, (.getfield 13, (3, (11, (1, 2))))), (28, (.aload_n 0, (1, (0, (0, 0))))), (29, (.getfield 148, (3, (11, (2, 0))))), (32, (.sipush 282, (3, (0, (0, 0))))), (35, (.imul, (1, (0, (0, 0))))), (36, (.aload_n 0, (1, (0, (0, 0))))), (37, (.getfield 9, (3, (11, (0, 2))))), (40, (.iconst 0, (1, (0, (0, 0))))), (41, (.sipush 282, (3, (0, (0, 0))))), (44, (.invokestatic 135, (3, (0, (5, 7))))), (47, (.aload_n 0, (1, (0, (0, 0))))), (48, (.getfield 148, (3, (11, (2, 0))))), (51, (.ireturn, (1, (0, (0, 0)))))]]
set_option maxRecDepth 100000 in
noncomputable def mc_X11_jobs : List (List mI) := [[(0, (.aload_n 0, (1, (0, (0, 0))))), (1, (.iconst 0, (1, (0, (0, 0))))), (2, (.putfield 69, (3, (11, (3, 0))))), (5, (.aload_n 0, (1, (0, (0, 0))))), (6, (.getfield 9, (3, (11, (0, 2))))), (9, (.iconst 0, (1, (0, (0, 0))))), (10, (.iaload, (1, (0, (0, 0))))), (11, (.ireturn, (1, (0, (0, 0)))))]]
set_option maxRecDepth 100000 in
noncomputable def mc_X11_jobAt : List (List mI) := [[(0, (.aload_n 0, (1, (0, (0, 0))))), (1, (.aload_n 0, (1, (0, (0, 0))))), (2, (.iload_n 1, (1, (0, (0, 0))))), (3, (.invokevirtual 87, (3, (148, (2, 0))))), (6, (.iload_n 2, (1, (0, (0, 0))))), (7, (.iconst 0, (1, (0, (0, 0))))), (8, (.iconst 5, (1, (0, (0, 0))))), (9, (.invokestatic 83, (3, (138, (3, 1))))), (12, (.iconst 1, (1, (0, (0, 0))))), (13, (.invokevirtual 151, (3, (139, (4, 0))))), (16, (.ifCond .ne 5, (3, (0, (0, 0))))), (19, (.iconst 0, (1, (0, (0, 0))))), (20, (.ireturn, (1, (0, (0, 0))))), (21, (.iload_n 2, (1, (0, (0, 0))))), (22, (.iconst 5, (1, (0, (0, 0))))), (23, (.if_icmp .ne 11, (3, (0, (0, 0))))), (26, (.aload_n 0, (1, (0, (0, 0))))), (27, (.iload_n 1, (1, (0, (0, 0))))), (28, (.invokevirtual 193, (3, (146, (2, 0))))), (31, (.goto 9, (3, (0, (0, 0))))), (34, (.aload_n 0, (1, (0, (0, 0))))), (35, (.iload_n 1, (1, (0, (0, 0))))), (36, (.iload_n 2, (1, (0, (0, 0))))), (37, (.invokevirtual 73, (3, (142, (3, 0))))), (40, (.ireturn, (1, (0, (0, 0)))))]]
set_option maxRecDepth 100000 in
noncomputable def mc_X11_stepAt : List (List mI) := [[(0, (.aload_n 0, (1, (0, (0, 0))))), (1, (.aload_n 0, (1, (0, (0, 0))))), (2, (.iload_n 1, (1, (0, (0, 0))))), (3, (.iload_n 2, (1, (0, (0, 0))))), (4, (.invokevirtual 196, (3, (149, (3, 0))))), (7, (.iload_n 3, (1, (0, (0, 0))))), (8, (.iconst 0, (1, (0, (0, 0))))), (9, (.iconst 1, (1, (0, (0, 0))))), (10, (.invokestatic 83, (3, (138, (3, 1))))), (13, (.iconst 1, (1, (0, (0, 0))))), (14, (.invokevirtual 151, (3, (139, (4, 0))))), (17, (.ifCond .ne 5, (3, (0, (0, 0))))), (20, (.iconst 0, (1, (0, (0, 0))))), (21, (.ireturn, (1, (0, (0, 0))))), (22, (.aload_n 0, (1, (0, (0, 0))))), (23, (.iload_n 1, (1, (0, (0, 0))))), (24, (.iconst 5, (1, (0, (0, 0))))), (25, (.iconst 2, (1, (0, (0, 0))))), (26, (.iload_n 2, (1, (0, (0, 0))))), (27, (.imul, (1, (0, (0, 0))))), (28, (.iadd, (1, (0, (0, 0))))), (29, (.iload_n 3, (1, (0, (0, 0))))), (30, (.iadd, (1, (0, (0, 0))))), (31, (.invokevirtual 73, (3, (142, (3, 0))))), (34, (.ireturn, (1, (0, (0, 0)))))]]
set_option maxRecDepth 100000 in
noncomputable def mc_X11_isPlanned : List (List mI) := [[(0, (.aload_n 0, (1, (0, (0, 0))))), (1, (.invokevirtual 187, (3, (150, (1, 0))))), (4, (.ifCond .eq 14, (3, (0, (0, 0))))), (7, (.aload_n 0, (1, (0, (0, 0))))), (8, (.invokevirtual 141, (3, (158, (1, 0))))), (11, (.ifCond .eq 7, (3, (0, (0, 0))))), (14, (.iconst 1, (1, (0, (0, 0))))), (15, (.goto 4, (3, (0, (0, 0))))), (18, (.iconst 0, (1, (0, (0, 0))))), (19, (.ireturn, (1, (0, (0, 0)))))]]
set_option maxRecDepth 100000 in
noncomputable def mc_X11_begin : List (List mI) := [[(0, (.aload_n 0, (1, (0, (0, 0))))), (1, (.aload_n 0, (1, (0, (0, 0))))), (2, (.iload_n 1, (1, (0, (0, 0))))), (3, (.iload_n 2, (1, (0, (0, 0))))), (4, (.invokevirtual 196, (3, (149, (3, 0))))), (7, (.aload_n 0, (1, (0, (0, 0))))), (8, (.invokevirtual 199, (3, (190, (1, 0))))), (11, (.iconst 1, (1, (0, (0, 0))))), (12, (.invokevirtual 151, (3, (139, (4, 0))))), (15, (.ifCond .eq 16, (3, (0, (0, 0))))), (18, (.aload_n 0, (1, (0, (0, 0))))), (19, (.getfield 16, (3, (11, (4, 2))))), (22, (.iload_n 1, (1, (0, (0, 0))))), (23, (.iconst 5, (1, (0, (0, 0))))), (24, (.imul, (1, (0, (0, 0))))), (25, (.iload_n 2, (1, (0, (0, 0))))), (26, (.iadd, (1, (0, (0, 0))))), (27, (.iaload, (1, (0, (0, 0))))), (28, (.goto 4, (3, (0, (0, 0))))), (31, (.iconst 0, (1, (0, (0, 0))))), (32, (.ireturn, (1, (0, (0, 0)))))]]
set_option maxRecDepth 100000 in
noncomputable def mc_X11_endOf : List (List mI) := [[(0, (.aload_n 0, (1, (0, (0, 0))))), (1, (.aload_n 0, (1, (0, (0, 0))))), (2, (.iload_n 1, (1, (0, (0, 0))))), (3, (.invokevirtual 87, (3, (148, (2, 0))))), (6, (.aload_n 0, (1, (0, (0, 0))))), (7, (.invokevirtual 199, (3, (190, (1, 0))))), (10, (.iconst 1, (1, (0, (0, 0))))), (11, (.invokevirtual 151, (3, (139, (4, 0))))), (14, (.ifCond .eq 12, (3, (0, (0, 0))))), (17, (.aload_n 0, (1, (0, (0, 0))))), (18, (.getfield 22, (3, (11, (6, 2))))), (21, (.iload_n 1, (1, (0, (0, 0))))), (22, (.iaload, (1, (0, (0, 0))))), (23, (.goto 4, (3, (0, (0, 0))))), (26, (.iconst 0, (1, (0, (0, 0))))), (27, (.ireturn, (1, (0, (0, 0)))))]]
set_option maxRecDepth 100000 in
noncomputable def mc_X11_value : List (List mI) := [[(0, (.aload_n 0, (1, (0, (0, 0))))), (1, (.iload_n 1, (1, (0, (0, 0))))), (2, (.iconst 0, (1, (0, (0, 0))))), (3, (.iconst 4, (1, (0, (0, 0))))), (4, (.invokestatic 83, (3, (138, (3, 1))))), (7, (.aload_n 0, (1, (0, (0, 0))))), (8, (.invokevirtual 199, (3, (190, (1, 0))))), (11, (.iconst 1, (1, (0, (0, 0))))), (12, (.invokevirtual 151, (3, (139, (4, 0))))), (15, (.ifCond .eq 11, (3, (0, (0, 0))))), (18, (.aload_n 0, (1, (0, (0, 0))))), (19, (.iload_n 1, (1, (0, (0, 0))))), (20, (.invokevirtual 172, (3, (160, (2, 0))))), (23, (.goto 4, (3, (0, (0, 0))))), (26, (.iconst 0, (1, (0, (0, 0))))), (27, (.ireturn, (1, (0, (0, 0)))))]]
set_option maxRecDepth 100000 in
noncomputable def mc_X11_bound : List (List mI) := [[(0, (.aload_n 0, (1, (0, (0, 0))))), (1, (.iconst 0, (1, (0, (0, 0))))), (2, (.putfield 69, (3, (11, (3, 0))))), (5, (.iconst 0, (1, (0, (0, 0))))), (6, (.istore_n 1, (1, (0, (0, 0))))), (7, (.iconst 0, (1, (0, (0, 0))))), (8, (.istore_n 2, (1, (0, (0, 0))))), (9, (.iload_n 2, (1, (0, (0, 0))))), (10, (.aload_n 0, (1, (0, (0, 0))))), (11, (.getfield 9, (3, (11, (0, 2))))), (14, (.iconst 0, (1, (0, (0, 0))))), (15, (.iaload, (1, (0, (0, 0))))), (16, (.if_icmp .ge 26, (3, (0, (0, 0))))), (19, (.iload_n 1, (1, (0, (0, 0))))), (20, (.aload_n 0, (1, (0, (0, 0))))), (21, (.iload_n 2, (1, (0, (0, 0))))), (22, (.iconst 0, (1, (0, (0, 0))))), (23, (.invokevirtual 73, (3, (142, (3, 0))))), (26, (.aload_n 0, (1, (0, (0, 0))))), (27, (.iload_n 2, (1, (0, (0, 0))))), (28, (.invokevirtual 193, (3, (146, (2, 0))))), (31, (.iadd, (1, (0, (0, 0))))), (32, (.invokestatic 101, (3, (0, (2, 5))))), (35, (.istore_n 1, (1, (0, (0, 0))))), (36, (.iinc 2 1, (3, (0, (0, 0))))), (39, (.goto (-30), (3, (0, (0, 0))))), (42, (.iconst 0, (1, (0, (0, 0))))), (43, (.istore_n 2, (1, (0, (0, 0))))), (44, (.iload_n 2, (1, (0, (0, 0))))), (45, (.iconst 4, (1, (0, (0, 0))))), (46, (.if_icmp .ge 19, (3, (0, (0, 0))))), (49, (.iload_n 1, (1, (0, (0, 0))))), (50, (.aload_n 0, (1, (0, (0, 0))))), (51, (.iload_n 2, (1, (0, (0, 0))))), (52, (.invokevirtual 202, (3, (195, (2, 0))))), (55, (.invokestatic 101, (3, (0, (2, 5))))), (58, (.istore_n 1, (1, (0, (0, 0))))), (59, (.iinc 2 1, (3, (0, (0, 0))))), (62, (.goto (-18), (3, (0, (0, 0)))))],
  [(65, (.iload_n 1, (1, (0, (0, 0))))), (66, (.ireturn, (1, (0, (0, 0)))))]]
set_option maxRecDepth 100000 in
noncomputable def mc_X11_hoursOn : List (List mI) := [[(0, (.iconst 0, (1, (0, (0, 0))))), (1, (.istore_n 2, (1, (0, (0, 0))))), (2, (.iconst 0, (1, (0, (0, 0))))), (3, (.istore_n 3, (1, (0, (0, 0))))), (4, (.iload_n 3, (1, (0, (0, 0))))), (5, (.aload_n 0, (1, (0, (0, 0))))), (6, (.getfield 9, (3, (11, (0, 2))))), (9, (.iconst 0, (1, (0, (0, 0))))), (10, (.iaload, (1, (0, (0, 0))))), (11, (.if_icmp .ge 54, (3, (0, (0, 0))))), (14, (.iconst 0, (1, (0, (0, 0))))), (15, (.istore 4, (2, (0, (0, 0))))), (17, (.iload 4, (2, (0, (0, 0))))), (19, (.aload_n 0, (1, (0, (0, 0))))), (20, (.iload_n 3, (1, (0, (0, 0))))), (21, (.iconst 4, (1, (0, (0, 0))))), (22, (.invokevirtual 73, (3, (142, (3, 0))))), (25, (.if_icmp .ge 34, (3, (0, (0, 0))))), (28, (.iload_n 2, (1, (0, (0, 0))))), (29, (.aload_n 0, (1, (0, (0, 0))))), (30, (.iload_n 3, (1, (0, (0, 0))))), (31, (.iload 4, (2, (0, (0, 0))))), (33, (.invokevirtual 95, (3, (143, (3, 0))))), (36, (.iload_n 1, (1, (0, (0, 0))))), (37, (.if_icmp .ne 13, (3, (0, (0, 0))))), (40, (.aload_n 0, (1, (0, (0, 0))))), (41, (.iload_n 3, (1, (0, (0, 0))))), (42, (.iload 4, (2, (0, (0, 0))))), (44, (.invokevirtual 77, (3, (144, (3, 0))))), (47, (.goto 4, (3, (0, (0, 0))))), (50, (.iconst 0, (1, (0, (0, 0))))), (51, (.iadd, (1, (0, (0, 0))))), (52, (.istore_n 2, (1, (0, (0, 0))))), (53, (.iinc 4 1, (3, (0, (0, 0))))), (56, (.goto (-39), (3, (0, (0, 0))))), (59, (.iinc 3 1, (3, (0, (0, 0))))), (62, (.goto (-58), (3, (0, (0, 0)))))],
  [(65, (.iload_n 2, (1, (0, (0, 0))))), (66, (.ireturn, (1, (0, (0, 0)))))]]
set_option maxRecDepth 100000 in
noncomputable def mc_X11_orderAt : List (List mI) := [[(0, (.aload_n 0, (1, (0, (0, 0))))), (1, (.iload_n 1, (1, (0, (0, 0))))), (2, (.iconst 0, (1, (0, (0, 0))))), (3, (.iconst 3, (1, (0, (0, 0))))), (4, (.invokestatic 83, (3, (138, (3, 1))))), (7, (.ifCond .eq 30, (3, (0, (0, 0))))), (10, (.iload_n 2, (1, (0, (0, 0))))), (11, (.iconst 0, (1, (0, (0, 0))))), (12, (.aload_n 0, (1, (0, (0, 0))))), (13, (.getfield 9, (3, (11, (0, 2))))), (16, (.sipush 152, (3, (0, (0, 0))))), (19, (.iload_n 1, (1, (0, (0, 0))))), (20, (.bipush 31, (2, (0, (0, 0))))), (22, (.imul, (1, (0, (0, 0))))), (23, (.iadd, (1, (0, (0, 0))))), (24, (.iaload, (1, (0, (0, 0))))), (25, (.iconst 1, (1, (0, (0, 0))))), (26, (.isub, (1, (0, (0, 0))))), (27, (.invokestatic 83, (3, (138, (3, 1))))), (30, (.ifCond .eq 7, (3, (0, (0, 0))))), (33, (.iconst 1, (1, (0, (0, 0))))), (34, (.goto 4, (3, (0, (0, 0))))), (37, (.iconst 0, (1, (0, (0, 0))))), (38, (.iconst 1, (1, (0, (0, 0))))), (39, (.iconst 1, (1, (0, (0, 0))))), (40, (.invokevirtual 151, (3, (139, (4, 0))))), (43, (.ifCond .eq 23, (3, (0, (0, 0))))), (46, (.aload_n 0, (1, (0, (0, 0))))), (47, (.getfield 9, (3, (11, (0, 2))))), (50, (.sipush 152, (3, (0, (0, 0))))), (53, (.iload_n 1, (1, (0, (0, 0))))), (54, (.bipush 31, (2, (0, (0, 0))))), (56, (.imul, (1, (0, (0, 0))))), (57, (.iadd, (1, (0, (0, 0))))), (58, (.iconst 1, (1, (0, (0, 0))))), (59, (.iadd, (1, (0, (0, 0))))), (60, (.iload_n 2, (1, (0, (0, 0))))), (61, (.iadd, (1, (0, (0, 0))))), (62, (.iaload, (1, (0, (0, 0))))), (63, (.goto 4, (3, (0, (0, 0)))))],
  [(66, (.iconst 0, (1, (0, (0, 0))))), (67, (.ireturn, (1, (0, (0, 0)))))]]
set_option maxRecDepth 100000 in
noncomputable def mc_X11_doneIn : List (List mI) := [[(0, (.aload_n 0, (1, (0, (0, 0))))), (1, (.iload_n 1, (1, (0, (0, 0))))), (2, (.iconst 0, (1, (0, (0, 0))))), (3, (.iconst 3, (1, (0, (0, 0))))), (4, (.invokestatic 83, (3, (138, (3, 1))))), (7, (.iload_n 2, (1, (0, (0, 0))))), (8, (.iconst 0, (1, (0, (0, 0))))), (9, (.sipush 5000, (3, (0, (0, 0))))), (12, (.invokestatic 83, (3, (138, (3, 1))))), (15, (.aload_n 0, (1, (0, (0, 0))))), (16, (.invokevirtual 199, (3, (190, (1, 0))))), (19, (.invokevirtual 151, (3, (139, (4, 0))))), (22, (.ifCond .ne 5, (3, (0, (0, 0))))), (25, (.iconst 0, (1, (0, (0, 0))))), (26, (.ireturn, (1, (0, (0, 0))))), (27, (.iconst (-1), (1, (0, (0, 0))))), (28, (.istore_n 3, (1, (0, (0, 0))))), (29, (.iconst 0, (1, (0, (0, 0))))), (30, (.istore 4, (2, (0, (0, 0))))), (32, (.iload 4, (2, (0, (0, 0))))), (34, (.aload_n 0, (1, (0, (0, 0))))), (35, (.getfield 9, (3, (11, (0, 2))))), (38, (.iconst 0, (1, (0, (0, 0))))), (39, (.iaload, (1, (0, (0, 0))))), (40, (.if_icmp .ge 57, (3, (0, (0, 0))))), (43, (.iconst 0, (1, (0, (0, 0))))), (44, (.istore 5, (2, (0, (0, 0))))), (46, (.iload 5, (2, (0, (0, 0))))), (48, (.aload_n 0, (1, (0, (0, 0))))), (49, (.iload 4, (2, (0, (0, 0))))), (51, (.iconst 4, (1, (0, (0, 0))))), (52, (.invokevirtual 73, (3, (142, (3, 0))))), (55, (.if_icmp .ge 36, (3, (0, (0, 0))))), (58, (.aload_n 0, (1, (0, (0, 0))))), (59, (.iload 4, (2, (0, (0, 0))))), (61, (.iload 5, (2, (0, (0, 0))))), (63, (.invokevirtual 95, (3, (143, (3, 0)))))],
  [(66, (.iload_n 1, (1, (0, (0, 0))))), (67, (.if_icmp .ne 18, (3, (0, (0, 0))))), (70, (.aload_n 0, (1, (0, (0, 0))))), (71, (.iload 4, (2, (0, (0, 0))))), (73, (.iload 5, (2, (0, (0, 0))))), (75, (.iload_n 2, (1, (0, (0, 0))))), (76, (.invokevirtual 205, (3, (198, (4, 0))))), (79, (.ifCond .eq 6, (3, (0, (0, 0))))), (82, (.iload 4, (2, (0, (0, 0))))), (84, (.istore_n 3, (1, (0, (0, 0))))), (85, (.iinc 5 1, (3, (0, (0, 0))))), (88, (.goto (-42), (3, (0, (0, 0))))), (91, (.iinc 4 1, (3, (0, (0, 0))))), (94, (.goto (-62), (3, (0, (0, 0))))), (97, (.iload_n 3, (1, (0, (0, 0))))), (98, (.ireturn, (1, (0, (0, 0)))))]]
set_option maxRecDepth 100000 in
noncomputable def mc_X11_isDone : List (List mI) := [[(0, (.aload_n 0, (1, (0, (0, 0))))), (1, (.getfield 16, (3, (11, (4, 2))))), (4, (.iload_n 1, (1, (0, (0, 0))))), (5, (.iconst 5, (1, (0, (0, 0))))), (6, (.imul, (1, (0, (0, 0))))), (7, (.iload_n 2, (1, (0, (0, 0))))), (8, (.iadd, (1, (0, (0, 0))))), (9, (.iaload, (1, (0, (0, 0))))), (10, (.iload_n 3, (1, (0, (0, 0))))), (11, (.if_icmp .gt 17, (3, (0, (0, 0))))), (14, (.iload_n 3, (1, (0, (0, 0))))), (15, (.aload_n 0, (1, (0, (0, 0))))), (16, (.iload_n 1, (1, (0, (0, 0))))), (17, (.iload_n 2, (1, (0, (0, 0))))), (18, (.invokevirtual 208, (3, (199, (3, 0))))), (21, (.if_icmp .ge 7, (3, (0, (0, 0))))), (24, (.iconst 1, (1, (0, (0, 0))))), (25, (.goto 4, (3, (0, (0, 0))))), (28, (.iconst 0, (1, (0, (0, 0))))), (29, (.ireturn, (1, (0, (0, 0)))))]]
set_option maxRecDepth 100000 in
noncomputable def mc_X11_stepEnd : List (List mI) := [[(0, (.aload_n 0, (1, (0, (0, 0))))), (1, (.getfield 16, (3, (11, (4, 2))))), (4, (.iload_n 1, (1, (0, (0, 0))))), (5, (.iconst 5, (1, (0, (0, 0))))), (6, (.imul, (1, (0, (0, 0))))), (7, (.iload_n 2, (1, (0, (0, 0))))), (8, (.iadd, (1, (0, (0, 0))))), (9, (.iaload, (1, (0, (0, 0))))), (10, (.aload_n 0, (1, (0, (0, 0))))), (11, (.iload_n 1, (1, (0, (0, 0))))), (12, (.iload_n 2, (1, (0, (0, 0))))), (13, (.invokevirtual 77, (3, (144, (3, 0))))), (16, (.iadd, (1, (0, (0, 0))))), (17, (.ireturn, (1, (0, (0, 0)))))]]
set_option maxRecDepth 100000 in
noncomputable def mc_X11_aheadOf : List (List mI) := [[(0, (.aload_n 0, (1, (0, (0, 0))))), (1, (.iload_n 1, (1, (0, (0, 0))))), (2, (.bipush 10, (2, (0, (0, 0))))), (4, (.idiv, (1, (0, (0, 0))))), (5, (.iload_n 1, (1, (0, (0, 0))))), (6, (.bipush 10, (2, (0, (0, 0))))), (8, (.irem, (1, (0, (0, 0))))), (9, (.invokevirtual 95, (3, (143, (3, 0))))), (12, (.istore_n 2, (1, (0, (0, 0))))), (13, (.sipush 152, (3, (0, (0, 0))))), (16, (.iload_n 2, (1, (0, (0, 0))))), (17, (.bipush 31, (2, (0, (0, 0))))), (19, (.imul, (1, (0, (0, 0))))), (20, (.iadd, (1, (0, (0, 0))))), (21, (.istore_n 3, (1, (0, (0, 0))))), (22, (.iconst (-1), (1, (0, (0, 0))))), (23, (.istore 4, (2, (0, (0, 0))))), (25, (.iconst 0, (1, (0, (0, 0))))), (26, (.istore 5, (2, (0, (0, 0))))), (28, (.iload 5, (2, (0, (0, 0))))), (30, (.aload_n 0, (1, (0, (0, 0))))), (31, (.getfield 9, (3, (11, (0, 2))))), (34, (.iload_n 3, (1, (0, (0, 0))))), (35, (.iaload, (1, (0, (0, 0))))), (36, (.if_icmp .ge 37, (3, (0, (0, 0))))), (39, (.aload_n 0, (1, (0, (0, 0))))), (40, (.getfield 9, (3, (11, (0, 2))))), (43, (.iload_n 3, (1, (0, (0, 0))))), (44, (.iconst 1, (1, (0, (0, 0))))), (45, (.iadd, (1, (0, (0, 0))))), (46, (.iload 5, (2, (0, (0, 0))))), (48, (.iadd, (1, (0, (0, 0))))), (49, (.iaload, (1, (0, (0, 0))))), (50, (.iload_n 1, (1, (0, (0, 0))))), (51, (.if_icmp .eq 22, (3, (0, (0, 0))))), (54, (.aload_n 0, (1, (0, (0, 0))))), (55, (.getfield 9, (3, (11, (0, 2))))), (58, (.iload_n 3, (1, (0, (0, 0))))), (59, (.iconst 1, (1, (0, (0, 0))))), (60, (.iadd, (1, (0, (0, 0))))), (61, (.iload 5, (2, (0, (0, 0))))), (63, (.iadd, (1, (0, (0, 0)))))],
  [(64, (.iaload, (1, (0, (0, 0))))), (65, (.istore 4, (2, (0, (0, 0))))), (67, (.iinc 5 1, (3, (0, (0, 0))))), (70, (.goto (-42), (3, (0, (0, 0))))), (73, (.iload 4, (2, (0, (0, 0))))), (75, (.ireturn, (1, (0, (0, 0)))))]]
set_option maxRecDepth 100000 in
noncomputable def mc_X11_readyAt : List (List mI) := [[(0, (.iload_n 1, (1, (0, (0, 0))))), (1, (.bipush 10, (2, (0, (0, 0))))), (3, (.idiv, (1, (0, (0, 0))))), (4, (.istore_n 2, (1, (0, (0, 0))))), (5, (.iload_n 1, (1, (0, (0, 0))))), (6, (.bipush 10, (2, (0, (0, 0))))), (8, (.irem, (1, (0, (0, 0))))), (9, (.istore_n 3, (1, (0, (0, 0))))), (10, (.aload_n 0, (1, (0, (0, 0))))), (11, (.iload_n 2, (1, (0, (0, 0))))), (12, (.iload_n 3, (1, (0, (0, 0))))), (13, (.invokevirtual 95, (3, (143, (3, 0))))), (16, (.istore 4, (2, (0, (0, 0))))), (18, (.sipush 152, (3, (0, (0, 0))))), (21, (.iload 4, (2, (0, (0, 0))))), (23, (.bipush 31, (2, (0, (0, 0))))), (25, (.imul, (1, (0, (0, 0))))), (26, (.iadd, (1, (0, (0, 0))))), (27, (.istore 5, (2, (0, (0, 0))))), (29, (.aload_n 0, (1, (0, (0, 0))))), (30, (.getfield 25, (3, (11, (7, 2))))), (33, (.iload 4, (2, (0, (0, 0))))), (35, (.iconst (-1), (1, (0, (0, 0))))), (36, (.iastore, (1, (0, (0, 0))))), (37, (.aload_n 0, (1, (0, (0, 0))))), (38, (.getfield 31, (3, (11, (9, 2))))), (41, (.iload 4, (2, (0, (0, 0))))), (43, (.iconst 0, (1, (0, (0, 0))))), (44, (.iastore, (1, (0, (0, 0))))), (45, (.iconst 0, (1, (0, (0, 0))))), (46, (.istore 6, (2, (0, (0, 0))))), (48, (.aload_n 0, (1, (0, (0, 0))))), (49, (.getfield 9, (3, (11, (0, 2))))), (52, (.iload 5, (2, (0, (0, 0))))), (54, (.iconst 1, (1, (0, (0, 0))))), (55, (.iadd, (1, (0, (0, 0))))), (56, (.iload 6, (2, (0, (0, 0))))), (58, (.iadd, (1, (0, (0, 0))))), (59, (.iaload, (1, (0, (0, 0))))), (60, (.iload_n 1, (1, (0, (0, 0))))), (61, (.if_icmp .eq 81, (3, (0, (0, 0)))))],
  [(64, (.aload_n 0, (1, (0, (0, 0))))), (65, (.getfield 9, (3, (11, (0, 2))))), (68, (.iload 5, (2, (0, (0, 0))))), (70, (.iconst 1, (1, (0, (0, 0))))), (71, (.iadd, (1, (0, (0, 0))))), (72, (.iload 6, (2, (0, (0, 0))))), (74, (.iadd, (1, (0, (0, 0))))), (75, (.iaload, (1, (0, (0, 0))))), (76, (.istore 7, (2, (0, (0, 0))))), (78, (.aload_n 0, (1, (0, (0, 0))))), (79, (.iload 7, (2, (0, (0, 0))))), (81, (.bipush 10, (2, (0, (0, 0))))), (83, (.idiv, (1, (0, (0, 0))))), (84, (.iload 7, (2, (0, (0, 0))))), (86, (.bipush 10, (2, (0, (0, 0))))), (88, (.irem, (1, (0, (0, 0))))), (89, (.invokevirtual 77, (3, (144, (3, 0))))), (92, (.istore 8, (2, (0, (0, 0))))), (94, (.aload_n 0, (1, (0, (0, 0))))), (95, (.getfield 31, (3, (11, (9, 2))))), (98, (.iload 4, (2, (0, (0, 0))))), (100, (.aload_n 0, (1, (0, (0, 0))))), (101, (.iload 4, (2, (0, (0, 0))))), (103, (.iload 8, (2, (0, (0, 0))))), (105, (.invokevirtual 91, (3, (153, (3, 0))))), (108, (.ifCond .eq 8, (3, (0, (0, 0))))), (111, (.iload 8, (2, (0, (0, 0))))), (113, (.goto 13, (3, (0, (0, 0))))), (116, (.aload_n 0, (1, (0, (0, 0))))), (117, (.getfield 31, (3, (11, (9, 2))))), (120, (.iload 4, (2, (0, (0, 0))))), (122, (.iaload, (1, (0, (0, 0))))), (123, (.iload 8, (2, (0, (0, 0))))), (125, (.iadd, (1, (0, (0, 0))))), (126, (.iastore, (1, (0, (0, 0))))), (127, (.aload_n 0, (1, (0, (0, 0)))))],
  [(128, (.getfield 25, (3, (11, (7, 2))))), (131, (.iload 4, (2, (0, (0, 0))))), (133, (.iload 7, (2, (0, (0, 0))))), (135, (.iastore, (1, (0, (0, 0))))), (136, (.iinc 6 1, (3, (0, (0, 0))))), (139, (.goto (-91), (3, (0, (0, 0))))), (142, (.aload_n 0, (1, (0, (0, 0))))), (143, (.getfield 25, (3, (11, (7, 2))))), (146, (.iload 4, (2, (0, (0, 0))))), (148, (.iaload, (1, (0, (0, 0))))), (149, (.iconst (-1), (1, (0, (0, 0))))), (150, (.if_icmp .ne 7, (3, (0, (0, 0))))), (153, (.iconst (-1), (1, (0, (0, 0))))), (154, (.goto 41, (3, (0, (0, 0))))), (157, (.aload_n 0, (1, (0, (0, 0))))), (158, (.aload_n 0, (1, (0, (0, 0))))), (159, (.getfield 25, (3, (11, (7, 2))))), (162, (.iload 4, (2, (0, (0, 0))))), (164, (.iaload, (1, (0, (0, 0))))), (165, (.bipush 10, (2, (0, (0, 0))))), (167, (.idiv, (1, (0, (0, 0))))), (168, (.aload_n 0, (1, (0, (0, 0))))), (169, (.getfield 25, (3, (11, (7, 2))))), (172, (.iload 4, (2, (0, (0, 0))))), (174, (.iaload, (1, (0, (0, 0))))), (175, (.bipush 10, (2, (0, (0, 0))))), (177, (.irem, (1, (0, (0, 0))))), (178, (.invokevirtual 208, (3, (199, (3, 0))))), (181, (.aload_n 0, (1, (0, (0, 0))))), (182, (.iload 4, (2, (0, (0, 0))))), (184, (.iload_n 2, (1, (0, (0, 0))))), (185, (.aload_n 0, (1, (0, (0, 0))))), (186, (.iload_n 2, (1, (0, (0, 0))))), (187, (.iload_n 3, (1, (0, (0, 0))))), (188, (.invokevirtual 77, (3, (144, (3, 0))))), (191, (.invokevirtual 98, (3, (154, (4, 0)))))],
  [(194, (.iadd, (1, (0, (0, 0))))), (195, (.ireturn, (1, (0, (0, 0)))))]]
set_option maxRecDepth 100000 in
noncomputable def mc_X11_laysWay : List (List mI) := [[(0, (.aload_n 0, (1, (0, (0, 0))))), (1, (.iconst 0, (1, (0, (0, 0))))), (2, (.putfield 211, (3, (11, (19, 0))))), (5, (.iconst (-1), (1, (0, (0, 0))))), (6, (.istore_n 1, (1, (0, (0, 0))))), (7, (.iconst 0, (1, (0, (0, 0))))), (8, (.istore_n 2, (1, (0, (0, 0))))), (9, (.iload_n 2, (1, (0, (0, 0))))), (10, (.aload_n 0, (1, (0, (0, 0))))), (11, (.getfield 9, (3, (11, (0, 2))))), (14, (.iconst 0, (1, (0, (0, 0))))), (15, (.iaload, (1, (0, (0, 0))))), (16, (.if_icmp .ge 55, (3, (0, (0, 0))))), (19, (.aload_n 0, (1, (0, (0, 0))))), (20, (.iload_n 2, (1, (0, (0, 0))))), (21, (.iconst 4, (1, (0, (0, 0))))), (22, (.invokevirtual 73, (3, (142, (3, 0))))), (25, (.iconst 1, (1, (0, (0, 0))))), (26, (.isub, (1, (0, (0, 0))))), (27, (.istore_n 3, (1, (0, (0, 0))))), (28, (.iload_n 3, (1, (0, (0, 0))))), (29, (.ifCond .lt 36, (3, (0, (0, 0))))), (32, (.iload_n 1, (1, (0, (0, 0))))), (33, (.iconst (-1), (1, (0, (0, 0))))), (34, (.if_icmp .eq 24, (3, (0, (0, 0))))), (37, (.aload_n 0, (1, (0, (0, 0))))), (38, (.iload_n 2, (1, (0, (0, 0))))), (39, (.iload_n 3, (1, (0, (0, 0))))), (40, (.invokevirtual 208, (3, (199, (3, 0))))), (43, (.aload_n 0, (1, (0, (0, 0))))), (44, (.iload_n 1, (1, (0, (0, 0))))), (45, (.bipush 10, (2, (0, (0, 0))))), (47, (.idiv, (1, (0, (0, 0))))), (48, (.iload_n 1, (1, (0, (0, 0))))), (49, (.bipush 10, (2, (0, (0, 0))))), (51, (.irem, (1, (0, (0, 0))))), (52, (.invokevirtual 208, (3, (199, (3, 0))))), (55, (.if_icmp .le 10, (3, (0, (0, 0))))), (58, (.bipush 10, (2, (0, (0, 0))))), (60, (.iload_n 2, (1, (0, (0, 0))))), (61, (.imul, (1, (0, (0, 0))))), (62, (.iload_n 3, (1, (0, (0, 0))))), (63, (.iadd, (1, (0, (0, 0)))))],
  [(64, (.istore_n 1, (1, (0, (0, 0))))), (65, (.iinc 2 1, (3, (0, (0, 0))))), (68, (.goto (-59), (3, (0, (0, 0))))), (71, (.iload_n 1, (1, (0, (0, 0))))), (72, (.iconst (-1), (1, (0, (0, 0))))), (73, (.if_icmp .eq 91, (3, (0, (0, 0))))), (76, (.aload_n 0, (1, (0, (0, 0))))), (77, (.getfield 58, (3, (11, (18, 2))))), (80, (.aload_n 0, (1, (0, (0, 0))))), (81, (.getfield 211, (3, (11, (19, 0))))), (84, (.iload_n 1, (1, (0, (0, 0))))), (85, (.iastore, (1, (0, (0, 0))))), (86, (.aload_n 0, (1, (0, (0, 0))))), (87, (.dup, (1, (0, (0, 0))))), (88, (.getfield 211, (3, (11, (19, 0))))), (91, (.iconst 1, (1, (0, (0, 0))))), (92, (.iadd, (1, (0, (0, 0))))), (93, (.putfield 211, (3, (11, (19, 0))))), (96, (.iload_n 1, (1, (0, (0, 0))))), (97, (.bipush 10, (2, (0, (0, 0))))), (99, (.idiv, (1, (0, (0, 0))))), (100, (.istore_n 2, (1, (0, (0, 0))))), (101, (.iload_n 1, (1, (0, (0, 0))))), (102, (.bipush 10, (2, (0, (0, 0))))), (104, (.irem, (1, (0, (0, 0))))), (105, (.istore_n 3, (1, (0, (0, 0))))), (106, (.aload_n 0, (1, (0, (0, 0))))), (107, (.getfield 16, (3, (11, (4, 2))))), (110, (.iload_n 2, (1, (0, (0, 0))))), (111, (.iconst 5, (1, (0, (0, 0))))), (112, (.imul, (1, (0, (0, 0))))), (113, (.iload_n 3, (1, (0, (0, 0))))), (114, (.iadd, (1, (0, (0, 0))))), (115, (.iaload, (1, (0, (0, 0))))), (116, (.istore 4, (2, (0, (0, 0))))), (118, (.iload_n 3, (1, (0, (0, 0))))), (119, (.ifCond .le 22, (3, (0, (0, 0))))), (122, (.aload_n 0, (1, (0, (0, 0))))), (123, (.iload_n 2, (1, (0, (0, 0))))), (124, (.iload_n 3, (1, (0, (0, 0))))), (125, (.iconst 1, (1, (0, (0, 0))))), (126, (.isub, (1, (0, (0, 0))))), (127, (.invokevirtual 208, (3, (199, (3, 0)))))],
  [(130, (.iload 4, (2, (0, (0, 0))))), (132, (.if_icmp .ne 9, (3, (0, (0, 0))))), (135, (.iinc 1 (-1), (3, (0, (0, 0))))), (138, (.goto 23, (3, (0, (0, 0))))), (141, (.aload_n 0, (1, (0, (0, 0))))), (142, (.iload_n 1, (1, (0, (0, 0))))), (143, (.invokevirtual 214, (3, (201, (2, 0))))), (146, (.iload 4, (2, (0, (0, 0))))), (148, (.if_icmp .ne 11, (3, (0, (0, 0))))), (151, (.aload_n 0, (1, (0, (0, 0))))), (152, (.iload_n 1, (1, (0, (0, 0))))), (153, (.invokevirtual 217, (3, (200, (2, 0))))), (156, (.goto 4, (3, (0, (0, 0))))), (159, (.iconst (-1), (1, (0, (0, 0))))), (160, (.istore_n 1, (1, (0, (0, 0))))), (161, (.goto (-90), (3, (0, (0, 0))))), (164, (.return_, (1, (0, (0, 0)))))]]
set_option maxRecDepth 100000 in
noncomputable def mc_X11_wayLength : List (List mI) := [[(0, (.aload_n 0, (1, (0, (0, 0))))), (1, (.aload_n 0, (1, (0, (0, 0))))), (2, (.invokevirtual 199, (3, (190, (1, 0))))), (5, (.iconst 1, (1, (0, (0, 0))))), (6, (.iconst 1, (1, (0, (0, 0))))), (7, (.invokevirtual 151, (3, (139, (4, 0))))), (10, (.ifCond .ne 5, (3, (0, (0, 0))))), (13, (.iconst 0, (1, (0, (0, 0))))), (14, (.ireturn, (1, (0, (0, 0))))), (15, (.aload_n 0, (1, (0, (0, 0))))), (16, (.invokevirtual 220, (3, (202, (1, 0))))), (19, (.aload_n 0, (1, (0, (0, 0))))), (20, (.getfield 211, (3, (11, (19, 0))))), (23, (.ireturn, (1, (0, (0, 0)))))]]
set_option maxRecDepth 100000 in
noncomputable def mc_X11_wayAt : List (List mI) := [[(0, (.aload_n 0, (1, (0, (0, 0))))), (1, (.iconst 0, (1, (0, (0, 0))))), (2, (.putfield 211, (3, (11, (19, 0))))), (5, (.aload_n 0, (1, (0, (0, 0))))), (6, (.invokevirtual 199, (3, (190, (1, 0))))), (9, (.ifCond .eq 7, (3, (0, (0, 0))))), (12, (.aload_n 0, (1, (0, (0, 0))))), (13, (.invokevirtual 220, (3, (202, (1, 0))))), (16, (.aload_n 0, (1, (0, (0, 0))))), (17, (.iload_n 1, (1, (0, (0, 0))))), (18, (.iconst 0, (1, (0, (0, 0))))), (19, (.aload_n 0, (1, (0, (0, 0))))), (20, (.getfield 211, (3, (11, (19, 0))))), (23, (.iconst 1, (1, (0, (0, 0))))), (24, (.isub, (1, (0, (0, 0))))), (25, (.invokestatic 83, (3, (138, (3, 1))))), (28, (.iconst 1, (1, (0, (0, 0))))), (29, (.iconst 1, (1, (0, (0, 0))))), (30, (.invokevirtual 151, (3, (139, (4, 0))))), (33, (.ifCond .eq 19, (3, (0, (0, 0))))), (36, (.aload_n 0, (1, (0, (0, 0))))), (37, (.getfield 58, (3, (11, (18, 2))))), (40, (.aload_n 0, (1, (0, (0, 0))))), (41, (.getfield 211, (3, (11, (19, 0))))), (44, (.iconst 1, (1, (0, (0, 0))))), (45, (.isub, (1, (0, (0, 0))))), (46, (.iload_n 1, (1, (0, (0, 0))))), (47, (.isub, (1, (0, (0, 0))))), (48, (.iaload, (1, (0, (0, 0))))), (49, (.goto 4, (3, (0, (0, 0))))), (52, (.iconst 0, (1, (0, (0, 0))))), (53, (.ireturn, (1, (0, (0, 0)))))]]
set_option maxRecDepth 100000 in
noncomputable def mc_X11_block : List (List mI) := [[(0, (.aload_n 0, (1, (0, (0, 0))))), (1, (.invokevirtual 220, (3, (202, (1, 0))))), (4, (.iconst 0, (1, (0, (0, 0))))), (5, (.istore_n 2, (1, (0, (0, 0))))), (6, (.iconst 0, (1, (0, (0, 0))))), (7, (.istore_n 3, (1, (0, (0, 0))))), (8, (.iconst 0, (1, (0, (0, 0))))), (9, (.istore 4, (2, (0, (0, 0))))), (11, (.iconst 0, (1, (0, (0, 0))))), (12, (.istore 5, (2, (0, (0, 0))))), (14, (.iload 5, (2, (0, (0, 0))))), (16, (.aload_n 0, (1, (0, (0, 0))))), (17, (.getfield 211, (3, (11, (19, 0))))), (20, (.if_icmp .ge 111, (3, (0, (0, 0))))), (23, (.iload 5, (2, (0, (0, 0))))), (25, (.ifCond .le 62, (3, (0, (0, 0))))), (28, (.aload_n 0, (1, (0, (0, 0))))), (29, (.aload_n 0, (1, (0, (0, 0))))), (30, (.getfield 58, (3, (11, (18, 2))))), (33, (.iload 5, (2, (0, (0, 0))))), (35, (.iaload, (1, (0, (0, 0))))), (36, (.bipush 10, (2, (0, (0, 0))))), (38, (.idiv, (1, (0, (0, 0))))), (39, (.aload_n 0, (1, (0, (0, 0))))), (40, (.getfield 58, (3, (11, (18, 2))))), (43, (.iload 5, (2, (0, (0, 0))))), (45, (.iaload, (1, (0, (0, 0))))), (46, (.bipush 10, (2, (0, (0, 0))))), (48, (.irem, (1, (0, (0, 0))))), (49, (.invokevirtual 95, (3, (143, (3, 0))))), (52, (.aload_n 0, (1, (0, (0, 0))))), (53, (.aload_n 0, (1, (0, (0, 0))))), (54, (.getfield 58, (3, (11, (18, 2))))), (57, (.iload 5, (2, (0, (0, 0))))), (59, (.iconst 1, (1, (0, (0, 0))))), (60, (.isub, (1, (0, (0, 0))))), (61, (.iaload, (1, (0, (0, 0))))), (62, (.bipush 10, (2, (0, (0, 0)))))],
  [(64, (.idiv, (1, (0, (0, 0))))), (65, (.aload_n 0, (1, (0, (0, 0))))), (66, (.getfield 58, (3, (11, (18, 2))))), (69, (.iload 5, (2, (0, (0, 0))))), (71, (.iconst 1, (1, (0, (0, 0))))), (72, (.isub, (1, (0, (0, 0))))), (73, (.iaload, (1, (0, (0, 0))))), (74, (.bipush 10, (2, (0, (0, 0))))), (76, (.irem, (1, (0, (0, 0))))), (77, (.invokevirtual 95, (3, (143, (3, 0))))), (80, (.if_icmp .ne 7, (3, (0, (0, 0))))), (83, (.iconst 1, (1, (0, (0, 0))))), (84, (.goto 4, (3, (0, (0, 0))))), (87, (.iconst 0, (1, (0, (0, 0))))), (88, (.istore 6, (2, (0, (0, 0))))), (90, (.iload 6, (2, (0, (0, 0))))), (92, (.ifCond .eq 10, (3, (0, (0, 0))))), (95, (.iload 4, (2, (0, (0, 0))))), (97, (.iconst 1, (1, (0, (0, 0))))), (98, (.iadd, (1, (0, (0, 0))))), (99, (.goto 4, (3, (0, (0, 0))))), (102, (.iconst 1, (1, (0, (0, 0))))), (103, (.istore 4, (2, (0, (0, 0))))), (105, (.iload_n 2, (1, (0, (0, 0))))), (106, (.iload 6, (2, (0, (0, 0))))), (108, (.ifCond .eq 7, (3, (0, (0, 0))))), (111, (.iconst 0, (1, (0, (0, 0))))), (112, (.goto 4, (3, (0, (0, 0))))), (115, (.iconst 1, (1, (0, (0, 0))))), (116, (.iadd, (1, (0, (0, 0))))), (117, (.istore_n 2, (1, (0, (0, 0))))), (118, (.iload_n 3, (1, (0, (0, 0))))), (119, (.iload 4, (2, (0, (0, 0))))), (121, (.invokestatic 101, (3, (0, (2, 5))))), (124, (.istore_n 3, (1, (0, (0, 0))))), (125, (.iinc 5 1, (3, (0, (0, 0)))))],
  [(128, (.goto (-114), (3, (0, (0, 0))))), (131, (.iload_n 1, (1, (0, (0, 0))))), (132, (.ifCond .eq 7, (3, (0, (0, 0))))), (135, (.iload_n 3, (1, (0, (0, 0))))), (136, (.goto 4, (3, (0, (0, 0))))), (139, (.iload_n 2, (1, (0, (0, 0))))), (140, (.ireturn, (1, (0, (0, 0)))))]]
set_option maxRecDepth 100000 in
noncomputable def mc_X11_blocks : List (List mI) := [[(0, (.aload_n 0, (1, (0, (0, 0))))), (1, (.aload_n 0, (1, (0, (0, 0))))), (2, (.invokevirtual 199, (3, (190, (1, 0))))), (5, (.iconst 1, (1, (0, (0, 0))))), (6, (.iconst 1, (1, (0, (0, 0))))), (7, (.invokevirtual 151, (3, (139, (4, 0))))), (10, (.ifCond .eq 11, (3, (0, (0, 0))))), (13, (.aload_n 0, (1, (0, (0, 0))))), (14, (.iconst 0, (1, (0, (0, 0))))), (15, (.invokevirtual 223, (3, (205, (2, 0))))), (18, (.goto 4, (3, (0, (0, 0))))), (21, (.iconst 0, (1, (0, (0, 0))))), (22, (.ireturn, (1, (0, (0, 0)))))]]
set_option maxRecDepth 100000 in
noncomputable def mc_X11_longestBlock : List (List mI) := [[(0, (.aload_n 0, (1, (0, (0, 0))))), (1, (.aload_n 0, (1, (0, (0, 0))))), (2, (.invokevirtual 199, (3, (190, (1, 0))))), (5, (.iconst 1, (1, (0, (0, 0))))), (6, (.iconst 1, (1, (0, (0, 0))))), (7, (.invokevirtual 151, (3, (139, (4, 0))))), (10, (.ifCond .eq 11, (3, (0, (0, 0))))), (13, (.aload_n 0, (1, (0, (0, 0))))), (14, (.iconst 1, (1, (0, (0, 0))))), (15, (.invokevirtual 223, (3, (205, (2, 0))))), (18, (.goto 4, (3, (0, (0, 0))))), (21, (.iconst 0, (1, (0, (0, 0))))), (22, (.ireturn, (1, (0, (0, 0)))))]]
set_option maxRecDepth 100000 in
noncomputable def mc_X11_slack : List (List mI) := [[(0, (.aload_n 0, (1, (0, (0, 0))))), (1, (.aload_n 0, (1, (0, (0, 0))))), (2, (.iload_n 1, (1, (0, (0, 0))))), (3, (.iload_n 2, (1, (0, (0, 0))))), (4, (.invokevirtual 196, (3, (149, (3, 0))))), (7, (.aload_n 0, (1, (0, (0, 0))))), (8, (.invokevirtual 199, (3, (190, (1, 0))))), (11, (.iconst 1, (1, (0, (0, 0))))), (12, (.invokevirtual 151, (3, (139, (4, 0))))), (15, (.ifCond .ne 5, (3, (0, (0, 0))))), (18, (.iconst 0, (1, (0, (0, 0))))), (19, (.ireturn, (1, (0, (0, 0))))), (20, (.aload_n 0, (1, (0, (0, 0))))), (21, (.invokevirtual 145, (3, (159, (1, 0))))), (24, (.istore_n 3, (1, (0, (0, 0))))), (25, (.iconst 0, (1, (0, (0, 0))))), (26, (.istore 4, (2, (0, (0, 0))))), (28, (.iload 4, (2, (0, (0, 0))))), (30, (.sipush 1000, (3, (0, (0, 0))))), (33, (.if_icmp .ge 41, (3, (0, (0, 0))))), (36, (.aload_n 0, (1, (0, (0, 0))))), (37, (.aload_n 0, (1, (0, (0, 0))))), (38, (.getfield 9, (3, (11, (0, 2))))), (41, (.sipush 152, (3, (0, (0, 0))))), (44, (.bipush 10, (2, (0, (0, 0))))), (46, (.iload_n 1, (1, (0, (0, 0))))), (47, (.imul, (1, (0, (0, 0))))), (48, (.iload_n 2, (1, (0, (0, 0))))), (49, (.iadd, (1, (0, (0, 0))))), (50, (.iload 4, (2, (0, (0, 0))))), (52, (.iconst 1, (1, (0, (0, 0))))), (53, (.iadd, (1, (0, (0, 0))))), (54, (.invokevirtual 124, (3, (157, (5, 0))))), (57, (.ifCond .eq 17, (3, (0, (0, 0))))), (60, (.aload_n 0, (1, (0, (0, 0))))), (61, (.invokevirtual 145, (3, (159, (1, 0)))))],
  [(64, (.iload_n 3, (1, (0, (0, 0))))), (65, (.if_icmp .gt 9, (3, (0, (0, 0))))), (68, (.iinc 4 1, (3, (0, (0, 0))))), (71, (.goto (-43), (3, (0, (0, 0))))), (74, (.iload 4, (2, (0, (0, 0))))), (76, (.ireturn, (1, (0, (0, 0)))))]]
set_option maxRecDepth 100000 in
noncomputable def mc_X11_delay : List (List mI) := [[(0, (.aload_n 0, (1, (0, (0, 0))))), (1, (.aload_n 0, (1, (0, (0, 0))))), (2, (.iload_n 1, (1, (0, (0, 0))))), (3, (.invokevirtual 87, (3, (148, (2, 0))))), (6, (.ifCond .eq 15, (3, (0, (0, 0))))), (9, (.aload_n 0, (1, (0, (0, 0))))), (10, (.iload_n 2, (1, (0, (0, 0))))), (11, (.invokevirtual 87, (3, (148, (2, 0))))), (14, (.ifCond .eq 7, (3, (0, (0, 0))))), (17, (.iconst 1, (1, (0, (0, 0))))), (18, (.goto 4, (3, (0, (0, 0))))), (21, (.iconst 0, (1, (0, (0, 0))))), (22, (.aload_n 0, (1, (0, (0, 0))))), (23, (.invokevirtual 199, (3, (190, (1, 0))))), (26, (.iconst 1, (1, (0, (0, 0))))), (27, (.invokevirtual 151, (3, (139, (4, 0))))), (30, (.ifCond .ne 5, (3, (0, (0, 0))))), (33, (.iconst 0, (1, (0, (0, 0))))), (34, (.ireturn, (1, (0, (0, 0))))), (35, (.aload_n 0, (1, (0, (0, 0))))), (36, (.getfield 22, (3, (11, (6, 2))))), (39, (.iload_n 2, (1, (0, (0, 0))))), (40, (.iaload, (1, (0, (0, 0))))), (41, (.istore_n 3, (1, (0, (0, 0))))), (42, (.aload_n 0, (1, (0, (0, 0))))), (43, (.iload_n 1, (1, (0, (0, 0))))), (44, (.invokevirtual 190, (3, (183, (2, 0))))), (47, (.aload_n 0, (1, (0, (0, 0))))), (48, (.aload_n 0, (1, (0, (0, 0))))), (49, (.getfield 37, (3, (11, (11, 2))))), (52, (.iconst 0, (1, (0, (0, 0))))), (53, (.iconst (-1), (1, (0, (0, 0))))), (54, (.iconst 0, (1, (0, (0, 0))))), (55, (.invokevirtual 124, (3, (157, (5, 0))))), (58, (.istore 4, (2, (0, (0, 0))))), (60, (.aload_n 0, (1, (0, (0, 0))))), (61, (.getfield 22, (3, (11, (6, 2)))))],
  [(64, (.iload_n 2, (1, (0, (0, 0))))), (65, (.iaload, (1, (0, (0, 0))))), (66, (.iload_n 3, (1, (0, (0, 0))))), (67, (.isub, (1, (0, (0, 0))))), (68, (.ireturn, (1, (0, (0, 0)))))]]
set_option maxRecDepth 100000 in
noncomputable def mc_X11_part : List (List mI) := [[(0, (.iload_n 2, (1, (0, (0, 0))))), (1, (.aload_n 0, (1, (0, (0, 0))))), (2, (.iload_n 1, (1, (0, (0, 0))))), (3, (.iconst 4, (1, (0, (0, 0))))), (4, (.invokevirtual 73, (3, (142, (3, 0))))), (7, (.if_icmp .ge 12, (3, (0, (0, 0))))), (10, (.aload_n 0, (1, (0, (0, 0))))), (11, (.iload_n 1, (1, (0, (0, 0))))), (12, (.iload_n 2, (1, (0, (0, 0))))), (13, (.invokevirtual 77, (3, (144, (3, 0))))), (16, (.goto 4, (3, (0, (0, 0))))), (19, (.iconst 0, (1, (0, (0, 0))))), (20, (.ireturn, (1, (0, (0, 0)))))]]
set_option maxRecDepth 100000 in
noncomputable def mc_X11_goesFirst : List (List mI) := [[(0, (.iload_n 1, (1, (0, (0, 0))))), (1, (.ifCond .ne 11, (3, (0, (0, 0))))), (4, (.aload_n 0, (1, (0, (0, 0))))), (5, (.iload_n 2, (1, (0, (0, 0))))), (6, (.invokevirtual 193, (3, (146, (2, 0))))), (9, (.goto 9, (3, (0, (0, 0))))), (12, (.aload_n 0, (1, (0, (0, 0))))), (13, (.iload_n 2, (1, (0, (0, 0))))), (14, (.iconst 1, (1, (0, (0, 0))))), (15, (.invokevirtual 73, (3, (142, (3, 0))))), (18, (.istore 4, (2, (0, (0, 0))))), (20, (.iload_n 1, (1, (0, (0, 0))))), (21, (.ifCond .ne 11, (3, (0, (0, 0))))), (24, (.aload_n 0, (1, (0, (0, 0))))), (25, (.iload_n 3, (1, (0, (0, 0))))), (26, (.invokevirtual 193, (3, (146, (2, 0))))), (29, (.goto 9, (3, (0, (0, 0))))), (32, (.aload_n 0, (1, (0, (0, 0))))), (33, (.iload_n 3, (1, (0, (0, 0))))), (34, (.iconst 1, (1, (0, (0, 0))))), (35, (.invokevirtual 73, (3, (142, (3, 0))))), (38, (.istore 5, (2, (0, (0, 0))))), (40, (.iload_n 1, (1, (0, (0, 0))))), (41, (.iconst 2, (1, (0, (0, 0))))), (42, (.if_icmp .ne 103, (3, (0, (0, 0))))), (45, (.aload_n 0, (1, (0, (0, 0))))), (46, (.iload_n 2, (1, (0, (0, 0))))), (47, (.iconst 0, (1, (0, (0, 0))))), (48, (.invokevirtual 227, (3, (210, (3, 0))))), (51, (.aload_n 0, (1, (0, (0, 0))))), (52, (.iload_n 2, (1, (0, (0, 0))))), (53, (.iconst 1, (1, (0, (0, 0))))), (54, (.invokevirtual 227, (3, (210, (3, 0))))), (57, (.if_icmp .ge 7, (3, (0, (0, 0))))), (60, (.iconst 1, (1, (0, (0, 0))))), (61, (.goto 4, (3, (0, (0, 0)))))],
  [(64, (.iconst 0, (1, (0, (0, 0))))), (65, (.istore 6, (2, (0, (0, 0))))), (67, (.aload_n 0, (1, (0, (0, 0))))), (68, (.iload_n 3, (1, (0, (0, 0))))), (69, (.iconst 0, (1, (0, (0, 0))))), (70, (.invokevirtual 227, (3, (210, (3, 0))))), (73, (.aload_n 0, (1, (0, (0, 0))))), (74, (.iload_n 3, (1, (0, (0, 0))))), (75, (.iconst 1, (1, (0, (0, 0))))), (76, (.invokevirtual 227, (3, (210, (3, 0))))), (79, (.if_icmp .ge 7, (3, (0, (0, 0))))), (82, (.iconst 1, (1, (0, (0, 0))))), (83, (.goto 4, (3, (0, (0, 0))))), (86, (.iconst 0, (1, (0, (0, 0))))), (87, (.istore 7, (2, (0, (0, 0))))), (89, (.iload 6, (2, (0, (0, 0))))), (91, (.iload 7, (2, (0, (0, 0))))), (93, (.if_icmp .eq 6, (3, (0, (0, 0))))), (96, (.iload 6, (2, (0, (0, 0))))), (98, (.ireturn, (1, (0, (0, 0))))), (99, (.iload 6, (2, (0, (0, 0))))), (101, (.ifCond .eq 12, (3, (0, (0, 0))))), (104, (.aload_n 0, (1, (0, (0, 0))))), (105, (.iload_n 2, (1, (0, (0, 0))))), (106, (.iconst 0, (1, (0, (0, 0))))), (107, (.invokevirtual 227, (3, (210, (3, 0))))), (110, (.goto 10, (3, (0, (0, 0))))), (113, (.aload_n 0, (1, (0, (0, 0))))), (114, (.iload_n 2, (1, (0, (0, 0))))), (115, (.iconst 1, (1, (0, (0, 0))))), (116, (.invokevirtual 227, (3, (210, (3, 0))))), (119, (.ineg, (1, (0, (0, 0))))), (120, (.istore 4, (2, (0, (0, 0))))), (122, (.iload 6, (2, (0, (0, 0))))), (124, (.ifCond .eq 12, (3, (0, (0, 0))))), (127, (.aload_n 0, (1, (0, (0, 0)))))],
  [(128, (.iload_n 3, (1, (0, (0, 0))))), (129, (.iconst 0, (1, (0, (0, 0))))), (130, (.invokevirtual 227, (3, (210, (3, 0))))), (133, (.goto 10, (3, (0, (0, 0))))), (136, (.aload_n 0, (1, (0, (0, 0))))), (137, (.iload_n 3, (1, (0, (0, 0))))), (138, (.iconst 1, (1, (0, (0, 0))))), (139, (.invokevirtual 227, (3, (210, (3, 0))))), (142, (.ineg, (1, (0, (0, 0))))), (143, (.istore 5, (2, (0, (0, 0))))), (145, (.iload 4, (2, (0, (0, 0))))), (147, (.iload 5, (2, (0, (0, 0))))), (149, (.if_icmp .lt 15, (3, (0, (0, 0))))), (152, (.iload 4, (2, (0, (0, 0))))), (154, (.iload 5, (2, (0, (0, 0))))), (156, (.if_icmp .ne 12, (3, (0, (0, 0))))), (159, (.iload_n 2, (1, (0, (0, 0))))), (160, (.iload_n 3, (1, (0, (0, 0))))), (161, (.if_icmp .ge 7, (3, (0, (0, 0))))), (164, (.iconst 1, (1, (0, (0, 0))))), (165, (.goto 4, (3, (0, (0, 0))))), (168, (.iconst 0, (1, (0, (0, 0))))), (169, (.ireturn, (1, (0, (0, 0)))))]]
set_option maxRecDepth 100000 in
noncomputable def mc_X11_laysRow : List (List mI) := [[(0, (.iconst 0, (1, (0, (0, 0))))), (1, (.istore_n 2, (1, (0, (0, 0))))), (2, (.iload_n 2, (1, (0, (0, 0))))), (3, (.aload_n 0, (1, (0, (0, 0))))), (4, (.getfield 9, (3, (11, (0, 2))))), (7, (.iconst 0, (1, (0, (0, 0))))), (8, (.iaload, (1, (0, (0, 0))))), (9, (.if_icmp .ge 63, (3, (0, (0, 0))))), (12, (.iconst 0, (1, (0, (0, 0))))), (13, (.istore_n 3, (1, (0, (0, 0))))), (14, (.iconst 0, (1, (0, (0, 0))))), (15, (.istore 4, (2, (0, (0, 0))))), (17, (.iload 4, (2, (0, (0, 0))))), (19, (.aload_n 0, (1, (0, (0, 0))))), (20, (.getfield 9, (3, (11, (0, 2))))), (23, (.iconst 0, (1, (0, (0, 0))))), (24, (.iaload, (1, (0, (0, 0))))), (25, (.if_icmp .ge 34, (3, (0, (0, 0))))), (28, (.iload_n 3, (1, (0, (0, 0))))), (29, (.iload 4, (2, (0, (0, 0))))), (31, (.iload_n 2, (1, (0, (0, 0))))), (32, (.if_icmp .eq 18, (3, (0, (0, 0))))), (35, (.aload_n 0, (1, (0, (0, 0))))), (36, (.iload_n 1, (1, (0, (0, 0))))), (37, (.iload 4, (2, (0, (0, 0))))), (39, (.iload_n 2, (1, (0, (0, 0))))), (40, (.invokevirtual 230, (3, (211, (4, 0))))), (43, (.ifCond .eq 7, (3, (0, (0, 0))))), (46, (.iconst 1, (1, (0, (0, 0))))), (47, (.goto 4, (3, (0, (0, 0))))), (50, (.iconst 0, (1, (0, (0, 0))))), (51, (.iadd, (1, (0, (0, 0))))), (52, (.istore_n 3, (1, (0, (0, 0))))), (53, (.iinc 4 1, (3, (0, (0, 0))))), (56, (.goto (-39), (3, (0, (0, 0))))), (59, (.aload_n 0, (1, (0, (0, 0))))), (60, (.getfield 49, (3, (11, (15, 2))))), (63, (.iload_n 3, (1, (0, (0, 0)))))],
  [(64, (.iload_n 2, (1, (0, (0, 0))))), (65, (.iastore, (1, (0, (0, 0))))), (66, (.iinc 2 1, (3, (0, (0, 0))))), (69, (.goto (-67), (3, (0, (0, 0))))), (72, (.return_, (1, (0, (0, 0)))))]]
set_option maxRecDepth 100000 in
noncomputable def mc_X11_leastSum : List (List mI) := [[(0, (.aload_n 0, (1, (0, (0, 0))))), (1, (.iconst 0, (1, (0, (0, 0))))), (2, (.putfield 69, (3, (11, (3, 0))))), (5, (.aload_n 0, (1, (0, (0, 0))))), (6, (.iconst 0, (1, (0, (0, 0))))), (7, (.invokevirtual 233, (3, (212, (2, 0))))), (10, (.iconst 0, (1, (0, (0, 0))))), (11, (.istore_n 1, (1, (0, (0, 0))))), (12, (.iconst 0, (1, (0, (0, 0))))), (13, (.istore_n 2, (1, (0, (0, 0))))), (14, (.iconst 0, (1, (0, (0, 0))))), (15, (.istore_n 3, (1, (0, (0, 0))))), (16, (.iload_n 3, (1, (0, (0, 0))))), (17, (.aload_n 0, (1, (0, (0, 0))))), (18, (.getfield 9, (3, (11, (0, 2))))), (21, (.iconst 0, (1, (0, (0, 0))))), (22, (.iaload, (1, (0, (0, 0))))), (23, (.if_icmp .ge 26, (3, (0, (0, 0))))), (26, (.iload_n 1, (1, (0, (0, 0))))), (27, (.aload_n 0, (1, (0, (0, 0))))), (28, (.aload_n 0, (1, (0, (0, 0))))), (29, (.getfield 49, (3, (11, (15, 2))))), (32, (.iload_n 3, (1, (0, (0, 0))))), (33, (.iaload, (1, (0, (0, 0))))), (34, (.invokevirtual 193, (3, (146, (2, 0))))), (37, (.iadd, (1, (0, (0, 0))))), (38, (.istore_n 1, (1, (0, (0, 0))))), (39, (.iload_n 2, (1, (0, (0, 0))))), (40, (.iload_n 1, (1, (0, (0, 0))))), (41, (.iadd, (1, (0, (0, 0))))), (42, (.istore_n 2, (1, (0, (0, 0))))), (43, (.iinc 3 1, (3, (0, (0, 0))))), (46, (.goto (-30), (3, (0, (0, 0))))), (49, (.iload_n 2, (1, (0, (0, 0))))), (50, (.ireturn, (1, (0, (0, 0)))))]]
set_option maxRecDepth 100000 in
noncomputable def mc_X11_leastLateness : List (List mI) := [[(0, (.aload_n 0, (1, (0, (0, 0))))), (1, (.iconst 0, (1, (0, (0, 0))))), (2, (.putfield 69, (3, (11, (3, 0))))), (5, (.aload_n 0, (1, (0, (0, 0))))), (6, (.iconst 1, (1, (0, (0, 0))))), (7, (.invokevirtual 233, (3, (212, (2, 0))))), (10, (.iconst 0, (1, (0, (0, 0))))), (11, (.istore_n 1, (1, (0, (0, 0))))), (12, (.iconst 0, (1, (0, (0, 0))))), (13, (.istore_n 2, (1, (0, (0, 0))))), (14, (.iconst 0, (1, (0, (0, 0))))), (15, (.istore_n 3, (1, (0, (0, 0))))), (16, (.iload_n 3, (1, (0, (0, 0))))), (17, (.aload_n 0, (1, (0, (0, 0))))), (18, (.getfield 9, (3, (11, (0, 2))))), (21, (.iconst 0, (1, (0, (0, 0))))), (22, (.iaload, (1, (0, (0, 0))))), (23, (.if_icmp .ge 60, (3, (0, (0, 0))))), (26, (.iload_n 1, (1, (0, (0, 0))))), (27, (.aload_n 0, (1, (0, (0, 0))))), (28, (.aload_n 0, (1, (0, (0, 0))))), (29, (.getfield 49, (3, (11, (15, 2))))), (32, (.iload_n 3, (1, (0, (0, 0))))), (33, (.iaload, (1, (0, (0, 0))))), (34, (.invokevirtual 193, (3, (146, (2, 0))))), (37, (.iadd, (1, (0, (0, 0))))), (38, (.istore_n 1, (1, (0, (0, 0))))), (39, (.iload_n 3, (1, (0, (0, 0))))), (40, (.ifCond .ne 19, (3, (0, (0, 0))))), (43, (.iload_n 1, (1, (0, (0, 0))))), (44, (.aload_n 0, (1, (0, (0, 0))))), (45, (.aload_n 0, (1, (0, (0, 0))))), (46, (.getfield 49, (3, (11, (15, 2))))), (49, (.iload_n 3, (1, (0, (0, 0))))), (50, (.iaload, (1, (0, (0, 0))))), (51, (.iconst 1, (1, (0, (0, 0))))), (52, (.invokevirtual 73, (3, (142, (3, 0))))), (55, (.isub, (1, (0, (0, 0))))), (56, (.goto 20, (3, (0, (0, 0))))), (59, (.iload_n 2, (1, (0, (0, 0))))), (60, (.iload_n 1, (1, (0, (0, 0))))), (61, (.aload_n 0, (1, (0, (0, 0))))), (62, (.aload_n 0, (1, (0, (0, 0))))), (63, (.getfield 49, (3, (11, (15, 2)))))],
  [(66, (.iload_n 3, (1, (0, (0, 0))))), (67, (.iaload, (1, (0, (0, 0))))), (68, (.iconst 1, (1, (0, (0, 0))))), (69, (.invokevirtual 73, (3, (142, (3, 0))))), (72, (.isub, (1, (0, (0, 0))))), (73, (.invokestatic 101, (3, (0, (2, 5))))), (76, (.istore_n 2, (1, (0, (0, 0))))), (77, (.iinc 3 1, (3, (0, (0, 0))))), (80, (.goto (-64), (3, (0, (0, 0))))), (83, (.iload_n 2, (1, (0, (0, 0))))), (84, (.ireturn, (1, (0, (0, 0)))))]]
set_option maxRecDepth 100000 in
noncomputable def mc_X11_dropped : List (List mI) := [[(0, (.aload_n 0, (1, (0, (0, 0))))), (1, (.iconst 1, (1, (0, (0, 0))))), (2, (.invokevirtual 233, (3, (212, (2, 0))))), (5, (.iconst 0, (1, (0, (0, 0))))), (6, (.istore_n 1, (1, (0, (0, 0))))), (7, (.iconst 0, (1, (0, (0, 0))))), (8, (.istore_n 2, (1, (0, (0, 0))))), (9, (.iconst 0, (1, (0, (0, 0))))), (10, (.istore_n 3, (1, (0, (0, 0))))), (11, (.iload_n 3, (1, (0, (0, 0))))), (12, (.aload_n 0, (1, (0, (0, 0))))), (13, (.getfield 9, (3, (11, (0, 2))))), (16, (.iconst 0, (1, (0, (0, 0))))), (17, (.iaload, (1, (0, (0, 0))))), (18, (.if_icmp .ge 129, (3, (0, (0, 0))))), (21, (.iload_n 1, (1, (0, (0, 0))))), (22, (.iconst 1, (1, (0, (0, 0))))), (23, (.aload_n 0, (1, (0, (0, 0))))), (24, (.getfield 49, (3, (11, (15, 2))))), (27, (.iload_n 3, (1, (0, (0, 0))))), (28, (.iaload, (1, (0, (0, 0))))), (29, (.ishl, (1, (0, (0, 0))))), (30, (.ior, (1, (0, (0, 0))))), (31, (.istore_n 1, (1, (0, (0, 0))))), (32, (.iconst 0, (1, (0, (0, 0))))), (33, (.istore 4, (2, (0, (0, 0))))), (35, (.iconst (-1), (1, (0, (0, 0))))), (36, (.istore 5, (2, (0, (0, 0))))), (38, (.iconst 0, (1, (0, (0, 0))))), (39, (.istore 6, (2, (0, (0, 0))))), (41, (.iload 6, (2, (0, (0, 0))))), (43, (.aload_n 0, (1, (0, (0, 0))))), (44, (.getfield 9, (3, (11, (0, 2))))), (47, (.iconst 0, (1, (0, (0, 0))))), (48, (.iaload, (1, (0, (0, 0))))), (49, (.if_icmp .ge 57, (3, (0, (0, 0))))), (52, (.iload_n 1, (1, (0, (0, 0))))), (53, (.iload 6, (2, (0, (0, 0))))), (55, (.ishr, (1, (0, (0, 0))))), (56, (.iconst 1, (1, (0, (0, 0))))), (57, (.iand, (1, (0, (0, 0))))), (58, (.ifCond .ne 6, (3, (0, (0, 0))))), (61, (.goto 39, (3, (0, (0, 0)))))],
  [(64, (.iload 4, (2, (0, (0, 0))))), (66, (.aload_n 0, (1, (0, (0, 0))))), (67, (.iload 6, (2, (0, (0, 0))))), (69, (.invokevirtual 193, (3, (146, (2, 0))))), (72, (.iadd, (1, (0, (0, 0))))), (73, (.istore 4, (2, (0, (0, 0))))), (75, (.iload 5, (2, (0, (0, 0))))), (77, (.iconst (-1), (1, (0, (0, 0))))), (78, (.if_icmp .eq 18, (3, (0, (0, 0))))), (81, (.aload_n 0, (1, (0, (0, 0))))), (82, (.iload 6, (2, (0, (0, 0))))), (84, (.invokevirtual 193, (3, (146, (2, 0))))), (87, (.aload_n 0, (1, (0, (0, 0))))), (88, (.iload 5, (2, (0, (0, 0))))), (90, (.invokevirtual 193, (3, (146, (2, 0))))), (93, (.if_icmp .lt 7, (3, (0, (0, 0))))), (96, (.iload 6, (2, (0, (0, 0))))), (98, (.istore 5, (2, (0, (0, 0))))), (100, (.iinc 6 1, (3, (0, (0, 0))))), (103, (.goto (-62), (3, (0, (0, 0))))), (106, (.iload 4, (2, (0, (0, 0))))), (108, (.aload_n 0, (1, (0, (0, 0))))), (109, (.aload_n 0, (1, (0, (0, 0))))), (110, (.getfield 49, (3, (11, (15, 2))))), (113, (.iload_n 3, (1, (0, (0, 0))))), (114, (.iaload, (1, (0, (0, 0))))), (115, (.iconst 1, (1, (0, (0, 0))))), (116, (.invokevirtual 73, (3, (142, (3, 0))))), (119, (.if_icmp .gt 6, (3, (0, (0, 0))))), (122, (.goto 19, (3, (0, (0, 0))))), (125, (.iload_n 1, (1, (0, (0, 0))))), (126, (.iconst 1, (1, (0, (0, 0))))), (127, (.iload 5, (2, (0, (0, 0)))))],
  [(129, (.ishl, (1, (0, (0, 0))))), (130, (.iconst (-1), (1, (0, (0, 0))))), (131, (.ixor, (1, (0, (0, 0))))), (132, (.iand, (1, (0, (0, 0))))), (133, (.istore_n 1, (1, (0, (0, 0))))), (134, (.iload_n 2, (1, (0, (0, 0))))), (135, (.iconst 1, (1, (0, (0, 0))))), (136, (.iload 5, (2, (0, (0, 0))))), (138, (.ishl, (1, (0, (0, 0))))), (139, (.ior, (1, (0, (0, 0))))), (140, (.istore_n 2, (1, (0, (0, 0))))), (141, (.iinc 3 1, (3, (0, (0, 0))))), (144, (.goto (-133), (3, (0, (0, 0))))), (147, (.iload_n 2, (1, (0, (0, 0))))), (148, (.ireturn, (1, (0, (0, 0)))))]]
set_option maxRecDepth 100000 in
noncomputable def mc_X11_fewestLate : List (List mI) := [[(0, (.aload_n 0, (1, (0, (0, 0))))), (1, (.iconst 0, (1, (0, (0, 0))))), (2, (.putfield 69, (3, (11, (3, 0))))), (5, (.aload_n 0, (1, (0, (0, 0))))), (6, (.invokevirtual 236, (3, (215, (1, 0))))), (9, (.istore_n 1, (1, (0, (0, 0))))), (10, (.iconst 0, (1, (0, (0, 0))))), (11, (.istore_n 2, (1, (0, (0, 0))))), (12, (.iconst 0, (1, (0, (0, 0))))), (13, (.istore_n 3, (1, (0, (0, 0))))), (14, (.iload_n 3, (1, (0, (0, 0))))), (15, (.bipush 6, (2, (0, (0, 0))))), (17, (.if_icmp .ge 17, (3, (0, (0, 0))))), (20, (.iload_n 2, (1, (0, (0, 0))))), (21, (.iload_n 1, (1, (0, (0, 0))))), (22, (.iload_n 3, (1, (0, (0, 0))))), (23, (.ishr, (1, (0, (0, 0))))), (24, (.iconst 1, (1, (0, (0, 0))))), (25, (.iand, (1, (0, (0, 0))))), (26, (.iadd, (1, (0, (0, 0))))), (27, (.istore_n 2, (1, (0, (0, 0))))), (28, (.iinc 3 1, (3, (0, (0, 0))))), (31, (.goto (-17), (3, (0, (0, 0))))), (34, (.iload_n 2, (1, (0, (0, 0))))), (35, (.ireturn, (1, (0, (0, 0)))))]]
set_option maxRecDepth 100000 in
noncomputable def mc_X11_isDropped : List (List mI) := [[(0, (.aload_n 0, (1, (0, (0, 0))))), (1, (.aload_n 0, (1, (0, (0, 0))))), (2, (.iload_n 1, (1, (0, (0, 0))))), (3, (.invokevirtual 87, (3, (148, (2, 0))))), (6, (.iconst 1, (1, (0, (0, 0))))), (7, (.iconst 1, (1, (0, (0, 0))))), (8, (.invokevirtual 151, (3, (139, (4, 0))))), (11, (.ifCond .eq 19, (3, (0, (0, 0))))), (14, (.aload_n 0, (1, (0, (0, 0))))), (15, (.invokevirtual 236, (3, (215, (1, 0))))), (18, (.iload_n 1, (1, (0, (0, 0))))), (19, (.ishr, (1, (0, (0, 0))))), (20, (.iconst 1, (1, (0, (0, 0))))), (21, (.iand, (1, (0, (0, 0))))), (22, (.iconst 1, (1, (0, (0, 0))))), (23, (.if_icmp .ne 7, (3, (0, (0, 0))))), (26, (.iconst 1, (1, (0, (0, 0))))), (27, (.goto 4, (3, (0, (0, 0))))), (30, (.iconst 0, (1, (0, (0, 0))))), (31, (.ireturn, (1, (0, (0, 0)))))]]
set_option maxRecDepth 100000 in
noncomputable def mc_X11_leastEnd : List (List mI) := [[(0, (.aload_n 0, (1, (0, (0, 0))))), (1, (.iconst 0, (1, (0, (0, 0))))), (2, (.putfield 69, (3, (11, (3, 0))))), (5, (.aload_n 0, (1, (0, (0, 0))))), (6, (.iconst 2, (1, (0, (0, 0))))), (7, (.invokevirtual 233, (3, (212, (2, 0))))), (10, (.iconst 0, (1, (0, (0, 0))))), (11, (.istore_n 1, (1, (0, (0, 0))))), (12, (.iconst 0, (1, (0, (0, 0))))), (13, (.istore_n 2, (1, (0, (0, 0))))), (14, (.iconst 0, (1, (0, (0, 0))))), (15, (.istore_n 3, (1, (0, (0, 0))))), (16, (.iload_n 3, (1, (0, (0, 0))))), (17, (.aload_n 0, (1, (0, (0, 0))))), (18, (.getfield 9, (3, (11, (0, 2))))), (21, (.iconst 0, (1, (0, (0, 0))))), (22, (.iaload, (1, (0, (0, 0))))), (23, (.if_icmp .ge 41, (3, (0, (0, 0))))), (26, (.iload_n 1, (1, (0, (0, 0))))), (27, (.aload_n 0, (1, (0, (0, 0))))), (28, (.aload_n 0, (1, (0, (0, 0))))), (29, (.getfield 49, (3, (11, (15, 2))))), (32, (.iload_n 3, (1, (0, (0, 0))))), (33, (.iaload, (1, (0, (0, 0))))), (34, (.iconst 0, (1, (0, (0, 0))))), (35, (.invokevirtual 227, (3, (210, (3, 0))))), (38, (.iadd, (1, (0, (0, 0))))), (39, (.istore_n 1, (1, (0, (0, 0))))), (40, (.iload_n 2, (1, (0, (0, 0))))), (41, (.iload_n 1, (1, (0, (0, 0))))), (42, (.invokestatic 101, (3, (0, (2, 5))))), (45, (.aload_n 0, (1, (0, (0, 0))))), (46, (.aload_n 0, (1, (0, (0, 0))))), (47, (.getfield 49, (3, (11, (15, 2))))), (50, (.iload_n 3, (1, (0, (0, 0))))), (51, (.iaload, (1, (0, (0, 0))))), (52, (.iconst 1, (1, (0, (0, 0))))), (53, (.invokevirtual 227, (3, (210, (3, 0))))), (56, (.iadd, (1, (0, (0, 0))))), (57, (.istore_n 2, (1, (0, (0, 0))))), (58, (.iinc 3 1, (3, (0, (0, 0))))), (61, (.goto (-45), (3, (0, (0, 0)))))],
  [(64, (.iload_n 2, (1, (0, (0, 0))))), (65, (.ireturn, (1, (0, (0, 0)))))]]
set_option maxRecDepth 100000 in
noncomputable def mc_X11_twoAt : List (List mI) := [[(0, (.aload_n 0, (1, (0, (0, 0))))), (1, (.iload_n 1, (1, (0, (0, 0))))), (2, (.iconst 0, (1, (0, (0, 0))))), (3, (.aload_n 0, (1, (0, (0, 0))))), (4, (.getfield 9, (3, (11, (0, 2))))), (7, (.iconst 0, (1, (0, (0, 0))))), (8, (.iaload, (1, (0, (0, 0))))), (9, (.iconst 1, (1, (0, (0, 0))))), (10, (.isub, (1, (0, (0, 0))))), (11, (.invokestatic 83, (3, (138, (3, 1))))), (14, (.iconst 1, (1, (0, (0, 0))))), (15, (.iconst 1, (1, (0, (0, 0))))), (16, (.invokevirtual 151, (3, (139, (4, 0))))), (19, (.ifCond .ne 5, (3, (0, (0, 0))))), (22, (.iconst 0, (1, (0, (0, 0))))), (23, (.ireturn, (1, (0, (0, 0))))), (24, (.aload_n 0, (1, (0, (0, 0))))), (25, (.iconst 2, (1, (0, (0, 0))))), (26, (.invokevirtual 233, (3, (212, (2, 0))))), (29, (.aload_n 0, (1, (0, (0, 0))))), (30, (.getfield 49, (3, (11, (15, 2))))), (33, (.iload_n 1, (1, (0, (0, 0))))), (34, (.iaload, (1, (0, (0, 0))))), (35, (.ireturn, (1, (0, (0, 0)))))]]
set_option maxRecDepth 100000 in
noncomputable def mc_X11_nextRow : List (List mI) := [[(0, (.aload_n 0, (1, (0, (0, 0))))), (1, (.getfield 9, (3, (11, (0, 2))))), (4, (.iconst 0, (1, (0, (0, 0))))), (5, (.iaload, (1, (0, (0, 0))))), (6, (.istore_n 1, (1, (0, (0, 0))))), (7, (.iload_n 1, (1, (0, (0, 0))))), (8, (.iconst 2, (1, (0, (0, 0))))), (9, (.isub, (1, (0, (0, 0))))), (10, (.istore_n 2, (1, (0, (0, 0))))), (11, (.iload_n 2, (1, (0, (0, 0))))), (12, (.ifCond .lt 26, (3, (0, (0, 0))))), (15, (.aload_n 0, (1, (0, (0, 0))))), (16, (.getfield 49, (3, (11, (15, 2))))), (19, (.iload_n 2, (1, (0, (0, 0))))), (20, (.iaload, (1, (0, (0, 0))))), (21, (.aload_n 0, (1, (0, (0, 0))))), (22, (.getfield 49, (3, (11, (15, 2))))), (25, (.iload_n 2, (1, (0, (0, 0))))), (26, (.iconst 1, (1, (0, (0, 0))))), (27, (.iadd, (1, (0, (0, 0))))), (28, (.iaload, (1, (0, (0, 0))))), (29, (.if_icmp .le 9, (3, (0, (0, 0))))), (32, (.iinc 2 (-1), (3, (0, (0, 0))))), (35, (.goto (-24), (3, (0, (0, 0))))), (38, (.iload_n 2, (1, (0, (0, 0))))), (39, (.ifCond .ge 5, (3, (0, (0, 0))))), (42, (.iconst 0, (1, (0, (0, 0))))), (43, (.ireturn, (1, (0, (0, 0))))), (44, (.iload_n 1, (1, (0, (0, 0))))), (45, (.iconst 1, (1, (0, (0, 0))))), (46, (.isub, (1, (0, (0, 0))))), (47, (.istore_n 3, (1, (0, (0, 0))))), (48, (.aload_n 0, (1, (0, (0, 0))))), (49, (.getfield 49, (3, (11, (15, 2))))), (52, (.iload_n 3, (1, (0, (0, 0))))), (53, (.iaload, (1, (0, (0, 0))))), (54, (.aload_n 0, (1, (0, (0, 0))))), (55, (.getfield 49, (3, (11, (15, 2))))), (58, (.iload_n 2, (1, (0, (0, 0))))), (59, (.iaload, (1, (0, (0, 0))))), (60, (.if_icmp .ge 9, (3, (0, (0, 0))))), (63, (.iinc 3 (-1), (3, (0, (0, 0)))))],
  [(66, (.goto (-18), (3, (0, (0, 0))))), (69, (.aload_n 0, (1, (0, (0, 0))))), (70, (.iload_n 2, (1, (0, (0, 0))))), (71, (.iload_n 3, (1, (0, (0, 0))))), (72, (.invokevirtual 239, (3, (221, (3, 0))))), (75, (.iload_n 2, (1, (0, (0, 0))))), (76, (.iconst 1, (1, (0, (0, 0))))), (77, (.iadd, (1, (0, (0, 0))))), (78, (.istore 4, (2, (0, (0, 0))))), (80, (.iload_n 1, (1, (0, (0, 0))))), (81, (.iconst 1, (1, (0, (0, 0))))), (82, (.isub, (1, (0, (0, 0))))), (83, (.istore 5, (2, (0, (0, 0))))), (85, (.iload 4, (2, (0, (0, 0))))), (87, (.iload 5, (2, (0, (0, 0))))), (89, (.if_icmp .ge 20, (3, (0, (0, 0))))), (92, (.aload_n 0, (1, (0, (0, 0))))), (93, (.iload 4, (2, (0, (0, 0))))), (95, (.iload 5, (2, (0, (0, 0))))), (97, (.invokevirtual 239, (3, (221, (3, 0))))), (100, (.iinc 4 1, (3, (0, (0, 0))))), (103, (.iinc 5 (-1), (3, (0, (0, 0))))), (106, (.goto (-21), (3, (0, (0, 0))))), (109, (.iconst 1, (1, (0, (0, 0))))), (110, (.ireturn, (1, (0, (0, 0)))))]]
set_option maxRecDepth 100000 in
noncomputable def mc_X11_turns : List (List mI) := [[(0, (.aload_n 0, (1, (0, (0, 0))))), (1, (.getfield 49, (3, (11, (15, 2))))), (4, (.iload_n 1, (1, (0, (0, 0))))), (5, (.iaload, (1, (0, (0, 0))))), (6, (.istore_n 3, (1, (0, (0, 0))))), (7, (.aload_n 0, (1, (0, (0, 0))))), (8, (.getfield 49, (3, (11, (15, 2))))), (11, (.iload_n 1, (1, (0, (0, 0))))), (12, (.aload_n 0, (1, (0, (0, 0))))), (13, (.getfield 49, (3, (11, (15, 2))))), (16, (.iload_n 2, (1, (0, (0, 0))))), (17, (.iaload, (1, (0, (0, 0))))), (18, (.iastore, (1, (0, (0, 0))))), (19, (.aload_n 0, (1, (0, (0, 0))))), (20, (.getfield 49, (3, (11, (15, 2))))), (23, (.iload_n 2, (1, (0, (0, 0))))), (24, (.iload_n 3, (1, (0, (0, 0))))), (25, (.iastore, (1, (0, (0, 0))))), (26, (.return_, (1, (0, (0, 0)))))]]
set_option maxRecDepth 100000 in
noncomputable def mc_X11_setup : List (List mI) := [[(0, (.iconst (-1), (1, (0, (0, 0))))), (1, (.istore_n 1, (1, (0, (0, 0))))), (2, (.iconst 0, (1, (0, (0, 0))))), (3, (.istore_n 2, (1, (0, (0, 0))))), (4, (.iload_n 2, (1, (0, (0, 0))))), (5, (.aload_n 0, (1, (0, (0, 0))))), (6, (.getfield 9, (3, (11, (0, 2))))), (9, (.iconst 0, (1, (0, (0, 0))))), (10, (.iaload, (1, (0, (0, 0))))), (11, (.if_icmp .ge 16, (3, (0, (0, 0))))), (14, (.aload_n 0, (1, (0, (0, 0))))), (15, (.getfield 49, (3, (11, (15, 2))))), (18, (.iload_n 2, (1, (0, (0, 0))))), (19, (.iload_n 2, (1, (0, (0, 0))))), (20, (.iastore, (1, (0, (0, 0))))), (21, (.iinc 2 1, (3, (0, (0, 0))))), (24, (.goto (-20), (3, (0, (0, 0))))), (27, (.iconst 1, (1, (0, (0, 0))))), (28, (.istore_n 2, (1, (0, (0, 0))))), (29, (.iload_n 2, (1, (0, (0, 0))))), (30, (.ifCond .eq 100, (3, (0, (0, 0))))), (33, (.iconst 0, (1, (0, (0, 0))))), (34, (.istore_n 3, (1, (0, (0, 0))))), (35, (.iconst 1, (1, (0, (0, 0))))), (36, (.istore 4, (2, (0, (0, 0))))), (38, (.iload 4, (2, (0, (0, 0))))), (40, (.aload_n 0, (1, (0, (0, 0))))), (41, (.getfield 9, (3, (11, (0, 2))))), (44, (.iconst 0, (1, (0, (0, 0))))), (45, (.iaload, (1, (0, (0, 0))))), (46, (.if_icmp .ge 49, (3, (0, (0, 0))))), (49, (.iload_n 3, (1, (0, (0, 0))))), (50, (.aload_n 0, (1, (0, (0, 0))))), (51, (.getfield 9, (3, (11, (0, 2))))), (54, (.bipush 45, (2, (0, (0, 0))))), (56, (.iconst 4, (1, (0, (0, 0))))), (57, (.aload_n 0, (1, (0, (0, 0))))), (58, (.aload_n 0, (1, (0, (0, 0))))), (59, (.getfield 49, (3, (11, (15, 2))))), (62, (.iload 4, (2, (0, (0, 0)))))],
  [(64, (.iconst 1, (1, (0, (0, 0))))), (65, (.isub, (1, (0, (0, 0))))), (66, (.iaload, (1, (0, (0, 0))))), (67, (.iconst 3, (1, (0, (0, 0))))), (68, (.invokevirtual 73, (3, (142, (3, 0))))), (71, (.imul, (1, (0, (0, 0))))), (72, (.iadd, (1, (0, (0, 0))))), (73, (.aload_n 0, (1, (0, (0, 0))))), (74, (.aload_n 0, (1, (0, (0, 0))))), (75, (.getfield 49, (3, (11, (15, 2))))), (78, (.iload 4, (2, (0, (0, 0))))), (80, (.iaload, (1, (0, (0, 0))))), (81, (.iconst 3, (1, (0, (0, 0))))), (82, (.invokevirtual 73, (3, (142, (3, 0))))), (85, (.iadd, (1, (0, (0, 0))))), (86, (.iaload, (1, (0, (0, 0))))), (87, (.iadd, (1, (0, (0, 0))))), (88, (.istore_n 3, (1, (0, (0, 0))))), (89, (.iinc 4 1, (3, (0, (0, 0))))), (92, (.goto (-54), (3, (0, (0, 0))))), (95, (.iload_n 1, (1, (0, (0, 0))))), (96, (.iconst (-1), (1, (0, (0, 0))))), (97, (.if_icmp .eq 8, (3, (0, (0, 0))))), (100, (.iload_n 3, (1, (0, (0, 0))))), (101, (.iload_n 1, (1, (0, (0, 0))))), (102, (.if_icmp .ge 20, (3, (0, (0, 0))))), (105, (.iload_n 3, (1, (0, (0, 0))))), (106, (.istore_n 1, (1, (0, (0, 0))))), (107, (.aload_n 0, (1, (0, (0, 0))))), (108, (.getfield 49, (3, (11, (15, 2))))), (111, (.iconst 0, (1, (0, (0, 0))))), (112, (.aload_n 0, (1, (0, (0, 0))))), (113, (.getfield 52, (3, (11, (16, 2))))), (116, (.iconst 0, (1, (0, (0, 0))))), (117, (.bipush 6, (2, (0, (0, 0))))), (119, (.invokestatic 135, (3, (0, (5, 7))))), (122, (.aload_n 0, (1, (0, (0, 0))))), (123, (.invokevirtual 242, (3, (220, (1, 0))))), (126, (.istore_n 2, (1, (0, (0, 0))))), (127, (.goto (-98), (3, (0, (0, 0)))))],
  [(130, (.iload_n 1, (1, (0, (0, 0))))), (131, (.ireturn, (1, (0, (0, 0)))))]]
set_option maxRecDepth 100000 in
noncomputable def mc_X11_leastSetup : List (List mI) := [[(0, (.aload_n 0, (1, (0, (0, 0))))), (1, (.iconst 0, (1, (0, (0, 0))))), (2, (.putfield 69, (3, (11, (3, 0))))), (5, (.aload_n 0, (1, (0, (0, 0))))), (6, (.invokevirtual 245, (3, (222, (1, 0))))), (9, (.ireturn, (1, (0, (0, 0)))))]]
set_option maxRecDepth 100000 in
noncomputable def mc_X11_setupAt : List (List mI) := [[(0, (.aload_n 0, (1, (0, (0, 0))))), (1, (.iload_n 1, (1, (0, (0, 0))))), (2, (.iconst 0, (1, (0, (0, 0))))), (3, (.aload_n 0, (1, (0, (0, 0))))), (4, (.getfield 9, (3, (11, (0, 2))))), (7, (.iconst 0, (1, (0, (0, 0))))), (8, (.iaload, (1, (0, (0, 0))))), (9, (.iconst 1, (1, (0, (0, 0))))), (10, (.isub, (1, (0, (0, 0))))), (11, (.invokestatic 83, (3, (138, (3, 1))))), (14, (.iconst 1, (1, (0, (0, 0))))), (15, (.iconst 1, (1, (0, (0, 0))))), (16, (.invokevirtual 151, (3, (139, (4, 0))))), (19, (.ifCond .ne 5, (3, (0, (0, 0))))), (22, (.iconst 0, (1, (0, (0, 0))))), (23, (.ireturn, (1, (0, (0, 0))))), (24, (.aload_n 0, (1, (0, (0, 0))))), (25, (.invokevirtual 245, (3, (222, (1, 0))))), (28, (.istore_n 2, (1, (0, (0, 0))))), (29, (.aload_n 0, (1, (0, (0, 0))))), (30, (.getfield 52, (3, (11, (16, 2))))), (33, (.iload_n 1, (1, (0, (0, 0))))), (34, (.iaload, (1, (0, (0, 0))))), (35, (.ireturn, (1, (0, (0, 0)))))]]
set_option maxRecDepth 100000 in
noncomputable def mc_X11_matches : List (List mI) := [[(0, (.iconst (-1), (1, (0, (0, 0))))), (1, (.istore_n 2, (1, (0, (0, 0))))), (2, (.iconst 0, (1, (0, (0, 0))))), (3, (.istore_n 3, (1, (0, (0, 0))))), (4, (.iload_n 3, (1, (0, (0, 0))))), (5, (.sipush 2401, (3, (0, (0, 0))))), (8, (.if_icmp .ge 175, (3, (0, (0, 0))))), (11, (.iconst 0, (1, (0, (0, 0))))), (12, (.istore 4, (2, (0, (0, 0))))), (14, (.iconst 0, (1, (0, (0, 0))))), (15, (.istore 5, (2, (0, (0, 0))))), (17, (.iconst 1, (1, (0, (0, 0))))), (18, (.istore 6, (2, (0, (0, 0))))), (20, (.iconst 0, (1, (0, (0, 0))))), (21, (.istore 7, (2, (0, (0, 0))))), (23, (.iload 7, (2, (0, (0, 0))))), (25, (.iconst 4, (1, (0, (0, 0))))), (26, (.if_icmp .ge 91, (3, (0, (0, 0))))), (29, (.iload 6, (2, (0, (0, 0))))), (31, (.ifCond .eq 86, (3, (0, (0, 0))))), (34, (.iload_n 3, (1, (0, (0, 0))))), (35, (.iload 7, (2, (0, (0, 0))))), (37, (.invokestatic 248, (3, (226, (2, 1))))), (40, (.istore 8, (2, (0, (0, 0))))), (42, (.iload 8, (2, (0, (0, 0))))), (44, (.bipush 6, (2, (0, (0, 0))))), (46, (.if_icmp .ne 6, (3, (0, (0, 0))))), (49, (.goto 62, (3, (0, (0, 0))))), (52, (.iload_n 1, (1, (0, (0, 0))))), (53, (.iload 7, (2, (0, (0, 0))))), (55, (.ishr, (1, (0, (0, 0))))), (56, (.iconst 1, (1, (0, (0, 0))))), (57, (.iand, (1, (0, (0, 0))))), (58, (.iconst 1, (1, (0, (0, 0))))), (59, (.if_icmp .ne 37, (3, (0, (0, 0))))), (62, (.aload_n 0, (1, (0, (0, 0))))), (63, (.getfield 9, (3, (11, (0, 2)))))],
  [(66, (.sipush 276, (3, (0, (0, 0))))), (69, (.iload 8, (2, (0, (0, 0))))), (71, (.iadd, (1, (0, (0, 0))))), (72, (.iaload, (1, (0, (0, 0))))), (73, (.iload 7, (2, (0, (0, 0))))), (75, (.ishr, (1, (0, (0, 0))))), (76, (.iconst 1, (1, (0, (0, 0))))), (77, (.iand, (1, (0, (0, 0))))), (78, (.iconst 1, (1, (0, (0, 0))))), (79, (.if_icmp .ne 17, (3, (0, (0, 0))))), (82, (.iload 5, (2, (0, (0, 0))))), (84, (.iload 8, (2, (0, (0, 0))))), (86, (.ishr, (1, (0, (0, 0))))), (87, (.iconst 1, (1, (0, (0, 0))))), (88, (.iand, (1, (0, (0, 0))))), (89, (.ifCond .ne 7, (3, (0, (0, 0))))), (92, (.iconst 1, (1, (0, (0, 0))))), (93, (.goto 4, (3, (0, (0, 0))))), (96, (.iconst 0, (1, (0, (0, 0))))), (97, (.istore 6, (2, (0, (0, 0))))), (99, (.iload 5, (2, (0, (0, 0))))), (101, (.iconst 1, (1, (0, (0, 0))))), (102, (.iload 8, (2, (0, (0, 0))))), (104, (.ishl, (1, (0, (0, 0))))), (105, (.ior, (1, (0, (0, 0))))), (106, (.istore 5, (2, (0, (0, 0))))), (108, (.iinc 4 1, (3, (0, (0, 0))))), (111, (.iinc 7 1, (3, (0, (0, 0))))), (114, (.goto (-91), (3, (0, (0, 0))))), (117, (.iload 6, (2, (0, (0, 0))))), (119, (.ifCond .eq 58, (3, (0, (0, 0))))), (122, (.iload 4, (2, (0, (0, 0))))), (124, (.iload_n 2, (1, (0, (0, 0))))), (125, (.if_icmp .gt 6, (3, (0, (0, 0)))))],
  [(128, (.goto 49, (3, (0, (0, 0))))), (131, (.iload 4, (2, (0, (0, 0))))), (133, (.istore_n 2, (1, (0, (0, 0))))), (134, (.iconst 0, (1, (0, (0, 0))))), (135, (.istore 7, (2, (0, (0, 0))))), (137, (.iload 7, (2, (0, (0, 0))))), (139, (.iconst 4, (1, (0, (0, 0))))), (140, (.if_icmp .ge 37, (3, (0, (0, 0))))), (143, (.aload_n 0, (1, (0, (0, 0))))), (144, (.getfield 55, (3, (11, (17, 2))))), (147, (.iload 7, (2, (0, (0, 0))))), (149, (.iload_n 3, (1, (0, (0, 0))))), (150, (.iload 7, (2, (0, (0, 0))))), (152, (.invokestatic 248, (3, (226, (2, 1))))), (155, (.bipush 6, (2, (0, (0, 0))))), (157, (.if_icmp .ne 7, (3, (0, (0, 0))))), (160, (.iconst (-1), (1, (0, (0, 0))))), (161, (.goto 9, (3, (0, (0, 0))))), (164, (.iload_n 3, (1, (0, (0, 0))))), (165, (.iload 7, (2, (0, (0, 0))))), (167, (.invokestatic 248, (3, (226, (2, 1))))), (170, (.iastore, (1, (0, (0, 0))))), (171, (.iinc 7 1, (3, (0, (0, 0))))), (174, (.goto (-37), (3, (0, (0, 0))))), (177, (.iinc 3 1, (3, (0, (0, 0))))), (180, (.goto (-176), (3, (0, (0, 0))))), (183, (.iload_n 2, (1, (0, (0, 0))))), (184, (.ireturn, (1, (0, (0, 0)))))]]
set_option maxRecDepth 100000 in
noncomputable def mc_X11_workerIn : List (List mI) := [[(0, (.iload_n 0, (1, (0, (0, 0))))), (1, (.istore_n 2, (1, (0, (0, 0))))), (2, (.iload_n 1, (1, (0, (0, 0))))), (3, (.istore_n 3, (1, (0, (0, 0))))), (4, (.iload_n 3, (1, (0, (0, 0))))), (5, (.iconst 3, (1, (0, (0, 0))))), (6, (.if_icmp .ge 14, (3, (0, (0, 0))))), (9, (.iload_n 2, (1, (0, (0, 0))))), (10, (.bipush 7, (2, (0, (0, 0))))), (12, (.idiv, (1, (0, (0, 0))))), (13, (.istore_n 2, (1, (0, (0, 0))))), (14, (.iinc 3 1, (3, (0, (0, 0))))), (17, (.goto (-13), (3, (0, (0, 0))))), (20, (.iload_n 2, (1, (0, (0, 0))))), (21, (.bipush 7, (2, (0, (0, 0))))), (23, (.irem, (1, (0, (0, 0))))), (24, (.ireturn, (1, (0, (0, 0)))))]]
set_option maxRecDepth 100000 in
noncomputable def mc_X11_match : List (List mI) := [[(0, (.aload_n 0, (1, (0, (0, 0))))), (1, (.iload_n 1, (1, (0, (0, 0))))), (2, (.iconst 0, (1, (0, (0, 0))))), (3, (.bipush 15, (2, (0, (0, 0))))), (5, (.invokestatic 83, (3, (138, (3, 1))))), (8, (.iconst 1, (1, (0, (0, 0))))), (9, (.iconst 1, (1, (0, (0, 0))))), (10, (.invokevirtual 151, (3, (139, (4, 0))))), (13, (.ifCond .eq 11, (3, (0, (0, 0))))), (16, (.aload_n 0, (1, (0, (0, 0))))), (17, (.iload_n 1, (1, (0, (0, 0))))), (18, (.invokevirtual 251, (3, (225, (2, 0))))), (21, (.goto 4, (3, (0, (0, 0))))), (24, (.iconst 0, (1, (0, (0, 0))))), (25, (.ireturn, (1, (0, (0, 0)))))]]
set_option maxRecDepth 100000 in
noncomputable def mc_X11_workerOf : List (List mI) := [[(0, (.aload_n 0, (1, (0, (0, 0))))), (1, (.iload_n 2, (1, (0, (0, 0))))), (2, (.iconst 0, (1, (0, (0, 0))))), (3, (.iconst 3, (1, (0, (0, 0))))), (4, (.invokestatic 83, (3, (138, (3, 1))))), (7, (.iload_n 1, (1, (0, (0, 0))))), (8, (.iconst 0, (1, (0, (0, 0))))), (9, (.bipush 15, (2, (0, (0, 0))))), (11, (.invokestatic 83, (3, (138, (3, 1))))), (14, (.iconst 1, (1, (0, (0, 0))))), (15, (.invokevirtual 151, (3, (139, (4, 0))))), (18, (.ifCond .ne 5, (3, (0, (0, 0))))), (21, (.iconst 0, (1, (0, (0, 0))))), (22, (.ireturn, (1, (0, (0, 0))))), (23, (.aload_n 0, (1, (0, (0, 0))))), (24, (.iload_n 1, (1, (0, (0, 0))))), (25, (.invokevirtual 251, (3, (225, (2, 0))))), (28, (.istore_n 3, (1, (0, (0, 0))))), (29, (.aload_n 0, (1, (0, (0, 0))))), (30, (.getfield 55, (3, (11, (17, 2))))), (33, (.iload_n 2, (1, (0, (0, 0))))), (34, (.iaload, (1, (0, (0, 0))))), (35, (.ireturn, (1, (0, (0, 0)))))]]
set_option maxRecDepth 100000 in
noncomputable def mc_X11_oddsOf : List (List mI) := [[(0, (.lconst 0, (1, (0, (0, 0))))), (1, (.lstore 4, (2, (0, (0, 0))))), (3, (.iconst 0, (1, (0, (0, 0))))), (4, (.istore 6, (2, (0, (0, 0))))), (6, (.iload 6, (2, (0, (0, 0))))), (8, (.iconst 1, (1, (0, (0, 0))))), (9, (.aload_n 0, (1, (0, (0, 0))))), (10, (.iload_n 1, (1, (0, (0, 0))))), (11, (.iconst 4, (1, (0, (0, 0))))), (12, (.invokevirtual 73, (3, (142, (3, 0))))), (15, (.ishl, (1, (0, (0, 0))))), (16, (.if_icmp .ge 120, (3, (0, (0, 0))))), (19, (.lconst 1, (1, (0, (0, 0))))), (20, (.lstore 7, (2, (0, (0, 0))))), (22, (.iconst 0, (1, (0, (0, 0))))), (23, (.istore 9, (2, (0, (0, 0))))), (25, (.iconst 0, (1, (0, (0, 0))))), (26, (.istore 10, (2, (0, (0, 0))))), (28, (.iload 10, (2, (0, (0, 0))))), (30, (.aload_n 0, (1, (0, (0, 0))))), (31, (.iload_n 1, (1, (0, (0, 0))))), (32, (.iconst 4, (1, (0, (0, 0))))), (33, (.invokevirtual 73, (3, (142, (3, 0))))), (36, (.if_icmp .ge 77, (3, (0, (0, 0))))), (39, (.iload 6, (2, (0, (0, 0))))), (41, (.iload 10, (2, (0, (0, 0))))), (43, (.ishr, (1, (0, (0, 0))))), (44, (.iconst 1, (1, (0, (0, 0))))), (45, (.iand, (1, (0, (0, 0))))), (46, (.iconst 1, (1, (0, (0, 0))))), (47, (.if_icmp .ne 7, (3, (0, (0, 0))))), (50, (.iconst 1, (1, (0, (0, 0))))), (51, (.goto 4, (3, (0, (0, 0))))), (54, (.iconst 0, (1, (0, (0, 0))))), (55, (.istore 11, (2, (0, (0, 0))))), (57, (.lload 7, (2, (0, (0, 0))))), (59, (.iload 11, (2, (0, (0, 0))))), (61, (.ifCond .eq 8, (3, (0, (0, 0)))))],
  [(64, (.iload_n 3, (1, (0, (0, 0))))), (65, (.i2l, (1, (0, (0, 0))))), (66, (.goto 9, (3, (0, (0, 0))))), (69, (.sipush 1000, (3, (0, (0, 0))))), (72, (.iload_n 3, (1, (0, (0, 0))))), (73, (.isub, (1, (0, (0, 0))))), (74, (.i2l, (1, (0, (0, 0))))), (75, (.lmul, (1, (0, (0, 0))))), (76, (.lstore 7, (2, (0, (0, 0))))), (78, (.iload 9, (2, (0, (0, 0))))), (80, (.iload 11, (2, (0, (0, 0))))), (82, (.ifCond .eq 15, (3, (0, (0, 0))))), (85, (.iconst 2, (1, (0, (0, 0))))), (86, (.aload_n 0, (1, (0, (0, 0))))), (87, (.iload_n 1, (1, (0, (0, 0))))), (88, (.iload 10, (2, (0, (0, 0))))), (90, (.invokevirtual 77, (3, (144, (3, 0))))), (93, (.imul, (1, (0, (0, 0))))), (94, (.goto 10, (3, (0, (0, 0))))), (97, (.aload_n 0, (1, (0, (0, 0))))), (98, (.iload_n 1, (1, (0, (0, 0))))), (99, (.iload 10, (2, (0, (0, 0))))), (101, (.invokevirtual 77, (3, (144, (3, 0))))), (104, (.iadd, (1, (0, (0, 0))))), (105, (.istore 9, (2, (0, (0, 0))))), (107, (.iinc 10 1, (3, (0, (0, 0))))), (110, (.goto (-82), (3, (0, (0, 0))))), (113, (.lload 4, (2, (0, (0, 0))))), (115, (.iload 9, (2, (0, (0, 0))))), (117, (.iload_n 2, (1, (0, (0, 0))))), (118, (.if_icmp .gt 8, (3, (0, (0, 0))))), (121, (.lload 7, (2, (0, (0, 0))))), (123, (.goto 4, (3, (0, (0, 0))))), (126, (.lconst 0, (1, (0, (0, 0))))), (127, (.ladd, (1, (0, (0, 0)))))],
  [(128, (.lstore 4, (2, (0, (0, 0))))), (130, (.iinc 6 1, (3, (0, (0, 0))))), (133, (.goto (-127), (3, (0, (0, 0))))), (136, (.lload 4, (2, (0, (0, 0))))), (138, (.lreturn, (1, (0, (0, 0)))))]]
set_option maxRecDepth 100000 in
noncomputable def mc_X11_promise : List (List mI) := [[(0, (.aload_n 0, (1, (0, (0, 0))))), (1, (.aload_n 0, (1, (0, (0, 0))))), (2, (.iload_n 1, (1, (0, (0, 0))))), (3, (.invokevirtual 87, (3, (148, (2, 0))))), (6, (.iload_n 2, (1, (0, (0, 0))))), (7, (.iconst 0, (1, (0, (0, 0))))), (8, (.sipush 1000, (3, (0, (0, 0))))), (11, (.invokestatic 83, (3, (138, (3, 1))))), (14, (.ifCond .eq 18, (3, (0, (0, 0))))), (17, (.iload_n 3, (1, (0, (0, 0))))), (18, (.iconst 1, (1, (0, (0, 0))))), (19, (.sipush 1000, (3, (0, (0, 0))))), (22, (.invokestatic 83, (3, (138, (3, 1))))), (25, (.ifCond .eq 7, (3, (0, (0, 0))))), (28, (.iconst 1, (1, (0, (0, 0))))), (29, (.goto 4, (3, (0, (0, 0))))), (32, (.iconst 0, (1, (0, (0, 0))))), (33, (.iconst 1, (1, (0, (0, 0))))), (34, (.invokevirtual 151, (3, (139, (4, 0))))), (37, (.ifCond .ne 5, (3, (0, (0, 0))))), (40, (.iconst 0, (1, (0, (0, 0))))), (41, (.ireturn, (1, (0, (0, 0))))), (42, (.iload_n 3, (1, (0, (0, 0))))), (43, (.i2l, (1, (0, (0, 0))))), (44, (.lstore 4, (2, (0, (0, 0))))), (46, (.iconst 0, (1, (0, (0, 0))))), (47, (.istore 6, (2, (0, (0, 0))))), (49, (.iload 6, (2, (0, (0, 0))))), (51, (.aload_n 0, (1, (0, (0, 0))))), (52, (.iload_n 1, (1, (0, (0, 0))))), (53, (.iconst 4, (1, (0, (0, 0))))), (54, (.invokevirtual 73, (3, (142, (3, 0))))), (57, (.if_icmp .ge 17, (3, (0, (0, 0))))), (60, (.lload 4, (2, (0, (0, 0))))), (62, (.ldc2_w 254, (3, (1000, (0, 0)))))],
  [(65, (.lmul, (1, (0, (0, 0))))), (66, (.lstore 4, (2, (0, (0, 0))))), (68, (.iinc 6 1, (3, (0, (0, 0))))), (71, (.goto (-22), (3, (0, (0, 0))))), (74, (.iconst 0, (1, (0, (0, 0))))), (75, (.istore 6, (2, (0, (0, 0))))), (77, (.aload_n 0, (1, (0, (0, 0))))), (78, (.iload_n 1, (1, (0, (0, 0))))), (79, (.iload 6, (2, (0, (0, 0))))), (81, (.iload_n 2, (1, (0, (0, 0))))), (82, (.invokevirtual 256, (3, (229, (4, 0))))), (85, (.ldc2_w 254, (3, (1000, (0, 0))))), (88, (.lmul, (1, (0, (0, 0))))), (89, (.lload 4, (2, (0, (0, 0))))), (91, (.lcmp, (1, (0, (0, 0))))), (92, (.ifCond .ge 9, (3, (0, (0, 0))))), (95, (.iinc 6 1, (3, (0, (0, 0))))), (98, (.goto (-21), (3, (0, (0, 0))))), (101, (.aload_n 0, (1, (0, (0, 0))))), (102, (.iload_n 1, (1, (0, (0, 0))))), (103, (.iconst 0, (1, (0, (0, 0))))), (104, (.invokevirtual 73, (3, (142, (3, 0))))), (107, (.iload 6, (2, (0, (0, 0))))), (109, (.iadd, (1, (0, (0, 0))))), (110, (.ireturn, (1, (0, (0, 0)))))]]
set_option maxRecDepth 100000 in
noncomputable def mc_X11_worked : List (List mI) := [[(0, (.aload_n 0, (1, (0, (0, 0))))), (1, (.iload_n 1, (1, (0, (0, 0))))), (2, (.iconst 0, (1, (0, (0, 0))))), (3, (.sipush 5000, (3, (0, (0, 0))))), (6, (.invokestatic 83, (3, (138, (3, 1))))), (9, (.ifCond .eq 16, (3, (0, (0, 0))))), (12, (.iload_n 2, (1, (0, (0, 0))))), (13, (.iconst 0, (1, (0, (0, 0))))), (14, (.iconst 2, (1, (0, (0, 0))))), (15, (.invokestatic 83, (3, (138, (3, 1))))), (18, (.ifCond .eq 7, (3, (0, (0, 0))))), (21, (.iconst 1, (1, (0, (0, 0))))), (22, (.goto 4, (3, (0, (0, 0))))), (25, (.iconst 0, (1, (0, (0, 0))))), (26, (.aload_n 0, (1, (0, (0, 0))))), (27, (.invokevirtual 199, (3, (190, (1, 0))))), (30, (.iconst 1, (1, (0, (0, 0))))), (31, (.invokevirtual 151, (3, (139, (4, 0))))), (34, (.ifCond .ne 5, (3, (0, (0, 0))))), (37, (.iconst 0, (1, (0, (0, 0))))), (38, (.ireturn, (1, (0, (0, 0))))), (39, (.iconst 0, (1, (0, (0, 0))))), (40, (.istore_n 3, (1, (0, (0, 0))))), (41, (.iconst 0, (1, (0, (0, 0))))), (42, (.istore 4, (2, (0, (0, 0))))), (44, (.iload 4, (2, (0, (0, 0))))), (46, (.aload_n 0, (1, (0, (0, 0))))), (47, (.getfield 9, (3, (11, (0, 2))))), (50, (.iconst 0, (1, (0, (0, 0))))), (51, (.iaload, (1, (0, (0, 0))))), (52, (.if_icmp .ge 103, (3, (0, (0, 0))))), (55, (.aload_n 0, (1, (0, (0, 0))))), (56, (.getfield 22, (3, (11, (6, 2))))), (59, (.iload 4, (2, (0, (0, 0))))), (61, (.iaload, (1, (0, (0, 0))))), (62, (.iload_n 1, (1, (0, (0, 0))))), (63, (.if_icmp .gt 7, (3, (0, (0, 0)))))],
  [(66, (.iconst 1, (1, (0, (0, 0))))), (67, (.goto 4, (3, (0, (0, 0))))), (70, (.iconst 0, (1, (0, (0, 0))))), (71, (.istore 5, (2, (0, (0, 0))))), (73, (.iload_n 2, (1, (0, (0, 0))))), (74, (.iconst 1, (1, (0, (0, 0))))), (75, (.if_icmp .ne 8, (3, (0, (0, 0))))), (78, (.iload 5, (2, (0, (0, 0))))), (80, (.ifCond .eq 69, (3, (0, (0, 0))))), (83, (.iload_n 2, (1, (0, (0, 0))))), (84, (.iconst 2, (1, (0, (0, 0))))), (85, (.if_icmp .ne 11, (3, (0, (0, 0))))), (88, (.iload 5, (2, (0, (0, 0))))), (90, (.ifCond .eq 6, (3, (0, (0, 0))))), (93, (.goto 56, (3, (0, (0, 0))))), (96, (.iconst 0, (1, (0, (0, 0))))), (97, (.istore 6, (2, (0, (0, 0))))), (99, (.iload 6, (2, (0, (0, 0))))), (101, (.aload_n 0, (1, (0, (0, 0))))), (102, (.iload 4, (2, (0, (0, 0))))), (104, (.iconst 4, (1, (0, (0, 0))))), (105, (.invokevirtual 73, (3, (142, (3, 0))))), (108, (.if_icmp .ge 41, (3, (0, (0, 0))))), (111, (.iload_n 3, (1, (0, (0, 0))))), (112, (.iconst 0, (1, (0, (0, 0))))), (113, (.iload_n 1, (1, (0, (0, 0))))), (114, (.aload_n 0, (1, (0, (0, 0))))), (115, (.iload 4, (2, (0, (0, 0))))), (117, (.iload 6, (2, (0, (0, 0))))), (119, (.invokevirtual 208, (3, (199, (3, 0))))), (122, (.invokestatic 260, (3, (0, (2, 6))))), (125, (.aload_n 0, (1, (0, (0, 0))))), (126, (.getfield 16, (3, (11, (4, 2)))))],
  [(129, (.iload 4, (2, (0, (0, 0))))), (131, (.iconst 5, (1, (0, (0, 0))))), (132, (.imul, (1, (0, (0, 0))))), (133, (.iload 6, (2, (0, (0, 0))))), (135, (.iadd, (1, (0, (0, 0))))), (136, (.iaload, (1, (0, (0, 0))))), (137, (.isub, (1, (0, (0, 0))))), (138, (.invokestatic 101, (3, (0, (2, 5))))), (141, (.iadd, (1, (0, (0, 0))))), (142, (.istore_n 3, (1, (0, (0, 0))))), (143, (.iinc 6 1, (3, (0, (0, 0))))), (146, (.goto (-47), (3, (0, (0, 0))))), (149, (.iinc 4 1, (3, (0, (0, 0))))), (152, (.goto (-108), (3, (0, (0, 0))))), (155, (.iload_n 3, (1, (0, (0, 0))))), (156, (.ireturn, (1, (0, (0, 0)))))]]
set_option maxRecDepth 100000 in
noncomputable def mc_X11_meanEnd : List (List mI) := [[(0, (.aload_n 0, (1, (0, (0, 0))))), (1, (.aload_n 0, (1, (0, (0, 0))))), (2, (.invokevirtual 199, (3, (190, (1, 0))))), (5, (.iconst 1, (1, (0, (0, 0))))), (6, (.iconst 1, (1, (0, (0, 0))))), (7, (.invokevirtual 151, (3, (139, (4, 0))))), (10, (.ifCond .ne 5, (3, (0, (0, 0))))), (13, (.dconst 0, (1, (0, (0, 0))))), (14, (.dreturn, (1, (0, (0, 0))))), (15, (.iconst 0, (1, (0, (0, 0))))), (16, (.istore_n 1, (1, (0, (0, 0))))), (17, (.iconst 0, (1, (0, (0, 0))))), (18, (.istore_n 2, (1, (0, (0, 0))))), (19, (.iload_n 2, (1, (0, (0, 0))))), (20, (.aload_n 0, (1, (0, (0, 0))))), (21, (.getfield 9, (3, (11, (0, 2))))), (24, (.iconst 0, (1, (0, (0, 0))))), (25, (.iaload, (1, (0, (0, 0))))), (26, (.if_icmp .ge 18, (3, (0, (0, 0))))), (29, (.iload_n 1, (1, (0, (0, 0))))), (30, (.aload_n 0, (1, (0, (0, 0))))), (31, (.getfield 22, (3, (11, (6, 2))))), (34, (.iload_n 2, (1, (0, (0, 0))))), (35, (.iaload, (1, (0, (0, 0))))), (36, (.iadd, (1, (0, (0, 0))))), (37, (.istore_n 1, (1, (0, (0, 0))))), (38, (.iinc 2 1, (3, (0, (0, 0))))), (41, (.goto (-22), (3, (0, (0, 0))))), (44, (.aload_n 0, (1, (0, (0, 0))))), (45, (.getfield 9, (3, (11, (0, 2))))), (48, (.iconst 0, (1, (0, (0, 0))))), (49, (.iaload, (1, (0, (0, 0))))), (50, (.ifCond .ne 7, (3, (0, (0, 0))))), (53, (.dconst 0, (1, (0, (0, 0))))), (54, (.goto 13, (3, (0, (0, 0))))), (57, (.iload_n 1, (1, (0, (0, 0))))), (58, (.i2d, (1, (0, (0, 0))))), (59, (.aload_n 0, (1, (0, (0, 0))))), (60, (.getfield 9, (3, (11, (0, 2))))), (63, (.iconst 0, (1, (0, (0, 0)))))],
  [(64, (.iaload, (1, (0, (0, 0))))), (65, (.i2d, (1, (0, (0, 0))))), (66, (.ddiv, (1, (0, (0, 0))))), (67, (.dreturn, (1, (0, (0, 0)))))]]
set_option maxRecDepth 100000 in
noncomputable def mc_X11_use : List (List mI) := [[(0, (.aload_n 0, (1, (0, (0, 0))))), (1, (.iload_n 1, (1, (0, (0, 0))))), (2, (.iconst 0, (1, (0, (0, 0))))), (3, (.iconst 3, (1, (0, (0, 0))))), (4, (.invokestatic 83, (3, (138, (3, 1))))), (7, (.aload_n 0, (1, (0, (0, 0))))), (8, (.invokevirtual 199, (3, (190, (1, 0))))), (11, (.iconst 1, (1, (0, (0, 0))))), (12, (.invokevirtual 151, (3, (139, (4, 0))))), (15, (.ifCond .ne 5, (3, (0, (0, 0))))), (18, (.fconst 0, (1, (0, (0, 0))))), (19, (.freturn, (1, (0, (0, 0))))), (20, (.aload_n 0, (1, (0, (0, 0))))), (21, (.invokevirtual 145, (3, (159, (1, 0))))), (24, (.ifCond .ne 7, (3, (0, (0, 0))))), (27, (.fconst 0, (1, (0, (0, 0))))), (28, (.goto 15, (3, (0, (0, 0))))), (31, (.aload_n 0, (1, (0, (0, 0))))), (32, (.iload_n 1, (1, (0, (0, 0))))), (33, (.invokevirtual 202, (3, (195, (2, 0))))), (36, (.i2f, (1, (0, (0, 0))))), (37, (.aload_n 0, (1, (0, (0, 0))))), (38, (.invokevirtual 145, (3, (159, (1, 0))))), (41, (.i2f, (1, (0, (0, 0))))), (42, (.fdiv, (1, (0, (0, 0))))), (43, (.freturn, (1, (0, (0, 0)))))]]
set_option maxRecDepth 100000 in
noncomputable def mc_X11_isClosed : List (List mI) := [[(0, (.iconst 0, (1, (0, (0, 0))))), (1, (.istore_n 3, (1, (0, (0, 0))))), (2, (.iconst 0, (1, (0, (0, 0))))), (3, (.istore 4, (2, (0, (0, 0))))), (5, (.iload 4, (2, (0, (0, 0))))), (7, (.aload_n 0, (1, (0, (0, 0))))), (8, (.getfield 9, (3, (11, (0, 2))))), (11, (.iconst 1, (1, (0, (0, 0))))), (12, (.iload_n 1, (1, (0, (0, 0))))), (13, (.bipush 11, (2, (0, (0, 0))))), (15, (.imul, (1, (0, (0, 0))))), (16, (.iadd, (1, (0, (0, 0))))), (17, (.iaload, (1, (0, (0, 0))))), (18, (.if_icmp .ge 58, (3, (0, (0, 0))))), (21, (.iconst 1, (1, (0, (0, 0))))), (22, (.iload_n 1, (1, (0, (0, 0))))), (23, (.bipush 11, (2, (0, (0, 0))))), (25, (.imul, (1, (0, (0, 0))))), (26, (.iadd, (1, (0, (0, 0))))), (27, (.iconst 1, (1, (0, (0, 0))))), (28, (.iadd, (1, (0, (0, 0))))), (29, (.iconst 2, (1, (0, (0, 0))))), (30, (.iload 4, (2, (0, (0, 0))))), (32, (.imul, (1, (0, (0, 0))))), (33, (.iadd, (1, (0, (0, 0))))), (34, (.istore 5, (2, (0, (0, 0))))), (36, (.iload_n 3, (1, (0, (0, 0))))), (37, (.ifCond .ne 27, (3, (0, (0, 0))))), (40, (.aload_n 0, (1, (0, (0, 0))))), (41, (.getfield 9, (3, (11, (0, 2))))), (44, (.iload 5, (2, (0, (0, 0))))), (46, (.iaload, (1, (0, (0, 0))))), (47, (.iload_n 2, (1, (0, (0, 0))))), (48, (.if_icmp .gt 20, (3, (0, (0, 0))))), (51, (.iload_n 2, (1, (0, (0, 0))))), (52, (.aload_n 0, (1, (0, (0, 0))))), (53, (.getfield 9, (3, (11, (0, 2))))), (56, (.iload 5, (2, (0, (0, 0))))), (58, (.iconst 1, (1, (0, (0, 0))))), (59, (.iadd, (1, (0, (0, 0))))), (60, (.iaload, (1, (0, (0, 0))))), (61, (.if_icmp .ge 7, (3, (0, (0, 0)))))],
  [(64, (.iconst 1, (1, (0, (0, 0))))), (65, (.goto 4, (3, (0, (0, 0))))), (68, (.iconst 0, (1, (0, (0, 0))))), (69, (.istore_n 3, (1, (0, (0, 0))))), (70, (.iinc 4 1, (3, (0, (0, 0))))), (73, (.goto (-68), (3, (0, (0, 0))))), (76, (.iload_n 3, (1, (0, (0, 0))))), (77, (.ireturn, (1, (0, (0, 0)))))]]
set_option maxRecDepth 100000 in
noncomputable def mc_X11_isWrong : List (List mI) := [[(0, (.iconst 0, (1, (0, (0, 0))))), (1, (.istore_n 2, (1, (0, (0, 0))))), (2, (.iconst 0, (1, (0, (0, 0))))), (3, (.istore_n 3, (1, (0, (0, 0))))), (4, (.iconst 0, (1, (0, (0, 0))))), (5, (.istore 4, (2, (0, (0, 0))))), (7, (.iload 4, (2, (0, (0, 0))))), (9, (.aload_n 0, (1, (0, (0, 0))))), (10, (.getfield 9, (3, (11, (0, 2))))), (13, (.iconst 0, (1, (0, (0, 0))))), (14, (.iaload, (1, (0, (0, 0))))), (15, (.if_icmp .ge 103, (3, (0, (0, 0))))), (18, (.iconst 0, (1, (0, (0, 0))))), (19, (.istore 5, (2, (0, (0, 0))))), (21, (.iconst 0, (1, (0, (0, 0))))), (22, (.istore 6, (2, (0, (0, 0))))), (24, (.iload 6, (2, (0, (0, 0))))), (26, (.aload_n 0, (1, (0, (0, 0))))), (27, (.iload 4, (2, (0, (0, 0))))), (29, (.iconst 4, (1, (0, (0, 0))))), (30, (.invokevirtual 73, (3, (142, (3, 0))))), (33, (.if_icmp .ge 79, (3, (0, (0, 0))))), (36, (.aload_n 0, (1, (0, (0, 0))))), (37, (.iload 4, (2, (0, (0, 0))))), (39, (.iload 6, (2, (0, (0, 0))))), (41, (.iload_n 1, (1, (0, (0, 0))))), (42, (.invokevirtual 205, (3, (198, (4, 0))))), (45, (.ifCond .ne 6, (3, (0, (0, 0))))), (48, (.goto 58, (3, (0, (0, 0))))), (51, (.aload_n 0, (1, (0, (0, 0))))), (52, (.iload 4, (2, (0, (0, 0))))), (54, (.iload 6, (2, (0, (0, 0))))), (56, (.invokevirtual 95, (3, (143, (3, 0))))), (59, (.istore 7, (2, (0, (0, 0))))), (61, (.iload_n 3, (1, (0, (0, 0))))), (62, (.ifCond .ne 28, (3, (0, (0, 0)))))],
  [(65, (.iload_n 2, (1, (0, (0, 0))))), (66, (.iload 7, (2, (0, (0, 0))))), (68, (.ishr, (1, (0, (0, 0))))), (69, (.iconst 1, (1, (0, (0, 0))))), (70, (.iand, (1, (0, (0, 0))))), (71, (.iconst 1, (1, (0, (0, 0))))), (72, (.if_icmp .eq 18, (3, (0, (0, 0))))), (75, (.iload 5, (2, (0, (0, 0))))), (77, (.ifCond .gt 13, (3, (0, (0, 0))))), (80, (.aload_n 0, (1, (0, (0, 0))))), (81, (.iload 7, (2, (0, (0, 0))))), (83, (.iload_n 1, (1, (0, (0, 0))))), (84, (.invokevirtual 263, (3, (234, (3, 0))))), (87, (.ifCond .eq 7, (3, (0, (0, 0))))), (90, (.iconst 1, (1, (0, (0, 0))))), (91, (.goto 4, (3, (0, (0, 0))))), (94, (.iconst 0, (1, (0, (0, 0))))), (95, (.istore_n 3, (1, (0, (0, 0))))), (96, (.iload_n 2, (1, (0, (0, 0))))), (97, (.iconst 1, (1, (0, (0, 0))))), (98, (.iload 7, (2, (0, (0, 0))))), (100, (.ishl, (1, (0, (0, 0))))), (101, (.ior, (1, (0, (0, 0))))), (102, (.istore_n 2, (1, (0, (0, 0))))), (103, (.iinc 5 1, (3, (0, (0, 0))))), (106, (.iinc 6 1, (3, (0, (0, 0))))), (109, (.goto (-85), (3, (0, (0, 0))))), (112, (.iinc 4 1, (3, (0, (0, 0))))), (115, (.goto (-108), (3, (0, (0, 0))))), (118, (.iload_n 3, (1, (0, (0, 0))))), (119, (.ireturn, (1, (0, (0, 0)))))]]
set_option maxRecDepth 100000 in
noncomputable def mc_X11_errors : List (List mI) := [[(0, (.aload_n 0, (1, (0, (0, 0))))), (1, (.iconst 0, (1, (0, (0, 0))))), (2, (.putfield 69, (3, (11, (3, 0))))), (5, (.aload_n 0, (1, (0, (0, 0))))), (6, (.invokevirtual 199, (3, (190, (1, 0))))), (9, (.ifCond .ne 5, (3, (0, (0, 0))))), (12, (.iconst 0, (1, (0, (0, 0))))), (13, (.ireturn, (1, (0, (0, 0))))), (14, (.aload_n 0, (1, (0, (0, 0))))), (15, (.invokevirtual 145, (3, (159, (1, 0))))), (18, (.istore_n 1, (1, (0, (0, 0))))), (19, (.iload_n 1, (1, (0, (0, 0))))), (20, (.aload_n 0, (1, (0, (0, 0))))), (21, (.invokevirtual 266, (3, (194, (1, 0))))), (24, (.if_icmp .ge 7, (3, (0, (0, 0))))), (27, (.iconst 1, (1, (0, (0, 0))))), (28, (.goto 4, (3, (0, (0, 0))))), (31, (.iconst 0, (1, (0, (0, 0))))), (32, (.istore_n 2, (1, (0, (0, 0))))), (33, (.iconst 0, (1, (0, (0, 0))))), (34, (.istore_n 3, (1, (0, (0, 0))))), (35, (.iload_n 3, (1, (0, (0, 0))))), (36, (.iload_n 1, (1, (0, (0, 0))))), (37, (.if_icmp .ge 25, (3, (0, (0, 0))))), (40, (.iload_n 2, (1, (0, (0, 0))))), (41, (.aload_n 0, (1, (0, (0, 0))))), (42, (.iload_n 3, (1, (0, (0, 0))))), (43, (.invokevirtual 269, (3, (235, (2, 0))))), (46, (.ifCond .eq 7, (3, (0, (0, 0))))), (49, (.iconst 1, (1, (0, (0, 0))))), (50, (.goto 4, (3, (0, (0, 0))))), (53, (.iconst 0, (1, (0, (0, 0))))), (54, (.iadd, (1, (0, (0, 0))))), (55, (.istore_n 2, (1, (0, (0, 0))))), (56, (.iinc 3 1, (3, (0, (0, 0))))), (59, (.goto (-24), (3, (0, (0, 0))))), (62, (.iload_n 2, (1, (0, (0, 0))))), (63, (.ireturn, (1, (0, (0, 0)))))]]
set_option maxRecDepth 100000 in
noncomputable def mc_J6_bitCount_0f7a4 : List (List mI) := [[(0, (.iload_n 0, (1, (0, (0, 0))))), (1, (.iload_n 0, (1, (0, (0, 0))))), (2, (.iconst 1, (1, (0, (0, 0))))), (3, (.iushr, (1, (0, (0, 0))))), (4, (.ldc_w 265, (3, (1431655765, (0, 0))))), (7, (.iand, (1, (0, (0, 0))))), (8, (.isub, (1, (0, (0, 0))))), (9, (.istore_n 0, (1, (0, (0, 0))))), (10, (.iload_n 0, (1, (0, (0, 0))))), (11, (.ldc_w 266, (3, (858993459, (0, 0))))), (14, (.iand, (1, (0, (0, 0))))), (15, (.iload_n 0, (1, (0, (0, 0))))), (16, (.iconst 2, (1, (0, (0, 0))))), (17, (.iushr, (1, (0, (0, 0))))), (18, (.ldc_w 266, (3, (858993459, (0, 0))))), (21, (.iand, (1, (0, (0, 0))))), (22, (.iadd, (1, (0, (0, 0))))), (23, (.istore_n 0, (1, (0, (0, 0))))), (24, (.iload_n 0, (1, (0, (0, 0))))), (25, (.iload_n 0, (1, (0, (0, 0))))), (26, (.iconst 4, (1, (0, (0, 0))))), (27, (.iushr, (1, (0, (0, 0))))), (28, (.iadd, (1, (0, (0, 0))))), (29, (.ldc_w 267, (3, (252645135, (0, 0))))), (32, (.iand, (1, (0, (0, 0))))), (33, (.istore_n 0, (1, (0, (0, 0))))), (34, (.iload_n 0, (1, (0, (0, 0))))), (35, (.iload_n 0, (1, (0, (0, 0))))), (36, (.bipush 8, (2, (0, (0, 0))))), (38, (.iushr, (1, (0, (0, 0))))), (39, (.iadd, (1, (0, (0, 0))))), (40, (.istore_n 0, (1, (0, (0, 0))))), (41, (.iload_n 0, (1, (0, (0, 0))))), (42, (.iload_n 0, (1, (0, (0, 0))))), (43, (.bipush 16, (2, (0, (0, 0))))), (45, (.iushr, (1, (0, (0, 0))))), (46, (.iadd, (1, (0, (0, 0))))), (47, (.istore_n 0, (1, (0, (0, 0))))), (48, (.iload_n 0, (1, (0, (0, 0))))), (49, (.bipush 63, (2, (0, (0, 0))))), (51, (.iand, (1, (0, (0, 0))))), (52, (.ireturn, (1, (0, (0, 0)))))]]
set_option maxRecDepth 100000 in
noncomputable def mc_J9_max_7cf53 : List (List mI) := [[(0, (.iload_n 0, (1, (0, (0, 0))))), (1, (.iload_n 1, (1, (0, (0, 0))))), (2, (.if_icmp .lt 7, (3, (0, (0, 0))))), (5, (.iload_n 0, (1, (0, (0, 0))))), (6, (.goto 4, (3, (0, (0, 0))))), (9, (.iload_n 1, (1, (0, (0, 0))))), (10, (.ireturn, (1, (0, (0, 0)))))]]
set_option maxRecDepth 100000 in
noncomputable def mc_J9_min_7cf53 : List (List mI) := [[(0, (.iload_n 0, (1, (0, (0, 0))))), (1, (.iload_n 1, (1, (0, (0, 0))))), (2, (.if_icmp .gt 7, (3, (0, (0, 0))))), (5, (.iload_n 0, (1, (0, (0, 0))))), (6, (.goto 4, (3, (0, (0, 0))))), (9, (.iload_n 1, (1, (0, (0, 0))))), (10, (.ireturn, (1, (0, (0, 0)))))]]
set_option maxRecDepth 100000 in
noncomputable def mc_J7_fill_d0a16 : List (List mI) := [[(0, (.iconst 0, (1, (0, (0, 0))))), (1, (.istore_n 3, (1, (0, (0, 0))))), (2, (.aload_n 0, (1, (0, (0, 0))))), (3, (.arraylength, (1, (0, (0, 0))))), (4, (.istore 4, (2, (0, (0, 0))))), (6, (.iload_n 3, (1, (0, (0, 0))))), (7, (.iload 4, (2, (0, (0, 0))))), (9, (.if_icmp .ge 13, (3, (0, (0, 0))))), (12, (.aload_n 0, (1, (0, (0, 0))))), (13, (.iload_n 3, (1, (0, (0, 0))))), (14, (.lload_n 1, (1, (0, (0, 0))))), (15, (.lastore, (1, (0, (0, 0))))), (16, (.iinc 3 1, (3, (0, (0, 0))))), (19, (.goto (-13), (3, (0, (0, 0))))), (22, (.return_, (1, (0, (0, 0)))))]]
set_option maxRecDepth 100000 in
noncomputable def mc_J7_fill_53178 : List (List mI) := [[(0, (.iconst 0, (1, (0, (0, 0))))), (1, (.istore_n 2, (1, (0, (0, 0))))), (2, (.aload_n 0, (1, (0, (0, 0))))), (3, (.arraylength, (1, (0, (0, 0))))), (4, (.istore_n 3, (1, (0, (0, 0))))), (5, (.iload_n 2, (1, (0, (0, 0))))), (6, (.iload_n 3, (1, (0, (0, 0))))), (7, (.if_icmp .ge 13, (3, (0, (0, 0))))), (10, (.aload_n 0, (1, (0, (0, 0))))), (11, (.iload_n 2, (1, (0, (0, 0))))), (12, (.iload_n 1, (1, (0, (0, 0))))), (13, (.iastore, (1, (0, (0, 0))))), (14, (.iinc 2 1, (3, (0, (0, 0))))), (17, (.goto (-12), (3, (0, (0, 0))))), (20, (.return_, (1, (0, (0, 0)))))]]
set_option maxRecDepth 100000 in
noncomputable def mc_L_close : List (List mI) := [[(0, (.aload 4, (2, (0, (0, 0))))), (2, (.iconst 0, (1, (0, (0, 0))))), (3, (.aload_n 0, (1, (0, (0, 0))))), (4, (.iload_n 1, (1, (0, (0, 0))))), (5, (.iload_n 2, (1, (0, (0, 0))))), (6, (.iload_n 3, (1, (0, (0, 0))))), (7, (.invokevirtual 7, (3, (75, (4, 0))))), (10, (.i2l, (1, (0, (0, 0))))), (11, (.lastore, (1, (0, (0, 0))))), (12, (.goto 15, (3, (0, (0, 0))))), (15, (.astore 5, (2, (0, (0, 0))))), (17, (.iconst 1, (1, (0, (0, 0))))), (18, (.ireturn, (1, (0, (0, 0))))), (19, (.astore 5, (2, (0, (0, 0))))), (21, (.iconst 2, (1, (0, (0, 0))))), (22, (.ireturn, (1, (0, (0, 0))))), (23, (.astore 5, (2, (0, (0, 0))))), (25, (.iconst 3, (1, (0, (0, 0))))), (26, (.ireturn, (1, (0, (0, 0))))), (27, (.iconst 0, (1, (0, (0, 0))))), (28, (.ireturn, (1, (0, (0, 0)))))]]
set_option maxRecDepth 100000 in
noncomputable def mc_L_setTool : List (List mI) := [[(0, (.aload 4, (2, (0, (0, 0))))), (2, (.iconst 0, (1, (0, (0, 0))))), (3, (.aload_n 0, (1, (0, (0, 0))))), (4, (.iload_n 1, (1, (0, (0, 0))))), (5, (.iload_n 2, (1, (0, (0, 0))))), (6, (.iload_n 3, (1, (0, (0, 0))))), (7, (.invokevirtual 19, (3, (76, (4, 0))))), (10, (.i2l, (1, (0, (0, 0))))), (11, (.lastore, (1, (0, (0, 0))))), (12, (.goto 11, (3, (0, (0, 0))))), (15, (.astore 5, (2, (0, (0, 0))))), (17, (.iconst 1, (1, (0, (0, 0))))), (18, (.ireturn, (1, (0, (0, 0))))), (19, (.astore 5, (2, (0, (0, 0))))), (21, (.iconst 2, (1, (0, (0, 0))))), (22, (.ireturn, (1, (0, (0, 0))))), (23, (.iconst 0, (1, (0, (0, 0))))), (24, (.ireturn, (1, (0, (0, 0)))))]]
set_option maxRecDepth 100000 in
noncomputable def mc_L_setSetup : List (List mI) := [[(0, (.aload 4, (2, (0, (0, 0))))), (2, (.iconst 0, (1, (0, (0, 0))))), (3, (.aload_n 0, (1, (0, (0, 0))))), (4, (.iload_n 1, (1, (0, (0, 0))))), (5, (.iload_n 2, (1, (0, (0, 0))))), (6, (.iload_n 3, (1, (0, (0, 0))))), (7, (.invokevirtual 22, (3, (77, (4, 0))))), (10, (.i2l, (1, (0, (0, 0))))), (11, (.lastore, (1, (0, (0, 0))))), (12, (.goto 11, (3, (0, (0, 0))))), (15, (.astore 5, (2, (0, (0, 0))))), (17, (.iconst 1, (1, (0, (0, 0))))), (18, (.ireturn, (1, (0, (0, 0))))), (19, (.astore 5, (2, (0, (0, 0))))), (21, (.iconst 2, (1, (0, (0, 0))))), (22, (.ireturn, (1, (0, (0, 0))))), (23, (.iconst 0, (1, (0, (0, 0))))), (24, (.ireturn, (1, (0, (0, 0)))))]]
set_option maxRecDepth 100000 in
noncomputable def mc_L_addJob : List (List mI) := [[(0, (.aload 5, (2, (0, (0, 0))))), (2, (.iconst 0, (1, (0, (0, 0))))), (3, (.aload_n 0, (1, (0, (0, 0))))), (4, (.iload_n 1, (1, (0, (0, 0))))), (5, (.iload_n 2, (1, (0, (0, 0))))), (6, (.iload_n 3, (1, (0, (0, 0))))), (7, (.iload 4, (2, (0, (0, 0))))), (9, (.invokevirtual 25, (3, (78, (5, 0))))), (12, (.i2l, (1, (0, (0, 0))))), (13, (.lastore, (1, (0, (0, 0))))), (14, (.goto 15, (3, (0, (0, 0))))), (17, (.astore 6, (2, (0, (0, 0))))), (19, (.iconst 1, (1, (0, (0, 0))))), (20, (.ireturn, (1, (0, (0, 0))))), (21, (.astore 6, (2, (0, (0, 0))))), (23, (.iconst 2, (1, (0, (0, 0))))), (24, (.ireturn, (1, (0, (0, 0))))), (25, (.astore 6, (2, (0, (0, 0))))), (27, (.iconst 3, (1, (0, (0, 0))))), (28, (.ireturn, (1, (0, (0, 0))))), (29, (.iconst 0, (1, (0, (0, 0))))), (30, (.ireturn, (1, (0, (0, 0)))))]]
set_option maxRecDepth 100000 in
noncomputable def mc_L_addStep : List (List mI) := [[(0, (.aload 4, (2, (0, (0, 0))))), (2, (.iconst 0, (1, (0, (0, 0))))), (3, (.aload_n 0, (1, (0, (0, 0))))), (4, (.iload_n 1, (1, (0, (0, 0))))), (5, (.iload_n 2, (1, (0, (0, 0))))), (6, (.iload_n 3, (1, (0, (0, 0))))), (7, (.invokevirtual 29, (3, (79, (4, 0))))), (10, (.i2l, (1, (0, (0, 0))))), (11, (.lastore, (1, (0, (0, 0))))), (12, (.goto 15, (3, (0, (0, 0))))), (15, (.astore 5, (2, (0, (0, 0))))), (17, (.iconst 1, (1, (0, (0, 0))))), (18, (.ireturn, (1, (0, (0, 0))))), (19, (.astore 5, (2, (0, (0, 0))))), (21, (.iconst 2, (1, (0, (0, 0))))), (22, (.ireturn, (1, (0, (0, 0))))), (23, (.astore 5, (2, (0, (0, 0))))), (25, (.iconst 3, (1, (0, (0, 0))))), (26, (.ireturn, (1, (0, (0, 0))))), (27, (.iconst 0, (1, (0, (0, 0))))), (28, (.ireturn, (1, (0, (0, 0)))))]]
set_option maxRecDepth 100000 in
noncomputable def mc_L_cut : List (List mI) := [[(0, (.aload_n 2, (1, (0, (0, 0))))), (1, (.iconst 0, (1, (0, (0, 0))))), (2, (.aload_n 0, (1, (0, (0, 0))))), (3, (.iload_n 1, (1, (0, (0, 0))))), (4, (.invokevirtual 32, (3, (80, (2, 0))))), (7, (.i2l, (1, (0, (0, 0))))), (8, (.lastore, (1, (0, (0, 0))))), (9, (.goto 9, (3, (0, (0, 0))))), (12, (.astore_n 3, (1, (0, (0, 0))))), (13, (.iconst 1, (1, (0, (0, 0))))), (14, (.ireturn, (1, (0, (0, 0))))), (15, (.astore_n 3, (1, (0, (0, 0))))), (16, (.iconst 2, (1, (0, (0, 0))))), (17, (.ireturn, (1, (0, (0, 0))))), (18, (.iconst 0, (1, (0, (0, 0))))), (19, (.ireturn, (1, (0, (0, 0)))))]]
set_option maxRecDepth 100000 in
noncomputable def mc_L_plan : List (List mI) := [[(0, (.aload_n 2, (1, (0, (0, 0))))), (1, (.iconst 0, (1, (0, (0, 0))))), (2, (.aload_n 0, (1, (0, (0, 0))))), (3, (.iload_n 1, (1, (0, (0, 0))))), (4, (.invokevirtual 36, (3, (81, (2, 0))))), (7, (.i2l, (1, (0, (0, 0))))), (8, (.lastore, (1, (0, (0, 0))))), (9, (.goto 6, (3, (0, (0, 0))))), (12, (.astore_n 3, (1, (0, (0, 0))))), (13, (.iconst 1, (1, (0, (0, 0))))), (14, (.ireturn, (1, (0, (0, 0))))), (15, (.iconst 0, (1, (0, (0, 0))))), (16, (.ireturn, (1, (0, (0, 0)))))]]
set_option maxRecDepth 100000 in
noncomputable def mc_L_tell : List (List mI) := [[(0, (.aload_n 3, (1, (0, (0, 0))))), (1, (.iconst 0, (1, (0, (0, 0))))), (2, (.aload_n 0, (1, (0, (0, 0))))), (3, (.lload_n 1, (1, (0, (0, 0))))), (4, (.invokevirtual 39, (3, (82, (2, 0))))), (7, (.i2l, (1, (0, (0, 0))))), (8, (.lastore, (1, (0, (0, 0))))), (9, (.goto 7, (3, (0, (0, 0))))), (12, (.astore 4, (2, (0, (0, 0))))), (14, (.iconst 1, (1, (0, (0, 0))))), (15, (.ireturn, (1, (0, (0, 0))))), (16, (.iconst 0, (1, (0, (0, 0))))), (17, (.ireturn, (1, (0, (0, 0)))))]]
set_option maxRecDepth 100000 in
noncomputable def mc_L_best : List (List mI) := [[(0, (.aload_n 2, (1, (0, (0, 0))))), (1, (.iconst 0, (1, (0, (0, 0))))), (2, (.aload_n 0, (1, (0, (0, 0))))), (3, (.iload_n 1, (1, (0, (0, 0))))), (4, (.invokevirtual 43, (3, (83, (2, 0))))), (7, (.i2l, (1, (0, (0, 0))))), (8, (.lastore, (1, (0, (0, 0))))), (9, (.goto 9, (3, (0, (0, 0))))), (12, (.astore_n 3, (1, (0, (0, 0))))), (13, (.iconst 1, (1, (0, (0, 0))))), (14, (.ireturn, (1, (0, (0, 0))))), (15, (.astore_n 3, (1, (0, (0, 0))))), (16, (.iconst 2, (1, (0, (0, 0))))), (17, (.ireturn, (1, (0, (0, 0))))), (18, (.iconst 0, (1, (0, (0, 0))))), (19, (.ireturn, (1, (0, (0, 0)))))]]
set_option maxRecDepth 100000 in
noncomputable def mc_L_swap : List (List mI) := [[(0, (.aload_n 3, (1, (0, (0, 0))))), (1, (.iconst 0, (1, (0, (0, 0))))), (2, (.aload_n 0, (1, (0, (0, 0))))), (3, (.iload_n 1, (1, (0, (0, 0))))), (4, (.iload_n 2, (1, (0, (0, 0))))), (5, (.invokevirtual 46, (3, (84, (3, 0))))), (8, (.i2l, (1, (0, (0, 0))))), (9, (.lastore, (1, (0, (0, 0))))), (10, (.goto 11, (3, (0, (0, 0))))), (13, (.astore 4, (2, (0, (0, 0))))), (15, (.iconst 1, (1, (0, (0, 0))))), (16, (.ireturn, (1, (0, (0, 0))))), (17, (.astore 4, (2, (0, (0, 0))))), (19, (.iconst 2, (1, (0, (0, 0))))), (20, (.ireturn, (1, (0, (0, 0))))), (21, (.iconst 0, (1, (0, (0, 0))))), (22, (.ireturn, (1, (0, (0, 0)))))]]
set_option maxRecDepth 100000 in
noncomputable def mc_L_replan : List (List mI) := [[(0, (.aload_n 3, (1, (0, (0, 0))))), (1, (.iconst 0, (1, (0, (0, 0))))), (2, (.aload_n 0, (1, (0, (0, 0))))), (3, (.iload_n 1, (1, (0, (0, 0))))), (4, (.iload_n 2, (1, (0, (0, 0))))), (5, (.invokevirtual 50, (3, (85, (3, 0))))), (8, (.i2l, (1, (0, (0, 0))))), (9, (.lastore, (1, (0, (0, 0))))), (10, (.goto 11, (3, (0, (0, 0))))), (13, (.astore 4, (2, (0, (0, 0))))), (15, (.iconst 1, (1, (0, (0, 0))))), (16, (.ireturn, (1, (0, (0, 0))))), (17, (.astore 4, (2, (0, (0, 0))))), (19, (.iconst 2, (1, (0, (0, 0))))), (20, (.ireturn, (1, (0, (0, 0))))), (21, (.iconst 0, (1, (0, (0, 0))))), (22, (.ireturn, (1, (0, (0, 0)))))]]
set_option maxRecDepth 100000 in
noncomputable def mc_L_rush : List (List mI) := [[(0, (.aload_n 2, (1, (0, (0, 0))))), (1, (.iconst 0, (1, (0, (0, 0))))), (2, (.aload_n 0, (1, (0, (0, 0))))), (3, (.iload_n 1, (1, (0, (0, 0))))), (4, (.invokevirtual 53, (3, (86, (2, 0))))), (7, (.i2l, (1, (0, (0, 0))))), (8, (.lastore, (1, (0, (0, 0))))), (9, (.goto 9, (3, (0, (0, 0))))), (12, (.astore_n 3, (1, (0, (0, 0))))), (13, (.iconst 1, (1, (0, (0, 0))))), (14, (.ireturn, (1, (0, (0, 0))))), (15, (.astore_n 3, (1, (0, (0, 0))))), (16, (.iconst 2, (1, (0, (0, 0))))), (17, (.ireturn, (1, (0, (0, 0))))), (18, (.iconst 0, (1, (0, (0, 0))))), (19, (.ireturn, (1, (0, (0, 0)))))]]
set_option maxRecDepth 100000 in
noncomputable def mc_L_setWorker : List (List mI) := [[(0, (.aload_n 3, (1, (0, (0, 0))))), (1, (.iconst 0, (1, (0, (0, 0))))), (2, (.aload_n 0, (1, (0, (0, 0))))), (3, (.iload_n 1, (1, (0, (0, 0))))), (4, (.iload_n 2, (1, (0, (0, 0))))), (5, (.invokevirtual 56, (3, (87, (3, 0))))), (8, (.i2l, (1, (0, (0, 0))))), (9, (.lastore, (1, (0, (0, 0))))), (10, (.goto 11, (3, (0, (0, 0))))), (13, (.astore 4, (2, (0, (0, 0))))), (15, (.iconst 1, (1, (0, (0, 0))))), (16, (.ireturn, (1, (0, (0, 0))))), (17, (.astore 4, (2, (0, (0, 0))))), (19, (.iconst 2, (1, (0, (0, 0))))), (20, (.ireturn, (1, (0, (0, 0))))), (21, (.iconst 0, (1, (0, (0, 0))))), (22, (.ireturn, (1, (0, (0, 0)))))]]
set_option maxRecDepth 100000 in
noncomputable def mc_L_jobAt : List (List mI) := [[(0, (.aload_n 3, (1, (0, (0, 0))))), (1, (.iconst 0, (1, (0, (0, 0))))), (2, (.aload_n 0, (1, (0, (0, 0))))), (3, (.iload_n 1, (1, (0, (0, 0))))), (4, (.iload_n 2, (1, (0, (0, 0))))), (5, (.invokevirtual 59, (3, (90, (3, 0))))), (8, (.i2l, (1, (0, (0, 0))))), (9, (.lastore, (1, (0, (0, 0))))), (10, (.goto 11, (3, (0, (0, 0))))), (13, (.astore 4, (2, (0, (0, 0))))), (15, (.iconst 1, (1, (0, (0, 0))))), (16, (.ireturn, (1, (0, (0, 0))))), (17, (.astore 4, (2, (0, (0, 0))))), (19, (.iconst 2, (1, (0, (0, 0))))), (20, (.ireturn, (1, (0, (0, 0))))), (21, (.iconst 0, (1, (0, (0, 0))))), (22, (.ireturn, (1, (0, (0, 0)))))]]
set_option maxRecDepth 100000 in
noncomputable def mc_L_stepAt : List (List mI) := [[(0, (.aload 4, (2, (0, (0, 0))))), (2, (.iconst 0, (1, (0, (0, 0))))), (3, (.aload_n 0, (1, (0, (0, 0))))), (4, (.iload_n 1, (1, (0, (0, 0))))), (5, (.iload_n 2, (1, (0, (0, 0))))), (6, (.iload_n 3, (1, (0, (0, 0))))), (7, (.invokevirtual 62, (3, (91, (4, 0))))), (10, (.i2l, (1, (0, (0, 0))))), (11, (.lastore, (1, (0, (0, 0))))), (12, (.goto 11, (3, (0, (0, 0))))), (15, (.astore 5, (2, (0, (0, 0))))), (17, (.iconst 1, (1, (0, (0, 0))))), (18, (.ireturn, (1, (0, (0, 0))))), (19, (.astore 5, (2, (0, (0, 0))))), (21, (.iconst 2, (1, (0, (0, 0))))), (22, (.ireturn, (1, (0, (0, 0))))), (23, (.iconst 0, (1, (0, (0, 0))))), (24, (.ireturn, (1, (0, (0, 0)))))]]
set_option maxRecDepth 100000 in
noncomputable def mc_L_begin : List (List mI) := [[(0, (.aload_n 3, (1, (0, (0, 0))))), (1, (.iconst 0, (1, (0, (0, 0))))), (2, (.aload_n 0, (1, (0, (0, 0))))), (3, (.iload_n 1, (1, (0, (0, 0))))), (4, (.iload_n 2, (1, (0, (0, 0))))), (5, (.invokevirtual 65, (3, (92, (3, 0))))), (8, (.i2l, (1, (0, (0, 0))))), (9, (.lastore, (1, (0, (0, 0))))), (10, (.goto 11, (3, (0, (0, 0))))), (13, (.astore 4, (2, (0, (0, 0))))), (15, (.iconst 1, (1, (0, (0, 0))))), (16, (.ireturn, (1, (0, (0, 0))))), (17, (.astore 4, (2, (0, (0, 0))))), (19, (.iconst 2, (1, (0, (0, 0))))), (20, (.ireturn, (1, (0, (0, 0))))), (21, (.iconst 0, (1, (0, (0, 0))))), (22, (.ireturn, (1, (0, (0, 0)))))]]
set_option maxRecDepth 100000 in
noncomputable def mc_L_endOf : List (List mI) := [[(0, (.aload_n 2, (1, (0, (0, 0))))), (1, (.iconst 0, (1, (0, (0, 0))))), (2, (.aload_n 0, (1, (0, (0, 0))))), (3, (.iload_n 1, (1, (0, (0, 0))))), (4, (.invokevirtual 68, (3, (93, (2, 0))))), (7, (.i2l, (1, (0, (0, 0))))), (8, (.lastore, (1, (0, (0, 0))))), (9, (.goto 9, (3, (0, (0, 0))))), (12, (.astore_n 3, (1, (0, (0, 0))))), (13, (.iconst 1, (1, (0, (0, 0))))), (14, (.ireturn, (1, (0, (0, 0))))), (15, (.astore_n 3, (1, (0, (0, 0))))), (16, (.iconst 2, (1, (0, (0, 0))))), (17, (.ireturn, (1, (0, (0, 0))))), (18, (.iconst 0, (1, (0, (0, 0))))), (19, (.ireturn, (1, (0, (0, 0)))))]]
set_option maxRecDepth 100000 in
noncomputable def mc_L_value : List (List mI) := [[(0, (.aload_n 2, (1, (0, (0, 0))))), (1, (.iconst 0, (1, (0, (0, 0))))), (2, (.aload_n 0, (1, (0, (0, 0))))), (3, (.iload_n 1, (1, (0, (0, 0))))), (4, (.invokevirtual 71, (3, (94, (2, 0))))), (7, (.i2l, (1, (0, (0, 0))))), (8, (.lastore, (1, (0, (0, 0))))), (9, (.goto 9, (3, (0, (0, 0))))), (12, (.astore_n 3, (1, (0, (0, 0))))), (13, (.iconst 1, (1, (0, (0, 0))))), (14, (.ireturn, (1, (0, (0, 0))))), (15, (.astore_n 3, (1, (0, (0, 0))))), (16, (.iconst 2, (1, (0, (0, 0))))), (17, (.ireturn, (1, (0, (0, 0))))), (18, (.iconst 0, (1, (0, (0, 0))))), (19, (.ireturn, (1, (0, (0, 0)))))]]
set_option maxRecDepth 100000 in
noncomputable def mc_L_orderAt : List (List mI) := [[(0, (.aload_n 3, (1, (0, (0, 0))))), (1, (.iconst 0, (1, (0, (0, 0))))), (2, (.aload_n 0, (1, (0, (0, 0))))), (3, (.iload_n 1, (1, (0, (0, 0))))), (4, (.iload_n 2, (1, (0, (0, 0))))), (5, (.invokevirtual 74, (3, (96, (3, 0))))), (8, (.i2l, (1, (0, (0, 0))))), (9, (.lastore, (1, (0, (0, 0))))), (10, (.goto 7, (3, (0, (0, 0))))), (13, (.astore 4, (2, (0, (0, 0))))), (15, (.iconst 1, (1, (0, (0, 0))))), (16, (.ireturn, (1, (0, (0, 0))))), (17, (.iconst 0, (1, (0, (0, 0))))), (18, (.ireturn, (1, (0, (0, 0)))))]]
set_option maxRecDepth 100000 in
noncomputable def mc_L_doneIn : List (List mI) := [[(0, (.aload_n 3, (1, (0, (0, 0))))), (1, (.iconst 0, (1, (0, (0, 0))))), (2, (.aload_n 0, (1, (0, (0, 0))))), (3, (.iload_n 1, (1, (0, (0, 0))))), (4, (.iload_n 2, (1, (0, (0, 0))))), (5, (.invokevirtual 77, (3, (97, (3, 0))))), (8, (.i2l, (1, (0, (0, 0))))), (9, (.lastore, (1, (0, (0, 0))))), (10, (.goto 15, (3, (0, (0, 0))))), (13, (.astore 4, (2, (0, (0, 0))))), (15, (.iconst 1, (1, (0, (0, 0))))), (16, (.ireturn, (1, (0, (0, 0))))), (17, (.astore 4, (2, (0, (0, 0))))), (19, (.iconst 2, (1, (0, (0, 0))))), (20, (.ireturn, (1, (0, (0, 0))))), (21, (.astore 4, (2, (0, (0, 0))))), (23, (.iconst 3, (1, (0, (0, 0))))), (24, (.ireturn, (1, (0, (0, 0))))), (25, (.iconst 0, (1, (0, (0, 0))))), (26, (.ireturn, (1, (0, (0, 0)))))]]
set_option maxRecDepth 100000 in
noncomputable def mc_L_wayLength : List (List mI) := [[(0, (.aload_n 1, (1, (0, (0, 0))))), (1, (.iconst 0, (1, (0, (0, 0))))), (2, (.aload_n 0, (1, (0, (0, 0))))), (3, (.invokevirtual 80, (3, (98, (1, 0))))), (6, (.i2l, (1, (0, (0, 0))))), (7, (.lastore, (1, (0, (0, 0))))), (8, (.goto 6, (3, (0, (0, 0))))), (11, (.astore_n 2, (1, (0, (0, 0))))), (12, (.iconst 1, (1, (0, (0, 0))))), (13, (.ireturn, (1, (0, (0, 0))))), (14, (.iconst 0, (1, (0, (0, 0))))), (15, (.ireturn, (1, (0, (0, 0)))))]]
set_option maxRecDepth 100000 in
noncomputable def mc_L_wayAt : List (List mI) := [[(0, (.aload_n 2, (1, (0, (0, 0))))), (1, (.iconst 0, (1, (0, (0, 0))))), (2, (.aload_n 0, (1, (0, (0, 0))))), (3, (.iload_n 1, (1, (0, (0, 0))))), (4, (.invokevirtual 84, (3, (99, (2, 0))))), (7, (.i2l, (1, (0, (0, 0))))), (8, (.lastore, (1, (0, (0, 0))))), (9, (.goto 6, (3, (0, (0, 0))))), (12, (.astore_n 3, (1, (0, (0, 0))))), (13, (.iconst 1, (1, (0, (0, 0))))), (14, (.ireturn, (1, (0, (0, 0))))), (15, (.iconst 0, (1, (0, (0, 0))))), (16, (.ireturn, (1, (0, (0, 0)))))]]
set_option maxRecDepth 100000 in
noncomputable def mc_L_blocks : List (List mI) := [[(0, (.aload_n 1, (1, (0, (0, 0))))), (1, (.iconst 0, (1, (0, (0, 0))))), (2, (.aload_n 0, (1, (0, (0, 0))))), (3, (.invokevirtual 87, (3, (100, (1, 0))))), (6, (.i2l, (1, (0, (0, 0))))), (7, (.lastore, (1, (0, (0, 0))))), (8, (.goto 6, (3, (0, (0, 0))))), (11, (.astore_n 2, (1, (0, (0, 0))))), (12, (.iconst 1, (1, (0, (0, 0))))), (13, (.ireturn, (1, (0, (0, 0))))), (14, (.iconst 0, (1, (0, (0, 0))))), (15, (.ireturn, (1, (0, (0, 0)))))]]
set_option maxRecDepth 100000 in
noncomputable def mc_L_longestBlock : List (List mI) := [[(0, (.aload_n 1, (1, (0, (0, 0))))), (1, (.iconst 0, (1, (0, (0, 0))))), (2, (.aload_n 0, (1, (0, (0, 0))))), (3, (.invokevirtual 90, (3, (101, (1, 0))))), (6, (.i2l, (1, (0, (0, 0))))), (7, (.lastore, (1, (0, (0, 0))))), (8, (.goto 6, (3, (0, (0, 0))))), (11, (.astore_n 2, (1, (0, (0, 0))))), (12, (.iconst 1, (1, (0, (0, 0))))), (13, (.ireturn, (1, (0, (0, 0))))), (14, (.iconst 0, (1, (0, (0, 0))))), (15, (.ireturn, (1, (0, (0, 0)))))]]
set_option maxRecDepth 100000 in
noncomputable def mc_L_slack : List (List mI) := [[(0, (.aload_n 3, (1, (0, (0, 0))))), (1, (.iconst 0, (1, (0, (0, 0))))), (2, (.aload_n 0, (1, (0, (0, 0))))), (3, (.iload_n 1, (1, (0, (0, 0))))), (4, (.iload_n 2, (1, (0, (0, 0))))), (5, (.invokevirtual 93, (3, (102, (3, 0))))), (8, (.i2l, (1, (0, (0, 0))))), (9, (.lastore, (1, (0, (0, 0))))), (10, (.goto 11, (3, (0, (0, 0))))), (13, (.astore 4, (2, (0, (0, 0))))), (15, (.iconst 1, (1, (0, (0, 0))))), (16, (.ireturn, (1, (0, (0, 0))))), (17, (.astore 4, (2, (0, (0, 0))))), (19, (.iconst 2, (1, (0, (0, 0))))), (20, (.ireturn, (1, (0, (0, 0))))), (21, (.iconst 0, (1, (0, (0, 0))))), (22, (.ireturn, (1, (0, (0, 0)))))]]
set_option maxRecDepth 100000 in
noncomputable def mc_L_delay : List (List mI) := [[(0, (.aload_n 3, (1, (0, (0, 0))))), (1, (.iconst 0, (1, (0, (0, 0))))), (2, (.aload_n 0, (1, (0, (0, 0))))), (3, (.iload_n 1, (1, (0, (0, 0))))), (4, (.iload_n 2, (1, (0, (0, 0))))), (5, (.invokevirtual 96, (3, (103, (3, 0))))), (8, (.i2l, (1, (0, (0, 0))))), (9, (.lastore, (1, (0, (0, 0))))), (10, (.goto 11, (3, (0, (0, 0))))), (13, (.astore 4, (2, (0, (0, 0))))), (15, (.iconst 1, (1, (0, (0, 0))))), (16, (.ireturn, (1, (0, (0, 0))))), (17, (.astore 4, (2, (0, (0, 0))))), (19, (.iconst 2, (1, (0, (0, 0))))), (20, (.ireturn, (1, (0, (0, 0))))), (21, (.iconst 0, (1, (0, (0, 0))))), (22, (.ireturn, (1, (0, (0, 0)))))]]
set_option maxRecDepth 100000 in
noncomputable def mc_L_isDropped : List (List mI) := [[(0, (.aload_n 2, (1, (0, (0, 0))))), (1, (.iconst 0, (1, (0, (0, 0))))), (2, (.aload_n 0, (1, (0, (0, 0))))), (3, (.iload_n 1, (1, (0, (0, 0))))), (4, (.invokevirtual 99, (3, (107, (2, 0))))), (7, (.ifCond .eq 7, (3, (0, (0, 0))))), (10, (.lconst 1, (1, (0, (0, 0))))), (11, (.goto 4, (3, (0, (0, 0))))), (14, (.lconst 0, (1, (0, (0, 0))))), (15, (.lastore, (1, (0, (0, 0))))), (16, (.goto 6, (3, (0, (0, 0))))), (19, (.astore_n 3, (1, (0, (0, 0))))), (20, (.iconst 1, (1, (0, (0, 0))))), (21, (.ireturn, (1, (0, (0, 0))))), (22, (.iconst 0, (1, (0, (0, 0))))), (23, (.ireturn, (1, (0, (0, 0)))))]]
set_option maxRecDepth 100000 in
noncomputable def mc_L_twoAt : List (List mI) := [[(0, (.aload_n 2, (1, (0, (0, 0))))), (1, (.iconst 0, (1, (0, (0, 0))))), (2, (.aload_n 0, (1, (0, (0, 0))))), (3, (.iload_n 1, (1, (0, (0, 0))))), (4, (.invokevirtual 103, (3, (109, (2, 0))))), (7, (.i2l, (1, (0, (0, 0))))), (8, (.lastore, (1, (0, (0, 0))))), (9, (.goto 6, (3, (0, (0, 0))))), (12, (.astore_n 3, (1, (0, (0, 0))))), (13, (.iconst 1, (1, (0, (0, 0))))), (14, (.ireturn, (1, (0, (0, 0))))), (15, (.iconst 0, (1, (0, (0, 0))))), (16, (.ireturn, (1, (0, (0, 0)))))]]
set_option maxRecDepth 100000 in
noncomputable def mc_L_setupAt : List (List mI) := [[(0, (.aload_n 2, (1, (0, (0, 0))))), (1, (.iconst 0, (1, (0, (0, 0))))), (2, (.aload_n 0, (1, (0, (0, 0))))), (3, (.iload_n 1, (1, (0, (0, 0))))), (4, (.invokevirtual 106, (3, (111, (2, 0))))), (7, (.i2l, (1, (0, (0, 0))))), (8, (.lastore, (1, (0, (0, 0))))), (9, (.goto 6, (3, (0, (0, 0))))), (12, (.astore_n 3, (1, (0, (0, 0))))), (13, (.iconst 1, (1, (0, (0, 0))))), (14, (.ireturn, (1, (0, (0, 0))))), (15, (.iconst 0, (1, (0, (0, 0))))), (16, (.ireturn, (1, (0, (0, 0)))))]]
set_option maxRecDepth 100000 in
noncomputable def mc_L_match : List (List mI) := [[(0, (.aload_n 2, (1, (0, (0, 0))))), (1, (.iconst 0, (1, (0, (0, 0))))), (2, (.aload_n 0, (1, (0, (0, 0))))), (3, (.iload_n 1, (1, (0, (0, 0))))), (4, (.invokevirtual 109, (3, (112, (2, 0))))), (7, (.i2l, (1, (0, (0, 0))))), (8, (.lastore, (1, (0, (0, 0))))), (9, (.goto 6, (3, (0, (0, 0))))), (12, (.astore_n 3, (1, (0, (0, 0))))), (13, (.iconst 1, (1, (0, (0, 0))))), (14, (.ireturn, (1, (0, (0, 0))))), (15, (.iconst 0, (1, (0, (0, 0))))), (16, (.ireturn, (1, (0, (0, 0)))))]]
set_option maxRecDepth 100000 in
noncomputable def mc_L_workerOf : List (List mI) := [[(0, (.aload_n 3, (1, (0, (0, 0))))), (1, (.iconst 0, (1, (0, (0, 0))))), (2, (.aload_n 0, (1, (0, (0, 0))))), (3, (.iload_n 1, (1, (0, (0, 0))))), (4, (.iload_n 2, (1, (0, (0, 0))))), (5, (.invokevirtual 112, (3, (113, (3, 0))))), (8, (.i2l, (1, (0, (0, 0))))), (9, (.lastore, (1, (0, (0, 0))))), (10, (.goto 11, (3, (0, (0, 0))))), (13, (.astore 4, (2, (0, (0, 0))))), (15, (.iconst 1, (1, (0, (0, 0))))), (16, (.ireturn, (1, (0, (0, 0))))), (17, (.astore 4, (2, (0, (0, 0))))), (19, (.iconst 2, (1, (0, (0, 0))))), (20, (.ireturn, (1, (0, (0, 0))))), (21, (.iconst 0, (1, (0, (0, 0))))), (22, (.ireturn, (1, (0, (0, 0)))))]]
set_option maxRecDepth 100000 in
noncomputable def mc_L_promise : List (List mI) := [[(0, (.aload 4, (2, (0, (0, 0))))), (2, (.iconst 0, (1, (0, (0, 0))))), (3, (.aload_n 0, (1, (0, (0, 0))))), (4, (.iload_n 1, (1, (0, (0, 0))))), (5, (.iload_n 2, (1, (0, (0, 0))))), (6, (.iload_n 3, (1, (0, (0, 0))))), (7, (.invokevirtual 115, (3, (114, (4, 0))))), (10, (.i2l, (1, (0, (0, 0))))), (11, (.lastore, (1, (0, (0, 0))))), (12, (.goto 11, (3, (0, (0, 0))))), (15, (.astore 5, (2, (0, (0, 0))))), (17, (.iconst 1, (1, (0, (0, 0))))), (18, (.ireturn, (1, (0, (0, 0))))), (19, (.astore 5, (2, (0, (0, 0))))), (21, (.iconst 2, (1, (0, (0, 0))))), (22, (.ireturn, (1, (0, (0, 0))))), (23, (.iconst 0, (1, (0, (0, 0))))), (24, (.ireturn, (1, (0, (0, 0)))))]]
set_option maxRecDepth 100000 in
noncomputable def mc_L_worked : List (List mI) := [[(0, (.aload_n 3, (1, (0, (0, 0))))), (1, (.iconst 0, (1, (0, (0, 0))))), (2, (.aload_n 0, (1, (0, (0, 0))))), (3, (.iload_n 1, (1, (0, (0, 0))))), (4, (.iload_n 2, (1, (0, (0, 0))))), (5, (.invokevirtual 118, (3, (115, (3, 0))))), (8, (.i2l, (1, (0, (0, 0))))), (9, (.lastore, (1, (0, (0, 0))))), (10, (.goto 11, (3, (0, (0, 0))))), (13, (.astore 4, (2, (0, (0, 0))))), (15, (.iconst 1, (1, (0, (0, 0))))), (16, (.ireturn, (1, (0, (0, 0))))), (17, (.astore 4, (2, (0, (0, 0))))), (19, (.iconst 2, (1, (0, (0, 0))))), (20, (.ireturn, (1, (0, (0, 0))))), (21, (.iconst 0, (1, (0, (0, 0))))), (22, (.ireturn, (1, (0, (0, 0)))))]]
set_option maxRecDepth 100000 in
noncomputable def mc_L_meanEnd : List (List mI) := [[(0, (.aload_n 1, (1, (0, (0, 0))))), (1, (.iconst 0, (1, (0, (0, 0))))), (2, (.aload_n 0, (1, (0, (0, 0))))), (3, (.invokevirtual 121, (3, (116, (1, 0))))), (6, (.dastore, (1, (0, (0, 0))))), (7, (.goto 6, (3, (0, (0, 0))))), (10, (.astore_n 2, (1, (0, (0, 0))))), (11, (.iconst 1, (1, (0, (0, 0))))), (12, (.ireturn, (1, (0, (0, 0))))), (13, (.iconst 0, (1, (0, (0, 0))))), (14, (.ireturn, (1, (0, (0, 0)))))]]
set_option maxRecDepth 100000 in
noncomputable def mc_L_use : List (List mI) := [[(0, (.aload_n 2, (1, (0, (0, 0))))), (1, (.iconst 0, (1, (0, (0, 0))))), (2, (.aload_n 0, (1, (0, (0, 0))))), (3, (.iload_n 1, (1, (0, (0, 0))))), (4, (.invokevirtual 125, (3, (117, (2, 0))))), (7, (.f2d, (1, (0, (0, 0))))), (8, (.dastore, (1, (0, (0, 0))))), (9, (.goto 9, (3, (0, (0, 0))))), (12, (.astore_n 3, (1, (0, (0, 0))))), (13, (.iconst 1, (1, (0, (0, 0))))), (14, (.ireturn, (1, (0, (0, 0))))), (15, (.astore_n 3, (1, (0, (0, 0))))), (16, (.iconst 2, (1, (0, (0, 0))))), (17, (.ireturn, (1, (0, (0, 0))))), (18, (.iconst 0, (1, (0, (0, 0))))), (19, (.ireturn, (1, (0, (0, 0)))))]]
set_option maxRecDepth 100000 in
noncomputable def mc_L_law : List (List mI) := [[(0, (.new 8, (3, (10, (0, 0))))), (3, (.dup, (1, (0, (0, 0))))), (4, (.invokespecial 129, (3, (74, (1, 2))))), (7, (.astore_n 1, (1, (0, (0, 0))))), (8, (.new 130, (3, (11, (0, 0))))), (11, (.dup, (1, (0, (0, 0))))), (12, (.invokespecial 132, (3, (136, (1, 2))))), (15, (.astore_n 2, (1, (0, (0, 0))))), (16, (.iconst 1, (1, (0, (0, 0))))), (17, (.newarray .long, (2, (0, (0, 0))))), (19, (.astore_n 3, (1, (0, (0, 0))))), (20, (.iconst 1, (1, (0, (0, 0))))), (21, (.newarray .double, (2, (0, (0, 0))))), (23, (.astore 4, (2, (0, (0, 0))))), (25, (.iconst 0, (1, (0, (0, 0))))), (26, (.istore 5, (2, (0, (0, 0))))), (28, (.iload 5, (2, (0, (0, 0))))), (30, (.aload_n 0, (1, (0, (0, 0))))), (31, (.arraylength, (1, (0, (0, 0))))), (32, (.iconst 5, (1, (0, (0, 0))))), (33, (.isub, (1, (0, (0, 0))))), (34, (.if_icmp .gt 2631, (3, (0, (0, 0))))), (37, (.aload_n 0, (1, (0, (0, 0))))), (38, (.iload 5, (2, (0, (0, 0))))), (40, (.iaload, (1, (0, (0, 0))))), (41, (.bipush 63, (2, (0, (0, 0))))), (43, (.iand, (1, (0, (0, 0))))), (44, (.tableswitch 2615 0 43 #[192, 272, 352, 432, 524, 604, 660, 716, 804, 860, 928, 996, 1052, 1120, 1133, 1146, 1214, 1294, 1362, 1418, 1474, 1487, 1555, 1623, 1667, 1723, 1767, 1811, 1879, 1947, 1960, 1973, 1986, 2049, 2062, 2118, 2131, 2187, 2243, 2311, 2391, 2459, 2524, 2602], (192, (0, (0, 0)))))],
  [],
  [],
  [(236, (.aload_n 1, (1, (0, (0, 0))))), (237, (.aload_n 0, (1, (0, (0, 0))))), (238, (.iload 5, (2, (0, (0, 0))))), (240, (.iconst 1, (1, (0, (0, 0))))), (241, (.iadd, (1, (0, (0, 0))))), (242, (.iaload, (1, (0, (0, 0))))), (243, (.aload_n 0, (1, (0, (0, 0))))), (244, (.iload 5, (2, (0, (0, 0))))), (246, (.iconst 2, (1, (0, (0, 0))))), (247, (.iadd, (1, (0, (0, 0))))), (248, (.iaload, (1, (0, (0, 0))))), (249, (.aload_n 0, (1, (0, (0, 0))))), (250, (.iload 5, (2, (0, (0, 0))))), (252, (.iconst 3, (1, (0, (0, 0))))), (253, (.iadd, (1, (0, (0, 0))))), (254, (.iaload, (1, (0, (0, 0))))), (255, (.aload_n 3, (1, (0, (0, 0)))))],
  [(256, (.invokestatic 133, (3, (242, (5, 8))))), (259, (.istore 6, (2, (0, (0, 0))))), (261, (.aload_n 2, (1, (0, (0, 0))))), (262, (.aload_n 0, (1, (0, (0, 0))))), (263, (.iload 5, (2, (0, (0, 0))))), (265, (.iconst 1, (1, (0, (0, 0))))), (266, (.iadd, (1, (0, (0, 0))))), (267, (.iaload, (1, (0, (0, 0))))), (268, (.aload_n 0, (1, (0, (0, 0))))), (269, (.iload 5, (2, (0, (0, 0))))), (271, (.iconst 2, (1, (0, (0, 0))))), (272, (.iadd, (1, (0, (0, 0))))), (273, (.iaload, (1, (0, (0, 0))))), (274, (.aload_n 0, (1, (0, (0, 0))))), (275, (.iload 5, (2, (0, (0, 0))))), (277, (.iconst 3, (1, (0, (0, 0))))), (278, (.iadd, (1, (0, (0, 0))))), (279, (.iaload, (1, (0, (0, 0))))), (280, (.invokevirtual 138, (3, (168, (4, 0))))), (283, (.istore 7, (2, (0, (0, 0))))), (285, (.aload_n 2, (1, (0, (0, 0))))), (286, (.invokevirtual 139, (3, (137, (1, 0))))), (289, (.iload 6, (2, (0, (0, 0))))), (291, (.if_icmp .eq 5, (3, (0, (0, 0))))), (294, (.iconst 0, (1, (0, (0, 0))))), (295, (.ireturn, (1, (0, (0, 0))))), (296, (.iload 6, (2, (0, (0, 0))))), (298, (.ifCond .ne 15, (3, (0, (0, 0))))), (301, (.aload_n 3, (1, (0, (0, 0))))), (302, (.iconst 0, (1, (0, (0, 0))))), (303, (.laload, (1, (0, (0, 0))))), (304, (.iload 7, (2, (0, (0, 0))))), (306, (.i2l, (1, (0, (0, 0))))), (307, (.lcmp, (1, (0, (0, 0))))), (308, (.ifCond .eq 5, (3, (0, (0, 0))))), (311, (.iconst 0, (1, (0, (0, 0))))), (312, (.ireturn, (1, (0, (0, 0))))), (313, (.goto 2346, (3, (0, (0, 0))))), (316, (.aload_n 1, (1, (0, (0, 0))))), (317, (.aload_n 0, (1, (0, (0, 0))))), (318, (.iload 5, (2, (0, (0, 0)))))],
  [(320, (.iconst 1, (1, (0, (0, 0))))), (321, (.iadd, (1, (0, (0, 0))))), (322, (.iaload, (1, (0, (0, 0))))), (323, (.aload_n 0, (1, (0, (0, 0))))), (324, (.iload 5, (2, (0, (0, 0))))), (326, (.iconst 2, (1, (0, (0, 0))))), (327, (.iadd, (1, (0, (0, 0))))), (328, (.iaload, (1, (0, (0, 0))))), (329, (.aload_n 0, (1, (0, (0, 0))))), (330, (.iload 5, (2, (0, (0, 0))))), (332, (.iconst 3, (1, (0, (0, 0))))), (333, (.iadd, (1, (0, (0, 0))))), (334, (.iaload, (1, (0, (0, 0))))), (335, (.aload_n 3, (1, (0, (0, 0))))), (336, (.invokestatic 142, (3, (243, (5, 8))))), (339, (.istore 6, (2, (0, (0, 0))))), (341, (.aload_n 2, (1, (0, (0, 0))))), (342, (.aload_n 0, (1, (0, (0, 0))))), (343, (.iload 5, (2, (0, (0, 0))))), (345, (.iconst 1, (1, (0, (0, 0))))), (346, (.iadd, (1, (0, (0, 0))))), (347, (.iaload, (1, (0, (0, 0))))), (348, (.aload_n 0, (1, (0, (0, 0))))), (349, (.iload 5, (2, (0, (0, 0))))), (351, (.iconst 2, (1, (0, (0, 0))))), (352, (.iadd, (1, (0, (0, 0))))), (353, (.iaload, (1, (0, (0, 0))))), (354, (.aload_n 0, (1, (0, (0, 0))))), (355, (.iload 5, (2, (0, (0, 0))))), (357, (.iconst 3, (1, (0, (0, 0))))), (358, (.iadd, (1, (0, (0, 0))))), (359, (.iaload, (1, (0, (0, 0))))), (360, (.invokevirtual 144, (3, (169, (4, 0))))), (363, (.istore 7, (2, (0, (0, 0))))), (365, (.aload_n 2, (1, (0, (0, 0))))), (366, (.invokevirtual 139, (3, (137, (1, 0))))), (369, (.iload 6, (2, (0, (0, 0))))), (371, (.if_icmp .eq 5, (3, (0, (0, 0))))), (374, (.iconst 0, (1, (0, (0, 0))))), (375, (.ireturn, (1, (0, (0, 0))))), (376, (.iload 6, (2, (0, (0, 0))))), (378, (.ifCond .ne 15, (3, (0, (0, 0))))), (381, (.aload_n 3, (1, (0, (0, 0))))), (382, (.iconst 0, (1, (0, (0, 0))))), (383, (.laload, (1, (0, (0, 0)))))],
  [(384, (.iload 7, (2, (0, (0, 0))))), (386, (.i2l, (1, (0, (0, 0))))), (387, (.lcmp, (1, (0, (0, 0))))), (388, (.ifCond .eq 5, (3, (0, (0, 0))))), (391, (.iconst 0, (1, (0, (0, 0))))), (392, (.ireturn, (1, (0, (0, 0))))), (393, (.goto 2266, (3, (0, (0, 0))))), (396, (.aload_n 1, (1, (0, (0, 0))))), (397, (.aload_n 0, (1, (0, (0, 0))))), (398, (.iload 5, (2, (0, (0, 0))))), (400, (.iconst 1, (1, (0, (0, 0))))), (401, (.iadd, (1, (0, (0, 0))))), (402, (.iaload, (1, (0, (0, 0))))), (403, (.aload_n 0, (1, (0, (0, 0))))), (404, (.iload 5, (2, (0, (0, 0))))), (406, (.iconst 2, (1, (0, (0, 0))))), (407, (.iadd, (1, (0, (0, 0))))), (408, (.iaload, (1, (0, (0, 0))))), (409, (.aload_n 0, (1, (0, (0, 0))))), (410, (.iload 5, (2, (0, (0, 0))))), (412, (.iconst 3, (1, (0, (0, 0))))), (413, (.iadd, (1, (0, (0, 0))))), (414, (.iaload, (1, (0, (0, 0))))), (415, (.aload_n 3, (1, (0, (0, 0))))), (416, (.invokestatic 145, (3, (244, (5, 8))))), (419, (.istore 6, (2, (0, (0, 0))))), (421, (.aload_n 2, (1, (0, (0, 0))))), (422, (.aload_n 0, (1, (0, (0, 0))))), (423, (.iload 5, (2, (0, (0, 0))))), (425, (.iconst 1, (1, (0, (0, 0))))), (426, (.iadd, (1, (0, (0, 0))))), (427, (.iaload, (1, (0, (0, 0))))), (428, (.aload_n 0, (1, (0, (0, 0))))), (429, (.iload 5, (2, (0, (0, 0))))), (431, (.iconst 2, (1, (0, (0, 0))))), (432, (.iadd, (1, (0, (0, 0))))), (433, (.iaload, (1, (0, (0, 0))))), (434, (.aload_n 0, (1, (0, (0, 0))))), (435, (.iload 5, (2, (0, (0, 0))))), (437, (.iconst 3, (1, (0, (0, 0))))), (438, (.iadd, (1, (0, (0, 0))))), (439, (.iaload, (1, (0, (0, 0))))), (440, (.invokevirtual 147, (3, (170, (4, 0))))), (443, (.istore 7, (2, (0, (0, 0))))), (445, (.aload_n 2, (1, (0, (0, 0))))), (446, (.invokevirtual 139, (3, (137, (1, 0)))))],
  [(449, (.iload 6, (2, (0, (0, 0))))), (451, (.if_icmp .eq 5, (3, (0, (0, 0))))), (454, (.iconst 0, (1, (0, (0, 0))))), (455, (.ireturn, (1, (0, (0, 0))))), (456, (.iload 6, (2, (0, (0, 0))))), (458, (.ifCond .ne 15, (3, (0, (0, 0))))), (461, (.aload_n 3, (1, (0, (0, 0))))), (462, (.iconst 0, (1, (0, (0, 0))))), (463, (.laload, (1, (0, (0, 0))))), (464, (.iload 7, (2, (0, (0, 0))))), (466, (.i2l, (1, (0, (0, 0))))), (467, (.lcmp, (1, (0, (0, 0))))), (468, (.ifCond .eq 5, (3, (0, (0, 0))))), (471, (.iconst 0, (1, (0, (0, 0))))), (472, (.ireturn, (1, (0, (0, 0))))), (473, (.goto 2186, (3, (0, (0, 0))))), (476, (.aload_n 1, (1, (0, (0, 0))))), (477, (.aload_n 0, (1, (0, (0, 0))))), (478, (.iload 5, (2, (0, (0, 0))))), (480, (.iconst 1, (1, (0, (0, 0))))), (481, (.iadd, (1, (0, (0, 0))))), (482, (.iaload, (1, (0, (0, 0))))), (483, (.aload_n 0, (1, (0, (0, 0))))), (484, (.iload 5, (2, (0, (0, 0))))), (486, (.iconst 2, (1, (0, (0, 0))))), (487, (.iadd, (1, (0, (0, 0))))), (488, (.iaload, (1, (0, (0, 0))))), (489, (.aload_n 0, (1, (0, (0, 0))))), (490, (.iload 5, (2, (0, (0, 0))))), (492, (.iconst 3, (1, (0, (0, 0))))), (493, (.iadd, (1, (0, (0, 0))))), (494, (.iaload, (1, (0, (0, 0))))), (495, (.aload_n 0, (1, (0, (0, 0))))), (496, (.iload 5, (2, (0, (0, 0))))), (498, (.iconst 4, (1, (0, (0, 0))))), (499, (.iadd, (1, (0, (0, 0))))), (500, (.iaload, (1, (0, (0, 0))))), (501, (.aload_n 3, (1, (0, (0, 0))))), (502, (.invokestatic 148, (3, (245, (6, 8))))), (505, (.istore 6, (2, (0, (0, 0))))), (507, (.aload_n 2, (1, (0, (0, 0))))), (508, (.aload_n 0, (1, (0, (0, 0))))), (509, (.iload 5, (2, (0, (0, 0))))), (511, (.iconst 1, (1, (0, (0, 0)))))],
  [(512, (.iadd, (1, (0, (0, 0))))), (513, (.iaload, (1, (0, (0, 0))))), (514, (.aload_n 0, (1, (0, (0, 0))))), (515, (.iload 5, (2, (0, (0, 0))))), (517, (.iconst 2, (1, (0, (0, 0))))), (518, (.iadd, (1, (0, (0, 0))))), (519, (.iaload, (1, (0, (0, 0))))), (520, (.aload_n 0, (1, (0, (0, 0))))), (521, (.iload 5, (2, (0, (0, 0))))), (523, (.iconst 3, (1, (0, (0, 0))))), (524, (.iadd, (1, (0, (0, 0))))), (525, (.iaload, (1, (0, (0, 0))))), (526, (.aload_n 0, (1, (0, (0, 0))))), (527, (.iload 5, (2, (0, (0, 0))))), (529, (.iconst 4, (1, (0, (0, 0))))), (530, (.iadd, (1, (0, (0, 0))))), (531, (.iaload, (1, (0, (0, 0))))), (532, (.invokevirtual 151, (3, (171, (5, 0))))), (535, (.istore 7, (2, (0, (0, 0))))), (537, (.aload_n 2, (1, (0, (0, 0))))), (538, (.invokevirtual 139, (3, (137, (1, 0))))), (541, (.iload 6, (2, (0, (0, 0))))), (543, (.if_icmp .eq 5, (3, (0, (0, 0))))), (546, (.iconst 0, (1, (0, (0, 0))))), (547, (.ireturn, (1, (0, (0, 0))))), (548, (.iload 6, (2, (0, (0, 0))))), (550, (.ifCond .ne 15, (3, (0, (0, 0))))), (553, (.aload_n 3, (1, (0, (0, 0))))), (554, (.iconst 0, (1, (0, (0, 0))))), (555, (.laload, (1, (0, (0, 0))))), (556, (.iload 7, (2, (0, (0, 0))))), (558, (.i2l, (1, (0, (0, 0))))), (559, (.lcmp, (1, (0, (0, 0))))), (560, (.ifCond .eq 5, (3, (0, (0, 0))))), (563, (.iconst 0, (1, (0, (0, 0))))), (564, (.ireturn, (1, (0, (0, 0))))), (565, (.goto 2094, (3, (0, (0, 0))))), (568, (.aload_n 1, (1, (0, (0, 0))))), (569, (.aload_n 0, (1, (0, (0, 0))))), (570, (.iload 5, (2, (0, (0, 0))))), (572, (.iconst 1, (1, (0, (0, 0))))), (573, (.iadd, (1, (0, (0, 0))))), (574, (.iaload, (1, (0, (0, 0))))), (575, (.aload_n 0, (1, (0, (0, 0)))))],
  [(576, (.iload 5, (2, (0, (0, 0))))), (578, (.iconst 2, (1, (0, (0, 0))))), (579, (.iadd, (1, (0, (0, 0))))), (580, (.iaload, (1, (0, (0, 0))))), (581, (.aload_n 0, (1, (0, (0, 0))))), (582, (.iload 5, (2, (0, (0, 0))))), (584, (.iconst 3, (1, (0, (0, 0))))), (585, (.iadd, (1, (0, (0, 0))))), (586, (.iaload, (1, (0, (0, 0))))), (587, (.aload_n 3, (1, (0, (0, 0))))), (588, (.invokestatic 152, (3, (246, (5, 8))))), (591, (.istore 6, (2, (0, (0, 0))))), (593, (.aload_n 2, (1, (0, (0, 0))))), (594, (.aload_n 0, (1, (0, (0, 0))))), (595, (.iload 5, (2, (0, (0, 0))))), (597, (.iconst 1, (1, (0, (0, 0))))), (598, (.iadd, (1, (0, (0, 0))))), (599, (.iaload, (1, (0, (0, 0))))), (600, (.aload_n 0, (1, (0, (0, 0))))), (601, (.iload 5, (2, (0, (0, 0))))), (603, (.iconst 2, (1, (0, (0, 0))))), (604, (.iadd, (1, (0, (0, 0))))), (605, (.iaload, (1, (0, (0, 0))))), (606, (.aload_n 0, (1, (0, (0, 0))))), (607, (.iload 5, (2, (0, (0, 0))))), (609, (.iconst 3, (1, (0, (0, 0))))), (610, (.iadd, (1, (0, (0, 0))))), (611, (.iaload, (1, (0, (0, 0))))), (612, (.invokevirtual 154, (3, (172, (4, 0))))), (615, (.istore 7, (2, (0, (0, 0))))), (617, (.aload_n 2, (1, (0, (0, 0))))), (618, (.invokevirtual 139, (3, (137, (1, 0))))), (621, (.iload 6, (2, (0, (0, 0))))), (623, (.if_icmp .eq 5, (3, (0, (0, 0))))), (626, (.iconst 0, (1, (0, (0, 0))))), (627, (.ireturn, (1, (0, (0, 0))))), (628, (.iload 6, (2, (0, (0, 0))))), (630, (.ifCond .ne 15, (3, (0, (0, 0))))), (633, (.aload_n 3, (1, (0, (0, 0))))), (634, (.iconst 0, (1, (0, (0, 0))))), (635, (.laload, (1, (0, (0, 0))))), (636, (.iload 7, (2, (0, (0, 0))))), (638, (.i2l, (1, (0, (0, 0))))), (639, (.lcmp, (1, (0, (0, 0)))))],
  [(640, (.ifCond .eq 5, (3, (0, (0, 0))))), (643, (.iconst 0, (1, (0, (0, 0))))), (644, (.ireturn, (1, (0, (0, 0))))), (645, (.goto 2014, (3, (0, (0, 0))))), (648, (.aload_n 1, (1, (0, (0, 0))))), (649, (.aload_n 0, (1, (0, (0, 0))))), (650, (.iload 5, (2, (0, (0, 0))))), (652, (.iconst 1, (1, (0, (0, 0))))), (653, (.iadd, (1, (0, (0, 0))))), (654, (.iaload, (1, (0, (0, 0))))), (655, (.aload_n 3, (1, (0, (0, 0))))), (656, (.invokestatic 155, (3, (247, (3, 8))))), (659, (.istore 6, (2, (0, (0, 0))))), (661, (.aload_n 2, (1, (0, (0, 0))))), (662, (.aload_n 0, (1, (0, (0, 0))))), (663, (.iload 5, (2, (0, (0, 0))))), (665, (.iconst 1, (1, (0, (0, 0))))), (666, (.iadd, (1, (0, (0, 0))))), (667, (.iaload, (1, (0, (0, 0))))), (668, (.invokevirtual 158, (3, (173, (2, 0))))), (671, (.istore 7, (2, (0, (0, 0))))), (673, (.aload_n 2, (1, (0, (0, 0))))), (674, (.invokevirtual 139, (3, (137, (1, 0))))), (677, (.iload 6, (2, (0, (0, 0))))), (679, (.if_icmp .eq 5, (3, (0, (0, 0))))), (682, (.iconst 0, (1, (0, (0, 0))))), (683, (.ireturn, (1, (0, (0, 0))))), (684, (.iload 6, (2, (0, (0, 0))))), (686, (.ifCond .ne 15, (3, (0, (0, 0))))), (689, (.aload_n 3, (1, (0, (0, 0))))), (690, (.iconst 0, (1, (0, (0, 0))))), (691, (.laload, (1, (0, (0, 0))))), (692, (.iload 7, (2, (0, (0, 0))))), (694, (.i2l, (1, (0, (0, 0))))), (695, (.lcmp, (1, (0, (0, 0))))), (696, (.ifCond .eq 5, (3, (0, (0, 0))))), (699, (.iconst 0, (1, (0, (0, 0))))), (700, (.ireturn, (1, (0, (0, 0))))), (701, (.goto 1958, (3, (0, (0, 0)))))],
  [(704, (.aload_n 1, (1, (0, (0, 0))))), (705, (.aload_n 0, (1, (0, (0, 0))))), (706, (.iload 5, (2, (0, (0, 0))))), (708, (.iconst 1, (1, (0, (0, 0))))), (709, (.iadd, (1, (0, (0, 0))))), (710, (.iaload, (1, (0, (0, 0))))), (711, (.aload_n 3, (1, (0, (0, 0))))), (712, (.invokestatic 159, (3, (248, (3, 8))))), (715, (.istore 6, (2, (0, (0, 0))))), (717, (.aload_n 2, (1, (0, (0, 0))))), (718, (.aload_n 0, (1, (0, (0, 0))))), (719, (.iload 5, (2, (0, (0, 0))))), (721, (.iconst 1, (1, (0, (0, 0))))), (722, (.iadd, (1, (0, (0, 0))))), (723, (.iaload, (1, (0, (0, 0))))), (724, (.invokevirtual 161, (3, (174, (2, 0))))), (727, (.istore 7, (2, (0, (0, 0))))), (729, (.aload_n 2, (1, (0, (0, 0))))), (730, (.invokevirtual 139, (3, (137, (1, 0))))), (733, (.iload 6, (2, (0, (0, 0))))), (735, (.if_icmp .eq 5, (3, (0, (0, 0))))), (738, (.iconst 0, (1, (0, (0, 0))))), (739, (.ireturn, (1, (0, (0, 0))))), (740, (.iload 6, (2, (0, (0, 0))))), (742, (.ifCond .ne 15, (3, (0, (0, 0))))), (745, (.aload_n 3, (1, (0, (0, 0))))), (746, (.iconst 0, (1, (0, (0, 0))))), (747, (.laload, (1, (0, (0, 0))))), (748, (.iload 7, (2, (0, (0, 0))))), (750, (.i2l, (1, (0, (0, 0))))), (751, (.lcmp, (1, (0, (0, 0))))), (752, (.ifCond .eq 5, (3, (0, (0, 0))))), (755, (.iconst 0, (1, (0, (0, 0))))), (756, (.ireturn, (1, (0, (0, 0))))), (757, (.goto 1902, (3, (0, (0, 0))))), (760, (.aload_n 1, (1, (0, (0, 0))))), (761, (.aload_n 0, (1, (0, (0, 0))))), (762, (.iload 5, (2, (0, (0, 0))))), (764, (.iconst 1, (1, (0, (0, 0))))), (765, (.iadd, (1, (0, (0, 0))))), (766, (.iaload, (1, (0, (0, 0))))), (767, (.i2l, (1, (0, (0, 0)))))],
  [(768, (.bipush 32, (2, (0, (0, 0))))), (770, (.lshl, (1, (0, (0, 0))))), (771, (.aload_n 0, (1, (0, (0, 0))))), (772, (.iload 5, (2, (0, (0, 0))))), (774, (.iconst 2, (1, (0, (0, 0))))), (775, (.iadd, (1, (0, (0, 0))))), (776, (.iaload, (1, (0, (0, 0))))), (777, (.i2l, (1, (0, (0, 0))))), (778, (.ldc2_w 162, (3, (4294967295, (0, 0))))), (781, (.land, (1, (0, (0, 0))))), (782, (.lor, (1, (0, (0, 0))))), (783, (.aload_n 3, (1, (0, (0, 0))))), (784, (.invokestatic 164, (3, (249, (3, 8))))), (787, (.istore 6, (2, (0, (0, 0))))), (789, (.aload_n 2, (1, (0, (0, 0))))), (790, (.aload_n 0, (1, (0, (0, 0))))), (791, (.iload 5, (2, (0, (0, 0))))), (793, (.iconst 1, (1, (0, (0, 0))))), (794, (.iadd, (1, (0, (0, 0))))), (795, (.iaload, (1, (0, (0, 0))))), (796, (.i2l, (1, (0, (0, 0))))), (797, (.bipush 32, (2, (0, (0, 0))))), (799, (.lshl, (1, (0, (0, 0))))), (800, (.aload_n 0, (1, (0, (0, 0))))), (801, (.iload 5, (2, (0, (0, 0))))), (803, (.iconst 2, (1, (0, (0, 0))))), (804, (.iadd, (1, (0, (0, 0))))), (805, (.iaload, (1, (0, (0, 0))))), (806, (.i2l, (1, (0, (0, 0))))), (807, (.ldc2_w 162, (3, (4294967295, (0, 0))))), (810, (.land, (1, (0, (0, 0))))), (811, (.lor, (1, (0, (0, 0))))), (812, (.invokevirtual 167, (3, (175, (2, 0))))), (815, (.istore 7, (2, (0, (0, 0))))), (817, (.aload_n 2, (1, (0, (0, 0))))), (818, (.invokevirtual 139, (3, (137, (1, 0))))), (821, (.iload 6, (2, (0, (0, 0))))), (823, (.if_icmp .eq 5, (3, (0, (0, 0))))), (826, (.iconst 0, (1, (0, (0, 0))))), (827, (.ireturn, (1, (0, (0, 0))))), (828, (.iload 6, (2, (0, (0, 0))))), (830, (.ifCond .ne 15, (3, (0, (0, 0)))))],
  [(833, (.aload_n 3, (1, (0, (0, 0))))), (834, (.iconst 0, (1, (0, (0, 0))))), (835, (.laload, (1, (0, (0, 0))))), (836, (.iload 7, (2, (0, (0, 0))))), (838, (.i2l, (1, (0, (0, 0))))), (839, (.lcmp, (1, (0, (0, 0))))), (840, (.ifCond .eq 5, (3, (0, (0, 0))))), (843, (.iconst 0, (1, (0, (0, 0))))), (844, (.ireturn, (1, (0, (0, 0))))), (845, (.goto 1814, (3, (0, (0, 0))))), (848, (.aload_n 1, (1, (0, (0, 0))))), (849, (.aload_n 0, (1, (0, (0, 0))))), (850, (.iload 5, (2, (0, (0, 0))))), (852, (.iconst 1, (1, (0, (0, 0))))), (853, (.iadd, (1, (0, (0, 0))))), (854, (.iaload, (1, (0, (0, 0))))), (855, (.aload_n 3, (1, (0, (0, 0))))), (856, (.invokestatic 168, (3, (250, (3, 8))))), (859, (.istore 6, (2, (0, (0, 0))))), (861, (.aload_n 2, (1, (0, (0, 0))))), (862, (.aload_n 0, (1, (0, (0, 0))))), (863, (.iload 5, (2, (0, (0, 0))))), (865, (.iconst 1, (1, (0, (0, 0))))), (866, (.iadd, (1, (0, (0, 0))))), (867, (.iaload, (1, (0, (0, 0))))), (868, (.invokevirtual 170, (3, (179, (2, 0))))), (871, (.istore 7, (2, (0, (0, 0))))), (873, (.aload_n 2, (1, (0, (0, 0))))), (874, (.invokevirtual 139, (3, (137, (1, 0))))), (877, (.iload 6, (2, (0, (0, 0))))), (879, (.if_icmp .eq 5, (3, (0, (0, 0))))), (882, (.iconst 0, (1, (0, (0, 0))))), (883, (.ireturn, (1, (0, (0, 0))))), (884, (.iload 6, (2, (0, (0, 0))))), (886, (.ifCond .ne 15, (3, (0, (0, 0))))), (889, (.aload_n 3, (1, (0, (0, 0))))), (890, (.iconst 0, (1, (0, (0, 0))))), (891, (.laload, (1, (0, (0, 0))))), (892, (.iload 7, (2, (0, (0, 0))))), (894, (.i2l, (1, (0, (0, 0))))), (895, (.lcmp, (1, (0, (0, 0)))))],
  [(896, (.ifCond .eq 5, (3, (0, (0, 0))))), (899, (.iconst 0, (1, (0, (0, 0))))), (900, (.ireturn, (1, (0, (0, 0))))), (901, (.goto 1758, (3, (0, (0, 0))))), (904, (.aload_n 1, (1, (0, (0, 0))))), (905, (.aload_n 0, (1, (0, (0, 0))))), (906, (.iload 5, (2, (0, (0, 0))))), (908, (.iconst 1, (1, (0, (0, 0))))), (909, (.iadd, (1, (0, (0, 0))))), (910, (.iaload, (1, (0, (0, 0))))), (911, (.aload_n 0, (1, (0, (0, 0))))), (912, (.iload 5, (2, (0, (0, 0))))), (914, (.iconst 2, (1, (0, (0, 0))))), (915, (.iadd, (1, (0, (0, 0))))), (916, (.iaload, (1, (0, (0, 0))))), (917, (.aload_n 3, (1, (0, (0, 0))))), (918, (.invokestatic 171, (3, (251, (4, 8))))), (921, (.istore 6, (2, (0, (0, 0))))), (923, (.aload_n 2, (1, (0, (0, 0))))), (924, (.aload_n 0, (1, (0, (0, 0))))), (925, (.iload 5, (2, (0, (0, 0))))), (927, (.iconst 1, (1, (0, (0, 0))))), (928, (.iadd, (1, (0, (0, 0))))), (929, (.iaload, (1, (0, (0, 0))))), (930, (.aload_n 0, (1, (0, (0, 0))))), (931, (.iload 5, (2, (0, (0, 0))))), (933, (.iconst 2, (1, (0, (0, 0))))), (934, (.iadd, (1, (0, (0, 0))))), (935, (.iaload, (1, (0, (0, 0))))), (936, (.invokevirtual 174, (3, (181, (3, 0))))), (939, (.istore 7, (2, (0, (0, 0))))), (941, (.aload_n 2, (1, (0, (0, 0))))), (942, (.invokevirtual 139, (3, (137, (1, 0))))), (945, (.iload 6, (2, (0, (0, 0))))), (947, (.if_icmp .eq 5, (3, (0, (0, 0))))), (950, (.iconst 0, (1, (0, (0, 0))))), (951, (.ireturn, (1, (0, (0, 0))))), (952, (.iload 6, (2, (0, (0, 0))))), (954, (.ifCond .ne 15, (3, (0, (0, 0))))), (957, (.aload_n 3, (1, (0, (0, 0))))), (958, (.iconst 0, (1, (0, (0, 0))))), (959, (.laload, (1, (0, (0, 0)))))],
  [(960, (.iload 7, (2, (0, (0, 0))))), (962, (.i2l, (1, (0, (0, 0))))), (963, (.lcmp, (1, (0, (0, 0))))), (964, (.ifCond .eq 5, (3, (0, (0, 0))))), (967, (.iconst 0, (1, (0, (0, 0))))), (968, (.ireturn, (1, (0, (0, 0))))), (969, (.goto 1690, (3, (0, (0, 0))))), (972, (.aload_n 1, (1, (0, (0, 0))))), (973, (.aload_n 0, (1, (0, (0, 0))))), (974, (.iload 5, (2, (0, (0, 0))))), (976, (.iconst 1, (1, (0, (0, 0))))), (977, (.iadd, (1, (0, (0, 0))))), (978, (.iaload, (1, (0, (0, 0))))), (979, (.aload_n 0, (1, (0, (0, 0))))), (980, (.iload 5, (2, (0, (0, 0))))), (982, (.iconst 2, (1, (0, (0, 0))))), (983, (.iadd, (1, (0, (0, 0))))), (984, (.iaload, (1, (0, (0, 0))))), (985, (.aload_n 3, (1, (0, (0, 0))))), (986, (.invokestatic 175, (3, (252, (4, 8))))), (989, (.istore 6, (2, (0, (0, 0))))), (991, (.aload_n 2, (1, (0, (0, 0))))), (992, (.aload_n 0, (1, (0, (0, 0))))), (993, (.iload 5, (2, (0, (0, 0))))), (995, (.iconst 1, (1, (0, (0, 0))))), (996, (.iadd, (1, (0, (0, 0))))), (997, (.iaload, (1, (0, (0, 0))))), (998, (.aload_n 0, (1, (0, (0, 0))))), (999, (.iload 5, (2, (0, (0, 0))))), (1001, (.iconst 2, (1, (0, (0, 0))))), (1002, (.iadd, (1, (0, (0, 0))))), (1003, (.iaload, (1, (0, (0, 0))))), (1004, (.invokevirtual 177, (3, (182, (3, 0))))), (1007, (.istore 7, (2, (0, (0, 0))))), (1009, (.aload_n 2, (1, (0, (0, 0))))), (1010, (.invokevirtual 139, (3, (137, (1, 0))))), (1013, (.iload 6, (2, (0, (0, 0))))), (1015, (.if_icmp .eq 5, (3, (0, (0, 0))))), (1018, (.iconst 0, (1, (0, (0, 0))))), (1019, (.ireturn, (1, (0, (0, 0))))), (1020, (.iload 6, (2, (0, (0, 0))))), (1022, (.ifCond .ne 15, (3, (0, (0, 0)))))],
  [(1025, (.aload_n 3, (1, (0, (0, 0))))), (1026, (.iconst 0, (1, (0, (0, 0))))), (1027, (.laload, (1, (0, (0, 0))))), (1028, (.iload 7, (2, (0, (0, 0))))), (1030, (.i2l, (1, (0, (0, 0))))), (1031, (.lcmp, (1, (0, (0, 0))))), (1032, (.ifCond .eq 5, (3, (0, (0, 0))))), (1035, (.iconst 0, (1, (0, (0, 0))))), (1036, (.ireturn, (1, (0, (0, 0))))), (1037, (.goto 1622, (3, (0, (0, 0))))), (1040, (.aload_n 1, (1, (0, (0, 0))))), (1041, (.aload_n 0, (1, (0, (0, 0))))), (1042, (.iload 5, (2, (0, (0, 0))))), (1044, (.iconst 1, (1, (0, (0, 0))))), (1045, (.iadd, (1, (0, (0, 0))))), (1046, (.iaload, (1, (0, (0, 0))))), (1047, (.aload_n 3, (1, (0, (0, 0))))), (1048, (.invokestatic 178, (3, (253, (3, 8))))), (1051, (.istore 6, (2, (0, (0, 0))))), (1053, (.aload_n 2, (1, (0, (0, 0))))), (1054, (.aload_n 0, (1, (0, (0, 0))))), (1055, (.iload 5, (2, (0, (0, 0))))), (1057, (.iconst 1, (1, (0, (0, 0))))), (1058, (.iadd, (1, (0, (0, 0))))), (1059, (.iaload, (1, (0, (0, 0))))), (1060, (.invokevirtual 180, (3, (184, (2, 0))))), (1063, (.istore 7, (2, (0, (0, 0))))), (1065, (.aload_n 2, (1, (0, (0, 0))))), (1066, (.invokevirtual 139, (3, (137, (1, 0))))), (1069, (.iload 6, (2, (0, (0, 0))))), (1071, (.if_icmp .eq 5, (3, (0, (0, 0))))), (1074, (.iconst 0, (1, (0, (0, 0))))), (1075, (.ireturn, (1, (0, (0, 0))))), (1076, (.iload 6, (2, (0, (0, 0))))), (1078, (.ifCond .ne 15, (3, (0, (0, 0))))), (1081, (.aload_n 3, (1, (0, (0, 0))))), (1082, (.iconst 0, (1, (0, (0, 0))))), (1083, (.laload, (1, (0, (0, 0))))), (1084, (.iload 7, (2, (0, (0, 0))))), (1086, (.i2l, (1, (0, (0, 0))))), (1087, (.lcmp, (1, (0, (0, 0)))))],
  [(1088, (.ifCond .eq 5, (3, (0, (0, 0))))), (1091, (.iconst 0, (1, (0, (0, 0))))), (1092, (.ireturn, (1, (0, (0, 0))))), (1093, (.goto 1566, (3, (0, (0, 0))))), (1096, (.aload_n 1, (1, (0, (0, 0))))), (1097, (.aload_n 0, (1, (0, (0, 0))))), (1098, (.iload 5, (2, (0, (0, 0))))), (1100, (.iconst 1, (1, (0, (0, 0))))), (1101, (.iadd, (1, (0, (0, 0))))), (1102, (.iaload, (1, (0, (0, 0))))), (1103, (.aload_n 0, (1, (0, (0, 0))))), (1104, (.iload 5, (2, (0, (0, 0))))), (1106, (.iconst 2, (1, (0, (0, 0))))), (1107, (.iadd, (1, (0, (0, 0))))), (1108, (.iaload, (1, (0, (0, 0))))), (1109, (.aload_n 3, (1, (0, (0, 0))))), (1110, (.invokestatic 181, (3, (254, (4, 8))))), (1113, (.istore 6, (2, (0, (0, 0))))), (1115, (.aload_n 2, (1, (0, (0, 0))))), (1116, (.aload_n 0, (1, (0, (0, 0))))), (1117, (.iload 5, (2, (0, (0, 0))))), (1119, (.iconst 1, (1, (0, (0, 0))))), (1120, (.iadd, (1, (0, (0, 0))))), (1121, (.iaload, (1, (0, (0, 0))))), (1122, (.aload_n 0, (1, (0, (0, 0))))), (1123, (.iload 5, (2, (0, (0, 0))))), (1125, (.iconst 2, (1, (0, (0, 0))))), (1126, (.iadd, (1, (0, (0, 0))))), (1127, (.iaload, (1, (0, (0, 0))))), (1128, (.invokevirtual 183, (3, (185, (3, 0))))), (1131, (.istore 7, (2, (0, (0, 0))))), (1133, (.aload_n 2, (1, (0, (0, 0))))), (1134, (.invokevirtual 139, (3, (137, (1, 0))))), (1137, (.iload 6, (2, (0, (0, 0))))), (1139, (.if_icmp .eq 5, (3, (0, (0, 0))))), (1142, (.iconst 0, (1, (0, (0, 0))))), (1143, (.ireturn, (1, (0, (0, 0))))), (1144, (.iload 6, (2, (0, (0, 0))))), (1146, (.ifCond .ne 15, (3, (0, (0, 0))))), (1149, (.aload_n 3, (1, (0, (0, 0))))), (1150, (.iconst 0, (1, (0, (0, 0))))), (1151, (.laload, (1, (0, (0, 0)))))],
  [(1152, (.iload 7, (2, (0, (0, 0))))), (1154, (.i2l, (1, (0, (0, 0))))), (1155, (.lcmp, (1, (0, (0, 0))))), (1156, (.ifCond .eq 5, (3, (0, (0, 0))))), (1159, (.iconst 0, (1, (0, (0, 0))))), (1160, (.ireturn, (1, (0, (0, 0))))), (1161, (.goto 1498, (3, (0, (0, 0))))), (1164, (.aload_n 1, (1, (0, (0, 0))))), (1165, (.invokevirtual 184, (3, (88, (1, 0))))), (1168, (.aload_n 2, (1, (0, (0, 0))))), (1169, (.invokevirtual 187, (3, (186, (1, 0))))), (1172, (.if_icmp .eq 1487, (3, (0, (0, 0))))), (1175, (.iconst 0, (1, (0, (0, 0))))), (1176, (.ireturn, (1, (0, (0, 0))))), (1177, (.aload_n 1, (1, (0, (0, 0))))), (1178, (.invokevirtual 188, (3, (89, (1, 0))))), (1181, (.aload_n 2, (1, (0, (0, 0))))), (1182, (.invokevirtual 191, (3, (187, (1, 0))))), (1185, (.if_icmp .eq 1474, (3, (0, (0, 0))))), (1188, (.iconst 0, (1, (0, (0, 0))))), (1189, (.ireturn, (1, (0, (0, 0))))), (1190, (.aload_n 1, (1, (0, (0, 0))))), (1191, (.aload_n 0, (1, (0, (0, 0))))), (1192, (.iload 5, (2, (0, (0, 0))))), (1194, (.iconst 1, (1, (0, (0, 0))))), (1195, (.iadd, (1, (0, (0, 0))))), (1196, (.iaload, (1, (0, (0, 0))))), (1197, (.aload_n 0, (1, (0, (0, 0))))), (1198, (.iload 5, (2, (0, (0, 0))))), (1200, (.iconst 2, (1, (0, (0, 0))))), (1201, (.iadd, (1, (0, (0, 0))))), (1202, (.iaload, (1, (0, (0, 0))))), (1203, (.aload_n 3, (1, (0, (0, 0))))), (1204, (.invokestatic 192, (3, (255, (4, 8))))), (1207, (.istore 6, (2, (0, (0, 0))))), (1209, (.aload_n 2, (1, (0, (0, 0))))), (1210, (.aload_n 0, (1, (0, (0, 0))))), (1211, (.iload 5, (2, (0, (0, 0))))), (1213, (.iconst 1, (1, (0, (0, 0))))), (1214, (.iadd, (1, (0, (0, 0))))), (1215, (.iaload, (1, (0, (0, 0)))))],
  [(1216, (.aload_n 0, (1, (0, (0, 0))))), (1217, (.iload 5, (2, (0, (0, 0))))), (1219, (.iconst 2, (1, (0, (0, 0))))), (1220, (.iadd, (1, (0, (0, 0))))), (1221, (.iaload, (1, (0, (0, 0))))), (1222, (.invokevirtual 194, (3, (188, (3, 0))))), (1225, (.istore 7, (2, (0, (0, 0))))), (1227, (.aload_n 2, (1, (0, (0, 0))))), (1228, (.invokevirtual 139, (3, (137, (1, 0))))), (1231, (.iload 6, (2, (0, (0, 0))))), (1233, (.if_icmp .eq 5, (3, (0, (0, 0))))), (1236, (.iconst 0, (1, (0, (0, 0))))), (1237, (.ireturn, (1, (0, (0, 0))))), (1238, (.iload 6, (2, (0, (0, 0))))), (1240, (.ifCond .ne 15, (3, (0, (0, 0))))), (1243, (.aload_n 3, (1, (0, (0, 0))))), (1244, (.iconst 0, (1, (0, (0, 0))))), (1245, (.laload, (1, (0, (0, 0))))), (1246, (.iload 7, (2, (0, (0, 0))))), (1248, (.i2l, (1, (0, (0, 0))))), (1249, (.lcmp, (1, (0, (0, 0))))), (1250, (.ifCond .eq 5, (3, (0, (0, 0))))), (1253, (.iconst 0, (1, (0, (0, 0))))), (1254, (.ireturn, (1, (0, (0, 0))))), (1255, (.goto 1404, (3, (0, (0, 0))))), (1258, (.aload_n 1, (1, (0, (0, 0))))), (1259, (.aload_n 0, (1, (0, (0, 0))))), (1260, (.iload 5, (2, (0, (0, 0))))), (1262, (.iconst 1, (1, (0, (0, 0))))), (1263, (.iadd, (1, (0, (0, 0))))), (1264, (.iaload, (1, (0, (0, 0))))), (1265, (.aload_n 0, (1, (0, (0, 0))))), (1266, (.iload 5, (2, (0, (0, 0))))), (1268, (.iconst 2, (1, (0, (0, 0))))), (1269, (.iadd, (1, (0, (0, 0))))), (1270, (.iaload, (1, (0, (0, 0))))), (1271, (.aload_n 0, (1, (0, (0, 0))))), (1272, (.iload 5, (2, (0, (0, 0))))), (1274, (.iconst 3, (1, (0, (0, 0))))), (1275, (.iadd, (1, (0, (0, 0))))), (1276, (.iaload, (1, (0, (0, 0))))), (1277, (.aload_n 3, (1, (0, (0, 0))))), (1278, (.invokestatic 195, (3, (256, (5, 8)))))],
  [(1281, (.istore 6, (2, (0, (0, 0))))), (1283, (.aload_n 2, (1, (0, (0, 0))))), (1284, (.aload_n 0, (1, (0, (0, 0))))), (1285, (.iload 5, (2, (0, (0, 0))))), (1287, (.iconst 1, (1, (0, (0, 0))))), (1288, (.iadd, (1, (0, (0, 0))))), (1289, (.iaload, (1, (0, (0, 0))))), (1290, (.aload_n 0, (1, (0, (0, 0))))), (1291, (.iload 5, (2, (0, (0, 0))))), (1293, (.iconst 2, (1, (0, (0, 0))))), (1294, (.iadd, (1, (0, (0, 0))))), (1295, (.iaload, (1, (0, (0, 0))))), (1296, (.aload_n 0, (1, (0, (0, 0))))), (1297, (.iload 5, (2, (0, (0, 0))))), (1299, (.iconst 3, (1, (0, (0, 0))))), (1300, (.iadd, (1, (0, (0, 0))))), (1301, (.iaload, (1, (0, (0, 0))))), (1302, (.invokevirtual 197, (3, (189, (4, 0))))), (1305, (.istore 7, (2, (0, (0, 0))))), (1307, (.aload_n 2, (1, (0, (0, 0))))), (1308, (.invokevirtual 139, (3, (137, (1, 0))))), (1311, (.iload 6, (2, (0, (0, 0))))), (1313, (.if_icmp .eq 5, (3, (0, (0, 0))))), (1316, (.iconst 0, (1, (0, (0, 0))))), (1317, (.ireturn, (1, (0, (0, 0))))), (1318, (.iload 6, (2, (0, (0, 0))))), (1320, (.ifCond .ne 15, (3, (0, (0, 0))))), (1323, (.aload_n 3, (1, (0, (0, 0))))), (1324, (.iconst 0, (1, (0, (0, 0))))), (1325, (.laload, (1, (0, (0, 0))))), (1326, (.iload 7, (2, (0, (0, 0))))), (1328, (.i2l, (1, (0, (0, 0))))), (1329, (.lcmp, (1, (0, (0, 0))))), (1330, (.ifCond .eq 5, (3, (0, (0, 0))))), (1333, (.iconst 0, (1, (0, (0, 0))))), (1334, (.ireturn, (1, (0, (0, 0))))), (1335, (.goto 1324, (3, (0, (0, 0))))), (1338, (.aload_n 1, (1, (0, (0, 0))))), (1339, (.aload_n 0, (1, (0, (0, 0))))), (1340, (.iload 5, (2, (0, (0, 0))))), (1342, (.iconst 1, (1, (0, (0, 0))))), (1343, (.iadd, (1, (0, (0, 0)))))],
  [(1344, (.iaload, (1, (0, (0, 0))))), (1345, (.aload_n 0, (1, (0, (0, 0))))), (1346, (.iload 5, (2, (0, (0, 0))))), (1348, (.iconst 2, (1, (0, (0, 0))))), (1349, (.iadd, (1, (0, (0, 0))))), (1350, (.iaload, (1, (0, (0, 0))))), (1351, (.aload_n 3, (1, (0, (0, 0))))), (1352, (.invokestatic 198, (3, (257, (4, 8))))), (1355, (.istore 6, (2, (0, (0, 0))))), (1357, (.aload_n 2, (1, (0, (0, 0))))), (1358, (.aload_n 0, (1, (0, (0, 0))))), (1359, (.iload 5, (2, (0, (0, 0))))), (1361, (.iconst 1, (1, (0, (0, 0))))), (1362, (.iadd, (1, (0, (0, 0))))), (1363, (.iaload, (1, (0, (0, 0))))), (1364, (.aload_n 0, (1, (0, (0, 0))))), (1365, (.iload 5, (2, (0, (0, 0))))), (1367, (.iconst 2, (1, (0, (0, 0))))), (1368, (.iadd, (1, (0, (0, 0))))), (1369, (.iaload, (1, (0, (0, 0))))), (1370, (.invokevirtual 200, (3, (191, (3, 0))))), (1373, (.istore 7, (2, (0, (0, 0))))), (1375, (.aload_n 2, (1, (0, (0, 0))))), (1376, (.invokevirtual 139, (3, (137, (1, 0))))), (1379, (.iload 6, (2, (0, (0, 0))))), (1381, (.if_icmp .eq 5, (3, (0, (0, 0))))), (1384, (.iconst 0, (1, (0, (0, 0))))), (1385, (.ireturn, (1, (0, (0, 0))))), (1386, (.iload 6, (2, (0, (0, 0))))), (1388, (.ifCond .ne 15, (3, (0, (0, 0))))), (1391, (.aload_n 3, (1, (0, (0, 0))))), (1392, (.iconst 0, (1, (0, (0, 0))))), (1393, (.laload, (1, (0, (0, 0))))), (1394, (.iload 7, (2, (0, (0, 0))))), (1396, (.i2l, (1, (0, (0, 0))))), (1397, (.lcmp, (1, (0, (0, 0))))), (1398, (.ifCond .eq 5, (3, (0, (0, 0))))), (1401, (.iconst 0, (1, (0, (0, 0))))), (1402, (.ireturn, (1, (0, (0, 0))))), (1403, (.goto 1256, (3, (0, (0, 0))))), (1406, (.aload_n 1, (1, (0, (0, 0))))), (1407, (.aload_n 0, (1, (0, (0, 0)))))],
  [(1408, (.iload 5, (2, (0, (0, 0))))), (1410, (.iconst 1, (1, (0, (0, 0))))), (1411, (.iadd, (1, (0, (0, 0))))), (1412, (.iaload, (1, (0, (0, 0))))), (1413, (.aload_n 3, (1, (0, (0, 0))))), (1414, (.invokestatic 201, (3, (258, (3, 8))))), (1417, (.istore 6, (2, (0, (0, 0))))), (1419, (.aload_n 2, (1, (0, (0, 0))))), (1420, (.aload_n 0, (1, (0, (0, 0))))), (1421, (.iload 5, (2, (0, (0, 0))))), (1423, (.iconst 1, (1, (0, (0, 0))))), (1424, (.iadd, (1, (0, (0, 0))))), (1425, (.iaload, (1, (0, (0, 0))))), (1426, (.invokevirtual 203, (3, (192, (2, 0))))), (1429, (.istore 7, (2, (0, (0, 0))))), (1431, (.aload_n 2, (1, (0, (0, 0))))), (1432, (.invokevirtual 139, (3, (137, (1, 0))))), (1435, (.iload 6, (2, (0, (0, 0))))), (1437, (.if_icmp .eq 5, (3, (0, (0, 0))))), (1440, (.iconst 0, (1, (0, (0, 0))))), (1441, (.ireturn, (1, (0, (0, 0))))), (1442, (.iload 6, (2, (0, (0, 0))))), (1444, (.ifCond .ne 15, (3, (0, (0, 0))))), (1447, (.aload_n 3, (1, (0, (0, 0))))), (1448, (.iconst 0, (1, (0, (0, 0))))), (1449, (.laload, (1, (0, (0, 0))))), (1450, (.iload 7, (2, (0, (0, 0))))), (1452, (.i2l, (1, (0, (0, 0))))), (1453, (.lcmp, (1, (0, (0, 0))))), (1454, (.ifCond .eq 5, (3, (0, (0, 0))))), (1457, (.iconst 0, (1, (0, (0, 0))))), (1458, (.ireturn, (1, (0, (0, 0))))), (1459, (.goto 1200, (3, (0, (0, 0))))), (1462, (.aload_n 1, (1, (0, (0, 0))))), (1463, (.aload_n 0, (1, (0, (0, 0))))), (1464, (.iload 5, (2, (0, (0, 0))))), (1466, (.iconst 1, (1, (0, (0, 0))))), (1467, (.iadd, (1, (0, (0, 0))))), (1468, (.iaload, (1, (0, (0, 0))))), (1469, (.aload_n 3, (1, (0, (0, 0))))), (1470, (.invokestatic 204, (3, (259, (3, 8)))))],
  [(1473, (.istore 6, (2, (0, (0, 0))))), (1475, (.aload_n 2, (1, (0, (0, 0))))), (1476, (.aload_n 0, (1, (0, (0, 0))))), (1477, (.iload 5, (2, (0, (0, 0))))), (1479, (.iconst 1, (1, (0, (0, 0))))), (1480, (.iadd, (1, (0, (0, 0))))), (1481, (.iaload, (1, (0, (0, 0))))), (1482, (.invokevirtual 206, (3, (193, (2, 0))))), (1485, (.istore 7, (2, (0, (0, 0))))), (1487, (.aload_n 2, (1, (0, (0, 0))))), (1488, (.invokevirtual 139, (3, (137, (1, 0))))), (1491, (.iload 6, (2, (0, (0, 0))))), (1493, (.if_icmp .eq 5, (3, (0, (0, 0))))), (1496, (.iconst 0, (1, (0, (0, 0))))), (1497, (.ireturn, (1, (0, (0, 0))))), (1498, (.iload 6, (2, (0, (0, 0))))), (1500, (.ifCond .ne 15, (3, (0, (0, 0))))), (1503, (.aload_n 3, (1, (0, (0, 0))))), (1504, (.iconst 0, (1, (0, (0, 0))))), (1505, (.laload, (1, (0, (0, 0))))), (1506, (.iload 7, (2, (0, (0, 0))))), (1508, (.i2l, (1, (0, (0, 0))))), (1509, (.lcmp, (1, (0, (0, 0))))), (1510, (.ifCond .eq 5, (3, (0, (0, 0))))), (1513, (.iconst 0, (1, (0, (0, 0))))), (1514, (.ireturn, (1, (0, (0, 0))))), (1515, (.goto 1144, (3, (0, (0, 0))))), (1518, (.aload_n 1, (1, (0, (0, 0))))), (1519, (.invokevirtual 207, (3, (95, (1, 0))))), (1522, (.aload_n 2, (1, (0, (0, 0))))), (1523, (.invokevirtual 210, (3, (194, (1, 0))))), (1526, (.if_icmp .eq 1133, (3, (0, (0, 0))))), (1529, (.iconst 0, (1, (0, (0, 0))))), (1530, (.ireturn, (1, (0, (0, 0))))), (1531, (.aload_n 1, (1, (0, (0, 0))))), (1532, (.aload_n 0, (1, (0, (0, 0))))), (1533, (.iload 5, (2, (0, (0, 0))))), (1535, (.iconst 1, (1, (0, (0, 0)))))],
  [(1536, (.iadd, (1, (0, (0, 0))))), (1537, (.iaload, (1, (0, (0, 0))))), (1538, (.aload_n 0, (1, (0, (0, 0))))), (1539, (.iload 5, (2, (0, (0, 0))))), (1541, (.iconst 2, (1, (0, (0, 0))))), (1542, (.iadd, (1, (0, (0, 0))))), (1543, (.iaload, (1, (0, (0, 0))))), (1544, (.aload_n 3, (1, (0, (0, 0))))), (1545, (.invokestatic 211, (3, (260, (4, 8))))), (1548, (.istore 6, (2, (0, (0, 0))))), (1550, (.aload_n 2, (1, (0, (0, 0))))), (1551, (.aload_n 0, (1, (0, (0, 0))))), (1552, (.iload 5, (2, (0, (0, 0))))), (1554, (.iconst 1, (1, (0, (0, 0))))), (1555, (.iadd, (1, (0, (0, 0))))), (1556, (.iaload, (1, (0, (0, 0))))), (1557, (.aload_n 0, (1, (0, (0, 0))))), (1558, (.iload 5, (2, (0, (0, 0))))), (1560, (.iconst 2, (1, (0, (0, 0))))), (1561, (.iadd, (1, (0, (0, 0))))), (1562, (.iaload, (1, (0, (0, 0))))), (1563, (.invokevirtual 213, (3, (196, (3, 0))))), (1566, (.istore 7, (2, (0, (0, 0))))), (1568, (.aload_n 2, (1, (0, (0, 0))))), (1569, (.invokevirtual 139, (3, (137, (1, 0))))), (1572, (.iload 6, (2, (0, (0, 0))))), (1574, (.if_icmp .eq 5, (3, (0, (0, 0))))), (1577, (.iconst 0, (1, (0, (0, 0))))), (1578, (.ireturn, (1, (0, (0, 0))))), (1579, (.iload 6, (2, (0, (0, 0))))), (1581, (.ifCond .ne 15, (3, (0, (0, 0))))), (1584, (.aload_n 3, (1, (0, (0, 0))))), (1585, (.iconst 0, (1, (0, (0, 0))))), (1586, (.laload, (1, (0, (0, 0))))), (1587, (.iload 7, (2, (0, (0, 0))))), (1589, (.i2l, (1, (0, (0, 0))))), (1590, (.lcmp, (1, (0, (0, 0))))), (1591, (.ifCond .eq 5, (3, (0, (0, 0))))), (1594, (.iconst 0, (1, (0, (0, 0))))), (1595, (.ireturn, (1, (0, (0, 0))))), (1596, (.goto 1063, (3, (0, (0, 0))))), (1599, (.aload_n 1, (1, (0, (0, 0)))))],
  [(1600, (.aload_n 0, (1, (0, (0, 0))))), (1601, (.iload 5, (2, (0, (0, 0))))), (1603, (.iconst 1, (1, (0, (0, 0))))), (1604, (.iadd, (1, (0, (0, 0))))), (1605, (.iaload, (1, (0, (0, 0))))), (1606, (.aload_n 0, (1, (0, (0, 0))))), (1607, (.iload 5, (2, (0, (0, 0))))), (1609, (.iconst 2, (1, (0, (0, 0))))), (1610, (.iadd, (1, (0, (0, 0))))), (1611, (.iaload, (1, (0, (0, 0))))), (1612, (.aload_n 3, (1, (0, (0, 0))))), (1613, (.invokestatic 214, (3, (261, (4, 8))))), (1616, (.istore 6, (2, (0, (0, 0))))), (1618, (.aload_n 2, (1, (0, (0, 0))))), (1619, (.aload_n 0, (1, (0, (0, 0))))), (1620, (.iload 5, (2, (0, (0, 0))))), (1622, (.iconst 1, (1, (0, (0, 0))))), (1623, (.iadd, (1, (0, (0, 0))))), (1624, (.iaload, (1, (0, (0, 0))))), (1625, (.aload_n 0, (1, (0, (0, 0))))), (1626, (.iload 5, (2, (0, (0, 0))))), (1628, (.iconst 2, (1, (0, (0, 0))))), (1629, (.iadd, (1, (0, (0, 0))))), (1630, (.iaload, (1, (0, (0, 0))))), (1631, (.invokevirtual 216, (3, (197, (3, 0))))), (1634, (.istore 7, (2, (0, (0, 0))))), (1636, (.aload_n 2, (1, (0, (0, 0))))), (1637, (.invokevirtual 139, (3, (137, (1, 0))))), (1640, (.iload 6, (2, (0, (0, 0))))), (1642, (.if_icmp .eq 5, (3, (0, (0, 0))))), (1645, (.iconst 0, (1, (0, (0, 0))))), (1646, (.ireturn, (1, (0, (0, 0))))), (1647, (.iload 6, (2, (0, (0, 0))))), (1649, (.ifCond .ne 15, (3, (0, (0, 0))))), (1652, (.aload_n 3, (1, (0, (0, 0))))), (1653, (.iconst 0, (1, (0, (0, 0))))), (1654, (.laload, (1, (0, (0, 0))))), (1655, (.iload 7, (2, (0, (0, 0))))), (1657, (.i2l, (1, (0, (0, 0))))), (1658, (.lcmp, (1, (0, (0, 0))))), (1659, (.ifCond .eq 5, (3, (0, (0, 0))))), (1662, (.iconst 0, (1, (0, (0, 0))))), (1663, (.ireturn, (1, (0, (0, 0)))))],
  [(1664, (.goto 995, (3, (0, (0, 0))))), (1667, (.aload_n 1, (1, (0, (0, 0))))), (1668, (.aload_n 3, (1, (0, (0, 0))))), (1669, (.invokestatic 217, (3, (262, (2, 8))))), (1672, (.istore 6, (2, (0, (0, 0))))), (1674, (.aload_n 2, (1, (0, (0, 0))))), (1675, (.invokevirtual 220, (3, (203, (1, 0))))), (1678, (.istore 7, (2, (0, (0, 0))))), (1680, (.aload_n 2, (1, (0, (0, 0))))), (1681, (.invokevirtual 139, (3, (137, (1, 0))))), (1684, (.iload 6, (2, (0, (0, 0))))), (1686, (.if_icmp .eq 5, (3, (0, (0, 0))))), (1689, (.iconst 0, (1, (0, (0, 0))))), (1690, (.ireturn, (1, (0, (0, 0))))), (1691, (.iload 6, (2, (0, (0, 0))))), (1693, (.ifCond .ne 15, (3, (0, (0, 0))))), (1696, (.aload_n 3, (1, (0, (0, 0))))), (1697, (.iconst 0, (1, (0, (0, 0))))), (1698, (.laload, (1, (0, (0, 0))))), (1699, (.iload 7, (2, (0, (0, 0))))), (1701, (.i2l, (1, (0, (0, 0))))), (1702, (.lcmp, (1, (0, (0, 0))))), (1703, (.ifCond .eq 5, (3, (0, (0, 0))))), (1706, (.iconst 0, (1, (0, (0, 0))))), (1707, (.ireturn, (1, (0, (0, 0))))), (1708, (.goto 951, (3, (0, (0, 0))))), (1711, (.aload_n 1, (1, (0, (0, 0))))), (1712, (.aload_n 0, (1, (0, (0, 0))))), (1713, (.iload 5, (2, (0, (0, 0))))), (1715, (.iconst 1, (1, (0, (0, 0))))), (1716, (.iadd, (1, (0, (0, 0))))), (1717, (.iaload, (1, (0, (0, 0))))), (1718, (.aload_n 3, (1, (0, (0, 0))))), (1719, (.invokestatic 221, (3, (263, (3, 8))))), (1722, (.istore 6, (2, (0, (0, 0))))), (1724, (.aload_n 2, (1, (0, (0, 0))))), (1725, (.aload_n 0, (1, (0, (0, 0))))), (1726, (.iload 5, (2, (0, (0, 0)))))],
  [(1728, (.iconst 1, (1, (0, (0, 0))))), (1729, (.iadd, (1, (0, (0, 0))))), (1730, (.iaload, (1, (0, (0, 0))))), (1731, (.invokevirtual 223, (3, (204, (2, 0))))), (1734, (.istore 7, (2, (0, (0, 0))))), (1736, (.aload_n 2, (1, (0, (0, 0))))), (1737, (.invokevirtual 139, (3, (137, (1, 0))))), (1740, (.iload 6, (2, (0, (0, 0))))), (1742, (.if_icmp .eq 5, (3, (0, (0, 0))))), (1745, (.iconst 0, (1, (0, (0, 0))))), (1746, (.ireturn, (1, (0, (0, 0))))), (1747, (.iload 6, (2, (0, (0, 0))))), (1749, (.ifCond .ne 15, (3, (0, (0, 0))))), (1752, (.aload_n 3, (1, (0, (0, 0))))), (1753, (.iconst 0, (1, (0, (0, 0))))), (1754, (.laload, (1, (0, (0, 0))))), (1755, (.iload 7, (2, (0, (0, 0))))), (1757, (.i2l, (1, (0, (0, 0))))), (1758, (.lcmp, (1, (0, (0, 0))))), (1759, (.ifCond .eq 5, (3, (0, (0, 0))))), (1762, (.iconst 0, (1, (0, (0, 0))))), (1763, (.ireturn, (1, (0, (0, 0))))), (1764, (.goto 895, (3, (0, (0, 0))))), (1767, (.aload_n 1, (1, (0, (0, 0))))), (1768, (.aload_n 3, (1, (0, (0, 0))))), (1769, (.invokestatic 224, (3, (264, (2, 8))))), (1772, (.istore 6, (2, (0, (0, 0))))), (1774, (.aload_n 2, (1, (0, (0, 0))))), (1775, (.invokevirtual 226, (3, (206, (1, 0))))), (1778, (.istore 7, (2, (0, (0, 0))))), (1780, (.aload_n 2, (1, (0, (0, 0))))), (1781, (.invokevirtual 139, (3, (137, (1, 0))))), (1784, (.iload 6, (2, (0, (0, 0))))), (1786, (.if_icmp .eq 5, (3, (0, (0, 0))))), (1789, (.iconst 0, (1, (0, (0, 0))))), (1790, (.ireturn, (1, (0, (0, 0))))), (1791, (.iload 6, (2, (0, (0, 0)))))],
  [(1793, (.ifCond .ne 15, (3, (0, (0, 0))))), (1796, (.aload_n 3, (1, (0, (0, 0))))), (1797, (.iconst 0, (1, (0, (0, 0))))), (1798, (.laload, (1, (0, (0, 0))))), (1799, (.iload 7, (2, (0, (0, 0))))), (1801, (.i2l, (1, (0, (0, 0))))), (1802, (.lcmp, (1, (0, (0, 0))))), (1803, (.ifCond .eq 5, (3, (0, (0, 0))))), (1806, (.iconst 0, (1, (0, (0, 0))))), (1807, (.ireturn, (1, (0, (0, 0))))), (1808, (.goto 851, (3, (0, (0, 0))))), (1811, (.aload_n 1, (1, (0, (0, 0))))), (1812, (.aload_n 3, (1, (0, (0, 0))))), (1813, (.invokestatic 227, (3, (265, (2, 8))))), (1816, (.istore 6, (2, (0, (0, 0))))), (1818, (.aload_n 2, (1, (0, (0, 0))))), (1819, (.invokevirtual 229, (3, (207, (1, 0))))), (1822, (.istore 7, (2, (0, (0, 0))))), (1824, (.aload_n 2, (1, (0, (0, 0))))), (1825, (.invokevirtual 139, (3, (137, (1, 0))))), (1828, (.iload 6, (2, (0, (0, 0))))), (1830, (.if_icmp .eq 5, (3, (0, (0, 0))))), (1833, (.iconst 0, (1, (0, (0, 0))))), (1834, (.ireturn, (1, (0, (0, 0))))), (1835, (.iload 6, (2, (0, (0, 0))))), (1837, (.ifCond .ne 15, (3, (0, (0, 0))))), (1840, (.aload_n 3, (1, (0, (0, 0))))), (1841, (.iconst 0, (1, (0, (0, 0))))), (1842, (.laload, (1, (0, (0, 0))))), (1843, (.iload 7, (2, (0, (0, 0))))), (1845, (.i2l, (1, (0, (0, 0))))), (1846, (.lcmp, (1, (0, (0, 0))))), (1847, (.ifCond .eq 5, (3, (0, (0, 0))))), (1850, (.iconst 0, (1, (0, (0, 0))))), (1851, (.ireturn, (1, (0, (0, 0))))), (1852, (.goto 807, (3, (0, (0, 0))))), (1855, (.aload_n 1, (1, (0, (0, 0)))))],
  [(1856, (.aload_n 0, (1, (0, (0, 0))))), (1857, (.iload 5, (2, (0, (0, 0))))), (1859, (.iconst 1, (1, (0, (0, 0))))), (1860, (.iadd, (1, (0, (0, 0))))), (1861, (.iaload, (1, (0, (0, 0))))), (1862, (.aload_n 0, (1, (0, (0, 0))))), (1863, (.iload 5, (2, (0, (0, 0))))), (1865, (.iconst 2, (1, (0, (0, 0))))), (1866, (.iadd, (1, (0, (0, 0))))), (1867, (.iaload, (1, (0, (0, 0))))), (1868, (.aload_n 3, (1, (0, (0, 0))))), (1869, (.invokestatic 230, (3, (266, (4, 8))))), (1872, (.istore 6, (2, (0, (0, 0))))), (1874, (.aload_n 2, (1, (0, (0, 0))))), (1875, (.aload_n 0, (1, (0, (0, 0))))), (1876, (.iload 5, (2, (0, (0, 0))))), (1878, (.iconst 1, (1, (0, (0, 0))))), (1879, (.iadd, (1, (0, (0, 0))))), (1880, (.iaload, (1, (0, (0, 0))))), (1881, (.aload_n 0, (1, (0, (0, 0))))), (1882, (.iload 5, (2, (0, (0, 0))))), (1884, (.iconst 2, (1, (0, (0, 0))))), (1885, (.iadd, (1, (0, (0, 0))))), (1886, (.iaload, (1, (0, (0, 0))))), (1887, (.invokevirtual 232, (3, (208, (3, 0))))), (1890, (.istore 7, (2, (0, (0, 0))))), (1892, (.aload_n 2, (1, (0, (0, 0))))), (1893, (.invokevirtual 139, (3, (137, (1, 0))))), (1896, (.iload 6, (2, (0, (0, 0))))), (1898, (.if_icmp .eq 5, (3, (0, (0, 0))))), (1901, (.iconst 0, (1, (0, (0, 0))))), (1902, (.ireturn, (1, (0, (0, 0))))), (1903, (.iload 6, (2, (0, (0, 0))))), (1905, (.ifCond .ne 15, (3, (0, (0, 0))))), (1908, (.aload_n 3, (1, (0, (0, 0))))), (1909, (.iconst 0, (1, (0, (0, 0))))), (1910, (.laload, (1, (0, (0, 0))))), (1911, (.iload 7, (2, (0, (0, 0))))), (1913, (.i2l, (1, (0, (0, 0))))), (1914, (.lcmp, (1, (0, (0, 0))))), (1915, (.ifCond .eq 5, (3, (0, (0, 0))))), (1918, (.iconst 0, (1, (0, (0, 0))))), (1919, (.ireturn, (1, (0, (0, 0)))))],
  [(1920, (.goto 739, (3, (0, (0, 0))))), (1923, (.aload_n 1, (1, (0, (0, 0))))), (1924, (.aload_n 0, (1, (0, (0, 0))))), (1925, (.iload 5, (2, (0, (0, 0))))), (1927, (.iconst 1, (1, (0, (0, 0))))), (1928, (.iadd, (1, (0, (0, 0))))), (1929, (.iaload, (1, (0, (0, 0))))), (1930, (.aload_n 0, (1, (0, (0, 0))))), (1931, (.iload 5, (2, (0, (0, 0))))), (1933, (.iconst 2, (1, (0, (0, 0))))), (1934, (.iadd, (1, (0, (0, 0))))), (1935, (.iaload, (1, (0, (0, 0))))), (1936, (.aload_n 3, (1, (0, (0, 0))))), (1937, (.invokestatic 233, (3, (267, (4, 8))))), (1940, (.istore 6, (2, (0, (0, 0))))), (1942, (.aload_n 2, (1, (0, (0, 0))))), (1943, (.aload_n 0, (1, (0, (0, 0))))), (1944, (.iload 5, (2, (0, (0, 0))))), (1946, (.iconst 1, (1, (0, (0, 0))))), (1947, (.iadd, (1, (0, (0, 0))))), (1948, (.iaload, (1, (0, (0, 0))))), (1949, (.aload_n 0, (1, (0, (0, 0))))), (1950, (.iload 5, (2, (0, (0, 0))))), (1952, (.iconst 2, (1, (0, (0, 0))))), (1953, (.iadd, (1, (0, (0, 0))))), (1954, (.iaload, (1, (0, (0, 0))))), (1955, (.invokevirtual 235, (3, (209, (3, 0))))), (1958, (.istore 7, (2, (0, (0, 0))))), (1960, (.aload_n 2, (1, (0, (0, 0))))), (1961, (.invokevirtual 139, (3, (137, (1, 0))))), (1964, (.iload 6, (2, (0, (0, 0))))), (1966, (.if_icmp .eq 5, (3, (0, (0, 0))))), (1969, (.iconst 0, (1, (0, (0, 0))))), (1970, (.ireturn, (1, (0, (0, 0))))), (1971, (.iload 6, (2, (0, (0, 0))))), (1973, (.ifCond .ne 15, (3, (0, (0, 0))))), (1976, (.aload_n 3, (1, (0, (0, 0))))), (1977, (.iconst 0, (1, (0, (0, 0))))), (1978, (.laload, (1, (0, (0, 0))))), (1979, (.iload 7, (2, (0, (0, 0))))), (1981, (.i2l, (1, (0, (0, 0))))), (1982, (.lcmp, (1, (0, (0, 0))))), (1983, (.ifCond .eq 5, (3, (0, (0, 0)))))],
  [(1986, (.iconst 0, (1, (0, (0, 0))))), (1987, (.ireturn, (1, (0, (0, 0))))), (1988, (.goto 671, (3, (0, (0, 0))))), (1991, (.aload_n 1, (1, (0, (0, 0))))), (1992, (.invokevirtual 236, (3, (104, (1, 0))))), (1995, (.aload_n 2, (1, (0, (0, 0))))), (1996, (.invokevirtual 239, (3, (213, (1, 0))))), (1999, (.if_icmp .eq 660, (3, (0, (0, 0))))), (2002, (.iconst 0, (1, (0, (0, 0))))), (2003, (.ireturn, (1, (0, (0, 0))))), (2004, (.aload_n 1, (1, (0, (0, 0))))), (2005, (.invokevirtual 240, (3, (105, (1, 0))))), (2008, (.aload_n 2, (1, (0, (0, 0))))), (2009, (.invokevirtual 243, (3, (214, (1, 0))))), (2012, (.if_icmp .eq 647, (3, (0, (0, 0))))), (2015, (.iconst 0, (1, (0, (0, 0))))), (2016, (.ireturn, (1, (0, (0, 0))))), (2017, (.aload_n 1, (1, (0, (0, 0))))), (2018, (.invokevirtual 244, (3, (106, (1, 0))))), (2021, (.aload_n 2, (1, (0, (0, 0))))), (2022, (.invokevirtual 247, (3, (216, (1, 0))))), (2025, (.if_icmp .eq 634, (3, (0, (0, 0))))), (2028, (.iconst 0, (1, (0, (0, 0))))), (2029, (.ireturn, (1, (0, (0, 0))))), (2030, (.aload_n 1, (1, (0, (0, 0))))), (2031, (.aload_n 0, (1, (0, (0, 0))))), (2032, (.iload 5, (2, (0, (0, 0))))), (2034, (.iconst 1, (1, (0, (0, 0))))), (2035, (.iadd, (1, (0, (0, 0))))), (2036, (.iaload, (1, (0, (0, 0))))), (2037, (.aload_n 3, (1, (0, (0, 0))))), (2038, (.invokestatic 248, (3, (268, (3, 8))))), (2041, (.istore 6, (2, (0, (0, 0))))), (2043, (.aload_n 2, (1, (0, (0, 0))))), (2044, (.aload_n 0, (1, (0, (0, 0))))), (2045, (.iload 5, (2, (0, (0, 0))))), (2047, (.iconst 1, (1, (0, (0, 0)))))],
  [(2048, (.iadd, (1, (0, (0, 0))))), (2049, (.iaload, (1, (0, (0, 0))))), (2050, (.invokevirtual 250, (3, (217, (2, 0))))), (2053, (.istore 7, (2, (0, (0, 0))))), (2055, (.aload_n 2, (1, (0, (0, 0))))), (2056, (.invokevirtual 139, (3, (137, (1, 0))))), (2059, (.iload 6, (2, (0, (0, 0))))), (2061, (.if_icmp .eq 5, (3, (0, (0, 0))))), (2064, (.iconst 0, (1, (0, (0, 0))))), (2065, (.ireturn, (1, (0, (0, 0))))), (2066, (.iload 6, (2, (0, (0, 0))))), (2068, (.ifCond .ne 22, (3, (0, (0, 0))))), (2071, (.aload_n 3, (1, (0, (0, 0))))), (2072, (.iconst 0, (1, (0, (0, 0))))), (2073, (.laload, (1, (0, (0, 0))))), (2074, (.iload 7, (2, (0, (0, 0))))), (2076, (.ifCond .eq 7, (3, (0, (0, 0))))), (2079, (.lconst 1, (1, (0, (0, 0))))), (2080, (.goto 4, (3, (0, (0, 0))))), (2083, (.lconst 0, (1, (0, (0, 0))))), (2084, (.lcmp, (1, (0, (0, 0))))), (2085, (.ifCond .eq 5, (3, (0, (0, 0))))), (2088, (.iconst 0, (1, (0, (0, 0))))), (2089, (.ireturn, (1, (0, (0, 0))))), (2090, (.goto 569, (3, (0, (0, 0))))), (2093, (.aload_n 1, (1, (0, (0, 0))))), (2094, (.invokevirtual 251, (3, (108, (1, 0))))), (2097, (.aload_n 2, (1, (0, (0, 0))))), (2098, (.invokevirtual 254, (3, (218, (1, 0))))), (2101, (.if_icmp .eq 558, (3, (0, (0, 0))))), (2104, (.iconst 0, (1, (0, (0, 0))))), (2105, (.ireturn, (1, (0, (0, 0))))), (2106, (.aload_n 1, (1, (0, (0, 0))))), (2107, (.aload_n 0, (1, (0, (0, 0))))), (2108, (.iload 5, (2, (0, (0, 0))))), (2110, (.iconst 1, (1, (0, (0, 0))))), (2111, (.iadd, (1, (0, (0, 0)))))],
  [(2112, (.iaload, (1, (0, (0, 0))))), (2113, (.aload_n 3, (1, (0, (0, 0))))), (2114, (.invokestatic 255, (3, (269, (3, 8))))), (2117, (.istore 6, (2, (0, (0, 0))))), (2119, (.aload_n 2, (1, (0, (0, 0))))), (2120, (.aload_n 0, (1, (0, (0, 0))))), (2121, (.iload 5, (2, (0, (0, 0))))), (2123, (.iconst 1, (1, (0, (0, 0))))), (2124, (.iadd, (1, (0, (0, 0))))), (2125, (.iaload, (1, (0, (0, 0))))), (2126, (.invokevirtual 257, (3, (219, (2, 0))))), (2129, (.istore 7, (2, (0, (0, 0))))), (2131, (.aload_n 2, (1, (0, (0, 0))))), (2132, (.invokevirtual 139, (3, (137, (1, 0))))), (2135, (.iload 6, (2, (0, (0, 0))))), (2137, (.if_icmp .eq 5, (3, (0, (0, 0))))), (2140, (.iconst 0, (1, (0, (0, 0))))), (2141, (.ireturn, (1, (0, (0, 0))))), (2142, (.iload 6, (2, (0, (0, 0))))), (2144, (.ifCond .ne 15, (3, (0, (0, 0))))), (2147, (.aload_n 3, (1, (0, (0, 0))))), (2148, (.iconst 0, (1, (0, (0, 0))))), (2149, (.laload, (1, (0, (0, 0))))), (2150, (.iload 7, (2, (0, (0, 0))))), (2152, (.i2l, (1, (0, (0, 0))))), (2153, (.lcmp, (1, (0, (0, 0))))), (2154, (.ifCond .eq 5, (3, (0, (0, 0))))), (2157, (.iconst 0, (1, (0, (0, 0))))), (2158, (.ireturn, (1, (0, (0, 0))))), (2159, (.goto 500, (3, (0, (0, 0))))), (2162, (.aload_n 1, (1, (0, (0, 0))))), (2163, (.invokevirtual 258, (3, (110, (1, 0))))), (2166, (.aload_n 2, (1, (0, (0, 0))))), (2167, (.invokevirtual 261, (3, (223, (1, 0))))), (2170, (.if_icmp .eq 489, (3, (0, (0, 0))))), (2173, (.iconst 0, (1, (0, (0, 0))))), (2174, (.ireturn, (1, (0, (0, 0))))), (2175, (.aload_n 1, (1, (0, (0, 0)))))],
  [(2176, (.aload_n 0, (1, (0, (0, 0))))), (2177, (.iload 5, (2, (0, (0, 0))))), (2179, (.iconst 1, (1, (0, (0, 0))))), (2180, (.iadd, (1, (0, (0, 0))))), (2181, (.iaload, (1, (0, (0, 0))))), (2182, (.aload_n 3, (1, (0, (0, 0))))), (2183, (.invokestatic 262, (3, (270, (3, 8))))), (2186, (.istore 6, (2, (0, (0, 0))))), (2188, (.aload_n 2, (1, (0, (0, 0))))), (2189, (.aload_n 0, (1, (0, (0, 0))))), (2190, (.iload 5, (2, (0, (0, 0))))), (2192, (.iconst 1, (1, (0, (0, 0))))), (2193, (.iadd, (1, (0, (0, 0))))), (2194, (.iaload, (1, (0, (0, 0))))), (2195, (.invokevirtual 264, (3, (224, (2, 0))))), (2198, (.istore 7, (2, (0, (0, 0))))), (2200, (.aload_n 2, (1, (0, (0, 0))))), (2201, (.invokevirtual 139, (3, (137, (1, 0))))), (2204, (.iload 6, (2, (0, (0, 0))))), (2206, (.if_icmp .eq 5, (3, (0, (0, 0))))), (2209, (.iconst 0, (1, (0, (0, 0))))), (2210, (.ireturn, (1, (0, (0, 0))))), (2211, (.iload 6, (2, (0, (0, 0))))), (2213, (.ifCond .ne 15, (3, (0, (0, 0))))), (2216, (.aload_n 3, (1, (0, (0, 0))))), (2217, (.iconst 0, (1, (0, (0, 0))))), (2218, (.laload, (1, (0, (0, 0))))), (2219, (.iload 7, (2, (0, (0, 0))))), (2221, (.i2l, (1, (0, (0, 0))))), (2222, (.lcmp, (1, (0, (0, 0))))), (2223, (.ifCond .eq 5, (3, (0, (0, 0))))), (2226, (.iconst 0, (1, (0, (0, 0))))), (2227, (.ireturn, (1, (0, (0, 0))))), (2228, (.goto 431, (3, (0, (0, 0))))), (2231, (.aload_n 1, (1, (0, (0, 0))))), (2232, (.aload_n 0, (1, (0, (0, 0))))), (2233, (.iload 5, (2, (0, (0, 0))))), (2235, (.iconst 1, (1, (0, (0, 0))))), (2236, (.iadd, (1, (0, (0, 0))))), (2237, (.iaload, (1, (0, (0, 0))))), (2238, (.aload_n 3, (1, (0, (0, 0))))), (2239, (.invokestatic 265, (3, (271, (3, 8)))))],
  [(2242, (.istore 6, (2, (0, (0, 0))))), (2244, (.aload_n 2, (1, (0, (0, 0))))), (2245, (.aload_n 0, (1, (0, (0, 0))))), (2246, (.iload 5, (2, (0, (0, 0))))), (2248, (.iconst 1, (1, (0, (0, 0))))), (2249, (.iadd, (1, (0, (0, 0))))), (2250, (.iaload, (1, (0, (0, 0))))), (2251, (.invokevirtual 267, (3, (227, (2, 0))))), (2254, (.istore 7, (2, (0, (0, 0))))), (2256, (.aload_n 2, (1, (0, (0, 0))))), (2257, (.invokevirtual 139, (3, (137, (1, 0))))), (2260, (.iload 6, (2, (0, (0, 0))))), (2262, (.if_icmp .eq 5, (3, (0, (0, 0))))), (2265, (.iconst 0, (1, (0, (0, 0))))), (2266, (.ireturn, (1, (0, (0, 0))))), (2267, (.iload 6, (2, (0, (0, 0))))), (2269, (.ifCond .ne 15, (3, (0, (0, 0))))), (2272, (.aload_n 3, (1, (0, (0, 0))))), (2273, (.iconst 0, (1, (0, (0, 0))))), (2274, (.laload, (1, (0, (0, 0))))), (2275, (.iload 7, (2, (0, (0, 0))))), (2277, (.i2l, (1, (0, (0, 0))))), (2278, (.lcmp, (1, (0, (0, 0))))), (2279, (.ifCond .eq 5, (3, (0, (0, 0))))), (2282, (.iconst 0, (1, (0, (0, 0))))), (2283, (.ireturn, (1, (0, (0, 0))))), (2284, (.goto 375, (3, (0, (0, 0))))), (2287, (.aload_n 1, (1, (0, (0, 0))))), (2288, (.aload_n 0, (1, (0, (0, 0))))), (2289, (.iload 5, (2, (0, (0, 0))))), (2291, (.iconst 1, (1, (0, (0, 0))))), (2292, (.iadd, (1, (0, (0, 0))))), (2293, (.iaload, (1, (0, (0, 0))))), (2294, (.aload_n 0, (1, (0, (0, 0))))), (2295, (.iload 5, (2, (0, (0, 0))))), (2297, (.iconst 2, (1, (0, (0, 0))))), (2298, (.iadd, (1, (0, (0, 0))))), (2299, (.iaload, (1, (0, (0, 0))))), (2300, (.aload_n 3, (1, (0, (0, 0))))), (2301, (.invokestatic 268, (3, (272, (4, 8)))))],
  [(2304, (.istore 6, (2, (0, (0, 0))))), (2306, (.aload_n 2, (1, (0, (0, 0))))), (2307, (.aload_n 0, (1, (0, (0, 0))))), (2308, (.iload 5, (2, (0, (0, 0))))), (2310, (.iconst 1, (1, (0, (0, 0))))), (2311, (.iadd, (1, (0, (0, 0))))), (2312, (.iaload, (1, (0, (0, 0))))), (2313, (.aload_n 0, (1, (0, (0, 0))))), (2314, (.iload 5, (2, (0, (0, 0))))), (2316, (.iconst 2, (1, (0, (0, 0))))), (2317, (.iadd, (1, (0, (0, 0))))), (2318, (.iaload, (1, (0, (0, 0))))), (2319, (.invokevirtual 270, (3, (228, (3, 0))))), (2322, (.istore 7, (2, (0, (0, 0))))), (2324, (.aload_n 2, (1, (0, (0, 0))))), (2325, (.invokevirtual 139, (3, (137, (1, 0))))), (2328, (.iload 6, (2, (0, (0, 0))))), (2330, (.if_icmp .eq 5, (3, (0, (0, 0))))), (2333, (.iconst 0, (1, (0, (0, 0))))), (2334, (.ireturn, (1, (0, (0, 0))))), (2335, (.iload 6, (2, (0, (0, 0))))), (2337, (.ifCond .ne 15, (3, (0, (0, 0))))), (2340, (.aload_n 3, (1, (0, (0, 0))))), (2341, (.iconst 0, (1, (0, (0, 0))))), (2342, (.laload, (1, (0, (0, 0))))), (2343, (.iload 7, (2, (0, (0, 0))))), (2345, (.i2l, (1, (0, (0, 0))))), (2346, (.lcmp, (1, (0, (0, 0))))), (2347, (.ifCond .eq 5, (3, (0, (0, 0))))), (2350, (.iconst 0, (1, (0, (0, 0))))), (2351, (.ireturn, (1, (0, (0, 0))))), (2352, (.goto 307, (3, (0, (0, 0))))), (2355, (.aload_n 1, (1, (0, (0, 0))))), (2356, (.aload_n 0, (1, (0, (0, 0))))), (2357, (.iload 5, (2, (0, (0, 0))))), (2359, (.iconst 1, (1, (0, (0, 0))))), (2360, (.iadd, (1, (0, (0, 0))))), (2361, (.iaload, (1, (0, (0, 0))))), (2362, (.aload_n 0, (1, (0, (0, 0))))), (2363, (.iload 5, (2, (0, (0, 0))))), (2365, (.iconst 2, (1, (0, (0, 0))))), (2366, (.iadd, (1, (0, (0, 0))))), (2367, (.iaload, (1, (0, (0, 0)))))],
  [(2368, (.aload_n 0, (1, (0, (0, 0))))), (2369, (.iload 5, (2, (0, (0, 0))))), (2371, (.iconst 3, (1, (0, (0, 0))))), (2372, (.iadd, (1, (0, (0, 0))))), (2373, (.iaload, (1, (0, (0, 0))))), (2374, (.aload_n 3, (1, (0, (0, 0))))), (2375, (.invokestatic 271, (3, (273, (5, 8))))), (2378, (.istore 6, (2, (0, (0, 0))))), (2380, (.aload_n 2, (1, (0, (0, 0))))), (2381, (.aload_n 0, (1, (0, (0, 0))))), (2382, (.iload 5, (2, (0, (0, 0))))), (2384, (.iconst 1, (1, (0, (0, 0))))), (2385, (.iadd, (1, (0, (0, 0))))), (2386, (.iaload, (1, (0, (0, 0))))), (2387, (.aload_n 0, (1, (0, (0, 0))))), (2388, (.iload 5, (2, (0, (0, 0))))), (2390, (.iconst 2, (1, (0, (0, 0))))), (2391, (.iadd, (1, (0, (0, 0))))), (2392, (.iaload, (1, (0, (0, 0))))), (2393, (.aload_n 0, (1, (0, (0, 0))))), (2394, (.iload 5, (2, (0, (0, 0))))), (2396, (.iconst 3, (1, (0, (0, 0))))), (2397, (.iadd, (1, (0, (0, 0))))), (2398, (.iaload, (1, (0, (0, 0))))), (2399, (.invokevirtual 273, (3, (230, (4, 0))))), (2402, (.istore 7, (2, (0, (0, 0))))), (2404, (.aload_n 2, (1, (0, (0, 0))))), (2405, (.invokevirtual 139, (3, (137, (1, 0))))), (2408, (.iload 6, (2, (0, (0, 0))))), (2410, (.if_icmp .eq 5, (3, (0, (0, 0))))), (2413, (.iconst 0, (1, (0, (0, 0))))), (2414, (.ireturn, (1, (0, (0, 0))))), (2415, (.iload 6, (2, (0, (0, 0))))), (2417, (.ifCond .ne 15, (3, (0, (0, 0))))), (2420, (.aload_n 3, (1, (0, (0, 0))))), (2421, (.iconst 0, (1, (0, (0, 0))))), (2422, (.laload, (1, (0, (0, 0))))), (2423, (.iload 7, (2, (0, (0, 0))))), (2425, (.i2l, (1, (0, (0, 0))))), (2426, (.lcmp, (1, (0, (0, 0))))), (2427, (.ifCond .eq 5, (3, (0, (0, 0))))), (2430, (.iconst 0, (1, (0, (0, 0))))), (2431, (.ireturn, (1, (0, (0, 0)))))],
  [(2432, (.goto 227, (3, (0, (0, 0))))), (2435, (.aload_n 1, (1, (0, (0, 0))))), (2436, (.aload_n 0, (1, (0, (0, 0))))), (2437, (.iload 5, (2, (0, (0, 0))))), (2439, (.iconst 1, (1, (0, (0, 0))))), (2440, (.iadd, (1, (0, (0, 0))))), (2441, (.iaload, (1, (0, (0, 0))))), (2442, (.aload_n 0, (1, (0, (0, 0))))), (2443, (.iload 5, (2, (0, (0, 0))))), (2445, (.iconst 2, (1, (0, (0, 0))))), (2446, (.iadd, (1, (0, (0, 0))))), (2447, (.iaload, (1, (0, (0, 0))))), (2448, (.aload_n 3, (1, (0, (0, 0))))), (2449, (.invokestatic 274, (3, (274, (4, 8))))), (2452, (.istore 6, (2, (0, (0, 0))))), (2454, (.aload_n 2, (1, (0, (0, 0))))), (2455, (.aload_n 0, (1, (0, (0, 0))))), (2456, (.iload 5, (2, (0, (0, 0))))), (2458, (.iconst 1, (1, (0, (0, 0))))), (2459, (.iadd, (1, (0, (0, 0))))), (2460, (.iaload, (1, (0, (0, 0))))), (2461, (.aload_n 0, (1, (0, (0, 0))))), (2462, (.iload 5, (2, (0, (0, 0))))), (2464, (.iconst 2, (1, (0, (0, 0))))), (2465, (.iadd, (1, (0, (0, 0))))), (2466, (.iaload, (1, (0, (0, 0))))), (2467, (.invokevirtual 276, (3, (231, (3, 0))))), (2470, (.istore 7, (2, (0, (0, 0))))), (2472, (.aload_n 2, (1, (0, (0, 0))))), (2473, (.invokevirtual 139, (3, (137, (1, 0))))), (2476, (.iload 6, (2, (0, (0, 0))))), (2478, (.if_icmp .eq 5, (3, (0, (0, 0))))), (2481, (.iconst 0, (1, (0, (0, 0))))), (2482, (.ireturn, (1, (0, (0, 0))))), (2483, (.iload 6, (2, (0, (0, 0))))), (2485, (.ifCond .ne 15, (3, (0, (0, 0))))), (2488, (.aload_n 3, (1, (0, (0, 0))))), (2489, (.iconst 0, (1, (0, (0, 0))))), (2490, (.laload, (1, (0, (0, 0))))), (2491, (.iload 7, (2, (0, (0, 0))))), (2493, (.i2l, (1, (0, (0, 0))))), (2494, (.lcmp, (1, (0, (0, 0))))), (2495, (.ifCond .eq 5, (3, (0, (0, 0)))))],
  [(2498, (.iconst 0, (1, (0, (0, 0))))), (2499, (.ireturn, (1, (0, (0, 0))))), (2500, (.goto 159, (3, (0, (0, 0))))), (2503, (.aload_n 1, (1, (0, (0, 0))))), (2504, (.aload 4, (2, (0, (0, 0))))), (2506, (.invokestatic 277, (3, (275, (2, 8))))), (2509, (.istore 6, (2, (0, (0, 0))))), (2511, (.aload_n 2, (1, (0, (0, 0))))), (2512, (.invokevirtual 280, (3, (232, (1, 0))))), (2515, (.dstore 7, (2, (0, (0, 0))))), (2517, (.aload_n 2, (1, (0, (0, 0))))), (2518, (.invokevirtual 139, (3, (137, (1, 0))))), (2521, (.iload 6, (2, (0, (0, 0))))), (2523, (.if_icmp .eq 5, (3, (0, (0, 0))))), (2526, (.iconst 0, (1, (0, (0, 0))))), (2527, (.ireturn, (1, (0, (0, 0))))), (2528, (.iload 6, (2, (0, (0, 0))))), (2530, (.ifCond .ne 35, (3, (0, (0, 0))))), (2533, (.aload 4, (2, (0, (0, 0))))), (2535, (.iconst 0, (1, (0, (0, 0))))), (2536, (.daload, (1, (0, (0, 0))))), (2537, (.dload 7, (2, (0, (0, 0))))), (2539, (.dcmp .l, (1, (0, (0, 0))))), (2540, (.ifCond .eq 25, (3, (0, (0, 0))))), (2543, (.aload 4, (2, (0, (0, 0))))), (2545, (.iconst 0, (1, (0, (0, 0))))), (2546, (.daload, (1, (0, (0, 0))))), (2547, (.aload 4, (2, (0, (0, 0))))), (2549, (.iconst 0, (1, (0, (0, 0))))), (2550, (.daload, (1, (0, (0, 0))))), (2551, (.dcmp .l, (1, (0, (0, 0))))), (2552, (.ifCond .eq 11, (3, (0, (0, 0))))), (2555, (.dload 7, (2, (0, (0, 0))))), (2557, (.dload 7, (2, (0, (0, 0))))), (2559, (.dcmp .l, (1, (0, (0, 0)))))],
  [(2560, (.ifCond .ne 5, (3, (0, (0, 0))))), (2563, (.iconst 0, (1, (0, (0, 0))))), (2564, (.ireturn, (1, (0, (0, 0))))), (2565, (.goto 94, (3, (0, (0, 0))))), (2568, (.aload_n 1, (1, (0, (0, 0))))), (2569, (.aload_n 0, (1, (0, (0, 0))))), (2570, (.iload 5, (2, (0, (0, 0))))), (2572, (.iconst 1, (1, (0, (0, 0))))), (2573, (.iadd, (1, (0, (0, 0))))), (2574, (.iaload, (1, (0, (0, 0))))), (2575, (.aload 4, (2, (0, (0, 0))))), (2577, (.invokestatic 281, (3, (276, (3, 8))))), (2580, (.istore 6, (2, (0, (0, 0))))), (2582, (.aload_n 2, (1, (0, (0, 0))))), (2583, (.aload_n 0, (1, (0, (0, 0))))), (2584, (.iload 5, (2, (0, (0, 0))))), (2586, (.iconst 1, (1, (0, (0, 0))))), (2587, (.iadd, (1, (0, (0, 0))))), (2588, (.iaload, (1, (0, (0, 0))))), (2589, (.invokevirtual 284, (3, (233, (2, 0))))), (2592, (.fstore 7, (2, (0, (0, 0))))), (2594, (.aload_n 2, (1, (0, (0, 0))))), (2595, (.invokevirtual 139, (3, (137, (1, 0))))), (2598, (.iload 6, (2, (0, (0, 0))))), (2600, (.if_icmp .eq 5, (3, (0, (0, 0))))), (2603, (.iconst 0, (1, (0, (0, 0))))), (2604, (.ireturn, (1, (0, (0, 0))))), (2605, (.iload 6, (2, (0, (0, 0))))), (2607, (.ifCond .ne 36, (3, (0, (0, 0))))), (2610, (.aload 4, (2, (0, (0, 0))))), (2612, (.iconst 0, (1, (0, (0, 0))))), (2613, (.daload, (1, (0, (0, 0))))), (2614, (.fload 7, (2, (0, (0, 0))))), (2616, (.f2d, (1, (0, (0, 0))))), (2617, (.dcmp .l, (1, (0, (0, 0))))), (2618, (.ifCond .eq 25, (3, (0, (0, 0))))), (2621, (.aload 4, (2, (0, (0, 0))))), (2623, (.iconst 0, (1, (0, (0, 0)))))],
  [(2624, (.daload, (1, (0, (0, 0))))), (2625, (.aload 4, (2, (0, (0, 0))))), (2627, (.iconst 0, (1, (0, (0, 0))))), (2628, (.daload, (1, (0, (0, 0))))), (2629, (.dcmp .l, (1, (0, (0, 0))))), (2630, (.ifCond .eq 11, (3, (0, (0, 0))))), (2633, (.fload 7, (2, (0, (0, 0))))), (2635, (.fload 7, (2, (0, (0, 0))))), (2637, (.fcmp .l, (1, (0, (0, 0))))), (2638, (.ifCond .ne 5, (3, (0, (0, 0))))), (2641, (.iconst 0, (1, (0, (0, 0))))), (2642, (.ireturn, (1, (0, (0, 0))))), (2643, (.goto 16, (3, (0, (0, 0))))), (2646, (.aload_n 1, (1, (0, (0, 0))))), (2647, (.invokevirtual 285, (3, (118, (1, 0))))), (2650, (.aload_n 2, (1, (0, (0, 0))))), (2651, (.invokevirtual 288, (3, (236, (1, 0))))), (2654, (.if_icmp .eq 5, (3, (0, (0, 0))))), (2657, (.iconst 0, (1, (0, (0, 0))))), (2658, (.ireturn, (1, (0, (0, 0))))), (2659, (.iinc 5 5, (3, (0, (0, 0))))), (2662, (.goto (-2634), (3, (0, (0, 0))))), (2665, (.iconst 1, (1, (0, (0, 0))))), (2666, (.ireturn, (1, (0, (0, 0)))))]]
abbrev mMeth : Type := List (List mI) × (Nat × (Nat × (Nat × List (Nat × (Nat × (Nat × Nat))))))
noncomputable def mProg : List mMeth := [(mc_X0_init, (3, (0, (0, [])))),
  (mc_X0_search, (3, (0, (0, [])))),
  (mc_X0_explore, (5, (0, (0, [])))),
  (mc_X1_init, (2, (0, (1, [])))),
  (mc_X1_assign, (2, (0, (1, [])))),
  (mc_X1_fillable, (4, (0, (1, [])))),
  (mc_X1_explore, (6, (0, (1, [])))),
  (mc_X2_init, (3, (0, (2, [])))),
  (mc_X2_wrongHours, (3, (0, (2, [])))),
  (mc_X2_markStep, (8, (0, (2, [])))),
  (mc_X3_init, (1, (0, (3, [])))),
  (mc_X3_clear, (1, (0, (3, [])))),
  (mc_X3_insert, (4, (0, (3, [])))),
  (mc_X4_init, (2, (0, (4, [])))),
  (mc_X4_hourOf, (10, (0, (4, [])))),
  (mc_X4_spread, (11, (0, (4, [])))),
  (mc_X5_init, (2, (0, (5, [])))),
  (mc_X5_sortByLength, (2, (0, (5, [])))),
  (mc_X5_sortByDue, (2, (0, (5, [])))),
  (mc_X5_sumOfEnds, (4, (0, (5, [])))),
  (mc_X5_greatestLateness, (6, (0, (5, [])))),
  (mc_X5_droppedJobs, (7, (0, (5, [])))),
  (mc_X5_longestOf, (6, (0, (5, [])))),
  (mc_X5_hoursOfStep, (3, (0, (5, [])))),
  (mc_X5_sortForTwo, (4, (0, (5, [])))),
  (mc_X5_endOnTwo, (4, (0, (5, [])))),
  (mc_X5_jobOnTwo, (2, (0, (5, [])))),
  (mc_X6_init, (2, (0, (6, [])))),
  (mc_X6_search, (1, (0, (6, [])))),
  (mc_X6_explore, (5, (0, (6, [])))),
  (mc_X6_hoursBehind, (3, (0, (6, [])))),
  (mc_X7_init, (1, (0, (7, [])))),
  (mc_X7_copyFrom, (2, (0, (7, [])))),
  (mc_X7_copy, (2, (0, (107, [])))),
  (mc_X7_takeRow, (2, (0, (7, [])))),
  (mc_X7_newJob, (5, (0, (7, [])))),
  (mc_X7_newStep, (5, (0, (7, [])))),
  (mc_X7_newClosure, (5, (0, (7, [])))),
  (mc_X7_canBeHalved, (3, (1, (7, [])))),
  (mc_X7_halve, (6, (0, (7, [])))),
  (mc_X7_stepTotal, (3, (0, (7, [])))),
  (mc_X7_hoursFrom, (5, (0, (7, [])))),
  (mc_X7_hoursOn, (6, (0, (7, [])))),
  (mc_X7_leastHours, (3, (0, (7, [])))),
  (mc_X7_isClosedIn, (5, (1, (7, [])))),
  (mc_X7_firstOpen, (8, (0, (7, [])))),
  (mc_X8_init, (2, (0, (8, [])))),
  (mc_X8_clear, (1, (0, (8, [])))),
  (mc_X8_hasLeft, (2, (1, (8, [])))),
  (mc_X8_endOfStep, (2, (0, (8, [])))),
  (mc_X8_nextStep, (2, (0, (8, [])))),
  (mc_X8_readyHour, (2, (0, (8, [])))),
  (mc_X8_lastOn, (2, (0, (8, [])))),
  (mc_X8_needsTool, (4, (1, (8, [])))),
  (mc_X8_hoursBetween, (4, (0, (8, [])))),
  (mc_X8_firstHour, (7, (0, (8, [])))),
  (mc_X8_put, (7, (0, (8, [])))),
  (mc_X8_takeBack, (2, (0, (8, [])))),
  (mc_X8_replay, (1, (0, (8, [])))),
  (mc_X8_putDelayed, (6, (0, (8, [])))),
  (mc_X8_putRushed, (4, (0, (8, [])))),
  (mc_X8_putBegunIn, (5, (0, (8, [])))),
  (mc_X8_putRestByRule, (4, (0, (8, [])))),
  (mc_X8_firstByRule, (6, (0, (8, [])))),
  (mc_X8_goesAhead, (6, (1, (8, [])))),
  (mc_X8_nextOf, (5, (0, (8, [])))),
  (mc_X8_hoursLeft, (2, (0, (8, [])))),
  (mc_X8_leastEndOf, (2, (0, (8, [])))),
  (mc_X8_aimed, (6, (0, (8, [])))),
  (mc_X8_hoursDone, (6, (0, (8, [])))),
  (mc_X9_init, (3, (0, (9, [])))),
  (mc_X9_trace, (5, (0, (9, [])))),
  (mc_X9_latestStep, (4, (0, (9, [])))),
  (mc_X9_stepAheadOf, (3, (0, (9, [])))),
  (mc_X10_init, (4, (0, (10, [])))),
  (mc_X10_close, (4, (0, (10, [])))),
  (mc_X10_setTool, (5, (0, (10, [])))),
  (mc_X10_setSetup, (5, (0, (10, [])))),
  (mc_X10_addJob, (6, (0, (10, [])))),
  (mc_X10_addStep, (5, (0, (10, [])))),
  (mc_X10_cut, (3, (0, (10, [])))),
  (mc_X10_plan, (2, (0, (10, [])))),
  (mc_X10_tell, (3, (0, (10, [])))),
  (mc_X10_best, (2, (0, (10, [])))),
  (mc_X10_swap, (3, (0, (10, [])))),
  (mc_X10_replan, (3, (0, (10, [])))),
  (mc_X10_rush, (2, (0, (10, [])))),
  (mc_X10_setWorker, (4, (0, (10, [])))),
  (mc_X10_undo, (2, (0, (10, [])))),
  (mc_X10_jobs, (1, (0, (10, [])))),
  (mc_X10_jobAt, (3, (0, (10, [])))),
  (mc_X10_stepAt, (5, (0, (10, [])))),
  (mc_X10_begin, (3, (0, (10, [])))),
  (mc_X10_endOf, (2, (0, (10, [])))),
  (mc_X10_value, (2, (0, (10, [])))),
  (mc_X10_bound, (1, (0, (10, [])))),
  (mc_X10_orderAt, (3, (0, (10, [])))),
  (mc_X10_doneIn, (5, (0, (10, [])))),
  (mc_X10_wayLength, (1, (0, (10, [])))),
  (mc_X10_wayAt, (2, (0, (10, [])))),
  (mc_X10_blocks, (1, (0, (10, [])))),
  (mc_X10_longestBlock, (1, (0, (10, [])))),
  (mc_X10_slack, (7, (0, (10, [])))),
  (mc_X10_delay, (3, (0, (10, [])))),
  (mc_X10_leastSum, (1, (0, (10, [])))),
  (mc_X10_leastLateness, (1, (0, (10, [])))),
  (mc_X10_fewestLate, (1, (0, (10, [])))),
  (mc_X10_isDropped, (2, (1, (10, [])))),
  (mc_X10_leastEnd, (1, (0, (10, [])))),
  (mc_X10_twoAt, (2, (0, (10, [])))),
  (mc_X10_leastSetup, (1, (0, (10, [])))),
  (mc_X10_setupAt, (2, (0, (10, [])))),
  (mc_X10_match, (2, (0, (10, [])))),
  (mc_X10_workerOf, (3, (0, (10, [])))),
  (mc_X10_promise, (4, (0, (10, [])))),
  (mc_X10_worked, (6, (0, (10, [])))),
  (mc_X10_meanEnd, (1, (0, (10, [])))),
  (mc_X10_use, (3, (0, (10, [])))),
  (mc_X10_errors, (2, (0, (10, [])))),
  (mc_X10_needMachine, (1, (0, (110, [])))),
  (mc_X10_needKind, (1, (0, (110, [])))),
  (mc_X10_needJob, (2, (0, (10, [])))),
  (mc_X10_needStep, (3, (0, (10, [])))),
  (mc_X10_needPlaceOfJob, (2, (0, (10, [])))),
  (mc_X10_needRange, (3, (0, (110, [])))),
  (mc_X10_needRule, (1, (0, (110, [])))),
  (mc_X10_needAim, (1, (0, (110, [])))),
  (mc_X10_needMachines, (1, (0, (110, [])))),
  (mc_X10_needRoomForJob, (1, (0, (10, [])))),
  (mc_X10_needPlan, (1, (0, (10, [])))),
  (mc_X10_told, (1, (0, (110, [])))),
  (mc_X10_remember, (2, (0, (10, [])))),
  (mc_X10_dropPlan, (1, (0, (10, [])))),
  (mc_X10_adoptTrial, (1, (0, (10, [])))),
  (mc_X10_putDigits, (8, (1, (10, [])))),
  (mc_X10_putSwapped, (7, (1, (10, [])))),
  (mc_X11_init, (1, (0, (11, [])))),
  (mc_X11_thrown, (1, (0, (11, [])))),
  (mc_X11_in, (3, (1, (111, [])))),
  (mc_X11_fits, (4, (1, (11, [])))),
  (mc_X11_laysJob, (5, (0, (11, [])))),
  (mc_X11_laysStep, (6, (0, (11, [])))),
  (mc_X11_of, (3, (0, (11, [])))),
  (mc_X11_machineOf, (3, (0, (11, [])))),
  (mc_X11_hoursOf, (3, (0, (11, [])))),
  (mc_X11_left, (5, (0, (11, [])))),
  (mc_X11_length, (2, (0, (11, [])))),
  (mc_X11_allSteps, (3, (0, (11, [])))),
  (mc_X11_isJob, (2, (1, (11, [])))),
  (mc_X11_isStep, (3, (1, (11, [])))),
  (mc_X11_hasPlan, (1, (1, (11, [])))),
  (mc_X11_startsPlan, (2, (0, (11, [])))),
  (mc_X11_open, (8, (0, (11, [])))),
  (mc_X11_isChanged, (4, (1, (11, [])))),
  (mc_X11_between, (4, (0, (11, [])))),
  (mc_X11_beginOf, (4, (0, (11, [])))),
  (mc_X11_does, (6, (0, (11, [])))),
  (mc_X11_worksOut, (11, (1, (11, [])))),
  (mc_X11_works, (1, (1, (11, [])))),
  (mc_X11_planEnd, (3, (0, (11, [])))),
  (mc_X11_valueOf, (5, (0, (11, [])))),
  (mc_X11_isAhead, (6, (1, (11, [])))),
  (mc_X11_goesByRule, (7, (0, (11, [])))),
  (mc_X11_puts, (3, (0, (11, [])))),
  (mc_X11_clearsOrder, (2, (0, (11, [])))),
  (mc_X11_takesOrder, (2, (0, (11, [])))),
  (mc_X11_noPlan, (2, (0, (11, [])))),
  (mc_X11_keeps, (1, (0, (11, [])))),
  (mc_X11_close, (6, (0, (11, [])))),
  (mc_X11_setTool, (6, (0, (11, [])))),
  (mc_X11_setSetup, (5, (0, (11, [])))),
  (mc_X11_addJob, (5, (0, (11, [])))),
  (mc_X11_addStep, (4, (0, (11, [])))),
  (mc_X11_cut, (7, (0, (11, [])))),
  (mc_X11_plan, (2, (0, (11, [])))),
  (mc_X11_tell, (7, (0, (11, [])))),
  (mc_X11_remembers, (4, (0, (11, [])))),
  (mc_X11_takesBack, (4, (0, (11, [])))),
  (mc_X11_nextJob, (3, (0, (11, [])))),
  (mc_X11_best, (8, (0, (11, [])))),
  (mc_X11_exchanges, (3, (0, (11, [])))),
  (mc_X11_swap, (6, (0, (11, [])))),
  (mc_X11_replan, (8, (0, (11, [])))),
  (mc_X11_laysRushed, (7, (0, (11, [])))),
  (mc_X11_rush, (2, (0, (11, [])))),
  (mc_X11_setWorker, (4, (0, (11, [])))),
  (mc_X11_undo, (1, (0, (11, [])))),
  (mc_X11_jobs, (1, (0, (11, [])))),
  (mc_X11_jobAt, (3, (0, (11, [])))),
  (mc_X11_stepAt, (4, (0, (11, [])))),
  (mc_X11_isPlanned, (1, (1, (11, [])))),
  (mc_X11_begin, (3, (0, (11, [])))),
  (mc_X11_endOf, (2, (0, (11, [])))),
  (mc_X11_value, (2, (0, (11, [])))),
  (mc_X11_bound, (3, (0, (11, [])))),
  (mc_X11_hoursOn, (5, (0, (11, [])))),
  (mc_X11_orderAt, (3, (0, (11, [])))),
  (mc_X11_doneIn, (6, (0, (11, [])))),
  (mc_X11_isDone, (4, (1, (11, [])))),
  (mc_X11_stepEnd, (3, (0, (11, [])))),
  (mc_X11_aheadOf, (6, (0, (11, [])))),
  (mc_X11_readyAt, (9, (0, (11, [])))),
  (mc_X11_laysWay, (5, (0, (11, [])))),
  (mc_X11_wayLength, (1, (0, (11, [])))),
  (mc_X11_wayAt, (2, (0, (11, [])))),
  (mc_X11_block, (7, (0, (11, [])))),
  (mc_X11_blocks, (1, (0, (11, [])))),
  (mc_X11_longestBlock, (1, (0, (11, [])))),
  (mc_X11_slack, (5, (0, (11, [])))),
  (mc_X11_delay, (5, (0, (11, [])))),
  (mc_X11_part, (3, (0, (11, [])))),
  (mc_X11_goesFirst, (8, (1, (11, [])))),
  (mc_X11_laysRow, (5, (0, (11, [])))),
  (mc_X11_leastSum, (4, (0, (11, [])))),
  (mc_X11_leastLateness, (4, (0, (11, [])))),
  (mc_X11_dropped, (7, (0, (11, [])))),
  (mc_X11_fewestLate, (4, (0, (11, [])))),
  (mc_X11_isDropped, (2, (1, (11, [])))),
  (mc_X11_leastEnd, (4, (0, (11, [])))),
  (mc_X11_twoAt, (2, (0, (11, [])))),
  (mc_X11_nextRow, (6, (1, (11, [])))),
  (mc_X11_turns, (4, (0, (11, [])))),
  (mc_X11_setup, (5, (0, (11, [])))),
  (mc_X11_leastSetup, (1, (0, (11, [])))),
  (mc_X11_setupAt, (3, (0, (11, [])))),
  (mc_X11_matches, (9, (0, (11, [])))),
  (mc_X11_workerIn, (4, (0, (111, [])))),
  (mc_X11_match, (2, (0, (11, [])))),
  (mc_X11_workerOf, (4, (0, (11, [])))),
  (mc_X11_oddsOf, (12, (0, (11, [])))),
  (mc_X11_promise, (7, (0, (11, [])))),
  (mc_X11_worked, (7, (0, (11, [])))),
  (mc_X11_meanEnd, (3, (0, (11, [])))),
  (mc_X11_use, (2, (0, (11, [])))),
  (mc_X11_isClosed, (6, (1, (11, [])))),
  (mc_X11_isWrong, (8, (1, (11, [])))),
  (mc_X11_errors, (4, (0, (11, [])))),
  (mc_J6_bitCount_0f7a4, (1, (0, (113, [])))),
  (mc_J9_max_7cf53, (2, (0, (115, [])))),
  (mc_J9_min_7cf53, (2, (0, (115, [])))),
  (mc_J7_fill_d0a16, (5, (0, (114, [])))),
  (mc_J7_fill_53178, (4, (0, (114, [])))),
  (mc_L_close, (6, (0, (112, [(0, (12, (15, 0))), (0, (12, (19, 1))), (0, (12, (23, 2)))])))),
  (mc_L_setTool, (6, (0, (112, [(0, (12, (15, 0))), (0, (12, (19, 1)))])))),
  (mc_L_setSetup, (6, (0, (112, [(0, (12, (15, 0))), (0, (12, (19, 1)))])))),
  (mc_L_addJob, (7, (0, (112, [(0, (14, (17, 0))), (0, (14, (21, 1))), (0, (14, (25, 2)))])))),
  (mc_L_addStep, (6, (0, (112, [(0, (12, (15, 0))), (0, (12, (19, 1))), (0, (12, (23, 2)))])))),
  (mc_L_cut, (4, (0, (112, [(0, (9, (12, 0))), (0, (9, (15, 2)))])))),
  (mc_L_plan, (4, (0, (112, [(0, (9, (12, 1)))])))),
  (mc_L_tell, (5, (0, (112, [(0, (9, (12, 1)))])))),
  (mc_L_best, (4, (0, (112, [(0, (9, (12, 1))), (0, (9, (15, 2)))])))),
  (mc_L_swap, (5, (0, (112, [(0, (10, (13, 0))), (0, (10, (17, 2)))])))),
  (mc_L_replan, (5, (0, (112, [(0, (10, (13, 1))), (0, (10, (17, 2)))])))),
  (mc_L_rush, (4, (0, (112, [(0, (9, (12, 0))), (0, (9, (15, 2)))])))),
  (mc_L_setWorker, (5, (0, (112, [(0, (10, (13, 0))), (0, (10, (17, 1)))])))),
  (mc_L_jobAt, (5, (0, (112, [(0, (10, (13, 0))), (0, (10, (17, 1)))])))),
  (mc_L_stepAt, (6, (0, (112, [(0, (12, (15, 0))), (0, (12, (19, 1)))])))),
  (mc_L_begin, (5, (0, (112, [(0, (10, (13, 0))), (0, (10, (17, 2)))])))),
  (mc_L_endOf, (4, (0, (112, [(0, (9, (12, 0))), (0, (9, (15, 2)))])))),
  (mc_L_value, (4, (0, (112, [(0, (9, (12, 1))), (0, (9, (15, 2)))])))),
  (mc_L_orderAt, (5, (0, (112, [(0, (10, (13, 0)))])))),
  (mc_L_doneIn, (5, (0, (112, [(0, (10, (13, 0))), (0, (10, (17, 1))), (0, (10, (21, 2)))])))),
  (mc_L_wayLength, (3, (0, (112, [(0, (8, (11, 2)))])))),
  (mc_L_wayAt, (4, (0, (112, [(0, (9, (12, 0)))])))),
  (mc_L_blocks, (3, (0, (112, [(0, (8, (11, 2)))])))),
  (mc_L_longestBlock, (3, (0, (112, [(0, (8, (11, 2)))])))),
  (mc_L_slack, (5, (0, (112, [(0, (10, (13, 0))), (0, (10, (17, 2)))])))),
  (mc_L_delay, (5, (0, (112, [(0, (10, (13, 0))), (0, (10, (17, 2)))])))),
  (mc_L_isDropped, (4, (0, (112, [(0, (16, (19, 0)))])))),
  (mc_L_twoAt, (4, (0, (112, [(0, (9, (12, 0)))])))),
  (mc_L_setupAt, (4, (0, (112, [(0, (9, (12, 0)))])))),
  (mc_L_match, (4, (0, (112, [(0, (9, (12, 1)))])))),
  (mc_L_workerOf, (5, (0, (112, [(0, (10, (13, 0))), (0, (10, (17, 1)))])))),
  (mc_L_promise, (6, (0, (112, [(0, (12, (15, 0))), (0, (12, (19, 1)))])))),
  (mc_L_worked, (5, (0, (112, [(0, (10, (13, 1))), (0, (10, (17, 2)))])))),
  (mc_L_meanEnd, (3, (0, (112, [(0, (7, (10, 2)))])))),
  (mc_L_use, (4, (0, (112, [(0, (9, (12, 0))), (0, (9, (15, 2)))])))),
  (mc_L_law, (9, (1, (112, []))))]
end
section
/-! ===== runs of the small machine ===== -/
noncomputable def mFetch (cs : List (List mI)) (pc : Nat) : Option mI := (cs.getD (pc / 64) []).find? (fun e => Nat.beq e.1 pc)
def mArgs : List mV → mL
  | [] => []
  | v :: r => match mcat v with
    | 1 => some v :: mArgs r
    | _ => some v :: none :: mArgs r
def mLoc (n : Nat) (vs : List mV) : mL := mArgs vs ++ List.replicate (n - (mArgs vs).length) none
def mCatch (hs : List (Nat × (Nat × (Nat × Nat)))) (pc E : Nat) : Option Nat :=
  (hs.find? (fun h => Nat.ble h.1 pc && Nat.blt pc h.2.1 && Nat.beq h.2.2.2 E)).map (fun h => h.2.2.1)
/-- the next state behind a call's end -/
def mBack (hs : List (Nat × (Nat × (Nat × Nat)))) (pc : Nat) (ls : mL) (rest : List mV) (x : mO × mM) : mS ⊕ (mO × mM) := match x.1 with
  | .inl none => .inl (pc + 3, (ls, (rest, x.2)))
  | .inl (some v) => .inl (pc + 3, (ls, (v :: rest, x.2)))
  | .inr E => match mCatch hs pc E with
    | some h => .inl (h, (ls, ([.inr (.inr (.inr (.retAddr 0)))], x.2)))
    | none => .inr (.inr E, x.2)
/-- calls: a method's number, how many values, which kind of call -/
def mCallI (call : Nat → List mV → mM → Option (mO × mM)) (hs : List (Nat × (Nat × (Nat × Nat)))) (y n kd : Nat) (pc : Nat) (ls : mL) (st : List mV) (M : mM) : Option (mS ⊕ (mO × mM)) := match kd with
  | 4 => match st with
    | .inr (.inr (.inl _)) :: r => bif Nat.ble r.length 4 then some (.inl (pc + 3, (ls, (r, M)))) else none
    | _ => none
  | 5 => match st with
    | .inl b :: .inl a :: r => bif Nat.ble r.length 4 then some (.inl (pc + 3, (ls, (.inl (iMax a b) :: r, M)))) else none
    | _ => none
  | 6 => match st with
    | .inl b :: .inl a :: r => bif Nat.ble r.length 4 then some (.inl (pc + 3, (ls, (.inl (iMin a b) :: r, M)))) else none
    | _ => none
  | 7 => match st with
    | .inl n :: .inl dp :: .inr (.inr (.inl a1)) :: .inl sp :: .inr (.inr (.inl a0)) :: r => match M.1[a0]?, M.1[a1]? with
      | some (.inr (0, (n0, _))), some (.inr (0, (n1, _))) => bif Nat.ble r.length 4 && decide (0 ≤ w32 sp ∧ 0 ≤ w32 dp ∧ 0 ≤ w32 n ∧ w32 sp + w32 n ≤ (n0 : Int) ∧ w32 dp + w32 n ≤ (n1 : Int)) then
          some (.inl (pc + 3, (ls, (r, (M.1, (upG M.2.1 a1 (cpyF (M.2.1 a0) (M.2.1 a1) (mIx sp) (mIx dp) (mIx n)), M.2.2)))))) else none
      | _, _ => none
    | _ => none
  | _ => bif Nat.ble n st.length && Nat.ble (st.drop n).length 4 then (match call y (st.take n).reverse M with
    | some x => bif Nat.ble kd 1 || x.1.isLeft then some (mBack hs pc ls (st.drop n) x) else none
    | none => none) else none
/-- one step: the next state, or the method's end -/
def mStep (scr : mScr) (call : Nat → List mV → mM → Option (mO × mM)) (rk : Nat) (hs : List (Nat × (Nat × (Nat × Nat)))) (e : mI) (s : mS) : Option (mS ⊕ (mO × mM)) := match e.2.1 with
  | .ireturn => match s.2.2.1 with
    | [.inl z] => bif Nat.beq rk 0 || m01 z then some (.inr (.inl (some (.inl z)), s.2.2.2)) else none
    | _ => none
  | .lreturn => match s.2.2.1 with
    | [.inr (.inl z)] => some (.inr (.inl (some (.inr (.inl z))), s.2.2.2))
    | _ => none
  | .dreturn => match s.2.2.1 with
    | [.inr (.inr (.inr (.double x)))] => some (.inr (.inl (some (.inr (.inr (.inr (.double x))))), s.2.2.2))
    | _ => none
  | .freturn => match s.2.2.1 with
    | [.inr (.inr (.inr (.float x)))] => some (.inr (.inl (some (.inr (.inr (.inr (.float x))))), s.2.2.2))
    | _ => none
  | .return_ => match s.2.2.1 with
    | [] => some (.inr (.inl none, s.2.2.2))
    | _ => none
  | .new _ => bif Nat.ble 1000 e.2.2.2.1 then bif Nat.ble s.2.2.1.length 4 then some (.inr (.inr (e.2.2.2.1 - 1000), (s.2.2.2.1, (s.2.2.2.2.1, (s.2.2.2.2.2.1 + 1, s.2.2.2.2.2.2 + 6))))) else none
    else match mFL[e.2.2.2.1]? with
      | some fl => some (.inl (e.1 + 3, (s.2.1, (.inr (.inr (.inl s.2.2.2.1.length)) :: s.2.2.1, (s.2.2.2.1 ++ [.inl (e.2.2.2.1, fl)], (upG s.2.2.2.2.1 s.2.2.2.1.length (fun _ => 0), (s.2.2.2.2.2.1 + 1, s.2.2.2.2.2.2 + fl.length)))))))
      | none => none
  | .invokevirtual _ => mCallI call hs e.2.2.2.1 e.2.2.2.2.1 e.2.2.2.2.2 e.1 s.2.1 s.2.2.1 s.2.2.2
  | .invokestatic _ => mCallI call hs e.2.2.2.1 e.2.2.2.2.1 e.2.2.2.2.2 e.1 s.2.1 s.2.2.1 s.2.2.2
  | .invokespecial _ => mCallI call hs e.2.2.2.1 e.2.2.2.2.1 e.2.2.2.2.2 e.1 s.2.1 s.2.2.1 s.2.2.2
  | ins => match mPure ins e.2.2.2.1 s.2.1 s.2.2.1 with
    | some q => some (.inl (e.1 + e.2.2.1, (q.1, (q.2, s.2.2.2))))
    | none => match mJump ins e.1 s.2.2.1 with
      | some q => some (.inl (q.1, (s.2.1, (q.2, s.2.2.2))))
      | none => match mMem scr ins e.2.2.2.1 e.2.2.2.2.1 e.2.2.2.2.2 s.2.2.1 s.2.2.2 with
        | some q => some (.inl (e.1 + e.2.2.1, (s.2.1, (q.1, q.2))))
        | none => none
noncomputable def mExec (scr : mScr) (call : Nat → List mV → mM → Option (mO × mM)) (cs : List (List mI)) (rk : Nat) (hs : List (Nat × (Nat × (Nat × Nat)))) : Nat → mS → Option (mO × mM)
  | 0, _ => none
  | k + 1, s => match mFetch cs s.1 with
    | none => none
    | some e => match mStep scr call rk hs e s with
      | none => none
      | some (.inl s') => mExec scr call cs rk hs k s'
      | some (.inr r) => some r
/-- a virtual call's receiver is of the class that the method names -/
def mRecv (o : Nat) (args : List mV) (M : mM) : Bool := match args with
  | .inr (.inr (.inl a)) :: _ => match M.1[a]? with
    | some (.inl q) => Nat.beq q.1 o
    | _ => false
  | _ => false
noncomputable def mCall (scr : mScr) (K : Nat) : Nat → Nat → List mV → mM → Option (mO × mM)
  | 0, _, _, _ => none
  | d + 1, y, args, M => match mProg[y]? with
    | none => none
    | some q => bif Nat.ble 12 q.2.2.2.1 || mRecv q.2.2.2.1 args M then (bif Nat.ble (mArgs args).length q.2.1 then
        mExec scr (mCall scr K d) q.1 q.2.2.1 q.2.2.2.2 K (0, (mLoc q.2.1 args, ([], M))) else none) else none
end
section
/-! ===== words behind the program's tables: printed by wip/whole/gen/gen_pool.py ===== -/
def TG : List Cond := lw_tbl.filter goodWord
theorem TG_t {x : Cond} (h : x ∈ tables_1) (g : goodWord x = true) : x ∈ TG := List.mem_filter.mpr ⟨List.mem_append_right _ h, g⟩
theorem TG_s {x : Cond} (h : x ∈ k2_sels lw_privs) (g : goodWord x = true) : x ∈ TG := List.mem_filter.mpr ⟨List.mem_append_left _ h, g⟩
theorem TG_good : GoodIn TG TG := fun w hw => ⟨hw, good_of_word (List.mem_filter.mp hw).2⟩
theorem TT_1 {i : Nat} {x : Cond} (h : tables_1_1[i]? = some x) : x ∈ lw_tbl := by
  refine List.mem_append_right _ ?_
  have h := List.mem_of_getElem? h
  unfold tables_1
  exact List.mem_append_left _ h
theorem TG_1 {i : Nat} {x : Cond} (h : tables_1_1[i]? = some x) (g : goodWord x = true) : x ∈ TG := by
  refine TG_t ?_ g
  have h := List.mem_of_getElem? h
  unfold tables_1
  exact List.mem_append_left _ h
theorem TT_2 {i : Nat} {x : Cond} (h : tables_1_2[i]? = some x) : x ∈ lw_tbl := by
  refine List.mem_append_right _ ?_
  have h := List.mem_of_getElem? h
  unfold tables_1
  exact List.mem_append_right _ (List.mem_append_left _ h)
theorem TG_2 {i : Nat} {x : Cond} (h : tables_1_2[i]? = some x) (g : goodWord x = true) : x ∈ TG := by
  refine TG_t ?_ g
  have h := List.mem_of_getElem? h
  unfold tables_1
  exact List.mem_append_right _ (List.mem_append_left _ h)
theorem TT_3 {i : Nat} {x : Cond} (h : tables_1_3[i]? = some x) : x ∈ lw_tbl := by
  refine List.mem_append_right _ ?_
  have h := List.mem_of_getElem? h
  unfold tables_1
  exact List.mem_append_right _ (List.mem_append_right _ (List.mem_append_left _ h))
theorem TG_3 {i : Nat} {x : Cond} (h : tables_1_3[i]? = some x) (g : goodWord x = true) : x ∈ TG := by
  refine TG_t ?_ g
  have h := List.mem_of_getElem? h
  unfold tables_1
  exact List.mem_append_right _ (List.mem_append_right _ (List.mem_append_left _ h))
theorem TT_4 {i : Nat} {x : Cond} (h : tables_1_4[i]? = some x) : x ∈ lw_tbl := by
  refine List.mem_append_right _ ?_
  have h := List.mem_of_getElem? h
  unfold tables_1
  exact List.mem_append_right _ (List.mem_append_right _ (List.mem_append_right _ (List.mem_append_left _ h)))
theorem TG_4 {i : Nat} {x : Cond} (h : tables_1_4[i]? = some x) (g : goodWord x = true) : x ∈ TG := by
  refine TG_t ?_ g
  have h := List.mem_of_getElem? h
  unfold tables_1
  exact List.mem_append_right _ (List.mem_append_right _ (List.mem_append_right _ (List.mem_append_left _ h)))
theorem TT_5 {i : Nat} {x : Cond} (h : tables_1_5[i]? = some x) : x ∈ lw_tbl := by
  refine List.mem_append_right _ ?_
  have h := List.mem_of_getElem? h
  unfold tables_1
  exact List.mem_append_right _ (List.mem_append_right _ (List.mem_append_right _ (List.mem_append_right _ (List.mem_append_left _ h))))
theorem TG_5 {i : Nat} {x : Cond} (h : tables_1_5[i]? = some x) (g : goodWord x = true) : x ∈ TG := by
  refine TG_t ?_ g
  have h := List.mem_of_getElem? h
  unfold tables_1
  exact List.mem_append_right _ (List.mem_append_right _ (List.mem_append_right _ (List.mem_append_right _ (List.mem_append_left _ h))))
theorem TT_6 {i : Nat} {x : Cond} (h : tables_1_6[i]? = some x) : x ∈ lw_tbl := by
  refine List.mem_append_right _ ?_
  have h := List.mem_of_getElem? h
  unfold tables_1
  exact List.mem_append_right _ (List.mem_append_right _ (List.mem_append_right _ (List.mem_append_right _ (List.mem_append_right _ (List.mem_append_left _ h)))))
theorem TG_6 {i : Nat} {x : Cond} (h : tables_1_6[i]? = some x) (g : goodWord x = true) : x ∈ TG := by
  refine TG_t ?_ g
  have h := List.mem_of_getElem? h
  unfold tables_1
  exact List.mem_append_right _ (List.mem_append_right _ (List.mem_append_right _ (List.mem_append_right _ (List.mem_append_right _ (List.mem_append_left _ h)))))
theorem TT_7 {i : Nat} {x : Cond} (h : tables_1_7[i]? = some x) : x ∈ lw_tbl := by
  refine List.mem_append_right _ ?_
  have h := List.mem_of_getElem? h
  unfold tables_1
  exact List.mem_append_right _ (List.mem_append_right _ (List.mem_append_right _ (List.mem_append_right _ (List.mem_append_right _ (List.mem_append_right _ (h))))))
theorem TG_7 {i : Nat} {x : Cond} (h : tables_1_7[i]? = some x) (g : goodWord x = true) : x ∈ TG := by
  refine TG_t ?_ g
  have h := List.mem_of_getElem? h
  unfold tables_1
  exact List.mem_append_right _ (List.mem_append_right _ (List.mem_append_right _ (List.mem_append_right _ (List.mem_append_right _ (List.mem_append_right _ (h))))))
def mOwn : Nat → String := fun o => (["JobWorkshop$BestRow", "JobWorkshop$Crew", "JobWorkshop$HourCheck", "JobWorkshop$KeyedJobs", "JobWorkshop$Odds", "JobWorkshop$Sequences", "JobWorkshop$SetupTour", "JobWorkshop$Shop", "JobWorkshop$Timetable", "JobWorkshop$Way", "JobWorkshop", "JobWorkshopModel", "JobWorkshopLaw", "java/lang/Integer", "java/util/Arrays", "java/lang/Math"] : List String).getD o ""
abbrev mMeta : Type := MethodName × (ByteArray × (Option FieldType × (Nat × (Bool × List (Nat × Nat × Nat × Nat)))))
noncomputable def mMetas : List mMeta := [((⟨"JobWorkshop$BestRow", "<init>", "(LJobWorkshop$Shop;LJobWorkshop$Timetable;)V"⟩ : MethodName), (prog_2_method_1_code, (none, (3, (false, []))))),
  ((⟨"JobWorkshop$BestRow", "search", "(I)V"⟩ : MethodName), (prog_2_method_2_code, (none, (2, (false, []))))),
  ((⟨"JobWorkshop$BestRow", "explore", "(II)V"⟩ : MethodName), (prog_2_method_3_code, (none, (3, (false, []))))),
  ((⟨"JobWorkshop$Crew", "<init>", "(LJobWorkshop$Shop;)V"⟩ : MethodName), (prog_3_method_1_code, (none, (2, (false, []))))),
  ((⟨"JobWorkshop$Crew", "assign", "(I)V"⟩ : MethodName), (prog_3_method_2_code, (none, (2, (false, []))))),
  ((⟨"JobWorkshop$Crew", "fillable", "(I)I"⟩ : MethodName), (prog_3_method_3_code, ((some .int), (2, (false, []))))),
  ((⟨"JobWorkshop$Crew", "explore", "(IIII)V"⟩ : MethodName), (prog_3_method_4_code, (none, (5, (false, []))))),
  ((⟨"JobWorkshop$HourCheck", "<init>", "(LJobWorkshop$Shop;LJobWorkshop$Timetable;)V"⟩ : MethodName), (prog_4_method_1_code, (none, (3, (false, []))))),
  ((⟨"JobWorkshop$HourCheck", "wrongHours", "()I"⟩ : MethodName), (prog_4_method_2_code, ((some .int), (1, (false, []))))),
  ((⟨"JobWorkshop$HourCheck", "markStep", "(II)V"⟩ : MethodName), (prog_4_method_3_code, (none, (3, (false, []))))),
  ((⟨"JobWorkshop$KeyedJobs", "<init>", "()V"⟩ : MethodName), (prog_5_method_1_code, (none, (1, (false, []))))),
  ((⟨"JobWorkshop$KeyedJobs", "clear", "()V"⟩ : MethodName), (prog_5_method_2_code, (none, (1, (false, []))))),
  ((⟨"JobWorkshop$KeyedJobs", "insert", "(II)V"⟩ : MethodName), (prog_5_method_3_code, (none, (3, (false, []))))),
  ((⟨"JobWorkshop$Odds", "<init>", "(LJobWorkshop$Shop;)V"⟩ : MethodName), (prog_6_method_1_code, (none, (2, (false, []))))),
  ((⟨"JobWorkshop$Odds", "hourOf", "(III)I"⟩ : MethodName), (prog_6_method_2_code, ((some .int), (4, (false, []))))),
  ((⟨"JobWorkshop$Odds", "spread", "(III)J"⟩ : MethodName), (prog_6_method_3_code, ((some .long), (4, (false, []))))),
  ((⟨"JobWorkshop$Sequences", "<init>", "(LJobWorkshop$Shop;)V"⟩ : MethodName), (prog_7_method_1_code, (none, (2, (false, []))))),
  ((⟨"JobWorkshop$Sequences", "sortByLength", "()V"⟩ : MethodName), (prog_7_method_2_code, (none, (1, (false, []))))),
  ((⟨"JobWorkshop$Sequences", "sortByDue", "()V"⟩ : MethodName), (prog_7_method_3_code, (none, (1, (false, []))))),
  ((⟨"JobWorkshop$Sequences", "sumOfEnds", "()I"⟩ : MethodName), (prog_7_method_4_code, ((some .int), (1, (false, []))))),
  ((⟨"JobWorkshop$Sequences", "greatestLateness", "()I"⟩ : MethodName), (prog_7_method_5_code, ((some .int), (1, (false, []))))),
  ((⟨"JobWorkshop$Sequences", "droppedJobs", "()I"⟩ : MethodName), (prog_7_method_6_code, ((some .int), (1, (false, []))))),
  ((⟨"JobWorkshop$Sequences", "longestOf", "(I)I"⟩ : MethodName), (prog_7_method_7_code, ((some .int), (2, (false, []))))),
  ((⟨"JobWorkshop$Sequences", "hoursOfStep", "(II)I"⟩ : MethodName), (prog_7_method_8_code, ((some .int), (3, (false, []))))),
  ((⟨"JobWorkshop$Sequences", "sortForTwo", "()V"⟩ : MethodName), (prog_7_method_9_code, (none, (1, (false, []))))),
  ((⟨"JobWorkshop$Sequences", "endOnTwo", "()I"⟩ : MethodName), (prog_7_method_10_code, ((some .int), (1, (false, []))))),
  ((⟨"JobWorkshop$Sequences", "jobOnTwo", "(I)I"⟩ : MethodName), (prog_7_method_11_code, ((some .int), (2, (false, []))))),
  ((⟨"JobWorkshop$SetupTour", "<init>", "(LJobWorkshop$Shop;)V"⟩ : MethodName), (prog_8_method_1_code, (none, (2, (false, []))))),
  ((⟨"JobWorkshop$SetupTour", "search", "()V"⟩ : MethodName), (prog_8_method_2_code, (none, (1, (false, []))))),
  ((⟨"JobWorkshop$SetupTour", "explore", "(III)V"⟩ : MethodName), (prog_8_method_3_code, (none, (4, (false, []))))),
  ((⟨"JobWorkshop$SetupTour", "hoursBehind", "(II)I"⟩ : MethodName), (prog_8_method_4_code, ((some .int), (3, (false, []))))),
  ((⟨"JobWorkshop$Shop", "<init>", "()V"⟩ : MethodName), (prog_9_method_1_code, (none, (1, (false, []))))),
  ((⟨"JobWorkshop$Shop", "copyFrom", "(LJobWorkshop$Shop;)V"⟩ : MethodName), (prog_9_method_2_code, (none, (2, (false, []))))),
  ((⟨"JobWorkshop$Shop", "copy", "([I[I)V"⟩ : MethodName), (prog_9_method_3_code, (none, (2, (true, []))))),
  ((⟨"JobWorkshop$Shop", "takeRow", "([I)V"⟩ : MethodName), (prog_9_method_4_code, (none, (2, (false, []))))),
  ((⟨"JobWorkshop$Shop", "newJob", "(IIII)I"⟩ : MethodName), (prog_9_method_5_code, ((some .int), (5, (false, []))))),
  ((⟨"JobWorkshop$Shop", "newStep", "(III)I"⟩ : MethodName), (prog_9_method_6_code, ((some .int), (4, (false, []))))),
  ((⟨"JobWorkshop$Shop", "newClosure", "(III)V"⟩ : MethodName), (prog_9_method_7_code, (none, (4, (false, []))))),
  ((⟨"JobWorkshop$Shop", "canBeHalved", "(I)Z"⟩ : MethodName), (prog_9_method_8_code, ((some .boolean), (2, (false, []))))),
  ((⟨"JobWorkshop$Shop", "halve", "(I)I"⟩ : MethodName), (prog_9_method_9_code, ((some .int), (2, (false, []))))),
  ((⟨"JobWorkshop$Shop", "stepTotal", "()I"⟩ : MethodName), (prog_9_method_10_code, ((some .int), (1, (false, []))))),
  ((⟨"JobWorkshop$Shop", "hoursFrom", "(II)I"⟩ : MethodName), (prog_9_method_11_code, ((some .int), (3, (false, []))))),
  ((⟨"JobWorkshop$Shop", "hoursOn", "(I)I"⟩ : MethodName), (prog_9_method_12_code, ((some .int), (2, (false, []))))),
  ((⟨"JobWorkshop$Shop", "leastHours", "()I"⟩ : MethodName), (prog_9_method_13_code, ((some .int), (1, (false, []))))),
  ((⟨"JobWorkshop$Shop", "isClosedIn", "(II)Z"⟩ : MethodName), (prog_9_method_14_code, ((some .boolean), (3, (false, []))))),
  ((⟨"JobWorkshop$Shop", "firstOpen", "(III)I"⟩ : MethodName), (prog_9_method_15_code, ((some .int), (4, (false, []))))),
  ((⟨"JobWorkshop$Timetable", "<init>", "(LJobWorkshop$Shop;)V"⟩ : MethodName), (prog_10_method_1_code, (none, (2, (false, []))))),
  ((⟨"JobWorkshop$Timetable", "clear", "()V"⟩ : MethodName), (prog_10_method_2_code, (none, (1, (false, []))))),
  ((⟨"JobWorkshop$Timetable", "hasLeft", "(I)Z"⟩ : MethodName), (prog_10_method_3_code, ((some .boolean), (2, (false, []))))),
  ((⟨"JobWorkshop$Timetable", "endOfStep", "(I)I"⟩ : MethodName), (prog_10_method_4_code, ((some .int), (2, (false, []))))),
  ((⟨"JobWorkshop$Timetable", "nextStep", "(I)I"⟩ : MethodName), (prog_10_method_5_code, ((some .int), (2, (false, []))))),
  ((⟨"JobWorkshop$Timetable", "readyHour", "(I)I"⟩ : MethodName), (prog_10_method_6_code, ((some .int), (2, (false, []))))),
  ((⟨"JobWorkshop$Timetable", "lastOn", "(I)I"⟩ : MethodName), (prog_10_method_7_code, ((some .int), (2, (false, []))))),
  ((⟨"JobWorkshop$Timetable", "needsTool", "(II)Z"⟩ : MethodName), (prog_10_method_8_code, ((some .boolean), (3, (false, []))))),
  ((⟨"JobWorkshop$Timetable", "hoursBetween", "(II)I"⟩ : MethodName), (prog_10_method_9_code, ((some .int), (3, (false, []))))),
  ((⟨"JobWorkshop$Timetable", "firstHour", "(II)I"⟩ : MethodName), (prog_10_method_10_code, ((some .int), (3, (false, []))))),
  ((⟨"JobWorkshop$Timetable", "put", "(II)V"⟩ : MethodName), (prog_10_method_11_code, (none, (3, (false, []))))),
  ((⟨"JobWorkshop$Timetable", "takeBack", "()V"⟩ : MethodName), (prog_10_method_12_code, (none, (1, (false, []))))),
  ((⟨"JobWorkshop$Timetable", "replay", "()V"⟩ : MethodName), (prog_10_method_13_code, (none, (1, (false, []))))),
  ((⟨"JobWorkshop$Timetable", "putDelayed", "(II)V"⟩ : MethodName), (prog_10_method_14_code, (none, (3, (false, []))))),
  ((⟨"JobWorkshop$Timetable", "putRushed", "(I)V"⟩ : MethodName), (prog_10_method_15_code, (none, (2, (false, []))))),
  ((⟨"JobWorkshop$Timetable", "putBegunIn", "(LJobWorkshop$Timetable;I)V"⟩ : MethodName), (prog_10_method_16_code, (none, (3, (false, []))))),
  ((⟨"JobWorkshop$Timetable", "putRestByRule", "(I)V"⟩ : MethodName), (prog_10_method_17_code, (none, (2, (false, []))))),
  ((⟨"JobWorkshop$Timetable", "firstByRule", "(I)I"⟩ : MethodName), (prog_10_method_18_code, ((some .int), (2, (false, []))))),
  ((⟨"JobWorkshop$Timetable", "goesAhead", "(III)Z"⟩ : MethodName), (prog_10_method_19_code, ((some .boolean), (4, (false, []))))),
  ((⟨"JobWorkshop$Timetable", "nextOf", "([I)I"⟩ : MethodName), (prog_10_method_20_code, ((some .int), (2, (false, []))))),
  ((⟨"JobWorkshop$Timetable", "hoursLeft", "(I)I"⟩ : MethodName), (prog_10_method_21_code, ((some .int), (2, (false, []))))),
  ((⟨"JobWorkshop$Timetable", "leastEndOf", "(I)I"⟩ : MethodName), (prog_10_method_22_code, ((some .int), (2, (false, []))))),
  ((⟨"JobWorkshop$Timetable", "aimed", "(I)I"⟩ : MethodName), (prog_10_method_23_code, ((some .int), (2, (false, []))))),
  ((⟨"JobWorkshop$Timetable", "hoursDone", "(II)I"⟩ : MethodName), (prog_10_method_24_code, ((some .int), (3, (false, []))))),
  ((⟨"JobWorkshop$Way", "<init>", "(LJobWorkshop$Shop;LJobWorkshop$Timetable;)V"⟩ : MethodName), (prog_11_method_1_code, (none, (3, (false, []))))),
  ((⟨"JobWorkshop$Way", "trace", "()V"⟩ : MethodName), (prog_11_method_2_code, (none, (1, (false, []))))),
  ((⟨"JobWorkshop$Way", "latestStep", "()I"⟩ : MethodName), (prog_11_method_3_code, ((some .int), (1, (false, []))))),
  ((⟨"JobWorkshop$Way", "stepAheadOf", "(I)I"⟩ : MethodName), (prog_11_method_4_code, ((some .int), (2, (false, []))))),
  ((⟨"JobWorkshop", "<init>", "()V"⟩ : MethodName), (prog_1_method_1_code, (none, (1, (false, []))))),
  ((⟨"JobWorkshop", "close", "(III)I"⟩ : MethodName), (prog_1_method_2_code, ((some .int), (4, (false, []))))),
  ((⟨"JobWorkshop", "setTool", "(III)I"⟩ : MethodName), (prog_1_method_3_code, ((some .int), (4, (false, []))))),
  ((⟨"JobWorkshop", "setSetup", "(III)I"⟩ : MethodName), (prog_1_method_4_code, ((some .int), (4, (false, []))))),
  ((⟨"JobWorkshop", "addJob", "(IIII)I"⟩ : MethodName), (prog_1_method_5_code, ((some .int), (5, (false, []))))),
  ((⟨"JobWorkshop", "addStep", "(III)I"⟩ : MethodName), (prog_1_method_6_code, ((some .int), (4, (false, []))))),
  ((⟨"JobWorkshop", "cut", "(I)I"⟩ : MethodName), (prog_1_method_7_code, ((some .int), (2, (false, []))))),
  ((⟨"JobWorkshop", "plan", "(I)I"⟩ : MethodName), (prog_1_method_8_code, ((some .int), (2, (false, []))))),
  ((⟨"JobWorkshop", "tell", "(J)I"⟩ : MethodName), (prog_1_method_9_code, ((some .int), (2, (false, []))))),
  ((⟨"JobWorkshop", "best", "(I)I"⟩ : MethodName), (prog_1_method_10_code, ((some .int), (2, (false, []))))),
  ((⟨"JobWorkshop", "swap", "(II)I"⟩ : MethodName), (prog_1_method_11_code, ((some .int), (3, (false, []))))),
  ((⟨"JobWorkshop", "replan", "(II)I"⟩ : MethodName), (prog_1_method_12_code, ((some .int), (3, (false, []))))),
  ((⟨"JobWorkshop", "rush", "(I)I"⟩ : MethodName), (prog_1_method_13_code, ((some .int), (2, (false, []))))),
  ((⟨"JobWorkshop", "setWorker", "(II)I"⟩ : MethodName), (prog_1_method_14_code, ((some .int), (3, (false, []))))),
  ((⟨"JobWorkshop", "undo", "()I"⟩ : MethodName), (prog_1_method_15_code, ((some .int), (1, (false, []))))),
  ((⟨"JobWorkshop", "jobs", "()I"⟩ : MethodName), (prog_1_method_16_code, ((some .int), (1, (false, []))))),
  ((⟨"JobWorkshop", "jobAt", "(II)I"⟩ : MethodName), (prog_1_method_17_code, ((some .int), (3, (false, []))))),
  ((⟨"JobWorkshop", "stepAt", "(III)I"⟩ : MethodName), (prog_1_method_18_code, ((some .int), (4, (false, []))))),
  ((⟨"JobWorkshop", "begin", "(II)I"⟩ : MethodName), (prog_1_method_19_code, ((some .int), (3, (false, []))))),
  ((⟨"JobWorkshop", "endOf", "(I)I"⟩ : MethodName), (prog_1_method_20_code, ((some .int), (2, (false, []))))),
  ((⟨"JobWorkshop", "value", "(I)I"⟩ : MethodName), (prog_1_method_21_code, ((some .int), (2, (false, []))))),
  ((⟨"JobWorkshop", "bound", "()I"⟩ : MethodName), (prog_1_method_22_code, ((some .int), (1, (false, []))))),
  ((⟨"JobWorkshop", "orderAt", "(II)I"⟩ : MethodName), (prog_1_method_23_code, ((some .int), (3, (false, []))))),
  ((⟨"JobWorkshop", "doneIn", "(II)I"⟩ : MethodName), (prog_1_method_24_code, ((some .int), (3, (false, []))))),
  ((⟨"JobWorkshop", "wayLength", "()I"⟩ : MethodName), (prog_1_method_25_code, ((some .int), (1, (false, []))))),
  ((⟨"JobWorkshop", "wayAt", "(I)I"⟩ : MethodName), (prog_1_method_26_code, ((some .int), (2, (false, []))))),
  ((⟨"JobWorkshop", "blocks", "()I"⟩ : MethodName), (prog_1_method_27_code, ((some .int), (1, (false, []))))),
  ((⟨"JobWorkshop", "longestBlock", "()I"⟩ : MethodName), (prog_1_method_28_code, ((some .int), (1, (false, []))))),
  ((⟨"JobWorkshop", "slack", "(II)I"⟩ : MethodName), (prog_1_method_29_code, ((some .int), (3, (false, []))))),
  ((⟨"JobWorkshop", "delay", "(II)I"⟩ : MethodName), (prog_1_method_30_code, ((some .int), (3, (false, []))))),
  ((⟨"JobWorkshop", "leastSum", "()I"⟩ : MethodName), (prog_1_method_31_code, ((some .int), (1, (false, []))))),
  ((⟨"JobWorkshop", "leastLateness", "()I"⟩ : MethodName), (prog_1_method_32_code, ((some .int), (1, (false, []))))),
  ((⟨"JobWorkshop", "fewestLate", "()I"⟩ : MethodName), (prog_1_method_33_code, ((some .int), (1, (false, []))))),
  ((⟨"JobWorkshop", "isDropped", "(I)Z"⟩ : MethodName), (prog_1_method_34_code, ((some .boolean), (2, (false, []))))),
  ((⟨"JobWorkshop", "leastEnd", "()I"⟩ : MethodName), (prog_1_method_35_code, ((some .int), (1, (false, []))))),
  ((⟨"JobWorkshop", "twoAt", "(I)I"⟩ : MethodName), (prog_1_method_36_code, ((some .int), (2, (false, []))))),
  ((⟨"JobWorkshop", "leastSetup", "()I"⟩ : MethodName), (prog_1_method_37_code, ((some .int), (1, (false, []))))),
  ((⟨"JobWorkshop", "setupAt", "(I)I"⟩ : MethodName), (prog_1_method_38_code, ((some .int), (2, (false, []))))),
  ((⟨"JobWorkshop", "match", "(I)I"⟩ : MethodName), (prog_1_method_39_code, ((some .int), (2, (false, []))))),
  ((⟨"JobWorkshop", "workerOf", "(II)I"⟩ : MethodName), (prog_1_method_40_code, ((some .int), (3, (false, []))))),
  ((⟨"JobWorkshop", "promise", "(III)I"⟩ : MethodName), (prog_1_method_41_code, ((some .int), (4, (false, []))))),
  ((⟨"JobWorkshop", "worked", "(II)I"⟩ : MethodName), (prog_1_method_42_code, ((some .int), (3, (false, []))))),
  ((⟨"JobWorkshop", "meanEnd", "()D"⟩ : MethodName), (prog_1_method_43_code, ((some .double), (1, (false, []))))),
  ((⟨"JobWorkshop", "use", "(I)F"⟩ : MethodName), (prog_1_method_44_code, ((some .float), (2, (false, []))))),
  ((⟨"JobWorkshop", "errors", "()I"⟩ : MethodName), (prog_1_method_45_code, ((some .int), (1, (false, []))))),
  ((⟨"JobWorkshop", "needMachine", "(I)V"⟩ : MethodName), (prog_1_method_46_code, (none, (1, (true, []))))),
  ((⟨"JobWorkshop", "needKind", "(I)V"⟩ : MethodName), (prog_1_method_47_code, (none, (1, (true, []))))),
  ((⟨"JobWorkshop", "needJob", "(I)V"⟩ : MethodName), (prog_1_method_48_code, (none, (2, (false, []))))),
  ((⟨"JobWorkshop", "needStep", "(II)V"⟩ : MethodName), (prog_1_method_49_code, (none, (3, (false, []))))),
  ((⟨"JobWorkshop", "needPlaceOfJob", "(I)V"⟩ : MethodName), (prog_1_method_50_code, (none, (2, (false, []))))),
  ((⟨"JobWorkshop", "needRange", "(III)V"⟩ : MethodName), (prog_1_method_51_code, (none, (3, (true, []))))),
  ((⟨"JobWorkshop", "needRule", "(I)V"⟩ : MethodName), (prog_1_method_52_code, (none, (1, (true, []))))),
  ((⟨"JobWorkshop", "needAim", "(I)V"⟩ : MethodName), (prog_1_method_53_code, (none, (1, (true, []))))),
  ((⟨"JobWorkshop", "needMachines", "(I)V"⟩ : MethodName), (prog_1_method_54_code, (none, (1, (true, []))))),
  ((⟨"JobWorkshop", "needRoomForJob", "()V"⟩ : MethodName), (prog_1_method_55_code, (none, (1, (false, []))))),
  ((⟨"JobWorkshop", "needPlan", "()V"⟩ : MethodName), (prog_1_method_56_code, (none, (1, (false, []))))),
  ((⟨"JobWorkshop", "told", "(I)I"⟩ : MethodName), (prog_1_method_57_code, ((some .int), (1, (true, []))))),
  ((⟨"JobWorkshop", "remember", "()V"⟩ : MethodName), (prog_1_method_58_code, (none, (1, (false, []))))),
  ((⟨"JobWorkshop", "dropPlan", "()V"⟩ : MethodName), (prog_1_method_59_code, (none, (1, (false, []))))),
  ((⟨"JobWorkshop", "adoptTrial", "()I"⟩ : MethodName), (prog_1_method_60_code, ((some .int), (1, (false, []))))),
  ((⟨"JobWorkshop", "putDigits", "(J)Z"⟩ : MethodName), (prog_1_method_61_code, ((some .boolean), (2, (false, []))))),
  ((⟨"JobWorkshop", "putSwapped", "(II)Z"⟩ : MethodName), (prog_1_method_62_code, ((some .boolean), (3, (false, []))))),
  ((⟨"JobWorkshopModel", "<init>", "()V"⟩ : MethodName), (prog_13_method_1_code, (none, (1, (false, []))))),
  ((⟨"JobWorkshopModel", "thrown", "()I"⟩ : MethodName), (prog_13_method_2_code, ((some .int), (1, (false, []))))),
  ((⟨"JobWorkshopModel", "in", "(III)Z"⟩ : MethodName), (prog_13_method_4_code, ((some .boolean), (3, (true, []))))),
  ((⟨"JobWorkshopModel", "fits", "(ZZZ)Z"⟩ : MethodName), (prog_13_method_5_code, ((some .boolean), (4, (false, []))))),
  ((⟨"JobWorkshopModel", "laysJob", "(III)V"⟩ : MethodName), (prog_13_method_6_code, (none, (4, (false, []))))),
  ((⟨"JobWorkshopModel", "laysStep", "(III)I"⟩ : MethodName), (prog_13_method_7_code, ((some .int), (4, (false, []))))),
  ((⟨"JobWorkshopModel", "of", "(II)I"⟩ : MethodName), (prog_13_method_8_code, ((some .int), (3, (false, []))))),
  ((⟨"JobWorkshopModel", "machineOf", "(II)I"⟩ : MethodName), (prog_13_method_9_code, ((some .int), (3, (false, []))))),
  ((⟨"JobWorkshopModel", "hoursOf", "(II)I"⟩ : MethodName), (prog_13_method_10_code, ((some .int), (3, (false, []))))),
  ((⟨"JobWorkshopModel", "left", "(II)I"⟩ : MethodName), (prog_13_method_11_code, ((some .int), (3, (false, []))))),
  ((⟨"JobWorkshopModel", "length", "(I)I"⟩ : MethodName), (prog_13_method_12_code, ((some .int), (2, (false, []))))),
  ((⟨"JobWorkshopModel", "allSteps", "()I"⟩ : MethodName), (prog_13_method_13_code, ((some .int), (1, (false, []))))),
  ((⟨"JobWorkshopModel", "isJob", "(I)Z"⟩ : MethodName), (prog_13_method_14_code, ((some .boolean), (2, (false, []))))),
  ((⟨"JobWorkshopModel", "isStep", "(II)Z"⟩ : MethodName), (prog_13_method_15_code, ((some .boolean), (3, (false, []))))),
  ((⟨"JobWorkshopModel", "hasPlan", "()Z"⟩ : MethodName), (prog_13_method_16_code, ((some .boolean), (1, (false, []))))),
  ((⟨"JobWorkshopModel", "startsPlan", "()V"⟩ : MethodName), (prog_13_method_17_code, (none, (1, (false, []))))),
  ((⟨"JobWorkshopModel", "open", "(III)I"⟩ : MethodName), (prog_13_method_18_code, ((some .int), (4, (false, []))))),
  ((⟨"JobWorkshopModel", "isChanged", "(II)Z"⟩ : MethodName), (prog_13_method_19_code, ((some .boolean), (3, (false, []))))),
  ((⟨"JobWorkshopModel", "between", "(III)I"⟩ : MethodName), (prog_13_method_20_code, ((some .int), (4, (false, []))))),
  ((⟨"JobWorkshopModel", "beginOf", "(I)I"⟩ : MethodName), (prog_13_method_21_code, ((some .int), (2, (false, []))))),
  ((⟨"JobWorkshopModel", "does", "(II)V"⟩ : MethodName), (prog_13_method_22_code, (none, (3, (false, []))))),
  ((⟨"JobWorkshopModel", "worksOut", "([IIII)Z"⟩ : MethodName), (prog_13_method_23_code, ((some .boolean), (5, (false, []))))),
  ((⟨"JobWorkshopModel", "works", "()Z"⟩ : MethodName), (prog_13_method_24_code, ((some .boolean), (1, (false, []))))),
  ((⟨"JobWorkshopModel", "planEnd", "()I"⟩ : MethodName), (prog_13_method_25_code, ((some .int), (1, (false, []))))),
  ((⟨"JobWorkshopModel", "valueOf", "(I)I"⟩ : MethodName), (prog_13_method_26_code, ((some .int), (2, (false, []))))),
  ((⟨"JobWorkshopModel", "isAhead", "(III)Z"⟩ : MethodName), (prog_13_method_27_code, ((some .boolean), (4, (false, []))))),
  ((⟨"JobWorkshopModel", "goesByRule", "(I)V"⟩ : MethodName), (prog_13_method_28_code, (none, (2, (false, []))))),
  ((⟨"JobWorkshopModel", "puts", "(I)V"⟩ : MethodName), (prog_13_method_29_code, (none, (2, (false, []))))),
  ((⟨"JobWorkshopModel", "clearsOrder", "()V"⟩ : MethodName), (prog_13_method_30_code, (none, (1, (false, []))))),
  ((⟨"JobWorkshopModel", "takesOrder", "()I"⟩ : MethodName), (prog_13_method_31_code, ((some .int), (1, (false, []))))),
  ((⟨"JobWorkshopModel", "noPlan", "()V"⟩ : MethodName), (prog_13_method_32_code, (none, (1, (false, []))))),
  ((⟨"JobWorkshopModel", "keeps", "()V"⟩ : MethodName), (prog_13_method_33_code, (none, (1, (false, []))))),
  ((⟨"JobWorkshopModel", "close", "(III)I"⟩ : MethodName), (prog_13_method_34_code, ((some .int), (4, (false, []))))),
  ((⟨"JobWorkshopModel", "setTool", "(III)I"⟩ : MethodName), (prog_13_method_35_code, ((some .int), (4, (false, []))))),
  ((⟨"JobWorkshopModel", "setSetup", "(III)I"⟩ : MethodName), (prog_13_method_36_code, ((some .int), (4, (false, []))))),
  ((⟨"JobWorkshopModel", "addJob", "(IIII)I"⟩ : MethodName), (prog_13_method_37_code, ((some .int), (5, (false, []))))),
  ((⟨"JobWorkshopModel", "addStep", "(III)I"⟩ : MethodName), (prog_13_method_38_code, ((some .int), (4, (false, []))))),
  ((⟨"JobWorkshopModel", "cut", "(I)I"⟩ : MethodName), (prog_13_method_39_code, ((some .int), (2, (false, []))))),
  ((⟨"JobWorkshopModel", "plan", "(I)I"⟩ : MethodName), (prog_13_method_40_code, ((some .int), (2, (false, []))))),
  ((⟨"JobWorkshopModel", "tell", "(J)I"⟩ : MethodName), (prog_13_method_41_code, ((some .int), (2, (false, []))))),
  ((⟨"JobWorkshopModel", "remembers", "(II)V"⟩ : MethodName), (prog_13_method_42_code, (none, (3, (false, []))))),
  ((⟨"JobWorkshopModel", "takesBack", "(I)V"⟩ : MethodName), (prog_13_method_43_code, (none, (2, (false, []))))),
  ((⟨"JobWorkshopModel", "nextJob", "(I)I"⟩ : MethodName), (prog_13_method_44_code, ((some .int), (2, (false, []))))),
  ((⟨"JobWorkshopModel", "best", "(I)I"⟩ : MethodName), (prog_13_method_45_code, ((some .int), (2, (false, []))))),
  ((⟨"JobWorkshopModel", "exchanges", "(I)V"⟩ : MethodName), (prog_13_method_46_code, (none, (2, (false, []))))),
  ((⟨"JobWorkshopModel", "swap", "(II)I"⟩ : MethodName), (prog_13_method_47_code, ((some .int), (3, (false, []))))),
  ((⟨"JobWorkshopModel", "replan", "(II)I"⟩ : MethodName), (prog_13_method_48_code, ((some .int), (3, (false, []))))),
  ((⟨"JobWorkshopModel", "laysRushed", "(I)V"⟩ : MethodName), (prog_13_method_49_code, (none, (2, (false, []))))),
  ((⟨"JobWorkshopModel", "rush", "(I)I"⟩ : MethodName), (prog_13_method_50_code, ((some .int), (2, (false, []))))),
  ((⟨"JobWorkshopModel", "setWorker", "(II)I"⟩ : MethodName), (prog_13_method_51_code, ((some .int), (3, (false, []))))),
  ((⟨"JobWorkshopModel", "undo", "()I"⟩ : MethodName), (prog_13_method_52_code, ((some .int), (1, (false, []))))),
  ((⟨"JobWorkshopModel", "jobs", "()I"⟩ : MethodName), (prog_13_method_53_code, ((some .int), (1, (false, []))))),
  ((⟨"JobWorkshopModel", "jobAt", "(II)I"⟩ : MethodName), (prog_13_method_54_code, ((some .int), (3, (false, []))))),
  ((⟨"JobWorkshopModel", "stepAt", "(III)I"⟩ : MethodName), (prog_13_method_55_code, ((some .int), (4, (false, []))))),
  ((⟨"JobWorkshopModel", "isPlanned", "()Z"⟩ : MethodName), (prog_13_method_56_code, ((some .boolean), (1, (false, []))))),
  ((⟨"JobWorkshopModel", "begin", "(II)I"⟩ : MethodName), (prog_13_method_57_code, ((some .int), (3, (false, []))))),
  ((⟨"JobWorkshopModel", "endOf", "(I)I"⟩ : MethodName), (prog_13_method_58_code, ((some .int), (2, (false, []))))),
  ((⟨"JobWorkshopModel", "value", "(I)I"⟩ : MethodName), (prog_13_method_59_code, ((some .int), (2, (false, []))))),
  ((⟨"JobWorkshopModel", "bound", "()I"⟩ : MethodName), (prog_13_method_60_code, ((some .int), (1, (false, []))))),
  ((⟨"JobWorkshopModel", "hoursOn", "(I)I"⟩ : MethodName), (prog_13_method_61_code, ((some .int), (2, (false, []))))),
  ((⟨"JobWorkshopModel", "orderAt", "(II)I"⟩ : MethodName), (prog_13_method_62_code, ((some .int), (3, (false, []))))),
  ((⟨"JobWorkshopModel", "doneIn", "(II)I"⟩ : MethodName), (prog_13_method_63_code, ((some .int), (3, (false, []))))),
  ((⟨"JobWorkshopModel", "isDone", "(III)Z"⟩ : MethodName), (prog_13_method_64_code, ((some .boolean), (4, (false, []))))),
  ((⟨"JobWorkshopModel", "stepEnd", "(II)I"⟩ : MethodName), (prog_13_method_65_code, ((some .int), (3, (false, []))))),
  ((⟨"JobWorkshopModel", "aheadOf", "(I)I"⟩ : MethodName), (prog_13_method_66_code, ((some .int), (2, (false, []))))),
  ((⟨"JobWorkshopModel", "readyAt", "(I)I"⟩ : MethodName), (prog_13_method_67_code, ((some .int), (2, (false, []))))),
  ((⟨"JobWorkshopModel", "laysWay", "()V"⟩ : MethodName), (prog_13_method_68_code, (none, (1, (false, []))))),
  ((⟨"JobWorkshopModel", "wayLength", "()I"⟩ : MethodName), (prog_13_method_69_code, ((some .int), (1, (false, []))))),
  ((⟨"JobWorkshopModel", "wayAt", "(I)I"⟩ : MethodName), (prog_13_method_70_code, ((some .int), (2, (false, []))))),
  ((⟨"JobWorkshopModel", "block", "(Z)I"⟩ : MethodName), (prog_13_method_71_code, ((some .int), (2, (false, []))))),
  ((⟨"JobWorkshopModel", "blocks", "()I"⟩ : MethodName), (prog_13_method_72_code, ((some .int), (1, (false, []))))),
  ((⟨"JobWorkshopModel", "longestBlock", "()I"⟩ : MethodName), (prog_13_method_73_code, ((some .int), (1, (false, []))))),
  ((⟨"JobWorkshopModel", "slack", "(II)I"⟩ : MethodName), (prog_13_method_74_code, ((some .int), (3, (false, []))))),
  ((⟨"JobWorkshopModel", "delay", "(II)I"⟩ : MethodName), (prog_13_method_75_code, ((some .int), (3, (false, []))))),
  ((⟨"JobWorkshopModel", "part", "(II)I"⟩ : MethodName), (prog_13_method_76_code, ((some .int), (3, (false, []))))),
  ((⟨"JobWorkshopModel", "goesFirst", "(III)Z"⟩ : MethodName), (prog_13_method_77_code, ((some .boolean), (4, (false, []))))),
  ((⟨"JobWorkshopModel", "laysRow", "(I)V"⟩ : MethodName), (prog_13_method_78_code, (none, (2, (false, []))))),
  ((⟨"JobWorkshopModel", "leastSum", "()I"⟩ : MethodName), (prog_13_method_79_code, ((some .int), (1, (false, []))))),
  ((⟨"JobWorkshopModel", "leastLateness", "()I"⟩ : MethodName), (prog_13_method_80_code, ((some .int), (1, (false, []))))),
  ((⟨"JobWorkshopModel", "dropped", "()I"⟩ : MethodName), (prog_13_method_81_code, ((some .int), (1, (false, []))))),
  ((⟨"JobWorkshopModel", "fewestLate", "()I"⟩ : MethodName), (prog_13_method_82_code, ((some .int), (1, (false, []))))),
  ((⟨"JobWorkshopModel", "isDropped", "(I)Z"⟩ : MethodName), (prog_13_method_83_code, ((some .boolean), (2, (false, []))))),
  ((⟨"JobWorkshopModel", "leastEnd", "()I"⟩ : MethodName), (prog_13_method_84_code, ((some .int), (1, (false, []))))),
  ((⟨"JobWorkshopModel", "twoAt", "(I)I"⟩ : MethodName), (prog_13_method_85_code, ((some .int), (2, (false, []))))),
  ((⟨"JobWorkshopModel", "nextRow", "()Z"⟩ : MethodName), (prog_13_method_86_code, ((some .boolean), (1, (false, []))))),
  ((⟨"JobWorkshopModel", "turns", "(II)V"⟩ : MethodName), (prog_13_method_87_code, (none, (3, (false, []))))),
  ((⟨"JobWorkshopModel", "setup", "()I"⟩ : MethodName), (prog_13_method_88_code, ((some .int), (1, (false, []))))),
  ((⟨"JobWorkshopModel", "leastSetup", "()I"⟩ : MethodName), (prog_13_method_89_code, ((some .int), (1, (false, []))))),
  ((⟨"JobWorkshopModel", "setupAt", "(I)I"⟩ : MethodName), (prog_13_method_90_code, ((some .int), (2, (false, []))))),
  ((⟨"JobWorkshopModel", "matches", "(I)I"⟩ : MethodName), (prog_13_method_91_code, ((some .int), (2, (false, []))))),
  ((⟨"JobWorkshopModel", "workerIn", "(II)I"⟩ : MethodName), (prog_13_method_92_code, ((some .int), (2, (true, []))))),
  ((⟨"JobWorkshopModel", "match", "(I)I"⟩ : MethodName), (prog_13_method_93_code, ((some .int), (2, (false, []))))),
  ((⟨"JobWorkshopModel", "workerOf", "(II)I"⟩ : MethodName), (prog_13_method_94_code, ((some .int), (3, (false, []))))),
  ((⟨"JobWorkshopModel", "oddsOf", "(III)J"⟩ : MethodName), (prog_13_method_95_code, ((some .long), (4, (false, []))))),
  ((⟨"JobWorkshopModel", "promise", "(III)I"⟩ : MethodName), (prog_13_method_96_code, ((some .int), (4, (false, []))))),
  ((⟨"JobWorkshopModel", "worked", "(II)I"⟩ : MethodName), (prog_13_method_97_code, ((some .int), (3, (false, []))))),
  ((⟨"JobWorkshopModel", "meanEnd", "()D"⟩ : MethodName), (prog_13_method_98_code, ((some .double), (1, (false, []))))),
  ((⟨"JobWorkshopModel", "use", "(I)F"⟩ : MethodName), (prog_13_method_99_code, ((some .float), (2, (false, []))))),
  ((⟨"JobWorkshopModel", "isClosed", "(II)Z"⟩ : MethodName), (prog_13_method_100_code, ((some .boolean), (3, (false, []))))),
  ((⟨"JobWorkshopModel", "isWrong", "(I)Z"⟩ : MethodName), (prog_13_method_101_code, ((some .boolean), (2, (false, []))))),
  ((⟨"JobWorkshopModel", "errors", "()I"⟩ : MethodName), (prog_13_method_102_code, ((some .int), (1, (false, []))))),
  ((⟨"java/lang/Integer", "bitCount", "(I)I"⟩ : MethodName), (prog_18_method_49_code, ((some .int), (1, (true, []))))),
  ((⟨"java/lang/Math", "max", "(II)I"⟩ : MethodName), (prog_19_method_65_code, ((some .int), (2, (true, []))))),
  ((⟨"java/lang/Math", "min", "(II)I"⟩ : MethodName), (prog_19_method_69_code, ((some .int), (2, (true, []))))),
  ((⟨"java/util/Arrays", "fill", "([JJ)V"⟩ : MethodName), (prog_24_method_101_code, (none, (2, (true, []))))),
  ((⟨"java/util/Arrays", "fill", "([II)V"⟩ : MethodName), (prog_24_method_103_code, (none, (2, (true, []))))),
  ((⟨"JobWorkshopLaw", "close", "(LJobWorkshop;III[J)I"⟩ : MethodName), (method_3_code, ((some .int), (5, (true, [(0, 12, 15, 13), (0, 12, 19, 15), (0, 12, 23, 17)]))))),
  ((⟨"JobWorkshopLaw", "setTool", "(LJobWorkshop;III[J)I"⟩ : MethodName), (method_4_code, ((some .int), (5, (true, [(0, 12, 15, 13), (0, 12, 19, 15)]))))),
  ((⟨"JobWorkshopLaw", "setSetup", "(LJobWorkshop;III[J)I"⟩ : MethodName), (method_5_code, ((some .int), (5, (true, [(0, 12, 15, 13), (0, 12, 19, 15)]))))),
  ((⟨"JobWorkshopLaw", "addJob", "(LJobWorkshop;IIII[J)I"⟩ : MethodName), (method_6_code, ((some .int), (6, (true, [(0, 14, 17, 13), (0, 14, 21, 15), (0, 14, 25, 17)]))))),
  ((⟨"JobWorkshopLaw", "addStep", "(LJobWorkshop;III[J)I"⟩ : MethodName), (method_7_code, ((some .int), (5, (true, [(0, 12, 15, 13), (0, 12, 19, 15), (0, 12, 23, 17)]))))),
  ((⟨"JobWorkshopLaw", "cut", "(LJobWorkshop;I[J)I"⟩ : MethodName), (method_8_code, ((some .int), (3, (true, [(0, 9, 12, 13), (0, 9, 15, 17)]))))),
  ((⟨"JobWorkshopLaw", "plan", "(LJobWorkshop;I[J)I"⟩ : MethodName), (method_9_code, ((some .int), (3, (true, [(0, 9, 12, 15)]))))),
  ((⟨"JobWorkshopLaw", "tell", "(LJobWorkshop;J[J)I"⟩ : MethodName), (method_10_code, ((some .int), (3, (true, [(0, 9, 12, 15)]))))),
  ((⟨"JobWorkshopLaw", "best", "(LJobWorkshop;I[J)I"⟩ : MethodName), (method_11_code, ((some .int), (3, (true, [(0, 9, 12, 15), (0, 9, 15, 17)]))))),
  ((⟨"JobWorkshopLaw", "swap", "(LJobWorkshop;II[J)I"⟩ : MethodName), (method_12_code, ((some .int), (4, (true, [(0, 10, 13, 13), (0, 10, 17, 17)]))))),
  ((⟨"JobWorkshopLaw", "replan", "(LJobWorkshop;II[J)I"⟩ : MethodName), (method_13_code, ((some .int), (4, (true, [(0, 10, 13, 15), (0, 10, 17, 17)]))))),
  ((⟨"JobWorkshopLaw", "rush", "(LJobWorkshop;I[J)I"⟩ : MethodName), (method_14_code, ((some .int), (3, (true, [(0, 9, 12, 13), (0, 9, 15, 17)]))))),
  ((⟨"JobWorkshopLaw", "setWorker", "(LJobWorkshop;II[J)I"⟩ : MethodName), (method_15_code, ((some .int), (4, (true, [(0, 10, 13, 13), (0, 10, 17, 15)]))))),
  ((⟨"JobWorkshopLaw", "jobAt", "(LJobWorkshop;II[J)I"⟩ : MethodName), (method_16_code, ((some .int), (4, (true, [(0, 10, 13, 13), (0, 10, 17, 15)]))))),
  ((⟨"JobWorkshopLaw", "stepAt", "(LJobWorkshop;III[J)I"⟩ : MethodName), (method_17_code, ((some .int), (5, (true, [(0, 12, 15, 13), (0, 12, 19, 15)]))))),
  ((⟨"JobWorkshopLaw", "begin", "(LJobWorkshop;II[J)I"⟩ : MethodName), (method_18_code, ((some .int), (4, (true, [(0, 10, 13, 13), (0, 10, 17, 17)]))))),
  ((⟨"JobWorkshopLaw", "endOf", "(LJobWorkshop;I[J)I"⟩ : MethodName), (method_19_code, ((some .int), (3, (true, [(0, 9, 12, 13), (0, 9, 15, 17)]))))),
  ((⟨"JobWorkshopLaw", "value", "(LJobWorkshop;I[J)I"⟩ : MethodName), (method_20_code, ((some .int), (3, (true, [(0, 9, 12, 15), (0, 9, 15, 17)]))))),
  ((⟨"JobWorkshopLaw", "orderAt", "(LJobWorkshop;II[J)I"⟩ : MethodName), (method_21_code, ((some .int), (4, (true, [(0, 10, 13, 13)]))))),
  ((⟨"JobWorkshopLaw", "doneIn", "(LJobWorkshop;II[J)I"⟩ : MethodName), (method_22_code, ((some .int), (4, (true, [(0, 10, 13, 13), (0, 10, 17, 15), (0, 10, 21, 17)]))))),
  ((⟨"JobWorkshopLaw", "wayLength", "(LJobWorkshop;[J)I"⟩ : MethodName), (method_23_code, ((some .int), (2, (true, [(0, 8, 11, 17)]))))),
  ((⟨"JobWorkshopLaw", "wayAt", "(LJobWorkshop;I[J)I"⟩ : MethodName), (method_24_code, ((some .int), (3, (true, [(0, 9, 12, 13)]))))),
  ((⟨"JobWorkshopLaw", "blocks", "(LJobWorkshop;[J)I"⟩ : MethodName), (method_25_code, ((some .int), (2, (true, [(0, 8, 11, 17)]))))),
  ((⟨"JobWorkshopLaw", "longestBlock", "(LJobWorkshop;[J)I"⟩ : MethodName), (method_26_code, ((some .int), (2, (true, [(0, 8, 11, 17)]))))),
  ((⟨"JobWorkshopLaw", "slack", "(LJobWorkshop;II[J)I"⟩ : MethodName), (method_27_code, ((some .int), (4, (true, [(0, 10, 13, 13), (0, 10, 17, 17)]))))),
  ((⟨"JobWorkshopLaw", "delay", "(LJobWorkshop;II[J)I"⟩ : MethodName), (method_28_code, ((some .int), (4, (true, [(0, 10, 13, 13), (0, 10, 17, 17)]))))),
  ((⟨"JobWorkshopLaw", "isDropped", "(LJobWorkshop;I[J)I"⟩ : MethodName), (method_29_code, ((some .int), (3, (true, [(0, 16, 19, 13)]))))),
  ((⟨"JobWorkshopLaw", "twoAt", "(LJobWorkshop;I[J)I"⟩ : MethodName), (method_30_code, ((some .int), (3, (true, [(0, 9, 12, 13)]))))),
  ((⟨"JobWorkshopLaw", "setupAt", "(LJobWorkshop;I[J)I"⟩ : MethodName), (method_31_code, ((some .int), (3, (true, [(0, 9, 12, 13)]))))),
  ((⟨"JobWorkshopLaw", "match", "(LJobWorkshop;I[J)I"⟩ : MethodName), (method_32_code, ((some .int), (3, (true, [(0, 9, 12, 15)]))))),
  ((⟨"JobWorkshopLaw", "workerOf", "(LJobWorkshop;II[J)I"⟩ : MethodName), (method_33_code, ((some .int), (4, (true, [(0, 10, 13, 13), (0, 10, 17, 15)]))))),
  ((⟨"JobWorkshopLaw", "promise", "(LJobWorkshop;III[J)I"⟩ : MethodName), (method_34_code, ((some .int), (5, (true, [(0, 12, 15, 13), (0, 12, 19, 15)]))))),
  ((⟨"JobWorkshopLaw", "worked", "(LJobWorkshop;II[J)I"⟩ : MethodName), (method_35_code, ((some .int), (4, (true, [(0, 10, 13, 15), (0, 10, 17, 17)]))))),
  ((⟨"JobWorkshopLaw", "meanEnd", "(LJobWorkshop;[D)I"⟩ : MethodName), (method_36_code, ((some .int), (2, (true, [(0, 7, 10, 17)]))))),
  ((⟨"JobWorkshopLaw", "use", "(LJobWorkshop;I[D)I"⟩ : MethodName), (method_37_code, ((some .int), (3, (true, [(0, 9, 12, 13), (0, 9, 15, 17)]))))),
  ((⟨"JobWorkshopLaw", "law", "([I)Z"⟩ : MethodName), (code, ((some .boolean), (1, (true, [])))))]
noncomputable def mMeth0 : mMeta := (⟨"", "", ""⟩, (⟨#[]⟩, (none, (0, (false, [])))))
noncomputable def mMt (y : Nat) : mMeta := mMetas.getD y mMeth0
noncomputable def mY (y : Nat) : MethodName := (mMt y).1
def mClOk (q : vw_C) : Prop := (∀ w ∈ u_ws q.1 q.2.1 q.2.2, w ∈ TG) ∧ (∃ ty0 : Nat → FieldType, ∀ k, k < q.2.2 → parseFieldDescriptor (q.2.1 k).2.2.1 = some (ty0 k)) ∧ (∀ a, a < q.2.2 → ∀ b, b < q.2.2 → a ≠ b → (q.2.1 a).2.1 ≠ (q.2.1 b).2.1) ∧ (∀ k, k < q.2.2 → (q.2.1 k).1 = q.1)
theorem mCl_0 : mClOk (RX0, TX0, 6) := ⟨List.forall_mem_cons.mpr ⟨TG_1 (i := 194) rfl rfl, List.forall_mem_cons.mpr ⟨TG_1 (i := 196) rfl rfl, List.forall_mem_cons.mpr ⟨TG_1 (i := 198) rfl rfl, List.forall_mem_cons.mpr ⟨TG_1 (i := 200) rfl rfl, List.forall_mem_cons.mpr ⟨TG_1 (i := 202) rfl rfl, List.forall_mem_cons.mpr ⟨TG_1 (i := 204) rfl rfl, List.forall_mem_nil _⟩⟩⟩⟩⟩⟩, ⟨tyX0, tyX0_ok⟩, by decide +kernel, by decide +kernel⟩
theorem mCl_1 : mClOk (RX1, TX1, 4) := ⟨List.forall_mem_cons.mpr ⟨TG_2 (i := 79) rfl rfl, List.forall_mem_cons.mpr ⟨TG_2 (i := 81) rfl rfl, List.forall_mem_cons.mpr ⟨TG_2 (i := 83) rfl rfl, List.forall_mem_cons.mpr ⟨TG_2 (i := 85) rfl rfl, List.forall_mem_nil _⟩⟩⟩⟩, ⟨tyX1, tyX1_ok⟩, by decide +kernel, by decide +kernel⟩
theorem mCl_2 : mClOk (RX2, TX2, 3) := ⟨List.forall_mem_cons.mpr ⟨TG_2 (i := 5) rfl rfl, List.forall_mem_cons.mpr ⟨TG_2 (i := 7) rfl rfl, List.forall_mem_cons.mpr ⟨TG_2 (i := 9) rfl rfl, List.forall_mem_nil _⟩⟩⟩, ⟨tyX2, tyX2_ok⟩, by decide +kernel, by decide +kernel⟩
theorem mCl_3 : mClOk (RX3, TX3, 3) := ⟨List.forall_mem_cons.mpr ⟨TG_2 (i := 29) rfl rfl, List.forall_mem_cons.mpr ⟨TG_2 (i := 31) rfl rfl, List.forall_mem_cons.mpr ⟨TG_2 (i := 33) rfl rfl, List.forall_mem_nil _⟩⟩⟩, ⟨tyX3, tyX3_ok⟩, by decide +kernel, by decide +kernel⟩
theorem mCl_4 : mClOk (RX4, TX4, 2) := ⟨List.forall_mem_cons.mpr ⟨TG_2 (i := 96) rfl rfl, List.forall_mem_cons.mpr ⟨TG_2 (i := 98) rfl rfl, List.forall_mem_nil _⟩⟩, ⟨tyX4, tyX4_ok⟩, by decide +kernel, by decide +kernel⟩
theorem mCl_5 : mClOk (RX5, TX5, 2) := ⟨List.forall_mem_cons.mpr ⟨TG_2 (i := 38) rfl rfl, List.forall_mem_cons.mpr ⟨TG_2 (i := 40) rfl rfl, List.forall_mem_nil _⟩⟩, ⟨tyX5, tyX5_ok⟩, by decide +kernel, by decide +kernel⟩
theorem mCl_6 : mClOk (RX6, TX6, 5) := ⟨List.forall_mem_cons.mpr ⟨TG_2 (i := 56) rfl rfl, List.forall_mem_cons.mpr ⟨TG_2 (i := 58) rfl rfl, List.forall_mem_cons.mpr ⟨TG_2 (i := 60) rfl rfl, List.forall_mem_cons.mpr ⟨TG_2 (i := 62) rfl rfl, List.forall_mem_cons.mpr ⟨TG_2 (i := 64) rfl rfl, List.forall_mem_nil _⟩⟩⟩⟩⟩, ⟨tyX6, tyX6_ok⟩, by decide +kernel, by decide +kernel⟩
theorem mCl_7 : mClOk (RX7, TX7, 17) := ⟨List.forall_mem_cons.mpr ⟨TG_1 (i := 98) rfl rfl, List.forall_mem_cons.mpr ⟨TG_1 (i := 100) rfl rfl, List.forall_mem_cons.mpr ⟨TG_1 (i := 102) rfl rfl, List.forall_mem_cons.mpr ⟨TG_1 (i := 104) rfl rfl, List.forall_mem_cons.mpr ⟨TG_1 (i := 106) rfl rfl, List.forall_mem_cons.mpr ⟨TG_1 (i := 108) rfl rfl, List.forall_mem_cons.mpr ⟨TG_1 (i := 110) rfl rfl, List.forall_mem_cons.mpr ⟨TG_1 (i := 112) rfl rfl, List.forall_mem_cons.mpr ⟨TG_1 (i := 114) rfl rfl, List.forall_mem_cons.mpr ⟨TG_1 (i := 116) rfl rfl, List.forall_mem_cons.mpr ⟨TG_1 (i := 118) rfl rfl, List.forall_mem_cons.mpr ⟨TG_1 (i := 120) rfl rfl, List.forall_mem_cons.mpr ⟨TG_1 (i := 122) rfl rfl, List.forall_mem_cons.mpr ⟨TG_1 (i := 124) rfl rfl, List.forall_mem_cons.mpr ⟨TG_1 (i := 126) rfl rfl, List.forall_mem_cons.mpr ⟨TG_1 (i := 128) rfl rfl, List.forall_mem_cons.mpr ⟨TG_1 (i := 130) rfl rfl, List.forall_mem_nil _⟩⟩⟩⟩⟩⟩⟩⟩⟩⟩⟩⟩⟩⟩⟩⟩⟩, ⟨tyX7, tyX7_ok⟩, by decide +kernel, by decide +kernel⟩
theorem mCl_8 : mClOk (RX8, TX8, 10) := ⟨List.forall_mem_cons.mpr ⟨TG_1 (i := 160) rfl rfl, List.forall_mem_cons.mpr ⟨TG_1 (i := 162) rfl rfl, List.forall_mem_cons.mpr ⟨TG_1 (i := 164) rfl rfl, List.forall_mem_cons.mpr ⟨TG_1 (i := 166) rfl rfl, List.forall_mem_cons.mpr ⟨TG_1 (i := 168) rfl rfl, List.forall_mem_cons.mpr ⟨TG_1 (i := 170) rfl rfl, List.forall_mem_cons.mpr ⟨TG_1 (i := 172) rfl rfl, List.forall_mem_cons.mpr ⟨TG_1 (i := 174) rfl rfl, List.forall_mem_cons.mpr ⟨TG_1 (i := 176) rfl rfl, List.forall_mem_cons.mpr ⟨TG_1 (i := 178) rfl rfl, List.forall_mem_nil _⟩⟩⟩⟩⟩⟩⟩⟩⟩⟩, ⟨tyX8, tyX8_ok⟩, by decide +kernel, by decide +kernel⟩
theorem mCl_9 : mClOk (RX9, TX9, 6) := ⟨List.forall_mem_cons.mpr ⟨TG_1 (i := 223) rfl rfl, List.forall_mem_cons.mpr ⟨TG_1 (i := 225) rfl rfl, List.forall_mem_cons.mpr ⟨TG_1 (i := 227) rfl rfl, List.forall_mem_cons.mpr ⟨TG_1 (i := 229) rfl rfl, List.forall_mem_cons.mpr ⟨TG_1 (i := 231) rfl rfl, List.forall_mem_cons.mpr ⟨TG_1 (i := 233) rfl rfl, List.forall_mem_nil _⟩⟩⟩⟩⟩⟩, ⟨tyX9, tyX9_ok⟩, by decide +kernel, by decide +kernel⟩
theorem mCl_10 : mClOk (RX10, TX10, 15) := ⟨List.forall_mem_cons.mpr ⟨TG_2 (i := 125) rfl rfl, List.forall_mem_cons.mpr ⟨TG_2 (i := 127) rfl rfl, List.forall_mem_cons.mpr ⟨TG_2 (i := 129) rfl rfl, List.forall_mem_cons.mpr ⟨TG_2 (i := 131) rfl rfl, List.forall_mem_cons.mpr ⟨TG_2 (i := 133) rfl rfl, List.forall_mem_cons.mpr ⟨TG_2 (i := 135) rfl rfl, List.forall_mem_cons.mpr ⟨TG_2 (i := 137) rfl rfl, List.forall_mem_cons.mpr ⟨TG_2 (i := 139) rfl rfl, List.forall_mem_cons.mpr ⟨TG_2 (i := 141) rfl rfl, List.forall_mem_cons.mpr ⟨TG_2 (i := 143) rfl rfl, List.forall_mem_cons.mpr ⟨TG_2 (i := 145) rfl rfl, List.forall_mem_cons.mpr ⟨TG_2 (i := 147) rfl rfl, List.forall_mem_cons.mpr ⟨TG_2 (i := 149) rfl rfl, List.forall_mem_cons.mpr ⟨TG_2 (i := 151) rfl rfl, List.forall_mem_cons.mpr ⟨TG_2 (i := 153) rfl rfl, List.forall_mem_nil _⟩⟩⟩⟩⟩⟩⟩⟩⟩⟩⟩⟩⟩⟩⟩, ⟨tyX10, tyX10_ok⟩, by decide +kernel, by decide +kernel⟩
theorem mCl_11 : mClOk (RX11, TX11, 20) := ⟨List.forall_mem_cons.mpr ⟨TG_5 (i := 239) rfl rfl, List.forall_mem_cons.mpr ⟨TG_6 (i := 1) rfl rfl, List.forall_mem_cons.mpr ⟨TG_6 (i := 3) rfl rfl, List.forall_mem_cons.mpr ⟨TG_6 (i := 5) rfl rfl, List.forall_mem_cons.mpr ⟨TG_6 (i := 7) rfl rfl, List.forall_mem_cons.mpr ⟨TG_6 (i := 9) rfl rfl, List.forall_mem_cons.mpr ⟨TG_6 (i := 11) rfl rfl, List.forall_mem_cons.mpr ⟨TG_6 (i := 13) rfl rfl, List.forall_mem_cons.mpr ⟨TG_6 (i := 15) rfl rfl, List.forall_mem_cons.mpr ⟨TG_6 (i := 17) rfl rfl, List.forall_mem_cons.mpr ⟨TG_6 (i := 19) rfl rfl, List.forall_mem_cons.mpr ⟨TG_6 (i := 21) rfl rfl, List.forall_mem_cons.mpr ⟨TG_6 (i := 23) rfl rfl, List.forall_mem_cons.mpr ⟨TG_6 (i := 25) rfl rfl, List.forall_mem_cons.mpr ⟨TG_6 (i := 27) rfl rfl, List.forall_mem_cons.mpr ⟨TG_6 (i := 29) rfl rfl, List.forall_mem_cons.mpr ⟨TG_6 (i := 31) rfl rfl, List.forall_mem_cons.mpr ⟨TG_6 (i := 33) rfl rfl, List.forall_mem_cons.mpr ⟨TG_6 (i := 35) rfl rfl, List.forall_mem_cons.mpr ⟨TG_6 (i := 37) rfl rfl, List.forall_mem_nil _⟩⟩⟩⟩⟩⟩⟩⟩⟩⟩⟩⟩⟩⟩⟩⟩⟩⟩⟩⟩, ⟨tyX11, tyX11_ok⟩, by decide +kernel, by decide +kernel⟩
theorem mCl_ok : ∀ q ∈ vwCl, mClOk q := List.forall_mem_cons.mpr ⟨mCl_0, List.forall_mem_cons.mpr ⟨mCl_1, List.forall_mem_cons.mpr ⟨mCl_2, List.forall_mem_cons.mpr ⟨mCl_3, List.forall_mem_cons.mpr ⟨mCl_4, List.forall_mem_cons.mpr ⟨mCl_5, List.forall_mem_cons.mpr ⟨mCl_6, List.forall_mem_cons.mpr ⟨mCl_7, List.forall_mem_cons.mpr ⟨mCl_8, List.forall_mem_cons.mpr ⟨mCl_9, List.forall_mem_cons.mpr ⟨mCl_10, List.forall_mem_cons.mpr ⟨mCl_11, List.forall_mem_nil _⟩⟩⟩⟩⟩⟩⟩⟩⟩⟩⟩⟩
def mPoolF : Nat → List (Nat × Nat × Nat × Nat)
  | 0 => [(9, 0, 2, 2), (15, 0, 0, 2), (19, 0, 1, 2), (35, 0, 3, 0), (39, 0, 5, 1), (59, 0, 4, 0), (62, 8, 2, 2), (69, 7, 0, 0)]
  | 1 => [(9, 1, 1, 2), (15, 1, 2, 2), (18, 1, 0, 2), (22, 1, 3, 0), (34, 7, 14, 2)]
  | 2 => [(9, 2, 2, 2), (15, 2, 0, 2), (19, 2, 1, 2), (29, 7, 0, 0), (35, 7, 5, 2), (42, 7, 6, 2), (57, 8, 6, 2)]
  | 3 => [(9, 3, 0, 2), (15, 3, 1, 2), (18, 3, 2, 0)]
  | 4 => [(9, 4, 1, 2), (15, 4, 0, 2), (36, 7, 1, 2), (49, 7, 5, 2), (52, 7, 7, 2)]
  | 5 => [(12, 5, 1, 2), (18, 5, 0, 2), (25, 7, 0, 0), (39, 7, 2, 2), (46, 3, 2, 0), (49, 3, 0, 2), (63, 7, 5, 2), (66, 7, 7, 2)]
  | 6 => [(9, 6, 1, 2), (15, 6, 2, 2), (18, 6, 0, 2), (22, 6, 3, 0), (26, 6, 4, 1), (34, 7, 0, 0), (49, 7, 13, 2), (52, 7, 4, 2)]
  | 7 => [(9, 7, 1, 2), (15, 7, 2, 2), (18, 7, 3, 2), (21, 7, 4, 2), (24, 7, 5, 2), (27, 7, 6, 2), (30, 7, 7, 2), (33, 7, 8, 2), (36, 7, 9, 2), (39, 7, 10, 2), (42, 7, 11, 2), (45, 7, 12, 2), (48, 7, 13, 2), (51, 7, 14, 2), (54, 7, 16, 2), (57, 7, 0, 0), (65, 7, 15, 1)]
  | 8 => [(9, 8, 2, 2), (15, 8, 3, 2), (18, 8, 4, 2), (21, 8, 5, 2), (24, 8, 6, 2), (27, 8, 7, 2), (30, 8, 8, 2), (33, 8, 9, 2), (36, 8, 0, 2), (40, 8, 1, 0), (50, 7, 0, 0), (55, 7, 5, 2), (58, 7, 7, 2), (61, 7, 1, 2), (71, 7, 11, 2), (74, 7, 6, 2), (77, 7, 13, 2), (80, 7, 4, 2), (87, 7, 12, 2), (119, 7, 15, 1), (131, 7, 16, 2), (142, 7, 2, 2), (145, 7, 3, 2)]
  | 9 => [(9, 9, 2, 2), (15, 9, 0, 2), (19, 9, 1, 2), (23, 9, 3, 0), (27, 9, 4, 0), (30, 9, 5, 0), (37, 7, 6, 2), (52, 7, 0, 0), (55, 8, 3, 2), (63, 8, 6, 2), (66, 8, 7, 2), (69, 8, 8, 2)]
  | 10 => [(12, 10, 0, 2), (21, 10, 1, 2), (25, 10, 2, 2), (28, 10, 3, 2), (32, 10, 4, 2), (36, 10, 5, 2), (44, 10, 6, 2), (51, 10, 7, 2), (58, 10, 8, 2), (65, 10, 9, 2), (72, 10, 10, 2), (79, 10, 11, 2), (86, 10, 12, 2), (106, 7, 8, 2), (125, 7, 11, 2), (128, 7, 12, 2), (134, 7, 13, 2), (146, 7, 5, 2), (197, 8, 4, 2), (226, 7, 14, 2), (229, 10, 14, 0), (233, 10, 13, 0), (239, 7, 0, 0), (242, 7, 1, 2), (245, 7, 2, 2), (248, 7, 3, 2), (251, 7, 4, 2), (262, 7, 6, 2), (265, 7, 7, 2), (268, 8, 6, 2), (279, 8, 5, 2), (291, 9, 3, 0), (294, 9, 2, 2), (297, 9, 4, 0), (300, 9, 5, 0), (331, 6, 3, 0), (333, 6, 2, 2), (339, 1, 3, 0), (342, 1, 2, 2), (354, 7, 15, 1), (380, 8, 2, 2)]
  | 11 => [(9, 11, 0, 2), (13, 11, 1, 2), (16, 11, 4, 2), (19, 11, 5, 2), (22, 11, 6, 2), (25, 11, 7, 2), (28, 11, 8, 2), (31, 11, 9, 2), (34, 11, 10, 2), (37, 11, 11, 2), (40, 11, 12, 2), (43, 11, 13, 2), (46, 11, 14, 2), (49, 11, 15, 2), (52, 11, 16, 2), (55, 11, 17, 2), (58, 11, 18, 2), (69, 11, 3, 0), (148, 11, 2, 0), (211, 11, 19, 0)]
  | _ => []
def mWF (o : Nat) (x : Nat × Nat × Nat × Nat) : Prop := ∃ q : vw_C, vwCl[x.2.1]? = some q ∧ x.2.2.1 < q.2.2 ∧ Cond.fieldLink (mOwn o) x.1 (q.2.1 x.2.2.1).1 (q.2.1 x.2.2.1).2.1 (q.2.1 x.2.2.1).2.2.1 ∈ TG ∧ (x.2.2.2 = 0 → (q.2.1 x.2.2.1).2.2.1 = "I" ∧ (q.2.1 x.2.2.1).2.2.2 = false) ∧ (x.2.2.2 = 1 → (q.2.1 x.2.2.1).2.2.1 = "Z" ∧ (q.2.1 x.2.2.1).2.2.2 = false) ∧ (x.2.2.2 = 2 → (q.2.1 x.2.2.1).2.2.2 = true ∧ ∃ ty, parseFieldDescriptor (q.2.1 x.2.2.1).2.2.1 = some ty ∧ refKind ty = true)
set_option maxRecDepth 10000 in
theorem mF_0 : ∀ x ∈ mPoolF 0, mWF 0 x := List.forall_mem_cons.mpr ⟨⟨(RX0, TX0, 6), rfl, by decide, TG_1 (i := 190) rfl rfl, fun h => absurd h (by decide), fun h => absurd h (by decide), fun _ => ⟨rfl, tyX0 2, tyX0_ok 2 (by decide), rfl⟩⟩, List.forall_mem_cons.mpr ⟨⟨(RX0, TX0, 6), rfl, by decide, TG_1 (i := 188) rfl rfl, fun h => absurd h (by decide), fun h => absurd h (by decide), fun _ => ⟨rfl, tyX0 0, tyX0_ok 0 (by decide), rfl⟩⟩, List.forall_mem_cons.mpr ⟨⟨(RX0, TX0, 6), rfl, by decide, TG_1 (i := 189) rfl rfl, fun h => absurd h (by decide), fun h => absurd h (by decide), fun _ => ⟨rfl, tyX0 1, tyX0_ok 1 (by decide), rfl⟩⟩, List.forall_mem_cons.mpr ⟨⟨(RX0, TX0, 6), rfl, by decide, TG_1 (i := 191) rfl rfl, fun _ => ⟨rfl, rfl⟩, fun h => absurd h (by decide), fun h => absurd h (by decide)⟩, List.forall_mem_cons.mpr ⟨⟨(RX0, TX0, 6), rfl, by decide, TG_1 (i := 193) rfl rfl, fun h => absurd h (by decide), fun _ => ⟨rfl, rfl⟩, fun h => absurd h (by decide)⟩, List.forall_mem_cons.mpr ⟨⟨(RX0, TX0, 6), rfl, by decide, TG_1 (i := 192) rfl rfl, fun _ => ⟨rfl, rfl⟩, fun h => absurd h (by decide), fun h => absurd h (by decide)⟩, List.forall_mem_cons.mpr ⟨⟨(RX8, TX8, 10), rfl, by decide, TG_1 (i := 143) rfl rfl, fun h => absurd h (by decide), fun h => absurd h (by decide), fun _ => ⟨rfl, tyX8 2, tyX8_ok 2 (by decide), rfl⟩⟩, List.forall_mem_cons.mpr ⟨⟨(RX7, TX7, 17), rfl, by decide, TG_1 (i := 43) rfl rfl, fun _ => ⟨rfl, rfl⟩, fun h => absurd h (by decide), fun h => absurd h (by decide)⟩, List.forall_mem_nil _⟩⟩⟩⟩⟩⟩⟩⟩
set_option maxRecDepth 10000 in
theorem mF_1 : ∀ x ∈ mPoolF 1, mWF 1 x := List.forall_mem_cons.mpr ⟨⟨(RX1, TX1, 4), rfl, by decide, TG_2 (i := 74) rfl rfl, fun h => absurd h (by decide), fun h => absurd h (by decide), fun _ => ⟨rfl, tyX1 1, tyX1_ok 1 (by decide), rfl⟩⟩, List.forall_mem_cons.mpr ⟨⟨(RX1, TX1, 4), rfl, by decide, TG_2 (i := 75) rfl rfl, fun h => absurd h (by decide), fun h => absurd h (by decide), fun _ => ⟨rfl, tyX1 2, tyX1_ok 2 (by decide), rfl⟩⟩, List.forall_mem_cons.mpr ⟨⟨(RX1, TX1, 4), rfl, by decide, TG_2 (i := 73) rfl rfl, fun h => absurd h (by decide), fun h => absurd h (by decide), fun _ => ⟨rfl, tyX1 0, tyX1_ok 0 (by decide), rfl⟩⟩, List.forall_mem_cons.mpr ⟨⟨(RX1, TX1, 4), rfl, by decide, TG_2 (i := 77) rfl rfl, fun _ => ⟨rfl, rfl⟩, fun h => absurd h (by decide), fun h => absurd h (by decide)⟩, List.forall_mem_cons.mpr ⟨⟨(RX7, TX7, 17), rfl, by decide, TG_1 (i := 91) rfl rfl, fun h => absurd h (by decide), fun h => absurd h (by decide), fun _ => ⟨rfl, tyX7 14, tyX7_ok 14 (by decide), rfl⟩⟩, List.forall_mem_nil _⟩⟩⟩⟩⟩
set_option maxRecDepth 10000 in
theorem mF_2 : ∀ x ∈ mPoolF 2, mWF 2 x := List.forall_mem_cons.mpr ⟨⟨(RX2, TX2, 3), rfl, by decide, TG_2 (i := 4) rfl rfl, fun h => absurd h (by decide), fun h => absurd h (by decide), fun _ => ⟨rfl, tyX2 2, tyX2_ok 2 (by decide), rfl⟩⟩, List.forall_mem_cons.mpr ⟨⟨(RX2, TX2, 3), rfl, by decide, TG_2 (i := 2) rfl rfl, fun h => absurd h (by decide), fun h => absurd h (by decide), fun _ => ⟨rfl, tyX2 0, tyX2_ok 0 (by decide), rfl⟩⟩, List.forall_mem_cons.mpr ⟨⟨(RX2, TX2, 3), rfl, by decide, TG_2 (i := 3) rfl rfl, fun h => absurd h (by decide), fun h => absurd h (by decide), fun _ => ⟨rfl, tyX2 1, tyX2_ok 1 (by decide), rfl⟩⟩, List.forall_mem_cons.mpr ⟨⟨(RX7, TX7, 17), rfl, by decide, TG_1 (i := 39) rfl rfl, fun _ => ⟨rfl, rfl⟩, fun h => absurd h (by decide), fun h => absurd h (by decide)⟩, List.forall_mem_cons.mpr ⟨⟨(RX7, TX7, 17), rfl, by decide, TG_1 (i := 61) rfl rfl, fun h => absurd h (by decide), fun h => absurd h (by decide), fun _ => ⟨rfl, tyX7 5, tyX7_ok 5 (by decide), rfl⟩⟩, List.forall_mem_cons.mpr ⟨⟨(RX7, TX7, 17), rfl, by decide, TG_1 (i := 68) rfl rfl, fun h => absurd h (by decide), fun h => absurd h (by decide), fun _ => ⟨rfl, tyX7 6, tyX7_ok 6 (by decide), rfl⟩⟩, List.forall_mem_cons.mpr ⟨⟨(RX8, TX8, 10), rfl, by decide, TG_1 (i := 152) rfl rfl, fun h => absurd h (by decide), fun h => absurd h (by decide), fun _ => ⟨rfl, tyX8 6, tyX8_ok 6 (by decide), rfl⟩⟩, List.forall_mem_nil _⟩⟩⟩⟩⟩⟩⟩
set_option maxRecDepth 10000 in
theorem mF_3 : ∀ x ∈ mPoolF 3, mWF 3 x := List.forall_mem_cons.mpr ⟨⟨(RX3, TX3, 3), rfl, by decide, TG_2 (i := 24) rfl rfl, fun h => absurd h (by decide), fun h => absurd h (by decide), fun _ => ⟨rfl, tyX3 0, tyX3_ok 0 (by decide), rfl⟩⟩, List.forall_mem_cons.mpr ⟨⟨(RX3, TX3, 3), rfl, by decide, TG_2 (i := 26) rfl rfl, fun h => absurd h (by decide), fun h => absurd h (by decide), fun _ => ⟨rfl, tyX3 1, tyX3_ok 1 (by decide), rfl⟩⟩, List.forall_mem_cons.mpr ⟨⟨(RX3, TX3, 3), rfl, by decide, TG_2 (i := 27) rfl rfl, fun _ => ⟨rfl, rfl⟩, fun h => absurd h (by decide), fun h => absurd h (by decide)⟩, List.forall_mem_nil _⟩⟩⟩
set_option maxRecDepth 10000 in
theorem mF_4 : ∀ x ∈ mPoolF 4, mWF 4 x := List.forall_mem_cons.mpr ⟨⟨(RX4, TX4, 2), rfl, by decide, TG_2 (i := 95) rfl rfl, fun h => absurd h (by decide), fun h => absurd h (by decide), fun _ => ⟨rfl, tyX4 1, tyX4_ok 1 (by decide), rfl⟩⟩, List.forall_mem_cons.mpr ⟨⟨(RX4, TX4, 2), rfl, by decide, TG_2 (i := 94) rfl rfl, fun h => absurd h (by decide), fun h => absurd h (by decide), fun _ => ⟨rfl, tyX4 0, tyX4_ok 0 (by decide), rfl⟩⟩, List.forall_mem_cons.mpr ⟨⟨(RX7, TX7, 17), rfl, by decide, TG_1 (i := 46) rfl rfl, fun h => absurd h (by decide), fun h => absurd h (by decide), fun _ => ⟨rfl, tyX7 1, tyX7_ok 1 (by decide), rfl⟩⟩, List.forall_mem_cons.mpr ⟨⟨(RX7, TX7, 17), rfl, by decide, TG_1 (i := 63) rfl rfl, fun h => absurd h (by decide), fun h => absurd h (by decide), fun _ => ⟨rfl, tyX7 5, tyX7_ok 5 (by decide), rfl⟩⟩, List.forall_mem_cons.mpr ⟨⟨(RX7, TX7, 17), rfl, by decide, TG_1 (i := 72) rfl rfl, fun h => absurd h (by decide), fun h => absurd h (by decide), fun _ => ⟨rfl, tyX7 7, tyX7_ok 7 (by decide), rfl⟩⟩, List.forall_mem_nil _⟩⟩⟩⟩⟩
set_option maxRecDepth 10000 in
theorem mF_5 : ∀ x ∈ mPoolF 5, mWF 5 x := List.forall_mem_cons.mpr ⟨⟨(RX5, TX5, 2), rfl, by decide, TG_2 (i := 37) rfl rfl, fun h => absurd h (by decide), fun h => absurd h (by decide), fun _ => ⟨rfl, tyX5 1, tyX5_ok 1 (by decide), rfl⟩⟩, List.forall_mem_cons.mpr ⟨⟨(RX5, TX5, 2), rfl, by decide, TG_2 (i := 36) rfl rfl, fun h => absurd h (by decide), fun h => absurd h (by decide), fun _ => ⟨rfl, tyX5 0, tyX5_ok 0 (by decide), rfl⟩⟩, List.forall_mem_cons.mpr ⟨⟨(RX7, TX7, 17), rfl, by decide, TG_1 (i := 38) rfl rfl, fun _ => ⟨rfl, rfl⟩, fun h => absurd h (by decide), fun h => absurd h (by decide)⟩, List.forall_mem_cons.mpr ⟨⟨(RX7, TX7, 17), rfl, by decide, TG_1 (i := 50) rfl rfl, fun h => absurd h (by decide), fun h => absurd h (by decide), fun _ => ⟨rfl, tyX7 2, tyX7_ok 2 (by decide), rfl⟩⟩, List.forall_mem_cons.mpr ⟨⟨(RX3, TX3, 3), rfl, by decide, TG_2 (i := 28) rfl rfl, fun _ => ⟨rfl, rfl⟩, fun h => absurd h (by decide), fun h => absurd h (by decide)⟩, List.forall_mem_cons.mpr ⟨⟨(RX3, TX3, 3), rfl, by decide, TG_2 (i := 25) rfl rfl, fun h => absurd h (by decide), fun h => absurd h (by decide), fun _ => ⟨rfl, tyX3 0, tyX3_ok 0 (by decide), rfl⟩⟩, List.forall_mem_cons.mpr ⟨⟨(RX7, TX7, 17), rfl, by decide, TG_1 (i := 65) rfl rfl, fun h => absurd h (by decide), fun h => absurd h (by decide), fun _ => ⟨rfl, tyX7 5, tyX7_ok 5 (by decide), rfl⟩⟩, List.forall_mem_cons.mpr ⟨⟨(RX7, TX7, 17), rfl, by decide, TG_1 (i := 74) rfl rfl, fun h => absurd h (by decide), fun h => absurd h (by decide), fun _ => ⟨rfl, tyX7 7, tyX7_ok 7 (by decide), rfl⟩⟩, List.forall_mem_nil _⟩⟩⟩⟩⟩⟩⟩⟩
set_option maxRecDepth 10000 in
theorem mF_6 : ∀ x ∈ mPoolF 6, mWF 6 x := List.forall_mem_cons.mpr ⟨⟨(RX6, TX6, 5), rfl, by decide, TG_2 (i := 50) rfl rfl, fun h => absurd h (by decide), fun h => absurd h (by decide), fun _ => ⟨rfl, tyX6 1, tyX6_ok 1 (by decide), rfl⟩⟩, List.forall_mem_cons.mpr ⟨⟨(RX6, TX6, 5), rfl, by decide, TG_2 (i := 51) rfl rfl, fun h => absurd h (by decide), fun h => absurd h (by decide), fun _ => ⟨rfl, tyX6 2, tyX6_ok 2 (by decide), rfl⟩⟩, List.forall_mem_cons.mpr ⟨⟨(RX6, TX6, 5), rfl, by decide, TG_2 (i := 49) rfl rfl, fun h => absurd h (by decide), fun h => absurd h (by decide), fun _ => ⟨rfl, tyX6 0, tyX6_ok 0 (by decide), rfl⟩⟩, List.forall_mem_cons.mpr ⟨⟨(RX6, TX6, 5), rfl, by decide, TG_2 (i := 53) rfl rfl, fun _ => ⟨rfl, rfl⟩, fun h => absurd h (by decide), fun h => absurd h (by decide)⟩, List.forall_mem_cons.mpr ⟨⟨(RX6, TX6, 5), rfl, by decide, TG_2 (i := 55) rfl rfl, fun h => absurd h (by decide), fun _ => ⟨rfl, rfl⟩, fun h => absurd h (by decide)⟩, List.forall_mem_cons.mpr ⟨⟨(RX7, TX7, 17), rfl, by decide, TG_1 (i := 42) rfl rfl, fun _ => ⟨rfl, rfl⟩, fun h => absurd h (by decide), fun h => absurd h (by decide)⟩, List.forall_mem_cons.mpr ⟨⟨(RX7, TX7, 17), rfl, by decide, TG_1 (i := 87) rfl rfl, fun h => absurd h (by decide), fun h => absurd h (by decide), fun _ => ⟨rfl, tyX7 13, tyX7_ok 13 (by decide), rfl⟩⟩, List.forall_mem_cons.mpr ⟨⟨(RX7, TX7, 17), rfl, by decide, TG_1 (i := 57) rfl rfl, fun h => absurd h (by decide), fun h => absurd h (by decide), fun _ => ⟨rfl, tyX7 4, tyX7_ok 4 (by decide), rfl⟩⟩, List.forall_mem_nil _⟩⟩⟩⟩⟩⟩⟩⟩
set_option maxRecDepth 10000 in
theorem mF_7 : ∀ x ∈ mPoolF 7, mWF 7 x := List.forall_mem_cons.mpr ⟨⟨(RX7, TX7, 17), rfl, by decide, TG_1 (i := 45) rfl rfl, fun h => absurd h (by decide), fun h => absurd h (by decide), fun _ => ⟨rfl, tyX7 1, tyX7_ok 1 (by decide), rfl⟩⟩, List.forall_mem_cons.mpr ⟨⟨(RX7, TX7, 17), rfl, by decide, TG_1 (i := 49) rfl rfl, fun h => absurd h (by decide), fun h => absurd h (by decide), fun _ => ⟨rfl, tyX7 2, tyX7_ok 2 (by decide), rfl⟩⟩, List.forall_mem_cons.mpr ⟨⟨(RX7, TX7, 17), rfl, by decide, TG_1 (i := 53) rfl rfl, fun h => absurd h (by decide), fun h => absurd h (by decide), fun _ => ⟨rfl, tyX7 3, tyX7_ok 3 (by decide), rfl⟩⟩, List.forall_mem_cons.mpr ⟨⟨(RX7, TX7, 17), rfl, by decide, TG_1 (i := 56) rfl rfl, fun h => absurd h (by decide), fun h => absurd h (by decide), fun _ => ⟨rfl, tyX7 4, tyX7_ok 4 (by decide), rfl⟩⟩, List.forall_mem_cons.mpr ⟨⟨(RX7, TX7, 17), rfl, by decide, TG_1 (i := 60) rfl rfl, fun h => absurd h (by decide), fun h => absurd h (by decide), fun _ => ⟨rfl, tyX7 5, tyX7_ok 5 (by decide), rfl⟩⟩, List.forall_mem_cons.mpr ⟨⟨(RX7, TX7, 17), rfl, by decide, TG_1 (i := 66) rfl rfl, fun h => absurd h (by decide), fun h => absurd h (by decide), fun _ => ⟨rfl, tyX7 6, tyX7_ok 6 (by decide), rfl⟩⟩, List.forall_mem_cons.mpr ⟨⟨(RX7, TX7, 17), rfl, by decide, TG_1 (i := 71) rfl rfl, fun h => absurd h (by decide), fun h => absurd h (by decide), fun _ => ⟨rfl, tyX7 7, tyX7_ok 7 (by decide), rfl⟩⟩, List.forall_mem_cons.mpr ⟨⟨(RX7, TX7, 17), rfl, by decide, TG_1 (i := 76) rfl rfl, fun h => absurd h (by decide), fun h => absurd h (by decide), fun _ => ⟨rfl, tyX7 8, tyX7_ok 8 (by decide), rfl⟩⟩, List.forall_mem_cons.mpr ⟨⟨(RX7, TX7, 17), rfl, by decide, TG_1 (i := 78) rfl rfl, fun h => absurd h (by decide), fun h => absurd h (by decide), fun _ => ⟨rfl, tyX7 9, tyX7_ok 9 (by decide), rfl⟩⟩, List.forall_mem_cons.mpr ⟨⟨(RX7, TX7, 17), rfl, by decide, TG_1 (i := 79) rfl rfl, fun h => absurd h (by decide), fun h => absurd h (by decide), fun _ => ⟨rfl, tyX7 10, tyX7_ok 10 (by decide), rfl⟩⟩, List.forall_mem_cons.mpr ⟨⟨(RX7, TX7, 17), rfl, by decide, TG_1 (i := 80) rfl rfl, fun h => absurd h (by decide), fun h => absurd h (by decide), fun _ => ⟨rfl, tyX7 11, tyX7_ok 11 (by decide), rfl⟩⟩, List.forall_mem_cons.mpr ⟨⟨(RX7, TX7, 17), rfl, by decide, TG_1 (i := 83) rfl rfl, fun h => absurd h (by decide), fun h => absurd h (by decide), fun _ => ⟨rfl, tyX7 12, tyX7_ok 12 (by decide), rfl⟩⟩, List.forall_mem_cons.mpr ⟨⟨(RX7, TX7, 17), rfl, by decide, TG_1 (i := 86) rfl rfl, fun h => absurd h (by decide), fun h => absurd h (by decide), fun _ => ⟨rfl, tyX7 13, tyX7_ok 13 (by decide), rfl⟩⟩, List.forall_mem_cons.mpr ⟨⟨(RX7, TX7, 17), rfl, by decide, TG_1 (i := 90) rfl rfl, fun h => absurd h (by decide), fun h => absurd h (by decide), fun _ => ⟨rfl, tyX7 14, tyX7_ok 14 (by decide), rfl⟩⟩, List.forall_mem_cons.mpr ⟨⟨(RX7, TX7, 17), rfl, by decide, TG_1 (i := 96) rfl rfl, fun h => absurd h (by decide), fun h => absurd h (by decide), fun _ => ⟨rfl, tyX7 16, tyX7_ok 16 (by decide), rfl⟩⟩, List.forall_mem_cons.mpr ⟨⟨(RX7, TX7, 17), rfl, by decide, TG_1 (i := 37) rfl rfl, fun _ => ⟨rfl, rfl⟩, fun h => absurd h (by decide), fun h => absurd h (by decide)⟩, List.forall_mem_cons.mpr ⟨⟨(RX7, TX7, 17), rfl, by decide, TG_1 (i := 93) rfl rfl, fun h => absurd h (by decide), fun _ => ⟨rfl, rfl⟩, fun h => absurd h (by decide)⟩, List.forall_mem_nil _⟩⟩⟩⟩⟩⟩⟩⟩⟩⟩⟩⟩⟩⟩⟩⟩⟩
set_option maxRecDepth 10000 in
theorem mF_8 : ∀ x ∈ mPoolF 8, mWF 8 x := List.forall_mem_cons.mpr ⟨⟨(RX8, TX8, 10), rfl, by decide, TG_1 (i := 142) rfl rfl, fun h => absurd h (by decide), fun h => absurd h (by decide), fun _ => ⟨rfl, tyX8 2, tyX8_ok 2 (by decide), rfl⟩⟩, List.forall_mem_cons.mpr ⟨⟨(RX8, TX8, 10), rfl, by decide, TG_1 (i := 145) rfl rfl, fun h => absurd h (by decide), fun h => absurd h (by decide), fun _ => ⟨rfl, tyX8 3, tyX8_ok 3 (by decide), rfl⟩⟩, List.forall_mem_cons.mpr ⟨⟨(RX8, TX8, 10), rfl, by decide, TG_1 (i := 147) rfl rfl, fun h => absurd h (by decide), fun h => absurd h (by decide), fun _ => ⟨rfl, tyX8 4, tyX8_ok 4 (by decide), rfl⟩⟩, List.forall_mem_cons.mpr ⟨⟨(RX8, TX8, 10), rfl, by decide, TG_1 (i := 149) rfl rfl, fun h => absurd h (by decide), fun h => absurd h (by decide), fun _ => ⟨rfl, tyX8 5, tyX8_ok 5 (by decide), rfl⟩⟩, List.forall_mem_cons.mpr ⟨⟨(RX8, TX8, 10), rfl, by decide, TG_1 (i := 151) rfl rfl, fun h => absurd h (by decide), fun h => absurd h (by decide), fun _ => ⟨rfl, tyX8 6, tyX8_ok 6 (by decide), rfl⟩⟩, List.forall_mem_cons.mpr ⟨⟨(RX8, TX8, 10), rfl, by decide, TG_1 (i := 155) rfl rfl, fun h => absurd h (by decide), fun h => absurd h (by decide), fun _ => ⟨rfl, tyX8 7, tyX8_ok 7 (by decide), rfl⟩⟩, List.forall_mem_cons.mpr ⟨⟨(RX8, TX8, 10), rfl, by decide, TG_1 (i := 157) rfl rfl, fun h => absurd h (by decide), fun h => absurd h (by decide), fun _ => ⟨rfl, tyX8 8, tyX8_ok 8 (by decide), rfl⟩⟩, List.forall_mem_cons.mpr ⟨⟨(RX8, TX8, 10), rfl, by decide, TG_1 (i := 159) rfl rfl, fun h => absurd h (by decide), fun h => absurd h (by decide), fun _ => ⟨rfl, tyX8 9, tyX8_ok 9 (by decide), rfl⟩⟩, List.forall_mem_cons.mpr ⟨⟨(RX8, TX8, 10), rfl, by decide, TG_1 (i := 140) rfl rfl, fun h => absurd h (by decide), fun h => absurd h (by decide), fun _ => ⟨rfl, tyX8 0, tyX8_ok 0 (by decide), rfl⟩⟩, List.forall_mem_cons.mpr ⟨⟨(RX8, TX8, 10), rfl, by decide, TG_1 (i := 141) rfl rfl, fun _ => ⟨rfl, rfl⟩, fun h => absurd h (by decide), fun h => absurd h (by decide)⟩, List.forall_mem_cons.mpr ⟨⟨(RX7, TX7, 17), rfl, by decide, TG_1 (i := 40) rfl rfl, fun _ => ⟨rfl, rfl⟩, fun h => absurd h (by decide), fun h => absurd h (by decide)⟩, List.forall_mem_cons.mpr ⟨⟨(RX7, TX7, 17), rfl, by decide, TG_1 (i := 62) rfl rfl, fun h => absurd h (by decide), fun h => absurd h (by decide), fun _ => ⟨rfl, tyX7 5, tyX7_ok 5 (by decide), rfl⟩⟩, List.forall_mem_cons.mpr ⟨⟨(RX7, TX7, 17), rfl, by decide, TG_1 (i := 73) rfl rfl, fun h => absurd h (by decide), fun h => absurd h (by decide), fun _ => ⟨rfl, tyX7 7, tyX7_ok 7 (by decide), rfl⟩⟩, List.forall_mem_cons.mpr ⟨⟨(RX7, TX7, 17), rfl, by decide, TG_1 (i := 47) rfl rfl, fun h => absurd h (by decide), fun h => absurd h (by decide), fun _ => ⟨rfl, tyX7 1, tyX7_ok 1 (by decide), rfl⟩⟩, List.forall_mem_cons.mpr ⟨⟨(RX7, TX7, 17), rfl, by decide, TG_1 (i := 82) rfl rfl, fun h => absurd h (by decide), fun h => absurd h (by decide), fun _ => ⟨rfl, tyX7 11, tyX7_ok 11 (by decide), rfl⟩⟩, List.forall_mem_cons.mpr ⟨⟨(RX7, TX7, 17), rfl, by decide, TG_1 (i := 69) rfl rfl, fun h => absurd h (by decide), fun h => absurd h (by decide), fun _ => ⟨rfl, tyX7 6, tyX7_ok 6 (by decide), rfl⟩⟩, List.forall_mem_cons.mpr ⟨⟨(RX7, TX7, 17), rfl, by decide, TG_1 (i := 89) rfl rfl, fun h => absurd h (by decide), fun h => absurd h (by decide), fun _ => ⟨rfl, tyX7 13, tyX7_ok 13 (by decide), rfl⟩⟩, List.forall_mem_cons.mpr ⟨⟨(RX7, TX7, 17), rfl, by decide, TG_1 (i := 58) rfl rfl, fun h => absurd h (by decide), fun h => absurd h (by decide), fun _ => ⟨rfl, tyX7 4, tyX7_ok 4 (by decide), rfl⟩⟩, List.forall_mem_cons.mpr ⟨⟨(RX7, TX7, 17), rfl, by decide, TG_1 (i := 85) rfl rfl, fun h => absurd h (by decide), fun h => absurd h (by decide), fun _ => ⟨rfl, tyX7 12, tyX7_ok 12 (by decide), rfl⟩⟩, List.forall_mem_cons.mpr ⟨⟨(RX7, TX7, 17), rfl, by decide, TG_1 (i := 94) rfl rfl, fun h => absurd h (by decide), fun _ => ⟨rfl, rfl⟩, fun h => absurd h (by decide)⟩, List.forall_mem_cons.mpr ⟨⟨(RX7, TX7, 17), rfl, by decide, TG_1 (i := 97) rfl rfl, fun h => absurd h (by decide), fun h => absurd h (by decide), fun _ => ⟨rfl, tyX7 16, tyX7_ok 16 (by decide), rfl⟩⟩, List.forall_mem_cons.mpr ⟨⟨(RX7, TX7, 17), rfl, by decide, TG_1 (i := 52) rfl rfl, fun h => absurd h (by decide), fun h => absurd h (by decide), fun _ => ⟨rfl, tyX7 2, tyX7_ok 2 (by decide), rfl⟩⟩, List.forall_mem_cons.mpr ⟨⟨(RX7, TX7, 17), rfl, by decide, TG_1 (i := 55) rfl rfl, fun h => absurd h (by decide), fun h => absurd h (by decide), fun _ => ⟨rfl, tyX7 3, tyX7_ok 3 (by decide), rfl⟩⟩, List.forall_mem_nil _⟩⟩⟩⟩⟩⟩⟩⟩⟩⟩⟩⟩⟩⟩⟩⟩⟩⟩⟩⟩⟩⟩⟩
set_option maxRecDepth 10000 in
theorem mF_9 : ∀ x ∈ mPoolF 9, mWF 9 x := List.forall_mem_cons.mpr ⟨⟨(RX9, TX9, 6), rfl, by decide, TG_1 (i := 215) rfl rfl, fun h => absurd h (by decide), fun h => absurd h (by decide), fun _ => ⟨rfl, tyX9 2, tyX9_ok 2 (by decide), rfl⟩⟩, List.forall_mem_cons.mpr ⟨⟨(RX9, TX9, 6), rfl, by decide, TG_1 (i := 213) rfl rfl, fun h => absurd h (by decide), fun h => absurd h (by decide), fun _ => ⟨rfl, tyX9 0, tyX9_ok 0 (by decide), rfl⟩⟩, List.forall_mem_cons.mpr ⟨⟨(RX9, TX9, 6), rfl, by decide, TG_1 (i := 214) rfl rfl, fun h => absurd h (by decide), fun h => absurd h (by decide), fun _ => ⟨rfl, tyX9 1, tyX9_ok 1 (by decide), rfl⟩⟩, List.forall_mem_cons.mpr ⟨⟨(RX9, TX9, 6), rfl, by decide, TG_1 (i := 217) rfl rfl, fun _ => ⟨rfl, rfl⟩, fun h => absurd h (by decide), fun h => absurd h (by decide)⟩, List.forall_mem_cons.mpr ⟨⟨(RX9, TX9, 6), rfl, by decide, TG_1 (i := 219) rfl rfl, fun _ => ⟨rfl, rfl⟩, fun h => absurd h (by decide), fun h => absurd h (by decide)⟩, List.forall_mem_cons.mpr ⟨⟨(RX9, TX9, 6), rfl, by decide, TG_1 (i := 221) rfl rfl, fun _ => ⟨rfl, rfl⟩, fun h => absurd h (by decide), fun h => absurd h (by decide)⟩, List.forall_mem_cons.mpr ⟨⟨(RX7, TX7, 17), rfl, by decide, TG_1 (i := 67) rfl rfl, fun h => absurd h (by decide), fun h => absurd h (by decide), fun _ => ⟨rfl, tyX7 6, tyX7_ok 6 (by decide), rfl⟩⟩, List.forall_mem_cons.mpr ⟨⟨(RX7, TX7, 17), rfl, by decide, TG_1 (i := 41) rfl rfl, fun _ => ⟨rfl, rfl⟩, fun h => absurd h (by decide), fun h => absurd h (by decide)⟩, List.forall_mem_cons.mpr ⟨⟨(RX8, TX8, 10), rfl, by decide, TG_1 (i := 146) rfl rfl, fun h => absurd h (by decide), fun h => absurd h (by decide), fun _ => ⟨rfl, tyX8 3, tyX8_ok 3 (by decide), rfl⟩⟩, List.forall_mem_cons.mpr ⟨⟨(RX8, TX8, 10), rfl, by decide, TG_1 (i := 153) rfl rfl, fun h => absurd h (by decide), fun h => absurd h (by decide), fun _ => ⟨rfl, tyX8 6, tyX8_ok 6 (by decide), rfl⟩⟩, List.forall_mem_cons.mpr ⟨⟨(RX8, TX8, 10), rfl, by decide, TG_1 (i := 156) rfl rfl, fun h => absurd h (by decide), fun h => absurd h (by decide), fun _ => ⟨rfl, tyX8 7, tyX8_ok 7 (by decide), rfl⟩⟩, List.forall_mem_cons.mpr ⟨⟨(RX8, TX8, 10), rfl, by decide, TG_1 (i := 158) rfl rfl, fun h => absurd h (by decide), fun h => absurd h (by decide), fun _ => ⟨rfl, tyX8 8, tyX8_ok 8 (by decide), rfl⟩⟩, List.forall_mem_nil _⟩⟩⟩⟩⟩⟩⟩⟩⟩⟩⟩⟩
set_option maxRecDepth 10000 in
theorem mF_10 : ∀ x ∈ mPoolF 10, mWF 10 x := List.forall_mem_cons.mpr ⟨⟨(RX10, TX10, 15), rfl, by decide, TG_2 (i := 110) rfl rfl, fun h => absurd h (by decide), fun h => absurd h (by decide), fun _ => ⟨rfl, tyX10 0, tyX10_ok 0 (by decide), rfl⟩⟩, List.forall_mem_cons.mpr ⟨⟨(RX10, TX10, 15), rfl, by decide, TG_2 (i := 111) rfl rfl, fun h => absurd h (by decide), fun h => absurd h (by decide), fun _ => ⟨rfl, tyX10 1, tyX10_ok 1 (by decide), rfl⟩⟩, List.forall_mem_cons.mpr ⟨⟨(RX10, TX10, 15), rfl, by decide, TG_2 (i := 112) rfl rfl, fun h => absurd h (by decide), fun h => absurd h (by decide), fun _ => ⟨rfl, tyX10 2, tyX10_ok 2 (by decide), rfl⟩⟩, List.forall_mem_cons.mpr ⟨⟨(RX10, TX10, 15), rfl, by decide, TG_2 (i := 113) rfl rfl, fun h => absurd h (by decide), fun h => absurd h (by decide), fun _ => ⟨rfl, tyX10 3, tyX10_ok 3 (by decide), rfl⟩⟩, List.forall_mem_cons.mpr ⟨⟨(RX10, TX10, 15), rfl, by decide, TG_2 (i := 114) rfl rfl, fun h => absurd h (by decide), fun h => absurd h (by decide), fun _ => ⟨rfl, tyX10 4, tyX10_ok 4 (by decide), rfl⟩⟩, List.forall_mem_cons.mpr ⟨⟨(RX10, TX10, 15), rfl, by decide, TG_2 (i := 115) rfl rfl, fun h => absurd h (by decide), fun h => absurd h (by decide), fun _ => ⟨rfl, tyX10 5, tyX10_ok 5 (by decide), rfl⟩⟩, List.forall_mem_cons.mpr ⟨⟨(RX10, TX10, 15), rfl, by decide, TG_2 (i := 116) rfl rfl, fun h => absurd h (by decide), fun h => absurd h (by decide), fun _ => ⟨rfl, tyX10 6, tyX10_ok 6 (by decide), rfl⟩⟩, List.forall_mem_cons.mpr ⟨⟨(RX10, TX10, 15), rfl, by decide, TG_2 (i := 117) rfl rfl, fun h => absurd h (by decide), fun h => absurd h (by decide), fun _ => ⟨rfl, tyX10 7, tyX10_ok 7 (by decide), rfl⟩⟩, List.forall_mem_cons.mpr ⟨⟨(RX10, TX10, 15), rfl, by decide, TG_2 (i := 118) rfl rfl, fun h => absurd h (by decide), fun h => absurd h (by decide), fun _ => ⟨rfl, tyX10 8, tyX10_ok 8 (by decide), rfl⟩⟩, List.forall_mem_cons.mpr ⟨⟨(RX10, TX10, 15), rfl, by decide, TG_2 (i := 119) rfl rfl, fun h => absurd h (by decide), fun h => absurd h (by decide), fun _ => ⟨rfl, tyX10 9, tyX10_ok 9 (by decide), rfl⟩⟩, List.forall_mem_cons.mpr ⟨⟨(RX10, TX10, 15), rfl, by decide, TG_2 (i := 120) rfl rfl, fun h => absurd h (by decide), fun h => absurd h (by decide), fun _ => ⟨rfl, tyX10 10, tyX10_ok 10 (by decide), rfl⟩⟩, List.forall_mem_cons.mpr ⟨⟨(RX10, TX10, 15), rfl, by decide, TG_2 (i := 121) rfl rfl, fun h => absurd h (by decide), fun h => absurd h (by decide), fun _ => ⟨rfl, tyX10 11, tyX10_ok 11 (by decide), rfl⟩⟩, List.forall_mem_cons.mpr ⟨⟨(RX10, TX10, 15), rfl, by decide, TG_2 (i := 122) rfl rfl, fun h => absurd h (by decide), fun h => absurd h (by decide), fun _ => ⟨rfl, tyX10 12, tyX10_ok 12 (by decide), rfl⟩⟩, List.forall_mem_cons.mpr ⟨⟨(RX7, TX7, 17), rfl, by decide, TG_1 (i := 77) rfl rfl, fun h => absurd h (by decide), fun h => absurd h (by decide), fun _ => ⟨rfl, tyX7 8, tyX7_ok 8 (by decide), rfl⟩⟩, List.forall_mem_cons.mpr ⟨⟨(RX7, TX7, 17), rfl, by decide, TG_1 (i := 81) rfl rfl, fun h => absurd h (by decide), fun h => absurd h (by decide), fun _ => ⟨rfl, tyX7 11, tyX7_ok 11 (by decide), rfl⟩⟩, List.forall_mem_cons.mpr ⟨⟨(RX7, TX7, 17), rfl, by decide, TG_1 (i := 84) rfl rfl, fun h => absurd h (by decide), fun h => absurd h (by decide), fun _ => ⟨rfl, tyX7 12, tyX7_ok 12 (by decide), rfl⟩⟩, List.forall_mem_cons.mpr ⟨⟨(RX7, TX7, 17), rfl, by decide, TG_1 (i := 88) rfl rfl, fun h => absurd h (by decide), fun h => absurd h (by decide), fun _ => ⟨rfl, tyX7 13, tyX7_ok 13 (by decide), rfl⟩⟩, List.forall_mem_cons.mpr ⟨⟨(RX7, TX7, 17), rfl, by decide, TG_1 (i := 64) rfl rfl, fun h => absurd h (by decide), fun h => absurd h (by decide), fun _ => ⟨rfl, tyX7 5, tyX7_ok 5 (by decide), rfl⟩⟩, List.forall_mem_cons.mpr ⟨⟨(RX8, TX8, 10), rfl, by decide, TG_1 (i := 148) rfl rfl, fun h => absurd h (by decide), fun h => absurd h (by decide), fun _ => ⟨rfl, tyX8 4, tyX8_ok 4 (by decide), rfl⟩⟩, List.forall_mem_cons.mpr ⟨⟨(RX7, TX7, 17), rfl, by decide, TG_1 (i := 92) rfl rfl, fun h => absurd h (by decide), fun h => absurd h (by decide), fun _ => ⟨rfl, tyX7 14, tyX7_ok 14 (by decide), rfl⟩⟩, List.forall_mem_cons.mpr ⟨⟨(RX10, TX10, 15), rfl, by decide, TG_2 (i := 124) rfl rfl, fun _ => ⟨rfl, rfl⟩, fun h => absurd h (by decide), fun h => absurd h (by decide)⟩, List.forall_mem_cons.mpr ⟨⟨(RX10, TX10, 15), rfl, by decide, TG_2 (i := 123) rfl rfl, fun _ => ⟨rfl, rfl⟩, fun h => absurd h (by decide), fun h => absurd h (by decide)⟩, List.forall_mem_cons.mpr ⟨⟨(RX7, TX7, 17), rfl, by decide, TG_1 (i := 44) rfl rfl, fun _ => ⟨rfl, rfl⟩, fun h => absurd h (by decide), fun h => absurd h (by decide)⟩, List.forall_mem_cons.mpr ⟨⟨(RX7, TX7, 17), rfl, by decide, TG_1 (i := 48) rfl rfl, fun h => absurd h (by decide), fun h => absurd h (by decide), fun _ => ⟨rfl, tyX7 1, tyX7_ok 1 (by decide), rfl⟩⟩, List.forall_mem_cons.mpr ⟨⟨(RX7, TX7, 17), rfl, by decide, TG_1 (i := 51) rfl rfl, fun h => absurd h (by decide), fun h => absurd h (by decide), fun _ => ⟨rfl, tyX7 2, tyX7_ok 2 (by decide), rfl⟩⟩, List.forall_mem_cons.mpr ⟨⟨(RX7, TX7, 17), rfl, by decide, TG_1 (i := 54) rfl rfl, fun h => absurd h (by decide), fun h => absurd h (by decide), fun _ => ⟨rfl, tyX7 3, tyX7_ok 3 (by decide), rfl⟩⟩, List.forall_mem_cons.mpr ⟨⟨(RX7, TX7, 17), rfl, by decide, TG_1 (i := 59) rfl rfl, fun h => absurd h (by decide), fun h => absurd h (by decide), fun _ => ⟨rfl, tyX7 4, tyX7_ok 4 (by decide), rfl⟩⟩, List.forall_mem_cons.mpr ⟨⟨(RX7, TX7, 17), rfl, by decide, TG_1 (i := 70) rfl rfl, fun h => absurd h (by decide), fun h => absurd h (by decide), fun _ => ⟨rfl, tyX7 6, tyX7_ok 6 (by decide), rfl⟩⟩, List.forall_mem_cons.mpr ⟨⟨(RX7, TX7, 17), rfl, by decide, TG_1 (i := 75) rfl rfl, fun h => absurd h (by decide), fun h => absurd h (by decide), fun _ => ⟨rfl, tyX7 7, tyX7_ok 7 (by decide), rfl⟩⟩, List.forall_mem_cons.mpr ⟨⟨(RX8, TX8, 10), rfl, by decide, TG_1 (i := 154) rfl rfl, fun h => absurd h (by decide), fun h => absurd h (by decide), fun _ => ⟨rfl, tyX8 6, tyX8_ok 6 (by decide), rfl⟩⟩, List.forall_mem_cons.mpr ⟨⟨(RX8, TX8, 10), rfl, by decide, TG_1 (i := 150) rfl rfl, fun h => absurd h (by decide), fun h => absurd h (by decide), fun _ => ⟨rfl, tyX8 5, tyX8_ok 5 (by decide), rfl⟩⟩, List.forall_mem_cons.mpr ⟨⟨(RX9, TX9, 6), rfl, by decide, TG_1 (i := 218) rfl rfl, fun _ => ⟨rfl, rfl⟩, fun h => absurd h (by decide), fun h => absurd h (by decide)⟩, List.forall_mem_cons.mpr ⟨⟨(RX9, TX9, 6), rfl, by decide, TG_1 (i := 216) rfl rfl, fun h => absurd h (by decide), fun h => absurd h (by decide), fun _ => ⟨rfl, tyX9 2, tyX9_ok 2 (by decide), rfl⟩⟩, List.forall_mem_cons.mpr ⟨⟨(RX9, TX9, 6), rfl, by decide, TG_1 (i := 220) rfl rfl, fun _ => ⟨rfl, rfl⟩, fun h => absurd h (by decide), fun h => absurd h (by decide)⟩, List.forall_mem_cons.mpr ⟨⟨(RX9, TX9, 6), rfl, by decide, TG_1 (i := 222) rfl rfl, fun _ => ⟨rfl, rfl⟩, fun h => absurd h (by decide), fun h => absurd h (by decide)⟩, List.forall_mem_cons.mpr ⟨⟨(RX6, TX6, 5), rfl, by decide, TG_2 (i := 54) rfl rfl, fun _ => ⟨rfl, rfl⟩, fun h => absurd h (by decide), fun h => absurd h (by decide)⟩, List.forall_mem_cons.mpr ⟨⟨(RX6, TX6, 5), rfl, by decide, TG_2 (i := 52) rfl rfl, fun h => absurd h (by decide), fun h => absurd h (by decide), fun _ => ⟨rfl, tyX6 2, tyX6_ok 2 (by decide), rfl⟩⟩, List.forall_mem_cons.mpr ⟨⟨(RX1, TX1, 4), rfl, by decide, TG_2 (i := 78) rfl rfl, fun _ => ⟨rfl, rfl⟩, fun h => absurd h (by decide), fun h => absurd h (by decide)⟩, List.forall_mem_cons.mpr ⟨⟨(RX1, TX1, 4), rfl, by decide, TG_2 (i := 76) rfl rfl, fun h => absurd h (by decide), fun h => absurd h (by decide), fun _ => ⟨rfl, tyX1 2, tyX1_ok 2 (by decide), rfl⟩⟩, List.forall_mem_cons.mpr ⟨⟨(RX7, TX7, 17), rfl, by decide, TG_1 (i := 95) rfl rfl, fun h => absurd h (by decide), fun _ => ⟨rfl, rfl⟩, fun h => absurd h (by decide)⟩, List.forall_mem_cons.mpr ⟨⟨(RX8, TX8, 10), rfl, by decide, TG_1 (i := 144) rfl rfl, fun h => absurd h (by decide), fun h => absurd h (by decide), fun _ => ⟨rfl, tyX8 2, tyX8_ok 2 (by decide), rfl⟩⟩, List.forall_mem_nil _⟩⟩⟩⟩⟩⟩⟩⟩⟩⟩⟩⟩⟩⟩⟩⟩⟩⟩⟩⟩⟩⟩⟩⟩⟩⟩⟩⟩⟩⟩⟩⟩⟩⟩⟩⟩⟩⟩⟩⟩⟩
set_option maxRecDepth 10000 in
theorem mF_11 : ∀ x ∈ mPoolF 11, mWF 11 x := List.forall_mem_cons.mpr ⟨⟨(RX11, TX11, 20), rfl, by decide, TG_5 (i := 219) rfl rfl, fun h => absurd h (by decide), fun h => absurd h (by decide), fun _ => ⟨rfl, tyX11 0, tyX11_ok 0 (by decide), rfl⟩⟩, List.forall_mem_cons.mpr ⟨⟨(RX11, TX11, 20), rfl, by decide, TG_5 (i := 220) rfl rfl, fun h => absurd h (by decide), fun h => absurd h (by decide), fun _ => ⟨rfl, tyX11 1, tyX11_ok 1 (by decide), rfl⟩⟩, List.forall_mem_cons.mpr ⟨⟨(RX11, TX11, 20), rfl, by decide, TG_5 (i := 223) rfl rfl, fun h => absurd h (by decide), fun h => absurd h (by decide), fun _ => ⟨rfl, tyX11 4, tyX11_ok 4 (by decide), rfl⟩⟩, List.forall_mem_cons.mpr ⟨⟨(RX11, TX11, 20), rfl, by decide, TG_5 (i := 224) rfl rfl, fun h => absurd h (by decide), fun h => absurd h (by decide), fun _ => ⟨rfl, tyX11 5, tyX11_ok 5 (by decide), rfl⟩⟩, List.forall_mem_cons.mpr ⟨⟨(RX11, TX11, 20), rfl, by decide, TG_5 (i := 225) rfl rfl, fun h => absurd h (by decide), fun h => absurd h (by decide), fun _ => ⟨rfl, tyX11 6, tyX11_ok 6 (by decide), rfl⟩⟩, List.forall_mem_cons.mpr ⟨⟨(RX11, TX11, 20), rfl, by decide, TG_5 (i := 226) rfl rfl, fun h => absurd h (by decide), fun h => absurd h (by decide), fun _ => ⟨rfl, tyX11 7, tyX11_ok 7 (by decide), rfl⟩⟩, List.forall_mem_cons.mpr ⟨⟨(RX11, TX11, 20), rfl, by decide, TG_5 (i := 227) rfl rfl, fun h => absurd h (by decide), fun h => absurd h (by decide), fun _ => ⟨rfl, tyX11 8, tyX11_ok 8 (by decide), rfl⟩⟩, List.forall_mem_cons.mpr ⟨⟨(RX11, TX11, 20), rfl, by decide, TG_5 (i := 228) rfl rfl, fun h => absurd h (by decide), fun h => absurd h (by decide), fun _ => ⟨rfl, tyX11 9, tyX11_ok 9 (by decide), rfl⟩⟩, List.forall_mem_cons.mpr ⟨⟨(RX11, TX11, 20), rfl, by decide, TG_5 (i := 229) rfl rfl, fun h => absurd h (by decide), fun h => absurd h (by decide), fun _ => ⟨rfl, tyX11 10, tyX11_ok 10 (by decide), rfl⟩⟩, List.forall_mem_cons.mpr ⟨⟨(RX11, TX11, 20), rfl, by decide, TG_5 (i := 230) rfl rfl, fun h => absurd h (by decide), fun h => absurd h (by decide), fun _ => ⟨rfl, tyX11 11, tyX11_ok 11 (by decide), rfl⟩⟩, List.forall_mem_cons.mpr ⟨⟨(RX11, TX11, 20), rfl, by decide, TG_5 (i := 231) rfl rfl, fun h => absurd h (by decide), fun h => absurd h (by decide), fun _ => ⟨rfl, tyX11 12, tyX11_ok 12 (by decide), rfl⟩⟩, List.forall_mem_cons.mpr ⟨⟨(RX11, TX11, 20), rfl, by decide, TG_5 (i := 232) rfl rfl, fun h => absurd h (by decide), fun h => absurd h (by decide), fun _ => ⟨rfl, tyX11 13, tyX11_ok 13 (by decide), rfl⟩⟩, List.forall_mem_cons.mpr ⟨⟨(RX11, TX11, 20), rfl, by decide, TG_5 (i := 233) rfl rfl, fun h => absurd h (by decide), fun h => absurd h (by decide), fun _ => ⟨rfl, tyX11 14, tyX11_ok 14 (by decide), rfl⟩⟩, List.forall_mem_cons.mpr ⟨⟨(RX11, TX11, 20), rfl, by decide, TG_5 (i := 234) rfl rfl, fun h => absurd h (by decide), fun h => absurd h (by decide), fun _ => ⟨rfl, tyX11 15, tyX11_ok 15 (by decide), rfl⟩⟩, List.forall_mem_cons.mpr ⟨⟨(RX11, TX11, 20), rfl, by decide, TG_5 (i := 235) rfl rfl, fun h => absurd h (by decide), fun h => absurd h (by decide), fun _ => ⟨rfl, tyX11 16, tyX11_ok 16 (by decide), rfl⟩⟩, List.forall_mem_cons.mpr ⟨⟨(RX11, TX11, 20), rfl, by decide, TG_5 (i := 236) rfl rfl, fun h => absurd h (by decide), fun h => absurd h (by decide), fun _ => ⟨rfl, tyX11 17, tyX11_ok 17 (by decide), rfl⟩⟩, List.forall_mem_cons.mpr ⟨⟨(RX11, TX11, 20), rfl, by decide, TG_5 (i := 237) rfl rfl, fun h => absurd h (by decide), fun h => absurd h (by decide), fun _ => ⟨rfl, tyX11 18, tyX11_ok 18 (by decide), rfl⟩⟩, List.forall_mem_cons.mpr ⟨⟨(RX11, TX11, 20), rfl, by decide, TG_5 (i := 222) rfl rfl, fun _ => ⟨rfl, rfl⟩, fun h => absurd h (by decide), fun h => absurd h (by decide)⟩, List.forall_mem_cons.mpr ⟨⟨(RX11, TX11, 20), rfl, by decide, TG_5 (i := 221) rfl rfl, fun _ => ⟨rfl, rfl⟩, fun h => absurd h (by decide), fun h => absurd h (by decide)⟩, List.forall_mem_cons.mpr ⟨⟨(RX11, TX11, 20), rfl, by decide, TG_5 (i := 238) rfl rfl, fun _ => ⟨rfl, rfl⟩, fun h => absurd h (by decide), fun h => absurd h (by decide)⟩, List.forall_mem_nil _⟩⟩⟩⟩⟩⟩⟩⟩⟩⟩⟩⟩⟩⟩⟩⟩⟩⟩⟩⟩
theorem mF_ok (o : Nat) : ∀ x ∈ mPoolF o, mWF o x := by
  match o with
  | 0 => exact mF_0
  | 1 => exact mF_1
  | 2 => exact mF_2
  | 3 => exact mF_3
  | 4 => exact mF_4
  | 5 => exact mF_5
  | 6 => exact mF_6
  | 7 => exact mF_7
  | 8 => exact mF_8
  | 9 => exact mF_9
  | 10 => exact mF_10
  | 11 => exact mF_11
  | n => 
    intro x hx
    unfold mPoolF at hx
    split at hx <;> first | exact absurd hx List.not_mem_nil | skip
    · exact mF_0 x hx
    · exact mF_1 x hx
    · exact mF_2 x hx
    · exact mF_3 x hx
    · exact mF_4 x hx
    · exact mF_5 x hx
    · exact mF_6 x hx
    · exact mF_7 x hx
    · exact mF_8 x hx
    · exact mF_9 x hx
    · exact mF_10 x hx
    · exact mF_11 x hx
def mPoolM : Nat → List (Nat × Nat × Nat)
  | 0 => [(3, 0, 4), (23, 40, 0), (29, 0, 6), (43, 47, 0), (48, 2, 0), (52, 56, 0), (55, 68, 0), (63, 0, 7), (72, 48, 0), (76, 57, 0)]
  | 1 => [(3, 0, 4), (26, 5, 0), (30, 6, 0), (39, 237, 1), (44, 0, 7)]
  | 2 => [(3, 0, 4), (23, 241, 1), (38, 9, 0), (45, 49, 0), (51, 0, 6), (60, 0, 5), (63, 44, 0)]
  | 3 => [(3, 0, 4)]
  | 4 => [(3, 0, 4), (19, 41, 0), (25, 0, 6), (30, 15, 0), (40, 0, 5), (43, 240, 1)]
  | 5 => [(3, 0, 4), (11, 10, 3), (22, 11, 0), (31, 41, 0), (35, 12, 0), (43, 17, 0), (51, 18, 0), (54, 0, 5), (59, 22, 0), (69, 23, 0), (72, 24, 0)]
  | 6 => [(3, 0, 4), (30, 29, 0), (39, 0, 7), (45, 30, 0)]
  | 7 => [(3, 0, 4), (61, 33, 1), (69, 0, 6), (75, 0, 7), (81, 35, 0), (85, 36, 0), (89, 41, 0), (92, 0, 5), (95, 42, 0)]
  | 8 => [(3, 0, 4), (44, 241, 1), (64, 50, 0), (68, 49, 0), (83, 53, 0), (90, 52, 0), (93, 51, 0), (96, 0, 5), (102, 54, 0), (105, 45, 0), (109, 48, 0), (113, 55, 0), (116, 47, 0), (123, 59, 0), (127, 40, 0), (132, 56, 0), (135, 63, 0), (138, 64, 0), (148, 66, 0), (151, 41, 0), (154, 67, 0), (157, 0, 6)]
  | 9 => [(3, 0, 4), (33, 72, 0), (42, 0, 5), (48, 73, 0), (60, 49, 0)]
  | 10 => [(3, 0, 4), (11, 31, 3), (18, 46, 2), (41, 0, 2), (50, 70, 2), (57, 7, 2), (64, 16, 2), (71, 27, 2), (78, 3, 2), (85, 13, 2), (90, 35, 0), (94, 36, 0), (98, 119, 1), (102, 124, 1), (116, 131, 0), (119, 37, 0), (122, 58, 0), (131, 120, 1), (137, 132, 0), (140, 128, 0), (143, 121, 0), (151, 38, 0), (157, 39, 0), (161, 125, 1), (164, 47, 0), (167, 62, 0), (170, 133, 0), (174, 134, 0), (183, 126, 1), (186, 40, 0), (191, 1, 0), (194, 68, 0), (205, 135, 0), (211, 129, 0), (214, 61, 0), (218, 60, 0), (223, 127, 1), (236, 32, 0), (254, 41, 0), (258, 122, 0), (271, 67, 0), (274, 43, 0), (282, 130, 1), (285, 49, 0), (288, 71, 0), (303, 59, 0), (306, 19, 0), (309, 20, 0), (312, 21, 0), (315, 237, 1), (320, 25, 0), (323, 123, 0), (326, 26, 0), (329, 28, 0), (336, 4, 0), (345, 14, 0), (348, 69, 0), (351, 42, 0), (358, 8, 0), (375, 0, 6), (383, 34, 0), (389, 48, 0), (392, 56, 0), (395, 0, 7), (401, 65, 0)]
  | 11 => [(3, 0, 4), (61, 140, 0), (65, 141, 0), (73, 142, 0), (77, 144, 0), (80, 145, 0), (83, 138, 1), (87, 148, 0), (91, 153, 0), (95, 143, 0), (98, 154, 0), (101, 0, 5), (106, 152, 0), (109, 151, 0), (112, 155, 0), (116, 156, 0), (120, 147, 0), (124, 157, 0), (128, 161, 0), (131, 163, 0), (135, 0, 7), (141, 158, 0), (145, 159, 0), (151, 139, 0), (155, 167, 0), (158, 166, 0), (161, 164, 0), (164, 162, 0), (167, 165, 0), (172, 160, 0), (175, 178, 0), (178, 177, 0), (181, 176, 0), (184, 180, 0), (187, 150, 0), (190, 183, 0), (193, 146, 0), (196, 149, 0), (199, 190, 0), (202, 195, 0), (205, 198, 0), (208, 199, 0), (214, 201, 0), (217, 200, 0), (220, 202, 0), (223, 205, 0), (227, 210, 0), (230, 211, 0), (233, 212, 0), (236, 215, 0), (239, 221, 0), (242, 220, 0), (245, 222, 0), (248, 226, 1), (251, 225, 0), (256, 229, 0), (260, 0, 6), (263, 234, 0), (266, 194, 0), (269, 235, 0)]
  | 12 => [(7, 75, 0), (19, 76, 0), (22, 77, 0), (25, 78, 0), (29, 79, 0), (32, 80, 0), (36, 81, 0), (39, 82, 0), (43, 83, 0), (46, 84, 0), (50, 85, 0), (53, 86, 0), (56, 87, 0), (59, 90, 0), (62, 91, 0), (65, 92, 0), (68, 93, 0), (71, 94, 0), (74, 96, 0), (77, 97, 0), (80, 98, 0), (84, 99, 0), (87, 100, 0), (90, 101, 0), (93, 102, 0), (96, 103, 0), (99, 107, 0), (103, 109, 0), (106, 111, 0), (109, 112, 0), (112, 113, 0), (115, 114, 0), (118, 115, 0), (121, 116, 0), (125, 117, 0), (129, 74, 2), (132, 136, 2), (133, 242, 8), (138, 168, 0), (139, 137, 0), (142, 243, 8), (144, 169, 0), (145, 244, 8), (147, 170, 0), (148, 245, 8), (151, 171, 0), (152, 246, 8), (154, 172, 0), (155, 247, 8), (158, 173, 0), (159, 248, 8), (161, 174, 0), (164, 249, 8), (167, 175, 0), (168, 250, 8), (170, 179, 0), (171, 251, 8), (174, 181, 0), (175, 252, 8), (177, 182, 0), (178, 253, 8), (180, 184, 0), (181, 254, 8), (183, 185, 0), (184, 88, 0), (187, 186, 0), (188, 89, 0), (191, 187, 0), (192, 255, 8), (194, 188, 0), (195, 256, 8), (197, 189, 0), (198, 257, 8), (200, 191, 0), (201, 258, 8), (203, 192, 0), (204, 259, 8), (206, 193, 0), (207, 95, 0), (210, 194, 0), (211, 260, 8), (213, 196, 0), (214, 261, 8), (216, 197, 0), (217, 262, 8), (220, 203, 0), (221, 263, 8), (223, 204, 0), (224, 264, 8), (226, 206, 0), (227, 265, 8), (229, 207, 0), (230, 266, 8), (232, 208, 0), (233, 267, 8), (235, 209, 0), (236, 104, 0), (239, 213, 0), (240, 105, 0), (243, 214, 0), (244, 106, 0), (247, 216, 0), (248, 268, 8), (250, 217, 0), (251, 108, 0), (254, 218, 0), (255, 269, 8), (257, 219, 0), (258, 110, 0), (261, 223, 0), (262, 270, 8), (264, 224, 0), (265, 271, 8), (267, 227, 0), (268, 272, 8), (270, 228, 0), (271, 273, 8), (273, 230, 0), (274, 274, 8), (276, 231, 0), (277, 275, 8), (280, 232, 0), (281, 276, 8), (284, 233, 0), (285, 118, 0), (288, 236, 0)]
  | _ => []
def mBad : List Cond := [(Cond.methodLinkNest "JobWorkshop" (11 : Nat) ({ cls := "JobWorkshop$Shop", name := "<init>", desc := "()V" } : Jvm.MethodName) "JobWorkshop"),
  (Cond.methodLinkNest "JobWorkshop$Sequences" (11 : Nat) ({ cls := "JobWorkshop$KeyedJobs", name := "<init>", desc := "()V" } : Jvm.MethodName) "JobWorkshop"),
  (Cond.castable "java/lang/IndexOutOfBoundsException" "java/lang/IndexOutOfBoundsException"),
  (Cond.declares ({ cls := "java/lang/RuntimeException", name := "<init>", desc := "()V" } : Jvm.MethodName)),
  (Cond.declares ({ cls := "java/lang/RuntimeException", name := "<init>", desc := "(Ljava/lang/String;)V" } : Jvm.MethodName)),
  (Cond.declares ({ cls := "java/lang/Exception", name := "<init>", desc := "()V" } : Jvm.MethodName)),
  (Cond.declares ({ cls := "java/lang/Exception", name := "<init>", desc := "(Ljava/lang/String;)V" } : Jvm.MethodName)),
  (Cond.declares ({ cls := "java/lang/Throwable", name := "<init>", desc := "()V" } : Jvm.MethodName)),
  (Cond.declares ({ cls := "java/lang/Throwable", name := "<init>", desc := "(Ljava/lang/String;)V" } : Jvm.MethodName)),
  (Cond.castable "java/lang/IllegalArgumentException" "java/lang/IllegalArgumentException"),
  (Cond.castable "java/lang/IllegalStateException" "java/lang/IllegalStateException")]
theorem mBad_tbl : ∀ w ∈ mBad, w ∈ lw_tbl := List.forall_mem_cons.mpr ⟨TT_1 (i := 33) rfl, List.forall_mem_cons.mpr ⟨TT_2 (i := 20) rfl, List.forall_mem_cons.mpr ⟨TT_3 (i := 149) rfl, List.forall_mem_cons.mpr ⟨TT_3 (i := 150) rfl, List.forall_mem_cons.mpr ⟨TT_3 (i := 151) rfl, List.forall_mem_cons.mpr ⟨TT_3 (i := 152) rfl, List.forall_mem_cons.mpr ⟨TT_3 (i := 153) rfl, List.forall_mem_cons.mpr ⟨TT_3 (i := 154) rfl, List.forall_mem_cons.mpr ⟨TT_3 (i := 155) rfl, List.forall_mem_cons.mpr ⟨TT_3 (i := 220) rfl, List.forall_mem_cons.mpr ⟨TT_3 (i := 236) rfl, List.forall_mem_nil _⟩⟩⟩⟩⟩⟩⟩⟩⟩⟩⟩
theorem mBad_on : ∀ w ∈ mBad, w.onTables = true := by decide +kernel
noncomputable def mLnk (o : Nat) (x : Nat × Nat × Nat) : Cond := match x.2.2 with
  | 4 => .methodLink (mOwn o) x.1 Lib.objectInit
  | 5 => .methodLink (mOwn o) x.1 Lib.Math.max.name
  | 6 => .methodLink (mOwn o) x.1 Lib.Math.min.name
  | 7 => .methodLink (mOwn o) x.1 arraycopyName
  | 3 => .methodLinkNest (mOwn o) x.1 (mY x.2.1) "JobWorkshop"
  | _ => .methodLink (mOwn o) x.1 (mY x.2.1)
def mWM (o : Nat) (x : Nat × Nat × Nat) : Prop := (x.2.2 = 3 → mLnk o x ∈ mBad) ∧ (x.2.2 ≠ 3 → mLnk o x ∈ TG) ∧ x.2.1 < 277 ∧ x.2.1 ≠ 238 ∧ x.2.1 ≠ 239
set_option maxRecDepth 10000 in
theorem mM_0 : ∀ x ∈ mPoolM 0, mWM 0 x := List.forall_mem_cons.mpr ⟨⟨fun h => absurd h (by decide), fun _ => TG_1 (i := 187) rfl rfl, by decide, by decide, by decide⟩, List.forall_mem_cons.mpr ⟨⟨fun h => absurd h (by decide), fun _ => TG_4 (i := 146) rfl rfl, by decide, by decide, by decide⟩, List.forall_mem_cons.mpr ⟨⟨fun h => absurd h (by decide), fun _ => TG_4 (i := 147) rfl rfl, by decide, by decide, by decide⟩, List.forall_mem_cons.mpr ⟨⟨fun h => absurd h (by decide), fun _ => TG_4 (i := 148) rfl rfl, by decide, by decide, by decide⟩, List.forall_mem_cons.mpr ⟨⟨fun h => absurd h (by decide), fun _ => TG_4 (i := 149) rfl rfl, by decide, by decide, by decide⟩, List.forall_mem_cons.mpr ⟨⟨fun h => absurd h (by decide), fun _ => TG_4 (i := 156) rfl rfl, by decide, by decide, by decide⟩, List.forall_mem_cons.mpr ⟨⟨fun h => absurd h (by decide), fun _ => TG_4 (i := 153) rfl rfl, by decide, by decide, by decide⟩, List.forall_mem_cons.mpr ⟨⟨fun h => absurd h (by decide), fun _ => TG_4 (i := 154) rfl rfl, by decide, by decide, by decide⟩, List.forall_mem_cons.mpr ⟨⟨fun h => absurd h (by decide), fun _ => TG_4 (i := 155) rfl rfl, by decide, by decide, by decide⟩, List.forall_mem_cons.mpr ⟨⟨fun h => absurd h (by decide), fun _ => TG_4 (i := 157) rfl rfl, by decide, by decide, by decide⟩, List.forall_mem_nil _⟩⟩⟩⟩⟩⟩⟩⟩⟩⟩
set_option maxRecDepth 10000 in
theorem mM_1 : ∀ x ∈ mPoolM 1, mWM 1 x := List.forall_mem_cons.mpr ⟨⟨fun h => absurd h (by decide), fun _ => TG_2 (i := 72) rfl rfl, by decide, by decide, by decide⟩, List.forall_mem_cons.mpr ⟨⟨fun h => absurd h (by decide), fun _ => TG_5 (i := 135) rfl rfl, by decide, by decide, by decide⟩, List.forall_mem_cons.mpr ⟨⟨fun h => absurd h (by decide), fun _ => TG_5 (i := 139) rfl rfl, by decide, by decide, by decide⟩, List.forall_mem_cons.mpr ⟨⟨fun h => absurd h (by decide), fun _ => TG_5 (i := 143) rfl rfl, by decide, by decide, by decide⟩, List.forall_mem_cons.mpr ⟨⟨fun h => absurd h (by decide), fun _ => TG_5 (i := 144) rfl rfl, by decide, by decide, by decide⟩, List.forall_mem_nil _⟩⟩⟩⟩⟩
set_option maxRecDepth 10000 in
theorem mM_2 : ∀ x ∈ mPoolM 2, mWM 2 x := List.forall_mem_cons.mpr ⟨⟨fun h => absurd h (by decide), fun _ => TG_2 (i := 1) rfl rfl, by decide, by decide, by decide⟩, List.forall_mem_cons.mpr ⟨⟨fun h => absurd h (by decide), fun _ => TG_3 (i := 122) rfl rfl, by decide, by decide, by decide⟩, List.forall_mem_cons.mpr ⟨⟨fun h => absurd h (by decide), fun _ => TG_3 (i := 123) rfl rfl, by decide, by decide, by decide⟩, List.forall_mem_cons.mpr ⟨⟨fun h => absurd h (by decide), fun _ => TG_3 (i := 127) rfl rfl, by decide, by decide, by decide⟩, List.forall_mem_cons.mpr ⟨⟨fun h => absurd h (by decide), fun _ => TG_3 (i := 128) rfl rfl, by decide, by decide, by decide⟩, List.forall_mem_cons.mpr ⟨⟨fun h => absurd h (by decide), fun _ => TG_3 (i := 129) rfl rfl, by decide, by decide, by decide⟩, List.forall_mem_cons.mpr ⟨⟨fun h => absurd h (by decide), fun _ => TG_3 (i := 130) rfl rfl, by decide, by decide, by decide⟩, List.forall_mem_nil _⟩⟩⟩⟩⟩⟩⟩
set_option maxRecDepth 10000 in
theorem mM_3 : ∀ x ∈ mPoolM 3, mWM 3 x := List.forall_mem_cons.mpr ⟨⟨fun h => absurd h (by decide), fun _ => TG_2 (i := 23) rfl rfl, by decide, by decide, by decide⟩, List.forall_mem_nil _⟩
set_option maxRecDepth 10000 in
theorem mM_4 : ∀ x ∈ mPoolM 4, mWM 4 x := List.forall_mem_cons.mpr ⟨⟨fun h => absurd h (by decide), fun _ => TG_2 (i := 93) rfl rfl, by decide, by decide, by decide⟩, List.forall_mem_cons.mpr ⟨⟨fun h => absurd h (by decide), fun _ => TG_5 (i := 163) rfl rfl, by decide, by decide, by decide⟩, List.forall_mem_cons.mpr ⟨⟨fun h => absurd h (by decide), fun _ => TG_5 (i := 164) rfl rfl, by decide, by decide, by decide⟩, List.forall_mem_cons.mpr ⟨⟨fun h => absurd h (by decide), fun _ => TG_5 (i := 165) rfl rfl, by decide, by decide, by decide⟩, List.forall_mem_cons.mpr ⟨⟨fun h => absurd h (by decide), fun _ => TG_5 (i := 173) rfl rfl, by decide, by decide, by decide⟩, List.forall_mem_cons.mpr ⟨⟨fun h => absurd h (by decide), fun _ => TG_5 (i := 169) rfl rfl, by decide, by decide, by decide⟩, List.forall_mem_nil _⟩⟩⟩⟩⟩⟩
set_option maxRecDepth 10000 in
theorem mM_5 : ∀ x ∈ mPoolM 5, mWM 5 x := List.forall_mem_cons.mpr ⟨⟨fun h => absurd h (by decide), fun _ => TG_2 (i := 17) rfl rfl, by decide, by decide, by decide⟩, List.forall_mem_cons.mpr ⟨⟨fun _ => List.mem_of_getElem? (i := 1) rfl, fun h => absurd rfl h, by decide, by decide, by decide⟩, List.forall_mem_cons.mpr ⟨⟨fun h => absurd h (by decide), fun _ => TG_3 (i := 28) rfl rfl, by decide, by decide, by decide⟩, List.forall_mem_cons.mpr ⟨⟨fun h => absurd h (by decide), fun _ => TG_3 (i := 32) rfl rfl, by decide, by decide, by decide⟩, List.forall_mem_cons.mpr ⟨⟨fun h => absurd h (by decide), fun _ => TG_3 (i := 33) rfl rfl, by decide, by decide, by decide⟩, List.forall_mem_cons.mpr ⟨⟨fun h => absurd h (by decide), fun _ => TG_3 (i := 24) rfl rfl, by decide, by decide, by decide⟩, List.forall_mem_cons.mpr ⟨⟨fun h => absurd h (by decide), fun _ => TG_3 (i := 45) rfl rfl, by decide, by decide, by decide⟩, List.forall_mem_cons.mpr ⟨⟨fun h => absurd h (by decide), fun _ => TG_3 (i := 49) rfl rfl, by decide, by decide, by decide⟩, List.forall_mem_cons.mpr ⟨⟨fun h => absurd h (by decide), fun _ => TG_3 (i := 58) rfl rfl, by decide, by decide, by decide⟩, List.forall_mem_cons.mpr ⟨⟨fun h => absurd h (by decide), fun _ => TG_3 (i := 80) rfl rfl, by decide, by decide, by decide⟩, List.forall_mem_cons.mpr ⟨⟨fun h => absurd h (by decide), fun _ => TG_3 (i := 76) rfl rfl, by decide, by decide, by decide⟩, List.forall_mem_nil _⟩⟩⟩⟩⟩⟩⟩⟩⟩⟩⟩
set_option maxRecDepth 10000 in
theorem mM_6 : ∀ x ∈ mPoolM 6, mWM 6 x := List.forall_mem_cons.mpr ⟨⟨fun h => absurd h (by decide), fun _ => TG_2 (i := 48) rfl rfl, by decide, by decide, by decide⟩, List.forall_mem_cons.mpr ⟨⟨fun h => absurd h (by decide), fun _ => TG_3 (i := 92) rfl rfl, by decide, by decide, by decide⟩, List.forall_mem_cons.mpr ⟨⟨fun h => absurd h (by decide), fun _ => TG_3 (i := 96) rfl rfl, by decide, by decide, by decide⟩, List.forall_mem_cons.mpr ⟨⟨fun h => absurd h (by decide), fun _ => TG_3 (i := 97) rfl rfl, by decide, by decide, by decide⟩, List.forall_mem_nil _⟩⟩⟩⟩
set_option maxRecDepth 10000 in
theorem mM_7 : ∀ x ∈ mPoolM 7, mWM 7 x := List.forall_mem_cons.mpr ⟨⟨fun h => absurd h (by decide), fun _ => TG_1 (i := 36) rfl rfl, by decide, by decide, by decide⟩, List.forall_mem_cons.mpr ⟨⟨fun h => absurd h (by decide), fun _ => TG_2 (i := 164) rfl rfl, by decide, by decide, by decide⟩, List.forall_mem_cons.mpr ⟨⟨fun h => absurd h (by decide), fun _ => TG_2 (i := 167) rfl rfl, by decide, by decide, by decide⟩, List.forall_mem_cons.mpr ⟨⟨fun h => absurd h (by decide), fun _ => TG_2 (i := 170) rfl rfl, by decide, by decide, by decide⟩, List.forall_mem_cons.mpr ⟨⟨fun h => absurd h (by decide), fun _ => TG_4 (i := 82) rfl rfl, by decide, by decide, by decide⟩, List.forall_mem_cons.mpr ⟨⟨fun h => absurd h (by decide), fun _ => TG_4 (i := 83) rfl rfl, by decide, by decide, by decide⟩, List.forall_mem_cons.mpr ⟨⟨fun h => absurd h (by decide), fun _ => TG_3 (i := 7) rfl rfl, by decide, by decide, by decide⟩, List.forall_mem_cons.mpr ⟨⟨fun h => absurd h (by decide), fun _ => TG_3 (i := 11) rfl rfl, by decide, by decide, by decide⟩, List.forall_mem_cons.mpr ⟨⟨fun h => absurd h (by decide), fun _ => TG_3 (i := 12) rfl rfl, by decide, by decide, by decide⟩, List.forall_mem_nil _⟩⟩⟩⟩⟩⟩⟩⟩⟩
set_option maxRecDepth 10000 in
theorem mM_8 : ∀ x ∈ mPoolM 8, mWM 8 x := List.forall_mem_cons.mpr ⟨⟨fun h => absurd h (by decide), fun _ => TG_1 (i := 139) rfl rfl, by decide, by decide, by decide⟩, List.forall_mem_cons.mpr ⟨⟨fun h => absurd h (by decide), fun _ => TG_2 (i := 181) rfl rfl, by decide, by decide, by decide⟩, List.forall_mem_cons.mpr ⟨⟨fun h => absurd h (by decide), fun _ => TG_2 (i := 192) rfl rfl, by decide, by decide, by decide⟩, List.forall_mem_cons.mpr ⟨⟨fun h => absurd h (by decide), fun _ => TG_2 (i := 216) rfl rfl, by decide, by decide, by decide⟩, List.forall_mem_cons.mpr ⟨⟨fun h => absurd h (by decide), fun _ => TG_2 (i := 227) rfl rfl, by decide, by decide, by decide⟩, List.forall_mem_cons.mpr ⟨⟨fun h => absurd h (by decide), fun _ => TG_2 (i := 204) rfl rfl, by decide, by decide, by decide⟩, List.forall_mem_cons.mpr ⟨⟨fun h => absurd h (by decide), fun _ => TG_2 (i := 212) rfl rfl, by decide, by decide, by decide⟩, List.forall_mem_cons.mpr ⟨⟨fun h => absurd h (by decide), fun _ => TG_2 (i := 220) rfl rfl, by decide, by decide, by decide⟩, List.forall_mem_cons.mpr ⟨⟨fun h => absurd h (by decide), fun _ => TG_2 (i := 223) rfl rfl, by decide, by decide, by decide⟩, List.forall_mem_cons.mpr ⟨⟨fun h => absurd h (by decide), fun _ => TG_2 (i := 231) rfl rfl, by decide, by decide, by decide⟩, List.forall_mem_cons.mpr ⟨⟨fun h => absurd h (by decide), fun _ => TG_2 (i := 200) rfl rfl, by decide, by decide, by decide⟩, List.forall_mem_cons.mpr ⟨⟨fun h => absurd h (by decide), fun _ => TG_2 (i := 208) rfl rfl, by decide, by decide, by decide⟩, List.forall_mem_cons.mpr ⟨⟨fun h => absurd h (by decide), fun _ => TG_2 (i := 177) rfl rfl, by decide, by decide, by decide⟩, List.forall_mem_cons.mpr ⟨⟨fun h => absurd h (by decide), fun _ => TG_2 (i := 184) rfl rfl, by decide, by decide, by decide⟩, List.forall_mem_cons.mpr ⟨⟨fun h => absurd h (by decide), fun _ => TG_2 (i := 188) rfl rfl, by decide, by decide, by decide⟩, List.forall_mem_cons.mpr ⟨⟨fun h => absurd h (by decide), fun _ => TG_2 (i := 196) rfl rfl, by decide, by decide, by decide⟩, List.forall_mem_cons.mpr ⟨⟨fun h => absurd h (by decide), fun _ => TG_4 (i := 99) rfl rfl, by decide, by decide, by decide⟩, List.forall_mem_cons.mpr ⟨⟨fun h => absurd h (by decide), fun _ => TG_4 (i := 103) rfl rfl, by decide, by decide, by decide⟩, List.forall_mem_cons.mpr ⟨⟨fun h => absurd h (by decide), fun _ => TG_3 (i := 113) rfl rfl, by decide, by decide, by decide⟩, List.forall_mem_cons.mpr ⟨⟨fun h => absurd h (by decide), fun _ => TG_3 (i := 117) rfl rfl, by decide, by decide, by decide⟩, List.forall_mem_cons.mpr ⟨⟨fun h => absurd h (by decide), fun _ => TG_3 (i := 109) rfl rfl, by decide, by decide, by decide⟩, List.forall_mem_cons.mpr ⟨⟨fun h => absurd h (by decide), fun _ => TG_5 (i := 185) rfl rfl, by decide, by decide, by decide⟩, List.forall_mem_nil _⟩⟩⟩⟩⟩⟩⟩⟩⟩⟩⟩⟩⟩⟩⟩⟩⟩⟩⟩⟩⟩⟩
set_option maxRecDepth 10000 in
theorem mM_9 : ∀ x ∈ mPoolM 9, mWM 9 x := List.forall_mem_cons.mpr ⟨⟨fun h => absurd h (by decide), fun _ => TG_1 (i := 212) rfl rfl, by decide, by decide, by decide⟩, List.forall_mem_cons.mpr ⟨⟨fun h => absurd h (by decide), fun _ => TG_5 (i := 49) rfl rfl, by decide, by decide, by decide⟩, List.forall_mem_cons.mpr ⟨⟨fun h => absurd h (by decide), fun _ => TG_5 (i := 54) rfl rfl, by decide, by decide, by decide⟩, List.forall_mem_cons.mpr ⟨⟨fun h => absurd h (by decide), fun _ => TG_5 (i := 55) rfl rfl, by decide, by decide, by decide⟩, List.forall_mem_cons.mpr ⟨⟨fun h => absurd h (by decide), fun _ => TG_5 (i := 53) rfl rfl, by decide, by decide, by decide⟩, List.forall_mem_nil _⟩⟩⟩⟩⟩
set_option maxRecDepth 10000 in
theorem mM_10 : ∀ x ∈ mPoolM 10, mWM 10 x := List.forall_mem_cons.mpr ⟨⟨fun h => absurd h (by decide), fun _ => TG_1 (i := 28) rfl rfl, by decide, by decide, by decide⟩, List.forall_mem_cons.mpr ⟨⟨fun _ => List.mem_of_getElem? (i := 0) rfl, fun h => absurd rfl h, by decide, by decide, by decide⟩, List.forall_mem_cons.mpr ⟨⟨fun h => absurd h (by decide), fun _ => TG_1 (i := 136) rfl rfl, by decide, by decide, by decide⟩, List.forall_mem_cons.mpr ⟨⟨fun h => absurd h (by decide), fun _ => TG_1 (i := 184) rfl rfl, by decide, by decide, by decide⟩, List.forall_mem_cons.mpr ⟨⟨fun h => absurd h (by decide), fun _ => TG_1 (i := 209) rfl rfl, by decide, by decide, by decide⟩, List.forall_mem_cons.mpr ⟨⟨fun h => absurd h (by decide), fun _ => TG_1 (i := 238) rfl rfl, by decide, by decide, by decide⟩, List.forall_mem_cons.mpr ⟨⟨fun h => absurd h (by decide), fun _ => TG_2 (i := 14) rfl rfl, by decide, by decide, by decide⟩, List.forall_mem_cons.mpr ⟨⟨fun h => absurd h (by decide), fun _ => TG_2 (i := 45) rfl rfl, by decide, by decide, by decide⟩, List.forall_mem_cons.mpr ⟨⟨fun h => absurd h (by decide), fun _ => TG_2 (i := 69) rfl rfl, by decide, by decide, by decide⟩, List.forall_mem_cons.mpr ⟨⟨fun h => absurd h (by decide), fun _ => TG_2 (i := 90) rfl rfl, by decide, by decide, by decide⟩, List.forall_mem_cons.mpr ⟨⟨fun h => absurd h (by decide), fun _ => TG_2 (i := 102) rfl rfl, by decide, by decide, by decide⟩, List.forall_mem_cons.mpr ⟨⟨fun h => absurd h (by decide), fun _ => TG_2 (i := 106) rfl rfl, by decide, by decide, by decide⟩, List.forall_mem_cons.mpr ⟨⟨fun h => absurd h (by decide), fun _ => TG_3 (i := 144) rfl rfl, by decide, by decide, by decide⟩, List.forall_mem_cons.mpr ⟨⟨fun h => absurd h (by decide), fun _ => TG_3 (i := 215) rfl rfl, by decide, by decide, by decide⟩, List.forall_mem_cons.mpr ⟨⟨fun h => absurd h (by decide), fun _ => TG_4 (i := 10) rfl rfl, by decide, by decide, by decide⟩, List.forall_mem_cons.mpr ⟨⟨fun h => absurd h (by decide), fun _ => TG_4 (i := 15) rfl rfl, by decide, by decide, by decide⟩, List.forall_mem_cons.mpr ⟨⟨fun h => absurd h (by decide), fun _ => TG_2 (i := 173) rfl rfl, by decide, by decide, by decide⟩, List.forall_mem_cons.mpr ⟨⟨fun h => absurd h (by decide), fun _ => TG_4 (i := 33) rfl rfl, by decide, by decide, by decide⟩, List.forall_mem_cons.mpr ⟨⟨fun h => absurd h (by decide), fun _ => TG_4 (i := 37) rfl rfl, by decide, by decide, by decide⟩, List.forall_mem_cons.mpr ⟨⟨fun h => absurd h (by decide), fun _ => TG_4 (i := 48) rfl rfl, by decide, by decide, by decide⟩, List.forall_mem_cons.mpr ⟨⟨fun h => absurd h (by decide), fun _ => TG_4 (i := 60) rfl rfl, by decide, by decide, by decide⟩, List.forall_mem_cons.mpr ⟨⟨fun h => absurd h (by decide), fun _ => TG_4 (i := 73) rfl rfl, by decide, by decide, by decide⟩, List.forall_mem_cons.mpr ⟨⟨fun h => absurd h (by decide), fun _ => TG_4 (i := 78) rfl rfl, by decide, by decide, by decide⟩, List.forall_mem_cons.mpr ⟨⟨fun h => absurd h (by decide), fun _ => TG_4 (i := 91) rfl rfl, by decide, by decide, by decide⟩, List.forall_mem_cons.mpr ⟨⟨fun h => absurd h (by decide), fun _ => TG_4 (i := 94) rfl rfl, by decide, by decide, by decide⟩, List.forall_mem_cons.mpr ⟨⟨fun h => absurd h (by decide), fun _ => TG_4 (i := 95) rfl rfl, by decide, by decide, by decide⟩, List.forall_mem_cons.mpr ⟨⟨fun h => absurd h (by decide), fun _ => TG_4 (i := 107) rfl rfl, by decide, by decide, by decide⟩, List.forall_mem_cons.mpr ⟨⟨fun h => absurd h (by decide), fun _ => TG_4 (i := 122) rfl rfl, by decide, by decide, by decide⟩, List.forall_mem_cons.mpr ⟨⟨fun h => absurd h (by decide), fun _ => TG_4 (i := 138) rfl rfl, by decide, by decide, by decide⟩, List.forall_mem_cons.mpr ⟨⟨fun h => absurd h (by decide), fun _ => TG_4 (i := 127) rfl rfl, by decide, by decide, by decide⟩, List.forall_mem_cons.mpr ⟨⟨fun h => absurd h (by decide), fun _ => TG_4 (i := 142) rfl rfl, by decide, by decide, by decide⟩, List.forall_mem_cons.mpr ⟨⟨fun h => absurd h (by decide), fun _ => TG_3 (i := 105) rfl rfl, by decide, by decide, by decide⟩, List.forall_mem_cons.mpr ⟨⟨fun h => absurd h (by decide), fun _ => TG_4 (i := 169) rfl rfl, by decide, by decide, by decide⟩, List.forall_mem_cons.mpr ⟨⟨fun h => absurd h (by decide), fun _ => TG_4 (i := 186) rfl rfl, by decide, by decide, by decide⟩, List.forall_mem_cons.mpr ⟨⟨fun h => absurd h (by decide), fun _ => TG_4 (i := 191) rfl rfl, by decide, by decide, by decide⟩, List.forall_mem_cons.mpr ⟨⟨fun h => absurd h (by decide), fun _ => TG_4 (i := 202) rfl rfl, by decide, by decide, by decide⟩, List.forall_mem_cons.mpr ⟨⟨fun h => absurd h (by decide), fun _ => TG_4 (i := 214) rfl rfl, by decide, by decide, by decide⟩, List.forall_mem_cons.mpr ⟨⟨fun h => absurd h (by decide), fun _ => TG_2 (i := 160) rfl rfl, by decide, by decide, by decide⟩, List.forall_mem_cons.mpr ⟨⟨fun h => absurd h (by decide), fun _ => TG_4 (i := 224) rfl rfl, by decide, by decide, by decide⟩, List.forall_mem_cons.mpr ⟨⟨fun h => absurd h (by decide), fun _ => TG_4 (i := 232) rfl rfl, by decide, by decide, by decide⟩, List.forall_mem_cons.mpr ⟨⟨fun h => absurd h (by decide), fun _ => TG_5 (i := 11) rfl rfl, by decide, by decide, by decide⟩, List.forall_mem_cons.mpr ⟨⟨fun h => absurd h (by decide), fun _ => TG_3 (i := 3) rfl rfl, by decide, by decide, by decide⟩, List.forall_mem_cons.mpr ⟨⟨fun h => absurd h (by decide), fun _ => TG_5 (i := 27) rfl rfl, by decide, by decide, by decide⟩, List.forall_mem_cons.mpr ⟨⟨fun h => absurd h (by decide), fun _ => TG_5 (i := 37) rfl rfl, by decide, by decide, by decide⟩, List.forall_mem_cons.mpr ⟨⟨fun h => absurd h (by decide), fun _ => TG_5 (i := 45) rfl rfl, by decide, by decide, by decide⟩, List.forall_mem_cons.mpr ⟨⟨fun h => absurd h (by decide), fun _ => TG_5 (i := 87) rfl rfl, by decide, by decide, by decide⟩, List.forall_mem_cons.mpr ⟨⟨fun h => absurd h (by decide), fun _ => TG_3 (i := 20) rfl rfl, by decide, by decide, by decide⟩, List.forall_mem_cons.mpr ⟨⟨fun h => absurd h (by decide), fun _ => TG_3 (i := 41) rfl rfl, by decide, by decide, by decide⟩, List.forall_mem_cons.mpr ⟨⟨fun h => absurd h (by decide), fun _ => TG_3 (i := 54) rfl rfl, by decide, by decide, by decide⟩, List.forall_mem_cons.mpr ⟨⟨fun h => absurd h (by decide), fun _ => TG_3 (i := 62) rfl rfl, by decide, by decide, by decide⟩, List.forall_mem_cons.mpr ⟨⟨fun h => absurd h (by decide), fun _ => TG_3 (i := 72) rfl rfl, by decide, by decide, by decide⟩, List.forall_mem_cons.mpr ⟨⟨fun h => absurd h (by decide), fun _ => TG_5 (i := 109) rfl rfl, by decide, by decide, by decide⟩, List.forall_mem_cons.mpr ⟨⟨fun h => absurd h (by decide), fun _ => TG_5 (i := 113) rfl rfl, by decide, by decide, by decide⟩, List.forall_mem_cons.mpr ⟨⟨fun h => absurd h (by decide), fun _ => TG_3 (i := 88) rfl rfl, by decide, by decide, by decide⟩, List.forall_mem_cons.mpr ⟨⟨fun h => absurd h (by decide), fun _ => TG_5 (i := 131) rfl rfl, by decide, by decide, by decide⟩, List.forall_mem_cons.mpr ⟨⟨fun h => absurd h (by decide), fun _ => TG_5 (i := 159) rfl rfl, by decide, by decide, by decide⟩, List.forall_mem_cons.mpr ⟨⟨fun h => absurd h (by decide), fun _ => TG_5 (i := 181) rfl rfl, by decide, by decide, by decide⟩, List.forall_mem_cons.mpr ⟨⟨fun h => absurd h (by decide), fun _ => TG_5 (i := 200) rfl rfl, by decide, by decide, by decide⟩, List.forall_mem_cons.mpr ⟨⟨fun h => absurd h (by decide), fun _ => TG_3 (i := 118) rfl rfl, by decide, by decide, by decide⟩, List.forall_mem_cons.mpr ⟨⟨fun h => absurd h (by decide), fun _ => TG_4 (i := 14) rfl rfl, by decide, by decide, by decide⟩, List.forall_mem_cons.mpr ⟨⟨fun h => absurd h (by decide), fun _ => TG_4 (i := 111) rfl rfl, by decide, by decide, by decide⟩, List.forall_mem_cons.mpr ⟨⟨fun h => absurd h (by decide), fun _ => TG_4 (i := 128) rfl rfl, by decide, by decide, by decide⟩, List.forall_mem_cons.mpr ⟨⟨fun h => absurd h (by decide), fun _ => TG_4 (i := 129) rfl rfl, by decide, by decide, by decide⟩, List.forall_mem_cons.mpr ⟨⟨fun h => absurd h (by decide), fun _ => TG_4 (i := 173) rfl rfl, by decide, by decide, by decide⟩, List.forall_mem_cons.mpr ⟨⟨fun h => absurd h (by decide), fun _ => TG_4 (i := 174) rfl rfl, by decide, by decide, by decide⟩, List.forall_mem_nil _⟩⟩⟩⟩⟩⟩⟩⟩⟩⟩⟩⟩⟩⟩⟩⟩⟩⟩⟩⟩⟩⟩⟩⟩⟩⟩⟩⟩⟩⟩⟩⟩⟩⟩⟩⟩⟩⟩⟩⟩⟩⟩⟩⟩⟩⟩⟩⟩⟩⟩⟩⟩⟩⟩⟩⟩⟩⟩⟩⟩⟩⟩⟩⟩⟩
set_option maxRecDepth 10000 in
theorem mM_11 : ∀ x ∈ mPoolM 11, mWM 11 x := List.forall_mem_cons.mpr ⟨⟨fun h => absurd h (by decide), fun _ => TG_5 (i := 206) rfl rfl, by decide, by decide, by decide⟩, List.forall_mem_cons.mpr ⟨⟨fun h => absurd h (by decide), fun _ => TG_5 (i := 207) rfl rfl, by decide, by decide, by decide⟩, List.forall_mem_cons.mpr ⟨⟨fun h => absurd h (by decide), fun _ => TG_5 (i := 211) rfl rfl, by decide, by decide, by decide⟩, List.forall_mem_cons.mpr ⟨⟨fun h => absurd h (by decide), fun _ => TG_5 (i := 215) rfl rfl, by decide, by decide, by decide⟩, List.forall_mem_cons.mpr ⟨⟨fun h => absurd h (by decide), fun _ => TG_6 (i := 88) rfl rfl, by decide, by decide, by decide⟩, List.forall_mem_cons.mpr ⟨⟨fun h => absurd h (by decide), fun _ => TG_6 (i := 133) rfl rfl, by decide, by decide, by decide⟩, List.forall_mem_cons.mpr ⟨⟨fun h => absurd h (by decide), fun _ => TG_6 (i := 48) rfl rfl, by decide, by decide, by decide⟩, List.forall_mem_cons.mpr ⟨⟨fun h => absurd h (by decide), fun _ => TG_6 (i := 80) rfl rfl, by decide, by decide, by decide⟩, List.forall_mem_cons.mpr ⟨⟨fun h => absurd h (by decide), fun _ => TG_6 (i := 120) rfl rfl, by decide, by decide, by decide⟩, List.forall_mem_cons.mpr ⟨⟨fun h => absurd h (by decide), fun _ => TG_6 (i := 92) rfl rfl, by decide, by decide, by decide⟩, List.forall_mem_cons.mpr ⟨⟨fun h => absurd h (by decide), fun _ => TG_6 (i := 116) rfl rfl, by decide, by decide, by decide⟩, List.forall_mem_cons.mpr ⟨⟨fun h => absurd h (by decide), fun _ => TG_6 (i := 124) rfl rfl, by decide, by decide, by decide⟩, List.forall_mem_cons.mpr ⟨⟨fun h => absurd h (by decide), fun _ => TG_6 (i := 125) rfl rfl, by decide, by decide, by decide⟩, List.forall_mem_cons.mpr ⟨⟨fun h => absurd h (by decide), fun _ => TG_6 (i := 100) rfl rfl, by decide, by decide, by decide⟩, List.forall_mem_cons.mpr ⟨⟨fun h => absurd h (by decide), fun _ => TG_6 (i := 112) rfl rfl, by decide, by decide, by decide⟩, List.forall_mem_cons.mpr ⟨⟨fun h => absurd h (by decide), fun _ => TG_6 (i := 141) rfl rfl, by decide, by decide, by decide⟩, List.forall_mem_cons.mpr ⟨⟨fun h => absurd h (by decide), fun _ => TG_6 (i := 157) rfl rfl, by decide, by decide, by decide⟩, List.forall_mem_cons.mpr ⟨⟨fun h => absurd h (by decide), fun _ => TG_6 (i := 153) rfl rfl, by decide, by decide, by decide⟩, List.forall_mem_cons.mpr ⟨⟨fun h => absurd h (by decide), fun _ => TG_6 (i := 129) rfl rfl, by decide, by decide, by decide⟩, List.forall_mem_cons.mpr ⟨⟨fun h => absurd h (by decide), fun _ => TG_6 (i := 137) rfl rfl, by decide, by decide, by decide⟩, List.forall_mem_cons.mpr ⟨⟨fun h => absurd h (by decide), fun _ => TG_6 (i := 59) rfl rfl, by decide, by decide, by decide⟩, List.forall_mem_cons.mpr ⟨⟨fun h => absurd h (by decide), fun _ => TG_6 (i := 149) rfl rfl, by decide, by decide, by decide⟩, List.forall_mem_cons.mpr ⟨⟨fun h => absurd h (by decide), fun _ => TG_6 (i := 161) rfl rfl, by decide, by decide, by decide⟩, List.forall_mem_cons.mpr ⟨⟨fun h => absurd h (by decide), fun _ => TG_6 (i := 51) rfl rfl, by decide, by decide, by decide⟩, List.forall_mem_cons.mpr ⟨⟨fun h => absurd h (by decide), fun _ => TG_6 (i := 55) rfl rfl, by decide, by decide, by decide⟩, List.forall_mem_cons.mpr ⟨⟨fun h => absurd h (by decide), fun _ => TG_6 (i := 68) rfl rfl, by decide, by decide, by decide⟩, List.forall_mem_cons.mpr ⟨⟨fun h => absurd h (by decide), fun _ => TG_6 (i := 104) rfl rfl, by decide, by decide, by decide⟩, List.forall_mem_cons.mpr ⟨⟨fun h => absurd h (by decide), fun _ => TG_6 (i := 108) rfl rfl, by decide, by decide, by decide⟩, List.forall_mem_cons.mpr ⟨⟨fun h => absurd h (by decide), fun _ => TG_6 (i := 145) rfl rfl, by decide, by decide, by decide⟩, List.forall_mem_cons.mpr ⟨⟨fun h => absurd h (by decide), fun _ => TG_6 (i := 174) rfl rfl, by decide, by decide, by decide⟩, List.forall_mem_cons.mpr ⟨⟨fun h => absurd h (by decide), fun _ => TG_6 (i := 178) rfl rfl, by decide, by decide, by decide⟩, List.forall_mem_cons.mpr ⟨⟨fun h => absurd h (by decide), fun _ => TG_6 (i := 182) rfl rfl, by decide, by decide, by decide⟩, List.forall_mem_cons.mpr ⟨⟨fun h => absurd h (by decide), fun _ => TG_6 (i := 186) rfl rfl, by decide, by decide, by decide⟩, List.forall_mem_cons.mpr ⟨⟨fun h => absurd h (by decide), fun _ => TG_6 (i := 194) rfl rfl, by decide, by decide, by decide⟩, List.forall_mem_cons.mpr ⟨⟨fun h => absurd h (by decide), fun _ => TG_6 (i := 202) rfl rfl, by decide, by decide, by decide⟩, List.forall_mem_cons.mpr ⟨⟨fun h => absurd h (by decide), fun _ => TG_6 (i := 210) rfl rfl, by decide, by decide, by decide⟩, List.forall_mem_cons.mpr ⟨⟨fun h => absurd h (by decide), fun _ => TG_6 (i := 230) rfl rfl, by decide, by decide, by decide⟩, List.forall_mem_cons.mpr ⟨⟨fun h => absurd h (by decide), fun _ => TG_6 (i := 238) rfl rfl, by decide, by decide, by decide⟩, List.forall_mem_cons.mpr ⟨⟨fun h => absurd h (by decide), fun _ => TG_7 (i := 6) rfl rfl, by decide, by decide, by decide⟩, List.forall_mem_cons.mpr ⟨⟨fun h => absurd h (by decide), fun _ => TG_7 (i := 22) rfl rfl, by decide, by decide, by decide⟩, List.forall_mem_cons.mpr ⟨⟨fun h => absurd h (by decide), fun _ => TG_7 (i := 34) rfl rfl, by decide, by decide, by decide⟩, List.forall_mem_cons.mpr ⟨⟨fun h => absurd h (by decide), fun _ => TG_7 (i := 38) rfl rfl, by decide, by decide, by decide⟩, List.forall_mem_cons.mpr ⟨⟨fun h => absurd h (by decide), fun _ => TG_7 (i := 50) rfl rfl, by decide, by decide, by decide⟩, List.forall_mem_cons.mpr ⟨⟨fun h => absurd h (by decide), fun _ => TG_7 (i := 54) rfl rfl, by decide, by decide, by decide⟩, List.forall_mem_cons.mpr ⟨⟨fun h => absurd h (by decide), fun _ => TG_7 (i := 46) rfl rfl, by decide, by decide, by decide⟩, List.forall_mem_cons.mpr ⟨⟨fun h => absurd h (by decide), fun _ => TG_7 (i := 66) rfl rfl, by decide, by decide, by decide⟩, List.forall_mem_cons.mpr ⟨⟨fun h => absurd h (by decide), fun _ => TG_7 (i := 94) rfl rfl, by decide, by decide, by decide⟩, List.forall_mem_cons.mpr ⟨⟨fun h => absurd h (by decide), fun _ => TG_7 (i := 90) rfl rfl, by decide, by decide, by decide⟩, List.forall_mem_cons.mpr ⟨⟨fun h => absurd h (by decide), fun _ => TG_7 (i := 86) rfl rfl, by decide, by decide, by decide⟩, List.forall_mem_cons.mpr ⟨⟨fun h => absurd h (by decide), fun _ => TG_7 (i := 106) rfl rfl, by decide, by decide, by decide⟩, List.forall_mem_cons.mpr ⟨⟨fun h => absurd h (by decide), fun _ => TG_7 (i := 134) rfl rfl, by decide, by decide, by decide⟩, List.forall_mem_cons.mpr ⟨⟨fun h => absurd h (by decide), fun _ => TG_7 (i := 130) rfl rfl, by decide, by decide, by decide⟩, List.forall_mem_cons.mpr ⟨⟨fun h => absurd h (by decide), fun _ => TG_7 (i := 126) rfl rfl, by decide, by decide, by decide⟩, List.forall_mem_cons.mpr ⟨⟨fun h => absurd h (by decide), fun _ => TG_7 (i := 150) rfl rfl, by decide, by decide, by decide⟩, List.forall_mem_cons.mpr ⟨⟨fun h => absurd h (by decide), fun _ => TG_7 (i := 146) rfl rfl, by decide, by decide, by decide⟩, List.forall_mem_cons.mpr ⟨⟨fun h => absurd h (by decide), fun _ => TG_7 (i := 162) rfl rfl, by decide, by decide, by decide⟩, List.forall_mem_cons.mpr ⟨⟨fun h => absurd h (by decide), fun _ => TG_7 (i := 170) rfl rfl, by decide, by decide, by decide⟩, List.forall_mem_cons.mpr ⟨⟨fun h => absurd h (by decide), fun _ => TG_7 (i := 188) rfl rfl, by decide, by decide, by decide⟩, List.forall_mem_cons.mpr ⟨⟨fun h => absurd h (by decide), fun _ => TG_7 (i := 183) rfl rfl, by decide, by decide, by decide⟩, List.forall_mem_cons.mpr ⟨⟨fun h => absurd h (by decide), fun _ => TG_7 (i := 184) rfl rfl, by decide, by decide, by decide⟩, List.forall_mem_nil _⟩⟩⟩⟩⟩⟩⟩⟩⟩⟩⟩⟩⟩⟩⟩⟩⟩⟩⟩⟩⟩⟩⟩⟩⟩⟩⟩⟩⟩⟩⟩⟩⟩⟩⟩⟩⟩⟩⟩⟩⟩⟩⟩⟩⟩⟩⟩⟩⟩⟩⟩⟩⟩⟩⟩⟩⟩⟩⟩⟩
set_option maxRecDepth 10000 in
theorem mM_12 : ∀ x ∈ mPoolM 12, mWM 12 x := List.forall_mem_cons.mpr ⟨⟨fun h => absurd h (by decide), fun _ => TG_3 (i := 140) rfl rfl, by decide, by decide, by decide⟩, List.forall_mem_cons.mpr ⟨⟨fun h => absurd h (by decide), fun _ => TG_4 (i := 22) rfl rfl, by decide, by decide, by decide⟩, List.forall_mem_cons.mpr ⟨⟨fun h => absurd h (by decide), fun _ => TG_4 (i := 29) rfl rfl, by decide, by decide, by decide⟩, List.forall_mem_cons.mpr ⟨⟨fun h => absurd h (by decide), fun _ => TG_4 (i := 44) rfl rfl, by decide, by decide, by decide⟩, List.forall_mem_cons.mpr ⟨⟨fun h => absurd h (by decide), fun _ => TG_4 (i := 56) rfl rfl, by decide, by decide, by decide⟩, List.forall_mem_cons.mpr ⟨⟨fun h => absurd h (by decide), fun _ => TG_4 (i := 69) rfl rfl, by decide, by decide, by decide⟩, List.forall_mem_cons.mpr ⟨⟨fun h => absurd h (by decide), fun _ => TG_4 (i := 87) rfl rfl, by decide, by decide, by decide⟩, List.forall_mem_cons.mpr ⟨⟨fun h => absurd h (by decide), fun _ => TG_4 (i := 118) rfl rfl, by decide, by decide, by decide⟩, List.forall_mem_cons.mpr ⟨⟨fun h => absurd h (by decide), fun _ => TG_4 (i := 134) rfl rfl, by decide, by decide, by decide⟩, List.forall_mem_cons.mpr ⟨⟨fun h => absurd h (by decide), fun _ => TG_4 (i := 164) rfl rfl, by decide, by decide, by decide⟩, List.forall_mem_cons.mpr ⟨⟨fun h => absurd h (by decide), fun _ => TG_4 (i := 182) rfl rfl, by decide, by decide, by decide⟩, List.forall_mem_cons.mpr ⟨⟨fun h => absurd h (by decide), fun _ => TG_4 (i := 198) rfl rfl, by decide, by decide, by decide⟩, List.forall_mem_cons.mpr ⟨⟨fun h => absurd h (by decide), fun _ => TG_4 (i := 209) rfl rfl, by decide, by decide, by decide⟩, List.forall_mem_cons.mpr ⟨⟨fun h => absurd h (by decide), fun _ => TG_4 (i := 220) rfl rfl, by decide, by decide, by decide⟩, List.forall_mem_cons.mpr ⟨⟨fun h => absurd h (by decide), fun _ => TG_4 (i := 228) rfl rfl, by decide, by decide, by decide⟩, List.forall_mem_cons.mpr ⟨⟨fun h => absurd h (by decide), fun _ => TG_5 (i := 0) rfl rfl, by decide, by decide, by decide⟩, List.forall_mem_cons.mpr ⟨⟨fun h => absurd h (by decide), fun _ => TG_5 (i := 7) rfl rfl, by decide, by decide, by decide⟩, List.forall_mem_cons.mpr ⟨⟨fun h => absurd h (by decide), fun _ => TG_5 (i := 15) rfl rfl, by decide, by decide, by decide⟩, List.forall_mem_cons.mpr ⟨⟨fun h => absurd h (by decide), fun _ => TG_5 (i := 22) rfl rfl, by decide, by decide, by decide⟩, List.forall_mem_cons.mpr ⟨⟨fun h => absurd h (by decide), fun _ => TG_5 (i := 33) rfl rfl, by decide, by decide, by decide⟩, List.forall_mem_cons.mpr ⟨⟨fun h => absurd h (by decide), fun _ => TG_5 (i := 41) rfl rfl, by decide, by decide, by decide⟩, List.forall_mem_cons.mpr ⟨⟨fun h => absurd h (by decide), fun _ => TG_5 (i := 62) rfl rfl, by decide, by decide, by decide⟩, List.forall_mem_cons.mpr ⟨⟨fun h => absurd h (by decide), fun _ => TG_5 (i := 69) rfl rfl, by decide, by decide, by decide⟩, List.forall_mem_cons.mpr ⟨⟨fun h => absurd h (by decide), fun _ => TG_5 (i := 76) rfl rfl, by decide, by decide, by decide⟩, List.forall_mem_cons.mpr ⟨⟨fun h => absurd h (by decide), fun _ => TG_5 (i := 83) rfl rfl, by decide, by decide, by decide⟩, List.forall_mem_cons.mpr ⟨⟨fun h => absurd h (by decide), fun _ => TG_5 (i := 91) rfl rfl, by decide, by decide, by decide⟩, List.forall_mem_cons.mpr ⟨⟨fun h => absurd h (by decide), fun _ => TG_5 (i := 98) rfl rfl, by decide, by decide, by decide⟩, List.forall_mem_cons.mpr ⟨⟨fun h => absurd h (by decide), fun _ => TG_5 (i := 105) rfl rfl, by decide, by decide, by decide⟩, List.forall_mem_cons.mpr ⟨⟨fun h => absurd h (by decide), fun _ => TG_5 (i := 120) rfl rfl, by decide, by decide, by decide⟩, List.forall_mem_cons.mpr ⟨⟨fun h => absurd h (by decide), fun _ => TG_5 (i := 127) rfl rfl, by decide, by decide, by decide⟩, List.forall_mem_cons.mpr ⟨⟨fun h => absurd h (by decide), fun _ => TG_5 (i := 148) rfl rfl, by decide, by decide, by decide⟩, List.forall_mem_cons.mpr ⟨⟨fun h => absurd h (by decide), fun _ => TG_5 (i := 155) rfl rfl, by decide, by decide, by decide⟩, List.forall_mem_cons.mpr ⟨⟨fun h => absurd h (by decide), fun _ => TG_5 (i := 177) rfl rfl, by decide, by decide, by decide⟩, List.forall_mem_cons.mpr ⟨⟨fun h => absurd h (by decide), fun _ => TG_5 (i := 189) rfl rfl, by decide, by decide, by decide⟩, List.forall_mem_cons.mpr ⟨⟨fun h => absurd h (by decide), fun _ => TG_5 (i := 196) rfl rfl, by decide, by decide, by decide⟩, List.forall_mem_cons.mpr ⟨⟨fun h => absurd h (by decide), fun _ => TG_1 (i := 25) rfl rfl, by decide, by decide, by decide⟩, List.forall_mem_cons.mpr ⟨⟨fun h => absurd h (by decide), fun _ => TG_5 (i := 203) rfl rfl, by decide, by decide, by decide⟩, List.forall_mem_cons.mpr ⟨⟨fun h => absurd h (by decide), fun _ => TG_3 (i := 134) rfl rfl, by decide, by decide, by decide⟩, List.forall_mem_cons.mpr ⟨⟨fun h => absurd h (by decide), fun _ => TG_6 (i := 44) rfl rfl, by decide, by decide, by decide⟩, List.forall_mem_cons.mpr ⟨⟨fun h => absurd h (by decide), fun _ => TG_6 (i := 40) rfl rfl, by decide, by decide, by decide⟩, List.forall_mem_cons.mpr ⟨⟨fun h => absurd h (by decide), fun _ => TG_4 (i := 19) rfl rfl, by decide, by decide, by decide⟩, List.forall_mem_cons.mpr ⟨⟨fun h => absurd h (by decide), fun _ => TG_6 (i := 60) rfl rfl, by decide, by decide, by decide⟩, List.forall_mem_cons.mpr ⟨⟨fun h => absurd h (by decide), fun _ => TG_4 (i := 26) rfl rfl, by decide, by decide, by decide⟩, List.forall_mem_cons.mpr ⟨⟨fun h => absurd h (by decide), fun _ => TG_6 (i := 64) rfl rfl, by decide, by decide, by decide⟩, List.forall_mem_cons.mpr ⟨⟨fun h => absurd h (by decide), fun _ => TG_4 (i := 41) rfl rfl, by decide, by decide, by decide⟩, List.forall_mem_cons.mpr ⟨⟨fun h => absurd h (by decide), fun _ => TG_6 (i := 72) rfl rfl, by decide, by decide, by decide⟩, List.forall_mem_cons.mpr ⟨⟨fun h => absurd h (by decide), fun _ => TG_4 (i := 53) rfl rfl, by decide, by decide, by decide⟩, List.forall_mem_cons.mpr ⟨⟨fun h => absurd h (by decide), fun _ => TG_6 (i := 76) rfl rfl, by decide, by decide, by decide⟩, List.forall_mem_cons.mpr ⟨⟨fun h => absurd h (by decide), fun _ => TG_4 (i := 66) rfl rfl, by decide, by decide, by decide⟩, List.forall_mem_cons.mpr ⟨⟨fun h => absurd h (by decide), fun _ => TG_6 (i := 84) rfl rfl, by decide, by decide, by decide⟩, List.forall_mem_cons.mpr ⟨⟨fun h => absurd h (by decide), fun _ => TG_4 (i := 84) rfl rfl, by decide, by decide, by decide⟩, List.forall_mem_cons.mpr ⟨⟨fun h => absurd h (by decide), fun _ => TG_6 (i := 96) rfl rfl, by decide, by decide, by decide⟩, List.forall_mem_cons.mpr ⟨⟨fun h => absurd h (by decide), fun _ => TG_4 (i := 115) rfl rfl, by decide, by decide, by decide⟩, List.forall_mem_cons.mpr ⟨⟨fun h => absurd h (by decide), fun _ => TG_6 (i := 165) rfl rfl, by decide, by decide, by decide⟩, List.forall_mem_cons.mpr ⟨⟨fun h => absurd h (by decide), fun _ => TG_4 (i := 131) rfl rfl, by decide, by decide, by decide⟩, List.forall_mem_cons.mpr ⟨⟨fun h => absurd h (by decide), fun _ => TG_6 (i := 170) rfl rfl, by decide, by decide, by decide⟩, List.forall_mem_cons.mpr ⟨⟨fun h => absurd h (by decide), fun _ => TG_4 (i := 161) rfl rfl, by decide, by decide, by decide⟩, List.forall_mem_cons.mpr ⟨⟨fun h => absurd h (by decide), fun _ => TG_6 (i := 190) rfl rfl, by decide, by decide, by decide⟩, List.forall_mem_cons.mpr ⟨⟨fun h => absurd h (by decide), fun _ => TG_4 (i := 179) rfl rfl, by decide, by decide, by decide⟩, List.forall_mem_cons.mpr ⟨⟨fun h => absurd h (by decide), fun _ => TG_6 (i := 198) rfl rfl, by decide, by decide, by decide⟩, List.forall_mem_cons.mpr ⟨⟨fun h => absurd h (by decide), fun _ => TG_4 (i := 195) rfl rfl, by decide, by decide, by decide⟩, List.forall_mem_cons.mpr ⟨⟨fun h => absurd h (by decide), fun _ => TG_6 (i := 206) rfl rfl, by decide, by decide, by decide⟩, List.forall_mem_cons.mpr ⟨⟨fun h => absurd h (by decide), fun _ => TG_4 (i := 206) rfl rfl, by decide, by decide, by decide⟩, List.forall_mem_cons.mpr ⟨⟨fun h => absurd h (by decide), fun _ => TG_6 (i := 214) rfl rfl, by decide, by decide, by decide⟩, List.forall_mem_cons.mpr ⟨⟨fun h => absurd h (by decide), fun _ => TG_2 (i := 156) rfl rfl, by decide, by decide, by decide⟩, List.forall_mem_cons.mpr ⟨⟨fun h => absurd h (by decide), fun _ => TG_6 (i := 218) rfl rfl, by decide, by decide, by decide⟩, List.forall_mem_cons.mpr ⟨⟨fun h => absurd h (by decide), fun _ => TG_2 (i := 235) rfl rfl, by decide, by decide, by decide⟩, List.forall_mem_cons.mpr ⟨⟨fun h => absurd h (by decide), fun _ => TG_6 (i := 222) rfl rfl, by decide, by decide, by decide⟩, List.forall_mem_cons.mpr ⟨⟨fun h => absurd h (by decide), fun _ => TG_4 (i := 217) rfl rfl, by decide, by decide, by decide⟩, List.forall_mem_cons.mpr ⟨⟨fun h => absurd h (by decide), fun _ => TG_6 (i := 226) rfl rfl, by decide, by decide, by decide⟩, List.forall_mem_cons.mpr ⟨⟨fun h => absurd h (by decide), fun _ => TG_4 (i := 225) rfl rfl, by decide, by decide, by decide⟩, List.forall_mem_cons.mpr ⟨⟨fun h => absurd h (by decide), fun _ => TG_6 (i := 234) rfl rfl, by decide, by decide, by decide⟩, List.forall_mem_cons.mpr ⟨⟨fun h => absurd h (by decide), fun _ => TG_4 (i := 237) rfl rfl, by decide, by decide, by decide⟩, List.forall_mem_cons.mpr ⟨⟨fun h => absurd h (by decide), fun _ => TG_7 (i := 2) rfl rfl, by decide, by decide, by decide⟩, List.forall_mem_cons.mpr ⟨⟨fun h => absurd h (by decide), fun _ => TG_5 (i := 4) rfl rfl, by decide, by decide, by decide⟩, List.forall_mem_cons.mpr ⟨⟨fun h => absurd h (by decide), fun _ => TG_7 (i := 10) rfl rfl, by decide, by decide, by decide⟩, List.forall_mem_cons.mpr ⟨⟨fun h => absurd h (by decide), fun _ => TG_5 (i := 12) rfl rfl, by decide, by decide, by decide⟩, List.forall_mem_cons.mpr ⟨⟨fun h => absurd h (by decide), fun _ => TG_7 (i := 14) rfl rfl, by decide, by decide, by decide⟩, List.forall_mem_cons.mpr ⟨⟨fun h => absurd h (by decide), fun _ => TG_2 (i := 239) rfl rfl, by decide, by decide, by decide⟩, List.forall_mem_cons.mpr ⟨⟨fun h => absurd h (by decide), fun _ => TG_7 (i := 18) rfl rfl, by decide, by decide, by decide⟩, List.forall_mem_cons.mpr ⟨⟨fun h => absurd h (by decide), fun _ => TG_5 (i := 19) rfl rfl, by decide, by decide, by decide⟩, List.forall_mem_cons.mpr ⟨⟨fun h => absurd h (by decide), fun _ => TG_7 (i := 26) rfl rfl, by decide, by decide, by decide⟩, List.forall_mem_cons.mpr ⟨⟨fun h => absurd h (by decide), fun _ => TG_5 (i := 30) rfl rfl, by decide, by decide, by decide⟩, List.forall_mem_cons.mpr ⟨⟨fun h => absurd h (by decide), fun _ => TG_7 (i := 30) rfl rfl, by decide, by decide, by decide⟩, List.forall_mem_cons.mpr ⟨⟨fun h => absurd h (by decide), fun _ => TG_5 (i := 38) rfl rfl, by decide, by decide, by decide⟩, List.forall_mem_cons.mpr ⟨⟨fun h => absurd h (by decide), fun _ => TG_7 (i := 42) rfl rfl, by decide, by decide, by decide⟩, List.forall_mem_cons.mpr ⟨⟨fun h => absurd h (by decide), fun _ => TG_5 (i := 59) rfl rfl, by decide, by decide, by decide⟩, List.forall_mem_cons.mpr ⟨⟨fun h => absurd h (by decide), fun _ => TG_7 (i := 58) rfl rfl, by decide, by decide, by decide⟩, List.forall_mem_cons.mpr ⟨⟨fun h => absurd h (by decide), fun _ => TG_5 (i := 66) rfl rfl, by decide, by decide, by decide⟩, List.forall_mem_cons.mpr ⟨⟨fun h => absurd h (by decide), fun _ => TG_7 (i := 62) rfl rfl, by decide, by decide, by decide⟩, List.forall_mem_cons.mpr ⟨⟨fun h => absurd h (by decide), fun _ => TG_5 (i := 73) rfl rfl, by decide, by decide, by decide⟩, List.forall_mem_cons.mpr ⟨⟨fun h => absurd h (by decide), fun _ => TG_7 (i := 70) rfl rfl, by decide, by decide, by decide⟩, List.forall_mem_cons.mpr ⟨⟨fun h => absurd h (by decide), fun _ => TG_5 (i := 80) rfl rfl, by decide, by decide, by decide⟩, List.forall_mem_cons.mpr ⟨⟨fun h => absurd h (by decide), fun _ => TG_7 (i := 74) rfl rfl, by decide, by decide, by decide⟩, List.forall_mem_cons.mpr ⟨⟨fun h => absurd h (by decide), fun _ => TG_5 (i := 88) rfl rfl, by decide, by decide, by decide⟩, List.forall_mem_cons.mpr ⟨⟨fun h => absurd h (by decide), fun _ => TG_7 (i := 78) rfl rfl, by decide, by decide, by decide⟩, List.forall_mem_cons.mpr ⟨⟨fun h => absurd h (by decide), fun _ => TG_3 (i := 16) rfl rfl, by decide, by decide, by decide⟩, List.forall_mem_cons.mpr ⟨⟨fun h => absurd h (by decide), fun _ => TG_7 (i := 82) rfl rfl, by decide, by decide, by decide⟩, List.forall_mem_cons.mpr ⟨⟨fun h => absurd h (by decide), fun _ => TG_3 (i := 37) rfl rfl, by decide, by decide, by decide⟩, List.forall_mem_cons.mpr ⟨⟨fun h => absurd h (by decide), fun _ => TG_7 (i := 98) rfl rfl, by decide, by decide, by decide⟩, List.forall_mem_cons.mpr ⟨⟨fun h => absurd h (by decide), fun _ => TG_3 (i := 50) rfl rfl, by decide, by decide, by decide⟩, List.forall_mem_cons.mpr ⟨⟨fun h => absurd h (by decide), fun _ => TG_7 (i := 102) rfl rfl, by decide, by decide, by decide⟩, List.forall_mem_cons.mpr ⟨⟨fun h => absurd h (by decide), fun _ => TG_5 (i := 95) rfl rfl, by decide, by decide, by decide⟩, List.forall_mem_cons.mpr ⟨⟨fun h => absurd h (by decide), fun _ => TG_7 (i := 110) rfl rfl, by decide, by decide, by decide⟩, List.forall_mem_cons.mpr ⟨⟨fun h => absurd h (by decide), fun _ => TG_3 (i := 68) rfl rfl, by decide, by decide, by decide⟩, List.forall_mem_cons.mpr ⟨⟨fun h => absurd h (by decide), fun _ => TG_7 (i := 114) rfl rfl, by decide, by decide, by decide⟩, List.forall_mem_cons.mpr ⟨⟨fun h => absurd h (by decide), fun _ => TG_5 (i := 102) rfl rfl, by decide, by decide, by decide⟩, List.forall_mem_cons.mpr ⟨⟨fun h => absurd h (by decide), fun _ => TG_7 (i := 118) rfl rfl, by decide, by decide, by decide⟩, List.forall_mem_cons.mpr ⟨⟨fun h => absurd h (by decide), fun _ => TG_3 (i := 84) rfl rfl, by decide, by decide, by decide⟩, List.forall_mem_cons.mpr ⟨⟨fun h => absurd h (by decide), fun _ => TG_7 (i := 122) rfl rfl, by decide, by decide, by decide⟩, List.forall_mem_cons.mpr ⟨⟨fun h => absurd h (by decide), fun _ => TG_5 (i := 117) rfl rfl, by decide, by decide, by decide⟩, List.forall_mem_cons.mpr ⟨⟨fun h => absurd h (by decide), fun _ => TG_7 (i := 138) rfl rfl, by decide, by decide, by decide⟩, List.forall_mem_cons.mpr ⟨⟨fun h => absurd h (by decide), fun _ => TG_5 (i := 124) rfl rfl, by decide, by decide, by decide⟩, List.forall_mem_cons.mpr ⟨⟨fun h => absurd h (by decide), fun _ => TG_7 (i := 142) rfl rfl, by decide, by decide, by decide⟩, List.forall_mem_cons.mpr ⟨⟨fun h => absurd h (by decide), fun _ => TG_5 (i := 145) rfl rfl, by decide, by decide, by decide⟩, List.forall_mem_cons.mpr ⟨⟨fun h => absurd h (by decide), fun _ => TG_7 (i := 153) rfl rfl, by decide, by decide, by decide⟩, List.forall_mem_cons.mpr ⟨⟨fun h => absurd h (by decide), fun _ => TG_5 (i := 152) rfl rfl, by decide, by decide, by decide⟩, List.forall_mem_cons.mpr ⟨⟨fun h => absurd h (by decide), fun _ => TG_7 (i := 157) rfl rfl, by decide, by decide, by decide⟩, List.forall_mem_cons.mpr ⟨⟨fun h => absurd h (by decide), fun _ => TG_5 (i := 174) rfl rfl, by decide, by decide, by decide⟩, List.forall_mem_cons.mpr ⟨⟨fun h => absurd h (by decide), fun _ => TG_7 (i := 166) rfl rfl, by decide, by decide, by decide⟩, List.forall_mem_cons.mpr ⟨⟨fun h => absurd h (by decide), fun _ => TG_5 (i := 186) rfl rfl, by decide, by decide, by decide⟩, List.forall_mem_cons.mpr ⟨⟨fun h => absurd h (by decide), fun _ => TG_7 (i := 171) rfl rfl, by decide, by decide, by decide⟩, List.forall_mem_cons.mpr ⟨⟨fun h => absurd h (by decide), fun _ => TG_5 (i := 193) rfl rfl, by decide, by decide, by decide⟩, List.forall_mem_cons.mpr ⟨⟨fun h => absurd h (by decide), fun _ => TG_7 (i := 175) rfl rfl, by decide, by decide, by decide⟩, List.forall_mem_cons.mpr ⟨⟨fun h => absurd h (by decide), fun _ => TG_3 (i := 101) rfl rfl, by decide, by decide, by decide⟩, List.forall_mem_cons.mpr ⟨⟨fun h => absurd h (by decide), fun _ => TG_7 (i := 179) rfl rfl, by decide, by decide, by decide⟩, List.forall_mem_nil _⟩⟩⟩⟩⟩⟩⟩⟩⟩⟩⟩⟩⟩⟩⟩⟩⟩⟩⟩⟩⟩⟩⟩⟩⟩⟩⟩⟩⟩⟩⟩⟩⟩⟩⟩⟩⟩⟩⟩⟩⟩⟩⟩⟩⟩⟩⟩⟩⟩⟩⟩⟩⟩⟩⟩⟩⟩⟩⟩⟩⟩⟩⟩⟩⟩⟩⟩⟩⟩⟩⟩⟩⟩⟩⟩⟩⟩⟩⟩⟩⟩⟩⟩⟩⟩⟩⟩⟩⟩⟩⟩⟩⟩⟩⟩⟩⟩⟩⟩⟩⟩⟩⟩⟩⟩⟩⟩⟩⟩⟩⟩⟩⟩⟩⟩⟩⟩⟩⟩⟩⟩⟩⟩⟩⟩⟩
theorem mM_ok (o : Nat) : ∀ x ∈ mPoolM o, mWM o x := by
  match o with
  | 0 => exact mM_0
  | 1 => exact mM_1
  | 2 => exact mM_2
  | 3 => exact mM_3
  | 4 => exact mM_4
  | 5 => exact mM_5
  | 6 => exact mM_6
  | 7 => exact mM_7
  | 8 => exact mM_8
  | 9 => exact mM_9
  | 10 => exact mM_10
  | 11 => exact mM_11
  | 12 => exact mM_12
  | n => 
    intro x hx
    unfold mPoolM at hx
    split at hx <;> first | exact absurd hx List.not_mem_nil | skip
    · exact mM_0 x hx
    · exact mM_1 x hx
    · exact mM_2 x hx
    · exact mM_3 x hx
    · exact mM_4 x hx
    · exact mM_5 x hx
    · exact mM_6 x hx
    · exact mM_7 x hx
    · exact mM_8 x hx
    · exact mM_9 x hx
    · exact mM_10 x hx
    · exact mM_11 x hx
    · exact mM_12 x hx
def mPoolC : Nat → List (Nat × Nat)
  | 5 => [(9, 3)]
  | 10 => [(9, 7), (16, 8), (39, 0), (48, 9), (55, 2), (62, 5), (69, 6), (76, 1), (83, 4)]
  | 12 => [(8, 10), (130, 11)]
  | _ => []
def mWC (o : Nat) (x : Nat × Nat) : Prop := ∃ q : vw_C, vwCl[x.2]? = some q ∧ Cond.classLink (mOwn o) x.1 q.1 ∈ TG ∧ Cond.instantiable q.1 q.2.2 ∈ TG ∧ Cond.initialized q.1 ∈ TG
set_option maxRecDepth 10000 in
theorem mC_5 : ∀ x ∈ mPoolC 5, mWC 5 x := List.forall_mem_cons.mpr ⟨⟨(RX3, TX3, 3), rfl, TG_2 (i := 18) rfl rfl, TG_2 (i := 19) rfl rfl, TG_1 (i := 8) rfl rfl⟩, List.forall_mem_nil _⟩
set_option maxRecDepth 10000 in
theorem mC_10 : ∀ x ∈ mPoolC 10, mWC 10 x := List.forall_mem_cons.mpr ⟨⟨(RX7, TX7, 17), rfl, TG_1 (i := 31) rfl rfl, TG_1 (i := 32) rfl rfl, TG_1 (i := 2) rfl rfl⟩, List.forall_mem_cons.mpr ⟨⟨(RX8, TX8, 10), rfl, TG_1 (i := 134) rfl rfl, TG_1 (i := 135) rfl rfl, TG_1 (i := 3) rfl rfl⟩, List.forall_mem_cons.mpr ⟨⟨(RX0, TX0, 6), rfl, TG_1 (i := 182) rfl rfl, TG_1 (i := 183) rfl rfl, TG_1 (i := 4) rfl rfl⟩, List.forall_mem_cons.mpr ⟨⟨(RX9, TX9, 6), rfl, TG_1 (i := 207) rfl rfl, TG_1 (i := 208) rfl rfl, TG_1 (i := 5) rfl rfl⟩, List.forall_mem_cons.mpr ⟨⟨(RX2, TX2, 3), rfl, TG_1 (i := 236) rfl rfl, TG_1 (i := 237) rfl rfl, TG_1 (i := 6) rfl rfl⟩, List.forall_mem_cons.mpr ⟨⟨(RX5, TX5, 2), rfl, TG_2 (i := 12) rfl rfl, TG_2 (i := 13) rfl rfl, TG_1 (i := 7) rfl rfl⟩, List.forall_mem_cons.mpr ⟨⟨(RX6, TX6, 5), rfl, TG_2 (i := 43) rfl rfl, TG_2 (i := 44) rfl rfl, TG_1 (i := 9) rfl rfl⟩, List.forall_mem_cons.mpr ⟨⟨(RX1, TX1, 4), rfl, TG_2 (i := 67) rfl rfl, TG_2 (i := 68) rfl rfl, TG_1 (i := 10) rfl rfl⟩, List.forall_mem_cons.mpr ⟨⟨(RX4, TX4, 2), rfl, TG_2 (i := 88) rfl rfl, TG_2 (i := 89) rfl rfl, TG_1 (i := 11) rfl rfl⟩, List.forall_mem_nil _⟩⟩⟩⟩⟩⟩⟩⟩⟩
set_option maxRecDepth 10000 in
theorem mC_12 : ∀ x ∈ mPoolC 12, mWC 12 x := List.forall_mem_cons.mpr ⟨⟨(RX10, TX10, 15), rfl, TG_1 (i := 23) rfl rfl, TG_1 (i := 24) rfl rfl, TG_1 (i := 1) rfl rfl⟩, List.forall_mem_cons.mpr ⟨⟨(RX11, TX11, 20), rfl, TG_5 (i := 201) rfl rfl, TG_5 (i := 202) rfl rfl, TG_1 (i := 12) rfl rfl⟩, List.forall_mem_nil _⟩⟩
theorem mC_ok (o : Nat) : ∀ x ∈ mPoolC o, mWC o x := by
  match o with
  | 5 => exact mC_5
  | 10 => exact mC_10
  | 12 => exact mC_12
  | n => 
    intro x hx
    unfold mPoolC at hx
    split at hx <;> first | exact absurd hx List.not_mem_nil | skip
    · exact mC_5 x hx
    · exact mC_10 x hx
    · exact mC_12 x hx
def mPoolK : Nat → List (Nat × Nat)
  | 13 => [(265, 1431655765), (266, 858993459), (267, 252645135)]
  | _ => []
def mWK (o : Nat) (x : Nat × Nat) : Prop := Cond.constant (mOwn o) x.1 (Int32.ofInt (x.2 : Int)) ∈ TG
set_option maxRecDepth 10000 in
theorem mK_13 : ∀ x ∈ mPoolK 13, mWK 13 x := List.forall_mem_cons.mpr ⟨TG_3 (i := 65) rfl rfl, List.forall_mem_cons.mpr ⟨TG_3 (i := 66) rfl rfl, List.forall_mem_cons.mpr ⟨TG_3 (i := 67) rfl rfl, List.forall_mem_nil _⟩⟩⟩
theorem mK_ok (o : Nat) : ∀ x ∈ mPoolK o, mWK o x := by
  match o with
  | 13 => exact mK_13
  | n => 
    intro x hx
    unfold mPoolK at hx
    split at hx <;> first | exact absurd hx List.not_mem_nil | skip
    · exact mK_13 x hx
def mPoolL : Nat → List (Nat × Nat)
  | 4 => [(34, 1000)]
  | 10 => [(387, 10)]
  | 11 => [(170, 10), (254, 1000)]
  | 12 => [(162, 4294967295)]
  | _ => []
def mWL (o : Nat) (x : Nat × Nat) : Prop := Cond.constantLong (mOwn o) x.1 (Int64.ofInt (x.2 : Int)) ∈ TG
set_option maxRecDepth 10000 in
theorem mL_4 : ∀ x ∈ mPoolL 4, mWL 4 x := List.forall_mem_cons.mpr ⟨TG_5 (i := 172) rfl rfl, List.forall_mem_nil _⟩
set_option maxRecDepth 10000 in
theorem mL_10 : ∀ x ∈ mPoolL 10, mWL 10 x := List.forall_mem_cons.mpr ⟨TG_4 (i := 126) rfl rfl, List.forall_mem_nil _⟩
set_option maxRecDepth 10000 in
theorem mL_11 : ∀ x ∈ mPoolL 11, mWL 11 x := List.forall_mem_cons.mpr ⟨TG_6 (i := 169) rfl rfl, List.forall_mem_cons.mpr ⟨TG_7 (i := 161) rfl rfl, List.forall_mem_nil _⟩⟩
set_option maxRecDepth 10000 in
theorem mL_12 : ∀ x ∈ mPoolL 12, mWL 12 x := List.forall_mem_cons.mpr ⟨TG_7 (i := 192) rfl rfl, List.forall_mem_nil _⟩
theorem mL_ok (o : Nat) : ∀ x ∈ mPoolL o, mWL o x := by
  match o with
  | 4 => exact mL_4
  | 10 => exact mL_10
  | 11 => exact mL_11
  | 12 => exact mL_12
  | n => 
    intro x hx
    unfold mPoolL at hx
    split at hx <;> first | exact absurd hx List.not_mem_nil | skip
    · exact mL_4 x hx
    · exact mL_10 x hx
    · exact mL_11 x hx
    · exact mL_12 x hx
def mExn (E : Nat) : String := match E with
  | 0 => "java/lang/IndexOutOfBoundsException"
  | 1 => "java/lang/IllegalArgumentException"
  | _ => "java/lang/IllegalStateException"
def mUp : List String := ["java/lang/RuntimeException", "java/lang/Exception"]
noncomputable def mXw : List Cond := [(Cond.initialized "java/lang/Throwable"),
  (Cond.initialized "java/lang/Exception"),
  (Cond.initialized "java/lang/RuntimeException"),
  (Cond.initialized "java/lang/IndexOutOfBoundsException"),
  (Cond.initialized "java/lang/IllegalArgumentException"),
  (Cond.initialized "java/lang/IllegalStateException"),
  (Cond.classLink "JobWorkshop" (200 : Nat) "java/lang/IndexOutOfBoundsException"),
  (Cond.instantiable "java/lang/IndexOutOfBoundsException" (6 : Nat)),
  (Cond.castable "java/lang/IndexOutOfBoundsException" "java/lang/IndexOutOfBoundsException"),
  (Cond.declares ({ cls := "java/lang/RuntimeException", name := "<init>", desc := "()V" } : Jvm.MethodName)),
  (Cond.declares ({ cls := "java/lang/RuntimeException", name := "<init>", desc := "(Ljava/lang/String;)V" } : Jvm.MethodName)),
  (Cond.declares ({ cls := "java/lang/Exception", name := "<init>", desc := "()V" } : Jvm.MethodName)),
  (Cond.declares ({ cls := "java/lang/Exception", name := "<init>", desc := "(Ljava/lang/String;)V" } : Jvm.MethodName)),
  (Cond.declares ({ cls := "java/lang/Throwable", name := "<init>", desc := "()V" } : Jvm.MethodName)),
  (Cond.declares ({ cls := "java/lang/Throwable", name := "<init>", desc := "(Ljava/lang/String;)V" } : Jvm.MethodName)),
  (Cond.selects "java/lang/IndexOutOfBoundsException" ({ cls := "java/lang/Throwable", name := "fillInStackTrace", desc := "(I)Ljava/lang/Throwable;" } : Jvm.MethodName) ({ cls := "java/lang/Throwable", name := "fillInStackTrace", desc := "(I)Ljava/lang/Throwable;" } : Jvm.MethodName)),
  (Cond.selects "java/lang/IndexOutOfBoundsException" ({ cls := "java/lang/Throwable", name := "fillInStackTrace", desc := "()Ljava/lang/Throwable;" } : Jvm.MethodName) ({ cls := "java/lang/Throwable", name := "fillInStackTrace", desc := "()Ljava/lang/Throwable;" } : Jvm.MethodName)),
  (Cond.lays "java/lang/IndexOutOfBoundsException" "java/lang/Throwable" "cause" "Ljava/lang/Throwable;"),
  (Cond.lays "java/lang/Throwable" "java/lang/Throwable" "cause" "Ljava/lang/Throwable;"),
  (Cond.lays "java/lang/IndexOutOfBoundsException" "java/lang/Throwable" "stackTrace" "[Ljava/lang/StackTraceElement;"),
  (Cond.lays "java/lang/Throwable" "java/lang/Throwable" "stackTrace" "[Ljava/lang/StackTraceElement;"),
  (Cond.lays "java/lang/IndexOutOfBoundsException" "java/lang/Throwable" "suppressedExceptions" "Ljava/util/List;"),
  (Cond.lays "java/lang/Throwable" "java/lang/Throwable" "suppressedExceptions" "Ljava/util/List;"),
  (Cond.lays "java/lang/IndexOutOfBoundsException" "java/lang/Throwable" "detailMessage" "Ljava/lang/String;"),
  (Cond.lays "java/lang/Throwable" "java/lang/Throwable" "detailMessage" "Ljava/lang/String;"),
  (Cond.lays "java/lang/IndexOutOfBoundsException" "java/lang/Throwable" "backtrace" "Ljava/lang/Object;"),
  (Cond.lays "java/lang/Throwable" "java/lang/Throwable" "backtrace" "Ljava/lang/Object;"),
  (Cond.fieldLink "java/lang/Throwable" (198 : Nat) "java/lang/Throwable" "backtrace" "Ljava/lang/Object;"),
  (Cond.superclass "java/lang/Throwable" "java/lang/Object"),
  (Cond.instanceMethod ({ cls := "java/lang/Throwable", name := "<init>", desc := "()V" } : Jvm.MethodName)),
  (Cond.code ({ cls := "java/lang/Throwable", name := "<init>", desc := "()V" } : Jvm.MethodName) prog_23_method_1_code (1 : Nat) (Option.none : Option Jvm.ClassFile.FieldType)),
  (Cond.methodLink "java/lang/Throwable" (1 : Nat) ({ cls := "java/lang/Object", name := "<init>", desc := "()V" } : Jvm.MethodName)),
  (Cond.fieldLink "java/lang/Throwable" (13 : Nat) "java/lang/Throwable" "UNASSIGNED_STACK" "[Ljava/lang/StackTraceElement;"),
  (Cond.fieldLink "java/lang/Throwable" (20 : Nat) "java/lang/Throwable" "SUPPRESSED_SENTINEL" "Ljava/util/List;"),
  (Cond.methodLink "java/lang/Throwable" (27 : Nat) ({ cls := "java/lang/Throwable", name := "fillInStackTrace", desc := "()Ljava/lang/Throwable;" } : Jvm.MethodName)),
  (Cond.instanceMethod ({ cls := "java/lang/Throwable", name := "fillInStackTrace", desc := "()Ljava/lang/Throwable;" } : Jvm.MethodName)),
  (Cond.sameMethod "java/lang/Throwable" "java/lang/Throwable" "fillInStackTrace" "()Ljava/lang/Throwable;"),
  (Cond.selects "java/lang/IllegalArgumentException" ({ cls := "java/lang/Throwable", name := "fillInStackTrace", desc := "()Ljava/lang/Throwable;" } : Jvm.MethodName) ({ cls := "java/lang/Throwable", name := "fillInStackTrace", desc := "()Ljava/lang/Throwable;" } : Jvm.MethodName)),
  (Cond.selects "java/lang/IllegalStateException" ({ cls := "java/lang/Throwable", name := "fillInStackTrace", desc := "()Ljava/lang/Throwable;" } : Jvm.MethodName) ({ cls := "java/lang/Throwable", name := "fillInStackTrace", desc := "()Ljava/lang/Throwable;" } : Jvm.MethodName)),
  (Cond.codeSync ({ cls := "java/lang/Throwable", name := "fillInStackTrace", desc := "()Ljava/lang/Throwable;" } : Jvm.MethodName) prog_23_method_18_code (1 : Nat) (Option.some (Jvm.ClassFile.FieldType.object "java/lang/Throwable"))),
  (Cond.methodLink "java/lang/Throwable" (202 : Nat) ({ cls := "java/lang/Throwable", name := "fillInStackTrace", desc := "(I)Ljava/lang/Throwable;" } : Jvm.MethodName)),
  (Cond.instanceMethod ({ cls := "java/lang/Throwable", name := "fillInStackTrace", desc := "(I)Ljava/lang/Throwable;" } : Jvm.MethodName)),
  (Cond.instantiable "java/lang/Throwable" (6 : Nat)),
  (Cond.native ({ cls := "java/lang/Throwable", name := "fillInStackTrace", desc := "(I)Ljava/lang/Throwable;" } : Jvm.MethodName)),
  (Cond.methodLink "JobWorkshop" (204 : Nat) ({ cls := "java/lang/IndexOutOfBoundsException", name := "<init>", desc := "(Ljava/lang/String;)V" } : Jvm.MethodName)),
  (Cond.instanceMethod ({ cls := "java/lang/IndexOutOfBoundsException", name := "<init>", desc := "(Ljava/lang/String;)V" } : Jvm.MethodName)),
  (Cond.code ({ cls := "java/lang/IndexOutOfBoundsException", name := "<init>", desc := "(Ljava/lang/String;)V" } : Jvm.MethodName) prog_17_method_2_code (2 : Nat) (Option.none : Option Jvm.ClassFile.FieldType)),
  (Cond.methodLink "java/lang/IndexOutOfBoundsException" (7 : Nat) ({ cls := "java/lang/RuntimeException", name := "<init>", desc := "(Ljava/lang/String;)V" } : Jvm.MethodName)),
  (Cond.instanceMethod ({ cls := "java/lang/RuntimeException", name := "<init>", desc := "(Ljava/lang/String;)V" } : Jvm.MethodName)),
  (Cond.code ({ cls := "java/lang/RuntimeException", name := "<init>", desc := "(Ljava/lang/String;)V" } : Jvm.MethodName) prog_20_method_2_code (2 : Nat) (Option.none : Option Jvm.ClassFile.FieldType)),
  (Cond.methodLink "java/lang/RuntimeException" (7 : Nat) ({ cls := "java/lang/Exception", name := "<init>", desc := "(Ljava/lang/String;)V" } : Jvm.MethodName)),
  (Cond.instanceMethod ({ cls := "java/lang/Exception", name := "<init>", desc := "(Ljava/lang/String;)V" } : Jvm.MethodName)),
  (Cond.code ({ cls := "java/lang/Exception", name := "<init>", desc := "(Ljava/lang/String;)V" } : Jvm.MethodName) prog_14_method_2_code (2 : Nat) (Option.none : Option Jvm.ClassFile.FieldType)),
  (Cond.methodLink "java/lang/Exception" (7 : Nat) ({ cls := "java/lang/Throwable", name := "<init>", desc := "(Ljava/lang/String;)V" } : Jvm.MethodName)),
  (Cond.instanceMethod ({ cls := "java/lang/Throwable", name := "<init>", desc := "(Ljava/lang/String;)V" } : Jvm.MethodName)),
  (Cond.code ({ cls := "java/lang/Throwable", name := "<init>", desc := "(Ljava/lang/String;)V" } : Jvm.MethodName) prog_23_method_2_code (2 : Nat) (Option.none : Option Jvm.ClassFile.FieldType)),
  (Cond.fieldLink "java/lang/Throwable" (198 : Nat) "java/lang/Throwable" "backtrace" "Ljava/lang/Object;"),
  (Cond.fieldLink "java/lang/Throwable" (31 : Nat) "java/lang/Throwable" "detailMessage" "Ljava/lang/String;"),
  (Cond.fieldLink "java/lang/Throwable" (7 : Nat) "java/lang/Throwable" "cause" "Ljava/lang/Throwable;"),
  (Cond.fieldLink "java/lang/Throwable" (17 : Nat) "java/lang/Throwable" "stackTrace" "[Ljava/lang/StackTraceElement;"),
  (Cond.fieldLink "java/lang/Throwable" (24 : Nat) "java/lang/Throwable" "suppressedExceptions" "Ljava/util/List;"),
  (Cond.lays "java/lang/IndexOutOfBoundsException" "java/lang/Throwable" "depth" "I"),
  (Cond.superclass "java/lang/IndexOutOfBoundsException" "java/lang/RuntimeException"),
  (Cond.classLink "JobWorkshop" (178 : Nat) "java/lang/IllegalArgumentException"),
  (Cond.instantiable "java/lang/IllegalArgumentException" (6 : Nat)),
  (Cond.castable "java/lang/IllegalArgumentException" "java/lang/IllegalArgumentException"),
  (Cond.selects "java/lang/IllegalArgumentException" ({ cls := "java/lang/Throwable", name := "fillInStackTrace", desc := "(I)Ljava/lang/Throwable;" } : Jvm.MethodName) ({ cls := "java/lang/Throwable", name := "fillInStackTrace", desc := "(I)Ljava/lang/Throwable;" } : Jvm.MethodName)),
  (Cond.lays "java/lang/IllegalArgumentException" "java/lang/Throwable" "cause" "Ljava/lang/Throwable;"),
  (Cond.lays "java/lang/IllegalArgumentException" "java/lang/Throwable" "stackTrace" "[Ljava/lang/StackTraceElement;"),
  (Cond.lays "java/lang/IllegalArgumentException" "java/lang/Throwable" "suppressedExceptions" "Ljava/util/List;"),
  (Cond.lays "java/lang/IllegalArgumentException" "java/lang/Throwable" "detailMessage" "Ljava/lang/String;"),
  (Cond.lays "java/lang/IllegalArgumentException" "java/lang/Throwable" "backtrace" "Ljava/lang/Object;"),
  (Cond.methodLink "JobWorkshop" (182 : Nat) ({ cls := "java/lang/IllegalArgumentException", name := "<init>", desc := "(Ljava/lang/String;)V" } : Jvm.MethodName)),
  (Cond.instanceMethod ({ cls := "java/lang/IllegalArgumentException", name := "<init>", desc := "(Ljava/lang/String;)V" } : Jvm.MethodName)),
  (Cond.code ({ cls := "java/lang/IllegalArgumentException", name := "<init>", desc := "(Ljava/lang/String;)V" } : Jvm.MethodName) prog_15_method_2_code (2 : Nat) (Option.none : Option Jvm.ClassFile.FieldType)),
  (Cond.methodLink "java/lang/IllegalArgumentException" (7 : Nat) ({ cls := "java/lang/RuntimeException", name := "<init>", desc := "(Ljava/lang/String;)V" } : Jvm.MethodName)),
  (Cond.lays "java/lang/IllegalArgumentException" "java/lang/Throwable" "depth" "I"),
  (Cond.superclass "java/lang/IllegalArgumentException" "java/lang/RuntimeException"),
  (Cond.classLink "JobWorkshop" (109 : Nat) "java/lang/IllegalStateException"),
  (Cond.instantiable "java/lang/IllegalStateException" (6 : Nat)),
  (Cond.castable "java/lang/IllegalStateException" "java/lang/IllegalStateException"),
  (Cond.selects "java/lang/IllegalStateException" ({ cls := "java/lang/Throwable", name := "fillInStackTrace", desc := "(I)Ljava/lang/Throwable;" } : Jvm.MethodName) ({ cls := "java/lang/Throwable", name := "fillInStackTrace", desc := "(I)Ljava/lang/Throwable;" } : Jvm.MethodName)),
  (Cond.lays "java/lang/IllegalStateException" "java/lang/Throwable" "cause" "Ljava/lang/Throwable;"),
  (Cond.lays "java/lang/IllegalStateException" "java/lang/Throwable" "stackTrace" "[Ljava/lang/StackTraceElement;"),
  (Cond.lays "java/lang/IllegalStateException" "java/lang/Throwable" "suppressedExceptions" "Ljava/util/List;"),
  (Cond.lays "java/lang/IllegalStateException" "java/lang/Throwable" "detailMessage" "Ljava/lang/String;"),
  (Cond.lays "java/lang/IllegalStateException" "java/lang/Throwable" "backtrace" "Ljava/lang/Object;"),
  (Cond.methodLink "JobWorkshop" (113 : Nat) ({ cls := "java/lang/IllegalStateException", name := "<init>", desc := "(Ljava/lang/String;)V" } : Jvm.MethodName)),
  (Cond.instanceMethod ({ cls := "java/lang/IllegalStateException", name := "<init>", desc := "(Ljava/lang/String;)V" } : Jvm.MethodName)),
  (Cond.code ({ cls := "java/lang/IllegalStateException", name := "<init>", desc := "(Ljava/lang/String;)V" } : Jvm.MethodName) prog_16_method_2_code (2 : Nat) (Option.none : Option Jvm.ClassFile.FieldType)),
  (Cond.methodLink "java/lang/IllegalStateException" (7 : Nat) ({ cls := "java/lang/RuntimeException", name := "<init>", desc := "(Ljava/lang/String;)V" } : Jvm.MethodName)),
  (Cond.lays "java/lang/IllegalStateException" "java/lang/Throwable" "depth" "I"),
  (Cond.superclass "java/lang/IllegalStateException" "java/lang/RuntimeException"),
  (Cond.sameMethod "java/lang/Throwable" "java/lang/Throwable" "fillInStackTrace" "(I)Ljava/lang/Throwable;"),
  (Cond.instanceMethod ({ cls := "java/lang/Object", name := "<init>", desc := "()V" } : Jvm.MethodName)),
  (Cond.code ({ cls := "java/lang/Object", name := "<init>", desc := "()V" } : Jvm.MethodName) object_method_1_code (1 : Nat) (Option.none : Option Jvm.ClassFile.FieldType))]
set_option maxRecDepth 20000 in
theorem mXw_ok : ∀ w ∈ mXw, w ∈ TG ∨ w ∈ mBad := List.forall_mem_cons.mpr ⟨Or.inl (TG_1 (i := 13) rfl rfl), List.forall_mem_cons.mpr ⟨Or.inl (TG_1 (i := 14) rfl rfl), List.forall_mem_cons.mpr ⟨Or.inl (TG_1 (i := 15) rfl rfl), List.forall_mem_cons.mpr ⟨Or.inl (TG_1 (i := 16) rfl rfl), List.forall_mem_cons.mpr ⟨Or.inl (TG_1 (i := 17) rfl rfl), List.forall_mem_cons.mpr ⟨Or.inl (TG_1 (i := 18) rfl rfl), List.forall_mem_cons.mpr ⟨Or.inl (TG_3 (i := 147) rfl rfl), List.forall_mem_cons.mpr ⟨Or.inl (TG_3 (i := 148) rfl rfl), List.forall_mem_cons.mpr ⟨Or.inr (List.mem_of_getElem? (i := 2) rfl), List.forall_mem_cons.mpr ⟨Or.inr (List.mem_of_getElem? (i := 3) rfl), List.forall_mem_cons.mpr ⟨Or.inr (List.mem_of_getElem? (i := 4) rfl), List.forall_mem_cons.mpr ⟨Or.inr (List.mem_of_getElem? (i := 5) rfl), List.forall_mem_cons.mpr ⟨Or.inr (List.mem_of_getElem? (i := 6) rfl), List.forall_mem_cons.mpr ⟨Or.inr (List.mem_of_getElem? (i := 7) rfl), List.forall_mem_cons.mpr ⟨Or.inr (List.mem_of_getElem? (i := 8) rfl), List.forall_mem_cons.mpr ⟨Or.inl (TG_3 (i := 156) rfl rfl), List.forall_mem_cons.mpr ⟨Or.inl (TG_3 (i := 157) rfl rfl), List.forall_mem_cons.mpr ⟨Or.inl (TG_3 (i := 158) rfl rfl), List.forall_mem_cons.mpr ⟨Or.inl (TG_3 (i := 159) rfl rfl), List.forall_mem_cons.mpr ⟨Or.inl (TG_3 (i := 160) rfl rfl), List.forall_mem_cons.mpr ⟨Or.inl (TG_3 (i := 161) rfl rfl), List.forall_mem_cons.mpr ⟨Or.inl (TG_3 (i := 162) rfl rfl), List.forall_mem_cons.mpr ⟨Or.inl (TG_3 (i := 163) rfl rfl), List.forall_mem_cons.mpr ⟨Or.inl (TG_3 (i := 164) rfl rfl), List.forall_mem_cons.mpr ⟨Or.inl (TG_3 (i := 165) rfl rfl), List.forall_mem_cons.mpr ⟨Or.inl (TG_3 (i := 166) rfl rfl), List.forall_mem_cons.mpr ⟨Or.inl (TG_3 (i := 167) rfl rfl), List.forall_mem_cons.mpr ⟨Or.inl (TG_3 (i := 168) rfl rfl), List.forall_mem_cons.mpr ⟨Or.inl (TG_3 (i := 169) rfl rfl), List.forall_mem_cons.mpr ⟨Or.inl (TG_3 (i := 170) rfl rfl), List.forall_mem_cons.mpr ⟨Or.inl (TG_3 (i := 171) rfl rfl), List.forall_mem_cons.mpr ⟨Or.inl (TG_3 (i := 172) rfl rfl), List.forall_mem_cons.mpr ⟨Or.inl (TG_3 (i := 173) rfl rfl), List.forall_mem_cons.mpr ⟨Or.inl (TG_3 (i := 175) rfl rfl), List.forall_mem_cons.mpr ⟨Or.inl (TG_3 (i := 177) rfl rfl), List.forall_mem_cons.mpr ⟨Or.inl (TG_3 (i := 178) rfl rfl), List.forall_mem_cons.mpr ⟨Or.inl (TG_3 (i := 179) rfl rfl), List.forall_mem_cons.mpr ⟨Or.inl (TG_3 (i := 180) rfl rfl), List.forall_mem_cons.mpr ⟨Or.inl (TG_3 (i := 181) rfl rfl), List.forall_mem_cons.mpr ⟨Or.inl (TG_3 (i := 182) rfl rfl), List.forall_mem_cons.mpr ⟨Or.inl (TG_3 (i := 183) rfl rfl), List.forall_mem_cons.mpr ⟨Or.inl (TG_3 (i := 185) rfl rfl), List.forall_mem_cons.mpr ⟨Or.inl (TG_3 (i := 186) rfl rfl), List.forall_mem_cons.mpr ⟨Or.inl (TG_3 (i := 187) rfl rfl), List.forall_mem_cons.mpr ⟨Or.inl (TG_3 (i := 189) rfl rfl), List.forall_mem_cons.mpr ⟨Or.inl (TG_3 (i := 190) rfl rfl), List.forall_mem_cons.mpr ⟨Or.inl (TG_3 (i := 191) rfl rfl), List.forall_mem_cons.mpr ⟨Or.inl (TG_3 (i := 192) rfl rfl), List.forall_mem_cons.mpr ⟨Or.inl (TG_3 (i := 193) rfl rfl), List.forall_mem_cons.mpr ⟨Or.inl (TG_3 (i := 194) rfl rfl), List.forall_mem_cons.mpr ⟨Or.inl (TG_3 (i := 195) rfl rfl), List.forall_mem_cons.mpr ⟨Or.inl (TG_3 (i := 196) rfl rfl), List.forall_mem_cons.mpr ⟨Or.inl (TG_3 (i := 197) rfl rfl), List.forall_mem_cons.mpr ⟨Or.inl (TG_3 (i := 198) rfl rfl), List.forall_mem_cons.mpr ⟨Or.inl (TG_3 (i := 199) rfl rfl), List.forall_mem_cons.mpr ⟨Or.inl (TG_3 (i := 200) rfl rfl), List.forall_mem_cons.mpr ⟨Or.inl (TG_3 (i := 168) rfl rfl), List.forall_mem_cons.mpr ⟨Or.inl (TG_3 (i := 202) rfl rfl), List.forall_mem_cons.mpr ⟨Or.inl (TG_3 (i := 203) rfl rfl), List.forall_mem_cons.mpr ⟨Or.inl (TG_3 (i := 204) rfl rfl), List.forall_mem_cons.mpr ⟨Or.inl (TG_3 (i := 205) rfl rfl), List.forall_mem_cons.mpr ⟨Or.inl (TG_3 (i := 210) rfl rfl), List.forall_mem_cons.mpr ⟨Or.inl (TG_3 (i := 213) rfl rfl), List.forall_mem_cons.mpr ⟨Or.inl (TG_3 (i := 218) rfl rfl), List.forall_mem_cons.mpr ⟨Or.inl (TG_3 (i := 219) rfl rfl), List.forall_mem_cons.mpr ⟨Or.inr (List.mem_of_getElem? (i := 9) rfl), List.forall_mem_cons.mpr ⟨Or.inl (TG_3 (i := 221) rfl rfl), List.forall_mem_cons.mpr ⟨Or.inl (TG_3 (i := 222) rfl rfl), List.forall_mem_cons.mpr ⟨Or.inl (TG_3 (i := 223) rfl rfl), List.forall_mem_cons.mpr ⟨Or.inl (TG_3 (i := 224) rfl rfl), List.forall_mem_cons.mpr ⟨Or.inl (TG_3 (i := 225) rfl rfl), List.forall_mem_cons.mpr ⟨Or.inl (TG_3 (i := 226) rfl rfl), List.forall_mem_cons.mpr ⟨Or.inl (TG_3 (i := 228) rfl rfl), List.forall_mem_cons.mpr ⟨Or.inl (TG_3 (i := 229) rfl rfl), List.forall_mem_cons.mpr ⟨Or.inl (TG_3 (i := 230) rfl rfl), List.forall_mem_cons.mpr ⟨Or.inl (TG_3 (i := 231) rfl rfl), List.forall_mem_cons.mpr ⟨Or.inl (TG_3 (i := 232) rfl rfl), List.forall_mem_cons.mpr ⟨Or.inl (TG_3 (i := 233) rfl rfl), List.forall_mem_cons.mpr ⟨Or.inl (TG_3 (i := 234) rfl rfl), List.forall_mem_cons.mpr ⟨Or.inl (TG_3 (i := 235) rfl rfl), List.forall_mem_cons.mpr ⟨Or.inr (List.mem_of_getElem? (i := 10) rfl), List.forall_mem_cons.mpr ⟨Or.inl (TG_3 (i := 237) rfl rfl), List.forall_mem_cons.mpr ⟨Or.inl (TG_3 (i := 238) rfl rfl), List.forall_mem_cons.mpr ⟨Or.inl (TG_3 (i := 239) rfl rfl), List.forall_mem_cons.mpr ⟨Or.inl (TG_4 (i := 0) rfl rfl), List.forall_mem_cons.mpr ⟨Or.inl (TG_4 (i := 1) rfl rfl), List.forall_mem_cons.mpr ⟨Or.inl (TG_4 (i := 2) rfl rfl), List.forall_mem_cons.mpr ⟨Or.inl (TG_4 (i := 4) rfl rfl), List.forall_mem_cons.mpr ⟨Or.inl (TG_4 (i := 5) rfl rfl), List.forall_mem_cons.mpr ⟨Or.inl (TG_4 (i := 6) rfl rfl), List.forall_mem_cons.mpr ⟨Or.inl (TG_4 (i := 7) rfl rfl), List.forall_mem_cons.mpr ⟨Or.inl (TG_4 (i := 8) rfl rfl), List.forall_mem_cons.mpr ⟨Or.inl (TG_4 (i := 9) rfl rfl), List.forall_mem_cons.mpr ⟨Or.inl (TG_7 (i := 194) rfl rfl), List.forall_mem_cons.mpr ⟨Or.inl (TG_1 (i := 29) rfl rfl), List.forall_mem_cons.mpr ⟨Or.inl (TG_1 (i := 30) rfl rfl), List.forall_mem_nil _⟩⟩⟩⟩⟩⟩⟩⟩⟩⟩⟩⟩⟩⟩⟩⟩⟩⟩⟩⟩⟩⟩⟩⟩⟩⟩⟩⟩⟩⟩⟩⟩⟩⟩⟩⟩⟩⟩⟩⟩⟩⟩⟩⟩⟩⟩⟩⟩⟩⟩⟩⟩⟩⟩⟩⟩⟩⟩⟩⟩⟩⟩⟩⟩⟩⟩⟩⟩⟩⟩⟩⟩⟩⟩⟩⟩⟩⟩⟩⟩⟩⟩⟩⟩⟩⟩⟩⟩⟩⟩⟩⟩⟩⟩⟩⟩
def mStrs : List (Nat × String) := [(111, "the machine has all its closures"), (149, "the job has all its steps"), (155, "the job has no steps, or one of a single hour"), (180, "no row of all the jobs' steps"), (189, "too many steps for a best plan"), (202, "no such two places"), (209, "no row tells these orders"), (221, "no such worker"), (277, "no such place"), (361, "no such machine"), (363, "no such kind"), (365, "no such job"), (367, "no such step"), (369, "a number is out of range"), (371, "all jobs are there"), (373, "there is no plan")]
theorem mStrs_tbl : ∀ x ∈ mStrs, Cond.stringRef "JobWorkshop" x.1 x.2 ∈ lw_tbl := List.forall_mem_cons.mpr ⟨TT_4 (i := 3) rfl, List.forall_mem_cons.mpr ⟨TT_4 (i := 65) rfl, List.forall_mem_cons.mpr ⟨TT_4 (i := 77) rfl, List.forall_mem_cons.mpr ⟨TT_4 (i := 130) rfl, List.forall_mem_cons.mpr ⟨TT_4 (i := 141) rfl, List.forall_mem_cons.mpr ⟨TT_4 (i := 168) rfl, List.forall_mem_cons.mpr ⟨TT_4 (i := 178) rfl, List.forall_mem_cons.mpr ⟨TT_4 (i := 213) rfl, List.forall_mem_cons.mpr ⟨TT_5 (i := 26) rfl, List.forall_mem_cons.mpr ⟨TT_3 (i := 188) rfl, List.forall_mem_cons.mpr ⟨TT_4 (i := 36) rfl, List.forall_mem_cons.mpr ⟨TT_4 (i := 64) rfl, List.forall_mem_cons.mpr ⟨TT_4 (i := 236) rfl, List.forall_mem_cons.mpr ⟨TT_3 (i := 227) rfl, List.forall_mem_cons.mpr ⟨TT_4 (i := 52) rfl, List.forall_mem_cons.mpr ⟨TT_4 (i := 190) rfl, List.forall_mem_nil _⟩⟩⟩⟩⟩⟩⟩⟩⟩⟩⟩⟩⟩⟩⟩⟩
def mPoolX : List (Nat × Nat × Nat × Nat × Nat) := [(109, 111, 113, 0, 2), (109, 149, 113, 0, 2), (109, 155, 113, 0, 2), (178, 180, 182, 0, 1), (109, 189, 113, 0, 2), (200, 202, 204, 0, 0), (109, 209, 113, 0, 2), (200, 221, 204, 0, 0), (200, 277, 204, 1, 0), (200, 361, 204, 1, 0), (200, 363, 204, 1, 0), (200, 365, 204, 1, 0), (200, 367, 204, 1, 0), (178, 369, 182, 1, 1), (109, 371, 113, 1, 2), (109, 373, 113, 1, 2)]
def mWX (x : Nat × Nat × Nat × Nat × Nat) : Prop := (∃ tx, (x.2.1, tx) ∈ mStrs) ∧ Cond.classLink "JobWorkshop" x.1 (mExn x.2.2.2.2) ∈ TG ∧ Cond.initialized (mExn x.2.2.2.2) ∈ TG ∧ (∀ w ∈ vx_atS "JobWorkshop" x.2.2.1 (mExn x.2.2.2.2) mUp, w ∈ mXw) ∧ (∀ w ∈ Cond.classLink "JobWorkshop" x.1 (mExn x.2.2.2.2) :: Cond.initialized (mExn x.2.2.2.2) :: vx_atS "JobWorkshop" x.2.2.1 (mExn x.2.2.2.2) mUp, vx_ot w = true) ∧ Bundle.fit (mExn x.2.2.2.2) = true ∧ x.2.2.2.2 < 3
set_option maxRecDepth 20000 in
theorem mX_15 : mWX (109, 373, 113, 1, 2) := ⟨⟨"there is no plan", List.mem_of_getElem? (i := 15) rfl⟩, TG_3 (i := 234) rfl rfl, TG_1 (i := 18) rfl rfl, by decide +kernel, by decide +kernel, by decide +kernel, by decide⟩
set_option maxRecDepth 20000 in
theorem mX_14 : mWX (109, 371, 113, 1, 2) := ⟨⟨"all jobs are there", List.mem_of_getElem? (i := 14) rfl⟩, TG_3 (i := 234) rfl rfl, TG_1 (i := 18) rfl rfl, by decide +kernel, by decide +kernel, by decide +kernel, by decide⟩
set_option maxRecDepth 20000 in
theorem mX_13 : mWX (178, 369, 182, 1, 1) := ⟨⟨"a number is out of range", List.mem_of_getElem? (i := 13) rfl⟩, TG_3 (i := 218) rfl rfl, TG_1 (i := 17) rfl rfl, by decide +kernel, by decide +kernel, by decide +kernel, by decide⟩
set_option maxRecDepth 20000 in
theorem mX_12 : mWX (200, 367, 204, 1, 0) := ⟨⟨"no such step", List.mem_of_getElem? (i := 12) rfl⟩, TG_3 (i := 147) rfl rfl, TG_1 (i := 16) rfl rfl, by decide +kernel, by decide +kernel, by decide +kernel, by decide⟩
set_option maxRecDepth 20000 in
theorem mX_11 : mWX (200, 365, 204, 1, 0) := ⟨⟨"no such job", List.mem_of_getElem? (i := 11) rfl⟩, TG_3 (i := 147) rfl rfl, TG_1 (i := 16) rfl rfl, by decide +kernel, by decide +kernel, by decide +kernel, by decide⟩
set_option maxRecDepth 20000 in
theorem mX_10 : mWX (200, 363, 204, 1, 0) := ⟨⟨"no such kind", List.mem_of_getElem? (i := 10) rfl⟩, TG_3 (i := 147) rfl rfl, TG_1 (i := 16) rfl rfl, by decide +kernel, by decide +kernel, by decide +kernel, by decide⟩
set_option maxRecDepth 20000 in
theorem mX_9 : mWX (200, 361, 204, 1, 0) := ⟨⟨"no such machine", List.mem_of_getElem? (i := 9) rfl⟩, TG_3 (i := 147) rfl rfl, TG_1 (i := 16) rfl rfl, by decide +kernel, by decide +kernel, by decide +kernel, by decide⟩
set_option maxRecDepth 20000 in
theorem mX_8 : mWX (200, 277, 204, 1, 0) := ⟨⟨"no such place", List.mem_of_getElem? (i := 8) rfl⟩, TG_3 (i := 147) rfl rfl, TG_1 (i := 16) rfl rfl, by decide +kernel, by decide +kernel, by decide +kernel, by decide⟩
set_option maxRecDepth 20000 in
theorem mX_7 : mWX (200, 221, 204, 0, 0) := ⟨⟨"no such worker", List.mem_of_getElem? (i := 7) rfl⟩, TG_3 (i := 147) rfl rfl, TG_1 (i := 16) rfl rfl, by decide +kernel, by decide +kernel, by decide +kernel, by decide⟩
set_option maxRecDepth 20000 in
theorem mX_6 : mWX (109, 209, 113, 0, 2) := ⟨⟨"no row tells these orders", List.mem_of_getElem? (i := 6) rfl⟩, TG_3 (i := 234) rfl rfl, TG_1 (i := 18) rfl rfl, by decide +kernel, by decide +kernel, by decide +kernel, by decide⟩
set_option maxRecDepth 20000 in
theorem mX_5 : mWX (200, 202, 204, 0, 0) := ⟨⟨"no such two places", List.mem_of_getElem? (i := 5) rfl⟩, TG_3 (i := 147) rfl rfl, TG_1 (i := 16) rfl rfl, by decide +kernel, by decide +kernel, by decide +kernel, by decide⟩
set_option maxRecDepth 20000 in
theorem mX_4 : mWX (109, 189, 113, 0, 2) := ⟨⟨"too many steps for a best plan", List.mem_of_getElem? (i := 4) rfl⟩, TG_3 (i := 234) rfl rfl, TG_1 (i := 18) rfl rfl, by decide +kernel, by decide +kernel, by decide +kernel, by decide⟩
set_option maxRecDepth 20000 in
theorem mX_3 : mWX (178, 180, 182, 0, 1) := ⟨⟨"no row of all the jobs' steps", List.mem_of_getElem? (i := 3) rfl⟩, TG_3 (i := 218) rfl rfl, TG_1 (i := 17) rfl rfl, by decide +kernel, by decide +kernel, by decide +kernel, by decide⟩
set_option maxRecDepth 20000 in
theorem mX_2 : mWX (109, 155, 113, 0, 2) := ⟨⟨"the job has no steps, or one of a single hour", List.mem_of_getElem? (i := 2) rfl⟩, TG_3 (i := 234) rfl rfl, TG_1 (i := 18) rfl rfl, by decide +kernel, by decide +kernel, by decide +kernel, by decide⟩
set_option maxRecDepth 20000 in
theorem mX_1 : mWX (109, 149, 113, 0, 2) := ⟨⟨"the job has all its steps", List.mem_of_getElem? (i := 1) rfl⟩, TG_3 (i := 234) rfl rfl, TG_1 (i := 18) rfl rfl, by decide +kernel, by decide +kernel, by decide +kernel, by decide⟩
set_option maxRecDepth 20000 in
theorem mX_0 : mWX (109, 111, 113, 0, 2) := ⟨⟨"the machine has all its closures", List.mem_of_getElem? (i := 0) rfl⟩, TG_3 (i := 234) rfl rfl, TG_1 (i := 18) rfl rfl, by decide +kernel, by decide +kernel, by decide +kernel, by decide⟩
theorem mX_ok : ∀ x ∈ mPoolX, mWX x := List.forall_mem_cons.mpr ⟨mX_0, List.forall_mem_cons.mpr ⟨mX_1, List.forall_mem_cons.mpr ⟨mX_2, List.forall_mem_cons.mpr ⟨mX_3, List.forall_mem_cons.mpr ⟨mX_4, List.forall_mem_cons.mpr ⟨mX_5, List.forall_mem_cons.mpr ⟨mX_6, List.forall_mem_cons.mpr ⟨mX_7, List.forall_mem_cons.mpr ⟨mX_8, List.forall_mem_cons.mpr ⟨mX_9, List.forall_mem_cons.mpr ⟨mX_10, List.forall_mem_cons.mpr ⟨mX_11, List.forall_mem_cons.mpr ⟨mX_12, List.forall_mem_cons.mpr ⟨mX_13, List.forall_mem_cons.mpr ⟨mX_14, List.forall_mem_cons.mpr ⟨mX_15, List.forall_mem_nil _⟩⟩⟩⟩⟩⟩⟩⟩⟩⟩⟩⟩⟩⟩⟩⟩
def mOkM (y : Nat) (q : mMeta) : Prop := (q.2.2.2.2.2 = [] → Cond.code q.1 q.2.1 (mProg.getD y ([], (0, (0, (0, []))))).2.1 q.2.2.1 ∈ TG) ∧ (q.2.2.2.2.2 ≠ [] → Cond.codeWith q.1 q.2.1 (mProg.getD y ([], (0, (0, (0, []))))).2.1 q.2.2.1 q.2.2.2.2.2 ∈ TG ∧ q.2.2.2.2.1 = true) ∧ Cond.initialized q.1.cls ∈ TG ∧ (q.2.2.2.2.1 = true → Cond.static q.1 ∈ TG) ∧ (q.2.2.2.2.1 = false → Cond.instanceMethod q.1 ∈ TG ∧ (q.1.name ≠ "<init>" → Cond.selects q.1.cls q.1 q.1 ∈ TG)) ∧ plainName q.1.cls = true ∧ (q.1.cls ≠ "java/lang/invoke/MethodHandle" ∧ q.1.cls ≠ "java/lang/invoke/VarHandle" ∧ (parseMethodDescriptor q.1.desc).map (fun d => d.parameters.length) = some (if q.2.2.2.2.1 then q.2.2.2.1 else q.2.2.2.1 - 1)) ∧ (q.1.name = "<init>" → q.2.2.1 = none)
set_option maxRecDepth 20000 in
theorem mOk_X0_init : mOkM 0 (mMt 0) := ⟨fun _ => TG_1 (i := 186) rfl rfl, fun h => absurd rfl h, TG_1 (i := 4) rfl rfl, (fun h => nomatch h), fun _ => ⟨TG_1 (i := 185) rfl rfl, fun h => absurd rfl h⟩, by decide +kernel, ⟨by decide +kernel, by decide +kernel, by decide +kernel⟩, fun _ => rfl⟩
set_option maxRecDepth 20000 in
theorem mOk_X0_search : mOkM 1 (mMt 1) := ⟨fun _ => TG_4 (i := 145) rfl rfl, fun h => absurd rfl h, TG_1 (i := 4) rfl rfl, (fun h => nomatch h), fun _ => ⟨TG_4 (i := 143) rfl rfl, fun _ => TG_4 (i := 144) rfl rfl⟩, by decide +kernel, ⟨by decide +kernel, by decide +kernel, by decide +kernel⟩, fun h => absurd h (by decide)⟩
set_option maxRecDepth 20000 in
theorem mOk_X0_explore : mOkM 2 (mMt 2) := ⟨fun _ => TG_4 (i := 152) rfl rfl, fun h => absurd rfl h, TG_1 (i := 4) rfl rfl, (fun h => nomatch h), fun _ => ⟨TG_4 (i := 151) rfl rfl, fun _ => TG_s (List.mem_of_getElem? (i := 24) rfl) rfl⟩, by decide +kernel, ⟨by decide +kernel, by decide +kernel, by decide +kernel⟩, fun h => absurd h (by decide)⟩
set_option maxRecDepth 20000 in
theorem mOk_X1_init : mOkM 3 (mMt 3) := ⟨fun _ => TG_2 (i := 71) rfl rfl, fun h => absurd rfl h, TG_1 (i := 10) rfl rfl, (fun h => nomatch h), fun _ => ⟨TG_2 (i := 70) rfl rfl, fun h => absurd rfl h⟩, by decide +kernel, ⟨by decide +kernel, by decide +kernel, by decide +kernel⟩, fun _ => rfl⟩
set_option maxRecDepth 20000 in
theorem mOk_X1_assign : mOkM 4 (mMt 4) := ⟨fun _ => TG_5 (i := 134) rfl rfl, fun h => absurd rfl h, TG_1 (i := 10) rfl rfl, (fun h => nomatch h), fun _ => ⟨TG_5 (i := 132) rfl rfl, fun _ => TG_5 (i := 133) rfl rfl⟩, by decide +kernel, ⟨by decide +kernel, by decide +kernel, by decide +kernel⟩, fun h => absurd h (by decide)⟩
set_option maxRecDepth 20000 in
theorem mOk_X1_fillable : mOkM 5 (mMt 5) := ⟨fun _ => TG_5 (i := 138) rfl rfl, fun h => absurd rfl h, TG_1 (i := 10) rfl rfl, (fun h => nomatch h), fun _ => ⟨TG_5 (i := 137) rfl rfl, fun _ => TG_s (List.mem_of_getElem? (i := 31) rfl) rfl⟩, by decide +kernel, ⟨by decide +kernel, by decide +kernel, by decide +kernel⟩, fun h => absurd h (by decide)⟩
set_option maxRecDepth 20000 in
theorem mOk_X1_explore : mOkM 6 (mMt 6) := ⟨fun _ => TG_5 (i := 142) rfl rfl, fun h => absurd rfl h, TG_1 (i := 10) rfl rfl, (fun h => nomatch h), fun _ => ⟨TG_5 (i := 141) rfl rfl, fun _ => TG_s (List.mem_of_getElem? (i := 32) rfl) rfl⟩, by decide +kernel, ⟨by decide +kernel, by decide +kernel, by decide +kernel⟩, fun h => absurd h (by decide)⟩
set_option maxRecDepth 20000 in
theorem mOk_X2_init : mOkM 7 (mMt 7) := ⟨fun _ => TG_2 (i := 0) rfl rfl, fun h => absurd rfl h, TG_1 (i := 6) rfl rfl, (fun h => nomatch h), fun _ => ⟨TG_1 (i := 239) rfl rfl, fun h => absurd rfl h⟩, by decide +kernel, ⟨by decide +kernel, by decide +kernel, by decide +kernel⟩, fun _ => rfl⟩
set_option maxRecDepth 20000 in
theorem mOk_X2_wrongHours : mOkM 8 (mMt 8) := ⟨fun _ => TG_3 (i := 121) rfl rfl, fun h => absurd rfl h, TG_1 (i := 6) rfl rfl, (fun h => nomatch h), fun _ => ⟨TG_3 (i := 119) rfl rfl, fun _ => TG_3 (i := 120) rfl rfl⟩, by decide +kernel, ⟨by decide +kernel, by decide +kernel, by decide +kernel⟩, fun h => absurd h (by decide)⟩
set_option maxRecDepth 20000 in
theorem mOk_X2_markStep : mOkM 9 (mMt 9) := ⟨fun _ => TG_3 (i := 126) rfl rfl, fun h => absurd rfl h, TG_1 (i := 6) rfl rfl, (fun h => nomatch h), fun _ => ⟨TG_3 (i := 125) rfl rfl, fun _ => TG_s (List.mem_of_getElem? (i := 14) rfl) rfl⟩, by decide +kernel, ⟨by decide +kernel, by decide +kernel, by decide +kernel⟩, fun h => absurd h (by decide)⟩
set_option maxRecDepth 20000 in
theorem mOk_X3_init : mOkM 10 (mMt 10) := ⟨fun _ => TG_2 (i := 22) rfl rfl, fun h => absurd rfl h, TG_1 (i := 8) rfl rfl, (fun h => nomatch h), fun _ => ⟨TG_2 (i := 21) rfl rfl, fun h => absurd rfl h⟩, by decide +kernel, ⟨by decide +kernel, by decide +kernel, by decide +kernel⟩, fun _ => rfl⟩
set_option maxRecDepth 20000 in
theorem mOk_X3_clear : mOkM 11 (mMt 11) := ⟨fun _ => TG_3 (i := 31) rfl rfl, fun h => absurd rfl h, TG_1 (i := 8) rfl rfl, (fun h => nomatch h), fun _ => ⟨TG_3 (i := 29) rfl rfl, fun _ => TG_3 (i := 30) rfl rfl⟩, by decide +kernel, ⟨by decide +kernel, by decide +kernel, by decide +kernel⟩, fun h => absurd h (by decide)⟩
set_option maxRecDepth 20000 in
theorem mOk_X3_insert : mOkM 12 (mMt 12) := ⟨fun _ => TG_3 (i := 36) rfl rfl, fun h => absurd rfl h, TG_1 (i := 8) rfl rfl, (fun h => nomatch h), fun _ => ⟨TG_3 (i := 34) rfl rfl, fun _ => TG_3 (i := 35) rfl rfl⟩, by decide +kernel, ⟨by decide +kernel, by decide +kernel, by decide +kernel⟩, fun h => absurd h (by decide)⟩
set_option maxRecDepth 20000 in
theorem mOk_X4_init : mOkM 13 (mMt 13) := ⟨fun _ => TG_2 (i := 92) rfl rfl, fun h => absurd rfl h, TG_1 (i := 11) rfl rfl, (fun h => nomatch h), fun _ => ⟨TG_2 (i := 91) rfl rfl, fun h => absurd rfl h⟩, by decide +kernel, ⟨by decide +kernel, by decide +kernel, by decide +kernel⟩, fun _ => rfl⟩
set_option maxRecDepth 20000 in
theorem mOk_X4_hourOf : mOkM 14 (mMt 14) := ⟨fun _ => TG_5 (i := 162) rfl rfl, fun h => absurd rfl h, TG_1 (i := 11) rfl rfl, (fun h => nomatch h), fun _ => ⟨TG_5 (i := 160) rfl rfl, fun _ => TG_5 (i := 161) rfl rfl⟩, by decide +kernel, ⟨by decide +kernel, by decide +kernel, by decide +kernel⟩, fun h => absurd h (by decide)⟩
set_option maxRecDepth 20000 in
theorem mOk_X4_spread : mOkM 15 (mMt 15) := ⟨fun _ => TG_5 (i := 168) rfl rfl, fun h => absurd rfl h, TG_1 (i := 11) rfl rfl, (fun h => nomatch h), fun _ => ⟨TG_5 (i := 167) rfl rfl, fun _ => TG_s (List.mem_of_getElem? (i := 33) rfl) rfl⟩, by decide +kernel, ⟨by decide +kernel, by decide +kernel, by decide +kernel⟩, fun h => absurd h (by decide)⟩
set_option maxRecDepth 20000 in
theorem mOk_X5_init : mOkM 16 (mMt 16) := ⟨fun _ => TG_2 (i := 16) rfl rfl, fun h => absurd rfl h, TG_1 (i := 7) rfl rfl, (fun h => nomatch h), fun _ => ⟨TG_2 (i := 15) rfl rfl, fun h => absurd rfl h⟩, by decide +kernel, ⟨by decide +kernel, by decide +kernel, by decide +kernel⟩, fun _ => rfl⟩
set_option maxRecDepth 20000 in
theorem mOk_X5_sortByLength : mOkM 17 (mMt 17) := ⟨fun _ => TG_3 (i := 27) rfl rfl, fun h => absurd rfl h, TG_1 (i := 7) rfl rfl, (fun h => nomatch h), fun _ => ⟨TG_3 (i := 26) rfl rfl, fun _ => TG_s (List.mem_of_getElem? (i := 6) rfl) rfl⟩, by decide +kernel, ⟨by decide +kernel, by decide +kernel, by decide +kernel⟩, fun h => absurd h (by decide)⟩
set_option maxRecDepth 20000 in
theorem mOk_X5_sortByDue : mOkM 18 (mMt 18) := ⟨fun _ => TG_3 (i := 48) rfl rfl, fun h => absurd rfl h, TG_1 (i := 7) rfl rfl, (fun h => nomatch h), fun _ => ⟨TG_3 (i := 47) rfl rfl, fun _ => TG_s (List.mem_of_getElem? (i := 7) rfl) rfl⟩, by decide +kernel, ⟨by decide +kernel, by decide +kernel, by decide +kernel⟩, fun h => absurd h (by decide)⟩
set_option maxRecDepth 20000 in
theorem mOk_X5_sumOfEnds : mOkM 19 (mMt 19) := ⟨fun _ => TG_3 (i := 23) rfl rfl, fun h => absurd rfl h, TG_1 (i := 7) rfl rfl, (fun h => nomatch h), fun _ => ⟨TG_3 (i := 21) rfl rfl, fun _ => TG_3 (i := 22) rfl rfl⟩, by decide +kernel, ⟨by decide +kernel, by decide +kernel, by decide +kernel⟩, fun h => absurd h (by decide)⟩
set_option maxRecDepth 20000 in
theorem mOk_X5_greatestLateness : mOkM 20 (mMt 20) := ⟨fun _ => TG_3 (i := 44) rfl rfl, fun h => absurd rfl h, TG_1 (i := 7) rfl rfl, (fun h => nomatch h), fun _ => ⟨TG_3 (i := 42) rfl rfl, fun _ => TG_3 (i := 43) rfl rfl⟩, by decide +kernel, ⟨by decide +kernel, by decide +kernel, by decide +kernel⟩, fun h => absurd h (by decide)⟩
set_option maxRecDepth 20000 in
theorem mOk_X5_droppedJobs : mOkM 21 (mMt 21) := ⟨fun _ => TG_3 (i := 57) rfl rfl, fun h => absurd rfl h, TG_1 (i := 7) rfl rfl, (fun h => nomatch h), fun _ => ⟨TG_3 (i := 55) rfl rfl, fun _ => TG_3 (i := 56) rfl rfl⟩, by decide +kernel, ⟨by decide +kernel, by decide +kernel, by decide +kernel⟩, fun h => absurd h (by decide)⟩
set_option maxRecDepth 20000 in
theorem mOk_X5_longestOf : mOkM 22 (mMt 22) := ⟨fun _ => TG_3 (i := 61) rfl rfl, fun h => absurd rfl h, TG_1 (i := 7) rfl rfl, (fun h => nomatch h), fun _ => ⟨TG_3 (i := 60) rfl rfl, fun _ => TG_s (List.mem_of_getElem? (i := 8) rfl) rfl⟩, by decide +kernel, ⟨by decide +kernel, by decide +kernel, by decide +kernel⟩, fun h => absurd h (by decide)⟩
set_option maxRecDepth 20000 in
theorem mOk_X5_hoursOfStep : mOkM 23 (mMt 23) := ⟨fun _ => TG_3 (i := 83) rfl rfl, fun h => absurd rfl h, TG_1 (i := 7) rfl rfl, (fun h => nomatch h), fun _ => ⟨TG_3 (i := 82) rfl rfl, fun _ => TG_s (List.mem_of_getElem? (i := 10) rfl) rfl⟩, by decide +kernel, ⟨by decide +kernel, by decide +kernel, by decide +kernel⟩, fun h => absurd h (by decide)⟩
set_option maxRecDepth 20000 in
theorem mOk_X5_sortForTwo : mOkM 24 (mMt 24) := ⟨fun _ => TG_3 (i := 79) rfl rfl, fun h => absurd rfl h, TG_1 (i := 7) rfl rfl, (fun h => nomatch h), fun _ => ⟨TG_3 (i := 78) rfl rfl, fun _ => TG_s (List.mem_of_getElem? (i := 9) rfl) rfl⟩, by decide +kernel, ⟨by decide +kernel, by decide +kernel, by decide +kernel⟩, fun h => absurd h (by decide)⟩
set_option maxRecDepth 20000 in
theorem mOk_X5_endOnTwo : mOkM 25 (mMt 25) := ⟨fun _ => TG_3 (i := 75) rfl rfl, fun h => absurd rfl h, TG_1 (i := 7) rfl rfl, (fun h => nomatch h), fun _ => ⟨TG_3 (i := 73) rfl rfl, fun _ => TG_3 (i := 74) rfl rfl⟩, by decide +kernel, ⟨by decide +kernel, by decide +kernel, by decide +kernel⟩, fun h => absurd h (by decide)⟩
set_option maxRecDepth 20000 in
theorem mOk_X5_jobOnTwo : mOkM 26 (mMt 26) := ⟨fun _ => TG_5 (i := 116) rfl rfl, fun h => absurd rfl h, TG_1 (i := 7) rfl rfl, (fun h => nomatch h), fun _ => ⟨TG_5 (i := 114) rfl rfl, fun _ => TG_5 (i := 115) rfl rfl⟩, by decide +kernel, ⟨by decide +kernel, by decide +kernel, by decide +kernel⟩, fun h => absurd h (by decide)⟩
set_option maxRecDepth 20000 in
theorem mOk_X6_init : mOkM 27 (mMt 27) := ⟨fun _ => TG_2 (i := 47) rfl rfl, fun h => absurd rfl h, TG_1 (i := 9) rfl rfl, (fun h => nomatch h), fun _ => ⟨TG_2 (i := 46) rfl rfl, fun h => absurd rfl h⟩, by decide +kernel, ⟨by decide +kernel, by decide +kernel, by decide +kernel⟩, fun _ => rfl⟩
set_option maxRecDepth 20000 in
theorem mOk_X6_search : mOkM 28 (mMt 28) := ⟨fun _ => TG_3 (i := 91) rfl rfl, fun h => absurd rfl h, TG_1 (i := 9) rfl rfl, (fun h => nomatch h), fun _ => ⟨TG_3 (i := 89) rfl rfl, fun _ => TG_3 (i := 90) rfl rfl⟩, by decide +kernel, ⟨by decide +kernel, by decide +kernel, by decide +kernel⟩, fun h => absurd h (by decide)⟩
set_option maxRecDepth 20000 in
theorem mOk_X6_explore : mOkM 29 (mMt 29) := ⟨fun _ => TG_3 (i := 95) rfl rfl, fun h => absurd rfl h, TG_1 (i := 9) rfl rfl, (fun h => nomatch h), fun _ => ⟨TG_3 (i := 94) rfl rfl, fun _ => TG_s (List.mem_of_getElem? (i := 11) rfl) rfl⟩, by decide +kernel, ⟨by decide +kernel, by decide +kernel, by decide +kernel⟩, fun h => absurd h (by decide)⟩
set_option maxRecDepth 20000 in
theorem mOk_X6_hoursBehind : mOkM 30 (mMt 30) := ⟨fun _ => TG_3 (i := 100) rfl rfl, fun h => absurd rfl h, TG_1 (i := 9) rfl rfl, (fun h => nomatch h), fun _ => ⟨TG_3 (i := 99) rfl rfl, fun _ => TG_s (List.mem_of_getElem? (i := 12) rfl) rfl⟩, by decide +kernel, ⟨by decide +kernel, by decide +kernel, by decide +kernel⟩, fun h => absurd h (by decide)⟩
set_option maxRecDepth 20000 in
theorem mOk_X7_init : mOkM 31 (mMt 31) := ⟨fun _ => TG_1 (i := 35) rfl rfl, fun h => absurd rfl h, TG_1 (i := 2) rfl rfl, (fun h => nomatch h), fun _ => ⟨TG_1 (i := 34) rfl rfl, fun h => absurd rfl h⟩, by decide +kernel, ⟨by decide +kernel, by decide +kernel, by decide +kernel⟩, fun _ => rfl⟩
set_option maxRecDepth 20000 in
theorem mOk_X7_copyFrom : mOkM 32 (mMt 32) := ⟨fun _ => TG_2 (i := 163) rfl rfl, fun h => absurd rfl h, TG_1 (i := 2) rfl rfl, (fun h => nomatch h), fun _ => ⟨TG_2 (i := 161) rfl rfl, fun _ => TG_2 (i := 162) rfl rfl⟩, by decide +kernel, ⟨by decide +kernel, by decide +kernel, by decide +kernel⟩, fun h => absurd h (by decide)⟩
set_option maxRecDepth 20000 in
theorem mOk_X7_copy : mOkM 33 (mMt 33) := ⟨fun _ => TG_2 (i := 166) rfl rfl, fun h => absurd rfl h, TG_1 (i := 2) rfl rfl, fun _ => TG_2 (i := 165) rfl rfl, (fun h => nomatch h), by decide +kernel, ⟨by decide +kernel, by decide +kernel, by decide +kernel⟩, fun h => absurd h (by decide)⟩
set_option maxRecDepth 20000 in
theorem mOk_X7_takeRow : mOkM 34 (mMt 34) := ⟨fun _ => TG_4 (i := 114) rfl rfl, fun h => absurd rfl h, TG_1 (i := 2) rfl rfl, (fun h => nomatch h), fun _ => ⟨TG_4 (i := 112) rfl rfl, fun _ => TG_4 (i := 113) rfl rfl⟩, by decide +kernel, ⟨by decide +kernel, by decide +kernel, by decide +kernel⟩, fun h => absurd h (by decide)⟩
set_option maxRecDepth 20000 in
theorem mOk_X7_newJob : mOkM 35 (mMt 35) := ⟨fun _ => TG_2 (i := 105) rfl rfl, fun h => absurd rfl h, TG_1 (i := 2) rfl rfl, (fun h => nomatch h), fun _ => ⟨TG_2 (i := 103) rfl rfl, fun _ => TG_2 (i := 104) rfl rfl⟩, by decide +kernel, ⟨by decide +kernel, by decide +kernel, by decide +kernel⟩, fun h => absurd h (by decide)⟩
set_option maxRecDepth 20000 in
theorem mOk_X7_newStep : mOkM 36 (mMt 36) := ⟨fun _ => TG_2 (i := 109) rfl rfl, fun h => absurd rfl h, TG_1 (i := 2) rfl rfl, (fun h => nomatch h), fun _ => ⟨TG_2 (i := 107) rfl rfl, fun _ => TG_2 (i := 108) rfl rfl⟩, by decide +kernel, ⟨by decide +kernel, by decide +kernel, by decide +kernel⟩, fun h => absurd h (by decide)⟩
set_option maxRecDepth 20000 in
theorem mOk_X7_newClosure : mOkM 37 (mMt 37) := ⟨fun _ => TG_4 (i := 18) rfl rfl, fun h => absurd rfl h, TG_1 (i := 2) rfl rfl, (fun h => nomatch h), fun _ => ⟨TG_4 (i := 16) rfl rfl, fun _ => TG_4 (i := 17) rfl rfl⟩, by decide +kernel, ⟨by decide +kernel, by decide +kernel, by decide +kernel⟩, fun h => absurd h (by decide)⟩
set_option maxRecDepth 20000 in
theorem mOk_X7_canBeHalved : mOkM 38 (mMt 38) := ⟨fun _ => TG_4 (i := 76) rfl rfl, fun h => absurd rfl h, TG_1 (i := 2) rfl rfl, (fun h => nomatch h), fun _ => ⟨TG_4 (i := 74) rfl rfl, fun _ => TG_4 (i := 75) rfl rfl⟩, by decide +kernel, ⟨by decide +kernel, by decide +kernel, by decide +kernel⟩, fun h => absurd h (by decide)⟩
set_option maxRecDepth 20000 in
theorem mOk_X7_halve : mOkM 39 (mMt 39) := ⟨fun _ => TG_4 (i := 81) rfl rfl, fun h => absurd rfl h, TG_1 (i := 2) rfl rfl, (fun h => nomatch h), fun _ => ⟨TG_4 (i := 79) rfl rfl, fun _ => TG_4 (i := 80) rfl rfl⟩, by decide +kernel, ⟨by decide +kernel, by decide +kernel, by decide +kernel⟩, fun h => absurd h (by decide)⟩
set_option maxRecDepth 20000 in
theorem mOk_X7_stepTotal : mOkM 40 (mMt 40) := ⟨fun _ => TG_2 (i := 191) rfl rfl, fun h => absurd rfl h, TG_1 (i := 2) rfl rfl, (fun h => nomatch h), fun _ => ⟨TG_2 (i := 189) rfl rfl, fun _ => TG_2 (i := 190) rfl rfl⟩, by decide +kernel, ⟨by decide +kernel, by decide +kernel, by decide +kernel⟩, fun h => absurd h (by decide)⟩
set_option maxRecDepth 20000 in
theorem mOk_X7_hoursFrom : mOkM 41 (mMt 41) := ⟨fun _ => TG_3 (i := 10) rfl rfl, fun h => absurd rfl h, TG_1 (i := 2) rfl rfl, (fun h => nomatch h), fun _ => ⟨TG_3 (i := 8) rfl rfl, fun _ => TG_3 (i := 9) rfl rfl⟩, by decide +kernel, ⟨by decide +kernel, by decide +kernel, by decide +kernel⟩, fun h => absurd h (by decide)⟩
set_option maxRecDepth 20000 in
theorem mOk_X7_hoursOn : mOkM 42 (mMt 42) := ⟨fun _ => TG_3 (i := 15) rfl rfl, fun h => absurd rfl h, TG_1 (i := 2) rfl rfl, (fun h => nomatch h), fun _ => ⟨TG_3 (i := 13) rfl rfl, fun _ => TG_3 (i := 14) rfl rfl⟩, by decide +kernel, ⟨by decide +kernel, by decide +kernel, by decide +kernel⟩, fun h => absurd h (by decide)⟩
set_option maxRecDepth 20000 in
theorem mOk_X7_leastHours : mOkM 43 (mMt 43) := ⟨fun _ => TG_3 (i := 6) rfl rfl, fun h => absurd rfl h, TG_1 (i := 2) rfl rfl, (fun h => nomatch h), fun _ => ⟨TG_3 (i := 4) rfl rfl, fun _ => TG_3 (i := 5) rfl rfl⟩, by decide +kernel, ⟨by decide +kernel, by decide +kernel, by decide +kernel⟩, fun h => absurd h (by decide)⟩
set_option maxRecDepth 20000 in
theorem mOk_X7_isClosedIn : mOkM 44 (mMt 44) := ⟨fun _ => TG_3 (i := 133) rfl rfl, fun h => absurd rfl h, TG_1 (i := 2) rfl rfl, (fun h => nomatch h), fun _ => ⟨TG_3 (i := 131) rfl rfl, fun _ => TG_3 (i := 132) rfl rfl⟩, by decide +kernel, ⟨by decide +kernel, by decide +kernel, by decide +kernel⟩, fun h => absurd h (by decide)⟩
set_option maxRecDepth 20000 in
theorem mOk_X7_firstOpen : mOkM 45 (mMt 45) := ⟨fun _ => TG_2 (i := 234) rfl rfl, fun h => absurd rfl h, TG_1 (i := 2) rfl rfl, (fun h => nomatch h), fun _ => ⟨TG_2 (i := 232) rfl rfl, fun _ => TG_2 (i := 233) rfl rfl⟩, by decide +kernel, ⟨by decide +kernel, by decide +kernel, by decide +kernel⟩, fun h => absurd h (by decide)⟩
set_option maxRecDepth 20000 in
theorem mOk_X8_init : mOkM 46 (mMt 46) := ⟨fun _ => TG_1 (i := 138) rfl rfl, fun h => absurd rfl h, TG_1 (i := 3) rfl rfl, (fun h => nomatch h), fun _ => ⟨TG_1 (i := 137) rfl rfl, fun h => absurd rfl h⟩, by decide +kernel, ⟨by decide +kernel, by decide +kernel, by decide +kernel⟩, fun _ => rfl⟩
set_option maxRecDepth 20000 in
theorem mOk_X8_clear : mOkM 47 (mMt 47) := ⟨fun _ => TG_2 (i := 180) rfl rfl, fun h => absurd rfl h, TG_1 (i := 3) rfl rfl, (fun h => nomatch h), fun _ => ⟨TG_2 (i := 178) rfl rfl, fun _ => TG_2 (i := 179) rfl rfl⟩, by decide +kernel, ⟨by decide +kernel, by decide +kernel, by decide +kernel⟩, fun h => absurd h (by decide)⟩
set_option maxRecDepth 20000 in
theorem mOk_X8_hasLeft : mOkM 48 (mMt 48) := ⟨fun _ => TG_2 (i := 203) rfl rfl, fun h => absurd rfl h, TG_1 (i := 3) rfl rfl, (fun h => nomatch h), fun _ => ⟨TG_2 (i := 201) rfl rfl, fun _ => TG_2 (i := 202) rfl rfl⟩, by decide +kernel, ⟨by decide +kernel, by decide +kernel, by decide +kernel⟩, fun h => absurd h (by decide)⟩
set_option maxRecDepth 20000 in
theorem mOk_X8_endOfStep : mOkM 49 (mMt 49) := ⟨fun _ => TG_2 (i := 219) rfl rfl, fun h => absurd rfl h, TG_1 (i := 3) rfl rfl, (fun h => nomatch h), fun _ => ⟨TG_2 (i := 217) rfl rfl, fun _ => TG_2 (i := 218) rfl rfl⟩, by decide +kernel, ⟨by decide +kernel, by decide +kernel, by decide +kernel⟩, fun h => absurd h (by decide)⟩
set_option maxRecDepth 20000 in
theorem mOk_X8_nextStep : mOkM 50 (mMt 50) := ⟨fun _ => TG_2 (i := 195) rfl rfl, fun h => absurd rfl h, TG_1 (i := 3) rfl rfl, (fun h => nomatch h), fun _ => ⟨TG_2 (i := 194) rfl rfl, fun _ => TG_s (List.mem_of_getElem? (i := 0) rfl) rfl⟩, by decide +kernel, ⟨by decide +kernel, by decide +kernel, by decide +kernel⟩, fun h => absurd h (by decide)⟩
set_option maxRecDepth 20000 in
theorem mOk_X8_readyHour : mOkM 51 (mMt 51) := ⟨fun _ => TG_2 (i := 215) rfl rfl, fun h => absurd rfl h, TG_1 (i := 3) rfl rfl, (fun h => nomatch h), fun _ => ⟨TG_2 (i := 214) rfl rfl, fun _ => TG_s (List.mem_of_getElem? (i := 3) rfl) rfl⟩, by decide +kernel, ⟨by decide +kernel, by decide +kernel, by decide +kernel⟩, fun h => absurd h (by decide)⟩
set_option maxRecDepth 20000 in
theorem mOk_X8_lastOn : mOkM 52 (mMt 52) := ⟨fun _ => TG_2 (i := 207) rfl rfl, fun h => absurd rfl h, TG_1 (i := 3) rfl rfl, (fun h => nomatch h), fun _ => ⟨TG_2 (i := 206) rfl rfl, fun _ => TG_s (List.mem_of_getElem? (i := 1) rfl) rfl⟩, by decide +kernel, ⟨by decide +kernel, by decide +kernel, by decide +kernel⟩, fun h => absurd h (by decide)⟩
set_option maxRecDepth 20000 in
theorem mOk_X8_needsTool : mOkM 53 (mMt 53) := ⟨fun _ => TG_2 (i := 230) rfl rfl, fun h => absurd rfl h, TG_1 (i := 3) rfl rfl, (fun h => nomatch h), fun _ => ⟨TG_2 (i := 229) rfl rfl, fun _ => TG_s (List.mem_of_getElem? (i := 5) rfl) rfl⟩, by decide +kernel, ⟨by decide +kernel, by decide +kernel, by decide +kernel⟩, fun h => absurd h (by decide)⟩
set_option maxRecDepth 20000 in
theorem mOk_X8_hoursBetween : mOkM 54 (mMt 54) := ⟨fun _ => TG_2 (i := 226) rfl rfl, fun h => absurd rfl h, TG_1 (i := 3) rfl rfl, (fun h => nomatch h), fun _ => ⟨TG_2 (i := 225) rfl rfl, fun _ => TG_s (List.mem_of_getElem? (i := 4) rfl) rfl⟩, by decide +kernel, ⟨by decide +kernel, by decide +kernel, by decide +kernel⟩, fun h => absurd h (by decide)⟩
set_option maxRecDepth 20000 in
theorem mOk_X8_firstHour : mOkM 55 (mMt 55) := ⟨fun _ => TG_2 (i := 211) rfl rfl, fun h => absurd rfl h, TG_1 (i := 3) rfl rfl, (fun h => nomatch h), fun _ => ⟨TG_2 (i := 210) rfl rfl, fun _ => TG_s (List.mem_of_getElem? (i := 2) rfl) rfl⟩, by decide +kernel, ⟨by decide +kernel, by decide +kernel, by decide +kernel⟩, fun h => absurd h (by decide)⟩
set_option maxRecDepth 20000 in
theorem mOk_X8_put : mOkM 56 (mMt 56) := ⟨fun _ => TG_2 (i := 199) rfl rfl, fun h => absurd rfl h, TG_1 (i := 3) rfl rfl, (fun h => nomatch h), fun _ => ⟨TG_2 (i := 197) rfl rfl, fun _ => TG_2 (i := 198) rfl rfl⟩, by decide +kernel, ⟨by decide +kernel, by decide +kernel, by decide +kernel⟩, fun h => absurd h (by decide)⟩
set_option maxRecDepth 20000 in
theorem mOk_X8_takeBack : mOkM 57 (mMt 57) := ⟨fun _ => TG_4 (i := 160) rfl rfl, fun h => absurd rfl h, TG_1 (i := 3) rfl rfl, (fun h => nomatch h), fun _ => ⟨TG_4 (i := 158) rfl rfl, fun _ => TG_4 (i := 159) rfl rfl⟩, by decide +kernel, ⟨by decide +kernel, by decide +kernel, by decide +kernel⟩, fun h => absurd h (by decide)⟩
set_option maxRecDepth 20000 in
theorem mOk_X8_replay : mOkM 58 (mMt 58) := ⟨fun _ => TG_2 (i := 176) rfl rfl, fun h => absurd rfl h, TG_1 (i := 3) rfl rfl, (fun h => nomatch h), fun _ => ⟨TG_2 (i := 174) rfl rfl, fun _ => TG_2 (i := 175) rfl rfl⟩, by decide +kernel, ⟨by decide +kernel, by decide +kernel, by decide +kernel⟩, fun h => absurd h (by decide)⟩
set_option maxRecDepth 20000 in
theorem mOk_X8_putDelayed : mOkM 59 (mMt 59) := ⟨fun _ => TG_2 (i := 187) rfl rfl, fun h => absurd rfl h, TG_1 (i := 3) rfl rfl, (fun h => nomatch h), fun _ => ⟨TG_2 (i := 185) rfl rfl, fun _ => TG_2 (i := 186) rfl rfl⟩, by decide +kernel, ⟨by decide +kernel, by decide +kernel, by decide +kernel⟩, fun h => absurd h (by decide)⟩
set_option maxRecDepth 20000 in
theorem mOk_X8_putRushed : mOkM 60 (mMt 60) := ⟨fun _ => TG_4 (i := 205) rfl rfl, fun h => absurd rfl h, TG_1 (i := 3) rfl rfl, (fun h => nomatch h), fun _ => ⟨TG_4 (i := 203) rfl rfl, fun _ => TG_4 (i := 204) rfl rfl⟩, by decide +kernel, ⟨by decide +kernel, by decide +kernel, by decide +kernel⟩, fun h => absurd h (by decide)⟩
set_option maxRecDepth 20000 in
theorem mOk_X8_putBegunIn : mOkM 61 (mMt 61) := ⟨fun _ => TG_4 (i := 194) rfl rfl, fun h => absurd rfl h, TG_1 (i := 3) rfl rfl, (fun h => nomatch h), fun _ => ⟨TG_4 (i := 192) rfl rfl, fun _ => TG_4 (i := 193) rfl rfl⟩, by decide +kernel, ⟨by decide +kernel, by decide +kernel, by decide +kernel⟩, fun h => absurd h (by decide)⟩
set_option maxRecDepth 20000 in
theorem mOk_X8_putRestByRule : mOkM 62 (mMt 62) := ⟨fun _ => TG_4 (i := 98) rfl rfl, fun h => absurd rfl h, TG_1 (i := 3) rfl rfl, (fun h => nomatch h), fun _ => ⟨TG_4 (i := 96) rfl rfl, fun _ => TG_4 (i := 97) rfl rfl⟩, by decide +kernel, ⟨by decide +kernel, by decide +kernel, by decide +kernel⟩, fun h => absurd h (by decide)⟩
set_option maxRecDepth 20000 in
theorem mOk_X8_firstByRule : mOkM 63 (mMt 63) := ⟨fun _ => TG_4 (i := 102) rfl rfl, fun h => absurd rfl h, TG_1 (i := 3) rfl rfl, (fun h => nomatch h), fun _ => ⟨TG_4 (i := 101) rfl rfl, fun _ => TG_s (List.mem_of_getElem? (i := 20) rfl) rfl⟩, by decide +kernel, ⟨by decide +kernel, by decide +kernel, by decide +kernel⟩, fun h => absurd h (by decide)⟩
set_option maxRecDepth 20000 in
theorem mOk_X8_goesAhead : mOkM 64 (mMt 64) := ⟨fun _ => TG_4 (i := 106) rfl rfl, fun h => absurd rfl h, TG_1 (i := 3) rfl rfl, (fun h => nomatch h), fun _ => ⟨TG_4 (i := 105) rfl rfl, fun _ => TG_s (List.mem_of_getElem? (i := 21) rfl) rfl⟩, by decide +kernel, ⟨by decide +kernel, by decide +kernel, by decide +kernel⟩, fun h => absurd h (by decide)⟩
set_option maxRecDepth 20000 in
theorem mOk_X8_nextOf : mOkM 65 (mMt 65) := ⟨fun _ => TG_4 (i := 177) rfl rfl, fun h => absurd rfl h, TG_1 (i := 3) rfl rfl, (fun h => nomatch h), fun _ => ⟨TG_4 (i := 175) rfl rfl, fun _ => TG_4 (i := 176) rfl rfl⟩, by decide +kernel, ⟨by decide +kernel, by decide +kernel, by decide +kernel⟩, fun h => absurd h (by decide)⟩
set_option maxRecDepth 20000 in
theorem mOk_X8_hoursLeft : mOkM 66 (mMt 66) := ⟨fun _ => TG_3 (i := 116) rfl rfl, fun h => absurd rfl h, TG_1 (i := 3) rfl rfl, (fun h => nomatch h), fun _ => ⟨TG_3 (i := 115) rfl rfl, fun _ => TG_s (List.mem_of_getElem? (i := 13) rfl) rfl⟩, by decide +kernel, ⟨by decide +kernel, by decide +kernel, by decide +kernel⟩, fun h => absurd h (by decide)⟩
set_option maxRecDepth 20000 in
theorem mOk_X8_leastEndOf : mOkM 67 (mMt 67) := ⟨fun _ => TG_3 (i := 112) rfl rfl, fun h => absurd rfl h, TG_1 (i := 3) rfl rfl, (fun h => nomatch h), fun _ => ⟨TG_3 (i := 110) rfl rfl, fun _ => TG_3 (i := 111) rfl rfl⟩, by decide +kernel, ⟨by decide +kernel, by decide +kernel, by decide +kernel⟩, fun h => absurd h (by decide)⟩
set_option maxRecDepth 20000 in
theorem mOk_X8_aimed : mOkM 68 (mMt 68) := ⟨fun _ => TG_3 (i := 108) rfl rfl, fun h => absurd rfl h, TG_1 (i := 3) rfl rfl, (fun h => nomatch h), fun _ => ⟨TG_3 (i := 106) rfl rfl, fun _ => TG_3 (i := 107) rfl rfl⟩, by decide +kernel, ⟨by decide +kernel, by decide +kernel, by decide +kernel⟩, fun h => absurd h (by decide)⟩
set_option maxRecDepth 20000 in
theorem mOk_X8_hoursDone : mOkM 69 (mMt 69) := ⟨fun _ => TG_5 (i := 184) rfl rfl, fun h => absurd rfl h, TG_1 (i := 3) rfl rfl, (fun h => nomatch h), fun _ => ⟨TG_5 (i := 182) rfl rfl, fun _ => TG_5 (i := 183) rfl rfl⟩, by decide +kernel, ⟨by decide +kernel, by decide +kernel, by decide +kernel⟩, fun h => absurd h (by decide)⟩
set_option maxRecDepth 20000 in
theorem mOk_X9_init : mOkM 70 (mMt 70) := ⟨fun _ => TG_1 (i := 211) rfl rfl, fun h => absurd rfl h, TG_1 (i := 5) rfl rfl, (fun h => nomatch h), fun _ => ⟨TG_1 (i := 210) rfl rfl, fun h => absurd rfl h⟩, by decide +kernel, ⟨by decide +kernel, by decide +kernel, by decide +kernel⟩, fun _ => rfl⟩
set_option maxRecDepth 20000 in
theorem mOk_X9_trace : mOkM 71 (mMt 71) := ⟨fun _ => TG_5 (i := 48) rfl rfl, fun h => absurd rfl h, TG_1 (i := 5) rfl rfl, (fun h => nomatch h), fun _ => ⟨TG_5 (i := 46) rfl rfl, fun _ => TG_5 (i := 47) rfl rfl⟩, by decide +kernel, ⟨by decide +kernel, by decide +kernel, by decide +kernel⟩, fun h => absurd h (by decide)⟩
set_option maxRecDepth 20000 in
theorem mOk_X9_latestStep : mOkM 72 (mMt 72) := ⟨fun _ => TG_5 (i := 52) rfl rfl, fun h => absurd rfl h, TG_1 (i := 5) rfl rfl, (fun h => nomatch h), fun _ => ⟨TG_5 (i := 51) rfl rfl, fun _ => TG_s (List.mem_of_getElem? (i := 28) rfl) rfl⟩, by decide +kernel, ⟨by decide +kernel, by decide +kernel, by decide +kernel⟩, fun h => absurd h (by decide)⟩
set_option maxRecDepth 20000 in
theorem mOk_X9_stepAheadOf : mOkM 73 (mMt 73) := ⟨fun _ => TG_5 (i := 58) rfl rfl, fun h => absurd rfl h, TG_1 (i := 5) rfl rfl, (fun h => nomatch h), fun _ => ⟨TG_5 (i := 57) rfl rfl, fun _ => TG_s (List.mem_of_getElem? (i := 29) rfl) rfl⟩, by decide +kernel, ⟨by decide +kernel, by decide +kernel, by decide +kernel⟩, fun h => absurd h (by decide)⟩
set_option maxRecDepth 20000 in
theorem mOk_X10_init : mOkM 74 (mMt 74) := ⟨fun _ => TG_1 (i := 27) rfl rfl, fun h => absurd rfl h, TG_1 (i := 1) rfl rfl, (fun h => nomatch h), fun _ => ⟨TG_1 (i := 26) rfl rfl, fun h => absurd rfl h⟩, by decide +kernel, ⟨by decide +kernel, by decide +kernel, by decide +kernel⟩, fun _ => rfl⟩
set_option maxRecDepth 20000 in
theorem mOk_X10_close : mOkM 75 (mMt 75) := ⟨fun _ => TG_3 (i := 143) rfl rfl, fun h => absurd rfl h, TG_1 (i := 1) rfl rfl, (fun h => nomatch h), fun _ => ⟨TG_3 (i := 141) rfl rfl, fun _ => TG_3 (i := 142) rfl rfl⟩, by decide +kernel, ⟨by decide +kernel, by decide +kernel, by decide +kernel⟩, fun h => absurd h (by decide)⟩
set_option maxRecDepth 20000 in
theorem mOk_X10_setTool : mOkM 76 (mMt 76) := ⟨fun _ => TG_4 (i := 25) rfl rfl, fun h => absurd rfl h, TG_1 (i := 1) rfl rfl, (fun h => nomatch h), fun _ => ⟨TG_4 (i := 23) rfl rfl, fun _ => TG_4 (i := 24) rfl rfl⟩, by decide +kernel, ⟨by decide +kernel, by decide +kernel, by decide +kernel⟩, fun h => absurd h (by decide)⟩
set_option maxRecDepth 20000 in
theorem mOk_X10_setSetup : mOkM 77 (mMt 77) := ⟨fun _ => TG_4 (i := 32) rfl rfl, fun h => absurd rfl h, TG_1 (i := 1) rfl rfl, (fun h => nomatch h), fun _ => ⟨TG_4 (i := 30) rfl rfl, fun _ => TG_4 (i := 31) rfl rfl⟩, by decide +kernel, ⟨by decide +kernel, by decide +kernel, by decide +kernel⟩, fun h => absurd h (by decide)⟩
set_option maxRecDepth 20000 in
theorem mOk_X10_addJob : mOkM 78 (mMt 78) := ⟨fun _ => TG_4 (i := 47) rfl rfl, fun h => absurd rfl h, TG_1 (i := 1) rfl rfl, (fun h => nomatch h), fun _ => ⟨TG_4 (i := 45) rfl rfl, fun _ => TG_4 (i := 46) rfl rfl⟩, by decide +kernel, ⟨by decide +kernel, by decide +kernel, by decide +kernel⟩, fun h => absurd h (by decide)⟩
set_option maxRecDepth 20000 in
theorem mOk_X10_addStep : mOkM 79 (mMt 79) := ⟨fun _ => TG_4 (i := 59) rfl rfl, fun h => absurd rfl h, TG_1 (i := 1) rfl rfl, (fun h => nomatch h), fun _ => ⟨TG_4 (i := 57) rfl rfl, fun _ => TG_4 (i := 58) rfl rfl⟩, by decide +kernel, ⟨by decide +kernel, by decide +kernel, by decide +kernel⟩, fun h => absurd h (by decide)⟩
set_option maxRecDepth 20000 in
theorem mOk_X10_cut : mOkM 80 (mMt 80) := ⟨fun _ => TG_4 (i := 72) rfl rfl, fun h => absurd rfl h, TG_1 (i := 1) rfl rfl, (fun h => nomatch h), fun _ => ⟨TG_4 (i := 70) rfl rfl, fun _ => TG_4 (i := 71) rfl rfl⟩, by decide +kernel, ⟨by decide +kernel, by decide +kernel, by decide +kernel⟩, fun h => absurd h (by decide)⟩
set_option maxRecDepth 20000 in
theorem mOk_X10_plan : mOkM 81 (mMt 81) := ⟨fun _ => TG_4 (i := 90) rfl rfl, fun h => absurd rfl h, TG_1 (i := 1) rfl rfl, (fun h => nomatch h), fun _ => ⟨TG_4 (i := 88) rfl rfl, fun _ => TG_4 (i := 89) rfl rfl⟩, by decide +kernel, ⟨by decide +kernel, by decide +kernel, by decide +kernel⟩, fun h => absurd h (by decide)⟩
set_option maxRecDepth 20000 in
theorem mOk_X10_tell : mOkM 82 (mMt 82) := ⟨fun _ => TG_4 (i := 121) rfl rfl, fun h => absurd rfl h, TG_1 (i := 1) rfl rfl, (fun h => nomatch h), fun _ => ⟨TG_4 (i := 119) rfl rfl, fun _ => TG_4 (i := 120) rfl rfl⟩, by decide +kernel, ⟨by decide +kernel, by decide +kernel, by decide +kernel⟩, fun h => absurd h (by decide)⟩
set_option maxRecDepth 20000 in
theorem mOk_X10_best : mOkM 83 (mMt 83) := ⟨fun _ => TG_4 (i := 137) rfl rfl, fun h => absurd rfl h, TG_1 (i := 1) rfl rfl, (fun h => nomatch h), fun _ => ⟨TG_4 (i := 135) rfl rfl, fun _ => TG_4 (i := 136) rfl rfl⟩, by decide +kernel, ⟨by decide +kernel, by decide +kernel, by decide +kernel⟩, fun h => absurd h (by decide)⟩
set_option maxRecDepth 20000 in
theorem mOk_X10_swap : mOkM 84 (mMt 84) := ⟨fun _ => TG_4 (i := 167) rfl rfl, fun h => absurd rfl h, TG_1 (i := 1) rfl rfl, (fun h => nomatch h), fun _ => ⟨TG_4 (i := 165) rfl rfl, fun _ => TG_4 (i := 166) rfl rfl⟩, by decide +kernel, ⟨by decide +kernel, by decide +kernel, by decide +kernel⟩, fun h => absurd h (by decide)⟩
set_option maxRecDepth 20000 in
theorem mOk_X10_replan : mOkM 85 (mMt 85) := ⟨fun _ => TG_4 (i := 185) rfl rfl, fun h => absurd rfl h, TG_1 (i := 1) rfl rfl, (fun h => nomatch h), fun _ => ⟨TG_4 (i := 183) rfl rfl, fun _ => TG_4 (i := 184) rfl rfl⟩, by decide +kernel, ⟨by decide +kernel, by decide +kernel, by decide +kernel⟩, fun h => absurd h (by decide)⟩
set_option maxRecDepth 20000 in
theorem mOk_X10_rush : mOkM 86 (mMt 86) := ⟨fun _ => TG_4 (i := 201) rfl rfl, fun h => absurd rfl h, TG_1 (i := 1) rfl rfl, (fun h => nomatch h), fun _ => ⟨TG_4 (i := 199) rfl rfl, fun _ => TG_4 (i := 200) rfl rfl⟩, by decide +kernel, ⟨by decide +kernel, by decide +kernel, by decide +kernel⟩, fun h => absurd h (by decide)⟩
set_option maxRecDepth 20000 in
theorem mOk_X10_setWorker : mOkM 87 (mMt 87) := ⟨fun _ => TG_4 (i := 212) rfl rfl, fun h => absurd rfl h, TG_1 (i := 1) rfl rfl, (fun h => nomatch h), fun _ => ⟨TG_4 (i := 210) rfl rfl, fun _ => TG_4 (i := 211) rfl rfl⟩, by decide +kernel, ⟨by decide +kernel, by decide +kernel, by decide +kernel⟩, fun h => absurd h (by decide)⟩
set_option maxRecDepth 20000 in
theorem mOk_X10_undo : mOkM 88 (mMt 88) := ⟨fun _ => TG_2 (i := 159) rfl rfl, fun h => absurd rfl h, TG_1 (i := 1) rfl rfl, (fun h => nomatch h), fun _ => ⟨TG_2 (i := 157) rfl rfl, fun _ => TG_2 (i := 158) rfl rfl⟩, by decide +kernel, ⟨by decide +kernel, by decide +kernel, by decide +kernel⟩, fun h => absurd h (by decide)⟩
set_option maxRecDepth 20000 in
theorem mOk_X10_jobs : mOkM 89 (mMt 89) := ⟨fun _ => TG_2 (i := 238) rfl rfl, fun h => absurd rfl h, TG_1 (i := 1) rfl rfl, (fun h => nomatch h), fun _ => ⟨TG_2 (i := 236) rfl rfl, fun _ => TG_2 (i := 237) rfl rfl⟩, by decide +kernel, ⟨by decide +kernel, by decide +kernel, by decide +kernel⟩, fun h => absurd h (by decide)⟩
set_option maxRecDepth 20000 in
theorem mOk_X10_jobAt : mOkM 90 (mMt 90) := ⟨fun _ => TG_4 (i := 223) rfl rfl, fun h => absurd rfl h, TG_1 (i := 1) rfl rfl, (fun h => nomatch h), fun _ => ⟨TG_4 (i := 221) rfl rfl, fun _ => TG_4 (i := 222) rfl rfl⟩, by decide +kernel, ⟨by decide +kernel, by decide +kernel, by decide +kernel⟩, fun h => absurd h (by decide)⟩
set_option maxRecDepth 20000 in
theorem mOk_X10_stepAt : mOkM 91 (mMt 91) := ⟨fun _ => TG_4 (i := 231) rfl rfl, fun h => absurd rfl h, TG_1 (i := 1) rfl rfl, (fun h => nomatch h), fun _ => ⟨TG_4 (i := 229) rfl rfl, fun _ => TG_4 (i := 230) rfl rfl⟩, by decide +kernel, ⟨by decide +kernel, by decide +kernel, by decide +kernel⟩, fun h => absurd h (by decide)⟩
set_option maxRecDepth 20000 in
theorem mOk_X10_begin : mOkM 92 (mMt 92) := ⟨fun _ => TG_5 (i := 3) rfl rfl, fun h => absurd rfl h, TG_1 (i := 1) rfl rfl, (fun h => nomatch h), fun _ => ⟨TG_5 (i := 1) rfl rfl, fun _ => TG_5 (i := 2) rfl rfl⟩, by decide +kernel, ⟨by decide +kernel, by decide +kernel, by decide +kernel⟩, fun h => absurd h (by decide)⟩
set_option maxRecDepth 20000 in
theorem mOk_X10_endOf : mOkM 93 (mMt 93) := ⟨fun _ => TG_5 (i := 10) rfl rfl, fun h => absurd rfl h, TG_1 (i := 1) rfl rfl, (fun h => nomatch h), fun _ => ⟨TG_5 (i := 8) rfl rfl, fun _ => TG_5 (i := 9) rfl rfl⟩, by decide +kernel, ⟨by decide +kernel, by decide +kernel, by decide +kernel⟩, fun h => absurd h (by decide)⟩
set_option maxRecDepth 20000 in
theorem mOk_X10_value : mOkM 94 (mMt 94) := ⟨fun _ => TG_5 (i := 18) rfl rfl, fun h => absurd rfl h, TG_1 (i := 1) rfl rfl, (fun h => nomatch h), fun _ => ⟨TG_5 (i := 16) rfl rfl, fun _ => TG_5 (i := 17) rfl rfl⟩, by decide +kernel, ⟨by decide +kernel, by decide +kernel, by decide +kernel⟩, fun h => absurd h (by decide)⟩
set_option maxRecDepth 20000 in
theorem mOk_X10_bound : mOkM 95 (mMt 95) := ⟨fun _ => TG_3 (i := 2) rfl rfl, fun h => absurd rfl h, TG_1 (i := 1) rfl rfl, (fun h => nomatch h), fun _ => ⟨TG_3 (i := 0) rfl rfl, fun _ => TG_3 (i := 1) rfl rfl⟩, by decide +kernel, ⟨by decide +kernel, by decide +kernel, by decide +kernel⟩, fun h => absurd h (by decide)⟩
set_option maxRecDepth 20000 in
theorem mOk_X10_orderAt : mOkM 96 (mMt 96) := ⟨fun _ => TG_5 (i := 25) rfl rfl, fun h => absurd rfl h, TG_1 (i := 1) rfl rfl, (fun h => nomatch h), fun _ => ⟨TG_5 (i := 23) rfl rfl, fun _ => TG_5 (i := 24) rfl rfl⟩, by decide +kernel, ⟨by decide +kernel, by decide +kernel, by decide +kernel⟩, fun h => absurd h (by decide)⟩
set_option maxRecDepth 20000 in
theorem mOk_X10_doneIn : mOkM 97 (mMt 97) := ⟨fun _ => TG_5 (i := 36) rfl rfl, fun h => absurd rfl h, TG_1 (i := 1) rfl rfl, (fun h => nomatch h), fun _ => ⟨TG_5 (i := 34) rfl rfl, fun _ => TG_5 (i := 35) rfl rfl⟩, by decide +kernel, ⟨by decide +kernel, by decide +kernel, by decide +kernel⟩, fun h => absurd h (by decide)⟩
set_option maxRecDepth 20000 in
theorem mOk_X10_wayLength : mOkM 98 (mMt 98) := ⟨fun _ => TG_5 (i := 44) rfl rfl, fun h => absurd rfl h, TG_1 (i := 1) rfl rfl, (fun h => nomatch h), fun _ => ⟨TG_5 (i := 42) rfl rfl, fun _ => TG_5 (i := 43) rfl rfl⟩, by decide +kernel, ⟨by decide +kernel, by decide +kernel, by decide +kernel⟩, fun h => absurd h (by decide)⟩
set_option maxRecDepth 20000 in
theorem mOk_X10_wayAt : mOkM 99 (mMt 99) := ⟨fun _ => TG_5 (i := 65) rfl rfl, fun h => absurd rfl h, TG_1 (i := 1) rfl rfl, (fun h => nomatch h), fun _ => ⟨TG_5 (i := 63) rfl rfl, fun _ => TG_5 (i := 64) rfl rfl⟩, by decide +kernel, ⟨by decide +kernel, by decide +kernel, by decide +kernel⟩, fun h => absurd h (by decide)⟩
set_option maxRecDepth 20000 in
theorem mOk_X10_blocks : mOkM 100 (mMt 100) := ⟨fun _ => TG_5 (i := 72) rfl rfl, fun h => absurd rfl h, TG_1 (i := 1) rfl rfl, (fun h => nomatch h), fun _ => ⟨TG_5 (i := 70) rfl rfl, fun _ => TG_5 (i := 71) rfl rfl⟩, by decide +kernel, ⟨by decide +kernel, by decide +kernel, by decide +kernel⟩, fun h => absurd h (by decide)⟩
set_option maxRecDepth 20000 in
theorem mOk_X10_longestBlock : mOkM 101 (mMt 101) := ⟨fun _ => TG_5 (i := 79) rfl rfl, fun h => absurd rfl h, TG_1 (i := 1) rfl rfl, (fun h => nomatch h), fun _ => ⟨TG_5 (i := 77) rfl rfl, fun _ => TG_5 (i := 78) rfl rfl⟩, by decide +kernel, ⟨by decide +kernel, by decide +kernel, by decide +kernel⟩, fun h => absurd h (by decide)⟩
set_option maxRecDepth 20000 in
theorem mOk_X10_slack : mOkM 102 (mMt 102) := ⟨fun _ => TG_5 (i := 86) rfl rfl, fun h => absurd rfl h, TG_1 (i := 1) rfl rfl, (fun h => nomatch h), fun _ => ⟨TG_5 (i := 84) rfl rfl, fun _ => TG_5 (i := 85) rfl rfl⟩, by decide +kernel, ⟨by decide +kernel, by decide +kernel, by decide +kernel⟩, fun h => absurd h (by decide)⟩
set_option maxRecDepth 20000 in
theorem mOk_X10_delay : mOkM 103 (mMt 103) := ⟨fun _ => TG_5 (i := 94) rfl rfl, fun h => absurd rfl h, TG_1 (i := 1) rfl rfl, (fun h => nomatch h), fun _ => ⟨TG_5 (i := 92) rfl rfl, fun _ => TG_5 (i := 93) rfl rfl⟩, by decide +kernel, ⟨by decide +kernel, by decide +kernel, by decide +kernel⟩, fun h => absurd h (by decide)⟩
set_option maxRecDepth 20000 in
theorem mOk_X10_leastSum : mOkM 104 (mMt 104) := ⟨fun _ => TG_3 (i := 19) rfl rfl, fun h => absurd rfl h, TG_1 (i := 1) rfl rfl, (fun h => nomatch h), fun _ => ⟨TG_3 (i := 17) rfl rfl, fun _ => TG_3 (i := 18) rfl rfl⟩, by decide +kernel, ⟨by decide +kernel, by decide +kernel, by decide +kernel⟩, fun h => absurd h (by decide)⟩
set_option maxRecDepth 20000 in
theorem mOk_X10_leastLateness : mOkM 105 (mMt 105) := ⟨fun _ => TG_3 (i := 40) rfl rfl, fun h => absurd rfl h, TG_1 (i := 1) rfl rfl, (fun h => nomatch h), fun _ => ⟨TG_3 (i := 38) rfl rfl, fun _ => TG_3 (i := 39) rfl rfl⟩, by decide +kernel, ⟨by decide +kernel, by decide +kernel, by decide +kernel⟩, fun h => absurd h (by decide)⟩
set_option maxRecDepth 20000 in
theorem mOk_X10_fewestLate : mOkM 106 (mMt 106) := ⟨fun _ => TG_3 (i := 53) rfl rfl, fun h => absurd rfl h, TG_1 (i := 1) rfl rfl, (fun h => nomatch h), fun _ => ⟨TG_3 (i := 51) rfl rfl, fun _ => TG_3 (i := 52) rfl rfl⟩, by decide +kernel, ⟨by decide +kernel, by decide +kernel, by decide +kernel⟩, fun h => absurd h (by decide)⟩
set_option maxRecDepth 20000 in
theorem mOk_X10_isDropped : mOkM 107 (mMt 107) := ⟨fun _ => TG_5 (i := 101) rfl rfl, fun h => absurd rfl h, TG_1 (i := 1) rfl rfl, (fun h => nomatch h), fun _ => ⟨TG_5 (i := 99) rfl rfl, fun _ => TG_5 (i := 100) rfl rfl⟩, by decide +kernel, ⟨by decide +kernel, by decide +kernel, by decide +kernel⟩, fun h => absurd h (by decide)⟩
set_option maxRecDepth 20000 in
theorem mOk_X10_leastEnd : mOkM 108 (mMt 108) := ⟨fun _ => TG_3 (i := 71) rfl rfl, fun h => absurd rfl h, TG_1 (i := 1) rfl rfl, (fun h => nomatch h), fun _ => ⟨TG_3 (i := 69) rfl rfl, fun _ => TG_3 (i := 70) rfl rfl⟩, by decide +kernel, ⟨by decide +kernel, by decide +kernel, by decide +kernel⟩, fun h => absurd h (by decide)⟩
set_option maxRecDepth 20000 in
theorem mOk_X10_twoAt : mOkM 109 (mMt 109) := ⟨fun _ => TG_5 (i := 108) rfl rfl, fun h => absurd rfl h, TG_1 (i := 1) rfl rfl, (fun h => nomatch h), fun _ => ⟨TG_5 (i := 106) rfl rfl, fun _ => TG_5 (i := 107) rfl rfl⟩, by decide +kernel, ⟨by decide +kernel, by decide +kernel, by decide +kernel⟩, fun h => absurd h (by decide)⟩
set_option maxRecDepth 20000 in
theorem mOk_X10_leastSetup : mOkM 110 (mMt 110) := ⟨fun _ => TG_3 (i := 87) rfl rfl, fun h => absurd rfl h, TG_1 (i := 1) rfl rfl, (fun h => nomatch h), fun _ => ⟨TG_3 (i := 85) rfl rfl, fun _ => TG_3 (i := 86) rfl rfl⟩, by decide +kernel, ⟨by decide +kernel, by decide +kernel, by decide +kernel⟩, fun h => absurd h (by decide)⟩
set_option maxRecDepth 20000 in
theorem mOk_X10_setupAt : mOkM 111 (mMt 111) := ⟨fun _ => TG_5 (i := 123) rfl rfl, fun h => absurd rfl h, TG_1 (i := 1) rfl rfl, (fun h => nomatch h), fun _ => ⟨TG_5 (i := 121) rfl rfl, fun _ => TG_5 (i := 122) rfl rfl⟩, by decide +kernel, ⟨by decide +kernel, by decide +kernel, by decide +kernel⟩, fun h => absurd h (by decide)⟩
set_option maxRecDepth 20000 in
theorem mOk_X10_match : mOkM 112 (mMt 112) := ⟨fun _ => TG_5 (i := 130) rfl rfl, fun h => absurd rfl h, TG_1 (i := 1) rfl rfl, (fun h => nomatch h), fun _ => ⟨TG_5 (i := 128) rfl rfl, fun _ => TG_5 (i := 129) rfl rfl⟩, by decide +kernel, ⟨by decide +kernel, by decide +kernel, by decide +kernel⟩, fun h => absurd h (by decide)⟩
set_option maxRecDepth 20000 in
theorem mOk_X10_workerOf : mOkM 113 (mMt 113) := ⟨fun _ => TG_5 (i := 151) rfl rfl, fun h => absurd rfl h, TG_1 (i := 1) rfl rfl, (fun h => nomatch h), fun _ => ⟨TG_5 (i := 149) rfl rfl, fun _ => TG_5 (i := 150) rfl rfl⟩, by decide +kernel, ⟨by decide +kernel, by decide +kernel, by decide +kernel⟩, fun h => absurd h (by decide)⟩
set_option maxRecDepth 20000 in
theorem mOk_X10_promise : mOkM 114 (mMt 114) := ⟨fun _ => TG_5 (i := 158) rfl rfl, fun h => absurd rfl h, TG_1 (i := 1) rfl rfl, (fun h => nomatch h), fun _ => ⟨TG_5 (i := 156) rfl rfl, fun _ => TG_5 (i := 157) rfl rfl⟩, by decide +kernel, ⟨by decide +kernel, by decide +kernel, by decide +kernel⟩, fun h => absurd h (by decide)⟩
set_option maxRecDepth 20000 in
theorem mOk_X10_worked : mOkM 115 (mMt 115) := ⟨fun _ => TG_5 (i := 180) rfl rfl, fun h => absurd rfl h, TG_1 (i := 1) rfl rfl, (fun h => nomatch h), fun _ => ⟨TG_5 (i := 178) rfl rfl, fun _ => TG_5 (i := 179) rfl rfl⟩, by decide +kernel, ⟨by decide +kernel, by decide +kernel, by decide +kernel⟩, fun h => absurd h (by decide)⟩
set_option maxRecDepth 20000 in
theorem mOk_X10_meanEnd : mOkM 116 (mMt 116) := ⟨fun _ => TG_5 (i := 192) rfl rfl, fun h => absurd rfl h, TG_1 (i := 1) rfl rfl, (fun h => nomatch h), fun _ => ⟨TG_5 (i := 190) rfl rfl, fun _ => TG_5 (i := 191) rfl rfl⟩, by decide +kernel, ⟨by decide +kernel, by decide +kernel, by decide +kernel⟩, fun h => absurd h (by decide)⟩
set_option maxRecDepth 20000 in
theorem mOk_X10_use : mOkM 117 (mMt 117) := ⟨fun _ => TG_5 (i := 199) rfl rfl, fun h => absurd rfl h, TG_1 (i := 1) rfl rfl, (fun h => nomatch h), fun _ => ⟨TG_5 (i := 197) rfl rfl, fun _ => TG_5 (i := 198) rfl rfl⟩, by decide +kernel, ⟨by decide +kernel, by decide +kernel, by decide +kernel⟩, fun h => absurd h (by decide)⟩
set_option maxRecDepth 20000 in
theorem mOk_X10_errors : mOkM 118 (mMt 118) := ⟨fun _ => TG_3 (i := 104) rfl rfl, fun h => absurd rfl h, TG_1 (i := 1) rfl rfl, (fun h => nomatch h), fun _ => ⟨TG_3 (i := 102) rfl rfl, fun _ => TG_3 (i := 103) rfl rfl⟩, by decide +kernel, ⟨by decide +kernel, by decide +kernel, by decide +kernel⟩, fun h => absurd h (by decide)⟩
set_option maxRecDepth 20000 in
theorem mOk_X10_needMachine : mOkM 119 (mMt 119) := ⟨fun _ => TG_3 (i := 146) rfl rfl, fun h => absurd rfl h, TG_1 (i := 1) rfl rfl, fun _ => TG_3 (i := 145) rfl rfl, (fun h => nomatch h), by decide +kernel, ⟨by decide +kernel, by decide +kernel, by decide +kernel⟩, fun h => absurd h (by decide)⟩
set_option maxRecDepth 20000 in
theorem mOk_X10_needKind : mOkM 120 (mMt 120) := ⟨fun _ => TG_4 (i := 35) rfl rfl, fun h => absurd rfl h, TG_1 (i := 1) rfl rfl, fun _ => TG_4 (i := 34) rfl rfl, (fun h => nomatch h), by decide +kernel, ⟨by decide +kernel, by decide +kernel, by decide +kernel⟩, fun h => absurd h (by decide)⟩
set_option maxRecDepth 20000 in
theorem mOk_X10_needJob : mOkM 121 (mMt 121) := ⟨fun _ => TG_4 (i := 63) rfl rfl, fun h => absurd rfl h, TG_1 (i := 1) rfl rfl, (fun h => nomatch h), fun _ => ⟨TG_4 (i := 62) rfl rfl, fun _ => TG_s (List.mem_of_getElem? (i := 19) rfl) rfl⟩, by decide +kernel, ⟨by decide +kernel, by decide +kernel, by decide +kernel⟩, fun h => absurd h (by decide)⟩
set_option maxRecDepth 20000 in
theorem mOk_X10_needStep : mOkM 122 (mMt 122) := ⟨fun _ => TG_4 (i := 235) rfl rfl, fun h => absurd rfl h, TG_1 (i := 1) rfl rfl, (fun h => nomatch h), fun _ => ⟨TG_4 (i := 234) rfl rfl, fun _ => TG_s (List.mem_of_getElem? (i := 27) rfl) rfl⟩, by decide +kernel, ⟨by decide +kernel, by decide +kernel, by decide +kernel⟩, fun h => absurd h (by decide)⟩
set_option maxRecDepth 20000 in
theorem mOk_X10_needPlaceOfJob : mOkM 123 (mMt 123) := ⟨fun _ => TG_5 (i := 112) rfl rfl, fun h => absurd rfl h, TG_1 (i := 1) rfl rfl, (fun h => nomatch h), fun _ => ⟨TG_5 (i := 111) rfl rfl, fun _ => TG_s (List.mem_of_getElem? (i := 30) rfl) rfl⟩, by decide +kernel, ⟨by decide +kernel, by decide +kernel, by decide +kernel⟩, fun h => absurd h (by decide)⟩
set_option maxRecDepth 20000 in
theorem mOk_X10_needRange : mOkM 124 (mMt 124) := ⟨fun _ => TG_3 (i := 217) rfl rfl, fun h => absurd rfl h, TG_1 (i := 1) rfl rfl, fun _ => TG_3 (i := 216) rfl rfl, (fun h => nomatch h), by decide +kernel, ⟨by decide +kernel, by decide +kernel, by decide +kernel⟩, fun h => absurd h (by decide)⟩
set_option maxRecDepth 20000 in
theorem mOk_X10_needRule : mOkM 125 (mMt 125) := ⟨fun _ => TG_4 (i := 93) rfl rfl, fun h => absurd rfl h, TG_1 (i := 1) rfl rfl, fun _ => TG_4 (i := 92) rfl rfl, (fun h => nomatch h), by decide +kernel, ⟨by decide +kernel, by decide +kernel, by decide +kernel⟩, fun h => absurd h (by decide)⟩
set_option maxRecDepth 20000 in
theorem mOk_X10_needAim : mOkM 126 (mMt 126) := ⟨fun _ => TG_4 (i := 140) rfl rfl, fun h => absurd rfl h, TG_1 (i := 1) rfl rfl, fun _ => TG_4 (i := 139) rfl rfl, (fun h => nomatch h), by decide +kernel, ⟨by decide +kernel, by decide +kernel, by decide +kernel⟩, fun h => absurd h (by decide)⟩
set_option maxRecDepth 20000 in
theorem mOk_X10_needMachines : mOkM 127 (mMt 127) := ⟨fun _ => TG_4 (i := 216) rfl rfl, fun h => absurd rfl h, TG_1 (i := 1) rfl rfl, fun _ => TG_4 (i := 215) rfl rfl, (fun h => nomatch h), by decide +kernel, ⟨by decide +kernel, by decide +kernel, by decide +kernel⟩, fun h => absurd h (by decide)⟩
set_option maxRecDepth 20000 in
theorem mOk_X10_needRoomForJob : mOkM 128 (mMt 128) := ⟨fun _ => TG_4 (i := 51) rfl rfl, fun h => absurd rfl h, TG_1 (i := 1) rfl rfl, (fun h => nomatch h), fun _ => ⟨TG_4 (i := 50) rfl rfl, fun _ => TG_s (List.mem_of_getElem? (i := 18) rfl) rfl⟩, by decide +kernel, ⟨by decide +kernel, by decide +kernel, by decide +kernel⟩, fun h => absurd h (by decide)⟩
set_option maxRecDepth 20000 in
theorem mOk_X10_needPlan : mOkM 129 (mMt 129) := ⟨fun _ => TG_4 (i := 189) rfl rfl, fun h => absurd rfl h, TG_1 (i := 1) rfl rfl, (fun h => nomatch h), fun _ => ⟨TG_4 (i := 188) rfl rfl, fun _ => TG_s (List.mem_of_getElem? (i := 26) rfl) rfl⟩, by decide +kernel, ⟨by decide +kernel, by decide +kernel, by decide +kernel⟩, fun h => absurd h (by decide)⟩
set_option maxRecDepth 20000 in
theorem mOk_X10_told : mOkM 130 (mMt 130) := ⟨fun _ => TG_5 (i := 29) rfl rfl, fun h => absurd rfl h, TG_1 (i := 1) rfl rfl, fun _ => TG_5 (i := 28) rfl rfl, (fun h => nomatch h), by decide +kernel, ⟨by decide +kernel, by decide +kernel, by decide +kernel⟩, fun h => absurd h (by decide)⟩
set_option maxRecDepth 20000 in
theorem mOk_X10_remember : mOkM 131 (mMt 131) := ⟨fun _ => TG_4 (i := 13) rfl rfl, fun h => absurd rfl h, TG_1 (i := 1) rfl rfl, (fun h => nomatch h), fun _ => ⟨TG_4 (i := 12) rfl rfl, fun _ => TG_s (List.mem_of_getElem? (i := 16) rfl) rfl⟩, by decide +kernel, ⟨by decide +kernel, by decide +kernel, by decide +kernel⟩, fun h => absurd h (by decide)⟩
set_option maxRecDepth 20000 in
theorem mOk_X10_dropPlan : mOkM 132 (mMt 132) := ⟨fun _ => TG_4 (i := 40) rfl rfl, fun h => absurd rfl h, TG_1 (i := 1) rfl rfl, (fun h => nomatch h), fun _ => ⟨TG_4 (i := 39) rfl rfl, fun _ => TG_s (List.mem_of_getElem? (i := 17) rfl) rfl⟩, by decide +kernel, ⟨by decide +kernel, by decide +kernel, by decide +kernel⟩, fun h => absurd h (by decide)⟩
set_option maxRecDepth 20000 in
theorem mOk_X10_adoptTrial : mOkM 133 (mMt 133) := ⟨fun _ => TG_4 (i := 110) rfl rfl, fun h => absurd rfl h, TG_1 (i := 1) rfl rfl, (fun h => nomatch h), fun _ => ⟨TG_4 (i := 109) rfl rfl, fun _ => TG_s (List.mem_of_getElem? (i := 22) rfl) rfl⟩, by decide +kernel, ⟨by decide +kernel, by decide +kernel, by decide +kernel⟩, fun h => absurd h (by decide)⟩
set_option maxRecDepth 20000 in
theorem mOk_X10_putDigits : mOkM 134 (mMt 134) := ⟨fun _ => TG_4 (i := 125) rfl rfl, fun h => absurd rfl h, TG_1 (i := 1) rfl rfl, (fun h => nomatch h), fun _ => ⟨TG_4 (i := 124) rfl rfl, fun _ => TG_s (List.mem_of_getElem? (i := 23) rfl) rfl⟩, by decide +kernel, ⟨by decide +kernel, by decide +kernel, by decide +kernel⟩, fun h => absurd h (by decide)⟩
set_option maxRecDepth 20000 in
theorem mOk_X10_putSwapped : mOkM 135 (mMt 135) := ⟨fun _ => TG_4 (i := 172) rfl rfl, fun h => absurd rfl h, TG_1 (i := 1) rfl rfl, (fun h => nomatch h), fun _ => ⟨TG_4 (i := 171) rfl rfl, fun _ => TG_s (List.mem_of_getElem? (i := 25) rfl) rfl⟩, by decide +kernel, ⟨by decide +kernel, by decide +kernel, by decide +kernel⟩, fun h => absurd h (by decide)⟩
set_option maxRecDepth 20000 in
theorem mOk_X11_init : mOkM 136 (mMt 136) := ⟨fun _ => TG_5 (i := 205) rfl rfl, fun h => absurd rfl h, TG_1 (i := 12) rfl rfl, (fun h => nomatch h), fun _ => ⟨TG_5 (i := 204) rfl rfl, fun h => absurd rfl h⟩, by decide +kernel, ⟨by decide +kernel, by decide +kernel, by decide +kernel⟩, fun _ => rfl⟩
set_option maxRecDepth 20000 in
theorem mOk_X11_thrown : mOkM 137 (mMt 137) := ⟨fun _ => TG_6 (i := 43) rfl rfl, fun h => absurd rfl h, TG_1 (i := 12) rfl rfl, (fun h => nomatch h), fun _ => ⟨TG_6 (i := 41) rfl rfl, fun _ => TG_6 (i := 42) rfl rfl⟩, by decide +kernel, ⟨by decide +kernel, by decide +kernel, by decide +kernel⟩, fun h => absurd h (by decide)⟩
set_option maxRecDepth 20000 in
theorem mOk_X11_in : mOkM 138 (mMt 138) := ⟨fun _ => TG_6 (i := 50) rfl rfl, fun h => absurd rfl h, TG_1 (i := 12) rfl rfl, fun _ => TG_6 (i := 49) rfl rfl, (fun h => nomatch h), by decide +kernel, ⟨by decide +kernel, by decide +kernel, by decide +kernel⟩, fun h => absurd h (by decide)⟩
set_option maxRecDepth 20000 in
theorem mOk_X11_fits : mOkM 139 (mMt 139) := ⟨fun _ => TG_6 (i := 54) rfl rfl, fun h => absurd rfl h, TG_1 (i := 12) rfl rfl, (fun h => nomatch h), fun _ => ⟨TG_6 (i := 53) rfl rfl, fun _ => TG_s (List.mem_of_getElem? (i := 37) rfl) rfl⟩, by decide +kernel, ⟨by decide +kernel, by decide +kernel, by decide +kernel⟩, fun h => absurd h (by decide)⟩
set_option maxRecDepth 20000 in
theorem mOk_X11_laysJob : mOkM 140 (mMt 140) := ⟨fun _ => TG_5 (i := 210) rfl rfl, fun h => absurd rfl h, TG_1 (i := 12) rfl rfl, (fun h => nomatch h), fun _ => ⟨TG_5 (i := 209) rfl rfl, fun _ => TG_s (List.mem_of_getElem? (i := 34) rfl) rfl⟩, by decide +kernel, ⟨by decide +kernel, by decide +kernel, by decide +kernel⟩, fun h => absurd h (by decide)⟩
set_option maxRecDepth 20000 in
theorem mOk_X11_laysStep : mOkM 141 (mMt 141) := ⟨fun _ => TG_5 (i := 214) rfl rfl, fun h => absurd rfl h, TG_1 (i := 12) rfl rfl, (fun h => nomatch h), fun _ => ⟨TG_5 (i := 213) rfl rfl, fun _ => TG_s (List.mem_of_getElem? (i := 35) rfl) rfl⟩, by decide +kernel, ⟨by decide +kernel, by decide +kernel, by decide +kernel⟩, fun h => absurd h (by decide)⟩
set_option maxRecDepth 20000 in
theorem mOk_X11_of : mOkM 142 (mMt 142) := ⟨fun _ => TG_5 (i := 218) rfl rfl, fun h => absurd rfl h, TG_1 (i := 12) rfl rfl, (fun h => nomatch h), fun _ => ⟨TG_5 (i := 217) rfl rfl, fun _ => TG_s (List.mem_of_getElem? (i := 36) rfl) rfl⟩, by decide +kernel, ⟨by decide +kernel, by decide +kernel, by decide +kernel⟩, fun h => absurd h (by decide)⟩
set_option maxRecDepth 20000 in
theorem mOk_X11_machineOf : mOkM 143 (mMt 143) := ⟨fun _ => TG_6 (i := 95) rfl rfl, fun h => absurd rfl h, TG_1 (i := 12) rfl rfl, (fun h => nomatch h), fun _ => ⟨TG_6 (i := 94) rfl rfl, fun _ => TG_s (List.mem_of_getElem? (i := 42) rfl) rfl⟩, by decide +kernel, ⟨by decide +kernel, by decide +kernel, by decide +kernel⟩, fun h => absurd h (by decide)⟩
set_option maxRecDepth 20000 in
theorem mOk_X11_hoursOf : mOkM 144 (mMt 144) := ⟨fun _ => TG_6 (i := 91) rfl rfl, fun h => absurd rfl h, TG_1 (i := 12) rfl rfl, (fun h => nomatch h), fun _ => ⟨TG_6 (i := 90) rfl rfl, fun _ => TG_s (List.mem_of_getElem? (i := 41) rfl) rfl⟩, by decide +kernel, ⟨by decide +kernel, by decide +kernel, by decide +kernel⟩, fun h => absurd h (by decide)⟩
set_option maxRecDepth 20000 in
theorem mOk_X11_left : mOkM 145 (mMt 145) := ⟨fun _ => TG_6 (i := 136) rfl rfl, fun h => absurd rfl h, TG_1 (i := 12) rfl rfl, (fun h => nomatch h), fun _ => ⟨TG_6 (i := 135) rfl rfl, fun _ => TG_s (List.mem_of_getElem? (i := 51) rfl) rfl⟩, by decide +kernel, ⟨by decide +kernel, by decide +kernel, by decide +kernel⟩, fun h => absurd h (by decide)⟩
set_option maxRecDepth 20000 in
theorem mOk_X11_length : mOkM 146 (mMt 146) := ⟨fun _ => TG_6 (i := 233) rfl rfl, fun h => absurd rfl h, TG_1 (i := 12) rfl rfl, (fun h => nomatch h), fun _ => ⟨TG_6 (i := 232) rfl rfl, fun _ => TG_s (List.mem_of_getElem? (i := 66) rfl) rfl⟩, by decide +kernel, ⟨by decide +kernel, by decide +kernel, by decide +kernel⟩, fun h => absurd h (by decide)⟩
set_option maxRecDepth 20000 in
theorem mOk_X11_allSteps : mOkM 147 (mMt 147) := ⟨fun _ => TG_6 (i := 160) rfl rfl, fun h => absurd rfl h, TG_1 (i := 12) rfl rfl, (fun h => nomatch h), fun _ => ⟨TG_6 (i := 159) rfl rfl, fun _ => TG_s (List.mem_of_getElem? (i := 57) rfl) rfl⟩, by decide +kernel, ⟨by decide +kernel, by decide +kernel, by decide +kernel⟩, fun h => absurd h (by decide)⟩
set_option maxRecDepth 20000 in
theorem mOk_X11_isJob : mOkM 148 (mMt 148) := ⟨fun _ => TG_6 (i := 83) rfl rfl, fun h => absurd rfl h, TG_1 (i := 12) rfl rfl, (fun h => nomatch h), fun _ => ⟨TG_6 (i := 82) rfl rfl, fun _ => TG_s (List.mem_of_getElem? (i := 40) rfl) rfl⟩, by decide +kernel, ⟨by decide +kernel, by decide +kernel, by decide +kernel⟩, fun h => absurd h (by decide)⟩
set_option maxRecDepth 20000 in
theorem mOk_X11_isStep : mOkM 149 (mMt 149) := ⟨fun _ => TG_7 (i := 1) rfl rfl, fun h => absurd rfl h, TG_1 (i := 12) rfl rfl, (fun h => nomatch h), fun _ => ⟨TG_7 (i := 0) rfl rfl, fun _ => TG_s (List.mem_of_getElem? (i := 67) rfl) rfl⟩, by decide +kernel, ⟨by decide +kernel, by decide +kernel, by decide +kernel⟩, fun h => absurd h (by decide)⟩
set_option maxRecDepth 20000 in
theorem mOk_X11_hasPlan : mOkM 150 (mMt 150) := ⟨fun _ => TG_6 (i := 205) rfl rfl, fun h => absurd rfl h, TG_1 (i := 12) rfl rfl, (fun h => nomatch h), fun _ => ⟨TG_6 (i := 204) rfl rfl, fun _ => TG_s (List.mem_of_getElem? (i := 64) rfl) rfl⟩, by decide +kernel, ⟨by decide +kernel, by decide +kernel, by decide +kernel⟩, fun h => absurd h (by decide)⟩
set_option maxRecDepth 20000 in
theorem mOk_X11_startsPlan : mOkM 151 (mMt 151) := ⟨fun _ => TG_6 (i := 103) rfl rfl, fun h => absurd rfl h, TG_1 (i := 12) rfl rfl, (fun h => nomatch h), fun _ => ⟨TG_6 (i := 102) rfl rfl, fun _ => TG_s (List.mem_of_getElem? (i := 43) rfl) rfl⟩, by decide +kernel, ⟨by decide +kernel, by decide +kernel, by decide +kernel⟩, fun h => absurd h (by decide)⟩
set_option maxRecDepth 20000 in
theorem mOk_X11_open : mOkM 152 (mMt 152) := ⟨fun _ => TG_6 (i := 128) rfl rfl, fun h => absurd rfl h, TG_1 (i := 12) rfl rfl, (fun h => nomatch h), fun _ => ⟨TG_6 (i := 127) rfl rfl, fun _ => TG_s (List.mem_of_getElem? (i := 49) rfl) rfl⟩, by decide +kernel, ⟨by decide +kernel, by decide +kernel, by decide +kernel⟩, fun h => absurd h (by decide)⟩
set_option maxRecDepth 20000 in
theorem mOk_X11_isChanged : mOkM 153 (mMt 153) := ⟨fun _ => TG_6 (i := 123) rfl rfl, fun h => absurd rfl h, TG_1 (i := 12) rfl rfl, (fun h => nomatch h), fun _ => ⟨TG_6 (i := 122) rfl rfl, fun _ => TG_s (List.mem_of_getElem? (i := 48) rfl) rfl⟩, by decide +kernel, ⟨by decide +kernel, by decide +kernel, by decide +kernel⟩, fun h => absurd h (by decide)⟩
set_option maxRecDepth 20000 in
theorem mOk_X11_between : mOkM 154 (mMt 154) := ⟨fun _ => TG_6 (i := 119) rfl rfl, fun h => absurd rfl h, TG_1 (i := 12) rfl rfl, (fun h => nomatch h), fun _ => ⟨TG_6 (i := 118) rfl rfl, fun _ => TG_s (List.mem_of_getElem? (i := 47) rfl) rfl⟩, by decide +kernel, ⟨by decide +kernel, by decide +kernel, by decide +kernel⟩, fun h => absurd h (by decide)⟩
set_option maxRecDepth 20000 in
theorem mOk_X11_beginOf : mOkM 155 (mMt 155) := ⟨fun _ => TG_6 (i := 115) rfl rfl, fun h => absurd rfl h, TG_1 (i := 12) rfl rfl, (fun h => nomatch h), fun _ => ⟨TG_6 (i := 114) rfl rfl, fun _ => TG_s (List.mem_of_getElem? (i := 46) rfl) rfl⟩, by decide +kernel, ⟨by decide +kernel, by decide +kernel, by decide +kernel⟩, fun h => absurd h (by decide)⟩
set_option maxRecDepth 20000 in
theorem mOk_X11_does : mOkM 156 (mMt 156) := ⟨fun _ => TG_6 (i := 144) rfl rfl, fun h => absurd rfl h, TG_1 (i := 12) rfl rfl, (fun h => nomatch h), fun _ => ⟨TG_6 (i := 143) rfl rfl, fun _ => TG_s (List.mem_of_getElem? (i := 53) rfl) rfl⟩, by decide +kernel, ⟨by decide +kernel, by decide +kernel, by decide +kernel⟩, fun h => absurd h (by decide)⟩
set_option maxRecDepth 20000 in
theorem mOk_X11_worksOut : mOkM 157 (mMt 157) := ⟨fun _ => TG_6 (i := 156) rfl rfl, fun h => absurd rfl h, TG_1 (i := 12) rfl rfl, (fun h => nomatch h), fun _ => ⟨TG_6 (i := 155) rfl rfl, fun _ => TG_s (List.mem_of_getElem? (i := 56) rfl) rfl⟩, by decide +kernel, ⟨by decide +kernel, by decide +kernel, by decide +kernel⟩, fun h => absurd h (by decide)⟩
set_option maxRecDepth 20000 in
theorem mOk_X11_works : mOkM 158 (mMt 158) := ⟨fun _ => TG_6 (i := 152) rfl rfl, fun h => absurd rfl h, TG_1 (i := 12) rfl rfl, (fun h => nomatch h), fun _ => ⟨TG_6 (i := 151) rfl rfl, fun _ => TG_s (List.mem_of_getElem? (i := 55) rfl) rfl⟩, by decide +kernel, ⟨by decide +kernel, by decide +kernel, by decide +kernel⟩, fun h => absurd h (by decide)⟩
set_option maxRecDepth 20000 in
theorem mOk_X11_planEnd : mOkM 159 (mMt 159) := ⟨fun _ => TG_6 (i := 164) rfl rfl, fun h => absurd rfl h, TG_1 (i := 12) rfl rfl, (fun h => nomatch h), fun _ => ⟨TG_6 (i := 163) rfl rfl, fun _ => TG_s (List.mem_of_getElem? (i := 58) rfl) rfl⟩, by decide +kernel, ⟨by decide +kernel, by decide +kernel, by decide +kernel⟩, fun h => absurd h (by decide)⟩
set_option maxRecDepth 20000 in
theorem mOk_X11_valueOf : mOkM 160 (mMt 160) := ⟨fun _ => TG_6 (i := 177) rfl rfl, fun h => absurd rfl h, TG_1 (i := 12) rfl rfl, (fun h => nomatch h), fun _ => ⟨TG_6 (i := 176) rfl rfl, fun _ => TG_s (List.mem_of_getElem? (i := 59) rfl) rfl⟩, by decide +kernel, ⟨by decide +kernel, by decide +kernel, by decide +kernel⟩, fun h => absurd h (by decide)⟩
set_option maxRecDepth 20000 in
theorem mOk_X11_isAhead : mOkM 161 (mMt 161) := ⟨fun _ => TG_6 (i := 132) rfl rfl, fun h => absurd rfl h, TG_1 (i := 12) rfl rfl, (fun h => nomatch h), fun _ => ⟨TG_6 (i := 131) rfl rfl, fun _ => TG_s (List.mem_of_getElem? (i := 50) rfl) rfl⟩, by decide +kernel, ⟨by decide +kernel, by decide +kernel, by decide +kernel⟩, fun h => absurd h (by decide)⟩
set_option maxRecDepth 20000 in
theorem mOk_X11_goesByRule : mOkM 162 (mMt 162) := ⟨fun _ => TG_6 (i := 111) rfl rfl, fun h => absurd rfl h, TG_1 (i := 12) rfl rfl, (fun h => nomatch h), fun _ => ⟨TG_6 (i := 110) rfl rfl, fun _ => TG_s (List.mem_of_getElem? (i := 45) rfl) rfl⟩, by decide +kernel, ⟨by decide +kernel, by decide +kernel, by decide +kernel⟩, fun h => absurd h (by decide)⟩
set_option maxRecDepth 20000 in
theorem mOk_X11_puts : mOkM 163 (mMt 163) := ⟨fun _ => TG_6 (i := 140) rfl rfl, fun h => absurd rfl h, TG_1 (i := 12) rfl rfl, (fun h => nomatch h), fun _ => ⟨TG_6 (i := 139) rfl rfl, fun _ => TG_s (List.mem_of_getElem? (i := 52) rfl) rfl⟩, by decide +kernel, ⟨by decide +kernel, by decide +kernel, by decide +kernel⟩, fun h => absurd h (by decide)⟩
set_option maxRecDepth 20000 in
theorem mOk_X11_clearsOrder : mOkM 164 (mMt 164) := ⟨fun _ => TG_6 (i := 107) rfl rfl, fun h => absurd rfl h, TG_1 (i := 12) rfl rfl, (fun h => nomatch h), fun _ => ⟨TG_6 (i := 106) rfl rfl, fun _ => TG_s (List.mem_of_getElem? (i := 44) rfl) rfl⟩, by decide +kernel, ⟨by decide +kernel, by decide +kernel, by decide +kernel⟩, fun h => absurd h (by decide)⟩
set_option maxRecDepth 20000 in
theorem mOk_X11_takesOrder : mOkM 165 (mMt 165) := ⟨fun _ => TG_6 (i := 148) rfl rfl, fun h => absurd rfl h, TG_1 (i := 12) rfl rfl, (fun h => nomatch h), fun _ => ⟨TG_6 (i := 147) rfl rfl, fun _ => TG_s (List.mem_of_getElem? (i := 54) rfl) rfl⟩, by decide +kernel, ⟨by decide +kernel, by decide +kernel, by decide +kernel⟩, fun h => absurd h (by decide)⟩
set_option maxRecDepth 20000 in
theorem mOk_X11_noPlan : mOkM 166 (mMt 166) := ⟨fun _ => TG_6 (i := 71) rfl rfl, fun h => absurd rfl h, TG_1 (i := 12) rfl rfl, (fun h => nomatch h), fun _ => ⟨TG_6 (i := 70) rfl rfl, fun _ => TG_s (List.mem_of_getElem? (i := 39) rfl) rfl⟩, by decide +kernel, ⟨by decide +kernel, by decide +kernel, by decide +kernel⟩, fun h => absurd h (by decide)⟩
set_option maxRecDepth 20000 in
theorem mOk_X11_keeps : mOkM 167 (mMt 167) := ⟨fun _ => TG_6 (i := 58) rfl rfl, fun h => absurd rfl h, TG_1 (i := 12) rfl rfl, (fun h => nomatch h), fun _ => ⟨TG_6 (i := 57) rfl rfl, fun _ => TG_s (List.mem_of_getElem? (i := 38) rfl) rfl⟩, by decide +kernel, ⟨by decide +kernel, by decide +kernel, by decide +kernel⟩, fun h => absurd h (by decide)⟩
set_option maxRecDepth 20000 in
theorem mOk_X11_close : mOkM 168 (mMt 168) := ⟨fun _ => TG_6 (i := 47) rfl rfl, fun h => absurd rfl h, TG_1 (i := 12) rfl rfl, (fun h => nomatch h), fun _ => ⟨TG_6 (i := 45) rfl rfl, fun _ => TG_6 (i := 46) rfl rfl⟩, by decide +kernel, ⟨by decide +kernel, by decide +kernel, by decide +kernel⟩, fun h => absurd h (by decide)⟩
set_option maxRecDepth 20000 in
theorem mOk_X11_setTool : mOkM 169 (mMt 169) := ⟨fun _ => TG_6 (i := 63) rfl rfl, fun h => absurd rfl h, TG_1 (i := 12) rfl rfl, (fun h => nomatch h), fun _ => ⟨TG_6 (i := 61) rfl rfl, fun _ => TG_6 (i := 62) rfl rfl⟩, by decide +kernel, ⟨by decide +kernel, by decide +kernel, by decide +kernel⟩, fun h => absurd h (by decide)⟩
set_option maxRecDepth 20000 in
theorem mOk_X11_setSetup : mOkM 170 (mMt 170) := ⟨fun _ => TG_6 (i := 67) rfl rfl, fun h => absurd rfl h, TG_1 (i := 12) rfl rfl, (fun h => nomatch h), fun _ => ⟨TG_6 (i := 65) rfl rfl, fun _ => TG_6 (i := 66) rfl rfl⟩, by decide +kernel, ⟨by decide +kernel, by decide +kernel, by decide +kernel⟩, fun h => absurd h (by decide)⟩
set_option maxRecDepth 20000 in
theorem mOk_X11_addJob : mOkM 171 (mMt 171) := ⟨fun _ => TG_6 (i := 75) rfl rfl, fun h => absurd rfl h, TG_1 (i := 12) rfl rfl, (fun h => nomatch h), fun _ => ⟨TG_6 (i := 73) rfl rfl, fun _ => TG_6 (i := 74) rfl rfl⟩, by decide +kernel, ⟨by decide +kernel, by decide +kernel, by decide +kernel⟩, fun h => absurd h (by decide)⟩
set_option maxRecDepth 20000 in
theorem mOk_X11_addStep : mOkM 172 (mMt 172) := ⟨fun _ => TG_6 (i := 79) rfl rfl, fun h => absurd rfl h, TG_1 (i := 12) rfl rfl, (fun h => nomatch h), fun _ => ⟨TG_6 (i := 77) rfl rfl, fun _ => TG_6 (i := 78) rfl rfl⟩, by decide +kernel, ⟨by decide +kernel, by decide +kernel, by decide +kernel⟩, fun h => absurd h (by decide)⟩
set_option maxRecDepth 20000 in
theorem mOk_X11_cut : mOkM 173 (mMt 173) := ⟨fun _ => TG_6 (i := 87) rfl rfl, fun h => absurd rfl h, TG_1 (i := 12) rfl rfl, (fun h => nomatch h), fun _ => ⟨TG_6 (i := 85) rfl rfl, fun _ => TG_6 (i := 86) rfl rfl⟩, by decide +kernel, ⟨by decide +kernel, by decide +kernel, by decide +kernel⟩, fun h => absurd h (by decide)⟩
set_option maxRecDepth 20000 in
theorem mOk_X11_plan : mOkM 174 (mMt 174) := ⟨fun _ => TG_6 (i := 99) rfl rfl, fun h => absurd rfl h, TG_1 (i := 12) rfl rfl, (fun h => nomatch h), fun _ => ⟨TG_6 (i := 97) rfl rfl, fun _ => TG_6 (i := 98) rfl rfl⟩, by decide +kernel, ⟨by decide +kernel, by decide +kernel, by decide +kernel⟩, fun h => absurd h (by decide)⟩
set_option maxRecDepth 20000 in
theorem mOk_X11_tell : mOkM 175 (mMt 175) := ⟨fun _ => TG_6 (i := 168) rfl rfl, fun h => absurd rfl h, TG_1 (i := 12) rfl rfl, (fun h => nomatch h), fun _ => ⟨TG_6 (i := 166) rfl rfl, fun _ => TG_6 (i := 167) rfl rfl⟩, by decide +kernel, ⟨by decide +kernel, by decide +kernel, by decide +kernel⟩, fun h => absurd h (by decide)⟩
set_option maxRecDepth 20000 in
theorem mOk_X11_remembers : mOkM 176 (mMt 176) := ⟨fun _ => TG_6 (i := 189) rfl rfl, fun h => absurd rfl h, TG_1 (i := 12) rfl rfl, (fun h => nomatch h), fun _ => ⟨TG_6 (i := 188) rfl rfl, fun _ => TG_s (List.mem_of_getElem? (i := 62) rfl) rfl⟩, by decide +kernel, ⟨by decide +kernel, by decide +kernel, by decide +kernel⟩, fun h => absurd h (by decide)⟩
set_option maxRecDepth 20000 in
theorem mOk_X11_takesBack : mOkM 177 (mMt 177) := ⟨fun _ => TG_6 (i := 185) rfl rfl, fun h => absurd rfl h, TG_1 (i := 12) rfl rfl, (fun h => nomatch h), fun _ => ⟨TG_6 (i := 184) rfl rfl, fun _ => TG_s (List.mem_of_getElem? (i := 61) rfl) rfl⟩, by decide +kernel, ⟨by decide +kernel, by decide +kernel, by decide +kernel⟩, fun h => absurd h (by decide)⟩
set_option maxRecDepth 20000 in
theorem mOk_X11_nextJob : mOkM 178 (mMt 178) := ⟨fun _ => TG_6 (i := 181) rfl rfl, fun h => absurd rfl h, TG_1 (i := 12) rfl rfl, (fun h => nomatch h), fun _ => ⟨TG_6 (i := 180) rfl rfl, fun _ => TG_s (List.mem_of_getElem? (i := 60) rfl) rfl⟩, by decide +kernel, ⟨by decide +kernel, by decide +kernel, by decide +kernel⟩, fun h => absurd h (by decide)⟩
set_option maxRecDepth 20000 in
theorem mOk_X11_best : mOkM 179 (mMt 179) := ⟨fun _ => TG_6 (i := 173) rfl rfl, fun h => absurd rfl h, TG_1 (i := 12) rfl rfl, (fun h => nomatch h), fun _ => ⟨TG_6 (i := 171) rfl rfl, fun _ => TG_6 (i := 172) rfl rfl⟩, by decide +kernel, ⟨by decide +kernel, by decide +kernel, by decide +kernel⟩, fun h => absurd h (by decide)⟩
set_option maxRecDepth 20000 in
theorem mOk_X11_exchanges : mOkM 180 (mMt 180) := ⟨fun _ => TG_6 (i := 197) rfl rfl, fun h => absurd rfl h, TG_1 (i := 12) rfl rfl, (fun h => nomatch h), fun _ => ⟨TG_6 (i := 196) rfl rfl, fun _ => TG_s (List.mem_of_getElem? (i := 63) rfl) rfl⟩, by decide +kernel, ⟨by decide +kernel, by decide +kernel, by decide +kernel⟩, fun h => absurd h (by decide)⟩
set_option maxRecDepth 20000 in
theorem mOk_X11_swap : mOkM 181 (mMt 181) := ⟨fun _ => TG_6 (i := 193) rfl rfl, fun h => absurd rfl h, TG_1 (i := 12) rfl rfl, (fun h => nomatch h), fun _ => ⟨TG_6 (i := 191) rfl rfl, fun _ => TG_6 (i := 192) rfl rfl⟩, by decide +kernel, ⟨by decide +kernel, by decide +kernel, by decide +kernel⟩, fun h => absurd h (by decide)⟩
set_option maxRecDepth 20000 in
theorem mOk_X11_replan : mOkM 182 (mMt 182) := ⟨fun _ => TG_6 (i := 201) rfl rfl, fun h => absurd rfl h, TG_1 (i := 12) rfl rfl, (fun h => nomatch h), fun _ => ⟨TG_6 (i := 199) rfl rfl, fun _ => TG_6 (i := 200) rfl rfl⟩, by decide +kernel, ⟨by decide +kernel, by decide +kernel, by decide +kernel⟩, fun h => absurd h (by decide)⟩
set_option maxRecDepth 20000 in
theorem mOk_X11_laysRushed : mOkM 183 (mMt 183) := ⟨fun _ => TG_6 (i := 213) rfl rfl, fun h => absurd rfl h, TG_1 (i := 12) rfl rfl, (fun h => nomatch h), fun _ => ⟨TG_6 (i := 212) rfl rfl, fun _ => TG_s (List.mem_of_getElem? (i := 65) rfl) rfl⟩, by decide +kernel, ⟨by decide +kernel, by decide +kernel, by decide +kernel⟩, fun h => absurd h (by decide)⟩
set_option maxRecDepth 20000 in
theorem mOk_X11_rush : mOkM 184 (mMt 184) := ⟨fun _ => TG_6 (i := 209) rfl rfl, fun h => absurd rfl h, TG_1 (i := 12) rfl rfl, (fun h => nomatch h), fun _ => ⟨TG_6 (i := 207) rfl rfl, fun _ => TG_6 (i := 208) rfl rfl⟩, by decide +kernel, ⟨by decide +kernel, by decide +kernel, by decide +kernel⟩, fun h => absurd h (by decide)⟩
set_option maxRecDepth 20000 in
theorem mOk_X11_setWorker : mOkM 185 (mMt 185) := ⟨fun _ => TG_6 (i := 217) rfl rfl, fun h => absurd rfl h, TG_1 (i := 12) rfl rfl, (fun h => nomatch h), fun _ => ⟨TG_6 (i := 215) rfl rfl, fun _ => TG_6 (i := 216) rfl rfl⟩, by decide +kernel, ⟨by decide +kernel, by decide +kernel, by decide +kernel⟩, fun h => absurd h (by decide)⟩
set_option maxRecDepth 20000 in
theorem mOk_X11_undo : mOkM 186 (mMt 186) := ⟨fun _ => TG_6 (i := 221) rfl rfl, fun h => absurd rfl h, TG_1 (i := 12) rfl rfl, (fun h => nomatch h), fun _ => ⟨TG_6 (i := 219) rfl rfl, fun _ => TG_6 (i := 220) rfl rfl⟩, by decide +kernel, ⟨by decide +kernel, by decide +kernel, by decide +kernel⟩, fun h => absurd h (by decide)⟩
set_option maxRecDepth 20000 in
theorem mOk_X11_jobs : mOkM 187 (mMt 187) := ⟨fun _ => TG_6 (i := 225) rfl rfl, fun h => absurd rfl h, TG_1 (i := 12) rfl rfl, (fun h => nomatch h), fun _ => ⟨TG_6 (i := 223) rfl rfl, fun _ => TG_6 (i := 224) rfl rfl⟩, by decide +kernel, ⟨by decide +kernel, by decide +kernel, by decide +kernel⟩, fun h => absurd h (by decide)⟩
set_option maxRecDepth 20000 in
theorem mOk_X11_jobAt : mOkM 188 (mMt 188) := ⟨fun _ => TG_6 (i := 229) rfl rfl, fun h => absurd rfl h, TG_1 (i := 12) rfl rfl, (fun h => nomatch h), fun _ => ⟨TG_6 (i := 227) rfl rfl, fun _ => TG_6 (i := 228) rfl rfl⟩, by decide +kernel, ⟨by decide +kernel, by decide +kernel, by decide +kernel⟩, fun h => absurd h (by decide)⟩
set_option maxRecDepth 20000 in
theorem mOk_X11_stepAt : mOkM 189 (mMt 189) := ⟨fun _ => TG_6 (i := 237) rfl rfl, fun h => absurd rfl h, TG_1 (i := 12) rfl rfl, (fun h => nomatch h), fun _ => ⟨TG_6 (i := 235) rfl rfl, fun _ => TG_6 (i := 236) rfl rfl⟩, by decide +kernel, ⟨by decide +kernel, by decide +kernel, by decide +kernel⟩, fun h => absurd h (by decide)⟩
set_option maxRecDepth 20000 in
theorem mOk_X11_isPlanned : mOkM 190 (mMt 190) := ⟨fun _ => TG_7 (i := 9) rfl rfl, fun h => absurd rfl h, TG_1 (i := 12) rfl rfl, (fun h => nomatch h), fun _ => ⟨TG_7 (i := 8) rfl rfl, fun _ => TG_s (List.mem_of_getElem? (i := 68) rfl) rfl⟩, by decide +kernel, ⟨by decide +kernel, by decide +kernel, by decide +kernel⟩, fun h => absurd h (by decide)⟩
set_option maxRecDepth 20000 in
theorem mOk_X11_begin : mOkM 191 (mMt 191) := ⟨fun _ => TG_7 (i := 5) rfl rfl, fun h => absurd rfl h, TG_1 (i := 12) rfl rfl, (fun h => nomatch h), fun _ => ⟨TG_7 (i := 3) rfl rfl, fun _ => TG_7 (i := 4) rfl rfl⟩, by decide +kernel, ⟨by decide +kernel, by decide +kernel, by decide +kernel⟩, fun h => absurd h (by decide)⟩
set_option maxRecDepth 20000 in
theorem mOk_X11_endOf : mOkM 192 (mMt 192) := ⟨fun _ => TG_7 (i := 13) rfl rfl, fun h => absurd rfl h, TG_1 (i := 12) rfl rfl, (fun h => nomatch h), fun _ => ⟨TG_7 (i := 11) rfl rfl, fun _ => TG_7 (i := 12) rfl rfl⟩, by decide +kernel, ⟨by decide +kernel, by decide +kernel, by decide +kernel⟩, fun h => absurd h (by decide)⟩
set_option maxRecDepth 20000 in
theorem mOk_X11_value : mOkM 193 (mMt 193) := ⟨fun _ => TG_7 (i := 17) rfl rfl, fun h => absurd rfl h, TG_1 (i := 12) rfl rfl, (fun h => nomatch h), fun _ => ⟨TG_7 (i := 15) rfl rfl, fun _ => TG_7 (i := 16) rfl rfl⟩, by decide +kernel, ⟨by decide +kernel, by decide +kernel, by decide +kernel⟩, fun h => absurd h (by decide)⟩
set_option maxRecDepth 20000 in
theorem mOk_X11_bound : mOkM 194 (mMt 194) := ⟨fun _ => TG_7 (i := 21) rfl rfl, fun h => absurd rfl h, TG_1 (i := 12) rfl rfl, (fun h => nomatch h), fun _ => ⟨TG_7 (i := 19) rfl rfl, fun _ => TG_7 (i := 20) rfl rfl⟩, by decide +kernel, ⟨by decide +kernel, by decide +kernel, by decide +kernel⟩, fun h => absurd h (by decide)⟩
set_option maxRecDepth 20000 in
theorem mOk_X11_hoursOn : mOkM 195 (mMt 195) := ⟨fun _ => TG_7 (i := 25) rfl rfl, fun h => absurd rfl h, TG_1 (i := 12) rfl rfl, (fun h => nomatch h), fun _ => ⟨TG_7 (i := 24) rfl rfl, fun _ => TG_s (List.mem_of_getElem? (i := 69) rfl) rfl⟩, by decide +kernel, ⟨by decide +kernel, by decide +kernel, by decide +kernel⟩, fun h => absurd h (by decide)⟩
set_option maxRecDepth 20000 in
theorem mOk_X11_orderAt : mOkM 196 (mMt 196) := ⟨fun _ => TG_7 (i := 29) rfl rfl, fun h => absurd rfl h, TG_1 (i := 12) rfl rfl, (fun h => nomatch h), fun _ => ⟨TG_7 (i := 27) rfl rfl, fun _ => TG_7 (i := 28) rfl rfl⟩, by decide +kernel, ⟨by decide +kernel, by decide +kernel, by decide +kernel⟩, fun h => absurd h (by decide)⟩
set_option maxRecDepth 20000 in
theorem mOk_X11_doneIn : mOkM 197 (mMt 197) := ⟨fun _ => TG_7 (i := 33) rfl rfl, fun h => absurd rfl h, TG_1 (i := 12) rfl rfl, (fun h => nomatch h), fun _ => ⟨TG_7 (i := 31) rfl rfl, fun _ => TG_7 (i := 32) rfl rfl⟩, by decide +kernel, ⟨by decide +kernel, by decide +kernel, by decide +kernel⟩, fun h => absurd h (by decide)⟩
set_option maxRecDepth 20000 in
theorem mOk_X11_isDone : mOkM 198 (mMt 198) := ⟨fun _ => TG_7 (i := 37) rfl rfl, fun h => absurd rfl h, TG_1 (i := 12) rfl rfl, (fun h => nomatch h), fun _ => ⟨TG_7 (i := 36) rfl rfl, fun _ => TG_s (List.mem_of_getElem? (i := 70) rfl) rfl⟩, by decide +kernel, ⟨by decide +kernel, by decide +kernel, by decide +kernel⟩, fun h => absurd h (by decide)⟩
set_option maxRecDepth 20000 in
theorem mOk_X11_stepEnd : mOkM 199 (mMt 199) := ⟨fun _ => TG_7 (i := 41) rfl rfl, fun h => absurd rfl h, TG_1 (i := 12) rfl rfl, (fun h => nomatch h), fun _ => ⟨TG_7 (i := 40) rfl rfl, fun _ => TG_s (List.mem_of_getElem? (i := 71) rfl) rfl⟩, by decide +kernel, ⟨by decide +kernel, by decide +kernel, by decide +kernel⟩, fun h => absurd h (by decide)⟩
set_option maxRecDepth 20000 in
theorem mOk_X11_aheadOf : mOkM 200 (mMt 200) := ⟨fun _ => TG_7 (i := 57) rfl rfl, fun h => absurd rfl h, TG_1 (i := 12) rfl rfl, (fun h => nomatch h), fun _ => ⟨TG_7 (i := 56) rfl rfl, fun _ => TG_s (List.mem_of_getElem? (i := 74) rfl) rfl⟩, by decide +kernel, ⟨by decide +kernel, by decide +kernel, by decide +kernel⟩, fun h => absurd h (by decide)⟩
set_option maxRecDepth 20000 in
theorem mOk_X11_readyAt : mOkM 201 (mMt 201) := ⟨fun _ => TG_7 (i := 53) rfl rfl, fun h => absurd rfl h, TG_1 (i := 12) rfl rfl, (fun h => nomatch h), fun _ => ⟨TG_7 (i := 52) rfl rfl, fun _ => TG_s (List.mem_of_getElem? (i := 73) rfl) rfl⟩, by decide +kernel, ⟨by decide +kernel, by decide +kernel, by decide +kernel⟩, fun h => absurd h (by decide)⟩
set_option maxRecDepth 20000 in
theorem mOk_X11_laysWay : mOkM 202 (mMt 202) := ⟨fun _ => TG_7 (i := 49) rfl rfl, fun h => absurd rfl h, TG_1 (i := 12) rfl rfl, (fun h => nomatch h), fun _ => ⟨TG_7 (i := 48) rfl rfl, fun _ => TG_s (List.mem_of_getElem? (i := 72) rfl) rfl⟩, by decide +kernel, ⟨by decide +kernel, by decide +kernel, by decide +kernel⟩, fun h => absurd h (by decide)⟩
set_option maxRecDepth 20000 in
theorem mOk_X11_wayLength : mOkM 203 (mMt 203) := ⟨fun _ => TG_7 (i := 45) rfl rfl, fun h => absurd rfl h, TG_1 (i := 12) rfl rfl, (fun h => nomatch h), fun _ => ⟨TG_7 (i := 43) rfl rfl, fun _ => TG_7 (i := 44) rfl rfl⟩, by decide +kernel, ⟨by decide +kernel, by decide +kernel, by decide +kernel⟩, fun h => absurd h (by decide)⟩
set_option maxRecDepth 20000 in
theorem mOk_X11_wayAt : mOkM 204 (mMt 204) := ⟨fun _ => TG_7 (i := 61) rfl rfl, fun h => absurd rfl h, TG_1 (i := 12) rfl rfl, (fun h => nomatch h), fun _ => ⟨TG_7 (i := 59) rfl rfl, fun _ => TG_7 (i := 60) rfl rfl⟩, by decide +kernel, ⟨by decide +kernel, by decide +kernel, by decide +kernel⟩, fun h => absurd h (by decide)⟩
set_option maxRecDepth 20000 in
theorem mOk_X11_block : mOkM 205 (mMt 205) := ⟨fun _ => TG_7 (i := 69) rfl rfl, fun h => absurd rfl h, TG_1 (i := 12) rfl rfl, (fun h => nomatch h), fun _ => ⟨TG_7 (i := 68) rfl rfl, fun _ => TG_s (List.mem_of_getElem? (i := 75) rfl) rfl⟩, by decide +kernel, ⟨by decide +kernel, by decide +kernel, by decide +kernel⟩, fun h => absurd h (by decide)⟩
set_option maxRecDepth 20000 in
theorem mOk_X11_blocks : mOkM 206 (mMt 206) := ⟨fun _ => TG_7 (i := 65) rfl rfl, fun h => absurd rfl h, TG_1 (i := 12) rfl rfl, (fun h => nomatch h), fun _ => ⟨TG_7 (i := 63) rfl rfl, fun _ => TG_7 (i := 64) rfl rfl⟩, by decide +kernel, ⟨by decide +kernel, by decide +kernel, by decide +kernel⟩, fun h => absurd h (by decide)⟩
set_option maxRecDepth 20000 in
theorem mOk_X11_longestBlock : mOkM 207 (mMt 207) := ⟨fun _ => TG_7 (i := 73) rfl rfl, fun h => absurd rfl h, TG_1 (i := 12) rfl rfl, (fun h => nomatch h), fun _ => ⟨TG_7 (i := 71) rfl rfl, fun _ => TG_7 (i := 72) rfl rfl⟩, by decide +kernel, ⟨by decide +kernel, by decide +kernel, by decide +kernel⟩, fun h => absurd h (by decide)⟩
set_option maxRecDepth 20000 in
theorem mOk_X11_slack : mOkM 208 (mMt 208) := ⟨fun _ => TG_7 (i := 77) rfl rfl, fun h => absurd rfl h, TG_1 (i := 12) rfl rfl, (fun h => nomatch h), fun _ => ⟨TG_7 (i := 75) rfl rfl, fun _ => TG_7 (i := 76) rfl rfl⟩, by decide +kernel, ⟨by decide +kernel, by decide +kernel, by decide +kernel⟩, fun h => absurd h (by decide)⟩
set_option maxRecDepth 20000 in
theorem mOk_X11_delay : mOkM 209 (mMt 209) := ⟨fun _ => TG_7 (i := 81) rfl rfl, fun h => absurd rfl h, TG_1 (i := 12) rfl rfl, (fun h => nomatch h), fun _ => ⟨TG_7 (i := 79) rfl rfl, fun _ => TG_7 (i := 80) rfl rfl⟩, by decide +kernel, ⟨by decide +kernel, by decide +kernel, by decide +kernel⟩, fun h => absurd h (by decide)⟩
set_option maxRecDepth 20000 in
theorem mOk_X11_part : mOkM 210 (mMt 210) := ⟨fun _ => TG_7 (i := 97) rfl rfl, fun h => absurd rfl h, TG_1 (i := 12) rfl rfl, (fun h => nomatch h), fun _ => ⟨TG_7 (i := 96) rfl rfl, fun _ => TG_s (List.mem_of_getElem? (i := 78) rfl) rfl⟩, by decide +kernel, ⟨by decide +kernel, by decide +kernel, by decide +kernel⟩, fun h => absurd h (by decide)⟩
set_option maxRecDepth 20000 in
theorem mOk_X11_goesFirst : mOkM 211 (mMt 211) := ⟨fun _ => TG_7 (i := 93) rfl rfl, fun h => absurd rfl h, TG_1 (i := 12) rfl rfl, (fun h => nomatch h), fun _ => ⟨TG_7 (i := 92) rfl rfl, fun _ => TG_s (List.mem_of_getElem? (i := 77) rfl) rfl⟩, by decide +kernel, ⟨by decide +kernel, by decide +kernel, by decide +kernel⟩, fun h => absurd h (by decide)⟩
set_option maxRecDepth 20000 in
theorem mOk_X11_laysRow : mOkM 212 (mMt 212) := ⟨fun _ => TG_7 (i := 89) rfl rfl, fun h => absurd rfl h, TG_1 (i := 12) rfl rfl, (fun h => nomatch h), fun _ => ⟨TG_7 (i := 88) rfl rfl, fun _ => TG_s (List.mem_of_getElem? (i := 76) rfl) rfl⟩, by decide +kernel, ⟨by decide +kernel, by decide +kernel, by decide +kernel⟩, fun h => absurd h (by decide)⟩
set_option maxRecDepth 20000 in
theorem mOk_X11_leastSum : mOkM 213 (mMt 213) := ⟨fun _ => TG_7 (i := 85) rfl rfl, fun h => absurd rfl h, TG_1 (i := 12) rfl rfl, (fun h => nomatch h), fun _ => ⟨TG_7 (i := 83) rfl rfl, fun _ => TG_7 (i := 84) rfl rfl⟩, by decide +kernel, ⟨by decide +kernel, by decide +kernel, by decide +kernel⟩, fun h => absurd h (by decide)⟩
set_option maxRecDepth 20000 in
theorem mOk_X11_leastLateness : mOkM 214 (mMt 214) := ⟨fun _ => TG_7 (i := 101) rfl rfl, fun h => absurd rfl h, TG_1 (i := 12) rfl rfl, (fun h => nomatch h), fun _ => ⟨TG_7 (i := 99) rfl rfl, fun _ => TG_7 (i := 100) rfl rfl⟩, by decide +kernel, ⟨by decide +kernel, by decide +kernel, by decide +kernel⟩, fun h => absurd h (by decide)⟩
set_option maxRecDepth 20000 in
theorem mOk_X11_dropped : mOkM 215 (mMt 215) := ⟨fun _ => TG_7 (i := 109) rfl rfl, fun h => absurd rfl h, TG_1 (i := 12) rfl rfl, (fun h => nomatch h), fun _ => ⟨TG_7 (i := 108) rfl rfl, fun _ => TG_s (List.mem_of_getElem? (i := 79) rfl) rfl⟩, by decide +kernel, ⟨by decide +kernel, by decide +kernel, by decide +kernel⟩, fun h => absurd h (by decide)⟩
set_option maxRecDepth 20000 in
theorem mOk_X11_fewestLate : mOkM 216 (mMt 216) := ⟨fun _ => TG_7 (i := 105) rfl rfl, fun h => absurd rfl h, TG_1 (i := 12) rfl rfl, (fun h => nomatch h), fun _ => ⟨TG_7 (i := 103) rfl rfl, fun _ => TG_7 (i := 104) rfl rfl⟩, by decide +kernel, ⟨by decide +kernel, by decide +kernel, by decide +kernel⟩, fun h => absurd h (by decide)⟩
set_option maxRecDepth 20000 in
theorem mOk_X11_isDropped : mOkM 217 (mMt 217) := ⟨fun _ => TG_7 (i := 113) rfl rfl, fun h => absurd rfl h, TG_1 (i := 12) rfl rfl, (fun h => nomatch h), fun _ => ⟨TG_7 (i := 111) rfl rfl, fun _ => TG_7 (i := 112) rfl rfl⟩, by decide +kernel, ⟨by decide +kernel, by decide +kernel, by decide +kernel⟩, fun h => absurd h (by decide)⟩
set_option maxRecDepth 20000 in
theorem mOk_X11_leastEnd : mOkM 218 (mMt 218) := ⟨fun _ => TG_7 (i := 117) rfl rfl, fun h => absurd rfl h, TG_1 (i := 12) rfl rfl, (fun h => nomatch h), fun _ => ⟨TG_7 (i := 115) rfl rfl, fun _ => TG_7 (i := 116) rfl rfl⟩, by decide +kernel, ⟨by decide +kernel, by decide +kernel, by decide +kernel⟩, fun h => absurd h (by decide)⟩
set_option maxRecDepth 20000 in
theorem mOk_X11_twoAt : mOkM 219 (mMt 219) := ⟨fun _ => TG_7 (i := 121) rfl rfl, fun h => absurd rfl h, TG_1 (i := 12) rfl rfl, (fun h => nomatch h), fun _ => ⟨TG_7 (i := 119) rfl rfl, fun _ => TG_7 (i := 120) rfl rfl⟩, by decide +kernel, ⟨by decide +kernel, by decide +kernel, by decide +kernel⟩, fun h => absurd h (by decide)⟩
set_option maxRecDepth 20000 in
theorem mOk_X11_nextRow : mOkM 220 (mMt 220) := ⟨fun _ => TG_7 (i := 133) rfl rfl, fun h => absurd rfl h, TG_1 (i := 12) rfl rfl, (fun h => nomatch h), fun _ => ⟨TG_7 (i := 132) rfl rfl, fun _ => TG_s (List.mem_of_getElem? (i := 81) rfl) rfl⟩, by decide +kernel, ⟨by decide +kernel, by decide +kernel, by decide +kernel⟩, fun h => absurd h (by decide)⟩
set_option maxRecDepth 20000 in
theorem mOk_X11_turns : mOkM 221 (mMt 221) := ⟨fun _ => TG_7 (i := 137) rfl rfl, fun h => absurd rfl h, TG_1 (i := 12) rfl rfl, (fun h => nomatch h), fun _ => ⟨TG_7 (i := 136) rfl rfl, fun _ => TG_s (List.mem_of_getElem? (i := 82) rfl) rfl⟩, by decide +kernel, ⟨by decide +kernel, by decide +kernel, by decide +kernel⟩, fun h => absurd h (by decide)⟩
set_option maxRecDepth 20000 in
theorem mOk_X11_setup : mOkM 222 (mMt 222) := ⟨fun _ => TG_7 (i := 129) rfl rfl, fun h => absurd rfl h, TG_1 (i := 12) rfl rfl, (fun h => nomatch h), fun _ => ⟨TG_7 (i := 128) rfl rfl, fun _ => TG_s (List.mem_of_getElem? (i := 80) rfl) rfl⟩, by decide +kernel, ⟨by decide +kernel, by decide +kernel, by decide +kernel⟩, fun h => absurd h (by decide)⟩
set_option maxRecDepth 20000 in
theorem mOk_X11_leastSetup : mOkM 223 (mMt 223) := ⟨fun _ => TG_7 (i := 125) rfl rfl, fun h => absurd rfl h, TG_1 (i := 12) rfl rfl, (fun h => nomatch h), fun _ => ⟨TG_7 (i := 123) rfl rfl, fun _ => TG_7 (i := 124) rfl rfl⟩, by decide +kernel, ⟨by decide +kernel, by decide +kernel, by decide +kernel⟩, fun h => absurd h (by decide)⟩
set_option maxRecDepth 20000 in
theorem mOk_X11_setupAt : mOkM 224 (mMt 224) := ⟨fun _ => TG_7 (i := 141) rfl rfl, fun h => absurd rfl h, TG_1 (i := 12) rfl rfl, (fun h => nomatch h), fun _ => ⟨TG_7 (i := 139) rfl rfl, fun _ => TG_7 (i := 140) rfl rfl⟩, by decide +kernel, ⟨by decide +kernel, by decide +kernel, by decide +kernel⟩, fun h => absurd h (by decide)⟩
set_option maxRecDepth 20000 in
theorem mOk_X11_matches : mOkM 225 (mMt 225) := ⟨fun _ => TG_7 (i := 149) rfl rfl, fun h => absurd rfl h, TG_1 (i := 12) rfl rfl, (fun h => nomatch h), fun _ => ⟨TG_7 (i := 148) rfl rfl, fun _ => TG_s (List.mem_of_getElem? (i := 83) rfl) rfl⟩, by decide +kernel, ⟨by decide +kernel, by decide +kernel, by decide +kernel⟩, fun h => absurd h (by decide)⟩
set_option maxRecDepth 20000 in
theorem mOk_X11_workerIn : mOkM 226 (mMt 226) := ⟨fun _ => TG_7 (i := 152) rfl rfl, fun h => absurd rfl h, TG_1 (i := 12) rfl rfl, fun _ => TG_7 (i := 151) rfl rfl, (fun h => nomatch h), by decide +kernel, ⟨by decide +kernel, by decide +kernel, by decide +kernel⟩, fun h => absurd h (by decide)⟩
set_option maxRecDepth 20000 in
theorem mOk_X11_match : mOkM 227 (mMt 227) := ⟨fun _ => TG_7 (i := 145) rfl rfl, fun h => absurd rfl h, TG_1 (i := 12) rfl rfl, (fun h => nomatch h), fun _ => ⟨TG_7 (i := 143) rfl rfl, fun _ => TG_7 (i := 144) rfl rfl⟩, by decide +kernel, ⟨by decide +kernel, by decide +kernel, by decide +kernel⟩, fun h => absurd h (by decide)⟩
set_option maxRecDepth 20000 in
theorem mOk_X11_workerOf : mOkM 228 (mMt 228) := ⟨fun _ => TG_7 (i := 156) rfl rfl, fun h => absurd rfl h, TG_1 (i := 12) rfl rfl, (fun h => nomatch h), fun _ => ⟨TG_7 (i := 154) rfl rfl, fun _ => TG_7 (i := 155) rfl rfl⟩, by decide +kernel, ⟨by decide +kernel, by decide +kernel, by decide +kernel⟩, fun h => absurd h (by decide)⟩
set_option maxRecDepth 20000 in
theorem mOk_X11_oddsOf : mOkM 229 (mMt 229) := ⟨fun _ => TG_7 (i := 165) rfl rfl, fun h => absurd rfl h, TG_1 (i := 12) rfl rfl, (fun h => nomatch h), fun _ => ⟨TG_7 (i := 164) rfl rfl, fun _ => TG_s (List.mem_of_getElem? (i := 84) rfl) rfl⟩, by decide +kernel, ⟨by decide +kernel, by decide +kernel, by decide +kernel⟩, fun h => absurd h (by decide)⟩
set_option maxRecDepth 20000 in
theorem mOk_X11_promise : mOkM 230 (mMt 230) := ⟨fun _ => TG_7 (i := 160) rfl rfl, fun h => absurd rfl h, TG_1 (i := 12) rfl rfl, (fun h => nomatch h), fun _ => ⟨TG_7 (i := 158) rfl rfl, fun _ => TG_7 (i := 159) rfl rfl⟩, by decide +kernel, ⟨by decide +kernel, by decide +kernel, by decide +kernel⟩, fun h => absurd h (by decide)⟩
set_option maxRecDepth 20000 in
theorem mOk_X11_worked : mOkM 231 (mMt 231) := ⟨fun _ => TG_7 (i := 169) rfl rfl, fun h => absurd rfl h, TG_1 (i := 12) rfl rfl, (fun h => nomatch h), fun _ => ⟨TG_7 (i := 167) rfl rfl, fun _ => TG_7 (i := 168) rfl rfl⟩, by decide +kernel, ⟨by decide +kernel, by decide +kernel, by decide +kernel⟩, fun h => absurd h (by decide)⟩
set_option maxRecDepth 20000 in
theorem mOk_X11_meanEnd : mOkM 232 (mMt 232) := ⟨fun _ => TG_7 (i := 174) rfl rfl, fun h => absurd rfl h, TG_1 (i := 12) rfl rfl, (fun h => nomatch h), fun _ => ⟨TG_7 (i := 172) rfl rfl, fun _ => TG_7 (i := 173) rfl rfl⟩, by decide +kernel, ⟨by decide +kernel, by decide +kernel, by decide +kernel⟩, fun h => absurd h (by decide)⟩
set_option maxRecDepth 20000 in
theorem mOk_X11_use : mOkM 233 (mMt 233) := ⟨fun _ => TG_7 (i := 178) rfl rfl, fun h => absurd rfl h, TG_1 (i := 12) rfl rfl, (fun h => nomatch h), fun _ => ⟨TG_7 (i := 176) rfl rfl, fun _ => TG_7 (i := 177) rfl rfl⟩, by decide +kernel, ⟨by decide +kernel, by decide +kernel, by decide +kernel⟩, fun h => absurd h (by decide)⟩
set_option maxRecDepth 20000 in
theorem mOk_X11_isClosed : mOkM 234 (mMt 234) := ⟨fun _ => TG_7 (i := 191) rfl rfl, fun h => absurd rfl h, TG_1 (i := 12) rfl rfl, (fun h => nomatch h), fun _ => ⟨TG_7 (i := 190) rfl rfl, fun _ => TG_s (List.mem_of_getElem? (i := 86) rfl) rfl⟩, by decide +kernel, ⟨by decide +kernel, by decide +kernel, by decide +kernel⟩, fun h => absurd h (by decide)⟩
set_option maxRecDepth 20000 in
theorem mOk_X11_isWrong : mOkM 235 (mMt 235) := ⟨fun _ => TG_7 (i := 187) rfl rfl, fun h => absurd rfl h, TG_1 (i := 12) rfl rfl, (fun h => nomatch h), fun _ => ⟨TG_7 (i := 186) rfl rfl, fun _ => TG_s (List.mem_of_getElem? (i := 85) rfl) rfl⟩, by decide +kernel, ⟨by decide +kernel, by decide +kernel, by decide +kernel⟩, fun h => absurd h (by decide)⟩
set_option maxRecDepth 20000 in
theorem mOk_X11_errors : mOkM 236 (mMt 236) := ⟨fun _ => TG_7 (i := 182) rfl rfl, fun h => absurd rfl h, TG_1 (i := 12) rfl rfl, (fun h => nomatch h), fun _ => ⟨TG_7 (i := 180) rfl rfl, fun _ => TG_7 (i := 181) rfl rfl⟩, by decide +kernel, ⟨by decide +kernel, by decide +kernel, by decide +kernel⟩, fun h => absurd h (by decide)⟩
set_option maxRecDepth 20000 in
theorem mOk_J6_bitCount_0f7a4 : mOkM 237 (mMt 237) := ⟨fun _ => TG_3 (i := 64) rfl rfl, fun h => absurd rfl h, TG_1 (i := 22) rfl rfl, fun _ => TG_3 (i := 63) rfl rfl, (fun h => nomatch h), by decide +kernel, ⟨by decide +kernel, by decide +kernel, by decide +kernel⟩, fun h => absurd h (by decide)⟩
set_option maxRecDepth 20000 in
theorem mOk_J7_fill_d0a16 : mOkM 240 (mMt 240) := ⟨fun _ => TG_5 (i := 171) rfl rfl, fun h => absurd rfl h, TG_1 (i := 21) rfl rfl, fun _ => TG_5 (i := 170) rfl rfl, (fun h => nomatch h), by decide +kernel, ⟨by decide +kernel, by decide +kernel, by decide +kernel⟩, fun h => absurd h (by decide)⟩
set_option maxRecDepth 20000 in
theorem mOk_J7_fill_53178 : mOkM 241 (mMt 241) := ⟨fun _ => TG_2 (i := 183) rfl rfl, fun h => absurd rfl h, TG_1 (i := 21) rfl rfl, fun _ => TG_2 (i := 182) rfl rfl, (fun h => nomatch h), by decide +kernel, ⟨by decide +kernel, by decide +kernel, by decide +kernel⟩, fun h => absurd h (by decide)⟩
set_option maxRecDepth 20000 in
theorem mOk_L_close : mOkM 242 (mMt 242) := ⟨(fun h => nomatch h), fun _ => ⟨TG_3 (i := 136) rfl rfl, rfl⟩, TG_1 (i := 0) rfl rfl, fun _ => TG_3 (i := 135) rfl rfl, (fun h => nomatch h), by decide +kernel, ⟨by decide +kernel, by decide +kernel, by decide +kernel⟩, fun h => absurd h (by decide)⟩
set_option maxRecDepth 20000 in
theorem mOk_L_setTool : mOkM 243 (mMt 243) := ⟨(fun h => nomatch h), fun _ => ⟨TG_4 (i := 21) rfl rfl, rfl⟩, TG_1 (i := 0) rfl rfl, fun _ => TG_4 (i := 20) rfl rfl, (fun h => nomatch h), by decide +kernel, ⟨by decide +kernel, by decide +kernel, by decide +kernel⟩, fun h => absurd h (by decide)⟩
set_option maxRecDepth 20000 in
theorem mOk_L_setSetup : mOkM 244 (mMt 244) := ⟨(fun h => nomatch h), fun _ => ⟨TG_4 (i := 28) rfl rfl, rfl⟩, TG_1 (i := 0) rfl rfl, fun _ => TG_4 (i := 27) rfl rfl, (fun h => nomatch h), by decide +kernel, ⟨by decide +kernel, by decide +kernel, by decide +kernel⟩, fun h => absurd h (by decide)⟩
set_option maxRecDepth 20000 in
theorem mOk_L_addJob : mOkM 245 (mMt 245) := ⟨(fun h => nomatch h), fun _ => ⟨TG_4 (i := 43) rfl rfl, rfl⟩, TG_1 (i := 0) rfl rfl, fun _ => TG_4 (i := 42) rfl rfl, (fun h => nomatch h), by decide +kernel, ⟨by decide +kernel, by decide +kernel, by decide +kernel⟩, fun h => absurd h (by decide)⟩
set_option maxRecDepth 20000 in
theorem mOk_L_addStep : mOkM 246 (mMt 246) := ⟨(fun h => nomatch h), fun _ => ⟨TG_4 (i := 55) rfl rfl, rfl⟩, TG_1 (i := 0) rfl rfl, fun _ => TG_4 (i := 54) rfl rfl, (fun h => nomatch h), by decide +kernel, ⟨by decide +kernel, by decide +kernel, by decide +kernel⟩, fun h => absurd h (by decide)⟩
set_option maxRecDepth 20000 in
theorem mOk_L_cut : mOkM 247 (mMt 247) := ⟨(fun h => nomatch h), fun _ => ⟨TG_4 (i := 68) rfl rfl, rfl⟩, TG_1 (i := 0) rfl rfl, fun _ => TG_4 (i := 67) rfl rfl, (fun h => nomatch h), by decide +kernel, ⟨by decide +kernel, by decide +kernel, by decide +kernel⟩, fun h => absurd h (by decide)⟩
set_option maxRecDepth 20000 in
theorem mOk_L_plan : mOkM 248 (mMt 248) := ⟨(fun h => nomatch h), fun _ => ⟨TG_4 (i := 86) rfl rfl, rfl⟩, TG_1 (i := 0) rfl rfl, fun _ => TG_4 (i := 85) rfl rfl, (fun h => nomatch h), by decide +kernel, ⟨by decide +kernel, by decide +kernel, by decide +kernel⟩, fun h => absurd h (by decide)⟩
set_option maxRecDepth 20000 in
theorem mOk_L_tell : mOkM 249 (mMt 249) := ⟨(fun h => nomatch h), fun _ => ⟨TG_4 (i := 117) rfl rfl, rfl⟩, TG_1 (i := 0) rfl rfl, fun _ => TG_4 (i := 116) rfl rfl, (fun h => nomatch h), by decide +kernel, ⟨by decide +kernel, by decide +kernel, by decide +kernel⟩, fun h => absurd h (by decide)⟩
set_option maxRecDepth 20000 in
theorem mOk_L_best : mOkM 250 (mMt 250) := ⟨(fun h => nomatch h), fun _ => ⟨TG_4 (i := 133) rfl rfl, rfl⟩, TG_1 (i := 0) rfl rfl, fun _ => TG_4 (i := 132) rfl rfl, (fun h => nomatch h), by decide +kernel, ⟨by decide +kernel, by decide +kernel, by decide +kernel⟩, fun h => absurd h (by decide)⟩
set_option maxRecDepth 20000 in
theorem mOk_L_swap : mOkM 251 (mMt 251) := ⟨(fun h => nomatch h), fun _ => ⟨TG_4 (i := 163) rfl rfl, rfl⟩, TG_1 (i := 0) rfl rfl, fun _ => TG_4 (i := 162) rfl rfl, (fun h => nomatch h), by decide +kernel, ⟨by decide +kernel, by decide +kernel, by decide +kernel⟩, fun h => absurd h (by decide)⟩
set_option maxRecDepth 20000 in
theorem mOk_L_replan : mOkM 252 (mMt 252) := ⟨(fun h => nomatch h), fun _ => ⟨TG_4 (i := 181) rfl rfl, rfl⟩, TG_1 (i := 0) rfl rfl, fun _ => TG_4 (i := 180) rfl rfl, (fun h => nomatch h), by decide +kernel, ⟨by decide +kernel, by decide +kernel, by decide +kernel⟩, fun h => absurd h (by decide)⟩
set_option maxRecDepth 20000 in
theorem mOk_L_rush : mOkM 253 (mMt 253) := ⟨(fun h => nomatch h), fun _ => ⟨TG_4 (i := 197) rfl rfl, rfl⟩, TG_1 (i := 0) rfl rfl, fun _ => TG_4 (i := 196) rfl rfl, (fun h => nomatch h), by decide +kernel, ⟨by decide +kernel, by decide +kernel, by decide +kernel⟩, fun h => absurd h (by decide)⟩
set_option maxRecDepth 20000 in
theorem mOk_L_setWorker : mOkM 254 (mMt 254) := ⟨(fun h => nomatch h), fun _ => ⟨TG_4 (i := 208) rfl rfl, rfl⟩, TG_1 (i := 0) rfl rfl, fun _ => TG_4 (i := 207) rfl rfl, (fun h => nomatch h), by decide +kernel, ⟨by decide +kernel, by decide +kernel, by decide +kernel⟩, fun h => absurd h (by decide)⟩
set_option maxRecDepth 20000 in
theorem mOk_L_jobAt : mOkM 255 (mMt 255) := ⟨(fun h => nomatch h), fun _ => ⟨TG_4 (i := 219) rfl rfl, rfl⟩, TG_1 (i := 0) rfl rfl, fun _ => TG_4 (i := 218) rfl rfl, (fun h => nomatch h), by decide +kernel, ⟨by decide +kernel, by decide +kernel, by decide +kernel⟩, fun h => absurd h (by decide)⟩
set_option maxRecDepth 20000 in
theorem mOk_L_stepAt : mOkM 256 (mMt 256) := ⟨(fun h => nomatch h), fun _ => ⟨TG_4 (i := 227) rfl rfl, rfl⟩, TG_1 (i := 0) rfl rfl, fun _ => TG_4 (i := 226) rfl rfl, (fun h => nomatch h), by decide +kernel, ⟨by decide +kernel, by decide +kernel, by decide +kernel⟩, fun h => absurd h (by decide)⟩
set_option maxRecDepth 20000 in
theorem mOk_L_begin : mOkM 257 (mMt 257) := ⟨(fun h => nomatch h), fun _ => ⟨TG_4 (i := 239) rfl rfl, rfl⟩, TG_1 (i := 0) rfl rfl, fun _ => TG_4 (i := 238) rfl rfl, (fun h => nomatch h), by decide +kernel, ⟨by decide +kernel, by decide +kernel, by decide +kernel⟩, fun h => absurd h (by decide)⟩
set_option maxRecDepth 20000 in
theorem mOk_L_endOf : mOkM 258 (mMt 258) := ⟨(fun h => nomatch h), fun _ => ⟨TG_5 (i := 6) rfl rfl, rfl⟩, TG_1 (i := 0) rfl rfl, fun _ => TG_5 (i := 5) rfl rfl, (fun h => nomatch h), by decide +kernel, ⟨by decide +kernel, by decide +kernel, by decide +kernel⟩, fun h => absurd h (by decide)⟩
set_option maxRecDepth 20000 in
theorem mOk_L_value : mOkM 259 (mMt 259) := ⟨(fun h => nomatch h), fun _ => ⟨TG_5 (i := 14) rfl rfl, rfl⟩, TG_1 (i := 0) rfl rfl, fun _ => TG_5 (i := 13) rfl rfl, (fun h => nomatch h), by decide +kernel, ⟨by decide +kernel, by decide +kernel, by decide +kernel⟩, fun h => absurd h (by decide)⟩
set_option maxRecDepth 20000 in
theorem mOk_L_orderAt : mOkM 260 (mMt 260) := ⟨(fun h => nomatch h), fun _ => ⟨TG_5 (i := 21) rfl rfl, rfl⟩, TG_1 (i := 0) rfl rfl, fun _ => TG_5 (i := 20) rfl rfl, (fun h => nomatch h), by decide +kernel, ⟨by decide +kernel, by decide +kernel, by decide +kernel⟩, fun h => absurd h (by decide)⟩
set_option maxRecDepth 20000 in
theorem mOk_L_doneIn : mOkM 261 (mMt 261) := ⟨(fun h => nomatch h), fun _ => ⟨TG_5 (i := 32) rfl rfl, rfl⟩, TG_1 (i := 0) rfl rfl, fun _ => TG_5 (i := 31) rfl rfl, (fun h => nomatch h), by decide +kernel, ⟨by decide +kernel, by decide +kernel, by decide +kernel⟩, fun h => absurd h (by decide)⟩
set_option maxRecDepth 20000 in
theorem mOk_L_wayLength : mOkM 262 (mMt 262) := ⟨(fun h => nomatch h), fun _ => ⟨TG_5 (i := 40) rfl rfl, rfl⟩, TG_1 (i := 0) rfl rfl, fun _ => TG_5 (i := 39) rfl rfl, (fun h => nomatch h), by decide +kernel, ⟨by decide +kernel, by decide +kernel, by decide +kernel⟩, fun h => absurd h (by decide)⟩
set_option maxRecDepth 20000 in
theorem mOk_L_wayAt : mOkM 263 (mMt 263) := ⟨(fun h => nomatch h), fun _ => ⟨TG_5 (i := 61) rfl rfl, rfl⟩, TG_1 (i := 0) rfl rfl, fun _ => TG_5 (i := 60) rfl rfl, (fun h => nomatch h), by decide +kernel, ⟨by decide +kernel, by decide +kernel, by decide +kernel⟩, fun h => absurd h (by decide)⟩
set_option maxRecDepth 20000 in
theorem mOk_L_blocks : mOkM 264 (mMt 264) := ⟨(fun h => nomatch h), fun _ => ⟨TG_5 (i := 68) rfl rfl, rfl⟩, TG_1 (i := 0) rfl rfl, fun _ => TG_5 (i := 67) rfl rfl, (fun h => nomatch h), by decide +kernel, ⟨by decide +kernel, by decide +kernel, by decide +kernel⟩, fun h => absurd h (by decide)⟩
set_option maxRecDepth 20000 in
theorem mOk_L_longestBlock : mOkM 265 (mMt 265) := ⟨(fun h => nomatch h), fun _ => ⟨TG_5 (i := 75) rfl rfl, rfl⟩, TG_1 (i := 0) rfl rfl, fun _ => TG_5 (i := 74) rfl rfl, (fun h => nomatch h), by decide +kernel, ⟨by decide +kernel, by decide +kernel, by decide +kernel⟩, fun h => absurd h (by decide)⟩
set_option maxRecDepth 20000 in
theorem mOk_L_slack : mOkM 266 (mMt 266) := ⟨(fun h => nomatch h), fun _ => ⟨TG_5 (i := 82) rfl rfl, rfl⟩, TG_1 (i := 0) rfl rfl, fun _ => TG_5 (i := 81) rfl rfl, (fun h => nomatch h), by decide +kernel, ⟨by decide +kernel, by decide +kernel, by decide +kernel⟩, fun h => absurd h (by decide)⟩
set_option maxRecDepth 20000 in
theorem mOk_L_delay : mOkM 267 (mMt 267) := ⟨(fun h => nomatch h), fun _ => ⟨TG_5 (i := 90) rfl rfl, rfl⟩, TG_1 (i := 0) rfl rfl, fun _ => TG_5 (i := 89) rfl rfl, (fun h => nomatch h), by decide +kernel, ⟨by decide +kernel, by decide +kernel, by decide +kernel⟩, fun h => absurd h (by decide)⟩
set_option maxRecDepth 20000 in
theorem mOk_L_isDropped : mOkM 268 (mMt 268) := ⟨(fun h => nomatch h), fun _ => ⟨TG_5 (i := 97) rfl rfl, rfl⟩, TG_1 (i := 0) rfl rfl, fun _ => TG_5 (i := 96) rfl rfl, (fun h => nomatch h), by decide +kernel, ⟨by decide +kernel, by decide +kernel, by decide +kernel⟩, fun h => absurd h (by decide)⟩
set_option maxRecDepth 20000 in
theorem mOk_L_twoAt : mOkM 269 (mMt 269) := ⟨(fun h => nomatch h), fun _ => ⟨TG_5 (i := 104) rfl rfl, rfl⟩, TG_1 (i := 0) rfl rfl, fun _ => TG_5 (i := 103) rfl rfl, (fun h => nomatch h), by decide +kernel, ⟨by decide +kernel, by decide +kernel, by decide +kernel⟩, fun h => absurd h (by decide)⟩
set_option maxRecDepth 20000 in
theorem mOk_L_setupAt : mOkM 270 (mMt 270) := ⟨(fun h => nomatch h), fun _ => ⟨TG_5 (i := 119) rfl rfl, rfl⟩, TG_1 (i := 0) rfl rfl, fun _ => TG_5 (i := 118) rfl rfl, (fun h => nomatch h), by decide +kernel, ⟨by decide +kernel, by decide +kernel, by decide +kernel⟩, fun h => absurd h (by decide)⟩
set_option maxRecDepth 20000 in
theorem mOk_L_match : mOkM 271 (mMt 271) := ⟨(fun h => nomatch h), fun _ => ⟨TG_5 (i := 126) rfl rfl, rfl⟩, TG_1 (i := 0) rfl rfl, fun _ => TG_5 (i := 125) rfl rfl, (fun h => nomatch h), by decide +kernel, ⟨by decide +kernel, by decide +kernel, by decide +kernel⟩, fun h => absurd h (by decide)⟩
set_option maxRecDepth 20000 in
theorem mOk_L_workerOf : mOkM 272 (mMt 272) := ⟨(fun h => nomatch h), fun _ => ⟨TG_5 (i := 147) rfl rfl, rfl⟩, TG_1 (i := 0) rfl rfl, fun _ => TG_5 (i := 146) rfl rfl, (fun h => nomatch h), by decide +kernel, ⟨by decide +kernel, by decide +kernel, by decide +kernel⟩, fun h => absurd h (by decide)⟩
set_option maxRecDepth 20000 in
theorem mOk_L_promise : mOkM 273 (mMt 273) := ⟨(fun h => nomatch h), fun _ => ⟨TG_5 (i := 154) rfl rfl, rfl⟩, TG_1 (i := 0) rfl rfl, fun _ => TG_5 (i := 153) rfl rfl, (fun h => nomatch h), by decide +kernel, ⟨by decide +kernel, by decide +kernel, by decide +kernel⟩, fun h => absurd h (by decide)⟩
set_option maxRecDepth 20000 in
theorem mOk_L_worked : mOkM 274 (mMt 274) := ⟨(fun h => nomatch h), fun _ => ⟨TG_5 (i := 176) rfl rfl, rfl⟩, TG_1 (i := 0) rfl rfl, fun _ => TG_5 (i := 175) rfl rfl, (fun h => nomatch h), by decide +kernel, ⟨by decide +kernel, by decide +kernel, by decide +kernel⟩, fun h => absurd h (by decide)⟩
set_option maxRecDepth 20000 in
theorem mOk_L_meanEnd : mOkM 275 (mMt 275) := ⟨(fun h => nomatch h), fun _ => ⟨TG_5 (i := 188) rfl rfl, rfl⟩, TG_1 (i := 0) rfl rfl, fun _ => TG_5 (i := 187) rfl rfl, (fun h => nomatch h), by decide +kernel, ⟨by decide +kernel, by decide +kernel, by decide +kernel⟩, fun h => absurd h (by decide)⟩
set_option maxRecDepth 20000 in
theorem mOk_L_use : mOkM 276 (mMt 276) := ⟨(fun h => nomatch h), fun _ => ⟨TG_5 (i := 195) rfl rfl, rfl⟩, TG_1 (i := 0) rfl rfl, fun _ => TG_5 (i := 194) rfl rfl, (fun h => nomatch h), by decide +kernel, ⟨by decide +kernel, by decide +kernel, by decide +kernel⟩, fun h => absurd h (by decide)⟩
theorem mOk_ok : ∀ y, y < 277 → y ≠ 238 → y ≠ 239 → mOkM y (mMt y) := by
  intro y hy h1 h2
  match y, hy, h1, h2 with
  | 0, _, h1, h2 => exact mOk_X0_init
  | 1, _, h1, h2 => exact mOk_X0_search
  | 2, _, h1, h2 => exact mOk_X0_explore
  | 3, _, h1, h2 => exact mOk_X1_init
  | 4, _, h1, h2 => exact mOk_X1_assign
  | 5, _, h1, h2 => exact mOk_X1_fillable
  | 6, _, h1, h2 => exact mOk_X1_explore
  | 7, _, h1, h2 => exact mOk_X2_init
  | 8, _, h1, h2 => exact mOk_X2_wrongHours
  | 9, _, h1, h2 => exact mOk_X2_markStep
  | 10, _, h1, h2 => exact mOk_X3_init
  | 11, _, h1, h2 => exact mOk_X3_clear
  | 12, _, h1, h2 => exact mOk_X3_insert
  | 13, _, h1, h2 => exact mOk_X4_init
  | 14, _, h1, h2 => exact mOk_X4_hourOf
  | 15, _, h1, h2 => exact mOk_X4_spread
  | 16, _, h1, h2 => exact mOk_X5_init
  | 17, _, h1, h2 => exact mOk_X5_sortByLength
  | 18, _, h1, h2 => exact mOk_X5_sortByDue
  | 19, _, h1, h2 => exact mOk_X5_sumOfEnds
  | 20, _, h1, h2 => exact mOk_X5_greatestLateness
  | 21, _, h1, h2 => exact mOk_X5_droppedJobs
  | 22, _, h1, h2 => exact mOk_X5_longestOf
  | 23, _, h1, h2 => exact mOk_X5_hoursOfStep
  | 24, _, h1, h2 => exact mOk_X5_sortForTwo
  | 25, _, h1, h2 => exact mOk_X5_endOnTwo
  | 26, _, h1, h2 => exact mOk_X5_jobOnTwo
  | 27, _, h1, h2 => exact mOk_X6_init
  | 28, _, h1, h2 => exact mOk_X6_search
  | 29, _, h1, h2 => exact mOk_X6_explore
  | 30, _, h1, h2 => exact mOk_X6_hoursBehind
  | 31, _, h1, h2 => exact mOk_X7_init
  | 32, _, h1, h2 => exact mOk_X7_copyFrom
  | 33, _, h1, h2 => exact mOk_X7_copy
  | 34, _, h1, h2 => exact mOk_X7_takeRow
  | 35, _, h1, h2 => exact mOk_X7_newJob
  | 36, _, h1, h2 => exact mOk_X7_newStep
  | 37, _, h1, h2 => exact mOk_X7_newClosure
  | 38, _, h1, h2 => exact mOk_X7_canBeHalved
  | 39, _, h1, h2 => exact mOk_X7_halve
  | 40, _, h1, h2 => exact mOk_X7_stepTotal
  | 41, _, h1, h2 => exact mOk_X7_hoursFrom
  | 42, _, h1, h2 => exact mOk_X7_hoursOn
  | 43, _, h1, h2 => exact mOk_X7_leastHours
  | 44, _, h1, h2 => exact mOk_X7_isClosedIn
  | 45, _, h1, h2 => exact mOk_X7_firstOpen
  | 46, _, h1, h2 => exact mOk_X8_init
  | 47, _, h1, h2 => exact mOk_X8_clear
  | 48, _, h1, h2 => exact mOk_X8_hasLeft
  | 49, _, h1, h2 => exact mOk_X8_endOfStep
  | 50, _, h1, h2 => exact mOk_X8_nextStep
  | 51, _, h1, h2 => exact mOk_X8_readyHour
  | 52, _, h1, h2 => exact mOk_X8_lastOn
  | 53, _, h1, h2 => exact mOk_X8_needsTool
  | 54, _, h1, h2 => exact mOk_X8_hoursBetween
  | 55, _, h1, h2 => exact mOk_X8_firstHour
  | 56, _, h1, h2 => exact mOk_X8_put
  | 57, _, h1, h2 => exact mOk_X8_takeBack
  | 58, _, h1, h2 => exact mOk_X8_replay
  | 59, _, h1, h2 => exact mOk_X8_putDelayed
  | 60, _, h1, h2 => exact mOk_X8_putRushed
  | 61, _, h1, h2 => exact mOk_X8_putBegunIn
  | 62, _, h1, h2 => exact mOk_X8_putRestByRule
  | 63, _, h1, h2 => exact mOk_X8_firstByRule
  | 64, _, h1, h2 => exact mOk_X8_goesAhead
  | 65, _, h1, h2 => exact mOk_X8_nextOf
  | 66, _, h1, h2 => exact mOk_X8_hoursLeft
  | 67, _, h1, h2 => exact mOk_X8_leastEndOf
  | 68, _, h1, h2 => exact mOk_X8_aimed
  | 69, _, h1, h2 => exact mOk_X8_hoursDone
  | 70, _, h1, h2 => exact mOk_X9_init
  | 71, _, h1, h2 => exact mOk_X9_trace
  | 72, _, h1, h2 => exact mOk_X9_latestStep
  | 73, _, h1, h2 => exact mOk_X9_stepAheadOf
  | 74, _, h1, h2 => exact mOk_X10_init
  | 75, _, h1, h2 => exact mOk_X10_close
  | 76, _, h1, h2 => exact mOk_X10_setTool
  | 77, _, h1, h2 => exact mOk_X10_setSetup
  | 78, _, h1, h2 => exact mOk_X10_addJob
  | 79, _, h1, h2 => exact mOk_X10_addStep
  | 80, _, h1, h2 => exact mOk_X10_cut
  | 81, _, h1, h2 => exact mOk_X10_plan
  | 82, _, h1, h2 => exact mOk_X10_tell
  | 83, _, h1, h2 => exact mOk_X10_best
  | 84, _, h1, h2 => exact mOk_X10_swap
  | 85, _, h1, h2 => exact mOk_X10_replan
  | 86, _, h1, h2 => exact mOk_X10_rush
  | 87, _, h1, h2 => exact mOk_X10_setWorker
  | 88, _, h1, h2 => exact mOk_X10_undo
  | 89, _, h1, h2 => exact mOk_X10_jobs
  | 90, _, h1, h2 => exact mOk_X10_jobAt
  | 91, _, h1, h2 => exact mOk_X10_stepAt
  | 92, _, h1, h2 => exact mOk_X10_begin
  | 93, _, h1, h2 => exact mOk_X10_endOf
  | 94, _, h1, h2 => exact mOk_X10_value
  | 95, _, h1, h2 => exact mOk_X10_bound
  | 96, _, h1, h2 => exact mOk_X10_orderAt
  | 97, _, h1, h2 => exact mOk_X10_doneIn
  | 98, _, h1, h2 => exact mOk_X10_wayLength
  | 99, _, h1, h2 => exact mOk_X10_wayAt
  | 100, _, h1, h2 => exact mOk_X10_blocks
  | 101, _, h1, h2 => exact mOk_X10_longestBlock
  | 102, _, h1, h2 => exact mOk_X10_slack
  | 103, _, h1, h2 => exact mOk_X10_delay
  | 104, _, h1, h2 => exact mOk_X10_leastSum
  | 105, _, h1, h2 => exact mOk_X10_leastLateness
  | 106, _, h1, h2 => exact mOk_X10_fewestLate
  | 107, _, h1, h2 => exact mOk_X10_isDropped
  | 108, _, h1, h2 => exact mOk_X10_leastEnd
  | 109, _, h1, h2 => exact mOk_X10_twoAt
  | 110, _, h1, h2 => exact mOk_X10_leastSetup
  | 111, _, h1, h2 => exact mOk_X10_setupAt
  | 112, _, h1, h2 => exact mOk_X10_match
  | 113, _, h1, h2 => exact mOk_X10_workerOf
  | 114, _, h1, h2 => exact mOk_X10_promise
  | 115, _, h1, h2 => exact mOk_X10_worked
  | 116, _, h1, h2 => exact mOk_X10_meanEnd
  | 117, _, h1, h2 => exact mOk_X10_use
  | 118, _, h1, h2 => exact mOk_X10_errors
  | 119, _, h1, h2 => exact mOk_X10_needMachine
  | 120, _, h1, h2 => exact mOk_X10_needKind
  | 121, _, h1, h2 => exact mOk_X10_needJob
  | 122, _, h1, h2 => exact mOk_X10_needStep
  | 123, _, h1, h2 => exact mOk_X10_needPlaceOfJob
  | 124, _, h1, h2 => exact mOk_X10_needRange
  | 125, _, h1, h2 => exact mOk_X10_needRule
  | 126, _, h1, h2 => exact mOk_X10_needAim
  | 127, _, h1, h2 => exact mOk_X10_needMachines
  | 128, _, h1, h2 => exact mOk_X10_needRoomForJob
  | 129, _, h1, h2 => exact mOk_X10_needPlan
  | 130, _, h1, h2 => exact mOk_X10_told
  | 131, _, h1, h2 => exact mOk_X10_remember
  | 132, _, h1, h2 => exact mOk_X10_dropPlan
  | 133, _, h1, h2 => exact mOk_X10_adoptTrial
  | 134, _, h1, h2 => exact mOk_X10_putDigits
  | 135, _, h1, h2 => exact mOk_X10_putSwapped
  | 136, _, h1, h2 => exact mOk_X11_init
  | 137, _, h1, h2 => exact mOk_X11_thrown
  | 138, _, h1, h2 => exact mOk_X11_in
  | 139, _, h1, h2 => exact mOk_X11_fits
  | 140, _, h1, h2 => exact mOk_X11_laysJob
  | 141, _, h1, h2 => exact mOk_X11_laysStep
  | 142, _, h1, h2 => exact mOk_X11_of
  | 143, _, h1, h2 => exact mOk_X11_machineOf
  | 144, _, h1, h2 => exact mOk_X11_hoursOf
  | 145, _, h1, h2 => exact mOk_X11_left
  | 146, _, h1, h2 => exact mOk_X11_length
  | 147, _, h1, h2 => exact mOk_X11_allSteps
  | 148, _, h1, h2 => exact mOk_X11_isJob
  | 149, _, h1, h2 => exact mOk_X11_isStep
  | 150, _, h1, h2 => exact mOk_X11_hasPlan
  | 151, _, h1, h2 => exact mOk_X11_startsPlan
  | 152, _, h1, h2 => exact mOk_X11_open
  | 153, _, h1, h2 => exact mOk_X11_isChanged
  | 154, _, h1, h2 => exact mOk_X11_between
  | 155, _, h1, h2 => exact mOk_X11_beginOf
  | 156, _, h1, h2 => exact mOk_X11_does
  | 157, _, h1, h2 => exact mOk_X11_worksOut
  | 158, _, h1, h2 => exact mOk_X11_works
  | 159, _, h1, h2 => exact mOk_X11_planEnd
  | 160, _, h1, h2 => exact mOk_X11_valueOf
  | 161, _, h1, h2 => exact mOk_X11_isAhead
  | 162, _, h1, h2 => exact mOk_X11_goesByRule
  | 163, _, h1, h2 => exact mOk_X11_puts
  | 164, _, h1, h2 => exact mOk_X11_clearsOrder
  | 165, _, h1, h2 => exact mOk_X11_takesOrder
  | 166, _, h1, h2 => exact mOk_X11_noPlan
  | 167, _, h1, h2 => exact mOk_X11_keeps
  | 168, _, h1, h2 => exact mOk_X11_close
  | 169, _, h1, h2 => exact mOk_X11_setTool
  | 170, _, h1, h2 => exact mOk_X11_setSetup
  | 171, _, h1, h2 => exact mOk_X11_addJob
  | 172, _, h1, h2 => exact mOk_X11_addStep
  | 173, _, h1, h2 => exact mOk_X11_cut
  | 174, _, h1, h2 => exact mOk_X11_plan
  | 175, _, h1, h2 => exact mOk_X11_tell
  | 176, _, h1, h2 => exact mOk_X11_remembers
  | 177, _, h1, h2 => exact mOk_X11_takesBack
  | 178, _, h1, h2 => exact mOk_X11_nextJob
  | 179, _, h1, h2 => exact mOk_X11_best
  | 180, _, h1, h2 => exact mOk_X11_exchanges
  | 181, _, h1, h2 => exact mOk_X11_swap
  | 182, _, h1, h2 => exact mOk_X11_replan
  | 183, _, h1, h2 => exact mOk_X11_laysRushed
  | 184, _, h1, h2 => exact mOk_X11_rush
  | 185, _, h1, h2 => exact mOk_X11_setWorker
  | 186, _, h1, h2 => exact mOk_X11_undo
  | 187, _, h1, h2 => exact mOk_X11_jobs
  | 188, _, h1, h2 => exact mOk_X11_jobAt
  | 189, _, h1, h2 => exact mOk_X11_stepAt
  | 190, _, h1, h2 => exact mOk_X11_isPlanned
  | 191, _, h1, h2 => exact mOk_X11_begin
  | 192, _, h1, h2 => exact mOk_X11_endOf
  | 193, _, h1, h2 => exact mOk_X11_value
  | 194, _, h1, h2 => exact mOk_X11_bound
  | 195, _, h1, h2 => exact mOk_X11_hoursOn
  | 196, _, h1, h2 => exact mOk_X11_orderAt
  | 197, _, h1, h2 => exact mOk_X11_doneIn
  | 198, _, h1, h2 => exact mOk_X11_isDone
  | 199, _, h1, h2 => exact mOk_X11_stepEnd
  | 200, _, h1, h2 => exact mOk_X11_aheadOf
  | 201, _, h1, h2 => exact mOk_X11_readyAt
  | 202, _, h1, h2 => exact mOk_X11_laysWay
  | 203, _, h1, h2 => exact mOk_X11_wayLength
  | 204, _, h1, h2 => exact mOk_X11_wayAt
  | 205, _, h1, h2 => exact mOk_X11_block
  | 206, _, h1, h2 => exact mOk_X11_blocks
  | 207, _, h1, h2 => exact mOk_X11_longestBlock
  | 208, _, h1, h2 => exact mOk_X11_slack
  | 209, _, h1, h2 => exact mOk_X11_delay
  | 210, _, h1, h2 => exact mOk_X11_part
  | 211, _, h1, h2 => exact mOk_X11_goesFirst
  | 212, _, h1, h2 => exact mOk_X11_laysRow
  | 213, _, h1, h2 => exact mOk_X11_leastSum
  | 214, _, h1, h2 => exact mOk_X11_leastLateness
  | 215, _, h1, h2 => exact mOk_X11_dropped
  | 216, _, h1, h2 => exact mOk_X11_fewestLate
  | 217, _, h1, h2 => exact mOk_X11_isDropped
  | 218, _, h1, h2 => exact mOk_X11_leastEnd
  | 219, _, h1, h2 => exact mOk_X11_twoAt
  | 220, _, h1, h2 => exact mOk_X11_nextRow
  | 221, _, h1, h2 => exact mOk_X11_turns
  | 222, _, h1, h2 => exact mOk_X11_setup
  | 223, _, h1, h2 => exact mOk_X11_leastSetup
  | 224, _, h1, h2 => exact mOk_X11_setupAt
  | 225, _, h1, h2 => exact mOk_X11_matches
  | 226, _, h1, h2 => exact mOk_X11_workerIn
  | 227, _, h1, h2 => exact mOk_X11_match
  | 228, _, h1, h2 => exact mOk_X11_workerOf
  | 229, _, h1, h2 => exact mOk_X11_oddsOf
  | 230, _, h1, h2 => exact mOk_X11_promise
  | 231, _, h1, h2 => exact mOk_X11_worked
  | 232, _, h1, h2 => exact mOk_X11_meanEnd
  | 233, _, h1, h2 => exact mOk_X11_use
  | 234, _, h1, h2 => exact mOk_X11_isClosed
  | 235, _, h1, h2 => exact mOk_X11_isWrong
  | 236, _, h1, h2 => exact mOk_X11_errors
  | 237, _, h1, h2 => exact mOk_J6_bitCount_0f7a4
  | 238, _, h1, h2 => exact absurd rfl h1
  | 239, _, h1, h2 => exact absurd rfl h2
  | 240, _, h1, h2 => exact mOk_J7_fill_d0a16
  | 241, _, h1, h2 => exact mOk_J7_fill_53178
  | 242, _, h1, h2 => exact mOk_L_close
  | 243, _, h1, h2 => exact mOk_L_setTool
  | 244, _, h1, h2 => exact mOk_L_setSetup
  | 245, _, h1, h2 => exact mOk_L_addJob
  | 246, _, h1, h2 => exact mOk_L_addStep
  | 247, _, h1, h2 => exact mOk_L_cut
  | 248, _, h1, h2 => exact mOk_L_plan
  | 249, _, h1, h2 => exact mOk_L_tell
  | 250, _, h1, h2 => exact mOk_L_best
  | 251, _, h1, h2 => exact mOk_L_swap
  | 252, _, h1, h2 => exact mOk_L_replan
  | 253, _, h1, h2 => exact mOk_L_rush
  | 254, _, h1, h2 => exact mOk_L_setWorker
  | 255, _, h1, h2 => exact mOk_L_jobAt
  | 256, _, h1, h2 => exact mOk_L_stepAt
  | 257, _, h1, h2 => exact mOk_L_begin
  | 258, _, h1, h2 => exact mOk_L_endOf
  | 259, _, h1, h2 => exact mOk_L_value
  | 260, _, h1, h2 => exact mOk_L_orderAt
  | 261, _, h1, h2 => exact mOk_L_doneIn
  | 262, _, h1, h2 => exact mOk_L_wayLength
  | 263, _, h1, h2 => exact mOk_L_wayAt
  | 264, _, h1, h2 => exact mOk_L_blocks
  | 265, _, h1, h2 => exact mOk_L_longestBlock
  | 266, _, h1, h2 => exact mOk_L_slack
  | 267, _, h1, h2 => exact mOk_L_delay
  | 268, _, h1, h2 => exact mOk_L_isDropped
  | 269, _, h1, h2 => exact mOk_L_twoAt
  | 270, _, h1, h2 => exact mOk_L_setupAt
  | 271, _, h1, h2 => exact mOk_L_match
  | 272, _, h1, h2 => exact mOk_L_workerOf
  | 273, _, h1, h2 => exact mOk_L_promise
  | 274, _, h1, h2 => exact mOk_L_worked
  | 275, _, h1, h2 => exact mOk_L_meanEnd
  | 276, _, h1, h2 => exact mOk_L_use
  | n + 277, h, _, _ => exact absurd h (by omega)
end
section
/-! ===== what is checked of the program's tables, a method at a time, by the kernel ===== -/
def mLen : Instr → Nat → Bool
  | .bipush _, n => Nat.beq n 2
  | .sipush _, n => Nat.beq n 3
  | .ldc _, n => Nat.beq n 2
  | .ldc_w _, n => Nat.beq n 3
  | .ldc2_w _, n => Nat.beq n 3
  | .iload _, n => Nat.beq n 2
  | .lload _, n => Nat.beq n 2
  | .aload _, n => Nat.beq n 2
  | .fload _, n => Nat.beq n 2
  | .dload _, n => Nat.beq n 2
  | .istore _, n => Nat.beq n 2
  | .lstore _, n => Nat.beq n 2
  | .astore _, n => Nat.beq n 2
  | .fstore _, n => Nat.beq n 2
  | .dstore _, n => Nat.beq n 2
  | .iinc _ _, n => Nat.beq n 3
  | .goto _, n => Nat.beq n 3
  | .if_icmp _ _, n => Nat.beq n 3
  | .ifCond _ _, n => Nat.beq n 3
  | .ifnull _, n => Nat.beq n 3
  | .ifnonnull _, n => Nat.beq n 3
  | .tableswitch _ _ _ _, _ => true
  | .getfield _, n => Nat.beq n 3
  | .putfield _, n => Nat.beq n 3
  | .invokevirtual _, n => Nat.beq n 3
  | .invokestatic _, n => Nat.beq n 3
  | .invokespecial _, n => Nat.beq n 3
  | .new _, n => Nat.beq n 3
  | .anewarray _, n => Nat.beq n 3
  | .newarray _, n => Nat.beq n 2
  | _, n => Nat.beq n 1
def mOff (pc : Nat) (off : Int) : Bool := decide (0 ≤ (pc : Int) + off)
/-- beside the decoding: what an entry's numbers must be; o: the class; ini: a constructor -/
def mSide (o : Nat) (ini : Bool) (nL : Nat) (e : mI) : Bool := match e.2.1 with
  | .bipush n => decide (-128 ≤ n ∧ n < 128)
  | .sipush n => decide (-32768 ≤ n ∧ n < 32768)
  | .ldc i => decide ((i, e.2.2.2.1) ∈ mPoolK o)
  | .ldc_w i => decide ((i, e.2.2.2.1) ∈ mPoolK o)
  | .ldc2_w i => decide ((i, e.2.2.2.1) ∈ mPoolL o)
  | .fconst n => decide (n = 0)
  | .dconst n => decide (n = 0)
  | .iinc i _ => Nat.blt i nL
  | .goto off => mOff e.1 off
  | .if_icmp _ off => mOff e.1 off
  | .ifCond _ off => mOff e.1 off
  | .ifnull off => mOff e.1 off
  | .ifnonnull off => mOff e.1 off
  | .tableswitch d _ _ offs => mOff e.1 d && offs.toList.all (fun off => mOff e.1 off)
  | .getfield i => decide ((i, e.2.2.2.1, e.2.2.2.2.1, e.2.2.2.2.2) ∈ mPoolF o)
  | .putfield i => decide ((i, e.2.2.2.1, e.2.2.2.2.1, e.2.2.2.2.2) ∈ mPoolF o) && (!(Nat.beq e.2.2.2.2.2 2) || (ini && Nat.beq o e.2.2.2.1))
  | .invokevirtual i => decide ((i, e.2.2.2.1, e.2.2.2.2.2) ∈ mPoolM o) && Nat.beq e.2.2.2.2.2 0
  | .invokestatic i => decide ((i, e.2.2.2.1, e.2.2.2.2.2) ∈ mPoolM o) && (Nat.beq e.2.2.2.2.2 1 || Nat.beq e.2.2.2.2.2 5 || Nat.beq e.2.2.2.2.2 6 || Nat.beq e.2.2.2.2.2 7 || Nat.beq e.2.2.2.2.2 8)
  | .invokespecial i => decide ((i, e.2.2.2.1, e.2.2.2.2.2) ∈ mPoolM o) && (Nat.beq e.2.2.2.2.2 2 || Nat.beq e.2.2.2.2.2 3 || Nat.beq e.2.2.2.2.2 4)
  | .new i => Nat.ble 1000 e.2.2.2.1 || decide ((i, e.2.2.2.1) ∈ mPoolC o)
  | .anewarray i => Nat.beq e.2.2.2.1 7 && decide ((i, e.2.2.2.1) ∈ mPoolC o)
  | .aastore => Nat.beq e.2.2.2.1 7
  | _ => true
/-- calls: the callee's kind and its number of values -/
noncomputable def mCalls (e : mI) : Bool := match e.2.1 with
  | .invokevirtual _ => Nat.beq e.2.2.2.2.1 (mMt e.2.2.2.1).2.2.2.1 && !(mMt e.2.2.2.1).2.2.2.2.1 && !((mMt e.2.2.2.1).1.name == "<init>") && (mMt e.2.2.2.1).2.2.2.2.2.isEmpty && Nat.blt 0 e.2.2.2.2.1
  | .invokestatic _ => Nat.ble 5 e.2.2.2.2.2 && Nat.ble e.2.2.2.2.2 7 || (Nat.beq e.2.2.2.2.1 (mMt e.2.2.2.1).2.2.2.1 && (mMt e.2.2.2.1).2.2.2.2.1 && (Nat.beq e.2.2.2.2.2 8 == !(mMt e.2.2.2.1).2.2.2.2.2.isEmpty))
  | .invokespecial _ => Nat.beq e.2.2.2.2.2 4 || (Nat.beq e.2.2.2.2.1 (mMt e.2.2.2.1).2.2.2.1 && !(mMt e.2.2.2.1).2.2.2.2.1 && ((mMt e.2.2.2.1).1.name == "<init>") && (mMt e.2.2.2.1).2.2.2.2.2.isEmpty && Nat.blt 0 e.2.2.2.2.1)
  | _ => true
/-- a throw: new, dup, ldc, invokespecial, athrow -/
def mThr (bytes : ByteArray) (e : mI) : Bool := match e.2.1 with
  | .new ik => !(Nat.ble 1000 e.2.2.2.1) || (match e.2.2.2.2.2 % 2 with
    | 0 => decide ((ik, e.2.2.2.2.1, e.2.2.2.2.2 / 2, 0, e.2.2.2.1 - 1000) ∈ mPoolX) && decide (decode bytes (e.1 + 3) = .ok (.dup, 1)) && decide (decode bytes (e.1 + 4) = .ok (.ldc e.2.2.2.2.1, 2)) && decide (decode bytes (e.1 + 6) = .ok (.invokespecial (e.2.2.2.2.2 / 2), 3)) && decide (decode bytes (e.1 + 9) = .ok (.athrow, 1))
    | _ => decide ((ik, e.2.2.2.2.1, e.2.2.2.2.2 / 2, 1, e.2.2.2.1 - 1000) ∈ mPoolX) && decide (decode bytes (e.1 + 3) = .ok (.dup, 1)) && decide (decode bytes (e.1 + 4) = .ok (.ldc_w e.2.2.2.2.1, 3)) && decide (decode bytes (e.1 + 7) = .ok (.invokespecial (e.2.2.2.2.2 / 2), 3)) && decide (decode bytes (e.1 + 10) = .ok (.athrow, 1)))
  | _ => true
def mDec (bytes : ByteArray) (e : mI) : Bool := decide (decode bytes e.1 = .ok (e.2.1, e.2.2.1)) && mLen e.2.1 e.2.2.1
/-- a method's number of locals, its class, its return type and its table are those of the words -/
noncomputable def mHead (y : Nat) : Bool := match mProg[y]? with
  | none => false
  | some q => (mMt y).1.cls == mOwn (q.2.2.2.1 % 100) && (Nat.beq q.2.2.1 0 == !(decide ((mMt y).2.2.1 = some .boolean))) && Nat.ble q.2.1 12 && ((mMt y).2.2.2.2.1 == Nat.ble 100 q.2.2.2.1) && (q.2.2.2.2.map (fun h => (h.1, h.2.1, h.2.2.1)) == (mMt y).2.2.2.2.2.map (fun h => (h.1, h.2.1, h.2.2.1)))
end
section
/-! ===== the check of each method, by the kernel: printed by wip/whole/gen/gen_chk.py ===== -/
noncomputable def mEnt (bytes : ByteArray) (o : Nat) (ini : Bool) (nL : Nat) (e : mI) : Bool := mDec bytes e && (mSide o ini nL e && (mCalls e && mThr bytes e))
noncomputable def mAll (bytes : ByteArray) (o : Nat) (ini : Bool) (nL : Nat) (cs : List (List mI)) : Bool := cs.all (fun ch => ch.all (fun e => mEnt bytes o ini nL e))
noncomputable def mOne (y : Nat) : Bool := mHead y && (match mProg[y]? with
  | none => false
  | some q => mAll (mMt y).2.1 (q.2.2.2.1 % 100) ((mMt y).1.name == "<init>") q.2.1 q.1)
set_option maxRecDepth 100000 in
theorem mck_0 : mOne 0 = true := by decide +kernel
set_option maxRecDepth 100000 in
theorem mck_1 : mOne 1 = true := by decide +kernel
set_option maxRecDepth 100000 in
theorem mck_2 : mOne 2 = true := by decide +kernel
set_option maxRecDepth 100000 in
theorem mck_3 : mOne 3 = true := by decide +kernel
set_option maxRecDepth 100000 in
theorem mck_4 : mOne 4 = true := by decide +kernel
set_option maxRecDepth 100000 in
theorem mck_5 : mOne 5 = true := by decide +kernel
set_option maxRecDepth 100000 in
theorem mck_6 : mOne 6 = true := by decide +kernel
set_option maxRecDepth 100000 in
theorem mck_7 : mOne 7 = true := by decide +kernel
set_option maxRecDepth 100000 in
theorem mck_8 : mOne 8 = true := by decide +kernel
set_option maxRecDepth 100000 in
theorem mck_9 : mOne 9 = true := by decide +kernel
set_option maxRecDepth 100000 in
theorem mck_10 : mOne 10 = true := by decide +kernel
set_option maxRecDepth 100000 in
theorem mck_11 : mOne 11 = true := by decide +kernel
set_option maxRecDepth 100000 in
theorem mck_12 : mOne 12 = true := by decide +kernel
set_option maxRecDepth 100000 in
theorem mck_13 : mOne 13 = true := by decide +kernel
set_option maxRecDepth 100000 in
theorem mck_14 : mOne 14 = true := by decide +kernel
set_option maxRecDepth 100000 in
theorem mck_15 : mOne 15 = true := by decide +kernel
set_option maxRecDepth 100000 in
theorem mck_16 : mOne 16 = true := by decide +kernel
set_option maxRecDepth 100000 in
theorem mck_17 : mOne 17 = true := by decide +kernel
set_option maxRecDepth 100000 in
theorem mck_18 : mOne 18 = true := by decide +kernel
set_option maxRecDepth 100000 in
theorem mck_19 : mOne 19 = true := by decide +kernel
set_option maxRecDepth 100000 in
theorem mck_20 : mOne 20 = true := by decide +kernel
set_option maxRecDepth 100000 in
theorem mck_21 : mOne 21 = true := by decide +kernel
set_option maxRecDepth 100000 in
theorem mck_22 : mOne 22 = true := by decide +kernel
set_option maxRecDepth 100000 in
theorem mck_23 : mOne 23 = true := by decide +kernel
set_option maxRecDepth 100000 in
theorem mck_24 : mOne 24 = true := by decide +kernel
set_option maxRecDepth 100000 in
theorem mck_25 : mOne 25 = true := by decide +kernel
set_option maxRecDepth 100000 in
theorem mck_26 : mOne 26 = true := by decide +kernel
set_option maxRecDepth 100000 in
theorem mck_27 : mOne 27 = true := by decide +kernel
set_option maxRecDepth 100000 in
theorem mck_28 : mOne 28 = true := by decide +kernel
set_option maxRecDepth 100000 in
theorem mck_29 : mOne 29 = true := by decide +kernel
set_option maxRecDepth 100000 in
theorem mck_30 : mOne 30 = true := by decide +kernel
set_option maxRecDepth 100000 in
theorem mck_31 : mOne 31 = true := by decide +kernel
set_option maxRecDepth 100000 in
theorem mck_32 : mOne 32 = true := by decide +kernel
set_option maxRecDepth 100000 in
theorem mck_33 : mOne 33 = true := by decide +kernel
set_option maxRecDepth 100000 in
theorem mck_34 : mOne 34 = true := by decide +kernel
set_option maxRecDepth 100000 in
theorem mck_35 : mOne 35 = true := by decide +kernel
set_option maxRecDepth 100000 in
theorem mck_36 : mOne 36 = true := by decide +kernel
set_option maxRecDepth 100000 in
theorem mck_37 : mOne 37 = true := by decide +kernel
set_option maxRecDepth 100000 in
theorem mck_38 : mOne 38 = true := by decide +kernel
set_option maxRecDepth 100000 in
theorem mck_39 : mOne 39 = true := by decide +kernel
set_option maxRecDepth 100000 in
theorem mck_40 : mOne 40 = true := by decide +kernel
set_option maxRecDepth 100000 in
theorem mck_41 : mOne 41 = true := by decide +kernel
set_option maxRecDepth 100000 in
theorem mck_42 : mOne 42 = true := by decide +kernel
set_option maxRecDepth 100000 in
theorem mck_43 : mOne 43 = true := by decide +kernel
set_option maxRecDepth 100000 in
theorem mck_44 : mOne 44 = true := by decide +kernel
set_option maxRecDepth 100000 in
theorem mck_45 : mOne 45 = true := by decide +kernel
set_option maxRecDepth 100000 in
theorem mck_46 : mOne 46 = true := by decide +kernel
set_option maxRecDepth 100000 in
theorem mck_47 : mOne 47 = true := by decide +kernel
set_option maxRecDepth 100000 in
theorem mck_48 : mOne 48 = true := by decide +kernel
set_option maxRecDepth 100000 in
theorem mck_49 : mOne 49 = true := by decide +kernel
set_option maxRecDepth 100000 in
theorem mck_50 : mOne 50 = true := by decide +kernel
set_option maxRecDepth 100000 in
theorem mck_51 : mOne 51 = true := by decide +kernel
set_option maxRecDepth 100000 in
theorem mck_52 : mOne 52 = true := by decide +kernel
set_option maxRecDepth 100000 in
theorem mck_53 : mOne 53 = true := by decide +kernel
set_option maxRecDepth 100000 in
theorem mck_54 : mOne 54 = true := by decide +kernel
set_option maxRecDepth 100000 in
theorem mck_55 : mOne 55 = true := by decide +kernel
set_option maxRecDepth 100000 in
theorem mck_56 : mOne 56 = true := by decide +kernel
set_option maxRecDepth 100000 in
theorem mck_57 : mOne 57 = true := by decide +kernel
set_option maxRecDepth 100000 in
theorem mck_58 : mOne 58 = true := by decide +kernel
set_option maxRecDepth 100000 in
theorem mck_59 : mOne 59 = true := by decide +kernel
set_option maxRecDepth 100000 in
theorem mck_60 : mOne 60 = true := by decide +kernel
set_option maxRecDepth 100000 in
theorem mck_61 : mOne 61 = true := by decide +kernel
set_option maxRecDepth 100000 in
theorem mck_62 : mOne 62 = true := by decide +kernel
set_option maxRecDepth 100000 in
theorem mck_63 : mOne 63 = true := by decide +kernel
set_option maxRecDepth 100000 in
theorem mck_64 : mOne 64 = true := by decide +kernel
set_option maxRecDepth 100000 in
theorem mck_65 : mOne 65 = true := by decide +kernel
set_option maxRecDepth 100000 in
theorem mck_66 : mOne 66 = true := by decide +kernel
set_option maxRecDepth 100000 in
theorem mck_67 : mOne 67 = true := by decide +kernel
set_option maxRecDepth 100000 in
theorem mck_68 : mOne 68 = true := by decide +kernel
set_option maxRecDepth 100000 in
theorem mck_69 : mOne 69 = true := by decide +kernel
set_option maxRecDepth 100000 in
theorem mck_70 : mOne 70 = true := by decide +kernel
set_option maxRecDepth 100000 in
theorem mck_71 : mOne 71 = true := by decide +kernel
set_option maxRecDepth 100000 in
theorem mck_72 : mOne 72 = true := by decide +kernel
set_option maxRecDepth 100000 in
theorem mck_73 : mOne 73 = true := by decide +kernel
set_option maxRecDepth 100000 in
theorem mck_74 : mOne 74 = true := by decide +kernel
set_option maxRecDepth 100000 in
theorem mck_75 : mOne 75 = true := by decide +kernel
set_option maxRecDepth 100000 in
theorem mck_76 : mOne 76 = true := by decide +kernel
set_option maxRecDepth 100000 in
theorem mck_77 : mOne 77 = true := by decide +kernel
set_option maxRecDepth 100000 in
theorem mck_78 : mOne 78 = true := by decide +kernel
set_option maxRecDepth 100000 in
theorem mck_79 : mOne 79 = true := by decide +kernel
set_option maxRecDepth 100000 in
theorem mck_80 : mOne 80 = true := by decide +kernel
set_option maxRecDepth 100000 in
theorem mck_81 : mOne 81 = true := by decide +kernel
set_option maxRecDepth 100000 in
theorem mck_82 : mOne 82 = true := by decide +kernel
set_option maxRecDepth 100000 in
theorem mck_83 : mOne 83 = true := by decide +kernel
set_option maxRecDepth 100000 in
theorem mck_84 : mOne 84 = true := by decide +kernel
set_option maxRecDepth 100000 in
theorem mck_85 : mOne 85 = true := by decide +kernel
set_option maxRecDepth 100000 in
theorem mck_86 : mOne 86 = true := by decide +kernel
set_option maxRecDepth 100000 in
theorem mck_87 : mOne 87 = true := by decide +kernel
set_option maxRecDepth 100000 in
theorem mck_88 : mOne 88 = true := by decide +kernel
set_option maxRecDepth 100000 in
theorem mck_89 : mOne 89 = true := by decide +kernel
set_option maxRecDepth 100000 in
theorem mck_90 : mOne 90 = true := by decide +kernel
set_option maxRecDepth 100000 in
theorem mck_91 : mOne 91 = true := by decide +kernel
set_option maxRecDepth 100000 in
theorem mck_92 : mOne 92 = true := by decide +kernel
set_option maxRecDepth 100000 in
theorem mck_93 : mOne 93 = true := by decide +kernel
set_option maxRecDepth 100000 in
theorem mck_94 : mOne 94 = true := by decide +kernel
set_option maxRecDepth 100000 in
theorem mck_95 : mOne 95 = true := by decide +kernel
set_option maxRecDepth 100000 in
theorem mck_96 : mOne 96 = true := by decide +kernel
set_option maxRecDepth 100000 in
theorem mck_97 : mOne 97 = true := by decide +kernel
set_option maxRecDepth 100000 in
theorem mck_98 : mOne 98 = true := by decide +kernel
set_option maxRecDepth 100000 in
theorem mck_99 : mOne 99 = true := by decide +kernel
set_option maxRecDepth 100000 in
theorem mck_100 : mOne 100 = true := by decide +kernel
set_option maxRecDepth 100000 in
theorem mck_101 : mOne 101 = true := by decide +kernel
set_option maxRecDepth 100000 in
theorem mck_102 : mOne 102 = true := by decide +kernel
set_option maxRecDepth 100000 in
theorem mck_103 : mOne 103 = true := by decide +kernel
set_option maxRecDepth 100000 in
theorem mck_104 : mOne 104 = true := by decide +kernel
set_option maxRecDepth 100000 in
theorem mck_105 : mOne 105 = true := by decide +kernel
set_option maxRecDepth 100000 in
theorem mck_106 : mOne 106 = true := by decide +kernel
set_option maxRecDepth 100000 in
theorem mck_107 : mOne 107 = true := by decide +kernel
set_option maxRecDepth 100000 in
theorem mck_108 : mOne 108 = true := by decide +kernel
set_option maxRecDepth 100000 in
theorem mck_109 : mOne 109 = true := by decide +kernel
set_option maxRecDepth 100000 in
theorem mck_110 : mOne 110 = true := by decide +kernel
set_option maxRecDepth 100000 in
theorem mck_111 : mOne 111 = true := by decide +kernel
set_option maxRecDepth 100000 in
theorem mck_112 : mOne 112 = true := by decide +kernel
set_option maxRecDepth 100000 in
theorem mck_113 : mOne 113 = true := by decide +kernel
set_option maxRecDepth 100000 in
theorem mck_114 : mOne 114 = true := by decide +kernel
set_option maxRecDepth 100000 in
theorem mck_115 : mOne 115 = true := by decide +kernel
set_option maxRecDepth 100000 in
theorem mck_116 : mOne 116 = true := by decide +kernel
set_option maxRecDepth 100000 in
theorem mck_117 : mOne 117 = true := by decide +kernel
set_option maxRecDepth 100000 in
theorem mck_118 : mOne 118 = true := by decide +kernel
set_option maxRecDepth 100000 in
theorem mck_119 : mOne 119 = true := by decide +kernel
set_option maxRecDepth 100000 in
theorem mck_120 : mOne 120 = true := by decide +kernel
set_option maxRecDepth 100000 in
theorem mck_121 : mOne 121 = true := by decide +kernel
set_option maxRecDepth 100000 in
theorem mck_122 : mOne 122 = true := by decide +kernel
set_option maxRecDepth 100000 in
theorem mck_123 : mOne 123 = true := by decide +kernel
set_option maxRecDepth 100000 in
theorem mck_124 : mOne 124 = true := by decide +kernel
set_option maxRecDepth 100000 in
theorem mck_125 : mOne 125 = true := by decide +kernel
set_option maxRecDepth 100000 in
theorem mck_126 : mOne 126 = true := by decide +kernel
set_option maxRecDepth 100000 in
theorem mck_127 : mOne 127 = true := by decide +kernel
set_option maxRecDepth 100000 in
theorem mck_128 : mOne 128 = true := by decide +kernel
set_option maxRecDepth 100000 in
theorem mck_129 : mOne 129 = true := by decide +kernel
set_option maxRecDepth 100000 in
theorem mck_130 : mOne 130 = true := by decide +kernel
set_option maxRecDepth 100000 in
theorem mck_131 : mOne 131 = true := by decide +kernel
set_option maxRecDepth 100000 in
theorem mck_132 : mOne 132 = true := by decide +kernel
set_option maxRecDepth 100000 in
theorem mck_133 : mOne 133 = true := by decide +kernel
set_option maxRecDepth 100000 in
theorem mck_134 : mOne 134 = true := by decide +kernel
set_option maxRecDepth 100000 in
theorem mck_135 : mOne 135 = true := by decide +kernel
set_option maxRecDepth 100000 in
theorem mck_136 : mOne 136 = true := by decide +kernel
set_option maxRecDepth 100000 in
theorem mck_137 : mOne 137 = true := by decide +kernel
set_option maxRecDepth 100000 in
theorem mck_138 : mOne 138 = true := by decide +kernel
set_option maxRecDepth 100000 in
theorem mck_139 : mOne 139 = true := by decide +kernel
set_option maxRecDepth 100000 in
theorem mck_140 : mOne 140 = true := by decide +kernel
set_option maxRecDepth 100000 in
theorem mck_141 : mOne 141 = true := by decide +kernel
set_option maxRecDepth 100000 in
theorem mck_142 : mOne 142 = true := by decide +kernel
set_option maxRecDepth 100000 in
theorem mck_143 : mOne 143 = true := by decide +kernel
set_option maxRecDepth 100000 in
theorem mck_144 : mOne 144 = true := by decide +kernel
set_option maxRecDepth 100000 in
theorem mck_145 : mOne 145 = true := by decide +kernel
set_option maxRecDepth 100000 in
theorem mck_146 : mOne 146 = true := by decide +kernel
set_option maxRecDepth 100000 in
theorem mck_147 : mOne 147 = true := by decide +kernel
set_option maxRecDepth 100000 in
theorem mck_148 : mOne 148 = true := by decide +kernel
set_option maxRecDepth 100000 in
theorem mck_149 : mOne 149 = true := by decide +kernel
set_option maxRecDepth 100000 in
theorem mck_150 : mOne 150 = true := by decide +kernel
set_option maxRecDepth 100000 in
theorem mck_151 : mOne 151 = true := by decide +kernel
set_option maxRecDepth 100000 in
theorem mck_152 : mOne 152 = true := by decide +kernel
set_option maxRecDepth 100000 in
theorem mck_153 : mOne 153 = true := by decide +kernel
set_option maxRecDepth 100000 in
theorem mck_154 : mOne 154 = true := by decide +kernel
set_option maxRecDepth 100000 in
theorem mck_155 : mOne 155 = true := by decide +kernel
set_option maxRecDepth 100000 in
theorem mck_156 : mOne 156 = true := by decide +kernel
set_option maxRecDepth 100000 in
theorem mck_157 : mOne 157 = true := by decide +kernel
set_option maxRecDepth 100000 in
theorem mck_158 : mOne 158 = true := by decide +kernel
set_option maxRecDepth 100000 in
theorem mck_159 : mOne 159 = true := by decide +kernel
set_option maxRecDepth 100000 in
theorem mck_160 : mOne 160 = true := by decide +kernel
set_option maxRecDepth 100000 in
theorem mck_161 : mOne 161 = true := by decide +kernel
set_option maxRecDepth 100000 in
theorem mck_162 : mOne 162 = true := by decide +kernel
set_option maxRecDepth 100000 in
theorem mck_163 : mOne 163 = true := by decide +kernel
set_option maxRecDepth 100000 in
theorem mck_164 : mOne 164 = true := by decide +kernel
set_option maxRecDepth 100000 in
theorem mck_165 : mOne 165 = true := by decide +kernel
set_option maxRecDepth 100000 in
theorem mck_166 : mOne 166 = true := by decide +kernel
set_option maxRecDepth 100000 in
theorem mck_167 : mOne 167 = true := by decide +kernel
set_option maxRecDepth 100000 in
theorem mck_168 : mOne 168 = true := by decide +kernel
set_option maxRecDepth 100000 in
theorem mck_169 : mOne 169 = true := by decide +kernel
set_option maxRecDepth 100000 in
theorem mck_170 : mOne 170 = true := by decide +kernel
set_option maxRecDepth 100000 in
theorem mck_171 : mOne 171 = true := by decide +kernel
set_option maxRecDepth 100000 in
theorem mck_172 : mOne 172 = true := by decide +kernel
set_option maxRecDepth 100000 in
theorem mck_173 : mOne 173 = true := by decide +kernel
set_option maxRecDepth 100000 in
theorem mck_174 : mOne 174 = true := by decide +kernel
set_option maxRecDepth 100000 in
theorem mck_175 : mOne 175 = true := by decide +kernel
set_option maxRecDepth 100000 in
theorem mck_176 : mOne 176 = true := by decide +kernel
set_option maxRecDepth 100000 in
theorem mck_177 : mOne 177 = true := by decide +kernel
set_option maxRecDepth 100000 in
theorem mck_178 : mOne 178 = true := by decide +kernel
set_option maxRecDepth 100000 in
theorem mck_179 : mOne 179 = true := by decide +kernel
set_option maxRecDepth 100000 in
theorem mck_180 : mOne 180 = true := by decide +kernel
set_option maxRecDepth 100000 in
theorem mck_181 : mOne 181 = true := by decide +kernel
set_option maxRecDepth 100000 in
theorem mck_182 : mOne 182 = true := by decide +kernel
set_option maxRecDepth 100000 in
theorem mck_183 : mOne 183 = true := by decide +kernel
set_option maxRecDepth 100000 in
theorem mck_184 : mOne 184 = true := by decide +kernel
set_option maxRecDepth 100000 in
theorem mck_185 : mOne 185 = true := by decide +kernel
set_option maxRecDepth 100000 in
theorem mck_186 : mOne 186 = true := by decide +kernel
set_option maxRecDepth 100000 in
theorem mck_187 : mOne 187 = true := by decide +kernel
set_option maxRecDepth 100000 in
theorem mck_188 : mOne 188 = true := by decide +kernel
set_option maxRecDepth 100000 in
theorem mck_189 : mOne 189 = true := by decide +kernel
set_option maxRecDepth 100000 in
theorem mck_190 : mOne 190 = true := by decide +kernel
set_option maxRecDepth 100000 in
theorem mck_191 : mOne 191 = true := by decide +kernel
set_option maxRecDepth 100000 in
theorem mck_192 : mOne 192 = true := by decide +kernel
set_option maxRecDepth 100000 in
theorem mck_193 : mOne 193 = true := by decide +kernel
set_option maxRecDepth 100000 in
theorem mck_194 : mOne 194 = true := by decide +kernel
set_option maxRecDepth 100000 in
theorem mck_195 : mOne 195 = true := by decide +kernel
set_option maxRecDepth 100000 in
theorem mck_196 : mOne 196 = true := by decide +kernel
set_option maxRecDepth 100000 in
theorem mck_197 : mOne 197 = true := by decide +kernel
set_option maxRecDepth 100000 in
theorem mck_198 : mOne 198 = true := by decide +kernel
set_option maxRecDepth 100000 in
theorem mck_199 : mOne 199 = true := by decide +kernel
set_option maxRecDepth 100000 in
theorem mck_200 : mOne 200 = true := by decide +kernel
set_option maxRecDepth 100000 in
theorem mck_201 : mOne 201 = true := by decide +kernel
set_option maxRecDepth 100000 in
theorem mck_202 : mOne 202 = true := by decide +kernel
set_option maxRecDepth 100000 in
theorem mck_203 : mOne 203 = true := by decide +kernel
set_option maxRecDepth 100000 in
theorem mck_204 : mOne 204 = true := by decide +kernel
set_option maxRecDepth 100000 in
theorem mck_205 : mOne 205 = true := by decide +kernel
set_option maxRecDepth 100000 in
theorem mck_206 : mOne 206 = true := by decide +kernel
set_option maxRecDepth 100000 in
theorem mck_207 : mOne 207 = true := by decide +kernel
set_option maxRecDepth 100000 in
theorem mck_208 : mOne 208 = true := by decide +kernel
set_option maxRecDepth 100000 in
theorem mck_209 : mOne 209 = true := by decide +kernel
set_option maxRecDepth 100000 in
theorem mck_210 : mOne 210 = true := by decide +kernel
set_option maxRecDepth 100000 in
theorem mck_211 : mOne 211 = true := by decide +kernel
set_option maxRecDepth 100000 in
theorem mck_212 : mOne 212 = true := by decide +kernel
set_option maxRecDepth 100000 in
theorem mck_213 : mOne 213 = true := by decide +kernel
set_option maxRecDepth 100000 in
theorem mck_214 : mOne 214 = true := by decide +kernel
set_option maxRecDepth 100000 in
theorem mck_215 : mOne 215 = true := by decide +kernel
set_option maxRecDepth 100000 in
theorem mck_216 : mOne 216 = true := by decide +kernel
set_option maxRecDepth 100000 in
theorem mck_217 : mOne 217 = true := by decide +kernel
set_option maxRecDepth 100000 in
theorem mck_218 : mOne 218 = true := by decide +kernel
set_option maxRecDepth 100000 in
theorem mck_219 : mOne 219 = true := by decide +kernel
set_option maxRecDepth 100000 in
theorem mck_220 : mOne 220 = true := by decide +kernel
set_option maxRecDepth 100000 in
theorem mck_221 : mOne 221 = true := by decide +kernel
set_option maxRecDepth 100000 in
theorem mck_222 : mOne 222 = true := by decide +kernel
set_option maxRecDepth 100000 in
theorem mck_223 : mOne 223 = true := by decide +kernel
set_option maxRecDepth 100000 in
theorem mck_224 : mOne 224 = true := by decide +kernel
set_option maxRecDepth 100000 in
theorem mck_225 : mOne 225 = true := by decide +kernel
set_option maxRecDepth 100000 in
theorem mck_226 : mOne 226 = true := by decide +kernel
set_option maxRecDepth 100000 in
theorem mck_227 : mOne 227 = true := by decide +kernel
set_option maxRecDepth 100000 in
theorem mck_228 : mOne 228 = true := by decide +kernel
set_option maxRecDepth 100000 in
theorem mck_229 : mOne 229 = true := by decide +kernel
set_option maxRecDepth 100000 in
theorem mck_230 : mOne 230 = true := by decide +kernel
set_option maxRecDepth 100000 in
theorem mck_231 : mOne 231 = true := by decide +kernel
set_option maxRecDepth 100000 in
theorem mck_232 : mOne 232 = true := by decide +kernel
set_option maxRecDepth 100000 in
theorem mck_233 : mOne 233 = true := by decide +kernel
set_option maxRecDepth 100000 in
theorem mck_234 : mOne 234 = true := by decide +kernel
set_option maxRecDepth 100000 in
theorem mck_235 : mOne 235 = true := by decide +kernel
set_option maxRecDepth 100000 in
theorem mck_236 : mOne 236 = true := by decide +kernel
set_option maxRecDepth 100000 in
theorem mck_237 : mOne 237 = true := by decide +kernel
set_option maxRecDepth 100000 in
theorem mck_240 : mOne 240 = true := by decide +kernel
set_option maxRecDepth 100000 in
theorem mck_241 : mOne 241 = true := by decide +kernel
set_option maxRecDepth 100000 in
theorem mck_242 : mOne 242 = true := by decide +kernel
set_option maxRecDepth 100000 in
theorem mck_243 : mOne 243 = true := by decide +kernel
set_option maxRecDepth 100000 in
theorem mck_244 : mOne 244 = true := by decide +kernel
set_option maxRecDepth 100000 in
theorem mck_245 : mOne 245 = true := by decide +kernel
set_option maxRecDepth 100000 in
theorem mck_246 : mOne 246 = true := by decide +kernel
set_option maxRecDepth 100000 in
theorem mck_247 : mOne 247 = true := by decide +kernel
set_option maxRecDepth 100000 in
theorem mck_248 : mOne 248 = true := by decide +kernel
set_option maxRecDepth 100000 in
theorem mck_249 : mOne 249 = true := by decide +kernel
set_option maxRecDepth 100000 in
theorem mck_250 : mOne 250 = true := by decide +kernel
set_option maxRecDepth 100000 in
theorem mck_251 : mOne 251 = true := by decide +kernel
set_option maxRecDepth 100000 in
theorem mck_252 : mOne 252 = true := by decide +kernel
set_option maxRecDepth 100000 in
theorem mck_253 : mOne 253 = true := by decide +kernel
set_option maxRecDepth 100000 in
theorem mck_254 : mOne 254 = true := by decide +kernel
set_option maxRecDepth 100000 in
theorem mck_255 : mOne 255 = true := by decide +kernel
set_option maxRecDepth 100000 in
theorem mck_256 : mOne 256 = true := by decide +kernel
set_option maxRecDepth 100000 in
theorem mck_257 : mOne 257 = true := by decide +kernel
set_option maxRecDepth 100000 in
theorem mck_258 : mOne 258 = true := by decide +kernel
set_option maxRecDepth 100000 in
theorem mck_259 : mOne 259 = true := by decide +kernel
set_option maxRecDepth 100000 in
theorem mck_260 : mOne 260 = true := by decide +kernel
set_option maxRecDepth 100000 in
theorem mck_261 : mOne 261 = true := by decide +kernel
set_option maxRecDepth 100000 in
theorem mck_262 : mOne 262 = true := by decide +kernel
set_option maxRecDepth 100000 in
theorem mck_263 : mOne 263 = true := by decide +kernel
set_option maxRecDepth 100000 in
theorem mck_264 : mOne 264 = true := by decide +kernel
set_option maxRecDepth 100000 in
theorem mck_265 : mOne 265 = true := by decide +kernel
set_option maxRecDepth 100000 in
theorem mck_266 : mOne 266 = true := by decide +kernel
set_option maxRecDepth 100000 in
theorem mck_267 : mOne 267 = true := by decide +kernel
set_option maxRecDepth 100000 in
theorem mck_268 : mOne 268 = true := by decide +kernel
set_option maxRecDepth 100000 in
theorem mck_269 : mOne 269 = true := by decide +kernel
set_option maxRecDepth 100000 in
theorem mck_270 : mOne 270 = true := by decide +kernel
set_option maxRecDepth 100000 in
theorem mck_271 : mOne 271 = true := by decide +kernel
set_option maxRecDepth 100000 in
theorem mck_272 : mOne 272 = true := by decide +kernel
set_option maxRecDepth 100000 in
theorem mck_273 : mOne 273 = true := by decide +kernel
set_option maxRecDepth 100000 in
theorem mck_274 : mOne 274 = true := by decide +kernel
set_option maxRecDepth 100000 in
theorem mck_275 : mOne 275 = true := by decide +kernel
set_option maxRecDepth 100000 in
theorem mck_276 : mOne 276 = true := by decide +kernel
end
section
/-! ===== the check of the law's body, and of all: printed by wip/whole/gen/gen_chk.py ===== -/
set_option maxRecDepth 100000 in
theorem mckL_0 : (mc_L_law.getD 0 []).all (fun e => mEnt code 12 false 9 e) = true := by decide +kernel
set_option maxRecDepth 100000 in
theorem mckL_1 : (mc_L_law.getD 1 []).all (fun e => mEnt code 12 false 9 e) = true := by decide +kernel
set_option maxRecDepth 100000 in
theorem mckL_2 : (mc_L_law.getD 2 []).all (fun e => mEnt code 12 false 9 e) = true := by decide +kernel
set_option maxRecDepth 100000 in
theorem mckL_3 : (mc_L_law.getD 3 []).all (fun e => mEnt code 12 false 9 e) = true := by decide +kernel
set_option maxRecDepth 100000 in
theorem mckL_4 : (mc_L_law.getD 4 []).all (fun e => mEnt code 12 false 9 e) = true := by decide +kernel
set_option maxRecDepth 100000 in
theorem mckL_5 : (mc_L_law.getD 5 []).all (fun e => mEnt code 12 false 9 e) = true := by decide +kernel
set_option maxRecDepth 100000 in
theorem mckL_6 : (mc_L_law.getD 6 []).all (fun e => mEnt code 12 false 9 e) = true := by decide +kernel
set_option maxRecDepth 100000 in
theorem mckL_7 : (mc_L_law.getD 7 []).all (fun e => mEnt code 12 false 9 e) = true := by decide +kernel
set_option maxRecDepth 100000 in
theorem mckL_8 : (mc_L_law.getD 8 []).all (fun e => mEnt code 12 false 9 e) = true := by decide +kernel
set_option maxRecDepth 100000 in
theorem mckL_9 : (mc_L_law.getD 9 []).all (fun e => mEnt code 12 false 9 e) = true := by decide +kernel
set_option maxRecDepth 100000 in
theorem mckL_10 : (mc_L_law.getD 10 []).all (fun e => mEnt code 12 false 9 e) = true := by decide +kernel
set_option maxRecDepth 100000 in
theorem mckL_11 : (mc_L_law.getD 11 []).all (fun e => mEnt code 12 false 9 e) = true := by decide +kernel
set_option maxRecDepth 100000 in
theorem mckL_12 : (mc_L_law.getD 12 []).all (fun e => mEnt code 12 false 9 e) = true := by decide +kernel
set_option maxRecDepth 100000 in
theorem mckL_13 : (mc_L_law.getD 13 []).all (fun e => mEnt code 12 false 9 e) = true := by decide +kernel
set_option maxRecDepth 100000 in
theorem mckL_14 : (mc_L_law.getD 14 []).all (fun e => mEnt code 12 false 9 e) = true := by decide +kernel
set_option maxRecDepth 100000 in
theorem mckL_15 : (mc_L_law.getD 15 []).all (fun e => mEnt code 12 false 9 e) = true := by decide +kernel
set_option maxRecDepth 100000 in
theorem mckL_16 : (mc_L_law.getD 16 []).all (fun e => mEnt code 12 false 9 e) = true := by decide +kernel
set_option maxRecDepth 100000 in
theorem mckL_17 : (mc_L_law.getD 17 []).all (fun e => mEnt code 12 false 9 e) = true := by decide +kernel
set_option maxRecDepth 100000 in
theorem mckL_18 : (mc_L_law.getD 18 []).all (fun e => mEnt code 12 false 9 e) = true := by decide +kernel
set_option maxRecDepth 100000 in
theorem mckL_19 : (mc_L_law.getD 19 []).all (fun e => mEnt code 12 false 9 e) = true := by decide +kernel
set_option maxRecDepth 100000 in
theorem mckL_20 : (mc_L_law.getD 20 []).all (fun e => mEnt code 12 false 9 e) = true := by decide +kernel
set_option maxRecDepth 100000 in
theorem mckL_21 : (mc_L_law.getD 21 []).all (fun e => mEnt code 12 false 9 e) = true := by decide +kernel
set_option maxRecDepth 100000 in
theorem mckL_22 : (mc_L_law.getD 22 []).all (fun e => mEnt code 12 false 9 e) = true := by decide +kernel
set_option maxRecDepth 100000 in
theorem mckL_23 : (mc_L_law.getD 23 []).all (fun e => mEnt code 12 false 9 e) = true := by decide +kernel
set_option maxRecDepth 100000 in
theorem mckL_24 : (mc_L_law.getD 24 []).all (fun e => mEnt code 12 false 9 e) = true := by decide +kernel
set_option maxRecDepth 100000 in
theorem mckL_25 : (mc_L_law.getD 25 []).all (fun e => mEnt code 12 false 9 e) = true := by decide +kernel
set_option maxRecDepth 100000 in
theorem mckL_26 : (mc_L_law.getD 26 []).all (fun e => mEnt code 12 false 9 e) = true := by decide +kernel
set_option maxRecDepth 100000 in
theorem mckL_27 : (mc_L_law.getD 27 []).all (fun e => mEnt code 12 false 9 e) = true := by decide +kernel
set_option maxRecDepth 100000 in
theorem mckL_28 : (mc_L_law.getD 28 []).all (fun e => mEnt code 12 false 9 e) = true := by decide +kernel
set_option maxRecDepth 100000 in
theorem mckL_29 : (mc_L_law.getD 29 []).all (fun e => mEnt code 12 false 9 e) = true := by decide +kernel
set_option maxRecDepth 100000 in
theorem mckL_30 : (mc_L_law.getD 30 []).all (fun e => mEnt code 12 false 9 e) = true := by decide +kernel
set_option maxRecDepth 100000 in
theorem mckL_31 : (mc_L_law.getD 31 []).all (fun e => mEnt code 12 false 9 e) = true := by decide +kernel
set_option maxRecDepth 100000 in
theorem mckL_32 : (mc_L_law.getD 32 []).all (fun e => mEnt code 12 false 9 e) = true := by decide +kernel
set_option maxRecDepth 100000 in
theorem mckL_33 : (mc_L_law.getD 33 []).all (fun e => mEnt code 12 false 9 e) = true := by decide +kernel
set_option maxRecDepth 100000 in
theorem mckL_34 : (mc_L_law.getD 34 []).all (fun e => mEnt code 12 false 9 e) = true := by decide +kernel
set_option maxRecDepth 100000 in
theorem mckL_35 : (mc_L_law.getD 35 []).all (fun e => mEnt code 12 false 9 e) = true := by decide +kernel
set_option maxRecDepth 100000 in
theorem mckL_36 : (mc_L_law.getD 36 []).all (fun e => mEnt code 12 false 9 e) = true := by decide +kernel
set_option maxRecDepth 100000 in
theorem mckL_37 : (mc_L_law.getD 37 []).all (fun e => mEnt code 12 false 9 e) = true := by decide +kernel
set_option maxRecDepth 100000 in
theorem mckL_38 : (mc_L_law.getD 38 []).all (fun e => mEnt code 12 false 9 e) = true := by decide +kernel
set_option maxRecDepth 100000 in
theorem mckL_39 : (mc_L_law.getD 39 []).all (fun e => mEnt code 12 false 9 e) = true := by decide +kernel
set_option maxRecDepth 100000 in
theorem mckL_40 : (mc_L_law.getD 40 []).all (fun e => mEnt code 12 false 9 e) = true := by decide +kernel
set_option maxRecDepth 100000 in
theorem mckL_41 : (mc_L_law.getD 41 []).all (fun e => mEnt code 12 false 9 e) = true := by decide +kernel
theorem mckL_all : mAll code 12 false 9 mc_L_law = true := by
  refine List.all_eq_true.mpr (fun ch h => ?_)
  obtain ⟨i, h1⟩ := List.getElem?_of_mem h
  have hlen : mc_L_law.length = 42 := rfl
  have hi : i < 42 := by rw [← hlen]; exact (List.getElem?_eq_some_iff.mp h1).1
  have e : ch = mc_L_law.getD i [] := by simp [List.getD, h1]
  rw [e]
  clear h h1 e
  match i, hi with
  | 0, _ => exact mckL_0
  | 1, _ => exact mckL_1
  | 2, _ => exact mckL_2
  | 3, _ => exact mckL_3
  | 4, _ => exact mckL_4
  | 5, _ => exact mckL_5
  | 6, _ => exact mckL_6
  | 7, _ => exact mckL_7
  | 8, _ => exact mckL_8
  | 9, _ => exact mckL_9
  | 10, _ => exact mckL_10
  | 11, _ => exact mckL_11
  | 12, _ => exact mckL_12
  | 13, _ => exact mckL_13
  | 14, _ => exact mckL_14
  | 15, _ => exact mckL_15
  | 16, _ => exact mckL_16
  | 17, _ => exact mckL_17
  | 18, _ => exact mckL_18
  | 19, _ => exact mckL_19
  | 20, _ => exact mckL_20
  | 21, _ => exact mckL_21
  | 22, _ => exact mckL_22
  | 23, _ => exact mckL_23
  | 24, _ => exact mckL_24
  | 25, _ => exact mckL_25
  | 26, _ => exact mckL_26
  | 27, _ => exact mckL_27
  | 28, _ => exact mckL_28
  | 29, _ => exact mckL_29
  | 30, _ => exact mckL_30
  | 31, _ => exact mckL_31
  | 32, _ => exact mckL_32
  | 33, _ => exact mckL_33
  | 34, _ => exact mckL_34
  | 35, _ => exact mckL_35
  | 36, _ => exact mckL_36
  | 37, _ => exact mckL_37
  | 38, _ => exact mckL_38
  | 39, _ => exact mckL_39
  | 40, _ => exact mckL_40
  | 41, _ => exact mckL_41
  | k + 42, h => exact absurd h (by omega)
theorem mckL_head : mHead 277 = true := by decide +kernel
set_option maxRecDepth 100000 in
theorem mck_277 : mOne 277 = true := by
  show (mHead 277 && mAll code 12 false 9 mc_L_law) = true
  rw [mckL_head, mckL_all]
  rfl
theorem mck_ok : ∀ y, y < 278 → y ≠ 238 → y ≠ 239 → mOne y = true := by
  intro y hy h1 h2
  match y, hy, h1, h2 with
  | 0, _, h1, h2 => exact mck_0
  | 1, _, h1, h2 => exact mck_1
  | 2, _, h1, h2 => exact mck_2
  | 3, _, h1, h2 => exact mck_3
  | 4, _, h1, h2 => exact mck_4
  | 5, _, h1, h2 => exact mck_5
  | 6, _, h1, h2 => exact mck_6
  | 7, _, h1, h2 => exact mck_7
  | 8, _, h1, h2 => exact mck_8
  | 9, _, h1, h2 => exact mck_9
  | 10, _, h1, h2 => exact mck_10
  | 11, _, h1, h2 => exact mck_11
  | 12, _, h1, h2 => exact mck_12
  | 13, _, h1, h2 => exact mck_13
  | 14, _, h1, h2 => exact mck_14
  | 15, _, h1, h2 => exact mck_15
  | 16, _, h1, h2 => exact mck_16
  | 17, _, h1, h2 => exact mck_17
  | 18, _, h1, h2 => exact mck_18
  | 19, _, h1, h2 => exact mck_19
  | 20, _, h1, h2 => exact mck_20
  | 21, _, h1, h2 => exact mck_21
  | 22, _, h1, h2 => exact mck_22
  | 23, _, h1, h2 => exact mck_23
  | 24, _, h1, h2 => exact mck_24
  | 25, _, h1, h2 => exact mck_25
  | 26, _, h1, h2 => exact mck_26
  | 27, _, h1, h2 => exact mck_27
  | 28, _, h1, h2 => exact mck_28
  | 29, _, h1, h2 => exact mck_29
  | 30, _, h1, h2 => exact mck_30
  | 31, _, h1, h2 => exact mck_31
  | 32, _, h1, h2 => exact mck_32
  | 33, _, h1, h2 => exact mck_33
  | 34, _, h1, h2 => exact mck_34
  | 35, _, h1, h2 => exact mck_35
  | 36, _, h1, h2 => exact mck_36
  | 37, _, h1, h2 => exact mck_37
  | 38, _, h1, h2 => exact mck_38
  | 39, _, h1, h2 => exact mck_39
  | 40, _, h1, h2 => exact mck_40
  | 41, _, h1, h2 => exact mck_41
  | 42, _, h1, h2 => exact mck_42
  | 43, _, h1, h2 => exact mck_43
  | 44, _, h1, h2 => exact mck_44
  | 45, _, h1, h2 => exact mck_45
  | 46, _, h1, h2 => exact mck_46
  | 47, _, h1, h2 => exact mck_47
  | 48, _, h1, h2 => exact mck_48
  | 49, _, h1, h2 => exact mck_49
  | 50, _, h1, h2 => exact mck_50
  | 51, _, h1, h2 => exact mck_51
  | 52, _, h1, h2 => exact mck_52
  | 53, _, h1, h2 => exact mck_53
  | 54, _, h1, h2 => exact mck_54
  | 55, _, h1, h2 => exact mck_55
  | 56, _, h1, h2 => exact mck_56
  | 57, _, h1, h2 => exact mck_57
  | 58, _, h1, h2 => exact mck_58
  | 59, _, h1, h2 => exact mck_59
  | 60, _, h1, h2 => exact mck_60
  | 61, _, h1, h2 => exact mck_61
  | 62, _, h1, h2 => exact mck_62
  | 63, _, h1, h2 => exact mck_63
  | 64, _, h1, h2 => exact mck_64
  | 65, _, h1, h2 => exact mck_65
  | 66, _, h1, h2 => exact mck_66
  | 67, _, h1, h2 => exact mck_67
  | 68, _, h1, h2 => exact mck_68
  | 69, _, h1, h2 => exact mck_69
  | 70, _, h1, h2 => exact mck_70
  | 71, _, h1, h2 => exact mck_71
  | 72, _, h1, h2 => exact mck_72
  | 73, _, h1, h2 => exact mck_73
  | 74, _, h1, h2 => exact mck_74
  | 75, _, h1, h2 => exact mck_75
  | 76, _, h1, h2 => exact mck_76
  | 77, _, h1, h2 => exact mck_77
  | 78, _, h1, h2 => exact mck_78
  | 79, _, h1, h2 => exact mck_79
  | 80, _, h1, h2 => exact mck_80
  | 81, _, h1, h2 => exact mck_81
  | 82, _, h1, h2 => exact mck_82
  | 83, _, h1, h2 => exact mck_83
  | 84, _, h1, h2 => exact mck_84
  | 85, _, h1, h2 => exact mck_85
  | 86, _, h1, h2 => exact mck_86
  | 87, _, h1, h2 => exact mck_87
  | 88, _, h1, h2 => exact mck_88
  | 89, _, h1, h2 => exact mck_89
  | 90, _, h1, h2 => exact mck_90
  | 91, _, h1, h2 => exact mck_91
  | 92, _, h1, h2 => exact mck_92
  | 93, _, h1, h2 => exact mck_93
  | 94, _, h1, h2 => exact mck_94
  | 95, _, h1, h2 => exact mck_95
  | 96, _, h1, h2 => exact mck_96
  | 97, _, h1, h2 => exact mck_97
  | 98, _, h1, h2 => exact mck_98
  | 99, _, h1, h2 => exact mck_99
  | 100, _, h1, h2 => exact mck_100
  | 101, _, h1, h2 => exact mck_101
  | 102, _, h1, h2 => exact mck_102
  | 103, _, h1, h2 => exact mck_103
  | 104, _, h1, h2 => exact mck_104
  | 105, _, h1, h2 => exact mck_105
  | 106, _, h1, h2 => exact mck_106
  | 107, _, h1, h2 => exact mck_107
  | 108, _, h1, h2 => exact mck_108
  | 109, _, h1, h2 => exact mck_109
  | 110, _, h1, h2 => exact mck_110
  | 111, _, h1, h2 => exact mck_111
  | 112, _, h1, h2 => exact mck_112
  | 113, _, h1, h2 => exact mck_113
  | 114, _, h1, h2 => exact mck_114
  | 115, _, h1, h2 => exact mck_115
  | 116, _, h1, h2 => exact mck_116
  | 117, _, h1, h2 => exact mck_117
  | 118, _, h1, h2 => exact mck_118
  | 119, _, h1, h2 => exact mck_119
  | 120, _, h1, h2 => exact mck_120
  | 121, _, h1, h2 => exact mck_121
  | 122, _, h1, h2 => exact mck_122
  | 123, _, h1, h2 => exact mck_123
  | 124, _, h1, h2 => exact mck_124
  | 125, _, h1, h2 => exact mck_125
  | 126, _, h1, h2 => exact mck_126
  | 127, _, h1, h2 => exact mck_127
  | 128, _, h1, h2 => exact mck_128
  | 129, _, h1, h2 => exact mck_129
  | 130, _, h1, h2 => exact mck_130
  | 131, _, h1, h2 => exact mck_131
  | 132, _, h1, h2 => exact mck_132
  | 133, _, h1, h2 => exact mck_133
  | 134, _, h1, h2 => exact mck_134
  | 135, _, h1, h2 => exact mck_135
  | 136, _, h1, h2 => exact mck_136
  | 137, _, h1, h2 => exact mck_137
  | 138, _, h1, h2 => exact mck_138
  | 139, _, h1, h2 => exact mck_139
  | 140, _, h1, h2 => exact mck_140
  | 141, _, h1, h2 => exact mck_141
  | 142, _, h1, h2 => exact mck_142
  | 143, _, h1, h2 => exact mck_143
  | 144, _, h1, h2 => exact mck_144
  | 145, _, h1, h2 => exact mck_145
  | 146, _, h1, h2 => exact mck_146
  | 147, _, h1, h2 => exact mck_147
  | 148, _, h1, h2 => exact mck_148
  | 149, _, h1, h2 => exact mck_149
  | 150, _, h1, h2 => exact mck_150
  | 151, _, h1, h2 => exact mck_151
  | 152, _, h1, h2 => exact mck_152
  | 153, _, h1, h2 => exact mck_153
  | 154, _, h1, h2 => exact mck_154
  | 155, _, h1, h2 => exact mck_155
  | 156, _, h1, h2 => exact mck_156
  | 157, _, h1, h2 => exact mck_157
  | 158, _, h1, h2 => exact mck_158
  | 159, _, h1, h2 => exact mck_159
  | 160, _, h1, h2 => exact mck_160
  | 161, _, h1, h2 => exact mck_161
  | 162, _, h1, h2 => exact mck_162
  | 163, _, h1, h2 => exact mck_163
  | 164, _, h1, h2 => exact mck_164
  | 165, _, h1, h2 => exact mck_165
  | 166, _, h1, h2 => exact mck_166
  | 167, _, h1, h2 => exact mck_167
  | 168, _, h1, h2 => exact mck_168
  | 169, _, h1, h2 => exact mck_169
  | 170, _, h1, h2 => exact mck_170
  | 171, _, h1, h2 => exact mck_171
  | 172, _, h1, h2 => exact mck_172
  | 173, _, h1, h2 => exact mck_173
  | 174, _, h1, h2 => exact mck_174
  | 175, _, h1, h2 => exact mck_175
  | 176, _, h1, h2 => exact mck_176
  | 177, _, h1, h2 => exact mck_177
  | 178, _, h1, h2 => exact mck_178
  | 179, _, h1, h2 => exact mck_179
  | 180, _, h1, h2 => exact mck_180
  | 181, _, h1, h2 => exact mck_181
  | 182, _, h1, h2 => exact mck_182
  | 183, _, h1, h2 => exact mck_183
  | 184, _, h1, h2 => exact mck_184
  | 185, _, h1, h2 => exact mck_185
  | 186, _, h1, h2 => exact mck_186
  | 187, _, h1, h2 => exact mck_187
  | 188, _, h1, h2 => exact mck_188
  | 189, _, h1, h2 => exact mck_189
  | 190, _, h1, h2 => exact mck_190
  | 191, _, h1, h2 => exact mck_191
  | 192, _, h1, h2 => exact mck_192
  | 193, _, h1, h2 => exact mck_193
  | 194, _, h1, h2 => exact mck_194
  | 195, _, h1, h2 => exact mck_195
  | 196, _, h1, h2 => exact mck_196
  | 197, _, h1, h2 => exact mck_197
  | 198, _, h1, h2 => exact mck_198
  | 199, _, h1, h2 => exact mck_199
  | 200, _, h1, h2 => exact mck_200
  | 201, _, h1, h2 => exact mck_201
  | 202, _, h1, h2 => exact mck_202
  | 203, _, h1, h2 => exact mck_203
  | 204, _, h1, h2 => exact mck_204
  | 205, _, h1, h2 => exact mck_205
  | 206, _, h1, h2 => exact mck_206
  | 207, _, h1, h2 => exact mck_207
  | 208, _, h1, h2 => exact mck_208
  | 209, _, h1, h2 => exact mck_209
  | 210, _, h1, h2 => exact mck_210
  | 211, _, h1, h2 => exact mck_211
  | 212, _, h1, h2 => exact mck_212
  | 213, _, h1, h2 => exact mck_213
  | 214, _, h1, h2 => exact mck_214
  | 215, _, h1, h2 => exact mck_215
  | 216, _, h1, h2 => exact mck_216
  | 217, _, h1, h2 => exact mck_217
  | 218, _, h1, h2 => exact mck_218
  | 219, _, h1, h2 => exact mck_219
  | 220, _, h1, h2 => exact mck_220
  | 221, _, h1, h2 => exact mck_221
  | 222, _, h1, h2 => exact mck_222
  | 223, _, h1, h2 => exact mck_223
  | 224, _, h1, h2 => exact mck_224
  | 225, _, h1, h2 => exact mck_225
  | 226, _, h1, h2 => exact mck_226
  | 227, _, h1, h2 => exact mck_227
  | 228, _, h1, h2 => exact mck_228
  | 229, _, h1, h2 => exact mck_229
  | 230, _, h1, h2 => exact mck_230
  | 231, _, h1, h2 => exact mck_231
  | 232, _, h1, h2 => exact mck_232
  | 233, _, h1, h2 => exact mck_233
  | 234, _, h1, h2 => exact mck_234
  | 235, _, h1, h2 => exact mck_235
  | 236, _, h1, h2 => exact mck_236
  | 237, _, h1, h2 => exact mck_237
  | 238, _, h1, h2 => exact absurd rfl h1
  | 239, _, h1, h2 => exact absurd rfl h2
  | 240, _, h1, h2 => exact mck_240
  | 241, _, h1, h2 => exact mck_241
  | 242, _, h1, h2 => exact mck_242
  | 243, _, h1, h2 => exact mck_243
  | 244, _, h1, h2 => exact mck_244
  | 245, _, h1, h2 => exact mck_245
  | 246, _, h1, h2 => exact mck_246
  | 247, _, h1, h2 => exact mck_247
  | 248, _, h1, h2 => exact mck_248
  | 249, _, h1, h2 => exact mck_249
  | 250, _, h1, h2 => exact mck_250
  | 251, _, h1, h2 => exact mck_251
  | 252, _, h1, h2 => exact mck_252
  | 253, _, h1, h2 => exact mck_253
  | 254, _, h1, h2 => exact mck_254
  | 255, _, h1, h2 => exact mck_255
  | 256, _, h1, h2 => exact mck_256
  | 257, _, h1, h2 => exact mck_257
  | 258, _, h1, h2 => exact mck_258
  | 259, _, h1, h2 => exact mck_259
  | 260, _, h1, h2 => exact mck_260
  | 261, _, h1, h2 => exact mck_261
  | 262, _, h1, h2 => exact mck_262
  | 263, _, h1, h2 => exact mck_263
  | 264, _, h1, h2 => exact mck_264
  | 265, _, h1, h2 => exact mck_265
  | 266, _, h1, h2 => exact mck_266
  | 267, _, h1, h2 => exact mck_267
  | 268, _, h1, h2 => exact mck_268
  | 269, _, h1, h2 => exact mck_269
  | 270, _, h1, h2 => exact mck_270
  | 271, _, h1, h2 => exact mck_271
  | 272, _, h1, h2 => exact mck_272
  | 273, _, h1, h2 => exact mck_273
  | 274, _, h1, h2 => exact mck_274
  | 275, _, h1, h2 => exact mck_275
  | 276, _, h1, h2 => exact mck_276
  | 277, _, h1, h2 => exact mck_277
  | n + 278, h, _, _ => exact absurd h (by omega)
end
