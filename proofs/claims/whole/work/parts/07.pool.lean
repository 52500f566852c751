/-! ===== words behind the program's tables: printed by wip/whole/gen/gen_pool.py ===== -/
def TG : List Cond := lw_tbl.filter goodWord
theorem TG_t {x : Cond} (h : x ∈ tables_1) (g : goodWord x = true) : x ∈ TG := List.mem_filter.mpr ⟨List.mem_append_right _ h, g⟩
theorem TG_s {x : Cond} (h : x ∈ k2_sels lw_privs) (g : goodWord x = true) : x ∈ TG := List.mem_filter.mpr ⟨List.mem_append_left _ h, g⟩
theorem TG_good : GoodIn TG TG := fun w hw => ⟨hw, good_of_word (List.mem_filter.mp hw).2⟩
theorem TT_1 {i : Nat} {x : Cond} (h : tables_1_1[i]? = some x) : x ∈ lw_tbl := by
  refine List.mem_append_right _ ?_
  have h := List.mem_of_getElem? h
  unfold tables_1
  exact List.mem_append_left _ h
theorem TG_1 {i : Nat} {x : Cond} (h : tables_1_1[i]? = some x) (g : goodWord x = true) : x ∈ TG := by
  refine TG_t ?_ g
  have h := List.mem_of_getElem? h
  unfold tables_1
  exact List.mem_append_left _ h
theorem TT_2 {i : Nat} {x : Cond} (h : tables_1_2[i]? = some x) : x ∈ lw_tbl := by
  refine List.mem_append_right _ ?_
  have h := List.mem_of_getElem? h
  unfold tables_1
  exact List.mem_append_right _ (List.mem_append_left _ h)
theorem TG_2 {i : Nat} {x : Cond} (h : tables_1_2[i]? = some x) (g : goodWord x = true) : x ∈ TG := by
  refine TG_t ?_ g
  have h := List.mem_of_getElem? h
  unfold tables_1
  exact List.mem_append_right _ (List.mem_append_left _ h)
theorem TT_3 {i : Nat} {x : Cond} (h : tables_1_3[i]? = some x) : x ∈ lw_tbl := by
  refine List.mem_append_right _ ?_
  have h := List.mem_of_getElem? h
  unfold tables_1
  exact List.mem_append_right _ (List.mem_append_right _ (List.mem_append_left _ h))
theorem TG_3 {i : Nat} {x : Cond} (h : tables_1_3[i]? = some x) (g : goodWord x = true) : x ∈ TG := by
  refine TG_t ?_ g
  have h := List.mem_of_getElem? h
  unfold tables_1
  exact List.mem_append_right _ (List.mem_append_right _ (List.mem_append_left _ h))
theorem TT_4 {i : Nat} {x : Cond} (h : tables_1_4[i]? = some x) : x ∈ lw_tbl := by
  refine List.mem_append_right _ ?_
  have h := List.mem_of_getElem? h
  unfold tables_1
  exact List.mem_append_right _ (List.mem_append_right _ (List.mem_append_right _ (List.mem_append_left _ h)))
theorem TG_4 {i : Nat} {x : Cond} (h : tables_1_4[i]? = some x) (g : goodWord x = true) : x ∈ TG := by
  refine TG_t ?_ g
  have h := List.mem_of_getElem? h
  unfold tables_1
  exact List.mem_append_right _ (List.mem_append_right _ (List.mem_append_right _ (List.mem_append_left _ h)))
theorem TT_5 {i : Nat} {x : Cond} (h : tables_1_5[i]? = some x) : x ∈ lw_tbl := by
  refine List.mem_append_right _ ?_
  have h := List.mem_of_getElem? h
  unfold tables_1
  exact List.mem_append_right _ (List.mem_append_right _ (List.mem_append_right _ (List.mem_append_right _ (List.mem_append_left _ h))))
theorem TG_5 {i : Nat} {x : Cond} (h : tables_1_5[i]? = some x) (g : goodWord x = true) : x ∈ TG := by
  refine TG_t ?_ g
  have h := List.mem_of_getElem? h
  unfold tables_1
  exact List.mem_append_right _ (List.mem_append_right _ (List.mem_append_right _ (List.mem_append_right _ (List.mem_append_left _ h))))
theorem TT_6 {i : Nat} {x : Cond} (h : tables_1_6[i]? = some x) : x ∈ lw_tbl := by
  refine List.mem_append_right _ ?_
  have h := List.mem_of_getElem? h
  unfold tables_1
  exact List.mem_append_right _ (List.mem_append_right _ (List.mem_append_right _ (List.mem_append_right _ (List.mem_append_right _ (List.mem_append_left _ h)))))
theorem TG_6 {i : Nat} {x : Cond} (h : tables_1_6[i]? = some x) (g : goodWord x = true) : x ∈ TG := by
  refine TG_t ?_ g
  have h := List.mem_of_getElem? h
  unfold tables_1
  exact List.mem_append_right _ (List.mem_append_right _ (List.mem_append_right _ (List.mem_append_right _ (List.mem_append_right _ (List.mem_append_left _ h)))))
theorem TT_7 {i : Nat} {x : Cond} (h : tables_1_7[i]? = some x) : x ∈ lw_tbl := by
  refine List.mem_append_right _ ?_
  have h := List.mem_of_getElem? h
  unfold tables_1
  exact List.mem_append_right _ (List.mem_append_right _ (List.mem_append_right _ (List.mem_append_right _ (List.mem_append_right _ (List.mem_append_right _ (h))))))
theorem TG_7 {i : Nat} {x : Cond} (h : tables_1_7[i]? = some x) (g : goodWord x = true) : x ∈ TG := by
  refine TG_t ?_ g
  have h := List.mem_of_getElem? h
  unfold tables_1
  exact List.mem_append_right _ (List.mem_append_right _ (List.mem_append_right _ (List.mem_append_right _ (List.mem_append_right _ (List.mem_append_right _ (h))))))
def mOwn : Nat → String := fun o => (["JobWorkshop$BestRow", "JobWorkshop$Crew", "JobWorkshop$HourCheck", "JobWorkshop$KeyedJobs", "JobWorkshop$Odds", "JobWorkshop$Sequences", "JobWorkshop$SetupTour", "JobWorkshop$Shop", "JobWorkshop$Timetable", "JobWorkshop$Way", "JobWorkshop", "JobWorkshopModel", "JobWorkshopLaw", "java/lang/Integer", "java/util/Arrays", "java/lang/Math"] : List String).getD o ""
abbrev mMeta : Type := MethodName × (ByteArray × (Option FieldType × (Nat × (Bool × List (Nat × Nat × Nat × Nat)))))
noncomputable def mMetas : List mMeta := [((⟨"JobWorkshop$BestRow", "<init>", "(LJobWorkshop$Shop;LJobWorkshop$Timetable;)V"⟩ : MethodName), (prog_2_method_1_code, (none, (3, (false, []))))),
  ((⟨"JobWorkshop$BestRow", "search", "(I)V"⟩ : MethodName), (prog_2_method_2_code, (none, (2, (false, []))))),
  ((⟨"JobWorkshop$BestRow", "explore", "(II)V"⟩ : MethodName), (prog_2_method_3_code, (none, (3, (false, []))))),
  ((⟨"JobWorkshop$Crew", "<init>", "(LJobWorkshop$Shop;)V"⟩ : MethodName), (prog_3_method_1_code, (none, (2, (false, []))))),
  ((⟨"JobWorkshop$Crew", "assign", "(I)V"⟩ : MethodName), (prog_3_method_2_code, (none, (2, (false, []))))),
  ((⟨"JobWorkshop$Crew", "fillable", "(I)I"⟩ : MethodName), (prog_3_method_3_code, ((some .int), (2, (false, []))))),
  ((⟨"JobWorkshop$Crew", "explore", "(IIII)V"⟩ : MethodName), (prog_3_method_4_code, (none, (5, (false, []))))),
  ((⟨"JobWorkshop$HourCheck", "<init>", "(LJobWorkshop$Shop;LJobWorkshop$Timetable;)V"⟩ : MethodName), (prog_4_method_1_code, (none, (3, (false, []))))),
  ((⟨"JobWorkshop$HourCheck", "wrongHours", "()I"⟩ : MethodName), (prog_4_method_2_code, ((some .int), (1, (false, []))))),
  ((⟨"JobWorkshop$HourCheck", "markStep", "(II)V"⟩ : MethodName), (prog_4_method_3_code, (none, (3, (false, []))))),
  ((⟨"JobWorkshop$KeyedJobs", "<init>", "()V"⟩ : MethodName), (prog_5_method_1_code, (none, (1, (false, []))))),
  ((⟨"JobWorkshop$KeyedJobs", "clear", "()V"⟩ : MethodName), (prog_5_method_2_code, (none, (1, (false, []))))),
  ((⟨"JobWorkshop$KeyedJobs", "insert", "(II)V"⟩ : MethodName), (prog_5_method_3_code, (none, (3, (false, []))))),
  ((⟨"JobWorkshop$Odds", "<init>", "(LJobWorkshop$Shop;)V"⟩ : MethodName), (prog_6_method_1_code, (none, (2, (false, []))))),
  ((⟨"JobWorkshop$Odds", "hourOf", "(III)I"⟩ : MethodName), (prog_6_method_2_code, ((some .int), (4, (false, []))))),
  ((⟨"JobWorkshop$Odds", "spread", "(III)J"⟩ : MethodName), (prog_6_method_3_code, ((some .long), (4, (false, []))))),
  ((⟨"JobWorkshop$Sequences", "<init>", "(LJobWorkshop$Shop;)V"⟩ : MethodName), (prog_7_method_1_code, (none, (2, (false, []))))),
  ((⟨"JobWorkshop$Sequences", "sortByLength", "()V"⟩ : MethodName), (prog_7_method_2_code, (none, (1, (false, []))))),
  ((⟨"JobWorkshop$Sequences", "sortByDue", "()V"⟩ : MethodName), (prog_7_method_3_code, (none, (1, (false, []))))),
  ((⟨"JobWorkshop$Sequences", "sumOfEnds", "()I"⟩ : MethodName), (prog_7_method_4_code, ((some .int), (1, (false, []))))),
  ((⟨"JobWorkshop$Sequences", "greatestLateness", "()I"⟩ : MethodName), (prog_7_method_5_code, ((some .int), (1, (false, []))))),
  ((⟨"JobWorkshop$Sequences", "droppedJobs", "()I"⟩ : MethodName), (prog_7_method_6_code, ((some .int), (1, (false, []))))),
  ((⟨"JobWorkshop$Sequences", "longestOf", "(I)I"⟩ : MethodName), (prog_7_method_7_code, ((some .int), (2, (false, []))))),
  ((⟨"JobWorkshop$Sequences", "hoursOfStep", "(II)I"⟩ : MethodName), (prog_7_method_8_code, ((some .int), (3, (false, []))))),
  ((⟨"JobWorkshop$Sequences", "sortForTwo", "()V"⟩ : MethodName), (prog_7_method_9_code, (none, (1, (false, []))))),
  ((⟨"JobWorkshop$Sequences", "endOnTwo", "()I"⟩ : MethodName), (prog_7_method_10_code, ((some .int), (1, (false, []))))),
  ((⟨"JobWorkshop$Sequences", "jobOnTwo", "(I)I"⟩ : MethodName), (prog_7_method_11_code, ((some .int), (2, (false, []))))),
  ((⟨"JobWorkshop$SetupTour", "<init>", "(LJobWorkshop$Shop;)V"⟩ : MethodName), (prog_8_method_1_code, (none, (2, (false, []))))),
  ((⟨"JobWorkshop$SetupTour", "search", "()V"⟩ : MethodName), (prog_8_method_2_code, (none, (1, (false, []))))),
  ((⟨"JobWorkshop$SetupTour", "explore", "(III)V"⟩ : MethodName), (prog_8_method_3_code, (none, (4, (false, []))))),
  ((⟨"JobWorkshop$SetupTour", "hoursBehind", "(II)I"⟩ : MethodName), (prog_8_method_4_code, ((some .int), (3, (false, []))))),
  ((⟨"JobWorkshop$Shop", "<init>", "()V"⟩ : MethodName), (prog_9_method_1_code, (none, (1, (false, []))))),
  ((⟨"JobWorkshop$Shop", "copyFrom", "(LJobWorkshop$Shop;)V"⟩ : MethodName), (prog_9_method_2_code, (none, (2, (false, []))))),
  ((⟨"JobWorkshop$Shop", "copy", "([I[I)V"⟩ : MethodName), (prog_9_method_3_code, (none, (2, (true, []))))),
  ((⟨"JobWorkshop$Shop", "takeRow", "([I)V"⟩ : MethodName), (prog_9_method_4_code, (none, (2, (false, []))))),
  ((⟨"JobWorkshop$Shop", "newJob", "(IIII)I"⟩ : MethodName), (prog_9_method_5_code, ((some .int), (5, (false, []))))),
  ((⟨"JobWorkshop$Shop", "newStep", "(III)I"⟩ : MethodName), (prog_9_method_6_code, ((some .int), (4, (false, []))))),
  ((⟨"JobWorkshop$Shop", "newClosure", "(III)V"⟩ : MethodName), (prog_9_method_7_code, (none, (4, (false, []))))),
  ((⟨"JobWorkshop$Shop", "canBeHalved", "(I)Z"⟩ : MethodName), (prog_9_method_8_code, ((some .boolean), (2, (false, []))))),
  ((⟨"JobWorkshop$Shop", "halve", "(I)I"⟩ : MethodName), (prog_9_method_9_code, ((some .int), (2, (false, []))))),
  ((⟨"JobWorkshop$Shop", "stepTotal", "()I"⟩ : MethodName), (prog_9_method_10_code, ((some .int), (1, (false, []))))),
  ((⟨"JobWorkshop$Shop", "hoursFrom", "(II)I"⟩ : MethodName), (prog_9_method_11_code, ((some .int), (3, (false, []))))),
  ((⟨"JobWorkshop$Shop", "hoursOn", "(I)I"⟩ : MethodName), (prog_9_method_12_code, ((some .int), (2, (false, []))))),
  ((⟨"JobWorkshop$Shop", "leastHours", "()I"⟩ : MethodName), (prog_9_method_13_code, ((some .int), (1, (false, []))))),
  ((⟨"JobWorkshop$Shop", "isClosedIn", "(II)Z"⟩ : MethodName), (prog_9_method_14_code, ((some .boolean), (3, (false, []))))),
  ((⟨"JobWorkshop$Shop", "firstOpen", "(III)I"⟩ : MethodName), (prog_9_method_15_code, ((some .int), (4, (false, []))))),
  ((⟨"JobWorkshop$Timetable", "<init>", "(LJobWorkshop$Shop;)V"⟩ : MethodName), (prog_10_method_1_code, (none, (2, (false, []))))),
  ((⟨"JobWorkshop$Timetable", "clear", "()V"⟩ : MethodName), (prog_10_method_2_code, (none, (1, (false, []))))),
  ((⟨"JobWorkshop$Timetable", "hasLeft", "(I)Z"⟩ : MethodName), (prog_10_method_3_code, ((some .boolean), (2, (false, []))))),
  ((⟨"JobWorkshop$Timetable", "endOfStep", "(I)I"⟩ : MethodName), (prog_10_method_4_code, ((some .int), (2, (false, []))))),
  ((⟨"JobWorkshop$Timetable", "nextStep", "(I)I"⟩ : MethodName), (prog_10_method_5_code, ((some .int), (2, (false, []))))),
  ((⟨"JobWorkshop$Timetable", "readyHour", "(I)I"⟩ : MethodName), (prog_10_method_6_code, ((some .int), (2, (false, []))))),
  ((⟨"JobWorkshop$Timetable", "lastOn", "(I)I"⟩ : MethodName), (prog_10_method_7_code, ((some .int), (2, (false, []))))),
  ((⟨"JobWorkshop$Timetable", "needsTool", "(II)Z"⟩ : MethodName), (prog_10_method_8_code, ((some .boolean), (3, (false, []))))),
  ((⟨"JobWorkshop$Timetable", "hoursBetween", "(II)I"⟩ : MethodName), (prog_10_method_9_code, ((some .int), (3, (false, []))))),
  ((⟨"JobWorkshop$Timetable", "firstHour", "(II)I"⟩ : MethodName), (prog_10_method_10_code, ((some .int), (3, (false, []))))),
  ((⟨"JobWorkshop$Timetable", "put", "(II)V"⟩ : MethodName), (prog_10_method_11_code, (none, (3, (false, []))))),
  ((⟨"JobWorkshop$Timetable", "takeBack", "()V"⟩ : MethodName), (prog_10_method_12_code, (none, (1, (false, []))))),
  ((⟨"JobWorkshop$Timetable", "replay", "()V"⟩ : MethodName), (prog_10_method_13_code, (none, (1, (false, []))))),
  ((⟨"JobWorkshop$Timetable", "putDelayed", "(II)V"⟩ : MethodName), (prog_10_method_14_code, (none, (3, (false, []))))),
  ((⟨"JobWorkshop$Timetable", "putRushed", "(I)V"⟩ : MethodName), (prog_10_method_15_code, (none, (2, (false, []))))),
  ((⟨"JobWorkshop$Timetable", "putBegunIn", "(LJobWorkshop$Timetable;I)V"⟩ : MethodName), (prog_10_method_16_code, (none, (3, (false, []))))),
  ((⟨"JobWorkshop$Timetable", "putRestByRule", "(I)V"⟩ : MethodName), (prog_10_method_17_code, (none, (2, (false, []))))),
  ((⟨"JobWorkshop$Timetable", "firstByRule", "(I)I"⟩ : MethodName), (prog_10_method_18_code, ((some .int), (2, (false, []))))),
  ((⟨"JobWorkshop$Timetable", "goesAhead", "(III)Z"⟩ : MethodName), (prog_10_method_19_code, ((some .boolean), (4, (false, []))))),
  ((⟨"JobWorkshop$Timetable", "nextOf", "([I)I"⟩ : MethodName), (prog_10_method_20_code, ((some .int), (2, (false, []))))),
  ((⟨"JobWorkshop$Timetable", "hoursLeft", "(I)I"⟩ : MethodName), (prog_10_method_21_code, ((some .int), (2, (false, []))))),
  ((⟨"JobWorkshop$Timetable", "leastEndOf", "(I)I"⟩ : MethodName), (prog_10_method_22_code, ((some .int), (2, (false, []))))),
  ((⟨"JobWorkshop$Timetable", "aimed", "(I)I"⟩ : MethodName), (prog_10_method_23_code, ((some .int), (2, (false, []))))),
  ((⟨"JobWorkshop$Timetable", "hoursDone", "(II)I"⟩ : MethodName), (prog_10_method_24_code, ((some .int), (3, (false, []))))),
  ((⟨"JobWorkshop$Way", "<init>", "(LJobWorkshop$Shop;LJobWorkshop$Timetable;)V"⟩ : MethodName), (prog_11_method_1_code, (none, (3, (false, []))))),
  ((⟨"JobWorkshop$Way", "trace", "()V"⟩ : MethodName), (prog_11_method_2_code, (none, (1, (false, []))))),
  ((⟨"JobWorkshop$Way", "latestStep", "()I"⟩ : MethodName), (prog_11_method_3_code, ((some .int), (1, (false, []))))),
  ((⟨"JobWorkshop$Way", "stepAheadOf", "(I)I"⟩ : MethodName), (prog_11_method_4_code, ((some .int), (2, (false, []))))),
  ((⟨"JobWorkshop", "<init>", "()V"⟩ : MethodName), (prog_1_method_1_code, (none, (1, (false, []))))),
  ((⟨"JobWorkshop", "close", "(III)I"⟩ : MethodName), (prog_1_method_2_code, ((some .int), (4, (false, []))))),
  ((⟨"JobWorkshop", "setTool", "(III)I"⟩ : MethodName), (prog_1_method_3_code, ((some .int), (4, (false, []))))),
  ((⟨"JobWorkshop", "setSetup", "(III)I"⟩ : MethodName), (prog_1_method_4_code, ((some .int), (4, (false, []))))),
  ((⟨"JobWorkshop", "addJob", "(IIII)I"⟩ : MethodName), (prog_1_method_5_code, ((some .int), (5, (false, []))))),
  ((⟨"JobWorkshop", "addStep", "(III)I"⟩ : MethodName), (prog_1_method_6_code, ((some .int), (4, (false, []))))),
  ((⟨"JobWorkshop", "cut", "(I)I"⟩ : MethodName), (prog_1_method_7_code, ((some .int), (2, (false, []))))),
  ((⟨"JobWorkshop", "plan", "(I)I"⟩ : MethodName), (prog_1_method_8_code, ((some .int), (2, (false, []))))),
  ((⟨"JobWorkshop", "tell", "(J)I"⟩ : MethodName), (prog_1_method_9_code, ((some .int), (2, (false, []))))),
  ((⟨"JobWorkshop", "best", "(I)I"⟩ : MethodName), (prog_1_method_10_code, ((some .int), (2, (false, []))))),
  ((⟨"JobWorkshop", "swap", "(II)I"⟩ : MethodName), (prog_1_method_11_code, ((some .int), (3, (false, []))))),
  ((⟨"JobWorkshop", "replan", "(II)I"⟩ : MethodName), (prog_1_method_12_code, ((some .int), (3, (false, []))))),
  ((⟨"JobWorkshop", "rush", "(I)I"⟩ : MethodName), (prog_1_method_13_code, ((some .int), (2, (false, []))))),
  ((⟨"JobWorkshop", "setWorker", "(II)I"⟩ : MethodName), (prog_1_method_14_code, ((some .int), (3, (false, []))))),
  ((⟨"JobWorkshop", "undo", "()I"⟩ : MethodName), (prog_1_method_15_code, ((some .int), (1, (false, []))))),
  ((⟨"JobWorkshop", "jobs", "()I"⟩ : MethodName), (prog_1_method_16_code, ((some .int), (1, (false, []))))),
  ((⟨"JobWorkshop", "jobAt", "(II)I"⟩ : MethodName), (prog_1_method_17_code, ((some .int), (3, (false, []))))),
  ((⟨"JobWorkshop", "stepAt", "(III)I"⟩ : MethodName), (prog_1_method_18_code, ((some .int), (4, (false, []))))),
  ((⟨"JobWorkshop", "begin", "(II)I"⟩ : MethodName), (prog_1_method_19_code, ((some .int), (3, (false, []))))),
  ((⟨"JobWorkshop", "endOf", "(I)I"⟩ : MethodName), (prog_1_method_20_code, ((some .int), (2, (false, []))))),
  ((⟨"JobWorkshop", "value", "(I)I"⟩ : MethodName), (prog_1_method_21_code, ((some .int), (2, (false, []))))),
  ((⟨"JobWorkshop", "bound", "()I"⟩ : MethodName), (prog_1_method_22_code, ((some .int), (1, (false, []))))),
  ((⟨"JobWorkshop", "orderAt", "(II)I"⟩ : MethodName), (prog_1_method_23_code, ((some .int), (3, (false, []))))),
  ((⟨"JobWorkshop", "doneIn", "(II)I"⟩ : MethodName), (prog_1_method_24_code, ((some .int), (3, (false, []))))),
  ((⟨"JobWorkshop", "wayLength", "()I"⟩ : MethodName), (prog_1_method_25_code, ((some .int), (1, (false, []))))),
  ((⟨"JobWorkshop", "wayAt", "(I)I"⟩ : MethodName), (prog_1_method_26_code, ((some .int), (2, (false, []))))),
  ((⟨"JobWorkshop", "blocks", "()I"⟩ : MethodName), (prog_1_method_27_code, ((some .int), (1, (false, []))))),
  ((⟨"JobWorkshop", "longestBlock", "()I"⟩ : MethodName), (prog_1_method_28_code, ((some .int), (1, (false, []))))),
  ((⟨"JobWorkshop", "slack", "(II)I"⟩ : MethodName), (prog_1_method_29_code, ((some .int), (3, (false, []))))),
  ((⟨"JobWorkshop", "delay", "(II)I"⟩ : MethodName), (prog_1_method_30_code, ((some .int), (3, (false, []))))),
  ((⟨"JobWorkshop", "leastSum", "()I"⟩ : MethodName), (prog_1_method_31_code, ((some .int), (1, (false, []))))),
  ((⟨"JobWorkshop", "leastLateness", "()I"⟩ : MethodName), (prog_1_method_32_code, ((some .int), (1, (false, []))))),
  ((⟨"JobWorkshop", "fewestLate", "()I"⟩ : MethodName), (prog_1_method_33_code, ((some .int), (1, (false, []))))),
  ((⟨"JobWorkshop", "isDropped", "(I)Z"⟩ : MethodName), (prog_1_method_34_code, ((some .boolean), (2, (false, []))))),
  ((⟨"JobWorkshop", "leastEnd", "()I"⟩ : MethodName), (prog_1_method_35_code, ((some .int), (1, (false, []))))),
  ((⟨"JobWorkshop", "twoAt", "(I)I"⟩ : MethodName), (prog_1_method_36_code, ((some .int), (2, (false, []))))),
  ((⟨"JobWorkshop", "leastSetup", "()I"⟩ : MethodName), (prog_1_method_37_code, ((some .int), (1, (false, []))))),
  ((⟨"JobWorkshop", "setupAt", "(I)I"⟩ : MethodName), (prog_1_method_38_code, ((some .int), (2, (false, []))))),
  ((⟨"JobWorkshop", "match", "(I)I"⟩ : MethodName), (prog_1_method_39_code, ((some .int), (2, (false, []))))),
  ((⟨"JobWorkshop", "workerOf", "(II)I"⟩ : MethodName), (prog_1_method_40_code, ((some .int), (3, (false, []))))),
  ((⟨"JobWorkshop", "promise", "(III)I"⟩ : MethodName), (prog_1_method_41_code, ((some .int), (4, (false, []))))),
  ((⟨"JobWorkshop", "worked", "(II)I"⟩ : MethodName), (prog_1_method_42_code, ((some .int), (3, (false, []))))),
  ((⟨"JobWorkshop", "meanEnd", "()D"⟩ : MethodName), (prog_1_method_43_code, ((some .double), (1, (false, []))))),
  ((⟨"JobWorkshop", "use", "(I)F"⟩ : MethodName), (prog_1_method_44_code, ((some .float), (2, (false, []))))),
  ((⟨"JobWorkshop", "errors", "()I"⟩ : MethodName), (prog_1_method_45_code, ((some .int), (1, (false, []))))),
  ((⟨"JobWorkshop", "needMachine", "(I)V"⟩ : MethodName), (prog_1_method_46_code, (none, (1, (true, []))))),
  ((⟨"JobWorkshop", "needKind", "(I)V"⟩ : MethodName), (prog_1_method_47_code, (none, (1, (true, []))))),
  ((⟨"JobWorkshop", "needJob", "(I)V"⟩ : MethodName), (prog_1_method_48_code, (none, (2, (false, []))))),
  ((⟨"JobWorkshop", "needStep", "(II)V"⟩ : MethodName), (prog_1_method_49_code, (none, (3, (false, []))))),
  ((⟨"JobWorkshop", "needPlaceOfJob", "(I)V"⟩ : MethodName), (prog_1_method_50_code, (none, (2, (false, []))))),
  ((⟨"JobWorkshop", "needRange", "(III)V"⟩ : MethodName), (prog_1_method_51_code, (none, (3, (true, []))))),
  ((⟨"JobWorkshop", "needRule", "(I)V"⟩ : MethodName), (prog_1_method_52_code, (none, (1, (true, []))))),
  ((⟨"JobWorkshop", "needAim", "(I)V"⟩ : MethodName), (prog_1_method_53_code, (none, (1, (true, []))))),
  ((⟨"JobWorkshop", "needMachines", "(I)V"⟩ : MethodName), (prog_1_method_54_code, (none, (1, (true, []))))),
  ((⟨"JobWorkshop", "needRoomForJob", "()V"⟩ : MethodName), (prog_1_method_55_code, (none, (1, (false, []))))),
  ((⟨"JobWorkshop", "needPlan", "()V"⟩ : MethodName), (prog_1_method_56_code, (none, (1, (false, []))))),
  ((⟨"JobWorkshop", "told", "(I)I"⟩ : MethodName), (prog_1_method_57_code, ((some .int), (1, (true, []))))),
  ((⟨"JobWorkshop", "remember", "()V"⟩ : MethodName), (prog_1_method_58_code, (none, (1, (false, []))))),
  ((⟨"JobWorkshop", "dropPlan", "()V"⟩ : MethodName), (prog_1_method_59_code, (none, (1, (false, []))))),
  ((⟨"JobWorkshop", "adoptTrial", "()I"⟩ : MethodName), (prog_1_method_60_code, ((some .int), (1, (false, []))))),
  ((⟨"JobWorkshop", "putDigits", "(J)Z"⟩ : MethodName), (prog_1_method_61_code, ((some .boolean), (2, (false, []))))),
  ((⟨"JobWorkshop", "putSwapped", "(II)Z"⟩ : MethodName), (prog_1_method_62_code, ((some .boolean), (3, (false, []))))),
  ((⟨"JobWorkshopModel", "<init>", "()V"⟩ : MethodName), (prog_13_method_1_code, (none, (1, (false, []))))),
  ((⟨"JobWorkshopModel", "thrown", "()I"⟩ : MethodName), (prog_13_method_2_code, ((some .int), (1, (false, []))))),
  ((⟨"JobWorkshopModel", "in", "(III)Z"⟩ : MethodName), (prog_13_method_4_code, ((some .boolean), (3, (true, []))))),
  ((⟨"JobWorkshopModel", "fits", "(ZZZ)Z"⟩ : MethodName), (prog_13_method_5_code, ((some .boolean), (4, (false, []))))),
  ((⟨"JobWorkshopModel", "laysJob", "(III)V"⟩ : MethodName), (prog_13_method_6_code, (none, (4, (false, []))))),
  ((⟨"JobWorkshopModel", "laysStep", "(III)I"⟩ : MethodName), (prog_13_method_7_code, ((some .int), (4, (false, []))))),
  ((⟨"JobWorkshopModel", "of", "(II)I"⟩ : MethodName), (prog_13_method_8_code, ((some .int), (3, (false, []))))),
  ((⟨"JobWorkshopModel", "machineOf", "(II)I"⟩ : MethodName), (prog_13_method_9_code, ((some .int), (3, (false, []))))),
  ((⟨"JobWorkshopModel", "hoursOf", "(II)I"⟩ : MethodName), (prog_13_method_10_code, ((some .int), (3, (false, []))))),
  ((⟨"JobWorkshopModel", "left", "(II)I"⟩ : MethodName), (prog_13_method_11_code, ((some .int), (3, (false, []))))),
  ((⟨"JobWorkshopModel", "length", "(I)I"⟩ : MethodName), (prog_13_method_12_code, ((some .int), (2, (false, []))))),
  ((⟨"JobWorkshopModel", "allSteps", "()I"⟩ : MethodName), (prog_13_method_13_code, ((some .int), (1, (false, []))))),
  ((⟨"JobWorkshopModel", "isJob", "(I)Z"⟩ : MethodName), (prog_13_method_14_code, ((some .boolean), (2, (false, []))))),
  ((⟨"JobWorkshopModel", "isStep", "(II)Z"⟩ : MethodName), (prog_13_method_15_code, ((some .boolean), (3, (false, []))))),
  ((⟨"JobWorkshopModel", "hasPlan", "()Z"⟩ : MethodName), (prog_13_method_16_code, ((some .boolean), (1, (false, []))))),
  ((⟨"JobWorkshopModel", "startsPlan", "()V"⟩ : MethodName), (prog_13_method_17_code, (none, (1, (false, []))))),
  ((⟨"JobWorkshopModel", "open", "(III)I"⟩ : MethodName), (prog_13_method_18_code, ((some .int), (4, (false, []))))),
  ((⟨"JobWorkshopModel", "isChanged", "(II)Z"⟩ : MethodName), (prog_13_method_19_code, ((some .boolean), (3, (false, []))))),
  ((⟨"JobWorkshopModel", "between", "(III)I"⟩ : MethodName), (prog_13_method_20_code, ((some .int), (4, (false, []))))),
  ((⟨"JobWorkshopModel", "beginOf", "(I)I"⟩ : MethodName), (prog_13_method_21_code, ((some .int), (2, (false, []))))),
  ((⟨"JobWorkshopModel", "does", "(II)V"⟩ : MethodName), (prog_13_method_22_code, (none, (3, (false, []))))),
  ((⟨"JobWorkshopModel", "worksOut", "([IIII)Z"⟩ : MethodName), (prog_13_method_23_code, ((some .boolean), (5, (false, []))))),
  ((⟨"JobWorkshopModel", "works", "()Z"⟩ : MethodName), (prog_13_method_24_code, ((some .boolean), (1, (false, []))))),
  ((⟨"JobWorkshopModel", "planEnd", "()I"⟩ : MethodName), (prog_13_method_25_code, ((some .int), (1, (false, []))))),
  ((⟨"JobWorkshopModel", "valueOf", "(I)I"⟩ : MethodName), (prog_13_method_26_code, ((some .int), (2, (false, []))))),
  ((⟨"JobWorkshopModel", "isAhead", "(III)Z"⟩ : MethodName), (prog_13_method_27_code, ((some .boolean), (4, (false, []))))),
  ((⟨"JobWorkshopModel", "goesByRule", "(I)V"⟩ : MethodName), (prog_13_method_28_code, (none, (2, (false, []))))),
  ((⟨"JobWorkshopModel", "puts", "(I)V"⟩ : MethodName), (prog_13_method_29_code, (none, (2, (false, []))))),
  ((⟨"JobWorkshopModel", "clearsOrder", "()V"⟩ : MethodName), (prog_13_method_30_code, (none, (1, (false, []))))),
  ((⟨"JobWorkshopModel", "takesOrder", "()I"⟩ : MethodName), (prog_13_method_31_code, ((some .int), (1, (false, []))))),
  ((⟨"JobWorkshopModel", "noPlan", "()V"⟩ : MethodName), (prog_13_method_32_code, (none, (1, (false, []))))),
  ((⟨"JobWorkshopModel", "keeps", "()V"⟩ : MethodName), (prog_13_method_33_code, (none, (1, (false, []))))),
  ((⟨"JobWorkshopModel", "close", "(III)I"⟩ : MethodName), (prog_13_method_34_code, ((some .int), (4, (false, []))))),
  ((⟨"JobWorkshopModel", "setTool", "(III)I"⟩ : MethodName), (prog_13_method_35_code, ((some .int), (4, (false, []))))),
  ((⟨"JobWorkshopModel", "setSetup", "(III)I"⟩ : MethodName), (prog_13_method_36_code, ((some .int), (4, (false, []))))),
  ((⟨"JobWorkshopModel", "addJob", "(IIII)I"⟩ : MethodName), (prog_13_method_37_code, ((some .int), (5, (false, []))))),
  ((⟨"JobWorkshopModel", "addStep", "(III)I"⟩ : MethodName), (prog_13_method_38_code, ((some .int), (4, (false, []))))),
  ((⟨"JobWorkshopModel", "cut", "(I)I"⟩ : MethodName), (prog_13_method_39_code, ((some .int), (2, (false, []))))),
  ((⟨"JobWorkshopModel", "plan", "(I)I"⟩ : MethodName), (prog_13_method_40_code, ((some .int), (2, (false, []))))),
  ((⟨"JobWorkshopModel", "tell", "(J)I"⟩ : MethodName), (prog_13_method_41_code, ((some .int), (2, (false, []))))),
  ((⟨"JobWorkshopModel", "remembers", "(II)V"⟩ : MethodName), (prog_13_method_42_code, (none, (3, (false, []))))),
  ((⟨"JobWorkshopModel", "takesBack", "(I)V"⟩ : MethodName), (prog_13_method_43_code, (none, (2, (false, []))))),
  ((⟨"JobWorkshopModel", "nextJob", "(I)I"⟩ : MethodName), (prog_13_method_44_code, ((some .int), (2, (false, []))))),
  ((⟨"JobWorkshopModel", "best", "(I)I"⟩ : MethodName), (prog_13_method_45_code, ((some .int), (2, (false, []))))),
  ((⟨"JobWorkshopModel", "exchanges", "(I)V"⟩ : MethodName), (prog_13_method_46_code, (none, (2, (false, []))))),
  ((⟨"JobWorkshopModel", "swap", "(II)I"⟩ : MethodName), (prog_13_method_47_code, ((some .int), (3, (false, []))))),
  ((⟨"JobWorkshopModel", "replan", "(II)I"⟩ : MethodName), (prog_13_method_48_code, ((some .int), (3, (false, []))))),
  ((⟨"JobWorkshopModel", "laysRushed", "(I)V"⟩ : MethodName), (prog_13_method_49_code, (none, (2, (false, []))))),
  ((⟨"JobWorkshopModel", "rush", "(I)I"⟩ : MethodName), (prog_13_method_50_code, ((some .int), (2, (false, []))))),
  ((⟨"JobWorkshopModel", "setWorker", "(II)I"⟩ : MethodName), (prog_13_method_51_code, ((some .int), (3, (false, []))))),
  ((⟨"JobWorkshopModel", "undo", "()I"⟩ : MethodName), (prog_13_method_52_code, ((some .int), (1, (false, []))))),
  ((⟨"JobWorkshopModel", "jobs", "()I"⟩ : MethodName), (prog_13_method_53_code, ((some .int), (1, (false, []))))),
  ((⟨"JobWorkshopModel", "jobAt", "(II)I"⟩ : MethodName), (prog_13_method_54_code, ((some .int), (3, (false, []))))),
  ((⟨"JobWorkshopModel", "stepAt", "(III)I"⟩ : MethodName), (prog_13_method_55_code, ((some .int), (4, (false, []))))),
  ((⟨"JobWorkshopModel", "isPlanned", "()Z"⟩ : MethodName), (prog_13_method_56_code, ((some .boolean), (1, (false, []))))),
  ((⟨"JobWorkshopModel", "begin", "(II)I"⟩ : MethodName), (prog_13_method_57_code, ((some .int), (3, (false, []))))),
  ((⟨"JobWorkshopModel", "endOf", "(I)I"⟩ : MethodName), (prog_13_method_58_code, ((some .int), (2, (false, []))))),
  ((⟨"JobWorkshopModel", "value", "(I)I"⟩ : MethodName), (prog_13_method_59_code, ((some .int), (2, (false, []))))),
  ((⟨"JobWorkshopModel", "bound", "()I"⟩ : MethodName), (prog_13_method_60_code, ((some .int), (1, (false, []))))),
  ((⟨"JobWorkshopModel", "hoursOn", "(I)I"⟩ : MethodName), (prog_13_method_61_code, ((some .int), (2, (false, []))))),
  ((⟨"JobWorkshopModel", "orderAt", "(II)I"⟩ : MethodName), (prog_13_method_62_code, ((some .int), (3, (false, []))))),
  ((⟨"JobWorkshopModel", "doneIn", "(II)I"⟩ : MethodName), (prog_13_method_63_code, ((some .int), (3, (false, []))))),
  ((⟨"JobWorkshopModel", "isDone", "(III)Z"⟩ : MethodName), (prog_13_method_64_code, ((some .boolean), (4, (false, []))))),
  ((⟨"JobWorkshopModel", "stepEnd", "(II)I"⟩ : MethodName), (prog_13_method_65_code, ((some .int), (3, (false, []))))),
  ((⟨"JobWorkshopModel", "aheadOf", "(I)I"⟩ : MethodName), (prog_13_method_66_code, ((some .int), (2, (false, []))))),
  ((⟨"JobWorkshopModel", "readyAt", "(I)I"⟩ : MethodName), (prog_13_method_67_code, ((some .int), (2, (false, []))))),
  ((⟨"JobWorkshopModel", "laysWay", "()V"⟩ : MethodName), (prog_13_method_68_code, (none, (1, (false, []))))),
  ((⟨"JobWorkshopModel", "wayLength", "()I"⟩ : MethodName), (prog_13_method_69_code, ((some .int), (1, (false, []))))),
  ((⟨"JobWorkshopModel", "wayAt", "(I)I"⟩ : MethodName), (prog_13_method_70_code, ((some .int), (2, (false, []))))),
  ((⟨"JobWorkshopModel", "block", "(Z)I"⟩ : MethodName), (prog_13_method_71_code, ((some .int), (2, (false, []))))),
  ((⟨"JobWorkshopModel", "blocks", "()I"⟩ : MethodName), (prog_13_method_72_code, ((some .int), (1, (false, []))))),
  ((⟨"JobWorkshopModel", "longestBlock", "()I"⟩ : MethodName), (prog_13_method_73_code, ((some .int), (1, (false, []))))),
  ((⟨"JobWorkshopModel", "slack", "(II)I"⟩ : MethodName), (prog_13_method_74_code, ((some .int), (3, (false, []))))),
  ((⟨"JobWorkshopModel", "delay", "(II)I"⟩ : MethodName), (prog_13_method_75_code, ((some .int), (3, (false, []))))),
  ((⟨"JobWorkshopModel", "part", "(II)I"⟩ : MethodName), (prog_13_method_76_code, ((some .int), (3, (false, []))))),
  ((⟨"JobWorkshopModel", "goesFirst", "(III)Z"⟩ : MethodName), (prog_13_method_77_code, ((some .boolean), (4, (false, []))))),
  ((⟨"JobWorkshopModel", "laysRow", "(I)V"⟩ : MethodName), (prog_13_method_78_code, (none, (2, (false, []))))),
  ((⟨"JobWorkshopModel", "leastSum", "()I"⟩ : MethodName), (prog_13_method_79_code, ((some .int), (1, (false, []))))),
  ((⟨"JobWorkshopModel", "leastLateness", "()I"⟩ : MethodName), (prog_13_method_80_code, ((some .int), (1, (false, []))))),
  ((⟨"JobWorkshopModel", "dropped", "()I"⟩ : MethodName), (prog_13_method_81_code, ((some .int), (1, (false, []))))),
  ((⟨"JobWorkshopModel", "fewestLate", "()I"⟩ : MethodName), (prog_13_method_82_code, ((some .int), (1, (false, []))))),
  ((⟨"JobWorkshopModel", "isDropped", "(I)Z"⟩ : MethodName), (prog_13_method_83_code, ((some .boolean), (2, (false, []))))),
  ((⟨"JobWorkshopModel", "leastEnd", "()I"⟩ : MethodName), (prog_13_method_84_code, ((some .int), (1, (false, []))))),
  ((⟨"JobWorkshopModel", "twoAt", "(I)I"⟩ : MethodName), (prog_13_method_85_code, ((some .int), (2, (false, []))))),
  ((⟨"JobWorkshopModel", "nextRow", "()Z"⟩ : MethodName), (prog_13_method_86_code, ((some .boolean), (1, (false, []))))),
  ((⟨"JobWorkshopModel", "turns", "(II)V"⟩ : MethodName), (prog_13_method_87_code, (none, (3, (false, []))))),
  ((⟨"JobWorkshopModel", "setup", "()I"⟩ : MethodName), (prog_13_method_88_code, ((some .int), (1, (false, []))))),
  ((⟨"JobWorkshopModel", "leastSetup", "()I"⟩ : MethodName), (prog_13_method_89_code, ((some .int), (1, (false, []))))),
  ((⟨"JobWorkshopModel", "setupAt", "(I)I"⟩ : MethodName), (prog_13_method_90_code, ((some .int), (2, (false, []))))),
  ((⟨"JobWorkshopModel", "matches", "(I)I"⟩ : MethodName), (prog_13_method_91_code, ((some .int), (2, (false, []))))),
  ((⟨"JobWorkshopModel", "workerIn", "(II)I"⟩ : MethodName), (prog_13_method_92_code, ((some .int), (2, (true, []))))),
  ((⟨"JobWorkshopModel", "match", "(I)I"⟩ : MethodName), (prog_13_method_93_code, ((some .int), (2, (false, []))))),
  ((⟨"JobWorkshopModel", "workerOf", "(II)I"⟩ : MethodName), (prog_13_method_94_code, ((some .int), (3, (false, []))))),
  ((⟨"JobWorkshopModel", "oddsOf", "(III)J"⟩ : MethodName), (prog_13_method_95_code, ((some .long), (4, (false, []))))),
  ((⟨"JobWorkshopModel", "promise", "(III)I"⟩ : MethodName), (prog_13_method_96_code, ((some .int), (4, (false, []))))),
  ((⟨"JobWorkshopModel", "worked", "(II)I"⟩ : MethodName), (prog_13_method_97_code, ((some .int), (3, (false, []))))),
  ((⟨"JobWorkshopModel", "meanEnd", "()D"⟩ : MethodName), (prog_13_method_98_code, ((some .double), (1, (false, []))))),
  ((⟨"JobWorkshopModel", "use", "(I)F"⟩ : MethodName), (prog_13_method_99_code, ((some .float), (2, (false, []))))),
  ((⟨"JobWorkshopModel", "isClosed", "(II)Z"⟩ : MethodName), (prog_13_method_100_code, ((some .boolean), (3, (false, []))))),
  ((⟨"JobWorkshopModel", "isWrong", "(I)Z"⟩ : MethodName), (prog_13_method_101_code, ((some .boolean), (2, (false, []))))),
  ((⟨"JobWorkshopModel", "errors", "()I"⟩ : MethodName), (prog_13_method_102_code, ((some .int), (1, (false, []))))),
  ((⟨"java/lang/Integer", "bitCount", "(I)I"⟩ : MethodName), (prog_18_method_49_code, ((some .int), (1, (true, []))))),
  ((⟨"java/lang/Math", "max", "(II)I"⟩ : MethodName), (prog_19_method_65_code, ((some .int), (2, (true, []))))),
  ((⟨"java/lang/Math", "min", "(II)I"⟩ : MethodName), (prog_19_method_69_code, ((some .int), (2, (true, []))))),
  ((⟨"java/util/Arrays", "fill", "([JJ)V"⟩ : MethodName), (prog_24_method_101_code, (none, (2, (true, []))))),
  ((⟨"java/util/Arrays", "fill", "([II)V"⟩ : MethodName), (prog_24_method_103_code, (none, (2, (true, []))))),
  ((⟨"JobWorkshopLaw", "close", "(LJobWorkshop;III[J)I"⟩ : MethodName), (method_3_code, ((some .int), (5, (true, [(0, 12, 15, 13), (0, 12, 19, 15), (0, 12, 23, 17)]))))),
  ((⟨"JobWorkshopLaw", "setTool", "(LJobWorkshop;III[J)I"⟩ : MethodName), (method_4_code, ((some .int), (5, (true, [(0, 12, 15, 13), (0, 12, 19, 15)]))))),
  ((⟨"JobWorkshopLaw", "setSetup", "(LJobWorkshop;III[J)I"⟩ : MethodName), (method_5_code, ((some .int), (5, (true, [(0, 12, 15, 13), (0, 12, 19, 15)]))))),
  ((⟨"JobWorkshopLaw", "addJob", "(LJobWorkshop;IIII[J)I"⟩ : MethodName), (method_6_code, ((some .int), (6, (true, [(0, 14, 17, 13), (0, 14, 21, 15), (0, 14, 25, 17)]))))),
  ((⟨"JobWorkshopLaw", "addStep", "(LJobWorkshop;III[J)I"⟩ : MethodName), (method_7_code, ((some .int), (5, (true, [(0, 12, 15, 13), (0, 12, 19, 15), (0, 12, 23, 17)]))))),
  ((⟨"JobWorkshopLaw", "cut", "(LJobWorkshop;I[J)I"⟩ : MethodName), (method_8_code, ((some .int), (3, (true, [(0, 9, 12, 13), (0, 9, 15, 17)]))))),
  ((⟨"JobWorkshopLaw", "plan", "(LJobWorkshop;I[J)I"⟩ : MethodName), (method_9_code, ((some .int), (3, (true, [(0, 9, 12, 15)]))))),
  ((⟨"JobWorkshopLaw", "tell", "(LJobWorkshop;J[J)I"⟩ : MethodName), (method_10_code, ((some .int), (3, (true, [(0, 9, 12, 15)]))))),
  ((⟨"JobWorkshopLaw", "best", "(LJobWorkshop;I[J)I"⟩ : MethodName), (method_11_code, ((some .int), (3, (true, [(0, 9, 12, 15), (0, 9, 15, 17)]))))),
  ((⟨"JobWorkshopLaw", "swap", "(LJobWorkshop;II[J)I"⟩ : MethodName), (method_12_code, ((some .int), (4, (true, [(0, 10, 13, 13), (0, 10, 17, 17)]))))),
  ((⟨"JobWorkshopLaw", "replan", "(LJobWorkshop;II[J)I"⟩ : MethodName), (method_13_code, ((some .int), (4, (true, [(0, 10, 13, 15), (0, 10, 17, 17)]))))),
  ((⟨"JobWorkshopLaw", "rush", "(LJobWorkshop;I[J)I"⟩ : MethodName), (method_14_code, ((some .int), (3, (true, [(0, 9, 12, 13), (0, 9, 15, 17)]))))),
  ((⟨"JobWorkshopLaw", "setWorker", "(LJobWorkshop;II[J)I"⟩ : MethodName), (method_15_code, ((some .int), (4, (true, [(0, 10, 13, 13), (0, 10, 17, 15)]))))),
  ((⟨"JobWorkshopLaw", "jobAt", "(LJobWorkshop;II[J)I"⟩ : MethodName), (method_16_code, ((some .int), (4, (true, [(0, 10, 13, 13), (0, 10, 17, 15)]))))),
  ((⟨"JobWorkshopLaw", "stepAt", "(LJobWorkshop;III[J)I"⟩ : MethodName), (method_17_code, ((some .int), (5, (true, [(0, 12, 15, 13), (0, 12, 19, 15)]))))),
  ((⟨"JobWorkshopLaw", "begin", "(LJobWorkshop;II[J)I"⟩ : MethodName), (method_18_code, ((some .int), (4, (true, [(0, 10, 13, 13), (0, 10, 17, 17)]))))),
  ((⟨"JobWorkshopLaw", "endOf", "(LJobWorkshop;I[J)I"⟩ : MethodName), (method_19_code, ((some .int), (3, (true, [(0, 9, 12, 13), (0, 9, 15, 17)]))))),
  ((⟨"JobWorkshopLaw", "value", "(LJobWorkshop;I[J)I"⟩ : MethodName), (method_20_code, ((some .int), (3, (true, [(0, 9, 12, 15), (0, 9, 15, 17)]))))),
  ((⟨"JobWorkshopLaw", "orderAt", "(LJobWorkshop;II[J)I"⟩ : MethodName), (method_21_code, ((some .int), (4, (true, [(0, 10, 13, 13)]))))),
  ((⟨"JobWorkshopLaw", "doneIn", "(LJobWorkshop;II[J)I"⟩ : MethodName), (method_22_code, ((some .int), (4, (true, [(0, 10, 13, 13), (0, 10, 17, 15), (0, 10, 21, 17)]))))),
  ((⟨"JobWorkshopLaw", "wayLength", "(LJobWorkshop;[J)I"⟩ : MethodName), (method_23_code, ((some .int), (2, (true, [(0, 8, 11, 17)]))))),
  ((⟨"JobWorkshopLaw", "wayAt", "(LJobWorkshop;I[J)I"⟩ : MethodName), (method_24_code, ((some .int), (3, (true, [(0, 9, 12, 13)]))))),
  ((⟨"JobWorkshopLaw", "blocks", "(LJobWorkshop;[J)I"⟩ : MethodName), (method_25_code, ((some .int), (2, (true, [(0, 8, 11, 17)]))))),
  ((⟨"JobWorkshopLaw", "longestBlock", "(LJobWorkshop;[J)I"⟩ : MethodName), (method_26_code, ((some .int), (2, (true, [(0, 8, 11, 17)]))))),
  ((⟨"JobWorkshopLaw", "slack", "(LJobWorkshop;II[J)I"⟩ : MethodName), (method_27_code, ((some .int), (4, (true, [(0, 10, 13, 13), (0, 10, 17, 17)]))))),
  ((⟨"JobWorkshopLaw", "delay", "(LJobWorkshop;II[J)I"⟩ : MethodName), (method_28_code, ((some .int), (4, (true, [(0, 10, 13, 13), (0, 10, 17, 17)]))))),
  ((⟨"JobWorkshopLaw", "isDropped", "(LJobWorkshop;I[J)I"⟩ : MethodName), (method_29_code, ((some .int), (3, (true, [(0, 16, 19, 13)]))))),
  ((⟨"JobWorkshopLaw", "twoAt", "(LJobWorkshop;I[J)I"⟩ : MethodName), (method_30_code, ((some .int), (3, (true, [(0, 9, 12, 13)]))))),
  ((⟨"JobWorkshopLaw", "setupAt", "(LJobWorkshop;I[J)I"⟩ : MethodName), (method_31_code, ((some .int), (3, (true, [(0, 9, 12, 13)]))))),
  ((⟨"JobWorkshopLaw", "match", "(LJobWorkshop;I[J)I"⟩ : MethodName), (method_32_code, ((some .int), (3, (true, [(0, 9, 12, 15)]))))),
  ((⟨"JobWorkshopLaw", "workerOf", "(LJobWorkshop;II[J)I"⟩ : MethodName), (method_33_code, ((some .int), (4, (true, [(0, 10, 13, 13), (0, 10, 17, 15)]))))),
  ((⟨"JobWorkshopLaw", "promise", "(LJobWorkshop;III[J)I"⟩ : MethodName), (method_34_code, ((some .int), (5, (true, [(0, 12, 15, 13), (0, 12, 19, 15)]))))),
  ((⟨"JobWorkshopLaw", "worked", "(LJobWorkshop;II[J)I"⟩ : MethodName), (method_35_code, ((some .int), (4, (true, [(0, 10, 13, 15), (0, 10, 17, 17)]))))),
  ((⟨"JobWorkshopLaw", "meanEnd", "(LJobWorkshop;[D)I"⟩ : MethodName), (method_36_code, ((some .int), (2, (true, [(0, 7, 10, 17)]))))),
  ((⟨"JobWorkshopLaw", "use", "(LJobWorkshop;I[D)I"⟩ : MethodName), (method_37_code, ((some .int), (3, (true, [(0, 9, 12, 13), (0, 9, 15, 17)]))))),
  ((⟨"JobWorkshopLaw", "law", "([I)Z"⟩ : MethodName), (code, ((some .boolean), (1, (true, [])))))]
noncomputable def mMeth0 : mMeta := (⟨"", "", ""⟩, (⟨#[]⟩, (none, (0, (false, [])))))
noncomputable def mMt (y : Nat) : mMeta := mMetas.getD y mMeth0
noncomputable def mY (y : Nat) : MethodName := (mMt y).1
def mClOk (q : vw_C) : Prop := (∀ w ∈ u_ws q.1 q.2.1 q.2.2, w ∈ TG) ∧ (∃ ty0 : Nat → FieldType, ∀ k, k < q.2.2 → parseFieldDescriptor (q.2.1 k).2.2.1 = some (ty0 k)) ∧ (∀ a, a < q.2.2 → ∀ b, b < q.2.2 → a ≠ b → (q.2.1 a).2.1 ≠ (q.2.1 b).2.1) ∧ (∀ k, k < q.2.2 → (q.2.1 k).1 = q.1)
theorem mCl_0 : mClOk (RX0, TX0, 6) := ⟨List.forall_mem_cons.mpr ⟨TG_1 (i := 194) rfl rfl, List.forall_mem_cons.mpr ⟨TG_1 (i := 196) rfl rfl, List.forall_mem_cons.mpr ⟨TG_1 (i := 198) rfl rfl, List.forall_mem_cons.mpr ⟨TG_1 (i := 200) rfl rfl, List.forall_mem_cons.mpr ⟨TG_1 (i := 202) rfl rfl, List.forall_mem_cons.mpr ⟨TG_1 (i := 204) rfl rfl, List.forall_mem_nil _⟩⟩⟩⟩⟩⟩, ⟨tyX0, tyX0_ok⟩, by decide +kernel, by decide +kernel⟩
theorem mCl_1 : mClOk (RX1, TX1, 4) := ⟨List.forall_mem_cons.mpr ⟨TG_2 (i := 79) rfl rfl, List.forall_mem_cons.mpr ⟨TG_2 (i := 81) rfl rfl, List.forall_mem_cons.mpr ⟨TG_2 (i := 83) rfl rfl, List.forall_mem_cons.mpr ⟨TG_2 (i := 85) rfl rfl, List.forall_mem_nil _⟩⟩⟩⟩, ⟨tyX1, tyX1_ok⟩, by decide +kernel, by decide +kernel⟩
theorem mCl_2 : mClOk (RX2, TX2, 3) := ⟨List.forall_mem_cons.mpr ⟨TG_2 (i := 5) rfl rfl, List.forall_mem_cons.mpr ⟨TG_2 (i := 7) rfl rfl, List.forall_mem_cons.mpr ⟨TG_2 (i := 9) rfl rfl, List.forall_mem_nil _⟩⟩⟩, ⟨tyX2, tyX2_ok⟩, by decide +kernel, by decide +kernel⟩
theorem mCl_3 : mClOk (RX3, TX3, 3) := ⟨List.forall_mem_cons.mpr ⟨TG_2 (i := 29) rfl rfl, List.forall_mem_cons.mpr ⟨TG_2 (i := 31) rfl rfl, List.forall_mem_cons.mpr ⟨TG_2 (i := 33) rfl rfl, List.forall_mem_nil _⟩⟩⟩, ⟨tyX3, tyX3_ok⟩, by decide +kernel, by decide +kernel⟩
theorem mCl_4 : mClOk (RX4, TX4, 2) := ⟨List.forall_mem_cons.mpr ⟨TG_2 (i := 96) rfl rfl, List.forall_mem_cons.mpr ⟨TG_2 (i := 98) rfl rfl, List.forall_mem_nil _⟩⟩, ⟨tyX4, tyX4_ok⟩, by decide +kernel, by decide +kernel⟩
theorem mCl_5 : mClOk (RX5, TX5, 2) := ⟨List.forall_mem_cons.mpr ⟨TG_2 (i := 38) rfl rfl, List.forall_mem_cons.mpr ⟨TG_2 (i := 40) rfl rfl, List.forall_mem_nil _⟩⟩, ⟨tyX5, tyX5_ok⟩, by decide +kernel, by decide +kernel⟩
theorem mCl_6 : mClOk (RX6, TX6, 5) := ⟨List.forall_mem_cons.mpr ⟨TG_2 (i := 56) rfl rfl, List.forall_mem_cons.mpr ⟨TG_2 (i := 58) rfl rfl, List.forall_mem_cons.mpr ⟨TG_2 (i := 60) rfl rfl, List.forall_mem_cons.mpr ⟨TG_2 (i := 62) rfl rfl, List.forall_mem_cons.mpr ⟨TG_2 (i := 64) rfl rfl, List.forall_mem_nil _⟩⟩⟩⟩⟩, ⟨tyX6, tyX6_ok⟩, by decide +kernel, by decide +kernel⟩
theorem mCl_7 : mClOk (RX7, TX7, 17) := ⟨List.forall_mem_cons.mpr ⟨TG_1 (i := 98) rfl rfl, List.forall_mem_cons.mpr ⟨TG_1 (i := 100) rfl rfl, List.forall_mem_cons.mpr ⟨TG_1 (i := 102) rfl rfl, List.forall_mem_cons.mpr ⟨TG_1 (i := 104) rfl rfl, List.forall_mem_cons.mpr ⟨TG_1 (i := 106) rfl rfl, List.forall_mem_cons.mpr ⟨TG_1 (i := 108) rfl rfl, List.forall_mem_cons.mpr ⟨TG_1 (i := 110) rfl rfl, List.forall_mem_cons.mpr ⟨TG_1 (i := 112) rfl rfl, List.forall_mem_cons.mpr ⟨TG_1 (i := 114) rfl rfl, List.forall_mem_cons.mpr ⟨TG_1 (i := 116) rfl rfl, List.forall_mem_cons.mpr ⟨TG_1 (i := 118) rfl rfl, List.forall_mem_cons.mpr ⟨TG_1 (i := 120) rfl rfl, List.forall_mem_cons.mpr ⟨TG_1 (i := 122) rfl rfl, List.forall_mem_cons.mpr ⟨TG_1 (i := 124) rfl rfl, List.forall_mem_cons.mpr ⟨TG_1 (i := 126) rfl rfl, List.forall_mem_cons.mpr ⟨TG_1 (i := 128) rfl rfl, List.forall_mem_cons.mpr ⟨TG_1 (i := 130) rfl rfl, List.forall_mem_nil _⟩⟩⟩⟩⟩⟩⟩⟩⟩⟩⟩⟩⟩⟩⟩⟩⟩, ⟨tyX7, tyX7_ok⟩, by decide +kernel, by decide +kernel⟩
theorem mCl_8 : mClOk (RX8, TX8, 10) := ⟨List.forall_mem_cons.mpr ⟨TG_1 (i := 160) rfl rfl, List.forall_mem_cons.mpr ⟨TG_1 (i := 162) rfl rfl, List.forall_mem_cons.mpr ⟨TG_1 (i := 164) rfl rfl, List.forall_mem_cons.mpr ⟨TG_1 (i := 166) rfl rfl, List.forall_mem_cons.mpr ⟨TG_1 (i := 168) rfl rfl, List.forall_mem_cons.mpr ⟨TG_1 (i := 170) rfl rfl, List.forall_mem_cons.mpr ⟨TG_1 (i := 172) rfl rfl, List.forall_mem_cons.mpr ⟨TG_1 (i := 174) rfl rfl, List.forall_mem_cons.mpr ⟨TG_1 (i := 176) rfl rfl, List.forall_mem_cons.mpr ⟨TG_1 (i := 178) rfl rfl, List.forall_mem_nil _⟩⟩⟩⟩⟩⟩⟩⟩⟩⟩, ⟨tyX8, tyX8_ok⟩, by decide +kernel, by decide +kernel⟩
theorem mCl_9 : mClOk (RX9, TX9, 6) := ⟨List.forall_mem_cons.mpr ⟨TG_1 (i := 223) rfl rfl, List.forall_mem_cons.mpr ⟨TG_1 (i := 225) rfl rfl, List.forall_mem_cons.mpr ⟨TG_1 (i := 227) rfl rfl, List.forall_mem_cons.mpr ⟨TG_1 (i := 229) rfl rfl, List.forall_mem_cons.mpr ⟨TG_1 (i := 231) rfl rfl, List.forall_mem_cons.mpr ⟨TG_1 (i := 233) rfl rfl, List.forall_mem_nil _⟩⟩⟩⟩⟩⟩, ⟨tyX9, tyX9_ok⟩, by decide +kernel, by decide +kernel⟩
theorem mCl_10 : mClOk (RX10, TX10, 15) := ⟨List.forall_mem_cons.mpr ⟨TG_2 (i := 125) rfl rfl, List.forall_mem_cons.mpr ⟨TG_2 (i := 127) rfl rfl, List.forall_mem_cons.mpr ⟨TG_2 (i := 129) rfl rfl, List.forall_mem_cons.mpr ⟨TG_2 (i := 131) rfl rfl, List.forall_mem_cons.mpr ⟨TG_2 (i := 133) rfl rfl, List.forall_mem_cons.mpr ⟨TG_2 (i := 135) rfl rfl, List.forall_mem_cons.mpr ⟨TG_2 (i := 137) rfl rfl, List.forall_mem_cons.mpr ⟨TG_2 (i := 139) rfl rfl, List.forall_mem_cons.mpr ⟨TG_2 (i := 141) rfl rfl, List.forall_mem_cons.mpr ⟨TG_2 (i := 143) rfl rfl, List.forall_mem_cons.mpr ⟨TG_2 (i := 145) rfl rfl, List.forall_mem_cons.mpr ⟨TG_2 (i := 147) rfl rfl, List.forall_mem_cons.mpr ⟨TG_2 (i := 149) rfl rfl, List.forall_mem_cons.mpr ⟨TG_2 (i := 151) rfl rfl, List.forall_mem_cons.mpr ⟨TG_2 (i := 153) rfl rfl, List.forall_mem_nil _⟩⟩⟩⟩⟩⟩⟩⟩⟩⟩⟩⟩⟩⟩⟩, ⟨tyX10, tyX10_ok⟩, by decide +kernel, by decide +kernel⟩
theorem mCl_11 : mClOk (RX11, TX11, 20) := ⟨List.forall_mem_cons.mpr ⟨TG_5 (i := 239) rfl rfl, List.forall_mem_cons.mpr ⟨TG_6 (i := 1) rfl rfl, List.forall_mem_cons.mpr ⟨TG_6 (i := 3) rfl rfl, List.forall_mem_cons.mpr ⟨TG_6 (i := 5) rfl rfl, List.forall_mem_cons.mpr ⟨TG_6 (i := 7) rfl rfl, List.forall_mem_cons.mpr ⟨TG_6 (i := 9) rfl rfl, List.forall_mem_cons.mpr ⟨TG_6 (i := 11) rfl rfl, List.forall_mem_cons.mpr ⟨TG_6 (i := 13) rfl rfl, List.forall_mem_cons.mpr ⟨TG_6 (i := 15) rfl rfl, List.forall_mem_cons.mpr ⟨TG_6 (i := 17) rfl rfl, List.forall_mem_cons.mpr ⟨TG_6 (i := 19) rfl rfl, List.forall_mem_cons.mpr ⟨TG_6 (i := 21) rfl rfl, List.forall_mem_cons.mpr ⟨TG_6 (i := 23) rfl rfl, List.forall_mem_cons.mpr ⟨TG_6 (i := 25) rfl rfl, List.forall_mem_cons.mpr ⟨TG_6 (i := 27) rfl rfl, List.forall_mem_cons.mpr ⟨TG_6 (i := 29) rfl rfl, List.forall_mem_cons.mpr ⟨TG_6 (i := 31) rfl rfl, List.forall_mem_cons.mpr ⟨TG_6 (i := 33) rfl rfl, List.forall_mem_cons.mpr ⟨TG_6 (i := 35) rfl rfl, List.forall_mem_cons.mpr ⟨TG_6 (i := 37) rfl rfl, List.forall_mem_nil _⟩⟩⟩⟩⟩⟩⟩⟩⟩⟩⟩⟩⟩⟩⟩⟩⟩⟩⟩⟩, ⟨tyX11, tyX11_ok⟩, by decide +kernel, by decide +kernel⟩
theorem mCl_ok : ∀ q ∈ vwCl, mClOk q := List.forall_mem_cons.mpr ⟨mCl_0, List.forall_mem_cons.mpr ⟨mCl_1, List.forall_mem_cons.mpr ⟨mCl_2, List.forall_mem_cons.mpr ⟨mCl_3, List.forall_mem_cons.mpr ⟨mCl_4, List.forall_mem_cons.mpr ⟨mCl_5, List.forall_mem_cons.mpr ⟨mCl_6, List.forall_mem_cons.mpr ⟨mCl_7, List.forall_mem_cons.mpr ⟨mCl_8, List.forall_mem_cons.mpr ⟨mCl_9, List.forall_mem_cons.mpr ⟨mCl_10, List.forall_mem_cons.mpr ⟨mCl_11, List.forall_mem_nil _⟩⟩⟩⟩⟩⟩⟩⟩⟩⟩⟩⟩
def mPoolF : Nat → List (Nat × Nat × Nat × Nat)
  | 0 => [(9, 0, 2, 2), (15, 0, 0, 2), (19, 0, 1, 2), (35, 0, 3, 0), (39, 0, 5, 1), (59, 0, 4, 0), (62, 8, 2, 2), (69, 7, 0, 0)]
  | 1 => [(9, 1, 1, 2), (15, 1, 2, 2), (18, 1, 0, 2), (22, 1, 3, 0), (34, 7, 14, 2)]
  | 2 => [(9, 2, 2, 2), (15, 2, 0, 2), (19, 2, 1, 2), (29, 7, 0, 0), (35, 7, 5, 2), (42, 7, 6, 2), (57, 8, 6, 2)]
  | 3 => [(9, 3, 0, 2), (15, 3, 1, 2), (18, 3, 2, 0)]
  | 4 => [(9, 4, 1, 2), (15, 4, 0, 2), (36, 7, 1, 2), (49, 7, 5, 2), (52, 7, 7, 2)]
  | 5 => [(12, 5, 1, 2), (18, 5, 0, 2), (25, 7, 0, 0), (39, 7, 2, 2), (46, 3, 2, 0), (49, 3, 0, 2), (63, 7, 5, 2), (66, 7, 7, 2)]
  | 6 => [(9, 6, 1, 2), (15, 6, 2, 2), (18, 6, 0, 2), (22, 6, 3, 0), (26, 6, 4, 1), (34, 7, 0, 0), (49, 7, 13, 2), (52, 7, 4, 2)]
  | 7 => [(9, 7, 1, 2), (15, 7, 2, 2), (18, 7, 3, 2), (21, 7, 4, 2), (24, 7, 5, 2), (27, 7, 6, 2), (30, 7, 7, 2), (33, 7, 8, 2), (36, 7, 9, 2), (39, 7, 10, 2), (42, 7, 11, 2), (45, 7, 12, 2), (48, 7, 13, 2), (51, 7, 14, 2), (54, 7, 16, 2), (57, 7, 0, 0), (65, 7, 15, 1)]
  | 8 => [(9, 8, 2, 2), (15, 8, 3, 2), (18, 8, 4, 2), (21, 8, 5, 2), (24, 8, 6, 2), (27, 8, 7, 2), (30, 8, 8, 2), (33, 8, 9, 2), (36, 8, 0, 2), (40, 8, 1, 0), (50, 7, 0, 0), (55, 7, 5, 2), (58, 7, 7, 2), (61, 7, 1, 2), (71, 7, 11, 2), (74, 7, 6, 2), (77, 7, 13, 2), (80, 7, 4, 2), (87, 7, 12, 2), (119, 7, 15, 1), (131, 7, 16, 2), (142, 7, 2, 2), (145, 7, 3, 2)]
  | 9 => [(9, 9, 2, 2), (15, 9, 0, 2), (19, 9, 1, 2), (23, 9, 3, 0), (27, 9, 4, 0), (30, 9, 5, 0), (37, 7, 6, 2), (52, 7, 0, 0), (55, 8, 3, 2), (63, 8, 6, 2), (66, 8, 7, 2), (69, 8, 8, 2)]
  | 10 => [(12, 10, 0, 2), (21, 10, 1, 2), (25, 10, 2, 2), (28, 10, 3, 2), (32, 10, 4, 2), (36, 10, 5, 2), (44, 10, 6, 2), (51, 10, 7, 2), (58, 10, 8, 2), (65, 10, 9, 2), (72, 10, 10, 2), (79, 10, 11, 2), (86, 10, 12, 2), (106, 7, 8, 2), (125, 7, 11, 2), (128, 7, 12, 2), (134, 7, 13, 2), (146, 7, 5, 2), (197, 8, 4, 2), (226, 7, 14, 2), (229, 10, 14, 0), (233, 10, 13, 0), (239, 7, 0, 0), (242, 7, 1, 2), (245, 7, 2, 2), (248, 7, 3, 2), (251, 7, 4, 2), (262, 7, 6, 2), (265, 7, 7, 2), (268, 8, 6, 2), (279, 8, 5, 2), (291, 9, 3, 0), (294, 9, 2, 2), (297, 9, 4, 0), (300, 9, 5, 0), (331, 6, 3, 0), (333, 6, 2, 2), (339, 1, 3, 0), (342, 1, 2, 2), (354, 7, 15, 1), (380, 8, 2, 2)]
  | 11 => [(9, 11, 0, 2), (13, 11, 1, 2), (16, 11, 4, 2), (19, 11, 5, 2), (22, 11, 6, 2), (25, 11, 7, 2), (28, 11, 8, 2), (31, 11, 9, 2), (34, 11, 10, 2), (37, 11, 11, 2), (40, 11, 12, 2), (43, 11, 13, 2), (46, 11, 14, 2), (49, 11, 15, 2), (52, 11, 16, 2), (55, 11, 17, 2), (58, 11, 18, 2), (69, 11, 3, 0), (148, 11, 2, 0), (211, 11, 19, 0)]
  | _ => []
def mWF (o : Nat) (x : Nat × Nat × Nat × Nat) : Prop := ∃ q : vw_C, vwCl[x.2.1]? = some q ∧ x.2.2.1 < q.2.2 ∧ Cond.fieldLink (mOwn o) x.1 (q.2.1 x.2.2.1).1 (q.2.1 x.2.2.1).2.1 (q.2.1 x.2.2.1).2.2.1 ∈ TG ∧ (x.2.2.2 = 0 → (q.2.1 x.2.2.1).2.2.1 = "I" ∧ (q.2.1 x.2.2.1).2.2.2 = false) ∧ (x.2.2.2 = 1 → (q.2.1 x.2.2.1).2.2.1 = "Z" ∧ (q.2.1 x.2.2.1).2.2.2 = false) ∧ (x.2.2.2 = 2 → (q.2.1 x.2.2.1).2.2.2 = true ∧ ∃ ty, parseFieldDescriptor (q.2.1 x.2.2.1).2.2.1 = some ty ∧ refKind ty = true)
set_option maxRecDepth 10000 in
theorem mF_0 : ∀ x ∈ mPoolF 0, mWF 0 x := List.forall_mem_cons.mpr ⟨⟨(RX0, TX0, 6), rfl, by decide, TG_1 (i := 190) rfl rfl, fun h => absurd h (by decide), fun h => absurd h (by decide), fun _ => ⟨rfl, tyX0 2, tyX0_ok 2 (by decide), rfl⟩⟩, List.forall_mem_cons.mpr ⟨⟨(RX0, TX0, 6), rfl, by decide, TG_1 (i := 188) rfl rfl, fun h => absurd h (by decide), fun h => absurd h (by decide), fun _ => ⟨rfl, tyX0 0, tyX0_ok 0 (by decide), rfl⟩⟩, List.forall_mem_cons.mpr ⟨⟨(RX0, TX0, 6), rfl, by decide, TG_1 (i := 189) rfl rfl, fun h => absurd h (by decide), fun h => absurd h (by decide), fun _ => ⟨rfl, tyX0 1, tyX0_ok 1 (by decide), rfl⟩⟩, List.forall_mem_cons.mpr ⟨⟨(RX0, TX0, 6), rfl, by decide, TG_1 (i := 191) rfl rfl, fun _ => ⟨rfl, rfl⟩, fun h => absurd h (by decide), fun h => absurd h (by decide)⟩, List.forall_mem_cons.mpr ⟨⟨(RX0, TX0, 6), rfl, by decide, TG_1 (i := 193) rfl rfl, fun h => absurd h (by decide), fun _ => ⟨rfl, rfl⟩, fun h => absurd h (by decide)⟩, List.forall_mem_cons.mpr ⟨⟨(RX0, TX0, 6), rfl, by decide, TG_1 (i := 192) rfl rfl, fun _ => ⟨rfl, rfl⟩, fun h => absurd h (by decide), fun h => absurd h (by decide)⟩, List.forall_mem_cons.mpr ⟨⟨(RX8, TX8, 10), rfl, by decide, TG_1 (i := 143) rfl rfl, fun h => absurd h (by decide), fun h => absurd h (by decide), fun _ => ⟨rfl, tyX8 2, tyX8_ok 2 (by decide), rfl⟩⟩, List.forall_mem_cons.mpr ⟨⟨(RX7, TX7, 17), rfl, by decide, TG_1 (i := 43) rfl rfl, fun _ => ⟨rfl, rfl⟩, fun h => absurd h (by decide), fun h => absurd h (by decide)⟩, List.forall_mem_nil _⟩⟩⟩⟩⟩⟩⟩⟩
set_option maxRecDepth 10000 in
theorem mF_1 : ∀ x ∈ mPoolF 1, mWF 1 x := List.forall_mem_cons.mpr ⟨⟨(RX1, TX1, 4), rfl, by decide, TG_2 (i := 74) rfl rfl, fun h => absurd h (by decide), fun h => absurd h (by decide), fun _ => ⟨rfl, tyX1 1, tyX1_ok 1 (by decide), rfl⟩⟩, List.forall_mem_cons.mpr ⟨⟨(RX1, TX1, 4), rfl, by decide, TG_2 (i := 75) rfl rfl, fun h => absurd h (by decide), fun h => absurd h (by decide), fun _ => ⟨rfl, tyX1 2, tyX1_ok 2 (by decide), rfl⟩⟩, List.forall_mem_cons.mpr ⟨⟨(RX1, TX1, 4), rfl, by decide, TG_2 (i := 73) rfl rfl, fun h => absurd h (by decide), fun h => absurd h (by decide), fun _ => ⟨rfl, tyX1 0, tyX1_ok 0 (by decide), rfl⟩⟩, List.forall_mem_cons.mpr ⟨⟨(RX1, TX1, 4), rfl, by decide, TG_2 (i := 77) rfl rfl, fun _ => ⟨rfl, rfl⟩, fun h => absurd h (by decide), fun h => absurd h (by decide)⟩, List.forall_mem_cons.mpr ⟨⟨(RX7, TX7, 17), rfl, by decide, TG_1 (i := 91) rfl rfl, fun h => absurd h (by decide), fun h => absurd h (by decide), fun _ => ⟨rfl, tyX7 14, tyX7_ok 14 (by decide), rfl⟩⟩, List.forall_mem_nil _⟩⟩⟩⟩⟩
set_option maxRecDepth 10000 in
theorem mF_2 : ∀ x ∈ mPoolF 2, mWF 2 x := List.forall_mem_cons.mpr ⟨⟨(RX2, TX2, 3), rfl, by decide, TG_2 (i := 4) rfl rfl, fun h => absurd h (by decide), fun h => absurd h (by decide), fun _ => ⟨rfl, tyX2 2, tyX2_ok 2 (by decide), rfl⟩⟩, List.forall_mem_cons.mpr ⟨⟨(RX2, TX2, 3), rfl, by decide, TG_2 (i := 2) rfl rfl, fun h => absurd h (by decide), fun h => absurd h (by decide), fun _ => ⟨rfl, tyX2 0, tyX2_ok 0 (by decide), rfl⟩⟩, List.forall_mem_cons.mpr ⟨⟨(RX2, TX2, 3), rfl, by decide, TG_2 (i := 3) rfl rfl, fun h => absurd h (by decide), fun h => absurd h (by decide), fun _ => ⟨rfl, tyX2 1, tyX2_ok 1 (by decide), rfl⟩⟩, List.forall_mem_cons.mpr ⟨⟨(RX7, TX7, 17), rfl, by decide, TG_1 (i := 39) rfl rfl, fun _ => ⟨rfl, rfl⟩, fun h => absurd h (by decide), fun h => absurd h (by decide)⟩, List.forall_mem_cons.mpr ⟨⟨(RX7, TX7, 17), rfl, by decide, TG_1 (i := 61) rfl rfl, fun h => absurd h (by decide), fun h => absurd h (by decide), fun _ => ⟨rfl, tyX7 5, tyX7_ok 5 (by decide), rfl⟩⟩, List.forall_mem_cons.mpr ⟨⟨(RX7, TX7, 17), rfl, by decide, TG_1 (i := 68) rfl rfl, fun h => absurd h (by decide), fun h => absurd h (by decide), fun _ => ⟨rfl, tyX7 6, tyX7_ok 6 (by decide), rfl⟩⟩, List.forall_mem_cons.mpr ⟨⟨(RX8, TX8, 10), rfl, by decide, TG_1 (i := 152) rfl rfl, fun h => absurd h (by decide), fun h => absurd h (by decide), fun _ => ⟨rfl, tyX8 6, tyX8_ok 6 (by decide), rfl⟩⟩, List.forall_mem_nil _⟩⟩⟩⟩⟩⟩⟩
set_option maxRecDepth 10000 in
theorem mF_3 : ∀ x ∈ mPoolF 3, mWF 3 x := List.forall_mem_cons.mpr ⟨⟨(RX3, TX3, 3), rfl, by decide, TG_2 (i := 24) rfl rfl, fun h => absurd h (by decide), fun h => absurd h (by decide), fun _ => ⟨rfl, tyX3 0, tyX3_ok 0 (by decide), rfl⟩⟩, List.forall_mem_cons.mpr ⟨⟨(RX3, TX3, 3), rfl, by decide, TG_2 (i := 26) rfl rfl, fun h => absurd h (by decide), fun h => absurd h (by decide), fun _ => ⟨rfl, tyX3 1, tyX3_ok 1 (by decide), rfl⟩⟩, List.forall_mem_cons.mpr ⟨⟨(RX3, TX3, 3), rfl, by decide, TG_2 (i := 27) rfl rfl, fun _ => ⟨rfl, rfl⟩, fun h => absurd h (by decide), fun h => absurd h (by decide)⟩, List.forall_mem_nil _⟩⟩⟩
set_option maxRecDepth 10000 in
theorem mF_4 : ∀ x ∈ mPoolF 4, mWF 4 x := List.forall_mem_cons.mpr ⟨⟨(RX4, TX4, 2), rfl, by decide, TG_2 (i := 95) rfl rfl, fun h => absurd h (by decide), fun h => absurd h (by decide), fun _ => ⟨rfl, tyX4 1, tyX4_ok 1 (by decide), rfl⟩⟩, List.forall_mem_cons.mpr ⟨⟨(RX4, TX4, 2), rfl, by decide, TG_2 (i := 94) rfl rfl, fun h => absurd h (by decide), fun h => absurd h (by decide), fun _ => ⟨rfl, tyX4 0, tyX4_ok 0 (by decide), rfl⟩⟩, List.forall_mem_cons.mpr ⟨⟨(RX7, TX7, 17), rfl, by decide, TG_1 (i := 46) rfl rfl, fun h => absurd h (by decide), fun h => absurd h (by decide), fun _ => ⟨rfl, tyX7 1, tyX7_ok 1 (by decide), rfl⟩⟩, List.forall_mem_cons.mpr ⟨⟨(RX7, TX7, 17), rfl, by decide, TG_1 (i := 63) rfl rfl, fun h => absurd h (by decide), fun h => absurd h (by decide), fun _ => ⟨rfl, tyX7 5, tyX7_ok 5 (by decide), rfl⟩⟩, List.forall_mem_cons.mpr ⟨⟨(RX7, TX7, 17), rfl, by decide, TG_1 (i := 72) rfl rfl, fun h => absurd h (by decide), fun h => absurd h (by decide), fun _ => ⟨rfl, tyX7 7, tyX7_ok 7 (by decide), rfl⟩⟩, List.forall_mem_nil _⟩⟩⟩⟩⟩
set_option maxRecDepth 10000 in
theorem mF_5 : ∀ x ∈ mPoolF 5, mWF 5 x := List.forall_mem_cons.mpr ⟨⟨(RX5, TX5, 2), rfl, by decide, TG_2 (i := 37) rfl rfl, fun h => absurd h (by decide), fun h => absurd h (by decide), fun _ => ⟨rfl, tyX5 1, tyX5_ok 1 (by decide), rfl⟩⟩, List.forall_mem_cons.mpr ⟨⟨(RX5, TX5, 2), rfl, by decide, TG_2 (i := 36) rfl rfl, fun h => absurd h (by decide), fun h => absurd h (by decide), fun _ => ⟨rfl, tyX5 0, tyX5_ok 0 (by decide), rfl⟩⟩, List.forall_mem_cons.mpr ⟨⟨(RX7, TX7, 17), rfl, by decide, TG_1 (i := 38) rfl rfl, fun _ => ⟨rfl, rfl⟩, fun h => absurd h (by decide), fun h => absurd h (by decide)⟩, List.forall_mem_cons.mpr ⟨⟨(RX7, TX7, 17), rfl, by decide, TG_1 (i := 50) rfl rfl, fun h => absurd h (by decide), fun h => absurd h (by decide), fun _ => ⟨rfl, tyX7 2, tyX7_ok 2 (by decide), rfl⟩⟩, List.forall_mem_cons.mpr ⟨⟨(RX3, TX3, 3), rfl, by decide, TG_2 (i := 28) rfl rfl, fun _ => ⟨rfl, rfl⟩, fun h => absurd h (by decide), fun h => absurd h (by decide)⟩, List.forall_mem_cons.mpr ⟨⟨(RX3, TX3, 3), rfl, by decide, TG_2 (i := 25) rfl rfl, fun h => absurd h (by decide), fun h => absurd h (by decide), fun _ => ⟨rfl, tyX3 0, tyX3_ok 0 (by decide), rfl⟩⟩, List.forall_mem_cons.mpr ⟨⟨(RX7, TX7, 17), rfl, by decide, TG_1 (i := 65) rfl rfl, fun h => absurd h (by decide), fun h => absurd h (by decide), fun _ => ⟨rfl, tyX7 5, tyX7_ok 5 (by decide), rfl⟩⟩, List.forall_mem_cons.mpr ⟨⟨(RX7, TX7, 17), rfl, by decide, TG_1 (i := 74) rfl rfl, fun h => absurd h (by decide), fun h => absurd h (by decide), fun _ => ⟨rfl, tyX7 7, tyX7_ok 7 (by decide), rfl⟩⟩, List.forall_mem_nil _⟩⟩⟩⟩⟩⟩⟩⟩
set_option maxRecDepth 10000 in
theorem mF_6 : ∀ x ∈ mPoolF 6, mWF 6 x := List.forall_mem_cons.mpr ⟨⟨(RX6, TX6, 5), rfl, by decide, TG_2 (i := 50) rfl rfl, fun h => absurd h (by decide), fun h => absurd h (by decide), fun _ => ⟨rfl, tyX6 1, tyX6_ok 1 (by decide), rfl⟩⟩, List.forall_mem_cons.mpr ⟨⟨(RX6, TX6, 5), rfl, by decide, TG_2 (i := 51) rfl rfl, fun h => absurd h (by decide), fun h => absurd h (by decide), fun _ => ⟨rfl, tyX6 2, tyX6_ok 2 (by decide), rfl⟩⟩, List.forall_mem_cons.mpr ⟨⟨(RX6, TX6, 5), rfl, by decide, TG_2 (i := 49) rfl rfl, fun h => absurd h (by decide), fun h => absurd h (by decide), fun _ => ⟨rfl, tyX6 0, tyX6_ok 0 (by decide), rfl⟩⟩, List.forall_mem_cons.mpr ⟨⟨(RX6, TX6, 5), rfl, by decide, TG_2 (i := 53) rfl rfl, fun _ => ⟨rfl, rfl⟩, fun h => absurd h (by decide), fun h => absurd h (by decide)⟩, List.forall_mem_cons.mpr ⟨⟨(RX6, TX6, 5), rfl, by decide, TG_2 (i := 55) rfl rfl, fun h => absurd h (by decide), fun _ => ⟨rfl, rfl⟩, fun h => absurd h (by decide)⟩, List.forall_mem_cons.mpr ⟨⟨(RX7, TX7, 17), rfl, by decide, TG_1 (i := 42) rfl rfl, fun _ => ⟨rfl, rfl⟩, fun h => absurd h (by decide), fun h => absurd h (by decide)⟩, List.forall_mem_cons.mpr ⟨⟨(RX7, TX7, 17), rfl, by decide, TG_1 (i := 87) rfl rfl, fun h => absurd h (by decide), fun h => absurd h (by decide), fun _ => ⟨rfl, tyX7 13, tyX7_ok 13 (by decide), rfl⟩⟩, List.forall_mem_cons.mpr ⟨⟨(RX7, TX7, 17), rfl, by decide, TG_1 (i := 57) rfl rfl, fun h => absurd h (by decide), fun h => absurd h (by decide), fun _ => ⟨rfl, tyX7 4, tyX7_ok 4 (by decide), rfl⟩⟩, List.forall_mem_nil _⟩⟩⟩⟩⟩⟩⟩⟩
set_option maxRecDepth 10000 in
theorem mF_7 : ∀ x ∈ mPoolF 7, mWF 7 x := List.forall_mem_cons.mpr ⟨⟨(RX7, TX7, 17), rfl, by decide, TG_1 (i := 45) rfl rfl, fun h => absurd h (by decide), fun h => absurd h (by decide), fun _ => ⟨rfl, tyX7 1, tyX7_ok 1 (by decide), rfl⟩⟩, List.forall_mem_cons.mpr ⟨⟨(RX7, TX7, 17), rfl, by decide, TG_1 (i := 49) rfl rfl, fun h => absurd h (by decide), fun h => absurd h (by decide), fun _ => ⟨rfl, tyX7 2, tyX7_ok 2 (by decide), rfl⟩⟩, List.forall_mem_cons.mpr ⟨⟨(RX7, TX7, 17), rfl, by decide, TG_1 (i := 53) rfl rfl, fun h => absurd h (by decide), fun h => absurd h (by decide), fun _ => ⟨rfl, tyX7 3, tyX7_ok 3 (by decide), rfl⟩⟩, List.forall_mem_cons.mpr ⟨⟨(RX7, TX7, 17), rfl, by decide, TG_1 (i := 56) rfl rfl, fun h => absurd h (by decide), fun h => absurd h (by decide), fun _ => ⟨rfl, tyX7 4, tyX7_ok 4 (by decide), rfl⟩⟩, List.forall_mem_cons.mpr ⟨⟨(RX7, TX7, 17), rfl, by decide, TG_1 (i := 60) rfl rfl, fun h => absurd h (by decide), fun h => absurd h (by decide), fun _ => ⟨rfl, tyX7 5, tyX7_ok 5 (by decide), rfl⟩⟩, List.forall_mem_cons.mpr ⟨⟨(RX7, TX7, 17), rfl, by decide, TG_1 (i := 66) rfl rfl, fun h => absurd h (by decide), fun h => absurd h (by decide), fun _ => ⟨rfl, tyX7 6, tyX7_ok 6 (by decide), rfl⟩⟩, List.forall_mem_cons.mpr ⟨⟨(RX7, TX7, 17), rfl, by decide, TG_1 (i := 71) rfl rfl, fun h => absurd h (by decide), fun h => absurd h (by decide), fun _ => ⟨rfl, tyX7 7, tyX7_ok 7 (by decide), rfl⟩⟩, List.forall_mem_cons.mpr ⟨⟨(RX7, TX7, 17), rfl, by decide, TG_1 (i := 76) rfl rfl, fun h => absurd h (by decide), fun h => absurd h (by decide), fun _ => ⟨rfl, tyX7 8, tyX7_ok 8 (by decide), rfl⟩⟩, List.forall_mem_cons.mpr ⟨⟨(RX7, TX7, 17), rfl, by decide, TG_1 (i := 78) rfl rfl, fun h => absurd h (by decide), fun h => absurd h (by decide), fun _ => ⟨rfl, tyX7 9, tyX7_ok 9 (by decide), rfl⟩⟩, List.forall_mem_cons.mpr ⟨⟨(RX7, TX7, 17), rfl, by decide, TG_1 (i := 79) rfl rfl, fun h => absurd h (by decide), fun h => absurd h (by decide), fun _ => ⟨rfl, tyX7 10, tyX7_ok 10 (by decide), rfl⟩⟩, List.forall_mem_cons.mpr ⟨⟨(RX7, TX7, 17), rfl, by decide, TG_1 (i := 80) rfl rfl, fun h => absurd h (by decide), fun h => absurd h (by decide), fun _ => ⟨rfl, tyX7 11, tyX7_ok 11 (by decide), rfl⟩⟩, List.forall_mem_cons.mpr ⟨⟨(RX7, TX7, 17), rfl, by decide, TG_1 (i := 83) rfl rfl, fun h => absurd h (by decide), fun h => absurd h (by decide), fun _ => ⟨rfl, tyX7 12, tyX7_ok 12 (by decide), rfl⟩⟩, List.forall_mem_cons.mpr ⟨⟨(RX7, TX7, 17), rfl, by decide, TG_1 (i := 86) rfl rfl, fun h => absurd h (by decide), fun h => absurd h (by decide), fun _ => ⟨rfl, tyX7 13, tyX7_ok 13 (by decide), rfl⟩⟩, List.forall_mem_cons.mpr ⟨⟨(RX7, TX7, 17), rfl, by decide, TG_1 (i := 90) rfl rfl, fun h => absurd h (by decide), fun h => absurd h (by decide), fun _ => ⟨rfl, tyX7 14, tyX7_ok 14 (by decide), rfl⟩⟩, List.forall_mem_cons.mpr ⟨⟨(RX7, TX7, 17), rfl, by decide, TG_1 (i := 96) rfl rfl, fun h => absurd h (by decide), fun h => absurd h (by decide), fun _ => ⟨rfl, tyX7 16, tyX7_ok 16 (by decide), rfl⟩⟩, List.forall_mem_cons.mpr ⟨⟨(RX7, TX7, 17), rfl, by decide, TG_1 (i := 37) rfl rfl, fun _ => ⟨rfl, rfl⟩, fun h => absurd h (by decide), fun h => absurd h (by decide)⟩, List.forall_mem_cons.mpr ⟨⟨(RX7, TX7, 17), rfl, by decide, TG_1 (i := 93) rfl rfl, fun h => absurd h (by decide), fun _ => ⟨rfl, rfl⟩, fun h => absurd h (by decide)⟩, List.forall_mem_nil _⟩⟩⟩⟩⟩⟩⟩⟩⟩⟩⟩⟩⟩⟩⟩⟩⟩
set_option maxRecDepth 10000 in
theorem mF_8 : ∀ x ∈ mPoolF 8, mWF 8 x := List.forall_mem_cons.mpr ⟨⟨(RX8, TX8, 10), rfl, by decide, TG_1 (i := 142) rfl rfl, fun h => absurd h (by decide), fun h => absurd h (by decide), fun _ => ⟨rfl, tyX8 2, tyX8_ok 2 (by decide), rfl⟩⟩, List.forall_mem_cons.mpr ⟨⟨(RX8, TX8, 10), rfl, by decide, TG_1 (i := 145) rfl rfl, fun h => absurd h (by decide), fun h => absurd h (by decide), fun _ => ⟨rfl, tyX8 3, tyX8_ok 3 (by decide), rfl⟩⟩, List.forall_mem_cons.mpr ⟨⟨(RX8, TX8, 10), rfl, by decide, TG_1 (i := 147) rfl rfl, fun h => absurd h (by decide), fun h => absurd h (by decide), fun _ => ⟨rfl, tyX8 4, tyX8_ok 4 (by decide), rfl⟩⟩, List.forall_mem_cons.mpr ⟨⟨(RX8, TX8, 10), rfl, by decide, TG_1 (i := 149) rfl rfl, fun h => absurd h (by decide), fun h => absurd h (by decide), fun _ => ⟨rfl, tyX8 5, tyX8_ok 5 (by decide), rfl⟩⟩, List.forall_mem_cons.mpr ⟨⟨(RX8, TX8, 10), rfl, by decide, TG_1 (i := 151) rfl rfl, fun h => absurd h (by decide), fun h => absurd h (by decide), fun _ => ⟨rfl, tyX8 6, tyX8_ok 6 (by decide), rfl⟩⟩, List.forall_mem_cons.mpr ⟨⟨(RX8, TX8, 10), rfl, by decide, TG_1 (i := 155) rfl rfl, fun h => absurd h (by decide), fun h => absurd h (by decide), fun _ => ⟨rfl, tyX8 7, tyX8_ok 7 (by decide), rfl⟩⟩, List.forall_mem_cons.mpr ⟨⟨(RX8, TX8, 10), rfl, by decide, TG_1 (i := 157) rfl rfl, fun h => absurd h (by decide), fun h => absurd h (by decide), fun _ => ⟨rfl, tyX8 8, tyX8_ok 8 (by decide), rfl⟩⟩, List.forall_mem_cons.mpr ⟨⟨(RX8, TX8, 10), rfl, by decide, TG_1 (i := 159) rfl rfl, fun h => absurd h (by decide), fun h => absurd h (by decide), fun _ => ⟨rfl, tyX8 9, tyX8_ok 9 (by decide), rfl⟩⟩, List.forall_mem_cons.mpr ⟨⟨(RX8, TX8, 10), rfl, by decide, TG_1 (i := 140) rfl rfl, fun h => absurd h (by decide), fun h => absurd h (by decide), fun _ => ⟨rfl, tyX8 0, tyX8_ok 0 (by decide), rfl⟩⟩, List.forall_mem_cons.mpr ⟨⟨(RX8, TX8, 10), rfl, by decide, TG_1 (i := 141) rfl rfl, fun _ => ⟨rfl, rfl⟩, fun h => absurd h (by decide), fun h => absurd h (by decide)⟩, List.forall_mem_cons.mpr ⟨⟨(RX7, TX7, 17), rfl, by decide, TG_1 (i := 40) rfl rfl, fun _ => ⟨rfl, rfl⟩, fun h => absurd h (by decide), fun h => absurd h (by decide)⟩, List.forall_mem_cons.mpr ⟨⟨(RX7, TX7, 17), rfl, by decide, TG_1 (i := 62) rfl rfl, fun h => absurd h (by decide), fun h => absurd h (by decide), fun _ => ⟨rfl, tyX7 5, tyX7_ok 5 (by decide), rfl⟩⟩, List.forall_mem_cons.mpr ⟨⟨(RX7, TX7, 17), rfl, by decide, TG_1 (i := 73) rfl rfl, fun h => absurd h (by decide), fun h => absurd h (by decide), fun _ => ⟨rfl, tyX7 7, tyX7_ok 7 (by decide), rfl⟩⟩, List.forall_mem_cons.mpr ⟨⟨(RX7, TX7, 17), rfl, by decide, TG_1 (i := 47) rfl rfl, fun h => absurd h (by decide), fun h => absurd h (by decide), fun _ => ⟨rfl, tyX7 1, tyX7_ok 1 (by decide), rfl⟩⟩, List.forall_mem_cons.mpr ⟨⟨(RX7, TX7, 17), rfl, by decide, TG_1 (i := 82) rfl rfl, fun h => absurd h (by decide), fun h => absurd h (by decide), fun _ => ⟨rfl, tyX7 11, tyX7_ok 11 (by decide), rfl⟩⟩, List.forall_mem_cons.mpr ⟨⟨(RX7, TX7, 17), rfl, by decide, TG_1 (i := 69) rfl rfl, fun h => absurd h (by decide), fun h => absurd h (by decide), fun _ => ⟨rfl, tyX7 6, tyX7_ok 6 (by decide), rfl⟩⟩, List.forall_mem_cons.mpr ⟨⟨(RX7, TX7, 17), rfl, by decide, TG_1 (i := 89) rfl rfl, fun h => absurd h (by decide), fun h => absurd h (by decide), fun _ => ⟨rfl, tyX7 13, tyX7_ok 13 (by decide), rfl⟩⟩, List.forall_mem_cons.mpr ⟨⟨(RX7, TX7, 17), rfl, by decide, TG_1 (i := 58) rfl rfl, fun h => absurd h (by decide), fun h => absurd h (by decide), fun _ => ⟨rfl, tyX7 4, tyX7_ok 4 (by decide), rfl⟩⟩, List.forall_mem_cons.mpr ⟨⟨(RX7, TX7, 17), rfl, by decide, TG_1 (i := 85) rfl rfl, fun h => absurd h (by decide), fun h => absurd h (by decide), fun _ => ⟨rfl, tyX7 12, tyX7_ok 12 (by decide), rfl⟩⟩, List.forall_mem_cons.mpr ⟨⟨(RX7, TX7, 17), rfl, by decide, TG_1 (i := 94) rfl rfl, fun h => absurd h (by decide), fun _ => ⟨rfl, rfl⟩, fun h => absurd h (by decide)⟩, List.forall_mem_cons.mpr ⟨⟨(RX7, TX7, 17), rfl, by decide, TG_1 (i := 97) rfl rfl, fun h => absurd h (by decide), fun h => absurd h (by decide), fun _ => ⟨rfl, tyX7 16, tyX7_ok 16 (by decide), rfl⟩⟩, List.forall_mem_cons.mpr ⟨⟨(RX7, TX7, 17), rfl, by decide, TG_1 (i := 52) rfl rfl, fun h => absurd h (by decide), fun h => absurd h (by decide), fun _ => ⟨rfl, tyX7 2, tyX7_ok 2 (by decide), rfl⟩⟩, List.forall_mem_cons.mpr ⟨⟨(RX7, TX7, 17), rfl, by decide, TG_1 (i := 55) rfl rfl, fun h => absurd h (by decide), fun h => absurd h (by decide), fun _ => ⟨rfl, tyX7 3, tyX7_ok 3 (by decide), rfl⟩⟩, List.forall_mem_nil _⟩⟩⟩⟩⟩⟩⟩⟩⟩⟩⟩⟩⟩⟩⟩⟩⟩⟩⟩⟩⟩⟩⟩
set_option maxRecDepth 10000 in
theorem mF_9 : ∀ x ∈ mPoolF 9, mWF 9 x := List.forall_mem_cons.mpr ⟨⟨(RX9, TX9, 6), rfl, by decide, TG_1 (i := 215) rfl rfl, fun h => absurd h (by decide), fun h => absurd h (by decide), fun _ => ⟨rfl, tyX9 2, tyX9_ok 2 (by decide), rfl⟩⟩, List.forall_mem_cons.mpr ⟨⟨(RX9, TX9, 6), rfl, by decide, TG_1 (i := 213) rfl rfl, fun h => absurd h (by decide), fun h => absurd h (by decide), fun _ => ⟨rfl, tyX9 0, tyX9_ok 0 (by decide), rfl⟩⟩, List.forall_mem_cons.mpr ⟨⟨(RX9, TX9, 6), rfl, by decide, TG_1 (i := 214) rfl rfl, fun h => absurd h (by decide), fun h => absurd h (by decide), fun _ => ⟨rfl, tyX9 1, tyX9_ok 1 (by decide), rfl⟩⟩, List.forall_mem_cons.mpr ⟨⟨(RX9, TX9, 6), rfl, by decide, TG_1 (i := 217) rfl rfl, fun _ => ⟨rfl, rfl⟩, fun h => absurd h (by decide), fun h => absurd h (by decide)⟩, List.forall_mem_cons.mpr ⟨⟨(RX9, TX9, 6), rfl, by decide, TG_1 (i := 219) rfl rfl, fun _ => ⟨rfl, rfl⟩, fun h => absurd h (by decide), fun h => absurd h (by decide)⟩, List.forall_mem_cons.mpr ⟨⟨(RX9, TX9, 6), rfl, by decide, TG_1 (i := 221) rfl rfl, fun _ => ⟨rfl, rfl⟩, fun h => absurd h (by decide), fun h => absurd h (by decide)⟩, List.forall_mem_cons.mpr ⟨⟨(RX7, TX7, 17), rfl, by decide, TG_1 (i := 67) rfl rfl, fun h => absurd h (by decide), fun h => absurd h (by decide), fun _ => ⟨rfl, tyX7 6, tyX7_ok 6 (by decide), rfl⟩⟩, List.forall_mem_cons.mpr ⟨⟨(RX7, TX7, 17), rfl, by decide, TG_1 (i := 41) rfl rfl, fun _ => ⟨rfl, rfl⟩, fun h => absurd h (by decide), fun h => absurd h (by decide)⟩, List.forall_mem_cons.mpr ⟨⟨(RX8, TX8, 10), rfl, by decide, TG_1 (i := 146) rfl rfl, fun h => absurd h (by decide), fun h => absurd h (by decide), fun _ => ⟨rfl, tyX8 3, tyX8_ok 3 (by decide), rfl⟩⟩, List.forall_mem_cons.mpr ⟨⟨(RX8, TX8, 10), rfl, by decide, TG_1 (i := 153) rfl rfl, fun h => absurd h (by decide), fun h => absurd h (by decide), fun _ => ⟨rfl, tyX8 6, tyX8_ok 6 (by decide), rfl⟩⟩, List.forall_mem_cons.mpr ⟨⟨(RX8, TX8, 10), rfl, by decide, TG_1 (i := 156) rfl rfl, fun h => absurd h (by decide), fun h => absurd h (by decide), fun _ => ⟨rfl, tyX8 7, tyX8_ok 7 (by decide), rfl⟩⟩, List.forall_mem_cons.mpr ⟨⟨(RX8, TX8, 10), rfl, by decide, TG_1 (i := 158) rfl rfl, fun h => absurd h (by decide), fun h => absurd h (by decide), fun _ => ⟨rfl, tyX8 8, tyX8_ok 8 (by decide), rfl⟩⟩, List.forall_mem_nil _⟩⟩⟩⟩⟩⟩⟩⟩⟩⟩⟩⟩
set_option maxRecDepth 10000 in
theorem mF_10 : ∀ x ∈ mPoolF 10, mWF 10 x := List.forall_mem_cons.mpr ⟨⟨(RX10, TX10, 15), rfl, by decide, TG_2 (i := 110) rfl rfl, fun h => absurd h (by decide), fun h => absurd h (by decide), fun _ => ⟨rfl, tyX10 0, tyX10_ok 0 (by decide), rfl⟩⟩, List.forall_mem_cons.mpr ⟨⟨(RX10, TX10, 15), rfl, by decide, TG_2 (i := 111) rfl rfl, fun h => absurd h (by decide), fun h => absurd h (by decide), fun _ => ⟨rfl, tyX10 1, tyX10_ok 1 (by decide), rfl⟩⟩, List.forall_mem_cons.mpr ⟨⟨(RX10, TX10, 15), rfl, by decide, TG_2 (i := 112) rfl rfl, fun h => absurd h (by decide), fun h => absurd h (by decide), fun _ => ⟨rfl, tyX10 2, tyX10_ok 2 (by decide), rfl⟩⟩, List.forall_mem_cons.mpr ⟨⟨(RX10, TX10, 15), rfl, by decide, TG_2 (i := 113) rfl rfl, fun h => absurd h (by decide), fun h => absurd h (by decide), fun _ => ⟨rfl, tyX10 3, tyX10_ok 3 (by decide), rfl⟩⟩, List.forall_mem_cons.mpr ⟨⟨(RX10, TX10, 15), rfl, by decide, TG_2 (i := 114) rfl rfl, fun h => absurd h (by decide), fun h => absurd h (by decide), fun _ => ⟨rfl, tyX10 4, tyX10_ok 4 (by decide), rfl⟩⟩, List.forall_mem_cons.mpr ⟨⟨(RX10, TX10, 15), rfl, by decide, TG_2 (i := 115) rfl rfl, fun h => absurd h (by decide), fun h => absurd h (by decide), fun _ => ⟨rfl, tyX10 5, tyX10_ok 5 (by decide), rfl⟩⟩, List.forall_mem_cons.mpr ⟨⟨(RX10, TX10, 15), rfl, by decide, TG_2 (i := 116) rfl rfl, fun h => absurd h (by decide), fun h => absurd h (by decide), fun _ => ⟨rfl, tyX10 6, tyX10_ok 6 (by decide), rfl⟩⟩, List.forall_mem_cons.mpr ⟨⟨(RX10, TX10, 15), rfl, by decide, TG_2 (i := 117) rfl rfl, fun h => absurd h (by decide), fun h => absurd h (by decide), fun _ => ⟨rfl, tyX10 7, tyX10_ok 7 (by decide), rfl⟩⟩, List.forall_mem_cons.mpr ⟨⟨(RX10, TX10, 15), rfl, by decide, TG_2 (i := 118) rfl rfl, fun h => absurd h (by decide), fun h => absurd h (by decide), fun _ => ⟨rfl, tyX10 8, tyX10_ok 8 (by decide), rfl⟩⟩, List.forall_mem_cons.mpr ⟨⟨(RX10, TX10, 15), rfl, by decide, TG_2 (i := 119) rfl rfl, fun h => absurd h (by decide), fun h => absurd h (by decide), fun _ => ⟨rfl, tyX10 9, tyX10_ok 9 (by decide), rfl⟩⟩, List.forall_mem_cons.mpr ⟨⟨(RX10, TX10, 15), rfl, by decide, TG_2 (i := 120) rfl rfl, fun h => absurd h (by decide), fun h => absurd h (by decide), fun _ => ⟨rfl, tyX10 10, tyX10_ok 10 (by decide), rfl⟩⟩, List.forall_mem_cons.mpr ⟨⟨(RX10, TX10, 15), rfl, by decide, TG_2 (i := 121) rfl rfl, fun h => absurd h (by decide), fun h => absurd h (by decide), fun _ => ⟨rfl, tyX10 11, tyX10_ok 11 (by decide), rfl⟩⟩, List.forall_mem_cons.mpr ⟨⟨(RX10, TX10, 15), rfl, by decide, TG_2 (i := 122) rfl rfl, fun h => absurd h (by decide), fun h => absurd h (by decide), fun _ => ⟨rfl, tyX10 12, tyX10_ok 12 (by decide), rfl⟩⟩, List.forall_mem_cons.mpr ⟨⟨(RX7, TX7, 17), rfl, by decide, TG_1 (i := 77) rfl rfl, fun h => absurd h (by decide), fun h => absurd h (by decide), fun _ => ⟨rfl, tyX7 8, tyX7_ok 8 (by decide), rfl⟩⟩, List.forall_mem_cons.mpr ⟨⟨(RX7, TX7, 17), rfl, by decide, TG_1 (i := 81) rfl rfl, fun h => absurd h (by decide), fun h => absurd h (by decide), fun _ => ⟨rfl, tyX7 11, tyX7_ok 11 (by decide), rfl⟩⟩, List.forall_mem_cons.mpr ⟨⟨(RX7, TX7, 17), rfl, by decide, TG_1 (i := 84) rfl rfl, fun h => absurd h (by decide), fun h => absurd h (by decide), fun _ => ⟨rfl, tyX7 12, tyX7_ok 12 (by decide), rfl⟩⟩, List.forall_mem_cons.mpr ⟨⟨(RX7, TX7, 17), rfl, by decide, TG_1 (i := 88) rfl rfl, fun h => absurd h (by decide), fun h => absurd h (by decide), fun _ => ⟨rfl, tyX7 13, tyX7_ok 13 (by decide), rfl⟩⟩, List.forall_mem_cons.mpr ⟨⟨(RX7, TX7, 17), rfl, by decide, TG_1 (i := 64) rfl rfl, fun h => absurd h (by decide), fun h => absurd h (by decide), fun _ => ⟨rfl, tyX7 5, tyX7_ok 5 (by decide), rfl⟩⟩, List.forall_mem_cons.mpr ⟨⟨(RX8, TX8, 10), rfl, by decide, TG_1 (i := 148) rfl rfl, fun h => absurd h (by decide), fun h => absurd h (by decide), fun _ => ⟨rfl, tyX8 4, tyX8_ok 4 (by decide), rfl⟩⟩, List.forall_mem_cons.mpr ⟨⟨(RX7, TX7, 17), rfl, by decide, TG_1 (i := 92) rfl rfl, fun h => absurd h (by decide), fun h => absurd h (by decide), fun _ => ⟨rfl, tyX7 14, tyX7_ok 14 (by decide), rfl⟩⟩, List.forall_mem_cons.mpr ⟨⟨(RX10, TX10, 15), rfl, by decide, TG_2 (i := 124) rfl rfl, fun _ => ⟨rfl, rfl⟩, fun h => absurd h (by decide), fun h => absurd h (by decide)⟩, List.forall_mem_cons.mpr ⟨⟨(RX10, TX10, 15), rfl, by decide, TG_2 (i := 123) rfl rfl, fun _ => ⟨rfl, rfl⟩, fun h => absurd h (by decide), fun h => absurd h (by decide)⟩, List.forall_mem_cons.mpr ⟨⟨(RX7, TX7, 17), rfl, by decide, TG_1 (i := 44) rfl rfl, fun _ => ⟨rfl, rfl⟩, fun h => absurd h (by decide), fun h => absurd h (by decide)⟩, List.forall_mem_cons.mpr ⟨⟨(RX7, TX7, 17), rfl, by decide, TG_1 (i := 48) rfl rfl, fun h => absurd h (by decide), fun h => absurd h (by decide), fun _ => ⟨rfl, tyX7 1, tyX7_ok 1 (by decide), rfl⟩⟩, List.forall_mem_cons.mpr ⟨⟨(RX7, TX7, 17), rfl, by decide, TG_1 (i := 51) rfl rfl, fun h => absurd h (by decide), fun h => absurd h (by decide), fun _ => ⟨rfl, tyX7 2, tyX7_ok 2 (by decide), rfl⟩⟩, List.forall_mem_cons.mpr ⟨⟨(RX7, TX7, 17), rfl, by decide, TG_1 (i := 54) rfl rfl, fun h => absurd h (by decide), fun h => absurd h (by decide), fun _ => ⟨rfl, tyX7 3, tyX7_ok 3 (by decide), rfl⟩⟩, List.forall_mem_cons.mpr ⟨⟨(RX7, TX7, 17), rfl, by decide, TG_1 (i := 59) rfl rfl, fun h => absurd h (by decide), fun h => absurd h (by decide), fun _ => ⟨rfl, tyX7 4, tyX7_ok 4 (by decide), rfl⟩⟩, List.forall_mem_cons.mpr ⟨⟨(RX7, TX7, 17), rfl, by decide, TG_1 (i := 70) rfl rfl, fun h => absurd h (by decide), fun h => absurd h (by decide), fun _ => ⟨rfl, tyX7 6, tyX7_ok 6 (by decide), rfl⟩⟩, List.forall_mem_cons.mpr ⟨⟨(RX7, TX7, 17), rfl, by decide, TG_1 (i := 75) rfl rfl, fun h => absurd h (by decide), fun h => absurd h (by decide), fun _ => ⟨rfl, tyX7 7, tyX7_ok 7 (by decide), rfl⟩⟩, List.forall_mem_cons.mpr ⟨⟨(RX8, TX8, 10), rfl, by decide, TG_1 (i := 154) rfl rfl, fun h => absurd h (by decide), fun h => absurd h (by decide), fun _ => ⟨rfl, tyX8 6, tyX8_ok 6 (by decide), rfl⟩⟩, List.forall_mem_cons.mpr ⟨⟨(RX8, TX8, 10), rfl, by decide, TG_1 (i := 150) rfl rfl, fun h => absurd h (by decide), fun h => absurd h (by decide), fun _ => ⟨rfl, tyX8 5, tyX8_ok 5 (by decide), rfl⟩⟩, List.forall_mem_cons.mpr ⟨⟨(RX9, TX9, 6), rfl, by decide, TG_1 (i := 218) rfl rfl, fun _ => ⟨rfl, rfl⟩, fun h => absurd h (by decide), fun h => absurd h (by decide)⟩, List.forall_mem_cons.mpr ⟨⟨(RX9, TX9, 6), rfl, by decide, TG_1 (i := 216) rfl rfl, fun h => absurd h (by decide), fun h => absurd h (by decide), fun _ => ⟨rfl, tyX9 2, tyX9_ok 2 (by decide), rfl⟩⟩, List.forall_mem_cons.mpr ⟨⟨(RX9, TX9, 6), rfl, by decide, TG_1 (i := 220) rfl rfl, fun _ => ⟨rfl, rfl⟩, fun h => absurd h (by decide), fun h => absurd h (by decide)⟩, List.forall_mem_cons.mpr ⟨⟨(RX9, TX9, 6), rfl, by decide, TG_1 (i := 222) rfl rfl, fun _ => ⟨rfl, rfl⟩, fun h => absurd h (by decide), fun h => absurd h (by decide)⟩, List.forall_mem_cons.mpr ⟨⟨(RX6, TX6, 5), rfl, by decide, TG_2 (i := 54) rfl rfl, fun _ => ⟨rfl, rfl⟩, fun h => absurd h (by decide), fun h => absurd h (by decide)⟩, List.forall_mem_cons.mpr ⟨⟨(RX6, TX6, 5), rfl, by decide, TG_2 (i := 52) rfl rfl, fun h => absurd h (by decide), fun h => absurd h (by decide), fun _ => ⟨rfl, tyX6 2, tyX6_ok 2 (by decide), rfl⟩⟩, List.forall_mem_cons.mpr ⟨⟨(RX1, TX1, 4), rfl, by decide, TG_2 (i := 78) rfl rfl, fun _ => ⟨rfl, rfl⟩, fun h => absurd h (by decide), fun h => absurd h (by decide)⟩, List.forall_mem_cons.mpr ⟨⟨(RX1, TX1, 4), rfl, by decide, TG_2 (i := 76) rfl rfl, fun h => absurd h (by decide), fun h => absurd h (by decide), fun _ => ⟨rfl, tyX1 2, tyX1_ok 2 (by decide), rfl⟩⟩, List.forall_mem_cons.mpr ⟨⟨(RX7, TX7, 17), rfl, by decide, TG_1 (i := 95) rfl rfl, fun h => absurd h (by decide), fun _ => ⟨rfl, rfl⟩, fun h => absurd h (by decide)⟩, List.forall_mem_cons.mpr ⟨⟨(RX8, TX8, 10), rfl, by decide, TG_1 (i := 144) rfl rfl, fun h => absurd h (by decide), fun h => absurd h (by decide), fun _ => ⟨rfl, tyX8 2, tyX8_ok 2 (by decide), rfl⟩⟩, List.forall_mem_nil _⟩⟩⟩⟩⟩⟩⟩⟩⟩⟩⟩⟩⟩⟩⟩⟩⟩⟩⟩⟩⟩⟩⟩⟩⟩⟩⟩⟩⟩⟩⟩⟩⟩⟩⟩⟩⟩⟩⟩⟩⟩
set_option maxRecDepth 10000 in
theorem mF_11 : ∀ x ∈ mPoolF 11, mWF 11 x := List.forall_mem_cons.mpr ⟨⟨(RX11, TX11, 20), rfl, by decide, TG_5 (i := 219) rfl rfl, fun h => absurd h (by decide), fun h => absurd h (by decide), fun _ => ⟨rfl, tyX11 0, tyX11_ok 0 (by decide), rfl⟩⟩, List.forall_mem_cons.mpr ⟨⟨(RX11, TX11, 20), rfl, by decide, TG_5 (i := 220) rfl rfl, fun h => absurd h (by decide), fun h => absurd h (by decide), fun _ => ⟨rfl, tyX11 1, tyX11_ok 1 (by decide), rfl⟩⟩, List.forall_mem_cons.mpr ⟨⟨(RX11, TX11, 20), rfl, by decide, TG_5 (i := 223) rfl rfl, fun h => absurd h (by decide), fun h => absurd h (by decide), fun _ => ⟨rfl, tyX11 4, tyX11_ok 4 (by decide), rfl⟩⟩, List.forall_mem_cons.mpr ⟨⟨(RX11, TX11, 20), rfl, by decide, TG_5 (i := 224) rfl rfl, fun h => absurd h (by decide), fun h => absurd h (by decide), fun _ => ⟨rfl, tyX11 5, tyX11_ok 5 (by decide), rfl⟩⟩, List.forall_mem_cons.mpr ⟨⟨(RX11, TX11, 20), rfl, by decide, TG_5 (i := 225) rfl rfl, fun h => absurd h (by decide), fun h => absurd h (by decide), fun _ => ⟨rfl, tyX11 6, tyX11_ok 6 (by decide), rfl⟩⟩, List.forall_mem_cons.mpr ⟨⟨(RX11, TX11, 20), rfl, by decide, TG_5 (i := 226) rfl rfl, fun h => absurd h (by decide), fun h => absurd h (by decide), fun _ => ⟨rfl, tyX11 7, tyX11_ok 7 (by decide), rfl⟩⟩, List.forall_mem_cons.mpr ⟨⟨(RX11, TX11, 20), rfl, by decide, TG_5 (i := 227) rfl rfl, fun h => absurd h (by decide), fun h => absurd h (by decide), fun _ => ⟨rfl, tyX11 8, tyX11_ok 8 (by decide), rfl⟩⟩, List.forall_mem_cons.mpr ⟨⟨(RX11, TX11, 20), rfl, by decide, TG_5 (i := 228) rfl rfl, fun h => absurd h (by decide), fun h => absurd h (by decide), fun _ => ⟨rfl, tyX11 9, tyX11_ok 9 (by decide), rfl⟩⟩, List.forall_mem_cons.mpr ⟨⟨(RX11, TX11, 20), rfl, by decide, TG_5 (i := 229) rfl rfl, fun h => absurd h (by decide), fun h => absurd h (by decide), fun _ => ⟨rfl, tyX11 10, tyX11_ok 10 (by decide), rfl⟩⟩, List.forall_mem_cons.mpr ⟨⟨(RX11, TX11, 20), rfl, by decide, TG_5 (i := 230) rfl rfl, fun h => absurd h (by decide), fun h => absurd h (by decide), fun _ => ⟨rfl, tyX11 11, tyX11_ok 11 (by decide), rfl⟩⟩, List.forall_mem_cons.mpr ⟨⟨(RX11, TX11, 20), rfl, by decide, TG_5 (i := 231) rfl rfl, fun h => absurd h (by decide), fun h => absurd h (by decide), fun _ => ⟨rfl, tyX11 12, tyX11_ok 12 (by decide), rfl⟩⟩, List.forall_mem_cons.mpr ⟨⟨(RX11, TX11, 20), rfl, by decide, TG_5 (i := 232) rfl rfl, fun h => absurd h (by decide), fun h => absurd h (by decide), fun _ => ⟨rfl, tyX11 13, tyX11_ok 13 (by decide), rfl⟩⟩, List.forall_mem_cons.mpr ⟨⟨(RX11, TX11, 20), rfl, by decide, TG_5 (i := 233) rfl rfl, fun h => absurd h (by decide), fun h => absurd h (by decide), fun _ => ⟨rfl, tyX11 14, tyX11_ok 14 (by decide), rfl⟩⟩, List.forall_mem_cons.mpr ⟨⟨(RX11, TX11, 20), rfl, by decide, TG_5 (i := 234) rfl rfl, fun h => absurd h (by decide), fun h => absurd h (by decide), fun _ => ⟨rfl, tyX11 15, tyX11_ok 15 (by decide), rfl⟩⟩, List.forall_mem_cons.mpr ⟨⟨(RX11, TX11, 20), rfl, by decide, TG_5 (i := 235) rfl rfl, fun h => absurd h (by decide), fun h => absurd h (by decide), fun _ => ⟨rfl, tyX11 16, tyX11_ok 16 (by decide), rfl⟩⟩, List.forall_mem_cons.mpr ⟨⟨(RX11, TX11, 20), rfl, by decide, TG_5 (i := 236) rfl rfl, fun h => absurd h (by decide), fun h => absurd h (by decide), fun _ => ⟨rfl, tyX11 17, tyX11_ok 17 (by decide), rfl⟩⟩, List.forall_mem_cons.mpr ⟨⟨(RX11, TX11, 20), rfl, by decide, TG_5 (i := 237) rfl rfl, fun h => absurd h (by decide), fun h => absurd h (by decide), fun _ => ⟨rfl, tyX11 18, tyX11_ok 18 (by decide), rfl⟩⟩, List.forall_mem_cons.mpr ⟨⟨(RX11, TX11, 20), rfl, by decide, TG_5 (i := 222) rfl rfl, fun _ => ⟨rfl, rfl⟩, fun h => absurd h (by decide), fun h => absurd h (by decide)⟩, List.forall_mem_cons.mpr ⟨⟨(RX11, TX11, 20), rfl, by decide, TG_5 (i := 221) rfl rfl, fun _ => ⟨rfl, rfl⟩, fun h => absurd h (by decide), fun h => absurd h (by decide)⟩, List.forall_mem_cons.mpr ⟨⟨(RX11, TX11, 20), rfl, by decide, TG_5 (i := 238) rfl rfl, fun _ => ⟨rfl, rfl⟩, fun h => absurd h (by decide), fun h => absurd h (by decide)⟩, List.forall_mem_nil _⟩⟩⟩⟩⟩⟩⟩⟩⟩⟩⟩⟩⟩⟩⟩⟩⟩⟩⟩⟩
theorem mF_ok (o : Nat) : ∀ x ∈ mPoolF o, mWF o x := by
  match o with
  | 0 => exact mF_0
  | 1 => exact mF_1
  | 2 => exact mF_2
  | 3 => exact mF_3
  | 4 => exact mF_4
  | 5 => exact mF_5
  | 6 => exact mF_6
  | 7 => exact mF_7
  | 8 => exact mF_8
  | 9 => exact mF_9
  | 10 => exact mF_10
  | 11 => exact mF_11
  | n => 
    intro x hx
    unfold mPoolF at hx
    split at hx <;> first | exact absurd hx List.not_mem_nil | skip
    · exact mF_0 x hx
    · exact mF_1 x hx
    · exact mF_2 x hx
    · exact mF_3 x hx
    · exact mF_4 x hx
    · exact mF_5 x hx
    · exact mF_6 x hx
    · exact mF_7 x hx
    · exact mF_8 x hx
    · exact mF_9 x hx
    · exact mF_10 x hx
    · exact mF_11 x hx
def mPoolM : Nat → List (Nat × Nat × Nat)
  | 0 => [(3, 0, 4), (23, 40, 0), (29, 0, 6), (43, 47, 0), (48, 2, 0), (52, 56, 0), (55, 68, 0), (63, 0, 7), (72, 48, 0), (76, 57, 0)]
  | 1 => [(3, 0, 4), (26, 5, 0), (30, 6, 0), (39, 237, 1), (44, 0, 7)]
  | 2 => [(3, 0, 4), (23, 241, 1), (38, 9, 0), (45, 49, 0), (51, 0, 6), (60, 0, 5), (63, 44, 0)]
  | 3 => [(3, 0, 4)]
  | 4 => [(3, 0, 4), (19, 41, 0), (25, 0, 6), (30, 15, 0), (40, 0, 5), (43, 240, 1)]
  | 5 => [(3, 0, 4), (11, 10, 3), (22, 11, 0), (31, 41, 0), (35, 12, 0), (43, 17, 0), (51, 18, 0), (54, 0, 5), (59, 22, 0), (69, 23, 0), (72, 24, 0)]
  | 6 => [(3, 0, 4), (30, 29, 0), (39, 0, 7), (45, 30, 0)]
  | 7 => [(3, 0, 4), (61, 33, 1), (69, 0, 6), (75, 0, 7), (81, 35, 0), (85, 36, 0), (89, 41, 0), (92, 0, 5), (95, 42, 0)]
  | 8 => [(3, 0, 4), (44, 241, 1), (64, 50, 0), (68, 49, 0), (83, 53, 0), (90, 52, 0), (93, 51, 0), (96, 0, 5), (102, 54, 0), (105, 45, 0), (109, 48, 0), (113, 55, 0), (116, 47, 0), (123, 59, 0), (127, 40, 0), (132, 56, 0), (135, 63, 0), (138, 64, 0), (148, 66, 0), (151, 41, 0), (154, 67, 0), (157, 0, 6)]
  | 9 => [(3, 0, 4), (33, 72, 0), (42, 0, 5), (48, 73, 0), (60, 49, 0)]
  | 10 => [(3, 0, 4), (11, 31, 3), (18, 46, 2), (41, 0, 2), (50, 70, 2), (57, 7, 2), (64, 16, 2), (71, 27, 2), (78, 3, 2), (85, 13, 2), (90, 35, 0), (94, 36, 0), (98, 119, 1), (102, 124, 1), (116, 131, 0), (119, 37, 0), (122, 58, 0), (131, 120, 1), (137, 132, 0), (140, 128, 0), (143, 121, 0), (151, 38, 0), (157, 39, 0), (161, 125, 1), (164, 47, 0), (167, 62, 0), (170, 133, 0), (174, 134, 0), (183, 126, 1), (186, 40, 0), (191, 1, 0), (194, 68, 0), (205, 135, 0), (211, 129, 0), (214, 61, 0), (218, 60, 0), (223, 127, 1), (236, 32, 0), (254, 41, 0), (258, 122, 0), (271, 67, 0), (274, 43, 0), (282, 130, 1), (285, 49, 0), (288, 71, 0), (303, 59, 0), (306, 19, 0), (309, 20, 0), (312, 21, 0), (315, 237, 1), (320, 25, 0), (323, 123, 0), (326, 26, 0), (329, 28, 0), (336, 4, 0), (345, 14, 0), (348, 69, 0), (351, 42, 0), (358, 8, 0), (375, 0, 6), (383, 34, 0), (389, 48, 0), (392, 56, 0), (395, 0, 7), (401, 65, 0)]
  | 11 => [(3, 0, 4), (61, 140, 0), (65, 141, 0), (73, 142, 0), (77, 144, 0), (80, 145, 0), (83, 138, 1), (87, 148, 0), (91, 153, 0), (95, 143, 0), (98, 154, 0), (101, 0, 5), (106, 152, 0), (109, 151, 0), (112, 155, 0), (116, 156, 0), (120, 147, 0), (124, 157, 0), (128, 161, 0), (131, 163, 0), (135, 0, 7), (141, 158, 0), (145, 159, 0), (151, 139, 0), (155, 167, 0), (158, 166, 0), (161, 164, 0), (164, 162, 0), (167, 165, 0), (172, 160, 0), (175, 178, 0), (178, 177, 0), (181, 176, 0), (184, 180, 0), (187, 150, 0), (190, 183, 0), (193, 146, 0), (196, 149, 0), (199, 190, 0), (202, 195, 0), (205, 198, 0), (208, 199, 0), (214, 201, 0), (217, 200, 0), (220, 202, 0), (223, 205, 0), (227, 210, 0), (230, 211, 0), (233, 212, 0), (236, 215, 0), (239, 221, 0), (242, 220, 0), (245, 222, 0), (248, 226, 1), (251, 225, 0), (256, 229, 0), (260, 0, 6), (263, 234, 0), (266, 194, 0), (269, 235, 0)]
  | 12 => [(7, 75, 0), (19, 76, 0), (22, 77, 0), (25, 78, 0), (29, 79, 0), (32, 80, 0), (36, 81, 0), (39, 82, 0), (43, 83, 0), (46, 84, 0), (50, 85, 0), (53, 86, 0), (56, 87, 0), (59, 90, 0), (62, 91, 0), (65, 92, 0), (68, 93, 0), (71, 94, 0), (74, 96, 0), (77, 97, 0), (80, 98, 0), (84, 99, 0), (87, 100, 0), (90, 101, 0), (93, 102, 0), (96, 103, 0), (99, 107, 0), (103, 109, 0), (106, 111, 0), (109, 112, 0), (112, 113, 0), (115, 114, 0), (118, 115, 0), (121, 116, 0), (125, 117, 0), (129, 74, 2), (132, 136, 2), (133, 242, 8), (138, 168, 0), (139, 137, 0), (142, 243, 8), (144, 169, 0), (145, 244, 8), (147, 170, 0), (148, 245, 8), (151, 171, 0), (152, 246, 8), (154, 172, 0), (155, 247, 8), (158, 173, 0), (159, 248, 8), (161, 174, 0), (164, 249, 8), (167, 175, 0), (168, 250, 8), (170, 179, 0), (171, 251, 8), (174, 181, 0), (175, 252, 8), (177, 182, 0), (178, 253, 8), (180, 184, 0), (181, 254, 8), (183, 185, 0), (184, 88, 0), (187, 186, 0), (188, 89, 0), (191, 187, 0), (192, 255, 8), (194, 188, 0), (195, 256, 8), (197, 189, 0), (198, 257, 8), (200, 191, 0), (201, 258, 8), (203, 192, 0), (204, 259, 8), (206, 193, 0), (207, 95, 0), (210, 194, 0), (211, 260, 8), (213, 196, 0), (214, 261, 8), (216, 197, 0), (217, 262, 8), (220, 203, 0), (221, 263, 8), (223, 204, 0), (224, 264, 8), (226, 206, 0), (227, 265, 8), (229, 207, 0), (230, 266, 8), (232, 208, 0), (233, 267, 8), (235, 209, 0), (236, 104, 0), (239, 213, 0), (240, 105, 0), (243, 214, 0), (244, 106, 0), (247, 216, 0), (248, 268, 8), (250, 217, 0), (251, 108, 0), (254, 218, 0), (255, 269, 8), (257, 219, 0), (258, 110, 0), (261, 223, 0), (262, 270, 8), (264, 224, 0), (265, 271, 8), (267, 227, 0), (268, 272, 8), (270, 228, 0), (271, 273, 8), (273, 230, 0), (274, 274, 8), (276, 231, 0), (277, 275, 8), (280, 232, 0), (281, 276, 8), (284, 233, 0), (285, 118, 0), (288, 236, 0)]
  | _ => []
def mBad : List Cond := [(Cond.methodLinkNest "JobWorkshop" (11 : Nat) ({ cls := "JobWorkshop$Shop", name := "<init>", desc := "()V" } : Jvm.MethodName) "JobWorkshop"),
  (Cond.methodLinkNest "JobWorkshop$Sequences" (11 : Nat) ({ cls := "JobWorkshop$KeyedJobs", name := "<init>", desc := "()V" } : Jvm.MethodName) "JobWorkshop"),
  (Cond.castable "java/lang/IndexOutOfBoundsException" "java/lang/IndexOutOfBoundsException"),
  (Cond.declares ({ cls := "java/lang/RuntimeException", name := "<init>", desc := "()V" } : Jvm.MethodName)),
  (Cond.declares ({ cls := "java/lang/RuntimeException", name := "<init>", desc := "(Ljava/lang/String;)V" } : Jvm.MethodName)),
  (Cond.declares ({ cls := "java/lang/Exception", name := "<init>", desc := "()V" } : Jvm.MethodName)),
  (Cond.declares ({ cls := "java/lang/Exception", name := "<init>", desc := "(Ljava/lang/String;)V" } : Jvm.MethodName)),
  (Cond.declares ({ cls := "java/lang/Throwable", name := "<init>", desc := "()V" } : Jvm.MethodName)),
  (Cond.declares ({ cls := "java/lang/Throwable", name := "<init>", desc := "(Ljava/lang/String;)V" } : Jvm.MethodName)),
  (Cond.castable "java/lang/IllegalArgumentException" "java/lang/IllegalArgumentException"),
  (Cond.castable "java/lang/IllegalStateException" "java/lang/IllegalStateException")]
theorem mBad_tbl : ∀ w ∈ mBad, w ∈ lw_tbl := List.forall_mem_cons.mpr ⟨TT_1 (i := 33) rfl, List.forall_mem_cons.mpr ⟨TT_2 (i := 20) rfl, List.forall_mem_cons.mpr ⟨TT_3 (i := 149) rfl, List.forall_mem_cons.mpr ⟨TT_3 (i := 150) rfl, List.forall_mem_cons.mpr ⟨TT_3 (i := 151) rfl, List.forall_mem_cons.mpr ⟨TT_3 (i := 152) rfl, List.forall_mem_cons.mpr ⟨TT_3 (i := 153) rfl, List.forall_mem_cons.mpr ⟨TT_3 (i := 154) rfl, List.forall_mem_cons.mpr ⟨TT_3 (i := 155) rfl, List.forall_mem_cons.mpr ⟨TT_3 (i := 220) rfl, List.forall_mem_cons.mpr ⟨TT_3 (i := 236) rfl, List.forall_mem_nil _⟩⟩⟩⟩⟩⟩⟩⟩⟩⟩⟩
theorem mBad_on : ∀ w ∈ mBad, w.onTables = true := by decide +kernel
noncomputable def mLnk (o : Nat) (x : Nat × Nat × Nat) : Cond := match x.2.2 with
  | 4 => .methodLink (mOwn o) x.1 Lib.objectInit
  | 5 => .methodLink (mOwn o) x.1 Lib.Math.max.name
  | 6 => .methodLink (mOwn o) x.1 Lib.Math.min.name
  | 7 => .methodLink (mOwn o) x.1 arraycopyName
  | 3 => .methodLinkNest (mOwn o) x.1 (mY x.2.1) "JobWorkshop"
  | _ => .methodLink (mOwn o) x.1 (mY x.2.1)
def mWM (o : Nat) (x : Nat × Nat × Nat) : Prop := (x.2.2 = 3 → mLnk o x ∈ mBad) ∧ (x.2.2 ≠ 3 → mLnk o x ∈ TG) ∧ x.2.1 < 277 ∧ x.2.1 ≠ 238 ∧ x.2.1 ≠ 239
set_option maxRecDepth 10000 in
theorem mM_0 : ∀ x ∈ mPoolM 0, mWM 0 x := List.forall_mem_cons.mpr ⟨⟨fun h => absurd h (by decide), fun _ => TG_1 (i := 187) rfl rfl, by decide, by decide, by decide⟩, List.forall_mem_cons.mpr ⟨⟨fun h => absurd h (by decide), fun _ => TG_4 (i := 146) rfl rfl, by decide, by decide, by decide⟩, List.forall_mem_cons.mpr ⟨⟨fun h => absurd h (by decide), fun _ => TG_4 (i := 147) rfl rfl, by decide, by decide, by decide⟩, List.forall_mem_cons.mpr ⟨⟨fun h => absurd h (by decide), fun _ => TG_4 (i := 148) rfl rfl, by decide, by decide, by decide⟩, List.forall_mem_cons.mpr ⟨⟨fun h => absurd h (by decide), fun _ => TG_4 (i := 149) rfl rfl, by decide, by decide, by decide⟩, List.forall_mem_cons.mpr ⟨⟨fun h => absurd h (by decide), fun _ => TG_4 (i := 156) rfl rfl, by decide, by decide, by decide⟩, List.forall_mem_cons.mpr ⟨⟨fun h => absurd h (by decide), fun _ => TG_4 (i := 153) rfl rfl, by decide, by decide, by decide⟩, List.forall_mem_cons.mpr ⟨⟨fun h => absurd h (by decide), fun _ => TG_4 (i := 154) rfl rfl, by decide, by decide, by decide⟩, List.forall_mem_cons.mpr ⟨⟨fun h => absurd h (by decide), fun _ => TG_4 (i := 155) rfl rfl, by decide, by decide, by decide⟩, List.forall_mem_cons.mpr ⟨⟨fun h => absurd h (by decide), fun _ => TG_4 (i := 157) rfl rfl, by decide, by decide, by decide⟩, List.forall_mem_nil _⟩⟩⟩⟩⟩⟩⟩⟩⟩⟩
set_option maxRecDepth 10000 in
theorem mM_1 : ∀ x ∈ mPoolM 1, mWM 1 x := List.forall_mem_cons.mpr ⟨⟨fun h => absurd h (by decide), fun _ => TG_2 (i := 72) rfl rfl, by decide, by decide, by decide⟩, List.forall_mem_cons.mpr ⟨⟨fun h => absurd h (by decide), fun _ => TG_5 (i := 135) rfl rfl, by decide, by decide, by decide⟩, List.forall_mem_cons.mpr ⟨⟨fun h => absurd h (by decide), fun _ => TG_5 (i := 139) rfl rfl, by decide, by decide, by decide⟩, List.forall_mem_cons.mpr ⟨⟨fun h => absurd h (by decide), fun _ => TG_5 (i := 143) rfl rfl, by decide, by decide, by decide⟩, List.forall_mem_cons.mpr ⟨⟨fun h => absurd h (by decide), fun _ => TG_5 (i := 144) rfl rfl, by decide, by decide, by decide⟩, List.forall_mem_nil _⟩⟩⟩⟩⟩
set_option maxRecDepth 10000 in
theorem mM_2 : ∀ x ∈ mPoolM 2, mWM 2 x := List.forall_mem_cons.mpr ⟨⟨fun h => absurd h (by decide), fun _ => TG_2 (i := 1) rfl rfl, by decide, by decide, by decide⟩, List.forall_mem_cons.mpr ⟨⟨fun h => absurd h (by decide), fun _ => TG_3 (i := 122) rfl rfl, by decide, by decide, by decide⟩, List.forall_mem_cons.mpr ⟨⟨fun h => absurd h (by decide), fun _ => TG_3 (i := 123) rfl rfl, by decide, by decide, by decide⟩, List.forall_mem_cons.mpr ⟨⟨fun h => absurd h (by decide), fun _ => TG_3 (i := 127) rfl rfl, by decide, by decide, by decide⟩, List.forall_mem_cons.mpr ⟨⟨fun h => absurd h (by decide), fun _ => TG_3 (i := 128) rfl rfl, by decide, by decide, by decide⟩, List.forall_mem_cons.mpr ⟨⟨fun h => absurd h (by decide), fun _ => TG_3 (i := 129) rfl rfl, by decide, by decide, by decide⟩, List.forall_mem_cons.mpr ⟨⟨fun h => absurd h (by decide), fun _ => TG_3 (i := 130) rfl rfl, by decide, by decide, by decide⟩, List.forall_mem_nil _⟩⟩⟩⟩⟩⟩⟩
set_option maxRecDepth 10000 in
theorem mM_3 : ∀ x ∈ mPoolM 3, mWM 3 x := List.forall_mem_cons.mpr ⟨⟨fun h => absurd h (by decide), fun _ => TG_2 (i := 23) rfl rfl, by decide, by decide, by decide⟩, List.forall_mem_nil _⟩
set_option maxRecDepth 10000 in
theorem mM_4 : ∀ x ∈ mPoolM 4, mWM 4 x := List.forall_mem_cons.mpr ⟨⟨fun h => absurd h (by decide), fun _ => TG_2 (i := 93) rfl rfl, by decide, by decide, by decide⟩, List.forall_mem_cons.mpr ⟨⟨fun h => absurd h (by decide), fun _ => TG_5 (i := 163) rfl rfl, by decide, by decide, by decide⟩, List.forall_mem_cons.mpr ⟨⟨fun h => absurd h (by decide), fun _ => TG_5 (i := 164) rfl rfl, by decide, by decide, by decide⟩, List.forall_mem_cons.mpr ⟨⟨fun h => absurd h (by decide), fun _ => TG_5 (i := 165) rfl rfl, by decide, by decide, by decide⟩, List.forall_mem_cons.mpr ⟨⟨fun h => absurd h (by decide), fun _ => TG_5 (i := 173) rfl rfl, by decide, by decide, by decide⟩, List.forall_mem_cons.mpr ⟨⟨fun h => absurd h (by decide), fun _ => TG_5 (i := 169) rfl rfl, by decide, by decide, by decide⟩, List.forall_mem_nil _⟩⟩⟩⟩⟩⟩
set_option maxRecDepth 10000 in
theorem mM_5 : ∀ x ∈ mPoolM 5, mWM 5 x := List.forall_mem_cons.mpr ⟨⟨fun h => absurd h (by decide), fun _ => TG_2 (i := 17) rfl rfl, by decide, by decide, by decide⟩, List.forall_mem_cons.mpr ⟨⟨fun _ => List.mem_of_getElem? (i := 1) rfl, fun h => absurd rfl h, by decide, by decide, by decide⟩, List.forall_mem_cons.mpr ⟨⟨fun h => absurd h (by decide), fun _ => TG_3 (i := 28) rfl rfl, by decide, by decide, by decide⟩, List.forall_mem_cons.mpr ⟨⟨fun h => absurd h (by decide), fun _ => TG_3 (i := 32) rfl rfl, by decide, by decide, by decide⟩, List.forall_mem_cons.mpr ⟨⟨fun h => absurd h (by decide), fun _ => TG_3 (i := 33) rfl rfl, by decide, by decide, by decide⟩, List.forall_mem_cons.mpr ⟨⟨fun h => absurd h (by decide), fun _ => TG_3 (i := 24) rfl rfl, by decide, by decide, by decide⟩, List.forall_mem_cons.mpr ⟨⟨fun h => absurd h (by decide), fun _ => TG_3 (i := 45) rfl rfl, by decide, by decide, by decide⟩, List.forall_mem_cons.mpr ⟨⟨fun h => absurd h (by decide), fun _ => TG_3 (i := 49) rfl rfl, by decide, by decide, by decide⟩, List.forall_mem_cons.mpr ⟨⟨fun h => absurd h (by decide), fun _ => TG_3 (i := 58) rfl rfl, by decide, by decide, by decide⟩, List.forall_mem_cons.mpr ⟨⟨fun h => absurd h (by decide), fun _ => TG_3 (i := 80) rfl rfl, by decide, by decide, by decide⟩, List.forall_mem_cons.mpr ⟨⟨fun h => absurd h (by decide), fun _ => TG_3 (i := 76) rfl rfl, by decide, by decide, by decide⟩, List.forall_mem_nil _⟩⟩⟩⟩⟩⟩⟩⟩⟩⟩⟩
set_option maxRecDepth 10000 in
theorem mM_6 : ∀ x ∈ mPoolM 6, mWM 6 x := List.forall_mem_cons.mpr ⟨⟨fun h => absurd h (by decide), fun _ => TG_2 (i := 48) rfl rfl, by decide, by decide, by decide⟩, List.forall_mem_cons.mpr ⟨⟨fun h => absurd h (by decide), fun _ => TG_3 (i := 92) rfl rfl, by decide, by decide, by decide⟩, List.forall_mem_cons.mpr ⟨⟨fun h => absurd h (by decide), fun _ => TG_3 (i := 96) rfl rfl, by decide, by decide, by decide⟩, List.forall_mem_cons.mpr ⟨⟨fun h => absurd h (by decide), fun _ => TG_3 (i := 97) rfl rfl, by decide, by decide, by decide⟩, List.forall_mem_nil _⟩⟩⟩⟩
set_option maxRecDepth 10000 in
theorem mM_7 : ∀ x ∈ mPoolM 7, mWM 7 x := List.forall_mem_cons.mpr ⟨⟨fun h => absurd h (by decide), fun _ => TG_1 (i := 36) rfl rfl, by decide, by decide, by decide⟩, List.forall_mem_cons.mpr ⟨⟨fun h => absurd h (by decide), fun _ => TG_2 (i := 164) rfl rfl, by decide, by decide, by decide⟩, List.forall_mem_cons.mpr ⟨⟨fun h => absurd h (by decide), fun _ => TG_2 (i := 167) rfl rfl, by decide, by decide, by decide⟩, List.forall_mem_cons.mpr ⟨⟨fun h => absurd h (by decide), fun _ => TG_2 (i := 170) rfl rfl, by decide, by decide, by decide⟩, List.forall_mem_cons.mpr ⟨⟨fun h => absurd h (by decide), fun _ => TG_4 (i := 82) rfl rfl, by decide, by decide, by decide⟩, List.forall_mem_cons.mpr ⟨⟨fun h => absurd h (by decide), fun _ => TG_4 (i := 83) rfl rfl, by decide, by decide, by decide⟩, List.forall_mem_cons.mpr ⟨⟨fun h => absurd h (by decide), fun _ => TG_3 (i := 7) rfl rfl, by decide, by decide, by decide⟩, List.forall_mem_cons.mpr ⟨⟨fun h => absurd h (by decide), fun _ => TG_3 (i := 11) rfl rfl, by decide, by decide, by decide⟩, List.forall_mem_cons.mpr ⟨⟨fun h => absurd h (by decide), fun _ => TG_3 (i := 12) rfl rfl, by decide, by decide, by decide⟩, List.forall_mem_nil _⟩⟩⟩⟩⟩⟩⟩⟩⟩
set_option maxRecDepth 10000 in
theorem mM_8 : ∀ x ∈ mPoolM 8, mWM 8 x := List.forall_mem_cons.mpr ⟨⟨fun h => absurd h (by decide), fun _ => TG_1 (i := 139) rfl rfl, by decide, by decide, by decide⟩, List.forall_mem_cons.mpr ⟨⟨fun h => absurd h (by decide), fun _ => TG_2 (i := 181) rfl rfl, by decide, by decide, by decide⟩, List.forall_mem_cons.mpr ⟨⟨fun h => absurd h (by decide), fun _ => TG_2 (i := 192) rfl rfl, by decide, by decide, by decide⟩, List.forall_mem_cons.mpr ⟨⟨fun h => absurd h (by decide), fun _ => TG_2 (i := 216) rfl rfl, by decide, by decide, by decide⟩, List.forall_mem_cons.mpr ⟨⟨fun h => absurd h (by decide), fun _ => TG_2 (i := 227) rfl rfl, by decide, by decide, by decide⟩, List.forall_mem_cons.mpr ⟨⟨fun h => absurd h (by decide), fun _ => TG_2 (i := 204) rfl rfl, by decide, by decide, by decide⟩, List.forall_mem_cons.mpr ⟨⟨fun h => absurd h (by decide), fun _ => TG_2 (i := 212) rfl rfl, by decide, by decide, by decide⟩, List.forall_mem_cons.mpr ⟨⟨fun h => absurd h (by decide), fun _ => TG_2 (i := 220) rfl rfl, by decide, by decide, by decide⟩, List.forall_mem_cons.mpr ⟨⟨fun h => absurd h (by decide), fun _ => TG_2 (i := 223) rfl rfl, by decide, by decide, by decide⟩, List.forall_mem_cons.mpr ⟨⟨fun h => absurd h (by decide), fun _ => TG_2 (i := 231) rfl rfl, by decide, by decide, by decide⟩, List.forall_mem_cons.mpr ⟨⟨fun h => absurd h (by decide), fun _ => TG_2 (i := 200) rfl rfl, by decide, by decide, by decide⟩, List.forall_mem_cons.mpr ⟨⟨fun h => absurd h (by decide), fun _ => TG_2 (i := 208) rfl rfl, by decide, by decide, by decide⟩, List.forall_mem_cons.mpr ⟨⟨fun h => absurd h (by decide), fun _ => TG_2 (i := 177) rfl rfl, by decide, by decide, by decide⟩, List.forall_mem_cons.mpr ⟨⟨fun h => absurd h (by decide), fun _ => TG_2 (i := 184) rfl rfl, by decide, by decide, by decide⟩, List.forall_mem_cons.mpr ⟨⟨fun h => absurd h (by decide), fun _ => TG_2 (i := 188) rfl rfl, by decide, by decide, by decide⟩, List.forall_mem_cons.mpr ⟨⟨fun h => absurd h (by decide), fun _ => TG_2 (i := 196) rfl rfl, by decide, by decide, by decide⟩, List.forall_mem_cons.mpr ⟨⟨fun h => absurd h (by decide), fun _ => TG_4 (i := 99) rfl rfl, by decide, by decide, by decide⟩, List.forall_mem_cons.mpr ⟨⟨fun h => absurd h (by decide), fun _ => TG_4 (i := 103) rfl rfl, by decide, by decide, by decide⟩, List.forall_mem_cons.mpr ⟨⟨fun h => absurd h (by decide), fun _ => TG_3 (i := 113) rfl rfl, by decide, by decide, by decide⟩, List.forall_mem_cons.mpr ⟨⟨fun h => absurd h (by decide), fun _ => TG_3 (i := 117) rfl rfl, by decide, by decide, by decide⟩, List.forall_mem_cons.mpr ⟨⟨fun h => absurd h (by decide), fun _ => TG_3 (i := 109) rfl rfl, by decide, by decide, by decide⟩, List.forall_mem_cons.mpr ⟨⟨fun h => absurd h (by decide), fun _ => TG_5 (i := 185) rfl rfl, by decide, by decide, by decide⟩, List.forall_mem_nil _⟩⟩⟩⟩⟩⟩⟩⟩⟩⟩⟩⟩⟩⟩⟩⟩⟩⟩⟩⟩⟩⟩
set_option maxRecDepth 10000 in
theorem mM_9 : ∀ x ∈ mPoolM 9, mWM 9 x := List.forall_mem_cons.mpr ⟨⟨fun h => absurd h (by decide), fun _ => TG_1 (i := 212) rfl rfl, by decide, by decide, by decide⟩, List.forall_mem_cons.mpr ⟨⟨fun h => absurd h (by decide), fun _ => TG_5 (i := 49) rfl rfl, by decide, by decide, by decide⟩, List.forall_mem_cons.mpr ⟨⟨fun h => absurd h (by decide), fun _ => TG_5 (i := 54) rfl rfl, by decide, by decide, by decide⟩, List.forall_mem_cons.mpr ⟨⟨fun h => absurd h (by decide), fun _ => TG_5 (i := 55) rfl rfl, by decide, by decide, by decide⟩, List.forall_mem_cons.mpr ⟨⟨fun h => absurd h (by decide), fun _ => TG_5 (i := 53) rfl rfl, by decide, by decide, by decide⟩, List.forall_mem_nil _⟩⟩⟩⟩⟩
set_option maxRecDepth 10000 in
theorem mM_10 : ∀ x ∈ mPoolM 10, mWM 10 x := List.forall_mem_cons.mpr ⟨⟨fun h => absurd h (by decide), fun _ => TG_1 (i := 28) rfl rfl, by decide, by decide, by decide⟩, List.forall_mem_cons.mpr ⟨⟨fun _ => List.mem_of_getElem? (i := 0) rfl, fun h => absurd rfl h, by decide, by decide, by decide⟩, List.forall_mem_cons.mpr ⟨⟨fun h => absurd h (by decide), fun _ => TG_1 (i := 136) rfl rfl, by decide, by decide, by decide⟩, List.forall_mem_cons.mpr ⟨⟨fun h => absurd h (by decide), fun _ => TG_1 (i := 184) rfl rfl, by decide, by decide, by decide⟩, List.forall_mem_cons.mpr ⟨⟨fun h => absurd h (by decide), fun _ => TG_1 (i := 209) rfl rfl, by decide, by decide, by decide⟩, List.forall_mem_cons.mpr ⟨⟨fun h => absurd h (by decide), fun _ => TG_1 (i := 238) rfl rfl, by decide, by decide, by decide⟩, List.forall_mem_cons.mpr ⟨⟨fun h => absurd h (by decide), fun _ => TG_2 (i := 14) rfl rfl, by decide, by decide, by decide⟩, List.forall_mem_cons.mpr ⟨⟨fun h => absurd h (by decide), fun _ => TG_2 (i := 45) rfl rfl, by decide, by decide, by decide⟩, List.forall_mem_cons.mpr ⟨⟨fun h => absurd h (by decide), fun _ => TG_2 (i := 69) rfl rfl, by decide, by decide, by decide⟩, List.forall_mem_cons.mpr ⟨⟨fun h => absurd h (by decide), fun _ => TG_2 (i := 90) rfl rfl, by decide, by decide, by decide⟩, List.forall_mem_cons.mpr ⟨⟨fun h => absurd h (by decide), fun _ => TG_2 (i := 102) rfl rfl, by decide, by decide, by decide⟩, List.forall_mem_cons.mpr ⟨⟨fun h => absurd h (by decide), fun _ => TG_2 (i := 106) rfl rfl, by decide, by decide, by decide⟩, List.forall_mem_cons.mpr ⟨⟨fun h => absurd h (by decide), fun _ => TG_3 (i := 144) rfl rfl, by decide, by decide, by decide⟩, List.forall_mem_cons.mpr ⟨⟨fun h => absurd h (by decide), fun _ => TG_3 (i := 215) rfl rfl, by decide, by decide, by decide⟩, List.forall_mem_cons.mpr ⟨⟨fun h => absurd h (by decide), fun _ => TG_4 (i := 10) rfl rfl, by decide, by decide, by decide⟩, List.forall_mem_cons.mpr ⟨⟨fun h => absurd h (by decide), fun _ => TG_4 (i := 15) rfl rfl, by decide, by decide, by decide⟩, List.forall_mem_cons.mpr ⟨⟨fun h => absurd h (by decide), fun _ => TG_2 (i := 173) rfl rfl, by decide, by decide, by decide⟩, List.forall_mem_cons.mpr ⟨⟨fun h => absurd h (by decide), fun _ => TG_4 (i := 33) rfl rfl, by decide, by decide, by decide⟩, List.forall_mem_cons.mpr ⟨⟨fun h => absurd h (by decide), fun _ => TG_4 (i := 37) rfl rfl, by decide, by decide, by decide⟩, List.forall_mem_cons.mpr ⟨⟨fun h => absurd h (by decide), fun _ => TG_4 (i := 48) rfl rfl, by decide, by decide, by decide⟩, List.forall_mem_cons.mpr ⟨⟨fun h => absurd h (by decide), fun _ => TG_4 (i := 60) rfl rfl, by decide, by decide, by decide⟩, List.forall_mem_cons.mpr ⟨⟨fun h => absurd h (by decide), fun _ => TG_4 (i := 73) rfl rfl, by decide, by decide, by decide⟩, List.forall_mem_cons.mpr ⟨⟨fun h => absurd h (by decide), fun _ => TG_4 (i := 78) rfl rfl, by decide, by decide, by decide⟩, List.forall_mem_cons.mpr ⟨⟨fun h => absurd h (by decide), fun _ => TG_4 (i := 91) rfl rfl, by decide, by decide, by decide⟩, List.forall_mem_cons.mpr ⟨⟨fun h => absurd h (by decide), fun _ => TG_4 (i := 94) rfl rfl, by decide, by decide, by decide⟩, List.forall_mem_cons.mpr ⟨⟨fun h => absurd h (by decide), fun _ => TG_4 (i := 95) rfl rfl, by decide, by decide, by decide⟩, List.forall_mem_cons.mpr ⟨⟨fun h => absurd h (by decide), fun _ => TG_4 (i := 107) rfl rfl, by decide, by decide, by decide⟩, List.forall_mem_cons.mpr ⟨⟨fun h => absurd h (by decide), fun _ => TG_4 (i := 122) rfl rfl, by decide, by decide, by decide⟩, List.forall_mem_cons.mpr ⟨⟨fun h => absurd h (by decide), fun _ => TG_4 (i := 138) rfl rfl, by decide, by decide, by decide⟩, List.forall_mem_cons.mpr ⟨⟨fun h => absurd h (by decide), fun _ => TG_4 (i := 127) rfl rfl, by decide, by decide, by decide⟩, List.forall_mem_cons.mpr ⟨⟨fun h => absurd h (by decide), fun _ => TG_4 (i := 142) rfl rfl, by decide, by decide, by decide⟩, List.forall_mem_cons.mpr ⟨⟨fun h => absurd h (by decide), fun _ => TG_3 (i := 105) rfl rfl, by decide, by decide, by decide⟩, List.forall_mem_cons.mpr ⟨⟨fun h => absurd h (by decide), fun _ => TG_4 (i := 169) rfl rfl, by decide, by decide, by decide⟩, List.forall_mem_cons.mpr ⟨⟨fun h => absurd h (by decide), fun _ => TG_4 (i := 186) rfl rfl, by decide, by decide, by decide⟩, List.forall_mem_cons.mpr ⟨⟨fun h => absurd h (by decide), fun _ => TG_4 (i := 191) rfl rfl, by decide, by decide, by decide⟩, List.forall_mem_cons.mpr ⟨⟨fun h => absurd h (by decide), fun _ => TG_4 (i := 202) rfl rfl, by decide, by decide, by decide⟩, List.forall_mem_cons.mpr ⟨⟨fun h => absurd h (by decide), fun _ => TG_4 (i := 214) rfl rfl, by decide, by decide, by decide⟩, List.forall_mem_cons.mpr ⟨⟨fun h => absurd h (by decide), fun _ => TG_2 (i := 160) rfl rfl, by decide, by decide, by decide⟩, List.forall_mem_cons.mpr ⟨⟨fun h => absurd h (by decide), fun _ => TG_4 (i := 224) rfl rfl, by decide, by decide, by decide⟩, List.forall_mem_cons.mpr ⟨⟨fun h => absurd h (by decide), fun _ => TG_4 (i := 232) rfl rfl, by decide, by decide, by decide⟩, List.forall_mem_cons.mpr ⟨⟨fun h => absurd h (by decide), fun _ => TG_5 (i := 11) rfl rfl, by decide, by decide, by decide⟩, List.forall_mem_cons.mpr ⟨⟨fun h => absurd h (by decide), fun _ => TG_3 (i := 3) rfl rfl, by decide, by decide, by decide⟩, List.forall_mem_cons.mpr ⟨⟨fun h => absurd h (by decide), fun _ => TG_5 (i := 27) rfl rfl, by decide, by decide, by decide⟩, List.forall_mem_cons.mpr ⟨⟨fun h => absurd h (by decide), fun _ => TG_5 (i := 37) rfl rfl, by decide, by decide, by decide⟩, List.forall_mem_cons.mpr ⟨⟨fun h => absurd h (by decide), fun _ => TG_5 (i := 45) rfl rfl, by decide, by decide, by decide⟩, List.forall_mem_cons.mpr ⟨⟨fun h => absurd h (by decide), fun _ => TG_5 (i := 87) rfl rfl, by decide, by decide, by decide⟩, List.forall_mem_cons.mpr ⟨⟨fun h => absurd h (by decide), fun _ => TG_3 (i := 20) rfl rfl, by decide, by decide, by decide⟩, List.forall_mem_cons.mpr ⟨⟨fun h => absurd h (by decide), fun _ => TG_3 (i := 41) rfl rfl, by decide, by decide, by decide⟩, List.forall_mem_cons.mpr ⟨⟨fun h => absurd h (by decide), fun _ => TG_3 (i := 54) rfl rfl, by decide, by decide, by decide⟩, List.forall_mem_cons.mpr ⟨⟨fun h => absurd h (by decide), fun _ => TG_3 (i := 62) rfl rfl, by decide, by decide, by decide⟩, List.forall_mem_cons.mpr ⟨⟨fun h => absurd h (by decide), fun _ => TG_3 (i := 72) rfl rfl, by decide, by decide, by decide⟩, List.forall_mem_cons.mpr ⟨⟨fun h => absurd h (by decide), fun _ => TG_5 (i := 109) rfl rfl, by decide, by decide, by decide⟩, List.forall_mem_cons.mpr ⟨⟨fun h => absurd h (by decide), fun _ => TG_5 (i := 113) rfl rfl, by decide, by decide, by decide⟩, List.forall_mem_cons.mpr ⟨⟨fun h => absurd h (by decide), fun _ => TG_3 (i := 88) rfl rfl, by decide, by decide, by decide⟩, List.forall_mem_cons.mpr ⟨⟨fun h => absurd h (by decide), fun _ => TG_5 (i := 131) rfl rfl, by decide, by decide, by decide⟩, List.forall_mem_cons.mpr ⟨⟨fun h => absurd h (by decide), fun _ => TG_5 (i := 159) rfl rfl, by decide, by decide, by decide⟩, List.forall_mem_cons.mpr ⟨⟨fun h => absurd h (by decide), fun _ => TG_5 (i := 181) rfl rfl, by decide, by decide, by decide⟩, List.forall_mem_cons.mpr ⟨⟨fun h => absurd h (by decide), fun _ => TG_5 (i := 200) rfl rfl, by decide, by decide, by decide⟩, List.forall_mem_cons.mpr ⟨⟨fun h => absurd h (by decide), fun _ => TG_3 (i := 118) rfl rfl, by decide, by decide, by decide⟩, List.forall_mem_cons.mpr ⟨⟨fun h => absurd h (by decide), fun _ => TG_4 (i := 14) rfl rfl, by decide, by decide, by decide⟩, List.forall_mem_cons.mpr ⟨⟨fun h => absurd h (by decide), fun _ => TG_4 (i := 111) rfl rfl, by decide, by decide, by decide⟩, List.forall_mem_cons.mpr ⟨⟨fun h => absurd h (by decide), fun _ => TG_4 (i := 128) rfl rfl, by decide, by decide, by decide⟩, List.forall_mem_cons.mpr ⟨⟨fun h => absurd h (by decide), fun _ => TG_4 (i := 129) rfl rfl, by decide, by decide, by decide⟩, List.forall_mem_cons.mpr ⟨⟨fun h => absurd h (by decide), fun _ => TG_4 (i := 173) rfl rfl, by decide, by decide, by decide⟩, List.forall_mem_cons.mpr ⟨⟨fun h => absurd h (by decide), fun _ => TG_4 (i := 174) rfl rfl, by decide, by decide, by decide⟩, List.forall_mem_nil _⟩⟩⟩⟩⟩⟩⟩⟩⟩⟩⟩⟩⟩⟩⟩⟩⟩⟩⟩⟩⟩⟩⟩⟩⟩⟩⟩⟩⟩⟩⟩⟩⟩⟩⟩⟩⟩⟩⟩⟩⟩⟩⟩⟩⟩⟩⟩⟩⟩⟩⟩⟩⟩⟩⟩⟩⟩⟩⟩⟩⟩⟩⟩⟩⟩
set_option maxRecDepth 10000 in
theorem mM_11 : ∀ x ∈ mPoolM 11, mWM 11 x := List.forall_mem_cons.mpr ⟨⟨fun h => absurd h (by decide), fun _ => TG_5 (i := 206) rfl rfl, by decide, by decide, by decide⟩, List.forall_mem_cons.mpr ⟨⟨fun h => absurd h (by decide), fun _ => TG_5 (i := 207) rfl rfl, by decide, by decide, by decide⟩, List.forall_mem_cons.mpr ⟨⟨fun h => absurd h (by decide), fun _ => TG_5 (i := 211) rfl rfl, by decide, by decide, by decide⟩, List.forall_mem_cons.mpr ⟨⟨fun h => absurd h (by decide), fun _ => TG_5 (i := 215) rfl rfl, by decide, by decide, by decide⟩, List.forall_mem_cons.mpr ⟨⟨fun h => absurd h (by decide), fun _ => TG_6 (i := 88) rfl rfl, by decide, by decide, by decide⟩, List.forall_mem_cons.mpr ⟨⟨fun h => absurd h (by decide), fun _ => TG_6 (i := 133) rfl rfl, by decide, by decide, by decide⟩, List.forall_mem_cons.mpr ⟨⟨fun h => absurd h (by decide), fun _ => TG_6 (i := 48) rfl rfl, by decide, by decide, by decide⟩, List.forall_mem_cons.mpr ⟨⟨fun h => absurd h (by decide), fun _ => TG_6 (i := 80) rfl rfl, by decide, by decide, by decide⟩, List.forall_mem_cons.mpr ⟨⟨fun h => absurd h (by decide), fun _ => TG_6 (i := 120) rfl rfl, by decide, by decide, by decide⟩, List.forall_mem_cons.mpr ⟨⟨fun h => absurd h (by decide), fun _ => TG_6 (i := 92) rfl rfl, by decide, by decide, by decide⟩, List.forall_mem_cons.mpr ⟨⟨fun h => absurd h (by decide), fun _ => TG_6 (i := 116) rfl rfl, by decide, by decide, by decide⟩, List.forall_mem_cons.mpr ⟨⟨fun h => absurd h (by decide), fun _ => TG_6 (i := 124) rfl rfl, by decide, by decide, by decide⟩, List.forall_mem_cons.mpr ⟨⟨fun h => absurd h (by decide), fun _ => TG_6 (i := 125) rfl rfl, by decide, by decide, by decide⟩, List.forall_mem_cons.mpr ⟨⟨fun h => absurd h (by decide), fun _ => TG_6 (i := 100) rfl rfl, by decide, by decide, by decide⟩, List.forall_mem_cons.mpr ⟨⟨fun h => absurd h (by decide), fun _ => TG_6 (i := 112) rfl rfl, by decide, by decide, by decide⟩, List.forall_mem_cons.mpr ⟨⟨fun h => absurd h (by decide), fun _ => TG_6 (i := 141) rfl rfl, by decide, by decide, by decide⟩, List.forall_mem_cons.mpr ⟨⟨fun h => absurd h (by decide), fun _ => TG_6 (i := 157) rfl rfl, by decide, by decide, by decide⟩, List.forall_mem_cons.mpr ⟨⟨fun h => absurd h (by decide), fun _ => TG_6 (i := 153) rfl rfl, by decide, by decide, by decide⟩, List.forall_mem_cons.mpr ⟨⟨fun h => absurd h (by decide), fun _ => TG_6 (i := 129) rfl rfl, by decide, by decide, by decide⟩, List.forall_mem_cons.mpr ⟨⟨fun h => absurd h (by decide), fun _ => TG_6 (i := 137) rfl rfl, by decide, by decide, by decide⟩, List.forall_mem_cons.mpr ⟨⟨fun h => absurd h (by decide), fun _ => TG_6 (i := 59) rfl rfl, by decide, by decide, by decide⟩, List.forall_mem_cons.mpr ⟨⟨fun h => absurd h (by decide), fun _ => TG_6 (i := 149) rfl rfl, by decide, by decide, by decide⟩, List.forall_mem_cons.mpr ⟨⟨fun h => absurd h (by decide), fun _ => TG_6 (i := 161) rfl rfl, by decide, by decide, by decide⟩, List.forall_mem_cons.mpr ⟨⟨fun h => absurd h (by decide), fun _ => TG_6 (i := 51) rfl rfl, by decide, by decide, by decide⟩, List.forall_mem_cons.mpr ⟨⟨fun h => absurd h (by decide), fun _ => TG_6 (i := 55) rfl rfl, by decide, by decide, by decide⟩, List.forall_mem_cons.mpr ⟨⟨fun h => absurd h (by decide), fun _ => TG_6 (i := 68) rfl rfl, by decide, by decide, by decide⟩, List.forall_mem_cons.mpr ⟨⟨fun h => absurd h (by decide), fun _ => TG_6 (i := 104) rfl rfl, by decide, by decide, by decide⟩, List.forall_mem_cons.mpr ⟨⟨fun h => absurd h (by decide), fun _ => TG_6 (i := 108) rfl rfl, by decide, by decide, by decide⟩, List.forall_mem_cons.mpr ⟨⟨fun h => absurd h (by decide), fun _ => TG_6 (i := 145) rfl rfl, by decide, by decide, by decide⟩, List.forall_mem_cons.mpr ⟨⟨fun h => absurd h (by decide), fun _ => TG_6 (i := 174) rfl rfl, by decide, by decide, by decide⟩, List.forall_mem_cons.mpr ⟨⟨fun h => absurd h (by decide), fun _ => TG_6 (i := 178) rfl rfl, by decide, by decide, by decide⟩, List.forall_mem_cons.mpr ⟨⟨fun h => absurd h (by decide), fun _ => TG_6 (i := 182) rfl rfl, by decide, by decide, by decide⟩, List.forall_mem_cons.mpr ⟨⟨fun h => absurd h (by decide), fun _ => TG_6 (i := 186) rfl rfl, by decide, by decide, by decide⟩, List.forall_mem_cons.mpr ⟨⟨fun h => absurd h (by decide), fun _ => TG_6 (i := 194) rfl rfl, by decide, by decide, by decide⟩, List.forall_mem_cons.mpr ⟨⟨fun h => absurd h (by decide), fun _ => TG_6 (i := 202) rfl rfl, by decide, by decide, by decide⟩, List.forall_mem_cons.mpr ⟨⟨fun h => absurd h (by decide), fun _ => TG_6 (i := 210) rfl rfl, by decide, by decide, by decide⟩, List.forall_mem_cons.mpr ⟨⟨fun h => absurd h (by decide), fun _ => TG_6 (i := 230) rfl rfl, by decide, by decide, by decide⟩, List.forall_mem_cons.mpr ⟨⟨fun h => absurd h (by decide), fun _ => TG_6 (i := 238) rfl rfl, by decide, by decide, by decide⟩, List.forall_mem_cons.mpr ⟨⟨fun h => absurd h (by decide), fun _ => TG_7 (i := 6) rfl rfl, by decide, by decide, by decide⟩, List.forall_mem_cons.mpr ⟨⟨fun h => absurd h (by decide), fun _ => TG_7 (i := 22) rfl rfl, by decide, by decide, by decide⟩, List.forall_mem_cons.mpr ⟨⟨fun h => absurd h (by decide), fun _ => TG_7 (i := 34) rfl rfl, by decide, by decide, by decide⟩, List.forall_mem_cons.mpr ⟨⟨fun h => absurd h (by decide), fun _ => TG_7 (i := 38) rfl rfl, by decide, by decide, by decide⟩, List.forall_mem_cons.mpr ⟨⟨fun h => absurd h (by decide), fun _ => TG_7 (i := 50) rfl rfl, by decide, by decide, by decide⟩, List.forall_mem_cons.mpr ⟨⟨fun h => absurd h (by decide), fun _ => TG_7 (i := 54) rfl rfl, by decide, by decide, by decide⟩, List.forall_mem_cons.mpr ⟨⟨fun h => absurd h (by decide), fun _ => TG_7 (i := 46) rfl rfl, by decide, by decide, by decide⟩, List.forall_mem_cons.mpr ⟨⟨fun h => absurd h (by decide), fun _ => TG_7 (i := 66) rfl rfl, by decide, by decide, by decide⟩, List.forall_mem_cons.mpr ⟨⟨fun h => absurd h (by decide), fun _ => TG_7 (i := 94) rfl rfl, by decide, by decide, by decide⟩, List.forall_mem_cons.mpr ⟨⟨fun h => absurd h (by decide), fun _ => TG_7 (i := 90) rfl rfl, by decide, by decide, by decide⟩, List.forall_mem_cons.mpr ⟨⟨fun h => absurd h (by decide), fun _ => TG_7 (i := 86) rfl rfl, by decide, by decide, by decide⟩, List.forall_mem_cons.mpr ⟨⟨fun h => absurd h (by decide), fun _ => TG_7 (i := 106) rfl rfl, by decide, by decide, by decide⟩, List.forall_mem_cons.mpr ⟨⟨fun h => absurd h (by decide), fun _ => TG_7 (i := 134) rfl rfl, by decide, by decide, by decide⟩, List.forall_mem_cons.mpr ⟨⟨fun h => absurd h (by decide), fun _ => TG_7 (i := 130) rfl rfl, by decide, by decide, by decide⟩, List.forall_mem_cons.mpr ⟨⟨fun h => absurd h (by decide), fun _ => TG_7 (i := 126) rfl rfl, by decide, by decide, by decide⟩, List.forall_mem_cons.mpr ⟨⟨fun h => absurd h (by decide), fun _ => TG_7 (i := 150) rfl rfl, by decide, by decide, by decide⟩, List.forall_mem_cons.mpr ⟨⟨fun h => absurd h (by decide), fun _ => TG_7 (i := 146) rfl rfl, by decide, by decide, by decide⟩, List.forall_mem_cons.mpr ⟨⟨fun h => absurd h (by decide), fun _ => TG_7 (i := 162) rfl rfl, by decide, by decide, by decide⟩, List.forall_mem_cons.mpr ⟨⟨fun h => absurd h (by decide), fun _ => TG_7 (i := 170) rfl rfl, by decide, by decide, by decide⟩, List.forall_mem_cons.mpr ⟨⟨fun h => absurd h (by decide), fun _ => TG_7 (i := 188) rfl rfl, by decide, by decide, by decide⟩, List.forall_mem_cons.mpr ⟨⟨fun h => absurd h (by decide), fun _ => TG_7 (i := 183) rfl rfl, by decide, by decide, by decide⟩, List.forall_mem_cons.mpr ⟨⟨fun h => absurd h (by decide), fun _ => TG_7 (i := 184) rfl rfl, by decide, by decide, by decide⟩, List.forall_mem_nil _⟩⟩⟩⟩⟩⟩⟩⟩⟩⟩⟩⟩⟩⟩⟩⟩⟩⟩⟩⟩⟩⟩⟩⟩⟩⟩⟩⟩⟩⟩⟩⟩⟩⟩⟩⟩⟩⟩⟩⟩⟩⟩⟩⟩⟩⟩⟩⟩⟩⟩⟩⟩⟩⟩⟩⟩⟩⟩⟩⟩
set_option maxRecDepth 10000 in
theorem mM_12 : ∀ x ∈ mPoolM 12, mWM 12 x := List.forall_mem_cons.mpr ⟨⟨fun h => absurd h (by decide), fun _ => TG_3 (i := 140) rfl rfl, by decide, by decide, by decide⟩, List.forall_mem_cons.mpr ⟨⟨fun h => absurd h (by decide), fun _ => TG_4 (i := 22) rfl rfl, by decide, by decide, by decide⟩, List.forall_mem_cons.mpr ⟨⟨fun h => absurd h (by decide), fun _ => TG_4 (i := 29) rfl rfl, by decide, by decide, by decide⟩, List.forall_mem_cons.mpr ⟨⟨fun h => absurd h (by decide), fun _ => TG_4 (i := 44) rfl rfl, by decide, by decide, by decide⟩, List.forall_mem_cons.mpr ⟨⟨fun h => absurd h (by decide), fun _ => TG_4 (i := 56) rfl rfl, by decide, by decide, by decide⟩, List.forall_mem_cons.mpr ⟨⟨fun h => absurd h (by decide), fun _ => TG_4 (i := 69) rfl rfl, by decide, by decide, by decide⟩, List.forall_mem_cons.mpr ⟨⟨fun h => absurd h (by decide), fun _ => TG_4 (i := 87) rfl rfl, by decide, by decide, by decide⟩, List.forall_mem_cons.mpr ⟨⟨fun h => absurd h (by decide), fun _ => TG_4 (i := 118) rfl rfl, by decide, by decide, by decide⟩, List.forall_mem_cons.mpr ⟨⟨fun h => absurd h (by decide), fun _ => TG_4 (i := 134) rfl rfl, by decide, by decide, by decide⟩, List.forall_mem_cons.mpr ⟨⟨fun h => absurd h (by decide), fun _ => TG_4 (i := 164) rfl rfl, by decide, by decide, by decide⟩, List.forall_mem_cons.mpr ⟨⟨fun h => absurd h (by decide), fun _ => TG_4 (i := 182) rfl rfl, by decide, by decide, by decide⟩, List.forall_mem_cons.mpr ⟨⟨fun h => absurd h (by decide), fun _ => TG_4 (i := 198) rfl rfl, by decide, by decide, by decide⟩, List.forall_mem_cons.mpr ⟨⟨fun h => absurd h (by decide), fun _ => TG_4 (i := 209) rfl rfl, by decide, by decide, by decide⟩, List.forall_mem_cons.mpr ⟨⟨fun h => absurd h (by decide), fun _ => TG_4 (i := 220) rfl rfl, by decide, by decide, by decide⟩, List.forall_mem_cons.mpr ⟨⟨fun h => absurd h (by decide), fun _ => TG_4 (i := 228) rfl rfl, by decide, by decide, by decide⟩, List.forall_mem_cons.mpr ⟨⟨fun h => absurd h (by decide), fun _ => TG_5 (i := 0) rfl rfl, by decide, by decide, by decide⟩, List.forall_mem_cons.mpr ⟨⟨fun h => absurd h (by decide), fun _ => TG_5 (i := 7) rfl rfl, by decide, by decide, by decide⟩, List.forall_mem_cons.mpr ⟨⟨fun h => absurd h (by decide), fun _ => TG_5 (i := 15) rfl rfl, by decide, by decide, by decide⟩, List.forall_mem_cons.mpr ⟨⟨fun h => absurd h (by decide), fun _ => TG_5 (i := 22) rfl rfl, by decide, by decide, by decide⟩, List.forall_mem_cons.mpr ⟨⟨fun h => absurd h (by decide), fun _ => TG_5 (i := 33) rfl rfl, by decide, by decide, by decide⟩, List.forall_mem_cons.mpr ⟨⟨fun h => absurd h (by decide), fun _ => TG_5 (i := 41) rfl rfl, by decide, by decide, by decide⟩, List.forall_mem_cons.mpr ⟨⟨fun h => absurd h (by decide), fun _ => TG_5 (i := 62) rfl rfl, by decide, by decide, by decide⟩, List.forall_mem_cons.mpr ⟨⟨fun h => absurd h (by decide), fun _ => TG_5 (i := 69) rfl rfl, by decide, by decide, by decide⟩, List.forall_mem_cons.mpr ⟨⟨fun h => absurd h (by decide), fun _ => TG_5 (i := 76) rfl rfl, by decide, by decide, by decide⟩, List.forall_mem_cons.mpr ⟨⟨fun h => absurd h (by decide), fun _ => TG_5 (i := 83) rfl rfl, by decide, by decide, by decide⟩, List.forall_mem_cons.mpr ⟨⟨fun h => absurd h (by decide), fun _ => TG_5 (i := 91) rfl rfl, by decide, by decide, by decide⟩, List.forall_mem_cons.mpr ⟨⟨fun h => absurd h (by decide), fun _ => TG_5 (i := 98) rfl rfl, by decide, by decide, by decide⟩, List.forall_mem_cons.mpr ⟨⟨fun h => absurd h (by decide), fun _ => TG_5 (i := 105) rfl rfl, by decide, by decide, by decide⟩, List.forall_mem_cons.mpr ⟨⟨fun h => absurd h (by decide), fun _ => TG_5 (i := 120) rfl rfl, by decide, by decide, by decide⟩, List.forall_mem_cons.mpr ⟨⟨fun h => absurd h (by decide), fun _ => TG_5 (i := 127) rfl rfl, by decide, by decide, by decide⟩, List.forall_mem_cons.mpr ⟨⟨fun h => absurd h (by decide), fun _ => TG_5 (i := 148) rfl rfl, by decide, by decide, by decide⟩, List.forall_mem_cons.mpr ⟨⟨fun h => absurd h (by decide), fun _ => TG_5 (i := 155) rfl rfl, by decide, by decide, by decide⟩, List.forall_mem_cons.mpr ⟨⟨fun h => absurd h (by decide), fun _ => TG_5 (i := 177) rfl rfl, by decide, by decide, by decide⟩, List.forall_mem_cons.mpr ⟨⟨fun h => absurd h (by decide), fun _ => TG_5 (i := 189) rfl rfl, by decide, by decide, by decide⟩, List.forall_mem_cons.mpr ⟨⟨fun h => absurd h (by decide), fun _ => TG_5 (i := 196) rfl rfl, by decide, by decide, by decide⟩, List.forall_mem_cons.mpr ⟨⟨fun h => absurd h (by decide), fun _ => TG_1 (i := 25) rfl rfl, by decide, by decide, by decide⟩, List.forall_mem_cons.mpr ⟨⟨fun h => absurd h (by decide), fun _ => TG_5 (i := 203) rfl rfl, by decide, by decide, by decide⟩, List.forall_mem_cons.mpr ⟨⟨fun h => absurd h (by decide), fun _ => TG_3 (i := 134) rfl rfl, by decide, by decide, by decide⟩, List.forall_mem_cons.mpr ⟨⟨fun h => absurd h (by decide), fun _ => TG_6 (i := 44) rfl rfl, by decide, by decide, by decide⟩, List.forall_mem_cons.mpr ⟨⟨fun h => absurd h (by decide), fun _ => TG_6 (i := 40) rfl rfl, by decide, by decide, by decide⟩, List.forall_mem_cons.mpr ⟨⟨fun h => absurd h (by decide), fun _ => TG_4 (i := 19) rfl rfl, by decide, by decide, by decide⟩, List.forall_mem_cons.mpr ⟨⟨fun h => absurd h (by decide), fun _ => TG_6 (i := 60) rfl rfl, by decide, by decide, by decide⟩, List.forall_mem_cons.mpr ⟨⟨fun h => absurd h (by decide), fun _ => TG_4 (i := 26) rfl rfl, by decide, by decide, by decide⟩, List.forall_mem_cons.mpr ⟨⟨fun h => absurd h (by decide), fun _ => TG_6 (i := 64) rfl rfl, by decide, by decide, by decide⟩, List.forall_mem_cons.mpr ⟨⟨fun h => absurd h (by decide), fun _ => TG_4 (i := 41) rfl rfl, by decide, by decide, by decide⟩, List.forall_mem_cons.mpr ⟨⟨fun h => absurd h (by decide), fun _ => TG_6 (i := 72) rfl rfl, by decide, by decide, by decide⟩, List.forall_mem_cons.mpr ⟨⟨fun h => absurd h (by decide), fun _ => TG_4 (i := 53) rfl rfl, by decide, by decide, by decide⟩, List.forall_mem_cons.mpr ⟨⟨fun h => absurd h (by decide), fun _ => TG_6 (i := 76) rfl rfl, by decide, by decide, by decide⟩, List.forall_mem_cons.mpr ⟨⟨fun h => absurd h (by decide), fun _ => TG_4 (i := 66) rfl rfl, by decide, by decide, by decide⟩, List.forall_mem_cons.mpr ⟨⟨fun h => absurd h (by decide), fun _ => TG_6 (i := 84) rfl rfl, by decide, by decide, by decide⟩, List.forall_mem_cons.mpr ⟨⟨fun h => absurd h (by decide), fun _ => TG_4 (i := 84) rfl rfl, by decide, by decide, by decide⟩, List.forall_mem_cons.mpr ⟨⟨fun h => absurd h (by decide), fun _ => TG_6 (i := 96) rfl rfl, by decide, by decide, by decide⟩, List.forall_mem_cons.mpr ⟨⟨fun h => absurd h (by decide), fun _ => TG_4 (i := 115) rfl rfl, by decide, by decide, by decide⟩, List.forall_mem_cons.mpr ⟨⟨fun h => absurd h (by decide), fun _ => TG_6 (i := 165) rfl rfl, by decide, by decide, by decide⟩, List.forall_mem_cons.mpr ⟨⟨fun h => absurd h (by decide), fun _ => TG_4 (i := 131) rfl rfl, by decide, by decide, by decide⟩, List.forall_mem_cons.mpr ⟨⟨fun h => absurd h (by decide), fun _ => TG_6 (i := 170) rfl rfl, by decide, by decide, by decide⟩, List.forall_mem_cons.mpr ⟨⟨fun h => absurd h (by decide), fun _ => TG_4 (i := 161) rfl rfl, by decide, by decide, by decide⟩, List.forall_mem_cons.mpr ⟨⟨fun h => absurd h (by decide), fun _ => TG_6 (i := 190) rfl rfl, by decide, by decide, by decide⟩, List.forall_mem_cons.mpr ⟨⟨fun h => absurd h (by decide), fun _ => TG_4 (i := 179) rfl rfl, by decide, by decide, by decide⟩, List.forall_mem_cons.mpr ⟨⟨fun h => absurd h (by decide), fun _ => TG_6 (i := 198) rfl rfl, by decide, by decide, by decide⟩, List.forall_mem_cons.mpr ⟨⟨fun h => absurd h (by decide), fun _ => TG_4 (i := 195) rfl rfl, by decide, by decide, by decide⟩, List.forall_mem_cons.mpr ⟨⟨fun h => absurd h (by decide), fun _ => TG_6 (i := 206) rfl rfl, by decide, by decide, by decide⟩, List.forall_mem_cons.mpr ⟨⟨fun h => absurd h (by decide), fun _ => TG_4 (i := 206) rfl rfl, by decide, by decide, by decide⟩, List.forall_mem_cons.mpr ⟨⟨fun h => absurd h (by decide), fun _ => TG_6 (i := 214) rfl rfl, by decide, by decide, by decide⟩, List.forall_mem_cons.mpr ⟨⟨fun h => absurd h (by decide), fun _ => TG_2 (i := 156) rfl rfl, by decide, by decide, by decide⟩, List.forall_mem_cons.mpr ⟨⟨fun h => absurd h (by decide), fun _ => TG_6 (i := 218) rfl rfl, by decide, by decide, by decide⟩, List.forall_mem_cons.mpr ⟨⟨fun h => absurd h (by decide), fun _ => TG_2 (i := 235) rfl rfl, by decide, by decide, by decide⟩, List.forall_mem_cons.mpr ⟨⟨fun h => absurd h (by decide), fun _ => TG_6 (i := 222) rfl rfl, by decide, by decide, by decide⟩, List.forall_mem_cons.mpr ⟨⟨fun h => absurd h (by decide), fun _ => TG_4 (i := 217) rfl rfl, by decide, by decide, by decide⟩, List.forall_mem_cons.mpr ⟨⟨fun h => absurd h (by decide), fun _ => TG_6 (i := 226) rfl rfl, by decide, by decide, by decide⟩, List.forall_mem_cons.mpr ⟨⟨fun h => absurd h (by decide), fun _ => TG_4 (i := 225) rfl rfl, by decide, by decide, by decide⟩, List.forall_mem_cons.mpr ⟨⟨fun h => absurd h (by decide), fun _ => TG_6 (i := 234) rfl rfl, by decide, by decide, by decide⟩, List.forall_mem_cons.mpr ⟨⟨fun h => absurd h (by decide), fun _ => TG_4 (i := 237) rfl rfl, by decide, by decide, by decide⟩, List.forall_mem_cons.mpr ⟨⟨fun h => absurd h (by decide), fun _ => TG_7 (i := 2) rfl rfl, by decide, by decide, by decide⟩, List.forall_mem_cons.mpr ⟨⟨fun h => absurd h (by decide), fun _ => TG_5 (i := 4) rfl rfl, by decide, by decide, by decide⟩, List.forall_mem_cons.mpr ⟨⟨fun h => absurd h (by decide), fun _ => TG_7 (i := 10) rfl rfl, by decide, by decide, by decide⟩, List.forall_mem_cons.mpr ⟨⟨fun h => absurd h (by decide), fun _ => TG_5 (i := 12) rfl rfl, by decide, by decide, by decide⟩, List.forall_mem_cons.mpr ⟨⟨fun h => absurd h (by decide), fun _ => TG_7 (i := 14) rfl rfl, by decide, by decide, by decide⟩, List.forall_mem_cons.mpr ⟨⟨fun h => absurd h (by decide), fun _ => TG_2 (i := 239) rfl rfl, by decide, by decide, by decide⟩, List.forall_mem_cons.mpr ⟨⟨fun h => absurd h (by decide), fun _ => TG_7 (i := 18) rfl rfl, by decide, by decide, by decide⟩, List.forall_mem_cons.mpr ⟨⟨fun h => absurd h (by decide), fun _ => TG_5 (i := 19) rfl rfl, by decide, by decide, by decide⟩, List.forall_mem_cons.mpr ⟨⟨fun h => absurd h (by decide), fun _ => TG_7 (i := 26) rfl rfl, by decide, by decide, by decide⟩, List.forall_mem_cons.mpr ⟨⟨fun h => absurd h (by decide), fun _ => TG_5 (i := 30) rfl rfl, by decide, by decide, by decide⟩, List.forall_mem_cons.mpr ⟨⟨fun h => absurd h (by decide), fun _ => TG_7 (i := 30) rfl rfl, by decide, by decide, by decide⟩, List.forall_mem_cons.mpr ⟨⟨fun h => absurd h (by decide), fun _ => TG_5 (i := 38) rfl rfl, by decide, by decide, by decide⟩, List.forall_mem_cons.mpr ⟨⟨fun h => absurd h (by decide), fun _ => TG_7 (i := 42) rfl rfl, by decide, by decide, by decide⟩, List.forall_mem_cons.mpr ⟨⟨fun h => absurd h (by decide), fun _ => TG_5 (i := 59) rfl rfl, by decide, by decide, by decide⟩, List.forall_mem_cons.mpr ⟨⟨fun h => absurd h (by decide), fun _ => TG_7 (i := 58) rfl rfl, by decide, by decide, by decide⟩, List.forall_mem_cons.mpr ⟨⟨fun h => absurd h (by decide), fun _ => TG_5 (i := 66) rfl rfl, by decide, by decide, by decide⟩, List.forall_mem_cons.mpr ⟨⟨fun h => absurd h (by decide), fun _ => TG_7 (i := 62) rfl rfl, by decide, by decide, by decide⟩, List.forall_mem_cons.mpr ⟨⟨fun h => absurd h (by decide), fun _ => TG_5 (i := 73) rfl rfl, by decide, by decide, by decide⟩, List.forall_mem_cons.mpr ⟨⟨fun h => absurd h (by decide), fun _ => TG_7 (i := 70) rfl rfl, by decide, by decide, by decide⟩, List.forall_mem_cons.mpr ⟨⟨fun h => absurd h (by decide), fun _ => TG_5 (i := 80) rfl rfl, by decide, by decide, by decide⟩, List.forall_mem_cons.mpr ⟨⟨fun h => absurd h (by decide), fun _ => TG_7 (i := 74) rfl rfl, by decide, by decide, by decide⟩, List.forall_mem_cons.mpr ⟨⟨fun h => absurd h (by decide), fun _ => TG_5 (i := 88) rfl rfl, by decide, by decide, by decide⟩, List.forall_mem_cons.mpr ⟨⟨fun h => absurd h (by decide), fun _ => TG_7 (i := 78) rfl rfl, by decide, by decide, by decide⟩, List.forall_mem_cons.mpr ⟨⟨fun h => absurd h (by decide), fun _ => TG_3 (i := 16) rfl rfl, by decide, by decide, by decide⟩, List.forall_mem_cons.mpr ⟨⟨fun h => absurd h (by decide), fun _ => TG_7 (i := 82) rfl rfl, by decide, by decide, by decide⟩, List.forall_mem_cons.mpr ⟨⟨fun h => absurd h (by decide), fun _ => TG_3 (i := 37) rfl rfl, by decide, by decide, by decide⟩, List.forall_mem_cons.mpr ⟨⟨fun h => absurd h (by decide), fun _ => TG_7 (i := 98) rfl rfl, by decide, by decide, by decide⟩, List.forall_mem_cons.mpr ⟨⟨fun h => absurd h (by decide), fun _ => TG_3 (i := 50) rfl rfl, by decide, by decide, by decide⟩, List.forall_mem_cons.mpr ⟨⟨fun h => absurd h (by decide), fun _ => TG_7 (i := 102) rfl rfl, by decide, by decide, by decide⟩, List.forall_mem_cons.mpr ⟨⟨fun h => absurd h (by decide), fun _ => TG_5 (i := 95) rfl rfl, by decide, by decide, by decide⟩, List.forall_mem_cons.mpr ⟨⟨fun h => absurd h (by decide), fun _ => TG_7 (i := 110) rfl rfl, by decide, by decide, by decide⟩, List.forall_mem_cons.mpr ⟨⟨fun h => absurd h (by decide), fun _ => TG_3 (i := 68) rfl rfl, by decide, by decide, by decide⟩, List.forall_mem_cons.mpr ⟨⟨fun h => absurd h (by decide), fun _ => TG_7 (i := 114) rfl rfl, by decide, by decide, by decide⟩, List.forall_mem_cons.mpr ⟨⟨fun h => absurd h (by decide), fun _ => TG_5 (i := 102) rfl rfl, by decide, by decide, by decide⟩, List.forall_mem_cons.mpr ⟨⟨fun h => absurd h (by decide), fun _ => TG_7 (i := 118) rfl rfl, by decide, by decide, by decide⟩, List.forall_mem_cons.mpr ⟨⟨fun h => absurd h (by decide), fun _ => TG_3 (i := 84) rfl rfl, by decide, by decide, by decide⟩, List.forall_mem_cons.mpr ⟨⟨fun h => absurd h (by decide), fun _ => TG_7 (i := 122) rfl rfl, by decide, by decide, by decide⟩, List.forall_mem_cons.mpr ⟨⟨fun h => absurd h (by decide), fun _ => TG_5 (i := 117) rfl rfl, by decide, by decide, by decide⟩, List.forall_mem_cons.mpr ⟨⟨fun h => absurd h (by decide), fun _ => TG_7 (i := 138) rfl rfl, by decide, by decide, by decide⟩, List.forall_mem_cons.mpr ⟨⟨fun h => absurd h (by decide), fun _ => TG_5 (i := 124) rfl rfl, by decide, by decide, by decide⟩, List.forall_mem_cons.mpr ⟨⟨fun h => absurd h (by decide), fun _ => TG_7 (i := 142) rfl rfl, by decide, by decide, by decide⟩, List.forall_mem_cons.mpr ⟨⟨fun h => absurd h (by decide), fun _ => TG_5 (i := 145) rfl rfl, by decide, by decide, by decide⟩, List.forall_mem_cons.mpr ⟨⟨fun h => absurd h (by decide), fun _ => TG_7 (i := 153) rfl rfl, by decide, by decide, by decide⟩, List.forall_mem_cons.mpr ⟨⟨fun h => absurd h (by decide), fun _ => TG_5 (i := 152) rfl rfl, by decide, by decide, by decide⟩, List.forall_mem_cons.mpr ⟨⟨fun h => absurd h (by decide), fun _ => TG_7 (i := 157) rfl rfl, by decide, by decide, by decide⟩, List.forall_mem_cons.mpr ⟨⟨fun h => absurd h (by decide), fun _ => TG_5 (i := 174) rfl rfl, by decide, by decide, by decide⟩, List.forall_mem_cons.mpr ⟨⟨fun h => absurd h (by decide), fun _ => TG_7 (i := 166) rfl rfl, by decide, by decide, by decide⟩, List.forall_mem_cons.mpr ⟨⟨fun h => absurd h (by decide), fun _ => TG_5 (i := 186) rfl rfl, by decide, by decide, by decide⟩, List.forall_mem_cons.mpr ⟨⟨fun h => absurd h (by decide), fun _ => TG_7 (i := 171) rfl rfl, by decide, by decide, by decide⟩, List.forall_mem_cons.mpr ⟨⟨fun h => absurd h (by decide), fun _ => TG_5 (i := 193) rfl rfl, by decide, by decide, by decide⟩, List.forall_mem_cons.mpr ⟨⟨fun h => absurd h (by decide), fun _ => TG_7 (i := 175) rfl rfl, by decide, by decide, by decide⟩, List.forall_mem_cons.mpr ⟨⟨fun h => absurd h (by decide), fun _ => TG_3 (i := 101) rfl rfl, by decide, by decide, by decide⟩, List.forall_mem_cons.mpr ⟨⟨fun h => absurd h (by decide), fun _ => TG_7 (i := 179) rfl rfl, by decide, by decide, by decide⟩, List.forall_mem_nil _⟩⟩⟩⟩⟩⟩⟩⟩⟩⟩⟩⟩⟩⟩⟩⟩⟩⟩⟩⟩⟩⟩⟩⟩⟩⟩⟩⟩⟩⟩⟩⟩⟩⟩⟩⟩⟩⟩⟩⟩⟩⟩⟩⟩⟩⟩⟩⟩⟩⟩⟩⟩⟩⟩⟩⟩⟩⟩⟩⟩⟩⟩⟩⟩⟩⟩⟩⟩⟩⟩⟩⟩⟩⟩⟩⟩⟩⟩⟩⟩⟩⟩⟩⟩⟩⟩⟩⟩⟩⟩⟩⟩⟩⟩⟩⟩⟩⟩⟩⟩⟩⟩⟩⟩⟩⟩⟩⟩⟩⟩⟩⟩⟩⟩⟩⟩⟩⟩⟩⟩⟩⟩⟩⟩⟩⟩
theorem mM_ok (o : Nat) : ∀ x ∈ mPoolM o, mWM o x := by
  match o with
  | 0 => exact mM_0
  | 1 => exact mM_1
  | 2 => exact mM_2
  | 3 => exact mM_3
  | 4 => exact mM_4
  | 5 => exact mM_5
  | 6 => exact mM_6
  | 7 => exact mM_7
  | 8 => exact mM_8
  | 9 => exact mM_9
  | 10 => exact mM_10
  | 11 => exact mM_11
  | 12 => exact mM_12
  | n => 
    intro x hx
    unfold mPoolM at hx
    split at hx <;> first | exact absurd hx List.not_mem_nil | skip
    · exact mM_0 x hx
    · exact mM_1 x hx
    · exact mM_2 x hx
    · exact mM_3 x hx
    · exact mM_4 x hx
    · exact mM_5 x hx
    · exact mM_6 x hx
    · exact mM_7 x hx
    · exact mM_8 x hx
    · exact mM_9 x hx
    · exact mM_10 x hx
    · exact mM_11 x hx
    · exact mM_12 x hx
def mPoolC : Nat → List (Nat × Nat)
  | 5 => [(9, 3)]
  | 10 => [(9, 7), (16, 8), (39, 0), (48, 9), (55, 2), (62, 5), (69, 6), (76, 1), (83, 4)]
  | 12 => [(8, 10), (130, 11)]
  | _ => []
def mWC (o : Nat) (x : Nat × Nat) : Prop := ∃ q : vw_C, vwCl[x.2]? = some q ∧ Cond.classLink (mOwn o) x.1 q.1 ∈ TG ∧ Cond.instantiable q.1 q.2.2 ∈ TG ∧ Cond.initialized q.1 ∈ TG
set_option maxRecDepth 10000 in
theorem mC_5 : ∀ x ∈ mPoolC 5, mWC 5 x := List.forall_mem_cons.mpr ⟨⟨(RX3, TX3, 3), rfl, TG_2 (i := 18) rfl rfl, TG_2 (i := 19) rfl rfl, TG_1 (i := 8) rfl rfl⟩, List.forall_mem_nil _⟩
set_option maxRecDepth 10000 in
theorem mC_10 : ∀ x ∈ mPoolC 10, mWC 10 x := List.forall_mem_cons.mpr ⟨⟨(RX7, TX7, 17), rfl, TG_1 (i := 31) rfl rfl, TG_1 (i := 32) rfl rfl, TG_1 (i := 2) rfl rfl⟩, List.forall_mem_cons.mpr ⟨⟨(RX8, TX8, 10), rfl, TG_1 (i := 134) rfl rfl, TG_1 (i := 135) rfl rfl, TG_1 (i := 3) rfl rfl⟩, List.forall_mem_cons.mpr ⟨⟨(RX0, TX0, 6), rfl, TG_1 (i := 182) rfl rfl, TG_1 (i := 183) rfl rfl, TG_1 (i := 4) rfl rfl⟩, List.forall_mem_cons.mpr ⟨⟨(RX9, TX9, 6), rfl, TG_1 (i := 207) rfl rfl, TG_1 (i := 208) rfl rfl, TG_1 (i := 5) rfl rfl⟩, List.forall_mem_cons.mpr ⟨⟨(RX2, TX2, 3), rfl, TG_1 (i := 236) rfl rfl, TG_1 (i := 237) rfl rfl, TG_1 (i := 6) rfl rfl⟩, List.forall_mem_cons.mpr ⟨⟨(RX5, TX5, 2), rfl, TG_2 (i := 12) rfl rfl, TG_2 (i := 13) rfl rfl, TG_1 (i := 7) rfl rfl⟩, List.forall_mem_cons.mpr ⟨⟨(RX6, TX6, 5), rfl, TG_2 (i := 43) rfl rfl, TG_2 (i := 44) rfl rfl, TG_1 (i := 9) rfl rfl⟩, List.forall_mem_cons.mpr ⟨⟨(RX1, TX1, 4), rfl, TG_2 (i := 67) rfl rfl, TG_2 (i := 68) rfl rfl, TG_1 (i := 10) rfl rfl⟩, List.forall_mem_cons.mpr ⟨⟨(RX4, TX4, 2), rfl, TG_2 (i := 88) rfl rfl, TG_2 (i := 89) rfl rfl, TG_1 (i := 11) rfl rfl⟩, List.forall_mem_nil _⟩⟩⟩⟩⟩⟩⟩⟩⟩
set_option maxRecDepth 10000 in
theorem mC_12 : ∀ x ∈ mPoolC 12, mWC 12 x := List.forall_mem_cons.mpr ⟨⟨(RX10, TX10, 15), rfl, TG_1 (i := 23) rfl rfl, TG_1 (i := 24) rfl rfl, TG_1 (i := 1) rfl rfl⟩, List.forall_mem_cons.mpr ⟨⟨(RX11, TX11, 20), rfl, TG_5 (i := 201) rfl rfl, TG_5 (i := 202) rfl rfl, TG_1 (i := 12) rfl rfl⟩, List.forall_mem_nil _⟩⟩
theorem mC_ok (o : Nat) : ∀ x ∈ mPoolC o, mWC o x := by
  match o with
  | 5 => exact mC_5
  | 10 => exact mC_10
  | 12 => exact mC_12
  | n => 
    intro x hx
    unfold mPoolC at hx
    split at hx <;> first | exact absurd hx List.not_mem_nil | skip
    · exact mC_5 x hx
    · exact mC_10 x hx
    · exact mC_12 x hx
def mPoolK : Nat → List (Nat × Nat)
  | 13 => [(265, 1431655765), (266, 858993459), (267, 252645135)]
  | _ => []
def mWK (o : Nat) (x : Nat × Nat) : Prop := Cond.constant (mOwn o) x.1 (Int32.ofInt (x.2 : Int)) ∈ TG
set_option maxRecDepth 10000 in
theorem mK_13 : ∀ x ∈ mPoolK 13, mWK 13 x := List.forall_mem_cons.mpr ⟨TG_3 (i := 65) rfl rfl, List.forall_mem_cons.mpr ⟨TG_3 (i := 66) rfl rfl, List.forall_mem_cons.mpr ⟨TG_3 (i := 67) rfl rfl, List.forall_mem_nil _⟩⟩⟩
theorem mK_ok (o : Nat) : ∀ x ∈ mPoolK o, mWK o x := by
  match o with
  | 13 => exact mK_13
  | n => 
    intro x hx
    unfold mPoolK at hx
    split at hx <;> first | exact absurd hx List.not_mem_nil | skip
    · exact mK_13 x hx
def mPoolL : Nat → List (Nat × Nat)
  | 4 => [(34, 1000)]
  | 10 => [(387, 10)]
  | 11 => [(170, 10), (254, 1000)]
  | 12 => [(162, 4294967295)]
  | _ => []
def mWL (o : Nat) (x : Nat × Nat) : Prop := Cond.constantLong (mOwn o) x.1 (Int64.ofInt (x.2 : Int)) ∈ TG
set_option maxRecDepth 10000 in
theorem mL_4 : ∀ x ∈ mPoolL 4, mWL 4 x := List.forall_mem_cons.mpr ⟨TG_5 (i := 172) rfl rfl, List.forall_mem_nil _⟩
set_option maxRecDepth 10000 in
theorem mL_10 : ∀ x ∈ mPoolL 10, mWL 10 x := List.forall_mem_cons.mpr ⟨TG_4 (i := 126) rfl rfl, List.forall_mem_nil _⟩
set_option maxRecDepth 10000 in
theorem mL_11 : ∀ x ∈ mPoolL 11, mWL 11 x := List.forall_mem_cons.mpr ⟨TG_6 (i := 169) rfl rfl, List.forall_mem_cons.mpr ⟨TG_7 (i := 161) rfl rfl, List.forall_mem_nil _⟩⟩
set_option maxRecDepth 10000 in
theorem mL_12 : ∀ x ∈ mPoolL 12, mWL 12 x := List.forall_mem_cons.mpr ⟨TG_7 (i := 192) rfl rfl, List.forall_mem_nil _⟩
theorem mL_ok (o : Nat) : ∀ x ∈ mPoolL o, mWL o x := by
  match o with
  | 4 => exact mL_4
  | 10 => exact mL_10
  | 11 => exact mL_11
  | 12 => exact mL_12
  | n => 
    intro x hx
    unfold mPoolL at hx
    split at hx <;> first | exact absurd hx List.not_mem_nil | skip
    · exact mL_4 x hx
    · exact mL_10 x hx
    · exact mL_11 x hx
    · exact mL_12 x hx
def mExn (E : Nat) : String := match E with
  | 0 => "java/lang/IndexOutOfBoundsException"
  | 1 => "java/lang/IllegalArgumentException"
  | _ => "java/lang/IllegalStateException"
def mUp : List String := ["java/lang/RuntimeException", "java/lang/Exception"]
noncomputable def mXw : List Cond := [(Cond.initialized "java/lang/Throwable"),
  (Cond.initialized "java/lang/Exception"),
  (Cond.initialized "java/lang/RuntimeException"),
  (Cond.initialized "java/lang/IndexOutOfBoundsException"),
  (Cond.initialized "java/lang/IllegalArgumentException"),
  (Cond.initialized "java/lang/IllegalStateException"),
  (Cond.classLink "JobWorkshop" (200 : Nat) "java/lang/IndexOutOfBoundsException"),
  (Cond.instantiable "java/lang/IndexOutOfBoundsException" (6 : Nat)),
  (Cond.castable "java/lang/IndexOutOfBoundsException" "java/lang/IndexOutOfBoundsException"),
  (Cond.declares ({ cls := "java/lang/RuntimeException", name := "<init>", desc := "()V" } : Jvm.MethodName)),
  (Cond.declares ({ cls := "java/lang/RuntimeException", name := "<init>", desc := "(Ljava/lang/String;)V" } : Jvm.MethodName)),
  (Cond.declares ({ cls := "java/lang/Exception", name := "<init>", desc := "()V" } : Jvm.MethodName)),
  (Cond.declares ({ cls := "java/lang/Exception", name := "<init>", desc := "(Ljava/lang/String;)V" } : Jvm.MethodName)),
  (Cond.declares ({ cls := "java/lang/Throwable", name := "<init>", desc := "()V" } : Jvm.MethodName)),
  (Cond.declares ({ cls := "java/lang/Throwable", name := "<init>", desc := "(Ljava/lang/String;)V" } : Jvm.MethodName)),
  (Cond.selects "java/lang/IndexOutOfBoundsException" ({ cls := "java/lang/Throwable", name := "fillInStackTrace", desc := "(I)Ljava/lang/Throwable;" } : Jvm.MethodName) ({ cls := "java/lang/Throwable", name := "fillInStackTrace", desc := "(I)Ljava/lang/Throwable;" } : Jvm.MethodName)),
  (Cond.selects "java/lang/IndexOutOfBoundsException" ({ cls := "java/lang/Throwable", name := "fillInStackTrace", desc := "()Ljava/lang/Throwable;" } : Jvm.MethodName) ({ cls := "java/lang/Throwable", name := "fillInStackTrace", desc := "()Ljava/lang/Throwable;" } : Jvm.MethodName)),
  (Cond.lays "java/lang/IndexOutOfBoundsException" "java/lang/Throwable" "cause" "Ljava/lang/Throwable;"),
  (Cond.lays "java/lang/Throwable" "java/lang/Throwable" "cause" "Ljava/lang/Throwable;"),
  (Cond.lays "java/lang/IndexOutOfBoundsException" "java/lang/Throwable" "stackTrace" "[Ljava/lang/StackTraceElement;"),
  (Cond.lays "java/lang/Throwable" "java/lang/Throwable" "stackTrace" "[Ljava/lang/StackTraceElement;"),
  (Cond.lays "java/lang/IndexOutOfBoundsException" "java/lang/Throwable" "suppressedExceptions" "Ljava/util/List;"),
  (Cond.lays "java/lang/Throwable" "java/lang/Throwable" "suppressedExceptions" "Ljava/util/List;"),
  (Cond.lays "java/lang/IndexOutOfBoundsException" "java/lang/Throwable" "detailMessage" "Ljava/lang/String;"),
  (Cond.lays "java/lang/Throwable" "java/lang/Throwable" "detailMessage" "Ljava/lang/String;"),
  (Cond.lays "java/lang/IndexOutOfBoundsException" "java/lang/Throwable" "backtrace" "Ljava/lang/Object;"),
  (Cond.lays "java/lang/Throwable" "java/lang/Throwable" "backtrace" "Ljava/lang/Object;"),
  (Cond.fieldLink "java/lang/Throwable" (198 : Nat) "java/lang/Throwable" "backtrace" "Ljava/lang/Object;"),
  (Cond.superclass "java/lang/Throwable" "java/lang/Object"),
  (Cond.instanceMethod ({ cls := "java/lang/Throwable", name := "<init>", desc := "()V" } : Jvm.MethodName)),
  (Cond.code ({ cls := "java/lang/Throwable", name := "<init>", desc := "()V" } : Jvm.MethodName) prog_23_method_1_code (1 : Nat) (Option.none : Option Jvm.ClassFile.FieldType)),
  (Cond.methodLink "java/lang/Throwable" (1 : Nat) ({ cls := "java/lang/Object", name := "<init>", desc := "()V" } : Jvm.MethodName)),
  (Cond.fieldLink "java/lang/Throwable" (13 : Nat) "java/lang/Throwable" "UNASSIGNED_STACK" "[Ljava/lang/StackTraceElement;"),
  (Cond.fieldLink "java/lang/Throwable" (20 : Nat) "java/lang/Throwable" "SUPPRESSED_SENTINEL" "Ljava/util/List;"),
  (Cond.methodLink "java/lang/Throwable" (27 : Nat) ({ cls := "java/lang/Throwable", name := "fillInStackTrace", desc := "()Ljava/lang/Throwable;" } : Jvm.MethodName)),
  (Cond.instanceMethod ({ cls := "java/lang/Throwable", name := "fillInStackTrace", desc := "()Ljava/lang/Throwable;" } : Jvm.MethodName)),
  (Cond.sameMethod "java/lang/Throwable" "java/lang/Throwable" "fillInStackTrace" "()Ljava/lang/Throwable;"),
  (Cond.selects "java/lang/IllegalArgumentException" ({ cls := "java/lang/Throwable", name := "fillInStackTrace", desc := "()Ljava/lang/Throwable;" } : Jvm.MethodName) ({ cls := "java/lang/Throwable", name := "fillInStackTrace", desc := "()Ljava/lang/Throwable;" } : Jvm.MethodName)),
  (Cond.selects "java/lang/IllegalStateException" ({ cls := "java/lang/Throwable", name := "fillInStackTrace", desc := "()Ljava/lang/Throwable;" } : Jvm.MethodName) ({ cls := "java/lang/Throwable", name := "fillInStackTrace", desc := "()Ljava/lang/Throwable;" } : Jvm.MethodName)),
  (Cond.codeSync ({ cls := "java/lang/Throwable", name := "fillInStackTrace", desc := "()Ljava/lang/Throwable;" } : Jvm.MethodName) prog_23_method_18_code (1 : Nat) (Option.some (Jvm.ClassFile.FieldType.object "java/lang/Throwable"))),
  (Cond.methodLink "java/lang/Throwable" (202 : Nat) ({ cls := "java/lang/Throwable", name := "fillInStackTrace", desc := "(I)Ljava/lang/Throwable;" } : Jvm.MethodName)),
  (Cond.instanceMethod ({ cls := "java/lang/Throwable", name := "fillInStackTrace", desc := "(I)Ljava/lang/Throwable;" } : Jvm.MethodName)),
  (Cond.instantiable "java/lang/Throwable" (6 : Nat)),
  (Cond.native ({ cls := "java/lang/Throwable", name := "fillInStackTrace", desc := "(I)Ljava/lang/Throwable;" } : Jvm.MethodName)),
  (Cond.methodLink "JobWorkshop" (204 : Nat) ({ cls := "java/lang/IndexOutOfBoundsException", name := "<init>", desc := "(Ljava/lang/String;)V" } : Jvm.MethodName)),
  (Cond.instanceMethod ({ cls := "java/lang/IndexOutOfBoundsException", name := "<init>", desc := "(Ljava/lang/String;)V" } : Jvm.MethodName)),
  (Cond.code ({ cls := "java/lang/IndexOutOfBoundsException", name := "<init>", desc := "(Ljava/lang/String;)V" } : Jvm.MethodName) prog_17_method_2_code (2 : Nat) (Option.none : Option Jvm.ClassFile.FieldType)),
  (Cond.methodLink "java/lang/IndexOutOfBoundsException" (7 : Nat) ({ cls := "java/lang/RuntimeException", name := "<init>", desc := "(Ljava/lang/String;)V" } : Jvm.MethodName)),
  (Cond.instanceMethod ({ cls := "java/lang/RuntimeException", name := "<init>", desc := "(Ljava/lang/String;)V" } : Jvm.MethodName)),
  (Cond.code ({ cls := "java/lang/RuntimeException", name := "<init>", desc := "(Ljava/lang/String;)V" } : Jvm.MethodName) prog_20_method_2_code (2 : Nat) (Option.none : Option Jvm.ClassFile.FieldType)),
  (Cond.methodLink "java/lang/RuntimeException" (7 : Nat) ({ cls := "java/lang/Exception", name := "<init>", desc := "(Ljava/lang/String;)V" } : Jvm.MethodName)),
  (Cond.instanceMethod ({ cls := "java/lang/Exception", name := "<init>", desc := "(Ljava/lang/String;)V" } : Jvm.MethodName)),
  (Cond.code ({ cls := "java/lang/Exception", name := "<init>", desc := "(Ljava/lang/String;)V" } : Jvm.MethodName) prog_14_method_2_code (2 : Nat) (Option.none : Option Jvm.ClassFile.FieldType)),
  (Cond.methodLink "java/lang/Exception" (7 : Nat) ({ cls := "java/lang/Throwable", name := "<init>", desc := "(Ljava/lang/String;)V" } : Jvm.MethodName)),
  (Cond.instanceMethod ({ cls := "java/lang/Throwable", name := "<init>", desc := "(Ljava/lang/String;)V" } : Jvm.MethodName)),
  (Cond.code ({ cls := "java/lang/Throwable", name := "<init>", desc := "(Ljava/lang/String;)V" } : Jvm.MethodName) prog_23_method_2_code (2 : Nat) (Option.none : Option Jvm.ClassFile.FieldType)),
  (Cond.fieldLink "java/lang/Throwable" (198 : Nat) "java/lang/Throwable" "backtrace" "Ljava/lang/Object;"),
  (Cond.fieldLink "java/lang/Throwable" (31 : Nat) "java/lang/Throwable" "detailMessage" "Ljava/lang/String;"),
  (Cond.fieldLink "java/lang/Throwable" (7 : Nat) "java/lang/Throwable" "cause" "Ljava/lang/Throwable;"),
  (Cond.fieldLink "java/lang/Throwable" (17 : Nat) "java/lang/Throwable" "stackTrace" "[Ljava/lang/StackTraceElement;"),
  (Cond.fieldLink "java/lang/Throwable" (24 : Nat) "java/lang/Throwable" "suppressedExceptions" "Ljava/util/List;"),
  (Cond.lays "java/lang/IndexOutOfBoundsException" "java/lang/Throwable" "depth" "I"),
  (Cond.superclass "java/lang/IndexOutOfBoundsException" "java/lang/RuntimeException"),
  (Cond.classLink "JobWorkshop" (178 : Nat) "java/lang/IllegalArgumentException"),
  (Cond.instantiable "java/lang/IllegalArgumentException" (6 : Nat)),
  (Cond.castable "java/lang/IllegalArgumentException" "java/lang/IllegalArgumentException"),
  (Cond.selects "java/lang/IllegalArgumentException" ({ cls := "java/lang/Throwable", name := "fillInStackTrace", desc := "(I)Ljava/lang/Throwable;" } : Jvm.MethodName) ({ cls := "java/lang/Throwable", name := "fillInStackTrace", desc := "(I)Ljava/lang/Throwable;" } : Jvm.MethodName)),
  (Cond.lays "java/lang/IllegalArgumentException" "java/lang/Throwable" "cause" "Ljava/lang/Throwable;"),
  (Cond.lays "java/lang/IllegalArgumentException" "java/lang/Throwable" "stackTrace" "[Ljava/lang/StackTraceElement;"),
  (Cond.lays "java/lang/IllegalArgumentException" "java/lang/Throwable" "suppressedExceptions" "Ljava/util/List;"),
  (Cond.lays "java/lang/IllegalArgumentException" "java/lang/Throwable" "detailMessage" "Ljava/lang/String;"),
  (Cond.lays "java/lang/IllegalArgumentException" "java/lang/Throwable" "backtrace" "Ljava/lang/Object;"),
  (Cond.methodLink "JobWorkshop" (182 : Nat) ({ cls := "java/lang/IllegalArgumentException", name := "<init>", desc := "(Ljava/lang/String;)V" } : Jvm.MethodName)),
  (Cond.instanceMethod ({ cls := "java/lang/IllegalArgumentException", name := "<init>", desc := "(Ljava/lang/String;)V" } : Jvm.MethodName)),
  (Cond.code ({ cls := "java/lang/IllegalArgumentException", name := "<init>", desc := "(Ljava/lang/String;)V" } : Jvm.MethodName) prog_15_method_2_code (2 : Nat) (Option.none : Option Jvm.ClassFile.FieldType)),
  (Cond.methodLink "java/lang/IllegalArgumentException" (7 : Nat) ({ cls := "java/lang/RuntimeException", name := "<init>", desc := "(Ljava/lang/String;)V" } : Jvm.MethodName)),
  (Cond.lays "java/lang/IllegalArgumentException" "java/lang/Throwable" "depth" "I"),
  (Cond.superclass "java/lang/IllegalArgumentException" "java/lang/RuntimeException"),
  (Cond.classLink "JobWorkshop" (109 : Nat) "java/lang/IllegalStateException"),
  (Cond.instantiable "java/lang/IllegalStateException" (6 : Nat)),
  (Cond.castable "java/lang/IllegalStateException" "java/lang/IllegalStateException"),
  (Cond.selects "java/lang/IllegalStateException" ({ cls := "java/lang/Throwable", name := "fillInStackTrace", desc := "(I)Ljava/lang/Throwable;" } : Jvm.MethodName) ({ cls := "java/lang/Throwable", name := "fillInStackTrace", desc := "(I)Ljava/lang/Throwable;" } : Jvm.MethodName)),
  (Cond.lays "java/lang/IllegalStateException" "java/lang/Throwable" "cause" "Ljava/lang/Throwable;"),
  (Cond.lays "java/lang/IllegalStateException" "java/lang/Throwable" "stackTrace" "[Ljava/lang/StackTraceElement;"),
  (Cond.lays "java/lang/IllegalStateException" "java/lang/Throwable" "suppressedExceptions" "Ljava/util/List;"),
  (Cond.lays "java/lang/IllegalStateException" "java/lang/Throwable" "detailMessage" "Ljava/lang/String;"),
  (Cond.lays "java/lang/IllegalStateException" "java/lang/Throwable" "backtrace" "Ljava/lang/Object;"),
  (Cond.methodLink "JobWorkshop" (113 : Nat) ({ cls := "java/lang/IllegalStateException", name := "<init>", desc := "(Ljava/lang/String;)V" } : Jvm.MethodName)),
  (Cond.instanceMethod ({ cls := "java/lang/IllegalStateException", name := "<init>", desc := "(Ljava/lang/String;)V" } : Jvm.MethodName)),
  (Cond.code ({ cls := "java/lang/IllegalStateException", name := "<init>", desc := "(Ljava/lang/String;)V" } : Jvm.MethodName) prog_16_method_2_code (2 : Nat) (Option.none : Option Jvm.ClassFile.FieldType)),
  (Cond.methodLink "java/lang/IllegalStateException" (7 : Nat) ({ cls := "java/lang/RuntimeException", name := "<init>", desc := "(Ljava/lang/String;)V" } : Jvm.MethodName)),
  (Cond.lays "java/lang/IllegalStateException" "java/lang/Throwable" "depth" "I"),
  (Cond.superclass "java/lang/IllegalStateException" "java/lang/RuntimeException"),
  (Cond.sameMethod "java/lang/Throwable" "java/lang/Throwable" "fillInStackTrace" "(I)Ljava/lang/Throwable;"),
  (Cond.instanceMethod ({ cls := "java/lang/Object", name := "<init>", desc := "()V" } : Jvm.MethodName)),
  (Cond.code ({ cls := "java/lang/Object", name := "<init>", desc := "()V" } : Jvm.MethodName) object_method_1_code (1 : Nat) (Option.none : Option Jvm.ClassFile.FieldType))]
set_option maxRecDepth 20000 in
theorem mXw_ok : ∀ w ∈ mXw, w ∈ TG ∨ w ∈ mBad := List.forall_mem_cons.mpr ⟨Or.inl (TG_1 (i := 13) rfl rfl), List.forall_mem_cons.mpr ⟨Or.inl (TG_1 (i := 14) rfl rfl), List.forall_mem_cons.mpr ⟨Or.inl (TG_1 (i := 15) rfl rfl), List.forall_mem_cons.mpr ⟨Or.inl (TG_1 (i := 16) rfl rfl), List.forall_mem_cons.mpr ⟨Or.inl (TG_1 (i := 17) rfl rfl), List.forall_mem_cons.mpr ⟨Or.inl (TG_1 (i := 18) rfl rfl), List.forall_mem_cons.mpr ⟨Or.inl (TG_3 (i := 147) rfl rfl), List.forall_mem_cons.mpr ⟨Or.inl (TG_3 (i := 148) rfl rfl), List.forall_mem_cons.mpr ⟨Or.inr (List.mem_of_getElem? (i := 2) rfl), List.forall_mem_cons.mpr ⟨Or.inr (List.mem_of_getElem? (i := 3) rfl), List.forall_mem_cons.mpr ⟨Or.inr (List.mem_of_getElem? (i := 4) rfl), List.forall_mem_cons.mpr ⟨Or.inr (List.mem_of_getElem? (i := 5) rfl), List.forall_mem_cons.mpr ⟨Or.inr (List.mem_of_getElem? (i := 6) rfl), List.forall_mem_cons.mpr ⟨Or.inr (List.mem_of_getElem? (i := 7) rfl), List.forall_mem_cons.mpr ⟨Or.inr (List.mem_of_getElem? (i := 8) rfl), List.forall_mem_cons.mpr ⟨Or.inl (TG_3 (i := 156) rfl rfl), List.forall_mem_cons.mpr ⟨Or.inl (TG_3 (i := 157) rfl rfl), List.forall_mem_cons.mpr ⟨Or.inl (TG_3 (i := 158) rfl rfl), List.forall_mem_cons.mpr ⟨Or.inl (TG_3 (i := 159) rfl rfl), List.forall_mem_cons.mpr ⟨Or.inl (TG_3 (i := 160) rfl rfl), List.forall_mem_cons.mpr ⟨Or.inl (TG_3 (i := 161) rfl rfl), List.forall_mem_cons.mpr ⟨Or.inl (TG_3 (i := 162) rfl rfl), List.forall_mem_cons.mpr ⟨Or.inl (TG_3 (i := 163) rfl rfl), List.forall_mem_cons.mpr ⟨Or.inl (TG_3 (i := 164) rfl rfl), List.forall_mem_cons.mpr ⟨Or.inl (TG_3 (i := 165) rfl rfl), List.forall_mem_cons.mpr ⟨Or.inl (TG_3 (i := 166) rfl rfl), List.forall_mem_cons.mpr ⟨Or.inl (TG_3 (i := 167) rfl rfl), List.forall_mem_cons.mpr ⟨Or.inl (TG_3 (i := 168) rfl rfl), List.forall_mem_cons.mpr ⟨Or.inl (TG_3 (i := 169) rfl rfl), List.forall_mem_cons.mpr ⟨Or.inl (TG_3 (i := 170) rfl rfl), List.forall_mem_cons.mpr ⟨Or.inl (TG_3 (i := 171) rfl rfl), List.forall_mem_cons.mpr ⟨Or.inl (TG_3 (i := 172) rfl rfl), List.forall_mem_cons.mpr ⟨Or.inl (TG_3 (i := 173) rfl rfl), List.forall_mem_cons.mpr ⟨Or.inl (TG_3 (i := 175) rfl rfl), List.forall_mem_cons.mpr ⟨Or.inl (TG_3 (i := 177) rfl rfl), List.forall_mem_cons.mpr ⟨Or.inl (TG_3 (i := 178) rfl rfl), List.forall_mem_cons.mpr ⟨Or.inl (TG_3 (i := 179) rfl rfl), List.forall_mem_cons.mpr ⟨Or.inl (TG_3 (i := 180) rfl rfl), List.forall_mem_cons.mpr ⟨Or.inl (TG_3 (i := 181) rfl rfl), List.forall_mem_cons.mpr ⟨Or.inl (TG_3 (i := 182) rfl rfl), List.forall_mem_cons.mpr ⟨Or.inl (TG_3 (i := 183) rfl rfl), List.forall_mem_cons.mpr ⟨Or.inl (TG_3 (i := 185) rfl rfl), List.forall_mem_cons.mpr ⟨Or.inl (TG_3 (i := 186) rfl rfl), List.forall_mem_cons.mpr ⟨Or.inl (TG_3 (i := 187) rfl rfl), List.forall_mem_cons.mpr ⟨Or.inl (TG_3 (i := 189) rfl rfl), List.forall_mem_cons.mpr ⟨Or.inl (TG_3 (i := 190) rfl rfl), List.forall_mem_cons.mpr ⟨Or.inl (TG_3 (i := 191) rfl rfl), List.forall_mem_cons.mpr ⟨Or.inl (TG_3 (i := 192) rfl rfl), List.forall_mem_cons.mpr ⟨Or.inl (TG_3 (i := 193) rfl rfl), List.forall_mem_cons.mpr ⟨Or.inl (TG_3 (i := 194) rfl rfl), List.forall_mem_cons.mpr ⟨Or.inl (TG_3 (i := 195) rfl rfl), List.forall_mem_cons.mpr ⟨Or.inl (TG_3 (i := 196) rfl rfl), List.forall_mem_cons.mpr ⟨Or.inl (TG_3 (i := 197) rfl rfl), List.forall_mem_cons.mpr ⟨Or.inl (TG_3 (i := 198) rfl rfl), List.forall_mem_cons.mpr ⟨Or.inl (TG_3 (i := 199) rfl rfl), List.forall_mem_cons.mpr ⟨Or.inl (TG_3 (i := 200) rfl rfl), List.forall_mem_cons.mpr ⟨Or.inl (TG_3 (i := 168) rfl rfl), List.forall_mem_cons.mpr ⟨Or.inl (TG_3 (i := 202) rfl rfl), List.forall_mem_cons.mpr ⟨Or.inl (TG_3 (i := 203) rfl rfl), List.forall_mem_cons.mpr ⟨Or.inl (TG_3 (i := 204) rfl rfl), List.forall_mem_cons.mpr ⟨Or.inl (TG_3 (i := 205) rfl rfl), List.forall_mem_cons.mpr ⟨Or.inl (TG_3 (i := 210) rfl rfl), List.forall_mem_cons.mpr ⟨Or.inl (TG_3 (i := 213) rfl rfl), List.forall_mem_cons.mpr ⟨Or.inl (TG_3 (i := 218) rfl rfl), List.forall_mem_cons.mpr ⟨Or.inl (TG_3 (i := 219) rfl rfl), List.forall_mem_cons.mpr ⟨Or.inr (List.mem_of_getElem? (i := 9) rfl), List.forall_mem_cons.mpr ⟨Or.inl (TG_3 (i := 221) rfl rfl), List.forall_mem_cons.mpr ⟨Or.inl (TG_3 (i := 222) rfl rfl), List.forall_mem_cons.mpr ⟨Or.inl (TG_3 (i := 223) rfl rfl), List.forall_mem_cons.mpr ⟨Or.inl (TG_3 (i := 224) rfl rfl), List.forall_mem_cons.mpr ⟨Or.inl (TG_3 (i := 225) rfl rfl), List.forall_mem_cons.mpr ⟨Or.inl (TG_3 (i := 226) rfl rfl), List.forall_mem_cons.mpr ⟨Or.inl (TG_3 (i := 228) rfl rfl), List.forall_mem_cons.mpr ⟨Or.inl (TG_3 (i := 229) rfl rfl), List.forall_mem_cons.mpr ⟨Or.inl (TG_3 (i := 230) rfl rfl), List.forall_mem_cons.mpr ⟨Or.inl (TG_3 (i := 231) rfl rfl), List.forall_mem_cons.mpr ⟨Or.inl (TG_3 (i := 232) rfl rfl), List.forall_mem_cons.mpr ⟨Or.inl (TG_3 (i := 233) rfl rfl), List.forall_mem_cons.mpr ⟨Or.inl (TG_3 (i := 234) rfl rfl), List.forall_mem_cons.mpr ⟨Or.inl (TG_3 (i := 235) rfl rfl), List.forall_mem_cons.mpr ⟨Or.inr (List.mem_of_getElem? (i := 10) rfl), List.forall_mem_cons.mpr ⟨Or.inl (TG_3 (i := 237) rfl rfl), List.forall_mem_cons.mpr ⟨Or.inl (TG_3 (i := 238) rfl rfl), List.forall_mem_cons.mpr ⟨Or.inl (TG_3 (i := 239) rfl rfl), List.forall_mem_cons.mpr ⟨Or.inl (TG_4 (i := 0) rfl rfl), List.forall_mem_cons.mpr ⟨Or.inl (TG_4 (i := 1) rfl rfl), List.forall_mem_cons.mpr ⟨Or.inl (TG_4 (i := 2) rfl rfl), List.forall_mem_cons.mpr ⟨Or.inl (TG_4 (i := 4) rfl rfl), List.forall_mem_cons.mpr ⟨Or.inl (TG_4 (i := 5) rfl rfl), List.forall_mem_cons.mpr ⟨Or.inl (TG_4 (i := 6) rfl rfl), List.forall_mem_cons.mpr ⟨Or.inl (TG_4 (i := 7) rfl rfl), List.forall_mem_cons.mpr ⟨Or.inl (TG_4 (i := 8) rfl rfl), List.forall_mem_cons.mpr ⟨Or.inl (TG_4 (i := 9) rfl rfl), List.forall_mem_cons.mpr ⟨Or.inl (TG_7 (i := 194) rfl rfl), List.forall_mem_cons.mpr ⟨Or.inl (TG_1 (i := 29) rfl rfl), List.forall_mem_cons.mpr ⟨Or.inl (TG_1 (i := 30) rfl rfl), List.forall_mem_nil _⟩⟩⟩⟩⟩⟩⟩⟩⟩⟩⟩⟩⟩⟩⟩⟩⟩⟩⟩⟩⟩⟩⟩⟩⟩⟩⟩⟩⟩⟩⟩⟩⟩⟩⟩⟩⟩⟩⟩⟩⟩⟩⟩⟩⟩⟩⟩⟩⟩⟩⟩⟩⟩⟩⟩⟩⟩⟩⟩⟩⟩⟩⟩⟩⟩⟩⟩⟩⟩⟩⟩⟩⟩⟩⟩⟩⟩⟩⟩⟩⟩⟩⟩⟩⟩⟩⟩⟩⟩⟩⟩⟩⟩⟩⟩⟩
def mStrs : List (Nat × String) := [(111, "the machine has all its closures"), (149, "the job has all its steps"), (155, "the job has no steps, or one of a single hour"), (180, "no row of all the jobs' steps"), (189, "too many steps for a best plan"), (202, "no such two places"), (209, "no row tells these orders"), (221, "no such worker"), (277, "no such place"), (361, "no such machine"), (363, "no such kind"), (365, "no such job"), (367, "no such step"), (369, "a number is out of range"), (371, "all jobs are there"), (373, "there is no plan")]
theorem mStrs_tbl : ∀ x ∈ mStrs, Cond.stringRef "JobWorkshop" x.1 x.2 ∈ lw_tbl := List.forall_mem_cons.mpr ⟨TT_4 (i := 3) rfl, List.forall_mem_cons.mpr ⟨TT_4 (i := 65) rfl, List.forall_mem_cons.mpr ⟨TT_4 (i := 77) rfl, List.forall_mem_cons.mpr ⟨TT_4 (i := 130) rfl, List.forall_mem_cons.mpr ⟨TT_4 (i := 141) rfl, List.forall_mem_cons.mpr ⟨TT_4 (i := 168) rfl, List.forall_mem_cons.mpr ⟨TT_4 (i := 178) rfl, List.forall_mem_cons.mpr ⟨TT_4 (i := 213) rfl, List.forall_mem_cons.mpr ⟨TT_5 (i := 26) rfl, List.forall_mem_cons.mpr ⟨TT_3 (i := 188) rfl, List.forall_mem_cons.mpr ⟨TT_4 (i := 36) rfl, List.forall_mem_cons.mpr ⟨TT_4 (i := 64) rfl, List.forall_mem_cons.mpr ⟨TT_4 (i := 236) rfl, List.forall_mem_cons.mpr ⟨TT_3 (i := 227) rfl, List.forall_mem_cons.mpr ⟨TT_4 (i := 52) rfl, List.forall_mem_cons.mpr ⟨TT_4 (i := 190) rfl, List.forall_mem_nil _⟩⟩⟩⟩⟩⟩⟩⟩⟩⟩⟩⟩⟩⟩⟩⟩
def mPoolX : List (Nat × Nat × Nat × Nat × Nat) := [(109, 111, 113, 0, 2), (109, 149, 113, 0, 2), (109, 155, 113, 0, 2), (178, 180, 182, 0, 1), (109, 189, 113, 0, 2), (200, 202, 204, 0, 0), (109, 209, 113, 0, 2), (200, 221, 204, 0, 0), (200, 277, 204, 1, 0), (200, 361, 204, 1, 0), (200, 363, 204, 1, 0), (200, 365, 204, 1, 0), (200, 367, 204, 1, 0), (178, 369, 182, 1, 1), (109, 371, 113, 1, 2), (109, 373, 113, 1, 2)]
def mWX (x : Nat × Nat × Nat × Nat × Nat) : Prop := (∃ tx, (x.2.1, tx) ∈ mStrs) ∧ Cond.classLink "JobWorkshop" x.1 (mExn x.2.2.2.2) ∈ TG ∧ Cond.initialized (mExn x.2.2.2.2) ∈ TG ∧ (∀ w ∈ vx_atS "JobWorkshop" x.2.2.1 (mExn x.2.2.2.2) mUp, w ∈ mXw) ∧ (∀ w ∈ Cond.classLink "JobWorkshop" x.1 (mExn x.2.2.2.2) :: Cond.initialized (mExn x.2.2.2.2) :: vx_atS "JobWorkshop" x.2.2.1 (mExn x.2.2.2.2) mUp, vx_ot w = true) ∧ Bundle.fit (mExn x.2.2.2.2) = true ∧ x.2.2.2.2 < 3
set_option maxRecDepth 20000 in
theorem mX_15 : mWX (109, 373, 113, 1, 2) := ⟨⟨"there is no plan", List.mem_of_getElem? (i := 15) rfl⟩, TG_3 (i := 234) rfl rfl, TG_1 (i := 18) rfl rfl, by decide +kernel, by decide +kernel, by decide +kernel, by decide⟩
set_option maxRecDepth 20000 in
theorem mX_14 : mWX (109, 371, 113, 1, 2) := ⟨⟨"all jobs are there", List.mem_of_getElem? (i := 14) rfl⟩, TG_3 (i := 234) rfl rfl, TG_1 (i := 18) rfl rfl, by decide +kernel, by decide +kernel, by decide +kernel, by decide⟩
set_option maxRecDepth 20000 in
theorem mX_13 : mWX (178, 369, 182, 1, 1) := ⟨⟨"a number is out of range", List.mem_of_getElem? (i := 13) rfl⟩, TG_3 (i := 218) rfl rfl, TG_1 (i := 17) rfl rfl, by decide +kernel, by decide +kernel, by decide +kernel, by decide⟩
set_option maxRecDepth 20000 in
theorem mX_12 : mWX (200, 367, 204, 1, 0) := ⟨⟨"no such step", List.mem_of_getElem? (i := 12) rfl⟩, TG_3 (i := 147) rfl rfl, TG_1 (i := 16) rfl rfl, by decide +kernel, by decide +kernel, by decide +kernel, by decide⟩
set_option maxRecDepth 20000 in
theorem mX_11 : mWX (200, 365, 204, 1, 0) := ⟨⟨"no such job", List.mem_of_getElem? (i := 11) rfl⟩, TG_3 (i := 147) rfl rfl, TG_1 (i := 16) rfl rfl, by decide +kernel, by decide +kernel, by decide +kernel, by decide⟩
set_option maxRecDepth 20000 in
theorem mX_10 : mWX (200, 363, 204, 1, 0) := ⟨⟨"no such kind", List.mem_of_getElem? (i := 10) rfl⟩, TG_3 (i := 147) rfl rfl, TG_1 (i := 16) rfl rfl, by decide +kernel, by decide +kernel, by decide +kernel, by decide⟩
set_option maxRecDepth 20000 in
theorem mX_9 : mWX (200, 361, 204, 1, 0) := ⟨⟨"no such machine", List.mem_of_getElem? (i := 9) rfl⟩, TG_3 (i := 147) rfl rfl, TG_1 (i := 16) rfl rfl, by decide +kernel, by decide +kernel, by decide +kernel, by decide⟩
set_option maxRecDepth 20000 in
theorem mX_8 : mWX (200, 277, 204, 1, 0) := ⟨⟨"no such place", List.mem_of_getElem? (i := 8) rfl⟩, TG_3 (i := 147) rfl rfl, TG_1 (i := 16) rfl rfl, by decide +kernel, by decide +kernel, by decide +kernel, by decide⟩
set_option maxRecDepth 20000 in
theorem mX_7 : mWX (200, 221, 204, 0, 0) := ⟨⟨"no such worker", List.mem_of_getElem? (i := 7) rfl⟩, TG_3 (i := 147) rfl rfl, TG_1 (i := 16) rfl rfl, by decide +kernel, by decide +kernel, by decide +kernel, by decide⟩
set_option maxRecDepth 20000 in
theorem mX_6 : mWX (109, 209, 113, 0, 2) := ⟨⟨"no row tells these orders", List.mem_of_getElem? (i := 6) rfl⟩, TG_3 (i := 234) rfl rfl, TG_1 (i := 18) rfl rfl, by decide +kernel, by decide +kernel, by decide +kernel, by decide⟩
set_option maxRecDepth 20000 in
theorem mX_5 : mWX (200, 202, 204, 0, 0) := ⟨⟨"no such two places", List.mem_of_getElem? (i := 5) rfl⟩, TG_3 (i := 147) rfl rfl, TG_1 (i := 16) rfl rfl, by decide +kernel, by decide +kernel, by decide +kernel, by decide⟩
set_option maxRecDepth 20000 in
theorem mX_4 : mWX (109, 189, 113, 0, 2) := ⟨⟨"too many steps for a best plan", List.mem_of_getElem? (i := 4) rfl⟩, TG_3 (i := 234) rfl rfl, TG_1 (i := 18) rfl rfl, by decide +kernel, by decide +kernel, by decide +kernel, by decide⟩
set_option maxRecDepth 20000 in
theorem mX_3 : mWX (178, 180, 182, 0, 1) := ⟨⟨"no row of all the jobs' steps", List.mem_of_getElem? (i := 3) rfl⟩, TG_3 (i := 218) rfl rfl, TG_1 (i := 17) rfl rfl, by decide +kernel, by decide +kernel, by decide +kernel, by decide⟩
set_option maxRecDepth 20000 in
theorem mX_2 : mWX (109, 155, 113, 0, 2) := ⟨⟨"the job has no steps, or one of a single hour", List.mem_of_getElem? (i := 2) rfl⟩, TG_3 (i := 234) rfl rfl, TG_1 (i := 18) rfl rfl, by decide +kernel, by decide +kernel, by decide +kernel, by decide⟩
set_option maxRecDepth 20000 in
theorem mX_1 : mWX (109, 149, 113, 0, 2) := ⟨⟨"the job has all its steps", List.mem_of_getElem? (i := 1) rfl⟩, TG_3 (i := 234) rfl rfl, TG_1 (i := 18) rfl rfl, by decide +kernel, by decide +kernel, by decide +kernel, by decide⟩
set_option maxRecDepth 20000 in
theorem mX_0 : mWX (109, 111, 113, 0, 2) := ⟨⟨"the machine has all its closures", List.mem_of_getElem? (i := 0) rfl⟩, TG_3 (i := 234) rfl rfl, TG_1 (i := 18) rfl rfl, by decide +kernel, by decide +kernel, by decide +kernel, by decide⟩
theorem mX_ok : ∀ x ∈ mPoolX, mWX x := List.forall_mem_cons.mpr ⟨mX_0, List.forall_mem_cons.mpr ⟨mX_1, List.forall_mem_cons.mpr ⟨mX_2, List.forall_mem_cons.mpr ⟨mX_3, List.forall_mem_cons.mpr ⟨mX_4, List.forall_mem_cons.mpr ⟨mX_5, List.forall_mem_cons.mpr ⟨mX_6, List.forall_mem_cons.mpr ⟨mX_7, List.forall_mem_cons.mpr ⟨mX_8, List.forall_mem_cons.mpr ⟨mX_9, List.forall_mem_cons.mpr ⟨mX_10, List.forall_mem_cons.mpr ⟨mX_11, List.forall_mem_cons.mpr ⟨mX_12, List.forall_mem_cons.mpr ⟨mX_13, List.forall_mem_cons.mpr ⟨mX_14, List.forall_mem_cons.mpr ⟨mX_15, List.forall_mem_nil _⟩⟩⟩⟩⟩⟩⟩⟩⟩⟩⟩⟩⟩⟩⟩⟩
def mOkM (y : Nat) (q : mMeta) : Prop := (q.2.2.2.2.2 = [] → Cond.code q.1 q.2.1 (mProg.getD y ([], (0, (0, (0, []))))).2.1 q.2.2.1 ∈ TG) ∧ (q.2.2.2.2.2 ≠ [] → Cond.codeWith q.1 q.2.1 (mProg.getD y ([], (0, (0, (0, []))))).2.1 q.2.2.1 q.2.2.2.2.2 ∈ TG ∧ q.2.2.2.2.1 = true) ∧ Cond.initialized q.1.cls ∈ TG ∧ (q.2.2.2.2.1 = true → Cond.static q.1 ∈ TG) ∧ (q.2.2.2.2.1 = false → Cond.instanceMethod q.1 ∈ TG ∧ (q.1.name ≠ "<init>" → Cond.selects q.1.cls q.1 q.1 ∈ TG)) ∧ plainName q.1.cls = true ∧ (q.1.cls ≠ "java/lang/invoke/MethodHandle" ∧ q.1.cls ≠ "java/lang/invoke/VarHandle" ∧ (parseMethodDescriptor q.1.desc).map (fun d => d.parameters.length) = some (if q.2.2.2.2.1 then q.2.2.2.1 else q.2.2.2.1 - 1)) ∧ (q.1.name = "<init>" → q.2.2.1 = none)
set_option maxRecDepth 20000 in
theorem mOk_X0_init : mOkM 0 (mMt 0) := ⟨fun _ => TG_1 (i := 186) rfl rfl, fun h => absurd rfl h, TG_1 (i := 4) rfl rfl, (fun h => nomatch h), fun _ => ⟨TG_1 (i := 185) rfl rfl, fun h => absurd rfl h⟩, by decide +kernel, ⟨by decide +kernel, by decide +kernel, by decide +kernel⟩, fun _ => rfl⟩
set_option maxRecDepth 20000 in
theorem mOk_X0_search : mOkM 1 (mMt 1) := ⟨fun _ => TG_4 (i := 145) rfl rfl, fun h => absurd rfl h, TG_1 (i := 4) rfl rfl, (fun h => nomatch h), fun _ => ⟨TG_4 (i := 143) rfl rfl, fun _ => TG_4 (i := 144) rfl rfl⟩, by decide +kernel, ⟨by decide +kernel, by decide +kernel, by decide +kernel⟩, fun h => absurd h (by decide)⟩
set_option maxRecDepth 20000 in
theorem mOk_X0_explore : mOkM 2 (mMt 2) := ⟨fun _ => TG_4 (i := 152) rfl rfl, fun h => absurd rfl h, TG_1 (i := 4) rfl rfl, (fun h => nomatch h), fun _ => ⟨TG_4 (i := 151) rfl rfl, fun _ => TG_s (List.mem_of_getElem? (i := 24) rfl) rfl⟩, by decide +kernel, ⟨by decide +kernel, by decide +kernel, by decide +kernel⟩, fun h => absurd h (by decide)⟩
set_option maxRecDepth 20000 in
theorem mOk_X1_init : mOkM 3 (mMt 3) := ⟨fun _ => TG_2 (i := 71) rfl rfl, fun h => absurd rfl h, TG_1 (i := 10) rfl rfl, (fun h => nomatch h), fun _ => ⟨TG_2 (i := 70) rfl rfl, fun h => absurd rfl h⟩, by decide +kernel, ⟨by decide +kernel, by decide +kernel, by decide +kernel⟩, fun _ => rfl⟩
set_option maxRecDepth 20000 in
theorem mOk_X1_assign : mOkM 4 (mMt 4) := ⟨fun _ => TG_5 (i := 134) rfl rfl, fun h => absurd rfl h, TG_1 (i := 10) rfl rfl, (fun h => nomatch h), fun _ => ⟨TG_5 (i := 132) rfl rfl, fun _ => TG_5 (i := 133) rfl rfl⟩, by decide +kernel, ⟨by decide +kernel, by decide +kernel, by decide +kernel⟩, fun h => absurd h (by decide)⟩
set_option maxRecDepth 20000 in
theorem mOk_X1_fillable : mOkM 5 (mMt 5) := ⟨fun _ => TG_5 (i := 138) rfl rfl, fun h => absurd rfl h, TG_1 (i := 10) rfl rfl, (fun h => nomatch h), fun _ => ⟨TG_5 (i := 137) rfl rfl, fun _ => TG_s (List.mem_of_getElem? (i := 31) rfl) rfl⟩, by decide +kernel, ⟨by decide +kernel, by decide +kernel, by decide +kernel⟩, fun h => absurd h (by decide)⟩
set_option maxRecDepth 20000 in
theorem mOk_X1_explore : mOkM 6 (mMt 6) := ⟨fun _ => TG_5 (i := 142) rfl rfl, fun h => absurd rfl h, TG_1 (i := 10) rfl rfl, (fun h => nomatch h), fun _ => ⟨TG_5 (i := 141) rfl rfl, fun _ => TG_s (List.mem_of_getElem? (i := 32) rfl) rfl⟩, by decide +kernel, ⟨by decide +kernel, by decide +kernel, by decide +kernel⟩, fun h => absurd h (by decide)⟩
set_option maxRecDepth 20000 in
theorem mOk_X2_init : mOkM 7 (mMt 7) := ⟨fun _ => TG_2 (i := 0) rfl rfl, fun h => absurd rfl h, TG_1 (i := 6) rfl rfl, (fun h => nomatch h), fun _ => ⟨TG_1 (i := 239) rfl rfl, fun h => absurd rfl h⟩, by decide +kernel, ⟨by decide +kernel, by decide +kernel, by decide +kernel⟩, fun _ => rfl⟩
set_option maxRecDepth 20000 in
theorem mOk_X2_wrongHours : mOkM 8 (mMt 8) := ⟨fun _ => TG_3 (i := 121) rfl rfl, fun h => absurd rfl h, TG_1 (i := 6) rfl rfl, (fun h => nomatch h), fun _ => ⟨TG_3 (i := 119) rfl rfl, fun _ => TG_3 (i := 120) rfl rfl⟩, by decide +kernel, ⟨by decide +kernel, by decide +kernel, by decide +kernel⟩, fun h => absurd h (by decide)⟩
set_option maxRecDepth 20000 in
theorem mOk_X2_markStep : mOkM 9 (mMt 9) := ⟨fun _ => TG_3 (i := 126) rfl rfl, fun h => absurd rfl h, TG_1 (i := 6) rfl rfl, (fun h => nomatch h), fun _ => ⟨TG_3 (i := 125) rfl rfl, fun _ => TG_s (List.mem_of_getElem? (i := 14) rfl) rfl⟩, by decide +kernel, ⟨by decide +kernel, by decide +kernel, by decide +kernel⟩, fun h => absurd h (by decide)⟩
set_option maxRecDepth 20000 in
theorem mOk_X3_init : mOkM 10 (mMt 10) := ⟨fun _ => TG_2 (i := 22) rfl rfl, fun h => absurd rfl h, TG_1 (i := 8) rfl rfl, (fun h => nomatch h), fun _ => ⟨TG_2 (i := 21) rfl rfl, fun h => absurd rfl h⟩, by decide +kernel, ⟨by decide +kernel, by decide +kernel, by decide +kernel⟩, fun _ => rfl⟩
set_option maxRecDepth 20000 in
theorem mOk_X3_clear : mOkM 11 (mMt 11) := ⟨fun _ => TG_3 (i := 31) rfl rfl, fun h => absurd rfl h, TG_1 (i := 8) rfl rfl, (fun h => nomatch h), fun _ => ⟨TG_3 (i := 29) rfl rfl, fun _ => TG_3 (i := 30) rfl rfl⟩, by decide +kernel, ⟨by decide +kernel, by decide +kernel, by decide +kernel⟩, fun h => absurd h (by decide)⟩
set_option maxRecDepth 20000 in
theorem mOk_X3_insert : mOkM 12 (mMt 12) := ⟨fun _ => TG_3 (i := 36) rfl rfl, fun h => absurd rfl h, TG_1 (i := 8) rfl rfl, (fun h => nomatch h), fun _ => ⟨TG_3 (i := 34) rfl rfl, fun _ => TG_3 (i := 35) rfl rfl⟩, by decide +kernel, ⟨by decide +kernel, by decide +kernel, by decide +kernel⟩, fun h => absurd h (by decide)⟩
set_option maxRecDepth 20000 in
theorem mOk_X4_init : mOkM 13 (mMt 13) := ⟨fun _ => TG_2 (i := 92) rfl rfl, fun h => absurd rfl h, TG_1 (i := 11) rfl rfl, (fun h => nomatch h), fun _ => ⟨TG_2 (i := 91) rfl rfl, fun h => absurd rfl h⟩, by decide +kernel, ⟨by decide +kernel, by decide +kernel, by decide +kernel⟩, fun _ => rfl⟩
set_option maxRecDepth 20000 in
theorem mOk_X4_hourOf : mOkM 14 (mMt 14) := ⟨fun _ => TG_5 (i := 162) rfl rfl, fun h => absurd rfl h, TG_1 (i := 11) rfl rfl, (fun h => nomatch h), fun _ => ⟨TG_5 (i := 160) rfl rfl, fun _ => TG_5 (i := 161) rfl rfl⟩, by decide +kernel, ⟨by decide +kernel, by decide +kernel, by decide +kernel⟩, fun h => absurd h (by decide)⟩
set_option maxRecDepth 20000 in
theorem mOk_X4_spread : mOkM 15 (mMt 15) := ⟨fun _ => TG_5 (i := 168) rfl rfl, fun h => absurd rfl h, TG_1 (i := 11) rfl rfl, (fun h => nomatch h), fun _ => ⟨TG_5 (i := 167) rfl rfl, fun _ => TG_s (List.mem_of_getElem? (i := 33) rfl) rfl⟩, by decide +kernel, ⟨by decide +kernel, by decide +kernel, by decide +kernel⟩, fun h => absurd h (by decide)⟩
set_option maxRecDepth 20000 in
theorem mOk_X5_init : mOkM 16 (mMt 16) := ⟨fun _ => TG_2 (i := 16) rfl rfl, fun h => absurd rfl h, TG_1 (i := 7) rfl rfl, (fun h => nomatch h), fun _ => ⟨TG_2 (i := 15) rfl rfl, fun h => absurd rfl h⟩, by decide +kernel, ⟨by decide +kernel, by decide +kernel, by decide +kernel⟩, fun _ => rfl⟩
set_option maxRecDepth 20000 in
theorem mOk_X5_sortByLength : mOkM 17 (mMt 17) := ⟨fun _ => TG_3 (i := 27) rfl rfl, fun h => absurd rfl h, TG_1 (i := 7) rfl rfl, (fun h => nomatch h), fun _ => ⟨TG_3 (i := 26) rfl rfl, fun _ => TG_s (List.mem_of_getElem? (i := 6) rfl) rfl⟩, by decide +kernel, ⟨by decide +kernel, by decide +kernel, by decide +kernel⟩, fun h => absurd h (by decide)⟩
set_option maxRecDepth 20000 in
theorem mOk_X5_sortByDue : mOkM 18 (mMt 18) := ⟨fun _ => TG_3 (i := 48) rfl rfl, fun h => absurd rfl h, TG_1 (i := 7) rfl rfl, (fun h => nomatch h), fun _ => ⟨TG_3 (i := 47) rfl rfl, fun _ => TG_s (List.mem_of_getElem? (i := 7) rfl) rfl⟩, by decide +kernel, ⟨by decide +kernel, by decide +kernel, by decide +kernel⟩, fun h => absurd h (by decide)⟩
set_option maxRecDepth 20000 in
theorem mOk_X5_sumOfEnds : mOkM 19 (mMt 19) := ⟨fun _ => TG_3 (i := 23) rfl rfl, fun h => absurd rfl h, TG_1 (i := 7) rfl rfl, (fun h => nomatch h), fun _ => ⟨TG_3 (i := 21) rfl rfl, fun _ => TG_3 (i := 22) rfl rfl⟩, by decide +kernel, ⟨by decide +kernel, by decide +kernel, by decide +kernel⟩, fun h => absurd h (by decide)⟩
set_option maxRecDepth 20000 in
theorem mOk_X5_greatestLateness : mOkM 20 (mMt 20) := ⟨fun _ => TG_3 (i := 44) rfl rfl, fun h => absurd rfl h, TG_1 (i := 7) rfl rfl, (fun h => nomatch h), fun _ => ⟨TG_3 (i := 42) rfl rfl, fun _ => TG_3 (i := 43) rfl rfl⟩, by decide +kernel, ⟨by decide +kernel, by decide +kernel, by decide +kernel⟩, fun h => absurd h (by decide)⟩
set_option maxRecDepth 20000 in
theorem mOk_X5_droppedJobs : mOkM 21 (mMt 21) := ⟨fun _ => TG_3 (i := 57) rfl rfl, fun h => absurd rfl h, TG_1 (i := 7) rfl rfl, (fun h => nomatch h), fun _ => ⟨TG_3 (i := 55) rfl rfl, fun _ => TG_3 (i := 56) rfl rfl⟩, by decide +kernel, ⟨by decide +kernel, by decide +kernel, by decide +kernel⟩, fun h => absurd h (by decide)⟩
set_option maxRecDepth 20000 in
theorem mOk_X5_longestOf : mOkM 22 (mMt 22) := ⟨fun _ => TG_3 (i := 61) rfl rfl, fun h => absurd rfl h, TG_1 (i := 7) rfl rfl, (fun h => nomatch h), fun _ => ⟨TG_3 (i := 60) rfl rfl, fun _ => TG_s (List.mem_of_getElem? (i := 8) rfl) rfl⟩, by decide +kernel, ⟨by decide +kernel, by decide +kernel, by decide +kernel⟩, fun h => absurd h (by decide)⟩
set_option maxRecDepth 20000 in
theorem mOk_X5_hoursOfStep : mOkM 23 (mMt 23) := ⟨fun _ => TG_3 (i := 83) rfl rfl, fun h => absurd rfl h, TG_1 (i := 7) rfl rfl, (fun h => nomatch h), fun _ => ⟨TG_3 (i := 82) rfl rfl, fun _ => TG_s (List.mem_of_getElem? (i := 10) rfl) rfl⟩, by decide +kernel, ⟨by decide +kernel, by decide +kernel, by decide +kernel⟩, fun h => absurd h (by decide)⟩
set_option maxRecDepth 20000 in
theorem mOk_X5_sortForTwo : mOkM 24 (mMt 24) := ⟨fun _ => TG_3 (i := 79) rfl rfl, fun h => absurd rfl h, TG_1 (i := 7) rfl rfl, (fun h => nomatch h), fun _ => ⟨TG_3 (i := 78) rfl rfl, fun _ => TG_s (List.mem_of_getElem? (i := 9) rfl) rfl⟩, by decide +kernel, ⟨by decide +kernel, by decide +kernel, by decide +kernel⟩, fun h => absurd h (by decide)⟩
set_option maxRecDepth 20000 in
theorem mOk_X5_endOnTwo : mOkM 25 (mMt 25) := ⟨fun _ => TG_3 (i := 75) rfl rfl, fun h => absurd rfl h, TG_1 (i := 7) rfl rfl, (fun h => nomatch h), fun _ => ⟨TG_3 (i := 73) rfl rfl, fun _ => TG_3 (i := 74) rfl rfl⟩, by decide +kernel, ⟨by decide +kernel, by decide +kernel, by decide +kernel⟩, fun h => absurd h (by decide)⟩
set_option maxRecDepth 20000 in
theorem mOk_X5_jobOnTwo : mOkM 26 (mMt 26) := ⟨fun _ => TG_5 (i := 116) rfl rfl, fun h => absurd rfl h, TG_1 (i := 7) rfl rfl, (fun h => nomatch h), fun _ => ⟨TG_5 (i := 114) rfl rfl, fun _ => TG_5 (i := 115) rfl rfl⟩, by decide +kernel, ⟨by decide +kernel, by decide +kernel, by decide +kernel⟩, fun h => absurd h (by decide)⟩
set_option maxRecDepth 20000 in
theorem mOk_X6_init : mOkM 27 (mMt 27) := ⟨fun _ => TG_2 (i := 47) rfl rfl, fun h => absurd rfl h, TG_1 (i := 9) rfl rfl, (fun h => nomatch h), fun _ => ⟨TG_2 (i := 46) rfl rfl, fun h => absurd rfl h⟩, by decide +kernel, ⟨by decide +kernel, by decide +kernel, by decide +kernel⟩, fun _ => rfl⟩
set_option maxRecDepth 20000 in
theorem mOk_X6_search : mOkM 28 (mMt 28) := ⟨fun _ => TG_3 (i := 91) rfl rfl, fun h => absurd rfl h, TG_1 (i := 9) rfl rfl, (fun h => nomatch h), fun _ => ⟨TG_3 (i := 89) rfl rfl, fun _ => TG_3 (i := 90) rfl rfl⟩, by decide +kernel, ⟨by decide +kernel, by decide +kernel, by decide +kernel⟩, fun h => absurd h (by decide)⟩
set_option maxRecDepth 20000 in
theorem mOk_X6_explore : mOkM 29 (mMt 29) := ⟨fun _ => TG_3 (i := 95) rfl rfl, fun h => absurd rfl h, TG_1 (i := 9) rfl rfl, (fun h => nomatch h), fun _ => ⟨TG_3 (i := 94) rfl rfl, fun _ => TG_s (List.mem_of_getElem? (i := 11) rfl) rfl⟩, by decide +kernel, ⟨by decide +kernel, by decide +kernel, by decide +kernel⟩, fun h => absurd h (by decide)⟩
set_option maxRecDepth 20000 in
theorem mOk_X6_hoursBehind : mOkM 30 (mMt 30) := ⟨fun _ => TG_3 (i := 100) rfl rfl, fun h => absurd rfl h, TG_1 (i := 9) rfl rfl, (fun h => nomatch h), fun _ => ⟨TG_3 (i := 99) rfl rfl, fun _ => TG_s (List.mem_of_getElem? (i := 12) rfl) rfl⟩, by decide +kernel, ⟨by decide +kernel, by decide +kernel, by decide +kernel⟩, fun h => absurd h (by decide)⟩
set_option maxRecDepth 20000 in
theorem mOk_X7_init : mOkM 31 (mMt 31) := ⟨fun _ => TG_1 (i := 35) rfl rfl, fun h => absurd rfl h, TG_1 (i := 2) rfl rfl, (fun h => nomatch h), fun _ => ⟨TG_1 (i := 34) rfl rfl, fun h => absurd rfl h⟩, by decide +kernel, ⟨by decide +kernel, by decide +kernel, by decide +kernel⟩, fun _ => rfl⟩
set_option maxRecDepth 20000 in
theorem mOk_X7_copyFrom : mOkM 32 (mMt 32) := ⟨fun _ => TG_2 (i := 163) rfl rfl, fun h => absurd rfl h, TG_1 (i := 2) rfl rfl, (fun h => nomatch h), fun _ => ⟨TG_2 (i := 161) rfl rfl, fun _ => TG_2 (i := 162) rfl rfl⟩, by decide +kernel, ⟨by decide +kernel, by decide +kernel, by decide +kernel⟩, fun h => absurd h (by decide)⟩
set_option maxRecDepth 20000 in
theorem mOk_X7_copy : mOkM 33 (mMt 33) := ⟨fun _ => TG_2 (i := 166) rfl rfl, fun h => absurd rfl h, TG_1 (i := 2) rfl rfl, fun _ => TG_2 (i := 165) rfl rfl, (fun h => nomatch h), by decide +kernel, ⟨by decide +kernel, by decide +kernel, by decide +kernel⟩, fun h => absurd h (by decide)⟩
set_option maxRecDepth 20000 in
theorem mOk_X7_takeRow : mOkM 34 (mMt 34) := ⟨fun _ => TG_4 (i := 114) rfl rfl, fun h => absurd rfl h, TG_1 (i := 2) rfl rfl, (fun h => nomatch h), fun _ => ⟨TG_4 (i := 112) rfl rfl, fun _ => TG_4 (i := 113) rfl rfl⟩, by decide +kernel, ⟨by decide +kernel, by decide +kernel, by decide +kernel⟩, fun h => absurd h (by decide)⟩
set_option maxRecDepth 20000 in
theorem mOk_X7_newJob : mOkM 35 (mMt 35) := ⟨fun _ => TG_2 (i := 105) rfl rfl, fun h => absurd rfl h, TG_1 (i := 2) rfl rfl, (fun h => nomatch h), fun _ => ⟨TG_2 (i := 103) rfl rfl, fun _ => TG_2 (i := 104) rfl rfl⟩, by decide +kernel, ⟨by decide +kernel, by decide +kernel, by decide +kernel⟩, fun h => absurd h (by decide)⟩
set_option maxRecDepth 20000 in
theorem mOk_X7_newStep : mOkM 36 (mMt 36) := ⟨fun _ => TG_2 (i := 109) rfl rfl, fun h => absurd rfl h, TG_1 (i := 2) rfl rfl, (fun h => nomatch h), fun _ => ⟨TG_2 (i := 107) rfl rfl, fun _ => TG_2 (i := 108) rfl rfl⟩, by decide +kernel, ⟨by decide +kernel, by decide +kernel, by decide +kernel⟩, fun h => absurd h (by decide)⟩
set_option maxRecDepth 20000 in
theorem mOk_X7_newClosure : mOkM 37 (mMt 37) := ⟨fun _ => TG_4 (i := 18) rfl rfl, fun h => absurd rfl h, TG_1 (i := 2) rfl rfl, (fun h => nomatch h), fun _ => ⟨TG_4 (i := 16) rfl rfl, fun _ => TG_4 (i := 17) rfl rfl⟩, by decide +kernel, ⟨by decide +kernel, by decide +kernel, by decide +kernel⟩, fun h => absurd h (by decide)⟩
set_option maxRecDepth 20000 in
theorem mOk_X7_canBeHalved : mOkM 38 (mMt 38) := ⟨fun _ => TG_4 (i := 76) rfl rfl, fun h => absurd rfl h, TG_1 (i := 2) rfl rfl, (fun h => nomatch h), fun _ => ⟨TG_4 (i := 74) rfl rfl, fun _ => TG_4 (i := 75) rfl rfl⟩, by decide +kernel, ⟨by decide +kernel, by decide +kernel, by decide +kernel⟩, fun h => absurd h (by decide)⟩
set_option maxRecDepth 20000 in
theorem mOk_X7_halve : mOkM 39 (mMt 39) := ⟨fun _ => TG_4 (i := 81) rfl rfl, fun h => absurd rfl h, TG_1 (i := 2) rfl rfl, (fun h => nomatch h), fun _ => ⟨TG_4 (i := 79) rfl rfl, fun _ => TG_4 (i := 80) rfl rfl⟩, by decide +kernel, ⟨by decide +kernel, by decide +kernel, by decide +kernel⟩, fun h => absurd h (by decide)⟩
set_option maxRecDepth 20000 in
theorem mOk_X7_stepTotal : mOkM 40 (mMt 40) := ⟨fun _ => TG_2 (i := 191) rfl rfl, fun h => absurd rfl h, TG_1 (i := 2) rfl rfl, (fun h => nomatch h), fun _ => ⟨TG_2 (i := 189) rfl rfl, fun _ => TG_2 (i := 190) rfl rfl⟩, by decide +kernel, ⟨by decide +kernel, by decide +kernel, by decide +kernel⟩, fun h => absurd h (by decide)⟩
set_option maxRecDepth 20000 in
theorem mOk_X7_hoursFrom : mOkM 41 (mMt 41) := ⟨fun _ => TG_3 (i := 10) rfl rfl, fun h => absurd rfl h, TG_1 (i := 2) rfl rfl, (fun h => nomatch h), fun _ => ⟨TG_3 (i := 8) rfl rfl, fun _ => TG_3 (i := 9) rfl rfl⟩, by decide +kernel, ⟨by decide +kernel, by decide +kernel, by decide +kernel⟩, fun h => absurd h (by decide)⟩
set_option maxRecDepth 20000 in
theorem mOk_X7_hoursOn : mOkM 42 (mMt 42) := ⟨fun _ => TG_3 (i := 15) rfl rfl, fun h => absurd rfl h, TG_1 (i := 2) rfl rfl, (fun h => nomatch h), fun _ => ⟨TG_3 (i := 13) rfl rfl, fun _ => TG_3 (i := 14) rfl rfl⟩, by decide +kernel, ⟨by decide +kernel, by decide +kernel, by decide +kernel⟩, fun h => absurd h (by decide)⟩
set_option maxRecDepth 20000 in
theorem mOk_X7_leastHours : mOkM 43 (mMt 43) := ⟨fun _ => TG_3 (i := 6) rfl rfl, fun h => absurd rfl h, TG_1 (i := 2) rfl rfl, (fun h => nomatch h), fun _ => ⟨TG_3 (i := 4) rfl rfl, fun _ => TG_3 (i := 5) rfl rfl⟩, by decide +kernel, ⟨by decide +kernel, by decide +kernel, by decide +kernel⟩, fun h => absurd h (by decide)⟩
set_option maxRecDepth 20000 in
theorem mOk_X7_isClosedIn : mOkM 44 (mMt 44) := ⟨fun _ => TG_3 (i := 133) rfl rfl, fun h => absurd rfl h, TG_1 (i := 2) rfl rfl, (fun h => nomatch h), fun _ => ⟨TG_3 (i := 131) rfl rfl, fun _ => TG_3 (i := 132) rfl rfl⟩, by decide +kernel, ⟨by decide +kernel, by decide +kernel, by decide +kernel⟩, fun h => absurd h (by decide)⟩
set_option maxRecDepth 20000 in
theorem mOk_X7_firstOpen : mOkM 45 (mMt 45) := ⟨fun _ => TG_2 (i := 234) rfl rfl, fun h => absurd rfl h, TG_1 (i := 2) rfl rfl, (fun h => nomatch h), fun _ => ⟨TG_2 (i := 232) rfl rfl, fun _ => TG_2 (i := 233) rfl rfl⟩, by decide +kernel, ⟨by decide +kernel, by decide +kernel, by decide +kernel⟩, fun h => absurd h (by decide)⟩
set_option maxRecDepth 20000 in
theorem mOk_X8_init : mOkM 46 (mMt 46) := ⟨fun _ => TG_1 (i := 138) rfl rfl, fun h => absurd rfl h, TG_1 (i := 3) rfl rfl, (fun h => nomatch h), fun _ => ⟨TG_1 (i := 137) rfl rfl, fun h => absurd rfl h⟩, by decide +kernel, ⟨by decide +kernel, by decide +kernel, by decide +kernel⟩, fun _ => rfl⟩
set_option maxRecDepth 20000 in
theorem mOk_X8_clear : mOkM 47 (mMt 47) := ⟨fun _ => TG_2 (i := 180) rfl rfl, fun h => absurd rfl h, TG_1 (i := 3) rfl rfl, (fun h => nomatch h), fun _ => ⟨TG_2 (i := 178) rfl rfl, fun _ => TG_2 (i := 179) rfl rfl⟩, by decide +kernel, ⟨by decide +kernel, by decide +kernel, by decide +kernel⟩, fun h => absurd h (by decide)⟩
set_option maxRecDepth 20000 in
theorem mOk_X8_hasLeft : mOkM 48 (mMt 48) := ⟨fun _ => TG_2 (i := 203) rfl rfl, fun h => absurd rfl h, TG_1 (i := 3) rfl rfl, (fun h => nomatch h), fun _ => ⟨TG_2 (i := 201) rfl rfl, fun _ => TG_2 (i := 202) rfl rfl⟩, by decide +kernel, ⟨by decide +kernel, by decide +kernel, by decide +kernel⟩, fun h => absurd h (by decide)⟩
set_option maxRecDepth 20000 in
theorem mOk_X8_endOfStep : mOkM 49 (mMt 49) := ⟨fun _ => TG_2 (i := 219) rfl rfl, fun h => absurd rfl h, TG_1 (i := 3) rfl rfl, (fun h => nomatch h), fun _ => ⟨TG_2 (i := 217) rfl rfl, fun _ => TG_2 (i := 218) rfl rfl⟩, by decide +kernel, ⟨by decide +kernel, by decide +kernel, by decide +kernel⟩, fun h => absurd h (by decide)⟩
set_option maxRecDepth 20000 in
theorem mOk_X8_nextStep : mOkM 50 (mMt 50) := ⟨fun _ => TG_2 (i := 195) rfl rfl, fun h => absurd rfl h, TG_1 (i := 3) rfl rfl, (fun h => nomatch h), fun _ => ⟨TG_2 (i := 194) rfl rfl, fun _ => TG_s (List.mem_of_getElem? (i := 0) rfl) rfl⟩, by decide +kernel, ⟨by decide +kernel, by decide +kernel, by decide +kernel⟩, fun h => absurd h (by decide)⟩
set_option maxRecDepth 20000 in
theorem mOk_X8_readyHour : mOkM 51 (mMt 51) := ⟨fun _ => TG_2 (i := 215) rfl rfl, fun h => absurd rfl h, TG_1 (i := 3) rfl rfl, (fun h => nomatch h), fun _ => ⟨TG_2 (i := 214) rfl rfl, fun _ => TG_s (List.mem_of_getElem? (i := 3) rfl) rfl⟩, by decide +kernel, ⟨by decide +kernel, by decide +kernel, by decide +kernel⟩, fun h => absurd h (by decide)⟩
set_option maxRecDepth 20000 in
theorem mOk_X8_lastOn : mOkM 52 (mMt 52) := ⟨fun _ => TG_2 (i := 207) rfl rfl, fun h => absurd rfl h, TG_1 (i := 3) rfl rfl, (fun h => nomatch h), fun _ => ⟨TG_2 (i := 206) rfl rfl, fun _ => TG_s (List.mem_of_getElem? (i := 1) rfl) rfl⟩, by decide +kernel, ⟨by decide +kernel, by decide +kernel, by decide +kernel⟩, fun h => absurd h (by decide)⟩
set_option maxRecDepth 20000 in
theorem mOk_X8_needsTool : mOkM 53 (mMt 53) := ⟨fun _ => TG_2 (i := 230) rfl rfl, fun h => absurd rfl h, TG_1 (i := 3) rfl rfl, (fun h => nomatch h), fun _ => ⟨TG_2 (i := 229) rfl rfl, fun _ => TG_s (List.mem_of_getElem? (i := 5) rfl) rfl⟩, by decide +kernel, ⟨by decide +kernel, by decide +kernel, by decide +kernel⟩, fun h => absurd h (by decide)⟩
set_option maxRecDepth 20000 in
theorem mOk_X8_hoursBetween : mOkM 54 (mMt 54) := ⟨fun _ => TG_2 (i := 226) rfl rfl, fun h => absurd rfl h, TG_1 (i := 3) rfl rfl, (fun h => nomatch h), fun _ => ⟨TG_2 (i := 225) rfl rfl, fun _ => TG_s (List.mem_of_getElem? (i := 4) rfl) rfl⟩, by decide +kernel, ⟨by decide +kernel, by decide +kernel, by decide +kernel⟩, fun h => absurd h (by decide)⟩
set_option maxRecDepth 20000 in
theorem mOk_X8_firstHour : mOkM 55 (mMt 55) := ⟨fun _ => TG_2 (i := 211) rfl rfl, fun h => absurd rfl h, TG_1 (i := 3) rfl rfl, (fun h => nomatch h), fun _ => ⟨TG_2 (i := 210) rfl rfl, fun _ => TG_s (List.mem_of_getElem? (i := 2) rfl) rfl⟩, by decide +kernel, ⟨by decide +kernel, by decide +kernel, by decide +kernel⟩, fun h => absurd h (by decide)⟩
set_option maxRecDepth 20000 in
theorem mOk_X8_put : mOkM 56 (mMt 56) := ⟨fun _ => TG_2 (i := 199) rfl rfl, fun h => absurd rfl h, TG_1 (i := 3) rfl rfl, (fun h => nomatch h), fun _ => ⟨TG_2 (i := 197) rfl rfl, fun _ => TG_2 (i := 198) rfl rfl⟩, by decide +kernel, ⟨by decide +kernel, by decide +kernel, by decide +kernel⟩, fun h => absurd h (by decide)⟩
set_option maxRecDepth 20000 in
theorem mOk_X8_takeBack : mOkM 57 (mMt 57) := ⟨fun _ => TG_4 (i := 160) rfl rfl, fun h => absurd rfl h, TG_1 (i := 3) rfl rfl, (fun h => nomatch h), fun _ => ⟨TG_4 (i := 158) rfl rfl, fun _ => TG_4 (i := 159) rfl rfl⟩, by decide +kernel, ⟨by decide +kernel, by decide +kernel, by decide +kernel⟩, fun h => absurd h (by decide)⟩
set_option maxRecDepth 20000 in
theorem mOk_X8_replay : mOkM 58 (mMt 58) := ⟨fun _ => TG_2 (i := 176) rfl rfl, fun h => absurd rfl h, TG_1 (i := 3) rfl rfl, (fun h => nomatch h), fun _ => ⟨TG_2 (i := 174) rfl rfl, fun _ => TG_2 (i := 175) rfl rfl⟩, by decide +kernel, ⟨by decide +kernel, by decide +kernel, by decide +kernel⟩, fun h => absurd h (by decide)⟩
set_option maxRecDepth 20000 in
theorem mOk_X8_putDelayed : mOkM 59 (mMt 59) := ⟨fun _ => TG_2 (i := 187) rfl rfl, fun h => absurd rfl h, TG_1 (i := 3) rfl rfl, (fun h => nomatch h), fun _ => ⟨TG_2 (i := 185) rfl rfl, fun _ => TG_2 (i := 186) rfl rfl⟩, by decide +kernel, ⟨by decide +kernel, by decide +kernel, by decide +kernel⟩, fun h => absurd h (by decide)⟩
set_option maxRecDepth 20000 in
theorem mOk_X8_putRushed : mOkM 60 (mMt 60) := ⟨fun _ => TG_4 (i := 205) rfl rfl, fun h => absurd rfl h, TG_1 (i := 3) rfl rfl, (fun h => nomatch h), fun _ => ⟨TG_4 (i := 203) rfl rfl, fun _ => TG_4 (i := 204) rfl rfl⟩, by decide +kernel, ⟨by decide +kernel, by decide +kernel, by decide +kernel⟩, fun h => absurd h (by decide)⟩
set_option maxRecDepth 20000 in
theorem mOk_X8_putBegunIn : mOkM 61 (mMt 61) := ⟨fun _ => TG_4 (i := 194) rfl rfl, fun h => absurd rfl h, TG_1 (i := 3) rfl rfl, (fun h => nomatch h), fun _ => ⟨TG_4 (i := 192) rfl rfl, fun _ => TG_4 (i := 193) rfl rfl⟩, by decide +kernel, ⟨by decide +kernel, by decide +kernel, by decide +kernel⟩, fun h => absurd h (by decide)⟩
set_option maxRecDepth 20000 in
theorem mOk_X8_putRestByRule : mOkM 62 (mMt 62) := ⟨fun _ => TG_4 (i := 98) rfl rfl, fun h => absurd rfl h, TG_1 (i := 3) rfl rfl, (fun h => nomatch h), fun _ => ⟨TG_4 (i := 96) rfl rfl, fun _ => TG_4 (i := 97) rfl rfl⟩, by decide +kernel, ⟨by decide +kernel, by decide +kernel, by decide +kernel⟩, fun h => absurd h (by decide)⟩
set_option maxRecDepth 20000 in
theorem mOk_X8_firstByRule : mOkM 63 (mMt 63) := ⟨fun _ => TG_4 (i := 102) rfl rfl, fun h => absurd rfl h, TG_1 (i := 3) rfl rfl, (fun h => nomatch h), fun _ => ⟨TG_4 (i := 101) rfl rfl, fun _ => TG_s (List.mem_of_getElem? (i := 20) rfl) rfl⟩, by decide +kernel, ⟨by decide +kernel, by decide +kernel, by decide +kernel⟩, fun h => absurd h (by decide)⟩
set_option maxRecDepth 20000 in
theorem mOk_X8_goesAhead : mOkM 64 (mMt 64) := ⟨fun _ => TG_4 (i := 106) rfl rfl, fun h => absurd rfl h, TG_1 (i := 3) rfl rfl, (fun h => nomatch h), fun _ => ⟨TG_4 (i := 105) rfl rfl, fun _ => TG_s (List.mem_of_getElem? (i := 21) rfl) rfl⟩, by decide +kernel, ⟨by decide +kernel, by decide +kernel, by decide +kernel⟩, fun h => absurd h (by decide)⟩
set_option maxRecDepth 20000 in
theorem mOk_X8_nextOf : mOkM 65 (mMt 65) := ⟨fun _ => TG_4 (i := 177) rfl rfl, fun h => absurd rfl h, TG_1 (i := 3) rfl rfl, (fun h => nomatch h), fun _ => ⟨TG_4 (i := 175) rfl rfl, fun _ => TG_4 (i := 176) rfl rfl⟩, by decide +kernel, ⟨by decide +kernel, by decide +kernel, by decide +kernel⟩, fun h => absurd h (by decide)⟩
set_option maxRecDepth 20000 in
theorem mOk_X8_hoursLeft : mOkM 66 (mMt 66) := ⟨fun _ => TG_3 (i := 116) rfl rfl, fun h => absurd rfl h, TG_1 (i := 3) rfl rfl, (fun h => nomatch h), fun _ => ⟨TG_3 (i := 115) rfl rfl, fun _ => TG_s (List.mem_of_getElem? (i := 13) rfl) rfl⟩, by decide +kernel, ⟨by decide +kernel, by decide +kernel, by decide +kernel⟩, fun h => absurd h (by decide)⟩
set_option maxRecDepth 20000 in
theorem mOk_X8_leastEndOf : mOkM 67 (mMt 67) := ⟨fun _ => TG_3 (i := 112) rfl rfl, fun h => absurd rfl h, TG_1 (i := 3) rfl rfl, (fun h => nomatch h), fun _ => ⟨TG_3 (i := 110) rfl rfl, fun _ => TG_3 (i := 111) rfl rfl⟩, by decide +kernel, ⟨by decide +kernel, by decide +kernel, by decide +kernel⟩, fun h => absurd h (by decide)⟩
set_option maxRecDepth 20000 in
theorem mOk_X8_aimed : mOkM 68 (mMt 68) := ⟨fun _ => TG_3 (i := 108) rfl rfl, fun h => absurd rfl h, TG_1 (i := 3) rfl rfl, (fun h => nomatch h), fun _ => ⟨TG_3 (i := 106) rfl rfl, fun _ => TG_3 (i := 107) rfl rfl⟩, by decide +kernel, ⟨by decide +kernel, by decide +kernel, by decide +kernel⟩, fun h => absurd h (by decide)⟩
set_option maxRecDepth 20000 in
theorem mOk_X8_hoursDone : mOkM 69 (mMt 69) := ⟨fun _ => TG_5 (i := 184) rfl rfl, fun h => absurd rfl h, TG_1 (i := 3) rfl rfl, (fun h => nomatch h), fun _ => ⟨TG_5 (i := 182) rfl rfl, fun _ => TG_5 (i := 183) rfl rfl⟩, by decide +kernel, ⟨by decide +kernel, by decide +kernel, by decide +kernel⟩, fun h => absurd h (by decide)⟩
set_option maxRecDepth 20000 in
theorem mOk_X9_init : mOkM 70 (mMt 70) := ⟨fun _ => TG_1 (i := 211) rfl rfl, fun h => absurd rfl h, TG_1 (i := 5) rfl rfl, (fun h => nomatch h), fun _ => ⟨TG_1 (i := 210) rfl rfl, fun h => absurd rfl h⟩, by decide +kernel, ⟨by decide +kernel, by decide +kernel, by decide +kernel⟩, fun _ => rfl⟩
set_option maxRecDepth 20000 in
theorem mOk_X9_trace : mOkM 71 (mMt 71) := ⟨fun _ => TG_5 (i := 48) rfl rfl, fun h => absurd rfl h, TG_1 (i := 5) rfl rfl, (fun h => nomatch h), fun _ => ⟨TG_5 (i := 46) rfl rfl, fun _ => TG_5 (i := 47) rfl rfl⟩, by decide +kernel, ⟨by decide +kernel, by decide +kernel, by decide +kernel⟩, fun h => absurd h (by decide)⟩
set_option maxRecDepth 20000 in
theorem mOk_X9_latestStep : mOkM 72 (mMt 72) := ⟨fun _ => TG_5 (i := 52) rfl rfl, fun h => absurd rfl h, TG_1 (i := 5) rfl rfl, (fun h => nomatch h), fun _ => ⟨TG_5 (i := 51) rfl rfl, fun _ => TG_s (List.mem_of_getElem? (i := 28) rfl) rfl⟩, by decide +kernel, ⟨by decide +kernel, by decide +kernel, by decide +kernel⟩, fun h => absurd h (by decide)⟩
set_option maxRecDepth 20000 in
theorem mOk_X9_stepAheadOf : mOkM 73 (mMt 73) := ⟨fun _ => TG_5 (i := 58) rfl rfl, fun h => absurd rfl h, TG_1 (i := 5) rfl rfl, (fun h => nomatch h), fun _ => ⟨TG_5 (i := 57) rfl rfl, fun _ => TG_s (List.mem_of_getElem? (i := 29) rfl) rfl⟩, by decide +kernel, ⟨by decide +kernel, by decide +kernel, by decide +kernel⟩, fun h => absurd h (by decide)⟩
set_option maxRecDepth 20000 in
theorem mOk_X10_init : mOkM 74 (mMt 74) := ⟨fun _ => TG_1 (i := 27) rfl rfl, fun h => absurd rfl h, TG_1 (i := 1) rfl rfl, (fun h => nomatch h), fun _ => ⟨TG_1 (i := 26) rfl rfl, fun h => absurd rfl h⟩, by decide +kernel, ⟨by decide +kernel, by decide +kernel, by decide +kernel⟩, fun _ => rfl⟩
set_option maxRecDepth 20000 in
theorem mOk_X10_close : mOkM 75 (mMt 75) := ⟨fun _ => TG_3 (i := 143) rfl rfl, fun h => absurd rfl h, TG_1 (i := 1) rfl rfl, (fun h => nomatch h), fun _ => ⟨TG_3 (i := 141) rfl rfl, fun _ => TG_3 (i := 142) rfl rfl⟩, by decide +kernel, ⟨by decide +kernel, by decide +kernel, by decide +kernel⟩, fun h => absurd h (by decide)⟩
set_option maxRecDepth 20000 in
theorem mOk_X10_setTool : mOkM 76 (mMt 76) := ⟨fun _ => TG_4 (i := 25) rfl rfl, fun h => absurd rfl h, TG_1 (i := 1) rfl rfl, (fun h => nomatch h), fun _ => ⟨TG_4 (i := 23) rfl rfl, fun _ => TG_4 (i := 24) rfl rfl⟩, by decide +kernel, ⟨by decide +kernel, by decide +kernel, by decide +kernel⟩, fun h => absurd h (by decide)⟩
set_option maxRecDepth 20000 in
theorem mOk_X10_setSetup : mOkM 77 (mMt 77) := ⟨fun _ => TG_4 (i := 32) rfl rfl, fun h => absurd rfl h, TG_1 (i := 1) rfl rfl, (fun h => nomatch h), fun _ => ⟨TG_4 (i := 30) rfl rfl, fun _ => TG_4 (i := 31) rfl rfl⟩, by decide +kernel, ⟨by decide +kernel, by decide +kernel, by decide +kernel⟩, fun h => absurd h (by decide)⟩
set_option maxRecDepth 20000 in
theorem mOk_X10_addJob : mOkM 78 (mMt 78) := ⟨fun _ => TG_4 (i := 47) rfl rfl, fun h => absurd rfl h, TG_1 (i := 1) rfl rfl, (fun h => nomatch h), fun _ => ⟨TG_4 (i := 45) rfl rfl, fun _ => TG_4 (i := 46) rfl rfl⟩, by decide +kernel, ⟨by decide +kernel, by decide +kernel, by decide +kernel⟩, fun h => absurd h (by decide)⟩
set_option maxRecDepth 20000 in
theorem mOk_X10_addStep : mOkM 79 (mMt 79) := ⟨fun _ => TG_4 (i := 59) rfl rfl, fun h => absurd rfl h, TG_1 (i := 1) rfl rfl, (fun h => nomatch h), fun _ => ⟨TG_4 (i := 57) rfl rfl, fun _ => TG_4 (i := 58) rfl rfl⟩, by decide +kernel, ⟨by decide +kernel, by decide +kernel, by decide +kernel⟩, fun h => absurd h (by decide)⟩
set_option maxRecDepth 20000 in
theorem mOk_X10_cut : mOkM 80 (mMt 80) := ⟨fun _ => TG_4 (i := 72) rfl rfl, fun h => absurd rfl h, TG_1 (i := 1) rfl rfl, (fun h => nomatch h), fun _ => ⟨TG_4 (i := 70) rfl rfl, fun _ => TG_4 (i := 71) rfl rfl⟩, by decide +kernel, ⟨by decide +kernel, by decide +kernel, by decide +kernel⟩, fun h => absurd h (by decide)⟩
set_option maxRecDepth 20000 in
theorem mOk_X10_plan : mOkM 81 (mMt 81) := ⟨fun _ => TG_4 (i := 90) rfl rfl, fun h => absurd rfl h, TG_1 (i := 1) rfl rfl, (fun h => nomatch h), fun _ => ⟨TG_4 (i := 88) rfl rfl, fun _ => TG_4 (i := 89) rfl rfl⟩, by decide +kernel, ⟨by decide +kernel, by decide +kernel, by decide +kernel⟩, fun h => absurd h (by decide)⟩
set_option maxRecDepth 20000 in
theorem mOk_X10_tell : mOkM 82 (mMt 82) := ⟨fun _ => TG_4 (i := 121) rfl rfl, fun h => absurd rfl h, TG_1 (i := 1) rfl rfl, (fun h => nomatch h), fun _ => ⟨TG_4 (i := 119) rfl rfl, fun _ => TG_4 (i := 120) rfl rfl⟩, by decide +kernel, ⟨by decide +kernel, by decide +kernel, by decide +kernel⟩, fun h => absurd h (by decide)⟩
set_option maxRecDepth 20000 in
theorem mOk_X10_best : mOkM 83 (mMt 83) := ⟨fun _ => TG_4 (i := 137) rfl rfl, fun h => absurd rfl h, TG_1 (i := 1) rfl rfl, (fun h => nomatch h), fun _ => ⟨TG_4 (i := 135) rfl rfl, fun _ => TG_4 (i := 136) rfl rfl⟩, by decide +kernel, ⟨by decide +kernel, by decide +kernel, by decide +kernel⟩, fun h => absurd h (by decide)⟩
set_option maxRecDepth 20000 in
theorem mOk_X10_swap : mOkM 84 (mMt 84) := ⟨fun _ => TG_4 (i := 167) rfl rfl, fun h => absurd rfl h, TG_1 (i := 1) rfl rfl, (fun h => nomatch h), fun _ => ⟨TG_4 (i := 165) rfl rfl, fun _ => TG_4 (i := 166) rfl rfl⟩, by decide +kernel, ⟨by decide +kernel, by decide +kernel, by decide +kernel⟩, fun h => absurd h (by decide)⟩
set_option maxRecDepth 20000 in
theorem mOk_X10_replan : mOkM 85 (mMt 85) := ⟨fun _ => TG_4 (i := 185) rfl rfl, fun h => absurd rfl h, TG_1 (i := 1) rfl rfl, (fun h => nomatch h), fun _ => ⟨TG_4 (i := 183) rfl rfl, fun _ => TG_4 (i := 184) rfl rfl⟩, by decide +kernel, ⟨by decide +kernel, by decide +kernel, by decide +kernel⟩, fun h => absurd h (by decide)⟩
set_option maxRecDepth 20000 in
theorem mOk_X10_rush : mOkM 86 (mMt 86) := ⟨fun _ => TG_4 (i := 201) rfl rfl, fun h => absurd rfl h, TG_1 (i := 1) rfl rfl, (fun h => nomatch h), fun _ => ⟨TG_4 (i := 199) rfl rfl, fun _ => TG_4 (i := 200) rfl rfl⟩, by decide +kernel, ⟨by decide +kernel, by decide +kernel, by decide +kernel⟩, fun h => absurd h (by decide)⟩
set_option maxRecDepth 20000 in
theorem mOk_X10_setWorker : mOkM 87 (mMt 87) := ⟨fun _ => TG_4 (i := 212) rfl rfl, fun h => absurd rfl h, TG_1 (i := 1) rfl rfl, (fun h => nomatch h), fun _ => ⟨TG_4 (i := 210) rfl rfl, fun _ => TG_4 (i := 211) rfl rfl⟩, by decide +kernel, ⟨by decide +kernel, by decide +kernel, by decide +kernel⟩, fun h => absurd h (by decide)⟩
set_option maxRecDepth 20000 in
theorem mOk_X10_undo : mOkM 88 (mMt 88) := ⟨fun _ => TG_2 (i := 159) rfl rfl, fun h => absurd rfl h, TG_1 (i := 1) rfl rfl, (fun h => nomatch h), fun _ => ⟨TG_2 (i := 157) rfl rfl, fun _ => TG_2 (i := 158) rfl rfl⟩, by decide +kernel, ⟨by decide +kernel, by decide +kernel, by decide +kernel⟩, fun h => absurd h (by decide)⟩
set_option maxRecDepth 20000 in
theorem mOk_X10_jobs : mOkM 89 (mMt 89) := ⟨fun _ => TG_2 (i := 238) rfl rfl, fun h => absurd rfl h, TG_1 (i := 1) rfl rfl, (fun h => nomatch h), fun _ => ⟨TG_2 (i := 236) rfl rfl, fun _ => TG_2 (i := 237) rfl rfl⟩, by decide +kernel, ⟨by decide +kernel, by decide +kernel, by decide +kernel⟩, fun h => absurd h (by decide)⟩
set_option maxRecDepth 20000 in
theorem mOk_X10_jobAt : mOkM 90 (mMt 90) := ⟨fun _ => TG_4 (i := 223) rfl rfl, fun h => absurd rfl h, TG_1 (i := 1) rfl rfl, (fun h => nomatch h), fun _ => ⟨TG_4 (i := 221) rfl rfl, fun _ => TG_4 (i := 222) rfl rfl⟩, by decide +kernel, ⟨by decide +kernel, by decide +kernel, by decide +kernel⟩, fun h => absurd h (by decide)⟩
set_option maxRecDepth 20000 in
theorem mOk_X10_stepAt : mOkM 91 (mMt 91) := ⟨fun _ => TG_4 (i := 231) rfl rfl, fun h => absurd rfl h, TG_1 (i := 1) rfl rfl, (fun h => nomatch h), fun _ => ⟨TG_4 (i := 229) rfl rfl, fun _ => TG_4 (i := 230) rfl rfl⟩, by decide +kernel, ⟨by decide +kernel, by decide +kernel, by decide +kernel⟩, fun h => absurd h (by decide)⟩
set_option maxRecDepth 20000 in
theorem mOk_X10_begin : mOkM 92 (mMt 92) := ⟨fun _ => TG_5 (i := 3) rfl rfl, fun h => absurd rfl h, TG_1 (i := 1) rfl rfl, (fun h => nomatch h), fun _ => ⟨TG_5 (i := 1) rfl rfl, fun _ => TG_5 (i := 2) rfl rfl⟩, by decide +kernel, ⟨by decide +kernel, by decide +kernel, by decide +kernel⟩, fun h => absurd h (by decide)⟩
set_option maxRecDepth 20000 in
theorem mOk_X10_endOf : mOkM 93 (mMt 93) := ⟨fun _ => TG_5 (i := 10) rfl rfl, fun h => absurd rfl h, TG_1 (i := 1) rfl rfl, (fun h => nomatch h), fun _ => ⟨TG_5 (i := 8) rfl rfl, fun _ => TG_5 (i := 9) rfl rfl⟩, by decide +kernel, ⟨by decide +kernel, by decide +kernel, by decide +kernel⟩, fun h => absurd h (by decide)⟩
set_option maxRecDepth 20000 in
theorem mOk_X10_value : mOkM 94 (mMt 94) := ⟨fun _ => TG_5 (i := 18) rfl rfl, fun h => absurd rfl h, TG_1 (i := 1) rfl rfl, (fun h => nomatch h), fun _ => ⟨TG_5 (i := 16) rfl rfl, fun _ => TG_5 (i := 17) rfl rfl⟩, by decide +kernel, ⟨by decide +kernel, by decide +kernel, by decide +kernel⟩, fun h => absurd h (by decide)⟩
set_option maxRecDepth 20000 in
theorem mOk_X10_bound : mOkM 95 (mMt 95) := ⟨fun _ => TG_3 (i := 2) rfl rfl, fun h => absurd rfl h, TG_1 (i := 1) rfl rfl, (fun h => nomatch h), fun _ => ⟨TG_3 (i := 0) rfl rfl, fun _ => TG_3 (i := 1) rfl rfl⟩, by decide +kernel, ⟨by decide +kernel, by decide +kernel, by decide +kernel⟩, fun h => absurd h (by decide)⟩
set_option maxRecDepth 20000 in
theorem mOk_X10_orderAt : mOkM 96 (mMt 96) := ⟨fun _ => TG_5 (i := 25) rfl rfl, fun h => absurd rfl h, TG_1 (i := 1) rfl rfl, (fun h => nomatch h), fun _ => ⟨TG_5 (i := 23) rfl rfl, fun _ => TG_5 (i := 24) rfl rfl⟩, by decide +kernel, ⟨by decide +kernel, by decide +kernel, by decide +kernel⟩, fun h => absurd h (by decide)⟩
set_option maxRecDepth 20000 in
theorem mOk_X10_doneIn : mOkM 97 (mMt 97) := ⟨fun _ => TG_5 (i := 36) rfl rfl, fun h => absurd rfl h, TG_1 (i := 1) rfl rfl, (fun h => nomatch h), fun _ => ⟨TG_5 (i := 34) rfl rfl, fun _ => TG_5 (i := 35) rfl rfl⟩, by decide +kernel, ⟨by decide +kernel, by decide +kernel, by decide +kernel⟩, fun h => absurd h (by decide)⟩
set_option maxRecDepth 20000 in
theorem mOk_X10_wayLength : mOkM 98 (mMt 98) := ⟨fun _ => TG_5 (i := 44) rfl rfl, fun h => absurd rfl h, TG_1 (i := 1) rfl rfl, (fun h => nomatch h), fun _ => ⟨TG_5 (i := 42) rfl rfl, fun _ => TG_5 (i := 43) rfl rfl⟩, by decide +kernel, ⟨by decide +kernel, by decide +kernel, by decide +kernel⟩, fun h => absurd h (by decide)⟩
set_option maxRecDepth 20000 in
theorem mOk_X10_wayAt : mOkM 99 (mMt 99) := ⟨fun _ => TG_5 (i := 65) rfl rfl, fun h => absurd rfl h, TG_1 (i := 1) rfl rfl, (fun h => nomatch h), fun _ => ⟨TG_5 (i := 63) rfl rfl, fun _ => TG_5 (i := 64) rfl rfl⟩, by decide +kernel, ⟨by decide +kernel, by decide +kernel, by decide +kernel⟩, fun h => absurd h (by decide)⟩
set_option maxRecDepth 20000 in
theorem mOk_X10_blocks : mOkM 100 (mMt 100) := ⟨fun _ => TG_5 (i := 72) rfl rfl, fun h => absurd rfl h, TG_1 (i := 1) rfl rfl, (fun h => nomatch h), fun _ => ⟨TG_5 (i := 70) rfl rfl, fun _ => TG_5 (i := 71) rfl rfl⟩, by decide +kernel, ⟨by decide +kernel, by decide +kernel, by decide +kernel⟩, fun h => absurd h (by decide)⟩
set_option maxRecDepth 20000 in
theorem mOk_X10_longestBlock : mOkM 101 (mMt 101) := ⟨fun _ => TG_5 (i := 79) rfl rfl, fun h => absurd rfl h, TG_1 (i := 1) rfl rfl, (fun h => nomatch h), fun _ => ⟨TG_5 (i := 77) rfl rfl, fun _ => TG_5 (i := 78) rfl rfl⟩, by decide +kernel, ⟨by decide +kernel, by decide +kernel, by decide +kernel⟩, fun h => absurd h (by decide)⟩
set_option maxRecDepth 20000 in
theorem mOk_X10_slack : mOkM 102 (mMt 102) := ⟨fun _ => TG_5 (i := 86) rfl rfl, fun h => absurd rfl h, TG_1 (i := 1) rfl rfl, (fun h => nomatch h), fun _ => ⟨TG_5 (i := 84) rfl rfl, fun _ => TG_5 (i := 85) rfl rfl⟩, by decide +kernel, ⟨by decide +kernel, by decide +kernel, by decide +kernel⟩, fun h => absurd h (by decide)⟩
set_option maxRecDepth 20000 in
theorem mOk_X10_delay : mOkM 103 (mMt 103) := ⟨fun _ => TG_5 (i := 94) rfl rfl, fun h => absurd rfl h, TG_1 (i := 1) rfl rfl, (fun h => nomatch h), fun _ => ⟨TG_5 (i := 92) rfl rfl, fun _ => TG_5 (i := 93) rfl rfl⟩, by decide +kernel, ⟨by decide +kernel, by decide +kernel, by decide +kernel⟩, fun h => absurd h (by decide)⟩
set_option maxRecDepth 20000 in
theorem mOk_X10_leastSum : mOkM 104 (mMt 104) := ⟨fun _ => TG_3 (i := 19) rfl rfl, fun h => absurd rfl h, TG_1 (i := 1) rfl rfl, (fun h => nomatch h), fun _ => ⟨TG_3 (i := 17) rfl rfl, fun _ => TG_3 (i := 18) rfl rfl⟩, by decide +kernel, ⟨by decide +kernel, by decide +kernel, by decide +kernel⟩, fun h => absurd h (by decide)⟩
set_option maxRecDepth 20000 in
theorem mOk_X10_leastLateness : mOkM 105 (mMt 105) := ⟨fun _ => TG_3 (i := 40) rfl rfl, fun h => absurd rfl h, TG_1 (i := 1) rfl rfl, (fun h => nomatch h), fun _ => ⟨TG_3 (i := 38) rfl rfl, fun _ => TG_3 (i := 39) rfl rfl⟩, by decide +kernel, ⟨by decide +kernel, by decide +kernel, by decide +kernel⟩, fun h => absurd h (by decide)⟩
set_option maxRecDepth 20000 in
theorem mOk_X10_fewestLate : mOkM 106 (mMt 106) := ⟨fun _ => TG_3 (i := 53) rfl rfl, fun h => absurd rfl h, TG_1 (i := 1) rfl rfl, (fun h => nomatch h), fun _ => ⟨TG_3 (i := 51) rfl rfl, fun _ => TG_3 (i := 52) rfl rfl⟩, by decide +kernel, ⟨by decide +kernel, by decide +kernel, by decide +kernel⟩, fun h => absurd h (by decide)⟩
set_option maxRecDepth 20000 in
theorem mOk_X10_isDropped : mOkM 107 (mMt 107) := ⟨fun _ => TG_5 (i := 101) rfl rfl, fun h => absurd rfl h, TG_1 (i := 1) rfl rfl, (fun h => nomatch h), fun _ => ⟨TG_5 (i := 99) rfl rfl, fun _ => TG_5 (i := 100) rfl rfl⟩, by decide +kernel, ⟨by decide +kernel, by decide +kernel, by decide +kernel⟩, fun h => absurd h (by decide)⟩
set_option maxRecDepth 20000 in
theorem mOk_X10_leastEnd : mOkM 108 (mMt 108) := ⟨fun _ => TG_3 (i := 71) rfl rfl, fun h => absurd rfl h, TG_1 (i := 1) rfl rfl, (fun h => nomatch h), fun _ => ⟨TG_3 (i := 69) rfl rfl, fun _ => TG_3 (i := 70) rfl rfl⟩, by decide +kernel, ⟨by decide +kernel, by decide +kernel, by decide +kernel⟩, fun h => absurd h (by decide)⟩
set_option maxRecDepth 20000 in
theorem mOk_X10_twoAt : mOkM 109 (mMt 109) := ⟨fun _ => TG_5 (i := 108) rfl rfl, fun h => absurd rfl h, TG_1 (i := 1) rfl rfl, (fun h => nomatch h), fun _ => ⟨TG_5 (i := 106) rfl rfl, fun _ => TG_5 (i := 107) rfl rfl⟩, by decide +kernel, ⟨by decide +kernel, by decide +kernel, by decide +kernel⟩, fun h => absurd h (by decide)⟩
set_option maxRecDepth 20000 in
theorem mOk_X10_leastSetup : mOkM 110 (mMt 110) := ⟨fun _ => TG_3 (i := 87) rfl rfl, fun h => absurd rfl h, TG_1 (i := 1) rfl rfl, (fun h => nomatch h), fun _ => ⟨TG_3 (i := 85) rfl rfl, fun _ => TG_3 (i := 86) rfl rfl⟩, by decide +kernel, ⟨by decide +kernel, by decide +kernel, by decide +kernel⟩, fun h => absurd h (by decide)⟩
set_option maxRecDepth 20000 in
theorem mOk_X10_setupAt : mOkM 111 (mMt 111) := ⟨fun _ => TG_5 (i := 123) rfl rfl, fun h => absurd rfl h, TG_1 (i := 1) rfl rfl, (fun h => nomatch h), fun _ => ⟨TG_5 (i := 121) rfl rfl, fun _ => TG_5 (i := 122) rfl rfl⟩, by decide +kernel, ⟨by decide +kernel, by decide +kernel, by decide +kernel⟩, fun h => absurd h (by decide)⟩
set_option maxRecDepth 20000 in
theorem mOk_X10_match : mOkM 112 (mMt 112) := ⟨fun _ => TG_5 (i := 130) rfl rfl, fun h => absurd rfl h, TG_1 (i := 1) rfl rfl, (fun h => nomatch h), fun _ => ⟨TG_5 (i := 128) rfl rfl, fun _ => TG_5 (i := 129) rfl rfl⟩, by decide +kernel, ⟨by decide +kernel, by decide +kernel, by decide +kernel⟩, fun h => absurd h (by decide)⟩
set_option maxRecDepth 20000 in
theorem mOk_X10_workerOf : mOkM 113 (mMt 113) := ⟨fun _ => TG_5 (i := 151) rfl rfl, fun h => absurd rfl h, TG_1 (i := 1) rfl rfl, (fun h => nomatch h), fun _ => ⟨TG_5 (i := 149) rfl rfl, fun _ => TG_5 (i := 150) rfl rfl⟩, by decide +kernel, ⟨by decide +kernel, by decide +kernel, by decide +kernel⟩, fun h => absurd h (by decide)⟩
set_option maxRecDepth 20000 in
theorem mOk_X10_promise : mOkM 114 (mMt 114) := ⟨fun _ => TG_5 (i := 158) rfl rfl, fun h => absurd rfl h, TG_1 (i := 1) rfl rfl, (fun h => nomatch h), fun _ => ⟨TG_5 (i := 156) rfl rfl, fun _ => TG_5 (i := 157) rfl rfl⟩, by decide +kernel, ⟨by decide +kernel, by decide +kernel, by decide +kernel⟩, fun h => absurd h (by decide)⟩
set_option maxRecDepth 20000 in
theorem mOk_X10_worked : mOkM 115 (mMt 115) := ⟨fun _ => TG_5 (i := 180) rfl rfl, fun h => absurd rfl h, TG_1 (i := 1) rfl rfl, (fun h => nomatch h), fun _ => ⟨TG_5 (i := 178) rfl rfl, fun _ => TG_5 (i := 179) rfl rfl⟩, by decide +kernel, ⟨by decide +kernel, by decide +kernel, by decide +kernel⟩, fun h => absurd h (by decide)⟩
set_option maxRecDepth 20000 in
theorem mOk_X10_meanEnd : mOkM 116 (mMt 116) := ⟨fun _ => TG_5 (i := 192) rfl rfl, fun h => absurd rfl h, TG_1 (i := 1) rfl rfl, (fun h => nomatch h), fun _ => ⟨TG_5 (i := 190) rfl rfl, fun _ => TG_5 (i := 191) rfl rfl⟩, by decide +kernel, ⟨by decide +kernel, by decide +kernel, by decide +kernel⟩, fun h => absurd h (by decide)⟩
set_option maxRecDepth 20000 in
theorem mOk_X10_use : mOkM 117 (mMt 117) := ⟨fun _ => TG_5 (i := 199) rfl rfl, fun h => absurd rfl h, TG_1 (i := 1) rfl rfl, (fun h => nomatch h), fun _ => ⟨TG_5 (i := 197) rfl rfl, fun _ => TG_5 (i := 198) rfl rfl⟩, by decide +kernel, ⟨by decide +kernel, by decide +kernel, by decide +kernel⟩, fun h => absurd h (by decide)⟩
set_option maxRecDepth 20000 in
theorem mOk_X10_errors : mOkM 118 (mMt 118) := ⟨fun _ => TG_3 (i := 104) rfl rfl, fun h => absurd rfl h, TG_1 (i := 1) rfl rfl, (fun h => nomatch h), fun _ => ⟨TG_3 (i := 102) rfl rfl, fun _ => TG_3 (i := 103) rfl rfl⟩, by decide +kernel, ⟨by decide +kernel, by decide +kernel, by decide +kernel⟩, fun h => absurd h (by decide)⟩
set_option maxRecDepth 20000 in
theorem mOk_X10_needMachine : mOkM 119 (mMt 119) := ⟨fun _ => TG_3 (i := 146) rfl rfl, fun h => absurd rfl h, TG_1 (i := 1) rfl rfl, fun _ => TG_3 (i := 145) rfl rfl, (fun h => nomatch h), by decide +kernel, ⟨by decide +kernel, by decide +kernel, by decide +kernel⟩, fun h => absurd h (by decide)⟩
set_option maxRecDepth 20000 in
theorem mOk_X10_needKind : mOkM 120 (mMt 120) := ⟨fun _ => TG_4 (i := 35) rfl rfl, fun h => absurd rfl h, TG_1 (i := 1) rfl rfl, fun _ => TG_4 (i := 34) rfl rfl, (fun h => nomatch h), by decide +kernel, ⟨by decide +kernel, by decide +kernel, by decide +kernel⟩, fun h => absurd h (by decide)⟩
set_option maxRecDepth 20000 in
theorem mOk_X10_needJob : mOkM 121 (mMt 121) := ⟨fun _ => TG_4 (i := 63) rfl rfl, fun h => absurd rfl h, TG_1 (i := 1) rfl rfl, (fun h => nomatch h), fun _ => ⟨TG_4 (i := 62) rfl rfl, fun _ => TG_s (List.mem_of_getElem? (i := 19) rfl) rfl⟩, by decide +kernel, ⟨by decide +kernel, by decide +kernel, by decide +kernel⟩, fun h => absurd h (by decide)⟩
set_option maxRecDepth 20000 in
theorem mOk_X10_needStep : mOkM 122 (mMt 122) := ⟨fun _ => TG_4 (i := 235) rfl rfl, fun h => absurd rfl h, TG_1 (i := 1) rfl rfl, (fun h => nomatch h), fun _ => ⟨TG_4 (i := 234) rfl rfl, fun _ => TG_s (List.mem_of_getElem? (i := 27) rfl) rfl⟩, by decide +kernel, ⟨by decide +kernel, by decide +kernel, by decide +kernel⟩, fun h => absurd h (by decide)⟩
set_option maxRecDepth 20000 in
theorem mOk_X10_needPlaceOfJob : mOkM 123 (mMt 123) := ⟨fun _ => TG_5 (i := 112) rfl rfl, fun h => absurd rfl h, TG_1 (i := 1) rfl rfl, (fun h => nomatch h), fun _ => ⟨TG_5 (i := 111) rfl rfl, fun _ => TG_s (List.mem_of_getElem? (i := 30) rfl) rfl⟩, by decide +kernel, ⟨by decide +kernel, by decide +kernel, by decide +kernel⟩, fun h => absurd h (by decide)⟩
set_option maxRecDepth 20000 in
theorem mOk_X10_needRange : mOkM 124 (mMt 124) := ⟨fun _ => TG_3 (i := 217) rfl rfl, fun h => absurd rfl h, TG_1 (i := 1) rfl rfl, fun _ => TG_3 (i := 216) rfl rfl, (fun h => nomatch h), by decide +kernel, ⟨by decide +kernel, by decide +kernel, by decide +kernel⟩, fun h => absurd h (by decide)⟩
set_option maxRecDepth 20000 in
theorem mOk_X10_needRule : mOkM 125 (mMt 125) := ⟨fun _ => TG_4 (i := 93) rfl rfl, fun h => absurd rfl h, TG_1 (i := 1) rfl rfl, fun _ => TG_4 (i := 92) rfl rfl, (fun h => nomatch h), by decide +kernel, ⟨by decide +kernel, by decide +kernel, by decide +kernel⟩, fun h => absurd h (by decide)⟩
set_option maxRecDepth 20000 in
theorem mOk_X10_needAim : mOkM 126 (mMt 126) := ⟨fun _ => TG_4 (i := 140) rfl rfl, fun h => absurd rfl h, TG_1 (i := 1) rfl rfl, fun _ => TG_4 (i := 139) rfl rfl, (fun h => nomatch h), by decide +kernel, ⟨by decide +kernel, by decide +kernel, by decide +kernel⟩, fun h => absurd h (by decide)⟩
set_option maxRecDepth 20000 in
theorem mOk_X10_needMachines : mOkM 127 (mMt 127) := ⟨fun _ => TG_4 (i := 216) rfl rfl, fun h => absurd rfl h, TG_1 (i := 1) rfl rfl, fun _ => TG_4 (i := 215) rfl rfl, (fun h => nomatch h), by decide +kernel, ⟨by decide +kernel, by decide +kernel, by decide +kernel⟩, fun h => absurd h (by decide)⟩
set_option maxRecDepth 20000 in
theorem mOk_X10_needRoomForJob : mOkM 128 (mMt 128) := ⟨fun _ => TG_4 (i := 51) rfl rfl, fun h => absurd rfl h, TG_1 (i := 1) rfl rfl, (fun h => nomatch h), fun _ => ⟨TG_4 (i := 50) rfl rfl, fun _ => TG_s (List.mem_of_getElem? (i := 18) rfl) rfl⟩, by decide +kernel, ⟨by decide +kernel, by decide +kernel, by decide +kernel⟩, fun h => absurd h (by decide)⟩
set_option maxRecDepth 20000 in
theorem mOk_X10_needPlan : mOkM 129 (mMt 129) := ⟨fun _ => TG_4 (i := 189) rfl rfl, fun h => absurd rfl h, TG_1 (i := 1) rfl rfl, (fun h => nomatch h), fun _ => ⟨TG_4 (i := 188) rfl rfl, fun _ => TG_s (List.mem_of_getElem? (i := 26) rfl) rfl⟩, by decide +kernel, ⟨by decide +kernel, by decide +kernel, by decide +kernel⟩, fun h => absurd h (by decide)⟩
set_option maxRecDepth 20000 in
theorem mOk_X10_told : mOkM 130 (mMt 130) := ⟨fun _ => TG_5 (i := 29) rfl rfl, fun h => absurd rfl h, TG_1 (i := 1) rfl rfl, fun _ => TG_5 (i := 28) rfl rfl, (fun h => nomatch h), by decide +kernel, ⟨by decide +kernel, by decide +kernel, by decide +kernel⟩, fun h => absurd h (by decide)⟩
set_option maxRecDepth 20000 in
theorem mOk_X10_remember : mOkM 131 (mMt 131) := ⟨fun _ => TG_4 (i := 13) rfl rfl, fun h => absurd rfl h, TG_1 (i := 1) rfl rfl, (fun h => nomatch h), fun _ => ⟨TG_4 (i := 12) rfl rfl, fun _ => TG_s (List.mem_of_getElem? (i := 16) rfl) rfl⟩, by decide +kernel, ⟨by decide +kernel, by decide +kernel, by decide +kernel⟩, fun h => absurd h (by decide)⟩
set_option maxRecDepth 20000 in
theorem mOk_X10_dropPlan : mOkM 132 (mMt 132) := ⟨fun _ => TG_4 (i := 40) rfl rfl, fun h => absurd rfl h, TG_1 (i := 1) rfl rfl, (fun h => nomatch h), fun _ => ⟨TG_4 (i := 39) rfl rfl, fun _ => TG_s (List.mem_of_getElem? (i := 17) rfl) rfl⟩, by decide +kernel, ⟨by decide +kernel, by decide +kernel, by decide +kernel⟩, fun h => absurd h (by decide)⟩
set_option maxRecDepth 20000 in
theorem mOk_X10_adoptTrial : mOkM 133 (mMt 133) := ⟨fun _ => TG_4 (i := 110) rfl rfl, fun h => absurd rfl h, TG_1 (i := 1) rfl rfl, (fun h => nomatch h), fun _ => ⟨TG_4 (i := 109) rfl rfl, fun _ => TG_s (List.mem_of_getElem? (i := 22) rfl) rfl⟩, by decide +kernel, ⟨by decide +kernel, by decide +kernel, by decide +kernel⟩, fun h => absurd h (by decide)⟩
set_option maxRecDepth 20000 in
theorem mOk_X10_putDigits : mOkM 134 (mMt 134) := ⟨fun _ => TG_4 (i := 125) rfl rfl, fun h => absurd rfl h, TG_1 (i := 1) rfl rfl, (fun h => nomatch h), fun _ => ⟨TG_4 (i := 124) rfl rfl, fun _ => TG_s (List.mem_of_getElem? (i := 23) rfl) rfl⟩, by decide +kernel, ⟨by decide +kernel, by decide +kernel, by decide +kernel⟩, fun h => absurd h (by decide)⟩
set_option maxRecDepth 20000 in
theorem mOk_X10_putSwapped : mOkM 135 (mMt 135) := ⟨fun _ => TG_4 (i := 172) rfl rfl, fun h => absurd rfl h, TG_1 (i := 1) rfl rfl, (fun h => nomatch h), fun _ => ⟨TG_4 (i := 171) rfl rfl, fun _ => TG_s (List.mem_of_getElem? (i := 25) rfl) rfl⟩, by decide +kernel, ⟨by decide +kernel, by decide +kernel, by decide +kernel⟩, fun h => absurd h (by decide)⟩
set_option maxRecDepth 20000 in
theorem mOk_X11_init : mOkM 136 (mMt 136) := ⟨fun _ => TG_5 (i := 205) rfl rfl, fun h => absurd rfl h, TG_1 (i := 12) rfl rfl, (fun h => nomatch h), fun _ => ⟨TG_5 (i := 204) rfl rfl, fun h => absurd rfl h⟩, by decide +kernel, ⟨by decide +kernel, by decide +kernel, by decide +kernel⟩, fun _ => rfl⟩
set_option maxRecDepth 20000 in
theorem mOk_X11_thrown : mOkM 137 (mMt 137) := ⟨fun _ => TG_6 (i := 43) rfl rfl, fun h => absurd rfl h, TG_1 (i := 12) rfl rfl, (fun h => nomatch h), fun _ => ⟨TG_6 (i := 41) rfl rfl, fun _ => TG_6 (i := 42) rfl rfl⟩, by decide +kernel, ⟨by decide +kernel, by decide +kernel, by decide +kernel⟩, fun h => absurd h (by decide)⟩
set_option maxRecDepth 20000 in
theorem mOk_X11_in : mOkM 138 (mMt 138) := ⟨fun _ => TG_6 (i := 50) rfl rfl, fun h => absurd rfl h, TG_1 (i := 12) rfl rfl, fun _ => TG_6 (i := 49) rfl rfl, (fun h => nomatch h), by decide +kernel, ⟨by decide +kernel, by decide +kernel, by decide +kernel⟩, fun h => absurd h (by decide)⟩
set_option maxRecDepth 20000 in
theorem mOk_X11_fits : mOkM 139 (mMt 139) := ⟨fun _ => TG_6 (i := 54) rfl rfl, fun h => absurd rfl h, TG_1 (i := 12) rfl rfl, (fun h => nomatch h), fun _ => ⟨TG_6 (i := 53) rfl rfl, fun _ => TG_s (List.mem_of_getElem? (i := 37) rfl) rfl⟩, by decide +kernel, ⟨by decide +kernel, by decide +kernel, by decide +kernel⟩, fun h => absurd h (by decide)⟩
set_option maxRecDepth 20000 in
theorem mOk_X11_laysJob : mOkM 140 (mMt 140) := ⟨fun _ => TG_5 (i := 210) rfl rfl, fun h => absurd rfl h, TG_1 (i := 12) rfl rfl, (fun h => nomatch h), fun _ => ⟨TG_5 (i := 209) rfl rfl, fun _ => TG_s (List.mem_of_getElem? (i := 34) rfl) rfl⟩, by decide +kernel, ⟨by decide +kernel, by decide +kernel, by decide +kernel⟩, fun h => absurd h (by decide)⟩
set_option maxRecDepth 20000 in
theorem mOk_X11_laysStep : mOkM 141 (mMt 141) := ⟨fun _ => TG_5 (i := 214) rfl rfl, fun h => absurd rfl h, TG_1 (i := 12) rfl rfl, (fun h => nomatch h), fun _ => ⟨TG_5 (i := 213) rfl rfl, fun _ => TG_s (List.mem_of_getElem? (i := 35) rfl) rfl⟩, by decide +kernel, ⟨by decide +kernel, by decide +kernel, by decide +kernel⟩, fun h => absurd h (by decide)⟩
set_option maxRecDepth 20000 in
theorem mOk_X11_of : mOkM 142 (mMt 142) := ⟨fun _ => TG_5 (i := 218) rfl rfl, fun h => absurd rfl h, TG_1 (i := 12) rfl rfl, (fun h => nomatch h), fun _ => ⟨TG_5 (i := 217) rfl rfl, fun _ => TG_s (List.mem_of_getElem? (i := 36) rfl) rfl⟩, by decide +kernel, ⟨by decide +kernel, by decide +kernel, by decide +kernel⟩, fun h => absurd h (by decide)⟩
set_option maxRecDepth 20000 in
theorem mOk_X11_machineOf : mOkM 143 (mMt 143) := ⟨fun _ => TG_6 (i := 95) rfl rfl, fun h => absurd rfl h, TG_1 (i := 12) rfl rfl, (fun h => nomatch h), fun _ => ⟨TG_6 (i := 94) rfl rfl, fun _ => TG_s (List.mem_of_getElem? (i := 42) rfl) rfl⟩, by decide +kernel, ⟨by decide +kernel, by decide +kernel, by decide +kernel⟩, fun h => absurd h (by decide)⟩
set_option maxRecDepth 20000 in
theorem mOk_X11_hoursOf : mOkM 144 (mMt 144) := ⟨fun _ => TG_6 (i := 91) rfl rfl, fun h => absurd rfl h, TG_1 (i := 12) rfl rfl, (fun h => nomatch h), fun _ => ⟨TG_6 (i := 90) rfl rfl, fun _ => TG_s (List.mem_of_getElem? (i := 41) rfl) rfl⟩, by decide +kernel, ⟨by decide +kernel, by decide +kernel, by decide +kernel⟩, fun h => absurd h (by decide)⟩
set_option maxRecDepth 20000 in
theorem mOk_X11_left : mOkM 145 (mMt 145) := ⟨fun _ => TG_6 (i := 136) rfl rfl, fun h => absurd rfl h, TG_1 (i := 12) rfl rfl, (fun h => nomatch h), fun _ => ⟨TG_6 (i := 135) rfl rfl, fun _ => TG_s (List.mem_of_getElem? (i := 51) rfl) rfl⟩, by decide +kernel, ⟨by decide +kernel, by decide +kernel, by decide +kernel⟩, fun h => absurd h (by decide)⟩
set_option maxRecDepth 20000 in
theorem mOk_X11_length : mOkM 146 (mMt 146) := ⟨fun _ => TG_6 (i := 233) rfl rfl, fun h => absurd rfl h, TG_1 (i := 12) rfl rfl, (fun h => nomatch h), fun _ => ⟨TG_6 (i := 232) rfl rfl, fun _ => TG_s (List.mem_of_getElem? (i := 66) rfl) rfl⟩, by decide +kernel, ⟨by decide +kernel, by decide +kernel, by decide +kernel⟩, fun h => absurd h (by decide)⟩
set_option maxRecDepth 20000 in
theorem mOk_X11_allSteps : mOkM 147 (mMt 147) := ⟨fun _ => TG_6 (i := 160) rfl rfl, fun h => absurd rfl h, TG_1 (i := 12) rfl rfl, (fun h => nomatch h), fun _ => ⟨TG_6 (i := 159) rfl rfl, fun _ => TG_s (List.mem_of_getElem? (i := 57) rfl) rfl⟩, by decide +kernel, ⟨by decide +kernel, by decide +kernel, by decide +kernel⟩, fun h => absurd h (by decide)⟩
set_option maxRecDepth 20000 in
theorem mOk_X11_isJob : mOkM 148 (mMt 148) := ⟨fun _ => TG_6 (i := 83) rfl rfl, fun h => absurd rfl h, TG_1 (i := 12) rfl rfl, (fun h => nomatch h), fun _ => ⟨TG_6 (i := 82) rfl rfl, fun _ => TG_s (List.mem_of_getElem? (i := 40) rfl) rfl⟩, by decide +kernel, ⟨by decide +kernel, by decide +kernel, by decide +kernel⟩, fun h => absurd h (by decide)⟩
set_option maxRecDepth 20000 in
theorem mOk_X11_isStep : mOkM 149 (mMt 149) := ⟨fun _ => TG_7 (i := 1) rfl rfl, fun h => absurd rfl h, TG_1 (i := 12) rfl rfl, (fun h => nomatch h), fun _ => ⟨TG_7 (i := 0) rfl rfl, fun _ => TG_s (List.mem_of_getElem? (i := 67) rfl) rfl⟩, by decide +kernel, ⟨by decide +kernel, by decide +kernel, by decide +kernel⟩, fun h => absurd h (by decide)⟩
set_option maxRecDepth 20000 in
theorem mOk_X11_hasPlan : mOkM 150 (mMt 150) := ⟨fun _ => TG_6 (i := 205) rfl rfl, fun h => absurd rfl h, TG_1 (i := 12) rfl rfl, (fun h => nomatch h), fun _ => ⟨TG_6 (i := 204) rfl rfl, fun _ => TG_s (List.mem_of_getElem? (i := 64) rfl) rfl⟩, by decide +kernel, ⟨by decide +kernel, by decide +kernel, by decide +kernel⟩, fun h => absurd h (by decide)⟩
set_option maxRecDepth 20000 in
theorem mOk_X11_startsPlan : mOkM 151 (mMt 151) := ⟨fun _ => TG_6 (i := 103) rfl rfl, fun h => absurd rfl h, TG_1 (i := 12) rfl rfl, (fun h => nomatch h), fun _ => ⟨TG_6 (i := 102) rfl rfl, fun _ => TG_s (List.mem_of_getElem? (i := 43) rfl) rfl⟩, by decide +kernel, ⟨by decide +kernel, by decide +kernel, by decide +kernel⟩, fun h => absurd h (by decide)⟩
set_option maxRecDepth 20000 in
theorem mOk_X11_open : mOkM 152 (mMt 152) := ⟨fun _ => TG_6 (i := 128) rfl rfl, fun h => absurd rfl h, TG_1 (i := 12) rfl rfl, (fun h => nomatch h), fun _ => ⟨TG_6 (i := 127) rfl rfl, fun _ => TG_s (List.mem_of_getElem? (i := 49) rfl) rfl⟩, by decide +kernel, ⟨by decide +kernel, by decide +kernel, by decide +kernel⟩, fun h => absurd h (by decide)⟩
set_option maxRecDepth 20000 in
theorem mOk_X11_isChanged : mOkM 153 (mMt 153) := ⟨fun _ => TG_6 (i := 123) rfl rfl, fun h => absurd rfl h, TG_1 (i := 12) rfl rfl, (fun h => nomatch h), fun _ => ⟨TG_6 (i := 122) rfl rfl, fun _ => TG_s (List.mem_of_getElem? (i := 48) rfl) rfl⟩, by decide +kernel, ⟨by decide +kernel, by decide +kernel, by decide +kernel⟩, fun h => absurd h (by decide)⟩
set_option maxRecDepth 20000 in
theorem mOk_X11_between : mOkM 154 (mMt 154) := ⟨fun _ => TG_6 (i := 119) rfl rfl, fun h => absurd rfl h, TG_1 (i := 12) rfl rfl, (fun h => nomatch h), fun _ => ⟨TG_6 (i := 118) rfl rfl, fun _ => TG_s (List.mem_of_getElem? (i := 47) rfl) rfl⟩, by decide +kernel, ⟨by decide +kernel, by decide +kernel, by decide +kernel⟩, fun h => absurd h (by decide)⟩
set_option maxRecDepth 20000 in
theorem mOk_X11_beginOf : mOkM 155 (mMt 155) := ⟨fun _ => TG_6 (i := 115) rfl rfl, fun h => absurd rfl h, TG_1 (i := 12) rfl rfl, (fun h => nomatch h), fun _ => ⟨TG_6 (i := 114) rfl rfl, fun _ => TG_s (List.mem_of_getElem? (i := 46) rfl) rfl⟩, by decide +kernel, ⟨by decide +kernel, by decide +kernel, by decide +kernel⟩, fun h => absurd h (by decide)⟩
set_option maxRecDepth 20000 in
theorem mOk_X11_does : mOkM 156 (mMt 156) := ⟨fun _ => TG_6 (i := 144) rfl rfl, fun h => absurd rfl h, TG_1 (i := 12) rfl rfl, (fun h => nomatch h), fun _ => ⟨TG_6 (i := 143) rfl rfl, fun _ => TG_s (List.mem_of_getElem? (i := 53) rfl) rfl⟩, by decide +kernel, ⟨by decide +kernel, by decide +kernel, by decide +kernel⟩, fun h => absurd h (by decide)⟩
set_option maxRecDepth 20000 in
theorem mOk_X11_worksOut : mOkM 157 (mMt 157) := ⟨fun _ => TG_6 (i := 156) rfl rfl, fun h => absurd rfl h, TG_1 (i := 12) rfl rfl, (fun h => nomatch h), fun _ => ⟨TG_6 (i := 155) rfl rfl, fun _ => TG_s (List.mem_of_getElem? (i := 56) rfl) rfl⟩, by decide +kernel, ⟨by decide +kernel, by decide +kernel, by decide +kernel⟩, fun h => absurd h (by decide)⟩
set_option maxRecDepth 20000 in
theorem mOk_X11_works : mOkM 158 (mMt 158) := ⟨fun _ => TG_6 (i := 152) rfl rfl, fun h => absurd rfl h, TG_1 (i := 12) rfl rfl, (fun h => nomatch h), fun _ => ⟨TG_6 (i := 151) rfl rfl, fun _ => TG_s (List.mem_of_getElem? (i := 55) rfl) rfl⟩, by decide +kernel, ⟨by decide +kernel, by decide +kernel, by decide +kernel⟩, fun h => absurd h (by decide)⟩
set_option maxRecDepth 20000 in
theorem mOk_X11_planEnd : mOkM 159 (mMt 159) := ⟨fun _ => TG_6 (i := 164) rfl rfl, fun h => absurd rfl h, TG_1 (i := 12) rfl rfl, (fun h => nomatch h), fun _ => ⟨TG_6 (i := 163) rfl rfl, fun _ => TG_s (List.mem_of_getElem? (i := 58) rfl) rfl⟩, by decide +kernel, ⟨by decide +kernel, by decide +kernel, by decide +kernel⟩, fun h => absurd h (by decide)⟩
set_option maxRecDepth 20000 in
theorem mOk_X11_valueOf : mOkM 160 (mMt 160) := ⟨fun _ => TG_6 (i := 177) rfl rfl, fun h => absurd rfl h, TG_1 (i := 12) rfl rfl, (fun h => nomatch h), fun _ => ⟨TG_6 (i := 176) rfl rfl, fun _ => TG_s (List.mem_of_getElem? (i := 59) rfl) rfl⟩, by decide +kernel, ⟨by decide +kernel, by decide +kernel, by decide +kernel⟩, fun h => absurd h (by decide)⟩
set_option maxRecDepth 20000 in
theorem mOk_X11_isAhead : mOkM 161 (mMt 161) := ⟨fun _ => TG_6 (i := 132) rfl rfl, fun h => absurd rfl h, TG_1 (i := 12) rfl rfl, (fun h => nomatch h), fun _ => ⟨TG_6 (i := 131) rfl rfl, fun _ => TG_s (List.mem_of_getElem? (i := 50) rfl) rfl⟩, by decide +kernel, ⟨by decide +kernel, by decide +kernel, by decide +kernel⟩, fun h => absurd h (by decide)⟩
set_option maxRecDepth 20000 in
theorem mOk_X11_goesByRule : mOkM 162 (mMt 162) := ⟨fun _ => TG_6 (i := 111) rfl rfl, fun h => absurd rfl h, TG_1 (i := 12) rfl rfl, (fun h => nomatch h), fun _ => ⟨TG_6 (i := 110) rfl rfl, fun _ => TG_s (List.mem_of_getElem? (i := 45) rfl) rfl⟩, by decide +kernel, ⟨by decide +kernel, by decide +kernel, by decide +kernel⟩, fun h => absurd h (by decide)⟩
set_option maxRecDepth 20000 in
theorem mOk_X11_puts : mOkM 163 (mMt 163) := ⟨fun _ => TG_6 (i := 140) rfl rfl, fun h => absurd rfl h, TG_1 (i := 12) rfl rfl, (fun h => nomatch h), fun _ => ⟨TG_6 (i := 139) rfl rfl, fun _ => TG_s (List.mem_of_getElem? (i := 52) rfl) rfl⟩, by decide +kernel, ⟨by decide +kernel, by decide +kernel, by decide +kernel⟩, fun h => absurd h (by decide)⟩
set_option maxRecDepth 20000 in
theorem mOk_X11_clearsOrder : mOkM 164 (mMt 164) := ⟨fun _ => TG_6 (i := 107) rfl rfl, fun h => absurd rfl h, TG_1 (i := 12) rfl rfl, (fun h => nomatch h), fun _ => ⟨TG_6 (i := 106) rfl rfl, fun _ => TG_s (List.mem_of_getElem? (i := 44) rfl) rfl⟩, by decide +kernel, ⟨by decide +kernel, by decide +kernel, by decide +kernel⟩, fun h => absurd h (by decide)⟩
set_option maxRecDepth 20000 in
theorem mOk_X11_takesOrder : mOkM 165 (mMt 165) := ⟨fun _ => TG_6 (i := 148) rfl rfl, fun h => absurd rfl h, TG_1 (i := 12) rfl rfl, (fun h => nomatch h), fun _ => ⟨TG_6 (i := 147) rfl rfl, fun _ => TG_s (List.mem_of_getElem? (i := 54) rfl) rfl⟩, by decide +kernel, ⟨by decide +kernel, by decide +kernel, by decide +kernel⟩, fun h => absurd h (by decide)⟩
set_option maxRecDepth 20000 in
theorem mOk_X11_noPlan : mOkM 166 (mMt 166) := ⟨fun _ => TG_6 (i := 71) rfl rfl, fun h => absurd rfl h, TG_1 (i := 12) rfl rfl, (fun h => nomatch h), fun _ => ⟨TG_6 (i := 70) rfl rfl, fun _ => TG_s (List.mem_of_getElem? (i := 39) rfl) rfl⟩, by decide +kernel, ⟨by decide +kernel, by decide +kernel, by decide +kernel⟩, fun h => absurd h (by decide)⟩
set_option maxRecDepth 20000 in
theorem mOk_X11_keeps : mOkM 167 (mMt 167) := ⟨fun _ => TG_6 (i := 58) rfl rfl, fun h => absurd rfl h, TG_1 (i := 12) rfl rfl, (fun h => nomatch h), fun _ => ⟨TG_6 (i := 57) rfl rfl, fun _ => TG_s (List.mem_of_getElem? (i := 38) rfl) rfl⟩, by decide +kernel, ⟨by decide +kernel, by decide +kernel, by decide +kernel⟩, fun h => absurd h (by decide)⟩
set_option maxRecDepth 20000 in
theorem mOk_X11_close : mOkM 168 (mMt 168) := ⟨fun _ => TG_6 (i := 47) rfl rfl, fun h => absurd rfl h, TG_1 (i := 12) rfl rfl, (fun h => nomatch h), fun _ => ⟨TG_6 (i := 45) rfl rfl, fun _ => TG_6 (i := 46) rfl rfl⟩, by decide +kernel, ⟨by decide +kernel, by decide +kernel, by decide +kernel⟩, fun h => absurd h (by decide)⟩
set_option maxRecDepth 20000 in
theorem mOk_X11_setTool : mOkM 169 (mMt 169) := ⟨fun _ => TG_6 (i := 63) rfl rfl, fun h => absurd rfl h, TG_1 (i := 12) rfl rfl, (fun h => nomatch h), fun _ => ⟨TG_6 (i := 61) rfl rfl, fun _ => TG_6 (i := 62) rfl rfl⟩, by decide +kernel, ⟨by decide +kernel, by decide +kernel, by decide +kernel⟩, fun h => absurd h (by decide)⟩
set_option maxRecDepth 20000 in
theorem mOk_X11_setSetup : mOkM 170 (mMt 170) := ⟨fun _ => TG_6 (i := 67) rfl rfl, fun h => absurd rfl h, TG_1 (i := 12) rfl rfl, (fun h => nomatch h), fun _ => ⟨TG_6 (i := 65) rfl rfl, fun _ => TG_6 (i := 66) rfl rfl⟩, by decide +kernel, ⟨by decide +kernel, by decide +kernel, by decide +kernel⟩, fun h => absurd h (by decide)⟩
set_option maxRecDepth 20000 in
theorem mOk_X11_addJob : mOkM 171 (mMt 171) := ⟨fun _ => TG_6 (i := 75) rfl rfl, fun h => absurd rfl h, TG_1 (i := 12) rfl rfl, (fun h => nomatch h), fun _ => ⟨TG_6 (i := 73) rfl rfl, fun _ => TG_6 (i := 74) rfl rfl⟩, by decide +kernel, ⟨by decide +kernel, by decide +kernel, by decide +kernel⟩, fun h => absurd h (by decide)⟩
set_option maxRecDepth 20000 in
theorem mOk_X11_addStep : mOkM 172 (mMt 172) := ⟨fun _ => TG_6 (i := 79) rfl rfl, fun h => absurd rfl h, TG_1 (i := 12) rfl rfl, (fun h => nomatch h), fun _ => ⟨TG_6 (i := 77) rfl rfl, fun _ => TG_6 (i := 78) rfl rfl⟩, by decide +kernel, ⟨by decide +kernel, by decide +kernel, by decide +kernel⟩, fun h => absurd h (by decide)⟩
set_option maxRecDepth 20000 in
theorem mOk_X11_cut : mOkM 173 (mMt 173) := ⟨fun _ => TG_6 (i := 87) rfl rfl, fun h => absurd rfl h, TG_1 (i := 12) rfl rfl, (fun h => nomatch h), fun _ => ⟨TG_6 (i := 85) rfl rfl, fun _ => TG_6 (i := 86) rfl rfl⟩, by decide +kernel, ⟨by decide +kernel, by decide +kernel, by decide +kernel⟩, fun h => absurd h (by decide)⟩
set_option maxRecDepth 20000 in
theorem mOk_X11_plan : mOkM 174 (mMt 174) := ⟨fun _ => TG_6 (i := 99) rfl rfl, fun h => absurd rfl h, TG_1 (i := 12) rfl rfl, (fun h => nomatch h), fun _ => ⟨TG_6 (i := 97) rfl rfl, fun _ => TG_6 (i := 98) rfl rfl⟩, by decide +kernel, ⟨by decide +kernel, by decide +kernel, by decide +kernel⟩, fun h => absurd h (by decide)⟩
set_option maxRecDepth 20000 in
theorem mOk_X11_tell : mOkM 175 (mMt 175) := ⟨fun _ => TG_6 (i := 168) rfl rfl, fun h => absurd rfl h, TG_1 (i := 12) rfl rfl, (fun h => nomatch h), fun _ => ⟨TG_6 (i := 166) rfl rfl, fun _ => TG_6 (i := 167) rfl rfl⟩, by decide +kernel, ⟨by decide +kernel, by decide +kernel, by decide +kernel⟩, fun h => absurd h (by decide)⟩
set_option maxRecDepth 20000 in
theorem mOk_X11_remembers : mOkM 176 (mMt 176) := ⟨fun _ => TG_6 (i := 189) rfl rfl, fun h => absurd rfl h, TG_1 (i := 12) rfl rfl, (fun h => nomatch h), fun _ => ⟨TG_6 (i := 188) rfl rfl, fun _ => TG_s (List.mem_of_getElem? (i := 62) rfl) rfl⟩, by decide +kernel, ⟨by decide +kernel, by decide +kernel, by decide +kernel⟩, fun h => absurd h (by decide)⟩
set_option maxRecDepth 20000 in
theorem mOk_X11_takesBack : mOkM 177 (mMt 177) := ⟨fun _ => TG_6 (i := 185) rfl rfl, fun h => absurd rfl h, TG_1 (i := 12) rfl rfl, (fun h => nomatch h), fun _ => ⟨TG_6 (i := 184) rfl rfl, fun _ => TG_s (List.mem_of_getElem? (i := 61) rfl) rfl⟩, by decide +kernel, ⟨by decide +kernel, by decide +kernel, by decide +kernel⟩, fun h => absurd h (by decide)⟩
set_option maxRecDepth 20000 in
theorem mOk_X11_nextJob : mOkM 178 (mMt 178) := ⟨fun _ => TG_6 (i := 181) rfl rfl, fun h => absurd rfl h, TG_1 (i := 12) rfl rfl, (fun h => nomatch h), fun _ => ⟨TG_6 (i := 180) rfl rfl, fun _ => TG_s (List.mem_of_getElem? (i := 60) rfl) rfl⟩, by decide +kernel, ⟨by decide +kernel, by decide +kernel, by decide +kernel⟩, fun h => absurd h (by decide)⟩
set_option maxRecDepth 20000 in
theorem mOk_X11_best : mOkM 179 (mMt 179) := ⟨fun _ => TG_6 (i := 173) rfl rfl, fun h => absurd rfl h, TG_1 (i := 12) rfl rfl, (fun h => nomatch h), fun _ => ⟨TG_6 (i := 171) rfl rfl, fun _ => TG_6 (i := 172) rfl rfl⟩, by decide +kernel, ⟨by decide +kernel, by decide +kernel, by decide +kernel⟩, fun h => absurd h (by decide)⟩
set_option maxRecDepth 20000 in
theorem mOk_X11_exchanges : mOkM 180 (mMt 180) := ⟨fun _ => TG_6 (i := 197) rfl rfl, fun h => absurd rfl h, TG_1 (i := 12) rfl rfl, (fun h => nomatch h), fun _ => ⟨TG_6 (i := 196) rfl rfl, fun _ => TG_s (List.mem_of_getElem? (i := 63) rfl) rfl⟩, by decide +kernel, ⟨by decide +kernel, by decide +kernel, by decide +kernel⟩, fun h => absurd h (by decide)⟩
set_option maxRecDepth 20000 in
theorem mOk_X11_swap : mOkM 181 (mMt 181) := ⟨fun _ => TG_6 (i := 193) rfl rfl, fun h => absurd rfl h, TG_1 (i := 12) rfl rfl, (fun h => nomatch h), fun _ => ⟨TG_6 (i := 191) rfl rfl, fun _ => TG_6 (i := 192) rfl rfl⟩, by decide +kernel, ⟨by decide +kernel, by decide +kernel, by decide +kernel⟩, fun h => absurd h (by decide)⟩
set_option maxRecDepth 20000 in
theorem mOk_X11_replan : mOkM 182 (mMt 182) := ⟨fun _ => TG_6 (i := 201) rfl rfl, fun h => absurd rfl h, TG_1 (i := 12) rfl rfl, (fun h => nomatch h), fun _ => ⟨TG_6 (i := 199) rfl rfl, fun _ => TG_6 (i := 200) rfl rfl⟩, by decide +kernel, ⟨by decide +kernel, by decide +kernel, by decide +kernel⟩, fun h => absurd h (by decide)⟩
set_option maxRecDepth 20000 in
theorem mOk_X11_laysRushed : mOkM 183 (mMt 183) := ⟨fun _ => TG_6 (i := 213) rfl rfl, fun h => absurd rfl h, TG_1 (i := 12) rfl rfl, (fun h => nomatch h), fun _ => ⟨TG_6 (i := 212) rfl rfl, fun _ => TG_s (List.mem_of_getElem? (i := 65) rfl) rfl⟩, by decide +kernel, ⟨by decide +kernel, by decide +kernel, by decide +kernel⟩, fun h => absurd h (by decide)⟩
set_option maxRecDepth 20000 in
theorem mOk_X11_rush : mOkM 184 (mMt 184) := ⟨fun _ => TG_6 (i := 209) rfl rfl, fun h => absurd rfl h, TG_1 (i := 12) rfl rfl, (fun h => nomatch h), fun _ => ⟨TG_6 (i := 207) rfl rfl, fun _ => TG_6 (i := 208) rfl rfl⟩, by decide +kernel, ⟨by decide +kernel, by decide +kernel, by decide +kernel⟩, fun h => absurd h (by decide)⟩
set_option maxRecDepth 20000 in
theorem mOk_X11_setWorker : mOkM 185 (mMt 185) := ⟨fun _ => TG_6 (i := 217) rfl rfl, fun h => absurd rfl h, TG_1 (i := 12) rfl rfl, (fun h => nomatch h), fun _ => ⟨TG_6 (i := 215) rfl rfl, fun _ => TG_6 (i := 216) rfl rfl⟩, by decide +kernel, ⟨by decide +kernel, by decide +kernel, by decide +kernel⟩, fun h => absurd h (by decide)⟩
set_option maxRecDepth 20000 in
theorem mOk_X11_undo : mOkM 186 (mMt 186) := ⟨fun _ => TG_6 (i := 221) rfl rfl, fun h => absurd rfl h, TG_1 (i := 12) rfl rfl, (fun h => nomatch h), fun _ => ⟨TG_6 (i := 219) rfl rfl, fun _ => TG_6 (i := 220) rfl rfl⟩, by decide +kernel, ⟨by decide +kernel, by decide +kernel, by decide +kernel⟩, fun h => absurd h (by decide)⟩
set_option maxRecDepth 20000 in
theorem mOk_X11_jobs : mOkM 187 (mMt 187) := ⟨fun _ => TG_6 (i := 225) rfl rfl, fun h => absurd rfl h, TG_1 (i := 12) rfl rfl, (fun h => nomatch h), fun _ => ⟨TG_6 (i := 223) rfl rfl, fun _ => TG_6 (i := 224) rfl rfl⟩, by decide +kernel, ⟨by decide +kernel, by decide +kernel, by decide +kernel⟩, fun h => absurd h (by decide)⟩
set_option maxRecDepth 20000 in
theorem mOk_X11_jobAt : mOkM 188 (mMt 188) := ⟨fun _ => TG_6 (i := 229) rfl rfl, fun h => absurd rfl h, TG_1 (i := 12) rfl rfl, (fun h => nomatch h), fun _ => ⟨TG_6 (i := 227) rfl rfl, fun _ => TG_6 (i := 228) rfl rfl⟩, by decide +kernel, ⟨by decide +kernel, by decide +kernel, by decide +kernel⟩, fun h => absurd h (by decide)⟩
set_option maxRecDepth 20000 in
theorem mOk_X11_stepAt : mOkM 189 (mMt 189) := ⟨fun _ => TG_6 (i := 237) rfl rfl, fun h => absurd rfl h, TG_1 (i := 12) rfl rfl, (fun h => nomatch h), fun _ => ⟨TG_6 (i := 235) rfl rfl, fun _ => TG_6 (i := 236) rfl rfl⟩, by decide +kernel, ⟨by decide +kernel, by decide +kernel, by decide +kernel⟩, fun h => absurd h (by decide)⟩
set_option maxRecDepth 20000 in
theorem mOk_X11_isPlanned : mOkM 190 (mMt 190) := ⟨fun _ => TG_7 (i := 9) rfl rfl, fun h => absurd rfl h, TG_1 (i := 12) rfl rfl, (fun h => nomatch h), fun _ => ⟨TG_7 (i := 8) rfl rfl, fun _ => TG_s (List.mem_of_getElem? (i := 68) rfl) rfl⟩, by decide +kernel, ⟨by decide +kernel, by decide +kernel, by decide +kernel⟩, fun h => absurd h (by decide)⟩
set_option maxRecDepth 20000 in
theorem mOk_X11_begin : mOkM 191 (mMt 191) := ⟨fun _ => TG_7 (i := 5) rfl rfl, fun h => absurd rfl h, TG_1 (i := 12) rfl rfl, (fun h => nomatch h), fun _ => ⟨TG_7 (i := 3) rfl rfl, fun _ => TG_7 (i := 4) rfl rfl⟩, by decide +kernel, ⟨by decide +kernel, by decide +kernel, by decide +kernel⟩, fun h => absurd h (by decide)⟩
set_option maxRecDepth 20000 in
theorem mOk_X11_endOf : mOkM 192 (mMt 192) := ⟨fun _ => TG_7 (i := 13) rfl rfl, fun h => absurd rfl h, TG_1 (i := 12) rfl rfl, (fun h => nomatch h), fun _ => ⟨TG_7 (i := 11) rfl rfl, fun _ => TG_7 (i := 12) rfl rfl⟩, by decide +kernel, ⟨by decide +kernel, by decide +kernel, by decide +kernel⟩, fun h => absurd h (by decide)⟩
set_option maxRecDepth 20000 in
theorem mOk_X11_value : mOkM 193 (mMt 193) := ⟨fun _ => TG_7 (i := 17) rfl rfl, fun h => absurd rfl h, TG_1 (i := 12) rfl rfl, (fun h => nomatch h), fun _ => ⟨TG_7 (i := 15) rfl rfl, fun _ => TG_7 (i := 16) rfl rfl⟩, by decide +kernel, ⟨by decide +kernel, by decide +kernel, by decide +kernel⟩, fun h => absurd h (by decide)⟩
set_option maxRecDepth 20000 in
theorem mOk_X11_bound : mOkM 194 (mMt 194) := ⟨fun _ => TG_7 (i := 21) rfl rfl, fun h => absurd rfl h, TG_1 (i := 12) rfl rfl, (fun h => nomatch h), fun _ => ⟨TG_7 (i := 19) rfl rfl, fun _ => TG_7 (i := 20) rfl rfl⟩, by decide +kernel, ⟨by decide +kernel, by decide +kernel, by decide +kernel⟩, fun h => absurd h (by decide)⟩
set_option maxRecDepth 20000 in
theorem mOk_X11_hoursOn : mOkM 195 (mMt 195) := ⟨fun _ => TG_7 (i := 25) rfl rfl, fun h => absurd rfl h, TG_1 (i := 12) rfl rfl, (fun h => nomatch h), fun _ => ⟨TG_7 (i := 24) rfl rfl, fun _ => TG_s (List.mem_of_getElem? (i := 69) rfl) rfl⟩, by decide +kernel, ⟨by decide +kernel, by decide +kernel, by decide +kernel⟩, fun h => absurd h (by decide)⟩
set_option maxRecDepth 20000 in
theorem mOk_X11_orderAt : mOkM 196 (mMt 196) := ⟨fun _ => TG_7 (i := 29) rfl rfl, fun h => absurd rfl h, TG_1 (i := 12) rfl rfl, (fun h => nomatch h), fun _ => ⟨TG_7 (i := 27) rfl rfl, fun _ => TG_7 (i := 28) rfl rfl⟩, by decide +kernel, ⟨by decide +kernel, by decide +kernel, by decide +kernel⟩, fun h => absurd h (by decide)⟩
set_option maxRecDepth 20000 in
theorem mOk_X11_doneIn : mOkM 197 (mMt 197) := ⟨fun _ => TG_7 (i := 33) rfl rfl, fun h => absurd rfl h, TG_1 (i := 12) rfl rfl, (fun h => nomatch h), fun _ => ⟨TG_7 (i := 31) rfl rfl, fun _ => TG_7 (i := 32) rfl rfl⟩, by decide +kernel, ⟨by decide +kernel, by decide +kernel, by decide +kernel⟩, fun h => absurd h (by decide)⟩
set_option maxRecDepth 20000 in
theorem mOk_X11_isDone : mOkM 198 (mMt 198) := ⟨fun _ => TG_7 (i := 37) rfl rfl, fun h => absurd rfl h, TG_1 (i := 12) rfl rfl, (fun h => nomatch h), fun _ => ⟨TG_7 (i := 36) rfl rfl, fun _ => TG_s (List.mem_of_getElem? (i := 70) rfl) rfl⟩, by decide +kernel, ⟨by decide +kernel, by decide +kernel, by decide +kernel⟩, fun h => absurd h (by decide)⟩
set_option maxRecDepth 20000 in
theorem mOk_X11_stepEnd : mOkM 199 (mMt 199) := ⟨fun _ => TG_7 (i := 41) rfl rfl, fun h => absurd rfl h, TG_1 (i := 12) rfl rfl, (fun h => nomatch h), fun _ => ⟨TG_7 (i := 40) rfl rfl, fun _ => TG_s (List.mem_of_getElem? (i := 71) rfl) rfl⟩, by decide +kernel, ⟨by decide +kernel, by decide +kernel, by decide +kernel⟩, fun h => absurd h (by decide)⟩
set_option maxRecDepth 20000 in
theorem mOk_X11_aheadOf : mOkM 200 (mMt 200) := ⟨fun _ => TG_7 (i := 57) rfl rfl, fun h => absurd rfl h, TG_1 (i := 12) rfl rfl, (fun h => nomatch h), fun _ => ⟨TG_7 (i := 56) rfl rfl, fun _ => TG_s (List.mem_of_getElem? (i := 74) rfl) rfl⟩, by decide +kernel, ⟨by decide +kernel, by decide +kernel, by decide +kernel⟩, fun h => absurd h (by decide)⟩
set_option maxRecDepth 20000 in
theorem mOk_X11_readyAt : mOkM 201 (mMt 201) := ⟨fun _ => TG_7 (i := 53) rfl rfl, fun h => absurd rfl h, TG_1 (i := 12) rfl rfl, (fun h => nomatch h), fun _ => ⟨TG_7 (i := 52) rfl rfl, fun _ => TG_s (List.mem_of_getElem? (i := 73) rfl) rfl⟩, by decide +kernel, ⟨by decide +kernel, by decide +kernel, by decide +kernel⟩, fun h => absurd h (by decide)⟩
set_option maxRecDepth 20000 in
theorem mOk_X11_laysWay : mOkM 202 (mMt 202) := ⟨fun _ => TG_7 (i := 49) rfl rfl, fun h => absurd rfl h, TG_1 (i := 12) rfl rfl, (fun h => nomatch h), fun _ => ⟨TG_7 (i := 48) rfl rfl, fun _ => TG_s (List.mem_of_getElem? (i := 72) rfl) rfl⟩, by decide +kernel, ⟨by decide +kernel, by decide +kernel, by decide +kernel⟩, fun h => absurd h (by decide)⟩
set_option maxRecDepth 20000 in
theorem mOk_X11_wayLength : mOkM 203 (mMt 203) := ⟨fun _ => TG_7 (i := 45) rfl rfl, fun h => absurd rfl h, TG_1 (i := 12) rfl rfl, (fun h => nomatch h), fun _ => ⟨TG_7 (i := 43) rfl rfl, fun _ => TG_7 (i := 44) rfl rfl⟩, by decide +kernel, ⟨by decide +kernel, by decide +kernel, by decide +kernel⟩, fun h => absurd h (by decide)⟩
set_option maxRecDepth 20000 in
theorem mOk_X11_wayAt : mOkM 204 (mMt 204) := ⟨fun _ => TG_7 (i := 61) rfl rfl, fun h => absurd rfl h, TG_1 (i := 12) rfl rfl, (fun h => nomatch h), fun _ => ⟨TG_7 (i := 59) rfl rfl, fun _ => TG_7 (i := 60) rfl rfl⟩, by decide +kernel, ⟨by decide +kernel, by decide +kernel, by decide +kernel⟩, fun h => absurd h (by decide)⟩
set_option maxRecDepth 20000 in
theorem mOk_X11_block : mOkM 205 (mMt 205) := ⟨fun _ => TG_7 (i := 69) rfl rfl, fun h => absurd rfl h, TG_1 (i := 12) rfl rfl, (fun h => nomatch h), fun _ => ⟨TG_7 (i := 68) rfl rfl, fun _ => TG_s (List.mem_of_getElem? (i := 75) rfl) rfl⟩, by decide +kernel, ⟨by decide +kernel, by decide +kernel, by decide +kernel⟩, fun h => absurd h (by decide)⟩
set_option maxRecDepth 20000 in
theorem mOk_X11_blocks : mOkM 206 (mMt 206) := ⟨fun _ => TG_7 (i := 65) rfl rfl, fun h => absurd rfl h, TG_1 (i := 12) rfl rfl, (fun h => nomatch h), fun _ => ⟨TG_7 (i := 63) rfl rfl, fun _ => TG_7 (i := 64) rfl rfl⟩, by decide +kernel, ⟨by decide +kernel, by decide +kernel, by decide +kernel⟩, fun h => absurd h (by decide)⟩
set_option maxRecDepth 20000 in
theorem mOk_X11_longestBlock : mOkM 207 (mMt 207) := ⟨fun _ => TG_7 (i := 73) rfl rfl, fun h => absurd rfl h, TG_1 (i := 12) rfl rfl, (fun h => nomatch h), fun _ => ⟨TG_7 (i := 71) rfl rfl, fun _ => TG_7 (i := 72) rfl rfl⟩, by decide +kernel, ⟨by decide +kernel, by decide +kernel, by decide +kernel⟩, fun h => absurd h (by decide)⟩
set_option maxRecDepth 20000 in
theorem mOk_X11_slack : mOkM 208 (mMt 208) := ⟨fun _ => TG_7 (i := 77) rfl rfl, fun h => absurd rfl h, TG_1 (i := 12) rfl rfl, (fun h => nomatch h), fun _ => ⟨TG_7 (i := 75) rfl rfl, fun _ => TG_7 (i := 76) rfl rfl⟩, by decide +kernel, ⟨by decide +kernel, by decide +kernel, by decide +kernel⟩, fun h => absurd h (by decide)⟩
set_option maxRecDepth 20000 in
theorem mOk_X11_delay : mOkM 209 (mMt 209) := ⟨fun _ => TG_7 (i := 81) rfl rfl, fun h => absurd rfl h, TG_1 (i := 12) rfl rfl, (fun h => nomatch h), fun _ => ⟨TG_7 (i := 79) rfl rfl, fun _ => TG_7 (i := 80) rfl rfl⟩, by decide +kernel, ⟨by decide +kernel, by decide +kernel, by decide +kernel⟩, fun h => absurd h (by decide)⟩
set_option maxRecDepth 20000 in
theorem mOk_X11_part : mOkM 210 (mMt 210) := ⟨fun _ => TG_7 (i := 97) rfl rfl, fun h => absurd rfl h, TG_1 (i := 12) rfl rfl, (fun h => nomatch h), fun _ => ⟨TG_7 (i := 96) rfl rfl, fun _ => TG_s (List.mem_of_getElem? (i := 78) rfl) rfl⟩, by decide +kernel, ⟨by decide +kernel, by decide +kernel, by decide +kernel⟩, fun h => absurd h (by decide)⟩
set_option maxRecDepth 20000 in
theorem mOk_X11_goesFirst : mOkM 211 (mMt 211) := ⟨fun _ => TG_7 (i := 93) rfl rfl, fun h => absurd rfl h, TG_1 (i := 12) rfl rfl, (fun h => nomatch h), fun _ => ⟨TG_7 (i := 92) rfl rfl, fun _ => TG_s (List.mem_of_getElem? (i := 77) rfl) rfl⟩, by decide +kernel, ⟨by decide +kernel, by decide +kernel, by decide +kernel⟩, fun h => absurd h (by decide)⟩
set_option maxRecDepth 20000 in
theorem mOk_X11_laysRow : mOkM 212 (mMt 212) := ⟨fun _ => TG_7 (i := 89) rfl rfl, fun h => absurd rfl h, TG_1 (i := 12) rfl rfl, (fun h => nomatch h), fun _ => ⟨TG_7 (i := 88) rfl rfl, fun _ => TG_s (List.mem_of_getElem? (i := 76) rfl) rfl⟩, by decide +kernel, ⟨by decide +kernel, by decide +kernel, by decide +kernel⟩, fun h => absurd h (by decide)⟩
set_option maxRecDepth 20000 in
theorem mOk_X11_leastSum : mOkM 213 (mMt 213) := ⟨fun _ => TG_7 (i := 85) rfl rfl, fun h => absurd rfl h, TG_1 (i := 12) rfl rfl, (fun h => nomatch h), fun _ => ⟨TG_7 (i := 83) rfl rfl, fun _ => TG_7 (i := 84) rfl rfl⟩, by decide +kernel, ⟨by decide +kernel, by decide +kernel, by decide +kernel⟩, fun h => absurd h (by decide)⟩
set_option maxRecDepth 20000 in
theorem mOk_X11_leastLateness : mOkM 214 (mMt 214) := ⟨fun _ => TG_7 (i := 101) rfl rfl, fun h => absurd rfl h, TG_1 (i := 12) rfl rfl, (fun h => nomatch h), fun _ => ⟨TG_7 (i := 99) rfl rfl, fun _ => TG_7 (i := 100) rfl rfl⟩, by decide +kernel, ⟨by decide +kernel, by decide +kernel, by decide +kernel⟩, fun h => absurd h (by decide)⟩
set_option maxRecDepth 20000 in
theorem mOk_X11_dropped : mOkM 215 (mMt 215) := ⟨fun _ => TG_7 (i := 109) rfl rfl, fun h => absurd rfl h, TG_1 (i := 12) rfl rfl, (fun h => nomatch h), fun _ => ⟨TG_7 (i := 108) rfl rfl, fun _ => TG_s (List.mem_of_getElem? (i := 79) rfl) rfl⟩, by decide +kernel, ⟨by decide +kernel, by decide +kernel, by decide +kernel⟩, fun h => absurd h (by decide)⟩
set_option maxRecDepth 20000 in
theorem mOk_X11_fewestLate : mOkM 216 (mMt 216) := ⟨fun _ => TG_7 (i := 105) rfl rfl, fun h => absurd rfl h, TG_1 (i := 12) rfl rfl, (fun h => nomatch h), fun _ => ⟨TG_7 (i := 103) rfl rfl, fun _ => TG_7 (i := 104) rfl rfl⟩, by decide +kernel, ⟨by decide +kernel, by decide +kernel, by decide +kernel⟩, fun h => absurd h (by decide)⟩
set_option maxRecDepth 20000 in
theorem mOk_X11_isDropped : mOkM 217 (mMt 217) := ⟨fun _ => TG_7 (i := 113) rfl rfl, fun h => absurd rfl h, TG_1 (i := 12) rfl rfl, (fun h => nomatch h), fun _ => ⟨TG_7 (i := 111) rfl rfl, fun _ => TG_7 (i := 112) rfl rfl⟩, by decide +kernel, ⟨by decide +kernel, by decide +kernel, by decide +kernel⟩, fun h => absurd h (by decide)⟩
set_option maxRecDepth 20000 in
theorem mOk_X11_leastEnd : mOkM 218 (mMt 218) := ⟨fun _ => TG_7 (i := 117) rfl rfl, fun h => absurd rfl h, TG_1 (i := 12) rfl rfl, (fun h => nomatch h), fun _ => ⟨TG_7 (i := 115) rfl rfl, fun _ => TG_7 (i := 116) rfl rfl⟩, by decide +kernel, ⟨by decide +kernel, by decide +kernel, by decide +kernel⟩, fun h => absurd h (by decide)⟩
set_option maxRecDepth 20000 in
theorem mOk_X11_twoAt : mOkM 219 (mMt 219) := ⟨fun _ => TG_7 (i := 121) rfl rfl, fun h => absurd rfl h, TG_1 (i := 12) rfl rfl, (fun h => nomatch h), fun _ => ⟨TG_7 (i := 119) rfl rfl, fun _ => TG_7 (i := 120) rfl rfl⟩, by decide +kernel, ⟨by decide +kernel, by decide +kernel, by decide +kernel⟩, fun h => absurd h (by decide)⟩
set_option maxRecDepth 20000 in
theorem mOk_X11_nextRow : mOkM 220 (mMt 220) := ⟨fun _ => TG_7 (i := 133) rfl rfl, fun h => absurd rfl h, TG_1 (i := 12) rfl rfl, (fun h => nomatch h), fun _ => ⟨TG_7 (i := 132) rfl rfl, fun _ => TG_s (List.mem_of_getElem? (i := 81) rfl) rfl⟩, by decide +kernel, ⟨by decide +kernel, by decide +kernel, by decide +kernel⟩, fun h => absurd h (by decide)⟩
set_option maxRecDepth 20000 in
theorem mOk_X11_turns : mOkM 221 (mMt 221) := ⟨fun _ => TG_7 (i := 137) rfl rfl, fun h => absurd rfl h, TG_1 (i := 12) rfl rfl, (fun h => nomatch h), fun _ => ⟨TG_7 (i := 136) rfl rfl, fun _ => TG_s (List.mem_of_getElem? (i := 82) rfl) rfl⟩, by decide +kernel, ⟨by decide +kernel, by decide +kernel, by decide +kernel⟩, fun h => absurd h (by decide)⟩
set_option maxRecDepth 20000 in
theorem mOk_X11_setup : mOkM 222 (mMt 222) := ⟨fun _ => TG_7 (i := 129) rfl rfl, fun h => absurd rfl h, TG_1 (i := 12) rfl rfl, (fun h => nomatch h), fun _ => ⟨TG_7 (i := 128) rfl rfl, fun _ => TG_s (List.mem_of_getElem? (i := 80) rfl) rfl⟩, by decide +kernel, ⟨by decide +kernel, by decide +kernel, by decide +kernel⟩, fun h => absurd h (by decide)⟩
set_option maxRecDepth 20000 in
theorem mOk_X11_leastSetup : mOkM 223 (mMt 223) := ⟨fun _ => TG_7 (i := 125) rfl rfl, fun h => absurd rfl h, TG_1 (i := 12) rfl rfl, (fun h => nomatch h), fun _ => ⟨TG_7 (i := 123) rfl rfl, fun _ => TG_7 (i := 124) rfl rfl⟩, by decide +kernel, ⟨by decide +kernel, by decide +kernel, by decide +kernel⟩, fun h => absurd h (by decide)⟩
set_option maxRecDepth 20000 in
theorem mOk_X11_setupAt : mOkM 224 (mMt 224) := ⟨fun _ => TG_7 (i := 141) rfl rfl, fun h => absurd rfl h, TG_1 (i := 12) rfl rfl, (fun h => nomatch h), fun _ => ⟨TG_7 (i := 139) rfl rfl, fun _ => TG_7 (i := 140) rfl rfl⟩, by decide +kernel, ⟨by decide +kernel, by decide +kernel, by decide +kernel⟩, fun h => absurd h (by decide)⟩
set_option maxRecDepth 20000 in
theorem mOk_X11_matches : mOkM 225 (mMt 225) := ⟨fun _ => TG_7 (i := 149) rfl rfl, fun h => absurd rfl h, TG_1 (i := 12) rfl rfl, (fun h => nomatch h), fun _ => ⟨TG_7 (i := 148) rfl rfl, fun _ => TG_s (List.mem_of_getElem? (i := 83) rfl) rfl⟩, by decide +kernel, ⟨by decide +kernel, by decide +kernel, by decide +kernel⟩, fun h => absurd h (by decide)⟩
set_option maxRecDepth 20000 in
theorem mOk_X11_workerIn : mOkM 226 (mMt 226) := ⟨fun _ => TG_7 (i := 152) rfl rfl, fun h => absurd rfl h, TG_1 (i := 12) rfl rfl, fun _ => TG_7 (i := 151) rfl rfl, (fun h => nomatch h), by decide +kernel, ⟨by decide +kernel, by decide +kernel, by decide +kernel⟩, fun h => absurd h (by decide)⟩
set_option maxRecDepth 20000 in
theorem mOk_X11_match : mOkM 227 (mMt 227) := ⟨fun _ => TG_7 (i := 145) rfl rfl, fun h => absurd rfl h, TG_1 (i := 12) rfl rfl, (fun h => nomatch h), fun _ => ⟨TG_7 (i := 143) rfl rfl, fun _ => TG_7 (i := 144) rfl rfl⟩, by decide +kernel, ⟨by decide +kernel, by decide +kernel, by decide +kernel⟩, fun h => absurd h (by decide)⟩
set_option maxRecDepth 20000 in
theorem mOk_X11_workerOf : mOkM 228 (mMt 228) := ⟨fun _ => TG_7 (i := 156) rfl rfl, fun h => absurd rfl h, TG_1 (i := 12) rfl rfl, (fun h => nomatch h), fun _ => ⟨TG_7 (i := 154) rfl rfl, fun _ => TG_7 (i := 155) rfl rfl⟩, by decide +kernel, ⟨by decide +kernel, by decide +kernel, by decide +kernel⟩, fun h => absurd h (by decide)⟩
set_option maxRecDepth 20000 in
theorem mOk_X11_oddsOf : mOkM 229 (mMt 229) := ⟨fun _ => TG_7 (i := 165) rfl rfl, fun h => absurd rfl h, TG_1 (i := 12) rfl rfl, (fun h => nomatch h), fun _ => ⟨TG_7 (i := 164) rfl rfl, fun _ => TG_s (List.mem_of_getElem? (i := 84) rfl) rfl⟩, by decide +kernel, ⟨by decide +kernel, by decide +kernel, by decide +kernel⟩, fun h => absurd h (by decide)⟩
set_option maxRecDepth 20000 in
theorem mOk_X11_promise : mOkM 230 (mMt 230) := ⟨fun _ => TG_7 (i := 160) rfl rfl, fun h => absurd rfl h, TG_1 (i := 12) rfl rfl, (fun h => nomatch h), fun _ => ⟨TG_7 (i := 158) rfl rfl, fun _ => TG_7 (i := 159) rfl rfl⟩, by decide +kernel, ⟨by decide +kernel, by decide +kernel, by decide +kernel⟩, fun h => absurd h (by decide)⟩
set_option maxRecDepth 20000 in
theorem mOk_X11_worked : mOkM 231 (mMt 231) := ⟨fun _ => TG_7 (i := 169) rfl rfl, fun h => absurd rfl h, TG_1 (i := 12) rfl rfl, (fun h => nomatch h), fun _ => ⟨TG_7 (i := 167) rfl rfl, fun _ => TG_7 (i := 168) rfl rfl⟩, by decide +kernel, ⟨by decide +kernel, by decide +kernel, by decide +kernel⟩, fun h => absurd h (by decide)⟩
set_option maxRecDepth 20000 in
theorem mOk_X11_meanEnd : mOkM 232 (mMt 232) := ⟨fun _ => TG_7 (i := 174) rfl rfl, fun h => absurd rfl h, TG_1 (i := 12) rfl rfl, (fun h => nomatch h), fun _ => ⟨TG_7 (i := 172) rfl rfl, fun _ => TG_7 (i := 173) rfl rfl⟩, by decide +kernel, ⟨by decide +kernel, by decide +kernel, by decide +kernel⟩, fun h => absurd h (by decide)⟩
set_option maxRecDepth 20000 in
theorem mOk_X11_use : mOkM 233 (mMt 233) := ⟨fun _ => TG_7 (i := 178) rfl rfl, fun h => absurd rfl h, TG_1 (i := 12) rfl rfl, (fun h => nomatch h), fun _ => ⟨TG_7 (i := 176) rfl rfl, fun _ => TG_7 (i := 177) rfl rfl⟩, by decide +kernel, ⟨by decide +kernel, by decide +kernel, by decide +kernel⟩, fun h => absurd h (by decide)⟩
set_option maxRecDepth 20000 in
theorem mOk_X11_isClosed : mOkM 234 (mMt 234) := ⟨fun _ => TG_7 (i := 191) rfl rfl, fun h => absurd rfl h, TG_1 (i := 12) rfl rfl, (fun h => nomatch h), fun _ => ⟨TG_7 (i := 190) rfl rfl, fun _ => TG_s (List.mem_of_getElem? (i := 86) rfl) rfl⟩, by decide +kernel, ⟨by decide +kernel, by decide +kernel, by decide +kernel⟩, fun h => absurd h (by decide)⟩
set_option maxRecDepth 20000 in
theorem mOk_X11_isWrong : mOkM 235 (mMt 235) := ⟨fun _ => TG_7 (i := 187) rfl rfl, fun h => absurd rfl h, TG_1 (i := 12) rfl rfl, (fun h => nomatch h), fun _ => ⟨TG_7 (i := 186) rfl rfl, fun _ => TG_s (List.mem_of_getElem? (i := 85) rfl) rfl⟩, by decide +kernel, ⟨by decide +kernel, by decide +kernel, by decide +kernel⟩, fun h => absurd h (by decide)⟩
set_option maxRecDepth 20000 in
theorem mOk_X11_errors : mOkM 236 (mMt 236) := ⟨fun _ => TG_7 (i := 182) rfl rfl, fun h => absurd rfl h, TG_1 (i := 12) rfl rfl, (fun h => nomatch h), fun _ => ⟨TG_7 (i := 180) rfl rfl, fun _ => TG_7 (i := 181) rfl rfl⟩, by decide +kernel, ⟨by decide +kernel, by decide +kernel, by decide +kernel⟩, fun h => absurd h (by decide)⟩
set_option maxRecDepth 20000 in
theorem mOk_J6_bitCount_0f7a4 : mOkM 237 (mMt 237) := ⟨fun _ => TG_3 (i := 64) rfl rfl, fun h => absurd rfl h, TG_1 (i := 22) rfl rfl, fun _ => TG_3 (i := 63) rfl rfl, (fun h => nomatch h), by decide +kernel, ⟨by decide +kernel, by decide +kernel, by decide +kernel⟩, fun h => absurd h (by decide)⟩
set_option maxRecDepth 20000 in
theorem mOk_J7_fill_d0a16 : mOkM 240 (mMt 240) := ⟨fun _ => TG_5 (i := 171) rfl rfl, fun h => absurd rfl h, TG_1 (i := 21) rfl rfl, fun _ => TG_5 (i := 170) rfl rfl, (fun h => nomatch h), by decide +kernel, ⟨by decide +kernel, by decide +kernel, by decide +kernel⟩, fun h => absurd h (by decide)⟩
set_option maxRecDepth 20000 in
theorem mOk_J7_fill_53178 : mOkM 241 (mMt 241) := ⟨fun _ => TG_2 (i := 183) rfl rfl, fun h => absurd rfl h, TG_1 (i := 21) rfl rfl, fun _ => TG_2 (i := 182) rfl rfl, (fun h => nomatch h), by decide +kernel, ⟨by decide +kernel, by decide +kernel, by decide +kernel⟩, fun h => absurd h (by decide)⟩
set_option maxRecDepth 20000 in
theorem mOk_L_close : mOkM 242 (mMt 242) := ⟨(fun h => nomatch h), fun _ => ⟨TG_3 (i := 136) rfl rfl, rfl⟩, TG_1 (i := 0) rfl rfl, fun _ => TG_3 (i := 135) rfl rfl, (fun h => nomatch h), by decide +kernel, ⟨by decide +kernel, by decide +kernel, by decide +kernel⟩, fun h => absurd h (by decide)⟩
set_option maxRecDepth 20000 in
theorem mOk_L_setTool : mOkM 243 (mMt 243) := ⟨(fun h => nomatch h), fun _ => ⟨TG_4 (i := 21) rfl rfl, rfl⟩, TG_1 (i := 0) rfl rfl, fun _ => TG_4 (i := 20) rfl rfl, (fun h => nomatch h), by decide +kernel, ⟨by decide +kernel, by decide +kernel, by decide +kernel⟩, fun h => absurd h (by decide)⟩
set_option maxRecDepth 20000 in
theorem mOk_L_setSetup : mOkM 244 (mMt 244) := ⟨(fun h => nomatch h), fun _ => ⟨TG_4 (i := 28) rfl rfl, rfl⟩, TG_1 (i := 0) rfl rfl, fun _ => TG_4 (i := 27) rfl rfl, (fun h => nomatch h), by decide +kernel, ⟨by decide +kernel, by decide +kernel, by decide +kernel⟩, fun h => absurd h (by decide)⟩
set_option maxRecDepth 20000 in
theorem mOk_L_addJob : mOkM 245 (mMt 245) := ⟨(fun h => nomatch h), fun _ => ⟨TG_4 (i := 43) rfl rfl, rfl⟩, TG_1 (i := 0) rfl rfl, fun _ => TG_4 (i := 42) rfl rfl, (fun h => nomatch h), by decide +kernel, ⟨by decide +kernel, by decide +kernel, by decide +kernel⟩, fun h => absurd h (by decide)⟩
set_option maxRecDepth 20000 in
theorem mOk_L_addStep : mOkM 246 (mMt 246) := ⟨(fun h => nomatch h), fun _ => ⟨TG_4 (i := 55) rfl rfl, rfl⟩, TG_1 (i := 0) rfl rfl, fun _ => TG_4 (i := 54) rfl rfl, (fun h => nomatch h), by decide +kernel, ⟨by decide +kernel, by decide +kernel, by decide +kernel⟩, fun h => absurd h (by decide)⟩
set_option maxRecDepth 20000 in
theorem mOk_L_cut : mOkM 247 (mMt 247) := ⟨(fun h => nomatch h), fun _ => ⟨TG_4 (i := 68) rfl rfl, rfl⟩, TG_1 (i := 0) rfl rfl, fun _ => TG_4 (i := 67) rfl rfl, (fun h => nomatch h), by decide +kernel, ⟨by decide +kernel, by decide +kernel, by decide +kernel⟩, fun h => absurd h (by decide)⟩
set_option maxRecDepth 20000 in
theorem mOk_L_plan : mOkM 248 (mMt 248) := ⟨(fun h => nomatch h), fun _ => ⟨TG_4 (i := 86) rfl rfl, rfl⟩, TG_1 (i := 0) rfl rfl, fun _ => TG_4 (i := 85) rfl rfl, (fun h => nomatch h), by decide +kernel, ⟨by decide +kernel, by decide +kernel, by decide +kernel⟩, fun h => absurd h (by decide)⟩
set_option maxRecDepth 20000 in
theorem mOk_L_tell : mOkM 249 (mMt 249) := ⟨(fun h => nomatch h), fun _ => ⟨TG_4 (i := 117) rfl rfl, rfl⟩, TG_1 (i := 0) rfl rfl, fun _ => TG_4 (i := 116) rfl rfl, (fun h => nomatch h), by decide +kernel, ⟨by decide +kernel, by decide +kernel, by decide +kernel⟩, fun h => absurd h (by decide)⟩
set_option maxRecDepth 20000 in
theorem mOk_L_best : mOkM 250 (mMt 250) := ⟨(fun h => nomatch h), fun _ => ⟨TG_4 (i := 133) rfl rfl, rfl⟩, TG_1 (i := 0) rfl rfl, fun _ => TG_4 (i := 132) rfl rfl, (fun h => nomatch h), by decide +kernel, ⟨by decide +kernel, by decide +kernel, by decide +kernel⟩, fun h => absurd h (by decide)⟩
set_option maxRecDepth 20000 in
theorem mOk_L_swap : mOkM 251 (mMt 251) := ⟨(fun h => nomatch h), fun _ => ⟨TG_4 (i := 163) rfl rfl, rfl⟩, TG_1 (i := 0) rfl rfl, fun _ => TG_4 (i := 162) rfl rfl, (fun h => nomatch h), by decide +kernel, ⟨by decide +kernel, by decide +kernel, by decide +kernel⟩, fun h => absurd h (by decide)⟩
set_option maxRecDepth 20000 in
theorem mOk_L_replan : mOkM 252 (mMt 252) := ⟨(fun h => nomatch h), fun _ => ⟨TG_4 (i := 181) rfl rfl, rfl⟩, TG_1 (i := 0) rfl rfl, fun _ => TG_4 (i := 180) rfl rfl, (fun h => nomatch h), by decide +kernel, ⟨by decide +kernel, by decide +kernel, by decide +kernel⟩, fun h => absurd h (by decide)⟩
set_option maxRecDepth 20000 in
theorem mOk_L_rush : mOkM 253 (mMt 253) := ⟨(fun h => nomatch h), fun _ => ⟨TG_4 (i := 197) rfl rfl, rfl⟩, TG_1 (i := 0) rfl rfl, fun _ => TG_4 (i := 196) rfl rfl, (fun h => nomatch h), by decide +kernel, ⟨by decide +kernel, by decide +kernel, by decide +kernel⟩, fun h => absurd h (by decide)⟩
set_option maxRecDepth 20000 in
theorem mOk_L_setWorker : mOkM 254 (mMt 254) := ⟨(fun h => nomatch h), fun _ => ⟨TG_4 (i := 208) rfl rfl, rfl⟩, TG_1 (i := 0) rfl rfl, fun _ => TG_4 (i := 207) rfl rfl, (fun h => nomatch h), by decide +kernel, ⟨by decide +kernel, by decide +kernel, by decide +kernel⟩, fun h => absurd h (by decide)⟩
set_option maxRecDepth 20000 in
theorem mOk_L_jobAt : mOkM 255 (mMt 255) := ⟨(fun h => nomatch h), fun _ => ⟨TG_4 (i := 219) rfl rfl, rfl⟩, TG_1 (i := 0) rfl rfl, fun _ => TG_4 (i := 218) rfl rfl, (fun h => nomatch h), by decide +kernel, ⟨by decide +kernel, by decide +kernel, by decide +kernel⟩, fun h => absurd h (by decide)⟩
set_option maxRecDepth 20000 in
theorem mOk_L_stepAt : mOkM 256 (mMt 256) := ⟨(fun h => nomatch h), fun _ => ⟨TG_4 (i := 227) rfl rfl, rfl⟩, TG_1 (i := 0) rfl rfl, fun _ => TG_4 (i := 226) rfl rfl, (fun h => nomatch h), by decide +kernel, ⟨by decide +kernel, by decide +kernel, by decide +kernel⟩, fun h => absurd h (by decide)⟩
set_option maxRecDepth 20000 in
theorem mOk_L_begin : mOkM 257 (mMt 257) := ⟨(fun h => nomatch h), fun _ => ⟨TG_4 (i := 239) rfl rfl, rfl⟩, TG_1 (i := 0) rfl rfl, fun _ => TG_4 (i := 238) rfl rfl, (fun h => nomatch h), by decide +kernel, ⟨by decide +kernel, by decide +kernel, by decide +kernel⟩, fun h => absurd h (by decide)⟩
set_option maxRecDepth 20000 in
theorem mOk_L_endOf : mOkM 258 (mMt 258) := ⟨(fun h => nomatch h), fun _ => ⟨TG_5 (i := 6) rfl rfl, rfl⟩, TG_1 (i := 0) rfl rfl, fun _ => TG_5 (i := 5) rfl rfl, (fun h => nomatch h), by decide +kernel, ⟨by decide +kernel, by decide +kernel, by decide +kernel⟩, fun h => absurd h (by decide)⟩
set_option maxRecDepth 20000 in
theorem mOk_L_value : mOkM 259 (mMt 259) := ⟨(fun h => nomatch h), fun _ => ⟨TG_5 (i := 14) rfl rfl, rfl⟩, TG_1 (i := 0) rfl rfl, fun _ => TG_5 (i := 13) rfl rfl, (fun h => nomatch h), by decide +kernel, ⟨by decide +kernel, by decide +kernel, by decide +kernel⟩, fun h => absurd h (by decide)⟩
set_option maxRecDepth 20000 in
theorem mOk_L_orderAt : mOkM 260 (mMt 260) := ⟨(fun h => nomatch h), fun _ => ⟨TG_5 (i := 21) rfl rfl, rfl⟩, TG_1 (i := 0) rfl rfl, fun _ => TG_5 (i := 20) rfl rfl, (fun h => nomatch h), by decide +kernel, ⟨by decide +kernel, by decide +kernel, by decide +kernel⟩, fun h => absurd h (by decide)⟩
set_option maxRecDepth 20000 in
theorem mOk_L_doneIn : mOkM 261 (mMt 261) := ⟨(fun h => nomatch h), fun _ => ⟨TG_5 (i := 32) rfl rfl, rfl⟩, TG_1 (i := 0) rfl rfl, fun _ => TG_5 (i := 31) rfl rfl, (fun h => nomatch h), by decide +kernel, ⟨by decide +kernel, by decide +kernel, by decide +kernel⟩, fun h => absurd h (by decide)⟩
set_option maxRecDepth 20000 in
theorem mOk_L_wayLength : mOkM 262 (mMt 262) := ⟨(fun h => nomatch h), fun _ => ⟨TG_5 (i := 40) rfl rfl, rfl⟩, TG_1 (i := 0) rfl rfl, fun _ => TG_5 (i := 39) rfl rfl, (fun h => nomatch h), by decide +kernel, ⟨by decide +kernel, by decide +kernel, by decide +kernel⟩, fun h => absurd h (by decide)⟩
set_option maxRecDepth 20000 in
theorem mOk_L_wayAt : mOkM 263 (mMt 263) := ⟨(fun h => nomatch h), fun _ => ⟨TG_5 (i := 61) rfl rfl, rfl⟩, TG_1 (i := 0) rfl rfl, fun _ => TG_5 (i := 60) rfl rfl, (fun h => nomatch h), by decide +kernel, ⟨by decide +kernel, by decide +kernel, by decide +kernel⟩, fun h => absurd h (by decide)⟩
set_option maxRecDepth 20000 in
theorem mOk_L_blocks : mOkM 264 (mMt 264) := ⟨(fun h => nomatch h), fun _ => ⟨TG_5 (i := 68) rfl rfl, rfl⟩, TG_1 (i := 0) rfl rfl, fun _ => TG_5 (i := 67) rfl rfl, (fun h => nomatch h), by decide +kernel, ⟨by decide +kernel, by decide +kernel, by decide +kernel⟩, fun h => absurd h (by decide)⟩
set_option maxRecDepth 20000 in
theorem mOk_L_longestBlock : mOkM 265 (mMt 265) := ⟨(fun h => nomatch h), fun _ => ⟨TG_5 (i := 75) rfl rfl, rfl⟩, TG_1 (i := 0) rfl rfl, fun _ => TG_5 (i := 74) rfl rfl, (fun h => nomatch h), by decide +kernel, ⟨by decide +kernel, by decide +kernel, by decide +kernel⟩, fun h => absurd h (by decide)⟩
set_option maxRecDepth 20000 in
theorem mOk_L_slack : mOkM 266 (mMt 266) := ⟨(fun h => nomatch h), fun _ => ⟨TG_5 (i := 82) rfl rfl, rfl⟩, TG_1 (i := 0) rfl rfl, fun _ => TG_5 (i := 81) rfl rfl, (fun h => nomatch h), by decide +kernel, ⟨by decide +kernel, by decide +kernel, by decide +kernel⟩, fun h => absurd h (by decide)⟩
set_option maxRecDepth 20000 in
theorem mOk_L_delay : mOkM 267 (mMt 267) := ⟨(fun h => nomatch h), fun _ => ⟨TG_5 (i := 90) rfl rfl, rfl⟩, TG_1 (i := 0) rfl rfl, fun _ => TG_5 (i := 89) rfl rfl, (fun h => nomatch h), by decide +kernel, ⟨by decide +kernel, by decide +kernel, by decide +kernel⟩, fun h => absurd h (by decide)⟩
set_option maxRecDepth 20000 in
theorem mOk_L_isDropped : mOkM 268 (mMt 268) := ⟨(fun h => nomatch h), fun _ => ⟨TG_5 (i := 97) rfl rfl, rfl⟩, TG_1 (i := 0) rfl rfl, fun _ => TG_5 (i := 96) rfl rfl, (fun h => nomatch h), by decide +kernel, ⟨by decide +kernel, by decide +kernel, by decide +kernel⟩, fun h => absurd h (by decide)⟩
set_option maxRecDepth 20000 in
theorem mOk_L_twoAt : mOkM 269 (mMt 269) := ⟨(fun h => nomatch h), fun _ => ⟨TG_5 (i := 104) rfl rfl, rfl⟩, TG_1 (i := 0) rfl rfl, fun _ => TG_5 (i := 103) rfl rfl, (fun h => nomatch h), by decide +kernel, ⟨by decide +kernel, by decide +kernel, by decide +kernel⟩, fun h => absurd h (by decide)⟩
set_option maxRecDepth 20000 in
theorem mOk_L_setupAt : mOkM 270 (mMt 270) := ⟨(fun h => nomatch h), fun _ => ⟨TG_5 (i := 119) rfl rfl, rfl⟩, TG_1 (i := 0) rfl rfl, fun _ => TG_5 (i := 118) rfl rfl, (fun h => nomatch h), by decide +kernel, ⟨by decide +kernel, by decide +kernel, by decide +kernel⟩, fun h => absurd h (by decide)⟩
set_option maxRecDepth 20000 in
theorem mOk_L_match : mOkM 271 (mMt 271) := ⟨(fun h => nomatch h), fun _ => ⟨TG_5 (i := 126) rfl rfl, rfl⟩, TG_1 (i := 0) rfl rfl, fun _ => TG_5 (i := 125) rfl rfl, (fun h => nomatch h), by decide +kernel, ⟨by decide +kernel, by decide +kernel, by decide +kernel⟩, fun h => absurd h (by decide)⟩
set_option maxRecDepth 20000 in
theorem mOk_L_workerOf : mOkM 272 (mMt 272) := ⟨(fun h => nomatch h), fun _ => ⟨TG_5 (i := 147) rfl rfl, rfl⟩, TG_1 (i := 0) rfl rfl, fun _ => TG_5 (i := 146) rfl rfl, (fun h => nomatch h), by decide +kernel, ⟨by decide +kernel, by decide +kernel, by decide +kernel⟩, fun h => absurd h (by decide)⟩
set_option maxRecDepth 20000 in
theorem mOk_L_promise : mOkM 273 (mMt 273) := ⟨(fun h => nomatch h), fun _ => ⟨TG_5 (i := 154) rfl rfl, rfl⟩, TG_1 (i := 0) rfl rfl, fun _ => TG_5 (i := 153) rfl rfl, (fun h => nomatch h), by decide +kernel, ⟨by decide +kernel, by decide +kernel, by decide +kernel⟩, fun h => absurd h (by decide)⟩
set_option maxRecDepth 20000 in
theorem mOk_L_worked : mOkM 274 (mMt 274) := ⟨(fun h => nomatch h), fun _ => ⟨TG_5 (i := 176) rfl rfl, rfl⟩, TG_1 (i := 0) rfl rfl, fun _ => TG_5 (i := 175) rfl rfl, (fun h => nomatch h), by decide +kernel, ⟨by decide +kernel, by decide +kernel, by decide +kernel⟩, fun h => absurd h (by decide)⟩
set_option maxRecDepth 20000 in
theorem mOk_L_meanEnd : mOkM 275 (mMt 275) := ⟨(fun h => nomatch h), fun _ => ⟨TG_5 (i := 188) rfl rfl, rfl⟩, TG_1 (i := 0) rfl rfl, fun _ => TG_5 (i := 187) rfl rfl, (fun h => nomatch h), by decide +kernel, ⟨by decide +kernel, by decide +kernel, by decide +kernel⟩, fun h => absurd h (by decide)⟩
set_option maxRecDepth 20000 in
theorem mOk_L_use : mOkM 276 (mMt 276) := ⟨(fun h => nomatch h), fun _ => ⟨TG_5 (i := 195) rfl rfl, rfl⟩, TG_1 (i := 0) rfl rfl, fun _ => TG_5 (i := 194) rfl rfl, (fun h => nomatch h), by decide +kernel, ⟨by decide +kernel, by decide +kernel, by decide +kernel⟩, fun h => absurd h (by decide)⟩
theorem mOk_ok : ∀ y, y < 277 → y ≠ 238 → y ≠ 239 → mOkM y (mMt y) := by
  intro y hy h1 h2
  match y, hy, h1, h2 with
  | 0, _, h1, h2 => exact mOk_X0_init
  | 1, _, h1, h2 => exact mOk_X0_search
  | 2, _, h1, h2 => exact mOk_X0_explore
  | 3, _, h1, h2 => exact mOk_X1_init
  | 4, _, h1, h2 => exact mOk_X1_assign
  | 5, _, h1, h2 => exact mOk_X1_fillable
  | 6, _, h1, h2 => exact mOk_X1_explore
  | 7, _, h1, h2 => exact mOk_X2_init
  | 8, _, h1, h2 => exact mOk_X2_wrongHours
  | 9, _, h1, h2 => exact mOk_X2_markStep
  | 10, _, h1, h2 => exact mOk_X3_init
  | 11, _, h1, h2 => exact mOk_X3_clear
  | 12, _, h1, h2 => exact mOk_X3_insert
  | 13, _, h1, h2 => exact mOk_X4_init
  | 14, _, h1, h2 => exact mOk_X4_hourOf
  | 15, _, h1, h2 => exact mOk_X4_spread
  | 16, _, h1, h2 => exact mOk_X5_init
  | 17, _, h1, h2 => exact mOk_X5_sortByLength
  | 18, _, h1, h2 => exact mOk_X5_sortByDue
  | 19, _, h1, h2 => exact mOk_X5_sumOfEnds
  | 20, _, h1, h2 => exact mOk_X5_greatestLateness
  | 21, _, h1, h2 => exact mOk_X5_droppedJobs
  | 22, _, h1, h2 => exact mOk_X5_longestOf
  | 23, _, h1, h2 => exact mOk_X5_hoursOfStep
  | 24, _, h1, h2 => exact mOk_X5_sortForTwo
  | 25, _, h1, h2 => exact mOk_X5_endOnTwo
  | 26, _, h1, h2 => exact mOk_X5_jobOnTwo
  | 27, _, h1, h2 => exact mOk_X6_init
  | 28, _, h1, h2 => exact mOk_X6_search
  | 29, _, h1, h2 => exact mOk_X6_explore
  | 30, _, h1, h2 => exact mOk_X6_hoursBehind
  | 31, _, h1, h2 => exact mOk_X7_init
  | 32, _, h1, h2 => exact mOk_X7_copyFrom
  | 33, _, h1, h2 => exact mOk_X7_copy
  | 34, _, h1, h2 => exact mOk_X7_takeRow
  | 35, _, h1, h2 => exact mOk_X7_newJob
  | 36, _, h1, h2 => exact mOk_X7_newStep
  | 37, _, h1, h2 => exact mOk_X7_newClosure
  | 38, _, h1, h2 => exact mOk_X7_canBeHalved
  | 39, _, h1, h2 => exact mOk_X7_halve
  | 40, _, h1, h2 => exact mOk_X7_stepTotal
  | 41, _, h1, h2 => exact mOk_X7_hoursFrom
  | 42, _, h1, h2 => exact mOk_X7_hoursOn
  | 43, _, h1, h2 => exact mOk_X7_leastHours
  | 44, _, h1, h2 => exact mOk_X7_isClosedIn
  | 45, _, h1, h2 => exact mOk_X7_firstOpen
  | 46, _, h1, h2 => exact mOk_X8_init
  | 47, _, h1, h2 => exact mOk_X8_clear
  | 48, _, h1, h2 => exact mOk_X8_hasLeft
  | 49, _, h1, h2 => exact mOk_X8_endOfStep
  | 50, _, h1, h2 => exact mOk_X8_nextStep
  | 51, _, h1, h2 => exact mOk_X8_readyHour
  | 52, _, h1, h2 => exact mOk_X8_lastOn
  | 53, _, h1, h2 => exact mOk_X8_needsTool
  | 54, _, h1, h2 => exact mOk_X8_hoursBetween
  | 55, _, h1, h2 => exact mOk_X8_firstHour
  | 56, _, h1, h2 => exact mOk_X8_put
  | 57, _, h1, h2 => exact mOk_X8_takeBack
  | 58, _, h1, h2 => exact mOk_X8_replay
  | 59, _, h1, h2 => exact mOk_X8_putDelayed
  | 60, _, h1, h2 => exact mOk_X8_putRushed
  | 61, _, h1, h2 => exact mOk_X8_putBegunIn
  | 62, _, h1, h2 => exact mOk_X8_putRestByRule
  | 63, _, h1, h2 => exact mOk_X8_firstByRule
  | 64, _, h1, h2 => exact mOk_X8_goesAhead
  | 65, _, h1, h2 => exact mOk_X8_nextOf
  | 66, _, h1, h2 => exact mOk_X8_hoursLeft
  | 67, _, h1, h2 => exact mOk_X8_leastEndOf
  | 68, _, h1, h2 => exact mOk_X8_aimed
  | 69, _, h1, h2 => exact mOk_X8_hoursDone
  | 70, _, h1, h2 => exact mOk_X9_init
  | 71, _, h1, h2 => exact mOk_X9_trace
  | 72, _, h1, h2 => exact mOk_X9_latestStep
  | 73, _, h1, h2 => exact mOk_X9_stepAheadOf
  | 74, _, h1, h2 => exact mOk_X10_init
  | 75, _, h1, h2 => exact mOk_X10_close
  | 76, _, h1, h2 => exact mOk_X10_setTool
  | 77, _, h1, h2 => exact mOk_X10_setSetup
  | 78, _, h1, h2 => exact mOk_X10_addJob
  | 79, _, h1, h2 => exact mOk_X10_addStep
  | 80, _, h1, h2 => exact mOk_X10_cut
  | 81, _, h1, h2 => exact mOk_X10_plan
  | 82, _, h1, h2 => exact mOk_X10_tell
  | 83, _, h1, h2 => exact mOk_X10_best
  | 84, _, h1, h2 => exact mOk_X10_swap
  | 85, _, h1, h2 => exact mOk_X10_replan
  | 86, _, h1, h2 => exact mOk_X10_rush
  | 87, _, h1, h2 => exact mOk_X10_setWorker
  | 88, _, h1, h2 => exact mOk_X10_undo
  | 89, _, h1, h2 => exact mOk_X10_jobs
  | 90, _, h1, h2 => exact mOk_X10_jobAt
  | 91, _, h1, h2 => exact mOk_X10_stepAt
  | 92, _, h1, h2 => exact mOk_X10_begin
  | 93, _, h1, h2 => exact mOk_X10_endOf
  | 94, _, h1, h2 => exact mOk_X10_value
  | 95, _, h1, h2 => exact mOk_X10_bound
  | 96, _, h1, h2 => exact mOk_X10_orderAt
  | 97, _, h1, h2 => exact mOk_X10_doneIn
  | 98, _, h1, h2 => exact mOk_X10_wayLength
  | 99, _, h1, h2 => exact mOk_X10_wayAt
  | 100, _, h1, h2 => exact mOk_X10_blocks
  | 101, _, h1, h2 => exact mOk_X10_longestBlock
  | 102, _, h1, h2 => exact mOk_X10_slack
  | 103, _, h1, h2 => exact mOk_X10_delay
  | 104, _, h1, h2 => exact mOk_X10_leastSum
  | 105, _, h1, h2 => exact mOk_X10_leastLateness
  | 106, _, h1, h2 => exact mOk_X10_fewestLate
  | 107, _, h1, h2 => exact mOk_X10_isDropped
  | 108, _, h1, h2 => exact mOk_X10_leastEnd
  | 109, _, h1, h2 => exact mOk_X10_twoAt
  | 110, _, h1, h2 => exact mOk_X10_leastSetup
  | 111, _, h1, h2 => exact mOk_X10_setupAt
  | 112, _, h1, h2 => exact mOk_X10_match
  | 113, _, h1, h2 => exact mOk_X10_workerOf
  | 114, _, h1, h2 => exact mOk_X10_promise
  | 115, _, h1, h2 => exact mOk_X10_worked
  | 116, _, h1, h2 => exact mOk_X10_meanEnd
  | 117, _, h1, h2 => exact mOk_X10_use
  | 118, _, h1, h2 => exact mOk_X10_errors
  | 119, _, h1, h2 => exact mOk_X10_needMachine
  | 120, _, h1, h2 => exact mOk_X10_needKind
  | 121, _, h1, h2 => exact mOk_X10_needJob
  | 122, _, h1, h2 => exact mOk_X10_needStep
  | 123, _, h1, h2 => exact mOk_X10_needPlaceOfJob
  | 124, _, h1, h2 => exact mOk_X10_needRange
  | 125, _, h1, h2 => exact mOk_X10_needRule
  | 126, _, h1, h2 => exact mOk_X10_needAim
  | 127, _, h1, h2 => exact mOk_X10_needMachines
  | 128, _, h1, h2 => exact mOk_X10_needRoomForJob
  | 129, _, h1, h2 => exact mOk_X10_needPlan
  | 130, _, h1, h2 => exact mOk_X10_told
  | 131, _, h1, h2 => exact mOk_X10_remember
  | 132, _, h1, h2 => exact mOk_X10_dropPlan
  | 133, _, h1, h2 => exact mOk_X10_adoptTrial
  | 134, _, h1, h2 => exact mOk_X10_putDigits
  | 135, _, h1, h2 => exact mOk_X10_putSwapped
  | 136, _, h1, h2 => exact mOk_X11_init
  | 137, _, h1, h2 => exact mOk_X11_thrown
  | 138, _, h1, h2 => exact mOk_X11_in
  | 139, _, h1, h2 => exact mOk_X11_fits
  | 140, _, h1, h2 => exact mOk_X11_laysJob
  | 141, _, h1, h2 => exact mOk_X11_laysStep
  | 142, _, h1, h2 => exact mOk_X11_of
  | 143, _, h1, h2 => exact mOk_X11_machineOf
  | 144, _, h1, h2 => exact mOk_X11_hoursOf
  | 145, _, h1, h2 => exact mOk_X11_left
  | 146, _, h1, h2 => exact mOk_X11_length
  | 147, _, h1, h2 => exact mOk_X11_allSteps
  | 148, _, h1, h2 => exact mOk_X11_isJob
  | 149, _, h1, h2 => exact mOk_X11_isStep
  | 150, _, h1, h2 => exact mOk_X11_hasPlan
  | 151, _, h1, h2 => exact mOk_X11_startsPlan
  | 152, _, h1, h2 => exact mOk_X11_open
  | 153, _, h1, h2 => exact mOk_X11_isChanged
  | 154, _, h1, h2 => exact mOk_X11_between
  | 155, _, h1, h2 => exact mOk_X11_beginOf
  | 156, _, h1, h2 => exact mOk_X11_does
  | 157, _, h1, h2 => exact mOk_X11_worksOut
  | 158, _, h1, h2 => exact mOk_X11_works
  | 159, _, h1, h2 => exact mOk_X11_planEnd
  | 160, _, h1, h2 => exact mOk_X11_valueOf
  | 161, _, h1, h2 => exact mOk_X11_isAhead
  | 162, _, h1, h2 => exact mOk_X11_goesByRule
  | 163, _, h1, h2 => exact mOk_X11_puts
  | 164, _, h1, h2 => exact mOk_X11_clearsOrder
  | 165, _, h1, h2 => exact mOk_X11_takesOrder
  | 166, _, h1, h2 => exact mOk_X11_noPlan
  | 167, _, h1, h2 => exact mOk_X11_keeps
  | 168, _, h1, h2 => exact mOk_X11_close
  | 169, _, h1, h2 => exact mOk_X11_setTool
  | 170, _, h1, h2 => exact mOk_X11_setSetup
  | 171, _, h1, h2 => exact mOk_X11_addJob
  | 172, _, h1, h2 => exact mOk_X11_addStep
  | 173, _, h1, h2 => exact mOk_X11_cut
  | 174, _, h1, h2 => exact mOk_X11_plan
  | 175, _, h1, h2 => exact mOk_X11_tell
  | 176, _, h1, h2 => exact mOk_X11_remembers
  | 177, _, h1, h2 => exact mOk_X11_takesBack
  | 178, _, h1, h2 => exact mOk_X11_nextJob
  | 179, _, h1, h2 => exact mOk_X11_best
  | 180, _, h1, h2 => exact mOk_X11_exchanges
  | 181, _, h1, h2 => exact mOk_X11_swap
  | 182, _, h1, h2 => exact mOk_X11_replan
  | 183, _, h1, h2 => exact mOk_X11_laysRushed
  | 184, _, h1, h2 => exact mOk_X11_rush
  | 185, _, h1, h2 => exact mOk_X11_setWorker
  | 186, _, h1, h2 => exact mOk_X11_undo
  | 187, _, h1, h2 => exact mOk_X11_jobs
  | 188, _, h1, h2 => exact mOk_X11_jobAt
  | 189, _, h1, h2 => exact mOk_X11_stepAt
  | 190, _, h1, h2 => exact mOk_X11_isPlanned
  | 191, _, h1, h2 => exact mOk_X11_begin
  | 192, _, h1, h2 => exact mOk_X11_endOf
  | 193, _, h1, h2 => exact mOk_X11_value
  | 194, _, h1, h2 => exact mOk_X11_bound
  | 195, _, h1, h2 => exact mOk_X11_hoursOn
  | 196, _, h1, h2 => exact mOk_X11_orderAt
  | 197, _, h1, h2 => exact mOk_X11_doneIn
  | 198, _, h1, h2 => exact mOk_X11_isDone
  | 199, _, h1, h2 => exact mOk_X11_stepEnd
  | 200, _, h1, h2 => exact mOk_X11_aheadOf
  | 201, _, h1, h2 => exact mOk_X11_readyAt
  | 202, _, h1, h2 => exact mOk_X11_laysWay
  | 203, _, h1, h2 => exact mOk_X11_wayLength
  | 204, _, h1, h2 => exact mOk_X11_wayAt
  | 205, _, h1, h2 => exact mOk_X11_block
  | 206, _, h1, h2 => exact mOk_X11_blocks
  | 207, _, h1, h2 => exact mOk_X11_longestBlock
  | 208, _, h1, h2 => exact mOk_X11_slack
  | 209, _, h1, h2 => exact mOk_X11_delay
  | 210, _, h1, h2 => exact mOk_X11_part
  | 211, _, h1, h2 => exact mOk_X11_goesFirst
  | 212, _, h1, h2 => exact mOk_X11_laysRow
  | 213, _, h1, h2 => exact mOk_X11_leastSum
  | 214, _, h1, h2 => exact mOk_X11_leastLateness
  | 215, _, h1, h2 => exact mOk_X11_dropped
  | 216, _, h1, h2 => exact mOk_X11_fewestLate
  | 217, _, h1, h2 => exact mOk_X11_isDropped
  | 218, _, h1, h2 => exact mOk_X11_leastEnd
  | 219, _, h1, h2 => exact mOk_X11_twoAt
  | 220, _, h1, h2 => exact mOk_X11_nextRow
  | 221, _, h1, h2 => exact mOk_X11_turns
  | 222, _, h1, h2 => exact mOk_X11_setup
  | 223, _, h1, h2 => exact mOk_X11_leastSetup
  | 224, _, h1, h2 => exact mOk_X11_setupAt
  | 225, _, h1, h2 => exact mOk_X11_matches
  | 226, _, h1, h2 => exact mOk_X11_workerIn
  | 227, _, h1, h2 => exact mOk_X11_match
  | 228, _, h1, h2 => exact mOk_X11_workerOf
  | 229, _, h1, h2 => exact mOk_X11_oddsOf
  | 230, _, h1, h2 => exact mOk_X11_promise
  | 231, _, h1, h2 => exact mOk_X11_worked
  | 232, _, h1, h2 => exact mOk_X11_meanEnd
  | 233, _, h1, h2 => exact mOk_X11_use
  | 234, _, h1, h2 => exact mOk_X11_isClosed
  | 235, _, h1, h2 => exact mOk_X11_isWrong
  | 236, _, h1, h2 => exact mOk_X11_errors
  | 237, _, h1, h2 => exact mOk_J6_bitCount_0f7a4
  | 238, _, h1, h2 => exact absurd rfl h1
  | 239, _, h1, h2 => exact absurd rfl h2
  | 240, _, h1, h2 => exact mOk_J7_fill_d0a16
  | 241, _, h1, h2 => exact mOk_J7_fill_53178
  | 242, _, h1, h2 => exact mOk_L_close
  | 243, _, h1, h2 => exact mOk_L_setTool
  | 244, _, h1, h2 => exact mOk_L_setSetup
  | 245, _, h1, h2 => exact mOk_L_addJob
  | 246, _, h1, h2 => exact mOk_L_addStep
  | 247, _, h1, h2 => exact mOk_L_cut
  | 248, _, h1, h2 => exact mOk_L_plan
  | 249, _, h1, h2 => exact mOk_L_tell
  | 250, _, h1, h2 => exact mOk_L_best
  | 251, _, h1, h2 => exact mOk_L_swap
  | 252, _, h1, h2 => exact mOk_L_replan
  | 253, _, h1, h2 => exact mOk_L_rush
  | 254, _, h1, h2 => exact mOk_L_setWorker
  | 255, _, h1, h2 => exact mOk_L_jobAt
  | 256, _, h1, h2 => exact mOk_L_stepAt
  | 257, _, h1, h2 => exact mOk_L_begin
  | 258, _, h1, h2 => exact mOk_L_endOf
  | 259, _, h1, h2 => exact mOk_L_value
  | 260, _, h1, h2 => exact mOk_L_orderAt
  | 261, _, h1, h2 => exact mOk_L_doneIn
  | 262, _, h1, h2 => exact mOk_L_wayLength
  | 263, _, h1, h2 => exact mOk_L_wayAt
  | 264, _, h1, h2 => exact mOk_L_blocks
  | 265, _, h1, h2 => exact mOk_L_longestBlock
  | 266, _, h1, h2 => exact mOk_L_slack
  | 267, _, h1, h2 => exact mOk_L_delay
  | 268, _, h1, h2 => exact mOk_L_isDropped
  | 269, _, h1, h2 => exact mOk_L_twoAt
  | 270, _, h1, h2 => exact mOk_L_setupAt
  | 271, _, h1, h2 => exact mOk_L_match
  | 272, _, h1, h2 => exact mOk_L_workerOf
  | 273, _, h1, h2 => exact mOk_L_promise
  | 274, _, h1, h2 => exact mOk_L_worked
  | 275, _, h1, h2 => exact mOk_L_meanEnd
  | 276, _, h1, h2 => exact mOk_L_use
  | n + 277, h, _, _ => exact absurd h (by omega)
