def TG : List Cond := lw_tbl.filter goodWord
theorem TG_t {x : Cond} (h : x ∈ tables_1) (g : goodWord x = true) : x ∈ TG := List.mem_filter.mpr ⟨List.mem_append_right _ h, g⟩
theorem TG_s {x : Cond} (h : x ∈ k2_sels lw_privs) (g : goodWord x = true) : x ∈ TG := List.mem_filter.mpr ⟨List.mem_append_left _ h, g⟩
theorem TG_good : GoodIn TG TG := fun w hw => ⟨hw, good_of_word (List.mem_filter.mp hw).2⟩
theorem TT_1 {i : Nat} {x : Cond} (h : tables_1_1[i]? = some x) : x ∈ lw_tbl := by
  refine List.mem_append_right _ ?_
  have h := List.mem_of_getElem? h
  unfold tables_1
  exact List.mem_append_left _ h
theorem TG_1 {i : Nat} {x : Cond} (h : tables_1_1[i]? = some x) (g : goodWord x = true) : x ∈ TG := by
  refine TG_t ?_ g
  have h := List.mem_of_getElem? h
  unfold tables_1
  exact List.mem_append_left _ h
theorem TT_2 {i : Nat} {x : Cond} (h : tables_1_2[i]? = some x) : x ∈ lw_tbl := by
  refine List.mem_append_right _ ?_
  have h := List.mem_of_getElem? h
  unfold tables_1
  exact List.mem_append_right _ (List.mem_append_left _ h)
theorem TG_2 {i : Nat} {x : Cond} (h : tables_1_2[i]? = some x) (g : goodWord x = true) : x ∈ TG := by
  refine TG_t ?_ g
  have h := List.mem_of_getElem? h
  unfold tables_1
  exact List.mem_append_right _ (List.mem_append_left _ h)
theorem TT_3 {i : Nat} {x : Cond} (h : tables_1_3[i]? = some x) : x ∈ lw_tbl := by
  refine List.mem_append_right _ ?_
  have h := List.mem_of_getElem? h
  unfold tables_1
  exact List.mem_append_right _ (List.mem_append_right _ (List.mem_append_left _ h))
theorem TG_3 {i : Nat} {x : Cond} (h : tables_1_3[i]? = some x) (g : goodWord x = true) : x ∈ TG := by
  refine TG_t ?_ g
  have h := List.mem_of_getElem? h
  unfold tables_1
  exact List.mem_append_right _ (List.mem_append_right _ (List.mem_append_left _ h))
theorem TT_4 {i : Nat} {x : Cond} (h : tables_1_4[i]? = some x) : x ∈ lw_tbl := by
  refine List.mem_append_right _ ?_
  have h := List.mem_of_getElem? h
  unfold tables_1
  exact List.mem_append_right _ (List.mem_append_right _ (List.mem_append_right _ (List.mem_append_left _ h)))
theorem TG_4 {i : Nat} {x : Cond} (h : tables_1_4[i]? = some x) (g : goodWord x = true) : x ∈ TG := by
  refine TG_t ?_ g
  have h := List.mem_of_getElem? h
  unfold tables_1
  exact List.mem_append_right _ (List.mem_append_right _ (List.mem_append_right _ (List.mem_append_left _ h)))
theorem TT_5 {i : Nat} {x : Cond} (h : tables_1_5[i]? = some x) : x ∈ lw_tbl := by
  refine List.mem_append_right _ ?_
  have h := List.mem_of_getElem? h
  unfold tables_1
  exact List.mem_append_right _ (List.mem_append_right _ (List.mem_append_right _ (List.mem_append_right _ (List.mem_append_left _ h))))
theorem TG_5 {i : Nat} {x : Cond} (h : tables_1_5[i]? = some x) (g : goodWord x = true) : x ∈ TG := by
  refine TG_t ?_ g
  have h := List.mem_of_getElem? h
  unfold tables_1
  exact List.mem_append_right _ (List.mem_append_right _ (List.mem_append_right _ (List.mem_append_right _ (List.mem_append_left _ h))))
theorem TT_6 {i : Nat} {x : Cond} (h : tables_1_6[i]? = some x) : x ∈ lw_tbl := by
  refine List.mem_append_right _ ?_
  have h := List.mem_of_getElem? h
  unfold tables_1
  exact List.mem_append_right _ (List.mem_append_right _ (List.mem_append_right _ (List.mem_append_right _ (List.mem_append_right _ (List.mem_append_left _ h)))))
theorem TG_6 {i : Nat} {x : Cond} (h : tables_1_6[i]? = some x) (g : goodWord x = true) : x ∈ TG := by
  refine TG_t ?_ g
  have h := List.mem_of_getElem? h
  unfold tables_1
  exact List.mem_append_right _ (List.mem_append_right _ (List.mem_append_right _ (List.mem_append_right _ (List.mem_append_right _ (List.mem_append_left _ h)))))
theorem TT_7 {i : Nat} {x : Cond} (h : tables_1_7[i]? = some x) : x ∈ lw_tbl := by
  refine List.mem_append_right _ ?_
  have h := List.mem_of_getElem? h
  unfold tables_1
  exact List.mem_append_right _ (List.mem_append_right _ (List.mem_append_right _ (List.mem_append_right _ (List.mem_append_right _ (List.mem_append_right _ (h))))))
theorem TG_7 {i : Nat} {x : Cond} (h : tables_1_7[i]? = some x) (g : goodWord x = true) : x ∈ TG := by
  refine TG_t ?_ g
  have h := List.mem_of_getElem? h
  unfold tables_1
  exact List.mem_append_right _ (List.mem_append_right _ (List.mem_append_right _ (List.mem_append_right _ (List.mem_append_right _ (List.mem_append_right _ (h))))))
theorem tw_1_0 : (Jvm.Cond.initialized "JobWorkshopLaw") ∈ TG := TG_1 (i := 0) rfl rfl
theorem tw_1_1 : (Jvm.Cond.initialized "JobWorkshop") ∈ TG := TG_1 (i := 1) rfl rfl
theorem tw_1_2 : (Jvm.Cond.initialized "JobWorkshop$Shop") ∈ TG := TG_1 (i := 2) rfl rfl
theorem tw_1_3 : (Jvm.Cond.initialized "JobWorkshop$Timetable") ∈ TG := TG_1 (i := 3) rfl rfl
theorem tw_1_4 : (Jvm.Cond.initialized "JobWorkshop$BestRow") ∈ TG := TG_1 (i := 4) rfl rfl
theorem tw_1_5 : (Jvm.Cond.initialized "JobWorkshop$Way") ∈ TG := TG_1 (i := 5) rfl rfl
theorem tw_1_6 : (Jvm.Cond.initialized "JobWorkshop$HourCheck") ∈ TG := TG_1 (i := 6) rfl rfl
theorem tw_1_7 : (Jvm.Cond.initialized "JobWorkshop$Sequences") ∈ TG := TG_1 (i := 7) rfl rfl
theorem tw_1_8 : (Jvm.Cond.initialized "JobWorkshop$KeyedJobs") ∈ TG := TG_1 (i := 8) rfl rfl
theorem tw_1_9 : (Jvm.Cond.initialized "JobWorkshop$SetupTour") ∈ TG := TG_1 (i := 9) rfl rfl
theorem tw_1_10 : (Jvm.Cond.initialized "JobWorkshop$Crew") ∈ TG := TG_1 (i := 10) rfl rfl
theorem tw_1_11 : (Jvm.Cond.initialized "JobWorkshop$Odds") ∈ TG := TG_1 (i := 11) rfl rfl
theorem tw_1_12 : (Jvm.Cond.initialized "JobWorkshopModel") ∈ TG := TG_1 (i := 12) rfl rfl
theorem tw_1_13 : (Jvm.Cond.initialized "java/lang/Throwable") ∈ TG := TG_1 (i := 13) rfl rfl
theorem tw_1_14 : (Jvm.Cond.initialized "java/lang/Exception") ∈ TG := TG_1 (i := 14) rfl rfl
theorem tw_1_15 : (Jvm.Cond.initialized "java/lang/RuntimeException") ∈ TG := TG_1 (i := 15) rfl rfl
theorem tw_1_16 : (Jvm.Cond.initialized "java/lang/IndexOutOfBoundsException") ∈ TG := TG_1 (i := 16) rfl rfl
theorem tw_1_17 : (Jvm.Cond.initialized "java/lang/IllegalArgumentException") ∈ TG := TG_1 (i := 17) rfl rfl
theorem tw_1_18 : (Jvm.Cond.initialized "java/lang/IllegalStateException") ∈ TG := TG_1 (i := 18) rfl rfl
theorem tw_1_19 : (Jvm.Cond.initialized "java/lang/Math") ∈ TG := TG_1 (i := 19) rfl rfl
theorem tw_1_20 : (Jvm.Cond.initialized "java/lang/System") ∈ TG := TG_1 (i := 20) rfl rfl
theorem tw_1_21 : (Jvm.Cond.initialized "java/util/Arrays") ∈ TG := TG_1 (i := 21) rfl rfl
theorem tw_1_22 : (Jvm.Cond.initialized "java/lang/Integer") ∈ TG := TG_1 (i := 22) rfl rfl
theorem tw_1_23 : (Jvm.Cond.classLink "JobWorkshopLaw" (8 : Nat) "JobWorkshop") ∈ TG := TG_1 (i := 23) rfl rfl
theorem tw_1_24 : (Jvm.Cond.instantiable "JobWorkshop" (15 : Nat)) ∈ TG := TG_1 (i := 24) rfl rfl
theorem tw_1_25 : (Jvm.Cond.methodLink "JobWorkshopLaw" (129 : Nat) ({ cls := "JobWorkshop", name := "<init>", desc := "()V" } : Jvm.MethodName)) ∈ TG := TG_1 (i := 25) rfl rfl
theorem tw_1_26 : (Jvm.Cond.instanceMethod ({ cls := "JobWorkshop", name := "<init>", desc := "()V" } : Jvm.MethodName)) ∈ TG := TG_1 (i := 26) rfl rfl
theorem tw_1_27 : (Jvm.Cond.code ({ cls := "JobWorkshop", name := "<init>", desc := "()V" } : Jvm.MethodName) prog_1_method_1_code (4 : Nat) (Option.none : Option Jvm.ClassFile.FieldType)) ∈ TG := TG_1 (i := 27) rfl rfl
theorem tw_1_28 : (Jvm.Cond.methodLink "JobWorkshop" (3 : Nat) ({ cls := "java/lang/Object", name := "<init>", desc := "()V" } : Jvm.MethodName)) ∈ TG := TG_1 (i := 28) rfl rfl
theorem tw_1_29 : (Jvm.Cond.instanceMethod ({ cls := "java/lang/Object", name := "<init>", desc := "()V" } : Jvm.MethodName)) ∈ TG := TG_1 (i := 29) rfl rfl
theorem tw_1_30 : (Jvm.Cond.code ({ cls := "java/lang/Object", name := "<init>", desc := "()V" } : Jvm.MethodName) object_method_1_code (1 : Nat) (Option.none : Option Jvm.ClassFile.FieldType)) ∈ TG := TG_1 (i := 30) rfl rfl
theorem tw_1_31 : (Jvm.Cond.classLink "JobWorkshop" (9 : Nat) "JobWorkshop$Shop") ∈ TG := TG_1 (i := 31) rfl rfl
theorem tw_1_32 : (Jvm.Cond.instantiable "JobWorkshop$Shop" (17 : Nat)) ∈ TG := TG_1 (i := 32) rfl rfl
theorem tt_1_33 : (Jvm.Cond.methodLinkNest "JobWorkshop" (11 : Nat) ({ cls := "JobWorkshop$Shop", name := "<init>", desc := "()V" } : Jvm.MethodName) "JobWorkshop") ∈ lw_tbl := TT_1 (i := 33) rfl
theorem tw_1_34 : (Jvm.Cond.instanceMethod ({ cls := "JobWorkshop$Shop", name := "<init>", desc := "()V" } : Jvm.MethodName)) ∈ TG := TG_1 (i := 34) rfl rfl
theorem tw_1_35 : (Jvm.Cond.code ({ cls := "JobWorkshop$Shop", name := "<init>", desc := "()V" } : Jvm.MethodName) prog_9_method_1_code (1 : Nat) (Option.none : Option Jvm.ClassFile.FieldType)) ∈ TG := TG_1 (i := 35) rfl rfl
theorem tw_1_36 : (Jvm.Cond.methodLink "JobWorkshop$Shop" (3 : Nat) ({ cls := "java/lang/Object", name := "<init>", desc := "()V" } : Jvm.MethodName)) ∈ TG := TG_1 (i := 36) rfl rfl
theorem tw_1_37 : (Jvm.Cond.fieldLink "JobWorkshop$Shop" (57 : Nat) "JobWorkshop$Shop" "jobs" "I") ∈ TG := TG_1 (i := 37) rfl rfl
theorem tw_1_38 : (Jvm.Cond.fieldLink "JobWorkshop$Sequences" (25 : Nat) "JobWorkshop$Shop" "jobs" "I") ∈ TG := TG_1 (i := 38) rfl rfl
theorem tw_1_39 : (Jvm.Cond.fieldLink "JobWorkshop$HourCheck" (29 : Nat) "JobWorkshop$Shop" "jobs" "I") ∈ TG := TG_1 (i := 39) rfl rfl
theorem tw_1_40 : (Jvm.Cond.fieldLink "JobWorkshop$Timetable" (50 : Nat) "JobWorkshop$Shop" "jobs" "I") ∈ TG := TG_1 (i := 40) rfl rfl
theorem tw_1_41 : (Jvm.Cond.fieldLink "JobWorkshop$Way" (52 : Nat) "JobWorkshop$Shop" "jobs" "I") ∈ TG := TG_1 (i := 41) rfl rfl
theorem tw_1_42 : (Jvm.Cond.fieldLink "JobWorkshop$SetupTour" (34 : Nat) "JobWorkshop$Shop" "jobs" "I") ∈ TG := TG_1 (i := 42) rfl rfl
theorem tw_1_43 : (Jvm.Cond.fieldLink "JobWorkshop$BestRow" (69 : Nat) "JobWorkshop$Shop" "jobs" "I") ∈ TG := TG_1 (i := 43) rfl rfl
theorem tw_1_44 : (Jvm.Cond.fieldLink "JobWorkshop" (239 : Nat) "JobWorkshop$Shop" "jobs" "I") ∈ TG := TG_1 (i := 44) rfl rfl
theorem tw_1_45 : (Jvm.Cond.fieldLink "JobWorkshop$Shop" (9 : Nat) "JobWorkshop$Shop" "release" "[I") ∈ TG := TG_1 (i := 45) rfl rfl
theorem tw_1_46 : (Jvm.Cond.fieldLink "JobWorkshop$Odds" (36 : Nat) "JobWorkshop$Shop" "release" "[I") ∈ TG := TG_1 (i := 46) rfl rfl
theorem tw_1_47 : (Jvm.Cond.fieldLink "JobWorkshop$Timetable" (61 : Nat) "JobWorkshop$Shop" "release" "[I") ∈ TG := TG_1 (i := 47) rfl rfl
theorem tw_1_48 : (Jvm.Cond.fieldLink "JobWorkshop" (242 : Nat) "JobWorkshop$Shop" "release" "[I") ∈ TG := TG_1 (i := 48) rfl rfl
theorem tw_1_49 : (Jvm.Cond.fieldLink "JobWorkshop$Shop" (15 : Nat) "JobWorkshop$Shop" "due" "[I") ∈ TG := TG_1 (i := 49) rfl rfl
theorem tw_1_50 : (Jvm.Cond.fieldLink "JobWorkshop$Sequences" (39 : Nat) "JobWorkshop$Shop" "due" "[I") ∈ TG := TG_1 (i := 50) rfl rfl
theorem tw_1_51 : (Jvm.Cond.fieldLink "JobWorkshop" (245 : Nat) "JobWorkshop$Shop" "due" "[I") ∈ TG := TG_1 (i := 51) rfl rfl
theorem tw_1_52 : (Jvm.Cond.fieldLink "JobWorkshop$Timetable" (142 : Nat) "JobWorkshop$Shop" "due" "[I") ∈ TG := TG_1 (i := 52) rfl rfl
theorem tw_1_53 : (Jvm.Cond.fieldLink "JobWorkshop$Shop" (18 : Nat) "JobWorkshop$Shop" "weight" "[I") ∈ TG := TG_1 (i := 53) rfl rfl
theorem tw_1_54 : (Jvm.Cond.fieldLink "JobWorkshop" (248 : Nat) "JobWorkshop$Shop" "weight" "[I") ∈ TG := TG_1 (i := 54) rfl rfl
theorem tw_1_55 : (Jvm.Cond.fieldLink "JobWorkshop$Timetable" (145 : Nat) "JobWorkshop$Shop" "weight" "[I") ∈ TG := TG_1 (i := 55) rfl rfl
theorem tw_1_56 : (Jvm.Cond.fieldLink "JobWorkshop$Shop" (21 : Nat) "JobWorkshop$Shop" "kind" "[I") ∈ TG := TG_1 (i := 56) rfl rfl
theorem tw_1_57 : (Jvm.Cond.fieldLink "JobWorkshop$SetupTour" (52 : Nat) "JobWorkshop$Shop" "kind" "[I") ∈ TG := TG_1 (i := 57) rfl rfl
theorem tw_1_58 : (Jvm.Cond.fieldLink "JobWorkshop$Timetable" (80 : Nat) "JobWorkshop$Shop" "kind" "[I") ∈ TG := TG_1 (i := 58) rfl rfl
theorem tw_1_59 : (Jvm.Cond.fieldLink "JobWorkshop" (251 : Nat) "JobWorkshop$Shop" "kind" "[I") ∈ TG := TG_1 (i := 59) rfl rfl
theorem tw_1_60 : (Jvm.Cond.fieldLink "JobWorkshop$Shop" (24 : Nat) "JobWorkshop$Shop" "steps" "[I") ∈ TG := TG_1 (i := 60) rfl rfl
theorem tw_1_61 : (Jvm.Cond.fieldLink "JobWorkshop$HourCheck" (35 : Nat) "JobWorkshop$Shop" "steps" "[I") ∈ TG := TG_1 (i := 61) rfl rfl
theorem tw_1_62 : (Jvm.Cond.fieldLink "JobWorkshop$Timetable" (55 : Nat) "JobWorkshop$Shop" "steps" "[I") ∈ TG := TG_1 (i := 62) rfl rfl
theorem tw_1_63 : (Jvm.Cond.fieldLink "JobWorkshop$Odds" (49 : Nat) "JobWorkshop$Shop" "steps" "[I") ∈ TG := TG_1 (i := 63) rfl rfl
theorem tw_1_64 : (Jvm.Cond.fieldLink "JobWorkshop" (146 : Nat) "JobWorkshop$Shop" "steps" "[I") ∈ TG := TG_1 (i := 64) rfl rfl
theorem tw_1_65 : (Jvm.Cond.fieldLink "JobWorkshop$Sequences" (63 : Nat) "JobWorkshop$Shop" "steps" "[I") ∈ TG := TG_1 (i := 65) rfl rfl
theorem tw_1_66 : (Jvm.Cond.fieldLink "JobWorkshop$Shop" (27 : Nat) "JobWorkshop$Shop" "machineOf" "[I") ∈ TG := TG_1 (i := 66) rfl rfl
theorem tw_1_67 : (Jvm.Cond.fieldLink "JobWorkshop$Way" (37 : Nat) "JobWorkshop$Shop" "machineOf" "[I") ∈ TG := TG_1 (i := 67) rfl rfl
theorem tw_1_68 : (Jvm.Cond.fieldLink "JobWorkshop$HourCheck" (42 : Nat) "JobWorkshop$Shop" "machineOf" "[I") ∈ TG := TG_1 (i := 68) rfl rfl
theorem tw_1_69 : (Jvm.Cond.fieldLink "JobWorkshop$Timetable" (74 : Nat) "JobWorkshop$Shop" "machineOf" "[I") ∈ TG := TG_1 (i := 69) rfl rfl
theorem tw_1_70 : (Jvm.Cond.fieldLink "JobWorkshop" (262 : Nat) "JobWorkshop$Shop" "machineOf" "[I") ∈ TG := TG_1 (i := 70) rfl rfl
theorem tw_1_71 : (Jvm.Cond.fieldLink "JobWorkshop$Shop" (30 : Nat) "JobWorkshop$Shop" "hoursOf" "[I") ∈ TG := TG_1 (i := 71) rfl rfl
theorem tw_1_72 : (Jvm.Cond.fieldLink "JobWorkshop$Odds" (52 : Nat) "JobWorkshop$Shop" "hoursOf" "[I") ∈ TG := TG_1 (i := 72) rfl rfl
theorem tw_1_73 : (Jvm.Cond.fieldLink "JobWorkshop$Timetable" (58 : Nat) "JobWorkshop$Shop" "hoursOf" "[I") ∈ TG := TG_1 (i := 73) rfl rfl
theorem tw_1_74 : (Jvm.Cond.fieldLink "JobWorkshop$Sequences" (66 : Nat) "JobWorkshop$Shop" "hoursOf" "[I") ∈ TG := TG_1 (i := 74) rfl rfl
theorem tw_1_75 : (Jvm.Cond.fieldLink "JobWorkshop" (265 : Nat) "JobWorkshop$Shop" "hoursOf" "[I") ∈ TG := TG_1 (i := 75) rfl rfl
theorem tw_1_76 : (Jvm.Cond.fieldLink "JobWorkshop$Shop" (33 : Nat) "JobWorkshop$Shop" "closures" "[I") ∈ TG := TG_1 (i := 76) rfl rfl
theorem tw_1_77 : (Jvm.Cond.fieldLink "JobWorkshop" (106 : Nat) "JobWorkshop$Shop" "closures" "[I") ∈ TG := TG_1 (i := 77) rfl rfl
theorem tw_1_78 : (Jvm.Cond.fieldLink "JobWorkshop$Shop" (36 : Nat) "JobWorkshop$Shop" "closedFrom" "[I") ∈ TG := TG_1 (i := 78) rfl rfl
theorem tw_1_79 : (Jvm.Cond.fieldLink "JobWorkshop$Shop" (39 : Nat) "JobWorkshop$Shop" "closedTo" "[I") ∈ TG := TG_1 (i := 79) rfl rfl
theorem tw_1_80 : (Jvm.Cond.fieldLink "JobWorkshop$Shop" (42 : Nat) "JobWorkshop$Shop" "life" "[I") ∈ TG := TG_1 (i := 80) rfl rfl
theorem tw_1_81 : (Jvm.Cond.fieldLink "JobWorkshop" (125 : Nat) "JobWorkshop$Shop" "life" "[I") ∈ TG := TG_1 (i := 81) rfl rfl
theorem tw_1_82 : (Jvm.Cond.fieldLink "JobWorkshop$Timetable" (71 : Nat) "JobWorkshop$Shop" "life" "[I") ∈ TG := TG_1 (i := 82) rfl rfl
theorem tw_1_83 : (Jvm.Cond.fieldLink "JobWorkshop$Shop" (45 : Nat) "JobWorkshop$Shop" "change" "[I") ∈ TG := TG_1 (i := 83) rfl rfl
theorem tw_1_84 : (Jvm.Cond.fieldLink "JobWorkshop" (128 : Nat) "JobWorkshop$Shop" "change" "[I") ∈ TG := TG_1 (i := 84) rfl rfl
theorem tw_1_85 : (Jvm.Cond.fieldLink "JobWorkshop$Timetable" (87 : Nat) "JobWorkshop$Shop" "change" "[I") ∈ TG := TG_1 (i := 85) rfl rfl
theorem tw_1_86 : (Jvm.Cond.fieldLink "JobWorkshop$Shop" (48 : Nat) "JobWorkshop$Shop" "setup" "[I") ∈ TG := TG_1 (i := 86) rfl rfl
theorem tw_1_87 : (Jvm.Cond.fieldLink "JobWorkshop$SetupTour" (49 : Nat) "JobWorkshop$Shop" "setup" "[I") ∈ TG := TG_1 (i := 87) rfl rfl
theorem tw_1_88 : (Jvm.Cond.fieldLink "JobWorkshop" (134 : Nat) "JobWorkshop$Shop" "setup" "[I") ∈ TG := TG_1 (i := 88) rfl rfl
theorem tw_1_89 : (Jvm.Cond.fieldLink "JobWorkshop$Timetable" (77 : Nat) "JobWorkshop$Shop" "setup" "[I") ∈ TG := TG_1 (i := 89) rfl rfl
theorem tw_1_90 : (Jvm.Cond.fieldLink "JobWorkshop$Shop" (51 : Nat) "JobWorkshop$Shop" "skills" "[I") ∈ TG := TG_1 (i := 90) rfl rfl
theorem tw_1_91 : (Jvm.Cond.fieldLink "JobWorkshop$Crew" (34 : Nat) "JobWorkshop$Shop" "skills" "[I") ∈ TG := TG_1 (i := 91) rfl rfl
theorem tw_1_92 : (Jvm.Cond.fieldLink "JobWorkshop" (226 : Nat) "JobWorkshop$Shop" "skills" "[I") ∈ TG := TG_1 (i := 92) rfl rfl
theorem tw_1_93 : (Jvm.Cond.fieldLink "JobWorkshop$Shop" (65 : Nat) "JobWorkshop$Shop" "planned" "Z") ∈ TG := TG_1 (i := 93) rfl rfl
theorem tw_1_94 : (Jvm.Cond.fieldLink "JobWorkshop$Timetable" (119 : Nat) "JobWorkshop$Shop" "planned" "Z") ∈ TG := TG_1 (i := 94) rfl rfl
theorem tw_1_95 : (Jvm.Cond.fieldLink "JobWorkshop" (354 : Nat) "JobWorkshop$Shop" "planned" "Z") ∈ TG := TG_1 (i := 95) rfl rfl
theorem tw_1_96 : (Jvm.Cond.fieldLink "JobWorkshop$Shop" (54 : Nat) "JobWorkshop$Shop" "row" "[I") ∈ TG := TG_1 (i := 96) rfl rfl
theorem tw_1_97 : (Jvm.Cond.fieldLink "JobWorkshop$Timetable" (131 : Nat) "JobWorkshop$Shop" "row" "[I") ∈ TG := TG_1 (i := 97) rfl rfl
theorem tw_1_98 : (Jvm.Cond.lays "JobWorkshop$Shop" "JobWorkshop$Shop" "jobs" "I") ∈ TG := TG_1 (i := 98) rfl rfl
theorem tw_1_100 : (Jvm.Cond.laysFinal "JobWorkshop$Shop" "JobWorkshop$Shop" "release" "[I") ∈ TG := TG_1 (i := 100) rfl rfl
theorem tw_1_102 : (Jvm.Cond.laysFinal "JobWorkshop$Shop" "JobWorkshop$Shop" "due" "[I") ∈ TG := TG_1 (i := 102) rfl rfl
theorem tw_1_104 : (Jvm.Cond.laysFinal "JobWorkshop$Shop" "JobWorkshop$Shop" "weight" "[I") ∈ TG := TG_1 (i := 104) rfl rfl
theorem tw_1_106 : (Jvm.Cond.laysFinal "JobWorkshop$Shop" "JobWorkshop$Shop" "kind" "[I") ∈ TG := TG_1 (i := 106) rfl rfl
theorem tw_1_108 : (Jvm.Cond.laysFinal "JobWorkshop$Shop" "JobWorkshop$Shop" "steps" "[I") ∈ TG := TG_1 (i := 108) rfl rfl
theorem tw_1_110 : (Jvm.Cond.laysFinal "JobWorkshop$Shop" "JobWorkshop$Shop" "machineOf" "[I") ∈ TG := TG_1 (i := 110) rfl rfl
theorem tw_1_112 : (Jvm.Cond.laysFinal "JobWorkshop$Shop" "JobWorkshop$Shop" "hoursOf" "[I") ∈ TG := TG_1 (i := 112) rfl rfl
theorem tw_1_114 : (Jvm.Cond.laysFinal "JobWorkshop$Shop" "JobWorkshop$Shop" "closures" "[I") ∈ TG := TG_1 (i := 114) rfl rfl
theorem tw_1_116 : (Jvm.Cond.laysFinal "JobWorkshop$Shop" "JobWorkshop$Shop" "closedFrom" "[I") ∈ TG := TG_1 (i := 116) rfl rfl
theorem tw_1_118 : (Jvm.Cond.laysFinal "JobWorkshop$Shop" "JobWorkshop$Shop" "closedTo" "[I") ∈ TG := TG_1 (i := 118) rfl rfl
theorem tw_1_120 : (Jvm.Cond.laysFinal "JobWorkshop$Shop" "JobWorkshop$Shop" "life" "[I") ∈ TG := TG_1 (i := 120) rfl rfl
theorem tw_1_122 : (Jvm.Cond.laysFinal "JobWorkshop$Shop" "JobWorkshop$Shop" "change" "[I") ∈ TG := TG_1 (i := 122) rfl rfl
theorem tw_1_124 : (Jvm.Cond.laysFinal "JobWorkshop$Shop" "JobWorkshop$Shop" "setup" "[I") ∈ TG := TG_1 (i := 124) rfl rfl
theorem tw_1_126 : (Jvm.Cond.laysFinal "JobWorkshop$Shop" "JobWorkshop$Shop" "skills" "[I") ∈ TG := TG_1 (i := 126) rfl rfl
theorem tw_1_128 : (Jvm.Cond.lays "JobWorkshop$Shop" "JobWorkshop$Shop" "planned" "Z") ∈ TG := TG_1 (i := 128) rfl rfl
theorem tw_1_130 : (Jvm.Cond.laysFinal "JobWorkshop$Shop" "JobWorkshop$Shop" "row" "[I") ∈ TG := TG_1 (i := 130) rfl rfl
theorem tw_1_132 : (Jvm.Cond.superclass "JobWorkshop$Shop" "java/lang/Object") ∈ TG := TG_1 (i := 132) rfl rfl
theorem tw_1_133 : (Jvm.Cond.arrayClass Jvm.ClassFile.FieldType.int) ∈ TG := TG_1 (i := 133) rfl rfl
theorem tw_1_134 : (Jvm.Cond.classLink "JobWorkshop" (16 : Nat) "JobWorkshop$Timetable") ∈ TG := TG_1 (i := 134) rfl rfl
theorem tw_1_135 : (Jvm.Cond.instantiable "JobWorkshop$Timetable" (10 : Nat)) ∈ TG := TG_1 (i := 135) rfl rfl
theorem tw_1_136 : (Jvm.Cond.methodLink "JobWorkshop" (18 : Nat) ({ cls := "JobWorkshop$Timetable", name := "<init>", desc := "(LJobWorkshop$Shop;)V" } : Jvm.MethodName)) ∈ TG := TG_1 (i := 136) rfl rfl
theorem tw_1_137 : (Jvm.Cond.instanceMethod ({ cls := "JobWorkshop$Timetable", name := "<init>", desc := "(LJobWorkshop$Shop;)V" } : Jvm.MethodName)) ∈ TG := TG_1 (i := 137) rfl rfl
theorem tw_1_138 : (Jvm.Cond.code ({ cls := "JobWorkshop$Timetable", name := "<init>", desc := "(LJobWorkshop$Shop;)V" } : Jvm.MethodName) prog_10_method_1_code (2 : Nat) (Option.none : Option Jvm.ClassFile.FieldType)) ∈ TG := TG_1 (i := 138) rfl rfl
theorem tw_1_139 : (Jvm.Cond.methodLink "JobWorkshop$Timetable" (3 : Nat) ({ cls := "java/lang/Object", name := "<init>", desc := "()V" } : Jvm.MethodName)) ∈ TG := TG_1 (i := 139) rfl rfl
theorem tw_1_140 : (Jvm.Cond.fieldLink "JobWorkshop$Timetable" (36 : Nat) "JobWorkshop$Timetable" "shop" "LJobWorkshop$Shop;") ∈ TG := TG_1 (i := 140) rfl rfl
theorem tw_1_141 : (Jvm.Cond.fieldLink "JobWorkshop$Timetable" (40 : Nat) "JobWorkshop$Timetable" "length" "I") ∈ TG := TG_1 (i := 141) rfl rfl
theorem tw_1_142 : (Jvm.Cond.fieldLink "JobWorkshop$Timetable" (9 : Nat) "JobWorkshop$Timetable" "row" "[I") ∈ TG := TG_1 (i := 142) rfl rfl
theorem tw_1_143 : (Jvm.Cond.fieldLink "JobWorkshop$BestRow" (62 : Nat) "JobWorkshop$Timetable" "row" "[I") ∈ TG := TG_1 (i := 143) rfl rfl
theorem tw_1_144 : (Jvm.Cond.fieldLink "JobWorkshop" (380 : Nat) "JobWorkshop$Timetable" "row" "[I") ∈ TG := TG_1 (i := 144) rfl rfl
theorem tw_1_145 : (Jvm.Cond.fieldLink "JobWorkshop$Timetable" (15 : Nat) "JobWorkshop$Timetable" "putOf" "[I") ∈ TG := TG_1 (i := 145) rfl rfl
theorem tw_1_146 : (Jvm.Cond.fieldLink "JobWorkshop$Way" (55 : Nat) "JobWorkshop$Timetable" "putOf" "[I") ∈ TG := TG_1 (i := 146) rfl rfl
theorem tw_1_147 : (Jvm.Cond.fieldLink "JobWorkshop$Timetable" (18 : Nat) "JobWorkshop$Timetable" "count" "[I") ∈ TG := TG_1 (i := 147) rfl rfl
theorem tw_1_148 : (Jvm.Cond.fieldLink "JobWorkshop" (197 : Nat) "JobWorkshop$Timetable" "count" "[I") ∈ TG := TG_1 (i := 148) rfl rfl
theorem tw_1_149 : (Jvm.Cond.fieldLink "JobWorkshop$Timetable" (21 : Nat) "JobWorkshop$Timetable" "order" "[I") ∈ TG := TG_1 (i := 149) rfl rfl
theorem tw_1_150 : (Jvm.Cond.fieldLink "JobWorkshop" (279 : Nat) "JobWorkshop$Timetable" "order" "[I") ∈ TG := TG_1 (i := 150) rfl rfl
theorem tw_1_151 : (Jvm.Cond.fieldLink "JobWorkshop$Timetable" (24 : Nat) "JobWorkshop$Timetable" "begin" "[I") ∈ TG := TG_1 (i := 151) rfl rfl
theorem tw_1_152 : (Jvm.Cond.fieldLink "JobWorkshop$HourCheck" (57 : Nat) "JobWorkshop$Timetable" "begin" "[I") ∈ TG := TG_1 (i := 152) rfl rfl
theorem tw_1_153 : (Jvm.Cond.fieldLink "JobWorkshop$Way" (63 : Nat) "JobWorkshop$Timetable" "begin" "[I") ∈ TG := TG_1 (i := 153) rfl rfl
theorem tw_1_154 : (Jvm.Cond.fieldLink "JobWorkshop" (268 : Nat) "JobWorkshop$Timetable" "begin" "[I") ∈ TG := TG_1 (i := 154) rfl rfl
theorem tw_1_155 : (Jvm.Cond.fieldLink "JobWorkshop$Timetable" (27 : Nat) "JobWorkshop$Timetable" "ahead" "[I") ∈ TG := TG_1 (i := 155) rfl rfl
theorem tw_1_156 : (Jvm.Cond.fieldLink "JobWorkshop$Way" (66 : Nat) "JobWorkshop$Timetable" "ahead" "[I") ∈ TG := TG_1 (i := 156) rfl rfl
theorem tw_1_157 : (Jvm.Cond.fieldLink "JobWorkshop$Timetable" (30 : Nat) "JobWorkshop$Timetable" "between" "[I") ∈ TG := TG_1 (i := 157) rfl rfl
theorem tw_1_158 : (Jvm.Cond.fieldLink "JobWorkshop$Way" (69 : Nat) "JobWorkshop$Timetable" "between" "[I") ∈ TG := TG_1 (i := 158) rfl rfl
theorem tw_1_159 : (Jvm.Cond.fieldLink "JobWorkshop$Timetable" (33 : Nat) "JobWorkshop$Timetable" "wear" "[I") ∈ TG := TG_1 (i := 159) rfl rfl
theorem tw_1_160 : (Jvm.Cond.laysFinal "JobWorkshop$Timetable" "JobWorkshop$Timetable" "shop" "LJobWorkshop$Shop;") ∈ TG := TG_1 (i := 160) rfl rfl
theorem tw_1_162 : (Jvm.Cond.lays "JobWorkshop$Timetable" "JobWorkshop$Timetable" "length" "I") ∈ TG := TG_1 (i := 162) rfl rfl
theorem tw_1_164 : (Jvm.Cond.laysFinal "JobWorkshop$Timetable" "JobWorkshop$Timetable" "row" "[I") ∈ TG := TG_1 (i := 164) rfl rfl
theorem tw_1_166 : (Jvm.Cond.laysFinal "JobWorkshop$Timetable" "JobWorkshop$Timetable" "putOf" "[I") ∈ TG := TG_1 (i := 166) rfl rfl
theorem tw_1_168 : (Jvm.Cond.laysFinal "JobWorkshop$Timetable" "JobWorkshop$Timetable" "count" "[I") ∈ TG := TG_1 (i := 168) rfl rfl
theorem tw_1_170 : (Jvm.Cond.laysFinal "JobWorkshop$Timetable" "JobWorkshop$Timetable" "order" "[I") ∈ TG := TG_1 (i := 170) rfl rfl
theorem tw_1_172 : (Jvm.Cond.laysFinal "JobWorkshop$Timetable" "JobWorkshop$Timetable" "begin" "[I") ∈ TG := TG_1 (i := 172) rfl rfl
theorem tw_1_174 : (Jvm.Cond.laysFinal "JobWorkshop$Timetable" "JobWorkshop$Timetable" "ahead" "[I") ∈ TG := TG_1 (i := 174) rfl rfl
theorem tw_1_176 : (Jvm.Cond.laysFinal "JobWorkshop$Timetable" "JobWorkshop$Timetable" "between" "[I") ∈ TG := TG_1 (i := 176) rfl rfl
theorem tw_1_178 : (Jvm.Cond.laysFinal "JobWorkshop$Timetable" "JobWorkshop$Timetable" "wear" "[I") ∈ TG := TG_1 (i := 178) rfl rfl
theorem tw_1_180 : (Jvm.Cond.superclass "JobWorkshop$Timetable" "java/lang/Object") ∈ TG := TG_1 (i := 180) rfl rfl
theorem tt_1_181 : (Jvm.Cond.arrayOver (Jvm.ClassFile.FieldType.object "JobWorkshop$Shop")) ∈ lw_tbl := TT_1 (i := 181) rfl
theorem tw_1_182 : (Jvm.Cond.classLink "JobWorkshop" (39 : Nat) "JobWorkshop$BestRow") ∈ TG := TG_1 (i := 182) rfl rfl
theorem tw_1_183 : (Jvm.Cond.instantiable "JobWorkshop$BestRow" (6 : Nat)) ∈ TG := TG_1 (i := 183) rfl rfl
theorem tw_1_184 : (Jvm.Cond.methodLink "JobWorkshop" (41 : Nat) ({ cls := "JobWorkshop$BestRow", name := "<init>", desc := "(LJobWorkshop$Shop;LJobWorkshop$Timetable;)V" } : Jvm.MethodName)) ∈ TG := TG_1 (i := 184) rfl rfl
theorem tw_1_185 : (Jvm.Cond.instanceMethod ({ cls := "JobWorkshop$BestRow", name := "<init>", desc := "(LJobWorkshop$Shop;LJobWorkshop$Timetable;)V" } : Jvm.MethodName)) ∈ TG := TG_1 (i := 185) rfl rfl
theorem tw_1_186 : (Jvm.Cond.code ({ cls := "JobWorkshop$BestRow", name := "<init>", desc := "(LJobWorkshop$Shop;LJobWorkshop$Timetable;)V" } : Jvm.MethodName) prog_2_method_1_code (3 : Nat) (Option.none : Option Jvm.ClassFile.FieldType)) ∈ TG := TG_1 (i := 186) rfl rfl
theorem tw_1_187 : (Jvm.Cond.methodLink "JobWorkshop$BestRow" (3 : Nat) ({ cls := "java/lang/Object", name := "<init>", desc := "()V" } : Jvm.MethodName)) ∈ TG := TG_1 (i := 187) rfl rfl
theorem tw_1_188 : (Jvm.Cond.fieldLink "JobWorkshop$BestRow" (15 : Nat) "JobWorkshop$BestRow" "shop" "LJobWorkshop$Shop;") ∈ TG := TG_1 (i := 188) rfl rfl
theorem tw_1_189 : (Jvm.Cond.fieldLink "JobWorkshop$BestRow" (19 : Nat) "JobWorkshop$BestRow" "trial" "LJobWorkshop$Timetable;") ∈ TG := TG_1 (i := 189) rfl rfl
theorem tw_1_190 : (Jvm.Cond.fieldLink "JobWorkshop$BestRow" (9 : Nat) "JobWorkshop$BestRow" "row" "[I") ∈ TG := TG_1 (i := 190) rfl rfl
theorem tw_1_191 : (Jvm.Cond.fieldLink "JobWorkshop$BestRow" (35 : Nat) "JobWorkshop$BestRow" "total" "I") ∈ TG := TG_1 (i := 191) rfl rfl
theorem tw_1_192 : (Jvm.Cond.fieldLink "JobWorkshop$BestRow" (59 : Nat) "JobWorkshop$BestRow" "least" "I") ∈ TG := TG_1 (i := 192) rfl rfl
theorem tw_1_193 : (Jvm.Cond.fieldLink "JobWorkshop$BestRow" (39 : Nat) "JobWorkshop$BestRow" "found" "Z") ∈ TG := TG_1 (i := 193) rfl rfl
theorem tw_1_194 : (Jvm.Cond.laysFinal "JobWorkshop$BestRow" "JobWorkshop$BestRow" "shop" "LJobWorkshop$Shop;") ∈ TG := TG_1 (i := 194) rfl rfl
theorem tw_1_196 : (Jvm.Cond.laysFinal "JobWorkshop$BestRow" "JobWorkshop$BestRow" "trial" "LJobWorkshop$Timetable;") ∈ TG := TG_1 (i := 196) rfl rfl
theorem tw_1_198 : (Jvm.Cond.laysFinal "JobWorkshop$BestRow" "JobWorkshop$BestRow" "row" "[I") ∈ TG := TG_1 (i := 198) rfl rfl
theorem tw_1_200 : (Jvm.Cond.lays "JobWorkshop$BestRow" "JobWorkshop$BestRow" "total" "I") ∈ TG := TG_1 (i := 200) rfl rfl
theorem tw_1_202 : (Jvm.Cond.lays "JobWorkshop$BestRow" "JobWorkshop$BestRow" "least" "I") ∈ TG := TG_1 (i := 202) rfl rfl
theorem tw_1_204 : (Jvm.Cond.lays "JobWorkshop$BestRow" "JobWorkshop$BestRow" "found" "Z") ∈ TG := TG_1 (i := 204) rfl rfl
theorem tw_1_206 : (Jvm.Cond.superclass "JobWorkshop$BestRow" "java/lang/Object") ∈ TG := TG_1 (i := 206) rfl rfl
theorem tw_1_207 : (Jvm.Cond.classLink "JobWorkshop" (48 : Nat) "JobWorkshop$Way") ∈ TG := TG_1 (i := 207) rfl rfl
theorem tw_1_208 : (Jvm.Cond.instantiable "JobWorkshop$Way" (6 : Nat)) ∈ TG := TG_1 (i := 208) rfl rfl
theorem tw_1_209 : (Jvm.Cond.methodLink "JobWorkshop" (50 : Nat) ({ cls := "JobWorkshop$Way", name := "<init>", desc := "(LJobWorkshop$Shop;LJobWorkshop$Timetable;)V" } : Jvm.MethodName)) ∈ TG := TG_1 (i := 209) rfl rfl
theorem tw_1_210 : (Jvm.Cond.instanceMethod ({ cls := "JobWorkshop$Way", name := "<init>", desc := "(LJobWorkshop$Shop;LJobWorkshop$Timetable;)V" } : Jvm.MethodName)) ∈ TG := TG_1 (i := 210) rfl rfl
theorem tw_1_211 : (Jvm.Cond.code ({ cls := "JobWorkshop$Way", name := "<init>", desc := "(LJobWorkshop$Shop;LJobWorkshop$Timetable;)V" } : Jvm.MethodName) prog_11_method_1_code (3 : Nat) (Option.none : Option Jvm.ClassFile.FieldType)) ∈ TG := TG_1 (i := 211) rfl rfl
theorem tw_1_212 : (Jvm.Cond.methodLink "JobWorkshop$Way" (3 : Nat) ({ cls := "java/lang/Object", name := "<init>", desc := "()V" } : Jvm.MethodName)) ∈ TG := TG_1 (i := 212) rfl rfl
theorem tw_1_213 : (Jvm.Cond.fieldLink "JobWorkshop$Way" (15 : Nat) "JobWorkshop$Way" "shop" "LJobWorkshop$Shop;") ∈ TG := TG_1 (i := 213) rfl rfl
theorem tw_1_214 : (Jvm.Cond.fieldLink "JobWorkshop$Way" (19 : Nat) "JobWorkshop$Way" "table" "LJobWorkshop$Timetable;") ∈ TG := TG_1 (i := 214) rfl rfl
theorem tw_1_215 : (Jvm.Cond.fieldLink "JobWorkshop$Way" (9 : Nat) "JobWorkshop$Way" "fromEnd" "[I") ∈ TG := TG_1 (i := 215) rfl rfl
theorem tw_1_216 : (Jvm.Cond.fieldLink "JobWorkshop" (294 : Nat) "JobWorkshop$Way" "fromEnd" "[I") ∈ TG := TG_1 (i := 216) rfl rfl
theorem tw_1_217 : (Jvm.Cond.fieldLink "JobWorkshop$Way" (23 : Nat) "JobWorkshop$Way" "length" "I") ∈ TG := TG_1 (i := 217) rfl rfl
theorem tw_1_218 : (Jvm.Cond.fieldLink "JobWorkshop" (291 : Nat) "JobWorkshop$Way" "length" "I") ∈ TG := TG_1 (i := 218) rfl rfl
theorem tw_1_219 : (Jvm.Cond.fieldLink "JobWorkshop$Way" (27 : Nat) "JobWorkshop$Way" "pieces" "I") ∈ TG := TG_1 (i := 219) rfl rfl
theorem tw_1_220 : (Jvm.Cond.fieldLink "JobWorkshop" (297 : Nat) "JobWorkshop$Way" "pieces" "I") ∈ TG := TG_1 (i := 220) rfl rfl
theorem tw_1_221 : (Jvm.Cond.fieldLink "JobWorkshop$Way" (30 : Nat) "JobWorkshop$Way" "longestPiece" "I") ∈ TG := TG_1 (i := 221) rfl rfl
theorem tw_1_222 : (Jvm.Cond.fieldLink "JobWorkshop" (300 : Nat) "JobWorkshop$Way" "longestPiece" "I") ∈ TG := TG_1 (i := 222) rfl rfl
theorem tw_1_223 : (Jvm.Cond.laysFinal "JobWorkshop$Way" "JobWorkshop$Way" "shop" "LJobWorkshop$Shop;") ∈ TG := TG_1 (i := 223) rfl rfl
theorem tw_1_225 : (Jvm.Cond.laysFinal "JobWorkshop$Way" "JobWorkshop$Way" "table" "LJobWorkshop$Timetable;") ∈ TG := TG_1 (i := 225) rfl rfl
theorem tw_1_227 : (Jvm.Cond.laysFinal "JobWorkshop$Way" "JobWorkshop$Way" "fromEnd" "[I") ∈ TG := TG_1 (i := 227) rfl rfl
theorem tw_1_229 : (Jvm.Cond.lays "JobWorkshop$Way" "JobWorkshop$Way" "length" "I") ∈ TG := TG_1 (i := 229) rfl rfl
theorem tw_1_231 : (Jvm.Cond.lays "JobWorkshop$Way" "JobWorkshop$Way" "pieces" "I") ∈ TG := TG_1 (i := 231) rfl rfl
theorem tw_1_233 : (Jvm.Cond.lays "JobWorkshop$Way" "JobWorkshop$Way" "longestPiece" "I") ∈ TG := TG_1 (i := 233) rfl rfl
theorem tw_1_235 : (Jvm.Cond.superclass "JobWorkshop$Way" "java/lang/Object") ∈ TG := TG_1 (i := 235) rfl rfl
theorem tw_1_236 : (Jvm.Cond.classLink "JobWorkshop" (55 : Nat) "JobWorkshop$HourCheck") ∈ TG := TG_1 (i := 236) rfl rfl
theorem tw_1_237 : (Jvm.Cond.instantiable "JobWorkshop$HourCheck" (3 : Nat)) ∈ TG := TG_1 (i := 237) rfl rfl
theorem tw_1_238 : (Jvm.Cond.methodLink "JobWorkshop" (57 : Nat) ({ cls := "JobWorkshop$HourCheck", name := "<init>", desc := "(LJobWorkshop$Shop;LJobWorkshop$Timetable;)V" } : Jvm.MethodName)) ∈ TG := TG_1 (i := 238) rfl rfl
theorem tw_1_239 : (Jvm.Cond.instanceMethod ({ cls := "JobWorkshop$HourCheck", name := "<init>", desc := "(LJobWorkshop$Shop;LJobWorkshop$Timetable;)V" } : Jvm.MethodName)) ∈ TG := TG_1 (i := 239) rfl rfl
theorem tw_2_0 : (Jvm.Cond.code ({ cls := "JobWorkshop$HourCheck", name := "<init>", desc := "(LJobWorkshop$Shop;LJobWorkshop$Timetable;)V" } : Jvm.MethodName) prog_4_method_1_code (3 : Nat) (Option.none : Option Jvm.ClassFile.FieldType)) ∈ TG := TG_2 (i := 0) rfl rfl
theorem tw_2_1 : (Jvm.Cond.methodLink "JobWorkshop$HourCheck" (3 : Nat) ({ cls := "java/lang/Object", name := "<init>", desc := "()V" } : Jvm.MethodName)) ∈ TG := TG_2 (i := 1) rfl rfl
theorem tw_2_2 : (Jvm.Cond.fieldLink "JobWorkshop$HourCheck" (15 : Nat) "JobWorkshop$HourCheck" "shop" "LJobWorkshop$Shop;") ∈ TG := TG_2 (i := 2) rfl rfl
theorem tw_2_3 : (Jvm.Cond.fieldLink "JobWorkshop$HourCheck" (19 : Nat) "JobWorkshop$HourCheck" "table" "LJobWorkshop$Timetable;") ∈ TG := TG_2 (i := 3) rfl rfl
theorem tw_2_4 : (Jvm.Cond.fieldLink "JobWorkshop$HourCheck" (9 : Nat) "JobWorkshop$HourCheck" "marks" "[I") ∈ TG := TG_2 (i := 4) rfl rfl
theorem tw_2_5 : (Jvm.Cond.laysFinal "JobWorkshop$HourCheck" "JobWorkshop$HourCheck" "shop" "LJobWorkshop$Shop;") ∈ TG := TG_2 (i := 5) rfl rfl
theorem tw_2_7 : (Jvm.Cond.laysFinal "JobWorkshop$HourCheck" "JobWorkshop$HourCheck" "table" "LJobWorkshop$Timetable;") ∈ TG := TG_2 (i := 7) rfl rfl
theorem tw_2_9 : (Jvm.Cond.laysFinal "JobWorkshop$HourCheck" "JobWorkshop$HourCheck" "marks" "[I") ∈ TG := TG_2 (i := 9) rfl rfl
theorem tw_2_11 : (Jvm.Cond.superclass "JobWorkshop$HourCheck" "java/lang/Object") ∈ TG := TG_2 (i := 11) rfl rfl
theorem tw_2_12 : (Jvm.Cond.classLink "JobWorkshop" (62 : Nat) "JobWorkshop$Sequences") ∈ TG := TG_2 (i := 12) rfl rfl
theorem tw_2_13 : (Jvm.Cond.instantiable "JobWorkshop$Sequences" (2 : Nat)) ∈ TG := TG_2 (i := 13) rfl rfl
theorem tw_2_14 : (Jvm.Cond.methodLink "JobWorkshop" (64 : Nat) ({ cls := "JobWorkshop$Sequences", name := "<init>", desc := "(LJobWorkshop$Shop;)V" } : Jvm.MethodName)) ∈ TG := TG_2 (i := 14) rfl rfl
theorem tw_2_15 : (Jvm.Cond.instanceMethod ({ cls := "JobWorkshop$Sequences", name := "<init>", desc := "(LJobWorkshop$Shop;)V" } : Jvm.MethodName)) ∈ TG := TG_2 (i := 15) rfl rfl
theorem tw_2_16 : (Jvm.Cond.code ({ cls := "JobWorkshop$Sequences", name := "<init>", desc := "(LJobWorkshop$Shop;)V" } : Jvm.MethodName) prog_7_method_1_code (2 : Nat) (Option.none : Option Jvm.ClassFile.FieldType)) ∈ TG := TG_2 (i := 16) rfl rfl
theorem tw_2_17 : (Jvm.Cond.methodLink "JobWorkshop$Sequences" (3 : Nat) ({ cls := "java/lang/Object", name := "<init>", desc := "()V" } : Jvm.MethodName)) ∈ TG := TG_2 (i := 17) rfl rfl
theorem tw_2_18 : (Jvm.Cond.classLink "JobWorkshop$Sequences" (9 : Nat) "JobWorkshop$KeyedJobs") ∈ TG := TG_2 (i := 18) rfl rfl
theorem tw_2_19 : (Jvm.Cond.instantiable "JobWorkshop$KeyedJobs" (3 : Nat)) ∈ TG := TG_2 (i := 19) rfl rfl
theorem tt_2_20 : (Jvm.Cond.methodLinkNest "JobWorkshop$Sequences" (11 : Nat) ({ cls := "JobWorkshop$KeyedJobs", name := "<init>", desc := "()V" } : Jvm.MethodName) "JobWorkshop") ∈ lw_tbl := TT_2 (i := 20) rfl
theorem tw_2_21 : (Jvm.Cond.instanceMethod ({ cls := "JobWorkshop$KeyedJobs", name := "<init>", desc := "()V" } : Jvm.MethodName)) ∈ TG := TG_2 (i := 21) rfl rfl
theorem tw_2_22 : (Jvm.Cond.code ({ cls := "JobWorkshop$KeyedJobs", name := "<init>", desc := "()V" } : Jvm.MethodName) prog_5_method_1_code (1 : Nat) (Option.none : Option Jvm.ClassFile.FieldType)) ∈ TG := TG_2 (i := 22) rfl rfl
theorem tw_2_23 : (Jvm.Cond.methodLink "JobWorkshop$KeyedJobs" (3 : Nat) ({ cls := "java/lang/Object", name := "<init>", desc := "()V" } : Jvm.MethodName)) ∈ TG := TG_2 (i := 23) rfl rfl
theorem tw_2_24 : (Jvm.Cond.fieldLink "JobWorkshop$KeyedJobs" (9 : Nat) "JobWorkshop$KeyedJobs" "jobs" "[I") ∈ TG := TG_2 (i := 24) rfl rfl
theorem tw_2_25 : (Jvm.Cond.fieldLink "JobWorkshop$Sequences" (49 : Nat) "JobWorkshop$KeyedJobs" "jobs" "[I") ∈ TG := TG_2 (i := 25) rfl rfl
theorem tw_2_26 : (Jvm.Cond.fieldLink "JobWorkshop$KeyedJobs" (15 : Nat) "JobWorkshop$KeyedJobs" "keys" "[I") ∈ TG := TG_2 (i := 26) rfl rfl
theorem tw_2_27 : (Jvm.Cond.fieldLink "JobWorkshop$KeyedJobs" (18 : Nat) "JobWorkshop$KeyedJobs" "size" "I") ∈ TG := TG_2 (i := 27) rfl rfl
theorem tw_2_28 : (Jvm.Cond.fieldLink "JobWorkshop$Sequences" (46 : Nat) "JobWorkshop$KeyedJobs" "size" "I") ∈ TG := TG_2 (i := 28) rfl rfl
theorem tw_2_29 : (Jvm.Cond.laysFinal "JobWorkshop$KeyedJobs" "JobWorkshop$KeyedJobs" "jobs" "[I") ∈ TG := TG_2 (i := 29) rfl rfl
theorem tw_2_31 : (Jvm.Cond.laysFinal "JobWorkshop$KeyedJobs" "JobWorkshop$KeyedJobs" "keys" "[I") ∈ TG := TG_2 (i := 31) rfl rfl
theorem tw_2_33 : (Jvm.Cond.lays "JobWorkshop$KeyedJobs" "JobWorkshop$KeyedJobs" "size" "I") ∈ TG := TG_2 (i := 33) rfl rfl
theorem tw_2_35 : (Jvm.Cond.superclass "JobWorkshop$KeyedJobs" "java/lang/Object") ∈ TG := TG_2 (i := 35) rfl rfl
theorem tw_2_36 : (Jvm.Cond.fieldLink "JobWorkshop$Sequences" (18 : Nat) "JobWorkshop$Sequences" "shop" "LJobWorkshop$Shop;") ∈ TG := TG_2 (i := 36) rfl rfl
theorem tw_2_37 : (Jvm.Cond.fieldLink "JobWorkshop$Sequences" (12 : Nat) "JobWorkshop$Sequences" "sorted" "LJobWorkshop$KeyedJobs;") ∈ TG := TG_2 (i := 37) rfl rfl
theorem tw_2_38 : (Jvm.Cond.laysFinal "JobWorkshop$Sequences" "JobWorkshop$Sequences" "shop" "LJobWorkshop$Shop;") ∈ TG := TG_2 (i := 38) rfl rfl
theorem tw_2_40 : (Jvm.Cond.laysFinal "JobWorkshop$Sequences" "JobWorkshop$Sequences" "sorted" "LJobWorkshop$KeyedJobs;") ∈ TG := TG_2 (i := 40) rfl rfl
theorem tw_2_42 : (Jvm.Cond.superclass "JobWorkshop$Sequences" "java/lang/Object") ∈ TG := TG_2 (i := 42) rfl rfl
theorem tw_2_43 : (Jvm.Cond.classLink "JobWorkshop" (69 : Nat) "JobWorkshop$SetupTour") ∈ TG := TG_2 (i := 43) rfl rfl
theorem tw_2_44 : (Jvm.Cond.instantiable "JobWorkshop$SetupTour" (5 : Nat)) ∈ TG := TG_2 (i := 44) rfl rfl
theorem tw_2_45 : (Jvm.Cond.methodLink "JobWorkshop" (71 : Nat) ({ cls := "JobWorkshop$SetupTour", name := "<init>", desc := "(LJobWorkshop$Shop;)V" } : Jvm.MethodName)) ∈ TG := TG_2 (i := 45) rfl rfl
theorem tw_2_46 : (Jvm.Cond.instanceMethod ({ cls := "JobWorkshop$SetupTour", name := "<init>", desc := "(LJobWorkshop$Shop;)V" } : Jvm.MethodName)) ∈ TG := TG_2 (i := 46) rfl rfl
theorem tw_2_47 : (Jvm.Cond.code ({ cls := "JobWorkshop$SetupTour", name := "<init>", desc := "(LJobWorkshop$Shop;)V" } : Jvm.MethodName) prog_8_method_1_code (2 : Nat) (Option.none : Option Jvm.ClassFile.FieldType)) ∈ TG := TG_2 (i := 47) rfl rfl
theorem tw_2_48 : (Jvm.Cond.methodLink "JobWorkshop$SetupTour" (3 : Nat) ({ cls := "java/lang/Object", name := "<init>", desc := "()V" } : Jvm.MethodName)) ∈ TG := TG_2 (i := 48) rfl rfl
theorem tw_2_49 : (Jvm.Cond.fieldLink "JobWorkshop$SetupTour" (18 : Nat) "JobWorkshop$SetupTour" "shop" "LJobWorkshop$Shop;") ∈ TG := TG_2 (i := 49) rfl rfl
theorem tw_2_50 : (Jvm.Cond.fieldLink "JobWorkshop$SetupTour" (9 : Nat) "JobWorkshop$SetupTour" "order" "[I") ∈ TG := TG_2 (i := 50) rfl rfl
theorem tw_2_51 : (Jvm.Cond.fieldLink "JobWorkshop$SetupTour" (15 : Nat) "JobWorkshop$SetupTour" "leastOrder" "[I") ∈ TG := TG_2 (i := 51) rfl rfl
theorem tw_2_52 : (Jvm.Cond.fieldLink "JobWorkshop" (333 : Nat) "JobWorkshop$SetupTour" "leastOrder" "[I") ∈ TG := TG_2 (i := 52) rfl rfl
theorem tw_2_53 : (Jvm.Cond.fieldLink "JobWorkshop$SetupTour" (22 : Nat) "JobWorkshop$SetupTour" "leastHours" "I") ∈ TG := TG_2 (i := 53) rfl rfl
theorem tw_2_54 : (Jvm.Cond.fieldLink "JobWorkshop" (331 : Nat) "JobWorkshop$SetupTour" "leastHours" "I") ∈ TG := TG_2 (i := 54) rfl rfl
theorem tw_2_55 : (Jvm.Cond.fieldLink "JobWorkshop$SetupTour" (26 : Nat) "JobWorkshop$SetupTour" "found" "Z") ∈ TG := TG_2 (i := 55) rfl rfl
theorem tw_2_56 : (Jvm.Cond.laysFinal "JobWorkshop$SetupTour" "JobWorkshop$SetupTour" "shop" "LJobWorkshop$Shop;") ∈ TG := TG_2 (i := 56) rfl rfl
theorem tw_2_58 : (Jvm.Cond.laysFinal "JobWorkshop$SetupTour" "JobWorkshop$SetupTour" "order" "[I") ∈ TG := TG_2 (i := 58) rfl rfl
theorem tw_2_60 : (Jvm.Cond.laysFinal "JobWorkshop$SetupTour" "JobWorkshop$SetupTour" "leastOrder" "[I") ∈ TG := TG_2 (i := 60) rfl rfl
theorem tw_2_62 : (Jvm.Cond.lays "JobWorkshop$SetupTour" "JobWorkshop$SetupTour" "leastHours" "I") ∈ TG := TG_2 (i := 62) rfl rfl
theorem tw_2_64 : (Jvm.Cond.lays "JobWorkshop$SetupTour" "JobWorkshop$SetupTour" "found" "Z") ∈ TG := TG_2 (i := 64) rfl rfl
theorem tw_2_66 : (Jvm.Cond.superclass "JobWorkshop$SetupTour" "java/lang/Object") ∈ TG := TG_2 (i := 66) rfl rfl
theorem tw_2_67 : (Jvm.Cond.classLink "JobWorkshop" (76 : Nat) "JobWorkshop$Crew") ∈ TG := TG_2 (i := 67) rfl rfl
theorem tw_2_68 : (Jvm.Cond.instantiable "JobWorkshop$Crew" (4 : Nat)) ∈ TG := TG_2 (i := 68) rfl rfl
theorem tw_2_69 : (Jvm.Cond.methodLink "JobWorkshop" (78 : Nat) ({ cls := "JobWorkshop$Crew", name := "<init>", desc := "(LJobWorkshop$Shop;)V" } : Jvm.MethodName)) ∈ TG := TG_2 (i := 69) rfl rfl
theorem tw_2_70 : (Jvm.Cond.instanceMethod ({ cls := "JobWorkshop$Crew", name := "<init>", desc := "(LJobWorkshop$Shop;)V" } : Jvm.MethodName)) ∈ TG := TG_2 (i := 70) rfl rfl
theorem tw_2_71 : (Jvm.Cond.code ({ cls := "JobWorkshop$Crew", name := "<init>", desc := "(LJobWorkshop$Shop;)V" } : Jvm.MethodName) prog_3_method_1_code (2 : Nat) (Option.none : Option Jvm.ClassFile.FieldType)) ∈ TG := TG_2 (i := 71) rfl rfl
theorem tw_2_72 : (Jvm.Cond.methodLink "JobWorkshop$Crew" (3 : Nat) ({ cls := "java/lang/Object", name := "<init>", desc := "()V" } : Jvm.MethodName)) ∈ TG := TG_2 (i := 72) rfl rfl
theorem tw_2_73 : (Jvm.Cond.fieldLink "JobWorkshop$Crew" (18 : Nat) "JobWorkshop$Crew" "shop" "LJobWorkshop$Shop;") ∈ TG := TG_2 (i := 73) rfl rfl
theorem tw_2_74 : (Jvm.Cond.fieldLink "JobWorkshop$Crew" (9 : Nat) "JobWorkshop$Crew" "workers" "[I") ∈ TG := TG_2 (i := 74) rfl rfl
theorem tw_2_75 : (Jvm.Cond.fieldLink "JobWorkshop$Crew" (15 : Nat) "JobWorkshop$Crew" "toldWorkers" "[I") ∈ TG := TG_2 (i := 75) rfl rfl
theorem tw_2_76 : (Jvm.Cond.fieldLink "JobWorkshop" (342 : Nat) "JobWorkshop$Crew" "toldWorkers" "[I") ∈ TG := TG_2 (i := 76) rfl rfl
theorem tw_2_77 : (Jvm.Cond.fieldLink "JobWorkshop$Crew" (22 : Nat) "JobWorkshop$Crew" "mostFilled" "I") ∈ TG := TG_2 (i := 77) rfl rfl
theorem tw_2_78 : (Jvm.Cond.fieldLink "JobWorkshop" (339 : Nat) "JobWorkshop$Crew" "mostFilled" "I") ∈ TG := TG_2 (i := 78) rfl rfl
theorem tw_2_79 : (Jvm.Cond.laysFinal "JobWorkshop$Crew" "JobWorkshop$Crew" "shop" "LJobWorkshop$Shop;") ∈ TG := TG_2 (i := 79) rfl rfl
theorem tw_2_81 : (Jvm.Cond.laysFinal "JobWorkshop$Crew" "JobWorkshop$Crew" "workers" "[I") ∈ TG := TG_2 (i := 81) rfl rfl
theorem tw_2_83 : (Jvm.Cond.laysFinal "JobWorkshop$Crew" "JobWorkshop$Crew" "toldWorkers" "[I") ∈ TG := TG_2 (i := 83) rfl rfl
theorem tw_2_85 : (Jvm.Cond.lays "JobWorkshop$Crew" "JobWorkshop$Crew" "mostFilled" "I") ∈ TG := TG_2 (i := 85) rfl rfl
theorem tw_2_87 : (Jvm.Cond.superclass "JobWorkshop$Crew" "java/lang/Object") ∈ TG := TG_2 (i := 87) rfl rfl
theorem tw_2_88 : (Jvm.Cond.classLink "JobWorkshop" (83 : Nat) "JobWorkshop$Odds") ∈ TG := TG_2 (i := 88) rfl rfl
theorem tw_2_89 : (Jvm.Cond.instantiable "JobWorkshop$Odds" (2 : Nat)) ∈ TG := TG_2 (i := 89) rfl rfl
theorem tw_2_90 : (Jvm.Cond.methodLink "JobWorkshop" (85 : Nat) ({ cls := "JobWorkshop$Odds", name := "<init>", desc := "(LJobWorkshop$Shop;)V" } : Jvm.MethodName)) ∈ TG := TG_2 (i := 90) rfl rfl
theorem tw_2_91 : (Jvm.Cond.instanceMethod ({ cls := "JobWorkshop$Odds", name := "<init>", desc := "(LJobWorkshop$Shop;)V" } : Jvm.MethodName)) ∈ TG := TG_2 (i := 91) rfl rfl
theorem tw_2_92 : (Jvm.Cond.code ({ cls := "JobWorkshop$Odds", name := "<init>", desc := "(LJobWorkshop$Shop;)V" } : Jvm.MethodName) prog_6_method_1_code (2 : Nat) (Option.none : Option Jvm.ClassFile.FieldType)) ∈ TG := TG_2 (i := 92) rfl rfl
theorem tw_2_93 : (Jvm.Cond.methodLink "JobWorkshop$Odds" (3 : Nat) ({ cls := "java/lang/Object", name := "<init>", desc := "()V" } : Jvm.MethodName)) ∈ TG := TG_2 (i := 93) rfl rfl
theorem tw_2_94 : (Jvm.Cond.fieldLink "JobWorkshop$Odds" (15 : Nat) "JobWorkshop$Odds" "shop" "LJobWorkshop$Shop;") ∈ TG := TG_2 (i := 94) rfl rfl
theorem tw_2_95 : (Jvm.Cond.fieldLink "JobWorkshop$Odds" (9 : Nat) "JobWorkshop$Odds" "parts" "[J") ∈ TG := TG_2 (i := 95) rfl rfl
theorem tw_2_96 : (Jvm.Cond.laysFinal "JobWorkshop$Odds" "JobWorkshop$Odds" "shop" "LJobWorkshop$Shop;") ∈ TG := TG_2 (i := 96) rfl rfl
theorem tw_2_98 : (Jvm.Cond.laysFinal "JobWorkshop$Odds" "JobWorkshop$Odds" "parts" "[J") ∈ TG := TG_2 (i := 98) rfl rfl
theorem tw_2_100 : (Jvm.Cond.superclass "JobWorkshop$Odds" "java/lang/Object") ∈ TG := TG_2 (i := 100) rfl rfl
theorem tw_2_101 : (Jvm.Cond.arrayClass Jvm.ClassFile.FieldType.long) ∈ TG := TG_2 (i := 101) rfl rfl
theorem tw_2_102 : (Jvm.Cond.methodLink "JobWorkshop" (90 : Nat) ({ cls := "JobWorkshop$Shop", name := "newJob", desc := "(IIII)I" } : Jvm.MethodName)) ∈ TG := TG_2 (i := 102) rfl rfl
theorem tw_2_103 : (Jvm.Cond.instanceMethod ({ cls := "JobWorkshop$Shop", name := "newJob", desc := "(IIII)I" } : Jvm.MethodName)) ∈ TG := TG_2 (i := 103) rfl rfl
theorem tw_2_104 : (Jvm.Cond.selects "JobWorkshop$Shop" ({ cls := "JobWorkshop$Shop", name := "newJob", desc := "(IIII)I" } : Jvm.MethodName) ({ cls := "JobWorkshop$Shop", name := "newJob", desc := "(IIII)I" } : Jvm.MethodName)) ∈ TG := TG_2 (i := 104) rfl rfl
theorem tw_2_105 : (Jvm.Cond.code ({ cls := "JobWorkshop$Shop", name := "newJob", desc := "(IIII)I" } : Jvm.MethodName) prog_9_method_5_code (5 : Nat) (Option.some Jvm.ClassFile.FieldType.int)) ∈ TG := TG_2 (i := 105) rfl rfl
theorem tw_2_106 : (Jvm.Cond.methodLink "JobWorkshop" (94 : Nat) ({ cls := "JobWorkshop$Shop", name := "newStep", desc := "(III)I" } : Jvm.MethodName)) ∈ TG := TG_2 (i := 106) rfl rfl
theorem tw_2_107 : (Jvm.Cond.instanceMethod ({ cls := "JobWorkshop$Shop", name := "newStep", desc := "(III)I" } : Jvm.MethodName)) ∈ TG := TG_2 (i := 107) rfl rfl
theorem tw_2_108 : (Jvm.Cond.selects "JobWorkshop$Shop" ({ cls := "JobWorkshop$Shop", name := "newStep", desc := "(III)I" } : Jvm.MethodName) ({ cls := "JobWorkshop$Shop", name := "newStep", desc := "(III)I" } : Jvm.MethodName)) ∈ TG := TG_2 (i := 108) rfl rfl
theorem tw_2_109 : (Jvm.Cond.code ({ cls := "JobWorkshop$Shop", name := "newStep", desc := "(III)I" } : Jvm.MethodName) prog_9_method_6_code (5 : Nat) (Option.some Jvm.ClassFile.FieldType.int)) ∈ TG := TG_2 (i := 109) rfl rfl
theorem tw_2_110 : (Jvm.Cond.fieldLink "JobWorkshop" (12 : Nat) "JobWorkshop" "shop" "LJobWorkshop$Shop;") ∈ TG := TG_2 (i := 110) rfl rfl
theorem tw_2_111 : (Jvm.Cond.fieldLink "JobWorkshop" (21 : Nat) "JobWorkshop" "table" "LJobWorkshop$Timetable;") ∈ TG := TG_2 (i := 111) rfl rfl
theorem tw_2_112 : (Jvm.Cond.fieldLink "JobWorkshop" (25 : Nat) "JobWorkshop" "trial" "LJobWorkshop$Timetable;") ∈ TG := TG_2 (i := 112) rfl rfl
theorem tw_2_113 : (Jvm.Cond.fieldLink "JobWorkshop" (28 : Nat) "JobWorkshop" "past" "[LJobWorkshop$Shop;") ∈ TG := TG_2 (i := 113) rfl rfl
theorem tw_2_114 : (Jvm.Cond.fieldLink "JobWorkshop" (32 : Nat) "JobWorkshop" "digits" "[I") ∈ TG := TG_2 (i := 114) rfl rfl
theorem tw_2_115 : (Jvm.Cond.fieldLink "JobWorkshop" (36 : Nat) "JobWorkshop" "wanted" "[I") ∈ TG := TG_2 (i := 115) rfl rfl
theorem tw_2_116 : (Jvm.Cond.fieldLink "JobWorkshop" (44 : Nat) "JobWorkshop" "bestRow" "LJobWorkshop$BestRow;") ∈ TG := TG_2 (i := 116) rfl rfl
theorem tw_2_117 : (Jvm.Cond.fieldLink "JobWorkshop" (51 : Nat) "JobWorkshop" "way" "LJobWorkshop$Way;") ∈ TG := TG_2 (i := 117) rfl rfl
theorem tw_2_118 : (Jvm.Cond.fieldLink "JobWorkshop" (58 : Nat) "JobWorkshop" "hourCheck" "LJobWorkshop$HourCheck;") ∈ TG := TG_2 (i := 118) rfl rfl
theorem tw_2_119 : (Jvm.Cond.fieldLink "JobWorkshop" (65 : Nat) "JobWorkshop" "sequences" "LJobWorkshop$Sequences;") ∈ TG := TG_2 (i := 119) rfl rfl
theorem tw_2_120 : (Jvm.Cond.fieldLink "JobWorkshop" (72 : Nat) "JobWorkshop" "tour" "LJobWorkshop$SetupTour;") ∈ TG := TG_2 (i := 120) rfl rfl
theorem tw_2_121 : (Jvm.Cond.fieldLink "JobWorkshop" (79 : Nat) "JobWorkshop" "crew" "LJobWorkshop$Crew;") ∈ TG := TG_2 (i := 121) rfl rfl
theorem tw_2_122 : (Jvm.Cond.fieldLink "JobWorkshop" (86 : Nat) "JobWorkshop" "oddsOfJob" "LJobWorkshop$Odds;") ∈ TG := TG_2 (i := 122) rfl rfl
theorem tw_2_123 : (Jvm.Cond.fieldLink "JobWorkshop" (233 : Nat) "JobWorkshop" "nextPast" "I") ∈ TG := TG_2 (i := 123) rfl rfl
theorem tw_2_124 : (Jvm.Cond.fieldLink "JobWorkshop" (229 : Nat) "JobWorkshop" "undoable" "I") ∈ TG := TG_2 (i := 124) rfl rfl
theorem tw_2_125 : (Jvm.Cond.laysFinal "JobWorkshop" "JobWorkshop" "shop" "LJobWorkshop$Shop;") ∈ TG := TG_2 (i := 125) rfl rfl
theorem tw_2_127 : (Jvm.Cond.laysFinal "JobWorkshop" "JobWorkshop" "table" "LJobWorkshop$Timetable;") ∈ TG := TG_2 (i := 127) rfl rfl
theorem tw_2_129 : (Jvm.Cond.laysFinal "JobWorkshop" "JobWorkshop" "trial" "LJobWorkshop$Timetable;") ∈ TG := TG_2 (i := 129) rfl rfl
theorem tw_2_131 : (Jvm.Cond.laysFinal "JobWorkshop" "JobWorkshop" "past" "[LJobWorkshop$Shop;") ∈ TG := TG_2 (i := 131) rfl rfl
theorem tw_2_133 : (Jvm.Cond.laysFinal "JobWorkshop" "JobWorkshop" "digits" "[I") ∈ TG := TG_2 (i := 133) rfl rfl
theorem tw_2_135 : (Jvm.Cond.laysFinal "JobWorkshop" "JobWorkshop" "wanted" "[I") ∈ TG := TG_2 (i := 135) rfl rfl
theorem tw_2_137 : (Jvm.Cond.laysFinal "JobWorkshop" "JobWorkshop" "bestRow" "LJobWorkshop$BestRow;") ∈ TG := TG_2 (i := 137) rfl rfl
theorem tw_2_139 : (Jvm.Cond.laysFinal "JobWorkshop" "JobWorkshop" "way" "LJobWorkshop$Way;") ∈ TG := TG_2 (i := 139) rfl rfl
theorem tw_2_141 : (Jvm.Cond.laysFinal "JobWorkshop" "JobWorkshop" "hourCheck" "LJobWorkshop$HourCheck;") ∈ TG := TG_2 (i := 141) rfl rfl
theorem tw_2_143 : (Jvm.Cond.laysFinal "JobWorkshop" "JobWorkshop" "sequences" "LJobWorkshop$Sequences;") ∈ TG := TG_2 (i := 143) rfl rfl
theorem tw_2_145 : (Jvm.Cond.laysFinal "JobWorkshop" "JobWorkshop" "tour" "LJobWorkshop$SetupTour;") ∈ TG := TG_2 (i := 145) rfl rfl
theorem tw_2_147 : (Jvm.Cond.laysFinal "JobWorkshop" "JobWorkshop" "crew" "LJobWorkshop$Crew;") ∈ TG := TG_2 (i := 147) rfl rfl
theorem tw_2_149 : (Jvm.Cond.laysFinal "JobWorkshop" "JobWorkshop" "oddsOfJob" "LJobWorkshop$Odds;") ∈ TG := TG_2 (i := 149) rfl rfl
theorem tw_2_151 : (Jvm.Cond.lays "JobWorkshop" "JobWorkshop" "nextPast" "I") ∈ TG := TG_2 (i := 151) rfl rfl
theorem tw_2_153 : (Jvm.Cond.lays "JobWorkshop" "JobWorkshop" "undoable" "I") ∈ TG := TG_2 (i := 153) rfl rfl
theorem tw_2_155 : (Jvm.Cond.superclass "JobWorkshop" "java/lang/Object") ∈ TG := TG_2 (i := 155) rfl rfl
theorem tw_2_156 : (Jvm.Cond.methodLink "JobWorkshopLaw" (184 : Nat) ({ cls := "JobWorkshop", name := "undo", desc := "()I" } : Jvm.MethodName)) ∈ TG := TG_2 (i := 156) rfl rfl
theorem tw_2_157 : (Jvm.Cond.instanceMethod ({ cls := "JobWorkshop", name := "undo", desc := "()I" } : Jvm.MethodName)) ∈ TG := TG_2 (i := 157) rfl rfl
theorem tw_2_158 : (Jvm.Cond.selects "JobWorkshop" ({ cls := "JobWorkshop", name := "undo", desc := "()I" } : Jvm.MethodName) ({ cls := "JobWorkshop", name := "undo", desc := "()I" } : Jvm.MethodName)) ∈ TG := TG_2 (i := 158) rfl rfl
theorem tw_2_159 : (Jvm.Cond.code ({ cls := "JobWorkshop", name := "undo", desc := "()I" } : Jvm.MethodName) prog_1_method_15_code (2 : Nat) (Option.some Jvm.ClassFile.FieldType.int)) ∈ TG := TG_2 (i := 159) rfl rfl
theorem tw_2_160 : (Jvm.Cond.methodLink "JobWorkshop" (236 : Nat) ({ cls := "JobWorkshop$Shop", name := "copyFrom", desc := "(LJobWorkshop$Shop;)V" } : Jvm.MethodName)) ∈ TG := TG_2 (i := 160) rfl rfl
theorem tw_2_161 : (Jvm.Cond.instanceMethod ({ cls := "JobWorkshop$Shop", name := "copyFrom", desc := "(LJobWorkshop$Shop;)V" } : Jvm.MethodName)) ∈ TG := TG_2 (i := 161) rfl rfl
theorem tw_2_162 : (Jvm.Cond.selects "JobWorkshop$Shop" ({ cls := "JobWorkshop$Shop", name := "copyFrom", desc := "(LJobWorkshop$Shop;)V" } : Jvm.MethodName) ({ cls := "JobWorkshop$Shop", name := "copyFrom", desc := "(LJobWorkshop$Shop;)V" } : Jvm.MethodName)) ∈ TG := TG_2 (i := 162) rfl rfl
theorem tw_2_163 : (Jvm.Cond.code ({ cls := "JobWorkshop$Shop", name := "copyFrom", desc := "(LJobWorkshop$Shop;)V" } : Jvm.MethodName) prog_9_method_2_code (2 : Nat) (Option.none : Option Jvm.ClassFile.FieldType)) ∈ TG := TG_2 (i := 163) rfl rfl
theorem tw_2_164 : (Jvm.Cond.methodLink "JobWorkshop$Shop" (61 : Nat) ({ cls := "JobWorkshop$Shop", name := "copy", desc := "([I[I)V" } : Jvm.MethodName)) ∈ TG := TG_2 (i := 164) rfl rfl
theorem tw_2_165 : (Jvm.Cond.static ({ cls := "JobWorkshop$Shop", name := "copy", desc := "([I[I)V" } : Jvm.MethodName)) ∈ TG := TG_2 (i := 165) rfl rfl
theorem tw_2_166 : (Jvm.Cond.code ({ cls := "JobWorkshop$Shop", name := "copy", desc := "([I[I)V" } : Jvm.MethodName) prog_9_method_3_code (2 : Nat) (Option.none : Option Jvm.ClassFile.FieldType)) ∈ TG := TG_2 (i := 166) rfl rfl
theorem tw_2_167 : (Jvm.Cond.methodLink "JobWorkshop$Shop" (69 : Nat) ({ cls := "java/lang/Math", name := "min", desc := "(II)I" } : Jvm.MethodName)) ∈ TG := TG_2 (i := 167) rfl rfl
theorem tw_2_168 : (Jvm.Cond.static ({ cls := "java/lang/Math", name := "min", desc := "(II)I" } : Jvm.MethodName)) ∈ TG := TG_2 (i := 168) rfl rfl
theorem tw_2_169 : (Jvm.Cond.code ({ cls := "java/lang/Math", name := "min", desc := "(II)I" } : Jvm.MethodName) prog_19_method_69_code (2 : Nat) (Option.some Jvm.ClassFile.FieldType.int)) ∈ TG := TG_2 (i := 169) rfl rfl
theorem tw_2_170 : (Jvm.Cond.methodLink "JobWorkshop$Shop" (75 : Nat) ({ cls := "java/lang/System", name := "arraycopy", desc := "(Ljava/lang/Object;ILjava/lang/Object;II)V" } : Jvm.MethodName)) ∈ TG := TG_2 (i := 170) rfl rfl
theorem tw_2_171 : (Jvm.Cond.static ({ cls := "java/lang/System", name := "arraycopy", desc := "(Ljava/lang/Object;ILjava/lang/Object;II)V" } : Jvm.MethodName)) ∈ TG := TG_2 (i := 171) rfl rfl
theorem tw_2_172 : (Jvm.Cond.native ({ cls := "java/lang/System", name := "arraycopy", desc := "(Ljava/lang/Object;ILjava/lang/Object;II)V" } : Jvm.MethodName)) ∈ TG := TG_2 (i := 172) rfl rfl
theorem tw_2_173 : (Jvm.Cond.methodLink "JobWorkshop" (122 : Nat) ({ cls := "JobWorkshop$Timetable", name := "replay", desc := "()V" } : Jvm.MethodName)) ∈ TG := TG_2 (i := 173) rfl rfl
theorem tw_2_174 : (Jvm.Cond.instanceMethod ({ cls := "JobWorkshop$Timetable", name := "replay", desc := "()V" } : Jvm.MethodName)) ∈ TG := TG_2 (i := 174) rfl rfl
theorem tw_2_175 : (Jvm.Cond.selects "JobWorkshop$Timetable" ({ cls := "JobWorkshop$Timetable", name := "replay", desc := "()V" } : Jvm.MethodName) ({ cls := "JobWorkshop$Timetable", name := "replay", desc := "()V" } : Jvm.MethodName)) ∈ TG := TG_2 (i := 175) rfl rfl
theorem tw_2_176 : (Jvm.Cond.code ({ cls := "JobWorkshop$Timetable", name := "replay", desc := "()V" } : Jvm.MethodName) prog_10_method_13_code (1 : Nat) (Option.none : Option Jvm.ClassFile.FieldType)) ∈ TG := TG_2 (i := 176) rfl rfl
theorem tw_2_177 : (Jvm.Cond.methodLink "JobWorkshop$Timetable" (116 : Nat) ({ cls := "JobWorkshop$Timetable", name := "clear", desc := "()V" } : Jvm.MethodName)) ∈ TG := TG_2 (i := 177) rfl rfl
theorem tw_2_178 : (Jvm.Cond.instanceMethod ({ cls := "JobWorkshop$Timetable", name := "clear", desc := "()V" } : Jvm.MethodName)) ∈ TG := TG_2 (i := 178) rfl rfl
theorem tw_2_179 : (Jvm.Cond.selects "JobWorkshop$Timetable" ({ cls := "JobWorkshop$Timetable", name := "clear", desc := "()V" } : Jvm.MethodName) ({ cls := "JobWorkshop$Timetable", name := "clear", desc := "()V" } : Jvm.MethodName)) ∈ TG := TG_2 (i := 179) rfl rfl
theorem tw_2_180 : (Jvm.Cond.code ({ cls := "JobWorkshop$Timetable", name := "clear", desc := "()V" } : Jvm.MethodName) prog_10_method_2_code (1 : Nat) (Option.none : Option Jvm.ClassFile.FieldType)) ∈ TG := TG_2 (i := 180) rfl rfl
theorem tw_2_181 : (Jvm.Cond.methodLink "JobWorkshop$Timetable" (44 : Nat) ({ cls := "java/util/Arrays", name := "fill", desc := "([II)V" } : Jvm.MethodName)) ∈ TG := TG_2 (i := 181) rfl rfl
theorem tw_2_182 : (Jvm.Cond.static ({ cls := "java/util/Arrays", name := "fill", desc := "([II)V" } : Jvm.MethodName)) ∈ TG := TG_2 (i := 182) rfl rfl
theorem tw_2_183 : (Jvm.Cond.code ({ cls := "java/util/Arrays", name := "fill", desc := "([II)V" } : Jvm.MethodName) prog_24_method_103_code (4 : Nat) (Option.none : Option Jvm.ClassFile.FieldType)) ∈ TG := TG_2 (i := 183) rfl rfl
theorem tw_2_184 : (Jvm.Cond.methodLink "JobWorkshop$Timetable" (123 : Nat) ({ cls := "JobWorkshop$Timetable", name := "putDelayed", desc := "(II)V" } : Jvm.MethodName)) ∈ TG := TG_2 (i := 184) rfl rfl
theorem tw_2_185 : (Jvm.Cond.instanceMethod ({ cls := "JobWorkshop$Timetable", name := "putDelayed", desc := "(II)V" } : Jvm.MethodName)) ∈ TG := TG_2 (i := 185) rfl rfl
theorem tw_2_186 : (Jvm.Cond.selects "JobWorkshop$Timetable" ({ cls := "JobWorkshop$Timetable", name := "putDelayed", desc := "(II)V" } : Jvm.MethodName) ({ cls := "JobWorkshop$Timetable", name := "putDelayed", desc := "(II)V" } : Jvm.MethodName)) ∈ TG := TG_2 (i := 186) rfl rfl
theorem tw_2_187 : (Jvm.Cond.code ({ cls := "JobWorkshop$Timetable", name := "putDelayed", desc := "(II)V" } : Jvm.MethodName) prog_10_method_14_code (6 : Nat) (Option.none : Option Jvm.ClassFile.FieldType)) ∈ TG := TG_2 (i := 187) rfl rfl
theorem tw_2_188 : (Jvm.Cond.methodLink "JobWorkshop$Timetable" (127 : Nat) ({ cls := "JobWorkshop$Shop", name := "stepTotal", desc := "()I" } : Jvm.MethodName)) ∈ TG := TG_2 (i := 188) rfl rfl
theorem tw_2_189 : (Jvm.Cond.instanceMethod ({ cls := "JobWorkshop$Shop", name := "stepTotal", desc := "()I" } : Jvm.MethodName)) ∈ TG := TG_2 (i := 189) rfl rfl
theorem tw_2_190 : (Jvm.Cond.selects "JobWorkshop$Shop" ({ cls := "JobWorkshop$Shop", name := "stepTotal", desc := "()I" } : Jvm.MethodName) ({ cls := "JobWorkshop$Shop", name := "stepTotal", desc := "()I" } : Jvm.MethodName)) ∈ TG := TG_2 (i := 190) rfl rfl
theorem tw_2_191 : (Jvm.Cond.code ({ cls := "JobWorkshop$Shop", name := "stepTotal", desc := "()I" } : Jvm.MethodName) prog_9_method_10_code (3 : Nat) (Option.some Jvm.ClassFile.FieldType.int)) ∈ TG := TG_2 (i := 191) rfl rfl
theorem tw_2_192 : (Jvm.Cond.methodLink "JobWorkshop$Timetable" (64 : Nat) ({ cls := "JobWorkshop$Timetable", name := "nextStep", desc := "(I)I" } : Jvm.MethodName)) ∈ TG := TG_2 (i := 192) rfl rfl
theorem tw_2_194 : (Jvm.Cond.instanceMethod ({ cls := "JobWorkshop$Timetable", name := "nextStep", desc := "(I)I" } : Jvm.MethodName)) ∈ TG := TG_2 (i := 194) rfl rfl
theorem tw_2_195 : (Jvm.Cond.code ({ cls := "JobWorkshop$Timetable", name := "nextStep", desc := "(I)I" } : Jvm.MethodName) prog_10_method_5_code (2 : Nat) (Option.some Jvm.ClassFile.FieldType.int)) ∈ TG := TG_2 (i := 195) rfl rfl
theorem tw_2_196 : (Jvm.Cond.methodLink "JobWorkshop$Timetable" (132 : Nat) ({ cls := "JobWorkshop$Timetable", name := "put", desc := "(II)V" } : Jvm.MethodName)) ∈ TG := TG_2 (i := 196) rfl rfl
theorem tw_2_197 : (Jvm.Cond.instanceMethod ({ cls := "JobWorkshop$Timetable", name := "put", desc := "(II)V" } : Jvm.MethodName)) ∈ TG := TG_2 (i := 197) rfl rfl
theorem tw_2_198 : (Jvm.Cond.selects "JobWorkshop$Timetable" ({ cls := "JobWorkshop$Timetable", name := "put", desc := "(II)V" } : Jvm.MethodName) ({ cls := "JobWorkshop$Timetable", name := "put", desc := "(II)V" } : Jvm.MethodName)) ∈ TG := TG_2 (i := 198) rfl rfl
theorem tw_2_199 : (Jvm.Cond.code ({ cls := "JobWorkshop$Timetable", name := "put", desc := "(II)V" } : Jvm.MethodName) prog_10_method_11_code (7 : Nat) (Option.none : Option Jvm.ClassFile.FieldType)) ∈ TG := TG_2 (i := 199) rfl rfl
theorem tw_2_200 : (Jvm.Cond.methodLink "JobWorkshop$Timetable" (109 : Nat) ({ cls := "JobWorkshop$Timetable", name := "hasLeft", desc := "(I)Z" } : Jvm.MethodName)) ∈ TG := TG_2 (i := 200) rfl rfl
theorem tw_2_201 : (Jvm.Cond.instanceMethod ({ cls := "JobWorkshop$Timetable", name := "hasLeft", desc := "(I)Z" } : Jvm.MethodName)) ∈ TG := TG_2 (i := 201) rfl rfl
theorem tw_2_202 : (Jvm.Cond.selects "JobWorkshop$Timetable" ({ cls := "JobWorkshop$Timetable", name := "hasLeft", desc := "(I)Z" } : Jvm.MethodName) ({ cls := "JobWorkshop$Timetable", name := "hasLeft", desc := "(I)Z" } : Jvm.MethodName)) ∈ TG := TG_2 (i := 202) rfl rfl
theorem tw_2_203 : (Jvm.Cond.code ({ cls := "JobWorkshop$Timetable", name := "hasLeft", desc := "(I)Z" } : Jvm.MethodName) prog_10_method_3_code (2 : Nat) (Option.some Jvm.ClassFile.FieldType.boolean)) ∈ TG := TG_2 (i := 203) rfl rfl
theorem tw_2_204 : (Jvm.Cond.methodLink "JobWorkshop$Timetable" (90 : Nat) ({ cls := "JobWorkshop$Timetable", name := "lastOn", desc := "(I)I" } : Jvm.MethodName)) ∈ TG := TG_2 (i := 204) rfl rfl
theorem tw_2_206 : (Jvm.Cond.instanceMethod ({ cls := "JobWorkshop$Timetable", name := "lastOn", desc := "(I)I" } : Jvm.MethodName)) ∈ TG := TG_2 (i := 206) rfl rfl
theorem tw_2_207 : (Jvm.Cond.code ({ cls := "JobWorkshop$Timetable", name := "lastOn", desc := "(I)I" } : Jvm.MethodName) prog_10_method_7_code (2 : Nat) (Option.some Jvm.ClassFile.FieldType.int)) ∈ TG := TG_2 (i := 207) rfl rfl
theorem tw_2_208 : (Jvm.Cond.methodLink "JobWorkshop$Timetable" (113 : Nat) ({ cls := "JobWorkshop$Timetable", name := "firstHour", desc := "(II)I" } : Jvm.MethodName)) ∈ TG := TG_2 (i := 208) rfl rfl
theorem tw_2_210 : (Jvm.Cond.instanceMethod ({ cls := "JobWorkshop$Timetable", name := "firstHour", desc := "(II)I" } : Jvm.MethodName)) ∈ TG := TG_2 (i := 210) rfl rfl
theorem tw_2_211 : (Jvm.Cond.code ({ cls := "JobWorkshop$Timetable", name := "firstHour", desc := "(II)I" } : Jvm.MethodName) prog_10_method_10_code (7 : Nat) (Option.some Jvm.ClassFile.FieldType.int)) ∈ TG := TG_2 (i := 211) rfl rfl
theorem tw_2_212 : (Jvm.Cond.methodLink "JobWorkshop$Timetable" (93 : Nat) ({ cls := "JobWorkshop$Timetable", name := "readyHour", desc := "(I)I" } : Jvm.MethodName)) ∈ TG := TG_2 (i := 212) rfl rfl
theorem tw_2_214 : (Jvm.Cond.instanceMethod ({ cls := "JobWorkshop$Timetable", name := "readyHour", desc := "(I)I" } : Jvm.MethodName)) ∈ TG := TG_2 (i := 214) rfl rfl
theorem tw_2_215 : (Jvm.Cond.code ({ cls := "JobWorkshop$Timetable", name := "readyHour", desc := "(I)I" } : Jvm.MethodName) prog_10_method_6_code (2 : Nat) (Option.some Jvm.ClassFile.FieldType.int)) ∈ TG := TG_2 (i := 215) rfl rfl
theorem tw_2_216 : (Jvm.Cond.methodLink "JobWorkshop$Timetable" (68 : Nat) ({ cls := "JobWorkshop$Timetable", name := "endOfStep", desc := "(I)I" } : Jvm.MethodName)) ∈ TG := TG_2 (i := 216) rfl rfl
theorem tw_2_217 : (Jvm.Cond.instanceMethod ({ cls := "JobWorkshop$Timetable", name := "endOfStep", desc := "(I)I" } : Jvm.MethodName)) ∈ TG := TG_2 (i := 217) rfl rfl
theorem tw_2_218 : (Jvm.Cond.selects "JobWorkshop$Timetable" ({ cls := "JobWorkshop$Timetable", name := "endOfStep", desc := "(I)I" } : Jvm.MethodName) ({ cls := "JobWorkshop$Timetable", name := "endOfStep", desc := "(I)I" } : Jvm.MethodName)) ∈ TG := TG_2 (i := 218) rfl rfl
theorem tw_2_219 : (Jvm.Cond.code ({ cls := "JobWorkshop$Timetable", name := "endOfStep", desc := "(I)I" } : Jvm.MethodName) prog_10_method_4_code (2 : Nat) (Option.some Jvm.ClassFile.FieldType.int)) ∈ TG := TG_2 (i := 219) rfl rfl
theorem tw_2_220 : (Jvm.Cond.methodLink "JobWorkshop$Timetable" (96 : Nat) ({ cls := "java/lang/Math", name := "max", desc := "(II)I" } : Jvm.MethodName)) ∈ TG := TG_2 (i := 220) rfl rfl
theorem tw_2_221 : (Jvm.Cond.static ({ cls := "java/lang/Math", name := "max", desc := "(II)I" } : Jvm.MethodName)) ∈ TG := TG_2 (i := 221) rfl rfl
theorem tw_2_222 : (Jvm.Cond.code ({ cls := "java/lang/Math", name := "max", desc := "(II)I" } : Jvm.MethodName) prog_19_method_65_code (2 : Nat) (Option.some Jvm.ClassFile.FieldType.int)) ∈ TG := TG_2 (i := 222) rfl rfl
theorem tw_2_223 : (Jvm.Cond.methodLink "JobWorkshop$Timetable" (102 : Nat) ({ cls := "JobWorkshop$Timetable", name := "hoursBetween", desc := "(II)I" } : Jvm.MethodName)) ∈ TG := TG_2 (i := 223) rfl rfl
theorem tw_2_225 : (Jvm.Cond.instanceMethod ({ cls := "JobWorkshop$Timetable", name := "hoursBetween", desc := "(II)I" } : Jvm.MethodName)) ∈ TG := TG_2 (i := 225) rfl rfl
theorem tw_2_226 : (Jvm.Cond.code ({ cls := "JobWorkshop$Timetable", name := "hoursBetween", desc := "(II)I" } : Jvm.MethodName) prog_10_method_9_code (4 : Nat) (Option.some Jvm.ClassFile.FieldType.int)) ∈ TG := TG_2 (i := 226) rfl rfl
theorem tw_2_227 : (Jvm.Cond.methodLink "JobWorkshop$Timetable" (83 : Nat) ({ cls := "JobWorkshop$Timetable", name := "needsTool", desc := "(II)Z" } : Jvm.MethodName)) ∈ TG := TG_2 (i := 227) rfl rfl
theorem tw_2_229 : (Jvm.Cond.instanceMethod ({ cls := "JobWorkshop$Timetable", name := "needsTool", desc := "(II)Z" } : Jvm.MethodName)) ∈ TG := TG_2 (i := 229) rfl rfl
theorem tw_2_230 : (Jvm.Cond.code ({ cls := "JobWorkshop$Timetable", name := "needsTool", desc := "(II)Z" } : Jvm.MethodName) prog_10_method_8_code (4 : Nat) (Option.some Jvm.ClassFile.FieldType.boolean)) ∈ TG := TG_2 (i := 230) rfl rfl
theorem tw_2_231 : (Jvm.Cond.methodLink "JobWorkshop$Timetable" (105 : Nat) ({ cls := "JobWorkshop$Shop", name := "firstOpen", desc := "(III)I" } : Jvm.MethodName)) ∈ TG := TG_2 (i := 231) rfl rfl
theorem tw_2_232 : (Jvm.Cond.instanceMethod ({ cls := "JobWorkshop$Shop", name := "firstOpen", desc := "(III)I" } : Jvm.MethodName)) ∈ TG := TG_2 (i := 232) rfl rfl
theorem tw_2_233 : (Jvm.Cond.selects "JobWorkshop$Shop" ({ cls := "JobWorkshop$Shop", name := "firstOpen", desc := "(III)I" } : Jvm.MethodName) ({ cls := "JobWorkshop$Shop", name := "firstOpen", desc := "(III)I" } : Jvm.MethodName)) ∈ TG := TG_2 (i := 233) rfl rfl
theorem tw_2_234 : (Jvm.Cond.code ({ cls := "JobWorkshop$Shop", name := "firstOpen", desc := "(III)I" } : Jvm.MethodName) prog_9_method_15_code (8 : Nat) (Option.some Jvm.ClassFile.FieldType.int)) ∈ TG := TG_2 (i := 234) rfl rfl
theorem tw_2_235 : (Jvm.Cond.methodLink "JobWorkshopLaw" (188 : Nat) ({ cls := "JobWorkshop", name := "jobs", desc := "()I" } : Jvm.MethodName)) ∈ TG := TG_2 (i := 235) rfl rfl
theorem tw_2_236 : (Jvm.Cond.instanceMethod ({ cls := "JobWorkshop", name := "jobs", desc := "()I" } : Jvm.MethodName)) ∈ TG := TG_2 (i := 236) rfl rfl
theorem tw_2_237 : (Jvm.Cond.selects "JobWorkshop" ({ cls := "JobWorkshop", name := "jobs", desc := "()I" } : Jvm.MethodName) ({ cls := "JobWorkshop", name := "jobs", desc := "()I" } : Jvm.MethodName)) ∈ TG := TG_2 (i := 237) rfl rfl
theorem tw_2_238 : (Jvm.Cond.code ({ cls := "JobWorkshop", name := "jobs", desc := "()I" } : Jvm.MethodName) prog_1_method_16_code (1 : Nat) (Option.some Jvm.ClassFile.FieldType.int)) ∈ TG := TG_2 (i := 238) rfl rfl
theorem tw_2_239 : (Jvm.Cond.methodLink "JobWorkshopLaw" (207 : Nat) ({ cls := "JobWorkshop", name := "bound", desc := "()I" } : Jvm.MethodName)) ∈ TG := TG_2 (i := 239) rfl rfl
theorem tw_3_0 : (Jvm.Cond.instanceMethod ({ cls := "JobWorkshop", name := "bound", desc := "()I" } : Jvm.MethodName)) ∈ TG := TG_3 (i := 0) rfl rfl
theorem tw_3_1 : (Jvm.Cond.selects "JobWorkshop" ({ cls := "JobWorkshop", name := "bound", desc := "()I" } : Jvm.MethodName) ({ cls := "JobWorkshop", name := "bound", desc := "()I" } : Jvm.MethodName)) ∈ TG := TG_3 (i := 1) rfl rfl
theorem tw_3_2 : (Jvm.Cond.code ({ cls := "JobWorkshop", name := "bound", desc := "()I" } : Jvm.MethodName) prog_1_method_22_code (1 : Nat) (Option.some Jvm.ClassFile.FieldType.int)) ∈ TG := TG_3 (i := 2) rfl rfl
theorem tw_3_3 : (Jvm.Cond.methodLink "JobWorkshop" (274 : Nat) ({ cls := "JobWorkshop$Shop", name := "leastHours", desc := "()I" } : Jvm.MethodName)) ∈ TG := TG_3 (i := 3) rfl rfl
theorem tw_3_4 : (Jvm.Cond.instanceMethod ({ cls := "JobWorkshop$Shop", name := "leastHours", desc := "()I" } : Jvm.MethodName)) ∈ TG := TG_3 (i := 4) rfl rfl
theorem tw_3_5 : (Jvm.Cond.selects "JobWorkshop$Shop" ({ cls := "JobWorkshop$Shop", name := "leastHours", desc := "()I" } : Jvm.MethodName) ({ cls := "JobWorkshop$Shop", name := "leastHours", desc := "()I" } : Jvm.MethodName)) ∈ TG := TG_3 (i := 5) rfl rfl
theorem tw_3_6 : (Jvm.Cond.code ({ cls := "JobWorkshop$Shop", name := "leastHours", desc := "()I" } : Jvm.MethodName) prog_9_method_13_code (3 : Nat) (Option.some Jvm.ClassFile.FieldType.int)) ∈ TG := TG_3 (i := 6) rfl rfl
theorem tw_3_7 : (Jvm.Cond.methodLink "JobWorkshop$Shop" (89 : Nat) ({ cls := "JobWorkshop$Shop", name := "hoursFrom", desc := "(II)I" } : Jvm.MethodName)) ∈ TG := TG_3 (i := 7) rfl rfl
theorem tw_3_8 : (Jvm.Cond.instanceMethod ({ cls := "JobWorkshop$Shop", name := "hoursFrom", desc := "(II)I" } : Jvm.MethodName)) ∈ TG := TG_3 (i := 8) rfl rfl
theorem tw_3_9 : (Jvm.Cond.selects "JobWorkshop$Shop" ({ cls := "JobWorkshop$Shop", name := "hoursFrom", desc := "(II)I" } : Jvm.MethodName) ({ cls := "JobWorkshop$Shop", name := "hoursFrom", desc := "(II)I" } : Jvm.MethodName)) ∈ TG := TG_3 (i := 9) rfl rfl
theorem tw_3_10 : (Jvm.Cond.code ({ cls := "JobWorkshop$Shop", name := "hoursFrom", desc := "(II)I" } : Jvm.MethodName) prog_9_method_11_code (5 : Nat) (Option.some Jvm.ClassFile.FieldType.int)) ∈ TG := TG_3 (i := 10) rfl rfl
theorem tw_3_11 : (Jvm.Cond.methodLink "JobWorkshop$Shop" (92 : Nat) ({ cls := "java/lang/Math", name := "max", desc := "(II)I" } : Jvm.MethodName)) ∈ TG := TG_3 (i := 11) rfl rfl
theorem tw_3_12 : (Jvm.Cond.methodLink "JobWorkshop$Shop" (95 : Nat) ({ cls := "JobWorkshop$Shop", name := "hoursOn", desc := "(I)I" } : Jvm.MethodName)) ∈ TG := TG_3 (i := 12) rfl rfl
theorem tw_3_13 : (Jvm.Cond.instanceMethod ({ cls := "JobWorkshop$Shop", name := "hoursOn", desc := "(I)I" } : Jvm.MethodName)) ∈ TG := TG_3 (i := 13) rfl rfl
theorem tw_3_14 : (Jvm.Cond.selects "JobWorkshop$Shop" ({ cls := "JobWorkshop$Shop", name := "hoursOn", desc := "(I)I" } : Jvm.MethodName) ({ cls := "JobWorkshop$Shop", name := "hoursOn", desc := "(I)I" } : Jvm.MethodName)) ∈ TG := TG_3 (i := 14) rfl rfl
theorem tw_3_15 : (Jvm.Cond.code ({ cls := "JobWorkshop$Shop", name := "hoursOn", desc := "(I)I" } : Jvm.MethodName) prog_9_method_12_code (6 : Nat) (Option.some Jvm.ClassFile.FieldType.int)) ∈ TG := TG_3 (i := 15) rfl rfl
theorem tw_3_16 : (Jvm.Cond.methodLink "JobWorkshopLaw" (236 : Nat) ({ cls := "JobWorkshop", name := "leastSum", desc := "()I" } : Jvm.MethodName)) ∈ TG := TG_3 (i := 16) rfl rfl
theorem tw_3_17 : (Jvm.Cond.instanceMethod ({ cls := "JobWorkshop", name := "leastSum", desc := "()I" } : Jvm.MethodName)) ∈ TG := TG_3 (i := 17) rfl rfl
theorem tw_3_18 : (Jvm.Cond.selects "JobWorkshop" ({ cls := "JobWorkshop", name := "leastSum", desc := "()I" } : Jvm.MethodName) ({ cls := "JobWorkshop", name := "leastSum", desc := "()I" } : Jvm.MethodName)) ∈ TG := TG_3 (i := 18) rfl rfl
theorem tw_3_19 : (Jvm.Cond.code ({ cls := "JobWorkshop", name := "leastSum", desc := "()I" } : Jvm.MethodName) prog_1_method_31_code (1 : Nat) (Option.some Jvm.ClassFile.FieldType.int)) ∈ TG := TG_3 (i := 19) rfl rfl
theorem tw_3_20 : (Jvm.Cond.methodLink "JobWorkshop" (306 : Nat) ({ cls := "JobWorkshop$Sequences", name := "sumOfEnds", desc := "()I" } : Jvm.MethodName)) ∈ TG := TG_3 (i := 20) rfl rfl
theorem tw_3_21 : (Jvm.Cond.instanceMethod ({ cls := "JobWorkshop$Sequences", name := "sumOfEnds", desc := "()I" } : Jvm.MethodName)) ∈ TG := TG_3 (i := 21) rfl rfl
theorem tw_3_22 : (Jvm.Cond.selects "JobWorkshop$Sequences" ({ cls := "JobWorkshop$Sequences", name := "sumOfEnds", desc := "()I" } : Jvm.MethodName) ({ cls := "JobWorkshop$Sequences", name := "sumOfEnds", desc := "()I" } : Jvm.MethodName)) ∈ TG := TG_3 (i := 22) rfl rfl
theorem tw_3_23 : (Jvm.Cond.code ({ cls := "JobWorkshop$Sequences", name := "sumOfEnds", desc := "()I" } : Jvm.MethodName) prog_7_method_4_code (4 : Nat) (Option.some Jvm.ClassFile.FieldType.int)) ∈ TG := TG_3 (i := 23) rfl rfl
theorem tw_3_24 : (Jvm.Cond.methodLink "JobWorkshop$Sequences" (43 : Nat) ({ cls := "JobWorkshop$Sequences", name := "sortByLength", desc := "()V" } : Jvm.MethodName)) ∈ TG := TG_3 (i := 24) rfl rfl
theorem tw_3_26 : (Jvm.Cond.instanceMethod ({ cls := "JobWorkshop$Sequences", name := "sortByLength", desc := "()V" } : Jvm.MethodName)) ∈ TG := TG_3 (i := 26) rfl rfl
theorem tw_3_27 : (Jvm.Cond.code ({ cls := "JobWorkshop$Sequences", name := "sortByLength", desc := "()V" } : Jvm.MethodName) prog_7_method_2_code (2 : Nat) (Option.none : Option Jvm.ClassFile.FieldType)) ∈ TG := TG_3 (i := 27) rfl rfl
theorem tw_3_28 : (Jvm.Cond.methodLink "JobWorkshop$Sequences" (22 : Nat) ({ cls := "JobWorkshop$KeyedJobs", name := "clear", desc := "()V" } : Jvm.MethodName)) ∈ TG := TG_3 (i := 28) rfl rfl
theorem tw_3_29 : (Jvm.Cond.instanceMethod ({ cls := "JobWorkshop$KeyedJobs", name := "clear", desc := "()V" } : Jvm.MethodName)) ∈ TG := TG_3 (i := 29) rfl rfl
theorem tw_3_30 : (Jvm.Cond.selects "JobWorkshop$KeyedJobs" ({ cls := "JobWorkshop$KeyedJobs", name := "clear", desc := "()V" } : Jvm.MethodName) ({ cls := "JobWorkshop$KeyedJobs", name := "clear", desc := "()V" } : Jvm.MethodName)) ∈ TG := TG_3 (i := 30) rfl rfl
theorem tw_3_31 : (Jvm.Cond.code ({ cls := "JobWorkshop$KeyedJobs", name := "clear", desc := "()V" } : Jvm.MethodName) prog_5_method_2_code (1 : Nat) (Option.none : Option Jvm.ClassFile.FieldType)) ∈ TG := TG_3 (i := 31) rfl rfl
theorem tw_3_32 : (Jvm.Cond.methodLink "JobWorkshop$Sequences" (31 : Nat) ({ cls := "JobWorkshop$Shop", name := "hoursFrom", desc := "(II)I" } : Jvm.MethodName)) ∈ TG := TG_3 (i := 32) rfl rfl
theorem tw_3_33 : (Jvm.Cond.methodLink "JobWorkshop$Sequences" (35 : Nat) ({ cls := "JobWorkshop$KeyedJobs", name := "insert", desc := "(II)V" } : Jvm.MethodName)) ∈ TG := TG_3 (i := 33) rfl rfl
theorem tw_3_34 : (Jvm.Cond.instanceMethod ({ cls := "JobWorkshop$KeyedJobs", name := "insert", desc := "(II)V" } : Jvm.MethodName)) ∈ TG := TG_3 (i := 34) rfl rfl
theorem tw_3_35 : (Jvm.Cond.selects "JobWorkshop$KeyedJobs" ({ cls := "JobWorkshop$KeyedJobs", name := "insert", desc := "(II)V" } : Jvm.MethodName) ({ cls := "JobWorkshop$KeyedJobs", name := "insert", desc := "(II)V" } : Jvm.MethodName)) ∈ TG := TG_3 (i := 35) rfl rfl
theorem tw_3_36 : (Jvm.Cond.code ({ cls := "JobWorkshop$KeyedJobs", name := "insert", desc := "(II)V" } : Jvm.MethodName) prog_5_method_3_code (4 : Nat) (Option.none : Option Jvm.ClassFile.FieldType)) ∈ TG := TG_3 (i := 36) rfl rfl
theorem tw_3_37 : (Jvm.Cond.methodLink "JobWorkshopLaw" (240 : Nat) ({ cls := "JobWorkshop", name := "leastLateness", desc := "()I" } : Jvm.MethodName)) ∈ TG := TG_3 (i := 37) rfl rfl
theorem tw_3_38 : (Jvm.Cond.instanceMethod ({ cls := "JobWorkshop", name := "leastLateness", desc := "()I" } : Jvm.MethodName)) ∈ TG := TG_3 (i := 38) rfl rfl
theorem tw_3_39 : (Jvm.Cond.selects "JobWorkshop" ({ cls := "JobWorkshop", name := "leastLateness", desc := "()I" } : Jvm.MethodName) ({ cls := "JobWorkshop", name := "leastLateness", desc := "()I" } : Jvm.MethodName)) ∈ TG := TG_3 (i := 39) rfl rfl
theorem tw_3_40 : (Jvm.Cond.code ({ cls := "JobWorkshop", name := "leastLateness", desc := "()I" } : Jvm.MethodName) prog_1_method_32_code (1 : Nat) (Option.some Jvm.ClassFile.FieldType.int)) ∈ TG := TG_3 (i := 40) rfl rfl
theorem tw_3_41 : (Jvm.Cond.methodLink "JobWorkshop" (309 : Nat) ({ cls := "JobWorkshop$Sequences", name := "greatestLateness", desc := "()I" } : Jvm.MethodName)) ∈ TG := TG_3 (i := 41) rfl rfl
theorem tw_3_42 : (Jvm.Cond.instanceMethod ({ cls := "JobWorkshop$Sequences", name := "greatestLateness", desc := "()I" } : Jvm.MethodName)) ∈ TG := TG_3 (i := 42) rfl rfl
theorem tw_3_43 : (Jvm.Cond.selects "JobWorkshop$Sequences" ({ cls := "JobWorkshop$Sequences", name := "greatestLateness", desc := "()I" } : Jvm.MethodName) ({ cls := "JobWorkshop$Sequences", name := "greatestLateness", desc := "()I" } : Jvm.MethodName)) ∈ TG := TG_3 (i := 43) rfl rfl
theorem tw_3_44 : (Jvm.Cond.code ({ cls := "JobWorkshop$Sequences", name := "greatestLateness", desc := "()I" } : Jvm.MethodName) prog_7_method_5_code (6 : Nat) (Option.some Jvm.ClassFile.FieldType.int)) ∈ TG := TG_3 (i := 44) rfl rfl
theorem tw_3_45 : (Jvm.Cond.methodLink "JobWorkshop$Sequences" (51 : Nat) ({ cls := "JobWorkshop$Sequences", name := "sortByDue", desc := "()V" } : Jvm.MethodName)) ∈ TG := TG_3 (i := 45) rfl rfl
theorem tw_3_47 : (Jvm.Cond.instanceMethod ({ cls := "JobWorkshop$Sequences", name := "sortByDue", desc := "()V" } : Jvm.MethodName)) ∈ TG := TG_3 (i := 47) rfl rfl
theorem tw_3_48 : (Jvm.Cond.code ({ cls := "JobWorkshop$Sequences", name := "sortByDue", desc := "()V" } : Jvm.MethodName) prog_7_method_3_code (2 : Nat) (Option.none : Option Jvm.ClassFile.FieldType)) ∈ TG := TG_3 (i := 48) rfl rfl
theorem tw_3_49 : (Jvm.Cond.methodLink "JobWorkshop$Sequences" (54 : Nat) ({ cls := "java/lang/Math", name := "max", desc := "(II)I" } : Jvm.MethodName)) ∈ TG := TG_3 (i := 49) rfl rfl
theorem tw_3_50 : (Jvm.Cond.methodLink "JobWorkshopLaw" (244 : Nat) ({ cls := "JobWorkshop", name := "fewestLate", desc := "()I" } : Jvm.MethodName)) ∈ TG := TG_3 (i := 50) rfl rfl
theorem tw_3_51 : (Jvm.Cond.instanceMethod ({ cls := "JobWorkshop", name := "fewestLate", desc := "()I" } : Jvm.MethodName)) ∈ TG := TG_3 (i := 51) rfl rfl
theorem tw_3_52 : (Jvm.Cond.selects "JobWorkshop" ({ cls := "JobWorkshop", name := "fewestLate", desc := "()I" } : Jvm.MethodName) ({ cls := "JobWorkshop", name := "fewestLate", desc := "()I" } : Jvm.MethodName)) ∈ TG := TG_3 (i := 52) rfl rfl
theorem tw_3_53 : (Jvm.Cond.code ({ cls := "JobWorkshop", name := "fewestLate", desc := "()I" } : Jvm.MethodName) prog_1_method_33_code (1 : Nat) (Option.some Jvm.ClassFile.FieldType.int)) ∈ TG := TG_3 (i := 53) rfl rfl
theorem tw_3_54 : (Jvm.Cond.methodLink "JobWorkshop" (312 : Nat) ({ cls := "JobWorkshop$Sequences", name := "droppedJobs", desc := "()I" } : Jvm.MethodName)) ∈ TG := TG_3 (i := 54) rfl rfl
theorem tw_3_55 : (Jvm.Cond.instanceMethod ({ cls := "JobWorkshop$Sequences", name := "droppedJobs", desc := "()I" } : Jvm.MethodName)) ∈ TG := TG_3 (i := 55) rfl rfl
theorem tw_3_56 : (Jvm.Cond.selects "JobWorkshop$Sequences" ({ cls := "JobWorkshop$Sequences", name := "droppedJobs", desc := "()I" } : Jvm.MethodName) ({ cls := "JobWorkshop$Sequences", name := "droppedJobs", desc := "()I" } : Jvm.MethodName)) ∈ TG := TG_3 (i := 56) rfl rfl
theorem tw_3_57 : (Jvm.Cond.code ({ cls := "JobWorkshop$Sequences", name := "droppedJobs", desc := "()I" } : Jvm.MethodName) prog_7_method_6_code (7 : Nat) (Option.some Jvm.ClassFile.FieldType.int)) ∈ TG := TG_3 (i := 57) rfl rfl
theorem tw_3_58 : (Jvm.Cond.methodLink "JobWorkshop$Sequences" (59 : Nat) ({ cls := "JobWorkshop$Sequences", name := "longestOf", desc := "(I)I" } : Jvm.MethodName)) ∈ TG := TG_3 (i := 58) rfl rfl
theorem tw_3_60 : (Jvm.Cond.instanceMethod ({ cls := "JobWorkshop$Sequences", name := "longestOf", desc := "(I)I" } : Jvm.MethodName)) ∈ TG := TG_3 (i := 60) rfl rfl
theorem tw_3_61 : (Jvm.Cond.code ({ cls := "JobWorkshop$Sequences", name := "longestOf", desc := "(I)I" } : Jvm.MethodName) prog_7_method_7_code (6 : Nat) (Option.some Jvm.ClassFile.FieldType.int)) ∈ TG := TG_3 (i := 61) rfl rfl
theorem tw_3_62 : (Jvm.Cond.methodLink "JobWorkshop" (315 : Nat) ({ cls := "java/lang/Integer", name := "bitCount", desc := "(I)I" } : Jvm.MethodName)) ∈ TG := TG_3 (i := 62) rfl rfl
theorem tw_3_63 : (Jvm.Cond.static ({ cls := "java/lang/Integer", name := "bitCount", desc := "(I)I" } : Jvm.MethodName)) ∈ TG := TG_3 (i := 63) rfl rfl
theorem tw_3_64 : (Jvm.Cond.code ({ cls := "java/lang/Integer", name := "bitCount", desc := "(I)I" } : Jvm.MethodName) prog_18_method_49_code (1 : Nat) (Option.some Jvm.ClassFile.FieldType.int)) ∈ TG := TG_3 (i := 64) rfl rfl
theorem tw_3_65 : (Jvm.Cond.constant "java/lang/Integer" (265 : Nat) (1431655765 : Int32)) ∈ TG := TG_3 (i := 65) rfl rfl
theorem tw_3_66 : (Jvm.Cond.constant "java/lang/Integer" (266 : Nat) (858993459 : Int32)) ∈ TG := TG_3 (i := 66) rfl rfl
theorem tw_3_67 : (Jvm.Cond.constant "java/lang/Integer" (267 : Nat) (252645135 : Int32)) ∈ TG := TG_3 (i := 67) rfl rfl
theorem tw_3_68 : (Jvm.Cond.methodLink "JobWorkshopLaw" (251 : Nat) ({ cls := "JobWorkshop", name := "leastEnd", desc := "()I" } : Jvm.MethodName)) ∈ TG := TG_3 (i := 68) rfl rfl
theorem tw_3_69 : (Jvm.Cond.instanceMethod ({ cls := "JobWorkshop", name := "leastEnd", desc := "()I" } : Jvm.MethodName)) ∈ TG := TG_3 (i := 69) rfl rfl
theorem tw_3_70 : (Jvm.Cond.selects "JobWorkshop" ({ cls := "JobWorkshop", name := "leastEnd", desc := "()I" } : Jvm.MethodName) ({ cls := "JobWorkshop", name := "leastEnd", desc := "()I" } : Jvm.MethodName)) ∈ TG := TG_3 (i := 70) rfl rfl
theorem tw_3_71 : (Jvm.Cond.code ({ cls := "JobWorkshop", name := "leastEnd", desc := "()I" } : Jvm.MethodName) prog_1_method_35_code (1 : Nat) (Option.some Jvm.ClassFile.FieldType.int)) ∈ TG := TG_3 (i := 71) rfl rfl
theorem tw_3_72 : (Jvm.Cond.methodLink "JobWorkshop" (320 : Nat) ({ cls := "JobWorkshop$Sequences", name := "endOnTwo", desc := "()I" } : Jvm.MethodName)) ∈ TG := TG_3 (i := 72) rfl rfl
theorem tw_3_73 : (Jvm.Cond.instanceMethod ({ cls := "JobWorkshop$Sequences", name := "endOnTwo", desc := "()I" } : Jvm.MethodName)) ∈ TG := TG_3 (i := 73) rfl rfl
theorem tw_3_74 : (Jvm.Cond.selects "JobWorkshop$Sequences" ({ cls := "JobWorkshop$Sequences", name := "endOnTwo", desc := "()I" } : Jvm.MethodName) ({ cls := "JobWorkshop$Sequences", name := "endOnTwo", desc := "()I" } : Jvm.MethodName)) ∈ TG := TG_3 (i := 74) rfl rfl
theorem tw_3_75 : (Jvm.Cond.code ({ cls := "JobWorkshop$Sequences", name := "endOnTwo", desc := "()I" } : Jvm.MethodName) prog_7_method_10_code (4 : Nat) (Option.some Jvm.ClassFile.FieldType.int)) ∈ TG := TG_3 (i := 75) rfl rfl
theorem tw_3_76 : (Jvm.Cond.methodLink "JobWorkshop$Sequences" (72 : Nat) ({ cls := "JobWorkshop$Sequences", name := "sortForTwo", desc := "()V" } : Jvm.MethodName)) ∈ TG := TG_3 (i := 76) rfl rfl
theorem tw_3_78 : (Jvm.Cond.instanceMethod ({ cls := "JobWorkshop$Sequences", name := "sortForTwo", desc := "()V" } : Jvm.MethodName)) ∈ TG := TG_3 (i := 78) rfl rfl
theorem tw_3_79 : (Jvm.Cond.code ({ cls := "JobWorkshop$Sequences", name := "sortForTwo", desc := "()V" } : Jvm.MethodName) prog_7_method_9_code (4 : Nat) (Option.none : Option Jvm.ClassFile.FieldType)) ∈ TG := TG_3 (i := 79) rfl rfl
theorem tw_3_80 : (Jvm.Cond.methodLink "JobWorkshop$Sequences" (69 : Nat) ({ cls := "JobWorkshop$Sequences", name := "hoursOfStep", desc := "(II)I" } : Jvm.MethodName)) ∈ TG := TG_3 (i := 80) rfl rfl
theorem tw_3_82 : (Jvm.Cond.instanceMethod ({ cls := "JobWorkshop$Sequences", name := "hoursOfStep", desc := "(II)I" } : Jvm.MethodName)) ∈ TG := TG_3 (i := 82) rfl rfl
theorem tw_3_83 : (Jvm.Cond.code ({ cls := "JobWorkshop$Sequences", name := "hoursOfStep", desc := "(II)I" } : Jvm.MethodName) prog_7_method_8_code (3 : Nat) (Option.some Jvm.ClassFile.FieldType.int)) ∈ TG := TG_3 (i := 83) rfl rfl
theorem tw_3_84 : (Jvm.Cond.methodLink "JobWorkshopLaw" (258 : Nat) ({ cls := "JobWorkshop", name := "leastSetup", desc := "()I" } : Jvm.MethodName)) ∈ TG := TG_3 (i := 84) rfl rfl
theorem tw_3_85 : (Jvm.Cond.instanceMethod ({ cls := "JobWorkshop", name := "leastSetup", desc := "()I" } : Jvm.MethodName)) ∈ TG := TG_3 (i := 85) rfl rfl
theorem tw_3_86 : (Jvm.Cond.selects "JobWorkshop" ({ cls := "JobWorkshop", name := "leastSetup", desc := "()I" } : Jvm.MethodName) ({ cls := "JobWorkshop", name := "leastSetup", desc := "()I" } : Jvm.MethodName)) ∈ TG := TG_3 (i := 86) rfl rfl
theorem tw_3_87 : (Jvm.Cond.code ({ cls := "JobWorkshop", name := "leastSetup", desc := "()I" } : Jvm.MethodName) prog_1_method_37_code (1 : Nat) (Option.some Jvm.ClassFile.FieldType.int)) ∈ TG := TG_3 (i := 87) rfl rfl
theorem tw_3_88 : (Jvm.Cond.methodLink "JobWorkshop" (329 : Nat) ({ cls := "JobWorkshop$SetupTour", name := "search", desc := "()V" } : Jvm.MethodName)) ∈ TG := TG_3 (i := 88) rfl rfl
theorem tw_3_89 : (Jvm.Cond.instanceMethod ({ cls := "JobWorkshop$SetupTour", name := "search", desc := "()V" } : Jvm.MethodName)) ∈ TG := TG_3 (i := 89) rfl rfl
theorem tw_3_90 : (Jvm.Cond.selects "JobWorkshop$SetupTour" ({ cls := "JobWorkshop$SetupTour", name := "search", desc := "()V" } : Jvm.MethodName) ({ cls := "JobWorkshop$SetupTour", name := "search", desc := "()V" } : Jvm.MethodName)) ∈ TG := TG_3 (i := 90) rfl rfl
theorem tw_3_91 : (Jvm.Cond.code ({ cls := "JobWorkshop$SetupTour", name := "search", desc := "()V" } : Jvm.MethodName) prog_8_method_2_code (1 : Nat) (Option.none : Option Jvm.ClassFile.FieldType)) ∈ TG := TG_3 (i := 91) rfl rfl
theorem tw_3_92 : (Jvm.Cond.methodLink "JobWorkshop$SetupTour" (30 : Nat) ({ cls := "JobWorkshop$SetupTour", name := "explore", desc := "(III)V" } : Jvm.MethodName)) ∈ TG := TG_3 (i := 92) rfl rfl
theorem tw_3_94 : (Jvm.Cond.instanceMethod ({ cls := "JobWorkshop$SetupTour", name := "explore", desc := "(III)V" } : Jvm.MethodName)) ∈ TG := TG_3 (i := 94) rfl rfl
theorem tw_3_95 : (Jvm.Cond.code ({ cls := "JobWorkshop$SetupTour", name := "explore", desc := "(III)V" } : Jvm.MethodName) prog_8_method_3_code (5 : Nat) (Option.none : Option Jvm.ClassFile.FieldType)) ∈ TG := TG_3 (i := 95) rfl rfl
theorem tw_3_96 : (Jvm.Cond.methodLink "JobWorkshop$SetupTour" (39 : Nat) ({ cls := "java/lang/System", name := "arraycopy", desc := "(Ljava/lang/Object;ILjava/lang/Object;II)V" } : Jvm.MethodName)) ∈ TG := TG_3 (i := 96) rfl rfl
theorem tw_3_97 : (Jvm.Cond.methodLink "JobWorkshop$SetupTour" (45 : Nat) ({ cls := "JobWorkshop$SetupTour", name := "hoursBehind", desc := "(II)I" } : Jvm.MethodName)) ∈ TG := TG_3 (i := 97) rfl rfl
theorem tw_3_99 : (Jvm.Cond.instanceMethod ({ cls := "JobWorkshop$SetupTour", name := "hoursBehind", desc := "(II)I" } : Jvm.MethodName)) ∈ TG := TG_3 (i := 99) rfl rfl
theorem tw_3_100 : (Jvm.Cond.code ({ cls := "JobWorkshop$SetupTour", name := "hoursBehind", desc := "(II)I" } : Jvm.MethodName) prog_8_method_4_code (3 : Nat) (Option.some Jvm.ClassFile.FieldType.int)) ∈ TG := TG_3 (i := 100) rfl rfl
theorem tw_3_101 : (Jvm.Cond.methodLink "JobWorkshopLaw" (285 : Nat) ({ cls := "JobWorkshop", name := "errors", desc := "()I" } : Jvm.MethodName)) ∈ TG := TG_3 (i := 101) rfl rfl
theorem tw_3_102 : (Jvm.Cond.instanceMethod ({ cls := "JobWorkshop", name := "errors", desc := "()I" } : Jvm.MethodName)) ∈ TG := TG_3 (i := 102) rfl rfl
theorem tw_3_103 : (Jvm.Cond.selects "JobWorkshop" ({ cls := "JobWorkshop", name := "errors", desc := "()I" } : Jvm.MethodName) ({ cls := "JobWorkshop", name := "errors", desc := "()I" } : Jvm.MethodName)) ∈ TG := TG_3 (i := 103) rfl rfl
theorem tw_3_104 : (Jvm.Cond.code ({ cls := "JobWorkshop", name := "errors", desc := "()I" } : Jvm.MethodName) prog_1_method_45_code (2 : Nat) (Option.some Jvm.ClassFile.FieldType.int)) ∈ TG := TG_3 (i := 104) rfl rfl
theorem tw_3_105 : (Jvm.Cond.methodLink "JobWorkshop" (194 : Nat) ({ cls := "JobWorkshop$Timetable", name := "aimed", desc := "(I)I" } : Jvm.MethodName)) ∈ TG := TG_3 (i := 105) rfl rfl
theorem tw_3_106 : (Jvm.Cond.instanceMethod ({ cls := "JobWorkshop$Timetable", name := "aimed", desc := "(I)I" } : Jvm.MethodName)) ∈ TG := TG_3 (i := 106) rfl rfl
theorem tw_3_107 : (Jvm.Cond.selects "JobWorkshop$Timetable" ({ cls := "JobWorkshop$Timetable", name := "aimed", desc := "(I)I" } : Jvm.MethodName) ({ cls := "JobWorkshop$Timetable", name := "aimed", desc := "(I)I" } : Jvm.MethodName)) ∈ TG := TG_3 (i := 107) rfl rfl
theorem tw_3_108 : (Jvm.Cond.code ({ cls := "JobWorkshop$Timetable", name := "aimed", desc := "(I)I" } : Jvm.MethodName) prog_10_method_23_code (6 : Nat) (Option.some Jvm.ClassFile.FieldType.int)) ∈ TG := TG_3 (i := 108) rfl rfl
theorem tw_3_109 : (Jvm.Cond.methodLink "JobWorkshop$Timetable" (154 : Nat) ({ cls := "JobWorkshop$Timetable", name := "leastEndOf", desc := "(I)I" } : Jvm.MethodName)) ∈ TG := TG_3 (i := 109) rfl rfl
theorem tw_3_110 : (Jvm.Cond.instanceMethod ({ cls := "JobWorkshop$Timetable", name := "leastEndOf", desc := "(I)I" } : Jvm.MethodName)) ∈ TG := TG_3 (i := 110) rfl rfl
theorem tw_3_111 : (Jvm.Cond.selects "JobWorkshop$Timetable" ({ cls := "JobWorkshop$Timetable", name := "leastEndOf", desc := "(I)I" } : Jvm.MethodName) ({ cls := "JobWorkshop$Timetable", name := "leastEndOf", desc := "(I)I" } : Jvm.MethodName)) ∈ TG := TG_3 (i := 111) rfl rfl
theorem tw_3_112 : (Jvm.Cond.code ({ cls := "JobWorkshop$Timetable", name := "leastEndOf", desc := "(I)I" } : Jvm.MethodName) prog_10_method_22_code (2 : Nat) (Option.some Jvm.ClassFile.FieldType.int)) ∈ TG := TG_3 (i := 112) rfl rfl
theorem tw_3_113 : (Jvm.Cond.methodLink "JobWorkshop$Timetable" (148 : Nat) ({ cls := "JobWorkshop$Timetable", name := "hoursLeft", desc := "(I)I" } : Jvm.MethodName)) ∈ TG := TG_3 (i := 113) rfl rfl
theorem tw_3_115 : (Jvm.Cond.instanceMethod ({ cls := "JobWorkshop$Timetable", name := "hoursLeft", desc := "(I)I" } : Jvm.MethodName)) ∈ TG := TG_3 (i := 115) rfl rfl
theorem tw_3_116 : (Jvm.Cond.code ({ cls := "JobWorkshop$Timetable", name := "hoursLeft", desc := "(I)I" } : Jvm.MethodName) prog_10_method_21_code (2 : Nat) (Option.some Jvm.ClassFile.FieldType.int)) ∈ TG := TG_3 (i := 116) rfl rfl
theorem tw_3_117 : (Jvm.Cond.methodLink "JobWorkshop$Timetable" (151 : Nat) ({ cls := "JobWorkshop$Shop", name := "hoursFrom", desc := "(II)I" } : Jvm.MethodName)) ∈ TG := TG_3 (i := 117) rfl rfl
theorem tw_3_118 : (Jvm.Cond.methodLink "JobWorkshop" (358 : Nat) ({ cls := "JobWorkshop$HourCheck", name := "wrongHours", desc := "()I" } : Jvm.MethodName)) ∈ TG := TG_3 (i := 118) rfl rfl
theorem tw_3_119 : (Jvm.Cond.instanceMethod ({ cls := "JobWorkshop$HourCheck", name := "wrongHours", desc := "()I" } : Jvm.MethodName)) ∈ TG := TG_3 (i := 119) rfl rfl
theorem tw_3_120 : (Jvm.Cond.selects "JobWorkshop$HourCheck" ({ cls := "JobWorkshop$HourCheck", name := "wrongHours", desc := "()I" } : Jvm.MethodName) ({ cls := "JobWorkshop$HourCheck", name := "wrongHours", desc := "()I" } : Jvm.MethodName)) ∈ TG := TG_3 (i := 120) rfl rfl
theorem tw_3_121 : (Jvm.Cond.code ({ cls := "JobWorkshop$HourCheck", name := "wrongHours", desc := "()I" } : Jvm.MethodName) prog_4_method_2_code (3 : Nat) (Option.some Jvm.ClassFile.FieldType.int)) ∈ TG := TG_3 (i := 121) rfl rfl
theorem tw_3_122 : (Jvm.Cond.methodLink "JobWorkshop$HourCheck" (23 : Nat) ({ cls := "java/util/Arrays", name := "fill", desc := "([II)V" } : Jvm.MethodName)) ∈ TG := TG_3 (i := 122) rfl rfl
theorem tw_3_123 : (Jvm.Cond.methodLink "JobWorkshop$HourCheck" (38 : Nat) ({ cls := "JobWorkshop$HourCheck", name := "markStep", desc := "(II)V" } : Jvm.MethodName)) ∈ TG := TG_3 (i := 123) rfl rfl
theorem tw_3_125 : (Jvm.Cond.instanceMethod ({ cls := "JobWorkshop$HourCheck", name := "markStep", desc := "(II)V" } : Jvm.MethodName)) ∈ TG := TG_3 (i := 125) rfl rfl
theorem tw_3_126 : (Jvm.Cond.code ({ cls := "JobWorkshop$HourCheck", name := "markStep", desc := "(II)V" } : Jvm.MethodName) prog_4_method_3_code (8 : Nat) (Option.none : Option Jvm.ClassFile.FieldType)) ∈ TG := TG_3 (i := 126) rfl rfl
theorem tw_3_127 : (Jvm.Cond.methodLink "JobWorkshop$HourCheck" (45 : Nat) ({ cls := "JobWorkshop$Timetable", name := "endOfStep", desc := "(I)I" } : Jvm.MethodName)) ∈ TG := TG_3 (i := 127) rfl rfl
theorem tw_3_128 : (Jvm.Cond.methodLink "JobWorkshop$HourCheck" (51 : Nat) ({ cls := "java/lang/Math", name := "min", desc := "(II)I" } : Jvm.MethodName)) ∈ TG := TG_3 (i := 128) rfl rfl
theorem tw_3_129 : (Jvm.Cond.methodLink "JobWorkshop$HourCheck" (60 : Nat) ({ cls := "java/lang/Math", name := "max", desc := "(II)I" } : Jvm.MethodName)) ∈ TG := TG_3 (i := 129) rfl rfl
theorem tw_3_130 : (Jvm.Cond.methodLink "JobWorkshop$HourCheck" (63 : Nat) ({ cls := "JobWorkshop$Shop", name := "isClosedIn", desc := "(II)Z" } : Jvm.MethodName)) ∈ TG := TG_3 (i := 130) rfl rfl
theorem tw_3_131 : (Jvm.Cond.instanceMethod ({ cls := "JobWorkshop$Shop", name := "isClosedIn", desc := "(II)Z" } : Jvm.MethodName)) ∈ TG := TG_3 (i := 131) rfl rfl
theorem tw_3_132 : (Jvm.Cond.selects "JobWorkshop$Shop" ({ cls := "JobWorkshop$Shop", name := "isClosedIn", desc := "(II)Z" } : Jvm.MethodName) ({ cls := "JobWorkshop$Shop", name := "isClosedIn", desc := "(II)Z" } : Jvm.MethodName)) ∈ TG := TG_3 (i := 132) rfl rfl
theorem tw_3_133 : (Jvm.Cond.code ({ cls := "JobWorkshop$Shop", name := "isClosedIn", desc := "(II)Z" } : Jvm.MethodName) prog_9_method_14_code (5 : Nat) (Option.some Jvm.ClassFile.FieldType.boolean)) ∈ TG := TG_3 (i := 133) rfl rfl
theorem tw_3_134 : (Jvm.Cond.methodLink "JobWorkshopLaw" (133 : Nat) ({ cls := "JobWorkshopLaw", name := "close", desc := "(LJobWorkshop;III[J)I" } : Jvm.MethodName)) ∈ TG := TG_3 (i := 134) rfl rfl
theorem tw_3_135 : (Jvm.Cond.static ({ cls := "JobWorkshopLaw", name := "close", desc := "(LJobWorkshop;III[J)I" } : Jvm.MethodName)) ∈ TG := TG_3 (i := 135) rfl rfl
theorem tw_3_136 : (Jvm.Cond.codeWith ({ cls := "JobWorkshopLaw", name := "close", desc := "(LJobWorkshop;III[J)I" } : Jvm.MethodName) method_3_code (6 : Nat) (Option.some Jvm.ClassFile.FieldType.int) [((0 : Nat), (12 : Nat), (15 : Nat), (13 : Nat)), ((0 : Nat), (12 : Nat), (19 : Nat), (15 : Nat)), ((0 : Nat), (12 : Nat), (23 : Nat), (17 : Nat))]) ∈ TG := TG_3 (i := 136) rfl rfl
theorem tw_3_137 : (Jvm.Cond.classLink "JobWorkshopLaw" (13 : Nat) "java/lang/IndexOutOfBoundsException") ∈ TG := TG_3 (i := 137) rfl rfl
theorem tw_3_138 : (Jvm.Cond.classLink "JobWorkshopLaw" (15 : Nat) "java/lang/IllegalArgumentException") ∈ TG := TG_3 (i := 138) rfl rfl
theorem tw_3_139 : (Jvm.Cond.classLink "JobWorkshopLaw" (17 : Nat) "java/lang/IllegalStateException") ∈ TG := TG_3 (i := 139) rfl rfl
theorem tw_3_140 : (Jvm.Cond.methodLink "JobWorkshopLaw" (7 : Nat) ({ cls := "JobWorkshop", name := "close", desc := "(III)I" } : Jvm.MethodName)) ∈ TG := TG_3 (i := 140) rfl rfl
theorem tw_3_141 : (Jvm.Cond.instanceMethod ({ cls := "JobWorkshop", name := "close", desc := "(III)I" } : Jvm.MethodName)) ∈ TG := TG_3 (i := 141) rfl rfl
theorem tw_3_142 : (Jvm.Cond.selects "JobWorkshop" ({ cls := "JobWorkshop", name := "close", desc := "(III)I" } : Jvm.MethodName) ({ cls := "JobWorkshop", name := "close", desc := "(III)I" } : Jvm.MethodName)) ∈ TG := TG_3 (i := 142) rfl rfl
theorem tw_3_143 : (Jvm.Cond.code ({ cls := "JobWorkshop", name := "close", desc := "(III)I" } : Jvm.MethodName) prog_1_method_2_code (4 : Nat) (Option.some Jvm.ClassFile.FieldType.int)) ∈ TG := TG_3 (i := 143) rfl rfl
theorem tw_3_144 : (Jvm.Cond.methodLink "JobWorkshop" (98 : Nat) ({ cls := "JobWorkshop", name := "needMachine", desc := "(I)V" } : Jvm.MethodName)) ∈ TG := TG_3 (i := 144) rfl rfl
theorem tw_3_145 : (Jvm.Cond.static ({ cls := "JobWorkshop", name := "needMachine", desc := "(I)V" } : Jvm.MethodName)) ∈ TG := TG_3 (i := 145) rfl rfl
theorem tw_3_146 : (Jvm.Cond.code ({ cls := "JobWorkshop", name := "needMachine", desc := "(I)V" } : Jvm.MethodName) prog_1_method_46_code (1 : Nat) (Option.none : Option Jvm.ClassFile.FieldType)) ∈ TG := TG_3 (i := 146) rfl rfl
theorem tw_3_147 : (Jvm.Cond.classLink "JobWorkshop" (200 : Nat) "java/lang/IndexOutOfBoundsException") ∈ TG := TG_3 (i := 147) rfl rfl
theorem tw_3_148 : (Jvm.Cond.instantiable "java/lang/IndexOutOfBoundsException" (6 : Nat)) ∈ TG := TG_3 (i := 148) rfl rfl
theorem tt_3_149 : (Jvm.Cond.castable "java/lang/IndexOutOfBoundsException" "java/lang/IndexOutOfBoundsException") ∈ lw_tbl := TT_3 (i := 149) rfl
theorem tt_3_150 : (Jvm.Cond.declares ({ cls := "java/lang/RuntimeException", name := "<init>", desc := "()V" } : Jvm.MethodName)) ∈ lw_tbl := TT_3 (i := 150) rfl
theorem tt_3_151 : (Jvm.Cond.declares ({ cls := "java/lang/RuntimeException", name := "<init>", desc := "(Ljava/lang/String;)V" } : Jvm.MethodName)) ∈ lw_tbl := TT_3 (i := 151) rfl
theorem tt_3_152 : (Jvm.Cond.declares ({ cls := "java/lang/Exception", name := "<init>", desc := "()V" } : Jvm.MethodName)) ∈ lw_tbl := TT_3 (i := 152) rfl
theorem tt_3_153 : (Jvm.Cond.declares ({ cls := "java/lang/Exception", name := "<init>", desc := "(Ljava/lang/String;)V" } : Jvm.MethodName)) ∈ lw_tbl := TT_3 (i := 153) rfl
theorem tt_3_154 : (Jvm.Cond.declares ({ cls := "java/lang/Throwable", name := "<init>", desc := "()V" } : Jvm.MethodName)) ∈ lw_tbl := TT_3 (i := 154) rfl
theorem tt_3_155 : (Jvm.Cond.declares ({ cls := "java/lang/Throwable", name := "<init>", desc := "(Ljava/lang/String;)V" } : Jvm.MethodName)) ∈ lw_tbl := TT_3 (i := 155) rfl
theorem tw_3_156 : (Jvm.Cond.selects "java/lang/IndexOutOfBoundsException" ({ cls := "java/lang/Throwable", name := "fillInStackTrace", desc := "(I)Ljava/lang/Throwable;" } : Jvm.MethodName) ({ cls := "java/lang/Throwable", name := "fillInStackTrace", desc := "(I)Ljava/lang/Throwable;" } : Jvm.MethodName)) ∈ TG := TG_3 (i := 156) rfl rfl
theorem tw_3_157 : (Jvm.Cond.selects "java/lang/IndexOutOfBoundsException" ({ cls := "java/lang/Throwable", name := "fillInStackTrace", desc := "()Ljava/lang/Throwable;" } : Jvm.MethodName) ({ cls := "java/lang/Throwable", name := "fillInStackTrace", desc := "()Ljava/lang/Throwable;" } : Jvm.MethodName)) ∈ TG := TG_3 (i := 157) rfl rfl
theorem tw_3_158 : (Jvm.Cond.lays "java/lang/IndexOutOfBoundsException" "java/lang/Throwable" "cause" "Ljava/lang/Throwable;") ∈ TG := TG_3 (i := 158) rfl rfl
theorem tw_3_159 : (Jvm.Cond.lays "java/lang/Throwable" "java/lang/Throwable" "cause" "Ljava/lang/Throwable;") ∈ TG := TG_3 (i := 159) rfl rfl
theorem tw_3_160 : (Jvm.Cond.lays "java/lang/IndexOutOfBoundsException" "java/lang/Throwable" "stackTrace" "[Ljava/lang/StackTraceElement;") ∈ TG := TG_3 (i := 160) rfl rfl
theorem tw_3_161 : (Jvm.Cond.lays "java/lang/Throwable" "java/lang/Throwable" "stackTrace" "[Ljava/lang/StackTraceElement;") ∈ TG := TG_3 (i := 161) rfl rfl
theorem tw_3_162 : (Jvm.Cond.lays "java/lang/IndexOutOfBoundsException" "java/lang/Throwable" "suppressedExceptions" "Ljava/util/List;") ∈ TG := TG_3 (i := 162) rfl rfl
theorem tw_3_163 : (Jvm.Cond.lays "java/lang/Throwable" "java/lang/Throwable" "suppressedExceptions" "Ljava/util/List;") ∈ TG := TG_3 (i := 163) rfl rfl
theorem tw_3_164 : (Jvm.Cond.lays "java/lang/IndexOutOfBoundsException" "java/lang/Throwable" "detailMessage" "Ljava/lang/String;") ∈ TG := TG_3 (i := 164) rfl rfl
theorem tw_3_165 : (Jvm.Cond.lays "java/lang/Throwable" "java/lang/Throwable" "detailMessage" "Ljava/lang/String;") ∈ TG := TG_3 (i := 165) rfl rfl
theorem tw_3_166 : (Jvm.Cond.lays "java/lang/IndexOutOfBoundsException" "java/lang/Throwable" "backtrace" "Ljava/lang/Object;") ∈ TG := TG_3 (i := 166) rfl rfl
theorem tw_3_167 : (Jvm.Cond.lays "java/lang/Throwable" "java/lang/Throwable" "backtrace" "Ljava/lang/Object;") ∈ TG := TG_3 (i := 167) rfl rfl
theorem tw_3_168 : (Jvm.Cond.fieldLink "java/lang/Throwable" (198 : Nat) "java/lang/Throwable" "backtrace" "Ljava/lang/Object;") ∈ TG := TG_3 (i := 168) rfl rfl
theorem tw_3_169 : (Jvm.Cond.superclass "java/lang/Throwable" "java/lang/Object") ∈ TG := TG_3 (i := 169) rfl rfl
theorem tw_3_170 : (Jvm.Cond.instanceMethod ({ cls := "java/lang/Throwable", name := "<init>", desc := "()V" } : Jvm.MethodName)) ∈ TG := TG_3 (i := 170) rfl rfl
theorem tw_3_171 : (Jvm.Cond.code ({ cls := "java/lang/Throwable", name := "<init>", desc := "()V" } : Jvm.MethodName) prog_23_method_1_code (1 : Nat) (Option.none : Option Jvm.ClassFile.FieldType)) ∈ TG := TG_3 (i := 171) rfl rfl
theorem tw_3_172 : (Jvm.Cond.methodLink "java/lang/Throwable" (1 : Nat) ({ cls := "java/lang/Object", name := "<init>", desc := "()V" } : Jvm.MethodName)) ∈ TG := TG_3 (i := 172) rfl rfl
theorem tw_3_173 : (Jvm.Cond.fieldLink "java/lang/Throwable" (13 : Nat) "java/lang/Throwable" "UNASSIGNED_STACK" "[Ljava/lang/StackTraceElement;") ∈ TG := TG_3 (i := 173) rfl rfl
theorem tw_3_175 : (Jvm.Cond.fieldLink "java/lang/Throwable" (20 : Nat) "java/lang/Throwable" "SUPPRESSED_SENTINEL" "Ljava/util/List;") ∈ TG := TG_3 (i := 175) rfl rfl
theorem tw_3_177 : (Jvm.Cond.methodLink "java/lang/Throwable" (27 : Nat) ({ cls := "java/lang/Throwable", name := "fillInStackTrace", desc := "()Ljava/lang/Throwable;" } : Jvm.MethodName)) ∈ TG := TG_3 (i := 177) rfl rfl
theorem tw_3_178 : (Jvm.Cond.instanceMethod ({ cls := "java/lang/Throwable", name := "fillInStackTrace", desc := "()Ljava/lang/Throwable;" } : Jvm.MethodName)) ∈ TG := TG_3 (i := 178) rfl rfl
theorem tw_3_179 : (Jvm.Cond.sameMethod "java/lang/Throwable" "java/lang/Throwable" "fillInStackTrace" "()Ljava/lang/Throwable;") ∈ TG := TG_3 (i := 179) rfl rfl
theorem tw_3_180 : (Jvm.Cond.selects "java/lang/IllegalArgumentException" ({ cls := "java/lang/Throwable", name := "fillInStackTrace", desc := "()Ljava/lang/Throwable;" } : Jvm.MethodName) ({ cls := "java/lang/Throwable", name := "fillInStackTrace", desc := "()Ljava/lang/Throwable;" } : Jvm.MethodName)) ∈ TG := TG_3 (i := 180) rfl rfl
theorem tw_3_181 : (Jvm.Cond.selects "java/lang/IllegalStateException" ({ cls := "java/lang/Throwable", name := "fillInStackTrace", desc := "()Ljava/lang/Throwable;" } : Jvm.MethodName) ({ cls := "java/lang/Throwable", name := "fillInStackTrace", desc := "()Ljava/lang/Throwable;" } : Jvm.MethodName)) ∈ TG := TG_3 (i := 181) rfl rfl
theorem tw_3_182 : (Jvm.Cond.codeSync ({ cls := "java/lang/Throwable", name := "fillInStackTrace", desc := "()Ljava/lang/Throwable;" } : Jvm.MethodName) prog_23_method_18_code (1 : Nat) (Option.some (Jvm.ClassFile.FieldType.object "java/lang/Throwable"))) ∈ TG := TG_3 (i := 182) rfl rfl
theorem tw_3_183 : (Jvm.Cond.methodLink "java/lang/Throwable" (202 : Nat) ({ cls := "java/lang/Throwable", name := "fillInStackTrace", desc := "(I)Ljava/lang/Throwable;" } : Jvm.MethodName)) ∈ TG := TG_3 (i := 183) rfl rfl
theorem tw_3_185 : (Jvm.Cond.instanceMethod ({ cls := "java/lang/Throwable", name := "fillInStackTrace", desc := "(I)Ljava/lang/Throwable;" } : Jvm.MethodName)) ∈ TG := TG_3 (i := 185) rfl rfl
theorem tw_3_186 : (Jvm.Cond.instantiable "java/lang/Throwable" (6 : Nat)) ∈ TG := TG_3 (i := 186) rfl rfl
theorem tw_3_187 : (Jvm.Cond.native ({ cls := "java/lang/Throwable", name := "fillInStackTrace", desc := "(I)Ljava/lang/Throwable;" } : Jvm.MethodName)) ∈ TG := TG_3 (i := 187) rfl rfl
theorem tt_3_188 : (Jvm.Cond.stringRef "JobWorkshop" (361 : Nat) "no such machine") ∈ lw_tbl := TT_3 (i := 188) rfl
theorem tw_3_189 : (Jvm.Cond.methodLink "JobWorkshop" (204 : Nat) ({ cls := "java/lang/IndexOutOfBoundsException", name := "<init>", desc := "(Ljava/lang/String;)V" } : Jvm.MethodName)) ∈ TG := TG_3 (i := 189) rfl rfl
theorem tw_3_190 : (Jvm.Cond.instanceMethod ({ cls := "java/lang/IndexOutOfBoundsException", name := "<init>", desc := "(Ljava/lang/String;)V" } : Jvm.MethodName)) ∈ TG := TG_3 (i := 190) rfl rfl
theorem tw_3_191 : (Jvm.Cond.code ({ cls := "java/lang/IndexOutOfBoundsException", name := "<init>", desc := "(Ljava/lang/String;)V" } : Jvm.MethodName) prog_17_method_2_code (2 : Nat) (Option.none : Option Jvm.ClassFile.FieldType)) ∈ TG := TG_3 (i := 191) rfl rfl
theorem tw_3_192 : (Jvm.Cond.methodLink "java/lang/IndexOutOfBoundsException" (7 : Nat) ({ cls := "java/lang/RuntimeException", name := "<init>", desc := "(Ljava/lang/String;)V" } : Jvm.MethodName)) ∈ TG := TG_3 (i := 192) rfl rfl
theorem tw_3_193 : (Jvm.Cond.instanceMethod ({ cls := "java/lang/RuntimeException", name := "<init>", desc := "(Ljava/lang/String;)V" } : Jvm.MethodName)) ∈ TG := TG_3 (i := 193) rfl rfl
theorem tw_3_194 : (Jvm.Cond.code ({ cls := "java/lang/RuntimeException", name := "<init>", desc := "(Ljava/lang/String;)V" } : Jvm.MethodName) prog_20_method_2_code (2 : Nat) (Option.none : Option Jvm.ClassFile.FieldType)) ∈ TG := TG_3 (i := 194) rfl rfl
theorem tw_3_195 : (Jvm.Cond.methodLink "java/lang/RuntimeException" (7 : Nat) ({ cls := "java/lang/Exception", name := "<init>", desc := "(Ljava/lang/String;)V" } : Jvm.MethodName)) ∈ TG := TG_3 (i := 195) rfl rfl
theorem tw_3_196 : (Jvm.Cond.instanceMethod ({ cls := "java/lang/Exception", name := "<init>", desc := "(Ljava/lang/String;)V" } : Jvm.MethodName)) ∈ TG := TG_3 (i := 196) rfl rfl
theorem tw_3_197 : (Jvm.Cond.code ({ cls := "java/lang/Exception", name := "<init>", desc := "(Ljava/lang/String;)V" } : Jvm.MethodName) prog_14_method_2_code (2 : Nat) (Option.none : Option Jvm.ClassFile.FieldType)) ∈ TG := TG_3 (i := 197) rfl rfl
theorem tw_3_198 : (Jvm.Cond.methodLink "java/lang/Exception" (7 : Nat) ({ cls := "java/lang/Throwable", name := "<init>", desc := "(Ljava/lang/String;)V" } : Jvm.MethodName)) ∈ TG := TG_3 (i := 198) rfl rfl
theorem tw_3_199 : (Jvm.Cond.instanceMethod ({ cls := "java/lang/Throwable", name := "<init>", desc := "(Ljava/lang/String;)V" } : Jvm.MethodName)) ∈ TG := TG_3 (i := 199) rfl rfl
theorem tw_3_200 : (Jvm.Cond.code ({ cls := "java/lang/Throwable", name := "<init>", desc := "(Ljava/lang/String;)V" } : Jvm.MethodName) prog_23_method_2_code (2 : Nat) (Option.none : Option Jvm.ClassFile.FieldType)) ∈ TG := TG_3 (i := 200) rfl rfl
theorem tw_3_201 : (Jvm.Cond.fieldLink "java/lang/Throwable" (198 : Nat) "java/lang/Throwable" "backtrace" "Ljava/lang/Object;") ∈ TG := TG_3 (i := 201) rfl rfl
theorem tw_3_202 : (Jvm.Cond.fieldLink "java/lang/Throwable" (31 : Nat) "java/lang/Throwable" "detailMessage" "Ljava/lang/String;") ∈ TG := TG_3 (i := 202) rfl rfl
theorem tw_3_203 : (Jvm.Cond.fieldLink "java/lang/Throwable" (7 : Nat) "java/lang/Throwable" "cause" "Ljava/lang/Throwable;") ∈ TG := TG_3 (i := 203) rfl rfl
theorem tw_3_204 : (Jvm.Cond.fieldLink "java/lang/Throwable" (17 : Nat) "java/lang/Throwable" "stackTrace" "[Ljava/lang/StackTraceElement;") ∈ TG := TG_3 (i := 204) rfl rfl
theorem tw_3_205 : (Jvm.Cond.fieldLink "java/lang/Throwable" (24 : Nat) "java/lang/Throwable" "suppressedExceptions" "Ljava/util/List;") ∈ TG := TG_3 (i := 205) rfl rfl
theorem tw_3_210 : (Jvm.Cond.lays "java/lang/IndexOutOfBoundsException" "java/lang/Throwable" "depth" "I") ∈ TG := TG_3 (i := 210) rfl rfl
theorem tw_3_213 : (Jvm.Cond.superclass "java/lang/IndexOutOfBoundsException" "java/lang/RuntimeException") ∈ TG := TG_3 (i := 213) rfl rfl
theorem tw_3_214 : (Jvm.Cond.arrayClass Jvm.ClassFile.FieldType.byte) ∈ TG := TG_3 (i := 214) rfl rfl
theorem tw_3_215 : (Jvm.Cond.methodLink "JobWorkshop" (102 : Nat) ({ cls := "JobWorkshop", name := "needRange", desc := "(III)V" } : Jvm.MethodName)) ∈ TG := TG_3 (i := 215) rfl rfl
theorem tw_3_216 : (Jvm.Cond.static ({ cls := "JobWorkshop", name := "needRange", desc := "(III)V" } : Jvm.MethodName)) ∈ TG := TG_3 (i := 216) rfl rfl
theorem tw_3_217 : (Jvm.Cond.code ({ cls := "JobWorkshop", name := "needRange", desc := "(III)V" } : Jvm.MethodName) prog_1_method_51_code (3 : Nat) (Option.none : Option Jvm.ClassFile.FieldType)) ∈ TG := TG_3 (i := 217) rfl rfl
theorem tw_3_218 : (Jvm.Cond.classLink "JobWorkshop" (178 : Nat) "java/lang/IllegalArgumentException") ∈ TG := TG_3 (i := 218) rfl rfl
theorem tw_3_219 : (Jvm.Cond.instantiable "java/lang/IllegalArgumentException" (6 : Nat)) ∈ TG := TG_3 (i := 219) rfl rfl
theorem tt_3_220 : (Jvm.Cond.castable "java/lang/IllegalArgumentException" "java/lang/IllegalArgumentException") ∈ lw_tbl := TT_3 (i := 220) rfl
theorem tw_3_221 : (Jvm.Cond.selects "java/lang/IllegalArgumentException" ({ cls := "java/lang/Throwable", name := "fillInStackTrace", desc := "(I)Ljava/lang/Throwable;" } : Jvm.MethodName) ({ cls := "java/lang/Throwable", name := "fillInStackTrace", desc := "(I)Ljava/lang/Throwable;" } : Jvm.MethodName)) ∈ TG := TG_3 (i := 221) rfl rfl
theorem tw_3_222 : (Jvm.Cond.lays "java/lang/IllegalArgumentException" "java/lang/Throwable" "cause" "Ljava/lang/Throwable;") ∈ TG := TG_3 (i := 222) rfl rfl
theorem tw_3_223 : (Jvm.Cond.lays "java/lang/IllegalArgumentException" "java/lang/Throwable" "stackTrace" "[Ljava/lang/StackTraceElement;") ∈ TG := TG_3 (i := 223) rfl rfl
theorem tw_3_224 : (Jvm.Cond.lays "java/lang/IllegalArgumentException" "java/lang/Throwable" "suppressedExceptions" "Ljava/util/List;") ∈ TG := TG_3 (i := 224) rfl rfl
theorem tw_3_225 : (Jvm.Cond.lays "java/lang/IllegalArgumentException" "java/lang/Throwable" "detailMessage" "Ljava/lang/String;") ∈ TG := TG_3 (i := 225) rfl rfl
theorem tw_3_226 : (Jvm.Cond.lays "java/lang/IllegalArgumentException" "java/lang/Throwable" "backtrace" "Ljava/lang/Object;") ∈ TG := TG_3 (i := 226) rfl rfl
theorem tt_3_227 : (Jvm.Cond.stringRef "JobWorkshop" (369 : Nat) "a number is out of range") ∈ lw_tbl := TT_3 (i := 227) rfl
theorem tw_3_228 : (Jvm.Cond.methodLink "JobWorkshop" (182 : Nat) ({ cls := "java/lang/IllegalArgumentException", name := "<init>", desc := "(Ljava/lang/String;)V" } : Jvm.MethodName)) ∈ TG := TG_3 (i := 228) rfl rfl
theorem tw_3_229 : (Jvm.Cond.instanceMethod ({ cls := "java/lang/IllegalArgumentException", name := "<init>", desc := "(Ljava/lang/String;)V" } : Jvm.MethodName)) ∈ TG := TG_3 (i := 229) rfl rfl
theorem tw_3_230 : (Jvm.Cond.code ({ cls := "java/lang/IllegalArgumentException", name := "<init>", desc := "(Ljava/lang/String;)V" } : Jvm.MethodName) prog_15_method_2_code (2 : Nat) (Option.none : Option Jvm.ClassFile.FieldType)) ∈ TG := TG_3 (i := 230) rfl rfl
theorem tw_3_231 : (Jvm.Cond.methodLink "java/lang/IllegalArgumentException" (7 : Nat) ({ cls := "java/lang/RuntimeException", name := "<init>", desc := "(Ljava/lang/String;)V" } : Jvm.MethodName)) ∈ TG := TG_3 (i := 231) rfl rfl
theorem tw_3_232 : (Jvm.Cond.lays "java/lang/IllegalArgumentException" "java/lang/Throwable" "depth" "I") ∈ TG := TG_3 (i := 232) rfl rfl
theorem tw_3_233 : (Jvm.Cond.superclass "java/lang/IllegalArgumentException" "java/lang/RuntimeException") ∈ TG := TG_3 (i := 233) rfl rfl
theorem tw_3_234 : (Jvm.Cond.classLink "JobWorkshop" (109 : Nat) "java/lang/IllegalStateException") ∈ TG := TG_3 (i := 234) rfl rfl
theorem tw_3_235 : (Jvm.Cond.instantiable "java/lang/IllegalStateException" (6 : Nat)) ∈ TG := TG_3 (i := 235) rfl rfl
theorem tt_3_236 : (Jvm.Cond.castable "java/lang/IllegalStateException" "java/lang/IllegalStateException") ∈ lw_tbl := TT_3 (i := 236) rfl
theorem tw_3_237 : (Jvm.Cond.selects "java/lang/IllegalStateException" ({ cls := "java/lang/Throwable", name := "fillInStackTrace", desc := "(I)Ljava/lang/Throwable;" } : Jvm.MethodName) ({ cls := "java/lang/Throwable", name := "fillInStackTrace", desc := "(I)Ljava/lang/Throwable;" } : Jvm.MethodName)) ∈ TG := TG_3 (i := 237) rfl rfl
theorem tw_3_238 : (Jvm.Cond.lays "java/lang/IllegalStateException" "java/lang/Throwable" "cause" "Ljava/lang/Throwable;") ∈ TG := TG_3 (i := 238) rfl rfl
theorem tw_3_239 : (Jvm.Cond.lays "java/lang/IllegalStateException" "java/lang/Throwable" "stackTrace" "[Ljava/lang/StackTraceElement;") ∈ TG := TG_3 (i := 239) rfl rfl
theorem tw_4_0 : (Jvm.Cond.lays "java/lang/IllegalStateException" "java/lang/Throwable" "suppressedExceptions" "Ljava/util/List;") ∈ TG := TG_4 (i := 0) rfl rfl
theorem tw_4_1 : (Jvm.Cond.lays "java/lang/IllegalStateException" "java/lang/Throwable" "detailMessage" "Ljava/lang/String;") ∈ TG := TG_4 (i := 1) rfl rfl
theorem tw_4_2 : (Jvm.Cond.lays "java/lang/IllegalStateException" "java/lang/Throwable" "backtrace" "Ljava/lang/Object;") ∈ TG := TG_4 (i := 2) rfl rfl
theorem tt_4_3 : (Jvm.Cond.stringRef "JobWorkshop" (111 : Nat) "the machine has all its closures") ∈ lw_tbl := TT_4 (i := 3) rfl
theorem tw_4_4 : (Jvm.Cond.methodLink "JobWorkshop" (113 : Nat) ({ cls := "java/lang/IllegalStateException", name := "<init>", desc := "(Ljava/lang/String;)V" } : Jvm.MethodName)) ∈ TG := TG_4 (i := 4) rfl rfl
theorem tw_4_5 : (Jvm.Cond.instanceMethod ({ cls := "java/lang/IllegalStateException", name := "<init>", desc := "(Ljava/lang/String;)V" } : Jvm.MethodName)) ∈ TG := TG_4 (i := 5) rfl rfl
theorem tw_4_6 : (Jvm.Cond.code ({ cls := "java/lang/IllegalStateException", name := "<init>", desc := "(Ljava/lang/String;)V" } : Jvm.MethodName) prog_16_method_2_code (2 : Nat) (Option.none : Option Jvm.ClassFile.FieldType)) ∈ TG := TG_4 (i := 6) rfl rfl
theorem tw_4_7 : (Jvm.Cond.methodLink "java/lang/IllegalStateException" (7 : Nat) ({ cls := "java/lang/RuntimeException", name := "<init>", desc := "(Ljava/lang/String;)V" } : Jvm.MethodName)) ∈ TG := TG_4 (i := 7) rfl rfl
theorem tw_4_8 : (Jvm.Cond.lays "java/lang/IllegalStateException" "java/lang/Throwable" "depth" "I") ∈ TG := TG_4 (i := 8) rfl rfl
theorem tw_4_9 : (Jvm.Cond.superclass "java/lang/IllegalStateException" "java/lang/RuntimeException") ∈ TG := TG_4 (i := 9) rfl rfl
theorem tw_4_10 : (Jvm.Cond.methodLink "JobWorkshop" (116 : Nat) ({ cls := "JobWorkshop", name := "remember", desc := "()V" } : Jvm.MethodName)) ∈ TG := TG_4 (i := 10) rfl rfl
theorem tw_4_12 : (Jvm.Cond.instanceMethod ({ cls := "JobWorkshop", name := "remember", desc := "()V" } : Jvm.MethodName)) ∈ TG := TG_4 (i := 12) rfl rfl
theorem tw_4_13 : (Jvm.Cond.code ({ cls := "JobWorkshop", name := "remember", desc := "()V" } : Jvm.MethodName) prog_1_method_58_code (2 : Nat) (Option.none : Option Jvm.ClassFile.FieldType)) ∈ TG := TG_4 (i := 13) rfl rfl
theorem tw_4_14 : (Jvm.Cond.methodLink "JobWorkshop" (375 : Nat) ({ cls := "java/lang/Math", name := "min", desc := "(II)I" } : Jvm.MethodName)) ∈ TG := TG_4 (i := 14) rfl rfl
theorem tw_4_15 : (Jvm.Cond.methodLink "JobWorkshop" (119 : Nat) ({ cls := "JobWorkshop$Shop", name := "newClosure", desc := "(III)V" } : Jvm.MethodName)) ∈ TG := TG_4 (i := 15) rfl rfl
theorem tw_4_16 : (Jvm.Cond.instanceMethod ({ cls := "JobWorkshop$Shop", name := "newClosure", desc := "(III)V" } : Jvm.MethodName)) ∈ TG := TG_4 (i := 16) rfl rfl
theorem tw_4_17 : (Jvm.Cond.selects "JobWorkshop$Shop" ({ cls := "JobWorkshop$Shop", name := "newClosure", desc := "(III)V" } : Jvm.MethodName) ({ cls := "JobWorkshop$Shop", name := "newClosure", desc := "(III)V" } : Jvm.MethodName)) ∈ TG := TG_4 (i := 17) rfl rfl
theorem tw_4_18 : (Jvm.Cond.code ({ cls := "JobWorkshop$Shop", name := "newClosure", desc := "(III)V" } : Jvm.MethodName) prog_9_method_7_code (5 : Nat) (Option.none : Option Jvm.ClassFile.FieldType)) ∈ TG := TG_4 (i := 18) rfl rfl
theorem tw_4_19 : (Jvm.Cond.methodLink "JobWorkshopLaw" (142 : Nat) ({ cls := "JobWorkshopLaw", name := "setTool", desc := "(LJobWorkshop;III[J)I" } : Jvm.MethodName)) ∈ TG := TG_4 (i := 19) rfl rfl
theorem tw_4_20 : (Jvm.Cond.static ({ cls := "JobWorkshopLaw", name := "setTool", desc := "(LJobWorkshop;III[J)I" } : Jvm.MethodName)) ∈ TG := TG_4 (i := 20) rfl rfl
theorem tw_4_21 : (Jvm.Cond.codeWith ({ cls := "JobWorkshopLaw", name := "setTool", desc := "(LJobWorkshop;III[J)I" } : Jvm.MethodName) method_4_code (6 : Nat) (Option.some Jvm.ClassFile.FieldType.int) [((0 : Nat), (12 : Nat), (15 : Nat), (13 : Nat)), ((0 : Nat), (12 : Nat), (19 : Nat), (15 : Nat))]) ∈ TG := TG_4 (i := 21) rfl rfl
theorem tw_4_22 : (Jvm.Cond.methodLink "JobWorkshopLaw" (19 : Nat) ({ cls := "JobWorkshop", name := "setTool", desc := "(III)I" } : Jvm.MethodName)) ∈ TG := TG_4 (i := 22) rfl rfl
theorem tw_4_23 : (Jvm.Cond.instanceMethod ({ cls := "JobWorkshop", name := "setTool", desc := "(III)I" } : Jvm.MethodName)) ∈ TG := TG_4 (i := 23) rfl rfl
theorem tw_4_24 : (Jvm.Cond.selects "JobWorkshop" ({ cls := "JobWorkshop", name := "setTool", desc := "(III)I" } : Jvm.MethodName) ({ cls := "JobWorkshop", name := "setTool", desc := "(III)I" } : Jvm.MethodName)) ∈ TG := TG_4 (i := 24) rfl rfl
theorem tw_4_25 : (Jvm.Cond.code ({ cls := "JobWorkshop", name := "setTool", desc := "(III)I" } : Jvm.MethodName) prog_1_method_3_code (5 : Nat) (Option.some Jvm.ClassFile.FieldType.int)) ∈ TG := TG_4 (i := 25) rfl rfl
theorem tw_4_26 : (Jvm.Cond.methodLink "JobWorkshopLaw" (145 : Nat) ({ cls := "JobWorkshopLaw", name := "setSetup", desc := "(LJobWorkshop;III[J)I" } : Jvm.MethodName)) ∈ TG := TG_4 (i := 26) rfl rfl
theorem tw_4_27 : (Jvm.Cond.static ({ cls := "JobWorkshopLaw", name := "setSetup", desc := "(LJobWorkshop;III[J)I" } : Jvm.MethodName)) ∈ TG := TG_4 (i := 27) rfl rfl
theorem tw_4_28 : (Jvm.Cond.codeWith ({ cls := "JobWorkshopLaw", name := "setSetup", desc := "(LJobWorkshop;III[J)I" } : Jvm.MethodName) method_5_code (6 : Nat) (Option.some Jvm.ClassFile.FieldType.int) [((0 : Nat), (12 : Nat), (15 : Nat), (13 : Nat)), ((0 : Nat), (12 : Nat), (19 : Nat), (15 : Nat))]) ∈ TG := TG_4 (i := 28) rfl rfl
theorem tw_4_29 : (Jvm.Cond.methodLink "JobWorkshopLaw" (22 : Nat) ({ cls := "JobWorkshop", name := "setSetup", desc := "(III)I" } : Jvm.MethodName)) ∈ TG := TG_4 (i := 29) rfl rfl
theorem tw_4_30 : (Jvm.Cond.instanceMethod ({ cls := "JobWorkshop", name := "setSetup", desc := "(III)I" } : Jvm.MethodName)) ∈ TG := TG_4 (i := 30) rfl rfl
theorem tw_4_31 : (Jvm.Cond.selects "JobWorkshop" ({ cls := "JobWorkshop", name := "setSetup", desc := "(III)I" } : Jvm.MethodName) ({ cls := "JobWorkshop", name := "setSetup", desc := "(III)I" } : Jvm.MethodName)) ∈ TG := TG_4 (i := 31) rfl rfl
theorem tw_4_32 : (Jvm.Cond.code ({ cls := "JobWorkshop", name := "setSetup", desc := "(III)I" } : Jvm.MethodName) prog_1_method_4_code (5 : Nat) (Option.some Jvm.ClassFile.FieldType.int)) ∈ TG := TG_4 (i := 32) rfl rfl
theorem tw_4_33 : (Jvm.Cond.methodLink "JobWorkshop" (131 : Nat) ({ cls := "JobWorkshop", name := "needKind", desc := "(I)V" } : Jvm.MethodName)) ∈ TG := TG_4 (i := 33) rfl rfl
theorem tw_4_34 : (Jvm.Cond.static ({ cls := "JobWorkshop", name := "needKind", desc := "(I)V" } : Jvm.MethodName)) ∈ TG := TG_4 (i := 34) rfl rfl
theorem tw_4_35 : (Jvm.Cond.code ({ cls := "JobWorkshop", name := "needKind", desc := "(I)V" } : Jvm.MethodName) prog_1_method_47_code (1 : Nat) (Option.none : Option Jvm.ClassFile.FieldType)) ∈ TG := TG_4 (i := 35) rfl rfl
theorem tt_4_36 : (Jvm.Cond.stringRef "JobWorkshop" (363 : Nat) "no such kind") ∈ lw_tbl := TT_4 (i := 36) rfl
theorem tw_4_37 : (Jvm.Cond.methodLink "JobWorkshop" (137 : Nat) ({ cls := "JobWorkshop", name := "dropPlan", desc := "()V" } : Jvm.MethodName)) ∈ TG := TG_4 (i := 37) rfl rfl
theorem tw_4_39 : (Jvm.Cond.instanceMethod ({ cls := "JobWorkshop", name := "dropPlan", desc := "()V" } : Jvm.MethodName)) ∈ TG := TG_4 (i := 39) rfl rfl
theorem tw_4_40 : (Jvm.Cond.code ({ cls := "JobWorkshop", name := "dropPlan", desc := "()V" } : Jvm.MethodName) prog_1_method_59_code (1 : Nat) (Option.none : Option Jvm.ClassFile.FieldType)) ∈ TG := TG_4 (i := 40) rfl rfl
theorem tw_4_41 : (Jvm.Cond.methodLink "JobWorkshopLaw" (148 : Nat) ({ cls := "JobWorkshopLaw", name := "addJob", desc := "(LJobWorkshop;IIII[J)I" } : Jvm.MethodName)) ∈ TG := TG_4 (i := 41) rfl rfl
theorem tw_4_42 : (Jvm.Cond.static ({ cls := "JobWorkshopLaw", name := "addJob", desc := "(LJobWorkshop;IIII[J)I" } : Jvm.MethodName)) ∈ TG := TG_4 (i := 42) rfl rfl
theorem tw_4_43 : (Jvm.Cond.codeWith ({ cls := "JobWorkshopLaw", name := "addJob", desc := "(LJobWorkshop;IIII[J)I" } : Jvm.MethodName) method_6_code (7 : Nat) (Option.some Jvm.ClassFile.FieldType.int) [((0 : Nat), (14 : Nat), (17 : Nat), (13 : Nat)), ((0 : Nat), (14 : Nat), (21 : Nat), (15 : Nat)), ((0 : Nat), (14 : Nat), (25 : Nat), (17 : Nat))]) ∈ TG := TG_4 (i := 43) rfl rfl
theorem tw_4_44 : (Jvm.Cond.methodLink "JobWorkshopLaw" (25 : Nat) ({ cls := "JobWorkshop", name := "addJob", desc := "(IIII)I" } : Jvm.MethodName)) ∈ TG := TG_4 (i := 44) rfl rfl
theorem tw_4_45 : (Jvm.Cond.instanceMethod ({ cls := "JobWorkshop", name := "addJob", desc := "(IIII)I" } : Jvm.MethodName)) ∈ TG := TG_4 (i := 45) rfl rfl
theorem tw_4_46 : (Jvm.Cond.selects "JobWorkshop" ({ cls := "JobWorkshop", name := "addJob", desc := "(IIII)I" } : Jvm.MethodName) ({ cls := "JobWorkshop", name := "addJob", desc := "(IIII)I" } : Jvm.MethodName)) ∈ TG := TG_4 (i := 46) rfl rfl
theorem tw_4_47 : (Jvm.Cond.code ({ cls := "JobWorkshop", name := "addJob", desc := "(IIII)I" } : Jvm.MethodName) prog_1_method_5_code (6 : Nat) (Option.some Jvm.ClassFile.FieldType.int)) ∈ TG := TG_4 (i := 47) rfl rfl
theorem tw_4_48 : (Jvm.Cond.methodLink "JobWorkshop" (140 : Nat) ({ cls := "JobWorkshop", name := "needRoomForJob", desc := "()V" } : Jvm.MethodName)) ∈ TG := TG_4 (i := 48) rfl rfl
theorem tw_4_50 : (Jvm.Cond.instanceMethod ({ cls := "JobWorkshop", name := "needRoomForJob", desc := "()V" } : Jvm.MethodName)) ∈ TG := TG_4 (i := 50) rfl rfl
theorem tw_4_51 : (Jvm.Cond.code ({ cls := "JobWorkshop", name := "needRoomForJob", desc := "()V" } : Jvm.MethodName) prog_1_method_55_code (1 : Nat) (Option.none : Option Jvm.ClassFile.FieldType)) ∈ TG := TG_4 (i := 51) rfl rfl
theorem tt_4_52 : (Jvm.Cond.stringRef "JobWorkshop" (371 : Nat) "all jobs are there") ∈ lw_tbl := TT_4 (i := 52) rfl
theorem tw_4_53 : (Jvm.Cond.methodLink "JobWorkshopLaw" (152 : Nat) ({ cls := "JobWorkshopLaw", name := "addStep", desc := "(LJobWorkshop;III[J)I" } : Jvm.MethodName)) ∈ TG := TG_4 (i := 53) rfl rfl
theorem tw_4_54 : (Jvm.Cond.static ({ cls := "JobWorkshopLaw", name := "addStep", desc := "(LJobWorkshop;III[J)I" } : Jvm.MethodName)) ∈ TG := TG_4 (i := 54) rfl rfl
theorem tw_4_55 : (Jvm.Cond.codeWith ({ cls := "JobWorkshopLaw", name := "addStep", desc := "(LJobWorkshop;III[J)I" } : Jvm.MethodName) method_7_code (6 : Nat) (Option.some Jvm.ClassFile.FieldType.int) [((0 : Nat), (12 : Nat), (15 : Nat), (13 : Nat)), ((0 : Nat), (12 : Nat), (19 : Nat), (15 : Nat)), ((0 : Nat), (12 : Nat), (23 : Nat), (17 : Nat))]) ∈ TG := TG_4 (i := 55) rfl rfl
theorem tw_4_56 : (Jvm.Cond.methodLink "JobWorkshopLaw" (29 : Nat) ({ cls := "JobWorkshop", name := "addStep", desc := "(III)I" } : Jvm.MethodName)) ∈ TG := TG_4 (i := 56) rfl rfl
theorem tw_4_57 : (Jvm.Cond.instanceMethod ({ cls := "JobWorkshop", name := "addStep", desc := "(III)I" } : Jvm.MethodName)) ∈ TG := TG_4 (i := 57) rfl rfl
theorem tw_4_58 : (Jvm.Cond.selects "JobWorkshop" ({ cls := "JobWorkshop", name := "addStep", desc := "(III)I" } : Jvm.MethodName) ({ cls := "JobWorkshop", name := "addStep", desc := "(III)I" } : Jvm.MethodName)) ∈ TG := TG_4 (i := 58) rfl rfl
theorem tw_4_59 : (Jvm.Cond.code ({ cls := "JobWorkshop", name := "addStep", desc := "(III)I" } : Jvm.MethodName) prog_1_method_6_code (5 : Nat) (Option.some Jvm.ClassFile.FieldType.int)) ∈ TG := TG_4 (i := 59) rfl rfl
theorem tw_4_60 : (Jvm.Cond.methodLink "JobWorkshop" (143 : Nat) ({ cls := "JobWorkshop", name := "needJob", desc := "(I)V" } : Jvm.MethodName)) ∈ TG := TG_4 (i := 60) rfl rfl
theorem tw_4_62 : (Jvm.Cond.instanceMethod ({ cls := "JobWorkshop", name := "needJob", desc := "(I)V" } : Jvm.MethodName)) ∈ TG := TG_4 (i := 62) rfl rfl
theorem tw_4_63 : (Jvm.Cond.code ({ cls := "JobWorkshop", name := "needJob", desc := "(I)V" } : Jvm.MethodName) prog_1_method_48_code (2 : Nat) (Option.none : Option Jvm.ClassFile.FieldType)) ∈ TG := TG_4 (i := 63) rfl rfl
theorem tt_4_64 : (Jvm.Cond.stringRef "JobWorkshop" (365 : Nat) "no such job") ∈ lw_tbl := TT_4 (i := 64) rfl
theorem tt_4_65 : (Jvm.Cond.stringRef "JobWorkshop" (149 : Nat) "the job has all its steps") ∈ lw_tbl := TT_4 (i := 65) rfl
theorem tw_4_66 : (Jvm.Cond.methodLink "JobWorkshopLaw" (155 : Nat) ({ cls := "JobWorkshopLaw", name := "cut", desc := "(LJobWorkshop;I[J)I" } : Jvm.MethodName)) ∈ TG := TG_4 (i := 66) rfl rfl
theorem tw_4_67 : (Jvm.Cond.static ({ cls := "JobWorkshopLaw", name := "cut", desc := "(LJobWorkshop;I[J)I" } : Jvm.MethodName)) ∈ TG := TG_4 (i := 67) rfl rfl
theorem tw_4_68 : (Jvm.Cond.codeWith ({ cls := "JobWorkshopLaw", name := "cut", desc := "(LJobWorkshop;I[J)I" } : Jvm.MethodName) method_8_code (4 : Nat) (Option.some Jvm.ClassFile.FieldType.int) [((0 : Nat), (9 : Nat), (12 : Nat), (13 : Nat)), ((0 : Nat), (9 : Nat), (15 : Nat), (17 : Nat))]) ∈ TG := TG_4 (i := 68) rfl rfl
theorem tw_4_69 : (Jvm.Cond.methodLink "JobWorkshopLaw" (32 : Nat) ({ cls := "JobWorkshop", name := "cut", desc := "(I)I" } : Jvm.MethodName)) ∈ TG := TG_4 (i := 69) rfl rfl
theorem tw_4_70 : (Jvm.Cond.instanceMethod ({ cls := "JobWorkshop", name := "cut", desc := "(I)I" } : Jvm.MethodName)) ∈ TG := TG_4 (i := 70) rfl rfl
theorem tw_4_71 : (Jvm.Cond.selects "JobWorkshop" ({ cls := "JobWorkshop", name := "cut", desc := "(I)I" } : Jvm.MethodName) ({ cls := "JobWorkshop", name := "cut", desc := "(I)I" } : Jvm.MethodName)) ∈ TG := TG_4 (i := 71) rfl rfl
theorem tw_4_72 : (Jvm.Cond.code ({ cls := "JobWorkshop", name := "cut", desc := "(I)I" } : Jvm.MethodName) prog_1_method_7_code (3 : Nat) (Option.some Jvm.ClassFile.FieldType.int)) ∈ TG := TG_4 (i := 72) rfl rfl
theorem tw_4_73 : (Jvm.Cond.methodLink "JobWorkshop" (151 : Nat) ({ cls := "JobWorkshop$Shop", name := "canBeHalved", desc := "(I)Z" } : Jvm.MethodName)) ∈ TG := TG_4 (i := 73) rfl rfl
theorem tw_4_74 : (Jvm.Cond.instanceMethod ({ cls := "JobWorkshop$Shop", name := "canBeHalved", desc := "(I)Z" } : Jvm.MethodName)) ∈ TG := TG_4 (i := 74) rfl rfl
theorem tw_4_75 : (Jvm.Cond.selects "JobWorkshop$Shop" ({ cls := "JobWorkshop$Shop", name := "canBeHalved", desc := "(I)Z" } : Jvm.MethodName) ({ cls := "JobWorkshop$Shop", name := "canBeHalved", desc := "(I)Z" } : Jvm.MethodName)) ∈ TG := TG_4 (i := 75) rfl rfl
theorem tw_4_76 : (Jvm.Cond.code ({ cls := "JobWorkshop$Shop", name := "canBeHalved", desc := "(I)Z" } : Jvm.MethodName) prog_9_method_8_code (3 : Nat) (Option.some Jvm.ClassFile.FieldType.boolean)) ∈ TG := TG_4 (i := 76) rfl rfl
theorem tt_4_77 : (Jvm.Cond.stringRef "JobWorkshop" (155 : Nat) "the job has no steps, or one of a single hour") ∈ lw_tbl := TT_4 (i := 77) rfl
theorem tw_4_78 : (Jvm.Cond.methodLink "JobWorkshop" (157 : Nat) ({ cls := "JobWorkshop$Shop", name := "halve", desc := "(I)I" } : Jvm.MethodName)) ∈ TG := TG_4 (i := 78) rfl rfl
theorem tw_4_79 : (Jvm.Cond.instanceMethod ({ cls := "JobWorkshop$Shop", name := "halve", desc := "(I)I" } : Jvm.MethodName)) ∈ TG := TG_4 (i := 79) rfl rfl
theorem tw_4_80 : (Jvm.Cond.selects "JobWorkshop$Shop" ({ cls := "JobWorkshop$Shop", name := "halve", desc := "(I)I" } : Jvm.MethodName) ({ cls := "JobWorkshop$Shop", name := "halve", desc := "(I)I" } : Jvm.MethodName)) ∈ TG := TG_4 (i := 80) rfl rfl
theorem tw_4_81 : (Jvm.Cond.code ({ cls := "JobWorkshop$Shop", name := "halve", desc := "(I)I" } : Jvm.MethodName) prog_9_method_9_code (6 : Nat) (Option.some Jvm.ClassFile.FieldType.int)) ∈ TG := TG_4 (i := 81) rfl rfl
theorem tw_4_82 : (Jvm.Cond.methodLink "JobWorkshop$Shop" (81 : Nat) ({ cls := "JobWorkshop$Shop", name := "newJob", desc := "(IIII)I" } : Jvm.MethodName)) ∈ TG := TG_4 (i := 82) rfl rfl
theorem tw_4_83 : (Jvm.Cond.methodLink "JobWorkshop$Shop" (85 : Nat) ({ cls := "JobWorkshop$Shop", name := "newStep", desc := "(III)I" } : Jvm.MethodName)) ∈ TG := TG_4 (i := 83) rfl rfl
theorem tw_4_84 : (Jvm.Cond.methodLink "JobWorkshopLaw" (159 : Nat) ({ cls := "JobWorkshopLaw", name := "plan", desc := "(LJobWorkshop;I[J)I" } : Jvm.MethodName)) ∈ TG := TG_4 (i := 84) rfl rfl
theorem tw_4_85 : (Jvm.Cond.static ({ cls := "JobWorkshopLaw", name := "plan", desc := "(LJobWorkshop;I[J)I" } : Jvm.MethodName)) ∈ TG := TG_4 (i := 85) rfl rfl
theorem tw_4_86 : (Jvm.Cond.codeWith ({ cls := "JobWorkshopLaw", name := "plan", desc := "(LJobWorkshop;I[J)I" } : Jvm.MethodName) method_9_code (4 : Nat) (Option.some Jvm.ClassFile.FieldType.int) [((0 : Nat), (9 : Nat), (12 : Nat), (15 : Nat))]) ∈ TG := TG_4 (i := 86) rfl rfl
theorem tw_4_87 : (Jvm.Cond.methodLink "JobWorkshopLaw" (36 : Nat) ({ cls := "JobWorkshop", name := "plan", desc := "(I)I" } : Jvm.MethodName)) ∈ TG := TG_4 (i := 87) rfl rfl
theorem tw_4_88 : (Jvm.Cond.instanceMethod ({ cls := "JobWorkshop", name := "plan", desc := "(I)I" } : Jvm.MethodName)) ∈ TG := TG_4 (i := 88) rfl rfl
theorem tw_4_89 : (Jvm.Cond.selects "JobWorkshop" ({ cls := "JobWorkshop", name := "plan", desc := "(I)I" } : Jvm.MethodName) ({ cls := "JobWorkshop", name := "plan", desc := "(I)I" } : Jvm.MethodName)) ∈ TG := TG_4 (i := 89) rfl rfl
theorem tw_4_90 : (Jvm.Cond.code ({ cls := "JobWorkshop", name := "plan", desc := "(I)I" } : Jvm.MethodName) prog_1_method_8_code (2 : Nat) (Option.some Jvm.ClassFile.FieldType.int)) ∈ TG := TG_4 (i := 90) rfl rfl
theorem tw_4_91 : (Jvm.Cond.methodLink "JobWorkshop" (161 : Nat) ({ cls := "JobWorkshop", name := "needRule", desc := "(I)V" } : Jvm.MethodName)) ∈ TG := TG_4 (i := 91) rfl rfl
theorem tw_4_92 : (Jvm.Cond.static ({ cls := "JobWorkshop", name := "needRule", desc := "(I)V" } : Jvm.MethodName)) ∈ TG := TG_4 (i := 92) rfl rfl
theorem tw_4_93 : (Jvm.Cond.code ({ cls := "JobWorkshop", name := "needRule", desc := "(I)V" } : Jvm.MethodName) prog_1_method_52_code (1 : Nat) (Option.none : Option Jvm.ClassFile.FieldType)) ∈ TG := TG_4 (i := 93) rfl rfl
theorem tw_4_94 : (Jvm.Cond.methodLink "JobWorkshop" (164 : Nat) ({ cls := "JobWorkshop$Timetable", name := "clear", desc := "()V" } : Jvm.MethodName)) ∈ TG := TG_4 (i := 94) rfl rfl
theorem tw_4_95 : (Jvm.Cond.methodLink "JobWorkshop" (167 : Nat) ({ cls := "JobWorkshop$Timetable", name := "putRestByRule", desc := "(I)V" } : Jvm.MethodName)) ∈ TG := TG_4 (i := 95) rfl rfl
theorem tw_4_96 : (Jvm.Cond.instanceMethod ({ cls := "JobWorkshop$Timetable", name := "putRestByRule", desc := "(I)V" } : Jvm.MethodName)) ∈ TG := TG_4 (i := 96) rfl rfl
theorem tw_4_97 : (Jvm.Cond.selects "JobWorkshop$Timetable" ({ cls := "JobWorkshop$Timetable", name := "putRestByRule", desc := "(I)V" } : Jvm.MethodName) ({ cls := "JobWorkshop$Timetable", name := "putRestByRule", desc := "(I)V" } : Jvm.MethodName)) ∈ TG := TG_4 (i := 97) rfl rfl
theorem tw_4_98 : (Jvm.Cond.code ({ cls := "JobWorkshop$Timetable", name := "putRestByRule", desc := "(I)V" } : Jvm.MethodName) prog_10_method_17_code (4 : Nat) (Option.none : Option Jvm.ClassFile.FieldType)) ∈ TG := TG_4 (i := 98) rfl rfl
theorem tw_4_99 : (Jvm.Cond.methodLink "JobWorkshop$Timetable" (135 : Nat) ({ cls := "JobWorkshop$Timetable", name := "firstByRule", desc := "(I)I" } : Jvm.MethodName)) ∈ TG := TG_4 (i := 99) rfl rfl
theorem tw_4_101 : (Jvm.Cond.instanceMethod ({ cls := "JobWorkshop$Timetable", name := "firstByRule", desc := "(I)I" } : Jvm.MethodName)) ∈ TG := TG_4 (i := 101) rfl rfl
theorem tw_4_102 : (Jvm.Cond.code ({ cls := "JobWorkshop$Timetable", name := "firstByRule", desc := "(I)I" } : Jvm.MethodName) prog_10_method_18_code (6 : Nat) (Option.some Jvm.ClassFile.FieldType.int)) ∈ TG := TG_4 (i := 102) rfl rfl
theorem tw_4_103 : (Jvm.Cond.methodLink "JobWorkshop$Timetable" (138 : Nat) ({ cls := "JobWorkshop$Timetable", name := "goesAhead", desc := "(III)Z" } : Jvm.MethodName)) ∈ TG := TG_4 (i := 103) rfl rfl
theorem tw_4_105 : (Jvm.Cond.instanceMethod ({ cls := "JobWorkshop$Timetable", name := "goesAhead", desc := "(III)Z" } : Jvm.MethodName)) ∈ TG := TG_4 (i := 105) rfl rfl
theorem tw_4_106 : (Jvm.Cond.code ({ cls := "JobWorkshop$Timetable", name := "goesAhead", desc := "(III)Z" } : Jvm.MethodName) prog_10_method_19_code (6 : Nat) (Option.some Jvm.ClassFile.FieldType.boolean)) ∈ TG := TG_4 (i := 106) rfl rfl
theorem tw_4_107 : (Jvm.Cond.methodLink "JobWorkshop" (170 : Nat) ({ cls := "JobWorkshop", name := "adoptTrial", desc := "()I" } : Jvm.MethodName)) ∈ TG := TG_4 (i := 107) rfl rfl
theorem tw_4_109 : (Jvm.Cond.instanceMethod ({ cls := "JobWorkshop", name := "adoptTrial", desc := "()I" } : Jvm.MethodName)) ∈ TG := TG_4 (i := 109) rfl rfl
theorem tw_4_110 : (Jvm.Cond.code ({ cls := "JobWorkshop", name := "adoptTrial", desc := "()I" } : Jvm.MethodName) prog_1_method_60_code (1 : Nat) (Option.some Jvm.ClassFile.FieldType.int)) ∈ TG := TG_4 (i := 110) rfl rfl
theorem tw_4_111 : (Jvm.Cond.methodLink "JobWorkshop" (383 : Nat) ({ cls := "JobWorkshop$Shop", name := "takeRow", desc := "([I)V" } : Jvm.MethodName)) ∈ TG := TG_4 (i := 111) rfl rfl
theorem tw_4_112 : (Jvm.Cond.instanceMethod ({ cls := "JobWorkshop$Shop", name := "takeRow", desc := "([I)V" } : Jvm.MethodName)) ∈ TG := TG_4 (i := 112) rfl rfl
theorem tw_4_113 : (Jvm.Cond.selects "JobWorkshop$Shop" ({ cls := "JobWorkshop$Shop", name := "takeRow", desc := "([I)V" } : Jvm.MethodName) ({ cls := "JobWorkshop$Shop", name := "takeRow", desc := "([I)V" } : Jvm.MethodName)) ∈ TG := TG_4 (i := 113) rfl rfl
theorem tw_4_114 : (Jvm.Cond.code ({ cls := "JobWorkshop$Shop", name := "takeRow", desc := "([I)V" } : Jvm.MethodName) prog_9_method_4_code (2 : Nat) (Option.none : Option Jvm.ClassFile.FieldType)) ∈ TG := TG_4 (i := 114) rfl rfl
theorem tw_4_115 : (Jvm.Cond.methodLink "JobWorkshopLaw" (164 : Nat) ({ cls := "JobWorkshopLaw", name := "tell", desc := "(LJobWorkshop;J[J)I" } : Jvm.MethodName)) ∈ TG := TG_4 (i := 115) rfl rfl
theorem tw_4_116 : (Jvm.Cond.static ({ cls := "JobWorkshopLaw", name := "tell", desc := "(LJobWorkshop;J[J)I" } : Jvm.MethodName)) ∈ TG := TG_4 (i := 116) rfl rfl
theorem tw_4_117 : (Jvm.Cond.codeWith ({ cls := "JobWorkshopLaw", name := "tell", desc := "(LJobWorkshop;J[J)I" } : Jvm.MethodName) method_10_code (5 : Nat) (Option.some Jvm.ClassFile.FieldType.int) [((0 : Nat), (9 : Nat), (12 : Nat), (15 : Nat))]) ∈ TG := TG_4 (i := 117) rfl rfl
theorem tw_4_118 : (Jvm.Cond.methodLink "JobWorkshopLaw" (39 : Nat) ({ cls := "JobWorkshop", name := "tell", desc := "(J)I" } : Jvm.MethodName)) ∈ TG := TG_4 (i := 118) rfl rfl
theorem tw_4_119 : (Jvm.Cond.instanceMethod ({ cls := "JobWorkshop", name := "tell", desc := "(J)I" } : Jvm.MethodName)) ∈ TG := TG_4 (i := 119) rfl rfl
theorem tw_4_120 : (Jvm.Cond.selects "JobWorkshop" ({ cls := "JobWorkshop", name := "tell", desc := "(J)I" } : Jvm.MethodName) ({ cls := "JobWorkshop", name := "tell", desc := "(J)I" } : Jvm.MethodName)) ∈ TG := TG_4 (i := 120) rfl rfl
theorem tw_4_121 : (Jvm.Cond.code ({ cls := "JobWorkshop", name := "tell", desc := "(J)I" } : Jvm.MethodName) prog_1_method_9_code (3 : Nat) (Option.some Jvm.ClassFile.FieldType.int)) ∈ TG := TG_4 (i := 121) rfl rfl
theorem tw_4_122 : (Jvm.Cond.methodLink "JobWorkshop" (174 : Nat) ({ cls := "JobWorkshop", name := "putDigits", desc := "(J)Z" } : Jvm.MethodName)) ∈ TG := TG_4 (i := 122) rfl rfl
theorem tw_4_124 : (Jvm.Cond.instanceMethod ({ cls := "JobWorkshop", name := "putDigits", desc := "(J)Z" } : Jvm.MethodName)) ∈ TG := TG_4 (i := 124) rfl rfl
theorem tw_4_125 : (Jvm.Cond.code ({ cls := "JobWorkshop", name := "putDigits", desc := "(J)Z" } : Jvm.MethodName) prog_1_method_61_code (8 : Nat) (Option.some Jvm.ClassFile.FieldType.boolean)) ∈ TG := TG_4 (i := 125) rfl rfl
theorem tw_4_126 : (Jvm.Cond.constantLong "JobWorkshop" (387 : Nat) (10 : Int64)) ∈ TG := TG_4 (i := 126) rfl rfl
theorem tw_4_127 : (Jvm.Cond.methodLink "JobWorkshop" (186 : Nat) ({ cls := "JobWorkshop$Shop", name := "stepTotal", desc := "()I" } : Jvm.MethodName)) ∈ TG := TG_4 (i := 127) rfl rfl
theorem tw_4_128 : (Jvm.Cond.methodLink "JobWorkshop" (389 : Nat) ({ cls := "JobWorkshop$Timetable", name := "hasLeft", desc := "(I)Z" } : Jvm.MethodName)) ∈ TG := TG_4 (i := 128) rfl rfl
theorem tw_4_129 : (Jvm.Cond.methodLink "JobWorkshop" (392 : Nat) ({ cls := "JobWorkshop$Timetable", name := "put", desc := "(II)V" } : Jvm.MethodName)) ∈ TG := TG_4 (i := 129) rfl rfl
theorem tt_4_130 : (Jvm.Cond.stringRef "JobWorkshop" (180 : Nat) "no row of all the jobs' steps") ∈ lw_tbl := TT_4 (i := 130) rfl
theorem tw_4_131 : (Jvm.Cond.methodLink "JobWorkshopLaw" (168 : Nat) ({ cls := "JobWorkshopLaw", name := "best", desc := "(LJobWorkshop;I[J)I" } : Jvm.MethodName)) ∈ TG := TG_4 (i := 131) rfl rfl
theorem tw_4_132 : (Jvm.Cond.static ({ cls := "JobWorkshopLaw", name := "best", desc := "(LJobWorkshop;I[J)I" } : Jvm.MethodName)) ∈ TG := TG_4 (i := 132) rfl rfl
theorem tw_4_133 : (Jvm.Cond.codeWith ({ cls := "JobWorkshopLaw", name := "best", desc := "(LJobWorkshop;I[J)I" } : Jvm.MethodName) method_11_code (4 : Nat) (Option.some Jvm.ClassFile.FieldType.int) [((0 : Nat), (9 : Nat), (12 : Nat), (15 : Nat)), ((0 : Nat), (9 : Nat), (15 : Nat), (17 : Nat))]) ∈ TG := TG_4 (i := 133) rfl rfl
theorem tw_4_134 : (Jvm.Cond.methodLink "JobWorkshopLaw" (43 : Nat) ({ cls := "JobWorkshop", name := "best", desc := "(I)I" } : Jvm.MethodName)) ∈ TG := TG_4 (i := 134) rfl rfl
theorem tw_4_135 : (Jvm.Cond.instanceMethod ({ cls := "JobWorkshop", name := "best", desc := "(I)I" } : Jvm.MethodName)) ∈ TG := TG_4 (i := 135) rfl rfl
theorem tw_4_136 : (Jvm.Cond.selects "JobWorkshop" ({ cls := "JobWorkshop", name := "best", desc := "(I)I" } : Jvm.MethodName) ({ cls := "JobWorkshop", name := "best", desc := "(I)I" } : Jvm.MethodName)) ∈ TG := TG_4 (i := 136) rfl rfl
theorem tw_4_137 : (Jvm.Cond.code ({ cls := "JobWorkshop", name := "best", desc := "(I)I" } : Jvm.MethodName) prog_1_method_10_code (2 : Nat) (Option.some Jvm.ClassFile.FieldType.int)) ∈ TG := TG_4 (i := 137) rfl rfl
theorem tw_4_138 : (Jvm.Cond.methodLink "JobWorkshop" (183 : Nat) ({ cls := "JobWorkshop", name := "needAim", desc := "(I)V" } : Jvm.MethodName)) ∈ TG := TG_4 (i := 138) rfl rfl
theorem tw_4_139 : (Jvm.Cond.static ({ cls := "JobWorkshop", name := "needAim", desc := "(I)V" } : Jvm.MethodName)) ∈ TG := TG_4 (i := 139) rfl rfl
theorem tw_4_140 : (Jvm.Cond.code ({ cls := "JobWorkshop", name := "needAim", desc := "(I)V" } : Jvm.MethodName) prog_1_method_53_code (1 : Nat) (Option.none : Option Jvm.ClassFile.FieldType)) ∈ TG := TG_4 (i := 140) rfl rfl
theorem tt_4_141 : (Jvm.Cond.stringRef "JobWorkshop" (189 : Nat) "too many steps for a best plan") ∈ lw_tbl := TT_4 (i := 141) rfl
theorem tw_4_142 : (Jvm.Cond.methodLink "JobWorkshop" (191 : Nat) ({ cls := "JobWorkshop$BestRow", name := "search", desc := "(I)V" } : Jvm.MethodName)) ∈ TG := TG_4 (i := 142) rfl rfl
theorem tw_4_143 : (Jvm.Cond.instanceMethod ({ cls := "JobWorkshop$BestRow", name := "search", desc := "(I)V" } : Jvm.MethodName)) ∈ TG := TG_4 (i := 143) rfl rfl
theorem tw_4_144 : (Jvm.Cond.selects "JobWorkshop$BestRow" ({ cls := "JobWorkshop$BestRow", name := "search", desc := "(I)V" } : Jvm.MethodName) ({ cls := "JobWorkshop$BestRow", name := "search", desc := "(I)V" } : Jvm.MethodName)) ∈ TG := TG_4 (i := 144) rfl rfl
theorem tw_4_145 : (Jvm.Cond.code ({ cls := "JobWorkshop$BestRow", name := "search", desc := "(I)V" } : Jvm.MethodName) prog_2_method_2_code (3 : Nat) (Option.none : Option Jvm.ClassFile.FieldType)) ∈ TG := TG_4 (i := 145) rfl rfl
theorem tw_4_146 : (Jvm.Cond.methodLink "JobWorkshop$BestRow" (23 : Nat) ({ cls := "JobWorkshop$Shop", name := "stepTotal", desc := "()I" } : Jvm.MethodName)) ∈ TG := TG_4 (i := 146) rfl rfl
theorem tw_4_147 : (Jvm.Cond.methodLink "JobWorkshop$BestRow" (29 : Nat) ({ cls := "java/lang/Math", name := "min", desc := "(II)I" } : Jvm.MethodName)) ∈ TG := TG_4 (i := 147) rfl rfl
theorem tw_4_148 : (Jvm.Cond.methodLink "JobWorkshop$BestRow" (43 : Nat) ({ cls := "JobWorkshop$Timetable", name := "clear", desc := "()V" } : Jvm.MethodName)) ∈ TG := TG_4 (i := 148) rfl rfl
theorem tw_4_149 : (Jvm.Cond.methodLink "JobWorkshop$BestRow" (48 : Nat) ({ cls := "JobWorkshop$BestRow", name := "explore", desc := "(II)V" } : Jvm.MethodName)) ∈ TG := TG_4 (i := 149) rfl rfl
theorem tw_4_151 : (Jvm.Cond.instanceMethod ({ cls := "JobWorkshop$BestRow", name := "explore", desc := "(II)V" } : Jvm.MethodName)) ∈ TG := TG_4 (i := 151) rfl rfl
theorem tw_4_152 : (Jvm.Cond.code ({ cls := "JobWorkshop$BestRow", name := "explore", desc := "(II)V" } : Jvm.MethodName) prog_2_method_3_code (5 : Nat) (Option.none : Option Jvm.ClassFile.FieldType)) ∈ TG := TG_4 (i := 152) rfl rfl
theorem tw_4_153 : (Jvm.Cond.methodLink "JobWorkshop$BestRow" (55 : Nat) ({ cls := "JobWorkshop$Timetable", name := "aimed", desc := "(I)I" } : Jvm.MethodName)) ∈ TG := TG_4 (i := 153) rfl rfl
theorem tw_4_154 : (Jvm.Cond.methodLink "JobWorkshop$BestRow" (63 : Nat) ({ cls := "java/lang/System", name := "arraycopy", desc := "(Ljava/lang/Object;ILjava/lang/Object;II)V" } : Jvm.MethodName)) ∈ TG := TG_4 (i := 154) rfl rfl
theorem tw_4_155 : (Jvm.Cond.methodLink "JobWorkshop$BestRow" (72 : Nat) ({ cls := "JobWorkshop$Timetable", name := "hasLeft", desc := "(I)Z" } : Jvm.MethodName)) ∈ TG := TG_4 (i := 155) rfl rfl
theorem tw_4_156 : (Jvm.Cond.methodLink "JobWorkshop$BestRow" (52 : Nat) ({ cls := "JobWorkshop$Timetable", name := "put", desc := "(II)V" } : Jvm.MethodName)) ∈ TG := TG_4 (i := 156) rfl rfl
theorem tw_4_157 : (Jvm.Cond.methodLink "JobWorkshop$BestRow" (76 : Nat) ({ cls := "JobWorkshop$Timetable", name := "takeBack", desc := "()V" } : Jvm.MethodName)) ∈ TG := TG_4 (i := 157) rfl rfl
theorem tw_4_158 : (Jvm.Cond.instanceMethod ({ cls := "JobWorkshop$Timetable", name := "takeBack", desc := "()V" } : Jvm.MethodName)) ∈ TG := TG_4 (i := 158) rfl rfl
theorem tw_4_159 : (Jvm.Cond.selects "JobWorkshop$Timetable" ({ cls := "JobWorkshop$Timetable", name := "takeBack", desc := "()V" } : Jvm.MethodName) ({ cls := "JobWorkshop$Timetable", name := "takeBack", desc := "()V" } : Jvm.MethodName)) ∈ TG := TG_4 (i := 159) rfl rfl
theorem tw_4_160 : (Jvm.Cond.code ({ cls := "JobWorkshop$Timetable", name := "takeBack", desc := "()V" } : Jvm.MethodName) prog_10_method_12_code (2 : Nat) (Option.none : Option Jvm.ClassFile.FieldType)) ∈ TG := TG_4 (i := 160) rfl rfl
theorem tw_4_161 : (Jvm.Cond.methodLink "JobWorkshopLaw" (171 : Nat) ({ cls := "JobWorkshopLaw", name := "swap", desc := "(LJobWorkshop;II[J)I" } : Jvm.MethodName)) ∈ TG := TG_4 (i := 161) rfl rfl
theorem tw_4_162 : (Jvm.Cond.static ({ cls := "JobWorkshopLaw", name := "swap", desc := "(LJobWorkshop;II[J)I" } : Jvm.MethodName)) ∈ TG := TG_4 (i := 162) rfl rfl
theorem tw_4_163 : (Jvm.Cond.codeWith ({ cls := "JobWorkshopLaw", name := "swap", desc := "(LJobWorkshop;II[J)I" } : Jvm.MethodName) method_12_code (5 : Nat) (Option.some Jvm.ClassFile.FieldType.int) [((0 : Nat), (10 : Nat), (13 : Nat), (13 : Nat)), ((0 : Nat), (10 : Nat), (17 : Nat), (17 : Nat))]) ∈ TG := TG_4 (i := 163) rfl rfl
theorem tw_4_164 : (Jvm.Cond.methodLink "JobWorkshopLaw" (46 : Nat) ({ cls := "JobWorkshop", name := "swap", desc := "(II)I" } : Jvm.MethodName)) ∈ TG := TG_4 (i := 164) rfl rfl
theorem tw_4_165 : (Jvm.Cond.instanceMethod ({ cls := "JobWorkshop", name := "swap", desc := "(II)I" } : Jvm.MethodName)) ∈ TG := TG_4 (i := 165) rfl rfl
theorem tw_4_166 : (Jvm.Cond.selects "JobWorkshop" ({ cls := "JobWorkshop", name := "swap", desc := "(II)I" } : Jvm.MethodName) ({ cls := "JobWorkshop", name := "swap", desc := "(II)I" } : Jvm.MethodName)) ∈ TG := TG_4 (i := 166) rfl rfl
theorem tw_4_167 : (Jvm.Cond.code ({ cls := "JobWorkshop", name := "swap", desc := "(II)I" } : Jvm.MethodName) prog_1_method_11_code (3 : Nat) (Option.some Jvm.ClassFile.FieldType.int)) ∈ TG := TG_4 (i := 167) rfl rfl
theorem tt_4_168 : (Jvm.Cond.stringRef "JobWorkshop" (202 : Nat) "no such two places") ∈ lw_tbl := TT_4 (i := 168) rfl
theorem tw_4_169 : (Jvm.Cond.methodLink "JobWorkshop" (205 : Nat) ({ cls := "JobWorkshop", name := "putSwapped", desc := "(II)Z" } : Jvm.MethodName)) ∈ TG := TG_4 (i := 169) rfl rfl
theorem tw_4_171 : (Jvm.Cond.instanceMethod ({ cls := "JobWorkshop", name := "putSwapped", desc := "(II)Z" } : Jvm.MethodName)) ∈ TG := TG_4 (i := 171) rfl rfl
theorem tw_4_172 : (Jvm.Cond.code ({ cls := "JobWorkshop", name := "putSwapped", desc := "(II)Z" } : Jvm.MethodName) prog_1_method_62_code (7 : Nat) (Option.some Jvm.ClassFile.FieldType.boolean)) ∈ TG := TG_4 (i := 172) rfl rfl
theorem tw_4_173 : (Jvm.Cond.methodLink "JobWorkshop" (395 : Nat) ({ cls := "java/lang/System", name := "arraycopy", desc := "(Ljava/lang/Object;ILjava/lang/Object;II)V" } : Jvm.MethodName)) ∈ TG := TG_4 (i := 173) rfl rfl
theorem tw_4_174 : (Jvm.Cond.methodLink "JobWorkshop" (401 : Nat) ({ cls := "JobWorkshop$Timetable", name := "nextOf", desc := "([I)I" } : Jvm.MethodName)) ∈ TG := TG_4 (i := 174) rfl rfl
theorem tw_4_175 : (Jvm.Cond.instanceMethod ({ cls := "JobWorkshop$Timetable", name := "nextOf", desc := "([I)I" } : Jvm.MethodName)) ∈ TG := TG_4 (i := 175) rfl rfl
theorem tw_4_176 : (Jvm.Cond.selects "JobWorkshop$Timetable" ({ cls := "JobWorkshop$Timetable", name := "nextOf", desc := "([I)I" } : Jvm.MethodName) ({ cls := "JobWorkshop$Timetable", name := "nextOf", desc := "([I)I" } : Jvm.MethodName)) ∈ TG := TG_4 (i := 176) rfl rfl
theorem tw_4_177 : (Jvm.Cond.code ({ cls := "JobWorkshop$Timetable", name := "nextOf", desc := "([I)I" } : Jvm.MethodName) prog_10_method_20_code (5 : Nat) (Option.some Jvm.ClassFile.FieldType.int)) ∈ TG := TG_4 (i := 177) rfl rfl
theorem tt_4_178 : (Jvm.Cond.stringRef "JobWorkshop" (209 : Nat) "no row tells these orders") ∈ lw_tbl := TT_4 (i := 178) rfl
theorem tw_4_179 : (Jvm.Cond.methodLink "JobWorkshopLaw" (175 : Nat) ({ cls := "JobWorkshopLaw", name := "replan", desc := "(LJobWorkshop;II[J)I" } : Jvm.MethodName)) ∈ TG := TG_4 (i := 179) rfl rfl
theorem tw_4_180 : (Jvm.Cond.static ({ cls := "JobWorkshopLaw", name := "replan", desc := "(LJobWorkshop;II[J)I" } : Jvm.MethodName)) ∈ TG := TG_4 (i := 180) rfl rfl
theorem tw_4_181 : (Jvm.Cond.codeWith ({ cls := "JobWorkshopLaw", name := "replan", desc := "(LJobWorkshop;II[J)I" } : Jvm.MethodName) method_13_code (5 : Nat) (Option.some Jvm.ClassFile.FieldType.int) [((0 : Nat), (10 : Nat), (13 : Nat), (15 : Nat)), ((0 : Nat), (10 : Nat), (17 : Nat), (17 : Nat))]) ∈ TG := TG_4 (i := 181) rfl rfl
theorem tw_4_182 : (Jvm.Cond.methodLink "JobWorkshopLaw" (50 : Nat) ({ cls := "JobWorkshop", name := "replan", desc := "(II)I" } : Jvm.MethodName)) ∈ TG := TG_4 (i := 182) rfl rfl
theorem tw_4_183 : (Jvm.Cond.instanceMethod ({ cls := "JobWorkshop", name := "replan", desc := "(II)I" } : Jvm.MethodName)) ∈ TG := TG_4 (i := 183) rfl rfl
theorem tw_4_184 : (Jvm.Cond.selects "JobWorkshop" ({ cls := "JobWorkshop", name := "replan", desc := "(II)I" } : Jvm.MethodName) ({ cls := "JobWorkshop", name := "replan", desc := "(II)I" } : Jvm.MethodName)) ∈ TG := TG_4 (i := 184) rfl rfl
theorem tw_4_185 : (Jvm.Cond.code ({ cls := "JobWorkshop", name := "replan", desc := "(II)I" } : Jvm.MethodName) prog_1_method_12_code (3 : Nat) (Option.some Jvm.ClassFile.FieldType.int)) ∈ TG := TG_4 (i := 185) rfl rfl
theorem tw_4_186 : (Jvm.Cond.methodLink "JobWorkshop" (211 : Nat) ({ cls := "JobWorkshop", name := "needPlan", desc := "()V" } : Jvm.MethodName)) ∈ TG := TG_4 (i := 186) rfl rfl
theorem tw_4_188 : (Jvm.Cond.instanceMethod ({ cls := "JobWorkshop", name := "needPlan", desc := "()V" } : Jvm.MethodName)) ∈ TG := TG_4 (i := 188) rfl rfl
theorem tw_4_189 : (Jvm.Cond.code ({ cls := "JobWorkshop", name := "needPlan", desc := "()V" } : Jvm.MethodName) prog_1_method_56_code (1 : Nat) (Option.none : Option Jvm.ClassFile.FieldType)) ∈ TG := TG_4 (i := 189) rfl rfl
theorem tt_4_190 : (Jvm.Cond.stringRef "JobWorkshop" (373 : Nat) "there is no plan") ∈ lw_tbl := TT_4 (i := 190) rfl
theorem tw_4_191 : (Jvm.Cond.methodLink "JobWorkshop" (214 : Nat) ({ cls := "JobWorkshop$Timetable", name := "putBegunIn", desc := "(LJobWorkshop$Timetable;I)V" } : Jvm.MethodName)) ∈ TG := TG_4 (i := 191) rfl rfl
theorem tw_4_192 : (Jvm.Cond.instanceMethod ({ cls := "JobWorkshop$Timetable", name := "putBegunIn", desc := "(LJobWorkshop$Timetable;I)V" } : Jvm.MethodName)) ∈ TG := TG_4 (i := 192) rfl rfl
theorem tw_4_193 : (Jvm.Cond.selects "JobWorkshop$Timetable" ({ cls := "JobWorkshop$Timetable", name := "putBegunIn", desc := "(LJobWorkshop$Timetable;I)V" } : Jvm.MethodName) ({ cls := "JobWorkshop$Timetable", name := "putBegunIn", desc := "(LJobWorkshop$Timetable;I)V" } : Jvm.MethodName)) ∈ TG := TG_4 (i := 193) rfl rfl
theorem tw_4_194 : (Jvm.Cond.code ({ cls := "JobWorkshop$Timetable", name := "putBegunIn", desc := "(LJobWorkshop$Timetable;I)V" } : Jvm.MethodName) prog_10_method_16_code (5 : Nat) (Option.none : Option Jvm.ClassFile.FieldType)) ∈ TG := TG_4 (i := 194) rfl rfl
theorem tw_4_195 : (Jvm.Cond.methodLink "JobWorkshopLaw" (178 : Nat) ({ cls := "JobWorkshopLaw", name := "rush", desc := "(LJobWorkshop;I[J)I" } : Jvm.MethodName)) ∈ TG := TG_4 (i := 195) rfl rfl
theorem tw_4_196 : (Jvm.Cond.static ({ cls := "JobWorkshopLaw", name := "rush", desc := "(LJobWorkshop;I[J)I" } : Jvm.MethodName)) ∈ TG := TG_4 (i := 196) rfl rfl
theorem tw_4_197 : (Jvm.Cond.codeWith ({ cls := "JobWorkshopLaw", name := "rush", desc := "(LJobWorkshop;I[J)I" } : Jvm.MethodName) method_14_code (4 : Nat) (Option.some Jvm.ClassFile.FieldType.int) [((0 : Nat), (9 : Nat), (12 : Nat), (13 : Nat)), ((0 : Nat), (9 : Nat), (15 : Nat), (17 : Nat))]) ∈ TG := TG_4 (i := 197) rfl rfl
theorem tw_4_198 : (Jvm.Cond.methodLink "JobWorkshopLaw" (53 : Nat) ({ cls := "JobWorkshop", name := "rush", desc := "(I)I" } : Jvm.MethodName)) ∈ TG := TG_4 (i := 198) rfl rfl
theorem tw_4_199 : (Jvm.Cond.instanceMethod ({ cls := "JobWorkshop", name := "rush", desc := "(I)I" } : Jvm.MethodName)) ∈ TG := TG_4 (i := 199) rfl rfl
theorem tw_4_200 : (Jvm.Cond.selects "JobWorkshop" ({ cls := "JobWorkshop", name := "rush", desc := "(I)I" } : Jvm.MethodName) ({ cls := "JobWorkshop", name := "rush", desc := "(I)I" } : Jvm.MethodName)) ∈ TG := TG_4 (i := 200) rfl rfl
theorem tw_4_201 : (Jvm.Cond.code ({ cls := "JobWorkshop", name := "rush", desc := "(I)I" } : Jvm.MethodName) prog_1_method_13_code (2 : Nat) (Option.some Jvm.ClassFile.FieldType.int)) ∈ TG := TG_4 (i := 201) rfl rfl
theorem tw_4_202 : (Jvm.Cond.methodLink "JobWorkshop" (218 : Nat) ({ cls := "JobWorkshop$Timetable", name := "putRushed", desc := "(I)V" } : Jvm.MethodName)) ∈ TG := TG_4 (i := 202) rfl rfl
theorem tw_4_203 : (Jvm.Cond.instanceMethod ({ cls := "JobWorkshop$Timetable", name := "putRushed", desc := "(I)V" } : Jvm.MethodName)) ∈ TG := TG_4 (i := 203) rfl rfl
theorem tw_4_204 : (Jvm.Cond.selects "JobWorkshop$Timetable" ({ cls := "JobWorkshop$Timetable", name := "putRushed", desc := "(I)V" } : Jvm.MethodName) ({ cls := "JobWorkshop$Timetable", name := "putRushed", desc := "(I)V" } : Jvm.MethodName)) ∈ TG := TG_4 (i := 204) rfl rfl
theorem tw_4_205 : (Jvm.Cond.code ({ cls := "JobWorkshop$Timetable", name := "putRushed", desc := "(I)V" } : Jvm.MethodName) prog_10_method_15_code (4 : Nat) (Option.none : Option Jvm.ClassFile.FieldType)) ∈ TG := TG_4 (i := 205) rfl rfl
theorem tw_4_206 : (Jvm.Cond.methodLink "JobWorkshopLaw" (181 : Nat) ({ cls := "JobWorkshopLaw", name := "setWorker", desc := "(LJobWorkshop;II[J)I" } : Jvm.MethodName)) ∈ TG := TG_4 (i := 206) rfl rfl
theorem tw_4_207 : (Jvm.Cond.static ({ cls := "JobWorkshopLaw", name := "setWorker", desc := "(LJobWorkshop;II[J)I" } : Jvm.MethodName)) ∈ TG := TG_4 (i := 207) rfl rfl
theorem tw_4_208 : (Jvm.Cond.codeWith ({ cls := "JobWorkshopLaw", name := "setWorker", desc := "(LJobWorkshop;II[J)I" } : Jvm.MethodName) method_15_code (5 : Nat) (Option.some Jvm.ClassFile.FieldType.int) [((0 : Nat), (10 : Nat), (13 : Nat), (13 : Nat)), ((0 : Nat), (10 : Nat), (17 : Nat), (15 : Nat))]) ∈ TG := TG_4 (i := 208) rfl rfl
theorem tw_4_209 : (Jvm.Cond.methodLink "JobWorkshopLaw" (56 : Nat) ({ cls := "JobWorkshop", name := "setWorker", desc := "(II)I" } : Jvm.MethodName)) ∈ TG := TG_4 (i := 209) rfl rfl
theorem tw_4_210 : (Jvm.Cond.instanceMethod ({ cls := "JobWorkshop", name := "setWorker", desc := "(II)I" } : Jvm.MethodName)) ∈ TG := TG_4 (i := 210) rfl rfl
theorem tw_4_211 : (Jvm.Cond.selects "JobWorkshop" ({ cls := "JobWorkshop", name := "setWorker", desc := "(II)I" } : Jvm.MethodName) ({ cls := "JobWorkshop", name := "setWorker", desc := "(II)I" } : Jvm.MethodName)) ∈ TG := TG_4 (i := 211) rfl rfl
theorem tw_4_212 : (Jvm.Cond.code ({ cls := "JobWorkshop", name := "setWorker", desc := "(II)I" } : Jvm.MethodName) prog_1_method_14_code (4 : Nat) (Option.some Jvm.ClassFile.FieldType.int)) ∈ TG := TG_4 (i := 212) rfl rfl
theorem tt_4_213 : (Jvm.Cond.stringRef "JobWorkshop" (221 : Nat) "no such worker") ∈ lw_tbl := TT_4 (i := 213) rfl
theorem tw_4_214 : (Jvm.Cond.methodLink "JobWorkshop" (223 : Nat) ({ cls := "JobWorkshop", name := "needMachines", desc := "(I)V" } : Jvm.MethodName)) ∈ TG := TG_4 (i := 214) rfl rfl
theorem tw_4_215 : (Jvm.Cond.static ({ cls := "JobWorkshop", name := "needMachines", desc := "(I)V" } : Jvm.MethodName)) ∈ TG := TG_4 (i := 215) rfl rfl
theorem tw_4_216 : (Jvm.Cond.code ({ cls := "JobWorkshop", name := "needMachines", desc := "(I)V" } : Jvm.MethodName) prog_1_method_54_code (1 : Nat) (Option.none : Option Jvm.ClassFile.FieldType)) ∈ TG := TG_4 (i := 216) rfl rfl
theorem tw_4_217 : (Jvm.Cond.methodLink "JobWorkshopLaw" (192 : Nat) ({ cls := "JobWorkshopLaw", name := "jobAt", desc := "(LJobWorkshop;II[J)I" } : Jvm.MethodName)) ∈ TG := TG_4 (i := 217) rfl rfl
theorem tw_4_218 : (Jvm.Cond.static ({ cls := "JobWorkshopLaw", name := "jobAt", desc := "(LJobWorkshop;II[J)I" } : Jvm.MethodName)) ∈ TG := TG_4 (i := 218) rfl rfl
theorem tw_4_219 : (Jvm.Cond.codeWith ({ cls := "JobWorkshopLaw", name := "jobAt", desc := "(LJobWorkshop;II[J)I" } : Jvm.MethodName) method_16_code (5 : Nat) (Option.some Jvm.ClassFile.FieldType.int) [((0 : Nat), (10 : Nat), (13 : Nat), (13 : Nat)), ((0 : Nat), (10 : Nat), (17 : Nat), (15 : Nat))]) ∈ TG := TG_4 (i := 219) rfl rfl
theorem tw_4_220 : (Jvm.Cond.methodLink "JobWorkshopLaw" (59 : Nat) ({ cls := "JobWorkshop", name := "jobAt", desc := "(II)I" } : Jvm.MethodName)) ∈ TG := TG_4 (i := 220) rfl rfl
theorem tw_4_221 : (Jvm.Cond.instanceMethod ({ cls := "JobWorkshop", name := "jobAt", desc := "(II)I" } : Jvm.MethodName)) ∈ TG := TG_4 (i := 221) rfl rfl
theorem tw_4_222 : (Jvm.Cond.selects "JobWorkshop" ({ cls := "JobWorkshop", name := "jobAt", desc := "(II)I" } : Jvm.MethodName) ({ cls := "JobWorkshop", name := "jobAt", desc := "(II)I" } : Jvm.MethodName)) ∈ TG := TG_4 (i := 222) rfl rfl
theorem tw_4_223 : (Jvm.Cond.code ({ cls := "JobWorkshop", name := "jobAt", desc := "(II)I" } : Jvm.MethodName) prog_1_method_17_code (3 : Nat) (Option.some Jvm.ClassFile.FieldType.int)) ∈ TG := TG_4 (i := 223) rfl rfl
theorem tw_4_224 : (Jvm.Cond.methodLink "JobWorkshop" (254 : Nat) ({ cls := "JobWorkshop$Shop", name := "hoursFrom", desc := "(II)I" } : Jvm.MethodName)) ∈ TG := TG_4 (i := 224) rfl rfl
theorem tw_4_225 : (Jvm.Cond.methodLink "JobWorkshopLaw" (195 : Nat) ({ cls := "JobWorkshopLaw", name := "stepAt", desc := "(LJobWorkshop;III[J)I" } : Jvm.MethodName)) ∈ TG := TG_4 (i := 225) rfl rfl
theorem tw_4_226 : (Jvm.Cond.static ({ cls := "JobWorkshopLaw", name := "stepAt", desc := "(LJobWorkshop;III[J)I" } : Jvm.MethodName)) ∈ TG := TG_4 (i := 226) rfl rfl
theorem tw_4_227 : (Jvm.Cond.codeWith ({ cls := "JobWorkshopLaw", name := "stepAt", desc := "(LJobWorkshop;III[J)I" } : Jvm.MethodName) method_17_code (6 : Nat) (Option.some Jvm.ClassFile.FieldType.int) [((0 : Nat), (12 : Nat), (15 : Nat), (13 : Nat)), ((0 : Nat), (12 : Nat), (19 : Nat), (15 : Nat))]) ∈ TG := TG_4 (i := 227) rfl rfl
theorem tw_4_228 : (Jvm.Cond.methodLink "JobWorkshopLaw" (62 : Nat) ({ cls := "JobWorkshop", name := "stepAt", desc := "(III)I" } : Jvm.MethodName)) ∈ TG := TG_4 (i := 228) rfl rfl
theorem tw_4_229 : (Jvm.Cond.instanceMethod ({ cls := "JobWorkshop", name := "stepAt", desc := "(III)I" } : Jvm.MethodName)) ∈ TG := TG_4 (i := 229) rfl rfl
theorem tw_4_230 : (Jvm.Cond.selects "JobWorkshop" ({ cls := "JobWorkshop", name := "stepAt", desc := "(III)I" } : Jvm.MethodName) ({ cls := "JobWorkshop", name := "stepAt", desc := "(III)I" } : Jvm.MethodName)) ∈ TG := TG_4 (i := 230) rfl rfl
theorem tw_4_231 : (Jvm.Cond.code ({ cls := "JobWorkshop", name := "stepAt", desc := "(III)I" } : Jvm.MethodName) prog_1_method_18_code (5 : Nat) (Option.some Jvm.ClassFile.FieldType.int)) ∈ TG := TG_4 (i := 231) rfl rfl
theorem tw_4_232 : (Jvm.Cond.methodLink "JobWorkshop" (258 : Nat) ({ cls := "JobWorkshop", name := "needStep", desc := "(II)V" } : Jvm.MethodName)) ∈ TG := TG_4 (i := 232) rfl rfl
theorem tw_4_234 : (Jvm.Cond.instanceMethod ({ cls := "JobWorkshop", name := "needStep", desc := "(II)V" } : Jvm.MethodName)) ∈ TG := TG_4 (i := 234) rfl rfl
theorem tw_4_235 : (Jvm.Cond.code ({ cls := "JobWorkshop", name := "needStep", desc := "(II)V" } : Jvm.MethodName) prog_1_method_49_code (3 : Nat) (Option.none : Option Jvm.ClassFile.FieldType)) ∈ TG := TG_4 (i := 235) rfl rfl
theorem tt_4_236 : (Jvm.Cond.stringRef "JobWorkshop" (367 : Nat) "no such step") ∈ lw_tbl := TT_4 (i := 236) rfl
theorem tw_4_237 : (Jvm.Cond.methodLink "JobWorkshopLaw" (198 : Nat) ({ cls := "JobWorkshopLaw", name := "begin", desc := "(LJobWorkshop;II[J)I" } : Jvm.MethodName)) ∈ TG := TG_4 (i := 237) rfl rfl
theorem tw_4_238 : (Jvm.Cond.static ({ cls := "JobWorkshopLaw", name := "begin", desc := "(LJobWorkshop;II[J)I" } : Jvm.MethodName)) ∈ TG := TG_4 (i := 238) rfl rfl
theorem tw_4_239 : (Jvm.Cond.codeWith ({ cls := "JobWorkshopLaw", name := "begin", desc := "(LJobWorkshop;II[J)I" } : Jvm.MethodName) method_18_code (5 : Nat) (Option.some Jvm.ClassFile.FieldType.int) [((0 : Nat), (10 : Nat), (13 : Nat), (13 : Nat)), ((0 : Nat), (10 : Nat), (17 : Nat), (17 : Nat))]) ∈ TG := TG_4 (i := 239) rfl rfl
theorem tw_5_0 : (Jvm.Cond.methodLink "JobWorkshopLaw" (65 : Nat) ({ cls := "JobWorkshop", name := "begin", desc := "(II)I" } : Jvm.MethodName)) ∈ TG := TG_5 (i := 0) rfl rfl
theorem tw_5_1 : (Jvm.Cond.instanceMethod ({ cls := "JobWorkshop", name := "begin", desc := "(II)I" } : Jvm.MethodName)) ∈ TG := TG_5 (i := 1) rfl rfl
theorem tw_5_2 : (Jvm.Cond.selects "JobWorkshop" ({ cls := "JobWorkshop", name := "begin", desc := "(II)I" } : Jvm.MethodName) ({ cls := "JobWorkshop", name := "begin", desc := "(II)I" } : Jvm.MethodName)) ∈ TG := TG_5 (i := 2) rfl rfl
theorem tw_5_3 : (Jvm.Cond.code ({ cls := "JobWorkshop", name := "begin", desc := "(II)I" } : Jvm.MethodName) prog_1_method_19_code (3 : Nat) (Option.some Jvm.ClassFile.FieldType.int)) ∈ TG := TG_5 (i := 3) rfl rfl
theorem tw_5_4 : (Jvm.Cond.methodLink "JobWorkshopLaw" (201 : Nat) ({ cls := "JobWorkshopLaw", name := "endOf", desc := "(LJobWorkshop;I[J)I" } : Jvm.MethodName)) ∈ TG := TG_5 (i := 4) rfl rfl
theorem tw_5_5 : (Jvm.Cond.static ({ cls := "JobWorkshopLaw", name := "endOf", desc := "(LJobWorkshop;I[J)I" } : Jvm.MethodName)) ∈ TG := TG_5 (i := 5) rfl rfl
theorem tw_5_6 : (Jvm.Cond.codeWith ({ cls := "JobWorkshopLaw", name := "endOf", desc := "(LJobWorkshop;I[J)I" } : Jvm.MethodName) method_19_code (4 : Nat) (Option.some Jvm.ClassFile.FieldType.int) [((0 : Nat), (9 : Nat), (12 : Nat), (13 : Nat)), ((0 : Nat), (9 : Nat), (15 : Nat), (17 : Nat))]) ∈ TG := TG_5 (i := 6) rfl rfl
theorem tw_5_7 : (Jvm.Cond.methodLink "JobWorkshopLaw" (68 : Nat) ({ cls := "JobWorkshop", name := "endOf", desc := "(I)I" } : Jvm.MethodName)) ∈ TG := TG_5 (i := 7) rfl rfl
theorem tw_5_8 : (Jvm.Cond.instanceMethod ({ cls := "JobWorkshop", name := "endOf", desc := "(I)I" } : Jvm.MethodName)) ∈ TG := TG_5 (i := 8) rfl rfl
theorem tw_5_9 : (Jvm.Cond.selects "JobWorkshop" ({ cls := "JobWorkshop", name := "endOf", desc := "(I)I" } : Jvm.MethodName) ({ cls := "JobWorkshop", name := "endOf", desc := "(I)I" } : Jvm.MethodName)) ∈ TG := TG_5 (i := 9) rfl rfl
theorem tw_5_10 : (Jvm.Cond.code ({ cls := "JobWorkshop", name := "endOf", desc := "(I)I" } : Jvm.MethodName) prog_1_method_20_code (2 : Nat) (Option.some Jvm.ClassFile.FieldType.int)) ∈ TG := TG_5 (i := 10) rfl rfl
theorem tw_5_11 : (Jvm.Cond.methodLink "JobWorkshop" (271 : Nat) ({ cls := "JobWorkshop$Timetable", name := "leastEndOf", desc := "(I)I" } : Jvm.MethodName)) ∈ TG := TG_5 (i := 11) rfl rfl
theorem tw_5_12 : (Jvm.Cond.methodLink "JobWorkshopLaw" (204 : Nat) ({ cls := "JobWorkshopLaw", name := "value", desc := "(LJobWorkshop;I[J)I" } : Jvm.MethodName)) ∈ TG := TG_5 (i := 12) rfl rfl
theorem tw_5_13 : (Jvm.Cond.static ({ cls := "JobWorkshopLaw", name := "value", desc := "(LJobWorkshop;I[J)I" } : Jvm.MethodName)) ∈ TG := TG_5 (i := 13) rfl rfl
theorem tw_5_14 : (Jvm.Cond.codeWith ({ cls := "JobWorkshopLaw", name := "value", desc := "(LJobWorkshop;I[J)I" } : Jvm.MethodName) method_20_code (4 : Nat) (Option.some Jvm.ClassFile.FieldType.int) [((0 : Nat), (9 : Nat), (12 : Nat), (15 : Nat)), ((0 : Nat), (9 : Nat), (15 : Nat), (17 : Nat))]) ∈ TG := TG_5 (i := 14) rfl rfl
theorem tw_5_15 : (Jvm.Cond.methodLink "JobWorkshopLaw" (71 : Nat) ({ cls := "JobWorkshop", name := "value", desc := "(I)I" } : Jvm.MethodName)) ∈ TG := TG_5 (i := 15) rfl rfl
theorem tw_5_16 : (Jvm.Cond.instanceMethod ({ cls := "JobWorkshop", name := "value", desc := "(I)I" } : Jvm.MethodName)) ∈ TG := TG_5 (i := 16) rfl rfl
theorem tw_5_17 : (Jvm.Cond.selects "JobWorkshop" ({ cls := "JobWorkshop", name := "value", desc := "(I)I" } : Jvm.MethodName) ({ cls := "JobWorkshop", name := "value", desc := "(I)I" } : Jvm.MethodName)) ∈ TG := TG_5 (i := 17) rfl rfl
theorem tw_5_18 : (Jvm.Cond.code ({ cls := "JobWorkshop", name := "value", desc := "(I)I" } : Jvm.MethodName) prog_1_method_21_code (2 : Nat) (Option.some Jvm.ClassFile.FieldType.int)) ∈ TG := TG_5 (i := 18) rfl rfl
theorem tw_5_19 : (Jvm.Cond.methodLink "JobWorkshopLaw" (211 : Nat) ({ cls := "JobWorkshopLaw", name := "orderAt", desc := "(LJobWorkshop;II[J)I" } : Jvm.MethodName)) ∈ TG := TG_5 (i := 19) rfl rfl
theorem tw_5_20 : (Jvm.Cond.static ({ cls := "JobWorkshopLaw", name := "orderAt", desc := "(LJobWorkshop;II[J)I" } : Jvm.MethodName)) ∈ TG := TG_5 (i := 20) rfl rfl
theorem tw_5_21 : (Jvm.Cond.codeWith ({ cls := "JobWorkshopLaw", name := "orderAt", desc := "(LJobWorkshop;II[J)I" } : Jvm.MethodName) method_21_code (5 : Nat) (Option.some Jvm.ClassFile.FieldType.int) [((0 : Nat), (10 : Nat), (13 : Nat), (13 : Nat))]) ∈ TG := TG_5 (i := 21) rfl rfl
theorem tw_5_22 : (Jvm.Cond.methodLink "JobWorkshopLaw" (74 : Nat) ({ cls := "JobWorkshop", name := "orderAt", desc := "(II)I" } : Jvm.MethodName)) ∈ TG := TG_5 (i := 22) rfl rfl
theorem tw_5_23 : (Jvm.Cond.instanceMethod ({ cls := "JobWorkshop", name := "orderAt", desc := "(II)I" } : Jvm.MethodName)) ∈ TG := TG_5 (i := 23) rfl rfl
theorem tw_5_24 : (Jvm.Cond.selects "JobWorkshop" ({ cls := "JobWorkshop", name := "orderAt", desc := "(II)I" } : Jvm.MethodName) ({ cls := "JobWorkshop", name := "orderAt", desc := "(II)I" } : Jvm.MethodName)) ∈ TG := TG_5 (i := 24) rfl rfl
theorem tw_5_25 : (Jvm.Cond.code ({ cls := "JobWorkshop", name := "orderAt", desc := "(II)I" } : Jvm.MethodName) prog_1_method_23_code (3 : Nat) (Option.some Jvm.ClassFile.FieldType.int)) ∈ TG := TG_5 (i := 25) rfl rfl
theorem tt_5_26 : (Jvm.Cond.stringRef "JobWorkshop" (277 : Nat) "no such place") ∈ lw_tbl := TT_5 (i := 26) rfl
theorem tw_5_27 : (Jvm.Cond.methodLink "JobWorkshop" (282 : Nat) ({ cls := "JobWorkshop", name := "told", desc := "(I)I" } : Jvm.MethodName)) ∈ TG := TG_5 (i := 27) rfl rfl
theorem tw_5_28 : (Jvm.Cond.static ({ cls := "JobWorkshop", name := "told", desc := "(I)I" } : Jvm.MethodName)) ∈ TG := TG_5 (i := 28) rfl rfl
theorem tw_5_29 : (Jvm.Cond.code ({ cls := "JobWorkshop", name := "told", desc := "(I)I" } : Jvm.MethodName) prog_1_method_57_code (1 : Nat) (Option.some Jvm.ClassFile.FieldType.int)) ∈ TG := TG_5 (i := 29) rfl rfl
theorem tw_5_30 : (Jvm.Cond.methodLink "JobWorkshopLaw" (214 : Nat) ({ cls := "JobWorkshopLaw", name := "doneIn", desc := "(LJobWorkshop;II[J)I" } : Jvm.MethodName)) ∈ TG := TG_5 (i := 30) rfl rfl
theorem tw_5_31 : (Jvm.Cond.static ({ cls := "JobWorkshopLaw", name := "doneIn", desc := "(LJobWorkshop;II[J)I" } : Jvm.MethodName)) ∈ TG := TG_5 (i := 31) rfl rfl
theorem tw_5_32 : (Jvm.Cond.codeWith ({ cls := "JobWorkshopLaw", name := "doneIn", desc := "(LJobWorkshop;II[J)I" } : Jvm.MethodName) method_22_code (5 : Nat) (Option.some Jvm.ClassFile.FieldType.int) [((0 : Nat), (10 : Nat), (13 : Nat), (13 : Nat)), ((0 : Nat), (10 : Nat), (17 : Nat), (15 : Nat)), ((0 : Nat), (10 : Nat), (21 : Nat), (17 : Nat))]) ∈ TG := TG_5 (i := 32) rfl rfl
theorem tw_5_33 : (Jvm.Cond.methodLink "JobWorkshopLaw" (77 : Nat) ({ cls := "JobWorkshop", name := "doneIn", desc := "(II)I" } : Jvm.MethodName)) ∈ TG := TG_5 (i := 33) rfl rfl
theorem tw_5_34 : (Jvm.Cond.instanceMethod ({ cls := "JobWorkshop", name := "doneIn", desc := "(II)I" } : Jvm.MethodName)) ∈ TG := TG_5 (i := 34) rfl rfl
theorem tw_5_35 : (Jvm.Cond.selects "JobWorkshop" ({ cls := "JobWorkshop", name := "doneIn", desc := "(II)I" } : Jvm.MethodName) ({ cls := "JobWorkshop", name := "doneIn", desc := "(II)I" } : Jvm.MethodName)) ∈ TG := TG_5 (i := 35) rfl rfl
theorem tw_5_36 : (Jvm.Cond.code ({ cls := "JobWorkshop", name := "doneIn", desc := "(II)I" } : Jvm.MethodName) prog_1_method_24_code (5 : Nat) (Option.some Jvm.ClassFile.FieldType.int)) ∈ TG := TG_5 (i := 36) rfl rfl
theorem tw_5_37 : (Jvm.Cond.methodLink "JobWorkshop" (285 : Nat) ({ cls := "JobWorkshop$Timetable", name := "endOfStep", desc := "(I)I" } : Jvm.MethodName)) ∈ TG := TG_5 (i := 37) rfl rfl
theorem tw_5_38 : (Jvm.Cond.methodLink "JobWorkshopLaw" (217 : Nat) ({ cls := "JobWorkshopLaw", name := "wayLength", desc := "(LJobWorkshop;[J)I" } : Jvm.MethodName)) ∈ TG := TG_5 (i := 38) rfl rfl
theorem tw_5_39 : (Jvm.Cond.static ({ cls := "JobWorkshopLaw", name := "wayLength", desc := "(LJobWorkshop;[J)I" } : Jvm.MethodName)) ∈ TG := TG_5 (i := 39) rfl rfl
theorem tw_5_40 : (Jvm.Cond.codeWith ({ cls := "JobWorkshopLaw", name := "wayLength", desc := "(LJobWorkshop;[J)I" } : Jvm.MethodName) method_23_code (3 : Nat) (Option.some Jvm.ClassFile.FieldType.int) [((0 : Nat), (8 : Nat), (11 : Nat), (17 : Nat))]) ∈ TG := TG_5 (i := 40) rfl rfl
theorem tw_5_41 : (Jvm.Cond.methodLink "JobWorkshopLaw" (80 : Nat) ({ cls := "JobWorkshop", name := "wayLength", desc := "()I" } : Jvm.MethodName)) ∈ TG := TG_5 (i := 41) rfl rfl
theorem tw_5_42 : (Jvm.Cond.instanceMethod ({ cls := "JobWorkshop", name := "wayLength", desc := "()I" } : Jvm.MethodName)) ∈ TG := TG_5 (i := 42) rfl rfl
theorem tw_5_43 : (Jvm.Cond.selects "JobWorkshop" ({ cls := "JobWorkshop", name := "wayLength", desc := "()I" } : Jvm.MethodName) ({ cls := "JobWorkshop", name := "wayLength", desc := "()I" } : Jvm.MethodName)) ∈ TG := TG_5 (i := 43) rfl rfl
theorem tw_5_44 : (Jvm.Cond.code ({ cls := "JobWorkshop", name := "wayLength", desc := "()I" } : Jvm.MethodName) prog_1_method_25_code (1 : Nat) (Option.some Jvm.ClassFile.FieldType.int)) ∈ TG := TG_5 (i := 44) rfl rfl
theorem tw_5_45 : (Jvm.Cond.methodLink "JobWorkshop" (288 : Nat) ({ cls := "JobWorkshop$Way", name := "trace", desc := "()V" } : Jvm.MethodName)) ∈ TG := TG_5 (i := 45) rfl rfl
theorem tw_5_46 : (Jvm.Cond.instanceMethod ({ cls := "JobWorkshop$Way", name := "trace", desc := "()V" } : Jvm.MethodName)) ∈ TG := TG_5 (i := 46) rfl rfl
theorem tw_5_47 : (Jvm.Cond.selects "JobWorkshop$Way" ({ cls := "JobWorkshop$Way", name := "trace", desc := "()V" } : Jvm.MethodName) ({ cls := "JobWorkshop$Way", name := "trace", desc := "()V" } : Jvm.MethodName)) ∈ TG := TG_5 (i := 47) rfl rfl
theorem tw_5_48 : (Jvm.Cond.code ({ cls := "JobWorkshop$Way", name := "trace", desc := "()V" } : Jvm.MethodName) prog_11_method_2_code (5 : Nat) (Option.none : Option Jvm.ClassFile.FieldType)) ∈ TG := TG_5 (i := 48) rfl rfl
theorem tw_5_49 : (Jvm.Cond.methodLink "JobWorkshop$Way" (33 : Nat) ({ cls := "JobWorkshop$Way", name := "latestStep", desc := "()I" } : Jvm.MethodName)) ∈ TG := TG_5 (i := 49) rfl rfl
theorem tw_5_51 : (Jvm.Cond.instanceMethod ({ cls := "JobWorkshop$Way", name := "latestStep", desc := "()I" } : Jvm.MethodName)) ∈ TG := TG_5 (i := 51) rfl rfl
theorem tw_5_52 : (Jvm.Cond.code ({ cls := "JobWorkshop$Way", name := "latestStep", desc := "()I" } : Jvm.MethodName) prog_11_method_3_code (4 : Nat) (Option.some Jvm.ClassFile.FieldType.int)) ∈ TG := TG_5 (i := 52) rfl rfl
theorem tw_5_53 : (Jvm.Cond.methodLink "JobWorkshop$Way" (60 : Nat) ({ cls := "JobWorkshop$Timetable", name := "endOfStep", desc := "(I)I" } : Jvm.MethodName)) ∈ TG := TG_5 (i := 53) rfl rfl
theorem tw_5_54 : (Jvm.Cond.methodLink "JobWorkshop$Way" (42 : Nat) ({ cls := "java/lang/Math", name := "max", desc := "(II)I" } : Jvm.MethodName)) ∈ TG := TG_5 (i := 54) rfl rfl
theorem tw_5_55 : (Jvm.Cond.methodLink "JobWorkshop$Way" (48 : Nat) ({ cls := "JobWorkshop$Way", name := "stepAheadOf", desc := "(I)I" } : Jvm.MethodName)) ∈ TG := TG_5 (i := 55) rfl rfl
theorem tw_5_57 : (Jvm.Cond.instanceMethod ({ cls := "JobWorkshop$Way", name := "stepAheadOf", desc := "(I)I" } : Jvm.MethodName)) ∈ TG := TG_5 (i := 57) rfl rfl
theorem tw_5_58 : (Jvm.Cond.code ({ cls := "JobWorkshop$Way", name := "stepAheadOf", desc := "(I)I" } : Jvm.MethodName) prog_11_method_4_code (3 : Nat) (Option.some Jvm.ClassFile.FieldType.int)) ∈ TG := TG_5 (i := 58) rfl rfl
theorem tw_5_59 : (Jvm.Cond.methodLink "JobWorkshopLaw" (221 : Nat) ({ cls := "JobWorkshopLaw", name := "wayAt", desc := "(LJobWorkshop;I[J)I" } : Jvm.MethodName)) ∈ TG := TG_5 (i := 59) rfl rfl
theorem tw_5_60 : (Jvm.Cond.static ({ cls := "JobWorkshopLaw", name := "wayAt", desc := "(LJobWorkshop;I[J)I" } : Jvm.MethodName)) ∈ TG := TG_5 (i := 60) rfl rfl
theorem tw_5_61 : (Jvm.Cond.codeWith ({ cls := "JobWorkshopLaw", name := "wayAt", desc := "(LJobWorkshop;I[J)I" } : Jvm.MethodName) method_24_code (4 : Nat) (Option.some Jvm.ClassFile.FieldType.int) [((0 : Nat), (9 : Nat), (12 : Nat), (13 : Nat))]) ∈ TG := TG_5 (i := 61) rfl rfl
theorem tw_5_62 : (Jvm.Cond.methodLink "JobWorkshopLaw" (84 : Nat) ({ cls := "JobWorkshop", name := "wayAt", desc := "(I)I" } : Jvm.MethodName)) ∈ TG := TG_5 (i := 62) rfl rfl
theorem tw_5_63 : (Jvm.Cond.instanceMethod ({ cls := "JobWorkshop", name := "wayAt", desc := "(I)I" } : Jvm.MethodName)) ∈ TG := TG_5 (i := 63) rfl rfl
theorem tw_5_64 : (Jvm.Cond.selects "JobWorkshop" ({ cls := "JobWorkshop", name := "wayAt", desc := "(I)I" } : Jvm.MethodName) ({ cls := "JobWorkshop", name := "wayAt", desc := "(I)I" } : Jvm.MethodName)) ∈ TG := TG_5 (i := 64) rfl rfl
theorem tw_5_65 : (Jvm.Cond.code ({ cls := "JobWorkshop", name := "wayAt", desc := "(I)I" } : Jvm.MethodName) prog_1_method_26_code (2 : Nat) (Option.some Jvm.ClassFile.FieldType.int)) ∈ TG := TG_5 (i := 65) rfl rfl
theorem tw_5_66 : (Jvm.Cond.methodLink "JobWorkshopLaw" (224 : Nat) ({ cls := "JobWorkshopLaw", name := "blocks", desc := "(LJobWorkshop;[J)I" } : Jvm.MethodName)) ∈ TG := TG_5 (i := 66) rfl rfl
theorem tw_5_67 : (Jvm.Cond.static ({ cls := "JobWorkshopLaw", name := "blocks", desc := "(LJobWorkshop;[J)I" } : Jvm.MethodName)) ∈ TG := TG_5 (i := 67) rfl rfl
theorem tw_5_68 : (Jvm.Cond.codeWith ({ cls := "JobWorkshopLaw", name := "blocks", desc := "(LJobWorkshop;[J)I" } : Jvm.MethodName) method_25_code (3 : Nat) (Option.some Jvm.ClassFile.FieldType.int) [((0 : Nat), (8 : Nat), (11 : Nat), (17 : Nat))]) ∈ TG := TG_5 (i := 68) rfl rfl
theorem tw_5_69 : (Jvm.Cond.methodLink "JobWorkshopLaw" (87 : Nat) ({ cls := "JobWorkshop", name := "blocks", desc := "()I" } : Jvm.MethodName)) ∈ TG := TG_5 (i := 69) rfl rfl
theorem tw_5_70 : (Jvm.Cond.instanceMethod ({ cls := "JobWorkshop", name := "blocks", desc := "()I" } : Jvm.MethodName)) ∈ TG := TG_5 (i := 70) rfl rfl
theorem tw_5_71 : (Jvm.Cond.selects "JobWorkshop" ({ cls := "JobWorkshop", name := "blocks", desc := "()I" } : Jvm.MethodName) ({ cls := "JobWorkshop", name := "blocks", desc := "()I" } : Jvm.MethodName)) ∈ TG := TG_5 (i := 71) rfl rfl
theorem tw_5_72 : (Jvm.Cond.code ({ cls := "JobWorkshop", name := "blocks", desc := "()I" } : Jvm.MethodName) prog_1_method_27_code (1 : Nat) (Option.some Jvm.ClassFile.FieldType.int)) ∈ TG := TG_5 (i := 72) rfl rfl
theorem tw_5_73 : (Jvm.Cond.methodLink "JobWorkshopLaw" (227 : Nat) ({ cls := "JobWorkshopLaw", name := "longestBlock", desc := "(LJobWorkshop;[J)I" } : Jvm.MethodName)) ∈ TG := TG_5 (i := 73) rfl rfl
theorem tw_5_74 : (Jvm.Cond.static ({ cls := "JobWorkshopLaw", name := "longestBlock", desc := "(LJobWorkshop;[J)I" } : Jvm.MethodName)) ∈ TG := TG_5 (i := 74) rfl rfl
theorem tw_5_75 : (Jvm.Cond.codeWith ({ cls := "JobWorkshopLaw", name := "longestBlock", desc := "(LJobWorkshop;[J)I" } : Jvm.MethodName) method_26_code (3 : Nat) (Option.some Jvm.ClassFile.FieldType.int) [((0 : Nat), (8 : Nat), (11 : Nat), (17 : Nat))]) ∈ TG := TG_5 (i := 75) rfl rfl
theorem tw_5_76 : (Jvm.Cond.methodLink "JobWorkshopLaw" (90 : Nat) ({ cls := "JobWorkshop", name := "longestBlock", desc := "()I" } : Jvm.MethodName)) ∈ TG := TG_5 (i := 76) rfl rfl
theorem tw_5_77 : (Jvm.Cond.instanceMethod ({ cls := "JobWorkshop", name := "longestBlock", desc := "()I" } : Jvm.MethodName)) ∈ TG := TG_5 (i := 77) rfl rfl
theorem tw_5_78 : (Jvm.Cond.selects "JobWorkshop" ({ cls := "JobWorkshop", name := "longestBlock", desc := "()I" } : Jvm.MethodName) ({ cls := "JobWorkshop", name := "longestBlock", desc := "()I" } : Jvm.MethodName)) ∈ TG := TG_5 (i := 78) rfl rfl
theorem tw_5_79 : (Jvm.Cond.code ({ cls := "JobWorkshop", name := "longestBlock", desc := "()I" } : Jvm.MethodName) prog_1_method_28_code (1 : Nat) (Option.some Jvm.ClassFile.FieldType.int)) ∈ TG := TG_5 (i := 79) rfl rfl
theorem tw_5_80 : (Jvm.Cond.methodLink "JobWorkshopLaw" (230 : Nat) ({ cls := "JobWorkshopLaw", name := "slack", desc := "(LJobWorkshop;II[J)I" } : Jvm.MethodName)) ∈ TG := TG_5 (i := 80) rfl rfl
theorem tw_5_81 : (Jvm.Cond.static ({ cls := "JobWorkshopLaw", name := "slack", desc := "(LJobWorkshop;II[J)I" } : Jvm.MethodName)) ∈ TG := TG_5 (i := 81) rfl rfl
theorem tw_5_82 : (Jvm.Cond.codeWith ({ cls := "JobWorkshopLaw", name := "slack", desc := "(LJobWorkshop;II[J)I" } : Jvm.MethodName) method_27_code (5 : Nat) (Option.some Jvm.ClassFile.FieldType.int) [((0 : Nat), (10 : Nat), (13 : Nat), (13 : Nat)), ((0 : Nat), (10 : Nat), (17 : Nat), (17 : Nat))]) ∈ TG := TG_5 (i := 82) rfl rfl
theorem tw_5_83 : (Jvm.Cond.methodLink "JobWorkshopLaw" (93 : Nat) ({ cls := "JobWorkshop", name := "slack", desc := "(II)I" } : Jvm.MethodName)) ∈ TG := TG_5 (i := 83) rfl rfl
theorem tw_5_84 : (Jvm.Cond.instanceMethod ({ cls := "JobWorkshop", name := "slack", desc := "(II)I" } : Jvm.MethodName)) ∈ TG := TG_5 (i := 84) rfl rfl
theorem tw_5_85 : (Jvm.Cond.selects "JobWorkshop" ({ cls := "JobWorkshop", name := "slack", desc := "(II)I" } : Jvm.MethodName) ({ cls := "JobWorkshop", name := "slack", desc := "(II)I" } : Jvm.MethodName)) ∈ TG := TG_5 (i := 85) rfl rfl
theorem tw_5_86 : (Jvm.Cond.code ({ cls := "JobWorkshop", name := "slack", desc := "(II)I" } : Jvm.MethodName) prog_1_method_29_code (7 : Nat) (Option.some Jvm.ClassFile.FieldType.int)) ∈ TG := TG_5 (i := 86) rfl rfl
theorem tw_5_87 : (Jvm.Cond.methodLink "JobWorkshop" (303 : Nat) ({ cls := "JobWorkshop$Timetable", name := "putDelayed", desc := "(II)V" } : Jvm.MethodName)) ∈ TG := TG_5 (i := 87) rfl rfl
theorem tw_5_88 : (Jvm.Cond.methodLink "JobWorkshopLaw" (233 : Nat) ({ cls := "JobWorkshopLaw", name := "delay", desc := "(LJobWorkshop;II[J)I" } : Jvm.MethodName)) ∈ TG := TG_5 (i := 88) rfl rfl
theorem tw_5_89 : (Jvm.Cond.static ({ cls := "JobWorkshopLaw", name := "delay", desc := "(LJobWorkshop;II[J)I" } : Jvm.MethodName)) ∈ TG := TG_5 (i := 89) rfl rfl
theorem tw_5_90 : (Jvm.Cond.codeWith ({ cls := "JobWorkshopLaw", name := "delay", desc := "(LJobWorkshop;II[J)I" } : Jvm.MethodName) method_28_code (5 : Nat) (Option.some Jvm.ClassFile.FieldType.int) [((0 : Nat), (10 : Nat), (13 : Nat), (13 : Nat)), ((0 : Nat), (10 : Nat), (17 : Nat), (17 : Nat))]) ∈ TG := TG_5 (i := 90) rfl rfl
theorem tw_5_91 : (Jvm.Cond.methodLink "JobWorkshopLaw" (96 : Nat) ({ cls := "JobWorkshop", name := "delay", desc := "(II)I" } : Jvm.MethodName)) ∈ TG := TG_5 (i := 91) rfl rfl
theorem tw_5_92 : (Jvm.Cond.instanceMethod ({ cls := "JobWorkshop", name := "delay", desc := "(II)I" } : Jvm.MethodName)) ∈ TG := TG_5 (i := 92) rfl rfl
theorem tw_5_93 : (Jvm.Cond.selects "JobWorkshop" ({ cls := "JobWorkshop", name := "delay", desc := "(II)I" } : Jvm.MethodName) ({ cls := "JobWorkshop", name := "delay", desc := "(II)I" } : Jvm.MethodName)) ∈ TG := TG_5 (i := 93) rfl rfl
theorem tw_5_94 : (Jvm.Cond.code ({ cls := "JobWorkshop", name := "delay", desc := "(II)I" } : Jvm.MethodName) prog_1_method_30_code (3 : Nat) (Option.some Jvm.ClassFile.FieldType.int)) ∈ TG := TG_5 (i := 94) rfl rfl
theorem tw_5_95 : (Jvm.Cond.methodLink "JobWorkshopLaw" (248 : Nat) ({ cls := "JobWorkshopLaw", name := "isDropped", desc := "(LJobWorkshop;I[J)I" } : Jvm.MethodName)) ∈ TG := TG_5 (i := 95) rfl rfl
theorem tw_5_96 : (Jvm.Cond.static ({ cls := "JobWorkshopLaw", name := "isDropped", desc := "(LJobWorkshop;I[J)I" } : Jvm.MethodName)) ∈ TG := TG_5 (i := 96) rfl rfl
theorem tw_5_97 : (Jvm.Cond.codeWith ({ cls := "JobWorkshopLaw", name := "isDropped", desc := "(LJobWorkshop;I[J)I" } : Jvm.MethodName) method_29_code (4 : Nat) (Option.some Jvm.ClassFile.FieldType.int) [((0 : Nat), (16 : Nat), (19 : Nat), (13 : Nat))]) ∈ TG := TG_5 (i := 97) rfl rfl
theorem tw_5_98 : (Jvm.Cond.methodLink "JobWorkshopLaw" (99 : Nat) ({ cls := "JobWorkshop", name := "isDropped", desc := "(I)Z" } : Jvm.MethodName)) ∈ TG := TG_5 (i := 98) rfl rfl
theorem tw_5_99 : (Jvm.Cond.instanceMethod ({ cls := "JobWorkshop", name := "isDropped", desc := "(I)Z" } : Jvm.MethodName)) ∈ TG := TG_5 (i := 99) rfl rfl
theorem tw_5_100 : (Jvm.Cond.selects "JobWorkshop" ({ cls := "JobWorkshop", name := "isDropped", desc := "(I)Z" } : Jvm.MethodName) ({ cls := "JobWorkshop", name := "isDropped", desc := "(I)Z" } : Jvm.MethodName)) ∈ TG := TG_5 (i := 100) rfl rfl
theorem tw_5_101 : (Jvm.Cond.code ({ cls := "JobWorkshop", name := "isDropped", desc := "(I)Z" } : Jvm.MethodName) prog_1_method_34_code (2 : Nat) (Option.some Jvm.ClassFile.FieldType.boolean)) ∈ TG := TG_5 (i := 101) rfl rfl
theorem tw_5_102 : (Jvm.Cond.methodLink "JobWorkshopLaw" (255 : Nat) ({ cls := "JobWorkshopLaw", name := "twoAt", desc := "(LJobWorkshop;I[J)I" } : Jvm.MethodName)) ∈ TG := TG_5 (i := 102) rfl rfl
theorem tw_5_103 : (Jvm.Cond.static ({ cls := "JobWorkshopLaw", name := "twoAt", desc := "(LJobWorkshop;I[J)I" } : Jvm.MethodName)) ∈ TG := TG_5 (i := 103) rfl rfl
theorem tw_5_104 : (Jvm.Cond.codeWith ({ cls := "JobWorkshopLaw", name := "twoAt", desc := "(LJobWorkshop;I[J)I" } : Jvm.MethodName) method_30_code (4 : Nat) (Option.some Jvm.ClassFile.FieldType.int) [((0 : Nat), (9 : Nat), (12 : Nat), (13 : Nat))]) ∈ TG := TG_5 (i := 104) rfl rfl
theorem tw_5_105 : (Jvm.Cond.methodLink "JobWorkshopLaw" (103 : Nat) ({ cls := "JobWorkshop", name := "twoAt", desc := "(I)I" } : Jvm.MethodName)) ∈ TG := TG_5 (i := 105) rfl rfl
theorem tw_5_106 : (Jvm.Cond.instanceMethod ({ cls := "JobWorkshop", name := "twoAt", desc := "(I)I" } : Jvm.MethodName)) ∈ TG := TG_5 (i := 106) rfl rfl
theorem tw_5_107 : (Jvm.Cond.selects "JobWorkshop" ({ cls := "JobWorkshop", name := "twoAt", desc := "(I)I" } : Jvm.MethodName) ({ cls := "JobWorkshop", name := "twoAt", desc := "(I)I" } : Jvm.MethodName)) ∈ TG := TG_5 (i := 107) rfl rfl
theorem tw_5_108 : (Jvm.Cond.code ({ cls := "JobWorkshop", name := "twoAt", desc := "(I)I" } : Jvm.MethodName) prog_1_method_36_code (2 : Nat) (Option.some Jvm.ClassFile.FieldType.int)) ∈ TG := TG_5 (i := 108) rfl rfl
theorem tw_5_109 : (Jvm.Cond.methodLink "JobWorkshop" (323 : Nat) ({ cls := "JobWorkshop", name := "needPlaceOfJob", desc := "(I)V" } : Jvm.MethodName)) ∈ TG := TG_5 (i := 109) rfl rfl
theorem tw_5_111 : (Jvm.Cond.instanceMethod ({ cls := "JobWorkshop", name := "needPlaceOfJob", desc := "(I)V" } : Jvm.MethodName)) ∈ TG := TG_5 (i := 111) rfl rfl
theorem tw_5_112 : (Jvm.Cond.code ({ cls := "JobWorkshop", name := "needPlaceOfJob", desc := "(I)V" } : Jvm.MethodName) prog_1_method_50_code (2 : Nat) (Option.none : Option Jvm.ClassFile.FieldType)) ∈ TG := TG_5 (i := 112) rfl rfl
theorem tw_5_113 : (Jvm.Cond.methodLink "JobWorkshop" (326 : Nat) ({ cls := "JobWorkshop$Sequences", name := "jobOnTwo", desc := "(I)I" } : Jvm.MethodName)) ∈ TG := TG_5 (i := 113) rfl rfl
theorem tw_5_114 : (Jvm.Cond.instanceMethod ({ cls := "JobWorkshop$Sequences", name := "jobOnTwo", desc := "(I)I" } : Jvm.MethodName)) ∈ TG := TG_5 (i := 114) rfl rfl
theorem tw_5_115 : (Jvm.Cond.selects "JobWorkshop$Sequences" ({ cls := "JobWorkshop$Sequences", name := "jobOnTwo", desc := "(I)I" } : Jvm.MethodName) ({ cls := "JobWorkshop$Sequences", name := "jobOnTwo", desc := "(I)I" } : Jvm.MethodName)) ∈ TG := TG_5 (i := 115) rfl rfl
theorem tw_5_116 : (Jvm.Cond.code ({ cls := "JobWorkshop$Sequences", name := "jobOnTwo", desc := "(I)I" } : Jvm.MethodName) prog_7_method_11_code (2 : Nat) (Option.some Jvm.ClassFile.FieldType.int)) ∈ TG := TG_5 (i := 116) rfl rfl
theorem tw_5_117 : (Jvm.Cond.methodLink "JobWorkshopLaw" (262 : Nat) ({ cls := "JobWorkshopLaw", name := "setupAt", desc := "(LJobWorkshop;I[J)I" } : Jvm.MethodName)) ∈ TG := TG_5 (i := 117) rfl rfl
theorem tw_5_118 : (Jvm.Cond.static ({ cls := "JobWorkshopLaw", name := "setupAt", desc := "(LJobWorkshop;I[J)I" } : Jvm.MethodName)) ∈ TG := TG_5 (i := 118) rfl rfl
theorem tw_5_119 : (Jvm.Cond.codeWith ({ cls := "JobWorkshopLaw", name := "setupAt", desc := "(LJobWorkshop;I[J)I" } : Jvm.MethodName) method_31_code (4 : Nat) (Option.some Jvm.ClassFile.FieldType.int) [((0 : Nat), (9 : Nat), (12 : Nat), (13 : Nat))]) ∈ TG := TG_5 (i := 119) rfl rfl
theorem tw_5_120 : (Jvm.Cond.methodLink "JobWorkshopLaw" (106 : Nat) ({ cls := "JobWorkshop", name := "setupAt", desc := "(I)I" } : Jvm.MethodName)) ∈ TG := TG_5 (i := 120) rfl rfl
theorem tw_5_121 : (Jvm.Cond.instanceMethod ({ cls := "JobWorkshop", name := "setupAt", desc := "(I)I" } : Jvm.MethodName)) ∈ TG := TG_5 (i := 121) rfl rfl
theorem tw_5_122 : (Jvm.Cond.selects "JobWorkshop" ({ cls := "JobWorkshop", name := "setupAt", desc := "(I)I" } : Jvm.MethodName) ({ cls := "JobWorkshop", name := "setupAt", desc := "(I)I" } : Jvm.MethodName)) ∈ TG := TG_5 (i := 122) rfl rfl
theorem tw_5_123 : (Jvm.Cond.code ({ cls := "JobWorkshop", name := "setupAt", desc := "(I)I" } : Jvm.MethodName) prog_1_method_38_code (2 : Nat) (Option.some Jvm.ClassFile.FieldType.int)) ∈ TG := TG_5 (i := 123) rfl rfl
theorem tw_5_124 : (Jvm.Cond.methodLink "JobWorkshopLaw" (265 : Nat) ({ cls := "JobWorkshopLaw", name := "match", desc := "(LJobWorkshop;I[J)I" } : Jvm.MethodName)) ∈ TG := TG_5 (i := 124) rfl rfl
theorem tw_5_125 : (Jvm.Cond.static ({ cls := "JobWorkshopLaw", name := "match", desc := "(LJobWorkshop;I[J)I" } : Jvm.MethodName)) ∈ TG := TG_5 (i := 125) rfl rfl
theorem tw_5_126 : (Jvm.Cond.codeWith ({ cls := "JobWorkshopLaw", name := "match", desc := "(LJobWorkshop;I[J)I" } : Jvm.MethodName) method_32_code (4 : Nat) (Option.some Jvm.ClassFile.FieldType.int) [((0 : Nat), (9 : Nat), (12 : Nat), (15 : Nat))]) ∈ TG := TG_5 (i := 126) rfl rfl
theorem tw_5_127 : (Jvm.Cond.methodLink "JobWorkshopLaw" (109 : Nat) ({ cls := "JobWorkshop", name := "match", desc := "(I)I" } : Jvm.MethodName)) ∈ TG := TG_5 (i := 127) rfl rfl
theorem tw_5_128 : (Jvm.Cond.instanceMethod ({ cls := "JobWorkshop", name := "match", desc := "(I)I" } : Jvm.MethodName)) ∈ TG := TG_5 (i := 128) rfl rfl
theorem tw_5_129 : (Jvm.Cond.selects "JobWorkshop" ({ cls := "JobWorkshop", name := "match", desc := "(I)I" } : Jvm.MethodName) ({ cls := "JobWorkshop", name := "match", desc := "(I)I" } : Jvm.MethodName)) ∈ TG := TG_5 (i := 129) rfl rfl
theorem tw_5_130 : (Jvm.Cond.code ({ cls := "JobWorkshop", name := "match", desc := "(I)I" } : Jvm.MethodName) prog_1_method_39_code (2 : Nat) (Option.some Jvm.ClassFile.FieldType.int)) ∈ TG := TG_5 (i := 130) rfl rfl
theorem tw_5_131 : (Jvm.Cond.methodLink "JobWorkshop" (336 : Nat) ({ cls := "JobWorkshop$Crew", name := "assign", desc := "(I)V" } : Jvm.MethodName)) ∈ TG := TG_5 (i := 131) rfl rfl
theorem tw_5_132 : (Jvm.Cond.instanceMethod ({ cls := "JobWorkshop$Crew", name := "assign", desc := "(I)V" } : Jvm.MethodName)) ∈ TG := TG_5 (i := 132) rfl rfl
theorem tw_5_133 : (Jvm.Cond.selects "JobWorkshop$Crew" ({ cls := "JobWorkshop$Crew", name := "assign", desc := "(I)V" } : Jvm.MethodName) ({ cls := "JobWorkshop$Crew", name := "assign", desc := "(I)V" } : Jvm.MethodName)) ∈ TG := TG_5 (i := 133) rfl rfl
theorem tw_5_134 : (Jvm.Cond.code ({ cls := "JobWorkshop$Crew", name := "assign", desc := "(I)V" } : Jvm.MethodName) prog_3_method_2_code (2 : Nat) (Option.none : Option Jvm.ClassFile.FieldType)) ∈ TG := TG_5 (i := 134) rfl rfl
theorem tw_5_135 : (Jvm.Cond.methodLink "JobWorkshop$Crew" (26 : Nat) ({ cls := "JobWorkshop$Crew", name := "fillable", desc := "(I)I" } : Jvm.MethodName)) ∈ TG := TG_5 (i := 135) rfl rfl
theorem tw_5_137 : (Jvm.Cond.instanceMethod ({ cls := "JobWorkshop$Crew", name := "fillable", desc := "(I)I" } : Jvm.MethodName)) ∈ TG := TG_5 (i := 137) rfl rfl
theorem tw_5_138 : (Jvm.Cond.code ({ cls := "JobWorkshop$Crew", name := "fillable", desc := "(I)I" } : Jvm.MethodName) prog_3_method_3_code (4 : Nat) (Option.some Jvm.ClassFile.FieldType.int)) ∈ TG := TG_5 (i := 138) rfl rfl
theorem tw_5_139 : (Jvm.Cond.methodLink "JobWorkshop$Crew" (30 : Nat) ({ cls := "JobWorkshop$Crew", name := "explore", desc := "(IIII)V" } : Jvm.MethodName)) ∈ TG := TG_5 (i := 139) rfl rfl
theorem tw_5_141 : (Jvm.Cond.instanceMethod ({ cls := "JobWorkshop$Crew", name := "explore", desc := "(IIII)V" } : Jvm.MethodName)) ∈ TG := TG_5 (i := 141) rfl rfl
theorem tw_5_142 : (Jvm.Cond.code ({ cls := "JobWorkshop$Crew", name := "explore", desc := "(IIII)V" } : Jvm.MethodName) prog_3_method_4_code (6 : Nat) (Option.none : Option Jvm.ClassFile.FieldType)) ∈ TG := TG_5 (i := 142) rfl rfl
theorem tw_5_143 : (Jvm.Cond.methodLink "JobWorkshop$Crew" (39 : Nat) ({ cls := "java/lang/Integer", name := "bitCount", desc := "(I)I" } : Jvm.MethodName)) ∈ TG := TG_5 (i := 143) rfl rfl
theorem tw_5_144 : (Jvm.Cond.methodLink "JobWorkshop$Crew" (44 : Nat) ({ cls := "java/lang/System", name := "arraycopy", desc := "(Ljava/lang/Object;ILjava/lang/Object;II)V" } : Jvm.MethodName)) ∈ TG := TG_5 (i := 144) rfl rfl
theorem tw_5_145 : (Jvm.Cond.methodLink "JobWorkshopLaw" (268 : Nat) ({ cls := "JobWorkshopLaw", name := "workerOf", desc := "(LJobWorkshop;II[J)I" } : Jvm.MethodName)) ∈ TG := TG_5 (i := 145) rfl rfl
theorem tw_5_146 : (Jvm.Cond.static ({ cls := "JobWorkshopLaw", name := "workerOf", desc := "(LJobWorkshop;II[J)I" } : Jvm.MethodName)) ∈ TG := TG_5 (i := 146) rfl rfl
theorem tw_5_147 : (Jvm.Cond.codeWith ({ cls := "JobWorkshopLaw", name := "workerOf", desc := "(LJobWorkshop;II[J)I" } : Jvm.MethodName) method_33_code (5 : Nat) (Option.some Jvm.ClassFile.FieldType.int) [((0 : Nat), (10 : Nat), (13 : Nat), (13 : Nat)), ((0 : Nat), (10 : Nat), (17 : Nat), (15 : Nat))]) ∈ TG := TG_5 (i := 147) rfl rfl
theorem tw_5_148 : (Jvm.Cond.methodLink "JobWorkshopLaw" (112 : Nat) ({ cls := "JobWorkshop", name := "workerOf", desc := "(II)I" } : Jvm.MethodName)) ∈ TG := TG_5 (i := 148) rfl rfl
theorem tw_5_149 : (Jvm.Cond.instanceMethod ({ cls := "JobWorkshop", name := "workerOf", desc := "(II)I" } : Jvm.MethodName)) ∈ TG := TG_5 (i := 149) rfl rfl
theorem tw_5_150 : (Jvm.Cond.selects "JobWorkshop" ({ cls := "JobWorkshop", name := "workerOf", desc := "(II)I" } : Jvm.MethodName) ({ cls := "JobWorkshop", name := "workerOf", desc := "(II)I" } : Jvm.MethodName)) ∈ TG := TG_5 (i := 150) rfl rfl
theorem tw_5_151 : (Jvm.Cond.code ({ cls := "JobWorkshop", name := "workerOf", desc := "(II)I" } : Jvm.MethodName) prog_1_method_40_code (3 : Nat) (Option.some Jvm.ClassFile.FieldType.int)) ∈ TG := TG_5 (i := 151) rfl rfl
theorem tw_5_152 : (Jvm.Cond.methodLink "JobWorkshopLaw" (271 : Nat) ({ cls := "JobWorkshopLaw", name := "promise", desc := "(LJobWorkshop;III[J)I" } : Jvm.MethodName)) ∈ TG := TG_5 (i := 152) rfl rfl
theorem tw_5_153 : (Jvm.Cond.static ({ cls := "JobWorkshopLaw", name := "promise", desc := "(LJobWorkshop;III[J)I" } : Jvm.MethodName)) ∈ TG := TG_5 (i := 153) rfl rfl
theorem tw_5_154 : (Jvm.Cond.codeWith ({ cls := "JobWorkshopLaw", name := "promise", desc := "(LJobWorkshop;III[J)I" } : Jvm.MethodName) method_34_code (6 : Nat) (Option.some Jvm.ClassFile.FieldType.int) [((0 : Nat), (12 : Nat), (15 : Nat), (13 : Nat)), ((0 : Nat), (12 : Nat), (19 : Nat), (15 : Nat))]) ∈ TG := TG_5 (i := 154) rfl rfl
theorem tw_5_155 : (Jvm.Cond.methodLink "JobWorkshopLaw" (115 : Nat) ({ cls := "JobWorkshop", name := "promise", desc := "(III)I" } : Jvm.MethodName)) ∈ TG := TG_5 (i := 155) rfl rfl
theorem tw_5_156 : (Jvm.Cond.instanceMethod ({ cls := "JobWorkshop", name := "promise", desc := "(III)I" } : Jvm.MethodName)) ∈ TG := TG_5 (i := 156) rfl rfl
theorem tw_5_157 : (Jvm.Cond.selects "JobWorkshop" ({ cls := "JobWorkshop", name := "promise", desc := "(III)I" } : Jvm.MethodName) ({ cls := "JobWorkshop", name := "promise", desc := "(III)I" } : Jvm.MethodName)) ∈ TG := TG_5 (i := 157) rfl rfl
theorem tw_5_158 : (Jvm.Cond.code ({ cls := "JobWorkshop", name := "promise", desc := "(III)I" } : Jvm.MethodName) prog_1_method_41_code (4 : Nat) (Option.some Jvm.ClassFile.FieldType.int)) ∈ TG := TG_5 (i := 158) rfl rfl
theorem tw_5_159 : (Jvm.Cond.methodLink "JobWorkshop" (345 : Nat) ({ cls := "JobWorkshop$Odds", name := "hourOf", desc := "(III)I" } : Jvm.MethodName)) ∈ TG := TG_5 (i := 159) rfl rfl
theorem tw_5_160 : (Jvm.Cond.instanceMethod ({ cls := "JobWorkshop$Odds", name := "hourOf", desc := "(III)I" } : Jvm.MethodName)) ∈ TG := TG_5 (i := 160) rfl rfl
theorem tw_5_161 : (Jvm.Cond.selects "JobWorkshop$Odds" ({ cls := "JobWorkshop$Odds", name := "hourOf", desc := "(III)I" } : Jvm.MethodName) ({ cls := "JobWorkshop$Odds", name := "hourOf", desc := "(III)I" } : Jvm.MethodName)) ∈ TG := TG_5 (i := 161) rfl rfl
theorem tw_5_162 : (Jvm.Cond.code ({ cls := "JobWorkshop$Odds", name := "hourOf", desc := "(III)I" } : Jvm.MethodName) prog_6_method_2_code (10 : Nat) (Option.some Jvm.ClassFile.FieldType.int)) ∈ TG := TG_5 (i := 162) rfl rfl
theorem tw_5_163 : (Jvm.Cond.methodLink "JobWorkshop$Odds" (19 : Nat) ({ cls := "JobWorkshop$Shop", name := "hoursFrom", desc := "(II)I" } : Jvm.MethodName)) ∈ TG := TG_5 (i := 163) rfl rfl
theorem tw_5_164 : (Jvm.Cond.methodLink "JobWorkshop$Odds" (25 : Nat) ({ cls := "java/lang/Math", name := "min", desc := "(II)I" } : Jvm.MethodName)) ∈ TG := TG_5 (i := 164) rfl rfl
theorem tw_5_165 : (Jvm.Cond.methodLink "JobWorkshop$Odds" (30 : Nat) ({ cls := "JobWorkshop$Odds", name := "spread", desc := "(III)J" } : Jvm.MethodName)) ∈ TG := TG_5 (i := 165) rfl rfl
theorem tw_5_167 : (Jvm.Cond.instanceMethod ({ cls := "JobWorkshop$Odds", name := "spread", desc := "(III)J" } : Jvm.MethodName)) ∈ TG := TG_5 (i := 167) rfl rfl
theorem tw_5_168 : (Jvm.Cond.code ({ cls := "JobWorkshop$Odds", name := "spread", desc := "(III)J" } : Jvm.MethodName) prog_6_method_3_code (11 : Nat) (Option.some Jvm.ClassFile.FieldType.long)) ∈ TG := TG_5 (i := 168) rfl rfl
theorem tw_5_169 : (Jvm.Cond.methodLink "JobWorkshop$Odds" (43 : Nat) ({ cls := "java/util/Arrays", name := "fill", desc := "([JJ)V" } : Jvm.MethodName)) ∈ TG := TG_5 (i := 169) rfl rfl
theorem tw_5_170 : (Jvm.Cond.static ({ cls := "java/util/Arrays", name := "fill", desc := "([JJ)V" } : Jvm.MethodName)) ∈ TG := TG_5 (i := 170) rfl rfl
theorem tw_5_171 : (Jvm.Cond.code ({ cls := "java/util/Arrays", name := "fill", desc := "([JJ)V" } : Jvm.MethodName) prog_24_method_101_code (5 : Nat) (Option.none : Option Jvm.ClassFile.FieldType)) ∈ TG := TG_5 (i := 171) rfl rfl
theorem tw_5_172 : (Jvm.Cond.constantLong "JobWorkshop$Odds" (34 : Nat) (1000 : Int64)) ∈ TG := TG_5 (i := 172) rfl rfl
theorem tw_5_173 : (Jvm.Cond.methodLink "JobWorkshop$Odds" (40 : Nat) ({ cls := "java/lang/Math", name := "max", desc := "(II)I" } : Jvm.MethodName)) ∈ TG := TG_5 (i := 173) rfl rfl
theorem tw_5_174 : (Jvm.Cond.methodLink "JobWorkshopLaw" (274 : Nat) ({ cls := "JobWorkshopLaw", name := "worked", desc := "(LJobWorkshop;II[J)I" } : Jvm.MethodName)) ∈ TG := TG_5 (i := 174) rfl rfl
theorem tw_5_175 : (Jvm.Cond.static ({ cls := "JobWorkshopLaw", name := "worked", desc := "(LJobWorkshop;II[J)I" } : Jvm.MethodName)) ∈ TG := TG_5 (i := 175) rfl rfl
theorem tw_5_176 : (Jvm.Cond.codeWith ({ cls := "JobWorkshopLaw", name := "worked", desc := "(LJobWorkshop;II[J)I" } : Jvm.MethodName) method_35_code (5 : Nat) (Option.some Jvm.ClassFile.FieldType.int) [((0 : Nat), (10 : Nat), (13 : Nat), (15 : Nat)), ((0 : Nat), (10 : Nat), (17 : Nat), (17 : Nat))]) ∈ TG := TG_5 (i := 176) rfl rfl
theorem tw_5_177 : (Jvm.Cond.methodLink "JobWorkshopLaw" (118 : Nat) ({ cls := "JobWorkshop", name := "worked", desc := "(II)I" } : Jvm.MethodName)) ∈ TG := TG_5 (i := 177) rfl rfl
theorem tw_5_178 : (Jvm.Cond.instanceMethod ({ cls := "JobWorkshop", name := "worked", desc := "(II)I" } : Jvm.MethodName)) ∈ TG := TG_5 (i := 178) rfl rfl
theorem tw_5_179 : (Jvm.Cond.selects "JobWorkshop" ({ cls := "JobWorkshop", name := "worked", desc := "(II)I" } : Jvm.MethodName) ({ cls := "JobWorkshop", name := "worked", desc := "(II)I" } : Jvm.MethodName)) ∈ TG := TG_5 (i := 179) rfl rfl
theorem tw_5_180 : (Jvm.Cond.code ({ cls := "JobWorkshop", name := "worked", desc := "(II)I" } : Jvm.MethodName) prog_1_method_42_code (6 : Nat) (Option.some Jvm.ClassFile.FieldType.int)) ∈ TG := TG_5 (i := 180) rfl rfl
theorem tw_5_181 : (Jvm.Cond.methodLink "JobWorkshop" (348 : Nat) ({ cls := "JobWorkshop$Timetable", name := "hoursDone", desc := "(II)I" } : Jvm.MethodName)) ∈ TG := TG_5 (i := 181) rfl rfl
theorem tw_5_182 : (Jvm.Cond.instanceMethod ({ cls := "JobWorkshop$Timetable", name := "hoursDone", desc := "(II)I" } : Jvm.MethodName)) ∈ TG := TG_5 (i := 182) rfl rfl
theorem tw_5_183 : (Jvm.Cond.selects "JobWorkshop$Timetable" ({ cls := "JobWorkshop$Timetable", name := "hoursDone", desc := "(II)I" } : Jvm.MethodName) ({ cls := "JobWorkshop$Timetable", name := "hoursDone", desc := "(II)I" } : Jvm.MethodName)) ∈ TG := TG_5 (i := 183) rfl rfl
theorem tw_5_184 : (Jvm.Cond.code ({ cls := "JobWorkshop$Timetable", name := "hoursDone", desc := "(II)I" } : Jvm.MethodName) prog_10_method_24_code (6 : Nat) (Option.some Jvm.ClassFile.FieldType.int)) ∈ TG := TG_5 (i := 184) rfl rfl
theorem tw_5_185 : (Jvm.Cond.methodLink "JobWorkshop$Timetable" (157 : Nat) ({ cls := "java/lang/Math", name := "min", desc := "(II)I" } : Jvm.MethodName)) ∈ TG := TG_5 (i := 185) rfl rfl
theorem tw_5_186 : (Jvm.Cond.methodLink "JobWorkshopLaw" (277 : Nat) ({ cls := "JobWorkshopLaw", name := "meanEnd", desc := "(LJobWorkshop;[D)I" } : Jvm.MethodName)) ∈ TG := TG_5 (i := 186) rfl rfl
theorem tw_5_187 : (Jvm.Cond.static ({ cls := "JobWorkshopLaw", name := "meanEnd", desc := "(LJobWorkshop;[D)I" } : Jvm.MethodName)) ∈ TG := TG_5 (i := 187) rfl rfl
theorem tw_5_188 : (Jvm.Cond.codeWith ({ cls := "JobWorkshopLaw", name := "meanEnd", desc := "(LJobWorkshop;[D)I" } : Jvm.MethodName) method_36_code (3 : Nat) (Option.some Jvm.ClassFile.FieldType.int) [((0 : Nat), (7 : Nat), (10 : Nat), (17 : Nat))]) ∈ TG := TG_5 (i := 188) rfl rfl
theorem tw_5_189 : (Jvm.Cond.methodLink "JobWorkshopLaw" (121 : Nat) ({ cls := "JobWorkshop", name := "meanEnd", desc := "()D" } : Jvm.MethodName)) ∈ TG := TG_5 (i := 189) rfl rfl
theorem tw_5_190 : (Jvm.Cond.instanceMethod ({ cls := "JobWorkshop", name := "meanEnd", desc := "()D" } : Jvm.MethodName)) ∈ TG := TG_5 (i := 190) rfl rfl
theorem tw_5_191 : (Jvm.Cond.selects "JobWorkshop" ({ cls := "JobWorkshop", name := "meanEnd", desc := "()D" } : Jvm.MethodName) ({ cls := "JobWorkshop", name := "meanEnd", desc := "()D" } : Jvm.MethodName)) ∈ TG := TG_5 (i := 191) rfl rfl
theorem tw_5_192 : (Jvm.Cond.code ({ cls := "JobWorkshop", name := "meanEnd", desc := "()D" } : Jvm.MethodName) prog_1_method_43_code (1 : Nat) (Option.some Jvm.ClassFile.FieldType.double)) ∈ TG := TG_5 (i := 192) rfl rfl
theorem tw_5_193 : (Jvm.Cond.methodLink "JobWorkshopLaw" (281 : Nat) ({ cls := "JobWorkshopLaw", name := "use", desc := "(LJobWorkshop;I[D)I" } : Jvm.MethodName)) ∈ TG := TG_5 (i := 193) rfl rfl
theorem tw_5_194 : (Jvm.Cond.static ({ cls := "JobWorkshopLaw", name := "use", desc := "(LJobWorkshop;I[D)I" } : Jvm.MethodName)) ∈ TG := TG_5 (i := 194) rfl rfl
theorem tw_5_195 : (Jvm.Cond.codeWith ({ cls := "JobWorkshopLaw", name := "use", desc := "(LJobWorkshop;I[D)I" } : Jvm.MethodName) method_37_code (4 : Nat) (Option.some Jvm.ClassFile.FieldType.int) [((0 : Nat), (9 : Nat), (12 : Nat), (13 : Nat)), ((0 : Nat), (9 : Nat), (15 : Nat), (17 : Nat))]) ∈ TG := TG_5 (i := 195) rfl rfl
theorem tw_5_196 : (Jvm.Cond.methodLink "JobWorkshopLaw" (125 : Nat) ({ cls := "JobWorkshop", name := "use", desc := "(I)F" } : Jvm.MethodName)) ∈ TG := TG_5 (i := 196) rfl rfl
theorem tw_5_197 : (Jvm.Cond.instanceMethod ({ cls := "JobWorkshop", name := "use", desc := "(I)F" } : Jvm.MethodName)) ∈ TG := TG_5 (i := 197) rfl rfl
theorem tw_5_198 : (Jvm.Cond.selects "JobWorkshop" ({ cls := "JobWorkshop", name := "use", desc := "(I)F" } : Jvm.MethodName) ({ cls := "JobWorkshop", name := "use", desc := "(I)F" } : Jvm.MethodName)) ∈ TG := TG_5 (i := 198) rfl rfl
theorem tw_5_199 : (Jvm.Cond.code ({ cls := "JobWorkshop", name := "use", desc := "(I)F" } : Jvm.MethodName) prog_1_method_44_code (3 : Nat) (Option.some Jvm.ClassFile.FieldType.float)) ∈ TG := TG_5 (i := 199) rfl rfl
theorem tw_5_200 : (Jvm.Cond.methodLink "JobWorkshop" (351 : Nat) ({ cls := "JobWorkshop$Shop", name := "hoursOn", desc := "(I)I" } : Jvm.MethodName)) ∈ TG := TG_5 (i := 200) rfl rfl
theorem tw_5_201 : (Jvm.Cond.classLink "JobWorkshopLaw" (130 : Nat) "JobWorkshopModel") ∈ TG := TG_5 (i := 201) rfl rfl
theorem tw_5_202 : (Jvm.Cond.instantiable "JobWorkshopModel" (20 : Nat)) ∈ TG := TG_5 (i := 202) rfl rfl
theorem tw_5_203 : (Jvm.Cond.methodLink "JobWorkshopLaw" (132 : Nat) ({ cls := "JobWorkshopModel", name := "<init>", desc := "()V" } : Jvm.MethodName)) ∈ TG := TG_5 (i := 203) rfl rfl
theorem tw_5_204 : (Jvm.Cond.instanceMethod ({ cls := "JobWorkshopModel", name := "<init>", desc := "()V" } : Jvm.MethodName)) ∈ TG := TG_5 (i := 204) rfl rfl
theorem tw_5_205 : (Jvm.Cond.code ({ cls := "JobWorkshopModel", name := "<init>", desc := "()V" } : Jvm.MethodName) prog_13_method_1_code (1 : Nat) (Option.none : Option Jvm.ClassFile.FieldType)) ∈ TG := TG_5 (i := 205) rfl rfl
theorem tw_5_206 : (Jvm.Cond.methodLink "JobWorkshopModel" (3 : Nat) ({ cls := "java/lang/Object", name := "<init>", desc := "()V" } : Jvm.MethodName)) ∈ TG := TG_5 (i := 206) rfl rfl
theorem tw_5_207 : (Jvm.Cond.methodLink "JobWorkshopModel" (61 : Nat) ({ cls := "JobWorkshopModel", name := "laysJob", desc := "(III)V" } : Jvm.MethodName)) ∈ TG := TG_5 (i := 207) rfl rfl
theorem tw_5_209 : (Jvm.Cond.instanceMethod ({ cls := "JobWorkshopModel", name := "laysJob", desc := "(III)V" } : Jvm.MethodName)) ∈ TG := TG_5 (i := 209) rfl rfl
theorem tw_5_210 : (Jvm.Cond.code ({ cls := "JobWorkshopModel", name := "laysJob", desc := "(III)V" } : Jvm.MethodName) prog_13_method_6_code (5 : Nat) (Option.none : Option Jvm.ClassFile.FieldType)) ∈ TG := TG_5 (i := 210) rfl rfl
theorem tw_5_211 : (Jvm.Cond.methodLink "JobWorkshopModel" (65 : Nat) ({ cls := "JobWorkshopModel", name := "laysStep", desc := "(III)I" } : Jvm.MethodName)) ∈ TG := TG_5 (i := 211) rfl rfl
theorem tw_5_213 : (Jvm.Cond.instanceMethod ({ cls := "JobWorkshopModel", name := "laysStep", desc := "(III)I" } : Jvm.MethodName)) ∈ TG := TG_5 (i := 213) rfl rfl
theorem tw_5_214 : (Jvm.Cond.code ({ cls := "JobWorkshopModel", name := "laysStep", desc := "(III)I" } : Jvm.MethodName) prog_13_method_7_code (6 : Nat) (Option.some Jvm.ClassFile.FieldType.int)) ∈ TG := TG_5 (i := 214) rfl rfl
theorem tw_5_215 : (Jvm.Cond.methodLink "JobWorkshopModel" (73 : Nat) ({ cls := "JobWorkshopModel", name := "of", desc := "(II)I" } : Jvm.MethodName)) ∈ TG := TG_5 (i := 215) rfl rfl
theorem tw_5_217 : (Jvm.Cond.instanceMethod ({ cls := "JobWorkshopModel", name := "of", desc := "(II)I" } : Jvm.MethodName)) ∈ TG := TG_5 (i := 217) rfl rfl
theorem tw_5_218 : (Jvm.Cond.code ({ cls := "JobWorkshopModel", name := "of", desc := "(II)I" } : Jvm.MethodName) prog_13_method_8_code (3 : Nat) (Option.some Jvm.ClassFile.FieldType.int)) ∈ TG := TG_5 (i := 218) rfl rfl
theorem tw_5_219 : (Jvm.Cond.fieldLink "JobWorkshopModel" (9 : Nat) "JobWorkshopModel" "now" "[I") ∈ TG := TG_5 (i := 219) rfl rfl
theorem tw_5_220 : (Jvm.Cond.fieldLink "JobWorkshopModel" (13 : Nat) "JobWorkshopModel" "before" "[I") ∈ TG := TG_5 (i := 220) rfl rfl
theorem tw_5_221 : (Jvm.Cond.fieldLink "JobWorkshopModel" (148 : Nat) "JobWorkshopModel" "changes" "I") ∈ TG := TG_5 (i := 221) rfl rfl
theorem tw_5_222 : (Jvm.Cond.fieldLink "JobWorkshopModel" (69 : Nat) "JobWorkshopModel" "thrown" "I") ∈ TG := TG_5 (i := 222) rfl rfl
theorem tw_5_223 : (Jvm.Cond.fieldLink "JobWorkshopModel" (16 : Nat) "JobWorkshopModel" "begin" "[I") ∈ TG := TG_5 (i := 223) rfl rfl
theorem tw_5_224 : (Jvm.Cond.fieldLink "JobWorkshopModel" (19 : Nat) "JobWorkshopModel" "done" "[I") ∈ TG := TG_5 (i := 224) rfl rfl
theorem tw_5_225 : (Jvm.Cond.fieldLink "JobWorkshopModel" (22 : Nat) "JobWorkshopModel" "end" "[I") ∈ TG := TG_5 (i := 225) rfl rfl
theorem tw_5_226 : (Jvm.Cond.fieldLink "JobWorkshopModel" (25 : Nat) "JobWorkshopModel" "latest" "[I") ∈ TG := TG_5 (i := 226) rfl rfl
theorem tw_5_227 : (Jvm.Cond.fieldLink "JobWorkshopModel" (28 : Nat) "JobWorkshopModel" "free" "[I") ∈ TG := TG_5 (i := 227) rfl rfl
theorem tw_5_228 : (Jvm.Cond.fieldLink "JobWorkshopModel" (31 : Nat) "JobWorkshopModel" "worn" "[I") ∈ TG := TG_5 (i := 228) rfl rfl
theorem tw_5_229 : (Jvm.Cond.fieldLink "JobWorkshopModel" (34 : Nat) "JobWorkshopModel" "place" "[I") ∈ TG := TG_5 (i := 229) rfl rfl
theorem tw_5_230 : (Jvm.Cond.fieldLink "JobWorkshopModel" (37 : Nat) "JobWorkshopModel" "order" "[I") ∈ TG := TG_5 (i := 230) rfl rfl
theorem tw_5_231 : (Jvm.Cond.fieldLink "JobWorkshopModel" (40 : Nat) "JobWorkshopModel" "tried" "[I") ∈ TG := TG_5 (i := 231) rfl rfl
theorem tw_5_232 : (Jvm.Cond.fieldLink "JobWorkshopModel" (43 : Nat) "JobWorkshopModel" "was" "[I") ∈ TG := TG_5 (i := 232) rfl rfl
theorem tw_5_233 : (Jvm.Cond.fieldLink "JobWorkshopModel" (46 : Nat) "JobWorkshopModel" "best" "[I") ∈ TG := TG_5 (i := 233) rfl rfl
theorem tw_5_234 : (Jvm.Cond.fieldLink "JobWorkshopModel" (49 : Nat) "JobWorkshopModel" "row" "[I") ∈ TG := TG_5 (i := 234) rfl rfl
theorem tw_5_235 : (Jvm.Cond.fieldLink "JobWorkshopModel" (52 : Nat) "JobWorkshopModel" "found" "[I") ∈ TG := TG_5 (i := 235) rfl rfl
theorem tw_5_236 : (Jvm.Cond.fieldLink "JobWorkshopModel" (55 : Nat) "JobWorkshopModel" "matched" "[I") ∈ TG := TG_5 (i := 236) rfl rfl
theorem tw_5_237 : (Jvm.Cond.fieldLink "JobWorkshopModel" (58 : Nat) "JobWorkshopModel" "way" "[I") ∈ TG := TG_5 (i := 237) rfl rfl
theorem tw_5_238 : (Jvm.Cond.fieldLink "JobWorkshopModel" (211 : Nat) "JobWorkshopModel" "wayMany" "I") ∈ TG := TG_5 (i := 238) rfl rfl
theorem tw_5_239 : (Jvm.Cond.laysFinal "JobWorkshopModel" "JobWorkshopModel" "now" "[I") ∈ TG := TG_5 (i := 239) rfl rfl
theorem tw_6_1 : (Jvm.Cond.laysFinal "JobWorkshopModel" "JobWorkshopModel" "before" "[I") ∈ TG := TG_6 (i := 1) rfl rfl
theorem tw_6_3 : (Jvm.Cond.lays "JobWorkshopModel" "JobWorkshopModel" "changes" "I") ∈ TG := TG_6 (i := 3) rfl rfl
theorem tw_6_5 : (Jvm.Cond.lays "JobWorkshopModel" "JobWorkshopModel" "thrown" "I") ∈ TG := TG_6 (i := 5) rfl rfl
theorem tw_6_7 : (Jvm.Cond.laysFinal "JobWorkshopModel" "JobWorkshopModel" "begin" "[I") ∈ TG := TG_6 (i := 7) rfl rfl
theorem tw_6_9 : (Jvm.Cond.laysFinal "JobWorkshopModel" "JobWorkshopModel" "done" "[I") ∈ TG := TG_6 (i := 9) rfl rfl
theorem tw_6_11 : (Jvm.Cond.laysFinal "JobWorkshopModel" "JobWorkshopModel" "end" "[I") ∈ TG := TG_6 (i := 11) rfl rfl
theorem tw_6_13 : (Jvm.Cond.laysFinal "JobWorkshopModel" "JobWorkshopModel" "latest" "[I") ∈ TG := TG_6 (i := 13) rfl rfl
theorem tw_6_15 : (Jvm.Cond.laysFinal "JobWorkshopModel" "JobWorkshopModel" "free" "[I") ∈ TG := TG_6 (i := 15) rfl rfl
theorem tw_6_17 : (Jvm.Cond.laysFinal "JobWorkshopModel" "JobWorkshopModel" "worn" "[I") ∈ TG := TG_6 (i := 17) rfl rfl
theorem tw_6_19 : (Jvm.Cond.laysFinal "JobWorkshopModel" "JobWorkshopModel" "place" "[I") ∈ TG := TG_6 (i := 19) rfl rfl
theorem tw_6_21 : (Jvm.Cond.laysFinal "JobWorkshopModel" "JobWorkshopModel" "order" "[I") ∈ TG := TG_6 (i := 21) rfl rfl
theorem tw_6_23 : (Jvm.Cond.laysFinal "JobWorkshopModel" "JobWorkshopModel" "tried" "[I") ∈ TG := TG_6 (i := 23) rfl rfl
theorem tw_6_25 : (Jvm.Cond.laysFinal "JobWorkshopModel" "JobWorkshopModel" "was" "[I") ∈ TG := TG_6 (i := 25) rfl rfl
theorem tw_6_27 : (Jvm.Cond.laysFinal "JobWorkshopModel" "JobWorkshopModel" "best" "[I") ∈ TG := TG_6 (i := 27) rfl rfl
theorem tw_6_29 : (Jvm.Cond.laysFinal "JobWorkshopModel" "JobWorkshopModel" "row" "[I") ∈ TG := TG_6 (i := 29) rfl rfl
theorem tw_6_31 : (Jvm.Cond.laysFinal "JobWorkshopModel" "JobWorkshopModel" "found" "[I") ∈ TG := TG_6 (i := 31) rfl rfl
theorem tw_6_33 : (Jvm.Cond.laysFinal "JobWorkshopModel" "JobWorkshopModel" "matched" "[I") ∈ TG := TG_6 (i := 33) rfl rfl
theorem tw_6_35 : (Jvm.Cond.laysFinal "JobWorkshopModel" "JobWorkshopModel" "way" "[I") ∈ TG := TG_6 (i := 35) rfl rfl
theorem tw_6_37 : (Jvm.Cond.lays "JobWorkshopModel" "JobWorkshopModel" "wayMany" "I") ∈ TG := TG_6 (i := 37) rfl rfl
theorem tw_6_39 : (Jvm.Cond.superclass "JobWorkshopModel" "java/lang/Object") ∈ TG := TG_6 (i := 39) rfl rfl
theorem tw_6_40 : (Jvm.Cond.methodLink "JobWorkshopLaw" (139 : Nat) ({ cls := "JobWorkshopModel", name := "thrown", desc := "()I" } : Jvm.MethodName)) ∈ TG := TG_6 (i := 40) rfl rfl
theorem tw_6_41 : (Jvm.Cond.instanceMethod ({ cls := "JobWorkshopModel", name := "thrown", desc := "()I" } : Jvm.MethodName)) ∈ TG := TG_6 (i := 41) rfl rfl
theorem tw_6_42 : (Jvm.Cond.selects "JobWorkshopModel" ({ cls := "JobWorkshopModel", name := "thrown", desc := "()I" } : Jvm.MethodName) ({ cls := "JobWorkshopModel", name := "thrown", desc := "()I" } : Jvm.MethodName)) ∈ TG := TG_6 (i := 42) rfl rfl
theorem tw_6_43 : (Jvm.Cond.code ({ cls := "JobWorkshopModel", name := "thrown", desc := "()I" } : Jvm.MethodName) prog_13_method_2_code (1 : Nat) (Option.some Jvm.ClassFile.FieldType.int)) ∈ TG := TG_6 (i := 43) rfl rfl
theorem tw_6_44 : (Jvm.Cond.methodLink "JobWorkshopLaw" (138 : Nat) ({ cls := "JobWorkshopModel", name := "close", desc := "(III)I" } : Jvm.MethodName)) ∈ TG := TG_6 (i := 44) rfl rfl
theorem tw_6_45 : (Jvm.Cond.instanceMethod ({ cls := "JobWorkshopModel", name := "close", desc := "(III)I" } : Jvm.MethodName)) ∈ TG := TG_6 (i := 45) rfl rfl
theorem tw_6_46 : (Jvm.Cond.selects "JobWorkshopModel" ({ cls := "JobWorkshopModel", name := "close", desc := "(III)I" } : Jvm.MethodName) ({ cls := "JobWorkshopModel", name := "close", desc := "(III)I" } : Jvm.MethodName)) ∈ TG := TG_6 (i := 46) rfl rfl
theorem tw_6_47 : (Jvm.Cond.code ({ cls := "JobWorkshopModel", name := "close", desc := "(III)I" } : Jvm.MethodName) prog_13_method_34_code (6 : Nat) (Option.some Jvm.ClassFile.FieldType.int)) ∈ TG := TG_6 (i := 47) rfl rfl
theorem tw_6_48 : (Jvm.Cond.methodLink "JobWorkshopModel" (83 : Nat) ({ cls := "JobWorkshopModel", name := "in", desc := "(III)Z" } : Jvm.MethodName)) ∈ TG := TG_6 (i := 48) rfl rfl
theorem tw_6_49 : (Jvm.Cond.static ({ cls := "JobWorkshopModel", name := "in", desc := "(III)Z" } : Jvm.MethodName)) ∈ TG := TG_6 (i := 49) rfl rfl
theorem tw_6_50 : (Jvm.Cond.code ({ cls := "JobWorkshopModel", name := "in", desc := "(III)Z" } : Jvm.MethodName) prog_13_method_4_code (3 : Nat) (Option.some Jvm.ClassFile.FieldType.boolean)) ∈ TG := TG_6 (i := 50) rfl rfl
theorem tw_6_51 : (Jvm.Cond.methodLink "JobWorkshopModel" (151 : Nat) ({ cls := "JobWorkshopModel", name := "fits", desc := "(ZZZ)Z" } : Jvm.MethodName)) ∈ TG := TG_6 (i := 51) rfl rfl
theorem tw_6_53 : (Jvm.Cond.instanceMethod ({ cls := "JobWorkshopModel", name := "fits", desc := "(ZZZ)Z" } : Jvm.MethodName)) ∈ TG := TG_6 (i := 53) rfl rfl
theorem tw_6_54 : (Jvm.Cond.code ({ cls := "JobWorkshopModel", name := "fits", desc := "(ZZZ)Z" } : Jvm.MethodName) prog_13_method_5_code (4 : Nat) (Option.some Jvm.ClassFile.FieldType.boolean)) ∈ TG := TG_6 (i := 54) rfl rfl
theorem tw_6_55 : (Jvm.Cond.methodLink "JobWorkshopModel" (155 : Nat) ({ cls := "JobWorkshopModel", name := "keeps", desc := "()V" } : Jvm.MethodName)) ∈ TG := TG_6 (i := 55) rfl rfl
theorem tw_6_57 : (Jvm.Cond.instanceMethod ({ cls := "JobWorkshopModel", name := "keeps", desc := "()V" } : Jvm.MethodName)) ∈ TG := TG_6 (i := 57) rfl rfl
theorem tw_6_58 : (Jvm.Cond.code ({ cls := "JobWorkshopModel", name := "keeps", desc := "()V" } : Jvm.MethodName) prog_13_method_33_code (1 : Nat) (Option.none : Option Jvm.ClassFile.FieldType)) ∈ TG := TG_6 (i := 58) rfl rfl
theorem tw_6_59 : (Jvm.Cond.methodLink "JobWorkshopModel" (135 : Nat) ({ cls := "java/lang/System", name := "arraycopy", desc := "(Ljava/lang/Object;ILjava/lang/Object;II)V" } : Jvm.MethodName)) ∈ TG := TG_6 (i := 59) rfl rfl
theorem tw_6_60 : (Jvm.Cond.methodLink "JobWorkshopLaw" (144 : Nat) ({ cls := "JobWorkshopModel", name := "setTool", desc := "(III)I" } : Jvm.MethodName)) ∈ TG := TG_6 (i := 60) rfl rfl
theorem tw_6_61 : (Jvm.Cond.instanceMethod ({ cls := "JobWorkshopModel", name := "setTool", desc := "(III)I" } : Jvm.MethodName)) ∈ TG := TG_6 (i := 61) rfl rfl
theorem tw_6_62 : (Jvm.Cond.selects "JobWorkshopModel" ({ cls := "JobWorkshopModel", name := "setTool", desc := "(III)I" } : Jvm.MethodName) ({ cls := "JobWorkshopModel", name := "setTool", desc := "(III)I" } : Jvm.MethodName)) ∈ TG := TG_6 (i := 62) rfl rfl
theorem tw_6_63 : (Jvm.Cond.code ({ cls := "JobWorkshopModel", name := "setTool", desc := "(III)I" } : Jvm.MethodName) prog_13_method_35_code (6 : Nat) (Option.some Jvm.ClassFile.FieldType.int)) ∈ TG := TG_6 (i := 63) rfl rfl
theorem tw_6_64 : (Jvm.Cond.methodLink "JobWorkshopLaw" (147 : Nat) ({ cls := "JobWorkshopModel", name := "setSetup", desc := "(III)I" } : Jvm.MethodName)) ∈ TG := TG_6 (i := 64) rfl rfl
theorem tw_6_65 : (Jvm.Cond.instanceMethod ({ cls := "JobWorkshopModel", name := "setSetup", desc := "(III)I" } : Jvm.MethodName)) ∈ TG := TG_6 (i := 65) rfl rfl
theorem tw_6_66 : (Jvm.Cond.selects "JobWorkshopModel" ({ cls := "JobWorkshopModel", name := "setSetup", desc := "(III)I" } : Jvm.MethodName) ({ cls := "JobWorkshopModel", name := "setSetup", desc := "(III)I" } : Jvm.MethodName)) ∈ TG := TG_6 (i := 66) rfl rfl
theorem tw_6_67 : (Jvm.Cond.code ({ cls := "JobWorkshopModel", name := "setSetup", desc := "(III)I" } : Jvm.MethodName) prog_13_method_36_code (5 : Nat) (Option.some Jvm.ClassFile.FieldType.int)) ∈ TG := TG_6 (i := 67) rfl rfl
theorem tw_6_68 : (Jvm.Cond.methodLink "JobWorkshopModel" (158 : Nat) ({ cls := "JobWorkshopModel", name := "noPlan", desc := "()V" } : Jvm.MethodName)) ∈ TG := TG_6 (i := 68) rfl rfl
theorem tw_6_70 : (Jvm.Cond.instanceMethod ({ cls := "JobWorkshopModel", name := "noPlan", desc := "()V" } : Jvm.MethodName)) ∈ TG := TG_6 (i := 70) rfl rfl
theorem tw_6_71 : (Jvm.Cond.code ({ cls := "JobWorkshopModel", name := "noPlan", desc := "()V" } : Jvm.MethodName) prog_13_method_32_code (2 : Nat) (Option.none : Option Jvm.ClassFile.FieldType)) ∈ TG := TG_6 (i := 71) rfl rfl
theorem tw_6_72 : (Jvm.Cond.methodLink "JobWorkshopLaw" (151 : Nat) ({ cls := "JobWorkshopModel", name := "addJob", desc := "(IIII)I" } : Jvm.MethodName)) ∈ TG := TG_6 (i := 72) rfl rfl
theorem tw_6_73 : (Jvm.Cond.instanceMethod ({ cls := "JobWorkshopModel", name := "addJob", desc := "(IIII)I" } : Jvm.MethodName)) ∈ TG := TG_6 (i := 73) rfl rfl
theorem tw_6_74 : (Jvm.Cond.selects "JobWorkshopModel" ({ cls := "JobWorkshopModel", name := "addJob", desc := "(IIII)I" } : Jvm.MethodName) ({ cls := "JobWorkshopModel", name := "addJob", desc := "(IIII)I" } : Jvm.MethodName)) ∈ TG := TG_6 (i := 74) rfl rfl
theorem tw_6_75 : (Jvm.Cond.code ({ cls := "JobWorkshopModel", name := "addJob", desc := "(IIII)I" } : Jvm.MethodName) prog_13_method_37_code (5 : Nat) (Option.some Jvm.ClassFile.FieldType.int)) ∈ TG := TG_6 (i := 75) rfl rfl
theorem tw_6_76 : (Jvm.Cond.methodLink "JobWorkshopLaw" (154 : Nat) ({ cls := "JobWorkshopModel", name := "addStep", desc := "(III)I" } : Jvm.MethodName)) ∈ TG := TG_6 (i := 76) rfl rfl
theorem tw_6_77 : (Jvm.Cond.instanceMethod ({ cls := "JobWorkshopModel", name := "addStep", desc := "(III)I" } : Jvm.MethodName)) ∈ TG := TG_6 (i := 77) rfl rfl
theorem tw_6_78 : (Jvm.Cond.selects "JobWorkshopModel" ({ cls := "JobWorkshopModel", name := "addStep", desc := "(III)I" } : Jvm.MethodName) ({ cls := "JobWorkshopModel", name := "addStep", desc := "(III)I" } : Jvm.MethodName)) ∈ TG := TG_6 (i := 78) rfl rfl
theorem tw_6_79 : (Jvm.Cond.code ({ cls := "JobWorkshopModel", name := "addStep", desc := "(III)I" } : Jvm.MethodName) prog_13_method_38_code (4 : Nat) (Option.some Jvm.ClassFile.FieldType.int)) ∈ TG := TG_6 (i := 79) rfl rfl
theorem tw_6_80 : (Jvm.Cond.methodLink "JobWorkshopModel" (87 : Nat) ({ cls := "JobWorkshopModel", name := "isJob", desc := "(I)Z" } : Jvm.MethodName)) ∈ TG := TG_6 (i := 80) rfl rfl
theorem tw_6_82 : (Jvm.Cond.instanceMethod ({ cls := "JobWorkshopModel", name := "isJob", desc := "(I)Z" } : Jvm.MethodName)) ∈ TG := TG_6 (i := 82) rfl rfl
theorem tw_6_83 : (Jvm.Cond.code ({ cls := "JobWorkshopModel", name := "isJob", desc := "(I)Z" } : Jvm.MethodName) prog_13_method_14_code (2 : Nat) (Option.some Jvm.ClassFile.FieldType.boolean)) ∈ TG := TG_6 (i := 83) rfl rfl
theorem tw_6_84 : (Jvm.Cond.methodLink "JobWorkshopLaw" (158 : Nat) ({ cls := "JobWorkshopModel", name := "cut", desc := "(I)I" } : Jvm.MethodName)) ∈ TG := TG_6 (i := 84) rfl rfl
theorem tw_6_85 : (Jvm.Cond.instanceMethod ({ cls := "JobWorkshopModel", name := "cut", desc := "(I)I" } : Jvm.MethodName)) ∈ TG := TG_6 (i := 85) rfl rfl
theorem tw_6_86 : (Jvm.Cond.selects "JobWorkshopModel" ({ cls := "JobWorkshopModel", name := "cut", desc := "(I)I" } : Jvm.MethodName) ({ cls := "JobWorkshopModel", name := "cut", desc := "(I)I" } : Jvm.MethodName)) ∈ TG := TG_6 (i := 86) rfl rfl
theorem tw_6_87 : (Jvm.Cond.code ({ cls := "JobWorkshopModel", name := "cut", desc := "(I)I" } : Jvm.MethodName) prog_13_method_39_code (7 : Nat) (Option.some Jvm.ClassFile.FieldType.int)) ∈ TG := TG_6 (i := 87) rfl rfl
theorem tw_6_88 : (Jvm.Cond.methodLink "JobWorkshopModel" (77 : Nat) ({ cls := "JobWorkshopModel", name := "hoursOf", desc := "(II)I" } : Jvm.MethodName)) ∈ TG := TG_6 (i := 88) rfl rfl
theorem tw_6_90 : (Jvm.Cond.instanceMethod ({ cls := "JobWorkshopModel", name := "hoursOf", desc := "(II)I" } : Jvm.MethodName)) ∈ TG := TG_6 (i := 90) rfl rfl
theorem tw_6_91 : (Jvm.Cond.code ({ cls := "JobWorkshopModel", name := "hoursOf", desc := "(II)I" } : Jvm.MethodName) prog_13_method_10_code (3 : Nat) (Option.some Jvm.ClassFile.FieldType.int)) ∈ TG := TG_6 (i := 91) rfl rfl
theorem tw_6_92 : (Jvm.Cond.methodLink "JobWorkshopModel" (95 : Nat) ({ cls := "JobWorkshopModel", name := "machineOf", desc := "(II)I" } : Jvm.MethodName)) ∈ TG := TG_6 (i := 92) rfl rfl
theorem tw_6_94 : (Jvm.Cond.instanceMethod ({ cls := "JobWorkshopModel", name := "machineOf", desc := "(II)I" } : Jvm.MethodName)) ∈ TG := TG_6 (i := 94) rfl rfl
theorem tw_6_95 : (Jvm.Cond.code ({ cls := "JobWorkshopModel", name := "machineOf", desc := "(II)I" } : Jvm.MethodName) prog_13_method_9_code (3 : Nat) (Option.some Jvm.ClassFile.FieldType.int)) ∈ TG := TG_6 (i := 95) rfl rfl
theorem tw_6_96 : (Jvm.Cond.methodLink "JobWorkshopLaw" (161 : Nat) ({ cls := "JobWorkshopModel", name := "plan", desc := "(I)I" } : Jvm.MethodName)) ∈ TG := TG_6 (i := 96) rfl rfl
theorem tw_6_97 : (Jvm.Cond.instanceMethod ({ cls := "JobWorkshopModel", name := "plan", desc := "(I)I" } : Jvm.MethodName)) ∈ TG := TG_6 (i := 97) rfl rfl
theorem tw_6_98 : (Jvm.Cond.selects "JobWorkshopModel" ({ cls := "JobWorkshopModel", name := "plan", desc := "(I)I" } : Jvm.MethodName) ({ cls := "JobWorkshopModel", name := "plan", desc := "(I)I" } : Jvm.MethodName)) ∈ TG := TG_6 (i := 98) rfl rfl
theorem tw_6_99 : (Jvm.Cond.code ({ cls := "JobWorkshopModel", name := "plan", desc := "(I)I" } : Jvm.MethodName) prog_13_method_40_code (2 : Nat) (Option.some Jvm.ClassFile.FieldType.int)) ∈ TG := TG_6 (i := 99) rfl rfl
theorem tw_6_100 : (Jvm.Cond.methodLink "JobWorkshopModel" (109 : Nat) ({ cls := "JobWorkshopModel", name := "startsPlan", desc := "()V" } : Jvm.MethodName)) ∈ TG := TG_6 (i := 100) rfl rfl
theorem tw_6_102 : (Jvm.Cond.instanceMethod ({ cls := "JobWorkshopModel", name := "startsPlan", desc := "()V" } : Jvm.MethodName)) ∈ TG := TG_6 (i := 102) rfl rfl
theorem tw_6_103 : (Jvm.Cond.code ({ cls := "JobWorkshopModel", name := "startsPlan", desc := "()V" } : Jvm.MethodName) prog_13_method_17_code (2 : Nat) (Option.none : Option Jvm.ClassFile.FieldType)) ∈ TG := TG_6 (i := 103) rfl rfl
theorem tw_6_104 : (Jvm.Cond.methodLink "JobWorkshopModel" (161 : Nat) ({ cls := "JobWorkshopModel", name := "clearsOrder", desc := "()V" } : Jvm.MethodName)) ∈ TG := TG_6 (i := 104) rfl rfl
theorem tw_6_106 : (Jvm.Cond.instanceMethod ({ cls := "JobWorkshopModel", name := "clearsOrder", desc := "()V" } : Jvm.MethodName)) ∈ TG := TG_6 (i := 106) rfl rfl
theorem tw_6_107 : (Jvm.Cond.code ({ cls := "JobWorkshopModel", name := "clearsOrder", desc := "()V" } : Jvm.MethodName) prog_13_method_30_code (2 : Nat) (Option.none : Option Jvm.ClassFile.FieldType)) ∈ TG := TG_6 (i := 107) rfl rfl
theorem tw_6_108 : (Jvm.Cond.methodLink "JobWorkshopModel" (164 : Nat) ({ cls := "JobWorkshopModel", name := "goesByRule", desc := "(I)V" } : Jvm.MethodName)) ∈ TG := TG_6 (i := 108) rfl rfl
theorem tw_6_110 : (Jvm.Cond.instanceMethod ({ cls := "JobWorkshopModel", name := "goesByRule", desc := "(I)V" } : Jvm.MethodName)) ∈ TG := TG_6 (i := 110) rfl rfl
theorem tw_6_111 : (Jvm.Cond.code ({ cls := "JobWorkshopModel", name := "goesByRule", desc := "(I)V" } : Jvm.MethodName) prog_13_method_28_code (7 : Nat) (Option.none : Option Jvm.ClassFile.FieldType)) ∈ TG := TG_6 (i := 111) rfl rfl
theorem tw_6_112 : (Jvm.Cond.methodLink "JobWorkshopModel" (112 : Nat) ({ cls := "JobWorkshopModel", name := "beginOf", desc := "(I)I" } : Jvm.MethodName)) ∈ TG := TG_6 (i := 112) rfl rfl
theorem tw_6_114 : (Jvm.Cond.instanceMethod ({ cls := "JobWorkshopModel", name := "beginOf", desc := "(I)I" } : Jvm.MethodName)) ∈ TG := TG_6 (i := 114) rfl rfl
theorem tw_6_115 : (Jvm.Cond.code ({ cls := "JobWorkshopModel", name := "beginOf", desc := "(I)I" } : Jvm.MethodName) prog_13_method_21_code (4 : Nat) (Option.some Jvm.ClassFile.FieldType.int)) ∈ TG := TG_6 (i := 115) rfl rfl
theorem tw_6_116 : (Jvm.Cond.methodLink "JobWorkshopModel" (98 : Nat) ({ cls := "JobWorkshopModel", name := "between", desc := "(III)I" } : Jvm.MethodName)) ∈ TG := TG_6 (i := 116) rfl rfl
theorem tw_6_118 : (Jvm.Cond.instanceMethod ({ cls := "JobWorkshopModel", name := "between", desc := "(III)I" } : Jvm.MethodName)) ∈ TG := TG_6 (i := 118) rfl rfl
theorem tw_6_119 : (Jvm.Cond.code ({ cls := "JobWorkshopModel", name := "between", desc := "(III)I" } : Jvm.MethodName) prog_13_method_20_code (4 : Nat) (Option.some Jvm.ClassFile.FieldType.int)) ∈ TG := TG_6 (i := 119) rfl rfl
theorem tw_6_120 : (Jvm.Cond.methodLink "JobWorkshopModel" (91 : Nat) ({ cls := "JobWorkshopModel", name := "isChanged", desc := "(II)Z" } : Jvm.MethodName)) ∈ TG := TG_6 (i := 120) rfl rfl
theorem tw_6_122 : (Jvm.Cond.instanceMethod ({ cls := "JobWorkshopModel", name := "isChanged", desc := "(II)Z" } : Jvm.MethodName)) ∈ TG := TG_6 (i := 122) rfl rfl
theorem tw_6_123 : (Jvm.Cond.code ({ cls := "JobWorkshopModel", name := "isChanged", desc := "(II)Z" } : Jvm.MethodName) prog_13_method_19_code (4 : Nat) (Option.some Jvm.ClassFile.FieldType.boolean)) ∈ TG := TG_6 (i := 123) rfl rfl
theorem tw_6_124 : (Jvm.Cond.methodLink "JobWorkshopModel" (101 : Nat) ({ cls := "java/lang/Math", name := "max", desc := "(II)I" } : Jvm.MethodName)) ∈ TG := TG_6 (i := 124) rfl rfl
theorem tw_6_125 : (Jvm.Cond.methodLink "JobWorkshopModel" (106 : Nat) ({ cls := "JobWorkshopModel", name := "open", desc := "(III)I" } : Jvm.MethodName)) ∈ TG := TG_6 (i := 125) rfl rfl
theorem tw_6_127 : (Jvm.Cond.instanceMethod ({ cls := "JobWorkshopModel", name := "open", desc := "(III)I" } : Jvm.MethodName)) ∈ TG := TG_6 (i := 127) rfl rfl
theorem tw_6_128 : (Jvm.Cond.code ({ cls := "JobWorkshopModel", name := "open", desc := "(III)I" } : Jvm.MethodName) prog_13_method_18_code (8 : Nat) (Option.some Jvm.ClassFile.FieldType.int)) ∈ TG := TG_6 (i := 128) rfl rfl
theorem tw_6_129 : (Jvm.Cond.methodLink "JobWorkshopModel" (128 : Nat) ({ cls := "JobWorkshopModel", name := "isAhead", desc := "(III)Z" } : Jvm.MethodName)) ∈ TG := TG_6 (i := 129) rfl rfl
theorem tw_6_131 : (Jvm.Cond.instanceMethod ({ cls := "JobWorkshopModel", name := "isAhead", desc := "(III)Z" } : Jvm.MethodName)) ∈ TG := TG_6 (i := 131) rfl rfl
theorem tw_6_132 : (Jvm.Cond.code ({ cls := "JobWorkshopModel", name := "isAhead", desc := "(III)Z" } : Jvm.MethodName) prog_13_method_27_code (6 : Nat) (Option.some Jvm.ClassFile.FieldType.boolean)) ∈ TG := TG_6 (i := 132) rfl rfl
theorem tw_6_133 : (Jvm.Cond.methodLink "JobWorkshopModel" (80 : Nat) ({ cls := "JobWorkshopModel", name := "left", desc := "(II)I" } : Jvm.MethodName)) ∈ TG := TG_6 (i := 133) rfl rfl
theorem tw_6_135 : (Jvm.Cond.instanceMethod ({ cls := "JobWorkshopModel", name := "left", desc := "(II)I" } : Jvm.MethodName)) ∈ TG := TG_6 (i := 135) rfl rfl
theorem tw_6_136 : (Jvm.Cond.code ({ cls := "JobWorkshopModel", name := "left", desc := "(II)I" } : Jvm.MethodName) prog_13_method_11_code (5 : Nat) (Option.some Jvm.ClassFile.FieldType.int)) ∈ TG := TG_6 (i := 136) rfl rfl
theorem tw_6_137 : (Jvm.Cond.methodLink "JobWorkshopModel" (131 : Nat) ({ cls := "JobWorkshopModel", name := "puts", desc := "(I)V" } : Jvm.MethodName)) ∈ TG := TG_6 (i := 137) rfl rfl
theorem tw_6_139 : (Jvm.Cond.instanceMethod ({ cls := "JobWorkshopModel", name := "puts", desc := "(I)V" } : Jvm.MethodName)) ∈ TG := TG_6 (i := 139) rfl rfl
theorem tw_6_140 : (Jvm.Cond.code ({ cls := "JobWorkshopModel", name := "puts", desc := "(I)V" } : Jvm.MethodName) prog_13_method_29_code (3 : Nat) (Option.none : Option Jvm.ClassFile.FieldType)) ∈ TG := TG_6 (i := 140) rfl rfl
theorem tw_6_141 : (Jvm.Cond.methodLink "JobWorkshopModel" (116 : Nat) ({ cls := "JobWorkshopModel", name := "does", desc := "(II)V" } : Jvm.MethodName)) ∈ TG := TG_6 (i := 141) rfl rfl
theorem tw_6_143 : (Jvm.Cond.instanceMethod ({ cls := "JobWorkshopModel", name := "does", desc := "(II)V" } : Jvm.MethodName)) ∈ TG := TG_6 (i := 143) rfl rfl
theorem tw_6_144 : (Jvm.Cond.code ({ cls := "JobWorkshopModel", name := "does", desc := "(II)V" } : Jvm.MethodName) prog_13_method_22_code (6 : Nat) (Option.none : Option Jvm.ClassFile.FieldType)) ∈ TG := TG_6 (i := 144) rfl rfl
theorem tw_6_145 : (Jvm.Cond.methodLink "JobWorkshopModel" (167 : Nat) ({ cls := "JobWorkshopModel", name := "takesOrder", desc := "()I" } : Jvm.MethodName)) ∈ TG := TG_6 (i := 145) rfl rfl
theorem tw_6_147 : (Jvm.Cond.instanceMethod ({ cls := "JobWorkshopModel", name := "takesOrder", desc := "()I" } : Jvm.MethodName)) ∈ TG := TG_6 (i := 147) rfl rfl
theorem tw_6_148 : (Jvm.Cond.code ({ cls := "JobWorkshopModel", name := "takesOrder", desc := "()I" } : Jvm.MethodName) prog_13_method_31_code (2 : Nat) (Option.some Jvm.ClassFile.FieldType.int)) ∈ TG := TG_6 (i := 148) rfl rfl
theorem tw_6_149 : (Jvm.Cond.methodLink "JobWorkshopModel" (141 : Nat) ({ cls := "JobWorkshopModel", name := "works", desc := "()Z" } : Jvm.MethodName)) ∈ TG := TG_6 (i := 149) rfl rfl
theorem tw_6_151 : (Jvm.Cond.instanceMethod ({ cls := "JobWorkshopModel", name := "works", desc := "()Z" } : Jvm.MethodName)) ∈ TG := TG_6 (i := 151) rfl rfl
theorem tw_6_152 : (Jvm.Cond.code ({ cls := "JobWorkshopModel", name := "works", desc := "()Z" } : Jvm.MethodName) prog_13_method_24_code (1 : Nat) (Option.some Jvm.ClassFile.FieldType.boolean)) ∈ TG := TG_6 (i := 152) rfl rfl
theorem tw_6_153 : (Jvm.Cond.methodLink "JobWorkshopModel" (124 : Nat) ({ cls := "JobWorkshopModel", name := "worksOut", desc := "([IIII)Z" } : Jvm.MethodName)) ∈ TG := TG_6 (i := 153) rfl rfl
theorem tw_6_155 : (Jvm.Cond.instanceMethod ({ cls := "JobWorkshopModel", name := "worksOut", desc := "([IIII)Z" } : Jvm.MethodName)) ∈ TG := TG_6 (i := 155) rfl rfl
theorem tw_6_156 : (Jvm.Cond.code ({ cls := "JobWorkshopModel", name := "worksOut", desc := "([IIII)Z" } : Jvm.MethodName) prog_13_method_23_code (11 : Nat) (Option.some Jvm.ClassFile.FieldType.boolean)) ∈ TG := TG_6 (i := 156) rfl rfl
theorem tw_6_157 : (Jvm.Cond.methodLink "JobWorkshopModel" (120 : Nat) ({ cls := "JobWorkshopModel", name := "allSteps", desc := "()I" } : Jvm.MethodName)) ∈ TG := TG_6 (i := 157) rfl rfl
theorem tw_6_159 : (Jvm.Cond.instanceMethod ({ cls := "JobWorkshopModel", name := "allSteps", desc := "()I" } : Jvm.MethodName)) ∈ TG := TG_6 (i := 159) rfl rfl
theorem tw_6_160 : (Jvm.Cond.code ({ cls := "JobWorkshopModel", name := "allSteps", desc := "()I" } : Jvm.MethodName) prog_13_method_13_code (3 : Nat) (Option.some Jvm.ClassFile.FieldType.int)) ∈ TG := TG_6 (i := 160) rfl rfl
theorem tw_6_161 : (Jvm.Cond.methodLink "JobWorkshopModel" (145 : Nat) ({ cls := "JobWorkshopModel", name := "planEnd", desc := "()I" } : Jvm.MethodName)) ∈ TG := TG_6 (i := 161) rfl rfl
theorem tw_6_163 : (Jvm.Cond.instanceMethod ({ cls := "JobWorkshopModel", name := "planEnd", desc := "()I" } : Jvm.MethodName)) ∈ TG := TG_6 (i := 163) rfl rfl
theorem tw_6_164 : (Jvm.Cond.code ({ cls := "JobWorkshopModel", name := "planEnd", desc := "()I" } : Jvm.MethodName) prog_13_method_25_code (3 : Nat) (Option.some Jvm.ClassFile.FieldType.int)) ∈ TG := TG_6 (i := 164) rfl rfl
theorem tw_6_165 : (Jvm.Cond.methodLink "JobWorkshopLaw" (167 : Nat) ({ cls := "JobWorkshopModel", name := "tell", desc := "(J)I" } : Jvm.MethodName)) ∈ TG := TG_6 (i := 165) rfl rfl
theorem tw_6_166 : (Jvm.Cond.instanceMethod ({ cls := "JobWorkshopModel", name := "tell", desc := "(J)I" } : Jvm.MethodName)) ∈ TG := TG_6 (i := 166) rfl rfl
theorem tw_6_167 : (Jvm.Cond.selects "JobWorkshopModel" ({ cls := "JobWorkshopModel", name := "tell", desc := "(J)I" } : Jvm.MethodName) ({ cls := "JobWorkshopModel", name := "tell", desc := "(J)I" } : Jvm.MethodName)) ∈ TG := TG_6 (i := 167) rfl rfl
theorem tw_6_168 : (Jvm.Cond.code ({ cls := "JobWorkshopModel", name := "tell", desc := "(J)I" } : Jvm.MethodName) prog_13_method_41_code (7 : Nat) (Option.some Jvm.ClassFile.FieldType.int)) ∈ TG := TG_6 (i := 168) rfl rfl
theorem tw_6_169 : (Jvm.Cond.constantLong "JobWorkshopModel" (170 : Nat) (10 : Int64)) ∈ TG := TG_6 (i := 169) rfl rfl
theorem tw_6_170 : (Jvm.Cond.methodLink "JobWorkshopLaw" (170 : Nat) ({ cls := "JobWorkshopModel", name := "best", desc := "(I)I" } : Jvm.MethodName)) ∈ TG := TG_6 (i := 170) rfl rfl
theorem tw_6_171 : (Jvm.Cond.instanceMethod ({ cls := "JobWorkshopModel", name := "best", desc := "(I)I" } : Jvm.MethodName)) ∈ TG := TG_6 (i := 171) rfl rfl
theorem tw_6_172 : (Jvm.Cond.selects "JobWorkshopModel" ({ cls := "JobWorkshopModel", name := "best", desc := "(I)I" } : Jvm.MethodName) ({ cls := "JobWorkshopModel", name := "best", desc := "(I)I" } : Jvm.MethodName)) ∈ TG := TG_6 (i := 172) rfl rfl
theorem tw_6_173 : (Jvm.Cond.code ({ cls := "JobWorkshopModel", name := "best", desc := "(I)I" } : Jvm.MethodName) prog_13_method_45_code (8 : Nat) (Option.some Jvm.ClassFile.FieldType.int)) ∈ TG := TG_6 (i := 173) rfl rfl
theorem tw_6_174 : (Jvm.Cond.methodLink "JobWorkshopModel" (172 : Nat) ({ cls := "JobWorkshopModel", name := "valueOf", desc := "(I)I" } : Jvm.MethodName)) ∈ TG := TG_6 (i := 174) rfl rfl
theorem tw_6_176 : (Jvm.Cond.instanceMethod ({ cls := "JobWorkshopModel", name := "valueOf", desc := "(I)I" } : Jvm.MethodName)) ∈ TG := TG_6 (i := 176) rfl rfl
theorem tw_6_177 : (Jvm.Cond.code ({ cls := "JobWorkshopModel", name := "valueOf", desc := "(I)I" } : Jvm.MethodName) prog_13_method_26_code (5 : Nat) (Option.some Jvm.ClassFile.FieldType.int)) ∈ TG := TG_6 (i := 177) rfl rfl
theorem tw_6_178 : (Jvm.Cond.methodLink "JobWorkshopModel" (175 : Nat) ({ cls := "JobWorkshopModel", name := "nextJob", desc := "(I)I" } : Jvm.MethodName)) ∈ TG := TG_6 (i := 178) rfl rfl
theorem tw_6_180 : (Jvm.Cond.instanceMethod ({ cls := "JobWorkshopModel", name := "nextJob", desc := "(I)I" } : Jvm.MethodName)) ∈ TG := TG_6 (i := 180) rfl rfl
theorem tw_6_181 : (Jvm.Cond.code ({ cls := "JobWorkshopModel", name := "nextJob", desc := "(I)I" } : Jvm.MethodName) prog_13_method_44_code (3 : Nat) (Option.some Jvm.ClassFile.FieldType.int)) ∈ TG := TG_6 (i := 181) rfl rfl
theorem tw_6_182 : (Jvm.Cond.methodLink "JobWorkshopModel" (178 : Nat) ({ cls := "JobWorkshopModel", name := "takesBack", desc := "(I)V" } : Jvm.MethodName)) ∈ TG := TG_6 (i := 182) rfl rfl
theorem tw_6_184 : (Jvm.Cond.instanceMethod ({ cls := "JobWorkshopModel", name := "takesBack", desc := "(I)V" } : Jvm.MethodName)) ∈ TG := TG_6 (i := 184) rfl rfl
theorem tw_6_185 : (Jvm.Cond.code ({ cls := "JobWorkshopModel", name := "takesBack", desc := "(I)V" } : Jvm.MethodName) prog_13_method_43_code (4 : Nat) (Option.none : Option Jvm.ClassFile.FieldType)) ∈ TG := TG_6 (i := 185) rfl rfl
theorem tw_6_186 : (Jvm.Cond.methodLink "JobWorkshopModel" (181 : Nat) ({ cls := "JobWorkshopModel", name := "remembers", desc := "(II)V" } : Jvm.MethodName)) ∈ TG := TG_6 (i := 186) rfl rfl
theorem tw_6_188 : (Jvm.Cond.instanceMethod ({ cls := "JobWorkshopModel", name := "remembers", desc := "(II)V" } : Jvm.MethodName)) ∈ TG := TG_6 (i := 188) rfl rfl
theorem tw_6_189 : (Jvm.Cond.code ({ cls := "JobWorkshopModel", name := "remembers", desc := "(II)V" } : Jvm.MethodName) prog_13_method_42_code (4 : Nat) (Option.none : Option Jvm.ClassFile.FieldType)) ∈ TG := TG_6 (i := 189) rfl rfl
theorem tw_6_190 : (Jvm.Cond.methodLink "JobWorkshopLaw" (174 : Nat) ({ cls := "JobWorkshopModel", name := "swap", desc := "(II)I" } : Jvm.MethodName)) ∈ TG := TG_6 (i := 190) rfl rfl
theorem tw_6_191 : (Jvm.Cond.instanceMethod ({ cls := "JobWorkshopModel", name := "swap", desc := "(II)I" } : Jvm.MethodName)) ∈ TG := TG_6 (i := 191) rfl rfl
theorem tw_6_192 : (Jvm.Cond.selects "JobWorkshopModel" ({ cls := "JobWorkshopModel", name := "swap", desc := "(II)I" } : Jvm.MethodName) ({ cls := "JobWorkshopModel", name := "swap", desc := "(II)I" } : Jvm.MethodName)) ∈ TG := TG_6 (i := 192) rfl rfl
theorem tw_6_193 : (Jvm.Cond.code ({ cls := "JobWorkshopModel", name := "swap", desc := "(II)I" } : Jvm.MethodName) prog_13_method_47_code (6 : Nat) (Option.some Jvm.ClassFile.FieldType.int)) ∈ TG := TG_6 (i := 193) rfl rfl
theorem tw_6_194 : (Jvm.Cond.methodLink "JobWorkshopModel" (184 : Nat) ({ cls := "JobWorkshopModel", name := "exchanges", desc := "(I)V" } : Jvm.MethodName)) ∈ TG := TG_6 (i := 194) rfl rfl
theorem tw_6_196 : (Jvm.Cond.instanceMethod ({ cls := "JobWorkshopModel", name := "exchanges", desc := "(I)V" } : Jvm.MethodName)) ∈ TG := TG_6 (i := 196) rfl rfl
theorem tw_6_197 : (Jvm.Cond.code ({ cls := "JobWorkshopModel", name := "exchanges", desc := "(I)V" } : Jvm.MethodName) prog_13_method_46_code (3 : Nat) (Option.none : Option Jvm.ClassFile.FieldType)) ∈ TG := TG_6 (i := 197) rfl rfl
theorem tw_6_198 : (Jvm.Cond.methodLink "JobWorkshopLaw" (177 : Nat) ({ cls := "JobWorkshopModel", name := "replan", desc := "(II)I" } : Jvm.MethodName)) ∈ TG := TG_6 (i := 198) rfl rfl
theorem tw_6_199 : (Jvm.Cond.instanceMethod ({ cls := "JobWorkshopModel", name := "replan", desc := "(II)I" } : Jvm.MethodName)) ∈ TG := TG_6 (i := 199) rfl rfl
theorem tw_6_200 : (Jvm.Cond.selects "JobWorkshopModel" ({ cls := "JobWorkshopModel", name := "replan", desc := "(II)I" } : Jvm.MethodName) ({ cls := "JobWorkshopModel", name := "replan", desc := "(II)I" } : Jvm.MethodName)) ∈ TG := TG_6 (i := 200) rfl rfl
theorem tw_6_201 : (Jvm.Cond.code ({ cls := "JobWorkshopModel", name := "replan", desc := "(II)I" } : Jvm.MethodName) prog_13_method_48_code (8 : Nat) (Option.some Jvm.ClassFile.FieldType.int)) ∈ TG := TG_6 (i := 201) rfl rfl
theorem tw_6_202 : (Jvm.Cond.methodLink "JobWorkshopModel" (187 : Nat) ({ cls := "JobWorkshopModel", name := "hasPlan", desc := "()Z" } : Jvm.MethodName)) ∈ TG := TG_6 (i := 202) rfl rfl
theorem tw_6_204 : (Jvm.Cond.instanceMethod ({ cls := "JobWorkshopModel", name := "hasPlan", desc := "()Z" } : Jvm.MethodName)) ∈ TG := TG_6 (i := 204) rfl rfl
theorem tw_6_205 : (Jvm.Cond.code ({ cls := "JobWorkshopModel", name := "hasPlan", desc := "()Z" } : Jvm.MethodName) prog_13_method_16_code (1 : Nat) (Option.some Jvm.ClassFile.FieldType.boolean)) ∈ TG := TG_6 (i := 205) rfl rfl
theorem tw_6_206 : (Jvm.Cond.methodLink "JobWorkshopLaw" (180 : Nat) ({ cls := "JobWorkshopModel", name := "rush", desc := "(I)I" } : Jvm.MethodName)) ∈ TG := TG_6 (i := 206) rfl rfl
theorem tw_6_207 : (Jvm.Cond.instanceMethod ({ cls := "JobWorkshopModel", name := "rush", desc := "(I)I" } : Jvm.MethodName)) ∈ TG := TG_6 (i := 207) rfl rfl
theorem tw_6_208 : (Jvm.Cond.selects "JobWorkshopModel" ({ cls := "JobWorkshopModel", name := "rush", desc := "(I)I" } : Jvm.MethodName) ({ cls := "JobWorkshopModel", name := "rush", desc := "(I)I" } : Jvm.MethodName)) ∈ TG := TG_6 (i := 208) rfl rfl
theorem tw_6_209 : (Jvm.Cond.code ({ cls := "JobWorkshopModel", name := "rush", desc := "(I)I" } : Jvm.MethodName) prog_13_method_50_code (2 : Nat) (Option.some Jvm.ClassFile.FieldType.int)) ∈ TG := TG_6 (i := 209) rfl rfl
theorem tw_6_210 : (Jvm.Cond.methodLink "JobWorkshopModel" (190 : Nat) ({ cls := "JobWorkshopModel", name := "laysRushed", desc := "(I)V" } : Jvm.MethodName)) ∈ TG := TG_6 (i := 210) rfl rfl
theorem tw_6_212 : (Jvm.Cond.instanceMethod ({ cls := "JobWorkshopModel", name := "laysRushed", desc := "(I)V" } : Jvm.MethodName)) ∈ TG := TG_6 (i := 212) rfl rfl
theorem tw_6_213 : (Jvm.Cond.code ({ cls := "JobWorkshopModel", name := "laysRushed", desc := "(I)V" } : Jvm.MethodName) prog_13_method_49_code (7 : Nat) (Option.none : Option Jvm.ClassFile.FieldType)) ∈ TG := TG_6 (i := 213) rfl rfl
theorem tw_6_214 : (Jvm.Cond.methodLink "JobWorkshopLaw" (183 : Nat) ({ cls := "JobWorkshopModel", name := "setWorker", desc := "(II)I" } : Jvm.MethodName)) ∈ TG := TG_6 (i := 214) rfl rfl
theorem tw_6_215 : (Jvm.Cond.instanceMethod ({ cls := "JobWorkshopModel", name := "setWorker", desc := "(II)I" } : Jvm.MethodName)) ∈ TG := TG_6 (i := 215) rfl rfl
theorem tw_6_216 : (Jvm.Cond.selects "JobWorkshopModel" ({ cls := "JobWorkshopModel", name := "setWorker", desc := "(II)I" } : Jvm.MethodName) ({ cls := "JobWorkshopModel", name := "setWorker", desc := "(II)I" } : Jvm.MethodName)) ∈ TG := TG_6 (i := 216) rfl rfl
theorem tw_6_217 : (Jvm.Cond.code ({ cls := "JobWorkshopModel", name := "setWorker", desc := "(II)I" } : Jvm.MethodName) prog_13_method_51_code (4 : Nat) (Option.some Jvm.ClassFile.FieldType.int)) ∈ TG := TG_6 (i := 217) rfl rfl
theorem tw_6_218 : (Jvm.Cond.methodLink "JobWorkshopLaw" (187 : Nat) ({ cls := "JobWorkshopModel", name := "undo", desc := "()I" } : Jvm.MethodName)) ∈ TG := TG_6 (i := 218) rfl rfl
theorem tw_6_219 : (Jvm.Cond.instanceMethod ({ cls := "JobWorkshopModel", name := "undo", desc := "()I" } : Jvm.MethodName)) ∈ TG := TG_6 (i := 219) rfl rfl
theorem tw_6_220 : (Jvm.Cond.selects "JobWorkshopModel" ({ cls := "JobWorkshopModel", name := "undo", desc := "()I" } : Jvm.MethodName) ({ cls := "JobWorkshopModel", name := "undo", desc := "()I" } : Jvm.MethodName)) ∈ TG := TG_6 (i := 220) rfl rfl
theorem tw_6_221 : (Jvm.Cond.code ({ cls := "JobWorkshopModel", name := "undo", desc := "()I" } : Jvm.MethodName) prog_13_method_52_code (1 : Nat) (Option.some Jvm.ClassFile.FieldType.int)) ∈ TG := TG_6 (i := 221) rfl rfl
theorem tw_6_222 : (Jvm.Cond.methodLink "JobWorkshopLaw" (191 : Nat) ({ cls := "JobWorkshopModel", name := "jobs", desc := "()I" } : Jvm.MethodName)) ∈ TG := TG_6 (i := 222) rfl rfl
theorem tw_6_223 : (Jvm.Cond.instanceMethod ({ cls := "JobWorkshopModel", name := "jobs", desc := "()I" } : Jvm.MethodName)) ∈ TG := TG_6 (i := 223) rfl rfl
theorem tw_6_224 : (Jvm.Cond.selects "JobWorkshopModel" ({ cls := "JobWorkshopModel", name := "jobs", desc := "()I" } : Jvm.MethodName) ({ cls := "JobWorkshopModel", name := "jobs", desc := "()I" } : Jvm.MethodName)) ∈ TG := TG_6 (i := 224) rfl rfl
theorem tw_6_225 : (Jvm.Cond.code ({ cls := "JobWorkshopModel", name := "jobs", desc := "()I" } : Jvm.MethodName) prog_13_method_53_code (1 : Nat) (Option.some Jvm.ClassFile.FieldType.int)) ∈ TG := TG_6 (i := 225) rfl rfl
theorem tw_6_226 : (Jvm.Cond.methodLink "JobWorkshopLaw" (194 : Nat) ({ cls := "JobWorkshopModel", name := "jobAt", desc := "(II)I" } : Jvm.MethodName)) ∈ TG := TG_6 (i := 226) rfl rfl
theorem tw_6_227 : (Jvm.Cond.instanceMethod ({ cls := "JobWorkshopModel", name := "jobAt", desc := "(II)I" } : Jvm.MethodName)) ∈ TG := TG_6 (i := 227) rfl rfl
theorem tw_6_228 : (Jvm.Cond.selects "JobWorkshopModel" ({ cls := "JobWorkshopModel", name := "jobAt", desc := "(II)I" } : Jvm.MethodName) ({ cls := "JobWorkshopModel", name := "jobAt", desc := "(II)I" } : Jvm.MethodName)) ∈ TG := TG_6 (i := 228) rfl rfl
theorem tw_6_229 : (Jvm.Cond.code ({ cls := "JobWorkshopModel", name := "jobAt", desc := "(II)I" } : Jvm.MethodName) prog_13_method_54_code (3 : Nat) (Option.some Jvm.ClassFile.FieldType.int)) ∈ TG := TG_6 (i := 229) rfl rfl
theorem tw_6_230 : (Jvm.Cond.methodLink "JobWorkshopModel" (193 : Nat) ({ cls := "JobWorkshopModel", name := "length", desc := "(I)I" } : Jvm.MethodName)) ∈ TG := TG_6 (i := 230) rfl rfl
theorem tw_6_232 : (Jvm.Cond.instanceMethod ({ cls := "JobWorkshopModel", name := "length", desc := "(I)I" } : Jvm.MethodName)) ∈ TG := TG_6 (i := 232) rfl rfl
theorem tw_6_233 : (Jvm.Cond.code ({ cls := "JobWorkshopModel", name := "length", desc := "(I)I" } : Jvm.MethodName) prog_13_method_12_code (2 : Nat) (Option.some Jvm.ClassFile.FieldType.int)) ∈ TG := TG_6 (i := 233) rfl rfl
theorem tw_6_234 : (Jvm.Cond.methodLink "JobWorkshopLaw" (197 : Nat) ({ cls := "JobWorkshopModel", name := "stepAt", desc := "(III)I" } : Jvm.MethodName)) ∈ TG := TG_6 (i := 234) rfl rfl
theorem tw_6_235 : (Jvm.Cond.instanceMethod ({ cls := "JobWorkshopModel", name := "stepAt", desc := "(III)I" } : Jvm.MethodName)) ∈ TG := TG_6 (i := 235) rfl rfl
theorem tw_6_236 : (Jvm.Cond.selects "JobWorkshopModel" ({ cls := "JobWorkshopModel", name := "stepAt", desc := "(III)I" } : Jvm.MethodName) ({ cls := "JobWorkshopModel", name := "stepAt", desc := "(III)I" } : Jvm.MethodName)) ∈ TG := TG_6 (i := 236) rfl rfl
theorem tw_6_237 : (Jvm.Cond.code ({ cls := "JobWorkshopModel", name := "stepAt", desc := "(III)I" } : Jvm.MethodName) prog_13_method_55_code (4 : Nat) (Option.some Jvm.ClassFile.FieldType.int)) ∈ TG := TG_6 (i := 237) rfl rfl
theorem tw_6_238 : (Jvm.Cond.methodLink "JobWorkshopModel" (196 : Nat) ({ cls := "JobWorkshopModel", name := "isStep", desc := "(II)Z" } : Jvm.MethodName)) ∈ TG := TG_6 (i := 238) rfl rfl
theorem tw_7_0 : (Jvm.Cond.instanceMethod ({ cls := "JobWorkshopModel", name := "isStep", desc := "(II)Z" } : Jvm.MethodName)) ∈ TG := TG_7 (i := 0) rfl rfl
theorem tw_7_1 : (Jvm.Cond.code ({ cls := "JobWorkshopModel", name := "isStep", desc := "(II)Z" } : Jvm.MethodName) prog_13_method_15_code (3 : Nat) (Option.some Jvm.ClassFile.FieldType.boolean)) ∈ TG := TG_7 (i := 1) rfl rfl
theorem tw_7_2 : (Jvm.Cond.methodLink "JobWorkshopLaw" (200 : Nat) ({ cls := "JobWorkshopModel", name := "begin", desc := "(II)I" } : Jvm.MethodName)) ∈ TG := TG_7 (i := 2) rfl rfl
theorem tw_7_3 : (Jvm.Cond.instanceMethod ({ cls := "JobWorkshopModel", name := "begin", desc := "(II)I" } : Jvm.MethodName)) ∈ TG := TG_7 (i := 3) rfl rfl
theorem tw_7_4 : (Jvm.Cond.selects "JobWorkshopModel" ({ cls := "JobWorkshopModel", name := "begin", desc := "(II)I" } : Jvm.MethodName) ({ cls := "JobWorkshopModel", name := "begin", desc := "(II)I" } : Jvm.MethodName)) ∈ TG := TG_7 (i := 4) rfl rfl
theorem tw_7_5 : (Jvm.Cond.code ({ cls := "JobWorkshopModel", name := "begin", desc := "(II)I" } : Jvm.MethodName) prog_13_method_57_code (3 : Nat) (Option.some Jvm.ClassFile.FieldType.int)) ∈ TG := TG_7 (i := 5) rfl rfl
theorem tw_7_6 : (Jvm.Cond.methodLink "JobWorkshopModel" (199 : Nat) ({ cls := "JobWorkshopModel", name := "isPlanned", desc := "()Z" } : Jvm.MethodName)) ∈ TG := TG_7 (i := 6) rfl rfl
theorem tw_7_8 : (Jvm.Cond.instanceMethod ({ cls := "JobWorkshopModel", name := "isPlanned", desc := "()Z" } : Jvm.MethodName)) ∈ TG := TG_7 (i := 8) rfl rfl
theorem tw_7_9 : (Jvm.Cond.code ({ cls := "JobWorkshopModel", name := "isPlanned", desc := "()Z" } : Jvm.MethodName) prog_13_method_56_code (1 : Nat) (Option.some Jvm.ClassFile.FieldType.boolean)) ∈ TG := TG_7 (i := 9) rfl rfl
theorem tw_7_10 : (Jvm.Cond.methodLink "JobWorkshopLaw" (203 : Nat) ({ cls := "JobWorkshopModel", name := "endOf", desc := "(I)I" } : Jvm.MethodName)) ∈ TG := TG_7 (i := 10) rfl rfl
theorem tw_7_11 : (Jvm.Cond.instanceMethod ({ cls := "JobWorkshopModel", name := "endOf", desc := "(I)I" } : Jvm.MethodName)) ∈ TG := TG_7 (i := 11) rfl rfl
theorem tw_7_12 : (Jvm.Cond.selects "JobWorkshopModel" ({ cls := "JobWorkshopModel", name := "endOf", desc := "(I)I" } : Jvm.MethodName) ({ cls := "JobWorkshopModel", name := "endOf", desc := "(I)I" } : Jvm.MethodName)) ∈ TG := TG_7 (i := 12) rfl rfl
theorem tw_7_13 : (Jvm.Cond.code ({ cls := "JobWorkshopModel", name := "endOf", desc := "(I)I" } : Jvm.MethodName) prog_13_method_58_code (2 : Nat) (Option.some Jvm.ClassFile.FieldType.int)) ∈ TG := TG_7 (i := 13) rfl rfl
theorem tw_7_14 : (Jvm.Cond.methodLink "JobWorkshopLaw" (206 : Nat) ({ cls := "JobWorkshopModel", name := "value", desc := "(I)I" } : Jvm.MethodName)) ∈ TG := TG_7 (i := 14) rfl rfl
theorem tw_7_15 : (Jvm.Cond.instanceMethod ({ cls := "JobWorkshopModel", name := "value", desc := "(I)I" } : Jvm.MethodName)) ∈ TG := TG_7 (i := 15) rfl rfl
theorem tw_7_16 : (Jvm.Cond.selects "JobWorkshopModel" ({ cls := "JobWorkshopModel", name := "value", desc := "(I)I" } : Jvm.MethodName) ({ cls := "JobWorkshopModel", name := "value", desc := "(I)I" } : Jvm.MethodName)) ∈ TG := TG_7 (i := 16) rfl rfl
theorem tw_7_17 : (Jvm.Cond.code ({ cls := "JobWorkshopModel", name := "value", desc := "(I)I" } : Jvm.MethodName) prog_13_method_59_code (2 : Nat) (Option.some Jvm.ClassFile.FieldType.int)) ∈ TG := TG_7 (i := 17) rfl rfl
theorem tw_7_18 : (Jvm.Cond.methodLink "JobWorkshopLaw" (210 : Nat) ({ cls := "JobWorkshopModel", name := "bound", desc := "()I" } : Jvm.MethodName)) ∈ TG := TG_7 (i := 18) rfl rfl
theorem tw_7_19 : (Jvm.Cond.instanceMethod ({ cls := "JobWorkshopModel", name := "bound", desc := "()I" } : Jvm.MethodName)) ∈ TG := TG_7 (i := 19) rfl rfl
theorem tw_7_20 : (Jvm.Cond.selects "JobWorkshopModel" ({ cls := "JobWorkshopModel", name := "bound", desc := "()I" } : Jvm.MethodName) ({ cls := "JobWorkshopModel", name := "bound", desc := "()I" } : Jvm.MethodName)) ∈ TG := TG_7 (i := 20) rfl rfl
theorem tw_7_21 : (Jvm.Cond.code ({ cls := "JobWorkshopModel", name := "bound", desc := "()I" } : Jvm.MethodName) prog_13_method_60_code (3 : Nat) (Option.some Jvm.ClassFile.FieldType.int)) ∈ TG := TG_7 (i := 21) rfl rfl
theorem tw_7_22 : (Jvm.Cond.methodLink "JobWorkshopModel" (202 : Nat) ({ cls := "JobWorkshopModel", name := "hoursOn", desc := "(I)I" } : Jvm.MethodName)) ∈ TG := TG_7 (i := 22) rfl rfl
theorem tw_7_24 : (Jvm.Cond.instanceMethod ({ cls := "JobWorkshopModel", name := "hoursOn", desc := "(I)I" } : Jvm.MethodName)) ∈ TG := TG_7 (i := 24) rfl rfl
theorem tw_7_25 : (Jvm.Cond.code ({ cls := "JobWorkshopModel", name := "hoursOn", desc := "(I)I" } : Jvm.MethodName) prog_13_method_61_code (5 : Nat) (Option.some Jvm.ClassFile.FieldType.int)) ∈ TG := TG_7 (i := 25) rfl rfl
theorem tw_7_26 : (Jvm.Cond.methodLink "JobWorkshopLaw" (213 : Nat) ({ cls := "JobWorkshopModel", name := "orderAt", desc := "(II)I" } : Jvm.MethodName)) ∈ TG := TG_7 (i := 26) rfl rfl
theorem tw_7_27 : (Jvm.Cond.instanceMethod ({ cls := "JobWorkshopModel", name := "orderAt", desc := "(II)I" } : Jvm.MethodName)) ∈ TG := TG_7 (i := 27) rfl rfl
theorem tw_7_28 : (Jvm.Cond.selects "JobWorkshopModel" ({ cls := "JobWorkshopModel", name := "orderAt", desc := "(II)I" } : Jvm.MethodName) ({ cls := "JobWorkshopModel", name := "orderAt", desc := "(II)I" } : Jvm.MethodName)) ∈ TG := TG_7 (i := 28) rfl rfl
theorem tw_7_29 : (Jvm.Cond.code ({ cls := "JobWorkshopModel", name := "orderAt", desc := "(II)I" } : Jvm.MethodName) prog_13_method_62_code (3 : Nat) (Option.some Jvm.ClassFile.FieldType.int)) ∈ TG := TG_7 (i := 29) rfl rfl
theorem tw_7_30 : (Jvm.Cond.methodLink "JobWorkshopLaw" (216 : Nat) ({ cls := "JobWorkshopModel", name := "doneIn", desc := "(II)I" } : Jvm.MethodName)) ∈ TG := TG_7 (i := 30) rfl rfl
theorem tw_7_31 : (Jvm.Cond.instanceMethod ({ cls := "JobWorkshopModel", name := "doneIn", desc := "(II)I" } : Jvm.MethodName)) ∈ TG := TG_7 (i := 31) rfl rfl
theorem tw_7_32 : (Jvm.Cond.selects "JobWorkshopModel" ({ cls := "JobWorkshopModel", name := "doneIn", desc := "(II)I" } : Jvm.MethodName) ({ cls := "JobWorkshopModel", name := "doneIn", desc := "(II)I" } : Jvm.MethodName)) ∈ TG := TG_7 (i := 32) rfl rfl
theorem tw_7_33 : (Jvm.Cond.code ({ cls := "JobWorkshopModel", name := "doneIn", desc := "(II)I" } : Jvm.MethodName) prog_13_method_63_code (6 : Nat) (Option.some Jvm.ClassFile.FieldType.int)) ∈ TG := TG_7 (i := 33) rfl rfl
theorem tw_7_34 : (Jvm.Cond.methodLink "JobWorkshopModel" (205 : Nat) ({ cls := "JobWorkshopModel", name := "isDone", desc := "(III)Z" } : Jvm.MethodName)) ∈ TG := TG_7 (i := 34) rfl rfl
theorem tw_7_36 : (Jvm.Cond.instanceMethod ({ cls := "JobWorkshopModel", name := "isDone", desc := "(III)Z" } : Jvm.MethodName)) ∈ TG := TG_7 (i := 36) rfl rfl
theorem tw_7_37 : (Jvm.Cond.code ({ cls := "JobWorkshopModel", name := "isDone", desc := "(III)Z" } : Jvm.MethodName) prog_13_method_64_code (4 : Nat) (Option.some Jvm.ClassFile.FieldType.boolean)) ∈ TG := TG_7 (i := 37) rfl rfl
theorem tw_7_38 : (Jvm.Cond.methodLink "JobWorkshopModel" (208 : Nat) ({ cls := "JobWorkshopModel", name := "stepEnd", desc := "(II)I" } : Jvm.MethodName)) ∈ TG := TG_7 (i := 38) rfl rfl
theorem tw_7_40 : (Jvm.Cond.instanceMethod ({ cls := "JobWorkshopModel", name := "stepEnd", desc := "(II)I" } : Jvm.MethodName)) ∈ TG := TG_7 (i := 40) rfl rfl
theorem tw_7_41 : (Jvm.Cond.code ({ cls := "JobWorkshopModel", name := "stepEnd", desc := "(II)I" } : Jvm.MethodName) prog_13_method_65_code (3 : Nat) (Option.some Jvm.ClassFile.FieldType.int)) ∈ TG := TG_7 (i := 41) rfl rfl
theorem tw_7_42 : (Jvm.Cond.methodLink "JobWorkshopLaw" (220 : Nat) ({ cls := "JobWorkshopModel", name := "wayLength", desc := "()I" } : Jvm.MethodName)) ∈ TG := TG_7 (i := 42) rfl rfl
theorem tw_7_43 : (Jvm.Cond.instanceMethod ({ cls := "JobWorkshopModel", name := "wayLength", desc := "()I" } : Jvm.MethodName)) ∈ TG := TG_7 (i := 43) rfl rfl
theorem tw_7_44 : (Jvm.Cond.selects "JobWorkshopModel" ({ cls := "JobWorkshopModel", name := "wayLength", desc := "()I" } : Jvm.MethodName) ({ cls := "JobWorkshopModel", name := "wayLength", desc := "()I" } : Jvm.MethodName)) ∈ TG := TG_7 (i := 44) rfl rfl
theorem tw_7_45 : (Jvm.Cond.code ({ cls := "JobWorkshopModel", name := "wayLength", desc := "()I" } : Jvm.MethodName) prog_13_method_69_code (1 : Nat) (Option.some Jvm.ClassFile.FieldType.int)) ∈ TG := TG_7 (i := 45) rfl rfl
theorem tw_7_46 : (Jvm.Cond.methodLink "JobWorkshopModel" (220 : Nat) ({ cls := "JobWorkshopModel", name := "laysWay", desc := "()V" } : Jvm.MethodName)) ∈ TG := TG_7 (i := 46) rfl rfl
theorem tw_7_48 : (Jvm.Cond.instanceMethod ({ cls := "JobWorkshopModel", name := "laysWay", desc := "()V" } : Jvm.MethodName)) ∈ TG := TG_7 (i := 48) rfl rfl
theorem tw_7_49 : (Jvm.Cond.code ({ cls := "JobWorkshopModel", name := "laysWay", desc := "()V" } : Jvm.MethodName) prog_13_method_68_code (5 : Nat) (Option.none : Option Jvm.ClassFile.FieldType)) ∈ TG := TG_7 (i := 49) rfl rfl
theorem tw_7_50 : (Jvm.Cond.methodLink "JobWorkshopModel" (214 : Nat) ({ cls := "JobWorkshopModel", name := "readyAt", desc := "(I)I" } : Jvm.MethodName)) ∈ TG := TG_7 (i := 50) rfl rfl
theorem tw_7_52 : (Jvm.Cond.instanceMethod ({ cls := "JobWorkshopModel", name := "readyAt", desc := "(I)I" } : Jvm.MethodName)) ∈ TG := TG_7 (i := 52) rfl rfl
theorem tw_7_53 : (Jvm.Cond.code ({ cls := "JobWorkshopModel", name := "readyAt", desc := "(I)I" } : Jvm.MethodName) prog_13_method_67_code (9 : Nat) (Option.some Jvm.ClassFile.FieldType.int)) ∈ TG := TG_7 (i := 53) rfl rfl
theorem tw_7_54 : (Jvm.Cond.methodLink "JobWorkshopModel" (217 : Nat) ({ cls := "JobWorkshopModel", name := "aheadOf", desc := "(I)I" } : Jvm.MethodName)) ∈ TG := TG_7 (i := 54) rfl rfl
theorem tw_7_56 : (Jvm.Cond.instanceMethod ({ cls := "JobWorkshopModel", name := "aheadOf", desc := "(I)I" } : Jvm.MethodName)) ∈ TG := TG_7 (i := 56) rfl rfl
theorem tw_7_57 : (Jvm.Cond.code ({ cls := "JobWorkshopModel", name := "aheadOf", desc := "(I)I" } : Jvm.MethodName) prog_13_method_66_code (6 : Nat) (Option.some Jvm.ClassFile.FieldType.int)) ∈ TG := TG_7 (i := 57) rfl rfl
theorem tw_7_58 : (Jvm.Cond.methodLink "JobWorkshopLaw" (223 : Nat) ({ cls := "JobWorkshopModel", name := "wayAt", desc := "(I)I" } : Jvm.MethodName)) ∈ TG := TG_7 (i := 58) rfl rfl
theorem tw_7_59 : (Jvm.Cond.instanceMethod ({ cls := "JobWorkshopModel", name := "wayAt", desc := "(I)I" } : Jvm.MethodName)) ∈ TG := TG_7 (i := 59) rfl rfl
theorem tw_7_60 : (Jvm.Cond.selects "JobWorkshopModel" ({ cls := "JobWorkshopModel", name := "wayAt", desc := "(I)I" } : Jvm.MethodName) ({ cls := "JobWorkshopModel", name := "wayAt", desc := "(I)I" } : Jvm.MethodName)) ∈ TG := TG_7 (i := 60) rfl rfl
theorem tw_7_61 : (Jvm.Cond.code ({ cls := "JobWorkshopModel", name := "wayAt", desc := "(I)I" } : Jvm.MethodName) prog_13_method_70_code (2 : Nat) (Option.some Jvm.ClassFile.FieldType.int)) ∈ TG := TG_7 (i := 61) rfl rfl
theorem tw_7_62 : (Jvm.Cond.methodLink "JobWorkshopLaw" (226 : Nat) ({ cls := "JobWorkshopModel", name := "blocks", desc := "()I" } : Jvm.MethodName)) ∈ TG := TG_7 (i := 62) rfl rfl
theorem tw_7_63 : (Jvm.Cond.instanceMethod ({ cls := "JobWorkshopModel", name := "blocks", desc := "()I" } : Jvm.MethodName)) ∈ TG := TG_7 (i := 63) rfl rfl
theorem tw_7_64 : (Jvm.Cond.selects "JobWorkshopModel" ({ cls := "JobWorkshopModel", name := "blocks", desc := "()I" } : Jvm.MethodName) ({ cls := "JobWorkshopModel", name := "blocks", desc := "()I" } : Jvm.MethodName)) ∈ TG := TG_7 (i := 64) rfl rfl
theorem tw_7_65 : (Jvm.Cond.code ({ cls := "JobWorkshopModel", name := "blocks", desc := "()I" } : Jvm.MethodName) prog_13_method_72_code (1 : Nat) (Option.some Jvm.ClassFile.FieldType.int)) ∈ TG := TG_7 (i := 65) rfl rfl
theorem tw_7_66 : (Jvm.Cond.methodLink "JobWorkshopModel" (223 : Nat) ({ cls := "JobWorkshopModel", name := "block", desc := "(Z)I" } : Jvm.MethodName)) ∈ TG := TG_7 (i := 66) rfl rfl
theorem tw_7_68 : (Jvm.Cond.instanceMethod ({ cls := "JobWorkshopModel", name := "block", desc := "(Z)I" } : Jvm.MethodName)) ∈ TG := TG_7 (i := 68) rfl rfl
theorem tw_7_69 : (Jvm.Cond.code ({ cls := "JobWorkshopModel", name := "block", desc := "(Z)I" } : Jvm.MethodName) prog_13_method_71_code (7 : Nat) (Option.some Jvm.ClassFile.FieldType.int)) ∈ TG := TG_7 (i := 69) rfl rfl
theorem tw_7_70 : (Jvm.Cond.methodLink "JobWorkshopLaw" (229 : Nat) ({ cls := "JobWorkshopModel", name := "longestBlock", desc := "()I" } : Jvm.MethodName)) ∈ TG := TG_7 (i := 70) rfl rfl
theorem tw_7_71 : (Jvm.Cond.instanceMethod ({ cls := "JobWorkshopModel", name := "longestBlock", desc := "()I" } : Jvm.MethodName)) ∈ TG := TG_7 (i := 71) rfl rfl
theorem tw_7_72 : (Jvm.Cond.selects "JobWorkshopModel" ({ cls := "JobWorkshopModel", name := "longestBlock", desc := "()I" } : Jvm.MethodName) ({ cls := "JobWorkshopModel", name := "longestBlock", desc := "()I" } : Jvm.MethodName)) ∈ TG := TG_7 (i := 72) rfl rfl
theorem tw_7_73 : (Jvm.Cond.code ({ cls := "JobWorkshopModel", name := "longestBlock", desc := "()I" } : Jvm.MethodName) prog_13_method_73_code (1 : Nat) (Option.some Jvm.ClassFile.FieldType.int)) ∈ TG := TG_7 (i := 73) rfl rfl
theorem tw_7_74 : (Jvm.Cond.methodLink "JobWorkshopLaw" (232 : Nat) ({ cls := "JobWorkshopModel", name := "slack", desc := "(II)I" } : Jvm.MethodName)) ∈ TG := TG_7 (i := 74) rfl rfl
theorem tw_7_75 : (Jvm.Cond.instanceMethod ({ cls := "JobWorkshopModel", name := "slack", desc := "(II)I" } : Jvm.MethodName)) ∈ TG := TG_7 (i := 75) rfl rfl
theorem tw_7_76 : (Jvm.Cond.selects "JobWorkshopModel" ({ cls := "JobWorkshopModel", name := "slack", desc := "(II)I" } : Jvm.MethodName) ({ cls := "JobWorkshopModel", name := "slack", desc := "(II)I" } : Jvm.MethodName)) ∈ TG := TG_7 (i := 76) rfl rfl
theorem tw_7_77 : (Jvm.Cond.code ({ cls := "JobWorkshopModel", name := "slack", desc := "(II)I" } : Jvm.MethodName) prog_13_method_74_code (5 : Nat) (Option.some Jvm.ClassFile.FieldType.int)) ∈ TG := TG_7 (i := 77) rfl rfl
theorem tw_7_78 : (Jvm.Cond.methodLink "JobWorkshopLaw" (235 : Nat) ({ cls := "JobWorkshopModel", name := "delay", desc := "(II)I" } : Jvm.MethodName)) ∈ TG := TG_7 (i := 78) rfl rfl
theorem tw_7_79 : (Jvm.Cond.instanceMethod ({ cls := "JobWorkshopModel", name := "delay", desc := "(II)I" } : Jvm.MethodName)) ∈ TG := TG_7 (i := 79) rfl rfl
theorem tw_7_80 : (Jvm.Cond.selects "JobWorkshopModel" ({ cls := "JobWorkshopModel", name := "delay", desc := "(II)I" } : Jvm.MethodName) ({ cls := "JobWorkshopModel", name := "delay", desc := "(II)I" } : Jvm.MethodName)) ∈ TG := TG_7 (i := 80) rfl rfl
theorem tw_7_81 : (Jvm.Cond.code ({ cls := "JobWorkshopModel", name := "delay", desc := "(II)I" } : Jvm.MethodName) prog_13_method_75_code (5 : Nat) (Option.some Jvm.ClassFile.FieldType.int)) ∈ TG := TG_7 (i := 81) rfl rfl
theorem tw_7_82 : (Jvm.Cond.methodLink "JobWorkshopLaw" (239 : Nat) ({ cls := "JobWorkshopModel", name := "leastSum", desc := "()I" } : Jvm.MethodName)) ∈ TG := TG_7 (i := 82) rfl rfl
theorem tw_7_83 : (Jvm.Cond.instanceMethod ({ cls := "JobWorkshopModel", name := "leastSum", desc := "()I" } : Jvm.MethodName)) ∈ TG := TG_7 (i := 83) rfl rfl
theorem tw_7_84 : (Jvm.Cond.selects "JobWorkshopModel" ({ cls := "JobWorkshopModel", name := "leastSum", desc := "()I" } : Jvm.MethodName) ({ cls := "JobWorkshopModel", name := "leastSum", desc := "()I" } : Jvm.MethodName)) ∈ TG := TG_7 (i := 84) rfl rfl
theorem tw_7_85 : (Jvm.Cond.code ({ cls := "JobWorkshopModel", name := "leastSum", desc := "()I" } : Jvm.MethodName) prog_13_method_79_code (4 : Nat) (Option.some Jvm.ClassFile.FieldType.int)) ∈ TG := TG_7 (i := 85) rfl rfl
theorem tw_7_86 : (Jvm.Cond.methodLink "JobWorkshopModel" (233 : Nat) ({ cls := "JobWorkshopModel", name := "laysRow", desc := "(I)V" } : Jvm.MethodName)) ∈ TG := TG_7 (i := 86) rfl rfl
theorem tw_7_88 : (Jvm.Cond.instanceMethod ({ cls := "JobWorkshopModel", name := "laysRow", desc := "(I)V" } : Jvm.MethodName)) ∈ TG := TG_7 (i := 88) rfl rfl
theorem tw_7_89 : (Jvm.Cond.code ({ cls := "JobWorkshopModel", name := "laysRow", desc := "(I)V" } : Jvm.MethodName) prog_13_method_78_code (5 : Nat) (Option.none : Option Jvm.ClassFile.FieldType)) ∈ TG := TG_7 (i := 89) rfl rfl
theorem tw_7_90 : (Jvm.Cond.methodLink "JobWorkshopModel" (230 : Nat) ({ cls := "JobWorkshopModel", name := "goesFirst", desc := "(III)Z" } : Jvm.MethodName)) ∈ TG := TG_7 (i := 90) rfl rfl
theorem tw_7_92 : (Jvm.Cond.instanceMethod ({ cls := "JobWorkshopModel", name := "goesFirst", desc := "(III)Z" } : Jvm.MethodName)) ∈ TG := TG_7 (i := 92) rfl rfl
theorem tw_7_93 : (Jvm.Cond.code ({ cls := "JobWorkshopModel", name := "goesFirst", desc := "(III)Z" } : Jvm.MethodName) prog_13_method_77_code (8 : Nat) (Option.some Jvm.ClassFile.FieldType.boolean)) ∈ TG := TG_7 (i := 93) rfl rfl
theorem tw_7_94 : (Jvm.Cond.methodLink "JobWorkshopModel" (227 : Nat) ({ cls := "JobWorkshopModel", name := "part", desc := "(II)I" } : Jvm.MethodName)) ∈ TG := TG_7 (i := 94) rfl rfl
theorem tw_7_96 : (Jvm.Cond.instanceMethod ({ cls := "JobWorkshopModel", name := "part", desc := "(II)I" } : Jvm.MethodName)) ∈ TG := TG_7 (i := 96) rfl rfl
theorem tw_7_97 : (Jvm.Cond.code ({ cls := "JobWorkshopModel", name := "part", desc := "(II)I" } : Jvm.MethodName) prog_13_method_76_code (3 : Nat) (Option.some Jvm.ClassFile.FieldType.int)) ∈ TG := TG_7 (i := 97) rfl rfl
theorem tw_7_98 : (Jvm.Cond.methodLink "JobWorkshopLaw" (243 : Nat) ({ cls := "JobWorkshopModel", name := "leastLateness", desc := "()I" } : Jvm.MethodName)) ∈ TG := TG_7 (i := 98) rfl rfl
theorem tw_7_99 : (Jvm.Cond.instanceMethod ({ cls := "JobWorkshopModel", name := "leastLateness", desc := "()I" } : Jvm.MethodName)) ∈ TG := TG_7 (i := 99) rfl rfl
theorem tw_7_100 : (Jvm.Cond.selects "JobWorkshopModel" ({ cls := "JobWorkshopModel", name := "leastLateness", desc := "()I" } : Jvm.MethodName) ({ cls := "JobWorkshopModel", name := "leastLateness", desc := "()I" } : Jvm.MethodName)) ∈ TG := TG_7 (i := 100) rfl rfl
theorem tw_7_101 : (Jvm.Cond.code ({ cls := "JobWorkshopModel", name := "leastLateness", desc := "()I" } : Jvm.MethodName) prog_13_method_80_code (4 : Nat) (Option.some Jvm.ClassFile.FieldType.int)) ∈ TG := TG_7 (i := 101) rfl rfl
theorem tw_7_102 : (Jvm.Cond.methodLink "JobWorkshopLaw" (247 : Nat) ({ cls := "JobWorkshopModel", name := "fewestLate", desc := "()I" } : Jvm.MethodName)) ∈ TG := TG_7 (i := 102) rfl rfl
theorem tw_7_103 : (Jvm.Cond.instanceMethod ({ cls := "JobWorkshopModel", name := "fewestLate", desc := "()I" } : Jvm.MethodName)) ∈ TG := TG_7 (i := 103) rfl rfl
theorem tw_7_104 : (Jvm.Cond.selects "JobWorkshopModel" ({ cls := "JobWorkshopModel", name := "fewestLate", desc := "()I" } : Jvm.MethodName) ({ cls := "JobWorkshopModel", name := "fewestLate", desc := "()I" } : Jvm.MethodName)) ∈ TG := TG_7 (i := 104) rfl rfl
theorem tw_7_105 : (Jvm.Cond.code ({ cls := "JobWorkshopModel", name := "fewestLate", desc := "()I" } : Jvm.MethodName) prog_13_method_82_code (4 : Nat) (Option.some Jvm.ClassFile.FieldType.int)) ∈ TG := TG_7 (i := 105) rfl rfl
theorem tw_7_106 : (Jvm.Cond.methodLink "JobWorkshopModel" (236 : Nat) ({ cls := "JobWorkshopModel", name := "dropped", desc := "()I" } : Jvm.MethodName)) ∈ TG := TG_7 (i := 106) rfl rfl
theorem tw_7_108 : (Jvm.Cond.instanceMethod ({ cls := "JobWorkshopModel", name := "dropped", desc := "()I" } : Jvm.MethodName)) ∈ TG := TG_7 (i := 108) rfl rfl
theorem tw_7_109 : (Jvm.Cond.code ({ cls := "JobWorkshopModel", name := "dropped", desc := "()I" } : Jvm.MethodName) prog_13_method_81_code (7 : Nat) (Option.some Jvm.ClassFile.FieldType.int)) ∈ TG := TG_7 (i := 109) rfl rfl
theorem tw_7_110 : (Jvm.Cond.methodLink "JobWorkshopLaw" (250 : Nat) ({ cls := "JobWorkshopModel", name := "isDropped", desc := "(I)Z" } : Jvm.MethodName)) ∈ TG := TG_7 (i := 110) rfl rfl
theorem tw_7_111 : (Jvm.Cond.instanceMethod ({ cls := "JobWorkshopModel", name := "isDropped", desc := "(I)Z" } : Jvm.MethodName)) ∈ TG := TG_7 (i := 111) rfl rfl
theorem tw_7_112 : (Jvm.Cond.selects "JobWorkshopModel" ({ cls := "JobWorkshopModel", name := "isDropped", desc := "(I)Z" } : Jvm.MethodName) ({ cls := "JobWorkshopModel", name := "isDropped", desc := "(I)Z" } : Jvm.MethodName)) ∈ TG := TG_7 (i := 112) rfl rfl
theorem tw_7_113 : (Jvm.Cond.code ({ cls := "JobWorkshopModel", name := "isDropped", desc := "(I)Z" } : Jvm.MethodName) prog_13_method_83_code (2 : Nat) (Option.some Jvm.ClassFile.FieldType.boolean)) ∈ TG := TG_7 (i := 113) rfl rfl
theorem tw_7_114 : (Jvm.Cond.methodLink "JobWorkshopLaw" (254 : Nat) ({ cls := "JobWorkshopModel", name := "leastEnd", desc := "()I" } : Jvm.MethodName)) ∈ TG := TG_7 (i := 114) rfl rfl
theorem tw_7_115 : (Jvm.Cond.instanceMethod ({ cls := "JobWorkshopModel", name := "leastEnd", desc := "()I" } : Jvm.MethodName)) ∈ TG := TG_7 (i := 115) rfl rfl
theorem tw_7_116 : (Jvm.Cond.selects "JobWorkshopModel" ({ cls := "JobWorkshopModel", name := "leastEnd", desc := "()I" } : Jvm.MethodName) ({ cls := "JobWorkshopModel", name := "leastEnd", desc := "()I" } : Jvm.MethodName)) ∈ TG := TG_7 (i := 116) rfl rfl
theorem tw_7_117 : (Jvm.Cond.code ({ cls := "JobWorkshopModel", name := "leastEnd", desc := "()I" } : Jvm.MethodName) prog_13_method_84_code (4 : Nat) (Option.some Jvm.ClassFile.FieldType.int)) ∈ TG := TG_7 (i := 117) rfl rfl
theorem tw_7_118 : (Jvm.Cond.methodLink "JobWorkshopLaw" (257 : Nat) ({ cls := "JobWorkshopModel", name := "twoAt", desc := "(I)I" } : Jvm.MethodName)) ∈ TG := TG_7 (i := 118) rfl rfl
theorem tw_7_119 : (Jvm.Cond.instanceMethod ({ cls := "JobWorkshopModel", name := "twoAt", desc := "(I)I" } : Jvm.MethodName)) ∈ TG := TG_7 (i := 119) rfl rfl
theorem tw_7_120 : (Jvm.Cond.selects "JobWorkshopModel" ({ cls := "JobWorkshopModel", name := "twoAt", desc := "(I)I" } : Jvm.MethodName) ({ cls := "JobWorkshopModel", name := "twoAt", desc := "(I)I" } : Jvm.MethodName)) ∈ TG := TG_7 (i := 120) rfl rfl
theorem tw_7_121 : (Jvm.Cond.code ({ cls := "JobWorkshopModel", name := "twoAt", desc := "(I)I" } : Jvm.MethodName) prog_13_method_85_code (2 : Nat) (Option.some Jvm.ClassFile.FieldType.int)) ∈ TG := TG_7 (i := 121) rfl rfl
theorem tw_7_122 : (Jvm.Cond.methodLink "JobWorkshopLaw" (261 : Nat) ({ cls := "JobWorkshopModel", name := "leastSetup", desc := "()I" } : Jvm.MethodName)) ∈ TG := TG_7 (i := 122) rfl rfl
theorem tw_7_123 : (Jvm.Cond.instanceMethod ({ cls := "JobWorkshopModel", name := "leastSetup", desc := "()I" } : Jvm.MethodName)) ∈ TG := TG_7 (i := 123) rfl rfl
theorem tw_7_124 : (Jvm.Cond.selects "JobWorkshopModel" ({ cls := "JobWorkshopModel", name := "leastSetup", desc := "()I" } : Jvm.MethodName) ({ cls := "JobWorkshopModel", name := "leastSetup", desc := "()I" } : Jvm.MethodName)) ∈ TG := TG_7 (i := 124) rfl rfl
theorem tw_7_125 : (Jvm.Cond.code ({ cls := "JobWorkshopModel", name := "leastSetup", desc := "()I" } : Jvm.MethodName) prog_13_method_89_code (1 : Nat) (Option.some Jvm.ClassFile.FieldType.int)) ∈ TG := TG_7 (i := 125) rfl rfl
theorem tw_7_126 : (Jvm.Cond.methodLink "JobWorkshopModel" (245 : Nat) ({ cls := "JobWorkshopModel", name := "setup", desc := "()I" } : Jvm.MethodName)) ∈ TG := TG_7 (i := 126) rfl rfl
theorem tw_7_128 : (Jvm.Cond.instanceMethod ({ cls := "JobWorkshopModel", name := "setup", desc := "()I" } : Jvm.MethodName)) ∈ TG := TG_7 (i := 128) rfl rfl
theorem tw_7_129 : (Jvm.Cond.code ({ cls := "JobWorkshopModel", name := "setup", desc := "()I" } : Jvm.MethodName) prog_13_method_88_code (5 : Nat) (Option.some Jvm.ClassFile.FieldType.int)) ∈ TG := TG_7 (i := 129) rfl rfl
theorem tw_7_130 : (Jvm.Cond.methodLink "JobWorkshopModel" (242 : Nat) ({ cls := "JobWorkshopModel", name := "nextRow", desc := "()Z" } : Jvm.MethodName)) ∈ TG := TG_7 (i := 130) rfl rfl
theorem tw_7_132 : (Jvm.Cond.instanceMethod ({ cls := "JobWorkshopModel", name := "nextRow", desc := "()Z" } : Jvm.MethodName)) ∈ TG := TG_7 (i := 132) rfl rfl
theorem tw_7_133 : (Jvm.Cond.code ({ cls := "JobWorkshopModel", name := "nextRow", desc := "()Z" } : Jvm.MethodName) prog_13_method_86_code (6 : Nat) (Option.some Jvm.ClassFile.FieldType.boolean)) ∈ TG := TG_7 (i := 133) rfl rfl
theorem tw_7_134 : (Jvm.Cond.methodLink "JobWorkshopModel" (239 : Nat) ({ cls := "JobWorkshopModel", name := "turns", desc := "(II)V" } : Jvm.MethodName)) ∈ TG := TG_7 (i := 134) rfl rfl
theorem tw_7_136 : (Jvm.Cond.instanceMethod ({ cls := "JobWorkshopModel", name := "turns", desc := "(II)V" } : Jvm.MethodName)) ∈ TG := TG_7 (i := 136) rfl rfl
theorem tw_7_137 : (Jvm.Cond.code ({ cls := "JobWorkshopModel", name := "turns", desc := "(II)V" } : Jvm.MethodName) prog_13_method_87_code (4 : Nat) (Option.none : Option Jvm.ClassFile.FieldType)) ∈ TG := TG_7 (i := 137) rfl rfl
theorem tw_7_138 : (Jvm.Cond.methodLink "JobWorkshopLaw" (264 : Nat) ({ cls := "JobWorkshopModel", name := "setupAt", desc := "(I)I" } : Jvm.MethodName)) ∈ TG := TG_7 (i := 138) rfl rfl
theorem tw_7_139 : (Jvm.Cond.instanceMethod ({ cls := "JobWorkshopModel", name := "setupAt", desc := "(I)I" } : Jvm.MethodName)) ∈ TG := TG_7 (i := 139) rfl rfl
theorem tw_7_140 : (Jvm.Cond.selects "JobWorkshopModel" ({ cls := "JobWorkshopModel", name := "setupAt", desc := "(I)I" } : Jvm.MethodName) ({ cls := "JobWorkshopModel", name := "setupAt", desc := "(I)I" } : Jvm.MethodName)) ∈ TG := TG_7 (i := 140) rfl rfl
theorem tw_7_141 : (Jvm.Cond.code ({ cls := "JobWorkshopModel", name := "setupAt", desc := "(I)I" } : Jvm.MethodName) prog_13_method_90_code (3 : Nat) (Option.some Jvm.ClassFile.FieldType.int)) ∈ TG := TG_7 (i := 141) rfl rfl
theorem tw_7_142 : (Jvm.Cond.methodLink "JobWorkshopLaw" (267 : Nat) ({ cls := "JobWorkshopModel", name := "match", desc := "(I)I" } : Jvm.MethodName)) ∈ TG := TG_7 (i := 142) rfl rfl
theorem tw_7_143 : (Jvm.Cond.instanceMethod ({ cls := "JobWorkshopModel", name := "match", desc := "(I)I" } : Jvm.MethodName)) ∈ TG := TG_7 (i := 143) rfl rfl
theorem tw_7_144 : (Jvm.Cond.selects "JobWorkshopModel" ({ cls := "JobWorkshopModel", name := "match", desc := "(I)I" } : Jvm.MethodName) ({ cls := "JobWorkshopModel", name := "match", desc := "(I)I" } : Jvm.MethodName)) ∈ TG := TG_7 (i := 144) rfl rfl
theorem tw_7_145 : (Jvm.Cond.code ({ cls := "JobWorkshopModel", name := "match", desc := "(I)I" } : Jvm.MethodName) prog_13_method_93_code (2 : Nat) (Option.some Jvm.ClassFile.FieldType.int)) ∈ TG := TG_7 (i := 145) rfl rfl
theorem tw_7_146 : (Jvm.Cond.methodLink "JobWorkshopModel" (251 : Nat) ({ cls := "JobWorkshopModel", name := "matches", desc := "(I)I" } : Jvm.MethodName)) ∈ TG := TG_7 (i := 146) rfl rfl
theorem tw_7_148 : (Jvm.Cond.instanceMethod ({ cls := "JobWorkshopModel", name := "matches", desc := "(I)I" } : Jvm.MethodName)) ∈ TG := TG_7 (i := 148) rfl rfl
theorem tw_7_149 : (Jvm.Cond.code ({ cls := "JobWorkshopModel", name := "matches", desc := "(I)I" } : Jvm.MethodName) prog_13_method_91_code (9 : Nat) (Option.some Jvm.ClassFile.FieldType.int)) ∈ TG := TG_7 (i := 149) rfl rfl
theorem tw_7_150 : (Jvm.Cond.methodLink "JobWorkshopModel" (248 : Nat) ({ cls := "JobWorkshopModel", name := "workerIn", desc := "(II)I" } : Jvm.MethodName)) ∈ TG := TG_7 (i := 150) rfl rfl
theorem tw_7_151 : (Jvm.Cond.static ({ cls := "JobWorkshopModel", name := "workerIn", desc := "(II)I" } : Jvm.MethodName)) ∈ TG := TG_7 (i := 151) rfl rfl
theorem tw_7_152 : (Jvm.Cond.code ({ cls := "JobWorkshopModel", name := "workerIn", desc := "(II)I" } : Jvm.MethodName) prog_13_method_92_code (4 : Nat) (Option.some Jvm.ClassFile.FieldType.int)) ∈ TG := TG_7 (i := 152) rfl rfl
theorem tw_7_153 : (Jvm.Cond.methodLink "JobWorkshopLaw" (270 : Nat) ({ cls := "JobWorkshopModel", name := "workerOf", desc := "(II)I" } : Jvm.MethodName)) ∈ TG := TG_7 (i := 153) rfl rfl
theorem tw_7_154 : (Jvm.Cond.instanceMethod ({ cls := "JobWorkshopModel", name := "workerOf", desc := "(II)I" } : Jvm.MethodName)) ∈ TG := TG_7 (i := 154) rfl rfl
theorem tw_7_155 : (Jvm.Cond.selects "JobWorkshopModel" ({ cls := "JobWorkshopModel", name := "workerOf", desc := "(II)I" } : Jvm.MethodName) ({ cls := "JobWorkshopModel", name := "workerOf", desc := "(II)I" } : Jvm.MethodName)) ∈ TG := TG_7 (i := 155) rfl rfl
theorem tw_7_156 : (Jvm.Cond.code ({ cls := "JobWorkshopModel", name := "workerOf", desc := "(II)I" } : Jvm.MethodName) prog_13_method_94_code (4 : Nat) (Option.some Jvm.ClassFile.FieldType.int)) ∈ TG := TG_7 (i := 156) rfl rfl
theorem tw_7_157 : (Jvm.Cond.methodLink "JobWorkshopLaw" (273 : Nat) ({ cls := "JobWorkshopModel", name := "promise", desc := "(III)I" } : Jvm.MethodName)) ∈ TG := TG_7 (i := 157) rfl rfl
theorem tw_7_158 : (Jvm.Cond.instanceMethod ({ cls := "JobWorkshopModel", name := "promise", desc := "(III)I" } : Jvm.MethodName)) ∈ TG := TG_7 (i := 158) rfl rfl
theorem tw_7_159 : (Jvm.Cond.selects "JobWorkshopModel" ({ cls := "JobWorkshopModel", name := "promise", desc := "(III)I" } : Jvm.MethodName) ({ cls := "JobWorkshopModel", name := "promise", desc := "(III)I" } : Jvm.MethodName)) ∈ TG := TG_7 (i := 159) rfl rfl
theorem tw_7_160 : (Jvm.Cond.code ({ cls := "JobWorkshopModel", name := "promise", desc := "(III)I" } : Jvm.MethodName) prog_13_method_96_code (7 : Nat) (Option.some Jvm.ClassFile.FieldType.int)) ∈ TG := TG_7 (i := 160) rfl rfl
theorem tw_7_161 : (Jvm.Cond.constantLong "JobWorkshopModel" (254 : Nat) (1000 : Int64)) ∈ TG := TG_7 (i := 161) rfl rfl
theorem tw_7_162 : (Jvm.Cond.methodLink "JobWorkshopModel" (256 : Nat) ({ cls := "JobWorkshopModel", name := "oddsOf", desc := "(III)J" } : Jvm.MethodName)) ∈ TG := TG_7 (i := 162) rfl rfl
theorem tw_7_164 : (Jvm.Cond.instanceMethod ({ cls := "JobWorkshopModel", name := "oddsOf", desc := "(III)J" } : Jvm.MethodName)) ∈ TG := TG_7 (i := 164) rfl rfl
theorem tw_7_165 : (Jvm.Cond.code ({ cls := "JobWorkshopModel", name := "oddsOf", desc := "(III)J" } : Jvm.MethodName) prog_13_method_95_code (12 : Nat) (Option.some Jvm.ClassFile.FieldType.long)) ∈ TG := TG_7 (i := 165) rfl rfl
theorem tw_7_166 : (Jvm.Cond.methodLink "JobWorkshopLaw" (276 : Nat) ({ cls := "JobWorkshopModel", name := "worked", desc := "(II)I" } : Jvm.MethodName)) ∈ TG := TG_7 (i := 166) rfl rfl
theorem tw_7_167 : (Jvm.Cond.instanceMethod ({ cls := "JobWorkshopModel", name := "worked", desc := "(II)I" } : Jvm.MethodName)) ∈ TG := TG_7 (i := 167) rfl rfl
theorem tw_7_168 : (Jvm.Cond.selects "JobWorkshopModel" ({ cls := "JobWorkshopModel", name := "worked", desc := "(II)I" } : Jvm.MethodName) ({ cls := "JobWorkshopModel", name := "worked", desc := "(II)I" } : Jvm.MethodName)) ∈ TG := TG_7 (i := 168) rfl rfl
theorem tw_7_169 : (Jvm.Cond.code ({ cls := "JobWorkshopModel", name := "worked", desc := "(II)I" } : Jvm.MethodName) prog_13_method_97_code (7 : Nat) (Option.some Jvm.ClassFile.FieldType.int)) ∈ TG := TG_7 (i := 169) rfl rfl
theorem tw_7_170 : (Jvm.Cond.methodLink "JobWorkshopModel" (260 : Nat) ({ cls := "java/lang/Math", name := "min", desc := "(II)I" } : Jvm.MethodName)) ∈ TG := TG_7 (i := 170) rfl rfl
theorem tw_7_171 : (Jvm.Cond.methodLink "JobWorkshopLaw" (280 : Nat) ({ cls := "JobWorkshopModel", name := "meanEnd", desc := "()D" } : Jvm.MethodName)) ∈ TG := TG_7 (i := 171) rfl rfl
theorem tw_7_172 : (Jvm.Cond.instanceMethod ({ cls := "JobWorkshopModel", name := "meanEnd", desc := "()D" } : Jvm.MethodName)) ∈ TG := TG_7 (i := 172) rfl rfl
theorem tw_7_173 : (Jvm.Cond.selects "JobWorkshopModel" ({ cls := "JobWorkshopModel", name := "meanEnd", desc := "()D" } : Jvm.MethodName) ({ cls := "JobWorkshopModel", name := "meanEnd", desc := "()D" } : Jvm.MethodName)) ∈ TG := TG_7 (i := 173) rfl rfl
theorem tw_7_174 : (Jvm.Cond.code ({ cls := "JobWorkshopModel", name := "meanEnd", desc := "()D" } : Jvm.MethodName) prog_13_method_98_code (3 : Nat) (Option.some Jvm.ClassFile.FieldType.double)) ∈ TG := TG_7 (i := 174) rfl rfl
theorem tw_7_175 : (Jvm.Cond.methodLink "JobWorkshopLaw" (284 : Nat) ({ cls := "JobWorkshopModel", name := "use", desc := "(I)F" } : Jvm.MethodName)) ∈ TG := TG_7 (i := 175) rfl rfl
theorem tw_7_176 : (Jvm.Cond.instanceMethod ({ cls := "JobWorkshopModel", name := "use", desc := "(I)F" } : Jvm.MethodName)) ∈ TG := TG_7 (i := 176) rfl rfl
theorem tw_7_177 : (Jvm.Cond.selects "JobWorkshopModel" ({ cls := "JobWorkshopModel", name := "use", desc := "(I)F" } : Jvm.MethodName) ({ cls := "JobWorkshopModel", name := "use", desc := "(I)F" } : Jvm.MethodName)) ∈ TG := TG_7 (i := 177) rfl rfl
theorem tw_7_178 : (Jvm.Cond.code ({ cls := "JobWorkshopModel", name := "use", desc := "(I)F" } : Jvm.MethodName) prog_13_method_99_code (2 : Nat) (Option.some Jvm.ClassFile.FieldType.float)) ∈ TG := TG_7 (i := 178) rfl rfl
theorem tw_7_179 : (Jvm.Cond.methodLink "JobWorkshopLaw" (288 : Nat) ({ cls := "JobWorkshopModel", name := "errors", desc := "()I" } : Jvm.MethodName)) ∈ TG := TG_7 (i := 179) rfl rfl
theorem tw_7_180 : (Jvm.Cond.instanceMethod ({ cls := "JobWorkshopModel", name := "errors", desc := "()I" } : Jvm.MethodName)) ∈ TG := TG_7 (i := 180) rfl rfl
theorem tw_7_181 : (Jvm.Cond.selects "JobWorkshopModel" ({ cls := "JobWorkshopModel", name := "errors", desc := "()I" } : Jvm.MethodName) ({ cls := "JobWorkshopModel", name := "errors", desc := "()I" } : Jvm.MethodName)) ∈ TG := TG_7 (i := 181) rfl rfl
theorem tw_7_182 : (Jvm.Cond.code ({ cls := "JobWorkshopModel", name := "errors", desc := "()I" } : Jvm.MethodName) prog_13_method_102_code (4 : Nat) (Option.some Jvm.ClassFile.FieldType.int)) ∈ TG := TG_7 (i := 182) rfl rfl
theorem tw_7_183 : (Jvm.Cond.methodLink "JobWorkshopModel" (266 : Nat) ({ cls := "JobWorkshopModel", name := "bound", desc := "()I" } : Jvm.MethodName)) ∈ TG := TG_7 (i := 183) rfl rfl
theorem tw_7_184 : (Jvm.Cond.methodLink "JobWorkshopModel" (269 : Nat) ({ cls := "JobWorkshopModel", name := "isWrong", desc := "(I)Z" } : Jvm.MethodName)) ∈ TG := TG_7 (i := 184) rfl rfl
theorem tw_7_186 : (Jvm.Cond.instanceMethod ({ cls := "JobWorkshopModel", name := "isWrong", desc := "(I)Z" } : Jvm.MethodName)) ∈ TG := TG_7 (i := 186) rfl rfl
theorem tw_7_187 : (Jvm.Cond.code ({ cls := "JobWorkshopModel", name := "isWrong", desc := "(I)Z" } : Jvm.MethodName) prog_13_method_101_code (8 : Nat) (Option.some Jvm.ClassFile.FieldType.boolean)) ∈ TG := TG_7 (i := 187) rfl rfl
theorem tw_7_188 : (Jvm.Cond.methodLink "JobWorkshopModel" (263 : Nat) ({ cls := "JobWorkshopModel", name := "isClosed", desc := "(II)Z" } : Jvm.MethodName)) ∈ TG := TG_7 (i := 188) rfl rfl
theorem tw_7_190 : (Jvm.Cond.instanceMethod ({ cls := "JobWorkshopModel", name := "isClosed", desc := "(II)Z" } : Jvm.MethodName)) ∈ TG := TG_7 (i := 190) rfl rfl
theorem tw_7_191 : (Jvm.Cond.code ({ cls := "JobWorkshopModel", name := "isClosed", desc := "(II)Z" } : Jvm.MethodName) prog_13_method_100_code (6 : Nat) (Option.some Jvm.ClassFile.FieldType.boolean)) ∈ TG := TG_7 (i := 191) rfl rfl
theorem tw_7_192 : (Jvm.Cond.constantLong "JobWorkshopLaw" (162 : Nat) (4294967295 : Int64)) ∈ TG := TG_7 (i := 192) rfl rfl
theorem tw_7_193 : (Jvm.Cond.arrayClass Jvm.ClassFile.FieldType.double) ∈ TG := TG_7 (i := 193) rfl rfl
theorem tw_7_194 : (Jvm.Cond.sameMethod "java/lang/Throwable" "java/lang/Throwable" "fillInStackTrace" "(I)Ljava/lang/Throwable;") ∈ TG := TG_7 (i := 194) rfl rfl
