theorem dX0_init_0 : decode cX0_init 0 = .ok (.aload_n 0, 1) := by decide +kernel
theorem dX0_init_1 : decode cX0_init 1 = .ok (.invokespecial 3, 3) := by decide +kernel
theorem dX0_init_4 : decode cX0_init 4 = .ok (.aload_n 0, 1) := by decide +kernel
theorem dX0_init_5 : decode cX0_init 5 = .ok (.bipush 8, 2) := by decide +kernel
theorem dX0_init_7 : decode cX0_init 7 = .ok (.newarray .int, 2) := by decide +kernel
theorem dX0_init_9 : decode cX0_init 9 = .ok (.putfield 9, 3) := by decide +kernel
theorem dX0_init_12 : decode cX0_init 12 = .ok (.aload_n 0, 1) := by decide +kernel
theorem dX0_init_13 : decode cX0_init 13 = .ok (.aload_n 1, 1) := by decide +kernel
theorem dX0_init_14 : decode cX0_init 14 = .ok (.putfield 15, 3) := by decide +kernel
theorem dX0_init_17 : decode cX0_init 17 = .ok (.aload_n 0, 1) := by decide +kernel
theorem dX0_init_18 : decode cX0_init 18 = .ok (.aload_n 2, 1) := by decide +kernel
theorem dX0_init_19 : decode cX0_init 19 = .ok (.putfield 19, 3) := by decide +kernel
theorem dX0_init_22 : decode cX0_init 22 = .ok (.return_, 1) := by decide +kernel
theorem dX0_search_0 : decode cX0_search 0 = .ok (.aload_n 0, 1) := by decide +kernel
theorem dX0_search_1 : decode cX0_search 1 = .ok (.aload_n 0, 1) := by decide +kernel
theorem dX0_search_2 : decode cX0_search 2 = .ok (.getfield 15, 3) := by decide +kernel
theorem dX0_search_5 : decode cX0_search 5 = .ok (.invokevirtual 23, 3) := by decide +kernel
theorem dX0_search_8 : decode cX0_search 8 = .ok (.bipush 8, 2) := by decide +kernel
theorem dX0_search_10 : decode cX0_search 10 = .ok (.invokestatic 29, 3) := by decide +kernel
theorem dX0_search_13 : decode cX0_search 13 = .ok (.putfield 35, 3) := by decide +kernel
theorem dX0_search_16 : decode cX0_search 16 = .ok (.aload_n 0, 1) := by decide +kernel
theorem dX0_search_17 : decode cX0_search 17 = .ok (.iconst 0, 1) := by decide +kernel
theorem dX0_search_18 : decode cX0_search 18 = .ok (.putfield 39, 3) := by decide +kernel
theorem dX0_search_21 : decode cX0_search 21 = .ok (.aload_n 0, 1) := by decide +kernel
theorem dX0_search_22 : decode cX0_search 22 = .ok (.getfield 19, 3) := by decide +kernel
theorem dX0_search_25 : decode cX0_search 25 = .ok (.invokevirtual 43, 3) := by decide +kernel
theorem dX0_search_28 : decode cX0_search 28 = .ok (.aload_n 0, 1) := by decide +kernel
theorem dX0_search_29 : decode cX0_search 29 = .ok (.iload_n 1, 1) := by decide +kernel
theorem dX0_search_30 : decode cX0_search 30 = .ok (.iconst 0, 1) := by decide +kernel
theorem dX0_search_31 : decode cX0_search 31 = .ok (.invokevirtual 48, 3) := by decide +kernel
theorem dX0_search_34 : decode cX0_search 34 = .ok (.aload_n 0, 1) := by decide +kernel
theorem dX0_search_35 : decode cX0_search 35 = .ok (.getfield 19, 3) := by decide +kernel
theorem dX0_search_38 : decode cX0_search 38 = .ok (.invokevirtual 43, 3) := by decide +kernel
theorem dX0_search_41 : decode cX0_search 41 = .ok (.iconst 0, 1) := by decide +kernel
theorem dX0_search_42 : decode cX0_search 42 = .ok (.istore_n 2, 1) := by decide +kernel
theorem dX0_search_43 : decode cX0_search 43 = .ok (.iload_n 2, 1) := by decide +kernel
theorem dX0_search_44 : decode cX0_search 44 = .ok (.aload_n 0, 1) := by decide +kernel
theorem dX0_search_45 : decode cX0_search 45 = .ok (.getfield 35, 3) := by decide +kernel
theorem dX0_search_48 : decode cX0_search 48 = .ok (.if_icmp .ge 23, 3) := by decide +kernel
theorem dX0_search_51 : decode cX0_search 51 = .ok (.aload_n 0, 1) := by decide +kernel
theorem dX0_search_52 : decode cX0_search 52 = .ok (.getfield 19, 3) := by decide +kernel
theorem dX0_search_55 : decode cX0_search 55 = .ok (.aload_n 0, 1) := by decide +kernel
theorem dX0_search_56 : decode cX0_search 56 = .ok (.getfield 9, 3) := by decide +kernel
theorem dX0_search_59 : decode cX0_search 59 = .ok (.iload_n 2, 1) := by decide +kernel
theorem dX0_search_60 : decode cX0_search 60 = .ok (.iaload, 1) := by decide +kernel
theorem dX0_search_61 : decode cX0_search 61 = .ok (.iconst 0, 1) := by decide +kernel
theorem dX0_search_62 : decode cX0_search 62 = .ok (.invokevirtual 52, 3) := by decide +kernel
theorem dX0_search_65 : decode cX0_search 65 = .ok (.iinc 2 1, 3) := by decide +kernel
theorem dX0_search_68 : decode cX0_search 68 = .ok (.goto (-25), 3) := by decide +kernel
theorem dX0_search_71 : decode cX0_search 71 = .ok (.return_, 1) := by decide +kernel
theorem dX0_explore_0 : decode cX0_explore 0 = .ok (.aload_n 0, 1) := by decide +kernel
theorem dX0_explore_1 : decode cX0_explore 1 = .ok (.getfield 19, 3) := by decide +kernel
theorem dX0_explore_4 : decode cX0_explore 4 = .ok (.iload_n 1, 1) := by decide +kernel
theorem dX0_explore_5 : decode cX0_explore 5 = .ok (.invokevirtual 55, 3) := by decide +kernel
theorem dX0_explore_8 : decode cX0_explore 8 = .ok (.istore_n 3, 1) := by decide +kernel
theorem dX0_explore_9 : decode cX0_explore 9 = .ok (.aload_n 0, 1) := by decide +kernel
theorem dX0_explore_10 : decode cX0_explore 10 = .ok (.getfield 39, 3) := by decide +kernel
theorem dX0_explore_13 : decode cX0_explore 13 = .ok (.ifCond .eq 12, 3) := by decide +kernel
theorem dX0_explore_16 : decode cX0_explore 16 = .ok (.iload_n 3, 1) := by decide +kernel
theorem dX0_explore_17 : decode cX0_explore 17 = .ok (.aload_n 0, 1) := by decide +kernel
theorem dX0_explore_18 : decode cX0_explore 18 = .ok (.getfield 59, 3) := by decide +kernel
theorem dX0_explore_21 : decode cX0_explore 21 = .ok (.if_icmp .lt 4, 3) := by decide +kernel
theorem dX0_explore_24 : decode cX0_explore 24 = .ok (.return_, 1) := by decide +kernel
theorem dX0_explore_25 : decode cX0_explore 25 = .ok (.iload_n 2, 1) := by decide +kernel
theorem dX0_explore_26 : decode cX0_explore 26 = .ok (.aload_n 0, 1) := by decide +kernel
theorem dX0_explore_27 : decode cX0_explore 27 = .ok (.getfield 35, 3) := by decide +kernel
theorem dX0_explore_30 : decode cX0_explore 30 = .ok (.if_icmp .lt 34, 3) := by decide +kernel
theorem dX0_explore_33 : decode cX0_explore 33 = .ok (.aload_n 0, 1) := by decide +kernel
theorem dX0_explore_34 : decode cX0_explore 34 = .ok (.iconst 1, 1) := by decide +kernel
theorem dX0_explore_35 : decode cX0_explore 35 = .ok (.putfield 39, 3) := by decide +kernel
theorem dX0_explore_38 : decode cX0_explore 38 = .ok (.aload_n 0, 1) := by decide +kernel
theorem dX0_explore_39 : decode cX0_explore 39 = .ok (.iload_n 3, 1) := by decide +kernel
theorem dX0_explore_40 : decode cX0_explore 40 = .ok (.putfield 59, 3) := by decide +kernel
theorem dX0_explore_43 : decode cX0_explore 43 = .ok (.aload_n 0, 1) := by decide +kernel
theorem dX0_explore_44 : decode cX0_explore 44 = .ok (.getfield 19, 3) := by decide +kernel
theorem dX0_explore_47 : decode cX0_explore 47 = .ok (.getfield 62, 3) := by decide +kernel
theorem dX0_explore_50 : decode cX0_explore 50 = .ok (.iconst 0, 1) := by decide +kernel
theorem dX0_explore_51 : decode cX0_explore 51 = .ok (.aload_n 0, 1) := by decide +kernel
theorem dX0_explore_52 : decode cX0_explore 52 = .ok (.getfield 9, 3) := by decide +kernel
theorem dX0_explore_55 : decode cX0_explore 55 = .ok (.iconst 0, 1) := by decide +kernel
theorem dX0_explore_56 : decode cX0_explore 56 = .ok (.aload_n 0, 1) := by decide +kernel
theorem dX0_explore_57 : decode cX0_explore 57 = .ok (.getfield 35, 3) := by decide +kernel
theorem dX0_explore_60 : decode cX0_explore 60 = .ok (.invokestatic 63, 3) := by decide +kernel
theorem dX0_explore_63 : decode cX0_explore 63 = .ok (.return_, 1) := by decide +kernel
theorem dX0_explore_64 : decode cX0_explore 64 = .ok (.iconst 0, 1) := by decide +kernel
theorem dX0_explore_65 : decode cX0_explore 65 = .ok (.istore 4, 2) := by decide +kernel
theorem dX0_explore_67 : decode cX0_explore 67 = .ok (.iload 4, 2) := by decide +kernel
theorem dX0_explore_69 : decode cX0_explore 69 = .ok (.aload_n 0, 1) := by decide +kernel
theorem dX0_explore_70 : decode cX0_explore 70 = .ok (.getfield 15, 3) := by decide +kernel
theorem dX0_explore_73 : decode cX0_explore 73 = .ok (.getfield 69, 3) := by decide +kernel
theorem dX0_explore_76 : decode cX0_explore 76 = .ok (.if_icmp .ge 46, 3) := by decide +kernel
theorem dX0_explore_79 : decode cX0_explore 79 = .ok (.aload_n 0, 1) := by decide +kernel
theorem dX0_explore_80 : decode cX0_explore 80 = .ok (.getfield 19, 3) := by decide +kernel
theorem dX0_explore_83 : decode cX0_explore 83 = .ok (.iload 4, 2) := by decide +kernel
theorem dX0_explore_85 : decode cX0_explore 85 = .ok (.invokevirtual 72, 3) := by decide +kernel
theorem dX0_explore_88 : decode cX0_explore 88 = .ok (.ifCond .eq 28, 3) := by decide +kernel
theorem dX0_explore_91 : decode cX0_explore 91 = .ok (.aload_n 0, 1) := by decide +kernel
theorem dX0_explore_92 : decode cX0_explore 92 = .ok (.getfield 19, 3) := by decide +kernel
theorem dX0_explore_95 : decode cX0_explore 95 = .ok (.iload 4, 2) := by decide +kernel
theorem dX0_explore_97 : decode cX0_explore 97 = .ok (.iconst 0, 1) := by decide +kernel
theorem dX0_explore_98 : decode cX0_explore 98 = .ok (.invokevirtual 52, 3) := by decide +kernel
theorem dX0_explore_101 : decode cX0_explore 101 = .ok (.aload_n 0, 1) := by decide +kernel
theorem dX0_explore_102 : decode cX0_explore 102 = .ok (.iload_n 1, 1) := by decide +kernel
theorem dX0_explore_103 : decode cX0_explore 103 = .ok (.iload_n 2, 1) := by decide +kernel
theorem dX0_explore_104 : decode cX0_explore 104 = .ok (.iconst 1, 1) := by decide +kernel
theorem dX0_explore_105 : decode cX0_explore 105 = .ok (.iadd, 1) := by decide +kernel
theorem dX0_explore_106 : decode cX0_explore 106 = .ok (.invokevirtual 48, 3) := by decide +kernel
theorem dX0_explore_109 : decode cX0_explore 109 = .ok (.aload_n 0, 1) := by decide +kernel
theorem dX0_explore_110 : decode cX0_explore 110 = .ok (.getfield 19, 3) := by decide +kernel
theorem dX0_explore_113 : decode cX0_explore 113 = .ok (.invokevirtual 76, 3) := by decide +kernel
theorem dX0_explore_116 : decode cX0_explore 116 = .ok (.iinc 4 1, 3) := by decide +kernel
theorem dX0_explore_119 : decode cX0_explore 119 = .ok (.goto (-52), 3) := by decide +kernel
theorem dX0_explore_122 : decode cX0_explore 122 = .ok (.return_, 1) := by decide +kernel
theorem dX1_init_0 : decode cX1_init 0 = .ok (.aload_n 0, 1) := by decide +kernel
theorem dX1_init_1 : decode cX1_init 1 = .ok (.invokespecial 3, 3) := by decide +kernel
theorem dX1_init_4 : decode cX1_init 4 = .ok (.aload_n 0, 1) := by decide +kernel
theorem dX1_init_5 : decode cX1_init 5 = .ok (.iconst 4, 1) := by decide +kernel
theorem dX1_init_6 : decode cX1_init 6 = .ok (.newarray .int, 2) := by decide +kernel
theorem dX1_init_8 : decode cX1_init 8 = .ok (.putfield 9, 3) := by decide +kernel
theorem dX1_init_11 : decode cX1_init 11 = .ok (.aload_n 0, 1) := by decide +kernel
theorem dX1_init_12 : decode cX1_init 12 = .ok (.iconst 4, 1) := by decide +kernel
theorem dX1_init_13 : decode cX1_init 13 = .ok (.newarray .int, 2) := by decide +kernel
theorem dX1_init_15 : decode cX1_init 15 = .ok (.putfield 15, 3) := by decide +kernel
theorem dX1_init_18 : decode cX1_init 18 = .ok (.aload_n 0, 1) := by decide +kernel
theorem dX1_init_19 : decode cX1_init 19 = .ok (.aload_n 1, 1) := by decide +kernel
theorem dX1_init_20 : decode cX1_init 20 = .ok (.putfield 18, 3) := by decide +kernel
theorem dX1_init_23 : decode cX1_init 23 = .ok (.return_, 1) := by decide +kernel
theorem dX1_assign_0 : decode cX1_assign 0 = .ok (.aload_n 0, 1) := by decide +kernel
theorem dX1_assign_1 : decode cX1_assign 1 = .ok (.iconst (-1), 1) := by decide +kernel
theorem dX1_assign_2 : decode cX1_assign 2 = .ok (.putfield 22, 3) := by decide +kernel
theorem dX1_assign_5 : decode cX1_assign 5 = .ok (.aload_n 0, 1) := by decide +kernel
theorem dX1_assign_6 : decode cX1_assign 6 = .ok (.aload_n 0, 1) := by decide +kernel
theorem dX1_assign_7 : decode cX1_assign 7 = .ok (.iload_n 1, 1) := by decide +kernel
theorem dX1_assign_8 : decode cX1_assign 8 = .ok (.invokevirtual 26, 3) := by decide +kernel
theorem dX1_assign_11 : decode cX1_assign 11 = .ok (.iconst 0, 1) := by decide +kernel
theorem dX1_assign_12 : decode cX1_assign 12 = .ok (.iconst 0, 1) := by decide +kernel
theorem dX1_assign_13 : decode cX1_assign 13 = .ok (.iconst 0, 1) := by decide +kernel
theorem dX1_assign_14 : decode cX1_assign 14 = .ok (.invokevirtual 30, 3) := by decide +kernel
theorem dX1_assign_17 : decode cX1_assign 17 = .ok (.return_, 1) := by decide +kernel
theorem dX1_fillable_0 : decode cX1_fillable 0 = .ok (.iconst 0, 1) := by decide +kernel
theorem dX1_fillable_1 : decode cX1_fillable 1 = .ok (.istore_n 2, 1) := by decide +kernel
theorem dX1_fillable_2 : decode cX1_fillable 2 = .ok (.iconst 0, 1) := by decide +kernel
theorem dX1_fillable_3 : decode cX1_fillable 3 = .ok (.istore_n 3, 1) := by decide +kernel
theorem dX1_fillable_4 : decode cX1_fillable 4 = .ok (.iload_n 3, 1) := by decide +kernel
theorem dX1_fillable_5 : decode cX1_fillable 5 = .ok (.bipush 6, 2) := by decide +kernel
theorem dX1_fillable_7 : decode cX1_fillable 7 = .ok (.if_icmp .ge 21, 3) := by decide +kernel
theorem dX1_fillable_10 : decode cX1_fillable 10 = .ok (.iload_n 2, 1) := by decide +kernel
theorem dX1_fillable_11 : decode cX1_fillable 11 = .ok (.aload_n 0, 1) := by decide +kernel
theorem dX1_fillable_12 : decode cX1_fillable 12 = .ok (.getfield 18, 3) := by decide +kernel
theorem dX1_fillable_15 : decode cX1_fillable 15 = .ok (.getfield 34, 3) := by decide +kernel
theorem dX1_fillable_18 : decode cX1_fillable 18 = .ok (.iload_n 3, 1) := by decide +kernel
theorem dX1_fillable_19 : decode cX1_fillable 19 = .ok (.iaload, 1) := by decide +kernel
theorem dX1_fillable_20 : decode cX1_fillable 20 = .ok (.ior, 1) := by decide +kernel
theorem dX1_fillable_21 : decode cX1_fillable 21 = .ok (.istore_n 2, 1) := by decide +kernel
theorem dX1_fillable_22 : decode cX1_fillable 22 = .ok (.iinc 3 1, 3) := by decide +kernel
theorem dX1_fillable_25 : decode cX1_fillable 25 = .ok (.goto (-21), 3) := by decide +kernel
theorem dX1_fillable_28 : decode cX1_fillable 28 = .ok (.iload_n 1, 1) := by decide +kernel
theorem dX1_fillable_29 : decode cX1_fillable 29 = .ok (.iload_n 2, 1) := by decide +kernel
theorem dX1_fillable_30 : decode cX1_fillable 30 = .ok (.iand, 1) := by decide +kernel
theorem dX1_fillable_31 : decode cX1_fillable 31 = .ok (.ireturn, 1) := by decide +kernel
theorem dX1_explore_0 : decode cX1_explore 0 = .ok (.iload 4, 2) := by decide +kernel
theorem dX1_explore_2 : decode cX1_explore 2 = .ok (.iload_n 1, 1) := by decide +kernel
theorem dX1_explore_3 : decode cX1_explore 3 = .ok (.iload_n 2, 1) := by decide +kernel
theorem dX1_explore_4 : decode cX1_explore 4 = .ok (.iushr, 1) := by decide +kernel
theorem dX1_explore_5 : decode cX1_explore 5 = .ok (.invokestatic 39, 3) := by decide +kernel
theorem dX1_explore_8 : decode cX1_explore 8 = .ok (.iadd, 1) := by decide +kernel
theorem dX1_explore_9 : decode cX1_explore 9 = .ok (.aload_n 0, 1) := by decide +kernel
theorem dX1_explore_10 : decode cX1_explore 10 = .ok (.getfield 22, 3) := by decide +kernel
theorem dX1_explore_13 : decode cX1_explore 13 = .ok (.if_icmp .gt 4, 3) := by decide +kernel
theorem dX1_explore_16 : decode cX1_explore 16 = .ok (.return_, 1) := by decide +kernel
theorem dX1_explore_17 : decode cX1_explore 17 = .ok (.iload_n 2, 1) := by decide +kernel
theorem dX1_explore_18 : decode cX1_explore 18 = .ok (.iconst 4, 1) := by decide +kernel
theorem dX1_explore_19 : decode cX1_explore 19 = .ok (.if_icmp .lt 24, 3) := by decide +kernel
theorem dX1_explore_22 : decode cX1_explore 22 = .ok (.aload_n 0, 1) := by decide +kernel
theorem dX1_explore_23 : decode cX1_explore 23 = .ok (.iload 4, 2) := by decide +kernel
theorem dX1_explore_25 : decode cX1_explore 25 = .ok (.putfield 22, 3) := by decide +kernel
theorem dX1_explore_28 : decode cX1_explore 28 = .ok (.aload_n 0, 1) := by decide +kernel
theorem dX1_explore_29 : decode cX1_explore 29 = .ok (.getfield 9, 3) := by decide +kernel
theorem dX1_explore_32 : decode cX1_explore 32 = .ok (.iconst 0, 1) := by decide +kernel
theorem dX1_explore_33 : decode cX1_explore 33 = .ok (.aload_n 0, 1) := by decide +kernel
theorem dX1_explore_34 : decode cX1_explore 34 = .ok (.getfield 15, 3) := by decide +kernel
theorem dX1_explore_37 : decode cX1_explore 37 = .ok (.iconst 0, 1) := by decide +kernel
theorem dX1_explore_38 : decode cX1_explore 38 = .ok (.iconst 4, 1) := by decide +kernel
theorem dX1_explore_39 : decode cX1_explore 39 = .ok (.invokestatic 44, 3) := by decide +kernel
theorem dX1_explore_42 : decode cX1_explore 42 = .ok (.return_, 1) := by decide +kernel
theorem dX1_explore_43 : decode cX1_explore 43 = .ok (.iload_n 1, 1) := by decide +kernel
theorem dX1_explore_44 : decode cX1_explore 44 = .ok (.iconst 1, 1) := by decide +kernel
theorem dX1_explore_45 : decode cX1_explore 45 = .ok (.iload_n 2, 1) := by decide +kernel
theorem dX1_explore_46 : decode cX1_explore 46 = .ok (.ishl, 1) := by decide +kernel
theorem dX1_explore_47 : decode cX1_explore 47 = .ok (.iand, 1) := by decide +kernel
theorem dX1_explore_48 : decode cX1_explore 48 = .ok (.ifCond .eq 71, 3) := by decide +kernel
theorem dX1_explore_51 : decode cX1_explore 51 = .ok (.iconst 0, 1) := by decide +kernel
theorem dX1_explore_52 : decode cX1_explore 52 = .ok (.istore 5, 2) := by decide +kernel
theorem dX1_explore_54 : decode cX1_explore 54 = .ok (.iload 5, 2) := by decide +kernel
theorem dX1_explore_56 : decode cX1_explore 56 = .ok (.bipush 6, 2) := by decide +kernel
theorem dX1_explore_58 : decode cX1_explore 58 = .ok (.if_icmp .ge 61, 3) := by decide +kernel
theorem dX1_explore_61 : decode cX1_explore 61 = .ok (.iload_n 3, 1) := by decide +kernel
theorem dX1_explore_62 : decode cX1_explore 62 = .ok (.iconst 1, 1) := by decide +kernel
theorem dX1_explore_63 : decode cX1_explore 63 = .ok (.iload 5, 2) := by decide +kernel
theorem dX1_explore_65 : decode cX1_explore 65 = .ok (.ishl, 1) := by decide +kernel
theorem dX1_explore_66 : decode cX1_explore 66 = .ok (.iand, 1) := by decide +kernel
theorem dX1_explore_67 : decode cX1_explore 67 = .ok (.ifCond .ne 46, 3) := by decide +kernel
theorem dX1_explore_70 : decode cX1_explore 70 = .ok (.aload_n 0, 1) := by decide +kernel
theorem dX1_explore_71 : decode cX1_explore 71 = .ok (.getfield 18, 3) := by decide +kernel
theorem dX1_explore_74 : decode cX1_explore 74 = .ok (.getfield 34, 3) := by decide +kernel
theorem dX1_explore_77 : decode cX1_explore 77 = .ok (.iload 5, 2) := by decide +kernel
theorem dX1_explore_79 : decode cX1_explore 79 = .ok (.iaload, 1) := by decide +kernel
theorem dX1_explore_80 : decode cX1_explore 80 = .ok (.iconst 1, 1) := by decide +kernel
theorem dX1_explore_81 : decode cX1_explore 81 = .ok (.iload_n 2, 1) := by decide +kernel
theorem dX1_explore_82 : decode cX1_explore 82 = .ok (.ishl, 1) := by decide +kernel
theorem dX1_explore_83 : decode cX1_explore 83 = .ok (.iand, 1) := by decide +kernel
theorem dX1_explore_84 : decode cX1_explore 84 = .ok (.ifCond .eq 29, 3) := by decide +kernel
theorem dX1_explore_87 : decode cX1_explore 87 = .ok (.aload_n 0, 1) := by decide +kernel
theorem dX1_explore_88 : decode cX1_explore 88 = .ok (.getfield 9, 3) := by decide +kernel
theorem dX1_explore_91 : decode cX1_explore 91 = .ok (.iload_n 2, 1) := by decide +kernel
theorem dX1_explore_92 : decode cX1_explore 92 = .ok (.iload 5, 2) := by decide +kernel
theorem dX1_explore_94 : decode cX1_explore 94 = .ok (.iastore, 1) := by decide +kernel
theorem dX1_explore_95 : decode cX1_explore 95 = .ok (.aload_n 0, 1) := by decide +kernel
theorem dX1_explore_96 : decode cX1_explore 96 = .ok (.iload_n 1, 1) := by decide +kernel
theorem dX1_explore_97 : decode cX1_explore 97 = .ok (.iload_n 2, 1) := by decide +kernel
theorem dX1_explore_98 : decode cX1_explore 98 = .ok (.iconst 1, 1) := by decide +kernel
theorem dX1_explore_99 : decode cX1_explore 99 = .ok (.iadd, 1) := by decide +kernel
theorem dX1_explore_100 : decode cX1_explore 100 = .ok (.iload_n 3, 1) := by decide +kernel
theorem dX1_explore_101 : decode cX1_explore 101 = .ok (.iconst 1, 1) := by decide +kernel
theorem dX1_explore_102 : decode cX1_explore 102 = .ok (.iload 5, 2) := by decide +kernel
theorem dX1_explore_104 : decode cX1_explore 104 = .ok (.ishl, 1) := by decide +kernel
theorem dX1_explore_105 : decode cX1_explore 105 = .ok (.ior, 1) := by decide +kernel
theorem dX1_explore_106 : decode cX1_explore 106 = .ok (.iload 4, 2) := by decide +kernel
theorem dX1_explore_108 : decode cX1_explore 108 = .ok (.iconst 1, 1) := by decide +kernel
theorem dX1_explore_109 : decode cX1_explore 109 = .ok (.iadd, 1) := by decide +kernel
theorem dX1_explore_110 : decode cX1_explore 110 = .ok (.invokevirtual 30, 3) := by decide +kernel
theorem dX1_explore_113 : decode cX1_explore 113 = .ok (.iinc 5 1, 3) := by decide +kernel
theorem dX1_explore_116 : decode cX1_explore 116 = .ok (.goto (-62), 3) := by decide +kernel
theorem dX1_explore_119 : decode cX1_explore 119 = .ok (.aload_n 0, 1) := by decide +kernel
theorem dX1_explore_120 : decode cX1_explore 120 = .ok (.getfield 9, 3) := by decide +kernel
theorem dX1_explore_123 : decode cX1_explore 123 = .ok (.iload_n 2, 1) := by decide +kernel
theorem dX1_explore_124 : decode cX1_explore 124 = .ok (.iconst (-1), 1) := by decide +kernel
theorem dX1_explore_125 : decode cX1_explore 125 = .ok (.iastore, 1) := by decide +kernel
theorem dX1_explore_126 : decode cX1_explore 126 = .ok (.aload_n 0, 1) := by decide +kernel
theorem dX1_explore_127 : decode cX1_explore 127 = .ok (.iload_n 1, 1) := by decide +kernel
theorem dX1_explore_128 : decode cX1_explore 128 = .ok (.iload_n 2, 1) := by decide +kernel
theorem dX1_explore_129 : decode cX1_explore 129 = .ok (.iconst 1, 1) := by decide +kernel
theorem dX1_explore_130 : decode cX1_explore 130 = .ok (.iadd, 1) := by decide +kernel
theorem dX1_explore_131 : decode cX1_explore 131 = .ok (.iload_n 3, 1) := by decide +kernel
theorem dX1_explore_132 : decode cX1_explore 132 = .ok (.iload 4, 2) := by decide +kernel
theorem dX1_explore_134 : decode cX1_explore 134 = .ok (.invokevirtual 30, 3) := by decide +kernel
theorem dX1_explore_137 : decode cX1_explore 137 = .ok (.return_, 1) := by decide +kernel
theorem dX2_init_0 : decode cX2_init 0 = .ok (.aload_n 0, 1) := by decide +kernel
theorem dX2_init_1 : decode cX2_init 1 = .ok (.invokespecial 3, 3) := by decide +kernel
theorem dX2_init_4 : decode cX2_init 4 = .ok (.aload_n 0, 1) := by decide +kernel
theorem dX2_init_5 : decode cX2_init 5 = .ok (.sipush 5000, 3) := by decide +kernel
theorem dX2_init_8 : decode cX2_init 8 = .ok (.newarray .int, 2) := by decide +kernel
theorem dX2_init_10 : decode cX2_init 10 = .ok (.putfield 9, 3) := by decide +kernel
theorem dX2_init_13 : decode cX2_init 13 = .ok (.aload_n 0, 1) := by decide +kernel
theorem dX2_init_14 : decode cX2_init 14 = .ok (.aload_n 1, 1) := by decide +kernel
theorem dX2_init_15 : decode cX2_init 15 = .ok (.putfield 15, 3) := by decide +kernel
theorem dX2_init_18 : decode cX2_init 18 = .ok (.aload_n 0, 1) := by decide +kernel
theorem dX2_init_19 : decode cX2_init 19 = .ok (.aload_n 2, 1) := by decide +kernel
theorem dX2_init_20 : decode cX2_init 20 = .ok (.putfield 19, 3) := by decide +kernel
theorem dX2_init_23 : decode cX2_init 23 = .ok (.return_, 1) := by decide +kernel
theorem dX2_wrongHours_0 : decode cX2_wrongHours 0 = .ok (.aload_n 0, 1) := by decide +kernel
theorem dX2_wrongHours_1 : decode cX2_wrongHours 1 = .ok (.getfield 9, 3) := by decide +kernel
theorem dX2_wrongHours_4 : decode cX2_wrongHours 4 = .ok (.iconst 0, 1) := by decide +kernel
theorem dX2_wrongHours_5 : decode cX2_wrongHours 5 = .ok (.invokestatic 23, 3) := by decide +kernel
theorem dX2_wrongHours_8 : decode cX2_wrongHours 8 = .ok (.iconst 0, 1) := by decide +kernel
theorem dX2_wrongHours_9 : decode cX2_wrongHours 9 = .ok (.istore_n 1, 1) := by decide +kernel
theorem dX2_wrongHours_10 : decode cX2_wrongHours 10 = .ok (.iload_n 1, 1) := by decide +kernel
theorem dX2_wrongHours_11 : decode cX2_wrongHours 11 = .ok (.aload_n 0, 1) := by decide +kernel
theorem dX2_wrongHours_12 : decode cX2_wrongHours 12 = .ok (.getfield 15, 3) := by decide +kernel
theorem dX2_wrongHours_15 : decode cX2_wrongHours 15 = .ok (.getfield 29, 3) := by decide +kernel
theorem dX2_wrongHours_18 : decode cX2_wrongHours 18 = .ok (.if_icmp .ge 40, 3) := by decide +kernel
theorem dX2_wrongHours_21 : decode cX2_wrongHours 21 = .ok (.iconst 0, 1) := by decide +kernel
theorem dX2_wrongHours_22 : decode cX2_wrongHours 22 = .ok (.istore_n 2, 1) := by decide +kernel
theorem dX2_wrongHours_23 : decode cX2_wrongHours 23 = .ok (.iload_n 2, 1) := by decide +kernel
theorem dX2_wrongHours_24 : decode cX2_wrongHours 24 = .ok (.aload_n 0, 1) := by decide +kernel
theorem dX2_wrongHours_25 : decode cX2_wrongHours 25 = .ok (.getfield 15, 3) := by decide +kernel
theorem dX2_wrongHours_28 : decode cX2_wrongHours 28 = .ok (.getfield 35, 3) := by decide +kernel
theorem dX2_wrongHours_31 : decode cX2_wrongHours 31 = .ok (.iload_n 1, 1) := by decide +kernel
theorem dX2_wrongHours_32 : decode cX2_wrongHours 32 = .ok (.iaload, 1) := by decide +kernel
theorem dX2_wrongHours_33 : decode cX2_wrongHours 33 = .ok (.if_icmp .ge 19, 3) := by decide +kernel
theorem dX2_wrongHours_36 : decode cX2_wrongHours 36 = .ok (.aload_n 0, 1) := by decide +kernel
theorem dX2_wrongHours_37 : decode cX2_wrongHours 37 = .ok (.iload_n 1, 1) := by decide +kernel
theorem dX2_wrongHours_38 : decode cX2_wrongHours 38 = .ok (.iload_n 1, 1) := by decide +kernel
theorem dX2_wrongHours_39 : decode cX2_wrongHours 39 = .ok (.iconst 5, 1) := by decide +kernel
theorem dX2_wrongHours_40 : decode cX2_wrongHours 40 = .ok (.imul, 1) := by decide +kernel
theorem dX2_wrongHours_41 : decode cX2_wrongHours 41 = .ok (.iload_n 2, 1) := by decide +kernel
theorem dX2_wrongHours_42 : decode cX2_wrongHours 42 = .ok (.iadd, 1) := by decide +kernel
theorem dX2_wrongHours_43 : decode cX2_wrongHours 43 = .ok (.invokevirtual 38, 3) := by decide +kernel
theorem dX2_wrongHours_46 : decode cX2_wrongHours 46 = .ok (.iinc 2 1, 3) := by decide +kernel
theorem dX2_wrongHours_49 : decode cX2_wrongHours 49 = .ok (.goto (-26), 3) := by decide +kernel
theorem dX2_wrongHours_52 : decode cX2_wrongHours 52 = .ok (.iinc 1 1, 3) := by decide +kernel
theorem dX2_wrongHours_55 : decode cX2_wrongHours 55 = .ok (.goto (-45), 3) := by decide +kernel
theorem dX2_wrongHours_58 : decode cX2_wrongHours 58 = .ok (.iconst 0, 1) := by decide +kernel
theorem dX2_wrongHours_59 : decode cX2_wrongHours 59 = .ok (.istore_n 1, 1) := by decide +kernel
theorem dX2_wrongHours_60 : decode cX2_wrongHours 60 = .ok (.iconst 0, 1) := by decide +kernel
theorem dX2_wrongHours_61 : decode cX2_wrongHours 61 = .ok (.istore_n 2, 1) := by decide +kernel
theorem dX2_wrongHours_62 : decode cX2_wrongHours 62 = .ok (.iload_n 2, 1) := by decide +kernel
theorem dX2_wrongHours_63 : decode cX2_wrongHours 63 = .ok (.aload_n 0, 1) := by decide +kernel
theorem dX2_wrongHours_64 : decode cX2_wrongHours 64 = .ok (.getfield 9, 3) := by decide +kernel
theorem dX2_wrongHours_67 : decode cX2_wrongHours 67 = .ok (.arraylength, 1) := by decide +kernel
theorem dX2_wrongHours_68 : decode cX2_wrongHours 68 = .ok (.if_icmp .ge 30, 3) := by decide +kernel
theorem dX2_wrongHours_71 : decode cX2_wrongHours 71 = .ok (.iload_n 1, 1) := by decide +kernel
theorem dX2_wrongHours_72 : decode cX2_wrongHours 72 = .ok (.aload_n 0, 1) := by decide +kernel
theorem dX2_wrongHours_73 : decode cX2_wrongHours 73 = .ok (.getfield 9, 3) := by decide +kernel
theorem dX2_wrongHours_76 : decode cX2_wrongHours 76 = .ok (.iload_n 2, 1) := by decide +kernel
theorem dX2_wrongHours_77 : decode cX2_wrongHours 77 = .ok (.iaload, 1) := by decide +kernel
theorem dX2_wrongHours_78 : decode cX2_wrongHours 78 = .ok (.sipush 1024, 3) := by decide +kernel
theorem dX2_wrongHours_81 : decode cX2_wrongHours 81 = .ok (.iand, 1) := by decide +kernel
theorem dX2_wrongHours_82 : decode cX2_wrongHours 82 = .ok (.ifCond .ne 7, 3) := by decide +kernel
theorem dX2_wrongHours_85 : decode cX2_wrongHours 85 = .ok (.iconst 0, 1) := by decide +kernel
theorem dX2_wrongHours_86 : decode cX2_wrongHours 86 = .ok (.goto 4, 3) := by decide +kernel
theorem dX2_wrongHours_89 : decode cX2_wrongHours 89 = .ok (.iconst 1, 1) := by decide +kernel
theorem dX2_wrongHours_90 : decode cX2_wrongHours 90 = .ok (.iadd, 1) := by decide +kernel
theorem dX2_wrongHours_91 : decode cX2_wrongHours 91 = .ok (.istore_n 1, 1) := by decide +kernel
theorem dX2_wrongHours_92 : decode cX2_wrongHours 92 = .ok (.iinc 2 1, 3) := by decide +kernel
theorem dX2_wrongHours_95 : decode cX2_wrongHours 95 = .ok (.goto (-33), 3) := by decide +kernel
theorem dX2_wrongHours_98 : decode cX2_wrongHours 98 = .ok (.iload_n 1, 1) := by decide +kernel
theorem dX2_wrongHours_99 : decode cX2_wrongHours 99 = .ok (.ireturn, 1) := by decide +kernel
theorem dX2_markStep_0 : decode cX2_markStep 0 = .ok (.aload_n 0, 1) := by decide +kernel
theorem dX2_markStep_1 : decode cX2_markStep 1 = .ok (.getfield 15, 3) := by decide +kernel
theorem dX2_markStep_4 : decode cX2_markStep 4 = .ok (.getfield 42, 3) := by decide +kernel
theorem dX2_markStep_7 : decode cX2_markStep 7 = .ok (.iload_n 2, 1) := by decide +kernel
theorem dX2_markStep_8 : decode cX2_markStep 8 = .ok (.iaload, 1) := by decide +kernel
theorem dX2_markStep_9 : decode cX2_markStep 9 = .ok (.istore_n 3, 1) := by decide +kernel
theorem dX2_markStep_10 : decode cX2_markStep 10 = .ok (.iconst 1, 1) := by decide +kernel
theorem dX2_markStep_11 : decode cX2_markStep 11 = .ok (.iload_n 3, 1) := by decide +kernel
theorem dX2_markStep_12 : decode cX2_markStep 12 = .ok (.ishl, 1) := by decide +kernel
theorem dX2_markStep_13 : decode cX2_markStep 13 = .ok (.iconst 1, 1) := by decide +kernel
theorem dX2_markStep_14 : decode cX2_markStep 14 = .ok (.iconst 4, 1) := by decide +kernel
theorem dX2_markStep_15 : decode cX2_markStep 15 = .ok (.iload_n 1, 1) := by decide +kernel
theorem dX2_markStep_16 : decode cX2_markStep 16 = .ok (.iadd, 1) := by decide +kernel
theorem dX2_markStep_17 : decode cX2_markStep 17 = .ok (.ishl, 1) := by decide +kernel
theorem dX2_markStep_18 : decode cX2_markStep 18 = .ok (.ior, 1) := by decide +kernel
theorem dX2_markStep_19 : decode cX2_markStep 19 = .ok (.istore 4, 2) := by decide +kernel
theorem dX2_markStep_21 : decode cX2_markStep 21 = .ok (.aload_n 0, 1) := by decide +kernel
theorem dX2_markStep_22 : decode cX2_markStep 22 = .ok (.getfield 19, 3) := by decide +kernel
theorem dX2_markStep_25 : decode cX2_markStep 25 = .ok (.iload_n 2, 1) := by decide +kernel
theorem dX2_markStep_26 : decode cX2_markStep 26 = .ok (.invokevirtual 45, 3) := by decide +kernel
theorem dX2_markStep_29 : decode cX2_markStep 29 = .ok (.aload_n 0, 1) := by decide +kernel
theorem dX2_markStep_30 : decode cX2_markStep 30 = .ok (.getfield 9, 3) := by decide +kernel
theorem dX2_markStep_33 : decode cX2_markStep 33 = .ok (.arraylength, 1) := by decide +kernel
theorem dX2_markStep_34 : decode cX2_markStep 34 = .ok (.invokestatic 51, 3) := by decide +kernel
theorem dX2_markStep_37 : decode cX2_markStep 37 = .ok (.istore 5, 2) := by decide +kernel
theorem dX2_markStep_39 : decode cX2_markStep 39 = .ok (.aload_n 0, 1) := by decide +kernel
theorem dX2_markStep_40 : decode cX2_markStep 40 = .ok (.getfield 19, 3) := by decide +kernel
theorem dX2_markStep_43 : decode cX2_markStep 43 = .ok (.getfield 57, 3) := by decide +kernel
theorem dX2_markStep_46 : decode cX2_markStep 46 = .ok (.iload_n 2, 1) := by decide +kernel
theorem dX2_markStep_47 : decode cX2_markStep 47 = .ok (.iaload, 1) := by decide +kernel
theorem dX2_markStep_48 : decode cX2_markStep 48 = .ok (.iconst 0, 1) := by decide +kernel
theorem dX2_markStep_49 : decode cX2_markStep 49 = .ok (.invokestatic 60, 3) := by decide +kernel
theorem dX2_markStep_52 : decode cX2_markStep 52 = .ok (.istore 6, 2) := by decide +kernel
theorem dX2_markStep_54 : decode cX2_markStep 54 = .ok (.iload 6, 2) := by decide +kernel
theorem dX2_markStep_56 : decode cX2_markStep 56 = .ok (.iload 5, 2) := by decide +kernel
theorem dX2_markStep_58 : decode cX2_markStep 58 = .ok (.if_icmp .ge 68, 3) := by decide +kernel
theorem dX2_markStep_61 : decode cX2_markStep 61 = .ok (.aload_n 0, 1) := by decide +kernel
theorem dX2_markStep_62 : decode cX2_markStep 62 = .ok (.getfield 9, 3) := by decide +kernel
theorem dX2_markStep_65 : decode cX2_markStep 65 = .ok (.iload 6, 2) := by decide +kernel
theorem dX2_markStep_67 : decode cX2_markStep 67 = .ok (.iaload, 1) := by decide +kernel
theorem dX2_markStep_68 : decode cX2_markStep 68 = .ok (.iload 4, 2) := by decide +kernel
theorem dX2_markStep_70 : decode cX2_markStep 70 = .ok (.iand, 1) := by decide +kernel
theorem dX2_markStep_71 : decode cX2_markStep 71 = .ok (.ifCond .ne 16, 3) := by decide +kernel
theorem dX2_markStep_74 : decode cX2_markStep 74 = .ok (.aload_n 0, 1) := by decide +kernel
theorem dX2_markStep_75 : decode cX2_markStep 75 = .ok (.getfield 15, 3) := by decide +kernel
theorem dX2_markStep_78 : decode cX2_markStep 78 = .ok (.iload_n 3, 1) := by decide +kernel
theorem dX2_markStep_79 : decode cX2_markStep 79 = .ok (.iload 6, 2) := by decide +kernel
theorem dX2_markStep_81 : decode cX2_markStep 81 = .ok (.invokevirtual 63, 3) := by decide +kernel
theorem dX2_markStep_84 : decode cX2_markStep 84 = .ok (.ifCond .eq 7, 3) := by decide +kernel
theorem dX2_markStep_87 : decode cX2_markStep 87 = .ok (.iconst 1, 1) := by decide +kernel
theorem dX2_markStep_88 : decode cX2_markStep 88 = .ok (.goto 4, 3) := by decide +kernel
theorem dX2_markStep_91 : decode cX2_markStep 91 = .ok (.iconst 0, 1) := by decide +kernel
theorem dX2_markStep_92 : decode cX2_markStep 92 = .ok (.istore 7, 2) := by decide +kernel
theorem dX2_markStep_94 : decode cX2_markStep 94 = .ok (.aload_n 0, 1) := by decide +kernel
theorem dX2_markStep_95 : decode cX2_markStep 95 = .ok (.getfield 9, 3) := by decide +kernel
theorem dX2_markStep_98 : decode cX2_markStep 98 = .ok (.iload 6, 2) := by decide +kernel
theorem dX2_markStep_100 : decode cX2_markStep 100 = .ok (.dup2, 1) := by decide +kernel
theorem dX2_markStep_101 : decode cX2_markStep 101 = .ok (.iaload, 1) := by decide +kernel
theorem dX2_markStep_102 : decode cX2_markStep 102 = .ok (.iload 7, 2) := by decide +kernel
theorem dX2_markStep_104 : decode cX2_markStep 104 = .ok (.ifCond .eq 12, 3) := by decide +kernel
theorem dX2_markStep_107 : decode cX2_markStep 107 = .ok (.iload 4, 2) := by decide +kernel
theorem dX2_markStep_109 : decode cX2_markStep 109 = .ok (.sipush 1024, 3) := by decide +kernel
theorem dX2_markStep_112 : decode cX2_markStep 112 = .ok (.ior, 1) := by decide +kernel
theorem dX2_markStep_113 : decode cX2_markStep 113 = .ok (.goto 5, 3) := by decide +kernel
theorem dX2_markStep_116 : decode cX2_markStep 116 = .ok (.iload 4, 2) := by decide +kernel
theorem dX2_markStep_118 : decode cX2_markStep 118 = .ok (.ior, 1) := by decide +kernel
theorem dX2_markStep_119 : decode cX2_markStep 119 = .ok (.iastore, 1) := by decide +kernel
theorem dX2_markStep_120 : decode cX2_markStep 120 = .ok (.iinc 6 1, 3) := by decide +kernel
theorem dX2_markStep_123 : decode cX2_markStep 123 = .ok (.goto (-69), 3) := by decide +kernel
theorem dX2_markStep_126 : decode cX2_markStep 126 = .ok (.return_, 1) := by decide +kernel
theorem dX3_init_0 : decode cX3_init 0 = .ok (.aload_n 0, 1) := by decide +kernel
theorem dX3_init_1 : decode cX3_init 1 = .ok (.invokespecial 3, 3) := by decide +kernel
theorem dX3_init_4 : decode cX3_init 4 = .ok (.aload_n 0, 1) := by decide +kernel
theorem dX3_init_5 : decode cX3_init 5 = .ok (.bipush 6, 2) := by decide +kernel
theorem dX3_init_7 : decode cX3_init 7 = .ok (.newarray .int, 2) := by decide +kernel
theorem dX3_init_9 : decode cX3_init 9 = .ok (.putfield 9, 3) := by decide +kernel
theorem dX3_init_12 : decode cX3_init 12 = .ok (.aload_n 0, 1) := by decide +kernel
theorem dX3_init_13 : decode cX3_init 13 = .ok (.bipush 6, 2) := by decide +kernel
theorem dX3_init_15 : decode cX3_init 15 = .ok (.newarray .int, 2) := by decide +kernel
theorem dX3_init_17 : decode cX3_init 17 = .ok (.putfield 15, 3) := by decide +kernel
theorem dX3_init_20 : decode cX3_init 20 = .ok (.return_, 1) := by decide +kernel
theorem dX3_clear_0 : decode cX3_clear 0 = .ok (.aload_n 0, 1) := by decide +kernel
theorem dX3_clear_1 : decode cX3_clear 1 = .ok (.iconst 0, 1) := by decide +kernel
theorem dX3_clear_2 : decode cX3_clear 2 = .ok (.putfield 18, 3) := by decide +kernel
theorem dX3_clear_5 : decode cX3_clear 5 = .ok (.return_, 1) := by decide +kernel
theorem dX3_insert_0 : decode cX3_insert 0 = .ok (.aload_n 0, 1) := by decide +kernel
theorem dX3_insert_1 : decode cX3_insert 1 = .ok (.getfield 18, 3) := by decide +kernel
theorem dX3_insert_4 : decode cX3_insert 4 = .ok (.bipush 6, 2) := by decide +kernel
theorem dX3_insert_6 : decode cX3_insert 6 = .ok (.if_icmp .lt 4, 3) := by decide +kernel
theorem dX3_insert_9 : decode cX3_insert 9 = .ok (.return_, 1) := by decide +kernel
theorem dX3_insert_10 : decode cX3_insert 10 = .ok (.aload_n 0, 1) := by decide +kernel
theorem dX3_insert_11 : decode cX3_insert 11 = .ok (.getfield 18, 3) := by decide +kernel
theorem dX3_insert_14 : decode cX3_insert 14 = .ok (.istore_n 3, 1) := by decide +kernel
theorem dX3_insert_15 : decode cX3_insert 15 = .ok (.iload_n 3, 1) := by decide +kernel
theorem dX3_insert_16 : decode cX3_insert 16 = .ok (.ifCond .le 49, 3) := by decide +kernel
theorem dX3_insert_19 : decode cX3_insert 19 = .ok (.aload_n 0, 1) := by decide +kernel
theorem dX3_insert_20 : decode cX3_insert 20 = .ok (.getfield 15, 3) := by decide +kernel
theorem dX3_insert_23 : decode cX3_insert 23 = .ok (.iload_n 3, 1) := by decide +kernel
theorem dX3_insert_24 : decode cX3_insert 24 = .ok (.iconst 1, 1) := by decide +kernel
theorem dX3_insert_25 : decode cX3_insert 25 = .ok (.isub, 1) := by decide +kernel
theorem dX3_insert_26 : decode cX3_insert 26 = .ok (.iaload, 1) := by decide +kernel
theorem dX3_insert_27 : decode cX3_insert 27 = .ok (.iload_n 2, 1) := by decide +kernel
theorem dX3_insert_28 : decode cX3_insert 28 = .ok (.if_icmp .le 37, 3) := by decide +kernel
theorem dX3_insert_31 : decode cX3_insert 31 = .ok (.aload_n 0, 1) := by decide +kernel
theorem dX3_insert_32 : decode cX3_insert 32 = .ok (.getfield 15, 3) := by decide +kernel
theorem dX3_insert_35 : decode cX3_insert 35 = .ok (.iload_n 3, 1) := by decide +kernel
theorem dX3_insert_36 : decode cX3_insert 36 = .ok (.aload_n 0, 1) := by decide +kernel
theorem dX3_insert_37 : decode cX3_insert 37 = .ok (.getfield 15, 3) := by decide +kernel
theorem dX3_insert_40 : decode cX3_insert 40 = .ok (.iload_n 3, 1) := by decide +kernel
theorem dX3_insert_41 : decode cX3_insert 41 = .ok (.iconst 1, 1) := by decide +kernel
theorem dX3_insert_42 : decode cX3_insert 42 = .ok (.isub, 1) := by decide +kernel
theorem dX3_insert_43 : decode cX3_insert 43 = .ok (.iaload, 1) := by decide +kernel
theorem dX3_insert_44 : decode cX3_insert 44 = .ok (.iastore, 1) := by decide +kernel
theorem dX3_insert_45 : decode cX3_insert 45 = .ok (.aload_n 0, 1) := by decide +kernel
theorem dX3_insert_46 : decode cX3_insert 46 = .ok (.getfield 9, 3) := by decide +kernel
theorem dX3_insert_49 : decode cX3_insert 49 = .ok (.iload_n 3, 1) := by decide +kernel
theorem dX3_insert_50 : decode cX3_insert 50 = .ok (.aload_n 0, 1) := by decide +kernel
theorem dX3_insert_51 : decode cX3_insert 51 = .ok (.getfield 9, 3) := by decide +kernel
theorem dX3_insert_54 : decode cX3_insert 54 = .ok (.iload_n 3, 1) := by decide +kernel
theorem dX3_insert_55 : decode cX3_insert 55 = .ok (.iconst 1, 1) := by decide +kernel
theorem dX3_insert_56 : decode cX3_insert 56 = .ok (.isub, 1) := by decide +kernel
theorem dX3_insert_57 : decode cX3_insert 57 = .ok (.iaload, 1) := by decide +kernel
theorem dX3_insert_58 : decode cX3_insert 58 = .ok (.iastore, 1) := by decide +kernel
theorem dX3_insert_59 : decode cX3_insert 59 = .ok (.iinc 3 (-1), 3) := by decide +kernel
theorem dX3_insert_62 : decode cX3_insert 62 = .ok (.goto (-47), 3) := by decide +kernel
theorem dX3_insert_65 : decode cX3_insert 65 = .ok (.aload_n 0, 1) := by decide +kernel
theorem dX3_insert_66 : decode cX3_insert 66 = .ok (.getfield 15, 3) := by decide +kernel
theorem dX3_insert_69 : decode cX3_insert 69 = .ok (.iload_n 3, 1) := by decide +kernel
theorem dX3_insert_70 : decode cX3_insert 70 = .ok (.iload_n 2, 1) := by decide +kernel
theorem dX3_insert_71 : decode cX3_insert 71 = .ok (.iastore, 1) := by decide +kernel
theorem dX3_insert_72 : decode cX3_insert 72 = .ok (.aload_n 0, 1) := by decide +kernel
theorem dX3_insert_73 : decode cX3_insert 73 = .ok (.getfield 9, 3) := by decide +kernel
theorem dX3_insert_76 : decode cX3_insert 76 = .ok (.iload_n 3, 1) := by decide +kernel
theorem dX3_insert_77 : decode cX3_insert 77 = .ok (.iload_n 1, 1) := by decide +kernel
theorem dX3_insert_78 : decode cX3_insert 78 = .ok (.iastore, 1) := by decide +kernel
theorem dX3_insert_79 : decode cX3_insert 79 = .ok (.aload_n 0, 1) := by decide +kernel
theorem dX3_insert_80 : decode cX3_insert 80 = .ok (.dup, 1) := by decide +kernel
theorem dX3_insert_81 : decode cX3_insert 81 = .ok (.getfield 18, 3) := by decide +kernel
theorem dX3_insert_84 : decode cX3_insert 84 = .ok (.iconst 1, 1) := by decide +kernel
theorem dX3_insert_85 : decode cX3_insert 85 = .ok (.iadd, 1) := by decide +kernel
theorem dX3_insert_86 : decode cX3_insert 86 = .ok (.putfield 18, 3) := by decide +kernel
theorem dX3_insert_89 : decode cX3_insert 89 = .ok (.return_, 1) := by decide +kernel
theorem dX4_init_0 : decode cX4_init 0 = .ok (.aload_n 0, 1) := by decide +kernel
theorem dX4_init_1 : decode cX4_init 1 = .ok (.invokespecial 3, 3) := by decide +kernel
theorem dX4_init_4 : decode cX4_init 4 = .ok (.aload_n 0, 1) := by decide +kernel
theorem dX4_init_5 : decode cX4_init 5 = .ok (.sipush 251, 3) := by decide +kernel
theorem dX4_init_8 : decode cX4_init 8 = .ok (.newarray .long, 2) := by decide +kernel
theorem dX4_init_10 : decode cX4_init 10 = .ok (.putfield 9, 3) := by decide +kernel
theorem dX4_init_13 : decode cX4_init 13 = .ok (.aload_n 0, 1) := by decide +kernel
theorem dX4_init_14 : decode cX4_init 14 = .ok (.aload_n 1, 1) := by decide +kernel
theorem dX4_init_15 : decode cX4_init 15 = .ok (.putfield 15, 3) := by decide +kernel
theorem dX4_init_18 : decode cX4_init 18 = .ok (.return_, 1) := by decide +kernel
theorem dX4_hourOf_0 : decode cX4_hourOf 0 = .ok (.aload_n 0, 1) := by decide +kernel
theorem dX4_hourOf_1 : decode cX4_hourOf 1 = .ok (.getfield 15, 3) := by decide +kernel
theorem dX4_hourOf_4 : decode cX4_hourOf 4 = .ok (.iload_n 1, 1) := by decide +kernel
theorem dX4_hourOf_5 : decode cX4_hourOf 5 = .ok (.iconst 0, 1) := by decide +kernel
theorem dX4_hourOf_6 : decode cX4_hourOf 6 = .ok (.invokevirtual 19, 3) := by decide +kernel
theorem dX4_hourOf_9 : decode cX4_hourOf 9 = .ok (.aload_n 0, 1) := by decide +kernel
theorem dX4_hourOf_10 : decode cX4_hourOf 10 = .ok (.getfield 9, 3) := by decide +kernel
theorem dX4_hourOf_13 : decode cX4_hourOf 13 = .ok (.arraylength, 1) := by decide +kernel
theorem dX4_hourOf_14 : decode cX4_hourOf 14 = .ok (.iconst 1, 1) := by decide +kernel
theorem dX4_hourOf_15 : decode cX4_hourOf 15 = .ok (.isub, 1) := by decide +kernel
theorem dX4_hourOf_16 : decode cX4_hourOf 16 = .ok (.invokestatic 25, 3) := by decide +kernel
theorem dX4_hourOf_19 : decode cX4_hourOf 19 = .ok (.istore 4, 2) := by decide +kernel
theorem dX4_hourOf_21 : decode cX4_hourOf 21 = .ok (.aload_n 0, 1) := by decide +kernel
theorem dX4_hourOf_22 : decode cX4_hourOf 22 = .ok (.iload_n 1, 1) := by decide +kernel
theorem dX4_hourOf_23 : decode cX4_hourOf 23 = .ok (.iload_n 2, 1) := by decide +kernel
theorem dX4_hourOf_24 : decode cX4_hourOf 24 = .ok (.iload 4, 2) := by decide +kernel
theorem dX4_hourOf_26 : decode cX4_hourOf 26 = .ok (.invokevirtual 30, 3) := by decide +kernel
theorem dX4_hourOf_29 : decode cX4_hourOf 29 = .ok (.lstore 5, 2) := by decide +kernel
theorem dX4_hourOf_31 : decode cX4_hourOf 31 = .ok (.lconst 0, 1) := by decide +kernel
theorem dX4_hourOf_32 : decode cX4_hourOf 32 = .ok (.lstore 7, 2) := by decide +kernel
theorem dX4_hourOf_34 : decode cX4_hourOf 34 = .ok (.iconst (-1), 1) := by decide +kernel
theorem dX4_hourOf_35 : decode cX4_hourOf 35 = .ok (.istore 9, 2) := by decide +kernel
theorem dX4_hourOf_37 : decode cX4_hourOf 37 = .ok (.iload 9, 2) := by decide +kernel
theorem dX4_hourOf_39 : decode cX4_hourOf 39 = .ok (.iload 4, 2) := by decide +kernel
theorem dX4_hourOf_41 : decode cX4_hourOf 41 = .ok (.if_icmp .ge 36, 3) := by decide +kernel
theorem dX4_hourOf_44 : decode cX4_hourOf 44 = .ok (.lload 7, 2) := by decide +kernel
theorem dX4_hourOf_46 : decode cX4_hourOf 46 = .ok (.ldc2_w 34, 3) := by decide +kernel
theorem dX4_hourOf_49 : decode cX4_hourOf 49 = .ok (.lmul, 1) := by decide +kernel
theorem dX4_hourOf_50 : decode cX4_hourOf 50 = .ok (.iload_n 3, 1) := by decide +kernel
theorem dX4_hourOf_51 : decode cX4_hourOf 51 = .ok (.i2l, 1) := by decide +kernel
theorem dX4_hourOf_52 : decode cX4_hourOf 52 = .ok (.lload 5, 2) := by decide +kernel
theorem dX4_hourOf_54 : decode cX4_hourOf 54 = .ok (.lmul, 1) := by decide +kernel
theorem dX4_hourOf_55 : decode cX4_hourOf 55 = .ok (.lcmp, 1) := by decide +kernel
theorem dX4_hourOf_56 : decode cX4_hourOf 56 = .ok (.ifCond .ge 21, 3) := by decide +kernel
theorem dX4_hourOf_59 : decode cX4_hourOf 59 = .ok (.iinc 9 1, 3) := by decide +kernel
theorem dX4_hourOf_62 : decode cX4_hourOf 62 = .ok (.lload 7, 2) := by decide +kernel
theorem dX4_hourOf_64 : decode cX4_hourOf 64 = .ok (.aload_n 0, 1) := by decide +kernel
theorem dX4_hourOf_65 : decode cX4_hourOf 65 = .ok (.getfield 9, 3) := by decide +kernel
theorem dX4_hourOf_68 : decode cX4_hourOf 68 = .ok (.iload 9, 2) := by decide +kernel
theorem dX4_hourOf_70 : decode cX4_hourOf 70 = .ok (.laload, 1) := by decide +kernel
theorem dX4_hourOf_71 : decode cX4_hourOf 71 = .ok (.ladd, 1) := by decide +kernel
theorem dX4_hourOf_72 : decode cX4_hourOf 72 = .ok (.lstore 7, 2) := by decide +kernel
theorem dX4_hourOf_74 : decode cX4_hourOf 74 = .ok (.goto (-37), 3) := by decide +kernel
theorem dX4_hourOf_77 : decode cX4_hourOf 77 = .ok (.aload_n 0, 1) := by decide +kernel
theorem dX4_hourOf_78 : decode cX4_hourOf 78 = .ok (.getfield 15, 3) := by decide +kernel
theorem dX4_hourOf_81 : decode cX4_hourOf 81 = .ok (.getfield 36, 3) := by decide +kernel
theorem dX4_hourOf_84 : decode cX4_hourOf 84 = .ok (.iload_n 1, 1) := by decide +kernel
theorem dX4_hourOf_85 : decode cX4_hourOf 85 = .ok (.iaload, 1) := by decide +kernel
theorem dX4_hourOf_86 : decode cX4_hourOf 86 = .ok (.iload 4, 2) := by decide +kernel
theorem dX4_hourOf_88 : decode cX4_hourOf 88 = .ok (.iadd, 1) := by decide +kernel
theorem dX4_hourOf_89 : decode cX4_hourOf 89 = .ok (.iload 9, 2) := by decide +kernel
theorem dX4_hourOf_91 : decode cX4_hourOf 91 = .ok (.iconst 0, 1) := by decide +kernel
theorem dX4_hourOf_92 : decode cX4_hourOf 92 = .ok (.invokestatic 40, 3) := by decide +kernel
theorem dX4_hourOf_95 : decode cX4_hourOf 95 = .ok (.iadd, 1) := by decide +kernel
theorem dX4_hourOf_96 : decode cX4_hourOf 96 = .ok (.ireturn, 1) := by decide +kernel
theorem dX4_spread_0 : decode cX4_spread 0 = .ok (.aload_n 0, 1) := by decide +kernel
theorem dX4_spread_1 : decode cX4_spread 1 = .ok (.getfield 9, 3) := by decide +kernel
theorem dX4_spread_4 : decode cX4_spread 4 = .ok (.lconst 0, 1) := by decide +kernel
theorem dX4_spread_5 : decode cX4_spread 5 = .ok (.invokestatic 43, 3) := by decide +kernel
theorem dX4_spread_8 : decode cX4_spread 8 = .ok (.aload_n 0, 1) := by decide +kernel
theorem dX4_spread_9 : decode cX4_spread 9 = .ok (.getfield 9, 3) := by decide +kernel
theorem dX4_spread_12 : decode cX4_spread 12 = .ok (.iconst 0, 1) := by decide +kernel
theorem dX4_spread_13 : decode cX4_spread 13 = .ok (.lconst 1, 1) := by decide +kernel
theorem dX4_spread_14 : decode cX4_spread 14 = .ok (.lastore, 1) := by decide +kernel
theorem dX4_spread_15 : decode cX4_spread 15 = .ok (.lconst 1, 1) := by decide +kernel
theorem dX4_spread_16 : decode cX4_spread 16 = .ok (.lstore 4, 2) := by decide +kernel
theorem dX4_spread_18 : decode cX4_spread 18 = .ok (.iconst 0, 1) := by decide +kernel
theorem dX4_spread_19 : decode cX4_spread 19 = .ok (.istore 6, 2) := by decide +kernel
theorem dX4_spread_21 : decode cX4_spread 21 = .ok (.iload 6, 2) := by decide +kernel
theorem dX4_spread_23 : decode cX4_spread 23 = .ok (.aload_n 0, 1) := by decide +kernel
theorem dX4_spread_24 : decode cX4_spread 24 = .ok (.getfield 15, 3) := by decide +kernel
theorem dX4_spread_27 : decode cX4_spread 27 = .ok (.getfield 49, 3) := by decide +kernel
theorem dX4_spread_30 : decode cX4_spread 30 = .ok (.iload_n 1, 1) := by decide +kernel
theorem dX4_spread_31 : decode cX4_spread 31 = .ok (.iaload, 1) := by decide +kernel
theorem dX4_spread_32 : decode cX4_spread 32 = .ok (.if_icmp .ge 97, 3) := by decide +kernel
theorem dX4_spread_35 : decode cX4_spread 35 = .ok (.aload_n 0, 1) := by decide +kernel
theorem dX4_spread_36 : decode cX4_spread 36 = .ok (.getfield 15, 3) := by decide +kernel
theorem dX4_spread_39 : decode cX4_spread 39 = .ok (.getfield 52, 3) := by decide +kernel
theorem dX4_spread_42 : decode cX4_spread 42 = .ok (.iload_n 1, 1) := by decide +kernel
theorem dX4_spread_43 : decode cX4_spread 43 = .ok (.iconst 5, 1) := by decide +kernel
theorem dX4_spread_44 : decode cX4_spread 44 = .ok (.imul, 1) := by decide +kernel
theorem dX4_spread_45 : decode cX4_spread 45 = .ok (.iload 6, 2) := by decide +kernel
theorem dX4_spread_47 : decode cX4_spread 47 = .ok (.iadd, 1) := by decide +kernel
theorem dX4_spread_48 : decode cX4_spread 48 = .ok (.iaload, 1) := by decide +kernel
theorem dX4_spread_49 : decode cX4_spread 49 = .ok (.istore 7, 2) := by decide +kernel
theorem dX4_spread_51 : decode cX4_spread 51 = .ok (.iload_n 3, 1) := by decide +kernel
theorem dX4_spread_52 : decode cX4_spread 52 = .ok (.istore 8, 2) := by decide +kernel
theorem dX4_spread_54 : decode cX4_spread 54 = .ok (.iload 8, 2) := by decide +kernel
theorem dX4_spread_56 : decode cX4_spread 56 = .ok (.ifCond .lt 59, 3) := by decide +kernel
theorem dX4_spread_59 : decode cX4_spread 59 = .ok (.iload 8, 2) := by decide +kernel
theorem dX4_spread_61 : decode cX4_spread 61 = .ok (.iload 7, 2) := by decide +kernel
theorem dX4_spread_63 : decode cX4_spread 63 = .ok (.if_icmp .lt 19, 3) := by decide +kernel
theorem dX4_spread_66 : decode cX4_spread 66 = .ok (.aload_n 0, 1) := by decide +kernel
theorem dX4_spread_67 : decode cX4_spread 67 = .ok (.getfield 9, 3) := by decide +kernel
theorem dX4_spread_70 : decode cX4_spread 70 = .ok (.iload 8, 2) := by decide +kernel
theorem dX4_spread_72 : decode cX4_spread 72 = .ok (.iload 7, 2) := by decide +kernel
theorem dX4_spread_74 : decode cX4_spread 74 = .ok (.isub, 1) := by decide +kernel
theorem dX4_spread_75 : decode cX4_spread 75 = .ok (.laload, 1) := by decide +kernel
theorem dX4_spread_76 : decode cX4_spread 76 = .ok (.iload_n 2, 1) := by decide +kernel
theorem dX4_spread_77 : decode cX4_spread 77 = .ok (.i2l, 1) := by decide +kernel
theorem dX4_spread_78 : decode cX4_spread 78 = .ok (.lmul, 1) := by decide +kernel
theorem dX4_spread_79 : decode cX4_spread 79 = .ok (.goto 4, 3) := by decide +kernel
theorem dX4_spread_82 : decode cX4_spread 82 = .ok (.lconst 0, 1) := by decide +kernel
theorem dX4_spread_83 : decode cX4_spread 83 = .ok (.lstore 9, 2) := by decide +kernel
theorem dX4_spread_85 : decode cX4_spread 85 = .ok (.aload_n 0, 1) := by decide +kernel
theorem dX4_spread_86 : decode cX4_spread 86 = .ok (.getfield 9, 3) := by decide +kernel
theorem dX4_spread_89 : decode cX4_spread 89 = .ok (.iload 8, 2) := by decide +kernel
theorem dX4_spread_91 : decode cX4_spread 91 = .ok (.aload_n 0, 1) := by decide +kernel
theorem dX4_spread_92 : decode cX4_spread 92 = .ok (.getfield 9, 3) := by decide +kernel
theorem dX4_spread_95 : decode cX4_spread 95 = .ok (.iload 8, 2) := by decide +kernel
theorem dX4_spread_97 : decode cX4_spread 97 = .ok (.laload, 1) := by decide +kernel
theorem dX4_spread_98 : decode cX4_spread 98 = .ok (.sipush 1000, 3) := by decide +kernel
theorem dX4_spread_101 : decode cX4_spread 101 = .ok (.iload_n 2, 1) := by decide +kernel
theorem dX4_spread_102 : decode cX4_spread 102 = .ok (.isub, 1) := by decide +kernel
theorem dX4_spread_103 : decode cX4_spread 103 = .ok (.i2l, 1) := by decide +kernel
theorem dX4_spread_104 : decode cX4_spread 104 = .ok (.lmul, 1) := by decide +kernel
theorem dX4_spread_105 : decode cX4_spread 105 = .ok (.lload 9, 2) := by decide +kernel
theorem dX4_spread_107 : decode cX4_spread 107 = .ok (.ladd, 1) := by decide +kernel
theorem dX4_spread_108 : decode cX4_spread 108 = .ok (.lastore, 1) := by decide +kernel
theorem dX4_spread_109 : decode cX4_spread 109 = .ok (.iinc 8 (-1), 3) := by decide +kernel
theorem dX4_spread_112 : decode cX4_spread 112 = .ok (.goto (-58), 3) := by decide +kernel
theorem dX4_spread_115 : decode cX4_spread 115 = .ok (.lload 4, 2) := by decide +kernel
theorem dX4_spread_117 : decode cX4_spread 117 = .ok (.ldc2_w 34, 3) := by decide +kernel
theorem dX4_spread_120 : decode cX4_spread 120 = .ok (.lmul, 1) := by decide +kernel
theorem dX4_spread_121 : decode cX4_spread 121 = .ok (.lstore 4, 2) := by decide +kernel
theorem dX4_spread_123 : decode cX4_spread 123 = .ok (.iinc 6 1, 3) := by decide +kernel
theorem dX4_spread_126 : decode cX4_spread 126 = .ok (.goto (-105), 3) := by decide +kernel
theorem dX4_spread_129 : decode cX4_spread 129 = .ok (.lload 4, 2) := by decide +kernel
theorem dX4_spread_131 : decode cX4_spread 131 = .ok (.lreturn, 1) := by decide +kernel
theorem dX5_init_0 : decode cX5_init 0 = .ok (.aload_n 0, 1) := by decide +kernel
theorem dX5_init_1 : decode cX5_init 1 = .ok (.invokespecial 3, 3) := by decide +kernel
theorem dX5_init_4 : decode cX5_init 4 = .ok (.aload_n 0, 1) := by decide +kernel
theorem dX5_init_5 : decode cX5_init 5 = .ok (.new 9, 3) := by decide +kernel
theorem dX5_init_8 : decode cX5_init 8 = .ok (.dup, 1) := by decide +kernel
theorem dX5_init_9 : decode cX5_init 9 = .ok (.invokespecial 11, 3) := by decide +kernel
theorem dX5_init_12 : decode cX5_init 12 = .ok (.putfield 12, 3) := by decide +kernel
theorem dX5_init_15 : decode cX5_init 15 = .ok (.aload_n 0, 1) := by decide +kernel
theorem dX5_init_16 : decode cX5_init 16 = .ok (.aload_n 1, 1) := by decide +kernel
theorem dX5_init_17 : decode cX5_init 17 = .ok (.putfield 18, 3) := by decide +kernel
theorem dX5_init_20 : decode cX5_init 20 = .ok (.return_, 1) := by decide +kernel
theorem dX5_sortByLength_0 : decode cX5_sortByLength 0 = .ok (.aload_n 0, 1) := by decide +kernel
theorem dX5_sortByLength_1 : decode cX5_sortByLength 1 = .ok (.getfield 12, 3) := by decide +kernel
theorem dX5_sortByLength_4 : decode cX5_sortByLength 4 = .ok (.invokevirtual 22, 3) := by decide +kernel
theorem dX5_sortByLength_7 : decode cX5_sortByLength 7 = .ok (.iconst 0, 1) := by decide +kernel
theorem dX5_sortByLength_8 : decode cX5_sortByLength 8 = .ok (.istore_n 1, 1) := by decide +kernel
theorem dX5_sortByLength_9 : decode cX5_sortByLength 9 = .ok (.iload_n 1, 1) := by decide +kernel
theorem dX5_sortByLength_10 : decode cX5_sortByLength 10 = .ok (.aload_n 0, 1) := by decide +kernel
theorem dX5_sortByLength_11 : decode cX5_sortByLength 11 = .ok (.getfield 18, 3) := by decide +kernel
theorem dX5_sortByLength_14 : decode cX5_sortByLength 14 = .ok (.getfield 25, 3) := by decide +kernel
theorem dX5_sortByLength_17 : decode cX5_sortByLength 17 = .ok (.if_icmp .ge 26, 3) := by decide +kernel
theorem dX5_sortByLength_20 : decode cX5_sortByLength 20 = .ok (.aload_n 0, 1) := by decide +kernel
theorem dX5_sortByLength_21 : decode cX5_sortByLength 21 = .ok (.getfield 12, 3) := by decide +kernel
theorem dX5_sortByLength_24 : decode cX5_sortByLength 24 = .ok (.iload_n 1, 1) := by decide +kernel
theorem dX5_sortByLength_25 : decode cX5_sortByLength 25 = .ok (.aload_n 0, 1) := by decide +kernel
theorem dX5_sortByLength_26 : decode cX5_sortByLength 26 = .ok (.getfield 18, 3) := by decide +kernel
theorem dX5_sortByLength_29 : decode cX5_sortByLength 29 = .ok (.iload_n 1, 1) := by decide +kernel
theorem dX5_sortByLength_30 : decode cX5_sortByLength 30 = .ok (.iconst 0, 1) := by decide +kernel
theorem dX5_sortByLength_31 : decode cX5_sortByLength 31 = .ok (.invokevirtual 31, 3) := by decide +kernel
theorem dX5_sortByLength_34 : decode cX5_sortByLength 34 = .ok (.invokevirtual 35, 3) := by decide +kernel
theorem dX5_sortByLength_37 : decode cX5_sortByLength 37 = .ok (.iinc 1 1, 3) := by decide +kernel
theorem dX5_sortByLength_40 : decode cX5_sortByLength 40 = .ok (.goto (-31), 3) := by decide +kernel
theorem dX5_sortByLength_43 : decode cX5_sortByLength 43 = .ok (.return_, 1) := by decide +kernel
theorem dX5_sortByDue_0 : decode cX5_sortByDue 0 = .ok (.aload_n 0, 1) := by decide +kernel
theorem dX5_sortByDue_1 : decode cX5_sortByDue 1 = .ok (.getfield 12, 3) := by decide +kernel
theorem dX5_sortByDue_4 : decode cX5_sortByDue 4 = .ok (.invokevirtual 22, 3) := by decide +kernel
theorem dX5_sortByDue_7 : decode cX5_sortByDue 7 = .ok (.iconst 0, 1) := by decide +kernel
theorem dX5_sortByDue_8 : decode cX5_sortByDue 8 = .ok (.istore_n 1, 1) := by decide +kernel
theorem dX5_sortByDue_9 : decode cX5_sortByDue 9 = .ok (.iload_n 1, 1) := by decide +kernel
theorem dX5_sortByDue_10 : decode cX5_sortByDue 10 = .ok (.aload_n 0, 1) := by decide +kernel
theorem dX5_sortByDue_11 : decode cX5_sortByDue 11 = .ok (.getfield 18, 3) := by decide +kernel
theorem dX5_sortByDue_14 : decode cX5_sortByDue 14 = .ok (.getfield 25, 3) := by decide +kernel
theorem dX5_sortByDue_17 : decode cX5_sortByDue 17 = .ok (.if_icmp .ge 26, 3) := by decide +kernel
theorem dX5_sortByDue_20 : decode cX5_sortByDue 20 = .ok (.aload_n 0, 1) := by decide +kernel
theorem dX5_sortByDue_21 : decode cX5_sortByDue 21 = .ok (.getfield 12, 3) := by decide +kernel
theorem dX5_sortByDue_24 : decode cX5_sortByDue 24 = .ok (.iload_n 1, 1) := by decide +kernel
theorem dX5_sortByDue_25 : decode cX5_sortByDue 25 = .ok (.aload_n 0, 1) := by decide +kernel
theorem dX5_sortByDue_26 : decode cX5_sortByDue 26 = .ok (.getfield 18, 3) := by decide +kernel
theorem dX5_sortByDue_29 : decode cX5_sortByDue 29 = .ok (.getfield 39, 3) := by decide +kernel
theorem dX5_sortByDue_32 : decode cX5_sortByDue 32 = .ok (.iload_n 1, 1) := by decide +kernel
theorem dX5_sortByDue_33 : decode cX5_sortByDue 33 = .ok (.iaload, 1) := by decide +kernel
theorem dX5_sortByDue_34 : decode cX5_sortByDue 34 = .ok (.invokevirtual 35, 3) := by decide +kernel
theorem dX5_sortByDue_37 : decode cX5_sortByDue 37 = .ok (.iinc 1 1, 3) := by decide +kernel
theorem dX5_sortByDue_40 : decode cX5_sortByDue 40 = .ok (.goto (-31), 3) := by decide +kernel
theorem dX5_sortByDue_43 : decode cX5_sortByDue 43 = .ok (.return_, 1) := by decide +kernel
theorem dX5_sumOfEnds_0 : decode cX5_sumOfEnds 0 = .ok (.aload_n 0, 1) := by decide +kernel
theorem dX5_sumOfEnds_1 : decode cX5_sumOfEnds 1 = .ok (.invokevirtual 43, 3) := by decide +kernel
theorem dX5_sumOfEnds_4 : decode cX5_sumOfEnds 4 = .ok (.iconst 0, 1) := by decide +kernel
theorem dX5_sumOfEnds_5 : decode cX5_sumOfEnds 5 = .ok (.istore_n 1, 1) := by decide +kernel
theorem dX5_sumOfEnds_6 : decode cX5_sumOfEnds 6 = .ok (.iconst 0, 1) := by decide +kernel
theorem dX5_sumOfEnds_7 : decode cX5_sumOfEnds 7 = .ok (.istore_n 2, 1) := by decide +kernel
theorem dX5_sumOfEnds_8 : decode cX5_sumOfEnds 8 = .ok (.iconst 0, 1) := by decide +kernel
theorem dX5_sumOfEnds_9 : decode cX5_sumOfEnds 9 = .ok (.istore_n 3, 1) := by decide +kernel
theorem dX5_sumOfEnds_10 : decode cX5_sumOfEnds 10 = .ok (.iload_n 3, 1) := by decide +kernel
theorem dX5_sumOfEnds_11 : decode cX5_sumOfEnds 11 = .ok (.aload_n 0, 1) := by decide +kernel
theorem dX5_sumOfEnds_12 : decode cX5_sumOfEnds 12 = .ok (.getfield 12, 3) := by decide +kernel
theorem dX5_sumOfEnds_15 : decode cX5_sumOfEnds 15 = .ok (.getfield 46, 3) := by decide +kernel
theorem dX5_sumOfEnds_18 : decode cX5_sumOfEnds 18 = .ok (.if_icmp .ge 33, 3) := by decide +kernel
theorem dX5_sumOfEnds_21 : decode cX5_sumOfEnds 21 = .ok (.iload_n 1, 1) := by decide +kernel
theorem dX5_sumOfEnds_22 : decode cX5_sumOfEnds 22 = .ok (.aload_n 0, 1) := by decide +kernel
theorem dX5_sumOfEnds_23 : decode cX5_sumOfEnds 23 = .ok (.getfield 18, 3) := by decide +kernel
theorem dX5_sumOfEnds_26 : decode cX5_sumOfEnds 26 = .ok (.aload_n 0, 1) := by decide +kernel
theorem dX5_sumOfEnds_27 : decode cX5_sumOfEnds 27 = .ok (.getfield 12, 3) := by decide +kernel
theorem dX5_sumOfEnds_30 : decode cX5_sumOfEnds 30 = .ok (.getfield 49, 3) := by decide +kernel
theorem dX5_sumOfEnds_33 : decode cX5_sumOfEnds 33 = .ok (.iload_n 3, 1) := by decide +kernel
theorem dX5_sumOfEnds_34 : decode cX5_sumOfEnds 34 = .ok (.iaload, 1) := by decide +kernel
theorem dX5_sumOfEnds_35 : decode cX5_sumOfEnds 35 = .ok (.iconst 0, 1) := by decide +kernel
theorem dX5_sumOfEnds_36 : decode cX5_sumOfEnds 36 = .ok (.invokevirtual 31, 3) := by decide +kernel
theorem dX5_sumOfEnds_39 : decode cX5_sumOfEnds 39 = .ok (.iadd, 1) := by decide +kernel
theorem dX5_sumOfEnds_40 : decode cX5_sumOfEnds 40 = .ok (.istore_n 1, 1) := by decide +kernel
theorem dX5_sumOfEnds_41 : decode cX5_sumOfEnds 41 = .ok (.iload_n 2, 1) := by decide +kernel
theorem dX5_sumOfEnds_42 : decode cX5_sumOfEnds 42 = .ok (.iload_n 1, 1) := by decide +kernel
theorem dX5_sumOfEnds_43 : decode cX5_sumOfEnds 43 = .ok (.iadd, 1) := by decide +kernel
theorem dX5_sumOfEnds_44 : decode cX5_sumOfEnds 44 = .ok (.istore_n 2, 1) := by decide +kernel
theorem dX5_sumOfEnds_45 : decode cX5_sumOfEnds 45 = .ok (.iinc 3 1, 3) := by decide +kernel
theorem dX5_sumOfEnds_48 : decode cX5_sumOfEnds 48 = .ok (.goto (-38), 3) := by decide +kernel
theorem dX5_sumOfEnds_51 : decode cX5_sumOfEnds 51 = .ok (.iload_n 2, 1) := by decide +kernel
theorem dX5_sumOfEnds_52 : decode cX5_sumOfEnds 52 = .ok (.ireturn, 1) := by decide +kernel
theorem dX5_greatestLateness_0 : decode cX5_greatestLateness 0 = .ok (.aload_n 0, 1) := by decide +kernel
theorem dX5_greatestLateness_1 : decode cX5_greatestLateness 1 = .ok (.invokevirtual 51, 3) := by decide +kernel
theorem dX5_greatestLateness_4 : decode cX5_greatestLateness 4 = .ok (.iconst 0, 1) := by decide +kernel
theorem dX5_greatestLateness_5 : decode cX5_greatestLateness 5 = .ok (.istore_n 1, 1) := by decide +kernel
theorem dX5_greatestLateness_6 : decode cX5_greatestLateness 6 = .ok (.iconst 0, 1) := by decide +kernel
theorem dX5_greatestLateness_7 : decode cX5_greatestLateness 7 = .ok (.istore_n 2, 1) := by decide +kernel
theorem dX5_greatestLateness_8 : decode cX5_greatestLateness 8 = .ok (.iconst 0, 1) := by decide +kernel
theorem dX5_greatestLateness_9 : decode cX5_greatestLateness 9 = .ok (.istore_n 3, 1) := by decide +kernel
theorem dX5_greatestLateness_10 : decode cX5_greatestLateness 10 = .ok (.iload_n 3, 1) := by decide +kernel
theorem dX5_greatestLateness_11 : decode cX5_greatestLateness 11 = .ok (.aload_n 0, 1) := by decide +kernel
theorem dX5_greatestLateness_12 : decode cX5_greatestLateness 12 = .ok (.getfield 12, 3) := by decide +kernel
theorem dX5_greatestLateness_15 : decode cX5_greatestLateness 15 = .ok (.getfield 46, 3) := by decide +kernel
theorem dX5_greatestLateness_18 : decode cX5_greatestLateness 18 = .ok (.if_icmp .ge 63, 3) := by decide +kernel
theorem dX5_greatestLateness_21 : decode cX5_greatestLateness 21 = .ok (.aload_n 0, 1) := by decide +kernel
theorem dX5_greatestLateness_22 : decode cX5_greatestLateness 22 = .ok (.getfield 12, 3) := by decide +kernel
theorem dX5_greatestLateness_25 : decode cX5_greatestLateness 25 = .ok (.getfield 49, 3) := by decide +kernel
theorem dX5_greatestLateness_28 : decode cX5_greatestLateness 28 = .ok (.iload_n 3, 1) := by decide +kernel
theorem dX5_greatestLateness_29 : decode cX5_greatestLateness 29 = .ok (.iaload, 1) := by decide +kernel
theorem dX5_greatestLateness_30 : decode cX5_greatestLateness 30 = .ok (.istore 4, 2) := by decide +kernel
theorem dX5_greatestLateness_32 : decode cX5_greatestLateness 32 = .ok (.iload_n 1, 1) := by decide +kernel
theorem dX5_greatestLateness_33 : decode cX5_greatestLateness 33 = .ok (.aload_n 0, 1) := by decide +kernel
theorem dX5_greatestLateness_34 : decode cX5_greatestLateness 34 = .ok (.getfield 18, 3) := by decide +kernel
theorem dX5_greatestLateness_37 : decode cX5_greatestLateness 37 = .ok (.iload 4, 2) := by decide +kernel
theorem dX5_greatestLateness_39 : decode cX5_greatestLateness 39 = .ok (.iconst 0, 1) := by decide +kernel
theorem dX5_greatestLateness_40 : decode cX5_greatestLateness 40 = .ok (.invokevirtual 31, 3) := by decide +kernel
theorem dX5_greatestLateness_43 : decode cX5_greatestLateness 43 = .ok (.iadd, 1) := by decide +kernel
theorem dX5_greatestLateness_44 : decode cX5_greatestLateness 44 = .ok (.istore_n 1, 1) := by decide +kernel
theorem dX5_greatestLateness_45 : decode cX5_greatestLateness 45 = .ok (.iload_n 1, 1) := by decide +kernel
theorem dX5_greatestLateness_46 : decode cX5_greatestLateness 46 = .ok (.aload_n 0, 1) := by decide +kernel
theorem dX5_greatestLateness_47 : decode cX5_greatestLateness 47 = .ok (.getfield 18, 3) := by decide +kernel
theorem dX5_greatestLateness_50 : decode cX5_greatestLateness 50 = .ok (.getfield 39, 3) := by decide +kernel
theorem dX5_greatestLateness_53 : decode cX5_greatestLateness 53 = .ok (.iload 4, 2) := by decide +kernel
theorem dX5_greatestLateness_55 : decode cX5_greatestLateness 55 = .ok (.iaload, 1) := by decide +kernel
theorem dX5_greatestLateness_56 : decode cX5_greatestLateness 56 = .ok (.isub, 1) := by decide +kernel
theorem dX5_greatestLateness_57 : decode cX5_greatestLateness 57 = .ok (.istore 5, 2) := by decide +kernel
theorem dX5_greatestLateness_59 : decode cX5_greatestLateness 59 = .ok (.iload_n 3, 1) := by decide +kernel
theorem dX5_greatestLateness_60 : decode cX5_greatestLateness 60 = .ok (.ifCond .ne 8, 3) := by decide +kernel
theorem dX5_greatestLateness_63 : decode cX5_greatestLateness 63 = .ok (.iload 5, 2) := by decide +kernel
theorem dX5_greatestLateness_65 : decode cX5_greatestLateness 65 = .ok (.goto 9, 3) := by decide +kernel
theorem dX5_greatestLateness_68 : decode cX5_greatestLateness 68 = .ok (.iload_n 2, 1) := by decide +kernel
theorem dX5_greatestLateness_69 : decode cX5_greatestLateness 69 = .ok (.iload 5, 2) := by decide +kernel
theorem dX5_greatestLateness_71 : decode cX5_greatestLateness 71 = .ok (.invokestatic 54, 3) := by decide +kernel
theorem dX5_greatestLateness_74 : decode cX5_greatestLateness 74 = .ok (.istore_n 2, 1) := by decide +kernel
theorem dX5_greatestLateness_75 : decode cX5_greatestLateness 75 = .ok (.iinc 3 1, 3) := by decide +kernel
theorem dX5_greatestLateness_78 : decode cX5_greatestLateness 78 = .ok (.goto (-68), 3) := by decide +kernel
theorem dX5_greatestLateness_81 : decode cX5_greatestLateness 81 = .ok (.iload_n 2, 1) := by decide +kernel
theorem dX5_greatestLateness_82 : decode cX5_greatestLateness 82 = .ok (.ireturn, 1) := by decide +kernel
theorem dX5_droppedJobs_0 : decode cX5_droppedJobs 0 = .ok (.aload_n 0, 1) := by decide +kernel
theorem dX5_droppedJobs_1 : decode cX5_droppedJobs 1 = .ok (.invokevirtual 51, 3) := by decide +kernel
theorem dX5_droppedJobs_4 : decode cX5_droppedJobs 4 = .ok (.iconst 0, 1) := by decide +kernel
theorem dX5_droppedJobs_5 : decode cX5_droppedJobs 5 = .ok (.istore_n 1, 1) := by decide +kernel
theorem dX5_droppedJobs_6 : decode cX5_droppedJobs 6 = .ok (.iconst 0, 1) := by decide +kernel
theorem dX5_droppedJobs_7 : decode cX5_droppedJobs 7 = .ok (.istore_n 2, 1) := by decide +kernel
theorem dX5_droppedJobs_8 : decode cX5_droppedJobs 8 = .ok (.iconst 0, 1) := by decide +kernel
theorem dX5_droppedJobs_9 : decode cX5_droppedJobs 9 = .ok (.istore_n 3, 1) := by decide +kernel
theorem dX5_droppedJobs_10 : decode cX5_droppedJobs 10 = .ok (.iconst 0, 1) := by decide +kernel
theorem dX5_droppedJobs_11 : decode cX5_droppedJobs 11 = .ok (.istore 4, 2) := by decide +kernel
theorem dX5_droppedJobs_13 : decode cX5_droppedJobs 13 = .ok (.iload 4, 2) := by decide +kernel
theorem dX5_droppedJobs_15 : decode cX5_droppedJobs 15 = .ok (.aload_n 0, 1) := by decide +kernel
theorem dX5_droppedJobs_16 : decode cX5_droppedJobs 16 = .ok (.getfield 12, 3) := by decide +kernel
theorem dX5_droppedJobs_19 : decode cX5_droppedJobs 19 = .ok (.getfield 46, 3) := by decide +kernel
theorem dX5_droppedJobs_22 : decode cX5_droppedJobs 22 = .ok (.if_icmp .ge 91, 3) := by decide +kernel
theorem dX5_droppedJobs_25 : decode cX5_droppedJobs 25 = .ok (.aload_n 0, 1) := by decide +kernel
theorem dX5_droppedJobs_26 : decode cX5_droppedJobs 26 = .ok (.getfield 12, 3) := by decide +kernel
theorem dX5_droppedJobs_29 : decode cX5_droppedJobs 29 = .ok (.getfield 49, 3) := by decide +kernel
theorem dX5_droppedJobs_32 : decode cX5_droppedJobs 32 = .ok (.iload 4, 2) := by decide +kernel
theorem dX5_droppedJobs_34 : decode cX5_droppedJobs 34 = .ok (.iaload, 1) := by decide +kernel
theorem dX5_droppedJobs_35 : decode cX5_droppedJobs 35 = .ok (.istore 5, 2) := by decide +kernel
theorem dX5_droppedJobs_37 : decode cX5_droppedJobs 37 = .ok (.iload_n 2, 1) := by decide +kernel
theorem dX5_droppedJobs_38 : decode cX5_droppedJobs 38 = .ok (.iconst 1, 1) := by decide +kernel
theorem dX5_droppedJobs_39 : decode cX5_droppedJobs 39 = .ok (.iload 5, 2) := by decide +kernel
theorem dX5_droppedJobs_41 : decode cX5_droppedJobs 41 = .ok (.ishl, 1) := by decide +kernel
theorem dX5_droppedJobs_42 : decode cX5_droppedJobs 42 = .ok (.ior, 1) := by decide +kernel
theorem dX5_droppedJobs_43 : decode cX5_droppedJobs 43 = .ok (.istore_n 2, 1) := by decide +kernel
theorem dX5_droppedJobs_44 : decode cX5_droppedJobs 44 = .ok (.iload_n 1, 1) := by decide +kernel
theorem dX5_droppedJobs_45 : decode cX5_droppedJobs 45 = .ok (.aload_n 0, 1) := by decide +kernel
theorem dX5_droppedJobs_46 : decode cX5_droppedJobs 46 = .ok (.getfield 18, 3) := by decide +kernel
theorem dX5_droppedJobs_49 : decode cX5_droppedJobs 49 = .ok (.iload 5, 2) := by decide +kernel
theorem dX5_droppedJobs_51 : decode cX5_droppedJobs 51 = .ok (.iconst 0, 1) := by decide +kernel
theorem dX5_droppedJobs_52 : decode cX5_droppedJobs 52 = .ok (.invokevirtual 31, 3) := by decide +kernel
theorem dX5_droppedJobs_55 : decode cX5_droppedJobs 55 = .ok (.iadd, 1) := by decide +kernel
theorem dX5_droppedJobs_56 : decode cX5_droppedJobs 56 = .ok (.istore_n 1, 1) := by decide +kernel
theorem dX5_droppedJobs_57 : decode cX5_droppedJobs 57 = .ok (.iload_n 1, 1) := by decide +kernel
theorem dX5_droppedJobs_58 : decode cX5_droppedJobs 58 = .ok (.aload_n 0, 1) := by decide +kernel
theorem dX5_droppedJobs_59 : decode cX5_droppedJobs 59 = .ok (.getfield 18, 3) := by decide +kernel
theorem dX5_droppedJobs_62 : decode cX5_droppedJobs 62 = .ok (.getfield 39, 3) := by decide +kernel
theorem dX5_droppedJobs_65 : decode cX5_droppedJobs 65 = .ok (.iload 5, 2) := by decide +kernel
theorem dX5_droppedJobs_67 : decode cX5_droppedJobs 67 = .ok (.iaload, 1) := by decide +kernel
theorem dX5_droppedJobs_68 : decode cX5_droppedJobs 68 = .ok (.if_icmp .le 39, 3) := by decide +kernel
theorem dX5_droppedJobs_71 : decode cX5_droppedJobs 71 = .ok (.aload_n 0, 1) := by decide +kernel
theorem dX5_droppedJobs_72 : decode cX5_droppedJobs 72 = .ok (.iload_n 2, 1) := by decide +kernel
theorem dX5_droppedJobs_73 : decode cX5_droppedJobs 73 = .ok (.invokevirtual 59, 3) := by decide +kernel
theorem dX5_droppedJobs_76 : decode cX5_droppedJobs 76 = .ok (.istore 6, 2) := by decide +kernel
theorem dX5_droppedJobs_78 : decode cX5_droppedJobs 78 = .ok (.iload_n 2, 1) := by decide +kernel
theorem dX5_droppedJobs_79 : decode cX5_droppedJobs 79 = .ok (.iconst 1, 1) := by decide +kernel
theorem dX5_droppedJobs_80 : decode cX5_droppedJobs 80 = .ok (.iload 6, 2) := by decide +kernel
theorem dX5_droppedJobs_82 : decode cX5_droppedJobs 82 = .ok (.ishl, 1) := by decide +kernel
theorem dX5_droppedJobs_83 : decode cX5_droppedJobs 83 = .ok (.iconst (-1), 1) := by decide +kernel
theorem dX5_droppedJobs_84 : decode cX5_droppedJobs 84 = .ok (.ixor, 1) := by decide +kernel
theorem dX5_droppedJobs_85 : decode cX5_droppedJobs 85 = .ok (.iand, 1) := by decide +kernel
theorem dX5_droppedJobs_86 : decode cX5_droppedJobs 86 = .ok (.istore_n 2, 1) := by decide +kernel
theorem dX5_droppedJobs_87 : decode cX5_droppedJobs 87 = .ok (.iload_n 3, 1) := by decide +kernel
theorem dX5_droppedJobs_88 : decode cX5_droppedJobs 88 = .ok (.iconst 1, 1) := by decide +kernel
theorem dX5_droppedJobs_89 : decode cX5_droppedJobs 89 = .ok (.iload 6, 2) := by decide +kernel
theorem dX5_droppedJobs_91 : decode cX5_droppedJobs 91 = .ok (.ishl, 1) := by decide +kernel
theorem dX5_droppedJobs_92 : decode cX5_droppedJobs 92 = .ok (.ior, 1) := by decide +kernel
theorem dX5_droppedJobs_93 : decode cX5_droppedJobs 93 = .ok (.istore_n 3, 1) := by decide +kernel
theorem dX5_droppedJobs_94 : decode cX5_droppedJobs 94 = .ok (.iload_n 1, 1) := by decide +kernel
theorem dX5_droppedJobs_95 : decode cX5_droppedJobs 95 = .ok (.aload_n 0, 1) := by decide +kernel
theorem dX5_droppedJobs_96 : decode cX5_droppedJobs 96 = .ok (.getfield 18, 3) := by decide +kernel
theorem dX5_droppedJobs_99 : decode cX5_droppedJobs 99 = .ok (.iload 6, 2) := by decide +kernel
theorem dX5_droppedJobs_101 : decode cX5_droppedJobs 101 = .ok (.iconst 0, 1) := by decide +kernel
theorem dX5_droppedJobs_102 : decode cX5_droppedJobs 102 = .ok (.invokevirtual 31, 3) := by decide +kernel
theorem dX5_droppedJobs_105 : decode cX5_droppedJobs 105 = .ok (.isub, 1) := by decide +kernel
theorem dX5_droppedJobs_106 : decode cX5_droppedJobs 106 = .ok (.istore_n 1, 1) := by decide +kernel
theorem dX5_droppedJobs_107 : decode cX5_droppedJobs 107 = .ok (.iinc 4 1, 3) := by decide +kernel
theorem dX5_droppedJobs_110 : decode cX5_droppedJobs 110 = .ok (.goto (-97), 3) := by decide +kernel
theorem dX5_droppedJobs_113 : decode cX5_droppedJobs 113 = .ok (.iload_n 3, 1) := by decide +kernel
theorem dX5_droppedJobs_114 : decode cX5_droppedJobs 114 = .ok (.ireturn, 1) := by decide +kernel
theorem dX5_longestOf_0 : decode cX5_longestOf 0 = .ok (.iconst 0, 1) := by decide +kernel
theorem dX5_longestOf_1 : decode cX5_longestOf 1 = .ok (.istore_n 2, 1) := by decide +kernel
theorem dX5_longestOf_2 : decode cX5_longestOf 2 = .ok (.iconst (-1), 1) := by decide +kernel
theorem dX5_longestOf_3 : decode cX5_longestOf 3 = .ok (.istore_n 3, 1) := by decide +kernel
theorem dX5_longestOf_4 : decode cX5_longestOf 4 = .ok (.iconst 0, 1) := by decide +kernel
theorem dX5_longestOf_5 : decode cX5_longestOf 5 = .ok (.istore 4, 2) := by decide +kernel
theorem dX5_longestOf_7 : decode cX5_longestOf 7 = .ok (.iload 4, 2) := by decide +kernel
theorem dX5_longestOf_9 : decode cX5_longestOf 9 = .ok (.aload_n 0, 1) := by decide +kernel
theorem dX5_longestOf_10 : decode cX5_longestOf 10 = .ok (.getfield 18, 3) := by decide +kernel
theorem dX5_longestOf_13 : decode cX5_longestOf 13 = .ok (.getfield 25, 3) := by decide +kernel
theorem dX5_longestOf_16 : decode cX5_longestOf 16 = .ok (.if_icmp .ge 42, 3) := by decide +kernel
theorem dX5_longestOf_19 : decode cX5_longestOf 19 = .ok (.aload_n 0, 1) := by decide +kernel
theorem dX5_longestOf_20 : decode cX5_longestOf 20 = .ok (.getfield 18, 3) := by decide +kernel
theorem dX5_longestOf_23 : decode cX5_longestOf 23 = .ok (.iload 4, 2) := by decide +kernel
theorem dX5_longestOf_25 : decode cX5_longestOf 25 = .ok (.iconst 0, 1) := by decide +kernel
theorem dX5_longestOf_26 : decode cX5_longestOf 26 = .ok (.invokevirtual 31, 3) := by decide +kernel
theorem dX5_longestOf_29 : decode cX5_longestOf 29 = .ok (.istore 5, 2) := by decide +kernel
theorem dX5_longestOf_31 : decode cX5_longestOf 31 = .ok (.iload_n 1, 1) := by decide +kernel
theorem dX5_longestOf_32 : decode cX5_longestOf 32 = .ok (.iconst 1, 1) := by decide +kernel
theorem dX5_longestOf_33 : decode cX5_longestOf 33 = .ok (.iload 4, 2) := by decide +kernel
theorem dX5_longestOf_35 : decode cX5_longestOf 35 = .ok (.ishl, 1) := by decide +kernel
theorem dX5_longestOf_36 : decode cX5_longestOf 36 = .ok (.iand, 1) := by decide +kernel
theorem dX5_longestOf_37 : decode cX5_longestOf 37 = .ok (.ifCond .eq 15, 3) := by decide +kernel
theorem dX5_longestOf_40 : decode cX5_longestOf 40 = .ok (.iload 5, 2) := by decide +kernel
theorem dX5_longestOf_42 : decode cX5_longestOf 42 = .ok (.iload_n 3, 1) := by decide +kernel
theorem dX5_longestOf_43 : decode cX5_longestOf 43 = .ok (.if_icmp .lt 9, 3) := by decide +kernel
theorem dX5_longestOf_46 : decode cX5_longestOf 46 = .ok (.iload 4, 2) := by decide +kernel
theorem dX5_longestOf_48 : decode cX5_longestOf 48 = .ok (.istore_n 2, 1) := by decide +kernel
theorem dX5_longestOf_49 : decode cX5_longestOf 49 = .ok (.iload 5, 2) := by decide +kernel
theorem dX5_longestOf_51 : decode cX5_longestOf 51 = .ok (.istore_n 3, 1) := by decide +kernel
theorem dX5_longestOf_52 : decode cX5_longestOf 52 = .ok (.iinc 4 1, 3) := by decide +kernel
theorem dX5_longestOf_55 : decode cX5_longestOf 55 = .ok (.goto (-48), 3) := by decide +kernel
theorem dX5_longestOf_58 : decode cX5_longestOf 58 = .ok (.iload_n 2, 1) := by decide +kernel
theorem dX5_longestOf_59 : decode cX5_longestOf 59 = .ok (.ireturn, 1) := by decide +kernel
theorem dX5_hoursOfStep_0 : decode cX5_hoursOfStep 0 = .ok (.iload_n 2, 1) := by decide +kernel
theorem dX5_hoursOfStep_1 : decode cX5_hoursOfStep 1 = .ok (.aload_n 0, 1) := by decide +kernel
theorem dX5_hoursOfStep_2 : decode cX5_hoursOfStep 2 = .ok (.getfield 18, 3) := by decide +kernel
theorem dX5_hoursOfStep_5 : decode cX5_hoursOfStep 5 = .ok (.getfield 63, 3) := by decide +kernel
theorem dX5_hoursOfStep_8 : decode cX5_hoursOfStep 8 = .ok (.iload_n 1, 1) := by decide +kernel
theorem dX5_hoursOfStep_9 : decode cX5_hoursOfStep 9 = .ok (.iaload, 1) := by decide +kernel
theorem dX5_hoursOfStep_10 : decode cX5_hoursOfStep 10 = .ok (.if_icmp .ge 19, 3) := by decide +kernel
theorem dX5_hoursOfStep_13 : decode cX5_hoursOfStep 13 = .ok (.aload_n 0, 1) := by decide +kernel
theorem dX5_hoursOfStep_14 : decode cX5_hoursOfStep 14 = .ok (.getfield 18, 3) := by decide +kernel
theorem dX5_hoursOfStep_17 : decode cX5_hoursOfStep 17 = .ok (.getfield 66, 3) := by decide +kernel
theorem dX5_hoursOfStep_20 : decode cX5_hoursOfStep 20 = .ok (.iload_n 1, 1) := by decide +kernel
theorem dX5_hoursOfStep_21 : decode cX5_hoursOfStep 21 = .ok (.iconst 5, 1) := by decide +kernel
theorem dX5_hoursOfStep_22 : decode cX5_hoursOfStep 22 = .ok (.imul, 1) := by decide +kernel
theorem dX5_hoursOfStep_23 : decode cX5_hoursOfStep 23 = .ok (.iload_n 2, 1) := by decide +kernel
theorem dX5_hoursOfStep_24 : decode cX5_hoursOfStep 24 = .ok (.iadd, 1) := by decide +kernel
theorem dX5_hoursOfStep_25 : decode cX5_hoursOfStep 25 = .ok (.iaload, 1) := by decide +kernel
theorem dX5_hoursOfStep_26 : decode cX5_hoursOfStep 26 = .ok (.goto 4, 3) := by decide +kernel
theorem dX5_hoursOfStep_29 : decode cX5_hoursOfStep 29 = .ok (.iconst 0, 1) := by decide +kernel
theorem dX5_hoursOfStep_30 : decode cX5_hoursOfStep 30 = .ok (.ireturn, 1) := by decide +kernel
theorem dX5_sortForTwo_0 : decode cX5_sortForTwo 0 = .ok (.aload_n 0, 1) := by decide +kernel
theorem dX5_sortForTwo_1 : decode cX5_sortForTwo 1 = .ok (.getfield 12, 3) := by decide +kernel
theorem dX5_sortForTwo_4 : decode cX5_sortForTwo 4 = .ok (.invokevirtual 22, 3) := by decide +kernel
theorem dX5_sortForTwo_7 : decode cX5_sortForTwo 7 = .ok (.iconst 0, 1) := by decide +kernel
theorem dX5_sortForTwo_8 : decode cX5_sortForTwo 8 = .ok (.istore_n 1, 1) := by decide +kernel
theorem dX5_sortForTwo_9 : decode cX5_sortForTwo 9 = .ok (.iload_n 1, 1) := by decide +kernel
theorem dX5_sortForTwo_10 : decode cX5_sortForTwo 10 = .ok (.aload_n 0, 1) := by decide +kernel
theorem dX5_sortForTwo_11 : decode cX5_sortForTwo 11 = .ok (.getfield 18, 3) := by decide +kernel
theorem dX5_sortForTwo_14 : decode cX5_sortForTwo 14 = .ok (.getfield 25, 3) := by decide +kernel
theorem dX5_sortForTwo_17 : decode cX5_sortForTwo 17 = .ok (.if_icmp .ge 44, 3) := by decide +kernel
theorem dX5_sortForTwo_20 : decode cX5_sortForTwo 20 = .ok (.aload_n 0, 1) := by decide +kernel
theorem dX5_sortForTwo_21 : decode cX5_sortForTwo 21 = .ok (.iload_n 1, 1) := by decide +kernel
theorem dX5_sortForTwo_22 : decode cX5_sortForTwo 22 = .ok (.iconst 0, 1) := by decide +kernel
theorem dX5_sortForTwo_23 : decode cX5_sortForTwo 23 = .ok (.invokevirtual 69, 3) := by decide +kernel
theorem dX5_sortForTwo_26 : decode cX5_sortForTwo 26 = .ok (.istore_n 2, 1) := by decide +kernel
theorem dX5_sortForTwo_27 : decode cX5_sortForTwo 27 = .ok (.aload_n 0, 1) := by decide +kernel
theorem dX5_sortForTwo_28 : decode cX5_sortForTwo 28 = .ok (.iload_n 1, 1) := by decide +kernel
theorem dX5_sortForTwo_29 : decode cX5_sortForTwo 29 = .ok (.iconst 1, 1) := by decide +kernel
theorem dX5_sortForTwo_30 : decode cX5_sortForTwo 30 = .ok (.invokevirtual 69, 3) := by decide +kernel
theorem dX5_sortForTwo_33 : decode cX5_sortForTwo 33 = .ok (.istore_n 3, 1) := by decide +kernel
theorem dX5_sortForTwo_34 : decode cX5_sortForTwo 34 = .ok (.aload_n 0, 1) := by decide +kernel
theorem dX5_sortForTwo_35 : decode cX5_sortForTwo 35 = .ok (.getfield 12, 3) := by decide +kernel
theorem dX5_sortForTwo_38 : decode cX5_sortForTwo 38 = .ok (.iload_n 1, 1) := by decide +kernel
theorem dX5_sortForTwo_39 : decode cX5_sortForTwo 39 = .ok (.iload_n 2, 1) := by decide +kernel
theorem dX5_sortForTwo_40 : decode cX5_sortForTwo 40 = .ok (.iload_n 3, 1) := by decide +kernel
theorem dX5_sortForTwo_41 : decode cX5_sortForTwo 41 = .ok (.if_icmp .ge 7, 3) := by decide +kernel
theorem dX5_sortForTwo_44 : decode cX5_sortForTwo 44 = .ok (.iload_n 2, 1) := by decide +kernel
theorem dX5_sortForTwo_45 : decode cX5_sortForTwo 45 = .ok (.goto 7, 3) := by decide +kernel
theorem dX5_sortForTwo_48 : decode cX5_sortForTwo 48 = .ok (.bipush 101, 2) := by decide +kernel
theorem dX5_sortForTwo_50 : decode cX5_sortForTwo 50 = .ok (.iload_n 3, 1) := by decide +kernel
theorem dX5_sortForTwo_51 : decode cX5_sortForTwo 51 = .ok (.isub, 1) := by decide +kernel
theorem dX5_sortForTwo_52 : decode cX5_sortForTwo 52 = .ok (.invokevirtual 35, 3) := by decide +kernel
theorem dX5_sortForTwo_55 : decode cX5_sortForTwo 55 = .ok (.iinc 1 1, 3) := by decide +kernel
theorem dX5_sortForTwo_58 : decode cX5_sortForTwo 58 = .ok (.goto (-49), 3) := by decide +kernel
theorem dX5_sortForTwo_61 : decode cX5_sortForTwo 61 = .ok (.return_, 1) := by decide +kernel
theorem dX5_endOnTwo_0 : decode cX5_endOnTwo 0 = .ok (.aload_n 0, 1) := by decide +kernel
theorem dX5_endOnTwo_1 : decode cX5_endOnTwo 1 = .ok (.invokevirtual 72, 3) := by decide +kernel
theorem dX5_endOnTwo_4 : decode cX5_endOnTwo 4 = .ok (.iconst 0, 1) := by decide +kernel
theorem dX5_endOnTwo_5 : decode cX5_endOnTwo 5 = .ok (.istore_n 1, 1) := by decide +kernel
theorem dX5_endOnTwo_6 : decode cX5_endOnTwo 6 = .ok (.iconst 0, 1) := by decide +kernel
theorem dX5_endOnTwo_7 : decode cX5_endOnTwo 7 = .ok (.istore_n 2, 1) := by decide +kernel
theorem dX5_endOnTwo_8 : decode cX5_endOnTwo 8 = .ok (.iconst 0, 1) := by decide +kernel
theorem dX5_endOnTwo_9 : decode cX5_endOnTwo 9 = .ok (.istore_n 3, 1) := by decide +kernel
theorem dX5_endOnTwo_10 : decode cX5_endOnTwo 10 = .ok (.iload_n 3, 1) := by decide +kernel
theorem dX5_endOnTwo_11 : decode cX5_endOnTwo 11 = .ok (.aload_n 0, 1) := by decide +kernel
theorem dX5_endOnTwo_12 : decode cX5_endOnTwo 12 = .ok (.getfield 12, 3) := by decide +kernel
theorem dX5_endOnTwo_15 : decode cX5_endOnTwo 15 = .ok (.getfield 46, 3) := by decide +kernel
theorem dX5_endOnTwo_18 : decode cX5_endOnTwo 18 = .ok (.if_icmp .ge 47, 3) := by decide +kernel
theorem dX5_endOnTwo_21 : decode cX5_endOnTwo 21 = .ok (.iload_n 1, 1) := by decide +kernel
theorem dX5_endOnTwo_22 : decode cX5_endOnTwo 22 = .ok (.aload_n 0, 1) := by decide +kernel
theorem dX5_endOnTwo_23 : decode cX5_endOnTwo 23 = .ok (.aload_n 0, 1) := by decide +kernel
theorem dX5_endOnTwo_24 : decode cX5_endOnTwo 24 = .ok (.getfield 12, 3) := by decide +kernel
theorem dX5_endOnTwo_27 : decode cX5_endOnTwo 27 = .ok (.getfield 49, 3) := by decide +kernel
theorem dX5_endOnTwo_30 : decode cX5_endOnTwo 30 = .ok (.iload_n 3, 1) := by decide +kernel
theorem dX5_endOnTwo_31 : decode cX5_endOnTwo 31 = .ok (.iaload, 1) := by decide +kernel
theorem dX5_endOnTwo_32 : decode cX5_endOnTwo 32 = .ok (.iconst 0, 1) := by decide +kernel
theorem dX5_endOnTwo_33 : decode cX5_endOnTwo 33 = .ok (.invokevirtual 69, 3) := by decide +kernel
theorem dX5_endOnTwo_36 : decode cX5_endOnTwo 36 = .ok (.iadd, 1) := by decide +kernel
theorem dX5_endOnTwo_37 : decode cX5_endOnTwo 37 = .ok (.istore_n 1, 1) := by decide +kernel
theorem dX5_endOnTwo_38 : decode cX5_endOnTwo 38 = .ok (.iload_n 1, 1) := by decide +kernel
theorem dX5_endOnTwo_39 : decode cX5_endOnTwo 39 = .ok (.iload_n 2, 1) := by decide +kernel
theorem dX5_endOnTwo_40 : decode cX5_endOnTwo 40 = .ok (.invokestatic 54, 3) := by decide +kernel
theorem dX5_endOnTwo_43 : decode cX5_endOnTwo 43 = .ok (.aload_n 0, 1) := by decide +kernel
theorem dX5_endOnTwo_44 : decode cX5_endOnTwo 44 = .ok (.aload_n 0, 1) := by decide +kernel
theorem dX5_endOnTwo_45 : decode cX5_endOnTwo 45 = .ok (.getfield 12, 3) := by decide +kernel
theorem dX5_endOnTwo_48 : decode cX5_endOnTwo 48 = .ok (.getfield 49, 3) := by decide +kernel
theorem dX5_endOnTwo_51 : decode cX5_endOnTwo 51 = .ok (.iload_n 3, 1) := by decide +kernel
theorem dX5_endOnTwo_52 : decode cX5_endOnTwo 52 = .ok (.iaload, 1) := by decide +kernel
theorem dX5_endOnTwo_53 : decode cX5_endOnTwo 53 = .ok (.iconst 1, 1) := by decide +kernel
theorem dX5_endOnTwo_54 : decode cX5_endOnTwo 54 = .ok (.invokevirtual 69, 3) := by decide +kernel
theorem dX5_endOnTwo_57 : decode cX5_endOnTwo 57 = .ok (.iadd, 1) := by decide +kernel
theorem dX5_endOnTwo_58 : decode cX5_endOnTwo 58 = .ok (.istore_n 2, 1) := by decide +kernel
theorem dX5_endOnTwo_59 : decode cX5_endOnTwo 59 = .ok (.iinc 3 1, 3) := by decide +kernel
theorem dX5_endOnTwo_62 : decode cX5_endOnTwo 62 = .ok (.goto (-52), 3) := by decide +kernel
theorem dX5_endOnTwo_65 : decode cX5_endOnTwo 65 = .ok (.iload_n 2, 1) := by decide +kernel
theorem dX5_endOnTwo_66 : decode cX5_endOnTwo 66 = .ok (.ireturn, 1) := by decide +kernel
theorem dX5_jobOnTwo_0 : decode cX5_jobOnTwo 0 = .ok (.aload_n 0, 1) := by decide +kernel
theorem dX5_jobOnTwo_1 : decode cX5_jobOnTwo 1 = .ok (.invokevirtual 72, 3) := by decide +kernel
theorem dX5_jobOnTwo_4 : decode cX5_jobOnTwo 4 = .ok (.iload_n 1, 1) := by decide +kernel
theorem dX5_jobOnTwo_5 : decode cX5_jobOnTwo 5 = .ok (.ifCond .lt 26, 3) := by decide +kernel
theorem dX5_jobOnTwo_8 : decode cX5_jobOnTwo 8 = .ok (.iload_n 1, 1) := by decide +kernel
theorem dX5_jobOnTwo_9 : decode cX5_jobOnTwo 9 = .ok (.aload_n 0, 1) := by decide +kernel
theorem dX5_jobOnTwo_10 : decode cX5_jobOnTwo 10 = .ok (.getfield 12, 3) := by decide +kernel
theorem dX5_jobOnTwo_13 : decode cX5_jobOnTwo 13 = .ok (.getfield 46, 3) := by decide +kernel
theorem dX5_jobOnTwo_16 : decode cX5_jobOnTwo 16 = .ok (.if_icmp .ge 15, 3) := by decide +kernel
theorem dX5_jobOnTwo_19 : decode cX5_jobOnTwo 19 = .ok (.aload_n 0, 1) := by decide +kernel
theorem dX5_jobOnTwo_20 : decode cX5_jobOnTwo 20 = .ok (.getfield 12, 3) := by decide +kernel
theorem dX5_jobOnTwo_23 : decode cX5_jobOnTwo 23 = .ok (.getfield 49, 3) := by decide +kernel
theorem dX5_jobOnTwo_26 : decode cX5_jobOnTwo 26 = .ok (.iload_n 1, 1) := by decide +kernel
theorem dX5_jobOnTwo_27 : decode cX5_jobOnTwo 27 = .ok (.iaload, 1) := by decide +kernel
theorem dX5_jobOnTwo_28 : decode cX5_jobOnTwo 28 = .ok (.goto 4, 3) := by decide +kernel
theorem dX5_jobOnTwo_31 : decode cX5_jobOnTwo 31 = .ok (.iconst (-1), 1) := by decide +kernel
theorem dX5_jobOnTwo_32 : decode cX5_jobOnTwo 32 = .ok (.ireturn, 1) := by decide +kernel
theorem dX6_init_0 : decode cX6_init 0 = .ok (.aload_n 0, 1) := by decide +kernel
theorem dX6_init_1 : decode cX6_init 1 = .ok (.invokespecial 3, 3) := by decide +kernel
theorem dX6_init_4 : decode cX6_init 4 = .ok (.aload_n 0, 1) := by decide +kernel
theorem dX6_init_5 : decode cX6_init 5 = .ok (.bipush 6, 2) := by decide +kernel
theorem dX6_init_7 : decode cX6_init 7 = .ok (.newarray .int, 2) := by decide +kernel
theorem dX6_init_9 : decode cX6_init 9 = .ok (.putfield 9, 3) := by decide +kernel
theorem dX6_init_12 : decode cX6_init 12 = .ok (.aload_n 0, 1) := by decide +kernel
theorem dX6_init_13 : decode cX6_init 13 = .ok (.bipush 6, 2) := by decide +kernel
theorem dX6_init_15 : decode cX6_init 15 = .ok (.newarray .int, 2) := by decide +kernel
theorem dX6_init_17 : decode cX6_init 17 = .ok (.putfield 15, 3) := by decide +kernel
theorem dX6_init_20 : decode cX6_init 20 = .ok (.aload_n 0, 1) := by decide +kernel
theorem dX6_init_21 : decode cX6_init 21 = .ok (.aload_n 1, 1) := by decide +kernel
theorem dX6_init_22 : decode cX6_init 22 = .ok (.putfield 18, 3) := by decide +kernel
theorem dX6_init_25 : decode cX6_init 25 = .ok (.return_, 1) := by decide +kernel
theorem dX6_search_0 : decode cX6_search 0 = .ok (.aload_n 0, 1) := by decide +kernel
theorem dX6_search_1 : decode cX6_search 1 = .ok (.iconst 0, 1) := by decide +kernel
theorem dX6_search_2 : decode cX6_search 2 = .ok (.putfield 22, 3) := by decide +kernel
theorem dX6_search_5 : decode cX6_search 5 = .ok (.aload_n 0, 1) := by decide +kernel
theorem dX6_search_6 : decode cX6_search 6 = .ok (.iconst 0, 1) := by decide +kernel
theorem dX6_search_7 : decode cX6_search 7 = .ok (.putfield 26, 3) := by decide +kernel
theorem dX6_search_10 : decode cX6_search 10 = .ok (.aload_n 0, 1) := by decide +kernel
theorem dX6_search_11 : decode cX6_search 11 = .ok (.iconst 0, 1) := by decide +kernel
theorem dX6_search_12 : decode cX6_search 12 = .ok (.iconst 0, 1) := by decide +kernel
theorem dX6_search_13 : decode cX6_search 13 = .ok (.iconst 0, 1) := by decide +kernel
theorem dX6_search_14 : decode cX6_search 14 = .ok (.invokevirtual 30, 3) := by decide +kernel
theorem dX6_search_17 : decode cX6_search 17 = .ok (.return_, 1) := by decide +kernel
theorem dX6_explore_0 : decode cX6_explore 0 = .ok (.aload_n 0, 1) := by decide +kernel
theorem dX6_explore_1 : decode cX6_explore 1 = .ok (.getfield 26, 3) := by decide +kernel
theorem dX6_explore_4 : decode cX6_explore 4 = .ok (.ifCond .eq 12, 3) := by decide +kernel
theorem dX6_explore_7 : decode cX6_explore 7 = .ok (.iload_n 3, 1) := by decide +kernel
theorem dX6_explore_8 : decode cX6_explore 8 = .ok (.aload_n 0, 1) := by decide +kernel
theorem dX6_explore_9 : decode cX6_explore 9 = .ok (.getfield 22, 3) := by decide +kernel
theorem dX6_explore_12 : decode cX6_explore 12 = .ok (.if_icmp .lt 4, 3) := by decide +kernel
theorem dX6_explore_15 : decode cX6_explore 15 = .ok (.return_, 1) := by decide +kernel
theorem dX6_explore_16 : decode cX6_explore 16 = .ok (.iload_n 1, 1) := by decide +kernel
theorem dX6_explore_17 : decode cX6_explore 17 = .ok (.aload_n 0, 1) := by decide +kernel
theorem dX6_explore_18 : decode cX6_explore 18 = .ok (.getfield 18, 3) := by decide +kernel
theorem dX6_explore_21 : decode cX6_explore 21 = .ok (.getfield 34, 3) := by decide +kernel
theorem dX6_explore_24 : decode cX6_explore 24 = .ok (.if_icmp .lt 32, 3) := by decide +kernel
theorem dX6_explore_27 : decode cX6_explore 27 = .ok (.aload_n 0, 1) := by decide +kernel
theorem dX6_explore_28 : decode cX6_explore 28 = .ok (.iconst 1, 1) := by decide +kernel
theorem dX6_explore_29 : decode cX6_explore 29 = .ok (.putfield 26, 3) := by decide +kernel
theorem dX6_explore_32 : decode cX6_explore 32 = .ok (.aload_n 0, 1) := by decide +kernel
theorem dX6_explore_33 : decode cX6_explore 33 = .ok (.iload_n 3, 1) := by decide +kernel
theorem dX6_explore_34 : decode cX6_explore 34 = .ok (.putfield 22, 3) := by decide +kernel
theorem dX6_explore_37 : decode cX6_explore 37 = .ok (.aload_n 0, 1) := by decide +kernel
theorem dX6_explore_38 : decode cX6_explore 38 = .ok (.getfield 9, 3) := by decide +kernel
theorem dX6_explore_41 : decode cX6_explore 41 = .ok (.iconst 0, 1) := by decide +kernel
theorem dX6_explore_42 : decode cX6_explore 42 = .ok (.aload_n 0, 1) := by decide +kernel
theorem dX6_explore_43 : decode cX6_explore 43 = .ok (.getfield 15, 3) := by decide +kernel
theorem dX6_explore_46 : decode cX6_explore 46 = .ok (.iconst 0, 1) := by decide +kernel
theorem dX6_explore_47 : decode cX6_explore 47 = .ok (.aload_n 0, 1) := by decide +kernel
theorem dX6_explore_48 : decode cX6_explore 48 = .ok (.getfield 9, 3) := by decide +kernel
theorem dX6_explore_51 : decode cX6_explore 51 = .ok (.arraylength, 1) := by decide +kernel
theorem dX6_explore_52 : decode cX6_explore 52 = .ok (.invokestatic 39, 3) := by decide +kernel
theorem dX6_explore_55 : decode cX6_explore 55 = .ok (.return_, 1) := by decide +kernel
theorem dX6_explore_56 : decode cX6_explore 56 = .ok (.iconst 0, 1) := by decide +kernel
theorem dX6_explore_57 : decode cX6_explore 57 = .ok (.istore 4, 2) := by decide +kernel
theorem dX6_explore_59 : decode cX6_explore 59 = .ok (.iload 4, 2) := by decide +kernel
theorem dX6_explore_61 : decode cX6_explore 61 = .ok (.aload_n 0, 1) := by decide +kernel
theorem dX6_explore_62 : decode cX6_explore 62 = .ok (.getfield 18, 3) := by decide +kernel
theorem dX6_explore_65 : decode cX6_explore 65 = .ok (.getfield 34, 3) := by decide +kernel
theorem dX6_explore_68 : decode cX6_explore 68 = .ok (.if_icmp .ge 48, 3) := by decide +kernel
theorem dX6_explore_71 : decode cX6_explore 71 = .ok (.iload_n 2, 1) := by decide +kernel
theorem dX6_explore_72 : decode cX6_explore 72 = .ok (.iconst 1, 1) := by decide +kernel
theorem dX6_explore_73 : decode cX6_explore 73 = .ok (.iload 4, 2) := by decide +kernel
theorem dX6_explore_75 : decode cX6_explore 75 = .ok (.ishl, 1) := by decide +kernel
theorem dX6_explore_76 : decode cX6_explore 76 = .ok (.iand, 1) := by decide +kernel
theorem dX6_explore_77 : decode cX6_explore 77 = .ok (.ifCond .ne 33, 3) := by decide +kernel
theorem dX6_explore_80 : decode cX6_explore 80 = .ok (.aload_n 0, 1) := by decide +kernel
theorem dX6_explore_81 : decode cX6_explore 81 = .ok (.getfield 9, 3) := by decide +kernel
theorem dX6_explore_84 : decode cX6_explore 84 = .ok (.iload_n 1, 1) := by decide +kernel
theorem dX6_explore_85 : decode cX6_explore 85 = .ok (.iload 4, 2) := by decide +kernel
theorem dX6_explore_87 : decode cX6_explore 87 = .ok (.iastore, 1) := by decide +kernel
theorem dX6_explore_88 : decode cX6_explore 88 = .ok (.aload_n 0, 1) := by decide +kernel
theorem dX6_explore_89 : decode cX6_explore 89 = .ok (.iload_n 1, 1) := by decide +kernel
theorem dX6_explore_90 : decode cX6_explore 90 = .ok (.iconst 1, 1) := by decide +kernel
theorem dX6_explore_91 : decode cX6_explore 91 = .ok (.iadd, 1) := by decide +kernel
theorem dX6_explore_92 : decode cX6_explore 92 = .ok (.iload_n 2, 1) := by decide +kernel
theorem dX6_explore_93 : decode cX6_explore 93 = .ok (.iconst 1, 1) := by decide +kernel
theorem dX6_explore_94 : decode cX6_explore 94 = .ok (.iload 4, 2) := by decide +kernel
theorem dX6_explore_96 : decode cX6_explore 96 = .ok (.ishl, 1) := by decide +kernel
theorem dX6_explore_97 : decode cX6_explore 97 = .ok (.ior, 1) := by decide +kernel
theorem dX6_explore_98 : decode cX6_explore 98 = .ok (.iload_n 3, 1) := by decide +kernel
theorem dX6_explore_99 : decode cX6_explore 99 = .ok (.aload_n 0, 1) := by decide +kernel
theorem dX6_explore_100 : decode cX6_explore 100 = .ok (.iload_n 1, 1) := by decide +kernel
theorem dX6_explore_101 : decode cX6_explore 101 = .ok (.iload 4, 2) := by decide +kernel
theorem dX6_explore_103 : decode cX6_explore 103 = .ok (.invokevirtual 45, 3) := by decide +kernel
theorem dX6_explore_106 : decode cX6_explore 106 = .ok (.iadd, 1) := by decide +kernel
theorem dX6_explore_107 : decode cX6_explore 107 = .ok (.invokevirtual 30, 3) := by decide +kernel
theorem dX6_explore_110 : decode cX6_explore 110 = .ok (.iinc 4 1, 3) := by decide +kernel
theorem dX6_explore_113 : decode cX6_explore 113 = .ok (.goto (-54), 3) := by decide +kernel
theorem dX6_explore_116 : decode cX6_explore 116 = .ok (.return_, 1) := by decide +kernel
theorem dX6_hoursBehind_0 : decode cX6_hoursBehind 0 = .ok (.iload_n 1, 1) := by decide +kernel
theorem dX6_hoursBehind_1 : decode cX6_hoursBehind 1 = .ok (.ifCond .ne 7, 3) := by decide +kernel
theorem dX6_hoursBehind_4 : decode cX6_hoursBehind 4 = .ok (.iconst 0, 1) := by decide +kernel
theorem dX6_hoursBehind_5 : decode cX6_hoursBehind 5 = .ok (.goto 39, 3) := by decide +kernel
theorem dX6_hoursBehind_8 : decode cX6_hoursBehind 8 = .ok (.aload_n 0, 1) := by decide +kernel
theorem dX6_hoursBehind_9 : decode cX6_hoursBehind 9 = .ok (.getfield 18, 3) := by decide +kernel
theorem dX6_hoursBehind_12 : decode cX6_hoursBehind 12 = .ok (.getfield 49, 3) := by decide +kernel
theorem dX6_hoursBehind_15 : decode cX6_hoursBehind 15 = .ok (.aload_n 0, 1) := by decide +kernel
theorem dX6_hoursBehind_16 : decode cX6_hoursBehind 16 = .ok (.getfield 18, 3) := by decide +kernel
theorem dX6_hoursBehind_19 : decode cX6_hoursBehind 19 = .ok (.getfield 52, 3) := by decide +kernel
theorem dX6_hoursBehind_22 : decode cX6_hoursBehind 22 = .ok (.aload_n 0, 1) := by decide +kernel
theorem dX6_hoursBehind_23 : decode cX6_hoursBehind 23 = .ok (.getfield 9, 3) := by decide +kernel
theorem dX6_hoursBehind_26 : decode cX6_hoursBehind 26 = .ok (.iload_n 1, 1) := by decide +kernel
theorem dX6_hoursBehind_27 : decode cX6_hoursBehind 27 = .ok (.iconst 1, 1) := by decide +kernel
theorem dX6_hoursBehind_28 : decode cX6_hoursBehind 28 = .ok (.isub, 1) := by decide +kernel
theorem dX6_hoursBehind_29 : decode cX6_hoursBehind 29 = .ok (.iaload, 1) := by decide +kernel
theorem dX6_hoursBehind_30 : decode cX6_hoursBehind 30 = .ok (.iaload, 1) := by decide +kernel
theorem dX6_hoursBehind_31 : decode cX6_hoursBehind 31 = .ok (.iconst 4, 1) := by decide +kernel
theorem dX6_hoursBehind_32 : decode cX6_hoursBehind 32 = .ok (.imul, 1) := by decide +kernel
theorem dX6_hoursBehind_33 : decode cX6_hoursBehind 33 = .ok (.aload_n 0, 1) := by decide +kernel
theorem dX6_hoursBehind_34 : decode cX6_hoursBehind 34 = .ok (.getfield 18, 3) := by decide +kernel
theorem dX6_hoursBehind_37 : decode cX6_hoursBehind 37 = .ok (.getfield 52, 3) := by decide +kernel
theorem dX6_hoursBehind_40 : decode cX6_hoursBehind 40 = .ok (.iload_n 2, 1) := by decide +kernel
theorem dX6_hoursBehind_41 : decode cX6_hoursBehind 41 = .ok (.iaload, 1) := by decide +kernel
theorem dX6_hoursBehind_42 : decode cX6_hoursBehind 42 = .ok (.iadd, 1) := by decide +kernel
theorem dX6_hoursBehind_43 : decode cX6_hoursBehind 43 = .ok (.iaload, 1) := by decide +kernel
theorem dX6_hoursBehind_44 : decode cX6_hoursBehind 44 = .ok (.ireturn, 1) := by decide +kernel
theorem dX7_init_0 : decode cX7_init 0 = .ok (.aload_n 0, 1) := by decide +kernel
theorem dX7_init_1 : decode cX7_init 1 = .ok (.invokespecial 3, 3) := by decide +kernel
theorem dX7_init_4 : decode cX7_init 4 = .ok (.aload_n 0, 1) := by decide +kernel
theorem dX7_init_5 : decode cX7_init 5 = .ok (.bipush 6, 2) := by decide +kernel
theorem dX7_init_7 : decode cX7_init 7 = .ok (.newarray .int, 2) := by decide +kernel
theorem dX7_init_9 : decode cX7_init 9 = .ok (.putfield 9, 3) := by decide +kernel
theorem dX7_init_12 : decode cX7_init 12 = .ok (.aload_n 0, 1) := by decide +kernel
theorem dX7_init_13 : decode cX7_init 13 = .ok (.bipush 6, 2) := by decide +kernel
theorem dX7_init_15 : decode cX7_init 15 = .ok (.newarray .int, 2) := by decide +kernel
theorem dX7_init_17 : decode cX7_init 17 = .ok (.putfield 15, 3) := by decide +kernel
theorem dX7_init_20 : decode cX7_init 20 = .ok (.aload_n 0, 1) := by decide +kernel
theorem dX7_init_21 : decode cX7_init 21 = .ok (.bipush 6, 2) := by decide +kernel
theorem dX7_init_23 : decode cX7_init 23 = .ok (.newarray .int, 2) := by decide +kernel
theorem dX7_init_25 : decode cX7_init 25 = .ok (.putfield 18, 3) := by decide +kernel
theorem dX7_init_28 : decode cX7_init 28 = .ok (.aload_n 0, 1) := by decide +kernel
theorem dX7_init_29 : decode cX7_init 29 = .ok (.bipush 6, 2) := by decide +kernel
theorem dX7_init_31 : decode cX7_init 31 = .ok (.newarray .int, 2) := by decide +kernel
theorem dX7_init_33 : decode cX7_init 33 = .ok (.putfield 21, 3) := by decide +kernel
theorem dX7_init_36 : decode cX7_init 36 = .ok (.aload_n 0, 1) := by decide +kernel
theorem dX7_init_37 : decode cX7_init 37 = .ok (.bipush 6, 2) := by decide +kernel
theorem dX7_init_39 : decode cX7_init 39 = .ok (.newarray .int, 2) := by decide +kernel
theorem dX7_init_41 : decode cX7_init 41 = .ok (.putfield 24, 3) := by decide +kernel
theorem dX7_init_44 : decode cX7_init 44 = .ok (.aload_n 0, 1) := by decide +kernel
theorem dX7_init_45 : decode cX7_init 45 = .ok (.bipush 30, 2) := by decide +kernel
theorem dX7_init_47 : decode cX7_init 47 = .ok (.newarray .int, 2) := by decide +kernel
theorem dX7_init_49 : decode cX7_init 49 = .ok (.putfield 27, 3) := by decide +kernel
theorem dX7_init_52 : decode cX7_init 52 = .ok (.aload_n 0, 1) := by decide +kernel
theorem dX7_init_53 : decode cX7_init 53 = .ok (.bipush 30, 2) := by decide +kernel
theorem dX7_init_55 : decode cX7_init 55 = .ok (.newarray .int, 2) := by decide +kernel
theorem dX7_init_57 : decode cX7_init 57 = .ok (.putfield 30, 3) := by decide +kernel
theorem dX7_init_60 : decode cX7_init 60 = .ok (.aload_n 0, 1) := by decide +kernel
theorem dX7_init_61 : decode cX7_init 61 = .ok (.iconst 4, 1) := by decide +kernel
theorem dX7_init_62 : decode cX7_init 62 = .ok (.newarray .int, 2) := by decide +kernel
theorem dX7_init_64 : decode cX7_init 64 = .ok (.putfield 33, 3) := by decide +kernel
theorem dX7_init_67 : decode cX7_init 67 = .ok (.aload_n 0, 1) := by decide +kernel
theorem dX7_init_68 : decode cX7_init 68 = .ok (.bipush 16, 2) := by decide +kernel
theorem dX7_init_70 : decode cX7_init 70 = .ok (.newarray .int, 2) := by decide +kernel
theorem dX7_init_72 : decode cX7_init 72 = .ok (.putfield 36, 3) := by decide +kernel
theorem dX7_init_75 : decode cX7_init 75 = .ok (.aload_n 0, 1) := by decide +kernel
theorem dX7_init_76 : decode cX7_init 76 = .ok (.bipush 16, 2) := by decide +kernel
theorem dX7_init_78 : decode cX7_init 78 = .ok (.newarray .int, 2) := by decide +kernel
theorem dX7_init_80 : decode cX7_init 80 = .ok (.putfield 39, 3) := by decide +kernel
theorem dX7_init_83 : decode cX7_init 83 = .ok (.aload_n 0, 1) := by decide +kernel
theorem dX7_init_84 : decode cX7_init 84 = .ok (.iconst 4, 1) := by decide +kernel
theorem dX7_init_85 : decode cX7_init 85 = .ok (.newarray .int, 2) := by decide +kernel
theorem dX7_init_87 : decode cX7_init 87 = .ok (.putfield 42, 3) := by decide +kernel
theorem dX7_init_90 : decode cX7_init 90 = .ok (.aload_n 0, 1) := by decide +kernel
theorem dX7_init_91 : decode cX7_init 91 = .ok (.iconst 4, 1) := by decide +kernel
theorem dX7_init_92 : decode cX7_init 92 = .ok (.newarray .int, 2) := by decide +kernel
theorem dX7_init_94 : decode cX7_init 94 = .ok (.putfield 45, 3) := by decide +kernel
theorem dX7_init_97 : decode cX7_init 97 = .ok (.aload_n 0, 1) := by decide +kernel
theorem dX7_init_98 : decode cX7_init 98 = .ok (.bipush 16, 2) := by decide +kernel
theorem dX7_init_100 : decode cX7_init 100 = .ok (.newarray .int, 2) := by decide +kernel
theorem dX7_init_102 : decode cX7_init 102 = .ok (.putfield 48, 3) := by decide +kernel
theorem dX7_init_105 : decode cX7_init 105 = .ok (.aload_n 0, 1) := by decide +kernel
theorem dX7_init_106 : decode cX7_init 106 = .ok (.bipush 6, 2) := by decide +kernel
theorem dX7_init_108 : decode cX7_init 108 = .ok (.newarray .int, 2) := by decide +kernel
theorem dX7_init_110 : decode cX7_init 110 = .ok (.putfield 51, 3) := by decide +kernel
theorem dX7_init_113 : decode cX7_init 113 = .ok (.aload_n 0, 1) := by decide +kernel
theorem dX7_init_114 : decode cX7_init 114 = .ok (.bipush 30, 2) := by decide +kernel
theorem dX7_init_116 : decode cX7_init 116 = .ok (.newarray .int, 2) := by decide +kernel
theorem dX7_init_118 : decode cX7_init 118 = .ok (.putfield 54, 3) := by decide +kernel
theorem dX7_init_121 : decode cX7_init 121 = .ok (.return_, 1) := by decide +kernel
theorem dX7_copyFrom_0 : decode cX7_copyFrom 0 = .ok (.aload_n 0, 1) := by decide +kernel
theorem dX7_copyFrom_1 : decode cX7_copyFrom 1 = .ok (.aload_n 1, 1) := by decide +kernel
theorem dX7_copyFrom_2 : decode cX7_copyFrom 2 = .ok (.getfield 57, 3) := by decide +kernel
theorem dX7_copyFrom_5 : decode cX7_copyFrom 5 = .ok (.putfield 57, 3) := by decide +kernel
theorem dX7_copyFrom_8 : decode cX7_copyFrom 8 = .ok (.aload_n 1, 1) := by decide +kernel
theorem dX7_copyFrom_9 : decode cX7_copyFrom 9 = .ok (.getfield 9, 3) := by decide +kernel
theorem dX7_copyFrom_12 : decode cX7_copyFrom 12 = .ok (.aload_n 0, 1) := by decide +kernel
theorem dX7_copyFrom_13 : decode cX7_copyFrom 13 = .ok (.getfield 9, 3) := by decide +kernel
theorem dX7_copyFrom_16 : decode cX7_copyFrom 16 = .ok (.invokestatic 61, 3) := by decide +kernel
theorem dX7_copyFrom_19 : decode cX7_copyFrom 19 = .ok (.aload_n 1, 1) := by decide +kernel
theorem dX7_copyFrom_20 : decode cX7_copyFrom 20 = .ok (.getfield 15, 3) := by decide +kernel
theorem dX7_copyFrom_23 : decode cX7_copyFrom 23 = .ok (.aload_n 0, 1) := by decide +kernel
theorem dX7_copyFrom_24 : decode cX7_copyFrom 24 = .ok (.getfield 15, 3) := by decide +kernel
theorem dX7_copyFrom_27 : decode cX7_copyFrom 27 = .ok (.invokestatic 61, 3) := by decide +kernel
theorem dX7_copyFrom_30 : decode cX7_copyFrom 30 = .ok (.aload_n 1, 1) := by decide +kernel
theorem dX7_copyFrom_31 : decode cX7_copyFrom 31 = .ok (.getfield 18, 3) := by decide +kernel
theorem dX7_copyFrom_34 : decode cX7_copyFrom 34 = .ok (.aload_n 0, 1) := by decide +kernel
theorem dX7_copyFrom_35 : decode cX7_copyFrom 35 = .ok (.getfield 18, 3) := by decide +kernel
theorem dX7_copyFrom_38 : decode cX7_copyFrom 38 = .ok (.invokestatic 61, 3) := by decide +kernel
theorem dX7_copyFrom_41 : decode cX7_copyFrom 41 = .ok (.aload_n 1, 1) := by decide +kernel
theorem dX7_copyFrom_42 : decode cX7_copyFrom 42 = .ok (.getfield 21, 3) := by decide +kernel
theorem dX7_copyFrom_45 : decode cX7_copyFrom 45 = .ok (.aload_n 0, 1) := by decide +kernel
theorem dX7_copyFrom_46 : decode cX7_copyFrom 46 = .ok (.getfield 21, 3) := by decide +kernel
theorem dX7_copyFrom_49 : decode cX7_copyFrom 49 = .ok (.invokestatic 61, 3) := by decide +kernel
theorem dX7_copyFrom_52 : decode cX7_copyFrom 52 = .ok (.aload_n 1, 1) := by decide +kernel
theorem dX7_copyFrom_53 : decode cX7_copyFrom 53 = .ok (.getfield 24, 3) := by decide +kernel
theorem dX7_copyFrom_56 : decode cX7_copyFrom 56 = .ok (.aload_n 0, 1) := by decide +kernel
theorem dX7_copyFrom_57 : decode cX7_copyFrom 57 = .ok (.getfield 24, 3) := by decide +kernel
theorem dX7_copyFrom_60 : decode cX7_copyFrom 60 = .ok (.invokestatic 61, 3) := by decide +kernel
theorem dX7_copyFrom_63 : decode cX7_copyFrom 63 = .ok (.aload_n 1, 1) := by decide +kernel
theorem dX7_copyFrom_64 : decode cX7_copyFrom 64 = .ok (.getfield 27, 3) := by decide +kernel
theorem dX7_copyFrom_67 : decode cX7_copyFrom 67 = .ok (.aload_n 0, 1) := by decide +kernel
theorem dX7_copyFrom_68 : decode cX7_copyFrom 68 = .ok (.getfield 27, 3) := by decide +kernel
theorem dX7_copyFrom_71 : decode cX7_copyFrom 71 = .ok (.invokestatic 61, 3) := by decide +kernel
theorem dX7_copyFrom_74 : decode cX7_copyFrom 74 = .ok (.aload_n 1, 1) := by decide +kernel
theorem dX7_copyFrom_75 : decode cX7_copyFrom 75 = .ok (.getfield 30, 3) := by decide +kernel
theorem dX7_copyFrom_78 : decode cX7_copyFrom 78 = .ok (.aload_n 0, 1) := by decide +kernel
theorem dX7_copyFrom_79 : decode cX7_copyFrom 79 = .ok (.getfield 30, 3) := by decide +kernel
theorem dX7_copyFrom_82 : decode cX7_copyFrom 82 = .ok (.invokestatic 61, 3) := by decide +kernel
theorem dX7_copyFrom_85 : decode cX7_copyFrom 85 = .ok (.aload_n 1, 1) := by decide +kernel
theorem dX7_copyFrom_86 : decode cX7_copyFrom 86 = .ok (.getfield 33, 3) := by decide +kernel
theorem dX7_copyFrom_89 : decode cX7_copyFrom 89 = .ok (.aload_n 0, 1) := by decide +kernel
theorem dX7_copyFrom_90 : decode cX7_copyFrom 90 = .ok (.getfield 33, 3) := by decide +kernel
theorem dX7_copyFrom_93 : decode cX7_copyFrom 93 = .ok (.invokestatic 61, 3) := by decide +kernel
theorem dX7_copyFrom_96 : decode cX7_copyFrom 96 = .ok (.aload_n 1, 1) := by decide +kernel
theorem dX7_copyFrom_97 : decode cX7_copyFrom 97 = .ok (.getfield 36, 3) := by decide +kernel
theorem dX7_copyFrom_100 : decode cX7_copyFrom 100 = .ok (.aload_n 0, 1) := by decide +kernel
theorem dX7_copyFrom_101 : decode cX7_copyFrom 101 = .ok (.getfield 36, 3) := by decide +kernel
theorem dX7_copyFrom_104 : decode cX7_copyFrom 104 = .ok (.invokestatic 61, 3) := by decide +kernel
theorem dX7_copyFrom_107 : decode cX7_copyFrom 107 = .ok (.aload_n 1, 1) := by decide +kernel
theorem dX7_copyFrom_108 : decode cX7_copyFrom 108 = .ok (.getfield 39, 3) := by decide +kernel
theorem dX7_copyFrom_111 : decode cX7_copyFrom 111 = .ok (.aload_n 0, 1) := by decide +kernel
theorem dX7_copyFrom_112 : decode cX7_copyFrom 112 = .ok (.getfield 39, 3) := by decide +kernel
theorem dX7_copyFrom_115 : decode cX7_copyFrom 115 = .ok (.invokestatic 61, 3) := by decide +kernel
theorem dX7_copyFrom_118 : decode cX7_copyFrom 118 = .ok (.aload_n 1, 1) := by decide +kernel
theorem dX7_copyFrom_119 : decode cX7_copyFrom 119 = .ok (.getfield 42, 3) := by decide +kernel
theorem dX7_copyFrom_122 : decode cX7_copyFrom 122 = .ok (.aload_n 0, 1) := by decide +kernel
theorem dX7_copyFrom_123 : decode cX7_copyFrom 123 = .ok (.getfield 42, 3) := by decide +kernel
theorem dX7_copyFrom_126 : decode cX7_copyFrom 126 = .ok (.invokestatic 61, 3) := by decide +kernel
theorem dX7_copyFrom_129 : decode cX7_copyFrom 129 = .ok (.aload_n 1, 1) := by decide +kernel
theorem dX7_copyFrom_130 : decode cX7_copyFrom 130 = .ok (.getfield 45, 3) := by decide +kernel
theorem dX7_copyFrom_133 : decode cX7_copyFrom 133 = .ok (.aload_n 0, 1) := by decide +kernel
theorem dX7_copyFrom_134 : decode cX7_copyFrom 134 = .ok (.getfield 45, 3) := by decide +kernel
theorem dX7_copyFrom_137 : decode cX7_copyFrom 137 = .ok (.invokestatic 61, 3) := by decide +kernel
theorem dX7_copyFrom_140 : decode cX7_copyFrom 140 = .ok (.aload_n 1, 1) := by decide +kernel
theorem dX7_copyFrom_141 : decode cX7_copyFrom 141 = .ok (.getfield 48, 3) := by decide +kernel
theorem dX7_copyFrom_144 : decode cX7_copyFrom 144 = .ok (.aload_n 0, 1) := by decide +kernel
theorem dX7_copyFrom_145 : decode cX7_copyFrom 145 = .ok (.getfield 48, 3) := by decide +kernel
theorem dX7_copyFrom_148 : decode cX7_copyFrom 148 = .ok (.invokestatic 61, 3) := by decide +kernel
theorem dX7_copyFrom_151 : decode cX7_copyFrom 151 = .ok (.aload_n 1, 1) := by decide +kernel
theorem dX7_copyFrom_152 : decode cX7_copyFrom 152 = .ok (.getfield 51, 3) := by decide +kernel
theorem dX7_copyFrom_155 : decode cX7_copyFrom 155 = .ok (.aload_n 0, 1) := by decide +kernel
theorem dX7_copyFrom_156 : decode cX7_copyFrom 156 = .ok (.getfield 51, 3) := by decide +kernel
theorem dX7_copyFrom_159 : decode cX7_copyFrom 159 = .ok (.invokestatic 61, 3) := by decide +kernel
theorem dX7_copyFrom_162 : decode cX7_copyFrom 162 = .ok (.aload_n 0, 1) := by decide +kernel
theorem dX7_copyFrom_163 : decode cX7_copyFrom 163 = .ok (.aload_n 1, 1) := by decide +kernel
theorem dX7_copyFrom_164 : decode cX7_copyFrom 164 = .ok (.getfield 65, 3) := by decide +kernel
theorem dX7_copyFrom_167 : decode cX7_copyFrom 167 = .ok (.putfield 65, 3) := by decide +kernel
theorem dX7_copyFrom_170 : decode cX7_copyFrom 170 = .ok (.aload_n 1, 1) := by decide +kernel
theorem dX7_copyFrom_171 : decode cX7_copyFrom 171 = .ok (.getfield 54, 3) := by decide +kernel
theorem dX7_copyFrom_174 : decode cX7_copyFrom 174 = .ok (.aload_n 0, 1) := by decide +kernel
theorem dX7_copyFrom_175 : decode cX7_copyFrom 175 = .ok (.getfield 54, 3) := by decide +kernel
theorem dX7_copyFrom_178 : decode cX7_copyFrom 178 = .ok (.invokestatic 61, 3) := by decide +kernel
theorem dX7_copyFrom_181 : decode cX7_copyFrom 181 = .ok (.return_, 1) := by decide +kernel
theorem dX7_copy_0 : decode cX7_copy 0 = .ok (.aload_n 0, 1) := by decide +kernel
theorem dX7_copy_1 : decode cX7_copy 1 = .ok (.iconst 0, 1) := by decide +kernel
theorem dX7_copy_2 : decode cX7_copy 2 = .ok (.aload_n 1, 1) := by decide +kernel
theorem dX7_copy_3 : decode cX7_copy 3 = .ok (.iconst 0, 1) := by decide +kernel
theorem dX7_copy_4 : decode cX7_copy 4 = .ok (.aload_n 0, 1) := by decide +kernel
theorem dX7_copy_5 : decode cX7_copy 5 = .ok (.arraylength, 1) := by decide +kernel
theorem dX7_copy_6 : decode cX7_copy 6 = .ok (.aload_n 1, 1) := by decide +kernel
theorem dX7_copy_7 : decode cX7_copy 7 = .ok (.arraylength, 1) := by decide +kernel
theorem dX7_copy_8 : decode cX7_copy 8 = .ok (.invokestatic 69, 3) := by decide +kernel
theorem dX7_copy_11 : decode cX7_copy 11 = .ok (.invokestatic 75, 3) := by decide +kernel
theorem dX7_copy_14 : decode cX7_copy 14 = .ok (.return_, 1) := by decide +kernel
theorem dX7_takeRow_0 : decode cX7_takeRow 0 = .ok (.aload_n 1, 1) := by decide +kernel
theorem dX7_takeRow_1 : decode cX7_takeRow 1 = .ok (.aload_n 0, 1) := by decide +kernel
theorem dX7_takeRow_2 : decode cX7_takeRow 2 = .ok (.getfield 54, 3) := by decide +kernel
theorem dX7_takeRow_5 : decode cX7_takeRow 5 = .ok (.invokestatic 61, 3) := by decide +kernel
theorem dX7_takeRow_8 : decode cX7_takeRow 8 = .ok (.aload_n 0, 1) := by decide +kernel
theorem dX7_takeRow_9 : decode cX7_takeRow 9 = .ok (.iconst 1, 1) := by decide +kernel
theorem dX7_takeRow_10 : decode cX7_takeRow 10 = .ok (.putfield 65, 3) := by decide +kernel
theorem dX7_takeRow_13 : decode cX7_takeRow 13 = .ok (.return_, 1) := by decide +kernel
theorem dX7_newJob_0 : decode cX7_newJob 0 = .ok (.aload_n 0, 1) := by decide +kernel
theorem dX7_newJob_1 : decode cX7_newJob 1 = .ok (.getfield 57, 3) := by decide +kernel
theorem dX7_newJob_4 : decode cX7_newJob 4 = .ok (.bipush 6, 2) := by decide +kernel
theorem dX7_newJob_6 : decode cX7_newJob 6 = .ok (.if_icmp .lt 5, 3) := by decide +kernel
theorem dX7_newJob_9 : decode cX7_newJob 9 = .ok (.iconst (-1), 1) := by decide +kernel
theorem dX7_newJob_10 : decode cX7_newJob 10 = .ok (.ireturn, 1) := by decide +kernel
theorem dX7_newJob_11 : decode cX7_newJob 11 = .ok (.aload_n 0, 1) := by decide +kernel
theorem dX7_newJob_12 : decode cX7_newJob 12 = .ok (.getfield 9, 3) := by decide +kernel
theorem dX7_newJob_15 : decode cX7_newJob 15 = .ok (.aload_n 0, 1) := by decide +kernel
theorem dX7_newJob_16 : decode cX7_newJob 16 = .ok (.getfield 57, 3) := by decide +kernel
theorem dX7_newJob_19 : decode cX7_newJob 19 = .ok (.iload_n 1, 1) := by decide +kernel
theorem dX7_newJob_20 : decode cX7_newJob 20 = .ok (.iastore, 1) := by decide +kernel
theorem dX7_newJob_21 : decode cX7_newJob 21 = .ok (.aload_n 0, 1) := by decide +kernel
theorem dX7_newJob_22 : decode cX7_newJob 22 = .ok (.getfield 15, 3) := by decide +kernel
theorem dX7_newJob_25 : decode cX7_newJob 25 = .ok (.aload_n 0, 1) := by decide +kernel
theorem dX7_newJob_26 : decode cX7_newJob 26 = .ok (.getfield 57, 3) := by decide +kernel
theorem dX7_newJob_29 : decode cX7_newJob 29 = .ok (.iload_n 2, 1) := by decide +kernel
theorem dX7_newJob_30 : decode cX7_newJob 30 = .ok (.iastore, 1) := by decide +kernel
theorem dX7_newJob_31 : decode cX7_newJob 31 = .ok (.aload_n 0, 1) := by decide +kernel
theorem dX7_newJob_32 : decode cX7_newJob 32 = .ok (.getfield 18, 3) := by decide +kernel
theorem dX7_newJob_35 : decode cX7_newJob 35 = .ok (.aload_n 0, 1) := by decide +kernel
theorem dX7_newJob_36 : decode cX7_newJob 36 = .ok (.getfield 57, 3) := by decide +kernel
theorem dX7_newJob_39 : decode cX7_newJob 39 = .ok (.iload_n 3, 1) := by decide +kernel
theorem dX7_newJob_40 : decode cX7_newJob 40 = .ok (.iastore, 1) := by decide +kernel
theorem dX7_newJob_41 : decode cX7_newJob 41 = .ok (.aload_n 0, 1) := by decide +kernel
theorem dX7_newJob_42 : decode cX7_newJob 42 = .ok (.getfield 21, 3) := by decide +kernel
theorem dX7_newJob_45 : decode cX7_newJob 45 = .ok (.aload_n 0, 1) := by decide +kernel
theorem dX7_newJob_46 : decode cX7_newJob 46 = .ok (.getfield 57, 3) := by decide +kernel
theorem dX7_newJob_49 : decode cX7_newJob 49 = .ok (.iload 4, 2) := by decide +kernel
theorem dX7_newJob_51 : decode cX7_newJob 51 = .ok (.iastore, 1) := by decide +kernel
theorem dX7_newJob_52 : decode cX7_newJob 52 = .ok (.aload_n 0, 1) := by decide +kernel
theorem dX7_newJob_53 : decode cX7_newJob 53 = .ok (.getfield 24, 3) := by decide +kernel
theorem dX7_newJob_56 : decode cX7_newJob 56 = .ok (.aload_n 0, 1) := by decide +kernel
theorem dX7_newJob_57 : decode cX7_newJob 57 = .ok (.getfield 57, 3) := by decide +kernel
theorem dX7_newJob_60 : decode cX7_newJob 60 = .ok (.iconst 0, 1) := by decide +kernel
theorem dX7_newJob_61 : decode cX7_newJob 61 = .ok (.iastore, 1) := by decide +kernel
theorem dX7_newJob_62 : decode cX7_newJob 62 = .ok (.aload_n 0, 1) := by decide +kernel
theorem dX7_newJob_63 : decode cX7_newJob 63 = .ok (.dup, 1) := by decide +kernel
theorem dX7_newJob_64 : decode cX7_newJob 64 = .ok (.getfield 57, 3) := by decide +kernel
theorem dX7_newJob_67 : decode cX7_newJob 67 = .ok (.iconst 1, 1) := by decide +kernel
theorem dX7_newJob_68 : decode cX7_newJob 68 = .ok (.iadd, 1) := by decide +kernel
theorem dX7_newJob_69 : decode cX7_newJob 69 = .ok (.putfield 57, 3) := by decide +kernel
theorem dX7_newJob_72 : decode cX7_newJob 72 = .ok (.aload_n 0, 1) := by decide +kernel
theorem dX7_newJob_73 : decode cX7_newJob 73 = .ok (.getfield 57, 3) := by decide +kernel
theorem dX7_newJob_76 : decode cX7_newJob 76 = .ok (.iconst 1, 1) := by decide +kernel
theorem dX7_newJob_77 : decode cX7_newJob 77 = .ok (.isub, 1) := by decide +kernel
theorem dX7_newJob_78 : decode cX7_newJob 78 = .ok (.ireturn, 1) := by decide +kernel
theorem dX7_newStep_0 : decode cX7_newStep 0 = .ok (.iload_n 1, 1) := by decide +kernel
theorem dX7_newStep_1 : decode cX7_newStep 1 = .ok (.ifCond .lt 21, 3) := by decide +kernel
theorem dX7_newStep_4 : decode cX7_newStep 4 = .ok (.iload_n 1, 1) := by decide +kernel
theorem dX7_newStep_5 : decode cX7_newStep 5 = .ok (.aload_n 0, 1) := by decide +kernel
theorem dX7_newStep_6 : decode cX7_newStep 6 = .ok (.getfield 57, 3) := by decide +kernel
theorem dX7_newStep_9 : decode cX7_newStep 9 = .ok (.if_icmp .ge 13, 3) := by decide +kernel
theorem dX7_newStep_12 : decode cX7_newStep 12 = .ok (.aload_n 0, 1) := by decide +kernel
theorem dX7_newStep_13 : decode cX7_newStep 13 = .ok (.getfield 24, 3) := by decide +kernel
theorem dX7_newStep_16 : decode cX7_newStep 16 = .ok (.iload_n 1, 1) := by decide +kernel
theorem dX7_newStep_17 : decode cX7_newStep 17 = .ok (.iaload, 1) := by decide +kernel
theorem dX7_newStep_18 : decode cX7_newStep 18 = .ok (.iconst 5, 1) := by decide +kernel
theorem dX7_newStep_19 : decode cX7_newStep 19 = .ok (.if_icmp .lt 5, 3) := by decide +kernel
theorem dX7_newStep_22 : decode cX7_newStep 22 = .ok (.iconst (-1), 1) := by decide +kernel
theorem dX7_newStep_23 : decode cX7_newStep 23 = .ok (.ireturn, 1) := by decide +kernel
theorem dX7_newStep_24 : decode cX7_newStep 24 = .ok (.aload_n 0, 1) := by decide +kernel
theorem dX7_newStep_25 : decode cX7_newStep 25 = .ok (.getfield 24, 3) := by decide +kernel
theorem dX7_newStep_28 : decode cX7_newStep 28 = .ok (.iload_n 1, 1) := by decide +kernel
theorem dX7_newStep_29 : decode cX7_newStep 29 = .ok (.iaload, 1) := by decide +kernel
theorem dX7_newStep_30 : decode cX7_newStep 30 = .ok (.istore 4, 2) := by decide +kernel
theorem dX7_newStep_32 : decode cX7_newStep 32 = .ok (.aload_n 0, 1) := by decide +kernel
theorem dX7_newStep_33 : decode cX7_newStep 33 = .ok (.getfield 27, 3) := by decide +kernel
theorem dX7_newStep_36 : decode cX7_newStep 36 = .ok (.iload_n 1, 1) := by decide +kernel
theorem dX7_newStep_37 : decode cX7_newStep 37 = .ok (.iconst 5, 1) := by decide +kernel
theorem dX7_newStep_38 : decode cX7_newStep 38 = .ok (.imul, 1) := by decide +kernel
theorem dX7_newStep_39 : decode cX7_newStep 39 = .ok (.iload 4, 2) := by decide +kernel
theorem dX7_newStep_41 : decode cX7_newStep 41 = .ok (.iadd, 1) := by decide +kernel
theorem dX7_newStep_42 : decode cX7_newStep 42 = .ok (.iload_n 2, 1) := by decide +kernel
theorem dX7_newStep_43 : decode cX7_newStep 43 = .ok (.iastore, 1) := by decide +kernel
theorem dX7_newStep_44 : decode cX7_newStep 44 = .ok (.aload_n 0, 1) := by decide +kernel
theorem dX7_newStep_45 : decode cX7_newStep 45 = .ok (.getfield 30, 3) := by decide +kernel
theorem dX7_newStep_48 : decode cX7_newStep 48 = .ok (.iload_n 1, 1) := by decide +kernel
theorem dX7_newStep_49 : decode cX7_newStep 49 = .ok (.iconst 5, 1) := by decide +kernel
theorem dX7_newStep_50 : decode cX7_newStep 50 = .ok (.imul, 1) := by decide +kernel
theorem dX7_newStep_51 : decode cX7_newStep 51 = .ok (.iload 4, 2) := by decide +kernel
theorem dX7_newStep_53 : decode cX7_newStep 53 = .ok (.iadd, 1) := by decide +kernel
theorem dX7_newStep_54 : decode cX7_newStep 54 = .ok (.iload_n 3, 1) := by decide +kernel
theorem dX7_newStep_55 : decode cX7_newStep 55 = .ok (.iastore, 1) := by decide +kernel
theorem dX7_newStep_56 : decode cX7_newStep 56 = .ok (.aload_n 0, 1) := by decide +kernel
theorem dX7_newStep_57 : decode cX7_newStep 57 = .ok (.getfield 24, 3) := by decide +kernel
theorem dX7_newStep_60 : decode cX7_newStep 60 = .ok (.iload_n 1, 1) := by decide +kernel
theorem dX7_newStep_61 : decode cX7_newStep 61 = .ok (.dup2, 1) := by decide +kernel
theorem dX7_newStep_62 : decode cX7_newStep 62 = .ok (.iaload, 1) := by decide +kernel
theorem dX7_newStep_63 : decode cX7_newStep 63 = .ok (.iconst 1, 1) := by decide +kernel
theorem dX7_newStep_64 : decode cX7_newStep 64 = .ok (.iadd, 1) := by decide +kernel
theorem dX7_newStep_65 : decode cX7_newStep 65 = .ok (.iastore, 1) := by decide +kernel
theorem dX7_newStep_66 : decode cX7_newStep 66 = .ok (.iload 4, 2) := by decide +kernel
theorem dX7_newStep_68 : decode cX7_newStep 68 = .ok (.ireturn, 1) := by decide +kernel
theorem dX7_newClosure_0 : decode cX7_newClosure 0 = .ok (.aload_n 0, 1) := by decide +kernel
theorem dX7_newClosure_1 : decode cX7_newClosure 1 = .ok (.getfield 33, 3) := by decide +kernel
theorem dX7_newClosure_4 : decode cX7_newClosure 4 = .ok (.iload_n 1, 1) := by decide +kernel
theorem dX7_newClosure_5 : decode cX7_newClosure 5 = .ok (.iaload, 1) := by decide +kernel
theorem dX7_newClosure_6 : decode cX7_newClosure 6 = .ok (.istore 4, 2) := by decide +kernel
theorem dX7_newClosure_8 : decode cX7_newClosure 8 = .ok (.iload 4, 2) := by decide +kernel
theorem dX7_newClosure_10 : decode cX7_newClosure 10 = .ok (.iconst 4, 1) := by decide +kernel
theorem dX7_newClosure_11 : decode cX7_newClosure 11 = .ok (.if_icmp .ge 37, 3) := by decide +kernel
theorem dX7_newClosure_14 : decode cX7_newClosure 14 = .ok (.aload_n 0, 1) := by decide +kernel
theorem dX7_newClosure_15 : decode cX7_newClosure 15 = .ok (.getfield 36, 3) := by decide +kernel
theorem dX7_newClosure_18 : decode cX7_newClosure 18 = .ok (.iload_n 1, 1) := by decide +kernel
theorem dX7_newClosure_19 : decode cX7_newClosure 19 = .ok (.iconst 4, 1) := by decide +kernel
theorem dX7_newClosure_20 : decode cX7_newClosure 20 = .ok (.imul, 1) := by decide +kernel
theorem dX7_newClosure_21 : decode cX7_newClosure 21 = .ok (.iload 4, 2) := by decide +kernel
theorem dX7_newClosure_23 : decode cX7_newClosure 23 = .ok (.iadd, 1) := by decide +kernel
theorem dX7_newClosure_24 : decode cX7_newClosure 24 = .ok (.iload_n 2, 1) := by decide +kernel
theorem dX7_newClosure_25 : decode cX7_newClosure 25 = .ok (.iastore, 1) := by decide +kernel
theorem dX7_newClosure_26 : decode cX7_newClosure 26 = .ok (.aload_n 0, 1) := by decide +kernel
theorem dX7_newClosure_27 : decode cX7_newClosure 27 = .ok (.getfield 39, 3) := by decide +kernel
theorem dX7_newClosure_30 : decode cX7_newClosure 30 = .ok (.iload_n 1, 1) := by decide +kernel
theorem dX7_newClosure_31 : decode cX7_newClosure 31 = .ok (.iconst 4, 1) := by decide +kernel
theorem dX7_newClosure_32 : decode cX7_newClosure 32 = .ok (.imul, 1) := by decide +kernel
theorem dX7_newClosure_33 : decode cX7_newClosure 33 = .ok (.iload 4, 2) := by decide +kernel
theorem dX7_newClosure_35 : decode cX7_newClosure 35 = .ok (.iadd, 1) := by decide +kernel
theorem dX7_newClosure_36 : decode cX7_newClosure 36 = .ok (.iload_n 3, 1) := by decide +kernel
theorem dX7_newClosure_37 : decode cX7_newClosure 37 = .ok (.iastore, 1) := by decide +kernel
theorem dX7_newClosure_38 : decode cX7_newClosure 38 = .ok (.aload_n 0, 1) := by decide +kernel
theorem dX7_newClosure_39 : decode cX7_newClosure 39 = .ok (.getfield 33, 3) := by decide +kernel
theorem dX7_newClosure_42 : decode cX7_newClosure 42 = .ok (.iload_n 1, 1) := by decide +kernel
theorem dX7_newClosure_43 : decode cX7_newClosure 43 = .ok (.dup2, 1) := by decide +kernel
theorem dX7_newClosure_44 : decode cX7_newClosure 44 = .ok (.iaload, 1) := by decide +kernel
theorem dX7_newClosure_45 : decode cX7_newClosure 45 = .ok (.iconst 1, 1) := by decide +kernel
theorem dX7_newClosure_46 : decode cX7_newClosure 46 = .ok (.iadd, 1) := by decide +kernel
theorem dX7_newClosure_47 : decode cX7_newClosure 47 = .ok (.iastore, 1) := by decide +kernel
theorem dX7_newClosure_48 : decode cX7_newClosure 48 = .ok (.return_, 1) := by decide +kernel
theorem dX7_canBeHalved_0 : decode cX7_canBeHalved 0 = .ok (.iconst 0, 1) := by decide +kernel
theorem dX7_canBeHalved_1 : decode cX7_canBeHalved 1 = .ok (.istore_n 2, 1) := by decide +kernel
theorem dX7_canBeHalved_2 : decode cX7_canBeHalved 2 = .ok (.iload_n 2, 1) := by decide +kernel
theorem dX7_canBeHalved_3 : decode cX7_canBeHalved 3 = .ok (.aload_n 0, 1) := by decide +kernel
theorem dX7_canBeHalved_4 : decode cX7_canBeHalved 4 = .ok (.getfield 24, 3) := by decide +kernel
theorem dX7_canBeHalved_7 : decode cX7_canBeHalved 7 = .ok (.iload_n 1, 1) := by decide +kernel
theorem dX7_canBeHalved_8 : decode cX7_canBeHalved 8 = .ok (.iaload, 1) := by decide +kernel
theorem dX7_canBeHalved_9 : decode cX7_canBeHalved 9 = .ok (.if_icmp .ge 25, 3) := by decide +kernel
theorem dX7_canBeHalved_12 : decode cX7_canBeHalved 12 = .ok (.aload_n 0, 1) := by decide +kernel
theorem dX7_canBeHalved_13 : decode cX7_canBeHalved 13 = .ok (.getfield 30, 3) := by decide +kernel
theorem dX7_canBeHalved_16 : decode cX7_canBeHalved 16 = .ok (.iload_n 1, 1) := by decide +kernel
theorem dX7_canBeHalved_17 : decode cX7_canBeHalved 17 = .ok (.iconst 5, 1) := by decide +kernel
theorem dX7_canBeHalved_18 : decode cX7_canBeHalved 18 = .ok (.imul, 1) := by decide +kernel
theorem dX7_canBeHalved_19 : decode cX7_canBeHalved 19 = .ok (.iload_n 2, 1) := by decide +kernel
theorem dX7_canBeHalved_20 : decode cX7_canBeHalved 20 = .ok (.iadd, 1) := by decide +kernel
theorem dX7_canBeHalved_21 : decode cX7_canBeHalved 21 = .ok (.iaload, 1) := by decide +kernel
theorem dX7_canBeHalved_22 : decode cX7_canBeHalved 22 = .ok (.iconst 2, 1) := by decide +kernel
theorem dX7_canBeHalved_23 : decode cX7_canBeHalved 23 = .ok (.if_icmp .ge 5, 3) := by decide +kernel
theorem dX7_canBeHalved_26 : decode cX7_canBeHalved 26 = .ok (.iconst 0, 1) := by decide +kernel
theorem dX7_canBeHalved_27 : decode cX7_canBeHalved 27 = .ok (.ireturn, 1) := by decide +kernel
theorem dX7_canBeHalved_28 : decode cX7_canBeHalved 28 = .ok (.iinc 2 1, 3) := by decide +kernel
theorem dX7_canBeHalved_31 : decode cX7_canBeHalved 31 = .ok (.goto (-29), 3) := by decide +kernel
theorem dX7_canBeHalved_34 : decode cX7_canBeHalved 34 = .ok (.aload_n 0, 1) := by decide +kernel
theorem dX7_canBeHalved_35 : decode cX7_canBeHalved 35 = .ok (.getfield 24, 3) := by decide +kernel
theorem dX7_canBeHalved_38 : decode cX7_canBeHalved 38 = .ok (.iload_n 1, 1) := by decide +kernel
theorem dX7_canBeHalved_39 : decode cX7_canBeHalved 39 = .ok (.iaload, 1) := by decide +kernel
theorem dX7_canBeHalved_40 : decode cX7_canBeHalved 40 = .ok (.ifCond .le 7, 3) := by decide +kernel
theorem dX7_canBeHalved_43 : decode cX7_canBeHalved 43 = .ok (.iconst 1, 1) := by decide +kernel
theorem dX7_canBeHalved_44 : decode cX7_canBeHalved 44 = .ok (.goto 4, 3) := by decide +kernel
theorem dX7_canBeHalved_47 : decode cX7_canBeHalved 47 = .ok (.iconst 0, 1) := by decide +kernel
theorem dX7_canBeHalved_48 : decode cX7_canBeHalved 48 = .ok (.ireturn, 1) := by decide +kernel
theorem dX7_halve_0 : decode cX7_halve 0 = .ok (.aload_n 0, 1) := by decide +kernel
theorem dX7_halve_1 : decode cX7_halve 1 = .ok (.aload_n 0, 1) := by decide +kernel
theorem dX7_halve_2 : decode cX7_halve 2 = .ok (.getfield 9, 3) := by decide +kernel
theorem dX7_halve_5 : decode cX7_halve 5 = .ok (.iload_n 1, 1) := by decide +kernel
theorem dX7_halve_6 : decode cX7_halve 6 = .ok (.iaload, 1) := by decide +kernel
theorem dX7_halve_7 : decode cX7_halve 7 = .ok (.aload_n 0, 1) := by decide +kernel
theorem dX7_halve_8 : decode cX7_halve 8 = .ok (.getfield 15, 3) := by decide +kernel
theorem dX7_halve_11 : decode cX7_halve 11 = .ok (.iload_n 1, 1) := by decide +kernel
theorem dX7_halve_12 : decode cX7_halve 12 = .ok (.iaload, 1) := by decide +kernel
theorem dX7_halve_13 : decode cX7_halve 13 = .ok (.aload_n 0, 1) := by decide +kernel
theorem dX7_halve_14 : decode cX7_halve 14 = .ok (.getfield 18, 3) := by decide +kernel
theorem dX7_halve_17 : decode cX7_halve 17 = .ok (.iload_n 1, 1) := by decide +kernel
theorem dX7_halve_18 : decode cX7_halve 18 = .ok (.iaload, 1) := by decide +kernel
theorem dX7_halve_19 : decode cX7_halve 19 = .ok (.aload_n 0, 1) := by decide +kernel
theorem dX7_halve_20 : decode cX7_halve 20 = .ok (.getfield 21, 3) := by decide +kernel
theorem dX7_halve_23 : decode cX7_halve 23 = .ok (.iload_n 1, 1) := by decide +kernel
theorem dX7_halve_24 : decode cX7_halve 24 = .ok (.iaload, 1) := by decide +kernel
theorem dX7_halve_25 : decode cX7_halve 25 = .ok (.invokevirtual 81, 3) := by decide +kernel
theorem dX7_halve_28 : decode cX7_halve 28 = .ok (.istore_n 2, 1) := by decide +kernel
theorem dX7_halve_29 : decode cX7_halve 29 = .ok (.iconst 0, 1) := by decide +kernel
theorem dX7_halve_30 : decode cX7_halve 30 = .ok (.istore_n 3, 1) := by decide +kernel
theorem dX7_halve_31 : decode cX7_halve 31 = .ok (.iload_n 3, 1) := by decide +kernel
theorem dX7_halve_32 : decode cX7_halve 32 = .ok (.aload_n 0, 1) := by decide +kernel
theorem dX7_halve_33 : decode cX7_halve 33 = .ok (.getfield 24, 3) := by decide +kernel
theorem dX7_halve_36 : decode cX7_halve 36 = .ok (.iload_n 1, 1) := by decide +kernel
theorem dX7_halve_37 : decode cX7_halve 37 = .ok (.iaload, 1) := by decide +kernel
theorem dX7_halve_38 : decode cX7_halve 38 = .ok (.if_icmp .ge 54, 3) := by decide +kernel
theorem dX7_halve_41 : decode cX7_halve 41 = .ok (.iload_n 1, 1) := by decide +kernel
theorem dX7_halve_42 : decode cX7_halve 42 = .ok (.iconst 5, 1) := by decide +kernel
theorem dX7_halve_43 : decode cX7_halve 43 = .ok (.imul, 1) := by decide +kernel
theorem dX7_halve_44 : decode cX7_halve 44 = .ok (.iload_n 3, 1) := by decide +kernel
theorem dX7_halve_45 : decode cX7_halve 45 = .ok (.iadd, 1) := by decide +kernel
theorem dX7_halve_46 : decode cX7_halve 46 = .ok (.istore 4, 2) := by decide +kernel
theorem dX7_halve_48 : decode cX7_halve 48 = .ok (.aload_n 0, 1) := by decide +kernel
theorem dX7_halve_49 : decode cX7_halve 49 = .ok (.getfield 30, 3) := by decide +kernel
theorem dX7_halve_52 : decode cX7_halve 52 = .ok (.iload 4, 2) := by decide +kernel
theorem dX7_halve_54 : decode cX7_halve 54 = .ok (.iaload, 1) := by decide +kernel
theorem dX7_halve_55 : decode cX7_halve 55 = .ok (.iconst 2, 1) := by decide +kernel
theorem dX7_halve_56 : decode cX7_halve 56 = .ok (.idiv, 1) := by decide +kernel
theorem dX7_halve_57 : decode cX7_halve 57 = .ok (.istore 5, 2) := by decide +kernel
theorem dX7_halve_59 : decode cX7_halve 59 = .ok (.aload_n 0, 1) := by decide +kernel
theorem dX7_halve_60 : decode cX7_halve 60 = .ok (.iload_n 2, 1) := by decide +kernel
theorem dX7_halve_61 : decode cX7_halve 61 = .ok (.aload_n 0, 1) := by decide +kernel
theorem dX7_halve_62 : decode cX7_halve 62 = .ok (.getfield 27, 3) := by decide +kernel
theorem dX7_halve_65 : decode cX7_halve 65 = .ok (.iload 4, 2) := by decide +kernel
theorem dX7_halve_67 : decode cX7_halve 67 = .ok (.iaload, 1) := by decide +kernel
theorem dX7_halve_68 : decode cX7_halve 68 = .ok (.iload 5, 2) := by decide +kernel
theorem dX7_halve_70 : decode cX7_halve 70 = .ok (.invokevirtual 85, 3) := by decide +kernel
theorem dX7_halve_73 : decode cX7_halve 73 = .ok (.pop, 1) := by decide +kernel
theorem dX7_halve_74 : decode cX7_halve 74 = .ok (.aload_n 0, 1) := by decide +kernel
theorem dX7_halve_75 : decode cX7_halve 75 = .ok (.getfield 30, 3) := by decide +kernel
theorem dX7_halve_78 : decode cX7_halve 78 = .ok (.iload 4, 2) := by decide +kernel
theorem dX7_halve_80 : decode cX7_halve 80 = .ok (.dup2, 1) := by decide +kernel
theorem dX7_halve_81 : decode cX7_halve 81 = .ok (.iaload, 1) := by decide +kernel
theorem dX7_halve_82 : decode cX7_halve 82 = .ok (.iload 5, 2) := by decide +kernel
theorem dX7_halve_84 : decode cX7_halve 84 = .ok (.isub, 1) := by decide +kernel
theorem dX7_halve_85 : decode cX7_halve 85 = .ok (.iastore, 1) := by decide +kernel
theorem dX7_halve_86 : decode cX7_halve 86 = .ok (.iinc 3 1, 3) := by decide +kernel
theorem dX7_halve_89 : decode cX7_halve 89 = .ok (.goto (-58), 3) := by decide +kernel
theorem dX7_halve_92 : decode cX7_halve 92 = .ok (.iload_n 2, 1) := by decide +kernel
theorem dX7_halve_93 : decode cX7_halve 93 = .ok (.ireturn, 1) := by decide +kernel
theorem dX7_stepTotal_0 : decode cX7_stepTotal 0 = .ok (.iconst 0, 1) := by decide +kernel
theorem dX7_stepTotal_1 : decode cX7_stepTotal 1 = .ok (.istore_n 1, 1) := by decide +kernel
theorem dX7_stepTotal_2 : decode cX7_stepTotal 2 = .ok (.iconst 0, 1) := by decide +kernel
theorem dX7_stepTotal_3 : decode cX7_stepTotal 3 = .ok (.istore_n 2, 1) := by decide +kernel
theorem dX7_stepTotal_4 : decode cX7_stepTotal 4 = .ok (.iload_n 2, 1) := by decide +kernel
theorem dX7_stepTotal_5 : decode cX7_stepTotal 5 = .ok (.aload_n 0, 1) := by decide +kernel
theorem dX7_stepTotal_6 : decode cX7_stepTotal 6 = .ok (.getfield 57, 3) := by decide +kernel
theorem dX7_stepTotal_9 : decode cX7_stepTotal 9 = .ok (.if_icmp .ge 18, 3) := by decide +kernel
theorem dX7_stepTotal_12 : decode cX7_stepTotal 12 = .ok (.iload_n 1, 1) := by decide +kernel
theorem dX7_stepTotal_13 : decode cX7_stepTotal 13 = .ok (.aload_n 0, 1) := by decide +kernel
theorem dX7_stepTotal_14 : decode cX7_stepTotal 14 = .ok (.getfield 24, 3) := by decide +kernel
theorem dX7_stepTotal_17 : decode cX7_stepTotal 17 = .ok (.iload_n 2, 1) := by decide +kernel
theorem dX7_stepTotal_18 : decode cX7_stepTotal 18 = .ok (.iaload, 1) := by decide +kernel
theorem dX7_stepTotal_19 : decode cX7_stepTotal 19 = .ok (.iadd, 1) := by decide +kernel
theorem dX7_stepTotal_20 : decode cX7_stepTotal 20 = .ok (.istore_n 1, 1) := by decide +kernel
theorem dX7_stepTotal_21 : decode cX7_stepTotal 21 = .ok (.iinc 2 1, 3) := by decide +kernel
theorem dX7_stepTotal_24 : decode cX7_stepTotal 24 = .ok (.goto (-20), 3) := by decide +kernel
theorem dX7_stepTotal_27 : decode cX7_stepTotal 27 = .ok (.iload_n 1, 1) := by decide +kernel
theorem dX7_stepTotal_28 : decode cX7_stepTotal 28 = .ok (.ireturn, 1) := by decide +kernel
theorem dX7_hoursFrom_0 : decode cX7_hoursFrom 0 = .ok (.iconst 0, 1) := by decide +kernel
theorem dX7_hoursFrom_1 : decode cX7_hoursFrom 1 = .ok (.istore_n 3, 1) := by decide +kernel
theorem dX7_hoursFrom_2 : decode cX7_hoursFrom 2 = .ok (.iload_n 2, 1) := by decide +kernel
theorem dX7_hoursFrom_3 : decode cX7_hoursFrom 3 = .ok (.istore 4, 2) := by decide +kernel
theorem dX7_hoursFrom_5 : decode cX7_hoursFrom 5 = .ok (.iload 4, 2) := by decide +kernel
theorem dX7_hoursFrom_7 : decode cX7_hoursFrom 7 = .ok (.aload_n 0, 1) := by decide +kernel
theorem dX7_hoursFrom_8 : decode cX7_hoursFrom 8 = .ok (.getfield 24, 3) := by decide +kernel
theorem dX7_hoursFrom_11 : decode cX7_hoursFrom 11 = .ok (.iload_n 1, 1) := by decide +kernel
theorem dX7_hoursFrom_12 : decode cX7_hoursFrom 12 = .ok (.iaload, 1) := by decide +kernel
theorem dX7_hoursFrom_13 : decode cX7_hoursFrom 13 = .ok (.if_icmp .ge 23, 3) := by decide +kernel
theorem dX7_hoursFrom_16 : decode cX7_hoursFrom 16 = .ok (.iload_n 3, 1) := by decide +kernel
theorem dX7_hoursFrom_17 : decode cX7_hoursFrom 17 = .ok (.aload_n 0, 1) := by decide +kernel
theorem dX7_hoursFrom_18 : decode cX7_hoursFrom 18 = .ok (.getfield 30, 3) := by decide +kernel
theorem dX7_hoursFrom_21 : decode cX7_hoursFrom 21 = .ok (.iload_n 1, 1) := by decide +kernel
theorem dX7_hoursFrom_22 : decode cX7_hoursFrom 22 = .ok (.iconst 5, 1) := by decide +kernel
theorem dX7_hoursFrom_23 : decode cX7_hoursFrom 23 = .ok (.imul, 1) := by decide +kernel
theorem dX7_hoursFrom_24 : decode cX7_hoursFrom 24 = .ok (.iload 4, 2) := by decide +kernel
theorem dX7_hoursFrom_26 : decode cX7_hoursFrom 26 = .ok (.iadd, 1) := by decide +kernel
theorem dX7_hoursFrom_27 : decode cX7_hoursFrom 27 = .ok (.iaload, 1) := by decide +kernel
theorem dX7_hoursFrom_28 : decode cX7_hoursFrom 28 = .ok (.iadd, 1) := by decide +kernel
theorem dX7_hoursFrom_29 : decode cX7_hoursFrom 29 = .ok (.istore_n 3, 1) := by decide +kernel
theorem dX7_hoursFrom_30 : decode cX7_hoursFrom 30 = .ok (.iinc 4 1, 3) := by decide +kernel
theorem dX7_hoursFrom_33 : decode cX7_hoursFrom 33 = .ok (.goto (-28), 3) := by decide +kernel
theorem dX7_hoursFrom_36 : decode cX7_hoursFrom 36 = .ok (.iload_n 3, 1) := by decide +kernel
theorem dX7_hoursFrom_37 : decode cX7_hoursFrom 37 = .ok (.ireturn, 1) := by decide +kernel
theorem dX7_hoursOn_0 : decode cX7_hoursOn 0 = .ok (.iconst 0, 1) := by decide +kernel
theorem dX7_hoursOn_1 : decode cX7_hoursOn 1 = .ok (.istore_n 2, 1) := by decide +kernel
theorem dX7_hoursOn_2 : decode cX7_hoursOn 2 = .ok (.iconst 0, 1) := by decide +kernel
theorem dX7_hoursOn_3 : decode cX7_hoursOn 3 = .ok (.istore_n 3, 1) := by decide +kernel
theorem dX7_hoursOn_4 : decode cX7_hoursOn 4 = .ok (.iload_n 3, 1) := by decide +kernel
theorem dX7_hoursOn_5 : decode cX7_hoursOn 5 = .ok (.aload_n 0, 1) := by decide +kernel
theorem dX7_hoursOn_6 : decode cX7_hoursOn 6 = .ok (.getfield 57, 3) := by decide +kernel
theorem dX7_hoursOn_9 : decode cX7_hoursOn 9 = .ok (.if_icmp .ge 58, 3) := by decide +kernel
theorem dX7_hoursOn_12 : decode cX7_hoursOn 12 = .ok (.iconst 0, 1) := by decide +kernel
theorem dX7_hoursOn_13 : decode cX7_hoursOn 13 = .ok (.istore 4, 2) := by decide +kernel
theorem dX7_hoursOn_15 : decode cX7_hoursOn 15 = .ok (.iload 4, 2) := by decide +kernel
theorem dX7_hoursOn_17 : decode cX7_hoursOn 17 = .ok (.aload_n 0, 1) := by decide +kernel
theorem dX7_hoursOn_18 : decode cX7_hoursOn 18 = .ok (.getfield 24, 3) := by decide +kernel
theorem dX7_hoursOn_21 : decode cX7_hoursOn 21 = .ok (.iload_n 3, 1) := by decide +kernel
theorem dX7_hoursOn_22 : decode cX7_hoursOn 22 = .ok (.iaload, 1) := by decide +kernel
theorem dX7_hoursOn_23 : decode cX7_hoursOn 23 = .ok (.if_icmp .ge 38, 3) := by decide +kernel
theorem dX7_hoursOn_26 : decode cX7_hoursOn 26 = .ok (.iload_n 3, 1) := by decide +kernel
theorem dX7_hoursOn_27 : decode cX7_hoursOn 27 = .ok (.iconst 5, 1) := by decide +kernel
theorem dX7_hoursOn_28 : decode cX7_hoursOn 28 = .ok (.imul, 1) := by decide +kernel
theorem dX7_hoursOn_29 : decode cX7_hoursOn 29 = .ok (.iload 4, 2) := by decide +kernel
theorem dX7_hoursOn_31 : decode cX7_hoursOn 31 = .ok (.iadd, 1) := by decide +kernel
theorem dX7_hoursOn_32 : decode cX7_hoursOn 32 = .ok (.istore 5, 2) := by decide +kernel
theorem dX7_hoursOn_34 : decode cX7_hoursOn 34 = .ok (.aload_n 0, 1) := by decide +kernel
theorem dX7_hoursOn_35 : decode cX7_hoursOn 35 = .ok (.getfield 27, 3) := by decide +kernel
theorem dX7_hoursOn_38 : decode cX7_hoursOn 38 = .ok (.iload 5, 2) := by decide +kernel
theorem dX7_hoursOn_40 : decode cX7_hoursOn 40 = .ok (.iaload, 1) := by decide +kernel
theorem dX7_hoursOn_41 : decode cX7_hoursOn 41 = .ok (.iload_n 1, 1) := by decide +kernel
theorem dX7_hoursOn_42 : decode cX7_hoursOn 42 = .ok (.if_icmp .ne 13, 3) := by decide +kernel
theorem dX7_hoursOn_45 : decode cX7_hoursOn 45 = .ok (.iload_n 2, 1) := by decide +kernel
theorem dX7_hoursOn_46 : decode cX7_hoursOn 46 = .ok (.aload_n 0, 1) := by decide +kernel
theorem dX7_hoursOn_47 : decode cX7_hoursOn 47 = .ok (.getfield 30, 3) := by decide +kernel
theorem dX7_hoursOn_50 : decode cX7_hoursOn 50 = .ok (.iload 5, 2) := by decide +kernel
theorem dX7_hoursOn_52 : decode cX7_hoursOn 52 = .ok (.iaload, 1) := by decide +kernel
theorem dX7_hoursOn_53 : decode cX7_hoursOn 53 = .ok (.iadd, 1) := by decide +kernel
theorem dX7_hoursOn_54 : decode cX7_hoursOn 54 = .ok (.istore_n 2, 1) := by decide +kernel
theorem dX7_hoursOn_55 : decode cX7_hoursOn 55 = .ok (.iinc 4 1, 3) := by decide +kernel
theorem dX7_hoursOn_58 : decode cX7_hoursOn 58 = .ok (.goto (-43), 3) := by decide +kernel
theorem dX7_hoursOn_61 : decode cX7_hoursOn 61 = .ok (.iinc 3 1, 3) := by decide +kernel
theorem dX7_hoursOn_64 : decode cX7_hoursOn 64 = .ok (.goto (-60), 3) := by decide +kernel
theorem dX7_hoursOn_67 : decode cX7_hoursOn 67 = .ok (.iload_n 2, 1) := by decide +kernel
theorem dX7_hoursOn_68 : decode cX7_hoursOn 68 = .ok (.ireturn, 1) := by decide +kernel
theorem dX7_leastHours_0 : decode cX7_leastHours 0 = .ok (.iconst 0, 1) := by decide +kernel
theorem dX7_leastHours_1 : decode cX7_leastHours 1 = .ok (.istore_n 1, 1) := by decide +kernel
theorem dX7_leastHours_2 : decode cX7_leastHours 2 = .ok (.iconst 0, 1) := by decide +kernel
theorem dX7_leastHours_3 : decode cX7_leastHours 3 = .ok (.istore_n 2, 1) := by decide +kernel
theorem dX7_leastHours_4 : decode cX7_leastHours 4 = .ok (.iload_n 2, 1) := by decide +kernel
theorem dX7_leastHours_5 : decode cX7_leastHours 5 = .ok (.aload_n 0, 1) := by decide +kernel
theorem dX7_leastHours_6 : decode cX7_leastHours 6 = .ok (.getfield 57, 3) := by decide +kernel
theorem dX7_leastHours_9 : decode cX7_leastHours 9 = .ok (.if_icmp .ge 27, 3) := by decide +kernel
theorem dX7_leastHours_12 : decode cX7_leastHours 12 = .ok (.iload_n 1, 1) := by decide +kernel
theorem dX7_leastHours_13 : decode cX7_leastHours 13 = .ok (.aload_n 0, 1) := by decide +kernel
theorem dX7_leastHours_14 : decode cX7_leastHours 14 = .ok (.getfield 9, 3) := by decide +kernel
theorem dX7_leastHours_17 : decode cX7_leastHours 17 = .ok (.iload_n 2, 1) := by decide +kernel
theorem dX7_leastHours_18 : decode cX7_leastHours 18 = .ok (.iaload, 1) := by decide +kernel
theorem dX7_leastHours_19 : decode cX7_leastHours 19 = .ok (.aload_n 0, 1) := by decide +kernel
theorem dX7_leastHours_20 : decode cX7_leastHours 20 = .ok (.iload_n 2, 1) := by decide +kernel
theorem dX7_leastHours_21 : decode cX7_leastHours 21 = .ok (.iconst 0, 1) := by decide +kernel
theorem dX7_leastHours_22 : decode cX7_leastHours 22 = .ok (.invokevirtual 89, 3) := by decide +kernel
theorem dX7_leastHours_25 : decode cX7_leastHours 25 = .ok (.iadd, 1) := by decide +kernel
theorem dX7_leastHours_26 : decode cX7_leastHours 26 = .ok (.invokestatic 92, 3) := by decide +kernel
theorem dX7_leastHours_29 : decode cX7_leastHours 29 = .ok (.istore_n 1, 1) := by decide +kernel
theorem dX7_leastHours_30 : decode cX7_leastHours 30 = .ok (.iinc 2 1, 3) := by decide +kernel
theorem dX7_leastHours_33 : decode cX7_leastHours 33 = .ok (.goto (-29), 3) := by decide +kernel
theorem dX7_leastHours_36 : decode cX7_leastHours 36 = .ok (.iconst 0, 1) := by decide +kernel
theorem dX7_leastHours_37 : decode cX7_leastHours 37 = .ok (.istore_n 2, 1) := by decide +kernel
theorem dX7_leastHours_38 : decode cX7_leastHours 38 = .ok (.iload_n 2, 1) := by decide +kernel
theorem dX7_leastHours_39 : decode cX7_leastHours 39 = .ok (.iconst 4, 1) := by decide +kernel
theorem dX7_leastHours_40 : decode cX7_leastHours 40 = .ok (.if_icmp .ge 19, 3) := by decide +kernel
theorem dX7_leastHours_43 : decode cX7_leastHours 43 = .ok (.iload_n 1, 1) := by decide +kernel
theorem dX7_leastHours_44 : decode cX7_leastHours 44 = .ok (.aload_n 0, 1) := by decide +kernel
theorem dX7_leastHours_45 : decode cX7_leastHours 45 = .ok (.iload_n 2, 1) := by decide +kernel
theorem dX7_leastHours_46 : decode cX7_leastHours 46 = .ok (.invokevirtual 95, 3) := by decide +kernel
theorem dX7_leastHours_49 : decode cX7_leastHours 49 = .ok (.invokestatic 92, 3) := by decide +kernel
theorem dX7_leastHours_52 : decode cX7_leastHours 52 = .ok (.istore_n 1, 1) := by decide +kernel
theorem dX7_leastHours_53 : decode cX7_leastHours 53 = .ok (.iinc 2 1, 3) := by decide +kernel
theorem dX7_leastHours_56 : decode cX7_leastHours 56 = .ok (.goto (-18), 3) := by decide +kernel
theorem dX7_leastHours_59 : decode cX7_leastHours 59 = .ok (.iload_n 1, 1) := by decide +kernel
theorem dX7_leastHours_60 : decode cX7_leastHours 60 = .ok (.ireturn, 1) := by decide +kernel
theorem dX7_isClosedIn_0 : decode cX7_isClosedIn 0 = .ok (.iconst 0, 1) := by decide +kernel
theorem dX7_isClosedIn_1 : decode cX7_isClosedIn 1 = .ok (.istore_n 3, 1) := by decide +kernel
theorem dX7_isClosedIn_2 : decode cX7_isClosedIn 2 = .ok (.iload_n 3, 1) := by decide +kernel
theorem dX7_isClosedIn_3 : decode cX7_isClosedIn 3 = .ok (.aload_n 0, 1) := by decide +kernel
theorem dX7_isClosedIn_4 : decode cX7_isClosedIn 4 = .ok (.getfield 33, 3) := by decide +kernel
theorem dX7_isClosedIn_7 : decode cX7_isClosedIn 7 = .ok (.iload_n 1, 1) := by decide +kernel
theorem dX7_isClosedIn_8 : decode cX7_isClosedIn 8 = .ok (.iaload, 1) := by decide +kernel
theorem dX7_isClosedIn_9 : decode cX7_isClosedIn 9 = .ok (.if_icmp .ge 40, 3) := by decide +kernel
theorem dX7_isClosedIn_12 : decode cX7_isClosedIn 12 = .ok (.iload_n 1, 1) := by decide +kernel
theorem dX7_isClosedIn_13 : decode cX7_isClosedIn 13 = .ok (.iconst 4, 1) := by decide +kernel
theorem dX7_isClosedIn_14 : decode cX7_isClosedIn 14 = .ok (.imul, 1) := by decide +kernel
theorem dX7_isClosedIn_15 : decode cX7_isClosedIn 15 = .ok (.iload_n 3, 1) := by decide +kernel
theorem dX7_isClosedIn_16 : decode cX7_isClosedIn 16 = .ok (.iadd, 1) := by decide +kernel
theorem dX7_isClosedIn_17 : decode cX7_isClosedIn 17 = .ok (.istore 4, 2) := by decide +kernel
theorem dX7_isClosedIn_19 : decode cX7_isClosedIn 19 = .ok (.aload_n 0, 1) := by decide +kernel
theorem dX7_isClosedIn_20 : decode cX7_isClosedIn 20 = .ok (.getfield 36, 3) := by decide +kernel
theorem dX7_isClosedIn_23 : decode cX7_isClosedIn 23 = .ok (.iload 4, 2) := by decide +kernel
theorem dX7_isClosedIn_25 : decode cX7_isClosedIn 25 = .ok (.iaload, 1) := by decide +kernel
theorem dX7_isClosedIn_26 : decode cX7_isClosedIn 26 = .ok (.iload_n 2, 1) := by decide +kernel
theorem dX7_isClosedIn_27 : decode cX7_isClosedIn 27 = .ok (.if_icmp .gt 16, 3) := by decide +kernel
theorem dX7_isClosedIn_30 : decode cX7_isClosedIn 30 = .ok (.iload_n 2, 1) := by decide +kernel
theorem dX7_isClosedIn_31 : decode cX7_isClosedIn 31 = .ok (.aload_n 0, 1) := by decide +kernel
theorem dX7_isClosedIn_32 : decode cX7_isClosedIn 32 = .ok (.getfield 39, 3) := by decide +kernel
theorem dX7_isClosedIn_35 : decode cX7_isClosedIn 35 = .ok (.iload 4, 2) := by decide +kernel
theorem dX7_isClosedIn_37 : decode cX7_isClosedIn 37 = .ok (.iaload, 1) := by decide +kernel
theorem dX7_isClosedIn_38 : decode cX7_isClosedIn 38 = .ok (.if_icmp .ge 5, 3) := by decide +kernel
theorem dX7_isClosedIn_41 : decode cX7_isClosedIn 41 = .ok (.iconst 1, 1) := by decide +kernel
theorem dX7_isClosedIn_42 : decode cX7_isClosedIn 42 = .ok (.ireturn, 1) := by decide +kernel
theorem dX7_isClosedIn_43 : decode cX7_isClosedIn 43 = .ok (.iinc 3 1, 3) := by decide +kernel
theorem dX7_isClosedIn_46 : decode cX7_isClosedIn 46 = .ok (.goto (-44), 3) := by decide +kernel
theorem dX7_isClosedIn_49 : decode cX7_isClosedIn 49 = .ok (.iconst 0, 1) := by decide +kernel
theorem dX7_isClosedIn_50 : decode cX7_isClosedIn 50 = .ok (.ireturn, 1) := by decide +kernel
theorem dX7_firstOpen_0 : decode cX7_firstOpen 0 = .ok (.iload_n 2, 1) := by decide +kernel
theorem dX7_firstOpen_1 : decode cX7_firstOpen 1 = .ok (.istore 4, 2) := by decide +kernel
theorem dX7_firstOpen_3 : decode cX7_firstOpen 3 = .ok (.iconst 0, 1) := by decide +kernel
theorem dX7_firstOpen_4 : decode cX7_firstOpen 4 = .ok (.istore 5, 2) := by decide +kernel
theorem dX7_firstOpen_6 : decode cX7_firstOpen 6 = .ok (.iload 5, 2) := by decide +kernel
theorem dX7_firstOpen_8 : decode cX7_firstOpen 8 = .ok (.aload_n 0, 1) := by decide +kernel
theorem dX7_firstOpen_9 : decode cX7_firstOpen 9 = .ok (.getfield 33, 3) := by decide +kernel
theorem dX7_firstOpen_12 : decode cX7_firstOpen 12 = .ok (.iload_n 1, 1) := by decide +kernel
theorem dX7_firstOpen_13 : decode cX7_firstOpen 13 = .ok (.iaload, 1) := by decide +kernel
theorem dX7_firstOpen_14 : decode cX7_firstOpen 14 = .ok (.if_icmp .ge 72, 3) := by decide +kernel
theorem dX7_firstOpen_17 : decode cX7_firstOpen 17 = .ok (.iconst 0, 1) := by decide +kernel
theorem dX7_firstOpen_18 : decode cX7_firstOpen 18 = .ok (.istore 6, 2) := by decide +kernel
theorem dX7_firstOpen_20 : decode cX7_firstOpen 20 = .ok (.iload 6, 2) := by decide +kernel
theorem dX7_firstOpen_22 : decode cX7_firstOpen 22 = .ok (.aload_n 0, 1) := by decide +kernel
theorem dX7_firstOpen_23 : decode cX7_firstOpen 23 = .ok (.getfield 33, 3) := by decide +kernel
theorem dX7_firstOpen_26 : decode cX7_firstOpen 26 = .ok (.iload_n 1, 1) := by decide +kernel
theorem dX7_firstOpen_27 : decode cX7_firstOpen 27 = .ok (.iaload, 1) := by decide +kernel
theorem dX7_firstOpen_28 : decode cX7_firstOpen 28 = .ok (.if_icmp .ge 52, 3) := by decide +kernel
theorem dX7_firstOpen_31 : decode cX7_firstOpen 31 = .ok (.iload_n 1, 1) := by decide +kernel
theorem dX7_firstOpen_32 : decode cX7_firstOpen 32 = .ok (.iconst 4, 1) := by decide +kernel
theorem dX7_firstOpen_33 : decode cX7_firstOpen 33 = .ok (.imul, 1) := by decide +kernel
theorem dX7_firstOpen_34 : decode cX7_firstOpen 34 = .ok (.iload 6, 2) := by decide +kernel
theorem dX7_firstOpen_36 : decode cX7_firstOpen 36 = .ok (.iadd, 1) := by decide +kernel
theorem dX7_firstOpen_37 : decode cX7_firstOpen 37 = .ok (.istore 7, 2) := by decide +kernel
theorem dX7_firstOpen_39 : decode cX7_firstOpen 39 = .ok (.iload 4, 2) := by decide +kernel
theorem dX7_firstOpen_41 : decode cX7_firstOpen 41 = .ok (.aload_n 0, 1) := by decide +kernel
theorem dX7_firstOpen_42 : decode cX7_firstOpen 42 = .ok (.getfield 39, 3) := by decide +kernel
theorem dX7_firstOpen_45 : decode cX7_firstOpen 45 = .ok (.iload 7, 2) := by decide +kernel
theorem dX7_firstOpen_47 : decode cX7_firstOpen 47 = .ok (.iaload, 1) := by decide +kernel
theorem dX7_firstOpen_48 : decode cX7_firstOpen 48 = .ok (.if_icmp .ge 26, 3) := by decide +kernel
theorem dX7_firstOpen_51 : decode cX7_firstOpen 51 = .ok (.aload_n 0, 1) := by decide +kernel
theorem dX7_firstOpen_52 : decode cX7_firstOpen 52 = .ok (.getfield 36, 3) := by decide +kernel
theorem dX7_firstOpen_55 : decode cX7_firstOpen 55 = .ok (.iload 7, 2) := by decide +kernel
theorem dX7_firstOpen_57 : decode cX7_firstOpen 57 = .ok (.iaload, 1) := by decide +kernel
theorem dX7_firstOpen_58 : decode cX7_firstOpen 58 = .ok (.iload 4, 2) := by decide +kernel
theorem dX7_firstOpen_60 : decode cX7_firstOpen 60 = .ok (.iload_n 3, 1) := by decide +kernel
theorem dX7_firstOpen_61 : decode cX7_firstOpen 61 = .ok (.iadd, 1) := by decide +kernel
theorem dX7_firstOpen_62 : decode cX7_firstOpen 62 = .ok (.if_icmp .ge 12, 3) := by decide +kernel
theorem dX7_firstOpen_65 : decode cX7_firstOpen 65 = .ok (.aload_n 0, 1) := by decide +kernel
theorem dX7_firstOpen_66 : decode cX7_firstOpen 66 = .ok (.getfield 39, 3) := by decide +kernel
theorem dX7_firstOpen_69 : decode cX7_firstOpen 69 = .ok (.iload 7, 2) := by decide +kernel
theorem dX7_firstOpen_71 : decode cX7_firstOpen 71 = .ok (.iaload, 1) := by decide +kernel
theorem dX7_firstOpen_72 : decode cX7_firstOpen 72 = .ok (.istore 4, 2) := by decide +kernel
theorem dX7_firstOpen_74 : decode cX7_firstOpen 74 = .ok (.iinc 6 1, 3) := by decide +kernel
theorem dX7_firstOpen_77 : decode cX7_firstOpen 77 = .ok (.goto (-57), 3) := by decide +kernel
theorem dX7_firstOpen_80 : decode cX7_firstOpen 80 = .ok (.iinc 5 1, 3) := by decide +kernel
theorem dX7_firstOpen_83 : decode cX7_firstOpen 83 = .ok (.goto (-77), 3) := by decide +kernel
theorem dX7_firstOpen_86 : decode cX7_firstOpen 86 = .ok (.iload 4, 2) := by decide +kernel
theorem dX7_firstOpen_88 : decode cX7_firstOpen 88 = .ok (.ireturn, 1) := by decide +kernel
theorem dX8_init_0 : decode cX8_init 0 = .ok (.aload_n 0, 1) := by decide +kernel
theorem dX8_init_1 : decode cX8_init 1 = .ok (.invokespecial 3, 3) := by decide +kernel
theorem dX8_init_4 : decode cX8_init 4 = .ok (.aload_n 0, 1) := by decide +kernel
theorem dX8_init_5 : decode cX8_init 5 = .ok (.bipush 30, 2) := by decide +kernel
theorem dX8_init_7 : decode cX8_init 7 = .ok (.newarray .int, 2) := by decide +kernel
theorem dX8_init_9 : decode cX8_init 9 = .ok (.putfield 9, 3) := by decide +kernel
theorem dX8_init_12 : decode cX8_init 12 = .ok (.aload_n 0, 1) := by decide +kernel
theorem dX8_init_13 : decode cX8_init 13 = .ok (.bipush 6, 2) := by decide +kernel
theorem dX8_init_15 : decode cX8_init 15 = .ok (.newarray .int, 2) := by decide +kernel
theorem dX8_init_17 : decode cX8_init 17 = .ok (.putfield 15, 3) := by decide +kernel
theorem dX8_init_20 : decode cX8_init 20 = .ok (.aload_n 0, 1) := by decide +kernel
theorem dX8_init_21 : decode cX8_init 21 = .ok (.iconst 4, 1) := by decide +kernel
theorem dX8_init_22 : decode cX8_init 22 = .ok (.newarray .int, 2) := by decide +kernel
theorem dX8_init_24 : decode cX8_init 24 = .ok (.putfield 18, 3) := by decide +kernel
theorem dX8_init_27 : decode cX8_init 27 = .ok (.aload_n 0, 1) := by decide +kernel
theorem dX8_init_28 : decode cX8_init 28 = .ok (.bipush 120, 2) := by decide +kernel
theorem dX8_init_30 : decode cX8_init 30 = .ok (.newarray .int, 2) := by decide +kernel
theorem dX8_init_32 : decode cX8_init 32 = .ok (.putfield 21, 3) := by decide +kernel
theorem dX8_init_35 : decode cX8_init 35 = .ok (.aload_n 0, 1) := by decide +kernel
theorem dX8_init_36 : decode cX8_init 36 = .ok (.bipush 30, 2) := by decide +kernel
theorem dX8_init_38 : decode cX8_init 38 = .ok (.newarray .int, 2) := by decide +kernel
theorem dX8_init_40 : decode cX8_init 40 = .ok (.putfield 24, 3) := by decide +kernel
theorem dX8_init_43 : decode cX8_init 43 = .ok (.aload_n 0, 1) := by decide +kernel
theorem dX8_init_44 : decode cX8_init 44 = .ok (.bipush 30, 2) := by decide +kernel
theorem dX8_init_46 : decode cX8_init 46 = .ok (.newarray .int, 2) := by decide +kernel
theorem dX8_init_48 : decode cX8_init 48 = .ok (.putfield 27, 3) := by decide +kernel
theorem dX8_init_51 : decode cX8_init 51 = .ok (.aload_n 0, 1) := by decide +kernel
theorem dX8_init_52 : decode cX8_init 52 = .ok (.bipush 30, 2) := by decide +kernel
theorem dX8_init_54 : decode cX8_init 54 = .ok (.newarray .int, 2) := by decide +kernel
theorem dX8_init_56 : decode cX8_init 56 = .ok (.putfield 30, 3) := by decide +kernel
theorem dX8_init_59 : decode cX8_init 59 = .ok (.aload_n 0, 1) := by decide +kernel
theorem dX8_init_60 : decode cX8_init 60 = .ok (.bipush 30, 2) := by decide +kernel
theorem dX8_init_62 : decode cX8_init 62 = .ok (.newarray .int, 2) := by decide +kernel
theorem dX8_init_64 : decode cX8_init 64 = .ok (.putfield 33, 3) := by decide +kernel
theorem dX8_init_67 : decode cX8_init 67 = .ok (.aload_n 0, 1) := by decide +kernel
theorem dX8_init_68 : decode cX8_init 68 = .ok (.aload_n 1, 1) := by decide +kernel
theorem dX8_init_69 : decode cX8_init 69 = .ok (.putfield 36, 3) := by decide +kernel
theorem dX8_init_72 : decode cX8_init 72 = .ok (.return_, 1) := by decide +kernel
theorem dX8_clear_0 : decode cX8_clear 0 = .ok (.aload_n 0, 1) := by decide +kernel
theorem dX8_clear_1 : decode cX8_clear 1 = .ok (.iconst 0, 1) := by decide +kernel
theorem dX8_clear_2 : decode cX8_clear 2 = .ok (.putfield 40, 3) := by decide +kernel
theorem dX8_clear_5 : decode cX8_clear 5 = .ok (.aload_n 0, 1) := by decide +kernel
theorem dX8_clear_6 : decode cX8_clear 6 = .ok (.getfield 15, 3) := by decide +kernel
theorem dX8_clear_9 : decode cX8_clear 9 = .ok (.iconst 0, 1) := by decide +kernel
theorem dX8_clear_10 : decode cX8_clear 10 = .ok (.invokestatic 44, 3) := by decide +kernel
theorem dX8_clear_13 : decode cX8_clear 13 = .ok (.aload_n 0, 1) := by decide +kernel
theorem dX8_clear_14 : decode cX8_clear 14 = .ok (.getfield 18, 3) := by decide +kernel
theorem dX8_clear_17 : decode cX8_clear 17 = .ok (.iconst 0, 1) := by decide +kernel
theorem dX8_clear_18 : decode cX8_clear 18 = .ok (.invokestatic 44, 3) := by decide +kernel
theorem dX8_clear_21 : decode cX8_clear 21 = .ok (.return_, 1) := by decide +kernel
theorem dX8_hasLeft_0 : decode cX8_hasLeft 0 = .ok (.iload_n 1, 1) := by decide +kernel
theorem dX8_hasLeft_1 : decode cX8_hasLeft 1 = .ok (.ifCond .lt 36, 3) := by decide +kernel
theorem dX8_hasLeft_4 : decode cX8_hasLeft 4 = .ok (.iload_n 1, 1) := by decide +kernel
theorem dX8_hasLeft_5 : decode cX8_hasLeft 5 = .ok (.aload_n 0, 1) := by decide +kernel
theorem dX8_hasLeft_6 : decode cX8_hasLeft 6 = .ok (.getfield 36, 3) := by decide +kernel
theorem dX8_hasLeft_9 : decode cX8_hasLeft 9 = .ok (.getfield 50, 3) := by decide +kernel
theorem dX8_hasLeft_12 : decode cX8_hasLeft 12 = .ok (.if_icmp .ge 25, 3) := by decide +kernel
theorem dX8_hasLeft_15 : decode cX8_hasLeft 15 = .ok (.aload_n 0, 1) := by decide +kernel
theorem dX8_hasLeft_16 : decode cX8_hasLeft 16 = .ok (.getfield 15, 3) := by decide +kernel
theorem dX8_hasLeft_19 : decode cX8_hasLeft 19 = .ok (.iload_n 1, 1) := by decide +kernel
theorem dX8_hasLeft_20 : decode cX8_hasLeft 20 = .ok (.iaload, 1) := by decide +kernel
theorem dX8_hasLeft_21 : decode cX8_hasLeft 21 = .ok (.aload_n 0, 1) := by decide +kernel
theorem dX8_hasLeft_22 : decode cX8_hasLeft 22 = .ok (.getfield 36, 3) := by decide +kernel
theorem dX8_hasLeft_25 : decode cX8_hasLeft 25 = .ok (.getfield 55, 3) := by decide +kernel
theorem dX8_hasLeft_28 : decode cX8_hasLeft 28 = .ok (.iload_n 1, 1) := by decide +kernel
theorem dX8_hasLeft_29 : decode cX8_hasLeft 29 = .ok (.iaload, 1) := by decide +kernel
theorem dX8_hasLeft_30 : decode cX8_hasLeft 30 = .ok (.if_icmp .ge 7, 3) := by decide +kernel
theorem dX8_hasLeft_33 : decode cX8_hasLeft 33 = .ok (.iconst 1, 1) := by decide +kernel
theorem dX8_hasLeft_34 : decode cX8_hasLeft 34 = .ok (.goto 4, 3) := by decide +kernel
theorem dX8_hasLeft_37 : decode cX8_hasLeft 37 = .ok (.iconst 0, 1) := by decide +kernel
theorem dX8_hasLeft_38 : decode cX8_hasLeft 38 = .ok (.ireturn, 1) := by decide +kernel
theorem dX8_endOfStep_0 : decode cX8_endOfStep 0 = .ok (.aload_n 0, 1) := by decide +kernel
theorem dX8_endOfStep_1 : decode cX8_endOfStep 1 = .ok (.getfield 24, 3) := by decide +kernel
theorem dX8_endOfStep_4 : decode cX8_endOfStep 4 = .ok (.iload_n 1, 1) := by decide +kernel
theorem dX8_endOfStep_5 : decode cX8_endOfStep 5 = .ok (.iaload, 1) := by decide +kernel
theorem dX8_endOfStep_6 : decode cX8_endOfStep 6 = .ok (.aload_n 0, 1) := by decide +kernel
theorem dX8_endOfStep_7 : decode cX8_endOfStep 7 = .ok (.getfield 36, 3) := by decide +kernel
theorem dX8_endOfStep_10 : decode cX8_endOfStep 10 = .ok (.getfield 58, 3) := by decide +kernel
theorem dX8_endOfStep_13 : decode cX8_endOfStep 13 = .ok (.iload_n 1, 1) := by decide +kernel
theorem dX8_endOfStep_14 : decode cX8_endOfStep 14 = .ok (.iaload, 1) := by decide +kernel
theorem dX8_endOfStep_15 : decode cX8_endOfStep 15 = .ok (.iadd, 1) := by decide +kernel
theorem dX8_endOfStep_16 : decode cX8_endOfStep 16 = .ok (.ireturn, 1) := by decide +kernel
theorem dX8_nextStep_0 : decode cX8_nextStep 0 = .ok (.iload_n 1, 1) := by decide +kernel
theorem dX8_nextStep_1 : decode cX8_nextStep 1 = .ok (.iconst 5, 1) := by decide +kernel
theorem dX8_nextStep_2 : decode cX8_nextStep 2 = .ok (.imul, 1) := by decide +kernel
theorem dX8_nextStep_3 : decode cX8_nextStep 3 = .ok (.aload_n 0, 1) := by decide +kernel
theorem dX8_nextStep_4 : decode cX8_nextStep 4 = .ok (.getfield 15, 3) := by decide +kernel
theorem dX8_nextStep_7 : decode cX8_nextStep 7 = .ok (.iload_n 1, 1) := by decide +kernel
theorem dX8_nextStep_8 : decode cX8_nextStep 8 = .ok (.iaload, 1) := by decide +kernel
theorem dX8_nextStep_9 : decode cX8_nextStep 9 = .ok (.iadd, 1) := by decide +kernel
theorem dX8_nextStep_10 : decode cX8_nextStep 10 = .ok (.ireturn, 1) := by decide +kernel
theorem dX8_readyHour_0 : decode cX8_readyHour 0 = .ok (.aload_n 0, 1) := by decide +kernel
theorem dX8_readyHour_1 : decode cX8_readyHour 1 = .ok (.getfield 15, 3) := by decide +kernel
theorem dX8_readyHour_4 : decode cX8_readyHour 4 = .ok (.iload_n 1, 1) := by decide +kernel
theorem dX8_readyHour_5 : decode cX8_readyHour 5 = .ok (.iaload, 1) := by decide +kernel
theorem dX8_readyHour_6 : decode cX8_readyHour 6 = .ok (.ifCond .ne 15, 3) := by decide +kernel
theorem dX8_readyHour_9 : decode cX8_readyHour 9 = .ok (.aload_n 0, 1) := by decide +kernel
theorem dX8_readyHour_10 : decode cX8_readyHour 10 = .ok (.getfield 36, 3) := by decide +kernel
theorem dX8_readyHour_13 : decode cX8_readyHour 13 = .ok (.getfield 61, 3) := by decide +kernel
theorem dX8_readyHour_16 : decode cX8_readyHour 16 = .ok (.iload_n 1, 1) := by decide +kernel
theorem dX8_readyHour_17 : decode cX8_readyHour 17 = .ok (.iaload, 1) := by decide +kernel
theorem dX8_readyHour_18 : decode cX8_readyHour 18 = .ok (.goto 14, 3) := by decide +kernel
theorem dX8_readyHour_21 : decode cX8_readyHour 21 = .ok (.aload_n 0, 1) := by decide +kernel
theorem dX8_readyHour_22 : decode cX8_readyHour 22 = .ok (.aload_n 0, 1) := by decide +kernel
theorem dX8_readyHour_23 : decode cX8_readyHour 23 = .ok (.iload_n 1, 1) := by decide +kernel
theorem dX8_readyHour_24 : decode cX8_readyHour 24 = .ok (.invokevirtual 64, 3) := by decide +kernel
theorem dX8_readyHour_27 : decode cX8_readyHour 27 = .ok (.iconst 1, 1) := by decide +kernel
theorem dX8_readyHour_28 : decode cX8_readyHour 28 = .ok (.isub, 1) := by decide +kernel
theorem dX8_readyHour_29 : decode cX8_readyHour 29 = .ok (.invokevirtual 68, 3) := by decide +kernel
theorem dX8_readyHour_32 : decode cX8_readyHour 32 = .ok (.ireturn, 1) := by decide +kernel
theorem dX8_lastOn_0 : decode cX8_lastOn 0 = .ok (.aload_n 0, 1) := by decide +kernel
theorem dX8_lastOn_1 : decode cX8_lastOn 1 = .ok (.getfield 18, 3) := by decide +kernel
theorem dX8_lastOn_4 : decode cX8_lastOn 4 = .ok (.iload_n 1, 1) := by decide +kernel
theorem dX8_lastOn_5 : decode cX8_lastOn 5 = .ok (.iaload, 1) := by decide +kernel
theorem dX8_lastOn_6 : decode cX8_lastOn 6 = .ok (.ifCond .ne 7, 3) := by decide +kernel
theorem dX8_lastOn_9 : decode cX8_lastOn 9 = .ok (.iconst (-1), 1) := by decide +kernel
theorem dX8_lastOn_10 : decode cX8_lastOn 10 = .ok (.goto 21, 3) := by decide +kernel
theorem dX8_lastOn_13 : decode cX8_lastOn 13 = .ok (.aload_n 0, 1) := by decide +kernel
theorem dX8_lastOn_14 : decode cX8_lastOn 14 = .ok (.getfield 21, 3) := by decide +kernel
theorem dX8_lastOn_17 : decode cX8_lastOn 17 = .ok (.iload_n 1, 1) := by decide +kernel
theorem dX8_lastOn_18 : decode cX8_lastOn 18 = .ok (.bipush 30, 2) := by decide +kernel
theorem dX8_lastOn_20 : decode cX8_lastOn 20 = .ok (.imul, 1) := by decide +kernel
theorem dX8_lastOn_21 : decode cX8_lastOn 21 = .ok (.aload_n 0, 1) := by decide +kernel
theorem dX8_lastOn_22 : decode cX8_lastOn 22 = .ok (.getfield 18, 3) := by decide +kernel
theorem dX8_lastOn_25 : decode cX8_lastOn 25 = .ok (.iload_n 1, 1) := by decide +kernel
theorem dX8_lastOn_26 : decode cX8_lastOn 26 = .ok (.iaload, 1) := by decide +kernel
theorem dX8_lastOn_27 : decode cX8_lastOn 27 = .ok (.iadd, 1) := by decide +kernel
theorem dX8_lastOn_28 : decode cX8_lastOn 28 = .ok (.iconst 1, 1) := by decide +kernel
theorem dX8_lastOn_29 : decode cX8_lastOn 29 = .ok (.isub, 1) := by decide +kernel
theorem dX8_lastOn_30 : decode cX8_lastOn 30 = .ok (.iaload, 1) := by decide +kernel
theorem dX8_lastOn_31 : decode cX8_lastOn 31 = .ok (.ireturn, 1) := by decide +kernel
theorem dX8_needsTool_0 : decode cX8_needsTool 0 = .ok (.aload_n 0, 1) := by decide +kernel
theorem dX8_needsTool_1 : decode cX8_needsTool 1 = .ok (.getfield 36, 3) := by decide +kernel
theorem dX8_needsTool_4 : decode cX8_needsTool 4 = .ok (.getfield 71, 3) := by decide +kernel
theorem dX8_needsTool_7 : decode cX8_needsTool 7 = .ok (.aload_n 0, 1) := by decide +kernel
theorem dX8_needsTool_8 : decode cX8_needsTool 8 = .ok (.getfield 36, 3) := by decide +kernel
theorem dX8_needsTool_11 : decode cX8_needsTool 11 = .ok (.getfield 74, 3) := by decide +kernel
theorem dX8_needsTool_14 : decode cX8_needsTool 14 = .ok (.iload_n 2, 1) := by decide +kernel
theorem dX8_needsTool_15 : decode cX8_needsTool 15 = .ok (.iaload, 1) := by decide +kernel
theorem dX8_needsTool_16 : decode cX8_needsTool 16 = .ok (.iaload, 1) := by decide +kernel
theorem dX8_needsTool_17 : decode cX8_needsTool 17 = .ok (.istore_n 3, 1) := by decide +kernel
theorem dX8_needsTool_18 : decode cX8_needsTool 18 = .ok (.iload_n 3, 1) := by decide +kernel
theorem dX8_needsTool_19 : decode cX8_needsTool 19 = .ok (.ifCond .eq 27, 3) := by decide +kernel
theorem dX8_needsTool_22 : decode cX8_needsTool 22 = .ok (.aload_n 0, 1) := by decide +kernel
theorem dX8_needsTool_23 : decode cX8_needsTool 23 = .ok (.getfield 33, 3) := by decide +kernel
theorem dX8_needsTool_26 : decode cX8_needsTool 26 = .ok (.iload_n 1, 1) := by decide +kernel
theorem dX8_needsTool_27 : decode cX8_needsTool 27 = .ok (.iaload, 1) := by decide +kernel
theorem dX8_needsTool_28 : decode cX8_needsTool 28 = .ok (.aload_n 0, 1) := by decide +kernel
theorem dX8_needsTool_29 : decode cX8_needsTool 29 = .ok (.getfield 36, 3) := by decide +kernel
theorem dX8_needsTool_32 : decode cX8_needsTool 32 = .ok (.getfield 58, 3) := by decide +kernel
theorem dX8_needsTool_35 : decode cX8_needsTool 35 = .ok (.iload_n 2, 1) := by decide +kernel
theorem dX8_needsTool_36 : decode cX8_needsTool 36 = .ok (.iaload, 1) := by decide +kernel
theorem dX8_needsTool_37 : decode cX8_needsTool 37 = .ok (.iadd, 1) := by decide +kernel
theorem dX8_needsTool_38 : decode cX8_needsTool 38 = .ok (.iload_n 3, 1) := by decide +kernel
theorem dX8_needsTool_39 : decode cX8_needsTool 39 = .ok (.if_icmp .le 7, 3) := by decide +kernel
theorem dX8_needsTool_42 : decode cX8_needsTool 42 = .ok (.iconst 1, 1) := by decide +kernel
theorem dX8_needsTool_43 : decode cX8_needsTool 43 = .ok (.goto 4, 3) := by decide +kernel
theorem dX8_needsTool_46 : decode cX8_needsTool 46 = .ok (.iconst 0, 1) := by decide +kernel
theorem dX8_needsTool_47 : decode cX8_needsTool 47 = .ok (.ireturn, 1) := by decide +kernel
theorem dX8_hoursBetween_0 : decode cX8_hoursBetween 0 = .ok (.aload_n 0, 1) := by decide +kernel
theorem dX8_hoursBetween_1 : decode cX8_hoursBetween 1 = .ok (.getfield 36, 3) := by decide +kernel
theorem dX8_hoursBetween_4 : decode cX8_hoursBetween 4 = .ok (.getfield 77, 3) := by decide +kernel
theorem dX8_hoursBetween_7 : decode cX8_hoursBetween 7 = .ok (.aload_n 0, 1) := by decide +kernel
theorem dX8_hoursBetween_8 : decode cX8_hoursBetween 8 = .ok (.getfield 36, 3) := by decide +kernel
theorem dX8_hoursBetween_11 : decode cX8_hoursBetween 11 = .ok (.getfield 80, 3) := by decide +kernel
theorem dX8_hoursBetween_14 : decode cX8_hoursBetween 14 = .ok (.iload_n 1, 1) := by decide +kernel
theorem dX8_hoursBetween_15 : decode cX8_hoursBetween 15 = .ok (.iconst 5, 1) := by decide +kernel
theorem dX8_hoursBetween_16 : decode cX8_hoursBetween 16 = .ok (.idiv, 1) := by decide +kernel
theorem dX8_hoursBetween_17 : decode cX8_hoursBetween 17 = .ok (.iaload, 1) := by decide +kernel
theorem dX8_hoursBetween_18 : decode cX8_hoursBetween 18 = .ok (.iconst 4, 1) := by decide +kernel
theorem dX8_hoursBetween_19 : decode cX8_hoursBetween 19 = .ok (.imul, 1) := by decide +kernel
theorem dX8_hoursBetween_20 : decode cX8_hoursBetween 20 = .ok (.aload_n 0, 1) := by decide +kernel
theorem dX8_hoursBetween_21 : decode cX8_hoursBetween 21 = .ok (.getfield 36, 3) := by decide +kernel
theorem dX8_hoursBetween_24 : decode cX8_hoursBetween 24 = .ok (.getfield 80, 3) := by decide +kernel
theorem dX8_hoursBetween_27 : decode cX8_hoursBetween 27 = .ok (.iload_n 2, 1) := by decide +kernel
theorem dX8_hoursBetween_28 : decode cX8_hoursBetween 28 = .ok (.iconst 5, 1) := by decide +kernel
theorem dX8_hoursBetween_29 : decode cX8_hoursBetween 29 = .ok (.idiv, 1) := by decide +kernel
theorem dX8_hoursBetween_30 : decode cX8_hoursBetween 30 = .ok (.iaload, 1) := by decide +kernel
theorem dX8_hoursBetween_31 : decode cX8_hoursBetween 31 = .ok (.iadd, 1) := by decide +kernel
theorem dX8_hoursBetween_32 : decode cX8_hoursBetween 32 = .ok (.iaload, 1) := by decide +kernel
theorem dX8_hoursBetween_33 : decode cX8_hoursBetween 33 = .ok (.istore_n 3, 1) := by decide +kernel
theorem dX8_hoursBetween_34 : decode cX8_hoursBetween 34 = .ok (.aload_n 0, 1) := by decide +kernel
theorem dX8_hoursBetween_35 : decode cX8_hoursBetween 35 = .ok (.iload_n 1, 1) := by decide +kernel
theorem dX8_hoursBetween_36 : decode cX8_hoursBetween 36 = .ok (.iload_n 2, 1) := by decide +kernel
theorem dX8_hoursBetween_37 : decode cX8_hoursBetween 37 = .ok (.invokevirtual 83, 3) := by decide +kernel
theorem dX8_hoursBetween_40 : decode cX8_hoursBetween 40 = .ok (.ifCond .eq 25, 3) := by decide +kernel
theorem dX8_hoursBetween_43 : decode cX8_hoursBetween 43 = .ok (.iload_n 3, 1) := by decide +kernel
theorem dX8_hoursBetween_44 : decode cX8_hoursBetween 44 = .ok (.aload_n 0, 1) := by decide +kernel
theorem dX8_hoursBetween_45 : decode cX8_hoursBetween 45 = .ok (.getfield 36, 3) := by decide +kernel
theorem dX8_hoursBetween_48 : decode cX8_hoursBetween 48 = .ok (.getfield 87, 3) := by decide +kernel
theorem dX8_hoursBetween_51 : decode cX8_hoursBetween 51 = .ok (.aload_n 0, 1) := by decide +kernel
theorem dX8_hoursBetween_52 : decode cX8_hoursBetween 52 = .ok (.getfield 36, 3) := by decide +kernel
theorem dX8_hoursBetween_55 : decode cX8_hoursBetween 55 = .ok (.getfield 74, 3) := by decide +kernel
theorem dX8_hoursBetween_58 : decode cX8_hoursBetween 58 = .ok (.iload_n 2, 1) := by decide +kernel
theorem dX8_hoursBetween_59 : decode cX8_hoursBetween 59 = .ok (.iaload, 1) := by decide +kernel
theorem dX8_hoursBetween_60 : decode cX8_hoursBetween 60 = .ok (.iaload, 1) := by decide +kernel
theorem dX8_hoursBetween_61 : decode cX8_hoursBetween 61 = .ok (.iadd, 1) := by decide +kernel
theorem dX8_hoursBetween_62 : decode cX8_hoursBetween 62 = .ok (.goto 4, 3) := by decide +kernel
theorem dX8_hoursBetween_65 : decode cX8_hoursBetween 65 = .ok (.iload_n 3, 1) := by decide +kernel
theorem dX8_hoursBetween_66 : decode cX8_hoursBetween 66 = .ok (.ireturn, 1) := by decide +kernel
theorem dX8_firstHour_0 : decode cX8_firstHour 0 = .ok (.aload_n 0, 1) := by decide +kernel
theorem dX8_firstHour_1 : decode cX8_firstHour 1 = .ok (.iload_n 1, 1) := by decide +kernel
theorem dX8_firstHour_2 : decode cX8_firstHour 2 = .ok (.invokevirtual 64, 3) := by decide +kernel
theorem dX8_firstHour_5 : decode cX8_firstHour 5 = .ok (.istore_n 3, 1) := by decide +kernel
theorem dX8_firstHour_6 : decode cX8_firstHour 6 = .ok (.aload_n 0, 1) := by decide +kernel
theorem dX8_firstHour_7 : decode cX8_firstHour 7 = .ok (.getfield 36, 3) := by decide +kernel
theorem dX8_firstHour_10 : decode cX8_firstHour 10 = .ok (.getfield 74, 3) := by decide +kernel
theorem dX8_firstHour_13 : decode cX8_firstHour 13 = .ok (.iload_n 3, 1) := by decide +kernel
theorem dX8_firstHour_14 : decode cX8_firstHour 14 = .ok (.iaload, 1) := by decide +kernel
theorem dX8_firstHour_15 : decode cX8_firstHour 15 = .ok (.istore 4, 2) := by decide +kernel
theorem dX8_firstHour_17 : decode cX8_firstHour 17 = .ok (.aload_n 0, 1) := by decide +kernel
theorem dX8_firstHour_18 : decode cX8_firstHour 18 = .ok (.iload 4, 2) := by decide +kernel
theorem dX8_firstHour_20 : decode cX8_firstHour 20 = .ok (.invokevirtual 90, 3) := by decide +kernel
theorem dX8_firstHour_23 : decode cX8_firstHour 23 = .ok (.istore 5, 2) := by decide +kernel
theorem dX8_firstHour_25 : decode cX8_firstHour 25 = .ok (.aload_n 0, 1) := by decide +kernel
theorem dX8_firstHour_26 : decode cX8_firstHour 26 = .ok (.iload_n 1, 1) := by decide +kernel
theorem dX8_firstHour_27 : decode cX8_firstHour 27 = .ok (.invokevirtual 93, 3) := by decide +kernel
theorem dX8_firstHour_30 : decode cX8_firstHour 30 = .ok (.iload_n 2, 1) := by decide +kernel
theorem dX8_firstHour_31 : decode cX8_firstHour 31 = .ok (.invokestatic 96, 3) := by decide +kernel
theorem dX8_firstHour_34 : decode cX8_firstHour 34 = .ok (.istore 6, 2) := by decide +kernel
theorem dX8_firstHour_36 : decode cX8_firstHour 36 = .ok (.iload 5, 2) := by decide +kernel
theorem dX8_firstHour_38 : decode cX8_firstHour 38 = .ok (.iconst (-1), 1) := by decide +kernel
theorem dX8_firstHour_39 : decode cX8_firstHour 39 = .ok (.if_icmp .eq 24, 3) := by decide +kernel
theorem dX8_firstHour_42 : decode cX8_firstHour 42 = .ok (.iload 6, 2) := by decide +kernel
theorem dX8_firstHour_44 : decode cX8_firstHour 44 = .ok (.aload_n 0, 1) := by decide +kernel
theorem dX8_firstHour_45 : decode cX8_firstHour 45 = .ok (.iload 5, 2) := by decide +kernel
theorem dX8_firstHour_47 : decode cX8_firstHour 47 = .ok (.invokevirtual 68, 3) := by decide +kernel
theorem dX8_firstHour_50 : decode cX8_firstHour 50 = .ok (.aload_n 0, 1) := by decide +kernel
theorem dX8_firstHour_51 : decode cX8_firstHour 51 = .ok (.iload 5, 2) := by decide +kernel
theorem dX8_firstHour_53 : decode cX8_firstHour 53 = .ok (.iload_n 3, 1) := by decide +kernel
theorem dX8_firstHour_54 : decode cX8_firstHour 54 = .ok (.invokevirtual 102, 3) := by decide +kernel
theorem dX8_firstHour_57 : decode cX8_firstHour 57 = .ok (.iadd, 1) := by decide +kernel
theorem dX8_firstHour_58 : decode cX8_firstHour 58 = .ok (.invokestatic 96, 3) := by decide +kernel
theorem dX8_firstHour_61 : decode cX8_firstHour 61 = .ok (.istore 6, 2) := by decide +kernel
theorem dX8_firstHour_63 : decode cX8_firstHour 63 = .ok (.aload_n 0, 1) := by decide +kernel
theorem dX8_firstHour_64 : decode cX8_firstHour 64 = .ok (.getfield 36, 3) := by decide +kernel
theorem dX8_firstHour_67 : decode cX8_firstHour 67 = .ok (.iload 4, 2) := by decide +kernel
theorem dX8_firstHour_69 : decode cX8_firstHour 69 = .ok (.iload 6, 2) := by decide +kernel
theorem dX8_firstHour_71 : decode cX8_firstHour 71 = .ok (.aload_n 0, 1) := by decide +kernel
theorem dX8_firstHour_72 : decode cX8_firstHour 72 = .ok (.getfield 36, 3) := by decide +kernel
theorem dX8_firstHour_75 : decode cX8_firstHour 75 = .ok (.getfield 58, 3) := by decide +kernel
theorem dX8_firstHour_78 : decode cX8_firstHour 78 = .ok (.iload_n 3, 1) := by decide +kernel
theorem dX8_firstHour_79 : decode cX8_firstHour 79 = .ok (.iaload, 1) := by decide +kernel
theorem dX8_firstHour_80 : decode cX8_firstHour 80 = .ok (.invokevirtual 105, 3) := by decide +kernel
theorem dX8_firstHour_83 : decode cX8_firstHour 83 = .ok (.ireturn, 1) := by decide +kernel
theorem dX8_put_0 : decode cX8_put 0 = .ok (.aload_n 0, 1) := by decide +kernel
theorem dX8_put_1 : decode cX8_put 1 = .ok (.iload_n 1, 1) := by decide +kernel
theorem dX8_put_2 : decode cX8_put 2 = .ok (.invokevirtual 109, 3) := by decide +kernel
theorem dX8_put_5 : decode cX8_put 5 = .ok (.ifCond .eq 12, 3) := by decide +kernel
theorem dX8_put_8 : decode cX8_put 8 = .ok (.aload_n 0, 1) := by decide +kernel
theorem dX8_put_9 : decode cX8_put 9 = .ok (.getfield 40, 3) := by decide +kernel
theorem dX8_put_12 : decode cX8_put 12 = .ok (.bipush 30, 2) := by decide +kernel
theorem dX8_put_14 : decode cX8_put 14 = .ok (.if_icmp .lt 4, 3) := by decide +kernel
theorem dX8_put_17 : decode cX8_put 17 = .ok (.return_, 1) := by decide +kernel
theorem dX8_put_18 : decode cX8_put 18 = .ok (.aload_n 0, 1) := by decide +kernel
theorem dX8_put_19 : decode cX8_put 19 = .ok (.iload_n 1, 1) := by decide +kernel
theorem dX8_put_20 : decode cX8_put 20 = .ok (.invokevirtual 64, 3) := by decide +kernel
theorem dX8_put_23 : decode cX8_put 23 = .ok (.istore_n 3, 1) := by decide +kernel
theorem dX8_put_24 : decode cX8_put 24 = .ok (.aload_n 0, 1) := by decide +kernel
theorem dX8_put_25 : decode cX8_put 25 = .ok (.getfield 36, 3) := by decide +kernel
theorem dX8_put_28 : decode cX8_put 28 = .ok (.getfield 74, 3) := by decide +kernel
theorem dX8_put_31 : decode cX8_put 31 = .ok (.iload_n 3, 1) := by decide +kernel
theorem dX8_put_32 : decode cX8_put 32 = .ok (.iaload, 1) := by decide +kernel
theorem dX8_put_33 : decode cX8_put 33 = .ok (.istore 4, 2) := by decide +kernel
theorem dX8_put_35 : decode cX8_put 35 = .ok (.aload_n 0, 1) := by decide +kernel
theorem dX8_put_36 : decode cX8_put 36 = .ok (.iload 4, 2) := by decide +kernel
theorem dX8_put_38 : decode cX8_put 38 = .ok (.invokevirtual 90, 3) := by decide +kernel
theorem dX8_put_41 : decode cX8_put 41 = .ok (.istore 5, 2) := by decide +kernel
theorem dX8_put_43 : decode cX8_put 43 = .ok (.aload_n 0, 1) := by decide +kernel
theorem dX8_put_44 : decode cX8_put 44 = .ok (.getfield 24, 3) := by decide +kernel
theorem dX8_put_47 : decode cX8_put 47 = .ok (.iload_n 3, 1) := by decide +kernel
theorem dX8_put_48 : decode cX8_put 48 = .ok (.aload_n 0, 1) := by decide +kernel
theorem dX8_put_49 : decode cX8_put 49 = .ok (.iload_n 1, 1) := by decide +kernel
theorem dX8_put_50 : decode cX8_put 50 = .ok (.iload_n 2, 1) := by decide +kernel
theorem dX8_put_51 : decode cX8_put 51 = .ok (.invokevirtual 113, 3) := by decide +kernel
theorem dX8_put_54 : decode cX8_put 54 = .ok (.iastore, 1) := by decide +kernel
theorem dX8_put_55 : decode cX8_put 55 = .ok (.aload_n 0, 1) := by decide +kernel
theorem dX8_put_56 : decode cX8_put 56 = .ok (.getfield 27, 3) := by decide +kernel
theorem dX8_put_59 : decode cX8_put 59 = .ok (.iload_n 3, 1) := by decide +kernel
theorem dX8_put_60 : decode cX8_put 60 = .ok (.iload 5, 2) := by decide +kernel
theorem dX8_put_62 : decode cX8_put 62 = .ok (.iastore, 1) := by decide +kernel
theorem dX8_put_63 : decode cX8_put 63 = .ok (.aload_n 0, 1) := by decide +kernel
theorem dX8_put_64 : decode cX8_put 64 = .ok (.getfield 30, 3) := by decide +kernel
theorem dX8_put_67 : decode cX8_put 67 = .ok (.iload_n 3, 1) := by decide +kernel
theorem dX8_put_68 : decode cX8_put 68 = .ok (.iload 5, 2) := by decide +kernel
theorem dX8_put_70 : decode cX8_put 70 = .ok (.iconst (-1), 1) := by decide +kernel
theorem dX8_put_71 : decode cX8_put 71 = .ok (.if_icmp .ne 7, 3) := by decide +kernel
theorem dX8_put_74 : decode cX8_put 74 = .ok (.iconst 0, 1) := by decide +kernel
theorem dX8_put_75 : decode cX8_put 75 = .ok (.goto 10, 3) := by decide +kernel
theorem dX8_put_78 : decode cX8_put 78 = .ok (.aload_n 0, 1) := by decide +kernel
theorem dX8_put_79 : decode cX8_put 79 = .ok (.iload 5, 2) := by decide +kernel
theorem dX8_put_81 : decode cX8_put 81 = .ok (.iload_n 3, 1) := by decide +kernel
theorem dX8_put_82 : decode cX8_put 82 = .ok (.invokevirtual 102, 3) := by decide +kernel
theorem dX8_put_85 : decode cX8_put 85 = .ok (.iastore, 1) := by decide +kernel
theorem dX8_put_86 : decode cX8_put 86 = .ok (.iload 5, 2) := by decide +kernel
theorem dX8_put_88 : decode cX8_put 88 = .ok (.iconst (-1), 1) := by decide +kernel
theorem dX8_put_89 : decode cX8_put 89 = .ok (.if_icmp .eq 13, 3) := by decide +kernel
theorem dX8_put_92 : decode cX8_put 92 = .ok (.aload_n 0, 1) := by decide +kernel
theorem dX8_put_93 : decode cX8_put 93 = .ok (.iload 5, 2) := by decide +kernel
theorem dX8_put_95 : decode cX8_put 95 = .ok (.iload_n 3, 1) := by decide +kernel
theorem dX8_put_96 : decode cX8_put 96 = .ok (.invokevirtual 83, 3) := by decide +kernel
theorem dX8_put_99 : decode cX8_put 99 = .ok (.ifCond .eq 7, 3) := by decide +kernel
theorem dX8_put_102 : decode cX8_put 102 = .ok (.iconst 1, 1) := by decide +kernel
theorem dX8_put_103 : decode cX8_put 103 = .ok (.goto 4, 3) := by decide +kernel
theorem dX8_put_106 : decode cX8_put 106 = .ok (.iconst 0, 1) := by decide +kernel
theorem dX8_put_107 : decode cX8_put 107 = .ok (.istore 6, 2) := by decide +kernel
theorem dX8_put_109 : decode cX8_put 109 = .ok (.aload_n 0, 1) := by decide +kernel
theorem dX8_put_110 : decode cX8_put 110 = .ok (.getfield 33, 3) := by decide +kernel
theorem dX8_put_113 : decode cX8_put 113 = .ok (.iload_n 3, 1) := by decide +kernel
theorem dX8_put_114 : decode cX8_put 114 = .ok (.iload 6, 2) := by decide +kernel
theorem dX8_put_116 : decode cX8_put 116 = .ok (.ifCond .eq 15, 3) := by decide +kernel
theorem dX8_put_119 : decode cX8_put 119 = .ok (.aload_n 0, 1) := by decide +kernel
theorem dX8_put_120 : decode cX8_put 120 = .ok (.getfield 36, 3) := by decide +kernel
theorem dX8_put_123 : decode cX8_put 123 = .ok (.getfield 58, 3) := by decide +kernel
theorem dX8_put_126 : decode cX8_put 126 = .ok (.iload_n 3, 1) := by decide +kernel
theorem dX8_put_127 : decode cX8_put 127 = .ok (.iaload, 1) := by decide +kernel
theorem dX8_put_128 : decode cX8_put 128 = .ok (.goto 20, 3) := by decide +kernel
theorem dX8_put_131 : decode cX8_put 131 = .ok (.aload_n 0, 1) := by decide +kernel
theorem dX8_put_132 : decode cX8_put 132 = .ok (.getfield 33, 3) := by decide +kernel
theorem dX8_put_135 : decode cX8_put 135 = .ok (.iload 5, 2) := by decide +kernel
theorem dX8_put_137 : decode cX8_put 137 = .ok (.iaload, 1) := by decide +kernel
theorem dX8_put_138 : decode cX8_put 138 = .ok (.aload_n 0, 1) := by decide +kernel
theorem dX8_put_139 : decode cX8_put 139 = .ok (.getfield 36, 3) := by decide +kernel
theorem dX8_put_142 : decode cX8_put 142 = .ok (.getfield 58, 3) := by decide +kernel
theorem dX8_put_145 : decode cX8_put 145 = .ok (.iload_n 3, 1) := by decide +kernel
theorem dX8_put_146 : decode cX8_put 146 = .ok (.iaload, 1) := by decide +kernel
theorem dX8_put_147 : decode cX8_put 147 = .ok (.iadd, 1) := by decide +kernel
theorem dX8_put_148 : decode cX8_put 148 = .ok (.iastore, 1) := by decide +kernel
theorem dX8_put_149 : decode cX8_put 149 = .ok (.aload_n 0, 1) := by decide +kernel
theorem dX8_put_150 : decode cX8_put 150 = .ok (.getfield 21, 3) := by decide +kernel
theorem dX8_put_153 : decode cX8_put 153 = .ok (.iload 4, 2) := by decide +kernel
theorem dX8_put_155 : decode cX8_put 155 = .ok (.bipush 30, 2) := by decide +kernel
theorem dX8_put_157 : decode cX8_put 157 = .ok (.imul, 1) := by decide +kernel
theorem dX8_put_158 : decode cX8_put 158 = .ok (.aload_n 0, 1) := by decide +kernel
theorem dX8_put_159 : decode cX8_put 159 = .ok (.getfield 18, 3) := by decide +kernel
theorem dX8_put_162 : decode cX8_put 162 = .ok (.iload 4, 2) := by decide +kernel
theorem dX8_put_164 : decode cX8_put 164 = .ok (.iaload, 1) := by decide +kernel
theorem dX8_put_165 : decode cX8_put 165 = .ok (.iadd, 1) := by decide +kernel
theorem dX8_put_166 : decode cX8_put 166 = .ok (.iload_n 3, 1) := by decide +kernel
theorem dX8_put_167 : decode cX8_put 167 = .ok (.iastore, 1) := by decide +kernel
theorem dX8_put_168 : decode cX8_put 168 = .ok (.aload_n 0, 1) := by decide +kernel
theorem dX8_put_169 : decode cX8_put 169 = .ok (.getfield 18, 3) := by decide +kernel
theorem dX8_put_172 : decode cX8_put 172 = .ok (.iload 4, 2) := by decide +kernel
theorem dX8_put_174 : decode cX8_put 174 = .ok (.dup2, 1) := by decide +kernel
theorem dX8_put_175 : decode cX8_put 175 = .ok (.iaload, 1) := by decide +kernel
theorem dX8_put_176 : decode cX8_put 176 = .ok (.iconst 1, 1) := by decide +kernel
theorem dX8_put_177 : decode cX8_put 177 = .ok (.iadd, 1) := by decide +kernel
theorem dX8_put_178 : decode cX8_put 178 = .ok (.iastore, 1) := by decide +kernel
theorem dX8_put_179 : decode cX8_put 179 = .ok (.aload_n 0, 1) := by decide +kernel
theorem dX8_put_180 : decode cX8_put 180 = .ok (.getfield 15, 3) := by decide +kernel
theorem dX8_put_183 : decode cX8_put 183 = .ok (.iload_n 1, 1) := by decide +kernel
theorem dX8_put_184 : decode cX8_put 184 = .ok (.dup2, 1) := by decide +kernel
theorem dX8_put_185 : decode cX8_put 185 = .ok (.iaload, 1) := by decide +kernel
theorem dX8_put_186 : decode cX8_put 186 = .ok (.iconst 1, 1) := by decide +kernel
theorem dX8_put_187 : decode cX8_put 187 = .ok (.iadd, 1) := by decide +kernel
theorem dX8_put_188 : decode cX8_put 188 = .ok (.iastore, 1) := by decide +kernel
theorem dX8_put_189 : decode cX8_put 189 = .ok (.aload_n 0, 1) := by decide +kernel
theorem dX8_put_190 : decode cX8_put 190 = .ok (.getfield 9, 3) := by decide +kernel
theorem dX8_put_193 : decode cX8_put 193 = .ok (.aload_n 0, 1) := by decide +kernel
theorem dX8_put_194 : decode cX8_put 194 = .ok (.getfield 40, 3) := by decide +kernel
theorem dX8_put_197 : decode cX8_put 197 = .ok (.iload_n 1, 1) := by decide +kernel
theorem dX8_put_198 : decode cX8_put 198 = .ok (.iastore, 1) := by decide +kernel
theorem dX8_put_199 : decode cX8_put 199 = .ok (.aload_n 0, 1) := by decide +kernel
theorem dX8_put_200 : decode cX8_put 200 = .ok (.dup, 1) := by decide +kernel
theorem dX8_put_201 : decode cX8_put 201 = .ok (.getfield 40, 3) := by decide +kernel
theorem dX8_put_204 : decode cX8_put 204 = .ok (.iconst 1, 1) := by decide +kernel
theorem dX8_put_205 : decode cX8_put 205 = .ok (.iadd, 1) := by decide +kernel
theorem dX8_put_206 : decode cX8_put 206 = .ok (.putfield 40, 3) := by decide +kernel
theorem dX8_put_209 : decode cX8_put 209 = .ok (.return_, 1) := by decide +kernel
theorem dX8_takeBack_0 : decode cX8_takeBack 0 = .ok (.aload_n 0, 1) := by decide +kernel
theorem dX8_takeBack_1 : decode cX8_takeBack 1 = .ok (.getfield 40, 3) := by decide +kernel
theorem dX8_takeBack_4 : decode cX8_takeBack 4 = .ok (.ifCond .le 55, 3) := by decide +kernel
theorem dX8_takeBack_7 : decode cX8_takeBack 7 = .ok (.aload_n 0, 1) := by decide +kernel
theorem dX8_takeBack_8 : decode cX8_takeBack 8 = .ok (.dup, 1) := by decide +kernel
theorem dX8_takeBack_9 : decode cX8_takeBack 9 = .ok (.getfield 40, 3) := by decide +kernel
theorem dX8_takeBack_12 : decode cX8_takeBack 12 = .ok (.iconst 1, 1) := by decide +kernel
theorem dX8_takeBack_13 : decode cX8_takeBack 13 = .ok (.isub, 1) := by decide +kernel
theorem dX8_takeBack_14 : decode cX8_takeBack 14 = .ok (.putfield 40, 3) := by decide +kernel
theorem dX8_takeBack_17 : decode cX8_takeBack 17 = .ok (.aload_n 0, 1) := by decide +kernel
theorem dX8_takeBack_18 : decode cX8_takeBack 18 = .ok (.getfield 9, 3) := by decide +kernel
theorem dX8_takeBack_21 : decode cX8_takeBack 21 = .ok (.aload_n 0, 1) := by decide +kernel
theorem dX8_takeBack_22 : decode cX8_takeBack 22 = .ok (.getfield 40, 3) := by decide +kernel
theorem dX8_takeBack_25 : decode cX8_takeBack 25 = .ok (.iaload, 1) := by decide +kernel
theorem dX8_takeBack_26 : decode cX8_takeBack 26 = .ok (.istore_n 1, 1) := by decide +kernel
theorem dX8_takeBack_27 : decode cX8_takeBack 27 = .ok (.aload_n 0, 1) := by decide +kernel
theorem dX8_takeBack_28 : decode cX8_takeBack 28 = .ok (.getfield 15, 3) := by decide +kernel
theorem dX8_takeBack_31 : decode cX8_takeBack 31 = .ok (.iload_n 1, 1) := by decide +kernel
theorem dX8_takeBack_32 : decode cX8_takeBack 32 = .ok (.dup2, 1) := by decide +kernel
theorem dX8_takeBack_33 : decode cX8_takeBack 33 = .ok (.iaload, 1) := by decide +kernel
theorem dX8_takeBack_34 : decode cX8_takeBack 34 = .ok (.iconst 1, 1) := by decide +kernel
theorem dX8_takeBack_35 : decode cX8_takeBack 35 = .ok (.isub, 1) := by decide +kernel
theorem dX8_takeBack_36 : decode cX8_takeBack 36 = .ok (.iastore, 1) := by decide +kernel
theorem dX8_takeBack_37 : decode cX8_takeBack 37 = .ok (.aload_n 0, 1) := by decide +kernel
theorem dX8_takeBack_38 : decode cX8_takeBack 38 = .ok (.getfield 18, 3) := by decide +kernel
theorem dX8_takeBack_41 : decode cX8_takeBack 41 = .ok (.aload_n 0, 1) := by decide +kernel
theorem dX8_takeBack_42 : decode cX8_takeBack 42 = .ok (.getfield 36, 3) := by decide +kernel
theorem dX8_takeBack_45 : decode cX8_takeBack 45 = .ok (.getfield 74, 3) := by decide +kernel
theorem dX8_takeBack_48 : decode cX8_takeBack 48 = .ok (.aload_n 0, 1) := by decide +kernel
theorem dX8_takeBack_49 : decode cX8_takeBack 49 = .ok (.iload_n 1, 1) := by decide +kernel
theorem dX8_takeBack_50 : decode cX8_takeBack 50 = .ok (.invokevirtual 64, 3) := by decide +kernel
theorem dX8_takeBack_53 : decode cX8_takeBack 53 = .ok (.iaload, 1) := by decide +kernel
theorem dX8_takeBack_54 : decode cX8_takeBack 54 = .ok (.dup2, 1) := by decide +kernel
theorem dX8_takeBack_55 : decode cX8_takeBack 55 = .ok (.iaload, 1) := by decide +kernel
theorem dX8_takeBack_56 : decode cX8_takeBack 56 = .ok (.iconst 1, 1) := by decide +kernel
theorem dX8_takeBack_57 : decode cX8_takeBack 57 = .ok (.isub, 1) := by decide +kernel
theorem dX8_takeBack_58 : decode cX8_takeBack 58 = .ok (.iastore, 1) := by decide +kernel
theorem dX8_takeBack_59 : decode cX8_takeBack 59 = .ok (.return_, 1) := by decide +kernel
theorem dX8_replay_0 : decode cX8_replay 0 = .ok (.aload_n 0, 1) := by decide +kernel
theorem dX8_replay_1 : decode cX8_replay 1 = .ok (.invokevirtual 116, 3) := by decide +kernel
theorem dX8_replay_4 : decode cX8_replay 4 = .ok (.aload_n 0, 1) := by decide +kernel
theorem dX8_replay_5 : decode cX8_replay 5 = .ok (.getfield 36, 3) := by decide +kernel
theorem dX8_replay_8 : decode cX8_replay 8 = .ok (.getfield 119, 3) := by decide +kernel
theorem dX8_replay_11 : decode cX8_replay 11 = .ok (.ifCond .eq 9, 3) := by decide +kernel
theorem dX8_replay_14 : decode cX8_replay 14 = .ok (.aload_n 0, 1) := by decide +kernel
theorem dX8_replay_15 : decode cX8_replay 15 = .ok (.iconst (-1), 1) := by decide +kernel
theorem dX8_replay_16 : decode cX8_replay 16 = .ok (.iconst 0, 1) := by decide +kernel
theorem dX8_replay_17 : decode cX8_replay 17 = .ok (.invokevirtual 123, 3) := by decide +kernel
theorem dX8_replay_20 : decode cX8_replay 20 = .ok (.return_, 1) := by decide +kernel
theorem dX8_putDelayed_0 : decode cX8_putDelayed 0 = .ok (.aload_n 0, 1) := by decide +kernel
theorem dX8_putDelayed_1 : decode cX8_putDelayed 1 = .ok (.invokevirtual 116, 3) := by decide +kernel
theorem dX8_putDelayed_4 : decode cX8_putDelayed 4 = .ok (.aload_n 0, 1) := by decide +kernel
theorem dX8_putDelayed_5 : decode cX8_putDelayed 5 = .ok (.getfield 36, 3) := by decide +kernel
theorem dX8_putDelayed_8 : decode cX8_putDelayed 8 = .ok (.invokevirtual 127, 3) := by decide +kernel
theorem dX8_putDelayed_11 : decode cX8_putDelayed 11 = .ok (.istore_n 3, 1) := by decide +kernel
theorem dX8_putDelayed_12 : decode cX8_putDelayed 12 = .ok (.iconst 0, 1) := by decide +kernel
theorem dX8_putDelayed_13 : decode cX8_putDelayed 13 = .ok (.istore 4, 2) := by decide +kernel
theorem dX8_putDelayed_15 : decode cX8_putDelayed 15 = .ok (.iload 4, 2) := by decide +kernel
theorem dX8_putDelayed_17 : decode cX8_putDelayed 17 = .ok (.iload_n 3, 1) := by decide +kernel
theorem dX8_putDelayed_18 : decode cX8_putDelayed 18 = .ok (.if_icmp .ge 42, 3) := by decide +kernel
theorem dX8_putDelayed_21 : decode cX8_putDelayed 21 = .ok (.aload_n 0, 1) := by decide +kernel
theorem dX8_putDelayed_22 : decode cX8_putDelayed 22 = .ok (.getfield 36, 3) := by decide +kernel
theorem dX8_putDelayed_25 : decode cX8_putDelayed 25 = .ok (.getfield 131, 3) := by decide +kernel
theorem dX8_putDelayed_28 : decode cX8_putDelayed 28 = .ok (.iload 4, 2) := by decide +kernel
theorem dX8_putDelayed_30 : decode cX8_putDelayed 30 = .ok (.iaload, 1) := by decide +kernel
theorem dX8_putDelayed_31 : decode cX8_putDelayed 31 = .ok (.istore 5, 2) := by decide +kernel
theorem dX8_putDelayed_33 : decode cX8_putDelayed 33 = .ok (.aload_n 0, 1) := by decide +kernel
theorem dX8_putDelayed_34 : decode cX8_putDelayed 34 = .ok (.iload 5, 2) := by decide +kernel
theorem dX8_putDelayed_36 : decode cX8_putDelayed 36 = .ok (.aload_n 0, 1) := by decide +kernel
theorem dX8_putDelayed_37 : decode cX8_putDelayed 37 = .ok (.iload 5, 2) := by decide +kernel
theorem dX8_putDelayed_39 : decode cX8_putDelayed 39 = .ok (.invokevirtual 64, 3) := by decide +kernel
theorem dX8_putDelayed_42 : decode cX8_putDelayed 42 = .ok (.iload_n 1, 1) := by decide +kernel
theorem dX8_putDelayed_43 : decode cX8_putDelayed 43 = .ok (.if_icmp .ne 7, 3) := by decide +kernel
theorem dX8_putDelayed_46 : decode cX8_putDelayed 46 = .ok (.iload_n 2, 1) := by decide +kernel
theorem dX8_putDelayed_47 : decode cX8_putDelayed 47 = .ok (.goto 4, 3) := by decide +kernel
theorem dX8_putDelayed_50 : decode cX8_putDelayed 50 = .ok (.iconst 0, 1) := by decide +kernel
theorem dX8_putDelayed_51 : decode cX8_putDelayed 51 = .ok (.invokevirtual 132, 3) := by decide +kernel
theorem dX8_putDelayed_54 : decode cX8_putDelayed 54 = .ok (.iinc 4 1, 3) := by decide +kernel
theorem dX8_putDelayed_57 : decode cX8_putDelayed 57 = .ok (.goto (-42), 3) := by decide +kernel
theorem dX8_putDelayed_60 : decode cX8_putDelayed 60 = .ok (.return_, 1) := by decide +kernel
theorem dX8_putRushed_0 : decode cX8_putRushed 0 = .ok (.aload_n 0, 1) := by decide +kernel
theorem dX8_putRushed_1 : decode cX8_putRushed 1 = .ok (.invokevirtual 116, 3) := by decide +kernel
theorem dX8_putRushed_4 : decode cX8_putRushed 4 = .ok (.iconst 0, 1) := by decide +kernel
theorem dX8_putRushed_5 : decode cX8_putRushed 5 = .ok (.istore_n 2, 1) := by decide +kernel
theorem dX8_putRushed_6 : decode cX8_putRushed 6 = .ok (.iload_n 2, 1) := by decide +kernel
theorem dX8_putRushed_7 : decode cX8_putRushed 7 = .ok (.aload_n 0, 1) := by decide +kernel
theorem dX8_putRushed_8 : decode cX8_putRushed 8 = .ok (.getfield 36, 3) := by decide +kernel
theorem dX8_putRushed_11 : decode cX8_putRushed 11 = .ok (.getfield 55, 3) := by decide +kernel
theorem dX8_putRushed_14 : decode cX8_putRushed 14 = .ok (.iload_n 1, 1) := by decide +kernel
theorem dX8_putRushed_15 : decode cX8_putRushed 15 = .ok (.iaload, 1) := by decide +kernel
theorem dX8_putRushed_16 : decode cX8_putRushed 16 = .ok (.if_icmp .ge 15, 3) := by decide +kernel
theorem dX8_putRushed_19 : decode cX8_putRushed 19 = .ok (.aload_n 0, 1) := by decide +kernel
theorem dX8_putRushed_20 : decode cX8_putRushed 20 = .ok (.iload_n 1, 1) := by decide +kernel
theorem dX8_putRushed_21 : decode cX8_putRushed 21 = .ok (.iconst 0, 1) := by decide +kernel
theorem dX8_putRushed_22 : decode cX8_putRushed 22 = .ok (.invokevirtual 132, 3) := by decide +kernel
theorem dX8_putRushed_25 : decode cX8_putRushed 25 = .ok (.iinc 2 1, 3) := by decide +kernel
theorem dX8_putRushed_28 : decode cX8_putRushed 28 = .ok (.goto (-22), 3) := by decide +kernel
theorem dX8_putRushed_31 : decode cX8_putRushed 31 = .ok (.aload_n 0, 1) := by decide +kernel
theorem dX8_putRushed_32 : decode cX8_putRushed 32 = .ok (.getfield 36, 3) := by decide +kernel
theorem dX8_putRushed_35 : decode cX8_putRushed 35 = .ok (.invokevirtual 127, 3) := by decide +kernel
theorem dX8_putRushed_38 : decode cX8_putRushed 38 = .ok (.istore_n 2, 1) := by decide +kernel
theorem dX8_putRushed_39 : decode cX8_putRushed 39 = .ok (.iconst 0, 1) := by decide +kernel
theorem dX8_putRushed_40 : decode cX8_putRushed 40 = .ok (.istore_n 3, 1) := by decide +kernel
theorem dX8_putRushed_41 : decode cX8_putRushed 41 = .ok (.iload_n 3, 1) := by decide +kernel
theorem dX8_putRushed_42 : decode cX8_putRushed 42 = .ok (.iload_n 2, 1) := by decide +kernel
theorem dX8_putRushed_43 : decode cX8_putRushed 43 = .ok (.if_icmp .ge 36, 3) := by decide +kernel
theorem dX8_putRushed_46 : decode cX8_putRushed 46 = .ok (.aload_n 0, 1) := by decide +kernel
theorem dX8_putRushed_47 : decode cX8_putRushed 47 = .ok (.getfield 36, 3) := by decide +kernel
theorem dX8_putRushed_50 : decode cX8_putRushed 50 = .ok (.getfield 131, 3) := by decide +kernel
theorem dX8_putRushed_53 : decode cX8_putRushed 53 = .ok (.iload_n 3, 1) := by decide +kernel
theorem dX8_putRushed_54 : decode cX8_putRushed 54 = .ok (.iaload, 1) := by decide +kernel
theorem dX8_putRushed_55 : decode cX8_putRushed 55 = .ok (.iload_n 1, 1) := by decide +kernel
theorem dX8_putRushed_56 : decode cX8_putRushed 56 = .ok (.if_icmp .eq 17, 3) := by decide +kernel
theorem dX8_putRushed_59 : decode cX8_putRushed 59 = .ok (.aload_n 0, 1) := by decide +kernel
theorem dX8_putRushed_60 : decode cX8_putRushed 60 = .ok (.aload_n 0, 1) := by decide +kernel
theorem dX8_putRushed_61 : decode cX8_putRushed 61 = .ok (.getfield 36, 3) := by decide +kernel
theorem dX8_putRushed_64 : decode cX8_putRushed 64 = .ok (.getfield 131, 3) := by decide +kernel
theorem dX8_putRushed_67 : decode cX8_putRushed 67 = .ok (.iload_n 3, 1) := by decide +kernel
theorem dX8_putRushed_68 : decode cX8_putRushed 68 = .ok (.iaload, 1) := by decide +kernel
theorem dX8_putRushed_69 : decode cX8_putRushed 69 = .ok (.iconst 0, 1) := by decide +kernel
theorem dX8_putRushed_70 : decode cX8_putRushed 70 = .ok (.invokevirtual 132, 3) := by decide +kernel
theorem dX8_putRushed_73 : decode cX8_putRushed 73 = .ok (.iinc 3 1, 3) := by decide +kernel
theorem dX8_putRushed_76 : decode cX8_putRushed 76 = .ok (.goto (-35), 3) := by decide +kernel
theorem dX8_putRushed_79 : decode cX8_putRushed 79 = .ok (.return_, 1) := by decide +kernel
theorem dX8_putBegunIn_0 : decode cX8_putBegunIn 0 = .ok (.iconst 0, 1) := by decide +kernel
theorem dX8_putBegunIn_1 : decode cX8_putBegunIn 1 = .ok (.istore_n 3, 1) := by decide +kernel
theorem dX8_putBegunIn_2 : decode cX8_putBegunIn 2 = .ok (.iload_n 3, 1) := by decide +kernel
theorem dX8_putBegunIn_3 : decode cX8_putBegunIn 3 = .ok (.aload_n 1, 1) := by decide +kernel
theorem dX8_putBegunIn_4 : decode cX8_putBegunIn 4 = .ok (.getfield 40, 3) := by decide +kernel
theorem dX8_putBegunIn_7 : decode cX8_putBegunIn 7 = .ok (.if_icmp .ge 48, 3) := by decide +kernel
theorem dX8_putBegunIn_10 : decode cX8_putBegunIn 10 = .ok (.aload_n 1, 1) := by decide +kernel
theorem dX8_putBegunIn_11 : decode cX8_putBegunIn 11 = .ok (.getfield 9, 3) := by decide +kernel
theorem dX8_putBegunIn_14 : decode cX8_putBegunIn 14 = .ok (.iload_n 3, 1) := by decide +kernel
theorem dX8_putBegunIn_15 : decode cX8_putBegunIn 15 = .ok (.iaload, 1) := by decide +kernel
theorem dX8_putBegunIn_16 : decode cX8_putBegunIn 16 = .ok (.istore 4, 2) := by decide +kernel
theorem dX8_putBegunIn_18 : decode cX8_putBegunIn 18 = .ok (.aload_n 0, 1) := by decide +kernel
theorem dX8_putBegunIn_19 : decode cX8_putBegunIn 19 = .ok (.iload 4, 2) := by decide +kernel
theorem dX8_putBegunIn_21 : decode cX8_putBegunIn 21 = .ok (.invokevirtual 109, 3) := by decide +kernel
theorem dX8_putBegunIn_24 : decode cX8_putBegunIn 24 = .ok (.ifCond .eq 25, 3) := by decide +kernel
theorem dX8_putBegunIn_27 : decode cX8_putBegunIn 27 = .ok (.aload_n 1, 1) := by decide +kernel
theorem dX8_putBegunIn_28 : decode cX8_putBegunIn 28 = .ok (.getfield 24, 3) := by decide +kernel
theorem dX8_putBegunIn_31 : decode cX8_putBegunIn 31 = .ok (.aload_n 0, 1) := by decide +kernel
theorem dX8_putBegunIn_32 : decode cX8_putBegunIn 32 = .ok (.iload 4, 2) := by decide +kernel
theorem dX8_putBegunIn_34 : decode cX8_putBegunIn 34 = .ok (.invokevirtual 64, 3) := by decide +kernel
theorem dX8_putBegunIn_37 : decode cX8_putBegunIn 37 = .ok (.iaload, 1) := by decide +kernel
theorem dX8_putBegunIn_38 : decode cX8_putBegunIn 38 = .ok (.iload_n 2, 1) := by decide +kernel
theorem dX8_putBegunIn_39 : decode cX8_putBegunIn 39 = .ok (.if_icmp .ge 10, 3) := by decide +kernel
theorem dX8_putBegunIn_42 : decode cX8_putBegunIn 42 = .ok (.aload_n 0, 1) := by decide +kernel
theorem dX8_putBegunIn_43 : decode cX8_putBegunIn 43 = .ok (.iload 4, 2) := by decide +kernel
theorem dX8_putBegunIn_45 : decode cX8_putBegunIn 45 = .ok (.iconst 0, 1) := by decide +kernel
theorem dX8_putBegunIn_46 : decode cX8_putBegunIn 46 = .ok (.invokevirtual 132, 3) := by decide +kernel
theorem dX8_putBegunIn_49 : decode cX8_putBegunIn 49 = .ok (.iinc 3 1, 3) := by decide +kernel
theorem dX8_putBegunIn_52 : decode cX8_putBegunIn 52 = .ok (.goto (-50), 3) := by decide +kernel
theorem dX8_putBegunIn_55 : decode cX8_putBegunIn 55 = .ok (.return_, 1) := by decide +kernel
theorem dX8_putRestByRule_0 : decode cX8_putRestByRule 0 = .ok (.aload_n 0, 1) := by decide +kernel
theorem dX8_putRestByRule_1 : decode cX8_putRestByRule 1 = .ok (.getfield 36, 3) := by decide +kernel
theorem dX8_putRestByRule_4 : decode cX8_putRestByRule 4 = .ok (.invokevirtual 127, 3) := by decide +kernel
theorem dX8_putRestByRule_7 : decode cX8_putRestByRule 7 = .ok (.aload_n 0, 1) := by decide +kernel
theorem dX8_putRestByRule_8 : decode cX8_putRestByRule 8 = .ok (.getfield 40, 3) := by decide +kernel
theorem dX8_putRestByRule_11 : decode cX8_putRestByRule 11 = .ok (.isub, 1) := by decide +kernel
theorem dX8_putRestByRule_12 : decode cX8_putRestByRule 12 = .ok (.istore_n 2, 1) := by decide +kernel
theorem dX8_putRestByRule_13 : decode cX8_putRestByRule 13 = .ok (.iconst 0, 1) := by decide +kernel
theorem dX8_putRestByRule_14 : decode cX8_putRestByRule 14 = .ok (.istore_n 3, 1) := by decide +kernel
theorem dX8_putRestByRule_15 : decode cX8_putRestByRule 15 = .ok (.iload_n 3, 1) := by decide +kernel
theorem dX8_putRestByRule_16 : decode cX8_putRestByRule 16 = .ok (.iload_n 2, 1) := by decide +kernel
theorem dX8_putRestByRule_17 : decode cX8_putRestByRule 17 = .ok (.if_icmp .ge 19, 3) := by decide +kernel
theorem dX8_putRestByRule_20 : decode cX8_putRestByRule 20 = .ok (.aload_n 0, 1) := by decide +kernel
theorem dX8_putRestByRule_21 : decode cX8_putRestByRule 21 = .ok (.aload_n 0, 1) := by decide +kernel
theorem dX8_putRestByRule_22 : decode cX8_putRestByRule 22 = .ok (.iload_n 1, 1) := by decide +kernel
theorem dX8_putRestByRule_23 : decode cX8_putRestByRule 23 = .ok (.invokevirtual 135, 3) := by decide +kernel
theorem dX8_putRestByRule_26 : decode cX8_putRestByRule 26 = .ok (.iconst 0, 1) := by decide +kernel
theorem dX8_putRestByRule_27 : decode cX8_putRestByRule 27 = .ok (.invokevirtual 132, 3) := by decide +kernel
theorem dX8_putRestByRule_30 : decode cX8_putRestByRule 30 = .ok (.iinc 3 1, 3) := by decide +kernel
theorem dX8_putRestByRule_33 : decode cX8_putRestByRule 33 = .ok (.goto (-18), 3) := by decide +kernel
theorem dX8_putRestByRule_36 : decode cX8_putRestByRule 36 = .ok (.return_, 1) := by decide +kernel
theorem dX8_firstByRule_0 : decode cX8_firstByRule 0 = .ok (.iconst (-1), 1) := by decide +kernel
theorem dX8_firstByRule_1 : decode cX8_firstByRule 1 = .ok (.istore_n 2, 1) := by decide +kernel
theorem dX8_firstByRule_2 : decode cX8_firstByRule 2 = .ok (.iconst 0, 1) := by decide +kernel
theorem dX8_firstByRule_3 : decode cX8_firstByRule 3 = .ok (.istore_n 3, 1) := by decide +kernel
theorem dX8_firstByRule_4 : decode cX8_firstByRule 4 = .ok (.iconst 0, 1) := by decide +kernel
theorem dX8_firstByRule_5 : decode cX8_firstByRule 5 = .ok (.istore 4, 2) := by decide +kernel
theorem dX8_firstByRule_7 : decode cX8_firstByRule 7 = .ok (.iload 4, 2) := by decide +kernel
theorem dX8_firstByRule_9 : decode cX8_firstByRule 9 = .ok (.aload_n 0, 1) := by decide +kernel
theorem dX8_firstByRule_10 : decode cX8_firstByRule 10 = .ok (.getfield 36, 3) := by decide +kernel
theorem dX8_firstByRule_13 : decode cX8_firstByRule 13 = .ok (.getfield 50, 3) := by decide +kernel
theorem dX8_firstByRule_16 : decode cX8_firstByRule 16 = .ok (.if_icmp .ge 61, 3) := by decide +kernel
theorem dX8_firstByRule_19 : decode cX8_firstByRule 19 = .ok (.aload_n 0, 1) := by decide +kernel
theorem dX8_firstByRule_20 : decode cX8_firstByRule 20 = .ok (.iload 4, 2) := by decide +kernel
theorem dX8_firstByRule_22 : decode cX8_firstByRule 22 = .ok (.invokevirtual 109, 3) := by decide +kernel
theorem dX8_firstByRule_25 : decode cX8_firstByRule 25 = .ok (.ifCond .eq 46, 3) := by decide +kernel
theorem dX8_firstByRule_28 : decode cX8_firstByRule 28 = .ok (.aload_n 0, 1) := by decide +kernel
theorem dX8_firstByRule_29 : decode cX8_firstByRule 29 = .ok (.iload 4, 2) := by decide +kernel
theorem dX8_firstByRule_31 : decode cX8_firstByRule 31 = .ok (.iconst 0, 1) := by decide +kernel
theorem dX8_firstByRule_32 : decode cX8_firstByRule 32 = .ok (.invokevirtual 113, 3) := by decide +kernel
theorem dX8_firstByRule_35 : decode cX8_firstByRule 35 = .ok (.istore 5, 2) := by decide +kernel
theorem dX8_firstByRule_37 : decode cX8_firstByRule 37 = .ok (.iload_n 2, 1) := by decide +kernel
theorem dX8_firstByRule_38 : decode cX8_firstByRule 38 = .ok (.iconst (-1), 1) := by decide +kernel
theorem dX8_firstByRule_39 : decode cX8_firstByRule 39 = .ok (.if_icmp .eq 26, 3) := by decide +kernel
theorem dX8_firstByRule_42 : decode cX8_firstByRule 42 = .ok (.iload 5, 2) := by decide +kernel
theorem dX8_firstByRule_44 : decode cX8_firstByRule 44 = .ok (.iload_n 3, 1) := by decide +kernel
theorem dX8_firstByRule_45 : decode cX8_firstByRule 45 = .ok (.if_icmp .lt 20, 3) := by decide +kernel
theorem dX8_firstByRule_48 : decode cX8_firstByRule 48 = .ok (.iload 5, 2) := by decide +kernel
theorem dX8_firstByRule_50 : decode cX8_firstByRule 50 = .ok (.iload_n 3, 1) := by decide +kernel
theorem dX8_firstByRule_51 : decode cX8_firstByRule 51 = .ok (.if_icmp .ne 20, 3) := by decide +kernel
theorem dX8_firstByRule_54 : decode cX8_firstByRule 54 = .ok (.aload_n 0, 1) := by decide +kernel
theorem dX8_firstByRule_55 : decode cX8_firstByRule 55 = .ok (.iload_n 1, 1) := by decide +kernel
theorem dX8_firstByRule_56 : decode cX8_firstByRule 56 = .ok (.iload 4, 2) := by decide +kernel
theorem dX8_firstByRule_58 : decode cX8_firstByRule 58 = .ok (.iload_n 2, 1) := by decide +kernel
theorem dX8_firstByRule_59 : decode cX8_firstByRule 59 = .ok (.invokevirtual 138, 3) := by decide +kernel
theorem dX8_firstByRule_62 : decode cX8_firstByRule 62 = .ok (.ifCond .eq 9, 3) := by decide +kernel
theorem dX8_firstByRule_65 : decode cX8_firstByRule 65 = .ok (.iload 4, 2) := by decide +kernel
theorem dX8_firstByRule_67 : decode cX8_firstByRule 67 = .ok (.istore_n 2, 1) := by decide +kernel
theorem dX8_firstByRule_68 : decode cX8_firstByRule 68 = .ok (.iload 5, 2) := by decide +kernel
theorem dX8_firstByRule_70 : decode cX8_firstByRule 70 = .ok (.istore_n 3, 1) := by decide +kernel
theorem dX8_firstByRule_71 : decode cX8_firstByRule 71 = .ok (.iinc 4 1, 3) := by decide +kernel
theorem dX8_firstByRule_74 : decode cX8_firstByRule 74 = .ok (.goto (-67), 3) := by decide +kernel
theorem dX8_firstByRule_77 : decode cX8_firstByRule 77 = .ok (.iload_n 2, 1) := by decide +kernel
theorem dX8_firstByRule_78 : decode cX8_firstByRule 78 = .ok (.ireturn, 1) := by decide +kernel
theorem dX8_goesAhead_0 : decode cX8_goesAhead 0 = .ok (.aload_n 0, 1) := by decide +kernel
theorem dX8_goesAhead_1 : decode cX8_goesAhead 1 = .ok (.getfield 36, 3) := by decide +kernel
theorem dX8_goesAhead_4 : decode cX8_goesAhead 4 = .ok (.getfield 58, 3) := by decide +kernel
theorem dX8_goesAhead_7 : decode cX8_goesAhead 7 = .ok (.aload_n 0, 1) := by decide +kernel
theorem dX8_goesAhead_8 : decode cX8_goesAhead 8 = .ok (.iload_n 2, 1) := by decide +kernel
theorem dX8_goesAhead_9 : decode cX8_goesAhead 9 = .ok (.invokevirtual 64, 3) := by decide +kernel
theorem dX8_goesAhead_12 : decode cX8_goesAhead 12 = .ok (.iaload, 1) := by decide +kernel
theorem dX8_goesAhead_13 : decode cX8_goesAhead 13 = .ok (.istore 4, 2) := by decide +kernel
theorem dX8_goesAhead_15 : decode cX8_goesAhead 15 = .ok (.aload_n 0, 1) := by decide +kernel
theorem dX8_goesAhead_16 : decode cX8_goesAhead 16 = .ok (.getfield 36, 3) := by decide +kernel
theorem dX8_goesAhead_19 : decode cX8_goesAhead 19 = .ok (.getfield 58, 3) := by decide +kernel
theorem dX8_goesAhead_22 : decode cX8_goesAhead 22 = .ok (.aload_n 0, 1) := by decide +kernel
theorem dX8_goesAhead_23 : decode cX8_goesAhead 23 = .ok (.iload_n 3, 1) := by decide +kernel
theorem dX8_goesAhead_24 : decode cX8_goesAhead 24 = .ok (.invokevirtual 64, 3) := by decide +kernel
theorem dX8_goesAhead_27 : decode cX8_goesAhead 27 = .ok (.iaload, 1) := by decide +kernel
theorem dX8_goesAhead_28 : decode cX8_goesAhead 28 = .ok (.istore 5, 2) := by decide +kernel
theorem dX8_goesAhead_30 : decode cX8_goesAhead 30 = .ok (.iload_n 1, 1) := by decide +kernel
theorem dX8_goesAhead_31 : decode cX8_goesAhead 31 = .ok (.tableswitch 212 0 6 #[41, 54, 67, 94, 121, 140, 179], 41) := by decide +kernel
theorem dX8_goesAhead_72 : decode cX8_goesAhead 72 = .ok (.iload 4, 2) := by decide +kernel
theorem dX8_goesAhead_74 : decode cX8_goesAhead 74 = .ok (.iload 5, 2) := by decide +kernel
theorem dX8_goesAhead_76 : decode cX8_goesAhead 76 = .ok (.if_icmp .ge 7, 3) := by decide +kernel
theorem dX8_goesAhead_79 : decode cX8_goesAhead 79 = .ok (.iconst 1, 1) := by decide +kernel
theorem dX8_goesAhead_80 : decode cX8_goesAhead 80 = .ok (.goto 4, 3) := by decide +kernel
theorem dX8_goesAhead_83 : decode cX8_goesAhead 83 = .ok (.iconst 0, 1) := by decide +kernel
theorem dX8_goesAhead_84 : decode cX8_goesAhead 84 = .ok (.ireturn, 1) := by decide +kernel
theorem dX8_goesAhead_85 : decode cX8_goesAhead 85 = .ok (.iload 4, 2) := by decide +kernel
theorem dX8_goesAhead_87 : decode cX8_goesAhead 87 = .ok (.iload 5, 2) := by decide +kernel
theorem dX8_goesAhead_89 : decode cX8_goesAhead 89 = .ok (.if_icmp .le 7, 3) := by decide +kernel
theorem dX8_goesAhead_92 : decode cX8_goesAhead 92 = .ok (.iconst 1, 1) := by decide +kernel
theorem dX8_goesAhead_93 : decode cX8_goesAhead 93 = .ok (.goto 4, 3) := by decide +kernel
theorem dX8_goesAhead_96 : decode cX8_goesAhead 96 = .ok (.iconst 0, 1) := by decide +kernel
theorem dX8_goesAhead_97 : decode cX8_goesAhead 97 = .ok (.ireturn, 1) := by decide +kernel
theorem dX8_goesAhead_98 : decode cX8_goesAhead 98 = .ok (.aload_n 0, 1) := by decide +kernel
theorem dX8_goesAhead_99 : decode cX8_goesAhead 99 = .ok (.getfield 36, 3) := by decide +kernel
theorem dX8_goesAhead_102 : decode cX8_goesAhead 102 = .ok (.getfield 142, 3) := by decide +kernel
theorem dX8_goesAhead_105 : decode cX8_goesAhead 105 = .ok (.iload_n 2, 1) := by decide +kernel
theorem dX8_goesAhead_106 : decode cX8_goesAhead 106 = .ok (.iaload, 1) := by decide +kernel
theorem dX8_goesAhead_107 : decode cX8_goesAhead 107 = .ok (.aload_n 0, 1) := by decide +kernel
theorem dX8_goesAhead_108 : decode cX8_goesAhead 108 = .ok (.getfield 36, 3) := by decide +kernel
theorem dX8_goesAhead_111 : decode cX8_goesAhead 111 = .ok (.getfield 142, 3) := by decide +kernel
theorem dX8_goesAhead_114 : decode cX8_goesAhead 114 = .ok (.iload_n 3, 1) := by decide +kernel
theorem dX8_goesAhead_115 : decode cX8_goesAhead 115 = .ok (.iaload, 1) := by decide +kernel
theorem dX8_goesAhead_116 : decode cX8_goesAhead 116 = .ok (.if_icmp .ge 7, 3) := by decide +kernel
theorem dX8_goesAhead_119 : decode cX8_goesAhead 119 = .ok (.iconst 1, 1) := by decide +kernel
theorem dX8_goesAhead_120 : decode cX8_goesAhead 120 = .ok (.goto 4, 3) := by decide +kernel
theorem dX8_goesAhead_123 : decode cX8_goesAhead 123 = .ok (.iconst 0, 1) := by decide +kernel
theorem dX8_goesAhead_124 : decode cX8_goesAhead 124 = .ok (.ireturn, 1) := by decide +kernel
theorem dX8_goesAhead_125 : decode cX8_goesAhead 125 = .ok (.aload_n 0, 1) := by decide +kernel
theorem dX8_goesAhead_126 : decode cX8_goesAhead 126 = .ok (.getfield 36, 3) := by decide +kernel
theorem dX8_goesAhead_129 : decode cX8_goesAhead 129 = .ok (.getfield 145, 3) := by decide +kernel
theorem dX8_goesAhead_132 : decode cX8_goesAhead 132 = .ok (.iload_n 2, 1) := by decide +kernel
theorem dX8_goesAhead_133 : decode cX8_goesAhead 133 = .ok (.iaload, 1) := by decide +kernel
theorem dX8_goesAhead_134 : decode cX8_goesAhead 134 = .ok (.aload_n 0, 1) := by decide +kernel
theorem dX8_goesAhead_135 : decode cX8_goesAhead 135 = .ok (.getfield 36, 3) := by decide +kernel
theorem dX8_goesAhead_138 : decode cX8_goesAhead 138 = .ok (.getfield 145, 3) := by decide +kernel
theorem dX8_goesAhead_141 : decode cX8_goesAhead 141 = .ok (.iload_n 3, 1) := by decide +kernel
theorem dX8_goesAhead_142 : decode cX8_goesAhead 142 = .ok (.iaload, 1) := by decide +kernel
theorem dX8_goesAhead_143 : decode cX8_goesAhead 143 = .ok (.if_icmp .le 7, 3) := by decide +kernel
theorem dX8_goesAhead_146 : decode cX8_goesAhead 146 = .ok (.iconst 1, 1) := by decide +kernel
theorem dX8_goesAhead_147 : decode cX8_goesAhead 147 = .ok (.goto 4, 3) := by decide +kernel
theorem dX8_goesAhead_150 : decode cX8_goesAhead 150 = .ok (.iconst 0, 1) := by decide +kernel
theorem dX8_goesAhead_151 : decode cX8_goesAhead 151 = .ok (.ireturn, 1) := by decide +kernel
theorem dX8_goesAhead_152 : decode cX8_goesAhead 152 = .ok (.aload_n 0, 1) := by decide +kernel
theorem dX8_goesAhead_153 : decode cX8_goesAhead 153 = .ok (.iload_n 2, 1) := by decide +kernel
theorem dX8_goesAhead_154 : decode cX8_goesAhead 154 = .ok (.invokevirtual 148, 3) := by decide +kernel
theorem dX8_goesAhead_157 : decode cX8_goesAhead 157 = .ok (.aload_n 0, 1) := by decide +kernel
theorem dX8_goesAhead_158 : decode cX8_goesAhead 158 = .ok (.iload_n 3, 1) := by decide +kernel
theorem dX8_goesAhead_159 : decode cX8_goesAhead 159 = .ok (.invokevirtual 148, 3) := by decide +kernel
theorem dX8_goesAhead_162 : decode cX8_goesAhead 162 = .ok (.if_icmp .le 7, 3) := by decide +kernel
theorem dX8_goesAhead_165 : decode cX8_goesAhead 165 = .ok (.iconst 1, 1) := by decide +kernel
theorem dX8_goesAhead_166 : decode cX8_goesAhead 166 = .ok (.goto 4, 3) := by decide +kernel
theorem dX8_goesAhead_169 : decode cX8_goesAhead 169 = .ok (.iconst 0, 1) := by decide +kernel
theorem dX8_goesAhead_170 : decode cX8_goesAhead 170 = .ok (.ireturn, 1) := by decide +kernel
theorem dX8_goesAhead_171 : decode cX8_goesAhead 171 = .ok (.aload_n 0, 1) := by decide +kernel
theorem dX8_goesAhead_172 : decode cX8_goesAhead 172 = .ok (.getfield 36, 3) := by decide +kernel
theorem dX8_goesAhead_175 : decode cX8_goesAhead 175 = .ok (.getfield 142, 3) := by decide +kernel
theorem dX8_goesAhead_178 : decode cX8_goesAhead 178 = .ok (.iload_n 2, 1) := by decide +kernel
theorem dX8_goesAhead_179 : decode cX8_goesAhead 179 = .ok (.iaload, 1) := by decide +kernel
theorem dX8_goesAhead_180 : decode cX8_goesAhead 180 = .ok (.aload_n 0, 1) := by decide +kernel
theorem dX8_goesAhead_181 : decode cX8_goesAhead 181 = .ok (.iload_n 2, 1) := by decide +kernel
theorem dX8_goesAhead_182 : decode cX8_goesAhead 182 = .ok (.invokevirtual 148, 3) := by decide +kernel
theorem dX8_goesAhead_185 : decode cX8_goesAhead 185 = .ok (.isub, 1) := by decide +kernel
theorem dX8_goesAhead_186 : decode cX8_goesAhead 186 = .ok (.aload_n 0, 1) := by decide +kernel
theorem dX8_goesAhead_187 : decode cX8_goesAhead 187 = .ok (.getfield 36, 3) := by decide +kernel
theorem dX8_goesAhead_190 : decode cX8_goesAhead 190 = .ok (.getfield 142, 3) := by decide +kernel
theorem dX8_goesAhead_193 : decode cX8_goesAhead 193 = .ok (.iload_n 3, 1) := by decide +kernel
theorem dX8_goesAhead_194 : decode cX8_goesAhead 194 = .ok (.iaload, 1) := by decide +kernel
theorem dX8_goesAhead_195 : decode cX8_goesAhead 195 = .ok (.aload_n 0, 1) := by decide +kernel
theorem dX8_goesAhead_196 : decode cX8_goesAhead 196 = .ok (.iload_n 3, 1) := by decide +kernel
theorem dX8_goesAhead_197 : decode cX8_goesAhead 197 = .ok (.invokevirtual 148, 3) := by decide +kernel
theorem dX8_goesAhead_200 : decode cX8_goesAhead 200 = .ok (.isub, 1) := by decide +kernel
theorem dX8_goesAhead_201 : decode cX8_goesAhead 201 = .ok (.if_icmp .ge 7, 3) := by decide +kernel
theorem dX8_goesAhead_204 : decode cX8_goesAhead 204 = .ok (.iconst 1, 1) := by decide +kernel
theorem dX8_goesAhead_205 : decode cX8_goesAhead 205 = .ok (.goto 4, 3) := by decide +kernel
theorem dX8_goesAhead_208 : decode cX8_goesAhead 208 = .ok (.iconst 0, 1) := by decide +kernel
theorem dX8_goesAhead_209 : decode cX8_goesAhead 209 = .ok (.ireturn, 1) := by decide +kernel
theorem dX8_goesAhead_210 : decode cX8_goesAhead 210 = .ok (.aload_n 0, 1) := by decide +kernel
theorem dX8_goesAhead_211 : decode cX8_goesAhead 211 = .ok (.getfield 36, 3) := by decide +kernel
theorem dX8_goesAhead_214 : decode cX8_goesAhead 214 = .ok (.getfield 145, 3) := by decide +kernel
theorem dX8_goesAhead_217 : decode cX8_goesAhead 217 = .ok (.iload_n 2, 1) := by decide +kernel
theorem dX8_goesAhead_218 : decode cX8_goesAhead 218 = .ok (.iaload, 1) := by decide +kernel
theorem dX8_goesAhead_219 : decode cX8_goesAhead 219 = .ok (.iload 5, 2) := by decide +kernel
theorem dX8_goesAhead_221 : decode cX8_goesAhead 221 = .ok (.imul, 1) := by decide +kernel
theorem dX8_goesAhead_222 : decode cX8_goesAhead 222 = .ok (.aload_n 0, 1) := by decide +kernel
theorem dX8_goesAhead_223 : decode cX8_goesAhead 223 = .ok (.getfield 36, 3) := by decide +kernel
theorem dX8_goesAhead_226 : decode cX8_goesAhead 226 = .ok (.getfield 145, 3) := by decide +kernel
theorem dX8_goesAhead_229 : decode cX8_goesAhead 229 = .ok (.iload_n 3, 1) := by decide +kernel
theorem dX8_goesAhead_230 : decode cX8_goesAhead 230 = .ok (.iaload, 1) := by decide +kernel
theorem dX8_goesAhead_231 : decode cX8_goesAhead 231 = .ok (.iload 4, 2) := by decide +kernel
theorem dX8_goesAhead_233 : decode cX8_goesAhead 233 = .ok (.imul, 1) := by decide +kernel
theorem dX8_goesAhead_234 : decode cX8_goesAhead 234 = .ok (.if_icmp .le 7, 3) := by decide +kernel
theorem dX8_goesAhead_237 : decode cX8_goesAhead 237 = .ok (.iconst 1, 1) := by decide +kernel
theorem dX8_goesAhead_238 : decode cX8_goesAhead 238 = .ok (.goto 4, 3) := by decide +kernel
theorem dX8_goesAhead_241 : decode cX8_goesAhead 241 = .ok (.iconst 0, 1) := by decide +kernel
theorem dX8_goesAhead_242 : decode cX8_goesAhead 242 = .ok (.ireturn, 1) := by decide +kernel
theorem dX8_goesAhead_243 : decode cX8_goesAhead 243 = .ok (.aload_n 0, 1) := by decide +kernel
theorem dX8_goesAhead_244 : decode cX8_goesAhead 244 = .ok (.getfield 36, 3) := by decide +kernel
theorem dX8_goesAhead_247 : decode cX8_goesAhead 247 = .ok (.getfield 61, 3) := by decide +kernel
theorem dX8_goesAhead_250 : decode cX8_goesAhead 250 = .ok (.iload_n 2, 1) := by decide +kernel
theorem dX8_goesAhead_251 : decode cX8_goesAhead 251 = .ok (.iaload, 1) := by decide +kernel
theorem dX8_goesAhead_252 : decode cX8_goesAhead 252 = .ok (.aload_n 0, 1) := by decide +kernel
theorem dX8_goesAhead_253 : decode cX8_goesAhead 253 = .ok (.getfield 36, 3) := by decide +kernel
theorem dX8_goesAhead_256 : decode cX8_goesAhead 256 = .ok (.getfield 61, 3) := by decide +kernel
theorem dX8_goesAhead_259 : decode cX8_goesAhead 259 = .ok (.iload_n 3, 1) := by decide +kernel
theorem dX8_goesAhead_260 : decode cX8_goesAhead 260 = .ok (.iaload, 1) := by decide +kernel
theorem dX8_goesAhead_261 : decode cX8_goesAhead 261 = .ok (.if_icmp .ge 7, 3) := by decide +kernel
theorem dX8_goesAhead_264 : decode cX8_goesAhead 264 = .ok (.iconst 1, 1) := by decide +kernel
theorem dX8_goesAhead_265 : decode cX8_goesAhead 265 = .ok (.goto 4, 3) := by decide +kernel
theorem dX8_goesAhead_268 : decode cX8_goesAhead 268 = .ok (.iconst 0, 1) := by decide +kernel
theorem dX8_goesAhead_269 : decode cX8_goesAhead 269 = .ok (.ireturn, 1) := by decide +kernel
theorem dX8_nextOf_0 : decode cX8_nextOf 0 = .ok (.iconst 0, 1) := by decide +kernel
theorem dX8_nextOf_1 : decode cX8_nextOf 1 = .ok (.istore_n 2, 1) := by decide +kernel
theorem dX8_nextOf_2 : decode cX8_nextOf 2 = .ok (.iload_n 2, 1) := by decide +kernel
theorem dX8_nextOf_3 : decode cX8_nextOf 3 = .ok (.aload_n 0, 1) := by decide +kernel
theorem dX8_nextOf_4 : decode cX8_nextOf 4 = .ok (.getfield 36, 3) := by decide +kernel
theorem dX8_nextOf_7 : decode cX8_nextOf 7 = .ok (.getfield 50, 3) := by decide +kernel
theorem dX8_nextOf_10 : decode cX8_nextOf 10 = .ok (.if_icmp .ge 55, 3) := by decide +kernel
theorem dX8_nextOf_13 : decode cX8_nextOf 13 = .ok (.aload_n 0, 1) := by decide +kernel
theorem dX8_nextOf_14 : decode cX8_nextOf 14 = .ok (.iload_n 2, 1) := by decide +kernel
theorem dX8_nextOf_15 : decode cX8_nextOf 15 = .ok (.invokevirtual 109, 3) := by decide +kernel
theorem dX8_nextOf_18 : decode cX8_nextOf 18 = .ok (.ifCond .eq 41, 3) := by decide +kernel
theorem dX8_nextOf_21 : decode cX8_nextOf 21 = .ok (.aload_n 0, 1) := by decide +kernel
theorem dX8_nextOf_22 : decode cX8_nextOf 22 = .ok (.iload_n 2, 1) := by decide +kernel
theorem dX8_nextOf_23 : decode cX8_nextOf 23 = .ok (.invokevirtual 64, 3) := by decide +kernel
theorem dX8_nextOf_26 : decode cX8_nextOf 26 = .ok (.istore_n 3, 1) := by decide +kernel
theorem dX8_nextOf_27 : decode cX8_nextOf 27 = .ok (.aload_n 0, 1) := by decide +kernel
theorem dX8_nextOf_28 : decode cX8_nextOf 28 = .ok (.getfield 36, 3) := by decide +kernel
theorem dX8_nextOf_31 : decode cX8_nextOf 31 = .ok (.getfield 74, 3) := by decide +kernel
theorem dX8_nextOf_34 : decode cX8_nextOf 34 = .ok (.iload_n 3, 1) := by decide +kernel
theorem dX8_nextOf_35 : decode cX8_nextOf 35 = .ok (.iaload, 1) := by decide +kernel
theorem dX8_nextOf_36 : decode cX8_nextOf 36 = .ok (.istore 4, 2) := by decide +kernel
theorem dX8_nextOf_38 : decode cX8_nextOf 38 = .ok (.aload_n 1, 1) := by decide +kernel
theorem dX8_nextOf_39 : decode cX8_nextOf 39 = .ok (.iload 4, 2) := by decide +kernel
theorem dX8_nextOf_41 : decode cX8_nextOf 41 = .ok (.bipush 30, 2) := by decide +kernel
theorem dX8_nextOf_43 : decode cX8_nextOf 43 = .ok (.imul, 1) := by decide +kernel
theorem dX8_nextOf_44 : decode cX8_nextOf 44 = .ok (.aload_n 0, 1) := by decide +kernel
theorem dX8_nextOf_45 : decode cX8_nextOf 45 = .ok (.getfield 18, 3) := by decide +kernel
theorem dX8_nextOf_48 : decode cX8_nextOf 48 = .ok (.iload 4, 2) := by decide +kernel
theorem dX8_nextOf_50 : decode cX8_nextOf 50 = .ok (.iaload, 1) := by decide +kernel
theorem dX8_nextOf_51 : decode cX8_nextOf 51 = .ok (.iadd, 1) := by decide +kernel
theorem dX8_nextOf_52 : decode cX8_nextOf 52 = .ok (.iaload, 1) := by decide +kernel
theorem dX8_nextOf_53 : decode cX8_nextOf 53 = .ok (.iload_n 3, 1) := by decide +kernel
theorem dX8_nextOf_54 : decode cX8_nextOf 54 = .ok (.if_icmp .ne 5, 3) := by decide +kernel
theorem dX8_nextOf_57 : decode cX8_nextOf 57 = .ok (.iload_n 2, 1) := by decide +kernel
theorem dX8_nextOf_58 : decode cX8_nextOf 58 = .ok (.ireturn, 1) := by decide +kernel
theorem dX8_nextOf_59 : decode cX8_nextOf 59 = .ok (.iinc 2 1, 3) := by decide +kernel
theorem dX8_nextOf_62 : decode cX8_nextOf 62 = .ok (.goto (-60), 3) := by decide +kernel
theorem dX8_nextOf_65 : decode cX8_nextOf 65 = .ok (.iconst (-1), 1) := by decide +kernel
theorem dX8_nextOf_66 : decode cX8_nextOf 66 = .ok (.ireturn, 1) := by decide +kernel
theorem dX8_hoursLeft_0 : decode cX8_hoursLeft 0 = .ok (.aload_n 0, 1) := by decide +kernel
theorem dX8_hoursLeft_1 : decode cX8_hoursLeft 1 = .ok (.getfield 36, 3) := by decide +kernel
theorem dX8_hoursLeft_4 : decode cX8_hoursLeft 4 = .ok (.iload_n 1, 1) := by decide +kernel
theorem dX8_hoursLeft_5 : decode cX8_hoursLeft 5 = .ok (.aload_n 0, 1) := by decide +kernel
theorem dX8_hoursLeft_6 : decode cX8_hoursLeft 6 = .ok (.getfield 15, 3) := by decide +kernel
theorem dX8_hoursLeft_9 : decode cX8_hoursLeft 9 = .ok (.iload_n 1, 1) := by decide +kernel
theorem dX8_hoursLeft_10 : decode cX8_hoursLeft 10 = .ok (.iaload, 1) := by decide +kernel
theorem dX8_hoursLeft_11 : decode cX8_hoursLeft 11 = .ok (.invokevirtual 151, 3) := by decide +kernel
theorem dX8_hoursLeft_14 : decode cX8_hoursLeft 14 = .ok (.ireturn, 1) := by decide +kernel
theorem dX8_leastEndOf_0 : decode cX8_leastEndOf 0 = .ok (.aload_n 0, 1) := by decide +kernel
theorem dX8_leastEndOf_1 : decode cX8_leastEndOf 1 = .ok (.iload_n 1, 1) := by decide +kernel
theorem dX8_leastEndOf_2 : decode cX8_leastEndOf 2 = .ok (.invokevirtual 93, 3) := by decide +kernel
theorem dX8_leastEndOf_5 : decode cX8_leastEndOf 5 = .ok (.aload_n 0, 1) := by decide +kernel
theorem dX8_leastEndOf_6 : decode cX8_leastEndOf 6 = .ok (.iload_n 1, 1) := by decide +kernel
theorem dX8_leastEndOf_7 : decode cX8_leastEndOf 7 = .ok (.invokevirtual 148, 3) := by decide +kernel
theorem dX8_leastEndOf_10 : decode cX8_leastEndOf 10 = .ok (.iadd, 1) := by decide +kernel
theorem dX8_leastEndOf_11 : decode cX8_leastEndOf 11 = .ok (.ireturn, 1) := by decide +kernel
theorem dX8_aimed_0 : decode cX8_aimed 0 = .ok (.iconst 0, 1) := by decide +kernel
theorem dX8_aimed_1 : decode cX8_aimed 1 = .ok (.istore_n 2, 1) := by decide +kernel
theorem dX8_aimed_2 : decode cX8_aimed 2 = .ok (.iconst 0, 1) := by decide +kernel
theorem dX8_aimed_3 : decode cX8_aimed 3 = .ok (.istore_n 3, 1) := by decide +kernel
theorem dX8_aimed_4 : decode cX8_aimed 4 = .ok (.iload_n 3, 1) := by decide +kernel
theorem dX8_aimed_5 : decode cX8_aimed 5 = .ok (.aload_n 0, 1) := by decide +kernel
theorem dX8_aimed_6 : decode cX8_aimed 6 = .ok (.getfield 36, 3) := by decide +kernel
theorem dX8_aimed_9 : decode cX8_aimed 9 = .ok (.getfield 50, 3) := by decide +kernel
theorem dX8_aimed_12 : decode cX8_aimed 12 = .ok (.if_icmp .ge 134, 3) := by decide +kernel
theorem dX8_aimed_15 : decode cX8_aimed 15 = .ok (.aload_n 0, 1) := by decide +kernel
theorem dX8_aimed_16 : decode cX8_aimed 16 = .ok (.iload_n 3, 1) := by decide +kernel
theorem dX8_aimed_17 : decode cX8_aimed 17 = .ok (.invokevirtual 154, 3) := by decide +kernel
theorem dX8_aimed_20 : decode cX8_aimed 20 = .ok (.istore 4, 2) := by decide +kernel
theorem dX8_aimed_22 : decode cX8_aimed 22 = .ok (.iload 4, 2) := by decide +kernel
theorem dX8_aimed_24 : decode cX8_aimed 24 = .ok (.aload_n 0, 1) := by decide +kernel
theorem dX8_aimed_25 : decode cX8_aimed 25 = .ok (.getfield 36, 3) := by decide +kernel
theorem dX8_aimed_28 : decode cX8_aimed 28 = .ok (.getfield 142, 3) := by decide +kernel
theorem dX8_aimed_31 : decode cX8_aimed 31 = .ok (.iload_n 3, 1) := by decide +kernel
theorem dX8_aimed_32 : decode cX8_aimed 32 = .ok (.iaload, 1) := by decide +kernel
theorem dX8_aimed_33 : decode cX8_aimed 33 = .ok (.isub, 1) := by decide +kernel
theorem dX8_aimed_34 : decode cX8_aimed 34 = .ok (.istore 5, 2) := by decide +kernel
theorem dX8_aimed_36 : decode cX8_aimed 36 = .ok (.iload_n 1, 1) := by decide +kernel
theorem dX8_aimed_37 : decode cX8_aimed 37 = .ok (.tableswitch 84 0 3 #[31, 41, 49, 68], 31) := by decide +kernel
theorem dX8_aimed_68 : decode cX8_aimed 68 = .ok (.iload_n 2, 1) := by decide +kernel
theorem dX8_aimed_69 : decode cX8_aimed 69 = .ok (.iload 4, 2) := by decide +kernel
theorem dX8_aimed_71 : decode cX8_aimed 71 = .ok (.invokestatic 96, 3) := by decide +kernel
theorem dX8_aimed_74 : decode cX8_aimed 74 = .ok (.istore_n 2, 1) := by decide +kernel
theorem dX8_aimed_75 : decode cX8_aimed 75 = .ok (.goto 65, 3) := by decide +kernel
theorem dX8_aimed_78 : decode cX8_aimed 78 = .ok (.iload_n 2, 1) := by decide +kernel
theorem dX8_aimed_79 : decode cX8_aimed 79 = .ok (.iload 4, 2) := by decide +kernel
theorem dX8_aimed_81 : decode cX8_aimed 81 = .ok (.iadd, 1) := by decide +kernel
theorem dX8_aimed_82 : decode cX8_aimed 82 = .ok (.istore_n 2, 1) := by decide +kernel
theorem dX8_aimed_83 : decode cX8_aimed 83 = .ok (.goto 57, 3) := by decide +kernel
theorem dX8_aimed_86 : decode cX8_aimed 86 = .ok (.iload_n 3, 1) := by decide +kernel
theorem dX8_aimed_87 : decode cX8_aimed 87 = .ok (.ifCond .ne 8, 3) := by decide +kernel
theorem dX8_aimed_90 : decode cX8_aimed 90 = .ok (.iload 5, 2) := by decide +kernel
theorem dX8_aimed_92 : decode cX8_aimed 92 = .ok (.goto 9, 3) := by decide +kernel
theorem dX8_aimed_95 : decode cX8_aimed 95 = .ok (.iload_n 2, 1) := by decide +kernel
theorem dX8_aimed_96 : decode cX8_aimed 96 = .ok (.iload 5, 2) := by decide +kernel
theorem dX8_aimed_98 : decode cX8_aimed 98 = .ok (.invokestatic 96, 3) := by decide +kernel
theorem dX8_aimed_101 : decode cX8_aimed 101 = .ok (.istore_n 2, 1) := by decide +kernel
theorem dX8_aimed_102 : decode cX8_aimed 102 = .ok (.goto 38, 3) := by decide +kernel
theorem dX8_aimed_105 : decode cX8_aimed 105 = .ok (.iload_n 2, 1) := by decide +kernel
theorem dX8_aimed_106 : decode cX8_aimed 106 = .ok (.iload 5, 2) := by decide +kernel
theorem dX8_aimed_108 : decode cX8_aimed 108 = .ok (.ifCond .le 7, 3) := by decide +kernel
theorem dX8_aimed_111 : decode cX8_aimed 111 = .ok (.iconst 1, 1) := by decide +kernel
theorem dX8_aimed_112 : decode cX8_aimed 112 = .ok (.goto 4, 3) := by decide +kernel
theorem dX8_aimed_115 : decode cX8_aimed 115 = .ok (.iconst 0, 1) := by decide +kernel
theorem dX8_aimed_116 : decode cX8_aimed 116 = .ok (.iadd, 1) := by decide +kernel
theorem dX8_aimed_117 : decode cX8_aimed 117 = .ok (.istore_n 2, 1) := by decide +kernel
theorem dX8_aimed_118 : decode cX8_aimed 118 = .ok (.goto 22, 3) := by decide +kernel
theorem dX8_aimed_121 : decode cX8_aimed 121 = .ok (.iload_n 2, 1) := by decide +kernel
theorem dX8_aimed_122 : decode cX8_aimed 122 = .ok (.aload_n 0, 1) := by decide +kernel
theorem dX8_aimed_123 : decode cX8_aimed 123 = .ok (.getfield 36, 3) := by decide +kernel
theorem dX8_aimed_126 : decode cX8_aimed 126 = .ok (.getfield 145, 3) := by decide +kernel
theorem dX8_aimed_129 : decode cX8_aimed 129 = .ok (.iload_n 3, 1) := by decide +kernel
theorem dX8_aimed_130 : decode cX8_aimed 130 = .ok (.iaload, 1) := by decide +kernel
theorem dX8_aimed_131 : decode cX8_aimed 131 = .ok (.iload 5, 2) := by decide +kernel
theorem dX8_aimed_133 : decode cX8_aimed 133 = .ok (.iconst 0, 1) := by decide +kernel
theorem dX8_aimed_134 : decode cX8_aimed 134 = .ok (.invokestatic 96, 3) := by decide +kernel
theorem dX8_aimed_137 : decode cX8_aimed 137 = .ok (.imul, 1) := by decide +kernel
theorem dX8_aimed_138 : decode cX8_aimed 138 = .ok (.iadd, 1) := by decide +kernel
theorem dX8_aimed_139 : decode cX8_aimed 139 = .ok (.istore_n 2, 1) := by decide +kernel
theorem dX8_aimed_140 : decode cX8_aimed 140 = .ok (.iinc 3 1, 3) := by decide +kernel
theorem dX8_aimed_143 : decode cX8_aimed 143 = .ok (.goto (-139), 3) := by decide +kernel
theorem dX8_aimed_146 : decode cX8_aimed 146 = .ok (.iload_n 2, 1) := by decide +kernel
theorem dX8_aimed_147 : decode cX8_aimed 147 = .ok (.ireturn, 1) := by decide +kernel
theorem dX8_hoursDone_0 : decode cX8_hoursDone 0 = .ok (.iconst 0, 1) := by decide +kernel
theorem dX8_hoursDone_1 : decode cX8_hoursDone 1 = .ok (.istore_n 3, 1) := by decide +kernel
theorem dX8_hoursDone_2 : decode cX8_hoursDone 2 = .ok (.iconst 0, 1) := by decide +kernel
theorem dX8_hoursDone_3 : decode cX8_hoursDone 3 = .ok (.istore 4, 2) := by decide +kernel
theorem dX8_hoursDone_5 : decode cX8_hoursDone 5 = .ok (.iload 4, 2) := by decide +kernel
theorem dX8_hoursDone_7 : decode cX8_hoursDone 7 = .ok (.aload_n 0, 1) := by decide +kernel
theorem dX8_hoursDone_8 : decode cX8_hoursDone 8 = .ok (.getfield 15, 3) := by decide +kernel
theorem dX8_hoursDone_11 : decode cX8_hoursDone 11 = .ok (.iload_n 1, 1) := by decide +kernel
theorem dX8_hoursDone_12 : decode cX8_hoursDone 12 = .ok (.iaload, 1) := by decide +kernel
theorem dX8_hoursDone_13 : decode cX8_hoursDone 13 = .ok (.if_icmp .ge 46, 3) := by decide +kernel
theorem dX8_hoursDone_16 : decode cX8_hoursDone 16 = .ok (.iload_n 1, 1) := by decide +kernel
theorem dX8_hoursDone_17 : decode cX8_hoursDone 17 = .ok (.iconst 5, 1) := by decide +kernel
theorem dX8_hoursDone_18 : decode cX8_hoursDone 18 = .ok (.imul, 1) := by decide +kernel
theorem dX8_hoursDone_19 : decode cX8_hoursDone 19 = .ok (.iload 4, 2) := by decide +kernel
theorem dX8_hoursDone_21 : decode cX8_hoursDone 21 = .ok (.iadd, 1) := by decide +kernel
theorem dX8_hoursDone_22 : decode cX8_hoursDone 22 = .ok (.istore 5, 2) := by decide +kernel
theorem dX8_hoursDone_24 : decode cX8_hoursDone 24 = .ok (.iload_n 3, 1) := by decide +kernel
theorem dX8_hoursDone_25 : decode cX8_hoursDone 25 = .ok (.iload_n 2, 1) := by decide +kernel
theorem dX8_hoursDone_26 : decode cX8_hoursDone 26 = .ok (.aload_n 0, 1) := by decide +kernel
theorem dX8_hoursDone_27 : decode cX8_hoursDone 27 = .ok (.getfield 24, 3) := by decide +kernel
theorem dX8_hoursDone_30 : decode cX8_hoursDone 30 = .ok (.iload 5, 2) := by decide +kernel
theorem dX8_hoursDone_32 : decode cX8_hoursDone 32 = .ok (.iaload, 1) := by decide +kernel
theorem dX8_hoursDone_33 : decode cX8_hoursDone 33 = .ok (.isub, 1) := by decide +kernel
theorem dX8_hoursDone_34 : decode cX8_hoursDone 34 = .ok (.iconst 0, 1) := by decide +kernel
theorem dX8_hoursDone_35 : decode cX8_hoursDone 35 = .ok (.invokestatic 96, 3) := by decide +kernel
theorem dX8_hoursDone_38 : decode cX8_hoursDone 38 = .ok (.aload_n 0, 1) := by decide +kernel
theorem dX8_hoursDone_39 : decode cX8_hoursDone 39 = .ok (.getfield 36, 3) := by decide +kernel
theorem dX8_hoursDone_42 : decode cX8_hoursDone 42 = .ok (.getfield 58, 3) := by decide +kernel
theorem dX8_hoursDone_45 : decode cX8_hoursDone 45 = .ok (.iload 5, 2) := by decide +kernel
theorem dX8_hoursDone_47 : decode cX8_hoursDone 47 = .ok (.iaload, 1) := by decide +kernel
theorem dX8_hoursDone_48 : decode cX8_hoursDone 48 = .ok (.invokestatic 157, 3) := by decide +kernel
theorem dX8_hoursDone_51 : decode cX8_hoursDone 51 = .ok (.iadd, 1) := by decide +kernel
theorem dX8_hoursDone_52 : decode cX8_hoursDone 52 = .ok (.istore_n 3, 1) := by decide +kernel
theorem dX8_hoursDone_53 : decode cX8_hoursDone 53 = .ok (.iinc 4 1, 3) := by decide +kernel
theorem dX8_hoursDone_56 : decode cX8_hoursDone 56 = .ok (.goto (-51), 3) := by decide +kernel
theorem dX8_hoursDone_59 : decode cX8_hoursDone 59 = .ok (.iload_n 3, 1) := by decide +kernel
theorem dX8_hoursDone_60 : decode cX8_hoursDone 60 = .ok (.ireturn, 1) := by decide +kernel
theorem dX9_init_0 : decode cX9_init 0 = .ok (.aload_n 0, 1) := by decide +kernel
theorem dX9_init_1 : decode cX9_init 1 = .ok (.invokespecial 3, 3) := by decide +kernel
theorem dX9_init_4 : decode cX9_init 4 = .ok (.aload_n 0, 1) := by decide +kernel
theorem dX9_init_5 : decode cX9_init 5 = .ok (.bipush 30, 2) := by decide +kernel
theorem dX9_init_7 : decode cX9_init 7 = .ok (.newarray .int, 2) := by decide +kernel
theorem dX9_init_9 : decode cX9_init 9 = .ok (.putfield 9, 3) := by decide +kernel
theorem dX9_init_12 : decode cX9_init 12 = .ok (.aload_n 0, 1) := by decide +kernel
theorem dX9_init_13 : decode cX9_init 13 = .ok (.aload_n 1, 1) := by decide +kernel
theorem dX9_init_14 : decode cX9_init 14 = .ok (.putfield 15, 3) := by decide +kernel
theorem dX9_init_17 : decode cX9_init 17 = .ok (.aload_n 0, 1) := by decide +kernel
theorem dX9_init_18 : decode cX9_init 18 = .ok (.aload_n 2, 1) := by decide +kernel
theorem dX9_init_19 : decode cX9_init 19 = .ok (.putfield 19, 3) := by decide +kernel
theorem dX9_init_22 : decode cX9_init 22 = .ok (.return_, 1) := by decide +kernel
theorem dX9_trace_0 : decode cX9_trace 0 = .ok (.aload_n 0, 1) := by decide +kernel
theorem dX9_trace_1 : decode cX9_trace 1 = .ok (.iconst 0, 1) := by decide +kernel
theorem dX9_trace_2 : decode cX9_trace 2 = .ok (.putfield 23, 3) := by decide +kernel
theorem dX9_trace_5 : decode cX9_trace 5 = .ok (.aload_n 0, 1) := by decide +kernel
theorem dX9_trace_6 : decode cX9_trace 6 = .ok (.iconst 0, 1) := by decide +kernel
theorem dX9_trace_7 : decode cX9_trace 7 = .ok (.putfield 27, 3) := by decide +kernel
theorem dX9_trace_10 : decode cX9_trace 10 = .ok (.aload_n 0, 1) := by decide +kernel
theorem dX9_trace_11 : decode cX9_trace 11 = .ok (.iconst 0, 1) := by decide +kernel
theorem dX9_trace_12 : decode cX9_trace 12 = .ok (.putfield 30, 3) := by decide +kernel
theorem dX9_trace_15 : decode cX9_trace 15 = .ok (.iconst 0, 1) := by decide +kernel
theorem dX9_trace_16 : decode cX9_trace 16 = .ok (.istore_n 1, 1) := by decide +kernel
theorem dX9_trace_17 : decode cX9_trace 17 = .ok (.iconst (-1), 1) := by decide +kernel
theorem dX9_trace_18 : decode cX9_trace 18 = .ok (.istore_n 2, 1) := by decide +kernel
theorem dX9_trace_19 : decode cX9_trace 19 = .ok (.aload_n 0, 1) := by decide +kernel
theorem dX9_trace_20 : decode cX9_trace 20 = .ok (.invokevirtual 33, 3) := by decide +kernel
theorem dX9_trace_23 : decode cX9_trace 23 = .ok (.istore_n 3, 1) := by decide +kernel
theorem dX9_trace_24 : decode cX9_trace 24 = .ok (.iload_n 3, 1) := by decide +kernel
theorem dX9_trace_25 : decode cX9_trace 25 = .ok (.iconst (-1), 1) := by decide +kernel
theorem dX9_trace_26 : decode cX9_trace 26 = .ok (.if_icmp .eq 115, 3) := by decide +kernel
theorem dX9_trace_29 : decode cX9_trace 29 = .ok (.aload_n 0, 1) := by decide +kernel
theorem dX9_trace_30 : decode cX9_trace 30 = .ok (.getfield 23, 3) := by decide +kernel
theorem dX9_trace_33 : decode cX9_trace 33 = .ok (.bipush 30, 2) := by decide +kernel
theorem dX9_trace_35 : decode cX9_trace 35 = .ok (.if_icmp .ge 106, 3) := by decide +kernel
theorem dX9_trace_38 : decode cX9_trace 38 = .ok (.aload_n 0, 1) := by decide +kernel
theorem dX9_trace_39 : decode cX9_trace 39 = .ok (.getfield 9, 3) := by decide +kernel
theorem dX9_trace_42 : decode cX9_trace 42 = .ok (.aload_n 0, 1) := by decide +kernel
theorem dX9_trace_43 : decode cX9_trace 43 = .ok (.getfield 23, 3) := by decide +kernel
theorem dX9_trace_46 : decode cX9_trace 46 = .ok (.iload_n 3, 1) := by decide +kernel
theorem dX9_trace_47 : decode cX9_trace 47 = .ok (.iastore, 1) := by decide +kernel
theorem dX9_trace_48 : decode cX9_trace 48 = .ok (.aload_n 0, 1) := by decide +kernel
theorem dX9_trace_49 : decode cX9_trace 49 = .ok (.dup, 1) := by decide +kernel
theorem dX9_trace_50 : decode cX9_trace 50 = .ok (.getfield 23, 3) := by decide +kernel
theorem dX9_trace_53 : decode cX9_trace 53 = .ok (.iconst 1, 1) := by decide +kernel
theorem dX9_trace_54 : decode cX9_trace 54 = .ok (.iadd, 1) := by decide +kernel
theorem dX9_trace_55 : decode cX9_trace 55 = .ok (.putfield 23, 3) := by decide +kernel
theorem dX9_trace_58 : decode cX9_trace 58 = .ok (.aload_n 0, 1) := by decide +kernel
theorem dX9_trace_59 : decode cX9_trace 59 = .ok (.getfield 15, 3) := by decide +kernel
theorem dX9_trace_62 : decode cX9_trace 62 = .ok (.getfield 37, 3) := by decide +kernel
theorem dX9_trace_65 : decode cX9_trace 65 = .ok (.iload_n 3, 1) := by decide +kernel
theorem dX9_trace_66 : decode cX9_trace 66 = .ok (.iaload, 1) := by decide +kernel
theorem dX9_trace_67 : decode cX9_trace 67 = .ok (.iload_n 2, 1) := by decide +kernel
theorem dX9_trace_68 : decode cX9_trace 68 = .ok (.if_icmp .ne 7, 3) := by decide +kernel
theorem dX9_trace_71 : decode cX9_trace 71 = .ok (.iconst 1, 1) := by decide +kernel
theorem dX9_trace_72 : decode cX9_trace 72 = .ok (.goto 4, 3) := by decide +kernel
theorem dX9_trace_75 : decode cX9_trace 75 = .ok (.iconst 0, 1) := by decide +kernel
theorem dX9_trace_76 : decode cX9_trace 76 = .ok (.istore 4, 2) := by decide +kernel
theorem dX9_trace_78 : decode cX9_trace 78 = .ok (.aload_n 0, 1) := by decide +kernel
theorem dX9_trace_79 : decode cX9_trace 79 = .ok (.dup, 1) := by decide +kernel
theorem dX9_trace_80 : decode cX9_trace 80 = .ok (.getfield 27, 3) := by decide +kernel
theorem dX9_trace_83 : decode cX9_trace 83 = .ok (.iload 4, 2) := by decide +kernel
theorem dX9_trace_85 : decode cX9_trace 85 = .ok (.ifCond .eq 7, 3) := by decide +kernel
theorem dX9_trace_88 : decode cX9_trace 88 = .ok (.iconst 0, 1) := by decide +kernel
theorem dX9_trace_89 : decode cX9_trace 89 = .ok (.goto 4, 3) := by decide +kernel
theorem dX9_trace_92 : decode cX9_trace 92 = .ok (.iconst 1, 1) := by decide +kernel
theorem dX9_trace_93 : decode cX9_trace 93 = .ok (.iadd, 1) := by decide +kernel
theorem dX9_trace_94 : decode cX9_trace 94 = .ok (.putfield 27, 3) := by decide +kernel
theorem dX9_trace_97 : decode cX9_trace 97 = .ok (.iload 4, 2) := by decide +kernel
theorem dX9_trace_99 : decode cX9_trace 99 = .ok (.ifCond .eq 9, 3) := by decide +kernel
theorem dX9_trace_102 : decode cX9_trace 102 = .ok (.iload_n 1, 1) := by decide +kernel
theorem dX9_trace_103 : decode cX9_trace 103 = .ok (.iconst 1, 1) := by decide +kernel
theorem dX9_trace_104 : decode cX9_trace 104 = .ok (.iadd, 1) := by decide +kernel
theorem dX9_trace_105 : decode cX9_trace 105 = .ok (.goto 4, 3) := by decide +kernel
theorem dX9_trace_108 : decode cX9_trace 108 = .ok (.iconst 1, 1) := by decide +kernel
theorem dX9_trace_109 : decode cX9_trace 109 = .ok (.istore_n 1, 1) := by decide +kernel
theorem dX9_trace_110 : decode cX9_trace 110 = .ok (.aload_n 0, 1) := by decide +kernel
theorem dX9_trace_111 : decode cX9_trace 111 = .ok (.aload_n 0, 1) := by decide +kernel
theorem dX9_trace_112 : decode cX9_trace 112 = .ok (.getfield 30, 3) := by decide +kernel
theorem dX9_trace_115 : decode cX9_trace 115 = .ok (.iload_n 1, 1) := by decide +kernel
theorem dX9_trace_116 : decode cX9_trace 116 = .ok (.invokestatic 42, 3) := by decide +kernel
theorem dX9_trace_119 : decode cX9_trace 119 = .ok (.putfield 30, 3) := by decide +kernel
theorem dX9_trace_122 : decode cX9_trace 122 = .ok (.aload_n 0, 1) := by decide +kernel
theorem dX9_trace_123 : decode cX9_trace 123 = .ok (.getfield 15, 3) := by decide +kernel
theorem dX9_trace_126 : decode cX9_trace 126 = .ok (.getfield 37, 3) := by decide +kernel
theorem dX9_trace_129 : decode cX9_trace 129 = .ok (.iload_n 3, 1) := by decide +kernel
theorem dX9_trace_130 : decode cX9_trace 130 = .ok (.iaload, 1) := by decide +kernel
theorem dX9_trace_131 : decode cX9_trace 131 = .ok (.istore_n 2, 1) := by decide +kernel
theorem dX9_trace_132 : decode cX9_trace 132 = .ok (.aload_n 0, 1) := by decide +kernel
theorem dX9_trace_133 : decode cX9_trace 133 = .ok (.iload_n 3, 1) := by decide +kernel
theorem dX9_trace_134 : decode cX9_trace 134 = .ok (.invokevirtual 48, 3) := by decide +kernel
theorem dX9_trace_137 : decode cX9_trace 137 = .ok (.istore_n 3, 1) := by decide +kernel
theorem dX9_trace_138 : decode cX9_trace 138 = .ok (.goto (-114), 3) := by decide +kernel
theorem dX9_trace_141 : decode cX9_trace 141 = .ok (.return_, 1) := by decide +kernel
theorem dX9_latestStep_0 : decode cX9_latestStep 0 = .ok (.iconst (-1), 1) := by decide +kernel
theorem dX9_latestStep_1 : decode cX9_latestStep 1 = .ok (.istore_n 1, 1) := by decide +kernel
theorem dX9_latestStep_2 : decode cX9_latestStep 2 = .ok (.iconst 0, 1) := by decide +kernel
theorem dX9_latestStep_3 : decode cX9_latestStep 3 = .ok (.istore_n 2, 1) := by decide +kernel
theorem dX9_latestStep_4 : decode cX9_latestStep 4 = .ok (.iload_n 2, 1) := by decide +kernel
theorem dX9_latestStep_5 : decode cX9_latestStep 5 = .ok (.aload_n 0, 1) := by decide +kernel
theorem dX9_latestStep_6 : decode cX9_latestStep 6 = .ok (.getfield 15, 3) := by decide +kernel
theorem dX9_latestStep_9 : decode cX9_latestStep 9 = .ok (.getfield 52, 3) := by decide +kernel
theorem dX9_latestStep_12 : decode cX9_latestStep 12 = .ok (.if_icmp .ge 63, 3) := by decide +kernel
theorem dX9_latestStep_15 : decode cX9_latestStep 15 = .ok (.aload_n 0, 1) := by decide +kernel
theorem dX9_latestStep_16 : decode cX9_latestStep 16 = .ok (.getfield 19, 3) := by decide +kernel
theorem dX9_latestStep_19 : decode cX9_latestStep 19 = .ok (.getfield 55, 3) := by decide +kernel
theorem dX9_latestStep_22 : decode cX9_latestStep 22 = .ok (.iload_n 2, 1) := by decide +kernel
theorem dX9_latestStep_23 : decode cX9_latestStep 23 = .ok (.iaload, 1) := by decide +kernel
theorem dX9_latestStep_24 : decode cX9_latestStep 24 = .ok (.ifCond .le 45, 3) := by decide +kernel
theorem dX9_latestStep_27 : decode cX9_latestStep 27 = .ok (.iload_n 2, 1) := by decide +kernel
theorem dX9_latestStep_28 : decode cX9_latestStep 28 = .ok (.iconst 5, 1) := by decide +kernel
theorem dX9_latestStep_29 : decode cX9_latestStep 29 = .ok (.imul, 1) := by decide +kernel
theorem dX9_latestStep_30 : decode cX9_latestStep 30 = .ok (.aload_n 0, 1) := by decide +kernel
theorem dX9_latestStep_31 : decode cX9_latestStep 31 = .ok (.getfield 19, 3) := by decide +kernel
theorem dX9_latestStep_34 : decode cX9_latestStep 34 = .ok (.getfield 55, 3) := by decide +kernel
theorem dX9_latestStep_37 : decode cX9_latestStep 37 = .ok (.iload_n 2, 1) := by decide +kernel
theorem dX9_latestStep_38 : decode cX9_latestStep 38 = .ok (.iaload, 1) := by decide +kernel
theorem dX9_latestStep_39 : decode cX9_latestStep 39 = .ok (.iadd, 1) := by decide +kernel
theorem dX9_latestStep_40 : decode cX9_latestStep 40 = .ok (.iconst 1, 1) := by decide +kernel
theorem dX9_latestStep_41 : decode cX9_latestStep 41 = .ok (.isub, 1) := by decide +kernel
theorem dX9_latestStep_42 : decode cX9_latestStep 42 = .ok (.istore_n 3, 1) := by decide +kernel
theorem dX9_latestStep_43 : decode cX9_latestStep 43 = .ok (.iload_n 1, 1) := by decide +kernel
theorem dX9_latestStep_44 : decode cX9_latestStep 44 = .ok (.iconst (-1), 1) := by decide +kernel
theorem dX9_latestStep_45 : decode cX9_latestStep 45 = .ok (.if_icmp .eq 22, 3) := by decide +kernel
theorem dX9_latestStep_48 : decode cX9_latestStep 48 = .ok (.aload_n 0, 1) := by decide +kernel
theorem dX9_latestStep_49 : decode cX9_latestStep 49 = .ok (.getfield 19, 3) := by decide +kernel
theorem dX9_latestStep_52 : decode cX9_latestStep 52 = .ok (.iload_n 3, 1) := by decide +kernel
theorem dX9_latestStep_53 : decode cX9_latestStep 53 = .ok (.invokevirtual 60, 3) := by decide +kernel
theorem dX9_latestStep_56 : decode cX9_latestStep 56 = .ok (.aload_n 0, 1) := by decide +kernel
theorem dX9_latestStep_57 : decode cX9_latestStep 57 = .ok (.getfield 19, 3) := by decide +kernel
theorem dX9_latestStep_60 : decode cX9_latestStep 60 = .ok (.iload_n 1, 1) := by decide +kernel
theorem dX9_latestStep_61 : decode cX9_latestStep 61 = .ok (.invokevirtual 60, 3) := by decide +kernel
theorem dX9_latestStep_64 : decode cX9_latestStep 64 = .ok (.if_icmp .le 5, 3) := by decide +kernel
theorem dX9_latestStep_67 : decode cX9_latestStep 67 = .ok (.iload_n 3, 1) := by decide +kernel
theorem dX9_latestStep_68 : decode cX9_latestStep 68 = .ok (.istore_n 1, 1) := by decide +kernel
theorem dX9_latestStep_69 : decode cX9_latestStep 69 = .ok (.iinc 2 1, 3) := by decide +kernel
theorem dX9_latestStep_72 : decode cX9_latestStep 72 = .ok (.goto (-68), 3) := by decide +kernel
theorem dX9_latestStep_75 : decode cX9_latestStep 75 = .ok (.iload_n 1, 1) := by decide +kernel
theorem dX9_latestStep_76 : decode cX9_latestStep 76 = .ok (.ireturn, 1) := by decide +kernel
theorem dX9_stepAheadOf_0 : decode cX9_stepAheadOf 0 = .ok (.iload_n 1, 1) := by decide +kernel
theorem dX9_stepAheadOf_1 : decode cX9_stepAheadOf 1 = .ok (.iconst 5, 1) := by decide +kernel
theorem dX9_stepAheadOf_2 : decode cX9_stepAheadOf 2 = .ok (.irem, 1) := by decide +kernel
theorem dX9_stepAheadOf_3 : decode cX9_stepAheadOf 3 = .ok (.ifCond .le 29, 3) := by decide +kernel
theorem dX9_stepAheadOf_6 : decode cX9_stepAheadOf 6 = .ok (.aload_n 0, 1) := by decide +kernel
theorem dX9_stepAheadOf_7 : decode cX9_stepAheadOf 7 = .ok (.getfield 19, 3) := by decide +kernel
theorem dX9_stepAheadOf_10 : decode cX9_stepAheadOf 10 = .ok (.iload_n 1, 1) := by decide +kernel
theorem dX9_stepAheadOf_11 : decode cX9_stepAheadOf 11 = .ok (.iconst 1, 1) := by decide +kernel
theorem dX9_stepAheadOf_12 : decode cX9_stepAheadOf 12 = .ok (.isub, 1) := by decide +kernel
theorem dX9_stepAheadOf_13 : decode cX9_stepAheadOf 13 = .ok (.invokevirtual 60, 3) := by decide +kernel
theorem dX9_stepAheadOf_16 : decode cX9_stepAheadOf 16 = .ok (.aload_n 0, 1) := by decide +kernel
theorem dX9_stepAheadOf_17 : decode cX9_stepAheadOf 17 = .ok (.getfield 19, 3) := by decide +kernel
theorem dX9_stepAheadOf_20 : decode cX9_stepAheadOf 20 = .ok (.getfield 63, 3) := by decide +kernel
theorem dX9_stepAheadOf_23 : decode cX9_stepAheadOf 23 = .ok (.iload_n 1, 1) := by decide +kernel
theorem dX9_stepAheadOf_24 : decode cX9_stepAheadOf 24 = .ok (.iaload, 1) := by decide +kernel
theorem dX9_stepAheadOf_25 : decode cX9_stepAheadOf 25 = .ok (.if_icmp .ne 7, 3) := by decide +kernel
theorem dX9_stepAheadOf_28 : decode cX9_stepAheadOf 28 = .ok (.iload_n 1, 1) := by decide +kernel
theorem dX9_stepAheadOf_29 : decode cX9_stepAheadOf 29 = .ok (.iconst 1, 1) := by decide +kernel
theorem dX9_stepAheadOf_30 : decode cX9_stepAheadOf 30 = .ok (.isub, 1) := by decide +kernel
theorem dX9_stepAheadOf_31 : decode cX9_stepAheadOf 31 = .ok (.ireturn, 1) := by decide +kernel
theorem dX9_stepAheadOf_32 : decode cX9_stepAheadOf 32 = .ok (.aload_n 0, 1) := by decide +kernel
theorem dX9_stepAheadOf_33 : decode cX9_stepAheadOf 33 = .ok (.getfield 19, 3) := by decide +kernel
theorem dX9_stepAheadOf_36 : decode cX9_stepAheadOf 36 = .ok (.getfield 66, 3) := by decide +kernel
theorem dX9_stepAheadOf_39 : decode cX9_stepAheadOf 39 = .ok (.iload_n 1, 1) := by decide +kernel
theorem dX9_stepAheadOf_40 : decode cX9_stepAheadOf 40 = .ok (.iaload, 1) := by decide +kernel
theorem dX9_stepAheadOf_41 : decode cX9_stepAheadOf 41 = .ok (.istore_n 2, 1) := by decide +kernel
theorem dX9_stepAheadOf_42 : decode cX9_stepAheadOf 42 = .ok (.iload_n 2, 1) := by decide +kernel
theorem dX9_stepAheadOf_43 : decode cX9_stepAheadOf 43 = .ok (.iconst (-1), 1) := by decide +kernel
theorem dX9_stepAheadOf_44 : decode cX9_stepAheadOf 44 = .ok (.if_icmp .eq 35, 3) := by decide +kernel
theorem dX9_stepAheadOf_47 : decode cX9_stepAheadOf 47 = .ok (.aload_n 0, 1) := by decide +kernel
theorem dX9_stepAheadOf_48 : decode cX9_stepAheadOf 48 = .ok (.getfield 19, 3) := by decide +kernel
theorem dX9_stepAheadOf_51 : decode cX9_stepAheadOf 51 = .ok (.iload_n 2, 1) := by decide +kernel
theorem dX9_stepAheadOf_52 : decode cX9_stepAheadOf 52 = .ok (.invokevirtual 60, 3) := by decide +kernel
theorem dX9_stepAheadOf_55 : decode cX9_stepAheadOf 55 = .ok (.aload_n 0, 1) := by decide +kernel
theorem dX9_stepAheadOf_56 : decode cX9_stepAheadOf 56 = .ok (.getfield 19, 3) := by decide +kernel
theorem dX9_stepAheadOf_59 : decode cX9_stepAheadOf 59 = .ok (.getfield 69, 3) := by decide +kernel
theorem dX9_stepAheadOf_62 : decode cX9_stepAheadOf 62 = .ok (.iload_n 1, 1) := by decide +kernel
theorem dX9_stepAheadOf_63 : decode cX9_stepAheadOf 63 = .ok (.iaload, 1) := by decide +kernel
theorem dX9_stepAheadOf_64 : decode cX9_stepAheadOf 64 = .ok (.iadd, 1) := by decide +kernel
theorem dX9_stepAheadOf_65 : decode cX9_stepAheadOf 65 = .ok (.aload_n 0, 1) := by decide +kernel
theorem dX9_stepAheadOf_66 : decode cX9_stepAheadOf 66 = .ok (.getfield 19, 3) := by decide +kernel
theorem dX9_stepAheadOf_69 : decode cX9_stepAheadOf 69 = .ok (.getfield 63, 3) := by decide +kernel
theorem dX9_stepAheadOf_72 : decode cX9_stepAheadOf 72 = .ok (.iload_n 1, 1) := by decide +kernel
theorem dX9_stepAheadOf_73 : decode cX9_stepAheadOf 73 = .ok (.iaload, 1) := by decide +kernel
theorem dX9_stepAheadOf_74 : decode cX9_stepAheadOf 74 = .ok (.if_icmp .ne 5, 3) := by decide +kernel
theorem dX9_stepAheadOf_77 : decode cX9_stepAheadOf 77 = .ok (.iload_n 2, 1) := by decide +kernel
theorem dX9_stepAheadOf_78 : decode cX9_stepAheadOf 78 = .ok (.ireturn, 1) := by decide +kernel
theorem dX9_stepAheadOf_79 : decode cX9_stepAheadOf 79 = .ok (.iconst (-1), 1) := by decide +kernel
theorem dX9_stepAheadOf_80 : decode cX9_stepAheadOf 80 = .ok (.ireturn, 1) := by decide +kernel
