theorem dX10_count_88 : decode cX10_count 88 = .ok (.invokevirtual 271, 3) := by decide +kernel
theorem dX10_count_91 : decode cX10_count 91 = .ok (.ireturn, 1) := by decide +kernel
theorem dX10_count_92 : decode cX10_count 92 = .ok (.aload_n 0, 1) := by decide +kernel
theorem dX10_count_93 : decode cX10_count 93 = .ok (.invokevirtual 274, 3) := by decide +kernel
theorem dX10_count_96 : decode cX10_count 96 = .ok (.ireturn, 1) := by decide +kernel
theorem dX10_count_97 : decode cX10_count 97 = .ok (.iconst (-1), 1) := by decide +kernel
theorem dX10_count_98 : decode cX10_count 98 = .ok (.ireturn, 1) := by decide +kernel
theorem dX10_areProperties_0 : decode cX10_areProperties 0 = .ok (.iload_n 0, 1) := by decide +kernel
theorem dX10_areProperties_1 : decode cX10_areProperties 1 = .ok (.ifCond .lt 14, 3) := by decide +kernel
theorem dX10_areProperties_4 : decode cX10_areProperties 4 = .ok (.iload_n 0, 1) := by decide +kernel
theorem dX10_areProperties_5 : decode cX10_areProperties 5 = .ok (.sipush 4095, 3) := by decide +kernel
theorem dX10_areProperties_8 : decode cX10_areProperties 8 = .ok (.if_icmp .gt 7, 3) := by decide +kernel
theorem dX10_areProperties_11 : decode cX10_areProperties 11 = .ok (.iconst 1, 1) := by decide +kernel
theorem dX10_areProperties_12 : decode cX10_areProperties 12 = .ok (.goto 4, 3) := by decide +kernel
theorem dX10_areProperties_15 : decode cX10_areProperties 15 = .ok (.iconst 0, 1) := by decide +kernel
theorem dX10_areProperties_16 : decode cX10_areProperties 16 = .ok (.ireturn, 1) := by decide +kernel
theorem dX10_holds_0 : decode cX10_holds 0 = .ok (.iload_n 1, 1) := by decide +kernel
theorem dX10_holds_1 : decode cX10_holds 1 = .ok (.ifCond .lt 22, 3) := by decide +kernel
theorem dX10_holds_4 : decode cX10_holds 4 = .ok (.iload_n 1, 1) := by decide +kernel
theorem dX10_holds_5 : decode cX10_holds 5 = .ok (.bipush 12, 2) := by decide +kernel
theorem dX10_holds_7 : decode cX10_holds 7 = .ok (.if_icmp .ge 16, 3) := by decide +kernel
theorem dX10_holds_10 : decode cX10_holds 10 = .ok (.iload_n 0, 1) := by decide +kernel
theorem dX10_holds_11 : decode cX10_holds 11 = .ok (.iload_n 1, 1) := by decide +kernel
theorem dX10_holds_12 : decode cX10_holds 12 = .ok (.ishr, 1) := by decide +kernel
theorem dX10_holds_13 : decode cX10_holds 13 = .ok (.iconst 1, 1) := by decide +kernel
theorem dX10_holds_14 : decode cX10_holds 14 = .ok (.iand, 1) := by decide +kernel
theorem dX10_holds_15 : decode cX10_holds 15 = .ok (.iconst 1, 1) := by decide +kernel
theorem dX10_holds_16 : decode cX10_holds 16 = .ok (.if_icmp .ne 7, 3) := by decide +kernel
theorem dX10_holds_19 : decode cX10_holds 19 = .ok (.iconst 1, 1) := by decide +kernel
theorem dX10_holds_20 : decode cX10_holds 20 = .ok (.goto 4, 3) := by decide +kernel
theorem dX10_holds_23 : decode cX10_holds 23 = .ok (.iconst 0, 1) := by decide +kernel
theorem dX10_holds_24 : decode cX10_holds 24 = .ok (.ireturn, 1) := by decide +kernel
theorem dX10_isYear_0 : decode cX10_isYear 0 = .ok (.iload_n 0, 1) := by decide +kernel
theorem dX10_isYear_1 : decode cX10_isYear 1 = .ok (.ifCond .lt 14, 3) := by decide +kernel
theorem dX10_isYear_4 : decode cX10_isYear 4 = .ok (.iload_n 0, 1) := by decide +kernel
theorem dX10_isYear_5 : decode cX10_isYear 5 = .ok (.sipush 999, 3) := by decide +kernel
theorem dX10_isYear_8 : decode cX10_isYear 8 = .ok (.if_icmp .gt 7, 3) := by decide +kernel
theorem dX10_isYear_11 : decode cX10_isYear 11 = .ok (.iconst 1, 1) := by decide +kernel
theorem dX10_isYear_12 : decode cX10_isYear 12 = .ok (.goto 4, 3) := by decide +kernel
theorem dX10_isYear_15 : decode cX10_isYear 15 = .ok (.iconst 0, 1) := by decide +kernel
theorem dX10_isYear_16 : decode cX10_isYear 16 = .ok (.ireturn, 1) := by decide +kernel
theorem dX10_isYearToCome_0 : decode cX10_isYearToCome 0 = .ok (.iload_n 1, 1) := by decide +kernel
theorem dX10_isYearToCome_1 : decode cX10_isYearToCome 1 = .ok (.invokestatic 134, 3) := by decide +kernel
theorem dX10_isYearToCome_4 : decode cX10_isYearToCome 4 = .ok (.ifCond .eq 15, 3) := by decide +kernel
theorem dX10_isYearToCome_7 : decode cX10_isYearToCome 7 = .ok (.iload_n 1, 1) := by decide +kernel
theorem dX10_isYearToCome_8 : decode cX10_isYearToCome 8 = .ok (.aload_n 0, 1) := by decide +kernel
theorem dX10_isYearToCome_9 : decode cX10_isYearToCome 9 = .ok (.getfield 85, 3) := by decide +kernel
theorem dX10_isYearToCome_12 : decode cX10_isYearToCome 12 = .ok (.if_icmp .lt 7, 3) := by decide +kernel
theorem dX10_isYearToCome_15 : decode cX10_isYearToCome 15 = .ok (.iconst 1, 1) := by decide +kernel
theorem dX10_isYearToCome_16 : decode cX10_isYearToCome 16 = .ok (.goto 4, 3) := by decide +kernel
theorem dX10_isYearToCome_19 : decode cX10_isYearToCome 19 = .ok (.iconst 0, 1) := by decide +kernel
theorem dX10_isYearToCome_20 : decode cX10_isYearToCome 20 = .ok (.ireturn, 1) := by decide +kernel
theorem dX10_makeAt_0 : decode cX10_makeAt 0 = .ok (.iload_n 1, 1) := by decide +kernel
theorem dX10_makeAt_1 : decode cX10_makeAt 1 = .ok (.ifCond .lt 20, 3) := by decide +kernel
theorem dX10_makeAt_4 : decode cX10_makeAt 4 = .ok (.iload_n 1, 1) := by decide +kernel
theorem dX10_makeAt_5 : decode cX10_makeAt 5 = .ok (.aload_n 0, 1) := by decide +kernel
theorem dX10_makeAt_6 : decode cX10_makeAt 6 = .ok (.getfield 78, 3) := by decide +kernel
theorem dX10_makeAt_9 : decode cX10_makeAt 9 = .ok (.if_icmp .ge 12, 3) := by decide +kernel
theorem dX10_makeAt_12 : decode cX10_makeAt 12 = .ok (.aload_n 0, 1) := by decide +kernel
theorem dX10_makeAt_13 : decode cX10_makeAt 13 = .ok (.getfield 23, 3) := by decide +kernel
theorem dX10_makeAt_16 : decode cX10_makeAt 16 = .ok (.iload_n 1, 1) := by decide +kernel
theorem dX10_makeAt_17 : decode cX10_makeAt 17 = .ok (.aaload, 1) := by decide +kernel
theorem dX10_makeAt_18 : decode cX10_makeAt 18 = .ok (.goto 4, 3) := by decide +kernel
theorem dX10_makeAt_21 : decode cX10_makeAt 21 = .ok (.aconst_null, 1) := by decide +kernel
theorem dX10_makeAt_22 : decode cX10_makeAt 22 = .ok (.areturn, 1) := by decide +kernel
theorem dX10_fileAt_0 : decode cX10_fileAt 0 = .ok (.iload_n 1, 1) := by decide +kernel
theorem dX10_fileAt_1 : decode cX10_fileAt 1 = .ok (.ifCond .lt 20, 3) := by decide +kernel
theorem dX10_fileAt_4 : decode cX10_fileAt 4 = .ok (.iload_n 1, 1) := by decide +kernel
theorem dX10_fileAt_5 : decode cX10_fileAt 5 = .ok (.aload_n 0, 1) := by decide +kernel
theorem dX10_fileAt_6 : decode cX10_fileAt 6 = .ok (.getfield 82, 3) := by decide +kernel
theorem dX10_fileAt_9 : decode cX10_fileAt 9 = .ok (.if_icmp .ge 12, 3) := by decide +kernel
theorem dX10_fileAt_12 : decode cX10_fileAt 12 = .ok (.aload_n 0, 1) := by decide +kernel
theorem dX10_fileAt_13 : decode cX10_fileAt 13 = .ok (.getfield 29, 3) := by decide +kernel
theorem dX10_fileAt_16 : decode cX10_fileAt 16 = .ok (.iload_n 1, 1) := by decide +kernel
theorem dX10_fileAt_17 : decode cX10_fileAt 17 = .ok (.aaload, 1) := by decide +kernel
theorem dX10_fileAt_18 : decode cX10_fileAt 18 = .ok (.goto 4, 3) := by decide +kernel
theorem dX10_fileAt_21 : decode cX10_fileAt 21 = .ok (.aconst_null, 1) := by decide +kernel
theorem dX10_fileAt_22 : decode cX10_fileAt 22 = .ok (.areturn, 1) := by decide +kernel
theorem dX10_store_0 : decode cX10_store 0 = .ok (.aload_n 0, 1) := by decide +kernel
theorem dX10_store_1 : decode cX10_store 1 = .ok (.getfield 82, 3) := by decide +kernel
theorem dX10_store_4 : decode cX10_store 4 = .ok (.istore 4, 2) := by decide +kernel
theorem dX10_store_6 : decode cX10_store 6 = .ok (.new 27, 3) := by decide +kernel
theorem dX10_store_9 : decode cX10_store 9 = .ok (.dup, 1) := by decide +kernel
theorem dX10_store_10 : decode cX10_store 10 = .ok (.aload_n 1, 1) := by decide +kernel
theorem dX10_store_11 : decode cX10_store 11 = .ok (.iload_n 2, 1) := by decide +kernel
theorem dX10_store_12 : decode cX10_store 12 = .ok (.iload_n 3, 1) := by decide +kernel
theorem dX10_store_13 : decode cX10_store 13 = .ok (.invokespecial 277, 3) := by decide +kernel
theorem dX10_store_16 : decode cX10_store 16 = .ok (.astore 5, 2) := by decide +kernel
theorem dX10_store_18 : decode cX10_store 18 = .ok (.aload_n 0, 1) := by decide +kernel
theorem dX10_store_19 : decode cX10_store 19 = .ok (.getfield 29, 3) := by decide +kernel
theorem dX10_store_22 : decode cX10_store 22 = .ok (.iload 4, 2) := by decide +kernel
theorem dX10_store_24 : decode cX10_store 24 = .ok (.aload 5, 2) := by decide +kernel
theorem dX10_store_26 : decode cX10_store 26 = .ok (.aastore, 1) := by decide +kernel
theorem dX10_store_27 : decode cX10_store 27 = .ok (.aload_n 0, 1) := by decide +kernel
theorem dX10_store_28 : decode cX10_store 28 = .ok (.dup, 1) := by decide +kernel
theorem dX10_store_29 : decode cX10_store 29 = .ok (.getfield 82, 3) := by decide +kernel
theorem dX10_store_32 : decode cX10_store 32 = .ok (.iconst 1, 1) := by decide +kernel
theorem dX10_store_33 : decode cX10_store 33 = .ok (.iadd, 1) := by decide +kernel
theorem dX10_store_34 : decode cX10_store 34 = .ok (.putfield 82, 3) := by decide +kernel
theorem dX10_store_37 : decode cX10_store 37 = .ok (.iconst 0, 1) := by decide +kernel
theorem dX10_store_38 : decode cX10_store 38 = .ok (.istore 6, 2) := by decide +kernel
theorem dX10_store_40 : decode cX10_store 40 = .ok (.iload 6, 2) := by decide +kernel
theorem dX10_store_42 : decode cX10_store 42 = .ok (.aload_n 0, 1) := by decide +kernel
theorem dX10_store_43 : decode cX10_store 43 = .ok (.getfield 78, 3) := by decide +kernel
theorem dX10_store_46 : decode cX10_store 46 = .ok (.if_icmp .ge 17, 3) := by decide +kernel
theorem dX10_store_49 : decode cX10_store 49 = .ok (.aload_n 0, 1) := by decide +kernel
theorem dX10_store_50 : decode cX10_store 50 = .ok (.aload 5, 2) := by decide +kernel
theorem dX10_store_52 : decode cX10_store 52 = .ok (.iload 6, 2) := by decide +kernel
theorem dX10_store_54 : decode cX10_store 54 = .ok (.invokevirtual 116, 3) := by decide +kernel
theorem dX10_store_57 : decode cX10_store 57 = .ok (.iinc 6 1, 3) := by decide +kernel
theorem dX10_store_60 : decode cX10_store 60 = .ok (.goto (-20), 3) := by decide +kernel
theorem dX10_store_63 : decode cX10_store 63 = .ok (.iload 4, 2) := by decide +kernel
theorem dX10_store_65 : decode cX10_store 65 = .ok (.ireturn, 1) := by decide +kernel
theorem dX10_judge_0 : decode cX10_judge 0 = .ok (.aload_n 0, 1) := by decide +kernel
theorem dX10_judge_1 : decode cX10_judge 1 = .ok (.iload_n 2, 1) := by decide +kernel
theorem dX10_judge_2 : decode cX10_judge 2 = .ok (.invokevirtual 141, 3) := by decide +kernel
theorem dX10_judge_5 : decode cX10_judge 5 = .ok (.astore_n 3, 1) := by decide +kernel
theorem dX10_judge_6 : decode cX10_judge 6 = .ok (.aload_n 1, 1) := by decide +kernel
theorem dX10_judge_7 : decode cX10_judge 7 = .ok (.ifnull 7, 3) := by decide +kernel
theorem dX10_judge_10 : decode cX10_judge 10 = .ok (.aload_n 3, 1) := by decide +kernel
theorem dX10_judge_11 : decode cX10_judge 11 = .ok (.ifnonnull 4, 3) := by decide +kernel
theorem dX10_judge_14 : decode cX10_judge 14 = .ok (.return_, 1) := by decide +kernel
theorem dX10_judge_15 : decode cX10_judge 15 = .ok (.aload_n 0, 1) := by decide +kernel
theorem dX10_judge_16 : decode cX10_judge 16 = .ok (.getfield 71, 3) := by decide +kernel
theorem dX10_judge_19 : decode cX10_judge 19 = .ok (.aload_n 3, 1) := by decide +kernel
theorem dX10_judge_20 : decode cX10_judge 20 = .ok (.aload_n 1, 1) := by decide +kernel
theorem dX10_judge_21 : decode cX10_judge 21 = .ok (.getfield 158, 3) := by decide +kernel
theorem dX10_judge_24 : decode cX10_judge 24 = .ok (.invokevirtual 162, 3) := by decide +kernel
theorem dX10_judge_27 : decode cX10_judge 27 = .ok (.aload_n 0, 1) := by decide +kernel
theorem dX10_judge_28 : decode cX10_judge 28 = .ok (.getfield 71, 3) := by decide +kernel
theorem dX10_judge_31 : decode cX10_judge 31 = .ok (.getfield 166, 3) := by decide +kernel
theorem dX10_judge_34 : decode cX10_judge 34 = .ok (.bipush (-2), 2) := by decide +kernel
theorem dX10_judge_36 : decode cX10_judge 36 = .ok (.if_icmp .eq 17, 3) := by decide +kernel
theorem dX10_judge_39 : decode cX10_judge 39 = .ok (.aload_n 0, 1) := by decide +kernel
theorem dX10_judge_40 : decode cX10_judge 40 = .ok (.getfield 71, 3) := by decide +kernel
theorem dX10_judge_43 : decode cX10_judge 43 = .ok (.getfield 166, 3) := by decide +kernel
theorem dX10_judge_46 : decode cX10_judge 46 = .ok (.aload_n 3, 1) := by decide +kernel
theorem dX10_judge_47 : decode cX10_judge 47 = .ok (.getfield 280, 3) := by decide +kernel
theorem dX10_judge_50 : decode cX10_judge 50 = .ok (.if_icmp .le 4, 3) := by decide +kernel
theorem dX10_judge_53 : decode cX10_judge 53 = .ok (.return_, 1) := by decide +kernel
theorem dX10_judge_54 : decode cX10_judge 54 = .ok (.aload_n 0, 1) := by decide +kernel
theorem dX10_judge_55 : decode cX10_judge 55 = .ok (.getfield 71, 3) := by decide +kernel
theorem dX10_judge_58 : decode cX10_judge 58 = .ok (.getfield 166, 3) := by decide +kernel
theorem dX10_judge_61 : decode cX10_judge 61 = .ok (.aload_n 1, 1) := by decide +kernel
theorem dX10_judge_62 : decode cX10_judge 62 = .ok (.getfield 283, 3) := by decide +kernel
theorem dX10_judge_65 : decode cX10_judge 65 = .ok (.if_icmp .ge 41, 3) := by decide +kernel
theorem dX10_judge_68 : decode cX10_judge 68 = .ok (.aload_n 1, 1) := by decide +kernel
theorem dX10_judge_69 : decode cX10_judge 69 = .ok (.iload_n 2, 1) := by decide +kernel
theorem dX10_judge_70 : decode cX10_judge 70 = .ok (.putfield 169, 3) := by decide +kernel
theorem dX10_judge_73 : decode cX10_judge 73 = .ok (.aload_n 1, 1) := by decide +kernel
theorem dX10_judge_74 : decode cX10_judge 74 = .ok (.aload_n 0, 1) := by decide +kernel
theorem dX10_judge_75 : decode cX10_judge 75 = .ok (.getfield 71, 3) := by decide +kernel
theorem dX10_judge_78 : decode cX10_judge 78 = .ok (.getfield 166, 3) := by decide +kernel
theorem dX10_judge_81 : decode cX10_judge 81 = .ok (.putfield 283, 3) := by decide +kernel
theorem dX10_judge_84 : decode cX10_judge 84 = .ok (.aload_n 1, 1) := by decide +kernel
theorem dX10_judge_85 : decode cX10_judge 85 = .ok (.aload_n 0, 1) := by decide +kernel
theorem dX10_judge_86 : decode cX10_judge 86 = .ok (.getfield 71, 3) := by decide +kernel
theorem dX10_judge_89 : decode cX10_judge 89 = .ok (.getfield 212, 3) := by decide +kernel
theorem dX10_judge_92 : decode cX10_judge 92 = .ok (.putfield 263, 3) := by decide +kernel
theorem dX10_judge_95 : decode cX10_judge 95 = .ok (.aload_n 1, 1) := by decide +kernel
theorem dX10_judge_96 : decode cX10_judge 96 = .ok (.aload_n 0, 1) := by decide +kernel
theorem dX10_judge_97 : decode cX10_judge 97 = .ok (.getfield 71, 3) := by decide +kernel
theorem dX10_judge_100 : decode cX10_judge 100 = .ok (.getfield 176, 3) := by decide +kernel
theorem dX10_judge_103 : decode cX10_judge 103 = .ok (.putfield 260, 3) := by decide +kernel
theorem dX10_judge_106 : decode cX10_judge 106 = .ok (.return_, 1) := by decide +kernel
theorem dX10_readByOwnMake_0 : decode cX10_readByOwnMake 0 = .ok (.aload_n 0, 1) := by decide +kernel
theorem dX10_readByOwnMake_1 : decode cX10_readByOwnMake 1 = .ok (.aload_n 1, 1) := by decide +kernel
theorem dX10_readByOwnMake_2 : decode cX10_readByOwnMake 2 = .ok (.getfield 169, 3) := by decide +kernel
theorem dX10_readByOwnMake_5 : decode cX10_readByOwnMake 5 = .ok (.invokevirtual 141, 3) := by decide +kernel
theorem dX10_readByOwnMake_8 : decode cX10_readByOwnMake 8 = .ok (.astore_n 3, 1) := by decide +kernel
theorem dX10_readByOwnMake_9 : decode cX10_readByOwnMake 9 = .ok (.aload_n 3, 1) := by decide +kernel
theorem dX10_readByOwnMake_10 : decode cX10_readByOwnMake 10 = .ok (.ifnonnull 10, 3) := by decide +kernel
theorem dX10_readByOwnMake_13 : decode cX10_readByOwnMake 13 = .ok (.aload_n 2, 1) := by decide +kernel
theorem dX10_readByOwnMake_14 : decode cX10_readByOwnMake 14 = .ok (.invokevirtual 284, 3) := by decide +kernel
theorem dX10_readByOwnMake_17 : decode cX10_readByOwnMake 17 = .ok (.goto 12, 3) := by decide +kernel
theorem dX10_readByOwnMake_20 : decode cX10_readByOwnMake 20 = .ok (.aload_n 2, 1) := by decide +kernel
theorem dX10_readByOwnMake_21 : decode cX10_readByOwnMake 21 = .ok (.aload_n 3, 1) := by decide +kernel
theorem dX10_readByOwnMake_22 : decode cX10_readByOwnMake 22 = .ok (.aload_n 1, 1) := by decide +kernel
theorem dX10_readByOwnMake_23 : decode cX10_readByOwnMake 23 = .ok (.getfield 158, 3) := by decide +kernel
theorem dX10_readByOwnMake_26 : decode cX10_readByOwnMake 26 = .ok (.invokevirtual 162, 3) := by decide +kernel
theorem dX10_readByOwnMake_29 : decode cX10_readByOwnMake 29 = .ok (.return_, 1) := by decide +kernel
theorem dX10_draftTurned_0 : decode cX10_draftTurned 0 = .ok (.aload_n 0, 1) := by decide +kernel
theorem dX10_draftTurned_1 : decode cX10_draftTurned 1 = .ok (.aload_n 2, 1) := by decide +kernel
theorem dX10_draftTurned_2 : decode cX10_draftTurned 2 = .ok (.getfield 285, 3) := by decide +kernel
theorem dX10_draftTurned_5 : decode cX10_draftTurned 5 = .ok (.invokevirtual 141, 3) := by decide +kernel
theorem dX10_draftTurned_8 : decode cX10_draftTurned 8 = .ok (.astore_n 3, 1) := by decide +kernel
theorem dX10_draftTurned_9 : decode cX10_draftTurned 9 = .ok (.aload_n 3, 1) := by decide +kernel
theorem dX10_draftTurned_10 : decode cX10_draftTurned 10 = .ok (.ifnonnull 5, 3) := by decide +kernel
theorem dX10_draftTurned_13 : decode cX10_draftTurned 13 = .ok (.iconst 0, 1) := by decide +kernel
theorem dX10_draftTurned_14 : decode cX10_draftTurned 14 = .ok (.ireturn, 1) := by decide +kernel
theorem dX10_draftTurned_15 : decode cX10_draftTurned 15 = .ok (.aload_n 0, 1) := by decide +kernel
theorem dX10_draftTurned_16 : decode cX10_draftTurned 16 = .ok (.aload_n 1, 1) := by decide +kernel
theorem dX10_draftTurned_17 : decode cX10_draftTurned 17 = .ok (.aload_n 0, 1) := by decide +kernel
theorem dX10_draftTurned_18 : decode cX10_draftTurned 18 = .ok (.getfield 71, 3) := by decide +kernel
theorem dX10_draftTurned_21 : decode cX10_draftTurned 21 = .ok (.invokevirtual 172, 3) := by decide +kernel
theorem dX10_draftTurned_24 : decode cX10_draftTurned 24 = .ok (.aload_n 0, 1) := by decide +kernel
theorem dX10_draftTurned_25 : decode cX10_draftTurned 25 = .ok (.getfield 18, 3) := by decide +kernel
theorem dX10_draftTurned_28 : decode cX10_draftTurned 28 = .ok (.invokevirtual 113, 3) := by decide +kernel
theorem dX10_draftTurned_31 : decode cX10_draftTurned 31 = .ok (.aload_n 0, 1) := by decide +kernel
theorem dX10_draftTurned_32 : decode cX10_draftTurned 32 = .ok (.getfield 18, 3) := by decide +kernel
theorem dX10_draftTurned_35 : decode cX10_draftTurned 35 = .ok (.aload_n 3, 1) := by decide +kernel
theorem dX10_draftTurned_36 : decode cX10_draftTurned 36 = .ok (.getfield 288, 3) := by decide +kernel
theorem dX10_draftTurned_39 : decode cX10_draftTurned 39 = .ok (.iconst 0, 1) := by decide +kernel
theorem dX10_draftTurned_40 : decode cX10_draftTurned 40 = .ok (.aload_n 3, 1) := by decide +kernel
theorem dX10_draftTurned_41 : decode cX10_draftTurned 41 = .ok (.getfield 288, 3) := by decide +kernel
theorem dX10_draftTurned_44 : decode cX10_draftTurned 44 = .ok (.arraylength, 1) := by decide +kernel
theorem dX10_draftTurned_45 : decode cX10_draftTurned 45 = .ok (.invokevirtual 291, 3) := by decide +kernel
theorem dX10_draftTurned_48 : decode cX10_draftTurned 48 = .ok (.istore 4, 2) := by decide +kernel
theorem dX10_draftTurned_50 : decode cX10_draftTurned 50 = .ok (.iconst 0, 1) := by decide +kernel
theorem dX10_draftTurned_51 : decode cX10_draftTurned 51 = .ok (.istore 5, 2) := by decide +kernel
theorem dX10_draftTurned_53 : decode cX10_draftTurned 53 = .ok (.iload 5, 2) := by decide +kernel
theorem dX10_draftTurned_55 : decode cX10_draftTurned 55 = .ok (.aload_n 0, 1) := by decide +kernel
theorem dX10_draftTurned_56 : decode cX10_draftTurned 56 = .ok (.getfield 71, 3) := by decide +kernel
theorem dX10_draftTurned_59 : decode cX10_draftTurned 59 = .ok (.getfield 176, 3) := by decide +kernel
theorem dX10_draftTurned_62 : decode cX10_draftTurned 62 = .ok (.if_icmp .ge 71, 3) := by decide +kernel
theorem dX10_draftTurned_65 : decode cX10_draftTurned 65 = .ok (.iload 4, 2) := by decide +kernel
theorem dX10_draftTurned_67 : decode cX10_draftTurned 67 = .ok (.ifCond .eq 66, 3) := by decide +kernel
theorem dX10_draftTurned_70 : decode cX10_draftTurned 70 = .ok (.aload_n 2, 1) := by decide +kernel
theorem dX10_draftTurned_71 : decode cX10_draftTurned 71 = .ok (.getfield 295, 3) := by decide +kernel
theorem dX10_draftTurned_74 : decode cX10_draftTurned 74 = .ok (.aload_n 0, 1) := by decide +kernel
theorem dX10_draftTurned_75 : decode cX10_draftTurned 75 = .ok (.getfield 71, 3) := by decide +kernel
theorem dX10_draftTurned_78 : decode cX10_draftTurned 78 = .ok (.getfield 177, 3) := by decide +kernel
theorem dX10_draftTurned_81 : decode cX10_draftTurned 81 = .ok (.iload 5, 2) := by decide +kernel
theorem dX10_draftTurned_83 : decode cX10_draftTurned 83 = .ok (.iaload, 1) := by decide +kernel
theorem dX10_draftTurned_84 : decode cX10_draftTurned 84 = .ok (.invokestatic 215, 3) := by decide +kernel
theorem dX10_draftTurned_87 : decode cX10_draftTurned 87 = .ok (.ifCond .eq 40, 3) := by decide +kernel
theorem dX10_draftTurned_90 : decode cX10_draftTurned 90 = .ok (.aload_n 0, 1) := by decide +kernel
theorem dX10_draftTurned_91 : decode cX10_draftTurned 91 = .ok (.getfield 18, 3) := by decide +kernel
theorem dX10_draftTurned_94 : decode cX10_draftTurned 94 = .ok (.aload_n 1, 1) := by decide +kernel
theorem dX10_draftTurned_95 : decode cX10_draftTurned 95 = .ok (.getfield 158, 3) := by decide +kernel
theorem dX10_draftTurned_98 : decode cX10_draftTurned 98 = .ok (.aload_n 0, 1) := by decide +kernel
theorem dX10_draftTurned_99 : decode cX10_draftTurned 99 = .ok (.getfield 71, 3) := by decide +kernel
theorem dX10_draftTurned_102 : decode cX10_draftTurned 102 = .ok (.getfield 183, 3) := by decide +kernel
theorem dX10_draftTurned_105 : decode cX10_draftTurned 105 = .ok (.iload 5, 2) := by decide +kernel
theorem dX10_draftTurned_107 : decode cX10_draftTurned 107 = .ok (.iaload, 1) := by decide +kernel
theorem dX10_draftTurned_108 : decode cX10_draftTurned 108 = .ok (.iconst 2, 1) := by decide +kernel
theorem dX10_draftTurned_109 : decode cX10_draftTurned 109 = .ok (.isub, 1) := by decide +kernel
theorem dX10_draftTurned_110 : decode cX10_draftTurned 110 = .ok (.aload_n 0, 1) := by decide +kernel
theorem dX10_draftTurned_111 : decode cX10_draftTurned 111 = .ok (.getfield 71, 3) := by decide +kernel
theorem dX10_draftTurned_114 : decode cX10_draftTurned 114 = .ok (.getfield 180, 3) := by decide +kernel
theorem dX10_draftTurned_117 : decode cX10_draftTurned 117 = .ok (.iload 5, 2) := by decide +kernel
theorem dX10_draftTurned_119 : decode cX10_draftTurned 119 = .ok (.iaload, 1) := by decide +kernel
theorem dX10_draftTurned_120 : decode cX10_draftTurned 120 = .ok (.iconst 2, 1) := by decide +kernel
theorem dX10_draftTurned_121 : decode cX10_draftTurned 121 = .ok (.iadd, 1) := by decide +kernel
theorem dX10_draftTurned_122 : decode cX10_draftTurned 122 = .ok (.invokevirtual 291, 3) := by decide +kernel
theorem dX10_draftTurned_125 : decode cX10_draftTurned 125 = .ok (.istore 4, 2) := by decide +kernel
theorem dX10_draftTurned_127 : decode cX10_draftTurned 127 = .ok (.iinc 5 1, 3) := by decide +kernel
theorem dX10_draftTurned_130 : decode cX10_draftTurned 130 = .ok (.goto (-77), 3) := by decide +kernel
theorem dX10_draftTurned_133 : decode cX10_draftTurned 133 = .ok (.iload 4, 2) := by decide +kernel
theorem dX10_draftTurned_135 : decode cX10_draftTurned 135 = .ok (.ifCond .eq 36, 3) := by decide +kernel
theorem dX10_draftTurned_138 : decode cX10_draftTurned 138 = .ok (.aload_n 3, 1) := by decide +kernel
theorem dX10_draftTurned_139 : decode cX10_draftTurned 139 = .ok (.getfield 298, 3) := by decide +kernel
theorem dX10_draftTurned_142 : decode cX10_draftTurned 142 = .ok (.ifCond .eq 29, 3) := by decide +kernel
theorem dX10_draftTurned_145 : decode cX10_draftTurned 145 = .ok (.aload_n 0, 1) := by decide +kernel
theorem dX10_draftTurned_146 : decode cX10_draftTurned 146 = .ok (.getfield 18, 3) := by decide +kernel
theorem dX10_draftTurned_149 : decode cX10_draftTurned 149 = .ok (.aload_n 0, 1) := by decide +kernel
theorem dX10_draftTurned_150 : decode cX10_draftTurned 150 = .ok (.getfield 18, 3) := by decide +kernel
theorem dX10_draftTurned_153 : decode cX10_draftTurned 153 = .ok (.getfield 301, 3) := by decide +kernel
theorem dX10_draftTurned_156 : decode cX10_draftTurned 156 = .ok (.aload_n 0, 1) := by decide +kernel
theorem dX10_draftTurned_157 : decode cX10_draftTurned 157 = .ok (.getfield 18, 3) := by decide +kernel
theorem dX10_draftTurned_160 : decode cX10_draftTurned 160 = .ok (.getfield 99, 3) := by decide +kernel
theorem dX10_draftTurned_163 : decode cX10_draftTurned 163 = .ok (.invokestatic 302, 3) := by decide +kernel
theorem dX10_draftTurned_166 : decode cX10_draftTurned 166 = .ok (.invokevirtual 305, 3) := by decide +kernel
theorem dX10_draftTurned_169 : decode cX10_draftTurned 169 = .ok (.istore 4, 2) := by decide +kernel
theorem dX10_draftTurned_171 : decode cX10_draftTurned 171 = .ok (.iload 4, 2) := by decide +kernel
theorem dX10_draftTurned_173 : decode cX10_draftTurned 173 = .ok (.ireturn, 1) := by decide +kernel
theorem dX10_sumOfFirst_0 : decode cX10_sumOfFirst 0 = .ok (.iconst 0, 1) := by decide +kernel
theorem dX10_sumOfFirst_1 : decode cX10_sumOfFirst 1 = .ok (.istore_n 2, 1) := by decide +kernel
theorem dX10_sumOfFirst_2 : decode cX10_sumOfFirst 2 = .ok (.iconst 0, 1) := by decide +kernel
theorem dX10_sumOfFirst_3 : decode cX10_sumOfFirst 3 = .ok (.istore_n 3, 1) := by decide +kernel
theorem dX10_sumOfFirst_4 : decode cX10_sumOfFirst 4 = .ok (.iload_n 3, 1) := by decide +kernel
theorem dX10_sumOfFirst_5 : decode cX10_sumOfFirst 5 = .ok (.iload_n 1, 1) := by decide +kernel
theorem dX10_sumOfFirst_6 : decode cX10_sumOfFirst 6 = .ok (.if_icmp .ge 21, 3) := by decide +kernel
theorem dX10_sumOfFirst_9 : decode cX10_sumOfFirst 9 = .ok (.iload_n 3, 1) := by decide +kernel
theorem dX10_sumOfFirst_10 : decode cX10_sumOfFirst 10 = .ok (.aload_n 0, 1) := by decide +kernel
theorem dX10_sumOfFirst_11 : decode cX10_sumOfFirst 11 = .ok (.arraylength, 1) := by decide +kernel
theorem dX10_sumOfFirst_12 : decode cX10_sumOfFirst 12 = .ok (.if_icmp .ge 15, 3) := by decide +kernel
theorem dX10_sumOfFirst_15 : decode cX10_sumOfFirst 15 = .ok (.iload_n 2, 1) := by decide +kernel
theorem dX10_sumOfFirst_16 : decode cX10_sumOfFirst 16 = .ok (.aload_n 0, 1) := by decide +kernel
theorem dX10_sumOfFirst_17 : decode cX10_sumOfFirst 17 = .ok (.iload_n 3, 1) := by decide +kernel
theorem dX10_sumOfFirst_18 : decode cX10_sumOfFirst 18 = .ok (.iaload, 1) := by decide +kernel
theorem dX10_sumOfFirst_19 : decode cX10_sumOfFirst 19 = .ok (.iadd, 1) := by decide +kernel
theorem dX10_sumOfFirst_20 : decode cX10_sumOfFirst 20 = .ok (.istore_n 2, 1) := by decide +kernel
theorem dX10_sumOfFirst_21 : decode cX10_sumOfFirst 21 = .ok (.iinc 3 1, 3) := by decide +kernel
theorem dX10_sumOfFirst_24 : decode cX10_sumOfFirst 24 = .ok (.goto (-20), 3) := by decide +kernel
theorem dX10_sumOfFirst_27 : decode cX10_sumOfFirst 27 = .ok (.iload_n 2, 1) := by decide +kernel
theorem dX10_sumOfFirst_28 : decode cX10_sumOfFirst 28 = .ok (.sipush 255, 3) := by decide +kernel
theorem dX10_sumOfFirst_31 : decode cX10_sumOfFirst 31 = .ok (.iand, 1) := by decide +kernel
theorem dX10_sumOfFirst_32 : decode cX10_sumOfFirst 32 = .ok (.ireturn, 1) := by decide +kernel
theorem dX10_isPlanned_0 : decode cX10_isPlanned 0 = .ok (.aload_n 0, 1) := by decide +kernel
theorem dX10_isPlanned_1 : decode cX10_isPlanned 1 = .ok (.ifnull 22, 3) := by decide +kernel
theorem dX10_isPlanned_4 : decode cX10_isPlanned 4 = .ok (.aload_n 0, 1) := by decide +kernel
theorem dX10_isPlanned_5 : decode cX10_isPlanned 5 = .ok (.getfield 205, 3) := by decide +kernel
theorem dX10_isPlanned_8 : decode cX10_isPlanned 8 = .ok (.ifCond .ne 15, 3) := by decide +kernel
theorem dX10_isPlanned_11 : decode cX10_isPlanned 11 = .ok (.aload_n 0, 1) := by decide +kernel
theorem dX10_isPlanned_12 : decode cX10_isPlanned 12 = .ok (.getfield 169, 3) := by decide +kernel
theorem dX10_isPlanned_15 : decode cX10_isPlanned 15 = .ok (.iconst (-1), 1) := by decide +kernel
theorem dX10_isPlanned_16 : decode cX10_isPlanned 16 = .ok (.if_icmp .eq 7, 3) := by decide +kernel
theorem dX10_isPlanned_19 : decode cX10_isPlanned 19 = .ok (.iconst 1, 1) := by decide +kernel
theorem dX10_isPlanned_20 : decode cX10_isPlanned 20 = .ok (.goto 4, 3) := by decide +kernel
theorem dX10_isPlanned_23 : decode cX10_isPlanned 23 = .ok (.iconst 0, 1) := by decide +kernel
theorem dX10_isPlanned_24 : decode cX10_isPlanned 24 = .ok (.ireturn, 1) := by decide +kernel
theorem dX10_cheapestGoal_0 : decode cX10_cheapestGoal 0 = .ok (.aload_n 0, 1) := by decide +kernel
theorem dX10_cheapestGoal_1 : decode cX10_cheapestGoal 1 = .ok (.getfield 57, 3) := by decide +kernel
theorem dX10_cheapestGoal_4 : decode cX10_cheapestGoal 4 = .ok (.aload_n 1, 1) := by decide +kernel
theorem dX10_cheapestGoal_5 : decode cX10_cheapestGoal 5 = .ok (.aload_n 0, 1) := by decide +kernel
theorem dX10_cheapestGoal_6 : decode cX10_cheapestGoal 6 = .ok (.getfield 50, 3) := by decide +kernel
theorem dX10_cheapestGoal_9 : decode cX10_cheapestGoal 9 = .ok (.aload_n 0, 1) := by decide +kernel
theorem dX10_cheapestGoal_10 : decode cX10_cheapestGoal 10 = .ok (.getfield 36, 3) := by decide +kernel
theorem dX10_cheapestGoal_13 : decode cX10_cheapestGoal 13 = .ok (.aload_n 0, 1) := by decide +kernel
theorem dX10_cheapestGoal_14 : decode cX10_cheapestGoal 14 = .ok (.getfield 85, 3) := by decide +kernel
theorem dX10_cheapestGoal_17 : decode cX10_cheapestGoal 17 = .ok (.invokevirtual 222, 3) := by decide +kernel
theorem dX10_cheapestGoal_20 : decode cX10_cheapestGoal 20 = .ok (.iconst (-1), 1) := by decide +kernel
theorem dX10_cheapestGoal_21 : decode cX10_cheapestGoal 21 = .ok (.istore_n 3, 1) := by decide +kernel
theorem dX10_cheapestGoal_22 : decode cX10_cheapestGoal 22 = .ok (.ldc2_w 230, 3) := by decide +kernel
theorem dX10_cheapestGoal_25 : decode cX10_cheapestGoal 25 = .ok (.lstore 4, 2) := by decide +kernel
theorem dX10_cheapestGoal_27 : decode cX10_cheapestGoal 27 = .ok (.iconst 0, 1) := by decide +kernel
theorem dX10_cheapestGoal_28 : decode cX10_cheapestGoal 28 = .ok (.istore 6, 2) := by decide +kernel
theorem dX10_cheapestGoal_30 : decode cX10_cheapestGoal 30 = .ok (.iload 6, 2) := by decide +kernel
theorem dX10_cheapestGoal_32 : decode cX10_cheapestGoal 32 = .ok (.aload_n 0, 1) := by decide +kernel
theorem dX10_cheapestGoal_33 : decode cX10_cheapestGoal 33 = .ok (.getfield 78, 3) := by decide +kernel
theorem dX10_cheapestGoal_36 : decode cX10_cheapestGoal 36 = .ok (.if_icmp .ge 48, 3) := by decide +kernel
theorem dX10_cheapestGoal_39 : decode cX10_cheapestGoal 39 = .ok (.iload_n 2, 1) := by decide +kernel
theorem dX10_cheapestGoal_40 : decode cX10_cheapestGoal 40 = .ok (.iload 6, 2) := by decide +kernel
theorem dX10_cheapestGoal_42 : decode cX10_cheapestGoal 42 = .ok (.ishr, 1) := by decide +kernel
theorem dX10_cheapestGoal_43 : decode cX10_cheapestGoal 43 = .ok (.iconst 1, 1) := by decide +kernel
theorem dX10_cheapestGoal_44 : decode cX10_cheapestGoal 44 = .ok (.iand, 1) := by decide +kernel
theorem dX10_cheapestGoal_45 : decode cX10_cheapestGoal 45 = .ok (.iconst 1, 1) := by decide +kernel
theorem dX10_cheapestGoal_46 : decode cX10_cheapestGoal 46 = .ok (.if_icmp .ne 32, 3) := by decide +kernel
theorem dX10_cheapestGoal_49 : decode cX10_cheapestGoal 49 = .ok (.aload_n 0, 1) := by decide +kernel
theorem dX10_cheapestGoal_50 : decode cX10_cheapestGoal 50 = .ok (.getfield 57, 3) := by decide +kernel
theorem dX10_cheapestGoal_53 : decode cX10_cheapestGoal 53 = .ok (.iload 6, 2) := by decide +kernel
theorem dX10_cheapestGoal_55 : decode cX10_cheapestGoal 55 = .ok (.invokevirtual 226, 3) := by decide +kernel
theorem dX10_cheapestGoal_58 : decode cX10_cheapestGoal 58 = .ok (.lload 4, 2) := by decide +kernel
theorem dX10_cheapestGoal_60 : decode cX10_cheapestGoal 60 = .ok (.lcmp, 1) := by decide +kernel
theorem dX10_cheapestGoal_61 : decode cX10_cheapestGoal 61 = .ok (.ifCond .ge 17, 3) := by decide +kernel
theorem dX10_cheapestGoal_64 : decode cX10_cheapestGoal 64 = .ok (.aload_n 0, 1) := by decide +kernel
theorem dX10_cheapestGoal_65 : decode cX10_cheapestGoal 65 = .ok (.getfield 57, 3) := by decide +kernel
theorem dX10_cheapestGoal_68 : decode cX10_cheapestGoal 68 = .ok (.iload 6, 2) := by decide +kernel
theorem dX10_cheapestGoal_70 : decode cX10_cheapestGoal 70 = .ok (.invokevirtual 226, 3) := by decide +kernel
theorem dX10_cheapestGoal_73 : decode cX10_cheapestGoal 73 = .ok (.lstore 4, 2) := by decide +kernel
theorem dX10_cheapestGoal_75 : decode cX10_cheapestGoal 75 = .ok (.iload 6, 2) := by decide +kernel
theorem dX10_cheapestGoal_77 : decode cX10_cheapestGoal 77 = .ok (.istore_n 3, 1) := by decide +kernel
theorem dX10_cheapestGoal_78 : decode cX10_cheapestGoal 78 = .ok (.iinc 6 1, 3) := by decide +kernel
theorem dX10_cheapestGoal_81 : decode cX10_cheapestGoal 81 = .ok (.goto (-51), 3) := by decide +kernel
theorem dX10_cheapestGoal_84 : decode cX10_cheapestGoal 84 = .ok (.iload_n 3, 1) := by decide +kernel
theorem dX10_cheapestGoal_85 : decode cX10_cheapestGoal 85 = .ok (.ireturn, 1) := by decide +kernel
theorem dX10_byteAsked_0 : decode cX10_byteAsked 0 = .ok (.iload_n 1, 1) := by decide +kernel
theorem dX10_byteAsked_1 : decode cX10_byteAsked 1 = .ok (.bipush 100, 2) := by decide +kernel
theorem dX10_byteAsked_3 : decode cX10_byteAsked 3 = .ok (.if_icmp .lt 12, 3) := by decide +kernel
theorem dX10_byteAsked_6 : decode cX10_byteAsked 6 = .ok (.iload_n 1, 1) := by decide +kernel
theorem dX10_byteAsked_7 : decode cX10_byteAsked 7 = .ok (.bipush 100, 2) := by decide +kernel
theorem dX10_byteAsked_9 : decode cX10_byteAsked 9 = .ok (.isub, 1) := by decide +kernel
theorem dX10_byteAsked_10 : decode cX10_byteAsked 10 = .ok (.aload_n 0, 1) := by decide +kernel
theorem dX10_byteAsked_11 : decode cX10_byteAsked 11 = .ok (.arraylength, 1) := by decide +kernel
theorem dX10_byteAsked_12 : decode cX10_byteAsked 12 = .ok (.if_icmp .lt 5, 3) := by decide +kernel
theorem dX10_byteAsked_15 : decode cX10_byteAsked 15 = .ok (.iconst (-1), 1) := by decide +kernel
theorem dX10_byteAsked_16 : decode cX10_byteAsked 16 = .ok (.ireturn, 1) := by decide +kernel
theorem dX10_byteAsked_17 : decode cX10_byteAsked 17 = .ok (.aload_n 0, 1) := by decide +kernel
theorem dX10_byteAsked_18 : decode cX10_byteAsked 18 = .ok (.iload_n 1, 1) := by decide +kernel
theorem dX10_byteAsked_19 : decode cX10_byteAsked 19 = .ok (.bipush 100, 2) := by decide +kernel
theorem dX10_byteAsked_21 : decode cX10_byteAsked 21 = .ok (.isub, 1) := by decide +kernel
theorem dX10_byteAsked_22 : decode cX10_byteAsked 22 = .ok (.iaload, 1) := by decide +kernel
theorem dX10_byteAsked_23 : decode cX10_byteAsked 23 = .ok (.ireturn, 1) := by decide +kernel
theorem dX10_filesWithoutMake_0 : decode cX10_filesWithoutMake 0 = .ok (.iconst 0, 1) := by decide +kernel
theorem dX10_filesWithoutMake_1 : decode cX10_filesWithoutMake 1 = .ok (.istore_n 1, 1) := by decide +kernel
theorem dX10_filesWithoutMake_2 : decode cX10_filesWithoutMake 2 = .ok (.iconst 0, 1) := by decide +kernel
theorem dX10_filesWithoutMake_3 : decode cX10_filesWithoutMake 3 = .ok (.istore_n 2, 1) := by decide +kernel
theorem dX10_filesWithoutMake_4 : decode cX10_filesWithoutMake 4 = .ok (.iload_n 2, 1) := by decide +kernel
theorem dX10_filesWithoutMake_5 : decode cX10_filesWithoutMake 5 = .ok (.aload_n 0, 1) := by decide +kernel
theorem dX10_filesWithoutMake_6 : decode cX10_filesWithoutMake 6 = .ok (.getfield 82, 3) := by decide +kernel
theorem dX10_filesWithoutMake_9 : decode cX10_filesWithoutMake 9 = .ok (.if_icmp .ge 21, 3) := by decide +kernel
theorem dX10_filesWithoutMake_12 : decode cX10_filesWithoutMake 12 = .ok (.aload_n 0, 1) := by decide +kernel
theorem dX10_filesWithoutMake_13 : decode cX10_filesWithoutMake 13 = .ok (.iload_n 2, 1) := by decide +kernel
theorem dX10_filesWithoutMake_14 : decode cX10_filesWithoutMake 14 = .ok (.invokevirtual 308, 3) := by decide +kernel
theorem dX10_filesWithoutMake_17 : decode cX10_filesWithoutMake 17 = .ok (.iconst (-1), 1) := by decide +kernel
theorem dX10_filesWithoutMake_18 : decode cX10_filesWithoutMake 18 = .ok (.if_icmp .ne 6, 3) := by decide +kernel
theorem dX10_filesWithoutMake_21 : decode cX10_filesWithoutMake 21 = .ok (.iinc 1 1, 3) := by decide +kernel
theorem dX10_filesWithoutMake_24 : decode cX10_filesWithoutMake 24 = .ok (.iinc 2 1, 3) := by decide +kernel
theorem dX10_filesWithoutMake_27 : decode cX10_filesWithoutMake 27 = .ok (.goto (-23), 3) := by decide +kernel
theorem dX10_filesWithoutMake_30 : decode cX10_filesWithoutMake 30 = .ok (.iload_n 1, 1) := by decide +kernel
theorem dX10_filesWithoutMake_31 : decode cX10_filesWithoutMake 31 = .ok (.ireturn, 1) := by decide +kernel
theorem dX10_filesBeyondReading_0 : decode cX10_filesBeyondReading 0 = .ok (.aload_n 0, 1) := by decide +kernel
theorem dX10_filesBeyondReading_1 : decode cX10_filesBeyondReading 1 = .ok (.getfield 64, 3) := by decide +kernel
theorem dX10_filesBeyondReading_4 : decode cX10_filesBeyondReading 4 = .ok (.aload_n 0, 1) := by decide +kernel
theorem dX10_filesBeyondReading_5 : decode cX10_filesBeyondReading 5 = .ok (.getfield 43, 3) := by decide +kernel
theorem dX10_filesBeyondReading_8 : decode cX10_filesBeyondReading 8 = .ok (.aload_n 0, 1) := by decide +kernel
theorem dX10_filesBeyondReading_9 : decode cX10_filesBeyondReading 9 = .ok (.getfield 50, 3) := by decide +kernel
theorem dX10_filesBeyondReading_12 : decode cX10_filesBeyondReading 12 = .ok (.aload_n 0, 1) := by decide +kernel
theorem dX10_filesBeyondReading_13 : decode cX10_filesBeyondReading 13 = .ok (.getfield 36, 3) := by decide +kernel
theorem dX10_filesBeyondReading_16 : decode cX10_filesBeyondReading 16 = .ok (.iconst 0, 1) := by decide +kernel
theorem dX10_filesBeyondReading_17 : decode cX10_filesBeyondReading 17 = .ok (.invokevirtual 240, 3) := by decide +kernel
theorem dX10_filesBeyondReading_20 : decode cX10_filesBeyondReading 20 = .ok (.iconst 0, 1) := by decide +kernel
theorem dX10_filesBeyondReading_21 : decode cX10_filesBeyondReading 21 = .ok (.istore_n 1, 1) := by decide +kernel
theorem dX10_filesBeyondReading_22 : decode cX10_filesBeyondReading 22 = .ok (.iconst 0, 1) := by decide +kernel
theorem dX10_filesBeyondReading_23 : decode cX10_filesBeyondReading 23 = .ok (.istore_n 2, 1) := by decide +kernel
theorem dX10_filesBeyondReading_24 : decode cX10_filesBeyondReading 24 = .ok (.iload_n 2, 1) := by decide +kernel
theorem dX10_filesBeyondReading_25 : decode cX10_filesBeyondReading 25 = .ok (.aload_n 0, 1) := by decide +kernel
theorem dX10_filesBeyondReading_26 : decode cX10_filesBeyondReading 26 = .ok (.getfield 82, 3) := by decide +kernel
theorem dX10_filesBeyondReading_29 : decode cX10_filesBeyondReading 29 = .ok (.if_icmp .ge 31, 3) := by decide +kernel
theorem dX10_filesBeyondReading_32 : decode cX10_filesBeyondReading 32 = .ok (.aload_n 0, 1) := by decide +kernel
theorem dX10_filesBeyondReading_33 : decode cX10_filesBeyondReading 33 = .ok (.getfield 64, 3) := by decide +kernel
theorem dX10_filesBeyondReading_36 : decode cX10_filesBeyondReading 36 = .ok (.aload_n 0, 1) := by decide +kernel
theorem dX10_filesBeyondReading_37 : decode cX10_filesBeyondReading 37 = .ok (.iload_n 2, 1) := by decide +kernel
theorem dX10_filesBeyondReading_38 : decode cX10_filesBeyondReading 38 = .ok (.invokevirtual 308, 3) := by decide +kernel
theorem dX10_filesBeyondReading_41 : decode cX10_filesBeyondReading 41 = .ok (.invokevirtual 244, 3) := by decide +kernel
theorem dX10_filesBeyondReading_44 : decode cX10_filesBeyondReading 44 = .ok (.aload_n 0, 1) := by decide +kernel
theorem dX10_filesBeyondReading_45 : decode cX10_filesBeyondReading 45 = .ok (.getfield 85, 3) := by decide +kernel
theorem dX10_filesBeyondReading_48 : decode cX10_filesBeyondReading 48 = .ok (.if_icmp .ge 6, 3) := by decide +kernel
theorem dX10_filesBeyondReading_51 : decode cX10_filesBeyondReading 51 = .ok (.iinc 1 1, 3) := by decide +kernel
theorem dX10_filesBeyondReading_54 : decode cX10_filesBeyondReading 54 = .ok (.iinc 2 1, 3) := by decide +kernel
theorem dX10_filesBeyondReading_57 : decode cX10_filesBeyondReading 57 = .ok (.goto (-33), 3) := by decide +kernel
theorem dX10_filesBeyondReading_60 : decode cX10_filesBeyondReading 60 = .ok (.iload_n 1, 1) := by decide +kernel
theorem dX10_filesBeyondReading_61 : decode cX10_filesBeyondReading 61 = .ok (.ireturn, 1) := by decide +kernel
theorem dX11_init_0 : decode cX11_init 0 = .ok (.aload_n 0, 1) := by decide +kernel
theorem dX11_init_1 : decode cX11_init 1 = .ok (.invokespecial 1, 3) := by decide +kernel
theorem dX11_init_4 : decode cX11_init 4 = .ok (.aload_n 0, 1) := by decide +kernel
theorem dX11_init_5 : decode cX11_init 5 = .ok (.bipush 80, 2) := by decide +kernel
theorem dX11_init_7 : decode cX11_init 7 = .ok (.newarray .byte, 2) := by decide +kernel
theorem dX11_init_9 : decode cX11_init 9 = .ok (.putfield 7, 3) := by decide +kernel
theorem dX11_init_12 : decode cX11_init 12 = .ok (.aload_n 0, 1) := by decide +kernel
theorem dX11_init_13 : decode cX11_init 13 = .ok (.bipush 48, 2) := by decide +kernel
theorem dX11_init_15 : decode cX11_init 15 = .ok (.newarray .int, 2) := by decide +kernel
theorem dX11_init_17 : decode cX11_init 17 = .ok (.putfield 13, 3) := by decide +kernel
theorem dX11_init_20 : decode cX11_init 20 = .ok (.aload_n 0, 1) := by decide +kernel
theorem dX11_init_21 : decode cX11_init 21 = .ok (.bipush 12, 2) := by decide +kernel
theorem dX11_init_23 : decode cX11_init 23 = .ok (.newarray .int, 2) := by decide +kernel
theorem dX11_init_25 : decode cX11_init 25 = .ok (.putfield 17, 3) := by decide +kernel
theorem dX11_init_28 : decode cX11_init 28 = .ok (.aload_n 0, 1) := by decide +kernel
theorem dX11_init_29 : decode cX11_init 29 = .ok (.bipush 12, 2) := by decide +kernel
theorem dX11_init_31 : decode cX11_init 31 = .ok (.newarray .int, 2) := by decide +kernel
theorem dX11_init_33 : decode cX11_init 33 = .ok (.putfield 20, 3) := by decide +kernel
theorem dX11_init_36 : decode cX11_init 36 = .ok (.aload_n 0, 1) := by decide +kernel
theorem dX11_init_37 : decode cX11_init 37 = .ok (.bipush 12, 2) := by decide +kernel
theorem dX11_init_39 : decode cX11_init 39 = .ok (.newarray .boolean, 2) := by decide +kernel
theorem dX11_init_41 : decode cX11_init 41 = .ok (.putfield 23, 3) := by decide +kernel
theorem dX11_init_44 : decode cX11_init 44 = .ok (.aload_n 0, 1) := by decide +kernel
theorem dX11_init_45 : decode cX11_init 45 = .ok (.bipush 12, 2) := by decide +kernel
theorem dX11_init_47 : decode cX11_init 47 = .ok (.newarray .int, 2) := by decide +kernel
theorem dX11_init_49 : decode cX11_init 49 = .ok (.putfield 27, 3) := by decide +kernel
theorem dX11_init_52 : decode cX11_init 52 = .ok (.aload_n 0, 1) := by decide +kernel
theorem dX11_init_53 : decode cX11_init 53 = .ok (.sipush 2400, 3) := by decide +kernel
theorem dX11_init_56 : decode cX11_init 56 = .ok (.newarray .int, 2) := by decide +kernel
theorem dX11_init_58 : decode cX11_init 58 = .ok (.putfield 30, 3) := by decide +kernel
theorem dX11_init_61 : decode cX11_init 61 = .ok (.aload_n 0, 1) := by decide +kernel
theorem dX11_init_62 : decode cX11_init 62 = .ok (.bipush 40, 2) := by decide +kernel
theorem dX11_init_64 : decode cX11_init 64 = .ok (.newarray .int, 2) := by decide +kernel
theorem dX11_init_66 : decode cX11_init 66 = .ok (.putfield 33, 3) := by decide +kernel
theorem dX11_init_69 : decode cX11_init 69 = .ok (.aload_n 0, 1) := by decide +kernel
theorem dX11_init_70 : decode cX11_init 70 = .ok (.bipush 40, 2) := by decide +kernel
theorem dX11_init_72 : decode cX11_init 72 = .ok (.newarray .int, 2) := by decide +kernel
theorem dX11_init_74 : decode cX11_init 74 = .ok (.putfield 36, 3) := by decide +kernel
theorem dX11_init_77 : decode cX11_init 77 = .ok (.aload_n 0, 1) := by decide +kernel
theorem dX11_init_78 : decode cX11_init 78 = .ok (.bipush 40, 2) := by decide +kernel
theorem dX11_init_80 : decode cX11_init 80 = .ok (.newarray .int, 2) := by decide +kernel
theorem dX11_init_82 : decode cX11_init 82 = .ok (.putfield 39, 3) := by decide +kernel
theorem dX11_init_85 : decode cX11_init 85 = .ok (.aload_n 0, 1) := by decide +kernel
theorem dX11_init_86 : decode cX11_init 86 = .ok (.bipush 8, 2) := by decide +kernel
theorem dX11_init_88 : decode cX11_init 88 = .ok (.newarray .int, 2) := by decide +kernel
theorem dX11_init_90 : decode cX11_init 90 = .ok (.putfield 42, 3) := by decide +kernel
theorem dX11_init_93 : decode cX11_init 93 = .ok (.aload_n 0, 1) := by decide +kernel
theorem dX11_init_94 : decode cX11_init 94 = .ok (.bipush 8, 2) := by decide +kernel
theorem dX11_init_96 : decode cX11_init 96 = .ok (.newarray .int, 2) := by decide +kernel
theorem dX11_init_98 : decode cX11_init 98 = .ok (.putfield 45, 3) := by decide +kernel
theorem dX11_init_101 : decode cX11_init 101 = .ok (.aload_n 0, 1) := by decide +kernel
theorem dX11_init_102 : decode cX11_init 102 = .ok (.bipush 24, 2) := by decide +kernel
theorem dX11_init_104 : decode cX11_init 104 = .ok (.newarray .int, 2) := by decide +kernel
theorem dX11_init_106 : decode cX11_init 106 = .ok (.putfield 48, 3) := by decide +kernel
theorem dX11_init_109 : decode cX11_init 109 = .ok (.aload_n 0, 1) := by decide +kernel
theorem dX11_init_110 : decode cX11_init 110 = .ok (.bipush 24, 2) := by decide +kernel
theorem dX11_init_112 : decode cX11_init 112 = .ok (.newarray .int, 2) := by decide +kernel
theorem dX11_init_114 : decode cX11_init 114 = .ok (.putfield 51, 3) := by decide +kernel
theorem dX11_init_117 : decode cX11_init 117 = .ok (.aload_n 0, 1) := by decide +kernel
theorem dX11_init_118 : decode cX11_init 118 = .ok (.bipush 24, 2) := by decide +kernel
theorem dX11_init_120 : decode cX11_init 120 = .ok (.newarray .int, 2) := by decide +kernel
theorem dX11_init_122 : decode cX11_init 122 = .ok (.putfield 54, 3) := by decide +kernel
theorem dX11_init_125 : decode cX11_init 125 = .ok (.aload_n 0, 1) := by decide +kernel
theorem dX11_init_126 : decode cX11_init 126 = .ok (.bipush 24, 2) := by decide +kernel
theorem dX11_init_128 : decode cX11_init 128 = .ok (.newarray .int, 2) := by decide +kernel
theorem dX11_init_130 : decode cX11_init 130 = .ok (.putfield 57, 3) := by decide +kernel
theorem dX11_init_133 : decode cX11_init 133 = .ok (.aload_n 0, 1) := by decide +kernel
theorem dX11_init_134 : decode cX11_init 134 = .ok (.bipush 24, 2) := by decide +kernel
theorem dX11_init_136 : decode cX11_init 136 = .ok (.newarray .int, 2) := by decide +kernel
theorem dX11_init_138 : decode cX11_init 138 = .ok (.putfield 60, 3) := by decide +kernel
theorem dX11_init_141 : decode cX11_init 141 = .ok (.aload_n 0, 1) := by decide +kernel
theorem dX11_init_142 : decode cX11_init 142 = .ok (.bipush 24, 2) := by decide +kernel
theorem dX11_init_144 : decode cX11_init 144 = .ok (.newarray .int, 2) := by decide +kernel
theorem dX11_init_146 : decode cX11_init 146 = .ok (.putfield 63, 3) := by decide +kernel
theorem dX11_init_149 : decode cX11_init 149 = .ok (.aload_n 0, 1) := by decide +kernel
theorem dX11_init_150 : decode cX11_init 150 = .ok (.bipush 24, 2) := by decide +kernel
theorem dX11_init_152 : decode cX11_init 152 = .ok (.newarray .int, 2) := by decide +kernel
theorem dX11_init_154 : decode cX11_init 154 = .ok (.putfield 66, 3) := by decide +kernel
theorem dX11_init_157 : decode cX11_init 157 = .ok (.aload_n 0, 1) := by decide +kernel
theorem dX11_init_158 : decode cX11_init 158 = .ok (.bipush 30, 2) := by decide +kernel
theorem dX11_init_160 : decode cX11_init 160 = .ok (.newarray .int, 2) := by decide +kernel
theorem dX11_init_162 : decode cX11_init 162 = .ok (.putfield 69, 3) := by decide +kernel
theorem dX11_init_165 : decode cX11_init 165 = .ok (.aload_n 0, 1) := by decide +kernel
theorem dX11_init_166 : decode cX11_init 166 = .ok (.bipush 30, 2) := by decide +kernel
theorem dX11_init_168 : decode cX11_init 168 = .ok (.newarray .int, 2) := by decide +kernel
theorem dX11_init_170 : decode cX11_init 170 = .ok (.putfield 72, 3) := by decide +kernel
theorem dX11_init_173 : decode cX11_init 173 = .ok (.aload_n 0, 1) := by decide +kernel
theorem dX11_init_174 : decode cX11_init 174 = .ok (.bipush 30, 2) := by decide +kernel
theorem dX11_init_176 : decode cX11_init 176 = .ok (.newarray .int, 2) := by decide +kernel
theorem dX11_init_178 : decode cX11_init 178 = .ok (.putfield 75, 3) := by decide +kernel
theorem dX11_init_181 : decode cX11_init 181 = .ok (.aload_n 0, 1) := by decide +kernel
theorem dX11_init_182 : decode cX11_init 182 = .ok (.bipush 30, 2) := by decide +kernel
theorem dX11_init_184 : decode cX11_init 184 = .ok (.newarray .int, 2) := by decide +kernel
theorem dX11_init_186 : decode cX11_init 186 = .ok (.putfield 78, 3) := by decide +kernel
theorem dX11_init_189 : decode cX11_init 189 = .ok (.aload_n 0, 1) := by decide +kernel
theorem dX11_init_190 : decode cX11_init 190 = .ok (.bipush 30, 2) := by decide +kernel
theorem dX11_init_192 : decode cX11_init 192 = .ok (.newarray .int, 2) := by decide +kernel
theorem dX11_init_194 : decode cX11_init 194 = .ok (.putfield 81, 3) := by decide +kernel
theorem dX11_init_197 : decode cX11_init 197 = .ok (.aload_n 0, 1) := by decide +kernel
theorem dX11_init_198 : decode cX11_init 198 = .ok (.bipush 30, 2) := by decide +kernel
theorem dX11_init_200 : decode cX11_init 200 = .ok (.newarray .int, 2) := by decide +kernel
theorem dX11_init_202 : decode cX11_init 202 = .ok (.putfield 84, 3) := by decide +kernel
theorem dX11_init_205 : decode cX11_init 205 = .ok (.aload_n 0, 1) := by decide +kernel
theorem dX11_init_206 : decode cX11_init 206 = .ok (.bipush 60, 2) := by decide +kernel
theorem dX11_init_208 : decode cX11_init 208 = .ok (.newarray .int, 2) := by decide +kernel
theorem dX11_init_210 : decode cX11_init 210 = .ok (.putfield 87, 3) := by decide +kernel
theorem dX11_init_213 : decode cX11_init 213 = .ok (.aload_n 0, 1) := by decide +kernel
theorem dX11_init_214 : decode cX11_init 214 = .ok (.iconst 4, 1) := by decide +kernel
theorem dX11_init_215 : decode cX11_init 215 = .ok (.newarray .int, 2) := by decide +kernel
theorem dX11_init_217 : decode cX11_init 217 = .ok (.putfield 90, 3) := by decide +kernel
theorem dX11_init_220 : decode cX11_init 220 = .ok (.aload_n 0, 1) := by decide +kernel
theorem dX11_init_221 : decode cX11_init 221 = .ok (.iconst 4, 1) := by decide +kernel
theorem dX11_init_222 : decode cX11_init 222 = .ok (.newarray .int, 2) := by decide +kernel
theorem dX11_init_224 : decode cX11_init 224 = .ok (.putfield 93, 3) := by decide +kernel
theorem dX11_init_227 : decode cX11_init 227 = .ok (.aload_n 0, 1) := by decide +kernel
theorem dX11_init_228 : decode cX11_init 228 = .ok (.bipush 60, 2) := by decide +kernel
theorem dX11_init_230 : decode cX11_init 230 = .ok (.newarray .int, 2) := by decide +kernel
theorem dX11_init_232 : decode cX11_init 232 = .ok (.putfield 96, 3) := by decide +kernel
theorem dX11_init_235 : decode cX11_init 235 = .ok (.aload_n 0, 1) := by decide +kernel
theorem dX11_init_236 : decode cX11_init 236 = .ok (.iconst 4, 1) := by decide +kernel
theorem dX11_init_237 : decode cX11_init 237 = .ok (.newarray .int, 2) := by decide +kernel
theorem dX11_init_239 : decode cX11_init 239 = .ok (.putfield 99, 3) := by decide +kernel
theorem dX11_init_242 : decode cX11_init 242 = .ok (.iconst 0, 1) := by decide +kernel
theorem dX11_init_243 : decode cX11_init 243 = .ok (.istore_n 1, 1) := by decide +kernel
theorem dX11_init_244 : decode cX11_init 244 = .ok (.iload_n 1, 1) := by decide +kernel
theorem dX11_init_245 : decode cX11_init 245 = .ok (.bipush 8, 2) := by decide +kernel
theorem dX11_init_247 : decode cX11_init 247 = .ok (.if_icmp .ge 27, 3) := by decide +kernel
theorem dX11_init_250 : decode cX11_init 250 = .ok (.aload_n 0, 1) := by decide +kernel
theorem dX11_init_251 : decode cX11_init 251 = .ok (.getfield 42, 3) := by decide +kernel
theorem dX11_init_254 : decode cX11_init 254 = .ok (.iload_n 1, 1) := by decide +kernel
theorem dX11_init_255 : decode cX11_init 255 = .ok (.sipush 999, 3) := by decide +kernel
theorem dX11_init_258 : decode cX11_init 258 = .ok (.iastore, 1) := by decide +kernel
theorem dX11_init_259 : decode cX11_init 259 = .ok (.aload_n 0, 1) := by decide +kernel
theorem dX11_init_260 : decode cX11_init 260 = .ok (.getfield 45, 3) := by decide +kernel
theorem dX11_init_263 : decode cX11_init 263 = .ok (.iload_n 1, 1) := by decide +kernel
theorem dX11_init_264 : decode cX11_init 264 = .ok (.sipush 999, 3) := by decide +kernel
theorem dX11_init_267 : decode cX11_init 267 = .ok (.iastore, 1) := by decide +kernel
theorem dX11_init_268 : decode cX11_init 268 = .ok (.iinc 1 1, 3) := by decide +kernel
theorem dX11_init_271 : decode cX11_init 271 = .ok (.goto (-27), 3) := by decide +kernel
theorem dX11_init_274 : decode cX11_init 274 = .ok (.return_, 1) := by decide +kernel
theorem dX11_lies_0 : decode cX11_lies 0 = .ok (.iload_n 0, 1) := by decide +kernel
theorem dX11_lies_1 : decode cX11_lies 1 = .ok (.iload_n 1, 1) := by decide +kernel
theorem dX11_lies_2 : decode cX11_lies 2 = .ok (.if_icmp .lt 12, 3) := by decide +kernel
theorem dX11_lies_5 : decode cX11_lies 5 = .ok (.iload_n 0, 1) := by decide +kernel
theorem dX11_lies_6 : decode cX11_lies 6 = .ok (.iload_n 2, 1) := by decide +kernel
theorem dX11_lies_7 : decode cX11_lies 7 = .ok (.if_icmp .gt 7, 3) := by decide +kernel
theorem dX11_lies_10 : decode cX11_lies 10 = .ok (.iconst 1, 1) := by decide +kernel
theorem dX11_lies_11 : decode cX11_lies 11 = .ok (.goto 4, 3) := by decide +kernel
theorem dX11_lies_14 : decode cX11_lies 14 = .ok (.iconst 0, 1) := by decide +kernel
theorem dX11_lies_15 : decode cX11_lies 15 = .ok (.ireturn, 1) := by decide +kernel
theorem dX11_has_0 : decode cX11_has 0 = .ok (.iload_n 0, 1) := by decide +kernel
theorem dX11_has_1 : decode cX11_has 1 = .ok (.iload_n 1, 1) := by decide +kernel
theorem dX11_has_2 : decode cX11_has 2 = .ok (.ishr, 1) := by decide +kernel
theorem dX11_has_3 : decode cX11_has 3 = .ok (.iconst 1, 1) := by decide +kernel
theorem dX11_has_4 : decode cX11_has 4 = .ok (.iand, 1) := by decide +kernel
theorem dX11_has_5 : decode cX11_has 5 = .ok (.iconst 1, 1) := by decide +kernel
theorem dX11_has_6 : decode cX11_has 6 = .ok (.if_icmp .ne 7, 3) := by decide +kernel
theorem dX11_has_9 : decode cX11_has 9 = .ok (.iconst 1, 1) := by decide +kernel
theorem dX11_has_10 : decode cX11_has 10 = .ok (.goto 4, 3) := by decide +kernel
theorem dX11_has_13 : decode cX11_has 13 = .ok (.iconst 0, 1) := by decide +kernel
theorem dX11_has_14 : decode cX11_has 14 = .ok (.ireturn, 1) := by decide +kernel
theorem dX11_push_0 : decode cX11_push 0 = .ok (.bipush 24, 2) := by decide +kernel
theorem dX11_push_2 : decode cX11_push 2 = .ok (.istore_n 2, 1) := by decide +kernel
theorem dX11_push_3 : decode cX11_push 3 = .ok (.iload_n 2, 1) := by decide +kernel
theorem dX11_push_4 : decode cX11_push 4 = .ok (.ifCond .lt 32, 3) := by decide +kernel
theorem dX11_push_7 : decode cX11_push 7 = .ok (.aload_n 0, 1) := by decide +kernel
theorem dX11_push_8 : decode cX11_push 8 = .ok (.getfield 7, 3) := by decide +kernel
theorem dX11_push_11 : decode cX11_push 11 = .ok (.aload_n 0, 1) := by decide +kernel
theorem dX11_push_12 : decode cX11_push 12 = .ok (.getfield 102, 3) := by decide +kernel
theorem dX11_push_15 : decode cX11_push 15 = .ok (.iload_n 1, 1) := by decide +kernel
theorem dX11_push_16 : decode cX11_push 16 = .ok (.iload_n 2, 1) := by decide +kernel
theorem dX11_push_17 : decode cX11_push 17 = .ok (.ishr, 1) := by decide +kernel
theorem dX11_push_18 : decode cX11_push 18 = .ok (.i2b, 1) := by decide +kernel
theorem dX11_push_19 : decode cX11_push 19 = .ok (.bastore, 1) := by decide +kernel
theorem dX11_push_20 : decode cX11_push 20 = .ok (.aload_n 0, 1) := by decide +kernel
theorem dX11_push_21 : decode cX11_push 21 = .ok (.dup, 1) := by decide +kernel
theorem dX11_push_22 : decode cX11_push 22 = .ok (.getfield 102, 3) := by decide +kernel
theorem dX11_push_25 : decode cX11_push 25 = .ok (.iconst 1, 1) := by decide +kernel
theorem dX11_push_26 : decode cX11_push 26 = .ok (.iadd, 1) := by decide +kernel
theorem dX11_push_27 : decode cX11_push 27 = .ok (.putfield 102, 3) := by decide +kernel
theorem dX11_push_30 : decode cX11_push 30 = .ok (.iinc 2 (-8), 3) := by decide +kernel
theorem dX11_push_33 : decode cX11_push 33 = .ok (.goto (-30), 3) := by decide +kernel
theorem dX11_push_36 : decode cX11_push 36 = .ok (.return_, 1) := by decide +kernel
theorem dX11_feed_0 : decode cX11_feed 0 = .ok (.aload_n 0, 1) := by decide +kernel
theorem dX11_feed_1 : decode cX11_feed 1 = .ok (.getfield 102, 3) := by decide +kernel
theorem dX11_feed_4 : decode cX11_feed 4 = .ok (.bipush 20, 2) := by decide +kernel
theorem dX11_feed_6 : decode cX11_feed 6 = .ok (.iadd, 1) := by decide +kernel
theorem dX11_feed_7 : decode cX11_feed 7 = .ok (.bipush 80, 2) := by decide +kernel
theorem dX11_feed_9 : decode cX11_feed 9 = .ok (.if_icmp .le 5, 3) := by decide +kernel
theorem dX11_feed_12 : decode cX11_feed 12 = .ok (.iconst (-1), 1) := by decide +kernel
theorem dX11_feed_13 : decode cX11_feed 13 = .ok (.ireturn, 1) := by decide +kernel
theorem dX11_feed_14 : decode cX11_feed 14 = .ok (.aload_n 0, 1) := by decide +kernel
theorem dX11_feed_15 : decode cX11_feed 15 = .ok (.iload_n 1, 1) := by decide +kernel
theorem dX11_feed_16 : decode cX11_feed 16 = .ok (.invokevirtual 106, 3) := by decide +kernel
theorem dX11_feed_19 : decode cX11_feed 19 = .ok (.aload_n 0, 1) := by decide +kernel
theorem dX11_feed_20 : decode cX11_feed 20 = .ok (.iload_n 2, 1) := by decide +kernel
theorem dX11_feed_21 : decode cX11_feed 21 = .ok (.invokevirtual 106, 3) := by decide +kernel
theorem dX11_feed_24 : decode cX11_feed 24 = .ok (.aload_n 0, 1) := by decide +kernel
theorem dX11_feed_25 : decode cX11_feed 25 = .ok (.iload_n 3, 1) := by decide +kernel
theorem dX11_feed_26 : decode cX11_feed 26 = .ok (.invokevirtual 106, 3) := by decide +kernel
theorem dX11_feed_29 : decode cX11_feed 29 = .ok (.aload_n 0, 1) := by decide +kernel
theorem dX11_feed_30 : decode cX11_feed 30 = .ok (.iload 4, 2) := by decide +kernel
theorem dX11_feed_32 : decode cX11_feed 32 = .ok (.invokevirtual 106, 3) := by decide +kernel
theorem dX11_feed_35 : decode cX11_feed 35 = .ok (.aload_n 0, 1) := by decide +kernel
theorem dX11_feed_36 : decode cX11_feed 36 = .ok (.iload 5, 2) := by decide +kernel
theorem dX11_feed_38 : decode cX11_feed 38 = .ok (.invokevirtual 106, 3) := by decide +kernel
theorem dX11_feed_41 : decode cX11_feed 41 = .ok (.aload_n 0, 1) := by decide +kernel
theorem dX11_feed_42 : decode cX11_feed 42 = .ok (.getfield 102, 3) := by decide +kernel
theorem dX11_feed_45 : decode cX11_feed 45 = .ok (.ireturn, 1) := by decide +kernel
theorem dX11_make_0 : decode cX11_make 0 = .ok (.iload_n 1, 1) := by decide +kernel
theorem dX11_make_1 : decode cX11_make 1 = .ok (.iconst 1, 1) := by decide +kernel
theorem dX11_make_2 : decode cX11_make 2 = .ok (.iconst 4, 1) := by decide +kernel
theorem dX11_make_3 : decode cX11_make 3 = .ok (.invokestatic 110, 3) := by decide +kernel
theorem dX11_make_6 : decode cX11_make 6 = .ok (.ifCond .eq 41, 3) := by decide +kernel
theorem dX11_make_9 : decode cX11_make 9 = .ok (.iload_n 2, 1) := by decide +kernel
theorem dX11_make_10 : decode cX11_make 10 = .ok (.iconst 0, 1) := by decide +kernel
theorem dX11_make_11 : decode cX11_make 11 = .ok (.sipush 4095, 3) := by decide +kernel
theorem dX11_make_14 : decode cX11_make 14 = .ok (.invokestatic 110, 3) := by decide +kernel
theorem dX11_make_17 : decode cX11_make 17 = .ok (.ifCond .eq 30, 3) := by decide +kernel
theorem dX11_make_20 : decode cX11_make 20 = .ok (.iload 4, 2) := by decide +kernel
theorem dX11_make_22 : decode cX11_make 22 = .ok (.iconst 0, 1) := by decide +kernel
theorem dX11_make_23 : decode cX11_make 23 = .ok (.iconst 3, 1) := by decide +kernel
theorem dX11_make_24 : decode cX11_make 24 = .ok (.invokestatic 110, 3) := by decide +kernel
theorem dX11_make_27 : decode cX11_make 27 = .ok (.ifCond .eq 20, 3) := by decide +kernel
theorem dX11_make_30 : decode cX11_make 30 = .ok (.aload_n 0, 1) := by decide +kernel
theorem dX11_make_31 : decode cX11_make 31 = .ok (.getfield 114, 3) := by decide +kernel
theorem dX11_make_34 : decode cX11_make 34 = .ok (.bipush 12, 2) := by decide +kernel
theorem dX11_make_36 : decode cX11_make 36 = .ok (.if_icmp .eq 11, 3) := by decide +kernel
theorem dX11_make_39 : decode cX11_make 39 = .ok (.iload_n 1, 1) := by decide +kernel
theorem dX11_make_40 : decode cX11_make 40 = .ok (.aload_n 0, 1) := by decide +kernel
theorem dX11_make_41 : decode cX11_make 41 = .ok (.getfield 102, 3) := by decide +kernel
theorem dX11_make_44 : decode cX11_make 44 = .ok (.if_icmp .le 5, 3) := by decide +kernel
theorem dX11_make_47 : decode cX11_make 47 = .ok (.iconst (-1), 1) := by decide +kernel
theorem dX11_make_48 : decode cX11_make 48 = .ok (.ireturn, 1) := by decide +kernel
theorem dX11_make_49 : decode cX11_make 49 = .ok (.iconst 0, 1) := by decide +kernel
theorem dX11_make_50 : decode cX11_make 50 = .ok (.istore 5, 2) := by decide +kernel
theorem dX11_make_52 : decode cX11_make 52 = .ok (.iload 5, 2) := by decide +kernel
theorem dX11_make_54 : decode cX11_make 54 = .ok (.iload_n 1, 1) := by decide +kernel
theorem dX11_make_55 : decode cX11_make 55 = .ok (.if_icmp .ge 34, 3) := by decide +kernel
theorem dX11_make_58 : decode cX11_make 58 = .ok (.aload_n 0, 1) := by decide +kernel
theorem dX11_make_59 : decode cX11_make 59 = .ok (.getfield 13, 3) := by decide +kernel
theorem dX11_make_62 : decode cX11_make 62 = .ok (.iconst 4, 1) := by decide +kernel
theorem dX11_make_63 : decode cX11_make 63 = .ok (.aload_n 0, 1) := by decide +kernel
theorem dX11_make_64 : decode cX11_make 64 = .ok (.getfield 114, 3) := by decide +kernel
theorem dX11_make_67 : decode cX11_make 67 = .ok (.imul, 1) := by decide +kernel
theorem dX11_make_68 : decode cX11_make 68 = .ok (.iload 5, 2) := by decide +kernel
theorem dX11_make_70 : decode cX11_make 70 = .ok (.iadd, 1) := by decide +kernel
theorem dX11_make_71 : decode cX11_make 71 = .ok (.aload_n 0, 1) := by decide +kernel
theorem dX11_make_72 : decode cX11_make 72 = .ok (.getfield 7, 3) := by decide +kernel
theorem dX11_make_75 : decode cX11_make 75 = .ok (.iload 5, 2) := by decide +kernel
theorem dX11_make_77 : decode cX11_make 77 = .ok (.baload, 1) := by decide +kernel
theorem dX11_make_78 : decode cX11_make 78 = .ok (.sipush 255, 3) := by decide +kernel
theorem dX11_make_81 : decode cX11_make 81 = .ok (.iand, 1) := by decide +kernel
theorem dX11_make_82 : decode cX11_make 82 = .ok (.iastore, 1) := by decide +kernel
theorem dX11_make_83 : decode cX11_make 83 = .ok (.iinc 5 1, 3) := by decide +kernel
theorem dX11_make_86 : decode cX11_make 86 = .ok (.goto (-34), 3) := by decide +kernel
theorem dX11_make_89 : decode cX11_make 89 = .ok (.aload_n 0, 1) := by decide +kernel
theorem dX11_make_90 : decode cX11_make 90 = .ok (.iconst 0, 1) := by decide +kernel
theorem dX11_make_91 : decode cX11_make 91 = .ok (.putfield 102, 3) := by decide +kernel
theorem dX11_make_94 : decode cX11_make 94 = .ok (.aload_n 0, 1) := by decide +kernel
theorem dX11_make_95 : decode cX11_make 95 = .ok (.getfield 17, 3) := by decide +kernel
theorem dX11_make_98 : decode cX11_make 98 = .ok (.aload_n 0, 1) := by decide +kernel
theorem dX11_make_99 : decode cX11_make 99 = .ok (.getfield 114, 3) := by decide +kernel
theorem dX11_make_102 : decode cX11_make 102 = .ok (.iload_n 1, 1) := by decide +kernel
theorem dX11_make_103 : decode cX11_make 103 = .ok (.iastore, 1) := by decide +kernel
theorem dX11_make_104 : decode cX11_make 104 = .ok (.aload_n 0, 1) := by decide +kernel
theorem dX11_make_105 : decode cX11_make 105 = .ok (.getfield 20, 3) := by decide +kernel
theorem dX11_make_108 : decode cX11_make 108 = .ok (.aload_n 0, 1) := by decide +kernel
theorem dX11_make_109 : decode cX11_make 109 = .ok (.getfield 114, 3) := by decide +kernel
theorem dX11_make_112 : decode cX11_make 112 = .ok (.iload_n 2, 1) := by decide +kernel
theorem dX11_make_113 : decode cX11_make 113 = .ok (.iastore, 1) := by decide +kernel
theorem dX11_make_114 : decode cX11_make 114 = .ok (.aload_n 0, 1) := by decide +kernel
theorem dX11_make_115 : decode cX11_make 115 = .ok (.getfield 23, 3) := by decide +kernel
theorem dX11_make_118 : decode cX11_make 118 = .ok (.aload_n 0, 1) := by decide +kernel
theorem dX11_make_119 : decode cX11_make 119 = .ok (.getfield 114, 3) := by decide +kernel
theorem dX11_make_122 : decode cX11_make 122 = .ok (.iload_n 3, 1) := by decide +kernel
theorem dX11_make_123 : decode cX11_make 123 = .ok (.bastore, 1) := by decide +kernel
theorem dX11_make_124 : decode cX11_make 124 = .ok (.aload_n 0, 1) := by decide +kernel
theorem dX11_make_125 : decode cX11_make 125 = .ok (.getfield 27, 3) := by decide +kernel
theorem dX11_make_128 : decode cX11_make 128 = .ok (.aload_n 0, 1) := by decide +kernel
theorem dX11_make_129 : decode cX11_make 129 = .ok (.getfield 114, 3) := by decide +kernel
theorem dX11_make_132 : decode cX11_make 132 = .ok (.iload 4, 2) := by decide +kernel
theorem dX11_make_134 : decode cX11_make 134 = .ok (.iastore, 1) := by decide +kernel
theorem dX11_make_135 : decode cX11_make 135 = .ok (.aload_n 0, 1) := by decide +kernel
theorem dX11_make_136 : decode cX11_make 136 = .ok (.dup, 1) := by decide +kernel
theorem dX11_make_137 : decode cX11_make 137 = .ok (.getfield 114, 3) := by decide +kernel
theorem dX11_make_140 : decode cX11_make 140 = .ok (.iconst 1, 1) := by decide +kernel
theorem dX11_make_141 : decode cX11_make 141 = .ok (.iadd, 1) := by decide +kernel
theorem dX11_make_142 : decode cX11_make 142 = .ok (.putfield 114, 3) := by decide +kernel
theorem dX11_make_145 : decode cX11_make 145 = .ok (.aload_n 0, 1) := by decide +kernel
theorem dX11_make_146 : decode cX11_make 146 = .ok (.getfield 114, 3) := by decide +kernel
theorem dX11_make_149 : decode cX11_make 149 = .ok (.iconst 1, 1) := by decide +kernel
theorem dX11_make_150 : decode cX11_make 150 = .ok (.isub, 1) := by decide +kernel
theorem dX11_make_151 : decode cX11_make 151 = .ok (.ireturn, 1) := by decide +kernel
theorem dX11_file_0 : decode cX11_file 0 = .ok (.iload_n 1, 1) := by decide +kernel
theorem dX11_file_1 : decode cX11_file 1 = .ok (.iconst 1, 1) := by decide +kernel
theorem dX11_file_2 : decode cX11_file 2 = .ok (.bipush 60, 2) := by decide +kernel
theorem dX11_file_4 : decode cX11_file 4 = .ok (.invokestatic 110, 3) := by decide +kernel
theorem dX11_file_7 : decode cX11_file 7 = .ok (.ifCond .eq 20, 3) := by decide +kernel
theorem dX11_file_10 : decode cX11_file 10 = .ok (.aload_n 0, 1) := by decide +kernel
theorem dX11_file_11 : decode cX11_file 11 = .ok (.getfield 117, 3) := by decide +kernel
theorem dX11_file_14 : decode cX11_file 14 = .ok (.bipush 40, 2) := by decide +kernel
theorem dX11_file_16 : decode cX11_file 16 = .ok (.if_icmp .eq 11, 3) := by decide +kernel
theorem dX11_file_19 : decode cX11_file 19 = .ok (.iload_n 1, 1) := by decide +kernel
theorem dX11_file_20 : decode cX11_file 20 = .ok (.aload_n 0, 1) := by decide +kernel
theorem dX11_file_21 : decode cX11_file 21 = .ok (.getfield 102, 3) := by decide +kernel
theorem dX11_file_24 : decode cX11_file 24 = .ok (.if_icmp .le 5, 3) := by decide +kernel
theorem dX11_file_27 : decode cX11_file 27 = .ok (.iconst (-1), 1) := by decide +kernel
theorem dX11_file_28 : decode cX11_file 28 = .ok (.ireturn, 1) := by decide +kernel
theorem dX11_file_29 : decode cX11_file 29 = .ok (.iconst 0, 1) := by decide +kernel
theorem dX11_file_30 : decode cX11_file 30 = .ok (.istore_n 2, 1) := by decide +kernel
theorem dX11_file_31 : decode cX11_file 31 = .ok (.iload_n 2, 1) := by decide +kernel
theorem dX11_file_32 : decode cX11_file 32 = .ok (.iload_n 1, 1) := by decide +kernel
theorem dX11_file_33 : decode cX11_file 33 = .ok (.if_icmp .ge 33, 3) := by decide +kernel
theorem dX11_file_36 : decode cX11_file 36 = .ok (.aload_n 0, 1) := by decide +kernel
theorem dX11_file_37 : decode cX11_file 37 = .ok (.getfield 30, 3) := by decide +kernel
theorem dX11_file_40 : decode cX11_file 40 = .ok (.bipush 60, 2) := by decide +kernel
theorem dX11_file_42 : decode cX11_file 42 = .ok (.aload_n 0, 1) := by decide +kernel
theorem dX11_file_43 : decode cX11_file 43 = .ok (.getfield 117, 3) := by decide +kernel
theorem dX11_file_46 : decode cX11_file 46 = .ok (.imul, 1) := by decide +kernel
theorem dX11_file_47 : decode cX11_file 47 = .ok (.iload_n 2, 1) := by decide +kernel
theorem dX11_file_48 : decode cX11_file 48 = .ok (.iadd, 1) := by decide +kernel
theorem dX11_file_49 : decode cX11_file 49 = .ok (.aload_n 0, 1) := by decide +kernel
theorem dX11_file_50 : decode cX11_file 50 = .ok (.getfield 7, 3) := by decide +kernel
theorem dX11_file_53 : decode cX11_file 53 = .ok (.iload_n 2, 1) := by decide +kernel
theorem dX11_file_54 : decode cX11_file 54 = .ok (.baload, 1) := by decide +kernel
theorem dX11_file_55 : decode cX11_file 55 = .ok (.sipush 255, 3) := by decide +kernel
theorem dX11_file_58 : decode cX11_file 58 = .ok (.iand, 1) := by decide +kernel
theorem dX11_file_59 : decode cX11_file 59 = .ok (.iastore, 1) := by decide +kernel
theorem dX11_file_60 : decode cX11_file 60 = .ok (.iinc 2 1, 3) := by decide +kernel
theorem dX11_file_63 : decode cX11_file 63 = .ok (.goto (-32), 3) := by decide +kernel
theorem dX11_file_66 : decode cX11_file 66 = .ok (.aload_n 0, 1) := by decide +kernel
theorem dX11_file_67 : decode cX11_file 67 = .ok (.iconst 0, 1) := by decide +kernel
theorem dX11_file_68 : decode cX11_file 68 = .ok (.putfield 102, 3) := by decide +kernel
theorem dX11_file_71 : decode cX11_file 71 = .ok (.aload_n 0, 1) := by decide +kernel
theorem dX11_file_72 : decode cX11_file 72 = .ok (.getfield 33, 3) := by decide +kernel
theorem dX11_file_75 : decode cX11_file 75 = .ok (.aload_n 0, 1) := by decide +kernel
theorem dX11_file_76 : decode cX11_file 76 = .ok (.getfield 117, 3) := by decide +kernel
theorem dX11_file_79 : decode cX11_file 79 = .ok (.iload_n 1, 1) := by decide +kernel
theorem dX11_file_80 : decode cX11_file 80 = .ok (.iastore, 1) := by decide +kernel
theorem dX11_file_81 : decode cX11_file 81 = .ok (.aload_n 0, 1) := by decide +kernel
theorem dX11_file_82 : decode cX11_file 82 = .ok (.getfield 39, 3) := by decide +kernel
theorem dX11_file_85 : decode cX11_file 85 = .ok (.aload_n 0, 1) := by decide +kernel
theorem dX11_file_86 : decode cX11_file 86 = .ok (.getfield 117, 3) := by decide +kernel
theorem dX11_file_89 : decode cX11_file 89 = .ok (.iconst (-1), 1) := by decide +kernel
theorem dX11_file_90 : decode cX11_file 90 = .ok (.iastore, 1) := by decide +kernel
theorem dX11_file_91 : decode cX11_file 91 = .ok (.aload_n 0, 1) := by decide +kernel
theorem dX11_file_92 : decode cX11_file 92 = .ok (.dup, 1) := by decide +kernel
theorem dX11_file_93 : decode cX11_file 93 = .ok (.getfield 117, 3) := by decide +kernel
theorem dX11_file_96 : decode cX11_file 96 = .ok (.iconst 1, 1) := by decide +kernel
theorem dX11_file_97 : decode cX11_file 97 = .ok (.iadd, 1) := by decide +kernel
theorem dX11_file_98 : decode cX11_file 98 = .ok (.putfield 117, 3) := by decide +kernel
theorem dX11_file_101 : decode cX11_file 101 = .ok (.aload_n 0, 1) := by decide +kernel
theorem dX11_file_102 : decode cX11_file 102 = .ok (.getfield 117, 3) := by decide +kernel
theorem dX11_file_105 : decode cX11_file 105 = .ok (.iconst 1, 1) := by decide +kernel
theorem dX11_file_106 : decode cX11_file 106 = .ok (.isub, 1) := by decide +kernel
theorem dX11_file_107 : decode cX11_file 107 = .ok (.ireturn, 1) := by decide +kernel
theorem dX11_isFile_0 : decode cX11_isFile 0 = .ok (.iload_n 1, 1) := by decide +kernel
theorem dX11_isFile_1 : decode cX11_isFile 1 = .ok (.iconst 0, 1) := by decide +kernel
theorem dX11_isFile_2 : decode cX11_isFile 2 = .ok (.aload_n 0, 1) := by decide +kernel
theorem dX11_isFile_3 : decode cX11_isFile 3 = .ok (.getfield 117, 3) := by decide +kernel
theorem dX11_isFile_6 : decode cX11_isFile 6 = .ok (.iconst 1, 1) := by decide +kernel
theorem dX11_isFile_7 : decode cX11_isFile 7 = .ok (.isub, 1) := by decide +kernel
theorem dX11_isFile_8 : decode cX11_isFile 8 = .ok (.invokestatic 110, 3) := by decide +kernel
theorem dX11_isFile_11 : decode cX11_isFile 11 = .ok (.ireturn, 1) := by decide +kernel
theorem dX11_isMake_0 : decode cX11_isMake 0 = .ok (.iload_n 1, 1) := by decide +kernel
theorem dX11_isMake_1 : decode cX11_isMake 1 = .ok (.iconst 0, 1) := by decide +kernel
theorem dX11_isMake_2 : decode cX11_isMake 2 = .ok (.aload_n 0, 1) := by decide +kernel
theorem dX11_isMake_3 : decode cX11_isMake 3 = .ok (.getfield 114, 3) := by decide +kernel
theorem dX11_isMake_6 : decode cX11_isMake 6 = .ok (.iconst 1, 1) := by decide +kernel
theorem dX11_isMake_7 : decode cX11_isMake 7 = .ok (.isub, 1) := by decide +kernel
theorem dX11_isMake_8 : decode cX11_isMake 8 = .ok (.invokestatic 110, 3) := by decide +kernel
theorem dX11_isMake_11 : decode cX11_isMake 11 = .ok (.ireturn, 1) := by decide +kernel
theorem dX11_isMachine_0 : decode cX11_isMachine 0 = .ok (.iload_n 0, 1) := by decide +kernel
theorem dX11_isMachine_1 : decode cX11_isMachine 1 = .ok (.iconst 0, 1) := by decide +kernel
theorem dX11_isMachine_2 : decode cX11_isMachine 2 = .ok (.bipush 7, 2) := by decide +kernel
theorem dX11_isMachine_4 : decode cX11_isMachine 4 = .ok (.invokestatic 110, 3) := by decide +kernel
theorem dX11_isMachine_7 : decode cX11_isMachine 7 = .ok (.ireturn, 1) := by decide +kernel
theorem dX11_must_0 : decode cX11_must 0 = .ok (.aload_n 0, 1) := by decide +kernel
theorem dX11_must_1 : decode cX11_must 1 = .ok (.iload_n 1, 1) := by decide +kernel
theorem dX11_must_2 : decode cX11_must 2 = .ok (.invokevirtual 120, 3) := by decide +kernel
theorem dX11_must_5 : decode cX11_must 5 = .ok (.ifCond .eq 14, 3) := by decide +kernel
theorem dX11_must_8 : decode cX11_must 8 = .ok (.iload_n 2, 1) := by decide +kernel
theorem dX11_must_9 : decode cX11_must 9 = .ok (.iconst 0, 1) := by decide +kernel
theorem dX11_must_10 : decode cX11_must 10 = .ok (.sipush 4095, 3) := by decide +kernel
theorem dX11_must_13 : decode cX11_must 13 = .ok (.invokestatic 110, 3) := by decide +kernel
theorem dX11_must_16 : decode cX11_must 16 = .ok (.ifCond .ne 5, 3) := by decide +kernel
theorem dX11_must_19 : decode cX11_must 19 = .ok (.iconst 0, 1) := by decide +kernel
theorem dX11_must_20 : decode cX11_must 20 = .ok (.ireturn, 1) := by decide +kernel
theorem dX11_must_21 : decode cX11_must 21 = .ok (.aload_n 0, 1) := by decide +kernel
theorem dX11_must_22 : decode cX11_must 22 = .ok (.getfield 36, 3) := by decide +kernel
theorem dX11_must_25 : decode cX11_must 25 = .ok (.iload_n 1, 1) := by decide +kernel
theorem dX11_must_26 : decode cX11_must 26 = .ok (.iload_n 2, 1) := by decide +kernel
theorem dX11_must_27 : decode cX11_must 27 = .ok (.iastore, 1) := by decide +kernel
theorem dX11_must_28 : decode cX11_must 28 = .ok (.iconst 1, 1) := by decide +kernel
theorem dX11_must_29 : decode cX11_must 29 = .ok (.ireturn, 1) := by decide +kernel
theorem dX11_machine_0 : decode cX11_machine 0 = .ok (.iload_n 1, 1) := by decide +kernel
theorem dX11_machine_1 : decode cX11_machine 1 = .ok (.invokestatic 124, 3) := by decide +kernel
theorem dX11_machine_4 : decode cX11_machine 4 = .ok (.ifCond .eq 25, 3) := by decide +kernel
theorem dX11_machine_7 : decode cX11_machine 7 = .ok (.iload_n 2, 1) := by decide +kernel
theorem dX11_machine_8 : decode cX11_machine 8 = .ok (.iconst 0, 1) := by decide +kernel
theorem dX11_machine_9 : decode cX11_machine 9 = .ok (.sipush 999, 3) := by decide +kernel
theorem dX11_machine_12 : decode cX11_machine 12 = .ok (.invokestatic 110, 3) := by decide +kernel
theorem dX11_machine_15 : decode cX11_machine 15 = .ok (.ifCond .eq 14, 3) := by decide +kernel
theorem dX11_machine_18 : decode cX11_machine 18 = .ok (.iload_n 3, 1) := by decide +kernel
theorem dX11_machine_19 : decode cX11_machine 19 = .ok (.iload_n 2, 1) := by decide +kernel
theorem dX11_machine_20 : decode cX11_machine 20 = .ok (.sipush 999, 3) := by decide +kernel
theorem dX11_machine_23 : decode cX11_machine 23 = .ok (.invokestatic 110, 3) := by decide +kernel
theorem dX11_machine_26 : decode cX11_machine 26 = .ok (.ifCond .ne 5, 3) := by decide +kernel
theorem dX11_machine_29 : decode cX11_machine 29 = .ok (.iconst 0, 1) := by decide +kernel
theorem dX11_machine_30 : decode cX11_machine 30 = .ok (.ireturn, 1) := by decide +kernel
theorem dX11_machine_31 : decode cX11_machine 31 = .ok (.aload_n 0, 1) := by decide +kernel
theorem dX11_machine_32 : decode cX11_machine 32 = .ok (.getfield 42, 3) := by decide +kernel
theorem dX11_machine_35 : decode cX11_machine 35 = .ok (.iload_n 1, 1) := by decide +kernel
theorem dX11_machine_36 : decode cX11_machine 36 = .ok (.iload_n 2, 1) := by decide +kernel
theorem dX11_machine_37 : decode cX11_machine 37 = .ok (.iastore, 1) := by decide +kernel
theorem dX11_machine_38 : decode cX11_machine 38 = .ok (.aload_n 0, 1) := by decide +kernel
theorem dX11_machine_39 : decode cX11_machine 39 = .ok (.getfield 45, 3) := by decide +kernel
theorem dX11_machine_42 : decode cX11_machine 42 = .ok (.iload_n 1, 1) := by decide +kernel
theorem dX11_machine_43 : decode cX11_machine 43 = .ok (.iload_n 3, 1) := by decide +kernel
theorem dX11_machine_44 : decode cX11_machine 44 = .ok (.iastore, 1) := by decide +kernel
theorem dX11_machine_45 : decode cX11_machine 45 = .ok (.iconst 1, 1) := by decide +kernel
theorem dX11_machine_46 : decode cX11_machine 46 = .ok (.ireturn, 1) := by decide +kernel
theorem dX11_reader_0 : decode cX11_reader 0 = .ok (.aload_n 0, 1) := by decide +kernel
theorem dX11_reader_1 : decode cX11_reader 1 = .ok (.iload_n 1, 1) := by decide +kernel
theorem dX11_reader_2 : decode cX11_reader 2 = .ok (.invokevirtual 127, 3) := by decide +kernel
theorem dX11_reader_5 : decode cX11_reader 5 = .ok (.ifCond .eq 19, 3) := by decide +kernel
theorem dX11_reader_8 : decode cX11_reader 8 = .ok (.iload_n 2, 1) := by decide +kernel
theorem dX11_reader_9 : decode cX11_reader 9 = .ok (.invokestatic 124, 3) := by decide +kernel
theorem dX11_reader_12 : decode cX11_reader 12 = .ok (.ifCond .eq 12, 3) := by decide +kernel
theorem dX11_reader_15 : decode cX11_reader 15 = .ok (.aload_n 0, 1) := by decide +kernel
theorem dX11_reader_16 : decode cX11_reader 16 = .ok (.getfield 130, 3) := by decide +kernel
theorem dX11_reader_19 : decode cX11_reader 19 = .ok (.bipush 24, 2) := by decide +kernel
theorem dX11_reader_21 : decode cX11_reader 21 = .ok (.if_icmp .ne 5, 3) := by decide +kernel
theorem dX11_reader_24 : decode cX11_reader 24 = .ok (.iconst 0, 1) := by decide +kernel
theorem dX11_reader_25 : decode cX11_reader 25 = .ok (.ireturn, 1) := by decide +kernel
theorem dX11_reader_26 : decode cX11_reader 26 = .ok (.iconst 0, 1) := by decide +kernel
theorem dX11_reader_27 : decode cX11_reader 27 = .ok (.istore_n 3, 1) := by decide +kernel
theorem dX11_reader_28 : decode cX11_reader 28 = .ok (.iload_n 3, 1) := by decide +kernel
theorem dX11_reader_29 : decode cX11_reader 29 = .ok (.aload_n 0, 1) := by decide +kernel
theorem dX11_reader_30 : decode cX11_reader 30 = .ok (.getfield 130, 3) := by decide +kernel
theorem dX11_reader_33 : decode cX11_reader 33 = .ok (.if_icmp .ge 31, 3) := by decide +kernel
theorem dX11_reader_36 : decode cX11_reader 36 = .ok (.aload_n 0, 1) := by decide +kernel
theorem dX11_reader_37 : decode cX11_reader 37 = .ok (.getfield 48, 3) := by decide +kernel
theorem dX11_reader_40 : decode cX11_reader 40 = .ok (.iload_n 3, 1) := by decide +kernel
theorem dX11_reader_41 : decode cX11_reader 41 = .ok (.iaload, 1) := by decide +kernel
theorem dX11_reader_42 : decode cX11_reader 42 = .ok (.iload_n 1, 1) := by decide +kernel
theorem dX11_reader_43 : decode cX11_reader 43 = .ok (.if_icmp .ne 15, 3) := by decide +kernel
theorem dX11_reader_46 : decode cX11_reader 46 = .ok (.aload_n 0, 1) := by decide +kernel
theorem dX11_reader_47 : decode cX11_reader 47 = .ok (.getfield 51, 3) := by decide +kernel
theorem dX11_reader_50 : decode cX11_reader 50 = .ok (.iload_n 3, 1) := by decide +kernel
theorem dX11_reader_51 : decode cX11_reader 51 = .ok (.iaload, 1) := by decide +kernel
theorem dX11_reader_52 : decode cX11_reader 52 = .ok (.iload_n 2, 1) := by decide +kernel
theorem dX11_reader_53 : decode cX11_reader 53 = .ok (.if_icmp .ne 5, 3) := by decide +kernel
theorem dX11_reader_56 : decode cX11_reader 56 = .ok (.iconst 0, 1) := by decide +kernel
theorem dX11_reader_57 : decode cX11_reader 57 = .ok (.ireturn, 1) := by decide +kernel
theorem dX11_reader_58 : decode cX11_reader 58 = .ok (.iinc 3 1, 3) := by decide +kernel
theorem dX11_reader_61 : decode cX11_reader 61 = .ok (.goto (-33), 3) := by decide +kernel
theorem dX11_reader_64 : decode cX11_reader 64 = .ok (.aload_n 0, 1) := by decide +kernel
theorem dX11_reader_65 : decode cX11_reader 65 = .ok (.getfield 48, 3) := by decide +kernel
theorem dX11_reader_68 : decode cX11_reader 68 = .ok (.aload_n 0, 1) := by decide +kernel
theorem dX11_reader_69 : decode cX11_reader 69 = .ok (.getfield 130, 3) := by decide +kernel
theorem dX11_reader_72 : decode cX11_reader 72 = .ok (.iload_n 1, 1) := by decide +kernel
theorem dX11_reader_73 : decode cX11_reader 73 = .ok (.iastore, 1) := by decide +kernel
theorem dX11_reader_74 : decode cX11_reader 74 = .ok (.aload_n 0, 1) := by decide +kernel
theorem dX11_reader_75 : decode cX11_reader 75 = .ok (.getfield 51, 3) := by decide +kernel
theorem dX11_reader_78 : decode cX11_reader 78 = .ok (.aload_n 0, 1) := by decide +kernel
theorem dX11_reader_79 : decode cX11_reader 79 = .ok (.getfield 130, 3) := by decide +kernel
theorem dX11_reader_82 : decode cX11_reader 82 = .ok (.iload_n 2, 1) := by decide +kernel
theorem dX11_reader_83 : decode cX11_reader 83 = .ok (.iastore, 1) := by decide +kernel
theorem dX11_reader_84 : decode cX11_reader 84 = .ok (.aload_n 0, 1) := by decide +kernel
theorem dX11_reader_85 : decode cX11_reader 85 = .ok (.dup, 1) := by decide +kernel
theorem dX11_reader_86 : decode cX11_reader 86 = .ok (.getfield 130, 3) := by decide +kernel
theorem dX11_reader_89 : decode cX11_reader 89 = .ok (.iconst 1, 1) := by decide +kernel
theorem dX11_reader_90 : decode cX11_reader 90 = .ok (.iadd, 1) := by decide +kernel
theorem dX11_reader_91 : decode cX11_reader 91 = .ok (.putfield 130, 3) := by decide +kernel
theorem dX11_reader_94 : decode cX11_reader 94 = .ok (.iconst 1, 1) := by decide +kernel
theorem dX11_reader_95 : decode cX11_reader 95 = .ok (.ireturn, 1) := by decide +kernel
theorem dX11_turner_0 : decode cX11_turner 0 = .ok (.aload_n 0, 1) := by decide +kernel
theorem dX11_turner_1 : decode cX11_turner 1 = .ok (.iload_n 1, 1) := by decide +kernel
theorem dX11_turner_2 : decode cX11_turner 2 = .ok (.invokevirtual 127, 3) := by decide +kernel
theorem dX11_turner_5 : decode cX11_turner 5 = .ok (.ifCond .eq 56, 3) := by decide +kernel
theorem dX11_turner_8 : decode cX11_turner 8 = .ok (.aload_n 0, 1) := by decide +kernel
theorem dX11_turner_9 : decode cX11_turner 9 = .ok (.iload_n 2, 1) := by decide +kernel
theorem dX11_turner_10 : decode cX11_turner 10 = .ok (.invokevirtual 127, 3) := by decide +kernel
theorem dX11_turner_13 : decode cX11_turner 13 = .ok (.ifCond .eq 48, 3) := by decide +kernel
