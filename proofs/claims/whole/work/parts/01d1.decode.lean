theorem dX6_measure_59 : decode cX6_measure 59 = .ok (.invokestatic 42, 3) := by decide +kernel
theorem dX6_measure_62 : decode cX6_measure 62 = .ok (.iastore, 1) := by decide +kernel
theorem dX6_measure_63 : decode cX6_measure 63 = .ok (.iinc 5 1, 3) := by decide +kernel
theorem dX6_measure_66 : decode cX6_measure 66 = .ok (.goto (-55), 3) := by decide +kernel
theorem dX6_measure_69 : decode cX6_measure 69 = .ok (.iconst 1, 1) := by decide +kernel
theorem dX6_measure_70 : decode cX6_measure 70 = .ok (.istore 5, 2) := by decide +kernel
theorem dX6_measure_72 : decode cX6_measure 72 = .ok (.iload 5, 2) := by decide +kernel
theorem dX6_measure_74 : decode cX6_measure 74 = .ok (.iconst 4, 1) := by decide +kernel
theorem dX6_measure_75 : decode cX6_measure 75 = .ok (.if_icmp .gt 17, 3) := by decide +kernel
theorem dX6_measure_78 : decode cX6_measure 78 = .ok (.aload_n 0, 1) := by decide +kernel
theorem dX6_measure_79 : decode cX6_measure 79 = .ok (.aload_n 2, 1) := by decide +kernel
theorem dX6_measure_80 : decode cX6_measure 80 = .ok (.aload_n 3, 1) := by decide +kernel
theorem dX6_measure_81 : decode cX6_measure 81 = .ok (.iload 4, 2) := by decide +kernel
theorem dX6_measure_83 : decode cX6_measure 83 = .ok (.invokevirtual 48, 3) := by decide +kernel
theorem dX6_measure_86 : decode cX6_measure 86 = .ok (.iinc 5 1, 3) := by decide +kernel
theorem dX6_measure_89 : decode cX6_measure 89 = .ok (.goto (-17), 3) := by decide +kernel
theorem dX6_measure_92 : decode cX6_measure 92 = .ok (.return_, 1) := by decide +kernel
theorem dX6_goOneStepBack_0 : decode cX6_goOneStepBack 0 = .ok (.aload_n 0, 1) := by decide +kernel
theorem dX6_goOneStepBack_1 : decode cX6_goOneStepBack 1 = .ok (.getfield 9, 3) := by decide +kernel
theorem dX6_goOneStepBack_4 : decode cX6_goOneStepBack 4 = .ok (.iconst 0, 1) := by decide +kernel
theorem dX6_goOneStepBack_5 : decode cX6_goOneStepBack 5 = .ok (.aload_n 0, 1) := by decide +kernel
theorem dX6_goOneStepBack_6 : decode cX6_goOneStepBack 6 = .ok (.getfield 15, 3) := by decide +kernel
theorem dX6_goOneStepBack_9 : decode cX6_goOneStepBack 9 = .ok (.iconst 0, 1) := by decide +kernel
theorem dX6_goOneStepBack_10 : decode cX6_goOneStepBack 10 = .ok (.bipush 12, 2) := by decide +kernel
theorem dX6_goOneStepBack_12 : decode cX6_goOneStepBack 12 = .ok (.invokestatic 52, 3) := by decide +kernel
theorem dX6_goOneStepBack_15 : decode cX6_goOneStepBack 15 = .ok (.iconst 0, 1) := by decide +kernel
theorem dX6_goOneStepBack_16 : decode cX6_goOneStepBack 16 = .ok (.istore 4, 2) := by decide +kernel
theorem dX6_goOneStepBack_18 : decode cX6_goOneStepBack 18 = .ok (.iload 4, 2) := by decide +kernel
theorem dX6_goOneStepBack_20 : decode cX6_goOneStepBack 20 = .ok (.aload_n 1, 1) := by decide +kernel
theorem dX6_goOneStepBack_21 : decode cX6_goOneStepBack 21 = .ok (.getfield 58, 3) := by decide +kernel
theorem dX6_goOneStepBack_24 : decode cX6_goOneStepBack 24 = .ok (.if_icmp .ge 72, 3) := by decide +kernel
theorem dX6_goOneStepBack_27 : decode cX6_goOneStepBack 27 = .ok (.aload_n 1, 1) := by decide +kernel
theorem dX6_goOneStepBack_28 : decode cX6_goOneStepBack 28 = .ok (.iload 4, 2) := by decide +kernel
theorem dX6_goOneStepBack_30 : decode cX6_goOneStepBack 30 = .ok (.invokevirtual 61, 3) := by decide +kernel
theorem dX6_goOneStepBack_33 : decode cX6_goOneStepBack 33 = .ok (.astore 5, 2) := by decide +kernel
theorem dX6_goOneStepBack_35 : decode cX6_goOneStepBack 35 = .ok (.aload 5, 2) := by decide +kernel
theorem dX6_goOneStepBack_37 : decode cX6_goOneStepBack 37 = .ok (.ifnull 53, 3) := by decide +kernel
theorem dX6_goOneStepBack_40 : decode cX6_goOneStepBack 40 = .ok (.aload_n 2, 1) := by decide +kernel
theorem dX6_goOneStepBack_41 : decode cX6_goOneStepBack 41 = .ok (.aload 5, 2) := by decide +kernel
theorem dX6_goOneStepBack_43 : decode cX6_goOneStepBack 43 = .ok (.getfield 65, 3) := by decide +kernel
theorem dX6_goOneStepBack_46 : decode cX6_goOneStepBack 46 = .ok (.iload_n 3, 1) := by decide +kernel
theorem dX6_goOneStepBack_47 : decode cX6_goOneStepBack 47 = .ok (.invokevirtual 36, 3) := by decide +kernel
theorem dX6_goOneStepBack_50 : decode cX6_goOneStepBack 50 = .ok (.aload_n 0, 1) := by decide +kernel
theorem dX6_goOneStepBack_51 : decode cX6_goOneStepBack 51 = .ok (.getfield 9, 3) := by decide +kernel
theorem dX6_goOneStepBack_54 : decode cX6_goOneStepBack 54 = .ok (.aload 5, 2) := by decide +kernel
theorem dX6_goOneStepBack_56 : decode cX6_goOneStepBack 56 = .ok (.getfield 70, 3) := by decide +kernel
theorem dX6_goOneStepBack_59 : decode cX6_goOneStepBack 59 = .ok (.iaload, 1) := by decide +kernel
theorem dX6_goOneStepBack_60 : decode cX6_goOneStepBack 60 = .ok (.invokestatic 73, 3) := by decide +kernel
theorem dX6_goOneStepBack_63 : decode cX6_goOneStepBack 63 = .ok (.istore 6, 2) := by decide +kernel
theorem dX6_goOneStepBack_65 : decode cX6_goOneStepBack 65 = .ok (.aload_n 0, 1) := by decide +kernel
theorem dX6_goOneStepBack_66 : decode cX6_goOneStepBack 66 = .ok (.getfield 15, 3) := by decide +kernel
theorem dX6_goOneStepBack_69 : decode cX6_goOneStepBack 69 = .ok (.aload 5, 2) := by decide +kernel
theorem dX6_goOneStepBack_71 : decode cX6_goOneStepBack 71 = .ok (.getfield 76, 3) := by decide +kernel
theorem dX6_goOneStepBack_74 : decode cX6_goOneStepBack 74 = .ok (.aload_n 0, 1) := by decide +kernel
theorem dX6_goOneStepBack_75 : decode cX6_goOneStepBack 75 = .ok (.getfield 15, 3) := by decide +kernel
theorem dX6_goOneStepBack_78 : decode cX6_goOneStepBack 78 = .ok (.aload 5, 2) := by decide +kernel
theorem dX6_goOneStepBack_80 : decode cX6_goOneStepBack 80 = .ok (.getfield 76, 3) := by decide +kernel
theorem dX6_goOneStepBack_83 : decode cX6_goOneStepBack 83 = .ok (.iaload, 1) := by decide +kernel
theorem dX6_goOneStepBack_84 : decode cX6_goOneStepBack 84 = .ok (.iload 6, 2) := by decide +kernel
theorem dX6_goOneStepBack_86 : decode cX6_goOneStepBack 86 = .ok (.invokestatic 42, 3) := by decide +kernel
theorem dX6_goOneStepBack_89 : decode cX6_goOneStepBack 89 = .ok (.iastore, 1) := by decide +kernel
theorem dX6_goOneStepBack_90 : decode cX6_goOneStepBack 90 = .ok (.iinc 4 1, 3) := by decide +kernel
theorem dX6_goOneStepBack_93 : decode cX6_goOneStepBack 93 = .ok (.goto (-75), 3) := by decide +kernel
theorem dX6_goOneStepBack_96 : decode cX6_goOneStepBack 96 = .ok (.aload_n 0, 1) := by decide +kernel
theorem dX6_goOneStepBack_97 : decode cX6_goOneStepBack 97 = .ok (.getfield 15, 3) := by decide +kernel
theorem dX6_goOneStepBack_100 : decode cX6_goOneStepBack 100 = .ok (.iconst 0, 1) := by decide +kernel
theorem dX6_goOneStepBack_101 : decode cX6_goOneStepBack 101 = .ok (.aload_n 0, 1) := by decide +kernel
theorem dX6_goOneStepBack_102 : decode cX6_goOneStepBack 102 = .ok (.getfield 9, 3) := by decide +kernel
theorem dX6_goOneStepBack_105 : decode cX6_goOneStepBack 105 = .ok (.iconst 0, 1) := by decide +kernel
theorem dX6_goOneStepBack_106 : decode cX6_goOneStepBack 106 = .ok (.bipush 12, 2) := by decide +kernel
theorem dX6_goOneStepBack_108 : decode cX6_goOneStepBack 108 = .ok (.invokestatic 52, 3) := by decide +kernel
theorem dX6_goOneStepBack_111 : decode cX6_goOneStepBack 111 = .ok (.return_, 1) := by decide +kernel
theorem dX6_lastYearOf_0 : decode cX6_lastYearOf 0 = .ok (.iload_n 1, 1) := by decide +kernel
theorem dX6_lastYearOf_1 : decode cX6_lastYearOf 1 = .ok (.ifCond .lt 18, 3) := by decide +kernel
theorem dX6_lastYearOf_4 : decode cX6_lastYearOf 4 = .ok (.iload_n 1, 1) := by decide +kernel
theorem dX6_lastYearOf_5 : decode cX6_lastYearOf 5 = .ok (.bipush 12, 2) := by decide +kernel
theorem dX6_lastYearOf_7 : decode cX6_lastYearOf 7 = .ok (.if_icmp .ge 12, 3) := by decide +kernel
theorem dX6_lastYearOf_10 : decode cX6_lastYearOf 10 = .ok (.aload_n 0, 1) := by decide +kernel
theorem dX6_lastYearOf_11 : decode cX6_lastYearOf 11 = .ok (.getfield 9, 3) := by decide +kernel
theorem dX6_lastYearOf_14 : decode cX6_lastYearOf 14 = .ok (.iload_n 1, 1) := by decide +kernel
theorem dX6_lastYearOf_15 : decode cX6_lastYearOf 15 = .ok (.iaload, 1) := by decide +kernel
theorem dX6_lastYearOf_16 : decode cX6_lastYearOf 16 = .ok (.goto 4, 3) := by decide +kernel
theorem dX6_lastYearOf_19 : decode cX6_lastYearOf 19 = .ok (.iconst (-1), 1) := by decide +kernel
theorem dX6_lastYearOf_20 : decode cX6_lastYearOf 20 = .ok (.ireturn, 1) := by decide +kernel
theorem dX7_init_0 : decode cX7_init 0 = .ok (.aload_n 0, 1) := by decide +kernel
theorem dX7_init_1 : decode cX7_init 1 = .ok (.invokespecial 3, 3) := by decide +kernel
theorem dX7_init_4 : decode cX7_init 4 = .ok (.aload_n 0, 1) := by decide +kernel
theorem dX7_init_5 : decode cX7_init 5 = .ok (.iconst 0, 1) := by decide +kernel
theorem dX7_init_6 : decode cX7_init 6 = .ok (.putfield 9, 3) := by decide +kernel
theorem dX7_init_9 : decode cX7_init 9 = .ok (.aload_n 0, 1) := by decide +kernel
theorem dX7_init_10 : decode cX7_init 10 = .ok (.iconst 0, 1) := by decide +kernel
theorem dX7_init_11 : decode cX7_init 11 = .ok (.putfield 15, 3) := by decide +kernel
theorem dX7_init_14 : decode cX7_init 14 = .ok (.aload_n 0, 1) := by decide +kernel
theorem dX7_init_15 : decode cX7_init 15 = .ok (.iconst (-1), 1) := by decide +kernel
theorem dX7_init_16 : decode cX7_init 16 = .ok (.putfield 19, 3) := by decide +kernel
theorem dX7_init_19 : decode cX7_init 19 = .ok (.aload_n 0, 1) := by decide +kernel
theorem dX7_init_20 : decode cX7_init 20 = .ok (.iconst 4, 1) := by decide +kernel
theorem dX7_init_21 : decode cX7_init 21 = .ok (.putfield 22, 3) := by decide +kernel
theorem dX7_init_24 : decode cX7_init 24 = .ok (.aload_n 0, 1) := by decide +kernel
theorem dX7_init_25 : decode cX7_init 25 = .ok (.iconst 0, 1) := by decide +kernel
theorem dX7_init_26 : decode cX7_init 26 = .ok (.putfield 25, 3) := by decide +kernel
theorem dX7_init_29 : decode cX7_init 29 = .ok (.aload_n 0, 1) := by decide +kernel
theorem dX7_init_30 : decode cX7_init 30 = .ok (.iconst 0, 1) := by decide +kernel
theorem dX7_init_31 : decode cX7_init 31 = .ok (.putfield 28, 3) := by decide +kernel
theorem dX7_init_34 : decode cX7_init 34 = .ok (.aload_n 0, 1) := by decide +kernel
theorem dX7_init_35 : decode cX7_init 35 = .ok (.aload_n 1, 1) := by decide +kernel
theorem dX7_init_36 : decode cX7_init 36 = .ok (.putfield 31, 3) := by decide +kernel
theorem dX7_init_39 : decode cX7_init 39 = .ok (.aload_n 0, 1) := by decide +kernel
theorem dX7_init_40 : decode cX7_init 40 = .ok (.iload_n 2, 1) := by decide +kernel
theorem dX7_init_41 : decode cX7_init 41 = .ok (.putfield 35, 3) := by decide +kernel
theorem dX7_init_44 : decode cX7_init 44 = .ok (.aload_n 0, 1) := by decide +kernel
theorem dX7_init_45 : decode cX7_init 45 = .ok (.iload_n 3, 1) := by decide +kernel
theorem dX7_init_46 : decode cX7_init 46 = .ok (.putfield 38, 3) := by decide +kernel
theorem dX7_init_49 : decode cX7_init 49 = .ok (.return_, 1) := by decide +kernel
theorem dX8_init_0 : decode cX8_init 0 = .ok (.aload_n 0, 1) := by decide +kernel
theorem dX8_init_1 : decode cX8_init 1 = .ok (.invokespecial 1, 3) := by decide +kernel
theorem dX8_init_4 : decode cX8_init 4 = .ok (.aload_n 0, 1) := by decide +kernel
theorem dX8_init_5 : decode cX8_init 5 = .ok (.iload_n 1, 1) := by decide +kernel
theorem dX8_init_6 : decode cX8_init 6 = .ok (.putfield 7, 3) := by decide +kernel
theorem dX8_init_9 : decode cX8_init 9 = .ok (.aload_n 0, 1) := by decide +kernel
theorem dX8_init_10 : decode cX8_init 10 = .ok (.iload_n 2, 1) := by decide +kernel
theorem dX8_init_11 : decode cX8_init 11 = .ok (.putfield 13, 3) := by decide +kernel
theorem dX8_init_14 : decode cX8_init 14 = .ok (.aload_n 0, 1) := by decide +kernel
theorem dX8_init_15 : decode cX8_init 15 = .ok (.iload_n 3, 1) := by decide +kernel
theorem dX8_init_16 : decode cX8_init 16 = .ok (.putfield 16, 3) := by decide +kernel
theorem dX8_init_19 : decode cX8_init 19 = .ok (.aload_n 0, 1) := by decide +kernel
theorem dX8_init_20 : decode cX8_init 20 = .ok (.iload 4, 2) := by decide +kernel
theorem dX8_init_22 : decode cX8_init 22 = .ok (.putfield 19, 3) := by decide +kernel
theorem dX8_init_25 : decode cX8_init 25 = .ok (.aload_n 0, 1) := by decide +kernel
theorem dX8_init_26 : decode cX8_init 26 = .ok (.iload 5, 2) := by decide +kernel
theorem dX8_init_28 : decode cX8_init 28 = .ok (.putfield 22, 3) := by decide +kernel
theorem dX8_init_31 : decode cX8_init 31 = .ok (.return_, 1) := by decide +kernel
theorem dX8_carriesAll_0 : decode cX8_carriesAll 0 = .ok (.iload_n 1, 1) := by decide +kernel
theorem dX8_carriesAll_1 : decode cX8_carriesAll 1 = .ok (.aload_n 0, 1) := by decide +kernel
theorem dX8_carriesAll_2 : decode cX8_carriesAll 2 = .ok (.getfield 16, 3) := by decide +kernel
theorem dX8_carriesAll_5 : decode cX8_carriesAll 5 = .ok (.iconst (-1), 1) := by decide +kernel
theorem dX8_carriesAll_6 : decode cX8_carriesAll 6 = .ok (.ixor, 1) := by decide +kernel
theorem dX8_carriesAll_7 : decode cX8_carriesAll 7 = .ok (.iand, 1) := by decide +kernel
theorem dX8_carriesAll_8 : decode cX8_carriesAll 8 = .ok (.ifCond .ne 7, 3) := by decide +kernel
theorem dX8_carriesAll_11 : decode cX8_carriesAll 11 = .ok (.iconst 1, 1) := by decide +kernel
theorem dX8_carriesAll_12 : decode cX8_carriesAll 12 = .ok (.goto 4, 3) := by decide +kernel
theorem dX8_carriesAll_15 : decode cX8_carriesAll 15 = .ok (.iconst 0, 1) := by decide +kernel
theorem dX8_carriesAll_16 : decode cX8_carriesAll 16 = .ok (.ireturn, 1) := by decide +kernel
theorem dX9_init_0 : decode cX9_init 0 = .ok (.aload_n 0, 1) := by decide +kernel
theorem dX9_init_1 : decode cX9_init 1 = .ok (.invokespecial 3, 3) := by decide +kernel
theorem dX9_init_4 : decode cX9_init 4 = .ok (.aload_n 0, 1) := by decide +kernel
theorem dX9_init_5 : decode cX9_init 5 = .ok (.bipush 24, 2) := by decide +kernel
theorem dX9_init_7 : decode cX9_init 7 = .ok (.anewarray 9, 3) := by decide +kernel
theorem dX9_init_10 : decode cX9_init 10 = .ok (.putfield 11, 3) := by decide +kernel
theorem dX9_init_13 : decode cX9_init 13 = .ok (.aload_n 0, 1) := by decide +kernel
theorem dX9_init_14 : decode cX9_init 14 = .ok (.iconst 0, 1) := by decide +kernel
theorem dX9_init_15 : decode cX9_init 15 = .ok (.putfield 17, 3) := by decide +kernel
theorem dX9_init_18 : decode cX9_init 18 = .ok (.return_, 1) := by decide +kernel
theorem dX9_add_0 : decode cX9_add 0 = .ok (.aload_n 0, 1) := by decide +kernel
theorem dX9_add_1 : decode cX9_add 1 = .ok (.getfield 17, 3) := by decide +kernel
theorem dX9_add_4 : decode cX9_add 4 = .ok (.bipush 24, 2) := by decide +kernel
theorem dX9_add_6 : decode cX9_add 6 = .ok (.if_icmp .lt 5, 3) := by decide +kernel
theorem dX9_add_9 : decode cX9_add 9 = .ok (.iconst (-1), 1) := by decide +kernel
theorem dX9_add_10 : decode cX9_add 10 = .ok (.ireturn, 1) := by decide +kernel
theorem dX9_add_11 : decode cX9_add 11 = .ok (.aload_n 0, 1) := by decide +kernel
theorem dX9_add_12 : decode cX9_add 12 = .ok (.getfield 11, 3) := by decide +kernel
theorem dX9_add_15 : decode cX9_add 15 = .ok (.aload_n 0, 1) := by decide +kernel
theorem dX9_add_16 : decode cX9_add 16 = .ok (.getfield 17, 3) := by decide +kernel
theorem dX9_add_19 : decode cX9_add 19 = .ok (.new 9, 3) := by decide +kernel
theorem dX9_add_22 : decode cX9_add 22 = .ok (.dup, 1) := by decide +kernel
theorem dX9_add_23 : decode cX9_add 23 = .ok (.iload_n 1, 1) := by decide +kernel
theorem dX9_add_24 : decode cX9_add 24 = .ok (.iload_n 2, 1) := by decide +kernel
theorem dX9_add_25 : decode cX9_add 25 = .ok (.iload_n 3, 1) := by decide +kernel
theorem dX9_add_26 : decode cX9_add 26 = .ok (.iload 4, 2) := by decide +kernel
theorem dX9_add_28 : decode cX9_add 28 = .ok (.iload 5, 2) := by decide +kernel
theorem dX9_add_30 : decode cX9_add 30 = .ok (.invokespecial 21, 3) := by decide +kernel
theorem dX9_add_33 : decode cX9_add 33 = .ok (.aastore, 1) := by decide +kernel
theorem dX9_add_34 : decode cX9_add 34 = .ok (.aload_n 0, 1) := by decide +kernel
theorem dX9_add_35 : decode cX9_add 35 = .ok (.dup, 1) := by decide +kernel
theorem dX9_add_36 : decode cX9_add 36 = .ok (.getfield 17, 3) := by decide +kernel
theorem dX9_add_39 : decode cX9_add 39 = .ok (.iconst 1, 1) := by decide +kernel
theorem dX9_add_40 : decode cX9_add 40 = .ok (.iadd, 1) := by decide +kernel
theorem dX9_add_41 : decode cX9_add 41 = .ok (.putfield 17, 3) := by decide +kernel
theorem dX9_add_44 : decode cX9_add 44 = .ok (.aload_n 0, 1) := by decide +kernel
theorem dX9_add_45 : decode cX9_add 45 = .ok (.getfield 17, 3) := by decide +kernel
theorem dX9_add_48 : decode cX9_add 48 = .ok (.iconst 1, 1) := by decide +kernel
theorem dX9_add_49 : decode cX9_add 49 = .ok (.isub, 1) := by decide +kernel
theorem dX9_add_50 : decode cX9_add 50 = .ok (.ireturn, 1) := by decide +kernel
theorem dX9_at_0 : decode cX9_at 0 = .ok (.iload_n 1, 1) := by decide +kernel
theorem dX9_at_1 : decode cX9_at 1 = .ok (.ifCond .lt 20, 3) := by decide +kernel
theorem dX9_at_4 : decode cX9_at 4 = .ok (.iload_n 1, 1) := by decide +kernel
theorem dX9_at_5 : decode cX9_at 5 = .ok (.aload_n 0, 1) := by decide +kernel
theorem dX9_at_6 : decode cX9_at 6 = .ok (.getfield 17, 3) := by decide +kernel
theorem dX9_at_9 : decode cX9_at 9 = .ok (.if_icmp .ge 12, 3) := by decide +kernel
theorem dX9_at_12 : decode cX9_at 12 = .ok (.aload_n 0, 1) := by decide +kernel
theorem dX9_at_13 : decode cX9_at 13 = .ok (.getfield 11, 3) := by decide +kernel
theorem dX9_at_16 : decode cX9_at 16 = .ok (.iload_n 1, 1) := by decide +kernel
theorem dX9_at_17 : decode cX9_at 17 = .ok (.aaload, 1) := by decide +kernel
theorem dX9_at_18 : decode cX9_at 18 = .ok (.goto 4, 3) := by decide +kernel
theorem dX9_at_21 : decode cX9_at 21 = .ok (.aconst_null, 1) := by decide +kernel
theorem dX9_at_22 : decode cX9_at 22 = .ok (.areturn, 1) := by decide +kernel
theorem dX10_init_0 : decode cX10_init 0 = .ok (.aload_n 0, 1) := by decide +kernel
theorem dX10_init_1 : decode cX10_init 1 = .ok (.invokespecial 1, 3) := by decide +kernel
theorem dX10_init_4 : decode cX10_init 4 = .ok (.aload_n 0, 1) := by decide +kernel
theorem dX10_init_5 : decode cX10_init 5 = .ok (.new 7, 3) := by decide +kernel
theorem dX10_init_8 : decode cX10_init 8 = .ok (.dup, 1) := by decide +kernel
theorem dX10_init_9 : decode cX10_init 9 = .ok (.bipush 80, 2) := by decide +kernel
theorem dX10_init_11 : decode cX10_init 11 = .ok (.invokespecial 11, 3) := by decide +kernel
theorem dX10_init_14 : decode cX10_init 14 = .ok (.putfield 14, 3) := by decide +kernel
theorem dX10_init_17 : decode cX10_init 17 = .ok (.aload_n 0, 1) := by decide +kernel
theorem dX10_init_18 : decode cX10_init 18 = .ok (.new 7, 3) := by decide +kernel
theorem dX10_init_21 : decode cX10_init 21 = .ok (.dup, 1) := by decide +kernel
theorem dX10_init_22 : decode cX10_init 22 = .ok (.bipush 60, 2) := by decide +kernel
theorem dX10_init_24 : decode cX10_init 24 = .ok (.invokespecial 11, 3) := by decide +kernel
theorem dX10_init_27 : decode cX10_init 27 = .ok (.putfield 18, 3) := by decide +kernel
theorem dX10_init_30 : decode cX10_init 30 = .ok (.aload_n 0, 1) := by decide +kernel
theorem dX10_init_31 : decode cX10_init 31 = .ok (.bipush 12, 2) := by decide +kernel
theorem dX10_init_33 : decode cX10_init 33 = .ok (.anewarray 21, 3) := by decide +kernel
theorem dX10_init_36 : decode cX10_init 36 = .ok (.putfield 23, 3) := by decide +kernel
theorem dX10_init_39 : decode cX10_init 39 = .ok (.aload_n 0, 1) := by decide +kernel
theorem dX10_init_40 : decode cX10_init 40 = .ok (.bipush 40, 2) := by decide +kernel
theorem dX10_init_42 : decode cX10_init 42 = .ok (.anewarray 27, 3) := by decide +kernel
theorem dX10_init_45 : decode cX10_init 45 = .ok (.putfield 29, 3) := by decide +kernel
theorem dX10_init_48 : decode cX10_init 48 = .ok (.aload_n 0, 1) := by decide +kernel
theorem dX10_init_49 : decode cX10_init 49 = .ok (.new 33, 3) := by decide +kernel
theorem dX10_init_52 : decode cX10_init 52 = .ok (.dup, 1) := by decide +kernel
theorem dX10_init_53 : decode cX10_init 53 = .ok (.invokespecial 35, 3) := by decide +kernel
theorem dX10_init_56 : decode cX10_init 56 = .ok (.putfield 36, 3) := by decide +kernel
theorem dX10_init_59 : decode cX10_init 59 = .ok (.aload_n 0, 1) := by decide +kernel
theorem dX10_init_60 : decode cX10_init 60 = .ok (.new 40, 3) := by decide +kernel
theorem dX10_init_63 : decode cX10_init 63 = .ok (.dup, 1) := by decide +kernel
theorem dX10_init_64 : decode cX10_init 64 = .ok (.invokespecial 42, 3) := by decide +kernel
theorem dX10_init_67 : decode cX10_init 67 = .ok (.putfield 43, 3) := by decide +kernel
theorem dX10_init_70 : decode cX10_init 70 = .ok (.aload_n 0, 1) := by decide +kernel
theorem dX10_init_71 : decode cX10_init 71 = .ok (.new 47, 3) := by decide +kernel
theorem dX10_init_74 : decode cX10_init 74 = .ok (.dup, 1) := by decide +kernel
theorem dX10_init_75 : decode cX10_init 75 = .ok (.invokespecial 49, 3) := by decide +kernel
theorem dX10_init_78 : decode cX10_init 78 = .ok (.putfield 50, 3) := by decide +kernel
theorem dX10_init_81 : decode cX10_init 81 = .ok (.aload_n 0, 1) := by decide +kernel
theorem dX10_init_82 : decode cX10_init 82 = .ok (.new 54, 3) := by decide +kernel
theorem dX10_init_85 : decode cX10_init 85 = .ok (.dup, 1) := by decide +kernel
theorem dX10_init_86 : decode cX10_init 86 = .ok (.invokespecial 56, 3) := by decide +kernel
theorem dX10_init_89 : decode cX10_init 89 = .ok (.putfield 57, 3) := by decide +kernel
theorem dX10_init_92 : decode cX10_init 92 = .ok (.aload_n 0, 1) := by decide +kernel
theorem dX10_init_93 : decode cX10_init 93 = .ok (.new 61, 3) := by decide +kernel
theorem dX10_init_96 : decode cX10_init 96 = .ok (.dup, 1) := by decide +kernel
theorem dX10_init_97 : decode cX10_init 97 = .ok (.invokespecial 63, 3) := by decide +kernel
theorem dX10_init_100 : decode cX10_init 100 = .ok (.putfield 64, 3) := by decide +kernel
theorem dX10_init_103 : decode cX10_init 103 = .ok (.aload_n 0, 1) := by decide +kernel
theorem dX10_init_104 : decode cX10_init 104 = .ok (.new 68, 3) := by decide +kernel
theorem dX10_init_107 : decode cX10_init 107 = .ok (.dup, 1) := by decide +kernel
theorem dX10_init_108 : decode cX10_init 108 = .ok (.invokespecial 70, 3) := by decide +kernel
theorem dX10_init_111 : decode cX10_init 111 = .ok (.putfield 71, 3) := by decide +kernel
theorem dX10_init_114 : decode cX10_init 114 = .ok (.aload_n 0, 1) := by decide +kernel
theorem dX10_init_115 : decode cX10_init 115 = .ok (.new 68, 3) := by decide +kernel
theorem dX10_init_118 : decode cX10_init 118 = .ok (.dup, 1) := by decide +kernel
theorem dX10_init_119 : decode cX10_init 119 = .ok (.invokespecial 70, 3) := by decide +kernel
theorem dX10_init_122 : decode cX10_init 122 = .ok (.putfield 75, 3) := by decide +kernel
theorem dX10_init_125 : decode cX10_init 125 = .ok (.aload_n 0, 1) := by decide +kernel
theorem dX10_init_126 : decode cX10_init 126 = .ok (.iconst 0, 1) := by decide +kernel
theorem dX10_init_127 : decode cX10_init 127 = .ok (.putfield 78, 3) := by decide +kernel
theorem dX10_init_130 : decode cX10_init 130 = .ok (.aload_n 0, 1) := by decide +kernel
theorem dX10_init_131 : decode cX10_init 131 = .ok (.iconst 0, 1) := by decide +kernel
theorem dX10_init_132 : decode cX10_init 132 = .ok (.putfield 82, 3) := by decide +kernel
theorem dX10_init_135 : decode cX10_init 135 = .ok (.aload_n 0, 1) := by decide +kernel
theorem dX10_init_136 : decode cX10_init 136 = .ok (.iconst 0, 1) := by decide +kernel
theorem dX10_init_137 : decode cX10_init 137 = .ok (.putfield 85, 3) := by decide +kernel
theorem dX10_init_140 : decode cX10_init 140 = .ok (.aload_n 0, 1) := by decide +kernel
theorem dX10_init_141 : decode cX10_init 141 = .ok (.lconst 0, 1) := by decide +kernel
theorem dX10_init_142 : decode cX10_init 142 = .ok (.putfield 88, 3) := by decide +kernel
theorem dX10_init_145 : decode cX10_init 145 = .ok (.return_, 1) := by decide +kernel
theorem dX10_feed_0 : decode cX10_feed 0 = .ok (.aload_n 0, 1) := by decide +kernel
theorem dX10_feed_1 : decode cX10_feed 1 = .ok (.getfield 14, 3) := by decide +kernel
theorem dX10_feed_4 : decode cX10_feed 4 = .ok (.invokevirtual 92, 3) := by decide +kernel
theorem dX10_feed_7 : decode cX10_feed 7 = .ok (.bipush 20, 2) := by decide +kernel
theorem dX10_feed_9 : decode cX10_feed 9 = .ok (.if_icmp .ge 5, 3) := by decide +kernel
theorem dX10_feed_12 : decode cX10_feed 12 = .ok (.iconst (-1), 1) := by decide +kernel
theorem dX10_feed_13 : decode cX10_feed 13 = .ok (.ireturn, 1) := by decide +kernel
theorem dX10_feed_14 : decode cX10_feed 14 = .ok (.aload_n 0, 1) := by decide +kernel
theorem dX10_feed_15 : decode cX10_feed 15 = .ok (.getfield 14, 3) := by decide +kernel
theorem dX10_feed_18 : decode cX10_feed 18 = .ok (.iload_n 1, 1) := by decide +kernel
theorem dX10_feed_19 : decode cX10_feed 19 = .ok (.invokevirtual 96, 3) := by decide +kernel
theorem dX10_feed_22 : decode cX10_feed 22 = .ok (.aload_n 0, 1) := by decide +kernel
theorem dX10_feed_23 : decode cX10_feed 23 = .ok (.getfield 14, 3) := by decide +kernel
theorem dX10_feed_26 : decode cX10_feed 26 = .ok (.iload_n 2, 1) := by decide +kernel
theorem dX10_feed_27 : decode cX10_feed 27 = .ok (.invokevirtual 96, 3) := by decide +kernel
theorem dX10_feed_30 : decode cX10_feed 30 = .ok (.aload_n 0, 1) := by decide +kernel
theorem dX10_feed_31 : decode cX10_feed 31 = .ok (.getfield 14, 3) := by decide +kernel
theorem dX10_feed_34 : decode cX10_feed 34 = .ok (.iload_n 3, 1) := by decide +kernel
theorem dX10_feed_35 : decode cX10_feed 35 = .ok (.invokevirtual 96, 3) := by decide +kernel
theorem dX10_feed_38 : decode cX10_feed 38 = .ok (.aload_n 0, 1) := by decide +kernel
theorem dX10_feed_39 : decode cX10_feed 39 = .ok (.getfield 14, 3) := by decide +kernel
theorem dX10_feed_42 : decode cX10_feed 42 = .ok (.iload 4, 2) := by decide +kernel
theorem dX10_feed_44 : decode cX10_feed 44 = .ok (.invokevirtual 96, 3) := by decide +kernel
theorem dX10_feed_47 : decode cX10_feed 47 = .ok (.aload_n 0, 1) := by decide +kernel
theorem dX10_feed_48 : decode cX10_feed 48 = .ok (.getfield 14, 3) := by decide +kernel
theorem dX10_feed_51 : decode cX10_feed 51 = .ok (.iload 5, 2) := by decide +kernel
theorem dX10_feed_53 : decode cX10_feed 53 = .ok (.invokevirtual 96, 3) := by decide +kernel
theorem dX10_feed_56 : decode cX10_feed 56 = .ok (.aload_n 0, 1) := by decide +kernel
theorem dX10_feed_57 : decode cX10_feed 57 = .ok (.getfield 14, 3) := by decide +kernel
theorem dX10_feed_60 : decode cX10_feed 60 = .ok (.getfield 99, 3) := by decide +kernel
theorem dX10_feed_63 : decode cX10_feed 63 = .ok (.ireturn, 1) := by decide +kernel
theorem dX10_make_0 : decode cX10_make 0 = .ok (.iload_n 1, 1) := by decide +kernel
theorem dX10_make_1 : decode cX10_make 1 = .ok (.iconst 1, 1) := by decide +kernel
theorem dX10_make_2 : decode cX10_make 2 = .ok (.if_icmp .lt 28, 3) := by decide +kernel
theorem dX10_make_5 : decode cX10_make 5 = .ok (.iload_n 1, 1) := by decide +kernel
theorem dX10_make_6 : decode cX10_make 6 = .ok (.iconst 4, 1) := by decide +kernel
theorem dX10_make_7 : decode cX10_make 7 = .ok (.if_icmp .gt 23, 3) := by decide +kernel
theorem dX10_make_10 : decode cX10_make 10 = .ok (.iload_n 1, 1) := by decide +kernel
theorem dX10_make_11 : decode cX10_make 11 = .ok (.aload_n 0, 1) := by decide +kernel
theorem dX10_make_12 : decode cX10_make 12 = .ok (.getfield 14, 3) := by decide +kernel
theorem dX10_make_15 : decode cX10_make 15 = .ok (.getfield 99, 3) := by decide +kernel
theorem dX10_make_18 : decode cX10_make 18 = .ok (.if_icmp .gt 12, 3) := by decide +kernel
theorem dX10_make_21 : decode cX10_make 21 = .ok (.aload_n 0, 1) := by decide +kernel
theorem dX10_make_22 : decode cX10_make 22 = .ok (.getfield 78, 3) := by decide +kernel
theorem dX10_make_25 : decode cX10_make 25 = .ok (.bipush 12, 2) := by decide +kernel
theorem dX10_make_27 : decode cX10_make 27 = .ok (.if_icmp .lt 5, 3) := by decide +kernel
theorem dX10_make_30 : decode cX10_make 30 = .ok (.iconst (-1), 1) := by decide +kernel
theorem dX10_make_31 : decode cX10_make 31 = .ok (.ireturn, 1) := by decide +kernel
theorem dX10_make_32 : decode cX10_make 32 = .ok (.iload_n 2, 1) := by decide +kernel
theorem dX10_make_33 : decode cX10_make 33 = .ok (.invokestatic 102, 3) := by decide +kernel
theorem dX10_make_36 : decode cX10_make 36 = .ok (.ifCond .eq 14, 3) := by decide +kernel
theorem dX10_make_39 : decode cX10_make 39 = .ok (.iload 4, 2) := by decide +kernel
theorem dX10_make_41 : decode cX10_make 41 = .ok (.ifCond .lt 9, 3) := by decide +kernel
theorem dX10_make_44 : decode cX10_make 44 = .ok (.iload 4, 2) := by decide +kernel
theorem dX10_make_46 : decode cX10_make 46 = .ok (.iconst 3, 1) := by decide +kernel
theorem dX10_make_47 : decode cX10_make 47 = .ok (.if_icmp .le 5, 3) := by decide +kernel
theorem dX10_make_50 : decode cX10_make 50 = .ok (.iconst (-1), 1) := by decide +kernel
theorem dX10_make_51 : decode cX10_make 51 = .ok (.ireturn, 1) := by decide +kernel
theorem dX10_make_52 : decode cX10_make 52 = .ok (.aload_n 0, 1) := by decide +kernel
theorem dX10_make_53 : decode cX10_make 53 = .ok (.getfield 78, 3) := by decide +kernel
theorem dX10_make_56 : decode cX10_make 56 = .ok (.istore 5, 2) := by decide +kernel
theorem dX10_make_58 : decode cX10_make 58 = .ok (.aload_n 0, 1) := by decide +kernel
theorem dX10_make_59 : decode cX10_make 59 = .ok (.getfield 23, 3) := by decide +kernel
theorem dX10_make_62 : decode cX10_make 62 = .ok (.iload 5, 2) := by decide +kernel
theorem dX10_make_64 : decode cX10_make 64 = .ok (.new 21, 3) := by decide +kernel
theorem dX10_make_67 : decode cX10_make 67 = .ok (.dup, 1) := by decide +kernel
theorem dX10_make_68 : decode cX10_make 68 = .ok (.aload_n 0, 1) := by decide +kernel
theorem dX10_make_69 : decode cX10_make 69 = .ok (.getfield 14, 3) := by decide +kernel
theorem dX10_make_72 : decode cX10_make 72 = .ok (.iload_n 1, 1) := by decide +kernel
theorem dX10_make_73 : decode cX10_make 73 = .ok (.invokevirtual 106, 3) := by decide +kernel
theorem dX10_make_76 : decode cX10_make 76 = .ok (.iload_n 2, 1) := by decide +kernel
theorem dX10_make_77 : decode cX10_make 77 = .ok (.iload_n 3, 1) := by decide +kernel
theorem dX10_make_78 : decode cX10_make 78 = .ok (.iload 4, 2) := by decide +kernel
theorem dX10_make_80 : decode cX10_make 80 = .ok (.invokespecial 110, 3) := by decide +kernel
theorem dX10_make_83 : decode cX10_make 83 = .ok (.aastore, 1) := by decide +kernel
theorem dX10_make_84 : decode cX10_make 84 = .ok (.aload_n 0, 1) := by decide +kernel
theorem dX10_make_85 : decode cX10_make 85 = .ok (.dup, 1) := by decide +kernel
theorem dX10_make_86 : decode cX10_make 86 = .ok (.getfield 78, 3) := by decide +kernel
theorem dX10_make_89 : decode cX10_make 89 = .ok (.iconst 1, 1) := by decide +kernel
theorem dX10_make_90 : decode cX10_make 90 = .ok (.iadd, 1) := by decide +kernel
theorem dX10_make_91 : decode cX10_make 91 = .ok (.putfield 78, 3) := by decide +kernel
theorem dX10_make_94 : decode cX10_make 94 = .ok (.aload_n 0, 1) := by decide +kernel
theorem dX10_make_95 : decode cX10_make 95 = .ok (.getfield 14, 3) := by decide +kernel
theorem dX10_make_98 : decode cX10_make 98 = .ok (.invokevirtual 113, 3) := by decide +kernel
theorem dX10_make_101 : decode cX10_make 101 = .ok (.iconst 0, 1) := by decide +kernel
theorem dX10_make_102 : decode cX10_make 102 = .ok (.istore 6, 2) := by decide +kernel
theorem dX10_make_104 : decode cX10_make 104 = .ok (.iload 6, 2) := by decide +kernel
theorem dX10_make_106 : decode cX10_make 106 = .ok (.aload_n 0, 1) := by decide +kernel
theorem dX10_make_107 : decode cX10_make 107 = .ok (.getfield 82, 3) := by decide +kernel
theorem dX10_make_110 : decode cX10_make 110 = .ok (.if_icmp .ge 22, 3) := by decide +kernel
theorem dX10_make_113 : decode cX10_make 113 = .ok (.aload_n 0, 1) := by decide +kernel
theorem dX10_make_114 : decode cX10_make 114 = .ok (.aload_n 0, 1) := by decide +kernel
theorem dX10_make_115 : decode cX10_make 115 = .ok (.getfield 29, 3) := by decide +kernel
theorem dX10_make_118 : decode cX10_make 118 = .ok (.iload 6, 2) := by decide +kernel
theorem dX10_make_120 : decode cX10_make 120 = .ok (.aaload, 1) := by decide +kernel
theorem dX10_make_121 : decode cX10_make 121 = .ok (.iload 5, 2) := by decide +kernel
theorem dX10_make_123 : decode cX10_make 123 = .ok (.invokevirtual 116, 3) := by decide +kernel
theorem dX10_make_126 : decode cX10_make 126 = .ok (.iinc 6 1, 3) := by decide +kernel
theorem dX10_make_129 : decode cX10_make 129 = .ok (.goto (-25), 3) := by decide +kernel
theorem dX10_make_132 : decode cX10_make 132 = .ok (.iload 5, 2) := by decide +kernel
theorem dX10_make_134 : decode cX10_make 134 = .ok (.ireturn, 1) := by decide +kernel
theorem dX10_file_0 : decode cX10_file 0 = .ok (.iload_n 1, 1) := by decide +kernel
theorem dX10_file_1 : decode cX10_file 1 = .ok (.iconst 1, 1) := by decide +kernel
theorem dX10_file_2 : decode cX10_file 2 = .ok (.if_icmp .lt 29, 3) := by decide +kernel
theorem dX10_file_5 : decode cX10_file 5 = .ok (.iload_n 1, 1) := by decide +kernel
theorem dX10_file_6 : decode cX10_file 6 = .ok (.bipush 60, 2) := by decide +kernel
theorem dX10_file_8 : decode cX10_file 8 = .ok (.if_icmp .gt 23, 3) := by decide +kernel
theorem dX10_file_11 : decode cX10_file 11 = .ok (.iload_n 1, 1) := by decide +kernel
theorem dX10_file_12 : decode cX10_file 12 = .ok (.aload_n 0, 1) := by decide +kernel
theorem dX10_file_13 : decode cX10_file 13 = .ok (.getfield 14, 3) := by decide +kernel
theorem dX10_file_16 : decode cX10_file 16 = .ok (.getfield 99, 3) := by decide +kernel
theorem dX10_file_19 : decode cX10_file 19 = .ok (.if_icmp .gt 12, 3) := by decide +kernel
theorem dX10_file_22 : decode cX10_file 22 = .ok (.aload_n 0, 1) := by decide +kernel
theorem dX10_file_23 : decode cX10_file 23 = .ok (.getfield 82, 3) := by decide +kernel
theorem dX10_file_26 : decode cX10_file 26 = .ok (.bipush 40, 2) := by decide +kernel
theorem dX10_file_28 : decode cX10_file 28 = .ok (.if_icmp .lt 5, 3) := by decide +kernel
theorem dX10_file_31 : decode cX10_file 31 = .ok (.iconst (-1), 1) := by decide +kernel
theorem dX10_file_32 : decode cX10_file 32 = .ok (.ireturn, 1) := by decide +kernel
theorem dX10_file_33 : decode cX10_file 33 = .ok (.aload_n 0, 1) := by decide +kernel
theorem dX10_file_34 : decode cX10_file 34 = .ok (.aload_n 0, 1) := by decide +kernel
theorem dX10_file_35 : decode cX10_file 35 = .ok (.getfield 14, 3) := by decide +kernel
theorem dX10_file_38 : decode cX10_file 38 = .ok (.iload_n 1, 1) := by decide +kernel
theorem dX10_file_39 : decode cX10_file 39 = .ok (.invokevirtual 106, 3) := by decide +kernel
theorem dX10_file_42 : decode cX10_file 42 = .ok (.iconst (-1), 1) := by decide +kernel
theorem dX10_file_43 : decode cX10_file 43 = .ok (.aload_n 0, 1) := by decide +kernel
theorem dX10_file_44 : decode cX10_file 44 = .ok (.getfield 82, 3) := by decide +kernel
theorem dX10_file_47 : decode cX10_file 47 = .ok (.invokevirtual 120, 3) := by decide +kernel
theorem dX10_file_50 : decode cX10_file 50 = .ok (.istore_n 2, 1) := by decide +kernel
theorem dX10_file_51 : decode cX10_file 51 = .ok (.aload_n 0, 1) := by decide +kernel
theorem dX10_file_52 : decode cX10_file 52 = .ok (.getfield 14, 3) := by decide +kernel
theorem dX10_file_55 : decode cX10_file 55 = .ok (.invokevirtual 113, 3) := by decide +kernel
theorem dX10_file_58 : decode cX10_file 58 = .ok (.iload_n 2, 1) := by decide +kernel
theorem dX10_file_59 : decode cX10_file 59 = .ok (.ireturn, 1) := by decide +kernel
theorem dX10_must_0 : decode cX10_must 0 = .ok (.aload_n 0, 1) := by decide +kernel
theorem dX10_must_1 : decode cX10_must 1 = .ok (.iload_n 1, 1) := by decide +kernel
theorem dX10_must_2 : decode cX10_must 2 = .ok (.invokevirtual 124, 3) := by decide +kernel
theorem dX10_must_5 : decode cX10_must 5 = .ok (.astore_n 3, 1) := by decide +kernel
theorem dX10_must_6 : decode cX10_must 6 = .ok (.aload_n 3, 1) := by decide +kernel
theorem dX10_must_7 : decode cX10_must 7 = .ok (.ifnull 10, 3) := by decide +kernel
theorem dX10_must_10 : decode cX10_must 10 = .ok (.iload_n 2, 1) := by decide +kernel
theorem dX10_must_11 : decode cX10_must 11 = .ok (.invokestatic 102, 3) := by decide +kernel
theorem dX10_must_14 : decode cX10_must 14 = .ok (.ifCond .ne 5, 3) := by decide +kernel
theorem dX10_must_17 : decode cX10_must 17 = .ok (.iconst 0, 1) := by decide +kernel
theorem dX10_must_18 : decode cX10_must 18 = .ok (.ireturn, 1) := by decide +kernel
theorem dX10_must_19 : decode cX10_must 19 = .ok (.aload_n 3, 1) := by decide +kernel
theorem dX10_must_20 : decode cX10_must 20 = .ok (.iload_n 2, 1) := by decide +kernel
theorem dX10_must_21 : decode cX10_must 21 = .ok (.putfield 128, 3) := by decide +kernel
theorem dX10_must_24 : decode cX10_must 24 = .ok (.iconst 1, 1) := by decide +kernel
theorem dX10_must_25 : decode cX10_must 25 = .ok (.ireturn, 1) := by decide +kernel
theorem dX10_machine_0 : decode cX10_machine 0 = .ok (.aload_n 0, 1) := by decide +kernel
theorem dX10_machine_1 : decode cX10_machine 1 = .ok (.getfield 36, 3) := by decide +kernel
theorem dX10_machine_4 : decode cX10_machine 4 = .ok (.iload_n 1, 1) := by decide +kernel
theorem dX10_machine_5 : decode cX10_machine 5 = .ok (.invokevirtual 131, 3) := by decide +kernel
theorem dX10_machine_8 : decode cX10_machine 8 = .ok (.ifCond .eq 22, 3) := by decide +kernel
theorem dX10_machine_11 : decode cX10_machine 11 = .ok (.iload_n 2, 1) := by decide +kernel
theorem dX10_machine_12 : decode cX10_machine 12 = .ok (.invokestatic 134, 3) := by decide +kernel
theorem dX10_machine_15 : decode cX10_machine 15 = .ok (.ifCond .eq 15, 3) := by decide +kernel
theorem dX10_machine_18 : decode cX10_machine 18 = .ok (.iload_n 3, 1) := by decide +kernel
theorem dX10_machine_19 : decode cX10_machine 19 = .ok (.invokestatic 134, 3) := by decide +kernel
theorem dX10_machine_22 : decode cX10_machine 22 = .ok (.ifCond .eq 8, 3) := by decide +kernel
theorem dX10_machine_25 : decode cX10_machine 25 = .ok (.iload_n 3, 1) := by decide +kernel
theorem dX10_machine_26 : decode cX10_machine 26 = .ok (.iload_n 2, 1) := by decide +kernel
theorem dX10_machine_27 : decode cX10_machine 27 = .ok (.if_icmp .ge 5, 3) := by decide +kernel
theorem dX10_machine_30 : decode cX10_machine 30 = .ok (.iconst 0, 1) := by decide +kernel
theorem dX10_machine_31 : decode cX10_machine 31 = .ok (.ireturn, 1) := by decide +kernel
theorem dX10_machine_32 : decode cX10_machine 32 = .ok (.aload_n 0, 1) := by decide +kernel
theorem dX10_machine_33 : decode cX10_machine 33 = .ok (.getfield 36, 3) := by decide +kernel
theorem dX10_machine_36 : decode cX10_machine 36 = .ok (.iload_n 1, 1) := by decide +kernel
theorem dX10_machine_37 : decode cX10_machine 37 = .ok (.iload_n 2, 1) := by decide +kernel
theorem dX10_machine_38 : decode cX10_machine 38 = .ok (.iload_n 3, 1) := by decide +kernel
theorem dX10_machine_39 : decode cX10_machine 39 = .ok (.invokevirtual 137, 3) := by decide +kernel
theorem dX10_machine_42 : decode cX10_machine 42 = .ok (.iconst 1, 1) := by decide +kernel
theorem dX10_machine_43 : decode cX10_machine 43 = .ok (.ireturn, 1) := by decide +kernel
theorem dX10_reader_0 : decode cX10_reader 0 = .ok (.aload_n 0, 1) := by decide +kernel
theorem dX10_reader_1 : decode cX10_reader 1 = .ok (.iload_n 1, 1) := by decide +kernel
theorem dX10_reader_2 : decode cX10_reader 2 = .ok (.invokevirtual 141, 3) := by decide +kernel
theorem dX10_reader_5 : decode cX10_reader 5 = .ok (.ifnull 14, 3) := by decide +kernel
theorem dX10_reader_8 : decode cX10_reader 8 = .ok (.aload_n 0, 1) := by decide +kernel
theorem dX10_reader_9 : decode cX10_reader 9 = .ok (.getfield 36, 3) := by decide +kernel
theorem dX10_reader_12 : decode cX10_reader 12 = .ok (.iload_n 2, 1) := by decide +kernel
theorem dX10_reader_13 : decode cX10_reader 13 = .ok (.invokevirtual 131, 3) := by decide +kernel
theorem dX10_reader_16 : decode cX10_reader 16 = .ok (.ifCond .ne 5, 3) := by decide +kernel
theorem dX10_reader_19 : decode cX10_reader 19 = .ok (.iconst 0, 1) := by decide +kernel
theorem dX10_reader_20 : decode cX10_reader 20 = .ok (.ireturn, 1) := by decide +kernel
theorem dX10_reader_21 : decode cX10_reader 21 = .ok (.aload_n 0, 1) := by decide +kernel
theorem dX10_reader_22 : decode cX10_reader 22 = .ok (.getfield 43, 3) := by decide +kernel
theorem dX10_reader_25 : decode cX10_reader 25 = .ok (.iload_n 1, 1) := by decide +kernel
theorem dX10_reader_26 : decode cX10_reader 26 = .ok (.iload_n 2, 1) := by decide +kernel
theorem dX10_reader_27 : decode cX10_reader 27 = .ok (.invokevirtual 145, 3) := by decide +kernel
theorem dX10_reader_30 : decode cX10_reader 30 = .ok (.ireturn, 1) := by decide +kernel
theorem dX10_turner_0 : decode cX10_turner 0 = .ok (.aload_n 0, 1) := by decide +kernel
theorem dX10_turner_1 : decode cX10_turner 1 = .ok (.iload_n 2, 1) := by decide +kernel
theorem dX10_turner_2 : decode cX10_turner 2 = .ok (.invokevirtual 141, 3) := by decide +kernel
theorem dX10_turner_5 : decode cX10_turner 5 = .ok (.astore 6, 2) := by decide +kernel
theorem dX10_turner_7 : decode cX10_turner 7 = .ok (.aload_n 0, 1) := by decide +kernel
theorem dX10_turner_8 : decode cX10_turner 8 = .ok (.iload_n 1, 1) := by decide +kernel
theorem dX10_turner_9 : decode cX10_turner 9 = .ok (.invokevirtual 141, 3) := by decide +kernel
theorem dX10_turner_12 : decode cX10_turner 12 = .ok (.ifnull 13, 3) := by decide +kernel
theorem dX10_turner_15 : decode cX10_turner 15 = .ok (.aload 6, 2) := by decide +kernel
theorem dX10_turner_17 : decode cX10_turner 17 = .ok (.ifnull 8, 3) := by decide +kernel
theorem dX10_turner_20 : decode cX10_turner 20 = .ok (.iload_n 1, 1) := by decide +kernel
theorem dX10_turner_21 : decode cX10_turner 21 = .ok (.iload_n 2, 1) := by decide +kernel
theorem dX10_turner_22 : decode cX10_turner 22 = .ok (.if_icmp .ne 5, 3) := by decide +kernel
theorem dX10_turner_25 : decode cX10_turner 25 = .ok (.iconst (-1), 1) := by decide +kernel
theorem dX10_turner_26 : decode cX10_turner 26 = .ok (.ireturn, 1) := by decide +kernel
theorem dX10_turner_27 : decode cX10_turner 27 = .ok (.iload_n 3, 1) := by decide +kernel
theorem dX10_turner_28 : decode cX10_turner 28 = .ok (.invokestatic 102, 3) := by decide +kernel
theorem dX10_turner_31 : decode cX10_turner 31 = .ok (.ifCond .eq 28, 3) := by decide +kernel
theorem dX10_turner_34 : decode cX10_turner 34 = .ok (.iload 4, 2) := by decide +kernel
theorem dX10_turner_36 : decode cX10_turner 36 = .ok (.ifCond .lt 23, 3) := by decide +kernel
theorem dX10_turner_39 : decode cX10_turner 39 = .ok (.iload 4, 2) := by decide +kernel
theorem dX10_turner_41 : decode cX10_turner 41 = .ok (.sipush 9999, 3) := by decide +kernel
theorem dX10_turner_44 : decode cX10_turner 44 = .ok (.if_icmp .gt 15, 3) := by decide +kernel
theorem dX10_turner_47 : decode cX10_turner 47 = .ok (.aload_n 0, 1) := by decide +kernel
theorem dX10_turner_48 : decode cX10_turner 48 = .ok (.getfield 36, 3) := by decide +kernel
theorem dX10_turner_51 : decode cX10_turner 51 = .ok (.iload 5, 2) := by decide +kernel
theorem dX10_turner_53 : decode cX10_turner 53 = .ok (.invokevirtual 131, 3) := by decide +kernel
theorem dX10_turner_56 : decode cX10_turner 56 = .ok (.ifCond .ne 5, 3) := by decide +kernel
theorem dX10_turner_59 : decode cX10_turner 59 = .ok (.iconst (-1), 1) := by decide +kernel
theorem dX10_turner_60 : decode cX10_turner 60 = .ok (.ireturn, 1) := by decide +kernel
theorem dX10_turner_61 : decode cX10_turner 61 = .ok (.aload_n 0, 1) := by decide +kernel
theorem dX10_turner_62 : decode cX10_turner 62 = .ok (.getfield 50, 3) := by decide +kernel
theorem dX10_turner_65 : decode cX10_turner 65 = .ok (.iload_n 1, 1) := by decide +kernel
theorem dX10_turner_66 : decode cX10_turner 66 = .ok (.iload_n 2, 1) := by decide +kernel
theorem dX10_turner_67 : decode cX10_turner 67 = .ok (.aload 6, 2) := by decide +kernel
theorem dX10_turner_69 : decode cX10_turner 69 = .ok (.getfield 149, 3) := by decide +kernel
theorem dX10_turner_72 : decode cX10_turner 72 = .ok (.iload_n 3, 1) := by decide +kernel
theorem dX10_turner_73 : decode cX10_turner 73 = .ok (.iconst (-1), 1) := by decide +kernel
theorem dX10_turner_74 : decode cX10_turner 74 = .ok (.ixor, 1) := by decide +kernel
theorem dX10_turner_75 : decode cX10_turner 75 = .ok (.iand, 1) := by decide +kernel
theorem dX10_turner_76 : decode cX10_turner 76 = .ok (.iload 4, 2) := by decide +kernel
theorem dX10_turner_78 : decode cX10_turner 78 = .ok (.iload 5, 2) := by decide +kernel
theorem dX10_turner_80 : decode cX10_turner 80 = .ok (.invokevirtual 152, 3) := by decide +kernel
theorem dX10_turner_83 : decode cX10_turner 83 = .ok (.ireturn, 1) := by decide +kernel
theorem dX10_year_0 : decode cX10_year 0 = .ok (.aload_n 0, 1) := by decide +kernel
theorem dX10_year_1 : decode cX10_year 1 = .ok (.iload_n 1, 1) := by decide +kernel
theorem dX10_year_2 : decode cX10_year 2 = .ok (.invokevirtual 155, 3) := by decide +kernel
theorem dX10_year_5 : decode cX10_year 5 = .ok (.ifCond .ne 5, 3) := by decide +kernel
theorem dX10_year_8 : decode cX10_year 8 = .ok (.iconst 0, 1) := by decide +kernel
theorem dX10_year_9 : decode cX10_year 9 = .ok (.ireturn, 1) := by decide +kernel
theorem dX10_year_10 : decode cX10_year 10 = .ok (.aload_n 0, 1) := by decide +kernel
theorem dX10_year_11 : decode cX10_year 11 = .ok (.iload_n 1, 1) := by decide +kernel
theorem dX10_year_12 : decode cX10_year 12 = .ok (.putfield 85, 3) := by decide +kernel
theorem dX10_year_15 : decode cX10_year 15 = .ok (.iconst 1, 1) := by decide +kernel
theorem dX10_year_16 : decode cX10_year 16 = .ok (.ireturn, 1) := by decide +kernel
theorem dX10_bends_0 : decode cX10_bends 0 = .ok (.aload_n 0, 1) := by decide +kernel
theorem dX10_bends_1 : decode cX10_bends 1 = .ok (.iload_n 1, 1) := by decide +kernel
theorem dX10_bends_2 : decode cX10_bends 2 = .ok (.invokevirtual 124, 3) := by decide +kernel
theorem dX10_bends_5 : decode cX10_bends 5 = .ok (.astore_n 3, 1) := by decide +kernel
theorem dX10_bends_6 : decode cX10_bends 6 = .ok (.aload_n 0, 1) := by decide +kernel
theorem dX10_bends_7 : decode cX10_bends 7 = .ok (.iload_n 2, 1) := by decide +kernel
theorem dX10_bends_8 : decode cX10_bends 8 = .ok (.invokevirtual 141, 3) := by decide +kernel
theorem dX10_bends_11 : decode cX10_bends 11 = .ok (.astore 4, 2) := by decide +kernel
theorem dX10_bends_13 : decode cX10_bends 13 = .ok (.aload_n 3, 1) := by decide +kernel
theorem dX10_bends_14 : decode cX10_bends 14 = .ok (.ifnull 8, 3) := by decide +kernel
theorem dX10_bends_17 : decode cX10_bends 17 = .ok (.aload 4, 2) := by decide +kernel
theorem dX10_bends_19 : decode cX10_bends 19 = .ok (.ifnonnull 5, 3) := by decide +kernel
theorem dX10_bends_22 : decode cX10_bends 22 = .ok (.iconst (-1), 1) := by decide +kernel
theorem dX10_bends_23 : decode cX10_bends 23 = .ok (.ireturn, 1) := by decide +kernel
theorem dX10_bends_24 : decode cX10_bends 24 = .ok (.aload_n 0, 1) := by decide +kernel
theorem dX10_bends_25 : decode cX10_bends 25 = .ok (.getfield 71, 3) := by decide +kernel
theorem dX10_bends_28 : decode cX10_bends 28 = .ok (.aload 4, 2) := by decide +kernel
theorem dX10_bends_30 : decode cX10_bends 30 = .ok (.aload_n 3, 1) := by decide +kernel
theorem dX10_bends_31 : decode cX10_bends 31 = .ok (.getfield 158, 3) := by decide +kernel
theorem dX10_bends_34 : decode cX10_bends 34 = .ok (.invokevirtual 162, 3) := by decide +kernel
theorem dX10_bends_37 : decode cX10_bends 37 = .ok (.aload_n 0, 1) := by decide +kernel
theorem dX10_bends_38 : decode cX10_bends 38 = .ok (.getfield 71, 3) := by decide +kernel
theorem dX10_bends_41 : decode cX10_bends 41 = .ok (.getfield 166, 3) := by decide +kernel
theorem dX10_bends_44 : decode cX10_bends 44 = .ok (.ireturn, 1) := by decide +kernel
theorem dX10_know_0 : decode cX10_know 0 = .ok (.aload_n 0, 1) := by decide +kernel
theorem dX10_know_1 : decode cX10_know 1 = .ok (.iload_n 1, 1) := by decide +kernel
theorem dX10_know_2 : decode cX10_know 2 = .ok (.invokevirtual 124, 3) := by decide +kernel
theorem dX10_know_5 : decode cX10_know 5 = .ok (.astore_n 2, 1) := by decide +kernel
theorem dX10_know_6 : decode cX10_know 6 = .ok (.aload_n 2, 1) := by decide +kernel
theorem dX10_know_7 : decode cX10_know 7 = .ok (.ifnonnull 7, 3) := by decide +kernel
theorem dX10_know_10 : decode cX10_know 10 = .ok (.iconst (-1), 1) := by decide +kernel
theorem dX10_know_11 : decode cX10_know 11 = .ok (.goto 7, 3) := by decide +kernel
theorem dX10_know_14 : decode cX10_know 14 = .ok (.aload_n 2, 1) := by decide +kernel
theorem dX10_know_15 : decode cX10_know 15 = .ok (.getfield 169, 3) := by decide +kernel
theorem dX10_know_18 : decode cX10_know 18 = .ok (.ireturn, 1) := by decide +kernel
theorem dX10_record_0 : decode cX10_record 0 = .ok (.aload_n 0, 1) := by decide +kernel
theorem dX10_record_1 : decode cX10_record 1 = .ok (.iload_n 1, 1) := by decide +kernel
theorem dX10_record_2 : decode cX10_record 2 = .ok (.invokevirtual 124, 3) := by decide +kernel
theorem dX10_record_5 : decode cX10_record 5 = .ok (.astore 4, 2) := by decide +kernel
theorem dX10_record_7 : decode cX10_record 7 = .ok (.aload 4, 2) := by decide +kernel
theorem dX10_record_9 : decode cX10_record 9 = .ok (.ifnonnull 5, 3) := by decide +kernel
theorem dX10_record_12 : decode cX10_record 12 = .ok (.iconst (-1), 1) := by decide +kernel
theorem dX10_record_13 : decode cX10_record 13 = .ok (.ireturn, 1) := by decide +kernel
theorem dX10_record_14 : decode cX10_record 14 = .ok (.aload_n 0, 1) := by decide +kernel
theorem dX10_record_15 : decode cX10_record 15 = .ok (.aload 4, 2) := by decide +kernel
theorem dX10_record_17 : decode cX10_record 17 = .ok (.aload_n 0, 1) := by decide +kernel
theorem dX10_record_18 : decode cX10_record 18 = .ok (.getfield 71, 3) := by decide +kernel
theorem dX10_record_21 : decode cX10_record 21 = .ok (.invokevirtual 172, 3) := by decide +kernel
theorem dX10_record_24 : decode cX10_record 24 = .ok (.iload_n 2, 1) := by decide +kernel
theorem dX10_record_25 : decode cX10_record 25 = .ok (.ifCond .lt 14, 3) := by decide +kernel
theorem dX10_record_28 : decode cX10_record 28 = .ok (.iload_n 2, 1) := by decide +kernel
theorem dX10_record_29 : decode cX10_record 29 = .ok (.aload_n 0, 1) := by decide +kernel
theorem dX10_record_30 : decode cX10_record 30 = .ok (.getfield 71, 3) := by decide +kernel
theorem dX10_record_33 : decode cX10_record 33 = .ok (.getfield 176, 3) := by decide +kernel
theorem dX10_record_36 : decode cX10_record 36 = .ok (.if_icmp .lt 5, 3) := by decide +kernel
theorem dX10_record_39 : decode cX10_record 39 = .ok (.iconst (-1), 1) := by decide +kernel
theorem dX10_record_40 : decode cX10_record 40 = .ok (.ireturn, 1) := by decide +kernel
theorem dX10_record_41 : decode cX10_record 41 = .ok (.iload_n 3, 1) := by decide +kernel
theorem dX10_record_42 : decode cX10_record 42 = .ok (.tableswitch 56 0 2 #[26, 36, 46], 26) := by decide +kernel
theorem dX10_record_68 : decode cX10_record 68 = .ok (.aload_n 0, 1) := by decide +kernel
theorem dX10_record_69 : decode cX10_record 69 = .ok (.getfield 71, 3) := by decide +kernel
theorem dX10_record_72 : decode cX10_record 72 = .ok (.getfield 177, 3) := by decide +kernel
theorem dX10_record_75 : decode cX10_record 75 = .ok (.iload_n 2, 1) := by decide +kernel
theorem dX10_record_76 : decode cX10_record 76 = .ok (.iaload, 1) := by decide +kernel
theorem dX10_record_77 : decode cX10_record 77 = .ok (.ireturn, 1) := by decide +kernel
theorem dX10_record_78 : decode cX10_record 78 = .ok (.aload_n 0, 1) := by decide +kernel
theorem dX10_record_79 : decode cX10_record 79 = .ok (.getfield 71, 3) := by decide +kernel
theorem dX10_record_82 : decode cX10_record 82 = .ok (.getfield 180, 3) := by decide +kernel
theorem dX10_record_85 : decode cX10_record 85 = .ok (.iload_n 2, 1) := by decide +kernel
theorem dX10_record_86 : decode cX10_record 86 = .ok (.iaload, 1) := by decide +kernel
theorem dX10_record_87 : decode cX10_record 87 = .ok (.ireturn, 1) := by decide +kernel
theorem dX10_record_88 : decode cX10_record 88 = .ok (.aload_n 0, 1) := by decide +kernel
theorem dX10_record_89 : decode cX10_record 89 = .ok (.getfield 71, 3) := by decide +kernel
theorem dX10_record_92 : decode cX10_record 92 = .ok (.getfield 183, 3) := by decide +kernel
theorem dX10_record_95 : decode cX10_record 95 = .ok (.iload_n 2, 1) := by decide +kernel
theorem dX10_record_96 : decode cX10_record 96 = .ok (.iaload, 1) := by decide +kernel
theorem dX10_record_97 : decode cX10_record 97 = .ok (.ireturn, 1) := by decide +kernel
theorem dX10_record_98 : decode cX10_record 98 = .ok (.iconst (-1), 1) := by decide +kernel
theorem dX10_record_99 : decode cX10_record 99 = .ok (.ireturn, 1) := by decide +kernel
theorem dX10_turn_0 : decode cX10_turn 0 = .ok (.aload_n 0, 1) := by decide +kernel
theorem dX10_turn_1 : decode cX10_turn 1 = .ok (.iload_n 1, 1) := by decide +kernel
theorem dX10_turn_2 : decode cX10_turn 2 = .ok (.invokevirtual 124, 3) := by decide +kernel
theorem dX10_turn_5 : decode cX10_turn 5 = .ok (.astore_n 3, 1) := by decide +kernel
theorem dX10_turn_6 : decode cX10_turn 6 = .ok (.aload_n 0, 1) := by decide +kernel
theorem dX10_turn_7 : decode cX10_turn 7 = .ok (.getfield 50, 3) := by decide +kernel
theorem dX10_turn_10 : decode cX10_turn 10 = .ok (.iload_n 2, 1) := by decide +kernel
theorem dX10_turn_11 : decode cX10_turn 11 = .ok (.invokevirtual 186, 3) := by decide +kernel
theorem dX10_turn_14 : decode cX10_turn 14 = .ok (.astore 4, 2) := by decide +kernel
theorem dX10_turn_16 : decode cX10_turn 16 = .ok (.aload_n 3, 1) := by decide +kernel
theorem dX10_turn_17 : decode cX10_turn 17 = .ok (.ifnull 20, 3) := by decide +kernel
theorem dX10_turn_20 : decode cX10_turn 20 = .ok (.aload 4, 2) := by decide +kernel
theorem dX10_turn_22 : decode cX10_turn 22 = .ok (.ifnull 15, 3) := by decide +kernel
theorem dX10_turn_25 : decode cX10_turn 25 = .ok (.aload_n 3, 1) := by decide +kernel
theorem dX10_turn_26 : decode cX10_turn 26 = .ok (.getfield 169, 3) := by decide +kernel
theorem dX10_turn_29 : decode cX10_turn 29 = .ok (.aload 4, 2) := by decide +kernel
theorem dX10_turn_31 : decode cX10_turn 31 = .ok (.getfield 190, 3) := by decide +kernel
theorem dX10_turn_34 : decode cX10_turn 34 = .ok (.if_icmp .eq 5, 3) := by decide +kernel
theorem dX10_turn_37 : decode cX10_turn 37 = .ok (.iconst (-1), 1) := by decide +kernel
theorem dX10_turn_38 : decode cX10_turn 38 = .ok (.ireturn, 1) := by decide +kernel
theorem dX10_turn_39 : decode cX10_turn 39 = .ok (.aload_n 0, 1) := by decide +kernel
theorem dX10_turn_40 : decode cX10_turn 40 = .ok (.getfield 36, 3) := by decide +kernel
theorem dX10_turn_43 : decode cX10_turn 43 = .ok (.aload 4, 2) := by decide +kernel
theorem dX10_turn_45 : decode cX10_turn 45 = .ok (.getfield 195, 3) := by decide +kernel
theorem dX10_turn_48 : decode cX10_turn 48 = .ok (.aload_n 0, 1) := by decide +kernel
theorem dX10_turn_49 : decode cX10_turn 49 = .ok (.getfield 85, 3) := by decide +kernel
theorem dX10_turn_52 : decode cX10_turn 52 = .ok (.invokevirtual 198, 3) := by decide +kernel
theorem dX10_turn_55 : decode cX10_turn 55 = .ok (.ifCond .eq 12, 3) := by decide +kernel
theorem dX10_turn_58 : decode cX10_turn 58 = .ok (.aload_n 0, 1) := by decide +kernel
theorem dX10_turn_59 : decode cX10_turn 59 = .ok (.getfield 82, 3) := by decide +kernel
theorem dX10_turn_62 : decode cX10_turn 62 = .ok (.bipush 40, 2) := by decide +kernel
theorem dX10_turn_64 : decode cX10_turn 64 = .ok (.if_icmp .lt 5, 3) := by decide +kernel
theorem dX10_turn_67 : decode cX10_turn 67 = .ok (.iconst (-1), 1) := by decide +kernel
theorem dX10_turn_68 : decode cX10_turn 68 = .ok (.ireturn, 1) := by decide +kernel
theorem dX10_turn_69 : decode cX10_turn 69 = .ok (.aload_n 0, 1) := by decide +kernel
theorem dX10_turn_70 : decode cX10_turn 70 = .ok (.aload_n 3, 1) := by decide +kernel
theorem dX10_turn_71 : decode cX10_turn 71 = .ok (.aload 4, 2) := by decide +kernel
theorem dX10_turn_73 : decode cX10_turn 73 = .ok (.invokevirtual 201, 3) := by decide +kernel
theorem dX10_turn_76 : decode cX10_turn 76 = .ok (.ifCond .ne 5, 3) := by decide +kernel
theorem dX10_turn_79 : decode cX10_turn 79 = .ok (.iconst (-1), 1) := by decide +kernel
theorem dX10_turn_80 : decode cX10_turn 80 = .ok (.ireturn, 1) := by decide +kernel
theorem dX10_turn_81 : decode cX10_turn 81 = .ok (.aload_n 3, 1) := by decide +kernel
theorem dX10_turn_82 : decode cX10_turn 82 = .ok (.iconst 1, 1) := by decide +kernel
theorem dX10_turn_83 : decode cX10_turn 83 = .ok (.putfield 205, 3) := by decide +kernel
theorem dX10_turn_86 : decode cX10_turn 86 = .ok (.aload_n 0, 1) := by decide +kernel
theorem dX10_turn_87 : decode cX10_turn 87 = .ok (.aload_n 0, 1) := by decide +kernel
theorem dX10_turn_88 : decode cX10_turn 88 = .ok (.getfield 18, 3) := by decide +kernel
theorem dX10_turn_91 : decode cX10_turn 91 = .ok (.aload_n 0, 1) := by decide +kernel
theorem dX10_turn_92 : decode cX10_turn 92 = .ok (.getfield 18, 3) := by decide +kernel
theorem dX10_turn_95 : decode cX10_turn 95 = .ok (.getfield 99, 3) := by decide +kernel
theorem dX10_turn_98 : decode cX10_turn 98 = .ok (.invokevirtual 106, 3) := by decide +kernel
theorem dX10_turn_101 : decode cX10_turn 101 = .ok (.iload_n 1, 1) := by decide +kernel
theorem dX10_turn_102 : decode cX10_turn 102 = .ok (.aload_n 3, 1) := by decide +kernel
theorem dX10_turn_103 : decode cX10_turn 103 = .ok (.getfield 209, 3) := by decide +kernel
theorem dX10_turn_106 : decode cX10_turn 106 = .ok (.invokevirtual 120, 3) := by decide +kernel
theorem dX10_turn_109 : decode cX10_turn 109 = .ok (.ireturn, 1) := by decide +kernel
theorem dX10_kept_0 : decode cX10_kept 0 = .ok (.aload_n 0, 1) := by decide +kernel
theorem dX10_kept_1 : decode cX10_kept 1 = .ok (.iload_n 1, 1) := by decide +kernel
theorem dX10_kept_2 : decode cX10_kept 2 = .ok (.invokevirtual 124, 3) := by decide +kernel
theorem dX10_kept_5 : decode cX10_kept 5 = .ok (.astore_n 3, 1) := by decide +kernel
theorem dX10_kept_6 : decode cX10_kept 6 = .ok (.aload_n 0, 1) := by decide +kernel
theorem dX10_kept_7 : decode cX10_kept 7 = .ok (.iload_n 2, 1) := by decide +kernel
theorem dX10_kept_8 : decode cX10_kept 8 = .ok (.invokevirtual 124, 3) := by decide +kernel
theorem dX10_kept_11 : decode cX10_kept 11 = .ok (.astore 4, 2) := by decide +kernel
theorem dX10_kept_13 : decode cX10_kept 13 = .ok (.aload_n 3, 1) := by decide +kernel
theorem dX10_kept_14 : decode cX10_kept 14 = .ok (.ifnull 8, 3) := by decide +kernel
theorem dX10_kept_17 : decode cX10_kept 17 = .ok (.aload 4, 2) := by decide +kernel
theorem dX10_kept_19 : decode cX10_kept 19 = .ok (.ifnonnull 5, 3) := by decide +kernel
theorem dX10_kept_22 : decode cX10_kept 22 = .ok (.iconst (-1), 1) := by decide +kernel
theorem dX10_kept_23 : decode cX10_kept 23 = .ok (.ireturn, 1) := by decide +kernel
theorem dX10_kept_24 : decode cX10_kept 24 = .ok (.aload_n 0, 1) := by decide +kernel
theorem dX10_kept_25 : decode cX10_kept 25 = .ok (.aload_n 3, 1) := by decide +kernel
theorem dX10_kept_26 : decode cX10_kept 26 = .ok (.aload_n 0, 1) := by decide +kernel
theorem dX10_kept_27 : decode cX10_kept 27 = .ok (.getfield 71, 3) := by decide +kernel
theorem dX10_kept_30 : decode cX10_kept 30 = .ok (.invokevirtual 172, 3) := by decide +kernel
theorem dX10_kept_33 : decode cX10_kept 33 = .ok (.aload_n 0, 1) := by decide +kernel
theorem dX10_kept_34 : decode cX10_kept 34 = .ok (.aload 4, 2) := by decide +kernel
theorem dX10_kept_36 : decode cX10_kept 36 = .ok (.aload_n 0, 1) := by decide +kernel
theorem dX10_kept_37 : decode cX10_kept 37 = .ok (.getfield 75, 3) := by decide +kernel
theorem dX10_kept_40 : decode cX10_kept 40 = .ok (.invokevirtual 172, 3) := by decide +kernel
theorem dX10_kept_43 : decode cX10_kept 43 = .ok (.iconst 0, 1) := by decide +kernel
theorem dX10_kept_44 : decode cX10_kept 44 = .ok (.istore 5, 2) := by decide +kernel
theorem dX10_kept_46 : decode cX10_kept 46 = .ok (.iconst 0, 1) := by decide +kernel
theorem dX10_kept_47 : decode cX10_kept 47 = .ok (.istore 6, 2) := by decide +kernel
theorem dX10_kept_49 : decode cX10_kept 49 = .ok (.iload 6, 2) := by decide +kernel
theorem dX10_kept_51 : decode cX10_kept 51 = .ok (.bipush 12, 2) := by decide +kernel
theorem dX10_kept_53 : decode cX10_kept 53 = .ok (.if_icmp .ge 49, 3) := by decide +kernel
theorem dX10_kept_56 : decode cX10_kept 56 = .ok (.aload_n 0, 1) := by decide +kernel
theorem dX10_kept_57 : decode cX10_kept 57 = .ok (.getfield 71, 3) := by decide +kernel
theorem dX10_kept_60 : decode cX10_kept 60 = .ok (.getfield 212, 3) := by decide +kernel
theorem dX10_kept_63 : decode cX10_kept 63 = .ok (.iload 6, 2) := by decide +kernel
theorem dX10_kept_65 : decode cX10_kept 65 = .ok (.invokestatic 215, 3) := by decide +kernel
theorem dX10_kept_68 : decode cX10_kept 68 = .ok (.ifCond .eq 28, 3) := by decide +kernel
theorem dX10_kept_71 : decode cX10_kept 71 = .ok (.aload_n 0, 1) := by decide +kernel
theorem dX10_kept_72 : decode cX10_kept 72 = .ok (.getfield 71, 3) := by decide +kernel
theorem dX10_kept_75 : decode cX10_kept 75 = .ok (.aload_n 0, 1) := by decide +kernel
theorem dX10_kept_76 : decode cX10_kept 76 = .ok (.getfield 75, 3) := by decide +kernel
theorem dX10_kept_79 : decode cX10_kept 79 = .ok (.iload 6, 2) := by decide +kernel
theorem dX10_kept_81 : decode cX10_kept 81 = .ok (.invokevirtual 218, 3) := by decide +kernel
theorem dX10_kept_84 : decode cX10_kept 84 = .ok (.ifCond .eq 12, 3) := by decide +kernel
theorem dX10_kept_87 : decode cX10_kept 87 = .ok (.iload 5, 2) := by decide +kernel
theorem dX10_kept_89 : decode cX10_kept 89 = .ok (.iconst 1, 1) := by decide +kernel
theorem dX10_kept_90 : decode cX10_kept 90 = .ok (.iload 6, 2) := by decide +kernel
theorem dX10_kept_92 : decode cX10_kept 92 = .ok (.ishl, 1) := by decide +kernel
theorem dX10_kept_93 : decode cX10_kept 93 = .ok (.ior, 1) := by decide +kernel
theorem dX10_kept_94 : decode cX10_kept 94 = .ok (.istore 5, 2) := by decide +kernel
theorem dX10_kept_96 : decode cX10_kept 96 = .ok (.iinc 6 1, 3) := by decide +kernel
theorem dX10_kept_99 : decode cX10_kept 99 = .ok (.goto (-50), 3) := by decide +kernel
theorem dX10_kept_102 : decode cX10_kept 102 = .ok (.iload 5, 2) := by decide +kernel
theorem dX10_kept_104 : decode cX10_kept 104 = .ok (.ireturn, 1) := by decide +kernel
theorem dX10_road_0 : decode cX10_road 0 = .ok (.aload_n 0, 1) := by decide +kernel
theorem dX10_road_1 : decode cX10_road 1 = .ok (.iload_n 1, 1) := by decide +kernel
theorem dX10_road_2 : decode cX10_road 2 = .ok (.invokevirtual 124, 3) := by decide +kernel
theorem dX10_road_5 : decode cX10_road 5 = .ok (.astore_n 3, 1) := by decide +kernel
theorem dX10_road_6 : decode cX10_road 6 = .ok (.aload_n 3, 1) := by decide +kernel
theorem dX10_road_7 : decode cX10_road 7 = .ok (.ifnull 11, 3) := by decide +kernel
theorem dX10_road_10 : decode cX10_road 10 = .ok (.aload_n 0, 1) := by decide +kernel
theorem dX10_road_11 : decode cX10_road 11 = .ok (.iload_n 2, 1) := by decide +kernel
theorem dX10_road_12 : decode cX10_road 12 = .ok (.invokevirtual 141, 3) := by decide +kernel
theorem dX10_road_15 : decode cX10_road 15 = .ok (.ifnonnull 5, 3) := by decide +kernel
theorem dX10_road_18 : decode cX10_road 18 = .ok (.iconst (-1), 1) := by decide +kernel
theorem dX10_road_19 : decode cX10_road 19 = .ok (.ireturn, 1) := by decide +kernel
theorem dX10_road_20 : decode cX10_road 20 = .ok (.aload_n 0, 1) := by decide +kernel
theorem dX10_road_21 : decode cX10_road 21 = .ok (.getfield 57, 3) := by decide +kernel
theorem dX10_road_24 : decode cX10_road 24 = .ok (.aload_n 3, 1) := by decide +kernel
theorem dX10_road_25 : decode cX10_road 25 = .ok (.aload_n 0, 1) := by decide +kernel
theorem dX10_road_26 : decode cX10_road 26 = .ok (.getfield 50, 3) := by decide +kernel
theorem dX10_road_29 : decode cX10_road 29 = .ok (.aload_n 0, 1) := by decide +kernel
theorem dX10_road_30 : decode cX10_road 30 = .ok (.getfield 36, 3) := by decide +kernel
theorem dX10_road_33 : decode cX10_road 33 = .ok (.aload_n 0, 1) := by decide +kernel
theorem dX10_road_34 : decode cX10_road 34 = .ok (.getfield 85, 3) := by decide +kernel
theorem dX10_road_37 : decode cX10_road 37 = .ok (.invokevirtual 222, 3) := by decide +kernel
theorem dX10_road_40 : decode cX10_road 40 = .ok (.aload_n 0, 1) := by decide +kernel
theorem dX10_road_41 : decode cX10_road 41 = .ok (.getfield 57, 3) := by decide +kernel
theorem dX10_road_44 : decode cX10_road 44 = .ok (.iload_n 2, 1) := by decide +kernel
theorem dX10_road_45 : decode cX10_road 45 = .ok (.invokevirtual 226, 3) := by decide +kernel
theorem dX10_road_48 : decode cX10_road 48 = .ok (.lstore 4, 2) := by decide +kernel
theorem dX10_road_50 : decode cX10_road 50 = .ok (.lload 4, 2) := by decide +kernel
theorem dX10_road_52 : decode cX10_road 52 = .ok (.ldc2_w 230, 3) := by decide +kernel
theorem dX10_road_55 : decode cX10_road 55 = .ok (.lcmp, 1) := by decide +kernel
theorem dX10_road_56 : decode cX10_road 56 = .ok (.ifCond .ne 5, 3) := by decide +kernel
theorem dX10_road_59 : decode cX10_road 59 = .ok (.iconst (-1), 1) := by decide +kernel
theorem dX10_road_60 : decode cX10_road 60 = .ok (.ireturn, 1) := by decide +kernel
theorem dX10_road_61 : decode cX10_road 61 = .ok (.aload_n 0, 1) := by decide +kernel
theorem dX10_road_62 : decode cX10_road 62 = .ok (.lload 4, 2) := by decide +kernel
theorem dX10_road_64 : decode cX10_road 64 = .ok (.putfield 88, 3) := by decide +kernel
theorem dX10_road_67 : decode cX10_road 67 = .ok (.lload 4, 2) := by decide +kernel
theorem dX10_road_69 : decode cX10_road 69 = .ok (.invokestatic 232, 3) := by decide +kernel
theorem dX10_road_72 : decode cX10_road 72 = .ok (.ireturn, 1) := by decide +kernel
theorem dX10_step_0 : decode cX10_step 0 = .ok (.aload_n 0, 1) := by decide +kernel
theorem dX10_step_1 : decode cX10_step 1 = .ok (.getfield 88, 3) := by decide +kernel
theorem dX10_step_4 : decode cX10_step 4 = .ok (.iload_n 1, 1) := by decide +kernel
theorem dX10_step_5 : decode cX10_step 5 = .ok (.invokestatic 236, 3) := by decide +kernel
theorem dX10_step_8 : decode cX10_step 8 = .ok (.ireturn, 1) := by decide +kernel
theorem dX10_last_0 : decode cX10_last 0 = .ok (.aload_n 0, 1) := by decide +kernel
theorem dX10_last_1 : decode cX10_last 1 = .ok (.iload_n 1, 1) := by decide +kernel
theorem dX10_last_2 : decode cX10_last 2 = .ok (.invokevirtual 124, 3) := by decide +kernel
theorem dX10_last_5 : decode cX10_last 5 = .ok (.astore_n 3, 1) := by decide +kernel
theorem dX10_last_6 : decode cX10_last 6 = .ok (.aload_n 3, 1) := by decide +kernel
theorem dX10_last_7 : decode cX10_last 7 = .ok (.ifnonnull 5, 3) := by decide +kernel
theorem dX10_last_10 : decode cX10_last 10 = .ok (.iconst (-1), 1) := by decide +kernel
theorem dX10_last_11 : decode cX10_last 11 = .ok (.ireturn, 1) := by decide +kernel
theorem dX10_last_12 : decode cX10_last 12 = .ok (.aload_n 0, 1) := by decide +kernel
theorem dX10_last_13 : decode cX10_last 13 = .ok (.getfield 64, 3) := by decide +kernel
theorem dX10_last_16 : decode cX10_last 16 = .ok (.aload_n 0, 1) := by decide +kernel
theorem dX10_last_17 : decode cX10_last 17 = .ok (.getfield 43, 3) := by decide +kernel
theorem dX10_last_20 : decode cX10_last 20 = .ok (.aload_n 0, 1) := by decide +kernel
theorem dX10_last_21 : decode cX10_last 21 = .ok (.getfield 50, 3) := by decide +kernel
theorem dX10_last_24 : decode cX10_last 24 = .ok (.aload_n 0, 1) := by decide +kernel
theorem dX10_last_25 : decode cX10_last 25 = .ok (.getfield 36, 3) := by decide +kernel
theorem dX10_last_28 : decode cX10_last 28 = .ok (.iload_n 2, 1) := by decide +kernel
theorem dX10_last_29 : decode cX10_last 29 = .ok (.invokevirtual 240, 3) := by decide +kernel
theorem dX10_last_32 : decode cX10_last 32 = .ok (.aload_n 0, 1) := by decide +kernel
theorem dX10_last_33 : decode cX10_last 33 = .ok (.getfield 64, 3) := by decide +kernel
theorem dX10_last_36 : decode cX10_last 36 = .ok (.aload_n 3, 1) := by decide +kernel
theorem dX10_last_37 : decode cX10_last 37 = .ok (.getfield 169, 3) := by decide +kernel
theorem dX10_last_40 : decode cX10_last 40 = .ok (.invokevirtual 244, 3) := by decide +kernel
theorem dX10_last_43 : decode cX10_last 43 = .ok (.ireturn, 1) := by decide +kernel
theorem dX10_plan_0 : decode cX10_plan 0 = .ok (.aload_n 0, 1) := by decide +kernel
theorem dX10_plan_1 : decode cX10_plan 1 = .ok (.iload_n 1, 1) := by decide +kernel
theorem dX10_plan_2 : decode cX10_plan 2 = .ok (.invokevirtual 155, 3) := by decide +kernel
theorem dX10_plan_5 : decode cX10_plan 5 = .ok (.ifCond .ne 5, 3) := by decide +kernel
theorem dX10_plan_8 : decode cX10_plan 8 = .ok (.iconst (-1), 1) := by decide +kernel
theorem dX10_plan_9 : decode cX10_plan 9 = .ok (.ireturn, 1) := by decide +kernel
theorem dX10_plan_10 : decode cX10_plan 10 = .ok (.aload_n 0, 1) := by decide +kernel
theorem dX10_plan_11 : decode cX10_plan 11 = .ok (.getfield 43, 3) := by decide +kernel
theorem dX10_plan_14 : decode cX10_plan 14 = .ok (.aload_n 0, 1) := by decide +kernel
theorem dX10_plan_15 : decode cX10_plan 15 = .ok (.getfield 36, 3) := by decide +kernel
theorem dX10_plan_18 : decode cX10_plan 18 = .ok (.iload_n 1, 1) := by decide +kernel
theorem dX10_plan_19 : decode cX10_plan 19 = .ok (.invokevirtual 248, 3) := by decide +kernel
theorem dX10_plan_22 : decode cX10_plan 22 = .ok (.istore_n 2, 1) := by decide +kernel
theorem dX10_plan_23 : decode cX10_plan 23 = .ok (.iconst 0, 1) := by decide +kernel
theorem dX10_plan_24 : decode cX10_plan 24 = .ok (.istore_n 3, 1) := by decide +kernel
theorem dX10_plan_25 : decode cX10_plan 25 = .ok (.iconst 0, 1) := by decide +kernel
theorem dX10_plan_26 : decode cX10_plan 26 = .ok (.istore 4, 2) := by decide +kernel
theorem dX10_plan_28 : decode cX10_plan 28 = .ok (.iload 4, 2) := by decide +kernel
theorem dX10_plan_30 : decode cX10_plan 30 = .ok (.aload_n 0, 1) := by decide +kernel
theorem dX10_plan_31 : decode cX10_plan 31 = .ok (.getfield 82, 3) := by decide +kernel
theorem dX10_plan_34 : decode cX10_plan 34 = .ok (.if_icmp .ge 59, 3) := by decide +kernel
theorem dX10_plan_37 : decode cX10_plan 37 = .ok (.aload_n 0, 1) := by decide +kernel
theorem dX10_plan_38 : decode cX10_plan 38 = .ok (.getfield 29, 3) := by decide +kernel
theorem dX10_plan_41 : decode cX10_plan 41 = .ok (.iload 4, 2) := by decide +kernel
theorem dX10_plan_43 : decode cX10_plan 43 = .ok (.aaload, 1) := by decide +kernel
theorem dX10_plan_44 : decode cX10_plan 44 = .ok (.astore 5, 2) := by decide +kernel
theorem dX10_plan_46 : decode cX10_plan 46 = .ok (.aload 5, 2) := by decide +kernel
theorem dX10_plan_48 : decode cX10_plan 48 = .ok (.invokestatic 252, 3) := by decide +kernel
theorem dX10_plan_51 : decode cX10_plan 51 = .ok (.ifCond .eq 36, 3) := by decide +kernel
theorem dX10_plan_54 : decode cX10_plan 54 = .ok (.aload_n 0, 1) := by decide +kernel
theorem dX10_plan_55 : decode cX10_plan 55 = .ok (.aload 5, 2) := by decide +kernel
theorem dX10_plan_57 : decode cX10_plan 57 = .ok (.iload_n 2, 1) := by decide +kernel
theorem dX10_plan_58 : decode cX10_plan 58 = .ok (.invokevirtual 256, 3) := by decide +kernel
theorem dX10_plan_61 : decode cX10_plan 61 = .ok (.istore 6, 2) := by decide +kernel
theorem dX10_plan_63 : decode cX10_plan 63 = .ok (.iload 6, 2) := by decide +kernel
theorem dX10_plan_65 : decode cX10_plan 65 = .ok (.iconst (-1), 1) := by decide +kernel
theorem dX10_plan_66 : decode cX10_plan 66 = .ok (.if_icmp .ne 6, 3) := by decide +kernel
theorem dX10_plan_69 : decode cX10_plan 69 = .ok (.bipush (-2), 2) := by decide +kernel
theorem dX10_plan_71 : decode cX10_plan 71 = .ok (.ireturn, 1) := by decide +kernel
theorem dX10_plan_72 : decode cX10_plan 72 = .ok (.iload_n 3, 1) := by decide +kernel
theorem dX10_plan_73 : decode cX10_plan 73 = .ok (.aload_n 0, 1) := by decide +kernel
theorem dX10_plan_74 : decode cX10_plan 74 = .ok (.getfield 57, 3) := by decide +kernel
theorem dX10_plan_77 : decode cX10_plan 77 = .ok (.iload 6, 2) := by decide +kernel
theorem dX10_plan_79 : decode cX10_plan 79 = .ok (.invokevirtual 226, 3) := by decide +kernel
theorem dX10_plan_82 : decode cX10_plan 82 = .ok (.invokestatic 232, 3) := by decide +kernel
theorem dX10_plan_85 : decode cX10_plan 85 = .ok (.iadd, 1) := by decide +kernel
theorem dX10_plan_86 : decode cX10_plan 86 = .ok (.istore_n 3, 1) := by decide +kernel
theorem dX10_plan_87 : decode cX10_plan 87 = .ok (.iinc 4 1, 3) := by decide +kernel
theorem dX10_plan_90 : decode cX10_plan 90 = .ok (.goto (-62), 3) := by decide +kernel
theorem dX10_plan_93 : decode cX10_plan 93 = .ok (.iload_n 3, 1) := by decide +kernel
theorem dX10_plan_94 : decode cX10_plan 94 = .ok (.ireturn, 1) := by decide +kernel
theorem dX10_goal_0 : decode cX10_goal 0 = .ok (.aload_n 0, 1) := by decide +kernel
theorem dX10_goal_1 : decode cX10_goal 1 = .ok (.iload_n 2, 1) := by decide +kernel
theorem dX10_goal_2 : decode cX10_goal 2 = .ok (.invokevirtual 124, 3) := by decide +kernel
theorem dX10_goal_5 : decode cX10_goal 5 = .ok (.astore_n 3, 1) := by decide +kernel
theorem dX10_goal_6 : decode cX10_goal 6 = .ok (.aload_n 0, 1) := by decide +kernel
theorem dX10_goal_7 : decode cX10_goal 7 = .ok (.iload_n 1, 1) := by decide +kernel
theorem dX10_goal_8 : decode cX10_goal 8 = .ok (.invokevirtual 155, 3) := by decide +kernel
theorem dX10_goal_11 : decode cX10_goal 11 = .ok (.ifCond .eq 10, 3) := by decide +kernel
theorem dX10_goal_14 : decode cX10_goal 14 = .ok (.aload_n 3, 1) := by decide +kernel
theorem dX10_goal_15 : decode cX10_goal 15 = .ok (.invokestatic 252, 3) := by decide +kernel
theorem dX10_goal_18 : decode cX10_goal 18 = .ok (.ifCond .ne 5, 3) := by decide +kernel
theorem dX10_goal_21 : decode cX10_goal 21 = .ok (.iconst (-1), 1) := by decide +kernel
theorem dX10_goal_22 : decode cX10_goal 22 = .ok (.ireturn, 1) := by decide +kernel
theorem dX10_goal_23 : decode cX10_goal 23 = .ok (.aload_n 0, 1) := by decide +kernel
theorem dX10_goal_24 : decode cX10_goal 24 = .ok (.aload_n 3, 1) := by decide +kernel
theorem dX10_goal_25 : decode cX10_goal 25 = .ok (.aload_n 0, 1) := by decide +kernel
theorem dX10_goal_26 : decode cX10_goal 26 = .ok (.getfield 43, 3) := by decide +kernel
theorem dX10_goal_29 : decode cX10_goal 29 = .ok (.aload_n 0, 1) := by decide +kernel
theorem dX10_goal_30 : decode cX10_goal 30 = .ok (.getfield 36, 3) := by decide +kernel
theorem dX10_goal_33 : decode cX10_goal 33 = .ok (.iload_n 1, 1) := by decide +kernel
theorem dX10_goal_34 : decode cX10_goal 34 = .ok (.invokevirtual 248, 3) := by decide +kernel
theorem dX10_goal_37 : decode cX10_goal 37 = .ok (.invokevirtual 256, 3) := by decide +kernel
theorem dX10_goal_40 : decode cX10_goal 40 = .ok (.ireturn, 1) := by decide +kernel
theorem dX10_look_0 : decode cX10_look 0 = .ok (.aload_n 0, 1) := by decide +kernel
theorem dX10_look_1 : decode cX10_look 1 = .ok (.iload_n 1, 1) := by decide +kernel
theorem dX10_look_2 : decode cX10_look 2 = .ok (.invokevirtual 124, 3) := by decide +kernel
theorem dX10_look_5 : decode cX10_look 5 = .ok (.astore_n 3, 1) := by decide +kernel
theorem dX10_look_6 : decode cX10_look 6 = .ok (.aload_n 3, 1) := by decide +kernel
theorem dX10_look_7 : decode cX10_look 7 = .ok (.ifnonnull 5, 3) := by decide +kernel
theorem dX10_look_10 : decode cX10_look 10 = .ok (.iconst (-1), 1) := by decide +kernel
theorem dX10_look_11 : decode cX10_look 11 = .ok (.ireturn, 1) := by decide +kernel
theorem dX10_look_12 : decode cX10_look 12 = .ok (.iload_n 2, 1) := by decide +kernel
theorem dX10_look_13 : decode cX10_look 13 = .ok (.tableswitch 70 0 5 #[39, 45, 50, 55, 60, 65], 39) := by decide +kernel
theorem dX10_look_52 : decode cX10_look 52 = .ok (.aload_n 3, 1) := by decide +kernel
theorem dX10_look_53 : decode cX10_look 53 = .ok (.getfield 158, 3) := by decide +kernel
theorem dX10_look_56 : decode cX10_look 56 = .ok (.arraylength, 1) := by decide +kernel
theorem dX10_look_57 : decode cX10_look 57 = .ok (.ireturn, 1) := by decide +kernel
theorem dX10_look_58 : decode cX10_look 58 = .ok (.aload_n 3, 1) := by decide +kernel
theorem dX10_look_59 : decode cX10_look 59 = .ok (.getfield 260, 3) := by decide +kernel
theorem dX10_look_62 : decode cX10_look 62 = .ok (.ireturn, 1) := by decide +kernel
theorem dX10_look_63 : decode cX10_look 63 = .ok (.aload_n 3, 1) := by decide +kernel
theorem dX10_look_64 : decode cX10_look 64 = .ok (.getfield 263, 3) := by decide +kernel
theorem dX10_look_67 : decode cX10_look 67 = .ok (.ireturn, 1) := by decide +kernel
theorem dX10_look_68 : decode cX10_look 68 = .ok (.aload_n 3, 1) := by decide +kernel
theorem dX10_look_69 : decode cX10_look 69 = .ok (.getfield 128, 3) := by decide +kernel
theorem dX10_look_72 : decode cX10_look 72 = .ok (.ireturn, 1) := by decide +kernel
theorem dX10_look_73 : decode cX10_look 73 = .ok (.aload_n 3, 1) := by decide +kernel
theorem dX10_look_74 : decode cX10_look 74 = .ok (.getfield 264, 3) := by decide +kernel
theorem dX10_look_77 : decode cX10_look 77 = .ok (.ireturn, 1) := by decide +kernel
theorem dX10_look_78 : decode cX10_look 78 = .ok (.aload_n 3, 1) := by decide +kernel
theorem dX10_look_79 : decode cX10_look 79 = .ok (.getfield 209, 3) := by decide +kernel
theorem dX10_look_82 : decode cX10_look 82 = .ok (.ireturn, 1) := by decide +kernel
theorem dX10_look_83 : decode cX10_look 83 = .ok (.aload_n 3, 1) := by decide +kernel
theorem dX10_look_84 : decode cX10_look 84 = .ok (.getfield 158, 3) := by decide +kernel
theorem dX10_look_87 : decode cX10_look 87 = .ok (.iload_n 2, 1) := by decide +kernel
theorem dX10_look_88 : decode cX10_look 88 = .ok (.invokestatic 265, 3) := by decide +kernel
theorem dX10_look_91 : decode cX10_look 91 = .ok (.ireturn, 1) := by decide +kernel
theorem dX10_count_0 : decode cX10_count 0 = .ok (.iload_n 1, 1) := by decide +kernel
theorem dX10_count_1 : decode cX10_count 1 = .ok (.tableswitch 96 0 7 #[47, 52, 57, 65, 73, 78, 86, 91], 47) := by decide +kernel
theorem dX10_count_48 : decode cX10_count 48 = .ok (.aload_n 0, 1) := by decide +kernel
theorem dX10_count_49 : decode cX10_count 49 = .ok (.getfield 78, 3) := by decide +kernel
theorem dX10_count_52 : decode cX10_count 52 = .ok (.ireturn, 1) := by decide +kernel
theorem dX10_count_53 : decode cX10_count 53 = .ok (.aload_n 0, 1) := by decide +kernel
theorem dX10_count_54 : decode cX10_count 54 = .ok (.getfield 82, 3) := by decide +kernel
theorem dX10_count_57 : decode cX10_count 57 = .ok (.ireturn, 1) := by decide +kernel
theorem dX10_count_58 : decode cX10_count 58 = .ok (.aload_n 0, 1) := by decide +kernel
theorem dX10_count_59 : decode cX10_count 59 = .ok (.getfield 43, 3) := by decide +kernel
theorem dX10_count_62 : decode cX10_count 62 = .ok (.getfield 269, 3) := by decide +kernel
theorem dX10_count_65 : decode cX10_count 65 = .ok (.ireturn, 1) := by decide +kernel
theorem dX10_count_66 : decode cX10_count 66 = .ok (.aload_n 0, 1) := by decide +kernel
theorem dX10_count_67 : decode cX10_count 67 = .ok (.getfield 50, 3) := by decide +kernel
theorem dX10_count_70 : decode cX10_count 70 = .ok (.getfield 270, 3) := by decide +kernel
theorem dX10_count_73 : decode cX10_count 73 = .ok (.ireturn, 1) := by decide +kernel
theorem dX10_count_74 : decode cX10_count 74 = .ok (.aload_n 0, 1) := by decide +kernel
theorem dX10_count_75 : decode cX10_count 75 = .ok (.getfield 85, 3) := by decide +kernel
theorem dX10_count_78 : decode cX10_count 78 = .ok (.ireturn, 1) := by decide +kernel
theorem dX10_count_79 : decode cX10_count 79 = .ok (.aload_n 0, 1) := by decide +kernel
theorem dX10_count_80 : decode cX10_count 80 = .ok (.getfield 14, 3) := by decide +kernel
theorem dX10_count_83 : decode cX10_count 83 = .ok (.getfield 99, 3) := by decide +kernel
theorem dX10_count_86 : decode cX10_count 86 = .ok (.ireturn, 1) := by decide +kernel
theorem dX10_count_87 : decode cX10_count 87 = .ok (.aload_n 0, 1) := by decide +kernel
